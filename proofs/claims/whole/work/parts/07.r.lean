theorem ok5_next : okCV RX5 yX5_next 0 := by unfold okCV; decide +kernel
def f5_next  : TopS → RdS → Int32 → Option (Int32)
  | (top_tx, top_ln, top_cp, top_cq, top_sq, top_fu, top_lv, top_lt), (rd_t0, rd_rt, rd_rl, rd_rq), ra_at =>
    if rd_rl ≤ ra_at then some (-1 : Int32) else if (60 : Int32) ≤ ra_at then some (-1 : Int32) else if ra_at < 0 ∨ 60 ≤ ra_at.toNatClampNeg then none else some (top_tx ra_at.toNatClampNeg)
set_option maxHeartbeats 4000000 in
set_option maxRecDepth 100000 in
theorem b5_next {V : EV} {p : Program} {l : Launch} {e : Env} {R : Room} {s : State} {m : MethodId} {args : Array Value} {below : List Frame} {meth : Method} {c : Code} {Q : State → Prop} {A : Nat → Prop} {kc ks : Nat} {ad : Nat → Nat} {co : Nat → CoS} {mu : MuS} {fo : FoS} {tr : TrS} {ma : MaS} {mq : Nat} {mx : MxS} {top_tx : Nat → Int32} {top_ln : Int32} {top_cp : Int32} {top_cq : Nat} {top_sq : Nat} {top_fu : Int32} {top_lv : Int32} {top_lt : Int32} {rd_t0 : Nat → Int32} {rd_rl : Int32} {rd_rq : Nat} {ra_at : Int32}  {res : Int32} (C : CX V p l R s m args c A kc ks RX5 cX5_next 1 0 0) (hf : f5_next (top_tx, top_ln, top_cp, top_cq, top_sq, top_fu, top_lv, top_lt) (rd_t0, 1, rd_rl, rd_rq) ra_at = some res) (K : RI V p l e R s m args below meth c Q A kc ks 1 cX5_next .int res (wC V ad (top_tx, top_ln, top_cp, top_cq, top_sq, top_fu, top_lv, top_lt) (rd_t0, 1, rd_rl, rd_rq) ra_at co mu fo tr ma mq mx)) : WC V p l e R s m args below meth c Q A kc ks 1 (wC V ad (top_tx, top_ln, top_cp, top_cq, top_sq, top_fu, top_lv, top_lt) (rd_t0, 1, rd_rl, rd_rq) ra_at co mu fo tr ma mq mx) 0 [(0, .ref (ad 2))] [] := by
  rw [f5_next] at hf
  refine k_aload_n C dX5_next_0 0 rfl ?_
  refine g5_19 C dX5_next_1 ?_
  refine k_aload_n C dX5_next_4 0 rfl ?_
  refine g5_15 C dX5_next_5 ?_
  refine k_icmp_ge C 35 dX5_next_8 (by decide) (fun hc => ?_) (fun hc => ?_)
  · replace hf := (if_pos hc).symm.trans hf
    refine k_iconst (v := (-1 : Int32)) C dX5_next_35 (by decide) ?_
    cases hf
    exact K _ _ dX5_next_36 rfl
  · replace hf := (if_neg hc).symm.trans hf
    refine k_aload_n C dX5_next_11 0 rfl ?_
    refine g5_19 C dX5_next_12 ?_
    refine k_aload_n C dX5_next_15 0 rfl ?_
    refine g5_9 C dX5_next_16 ?_
    refine k_alen C 1 1 rfl rfl dX5_next_19 ?_
    refine k_icmp_ge C 35 dX5_next_20 (by decide) (fun hc => ?_) (fun hc => ?_)
    · replace hf := (if_pos hc).symm.trans hf
      refine k_iconst (v := (-1 : Int32)) C dX5_next_35 (by decide) ?_
      cases hf
      exact K _ _ dX5_next_36 rfl
    · replace hf := (if_neg hc).symm.trans hf
      refine k_aload_n C dX5_next_23 0 rfl ?_
      refine g5_9 C dX5_next_24 ?_
      refine k_aload_n C dX5_next_27 0 rfl ?_
      refine g5_19 C dX5_next_28 ?_
      obtain ⟨hi, hf⟩ := gd_no hf
      refine lc1 C hi dX5_next_31 ?_
      refine k_goto C 36 dX5_next_32 (by decide) ?_
      cases hf
      exact K _ _ dX5_next_36 rfl
theorem c5_next {V : EV} {l : Launch} (hl0 : l.stackTraces = false) {ad : Nat → Nat} {co : Nat → CoS} {mu : MuS} {fo : FoS} {tr : TrS} {ma : MaS} {mq : Nat} {mx : MxS} {top_tx : Nat → Int32} {top_ln : Int32} {top_cp : Int32} {top_cq : Nat} {top_sq : Nat} {top_fu : Int32} {top_lv : Int32} {top_lt : Int32} {rd_t0 : Nat → Int32} {rd_rl : Int32} {rd_rq : Nat} {ra_at : Int32}  {res : Int32} (hf : f5_next (top_tx, top_ln, top_cp, top_cq, top_sq, top_fu, top_lv, top_lt) (rd_t0, 1, rd_rl, rd_rq) ra_at = some res) : MI V l yX5_next cX5_next 1 .int 0 0 [.ref (ad 2)] (wC V ad (top_tx, top_ln, top_cp, top_cq, top_sq, top_fu, top_lv, top_lt) (rd_t0, 1, rd_rl, rd_rq) ra_at co mu fo tr ma mq mx) res (wC V ad (top_tx, top_ln, top_cp, top_cq, top_sq, top_fu, top_lv, top_lt) (rd_t0, 1, rd_rl, rd_rq) ra_at co mu fo tr ma mq mx) :=
  mi_of hl0 (by decide +kernel) (Nat.le_of_ble_eq_true rfl) (fun p e R s m args below meth c Q A C K => b5_next C hf K)

theorem cm5_46 : ∀ a ∈ wsCV RX5 46 RX5 yX5_next cX5_next 1 (some .int), a ∈ GW := by
  unfold wsCV
  exact (List.forall_mem_cons.mpr ⟨(gw_2 (i := 102) (by decide +kernel) rfl), (List.forall_mem_cons.mpr ⟨(gw_2 (i := 104) (by decide +kernel) rfl), (List.forall_mem_cons.mpr ⟨(gw_p (q := ((yX5_next, 4) : MethodName × Nat)) (List.mem_append_left _ (List.mem_of_getElem? (i := 1) (by decide +kernel))) rfl), (List.forall_mem_cons.mpr ⟨(gw_1 (i := 2) (by decide +kernel) rfl), (List.forall_mem_cons.mpr ⟨(gw_2 (i := 105) (by decide +kernel) rfl), (List.forall_mem_nil _)⟩)⟩)⟩)⟩)⟩)
theorem cm5_50 : ∀ a ∈ wsCV RX5 50 "java/lang/String" yJ0_indexOf_0f7a4 cJ0_indexOf_0f7a4 2 (some .int), a ∈ GW := by
  unfold wsCV
  exact (List.forall_mem_cons.mpr ⟨(gw_2 (i := 239) (by decide +kernel) rfl), (List.forall_mem_cons.mpr ⟨(gw_3 (i := 0) (by decide +kernel) rfl), (List.forall_mem_cons.mpr ⟨(gw_3 (i := 1) (by decide +kernel) rfl), (List.forall_mem_cons.mpr ⟨(gw_1 (i := 14) (by decide +kernel) rfl), (List.forall_mem_cons.mpr ⟨(gw_3 (i := 2) (by decide +kernel) rfl), (List.forall_mem_nil _)⟩)⟩)⟩)⟩)⟩)
theorem ok5_nextIsOneOf : okCV RX5 yX5_nextIsOneOf 1 := by unfold okCV; decide +kernel
def f5_nextIsOneOf (sj : Nat) : TopS → RdS → Int32 → Option (Int32)
  | (top_tx, top_ln, top_cp, top_cq, top_sq, top_fu, top_lv, top_lt), (rd_t0, rd_rt, rd_rl, rd_rq), ra_at =>
    (f5_next (top_tx, top_ln, top_cp, top_cq, top_sq, top_fu, top_lv, top_lt) (rd_t0, 1, rd_rl, rd_rq) ra_at).bind fun r_2 => if r_2 = (-1 : Int32) then some (0 : Int32) else if (strIx sj ((r_2.toUInt32 % 65536).toInt32)) < 0 then some (0 : Int32) else some (1 : Int32)
set_option maxHeartbeats 4000000 in
set_option maxRecDepth 100000 in
theorem b5_nextIsOneOf {V : EV} {p : Program} {l : Launch} {e : Env} {R : Room} {s : State} {m : MethodId} {args : Array Value} {below : List Frame} {meth : Method} {c : Code} {Q : State → Prop} {A : Nat → Prop} {kc ks : Nat} {ad : Nat → Nat} {co : Nat → CoS} {mu : MuS} {fo : FoS} {tr : TrS} {ma : MaS} {mq : Nat} {mx : MxS} {top_tx : Nat → Int32} {top_ln : Int32} {top_cp : Int32} {top_cq : Nat} {top_sq : Nat} {top_fu : Int32} {top_lv : Int32} {top_lt : Int32} {rd_t0 : Nat → Int32} {rd_rl : Int32} {rd_rq : Nat} {ra_at : Int32} {sj : Nat} {res : Int32} (C : CX V p l R s m args c A kc ks RX5 cX5_nextIsOneOf 3 5 151) (hs : sj < 6) (hf : f5_nextIsOneOf sj (top_tx, top_ln, top_cp, top_cq, top_sq, top_fu, top_lv, top_lt) (rd_t0, 1, rd_rl, rd_rq) ra_at = some res) (K : RI V p l e R s m args below meth c Q A kc ks 3 cX5_nextIsOneOf .boolean res (wC V ad (top_tx, top_ln, top_cp, top_cq, top_sq, top_fu, top_lv, top_lt) (rd_t0, 1, rd_rl, rd_rq) ra_at co mu fo tr ma mq mx)) : WC V p l e R s m args below meth c Q A kc ks 3 (wC V ad (top_tx, top_ln, top_cp, top_cq, top_sq, top_fu, top_lv, top_lt) (rd_t0, 1, rd_rl, rd_rq) ra_at co mu fo tr ma mq mx) 0 [(0, .ref (ad 2)), (1, .ref (V.2.2.1 sj))] [] := by
  rw [f5_nextIsOneOf] at hf
  refine k_aload_n C dX5_nextIsOneOf_0 0 rfl ?_
  obtain ⟨r_2, hq_1, hf⟩ := ob_el hf
  refine k_callVi C (c5_next C.2.2.2.2.2.2.2.2.2.1 hq_1) cm5_46 ok5_next (by decide) 2 rfl rfl rfl rfl (Nat.le_of_ble_eq_true rfl) dX5_nextIsOneOf_1 ?_
  refine k_istore_n C dX5_nextIsOneOf_4 [(2, .int r_2), (0, .ref (ad 2)), (1, .ref (V.2.2.1 sj))] (by decide) rfl ?_
  refine k_iload_n C dX5_nextIsOneOf_5 0 rfl ?_
  refine k_iconst (v := (-1 : Int32)) C dX5_nextIsOneOf_6 (by decide) ?_
  refine k_icmp_eq C 23 dX5_nextIsOneOf_7 (by decide) (fun hc => ?_) (fun hc => ?_)
  · replace hf := (if_pos hc).symm.trans hf
    refine k_iconst (v := (0 : Int32)) C dX5_nextIsOneOf_23 (by decide) ?_
    cases hf
    exact K _ _ dX5_nextIsOneOf_24 (nar_b (Or.inl rfl))
  · replace hf := (if_neg hc).symm.trans hf
    refine k_aload_n C dX5_nextIsOneOf_10 2 rfl ?_
    refine k_iload_n C dX5_nextIsOneOf_11 0 rfl ?_
    refine k_i2c C dX5_nextIsOneOf_12 ?_
    refine k_strIx C hs cm5_50 (by decide) (Nat.le_of_ble_eq_true rfl) dX5_nextIsOneOf_13 ?_
    refine k_if_lt C 23 dX5_nextIsOneOf_16 (by decide) (fun hc => ?_) (fun hc => ?_)
    · replace hf := (if_pos hc).symm.trans hf
      refine k_iconst (v := (0 : Int32)) C dX5_nextIsOneOf_23 (by decide) ?_
      cases hf
      exact K _ _ dX5_nextIsOneOf_24 (nar_b (Or.inl rfl))
    · replace hf := (if_neg hc).symm.trans hf
      refine k_iconst (v := (1 : Int32)) C dX5_nextIsOneOf_19 (by decide) ?_
      refine k_goto C 24 dX5_nextIsOneOf_20 (by decide) ?_
      cases hf
      exact K _ _ dX5_nextIsOneOf_24 (nar_b (Or.inr rfl))
theorem c5_nextIsOneOf {V : EV} {l : Launch} (hl0 : l.stackTraces = false) {ad : Nat → Nat} {co : Nat → CoS} {mu : MuS} {fo : FoS} {tr : TrS} {ma : MaS} {mq : Nat} {mx : MxS} {top_tx : Nat → Int32} {top_ln : Int32} {top_cp : Int32} {top_cq : Nat} {top_sq : Nat} {top_fu : Int32} {top_lv : Int32} {top_lt : Int32} {rd_t0 : Nat → Int32} {rd_rl : Int32} {rd_rq : Nat} {ra_at : Int32} {sj : Nat} {res : Int32} (hs : sj < 6) (hf : f5_nextIsOneOf sj (top_tx, top_ln, top_cp, top_cq, top_sq, top_fu, top_lv, top_lt) (rd_t0, 1, rd_rl, rd_rq) ra_at = some res) : MI V l yX5_nextIsOneOf cX5_nextIsOneOf 3 .boolean 5 151 [.ref (ad 2), .ref (V.2.2.1 sj)] (wC V ad (top_tx, top_ln, top_cp, top_cq, top_sq, top_fu, top_lv, top_lt) (rd_t0, 1, rd_rl, rd_rq) ra_at co mu fo tr ma mq mx) res (wC V ad (top_tx, top_ln, top_cp, top_cq, top_sq, top_fu, top_lv, top_lt) (rd_t0, 1, rd_rl, rd_rq) ra_at co mu fo tr ma mq mx) :=
  mi_of hl0 (by decide +kernel) (Nat.le_of_ble_eq_true rfl) (fun p e R s m args below meth c Q A C K => b5_nextIsOneOf C hs hf K)

theorem ok5_nextIsDigit : okCV RX5 yX5_nextIsDigit 0 := by unfold okCV; decide +kernel
def f5_nextIsDigit  : TopS → RdS → Int32 → Option (Int32)
  | (top_tx, top_ln, top_cp, top_cq, top_sq, top_fu, top_lv, top_lt), (rd_t0, rd_rt, rd_rl, rd_rq), ra_at =>
    (f5_next (top_tx, top_ln, top_cp, top_cq, top_sq, top_fu, top_lv, top_lt) (rd_t0, 1, rd_rl, rd_rq) ra_at).bind fun r_2 => if r_2 < (48 : Int32) then some (0 : Int32) else (f5_next (top_tx, top_ln, top_cp, top_cq, top_sq, top_fu, top_lv, top_lt) (rd_t0, 1, rd_rl, rd_rq) ra_at).bind fun r_4 => if (57 : Int32) < r_4 then some (0 : Int32) else some (1 : Int32)
set_option maxHeartbeats 4000000 in
set_option maxRecDepth 100000 in
theorem b5_nextIsDigit {V : EV} {p : Program} {l : Launch} {e : Env} {R : Room} {s : State} {m : MethodId} {args : Array Value} {below : List Frame} {meth : Method} {c : Code} {Q : State → Prop} {A : Nat → Prop} {kc ks : Nat} {ad : Nat → Nat} {co : Nat → CoS} {mu : MuS} {fo : FoS} {tr : TrS} {ma : MaS} {mq : Nat} {mx : MxS} {top_tx : Nat → Int32} {top_ln : Int32} {top_cp : Int32} {top_cq : Nat} {top_sq : Nat} {top_fu : Int32} {top_lv : Int32} {top_lt : Int32} {rd_t0 : Nat → Int32} {rd_rl : Int32} {rd_rq : Nat} {ra_at : Int32}  {res : Int32} (C : CX V p l R s m args c A kc ks RX5 cX5_nextIsDigit 1 1 20) (hf : f5_nextIsDigit (top_tx, top_ln, top_cp, top_cq, top_sq, top_fu, top_lv, top_lt) (rd_t0, 1, rd_rl, rd_rq) ra_at = some res) (K : RI V p l e R s m args below meth c Q A kc ks 1 cX5_nextIsDigit .boolean res (wC V ad (top_tx, top_ln, top_cp, top_cq, top_sq, top_fu, top_lv, top_lt) (rd_t0, 1, rd_rl, rd_rq) ra_at co mu fo tr ma mq mx)) : WC V p l e R s m args below meth c Q A kc ks 1 (wC V ad (top_tx, top_ln, top_cp, top_cq, top_sq, top_fu, top_lv, top_lt) (rd_t0, 1, rd_rl, rd_rq) ra_at co mu fo tr ma mq mx) 0 [(0, .ref (ad 2))] [] := by
  rw [f5_nextIsDigit] at hf
  refine k_aload_n C dX5_nextIsDigit_0 0 rfl ?_
  obtain ⟨r_2, hq_1, hf⟩ := ob_el hf
  refine k_callVi C (c5_next C.2.2.2.2.2.2.2.2.2.1 hq_1) cm5_46 ok5_next (by decide) 2 rfl rfl rfl rfl (Nat.le_of_ble_eq_true rfl) dX5_nextIsDigit_1 ?_
  refine k_bipush (v := (48 : Int32)) C dX5_nextIsDigit_4 (by decide) ?_
  refine k_icmp_lt C 22 dX5_nextIsDigit_6 (by decide) (fun hc => ?_) (fun hc => ?_)
  · replace hf := (if_pos hc).symm.trans hf
    refine k_iconst (v := (0 : Int32)) C dX5_nextIsDigit_22 (by decide) ?_
    cases hf
    exact K _ _ dX5_nextIsDigit_23 (nar_b (Or.inl rfl))
  · replace hf := (if_neg hc).symm.trans hf
    refine k_aload_n C dX5_nextIsDigit_9 0 rfl ?_
    obtain ⟨r_4, hq_3, hf⟩ := ob_el hf
    refine k_callVi C (c5_next C.2.2.2.2.2.2.2.2.2.1 hq_3) cm5_46 ok5_next (by decide) 2 rfl rfl rfl rfl (Nat.le_of_ble_eq_true rfl) dX5_nextIsDigit_10 ?_
    refine k_bipush (v := (57 : Int32)) C dX5_nextIsDigit_13 (by decide) ?_
    refine k_icmp_gt C 22 dX5_nextIsDigit_15 (by decide) (fun hc => ?_) (fun hc => ?_)
    · replace hf := (if_pos hc).symm.trans hf
      refine k_iconst (v := (0 : Int32)) C dX5_nextIsDigit_22 (by decide) ?_
      cases hf
      exact K _ _ dX5_nextIsDigit_23 (nar_b (Or.inl rfl))
    · replace hf := (if_neg hc).symm.trans hf
      refine k_iconst (v := (1 : Int32)) C dX5_nextIsDigit_18 (by decide) ?_
      refine k_goto C 23 dX5_nextIsDigit_19 (by decide) ?_
      cases hf
      exact K _ _ dX5_nextIsDigit_23 (nar_b (Or.inr rfl))
theorem c5_nextIsDigit {V : EV} {l : Launch} (hl0 : l.stackTraces = false) {ad : Nat → Nat} {co : Nat → CoS} {mu : MuS} {fo : FoS} {tr : TrS} {ma : MaS} {mq : Nat} {mx : MxS} {top_tx : Nat → Int32} {top_ln : Int32} {top_cp : Int32} {top_cq : Nat} {top_sq : Nat} {top_fu : Int32} {top_lv : Int32} {top_lt : Int32} {rd_t0 : Nat → Int32} {rd_rl : Int32} {rd_rq : Nat} {ra_at : Int32}  {res : Int32} (hf : f5_nextIsDigit (top_tx, top_ln, top_cp, top_cq, top_sq, top_fu, top_lv, top_lt) (rd_t0, 1, rd_rl, rd_rq) ra_at = some res) : MI V l yX5_nextIsDigit cX5_nextIsDigit 1 .boolean 1 20 [.ref (ad 2)] (wC V ad (top_tx, top_ln, top_cp, top_cq, top_sq, top_fu, top_lv, top_lt) (rd_t0, 1, rd_rl, rd_rq) ra_at co mu fo tr ma mq mx) res (wC V ad (top_tx, top_ln, top_cp, top_cq, top_sq, top_fu, top_lv, top_lt) (rd_t0, 1, rd_rl, rd_rq) ra_at co mu fo tr ma mq mx) :=
  mi_of hl0 (by decide +kernel) (Nat.le_of_ble_eq_true rfl) (fun p e R s m args below meth c Q A C K => b5_nextIsDigit C hf K)

theorem cm5_63 : ∀ a ∈ wsCV RX5 63 RX0 yX0_add cX0_add 4 (some .int), a ∈ GW := by
  unfold wsCV
  exact (List.forall_mem_cons.mpr ⟨(gw_2 (i := 110) (by decide +kernel) rfl), (List.forall_mem_cons.mpr ⟨(gw_2 (i := 111) (by decide +kernel) rfl), (List.forall_mem_cons.mpr ⟨(gw_2 (i := 112) (by decide +kernel) rfl), (List.forall_mem_cons.mpr ⟨(gw_1 (i := 3) (by decide +kernel) rfl), (List.forall_mem_cons.mpr ⟨(gw_2 (i := 113) (by decide +kernel) rfl), (List.forall_mem_nil _)⟩)⟩)⟩)⟩)⟩)
theorem ok5_decide : okCV RX5 yX5_decide 0 := by unfold okCV; decide +kernel
def f5_decide  : TopS → RdS → Int32 → CoS → Option (Int32 × Int32 × CoS)
  | (top_tx, top_ln, top_cp, top_cq, top_sq, top_fu, top_lv, top_lt), (rd_t0, rd_rt, rd_rl, rd_rq), ra_at, (cs_cw, cs_ce, cs_cn, cs_cj, cs_cz) =>
    (f5_next (top_tx, top_ln, top_cp, top_cq, top_sq, top_fu, top_lv, top_lt) (rd_t0, 1, rd_rl, rd_rq) ra_at).bind fun r_2 => (f0_add (2 : Int32) ra_at r_2 (cs_cw, cs_ce, cs_cn, cs_cj, cs_cz)).bind fun (r_4, (cs_cw_5, cs_ce_6, cs_cn_7, cs_cj_8, cs_cz_9)) => some (r_4, (ra_at + (1 : Int32)), (cs_cw_5, cs_ce_6, cs_cn_7, cs_cj_8, cs_cz_9))
set_option maxHeartbeats 4000000 in
set_option maxRecDepth 100000 in
theorem b5_decide {V : EV} {p : Program} {l : Launch} {e : Env} {R : Room} {s : State} {m : MethodId} {args : Array Value} {below : List Frame} {meth : Method} {c : Code} {Q : State → Prop} {A : Nat → Prop} {kc ks : Nat} {ad : Nat → Nat} {co : Nat → CoS} {mu : MuS} {fo : FoS} {tr : TrS} {ma : MaS} {mq : Nat} {mx : MxS} {top_tx : Nat → Int32} {top_ln : Int32} {top_cp : Int32} {top_cq : Nat} {top_sq : Nat} {top_fu : Int32} {top_lv : Int32} {top_lt : Int32} {rd_t0 : Nat → Int32} {rd_rl : Int32} {rd_rq : Nat} {ra_at : Int32} {cs_cw : Nat → Int32} {cs_ce : Nat → Int32} {cs_cn : Nat → Int32} {cs_cj : Nat → Int32} {cs_cz : Int32} {res : Int32 × Int32 × CoS} (C : CX V p l R s m args c A kc ks RX5 cX5_decide 2 1 23) (hq : rd_rq < 4) (hf : f5_decide (top_tx, top_ln, top_cp, top_cq, top_sq, top_fu, top_lv, top_lt) (rd_t0, 1, rd_rl, rd_rq) ra_at (cs_cw, cs_ce, cs_cn, cs_cj, cs_cz) = some res) (K : RI V p l e R s m args below meth c Q A kc ks 2 cX5_decide .int res.1 (wC V ad (top_tx, top_ln, top_cp, top_cq, top_sq, top_fu, top_lv, top_lt) (rd_t0, 1, rd_rl, rd_rq) res.2.1 (updC co rd_rq res.2.2) mu fo tr ma mq mx)) : WC V p l e R s m args below meth c Q A kc ks 2 (wC V ad (top_tx, top_ln, top_cp, top_cq, top_sq, top_fu, top_lv, top_lt) (rd_t0, 1, rd_rl, rd_rq) ra_at (updC co rd_rq (cs_cw, cs_ce, cs_cn, cs_cj, cs_cz)) mu fo tr ma mq mx) 0 [(0, .ref (ad 2))] [] := by
  rw [f5_decide] at hf
  refine k_aload_n C dX5_decide_0 0 rfl ?_
  refine g5_25 C dX5_decide_1 ?_
  refine k_iconst (v := (2 : Int32)) C dX5_decide_4 (by decide) ?_
  refine k_aload_n C dX5_decide_5 0 rfl ?_
  refine g5_19 C dX5_decide_6 ?_
  refine k_aload_n C dX5_decide_9 0 rfl ?_
  obtain ⟨r_2, hq_1, hf⟩ := ob_el hf
  refine k_callVi C (c5_next C.2.2.2.2.2.2.2.2.2.1 hq_1) cm5_46 ok5_next (by decide) 2 rfl rfl rfl rfl (Nat.le_of_ble_eq_true rfl) dX5_decide_10 ?_
  obtain ⟨⟨r_4, ⟨cs_cw_5, cs_ce_6, cs_cn_7, cs_cj_8, cs_cz_9⟩⟩, hq_3, hf⟩ := ob_el hf
  dsimp only at hf
  refine k_callCi C hq (c0_add C.2.2.2.2.2.2.2.2.2.1 hq hq_3) cm5_63 ok0_add (by decide) rfl rfl (Nat.le_of_ble_eq_true rfl) dX5_decide_13 ?_
  refine k_istore_n C dX5_decide_16 [(1, .int r_4), (0, .ref (ad 2))] (by decide) rfl ?_
  refine k_aload_n C dX5_decide_17 1 rfl ?_
  refine k_dup C dX5_decide_18 rfl ?_
  refine g5_19 C dX5_decide_19 ?_
  refine k_iconst (v := (1 : Int32)) C dX5_decide_22 (by decide) ?_
  refine k_iadd C dX5_decide_23 ?_
  refine p5_19 C dX5_decide_24 ?_
  refine k_iload_n C dX5_decide_27 0 rfl ?_
  cases hf
  exact K _ _ dX5_decide_28 rfl
theorem c5_decide {V : EV} {l : Launch} (hl0 : l.stackTraces = false) {ad : Nat → Nat} {co : Nat → CoS} {mu : MuS} {fo : FoS} {tr : TrS} {ma : MaS} {mq : Nat} {mx : MxS} {top_tx : Nat → Int32} {top_ln : Int32} {top_cp : Int32} {top_cq : Nat} {top_sq : Nat} {top_fu : Int32} {top_lv : Int32} {top_lt : Int32} {rd_t0 : Nat → Int32} {rd_rl : Int32} {rd_rq : Nat} {ra_at : Int32} {cs_cw : Nat → Int32} {cs_ce : Nat → Int32} {cs_cn : Nat → Int32} {cs_cj : Nat → Int32} {cs_cz : Int32} {res : Int32 × Int32 × CoS} (hq : rd_rq < 4) (hf : f5_decide (top_tx, top_ln, top_cp, top_cq, top_sq, top_fu, top_lv, top_lt) (rd_t0, 1, rd_rl, rd_rq) ra_at (cs_cw, cs_ce, cs_cn, cs_cj, cs_cz) = some res) : MI V l yX5_decide cX5_decide 2 .int 1 23 [.ref (ad 2)] (wC V ad (top_tx, top_ln, top_cp, top_cq, top_sq, top_fu, top_lv, top_lt) (rd_t0, 1, rd_rl, rd_rq) ra_at (updC co rd_rq (cs_cw, cs_ce, cs_cn, cs_cj, cs_cz)) mu fo tr ma mq mx) res.1 (wC V ad (top_tx, top_ln, top_cp, top_cq, top_sq, top_fu, top_lv, top_lt) (rd_t0, 1, rd_rl, rd_rq) res.2.1 (updC co rd_rq res.2.2) mu fo tr ma mq mx) :=
  mi_of hl0 (by decide +kernel) (Nat.le_of_ble_eq_true rfl) (fun p e R s m args below meth c Q A C K => b5_decide C hq hf K)

theorem cm5_86 : ∀ a ∈ wsCV RX5 86 RX0 yX0_jumpHere cX0_jumpHere 2 none, a ∈ GW := by
  unfold wsCV
  exact (List.forall_mem_cons.mpr ⟨(gw_3 (i := 96) (by decide +kernel) rfl), (List.forall_mem_cons.mpr ⟨(gw_3 (i := 97) (by decide +kernel) rfl), (List.forall_mem_cons.mpr ⟨(gw_3 (i := 98) (by decide +kernel) rfl), (List.forall_mem_cons.mpr ⟨(gw_1 (i := 3) (by decide +kernel) rfl), (List.forall_mem_cons.mpr ⟨(gw_3 (i := 99) (by decide +kernel) rfl), (List.forall_mem_nil _)⟩)⟩)⟩)⟩)⟩)
theorem ok5_join : okCV RX5 yX5_join 1 := by unfold okCV; decide +kernel
def f5_join (v1 : Int32) : RdS → CoS → Option (CoS)
  | (rd_t0, rd_rt, rd_rl, rd_rq), (cs_cw, cs_ce, cs_cn, cs_cj, cs_cz) =>
    if v1 < 0 ∨ 80 ≤ v1.toNatClampNeg then none else if v1 < 0 ∨ 80 ≤ v1.toNatClampNeg then none else (f0_add (6 : Int32) (cs_ce v1.toNatClampNeg) (cs_cn v1.toNatClampNeg) (cs_cw, cs_ce, cs_cn, cs_cj, cs_cz)).bind fun (r_2, (cs_cw_3, cs_ce_4, cs_cn_5, cs_cj_6, cs_cz_7)) => (f0_jumpHere v1 (cs_cw_3, cs_ce_4, cs_cn_5, cs_cj_6, cs_cz_7)).bind fun (cs_cw_9, cs_ce_10, cs_cn_11, cs_cj_12, cs_cz_13) => some (cs_cw_9, cs_ce_10, cs_cn_11, cs_cj_12, cs_cz_13)
set_option maxHeartbeats 4000000 in
set_option maxRecDepth 100000 in
theorem b5_join {V : EV} {p : Program} {l : Launch} {e : Env} {R : Room} {s : State} {m : MethodId} {args : Array Value} {below : List Frame} {meth : Method} {c : Code} {Q : State → Prop} {A : Nat → Prop} {kc ks : Nat} {ad : Nat → Nat} {top : TopS} {ra : Int32} {co : Nat → CoS} {mu : MuS} {fo : FoS} {tr : TrS} {ma : MaS} {mq : Nat} {mx : MxS} {rd_t0 : Nat → Int32} {rd_rl : Int32} {rd_rq : Nat} {v1 : Int32} {cs_cw : Nat → Int32} {cs_ce : Nat → Int32} {cs_cn : Nat → Int32} {cs_cj : Nat → Int32} {cs_cz : Int32} {res : CoS} (C : CX V p l R s m args c A kc ks RX5 cX5_join 2 1 23) (hq : rd_rq < 4) (hf : f5_join v1 (rd_t0, 1, rd_rl, rd_rq) (cs_cw, cs_ce, cs_cn, cs_cj, cs_cz) = some res) (K : RV V p l e R s m args below meth c Q A kc ks 2 cX5_join (wC V ad top (rd_t0, 1, rd_rl, rd_rq) ra (updC co rd_rq res) mu fo tr ma mq mx)) : WC V p l e R s m args below meth c Q A kc ks 2 (wC V ad top (rd_t0, 1, rd_rl, rd_rq) ra (updC co rd_rq (cs_cw, cs_ce, cs_cn, cs_cj, cs_cz)) mu fo tr ma mq mx) 0 [(0, .ref (ad 2)), (1, .int v1)] [] := by
  rw [f5_join] at hf
  refine k_aload_n C dX5_join_0 0 rfl ?_
  refine g5_25 C dX5_join_1 ?_
  refine k_bipush (v := (6 : Int32)) C dX5_join_4 (by decide) ?_
  refine k_aload_n C dX5_join_6 0 rfl ?_
  refine g5_25 C dX5_join_7 ?_
  refine g5_115 C hq dX5_join_10 ?_
  refine k_iload_n C dX5_join_13 1 rfl ?_
  obtain ⟨hi, hf⟩ := gd_no hf
  refine lk1 C hq hi dX5_join_14 ?_
  refine k_aload_n C dX5_join_15 0 rfl ?_
  refine g5_25 C dX5_join_16 ?_
  refine g5_118 C hq dX5_join_19 ?_
  refine k_iload_n C dX5_join_22 1 rfl ?_
  obtain ⟨hi, hf⟩ := gd_no hf
  refine lk2 C hq hi dX5_join_23 ?_
  obtain ⟨⟨r_2, ⟨cs_cw_3, cs_ce_4, cs_cn_5, cs_cj_6, cs_cz_7⟩⟩, hq_1, hf⟩ := ob_el hf
  dsimp only at hf
  refine k_callCi C hq (c0_add C.2.2.2.2.2.2.2.2.2.1 hq hq_1) cm5_63 ok0_add (by decide) rfl rfl (Nat.le_of_ble_eq_true rfl) dX5_join_24 ?_
  refine k_pop C dX5_join_27 rfl ?_
  refine k_aload_n C dX5_join_28 0 rfl ?_
  refine g5_25 C dX5_join_29 ?_
  refine k_iload_n C dX5_join_32 1 rfl ?_
  obtain ⟨⟨cs_cw_9, cs_ce_10, cs_cn_11, cs_cj_12, cs_cz_13⟩, hq_8, hf⟩ := ob_el hf
  dsimp only at hf
  refine k_callCv C hq (c0_jumpHere C.2.2.2.2.2.2.2.2.2.1 hq hq_8) cm5_86 ok0_jumpHere (by decide) rfl rfl (Nat.le_of_ble_eq_true rfl) dX5_join_33 ?_
  cases hf
  exact K _ _ dX5_join_36
theorem c5_join {V : EV} {l : Launch} (hl0 : l.stackTraces = false) {ad : Nat → Nat} {top : TopS} {ra : Int32} {co : Nat → CoS} {mu : MuS} {fo : FoS} {tr : TrS} {ma : MaS} {mq : Nat} {mx : MxS} {rd_t0 : Nat → Int32} {rd_rl : Int32} {rd_rq : Nat} {v1 : Int32} {cs_cw : Nat → Int32} {cs_ce : Nat → Int32} {cs_cn : Nat → Int32} {cs_cj : Nat → Int32} {cs_cz : Int32} {res : CoS} (hq : rd_rq < 4) (hf : f5_join v1 (rd_t0, 1, rd_rl, rd_rq) (cs_cw, cs_ce, cs_cn, cs_cj, cs_cz) = some res) : MV V l yX5_join cX5_join 2 1 23 [.ref (ad 2), .int v1] (wC V ad top (rd_t0, 1, rd_rl, rd_rq) ra (updC co rd_rq (cs_cw, cs_ce, cs_cn, cs_cj, cs_cz)) mu fo tr ma mq mx) (wC V ad top (rd_t0, 1, rd_rl, rd_rq) ra (updC co rd_rq res) mu fo tr ma mq mx) :=
  mv_of hl0 (by decide +kernel) (Nat.le_of_ble_eq_true rfl) (fun p e R s m args below meth c Q A C K => b5_join C hq hf K)

theorem cm5_137 : ∀ a ∈ wsCV RX5 137 RX5 yX5_nextIsDigit cX5_nextIsDigit 1 (some .boolean), a ∈ GW := by
  unfold wsCV
  exact (List.forall_mem_cons.mpr ⟨(gw_2 (i := 222) (by decide +kernel) rfl), (List.forall_mem_cons.mpr ⟨(gw_2 (i := 224) (by decide +kernel) rfl), (List.forall_mem_cons.mpr ⟨(gw_p (q := ((yX5_nextIsDigit, 4) : MethodName × Nat)) (List.mem_append_left _ (List.mem_of_getElem? (i := 14) (by decide +kernel))) rfl), (List.forall_mem_cons.mpr ⟨(gw_1 (i := 2) (by decide +kernel) rfl), (List.forall_mem_cons.mpr ⟨(gw_2 (i := 225) (by decide +kernel) rfl), (List.forall_mem_nil _)⟩)⟩)⟩)⟩)⟩)
theorem ok5_constant : okCV RX5 yX5_constant 0 := by unfold okCV; decide +kernel
def f5_constant_L57   (top_tx : Nat → Int32) (top_ln : Int32) (top_cp : Int32) (top_cq : Nat) (top_sq : Nat) (top_fu : Int32) (top_lv : Int32) (top_lt : Int32) (rd_t0 : Nat → Int32) (rd_rt : Nat) (rd_rl : Int32) (rd_rq : Nat) : Int32 → Int32 → Int32 → CoS → Option (Int32 × CoS)
  | x1, x2, ra_at, (cs_cw, cs_ce, cs_cn, cs_cj, cs_cz) =>
    (f0_add (3 : Int32) x1 x2 (cs_cw, cs_ce, cs_cn, cs_cj, cs_cz)).bind fun (r_5, (cs_cw_6, cs_ce_7, cs_cn_8, cs_cj_9, cs_cz_10)) => some (ra_at, (cs_cw_6, cs_ce_7, cs_cn_8, cs_cj_9, cs_cz_10))
def f5_constant  : TopS → RdS → Int32 → CoS → Option (Int32 × CoS)
  | (top_tx, top_ln, top_cp, top_cq, top_sq, top_fu, top_lv, top_lt), (rd_t0, rd_rt, rd_rl, rd_rq), ra_at, (cs_cw, cs_ce, cs_cn, cs_cj, cs_cz) =>
    (f5_next (top_tx, top_ln, top_cp, top_cq, top_sq, top_fu, top_lv, top_lt) (rd_t0, 1, rd_rl, rd_rq) ra_at).bind fun r_2 => nm_v (r_2 - (48 : Int32)) (fun v2_3 => if v2_3 = 0 then f5_constant_L57 top_tx top_ln top_cp top_cq top_sq top_fu top_lv top_lt rd_t0 rd_rt rd_rl rd_rq ra_at v2_3 (ra_at + (1 : Int32)) (cs_cw, cs_ce, cs_cn, cs_cj, cs_cz) else (f5_nextIsDigit (top_tx, top_ln, top_cp, top_cq, top_sq, top_fu, top_lv, top_lt) (rd_t0, 1, rd_rl, rd_rq) (ra_at + (1 : Int32))).bind fun r_12 => if r_12 = 0 then f5_constant_L57 top_tx top_ln top_cp top_cq top_sq top_fu top_lv top_lt rd_t0 rd_rt rd_rl rd_rq ra_at v2_3 (ra_at + (1 : Int32)) (cs_cw, cs_ce, cs_cn, cs_cj, cs_cz) else (f5_next (top_tx, top_ln, top_cp, top_cq, top_sq, top_fu, top_lv, top_lt) (rd_t0, 1, rd_rl, rd_rq) (ra_at + (1 : Int32))).bind fun r_14 => nm_v (((v2_3 * (10 : Int32)) + r_14) - (48 : Int32)) (fun v2_15 => f5_constant_L57 top_tx top_ln top_cp top_cq top_sq top_fu top_lv top_lt rd_t0 rd_rt rd_rl rd_rq ra_at v2_15 ((ra_at + (1 : Int32)) + (1 : Int32)) (cs_cw, cs_ce, cs_cn, cs_cj, cs_cz)))
set_option maxHeartbeats 4000000 in
set_option maxRecDepth 100000 in
theorem w5_constant_L57 {V : EV} {p : Program} {l : Launch} {e : Env} {R : Room} {s : State} {m : MethodId} {args : Array Value} {below : List Frame} {meth : Method} {c : Code} {Q : State → Prop} {A : Nat → Prop} {kc ks : Nat} {ad : Nat → Nat} {co : Nat → CoS} {mu : MuS} {fo : FoS} {tr : TrS} {ma : MaS} {mq : Nat} {mx : MxS} {top_tx : Nat → Int32} {top_ln : Int32} {top_cp : Int32} {top_cq : Nat} {top_sq : Nat} {top_fu : Int32} {top_lv : Int32} {top_lt : Int32} {rd_t0 : Nat → Int32} {rd_rl : Int32} {rd_rq : Nat}  {res : Int32 × CoS} (C : CX V p l R s m args c A kc ks RX5 cX5_constant 3 2 40) (hq : rd_rq < 4) (K : RV V p l e R s m args below meth c Q A kc ks 3 cX5_constant (wC V ad (top_tx, top_ln, top_cp, top_cq, top_sq, top_fu, top_lv, top_lt) (rd_t0, 1, rd_rl, rd_rq) res.1 (updC co rd_rq res.2) mu fo tr ma mq mx))  : ∀ (x1 : Int32) (x2 : Int32) (ra_at : Int32) (cs_cw : Nat → Int32) (cs_ce : Nat → Int32) (cs_cn : Nat → Int32) (cs_cj : Nat → Int32) (cs_cz : Int32), f5_constant_L57 top_tx top_ln top_cp top_cq top_sq top_fu top_lv top_lt rd_t0 1 rd_rl rd_rq x1 x2 ra_at (cs_cw, cs_ce, cs_cn, cs_cj, cs_cz) = some res → WC V p l e R s m args below meth c Q A kc ks 3 (wC V ad (top_tx, top_ln, top_cp, top_cq, top_sq, top_fu, top_lv, top_lt) (rd_t0, 1, rd_rl, rd_rq) ra_at (updC co rd_rq (cs_cw, cs_ce, cs_cn, cs_cj, cs_cz)) mu fo tr ma mq mx) 57 [(0, .ref (ad 2)), (1, .int x1), (2, .int x2)] [] := by
  intro x1 x2 ra_at cs_cw cs_ce cs_cn cs_cj cs_cz hf
  rw [f5_constant_L57] at hf
  refine k_aload_n C dX5_constant_57 0 rfl ?_
  refine g5_25 C dX5_constant_58 ?_
  refine k_iconst (v := (3 : Int32)) C dX5_constant_61 (by decide) ?_
  refine k_iload_n C dX5_constant_62 1 rfl ?_
  refine k_iload_n C dX5_constant_63 2 rfl ?_
  obtain ⟨⟨r_5, ⟨cs_cw_6, cs_ce_7, cs_cn_8, cs_cj_9, cs_cz_10⟩⟩, hq_4, hf⟩ := ob_el hf
  dsimp only at hf
  refine k_callCi C hq (c0_add C.2.2.2.2.2.2.2.2.2.1 hq hq_4) cm5_63 ok0_add (by decide) rfl rfl (Nat.le_of_ble_eq_true rfl) dX5_constant_64 ?_
  refine k_pop C dX5_constant_67 rfl ?_
  cases hf
  exact K _ _ dX5_constant_68
set_option maxHeartbeats 4000000 in
set_option maxRecDepth 100000 in
theorem b5_constant {V : EV} {p : Program} {l : Launch} {e : Env} {R : Room} {s : State} {m : MethodId} {args : Array Value} {below : List Frame} {meth : Method} {c : Code} {Q : State → Prop} {A : Nat → Prop} {kc ks : Nat} {ad : Nat → Nat} {co : Nat → CoS} {mu : MuS} {fo : FoS} {tr : TrS} {ma : MaS} {mq : Nat} {mx : MxS} {top_tx : Nat → Int32} {top_ln : Int32} {top_cp : Int32} {top_cq : Nat} {top_sq : Nat} {top_fu : Int32} {top_lv : Int32} {top_lt : Int32} {rd_t0 : Nat → Int32} {rd_rl : Int32} {rd_rq : Nat} {ra_at : Int32} {cs_cw : Nat → Int32} {cs_ce : Nat → Int32} {cs_cn : Nat → Int32} {cs_cj : Nat → Int32} {cs_cz : Int32} {res : Int32 × CoS} (C : CX V p l R s m args c A kc ks RX5 cX5_constant 3 2 40) (hq : rd_rq < 4) (hf : f5_constant (top_tx, top_ln, top_cp, top_cq, top_sq, top_fu, top_lv, top_lt) (rd_t0, 1, rd_rl, rd_rq) ra_at (cs_cw, cs_ce, cs_cn, cs_cj, cs_cz) = some res) (K : RV V p l e R s m args below meth c Q A kc ks 3 cX5_constant (wC V ad (top_tx, top_ln, top_cp, top_cq, top_sq, top_fu, top_lv, top_lt) (rd_t0, 1, rd_rl, rd_rq) res.1 (updC co rd_rq res.2) mu fo tr ma mq mx)) : WC V p l e R s m args below meth c Q A kc ks 3 (wC V ad (top_tx, top_ln, top_cp, top_cq, top_sq, top_fu, top_lv, top_lt) (rd_t0, 1, rd_rl, rd_rq) ra_at (updC co rd_rq (cs_cw, cs_ce, cs_cn, cs_cj, cs_cz)) mu fo tr ma mq mx) 0 [(0, .ref (ad 2))] [] := by
  rw [f5_constant] at hf
  refine k_aload_n C dX5_constant_0 0 rfl ?_
  refine g5_19 C dX5_constant_1 ?_
  refine k_istore_n C dX5_constant_4 [(1, .int ra_at), (0, .ref (ad 2))] (by decide) rfl ?_
  refine k_aload_n C dX5_constant_5 1 rfl ?_
  obtain ⟨r_2, hq_1, hf⟩ := ob_el hf
  refine k_callVi C (c5_next C.2.2.2.2.2.2.2.2.2.1 hq_1) cm5_46 ok5_next (by decide) 2 rfl rfl rfl rfl (Nat.le_of_ble_eq_true rfl) dX5_constant_6 ?_
  refine k_bipush (v := (48 : Int32)) C dX5_constant_9 (by decide) ?_
  refine k_isub C dX5_constant_11 ?_
  refine k_topi (fun v2_3 ev2_3 => ?_)
  replace hf := nm_el hf ev2_3
  refine k_istore_n C dX5_constant_12 [(2, .int v2_3), (1, .int ra_at), (0, .ref (ad 2))] (by decide) rfl ?_
  refine k_aload_n C dX5_constant_13 2 rfl ?_
  refine k_dup C dX5_constant_14 rfl ?_
  refine g5_19 C dX5_constant_15 ?_
  refine k_iconst (v := (1 : Int32)) C dX5_constant_18 (by decide) ?_
  refine k_iadd C dX5_constant_19 ?_
  refine p5_19 C dX5_constant_20 ?_
  refine k_iload_n C dX5_constant_23 0 rfl ?_
  refine k_if_eq C 57 dX5_constant_24 (by decide) (fun hc => ?_) (fun hc => ?_)
  · replace hf := (if_pos hc).symm.trans hf
    refine k_sub [2, 1, 0] (L' := [(0, .ref (ad 2)), (1, .int ra_at), (2, .int v2_3)]) rfl ?_
    exact w5_constant_L57 C hq K _ _ _ _ _ _ _ _ hf
  · replace hf := (if_neg hc).symm.trans hf
    refine k_aload_n C dX5_constant_27 2 rfl ?_
    obtain ⟨r_12, hq_11, hf⟩ := ob_el hf
    refine k_callVi C (c5_nextIsDigit C.2.2.2.2.2.2.2.2.2.1 hq_11) cm5_137 ok5_nextIsDigit (by decide) 2 rfl rfl rfl rfl (Nat.le_of_ble_eq_true rfl) dX5_constant_28 ?_
    refine k_if_eq C 57 dX5_constant_31 (by decide) (fun hc => ?_) (fun hc => ?_)
    · replace hf := (if_pos hc).symm.trans hf
      refine k_sub [2, 1, 0] (L' := [(0, .ref (ad 2)), (1, .int ra_at), (2, .int v2_3)]) rfl ?_
      exact w5_constant_L57 C hq K _ _ _ _ _ _ _ _ hf
    · replace hf := (if_neg hc).symm.trans hf
      refine k_iload_n C dX5_constant_34 0 rfl ?_
      refine k_bipush (v := (10 : Int32)) C dX5_constant_35 (by decide) ?_
      refine k_imul C dX5_constant_37 ?_
      refine k_aload_n C dX5_constant_38 2 rfl ?_
      obtain ⟨r_14, hq_13, hf⟩ := ob_el hf
      refine k_callVi C (c5_next C.2.2.2.2.2.2.2.2.2.1 hq_13) cm5_46 ok5_next (by decide) 2 rfl rfl rfl rfl (Nat.le_of_ble_eq_true rfl) dX5_constant_39 ?_
      refine k_iadd C dX5_constant_42 ?_
      refine k_bipush (v := (48 : Int32)) C dX5_constant_43 (by decide) ?_
      refine k_isub C dX5_constant_45 ?_
      refine k_topi (fun v2_15 ev2_15 => ?_)
      replace hf := nm_el hf ev2_15
      refine k_istore_n C dX5_constant_46 [(2, .int v2_15), (1, .int ra_at), (0, .ref (ad 2))] (by decide) rfl ?_
      refine k_aload_n C dX5_constant_47 2 rfl ?_
      refine k_dup C dX5_constant_48 rfl ?_
      refine g5_19 C dX5_constant_49 ?_
      refine k_iconst (v := (1 : Int32)) C dX5_constant_52 (by decide) ?_
      refine k_iadd C dX5_constant_53 ?_
      refine p5_19 C dX5_constant_54 ?_
      refine k_sub [2, 1, 0] (L' := [(0, .ref (ad 2)), (1, .int ra_at), (2, .int v2_15)]) rfl ?_
      exact w5_constant_L57 C hq K _ _ _ _ _ _ _ _ hf
theorem c5_constant {V : EV} {l : Launch} (hl0 : l.stackTraces = false) {ad : Nat → Nat} {co : Nat → CoS} {mu : MuS} {fo : FoS} {tr : TrS} {ma : MaS} {mq : Nat} {mx : MxS} {top_tx : Nat → Int32} {top_ln : Int32} {top_cp : Int32} {top_cq : Nat} {top_sq : Nat} {top_fu : Int32} {top_lv : Int32} {top_lt : Int32} {rd_t0 : Nat → Int32} {rd_rl : Int32} {rd_rq : Nat} {ra_at : Int32} {cs_cw : Nat → Int32} {cs_ce : Nat → Int32} {cs_cn : Nat → Int32} {cs_cj : Nat → Int32} {cs_cz : Int32} {res : Int32 × CoS} (hq : rd_rq < 4) (hf : f5_constant (top_tx, top_ln, top_cp, top_cq, top_sq, top_fu, top_lv, top_lt) (rd_t0, 1, rd_rl, rd_rq) ra_at (cs_cw, cs_ce, cs_cn, cs_cj, cs_cz) = some res) : MV V l yX5_constant cX5_constant 3 2 40 [.ref (ad 2)] (wC V ad (top_tx, top_ln, top_cp, top_cq, top_sq, top_fu, top_lv, top_lt) (rd_t0, 1, rd_rl, rd_rq) ra_at (updC co rd_rq (cs_cw, cs_ce, cs_cn, cs_cj, cs_cz)) mu fo tr ma mq mx) (wC V ad (top_tx, top_ln, top_cp, top_cq, top_sq, top_fu, top_lv, top_lt) (rd_t0, 1, rd_rl, rd_rq) res.1 (updC co rd_rq res.2) mu fo tr ma mq mx) :=
  mv_of hl0 (by decide +kernel) (Nat.le_of_ble_eq_true rfl) (fun p e R s m args below meth c Q A C K => b5_constant C hq hf K)

theorem xk5_39 : Cond.classLink RX5 39 "java/lang/IllegalArgumentException" ∈ GW := gw_2 (i := 138) (by decide +kernel) rfl
theorem xi_IllegalArgumentException : Cond.initialized "java/lang/IllegalArgumentException" ∈ GW := gw_1 (i := 13) (by decide +kernel) rfl
theorem xa5_43 : ∀ x ∈ vx_atS RX5 43 "java/lang/IllegalArgumentException" nmsX, x ∈ GW ∨ x ∈ badX := fun x h => by
  have h1 := List.all_eq_true.mp (show (vx_atS RX5 43 "java/lang/IllegalArgumentException" nmsX).all (fun w => (goodWord w && decide (w ∈ lw_tbl)) || decide (w ∈ badX)) = true by decide +kernel) x h
  simp only [Bool.or_eq_true, Bool.and_eq_true, decide_eq_true_eq] at h1
  exact h1.imp (fun g => gw_of g.2 g.1) id
theorem ok5_refuse : okCV RX5 yX5_refuse 0 := by unfold okCV; decide +kernel
def f5_refuse  : Option (Except String Unit) :=
    some (.error "java/lang/IllegalArgumentException")
set_option maxHeartbeats 4000000 in
set_option maxRecDepth 100000 in
theorem b5_refuse {V : EV} {p : Program} {l : Launch} {e : Env} {R : Room} {s : State} {m : MethodId} {args : Array Value} {below : List Frame} {meth : Method} {c : Code} {Q : State → Prop} {A : Nat → Prop} {kc ks : Nat} {ad : Nat → Nat} {top : TopS} {rd : RdS} {ra : Int32} {co : Nat → CoS} {mu : MuS} {fo : FoS} {tr : TrS} {ma : MaS} {mq : Nat} {mx : MxS}  {res : Except String Unit} (C : CX V p l R s m args c A kc ks RX5 cX5_refuse 1 6 90) (hf : f5_refuse = some res) (K : (∀ v : Unit, res = .ok v → RV V p l e R s m args below meth c Q A kc ks 1 cX5_refuse (wC V ad top rd ra co mu fo tr ma mq mx)) ∧ ∀ E : String, res = .error E → XE V p l e R s m args below meth c Q A kc ks 1 RX5 cX5_refuse E (wC V ad top rd ra co mu fo tr ma mq mx)) : WC V p l e R s m args below meth c Q A kc ks 1 (wC V ad top rd ra co mu fo tr ma mq mx) 0 [(0, .ref (ad 2))] [] := by
  rw [f5_refuse] at hf
  cases hf
  exact (K.2 _ rfl).2.2 _ _ _ 39 41 43 13 "no program" (by decide +kernel) xk5_39 xi_IllegalArgumentException (by decide +kernel) xa5_43 dX5_refuse_0 dX5_refuse_3 dX5_refuse_4 dX5_refuse_6 dX5_refuse_9 (Nat.le_of_ble_eq_true rfl) (Nat.lt_of_lt_of_le (by decide) C.2.2.2.2.2.2.2.1) (Nat.le_trans (by decide) C.2.2.2.2.2.2.2.2.1)
theorem c5_refuse {V : EV} {l : Launch} (hl0 : l.stackTraces = false) {ad : Nat → Nat} {top : TopS} {rd : RdS} {ra : Int32} {co : Nat → CoS} {mu : MuS} {fo : FoS} {tr : TrS} {ma : MaS} {mq : Nat} {mx : MxS}  {res : Except String Unit} (hf : f5_refuse = some res) {v : Unit} (hv : res = .ok v) : MV V l yX5_refuse cX5_refuse 1 6 90 [.ref (ad 2)] (wC V ad top rd ra co mu fo tr ma mq mx) (wC V ad top rd ra co mu fo tr ma mq mx) :=
  mv_of hl0 (by decide +kernel) (Nat.le_of_ble_eq_true rfl) (fun p e R s m args below meth c Q A C K => b5_refuse C hf ⟨fun v' h' => (by cases hv.symm.trans h'; exact K), fun E h' => (by cases hv.symm.trans h')⟩)
theorem x5_refuse {V : EV} {l : Launch} (hl0 : l.stackTraces = false) {ad : Nat → Nat} {top : TopS} {rd : RdS} {ra : Int32} {co : Nat → CoS} {mu : MuS} {fo : FoS} {tr : TrS} {ma : MaS} {mq : Nat} {mx : MxS}  {res : Except String Unit} (hf : f5_refuse = some res) {E : String} (hv : res = .error E) : TV V l yX5_refuse cX5_refuse 1 6 90 [.ref (ad 2)] (wC V ad top rd ra co mu fo tr ma mq mx) E (wC V ad top rd ra co mu fo tr ma mq mx) :=
  tv_of hl0 (by decide +kernel) (Nat.le_of_ble_eq_true rfl) (fun p e R s m args below meth c Q A C K => b5_refuse C hf ⟨fun v' h' => (by cases hv.symm.trans h'), fun E' h' => (by cases hv.symm.trans h'; exact K)⟩)

theorem cm5_36 : ∀ a ∈ wsCV RX5 36 RX5 yX5_refuse cX5_refuse 1 none, a ∈ GW := by
  unfold wsCV
  exact (List.forall_mem_cons.mpr ⟨(gw_2 (i := 134) (by decide +kernel) rfl), (List.forall_mem_cons.mpr ⟨(gw_2 (i := 136) (by decide +kernel) rfl), (List.forall_mem_cons.mpr ⟨(gw_p (q := ((yX5_refuse, 4) : MethodName × Nat)) (List.mem_append_left _ (List.mem_of_getElem? (i := 8) (by decide +kernel))) rfl), (List.forall_mem_cons.mpr ⟨(gw_1 (i := 2) (by decide +kernel) rfl), (List.forall_mem_cons.mpr ⟨(gw_2 (i := 137) (by decide +kernel) rfl), (List.forall_mem_nil _)⟩)⟩)⟩)⟩)⟩)
theorem ok5_take : okCV RX5 yX5_take 1 := by unfold okCV; decide +kernel
def f5_take (v1 : Int32) : TopS → RdS → Int32 → Option (Except String Unit × Int32)
  | (top_tx, top_ln, top_cp, top_cq, top_sq, top_fu, top_lv, top_lt), (rd_t0, rd_rt, rd_rl, rd_rq), ra_at =>
    (f5_next (top_tx, top_ln, top_cp, top_cq, top_sq, top_fu, top_lv, top_lt) (rd_t0, 1, rd_rl, rd_rq) ra_at).bind fun r_2 => if r_2 = v1 then some ((.ok ()), (ra_at + (1 : Int32))) else (f5_refuse).bind fun r_4 => match r_4 with | .error E => some ((.error E), ra_at) | .ok _ => some ((.ok ()), (ra_at + (1 : Int32)))
set_option maxHeartbeats 4000000 in
set_option maxRecDepth 100000 in
theorem b5_take {V : EV} {p : Program} {l : Launch} {e : Env} {R : Room} {s : State} {m : MethodId} {args : Array Value} {below : List Frame} {meth : Method} {c : Code} {Q : State → Prop} {A : Nat → Prop} {kc ks : Nat} {ad : Nat → Nat} {co : Nat → CoS} {mu : MuS} {fo : FoS} {tr : TrS} {ma : MaS} {mq : Nat} {mx : MxS} {top_tx : Nat → Int32} {top_ln : Int32} {top_cp : Int32} {top_cq : Nat} {top_sq : Nat} {top_fu : Int32} {top_lv : Int32} {top_lt : Int32} {rd_t0 : Nat → Int32} {rd_rl : Int32} {rd_rq : Nat} {v1 : Int32} {ra_at : Int32} {res : Except String Unit × Int32} (C : CX V p l R s m args c A kc ks RX5 cX5_take 2 7 110) (hf : f5_take v1 (top_tx, top_ln, top_cp, top_cq, top_sq, top_fu, top_lv, top_lt) (rd_t0, 1, rd_rl, rd_rq) ra_at = some res) (K : (∀ v : Unit, res.1 = .ok v → RV V p l e R s m args below meth c Q A kc ks 2 cX5_take (wC V ad (top_tx, top_ln, top_cp, top_cq, top_sq, top_fu, top_lv, top_lt) (rd_t0, 1, rd_rl, rd_rq) res.2 co mu fo tr ma mq mx)) ∧ ∀ E : String, res.1 = .error E → XE V p l e R s m args below meth c Q A kc ks 2 RX5 cX5_take E (wC V ad (top_tx, top_ln, top_cp, top_cq, top_sq, top_fu, top_lv, top_lt) (rd_t0, 1, rd_rl, rd_rq) res.2 co mu fo tr ma mq mx)) : WC V p l e R s m args below meth c Q A kc ks 2 (wC V ad (top_tx, top_ln, top_cp, top_cq, top_sq, top_fu, top_lv, top_lt) (rd_t0, 1, rd_rl, rd_rq) ra_at co mu fo tr ma mq mx) 0 [(0, .ref (ad 2)), (1, .int v1)] [] := by
  rw [f5_take] at hf
  refine k_aload_n C dX5_take_0 0 rfl ?_
  obtain ⟨r_2, hq_1, hf⟩ := ob_el hf
  refine k_callVi C (c5_next C.2.2.2.2.2.2.2.2.2.1 hq_1) cm5_46 ok5_next (by decide) 2 rfl rfl rfl rfl (Nat.le_of_ble_eq_true rfl) dX5_take_1 ?_
  refine k_iload_n C dX5_take_4 1 rfl ?_
  refine k_icmp_eq C 12 dX5_take_5 (by decide) (fun hc => ?_) (fun hc => ?_)
  · replace hf := (if_pos hc).symm.trans hf
    refine k_aload_n C dX5_take_12 0 rfl ?_
    refine k_dup C dX5_take_13 rfl ?_
    refine g5_19 C dX5_take_14 ?_
    refine k_iconst (v := (1 : Int32)) C dX5_take_17 (by decide) ?_
    refine k_iadd C dX5_take_18 ?_
    refine p5_19 C dX5_take_19 ?_
    cases hf
    exact K.1 _ rfl _ _ dX5_take_22
  · replace hf := (if_neg hc).symm.trans hf
    refine k_aload_n C dX5_take_8 0 rfl ?_
    obtain ⟨r_4, hq_3, hf⟩ := ob_el hf
    rcases r_4 with E | _u
    · try dsimp only at hf
      cases hf
      exact k_callVvx C (x5_refuse C.2.2.2.2.2.2.2.2.2.1 hq_3 rfl) cm5_36 ok5_refuse (by decide) 2 rfl rfl rfl rfl (Nat.le_of_ble_eq_true rfl) dX5_take_9 (K.2 _ rfl)
    try dsimp only at hf
    refine k_callVv C (c5_refuse C.2.2.2.2.2.2.2.2.2.1 hq_3 rfl) cm5_36 ok5_refuse (by decide) 2 rfl rfl rfl rfl (Nat.le_of_ble_eq_true rfl) dX5_take_9 ?_
    refine k_aload_n C dX5_take_12 0 rfl ?_
    refine k_dup C dX5_take_13 rfl ?_
    refine g5_19 C dX5_take_14 ?_
    refine k_iconst (v := (1 : Int32)) C dX5_take_17 (by decide) ?_
    refine k_iadd C dX5_take_18 ?_
    refine p5_19 C dX5_take_19 ?_
    cases hf
    exact K.1 _ rfl _ _ dX5_take_22
theorem c5_take {V : EV} {l : Launch} (hl0 : l.stackTraces = false) {ad : Nat → Nat} {co : Nat → CoS} {mu : MuS} {fo : FoS} {tr : TrS} {ma : MaS} {mq : Nat} {mx : MxS} {top_tx : Nat → Int32} {top_ln : Int32} {top_cp : Int32} {top_cq : Nat} {top_sq : Nat} {top_fu : Int32} {top_lv : Int32} {top_lt : Int32} {rd_t0 : Nat → Int32} {rd_rl : Int32} {rd_rq : Nat} {v1 : Int32} {ra_at : Int32} {res : Except String Unit × Int32} (hf : f5_take v1 (top_tx, top_ln, top_cp, top_cq, top_sq, top_fu, top_lv, top_lt) (rd_t0, 1, rd_rl, rd_rq) ra_at = some res) {v : Unit} (hv : res.1 = .ok v) : MV V l yX5_take cX5_take 2 7 110 [.ref (ad 2), .int v1] (wC V ad (top_tx, top_ln, top_cp, top_cq, top_sq, top_fu, top_lv, top_lt) (rd_t0, 1, rd_rl, rd_rq) ra_at co mu fo tr ma mq mx) (wC V ad (top_tx, top_ln, top_cp, top_cq, top_sq, top_fu, top_lv, top_lt) (rd_t0, 1, rd_rl, rd_rq) res.2 co mu fo tr ma mq mx) :=
  mv_of hl0 (by decide +kernel) (Nat.le_of_ble_eq_true rfl) (fun p e R s m args below meth c Q A C K => b5_take C hf ⟨fun v' h' => (by cases hv.symm.trans h'; exact K), fun E h' => (by cases hv.symm.trans h')⟩)
theorem x5_take {V : EV} {l : Launch} (hl0 : l.stackTraces = false) {ad : Nat → Nat} {co : Nat → CoS} {mu : MuS} {fo : FoS} {tr : TrS} {ma : MaS} {mq : Nat} {mx : MxS} {top_tx : Nat → Int32} {top_ln : Int32} {top_cp : Int32} {top_cq : Nat} {top_sq : Nat} {top_fu : Int32} {top_lv : Int32} {top_lt : Int32} {rd_t0 : Nat → Int32} {rd_rl : Int32} {rd_rq : Nat} {v1 : Int32} {ra_at : Int32} {res : Except String Unit × Int32} (hf : f5_take v1 (top_tx, top_ln, top_cp, top_cq, top_sq, top_fu, top_lv, top_lt) (rd_t0, 1, rd_rl, rd_rq) ra_at = some res) {E : String} (hv : res.1 = .error E) : TV V l yX5_take cX5_take 2 7 110 [.ref (ad 2), .int v1] (wC V ad (top_tx, top_ln, top_cp, top_cq, top_sq, top_fu, top_lv, top_lt) (rd_t0, 1, rd_rl, rd_rq) ra_at co mu fo tr ma mq mx) E (wC V ad (top_tx, top_ln, top_cp, top_cq, top_sq, top_fu, top_lv, top_lt) (rd_t0, 1, rd_rl, rd_rq) res.2 co mu fo tr ma mq mx) :=
  tv_of hl0 (by decide +kernel) (Nat.le_of_ble_eq_true rfl) (fun p e R s m args below meth c Q A C K => b5_take C hf ⟨fun v' h' => (by cases hv.symm.trans h'), fun E' h' => (by cases hv.symm.trans h'; exact K)⟩)

theorem cm5_56 : ∀ a ∈ wsCV RX5 56 RX5 yX5_take cX5_take 2 none, a ∈ GW := by
  unfold wsCV
  exact (List.forall_mem_cons.mpr ⟨(gw_2 (i := 206) (by decide +kernel) rfl), (List.forall_mem_cons.mpr ⟨(gw_2 (i := 208) (by decide +kernel) rfl), (List.forall_mem_cons.mpr ⟨(gw_p (q := ((yX5_take, 4) : MethodName × Nat)) (List.mem_append_left _ (List.mem_of_getElem? (i := 10) (by decide +kernel))) rfl), (List.forall_mem_cons.mpr ⟨(gw_1 (i := 2) (by decide +kernel) rfl), (List.forall_mem_cons.mpr ⟨(gw_2 (i := 209) (by decide +kernel) rfl), (List.forall_mem_nil _)⟩)⟩)⟩)⟩)⟩)
theorem ok5_open : okCV RX5 yX5_open 2 := by unfold okCV; decide +kernel
def f5_open (v1 : Int32) (v2 : Int32) : TopS → RdS → Int32 → Option (Except String Int32 × Int32)
  | (top_tx, top_ln, top_cp, top_cq, top_sq, top_fu, top_lv, top_lt), (rd_t0, rd_rt, rd_rl, rd_rq), ra_at =>
    if v2 < (4 : Int32) then (f5_take v1 (top_tx, top_ln, top_cp, top_cq, top_sq, top_fu, top_lv, top_lt) (rd_t0, 1, rd_rl, rd_rq) ra_at).bind fun (r_2, ra_at_3) => match r_2 with | .error E => some ((.error E), ra_at_3) | .ok _ => some ((.ok (v2 + (1 : Int32))), ra_at_3) else (f5_refuse).bind fun r_5 => match r_5 with | .error E => some ((.error E), ra_at) | .ok _ => (f5_take v1 (top_tx, top_ln, top_cp, top_cq, top_sq, top_fu, top_lv, top_lt) (rd_t0, 1, rd_rl, rd_rq) ra_at).bind fun (r_7, ra_at_8) => match r_7 with | .error E => some ((.error E), ra_at_8) | .ok _ => some ((.ok (v2 + (1 : Int32))), ra_at_8)
set_option maxHeartbeats 4000000 in
set_option maxRecDepth 100000 in
theorem b5_open {V : EV} {p : Program} {l : Launch} {e : Env} {R : Room} {s : State} {m : MethodId} {args : Array Value} {below : List Frame} {meth : Method} {c : Code} {Q : State → Prop} {A : Nat → Prop} {kc ks : Nat} {ad : Nat → Nat} {co : Nat → CoS} {mu : MuS} {fo : FoS} {tr : TrS} {ma : MaS} {mq : Nat} {mx : MxS} {top_tx : Nat → Int32} {top_ln : Int32} {top_cp : Int32} {top_cq : Nat} {top_sq : Nat} {top_fu : Int32} {top_lv : Int32} {top_lt : Int32} {rd_t0 : Nat → Int32} {rd_rl : Int32} {rd_rq : Nat} {v1 : Int32} {v2 : Int32} {ra_at : Int32} {res : Except String Int32 × Int32} (C : CX V p l R s m args c A kc ks RX5 cX5_open 3 8 131) (hf : f5_open v1 v2 (top_tx, top_ln, top_cp, top_cq, top_sq, top_fu, top_lv, top_lt) (rd_t0, 1, rd_rl, rd_rq) ra_at = some res) (K : (∀ v : Int32, res.1 = .ok v → RI V p l e R s m args below meth c Q A kc ks 3 cX5_open .int v (wC V ad (top_tx, top_ln, top_cp, top_cq, top_sq, top_fu, top_lv, top_lt) (rd_t0, 1, rd_rl, rd_rq) res.2 co mu fo tr ma mq mx)) ∧ ∀ E : String, res.1 = .error E → XE V p l e R s m args below meth c Q A kc ks 3 RX5 cX5_open E (wC V ad (top_tx, top_ln, top_cp, top_cq, top_sq, top_fu, top_lv, top_lt) (rd_t0, 1, rd_rl, rd_rq) res.2 co mu fo tr ma mq mx)) : WC V p l e R s m args below meth c Q A kc ks 3 (wC V ad (top_tx, top_ln, top_cp, top_cq, top_sq, top_fu, top_lv, top_lt) (rd_t0, 1, rd_rl, rd_rq) ra_at co mu fo tr ma mq mx) 0 [(0, .ref (ad 2)), (1, .int v1), (2, .int v2)] [] := by
  rw [f5_open] at hf
  refine k_iload_n C dX5_open_0 2 rfl ?_
  refine k_iconst (v := (4 : Int32)) C dX5_open_1 (by decide) ?_
  refine k_icmp_lt C 9 dX5_open_2 (by decide) (fun hc => ?_) (fun hc => ?_)
  · replace hf := (if_pos hc).symm.trans hf
    refine k_aload_n C dX5_open_9 0 rfl ?_
    refine k_iload_n C dX5_open_10 1 rfl ?_
    obtain ⟨⟨r_2, ra_at_3⟩, hq_1, hf⟩ := ob_el hf
    dsimp only at hf
    rcases r_2 with E | _u
    · try dsimp only at hf
      cases hf
      exact k_callVvx C (x5_take C.2.2.2.2.2.2.2.2.2.1 hq_1 rfl) cm5_56 ok5_take (by decide) 2 rfl rfl rfl rfl (Nat.le_of_ble_eq_true rfl) dX5_open_11 (K.2 _ rfl)
    try dsimp only at hf
    refine k_callVv C (c5_take C.2.2.2.2.2.2.2.2.2.1 hq_1 rfl) cm5_56 ok5_take (by decide) 2 rfl rfl rfl rfl (Nat.le_of_ble_eq_true rfl) dX5_open_11 ?_
    refine k_iload_n C dX5_open_14 2 rfl ?_
    refine k_iconst (v := (1 : Int32)) C dX5_open_15 (by decide) ?_
    refine k_iadd C dX5_open_16 ?_
    cases hf
    exact K.1 _ rfl _ _ dX5_open_17 rfl
  · replace hf := (if_neg hc).symm.trans hf
    refine k_aload_n C dX5_open_5 0 rfl ?_
    obtain ⟨r_5, hq_4, hf⟩ := ob_el hf
    rcases r_5 with E | _u
    · try dsimp only at hf
      cases hf
      exact k_callVvx C (x5_refuse C.2.2.2.2.2.2.2.2.2.1 hq_4 rfl) cm5_36 ok5_refuse (by decide) 2 rfl rfl rfl rfl (Nat.le_of_ble_eq_true rfl) dX5_open_6 (K.2 _ rfl)
    try dsimp only at hf
    refine k_callVv C (c5_refuse C.2.2.2.2.2.2.2.2.2.1 hq_4 rfl) cm5_36 ok5_refuse (by decide) 2 rfl rfl rfl rfl (Nat.le_of_ble_eq_true rfl) dX5_open_6 ?_
    refine k_aload_n C dX5_open_9 0 rfl ?_
    refine k_iload_n C dX5_open_10 1 rfl ?_
    obtain ⟨⟨r_7, ra_at_8⟩, hq_6, hf⟩ := ob_el hf
    dsimp only at hf
    rcases r_7 with E | _u
    · try dsimp only at hf
      cases hf
      exact k_callVvx C (x5_take C.2.2.2.2.2.2.2.2.2.1 hq_6 rfl) cm5_56 ok5_take (by decide) 2 rfl rfl rfl rfl (Nat.le_of_ble_eq_true rfl) dX5_open_11 (K.2 _ rfl)
    try dsimp only at hf
    refine k_callVv C (c5_take C.2.2.2.2.2.2.2.2.2.1 hq_6 rfl) cm5_56 ok5_take (by decide) 2 rfl rfl rfl rfl (Nat.le_of_ble_eq_true rfl) dX5_open_11 ?_
    refine k_iload_n C dX5_open_14 2 rfl ?_
    refine k_iconst (v := (1 : Int32)) C dX5_open_15 (by decide) ?_
    refine k_iadd C dX5_open_16 ?_
    cases hf
    exact K.1 _ rfl _ _ dX5_open_17 rfl
theorem c5_open {V : EV} {l : Launch} (hl0 : l.stackTraces = false) {ad : Nat → Nat} {co : Nat → CoS} {mu : MuS} {fo : FoS} {tr : TrS} {ma : MaS} {mq : Nat} {mx : MxS} {top_tx : Nat → Int32} {top_ln : Int32} {top_cp : Int32} {top_cq : Nat} {top_sq : Nat} {top_fu : Int32} {top_lv : Int32} {top_lt : Int32} {rd_t0 : Nat → Int32} {rd_rl : Int32} {rd_rq : Nat} {v1 : Int32} {v2 : Int32} {ra_at : Int32} {res : Except String Int32 × Int32} (hf : f5_open v1 v2 (top_tx, top_ln, top_cp, top_cq, top_sq, top_fu, top_lv, top_lt) (rd_t0, 1, rd_rl, rd_rq) ra_at = some res) {v : Int32} (hv : res.1 = .ok v) : MI V l yX5_open cX5_open 3 .int 8 131 [.ref (ad 2), .int v1, .int v2] (wC V ad (top_tx, top_ln, top_cp, top_cq, top_sq, top_fu, top_lv, top_lt) (rd_t0, 1, rd_rl, rd_rq) ra_at co mu fo tr ma mq mx) v (wC V ad (top_tx, top_ln, top_cp, top_cq, top_sq, top_fu, top_lv, top_lt) (rd_t0, 1, rd_rl, rd_rq) res.2 co mu fo tr ma mq mx) :=
  mi_of hl0 (by decide +kernel) (Nat.le_of_ble_eq_true rfl) (fun p e R s m args below meth c Q A C K => b5_open C hf ⟨fun v' h' => (by cases hv.symm.trans h'; exact K), fun E h' => (by cases hv.symm.trans h')⟩)
theorem x5_open {V : EV} {l : Launch} (hl0 : l.stackTraces = false) {ad : Nat → Nat} {co : Nat → CoS} {mu : MuS} {fo : FoS} {tr : TrS} {ma : MaS} {mq : Nat} {mx : MxS} {top_tx : Nat → Int32} {top_ln : Int32} {top_cp : Int32} {top_cq : Nat} {top_sq : Nat} {top_fu : Int32} {top_lv : Int32} {top_lt : Int32} {rd_t0 : Nat → Int32} {rd_rl : Int32} {rd_rq : Nat} {v1 : Int32} {v2 : Int32} {ra_at : Int32} {res : Except String Int32 × Int32} (hf : f5_open v1 v2 (top_tx, top_ln, top_cp, top_cq, top_sq, top_fu, top_lv, top_lt) (rd_t0, 1, rd_rl, rd_rq) ra_at = some res) {E : String} (hv : res.1 = .error E) : TI V l yX5_open cX5_open 3 .int 8 131 [.ref (ad 2), .int v1, .int v2] (wC V ad (top_tx, top_ln, top_cp, top_cq, top_sq, top_fu, top_lv, top_lt) (rd_t0, 1, rd_rl, rd_rq) ra_at co mu fo tr ma mq mx) E (wC V ad (top_tx, top_ln, top_cp, top_cq, top_sq, top_fu, top_lv, top_lt) (rd_t0, 1, rd_rl, rd_rq) res.2 co mu fo tr ma mq mx) :=
  ti_of hl0 (by decide +kernel) (Nat.le_of_ble_eq_true rfl) (fun p e R s m args below meth c Q A C K => b5_open C hf ⟨fun v' h' => (by cases hv.symm.trans h'), fun E' h' => (by cases hv.symm.trans h'; exact K)⟩)

theorem cm5_123 : ∀ a ∈ wsCV RX5 123 RX5 yX5_nextIsOneOf cX5_nextIsOneOf 3 (some .boolean), a ∈ GW := by
  unfold wsCV
  exact (List.forall_mem_cons.mpr ⟨(gw_2 (i := 235) (by decide +kernel) rfl), (List.forall_mem_cons.mpr ⟨(gw_2 (i := 237) (by decide +kernel) rfl), (List.forall_mem_cons.mpr ⟨(gw_p (q := ((yX5_nextIsOneOf, 4) : MethodName × Nat)) (List.mem_append_right _ (List.mem_append_left _ (List.mem_of_getElem? (i := 1) (by decide +kernel)))) rfl), (List.forall_mem_cons.mpr ⟨(gw_1 (i := 2) (by decide +kernel) rfl), (List.forall_mem_cons.mpr ⟨(gw_2 (i := 238) (by decide +kernel) rfl), (List.forall_mem_nil _)⟩)⟩)⟩)⟩)⟩)
theorem ok5_slot : okCV RX5 yX5_slot 0 := by unfold okCV; decide +kernel
def f5_slot_L13   (top_tx : Nat → Int32) (top_ln : Int32) (top_cp : Int32) (top_cq : Nat) (top_sq : Nat) (top_fu : Int32) (top_lv : Int32) (top_lt : Int32) (rd_t0 : Nat → Int32) (rd_rt : Nat) (rd_rl : Int32) (rd_rq : Nat) : Int32 → Option (Except String Int32 × Int32)
  | ra_at =>
    (f5_next (top_tx, top_ln, top_cp, top_cq, top_sq, top_fu, top_lv, top_lt) (rd_t0, 1, rd_rl, rd_rq) ra_at).bind fun r_4 => nm_v (strIx 5 ((r_4.toUInt32 % 65536).toInt32)) (fun v1_5 => some ((.ok v1_5), (ra_at + (1 : Int32))))
def f5_slot  : TopS → RdS → Int32 → Option (Except String Int32 × Int32)
  | (top_tx, top_ln, top_cp, top_cq, top_sq, top_fu, top_lv, top_lt), (rd_t0, rd_rt, rd_rl, rd_rq), ra_at =>
    (f5_nextIsOneOf 5 (top_tx, top_ln, top_cp, top_cq, top_sq, top_fu, top_lv, top_lt) (rd_t0, 1, rd_rl, rd_rq) ra_at).bind fun r_2 => if r_2 = 0 then (f5_refuse).bind fun r_7 => match r_7 with | .error E => some ((.error E), ra_at) | .ok _ => f5_slot_L13 top_tx top_ln top_cp top_cq top_sq top_fu top_lv top_lt rd_t0 rd_rt rd_rl rd_rq ra_at else f5_slot_L13 top_tx top_ln top_cp top_cq top_sq top_fu top_lv top_lt rd_t0 rd_rt rd_rl rd_rq ra_at
set_option maxHeartbeats 4000000 in
set_option maxRecDepth 100000 in
theorem w5_slot_L13 {V : EV} {p : Program} {l : Launch} {e : Env} {R : Room} {s : State} {m : MethodId} {args : Array Value} {below : List Frame} {meth : Method} {c : Code} {Q : State → Prop} {A : Nat → Prop} {kc ks : Nat} {ad : Nat → Nat} {co : Nat → CoS} {mu : MuS} {fo : FoS} {tr : TrS} {ma : MaS} {mq : Nat} {mx : MxS} {top_tx : Nat → Int32} {top_ln : Int32} {top_cp : Int32} {top_cq : Nat} {top_sq : Nat} {top_fu : Int32} {top_lv : Int32} {top_lt : Int32} {rd_t0 : Nat → Int32} {rd_rl : Int32} {rd_rq : Nat}  {res : Except String Int32 × Int32} (C : CX V p l R s m args c A kc ks RX5 cX5_slot 2 7 173) (K : (∀ v : Int32, res.1 = .ok v → RI V p l e R s m args below meth c Q A kc ks 2 cX5_slot .int v (wC V ad (top_tx, top_ln, top_cp, top_cq, top_sq, top_fu, top_lv, top_lt) (rd_t0, 1, rd_rl, rd_rq) res.2 co mu fo tr ma mq mx)) ∧ ∀ E : String, res.1 = .error E → XE V p l e R s m args below meth c Q A kc ks 2 RX5 cX5_slot E (wC V ad (top_tx, top_ln, top_cp, top_cq, top_sq, top_fu, top_lv, top_lt) (rd_t0, 1, rd_rl, rd_rq) res.2 co mu fo tr ma mq mx))  : ∀  (ra_at : Int32), f5_slot_L13 top_tx top_ln top_cp top_cq top_sq top_fu top_lv top_lt rd_t0 1 rd_rl rd_rq ra_at = some res → WC V p l e R s m args below meth c Q A kc ks 2 (wC V ad (top_tx, top_ln, top_cp, top_cq, top_sq, top_fu, top_lv, top_lt) (rd_t0, 1, rd_rl, rd_rq) ra_at co mu fo tr ma mq mx) 13 [(0, .ref (ad 2))] [] := by
  intro ra_at hf
  rw [f5_slot_L13] at hf
  refine k_ldcS (tx := "abcdefxy") (j := 5) C (by decide +kernel) dX5_slot_13 ?_
  refine k_aload_n C dX5_slot_15 0 rfl ?_
  obtain ⟨r_4, hq_3, hf⟩ := ob_el hf
  refine k_callVi C (c5_next C.2.2.2.2.2.2.2.2.2.1 hq_3) cm5_46 ok5_next (by decide) 2 rfl rfl rfl rfl (Nat.le_of_ble_eq_true rfl) dX5_slot_16 ?_
  refine k_i2c C dX5_slot_19 ?_
  refine k_strIx C (by decide) cm5_50 (by decide) (Nat.le_of_ble_eq_true rfl) dX5_slot_20 ?_
  refine k_topi (fun v1_5 ev1_5 => ?_)
  replace hf := nm_el hf ev1_5
  refine k_istore_n C dX5_slot_23 [(1, .int v1_5), (0, .ref (ad 2))] (by decide) rfl ?_
  refine k_aload_n C dX5_slot_24 1 rfl ?_
  refine k_dup C dX5_slot_25 rfl ?_
  refine g5_19 C dX5_slot_26 ?_
  refine k_iconst (v := (1 : Int32)) C dX5_slot_29 (by decide) ?_
  refine k_iadd C dX5_slot_30 ?_
  refine p5_19 C dX5_slot_31 ?_
  refine k_iload_n C dX5_slot_34 0 rfl ?_
  cases hf
  exact K.1 _ rfl _ _ dX5_slot_35 rfl
set_option maxHeartbeats 4000000 in
set_option maxRecDepth 100000 in
theorem b5_slot {V : EV} {p : Program} {l : Launch} {e : Env} {R : Room} {s : State} {m : MethodId} {args : Array Value} {below : List Frame} {meth : Method} {c : Code} {Q : State → Prop} {A : Nat → Prop} {kc ks : Nat} {ad : Nat → Nat} {co : Nat → CoS} {mu : MuS} {fo : FoS} {tr : TrS} {ma : MaS} {mq : Nat} {mx : MxS} {top_tx : Nat → Int32} {top_ln : Int32} {top_cp : Int32} {top_cq : Nat} {top_sq : Nat} {top_fu : Int32} {top_lv : Int32} {top_lt : Int32} {rd_t0 : Nat → Int32} {rd_rl : Int32} {rd_rq : Nat} {ra_at : Int32} {res : Except String Int32 × Int32} (C : CX V p l R s m args c A kc ks RX5 cX5_slot 2 7 173) (hf : f5_slot (top_tx, top_ln, top_cp, top_cq, top_sq, top_fu, top_lv, top_lt) (rd_t0, 1, rd_rl, rd_rq) ra_at = some res) (K : (∀ v : Int32, res.1 = .ok v → RI V p l e R s m args below meth c Q A kc ks 2 cX5_slot .int v (wC V ad (top_tx, top_ln, top_cp, top_cq, top_sq, top_fu, top_lv, top_lt) (rd_t0, 1, rd_rl, rd_rq) res.2 co mu fo tr ma mq mx)) ∧ ∀ E : String, res.1 = .error E → XE V p l e R s m args below meth c Q A kc ks 2 RX5 cX5_slot E (wC V ad (top_tx, top_ln, top_cp, top_cq, top_sq, top_fu, top_lv, top_lt) (rd_t0, 1, rd_rl, rd_rq) res.2 co mu fo tr ma mq mx)) : WC V p l e R s m args below meth c Q A kc ks 2 (wC V ad (top_tx, top_ln, top_cp, top_cq, top_sq, top_fu, top_lv, top_lt) (rd_t0, 1, rd_rl, rd_rq) ra_at co mu fo tr ma mq mx) 0 [(0, .ref (ad 2))] [] := by
  rw [f5_slot] at hf
  refine k_aload_n C dX5_slot_0 0 rfl ?_
  refine k_ldcS (tx := "abcdefxy") (j := 5) C (by decide +kernel) dX5_slot_1 ?_
  obtain ⟨r_2, hq_1, hf⟩ := ob_el hf
  refine k_callVi C (c5_nextIsOneOf C.2.2.2.2.2.2.2.2.2.1 (by decide) hq_1) cm5_123 ok5_nextIsOneOf (by decide) 2 rfl rfl rfl rfl (Nat.le_of_ble_eq_true rfl) dX5_slot_3 ?_
  refine k_if_ne C 13 dX5_slot_6 (by decide) (fun hc => ?_) (fun hc => ?_)
  · replace hf := (if_neg hc).symm.trans hf
    exact w5_slot_L13 C K _ hf
  · replace hf := (if_pos hc).symm.trans hf
    refine k_aload_n C dX5_slot_9 0 rfl ?_
    obtain ⟨r_7, hq_6, hf⟩ := ob_el hf
    rcases r_7 with E | _u
    · try dsimp only at hf
      cases hf
      exact k_callVvx C (x5_refuse C.2.2.2.2.2.2.2.2.2.1 hq_6 rfl) cm5_36 ok5_refuse (by decide) 2 rfl rfl rfl rfl (Nat.le_of_ble_eq_true rfl) dX5_slot_10 (K.2 _ rfl)
    try dsimp only at hf
    refine k_callVv C (c5_refuse C.2.2.2.2.2.2.2.2.2.1 hq_6 rfl) cm5_36 ok5_refuse (by decide) 2 rfl rfl rfl rfl (Nat.le_of_ble_eq_true rfl) dX5_slot_10 ?_
    exact w5_slot_L13 C K _ hf
theorem c5_slot {V : EV} {l : Launch} (hl0 : l.stackTraces = false) {ad : Nat → Nat} {co : Nat → CoS} {mu : MuS} {fo : FoS} {tr : TrS} {ma : MaS} {mq : Nat} {mx : MxS} {top_tx : Nat → Int32} {top_ln : Int32} {top_cp : Int32} {top_cq : Nat} {top_sq : Nat} {top_fu : Int32} {top_lv : Int32} {top_lt : Int32} {rd_t0 : Nat → Int32} {rd_rl : Int32} {rd_rq : Nat} {ra_at : Int32} {res : Except String Int32 × Int32} (hf : f5_slot (top_tx, top_ln, top_cp, top_cq, top_sq, top_fu, top_lv, top_lt) (rd_t0, 1, rd_rl, rd_rq) ra_at = some res) {v : Int32} (hv : res.1 = .ok v) : MI V l yX5_slot cX5_slot 2 .int 7 173 [.ref (ad 2)] (wC V ad (top_tx, top_ln, top_cp, top_cq, top_sq, top_fu, top_lv, top_lt) (rd_t0, 1, rd_rl, rd_rq) ra_at co mu fo tr ma mq mx) v (wC V ad (top_tx, top_ln, top_cp, top_cq, top_sq, top_fu, top_lv, top_lt) (rd_t0, 1, rd_rl, rd_rq) res.2 co mu fo tr ma mq mx) :=
  mi_of hl0 (by decide +kernel) (Nat.le_of_ble_eq_true rfl) (fun p e R s m args below meth c Q A C K => b5_slot C hf ⟨fun v' h' => (by cases hv.symm.trans h'; exact K), fun E h' => (by cases hv.symm.trans h')⟩)
theorem x5_slot {V : EV} {l : Launch} (hl0 : l.stackTraces = false) {ad : Nat → Nat} {co : Nat → CoS} {mu : MuS} {fo : FoS} {tr : TrS} {ma : MaS} {mq : Nat} {mx : MxS} {top_tx : Nat → Int32} {top_ln : Int32} {top_cp : Int32} {top_cq : Nat} {top_sq : Nat} {top_fu : Int32} {top_lv : Int32} {top_lt : Int32} {rd_t0 : Nat → Int32} {rd_rl : Int32} {rd_rq : Nat} {ra_at : Int32} {res : Except String Int32 × Int32} (hf : f5_slot (top_tx, top_ln, top_cp, top_cq, top_sq, top_fu, top_lv, top_lt) (rd_t0, 1, rd_rl, rd_rq) ra_at = some res) {E : String} (hv : res.1 = .error E) : TI V l yX5_slot cX5_slot 2 .int 7 173 [.ref (ad 2)] (wC V ad (top_tx, top_ln, top_cp, top_cq, top_sq, top_fu, top_lv, top_lt) (rd_t0, 1, rd_rl, rd_rq) ra_at co mu fo tr ma mq mx) E (wC V ad (top_tx, top_ln, top_cp, top_cq, top_sq, top_fu, top_lv, top_lt) (rd_t0, 1, rd_rl, rd_rq) res.2 co mu fo tr ma mq mx) :=
  ti_of hl0 (by decide +kernel) (Nat.le_of_ble_eq_true rfl) (fun p e R s m args below meth c Q A C K => b5_slot C hf ⟨fun v' h' => (by cases hv.symm.trans h'), fun E' h' => (by cases hv.symm.trans h'; exact K)⟩)

theorem ok5_endPlain : okCV RX5 yX5_endPlain 2 := by unfold okCV; decide +kernel
def f5_endPlain (v1 : Int32) (v2 : Int32) : TopS → RdS → Int32 → CoS → Option (Except String Unit × Int32 × CoS)
  | (top_tx, top_ln, top_cp, top_cq, top_sq, top_fu, top_lv, top_lt), (rd_t0, rd_rt, rd_rl, rd_rq), ra_at, (cs_cw, cs_ce, cs_cn, cs_cj, cs_cz) =>
    (f5_take (59 : Int32) (top_tx, top_ln, top_cp, top_cq, top_sq, top_fu, top_lv, top_lt) (rd_t0, 1, rd_rl, rd_rq) ra_at).bind fun (r_2, ra_at_3) => match r_2 with | .error E => some ((.error E), ra_at_3, (cs_cw, cs_ce, cs_cn, cs_cj, cs_cz)) | .ok _ => (f0_add v1 ra_at_3 v2 (cs_cw, cs_ce, cs_cn, cs_cj, cs_cz)).bind fun (r_5, (cs_cw_6, cs_ce_7, cs_cn_8, cs_cj_9, cs_cz_10)) => some ((.ok ()), ra_at_3, (cs_cw_6, cs_ce_7, cs_cn_8, cs_cj_9, cs_cz_10))
set_option maxHeartbeats 4000000 in
set_option maxRecDepth 100000 in
theorem b5_endPlain {V : EV} {p : Program} {l : Launch} {e : Env} {R : Room} {s : State} {m : MethodId} {args : Array Value} {below : List Frame} {meth : Method} {c : Code} {Q : State → Prop} {A : Nat → Prop} {kc ks : Nat} {ad : Nat → Nat} {co : Nat → CoS} {mu : MuS} {fo : FoS} {tr : TrS} {ma : MaS} {mq : Nat} {mx : MxS} {top_tx : Nat → Int32} {top_ln : Int32} {top_cp : Int32} {top_cq : Nat} {top_sq : Nat} {top_fu : Int32} {top_lv : Int32} {top_lt : Int32} {rd_t0 : Nat → Int32} {rd_rl : Int32} {rd_rq : Nat} {v1 : Int32} {v2 : Int32} {ra_at : Int32} {cs_cw : Nat → Int32} {cs_ce : Nat → Int32} {cs_cn : Nat → Int32} {cs_cj : Nat → Int32} {cs_cz : Int32} {res : Except String Unit × Int32 × CoS} (C : CX V p l R s m args c A kc ks RX5 cX5_endPlain 3 8 131) (hq : rd_rq < 4) (hf : f5_endPlain v1 v2 (top_tx, top_ln, top_cp, top_cq, top_sq, top_fu, top_lv, top_lt) (rd_t0, 1, rd_rl, rd_rq) ra_at (cs_cw, cs_ce, cs_cn, cs_cj, cs_cz) = some res) (K : (∀ v : Unit, res.1 = .ok v → RV V p l e R s m args below meth c Q A kc ks 3 cX5_endPlain (wC V ad (top_tx, top_ln, top_cp, top_cq, top_sq, top_fu, top_lv, top_lt) (rd_t0, 1, rd_rl, rd_rq) res.2.1 (updC co rd_rq res.2.2) mu fo tr ma mq mx)) ∧ ∀ E : String, res.1 = .error E → XE V p l e R s m args below meth c Q A kc ks 3 RX5 cX5_endPlain E (wC V ad (top_tx, top_ln, top_cp, top_cq, top_sq, top_fu, top_lv, top_lt) (rd_t0, 1, rd_rl, rd_rq) res.2.1 (updC co rd_rq res.2.2) mu fo tr ma mq mx)) : WC V p l e R s m args below meth c Q A kc ks 3 (wC V ad (top_tx, top_ln, top_cp, top_cq, top_sq, top_fu, top_lv, top_lt) (rd_t0, 1, rd_rl, rd_rq) ra_at (updC co rd_rq (cs_cw, cs_ce, cs_cn, cs_cj, cs_cz)) mu fo tr ma mq mx) 0 [(0, .ref (ad 2)), (1, .int v1), (2, .int v2)] [] := by
  rw [f5_endPlain] at hf
  refine k_aload_n C dX5_endPlain_0 0 rfl ?_
  refine k_bipush (v := (59 : Int32)) C dX5_endPlain_1 (by decide) ?_
  obtain ⟨⟨r_2, ra_at_3⟩, hq_1, hf⟩ := ob_el hf
  dsimp only at hf
  rcases r_2 with E | _u
  · try dsimp only at hf
    cases hf
    exact k_callVvx C (x5_take C.2.2.2.2.2.2.2.2.2.1 hq_1 rfl) cm5_56 ok5_take (by decide) 2 rfl rfl rfl rfl (Nat.le_of_ble_eq_true rfl) dX5_endPlain_3 (K.2 _ rfl)
  try dsimp only at hf
  refine k_callVv C (c5_take C.2.2.2.2.2.2.2.2.2.1 hq_1 rfl) cm5_56 ok5_take (by decide) 2 rfl rfl rfl rfl (Nat.le_of_ble_eq_true rfl) dX5_endPlain_3 ?_
  refine k_aload_n C dX5_endPlain_6 0 rfl ?_
  refine g5_25 C dX5_endPlain_7 ?_
  refine k_iload_n C dX5_endPlain_10 1 rfl ?_
  refine k_aload_n C dX5_endPlain_11 0 rfl ?_
  refine g5_19 C dX5_endPlain_12 ?_
  refine k_iload_n C dX5_endPlain_15 2 rfl ?_
  obtain ⟨⟨r_5, ⟨cs_cw_6, cs_ce_7, cs_cn_8, cs_cj_9, cs_cz_10⟩⟩, hq_4, hf⟩ := ob_el hf
  dsimp only at hf
  refine k_callCi C hq (c0_add C.2.2.2.2.2.2.2.2.2.1 hq hq_4) cm5_63 ok0_add (by decide) rfl rfl (Nat.le_of_ble_eq_true rfl) dX5_endPlain_16 ?_
  refine k_pop C dX5_endPlain_19 rfl ?_
  cases hf
  exact K.1 _ rfl _ _ dX5_endPlain_20
theorem c5_endPlain {V : EV} {l : Launch} (hl0 : l.stackTraces = false) {ad : Nat → Nat} {co : Nat → CoS} {mu : MuS} {fo : FoS} {tr : TrS} {ma : MaS} {mq : Nat} {mx : MxS} {top_tx : Nat → Int32} {top_ln : Int32} {top_cp : Int32} {top_cq : Nat} {top_sq : Nat} {top_fu : Int32} {top_lv : Int32} {top_lt : Int32} {rd_t0 : Nat → Int32} {rd_rl : Int32} {rd_rq : Nat} {v1 : Int32} {v2 : Int32} {ra_at : Int32} {cs_cw : Nat → Int32} {cs_ce : Nat → Int32} {cs_cn : Nat → Int32} {cs_cj : Nat → Int32} {cs_cz : Int32} {res : Except String Unit × Int32 × CoS} (hq : rd_rq < 4) (hf : f5_endPlain v1 v2 (top_tx, top_ln, top_cp, top_cq, top_sq, top_fu, top_lv, top_lt) (rd_t0, 1, rd_rl, rd_rq) ra_at (cs_cw, cs_ce, cs_cn, cs_cj, cs_cz) = some res) {v : Unit} (hv : res.1 = .ok v) : MV V l yX5_endPlain cX5_endPlain 3 8 131 [.ref (ad 2), .int v1, .int v2] (wC V ad (top_tx, top_ln, top_cp, top_cq, top_sq, top_fu, top_lv, top_lt) (rd_t0, 1, rd_rl, rd_rq) ra_at (updC co rd_rq (cs_cw, cs_ce, cs_cn, cs_cj, cs_cz)) mu fo tr ma mq mx) (wC V ad (top_tx, top_ln, top_cp, top_cq, top_sq, top_fu, top_lv, top_lt) (rd_t0, 1, rd_rl, rd_rq) res.2.1 (updC co rd_rq res.2.2) mu fo tr ma mq mx) :=
  mv_of hl0 (by decide +kernel) (Nat.le_of_ble_eq_true rfl) (fun p e R s m args below meth c Q A C K => b5_endPlain C hq hf ⟨fun v' h' => (by cases hv.symm.trans h'; exact K), fun E h' => (by cases hv.symm.trans h')⟩)
theorem x5_endPlain {V : EV} {l : Launch} (hl0 : l.stackTraces = false) {ad : Nat → Nat} {co : Nat → CoS} {mu : MuS} {fo : FoS} {tr : TrS} {ma : MaS} {mq : Nat} {mx : MxS} {top_tx : Nat → Int32} {top_ln : Int32} {top_cp : Int32} {top_cq : Nat} {top_sq : Nat} {top_fu : Int32} {top_lv : Int32} {top_lt : Int32} {rd_t0 : Nat → Int32} {rd_rl : Int32} {rd_rq : Nat} {v1 : Int32} {v2 : Int32} {ra_at : Int32} {cs_cw : Nat → Int32} {cs_ce : Nat → Int32} {cs_cn : Nat → Int32} {cs_cj : Nat → Int32} {cs_cz : Int32} {res : Except String Unit × Int32 × CoS} (hq : rd_rq < 4) (hf : f5_endPlain v1 v2 (top_tx, top_ln, top_cp, top_cq, top_sq, top_fu, top_lv, top_lt) (rd_t0, 1, rd_rl, rd_rq) ra_at (cs_cw, cs_ce, cs_cn, cs_cj, cs_cz) = some res) {E : String} (hv : res.1 = .error E) : TV V l yX5_endPlain cX5_endPlain 3 8 131 [.ref (ad 2), .int v1, .int v2] (wC V ad (top_tx, top_ln, top_cp, top_cq, top_sq, top_fu, top_lv, top_lt) (rd_t0, 1, rd_rl, rd_rq) ra_at (updC co rd_rq (cs_cw, cs_ce, cs_cn, cs_cj, cs_cz)) mu fo tr ma mq mx) E (wC V ad (top_tx, top_ln, top_cp, top_cq, top_sq, top_fu, top_lv, top_lt) (rd_t0, 1, rd_rl, rd_rq) res.2.1 (updC co rd_rq res.2.2) mu fo tr ma mq mx) :=
  tv_of hl0 (by decide +kernel) (Nat.le_of_ble_eq_true rfl) (fun p e R s m args below meth c Q A C K => b5_endPlain C hq hf ⟨fun v' h' => (by cases hv.symm.trans h'), fun E' h' => (by cases hv.symm.trans h'; exact K)⟩)

theorem cm5_80 : ∀ a ∈ wsCV RX5 80 RX5 yX5_expression cX5_expression 5 none, a ∈ GW := by
  unfold wsCV
  exact (List.forall_mem_cons.mpr ⟨(gw_2 (i := 210) (by decide +kernel) rfl), (List.forall_mem_cons.mpr ⟨(gw_2 (i := 212) (by decide +kernel) rfl), (List.forall_mem_cons.mpr ⟨(gw_p (q := ((yX5_expression, 4) : MethodName × Nat)) (List.mem_append_left _ (List.mem_of_getElem? (i := 11) (by decide +kernel))) rfl), (List.forall_mem_cons.mpr ⟨(gw_1 (i := 2) (by decide +kernel) rfl), (List.forall_mem_cons.mpr ⟨(gw_2 (i := 213) (by decide +kernel) rfl), (List.forall_mem_nil _)⟩)⟩)⟩)⟩)⟩)
theorem cm5_89 : ∀ a ∈ wsCV RX5 89 RX5 yX5_slot cX5_slot 2 (some .int), a ∈ GW := by
  unfold wsCV
  exact (List.forall_mem_cons.mpr ⟨(gw_2 (i := 230) (by decide +kernel) rfl), (List.forall_mem_cons.mpr ⟨(gw_2 (i := 232) (by decide +kernel) rfl), (List.forall_mem_cons.mpr ⟨(gw_p (q := ((yX5_slot, 4) : MethodName × Nat)) (List.mem_append_right _ (List.mem_append_left _ (List.mem_of_getElem? (i := 0) (by decide +kernel)))) rfl), (List.forall_mem_cons.mpr ⟨(gw_1 (i := 2) (by decide +kernel) rfl), (List.forall_mem_cons.mpr ⟨(gw_2 (i := 233) (by decide +kernel) rfl), (List.forall_mem_nil _)⟩)⟩)⟩)⟩)⟩)
theorem cm5_99 : ∀ a ∈ wsCV RX5 99 RX5 yX5_open cX5_open 3 (some .int), a ∈ GW := by
  unfold wsCV
  exact (List.forall_mem_cons.mpr ⟨(gw_2 (i := 130) (by decide +kernel) rfl), (List.forall_mem_cons.mpr ⟨(gw_2 (i := 132) (by decide +kernel) rfl), (List.forall_mem_cons.mpr ⟨(gw_p (q := ((yX5_open, 4) : MethodName × Nat)) (List.mem_append_left _ (List.mem_of_getElem? (i := 7) (by decide +kernel))) rfl), (List.forall_mem_cons.mpr ⟨(gw_1 (i := 2) (by decide +kernel) rfl), (List.forall_mem_cons.mpr ⟨(gw_2 (i := 133) (by decide +kernel) rfl), (List.forall_mem_nil _)⟩)⟩)⟩)⟩)⟩)
theorem cm5_141 : ∀ a ∈ wsCV RX5 141 RX5 yX5_constant cX5_constant 3 none, a ∈ GW := by
  unfold wsCV
  exact (List.forall_mem_cons.mpr ⟨(gw_2 (i := 226) (by decide +kernel) rfl), (List.forall_mem_cons.mpr ⟨(gw_2 (i := 228) (by decide +kernel) rfl), (List.forall_mem_cons.mpr ⟨(gw_p (q := ((yX5_constant, 4) : MethodName × Nat)) (List.mem_append_left _ (List.mem_of_getElem? (i := 15) (by decide +kernel))) rfl), (List.forall_mem_cons.mpr ⟨(gw_1 (i := 2) (by decide +kernel) rfl), (List.forall_mem_cons.mpr ⟨(gw_2 (i := 229) (by decide +kernel) rfl), (List.forall_mem_nil _)⟩)⟩)⟩)⟩)⟩)
theorem ok5_factor : okCV RX5 yX5_factor 1 := by unfold okCV; decide +kernel
def f5_factor (rec : RecT) (v1 : Int32) : TopS → RdS → Int32 → CoS → Option (Except String Unit × Int32 × CoS)
  | (top_tx, top_ln, top_cp, top_cq, top_sq, top_fu, top_lv, top_lt), (rd_t0, rd_rt, rd_rl, rd_rq), ra_at, (cs_cw, cs_ce, cs_cn, cs_cj, cs_cz) =>
    (f5_next (top_tx, top_ln, top_cp, top_cq, top_sq, top_fu, top_lv, top_lt) (rd_t0, 1, rd_rl, rd_rq) ra_at).bind fun r_2 => if r_2 = (40 : Int32) then (f5_open (40 : Int32) v1 (top_tx, top_ln, top_cp, top_cq, top_sq, top_fu, top_lv, top_lt) (rd_t0, 1, rd_rl, rd_rq) ra_at).bind fun (r_24, ra_at_25) => match r_24 with | .error E => some ((.error E), ra_at_25, (cs_cw, cs_ce, cs_cn, cs_cj, cs_cz)) | .ok r_26 => (rec 0 r_26 (top_tx, top_ln, top_cp, top_cq, top_sq, top_fu, top_lv, top_lt) (rd_t0, 1, rd_rl, rd_rq) ra_at_25 (cs_cw, cs_ce, cs_cn, cs_cj, cs_cz)).bind fun (r_28, ra_at_29, (cs_cw_30, cs_ce_31, cs_cn_32, cs_cj_33, cs_cz_34)) => match r_28 with | .error E => some ((.error E), ra_at_29, (cs_cw_30, cs_ce_31, cs_cn_32, cs_cj_33, cs_cz_34)) | .ok _ => (f5_take (41 : Int32) (top_tx, top_ln, top_cp, top_cq, top_sq, top_fu, top_lv, top_lt) (rd_t0, 1, rd_rl, rd_rq) ra_at_29).bind fun (r_36, ra_at_37) => match r_36 with | .error E => some ((.error E), ra_at_37, (cs_cw_30, cs_ce_31, cs_cn_32, cs_cj_33, cs_cz_34)) | .ok _ => some ((.ok ()), ra_at_37, (cs_cw_30, cs_ce_31, cs_cn_32, cs_cj_33, cs_cz_34)) else (f5_nextIsDigit (top_tx, top_ln, top_cp, top_cq, top_sq, top_fu, top_lv, top_lt) (rd_t0, 1, rd_rl, rd_rq) ra_at).bind fun r_4 => if r_4 = 0 then (f5_slot (top_tx, top_ln, top_cp, top_cq, top_sq, top_fu, top_lv, top_lt) (rd_t0, 1, rd_rl, rd_rq) ra_at).bind fun (r_6, ra_at_7) => match r_6 with | .error E => some ((.error E), ra_at_7, (cs_cw, cs_ce, cs_cn, cs_cj, cs_cz)) | .ok r_8 => (f0_add (5 : Int32) ra_at r_8 (cs_cw, cs_ce, cs_cn, cs_cj, cs_cz)).bind fun (r_10, (cs_cw_11, cs_ce_12, cs_cn_13, cs_cj_14, cs_cz_15)) => some ((.ok ()), ra_at_7, (cs_cw_11, cs_ce_12, cs_cn_13, cs_cj_14, cs_cz_15)) else (f5_constant (top_tx, top_ln, top_cp, top_cq, top_sq, top_fu, top_lv, top_lt) (rd_t0, 1, rd_rl, rd_rq) ra_at (cs_cw, cs_ce, cs_cn, cs_cj, cs_cz)).bind fun (ra_at_17, (cs_cw_18, cs_ce_19, cs_cn_20, cs_cj_21, cs_cz_22)) => some ((.ok ()), ra_at_17, (cs_cw_18, cs_ce_19, cs_cn_20, cs_cj_21, cs_cz_22))
set_option maxHeartbeats 4000000 in
set_option maxRecDepth 100000 in
theorem b5_factor {V : EV} {p : Program} {l : Launch} {e : Env} {R : Room} {s : State} {m : MethodId} {args : Array Value} {below : List Frame} {meth : Method} {c : Code} {Q : State → Prop} {A : Nat → Prop} {kc ks : Nat} {ad : Nat → Nat} {co : Nat → CoS} {mu : MuS} {fo : FoS} {tr : TrS} {ma : MaS} {mq : Nat} {mx : MxS} {top_tx : Nat → Int32} {top_ln : Int32} {top_cp : Int32} {top_cq : Nat} {top_sq : Nat} {top_fu : Int32} {top_lv : Int32} {top_lt : Int32} {rd_t0 : Nat → Int32} {rd_rl : Int32} {rd_rq : Nat} {rec : RecT} {F G : Nat} {v1 : Int32} {ra_at : Int32} {cs_cw : Nat → Int32} {cs_ce : Nat → Int32} {cs_cn : Nat → Int32} {cs_cj : Nat → Int32} {cs_cz : Int32} {res : Except String Unit × Int32 × CoS} (C : CX V p l R s m args c A kc ks RX5 cX5_factor 3 (F + 9) (G + 194)) (hq : rd_rq < 4) (hrec : RECOK V l F G rec) (hf : f5_factor rec v1 (top_tx, top_ln, top_cp, top_cq, top_sq, top_fu, top_lv, top_lt) (rd_t0, 1, rd_rl, rd_rq) ra_at (cs_cw, cs_ce, cs_cn, cs_cj, cs_cz) = some res) (K : (∀ v : Unit, res.1 = .ok v → RV V p l e R s m args below meth c Q A kc ks 3 cX5_factor (wC V ad (top_tx, top_ln, top_cp, top_cq, top_sq, top_fu, top_lv, top_lt) (rd_t0, 1, rd_rl, rd_rq) res.2.1 (updC co rd_rq res.2.2) mu fo tr ma mq mx)) ∧ ∀ E : String, res.1 = .error E → XE V p l e R s m args below meth c Q A kc ks 3 RX5 cX5_factor E (wC V ad (top_tx, top_ln, top_cp, top_cq, top_sq, top_fu, top_lv, top_lt) (rd_t0, 1, rd_rl, rd_rq) res.2.1 (updC co rd_rq res.2.2) mu fo tr ma mq mx)) : WC V p l e R s m args below meth c Q A kc ks 3 (wC V ad (top_tx, top_ln, top_cp, top_cq, top_sq, top_fu, top_lv, top_lt) (rd_t0, 1, rd_rl, rd_rq) ra_at (updC co rd_rq (cs_cw, cs_ce, cs_cn, cs_cj, cs_cz)) mu fo tr ma mq mx) 0 [(0, .ref (ad 2)), (1, .int v1)] [] := by
  rw [f5_factor] at hf
  refine k_aload_n C dX5_factor_0 0 rfl ?_
  obtain ⟨r_2, hq_1, hf⟩ := ob_el hf
  refine k_callVi C (c5_next C.2.2.2.2.2.2.2.2.2.1 hq_1) cm5_46 ok5_next ⟨by omega, by have := nK_v; omega⟩ 2 rfl rfl rfl rfl (Nat.le_of_ble_eq_true rfl) dX5_factor_1 ?_
  refine k_bipush (v := (40 : Int32)) C dX5_factor_4 (by decide) ?_
  refine k_icmp_ne C 31 dX5_factor_6 (by decide) (fun hc => ?_) (fun hc => ?_)
  · replace hf := (if_neg hc).symm.trans hf
    refine k_aload_n C dX5_factor_31 0 rfl ?_
    obtain ⟨r_4, hq_3, hf⟩ := ob_el hf
    refine k_callVi C (c5_nextIsDigit C.2.2.2.2.2.2.2.2.2.1 hq_3) cm5_137 ok5_nextIsDigit ⟨by omega, by have := nK_v; omega⟩ 2 rfl rfl rfl rfl (Nat.le_of_ble_eq_true rfl) dX5_factor_32 ?_
    refine k_if_eq C 45 dX5_factor_35 (by decide) (fun hc => ?_) (fun hc => ?_)
    · replace hf := (if_pos hc).symm.trans hf
      refine k_aload_n C dX5_factor_45 0 rfl ?_
      refine g5_19 C dX5_factor_46 ?_
      refine k_istore_n C dX5_factor_49 [(2, .int ra_at), (0, .ref (ad 2)), (1, .int v1)] (by decide) rfl ?_
      refine k_aload_n C dX5_factor_50 1 rfl ?_
      refine g5_25 C dX5_factor_51 ?_
      refine k_iconst (v := (5 : Int32)) C dX5_factor_54 (by decide) ?_
      refine k_iload_n C dX5_factor_55 0 rfl ?_
      refine k_aload_n C dX5_factor_56 1 rfl ?_
      obtain ⟨⟨r_6, ra_at_7⟩, hq_5, hf⟩ := ob_el hf
      dsimp only at hf
      rcases r_6 with E | r_8
      · try dsimp only at hf
        cases hf
        exact k_callVix C (x5_slot C.2.2.2.2.2.2.2.2.2.1 hq_5 rfl) cm5_89 ok5_slot ⟨by omega, by have := nK_v; omega⟩ 2 rfl rfl rfl rfl (Nat.le_of_ble_eq_true rfl) dX5_factor_57 (K.2 _ rfl)
      try dsimp only at hf
      refine k_callVi C (c5_slot C.2.2.2.2.2.2.2.2.2.1 hq_5 rfl) cm5_89 ok5_slot ⟨by omega, by have := nK_v; omega⟩ 2 rfl rfl rfl rfl (Nat.le_of_ble_eq_true rfl) dX5_factor_57 ?_
      obtain ⟨⟨r_10, ⟨cs_cw_11, cs_ce_12, cs_cn_13, cs_cj_14, cs_cz_15⟩⟩, hq_9, hf⟩ := ob_el hf
      dsimp only at hf
      refine k_callCi C hq (c0_add C.2.2.2.2.2.2.2.2.2.1 hq hq_9) cm5_63 ok0_add ⟨by omega, by have := nK_v; omega⟩ rfl rfl (Nat.le_of_ble_eq_true rfl) dX5_factor_60 ?_
      refine k_pop C dX5_factor_63 rfl ?_
      cases hf
      exact K.1 _ rfl _ _ dX5_factor_64
    · replace hf := (if_neg hc).symm.trans hf
      refine k_aload_n C dX5_factor_38 0 rfl ?_
      obtain ⟨⟨ra_at_17, ⟨cs_cw_18, cs_ce_19, cs_cn_20, cs_cj_21, cs_cz_22⟩⟩, hq_16, hf⟩ := ob_el hf
      dsimp only at hf
      refine k_callVv C (c5_constant C.2.2.2.2.2.2.2.2.2.1 hq hq_16) cm5_141 ok5_constant ⟨by omega, by have := nK_v; omega⟩ 2 rfl rfl rfl rfl (Nat.le_of_ble_eq_true rfl) dX5_factor_39 ?_
      refine k_goto C 64 dX5_factor_42 (by decide) ?_
      cases hf
      exact K.1 _ rfl _ _ dX5_factor_64
  · replace hf := (if_pos hc).symm.trans hf
    refine k_aload_n C dX5_factor_9 0 rfl ?_
    refine k_bipush (v := (40 : Int32)) C dX5_factor_10 (by decide) ?_
    refine k_iload_n C dX5_factor_12 1 rfl ?_
    obtain ⟨⟨r_24, ra_at_25⟩, hq_23, hf⟩ := ob_el hf
    dsimp only at hf
    rcases r_24 with E | r_26
    · try dsimp only at hf
      cases hf
      exact k_callVix C (x5_open C.2.2.2.2.2.2.2.2.2.1 hq_23 rfl) cm5_99 ok5_open ⟨by omega, by have := nK_v; omega⟩ 2 rfl rfl rfl rfl (Nat.le_of_ble_eq_true rfl) dX5_factor_13 (K.2 _ rfl)
    try dsimp only at hf
    refine k_callVi C (c5_open C.2.2.2.2.2.2.2.2.2.1 hq_23 rfl) cm5_99 ok5_open ⟨by omega, by have := nK_v; omega⟩ 2 rfl rfl rfl rfl (Nat.le_of_ble_eq_true rfl) dX5_factor_13 ?_
    refine k_istore_n C dX5_factor_16 [(2, .int r_26), (0, .ref (ad 2)), (1, .int v1)] (by decide) rfl ?_
    refine k_aload_n C dX5_factor_17 1 rfl ?_
    refine k_iload_n C dX5_factor_18 0 rfl ?_
    obtain ⟨⟨r_28, ra_at_29, ⟨cs_cw_30, cs_ce_31, cs_cn_32, cs_cj_33, cs_cz_34⟩⟩, hq_27, hf⟩ := ob_el hf
    dsimp only at hf
    rcases r_28 with E | _u
    · try dsimp only at hf
      cases hf
      exact k_callVvx C ((hrec 0 (by decide) hq).2 _ hq_27) cm5_80 ok5_expression ⟨by omega, by have := nK_v; omega⟩ 2 rfl rfl rfl rfl (Nat.le_of_ble_eq_true rfl) dX5_factor_19 (K.2 _ rfl)
    try dsimp only at hf
    refine k_callVv C ((hrec 0 (by decide) hq).1 hq_27) cm5_80 ok5_expression ⟨by omega, by have := nK_v; omega⟩ 2 rfl rfl rfl rfl (Nat.le_of_ble_eq_true rfl) dX5_factor_19 ?_
    refine k_aload_n C dX5_factor_22 1 rfl ?_
    refine k_bipush (v := (41 : Int32)) C dX5_factor_23 (by decide) ?_
    obtain ⟨⟨r_36, ra_at_37⟩, hq_35, hf⟩ := ob_el hf
    dsimp only at hf
    rcases r_36 with E | _u
    · try dsimp only at hf
      cases hf
      exact k_callVvx C (x5_take C.2.2.2.2.2.2.2.2.2.1 hq_35 rfl) cm5_56 ok5_take ⟨by omega, by have := nK_v; omega⟩ 2 rfl rfl rfl rfl (Nat.le_of_ble_eq_true rfl) dX5_factor_25 (K.2 _ rfl)
    try dsimp only at hf
    refine k_callVv C (c5_take C.2.2.2.2.2.2.2.2.2.1 hq_35 rfl) cm5_56 ok5_take ⟨by omega, by have := nK_v; omega⟩ 2 rfl rfl rfl rfl (Nat.le_of_ble_eq_true rfl) dX5_factor_25 ?_
    refine k_goto C 64 dX5_factor_28 (by decide) ?_
    cases hf
    exact K.1 _ rfl _ _ dX5_factor_64
theorem c5_factor {V : EV} {l : Launch} (hl0 : l.stackTraces = false) {ad : Nat → Nat} {co : Nat → CoS} {mu : MuS} {fo : FoS} {tr : TrS} {ma : MaS} {mq : Nat} {mx : MxS} {top_tx : Nat → Int32} {top_ln : Int32} {top_cp : Int32} {top_cq : Nat} {top_sq : Nat} {top_fu : Int32} {top_lv : Int32} {top_lt : Int32} {rd_t0 : Nat → Int32} {rd_rl : Int32} {rd_rq : Nat} {v1 : Int32} {ra_at : Int32} {cs_cw : Nat → Int32} {cs_ce : Nat → Int32} {cs_cn : Nat → Int32} {cs_cj : Nat → Int32} {cs_cz : Int32} {res : Except String Unit × Int32 × CoS} {rec : RecT} {F G : Nat} (hrec : RECOK V l F G rec) (hq : rd_rq < 4) (hf : f5_factor rec v1 (top_tx, top_ln, top_cp, top_cq, top_sq, top_fu, top_lv, top_lt) (rd_t0, 1, rd_rl, rd_rq) ra_at (cs_cw, cs_ce, cs_cn, cs_cj, cs_cz) = some res) {v : Unit} (hv : res.1 = .ok v) : MV V l yX5_factor cX5_factor 3 (F + 9) (G + 194) [.ref (ad 2), .int v1] (wC V ad (top_tx, top_ln, top_cp, top_cq, top_sq, top_fu, top_lv, top_lt) (rd_t0, 1, rd_rl, rd_rq) ra_at (updC co rd_rq (cs_cw, cs_ce, cs_cn, cs_cj, cs_cz)) mu fo tr ma mq mx) (wC V ad (top_tx, top_ln, top_cp, top_cq, top_sq, top_fu, top_lv, top_lt) (rd_t0, 1, rd_rl, rd_rq) res.2.1 (updC co rd_rq res.2.2) mu fo tr ma mq mx) :=
  mv_of hl0 (by decide +kernel) (Nat.le_of_ble_eq_true rfl) (fun p e R s m args below meth c Q A C K => b5_factor C hq hrec hf ⟨fun v' h' => (by cases hv.symm.trans h'; exact K), fun E h' => (by cases hv.symm.trans h')⟩)
theorem x5_factor {V : EV} {l : Launch} (hl0 : l.stackTraces = false) {ad : Nat → Nat} {co : Nat → CoS} {mu : MuS} {fo : FoS} {tr : TrS} {ma : MaS} {mq : Nat} {mx : MxS} {top_tx : Nat → Int32} {top_ln : Int32} {top_cp : Int32} {top_cq : Nat} {top_sq : Nat} {top_fu : Int32} {top_lv : Int32} {top_lt : Int32} {rd_t0 : Nat → Int32} {rd_rl : Int32} {rd_rq : Nat} {v1 : Int32} {ra_at : Int32} {cs_cw : Nat → Int32} {cs_ce : Nat → Int32} {cs_cn : Nat → Int32} {cs_cj : Nat → Int32} {cs_cz : Int32} {res : Except String Unit × Int32 × CoS} {rec : RecT} {F G : Nat} (hrec : RECOK V l F G rec) (hq : rd_rq < 4) (hf : f5_factor rec v1 (top_tx, top_ln, top_cp, top_cq, top_sq, top_fu, top_lv, top_lt) (rd_t0, 1, rd_rl, rd_rq) ra_at (cs_cw, cs_ce, cs_cn, cs_cj, cs_cz) = some res) {E : String} (hv : res.1 = .error E) : TV V l yX5_factor cX5_factor 3 (F + 9) (G + 194) [.ref (ad 2), .int v1] (wC V ad (top_tx, top_ln, top_cp, top_cq, top_sq, top_fu, top_lv, top_lt) (rd_t0, 1, rd_rl, rd_rq) ra_at (updC co rd_rq (cs_cw, cs_ce, cs_cn, cs_cj, cs_cz)) mu fo tr ma mq mx) E (wC V ad (top_tx, top_ln, top_cp, top_cq, top_sq, top_fu, top_lv, top_lt) (rd_t0, 1, rd_rl, rd_rq) res.2.1 (updC co rd_rq res.2.2) mu fo tr ma mq mx) :=
  tv_of hl0 (by decide +kernel) (Nat.le_of_ble_eq_true rfl) (fun p e R s m args below meth c Q A C K => b5_factor C hq hrec hf ⟨fun v' h' => (by cases hv.symm.trans h'), fun E' h' => (by cases hv.symm.trans h'; exact K)⟩)

theorem cm5_132 : ∀ a ∈ wsCV RX5 132 RX5 yX5_factor cX5_factor 3 none, a ∈ GW := by
  unfold wsCV
  exact (List.forall_mem_cons.mpr ⟨(gw_2 (i := 218) (by decide +kernel) rfl), (List.forall_mem_cons.mpr ⟨(gw_2 (i := 220) (by decide +kernel) rfl), (List.forall_mem_cons.mpr ⟨(gw_p (q := ((yX5_factor, 4) : MethodName × Nat)) (List.mem_append_left _ (List.mem_of_getElem? (i := 13) (by decide +kernel))) rfl), (List.forall_mem_cons.mpr ⟨(gw_1 (i := 2) (by decide +kernel) rfl), (List.forall_mem_cons.mpr ⟨(gw_2 (i := 221) (by decide +kernel) rfl), (List.forall_mem_nil _)⟩)⟩)⟩)⟩)⟩)
theorem ok5_term : okCV RX5 yX5_term 1 := by unfold okCV; decide +kernel
def f5_term_L7 (k66 : Int32 → CoS → Option (Except String Unit × Int32 × CoS)) (N : Nat) (rec : RecT) (top_tx : Nat → Int32) (top_ln : Int32) (top_cp : Int32) (top_cq : Nat) (top_sq : Nat) (top_fu : Int32) (top_lv : Int32) (top_lt : Int32) (rd_t0 : Nat → Int32) (rd_rt : Nat) (rd_rl : Int32) (rd_rq : Nat) : Nat → Int32 → Int32 → Int32 → CoS → Option (Except String Unit × Int32 × CoS)
  | 0, _, _, _, _ => none
  | n + 1, x1, x2, ra_at, (cs_cw, cs_ce, cs_cn, cs_cj, cs_cz) =>
    if (60 : Int32) ≤ x2 then k66 ra_at (cs_cw, cs_ce, cs_cn, cs_cj, cs_cz) else (f5_nextIsOneOf 4 (top_tx, top_ln, top_cp, top_cq, top_sq, top_fu, top_lv, top_lt) (rd_t0, 1, rd_rl, rd_rq) ra_at).bind fun r_10 => if r_10 = 0 then k66 ra_at (cs_cw, cs_ce, cs_cn, cs_cj, cs_cz) else (f5_next (top_tx, top_ln, top_cp, top_cq, top_sq, top_fu, top_lv, top_lt) (rd_t0, 1, rd_rl, rd_rq) ra_at).bind fun r_12 => (f5_factor rec x1 (top_tx, top_ln, top_cp, top_cq, top_sq, top_fu, top_lv, top_lt) (rd_t0, 1, rd_rl, rd_rq) (ra_at + (1 : Int32)) (cs_cw, cs_ce, cs_cn, cs_cj, cs_cz)).bind fun (r_14, ra_at_15, (cs_cw_16, cs_ce_17, cs_cn_18, cs_cj_19, cs_cz_20)) => match r_14 with | .error E => some ((.error E), ra_at_15, (cs_cw_16, cs_ce_17, cs_cn_18, cs_cj_19, cs_cz_20)) | .ok _ => (f0_add (0 : Int32) ra_at r_12 (cs_cw_16, cs_ce_17, cs_cn_18, cs_cj_19, cs_cz_20)).bind fun (r_22, (cs_cw_23, cs_ce_24, cs_cn_25, cs_cj_26, cs_cz_27)) => nm_v (x2 + (1 : Int32)) (fun v2_28 => f5_term_L7 k66 N rec top_tx top_ln top_cp top_cq top_sq top_fu top_lv top_lt rd_t0 rd_rt rd_rl rd_rq n x1 v2_28 ra_at_15 (cs_cw_23, cs_ce_24, cs_cn_25, cs_cj_26, cs_cz_27))
def f5_term (rec : RecT) (N : Nat) (v1 : Int32) : TopS → RdS → Int32 → CoS → Option (Except String Unit × Int32 × CoS)
  | (top_tx, top_ln, top_cp, top_cq, top_sq, top_fu, top_lv, top_lt), (rd_t0, rd_rt, rd_rl, rd_rq), ra_at, (cs_cw, cs_ce, cs_cn, cs_cj, cs_cz) =>
    (f5_factor rec v1 (top_tx, top_ln, top_cp, top_cq, top_sq, top_fu, top_lv, top_lt) (rd_t0, 1, rd_rl, rd_rq) ra_at (cs_cw, cs_ce, cs_cn, cs_cj, cs_cz)).bind fun (r_2, ra_at_3, (cs_cw_4, cs_ce_5, cs_cn_6, cs_cj_7, cs_cz_8)) => match r_2 with | .error E => some ((.error E), ra_at_3, (cs_cw_4, cs_ce_5, cs_cn_6, cs_cj_7, cs_cz_8)) | .ok _ => f5_term_L7 (fun ra_at_29 (cs_cw_29, cs_ce_29, cs_cn_29, cs_cj_29, cs_cz_29) => some ((.ok ()), ra_at_29, (cs_cw_29, cs_ce_29, cs_cn_29, cs_cj_29, cs_cz_29))) N rec top_tx top_ln top_cp top_cq top_sq top_fu top_lv top_lt rd_t0 rd_rt rd_rl rd_rq N v1 (0 : Int32) ra_at_3 (cs_cw_4, cs_ce_5, cs_cn_6, cs_cj_7, cs_cz_8)
set_option maxHeartbeats 4000000 in
set_option maxRecDepth 100000 in
theorem w5_term_L7 {V : EV} {p : Program} {l : Launch} {e : Env} {R : Room} {s : State} {m : MethodId} {args : Array Value} {below : List Frame} {meth : Method} {c : Code} {Q : State → Prop} {A : Nat → Prop} {kc ks : Nat} {ad : Nat → Nat} {co : Nat → CoS} {mu : MuS} {fo : FoS} {tr : TrS} {ma : MaS} {mq : Nat} {mx : MxS} {top_tx : Nat → Int32} {top_ln : Int32} {top_cp : Int32} {top_cq : Nat} {top_sq : Nat} {top_fu : Int32} {top_lv : Int32} {top_lt : Int32} {rd_t0 : Nat → Int32} {rd_rl : Int32} {rd_rq : Nat} {rec : RecT} {F G : Nat} {k66 : Int32 → CoS → Option (Except String Unit × Int32 × CoS)} {N : Nat} {res : Except String Unit × Int32 × CoS} (C : CX V p l R s m args c A kc ks RX5 cX5_term 5 (F + 10) (G + 216)) (hq : rd_rq < 4) (hrec : RECOK V l F G rec) (K : (∀ v : Unit, res.1 = .ok v → RV V p l e R s m args below meth c Q A kc ks 5 cX5_term (wC V ad (top_tx, top_ln, top_cp, top_cq, top_sq, top_fu, top_lv, top_lt) (rd_t0, 1, rd_rl, rd_rq) res.2.1 (updC co rd_rq res.2.2) mu fo tr ma mq mx)) ∧ ∀ E : String, res.1 = .error E → XE V p l e R s m args below meth c Q A kc ks 5 RX5 cX5_term E (wC V ad (top_tx, top_ln, top_cp, top_cq, top_sq, top_fu, top_lv, top_lt) (rd_t0, 1, rd_rl, rd_rq) res.2.1 (updC co rd_rq res.2.2) mu fo tr ma mq mx)) (hk66 : ∀  (ra_at : Int32) (cs_cw : Nat → Int32) (cs_ce : Nat → Int32) (cs_cn : Nat → Int32) (cs_cj : Nat → Int32) (cs_cz : Int32), k66 ra_at (cs_cw, cs_ce, cs_cn, cs_cj, cs_cz) = some res → WC V p l e R s m args below meth c Q A kc ks 5 (wC V ad (top_tx, top_ln, top_cp, top_cq, top_sq, top_fu, top_lv, top_lt) (rd_t0, 1, rd_rl, rd_rq) ra_at (updC co rd_rq (cs_cw, cs_ce, cs_cn, cs_cj, cs_cz)) mu fo tr ma mq mx) 66 [] []) : ∀ (n : Nat) (x1 : Int32) (x2 : Int32) (ra_at : Int32) (cs_cw : Nat → Int32) (cs_ce : Nat → Int32) (cs_cn : Nat → Int32) (cs_cj : Nat → Int32) (cs_cz : Int32), f5_term_L7 k66 N rec top_tx top_ln top_cp top_cq top_sq top_fu top_lv top_lt rd_t0 1 rd_rl rd_rq n x1 x2 ra_at (cs_cw, cs_ce, cs_cn, cs_cj, cs_cz) = some res → WC V p l e R s m args below meth c Q A kc ks 5 (wC V ad (top_tx, top_ln, top_cp, top_cq, top_sq, top_fu, top_lv, top_lt) (rd_t0, 1, rd_rl, rd_rq) ra_at (updC co rd_rq (cs_cw, cs_ce, cs_cn, cs_cj, cs_cz)) mu fo tr ma mq mx) 7 [(0, .ref (ad 2)), (1, .int x1), (2, .int x2)] [] := by
  intro n
  induction n with
  | zero => intro _ _ _ _ _ _ _ _ hf; exact nomatch (show none = some res from hf)
  | succ n ih =>
    intro x1 x2 ra_at cs_cw cs_ce cs_cn cs_cj cs_cz hf
    rw [f5_term_L7] at hf
    refine k_iload_n C dX5_term_7 2 rfl ?_
    refine k_bipush (v := (60 : Int32)) C dX5_term_8 (by decide) ?_
    refine k_icmp_ge C 66 dX5_term_10 (by decide) (fun hc => ?_) (fun hc => ?_)
    · replace hf := (if_pos hc).symm.trans hf
      refine k_sub [] (L' := []) rfl ?_
      exact hk66 _ _ _ _ _ _ hf
    · replace hf := (if_neg hc).symm.trans hf
      refine k_aload_n C dX5_term_13 0 rfl ?_
      refine k_ldcS (tx := "*/%") (j := 4) C (by decide +kernel) dX5_term_14 ?_
      obtain ⟨r_10, hq_9, hf⟩ := ob_el hf
      refine k_callVi C (c5_nextIsOneOf C.2.2.2.2.2.2.2.2.2.1 (by decide) hq_9) cm5_123 ok5_nextIsOneOf ⟨by omega, by have := nK_v; omega⟩ 2 rfl rfl rfl rfl (Nat.le_of_ble_eq_true rfl) dX5_term_16 ?_
      refine k_if_eq C 66 dX5_term_19 (by decide) (fun hc => ?_) (fun hc => ?_)
      · replace hf := (if_pos hc).symm.trans hf
        refine k_sub [] (L' := []) rfl ?_
        exact hk66 _ _ _ _ _ _ hf
      · replace hf := (if_neg hc).symm.trans hf
        refine k_aload_n C dX5_term_22 0 rfl ?_
        refine g5_19 C dX5_term_23 ?_
        refine k_istore_n C dX5_term_26 [(3, .int ra_at), (0, .ref (ad 2)), (1, .int x1), (2, .int x2)] (by decide) rfl ?_
        refine k_aload_n C dX5_term_27 1 rfl ?_
        obtain ⟨r_12, hq_11, hf⟩ := ob_el hf
        refine k_callVi C (c5_next C.2.2.2.2.2.2.2.2.2.1 hq_11) cm5_46 ok5_next ⟨by omega, by have := nK_v; omega⟩ 2 rfl rfl rfl rfl (Nat.le_of_ble_eq_true rfl) dX5_term_28 ?_
        refine k_istore C dX5_term_31 [(4, .int r_12), (3, .int ra_at), (0, .ref (ad 2)), (1, .int x1), (2, .int x2)] (by decide) rfl ?_
        refine k_aload_n C dX5_term_33 2 rfl ?_
        refine k_dup C dX5_term_34 rfl ?_
        refine g5_19 C dX5_term_35 ?_
        refine k_iconst (v := (1 : Int32)) C dX5_term_38 (by decide) ?_
        refine k_iadd C dX5_term_39 ?_
        refine p5_19 C dX5_term_40 ?_
        refine k_aload_n C dX5_term_43 2 rfl ?_
        refine k_iload_n C dX5_term_44 3 rfl ?_
        obtain ⟨⟨r_14, ra_at_15, ⟨cs_cw_16, cs_ce_17, cs_cn_18, cs_cj_19, cs_cz_20⟩⟩, hq_13, hf⟩ := ob_el hf
        dsimp only at hf
        rcases r_14 with E | _u
        · try dsimp only at hf
          cases hf
          exact k_callVvx C (x5_factor C.2.2.2.2.2.2.2.2.2.1 hrec hq hq_13 rfl) cm5_132 ok5_factor ⟨by omega, by have := nK_v; omega⟩ 2 rfl rfl rfl rfl (Nat.le_of_ble_eq_true rfl) dX5_term_45 (K.2 _ rfl)
        try dsimp only at hf
        refine k_callVv C (c5_factor C.2.2.2.2.2.2.2.2.2.1 hrec hq hq_13 rfl) cm5_132 ok5_factor ⟨by omega, by have := nK_v; omega⟩ 2 rfl rfl rfl rfl (Nat.le_of_ble_eq_true rfl) dX5_term_45 ?_
        refine k_aload_n C dX5_term_48 2 rfl ?_
        refine g5_25 C dX5_term_49 ?_
        refine k_iconst (v := (0 : Int32)) C dX5_term_52 (by decide) ?_
        refine k_iload_n C dX5_term_53 1 rfl ?_
        refine k_iload C dX5_term_54 0 rfl ?_
        obtain ⟨⟨r_22, ⟨cs_cw_23, cs_ce_24, cs_cn_25, cs_cj_26, cs_cz_27⟩⟩, hq_21, hf⟩ := ob_el hf
        dsimp only at hf
        refine k_callCi C hq (c0_add C.2.2.2.2.2.2.2.2.2.1 hq hq_21) cm5_63 ok0_add ⟨by omega, by have := nK_v; omega⟩ rfl rfl (Nat.le_of_ble_eq_true rfl) dX5_term_56 ?_
        refine k_pop C dX5_term_59 rfl ?_
        obtain ⟨v2_28, ev2_28⟩ : ∃ y : Int32, y = x2 + (1 : Int32) := ⟨_, rfl⟩
        replace hf := nm_el hf ev2_28
        refine k_iinc (v := v2_28) C dX5_term_60 4 rfl (by rw [ev2_28]; rfl) [(2, .int v2_28), (4, .int r_12), (3, .int ra_at), (0, .ref (ad 2)), (1, .int x1)] (by decide) rfl ?_
        refine k_goto C 7 dX5_term_63 (by decide) ?_
        refine k_sub [3, 4, 0] (L' := [(0, .ref (ad 2)), (1, .int x1), (2, .int v2_28)]) rfl ?_
        exact ih _ _ _ _ _ _ _ _ hf
set_option maxHeartbeats 4000000 in
set_option maxRecDepth 100000 in
theorem b5_term {V : EV} {p : Program} {l : Launch} {e : Env} {R : Room} {s : State} {m : MethodId} {args : Array Value} {below : List Frame} {meth : Method} {c : Code} {Q : State → Prop} {A : Nat → Prop} {kc ks : Nat} {ad : Nat → Nat} {co : Nat → CoS} {mu : MuS} {fo : FoS} {tr : TrS} {ma : MaS} {mq : Nat} {mx : MxS} {top_tx : Nat → Int32} {top_ln : Int32} {top_cp : Int32} {top_cq : Nat} {top_sq : Nat} {top_fu : Int32} {top_lv : Int32} {top_lt : Int32} {rd_t0 : Nat → Int32} {rd_rl : Int32} {rd_rq : Nat} {rec : RecT} {F G : Nat} {v1 : Int32} {ra_at : Int32} {cs_cw : Nat → Int32} {cs_ce : Nat → Int32} {cs_cn : Nat → Int32} {cs_cj : Nat → Int32} {cs_cz : Int32} {N : Nat} {res : Except String Unit × Int32 × CoS} (C : CX V p l R s m args c A kc ks RX5 cX5_term 5 (F + 10) (G + 216)) (hq : rd_rq < 4) (hrec : RECOK V l F G rec) (hf : f5_term rec N v1 (top_tx, top_ln, top_cp, top_cq, top_sq, top_fu, top_lv, top_lt) (rd_t0, 1, rd_rl, rd_rq) ra_at (cs_cw, cs_ce, cs_cn, cs_cj, cs_cz) = some res) (K : (∀ v : Unit, res.1 = .ok v → RV V p l e R s m args below meth c Q A kc ks 5 cX5_term (wC V ad (top_tx, top_ln, top_cp, top_cq, top_sq, top_fu, top_lv, top_lt) (rd_t0, 1, rd_rl, rd_rq) res.2.1 (updC co rd_rq res.2.2) mu fo tr ma mq mx)) ∧ ∀ E : String, res.1 = .error E → XE V p l e R s m args below meth c Q A kc ks 5 RX5 cX5_term E (wC V ad (top_tx, top_ln, top_cp, top_cq, top_sq, top_fu, top_lv, top_lt) (rd_t0, 1, rd_rl, rd_rq) res.2.1 (updC co rd_rq res.2.2) mu fo tr ma mq mx)) : WC V p l e R s m args below meth c Q A kc ks 5 (wC V ad (top_tx, top_ln, top_cp, top_cq, top_sq, top_fu, top_lv, top_lt) (rd_t0, 1, rd_rl, rd_rq) ra_at (updC co rd_rq (cs_cw, cs_ce, cs_cn, cs_cj, cs_cz)) mu fo tr ma mq mx) 0 [(0, .ref (ad 2)), (1, .int v1)] [] := by
  rw [f5_term] at hf
  refine k_aload_n C dX5_term_0 0 rfl ?_
  refine k_iload_n C dX5_term_1 1 rfl ?_
  obtain ⟨⟨r_2, ra_at_3, ⟨cs_cw_4, cs_ce_5, cs_cn_6, cs_cj_7, cs_cz_8⟩⟩, hq_1, hf⟩ := ob_el hf
  dsimp only at hf
  rcases r_2 with E | _u
  · try dsimp only at hf
    cases hf
    exact k_callVvx C (x5_factor C.2.2.2.2.2.2.2.2.2.1 hrec hq hq_1 rfl) cm5_132 ok5_factor ⟨by omega, by have := nK_v; omega⟩ 2 rfl rfl rfl rfl (Nat.le_of_ble_eq_true rfl) dX5_term_2 (K.2 _ rfl)
  try dsimp only at hf
  refine k_callVv C (c5_factor C.2.2.2.2.2.2.2.2.2.1 hrec hq hq_1 rfl) cm5_132 ok5_factor ⟨by omega, by have := nK_v; omega⟩ 2 rfl rfl rfl rfl (Nat.le_of_ble_eq_true rfl) dX5_term_2 ?_
  refine k_iconst (v := (0 : Int32)) C dX5_term_5 (by decide) ?_
  refine k_istore_n C dX5_term_6 [(2, .int (0 : Int32)), (0, .ref (ad 2)), (1, .int v1)] (by decide) rfl ?_
  refine k_sub [1, 2, 0] (L' := [(0, .ref (ad 2)), (1, .int v1), (2, .int (0 : Int32))]) rfl ?_
  refine w5_term_L7 C hq hrec K ?_ _ _ _ _ _ _ _ _ _ hf
  · intro ra_at_29 cs_cw_29 cs_ce_29 cs_cn_29 cs_cj_29 cs_cz_29 hf
    try dsimp only at hf
    cases hf
    exact K.1 _ rfl _ _ dX5_term_66
theorem c5_term {V : EV} {l : Launch} (hl0 : l.stackTraces = false) {ad : Nat → Nat} {co : Nat → CoS} {mu : MuS} {fo : FoS} {tr : TrS} {ma : MaS} {mq : Nat} {mx : MxS} {top_tx : Nat → Int32} {top_ln : Int32} {top_cp : Int32} {top_cq : Nat} {top_sq : Nat} {top_fu : Int32} {top_lv : Int32} {top_lt : Int32} {rd_t0 : Nat → Int32} {rd_rl : Int32} {rd_rq : Nat} {v1 : Int32} {ra_at : Int32} {cs_cw : Nat → Int32} {cs_ce : Nat → Int32} {cs_cn : Nat → Int32} {cs_cj : Nat → Int32} {cs_cz : Int32} {N : Nat} {res : Except String Unit × Int32 × CoS} {rec : RecT} {F G : Nat} (hrec : RECOK V l F G rec) (hq : rd_rq < 4) (hf : f5_term rec N v1 (top_tx, top_ln, top_cp, top_cq, top_sq, top_fu, top_lv, top_lt) (rd_t0, 1, rd_rl, rd_rq) ra_at (cs_cw, cs_ce, cs_cn, cs_cj, cs_cz) = some res) {v : Unit} (hv : res.1 = .ok v) : MV V l yX5_term cX5_term 5 (F + 10) (G + 216) [.ref (ad 2), .int v1] (wC V ad (top_tx, top_ln, top_cp, top_cq, top_sq, top_fu, top_lv, top_lt) (rd_t0, 1, rd_rl, rd_rq) ra_at (updC co rd_rq (cs_cw, cs_ce, cs_cn, cs_cj, cs_cz)) mu fo tr ma mq mx) (wC V ad (top_tx, top_ln, top_cp, top_cq, top_sq, top_fu, top_lv, top_lt) (rd_t0, 1, rd_rl, rd_rq) res.2.1 (updC co rd_rq res.2.2) mu fo tr ma mq mx) :=
  mv_of hl0 (by decide +kernel) (Nat.le_of_ble_eq_true rfl) (fun p e R s m args below meth c Q A C K => b5_term C hq hrec hf ⟨fun v' h' => (by cases hv.symm.trans h'; exact K), fun E h' => (by cases hv.symm.trans h')⟩)
theorem x5_term {V : EV} {l : Launch} (hl0 : l.stackTraces = false) {ad : Nat → Nat} {co : Nat → CoS} {mu : MuS} {fo : FoS} {tr : TrS} {ma : MaS} {mq : Nat} {mx : MxS} {top_tx : Nat → Int32} {top_ln : Int32} {top_cp : Int32} {top_cq : Nat} {top_sq : Nat} {top_fu : Int32} {top_lv : Int32} {top_lt : Int32} {rd_t0 : Nat → Int32} {rd_rl : Int32} {rd_rq : Nat} {v1 : Int32} {ra_at : Int32} {cs_cw : Nat → Int32} {cs_ce : Nat → Int32} {cs_cn : Nat → Int32} {cs_cj : Nat → Int32} {cs_cz : Int32} {N : Nat} {res : Except String Unit × Int32 × CoS} {rec : RecT} {F G : Nat} (hrec : RECOK V l F G rec) (hq : rd_rq < 4) (hf : f5_term rec N v1 (top_tx, top_ln, top_cp, top_cq, top_sq, top_fu, top_lv, top_lt) (rd_t0, 1, rd_rl, rd_rq) ra_at (cs_cw, cs_ce, cs_cn, cs_cj, cs_cz) = some res) {E : String} (hv : res.1 = .error E) : TV V l yX5_term cX5_term 5 (F + 10) (G + 216) [.ref (ad 2), .int v1] (wC V ad (top_tx, top_ln, top_cp, top_cq, top_sq, top_fu, top_lv, top_lt) (rd_t0, 1, rd_rl, rd_rq) ra_at (updC co rd_rq (cs_cw, cs_ce, cs_cn, cs_cj, cs_cz)) mu fo tr ma mq mx) E (wC V ad (top_tx, top_ln, top_cp, top_cq, top_sq, top_fu, top_lv, top_lt) (rd_t0, 1, rd_rl, rd_rq) res.2.1 (updC co rd_rq res.2.2) mu fo tr ma mq mx) :=
  tv_of hl0 (by decide +kernel) (Nat.le_of_ble_eq_true rfl) (fun p e R s m args below meth c Q A C K => b5_term C hq hrec hf ⟨fun v' h' => (by cases hv.symm.trans h'), fun E' h' => (by cases hv.symm.trans h'; exact K)⟩)

theorem cm5_127 : ∀ a ∈ wsCV RX5 127 RX5 yX5_term cX5_term 5 none, a ∈ GW := by
  unfold wsCV
  exact (List.forall_mem_cons.mpr ⟨(gw_2 (i := 214) (by decide +kernel) rfl), (List.forall_mem_cons.mpr ⟨(gw_2 (i := 216) (by decide +kernel) rfl), (List.forall_mem_cons.mpr ⟨(gw_p (q := ((yX5_term, 4) : MethodName × Nat)) (List.mem_append_left _ (List.mem_of_getElem? (i := 12) (by decide +kernel))) rfl), (List.forall_mem_cons.mpr ⟨(gw_1 (i := 2) (by decide +kernel) rfl), (List.forall_mem_cons.mpr ⟨(gw_2 (i := 217) (by decide +kernel) rfl), (List.forall_mem_nil _)⟩)⟩)⟩)⟩)⟩)
def f5_expression_L7 (k66 : Int32 → CoS → Option (Except String Unit × Int32 × CoS)) (N : Nat) (rec : RecT) (top_tx : Nat → Int32) (top_ln : Int32) (top_cp : Int32) (top_cq : Nat) (top_sq : Nat) (top_fu : Int32) (top_lv : Int32) (top_lt : Int32) (rd_t0 : Nat → Int32) (rd_rt : Nat) (rd_rl : Int32) (rd_rq : Nat) : Nat → Int32 → Int32 → Int32 → CoS → Option (Except String Unit × Int32 × CoS)
  | 0, _, _, _, _ => none
  | n + 1, x1, x2, ra_at, (cs_cw, cs_ce, cs_cn, cs_cj, cs_cz) =>
    if (60 : Int32) ≤ x2 then k66 ra_at (cs_cw, cs_ce, cs_cn, cs_cj, cs_cz) else (f5_nextIsOneOf 3 (top_tx, top_ln, top_cp, top_cq, top_sq, top_fu, top_lv, top_lt) (rd_t0, 1, rd_rl, rd_rq) ra_at).bind fun r_10 => if r_10 = 0 then k66 ra_at (cs_cw, cs_ce, cs_cn, cs_cj, cs_cz) else (f5_next (top_tx, top_ln, top_cp, top_cq, top_sq, top_fu, top_lv, top_lt) (rd_t0, 1, rd_rl, rd_rq) ra_at).bind fun r_12 => (f5_term rec N x1 (top_tx, top_ln, top_cp, top_cq, top_sq, top_fu, top_lv, top_lt) (rd_t0, 1, rd_rl, rd_rq) (ra_at + (1 : Int32)) (cs_cw, cs_ce, cs_cn, cs_cj, cs_cz)).bind fun (r_14, ra_at_15, (cs_cw_16, cs_ce_17, cs_cn_18, cs_cj_19, cs_cz_20)) => match r_14 with | .error E => some ((.error E), ra_at_15, (cs_cw_16, cs_ce_17, cs_cn_18, cs_cj_19, cs_cz_20)) | .ok _ => (f0_add (0 : Int32) ra_at r_12 (cs_cw_16, cs_ce_17, cs_cn_18, cs_cj_19, cs_cz_20)).bind fun (r_22, (cs_cw_23, cs_ce_24, cs_cn_25, cs_cj_26, cs_cz_27)) => nm_v (x2 + (1 : Int32)) (fun v2_28 => f5_expression_L7 k66 N rec top_tx top_ln top_cp top_cq top_sq top_fu top_lv top_lt rd_t0 rd_rt rd_rl rd_rq n x1 v2_28 ra_at_15 (cs_cw_23, cs_ce_24, cs_cn_25, cs_cj_26, cs_cz_27))
def f5_expression (rec : RecT) (N : Nat) (v1 : Int32) : TopS → RdS → Int32 → CoS → Option (Except String Unit × Int32 × CoS)
  | (top_tx, top_ln, top_cp, top_cq, top_sq, top_fu, top_lv, top_lt), (rd_t0, rd_rt, rd_rl, rd_rq), ra_at, (cs_cw, cs_ce, cs_cn, cs_cj, cs_cz) =>
    (f5_term rec N v1 (top_tx, top_ln, top_cp, top_cq, top_sq, top_fu, top_lv, top_lt) (rd_t0, 1, rd_rl, rd_rq) ra_at (cs_cw, cs_ce, cs_cn, cs_cj, cs_cz)).bind fun (r_2, ra_at_3, (cs_cw_4, cs_ce_5, cs_cn_6, cs_cj_7, cs_cz_8)) => match r_2 with | .error E => some ((.error E), ra_at_3, (cs_cw_4, cs_ce_5, cs_cn_6, cs_cj_7, cs_cz_8)) | .ok _ => f5_expression_L7 (fun ra_at_29 (cs_cw_29, cs_ce_29, cs_cn_29, cs_cj_29, cs_cz_29) => some ((.ok ()), ra_at_29, (cs_cw_29, cs_ce_29, cs_cn_29, cs_cj_29, cs_cz_29))) N rec top_tx top_ln top_cp top_cq top_sq top_fu top_lv top_lt rd_t0 rd_rt rd_rl rd_rq N v1 (0 : Int32) ra_at_3 (cs_cw_4, cs_ce_5, cs_cn_6, cs_cj_7, cs_cz_8)
set_option maxHeartbeats 4000000 in
set_option maxRecDepth 100000 in
theorem w5_expression_L7 {V : EV} {p : Program} {l : Launch} {e : Env} {R : Room} {s : State} {m : MethodId} {args : Array Value} {below : List Frame} {meth : Method} {c : Code} {Q : State → Prop} {A : Nat → Prop} {kc ks : Nat} {ad : Nat → Nat} {co : Nat → CoS} {mu : MuS} {fo : FoS} {tr : TrS} {ma : MaS} {mq : Nat} {mx : MxS} {top_tx : Nat → Int32} {top_ln : Int32} {top_cp : Int32} {top_cq : Nat} {top_sq : Nat} {top_fu : Int32} {top_lv : Int32} {top_lt : Int32} {rd_t0 : Nat → Int32} {rd_rl : Int32} {rd_rq : Nat} {rec : RecT} {F G : Nat} {k66 : Int32 → CoS → Option (Except String Unit × Int32 × CoS)} {N : Nat} {res : Except String Unit × Int32 × CoS} (C : CX V p l R s m args c A kc ks RX5 cX5_expression 5 (F + 15) (G + 480)) (hq : rd_rq < 4) (hrec : RECOK V l F G rec) (K : (∀ v : Unit, res.1 = .ok v → RV V p l e R s m args below meth c Q A kc ks 5 cX5_expression (wC V ad (top_tx, top_ln, top_cp, top_cq, top_sq, top_fu, top_lv, top_lt) (rd_t0, 1, rd_rl, rd_rq) res.2.1 (updC co rd_rq res.2.2) mu fo tr ma mq mx)) ∧ ∀ E : String, res.1 = .error E → XE V p l e R s m args below meth c Q A kc ks 5 RX5 cX5_expression E (wC V ad (top_tx, top_ln, top_cp, top_cq, top_sq, top_fu, top_lv, top_lt) (rd_t0, 1, rd_rl, rd_rq) res.2.1 (updC co rd_rq res.2.2) mu fo tr ma mq mx)) (hk66 : ∀  (ra_at : Int32) (cs_cw : Nat → Int32) (cs_ce : Nat → Int32) (cs_cn : Nat → Int32) (cs_cj : Nat → Int32) (cs_cz : Int32), k66 ra_at (cs_cw, cs_ce, cs_cn, cs_cj, cs_cz) = some res → WC V p l e R s m args below meth c Q A kc ks 5 (wC V ad (top_tx, top_ln, top_cp, top_cq, top_sq, top_fu, top_lv, top_lt) (rd_t0, 1, rd_rl, rd_rq) ra_at (updC co rd_rq (cs_cw, cs_ce, cs_cn, cs_cj, cs_cz)) mu fo tr ma mq mx) 66 [] []) : ∀ (n : Nat) (x1 : Int32) (x2 : Int32) (ra_at : Int32) (cs_cw : Nat → Int32) (cs_ce : Nat → Int32) (cs_cn : Nat → Int32) (cs_cj : Nat → Int32) (cs_cz : Int32), f5_expression_L7 k66 N rec top_tx top_ln top_cp top_cq top_sq top_fu top_lv top_lt rd_t0 1 rd_rl rd_rq n x1 x2 ra_at (cs_cw, cs_ce, cs_cn, cs_cj, cs_cz) = some res → WC V p l e R s m args below meth c Q A kc ks 5 (wC V ad (top_tx, top_ln, top_cp, top_cq, top_sq, top_fu, top_lv, top_lt) (rd_t0, 1, rd_rl, rd_rq) ra_at (updC co rd_rq (cs_cw, cs_ce, cs_cn, cs_cj, cs_cz)) mu fo tr ma mq mx) 7 [(0, .ref (ad 2)), (1, .int x1), (2, .int x2)] [] := by
  intro n
  induction n with
  | zero => intro _ _ _ _ _ _ _ _ hf; exact nomatch (show none = some res from hf)
  | succ n ih =>
    intro x1 x2 ra_at cs_cw cs_ce cs_cn cs_cj cs_cz hf
    rw [f5_expression_L7] at hf
    refine k_iload_n C dX5_expression_7 2 rfl ?_
    refine k_bipush (v := (60 : Int32)) C dX5_expression_8 (by decide) ?_
    refine k_icmp_ge C 66 dX5_expression_10 (by decide) (fun hc => ?_) (fun hc => ?_)
    · replace hf := (if_pos hc).symm.trans hf
      refine k_sub [] (L' := []) rfl ?_
      exact hk66 _ _ _ _ _ _ hf
    · replace hf := (if_neg hc).symm.trans hf
      refine k_aload_n C dX5_expression_13 0 rfl ?_
      refine k_ldcS (tx := "+-") (j := 3) C (by decide +kernel) dX5_expression_14 ?_
      obtain ⟨r_10, hq_9, hf⟩ := ob_el hf
      refine k_callVi C (c5_nextIsOneOf C.2.2.2.2.2.2.2.2.2.1 (by decide) hq_9) cm5_123 ok5_nextIsOneOf ⟨by omega, by have := nK_v; omega⟩ 2 rfl rfl rfl rfl (Nat.le_of_ble_eq_true rfl) dX5_expression_16 ?_
      refine k_if_eq C 66 dX5_expression_19 (by decide) (fun hc => ?_) (fun hc => ?_)
      · replace hf := (if_pos hc).symm.trans hf
        refine k_sub [] (L' := []) rfl ?_
        exact hk66 _ _ _ _ _ _ hf
      · replace hf := (if_neg hc).symm.trans hf
        refine k_aload_n C dX5_expression_22 0 rfl ?_
        refine g5_19 C dX5_expression_23 ?_
        refine k_istore_n C dX5_expression_26 [(3, .int ra_at), (0, .ref (ad 2)), (1, .int x1), (2, .int x2)] (by decide) rfl ?_
        refine k_aload_n C dX5_expression_27 1 rfl ?_
        obtain ⟨r_12, hq_11, hf⟩ := ob_el hf
        refine k_callVi C (c5_next C.2.2.2.2.2.2.2.2.2.1 hq_11) cm5_46 ok5_next ⟨by omega, by have := nK_v; omega⟩ 2 rfl rfl rfl rfl (Nat.le_of_ble_eq_true rfl) dX5_expression_28 ?_
        refine k_istore C dX5_expression_31 [(4, .int r_12), (3, .int ra_at), (0, .ref (ad 2)), (1, .int x1), (2, .int x2)] (by decide) rfl ?_
        refine k_aload_n C dX5_expression_33 2 rfl ?_
        refine k_dup C dX5_expression_34 rfl ?_
        refine g5_19 C dX5_expression_35 ?_
        refine k_iconst (v := (1 : Int32)) C dX5_expression_38 (by decide) ?_
        refine k_iadd C dX5_expression_39 ?_
        refine p5_19 C dX5_expression_40 ?_
        refine k_aload_n C dX5_expression_43 2 rfl ?_
        refine k_iload_n C dX5_expression_44 3 rfl ?_
        obtain ⟨⟨r_14, ra_at_15, ⟨cs_cw_16, cs_ce_17, cs_cn_18, cs_cj_19, cs_cz_20⟩⟩, hq_13, hf⟩ := ob_el hf
        dsimp only at hf
        rcases r_14 with E | _u
        · try dsimp only at hf
          cases hf
          exact k_callVvx C (x5_term C.2.2.2.2.2.2.2.2.2.1 hrec hq hq_13 rfl) cm5_127 ok5_term ⟨by omega, by have := nK_v; omega⟩ 2 rfl rfl rfl rfl (Nat.le_of_ble_eq_true rfl) dX5_expression_45 (K.2 _ rfl)
        try dsimp only at hf
        refine k_callVv C (c5_term C.2.2.2.2.2.2.2.2.2.1 hrec hq hq_13 rfl) cm5_127 ok5_term ⟨by omega, by have := nK_v; omega⟩ 2 rfl rfl rfl rfl (Nat.le_of_ble_eq_true rfl) dX5_expression_45 ?_
        refine k_aload_n C dX5_expression_48 2 rfl ?_
        refine g5_25 C dX5_expression_49 ?_
        refine k_iconst (v := (0 : Int32)) C dX5_expression_52 (by decide) ?_
        refine k_iload_n C dX5_expression_53 1 rfl ?_
        refine k_iload C dX5_expression_54 0 rfl ?_
        obtain ⟨⟨r_22, ⟨cs_cw_23, cs_ce_24, cs_cn_25, cs_cj_26, cs_cz_27⟩⟩, hq_21, hf⟩ := ob_el hf
        dsimp only at hf
        refine k_callCi C hq (c0_add C.2.2.2.2.2.2.2.2.2.1 hq hq_21) cm5_63 ok0_add ⟨by omega, by have := nK_v; omega⟩ rfl rfl (Nat.le_of_ble_eq_true rfl) dX5_expression_56 ?_
        refine k_pop C dX5_expression_59 rfl ?_
        obtain ⟨v2_28, ev2_28⟩ : ∃ y : Int32, y = x2 + (1 : Int32) := ⟨_, rfl⟩
        replace hf := nm_el hf ev2_28
        refine k_iinc (v := v2_28) C dX5_expression_60 4 rfl (by rw [ev2_28]; rfl) [(2, .int v2_28), (4, .int r_12), (3, .int ra_at), (0, .ref (ad 2)), (1, .int x1)] (by decide) rfl ?_
        refine k_goto C 7 dX5_expression_63 (by decide) ?_
        refine k_sub [3, 4, 0] (L' := [(0, .ref (ad 2)), (1, .int x1), (2, .int v2_28)]) rfl ?_
        exact ih _ _ _ _ _ _ _ _ hf
set_option maxHeartbeats 4000000 in
set_option maxRecDepth 100000 in
theorem b5_expression {V : EV} {p : Program} {l : Launch} {e : Env} {R : Room} {s : State} {m : MethodId} {args : Array Value} {below : List Frame} {meth : Method} {c : Code} {Q : State → Prop} {A : Nat → Prop} {kc ks : Nat} {ad : Nat → Nat} {co : Nat → CoS} {mu : MuS} {fo : FoS} {tr : TrS} {ma : MaS} {mq : Nat} {mx : MxS} {top_tx : Nat → Int32} {top_ln : Int32} {top_cp : Int32} {top_cq : Nat} {top_sq : Nat} {top_fu : Int32} {top_lv : Int32} {top_lt : Int32} {rd_t0 : Nat → Int32} {rd_rl : Int32} {rd_rq : Nat} {rec : RecT} {F G : Nat} {v1 : Int32} {ra_at : Int32} {cs_cw : Nat → Int32} {cs_ce : Nat → Int32} {cs_cn : Nat → Int32} {cs_cj : Nat → Int32} {cs_cz : Int32} {N : Nat} {res : Except String Unit × Int32 × CoS} (C : CX V p l R s m args c A kc ks RX5 cX5_expression 5 (F + 15) (G + 480)) (hq : rd_rq < 4) (hrec : RECOK V l F G rec) (hf : f5_expression rec N v1 (top_tx, top_ln, top_cp, top_cq, top_sq, top_fu, top_lv, top_lt) (rd_t0, 1, rd_rl, rd_rq) ra_at (cs_cw, cs_ce, cs_cn, cs_cj, cs_cz) = some res) (K : (∀ v : Unit, res.1 = .ok v → RV V p l e R s m args below meth c Q A kc ks 5 cX5_expression (wC V ad (top_tx, top_ln, top_cp, top_cq, top_sq, top_fu, top_lv, top_lt) (rd_t0, 1, rd_rl, rd_rq) res.2.1 (updC co rd_rq res.2.2) mu fo tr ma mq mx)) ∧ ∀ E : String, res.1 = .error E → XE V p l e R s m args below meth c Q A kc ks 5 RX5 cX5_expression E (wC V ad (top_tx, top_ln, top_cp, top_cq, top_sq, top_fu, top_lv, top_lt) (rd_t0, 1, rd_rl, rd_rq) res.2.1 (updC co rd_rq res.2.2) mu fo tr ma mq mx)) : WC V p l e R s m args below meth c Q A kc ks 5 (wC V ad (top_tx, top_ln, top_cp, top_cq, top_sq, top_fu, top_lv, top_lt) (rd_t0, 1, rd_rl, rd_rq) ra_at (updC co rd_rq (cs_cw, cs_ce, cs_cn, cs_cj, cs_cz)) mu fo tr ma mq mx) 0 [(0, .ref (ad 2)), (1, .int v1)] [] := by
  rw [f5_expression] at hf
  refine k_aload_n C dX5_expression_0 0 rfl ?_
  refine k_iload_n C dX5_expression_1 1 rfl ?_
  obtain ⟨⟨r_2, ra_at_3, ⟨cs_cw_4, cs_ce_5, cs_cn_6, cs_cj_7, cs_cz_8⟩⟩, hq_1, hf⟩ := ob_el hf
  dsimp only at hf
  rcases r_2 with E | _u
  · try dsimp only at hf
    cases hf
    exact k_callVvx C (x5_term C.2.2.2.2.2.2.2.2.2.1 hrec hq hq_1 rfl) cm5_127 ok5_term ⟨by omega, by have := nK_v; omega⟩ 2 rfl rfl rfl rfl (Nat.le_of_ble_eq_true rfl) dX5_expression_2 (K.2 _ rfl)
  try dsimp only at hf
  refine k_callVv C (c5_term C.2.2.2.2.2.2.2.2.2.1 hrec hq hq_1 rfl) cm5_127 ok5_term ⟨by omega, by have := nK_v; omega⟩ 2 rfl rfl rfl rfl (Nat.le_of_ble_eq_true rfl) dX5_expression_2 ?_
  refine k_iconst (v := (0 : Int32)) C dX5_expression_5 (by decide) ?_
  refine k_istore_n C dX5_expression_6 [(2, .int (0 : Int32)), (0, .ref (ad 2)), (1, .int v1)] (by decide) rfl ?_
  refine k_sub [1, 2, 0] (L' := [(0, .ref (ad 2)), (1, .int v1), (2, .int (0 : Int32))]) rfl ?_
  refine w5_expression_L7 C hq hrec K ?_ _ _ _ _ _ _ _ _ _ hf
  · intro ra_at_29 cs_cw_29 cs_ce_29 cs_cn_29 cs_cj_29 cs_cz_29 hf
    try dsimp only at hf
    cases hf
    exact K.1 _ rfl _ _ dX5_expression_66
theorem c5_expression {V : EV} {l : Launch} (hl0 : l.stackTraces = false) {ad : Nat → Nat} {co : Nat → CoS} {mu : MuS} {fo : FoS} {tr : TrS} {ma : MaS} {mq : Nat} {mx : MxS} {top_tx : Nat → Int32} {top_ln : Int32} {top_cp : Int32} {top_cq : Nat} {top_sq : Nat} {top_fu : Int32} {top_lv : Int32} {top_lt : Int32} {rd_t0 : Nat → Int32} {rd_rl : Int32} {rd_rq : Nat} {v1 : Int32} {ra_at : Int32} {cs_cw : Nat → Int32} {cs_ce : Nat → Int32} {cs_cn : Nat → Int32} {cs_cj : Nat → Int32} {cs_cz : Int32} {N : Nat} {res : Except String Unit × Int32 × CoS} {rec : RecT} {F G : Nat} (hrec : RECOK V l F G rec) (hq : rd_rq < 4) (hf : f5_expression rec N v1 (top_tx, top_ln, top_cp, top_cq, top_sq, top_fu, top_lv, top_lt) (rd_t0, 1, rd_rl, rd_rq) ra_at (cs_cw, cs_ce, cs_cn, cs_cj, cs_cz) = some res) {v : Unit} (hv : res.1 = .ok v) : MV V l yX5_expression cX5_expression 5 (F + 15) (G + 480) [.ref (ad 2), .int v1] (wC V ad (top_tx, top_ln, top_cp, top_cq, top_sq, top_fu, top_lv, top_lt) (rd_t0, 1, rd_rl, rd_rq) ra_at (updC co rd_rq (cs_cw, cs_ce, cs_cn, cs_cj, cs_cz)) mu fo tr ma mq mx) (wC V ad (top_tx, top_ln, top_cp, top_cq, top_sq, top_fu, top_lv, top_lt) (rd_t0, 1, rd_rl, rd_rq) res.2.1 (updC co rd_rq res.2.2) mu fo tr ma mq mx) :=
  mv_of hl0 (by decide +kernel) (Nat.le_of_ble_eq_true rfl) (fun p e R s m args below meth c Q A C K => b5_expression C hq hrec hf ⟨fun v' h' => (by cases hv.symm.trans h'; exact K), fun E h' => (by cases hv.symm.trans h')⟩)
theorem x5_expression {V : EV} {l : Launch} (hl0 : l.stackTraces = false) {ad : Nat → Nat} {co : Nat → CoS} {mu : MuS} {fo : FoS} {tr : TrS} {ma : MaS} {mq : Nat} {mx : MxS} {top_tx : Nat → Int32} {top_ln : Int32} {top_cp : Int32} {top_cq : Nat} {top_sq : Nat} {top_fu : Int32} {top_lv : Int32} {top_lt : Int32} {rd_t0 : Nat → Int32} {rd_rl : Int32} {rd_rq : Nat} {v1 : Int32} {ra_at : Int32} {cs_cw : Nat → Int32} {cs_ce : Nat → Int32} {cs_cn : Nat → Int32} {cs_cj : Nat → Int32} {cs_cz : Int32} {N : Nat} {res : Except String Unit × Int32 × CoS} {rec : RecT} {F G : Nat} (hrec : RECOK V l F G rec) (hq : rd_rq < 4) (hf : f5_expression rec N v1 (top_tx, top_ln, top_cp, top_cq, top_sq, top_fu, top_lv, top_lt) (rd_t0, 1, rd_rl, rd_rq) ra_at (cs_cw, cs_ce, cs_cn, cs_cj, cs_cz) = some res) {E : String} (hv : res.1 = .error E) : TV V l yX5_expression cX5_expression 5 (F + 15) (G + 480) [.ref (ad 2), .int v1] (wC V ad (top_tx, top_ln, top_cp, top_cq, top_sq, top_fu, top_lv, top_lt) (rd_t0, 1, rd_rl, rd_rq) ra_at (updC co rd_rq (cs_cw, cs_ce, cs_cn, cs_cj, cs_cz)) mu fo tr ma mq mx) E (wC V ad (top_tx, top_ln, top_cp, top_cq, top_sq, top_fu, top_lv, top_lt) (rd_t0, 1, rd_rl, rd_rq) res.2.1 (updC co rd_rq res.2.2) mu fo tr ma mq mx) :=
  tv_of hl0 (by decide +kernel) (Nat.le_of_ble_eq_true rfl) (fun p e R s m args below meth c Q A C K => b5_expression C hq hrec hf ⟨fun v' h' => (by cases hv.symm.trans h'), fun E' h' => (by cases hv.symm.trans h'; exact K)⟩)

theorem cm5_76 : ∀ a ∈ wsCV RX5 76 RX5 yX5_endPlain cX5_endPlain 3 none, a ∈ GW := by
  unfold wsCV
  exact (List.forall_mem_cons.mpr ⟨(gw_3 (i := 108) (by decide +kernel) rfl), (List.forall_mem_cons.mpr ⟨(gw_3 (i := 110) (by decide +kernel) rfl), (List.forall_mem_cons.mpr ⟨(gw_p (q := ((yX5_endPlain, 4) : MethodName × Nat)) (List.mem_append_right _ (List.mem_append_left _ (List.mem_of_getElem? (i := 6) (by decide +kernel)))) rfl), (List.forall_mem_cons.mpr ⟨(gw_1 (i := 2) (by decide +kernel) rfl), (List.forall_mem_cons.mpr ⟨(gw_3 (i := 111) (by decide +kernel) rfl), (List.forall_mem_nil _)⟩)⟩)⟩)⟩)⟩)
theorem ok5_assignment : okCV RX5 yX5_assignment 1 := by unfold okCV; decide +kernel
def f5_assignment_L15  (N : Nat) (rec : RecT) (top_tx : Nat → Int32) (top_ln : Int32) (top_cp : Int32) (top_cq : Nat) (top_sq : Nat) (top_fu : Int32) (top_lv : Int32) (top_lt : Int32) (rd_t0 : Nat → Int32) (rd_rt : Nat) (rd_rl : Int32) (rd_rq : Nat) : Int32 → Int32 → Int32 → CoS → Option (Except String Unit × Int32 × CoS)
  | x1, x2, ra_at, (cs_cw, cs_ce, cs_cn, cs_cj, cs_cz) =>
    (f5_take (61 : Int32) (top_tx, top_ln, top_cp, top_cq, top_sq, top_fu, top_lv, top_lt) (rd_t0, 1, rd_rl, rd_rq) ra_at).bind fun (r_6, ra_at_7) => match r_6 with | .error E => some ((.error E), ra_at_7, (cs_cw, cs_ce, cs_cn, cs_cj, cs_cz)) | .ok _ => (f5_expression rec N x1 (top_tx, top_ln, top_cp, top_cq, top_sq, top_fu, top_lv, top_lt) (rd_t0, 1, rd_rl, rd_rq) ra_at_7 (cs_cw, cs_ce, cs_cn, cs_cj, cs_cz)).bind fun (r_9, ra_at_10, (cs_cw_11, cs_ce_12, cs_cn_13, cs_cj_14, cs_cz_15)) => match r_9 with | .error E => some ((.error E), ra_at_10, (cs_cw_11, cs_ce_12, cs_cn_13, cs_cj_14, cs_cz_15)) | .ok _ => (f5_endPlain (7 : Int32) x2 (top_tx, top_ln, top_cp, top_cq, top_sq, top_fu, top_lv, top_lt) (rd_t0, 1, rd_rl, rd_rq) ra_at_10 (cs_cw_11, cs_ce_12, cs_cn_13, cs_cj_14, cs_cz_15)).bind fun (r_17, ra_at_18, (cs_cw_19, cs_ce_20, cs_cn_21, cs_cj_22, cs_cz_23)) => match r_17 with | .error E => some ((.error E), ra_at_18, (cs_cw_19, cs_ce_20, cs_cn_21, cs_cj_22, cs_cz_23)) | .ok _ => some ((.ok ()), ra_at_18, (cs_cw_19, cs_ce_20, cs_cn_21, cs_cj_22, cs_cz_23))
def f5_assignment (rec : RecT) (N : Nat) (v1 : Int32) : TopS → RdS → Int32 → CoS → Option (Except String Unit × Int32 × CoS)
  | (top_tx, top_ln, top_cp, top_cq, top_sq, top_fu, top_lv, top_lt), (rd_t0, rd_rt, rd_rl, rd_rq), ra_at, (cs_cw, cs_ce, cs_cn, cs_cj, cs_cz) =>
    (f5_slot (top_tx, top_ln, top_cp, top_cq, top_sq, top_fu, top_lv, top_lt) (rd_t0, 1, rd_rl, rd_rq) ra_at).bind fun (r_2, ra_at_3) => match r_2 with | .error E => some ((.error E), ra_at_3, (cs_cw, cs_ce, cs_cn, cs_cj, cs_cz)) | .ok r_4 => if r_4 < (6 : Int32) then f5_assignment_L15 N rec top_tx top_ln top_cp top_cq top_sq top_fu top_lv top_lt rd_t0 rd_rt rd_rl rd_rq v1 r_4 ra_at_3 (cs_cw, cs_ce, cs_cn, cs_cj, cs_cz) else (f5_refuse).bind fun r_25 => match r_25 with | .error E => some ((.error E), ra_at_3, (cs_cw, cs_ce, cs_cn, cs_cj, cs_cz)) | .ok _ => f5_assignment_L15 N rec top_tx top_ln top_cp top_cq top_sq top_fu top_lv top_lt rd_t0 rd_rt rd_rl rd_rq v1 r_4 ra_at_3 (cs_cw, cs_ce, cs_cn, cs_cj, cs_cz)
set_option maxHeartbeats 4000000 in
set_option maxRecDepth 100000 in
theorem w5_assignment_L15 {V : EV} {p : Program} {l : Launch} {e : Env} {R : Room} {s : State} {m : MethodId} {args : Array Value} {below : List Frame} {meth : Method} {c : Code} {Q : State → Prop} {A : Nat → Prop} {kc ks : Nat} {ad : Nat → Nat} {co : Nat → CoS} {mu : MuS} {fo : FoS} {tr : TrS} {ma : MaS} {mq : Nat} {mx : MxS} {top_tx : Nat → Int32} {top_ln : Int32} {top_cp : Int32} {top_cq : Nat} {top_sq : Nat} {top_fu : Int32} {top_lv : Int32} {top_lt : Int32} {rd_t0 : Nat → Int32} {rd_rl : Int32} {rd_rq : Nat} {rec : RecT} {F G : Nat}  {N : Nat} {res : Except String Unit × Int32 × CoS} (C : CX V p l R s m args c A kc ks RX5 cX5_assignment 3 (F + 16) (G + 504)) (hq : rd_rq < 4) (hrec : RECOK V l F G rec) (K : (∀ v : Unit, res.1 = .ok v → RV V p l e R s m args below meth c Q A kc ks 3 cX5_assignment (wC V ad (top_tx, top_ln, top_cp, top_cq, top_sq, top_fu, top_lv, top_lt) (rd_t0, 1, rd_rl, rd_rq) res.2.1 (updC co rd_rq res.2.2) mu fo tr ma mq mx)) ∧ ∀ E : String, res.1 = .error E → XE V p l e R s m args below meth c Q A kc ks 3 RX5 cX5_assignment E (wC V ad (top_tx, top_ln, top_cp, top_cq, top_sq, top_fu, top_lv, top_lt) (rd_t0, 1, rd_rl, rd_rq) res.2.1 (updC co rd_rq res.2.2) mu fo tr ma mq mx))  : ∀ (x1 : Int32) (x2 : Int32) (ra_at : Int32) (cs_cw : Nat → Int32) (cs_ce : Nat → Int32) (cs_cn : Nat → Int32) (cs_cj : Nat → Int32) (cs_cz : Int32), f5_assignment_L15 N rec top_tx top_ln top_cp top_cq top_sq top_fu top_lv top_lt rd_t0 1 rd_rl rd_rq x1 x2 ra_at (cs_cw, cs_ce, cs_cn, cs_cj, cs_cz) = some res → WC V p l e R s m args below meth c Q A kc ks 3 (wC V ad (top_tx, top_ln, top_cp, top_cq, top_sq, top_fu, top_lv, top_lt) (rd_t0, 1, rd_rl, rd_rq) ra_at (updC co rd_rq (cs_cw, cs_ce, cs_cn, cs_cj, cs_cz)) mu fo tr ma mq mx) 15 [(0, .ref (ad 2)), (1, .int x1), (2, .int x2)] [] := by
  intro x1 x2 ra_at cs_cw cs_ce cs_cn cs_cj cs_cz hf
  rw [f5_assignment_L15] at hf
  refine k_aload_n C dX5_assignment_15 0 rfl ?_
  refine k_bipush (v := (61 : Int32)) C dX5_assignment_16 (by decide) ?_
  obtain ⟨⟨r_6, ra_at_7⟩, hq_5, hf⟩ := ob_el hf
  dsimp only at hf
  rcases r_6 with E | _u
  · try dsimp only at hf
    cases hf
    exact k_callVvx C (x5_take C.2.2.2.2.2.2.2.2.2.1 hq_5 rfl) cm5_56 ok5_take ⟨by omega, by have := nK_v; omega⟩ 2 rfl rfl rfl rfl (Nat.le_of_ble_eq_true rfl) dX5_assignment_18 (K.2 _ rfl)
  try dsimp only at hf
  refine k_callVv C (c5_take C.2.2.2.2.2.2.2.2.2.1 hq_5 rfl) cm5_56 ok5_take ⟨by omega, by have := nK_v; omega⟩ 2 rfl rfl rfl rfl (Nat.le_of_ble_eq_true rfl) dX5_assignment_18 ?_
  refine k_aload_n C dX5_assignment_21 0 rfl ?_
  refine k_iload_n C dX5_assignment_22 1 rfl ?_
  obtain ⟨⟨r_9, ra_at_10, ⟨cs_cw_11, cs_ce_12, cs_cn_13, cs_cj_14, cs_cz_15⟩⟩, hq_8, hf⟩ := ob_el hf
  dsimp only at hf
  rcases r_9 with E | _u
  · try dsimp only at hf
    cases hf
    exact k_callVvx C (x5_expression C.2.2.2.2.2.2.2.2.2.1 hrec hq hq_8 rfl) cm5_80 ok5_expression ⟨by omega, by have := nK_v; omega⟩ 2 rfl rfl rfl rfl (Nat.le_of_ble_eq_true rfl) dX5_assignment_23 (K.2 _ rfl)
  try dsimp only at hf
  refine k_callVv C (c5_expression C.2.2.2.2.2.2.2.2.2.1 hrec hq hq_8 rfl) cm5_80 ok5_expression ⟨by omega, by have := nK_v; omega⟩ 2 rfl rfl rfl rfl (Nat.le_of_ble_eq_true rfl) dX5_assignment_23 ?_
  refine k_aload_n C dX5_assignment_26 0 rfl ?_
  refine k_bipush (v := (7 : Int32)) C dX5_assignment_27 (by decide) ?_
  refine k_iload_n C dX5_assignment_29 2 rfl ?_
  obtain ⟨⟨r_17, ra_at_18, ⟨cs_cw_19, cs_ce_20, cs_cn_21, cs_cj_22, cs_cz_23⟩⟩, hq_16, hf⟩ := ob_el hf
  dsimp only at hf
  rcases r_17 with E | _u
  · try dsimp only at hf
    cases hf
    exact k_callVvx C (x5_endPlain C.2.2.2.2.2.2.2.2.2.1 hq hq_16 rfl) cm5_76 ok5_endPlain ⟨by omega, by have := nK_v; omega⟩ 2 rfl rfl rfl rfl (Nat.le_of_ble_eq_true rfl) dX5_assignment_30 (K.2 _ rfl)
  try dsimp only at hf
  refine k_callVv C (c5_endPlain C.2.2.2.2.2.2.2.2.2.1 hq hq_16 rfl) cm5_76 ok5_endPlain ⟨by omega, by have := nK_v; omega⟩ 2 rfl rfl rfl rfl (Nat.le_of_ble_eq_true rfl) dX5_assignment_30 ?_
  cases hf
  exact K.1 _ rfl _ _ dX5_assignment_33
set_option maxHeartbeats 4000000 in
set_option maxRecDepth 100000 in
theorem b5_assignment {V : EV} {p : Program} {l : Launch} {e : Env} {R : Room} {s : State} {m : MethodId} {args : Array Value} {below : List Frame} {meth : Method} {c : Code} {Q : State → Prop} {A : Nat → Prop} {kc ks : Nat} {ad : Nat → Nat} {co : Nat → CoS} {mu : MuS} {fo : FoS} {tr : TrS} {ma : MaS} {mq : Nat} {mx : MxS} {top_tx : Nat → Int32} {top_ln : Int32} {top_cp : Int32} {top_cq : Nat} {top_sq : Nat} {top_fu : Int32} {top_lv : Int32} {top_lt : Int32} {rd_t0 : Nat → Int32} {rd_rl : Int32} {rd_rq : Nat} {rec : RecT} {F G : Nat} {v1 : Int32} {ra_at : Int32} {cs_cw : Nat → Int32} {cs_ce : Nat → Int32} {cs_cn : Nat → Int32} {cs_cj : Nat → Int32} {cs_cz : Int32} {N : Nat} {res : Except String Unit × Int32 × CoS} (C : CX V p l R s m args c A kc ks RX5 cX5_assignment 3 (F + 16) (G + 504)) (hq : rd_rq < 4) (hrec : RECOK V l F G rec) (hf : f5_assignment rec N v1 (top_tx, top_ln, top_cp, top_cq, top_sq, top_fu, top_lv, top_lt) (rd_t0, 1, rd_rl, rd_rq) ra_at (cs_cw, cs_ce, cs_cn, cs_cj, cs_cz) = some res) (K : (∀ v : Unit, res.1 = .ok v → RV V p l e R s m args below meth c Q A kc ks 3 cX5_assignment (wC V ad (top_tx, top_ln, top_cp, top_cq, top_sq, top_fu, top_lv, top_lt) (rd_t0, 1, rd_rl, rd_rq) res.2.1 (updC co rd_rq res.2.2) mu fo tr ma mq mx)) ∧ ∀ E : String, res.1 = .error E → XE V p l e R s m args below meth c Q A kc ks 3 RX5 cX5_assignment E (wC V ad (top_tx, top_ln, top_cp, top_cq, top_sq, top_fu, top_lv, top_lt) (rd_t0, 1, rd_rl, rd_rq) res.2.1 (updC co rd_rq res.2.2) mu fo tr ma mq mx)) : WC V p l e R s m args below meth c Q A kc ks 3 (wC V ad (top_tx, top_ln, top_cp, top_cq, top_sq, top_fu, top_lv, top_lt) (rd_t0, 1, rd_rl, rd_rq) ra_at (updC co rd_rq (cs_cw, cs_ce, cs_cn, cs_cj, cs_cz)) mu fo tr ma mq mx) 0 [(0, .ref (ad 2)), (1, .int v1)] [] := by
  rw [f5_assignment] at hf
  refine k_aload_n C dX5_assignment_0 0 rfl ?_
  obtain ⟨⟨r_2, ra_at_3⟩, hq_1, hf⟩ := ob_el hf
  dsimp only at hf
  rcases r_2 with E | r_4
  · try dsimp only at hf
    cases hf
    exact k_callVix C (x5_slot C.2.2.2.2.2.2.2.2.2.1 hq_1 rfl) cm5_89 ok5_slot ⟨by omega, by have := nK_v; omega⟩ 2 rfl rfl rfl rfl (Nat.le_of_ble_eq_true rfl) dX5_assignment_1 (K.2 _ rfl)
  try dsimp only at hf
  refine k_callVi C (c5_slot C.2.2.2.2.2.2.2.2.2.1 hq_1 rfl) cm5_89 ok5_slot ⟨by omega, by have := nK_v; omega⟩ 2 rfl rfl rfl rfl (Nat.le_of_ble_eq_true rfl) dX5_assignment_1 ?_
  refine k_istore_n C dX5_assignment_4 [(2, .int r_4), (0, .ref (ad 2)), (1, .int v1)] (by decide) rfl ?_
  refine k_iload_n C dX5_assignment_5 0 rfl ?_
  refine k_bipush (v := (6 : Int32)) C dX5_assignment_6 (by decide) ?_
  refine k_icmp_lt C 15 dX5_assignment_8 (by decide) (fun hc => ?_) (fun hc => ?_)
  · replace hf := (if_pos hc).symm.trans hf
    refine k_sub [1, 2, 0] (L' := [(0, .ref (ad 2)), (1, .int v1), (2, .int r_4)]) rfl ?_
    exact w5_assignment_L15 C hq hrec K _ _ _ _ _ _ _ _ hf
  · replace hf := (if_neg hc).symm.trans hf
    refine k_aload_n C dX5_assignment_11 1 rfl ?_
    obtain ⟨r_25, hq_24, hf⟩ := ob_el hf
    rcases r_25 with E | _u
    · try dsimp only at hf
      cases hf
      exact k_callVvx C (x5_refuse C.2.2.2.2.2.2.2.2.2.1 hq_24 rfl) cm5_36 ok5_refuse ⟨by omega, by have := nK_v; omega⟩ 2 rfl rfl rfl rfl (Nat.le_of_ble_eq_true rfl) dX5_assignment_12 (K.2 _ rfl)
    try dsimp only at hf
    refine k_callVv C (c5_refuse C.2.2.2.2.2.2.2.2.2.1 hq_24 rfl) cm5_36 ok5_refuse ⟨by omega, by have := nK_v; omega⟩ 2 rfl rfl rfl rfl (Nat.le_of_ble_eq_true rfl) dX5_assignment_12 ?_
    refine k_sub [1, 2, 0] (L' := [(0, .ref (ad 2)), (1, .int v1), (2, .int r_4)]) rfl ?_
    exact w5_assignment_L15 C hq hrec K _ _ _ _ _ _ _ _ hf
theorem c5_assignment {V : EV} {l : Launch} (hl0 : l.stackTraces = false) {ad : Nat → Nat} {co : Nat → CoS} {mu : MuS} {fo : FoS} {tr : TrS} {ma : MaS} {mq : Nat} {mx : MxS} {top_tx : Nat → Int32} {top_ln : Int32} {top_cp : Int32} {top_cq : Nat} {top_sq : Nat} {top_fu : Int32} {top_lv : Int32} {top_lt : Int32} {rd_t0 : Nat → Int32} {rd_rl : Int32} {rd_rq : Nat} {v1 : Int32} {ra_at : Int32} {cs_cw : Nat → Int32} {cs_ce : Nat → Int32} {cs_cn : Nat → Int32} {cs_cj : Nat → Int32} {cs_cz : Int32} {N : Nat} {res : Except String Unit × Int32 × CoS} {rec : RecT} {F G : Nat} (hrec : RECOK V l F G rec) (hq : rd_rq < 4) (hf : f5_assignment rec N v1 (top_tx, top_ln, top_cp, top_cq, top_sq, top_fu, top_lv, top_lt) (rd_t0, 1, rd_rl, rd_rq) ra_at (cs_cw, cs_ce, cs_cn, cs_cj, cs_cz) = some res) {v : Unit} (hv : res.1 = .ok v) : MV V l yX5_assignment cX5_assignment 3 (F + 16) (G + 504) [.ref (ad 2), .int v1] (wC V ad (top_tx, top_ln, top_cp, top_cq, top_sq, top_fu, top_lv, top_lt) (rd_t0, 1, rd_rl, rd_rq) ra_at (updC co rd_rq (cs_cw, cs_ce, cs_cn, cs_cj, cs_cz)) mu fo tr ma mq mx) (wC V ad (top_tx, top_ln, top_cp, top_cq, top_sq, top_fu, top_lv, top_lt) (rd_t0, 1, rd_rl, rd_rq) res.2.1 (updC co rd_rq res.2.2) mu fo tr ma mq mx) :=
  mv_of hl0 (by decide +kernel) (Nat.le_of_ble_eq_true rfl) (fun p e R s m args below meth c Q A C K => b5_assignment C hq hrec hf ⟨fun v' h' => (by cases hv.symm.trans h'; exact K), fun E h' => (by cases hv.symm.trans h')⟩)
theorem x5_assignment {V : EV} {l : Launch} (hl0 : l.stackTraces = false) {ad : Nat → Nat} {co : Nat → CoS} {mu : MuS} {fo : FoS} {tr : TrS} {ma : MaS} {mq : Nat} {mx : MxS} {top_tx : Nat → Int32} {top_ln : Int32} {top_cp : Int32} {top_cq : Nat} {top_sq : Nat} {top_fu : Int32} {top_lv : Int32} {top_lt : Int32} {rd_t0 : Nat → Int32} {rd_rl : Int32} {rd_rq : Nat} {v1 : Int32} {ra_at : Int32} {cs_cw : Nat → Int32} {cs_ce : Nat → Int32} {cs_cn : Nat → Int32} {cs_cj : Nat → Int32} {cs_cz : Int32} {N : Nat} {res : Except String Unit × Int32 × CoS} {rec : RecT} {F G : Nat} (hrec : RECOK V l F G rec) (hq : rd_rq < 4) (hf : f5_assignment rec N v1 (top_tx, top_ln, top_cp, top_cq, top_sq, top_fu, top_lv, top_lt) (rd_t0, 1, rd_rl, rd_rq) ra_at (cs_cw, cs_ce, cs_cn, cs_cj, cs_cz) = some res) {E : String} (hv : res.1 = .error E) : TV V l yX5_assignment cX5_assignment 3 (F + 16) (G + 504) [.ref (ad 2), .int v1] (wC V ad (top_tx, top_ln, top_cp, top_cq, top_sq, top_fu, top_lv, top_lt) (rd_t0, 1, rd_rl, rd_rq) ra_at (updC co rd_rq (cs_cw, cs_ce, cs_cn, cs_cj, cs_cz)) mu fo tr ma mq mx) E (wC V ad (top_tx, top_ln, top_cp, top_cq, top_sq, top_fu, top_lv, top_lt) (rd_t0, 1, rd_rl, rd_rq) res.2.1 (updC co rd_rq res.2.2) mu fo tr ma mq mx) :=
  tv_of hl0 (by decide +kernel) (Nat.le_of_ble_eq_true rfl) (fun p e R s m args below meth c Q A C K => b5_assignment C hq hrec hf ⟨fun v' h' => (by cases hv.symm.trans h'), fun E' h' => (by cases hv.symm.trans h'; exact K)⟩)

theorem cm5_73 : ∀ a ∈ wsCV RX5 73 RX5 yX5_condition cX5_condition 4 none, a ∈ GW := by
  unfold wsCV
  exact (List.forall_mem_cons.mpr ⟨(gw_2 (i := 118) (by decide +kernel) rfl), (List.forall_mem_cons.mpr ⟨(gw_2 (i := 120) (by decide +kernel) rfl), (List.forall_mem_cons.mpr ⟨(gw_p (q := ((yX5_condition, 4) : MethodName × Nat)) (List.mem_append_left _ (List.mem_of_getElem? (i := 4) (by decide +kernel))) rfl), (List.forall_mem_cons.mpr ⟨(gw_1 (i := 2) (by decide +kernel) rfl), (List.forall_mem_cons.mpr ⟨(gw_2 (i := 121) (by decide +kernel) rfl), (List.forall_mem_nil _)⟩)⟩)⟩)⟩)⟩)
theorem ok5_atom : okCV RX5 yX5_atom 1 := by unfold okCV; decide +kernel
def f5_atom_L47  (N : Nat) (rec : RecT) (top_tx : Nat → Int32) (top_ln : Int32) (top_cp : Int32) (top_cq : Nat) (top_sq : Nat) (top_fu : Int32) (top_lv : Int32) (top_lt : Int32) (rd_t0 : Nat → Int32) (rd_rt : Nat) (rd_rl : Int32) (rd_rq : Nat) : Int32 → Int32 → CoS → Option (Except String Unit × Int32 × CoS)
  | x1, ra_at, (cs_cw, cs_ce, cs_cn, cs_cj, cs_cz) =>
    (f5_next (top_tx, top_ln, top_cp, top_cq, top_sq, top_fu, top_lv, top_lt) (rd_t0, 1, rd_rl, rd_rq) ra_at).bind fun r_14 => (f5_expression rec N x1 (top_tx, top_ln, top_cp, top_cq, top_sq, top_fu, top_lv, top_lt) (rd_t0, 1, rd_rl, rd_rq) (ra_at + (1 : Int32)) (cs_cw, cs_ce, cs_cn, cs_cj, cs_cz)).bind fun (r_16, ra_at_17, (cs_cw_18, cs_ce_19, cs_cn_20, cs_cj_21, cs_cz_22)) => match r_16 with | .error E => some ((.error E), ra_at_17, (cs_cw_18, cs_ce_19, cs_cn_20, cs_cj_21, cs_cz_22)) | .ok _ => (f0_add (1 : Int32) ra_at r_14 (cs_cw_18, cs_ce_19, cs_cn_20, cs_cj_21, cs_cz_22)).bind fun (r_24, (cs_cw_25, cs_ce_26, cs_cn_27, cs_cj_28, cs_cz_29)) => some ((.ok ()), ra_at_17, (cs_cw_25, cs_ce_26, cs_cn_27, cs_cj_28, cs_cz_29))
def f5_atom (rec : RecT) (N : Nat) (v1 : Int32) : TopS → RdS → Int32 → CoS → Option (Except String Unit × Int32 × CoS)
  | (top_tx, top_ln, top_cp, top_cq, top_sq, top_fu, top_lv, top_lt), (rd_t0, rd_rt, rd_rl, rd_rq), ra_at, (cs_cw, cs_ce, cs_cn, cs_cj, cs_cz) =>
    (f5_next (top_tx, top_ln, top_cp, top_cq, top_sq, top_fu, top_lv, top_lt) (rd_t0, 1, rd_rl, rd_rq) ra_at).bind fun r_2 => if r_2 = (91 : Int32) then (f5_open (91 : Int32) v1 (top_tx, top_ln, top_cp, top_cq, top_sq, top_fu, top_lv, top_lt) (rd_t0, 1, rd_rl, rd_rq) ra_at).bind fun (r_33, ra_at_34) => match r_33 with | .error E => some ((.error E), ra_at_34, (cs_cw, cs_ce, cs_cn, cs_cj, cs_cz)) | .ok r_35 => (rec 1 r_35 (top_tx, top_ln, top_cp, top_cq, top_sq, top_fu, top_lv, top_lt) (rd_t0, 1, rd_rl, rd_rq) ra_at_34 (cs_cw, cs_ce, cs_cn, cs_cj, cs_cz)).bind fun (r_37, ra_at_38, (cs_cw_39, cs_ce_40, cs_cn_41, cs_cj_42, cs_cz_43)) => match r_37 with | .error E => some ((.error E), ra_at_38, (cs_cw_39, cs_ce_40, cs_cn_41, cs_cj_42, cs_cz_43)) | .ok _ => (f5_take (93 : Int32) (top_tx, top_ln, top_cp, top_cq, top_sq, top_fu, top_lv, top_lt) (rd_t0, 1, rd_rl, rd_rq) ra_at_38).bind fun (r_45, ra_at_46) => match r_45 with | .error E => some ((.error E), ra_at_46, (cs_cw_39, cs_ce_40, cs_cn_41, cs_cj_42, cs_cz_43)) | .ok _ => some ((.ok ()), ra_at_46, (cs_cw_39, cs_ce_40, cs_cn_41, cs_cj_42, cs_cz_43)) else (f5_expression rec N v1 (top_tx, top_ln, top_cp, top_cq, top_sq, top_fu, top_lv, top_lt) (rd_t0, 1, rd_rl, rd_rq) ra_at (cs_cw, cs_ce, cs_cn, cs_cj, cs_cz)).bind fun (r_4, ra_at_5, (cs_cw_6, cs_ce_7, cs_cn_8, cs_cj_9, cs_cz_10)) => match r_4 with | .error E => some ((.error E), ra_at_5, (cs_cw_6, cs_ce_7, cs_cn_8, cs_cj_9, cs_cz_10)) | .ok _ => (f5_nextIsOneOf 1 (top_tx, top_ln, top_cp, top_cq, top_sq, top_fu, top_lv, top_lt) (rd_t0, 1, rd_rl, rd_rq) ra_at_5).bind fun r_12 => if r_12 = 0 then (f5_refuse).bind fun r_31 => match r_31 with | .error E => some ((.error E), ra_at_5, (cs_cw_6, cs_ce_7, cs_cn_8, cs_cj_9, cs_cz_10)) | .ok _ => f5_atom_L47 N rec top_tx top_ln top_cp top_cq top_sq top_fu top_lv top_lt rd_t0 rd_rt rd_rl rd_rq v1 ra_at_5 (cs_cw_6, cs_ce_7, cs_cn_8, cs_cj_9, cs_cz_10) else f5_atom_L47 N rec top_tx top_ln top_cp top_cq top_sq top_fu top_lv top_lt rd_t0 rd_rt rd_rl rd_rq v1 ra_at_5 (cs_cw_6, cs_ce_7, cs_cn_8, cs_cj_9, cs_cz_10)
set_option maxHeartbeats 4000000 in
set_option maxRecDepth 100000 in
theorem w5_atom_L47 {V : EV} {p : Program} {l : Launch} {e : Env} {R : Room} {s : State} {m : MethodId} {args : Array Value} {below : List Frame} {meth : Method} {c : Code} {Q : State → Prop} {A : Nat → Prop} {kc ks : Nat} {ad : Nat → Nat} {co : Nat → CoS} {mu : MuS} {fo : FoS} {tr : TrS} {ma : MaS} {mq : Nat} {mx : MxS} {top_tx : Nat → Int32} {top_ln : Int32} {top_cp : Int32} {top_cq : Nat} {top_sq : Nat} {top_fu : Int32} {top_lv : Int32} {top_lt : Int32} {rd_t0 : Nat → Int32} {rd_rl : Int32} {rd_rq : Nat} {rec : RecT} {F G : Nat}  {N : Nat} {res : Except String Unit × Int32 × CoS} (C : CX V p l R s m args c A kc ks RX5 cX5_atom 4 (F + 16) (G + 504)) (hq : rd_rq < 4) (hrec : RECOK V l F G rec) (K : (∀ v : Unit, res.1 = .ok v → RV V p l e R s m args below meth c Q A kc ks 4 cX5_atom (wC V ad (top_tx, top_ln, top_cp, top_cq, top_sq, top_fu, top_lv, top_lt) (rd_t0, 1, rd_rl, rd_rq) res.2.1 (updC co rd_rq res.2.2) mu fo tr ma mq mx)) ∧ ∀ E : String, res.1 = .error E → XE V p l e R s m args below meth c Q A kc ks 4 RX5 cX5_atom E (wC V ad (top_tx, top_ln, top_cp, top_cq, top_sq, top_fu, top_lv, top_lt) (rd_t0, 1, rd_rl, rd_rq) res.2.1 (updC co rd_rq res.2.2) mu fo tr ma mq mx))  : ∀ (x1 : Int32) (ra_at : Int32) (cs_cw : Nat → Int32) (cs_ce : Nat → Int32) (cs_cn : Nat → Int32) (cs_cj : Nat → Int32) (cs_cz : Int32), f5_atom_L47 N rec top_tx top_ln top_cp top_cq top_sq top_fu top_lv top_lt rd_t0 1 rd_rl rd_rq x1 ra_at (cs_cw, cs_ce, cs_cn, cs_cj, cs_cz) = some res → WC V p l e R s m args below meth c Q A kc ks 4 (wC V ad (top_tx, top_ln, top_cp, top_cq, top_sq, top_fu, top_lv, top_lt) (rd_t0, 1, rd_rl, rd_rq) ra_at (updC co rd_rq (cs_cw, cs_ce, cs_cn, cs_cj, cs_cz)) mu fo tr ma mq mx) 47 [(0, .ref (ad 2)), (1, .int x1)] [] := by
  intro x1 ra_at cs_cw cs_ce cs_cn cs_cj cs_cz hf
  rw [f5_atom_L47] at hf
  refine k_aload_n C dX5_atom_47 0 rfl ?_
  refine g5_19 C dX5_atom_48 ?_
  refine k_istore_n C dX5_atom_51 [(2, .int ra_at), (0, .ref (ad 2)), (1, .int x1)] (by decide) rfl ?_
  refine k_aload_n C dX5_atom_52 1 rfl ?_
  obtain ⟨r_14, hq_13, hf⟩ := ob_el hf
  refine k_callVi C (c5_next C.2.2.2.2.2.2.2.2.2.1 hq_13) cm5_46 ok5_next ⟨by omega, by have := nK_v; omega⟩ 2 rfl rfl rfl rfl (Nat.le_of_ble_eq_true rfl) dX5_atom_53 ?_
  refine k_istore_n C dX5_atom_56 [(3, .int r_14), (2, .int ra_at), (0, .ref (ad 2)), (1, .int x1)] (by decide) rfl ?_
  refine k_aload_n C dX5_atom_57 2 rfl ?_
  refine k_dup C dX5_atom_58 rfl ?_
  refine g5_19 C dX5_atom_59 ?_
  refine k_iconst (v := (1 : Int32)) C dX5_atom_62 (by decide) ?_
  refine k_iadd C dX5_atom_63 ?_
  refine p5_19 C dX5_atom_64 ?_
  refine k_aload_n C dX5_atom_67 2 rfl ?_
  refine k_iload_n C dX5_atom_68 3 rfl ?_
  obtain ⟨⟨r_16, ra_at_17, ⟨cs_cw_18, cs_ce_19, cs_cn_20, cs_cj_21, cs_cz_22⟩⟩, hq_15, hf⟩ := ob_el hf
  dsimp only at hf
  rcases r_16 with E | _u
  · try dsimp only at hf
    cases hf
    exact k_callVvx C (x5_expression C.2.2.2.2.2.2.2.2.2.1 hrec hq hq_15 rfl) cm5_80 ok5_expression ⟨by omega, by have := nK_v; omega⟩ 2 rfl rfl rfl rfl (Nat.le_of_ble_eq_true rfl) dX5_atom_69 (K.2 _ rfl)
  try dsimp only at hf
  refine k_callVv C (c5_expression C.2.2.2.2.2.2.2.2.2.1 hrec hq hq_15 rfl) cm5_80 ok5_expression ⟨by omega, by have := nK_v; omega⟩ 2 rfl rfl rfl rfl (Nat.le_of_ble_eq_true rfl) dX5_atom_69 ?_
  refine k_aload_n C dX5_atom_72 2 rfl ?_
  refine g5_25 C dX5_atom_73 ?_
  refine k_iconst (v := (1 : Int32)) C dX5_atom_76 (by decide) ?_
  refine k_iload_n C dX5_atom_77 1 rfl ?_
  refine k_iload_n C dX5_atom_78 0 rfl ?_
  obtain ⟨⟨r_24, ⟨cs_cw_25, cs_ce_26, cs_cn_27, cs_cj_28, cs_cz_29⟩⟩, hq_23, hf⟩ := ob_el hf
  dsimp only at hf
  refine k_callCi C hq (c0_add C.2.2.2.2.2.2.2.2.2.1 hq hq_23) cm5_63 ok0_add ⟨by omega, by have := nK_v; omega⟩ rfl rfl (Nat.le_of_ble_eq_true rfl) dX5_atom_79 ?_
  refine k_pop C dX5_atom_82 rfl ?_
  cases hf
  exact K.1 _ rfl _ _ dX5_atom_83
set_option maxHeartbeats 4000000 in
set_option maxRecDepth 100000 in
theorem b5_atom {V : EV} {p : Program} {l : Launch} {e : Env} {R : Room} {s : State} {m : MethodId} {args : Array Value} {below : List Frame} {meth : Method} {c : Code} {Q : State → Prop} {A : Nat → Prop} {kc ks : Nat} {ad : Nat → Nat} {co : Nat → CoS} {mu : MuS} {fo : FoS} {tr : TrS} {ma : MaS} {mq : Nat} {mx : MxS} {top_tx : Nat → Int32} {top_ln : Int32} {top_cp : Int32} {top_cq : Nat} {top_sq : Nat} {top_fu : Int32} {top_lv : Int32} {top_lt : Int32} {rd_t0 : Nat → Int32} {rd_rl : Int32} {rd_rq : Nat} {rec : RecT} {F G : Nat} {v1 : Int32} {ra_at : Int32} {cs_cw : Nat → Int32} {cs_ce : Nat → Int32} {cs_cn : Nat → Int32} {cs_cj : Nat → Int32} {cs_cz : Int32} {N : Nat} {res : Except String Unit × Int32 × CoS} (C : CX V p l R s m args c A kc ks RX5 cX5_atom 4 (F + 16) (G + 504)) (hq : rd_rq < 4) (hrec : RECOK V l F G rec) (hf : f5_atom rec N v1 (top_tx, top_ln, top_cp, top_cq, top_sq, top_fu, top_lv, top_lt) (rd_t0, 1, rd_rl, rd_rq) ra_at (cs_cw, cs_ce, cs_cn, cs_cj, cs_cz) = some res) (K : (∀ v : Unit, res.1 = .ok v → RV V p l e R s m args below meth c Q A kc ks 4 cX5_atom (wC V ad (top_tx, top_ln, top_cp, top_cq, top_sq, top_fu, top_lv, top_lt) (rd_t0, 1, rd_rl, rd_rq) res.2.1 (updC co rd_rq res.2.2) mu fo tr ma mq mx)) ∧ ∀ E : String, res.1 = .error E → XE V p l e R s m args below meth c Q A kc ks 4 RX5 cX5_atom E (wC V ad (top_tx, top_ln, top_cp, top_cq, top_sq, top_fu, top_lv, top_lt) (rd_t0, 1, rd_rl, rd_rq) res.2.1 (updC co rd_rq res.2.2) mu fo tr ma mq mx)) : WC V p l e R s m args below meth c Q A kc ks 4 (wC V ad (top_tx, top_ln, top_cp, top_cq, top_sq, top_fu, top_lv, top_lt) (rd_t0, 1, rd_rl, rd_rq) ra_at (updC co rd_rq (cs_cw, cs_ce, cs_cn, cs_cj, cs_cz)) mu fo tr ma mq mx) 0 [(0, .ref (ad 2)), (1, .int v1)] [] := by
  rw [f5_atom] at hf
  refine k_aload_n C dX5_atom_0 0 rfl ?_
  obtain ⟨r_2, hq_1, hf⟩ := ob_el hf
  refine k_callVi C (c5_next C.2.2.2.2.2.2.2.2.2.1 hq_1) cm5_46 ok5_next ⟨by omega, by have := nK_v; omega⟩ 2 rfl rfl rfl rfl (Nat.le_of_ble_eq_true rfl) dX5_atom_1 ?_
  refine k_bipush (v := (91 : Int32)) C dX5_atom_4 (by decide) ?_
  refine k_icmp_ne C 29 dX5_atom_6 (by decide) (fun hc => ?_) (fun hc => ?_)
  · replace hf := (if_neg hc).symm.trans hf
    refine k_aload_n C dX5_atom_29 0 rfl ?_
    refine k_iload_n C dX5_atom_30 1 rfl ?_
    obtain ⟨⟨r_4, ra_at_5, ⟨cs_cw_6, cs_ce_7, cs_cn_8, cs_cj_9, cs_cz_10⟩⟩, hq_3, hf⟩ := ob_el hf
    dsimp only at hf
    rcases r_4 with E | _u
    · try dsimp only at hf
      cases hf
      exact k_callVvx C (x5_expression C.2.2.2.2.2.2.2.2.2.1 hrec hq hq_3 rfl) cm5_80 ok5_expression ⟨by omega, by have := nK_v; omega⟩ 2 rfl rfl rfl rfl (Nat.le_of_ble_eq_true rfl) dX5_atom_31 (K.2 _ rfl)
    try dsimp only at hf
    refine k_callVv C (c5_expression C.2.2.2.2.2.2.2.2.2.1 hrec hq hq_3 rfl) cm5_80 ok5_expression ⟨by omega, by have := nK_v; omega⟩ 2 rfl rfl rfl rfl (Nat.le_of_ble_eq_true rfl) dX5_atom_31 ?_
    refine k_aload_n C dX5_atom_34 0 rfl ?_
    refine k_ldcS (tx := "<>=#") (j := 1) C (by decide +kernel) dX5_atom_35 ?_
    obtain ⟨r_12, hq_11, hf⟩ := ob_el hf
    refine k_callVi C (c5_nextIsOneOf C.2.2.2.2.2.2.2.2.2.1 (by decide) hq_11) cm5_123 ok5_nextIsOneOf ⟨by omega, by have := nK_v; omega⟩ 2 rfl rfl rfl rfl (Nat.le_of_ble_eq_true rfl) dX5_atom_37 ?_
    refine k_if_ne C 47 dX5_atom_40 (by decide) (fun hc => ?_) (fun hc => ?_)
    · replace hf := (if_neg hc).symm.trans hf
      exact w5_atom_L47 C hq hrec K _ _ _ _ _ _ _ hf
    · replace hf := (if_pos hc).symm.trans hf
      refine k_aload_n C dX5_atom_43 0 rfl ?_
      obtain ⟨r_31, hq_30, hf⟩ := ob_el hf
      rcases r_31 with E | _u
      · try dsimp only at hf
        cases hf
        exact k_callVvx C (x5_refuse C.2.2.2.2.2.2.2.2.2.1 hq_30 rfl) cm5_36 ok5_refuse ⟨by omega, by have := nK_v; omega⟩ 2 rfl rfl rfl rfl (Nat.le_of_ble_eq_true rfl) dX5_atom_44 (K.2 _ rfl)
      try dsimp only at hf
      refine k_callVv C (c5_refuse C.2.2.2.2.2.2.2.2.2.1 hq_30 rfl) cm5_36 ok5_refuse ⟨by omega, by have := nK_v; omega⟩ 2 rfl rfl rfl rfl (Nat.le_of_ble_eq_true rfl) dX5_atom_44 ?_
      exact w5_atom_L47 C hq hrec K _ _ _ _ _ _ _ hf
  · replace hf := (if_pos hc).symm.trans hf
    refine k_aload_n C dX5_atom_9 0 rfl ?_
    refine k_bipush (v := (91 : Int32)) C dX5_atom_10 (by decide) ?_
    refine k_iload_n C dX5_atom_12 1 rfl ?_
    obtain ⟨⟨r_33, ra_at_34⟩, hq_32, hf⟩ := ob_el hf
    dsimp only at hf
    rcases r_33 with E | r_35
    · try dsimp only at hf
      cases hf
      exact k_callVix C (x5_open C.2.2.2.2.2.2.2.2.2.1 hq_32 rfl) cm5_99 ok5_open ⟨by omega, by have := nK_v; omega⟩ 2 rfl rfl rfl rfl (Nat.le_of_ble_eq_true rfl) dX5_atom_13 (K.2 _ rfl)
    try dsimp only at hf
    refine k_callVi C (c5_open C.2.2.2.2.2.2.2.2.2.1 hq_32 rfl) cm5_99 ok5_open ⟨by omega, by have := nK_v; omega⟩ 2 rfl rfl rfl rfl (Nat.le_of_ble_eq_true rfl) dX5_atom_13 ?_
    refine k_istore_n C dX5_atom_16 [(2, .int r_35), (0, .ref (ad 2)), (1, .int v1)] (by decide) rfl ?_
    refine k_aload_n C dX5_atom_17 1 rfl ?_
    refine k_iload_n C dX5_atom_18 0 rfl ?_
    obtain ⟨⟨r_37, ra_at_38, ⟨cs_cw_39, cs_ce_40, cs_cn_41, cs_cj_42, cs_cz_43⟩⟩, hq_36, hf⟩ := ob_el hf
    dsimp only at hf
    rcases r_37 with E | _u
    · try dsimp only at hf
      cases hf
      exact k_callVvx C ((hrec 1 (by decide) hq).2 _ hq_36) cm5_73 ok5_condition ⟨by omega, by have := nK_v; omega⟩ 2 rfl rfl rfl rfl (Nat.le_of_ble_eq_true rfl) dX5_atom_19 (K.2 _ rfl)
    try dsimp only at hf
    refine k_callVv C ((hrec 1 (by decide) hq).1 hq_36) cm5_73 ok5_condition ⟨by omega, by have := nK_v; omega⟩ 2 rfl rfl rfl rfl (Nat.le_of_ble_eq_true rfl) dX5_atom_19 ?_
    refine k_aload_n C dX5_atom_22 1 rfl ?_
    refine k_bipush (v := (93 : Int32)) C dX5_atom_23 (by decide) ?_
    obtain ⟨⟨r_45, ra_at_46⟩, hq_44, hf⟩ := ob_el hf
    dsimp only at hf
    rcases r_45 with E | _u
    · try dsimp only at hf
      cases hf
      exact k_callVvx C (x5_take C.2.2.2.2.2.2.2.2.2.1 hq_44 rfl) cm5_56 ok5_take ⟨by omega, by have := nK_v; omega⟩ 2 rfl rfl rfl rfl (Nat.le_of_ble_eq_true rfl) dX5_atom_25 (K.2 _ rfl)
    try dsimp only at hf
    refine k_callVv C (c5_take C.2.2.2.2.2.2.2.2.2.1 hq_44 rfl) cm5_56 ok5_take ⟨by omega, by have := nK_v; omega⟩ 2 rfl rfl rfl rfl (Nat.le_of_ble_eq_true rfl) dX5_atom_25 ?_
    cases hf
    exact K.1 _ rfl _ _ dX5_atom_28
theorem c5_atom {V : EV} {l : Launch} (hl0 : l.stackTraces = false) {ad : Nat → Nat} {co : Nat → CoS} {mu : MuS} {fo : FoS} {tr : TrS} {ma : MaS} {mq : Nat} {mx : MxS} {top_tx : Nat → Int32} {top_ln : Int32} {top_cp : Int32} {top_cq : Nat} {top_sq : Nat} {top_fu : Int32} {top_lv : Int32} {top_lt : Int32} {rd_t0 : Nat → Int32} {rd_rl : Int32} {rd_rq : Nat} {v1 : Int32} {ra_at : Int32} {cs_cw : Nat → Int32} {cs_ce : Nat → Int32} {cs_cn : Nat → Int32} {cs_cj : Nat → Int32} {cs_cz : Int32} {N : Nat} {res : Except String Unit × Int32 × CoS} {rec : RecT} {F G : Nat} (hrec : RECOK V l F G rec) (hq : rd_rq < 4) (hf : f5_atom rec N v1 (top_tx, top_ln, top_cp, top_cq, top_sq, top_fu, top_lv, top_lt) (rd_t0, 1, rd_rl, rd_rq) ra_at (cs_cw, cs_ce, cs_cn, cs_cj, cs_cz) = some res) {v : Unit} (hv : res.1 = .ok v) : MV V l yX5_atom cX5_atom 4 (F + 16) (G + 504) [.ref (ad 2), .int v1] (wC V ad (top_tx, top_ln, top_cp, top_cq, top_sq, top_fu, top_lv, top_lt) (rd_t0, 1, rd_rl, rd_rq) ra_at (updC co rd_rq (cs_cw, cs_ce, cs_cn, cs_cj, cs_cz)) mu fo tr ma mq mx) (wC V ad (top_tx, top_ln, top_cp, top_cq, top_sq, top_fu, top_lv, top_lt) (rd_t0, 1, rd_rl, rd_rq) res.2.1 (updC co rd_rq res.2.2) mu fo tr ma mq mx) :=
  mv_of hl0 (by decide +kernel) (Nat.le_of_ble_eq_true rfl) (fun p e R s m args below meth c Q A C K => b5_atom C hq hrec hf ⟨fun v' h' => (by cases hv.symm.trans h'; exact K), fun E h' => (by cases hv.symm.trans h')⟩)
theorem x5_atom {V : EV} {l : Launch} (hl0 : l.stackTraces = false) {ad : Nat → Nat} {co : Nat → CoS} {mu : MuS} {fo : FoS} {tr : TrS} {ma : MaS} {mq : Nat} {mx : MxS} {top_tx : Nat → Int32} {top_ln : Int32} {top_cp : Int32} {top_cq : Nat} {top_sq : Nat} {top_fu : Int32} {top_lv : Int32} {top_lt : Int32} {rd_t0 : Nat → Int32} {rd_rl : Int32} {rd_rq : Nat} {v1 : Int32} {ra_at : Int32} {cs_cw : Nat → Int32} {cs_ce : Nat → Int32} {cs_cn : Nat → Int32} {cs_cj : Nat → Int32} {cs_cz : Int32} {N : Nat} {res : Except String Unit × Int32 × CoS} {rec : RecT} {F G : Nat} (hrec : RECOK V l F G rec) (hq : rd_rq < 4) (hf : f5_atom rec N v1 (top_tx, top_ln, top_cp, top_cq, top_sq, top_fu, top_lv, top_lt) (rd_t0, 1, rd_rl, rd_rq) ra_at (cs_cw, cs_ce, cs_cn, cs_cj, cs_cz) = some res) {E : String} (hv : res.1 = .error E) : TV V l yX5_atom cX5_atom 4 (F + 16) (G + 504) [.ref (ad 2), .int v1] (wC V ad (top_tx, top_ln, top_cp, top_cq, top_sq, top_fu, top_lv, top_lt) (rd_t0, 1, rd_rl, rd_rq) ra_at (updC co rd_rq (cs_cw, cs_ce, cs_cn, cs_cj, cs_cz)) mu fo tr ma mq mx) E (wC V ad (top_tx, top_ln, top_cp, top_cq, top_sq, top_fu, top_lv, top_lt) (rd_t0, 1, rd_rl, rd_rq) res.2.1 (updC co rd_rq res.2.2) mu fo tr ma mq mx) :=
  tv_of hl0 (by decide +kernel) (Nat.le_of_ble_eq_true rfl) (fun p e R s m args below meth c Q A C K => b5_atom C hq hrec hf ⟨fun v' h' => (by cases hv.symm.trans h'), fun E' h' => (by cases hv.symm.trans h'; exact K)⟩)

theorem cm5_106 : ∀ a ∈ wsCV RX5 106 RX5 yX5_decide cX5_decide 2 (some .int), a ∈ GW := by
  unfold wsCV
  exact (List.forall_mem_cons.mpr ⟨(gw_3 (i := 88) (by decide +kernel) rfl), (List.forall_mem_cons.mpr ⟨(gw_3 (i := 90) (by decide +kernel) rfl), (List.forall_mem_cons.mpr ⟨(gw_p (q := ((yX5_decide, 4) : MethodName × Nat)) (List.mem_append_right _ (List.mem_append_left _ (List.mem_of_getElem? (i := 2) (by decide +kernel)))) rfl), (List.forall_mem_cons.mpr ⟨(gw_1 (i := 2) (by decide +kernel) rfl), (List.forall_mem_cons.mpr ⟨(gw_3 (i := 91) (by decide +kernel) rfl), (List.forall_mem_nil _)⟩)⟩)⟩)⟩)⟩)
theorem cm5_109 : ∀ a ∈ wsCV RX5 109 RX5 yX5_join cX5_join 2 none, a ∈ GW := by
  unfold wsCV
  exact (List.forall_mem_cons.mpr ⟨(gw_3 (i := 92) (by decide +kernel) rfl), (List.forall_mem_cons.mpr ⟨(gw_3 (i := 94) (by decide +kernel) rfl), (List.forall_mem_cons.mpr ⟨(gw_p (q := ((yX5_join, 4) : MethodName × Nat)) (List.mem_append_right _ (List.mem_append_left _ (List.mem_of_getElem? (i := 3) (by decide +kernel)))) rfl), (List.forall_mem_cons.mpr ⟨(gw_1 (i := 2) (by decide +kernel) rfl), (List.forall_mem_cons.mpr ⟨(gw_3 (i := 95) (by decide +kernel) rfl), (List.forall_mem_nil _)⟩)⟩)⟩)⟩)⟩)
theorem cm5_112 : ∀ a ∈ wsCV RX5 112 RX5 yX5_atom cX5_atom 4 none, a ∈ GW := by
  unfold wsCV
  exact (List.forall_mem_cons.mpr ⟨(gw_2 (i := 126) (by decide +kernel) rfl), (List.forall_mem_cons.mpr ⟨(gw_2 (i := 128) (by decide +kernel) rfl), (List.forall_mem_cons.mpr ⟨(gw_p (q := ((yX5_atom, 4) : MethodName × Nat)) (List.mem_append_left _ (List.mem_of_getElem? (i := 6) (by decide +kernel))) rfl), (List.forall_mem_cons.mpr ⟨(gw_1 (i := 2) (by decide +kernel) rfl), (List.forall_mem_cons.mpr ⟨(gw_2 (i := 129) (by decide +kernel) rfl), (List.forall_mem_nil _)⟩)⟩)⟩)⟩)⟩)
theorem ok5_part : okCV RX5 yX5_part 1 := by unfold okCV; decide +kernel
def f5_part_L7 (k43 : Int32 → CoS → Option (Except String Unit × Int32 × CoS)) (N : Nat) (rec : RecT) (top_tx : Nat → Int32) (top_ln : Int32) (top_cp : Int32) (top_cq : Nat) (top_sq : Nat) (top_fu : Int32) (top_lv : Int32) (top_lt : Int32) (rd_t0 : Nat → Int32) (rd_rt : Nat) (rd_rl : Int32) (rd_rq : Nat) : Nat → Int32 → Int32 → Int32 → CoS → Option (Except String Unit × Int32 × CoS)
  | 0, _, _, _, _ => none
  | n + 1, x1, x2, ra_at, (cs_cw, cs_ce, cs_cn, cs_cj, cs_cz) =>
    if (60 : Int32) ≤ x2 then k43 ra_at (cs_cw, cs_ce, cs_cn, cs_cj, cs_cz) else (f5_next (top_tx, top_ln, top_cp, top_cq, top_sq, top_fu, top_lv, top_lt) (rd_t0, 1, rd_rl, rd_rq) ra_at).bind fun r_10 => if r_10 = (38 : Int32) then (f5_decide (top_tx, top_ln, top_cp, top_cq, top_sq, top_fu, top_lv, top_lt) (rd_t0, 1, rd_rl, rd_rq) ra_at (cs_cw, cs_ce, cs_cn, cs_cj, cs_cz)).bind fun (r_12, ra_at_13, (cs_cw_14, cs_ce_15, cs_cn_16, cs_cj_17, cs_cz_18)) => (f5_atom rec N x1 (top_tx, top_ln, top_cp, top_cq, top_sq, top_fu, top_lv, top_lt) (rd_t0, 1, rd_rl, rd_rq) ra_at_13 (cs_cw_14, cs_ce_15, cs_cn_16, cs_cj_17, cs_cz_18)).bind fun (r_20, ra_at_21, (cs_cw_22, cs_ce_23, cs_cn_24, cs_cj_25, cs_cz_26)) => match r_20 with | .error E => some ((.error E), ra_at_21, (cs_cw_22, cs_ce_23, cs_cn_24, cs_cj_25, cs_cz_26)) | .ok _ => (f5_join r_12 (rd_t0, 1, rd_rl, rd_rq) (cs_cw_22, cs_ce_23, cs_cn_24, cs_cj_25, cs_cz_26)).bind fun (cs_cw_28, cs_ce_29, cs_cn_30, cs_cj_31, cs_cz_32) => nm_v (x2 + (1 : Int32)) (fun v2_33 => f5_part_L7 k43 N rec top_tx top_ln top_cp top_cq top_sq top_fu top_lv top_lt rd_t0 rd_rt rd_rl rd_rq n x1 v2_33 ra_at_21 (cs_cw_28, cs_ce_29, cs_cn_30, cs_cj_31, cs_cz_32)) else k43 ra_at (cs_cw, cs_ce, cs_cn, cs_cj, cs_cz)
def f5_part (rec : RecT) (N : Nat) (v1 : Int32) : TopS → RdS → Int32 → CoS → Option (Except String Unit × Int32 × CoS)
  | (top_tx, top_ln, top_cp, top_cq, top_sq, top_fu, top_lv, top_lt), (rd_t0, rd_rt, rd_rl, rd_rq), ra_at, (cs_cw, cs_ce, cs_cn, cs_cj, cs_cz) =>
    (f5_atom rec N v1 (top_tx, top_ln, top_cp, top_cq, top_sq, top_fu, top_lv, top_lt) (rd_t0, 1, rd_rl, rd_rq) ra_at (cs_cw, cs_ce, cs_cn, cs_cj, cs_cz)).bind fun (r_2, ra_at_3, (cs_cw_4, cs_ce_5, cs_cn_6, cs_cj_7, cs_cz_8)) => match r_2 with | .error E => some ((.error E), ra_at_3, (cs_cw_4, cs_ce_5, cs_cn_6, cs_cj_7, cs_cz_8)) | .ok _ => f5_part_L7 (fun ra_at_34 (cs_cw_34, cs_ce_34, cs_cn_34, cs_cj_34, cs_cz_34) => some ((.ok ()), ra_at_34, (cs_cw_34, cs_ce_34, cs_cn_34, cs_cj_34, cs_cz_34))) N rec top_tx top_ln top_cp top_cq top_sq top_fu top_lv top_lt rd_t0 rd_rt rd_rl rd_rq N v1 (0 : Int32) ra_at_3 (cs_cw_4, cs_ce_5, cs_cn_6, cs_cj_7, cs_cz_8)
set_option maxHeartbeats 4000000 in
set_option maxRecDepth 100000 in
theorem w5_part_L7 {V : EV} {p : Program} {l : Launch} {e : Env} {R : Room} {s : State} {m : MethodId} {args : Array Value} {below : List Frame} {meth : Method} {c : Code} {Q : State → Prop} {A : Nat → Prop} {kc ks : Nat} {ad : Nat → Nat} {co : Nat → CoS} {mu : MuS} {fo : FoS} {tr : TrS} {ma : MaS} {mq : Nat} {mx : MxS} {top_tx : Nat → Int32} {top_ln : Int32} {top_cp : Int32} {top_cq : Nat} {top_sq : Nat} {top_fu : Int32} {top_lv : Int32} {top_lt : Int32} {rd_t0 : Nat → Int32} {rd_rl : Int32} {rd_rq : Nat} {rec : RecT} {F G : Nat} {k43 : Int32 → CoS → Option (Except String Unit × Int32 × CoS)} {N : Nat} {res : Except String Unit × Int32 × CoS} (C : CX V p l R s m args c A kc ks RX5 cX5_part 4 (F + 17) (G + 527)) (hq : rd_rq < 4) (hrec : RECOK V l F G rec) (K : (∀ v : Unit, res.1 = .ok v → RV V p l e R s m args below meth c Q A kc ks 4 cX5_part (wC V ad (top_tx, top_ln, top_cp, top_cq, top_sq, top_fu, top_lv, top_lt) (rd_t0, 1, rd_rl, rd_rq) res.2.1 (updC co rd_rq res.2.2) mu fo tr ma mq mx)) ∧ ∀ E : String, res.1 = .error E → XE V p l e R s m args below meth c Q A kc ks 4 RX5 cX5_part E (wC V ad (top_tx, top_ln, top_cp, top_cq, top_sq, top_fu, top_lv, top_lt) (rd_t0, 1, rd_rl, rd_rq) res.2.1 (updC co rd_rq res.2.2) mu fo tr ma mq mx)) (hk43 : ∀  (ra_at : Int32) (cs_cw : Nat → Int32) (cs_ce : Nat → Int32) (cs_cn : Nat → Int32) (cs_cj : Nat → Int32) (cs_cz : Int32), k43 ra_at (cs_cw, cs_ce, cs_cn, cs_cj, cs_cz) = some res → WC V p l e R s m args below meth c Q A kc ks 4 (wC V ad (top_tx, top_ln, top_cp, top_cq, top_sq, top_fu, top_lv, top_lt) (rd_t0, 1, rd_rl, rd_rq) ra_at (updC co rd_rq (cs_cw, cs_ce, cs_cn, cs_cj, cs_cz)) mu fo tr ma mq mx) 43 [] []) : ∀ (n : Nat) (x1 : Int32) (x2 : Int32) (ra_at : Int32) (cs_cw : Nat → Int32) (cs_ce : Nat → Int32) (cs_cn : Nat → Int32) (cs_cj : Nat → Int32) (cs_cz : Int32), f5_part_L7 k43 N rec top_tx top_ln top_cp top_cq top_sq top_fu top_lv top_lt rd_t0 1 rd_rl rd_rq n x1 x2 ra_at (cs_cw, cs_ce, cs_cn, cs_cj, cs_cz) = some res → WC V p l e R s m args below meth c Q A kc ks 4 (wC V ad (top_tx, top_ln, top_cp, top_cq, top_sq, top_fu, top_lv, top_lt) (rd_t0, 1, rd_rl, rd_rq) ra_at (updC co rd_rq (cs_cw, cs_ce, cs_cn, cs_cj, cs_cz)) mu fo tr ma mq mx) 7 [(0, .ref (ad 2)), (1, .int x1), (2, .int x2)] [] := by
  intro n
  induction n with
  | zero => intro _ _ _ _ _ _ _ _ hf; exact nomatch (show none = some res from hf)
  | succ n ih =>
    intro x1 x2 ra_at cs_cw cs_ce cs_cn cs_cj cs_cz hf
    rw [f5_part_L7] at hf
    refine k_iload_n C dX5_part_7 2 rfl ?_
    refine k_bipush (v := (60 : Int32)) C dX5_part_8 (by decide) ?_
    refine k_icmp_ge C 43 dX5_part_10 (by decide) (fun hc => ?_) (fun hc => ?_)
    · replace hf := (if_pos hc).symm.trans hf
      refine k_sub [] (L' := []) rfl ?_
      exact hk43 _ _ _ _ _ _ hf
    · replace hf := (if_neg hc).symm.trans hf
      refine k_aload_n C dX5_part_13 0 rfl ?_
      obtain ⟨r_10, hq_9, hf⟩ := ob_el hf
      refine k_callVi C (c5_next C.2.2.2.2.2.2.2.2.2.1 hq_9) cm5_46 ok5_next ⟨by omega, by have := nK_v; omega⟩ 2 rfl rfl rfl rfl (Nat.le_of_ble_eq_true rfl) dX5_part_14 ?_
      refine k_bipush (v := (38 : Int32)) C dX5_part_17 (by decide) ?_
      refine k_icmp_ne C 43 dX5_part_19 (by decide) (fun hc => ?_) (fun hc => ?_)
      · replace hf := (if_neg hc).symm.trans hf
        refine k_sub [] (L' := []) rfl ?_
        exact hk43 _ _ _ _ _ _ hf
      · replace hf := (if_pos hc).symm.trans hf
        refine k_aload_n C dX5_part_22 0 rfl ?_
        obtain ⟨⟨r_12, ra_at_13, ⟨cs_cw_14, cs_ce_15, cs_cn_16, cs_cj_17, cs_cz_18⟩⟩, hq_11, hf⟩ := ob_el hf
        dsimp only at hf
        refine k_callVi C (c5_decide C.2.2.2.2.2.2.2.2.2.1 hq hq_11) cm5_106 ok5_decide ⟨by omega, by have := nK_v; omega⟩ 2 rfl rfl rfl rfl (Nat.le_of_ble_eq_true rfl) dX5_part_23 ?_
        refine k_istore_n C dX5_part_26 [(3, .int r_12), (0, .ref (ad 2)), (1, .int x1), (2, .int x2)] (by decide) rfl ?_
        refine k_aload_n C dX5_part_27 1 rfl ?_
        refine k_iload_n C dX5_part_28 2 rfl ?_
        obtain ⟨⟨r_20, ra_at_21, ⟨cs_cw_22, cs_ce_23, cs_cn_24, cs_cj_25, cs_cz_26⟩⟩, hq_19, hf⟩ := ob_el hf
        dsimp only at hf
        rcases r_20 with E | _u
        · try dsimp only at hf
          cases hf
          exact k_callVvx C (x5_atom C.2.2.2.2.2.2.2.2.2.1 hrec hq hq_19 rfl) cm5_112 ok5_atom ⟨by omega, by have := nK_v; omega⟩ 2 rfl rfl rfl rfl (Nat.le_of_ble_eq_true rfl) dX5_part_29 (K.2 _ rfl)
        try dsimp only at hf
        refine k_callVv C (c5_atom C.2.2.2.2.2.2.2.2.2.1 hrec hq hq_19 rfl) cm5_112 ok5_atom ⟨by omega, by have := nK_v; omega⟩ 2 rfl rfl rfl rfl (Nat.le_of_ble_eq_true rfl) dX5_part_29 ?_
        refine k_aload_n C dX5_part_32 1 rfl ?_
        refine k_iload_n C dX5_part_33 0 rfl ?_
        obtain ⟨⟨cs_cw_28, cs_ce_29, cs_cn_30, cs_cj_31, cs_cz_32⟩, hq_27, hf⟩ := ob_el hf
        dsimp only at hf
        refine k_callVv C (c5_join C.2.2.2.2.2.2.2.2.2.1 hq hq_27) cm5_109 ok5_join ⟨by omega, by have := nK_v; omega⟩ 2 rfl rfl rfl rfl (Nat.le_of_ble_eq_true rfl) dX5_part_34 ?_
        obtain ⟨v2_33, ev2_33⟩ : ∃ y : Int32, y = x2 + (1 : Int32) := ⟨_, rfl⟩
        replace hf := nm_el hf ev2_33
        refine k_iinc (v := v2_33) C dX5_part_37 3 rfl (by rw [ev2_33]; rfl) [(2, .int v2_33), (3, .int r_12), (0, .ref (ad 2)), (1, .int x1)] (by decide) rfl ?_
        refine k_goto C 7 dX5_part_40 (by decide) ?_
        refine k_sub [2, 3, 0] (L' := [(0, .ref (ad 2)), (1, .int x1), (2, .int v2_33)]) rfl ?_
        exact ih _ _ _ _ _ _ _ _ hf
set_option maxHeartbeats 4000000 in
set_option maxRecDepth 100000 in
theorem b5_part {V : EV} {p : Program} {l : Launch} {e : Env} {R : Room} {s : State} {m : MethodId} {args : Array Value} {below : List Frame} {meth : Method} {c : Code} {Q : State → Prop} {A : Nat → Prop} {kc ks : Nat} {ad : Nat → Nat} {co : Nat → CoS} {mu : MuS} {fo : FoS} {tr : TrS} {ma : MaS} {mq : Nat} {mx : MxS} {top_tx : Nat → Int32} {top_ln : Int32} {top_cp : Int32} {top_cq : Nat} {top_sq : Nat} {top_fu : Int32} {top_lv : Int32} {top_lt : Int32} {rd_t0 : Nat → Int32} {rd_rl : Int32} {rd_rq : Nat} {rec : RecT} {F G : Nat} {v1 : Int32} {ra_at : Int32} {cs_cw : Nat → Int32} {cs_ce : Nat → Int32} {cs_cn : Nat → Int32} {cs_cj : Nat → Int32} {cs_cz : Int32} {N : Nat} {res : Except String Unit × Int32 × CoS} (C : CX V p l R s m args c A kc ks RX5 cX5_part 4 (F + 17) (G + 527)) (hq : rd_rq < 4) (hrec : RECOK V l F G rec) (hf : f5_part rec N v1 (top_tx, top_ln, top_cp, top_cq, top_sq, top_fu, top_lv, top_lt) (rd_t0, 1, rd_rl, rd_rq) ra_at (cs_cw, cs_ce, cs_cn, cs_cj, cs_cz) = some res) (K : (∀ v : Unit, res.1 = .ok v → RV V p l e R s m args below meth c Q A kc ks 4 cX5_part (wC V ad (top_tx, top_ln, top_cp, top_cq, top_sq, top_fu, top_lv, top_lt) (rd_t0, 1, rd_rl, rd_rq) res.2.1 (updC co rd_rq res.2.2) mu fo tr ma mq mx)) ∧ ∀ E : String, res.1 = .error E → XE V p l e R s m args below meth c Q A kc ks 4 RX5 cX5_part E (wC V ad (top_tx, top_ln, top_cp, top_cq, top_sq, top_fu, top_lv, top_lt) (rd_t0, 1, rd_rl, rd_rq) res.2.1 (updC co rd_rq res.2.2) mu fo tr ma mq mx)) : WC V p l e R s m args below meth c Q A kc ks 4 (wC V ad (top_tx, top_ln, top_cp, top_cq, top_sq, top_fu, top_lv, top_lt) (rd_t0, 1, rd_rl, rd_rq) ra_at (updC co rd_rq (cs_cw, cs_ce, cs_cn, cs_cj, cs_cz)) mu fo tr ma mq mx) 0 [(0, .ref (ad 2)), (1, .int v1)] [] := by
  rw [f5_part] at hf
  refine k_aload_n C dX5_part_0 0 rfl ?_
  refine k_iload_n C dX5_part_1 1 rfl ?_
  obtain ⟨⟨r_2, ra_at_3, ⟨cs_cw_4, cs_ce_5, cs_cn_6, cs_cj_7, cs_cz_8⟩⟩, hq_1, hf⟩ := ob_el hf
  dsimp only at hf
  rcases r_2 with E | _u
  · try dsimp only at hf
    cases hf
    exact k_callVvx C (x5_atom C.2.2.2.2.2.2.2.2.2.1 hrec hq hq_1 rfl) cm5_112 ok5_atom ⟨by omega, by have := nK_v; omega⟩ 2 rfl rfl rfl rfl (Nat.le_of_ble_eq_true rfl) dX5_part_2 (K.2 _ rfl)
  try dsimp only at hf
  refine k_callVv C (c5_atom C.2.2.2.2.2.2.2.2.2.1 hrec hq hq_1 rfl) cm5_112 ok5_atom ⟨by omega, by have := nK_v; omega⟩ 2 rfl rfl rfl rfl (Nat.le_of_ble_eq_true rfl) dX5_part_2 ?_
  refine k_iconst (v := (0 : Int32)) C dX5_part_5 (by decide) ?_
  refine k_istore_n C dX5_part_6 [(2, .int (0 : Int32)), (0, .ref (ad 2)), (1, .int v1)] (by decide) rfl ?_
  refine k_sub [1, 2, 0] (L' := [(0, .ref (ad 2)), (1, .int v1), (2, .int (0 : Int32))]) rfl ?_
  refine w5_part_L7 C hq hrec K ?_ _ _ _ _ _ _ _ _ _ hf
  · intro ra_at_34 cs_cw_34 cs_ce_34 cs_cn_34 cs_cj_34 cs_cz_34 hf
    try dsimp only at hf
    cases hf
    exact K.1 _ rfl _ _ dX5_part_43
theorem c5_part {V : EV} {l : Launch} (hl0 : l.stackTraces = false) {ad : Nat → Nat} {co : Nat → CoS} {mu : MuS} {fo : FoS} {tr : TrS} {ma : MaS} {mq : Nat} {mx : MxS} {top_tx : Nat → Int32} {top_ln : Int32} {top_cp : Int32} {top_cq : Nat} {top_sq : Nat} {top_fu : Int32} {top_lv : Int32} {top_lt : Int32} {rd_t0 : Nat → Int32} {rd_rl : Int32} {rd_rq : Nat} {v1 : Int32} {ra_at : Int32} {cs_cw : Nat → Int32} {cs_ce : Nat → Int32} {cs_cn : Nat → Int32} {cs_cj : Nat → Int32} {cs_cz : Int32} {N : Nat} {res : Except String Unit × Int32 × CoS} {rec : RecT} {F G : Nat} (hrec : RECOK V l F G rec) (hq : rd_rq < 4) (hf : f5_part rec N v1 (top_tx, top_ln, top_cp, top_cq, top_sq, top_fu, top_lv, top_lt) (rd_t0, 1, rd_rl, rd_rq) ra_at (cs_cw, cs_ce, cs_cn, cs_cj, cs_cz) = some res) {v : Unit} (hv : res.1 = .ok v) : MV V l yX5_part cX5_part 4 (F + 17) (G + 527) [.ref (ad 2), .int v1] (wC V ad (top_tx, top_ln, top_cp, top_cq, top_sq, top_fu, top_lv, top_lt) (rd_t0, 1, rd_rl, rd_rq) ra_at (updC co rd_rq (cs_cw, cs_ce, cs_cn, cs_cj, cs_cz)) mu fo tr ma mq mx) (wC V ad (top_tx, top_ln, top_cp, top_cq, top_sq, top_fu, top_lv, top_lt) (rd_t0, 1, rd_rl, rd_rq) res.2.1 (updC co rd_rq res.2.2) mu fo tr ma mq mx) :=
  mv_of hl0 (by decide +kernel) (Nat.le_of_ble_eq_true rfl) (fun p e R s m args below meth c Q A C K => b5_part C hq hrec hf ⟨fun v' h' => (by cases hv.symm.trans h'; exact K), fun E h' => (by cases hv.symm.trans h')⟩)
theorem x5_part {V : EV} {l : Launch} (hl0 : l.stackTraces = false) {ad : Nat → Nat} {co : Nat → CoS} {mu : MuS} {fo : FoS} {tr : TrS} {ma : MaS} {mq : Nat} {mx : MxS} {top_tx : Nat → Int32} {top_ln : Int32} {top_cp : Int32} {top_cq : Nat} {top_sq : Nat} {top_fu : Int32} {top_lv : Int32} {top_lt : Int32} {rd_t0 : Nat → Int32} {rd_rl : Int32} {rd_rq : Nat} {v1 : Int32} {ra_at : Int32} {cs_cw : Nat → Int32} {cs_ce : Nat → Int32} {cs_cn : Nat → Int32} {cs_cj : Nat → Int32} {cs_cz : Int32} {N : Nat} {res : Except String Unit × Int32 × CoS} {rec : RecT} {F G : Nat} (hrec : RECOK V l F G rec) (hq : rd_rq < 4) (hf : f5_part rec N v1 (top_tx, top_ln, top_cp, top_cq, top_sq, top_fu, top_lv, top_lt) (rd_t0, 1, rd_rl, rd_rq) ra_at (cs_cw, cs_ce, cs_cn, cs_cj, cs_cz) = some res) {E : String} (hv : res.1 = .error E) : TV V l yX5_part cX5_part 4 (F + 17) (G + 527) [.ref (ad 2), .int v1] (wC V ad (top_tx, top_ln, top_cp, top_cq, top_sq, top_fu, top_lv, top_lt) (rd_t0, 1, rd_rl, rd_rq) ra_at (updC co rd_rq (cs_cw, cs_ce, cs_cn, cs_cj, cs_cz)) mu fo tr ma mq mx) E (wC V ad (top_tx, top_ln, top_cp, top_cq, top_sq, top_fu, top_lv, top_lt) (rd_t0, 1, rd_rl, rd_rq) res.2.1 (updC co rd_rq res.2.2) mu fo tr ma mq mx) :=
  tv_of hl0 (by decide +kernel) (Nat.le_of_ble_eq_true rfl) (fun p e R s m args below meth c Q A C K => b5_part C hq hrec hf ⟨fun v' h' => (by cases hv.symm.trans h'), fun E' h' => (by cases hv.symm.trans h'; exact K)⟩)

theorem cm5_103 : ∀ a ∈ wsCV RX5 103 RX5 yX5_part cX5_part 4 none, a ∈ GW := by
  unfold wsCV
  exact (List.forall_mem_cons.mpr ⟨(gw_2 (i := 122) (by decide +kernel) rfl), (List.forall_mem_cons.mpr ⟨(gw_2 (i := 124) (by decide +kernel) rfl), (List.forall_mem_cons.mpr ⟨(gw_p (q := ((yX5_part, 4) : MethodName × Nat)) (List.mem_append_left _ (List.mem_of_getElem? (i := 5) (by decide +kernel))) rfl), (List.forall_mem_cons.mpr ⟨(gw_1 (i := 2) (by decide +kernel) rfl), (List.forall_mem_cons.mpr ⟨(gw_2 (i := 125) (by decide +kernel) rfl), (List.forall_mem_nil _)⟩)⟩)⟩)⟩)⟩)
def f5_condition_L7 (k43 : Int32 → CoS → Option (Except String Unit × Int32 × CoS)) (N : Nat) (rec : RecT) (top_tx : Nat → Int32) (top_ln : Int32) (top_cp : Int32) (top_cq : Nat) (top_sq : Nat) (top_fu : Int32) (top_lv : Int32) (top_lt : Int32) (rd_t0 : Nat → Int32) (rd_rt : Nat) (rd_rl : Int32) (rd_rq : Nat) : Nat → Int32 → Int32 → Int32 → CoS → Option (Except String Unit × Int32 × CoS)
  | 0, _, _, _, _ => none
  | n + 1, x1, x2, ra_at, (cs_cw, cs_ce, cs_cn, cs_cj, cs_cz) =>
    if (60 : Int32) ≤ x2 then k43 ra_at (cs_cw, cs_ce, cs_cn, cs_cj, cs_cz) else (f5_next (top_tx, top_ln, top_cp, top_cq, top_sq, top_fu, top_lv, top_lt) (rd_t0, 1, rd_rl, rd_rq) ra_at).bind fun r_10 => if r_10 = (124 : Int32) then (f5_decide (top_tx, top_ln, top_cp, top_cq, top_sq, top_fu, top_lv, top_lt) (rd_t0, 1, rd_rl, rd_rq) ra_at (cs_cw, cs_ce, cs_cn, cs_cj, cs_cz)).bind fun (r_12, ra_at_13, (cs_cw_14, cs_ce_15, cs_cn_16, cs_cj_17, cs_cz_18)) => (f5_part rec N x1 (top_tx, top_ln, top_cp, top_cq, top_sq, top_fu, top_lv, top_lt) (rd_t0, 1, rd_rl, rd_rq) ra_at_13 (cs_cw_14, cs_ce_15, cs_cn_16, cs_cj_17, cs_cz_18)).bind fun (r_20, ra_at_21, (cs_cw_22, cs_ce_23, cs_cn_24, cs_cj_25, cs_cz_26)) => match r_20 with | .error E => some ((.error E), ra_at_21, (cs_cw_22, cs_ce_23, cs_cn_24, cs_cj_25, cs_cz_26)) | .ok _ => (f5_join r_12 (rd_t0, 1, rd_rl, rd_rq) (cs_cw_22, cs_ce_23, cs_cn_24, cs_cj_25, cs_cz_26)).bind fun (cs_cw_28, cs_ce_29, cs_cn_30, cs_cj_31, cs_cz_32) => nm_v (x2 + (1 : Int32)) (fun v2_33 => f5_condition_L7 k43 N rec top_tx top_ln top_cp top_cq top_sq top_fu top_lv top_lt rd_t0 rd_rt rd_rl rd_rq n x1 v2_33 ra_at_21 (cs_cw_28, cs_ce_29, cs_cn_30, cs_cj_31, cs_cz_32)) else k43 ra_at (cs_cw, cs_ce, cs_cn, cs_cj, cs_cz)
def f5_condition (rec : RecT) (N : Nat) (v1 : Int32) : TopS → RdS → Int32 → CoS → Option (Except String Unit × Int32 × CoS)
  | (top_tx, top_ln, top_cp, top_cq, top_sq, top_fu, top_lv, top_lt), (rd_t0, rd_rt, rd_rl, rd_rq), ra_at, (cs_cw, cs_ce, cs_cn, cs_cj, cs_cz) =>
    (f5_part rec N v1 (top_tx, top_ln, top_cp, top_cq, top_sq, top_fu, top_lv, top_lt) (rd_t0, 1, rd_rl, rd_rq) ra_at (cs_cw, cs_ce, cs_cn, cs_cj, cs_cz)).bind fun (r_2, ra_at_3, (cs_cw_4, cs_ce_5, cs_cn_6, cs_cj_7, cs_cz_8)) => match r_2 with | .error E => some ((.error E), ra_at_3, (cs_cw_4, cs_ce_5, cs_cn_6, cs_cj_7, cs_cz_8)) | .ok _ => f5_condition_L7 (fun ra_at_34 (cs_cw_34, cs_ce_34, cs_cn_34, cs_cj_34, cs_cz_34) => some ((.ok ()), ra_at_34, (cs_cw_34, cs_ce_34, cs_cn_34, cs_cj_34, cs_cz_34))) N rec top_tx top_ln top_cp top_cq top_sq top_fu top_lv top_lt rd_t0 rd_rt rd_rl rd_rq N v1 (0 : Int32) ra_at_3 (cs_cw_4, cs_ce_5, cs_cn_6, cs_cj_7, cs_cz_8)
set_option maxHeartbeats 4000000 in
set_option maxRecDepth 100000 in
theorem w5_condition_L7 {V : EV} {p : Program} {l : Launch} {e : Env} {R : Room} {s : State} {m : MethodId} {args : Array Value} {below : List Frame} {meth : Method} {c : Code} {Q : State → Prop} {A : Nat → Prop} {kc ks : Nat} {ad : Nat → Nat} {co : Nat → CoS} {mu : MuS} {fo : FoS} {tr : TrS} {ma : MaS} {mq : Nat} {mx : MxS} {top_tx : Nat → Int32} {top_ln : Int32} {top_cp : Int32} {top_cq : Nat} {top_sq : Nat} {top_fu : Int32} {top_lv : Int32} {top_lt : Int32} {rd_t0 : Nat → Int32} {rd_rl : Int32} {rd_rq : Nat} {rec : RecT} {F G : Nat} {k43 : Int32 → CoS → Option (Except String Unit × Int32 × CoS)} {N : Nat} {res : Except String Unit × Int32 × CoS} (C : CX V p l R s m args c A kc ks RX5 cX5_condition 4 (F + 18) (G + 550)) (hq : rd_rq < 4) (hrec : RECOK V l F G rec) (K : (∀ v : Unit, res.1 = .ok v → RV V p l e R s m args below meth c Q A kc ks 4 cX5_condition (wC V ad (top_tx, top_ln, top_cp, top_cq, top_sq, top_fu, top_lv, top_lt) (rd_t0, 1, rd_rl, rd_rq) res.2.1 (updC co rd_rq res.2.2) mu fo tr ma mq mx)) ∧ ∀ E : String, res.1 = .error E → XE V p l e R s m args below meth c Q A kc ks 4 RX5 cX5_condition E (wC V ad (top_tx, top_ln, top_cp, top_cq, top_sq, top_fu, top_lv, top_lt) (rd_t0, 1, rd_rl, rd_rq) res.2.1 (updC co rd_rq res.2.2) mu fo tr ma mq mx)) (hk43 : ∀  (ra_at : Int32) (cs_cw : Nat → Int32) (cs_ce : Nat → Int32) (cs_cn : Nat → Int32) (cs_cj : Nat → Int32) (cs_cz : Int32), k43 ra_at (cs_cw, cs_ce, cs_cn, cs_cj, cs_cz) = some res → WC V p l e R s m args below meth c Q A kc ks 4 (wC V ad (top_tx, top_ln, top_cp, top_cq, top_sq, top_fu, top_lv, top_lt) (rd_t0, 1, rd_rl, rd_rq) ra_at (updC co rd_rq (cs_cw, cs_ce, cs_cn, cs_cj, cs_cz)) mu fo tr ma mq mx) 43 [] []) : ∀ (n : Nat) (x1 : Int32) (x2 : Int32) (ra_at : Int32) (cs_cw : Nat → Int32) (cs_ce : Nat → Int32) (cs_cn : Nat → Int32) (cs_cj : Nat → Int32) (cs_cz : Int32), f5_condition_L7 k43 N rec top_tx top_ln top_cp top_cq top_sq top_fu top_lv top_lt rd_t0 1 rd_rl rd_rq n x1 x2 ra_at (cs_cw, cs_ce, cs_cn, cs_cj, cs_cz) = some res → WC V p l e R s m args below meth c Q A kc ks 4 (wC V ad (top_tx, top_ln, top_cp, top_cq, top_sq, top_fu, top_lv, top_lt) (rd_t0, 1, rd_rl, rd_rq) ra_at (updC co rd_rq (cs_cw, cs_ce, cs_cn, cs_cj, cs_cz)) mu fo tr ma mq mx) 7 [(0, .ref (ad 2)), (1, .int x1), (2, .int x2)] [] := by
  intro n
  induction n with
  | zero => intro _ _ _ _ _ _ _ _ hf; exact nomatch (show none = some res from hf)
  | succ n ih =>
    intro x1 x2 ra_at cs_cw cs_ce cs_cn cs_cj cs_cz hf
    rw [f5_condition_L7] at hf
    refine k_iload_n C dX5_condition_7 2 rfl ?_
    refine k_bipush (v := (60 : Int32)) C dX5_condition_8 (by decide) ?_
    refine k_icmp_ge C 43 dX5_condition_10 (by decide) (fun hc => ?_) (fun hc => ?_)
    · replace hf := (if_pos hc).symm.trans hf
      refine k_sub [] (L' := []) rfl ?_
      exact hk43 _ _ _ _ _ _ hf
    · replace hf := (if_neg hc).symm.trans hf
      refine k_aload_n C dX5_condition_13 0 rfl ?_
      obtain ⟨r_10, hq_9, hf⟩ := ob_el hf
      refine k_callVi C (c5_next C.2.2.2.2.2.2.2.2.2.1 hq_9) cm5_46 ok5_next ⟨by omega, by have := nK_v; omega⟩ 2 rfl rfl rfl rfl (Nat.le_of_ble_eq_true rfl) dX5_condition_14 ?_
      refine k_bipush (v := (124 : Int32)) C dX5_condition_17 (by decide) ?_
      refine k_icmp_ne C 43 dX5_condition_19 (by decide) (fun hc => ?_) (fun hc => ?_)
      · replace hf := (if_neg hc).symm.trans hf
        refine k_sub [] (L' := []) rfl ?_
        exact hk43 _ _ _ _ _ _ hf
      · replace hf := (if_pos hc).symm.trans hf
        refine k_aload_n C dX5_condition_22 0 rfl ?_
        obtain ⟨⟨r_12, ra_at_13, ⟨cs_cw_14, cs_ce_15, cs_cn_16, cs_cj_17, cs_cz_18⟩⟩, hq_11, hf⟩ := ob_el hf
        dsimp only at hf
        refine k_callVi C (c5_decide C.2.2.2.2.2.2.2.2.2.1 hq hq_11) cm5_106 ok5_decide ⟨by omega, by have := nK_v; omega⟩ 2 rfl rfl rfl rfl (Nat.le_of_ble_eq_true rfl) dX5_condition_23 ?_
        refine k_istore_n C dX5_condition_26 [(3, .int r_12), (0, .ref (ad 2)), (1, .int x1), (2, .int x2)] (by decide) rfl ?_
        refine k_aload_n C dX5_condition_27 1 rfl ?_
        refine k_iload_n C dX5_condition_28 2 rfl ?_
        obtain ⟨⟨r_20, ra_at_21, ⟨cs_cw_22, cs_ce_23, cs_cn_24, cs_cj_25, cs_cz_26⟩⟩, hq_19, hf⟩ := ob_el hf
        dsimp only at hf
        rcases r_20 with E | _u
        · try dsimp only at hf
          cases hf
          exact k_callVvx C (x5_part C.2.2.2.2.2.2.2.2.2.1 hrec hq hq_19 rfl) cm5_103 ok5_part ⟨by omega, by have := nK_v; omega⟩ 2 rfl rfl rfl rfl (Nat.le_of_ble_eq_true rfl) dX5_condition_29 (K.2 _ rfl)
        try dsimp only at hf
        refine k_callVv C (c5_part C.2.2.2.2.2.2.2.2.2.1 hrec hq hq_19 rfl) cm5_103 ok5_part ⟨by omega, by have := nK_v; omega⟩ 2 rfl rfl rfl rfl (Nat.le_of_ble_eq_true rfl) dX5_condition_29 ?_
        refine k_aload_n C dX5_condition_32 1 rfl ?_
        refine k_iload_n C dX5_condition_33 0 rfl ?_
        obtain ⟨⟨cs_cw_28, cs_ce_29, cs_cn_30, cs_cj_31, cs_cz_32⟩, hq_27, hf⟩ := ob_el hf
        dsimp only at hf
        refine k_callVv C (c5_join C.2.2.2.2.2.2.2.2.2.1 hq hq_27) cm5_109 ok5_join ⟨by omega, by have := nK_v; omega⟩ 2 rfl rfl rfl rfl (Nat.le_of_ble_eq_true rfl) dX5_condition_34 ?_
        obtain ⟨v2_33, ev2_33⟩ : ∃ y : Int32, y = x2 + (1 : Int32) := ⟨_, rfl⟩
        replace hf := nm_el hf ev2_33
        refine k_iinc (v := v2_33) C dX5_condition_37 3 rfl (by rw [ev2_33]; rfl) [(2, .int v2_33), (3, .int r_12), (0, .ref (ad 2)), (1, .int x1)] (by decide) rfl ?_
        refine k_goto C 7 dX5_condition_40 (by decide) ?_
        refine k_sub [2, 3, 0] (L' := [(0, .ref (ad 2)), (1, .int x1), (2, .int v2_33)]) rfl ?_
        exact ih _ _ _ _ _ _ _ _ hf
set_option maxHeartbeats 4000000 in
set_option maxRecDepth 100000 in
theorem b5_condition {V : EV} {p : Program} {l : Launch} {e : Env} {R : Room} {s : State} {m : MethodId} {args : Array Value} {below : List Frame} {meth : Method} {c : Code} {Q : State → Prop} {A : Nat → Prop} {kc ks : Nat} {ad : Nat → Nat} {co : Nat → CoS} {mu : MuS} {fo : FoS} {tr : TrS} {ma : MaS} {mq : Nat} {mx : MxS} {top_tx : Nat → Int32} {top_ln : Int32} {top_cp : Int32} {top_cq : Nat} {top_sq : Nat} {top_fu : Int32} {top_lv : Int32} {top_lt : Int32} {rd_t0 : Nat → Int32} {rd_rl : Int32} {rd_rq : Nat} {rec : RecT} {F G : Nat} {v1 : Int32} {ra_at : Int32} {cs_cw : Nat → Int32} {cs_ce : Nat → Int32} {cs_cn : Nat → Int32} {cs_cj : Nat → Int32} {cs_cz : Int32} {N : Nat} {res : Except String Unit × Int32 × CoS} (C : CX V p l R s m args c A kc ks RX5 cX5_condition 4 (F + 18) (G + 550)) (hq : rd_rq < 4) (hrec : RECOK V l F G rec) (hf : f5_condition rec N v1 (top_tx, top_ln, top_cp, top_cq, top_sq, top_fu, top_lv, top_lt) (rd_t0, 1, rd_rl, rd_rq) ra_at (cs_cw, cs_ce, cs_cn, cs_cj, cs_cz) = some res) (K : (∀ v : Unit, res.1 = .ok v → RV V p l e R s m args below meth c Q A kc ks 4 cX5_condition (wC V ad (top_tx, top_ln, top_cp, top_cq, top_sq, top_fu, top_lv, top_lt) (rd_t0, 1, rd_rl, rd_rq) res.2.1 (updC co rd_rq res.2.2) mu fo tr ma mq mx)) ∧ ∀ E : String, res.1 = .error E → XE V p l e R s m args below meth c Q A kc ks 4 RX5 cX5_condition E (wC V ad (top_tx, top_ln, top_cp, top_cq, top_sq, top_fu, top_lv, top_lt) (rd_t0, 1, rd_rl, rd_rq) res.2.1 (updC co rd_rq res.2.2) mu fo tr ma mq mx)) : WC V p l e R s m args below meth c Q A kc ks 4 (wC V ad (top_tx, top_ln, top_cp, top_cq, top_sq, top_fu, top_lv, top_lt) (rd_t0, 1, rd_rl, rd_rq) ra_at (updC co rd_rq (cs_cw, cs_ce, cs_cn, cs_cj, cs_cz)) mu fo tr ma mq mx) 0 [(0, .ref (ad 2)), (1, .int v1)] [] := by
  rw [f5_condition] at hf
  refine k_aload_n C dX5_condition_0 0 rfl ?_
  refine k_iload_n C dX5_condition_1 1 rfl ?_
  obtain ⟨⟨r_2, ra_at_3, ⟨cs_cw_4, cs_ce_5, cs_cn_6, cs_cj_7, cs_cz_8⟩⟩, hq_1, hf⟩ := ob_el hf
  dsimp only at hf
  rcases r_2 with E | _u
  · try dsimp only at hf
    cases hf
    exact k_callVvx C (x5_part C.2.2.2.2.2.2.2.2.2.1 hrec hq hq_1 rfl) cm5_103 ok5_part ⟨by omega, by have := nK_v; omega⟩ 2 rfl rfl rfl rfl (Nat.le_of_ble_eq_true rfl) dX5_condition_2 (K.2 _ rfl)
  try dsimp only at hf
  refine k_callVv C (c5_part C.2.2.2.2.2.2.2.2.2.1 hrec hq hq_1 rfl) cm5_103 ok5_part ⟨by omega, by have := nK_v; omega⟩ 2 rfl rfl rfl rfl (Nat.le_of_ble_eq_true rfl) dX5_condition_2 ?_
  refine k_iconst (v := (0 : Int32)) C dX5_condition_5 (by decide) ?_
  refine k_istore_n C dX5_condition_6 [(2, .int (0 : Int32)), (0, .ref (ad 2)), (1, .int v1)] (by decide) rfl ?_
  refine k_sub [1, 2, 0] (L' := [(0, .ref (ad 2)), (1, .int v1), (2, .int (0 : Int32))]) rfl ?_
  refine w5_condition_L7 C hq hrec K ?_ _ _ _ _ _ _ _ _ _ hf
  · intro ra_at_34 cs_cw_34 cs_ce_34 cs_cn_34 cs_cj_34 cs_cz_34 hf
    try dsimp only at hf
    cases hf
    exact K.1 _ rfl _ _ dX5_condition_43
theorem c5_condition {V : EV} {l : Launch} (hl0 : l.stackTraces = false) {ad : Nat → Nat} {co : Nat → CoS} {mu : MuS} {fo : FoS} {tr : TrS} {ma : MaS} {mq : Nat} {mx : MxS} {top_tx : Nat → Int32} {top_ln : Int32} {top_cp : Int32} {top_cq : Nat} {top_sq : Nat} {top_fu : Int32} {top_lv : Int32} {top_lt : Int32} {rd_t0 : Nat → Int32} {rd_rl : Int32} {rd_rq : Nat} {v1 : Int32} {ra_at : Int32} {cs_cw : Nat → Int32} {cs_ce : Nat → Int32} {cs_cn : Nat → Int32} {cs_cj : Nat → Int32} {cs_cz : Int32} {N : Nat} {res : Except String Unit × Int32 × CoS} {rec : RecT} {F G : Nat} (hrec : RECOK V l F G rec) (hq : rd_rq < 4) (hf : f5_condition rec N v1 (top_tx, top_ln, top_cp, top_cq, top_sq, top_fu, top_lv, top_lt) (rd_t0, 1, rd_rl, rd_rq) ra_at (cs_cw, cs_ce, cs_cn, cs_cj, cs_cz) = some res) {v : Unit} (hv : res.1 = .ok v) : MV V l yX5_condition cX5_condition 4 (F + 18) (G + 550) [.ref (ad 2), .int v1] (wC V ad (top_tx, top_ln, top_cp, top_cq, top_sq, top_fu, top_lv, top_lt) (rd_t0, 1, rd_rl, rd_rq) ra_at (updC co rd_rq (cs_cw, cs_ce, cs_cn, cs_cj, cs_cz)) mu fo tr ma mq mx) (wC V ad (top_tx, top_ln, top_cp, top_cq, top_sq, top_fu, top_lv, top_lt) (rd_t0, 1, rd_rl, rd_rq) res.2.1 (updC co rd_rq res.2.2) mu fo tr ma mq mx) :=
  mv_of hl0 (by decide +kernel) (Nat.le_of_ble_eq_true rfl) (fun p e R s m args below meth c Q A C K => b5_condition C hq hrec hf ⟨fun v' h' => (by cases hv.symm.trans h'; exact K), fun E h' => (by cases hv.symm.trans h')⟩)
theorem x5_condition {V : EV} {l : Launch} (hl0 : l.stackTraces = false) {ad : Nat → Nat} {co : Nat → CoS} {mu : MuS} {fo : FoS} {tr : TrS} {ma : MaS} {mq : Nat} {mx : MxS} {top_tx : Nat → Int32} {top_ln : Int32} {top_cp : Int32} {top_cq : Nat} {top_sq : Nat} {top_fu : Int32} {top_lv : Int32} {top_lt : Int32} {rd_t0 : Nat → Int32} {rd_rl : Int32} {rd_rq : Nat} {v1 : Int32} {ra_at : Int32} {cs_cw : Nat → Int32} {cs_ce : Nat → Int32} {cs_cn : Nat → Int32} {cs_cj : Nat → Int32} {cs_cz : Int32} {N : Nat} {res : Except String Unit × Int32 × CoS} {rec : RecT} {F G : Nat} (hrec : RECOK V l F G rec) (hq : rd_rq < 4) (hf : f5_condition rec N v1 (top_tx, top_ln, top_cp, top_cq, top_sq, top_fu, top_lv, top_lt) (rd_t0, 1, rd_rl, rd_rq) ra_at (cs_cw, cs_ce, cs_cn, cs_cj, cs_cz) = some res) {E : String} (hv : res.1 = .error E) : TV V l yX5_condition cX5_condition 4 (F + 18) (G + 550) [.ref (ad 2), .int v1] (wC V ad (top_tx, top_ln, top_cp, top_cq, top_sq, top_fu, top_lv, top_lt) (rd_t0, 1, rd_rl, rd_rq) ra_at (updC co rd_rq (cs_cw, cs_ce, cs_cn, cs_cj, cs_cz)) mu fo tr ma mq mx) E (wC V ad (top_tx, top_ln, top_cp, top_cq, top_sq, top_fu, top_lv, top_lt) (rd_t0, 1, rd_rl, rd_rq) res.2.1 (updC co rd_rq res.2.2) mu fo tr ma mq mx) :=
  tv_of hl0 (by decide +kernel) (Nat.le_of_ble_eq_true rfl) (fun p e R s m args below meth c Q A C K => b5_condition C hq hrec hf ⟨fun v' h' => (by cases hv.symm.trans h'), fun E' h' => (by cases hv.symm.trans h'; exact K)⟩)

theorem cm5_32 : ∀ a ∈ wsCV RX5 32 RX5 yX5_row cX5_row 3 none, a ∈ GW := by
  unfold wsCV
  exact (List.forall_mem_cons.mpr ⟨(gw_2 (i := 98) (by decide +kernel) rfl), (List.forall_mem_cons.mpr ⟨(gw_2 (i := 100) (by decide +kernel) rfl), (List.forall_mem_cons.mpr ⟨(gw_p (q := ((yX5_row, 4) : MethodName × Nat)) (List.mem_append_left _ (List.mem_of_getElem? (i := 0) (by decide +kernel))) rfl), (List.forall_mem_cons.mpr ⟨(gw_1 (i := 2) (by decide +kernel) rfl), (List.forall_mem_cons.mpr ⟨(gw_2 (i := 101) (by decide +kernel) rfl), (List.forall_mem_nil _)⟩)⟩)⟩)⟩)⟩)
theorem ok5_block : okCV RX5 yX5_block 1 := by unfold okCV; decide +kernel
def f5_block (rec : RecT) (v1 : Int32) : TopS → RdS → Int32 → CoS → Option (Except String Unit × Int32 × CoS)
  | (top_tx, top_ln, top_cp, top_cq, top_sq, top_fu, top_lv, top_lt), (rd_t0, rd_rt, rd_rl, rd_rq), ra_at, (cs_cw, cs_ce, cs_cn, cs_cj, cs_cz) =>
    (f5_open (123 : Int32) v1 (top_tx, top_ln, top_cp, top_cq, top_sq, top_fu, top_lv, top_lt) (rd_t0, 1, rd_rl, rd_rq) ra_at).bind fun (r_2, ra_at_3) => match r_2 with | .error E => some ((.error E), ra_at_3, (cs_cw, cs_ce, cs_cn, cs_cj, cs_cz)) | .ok r_4 => (rec 2 r_4 (top_tx, top_ln, top_cp, top_cq, top_sq, top_fu, top_lv, top_lt) (rd_t0, 1, rd_rl, rd_rq) ra_at_3 (cs_cw, cs_ce, cs_cn, cs_cj, cs_cz)).bind fun (r_6, ra_at_7, (cs_cw_8, cs_ce_9, cs_cn_10, cs_cj_11, cs_cz_12)) => match r_6 with | .error E => some ((.error E), ra_at_7, (cs_cw_8, cs_ce_9, cs_cn_10, cs_cj_11, cs_cz_12)) | .ok _ => (f5_take (125 : Int32) (top_tx, top_ln, top_cp, top_cq, top_sq, top_fu, top_lv, top_lt) (rd_t0, 1, rd_rl, rd_rq) ra_at_7).bind fun (r_14, ra_at_15) => match r_14 with | .error E => some ((.error E), ra_at_15, (cs_cw_8, cs_ce_9, cs_cn_10, cs_cj_11, cs_cz_12)) | .ok _ => some ((.ok ()), ra_at_15, (cs_cw_8, cs_ce_9, cs_cn_10, cs_cj_11, cs_cz_12))
set_option maxHeartbeats 4000000 in
set_option maxRecDepth 100000 in
theorem b5_block {V : EV} {p : Program} {l : Launch} {e : Env} {R : Room} {s : State} {m : MethodId} {args : Array Value} {below : List Frame} {meth : Method} {c : Code} {Q : State → Prop} {A : Nat → Prop} {kc ks : Nat} {ad : Nat → Nat} {co : Nat → CoS} {mu : MuS} {fo : FoS} {tr : TrS} {ma : MaS} {mq : Nat} {mx : MxS} {top_tx : Nat → Int32} {top_ln : Int32} {top_cp : Int32} {top_cq : Nat} {top_sq : Nat} {top_fu : Int32} {top_lv : Int32} {top_lt : Int32} {rd_t0 : Nat → Int32} {rd_rl : Int32} {rd_rq : Nat} {rec : RecT} {F G : Nat} {v1 : Int32} {ra_at : Int32} {cs_cw : Nat → Int32} {cs_ce : Nat → Int32} {cs_cn : Nat → Int32} {cs_cj : Nat → Int32} {cs_cz : Int32} {res : Except String Unit × Int32 × CoS} (C : CX V p l R s m args c A kc ks RX5 cX5_block 3 (F + 9) (G + 153)) (hq : rd_rq < 4) (hrec : RECOK V l F G rec) (hf : f5_block rec v1 (top_tx, top_ln, top_cp, top_cq, top_sq, top_fu, top_lv, top_lt) (rd_t0, 1, rd_rl, rd_rq) ra_at (cs_cw, cs_ce, cs_cn, cs_cj, cs_cz) = some res) (K : (∀ v : Unit, res.1 = .ok v → RV V p l e R s m args below meth c Q A kc ks 3 cX5_block (wC V ad (top_tx, top_ln, top_cp, top_cq, top_sq, top_fu, top_lv, top_lt) (rd_t0, 1, rd_rl, rd_rq) res.2.1 (updC co rd_rq res.2.2) mu fo tr ma mq mx)) ∧ ∀ E : String, res.1 = .error E → XE V p l e R s m args below meth c Q A kc ks 3 RX5 cX5_block E (wC V ad (top_tx, top_ln, top_cp, top_cq, top_sq, top_fu, top_lv, top_lt) (rd_t0, 1, rd_rl, rd_rq) res.2.1 (updC co rd_rq res.2.2) mu fo tr ma mq mx)) : WC V p l e R s m args below meth c Q A kc ks 3 (wC V ad (top_tx, top_ln, top_cp, top_cq, top_sq, top_fu, top_lv, top_lt) (rd_t0, 1, rd_rl, rd_rq) ra_at (updC co rd_rq (cs_cw, cs_ce, cs_cn, cs_cj, cs_cz)) mu fo tr ma mq mx) 0 [(0, .ref (ad 2)), (1, .int v1)] [] := by
  rw [f5_block] at hf
  refine k_aload_n C dX5_block_0 0 rfl ?_
  refine k_bipush (v := (123 : Int32)) C dX5_block_1 (by decide) ?_
  refine k_iload_n C dX5_block_3 1 rfl ?_
  obtain ⟨⟨r_2, ra_at_3⟩, hq_1, hf⟩ := ob_el hf
  dsimp only at hf
  rcases r_2 with E | r_4
  · try dsimp only at hf
    cases hf
    exact k_callVix C (x5_open C.2.2.2.2.2.2.2.2.2.1 hq_1 rfl) cm5_99 ok5_open ⟨by omega, by have := nK_v; omega⟩ 2 rfl rfl rfl rfl (Nat.le_of_ble_eq_true rfl) dX5_block_4 (K.2 _ rfl)
  try dsimp only at hf
  refine k_callVi C (c5_open C.2.2.2.2.2.2.2.2.2.1 hq_1 rfl) cm5_99 ok5_open ⟨by omega, by have := nK_v; omega⟩ 2 rfl rfl rfl rfl (Nat.le_of_ble_eq_true rfl) dX5_block_4 ?_
  refine k_istore_n C dX5_block_7 [(2, .int r_4), (0, .ref (ad 2)), (1, .int v1)] (by decide) rfl ?_
  refine k_aload_n C dX5_block_8 1 rfl ?_
  refine k_iload_n C dX5_block_9 0 rfl ?_
  obtain ⟨⟨r_6, ra_at_7, ⟨cs_cw_8, cs_ce_9, cs_cn_10, cs_cj_11, cs_cz_12⟩⟩, hq_5, hf⟩ := ob_el hf
  dsimp only at hf
  rcases r_6 with E | _u
  · try dsimp only at hf
    cases hf
    exact k_callVvx C ((hrec 2 (by decide) hq).2 _ hq_5) cm5_32 ok5_row ⟨by omega, by have := nK_v; omega⟩ 2 rfl rfl rfl rfl (Nat.le_of_ble_eq_true rfl) dX5_block_10 (K.2 _ rfl)
  try dsimp only at hf
  refine k_callVv C ((hrec 2 (by decide) hq).1 hq_5) cm5_32 ok5_row ⟨by omega, by have := nK_v; omega⟩ 2 rfl rfl rfl rfl (Nat.le_of_ble_eq_true rfl) dX5_block_10 ?_
  refine k_aload_n C dX5_block_13 1 rfl ?_
  refine k_bipush (v := (125 : Int32)) C dX5_block_14 (by decide) ?_
  obtain ⟨⟨r_14, ra_at_15⟩, hq_13, hf⟩ := ob_el hf
  dsimp only at hf
  rcases r_14 with E | _u
  · try dsimp only at hf
    cases hf
    exact k_callVvx C (x5_take C.2.2.2.2.2.2.2.2.2.1 hq_13 rfl) cm5_56 ok5_take ⟨by omega, by have := nK_v; omega⟩ 2 rfl rfl rfl rfl (Nat.le_of_ble_eq_true rfl) dX5_block_16 (K.2 _ rfl)
  try dsimp only at hf
  refine k_callVv C (c5_take C.2.2.2.2.2.2.2.2.2.1 hq_13 rfl) cm5_56 ok5_take ⟨by omega, by have := nK_v; omega⟩ 2 rfl rfl rfl rfl (Nat.le_of_ble_eq_true rfl) dX5_block_16 ?_
  cases hf
  exact K.1 _ rfl _ _ dX5_block_19
theorem c5_block {V : EV} {l : Launch} (hl0 : l.stackTraces = false) {ad : Nat → Nat} {co : Nat → CoS} {mu : MuS} {fo : FoS} {tr : TrS} {ma : MaS} {mq : Nat} {mx : MxS} {top_tx : Nat → Int32} {top_ln : Int32} {top_cp : Int32} {top_cq : Nat} {top_sq : Nat} {top_fu : Int32} {top_lv : Int32} {top_lt : Int32} {rd_t0 : Nat → Int32} {rd_rl : Int32} {rd_rq : Nat} {v1 : Int32} {ra_at : Int32} {cs_cw : Nat → Int32} {cs_ce : Nat → Int32} {cs_cn : Nat → Int32} {cs_cj : Nat → Int32} {cs_cz : Int32} {res : Except String Unit × Int32 × CoS} {rec : RecT} {F G : Nat} (hrec : RECOK V l F G rec) (hq : rd_rq < 4) (hf : f5_block rec v1 (top_tx, top_ln, top_cp, top_cq, top_sq, top_fu, top_lv, top_lt) (rd_t0, 1, rd_rl, rd_rq) ra_at (cs_cw, cs_ce, cs_cn, cs_cj, cs_cz) = some res) {v : Unit} (hv : res.1 = .ok v) : MV V l yX5_block cX5_block 3 (F + 9) (G + 153) [.ref (ad 2), .int v1] (wC V ad (top_tx, top_ln, top_cp, top_cq, top_sq, top_fu, top_lv, top_lt) (rd_t0, 1, rd_rl, rd_rq) ra_at (updC co rd_rq (cs_cw, cs_ce, cs_cn, cs_cj, cs_cz)) mu fo tr ma mq mx) (wC V ad (top_tx, top_ln, top_cp, top_cq, top_sq, top_fu, top_lv, top_lt) (rd_t0, 1, rd_rl, rd_rq) res.2.1 (updC co rd_rq res.2.2) mu fo tr ma mq mx) :=
  mv_of hl0 (by decide +kernel) (Nat.le_of_ble_eq_true rfl) (fun p e R s m args below meth c Q A C K => b5_block C hq hrec hf ⟨fun v' h' => (by cases hv.symm.trans h'; exact K), fun E h' => (by cases hv.symm.trans h')⟩)
theorem x5_block {V : EV} {l : Launch} (hl0 : l.stackTraces = false) {ad : Nat → Nat} {co : Nat → CoS} {mu : MuS} {fo : FoS} {tr : TrS} {ma : MaS} {mq : Nat} {mx : MxS} {top_tx : Nat → Int32} {top_ln : Int32} {top_cp : Int32} {top_cq : Nat} {top_sq : Nat} {top_fu : Int32} {top_lv : Int32} {top_lt : Int32} {rd_t0 : Nat → Int32} {rd_rl : Int32} {rd_rq : Nat} {v1 : Int32} {ra_at : Int32} {cs_cw : Nat → Int32} {cs_ce : Nat → Int32} {cs_cn : Nat → Int32} {cs_cj : Nat → Int32} {cs_cz : Int32} {res : Except String Unit × Int32 × CoS} {rec : RecT} {F G : Nat} (hrec : RECOK V l F G rec) (hq : rd_rq < 4) (hf : f5_block rec v1 (top_tx, top_ln, top_cp, top_cq, top_sq, top_fu, top_lv, top_lt) (rd_t0, 1, rd_rl, rd_rq) ra_at (cs_cw, cs_ce, cs_cn, cs_cj, cs_cz) = some res) {E : String} (hv : res.1 = .error E) : TV V l yX5_block cX5_block 3 (F + 9) (G + 153) [.ref (ad 2), .int v1] (wC V ad (top_tx, top_ln, top_cp, top_cq, top_sq, top_fu, top_lv, top_lt) (rd_t0, 1, rd_rl, rd_rq) ra_at (updC co rd_rq (cs_cw, cs_ce, cs_cn, cs_cj, cs_cz)) mu fo tr ma mq mx) E (wC V ad (top_tx, top_ln, top_cp, top_cq, top_sq, top_fu, top_lv, top_lt) (rd_t0, 1, rd_rl, rd_rq) res.2.1 (updC co rd_rq res.2.2) mu fo tr ma mq mx) :=
  tv_of hl0 (by decide +kernel) (Nat.le_of_ble_eq_true rfl) (fun p e R s m args below meth c Q A C K => b5_block C hq hrec hf ⟨fun v' h' => (by cases hv.symm.trans h'), fun E' h' => (by cases hv.symm.trans h'; exact K)⟩)

theorem cm5_92 : ∀ a ∈ wsCV RX5 92 RX5 yX5_block cX5_block 3 none, a ∈ GW := by
  unfold wsCV
  exact (List.forall_mem_cons.mpr ⟨(gw_3 (i := 100) (by decide +kernel) rfl), (List.forall_mem_cons.mpr ⟨(gw_3 (i := 102) (by decide +kernel) rfl), (List.forall_mem_cons.mpr ⟨(gw_p (q := ((yX5_block, 4) : MethodName × Nat)) (List.mem_append_right _ (List.mem_append_left _ (List.mem_of_getElem? (i := 4) (by decide +kernel)))) rfl), (List.forall_mem_cons.mpr ⟨(gw_1 (i := 2) (by decide +kernel) rfl), (List.forall_mem_cons.mpr ⟨(gw_3 (i := 103) (by decide +kernel) rfl), (List.forall_mem_nil _)⟩)⟩)⟩)⟩)⟩)
theorem ok5_branch : okCV RX5 yX5_branch 1 := by unfold okCV; decide +kernel
def f5_branch_L72  (N : Nat) (rec : RecT) (top_tx : Nat → Int32) (top_ln : Int32) (top_cp : Int32) (top_cq : Nat) (top_sq : Nat) (top_fu : Int32) (top_lv : Int32) (top_lt : Int32) (rd_t0 : Nat → Int32) (rd_rt : Nat) (rd_rl : Int32) (rd_rq : Nat) : Int32 → Int32 → CoS → Option (Except String Unit × Int32 × CoS)
  | x3, ra_at, (cs_cw, cs_ce, cs_cn, cs_cj, cs_cz) =>
    (f0_add (12 : Int32) ra_at (0 : Int32) (cs_cw, cs_ce, cs_cn, cs_cj, cs_cz)).bind fun (r_40, (cs_cw_41, cs_ce_42, cs_cn_43, cs_cj_44, cs_cz_45)) => (f0_jumpHere x3 (cs_cw_41, cs_ce_42, cs_cn_43, cs_cj_44, cs_cz_45)).bind fun (cs_cw_47, cs_ce_48, cs_cn_49, cs_cj_50, cs_cz_51) => some ((.ok ()), ra_at, (cs_cw_47, cs_ce_48, cs_cn_49, cs_cj_50, cs_cz_51))
def f5_branch (rec : RecT) (N : Nat) (v1 : Int32) : TopS → RdS → Int32 → CoS → Option (Except String Unit × Int32 × CoS)
  | (top_tx, top_ln, top_cp, top_cq, top_sq, top_fu, top_lv, top_lt), (rd_t0, rd_rt, rd_rl, rd_rq), ra_at, (cs_cw, cs_ce, cs_cn, cs_cj, cs_cz) =>
    (f5_condition rec N v1 (top_tx, top_ln, top_cp, top_cq, top_sq, top_fu, top_lv, top_lt) (rd_t0, 1, rd_rl, rd_rq) (ra_at + (1 : Int32)) (cs_cw, cs_ce, cs_cn, cs_cj, cs_cz)).bind fun (r_2, ra_at_3, (cs_cw_4, cs_ce_5, cs_cn_6, cs_cj_7, cs_cz_8)) => match r_2 with | .error E => some ((.error E), ra_at_3, (cs_cw_4, cs_ce_5, cs_cn_6, cs_cj_7, cs_cz_8)) | .ok _ => (f0_add (10 : Int32) ra_at_3 (0 : Int32) (cs_cw_4, cs_ce_5, cs_cn_6, cs_cj_7, cs_cz_8)).bind fun (r_10, (cs_cw_11, cs_ce_12, cs_cn_13, cs_cj_14, cs_cz_15)) => (f5_block rec v1 (top_tx, top_ln, top_cp, top_cq, top_sq, top_fu, top_lv, top_lt) (rd_t0, 1, rd_rl, rd_rq) ra_at_3 (cs_cw_11, cs_ce_12, cs_cn_13, cs_cj_14, cs_cz_15)).bind fun (r_17, ra_at_18, (cs_cw_19, cs_ce_20, cs_cn_21, cs_cj_22, cs_cz_23)) => match r_17 with | .error E => some ((.error E), ra_at_18, (cs_cw_19, cs_ce_20, cs_cn_21, cs_cj_22, cs_cz_23)) | .ok _ => (f0_add (11 : Int32) ra_at_18 (0 : Int32) (cs_cw_19, cs_ce_20, cs_cn_21, cs_cj_22, cs_cz_23)).bind fun (r_25, (cs_cw_26, cs_ce_27, cs_cn_28, cs_cj_29, cs_cz_30)) => (f0_jumpHere r_10 (cs_cw_26, cs_ce_27, cs_cn_28, cs_cj_29, cs_cz_30)).bind fun (cs_cw_32, cs_ce_33, cs_cn_34, cs_cj_35, cs_cz_36) => (f5_next (top_tx, top_ln, top_cp, top_cq, top_sq, top_fu, top_lv, top_lt) (rd_t0, 1, rd_rl, rd_rq) ra_at_18).bind fun r_38 => if r_38 = (123 : Int32) then (f5_block rec v1 (top_tx, top_ln, top_cp, top_cq, top_sq, top_fu, top_lv, top_lt) (rd_t0, 1, rd_rl, rd_rq) ra_at_18 (cs_cw_32, cs_ce_33, cs_cn_34, cs_cj_35, cs_cz_36)).bind fun (r_53, ra_at_54, (cs_cw_55, cs_ce_56, cs_cn_57, cs_cj_58, cs_cz_59)) => match r_53 with | .error E => some ((.error E), ra_at_54, (cs_cw_55, cs_ce_56, cs_cn_57, cs_cj_58, cs_cz_59)) | .ok _ => f5_branch_L72 N rec top_tx top_ln top_cp top_cq top_sq top_fu top_lv top_lt rd_t0 rd_rt rd_rl rd_rq r_25 ra_at_54 (cs_cw_55, cs_ce_56, cs_cn_57, cs_cj_58, cs_cz_59) else f5_branch_L72 N rec top_tx top_ln top_cp top_cq top_sq top_fu top_lv top_lt rd_t0 rd_rt rd_rl rd_rq r_25 ra_at_18 (cs_cw_32, cs_ce_33, cs_cn_34, cs_cj_35, cs_cz_36)
set_option maxHeartbeats 4000000 in
set_option maxRecDepth 100000 in
theorem w5_branch_L72 {V : EV} {p : Program} {l : Launch} {e : Env} {R : Room} {s : State} {m : MethodId} {args : Array Value} {below : List Frame} {meth : Method} {c : Code} {Q : State → Prop} {A : Nat → Prop} {kc ks : Nat} {ad : Nat → Nat} {co : Nat → CoS} {mu : MuS} {fo : FoS} {tr : TrS} {ma : MaS} {mq : Nat} {mx : MxS} {top_tx : Nat → Int32} {top_ln : Int32} {top_cp : Int32} {top_cq : Nat} {top_sq : Nat} {top_fu : Int32} {top_lv : Int32} {top_lt : Int32} {rd_t0 : Nat → Int32} {rd_rl : Int32} {rd_rq : Nat} {rec : RecT} {F G : Nat}  {N : Nat} {res : Except String Unit × Int32 × CoS} (C : CX V p l R s m args c A kc ks RX5 cX5_branch 4 (F + 19) (G + 573)) (hq : rd_rq < 4) (hrec : RECOK V l F G rec) (K : (∀ v : Unit, res.1 = .ok v → RV V p l e R s m args below meth c Q A kc ks 4 cX5_branch (wC V ad (top_tx, top_ln, top_cp, top_cq, top_sq, top_fu, top_lv, top_lt) (rd_t0, 1, rd_rl, rd_rq) res.2.1 (updC co rd_rq res.2.2) mu fo tr ma mq mx)) ∧ ∀ E : String, res.1 = .error E → XE V p l e R s m args below meth c Q A kc ks 4 RX5 cX5_branch E (wC V ad (top_tx, top_ln, top_cp, top_cq, top_sq, top_fu, top_lv, top_lt) (rd_t0, 1, rd_rl, rd_rq) res.2.1 (updC co rd_rq res.2.2) mu fo tr ma mq mx))  : ∀ (x3 : Int32) (ra_at : Int32) (cs_cw : Nat → Int32) (cs_ce : Nat → Int32) (cs_cn : Nat → Int32) (cs_cj : Nat → Int32) (cs_cz : Int32), f5_branch_L72 N rec top_tx top_ln top_cp top_cq top_sq top_fu top_lv top_lt rd_t0 1 rd_rl rd_rq x3 ra_at (cs_cw, cs_ce, cs_cn, cs_cj, cs_cz) = some res → WC V p l e R s m args below meth c Q A kc ks 4 (wC V ad (top_tx, top_ln, top_cp, top_cq, top_sq, top_fu, top_lv, top_lt) (rd_t0, 1, rd_rl, rd_rq) ra_at (updC co rd_rq (cs_cw, cs_ce, cs_cn, cs_cj, cs_cz)) mu fo tr ma mq mx) 72 [(0, .ref (ad 2)), (3, .int x3)] [] := by
  intro x3 ra_at cs_cw cs_ce cs_cn cs_cj cs_cz hf
  rw [f5_branch_L72] at hf
  refine k_aload_n C dX5_branch_72 0 rfl ?_
  refine g5_25 C dX5_branch_73 ?_
  refine k_bipush (v := (12 : Int32)) C dX5_branch_76 (by decide) ?_
  refine k_aload_n C dX5_branch_78 0 rfl ?_
  refine g5_19 C dX5_branch_79 ?_
  refine k_iconst (v := (0 : Int32)) C dX5_branch_82 (by decide) ?_
  obtain ⟨⟨r_40, ⟨cs_cw_41, cs_ce_42, cs_cn_43, cs_cj_44, cs_cz_45⟩⟩, hq_39, hf⟩ := ob_el hf
  dsimp only at hf
  refine k_callCi C hq (c0_add C.2.2.2.2.2.2.2.2.2.1 hq hq_39) cm5_63 ok0_add ⟨by omega, by have := nK_v; omega⟩ rfl rfl (Nat.le_of_ble_eq_true rfl) dX5_branch_83 ?_
  refine k_pop C dX5_branch_86 rfl ?_
  refine k_aload_n C dX5_branch_87 0 rfl ?_
  refine g5_25 C dX5_branch_88 ?_
  refine k_iload_n C dX5_branch_91 1 rfl ?_
  obtain ⟨⟨cs_cw_47, cs_ce_48, cs_cn_49, cs_cj_50, cs_cz_51⟩, hq_46, hf⟩ := ob_el hf
  dsimp only at hf
  refine k_callCv C hq (c0_jumpHere C.2.2.2.2.2.2.2.2.2.1 hq hq_46) cm5_86 ok0_jumpHere ⟨by omega, by have := nK_v; omega⟩ rfl rfl (Nat.le_of_ble_eq_true rfl) dX5_branch_92 ?_
  cases hf
  exact K.1 _ rfl _ _ dX5_branch_95
set_option maxHeartbeats 4000000 in
set_option maxRecDepth 100000 in
theorem b5_branch {V : EV} {p : Program} {l : Launch} {e : Env} {R : Room} {s : State} {m : MethodId} {args : Array Value} {below : List Frame} {meth : Method} {c : Code} {Q : State → Prop} {A : Nat → Prop} {kc ks : Nat} {ad : Nat → Nat} {co : Nat → CoS} {mu : MuS} {fo : FoS} {tr : TrS} {ma : MaS} {mq : Nat} {mx : MxS} {top_tx : Nat → Int32} {top_ln : Int32} {top_cp : Int32} {top_cq : Nat} {top_sq : Nat} {top_fu : Int32} {top_lv : Int32} {top_lt : Int32} {rd_t0 : Nat → Int32} {rd_rl : Int32} {rd_rq : Nat} {rec : RecT} {F G : Nat} {v1 : Int32} {ra_at : Int32} {cs_cw : Nat → Int32} {cs_ce : Nat → Int32} {cs_cn : Nat → Int32} {cs_cj : Nat → Int32} {cs_cz : Int32} {N : Nat} {res : Except String Unit × Int32 × CoS} (C : CX V p l R s m args c A kc ks RX5 cX5_branch 4 (F + 19) (G + 573)) (hq : rd_rq < 4) (hrec : RECOK V l F G rec) (hf : f5_branch rec N v1 (top_tx, top_ln, top_cp, top_cq, top_sq, top_fu, top_lv, top_lt) (rd_t0, 1, rd_rl, rd_rq) ra_at (cs_cw, cs_ce, cs_cn, cs_cj, cs_cz) = some res) (K : (∀ v : Unit, res.1 = .ok v → RV V p l e R s m args below meth c Q A kc ks 4 cX5_branch (wC V ad (top_tx, top_ln, top_cp, top_cq, top_sq, top_fu, top_lv, top_lt) (rd_t0, 1, rd_rl, rd_rq) res.2.1 (updC co rd_rq res.2.2) mu fo tr ma mq mx)) ∧ ∀ E : String, res.1 = .error E → XE V p l e R s m args below meth c Q A kc ks 4 RX5 cX5_branch E (wC V ad (top_tx, top_ln, top_cp, top_cq, top_sq, top_fu, top_lv, top_lt) (rd_t0, 1, rd_rl, rd_rq) res.2.1 (updC co rd_rq res.2.2) mu fo tr ma mq mx)) : WC V p l e R s m args below meth c Q A kc ks 4 (wC V ad (top_tx, top_ln, top_cp, top_cq, top_sq, top_fu, top_lv, top_lt) (rd_t0, 1, rd_rl, rd_rq) ra_at (updC co rd_rq (cs_cw, cs_ce, cs_cn, cs_cj, cs_cz)) mu fo tr ma mq mx) 0 [(0, .ref (ad 2)), (1, .int v1)] [] := by
  rw [f5_branch] at hf
  refine k_aload_n C dX5_branch_0 0 rfl ?_
  refine k_dup C dX5_branch_1 rfl ?_
  refine g5_19 C dX5_branch_2 ?_
  refine k_iconst (v := (1 : Int32)) C dX5_branch_5 (by decide) ?_
  refine k_iadd C dX5_branch_6 ?_
  refine p5_19 C dX5_branch_7 ?_
  refine k_aload_n C dX5_branch_10 0 rfl ?_
  refine k_iload_n C dX5_branch_11 1 rfl ?_
  obtain ⟨⟨r_2, ra_at_3, ⟨cs_cw_4, cs_ce_5, cs_cn_6, cs_cj_7, cs_cz_8⟩⟩, hq_1, hf⟩ := ob_el hf
  dsimp only at hf
  rcases r_2 with E | _u
  · try dsimp only at hf
    cases hf
    exact k_callVvx C (x5_condition C.2.2.2.2.2.2.2.2.2.1 hrec hq hq_1 rfl) cm5_73 ok5_condition ⟨by omega, by have := nK_v; omega⟩ 2 rfl rfl rfl rfl (Nat.le_of_ble_eq_true rfl) dX5_branch_12 (K.2 _ rfl)
  try dsimp only at hf
  refine k_callVv C (c5_condition C.2.2.2.2.2.2.2.2.2.1 hrec hq hq_1 rfl) cm5_73 ok5_condition ⟨by omega, by have := nK_v; omega⟩ 2 rfl rfl rfl rfl (Nat.le_of_ble_eq_true rfl) dX5_branch_12 ?_
  refine k_aload_n C dX5_branch_15 0 rfl ?_
  refine g5_25 C dX5_branch_16 ?_
  refine k_bipush (v := (10 : Int32)) C dX5_branch_19 (by decide) ?_
  refine k_aload_n C dX5_branch_21 0 rfl ?_
  refine g5_19 C dX5_branch_22 ?_
  refine k_iconst (v := (0 : Int32)) C dX5_branch_25 (by decide) ?_
  obtain ⟨⟨r_10, ⟨cs_cw_11, cs_ce_12, cs_cn_13, cs_cj_14, cs_cz_15⟩⟩, hq_9, hf⟩ := ob_el hf
  dsimp only at hf
  refine k_callCi C hq (c0_add C.2.2.2.2.2.2.2.2.2.1 hq hq_9) cm5_63 ok0_add ⟨by omega, by have := nK_v; omega⟩ rfl rfl (Nat.le_of_ble_eq_true rfl) dX5_branch_26 ?_
  refine k_istore_n C dX5_branch_29 [(2, .int r_10), (0, .ref (ad 2)), (1, .int v1)] (by decide) rfl ?_
  refine k_aload_n C dX5_branch_30 1 rfl ?_
  refine k_iload_n C dX5_branch_31 2 rfl ?_
  obtain ⟨⟨r_17, ra_at_18, ⟨cs_cw_19, cs_ce_20, cs_cn_21, cs_cj_22, cs_cz_23⟩⟩, hq_16, hf⟩ := ob_el hf
  dsimp only at hf
  rcases r_17 with E | _u
  · try dsimp only at hf
    cases hf
    exact k_callVvx C (x5_block C.2.2.2.2.2.2.2.2.2.1 hrec hq hq_16 rfl) cm5_92 ok5_block ⟨by omega, by have := nK_v; omega⟩ 2 rfl rfl rfl rfl (Nat.le_of_ble_eq_true rfl) dX5_branch_32 (K.2 _ rfl)
  try dsimp only at hf
  refine k_callVv C (c5_block C.2.2.2.2.2.2.2.2.2.1 hrec hq hq_16 rfl) cm5_92 ok5_block ⟨by omega, by have := nK_v; omega⟩ 2 rfl rfl rfl rfl (Nat.le_of_ble_eq_true rfl) dX5_branch_32 ?_
  refine k_aload_n C dX5_branch_35 1 rfl ?_
  refine g5_25 C dX5_branch_36 ?_
  refine k_bipush (v := (11 : Int32)) C dX5_branch_39 (by decide) ?_
  refine k_aload_n C dX5_branch_41 1 rfl ?_
  refine g5_19 C dX5_branch_42 ?_
  refine k_iconst (v := (0 : Int32)) C dX5_branch_45 (by decide) ?_
  obtain ⟨⟨r_25, ⟨cs_cw_26, cs_ce_27, cs_cn_28, cs_cj_29, cs_cz_30⟩⟩, hq_24, hf⟩ := ob_el hf
  dsimp only at hf
  refine k_callCi C hq (c0_add C.2.2.2.2.2.2.2.2.2.1 hq hq_24) cm5_63 ok0_add ⟨by omega, by have := nK_v; omega⟩ rfl rfl (Nat.le_of_ble_eq_true rfl) dX5_branch_46 ?_
  refine k_istore_n C dX5_branch_49 [(3, .int r_25), (2, .int r_10), (0, .ref (ad 2)), (1, .int v1)] (by decide) rfl ?_
  refine k_aload_n C dX5_branch_50 2 rfl ?_
  refine g5_25 C dX5_branch_51 ?_
  refine k_iload_n C dX5_branch_54 1 rfl ?_
  obtain ⟨⟨cs_cw_32, cs_ce_33, cs_cn_34, cs_cj_35, cs_cz_36⟩, hq_31, hf⟩ := ob_el hf
  dsimp only at hf
  refine k_callCv C hq (c0_jumpHere C.2.2.2.2.2.2.2.2.2.1 hq hq_31) cm5_86 ok0_jumpHere ⟨by omega, by have := nK_v; omega⟩ rfl rfl (Nat.le_of_ble_eq_true rfl) dX5_branch_55 ?_
  refine k_aload_n C dX5_branch_58 2 rfl ?_
  obtain ⟨r_38, hq_37, hf⟩ := ob_el hf
  refine k_callVi C (c5_next C.2.2.2.2.2.2.2.2.2.1 hq_37) cm5_46 ok5_next ⟨by omega, by have := nK_v; omega⟩ 2 rfl rfl rfl rfl (Nat.le_of_ble_eq_true rfl) dX5_branch_59 ?_
  refine k_bipush (v := (123 : Int32)) C dX5_branch_62 (by decide) ?_
  refine k_icmp_ne C 72 dX5_branch_64 (by decide) (fun hc => ?_) (fun hc => ?_)
  · replace hf := (if_neg hc).symm.trans hf
    refine k_sub [2, 0] (L' := [(0, .ref (ad 2)), (3, .int r_25)]) rfl ?_
    exact w5_branch_L72 C hq hrec K _ _ _ _ _ _ _ hf
  · replace hf := (if_pos hc).symm.trans hf
    refine k_aload_n C dX5_branch_67 2 rfl ?_
    refine k_iload_n C dX5_branch_68 3 rfl ?_
    obtain ⟨⟨r_53, ra_at_54, ⟨cs_cw_55, cs_ce_56, cs_cn_57, cs_cj_58, cs_cz_59⟩⟩, hq_52, hf⟩ := ob_el hf
    dsimp only at hf
    rcases r_53 with E | _u
    · try dsimp only at hf
      cases hf
      exact k_callVvx C (x5_block C.2.2.2.2.2.2.2.2.2.1 hrec hq hq_52 rfl) cm5_92 ok5_block ⟨by omega, by have := nK_v; omega⟩ 2 rfl rfl rfl rfl (Nat.le_of_ble_eq_true rfl) dX5_branch_69 (K.2 _ rfl)
    try dsimp only at hf
    refine k_callVv C (c5_block C.2.2.2.2.2.2.2.2.2.1 hrec hq hq_52 rfl) cm5_92 ok5_block ⟨by omega, by have := nK_v; omega⟩ 2 rfl rfl rfl rfl (Nat.le_of_ble_eq_true rfl) dX5_branch_69 ?_
    refine k_sub [2, 0] (L' := [(0, .ref (ad 2)), (3, .int r_25)]) rfl ?_
    exact w5_branch_L72 C hq hrec K _ _ _ _ _ _ _ hf
theorem c5_branch {V : EV} {l : Launch} (hl0 : l.stackTraces = false) {ad : Nat → Nat} {co : Nat → CoS} {mu : MuS} {fo : FoS} {tr : TrS} {ma : MaS} {mq : Nat} {mx : MxS} {top_tx : Nat → Int32} {top_ln : Int32} {top_cp : Int32} {top_cq : Nat} {top_sq : Nat} {top_fu : Int32} {top_lv : Int32} {top_lt : Int32} {rd_t0 : Nat → Int32} {rd_rl : Int32} {rd_rq : Nat} {v1 : Int32} {ra_at : Int32} {cs_cw : Nat → Int32} {cs_ce : Nat → Int32} {cs_cn : Nat → Int32} {cs_cj : Nat → Int32} {cs_cz : Int32} {N : Nat} {res : Except String Unit × Int32 × CoS} {rec : RecT} {F G : Nat} (hrec : RECOK V l F G rec) (hq : rd_rq < 4) (hf : f5_branch rec N v1 (top_tx, top_ln, top_cp, top_cq, top_sq, top_fu, top_lv, top_lt) (rd_t0, 1, rd_rl, rd_rq) ra_at (cs_cw, cs_ce, cs_cn, cs_cj, cs_cz) = some res) {v : Unit} (hv : res.1 = .ok v) : MV V l yX5_branch cX5_branch 4 (F + 19) (G + 573) [.ref (ad 2), .int v1] (wC V ad (top_tx, top_ln, top_cp, top_cq, top_sq, top_fu, top_lv, top_lt) (rd_t0, 1, rd_rl, rd_rq) ra_at (updC co rd_rq (cs_cw, cs_ce, cs_cn, cs_cj, cs_cz)) mu fo tr ma mq mx) (wC V ad (top_tx, top_ln, top_cp, top_cq, top_sq, top_fu, top_lv, top_lt) (rd_t0, 1, rd_rl, rd_rq) res.2.1 (updC co rd_rq res.2.2) mu fo tr ma mq mx) :=
  mv_of hl0 (by decide +kernel) (Nat.le_of_ble_eq_true rfl) (fun p e R s m args below meth c Q A C K => b5_branch C hq hrec hf ⟨fun v' h' => (by cases hv.symm.trans h'; exact K), fun E h' => (by cases hv.symm.trans h')⟩)
theorem x5_branch {V : EV} {l : Launch} (hl0 : l.stackTraces = false) {ad : Nat → Nat} {co : Nat → CoS} {mu : MuS} {fo : FoS} {tr : TrS} {ma : MaS} {mq : Nat} {mx : MxS} {top_tx : Nat → Int32} {top_ln : Int32} {top_cp : Int32} {top_cq : Nat} {top_sq : Nat} {top_fu : Int32} {top_lv : Int32} {top_lt : Int32} {rd_t0 : Nat → Int32} {rd_rl : Int32} {rd_rq : Nat} {v1 : Int32} {ra_at : Int32} {cs_cw : Nat → Int32} {cs_ce : Nat → Int32} {cs_cn : Nat → Int32} {cs_cj : Nat → Int32} {cs_cz : Int32} {N : Nat} {res : Except String Unit × Int32 × CoS} {rec : RecT} {F G : Nat} (hrec : RECOK V l F G rec) (hq : rd_rq < 4) (hf : f5_branch rec N v1 (top_tx, top_ln, top_cp, top_cq, top_sq, top_fu, top_lv, top_lt) (rd_t0, 1, rd_rl, rd_rq) ra_at (cs_cw, cs_ce, cs_cn, cs_cj, cs_cz) = some res) {E : String} (hv : res.1 = .error E) : TV V l yX5_branch cX5_branch 4 (F + 19) (G + 573) [.ref (ad 2), .int v1] (wC V ad (top_tx, top_ln, top_cp, top_cq, top_sq, top_fu, top_lv, top_lt) (rd_t0, 1, rd_rl, rd_rq) ra_at (updC co rd_rq (cs_cw, cs_ce, cs_cn, cs_cj, cs_cz)) mu fo tr ma mq mx) E (wC V ad (top_tx, top_ln, top_cp, top_cq, top_sq, top_fu, top_lv, top_lt) (rd_t0, 1, rd_rl, rd_rq) res.2.1 (updC co rd_rq res.2.2) mu fo tr ma mq mx) :=
  tv_of hl0 (by decide +kernel) (Nat.le_of_ble_eq_true rfl) (fun p e R s m args below meth c Q A C K => b5_branch C hq hrec hf ⟨fun v' h' => (by cases hv.symm.trans h'), fun E' h' => (by cases hv.symm.trans h'; exact K)⟩)

theorem ok5_loop : okCV RX5 yX5_loop 1 := by unfold okCV; decide +kernel
def f5_loop (rec : RecT) (N : Nat) (v1 : Int32) : TopS → RdS → Int32 → CoS → Option (Except String Unit × Int32 × CoS)
  | (top_tx, top_ln, top_cp, top_cq, top_sq, top_fu, top_lv, top_lt), (rd_t0, rd_rt, rd_rl, rd_rq), ra_at, (cs_cw, cs_ce, cs_cn, cs_cj, cs_cz) =>
    (f5_condition rec N v1 (top_tx, top_ln, top_cp, top_cq, top_sq, top_fu, top_lv, top_lt) (rd_t0, 1, rd_rl, rd_rq) (ra_at + (1 : Int32)) (cs_cw, cs_ce, cs_cn, cs_cj, cs_cz)).bind fun (r_2, ra_at_3, (cs_cw_4, cs_ce_5, cs_cn_6, cs_cj_7, cs_cz_8)) => match r_2 with | .error E => some ((.error E), ra_at_3, (cs_cw_4, cs_ce_5, cs_cn_6, cs_cj_7, cs_cz_8)) | .ok _ => (f0_add (13 : Int32) ra_at_3 (0 : Int32) (cs_cw_4, cs_ce_5, cs_cn_6, cs_cj_7, cs_cz_8)).bind fun (r_10, (cs_cw_11, cs_ce_12, cs_cn_13, cs_cj_14, cs_cz_15)) => (f5_block rec v1 (top_tx, top_ln, top_cp, top_cq, top_sq, top_fu, top_lv, top_lt) (rd_t0, 1, rd_rl, rd_rq) ra_at_3 (cs_cw_11, cs_ce_12, cs_cn_13, cs_cj_14, cs_cz_15)).bind fun (r_17, ra_at_18, (cs_cw_19, cs_ce_20, cs_cn_21, cs_cj_22, cs_cz_23)) => match r_17 with | .error E => some ((.error E), ra_at_18, (cs_cw_19, cs_ce_20, cs_cn_21, cs_cj_22, cs_cz_23)) | .ok _ => (f0_add (14 : Int32) ra_at_18 (0 : Int32) (cs_cw_19, cs_ce_20, cs_cn_21, cs_cj_22, cs_cz_23)).bind fun (r_25, (cs_cw_26, cs_ce_27, cs_cn_28, cs_cj_29, cs_cz_30)) => if r_25 < 0 ∨ 80 ≤ r_25.toNatClampNeg then none else (f0_jumpHere r_10 (cs_cw_26, cs_ce_27, cs_cn_28, (upd cs_cj_29 r_25.toNatClampNeg cs_cz), cs_cz_30)).bind fun (cs_cw_32, cs_ce_33, cs_cn_34, cs_cj_35, cs_cz_36) => some ((.ok ()), ra_at_18, (cs_cw_32, cs_ce_33, cs_cn_34, cs_cj_35, cs_cz_36))
set_option maxHeartbeats 4000000 in
set_option maxRecDepth 100000 in
theorem b5_loop {V : EV} {p : Program} {l : Launch} {e : Env} {R : Room} {s : State} {m : MethodId} {args : Array Value} {below : List Frame} {meth : Method} {c : Code} {Q : State → Prop} {A : Nat → Prop} {kc ks : Nat} {ad : Nat → Nat} {co : Nat → CoS} {mu : MuS} {fo : FoS} {tr : TrS} {ma : MaS} {mq : Nat} {mx : MxS} {top_tx : Nat → Int32} {top_ln : Int32} {top_cp : Int32} {top_cq : Nat} {top_sq : Nat} {top_fu : Int32} {top_lv : Int32} {top_lt : Int32} {rd_t0 : Nat → Int32} {rd_rl : Int32} {rd_rq : Nat} {rec : RecT} {F G : Nat} {v1 : Int32} {ra_at : Int32} {cs_cw : Nat → Int32} {cs_ce : Nat → Int32} {cs_cn : Nat → Int32} {cs_cj : Nat → Int32} {cs_cz : Int32} {N : Nat} {res : Except String Unit × Int32 × CoS} (C : CX V p l R s m args c A kc ks RX5 cX5_loop 5 (F + 19) (G + 573)) (hq : rd_rq < 4) (hrec : RECOK V l F G rec) (hf : f5_loop rec N v1 (top_tx, top_ln, top_cp, top_cq, top_sq, top_fu, top_lv, top_lt) (rd_t0, 1, rd_rl, rd_rq) ra_at (cs_cw, cs_ce, cs_cn, cs_cj, cs_cz) = some res) (K : (∀ v : Unit, res.1 = .ok v → RV V p l e R s m args below meth c Q A kc ks 5 cX5_loop (wC V ad (top_tx, top_ln, top_cp, top_cq, top_sq, top_fu, top_lv, top_lt) (rd_t0, 1, rd_rl, rd_rq) res.2.1 (updC co rd_rq res.2.2) mu fo tr ma mq mx)) ∧ ∀ E : String, res.1 = .error E → XE V p l e R s m args below meth c Q A kc ks 5 RX5 cX5_loop E (wC V ad (top_tx, top_ln, top_cp, top_cq, top_sq, top_fu, top_lv, top_lt) (rd_t0, 1, rd_rl, rd_rq) res.2.1 (updC co rd_rq res.2.2) mu fo tr ma mq mx)) : WC V p l e R s m args below meth c Q A kc ks 5 (wC V ad (top_tx, top_ln, top_cp, top_cq, top_sq, top_fu, top_lv, top_lt) (rd_t0, 1, rd_rl, rd_rq) ra_at (updC co rd_rq (cs_cw, cs_ce, cs_cn, cs_cj, cs_cz)) mu fo tr ma mq mx) 0 [(0, .ref (ad 2)), (1, .int v1)] [] := by
  rw [f5_loop] at hf
  refine k_aload_n C dX5_loop_0 0 rfl ?_
  refine k_dup C dX5_loop_1 rfl ?_
  refine g5_19 C dX5_loop_2 ?_
  refine k_iconst (v := (1 : Int32)) C dX5_loop_5 (by decide) ?_
  refine k_iadd C dX5_loop_6 ?_
  refine p5_19 C dX5_loop_7 ?_
  refine k_aload_n C dX5_loop_10 0 rfl ?_
  refine g5_25 C dX5_loop_11 ?_
  refine g5_29 C hq dX5_loop_14 ?_
  refine k_istore_n C dX5_loop_17 [(2, .int cs_cz), (0, .ref (ad 2)), (1, .int v1)] (by decide) rfl ?_
  refine k_aload_n C dX5_loop_18 1 rfl ?_
  refine k_iload_n C dX5_loop_19 2 rfl ?_
  obtain ⟨⟨r_2, ra_at_3, ⟨cs_cw_4, cs_ce_5, cs_cn_6, cs_cj_7, cs_cz_8⟩⟩, hq_1, hf⟩ := ob_el hf
  dsimp only at hf
  rcases r_2 with E | _u
  · try dsimp only at hf
    cases hf
    exact k_callVvx C (x5_condition C.2.2.2.2.2.2.2.2.2.1 hrec hq hq_1 rfl) cm5_73 ok5_condition ⟨by omega, by have := nK_v; omega⟩ 2 rfl rfl rfl rfl (Nat.le_of_ble_eq_true rfl) dX5_loop_20 (K.2 _ rfl)
  try dsimp only at hf
  refine k_callVv C (c5_condition C.2.2.2.2.2.2.2.2.2.1 hrec hq hq_1 rfl) cm5_73 ok5_condition ⟨by omega, by have := nK_v; omega⟩ 2 rfl rfl rfl rfl (Nat.le_of_ble_eq_true rfl) dX5_loop_20 ?_
  refine k_aload_n C dX5_loop_23 1 rfl ?_
  refine g5_25 C dX5_loop_24 ?_
  refine k_bipush (v := (13 : Int32)) C dX5_loop_27 (by decide) ?_
  refine k_aload_n C dX5_loop_29 1 rfl ?_
  refine g5_19 C dX5_loop_30 ?_
  refine k_iconst (v := (0 : Int32)) C dX5_loop_33 (by decide) ?_
  obtain ⟨⟨r_10, ⟨cs_cw_11, cs_ce_12, cs_cn_13, cs_cj_14, cs_cz_15⟩⟩, hq_9, hf⟩ := ob_el hf
  dsimp only at hf
  refine k_callCi C hq (c0_add C.2.2.2.2.2.2.2.2.2.1 hq hq_9) cm5_63 ok0_add ⟨by omega, by have := nK_v; omega⟩ rfl rfl (Nat.le_of_ble_eq_true rfl) dX5_loop_34 ?_
  refine k_istore_n C dX5_loop_37 [(3, .int r_10), (2, .int cs_cz), (0, .ref (ad 2)), (1, .int v1)] (by decide) rfl ?_
  refine k_aload_n C dX5_loop_38 2 rfl ?_
  refine k_iload_n C dX5_loop_39 3 rfl ?_
  obtain ⟨⟨r_17, ra_at_18, ⟨cs_cw_19, cs_ce_20, cs_cn_21, cs_cj_22, cs_cz_23⟩⟩, hq_16, hf⟩ := ob_el hf
  dsimp only at hf
  rcases r_17 with E | _u
  · try dsimp only at hf
    cases hf
    exact k_callVvx C (x5_block C.2.2.2.2.2.2.2.2.2.1 hrec hq hq_16 rfl) cm5_92 ok5_block ⟨by omega, by have := nK_v; omega⟩ 2 rfl rfl rfl rfl (Nat.le_of_ble_eq_true rfl) dX5_loop_40 (K.2 _ rfl)
  try dsimp only at hf
  refine k_callVv C (c5_block C.2.2.2.2.2.2.2.2.2.1 hrec hq hq_16 rfl) cm5_92 ok5_block ⟨by omega, by have := nK_v; omega⟩ 2 rfl rfl rfl rfl (Nat.le_of_ble_eq_true rfl) dX5_loop_40 ?_
  refine k_aload_n C dX5_loop_43 2 rfl ?_
  refine g5_25 C dX5_loop_44 ?_
  refine k_bipush (v := (14 : Int32)) C dX5_loop_47 (by decide) ?_
  refine k_aload_n C dX5_loop_49 2 rfl ?_
  refine g5_19 C dX5_loop_50 ?_
  refine k_iconst (v := (0 : Int32)) C dX5_loop_53 (by decide) ?_
  obtain ⟨⟨r_25, ⟨cs_cw_26, cs_ce_27, cs_cn_28, cs_cj_29, cs_cz_30⟩⟩, hq_24, hf⟩ := ob_el hf
  dsimp only at hf
  refine k_callCi C hq (c0_add C.2.2.2.2.2.2.2.2.2.1 hq hq_24) cm5_63 ok0_add ⟨by omega, by have := nK_v; omega⟩ rfl rfl (Nat.le_of_ble_eq_true rfl) dX5_loop_54 ?_
  refine k_istore C dX5_loop_57 [(4, .int r_25), (3, .int r_10), (2, .int cs_cz), (0, .ref (ad 2)), (1, .int v1)] (by decide) rfl ?_
  refine k_aload_n C dX5_loop_59 3 rfl ?_
  refine g5_25 C dX5_loop_60 ?_
  refine g5_95 C hq dX5_loop_63 ?_
  refine k_iload C dX5_loop_66 0 rfl ?_
  refine k_iload_n C dX5_loop_68 2 rfl ?_
  obtain ⟨hi, hf⟩ := gd_no hf
  refine sk3 C hq hi dX5_loop_69 ?_
  refine k_aload_n C dX5_loop_70 3 rfl ?_
  refine g5_25 C dX5_loop_71 ?_
  refine k_iload_n C dX5_loop_74 1 rfl ?_
  obtain ⟨⟨cs_cw_32, cs_ce_33, cs_cn_34, cs_cj_35, cs_cz_36⟩, hq_31, hf⟩ := ob_el hf
  dsimp only at hf
  refine k_callCv C hq (c0_jumpHere C.2.2.2.2.2.2.2.2.2.1 hq hq_31) cm5_86 ok0_jumpHere ⟨by omega, by have := nK_v; omega⟩ rfl rfl (Nat.le_of_ble_eq_true rfl) dX5_loop_75 ?_
  cases hf
  exact K.1 _ rfl _ _ dX5_loop_78
theorem c5_loop {V : EV} {l : Launch} (hl0 : l.stackTraces = false) {ad : Nat → Nat} {co : Nat → CoS} {mu : MuS} {fo : FoS} {tr : TrS} {ma : MaS} {mq : Nat} {mx : MxS} {top_tx : Nat → Int32} {top_ln : Int32} {top_cp : Int32} {top_cq : Nat} {top_sq : Nat} {top_fu : Int32} {top_lv : Int32} {top_lt : Int32} {rd_t0 : Nat → Int32} {rd_rl : Int32} {rd_rq : Nat} {v1 : Int32} {ra_at : Int32} {cs_cw : Nat → Int32} {cs_ce : Nat → Int32} {cs_cn : Nat → Int32} {cs_cj : Nat → Int32} {cs_cz : Int32} {N : Nat} {res : Except String Unit × Int32 × CoS} {rec : RecT} {F G : Nat} (hrec : RECOK V l F G rec) (hq : rd_rq < 4) (hf : f5_loop rec N v1 (top_tx, top_ln, top_cp, top_cq, top_sq, top_fu, top_lv, top_lt) (rd_t0, 1, rd_rl, rd_rq) ra_at (cs_cw, cs_ce, cs_cn, cs_cj, cs_cz) = some res) {v : Unit} (hv : res.1 = .ok v) : MV V l yX5_loop cX5_loop 5 (F + 19) (G + 573) [.ref (ad 2), .int v1] (wC V ad (top_tx, top_ln, top_cp, top_cq, top_sq, top_fu, top_lv, top_lt) (rd_t0, 1, rd_rl, rd_rq) ra_at (updC co rd_rq (cs_cw, cs_ce, cs_cn, cs_cj, cs_cz)) mu fo tr ma mq mx) (wC V ad (top_tx, top_ln, top_cp, top_cq, top_sq, top_fu, top_lv, top_lt) (rd_t0, 1, rd_rl, rd_rq) res.2.1 (updC co rd_rq res.2.2) mu fo tr ma mq mx) :=
  mv_of hl0 (by decide +kernel) (Nat.le_of_ble_eq_true rfl) (fun p e R s m args below meth c Q A C K => b5_loop C hq hrec hf ⟨fun v' h' => (by cases hv.symm.trans h'; exact K), fun E h' => (by cases hv.symm.trans h')⟩)
theorem x5_loop {V : EV} {l : Launch} (hl0 : l.stackTraces = false) {ad : Nat → Nat} {co : Nat → CoS} {mu : MuS} {fo : FoS} {tr : TrS} {ma : MaS} {mq : Nat} {mx : MxS} {top_tx : Nat → Int32} {top_ln : Int32} {top_cp : Int32} {top_cq : Nat} {top_sq : Nat} {top_fu : Int32} {top_lv : Int32} {top_lt : Int32} {rd_t0 : Nat → Int32} {rd_rl : Int32} {rd_rq : Nat} {v1 : Int32} {ra_at : Int32} {cs_cw : Nat → Int32} {cs_ce : Nat → Int32} {cs_cn : Nat → Int32} {cs_cj : Nat → Int32} {cs_cz : Int32} {N : Nat} {res : Except String Unit × Int32 × CoS} {rec : RecT} {F G : Nat} (hrec : RECOK V l F G rec) (hq : rd_rq < 4) (hf : f5_loop rec N v1 (top_tx, top_ln, top_cp, top_cq, top_sq, top_fu, top_lv, top_lt) (rd_t0, 1, rd_rl, rd_rq) ra_at (cs_cw, cs_ce, cs_cn, cs_cj, cs_cz) = some res) {E : String} (hv : res.1 = .error E) : TV V l yX5_loop cX5_loop 5 (F + 19) (G + 573) [.ref (ad 2), .int v1] (wC V ad (top_tx, top_ln, top_cp, top_cq, top_sq, top_fu, top_lv, top_lt) (rd_t0, 1, rd_rl, rd_rq) ra_at (updC co rd_rq (cs_cw, cs_ce, cs_cn, cs_cj, cs_cz)) mu fo tr ma mq mx) E (wC V ad (top_tx, top_ln, top_cp, top_cq, top_sq, top_fu, top_lv, top_lt) (rd_t0, 1, rd_rl, rd_rq) res.2.1 (updC co rd_rq res.2.2) mu fo tr ma mq mx) :=
  tv_of hl0 (by decide +kernel) (Nat.le_of_ble_eq_true rfl) (fun p e R s m args below meth c Q A C K => b5_loop C hq hrec hf ⟨fun v' h' => (by cases hv.symm.trans h'), fun E' h' => (by cases hv.symm.trans h'; exact K)⟩)

theorem cm5_67 : ∀ a ∈ wsCV RX5 67 RX5 yX5_branch cX5_branch 4 none, a ∈ GW := by
  unfold wsCV
  exact (List.forall_mem_cons.mpr ⟨(gw_2 (i := 114) (by decide +kernel) rfl), (List.forall_mem_cons.mpr ⟨(gw_2 (i := 116) (by decide +kernel) rfl), (List.forall_mem_cons.mpr ⟨(gw_p (q := ((yX5_branch, 4) : MethodName × Nat)) (List.mem_append_left _ (List.mem_of_getElem? (i := 3) (by decide +kernel))) rfl), (List.forall_mem_cons.mpr ⟨(gw_1 (i := 2) (by decide +kernel) rfl), (List.forall_mem_cons.mpr ⟨(gw_2 (i := 117) (by decide +kernel) rfl), (List.forall_mem_nil _)⟩)⟩)⟩)⟩)⟩)
theorem cm5_70 : ∀ a ∈ wsCV RX5 70 RX5 yX5_loop cX5_loop 5 none, a ∈ GW := by
  unfold wsCV
  exact (List.forall_mem_cons.mpr ⟨(gw_3 (i := 104) (by decide +kernel) rfl), (List.forall_mem_cons.mpr ⟨(gw_3 (i := 106) (by decide +kernel) rfl), (List.forall_mem_cons.mpr ⟨(gw_p (q := ((yX5_loop, 4) : MethodName × Nat)) (List.mem_append_right _ (List.mem_append_left _ (List.mem_of_getElem? (i := 5) (by decide +kernel)))) rfl), (List.forall_mem_cons.mpr ⟨(gw_1 (i := 2) (by decide +kernel) rfl), (List.forall_mem_cons.mpr ⟨(gw_3 (i := 107) (by decide +kernel) rfl), (List.forall_mem_nil _)⟩)⟩)⟩)⟩)⟩)
theorem cm5_83 : ∀ a ∈ wsCV RX5 83 RX5 yX5_assignment cX5_assignment 3 none, a ∈ GW := by
  unfold wsCV
  exact (List.forall_mem_cons.mpr ⟨(gw_3 (i := 112) (by decide +kernel) rfl), (List.forall_mem_cons.mpr ⟨(gw_3 (i := 114) (by decide +kernel) rfl), (List.forall_mem_cons.mpr ⟨(gw_p (q := ((yX5_assignment, 4) : MethodName × Nat)) (List.mem_append_right _ (List.mem_append_left _ (List.mem_of_getElem? (i := 7) (by decide +kernel)))) rfl), (List.forall_mem_cons.mpr ⟨(gw_1 (i := 2) (by decide +kernel) rfl), (List.forall_mem_cons.mpr ⟨(gw_3 (i := 115) (by decide +kernel) rfl), (List.forall_mem_nil _)⟩)⟩)⟩)⟩)⟩)
theorem ok5_statement : okCV RX5 yX5_statement 1 := by unfold okCV; decide +kernel
def f5_statement (rec : RecT) (N : Nat) (v1 : Int32) : TopS → RdS → Int32 → CoS → Option (Except String Unit × Int32 × CoS)
  | (top_tx, top_ln, top_cp, top_cq, top_sq, top_fu, top_lv, top_lt), (rd_t0, rd_rt, rd_rl, rd_rq), ra_at, (cs_cw, cs_ce, cs_cn, cs_cj, cs_cz) =>
    (f0_add (4 : Int32) ra_at (0 : Int32) (cs_cw, cs_ce, cs_cn, cs_cj, cs_cz)).bind fun (r_2, (cs_cw_3, cs_ce_4, cs_cn_5, cs_cj_6, cs_cz_7)) => (f5_next (top_tx, top_ln, top_cp, top_cq, top_sq, top_fu, top_lv, top_lt) (rd_t0, 1, rd_rl, rd_rq) ra_at).bind fun r_9 => if r_9 = (33 : Int32) then (f5_condition rec N v1 (top_tx, top_ln, top_cp, top_cq, top_sq, top_fu, top_lv, top_lt) (rd_t0, 1, rd_rl, rd_rq) (ra_at + (1 : Int32)) (cs_cw_3, cs_ce_4, cs_cn_5, cs_cj_6, cs_cz_7)).bind fun (r_25, ra_at_26, (cs_cw_27, cs_ce_28, cs_cn_29, cs_cj_30, cs_cz_31)) => match r_25 with | .error E => some ((.error E), ra_at_26, (cs_cw_27, cs_ce_28, cs_cn_29, cs_cj_30, cs_cz_31)) | .ok _ => (f5_endPlain (8 : Int32) (0 : Int32) (top_tx, top_ln, top_cp, top_cq, top_sq, top_fu, top_lv, top_lt) (rd_t0, 1, rd_rl, rd_rq) ra_at_26 (cs_cw_27, cs_ce_28, cs_cn_29, cs_cj_30, cs_cz_31)).bind fun (r_33, ra_at_34, (cs_cw_35, cs_ce_36, cs_cn_37, cs_cj_38, cs_cz_39)) => match r_33 with | .error E => some ((.error E), ra_at_34, (cs_cw_35, cs_ce_36, cs_cn_37, cs_cj_38, cs_cz_39)) | .ok _ => (f0_jumpHere r_2 (cs_cw_35, cs_ce_36, cs_cn_37, cs_cj_38, cs_cz_39)).bind fun (cs_cw_41, cs_ce_42, cs_cn_43, cs_cj_44, cs_cz_45) => some ((.ok ()), ra_at_34, (cs_cw_41, cs_ce_42, cs_cn_43, cs_cj_44, cs_cz_45)) else if r_9 = (63 : Int32) then (f5_branch rec N v1 (top_tx, top_ln, top_cp, top_cq, top_sq, top_fu, top_lv, top_lt) (rd_t0, 1, rd_rl, rd_rq) ra_at (cs_cw_3, cs_ce_4, cs_cn_5, cs_cj_6, cs_cz_7)).bind fun (r_47, ra_at_48, (cs_cw_49, cs_ce_50, cs_cn_51, cs_cj_52, cs_cz_53)) => match r_47 with | .error E => some ((.error E), ra_at_48, (cs_cw_49, cs_ce_50, cs_cn_51, cs_cj_52, cs_cz_53)) | .ok _ => (f0_jumpHere r_2 (cs_cw_49, cs_ce_50, cs_cn_51, cs_cj_52, cs_cz_53)).bind fun (cs_cw_55, cs_ce_56, cs_cn_57, cs_cj_58, cs_cz_59) => some ((.ok ()), ra_at_48, (cs_cw_55, cs_ce_56, cs_cn_57, cs_cj_58, cs_cz_59)) else if r_9 = (64 : Int32) then (f5_loop rec N v1 (top_tx, top_ln, top_cp, top_cq, top_sq, top_fu, top_lv, top_lt) (rd_t0, 1, rd_rl, rd_rq) ra_at (cs_cw_3, cs_ce_4, cs_cn_5, cs_cj_6, cs_cz_7)).bind fun (r_61, ra_at_62, (cs_cw_63, cs_ce_64, cs_cn_65, cs_cj_66, cs_cz_67)) => match r_61 with | .error E => some ((.error E), ra_at_62, (cs_cw_63, cs_ce_64, cs_cn_65, cs_cj_66, cs_cz_67)) | .ok _ => (f0_jumpHere r_2 (cs_cw_63, cs_ce_64, cs_cn_65, cs_cj_66, cs_cz_67)).bind fun (cs_cw_69, cs_ce_70, cs_cn_71, cs_cj_72, cs_cz_73) => some ((.ok ()), ra_at_62, (cs_cw_69, cs_ce_70, cs_cn_71, cs_cj_72, cs_cz_73)) else if r_9 = (94 : Int32) then (f5_expression rec N v1 (top_tx, top_ln, top_cp, top_cq, top_sq, top_fu, top_lv, top_lt) (rd_t0, 1, rd_rl, rd_rq) (ra_at + (1 : Int32)) (cs_cw_3, cs_ce_4, cs_cn_5, cs_cj_6, cs_cz_7)).bind fun (r_75, ra_at_76, (cs_cw_77, cs_ce_78, cs_cn_79, cs_cj_80, cs_cz_81)) => match r_75 with | .error E => some ((.error E), ra_at_76, (cs_cw_77, cs_ce_78, cs_cn_79, cs_cj_80, cs_cz_81)) | .ok _ => (f5_endPlain (9 : Int32) (0 : Int32) (top_tx, top_ln, top_cp, top_cq, top_sq, top_fu, top_lv, top_lt) (rd_t0, 1, rd_rl, rd_rq) ra_at_76 (cs_cw_77, cs_ce_78, cs_cn_79, cs_cj_80, cs_cz_81)).bind fun (r_83, ra_at_84, (cs_cw_85, cs_ce_86, cs_cn_87, cs_cj_88, cs_cz_89)) => match r_83 with | .error E => some ((.error E), ra_at_84, (cs_cw_85, cs_ce_86, cs_cn_87, cs_cj_88, cs_cz_89)) | .ok _ => (f0_jumpHere r_2 (cs_cw_85, cs_ce_86, cs_cn_87, cs_cj_88, cs_cz_89)).bind fun (cs_cw_91, cs_ce_92, cs_cn_93, cs_cj_94, cs_cz_95) => some ((.ok ()), ra_at_84, (cs_cw_91, cs_ce_92, cs_cn_93, cs_cj_94, cs_cz_95)) else (f5_assignment rec N v1 (top_tx, top_ln, top_cp, top_cq, top_sq, top_fu, top_lv, top_lt) (rd_t0, 1, rd_rl, rd_rq) ra_at (cs_cw_3, cs_ce_4, cs_cn_5, cs_cj_6, cs_cz_7)).bind fun (r_11, ra_at_12, (cs_cw_13, cs_ce_14, cs_cn_15, cs_cj_16, cs_cz_17)) => match r_11 with | .error E => some ((.error E), ra_at_12, (cs_cw_13, cs_ce_14, cs_cn_15, cs_cj_16, cs_cz_17)) | .ok _ => (f0_jumpHere r_2 (cs_cw_13, cs_ce_14, cs_cn_15, cs_cj_16, cs_cz_17)).bind fun (cs_cw_19, cs_ce_20, cs_cn_21, cs_cj_22, cs_cz_23) => some ((.ok ()), ra_at_12, (cs_cw_19, cs_ce_20, cs_cn_21, cs_cj_22, cs_cz_23))
set_option maxHeartbeats 4000000 in
set_option maxRecDepth 100000 in
theorem b5_statement {V : EV} {p : Program} {l : Launch} {e : Env} {R : Room} {s : State} {m : MethodId} {args : Array Value} {below : List Frame} {meth : Method} {c : Code} {Q : State → Prop} {A : Nat → Prop} {kc ks : Nat} {ad : Nat → Nat} {co : Nat → CoS} {mu : MuS} {fo : FoS} {tr : TrS} {ma : MaS} {mq : Nat} {mx : MxS} {top_tx : Nat → Int32} {top_ln : Int32} {top_cp : Int32} {top_cq : Nat} {top_sq : Nat} {top_fu : Int32} {top_lv : Int32} {top_lt : Int32} {rd_t0 : Nat → Int32} {rd_rl : Int32} {rd_rq : Nat} {rec : RecT} {F G : Nat} {v1 : Int32} {ra_at : Int32} {cs_cw : Nat → Int32} {cs_ce : Nat → Int32} {cs_cn : Nat → Int32} {cs_cj : Nat → Int32} {cs_cz : Int32} {N : Nat} {res : Except String Unit × Int32 × CoS} (C : CX V p l R s m args c A kc ks RX5 cX5_statement 3 (F + 20) (G + 597)) (hq : rd_rq < 4) (hrec : RECOK V l F G rec) (hf : f5_statement rec N v1 (top_tx, top_ln, top_cp, top_cq, top_sq, top_fu, top_lv, top_lt) (rd_t0, 1, rd_rl, rd_rq) ra_at (cs_cw, cs_ce, cs_cn, cs_cj, cs_cz) = some res) (K : (∀ v : Unit, res.1 = .ok v → RV V p l e R s m args below meth c Q A kc ks 3 cX5_statement (wC V ad (top_tx, top_ln, top_cp, top_cq, top_sq, top_fu, top_lv, top_lt) (rd_t0, 1, rd_rl, rd_rq) res.2.1 (updC co rd_rq res.2.2) mu fo tr ma mq mx)) ∧ ∀ E : String, res.1 = .error E → XE V p l e R s m args below meth c Q A kc ks 3 RX5 cX5_statement E (wC V ad (top_tx, top_ln, top_cp, top_cq, top_sq, top_fu, top_lv, top_lt) (rd_t0, 1, rd_rl, rd_rq) res.2.1 (updC co rd_rq res.2.2) mu fo tr ma mq mx)) : WC V p l e R s m args below meth c Q A kc ks 3 (wC V ad (top_tx, top_ln, top_cp, top_cq, top_sq, top_fu, top_lv, top_lt) (rd_t0, 1, rd_rl, rd_rq) ra_at (updC co rd_rq (cs_cw, cs_ce, cs_cn, cs_cj, cs_cz)) mu fo tr ma mq mx) 0 [(0, .ref (ad 2)), (1, .int v1)] [] := by
  rw [f5_statement] at hf
  refine k_aload_n C dX5_statement_0 0 rfl ?_
  refine g5_25 C dX5_statement_1 ?_
  refine k_iconst (v := (4 : Int32)) C dX5_statement_4 (by decide) ?_
  refine k_aload_n C dX5_statement_5 0 rfl ?_
  refine g5_19 C dX5_statement_6 ?_
  refine k_iconst (v := (0 : Int32)) C dX5_statement_9 (by decide) ?_
  obtain ⟨⟨r_2, ⟨cs_cw_3, cs_ce_4, cs_cn_5, cs_cj_6, cs_cz_7⟩⟩, hq_1, hf⟩ := ob_el hf
  dsimp only at hf
  refine k_callCi C hq (c0_add C.2.2.2.2.2.2.2.2.2.1 hq hq_1) cm5_63 ok0_add ⟨by omega, by have := nK_v; omega⟩ rfl rfl (Nat.le_of_ble_eq_true rfl) dX5_statement_10 ?_
  refine k_istore_n C dX5_statement_13 [(2, .int r_2), (0, .ref (ad 2)), (1, .int v1)] (by decide) rfl ?_
  refine k_aload_n C dX5_statement_14 1 rfl ?_
  obtain ⟨r_9, hq_8, hf⟩ := ob_el hf
  refine k_callVi C (c5_next C.2.2.2.2.2.2.2.2.2.1 hq_8) cm5_46 ok5_next ⟨by omega, by have := nK_v; omega⟩ 2 rfl rfl rfl rfl (Nat.le_of_ble_eq_true rfl) dX5_statement_15 ?_
  have hx0 : ∀ n : Int32, r_9 = n → r_9.toInt = n.toInt := fun n h => by rw [h]
  by_cases hc : r_9 = (33 : Int32)
  · replace hf := (if_pos hc).symm.trans hf
    refine k_lookup (off := 58) C 76 dX5_statement_18 (by decide) (by rw [hx0 _ hc]; decide) (by decide) ?_
    refine k_aload_n C dX5_statement_76 1 rfl ?_
    refine k_dup C dX5_statement_77 rfl ?_
    refine g5_19 C dX5_statement_78 ?_
    refine k_iconst (v := (1 : Int32)) C dX5_statement_81 (by decide) ?_
    refine k_iadd C dX5_statement_82 ?_
    refine p5_19 C dX5_statement_83 ?_
    refine k_aload_n C dX5_statement_86 1 rfl ?_
    refine k_iload_n C dX5_statement_87 2 rfl ?_
    obtain ⟨⟨r_25, ra_at_26, ⟨cs_cw_27, cs_ce_28, cs_cn_29, cs_cj_30, cs_cz_31⟩⟩, hq_24, hf⟩ := ob_el hf
    dsimp only at hf
    rcases r_25 with E | _u
    · try dsimp only at hf
      cases hf
      exact k_callVvx C (x5_condition C.2.2.2.2.2.2.2.2.2.1 hrec hq hq_24 rfl) cm5_73 ok5_condition ⟨by omega, by have := nK_v; omega⟩ 2 rfl rfl rfl rfl (Nat.le_of_ble_eq_true rfl) dX5_statement_88 (K.2 _ rfl)
    try dsimp only at hf
    refine k_callVv C (c5_condition C.2.2.2.2.2.2.2.2.2.1 hrec hq hq_24 rfl) cm5_73 ok5_condition ⟨by omega, by have := nK_v; omega⟩ 2 rfl rfl rfl rfl (Nat.le_of_ble_eq_true rfl) dX5_statement_88 ?_
    refine k_aload_n C dX5_statement_91 1 rfl ?_
    refine k_bipush (v := (8 : Int32)) C dX5_statement_92 (by decide) ?_
    refine k_iconst (v := (0 : Int32)) C dX5_statement_94 (by decide) ?_
    obtain ⟨⟨r_33, ra_at_34, ⟨cs_cw_35, cs_ce_36, cs_cn_37, cs_cj_38, cs_cz_39⟩⟩, hq_32, hf⟩ := ob_el hf
    dsimp only at hf
    rcases r_33 with E | _u
    · try dsimp only at hf
      cases hf
      exact k_callVvx C (x5_endPlain C.2.2.2.2.2.2.2.2.2.1 hq hq_32 rfl) cm5_76 ok5_endPlain ⟨by omega, by have := nK_v; omega⟩ 2 rfl rfl rfl rfl (Nat.le_of_ble_eq_true rfl) dX5_statement_95 (K.2 _ rfl)
    try dsimp only at hf
    refine k_callVv C (c5_endPlain C.2.2.2.2.2.2.2.2.2.1 hq hq_32 rfl) cm5_76 ok5_endPlain ⟨by omega, by have := nK_v; omega⟩ 2 rfl rfl rfl rfl (Nat.le_of_ble_eq_true rfl) dX5_statement_95 ?_
    refine k_goto C 131 dX5_statement_98 (by decide) ?_
    refine k_aload_n C dX5_statement_131 1 rfl ?_
    refine g5_25 C dX5_statement_132 ?_
    refine k_iload_n C dX5_statement_135 0 rfl ?_
    obtain ⟨⟨cs_cw_41, cs_ce_42, cs_cn_43, cs_cj_44, cs_cz_45⟩, hq_40, hf⟩ := ob_el hf
    dsimp only at hf
    refine k_callCv C hq (c0_jumpHere C.2.2.2.2.2.2.2.2.2.1 hq hq_40) cm5_86 ok0_jumpHere ⟨by omega, by have := nK_v; omega⟩ rfl rfl (Nat.le_of_ble_eq_true rfl) dX5_statement_136 ?_
    cases hf
    exact K.1 _ rfl _ _ dX5_statement_139
  replace hf := (if_neg hc).symm.trans hf
  have hn33 : ¬ r_9.toInt = 33 := sw_ne hc 33 (by decide)
  have hm33 : ¬ 33 = r_9.toInt := fun h => hn33 h.symm
  by_cases hc : r_9 = (63 : Int32)
  · replace hf := (if_pos hc).symm.trans hf
    refine k_lookup (off := 42) C 60 dX5_statement_18 (by decide) (by rw [hx0 _ hc]; decide) (by decide) ?_
    refine k_aload_n C dX5_statement_60 1 rfl ?_
    refine k_iload_n C dX5_statement_61 2 rfl ?_
    obtain ⟨⟨r_47, ra_at_48, ⟨cs_cw_49, cs_ce_50, cs_cn_51, cs_cj_52, cs_cz_53⟩⟩, hq_46, hf⟩ := ob_el hf
    dsimp only at hf
    rcases r_47 with E | _u
    · try dsimp only at hf
      cases hf
      exact k_callVvx C (x5_branch C.2.2.2.2.2.2.2.2.2.1 hrec hq hq_46 rfl) cm5_67 ok5_branch ⟨by omega, by have := nK_v; omega⟩ 2 rfl rfl rfl rfl (Nat.le_of_ble_eq_true rfl) dX5_statement_62 (K.2 _ rfl)
    try dsimp only at hf
    refine k_callVv C (c5_branch C.2.2.2.2.2.2.2.2.2.1 hrec hq hq_46 rfl) cm5_67 ok5_branch ⟨by omega, by have := nK_v; omega⟩ 2 rfl rfl rfl rfl (Nat.le_of_ble_eq_true rfl) dX5_statement_62 ?_
    refine k_goto C 131 dX5_statement_65 (by decide) ?_
    refine k_aload_n C dX5_statement_131 1 rfl ?_
    refine g5_25 C dX5_statement_132 ?_
    refine k_iload_n C dX5_statement_135 0 rfl ?_
    obtain ⟨⟨cs_cw_55, cs_ce_56, cs_cn_57, cs_cj_58, cs_cz_59⟩, hq_54, hf⟩ := ob_el hf
    dsimp only at hf
    refine k_callCv C hq (c0_jumpHere C.2.2.2.2.2.2.2.2.2.1 hq hq_54) cm5_86 ok0_jumpHere ⟨by omega, by have := nK_v; omega⟩ rfl rfl (Nat.le_of_ble_eq_true rfl) dX5_statement_136 ?_
    cases hf
    exact K.1 _ rfl _ _ dX5_statement_139
  replace hf := (if_neg hc).symm.trans hf
  have hn63 : ¬ r_9.toInt = 63 := sw_ne hc 63 (by decide)
  have hm63 : ¬ 63 = r_9.toInt := fun h => hn63 h.symm
  by_cases hc : r_9 = (64 : Int32)
  · replace hf := (if_pos hc).symm.trans hf
    refine k_lookup (off := 50) C 68 dX5_statement_18 (by decide) (by rw [hx0 _ hc]; decide) (by decide) ?_
    refine k_aload_n C dX5_statement_68 1 rfl ?_
    refine k_iload_n C dX5_statement_69 2 rfl ?_
    obtain ⟨⟨r_61, ra_at_62, ⟨cs_cw_63, cs_ce_64, cs_cn_65, cs_cj_66, cs_cz_67⟩⟩, hq_60, hf⟩ := ob_el hf
    dsimp only at hf
    rcases r_61 with E | _u
    · try dsimp only at hf
      cases hf
      exact k_callVvx C (x5_loop C.2.2.2.2.2.2.2.2.2.1 hrec hq hq_60 rfl) cm5_70 ok5_loop ⟨by omega, by have := nK_v; omega⟩ 2 rfl rfl rfl rfl (Nat.le_of_ble_eq_true rfl) dX5_statement_70 (K.2 _ rfl)
    try dsimp only at hf
    refine k_callVv C (c5_loop C.2.2.2.2.2.2.2.2.2.1 hrec hq hq_60 rfl) cm5_70 ok5_loop ⟨by omega, by have := nK_v; omega⟩ 2 rfl rfl rfl rfl (Nat.le_of_ble_eq_true rfl) dX5_statement_70 ?_
    refine k_goto C 131 dX5_statement_73 (by decide) ?_
    refine k_aload_n C dX5_statement_131 1 rfl ?_
    refine g5_25 C dX5_statement_132 ?_
    refine k_iload_n C dX5_statement_135 0 rfl ?_
    obtain ⟨⟨cs_cw_69, cs_ce_70, cs_cn_71, cs_cj_72, cs_cz_73⟩, hq_68, hf⟩ := ob_el hf
    dsimp only at hf
    refine k_callCv C hq (c0_jumpHere C.2.2.2.2.2.2.2.2.2.1 hq hq_68) cm5_86 ok0_jumpHere ⟨by omega, by have := nK_v; omega⟩ rfl rfl (Nat.le_of_ble_eq_true rfl) dX5_statement_136 ?_
    cases hf
    exact K.1 _ rfl _ _ dX5_statement_139
  replace hf := (if_neg hc).symm.trans hf
  have hn64 : ¬ r_9.toInt = 64 := sw_ne hc 64 (by decide)
  have hm64 : ¬ 64 = r_9.toInt := fun h => hn64 h.symm
  by_cases hc : r_9 = (94 : Int32)
  · replace hf := (if_pos hc).symm.trans hf
    refine k_lookup (off := 83) C 101 dX5_statement_18 (by decide) (by rw [hx0 _ hc]; decide) (by decide) ?_
    refine k_aload_n C dX5_statement_101 1 rfl ?_
    refine k_dup C dX5_statement_102 rfl ?_
    refine g5_19 C dX5_statement_103 ?_
    refine k_iconst (v := (1 : Int32)) C dX5_statement_106 (by decide) ?_
    refine k_iadd C dX5_statement_107 ?_
    refine p5_19 C dX5_statement_108 ?_
    refine k_aload_n C dX5_statement_111 1 rfl ?_
    refine k_iload_n C dX5_statement_112 2 rfl ?_
    obtain ⟨⟨r_75, ra_at_76, ⟨cs_cw_77, cs_ce_78, cs_cn_79, cs_cj_80, cs_cz_81⟩⟩, hq_74, hf⟩ := ob_el hf
    dsimp only at hf
    rcases r_75 with E | _u
    · try dsimp only at hf
      cases hf
      exact k_callVvx C (x5_expression C.2.2.2.2.2.2.2.2.2.1 hrec hq hq_74 rfl) cm5_80 ok5_expression ⟨by omega, by have := nK_v; omega⟩ 2 rfl rfl rfl rfl (Nat.le_of_ble_eq_true rfl) dX5_statement_113 (K.2 _ rfl)
    try dsimp only at hf
    refine k_callVv C (c5_expression C.2.2.2.2.2.2.2.2.2.1 hrec hq hq_74 rfl) cm5_80 ok5_expression ⟨by omega, by have := nK_v; omega⟩ 2 rfl rfl rfl rfl (Nat.le_of_ble_eq_true rfl) dX5_statement_113 ?_
    refine k_aload_n C dX5_statement_116 1 rfl ?_
    refine k_bipush (v := (9 : Int32)) C dX5_statement_117 (by decide) ?_
    refine k_iconst (v := (0 : Int32)) C dX5_statement_119 (by decide) ?_
    obtain ⟨⟨r_83, ra_at_84, ⟨cs_cw_85, cs_ce_86, cs_cn_87, cs_cj_88, cs_cz_89⟩⟩, hq_82, hf⟩ := ob_el hf
    dsimp only at hf
    rcases r_83 with E | _u
    · try dsimp only at hf
      cases hf
      exact k_callVvx C (x5_endPlain C.2.2.2.2.2.2.2.2.2.1 hq hq_82 rfl) cm5_76 ok5_endPlain ⟨by omega, by have := nK_v; omega⟩ 2 rfl rfl rfl rfl (Nat.le_of_ble_eq_true rfl) dX5_statement_120 (K.2 _ rfl)
    try dsimp only at hf
    refine k_callVv C (c5_endPlain C.2.2.2.2.2.2.2.2.2.1 hq hq_82 rfl) cm5_76 ok5_endPlain ⟨by omega, by have := nK_v; omega⟩ 2 rfl rfl rfl rfl (Nat.le_of_ble_eq_true rfl) dX5_statement_120 ?_
    refine k_goto C 131 dX5_statement_123 (by decide) ?_
    refine k_aload_n C dX5_statement_131 1 rfl ?_
    refine g5_25 C dX5_statement_132 ?_
    refine k_iload_n C dX5_statement_135 0 rfl ?_
    obtain ⟨⟨cs_cw_91, cs_ce_92, cs_cn_93, cs_cj_94, cs_cz_95⟩, hq_90, hf⟩ := ob_el hf
    dsimp only at hf
    refine k_callCv C hq (c0_jumpHere C.2.2.2.2.2.2.2.2.2.1 hq hq_90) cm5_86 ok0_jumpHere ⟨by omega, by have := nK_v; omega⟩ rfl rfl (Nat.le_of_ble_eq_true rfl) dX5_statement_136 ?_
    cases hf
    exact K.1 _ rfl _ _ dX5_statement_139
  replace hf := (if_neg hc).symm.trans hf
  have hn94 : ¬ r_9.toInt = 94 := sw_ne hc 94 (by decide)
  have hm94 : ¬ 94 = r_9.toInt := fun h => hn94 h.symm
  refine k_lookup (x := r_9) (off := 108) C 126 dX5_statement_18 (by decide) (by simp [Op.lookupswitch.offset, hn33, hm33, hn63, hm63, hn64, hm64, hn94, hm94]) (by decide) ?_
  refine k_aload_n C dX5_statement_126 1 rfl ?_
  refine k_iload_n C dX5_statement_127 2 rfl ?_
  obtain ⟨⟨r_11, ra_at_12, ⟨cs_cw_13, cs_ce_14, cs_cn_15, cs_cj_16, cs_cz_17⟩⟩, hq_10, hf⟩ := ob_el hf
  dsimp only at hf
  rcases r_11 with E | _u
  · try dsimp only at hf
    cases hf
    exact k_callVvx C (x5_assignment C.2.2.2.2.2.2.2.2.2.1 hrec hq hq_10 rfl) cm5_83 ok5_assignment ⟨by omega, by have := nK_v; omega⟩ 2 rfl rfl rfl rfl (Nat.le_of_ble_eq_true rfl) dX5_statement_128 (K.2 _ rfl)
  try dsimp only at hf
  refine k_callVv C (c5_assignment C.2.2.2.2.2.2.2.2.2.1 hrec hq hq_10 rfl) cm5_83 ok5_assignment ⟨by omega, by have := nK_v; omega⟩ 2 rfl rfl rfl rfl (Nat.le_of_ble_eq_true rfl) dX5_statement_128 ?_
  refine k_aload_n C dX5_statement_131 1 rfl ?_
  refine g5_25 C dX5_statement_132 ?_
  refine k_iload_n C dX5_statement_135 0 rfl ?_
  obtain ⟨⟨cs_cw_19, cs_ce_20, cs_cn_21, cs_cj_22, cs_cz_23⟩, hq_18, hf⟩ := ob_el hf
  dsimp only at hf
  refine k_callCv C hq (c0_jumpHere C.2.2.2.2.2.2.2.2.2.1 hq hq_18) cm5_86 ok0_jumpHere ⟨by omega, by have := nK_v; omega⟩ rfl rfl (Nat.le_of_ble_eq_true rfl) dX5_statement_136 ?_
  cases hf
  exact K.1 _ rfl _ _ dX5_statement_139
theorem c5_statement {V : EV} {l : Launch} (hl0 : l.stackTraces = false) {ad : Nat → Nat} {co : Nat → CoS} {mu : MuS} {fo : FoS} {tr : TrS} {ma : MaS} {mq : Nat} {mx : MxS} {top_tx : Nat → Int32} {top_ln : Int32} {top_cp : Int32} {top_cq : Nat} {top_sq : Nat} {top_fu : Int32} {top_lv : Int32} {top_lt : Int32} {rd_t0 : Nat → Int32} {rd_rl : Int32} {rd_rq : Nat} {v1 : Int32} {ra_at : Int32} {cs_cw : Nat → Int32} {cs_ce : Nat → Int32} {cs_cn : Nat → Int32} {cs_cj : Nat → Int32} {cs_cz : Int32} {N : Nat} {res : Except String Unit × Int32 × CoS} {rec : RecT} {F G : Nat} (hrec : RECOK V l F G rec) (hq : rd_rq < 4) (hf : f5_statement rec N v1 (top_tx, top_ln, top_cp, top_cq, top_sq, top_fu, top_lv, top_lt) (rd_t0, 1, rd_rl, rd_rq) ra_at (cs_cw, cs_ce, cs_cn, cs_cj, cs_cz) = some res) {v : Unit} (hv : res.1 = .ok v) : MV V l yX5_statement cX5_statement 3 (F + 20) (G + 597) [.ref (ad 2), .int v1] (wC V ad (top_tx, top_ln, top_cp, top_cq, top_sq, top_fu, top_lv, top_lt) (rd_t0, 1, rd_rl, rd_rq) ra_at (updC co rd_rq (cs_cw, cs_ce, cs_cn, cs_cj, cs_cz)) mu fo tr ma mq mx) (wC V ad (top_tx, top_ln, top_cp, top_cq, top_sq, top_fu, top_lv, top_lt) (rd_t0, 1, rd_rl, rd_rq) res.2.1 (updC co rd_rq res.2.2) mu fo tr ma mq mx) :=
  mv_of hl0 (by decide +kernel) (Nat.le_of_ble_eq_true rfl) (fun p e R s m args below meth c Q A C K => b5_statement C hq hrec hf ⟨fun v' h' => (by cases hv.symm.trans h'; exact K), fun E h' => (by cases hv.symm.trans h')⟩)
theorem x5_statement {V : EV} {l : Launch} (hl0 : l.stackTraces = false) {ad : Nat → Nat} {co : Nat → CoS} {mu : MuS} {fo : FoS} {tr : TrS} {ma : MaS} {mq : Nat} {mx : MxS} {top_tx : Nat → Int32} {top_ln : Int32} {top_cp : Int32} {top_cq : Nat} {top_sq : Nat} {top_fu : Int32} {top_lv : Int32} {top_lt : Int32} {rd_t0 : Nat → Int32} {rd_rl : Int32} {rd_rq : Nat} {v1 : Int32} {ra_at : Int32} {cs_cw : Nat → Int32} {cs_ce : Nat → Int32} {cs_cn : Nat → Int32} {cs_cj : Nat → Int32} {cs_cz : Int32} {N : Nat} {res : Except String Unit × Int32 × CoS} {rec : RecT} {F G : Nat} (hrec : RECOK V l F G rec) (hq : rd_rq < 4) (hf : f5_statement rec N v1 (top_tx, top_ln, top_cp, top_cq, top_sq, top_fu, top_lv, top_lt) (rd_t0, 1, rd_rl, rd_rq) ra_at (cs_cw, cs_ce, cs_cn, cs_cj, cs_cz) = some res) {E : String} (hv : res.1 = .error E) : TV V l yX5_statement cX5_statement 3 (F + 20) (G + 597) [.ref (ad 2), .int v1] (wC V ad (top_tx, top_ln, top_cp, top_cq, top_sq, top_fu, top_lv, top_lt) (rd_t0, 1, rd_rl, rd_rq) ra_at (updC co rd_rq (cs_cw, cs_ce, cs_cn, cs_cj, cs_cz)) mu fo tr ma mq mx) E (wC V ad (top_tx, top_ln, top_cp, top_cq, top_sq, top_fu, top_lv, top_lt) (rd_t0, 1, rd_rl, rd_rq) res.2.1 (updC co rd_rq res.2.2) mu fo tr ma mq mx) :=
  tv_of hl0 (by decide +kernel) (Nat.le_of_ble_eq_true rfl) (fun p e R s m args below meth c Q A C K => b5_statement C hq hrec hf ⟨fun v' h' => (by cases hv.symm.trans h'), fun E' h' => (by cases hv.symm.trans h'; exact K)⟩)

theorem cm5_60 : ∀ a ∈ wsCV RX5 60 RX5 yX5_statement cX5_statement 3 none, a ∈ GW := by
  unfold wsCV
  exact (List.forall_mem_cons.mpr ⟨(gw_2 (i := 106) (by decide +kernel) rfl), (List.forall_mem_cons.mpr ⟨(gw_2 (i := 108) (by decide +kernel) rfl), (List.forall_mem_cons.mpr ⟨(gw_p (q := ((yX5_statement, 4) : MethodName × Nat)) (List.mem_append_left _ (List.mem_of_getElem? (i := 2) (by decide +kernel))) rfl), (List.forall_mem_cons.mpr ⟨(gw_1 (i := 2) (by decide +kernel) rfl), (List.forall_mem_cons.mpr ⟨(gw_2 (i := 109) (by decide +kernel) rfl), (List.forall_mem_nil _)⟩)⟩)⟩)⟩)⟩)
def f5_row_L2 (k39 : Int32 → CoS → Option (Except String Unit × Int32 × CoS)) (N : Nat) (rec : RecT) (top_tx : Nat → Int32) (top_ln : Int32) (top_cp : Int32) (top_cq : Nat) (top_sq : Nat) (top_fu : Int32) (top_lv : Int32) (top_lt : Int32) (rd_t0 : Nat → Int32) (rd_rt : Nat) (rd_rl : Int32) (rd_rq : Nat) : Nat → Int32 → Int32 → Int32 → CoS → Option (Except String Unit × Int32 × CoS)
  | 0, _, _, _, _ => none
  | n + 1, x1, x2, ra_at, (cs_cw, cs_ce, cs_cn, cs_cj, cs_cz) =>
    if (60 : Int32) ≤ x2 then k39 ra_at (cs_cw, cs_ce, cs_cn, cs_cj, cs_cz) else if rd_rl ≤ ra_at then k39 ra_at (cs_cw, cs_ce, cs_cn, cs_cj, cs_cz) else (f5_next (top_tx, top_ln, top_cp, top_cq, top_sq, top_fu, top_lv, top_lt) (rd_t0, 1, rd_rl, rd_rq) ra_at).bind fun r_2 => if r_2 = (125 : Int32) then k39 ra_at (cs_cw, cs_ce, cs_cn, cs_cj, cs_cz) else (f5_statement rec N x1 (top_tx, top_ln, top_cp, top_cq, top_sq, top_fu, top_lv, top_lt) (rd_t0, 1, rd_rl, rd_rq) ra_at (cs_cw, cs_ce, cs_cn, cs_cj, cs_cz)).bind fun (r_4, ra_at_5, (cs_cw_6, cs_ce_7, cs_cn_8, cs_cj_9, cs_cz_10)) => match r_4 with | .error E => some ((.error E), ra_at_5, (cs_cw_6, cs_ce_7, cs_cn_8, cs_cj_9, cs_cz_10)) | .ok _ => nm_v (x2 + (1 : Int32)) (fun v2_11 => f5_row_L2 k39 N rec top_tx top_ln top_cp top_cq top_sq top_fu top_lv top_lt rd_t0 rd_rt rd_rl rd_rq n x1 v2_11 ra_at_5 (cs_cw_6, cs_ce_7, cs_cn_8, cs_cj_9, cs_cz_10))
def f5_row (rec : RecT) (N : Nat) (v1 : Int32) : TopS → RdS → Int32 → CoS → Option (Except String Unit × Int32 × CoS)
  | (top_tx, top_ln, top_cp, top_cq, top_sq, top_fu, top_lv, top_lt), (rd_t0, rd_rt, rd_rl, rd_rq), ra_at, (cs_cw, cs_ce, cs_cn, cs_cj, cs_cz) =>
    f5_row_L2 (fun ra_at_12 (cs_cw_12, cs_ce_12, cs_cn_12, cs_cj_12, cs_cz_12) => some ((.ok ()), ra_at_12, (cs_cw_12, cs_ce_12, cs_cn_12, cs_cj_12, cs_cz_12))) N rec top_tx top_ln top_cp top_cq top_sq top_fu top_lv top_lt rd_t0 rd_rt rd_rl rd_rq N v1 (0 : Int32) ra_at (cs_cw, cs_ce, cs_cn, cs_cj, cs_cz)
set_option maxHeartbeats 4000000 in
set_option maxRecDepth 100000 in
theorem w5_row_L2 {V : EV} {p : Program} {l : Launch} {e : Env} {R : Room} {s : State} {m : MethodId} {args : Array Value} {below : List Frame} {meth : Method} {c : Code} {Q : State → Prop} {A : Nat → Prop} {kc ks : Nat} {ad : Nat → Nat} {co : Nat → CoS} {mu : MuS} {fo : FoS} {tr : TrS} {ma : MaS} {mq : Nat} {mx : MxS} {top_tx : Nat → Int32} {top_ln : Int32} {top_cp : Int32} {top_cq : Nat} {top_sq : Nat} {top_fu : Int32} {top_lv : Int32} {top_lt : Int32} {rd_t0 : Nat → Int32} {rd_rl : Int32} {rd_rq : Nat} {rec : RecT} {F G : Nat} {k39 : Int32 → CoS → Option (Except String Unit × Int32 × CoS)} {N : Nat} {res : Except String Unit × Int32 × CoS} (C : CX V p l R s m args c A kc ks RX5 cX5_row 3 (F + 21) (G + 619)) (hq : rd_rq < 4) (hrec : RECOK V l F G rec) (K : (∀ v : Unit, res.1 = .ok v → RV V p l e R s m args below meth c Q A kc ks 3 cX5_row (wC V ad (top_tx, top_ln, top_cp, top_cq, top_sq, top_fu, top_lv, top_lt) (rd_t0, 1, rd_rl, rd_rq) res.2.1 (updC co rd_rq res.2.2) mu fo tr ma mq mx)) ∧ ∀ E : String, res.1 = .error E → XE V p l e R s m args below meth c Q A kc ks 3 RX5 cX5_row E (wC V ad (top_tx, top_ln, top_cp, top_cq, top_sq, top_fu, top_lv, top_lt) (rd_t0, 1, rd_rl, rd_rq) res.2.1 (updC co rd_rq res.2.2) mu fo tr ma mq mx)) (hk39 : ∀  (ra_at : Int32) (cs_cw : Nat → Int32) (cs_ce : Nat → Int32) (cs_cn : Nat → Int32) (cs_cj : Nat → Int32) (cs_cz : Int32), k39 ra_at (cs_cw, cs_ce, cs_cn, cs_cj, cs_cz) = some res → WC V p l e R s m args below meth c Q A kc ks 3 (wC V ad (top_tx, top_ln, top_cp, top_cq, top_sq, top_fu, top_lv, top_lt) (rd_t0, 1, rd_rl, rd_rq) ra_at (updC co rd_rq (cs_cw, cs_ce, cs_cn, cs_cj, cs_cz)) mu fo tr ma mq mx) 39 [] []) : ∀ (n : Nat) (x1 : Int32) (x2 : Int32) (ra_at : Int32) (cs_cw : Nat → Int32) (cs_ce : Nat → Int32) (cs_cn : Nat → Int32) (cs_cj : Nat → Int32) (cs_cz : Int32), f5_row_L2 k39 N rec top_tx top_ln top_cp top_cq top_sq top_fu top_lv top_lt rd_t0 1 rd_rl rd_rq n x1 x2 ra_at (cs_cw, cs_ce, cs_cn, cs_cj, cs_cz) = some res → WC V p l e R s m args below meth c Q A kc ks 3 (wC V ad (top_tx, top_ln, top_cp, top_cq, top_sq, top_fu, top_lv, top_lt) (rd_t0, 1, rd_rl, rd_rq) ra_at (updC co rd_rq (cs_cw, cs_ce, cs_cn, cs_cj, cs_cz)) mu fo tr ma mq mx) 2 [(0, .ref (ad 2)), (1, .int x1), (2, .int x2)] [] := by
  intro n
  induction n with
  | zero => intro _ _ _ _ _ _ _ _ hf; exact nomatch (show none = some res from hf)
  | succ n ih =>
    intro x1 x2 ra_at cs_cw cs_ce cs_cn cs_cj cs_cz hf
    rw [f5_row_L2] at hf
    refine k_iload_n C dX5_row_2 2 rfl ?_
    refine k_bipush (v := (60 : Int32)) C dX5_row_3 (by decide) ?_
    refine k_icmp_ge C 39 dX5_row_5 (by decide) (fun hc => ?_) (fun hc => ?_)
    · replace hf := (if_pos hc).symm.trans hf
      refine k_sub [] (L' := []) rfl ?_
      exact hk39 _ _ _ _ _ _ hf
    · replace hf := (if_neg hc).symm.trans hf
      refine k_aload_n C dX5_row_8 0 rfl ?_
      refine g5_19 C dX5_row_9 ?_
      refine k_aload_n C dX5_row_12 0 rfl ?_
      refine g5_15 C dX5_row_13 ?_
      refine k_icmp_ge C 39 dX5_row_16 (by decide) (fun hc => ?_) (fun hc => ?_)
      · replace hf := (if_pos hc).symm.trans hf
        refine k_sub [] (L' := []) rfl ?_
        exact hk39 _ _ _ _ _ _ hf
      · replace hf := (if_neg hc).symm.trans hf
        refine k_aload_n C dX5_row_19 0 rfl ?_
        obtain ⟨r_2, hq_1, hf⟩ := ob_el hf
        refine k_callVi C (c5_next C.2.2.2.2.2.2.2.2.2.1 hq_1) cm5_46 ok5_next ⟨by omega, by have := nK_v; omega⟩ 2 rfl rfl rfl rfl (Nat.le_of_ble_eq_true rfl) dX5_row_20 ?_
        refine k_bipush (v := (125 : Int32)) C dX5_row_23 (by decide) ?_
        refine k_icmp_eq C 39 dX5_row_25 (by decide) (fun hc => ?_) (fun hc => ?_)
        · replace hf := (if_pos hc).symm.trans hf
          refine k_sub [] (L' := []) rfl ?_
          exact hk39 _ _ _ _ _ _ hf
        · replace hf := (if_neg hc).symm.trans hf
          refine k_aload_n C dX5_row_28 0 rfl ?_
          refine k_iload_n C dX5_row_29 1 rfl ?_
          obtain ⟨⟨r_4, ra_at_5, ⟨cs_cw_6, cs_ce_7, cs_cn_8, cs_cj_9, cs_cz_10⟩⟩, hq_3, hf⟩ := ob_el hf
          dsimp only at hf
          rcases r_4 with E | _u
          · try dsimp only at hf
            cases hf
            exact k_callVvx C (x5_statement C.2.2.2.2.2.2.2.2.2.1 hrec hq hq_3 rfl) cm5_60 ok5_statement ⟨by omega, by have := nK_v; omega⟩ 2 rfl rfl rfl rfl (Nat.le_of_ble_eq_true rfl) dX5_row_30 (K.2 _ rfl)
          try dsimp only at hf
          refine k_callVv C (c5_statement C.2.2.2.2.2.2.2.2.2.1 hrec hq hq_3 rfl) cm5_60 ok5_statement ⟨by omega, by have := nK_v; omega⟩ 2 rfl rfl rfl rfl (Nat.le_of_ble_eq_true rfl) dX5_row_30 ?_
          obtain ⟨v2_11, ev2_11⟩ : ∃ y : Int32, y = x2 + (1 : Int32) := ⟨_, rfl⟩
          replace hf := nm_el hf ev2_11
          refine k_iinc (v := v2_11) C dX5_row_33 2 rfl (by rw [ev2_11]; rfl) [(2, .int v2_11), (0, .ref (ad 2)), (1, .int x1)] (by decide) rfl ?_
          refine k_goto C 2 dX5_row_36 (by decide) ?_
          refine k_sub [1, 2, 0] (L' := [(0, .ref (ad 2)), (1, .int x1), (2, .int v2_11)]) rfl ?_
          exact ih _ _ _ _ _ _ _ _ hf
set_option maxHeartbeats 4000000 in
set_option maxRecDepth 100000 in
theorem b5_row {V : EV} {p : Program} {l : Launch} {e : Env} {R : Room} {s : State} {m : MethodId} {args : Array Value} {below : List Frame} {meth : Method} {c : Code} {Q : State → Prop} {A : Nat → Prop} {kc ks : Nat} {ad : Nat → Nat} {co : Nat → CoS} {mu : MuS} {fo : FoS} {tr : TrS} {ma : MaS} {mq : Nat} {mx : MxS} {top_tx : Nat → Int32} {top_ln : Int32} {top_cp : Int32} {top_cq : Nat} {top_sq : Nat} {top_fu : Int32} {top_lv : Int32} {top_lt : Int32} {rd_t0 : Nat → Int32} {rd_rl : Int32} {rd_rq : Nat} {rec : RecT} {F G : Nat} {v1 : Int32} {ra_at : Int32} {cs_cw : Nat → Int32} {cs_ce : Nat → Int32} {cs_cn : Nat → Int32} {cs_cj : Nat → Int32} {cs_cz : Int32} {N : Nat} {res : Except String Unit × Int32 × CoS} (C : CX V p l R s m args c A kc ks RX5 cX5_row 3 (F + 21) (G + 619)) (hq : rd_rq < 4) (hrec : RECOK V l F G rec) (hf : f5_row rec N v1 (top_tx, top_ln, top_cp, top_cq, top_sq, top_fu, top_lv, top_lt) (rd_t0, 1, rd_rl, rd_rq) ra_at (cs_cw, cs_ce, cs_cn, cs_cj, cs_cz) = some res) (K : (∀ v : Unit, res.1 = .ok v → RV V p l e R s m args below meth c Q A kc ks 3 cX5_row (wC V ad (top_tx, top_ln, top_cp, top_cq, top_sq, top_fu, top_lv, top_lt) (rd_t0, 1, rd_rl, rd_rq) res.2.1 (updC co rd_rq res.2.2) mu fo tr ma mq mx)) ∧ ∀ E : String, res.1 = .error E → XE V p l e R s m args below meth c Q A kc ks 3 RX5 cX5_row E (wC V ad (top_tx, top_ln, top_cp, top_cq, top_sq, top_fu, top_lv, top_lt) (rd_t0, 1, rd_rl, rd_rq) res.2.1 (updC co rd_rq res.2.2) mu fo tr ma mq mx)) : WC V p l e R s m args below meth c Q A kc ks 3 (wC V ad (top_tx, top_ln, top_cp, top_cq, top_sq, top_fu, top_lv, top_lt) (rd_t0, 1, rd_rl, rd_rq) ra_at (updC co rd_rq (cs_cw, cs_ce, cs_cn, cs_cj, cs_cz)) mu fo tr ma mq mx) 0 [(0, .ref (ad 2)), (1, .int v1)] [] := by
  rw [f5_row] at hf
  refine k_iconst (v := (0 : Int32)) C dX5_row_0 (by decide) ?_
  refine k_istore_n C dX5_row_1 [(2, .int (0 : Int32)), (0, .ref (ad 2)), (1, .int v1)] (by decide) rfl ?_
  refine k_sub [1, 2, 0] (L' := [(0, .ref (ad 2)), (1, .int v1), (2, .int (0 : Int32))]) rfl ?_
  refine w5_row_L2 C hq hrec K ?_ _ _ _ _ _ _ _ _ _ hf
  · intro ra_at_12 cs_cw_12 cs_ce_12 cs_cn_12 cs_cj_12 cs_cz_12 hf
    try dsimp only at hf
    cases hf
    exact K.1 _ rfl _ _ dX5_row_39
theorem c5_row {V : EV} {l : Launch} (hl0 : l.stackTraces = false) {ad : Nat → Nat} {co : Nat → CoS} {mu : MuS} {fo : FoS} {tr : TrS} {ma : MaS} {mq : Nat} {mx : MxS} {top_tx : Nat → Int32} {top_ln : Int32} {top_cp : Int32} {top_cq : Nat} {top_sq : Nat} {top_fu : Int32} {top_lv : Int32} {top_lt : Int32} {rd_t0 : Nat → Int32} {rd_rl : Int32} {rd_rq : Nat} {v1 : Int32} {ra_at : Int32} {cs_cw : Nat → Int32} {cs_ce : Nat → Int32} {cs_cn : Nat → Int32} {cs_cj : Nat → Int32} {cs_cz : Int32} {N : Nat} {res : Except String Unit × Int32 × CoS} {rec : RecT} {F G : Nat} (hrec : RECOK V l F G rec) (hq : rd_rq < 4) (hf : f5_row rec N v1 (top_tx, top_ln, top_cp, top_cq, top_sq, top_fu, top_lv, top_lt) (rd_t0, 1, rd_rl, rd_rq) ra_at (cs_cw, cs_ce, cs_cn, cs_cj, cs_cz) = some res) {v : Unit} (hv : res.1 = .ok v) : MV V l yX5_row cX5_row 3 (F + 21) (G + 619) [.ref (ad 2), .int v1] (wC V ad (top_tx, top_ln, top_cp, top_cq, top_sq, top_fu, top_lv, top_lt) (rd_t0, 1, rd_rl, rd_rq) ra_at (updC co rd_rq (cs_cw, cs_ce, cs_cn, cs_cj, cs_cz)) mu fo tr ma mq mx) (wC V ad (top_tx, top_ln, top_cp, top_cq, top_sq, top_fu, top_lv, top_lt) (rd_t0, 1, rd_rl, rd_rq) res.2.1 (updC co rd_rq res.2.2) mu fo tr ma mq mx) :=
  mv_of hl0 (by decide +kernel) (Nat.le_of_ble_eq_true rfl) (fun p e R s m args below meth c Q A C K => b5_row C hq hrec hf ⟨fun v' h' => (by cases hv.symm.trans h'; exact K), fun E h' => (by cases hv.symm.trans h')⟩)
theorem x5_row {V : EV} {l : Launch} (hl0 : l.stackTraces = false) {ad : Nat → Nat} {co : Nat → CoS} {mu : MuS} {fo : FoS} {tr : TrS} {ma : MaS} {mq : Nat} {mx : MxS} {top_tx : Nat → Int32} {top_ln : Int32} {top_cp : Int32} {top_cq : Nat} {top_sq : Nat} {top_fu : Int32} {top_lv : Int32} {top_lt : Int32} {rd_t0 : Nat → Int32} {rd_rl : Int32} {rd_rq : Nat} {v1 : Int32} {ra_at : Int32} {cs_cw : Nat → Int32} {cs_ce : Nat → Int32} {cs_cn : Nat → Int32} {cs_cj : Nat → Int32} {cs_cz : Int32} {N : Nat} {res : Except String Unit × Int32 × CoS} {rec : RecT} {F G : Nat} (hrec : RECOK V l F G rec) (hq : rd_rq < 4) (hf : f5_row rec N v1 (top_tx, top_ln, top_cp, top_cq, top_sq, top_fu, top_lv, top_lt) (rd_t0, 1, rd_rl, rd_rq) ra_at (cs_cw, cs_ce, cs_cn, cs_cj, cs_cz) = some res) {E : String} (hv : res.1 = .error E) : TV V l yX5_row cX5_row 3 (F + 21) (G + 619) [.ref (ad 2), .int v1] (wC V ad (top_tx, top_ln, top_cp, top_cq, top_sq, top_fu, top_lv, top_lt) (rd_t0, 1, rd_rl, rd_rq) ra_at (updC co rd_rq (cs_cw, cs_ce, cs_cn, cs_cj, cs_cz)) mu fo tr ma mq mx) E (wC V ad (top_tx, top_ln, top_cp, top_cq, top_sq, top_fu, top_lv, top_lt) (rd_t0, 1, rd_rl, rd_rq) res.2.1 (updC co rd_rq res.2.2) mu fo tr ma mq mx) :=
  tv_of hl0 (by decide +kernel) (Nat.le_of_ble_eq_true rfl) (fun p e R s m args below meth c Q A C K => b5_row C hq hrec hf ⟨fun v' h' => (by cases hv.symm.trans h'), fun E' h' => (by cases hv.symm.trans h'; exact K)⟩)

