theorem ok8_peek : okCV RX8 yX8_peek 0 := by unfold okCV; decide +kernel
def f8_peek  : MdT → MdP → Option (Int32)
  | (mT_ty, mT_te), (mP_pa, mP_pd, mP_pf, mP_pi, mP_pr, mP_pb, mP_pF, mP_pS, mP_p0, mP_p1, mP_p2, mP_p3, mP_p4, mP_pI) =>
    if mT_ty ≤ mP_pa then some (0 : Int32) else if mP_pa < 0 ∨ 60 ≤ mP_pa.toNatClampNeg then none else some (mT_te mP_pa.toNatClampNeg)
set_option maxHeartbeats 4000000 in
set_option maxRecDepth 100000 in
theorem b8_peek {V : EV} {p : Program} {l : Launch} {e : Env} {R : Room} {s : State} {m : MethodId} {args : Array Value} {below : List Frame} {meth : Method} {c : Code} {Q : State → Prop} {A : Nat → Prop} {kc ks : Nat} {ad : Nat → Nat} {mQ : MdQ} {mK : MdK} {mN : MdN} {mL : MdL} {mH : MdH} {mR : MdR} {mG : MdG} {mT_ty : Int32} {mT_te : Nat → Int32} {mP_pa : Int32} {mP_pd : Int32} {mP_pf : Int32} {mP_pi : Int32} {mP_pr : Int32} {mP_pb : Int32} {mP_pF : Nat → Int32} {mP_pS : Nat → Int32} {mP_p0 : Nat → Int32} {mP_p1 : Nat → Int32} {mP_p2 : Nat → Int32} {mP_p3 : Nat → Int32} {mP_p4 : Nat → Int32} {mP_pI : Nat → Int32}  {res : Int32} (C : CX V p l R s m args c A kc ks RX8 cX8_peek 1 0 0) (hf : f8_peek (mT_ty, mT_te) (mP_pa, mP_pd, mP_pf, mP_pi, mP_pr, mP_pb, mP_pF, mP_pS, mP_p0, mP_p1, mP_p2, mP_p3, mP_p4, mP_pI) = some res) (K : RI V p l e R s m args below meth c Q A kc ks 1 cX8_peek .int res (wM V ad (mT_ty, mT_te) mQ mK mN (mP_pa, mP_pd, mP_pf, mP_pi, mP_pr, mP_pb, mP_pF, mP_pS, mP_p0, mP_p1, mP_p2, mP_p3, mP_p4, mP_pI) mL mH mR mG)) : WC V p l e R s m args below meth c Q A kc ks 1 (wM V ad (mT_ty, mT_te) mQ mK mN (mP_pa, mP_pd, mP_pf, mP_pi, mP_pr, mP_pb, mP_pF, mP_pS, mP_p0, mP_p1, mP_p2, mP_p3, mP_p4, mP_pI) mL mH mR mG) 0 [(0, .ref (ad 0))] [] := by
  rw [f8_peek] at hf
  refine k_aload_n C dX8_peek_0 0 rfl ?_
  refine g8_132 C dX8_peek_1 ?_
  refine k_aload_n C dX8_peek_4 0 rfl ?_
  refine g8_129 C dX8_peek_5 ?_
  refine k_icmp_ge C 23 dX8_peek_8 (by decide) (fun hc => ?_) (fun hc => ?_)
  · replace hf := (if_pos hc).symm.trans hf
    refine k_iconst (v := (0 : Int32)) C dX8_peek_23 (by decide) ?_
    cases hf
    exact K _ _ dX8_peek_24 rfl
  · replace hf := (if_neg hc).symm.trans hf
    refine k_aload_n C dX8_peek_11 0 rfl ?_
    refine g8_7 C dX8_peek_12 ?_
    refine k_aload_n C dX8_peek_15 0 rfl ?_
    refine g8_132 C dX8_peek_16 ?_
    obtain ⟨hi, hf⟩ := gd_no hf
    refine lm1 C hi dX8_peek_19 ?_
    refine k_goto C 24 dX8_peek_20 (by decide) ?_
    cases hf
    exact K _ _ dX8_peek_24 rfl
theorem c8_peek {V : EV} {l : Launch} (hl0 : l.stackTraces = false) {ad : Nat → Nat} {mQ : MdQ} {mK : MdK} {mN : MdN} {mL : MdL} {mH : MdH} {mR : MdR} {mG : MdG} {mT_ty : Int32} {mT_te : Nat → Int32} {mP_pa : Int32} {mP_pd : Int32} {mP_pf : Int32} {mP_pi : Int32} {mP_pr : Int32} {mP_pb : Int32} {mP_pF : Nat → Int32} {mP_pS : Nat → Int32} {mP_p0 : Nat → Int32} {mP_p1 : Nat → Int32} {mP_p2 : Nat → Int32} {mP_p3 : Nat → Int32} {mP_p4 : Nat → Int32} {mP_pI : Nat → Int32}  {res : Int32} (hf : f8_peek (mT_ty, mT_te) (mP_pa, mP_pd, mP_pf, mP_pi, mP_pr, mP_pb, mP_pF, mP_pS, mP_p0, mP_p1, mP_p2, mP_p3, mP_p4, mP_pI) = some res) : MI V l yX8_peek cX8_peek 1 .int 0 0 [.ref (ad 0)] (wM V ad (mT_ty, mT_te) mQ mK mN (mP_pa, mP_pd, mP_pf, mP_pi, mP_pr, mP_pb, mP_pF, mP_pS, mP_p0, mP_p1, mP_p2, mP_p3, mP_p4, mP_pI) mL mH mR mG) res (wM V ad (mT_ty, mT_te) mQ mK mN (mP_pa, mP_pd, mP_pf, mP_pi, mP_pr, mP_pb, mP_pF, mP_pS, mP_p0, mP_p1, mP_p2, mP_p3, mP_p4, mP_pI) mL mH mR mG) :=
  mi_of hl0 (by decide +kernel) (Nat.le_of_ble_eq_true rfl) (fun p e R s m args below meth c Q A C K => b8_peek C hf K)

theorem cm8_139 : ∀ a ∈ wsCV RX8 139 RX8 yX8_peek cX8_peek 1 (some .int), a ∈ GW := by
  unfold wsCV
  exact (List.forall_mem_cons.mpr ⟨(gw_5 (i := 223) (by decide +kernel) rfl), (List.forall_mem_cons.mpr ⟨(gw_5 (i := 225) (by decide +kernel) rfl), (List.forall_mem_cons.mpr ⟨(gw_p (q := ((yX8_peek, 63) : MethodName × Nat)) (List.mem_append_right _ (List.mem_append_right _ (List.mem_append_right _ (List.mem_append_right _ (List.mem_append_left _ (List.mem_of_getElem? (i := 2) (by decide +kernel))))))) rfl), (List.forall_mem_cons.mpr ⟨(gw_1 (i := 9) (by decide +kernel) rfl), (List.forall_mem_cons.mpr ⟨(gw_5 (i := 226) (by decide +kernel) rfl), (List.forall_mem_nil _)⟩)⟩)⟩)⟩)⟩)
theorem ok8_take : okCV RX8 yX8_take 1 := by unfold okCV; decide +kernel
def f8_take_L21   (mT_ty : Int32) (mT_te : Nat → Int32) : Int32 → MdP → Option (Int32 × MdP)
  | y0, (mP_pa, mP_pd, mP_pf, mP_pi, mP_pr, mP_pb, mP_pF, mP_pS, mP_p0, mP_p1, mP_p2, mP_p3, mP_p4, mP_pI) =>
    if y0 = 0 ∨ y0 = 1 then if y0 = 0 then some ((1 : Int32), ((mP_pa + (1 : Int32)), mP_pd, mP_pf, mP_pi, mP_pr, y0, mP_pF, mP_pS, mP_p0, mP_p1, mP_p2, mP_p3, mP_p4, mP_pI)) else some ((0 : Int32), ((mP_pa + (1 : Int32)), mP_pd, mP_pf, mP_pi, mP_pr, y0, mP_pF, mP_pS, mP_p0, mP_p1, mP_p2, mP_p3, mP_p4, mP_pI)) else none

def f8_take_L16   (mT_ty : Int32) (mT_te : Nat → Int32) : MdP → Option (Int32 × MdP)
  | (mP_pa, mP_pd, mP_pf, mP_pi, mP_pr, mP_pb, mP_pF, mP_pS, mP_p0, mP_p1, mP_p2, mP_p3, mP_p4, mP_pI) =>
    f8_take_L21 mT_ty mT_te (1 : Int32) (mP_pa, mP_pd, mP_pf, mP_pi, mP_pr, mP_pb, mP_pF, mP_pS, mP_p0, mP_p1, mP_p2, mP_p3, mP_p4, mP_pI)
def f8_take (v1 : Int32) : MdT → MdP → Option (Int32 × MdP)
  | (mT_ty, mT_te), (mP_pa, mP_pd, mP_pf, mP_pi, mP_pr, mP_pb, mP_pF, mP_pS, mP_p0, mP_p1, mP_p2, mP_p3, mP_p4, mP_pI) =>
    if mP_pb = 0 then (f8_peek (mT_ty, mT_te) (mP_pa, mP_pd, mP_pf, mP_pi, mP_pr, mP_pb, mP_pF, mP_pS, mP_p0, mP_p1, mP_p2, mP_p3, mP_p4, mP_pI)).bind fun r_2 => if r_2 = v1 then f8_take_L21 mT_ty mT_te (0 : Int32) (mP_pa, mP_pd, mP_pf, mP_pi, mP_pr, mP_pb, mP_pF, mP_pS, mP_p0, mP_p1, mP_p2, mP_p3, mP_p4, mP_pI) else f8_take_L16 mT_ty mT_te (mP_pa, mP_pd, mP_pf, mP_pi, mP_pr, mP_pb, mP_pF, mP_pS, mP_p0, mP_p1, mP_p2, mP_p3, mP_p4, mP_pI) else f8_take_L16 mT_ty mT_te (mP_pa, mP_pd, mP_pf, mP_pi, mP_pr, mP_pb, mP_pF, mP_pS, mP_p0, mP_p1, mP_p2, mP_p3, mP_p4, mP_pI)
set_option maxHeartbeats 4000000 in
set_option maxRecDepth 100000 in
theorem w8_take_L21 {V : EV} {p : Program} {l : Launch} {e : Env} {R : Room} {s : State} {m : MethodId} {args : Array Value} {below : List Frame} {meth : Method} {c : Code} {Q : State → Prop} {A : Nat → Prop} {kc ks : Nat} {ad : Nat → Nat} {mQ : MdQ} {mK : MdK} {mN : MdN} {mL : MdL} {mH : MdH} {mR : MdR} {mG : MdG} {mT_ty : Int32} {mT_te : Nat → Int32}  {res : Int32 × MdP} (C : CX V p l R s m args c A kc ks RX8 cX8_take 2 1 20) (K : RI V p l e R s m args below meth c Q A kc ks 2 cX8_take .boolean res.1 (wM V ad (mT_ty, mT_te) mQ mK mN res.2 mL mH mR mG))  : ∀ (y0 : Int32) (mP_pa : Int32) (mP_pd : Int32) (mP_pf : Int32) (mP_pi : Int32) (mP_pr : Int32) (mP_pb : Int32) (mP_pF : Nat → Int32) (mP_pS : Nat → Int32) (mP_p0 : Nat → Int32) (mP_p1 : Nat → Int32) (mP_p2 : Nat → Int32) (mP_p3 : Nat → Int32) (mP_p4 : Nat → Int32) (mP_pI : Nat → Int32), f8_take_L21 mT_ty mT_te y0 (mP_pa, mP_pd, mP_pf, mP_pi, mP_pr, mP_pb, mP_pF, mP_pS, mP_p0, mP_p1, mP_p2, mP_p3, mP_p4, mP_pI) = some res → WC V p l e R s m args below meth c Q A kc ks 2 (wM V ad (mT_ty, mT_te) mQ mK mN (mP_pa, mP_pd, mP_pf, mP_pi, mP_pr, mP_pb, mP_pF, mP_pS, mP_p0, mP_p1, mP_p2, mP_p3, mP_p4, mP_pI) mL mH mR mG) 21 [(0, .ref (ad 0))] [.int y0, .ref (ad 0)] := by
  intro y0 mP_pa mP_pd mP_pf mP_pi mP_pr mP_pb mP_pF mP_pS mP_p0 mP_p1 mP_p2 mP_p3 mP_p4 mP_pI hf
  rw [f8_take_L21] at hf
  obtain ⟨hb, hf⟩ := gd_ok hf
  refine p8_135 C hb dX8_take_21 ?_
  refine k_aload_n C dX8_take_24 0 rfl ?_
  refine k_dup C dX8_take_25 rfl ?_
  refine g8_132 C dX8_take_26 ?_
  refine k_iconst (v := (1 : Int32)) C dX8_take_29 (by decide) ?_
  refine k_iadd C dX8_take_30 ?_
  refine p8_132 C dX8_take_31 ?_
  refine k_aload_n C dX8_take_34 0 rfl ?_
  refine g8_135 C dX8_take_35 ?_
  refine k_if_ne C 45 dX8_take_38 (by decide) (fun hc => ?_) (fun hc => ?_)
  · replace hf := (if_neg hc).symm.trans hf
    refine k_iconst (v := (0 : Int32)) C dX8_take_45 (by decide) ?_
    cases hf
    exact K _ _ dX8_take_46 (nar_b (Or.inl rfl))
  · replace hf := (if_pos hc).symm.trans hf
    refine k_iconst (v := (1 : Int32)) C dX8_take_41 (by decide) ?_
    refine k_goto C 46 dX8_take_42 (by decide) ?_
    cases hf
    exact K _ _ dX8_take_46 (nar_b (Or.inr rfl))

set_option maxHeartbeats 4000000 in
set_option maxRecDepth 100000 in
theorem w8_take_L16 {V : EV} {p : Program} {l : Launch} {e : Env} {R : Room} {s : State} {m : MethodId} {args : Array Value} {below : List Frame} {meth : Method} {c : Code} {Q : State → Prop} {A : Nat → Prop} {kc ks : Nat} {ad : Nat → Nat} {mQ : MdQ} {mK : MdK} {mN : MdN} {mL : MdL} {mH : MdH} {mR : MdR} {mG : MdG} {mT_ty : Int32} {mT_te : Nat → Int32}  {res : Int32 × MdP} (C : CX V p l R s m args c A kc ks RX8 cX8_take 2 1 20) (K : RI V p l e R s m args below meth c Q A kc ks 2 cX8_take .boolean res.1 (wM V ad (mT_ty, mT_te) mQ mK mN res.2 mL mH mR mG))  : ∀  (mP_pa : Int32) (mP_pd : Int32) (mP_pf : Int32) (mP_pi : Int32) (mP_pr : Int32) (mP_pb : Int32) (mP_pF : Nat → Int32) (mP_pS : Nat → Int32) (mP_p0 : Nat → Int32) (mP_p1 : Nat → Int32) (mP_p2 : Nat → Int32) (mP_p3 : Nat → Int32) (mP_p4 : Nat → Int32) (mP_pI : Nat → Int32), f8_take_L16 mT_ty mT_te (mP_pa, mP_pd, mP_pf, mP_pi, mP_pr, mP_pb, mP_pF, mP_pS, mP_p0, mP_p1, mP_p2, mP_p3, mP_p4, mP_pI) = some res → WC V p l e R s m args below meth c Q A kc ks 2 (wM V ad (mT_ty, mT_te) mQ mK mN (mP_pa, mP_pd, mP_pf, mP_pi, mP_pr, mP_pb, mP_pF, mP_pS, mP_p0, mP_p1, mP_p2, mP_p3, mP_p4, mP_pI) mL mH mR mG) 16 [(0, .ref (ad 0))] [.ref (ad 0)] := by
  intro mP_pa mP_pd mP_pf mP_pi mP_pr mP_pb mP_pF mP_pS mP_p0 mP_p1 mP_p2 mP_p3 mP_p4 mP_pI hf
  rw [f8_take_L16] at hf
  refine k_iconst (v := (1 : Int32)) C dX8_take_16 (by decide) ?_
  refine k_goto C 21 dX8_take_17 (by decide) ?_
  exact w8_take_L21 C K _ _ _ _ _ _ _ _ _ _ _ _ _ _ _ hf
set_option maxHeartbeats 4000000 in
set_option maxRecDepth 100000 in
theorem b8_take {V : EV} {p : Program} {l : Launch} {e : Env} {R : Room} {s : State} {m : MethodId} {args : Array Value} {below : List Frame} {meth : Method} {c : Code} {Q : State → Prop} {A : Nat → Prop} {kc ks : Nat} {ad : Nat → Nat} {mQ : MdQ} {mK : MdK} {mN : MdN} {mL : MdL} {mH : MdH} {mR : MdR} {mG : MdG} {mT_ty : Int32} {mT_te : Nat → Int32} {v1 : Int32} {mP_pa : Int32} {mP_pd : Int32} {mP_pf : Int32} {mP_pi : Int32} {mP_pr : Int32} {mP_pb : Int32} {mP_pF : Nat → Int32} {mP_pS : Nat → Int32} {mP_p0 : Nat → Int32} {mP_p1 : Nat → Int32} {mP_p2 : Nat → Int32} {mP_p3 : Nat → Int32} {mP_p4 : Nat → Int32} {mP_pI : Nat → Int32} {res : Int32 × MdP} (C : CX V p l R s m args c A kc ks RX8 cX8_take 2 1 20) (hf : f8_take v1 (mT_ty, mT_te) (mP_pa, mP_pd, mP_pf, mP_pi, mP_pr, mP_pb, mP_pF, mP_pS, mP_p0, mP_p1, mP_p2, mP_p3, mP_p4, mP_pI) = some res) (K : RI V p l e R s m args below meth c Q A kc ks 2 cX8_take .boolean res.1 (wM V ad (mT_ty, mT_te) mQ mK mN res.2 mL mH mR mG)) : WC V p l e R s m args below meth c Q A kc ks 2 (wM V ad (mT_ty, mT_te) mQ mK mN (mP_pa, mP_pd, mP_pf, mP_pi, mP_pr, mP_pb, mP_pF, mP_pS, mP_p0, mP_p1, mP_p2, mP_p3, mP_p4, mP_pI) mL mH mR mG) 0 [(0, .ref (ad 0)), (1, .int v1)] [] := by
  rw [f8_take] at hf
  refine k_aload_n C dX8_take_0 0 rfl ?_
  refine k_aload_n C dX8_take_1 0 rfl ?_
  refine g8_135 C dX8_take_2 ?_
  refine k_if_ne C 16 dX8_take_5 (by decide) (fun hc => ?_) (fun hc => ?_)
  · replace hf := (if_neg hc).symm.trans hf
    refine k_sub [0] (L' := [(0, .ref (ad 0))]) rfl ?_
    exact w8_take_L16 C K _ _ _ _ _ _ _ _ _ _ _ _ _ _ hf
  · replace hf := (if_pos hc).symm.trans hf
    refine k_aload_n C dX8_take_8 0 rfl ?_
    obtain ⟨r_2, hq_1, hf⟩ := ob_el hf
    refine k_callVi C (c8_peek C.2.2.2.2.2.2.2.2.2.1 hq_1) cm8_139 ok8_peek (by decide) 0 rfl rfl rfl rfl (Nat.le_of_ble_eq_true rfl) dX8_take_9 ?_
    refine k_iload_n C dX8_take_12 1 rfl ?_
    refine k_icmp_eq C 20 dX8_take_13 (by decide) (fun hc => ?_) (fun hc => ?_)
    · replace hf := (if_pos hc).symm.trans hf
      refine k_iconst (v := (0 : Int32)) C dX8_take_20 (by decide) ?_
      refine k_sub [0] (L' := [(0, .ref (ad 0))]) rfl ?_
      exact w8_take_L21 C K _ _ _ _ _ _ _ _ _ _ _ _ _ _ _ hf
    · replace hf := (if_neg hc).symm.trans hf
      refine k_sub [0] (L' := [(0, .ref (ad 0))]) rfl ?_
      exact w8_take_L16 C K _ _ _ _ _ _ _ _ _ _ _ _ _ _ hf
theorem c8_take {V : EV} {l : Launch} (hl0 : l.stackTraces = false) {ad : Nat → Nat} {mQ : MdQ} {mK : MdK} {mN : MdN} {mL : MdL} {mH : MdH} {mR : MdR} {mG : MdG} {mT_ty : Int32} {mT_te : Nat → Int32} {v1 : Int32} {mP_pa : Int32} {mP_pd : Int32} {mP_pf : Int32} {mP_pi : Int32} {mP_pr : Int32} {mP_pb : Int32} {mP_pF : Nat → Int32} {mP_pS : Nat → Int32} {mP_p0 : Nat → Int32} {mP_p1 : Nat → Int32} {mP_p2 : Nat → Int32} {mP_p3 : Nat → Int32} {mP_p4 : Nat → Int32} {mP_pI : Nat → Int32} {res : Int32 × MdP} (hf : f8_take v1 (mT_ty, mT_te) (mP_pa, mP_pd, mP_pf, mP_pi, mP_pr, mP_pb, mP_pF, mP_pS, mP_p0, mP_p1, mP_p2, mP_p3, mP_p4, mP_pI) = some res) : MI V l yX8_take cX8_take 2 .boolean 1 20 [.ref (ad 0), .int v1] (wM V ad (mT_ty, mT_te) mQ mK mN (mP_pa, mP_pd, mP_pf, mP_pi, mP_pr, mP_pb, mP_pF, mP_pS, mP_p0, mP_p1, mP_p2, mP_p3, mP_p4, mP_pI) mL mH mR mG) res.1 (wM V ad (mT_ty, mT_te) mQ mK mN res.2 mL mH mR mG) :=
  mi_of hl0 (by decide +kernel) (Nat.le_of_ble_eq_true rfl) (fun p e R s m args below meth c Q A C K => b8_take C hf K)

theorem cm8_143 : ∀ a ∈ wsCV RX8 143 RX8 yX8_take cX8_take 2 (some .boolean), a ∈ GW := by
  unfold wsCV
  exact (List.forall_mem_cons.mpr ⟨(gw_6 (i := 7) (by decide +kernel) rfl), (List.forall_mem_cons.mpr ⟨(gw_6 (i := 9) (by decide +kernel) rfl), (List.forall_mem_cons.mpr ⟨(gw_p (q := ((yX8_take, 63) : MethodName × Nat)) (List.mem_append_right _ (List.mem_append_right _ (List.mem_append_right _ (List.mem_append_right _ (List.mem_append_left _ (List.mem_of_getElem? (i := 8) (by decide +kernel))))))) rfl), (List.forall_mem_cons.mpr ⟨(gw_1 (i := 9) (by decide +kernel) rfl), (List.forall_mem_cons.mpr ⟨(gw_6 (i := 10) (by decide +kernel) rfl), (List.forall_mem_nil _)⟩)⟩)⟩)⟩)⟩)
theorem ok8_open : okCV RX8 yX8_open 1 := by unfold okCV; decide +kernel
def f8_open_L27   (mT_ty : Int32) (mT_te : Nat → Int32) : Int32 → MdP → Option (MdP)
  | y0, (mP_pa, mP_pd, mP_pf, mP_pi, mP_pr, mP_pb, mP_pF, mP_pS, mP_p0, mP_p1, mP_p2, mP_p3, mP_p4, mP_pI) =>
    if y0 = 0 ∨ y0 = 1 then some (mP_pa, (mP_pd + (1 : Int32)), mP_pf, mP_pi, mP_pr, y0, mP_pF, mP_pS, mP_p0, mP_p1, mP_p2, mP_p3, mP_p4, mP_pI) else none

def f8_open_L22   (mT_ty : Int32) (mT_te : Nat → Int32) : MdP → Option (MdP)
  | (mP_pa, mP_pd, mP_pf, mP_pi, mP_pr, mP_pb, mP_pF, mP_pS, mP_p0, mP_p1, mP_p2, mP_p3, mP_p4, mP_pI) =>
    f8_open_L27 mT_ty mT_te (1 : Int32) (mP_pa, mP_pd, mP_pf, mP_pi, mP_pr, mP_pb, mP_pF, mP_pS, mP_p0, mP_p1, mP_p2, mP_p3, mP_p4, mP_pI)
def f8_open (v1 : Int32) : MdT → MdP → Option (MdP)
  | (mT_ty, mT_te), (mP_pa, mP_pd, mP_pf, mP_pi, mP_pr, mP_pb, mP_pF, mP_pS, mP_p0, mP_p1, mP_p2, mP_p3, mP_p4, mP_pI) =>
    (f8_take v1 (mT_ty, mT_te) (mP_pa, mP_pd, mP_pf, mP_pi, mP_pr, mP_pb, mP_pF, mP_pS, mP_p0, mP_p1, mP_p2, mP_p3, mP_p4, mP_pI)).bind fun (r_2, (mP_pa_3, mP_pd_4, mP_pf_5, mP_pi_6, mP_pr_7, mP_pb_8, mP_pF_9, mP_pS_10, mP_p0_11, mP_p1_12, mP_p2_13, mP_p3_14, mP_p4_15, mP_pI_16)) => if mP_pb_8 = 0 then if mP_pd_4 = (4 : Int32) then f8_open_L22 mT_ty mT_te (mP_pa_3, mP_pd_4, mP_pf_5, mP_pi_6, mP_pr_7, mP_pb_8, mP_pF_9, mP_pS_10, mP_p0_11, mP_p1_12, mP_p2_13, mP_p3_14, mP_p4_15, mP_pI_16) else f8_open_L27 mT_ty mT_te (0 : Int32) (mP_pa_3, mP_pd_4, mP_pf_5, mP_pi_6, mP_pr_7, mP_pb_8, mP_pF_9, mP_pS_10, mP_p0_11, mP_p1_12, mP_p2_13, mP_p3_14, mP_p4_15, mP_pI_16) else f8_open_L22 mT_ty mT_te (mP_pa_3, mP_pd_4, mP_pf_5, mP_pi_6, mP_pr_7, mP_pb_8, mP_pF_9, mP_pS_10, mP_p0_11, mP_p1_12, mP_p2_13, mP_p3_14, mP_p4_15, mP_pI_16)
set_option maxHeartbeats 4000000 in
set_option maxRecDepth 100000 in
theorem w8_open_L27 {V : EV} {p : Program} {l : Launch} {e : Env} {R : Room} {s : State} {m : MethodId} {args : Array Value} {below : List Frame} {meth : Method} {c : Code} {Q : State → Prop} {A : Nat → Prop} {kc ks : Nat} {ad : Nat → Nat} {mQ : MdQ} {mK : MdK} {mN : MdN} {mL : MdL} {mH : MdH} {mR : MdR} {mG : MdG} {mT_ty : Int32} {mT_te : Nat → Int32}  {res : MdP} (C : CX V p l R s m args c A kc ks RX8 cX8_open 2 2 41) (K : RV V p l e R s m args below meth c Q A kc ks 2 cX8_open (wM V ad (mT_ty, mT_te) mQ mK mN res mL mH mR mG))  : ∀ (y0 : Int32) (mP_pa : Int32) (mP_pd : Int32) (mP_pf : Int32) (mP_pi : Int32) (mP_pr : Int32) (mP_pb : Int32) (mP_pF : Nat → Int32) (mP_pS : Nat → Int32) (mP_p0 : Nat → Int32) (mP_p1 : Nat → Int32) (mP_p2 : Nat → Int32) (mP_p3 : Nat → Int32) (mP_p4 : Nat → Int32) (mP_pI : Nat → Int32), f8_open_L27 mT_ty mT_te y0 (mP_pa, mP_pd, mP_pf, mP_pi, mP_pr, mP_pb, mP_pF, mP_pS, mP_p0, mP_p1, mP_p2, mP_p3, mP_p4, mP_pI) = some res → WC V p l e R s m args below meth c Q A kc ks 2 (wM V ad (mT_ty, mT_te) mQ mK mN (mP_pa, mP_pd, mP_pf, mP_pi, mP_pr, mP_pb, mP_pF, mP_pS, mP_p0, mP_p1, mP_p2, mP_p3, mP_p4, mP_pI) mL mH mR mG) 27 [(0, .ref (ad 0))] [.int y0, .ref (ad 0)] := by
  intro y0 mP_pa mP_pd mP_pf mP_pi mP_pr mP_pb mP_pF mP_pS mP_p0 mP_p1 mP_p2 mP_p3 mP_p4 mP_pI hf
  rw [f8_open_L27] at hf
  obtain ⟨hb, hf⟩ := gd_ok hf
  refine p8_135 C hb dX8_open_27 ?_
  refine k_aload_n C dX8_open_30 0 rfl ?_
  refine k_dup C dX8_open_31 rfl ?_
  refine g8_147 C dX8_open_32 ?_
  refine k_iconst (v := (1 : Int32)) C dX8_open_35 (by decide) ?_
  refine k_iadd C dX8_open_36 ?_
  refine p8_147 C dX8_open_37 ?_
  cases hf
  exact K _ _ dX8_open_40

set_option maxHeartbeats 4000000 in
set_option maxRecDepth 100000 in
theorem w8_open_L22 {V : EV} {p : Program} {l : Launch} {e : Env} {R : Room} {s : State} {m : MethodId} {args : Array Value} {below : List Frame} {meth : Method} {c : Code} {Q : State → Prop} {A : Nat → Prop} {kc ks : Nat} {ad : Nat → Nat} {mQ : MdQ} {mK : MdK} {mN : MdN} {mL : MdL} {mH : MdH} {mR : MdR} {mG : MdG} {mT_ty : Int32} {mT_te : Nat → Int32}  {res : MdP} (C : CX V p l R s m args c A kc ks RX8 cX8_open 2 2 41) (K : RV V p l e R s m args below meth c Q A kc ks 2 cX8_open (wM V ad (mT_ty, mT_te) mQ mK mN res mL mH mR mG))  : ∀  (mP_pa : Int32) (mP_pd : Int32) (mP_pf : Int32) (mP_pi : Int32) (mP_pr : Int32) (mP_pb : Int32) (mP_pF : Nat → Int32) (mP_pS : Nat → Int32) (mP_p0 : Nat → Int32) (mP_p1 : Nat → Int32) (mP_p2 : Nat → Int32) (mP_p3 : Nat → Int32) (mP_p4 : Nat → Int32) (mP_pI : Nat → Int32), f8_open_L22 mT_ty mT_te (mP_pa, mP_pd, mP_pf, mP_pi, mP_pr, mP_pb, mP_pF, mP_pS, mP_p0, mP_p1, mP_p2, mP_p3, mP_p4, mP_pI) = some res → WC V p l e R s m args below meth c Q A kc ks 2 (wM V ad (mT_ty, mT_te) mQ mK mN (mP_pa, mP_pd, mP_pf, mP_pi, mP_pr, mP_pb, mP_pF, mP_pS, mP_p0, mP_p1, mP_p2, mP_p3, mP_p4, mP_pI) mL mH mR mG) 22 [(0, .ref (ad 0))] [.ref (ad 0)] := by
  intro mP_pa mP_pd mP_pf mP_pi mP_pr mP_pb mP_pF mP_pS mP_p0 mP_p1 mP_p2 mP_p3 mP_p4 mP_pI hf
  rw [f8_open_L22] at hf
  refine k_iconst (v := (1 : Int32)) C dX8_open_22 (by decide) ?_
  refine k_goto C 27 dX8_open_23 (by decide) ?_
  exact w8_open_L27 C K _ _ _ _ _ _ _ _ _ _ _ _ _ _ _ hf
set_option maxHeartbeats 4000000 in
set_option maxRecDepth 100000 in
theorem b8_open {V : EV} {p : Program} {l : Launch} {e : Env} {R : Room} {s : State} {m : MethodId} {args : Array Value} {below : List Frame} {meth : Method} {c : Code} {Q : State → Prop} {A : Nat → Prop} {kc ks : Nat} {ad : Nat → Nat} {mQ : MdQ} {mK : MdK} {mN : MdN} {mL : MdL} {mH : MdH} {mR : MdR} {mG : MdG} {mT_ty : Int32} {mT_te : Nat → Int32} {v1 : Int32} {mP_pa : Int32} {mP_pd : Int32} {mP_pf : Int32} {mP_pi : Int32} {mP_pr : Int32} {mP_pb : Int32} {mP_pF : Nat → Int32} {mP_pS : Nat → Int32} {mP_p0 : Nat → Int32} {mP_p1 : Nat → Int32} {mP_p2 : Nat → Int32} {mP_p3 : Nat → Int32} {mP_p4 : Nat → Int32} {mP_pI : Nat → Int32} {res : MdP} (C : CX V p l R s m args c A kc ks RX8 cX8_open 2 2 41) (hf : f8_open v1 (mT_ty, mT_te) (mP_pa, mP_pd, mP_pf, mP_pi, mP_pr, mP_pb, mP_pF, mP_pS, mP_p0, mP_p1, mP_p2, mP_p3, mP_p4, mP_pI) = some res) (K : RV V p l e R s m args below meth c Q A kc ks 2 cX8_open (wM V ad (mT_ty, mT_te) mQ mK mN res mL mH mR mG)) : WC V p l e R s m args below meth c Q A kc ks 2 (wM V ad (mT_ty, mT_te) mQ mK mN (mP_pa, mP_pd, mP_pf, mP_pi, mP_pr, mP_pb, mP_pF, mP_pS, mP_p0, mP_p1, mP_p2, mP_p3, mP_p4, mP_pI) mL mH mR mG) 0 [(0, .ref (ad 0)), (1, .int v1)] [] := by
  rw [f8_open] at hf
  refine k_aload_n C dX8_open_0 0 rfl ?_
  refine k_iload_n C dX8_open_1 1 rfl ?_
  obtain ⟨⟨r_2, ⟨mP_pa_3, mP_pd_4, mP_pf_5, mP_pi_6, mP_pr_7, mP_pb_8, mP_pF_9, mP_pS_10, mP_p0_11, mP_p1_12, mP_p2_13, mP_p3_14, mP_p4_15, mP_pI_16⟩⟩, hq_1, hf⟩ := ob_el hf
  dsimp only at hf
  refine k_callVi C (c8_take C.2.2.2.2.2.2.2.2.2.1 hq_1) cm8_143 ok8_take (by decide) 0 rfl rfl rfl rfl (Nat.le_of_ble_eq_true rfl) dX8_open_2 ?_
  refine k_pop C dX8_open_5 rfl ?_
  refine k_aload_n C dX8_open_6 0 rfl ?_
  refine k_aload_n C dX8_open_7 0 rfl ?_
  refine g8_135 C dX8_open_8 ?_
  refine k_if_ne C 22 dX8_open_11 (by decide) (fun hc => ?_) (fun hc => ?_)
  · replace hf := (if_neg hc).symm.trans hf
    refine k_sub [0] (L' := [(0, .ref (ad 0))]) rfl ?_
    exact w8_open_L22 C K _ _ _ _ _ _ _ _ _ _ _ _ _ _ hf
  · replace hf := (if_pos hc).symm.trans hf
    refine k_aload_n C dX8_open_14 0 rfl ?_
    refine g8_147 C dX8_open_15 ?_
    refine k_iconst (v := (4 : Int32)) C dX8_open_18 (by decide) ?_
    refine k_icmp_ne C 26 dX8_open_19 (by decide) (fun hc => ?_) (fun hc => ?_)
    · replace hf := (if_neg hc).symm.trans hf
      refine k_iconst (v := (0 : Int32)) C dX8_open_26 (by decide) ?_
      refine k_sub [0] (L' := [(0, .ref (ad 0))]) rfl ?_
      exact w8_open_L27 C K _ _ _ _ _ _ _ _ _ _ _ _ _ _ _ hf
    · replace hf := (if_pos hc).symm.trans hf
      refine k_sub [0] (L' := [(0, .ref (ad 0))]) rfl ?_
      exact w8_open_L22 C K _ _ _ _ _ _ _ _ _ _ _ _ _ _ hf
theorem c8_open {V : EV} {l : Launch} (hl0 : l.stackTraces = false) {ad : Nat → Nat} {mQ : MdQ} {mK : MdK} {mN : MdN} {mL : MdL} {mH : MdH} {mR : MdR} {mG : MdG} {mT_ty : Int32} {mT_te : Nat → Int32} {v1 : Int32} {mP_pa : Int32} {mP_pd : Int32} {mP_pf : Int32} {mP_pi : Int32} {mP_pr : Int32} {mP_pb : Int32} {mP_pF : Nat → Int32} {mP_pS : Nat → Int32} {mP_p0 : Nat → Int32} {mP_p1 : Nat → Int32} {mP_p2 : Nat → Int32} {mP_p3 : Nat → Int32} {mP_p4 : Nat → Int32} {mP_pI : Nat → Int32} {res : MdP} (hf : f8_open v1 (mT_ty, mT_te) (mP_pa, mP_pd, mP_pf, mP_pi, mP_pr, mP_pb, mP_pF, mP_pS, mP_p0, mP_p1, mP_p2, mP_p3, mP_p4, mP_pI) = some res) : MV V l yX8_open cX8_open 2 2 41 [.ref (ad 0), .int v1] (wM V ad (mT_ty, mT_te) mQ mK mN (mP_pa, mP_pd, mP_pf, mP_pi, mP_pr, mP_pb, mP_pF, mP_pS, mP_p0, mP_p1, mP_p2, mP_p3, mP_p4, mP_pI) mL mH mR mG) (wM V ad (mT_ty, mT_te) mQ mK mN res mL mH mR mG) :=
  mv_of hl0 (by decide +kernel) (Nat.le_of_ble_eq_true rfl) (fun p e R s m args below meth c Q A C K => b8_open C hf K)

theorem ok8_close : okCV RX8 yX8_close 1 := by unfold okCV; decide +kernel
def f8_close (v1 : Int32) : MdT → MdP → Option (MdP)
  | (mT_ty, mT_te), (mP_pa, mP_pd, mP_pf, mP_pi, mP_pr, mP_pb, mP_pF, mP_pS, mP_p0, mP_p1, mP_p2, mP_p3, mP_p4, mP_pI) =>
    (f8_take v1 (mT_ty, mT_te) (mP_pa, mP_pd, mP_pf, mP_pi, mP_pr, mP_pb, mP_pF, mP_pS, mP_p0, mP_p1, mP_p2, mP_p3, mP_p4, mP_pI)).bind fun (r_2, (mP_pa_3, mP_pd_4, mP_pf_5, mP_pi_6, mP_pr_7, mP_pb_8, mP_pF_9, mP_pS_10, mP_p0_11, mP_p1_12, mP_p2_13, mP_p3_14, mP_p4_15, mP_pI_16)) => some (mP_pa_3, (mP_pd_4 - (1 : Int32)), mP_pf_5, mP_pi_6, mP_pr_7, mP_pb_8, mP_pF_9, mP_pS_10, mP_p0_11, mP_p1_12, mP_p2_13, mP_p3_14, mP_p4_15, mP_pI_16)
set_option maxHeartbeats 4000000 in
set_option maxRecDepth 100000 in
theorem b8_close {V : EV} {p : Program} {l : Launch} {e : Env} {R : Room} {s : State} {m : MethodId} {args : Array Value} {below : List Frame} {meth : Method} {c : Code} {Q : State → Prop} {A : Nat → Prop} {kc ks : Nat} {ad : Nat → Nat} {mQ : MdQ} {mK : MdK} {mN : MdN} {mL : MdL} {mH : MdH} {mR : MdR} {mG : MdG} {mT_ty : Int32} {mT_te : Nat → Int32} {v1 : Int32} {mP_pa : Int32} {mP_pd : Int32} {mP_pf : Int32} {mP_pi : Int32} {mP_pr : Int32} {mP_pb : Int32} {mP_pF : Nat → Int32} {mP_pS : Nat → Int32} {mP_p0 : Nat → Int32} {mP_p1 : Nat → Int32} {mP_p2 : Nat → Int32} {mP_p3 : Nat → Int32} {mP_p4 : Nat → Int32} {mP_pI : Nat → Int32} {res : MdP} (C : CX V p l R s m args c A kc ks RX8 cX8_close 2 2 41) (hf : f8_close v1 (mT_ty, mT_te) (mP_pa, mP_pd, mP_pf, mP_pi, mP_pr, mP_pb, mP_pF, mP_pS, mP_p0, mP_p1, mP_p2, mP_p3, mP_p4, mP_pI) = some res) (K : RV V p l e R s m args below meth c Q A kc ks 2 cX8_close (wM V ad (mT_ty, mT_te) mQ mK mN res mL mH mR mG)) : WC V p l e R s m args below meth c Q A kc ks 2 (wM V ad (mT_ty, mT_te) mQ mK mN (mP_pa, mP_pd, mP_pf, mP_pi, mP_pr, mP_pb, mP_pF, mP_pS, mP_p0, mP_p1, mP_p2, mP_p3, mP_p4, mP_pI) mL mH mR mG) 0 [(0, .ref (ad 0)), (1, .int v1)] [] := by
  rw [f8_close] at hf
  refine k_aload_n C dX8_close_0 0 rfl ?_
  refine k_iload_n C dX8_close_1 1 rfl ?_
  obtain ⟨⟨r_2, ⟨mP_pa_3, mP_pd_4, mP_pf_5, mP_pi_6, mP_pr_7, mP_pb_8, mP_pF_9, mP_pS_10, mP_p0_11, mP_p1_12, mP_p2_13, mP_p3_14, mP_p4_15, mP_pI_16⟩⟩, hq_1, hf⟩ := ob_el hf
  dsimp only at hf
  refine k_callVi C (c8_take C.2.2.2.2.2.2.2.2.2.1 hq_1) cm8_143 ok8_take (by decide) 0 rfl rfl rfl rfl (Nat.le_of_ble_eq_true rfl) dX8_close_2 ?_
  refine k_pop C dX8_close_5 rfl ?_
  refine k_aload_n C dX8_close_6 0 rfl ?_
  refine k_dup C dX8_close_7 rfl ?_
  refine g8_147 C dX8_close_8 ?_
  refine k_iconst (v := (1 : Int32)) C dX8_close_11 (by decide) ?_
  refine k_isub C dX8_close_12 ?_
  refine p8_147 C dX8_close_13 ?_
  cases hf
  exact K _ _ dX8_close_16
theorem c8_close {V : EV} {l : Launch} (hl0 : l.stackTraces = false) {ad : Nat → Nat} {mQ : MdQ} {mK : MdK} {mN : MdN} {mL : MdL} {mH : MdH} {mR : MdR} {mG : MdG} {mT_ty : Int32} {mT_te : Nat → Int32} {v1 : Int32} {mP_pa : Int32} {mP_pd : Int32} {mP_pf : Int32} {mP_pi : Int32} {mP_pr : Int32} {mP_pb : Int32} {mP_pF : Nat → Int32} {mP_pS : Nat → Int32} {mP_p0 : Nat → Int32} {mP_p1 : Nat → Int32} {mP_p2 : Nat → Int32} {mP_p3 : Nat → Int32} {mP_p4 : Nat → Int32} {mP_pI : Nat → Int32} {res : MdP} (hf : f8_close v1 (mT_ty, mT_te) (mP_pa, mP_pd, mP_pf, mP_pi, mP_pr, mP_pb, mP_pF, mP_pS, mP_p0, mP_p1, mP_p2, mP_p3, mP_p4, mP_pI) = some res) : MV V l yX8_close cX8_close 2 2 41 [.ref (ad 0), .int v1] (wM V ad (mT_ty, mT_te) mQ mK mN (mP_pa, mP_pd, mP_pf, mP_pi, mP_pr, mP_pb, mP_pF, mP_pS, mP_p0, mP_p1, mP_p2, mP_p3, mP_p4, mP_pI) mL mH mR mG) (wM V ad (mT_ty, mT_te) mQ mK mN res mL mH mR mG) :=
  mv_of hl0 (by decide +kernel) (Nat.le_of_ble_eq_true rfl) (fun p e R s m args below meth c Q A C K => b8_close C hf K)

theorem ok8_emit : okCV RX8 yX8_emit 3 := by unfold okCV; decide +kernel
def f8_emit (v1 : Int32) (v2 : Int32) (v3 : Int32) : MdQ → MdK → Option (Int32 × MdK)
  | (mQ_qc, mQ_qb, mQ_qp, mQ_qr, mQ_qC), (mK_ks, mK_kk, mK_kv, mK_kt) =>
    nm_v (mQ_qp + mK_ks) (fun v4_1 => if v4_1 < 0 ∨ 512 ≤ v4_1.toNatClampNeg then none else if v4_1 < 0 ∨ 512 ≤ v4_1.toNatClampNeg then none else if v4_1 < 0 ∨ 512 ≤ v4_1.toNatClampNeg then none else some (v4_1, ((mK_ks + (1 : Int32)), (upd mK_kk v4_1.toNatClampNeg v1), (upd mK_kv v4_1.toNatClampNeg v2), (upd mK_kt v4_1.toNatClampNeg v3))))
set_option maxHeartbeats 4000000 in
set_option maxRecDepth 100000 in
theorem b8_emit {V : EV} {p : Program} {l : Launch} {e : Env} {R : Room} {s : State} {m : MethodId} {args : Array Value} {below : List Frame} {meth : Method} {c : Code} {Q : State → Prop} {A : Nat → Prop} {kc ks : Nat} {ad : Nat → Nat} {mT : MdT} {mN : MdN} {mP : MdP} {mL : MdL} {mH : MdH} {mR : MdR} {mG : MdG} {mQ_qc : Int32} {mQ_qb : Int32} {mQ_qp : Int32} {mQ_qr : Int32} {mQ_qC : Int32} {v1 : Int32} {v2 : Int32} {v3 : Int32} {mK_ks : Int32} {mK_kk : Nat → Int32} {mK_kv : Nat → Int32} {mK_kt : Nat → Int32} {res : Int32 × MdK} (C : CX V p l R s m args c A kc ks RX8 cX8_emit 5 0 0) (hf : f8_emit v1 v2 v3 (mQ_qc, mQ_qb, mQ_qp, mQ_qr, mQ_qC) (mK_ks, mK_kk, mK_kv, mK_kt) = some res) (K : RI V p l e R s m args below meth c Q A kc ks 5 cX8_emit .int res.1 (wM V ad mT (mQ_qc, mQ_qb, mQ_qp, mQ_qr, mQ_qC) res.2 mN mP mL mH mR mG)) : WC V p l e R s m args below meth c Q A kc ks 5 (wM V ad mT (mQ_qc, mQ_qb, mQ_qp, mQ_qr, mQ_qC) (mK_ks, mK_kk, mK_kv, mK_kt) mN mP mL mH mR mG) 0 [(0, .ref (ad 0)), (1, .int v1), (2, .int v2), (3, .int v3)] [] := by
  rw [f8_emit] at hf
  refine k_aload_n C dX8_emit_0 0 rfl ?_
  refine g8_150 C dX8_emit_1 ?_
  refine k_aload_n C dX8_emit_4 0 rfl ?_
  refine g8_153 C dX8_emit_5 ?_
  refine k_iadd C dX8_emit_8 ?_
  refine k_topi (fun v4_1 ev4_1 => ?_)
  replace hf := nm_el hf ev4_1
  refine k_istore C dX8_emit_9 [(4, .int v4_1), (0, .ref (ad 0)), (1, .int v1), (2, .int v2), (3, .int v3)] (by decide) rfl ?_
  refine k_aload_n C dX8_emit_11 1 rfl ?_
  refine g8_13 C dX8_emit_12 ?_
  refine k_iload C dX8_emit_15 0 rfl ?_
  refine k_iload_n C dX8_emit_17 2 rfl ?_
  obtain ⟨hi, hf⟩ := gd_no hf
  refine sm2 C hi dX8_emit_18 ?_
  refine k_aload_n C dX8_emit_19 1 rfl ?_
  refine g8_16 C dX8_emit_20 ?_
  refine k_iload C dX8_emit_23 0 rfl ?_
  refine k_iload_n C dX8_emit_25 3 rfl ?_
  obtain ⟨hi, hf⟩ := gd_no hf
  refine sm3 C hi dX8_emit_26 ?_
  refine k_aload_n C dX8_emit_27 1 rfl ?_
  refine g8_19 C dX8_emit_28 ?_
  refine k_iload C dX8_emit_31 0 rfl ?_
  refine k_iload_n C dX8_emit_33 4 rfl ?_
  obtain ⟨hi, hf⟩ := gd_no hf
  refine sm4 C hi dX8_emit_34 ?_
  refine k_aload_n C dX8_emit_35 1 rfl ?_
  refine k_dup C dX8_emit_36 rfl ?_
  refine g8_153 C dX8_emit_37 ?_
  refine k_iconst (v := (1 : Int32)) C dX8_emit_40 (by decide) ?_
  refine k_iadd C dX8_emit_41 ?_
  refine p8_153 C dX8_emit_42 ?_
  refine k_iload C dX8_emit_45 0 rfl ?_
  cases hf
  exact K _ _ dX8_emit_47 rfl
theorem c8_emit {V : EV} {l : Launch} (hl0 : l.stackTraces = false) {ad : Nat → Nat} {mT : MdT} {mN : MdN} {mP : MdP} {mL : MdL} {mH : MdH} {mR : MdR} {mG : MdG} {mQ_qc : Int32} {mQ_qb : Int32} {mQ_qp : Int32} {mQ_qr : Int32} {mQ_qC : Int32} {v1 : Int32} {v2 : Int32} {v3 : Int32} {mK_ks : Int32} {mK_kk : Nat → Int32} {mK_kv : Nat → Int32} {mK_kt : Nat → Int32} {res : Int32 × MdK} (hf : f8_emit v1 v2 v3 (mQ_qc, mQ_qb, mQ_qp, mQ_qr, mQ_qC) (mK_ks, mK_kk, mK_kv, mK_kt) = some res) : MI V l yX8_emit cX8_emit 5 .int 0 0 [.ref (ad 0), .int v1, .int v2, .int v3] (wM V ad mT (mQ_qc, mQ_qb, mQ_qp, mQ_qr, mQ_qC) (mK_ks, mK_kk, mK_kv, mK_kt) mN mP mL mH mR mG) res.1 (wM V ad mT (mQ_qc, mQ_qb, mQ_qp, mQ_qr, mQ_qC) res.2 mN mP mL mH mR mG) :=
  mi_of hl0 (by decide +kernel) (Nat.le_of_ble_eq_true rfl) (fun p e R s m args below meth c Q A C K => b8_emit C hf K)

theorem ok8_land : okCV RX8 yX8_land 1 := by unfold okCV; decide +kernel
def f8_land (v1 : Int32) : MdQ → MdK → Option (MdK)
  | (mQ_qc, mQ_qb, mQ_qp, mQ_qr, mQ_qC), (mK_ks, mK_kk, mK_kv, mK_kt) =>
    if v1 < 0 ∨ 512 ≤ v1.toNatClampNeg then none else some (mK_ks, mK_kk, (upd mK_kv v1.toNatClampNeg (mQ_qp + mK_ks)), mK_kt)
set_option maxHeartbeats 4000000 in
set_option maxRecDepth 100000 in
theorem b8_land {V : EV} {p : Program} {l : Launch} {e : Env} {R : Room} {s : State} {m : MethodId} {args : Array Value} {below : List Frame} {meth : Method} {c : Code} {Q : State → Prop} {A : Nat → Prop} {kc ks : Nat} {ad : Nat → Nat} {mT : MdT} {mN : MdN} {mP : MdP} {mL : MdL} {mH : MdH} {mR : MdR} {mG : MdG} {mQ_qc : Int32} {mQ_qb : Int32} {mQ_qp : Int32} {mQ_qr : Int32} {mQ_qC : Int32} {v1 : Int32} {mK_ks : Int32} {mK_kk : Nat → Int32} {mK_kv : Nat → Int32} {mK_kt : Nat → Int32} {res : MdK} (C : CX V p l R s m args c A kc ks RX8 cX8_land 2 0 0) (hf : f8_land v1 (mQ_qc, mQ_qb, mQ_qp, mQ_qr, mQ_qC) (mK_ks, mK_kk, mK_kv, mK_kt) = some res) (K : RV V p l e R s m args below meth c Q A kc ks 2 cX8_land (wM V ad mT (mQ_qc, mQ_qb, mQ_qp, mQ_qr, mQ_qC) res mN mP mL mH mR mG)) : WC V p l e R s m args below meth c Q A kc ks 2 (wM V ad mT (mQ_qc, mQ_qb, mQ_qp, mQ_qr, mQ_qC) (mK_ks, mK_kk, mK_kv, mK_kt) mN mP mL mH mR mG) 0 [(0, .ref (ad 0)), (1, .int v1)] [] := by
  rw [f8_land] at hf
  refine k_aload_n C dX8_land_0 0 rfl ?_
  refine g8_16 C dX8_land_1 ?_
  refine k_iload_n C dX8_land_4 1 rfl ?_
  refine k_aload_n C dX8_land_5 0 rfl ?_
  refine g8_150 C dX8_land_6 ?_
  refine k_aload_n C dX8_land_9 0 rfl ?_
  refine g8_153 C dX8_land_10 ?_
  refine k_iadd C dX8_land_13 ?_
  obtain ⟨hi, hf⟩ := gd_no hf
  refine sm3 C hi dX8_land_14 ?_
  cases hf
  exact K _ _ dX8_land_15
theorem c8_land {V : EV} {l : Launch} (hl0 : l.stackTraces = false) {ad : Nat → Nat} {mT : MdT} {mN : MdN} {mP : MdP} {mL : MdL} {mH : MdH} {mR : MdR} {mG : MdG} {mQ_qc : Int32} {mQ_qb : Int32} {mQ_qp : Int32} {mQ_qr : Int32} {mQ_qC : Int32} {v1 : Int32} {mK_ks : Int32} {mK_kk : Nat → Int32} {mK_kv : Nat → Int32} {mK_kt : Nat → Int32} {res : MdK} (hf : f8_land v1 (mQ_qc, mQ_qb, mQ_qp, mQ_qr, mQ_qC) (mK_ks, mK_kk, mK_kv, mK_kt) = some res) : MV V l yX8_land cX8_land 2 0 0 [.ref (ad 0), .int v1] (wM V ad mT (mQ_qc, mQ_qb, mQ_qp, mQ_qr, mQ_qC) (mK_ks, mK_kk, mK_kv, mK_kt) mN mP mL mH mR mG) (wM V ad mT (mQ_qc, mQ_qb, mQ_qp, mQ_qr, mQ_qC) res mN mP mL mH mR mG) :=
  mv_of hl0 (by decide +kernel) (Nat.le_of_ble_eq_true rfl) (fun p e R s m args below meth c Q A C K => b8_land C hf K)

theorem ok8_create : okCV RX8 yX8_create 5 := by unfold okCV; decide +kernel
def f8_create (v1 : Int32) (v2 : Int32) (v3 : Int32) (v4 : Int32) (v5 : Int32) : MdQ → MdN → Option (Int32 × MdN)
  | (mQ_qc, mQ_qb, mQ_qp, mQ_qr, mQ_qC), (mN_nn, mN_nk, mN_na, mN_nb, mN_nc, mN_ns) =>
    nm_v (mQ_qp + mN_nn) (fun v6_1 => if v6_1 < 0 ∨ 512 ≤ v6_1.toNatClampNeg then none else if v6_1 < 0 ∨ 512 ≤ v6_1.toNatClampNeg then none else if v6_1 < 0 ∨ 512 ≤ v6_1.toNatClampNeg then none else if v6_1 < 0 ∨ 512 ≤ v6_1.toNatClampNeg then none else if v6_1 < 0 ∨ 512 ≤ v6_1.toNatClampNeg then none else some (v6_1, ((mN_nn + (1 : Int32)), (upd mN_nk v6_1.toNatClampNeg v1), (upd mN_na v6_1.toNatClampNeg v2), (upd mN_nb v6_1.toNatClampNeg v3), (upd mN_nc v6_1.toNatClampNeg v4), (upd mN_ns v6_1.toNatClampNeg v5))))
set_option maxHeartbeats 4000000 in
set_option maxRecDepth 100000 in
theorem b8_create {V : EV} {p : Program} {l : Launch} {e : Env} {R : Room} {s : State} {m : MethodId} {args : Array Value} {below : List Frame} {meth : Method} {c : Code} {Q : State → Prop} {A : Nat → Prop} {kc ks : Nat} {ad : Nat → Nat} {mT : MdT} {mK : MdK} {mP : MdP} {mL : MdL} {mH : MdH} {mR : MdR} {mG : MdG} {mQ_qc : Int32} {mQ_qb : Int32} {mQ_qp : Int32} {mQ_qr : Int32} {mQ_qC : Int32} {v1 : Int32} {v2 : Int32} {v3 : Int32} {v4 : Int32} {v5 : Int32} {mN_nn : Int32} {mN_nk : Nat → Int32} {mN_na : Nat → Int32} {mN_nb : Nat → Int32} {mN_nc : Nat → Int32} {mN_ns : Nat → Int32} {res : Int32 × MdN} (C : CX V p l R s m args c A kc ks RX8 cX8_create 7 0 0) (hf : f8_create v1 v2 v3 v4 v5 (mQ_qc, mQ_qb, mQ_qp, mQ_qr, mQ_qC) (mN_nn, mN_nk, mN_na, mN_nb, mN_nc, mN_ns) = some res) (K : RI V p l e R s m args below meth c Q A kc ks 7 cX8_create .int res.1 (wM V ad mT (mQ_qc, mQ_qb, mQ_qp, mQ_qr, mQ_qC) mK res.2 mP mL mH mR mG)) : WC V p l e R s m args below meth c Q A kc ks 7 (wM V ad mT (mQ_qc, mQ_qb, mQ_qp, mQ_qr, mQ_qC) mK (mN_nn, mN_nk, mN_na, mN_nb, mN_nc, mN_ns) mP mL mH mR mG) 0 [(0, .ref (ad 0)), (1, .int v1), (2, .int v2), (3, .int v3), (4, .int v4), (5, .int v5)] [] := by
  rw [f8_create] at hf
  refine k_aload_n C dX8_create_0 0 rfl ?_
  refine g8_150 C dX8_create_1 ?_
  refine k_aload_n C dX8_create_4 0 rfl ?_
  refine g8_156 C dX8_create_5 ?_
  refine k_iadd C dX8_create_8 ?_
  refine k_topi (fun v6_1 ev6_1 => ?_)
  replace hf := nm_el hf ev6_1
  refine k_istore C dX8_create_9 [(6, .int v6_1), (0, .ref (ad 0)), (1, .int v1), (2, .int v2), (3, .int v3), (4, .int v4), (5, .int v5)] (by decide) rfl ?_
  refine k_aload_n C dX8_create_11 1 rfl ?_
  refine g8_22 C dX8_create_12 ?_
  refine k_iload C dX8_create_15 0 rfl ?_
  refine k_iload_n C dX8_create_17 2 rfl ?_
  obtain ⟨hi, hf⟩ := gd_no hf
  refine sm5 C hi dX8_create_18 ?_
  refine k_aload_n C dX8_create_19 1 rfl ?_
  refine g8_25 C dX8_create_20 ?_
  refine k_iload C dX8_create_23 0 rfl ?_
  refine k_iload_n C dX8_create_25 3 rfl ?_
  obtain ⟨hi, hf⟩ := gd_no hf
  refine sm6 C hi dX8_create_26 ?_
  refine k_aload_n C dX8_create_27 1 rfl ?_
  refine g8_28 C dX8_create_28 ?_
  refine k_iload C dX8_create_31 0 rfl ?_
  refine k_iload_n C dX8_create_33 4 rfl ?_
  obtain ⟨hi, hf⟩ := gd_no hf
  refine sm7 C hi dX8_create_34 ?_
  refine k_aload_n C dX8_create_35 1 rfl ?_
  refine g8_31 C dX8_create_36 ?_
  refine k_iload C dX8_create_39 0 rfl ?_
  refine k_iload C dX8_create_41 5 rfl ?_
  obtain ⟨hi, hf⟩ := gd_no hf
  refine sm8 C hi dX8_create_43 ?_
  refine k_aload_n C dX8_create_44 1 rfl ?_
  refine g8_34 C dX8_create_45 ?_
  refine k_iload C dX8_create_48 0 rfl ?_
  refine k_iload C dX8_create_50 6 rfl ?_
  obtain ⟨hi, hf⟩ := gd_no hf
  refine sm9 C hi dX8_create_52 ?_
  refine k_aload_n C dX8_create_53 1 rfl ?_
  refine k_dup C dX8_create_54 rfl ?_
  refine g8_156 C dX8_create_55 ?_
  refine k_iconst (v := (1 : Int32)) C dX8_create_58 (by decide) ?_
  refine k_iadd C dX8_create_59 ?_
  refine p8_156 C dX8_create_60 ?_
  refine k_iload C dX8_create_63 0 rfl ?_
  cases hf
  exact K _ _ dX8_create_65 rfl
theorem c8_create {V : EV} {l : Launch} (hl0 : l.stackTraces = false) {ad : Nat → Nat} {mT : MdT} {mK : MdK} {mP : MdP} {mL : MdL} {mH : MdH} {mR : MdR} {mG : MdG} {mQ_qc : Int32} {mQ_qb : Int32} {mQ_qp : Int32} {mQ_qr : Int32} {mQ_qC : Int32} {v1 : Int32} {v2 : Int32} {v3 : Int32} {v4 : Int32} {v5 : Int32} {mN_nn : Int32} {mN_nk : Nat → Int32} {mN_na : Nat → Int32} {mN_nb : Nat → Int32} {mN_nc : Nat → Int32} {mN_ns : Nat → Int32} {res : Int32 × MdN} (hf : f8_create v1 v2 v3 v4 v5 (mQ_qc, mQ_qb, mQ_qp, mQ_qr, mQ_qC) (mN_nn, mN_nk, mN_na, mN_nb, mN_nc, mN_ns) = some res) : MI V l yX8_create cX8_create 7 .int 0 0 [.ref (ad 0), .int v1, .int v2, .int v3, .int v4, .int v5] (wM V ad mT (mQ_qc, mQ_qb, mQ_qp, mQ_qr, mQ_qC) mK (mN_nn, mN_nk, mN_na, mN_nb, mN_nc, mN_ns) mP mL mH mR mG) res.1 (wM V ad mT (mQ_qc, mQ_qb, mQ_qp, mQ_qr, mQ_qC) mK res.2 mP mL mH mR mG) :=
  mi_of hl0 (by decide +kernel) (Nat.le_of_ble_eq_true rfl) (fun p e R s m args below meth c Q A C K => b8_create C hf K)

theorem ok8_push : okCV RX8 yX8_push 1 := by unfold okCV; decide +kernel
def f8_push (v1 : Int32) : MdP → Option (MdP)
  | (mP_pa, mP_pd, mP_pf, mP_pi, mP_pr, mP_pb, mP_pF, mP_pS, mP_p0, mP_p1, mP_p2, mP_p3, mP_p4, mP_pI) =>
    if mP_pf < 0 ∨ 80 ≤ mP_pf.toNatClampNeg then none else if mP_pf < 0 ∨ 80 ≤ mP_pf.toNatClampNeg then none else if mP_pf < 0 ∨ 80 ≤ mP_pf.toNatClampNeg then none else some (mP_pa, mP_pd, (mP_pf + (1 : Int32)), mP_pi, mP_pr, mP_pb, (upd mP_pF mP_pf.toNatClampNeg v1), (upd mP_pS mP_pf.toNatClampNeg (0 : Int32)), (upd mP_p0 mP_pf.toNatClampNeg (-1 : Int32)), mP_p1, mP_p2, mP_p3, mP_p4, mP_pI)
set_option maxHeartbeats 4000000 in
set_option maxRecDepth 100000 in
theorem b8_push {V : EV} {p : Program} {l : Launch} {e : Env} {R : Room} {s : State} {m : MethodId} {args : Array Value} {below : List Frame} {meth : Method} {c : Code} {Q : State → Prop} {A : Nat → Prop} {kc ks : Nat} {ad : Nat → Nat} {mT : MdT} {mQ : MdQ} {mK : MdK} {mN : MdN} {mL : MdL} {mH : MdH} {mR : MdR} {mG : MdG} {v1 : Int32} {mP_pa : Int32} {mP_pd : Int32} {mP_pf : Int32} {mP_pi : Int32} {mP_pr : Int32} {mP_pb : Int32} {mP_pF : Nat → Int32} {mP_pS : Nat → Int32} {mP_p0 : Nat → Int32} {mP_p1 : Nat → Int32} {mP_p2 : Nat → Int32} {mP_p3 : Nat → Int32} {mP_p4 : Nat → Int32} {mP_pI : Nat → Int32} {res : MdP} (C : CX V p l R s m args c A kc ks RX8 cX8_push 2 0 0) (hf : f8_push v1 (mP_pa, mP_pd, mP_pf, mP_pi, mP_pr, mP_pb, mP_pF, mP_pS, mP_p0, mP_p1, mP_p2, mP_p3, mP_p4, mP_pI) = some res) (K : RV V p l e R s m args below meth c Q A kc ks 2 cX8_push (wM V ad mT mQ mK mN res mL mH mR mG)) : WC V p l e R s m args below meth c Q A kc ks 2 (wM V ad mT mQ mK mN (mP_pa, mP_pd, mP_pf, mP_pi, mP_pr, mP_pb, mP_pF, mP_pS, mP_p0, mP_p1, mP_p2, mP_p3, mP_p4, mP_pI) mL mH mR mG) 0 [(0, .ref (ad 0)), (1, .int v1)] [] := by
  rw [f8_push] at hf
  refine k_aload_n C dX8_push_0 0 rfl ?_
  refine g8_37 C dX8_push_1 ?_
  refine k_aload_n C dX8_push_4 0 rfl ?_
  refine g8_159 C dX8_push_5 ?_
  refine k_iload_n C dX8_push_8 1 rfl ?_
  obtain ⟨hi, hf⟩ := gd_no hf
  refine sm10 C hi dX8_push_9 ?_
  refine k_aload_n C dX8_push_10 0 rfl ?_
  refine g8_40 C dX8_push_11 ?_
  refine k_aload_n C dX8_push_14 0 rfl ?_
  refine g8_159 C dX8_push_15 ?_
  refine k_iconst (v := (0 : Int32)) C dX8_push_18 (by decide) ?_
  obtain ⟨hi, hf⟩ := gd_no hf
  refine sm11 C hi dX8_push_19 ?_
  refine k_aload_n C dX8_push_20 0 rfl ?_
  refine g8_43 C dX8_push_21 ?_
  refine k_aload_n C dX8_push_24 0 rfl ?_
  refine g8_159 C dX8_push_25 ?_
  refine k_iconst (v := (-1 : Int32)) C dX8_push_28 (by decide) ?_
  obtain ⟨hi, hf⟩ := gd_no hf
  refine sm12 C hi dX8_push_29 ?_
  refine k_aload_n C dX8_push_30 0 rfl ?_
  refine k_dup C dX8_push_31 rfl ?_
  refine g8_159 C dX8_push_32 ?_
  refine k_iconst (v := (1 : Int32)) C dX8_push_35 (by decide) ?_
  refine k_iadd C dX8_push_36 ?_
  refine p8_159 C dX8_push_37 ?_
  cases hf
  exact K _ _ dX8_push_40
theorem c8_push {V : EV} {l : Launch} (hl0 : l.stackTraces = false) {ad : Nat → Nat} {mT : MdT} {mQ : MdQ} {mK : MdK} {mN : MdN} {mL : MdL} {mH : MdH} {mR : MdR} {mG : MdG} {v1 : Int32} {mP_pa : Int32} {mP_pd : Int32} {mP_pf : Int32} {mP_pi : Int32} {mP_pr : Int32} {mP_pb : Int32} {mP_pF : Nat → Int32} {mP_pS : Nat → Int32} {mP_p0 : Nat → Int32} {mP_p1 : Nat → Int32} {mP_p2 : Nat → Int32} {mP_p3 : Nat → Int32} {mP_p4 : Nat → Int32} {mP_pI : Nat → Int32} {res : MdP} (hf : f8_push v1 (mP_pa, mP_pd, mP_pf, mP_pi, mP_pr, mP_pb, mP_pF, mP_pS, mP_p0, mP_p1, mP_p2, mP_p3, mP_p4, mP_pI) = some res) : MV V l yX8_push cX8_push 2 0 0 [.ref (ad 0), .int v1] (wM V ad mT mQ mK mN (mP_pa, mP_pd, mP_pf, mP_pi, mP_pr, mP_pb, mP_pF, mP_pS, mP_p0, mP_p1, mP_p2, mP_p3, mP_p4, mP_pI) mL mH mR mG) (wM V ad mT mQ mK mN res mL mH mR mG) :=
  mv_of hl0 (by decide +kernel) (Nat.le_of_ble_eq_true rfl) (fun p e R s m args below meth c Q A C K => b8_push C hf K)

theorem ok8_finish : okCV RX8 yX8_finish 1 := by unfold okCV; decide +kernel
def f8_finish (v1 : Int32) : MdP → Option (MdP)
  | (mP_pa, mP_pd, mP_pf, mP_pi, mP_pr, mP_pb, mP_pF, mP_pS, mP_p0, mP_p1, mP_p2, mP_p3, mP_p4, mP_pI) =>
    some (mP_pa, mP_pd, (mP_pf - (1 : Int32)), mP_pi, v1, mP_pb, mP_pF, mP_pS, mP_p0, mP_p1, mP_p2, mP_p3, mP_p4, mP_pI)
set_option maxHeartbeats 4000000 in
set_option maxRecDepth 100000 in
theorem b8_finish {V : EV} {p : Program} {l : Launch} {e : Env} {R : Room} {s : State} {m : MethodId} {args : Array Value} {below : List Frame} {meth : Method} {c : Code} {Q : State → Prop} {A : Nat → Prop} {kc ks : Nat} {ad : Nat → Nat} {mT : MdT} {mQ : MdQ} {mK : MdK} {mN : MdN} {mL : MdL} {mH : MdH} {mR : MdR} {mG : MdG} {v1 : Int32} {mP_pa : Int32} {mP_pd : Int32} {mP_pf : Int32} {mP_pi : Int32} {mP_pr : Int32} {mP_pb : Int32} {mP_pF : Nat → Int32} {mP_pS : Nat → Int32} {mP_p0 : Nat → Int32} {mP_p1 : Nat → Int32} {mP_p2 : Nat → Int32} {mP_p3 : Nat → Int32} {mP_p4 : Nat → Int32} {mP_pI : Nat → Int32} {res : MdP} (C : CX V p l R s m args c A kc ks RX8 cX8_finish 2 0 0) (hf : f8_finish v1 (mP_pa, mP_pd, mP_pf, mP_pi, mP_pr, mP_pb, mP_pF, mP_pS, mP_p0, mP_p1, mP_p2, mP_p3, mP_p4, mP_pI) = some res) (K : RV V p l e R s m args below meth c Q A kc ks 2 cX8_finish (wM V ad mT mQ mK mN res mL mH mR mG)) : WC V p l e R s m args below meth c Q A kc ks 2 (wM V ad mT mQ mK mN (mP_pa, mP_pd, mP_pf, mP_pi, mP_pr, mP_pb, mP_pF, mP_pS, mP_p0, mP_p1, mP_p2, mP_p3, mP_p4, mP_pI) mL mH mR mG) 0 [(0, .ref (ad 0)), (1, .int v1)] [] := by
  rw [f8_finish] at hf
  refine k_aload_n C dX8_finish_0 0 rfl ?_
  refine k_iload_n C dX8_finish_1 1 rfl ?_
  refine p8_162 C dX8_finish_2 ?_
  refine k_aload_n C dX8_finish_5 0 rfl ?_
  refine k_dup C dX8_finish_6 rfl ?_
  refine g8_159 C dX8_finish_7 ?_
  refine k_iconst (v := (1 : Int32)) C dX8_finish_10 (by decide) ?_
  refine k_isub C dX8_finish_11 ?_
  refine p8_159 C dX8_finish_12 ?_
  cases hf
  exact K _ _ dX8_finish_15
theorem c8_finish {V : EV} {l : Launch} (hl0 : l.stackTraces = false) {ad : Nat → Nat} {mT : MdT} {mQ : MdQ} {mK : MdK} {mN : MdN} {mL : MdL} {mH : MdH} {mR : MdR} {mG : MdG} {v1 : Int32} {mP_pa : Int32} {mP_pd : Int32} {mP_pf : Int32} {mP_pi : Int32} {mP_pr : Int32} {mP_pb : Int32} {mP_pF : Nat → Int32} {mP_pS : Nat → Int32} {mP_p0 : Nat → Int32} {mP_p1 : Nat → Int32} {mP_p2 : Nat → Int32} {mP_p3 : Nat → Int32} {mP_p4 : Nat → Int32} {mP_pI : Nat → Int32} {res : MdP} (hf : f8_finish v1 (mP_pa, mP_pd, mP_pf, mP_pi, mP_pr, mP_pb, mP_pF, mP_pS, mP_p0, mP_p1, mP_p2, mP_p3, mP_p4, mP_pI) = some res) : MV V l yX8_finish cX8_finish 2 0 0 [.ref (ad 0), .int v1] (wM V ad mT mQ mK mN (mP_pa, mP_pd, mP_pf, mP_pi, mP_pr, mP_pb, mP_pF, mP_pS, mP_p0, mP_p1, mP_p2, mP_p3, mP_p4, mP_pI) mL mH mR mG) (wM V ad mT mQ mK mN res mL mH mR mG) :=
  mv_of hl0 (by decide +kernel) (Nat.le_of_ble_eq_true rfl) (fun p e R s m args below meth c Q A C K => b8_finish C hf K)

theorem cm8_171 : ∀ a ∈ wsCV RX8 171 RX8 yX8_push cX8_push 2 none, a ∈ GW := by
  unfold wsCV
  exact (List.forall_mem_cons.mpr ⟨(gw_5 (i := 211) (by decide +kernel) rfl), (List.forall_mem_cons.mpr ⟨(gw_5 (i := 213) (by decide +kernel) rfl), (List.forall_mem_cons.mpr ⟨(gw_p (q := ((yX8_push, 63) : MethodName × Nat)) (List.mem_append_right _ (List.mem_append_right _ (List.mem_append_right _ (List.mem_append_left _ (List.mem_of_getElem? (i := 15) (by decide +kernel)))))) rfl), (List.forall_mem_cons.mpr ⟨(gw_1 (i := 9) (by decide +kernel) rfl), (List.forall_mem_cons.mpr ⟨(gw_5 (i := 214) (by decide +kernel) rfl), (List.forall_mem_nil _)⟩)⟩)⟩)⟩)⟩)
theorem cm8_205 : ∀ a ∈ wsCV RX8 205 RX8 yX8_create cX8_create 7 (some .int), a ∈ GW := by
  unfold wsCV
  exact (List.forall_mem_cons.mpr ⟨(gw_5 (i := 227) (by decide +kernel) rfl), (List.forall_mem_cons.mpr ⟨(gw_5 (i := 229) (by decide +kernel) rfl), (List.forall_mem_cons.mpr ⟨(gw_p (q := ((yX8_create, 63) : MethodName × Nat)) (List.mem_append_right _ (List.mem_append_right _ (List.mem_append_right _ (List.mem_append_right _ (List.mem_append_left _ (List.mem_of_getElem? (i := 3) (by decide +kernel))))))) rfl), (List.forall_mem_cons.mpr ⟨(gw_1 (i := 9) (by decide +kernel) rfl), (List.forall_mem_cons.mpr ⟨(gw_5 (i := 230) (by decide +kernel) rfl), (List.forall_mem_nil _)⟩)⟩)⟩)⟩)⟩)
theorem cm8_209 : ∀ a ∈ wsCV RX8 209 RX8 yX8_finish cX8_finish 2 none, a ∈ GW := by
  unfold wsCV
  exact (List.forall_mem_cons.mpr ⟨(gw_5 (i := 231) (by decide +kernel) rfl), (List.forall_mem_cons.mpr ⟨(gw_5 (i := 233) (by decide +kernel) rfl), (List.forall_mem_cons.mpr ⟨(gw_p (q := ((yX8_finish, 63) : MethodName × Nat)) (List.mem_append_right _ (List.mem_append_right _ (List.mem_append_right _ (List.mem_append_right _ (List.mem_append_left _ (List.mem_of_getElem? (i := 4) (by decide +kernel))))))) rfl), (List.forall_mem_cons.mpr ⟨(gw_1 (i := 9) (by decide +kernel) rfl), (List.forall_mem_cons.mpr ⟨(gw_5 (i := 234) (by decide +kernel) rfl), (List.forall_mem_nil _)⟩)⟩)⟩)⟩)⟩)
theorem ok8_stepRow : okCV RX8 yX8_stepRow 1 := by unfold okCV; decide +kernel
def f8_stepRow_L94 (k139 : Int32 → MdN → MdP → Option (MdN × MdP)) (N : Nat) (mT_ty : Int32) (mT_te : Nat → Int32) (mQ_qc : Int32) (mQ_qb : Int32) (mQ_qp : Int32) (mQ_qr : Int32) (mQ_qC : Int32) : Nat → Int32 → Int32 → MdN → MdP → Option (MdN × MdP)
  | 0, _, _, _, _ => none
  | n + 1, x1, x2, (mN_nn, mN_nk, mN_na, mN_nb, mN_nc, mN_ns), (mP_pa, mP_pd, mP_pf, mP_pi, mP_pr, mP_pb, mP_pF, mP_pS, mP_p0, mP_p1, mP_p2, mP_p3, mP_p4, mP_pI) =>
    if x1 < 0 ∨ 80 ≤ x1.toNatClampNeg then none else if mP_pi ≤ (mP_p0 x1.toNatClampNeg) then k139 x2 (mN_nn, mN_nk, mN_na, mN_nb, mN_nc, mN_ns) (mP_pa, mP_pd, mP_pf, mP_pi, mP_pr, mP_pb, mP_pF, mP_pS, mP_p0, mP_p1, mP_p2, mP_p3, mP_p4, mP_pI) else if (mP_pi - (1 : Int32)) < 0 ∨ 64 ≤ (mP_pi - (1 : Int32)).toNatClampNeg then none else (f8_create (11 : Int32) (mP_pI (mP_pi - (1 : Int32)).toNatClampNeg) x2 (0 : Int32) (-1 : Int32) (mQ_qc, mQ_qb, mQ_qp, mQ_qr, mQ_qC) (mN_nn, mN_nk, mN_na, mN_nb, mN_nc, mN_ns)).bind fun (r_2, (mN_nn_3, mN_nk_4, mN_na_5, mN_nb_6, mN_nc_7, mN_ns_8)) => f8_stepRow_L94 k139 N mT_ty mT_te mQ_qc mQ_qb mQ_qp mQ_qr mQ_qC n x1 r_2 (mN_nn_3, mN_nk_4, mN_na_5, mN_nb_6, mN_nc_7, mN_ns_8) (mP_pa, mP_pd, mP_pf, (mP_pi - (1 : Int32)), mP_pr, mP_pb, mP_pF, mP_pS, mP_p0, mP_p1, mP_p2, mP_p3, mP_p4, mP_pI)

def f8_stepRow_L52  (N : Nat) (mT_ty : Int32) (mT_te : Nat → Int32) (mQ_qc : Int32) (mQ_qb : Int32) (mQ_qp : Int32) (mQ_qr : Int32) (mQ_qC : Int32) : Int32 → MdN → MdP → Option (MdN × MdP)
  | x1, (mN_nn, mN_nk, mN_na, mN_nb, mN_nc, mN_ns), (mP_pa, mP_pd, mP_pf, mP_pi, mP_pr, mP_pb, mP_pF, mP_pS, mP_p0, mP_p1, mP_p2, mP_p3, mP_p4, mP_pI) =>
    if x1 < 0 ∨ 80 ≤ x1.toNatClampNeg then none else if mT_ty ≤ mP_pa then f8_stepRow_L94 (fun x2_9 (mN_nn_9, mN_nk_9, mN_na_9, mN_nb_9, mN_nc_9, mN_ns_9) (mP_pa_9, mP_pd_9, mP_pf_9, mP_pi_9, mP_pr_9, mP_pb_9, mP_pF_9, mP_pS_9, mP_p0_9, mP_p1_9, mP_p2_9, mP_p3_9, mP_p4_9, mP_pI_9) => (f8_finish x2_9 (mP_pa_9, mP_pd_9, mP_pf_9, mP_pi_9, mP_pr_9, mP_pb_9, mP_pF_9, mP_pS_9, mP_p0_9, mP_p1_9, mP_p2_9, mP_p3_9, mP_p4_9, mP_pI_9)).bind fun (mP_pa_11, mP_pd_12, mP_pf_13, mP_pi_14, mP_pr_15, mP_pb_16, mP_pF_17, mP_pS_18, mP_p0_19, mP_p1_20, mP_p2_21, mP_p3_22, mP_p4_23, mP_pI_24) => some ((mN_nn_9, mN_nk_9, mN_na_9, mN_nb_9, mN_nc_9, mN_ns_9), (mP_pa_11, mP_pd_12, mP_pf_13, mP_pi_14, mP_pr_15, mP_pb_16, mP_pF_17, mP_pS_18, mP_p0_19, mP_p1_20, mP_p2_21, mP_p3_22, mP_p4_23, mP_pI_24))) N mT_ty mT_te mQ_qc mQ_qb mQ_qp mQ_qr mQ_qC N x1 (-1 : Int32) (mN_nn, mN_nk, mN_na, mN_nb, mN_nc, mN_ns) (mP_pa, mP_pd, mP_pf, mP_pi, mP_pr, mP_pb, mP_pF, (upd mP_pS x1.toNatClampNeg (1 : Int32)), mP_p0, mP_p1, mP_p2, mP_p3, mP_p4, mP_pI) else (f8_peek (mT_ty, mT_te) (mP_pa, mP_pd, mP_pf, mP_pi, mP_pr, mP_pb, mP_pF, (upd mP_pS x1.toNatClampNeg (1 : Int32)), mP_p0, mP_p1, mP_p2, mP_p3, mP_p4, mP_pI)).bind fun r_26 => if r_26 = (125 : Int32) then if mP_pd = 0 then (f8_push (1 : Int32) (mP_pa, mP_pd, mP_pf, mP_pi, mP_pr, mP_pb, mP_pF, (upd mP_pS x1.toNatClampNeg (1 : Int32)), mP_p0, mP_p1, mP_p2, mP_p3, mP_p4, mP_pI)).bind fun (mP_pa_59, mP_pd_60, mP_pf_61, mP_pi_62, mP_pr_63, mP_pb_64, mP_pF_65, mP_pS_66, mP_p0_67, mP_p1_68, mP_p2_69, mP_p3_70, mP_p4_71, mP_pI_72) => some ((mN_nn, mN_nk, mN_na, mN_nb, mN_nc, mN_ns), (mP_pa_59, mP_pd_60, mP_pf_61, mP_pi_62, mP_pr_63, mP_pb_64, mP_pF_65, mP_pS_66, mP_p0_67, mP_p1_68, mP_p2_69, mP_p3_70, mP_p4_71, mP_pI_72)) else f8_stepRow_L94 (fun x2_42 (mN_nn_42, mN_nk_42, mN_na_42, mN_nb_42, mN_nc_42, mN_ns_42) (mP_pa_42, mP_pd_42, mP_pf_42, mP_pi_42, mP_pr_42, mP_pb_42, mP_pF_42, mP_pS_42, mP_p0_42, mP_p1_42, mP_p2_42, mP_p3_42, mP_p4_42, mP_pI_42) => (f8_finish x2_42 (mP_pa_42, mP_pd_42, mP_pf_42, mP_pi_42, mP_pr_42, mP_pb_42, mP_pF_42, mP_pS_42, mP_p0_42, mP_p1_42, mP_p2_42, mP_p3_42, mP_p4_42, mP_pI_42)).bind fun (mP_pa_44, mP_pd_45, mP_pf_46, mP_pi_47, mP_pr_48, mP_pb_49, mP_pF_50, mP_pS_51, mP_p0_52, mP_p1_53, mP_p2_54, mP_p3_55, mP_p4_56, mP_pI_57) => some ((mN_nn_42, mN_nk_42, mN_na_42, mN_nb_42, mN_nc_42, mN_ns_42), (mP_pa_44, mP_pd_45, mP_pf_46, mP_pi_47, mP_pr_48, mP_pb_49, mP_pF_50, mP_pS_51, mP_p0_52, mP_p1_53, mP_p2_54, mP_p3_55, mP_p4_56, mP_pI_57))) N mT_ty mT_te mQ_qc mQ_qb mQ_qp mQ_qr mQ_qC N x1 (-1 : Int32) (mN_nn, mN_nk, mN_na, mN_nb, mN_nc, mN_ns) (mP_pa, mP_pd, mP_pf, mP_pi, mP_pr, mP_pb, mP_pF, (upd mP_pS x1.toNatClampNeg (1 : Int32)), mP_p0, mP_p1, mP_p2, mP_p3, mP_p4, mP_pI) else (f8_push (1 : Int32) (mP_pa, mP_pd, mP_pf, mP_pi, mP_pr, mP_pb, mP_pF, (upd mP_pS x1.toNatClampNeg (1 : Int32)), mP_p0, mP_p1, mP_p2, mP_p3, mP_p4, mP_pI)).bind fun (mP_pa_28, mP_pd_29, mP_pf_30, mP_pi_31, mP_pr_32, mP_pb_33, mP_pF_34, mP_pS_35, mP_p0_36, mP_p1_37, mP_p2_38, mP_p3_39, mP_p4_40, mP_pI_41) => some ((mN_nn, mN_nk, mN_na, mN_nb, mN_nc, mN_ns), (mP_pa_28, mP_pd_29, mP_pf_30, mP_pi_31, mP_pr_32, mP_pb_33, mP_pF_34, mP_pS_35, mP_p0_36, mP_p1_37, mP_p2_38, mP_p3_39, mP_p4_40, mP_pI_41))

def f8_stepRow_L19  (N : Nat) (mT_ty : Int32) (mT_te : Nat → Int32) (mQ_qc : Int32) (mQ_qb : Int32) (mQ_qp : Int32) (mQ_qr : Int32) (mQ_qC : Int32) : Int32 → MdN → MdP → Option (MdN × MdP)
  | x1, (mN_nn, mN_nk, mN_na, mN_nb, mN_nc, mN_ns), (mP_pa, mP_pd, mP_pf, mP_pi, mP_pr, mP_pb, mP_pF, mP_pS, mP_p0, mP_p1, mP_p2, mP_p3, mP_p4, mP_pI) =>
    if x1 < 0 ∨ 80 ≤ x1.toNatClampNeg then none else if (mP_pS x1.toNatClampNeg) = (1 : Int32) then if mP_pi < 0 ∨ 64 ≤ mP_pi.toNatClampNeg then none else f8_stepRow_L52 N mT_ty mT_te mQ_qc mQ_qb mQ_qp mQ_qr mQ_qC x1 (mN_nn, mN_nk, mN_na, mN_nb, mN_nc, mN_ns) (mP_pa, mP_pd, mP_pf, (mP_pi + (1 : Int32)), mP_pr, mP_pb, mP_pF, mP_pS, mP_p0, mP_p1, mP_p2, mP_p3, mP_p4, (upd mP_pI mP_pi.toNatClampNeg mP_pr)) else f8_stepRow_L52 N mT_ty mT_te mQ_qc mQ_qb mQ_qp mQ_qr mQ_qC x1 (mN_nn, mN_nk, mN_na, mN_nb, mN_nc, mN_ns) (mP_pa, mP_pd, mP_pf, mP_pi, mP_pr, mP_pb, mP_pF, mP_pS, mP_p0, mP_p1, mP_p2, mP_p3, mP_p4, mP_pI)
def f8_stepRow (N : Nat) (v1 : Int32) : MdT → MdQ → MdN → MdP → Option (MdN × MdP)
  | (mT_ty, mT_te), (mQ_qc, mQ_qb, mQ_qp, mQ_qr, mQ_qC), (mN_nn, mN_nk, mN_na, mN_nb, mN_nc, mN_ns), (mP_pa, mP_pd, mP_pf, mP_pi, mP_pr, mP_pb, mP_pF, mP_pS, mP_p0, mP_p1, mP_p2, mP_p3, mP_p4, mP_pI) =>
    if v1 < 0 ∨ 80 ≤ v1.toNatClampNeg then none else if (mP_pS v1.toNatClampNeg) = 0 then if v1 < 0 ∨ 80 ≤ v1.toNatClampNeg then none else f8_stepRow_L19 N mT_ty mT_te mQ_qc mQ_qb mQ_qp mQ_qr mQ_qC v1 (mN_nn, mN_nk, mN_na, mN_nb, mN_nc, mN_ns) (mP_pa, mP_pd, mP_pf, mP_pi, mP_pr, mP_pb, mP_pF, mP_pS, (upd mP_p0 v1.toNatClampNeg mP_pi), mP_p1, mP_p2, mP_p3, mP_p4, mP_pI) else f8_stepRow_L19 N mT_ty mT_te mQ_qc mQ_qb mQ_qp mQ_qr mQ_qC v1 (mN_nn, mN_nk, mN_na, mN_nb, mN_nc, mN_ns) (mP_pa, mP_pd, mP_pf, mP_pi, mP_pr, mP_pb, mP_pF, mP_pS, mP_p0, mP_p1, mP_p2, mP_p3, mP_p4, mP_pI)
set_option maxHeartbeats 4000000 in
set_option maxRecDepth 100000 in
theorem w8_stepRow_L94 {V : EV} {p : Program} {l : Launch} {e : Env} {R : Room} {s : State} {m : MethodId} {args : Array Value} {below : List Frame} {meth : Method} {c : Code} {Q : State → Prop} {A : Nat → Prop} {kc ks : Nat} {ad : Nat → Nat} {mK : MdK} {mL : MdL} {mH : MdH} {mR : MdR} {mG : MdG} {mT_ty : Int32} {mT_te : Nat → Int32} {mQ_qc : Int32} {mQ_qb : Int32} {mQ_qp : Int32} {mQ_qr : Int32} {mQ_qC : Int32} {k139 : Int32 → MdN → MdP → Option (MdN × MdP)} {N : Nat} {res : MdN × MdP} (C : CX V p l R s m args c A kc ks RX8 cX8_stepRow 3 1 26) (K : RV V p l e R s m args below meth c Q A kc ks 3 cX8_stepRow (wM V ad (mT_ty, mT_te) (mQ_qc, mQ_qb, mQ_qp, mQ_qr, mQ_qC) mK res.1 res.2 mL mH mR mG)) (hk139 : ∀ (x2 : Int32) (mN_nn : Int32) (mN_nk : Nat → Int32) (mN_na : Nat → Int32) (mN_nb : Nat → Int32) (mN_nc : Nat → Int32) (mN_ns : Nat → Int32) (mP_pa : Int32) (mP_pd : Int32) (mP_pf : Int32) (mP_pi : Int32) (mP_pr : Int32) (mP_pb : Int32) (mP_pF : Nat → Int32) (mP_pS : Nat → Int32) (mP_p0 : Nat → Int32) (mP_p1 : Nat → Int32) (mP_p2 : Nat → Int32) (mP_p3 : Nat → Int32) (mP_p4 : Nat → Int32) (mP_pI : Nat → Int32), k139 x2 (mN_nn, mN_nk, mN_na, mN_nb, mN_nc, mN_ns) (mP_pa, mP_pd, mP_pf, mP_pi, mP_pr, mP_pb, mP_pF, mP_pS, mP_p0, mP_p1, mP_p2, mP_p3, mP_p4, mP_pI) = some res → WC V p l e R s m args below meth c Q A kc ks 3 (wM V ad (mT_ty, mT_te) (mQ_qc, mQ_qb, mQ_qp, mQ_qr, mQ_qC) mK (mN_nn, mN_nk, mN_na, mN_nb, mN_nc, mN_ns) (mP_pa, mP_pd, mP_pf, mP_pi, mP_pr, mP_pb, mP_pF, mP_pS, mP_p0, mP_p1, mP_p2, mP_p3, mP_p4, mP_pI) mL mH mR mG) 139 [(0, .ref (ad 0)), (2, .int x2)] []) : ∀ (n : Nat) (x1 : Int32) (x2 : Int32) (mN_nn : Int32) (mN_nk : Nat → Int32) (mN_na : Nat → Int32) (mN_nb : Nat → Int32) (mN_nc : Nat → Int32) (mN_ns : Nat → Int32) (mP_pa : Int32) (mP_pd : Int32) (mP_pf : Int32) (mP_pi : Int32) (mP_pr : Int32) (mP_pb : Int32) (mP_pF : Nat → Int32) (mP_pS : Nat → Int32) (mP_p0 : Nat → Int32) (mP_p1 : Nat → Int32) (mP_p2 : Nat → Int32) (mP_p3 : Nat → Int32) (mP_p4 : Nat → Int32) (mP_pI : Nat → Int32), f8_stepRow_L94 k139 N mT_ty mT_te mQ_qc mQ_qb mQ_qp mQ_qr mQ_qC n x1 x2 (mN_nn, mN_nk, mN_na, mN_nb, mN_nc, mN_ns) (mP_pa, mP_pd, mP_pf, mP_pi, mP_pr, mP_pb, mP_pF, mP_pS, mP_p0, mP_p1, mP_p2, mP_p3, mP_p4, mP_pI) = some res → WC V p l e R s m args below meth c Q A kc ks 3 (wM V ad (mT_ty, mT_te) (mQ_qc, mQ_qb, mQ_qp, mQ_qr, mQ_qC) mK (mN_nn, mN_nk, mN_na, mN_nb, mN_nc, mN_ns) (mP_pa, mP_pd, mP_pf, mP_pi, mP_pr, mP_pb, mP_pF, mP_pS, mP_p0, mP_p1, mP_p2, mP_p3, mP_p4, mP_pI) mL mH mR mG) 94 [(0, .ref (ad 0)), (1, .int x1), (2, .int x2)] [] := by
  intro n
  induction n with
  | zero => intro _ _ _ _ _ _ _ _ _ _ _ _ _ _ _ _ _ _ _ _ _ _ hf; exact nomatch (show none = some res from hf)
  | succ n ih =>
    intro x1 x2 mN_nn mN_nk mN_na mN_nb mN_nc mN_ns mP_pa mP_pd mP_pf mP_pi mP_pr mP_pb mP_pF mP_pS mP_p0 mP_p1 mP_p2 mP_p3 mP_p4 mP_pI hf
    rw [f8_stepRow_L94] at hf
    refine k_aload_n C dX8_stepRow_94 0 rfl ?_
    refine g8_168 C dX8_stepRow_95 ?_
    refine k_aload_n C dX8_stepRow_98 0 rfl ?_
    refine g8_43 C dX8_stepRow_99 ?_
    refine k_iload_n C dX8_stepRow_102 1 rfl ?_
    obtain ⟨hi, hf⟩ := gd_no hf
    refine lm12 C hi dX8_stepRow_103 ?_
    refine k_icmp_le C 139 dX8_stepRow_104 (by decide) (fun hc => ?_) (fun hc => ?_)
    · replace hf := (if_pos hc).symm.trans hf
      refine k_sub [0, 2] (L' := [(0, .ref (ad 0)), (2, .int x2)]) rfl ?_
      exact hk139 _ _ _ _ _ _ _ _ _ _ _ _ _ _ _ _ _ _ _ _ _ hf
    · replace hf := (if_neg hc).symm.trans hf
      refine k_aload_n C dX8_stepRow_107 0 rfl ?_
      refine k_dup C dX8_stepRow_108 rfl ?_
      refine g8_168 C dX8_stepRow_109 ?_
      refine k_iconst (v := (1 : Int32)) C dX8_stepRow_112 (by decide) ?_
      refine k_isub C dX8_stepRow_113 ?_
      refine p8_168 C dX8_stepRow_114 ?_
      refine k_aload_n C dX8_stepRow_117 0 rfl ?_
      refine k_bipush (v := (11 : Int32)) C dX8_stepRow_118 (by decide) ?_
      refine k_aload_n C dX8_stepRow_120 0 rfl ?_
      refine g8_58 C dX8_stepRow_121 ?_
      refine k_aload_n C dX8_stepRow_124 0 rfl ?_
      refine g8_168 C dX8_stepRow_125 ?_
      obtain ⟨hi, hf⟩ := gd_no hf
      refine lm17 C hi dX8_stepRow_128 ?_
      refine k_iload_n C dX8_stepRow_129 2 rfl ?_
      refine k_iconst (v := (0 : Int32)) C dX8_stepRow_130 (by decide) ?_
      refine k_iconst (v := (-1 : Int32)) C dX8_stepRow_131 (by decide) ?_
      obtain ⟨⟨r_2, ⟨mN_nn_3, mN_nk_4, mN_na_5, mN_nb_6, mN_nc_7, mN_ns_8⟩⟩, hq_1, hf⟩ := ob_el hf
      dsimp only at hf
      refine k_callVi C (c8_create C.2.2.2.2.2.2.2.2.2.1 hq_1) cm8_205 ok8_create (by decide) 0 rfl rfl rfl rfl (Nat.le_of_ble_eq_true rfl) dX8_stepRow_132 ?_
      refine k_istore_n C dX8_stepRow_135 [(2, .int r_2), (0, .ref (ad 0)), (1, .int x1)] (by decide) rfl ?_
      refine k_goto C 94 dX8_stepRow_136 (by decide) ?_
      refine k_sub [1, 2, 0] (L' := [(0, .ref (ad 0)), (1, .int x1), (2, .int r_2)]) rfl ?_
      exact ih _ _ _ _ _ _ _ _ _ _ _ _ _ _ _ _ _ _ _ _ _ _ hf

set_option maxHeartbeats 4000000 in
set_option maxRecDepth 100000 in
theorem w8_stepRow_L52 {V : EV} {p : Program} {l : Launch} {e : Env} {R : Room} {s : State} {m : MethodId} {args : Array Value} {below : List Frame} {meth : Method} {c : Code} {Q : State → Prop} {A : Nat → Prop} {kc ks : Nat} {ad : Nat → Nat} {mK : MdK} {mL : MdL} {mH : MdH} {mR : MdR} {mG : MdG} {mT_ty : Int32} {mT_te : Nat → Int32} {mQ_qc : Int32} {mQ_qb : Int32} {mQ_qp : Int32} {mQ_qr : Int32} {mQ_qC : Int32}  {N : Nat} {res : MdN × MdP} (C : CX V p l R s m args c A kc ks RX8 cX8_stepRow 3 1 26) (K : RV V p l e R s m args below meth c Q A kc ks 3 cX8_stepRow (wM V ad (mT_ty, mT_te) (mQ_qc, mQ_qb, mQ_qp, mQ_qr, mQ_qC) mK res.1 res.2 mL mH mR mG))  : ∀ (x1 : Int32) (mN_nn : Int32) (mN_nk : Nat → Int32) (mN_na : Nat → Int32) (mN_nb : Nat → Int32) (mN_nc : Nat → Int32) (mN_ns : Nat → Int32) (mP_pa : Int32) (mP_pd : Int32) (mP_pf : Int32) (mP_pi : Int32) (mP_pr : Int32) (mP_pb : Int32) (mP_pF : Nat → Int32) (mP_pS : Nat → Int32) (mP_p0 : Nat → Int32) (mP_p1 : Nat → Int32) (mP_p2 : Nat → Int32) (mP_p3 : Nat → Int32) (mP_p4 : Nat → Int32) (mP_pI : Nat → Int32), f8_stepRow_L52 N mT_ty mT_te mQ_qc mQ_qb mQ_qp mQ_qr mQ_qC x1 (mN_nn, mN_nk, mN_na, mN_nb, mN_nc, mN_ns) (mP_pa, mP_pd, mP_pf, mP_pi, mP_pr, mP_pb, mP_pF, mP_pS, mP_p0, mP_p1, mP_p2, mP_p3, mP_p4, mP_pI) = some res → WC V p l e R s m args below meth c Q A kc ks 3 (wM V ad (mT_ty, mT_te) (mQ_qc, mQ_qb, mQ_qp, mQ_qr, mQ_qC) mK (mN_nn, mN_nk, mN_na, mN_nb, mN_nc, mN_ns) (mP_pa, mP_pd, mP_pf, mP_pi, mP_pr, mP_pb, mP_pF, mP_pS, mP_p0, mP_p1, mP_p2, mP_p3, mP_p4, mP_pI) mL mH mR mG) 52 [(0, .ref (ad 0)), (1, .int x1)] [] := by
  intro x1 mN_nn mN_nk mN_na mN_nb mN_nc mN_ns mP_pa mP_pd mP_pf mP_pi mP_pr mP_pb mP_pF mP_pS mP_p0 mP_p1 mP_p2 mP_p3 mP_p4 mP_pI hf
  rw [f8_stepRow_L52] at hf
  refine k_aload_n C dX8_stepRow_52 0 rfl ?_
  refine g8_40 C dX8_stepRow_53 ?_
  refine k_iload_n C dX8_stepRow_56 1 rfl ?_
  refine k_iconst (v := (1 : Int32)) C dX8_stepRow_57 (by decide) ?_
  obtain ⟨hi, hf⟩ := gd_no hf
  refine sm11 C hi dX8_stepRow_58 ?_
  refine k_aload_n C dX8_stepRow_59 0 rfl ?_
  refine g8_132 C dX8_stepRow_60 ?_
  refine k_aload_n C dX8_stepRow_63 0 rfl ?_
  refine g8_129 C dX8_stepRow_64 ?_
  refine k_icmp_ge C 92 dX8_stepRow_67 (by decide) (fun hc => ?_) (fun hc => ?_)
  · replace hf := (if_pos hc).symm.trans hf
    refine k_iconst (v := (-1 : Int32)) C dX8_stepRow_92 (by decide) ?_
    refine k_istore_n C dX8_stepRow_93 [(2, .int (-1 : Int32)), (0, .ref (ad 0)), (1, .int x1)] (by decide) rfl ?_
    refine k_sub [1, 2, 0] (L' := [(0, .ref (ad 0)), (1, .int x1), (2, .int (-1 : Int32))]) rfl ?_
    refine w8_stepRow_L94 C K ?_ _ _ _ _ _ _ _ _ _ _ _ _ _ _ _ _ _ _ _ _ _ _ _ hf
    · intro x2_9 mN_nn_9 mN_nk_9 mN_na_9 mN_nb_9 mN_nc_9 mN_ns_9 mP_pa_9 mP_pd_9 mP_pf_9 mP_pi_9 mP_pr_9 mP_pb_9 mP_pF_9 mP_pS_9 mP_p0_9 mP_p1_9 mP_p2_9 mP_p3_9 mP_p4_9 mP_pI_9 hf
      try dsimp only at hf
      refine k_aload_n C dX8_stepRow_139 0 rfl ?_
      refine k_iload_n C dX8_stepRow_140 1 rfl ?_
      obtain ⟨⟨mP_pa_11, mP_pd_12, mP_pf_13, mP_pi_14, mP_pr_15, mP_pb_16, mP_pF_17, mP_pS_18, mP_p0_19, mP_p1_20, mP_p2_21, mP_p3_22, mP_p4_23, mP_pI_24⟩, hq_10, hf⟩ := ob_el hf
      dsimp only at hf
      refine k_callVv C (c8_finish C.2.2.2.2.2.2.2.2.2.1 hq_10) cm8_209 ok8_finish (by decide) 0 rfl rfl rfl rfl (Nat.le_of_ble_eq_true rfl) dX8_stepRow_141 ?_
      cases hf
      exact K _ _ dX8_stepRow_144
  · replace hf := (if_neg hc).symm.trans hf
    refine k_aload_n C dX8_stepRow_70 0 rfl ?_
    obtain ⟨r_26, hq_25, hf⟩ := ob_el hf
    refine k_callVi C (c8_peek C.2.2.2.2.2.2.2.2.2.1 hq_25) cm8_139 ok8_peek (by decide) 0 rfl rfl rfl rfl (Nat.le_of_ble_eq_true rfl) dX8_stepRow_71 ?_
    refine k_bipush (v := (125 : Int32)) C dX8_stepRow_74 (by decide) ?_
    refine k_icmp_ne C 86 dX8_stepRow_76 (by decide) (fun hc => ?_) (fun hc => ?_)
    · replace hf := (if_neg hc).symm.trans hf
      refine k_aload_n C dX8_stepRow_86 0 rfl ?_
      refine k_iconst (v := (1 : Int32)) C dX8_stepRow_87 (by decide) ?_
      obtain ⟨⟨mP_pa_28, mP_pd_29, mP_pf_30, mP_pi_31, mP_pr_32, mP_pb_33, mP_pF_34, mP_pS_35, mP_p0_36, mP_p1_37, mP_p2_38, mP_p3_39, mP_p4_40, mP_pI_41⟩, hq_27, hf⟩ := ob_el hf
      dsimp only at hf
      refine k_callVv C (c8_push C.2.2.2.2.2.2.2.2.2.1 hq_27) cm8_171 ok8_push (by decide) 0 rfl rfl rfl rfl (Nat.le_of_ble_eq_true rfl) dX8_stepRow_88 ?_
      cases hf
      exact K _ _ dX8_stepRow_91
    · replace hf := (if_pos hc).symm.trans hf
      refine k_aload_n C dX8_stepRow_79 0 rfl ?_
      refine g8_147 C dX8_stepRow_80 ?_
      refine k_if_ne C 92 dX8_stepRow_83 (by decide) (fun hc => ?_) (fun hc => ?_)
      · replace hf := (if_neg hc).symm.trans hf
        refine k_iconst (v := (-1 : Int32)) C dX8_stepRow_92 (by decide) ?_
        refine k_istore_n C dX8_stepRow_93 [(2, .int (-1 : Int32)), (0, .ref (ad 0)), (1, .int x1)] (by decide) rfl ?_
        refine k_sub [1, 2, 0] (L' := [(0, .ref (ad 0)), (1, .int x1), (2, .int (-1 : Int32))]) rfl ?_
        refine w8_stepRow_L94 C K ?_ _ _ _ _ _ _ _ _ _ _ _ _ _ _ _ _ _ _ _ _ _ _ _ hf
        · intro x2_42 mN_nn_42 mN_nk_42 mN_na_42 mN_nb_42 mN_nc_42 mN_ns_42 mP_pa_42 mP_pd_42 mP_pf_42 mP_pi_42 mP_pr_42 mP_pb_42 mP_pF_42 mP_pS_42 mP_p0_42 mP_p1_42 mP_p2_42 mP_p3_42 mP_p4_42 mP_pI_42 hf
          try dsimp only at hf
          refine k_aload_n C dX8_stepRow_139 0 rfl ?_
          refine k_iload_n C dX8_stepRow_140 1 rfl ?_
          obtain ⟨⟨mP_pa_44, mP_pd_45, mP_pf_46, mP_pi_47, mP_pr_48, mP_pb_49, mP_pF_50, mP_pS_51, mP_p0_52, mP_p1_53, mP_p2_54, mP_p3_55, mP_p4_56, mP_pI_57⟩, hq_43, hf⟩ := ob_el hf
          dsimp only at hf
          refine k_callVv C (c8_finish C.2.2.2.2.2.2.2.2.2.1 hq_43) cm8_209 ok8_finish (by decide) 0 rfl rfl rfl rfl (Nat.le_of_ble_eq_true rfl) dX8_stepRow_141 ?_
          cases hf
          exact K _ _ dX8_stepRow_144
      · replace hf := (if_pos hc).symm.trans hf
        refine k_aload_n C dX8_stepRow_86 0 rfl ?_
        refine k_iconst (v := (1 : Int32)) C dX8_stepRow_87 (by decide) ?_
        obtain ⟨⟨mP_pa_59, mP_pd_60, mP_pf_61, mP_pi_62, mP_pr_63, mP_pb_64, mP_pF_65, mP_pS_66, mP_p0_67, mP_p1_68, mP_p2_69, mP_p3_70, mP_p4_71, mP_pI_72⟩, hq_58, hf⟩ := ob_el hf
        dsimp only at hf
        refine k_callVv C (c8_push C.2.2.2.2.2.2.2.2.2.1 hq_58) cm8_171 ok8_push (by decide) 0 rfl rfl rfl rfl (Nat.le_of_ble_eq_true rfl) dX8_stepRow_88 ?_
        cases hf
        exact K _ _ dX8_stepRow_91

set_option maxHeartbeats 4000000 in
set_option maxRecDepth 100000 in
theorem w8_stepRow_L19 {V : EV} {p : Program} {l : Launch} {e : Env} {R : Room} {s : State} {m : MethodId} {args : Array Value} {below : List Frame} {meth : Method} {c : Code} {Q : State → Prop} {A : Nat → Prop} {kc ks : Nat} {ad : Nat → Nat} {mK : MdK} {mL : MdL} {mH : MdH} {mR : MdR} {mG : MdG} {mT_ty : Int32} {mT_te : Nat → Int32} {mQ_qc : Int32} {mQ_qb : Int32} {mQ_qp : Int32} {mQ_qr : Int32} {mQ_qC : Int32}  {N : Nat} {res : MdN × MdP} (C : CX V p l R s m args c A kc ks RX8 cX8_stepRow 3 1 26) (K : RV V p l e R s m args below meth c Q A kc ks 3 cX8_stepRow (wM V ad (mT_ty, mT_te) (mQ_qc, mQ_qb, mQ_qp, mQ_qr, mQ_qC) mK res.1 res.2 mL mH mR mG))  : ∀ (x1 : Int32) (mN_nn : Int32) (mN_nk : Nat → Int32) (mN_na : Nat → Int32) (mN_nb : Nat → Int32) (mN_nc : Nat → Int32) (mN_ns : Nat → Int32) (mP_pa : Int32) (mP_pd : Int32) (mP_pf : Int32) (mP_pi : Int32) (mP_pr : Int32) (mP_pb : Int32) (mP_pF : Nat → Int32) (mP_pS : Nat → Int32) (mP_p0 : Nat → Int32) (mP_p1 : Nat → Int32) (mP_p2 : Nat → Int32) (mP_p3 : Nat → Int32) (mP_p4 : Nat → Int32) (mP_pI : Nat → Int32), f8_stepRow_L19 N mT_ty mT_te mQ_qc mQ_qb mQ_qp mQ_qr mQ_qC x1 (mN_nn, mN_nk, mN_na, mN_nb, mN_nc, mN_ns) (mP_pa, mP_pd, mP_pf, mP_pi, mP_pr, mP_pb, mP_pF, mP_pS, mP_p0, mP_p1, mP_p2, mP_p3, mP_p4, mP_pI) = some res → WC V p l e R s m args below meth c Q A kc ks 3 (wM V ad (mT_ty, mT_te) (mQ_qc, mQ_qb, mQ_qp, mQ_qr, mQ_qC) mK (mN_nn, mN_nk, mN_na, mN_nb, mN_nc, mN_ns) (mP_pa, mP_pd, mP_pf, mP_pi, mP_pr, mP_pb, mP_pF, mP_pS, mP_p0, mP_p1, mP_p2, mP_p3, mP_p4, mP_pI) mL mH mR mG) 19 [(0, .ref (ad 0)), (1, .int x1)] [] := by
  intro x1 mN_nn mN_nk mN_na mN_nb mN_nc mN_ns mP_pa mP_pd mP_pf mP_pi mP_pr mP_pb mP_pF mP_pS mP_p0 mP_p1 mP_p2 mP_p3 mP_p4 mP_pI hf
  rw [f8_stepRow_L19] at hf
  refine k_aload_n C dX8_stepRow_19 0 rfl ?_
  refine g8_40 C dX8_stepRow_20 ?_
  refine k_iload_n C dX8_stepRow_23 1 rfl ?_
  obtain ⟨hi, hf⟩ := gd_no hf
  refine lm11 C hi dX8_stepRow_24 ?_
  refine k_iconst (v := (1 : Int32)) C dX8_stepRow_25 (by decide) ?_
  refine k_icmp_ne C 52 dX8_stepRow_26 (by decide) (fun hc => ?_) (fun hc => ?_)
  · replace hf := (if_neg hc).symm.trans hf
    exact w8_stepRow_L52 C K _ _ _ _ _ _ _ _ _ _ _ _ _ _ _ _ _ _ _ _ _ hf
  · replace hf := (if_pos hc).symm.trans hf
    refine k_aload_n C dX8_stepRow_29 0 rfl ?_
    refine g8_58 C dX8_stepRow_30 ?_
    refine k_aload_n C dX8_stepRow_33 0 rfl ?_
    refine g8_168 C dX8_stepRow_34 ?_
    refine k_aload_n C dX8_stepRow_37 0 rfl ?_
    refine g8_162 C dX8_stepRow_38 ?_
    obtain ⟨hi, hf⟩ := gd_no hf
    refine sm17 C hi dX8_stepRow_41 ?_
    refine k_aload_n C dX8_stepRow_42 0 rfl ?_
    refine k_dup C dX8_stepRow_43 rfl ?_
    refine g8_168 C dX8_stepRow_44 ?_
    refine k_iconst (v := (1 : Int32)) C dX8_stepRow_47 (by decide) ?_
    refine k_iadd C dX8_stepRow_48 ?_
    refine p8_168 C dX8_stepRow_49 ?_
    exact w8_stepRow_L52 C K _ _ _ _ _ _ _ _ _ _ _ _ _ _ _ _ _ _ _ _ _ hf
set_option maxHeartbeats 4000000 in
set_option maxRecDepth 100000 in
theorem b8_stepRow {V : EV} {p : Program} {l : Launch} {e : Env} {R : Room} {s : State} {m : MethodId} {args : Array Value} {below : List Frame} {meth : Method} {c : Code} {Q : State → Prop} {A : Nat → Prop} {kc ks : Nat} {ad : Nat → Nat} {mK : MdK} {mL : MdL} {mH : MdH} {mR : MdR} {mG : MdG} {mT_ty : Int32} {mT_te : Nat → Int32} {mQ_qc : Int32} {mQ_qb : Int32} {mQ_qp : Int32} {mQ_qr : Int32} {mQ_qC : Int32} {v1 : Int32} {mN_nn : Int32} {mN_nk : Nat → Int32} {mN_na : Nat → Int32} {mN_nb : Nat → Int32} {mN_nc : Nat → Int32} {mN_ns : Nat → Int32} {mP_pa : Int32} {mP_pd : Int32} {mP_pf : Int32} {mP_pi : Int32} {mP_pr : Int32} {mP_pb : Int32} {mP_pF : Nat → Int32} {mP_pS : Nat → Int32} {mP_p0 : Nat → Int32} {mP_p1 : Nat → Int32} {mP_p2 : Nat → Int32} {mP_p3 : Nat → Int32} {mP_p4 : Nat → Int32} {mP_pI : Nat → Int32} {N : Nat} {res : MdN × MdP} (C : CX V p l R s m args c A kc ks RX8 cX8_stepRow 3 1 26) (hf : f8_stepRow N v1 (mT_ty, mT_te) (mQ_qc, mQ_qb, mQ_qp, mQ_qr, mQ_qC) (mN_nn, mN_nk, mN_na, mN_nb, mN_nc, mN_ns) (mP_pa, mP_pd, mP_pf, mP_pi, mP_pr, mP_pb, mP_pF, mP_pS, mP_p0, mP_p1, mP_p2, mP_p3, mP_p4, mP_pI) = some res) (K : RV V p l e R s m args below meth c Q A kc ks 3 cX8_stepRow (wM V ad (mT_ty, mT_te) (mQ_qc, mQ_qb, mQ_qp, mQ_qr, mQ_qC) mK res.1 res.2 mL mH mR mG)) : WC V p l e R s m args below meth c Q A kc ks 3 (wM V ad (mT_ty, mT_te) (mQ_qc, mQ_qb, mQ_qp, mQ_qr, mQ_qC) mK (mN_nn, mN_nk, mN_na, mN_nb, mN_nc, mN_ns) (mP_pa, mP_pd, mP_pf, mP_pi, mP_pr, mP_pb, mP_pF, mP_pS, mP_p0, mP_p1, mP_p2, mP_p3, mP_p4, mP_pI) mL mH mR mG) 0 [(0, .ref (ad 0)), (1, .int v1)] [] := by
  rw [f8_stepRow] at hf
  refine k_aload_n C dX8_stepRow_0 0 rfl ?_
  refine g8_40 C dX8_stepRow_1 ?_
  refine k_iload_n C dX8_stepRow_4 1 rfl ?_
  obtain ⟨hi, hf⟩ := gd_no hf
  refine lm11 C hi dX8_stepRow_5 ?_
  refine k_if_ne C 19 dX8_stepRow_6 (by decide) (fun hc => ?_) (fun hc => ?_)
  · replace hf := (if_neg hc).symm.trans hf
    exact w8_stepRow_L19 C K _ _ _ _ _ _ _ _ _ _ _ _ _ _ _ _ _ _ _ _ _ hf
  · replace hf := (if_pos hc).symm.trans hf
    refine k_aload_n C dX8_stepRow_9 0 rfl ?_
    refine g8_43 C dX8_stepRow_10 ?_
    refine k_iload_n C dX8_stepRow_13 1 rfl ?_
    refine k_aload_n C dX8_stepRow_14 0 rfl ?_
    refine g8_168 C dX8_stepRow_15 ?_
    obtain ⟨hi, hf⟩ := gd_no hf
    refine sm12 C hi dX8_stepRow_18 ?_
    exact w8_stepRow_L19 C K _ _ _ _ _ _ _ _ _ _ _ _ _ _ _ _ _ _ _ _ _ hf
theorem c8_stepRow {V : EV} {l : Launch} (hl0 : l.stackTraces = false) {ad : Nat → Nat} {mK : MdK} {mL : MdL} {mH : MdH} {mR : MdR} {mG : MdG} {mT_ty : Int32} {mT_te : Nat → Int32} {mQ_qc : Int32} {mQ_qb : Int32} {mQ_qp : Int32} {mQ_qr : Int32} {mQ_qC : Int32} {v1 : Int32} {mN_nn : Int32} {mN_nk : Nat → Int32} {mN_na : Nat → Int32} {mN_nb : Nat → Int32} {mN_nc : Nat → Int32} {mN_ns : Nat → Int32} {mP_pa : Int32} {mP_pd : Int32} {mP_pf : Int32} {mP_pi : Int32} {mP_pr : Int32} {mP_pb : Int32} {mP_pF : Nat → Int32} {mP_pS : Nat → Int32} {mP_p0 : Nat → Int32} {mP_p1 : Nat → Int32} {mP_p2 : Nat → Int32} {mP_p3 : Nat → Int32} {mP_p4 : Nat → Int32} {mP_pI : Nat → Int32} {N : Nat} {res : MdN × MdP} (hf : f8_stepRow N v1 (mT_ty, mT_te) (mQ_qc, mQ_qb, mQ_qp, mQ_qr, mQ_qC) (mN_nn, mN_nk, mN_na, mN_nb, mN_nc, mN_ns) (mP_pa, mP_pd, mP_pf, mP_pi, mP_pr, mP_pb, mP_pF, mP_pS, mP_p0, mP_p1, mP_p2, mP_p3, mP_p4, mP_pI) = some res) : MV V l yX8_stepRow cX8_stepRow 3 1 26 [.ref (ad 0), .int v1] (wM V ad (mT_ty, mT_te) (mQ_qc, mQ_qb, mQ_qp, mQ_qr, mQ_qC) mK (mN_nn, mN_nk, mN_na, mN_nb, mN_nc, mN_ns) (mP_pa, mP_pd, mP_pf, mP_pi, mP_pr, mP_pb, mP_pF, mP_pS, mP_p0, mP_p1, mP_p2, mP_p3, mP_p4, mP_pI) mL mH mR mG) (wM V ad (mT_ty, mT_te) (mQ_qc, mQ_qb, mQ_qp, mQ_qr, mQ_qC) mK res.1 res.2 mL mH mR mG) :=
  mv_of hl0 (by decide +kernel) (Nat.le_of_ble_eq_true rfl) (fun p e R s m args below meth c Q A C K => b8_stepRow C hf K)

theorem cm8_178 : ∀ a ∈ wsCV RX8 178 RX8 yX8_emit cX8_emit 5 (some .int), a ∈ GW := by
  unfold wsCV
  exact (List.forall_mem_cons.mpr ⟨(gw_6 (i := 3) (by decide +kernel) rfl), (List.forall_mem_cons.mpr ⟨(gw_6 (i := 5) (by decide +kernel) rfl), (List.forall_mem_cons.mpr ⟨(gw_p (q := ((yX8_emit, 63) : MethodName × Nat)) (List.mem_append_right _ (List.mem_append_right _ (List.mem_append_right _ (List.mem_append_right _ (List.mem_append_left _ (List.mem_of_getElem? (i := 7) (by decide +kernel))))))) rfl), (List.forall_mem_cons.mpr ⟨(gw_1 (i := 9) (by decide +kernel) rfl), (List.forall_mem_cons.mpr ⟨(gw_6 (i := 6) (by decide +kernel) rfl), (List.forall_mem_nil _)⟩)⟩)⟩)⟩)⟩)
theorem ok8_beginStatement : okCV RX8 yX8_beginStatement 1 := by unfold okCV; decide +kernel
def f8_beginStatement_L142   (mT_ty : Int32) (mT_te : Nat → Int32) (mQ_qc : Int32) (mQ_qb : Int32) (mQ_qp : Int32) (mQ_qr : Int32) (mQ_qC : Int32) : Int32 → Int32 → Int32 → MdK → MdP → Option (MdK × MdP)
  | x1, x2, y0, (mK_ks, mK_kk, mK_kv, mK_kt), (mP_pa, mP_pd, mP_pf, mP_pi, mP_pr, mP_pb, mP_pF, mP_pS, mP_p0, mP_p1, mP_p2, mP_p3, mP_p4, mP_pI) =>
    if y0 = 0 ∨ y0 = 1 then if x1 < 0 ∨ 80 ≤ x1.toNatClampNeg then none else if x2 = (94 : Int32) then (f8_push (5 : Int32) (mP_pa, mP_pd, mP_pf, mP_pi, mP_pr, y0, mP_pF, mP_pS, mP_p0, mP_p1, mP_p2, mP_p3, (upd mP_p4 x1.toNatClampNeg (mQ_qp + mK_ks)), mP_pI)).bind fun (mP_pa_25, mP_pd_26, mP_pf_27, mP_pi_28, mP_pr_29, mP_pb_30, mP_pF_31, mP_pS_32, mP_p0_33, mP_p1_34, mP_p2_35, mP_p3_36, mP_p4_37, mP_pI_38) => some ((mK_ks, mK_kk, mK_kv, mK_kt), (mP_pa_25, mP_pd_26, mP_pf_27, mP_pi_28, mP_pr_29, mP_pb_30, mP_pF_31, mP_pS_32, mP_p0_33, mP_p1_34, mP_p2_35, mP_p3_36, mP_p4_37, mP_pI_38)) else (f8_push (2 : Int32) (mP_pa, mP_pd, mP_pf, mP_pi, mP_pr, y0, mP_pF, mP_pS, mP_p0, mP_p1, mP_p2, mP_p3, (upd mP_p4 x1.toNatClampNeg (mQ_qp + mK_ks)), mP_pI)).bind fun (mP_pa_10, mP_pd_11, mP_pf_12, mP_pi_13, mP_pr_14, mP_pb_15, mP_pF_16, mP_pS_17, mP_p0_18, mP_p1_19, mP_p2_20, mP_p3_21, mP_p4_22, mP_pI_23) => some ((mK_ks, mK_kk, mK_kv, mK_kt), (mP_pa_10, mP_pd_11, mP_pf_12, mP_pi_13, mP_pr_14, mP_pb_15, mP_pF_16, mP_pS_17, mP_p0_18, mP_p1_19, mP_p2_20, mP_p3_21, mP_p4_22, mP_pI_23)) else none

def f8_beginStatement_L137   (mT_ty : Int32) (mT_te : Nat → Int32) (mQ_qc : Int32) (mQ_qb : Int32) (mQ_qp : Int32) (mQ_qr : Int32) (mQ_qC : Int32) : Int32 → Int32 → MdK → MdP → Option (MdK × MdP)
  | x1, x2, (mK_ks, mK_kk, mK_kv, mK_kt), (mP_pa, mP_pd, mP_pf, mP_pi, mP_pr, mP_pb, mP_pF, mP_pS, mP_p0, mP_p1, mP_p2, mP_p3, mP_p4, mP_pI) =>
    f8_beginStatement_L142 mT_ty mT_te mQ_qc mQ_qb mQ_qp mQ_qr mQ_qC x1 x2 (1 : Int32) (mK_ks, mK_kk, mK_kv, mK_kt) (mP_pa, mP_pd, mP_pf, mP_pi, mP_pr, mP_pb, mP_pF, mP_pS, mP_p0, mP_p1, mP_p2, mP_p3, mP_p4, mP_pI)

def f8_beginStatement_L141   (mT_ty : Int32) (mT_te : Nat → Int32) (mQ_qc : Int32) (mQ_qb : Int32) (mQ_qp : Int32) (mQ_qr : Int32) (mQ_qC : Int32) : Int32 → Int32 → MdK → MdP → Option (MdK × MdP)
  | x1, x2, (mK_ks, mK_kk, mK_kv, mK_kt), (mP_pa, mP_pd, mP_pf, mP_pi, mP_pr, mP_pb, mP_pF, mP_pS, mP_p0, mP_p1, mP_p2, mP_p3, mP_p4, mP_pI) =>
    f8_beginStatement_L142 mT_ty mT_te mQ_qc mQ_qb mQ_qp mQ_qr mQ_qC x1 x2 (0 : Int32) (mK_ks, mK_kk, mK_kv, mK_kt) (mP_pa, mP_pd, mP_pf, mP_pi, mP_pr, mP_pb, mP_pF, mP_pS, mP_p0, mP_p1, mP_p2, mP_p3, mP_p4, mP_pI)

def f8_beginStatement_L111   (mT_ty : Int32) (mT_te : Nat → Int32) (mQ_qc : Int32) (mQ_qb : Int32) (mQ_qp : Int32) (mQ_qr : Int32) (mQ_qC : Int32) : Int32 → Int32 → Int32 → Int32 → MdK → MdP → Option (MdK × MdP)
  | x1, x2, y0, y1, (mK_ks, mK_kk, mK_kv, mK_kt), (mP_pa, mP_pd, mP_pf, mP_pi, mP_pr, mP_pb, mP_pF, mP_pS, mP_p0, mP_p1, mP_p2, mP_p3, mP_p4, mP_pI) =>
    if y1 < 0 ∨ 80 ≤ y1.toNatClampNeg then none else if mP_pb = 0 then if x1 < 0 ∨ 80 ≤ x1.toNatClampNeg then none else if ((upd mP_pS y1.toNatClampNeg y0) x1.toNatClampNeg) = (8 : Int32) then if x2 = (94 : Int32) then f8_beginStatement_L141 mT_ty mT_te mQ_qc mQ_qb mQ_qp mQ_qr mQ_qC x1 x2 (mK_ks, mK_kk, mK_kv, mK_kt) (mP_pa, mP_pd, mP_pf, mP_pi, mP_pr, mP_pb, mP_pF, (upd mP_pS y1.toNatClampNeg y0), mP_p0, mP_p1, mP_p2, mP_p3, mP_p4, mP_pI) else f8_beginStatement_L137 mT_ty mT_te mQ_qc mQ_qb mQ_qp mQ_qr mQ_qC x1 x2 (mK_ks, mK_kk, mK_kv, mK_kt) (mP_pa, mP_pd, mP_pf, mP_pi, mP_pr, mP_pb, mP_pF, (upd mP_pS y1.toNatClampNeg y0), mP_p0, mP_p1, mP_p2, mP_p3, mP_p4, mP_pI) else f8_beginStatement_L141 mT_ty mT_te mQ_qc mQ_qb mQ_qp mQ_qr mQ_qC x1 x2 (mK_ks, mK_kk, mK_kv, mK_kt) (mP_pa, mP_pd, mP_pf, mP_pi, mP_pr, mP_pb, mP_pF, (upd mP_pS y1.toNatClampNeg y0), mP_p0, mP_p1, mP_p2, mP_p3, mP_p4, mP_pI) else f8_beginStatement_L137 mT_ty mT_te mQ_qc mQ_qb mQ_qp mQ_qr mQ_qC x1 x2 (mK_ks, mK_kk, mK_kv, mK_kt) (mP_pa, mP_pd, mP_pf, mP_pi, mP_pr, mP_pb, mP_pF, (upd mP_pS y1.toNatClampNeg y0), mP_p0, mP_p1, mP_p2, mP_p3, mP_p4, mP_pI)

def f8_beginStatement_L73   (mT_ty : Int32) (mT_te : Nat → Int32) (mQ_qc : Int32) (mQ_qb : Int32) (mQ_qp : Int32) (mQ_qr : Int32) (mQ_qC : Int32) : Int32 → Int32 → MdK → MdP → Option (MdK × MdP)
  | x1, x2, (mK_ks, mK_kk, mK_kv, mK_kt), (mP_pa, mP_pd, mP_pf, mP_pi, mP_pr, mP_pb, mP_pF, mP_pS, mP_p0, mP_p1, mP_p2, mP_p3, mP_p4, mP_pI) =>
    if x2 = (63 : Int32) then f8_beginStatement_L111 mT_ty mT_te mQ_qc mQ_qb mQ_qp mQ_qr mQ_qC x1 x2 (2 : Int32) x1 (mK_ks, mK_kk, mK_kv, mK_kt) (mP_pa, mP_pd, mP_pf, mP_pi, mP_pr, mP_pb, mP_pF, mP_pS, mP_p0, mP_p1, mP_p2, mP_p3, mP_p4, mP_pI) else if x2 = (64 : Int32) then f8_beginStatement_L111 mT_ty mT_te mQ_qc mQ_qb mQ_qp mQ_qr mQ_qC x1 x2 (5 : Int32) x1 (mK_ks, mK_kk, mK_kv, mK_kt) (mP_pa, mP_pd, mP_pf, mP_pi, mP_pr, mP_pb, mP_pF, mP_pS, mP_p0, mP_p1, mP_p2, mP_p3, mP_p4, mP_pI) else if x2 = (33 : Int32) then f8_beginStatement_L111 mT_ty mT_te mQ_qc mQ_qb mQ_qp mQ_qr mQ_qC x1 x2 (7 : Int32) x1 (mK_ks, mK_kk, mK_kv, mK_kt) (mP_pa, mP_pd, mP_pf, mP_pi, mP_pr, mP_pb, mP_pF, mP_pS, mP_p0, mP_p1, mP_p2, mP_p3, mP_p4, mP_pI) else f8_beginStatement_L111 mT_ty mT_te mQ_qc mQ_qb mQ_qp mQ_qr mQ_qC x1 x2 (8 : Int32) x1 (mK_ks, mK_kk, mK_kv, mK_kt) (mP_pa, mP_pd, mP_pf, mP_pi, mP_pr, mP_pb, mP_pF, mP_pS, mP_p0, mP_p1, mP_p2, mP_p3, mP_p4, mP_pI)
def f8_beginStatement (v1 : Int32) : MdT → MdQ → MdK → MdP → Option (MdK × MdP)
  | (mT_ty, mT_te), (mQ_qc, mQ_qb, mQ_qp, mQ_qr, mQ_qC), (mK_ks, mK_kk, mK_kv, mK_kt), (mP_pa, mP_pd, mP_pf, mP_pi, mP_pr, mP_pb, mP_pF, mP_pS, mP_p0, mP_p1, mP_p2, mP_p3, mP_p4, mP_pI) =>
    (f8_peek (mT_ty, mT_te) (mP_pa, mP_pd, mP_pf, mP_pi, mP_pr, mP_pb, mP_pF, mP_pS, mP_p0, mP_p1, mP_p2, mP_p3, mP_p4, mP_pI)).bind fun r_2 => (f8_emit (1 : Int32) (0 : Int32) mP_pa (mQ_qc, mQ_qb, mQ_qp, mQ_qr, mQ_qC) (mK_ks, mK_kk, mK_kv, mK_kt)).bind fun (r_4, (mK_ks_5, mK_kk_6, mK_kv_7, mK_kt_8)) => if v1 < 0 ∨ 80 ≤ v1.toNatClampNeg then none else if r_2 < (97 : Int32) then f8_beginStatement_L73 mT_ty mT_te mQ_qc mQ_qb mQ_qp mQ_qr mQ_qC v1 r_2 (mK_ks_5, mK_kk_6, mK_kv_7, mK_kt_8) ((mP_pa + (1 : Int32)), mP_pd, mP_pf, mP_pi, mP_pr, mP_pb, mP_pF, mP_pS, mP_p0, (upd mP_p1 v1.toNatClampNeg r_4), mP_p2, mP_p3, mP_p4, mP_pI) else if (102 : Int32) < r_2 then f8_beginStatement_L73 mT_ty mT_te mQ_qc mQ_qb mQ_qp mQ_qr mQ_qC v1 r_2 (mK_ks_5, mK_kk_6, mK_kv_7, mK_kt_8) ((mP_pa + (1 : Int32)), mP_pd, mP_pf, mP_pi, mP_pr, mP_pb, mP_pF, mP_pS, mP_p0, (upd mP_p1 v1.toNatClampNeg r_4), mP_p2, mP_p3, mP_p4, mP_pI) else if v1 < 0 ∨ 80 ≤ v1.toNatClampNeg then none else (f8_take (61 : Int32) (mT_ty, mT_te) ((mP_pa + (1 : Int32)), mP_pd, mP_pf, mP_pi, mP_pr, mP_pb, mP_pF, mP_pS, mP_p0, (upd mP_p1 v1.toNatClampNeg r_4), (upd mP_p2 v1.toNatClampNeg (r_2 - (97 : Int32))), mP_p3, mP_p4, mP_pI)).bind fun (r_40, (mP_pa_41, mP_pd_42, mP_pf_43, mP_pi_44, mP_pr_45, mP_pb_46, mP_pF_47, mP_pS_48, mP_p0_49, mP_p1_50, mP_p2_51, mP_p3_52, mP_p4_53, mP_pI_54)) => if v1 < 0 ∨ 80 ≤ v1.toNatClampNeg then none else (f8_push (5 : Int32) (mP_pa_41, mP_pd_42, mP_pf_43, mP_pi_44, mP_pr_45, mP_pb_46, mP_pF_47, (upd mP_pS_48 v1.toNatClampNeg (1 : Int32)), mP_p0_49, mP_p1_50, mP_p2_51, mP_p3_52, mP_p4_53, mP_pI_54)).bind fun (mP_pa_56, mP_pd_57, mP_pf_58, mP_pi_59, mP_pr_60, mP_pb_61, mP_pF_62, mP_pS_63, mP_p0_64, mP_p1_65, mP_p2_66, mP_p3_67, mP_p4_68, mP_pI_69) => some ((mK_ks_5, mK_kk_6, mK_kv_7, mK_kt_8), (mP_pa_56, mP_pd_57, mP_pf_58, mP_pi_59, mP_pr_60, mP_pb_61, mP_pF_62, mP_pS_63, mP_p0_64, mP_p1_65, mP_p2_66, mP_p3_67, mP_p4_68, mP_pI_69))
set_option maxHeartbeats 4000000 in
set_option maxRecDepth 100000 in
theorem w8_beginStatement_L142 {V : EV} {p : Program} {l : Launch} {e : Env} {R : Room} {s : State} {m : MethodId} {args : Array Value} {below : List Frame} {meth : Method} {c : Code} {Q : State → Prop} {A : Nat → Prop} {kc ks : Nat} {ad : Nat → Nat} {mN : MdN} {mL : MdL} {mH : MdH} {mR : MdR} {mG : MdG} {mT_ty : Int32} {mT_te : Nat → Int32} {mQ_qc : Int32} {mQ_qb : Int32} {mQ_qp : Int32} {mQ_qr : Int32} {mQ_qC : Int32}  {res : MdK × MdP} (C : CX V p l R s m args c A kc ks RX8 cX8_beginStatement 3 2 41) (K : RV V p l e R s m args below meth c Q A kc ks 3 cX8_beginStatement (wM V ad (mT_ty, mT_te) (mQ_qc, mQ_qb, mQ_qp, mQ_qr, mQ_qC) res.1 mN res.2 mL mH mR mG))  : ∀ (x1 : Int32) (x2 : Int32) (y0 : Int32) (mK_ks : Int32) (mK_kk : Nat → Int32) (mK_kv : Nat → Int32) (mK_kt : Nat → Int32) (mP_pa : Int32) (mP_pd : Int32) (mP_pf : Int32) (mP_pi : Int32) (mP_pr : Int32) (mP_pb : Int32) (mP_pF : Nat → Int32) (mP_pS : Nat → Int32) (mP_p0 : Nat → Int32) (mP_p1 : Nat → Int32) (mP_p2 : Nat → Int32) (mP_p3 : Nat → Int32) (mP_p4 : Nat → Int32) (mP_pI : Nat → Int32), f8_beginStatement_L142 mT_ty mT_te mQ_qc mQ_qb mQ_qp mQ_qr mQ_qC x1 x2 y0 (mK_ks, mK_kk, mK_kv, mK_kt) (mP_pa, mP_pd, mP_pf, mP_pi, mP_pr, mP_pb, mP_pF, mP_pS, mP_p0, mP_p1, mP_p2, mP_p3, mP_p4, mP_pI) = some res → WC V p l e R s m args below meth c Q A kc ks 3 (wM V ad (mT_ty, mT_te) (mQ_qc, mQ_qb, mQ_qp, mQ_qr, mQ_qC) (mK_ks, mK_kk, mK_kv, mK_kt) mN (mP_pa, mP_pd, mP_pf, mP_pi, mP_pr, mP_pb, mP_pF, mP_pS, mP_p0, mP_p1, mP_p2, mP_p3, mP_p4, mP_pI) mL mH mR mG) 142 [(0, .ref (ad 0)), (1, .int x1), (2, .int x2)] [.int y0, .ref (ad 0)] := by
  intro x1 x2 y0 mK_ks mK_kk mK_kv mK_kt mP_pa mP_pd mP_pf mP_pi mP_pr mP_pb mP_pF mP_pS mP_p0 mP_p1 mP_p2 mP_p3 mP_p4 mP_pI hf
  rw [f8_beginStatement_L142] at hf
  obtain ⟨hb, hf⟩ := gd_ok hf
  refine p8_135 C hb dX8_beginStatement_142 ?_
  refine k_aload_n C dX8_beginStatement_145 0 rfl ?_
  refine g8_55 C dX8_beginStatement_146 ?_
  refine k_iload_n C dX8_beginStatement_149 1 rfl ?_
  refine k_aload_n C dX8_beginStatement_150 0 rfl ?_
  refine g8_150 C dX8_beginStatement_151 ?_
  refine k_aload_n C dX8_beginStatement_154 0 rfl ?_
  refine g8_153 C dX8_beginStatement_155 ?_
  refine k_iadd C dX8_beginStatement_158 ?_
  obtain ⟨hi, hf⟩ := gd_no hf
  refine sm16 C hi dX8_beginStatement_159 ?_
  refine k_aload_n C dX8_beginStatement_160 0 rfl ?_
  refine k_iload_n C dX8_beginStatement_161 2 rfl ?_
  refine k_bipush (v := (94 : Int32)) C dX8_beginStatement_162 (by decide) ?_
  refine k_icmp_ne C 171 dX8_beginStatement_164 (by decide) (fun hc => ?_) (fun hc => ?_)
  · replace hf := (if_neg hc).symm.trans hf
    refine k_iconst (v := (2 : Int32)) C dX8_beginStatement_171 (by decide) ?_
    obtain ⟨⟨mP_pa_10, mP_pd_11, mP_pf_12, mP_pi_13, mP_pr_14, mP_pb_15, mP_pF_16, mP_pS_17, mP_p0_18, mP_p1_19, mP_p2_20, mP_p3_21, mP_p4_22, mP_pI_23⟩, hq_9, hf⟩ := ob_el hf
    dsimp only at hf
    refine k_callVv C (c8_push C.2.2.2.2.2.2.2.2.2.1 hq_9) cm8_171 ok8_push (by decide) 0 rfl rfl rfl rfl (Nat.le_of_ble_eq_true rfl) dX8_beginStatement_172 ?_
    cases hf
    exact K _ _ dX8_beginStatement_175
  · replace hf := (if_pos hc).symm.trans hf
    refine k_iconst (v := (5 : Int32)) C dX8_beginStatement_167 (by decide) ?_
    refine k_goto C 172 dX8_beginStatement_168 (by decide) ?_
    obtain ⟨⟨mP_pa_25, mP_pd_26, mP_pf_27, mP_pi_28, mP_pr_29, mP_pb_30, mP_pF_31, mP_pS_32, mP_p0_33, mP_p1_34, mP_p2_35, mP_p3_36, mP_p4_37, mP_pI_38⟩, hq_24, hf⟩ := ob_el hf
    dsimp only at hf
    refine k_callVv C (c8_push C.2.2.2.2.2.2.2.2.2.1 hq_24) cm8_171 ok8_push (by decide) 0 rfl rfl rfl rfl (Nat.le_of_ble_eq_true rfl) dX8_beginStatement_172 ?_
    cases hf
    exact K _ _ dX8_beginStatement_175

set_option maxHeartbeats 4000000 in
set_option maxRecDepth 100000 in
theorem w8_beginStatement_L137 {V : EV} {p : Program} {l : Launch} {e : Env} {R : Room} {s : State} {m : MethodId} {args : Array Value} {below : List Frame} {meth : Method} {c : Code} {Q : State → Prop} {A : Nat → Prop} {kc ks : Nat} {ad : Nat → Nat} {mN : MdN} {mL : MdL} {mH : MdH} {mR : MdR} {mG : MdG} {mT_ty : Int32} {mT_te : Nat → Int32} {mQ_qc : Int32} {mQ_qb : Int32} {mQ_qp : Int32} {mQ_qr : Int32} {mQ_qC : Int32}  {res : MdK × MdP} (C : CX V p l R s m args c A kc ks RX8 cX8_beginStatement 3 2 41) (K : RV V p l e R s m args below meth c Q A kc ks 3 cX8_beginStatement (wM V ad (mT_ty, mT_te) (mQ_qc, mQ_qb, mQ_qp, mQ_qr, mQ_qC) res.1 mN res.2 mL mH mR mG))  : ∀ (x1 : Int32) (x2 : Int32) (mK_ks : Int32) (mK_kk : Nat → Int32) (mK_kv : Nat → Int32) (mK_kt : Nat → Int32) (mP_pa : Int32) (mP_pd : Int32) (mP_pf : Int32) (mP_pi : Int32) (mP_pr : Int32) (mP_pb : Int32) (mP_pF : Nat → Int32) (mP_pS : Nat → Int32) (mP_p0 : Nat → Int32) (mP_p1 : Nat → Int32) (mP_p2 : Nat → Int32) (mP_p3 : Nat → Int32) (mP_p4 : Nat → Int32) (mP_pI : Nat → Int32), f8_beginStatement_L137 mT_ty mT_te mQ_qc mQ_qb mQ_qp mQ_qr mQ_qC x1 x2 (mK_ks, mK_kk, mK_kv, mK_kt) (mP_pa, mP_pd, mP_pf, mP_pi, mP_pr, mP_pb, mP_pF, mP_pS, mP_p0, mP_p1, mP_p2, mP_p3, mP_p4, mP_pI) = some res → WC V p l e R s m args below meth c Q A kc ks 3 (wM V ad (mT_ty, mT_te) (mQ_qc, mQ_qb, mQ_qp, mQ_qr, mQ_qC) (mK_ks, mK_kk, mK_kv, mK_kt) mN (mP_pa, mP_pd, mP_pf, mP_pi, mP_pr, mP_pb, mP_pF, mP_pS, mP_p0, mP_p1, mP_p2, mP_p3, mP_p4, mP_pI) mL mH mR mG) 137 [(0, .ref (ad 0)), (1, .int x1), (2, .int x2)] [.ref (ad 0)] := by
  intro x1 x2 mK_ks mK_kk mK_kv mK_kt mP_pa mP_pd mP_pf mP_pi mP_pr mP_pb mP_pF mP_pS mP_p0 mP_p1 mP_p2 mP_p3 mP_p4 mP_pI hf
  rw [f8_beginStatement_L137] at hf
  refine k_iconst (v := (1 : Int32)) C dX8_beginStatement_137 (by decide) ?_
  refine k_goto C 142 dX8_beginStatement_138 (by decide) ?_
  exact w8_beginStatement_L142 C K _ _ _ _ _ _ _ _ _ _ _ _ _ _ _ _ _ _ _ _ _ hf

set_option maxHeartbeats 4000000 in
set_option maxRecDepth 100000 in
theorem w8_beginStatement_L141 {V : EV} {p : Program} {l : Launch} {e : Env} {R : Room} {s : State} {m : MethodId} {args : Array Value} {below : List Frame} {meth : Method} {c : Code} {Q : State → Prop} {A : Nat → Prop} {kc ks : Nat} {ad : Nat → Nat} {mN : MdN} {mL : MdL} {mH : MdH} {mR : MdR} {mG : MdG} {mT_ty : Int32} {mT_te : Nat → Int32} {mQ_qc : Int32} {mQ_qb : Int32} {mQ_qp : Int32} {mQ_qr : Int32} {mQ_qC : Int32}  {res : MdK × MdP} (C : CX V p l R s m args c A kc ks RX8 cX8_beginStatement 3 2 41) (K : RV V p l e R s m args below meth c Q A kc ks 3 cX8_beginStatement (wM V ad (mT_ty, mT_te) (mQ_qc, mQ_qb, mQ_qp, mQ_qr, mQ_qC) res.1 mN res.2 mL mH mR mG))  : ∀ (x1 : Int32) (x2 : Int32) (mK_ks : Int32) (mK_kk : Nat → Int32) (mK_kv : Nat → Int32) (mK_kt : Nat → Int32) (mP_pa : Int32) (mP_pd : Int32) (mP_pf : Int32) (mP_pi : Int32) (mP_pr : Int32) (mP_pb : Int32) (mP_pF : Nat → Int32) (mP_pS : Nat → Int32) (mP_p0 : Nat → Int32) (mP_p1 : Nat → Int32) (mP_p2 : Nat → Int32) (mP_p3 : Nat → Int32) (mP_p4 : Nat → Int32) (mP_pI : Nat → Int32), f8_beginStatement_L141 mT_ty mT_te mQ_qc mQ_qb mQ_qp mQ_qr mQ_qC x1 x2 (mK_ks, mK_kk, mK_kv, mK_kt) (mP_pa, mP_pd, mP_pf, mP_pi, mP_pr, mP_pb, mP_pF, mP_pS, mP_p0, mP_p1, mP_p2, mP_p3, mP_p4, mP_pI) = some res → WC V p l e R s m args below meth c Q A kc ks 3 (wM V ad (mT_ty, mT_te) (mQ_qc, mQ_qb, mQ_qp, mQ_qr, mQ_qC) (mK_ks, mK_kk, mK_kv, mK_kt) mN (mP_pa, mP_pd, mP_pf, mP_pi, mP_pr, mP_pb, mP_pF, mP_pS, mP_p0, mP_p1, mP_p2, mP_p3, mP_p4, mP_pI) mL mH mR mG) 141 [(0, .ref (ad 0)), (1, .int x1), (2, .int x2)] [.ref (ad 0)] := by
  intro x1 x2 mK_ks mK_kk mK_kv mK_kt mP_pa mP_pd mP_pf mP_pi mP_pr mP_pb mP_pF mP_pS mP_p0 mP_p1 mP_p2 mP_p3 mP_p4 mP_pI hf
  rw [f8_beginStatement_L141] at hf
  refine k_iconst (v := (0 : Int32)) C dX8_beginStatement_141 (by decide) ?_
  exact w8_beginStatement_L142 C K _ _ _ _ _ _ _ _ _ _ _ _ _ _ _ _ _ _ _ _ _ hf

set_option maxHeartbeats 4000000 in
set_option maxRecDepth 100000 in
theorem w8_beginStatement_L111 {V : EV} {p : Program} {l : Launch} {e : Env} {R : Room} {s : State} {m : MethodId} {args : Array Value} {below : List Frame} {meth : Method} {c : Code} {Q : State → Prop} {A : Nat → Prop} {kc ks : Nat} {ad : Nat → Nat} {mN : MdN} {mL : MdL} {mH : MdH} {mR : MdR} {mG : MdG} {mT_ty : Int32} {mT_te : Nat → Int32} {mQ_qc : Int32} {mQ_qb : Int32} {mQ_qp : Int32} {mQ_qr : Int32} {mQ_qC : Int32}  {res : MdK × MdP} (C : CX V p l R s m args c A kc ks RX8 cX8_beginStatement 3 2 41) (K : RV V p l e R s m args below meth c Q A kc ks 3 cX8_beginStatement (wM V ad (mT_ty, mT_te) (mQ_qc, mQ_qb, mQ_qp, mQ_qr, mQ_qC) res.1 mN res.2 mL mH mR mG))  : ∀ (x1 : Int32) (x2 : Int32) (y0 : Int32) (y1 : Int32) (mK_ks : Int32) (mK_kk : Nat → Int32) (mK_kv : Nat → Int32) (mK_kt : Nat → Int32) (mP_pa : Int32) (mP_pd : Int32) (mP_pf : Int32) (mP_pi : Int32) (mP_pr : Int32) (mP_pb : Int32) (mP_pF : Nat → Int32) (mP_pS : Nat → Int32) (mP_p0 : Nat → Int32) (mP_p1 : Nat → Int32) (mP_p2 : Nat → Int32) (mP_p3 : Nat → Int32) (mP_p4 : Nat → Int32) (mP_pI : Nat → Int32), f8_beginStatement_L111 mT_ty mT_te mQ_qc mQ_qb mQ_qp mQ_qr mQ_qC x1 x2 y0 y1 (mK_ks, mK_kk, mK_kv, mK_kt) (mP_pa, mP_pd, mP_pf, mP_pi, mP_pr, mP_pb, mP_pF, mP_pS, mP_p0, mP_p1, mP_p2, mP_p3, mP_p4, mP_pI) = some res → WC V p l e R s m args below meth c Q A kc ks 3 (wM V ad (mT_ty, mT_te) (mQ_qc, mQ_qb, mQ_qp, mQ_qr, mQ_qC) (mK_ks, mK_kk, mK_kv, mK_kt) mN (mP_pa, mP_pd, mP_pf, mP_pi, mP_pr, mP_pb, mP_pF, mP_pS, mP_p0, mP_p1, mP_p2, mP_p3, mP_p4, mP_pI) mL mH mR mG) 111 [(0, .ref (ad 0)), (1, .int x1), (2, .int x2)] [.int y0, .int y1, .ref (ad 11)] := by
  intro x1 x2 y0 y1 mK_ks mK_kk mK_kv mK_kt mP_pa mP_pd mP_pf mP_pi mP_pr mP_pb mP_pF mP_pS mP_p0 mP_p1 mP_p2 mP_p3 mP_p4 mP_pI hf
  rw [f8_beginStatement_L111] at hf
  obtain ⟨hi, hf⟩ := gd_no hf
  refine sm11 C hi dX8_beginStatement_111 ?_
  refine k_aload_n C dX8_beginStatement_112 0 rfl ?_
  refine k_aload_n C dX8_beginStatement_113 0 rfl ?_
  refine g8_135 C dX8_beginStatement_114 ?_
  refine k_if_ne C 137 dX8_beginStatement_117 (by decide) (fun hc => ?_) (fun hc => ?_)
  · replace hf := (if_neg hc).symm.trans hf
    exact w8_beginStatement_L137 C K _ _ _ _ _ _ _ _ _ _ _ _ _ _ _ _ _ _ _ _ hf
  · replace hf := (if_pos hc).symm.trans hf
    refine k_aload_n C dX8_beginStatement_120 0 rfl ?_
    refine g8_40 C dX8_beginStatement_121 ?_
    refine k_iload_n C dX8_beginStatement_124 1 rfl ?_
    obtain ⟨hi, hf⟩ := gd_no hf
    refine lm11 C hi dX8_beginStatement_125 ?_
    refine k_bipush (v := (8 : Int32)) C dX8_beginStatement_126 (by decide) ?_
    refine k_icmp_ne C 141 dX8_beginStatement_128 (by decide) (fun hc => ?_) (fun hc => ?_)
    · replace hf := (if_neg hc).symm.trans hf
      exact w8_beginStatement_L141 C K _ _ _ _ _ _ _ _ _ _ _ _ _ _ _ _ _ _ _ _ hf
    · replace hf := (if_pos hc).symm.trans hf
      refine k_iload_n C dX8_beginStatement_131 2 rfl ?_
      refine k_bipush (v := (94 : Int32)) C dX8_beginStatement_132 (by decide) ?_
      refine k_icmp_eq C 141 dX8_beginStatement_134 (by decide) (fun hc => ?_) (fun hc => ?_)
      · replace hf := (if_pos hc).symm.trans hf
        exact w8_beginStatement_L141 C K _ _ _ _ _ _ _ _ _ _ _ _ _ _ _ _ _ _ _ _ hf
      · replace hf := (if_neg hc).symm.trans hf
        exact w8_beginStatement_L137 C K _ _ _ _ _ _ _ _ _ _ _ _ _ _ _ _ _ _ _ _ hf

set_option maxHeartbeats 4000000 in
set_option maxRecDepth 100000 in
theorem w8_beginStatement_L73 {V : EV} {p : Program} {l : Launch} {e : Env} {R : Room} {s : State} {m : MethodId} {args : Array Value} {below : List Frame} {meth : Method} {c : Code} {Q : State → Prop} {A : Nat → Prop} {kc ks : Nat} {ad : Nat → Nat} {mN : MdN} {mL : MdL} {mH : MdH} {mR : MdR} {mG : MdG} {mT_ty : Int32} {mT_te : Nat → Int32} {mQ_qc : Int32} {mQ_qb : Int32} {mQ_qp : Int32} {mQ_qr : Int32} {mQ_qC : Int32}  {res : MdK × MdP} (C : CX V p l R s m args c A kc ks RX8 cX8_beginStatement 3 2 41) (K : RV V p l e R s m args below meth c Q A kc ks 3 cX8_beginStatement (wM V ad (mT_ty, mT_te) (mQ_qc, mQ_qb, mQ_qp, mQ_qr, mQ_qC) res.1 mN res.2 mL mH mR mG))  : ∀ (x1 : Int32) (x2 : Int32) (mK_ks : Int32) (mK_kk : Nat → Int32) (mK_kv : Nat → Int32) (mK_kt : Nat → Int32) (mP_pa : Int32) (mP_pd : Int32) (mP_pf : Int32) (mP_pi : Int32) (mP_pr : Int32) (mP_pb : Int32) (mP_pF : Nat → Int32) (mP_pS : Nat → Int32) (mP_p0 : Nat → Int32) (mP_p1 : Nat → Int32) (mP_p2 : Nat → Int32) (mP_p3 : Nat → Int32) (mP_p4 : Nat → Int32) (mP_pI : Nat → Int32), f8_beginStatement_L73 mT_ty mT_te mQ_qc mQ_qb mQ_qp mQ_qr mQ_qC x1 x2 (mK_ks, mK_kk, mK_kv, mK_kt) (mP_pa, mP_pd, mP_pf, mP_pi, mP_pr, mP_pb, mP_pF, mP_pS, mP_p0, mP_p1, mP_p2, mP_p3, mP_p4, mP_pI) = some res → WC V p l e R s m args below meth c Q A kc ks 3 (wM V ad (mT_ty, mT_te) (mQ_qc, mQ_qb, mQ_qp, mQ_qr, mQ_qC) (mK_ks, mK_kk, mK_kv, mK_kt) mN (mP_pa, mP_pd, mP_pf, mP_pi, mP_pr, mP_pb, mP_pF, mP_pS, mP_p0, mP_p1, mP_p2, mP_p3, mP_p4, mP_pI) mL mH mR mG) 73 [(0, .ref (ad 0)), (1, .int x1), (2, .int x2)] [] := by
  intro x1 x2 mK_ks mK_kk mK_kv mK_kt mP_pa mP_pd mP_pf mP_pi mP_pr mP_pb mP_pF mP_pS mP_p0 mP_p1 mP_p2 mP_p3 mP_p4 mP_pI hf
  rw [f8_beginStatement_L73] at hf
  refine k_aload_n C dX8_beginStatement_73 0 rfl ?_
  refine g8_40 C dX8_beginStatement_74 ?_
  refine k_iload_n C dX8_beginStatement_77 1 rfl ?_
  refine k_iload_n C dX8_beginStatement_78 2 rfl ?_
  refine k_bipush (v := (63 : Int32)) C dX8_beginStatement_79 (by decide) ?_
  refine k_icmp_ne C 88 dX8_beginStatement_81 (by decide) (fun hc => ?_) (fun hc => ?_)
  · replace hf := (if_neg hc).symm.trans hf
    refine k_iload_n C dX8_beginStatement_88 2 rfl ?_
    refine k_bipush (v := (64 : Int32)) C dX8_beginStatement_89 (by decide) ?_
    refine k_icmp_ne C 98 dX8_beginStatement_91 (by decide) (fun hc => ?_) (fun hc => ?_)
    · replace hf := (if_neg hc).symm.trans hf
      refine k_iload_n C dX8_beginStatement_98 2 rfl ?_
      refine k_bipush (v := (33 : Int32)) C dX8_beginStatement_99 (by decide) ?_
      refine k_icmp_ne C 109 dX8_beginStatement_101 (by decide) (fun hc => ?_) (fun hc => ?_)
      · replace hf := (if_neg hc).symm.trans hf
        refine k_bipush (v := (8 : Int32)) C dX8_beginStatement_109 (by decide) ?_
        exact w8_beginStatement_L111 C K _ _ _ _ _ _ _ _ _ _ _ _ _ _ _ _ _ _ _ _ _ _ hf
      · replace hf := (if_pos hc).symm.trans hf
        refine k_bipush (v := (7 : Int32)) C dX8_beginStatement_104 (by decide) ?_
        refine k_goto C 111 dX8_beginStatement_106 (by decide) ?_
        exact w8_beginStatement_L111 C K _ _ _ _ _ _ _ _ _ _ _ _ _ _ _ _ _ _ _ _ _ _ hf
    · replace hf := (if_pos hc).symm.trans hf
      refine k_iconst (v := (5 : Int32)) C dX8_beginStatement_94 (by decide) ?_
      refine k_goto C 111 dX8_beginStatement_95 (by decide) ?_
      exact w8_beginStatement_L111 C K _ _ _ _ _ _ _ _ _ _ _ _ _ _ _ _ _ _ _ _ _ _ hf
  · replace hf := (if_pos hc).symm.trans hf
    refine k_iconst (v := (2 : Int32)) C dX8_beginStatement_84 (by decide) ?_
    refine k_goto C 111 dX8_beginStatement_85 (by decide) ?_
    exact w8_beginStatement_L111 C K _ _ _ _ _ _ _ _ _ _ _ _ _ _ _ _ _ _ _ _ _ _ hf
set_option maxHeartbeats 4000000 in
set_option maxRecDepth 100000 in
theorem b8_beginStatement {V : EV} {p : Program} {l : Launch} {e : Env} {R : Room} {s : State} {m : MethodId} {args : Array Value} {below : List Frame} {meth : Method} {c : Code} {Q : State → Prop} {A : Nat → Prop} {kc ks : Nat} {ad : Nat → Nat} {mN : MdN} {mL : MdL} {mH : MdH} {mR : MdR} {mG : MdG} {mT_ty : Int32} {mT_te : Nat → Int32} {mQ_qc : Int32} {mQ_qb : Int32} {mQ_qp : Int32} {mQ_qr : Int32} {mQ_qC : Int32} {v1 : Int32} {mK_ks : Int32} {mK_kk : Nat → Int32} {mK_kv : Nat → Int32} {mK_kt : Nat → Int32} {mP_pa : Int32} {mP_pd : Int32} {mP_pf : Int32} {mP_pi : Int32} {mP_pr : Int32} {mP_pb : Int32} {mP_pF : Nat → Int32} {mP_pS : Nat → Int32} {mP_p0 : Nat → Int32} {mP_p1 : Nat → Int32} {mP_p2 : Nat → Int32} {mP_p3 : Nat → Int32} {mP_p4 : Nat → Int32} {mP_pI : Nat → Int32} {res : MdK × MdP} (C : CX V p l R s m args c A kc ks RX8 cX8_beginStatement 3 2 41) (hf : f8_beginStatement v1 (mT_ty, mT_te) (mQ_qc, mQ_qb, mQ_qp, mQ_qr, mQ_qC) (mK_ks, mK_kk, mK_kv, mK_kt) (mP_pa, mP_pd, mP_pf, mP_pi, mP_pr, mP_pb, mP_pF, mP_pS, mP_p0, mP_p1, mP_p2, mP_p3, mP_p4, mP_pI) = some res) (K : RV V p l e R s m args below meth c Q A kc ks 3 cX8_beginStatement (wM V ad (mT_ty, mT_te) (mQ_qc, mQ_qb, mQ_qp, mQ_qr, mQ_qC) res.1 mN res.2 mL mH mR mG)) : WC V p l e R s m args below meth c Q A kc ks 3 (wM V ad (mT_ty, mT_te) (mQ_qc, mQ_qb, mQ_qp, mQ_qr, mQ_qC) (mK_ks, mK_kk, mK_kv, mK_kt) mN (mP_pa, mP_pd, mP_pf, mP_pi, mP_pr, mP_pb, mP_pF, mP_pS, mP_p0, mP_p1, mP_p2, mP_p3, mP_p4, mP_pI) mL mH mR mG) 0 [(0, .ref (ad 0)), (1, .int v1)] [] := by
  rw [f8_beginStatement] at hf
  refine k_aload_n C dX8_beginStatement_0 0 rfl ?_
  obtain ⟨r_2, hq_1, hf⟩ := ob_el hf
  refine k_callVi C (c8_peek C.2.2.2.2.2.2.2.2.2.1 hq_1) cm8_139 ok8_peek (by decide) 0 rfl rfl rfl rfl (Nat.le_of_ble_eq_true rfl) dX8_beginStatement_1 ?_
  refine k_istore_n C dX8_beginStatement_4 [(2, .int r_2), (0, .ref (ad 0)), (1, .int v1)] (by decide) rfl ?_
  refine k_aload_n C dX8_beginStatement_5 1 rfl ?_
  refine g8_46 C dX8_beginStatement_6 ?_
  refine k_iload_n C dX8_beginStatement_9 2 rfl ?_
  refine k_aload_n C dX8_beginStatement_10 1 rfl ?_
  refine k_iconst (v := (1 : Int32)) C dX8_beginStatement_11 (by decide) ?_
  refine k_iconst (v := (0 : Int32)) C dX8_beginStatement_12 (by decide) ?_
  refine k_aload_n C dX8_beginStatement_13 1 rfl ?_
  refine g8_132 C dX8_beginStatement_14 ?_
  obtain ⟨⟨r_4, ⟨mK_ks_5, mK_kk_6, mK_kv_7, mK_kt_8⟩⟩, hq_3, hf⟩ := ob_el hf
  dsimp only at hf
  refine k_callVi C (c8_emit C.2.2.2.2.2.2.2.2.2.1 hq_3) cm8_178 ok8_emit (by decide) 0 rfl rfl rfl rfl (Nat.le_of_ble_eq_true rfl) dX8_beginStatement_17 ?_
  obtain ⟨hi, hf⟩ := gd_no hf
  refine sm13 C hi dX8_beginStatement_20 ?_
  refine k_aload_n C dX8_beginStatement_21 1 rfl ?_
  refine k_dup C dX8_beginStatement_22 rfl ?_
  refine g8_132 C dX8_beginStatement_23 ?_
  refine k_iconst (v := (1 : Int32)) C dX8_beginStatement_26 (by decide) ?_
  refine k_iadd C dX8_beginStatement_27 ?_
  refine p8_132 C dX8_beginStatement_28 ?_
  refine k_iload_n C dX8_beginStatement_31 0 rfl ?_
  refine k_bipush (v := (97 : Int32)) C dX8_beginStatement_32 (by decide) ?_
  refine k_icmp_lt C 73 dX8_beginStatement_34 (by decide) (fun hc => ?_) (fun hc => ?_)
  · replace hf := (if_pos hc).symm.trans hf
    refine k_sub [1, 2, 0] (L' := [(0, .ref (ad 0)), (1, .int v1), (2, .int r_2)]) rfl ?_
    exact w8_beginStatement_L73 C K _ _ _ _ _ _ _ _ _ _ _ _ _ _ _ _ _ _ _ _ hf
  · replace hf := (if_neg hc).symm.trans hf
    refine k_iload_n C dX8_beginStatement_37 0 rfl ?_
    refine k_bipush (v := (102 : Int32)) C dX8_beginStatement_38 (by decide) ?_
    refine k_icmp_gt C 73 dX8_beginStatement_40 (by decide) (fun hc => ?_) (fun hc => ?_)
    · replace hf := (if_pos hc).symm.trans hf
      refine k_sub [1, 2, 0] (L' := [(0, .ref (ad 0)), (1, .int v1), (2, .int r_2)]) rfl ?_
      exact w8_beginStatement_L73 C K _ _ _ _ _ _ _ _ _ _ _ _ _ _ _ _ _ _ _ _ hf
    · replace hf := (if_neg hc).symm.trans hf
      refine k_aload_n C dX8_beginStatement_43 1 rfl ?_
      refine g8_49 C dX8_beginStatement_44 ?_
      refine k_iload_n C dX8_beginStatement_47 2 rfl ?_
      refine k_iload_n C dX8_beginStatement_48 0 rfl ?_
      refine k_bipush (v := (97 : Int32)) C dX8_beginStatement_49 (by decide) ?_
      refine k_isub C dX8_beginStatement_51 ?_
      obtain ⟨hi, hf⟩ := gd_no hf
      refine sm14 C hi dX8_beginStatement_52 ?_
      refine k_aload_n C dX8_beginStatement_53 1 rfl ?_
      refine k_bipush (v := (61 : Int32)) C dX8_beginStatement_54 (by decide) ?_
      obtain ⟨⟨r_40, ⟨mP_pa_41, mP_pd_42, mP_pf_43, mP_pi_44, mP_pr_45, mP_pb_46, mP_pF_47, mP_pS_48, mP_p0_49, mP_p1_50, mP_p2_51, mP_p3_52, mP_p4_53, mP_pI_54⟩⟩, hq_39, hf⟩ := ob_el hf
      dsimp only at hf
      refine k_callVi C (c8_take C.2.2.2.2.2.2.2.2.2.1 hq_39) cm8_143 ok8_take (by decide) 0 rfl rfl rfl rfl (Nat.le_of_ble_eq_true rfl) dX8_beginStatement_56 ?_
      refine k_pop C dX8_beginStatement_59 rfl ?_
      refine k_aload_n C dX8_beginStatement_60 1 rfl ?_
      refine g8_40 C dX8_beginStatement_61 ?_
      refine k_iload_n C dX8_beginStatement_64 2 rfl ?_
      refine k_iconst (v := (1 : Int32)) C dX8_beginStatement_65 (by decide) ?_
      obtain ⟨hi, hf⟩ := gd_no hf
      refine sm11 C hi dX8_beginStatement_66 ?_
      refine k_aload_n C dX8_beginStatement_67 1 rfl ?_
      refine k_iconst (v := (5 : Int32)) C dX8_beginStatement_68 (by decide) ?_
      obtain ⟨⟨mP_pa_56, mP_pd_57, mP_pf_58, mP_pi_59, mP_pr_60, mP_pb_61, mP_pF_62, mP_pS_63, mP_p0_64, mP_p1_65, mP_p2_66, mP_p3_67, mP_p4_68, mP_pI_69⟩, hq_55, hf⟩ := ob_el hf
      dsimp only at hf
      refine k_callVv C (c8_push C.2.2.2.2.2.2.2.2.2.1 hq_55) cm8_171 ok8_push (by decide) 0 rfl rfl rfl rfl (Nat.le_of_ble_eq_true rfl) dX8_beginStatement_69 ?_
      cases hf
      exact K _ _ dX8_beginStatement_72
theorem c8_beginStatement {V : EV} {l : Launch} (hl0 : l.stackTraces = false) {ad : Nat → Nat} {mN : MdN} {mL : MdL} {mH : MdH} {mR : MdR} {mG : MdG} {mT_ty : Int32} {mT_te : Nat → Int32} {mQ_qc : Int32} {mQ_qb : Int32} {mQ_qp : Int32} {mQ_qr : Int32} {mQ_qC : Int32} {v1 : Int32} {mK_ks : Int32} {mK_kk : Nat → Int32} {mK_kv : Nat → Int32} {mK_kt : Nat → Int32} {mP_pa : Int32} {mP_pd : Int32} {mP_pf : Int32} {mP_pi : Int32} {mP_pr : Int32} {mP_pb : Int32} {mP_pF : Nat → Int32} {mP_pS : Nat → Int32} {mP_p0 : Nat → Int32} {mP_p1 : Nat → Int32} {mP_p2 : Nat → Int32} {mP_p3 : Nat → Int32} {mP_p4 : Nat → Int32} {mP_pI : Nat → Int32} {res : MdK × MdP} (hf : f8_beginStatement v1 (mT_ty, mT_te) (mQ_qc, mQ_qb, mQ_qp, mQ_qr, mQ_qC) (mK_ks, mK_kk, mK_kv, mK_kt) (mP_pa, mP_pd, mP_pf, mP_pi, mP_pr, mP_pb, mP_pF, mP_pS, mP_p0, mP_p1, mP_p2, mP_p3, mP_p4, mP_pI) = some res) : MV V l yX8_beginStatement cX8_beginStatement 3 2 41 [.ref (ad 0), .int v1] (wM V ad (mT_ty, mT_te) (mQ_qc, mQ_qb, mQ_qp, mQ_qr, mQ_qC) (mK_ks, mK_kk, mK_kv, mK_kt) mN (mP_pa, mP_pd, mP_pf, mP_pi, mP_pr, mP_pb, mP_pF, mP_pS, mP_p0, mP_p1, mP_p2, mP_p3, mP_p4, mP_pI) mL mH mR mG) (wM V ad (mT_ty, mT_te) (mQ_qc, mQ_qb, mQ_qp, mQ_qr, mQ_qC) res.1 mN res.2 mL mH mR mG) :=
  mv_of hl0 (by decide +kernel) (Nat.le_of_ble_eq_true rfl) (fun p e R s m args below meth c Q A C K => b8_beginStatement C hf K)

theorem cm8_227 : ∀ a ∈ wsCV RX8 227 RX8 yX8_land cX8_land 2 none, a ∈ GW := by
  unfold wsCV
  exact (List.forall_mem_cons.mpr ⟨(gw_6 (i := 15) (by decide +kernel) rfl), (List.forall_mem_cons.mpr ⟨(gw_6 (i := 17) (by decide +kernel) rfl), (List.forall_mem_cons.mpr ⟨(gw_p (q := ((yX8_land, 63) : MethodName × Nat)) (List.mem_append_right _ (List.mem_append_right _ (List.mem_append_right _ (List.mem_append_right _ (List.mem_append_left _ (List.mem_of_getElem? (i := 10) (by decide +kernel))))))) rfl), (List.forall_mem_cons.mpr ⟨(gw_1 (i := 9) (by decide +kernel) rfl), (List.forall_mem_cons.mpr ⟨(gw_6 (i := 18) (by decide +kernel) rfl), (List.forall_mem_nil _)⟩)⟩)⟩)⟩)⟩)
theorem ok8_end : okCV RX8 yX8_end 2 := by unfold okCV; decide +kernel
def f8_end (v1 : Int32) (v2 : Int32) : MdQ → MdK → MdP → Option (MdK × MdP)
  | (mQ_qc, mQ_qb, mQ_qp, mQ_qr, mQ_qC), (mK_ks, mK_kk, mK_kv, mK_kt), (mP_pa, mP_pd, mP_pf, mP_pi, mP_pr, mP_pb, mP_pF, mP_pS, mP_p0, mP_p1, mP_p2, mP_p3, mP_p4, mP_pI) =>
    if v1 < 0 ∨ 80 ≤ v1.toNatClampNeg then none else (f8_land (mP_p1 v1.toNatClampNeg) (mQ_qc, mQ_qb, mQ_qp, mQ_qr, mQ_qC) (mK_ks, mK_kk, mK_kv, mK_kt)).bind fun (mK_ks_2, mK_kk_3, mK_kv_4, mK_kt_5) => (f8_finish v2 (mP_pa, mP_pd, mP_pf, mP_pi, mP_pr, mP_pb, mP_pF, mP_pS, mP_p0, mP_p1, mP_p2, mP_p3, mP_p4, mP_pI)).bind fun (mP_pa_7, mP_pd_8, mP_pf_9, mP_pi_10, mP_pr_11, mP_pb_12, mP_pF_13, mP_pS_14, mP_p0_15, mP_p1_16, mP_p2_17, mP_p3_18, mP_p4_19, mP_pI_20) => some ((mK_ks_2, mK_kk_3, mK_kv_4, mK_kt_5), (mP_pa_7, mP_pd_8, mP_pf_9, mP_pi_10, mP_pr_11, mP_pb_12, mP_pF_13, mP_pS_14, mP_p0_15, mP_p1_16, mP_p2_17, mP_p3_18, mP_p4_19, mP_pI_20))
set_option maxHeartbeats 4000000 in
set_option maxRecDepth 100000 in
theorem b8_end {V : EV} {p : Program} {l : Launch} {e : Env} {R : Room} {s : State} {m : MethodId} {args : Array Value} {below : List Frame} {meth : Method} {c : Code} {Q : State → Prop} {A : Nat → Prop} {kc ks : Nat} {ad : Nat → Nat} {mT : MdT} {mN : MdN} {mL : MdL} {mH : MdH} {mR : MdR} {mG : MdG} {mQ_qc : Int32} {mQ_qb : Int32} {mQ_qp : Int32} {mQ_qr : Int32} {mQ_qC : Int32} {v1 : Int32} {v2 : Int32} {mK_ks : Int32} {mK_kk : Nat → Int32} {mK_kv : Nat → Int32} {mK_kt : Nat → Int32} {mP_pa : Int32} {mP_pd : Int32} {mP_pf : Int32} {mP_pi : Int32} {mP_pr : Int32} {mP_pb : Int32} {mP_pF : Nat → Int32} {mP_pS : Nat → Int32} {mP_p0 : Nat → Int32} {mP_p1 : Nat → Int32} {mP_p2 : Nat → Int32} {mP_p3 : Nat → Int32} {mP_p4 : Nat → Int32} {mP_pI : Nat → Int32} {res : MdK × MdP} (C : CX V p l R s m args c A kc ks RX8 cX8_end 3 1 21) (hf : f8_end v1 v2 (mQ_qc, mQ_qb, mQ_qp, mQ_qr, mQ_qC) (mK_ks, mK_kk, mK_kv, mK_kt) (mP_pa, mP_pd, mP_pf, mP_pi, mP_pr, mP_pb, mP_pF, mP_pS, mP_p0, mP_p1, mP_p2, mP_p3, mP_p4, mP_pI) = some res) (K : RV V p l e R s m args below meth c Q A kc ks 3 cX8_end (wM V ad mT (mQ_qc, mQ_qb, mQ_qp, mQ_qr, mQ_qC) res.1 mN res.2 mL mH mR mG)) : WC V p l e R s m args below meth c Q A kc ks 3 (wM V ad mT (mQ_qc, mQ_qb, mQ_qp, mQ_qr, mQ_qC) (mK_ks, mK_kk, mK_kv, mK_kt) mN (mP_pa, mP_pd, mP_pf, mP_pi, mP_pr, mP_pb, mP_pF, mP_pS, mP_p0, mP_p1, mP_p2, mP_p3, mP_p4, mP_pI) mL mH mR mG) 0 [(0, .ref (ad 0)), (1, .int v1), (2, .int v2)] [] := by
  rw [f8_end] at hf
  refine k_aload_n C dX8_end_0 0 rfl ?_
  refine k_aload_n C dX8_end_1 0 rfl ?_
  refine g8_46 C dX8_end_2 ?_
  refine k_iload_n C dX8_end_5 1 rfl ?_
  obtain ⟨hi, hf⟩ := gd_no hf
  refine lm13 C hi dX8_end_6 ?_
  obtain ⟨⟨mK_ks_2, mK_kk_3, mK_kv_4, mK_kt_5⟩, hq_1, hf⟩ := ob_el hf
  dsimp only at hf
  refine k_callVv C (c8_land C.2.2.2.2.2.2.2.2.2.1 hq_1) cm8_227 ok8_land (by decide) 0 rfl rfl rfl rfl (Nat.le_of_ble_eq_true rfl) dX8_end_7 ?_
  refine k_aload_n C dX8_end_10 0 rfl ?_
  refine k_iload_n C dX8_end_11 2 rfl ?_
  obtain ⟨⟨mP_pa_7, mP_pd_8, mP_pf_9, mP_pi_10, mP_pr_11, mP_pb_12, mP_pF_13, mP_pS_14, mP_p0_15, mP_p1_16, mP_p2_17, mP_p3_18, mP_p4_19, mP_pI_20⟩, hq_6, hf⟩ := ob_el hf
  dsimp only at hf
  refine k_callVv C (c8_finish C.2.2.2.2.2.2.2.2.2.1 hq_6) cm8_209 ok8_finish (by decide) 0 rfl rfl rfl rfl (Nat.le_of_ble_eq_true rfl) dX8_end_12 ?_
  cases hf
  exact K _ _ dX8_end_15
theorem c8_end {V : EV} {l : Launch} (hl0 : l.stackTraces = false) {ad : Nat → Nat} {mT : MdT} {mN : MdN} {mL : MdL} {mH : MdH} {mR : MdR} {mG : MdG} {mQ_qc : Int32} {mQ_qb : Int32} {mQ_qp : Int32} {mQ_qr : Int32} {mQ_qC : Int32} {v1 : Int32} {v2 : Int32} {mK_ks : Int32} {mK_kk : Nat → Int32} {mK_kv : Nat → Int32} {mK_kt : Nat → Int32} {mP_pa : Int32} {mP_pd : Int32} {mP_pf : Int32} {mP_pi : Int32} {mP_pr : Int32} {mP_pb : Int32} {mP_pF : Nat → Int32} {mP_pS : Nat → Int32} {mP_p0 : Nat → Int32} {mP_p1 : Nat → Int32} {mP_p2 : Nat → Int32} {mP_p3 : Nat → Int32} {mP_p4 : Nat → Int32} {mP_pI : Nat → Int32} {res : MdK × MdP} (hf : f8_end v1 v2 (mQ_qc, mQ_qb, mQ_qp, mQ_qr, mQ_qC) (mK_ks, mK_kk, mK_kv, mK_kt) (mP_pa, mP_pd, mP_pf, mP_pi, mP_pr, mP_pb, mP_pF, mP_pS, mP_p0, mP_p1, mP_p2, mP_p3, mP_p4, mP_pI) = some res) : MV V l yX8_end cX8_end 3 1 21 [.ref (ad 0), .int v1, .int v2] (wM V ad mT (mQ_qc, mQ_qb, mQ_qp, mQ_qr, mQ_qC) (mK_ks, mK_kk, mK_kv, mK_kt) mN (mP_pa, mP_pd, mP_pf, mP_pi, mP_pr, mP_pb, mP_pF, mP_pS, mP_p0, mP_p1, mP_p2, mP_p3, mP_p4, mP_pI) mL mH mR mG) (wM V ad mT (mQ_qc, mQ_qb, mQ_qp, mQ_qr, mQ_qC) res.1 mN res.2 mL mH mR mG) :=
  mv_of hl0 (by decide +kernel) (Nat.le_of_ble_eq_true rfl) (fun p e R s m args below meth c Q A C K => b8_end C hf K)

theorem cm8_215 : ∀ a ∈ wsCV RX8 215 RX8 yX8_end cX8_end 3 none, a ∈ GW := by
  unfold wsCV
  exact (List.forall_mem_cons.mpr ⟨(gw_6 (i := 11) (by decide +kernel) rfl), (List.forall_mem_cons.mpr ⟨(gw_6 (i := 13) (by decide +kernel) rfl), (List.forall_mem_cons.mpr ⟨(gw_p (q := ((yX8_end, 63) : MethodName × Nat)) (List.mem_append_right _ (List.mem_append_right _ (List.mem_append_right _ (List.mem_append_right _ (List.mem_append_left _ (List.mem_of_getElem? (i := 9) (by decide +kernel))))))) rfl), (List.forall_mem_cons.mpr ⟨(gw_1 (i := 9) (by decide +kernel) rfl), (List.forall_mem_cons.mpr ⟨(gw_6 (i := 14) (by decide +kernel) rfl), (List.forall_mem_nil _)⟩)⟩)⟩)⟩)⟩)
theorem cm8_218 : ∀ a ∈ wsCV RX8 218 RX8 yX8_open cX8_open 2 none, a ∈ GW := by
  unfold wsCV
  exact (List.forall_mem_cons.mpr ⟨(gw_6 (i := 19) (by decide +kernel) rfl), (List.forall_mem_cons.mpr ⟨(gw_6 (i := 21) (by decide +kernel) rfl), (List.forall_mem_cons.mpr ⟨(gw_p (q := ((yX8_open, 63) : MethodName × Nat)) (List.mem_append_right _ (List.mem_append_right _ (List.mem_append_right _ (List.mem_append_right _ (List.mem_append_left _ (List.mem_of_getElem? (i := 11) (by decide +kernel))))))) rfl), (List.forall_mem_cons.mpr ⟨(gw_1 (i := 9) (by decide +kernel) rfl), (List.forall_mem_cons.mpr ⟨(gw_6 (i := 22) (by decide +kernel) rfl), (List.forall_mem_nil _)⟩)⟩)⟩)⟩)⟩)
theorem cm8_224 : ∀ a ∈ wsCV RX8 224 RX8 yX8_close cX8_close 2 none, a ∈ GW := by
  unfold wsCV
  exact (List.forall_mem_cons.mpr ⟨(gw_6 (i := 27) (by decide +kernel) rfl), (List.forall_mem_cons.mpr ⟨(gw_6 (i := 29) (by decide +kernel) rfl), (List.forall_mem_cons.mpr ⟨(gw_p (q := ((yX8_close, 63) : MethodName × Nat)) (List.mem_append_right _ (List.mem_append_right _ (List.mem_append_right _ (List.mem_append_right _ (List.mem_append_left _ (List.mem_of_getElem? (i := 13) (by decide +kernel))))))) rfl), (List.forall_mem_cons.mpr ⟨(gw_1 (i := 9) (by decide +kernel) rfl), (List.forall_mem_cons.mpr ⟨(gw_6 (i := 30) (by decide +kernel) rfl), (List.forall_mem_nil _)⟩)⟩)⟩)⟩)⟩)
theorem ok8_endThen : okCV RX8 yX8_endThen 2 := by unfold okCV; decide +kernel
def f8_endThen (v1 : Int32) (v2 : Int32) : MdT → MdQ → MdK → MdN → MdP → Option (MdK × MdN × MdP)
  | (mT_ty, mT_te), (mQ_qc, mQ_qb, mQ_qp, mQ_qr, mQ_qC), (mK_ks, mK_kk, mK_kv, mK_kt), (mN_nn, mN_nk, mN_na, mN_nb, mN_nc, mN_ns), (mP_pa, mP_pd, mP_pf, mP_pi, mP_pr, mP_pb, mP_pF, mP_pS, mP_p0, mP_p1, mP_p2, mP_p3, mP_p4, mP_pI) =>
    (f8_close (125 : Int32) (mT_ty, mT_te) (mP_pa, mP_pd, mP_pf, mP_pi, mP_pr, mP_pb, mP_pF, mP_pS, mP_p0, mP_p1, mP_p2, mP_p3, mP_p4, mP_pI)).bind fun (mP_pa_2, mP_pd_3, mP_pf_4, mP_pi_5, mP_pr_6, mP_pb_7, mP_pF_8, mP_pS_9, mP_p0_10, mP_p1_11, mP_p2_12, mP_p3_13, mP_p4_14, mP_pI_15) => if v1 < 0 ∨ 80 ≤ v1.toNatClampNeg then none else (f8_peek (mT_ty, mT_te) (mP_pa_2, mP_pd_3, mP_pf_4, mP_pi_5, mP_pr_6, mP_pb_7, mP_pF_8, mP_pS_9, mP_p0_10, mP_p1_11, (upd mP_p2_12 v1.toNatClampNeg mP_pr_6), mP_p3_13, mP_p4_14, mP_pI_15)).bind fun r_17 => if r_17 = (123 : Int32) then (f8_open (123 : Int32) (mT_ty, mT_te) (mP_pa_2, mP_pd_3, mP_pf_4, mP_pi_5, mP_pr_6, mP_pb_7, mP_pF_8, mP_pS_9, mP_p0_10, mP_p1_11, (upd mP_p2_12 v1.toNatClampNeg mP_pr_6), mP_p3_13, mP_p4_14, mP_pI_15)).bind fun (mP_pa_19, mP_pd_20, mP_pf_21, mP_pi_22, mP_pr_23, mP_pb_24, mP_pF_25, mP_pS_26, mP_p0_27, mP_p1_28, mP_p2_29, mP_p3_30, mP_p4_31, mP_pI_32) => (f8_emit (10 : Int32) (0 : Int32) (-1 : Int32) (mQ_qc, mQ_qb, mQ_qp, mQ_qr, mQ_qC) (mK_ks, mK_kk, mK_kv, mK_kt)).bind fun (r_34, (mK_ks_35, mK_kk_36, mK_kv_37, mK_kt_38)) => if v1 < 0 ∨ 80 ≤ v1.toNatClampNeg then none else if v1 < 0 ∨ 80 ≤ v1.toNatClampNeg then none else (f8_land (mP_p3_30 v1.toNatClampNeg) (mQ_qc, mQ_qb, mQ_qp, mQ_qr, mQ_qC) (mK_ks_35, mK_kk_36, mK_kv_37, mK_kt_38)).bind fun (mK_ks_40, mK_kk_41, mK_kv_42, mK_kt_43) => if v1 < 0 ∨ 80 ≤ v1.toNatClampNeg then none else (f8_push (0 : Int32) (mP_pa_19, mP_pd_20, mP_pf_21, mP_pi_22, mP_pr_23, mP_pb_24, mP_pF_25, (upd mP_pS_26 v1.toNatClampNeg (4 : Int32)), mP_p0_27, mP_p1_28, mP_p2_29, mP_p3_30, (upd mP_p4_31 v1.toNatClampNeg r_34), mP_pI_32)).bind fun (mP_pa_45, mP_pd_46, mP_pf_47, mP_pi_48, mP_pr_49, mP_pb_50, mP_pF_51, mP_pS_52, mP_p0_53, mP_p1_54, mP_p2_55, mP_p3_56, mP_p4_57, mP_pI_58) => some ((mK_ks_40, mK_kk_41, mK_kv_42, mK_kt_43), (mN_nn, mN_nk, mN_na, mN_nb, mN_nc, mN_ns), (mP_pa_45, mP_pd_46, mP_pf_47, mP_pi_48, mP_pr_49, mP_pb_50, mP_pF_51, mP_pS_52, mP_p0_53, mP_p1_54, mP_p2_55, mP_p3_56, mP_p4_57, mP_pI_58)) else if v1 < 0 ∨ 80 ≤ v1.toNatClampNeg then none else (f8_land (mP_p3_13 v1.toNatClampNeg) (mQ_qc, mQ_qb, mQ_qp, mQ_qr, mQ_qC) (mK_ks, mK_kk, mK_kv, mK_kt)).bind fun (mK_ks_60, mK_kk_61, mK_kv_62, mK_kt_63) => if v1 < 0 ∨ 80 ≤ v1.toNatClampNeg then none else if v1 < 0 ∨ 80 ≤ v1.toNatClampNeg then none else (f8_create (7 : Int32) (mP_p0_10 v1.toNatClampNeg) ((upd mP_p2_12 v1.toNatClampNeg mP_pr_6) v1.toNatClampNeg) (-1 : Int32) v2 (mQ_qc, mQ_qb, mQ_qp, mQ_qr, mQ_qC) (mN_nn, mN_nk, mN_na, mN_nb, mN_nc, mN_ns)).bind fun (r_65, (mN_nn_66, mN_nk_67, mN_na_68, mN_nb_69, mN_nc_70, mN_ns_71)) => (f8_end v1 r_65 (mQ_qc, mQ_qb, mQ_qp, mQ_qr, mQ_qC) (mK_ks_60, mK_kk_61, mK_kv_62, mK_kt_63) (mP_pa_2, mP_pd_3, mP_pf_4, mP_pi_5, mP_pr_6, mP_pb_7, mP_pF_8, mP_pS_9, mP_p0_10, mP_p1_11, (upd mP_p2_12 v1.toNatClampNeg mP_pr_6), mP_p3_13, mP_p4_14, mP_pI_15)).bind fun ((mK_ks_73, mK_kk_74, mK_kv_75, mK_kt_76), (mP_pa_77, mP_pd_78, mP_pf_79, mP_pi_80, mP_pr_81, mP_pb_82, mP_pF_83, mP_pS_84, mP_p0_85, mP_p1_86, mP_p2_87, mP_p3_88, mP_p4_89, mP_pI_90)) => some ((mK_ks_73, mK_kk_74, mK_kv_75, mK_kt_76), (mN_nn_66, mN_nk_67, mN_na_68, mN_nb_69, mN_nc_70, mN_ns_71), (mP_pa_77, mP_pd_78, mP_pf_79, mP_pi_80, mP_pr_81, mP_pb_82, mP_pF_83, mP_pS_84, mP_p0_85, mP_p1_86, mP_p2_87, mP_p3_88, mP_p4_89, mP_pI_90))
set_option maxHeartbeats 4000000 in
set_option maxRecDepth 100000 in
theorem b8_endThen {V : EV} {p : Program} {l : Launch} {e : Env} {R : Room} {s : State} {m : MethodId} {args : Array Value} {below : List Frame} {meth : Method} {c : Code} {Q : State → Prop} {A : Nat → Prop} {kc ks : Nat} {ad : Nat → Nat} {mL : MdL} {mH : MdH} {mR : MdR} {mG : MdG} {mT_ty : Int32} {mT_te : Nat → Int32} {mQ_qc : Int32} {mQ_qb : Int32} {mQ_qp : Int32} {mQ_qr : Int32} {mQ_qC : Int32} {v1 : Int32} {v2 : Int32} {mK_ks : Int32} {mK_kk : Nat → Int32} {mK_kv : Nat → Int32} {mK_kt : Nat → Int32} {mN_nn : Int32} {mN_nk : Nat → Int32} {mN_na : Nat → Int32} {mN_nb : Nat → Int32} {mN_nc : Nat → Int32} {mN_ns : Nat → Int32} {mP_pa : Int32} {mP_pd : Int32} {mP_pf : Int32} {mP_pi : Int32} {mP_pr : Int32} {mP_pb : Int32} {mP_pF : Nat → Int32} {mP_pS : Nat → Int32} {mP_p0 : Nat → Int32} {mP_p1 : Nat → Int32} {mP_p2 : Nat → Int32} {mP_p3 : Nat → Int32} {mP_p4 : Nat → Int32} {mP_pI : Nat → Int32} {res : MdK × MdN × MdP} (C : CX V p l R s m args c A kc ks RX8 cX8_endThen 3 3 62) (hf : f8_endThen v1 v2 (mT_ty, mT_te) (mQ_qc, mQ_qb, mQ_qp, mQ_qr, mQ_qC) (mK_ks, mK_kk, mK_kv, mK_kt) (mN_nn, mN_nk, mN_na, mN_nb, mN_nc, mN_ns) (mP_pa, mP_pd, mP_pf, mP_pi, mP_pr, mP_pb, mP_pF, mP_pS, mP_p0, mP_p1, mP_p2, mP_p3, mP_p4, mP_pI) = some res) (K : RV V p l e R s m args below meth c Q A kc ks 3 cX8_endThen (wM V ad (mT_ty, mT_te) (mQ_qc, mQ_qb, mQ_qp, mQ_qr, mQ_qC) res.1 res.2.1 res.2.2 mL mH mR mG)) : WC V p l e R s m args below meth c Q A kc ks 3 (wM V ad (mT_ty, mT_te) (mQ_qc, mQ_qb, mQ_qp, mQ_qr, mQ_qC) (mK_ks, mK_kk, mK_kv, mK_kt) (mN_nn, mN_nk, mN_na, mN_nb, mN_nc, mN_ns) (mP_pa, mP_pd, mP_pf, mP_pi, mP_pr, mP_pb, mP_pF, mP_pS, mP_p0, mP_p1, mP_p2, mP_p3, mP_p4, mP_pI) mL mH mR mG) 0 [(0, .ref (ad 0)), (1, .int v1), (2, .int v2)] [] := by
  rw [f8_endThen] at hf
  refine k_aload_n C dX8_endThen_0 0 rfl ?_
  refine k_bipush (v := (125 : Int32)) C dX8_endThen_1 (by decide) ?_
  obtain ⟨⟨mP_pa_2, mP_pd_3, mP_pf_4, mP_pi_5, mP_pr_6, mP_pb_7, mP_pF_8, mP_pS_9, mP_p0_10, mP_p1_11, mP_p2_12, mP_p3_13, mP_p4_14, mP_pI_15⟩, hq_1, hf⟩ := ob_el hf
  dsimp only at hf
  refine k_callVv C (c8_close C.2.2.2.2.2.2.2.2.2.1 hq_1) cm8_224 ok8_close (by decide) 0 rfl rfl rfl rfl (Nat.le_of_ble_eq_true rfl) dX8_endThen_3 ?_
  refine k_aload_n C dX8_endThen_6 0 rfl ?_
  refine g8_49 C dX8_endThen_7 ?_
  refine k_iload_n C dX8_endThen_10 1 rfl ?_
  refine k_aload_n C dX8_endThen_11 0 rfl ?_
  refine g8_162 C dX8_endThen_12 ?_
  obtain ⟨hi, hf⟩ := gd_no hf
  refine sm14 C hi dX8_endThen_15 ?_
  refine k_aload_n C dX8_endThen_16 0 rfl ?_
  obtain ⟨r_17, hq_16, hf⟩ := ob_el hf
  refine k_callVi C (c8_peek C.2.2.2.2.2.2.2.2.2.1 hq_16) cm8_139 ok8_peek (by decide) 0 rfl rfl rfl rfl (Nat.le_of_ble_eq_true rfl) dX8_endThen_17 ?_
  refine k_bipush (v := (123 : Int32)) C dX8_endThen_20 (by decide) ?_
  refine k_icmp_eq C 61 dX8_endThen_22 (by decide) (fun hc => ?_) (fun hc => ?_)
  · replace hf := (if_pos hc).symm.trans hf
    refine k_aload_n C dX8_endThen_61 0 rfl ?_
    refine k_bipush (v := (123 : Int32)) C dX8_endThen_62 (by decide) ?_
    obtain ⟨⟨mP_pa_19, mP_pd_20, mP_pf_21, mP_pi_22, mP_pr_23, mP_pb_24, mP_pF_25, mP_pS_26, mP_p0_27, mP_p1_28, mP_p2_29, mP_p3_30, mP_p4_31, mP_pI_32⟩, hq_18, hf⟩ := ob_el hf
    dsimp only at hf
    refine k_callVv C (c8_open C.2.2.2.2.2.2.2.2.2.1 hq_18) cm8_218 ok8_open (by decide) 0 rfl rfl rfl rfl (Nat.le_of_ble_eq_true rfl) dX8_endThen_64 ?_
    refine k_aload_n C dX8_endThen_67 0 rfl ?_
    refine g8_55 C dX8_endThen_68 ?_
    refine k_iload_n C dX8_endThen_71 1 rfl ?_
    refine k_aload_n C dX8_endThen_72 0 rfl ?_
    refine k_bipush (v := (10 : Int32)) C dX8_endThen_73 (by decide) ?_
    refine k_iconst (v := (0 : Int32)) C dX8_endThen_75 (by decide) ?_
    refine k_iconst (v := (-1 : Int32)) C dX8_endThen_76 (by decide) ?_
    obtain ⟨⟨r_34, ⟨mK_ks_35, mK_kk_36, mK_kv_37, mK_kt_38⟩⟩, hq_33, hf⟩ := ob_el hf
    dsimp only at hf
    refine k_callVi C (c8_emit C.2.2.2.2.2.2.2.2.2.1 hq_33) cm8_178 ok8_emit (by decide) 0 rfl rfl rfl rfl (Nat.le_of_ble_eq_true rfl) dX8_endThen_77 ?_
    obtain ⟨hi, hf⟩ := gd_no hf
    refine sm16 C hi dX8_endThen_80 ?_
    refine k_aload_n C dX8_endThen_81 0 rfl ?_
    refine k_aload_n C dX8_endThen_82 0 rfl ?_
    refine g8_52 C dX8_endThen_83 ?_
    refine k_iload_n C dX8_endThen_86 1 rfl ?_
    obtain ⟨hi, hf⟩ := gd_no hf
    refine lm15 C hi dX8_endThen_87 ?_
    obtain ⟨⟨mK_ks_40, mK_kk_41, mK_kv_42, mK_kt_43⟩, hq_39, hf⟩ := ob_el hf
    dsimp only at hf
    refine k_callVv C (c8_land C.2.2.2.2.2.2.2.2.2.1 hq_39) cm8_227 ok8_land (by decide) 0 rfl rfl rfl rfl (Nat.le_of_ble_eq_true rfl) dX8_endThen_88 ?_
    refine k_aload_n C dX8_endThen_91 0 rfl ?_
    refine g8_40 C dX8_endThen_92 ?_
    refine k_iload_n C dX8_endThen_95 1 rfl ?_
    refine k_iconst (v := (4 : Int32)) C dX8_endThen_96 (by decide) ?_
    obtain ⟨hi, hf⟩ := gd_no hf
    refine sm11 C hi dX8_endThen_97 ?_
    refine k_aload_n C dX8_endThen_98 0 rfl ?_
    refine k_iconst (v := (0 : Int32)) C dX8_endThen_99 (by decide) ?_
    obtain ⟨⟨mP_pa_45, mP_pd_46, mP_pf_47, mP_pi_48, mP_pr_49, mP_pb_50, mP_pF_51, mP_pS_52, mP_p0_53, mP_p1_54, mP_p2_55, mP_p3_56, mP_p4_57, mP_pI_58⟩, hq_44, hf⟩ := ob_el hf
    dsimp only at hf
    refine k_callVv C (c8_push C.2.2.2.2.2.2.2.2.2.1 hq_44) cm8_171 ok8_push (by decide) 0 rfl rfl rfl rfl (Nat.le_of_ble_eq_true rfl) dX8_endThen_100 ?_
    cases hf
    exact K _ _ dX8_endThen_103
  · replace hf := (if_neg hc).symm.trans hf
    refine k_aload_n C dX8_endThen_25 0 rfl ?_
    refine k_aload_n C dX8_endThen_26 0 rfl ?_
    refine g8_52 C dX8_endThen_27 ?_
    refine k_iload_n C dX8_endThen_30 1 rfl ?_
    obtain ⟨hi, hf⟩ := gd_no hf
    refine lm15 C hi dX8_endThen_31 ?_
    obtain ⟨⟨mK_ks_60, mK_kk_61, mK_kv_62, mK_kt_63⟩, hq_59, hf⟩ := ob_el hf
    dsimp only at hf
    refine k_callVv C (c8_land C.2.2.2.2.2.2.2.2.2.1 hq_59) cm8_227 ok8_land (by decide) 0 rfl rfl rfl rfl (Nat.le_of_ble_eq_true rfl) dX8_endThen_32 ?_
    refine k_aload_n C dX8_endThen_35 0 rfl ?_
    refine k_iload_n C dX8_endThen_36 1 rfl ?_
    refine k_aload_n C dX8_endThen_37 0 rfl ?_
    refine k_bipush (v := (7 : Int32)) C dX8_endThen_38 (by decide) ?_
    refine k_aload_n C dX8_endThen_40 0 rfl ?_
    refine g8_43 C dX8_endThen_41 ?_
    refine k_iload_n C dX8_endThen_44 1 rfl ?_
    obtain ⟨hi, hf⟩ := gd_no hf
    refine lm12 C hi dX8_endThen_45 ?_
    refine k_aload_n C dX8_endThen_46 0 rfl ?_
    refine g8_49 C dX8_endThen_47 ?_
    refine k_iload_n C dX8_endThen_50 1 rfl ?_
    obtain ⟨hi, hf⟩ := gd_no hf
    refine lm14 C hi dX8_endThen_51 ?_
    refine k_iconst (v := (-1 : Int32)) C dX8_endThen_52 (by decide) ?_
    refine k_iload_n C dX8_endThen_53 2 rfl ?_
    obtain ⟨⟨r_65, ⟨mN_nn_66, mN_nk_67, mN_na_68, mN_nb_69, mN_nc_70, mN_ns_71⟩⟩, hq_64, hf⟩ := ob_el hf
    dsimp only at hf
    refine k_callVi C (c8_create C.2.2.2.2.2.2.2.2.2.1 hq_64) cm8_205 ok8_create (by decide) 0 rfl rfl rfl rfl (Nat.le_of_ble_eq_true rfl) dX8_endThen_54 ?_
    obtain ⟨⟨⟨mK_ks_73, mK_kk_74, mK_kv_75, mK_kt_76⟩, ⟨mP_pa_77, mP_pd_78, mP_pf_79, mP_pi_80, mP_pr_81, mP_pb_82, mP_pF_83, mP_pS_84, mP_p0_85, mP_p1_86, mP_p2_87, mP_p3_88, mP_p4_89, mP_pI_90⟩⟩, hq_72, hf⟩ := ob_el hf
    dsimp only at hf
    refine k_callVv C (c8_end C.2.2.2.2.2.2.2.2.2.1 hq_72) cm8_215 ok8_end (by decide) 0 rfl rfl rfl rfl (Nat.le_of_ble_eq_true rfl) dX8_endThen_57 ?_
    cases hf
    exact K _ _ dX8_endThen_60
theorem c8_endThen {V : EV} {l : Launch} (hl0 : l.stackTraces = false) {ad : Nat → Nat} {mL : MdL} {mH : MdH} {mR : MdR} {mG : MdG} {mT_ty : Int32} {mT_te : Nat → Int32} {mQ_qc : Int32} {mQ_qb : Int32} {mQ_qp : Int32} {mQ_qr : Int32} {mQ_qC : Int32} {v1 : Int32} {v2 : Int32} {mK_ks : Int32} {mK_kk : Nat → Int32} {mK_kv : Nat → Int32} {mK_kt : Nat → Int32} {mN_nn : Int32} {mN_nk : Nat → Int32} {mN_na : Nat → Int32} {mN_nb : Nat → Int32} {mN_nc : Nat → Int32} {mN_ns : Nat → Int32} {mP_pa : Int32} {mP_pd : Int32} {mP_pf : Int32} {mP_pi : Int32} {mP_pr : Int32} {mP_pb : Int32} {mP_pF : Nat → Int32} {mP_pS : Nat → Int32} {mP_p0 : Nat → Int32} {mP_p1 : Nat → Int32} {mP_p2 : Nat → Int32} {mP_p3 : Nat → Int32} {mP_p4 : Nat → Int32} {mP_pI : Nat → Int32} {res : MdK × MdN × MdP} (hf : f8_endThen v1 v2 (mT_ty, mT_te) (mQ_qc, mQ_qb, mQ_qp, mQ_qr, mQ_qC) (mK_ks, mK_kk, mK_kv, mK_kt) (mN_nn, mN_nk, mN_na, mN_nb, mN_nc, mN_ns) (mP_pa, mP_pd, mP_pf, mP_pi, mP_pr, mP_pb, mP_pF, mP_pS, mP_p0, mP_p1, mP_p2, mP_p3, mP_p4, mP_pI) = some res) : MV V l yX8_endThen cX8_endThen 3 3 62 [.ref (ad 0), .int v1, .int v2] (wM V ad (mT_ty, mT_te) (mQ_qc, mQ_qb, mQ_qp, mQ_qr, mQ_qC) (mK_ks, mK_kk, mK_kv, mK_kt) (mN_nn, mN_nk, mN_na, mN_nb, mN_nc, mN_ns) (mP_pa, mP_pd, mP_pf, mP_pi, mP_pr, mP_pb, mP_pF, mP_pS, mP_p0, mP_p1, mP_p2, mP_p3, mP_p4, mP_pI) mL mH mR mG) (wM V ad (mT_ty, mT_te) (mQ_qc, mQ_qb, mQ_qp, mQ_qr, mQ_qC) res.1 res.2.1 res.2.2 mL mH mR mG) :=
  mv_of hl0 (by decide +kernel) (Nat.le_of_ble_eq_true rfl) (fun p e R s m args below meth c Q A C K => b8_endThen C hf K)

theorem cm8_212 : ∀ a ∈ wsCV RX8 212 RX8 yX8_beginStatement cX8_beginStatement 3 none, a ∈ GW := by
  unfold wsCV
  exact (List.forall_mem_cons.mpr ⟨(gw_5 (i := 239) (by decide +kernel) rfl), (List.forall_mem_cons.mpr ⟨(gw_6 (i := 1) (by decide +kernel) rfl), (List.forall_mem_cons.mpr ⟨(gw_p (q := ((yX8_beginStatement, 63) : MethodName × Nat)) (List.mem_append_right _ (List.mem_append_right _ (List.mem_append_right _ (List.mem_append_right _ (List.mem_append_left _ (List.mem_of_getElem? (i := 6) (by decide +kernel))))))) rfl), (List.forall_mem_cons.mpr ⟨(gw_1 (i := 9) (by decide +kernel) rfl), (List.forall_mem_cons.mpr ⟨(gw_6 (i := 2) (by decide +kernel) rfl), (List.forall_mem_nil _)⟩)⟩)⟩)⟩)⟩)
theorem cm8_221 : ∀ a ∈ wsCV RX8 221 RX8 yX8_endThen cX8_endThen 3 none, a ∈ GW := by
  unfold wsCV
  exact (List.forall_mem_cons.mpr ⟨(gw_6 (i := 23) (by decide +kernel) rfl), (List.forall_mem_cons.mpr ⟨(gw_6 (i := 25) (by decide +kernel) rfl), (List.forall_mem_cons.mpr ⟨(gw_p (q := ((yX8_endThen, 63) : MethodName × Nat)) (List.mem_append_right _ (List.mem_append_right _ (List.mem_append_right _ (List.mem_append_right _ (List.mem_append_left _ (List.mem_of_getElem? (i := 12) (by decide +kernel))))))) rfl), (List.forall_mem_cons.mpr ⟨(gw_1 (i := 9) (by decide +kernel) rfl), (List.forall_mem_cons.mpr ⟨(gw_6 (i := 26) (by decide +kernel) rfl), (List.forall_mem_nil _)⟩)⟩)⟩)⟩)⟩)
theorem ok8_stepStatement : okCV RX8 yX8_stepStatement 1 := by unfold okCV; decide +kernel
def f8_stepStatement (v1 : Int32) : MdT → MdQ → MdK → MdN → MdP → Option (MdK × MdN × MdP)
  | (mT_ty, mT_te), (mQ_qc, mQ_qb, mQ_qp, mQ_qr, mQ_qC), (mK_ks, mK_kk, mK_kv, mK_kt), (mN_nn, mN_nk, mN_na, mN_nb, mN_nc, mN_ns), (mP_pa, mP_pd, mP_pf, mP_pi, mP_pr, mP_pb, mP_pF, mP_pS, mP_p0, mP_p1, mP_p2, mP_p3, mP_p4, mP_pI) =>
    if v1 < 0 ∨ 80 ≤ v1.toNatClampNeg then none else if (mP_pS v1.toNatClampNeg) = 0 then (f8_beginStatement v1 (mT_ty, mT_te) (mQ_qc, mQ_qb, mQ_qp, mQ_qr, mQ_qC) (mK_ks, mK_kk, mK_kv, mK_kt) (mP_pa, mP_pd, mP_pf, mP_pi, mP_pr, mP_pb, mP_pF, mP_pS, mP_p0, mP_p1, mP_p2, mP_p3, mP_p4, mP_pI)).bind fun ((mK_ks_354, mK_kk_355, mK_kv_356, mK_kt_357), (mP_pa_358, mP_pd_359, mP_pf_360, mP_pi_361, mP_pr_362, mP_pb_363, mP_pF_364, mP_pS_365, mP_p0_366, mP_p1_367, mP_p2_368, mP_p3_369, mP_p4_370, mP_pI_371)) => some ((mK_ks_354, mK_kk_355, mK_kv_356, mK_kt_357), (mN_nn, mN_nk, mN_na, mN_nb, mN_nc, mN_ns), (mP_pa_358, mP_pd_359, mP_pf_360, mP_pi_361, mP_pr_362, mP_pb_363, mP_pF_364, mP_pS_365, mP_p0_366, mP_p1_367, mP_p2_368, mP_p3_369, mP_p4_370, mP_pI_371)) else if v1 < 0 ∨ 80 ≤ v1.toNatClampNeg then none else if (mP_p1 v1.toNatClampNeg) < 0 ∨ 512 ≤ (mP_p1 v1.toNatClampNeg).toNatClampNeg then none else nm_v (mK_kt (mP_p1 v1.toNatClampNeg).toNatClampNeg) (fun v2_1 => if v1 < 0 ∨ 80 ≤ v1.toNatClampNeg then none else if (mP_pS v1.toNatClampNeg) = (1 : Int32) then (f8_take (59 : Int32) (mT_ty, mT_te) (mP_pa, mP_pd, mP_pf, mP_pi, mP_pr, mP_pb, mP_pF, mP_pS, mP_p0, mP_p1, mP_p2, mP_p3, mP_p4, mP_pI)).bind fun (r_52, (mP_pa_53, mP_pd_54, mP_pf_55, mP_pi_56, mP_pr_57, mP_pb_58, mP_pF_59, mP_pS_60, mP_p0_61, mP_p1_62, mP_p2_63, mP_p3_64, mP_p4_65, mP_pI_66)) => if v1 < 0 ∨ 80 ≤ v1.toNatClampNeg then none else (f8_emit (8 : Int32) (mP_p2_63 v1.toNatClampNeg) (-1 : Int32) (mQ_qc, mQ_qb, mQ_qp, mQ_qr, mQ_qC) (mK_ks, mK_kk, mK_kv, mK_kt)).bind fun (r_68, (mK_ks_69, mK_kk_70, mK_kv_71, mK_kt_72)) => if v1 < 0 ∨ 80 ≤ v1.toNatClampNeg then none else (f8_create (6 : Int32) (mP_p2_63 v1.toNatClampNeg) mP_pr_57 (0 : Int32) v2_1 (mQ_qc, mQ_qb, mQ_qp, mQ_qr, mQ_qC) (mN_nn, mN_nk, mN_na, mN_nb, mN_nc, mN_ns)).bind fun (r_74, (mN_nn_75, mN_nk_76, mN_na_77, mN_nb_78, mN_nc_79, mN_ns_80)) => (f8_end v1 r_74 (mQ_qc, mQ_qb, mQ_qp, mQ_qr, mQ_qC) (mK_ks_69, mK_kk_70, mK_kv_71, mK_kt_72) (mP_pa_53, mP_pd_54, mP_pf_55, mP_pi_56, mP_pr_57, mP_pb_58, mP_pF_59, mP_pS_60, mP_p0_61, mP_p1_62, mP_p2_63, mP_p3_64, mP_p4_65, mP_pI_66)).bind fun ((mK_ks_82, mK_kk_83, mK_kv_84, mK_kt_85), (mP_pa_86, mP_pd_87, mP_pf_88, mP_pi_89, mP_pr_90, mP_pb_91, mP_pF_92, mP_pS_93, mP_p0_94, mP_p1_95, mP_p2_96, mP_p3_97, mP_p4_98, mP_pI_99)) => some ((mK_ks_82, mK_kk_83, mK_kv_84, mK_kt_85), (mN_nn_75, mN_nk_76, mN_na_77, mN_nb_78, mN_nc_79, mN_ns_80), (mP_pa_86, mP_pd_87, mP_pf_88, mP_pi_89, mP_pr_90, mP_pb_91, mP_pF_92, mP_pS_93, mP_p0_94, mP_p1_95, mP_p2_96, mP_p3_97, mP_p4_98, mP_pI_99)) else if (mP_pS v1.toNatClampNeg) = (2 : Int32) then if v1 < 0 ∨ 80 ≤ v1.toNatClampNeg then none else (f8_open (123 : Int32) (mT_ty, mT_te) (mP_pa, mP_pd, mP_pf, mP_pi, mP_pr, mP_pb, mP_pF, mP_pS, (upd mP_p0 v1.toNatClampNeg mP_pr), mP_p1, mP_p2, mP_p3, mP_p4, mP_pI)).bind fun (mP_pa_101, mP_pd_102, mP_pf_103, mP_pi_104, mP_pr_105, mP_pb_106, mP_pF_107, mP_pS_108, mP_p0_109, mP_p1_110, mP_p2_111, mP_p3_112, mP_p4_113, mP_pI_114) => (f8_emit (9 : Int32) (0 : Int32) (-1 : Int32) (mQ_qc, mQ_qb, mQ_qp, mQ_qr, mQ_qC) (mK_ks, mK_kk, mK_kv, mK_kt)).bind fun (r_116, (mK_ks_117, mK_kk_118, mK_kv_119, mK_kt_120)) => if v1 < 0 ∨ 80 ≤ v1.toNatClampNeg then none else if v1 < 0 ∨ 80 ≤ v1.toNatClampNeg then none else (f8_push (0 : Int32) (mP_pa_101, mP_pd_102, mP_pf_103, mP_pi_104, mP_pr_105, mP_pb_106, mP_pF_107, (upd mP_pS_108 v1.toNatClampNeg (3 : Int32)), mP_p0_109, mP_p1_110, mP_p2_111, (upd mP_p3_112 v1.toNatClampNeg r_116), mP_p4_113, mP_pI_114)).bind fun (mP_pa_122, mP_pd_123, mP_pf_124, mP_pi_125, mP_pr_126, mP_pb_127, mP_pF_128, mP_pS_129, mP_p0_130, mP_p1_131, mP_p2_132, mP_p3_133, mP_p4_134, mP_pI_135) => some ((mK_ks_117, mK_kk_118, mK_kv_119, mK_kt_120), (mN_nn, mN_nk, mN_na, mN_nb, mN_nc, mN_ns), (mP_pa_122, mP_pd_123, mP_pf_124, mP_pi_125, mP_pr_126, mP_pb_127, mP_pF_128, mP_pS_129, mP_p0_130, mP_p1_131, mP_p2_132, mP_p3_133, mP_p4_134, mP_pI_135)) else if (mP_pS v1.toNatClampNeg) = (3 : Int32) then (f8_endThen v1 v2_1 (mT_ty, mT_te) (mQ_qc, mQ_qb, mQ_qp, mQ_qr, mQ_qC) (mK_ks, mK_kk, mK_kv, mK_kt) (mN_nn, mN_nk, mN_na, mN_nb, mN_nc, mN_ns) (mP_pa, mP_pd, mP_pf, mP_pi, mP_pr, mP_pb, mP_pF, mP_pS, mP_p0, mP_p1, mP_p2, mP_p3, mP_p4, mP_pI)).bind fun ((mK_ks_137, mK_kk_138, mK_kv_139, mK_kt_140), (mN_nn_141, mN_nk_142, mN_na_143, mN_nb_144, mN_nc_145, mN_ns_146), (mP_pa_147, mP_pd_148, mP_pf_149, mP_pi_150, mP_pr_151, mP_pb_152, mP_pF_153, mP_pS_154, mP_p0_155, mP_p1_156, mP_p2_157, mP_p3_158, mP_p4_159, mP_pI_160)) => some ((mK_ks_137, mK_kk_138, mK_kv_139, mK_kt_140), (mN_nn_141, mN_nk_142, mN_na_143, mN_nb_144, mN_nc_145, mN_ns_146), (mP_pa_147, mP_pd_148, mP_pf_149, mP_pi_150, mP_pr_151, mP_pb_152, mP_pF_153, mP_pS_154, mP_p0_155, mP_p1_156, mP_p2_157, mP_p3_158, mP_p4_159, mP_pI_160)) else if (mP_pS v1.toNatClampNeg) = (4 : Int32) then (f8_close (125 : Int32) (mT_ty, mT_te) (mP_pa, mP_pd, mP_pf, mP_pi, mP_pr, mP_pb, mP_pF, mP_pS, mP_p0, mP_p1, mP_p2, mP_p3, mP_p4, mP_pI)).bind fun (mP_pa_162, mP_pd_163, mP_pf_164, mP_pi_165, mP_pr_166, mP_pb_167, mP_pF_168, mP_pS_169, mP_p0_170, mP_p1_171, mP_p2_172, mP_p3_173, mP_p4_174, mP_pI_175) => if v1 < 0 ∨ 80 ≤ v1.toNatClampNeg then none else (f8_land (mP_p4_174 v1.toNatClampNeg) (mQ_qc, mQ_qb, mQ_qp, mQ_qr, mQ_qC) (mK_ks, mK_kk, mK_kv, mK_kt)).bind fun (mK_ks_177, mK_kk_178, mK_kv_179, mK_kt_180) => if v1 < 0 ∨ 80 ≤ v1.toNatClampNeg then none else if v1 < 0 ∨ 80 ≤ v1.toNatClampNeg then none else (f8_create (7 : Int32) (mP_p0_170 v1.toNatClampNeg) (mP_p2_172 v1.toNatClampNeg) mP_pr_166 v2_1 (mQ_qc, mQ_qb, mQ_qp, mQ_qr, mQ_qC) (mN_nn, mN_nk, mN_na, mN_nb, mN_nc, mN_ns)).bind fun (r_182, (mN_nn_183, mN_nk_184, mN_na_185, mN_nb_186, mN_nc_187, mN_ns_188)) => (f8_end v1 r_182 (mQ_qc, mQ_qb, mQ_qp, mQ_qr, mQ_qC) (mK_ks_177, mK_kk_178, mK_kv_179, mK_kt_180) (mP_pa_162, mP_pd_163, mP_pf_164, mP_pi_165, mP_pr_166, mP_pb_167, mP_pF_168, mP_pS_169, mP_p0_170, mP_p1_171, mP_p2_172, mP_p3_173, mP_p4_174, mP_pI_175)).bind fun ((mK_ks_190, mK_kk_191, mK_kv_192, mK_kt_193), (mP_pa_194, mP_pd_195, mP_pf_196, mP_pi_197, mP_pr_198, mP_pb_199, mP_pF_200, mP_pS_201, mP_p0_202, mP_p1_203, mP_p2_204, mP_p3_205, mP_p4_206, mP_pI_207)) => some ((mK_ks_190, mK_kk_191, mK_kv_192, mK_kt_193), (mN_nn_183, mN_nk_184, mN_na_185, mN_nb_186, mN_nc_187, mN_ns_188), (mP_pa_194, mP_pd_195, mP_pf_196, mP_pi_197, mP_pr_198, mP_pb_199, mP_pF_200, mP_pS_201, mP_p0_202, mP_p1_203, mP_p2_204, mP_p3_205, mP_p4_206, mP_pI_207)) else if (mP_pS v1.toNatClampNeg) = (5 : Int32) then if v1 < 0 ∨ 80 ≤ v1.toNatClampNeg then none else (f8_open (123 : Int32) (mT_ty, mT_te) (mP_pa, mP_pd, mP_pf, mP_pi, mP_pr, mP_pb, mP_pF, mP_pS, (upd mP_p0 v1.toNatClampNeg mP_pr), mP_p1, mP_p2, mP_p3, mP_p4, mP_pI)).bind fun (mP_pa_209, mP_pd_210, mP_pf_211, mP_pi_212, mP_pr_213, mP_pb_214, mP_pF_215, mP_pS_216, mP_p0_217, mP_p1_218, mP_p2_219, mP_p3_220, mP_p4_221, mP_pI_222) => (f8_emit (9 : Int32) (0 : Int32) (-1 : Int32) (mQ_qc, mQ_qb, mQ_qp, mQ_qr, mQ_qC) (mK_ks, mK_kk, mK_kv, mK_kt)).bind fun (r_224, (mK_ks_225, mK_kk_226, mK_kv_227, mK_kt_228)) => if v1 < 0 ∨ 80 ≤ v1.toNatClampNeg then none else (f8_emit (11 : Int32) (0 : Int32) (-1 : Int32) (mQ_qc, mQ_qb, mQ_qp, mQ_qr, mQ_qC) (mK_ks_225, mK_kk_226, mK_kv_227, mK_kt_228)).bind fun (r_230, (mK_ks_231, mK_kk_232, mK_kv_233, mK_kt_234)) => if v1 < 0 ∨ 80 ≤ v1.toNatClampNeg then none else (f8_push (0 : Int32) (mP_pa_209, mP_pd_210, mP_pf_211, mP_pi_212, mP_pr_213, mP_pb_214, mP_pF_215, (upd mP_pS_216 v1.toNatClampNeg (6 : Int32)), mP_p0_217, mP_p1_218, mP_p2_219, (upd mP_p3_220 v1.toNatClampNeg r_224), mP_p4_221, mP_pI_222)).bind fun (mP_pa_236, mP_pd_237, mP_pf_238, mP_pi_239, mP_pr_240, mP_pb_241, mP_pF_242, mP_pS_243, mP_p0_244, mP_p1_245, mP_p2_246, mP_p3_247, mP_p4_248, mP_pI_249) => some ((mK_ks_231, mK_kk_232, mK_kv_233, mK_kt_234), (mN_nn, mN_nk, mN_na, mN_nb, mN_nc, mN_ns), (mP_pa_236, mP_pd_237, mP_pf_238, mP_pi_239, mP_pr_240, mP_pb_241, mP_pF_242, mP_pS_243, mP_p0_244, mP_p1_245, mP_p2_246, mP_p3_247, mP_p4_248, mP_pI_249)) else if (mP_pS v1.toNatClampNeg) = (6 : Int32) then (f8_close (125 : Int32) (mT_ty, mT_te) (mP_pa, mP_pd, mP_pf, mP_pi, mP_pr, mP_pb, mP_pF, mP_pS, mP_p0, mP_p1, mP_p2, mP_p3, mP_p4, mP_pI)).bind fun (mP_pa_251, mP_pd_252, mP_pf_253, mP_pi_254, mP_pr_255, mP_pb_256, mP_pF_257, mP_pS_258, mP_p0_259, mP_p1_260, mP_p2_261, mP_p3_262, mP_p4_263, mP_pI_264) => if v1 < 0 ∨ 80 ≤ v1.toNatClampNeg then none else (f8_emit (10 : Int32) (mP_p4_263 v1.toNatClampNeg) (-1 : Int32) (mQ_qc, mQ_qb, mQ_qp, mQ_qr, mQ_qC) (mK_ks, mK_kk, mK_kv, mK_kt)).bind fun (r_266, (mK_ks_267, mK_kk_268, mK_kv_269, mK_kt_270)) => if v1 < 0 ∨ 80 ≤ v1.toNatClampNeg then none else (f8_land (mP_p3_262 v1.toNatClampNeg) (mQ_qc, mQ_qb, mQ_qp, mQ_qr, mQ_qC) (mK_ks_267, mK_kk_268, mK_kv_269, mK_kt_270)).bind fun (mK_ks_272, mK_kk_273, mK_kv_274, mK_kt_275) => if v1 < 0 ∨ 80 ≤ v1.toNatClampNeg then none else (f8_create (8 : Int32) (mP_p0_259 v1.toNatClampNeg) mP_pr_255 (0 : Int32) v2_1 (mQ_qc, mQ_qb, mQ_qp, mQ_qr, mQ_qC) (mN_nn, mN_nk, mN_na, mN_nb, mN_nc, mN_ns)).bind fun (r_277, (mN_nn_278, mN_nk_279, mN_na_280, mN_nb_281, mN_nc_282, mN_ns_283)) => (f8_end v1 r_277 (mQ_qc, mQ_qb, mQ_qp, mQ_qr, mQ_qC) (mK_ks_272, mK_kk_273, mK_kv_274, mK_kt_275) (mP_pa_251, mP_pd_252, mP_pf_253, mP_pi_254, mP_pr_255, mP_pb_256, mP_pF_257, mP_pS_258, mP_p0_259, mP_p1_260, mP_p2_261, mP_p3_262, mP_p4_263, mP_pI_264)).bind fun ((mK_ks_285, mK_kk_286, mK_kv_287, mK_kt_288), (mP_pa_289, mP_pd_290, mP_pf_291, mP_pi_292, mP_pr_293, mP_pb_294, mP_pF_295, mP_pS_296, mP_p0_297, mP_p1_298, mP_p2_299, mP_p3_300, mP_p4_301, mP_pI_302)) => some ((mK_ks_285, mK_kk_286, mK_kv_287, mK_kt_288), (mN_nn_278, mN_nk_279, mN_na_280, mN_nb_281, mN_nc_282, mN_ns_283), (mP_pa_289, mP_pd_290, mP_pf_291, mP_pi_292, mP_pr_293, mP_pb_294, mP_pF_295, mP_pS_296, mP_p0_297, mP_p1_298, mP_p2_299, mP_p3_300, mP_p4_301, mP_pI_302)) else if (mP_pS v1.toNatClampNeg) = (7 : Int32) then (f8_take (59 : Int32) (mT_ty, mT_te) (mP_pa, mP_pd, mP_pf, mP_pi, mP_pr, mP_pb, mP_pF, mP_pS, mP_p0, mP_p1, mP_p2, mP_p3, mP_p4, mP_pI)).bind fun (r_304, (mP_pa_305, mP_pd_306, mP_pf_307, mP_pi_308, mP_pr_309, mP_pb_310, mP_pF_311, mP_pS_312, mP_p0_313, mP_p1_314, mP_p2_315, mP_p3_316, mP_p4_317, mP_pI_318)) => (f8_emit (12 : Int32) (0 : Int32) (-1 : Int32) (mQ_qc, mQ_qb, mQ_qp, mQ_qr, mQ_qC) (mK_ks, mK_kk, mK_kv, mK_kt)).bind fun (r_320, (mK_ks_321, mK_kk_322, mK_kv_323, mK_kt_324)) => (f8_create (9 : Int32) mP_pr_309 (-1 : Int32) (-1 : Int32) v2_1 (mQ_qc, mQ_qb, mQ_qp, mQ_qr, mQ_qC) (mN_nn, mN_nk, mN_na, mN_nb, mN_nc, mN_ns)).bind fun (r_326, (mN_nn_327, mN_nk_328, mN_na_329, mN_nb_330, mN_nc_331, mN_ns_332)) => (f8_end v1 r_326 (mQ_qc, mQ_qb, mQ_qp, mQ_qr, mQ_qC) (mK_ks_321, mK_kk_322, mK_kv_323, mK_kt_324) (mP_pa_305, mP_pd_306, mP_pf_307, mP_pi_308, mP_pr_309, mP_pb_310, mP_pF_311, mP_pS_312, mP_p0_313, mP_p1_314, mP_p2_315, mP_p3_316, mP_p4_317, mP_pI_318)).bind fun ((mK_ks_334, mK_kk_335, mK_kv_336, mK_kt_337), (mP_pa_338, mP_pd_339, mP_pf_340, mP_pi_341, mP_pr_342, mP_pb_343, mP_pF_344, mP_pS_345, mP_p0_346, mP_p1_347, mP_p2_348, mP_p3_349, mP_p4_350, mP_pI_351)) => some ((mK_ks_334, mK_kk_335, mK_kv_336, mK_kt_337), (mN_nn_327, mN_nk_328, mN_na_329, mN_nb_330, mN_nc_331, mN_ns_332), (mP_pa_338, mP_pd_339, mP_pf_340, mP_pi_341, mP_pr_342, mP_pb_343, mP_pF_344, mP_pS_345, mP_p0_346, mP_p1_347, mP_p2_348, mP_p3_349, mP_p4_350, mP_pI_351)) else (f8_take (59 : Int32) (mT_ty, mT_te) (mP_pa, mP_pd, mP_pf, mP_pi, mP_pr, mP_pb, mP_pF, mP_pS, mP_p0, mP_p1, mP_p2, mP_p3, mP_p4, mP_pI)).bind fun (r_3, (mP_pa_4, mP_pd_5, mP_pf_6, mP_pi_7, mP_pr_8, mP_pb_9, mP_pF_10, mP_pS_11, mP_p0_12, mP_p1_13, mP_p2_14, mP_p3_15, mP_p4_16, mP_pI_17)) => (f8_emit (13 : Int32) (0 : Int32) (-1 : Int32) (mQ_qc, mQ_qb, mQ_qp, mQ_qr, mQ_qC) (mK_ks, mK_kk, mK_kv, mK_kt)).bind fun (r_19, (mK_ks_20, mK_kk_21, mK_kv_22, mK_kt_23)) => (f8_create (10 : Int32) mP_pr_8 (-1 : Int32) (-1 : Int32) v2_1 (mQ_qc, mQ_qb, mQ_qp, mQ_qr, mQ_qC) (mN_nn, mN_nk, mN_na, mN_nb, mN_nc, mN_ns)).bind fun (r_25, (mN_nn_26, mN_nk_27, mN_na_28, mN_nb_29, mN_nc_30, mN_ns_31)) => (f8_end v1 r_25 (mQ_qc, mQ_qb, mQ_qp, mQ_qr, mQ_qC) (mK_ks_20, mK_kk_21, mK_kv_22, mK_kt_23) (mP_pa_4, mP_pd_5, mP_pf_6, mP_pi_7, mP_pr_8, mP_pb_9, mP_pF_10, mP_pS_11, mP_p0_12, mP_p1_13, mP_p2_14, mP_p3_15, mP_p4_16, mP_pI_17)).bind fun ((mK_ks_33, mK_kk_34, mK_kv_35, mK_kt_36), (mP_pa_37, mP_pd_38, mP_pf_39, mP_pi_40, mP_pr_41, mP_pb_42, mP_pF_43, mP_pS_44, mP_p0_45, mP_p1_46, mP_p2_47, mP_p3_48, mP_p4_49, mP_pI_50)) => some ((mK_ks_33, mK_kk_34, mK_kv_35, mK_kt_36), (mN_nn_26, mN_nk_27, mN_na_28, mN_nb_29, mN_nc_30, mN_ns_31), (mP_pa_37, mP_pd_38, mP_pf_39, mP_pi_40, mP_pr_41, mP_pb_42, mP_pF_43, mP_pS_44, mP_p0_45, mP_p1_46, mP_p2_47, mP_p3_48, mP_p4_49, mP_pI_50)))
set_option maxHeartbeats 4000000 in
set_option maxRecDepth 100000 in
theorem b8_stepStatement {V : EV} {p : Program} {l : Launch} {e : Env} {R : Room} {s : State} {m : MethodId} {args : Array Value} {below : List Frame} {meth : Method} {c : Code} {Q : State → Prop} {A : Nat → Prop} {kc ks : Nat} {ad : Nat → Nat} {mL : MdL} {mH : MdH} {mR : MdR} {mG : MdG} {mT_ty : Int32} {mT_te : Nat → Int32} {mQ_qc : Int32} {mQ_qb : Int32} {mQ_qp : Int32} {mQ_qr : Int32} {mQ_qC : Int32} {v1 : Int32} {mK_ks : Int32} {mK_kk : Nat → Int32} {mK_kv : Nat → Int32} {mK_kt : Nat → Int32} {mN_nn : Int32} {mN_nk : Nat → Int32} {mN_na : Nat → Int32} {mN_nb : Nat → Int32} {mN_nc : Nat → Int32} {mN_ns : Nat → Int32} {mP_pa : Int32} {mP_pd : Int32} {mP_pf : Int32} {mP_pi : Int32} {mP_pr : Int32} {mP_pb : Int32} {mP_pF : Nat → Int32} {mP_pS : Nat → Int32} {mP_p0 : Nat → Int32} {mP_p1 : Nat → Int32} {mP_p2 : Nat → Int32} {mP_p3 : Nat → Int32} {mP_p4 : Nat → Int32} {mP_pI : Nat → Int32} {res : MdK × MdN × MdP} (C : CX V p l R s m args c A kc ks RX8 cX8_stepStatement 3 4 84) (hf : f8_stepStatement v1 (mT_ty, mT_te) (mQ_qc, mQ_qb, mQ_qp, mQ_qr, mQ_qC) (mK_ks, mK_kk, mK_kv, mK_kt) (mN_nn, mN_nk, mN_na, mN_nb, mN_nc, mN_ns) (mP_pa, mP_pd, mP_pf, mP_pi, mP_pr, mP_pb, mP_pF, mP_pS, mP_p0, mP_p1, mP_p2, mP_p3, mP_p4, mP_pI) = some res) (K : RV V p l e R s m args below meth c Q A kc ks 3 cX8_stepStatement (wM V ad (mT_ty, mT_te) (mQ_qc, mQ_qb, mQ_qp, mQ_qr, mQ_qC) res.1 res.2.1 res.2.2 mL mH mR mG)) : WC V p l e R s m args below meth c Q A kc ks 3 (wM V ad (mT_ty, mT_te) (mQ_qc, mQ_qb, mQ_qp, mQ_qr, mQ_qC) (mK_ks, mK_kk, mK_kv, mK_kt) (mN_nn, mN_nk, mN_na, mN_nb, mN_nc, mN_ns) (mP_pa, mP_pd, mP_pf, mP_pi, mP_pr, mP_pb, mP_pF, mP_pS, mP_p0, mP_p1, mP_p2, mP_p3, mP_p4, mP_pI) mL mH mR mG) 0 [(0, .ref (ad 0)), (1, .int v1)] [] := by
  rw [f8_stepStatement] at hf
  refine k_aload_n C dX8_stepStatement_0 0 rfl ?_
  refine g8_40 C dX8_stepStatement_1 ?_
  refine k_iload_n C dX8_stepStatement_4 1 rfl ?_
  obtain ⟨hi, hf⟩ := gd_no hf
  refine lm11 C hi dX8_stepStatement_5 ?_
  refine k_if_ne C 15 dX8_stepStatement_6 (by decide) (fun hc => ?_) (fun hc => ?_)
  · replace hf := (if_neg hc).symm.trans hf
    refine k_aload_n C dX8_stepStatement_15 0 rfl ?_
    refine g8_19 C dX8_stepStatement_16 ?_
    refine k_aload_n C dX8_stepStatement_19 0 rfl ?_
    refine g8_46 C dX8_stepStatement_20 ?_
    refine k_iload_n C dX8_stepStatement_23 1 rfl ?_
    obtain ⟨hi, hf⟩ := gd_no hf
    refine lm13 C hi dX8_stepStatement_24 ?_
    obtain ⟨hi, hf⟩ := gd_no hf
    refine lm4 C hi dX8_stepStatement_25 ?_
    refine k_topi (fun v2_1 ev2_1 => ?_)
    replace hf := nm_el hf ev2_1
    refine k_istore_n C dX8_stepStatement_26 [(2, .int v2_1), (0, .ref (ad 0)), (1, .int v1)] (by decide) rfl ?_
    refine k_aload_n C dX8_stepStatement_27 1 rfl ?_
    refine g8_40 C dX8_stepStatement_28 ?_
    refine k_iload_n C dX8_stepStatement_31 2 rfl ?_
    obtain ⟨hi, hf⟩ := gd_no hf
    refine lm11 C hi dX8_stepStatement_32 ?_
    have hx0 : ∀ n : Int32, (mP_pS v1.toNatClampNeg) = n → (mP_pS v1.toNatClampNeg).toInt = n.toInt := fun n h => by rw [h]
    by_cases hc : (mP_pS v1.toNatClampNeg) = (1 : Int32)
    · replace hf := (if_pos hc).symm.trans hf
      refine k_tableIn C 76 dX8_stepStatement_33 (by rw [hx0 _ hc]; decide) (by rw [hx0 _ hc]; decide) (by rw [hx0 _ hc]; rfl) (by decide) ?_
      refine k_aload_n C dX8_stepStatement_76 1 rfl ?_
      refine k_bipush (v := (59 : Int32)) C dX8_stepStatement_77 (by decide) ?_
      obtain ⟨⟨r_52, ⟨mP_pa_53, mP_pd_54, mP_pf_55, mP_pi_56, mP_pr_57, mP_pb_58, mP_pF_59, mP_pS_60, mP_p0_61, mP_p1_62, mP_p2_63, mP_p3_64, mP_p4_65, mP_pI_66⟩⟩, hq_51, hf⟩ := ob_el hf
      dsimp only at hf
      refine k_callVi C (c8_take C.2.2.2.2.2.2.2.2.2.1 hq_51) cm8_143 ok8_take (by decide) 0 rfl rfl rfl rfl (Nat.le_of_ble_eq_true rfl) dX8_stepStatement_79 ?_
      refine k_pop C dX8_stepStatement_82 rfl ?_
      refine k_aload_n C dX8_stepStatement_83 1 rfl ?_
      refine k_bipush (v := (8 : Int32)) C dX8_stepStatement_84 (by decide) ?_
      refine k_aload_n C dX8_stepStatement_86 1 rfl ?_
      refine g8_49 C dX8_stepStatement_87 ?_
      refine k_iload_n C dX8_stepStatement_90 2 rfl ?_
      obtain ⟨hi, hf⟩ := gd_no hf
      refine lm14 C hi dX8_stepStatement_91 ?_
      refine k_iconst (v := (-1 : Int32)) C dX8_stepStatement_92 (by decide) ?_
      obtain ⟨⟨r_68, ⟨mK_ks_69, mK_kk_70, mK_kv_71, mK_kt_72⟩⟩, hq_67, hf⟩ := ob_el hf
      dsimp only at hf
      refine k_callVi C (c8_emit C.2.2.2.2.2.2.2.2.2.1 hq_67) cm8_178 ok8_emit (by decide) 0 rfl rfl rfl rfl (Nat.le_of_ble_eq_true rfl) dX8_stepStatement_93 ?_
      refine k_pop C dX8_stepStatement_96 rfl ?_
      refine k_aload_n C dX8_stepStatement_97 1 rfl ?_
      refine k_iload_n C dX8_stepStatement_98 2 rfl ?_
      refine k_aload_n C dX8_stepStatement_99 1 rfl ?_
      refine k_bipush (v := (6 : Int32)) C dX8_stepStatement_100 (by decide) ?_
      refine k_aload_n C dX8_stepStatement_102 1 rfl ?_
      refine g8_49 C dX8_stepStatement_103 ?_
      refine k_iload_n C dX8_stepStatement_106 2 rfl ?_
      obtain ⟨hi, hf⟩ := gd_no hf
      refine lm14 C hi dX8_stepStatement_107 ?_
      refine k_aload_n C dX8_stepStatement_108 1 rfl ?_
      refine g8_162 C dX8_stepStatement_109 ?_
      refine k_iconst (v := (0 : Int32)) C dX8_stepStatement_112 (by decide) ?_
      refine k_iload_n C dX8_stepStatement_113 0 rfl ?_
      obtain ⟨⟨r_74, ⟨mN_nn_75, mN_nk_76, mN_na_77, mN_nb_78, mN_nc_79, mN_ns_80⟩⟩, hq_73, hf⟩ := ob_el hf
      dsimp only at hf
      refine k_callVi C (c8_create C.2.2.2.2.2.2.2.2.2.1 hq_73) cm8_205 ok8_create (by decide) 0 rfl rfl rfl rfl (Nat.le_of_ble_eq_true rfl) dX8_stepStatement_114 ?_
      obtain ⟨⟨⟨mK_ks_82, mK_kk_83, mK_kv_84, mK_kt_85⟩, ⟨mP_pa_86, mP_pd_87, mP_pf_88, mP_pi_89, mP_pr_90, mP_pb_91, mP_pF_92, mP_pS_93, mP_p0_94, mP_p1_95, mP_p2_96, mP_p3_97, mP_p4_98, mP_pI_99⟩⟩, hq_81, hf⟩ := ob_el hf
      dsimp only at hf
      refine k_callVv C (c8_end C.2.2.2.2.2.2.2.2.2.1 hq_81) cm8_215 ok8_end (by decide) 0 rfl rfl rfl rfl (Nat.le_of_ble_eq_true rfl) dX8_stepStatement_117 ?_
      refine k_goto C 406 dX8_stepStatement_120 (by decide) ?_
      cases hf
      exact K _ _ dX8_stepStatement_406
    replace hf := (if_neg hc).symm.trans hf
    have hn1 := sw_ne hc
    by_cases hc : (mP_pS v1.toNatClampNeg) = (2 : Int32)
    · replace hf := (if_pos hc).symm.trans hf
      refine k_tableIn C 123 dX8_stepStatement_33 (by rw [hx0 _ hc]; decide) (by rw [hx0 _ hc]; decide) (by rw [hx0 _ hc]; rfl) (by decide) ?_
      refine k_aload_n C dX8_stepStatement_123 1 rfl ?_
      refine g8_43 C dX8_stepStatement_124 ?_
      refine k_iload_n C dX8_stepStatement_127 2 rfl ?_
      refine k_aload_n C dX8_stepStatement_128 1 rfl ?_
      refine g8_162 C dX8_stepStatement_129 ?_
      obtain ⟨hi, hf⟩ := gd_no hf
      refine sm12 C hi dX8_stepStatement_132 ?_
      refine k_aload_n C dX8_stepStatement_133 1 rfl ?_
      refine k_bipush (v := (123 : Int32)) C dX8_stepStatement_134 (by decide) ?_
      obtain ⟨⟨mP_pa_101, mP_pd_102, mP_pf_103, mP_pi_104, mP_pr_105, mP_pb_106, mP_pF_107, mP_pS_108, mP_p0_109, mP_p1_110, mP_p2_111, mP_p3_112, mP_p4_113, mP_pI_114⟩, hq_100, hf⟩ := ob_el hf
      dsimp only at hf
      refine k_callVv C (c8_open C.2.2.2.2.2.2.2.2.2.1 hq_100) cm8_218 ok8_open (by decide) 0 rfl rfl rfl rfl (Nat.le_of_ble_eq_true rfl) dX8_stepStatement_136 ?_
      refine k_aload_n C dX8_stepStatement_139 1 rfl ?_
      refine g8_52 C dX8_stepStatement_140 ?_
      refine k_iload_n C dX8_stepStatement_143 2 rfl ?_
      refine k_aload_n C dX8_stepStatement_144 1 rfl ?_
      refine k_bipush (v := (9 : Int32)) C dX8_stepStatement_145 (by decide) ?_
      refine k_iconst (v := (0 : Int32)) C dX8_stepStatement_147 (by decide) ?_
      refine k_iconst (v := (-1 : Int32)) C dX8_stepStatement_148 (by decide) ?_
      obtain ⟨⟨r_116, ⟨mK_ks_117, mK_kk_118, mK_kv_119, mK_kt_120⟩⟩, hq_115, hf⟩ := ob_el hf
      dsimp only at hf
      refine k_callVi C (c8_emit C.2.2.2.2.2.2.2.2.2.1 hq_115) cm8_178 ok8_emit (by decide) 0 rfl rfl rfl rfl (Nat.le_of_ble_eq_true rfl) dX8_stepStatement_149 ?_
      obtain ⟨hi, hf⟩ := gd_no hf
      refine sm15 C hi dX8_stepStatement_152 ?_
      refine k_aload_n C dX8_stepStatement_153 1 rfl ?_
      refine g8_40 C dX8_stepStatement_154 ?_
      refine k_iload_n C dX8_stepStatement_157 2 rfl ?_
      refine k_iconst (v := (3 : Int32)) C dX8_stepStatement_158 (by decide) ?_
      obtain ⟨hi, hf⟩ := gd_no hf
      refine sm11 C hi dX8_stepStatement_159 ?_
      refine k_aload_n C dX8_stepStatement_160 1 rfl ?_
      refine k_iconst (v := (0 : Int32)) C dX8_stepStatement_161 (by decide) ?_
      obtain ⟨⟨mP_pa_122, mP_pd_123, mP_pf_124, mP_pi_125, mP_pr_126, mP_pb_127, mP_pF_128, mP_pS_129, mP_p0_130, mP_p1_131, mP_p2_132, mP_p3_133, mP_p4_134, mP_pI_135⟩, hq_121, hf⟩ := ob_el hf
      dsimp only at hf
      refine k_callVv C (c8_push C.2.2.2.2.2.2.2.2.2.1 hq_121) cm8_171 ok8_push (by decide) 0 rfl rfl rfl rfl (Nat.le_of_ble_eq_true rfl) dX8_stepStatement_162 ?_
      refine k_goto C 406 dX8_stepStatement_165 (by decide) ?_
      cases hf
      exact K _ _ dX8_stepStatement_406
    replace hf := (if_neg hc).symm.trans hf
    have hn2 := sw_ne hc
    by_cases hc : (mP_pS v1.toNatClampNeg) = (3 : Int32)
    · replace hf := (if_pos hc).symm.trans hf
      refine k_tableIn C 168 dX8_stepStatement_33 (by rw [hx0 _ hc]; decide) (by rw [hx0 _ hc]; decide) (by rw [hx0 _ hc]; rfl) (by decide) ?_
      refine k_aload_n C dX8_stepStatement_168 1 rfl ?_
      refine k_iload_n C dX8_stepStatement_169 2 rfl ?_
      refine k_iload_n C dX8_stepStatement_170 0 rfl ?_
      obtain ⟨⟨⟨mK_ks_137, mK_kk_138, mK_kv_139, mK_kt_140⟩, ⟨mN_nn_141, mN_nk_142, mN_na_143, mN_nb_144, mN_nc_145, mN_ns_146⟩, ⟨mP_pa_147, mP_pd_148, mP_pf_149, mP_pi_150, mP_pr_151, mP_pb_152, mP_pF_153, mP_pS_154, mP_p0_155, mP_p1_156, mP_p2_157, mP_p3_158, mP_p4_159, mP_pI_160⟩⟩, hq_136, hf⟩ := ob_el hf
      dsimp only at hf
      refine k_callVv C (c8_endThen C.2.2.2.2.2.2.2.2.2.1 hq_136) cm8_221 ok8_endThen (by decide) 0 rfl rfl rfl rfl (Nat.le_of_ble_eq_true rfl) dX8_stepStatement_171 ?_
      refine k_goto C 406 dX8_stepStatement_174 (by decide) ?_
      cases hf
      exact K _ _ dX8_stepStatement_406
    replace hf := (if_neg hc).symm.trans hf
    have hn3 := sw_ne hc
    by_cases hc : (mP_pS v1.toNatClampNeg) = (4 : Int32)
    · replace hf := (if_pos hc).symm.trans hf
      refine k_tableIn C 177 dX8_stepStatement_33 (by rw [hx0 _ hc]; decide) (by rw [hx0 _ hc]; decide) (by rw [hx0 _ hc]; rfl) (by decide) ?_
      refine k_aload_n C dX8_stepStatement_177 1 rfl ?_
      refine k_bipush (v := (125 : Int32)) C dX8_stepStatement_178 (by decide) ?_
      obtain ⟨⟨mP_pa_162, mP_pd_163, mP_pf_164, mP_pi_165, mP_pr_166, mP_pb_167, mP_pF_168, mP_pS_169, mP_p0_170, mP_p1_171, mP_p2_172, mP_p3_173, mP_p4_174, mP_pI_175⟩, hq_161, hf⟩ := ob_el hf
      dsimp only at hf
      refine k_callVv C (c8_close C.2.2.2.2.2.2.2.2.2.1 hq_161) cm8_224 ok8_close (by decide) 0 rfl rfl rfl rfl (Nat.le_of_ble_eq_true rfl) dX8_stepStatement_180 ?_
      refine k_aload_n C dX8_stepStatement_183 1 rfl ?_
      refine k_aload_n C dX8_stepStatement_184 1 rfl ?_
      refine g8_55 C dX8_stepStatement_185 ?_
      refine k_iload_n C dX8_stepStatement_188 2 rfl ?_
      obtain ⟨hi, hf⟩ := gd_no hf
      refine lm16 C hi dX8_stepStatement_189 ?_
      obtain ⟨⟨mK_ks_177, mK_kk_178, mK_kv_179, mK_kt_180⟩, hq_176, hf⟩ := ob_el hf
      dsimp only at hf
      refine k_callVv C (c8_land C.2.2.2.2.2.2.2.2.2.1 hq_176) cm8_227 ok8_land (by decide) 0 rfl rfl rfl rfl (Nat.le_of_ble_eq_true rfl) dX8_stepStatement_190 ?_
      refine k_aload_n C dX8_stepStatement_193 1 rfl ?_
      refine k_iload_n C dX8_stepStatement_194 2 rfl ?_
      refine k_aload_n C dX8_stepStatement_195 1 rfl ?_
      refine k_bipush (v := (7 : Int32)) C dX8_stepStatement_196 (by decide) ?_
      refine k_aload_n C dX8_stepStatement_198 1 rfl ?_
      refine g8_43 C dX8_stepStatement_199 ?_
      refine k_iload_n C dX8_stepStatement_202 2 rfl ?_
      obtain ⟨hi, hf⟩ := gd_no hf
      refine lm12 C hi dX8_stepStatement_203 ?_
      refine k_aload_n C dX8_stepStatement_204 1 rfl ?_
      refine g8_49 C dX8_stepStatement_205 ?_
      refine k_iload_n C dX8_stepStatement_208 2 rfl ?_
      obtain ⟨hi, hf⟩ := gd_no hf
      refine lm14 C hi dX8_stepStatement_209 ?_
      refine k_aload_n C dX8_stepStatement_210 1 rfl ?_
      refine g8_162 C dX8_stepStatement_211 ?_
      refine k_iload_n C dX8_stepStatement_214 0 rfl ?_
      obtain ⟨⟨r_182, ⟨mN_nn_183, mN_nk_184, mN_na_185, mN_nb_186, mN_nc_187, mN_ns_188⟩⟩, hq_181, hf⟩ := ob_el hf
      dsimp only at hf
      refine k_callVi C (c8_create C.2.2.2.2.2.2.2.2.2.1 hq_181) cm8_205 ok8_create (by decide) 0 rfl rfl rfl rfl (Nat.le_of_ble_eq_true rfl) dX8_stepStatement_215 ?_
      obtain ⟨⟨⟨mK_ks_190, mK_kk_191, mK_kv_192, mK_kt_193⟩, ⟨mP_pa_194, mP_pd_195, mP_pf_196, mP_pi_197, mP_pr_198, mP_pb_199, mP_pF_200, mP_pS_201, mP_p0_202, mP_p1_203, mP_p2_204, mP_p3_205, mP_p4_206, mP_pI_207⟩⟩, hq_189, hf⟩ := ob_el hf
      dsimp only at hf
      refine k_callVv C (c8_end C.2.2.2.2.2.2.2.2.2.1 hq_189) cm8_215 ok8_end (by decide) 0 rfl rfl rfl rfl (Nat.le_of_ble_eq_true rfl) dX8_stepStatement_218 ?_
      refine k_goto C 406 dX8_stepStatement_221 (by decide) ?_
      cases hf
      exact K _ _ dX8_stepStatement_406
    replace hf := (if_neg hc).symm.trans hf
    have hn4 := sw_ne hc
    by_cases hc : (mP_pS v1.toNatClampNeg) = (5 : Int32)
    · replace hf := (if_pos hc).symm.trans hf
      refine k_tableIn C 224 dX8_stepStatement_33 (by rw [hx0 _ hc]; decide) (by rw [hx0 _ hc]; decide) (by rw [hx0 _ hc]; rfl) (by decide) ?_
      refine k_aload_n C dX8_stepStatement_224 1 rfl ?_
      refine g8_43 C dX8_stepStatement_225 ?_
      refine k_iload_n C dX8_stepStatement_228 2 rfl ?_
      refine k_aload_n C dX8_stepStatement_229 1 rfl ?_
      refine g8_162 C dX8_stepStatement_230 ?_
      obtain ⟨hi, hf⟩ := gd_no hf
      refine sm12 C hi dX8_stepStatement_233 ?_
      refine k_aload_n C dX8_stepStatement_234 1 rfl ?_
      refine k_bipush (v := (123 : Int32)) C dX8_stepStatement_235 (by decide) ?_
      obtain ⟨⟨mP_pa_209, mP_pd_210, mP_pf_211, mP_pi_212, mP_pr_213, mP_pb_214, mP_pF_215, mP_pS_216, mP_p0_217, mP_p1_218, mP_p2_219, mP_p3_220, mP_p4_221, mP_pI_222⟩, hq_208, hf⟩ := ob_el hf
      dsimp only at hf
      refine k_callVv C (c8_open C.2.2.2.2.2.2.2.2.2.1 hq_208) cm8_218 ok8_open (by decide) 0 rfl rfl rfl rfl (Nat.le_of_ble_eq_true rfl) dX8_stepStatement_237 ?_
      refine k_aload_n C dX8_stepStatement_240 1 rfl ?_
      refine g8_52 C dX8_stepStatement_241 ?_
      refine k_iload_n C dX8_stepStatement_244 2 rfl ?_
      refine k_aload_n C dX8_stepStatement_245 1 rfl ?_
      refine k_bipush (v := (9 : Int32)) C dX8_stepStatement_246 (by decide) ?_
      refine k_iconst (v := (0 : Int32)) C dX8_stepStatement_248 (by decide) ?_
      refine k_iconst (v := (-1 : Int32)) C dX8_stepStatement_249 (by decide) ?_
      obtain ⟨⟨r_224, ⟨mK_ks_225, mK_kk_226, mK_kv_227, mK_kt_228⟩⟩, hq_223, hf⟩ := ob_el hf
      dsimp only at hf
      refine k_callVi C (c8_emit C.2.2.2.2.2.2.2.2.2.1 hq_223) cm8_178 ok8_emit (by decide) 0 rfl rfl rfl rfl (Nat.le_of_ble_eq_true rfl) dX8_stepStatement_250 ?_
      obtain ⟨hi, hf⟩ := gd_no hf
      refine sm15 C hi dX8_stepStatement_253 ?_
      refine k_aload_n C dX8_stepStatement_254 1 rfl ?_
      refine k_bipush (v := (11 : Int32)) C dX8_stepStatement_255 (by decide) ?_
      refine k_iconst (v := (0 : Int32)) C dX8_stepStatement_257 (by decide) ?_
      refine k_iconst (v := (-1 : Int32)) C dX8_stepStatement_258 (by decide) ?_
      obtain ⟨⟨r_230, ⟨mK_ks_231, mK_kk_232, mK_kv_233, mK_kt_234⟩⟩, hq_229, hf⟩ := ob_el hf
      dsimp only at hf
      refine k_callVi C (c8_emit C.2.2.2.2.2.2.2.2.2.1 hq_229) cm8_178 ok8_emit (by decide) 0 rfl rfl rfl rfl (Nat.le_of_ble_eq_true rfl) dX8_stepStatement_259 ?_
      refine k_pop C dX8_stepStatement_262 rfl ?_
      refine k_aload_n C dX8_stepStatement_263 1 rfl ?_
      refine g8_40 C dX8_stepStatement_264 ?_
      refine k_iload_n C dX8_stepStatement_267 2 rfl ?_
      refine k_bipush (v := (6 : Int32)) C dX8_stepStatement_268 (by decide) ?_
      obtain ⟨hi, hf⟩ := gd_no hf
      refine sm11 C hi dX8_stepStatement_270 ?_
      refine k_aload_n C dX8_stepStatement_271 1 rfl ?_
      refine k_iconst (v := (0 : Int32)) C dX8_stepStatement_272 (by decide) ?_
      obtain ⟨⟨mP_pa_236, mP_pd_237, mP_pf_238, mP_pi_239, mP_pr_240, mP_pb_241, mP_pF_242, mP_pS_243, mP_p0_244, mP_p1_245, mP_p2_246, mP_p3_247, mP_p4_248, mP_pI_249⟩, hq_235, hf⟩ := ob_el hf
      dsimp only at hf
      refine k_callVv C (c8_push C.2.2.2.2.2.2.2.2.2.1 hq_235) cm8_171 ok8_push (by decide) 0 rfl rfl rfl rfl (Nat.le_of_ble_eq_true rfl) dX8_stepStatement_273 ?_
      refine k_goto C 406 dX8_stepStatement_276 (by decide) ?_
      cases hf
      exact K _ _ dX8_stepStatement_406
    replace hf := (if_neg hc).symm.trans hf
    have hn5 := sw_ne hc
    by_cases hc : (mP_pS v1.toNatClampNeg) = (6 : Int32)
    · replace hf := (if_pos hc).symm.trans hf
      refine k_tableIn C 279 dX8_stepStatement_33 (by rw [hx0 _ hc]; decide) (by rw [hx0 _ hc]; decide) (by rw [hx0 _ hc]; rfl) (by decide) ?_
      refine k_aload_n C dX8_stepStatement_279 1 rfl ?_
      refine k_bipush (v := (125 : Int32)) C dX8_stepStatement_280 (by decide) ?_
      obtain ⟨⟨mP_pa_251, mP_pd_252, mP_pf_253, mP_pi_254, mP_pr_255, mP_pb_256, mP_pF_257, mP_pS_258, mP_p0_259, mP_p1_260, mP_p2_261, mP_p3_262, mP_p4_263, mP_pI_264⟩, hq_250, hf⟩ := ob_el hf
      dsimp only at hf
      refine k_callVv C (c8_close C.2.2.2.2.2.2.2.2.2.1 hq_250) cm8_224 ok8_close (by decide) 0 rfl rfl rfl rfl (Nat.le_of_ble_eq_true rfl) dX8_stepStatement_282 ?_
      refine k_aload_n C dX8_stepStatement_285 1 rfl ?_
      refine k_bipush (v := (10 : Int32)) C dX8_stepStatement_286 (by decide) ?_
      refine k_aload_n C dX8_stepStatement_288 1 rfl ?_
      refine g8_55 C dX8_stepStatement_289 ?_
      refine k_iload_n C dX8_stepStatement_292 2 rfl ?_
      obtain ⟨hi, hf⟩ := gd_no hf
      refine lm16 C hi dX8_stepStatement_293 ?_
      refine k_iconst (v := (-1 : Int32)) C dX8_stepStatement_294 (by decide) ?_
      obtain ⟨⟨r_266, ⟨mK_ks_267, mK_kk_268, mK_kv_269, mK_kt_270⟩⟩, hq_265, hf⟩ := ob_el hf
      dsimp only at hf
      refine k_callVi C (c8_emit C.2.2.2.2.2.2.2.2.2.1 hq_265) cm8_178 ok8_emit (by decide) 0 rfl rfl rfl rfl (Nat.le_of_ble_eq_true rfl) dX8_stepStatement_295 ?_
      refine k_pop C dX8_stepStatement_298 rfl ?_
      refine k_aload_n C dX8_stepStatement_299 1 rfl ?_
      refine k_aload_n C dX8_stepStatement_300 1 rfl ?_
      refine g8_52 C dX8_stepStatement_301 ?_
      refine k_iload_n C dX8_stepStatement_304 2 rfl ?_
      obtain ⟨hi, hf⟩ := gd_no hf
      refine lm15 C hi dX8_stepStatement_305 ?_
      obtain ⟨⟨mK_ks_272, mK_kk_273, mK_kv_274, mK_kt_275⟩, hq_271, hf⟩ := ob_el hf
      dsimp only at hf
      refine k_callVv C (c8_land C.2.2.2.2.2.2.2.2.2.1 hq_271) cm8_227 ok8_land (by decide) 0 rfl rfl rfl rfl (Nat.le_of_ble_eq_true rfl) dX8_stepStatement_306 ?_
      refine k_aload_n C dX8_stepStatement_309 1 rfl ?_
      refine k_iload_n C dX8_stepStatement_310 2 rfl ?_
      refine k_aload_n C dX8_stepStatement_311 1 rfl ?_
      refine k_bipush (v := (8 : Int32)) C dX8_stepStatement_312 (by decide) ?_
      refine k_aload_n C dX8_stepStatement_314 1 rfl ?_
      refine g8_43 C dX8_stepStatement_315 ?_
      refine k_iload_n C dX8_stepStatement_318 2 rfl ?_
      obtain ⟨hi, hf⟩ := gd_no hf
      refine lm12 C hi dX8_stepStatement_319 ?_
      refine k_aload_n C dX8_stepStatement_320 1 rfl ?_
      refine g8_162 C dX8_stepStatement_321 ?_
      refine k_iconst (v := (0 : Int32)) C dX8_stepStatement_324 (by decide) ?_
      refine k_iload_n C dX8_stepStatement_325 0 rfl ?_
      obtain ⟨⟨r_277, ⟨mN_nn_278, mN_nk_279, mN_na_280, mN_nb_281, mN_nc_282, mN_ns_283⟩⟩, hq_276, hf⟩ := ob_el hf
      dsimp only at hf
      refine k_callVi C (c8_create C.2.2.2.2.2.2.2.2.2.1 hq_276) cm8_205 ok8_create (by decide) 0 rfl rfl rfl rfl (Nat.le_of_ble_eq_true rfl) dX8_stepStatement_326 ?_
      obtain ⟨⟨⟨mK_ks_285, mK_kk_286, mK_kv_287, mK_kt_288⟩, ⟨mP_pa_289, mP_pd_290, mP_pf_291, mP_pi_292, mP_pr_293, mP_pb_294, mP_pF_295, mP_pS_296, mP_p0_297, mP_p1_298, mP_p2_299, mP_p3_300, mP_p4_301, mP_pI_302⟩⟩, hq_284, hf⟩ := ob_el hf
      dsimp only at hf
      refine k_callVv C (c8_end C.2.2.2.2.2.2.2.2.2.1 hq_284) cm8_215 ok8_end (by decide) 0 rfl rfl rfl rfl (Nat.le_of_ble_eq_true rfl) dX8_stepStatement_329 ?_
      refine k_goto C 406 dX8_stepStatement_332 (by decide) ?_
      cases hf
      exact K _ _ dX8_stepStatement_406
    replace hf := (if_neg hc).symm.trans hf
    have hn6 := sw_ne hc
    by_cases hc : (mP_pS v1.toNatClampNeg) = (7 : Int32)
    · replace hf := (if_pos hc).symm.trans hf
      refine k_tableIn C 335 dX8_stepStatement_33 (by rw [hx0 _ hc]; decide) (by rw [hx0 _ hc]; decide) (by rw [hx0 _ hc]; rfl) (by decide) ?_
      refine k_aload_n C dX8_stepStatement_335 1 rfl ?_
      refine k_bipush (v := (59 : Int32)) C dX8_stepStatement_336 (by decide) ?_
      obtain ⟨⟨r_304, ⟨mP_pa_305, mP_pd_306, mP_pf_307, mP_pi_308, mP_pr_309, mP_pb_310, mP_pF_311, mP_pS_312, mP_p0_313, mP_p1_314, mP_p2_315, mP_p3_316, mP_p4_317, mP_pI_318⟩⟩, hq_303, hf⟩ := ob_el hf
      dsimp only at hf
      refine k_callVi C (c8_take C.2.2.2.2.2.2.2.2.2.1 hq_303) cm8_143 ok8_take (by decide) 0 rfl rfl rfl rfl (Nat.le_of_ble_eq_true rfl) dX8_stepStatement_338 ?_
      refine k_pop C dX8_stepStatement_341 rfl ?_
      refine k_aload_n C dX8_stepStatement_342 1 rfl ?_
      refine k_bipush (v := (12 : Int32)) C dX8_stepStatement_343 (by decide) ?_
      refine k_iconst (v := (0 : Int32)) C dX8_stepStatement_345 (by decide) ?_
      refine k_iconst (v := (-1 : Int32)) C dX8_stepStatement_346 (by decide) ?_
      obtain ⟨⟨r_320, ⟨mK_ks_321, mK_kk_322, mK_kv_323, mK_kt_324⟩⟩, hq_319, hf⟩ := ob_el hf
      dsimp only at hf
      refine k_callVi C (c8_emit C.2.2.2.2.2.2.2.2.2.1 hq_319) cm8_178 ok8_emit (by decide) 0 rfl rfl rfl rfl (Nat.le_of_ble_eq_true rfl) dX8_stepStatement_347 ?_
      refine k_pop C dX8_stepStatement_350 rfl ?_
      refine k_aload_n C dX8_stepStatement_351 1 rfl ?_
      refine k_iload_n C dX8_stepStatement_352 2 rfl ?_
      refine k_aload_n C dX8_stepStatement_353 1 rfl ?_
      refine k_bipush (v := (9 : Int32)) C dX8_stepStatement_354 (by decide) ?_
      refine k_aload_n C dX8_stepStatement_356 1 rfl ?_
      refine g8_162 C dX8_stepStatement_357 ?_
      refine k_iconst (v := (-1 : Int32)) C dX8_stepStatement_360 (by decide) ?_
      refine k_iconst (v := (-1 : Int32)) C dX8_stepStatement_361 (by decide) ?_
      refine k_iload_n C dX8_stepStatement_362 0 rfl ?_
      obtain ⟨⟨r_326, ⟨mN_nn_327, mN_nk_328, mN_na_329, mN_nb_330, mN_nc_331, mN_ns_332⟩⟩, hq_325, hf⟩ := ob_el hf
      dsimp only at hf
      refine k_callVi C (c8_create C.2.2.2.2.2.2.2.2.2.1 hq_325) cm8_205 ok8_create (by decide) 0 rfl rfl rfl rfl (Nat.le_of_ble_eq_true rfl) dX8_stepStatement_363 ?_
      obtain ⟨⟨⟨mK_ks_334, mK_kk_335, mK_kv_336, mK_kt_337⟩, ⟨mP_pa_338, mP_pd_339, mP_pf_340, mP_pi_341, mP_pr_342, mP_pb_343, mP_pF_344, mP_pS_345, mP_p0_346, mP_p1_347, mP_p2_348, mP_p3_349, mP_p4_350, mP_pI_351⟩⟩, hq_333, hf⟩ := ob_el hf
      dsimp only at hf
      refine k_callVv C (c8_end C.2.2.2.2.2.2.2.2.2.1 hq_333) cm8_215 ok8_end (by decide) 0 rfl rfl rfl rfl (Nat.le_of_ble_eq_true rfl) dX8_stepStatement_366 ?_
      refine k_goto C 406 dX8_stepStatement_369 (by decide) ?_
      cases hf
      exact K _ _ dX8_stepStatement_406
    replace hf := (if_neg hc).symm.trans hf
    have hn7 := sw_ne hc
    have kd_352 : WC V p l e R s m args below meth c Q A kc ks 3 (wM V ad (mT_ty, mT_te) (mQ_qc, mQ_qb, mQ_qp, mQ_qr, mQ_qC) (mK_ks, mK_kk, mK_kv, mK_kt) (mN_nn, mN_nk, mN_na, mN_nb, mN_nc, mN_ns) (mP_pa, mP_pd, mP_pf, mP_pi, mP_pr, mP_pb, mP_pF, mP_pS, mP_p0, mP_p1, mP_p2, mP_p3, mP_p4, mP_pI) mL mH mR mG) 372 [(2, .int v2_1), (0, .ref (ad 0)), (1, .int v1)] [] := by
      refine k_aload_n C dX8_stepStatement_372 1 rfl ?_
      refine k_bipush (v := (59 : Int32)) C dX8_stepStatement_373 (by decide) ?_
      obtain ⟨⟨r_3, ⟨mP_pa_4, mP_pd_5, mP_pf_6, mP_pi_7, mP_pr_8, mP_pb_9, mP_pF_10, mP_pS_11, mP_p0_12, mP_p1_13, mP_p2_14, mP_p3_15, mP_p4_16, mP_pI_17⟩⟩, hq_2, hf⟩ := ob_el hf
      dsimp only at hf
      refine k_callVi C (c8_take C.2.2.2.2.2.2.2.2.2.1 hq_2) cm8_143 ok8_take (by decide) 0 rfl rfl rfl rfl (Nat.le_of_ble_eq_true rfl) dX8_stepStatement_375 ?_
      refine k_pop C dX8_stepStatement_378 rfl ?_
      refine k_aload_n C dX8_stepStatement_379 1 rfl ?_
      refine k_bipush (v := (13 : Int32)) C dX8_stepStatement_380 (by decide) ?_
      refine k_iconst (v := (0 : Int32)) C dX8_stepStatement_382 (by decide) ?_
      refine k_iconst (v := (-1 : Int32)) C dX8_stepStatement_383 (by decide) ?_
      obtain ⟨⟨r_19, ⟨mK_ks_20, mK_kk_21, mK_kv_22, mK_kt_23⟩⟩, hq_18, hf⟩ := ob_el hf
      dsimp only at hf
      refine k_callVi C (c8_emit C.2.2.2.2.2.2.2.2.2.1 hq_18) cm8_178 ok8_emit (by decide) 0 rfl rfl rfl rfl (Nat.le_of_ble_eq_true rfl) dX8_stepStatement_384 ?_
      refine k_pop C dX8_stepStatement_387 rfl ?_
      refine k_aload_n C dX8_stepStatement_388 1 rfl ?_
      refine k_iload_n C dX8_stepStatement_389 2 rfl ?_
      refine k_aload_n C dX8_stepStatement_390 1 rfl ?_
      refine k_bipush (v := (10 : Int32)) C dX8_stepStatement_391 (by decide) ?_
      refine k_aload_n C dX8_stepStatement_393 1 rfl ?_
      refine g8_162 C dX8_stepStatement_394 ?_
      refine k_iconst (v := (-1 : Int32)) C dX8_stepStatement_397 (by decide) ?_
      refine k_iconst (v := (-1 : Int32)) C dX8_stepStatement_398 (by decide) ?_
      refine k_iload_n C dX8_stepStatement_399 0 rfl ?_
      obtain ⟨⟨r_25, ⟨mN_nn_26, mN_nk_27, mN_na_28, mN_nb_29, mN_nc_30, mN_ns_31⟩⟩, hq_24, hf⟩ := ob_el hf
      dsimp only at hf
      refine k_callVi C (c8_create C.2.2.2.2.2.2.2.2.2.1 hq_24) cm8_205 ok8_create (by decide) 0 rfl rfl rfl rfl (Nat.le_of_ble_eq_true rfl) dX8_stepStatement_400 ?_
      obtain ⟨⟨⟨mK_ks_33, mK_kk_34, mK_kv_35, mK_kt_36⟩, ⟨mP_pa_37, mP_pd_38, mP_pf_39, mP_pi_40, mP_pr_41, mP_pb_42, mP_pF_43, mP_pS_44, mP_p0_45, mP_p1_46, mP_p2_47, mP_p3_48, mP_p4_49, mP_pI_50⟩⟩, hq_32, hf⟩ := ob_el hf
      dsimp only at hf
      refine k_callVv C (c8_end C.2.2.2.2.2.2.2.2.2.1 hq_32) cm8_215 ok8_end (by decide) 0 rfl rfl rfl rfl (Nat.le_of_ble_eq_true rfl) dX8_stepStatement_403 ?_
      cases hf
      exact K _ _ dX8_stepStatement_406
    have hr : (mP_pS v1.toNatClampNeg).toInt < 1 ∨ 7 < (mP_pS v1.toNatClampNeg).toInt := by
      have q1 : ¬ (mP_pS v1.toNatClampNeg).toInt = 1 := hn1 1 (by decide)
      have q2 : ¬ (mP_pS v1.toNatClampNeg).toInt = 2 := hn2 2 (by decide)
      have q3 : ¬ (mP_pS v1.toNatClampNeg).toInt = 3 := hn3 3 (by decide)
      have q4 : ¬ (mP_pS v1.toNatClampNeg).toInt = 4 := hn4 4 (by decide)
      have q5 : ¬ (mP_pS v1.toNatClampNeg).toInt = 5 := hn5 5 (by decide)
      have q6 : ¬ (mP_pS v1.toNatClampNeg).toInt = 6 := hn6 6 (by decide)
      have q7 : ¬ (mP_pS v1.toNatClampNeg).toInt = 7 := hn7 7 (by decide)
      omega
    rcases hr with hr | hr
    · exact k_tableOut C 372 dX8_stepStatement_33 (Or.inl hr) (by decide) kd_352
    · exact k_tableOut C 372 dX8_stepStatement_33 (Or.inr hr) (by decide) kd_352
  · replace hf := (if_pos hc).symm.trans hf
    refine k_aload_n C dX8_stepStatement_9 0 rfl ?_
    refine k_iload_n C dX8_stepStatement_10 1 rfl ?_
    obtain ⟨⟨⟨mK_ks_354, mK_kk_355, mK_kv_356, mK_kt_357⟩, ⟨mP_pa_358, mP_pd_359, mP_pf_360, mP_pi_361, mP_pr_362, mP_pb_363, mP_pF_364, mP_pS_365, mP_p0_366, mP_p1_367, mP_p2_368, mP_p3_369, mP_p4_370, mP_pI_371⟩⟩, hq_353, hf⟩ := ob_el hf
    dsimp only at hf
    refine k_callVv C (c8_beginStatement C.2.2.2.2.2.2.2.2.2.1 hq_353) cm8_212 ok8_beginStatement (by decide) 0 rfl rfl rfl rfl (Nat.le_of_ble_eq_true rfl) dX8_stepStatement_11 ?_
    cases hf
    exact K _ _ dX8_stepStatement_14
theorem c8_stepStatement {V : EV} {l : Launch} (hl0 : l.stackTraces = false) {ad : Nat → Nat} {mL : MdL} {mH : MdH} {mR : MdR} {mG : MdG} {mT_ty : Int32} {mT_te : Nat → Int32} {mQ_qc : Int32} {mQ_qb : Int32} {mQ_qp : Int32} {mQ_qr : Int32} {mQ_qC : Int32} {v1 : Int32} {mK_ks : Int32} {mK_kk : Nat → Int32} {mK_kv : Nat → Int32} {mK_kt : Nat → Int32} {mN_nn : Int32} {mN_nk : Nat → Int32} {mN_na : Nat → Int32} {mN_nb : Nat → Int32} {mN_nc : Nat → Int32} {mN_ns : Nat → Int32} {mP_pa : Int32} {mP_pd : Int32} {mP_pf : Int32} {mP_pi : Int32} {mP_pr : Int32} {mP_pb : Int32} {mP_pF : Nat → Int32} {mP_pS : Nat → Int32} {mP_p0 : Nat → Int32} {mP_p1 : Nat → Int32} {mP_p2 : Nat → Int32} {mP_p3 : Nat → Int32} {mP_p4 : Nat → Int32} {mP_pI : Nat → Int32} {res : MdK × MdN × MdP} (hf : f8_stepStatement v1 (mT_ty, mT_te) (mQ_qc, mQ_qb, mQ_qp, mQ_qr, mQ_qC) (mK_ks, mK_kk, mK_kv, mK_kt) (mN_nn, mN_nk, mN_na, mN_nb, mN_nc, mN_ns) (mP_pa, mP_pd, mP_pf, mP_pi, mP_pr, mP_pb, mP_pF, mP_pS, mP_p0, mP_p1, mP_p2, mP_p3, mP_p4, mP_pI) = some res) : MV V l yX8_stepStatement cX8_stepStatement 3 4 84 [.ref (ad 0), .int v1] (wM V ad (mT_ty, mT_te) (mQ_qc, mQ_qb, mQ_qp, mQ_qr, mQ_qC) (mK_ks, mK_kk, mK_kv, mK_kt) (mN_nn, mN_nk, mN_na, mN_nb, mN_nc, mN_ns) (mP_pa, mP_pd, mP_pf, mP_pi, mP_pr, mP_pb, mP_pF, mP_pS, mP_p0, mP_p1, mP_p2, mP_p3, mP_p4, mP_pI) mL mH mR mG) (wM V ad (mT_ty, mT_te) (mQ_qc, mQ_qb, mQ_qp, mQ_qr, mQ_qC) res.1 res.2.1 res.2.2 mL mH mR mG) :=
  mv_of hl0 (by decide +kernel) (Nat.le_of_ble_eq_true rfl) (fun p e R s m args below meth c Q A C K => b8_stepStatement C hf K)

theorem ok8_stepChain : okCV RX8 yX8_stepChain 3 := by unfold okCV; decide +kernel
def f8_stepChain_L126   (mT_ty : Int32) (mT_te : Nat → Int32) (mQ_qc : Int32) (mQ_qb : Int32) (mQ_qp : Int32) (mQ_qr : Int32) (mQ_qC : Int32) : Int32 → Int32 → Int32 → MdK → MdN → MdP → Option (MdK × MdN × MdP)
  | x3, y0, y2, (mK_ks, mK_kk, mK_kv, mK_kt), (mN_nn, mN_nk, mN_na, mN_nb, mN_nc, mN_ns), (mP_pa, mP_pd, mP_pf, mP_pi, mP_pr, mP_pb, mP_pF, mP_pS, mP_p0, mP_p1, mP_p2, mP_p3, mP_p4, mP_pI) =>
    (f8_emit y0 (0 : Int32) mP_pa (mQ_qc, mQ_qb, mQ_qp, mQ_qr, mQ_qC) (mK_ks, mK_kk, mK_kv, mK_kt)).bind fun (r_4, (mK_ks_5, mK_kk_6, mK_kv_7, mK_kt_8)) => if y2 < 0 ∨ 80 ≤ y2.toNatClampNeg then none else (f8_push x3 ((mP_pa + (1 : Int32)), mP_pd, mP_pf, mP_pi, mP_pr, mP_pb, mP_pF, mP_pS, mP_p0, (upd mP_p1 y2.toNatClampNeg r_4), mP_p2, mP_p3, mP_p4, mP_pI)).bind fun (mP_pa_10, mP_pd_11, mP_pf_12, mP_pi_13, mP_pr_14, mP_pb_15, mP_pF_16, mP_pS_17, mP_p0_18, mP_p1_19, mP_p2_20, mP_p3_21, mP_p4_22, mP_pI_23) => some ((mK_ks_5, mK_kk_6, mK_kv_7, mK_kt_8), (mN_nn, mN_nk, mN_na, mN_nb, mN_nc, mN_ns), (mP_pa_10, mP_pd_11, mP_pf_12, mP_pi_13, mP_pr_14, mP_pb_15, mP_pF_16, mP_pS_17, mP_p0_18, mP_p1_19, mP_p2_20, mP_p3_21, mP_p4_22, mP_pI_23))

def f8_stepChain_L88   (mT_ty : Int32) (mT_te : Nat → Int32) (mQ_qc : Int32) (mQ_qb : Int32) (mQ_qp : Int32) (mQ_qr : Int32) (mQ_qC : Int32) : Int32 → Int32 → Int32 → MdK → MdN → MdP → Option (MdK × MdN × MdP)
  | x1, x2, x3, (mK_ks, mK_kk, mK_kv, mK_kt), (mN_nn, mN_nk, mN_na, mN_nb, mN_nc, mN_ns), (mP_pa, mP_pd, mP_pf, mP_pi, mP_pr, mP_pb, mP_pF, mP_pS, mP_p0, mP_p1, mP_p2, mP_p3, mP_p4, mP_pI) =>
    (f8_peek (mT_ty, mT_te) (mP_pa, mP_pd, mP_pf, mP_pi, mP_pr, mP_pb, mP_pF, mP_pS, mP_p0, mP_p1, mP_p2, mP_p3, mP_p4, mP_pI)).bind fun r_2 => if r_2 = x2 then if x2 = (38 : Int32) then f8_stepChain_L126 mT_ty mT_te mQ_qc mQ_qb mQ_qp mQ_qr mQ_qC x3 (7 : Int32) x1 (mK_ks, mK_kk, mK_kv, mK_kt) (mN_nn, mN_nk, mN_na, mN_nb, mN_nc, mN_ns) (mP_pa, mP_pd, mP_pf, mP_pi, mP_pr, mP_pb, mP_pF, mP_pS, mP_p0, mP_p1, mP_p2, mP_p3, mP_p4, mP_pI) else f8_stepChain_L126 mT_ty mT_te mQ_qc mQ_qb mQ_qp mQ_qr mQ_qC x3 (15 : Int32) x1 (mK_ks, mK_kk, mK_kv, mK_kt) (mN_nn, mN_nk, mN_na, mN_nb, mN_nc, mN_ns) (mP_pa, mP_pd, mP_pf, mP_pi, mP_pr, mP_pb, mP_pF, mP_pS, mP_p0, mP_p1, mP_p2, mP_p3, mP_p4, mP_pI) else if x1 < 0 ∨ 80 ≤ x1.toNatClampNeg then none else (f8_finish (mP_p0 x1.toNatClampNeg) (mP_pa, mP_pd, mP_pf, mP_pi, mP_pr, mP_pb, mP_pF, mP_pS, mP_p0, mP_p1, mP_p2, mP_p3, mP_p4, mP_pI)).bind fun (mP_pa_25, mP_pd_26, mP_pf_27, mP_pi_28, mP_pr_29, mP_pb_30, mP_pF_31, mP_pS_32, mP_p0_33, mP_p1_34, mP_p2_35, mP_p3_36, mP_p4_37, mP_pI_38) => some ((mK_ks, mK_kk, mK_kv, mK_kt), (mN_nn, mN_nk, mN_na, mN_nb, mN_nc, mN_ns), (mP_pa_25, mP_pd_26, mP_pf_27, mP_pi_28, mP_pr_29, mP_pb_30, mP_pF_31, mP_pS_32, mP_p0_33, mP_p1_34, mP_p2_35, mP_p3_36, mP_p4_37, mP_pI_38))
def f8_stepChain (v1 : Int32) (v2 : Int32) (v3 : Int32) : MdT → MdQ → MdK → MdN → MdP → Option (MdK × MdN × MdP)
  | (mT_ty, mT_te), (mQ_qc, mQ_qb, mQ_qp, mQ_qr, mQ_qC), (mK_ks, mK_kk, mK_kv, mK_kt), (mN_nn, mN_nk, mN_na, mN_nb, mN_nc, mN_ns), (mP_pa, mP_pd, mP_pf, mP_pi, mP_pr, mP_pb, mP_pF, mP_pS, mP_p0, mP_p1, mP_p2, mP_p3, mP_p4, mP_pI) =>
    if v1 < 0 ∨ 80 ≤ v1.toNatClampNeg then none else if (mP_pS v1.toNatClampNeg) = 0 then if v1 < 0 ∨ 80 ≤ v1.toNatClampNeg then none else (f8_push v3 (mP_pa, mP_pd, mP_pf, mP_pi, mP_pr, mP_pb, mP_pF, (upd mP_pS v1.toNatClampNeg (1 : Int32)), mP_p0, mP_p1, mP_p2, mP_p3, mP_p4, mP_pI)).bind fun (mP_pa_53, mP_pd_54, mP_pf_55, mP_pi_56, mP_pr_57, mP_pb_58, mP_pF_59, mP_pS_60, mP_p0_61, mP_p1_62, mP_p2_63, mP_p3_64, mP_p4_65, mP_pI_66) => some ((mK_ks, mK_kk, mK_kv, mK_kt), (mN_nn, mN_nk, mN_na, mN_nb, mN_nc, mN_ns), (mP_pa_53, mP_pd_54, mP_pf_55, mP_pi_56, mP_pr_57, mP_pb_58, mP_pF_59, mP_pS_60, mP_p0_61, mP_p1_62, mP_p2_63, mP_p3_64, mP_p4_65, mP_pI_66)) else if v1 < 0 ∨ 80 ≤ v1.toNatClampNeg then none else if (mP_p0 v1.toNatClampNeg) = (-1 : Int32) then if v1 < 0 ∨ 80 ≤ v1.toNatClampNeg then none else f8_stepChain_L88 mT_ty mT_te mQ_qc mQ_qb mQ_qp mQ_qr mQ_qC v1 v2 v3 (mK_ks, mK_kk, mK_kv, mK_kt) (mN_nn, mN_nk, mN_na, mN_nb, mN_nc, mN_ns) (mP_pa, mP_pd, mP_pf, mP_pi, mP_pr, mP_pb, mP_pF, mP_pS, (upd mP_p0 v1.toNatClampNeg mP_pr), mP_p1, mP_p2, mP_p3, mP_p4, mP_pI) else if v1 < 0 ∨ 80 ≤ v1.toNatClampNeg then none else (f8_land (mP_p1 v1.toNatClampNeg) (mQ_qc, mQ_qb, mQ_qp, mQ_qr, mQ_qC) (mK_ks, mK_kk, mK_kv, mK_kt)).bind fun (mK_ks_40, mK_kk_41, mK_kv_42, mK_kt_43) => if v1 < 0 ∨ 80 ≤ v1.toNatClampNeg then none else if v1 < 0 ∨ 80 ≤ v1.toNatClampNeg then none else if (mP_p1 v1.toNatClampNeg) < 0 ∨ 512 ≤ (mP_p1 v1.toNatClampNeg).toNatClampNeg then none else (f8_create (5 : Int32) v2 (mP_p0 v1.toNatClampNeg) mP_pr (mK_kt_43 (mP_p1 v1.toNatClampNeg).toNatClampNeg) (mQ_qc, mQ_qb, mQ_qp, mQ_qr, mQ_qC) (mN_nn, mN_nk, mN_na, mN_nb, mN_nc, mN_ns)).bind fun (r_45, (mN_nn_46, mN_nk_47, mN_na_48, mN_nb_49, mN_nc_50, mN_ns_51)) => if v1 < 0 ∨ 80 ≤ v1.toNatClampNeg then none else f8_stepChain_L88 mT_ty mT_te mQ_qc mQ_qb mQ_qp mQ_qr mQ_qC v1 v2 v3 (mK_ks_40, mK_kk_41, mK_kv_42, mK_kt_43) (mN_nn_46, mN_nk_47, mN_na_48, mN_nb_49, mN_nc_50, mN_ns_51) (mP_pa, mP_pd, mP_pf, mP_pi, mP_pr, mP_pb, mP_pF, mP_pS, (upd mP_p0 v1.toNatClampNeg r_45), mP_p1, mP_p2, mP_p3, mP_p4, mP_pI)
set_option maxHeartbeats 4000000 in
set_option maxRecDepth 100000 in
theorem w8_stepChain_L126 {V : EV} {p : Program} {l : Launch} {e : Env} {R : Room} {s : State} {m : MethodId} {args : Array Value} {below : List Frame} {meth : Method} {c : Code} {Q : State → Prop} {A : Nat → Prop} {kc ks : Nat} {ad : Nat → Nat} {mL : MdL} {mH : MdH} {mR : MdR} {mG : MdG} {mT_ty : Int32} {mT_te : Nat → Int32} {mQ_qc : Int32} {mQ_qb : Int32} {mQ_qp : Int32} {mQ_qr : Int32} {mQ_qC : Int32}  {res : MdK × MdN × MdP} (C : CX V p l R s m args c A kc ks RX8 cX8_stepChain 4 1 26) (K : RV V p l e R s m args below meth c Q A kc ks 4 cX8_stepChain (wM V ad (mT_ty, mT_te) (mQ_qc, mQ_qb, mQ_qp, mQ_qr, mQ_qC) res.1 res.2.1 res.2.2 mL mH mR mG))  : ∀ (x3 : Int32) (y0 : Int32) (y2 : Int32) (mK_ks : Int32) (mK_kk : Nat → Int32) (mK_kv : Nat → Int32) (mK_kt : Nat → Int32) (mN_nn : Int32) (mN_nk : Nat → Int32) (mN_na : Nat → Int32) (mN_nb : Nat → Int32) (mN_nc : Nat → Int32) (mN_ns : Nat → Int32) (mP_pa : Int32) (mP_pd : Int32) (mP_pf : Int32) (mP_pi : Int32) (mP_pr : Int32) (mP_pb : Int32) (mP_pF : Nat → Int32) (mP_pS : Nat → Int32) (mP_p0 : Nat → Int32) (mP_p1 : Nat → Int32) (mP_p2 : Nat → Int32) (mP_p3 : Nat → Int32) (mP_p4 : Nat → Int32) (mP_pI : Nat → Int32), f8_stepChain_L126 mT_ty mT_te mQ_qc mQ_qb mQ_qp mQ_qr mQ_qC x3 y0 y2 (mK_ks, mK_kk, mK_kv, mK_kt) (mN_nn, mN_nk, mN_na, mN_nb, mN_nc, mN_ns) (mP_pa, mP_pd, mP_pf, mP_pi, mP_pr, mP_pb, mP_pF, mP_pS, mP_p0, mP_p1, mP_p2, mP_p3, mP_p4, mP_pI) = some res → WC V p l e R s m args below meth c Q A kc ks 4 (wM V ad (mT_ty, mT_te) (mQ_qc, mQ_qb, mQ_qp, mQ_qr, mQ_qC) (mK_ks, mK_kk, mK_kv, mK_kt) (mN_nn, mN_nk, mN_na, mN_nb, mN_nc, mN_ns) (mP_pa, mP_pd, mP_pf, mP_pi, mP_pr, mP_pb, mP_pF, mP_pS, mP_p0, mP_p1, mP_p2, mP_p3, mP_p4, mP_pI) mL mH mR mG) 126 [(0, .ref (ad 0)), (3, .int x3)] [.int y0, .ref (ad 0), .int y2, .ref (ad 13)] := by
  intro x3 y0 y2 mK_ks mK_kk mK_kv mK_kt mN_nn mN_nk mN_na mN_nb mN_nc mN_ns mP_pa mP_pd mP_pf mP_pi mP_pr mP_pb mP_pF mP_pS mP_p0 mP_p1 mP_p2 mP_p3 mP_p4 mP_pI hf
  rw [f8_stepChain_L126] at hf
  refine k_iconst (v := (0 : Int32)) C dX8_stepChain_126 (by decide) ?_
  refine k_aload_n C dX8_stepChain_127 0 rfl ?_
  refine g8_132 C dX8_stepChain_128 ?_
  obtain ⟨⟨r_4, ⟨mK_ks_5, mK_kk_6, mK_kv_7, mK_kt_8⟩⟩, hq_3, hf⟩ := ob_el hf
  dsimp only at hf
  refine k_callVi C (c8_emit C.2.2.2.2.2.2.2.2.2.1 hq_3) cm8_178 ok8_emit (by decide) 0 rfl rfl rfl rfl (Nat.le_of_ble_eq_true rfl) dX8_stepChain_131 ?_
  obtain ⟨hi, hf⟩ := gd_no hf
  refine sm13 C hi dX8_stepChain_134 ?_
  refine k_aload_n C dX8_stepChain_135 0 rfl ?_
  refine k_dup C dX8_stepChain_136 rfl ?_
  refine g8_132 C dX8_stepChain_137 ?_
  refine k_iconst (v := (1 : Int32)) C dX8_stepChain_140 (by decide) ?_
  refine k_iadd C dX8_stepChain_141 ?_
  refine p8_132 C dX8_stepChain_142 ?_
  refine k_aload_n C dX8_stepChain_145 0 rfl ?_
  refine k_iload_n C dX8_stepChain_146 1 rfl ?_
  obtain ⟨⟨mP_pa_10, mP_pd_11, mP_pf_12, mP_pi_13, mP_pr_14, mP_pb_15, mP_pF_16, mP_pS_17, mP_p0_18, mP_p1_19, mP_p2_20, mP_p3_21, mP_p4_22, mP_pI_23⟩, hq_9, hf⟩ := ob_el hf
  dsimp only at hf
  refine k_callVv C (c8_push C.2.2.2.2.2.2.2.2.2.1 hq_9) cm8_171 ok8_push (by decide) 0 rfl rfl rfl rfl (Nat.le_of_ble_eq_true rfl) dX8_stepChain_147 ?_
  cases hf
  exact K _ _ dX8_stepChain_150

set_option maxHeartbeats 4000000 in
set_option maxRecDepth 100000 in
theorem w8_stepChain_L88 {V : EV} {p : Program} {l : Launch} {e : Env} {R : Room} {s : State} {m : MethodId} {args : Array Value} {below : List Frame} {meth : Method} {c : Code} {Q : State → Prop} {A : Nat → Prop} {kc ks : Nat} {ad : Nat → Nat} {mL : MdL} {mH : MdH} {mR : MdR} {mG : MdG} {mT_ty : Int32} {mT_te : Nat → Int32} {mQ_qc : Int32} {mQ_qb : Int32} {mQ_qp : Int32} {mQ_qr : Int32} {mQ_qC : Int32}  {res : MdK × MdN × MdP} (C : CX V p l R s m args c A kc ks RX8 cX8_stepChain 4 1 26) (K : RV V p l e R s m args below meth c Q A kc ks 4 cX8_stepChain (wM V ad (mT_ty, mT_te) (mQ_qc, mQ_qb, mQ_qp, mQ_qr, mQ_qC) res.1 res.2.1 res.2.2 mL mH mR mG))  : ∀ (x1 : Int32) (x2 : Int32) (x3 : Int32) (mK_ks : Int32) (mK_kk : Nat → Int32) (mK_kv : Nat → Int32) (mK_kt : Nat → Int32) (mN_nn : Int32) (mN_nk : Nat → Int32) (mN_na : Nat → Int32) (mN_nb : Nat → Int32) (mN_nc : Nat → Int32) (mN_ns : Nat → Int32) (mP_pa : Int32) (mP_pd : Int32) (mP_pf : Int32) (mP_pi : Int32) (mP_pr : Int32) (mP_pb : Int32) (mP_pF : Nat → Int32) (mP_pS : Nat → Int32) (mP_p0 : Nat → Int32) (mP_p1 : Nat → Int32) (mP_p2 : Nat → Int32) (mP_p3 : Nat → Int32) (mP_p4 : Nat → Int32) (mP_pI : Nat → Int32), f8_stepChain_L88 mT_ty mT_te mQ_qc mQ_qb mQ_qp mQ_qr mQ_qC x1 x2 x3 (mK_ks, mK_kk, mK_kv, mK_kt) (mN_nn, mN_nk, mN_na, mN_nb, mN_nc, mN_ns) (mP_pa, mP_pd, mP_pf, mP_pi, mP_pr, mP_pb, mP_pF, mP_pS, mP_p0, mP_p1, mP_p2, mP_p3, mP_p4, mP_pI) = some res → WC V p l e R s m args below meth c Q A kc ks 4 (wM V ad (mT_ty, mT_te) (mQ_qc, mQ_qb, mQ_qp, mQ_qr, mQ_qC) (mK_ks, mK_kk, mK_kv, mK_kt) (mN_nn, mN_nk, mN_na, mN_nb, mN_nc, mN_ns) (mP_pa, mP_pd, mP_pf, mP_pi, mP_pr, mP_pb, mP_pF, mP_pS, mP_p0, mP_p1, mP_p2, mP_p3, mP_p4, mP_pI) mL mH mR mG) 88 [(0, .ref (ad 0)), (1, .int x1), (2, .int x2), (3, .int x3)] [] := by
  intro x1 x2 x3 mK_ks mK_kk mK_kv mK_kt mN_nn mN_nk mN_na mN_nb mN_nc mN_ns mP_pa mP_pd mP_pf mP_pi mP_pr mP_pb mP_pF mP_pS mP_p0 mP_p1 mP_p2 mP_p3 mP_p4 mP_pI hf
  rw [f8_stepChain_L88] at hf
  refine k_aload_n C dX8_stepChain_88 0 rfl ?_
  obtain ⟨r_2, hq_1, hf⟩ := ob_el hf
  refine k_callVi C (c8_peek C.2.2.2.2.2.2.2.2.2.1 hq_1) cm8_139 ok8_peek (by decide) 0 rfl rfl rfl rfl (Nat.le_of_ble_eq_true rfl) dX8_stepChain_89 ?_
  refine k_iload_n C dX8_stepChain_92 2 rfl ?_
  refine k_icmp_eq C 107 dX8_stepChain_93 (by decide) (fun hc => ?_) (fun hc => ?_)
  · replace hf := (if_pos hc).symm.trans hf
    refine k_aload_n C dX8_stepChain_107 0 rfl ?_
    refine g8_46 C dX8_stepChain_108 ?_
    refine k_iload_n C dX8_stepChain_111 1 rfl ?_
    refine k_aload_n C dX8_stepChain_112 0 rfl ?_
    refine k_iload_n C dX8_stepChain_113 2 rfl ?_
    refine k_bipush (v := (38 : Int32)) C dX8_stepChain_114 (by decide) ?_
    refine k_icmp_ne C 124 dX8_stepChain_116 (by decide) (fun hc => ?_) (fun hc => ?_)
    · replace hf := (if_neg hc).symm.trans hf
      refine k_bipush (v := (15 : Int32)) C dX8_stepChain_124 (by decide) ?_
      refine k_sub [0, 3] (L' := [(0, .ref (ad 0)), (3, .int x3)]) rfl ?_
      exact w8_stepChain_L126 C K _ _ _ _ _ _ _ _ _ _ _ _ _ _ _ _ _ _ _ _ _ _ _ _ _ _ _ hf
    · replace hf := (if_pos hc).symm.trans hf
      refine k_bipush (v := (7 : Int32)) C dX8_stepChain_119 (by decide) ?_
      refine k_goto C 126 dX8_stepChain_121 (by decide) ?_
      refine k_sub [0, 3] (L' := [(0, .ref (ad 0)), (3, .int x3)]) rfl ?_
      exact w8_stepChain_L126 C K _ _ _ _ _ _ _ _ _ _ _ _ _ _ _ _ _ _ _ _ _ _ _ _ _ _ _ hf
  · replace hf := (if_neg hc).symm.trans hf
    refine k_aload_n C dX8_stepChain_96 0 rfl ?_
    refine k_aload_n C dX8_stepChain_97 0 rfl ?_
    refine g8_43 C dX8_stepChain_98 ?_
    refine k_iload_n C dX8_stepChain_101 1 rfl ?_
    obtain ⟨hi, hf⟩ := gd_no hf
    refine lm12 C hi dX8_stepChain_102 ?_
    obtain ⟨⟨mP_pa_25, mP_pd_26, mP_pf_27, mP_pi_28, mP_pr_29, mP_pb_30, mP_pF_31, mP_pS_32, mP_p0_33, mP_p1_34, mP_p2_35, mP_p3_36, mP_p4_37, mP_pI_38⟩, hq_24, hf⟩ := ob_el hf
    dsimp only at hf
    refine k_callVv C (c8_finish C.2.2.2.2.2.2.2.2.2.1 hq_24) cm8_209 ok8_finish (by decide) 0 rfl rfl rfl rfl (Nat.le_of_ble_eq_true rfl) dX8_stepChain_103 ?_
    cases hf
    exact K _ _ dX8_stepChain_106
set_option maxHeartbeats 4000000 in
set_option maxRecDepth 100000 in
theorem b8_stepChain {V : EV} {p : Program} {l : Launch} {e : Env} {R : Room} {s : State} {m : MethodId} {args : Array Value} {below : List Frame} {meth : Method} {c : Code} {Q : State → Prop} {A : Nat → Prop} {kc ks : Nat} {ad : Nat → Nat} {mL : MdL} {mH : MdH} {mR : MdR} {mG : MdG} {mT_ty : Int32} {mT_te : Nat → Int32} {mQ_qc : Int32} {mQ_qb : Int32} {mQ_qp : Int32} {mQ_qr : Int32} {mQ_qC : Int32} {v1 : Int32} {v2 : Int32} {v3 : Int32} {mK_ks : Int32} {mK_kk : Nat → Int32} {mK_kv : Nat → Int32} {mK_kt : Nat → Int32} {mN_nn : Int32} {mN_nk : Nat → Int32} {mN_na : Nat → Int32} {mN_nb : Nat → Int32} {mN_nc : Nat → Int32} {mN_ns : Nat → Int32} {mP_pa : Int32} {mP_pd : Int32} {mP_pf : Int32} {mP_pi : Int32} {mP_pr : Int32} {mP_pb : Int32} {mP_pF : Nat → Int32} {mP_pS : Nat → Int32} {mP_p0 : Nat → Int32} {mP_p1 : Nat → Int32} {mP_p2 : Nat → Int32} {mP_p3 : Nat → Int32} {mP_p4 : Nat → Int32} {mP_pI : Nat → Int32} {res : MdK × MdN × MdP} (C : CX V p l R s m args c A kc ks RX8 cX8_stepChain 4 1 26) (hf : f8_stepChain v1 v2 v3 (mT_ty, mT_te) (mQ_qc, mQ_qb, mQ_qp, mQ_qr, mQ_qC) (mK_ks, mK_kk, mK_kv, mK_kt) (mN_nn, mN_nk, mN_na, mN_nb, mN_nc, mN_ns) (mP_pa, mP_pd, mP_pf, mP_pi, mP_pr, mP_pb, mP_pF, mP_pS, mP_p0, mP_p1, mP_p2, mP_p3, mP_p4, mP_pI) = some res) (K : RV V p l e R s m args below meth c Q A kc ks 4 cX8_stepChain (wM V ad (mT_ty, mT_te) (mQ_qc, mQ_qb, mQ_qp, mQ_qr, mQ_qC) res.1 res.2.1 res.2.2 mL mH mR mG)) : WC V p l e R s m args below meth c Q A kc ks 4 (wM V ad (mT_ty, mT_te) (mQ_qc, mQ_qb, mQ_qp, mQ_qr, mQ_qC) (mK_ks, mK_kk, mK_kv, mK_kt) (mN_nn, mN_nk, mN_na, mN_nb, mN_nc, mN_ns) (mP_pa, mP_pd, mP_pf, mP_pi, mP_pr, mP_pb, mP_pF, mP_pS, mP_p0, mP_p1, mP_p2, mP_p3, mP_p4, mP_pI) mL mH mR mG) 0 [(0, .ref (ad 0)), (1, .int v1), (2, .int v2), (3, .int v3)] [] := by
  rw [f8_stepChain] at hf
  refine k_aload_n C dX8_stepChain_0 0 rfl ?_
  refine g8_40 C dX8_stepChain_1 ?_
  refine k_iload_n C dX8_stepChain_4 1 rfl ?_
  obtain ⟨hi, hf⟩ := gd_no hf
  refine lm11 C hi dX8_stepChain_5 ?_
  refine k_if_ne C 22 dX8_stepChain_6 (by decide) (fun hc => ?_) (fun hc => ?_)
  · replace hf := (if_neg hc).symm.trans hf
    refine k_aload_n C dX8_stepChain_22 0 rfl ?_
    refine g8_43 C dX8_stepChain_23 ?_
    refine k_iload_n C dX8_stepChain_26 1 rfl ?_
    obtain ⟨hi, hf⟩ := gd_no hf
    refine lm12 C hi dX8_stepChain_27 ?_
    refine k_iconst (v := (-1 : Int32)) C dX8_stepChain_28 (by decide) ?_
    refine k_icmp_eq C 78 dX8_stepChain_29 (by decide) (fun hc => ?_) (fun hc => ?_)
    · replace hf := (if_pos hc).symm.trans hf
      refine k_aload_n C dX8_stepChain_78 0 rfl ?_
      refine g8_43 C dX8_stepChain_79 ?_
      refine k_iload_n C dX8_stepChain_82 1 rfl ?_
      refine k_aload_n C dX8_stepChain_83 0 rfl ?_
      refine g8_162 C dX8_stepChain_84 ?_
      obtain ⟨hi, hf⟩ := gd_no hf
      refine sm12 C hi dX8_stepChain_87 ?_
      exact w8_stepChain_L88 C K _ _ _ _ _ _ _ _ _ _ _ _ _ _ _ _ _ _ _ _ _ _ _ _ _ _ _ hf
    · replace hf := (if_neg hc).symm.trans hf
      refine k_aload_n C dX8_stepChain_32 0 rfl ?_
      refine k_aload_n C dX8_stepChain_33 0 rfl ?_
      refine g8_46 C dX8_stepChain_34 ?_
      refine k_iload_n C dX8_stepChain_37 1 rfl ?_
      obtain ⟨hi, hf⟩ := gd_no hf
      refine lm13 C hi dX8_stepChain_38 ?_
      obtain ⟨⟨mK_ks_40, mK_kk_41, mK_kv_42, mK_kt_43⟩, hq_39, hf⟩ := ob_el hf
      dsimp only at hf
      refine k_callVv C (c8_land C.2.2.2.2.2.2.2.2.2.1 hq_39) cm8_227 ok8_land (by decide) 0 rfl rfl rfl rfl (Nat.le_of_ble_eq_true rfl) dX8_stepChain_39 ?_
      refine k_aload_n C dX8_stepChain_42 0 rfl ?_
      refine g8_43 C dX8_stepChain_43 ?_
      refine k_iload_n C dX8_stepChain_46 1 rfl ?_
      refine k_aload_n C dX8_stepChain_47 0 rfl ?_
      refine k_iconst (v := (5 : Int32)) C dX8_stepChain_48 (by decide) ?_
      refine k_iload_n C dX8_stepChain_49 2 rfl ?_
      refine k_aload_n C dX8_stepChain_50 0 rfl ?_
      refine g8_43 C dX8_stepChain_51 ?_
      refine k_iload_n C dX8_stepChain_54 1 rfl ?_
      obtain ⟨hi, hf⟩ := gd_no hf
      refine lm12 C hi dX8_stepChain_55 ?_
      refine k_aload_n C dX8_stepChain_56 0 rfl ?_
      refine g8_162 C dX8_stepChain_57 ?_
      refine k_aload_n C dX8_stepChain_60 0 rfl ?_
      refine g8_19 C dX8_stepChain_61 ?_
      refine k_aload_n C dX8_stepChain_64 0 rfl ?_
      refine g8_46 C dX8_stepChain_65 ?_
      refine k_iload_n C dX8_stepChain_68 1 rfl ?_
      obtain ⟨hi, hf⟩ := gd_no hf
      refine lm13 C hi dX8_stepChain_69 ?_
      obtain ⟨hi, hf⟩ := gd_no hf
      refine lm4 C hi dX8_stepChain_70 ?_
      obtain ⟨⟨r_45, ⟨mN_nn_46, mN_nk_47, mN_na_48, mN_nb_49, mN_nc_50, mN_ns_51⟩⟩, hq_44, hf⟩ := ob_el hf
      dsimp only at hf
      refine k_callVi C (c8_create C.2.2.2.2.2.2.2.2.2.1 hq_44) cm8_205 ok8_create (by decide) 0 rfl rfl rfl rfl (Nat.le_of_ble_eq_true rfl) dX8_stepChain_71 ?_
      obtain ⟨hi, hf⟩ := gd_no hf
      refine sm12 C hi dX8_stepChain_74 ?_
      refine k_goto C 88 dX8_stepChain_75 (by decide) ?_
      exact w8_stepChain_L88 C K _ _ _ _ _ _ _ _ _ _ _ _ _ _ _ _ _ _ _ _ _ _ _ _ _ _ _ hf
  · replace hf := (if_pos hc).symm.trans hf
    refine k_aload_n C dX8_stepChain_9 0 rfl ?_
    refine g8_40 C dX8_stepChain_10 ?_
    refine k_iload_n C dX8_stepChain_13 1 rfl ?_
    refine k_iconst (v := (1 : Int32)) C dX8_stepChain_14 (by decide) ?_
    obtain ⟨hi, hf⟩ := gd_no hf
    refine sm11 C hi dX8_stepChain_15 ?_
    refine k_aload_n C dX8_stepChain_16 0 rfl ?_
    refine k_iload_n C dX8_stepChain_17 3 rfl ?_
    obtain ⟨⟨mP_pa_53, mP_pd_54, mP_pf_55, mP_pi_56, mP_pr_57, mP_pb_58, mP_pF_59, mP_pS_60, mP_p0_61, mP_p1_62, mP_p2_63, mP_p3_64, mP_p4_65, mP_pI_66⟩, hq_52, hf⟩ := ob_el hf
    dsimp only at hf
    refine k_callVv C (c8_push C.2.2.2.2.2.2.2.2.2.1 hq_52) cm8_171 ok8_push (by decide) 0 rfl rfl rfl rfl (Nat.le_of_ble_eq_true rfl) dX8_stepChain_18 ?_
    cases hf
    exact K _ _ dX8_stepChain_21
theorem c8_stepChain {V : EV} {l : Launch} (hl0 : l.stackTraces = false) {ad : Nat → Nat} {mL : MdL} {mH : MdH} {mR : MdR} {mG : MdG} {mT_ty : Int32} {mT_te : Nat → Int32} {mQ_qc : Int32} {mQ_qb : Int32} {mQ_qp : Int32} {mQ_qr : Int32} {mQ_qC : Int32} {v1 : Int32} {v2 : Int32} {v3 : Int32} {mK_ks : Int32} {mK_kk : Nat → Int32} {mK_kv : Nat → Int32} {mK_kt : Nat → Int32} {mN_nn : Int32} {mN_nk : Nat → Int32} {mN_na : Nat → Int32} {mN_nb : Nat → Int32} {mN_nc : Nat → Int32} {mN_ns : Nat → Int32} {mP_pa : Int32} {mP_pd : Int32} {mP_pf : Int32} {mP_pi : Int32} {mP_pr : Int32} {mP_pb : Int32} {mP_pF : Nat → Int32} {mP_pS : Nat → Int32} {mP_p0 : Nat → Int32} {mP_p1 : Nat → Int32} {mP_p2 : Nat → Int32} {mP_p3 : Nat → Int32} {mP_p4 : Nat → Int32} {mP_pI : Nat → Int32} {res : MdK × MdN × MdP} (hf : f8_stepChain v1 v2 v3 (mT_ty, mT_te) (mQ_qc, mQ_qb, mQ_qp, mQ_qr, mQ_qC) (mK_ks, mK_kk, mK_kv, mK_kt) (mN_nn, mN_nk, mN_na, mN_nb, mN_nc, mN_ns) (mP_pa, mP_pd, mP_pf, mP_pi, mP_pr, mP_pb, mP_pF, mP_pS, mP_p0, mP_p1, mP_p2, mP_p3, mP_p4, mP_pI) = some res) : MV V l yX8_stepChain cX8_stepChain 4 1 26 [.ref (ad 0), .int v1, .int v2, .int v3] (wM V ad (mT_ty, mT_te) (mQ_qc, mQ_qb, mQ_qp, mQ_qr, mQ_qC) (mK_ks, mK_kk, mK_kv, mK_kt) (mN_nn, mN_nk, mN_na, mN_nb, mN_nc, mN_ns) (mP_pa, mP_pd, mP_pf, mP_pi, mP_pr, mP_pb, mP_pF, mP_pS, mP_p0, mP_p1, mP_p2, mP_p3, mP_p4, mP_pI) mL mH mR mG) (wM V ad (mT_ty, mT_te) (mQ_qc, mQ_qb, mQ_qp, mQ_qr, mQ_qC) res.1 res.2.1 res.2.2 mL mH mR mG) :=
  mv_of hl0 (by decide +kernel) (Nat.le_of_ble_eq_true rfl) (fun p e R s m args below meth c Q A C K => b8_stepChain C hf K)

theorem ok8_stepAtom : okCV RX8 yX8_stepAtom 1 := by unfold okCV; decide +kernel
def f8_stepAtom_L68   (mT_ty : Int32) (mT_te : Nat → Int32) (mQ_qc : Int32) (mQ_qb : Int32) (mQ_qp : Int32) (mQ_qr : Int32) (mQ_qC : Int32) : Int32 → MdK → MdN → MdP → Option (MdK × MdN × MdP)
  | x1, (mK_ks, mK_kk, mK_kv, mK_kt), (mN_nn, mN_nk, mN_na, mN_nb, mN_nc, mN_ns), (mP_pa, mP_pd, mP_pf, mP_pi, mP_pr, mP_pb, mP_pF, mP_pS, mP_p0, mP_p1, mP_p2, mP_p3, mP_p4, mP_pI) =>
    if x1 < 0 ∨ 80 ≤ x1.toNatClampNeg then none else if (mP_pS x1.toNatClampNeg) = (1 : Int32) then (f8_push (2 : Int32) (mP_pa, mP_pd, mP_pf, mP_pi, mP_pr, mP_pb, mP_pF, mP_pS, mP_p0, mP_p1, mP_p2, mP_p3, mP_p4, mP_pI)).bind fun (mP_pa_48, mP_pd_49, mP_pf_50, mP_pi_51, mP_pr_52, mP_pb_53, mP_pF_54, mP_pS_55, mP_p0_56, mP_p1_57, mP_p2_58, mP_p3_59, mP_p4_60, mP_pI_61) => some ((mK_ks, mK_kk, mK_kv, mK_kt), (mN_nn, mN_nk, mN_na, mN_nb, mN_nc, mN_ns), (mP_pa_48, mP_pd_49, mP_pf_50, mP_pi_51, mP_pr_52, mP_pb_53, mP_pF_54, mP_pS_55, mP_p0_56, mP_p1_57, mP_p2_58, mP_p3_59, mP_p4_60, mP_pI_61)) else (f8_push (5 : Int32) (mP_pa, mP_pd, mP_pf, mP_pi, mP_pr, mP_pb, mP_pF, mP_pS, mP_p0, mP_p1, mP_p2, mP_p3, mP_p4, mP_pI)).bind fun (mP_pa_33, mP_pd_34, mP_pf_35, mP_pi_36, mP_pr_37, mP_pb_38, mP_pF_39, mP_pS_40, mP_p0_41, mP_p1_42, mP_p2_43, mP_p3_44, mP_p4_45, mP_pI_46) => some ((mK_ks, mK_kk, mK_kv, mK_kt), (mN_nn, mN_nk, mN_na, mN_nb, mN_nc, mN_ns), (mP_pa_33, mP_pd_34, mP_pf_35, mP_pi_36, mP_pr_37, mP_pb_38, mP_pF_39, mP_pS_40, mP_p0_41, mP_p1_42, mP_p2_43, mP_p3_44, mP_p4_45, mP_pI_46))

def f8_stepAtom_L51   (mT_ty : Int32) (mT_te : Nat → Int32) (mQ_qc : Int32) (mQ_qb : Int32) (mQ_qp : Int32) (mQ_qr : Int32) (mQ_qC : Int32) : Int32 → Int32 → Int32 → MdK → MdN → MdP → Option (MdK × MdN × MdP)
  | x1, y0, y1, (mK_ks, mK_kk, mK_kv, mK_kt), (mN_nn, mN_nk, mN_na, mN_nb, mN_nc, mN_ns), (mP_pa, mP_pd, mP_pf, mP_pi, mP_pr, mP_pb, mP_pF, mP_pS, mP_p0, mP_p1, mP_p2, mP_p3, mP_p4, mP_pI) =>
    if y1 < 0 ∨ 80 ≤ y1.toNatClampNeg then none else if x1 < 0 ∨ 80 ≤ x1.toNatClampNeg then none else if ((upd mP_pS y1.toNatClampNeg y0) x1.toNatClampNeg) = (1 : Int32) then (f8_open (91 : Int32) (mT_ty, mT_te) (mP_pa, mP_pd, mP_pf, mP_pi, mP_pr, mP_pb, mP_pF, (upd mP_pS y1.toNatClampNeg y0), mP_p0, mP_p1, mP_p2, mP_p3, mP_p4, mP_pI)).bind fun (mP_pa_63, mP_pd_64, mP_pf_65, mP_pi_66, mP_pr_67, mP_pb_68, mP_pF_69, mP_pS_70, mP_p0_71, mP_p1_72, mP_p2_73, mP_p3_74, mP_p4_75, mP_pI_76) => f8_stepAtom_L68 mT_ty mT_te mQ_qc mQ_qb mQ_qp mQ_qr mQ_qC x1 (mK_ks, mK_kk, mK_kv, mK_kt) (mN_nn, mN_nk, mN_na, mN_nb, mN_nc, mN_ns) (mP_pa_63, mP_pd_64, mP_pf_65, mP_pi_66, mP_pr_67, mP_pb_68, mP_pF_69, mP_pS_70, mP_p0_71, mP_p1_72, mP_p2_73, mP_p3_74, mP_p4_75, mP_pI_76) else f8_stepAtom_L68 mT_ty mT_te mQ_qc mQ_qb mQ_qp mQ_qr mQ_qC x1 (mK_ks, mK_kk, mK_kv, mK_kt) (mN_nn, mN_nk, mN_na, mN_nb, mN_nc, mN_ns) (mP_pa, mP_pd, mP_pf, mP_pi, mP_pr, mP_pb, mP_pF, (upd mP_pS y1.toNatClampNeg y0), mP_p0, mP_p1, mP_p2, mP_p3, mP_p4, mP_pI)

def f8_stepAtom_L149   (mT_ty : Int32) (mT_te : Nat → Int32) (mQ_qc : Int32) (mQ_qb : Int32) (mQ_qp : Int32) (mQ_qr : Int32) (mQ_qC : Int32) : Int32 → Int32 → MdK → MdN → MdP → Option (MdK × MdN × MdP)
  | x1, y0, (mK_ks, mK_kk, mK_kv, mK_kt), (mN_nn, mN_nk, mN_na, mN_nb, mN_nc, mN_ns), (mP_pa, mP_pd, mP_pf, mP_pi, mP_pr, mP_pb, mP_pF, mP_pS, mP_p0, mP_p1, mP_p2, mP_p3, mP_p4, mP_pI) =>
    if y0 = 0 ∨ y0 = 1 then if x1 < 0 ∨ 80 ≤ x1.toNatClampNeg then none else if x1 < 0 ∨ 80 ≤ x1.toNatClampNeg then none else if x1 < 0 ∨ 80 ≤ x1.toNatClampNeg then none else (f8_push (5 : Int32) ((mP_pa + (1 : Int32)), mP_pd, mP_pf, mP_pi, mP_pr, y0, mP_pF, (upd mP_pS x1.toNatClampNeg (3 : Int32)), (upd mP_p0 x1.toNatClampNeg mP_pr), (upd mP_p1 x1.toNatClampNeg mP_pa), mP_p2, mP_p3, mP_p4, mP_pI)).bind fun (mP_pa_110, mP_pd_111, mP_pf_112, mP_pi_113, mP_pr_114, mP_pb_115, mP_pF_116, mP_pS_117, mP_p0_118, mP_p1_119, mP_p2_120, mP_p3_121, mP_p4_122, mP_pI_123) => some ((mK_ks, mK_kk, mK_kv, mK_kt), (mN_nn, mN_nk, mN_na, mN_nb, mN_nc, mN_ns), (mP_pa_110, mP_pd_111, mP_pf_112, mP_pi_113, mP_pr_114, mP_pb_115, mP_pF_116, mP_pS_117, mP_p0_118, mP_p1_119, mP_p2_120, mP_p3_121, mP_p4_122, mP_pI_123)) else none

def f8_stepAtom_L144   (mT_ty : Int32) (mT_te : Nat → Int32) (mQ_qc : Int32) (mQ_qb : Int32) (mQ_qp : Int32) (mQ_qr : Int32) (mQ_qC : Int32) : Int32 → MdK → MdN → MdP → Option (MdK × MdN × MdP)
  | x1, (mK_ks, mK_kk, mK_kv, mK_kt), (mN_nn, mN_nk, mN_na, mN_nb, mN_nc, mN_ns), (mP_pa, mP_pd, mP_pf, mP_pi, mP_pr, mP_pb, mP_pF, mP_pS, mP_p0, mP_p1, mP_p2, mP_p3, mP_p4, mP_pI) =>
    f8_stepAtom_L149 mT_ty mT_te mQ_qc mQ_qb mQ_qp mQ_qr mQ_qC x1 (1 : Int32) (mK_ks, mK_kk, mK_kv, mK_kt) (mN_nn, mN_nk, mN_na, mN_nb, mN_nc, mN_ns) (mP_pa, mP_pd, mP_pf, mP_pi, mP_pr, mP_pb, mP_pF, mP_pS, mP_p0, mP_p1, mP_p2, mP_p3, mP_p4, mP_pI)

def f8_stepAtom_L148   (mT_ty : Int32) (mT_te : Nat → Int32) (mQ_qc : Int32) (mQ_qb : Int32) (mQ_qp : Int32) (mQ_qr : Int32) (mQ_qC : Int32) : Int32 → MdK → MdN → MdP → Option (MdK × MdN × MdP)
  | x1, (mK_ks, mK_kk, mK_kv, mK_kt), (mN_nn, mN_nk, mN_na, mN_nb, mN_nc, mN_ns), (mP_pa, mP_pd, mP_pf, mP_pi, mP_pr, mP_pb, mP_pF, mP_pS, mP_p0, mP_p1, mP_p2, mP_p3, mP_p4, mP_pI) =>
    f8_stepAtom_L149 mT_ty mT_te mQ_qc mQ_qb mQ_qp mQ_qr mQ_qC x1 (0 : Int32) (mK_ks, mK_kk, mK_kv, mK_kt) (mN_nn, mN_nk, mN_na, mN_nb, mN_nc, mN_ns) (mP_pa, mP_pd, mP_pf, mP_pi, mP_pr, mP_pb, mP_pF, mP_pS, mP_p0, mP_p1, mP_p2, mP_p3, mP_p4, mP_pI)
def f8_stepAtom (v1 : Int32) : MdT → MdQ → MdK → MdN → MdP → Option (MdK × MdN × MdP)
  | (mT_ty, mT_te), (mQ_qc, mQ_qb, mQ_qp, mQ_qr, mQ_qC), (mK_ks, mK_kk, mK_kv, mK_kt), (mN_nn, mN_nk, mN_na, mN_nb, mN_nc, mN_ns), (mP_pa, mP_pd, mP_pf, mP_pi, mP_pr, mP_pb, mP_pF, mP_pS, mP_p0, mP_p1, mP_p2, mP_p3, mP_p4, mP_pI) =>
    if v1 < 0 ∨ 80 ≤ v1.toNatClampNeg then none else if (mP_pS v1.toNatClampNeg) = (0 : Int32) then (f8_peek (mT_ty, mT_te) (mP_pa, mP_pd, mP_pf, mP_pi, mP_pr, mP_pb, mP_pF, mP_pS, mP_p0, mP_p1, mP_p2, mP_p3, mP_p4, mP_pI)).bind fun r_31 => if r_31 = (91 : Int32) then f8_stepAtom_L51 mT_ty mT_te mQ_qc mQ_qb mQ_qp mQ_qr mQ_qC v1 (1 : Int32) v1 (mK_ks, mK_kk, mK_kv, mK_kt) (mN_nn, mN_nk, mN_na, mN_nb, mN_nc, mN_ns) (mP_pa, mP_pd, mP_pf, mP_pi, mP_pr, mP_pb, mP_pF, mP_pS, mP_p0, mP_p1, mP_p2, mP_p3, mP_p4, mP_pI) else f8_stepAtom_L51 mT_ty mT_te mQ_qc mQ_qb mQ_qp mQ_qr mQ_qC v1 (2 : Int32) v1 (mK_ks, mK_kk, mK_kv, mK_kt) (mN_nn, mN_nk, mN_na, mN_nb, mN_nc, mN_ns) (mP_pa, mP_pd, mP_pf, mP_pi, mP_pr, mP_pb, mP_pF, mP_pS, mP_p0, mP_p1, mP_p2, mP_p3, mP_p4, mP_pI) else if (mP_pS v1.toNatClampNeg) = (1 : Int32) then (f8_close (93 : Int32) (mT_ty, mT_te) (mP_pa, mP_pd, mP_pf, mP_pi, mP_pr, mP_pb, mP_pF, mP_pS, mP_p0, mP_p1, mP_p2, mP_p3, mP_p4, mP_pI)).bind fun (mP_pa_78, mP_pd_79, mP_pf_80, mP_pi_81, mP_pr_82, mP_pb_83, mP_pF_84, mP_pS_85, mP_p0_86, mP_p1_87, mP_p2_88, mP_p3_89, mP_p4_90, mP_pI_91) => (f8_finish mP_pr_82 (mP_pa_78, mP_pd_79, mP_pf_80, mP_pi_81, mP_pr_82, mP_pb_83, mP_pF_84, mP_pS_85, mP_p0_86, mP_p1_87, mP_p2_88, mP_p3_89, mP_p4_90, mP_pI_91)).bind fun (mP_pa_93, mP_pd_94, mP_pf_95, mP_pi_96, mP_pr_97, mP_pb_98, mP_pF_99, mP_pS_100, mP_p0_101, mP_p1_102, mP_p2_103, mP_p3_104, mP_p4_105, mP_pI_106) => some ((mK_ks, mK_kk, mK_kv, mK_kt), (mN_nn, mN_nk, mN_na, mN_nb, mN_nc, mN_ns), (mP_pa_93, mP_pd_94, mP_pf_95, mP_pi_96, mP_pr_97, mP_pb_98, mP_pF_99, mP_pS_100, mP_p0_101, mP_p1_102, mP_p2_103, mP_p3_104, mP_p4_105, mP_pI_106)) else if (mP_pS v1.toNatClampNeg) = (2 : Int32) then (f8_peek (mT_ty, mT_te) (mP_pa, mP_pd, mP_pf, mP_pi, mP_pr, mP_pb, mP_pF, mP_pS, mP_p0, mP_p1, mP_p2, mP_p3, mP_p4, mP_pI)).bind fun r_108 => if mP_pb = 0 then if r_108 = (60 : Int32) then f8_stepAtom_L148 mT_ty mT_te mQ_qc mQ_qb mQ_qp mQ_qr mQ_qC v1 (mK_ks, mK_kk, mK_kv, mK_kt) (mN_nn, mN_nk, mN_na, mN_nb, mN_nc, mN_ns) (mP_pa, mP_pd, mP_pf, mP_pi, mP_pr, mP_pb, mP_pF, mP_pS, mP_p0, mP_p1, mP_p2, mP_p3, mP_p4, mP_pI) else if r_108 = (62 : Int32) then f8_stepAtom_L148 mT_ty mT_te mQ_qc mQ_qb mQ_qp mQ_qr mQ_qC v1 (mK_ks, mK_kk, mK_kv, mK_kt) (mN_nn, mN_nk, mN_na, mN_nb, mN_nc, mN_ns) (mP_pa, mP_pd, mP_pf, mP_pi, mP_pr, mP_pb, mP_pF, mP_pS, mP_p0, mP_p1, mP_p2, mP_p3, mP_p4, mP_pI) else if r_108 = (61 : Int32) then f8_stepAtom_L148 mT_ty mT_te mQ_qc mQ_qb mQ_qp mQ_qr mQ_qC v1 (mK_ks, mK_kk, mK_kv, mK_kt) (mN_nn, mN_nk, mN_na, mN_nb, mN_nc, mN_ns) (mP_pa, mP_pd, mP_pf, mP_pi, mP_pr, mP_pb, mP_pF, mP_pS, mP_p0, mP_p1, mP_p2, mP_p3, mP_p4, mP_pI) else if r_108 = (35 : Int32) then f8_stepAtom_L148 mT_ty mT_te mQ_qc mQ_qb mQ_qp mQ_qr mQ_qC v1 (mK_ks, mK_kk, mK_kv, mK_kt) (mN_nn, mN_nk, mN_na, mN_nb, mN_nc, mN_ns) (mP_pa, mP_pd, mP_pf, mP_pi, mP_pr, mP_pb, mP_pF, mP_pS, mP_p0, mP_p1, mP_p2, mP_p3, mP_p4, mP_pI) else f8_stepAtom_L144 mT_ty mT_te mQ_qc mQ_qb mQ_qp mQ_qr mQ_qC v1 (mK_ks, mK_kk, mK_kv, mK_kt) (mN_nn, mN_nk, mN_na, mN_nb, mN_nc, mN_ns) (mP_pa, mP_pd, mP_pf, mP_pi, mP_pr, mP_pb, mP_pF, mP_pS, mP_p0, mP_p1, mP_p2, mP_p3, mP_p4, mP_pI) else f8_stepAtom_L144 mT_ty mT_te mQ_qc mQ_qb mQ_qp mQ_qr mQ_qC v1 (mK_ks, mK_kk, mK_kv, mK_kt) (mN_nn, mN_nk, mN_na, mN_nb, mN_nc, mN_ns) (mP_pa, mP_pd, mP_pf, mP_pi, mP_pr, mP_pb, mP_pF, mP_pS, mP_p0, mP_p1, mP_p2, mP_p3, mP_p4, mP_pI) else if v1 < 0 ∨ 80 ≤ v1.toNatClampNeg then none else if (mP_p1 v1.toNatClampNeg) < 0 ∨ 60 ≤ (mP_p1 v1.toNatClampNeg).toNatClampNeg then none else if v1 < 0 ∨ 80 ≤ v1.toNatClampNeg then none else (f8_emit (6 : Int32) (mT_te (mP_p1 v1.toNatClampNeg).toNatClampNeg) (mP_p1 v1.toNatClampNeg) (mQ_qc, mQ_qb, mQ_qp, mQ_qr, mQ_qC) (mK_ks, mK_kk, mK_kv, mK_kt)).bind fun (r_2, (mK_ks_3, mK_kk_4, mK_kv_5, mK_kt_6)) => if v1 < 0 ∨ 80 ≤ v1.toNatClampNeg then none else if (mP_p1 v1.toNatClampNeg) < 0 ∨ 60 ≤ (mP_p1 v1.toNatClampNeg).toNatClampNeg then none else if v1 < 0 ∨ 80 ≤ v1.toNatClampNeg then none else if v1 < 0 ∨ 80 ≤ v1.toNatClampNeg then none else (f8_create (4 : Int32) (mT_te (mP_p1 v1.toNatClampNeg).toNatClampNeg) (mP_p0 v1.toNatClampNeg) mP_pr (mP_p1 v1.toNatClampNeg) (mQ_qc, mQ_qb, mQ_qp, mQ_qr, mQ_qC) (mN_nn, mN_nk, mN_na, mN_nb, mN_nc, mN_ns)).bind fun (r_8, (mN_nn_9, mN_nk_10, mN_na_11, mN_nb_12, mN_nc_13, mN_ns_14)) => (f8_finish r_8 (mP_pa, mP_pd, mP_pf, mP_pi, mP_pr, mP_pb, mP_pF, mP_pS, mP_p0, mP_p1, mP_p2, mP_p3, mP_p4, mP_pI)).bind fun (mP_pa_16, mP_pd_17, mP_pf_18, mP_pi_19, mP_pr_20, mP_pb_21, mP_pF_22, mP_pS_23, mP_p0_24, mP_p1_25, mP_p2_26, mP_p3_27, mP_p4_28, mP_pI_29) => some ((mK_ks_3, mK_kk_4, mK_kv_5, mK_kt_6), (mN_nn_9, mN_nk_10, mN_na_11, mN_nb_12, mN_nc_13, mN_ns_14), (mP_pa_16, mP_pd_17, mP_pf_18, mP_pi_19, mP_pr_20, mP_pb_21, mP_pF_22, mP_pS_23, mP_p0_24, mP_p1_25, mP_p2_26, mP_p3_27, mP_p4_28, mP_pI_29))
set_option maxHeartbeats 4000000 in
set_option maxRecDepth 100000 in
theorem w8_stepAtom_L68 {V : EV} {p : Program} {l : Launch} {e : Env} {R : Room} {s : State} {m : MethodId} {args : Array Value} {below : List Frame} {meth : Method} {c : Code} {Q : State → Prop} {A : Nat → Prop} {kc ks : Nat} {ad : Nat → Nat} {mL : MdL} {mH : MdH} {mR : MdR} {mG : MdG} {mT_ty : Int32} {mT_te : Nat → Int32} {mQ_qc : Int32} {mQ_qb : Int32} {mQ_qp : Int32} {mQ_qr : Int32} {mQ_qC : Int32}  {res : MdK × MdN × MdP} (C : CX V p l R s m args c A kc ks RX8 cX8_stepAtom 3 3 62) (K : RV V p l e R s m args below meth c Q A kc ks 3 cX8_stepAtom (wM V ad (mT_ty, mT_te) (mQ_qc, mQ_qb, mQ_qp, mQ_qr, mQ_qC) res.1 res.2.1 res.2.2 mL mH mR mG))  : ∀ (x1 : Int32) (mK_ks : Int32) (mK_kk : Nat → Int32) (mK_kv : Nat → Int32) (mK_kt : Nat → Int32) (mN_nn : Int32) (mN_nk : Nat → Int32) (mN_na : Nat → Int32) (mN_nb : Nat → Int32) (mN_nc : Nat → Int32) (mN_ns : Nat → Int32) (mP_pa : Int32) (mP_pd : Int32) (mP_pf : Int32) (mP_pi : Int32) (mP_pr : Int32) (mP_pb : Int32) (mP_pF : Nat → Int32) (mP_pS : Nat → Int32) (mP_p0 : Nat → Int32) (mP_p1 : Nat → Int32) (mP_p2 : Nat → Int32) (mP_p3 : Nat → Int32) (mP_p4 : Nat → Int32) (mP_pI : Nat → Int32), f8_stepAtom_L68 mT_ty mT_te mQ_qc mQ_qb mQ_qp mQ_qr mQ_qC x1 (mK_ks, mK_kk, mK_kv, mK_kt) (mN_nn, mN_nk, mN_na, mN_nb, mN_nc, mN_ns) (mP_pa, mP_pd, mP_pf, mP_pi, mP_pr, mP_pb, mP_pF, mP_pS, mP_p0, mP_p1, mP_p2, mP_p3, mP_p4, mP_pI) = some res → WC V p l e R s m args below meth c Q A kc ks 3 (wM V ad (mT_ty, mT_te) (mQ_qc, mQ_qb, mQ_qp, mQ_qr, mQ_qC) (mK_ks, mK_kk, mK_kv, mK_kt) (mN_nn, mN_nk, mN_na, mN_nb, mN_nc, mN_ns) (mP_pa, mP_pd, mP_pf, mP_pi, mP_pr, mP_pb, mP_pF, mP_pS, mP_p0, mP_p1, mP_p2, mP_p3, mP_p4, mP_pI) mL mH mR mG) 68 [(0, .ref (ad 0)), (1, .int x1)] [] := by
  intro x1 mK_ks mK_kk mK_kv mK_kt mN_nn mN_nk mN_na mN_nb mN_nc mN_ns mP_pa mP_pd mP_pf mP_pi mP_pr mP_pb mP_pF mP_pS mP_p0 mP_p1 mP_p2 mP_p3 mP_p4 mP_pI hf
  rw [f8_stepAtom_L68] at hf
  refine k_aload_n C dX8_stepAtom_68 0 rfl ?_
  refine k_aload_n C dX8_stepAtom_69 0 rfl ?_
  refine g8_40 C dX8_stepAtom_70 ?_
  refine k_iload_n C dX8_stepAtom_73 1 rfl ?_
  obtain ⟨hi, hf⟩ := gd_no hf
  refine lm11 C hi dX8_stepAtom_74 ?_
  refine k_iconst (v := (1 : Int32)) C dX8_stepAtom_75 (by decide) ?_
  refine k_icmp_ne C 83 dX8_stepAtom_76 (by decide) (fun hc => ?_) (fun hc => ?_)
  · replace hf := (if_neg hc).symm.trans hf
    refine k_iconst (v := (5 : Int32)) C dX8_stepAtom_83 (by decide) ?_
    obtain ⟨⟨mP_pa_33, mP_pd_34, mP_pf_35, mP_pi_36, mP_pr_37, mP_pb_38, mP_pF_39, mP_pS_40, mP_p0_41, mP_p1_42, mP_p2_43, mP_p3_44, mP_p4_45, mP_pI_46⟩, hq_32, hf⟩ := ob_el hf
    dsimp only at hf
    refine k_callVv C (c8_push C.2.2.2.2.2.2.2.2.2.1 hq_32) cm8_171 ok8_push (by decide) 0 rfl rfl rfl rfl (Nat.le_of_ble_eq_true rfl) dX8_stepAtom_84 ?_
    refine k_goto C 257 dX8_stepAtom_87 (by decide) ?_
    cases hf
    exact K _ _ dX8_stepAtom_257
  · replace hf := (if_pos hc).symm.trans hf
    refine k_iconst (v := (2 : Int32)) C dX8_stepAtom_79 (by decide) ?_
    refine k_goto C 84 dX8_stepAtom_80 (by decide) ?_
    obtain ⟨⟨mP_pa_48, mP_pd_49, mP_pf_50, mP_pi_51, mP_pr_52, mP_pb_53, mP_pF_54, mP_pS_55, mP_p0_56, mP_p1_57, mP_p2_58, mP_p3_59, mP_p4_60, mP_pI_61⟩, hq_47, hf⟩ := ob_el hf
    dsimp only at hf
    refine k_callVv C (c8_push C.2.2.2.2.2.2.2.2.2.1 hq_47) cm8_171 ok8_push (by decide) 0 rfl rfl rfl rfl (Nat.le_of_ble_eq_true rfl) dX8_stepAtom_84 ?_
    refine k_goto C 257 dX8_stepAtom_87 (by decide) ?_
    cases hf
    exact K _ _ dX8_stepAtom_257

set_option maxHeartbeats 4000000 in
set_option maxRecDepth 100000 in
theorem w8_stepAtom_L51 {V : EV} {p : Program} {l : Launch} {e : Env} {R : Room} {s : State} {m : MethodId} {args : Array Value} {below : List Frame} {meth : Method} {c : Code} {Q : State → Prop} {A : Nat → Prop} {kc ks : Nat} {ad : Nat → Nat} {mL : MdL} {mH : MdH} {mR : MdR} {mG : MdG} {mT_ty : Int32} {mT_te : Nat → Int32} {mQ_qc : Int32} {mQ_qb : Int32} {mQ_qp : Int32} {mQ_qr : Int32} {mQ_qC : Int32}  {res : MdK × MdN × MdP} (C : CX V p l R s m args c A kc ks RX8 cX8_stepAtom 3 3 62) (K : RV V p l e R s m args below meth c Q A kc ks 3 cX8_stepAtom (wM V ad (mT_ty, mT_te) (mQ_qc, mQ_qb, mQ_qp, mQ_qr, mQ_qC) res.1 res.2.1 res.2.2 mL mH mR mG))  : ∀ (x1 : Int32) (y0 : Int32) (y1 : Int32) (mK_ks : Int32) (mK_kk : Nat → Int32) (mK_kv : Nat → Int32) (mK_kt : Nat → Int32) (mN_nn : Int32) (mN_nk : Nat → Int32) (mN_na : Nat → Int32) (mN_nb : Nat → Int32) (mN_nc : Nat → Int32) (mN_ns : Nat → Int32) (mP_pa : Int32) (mP_pd : Int32) (mP_pf : Int32) (mP_pi : Int32) (mP_pr : Int32) (mP_pb : Int32) (mP_pF : Nat → Int32) (mP_pS : Nat → Int32) (mP_p0 : Nat → Int32) (mP_p1 : Nat → Int32) (mP_p2 : Nat → Int32) (mP_p3 : Nat → Int32) (mP_p4 : Nat → Int32) (mP_pI : Nat → Int32), f8_stepAtom_L51 mT_ty mT_te mQ_qc mQ_qb mQ_qp mQ_qr mQ_qC x1 y0 y1 (mK_ks, mK_kk, mK_kv, mK_kt) (mN_nn, mN_nk, mN_na, mN_nb, mN_nc, mN_ns) (mP_pa, mP_pd, mP_pf, mP_pi, mP_pr, mP_pb, mP_pF, mP_pS, mP_p0, mP_p1, mP_p2, mP_p3, mP_p4, mP_pI) = some res → WC V p l e R s m args below meth c Q A kc ks 3 (wM V ad (mT_ty, mT_te) (mQ_qc, mQ_qb, mQ_qp, mQ_qr, mQ_qC) (mK_ks, mK_kk, mK_kv, mK_kt) (mN_nn, mN_nk, mN_na, mN_nb, mN_nc, mN_ns) (mP_pa, mP_pd, mP_pf, mP_pi, mP_pr, mP_pb, mP_pF, mP_pS, mP_p0, mP_p1, mP_p2, mP_p3, mP_p4, mP_pI) mL mH mR mG) 51 [(0, .ref (ad 0)), (1, .int x1)] [.int y0, .int y1, .ref (ad 11)] := by
  intro x1 y0 y1 mK_ks mK_kk mK_kv mK_kt mN_nn mN_nk mN_na mN_nb mN_nc mN_ns mP_pa mP_pd mP_pf mP_pi mP_pr mP_pb mP_pF mP_pS mP_p0 mP_p1 mP_p2 mP_p3 mP_p4 mP_pI hf
  rw [f8_stepAtom_L51] at hf
  obtain ⟨hi, hf⟩ := gd_no hf
  refine sm11 C hi dX8_stepAtom_51 ?_
  refine k_aload_n C dX8_stepAtom_52 0 rfl ?_
  refine g8_40 C dX8_stepAtom_53 ?_
  refine k_iload_n C dX8_stepAtom_56 1 rfl ?_
  obtain ⟨hi, hf⟩ := gd_no hf
  refine lm11 C hi dX8_stepAtom_57 ?_
  refine k_iconst (v := (1 : Int32)) C dX8_stepAtom_58 (by decide) ?_
  refine k_icmp_ne C 68 dX8_stepAtom_59 (by decide) (fun hc => ?_) (fun hc => ?_)
  · replace hf := (if_neg hc).symm.trans hf
    exact w8_stepAtom_L68 C K _ _ _ _ _ _ _ _ _ _ _ _ _ _ _ _ _ _ _ _ _ _ _ _ _ hf
  · replace hf := (if_pos hc).symm.trans hf
    refine k_aload_n C dX8_stepAtom_62 0 rfl ?_
    refine k_bipush (v := (91 : Int32)) C dX8_stepAtom_63 (by decide) ?_
    obtain ⟨⟨mP_pa_63, mP_pd_64, mP_pf_65, mP_pi_66, mP_pr_67, mP_pb_68, mP_pF_69, mP_pS_70, mP_p0_71, mP_p1_72, mP_p2_73, mP_p3_74, mP_p4_75, mP_pI_76⟩, hq_62, hf⟩ := ob_el hf
    dsimp only at hf
    refine k_callVv C (c8_open C.2.2.2.2.2.2.2.2.2.1 hq_62) cm8_218 ok8_open (by decide) 0 rfl rfl rfl rfl (Nat.le_of_ble_eq_true rfl) dX8_stepAtom_65 ?_
    exact w8_stepAtom_L68 C K _ _ _ _ _ _ _ _ _ _ _ _ _ _ _ _ _ _ _ _ _ _ _ _ _ hf

set_option maxHeartbeats 4000000 in
set_option maxRecDepth 100000 in
theorem w8_stepAtom_L149 {V : EV} {p : Program} {l : Launch} {e : Env} {R : Room} {s : State} {m : MethodId} {args : Array Value} {below : List Frame} {meth : Method} {c : Code} {Q : State → Prop} {A : Nat → Prop} {kc ks : Nat} {ad : Nat → Nat} {mL : MdL} {mH : MdH} {mR : MdR} {mG : MdG} {mT_ty : Int32} {mT_te : Nat → Int32} {mQ_qc : Int32} {mQ_qb : Int32} {mQ_qp : Int32} {mQ_qr : Int32} {mQ_qC : Int32}  {res : MdK × MdN × MdP} (C : CX V p l R s m args c A kc ks RX8 cX8_stepAtom 3 3 62) (K : RV V p l e R s m args below meth c Q A kc ks 3 cX8_stepAtom (wM V ad (mT_ty, mT_te) (mQ_qc, mQ_qb, mQ_qp, mQ_qr, mQ_qC) res.1 res.2.1 res.2.2 mL mH mR mG))  : ∀ (x1 : Int32) (y0 : Int32) (mK_ks : Int32) (mK_kk : Nat → Int32) (mK_kv : Nat → Int32) (mK_kt : Nat → Int32) (mN_nn : Int32) (mN_nk : Nat → Int32) (mN_na : Nat → Int32) (mN_nb : Nat → Int32) (mN_nc : Nat → Int32) (mN_ns : Nat → Int32) (mP_pa : Int32) (mP_pd : Int32) (mP_pf : Int32) (mP_pi : Int32) (mP_pr : Int32) (mP_pb : Int32) (mP_pF : Nat → Int32) (mP_pS : Nat → Int32) (mP_p0 : Nat → Int32) (mP_p1 : Nat → Int32) (mP_p2 : Nat → Int32) (mP_p3 : Nat → Int32) (mP_p4 : Nat → Int32) (mP_pI : Nat → Int32), f8_stepAtom_L149 mT_ty mT_te mQ_qc mQ_qb mQ_qp mQ_qr mQ_qC x1 y0 (mK_ks, mK_kk, mK_kv, mK_kt) (mN_nn, mN_nk, mN_na, mN_nb, mN_nc, mN_ns) (mP_pa, mP_pd, mP_pf, mP_pi, mP_pr, mP_pb, mP_pF, mP_pS, mP_p0, mP_p1, mP_p2, mP_p3, mP_p4, mP_pI) = some res → WC V p l e R s m args below meth c Q A kc ks 3 (wM V ad (mT_ty, mT_te) (mQ_qc, mQ_qb, mQ_qp, mQ_qr, mQ_qC) (mK_ks, mK_kk, mK_kv, mK_kt) (mN_nn, mN_nk, mN_na, mN_nb, mN_nc, mN_ns) (mP_pa, mP_pd, mP_pf, mP_pi, mP_pr, mP_pb, mP_pF, mP_pS, mP_p0, mP_p1, mP_p2, mP_p3, mP_p4, mP_pI) mL mH mR mG) 149 [(0, .ref (ad 0)), (1, .int x1)] [.int y0, .ref (ad 0)] := by
  intro x1 y0 mK_ks mK_kk mK_kv mK_kt mN_nn mN_nk mN_na mN_nb mN_nc mN_ns mP_pa mP_pd mP_pf mP_pi mP_pr mP_pb mP_pF mP_pS mP_p0 mP_p1 mP_p2 mP_p3 mP_p4 mP_pI hf
  rw [f8_stepAtom_L149] at hf
  obtain ⟨hb, hf⟩ := gd_ok hf
  refine p8_135 C hb dX8_stepAtom_149 ?_
  refine k_aload_n C dX8_stepAtom_152 0 rfl ?_
  refine g8_43 C dX8_stepAtom_153 ?_
  refine k_iload_n C dX8_stepAtom_156 1 rfl ?_
  refine k_aload_n C dX8_stepAtom_157 0 rfl ?_
  refine g8_162 C dX8_stepAtom_158 ?_
  obtain ⟨hi, hf⟩ := gd_no hf
  refine sm12 C hi dX8_stepAtom_161 ?_
  refine k_aload_n C dX8_stepAtom_162 0 rfl ?_
  refine g8_46 C dX8_stepAtom_163 ?_
  refine k_iload_n C dX8_stepAtom_166 1 rfl ?_
  refine k_aload_n C dX8_stepAtom_167 0 rfl ?_
  refine g8_132 C dX8_stepAtom_168 ?_
  obtain ⟨hi, hf⟩ := gd_no hf
  refine sm13 C hi dX8_stepAtom_171 ?_
  refine k_aload_n C dX8_stepAtom_172 0 rfl ?_
  refine k_dup C dX8_stepAtom_173 rfl ?_
  refine g8_132 C dX8_stepAtom_174 ?_
  refine k_iconst (v := (1 : Int32)) C dX8_stepAtom_177 (by decide) ?_
  refine k_iadd C dX8_stepAtom_178 ?_
  refine p8_132 C dX8_stepAtom_179 ?_
  refine k_aload_n C dX8_stepAtom_182 0 rfl ?_
  refine g8_40 C dX8_stepAtom_183 ?_
  refine k_iload_n C dX8_stepAtom_186 1 rfl ?_
  refine k_iconst (v := (3 : Int32)) C dX8_stepAtom_187 (by decide) ?_
  obtain ⟨hi, hf⟩ := gd_no hf
  refine sm11 C hi dX8_stepAtom_188 ?_
  refine k_aload_n C dX8_stepAtom_189 0 rfl ?_
  refine k_iconst (v := (5 : Int32)) C dX8_stepAtom_190 (by decide) ?_
  obtain ⟨⟨mP_pa_110, mP_pd_111, mP_pf_112, mP_pi_113, mP_pr_114, mP_pb_115, mP_pF_116, mP_pS_117, mP_p0_118, mP_p1_119, mP_p2_120, mP_p3_121, mP_p4_122, mP_pI_123⟩, hq_109, hf⟩ := ob_el hf
  dsimp only at hf
  refine k_callVv C (c8_push C.2.2.2.2.2.2.2.2.2.1 hq_109) cm8_171 ok8_push (by decide) 0 rfl rfl rfl rfl (Nat.le_of_ble_eq_true rfl) dX8_stepAtom_191 ?_
  refine k_goto C 257 dX8_stepAtom_194 (by decide) ?_
  cases hf
  exact K _ _ dX8_stepAtom_257

set_option maxHeartbeats 4000000 in
set_option maxRecDepth 100000 in
theorem w8_stepAtom_L144 {V : EV} {p : Program} {l : Launch} {e : Env} {R : Room} {s : State} {m : MethodId} {args : Array Value} {below : List Frame} {meth : Method} {c : Code} {Q : State → Prop} {A : Nat → Prop} {kc ks : Nat} {ad : Nat → Nat} {mL : MdL} {mH : MdH} {mR : MdR} {mG : MdG} {mT_ty : Int32} {mT_te : Nat → Int32} {mQ_qc : Int32} {mQ_qb : Int32} {mQ_qp : Int32} {mQ_qr : Int32} {mQ_qC : Int32}  {res : MdK × MdN × MdP} (C : CX V p l R s m args c A kc ks RX8 cX8_stepAtom 3 3 62) (K : RV V p l e R s m args below meth c Q A kc ks 3 cX8_stepAtom (wM V ad (mT_ty, mT_te) (mQ_qc, mQ_qb, mQ_qp, mQ_qr, mQ_qC) res.1 res.2.1 res.2.2 mL mH mR mG))  : ∀ (x1 : Int32) (mK_ks : Int32) (mK_kk : Nat → Int32) (mK_kv : Nat → Int32) (mK_kt : Nat → Int32) (mN_nn : Int32) (mN_nk : Nat → Int32) (mN_na : Nat → Int32) (mN_nb : Nat → Int32) (mN_nc : Nat → Int32) (mN_ns : Nat → Int32) (mP_pa : Int32) (mP_pd : Int32) (mP_pf : Int32) (mP_pi : Int32) (mP_pr : Int32) (mP_pb : Int32) (mP_pF : Nat → Int32) (mP_pS : Nat → Int32) (mP_p0 : Nat → Int32) (mP_p1 : Nat → Int32) (mP_p2 : Nat → Int32) (mP_p3 : Nat → Int32) (mP_p4 : Nat → Int32) (mP_pI : Nat → Int32), f8_stepAtom_L144 mT_ty mT_te mQ_qc mQ_qb mQ_qp mQ_qr mQ_qC x1 (mK_ks, mK_kk, mK_kv, mK_kt) (mN_nn, mN_nk, mN_na, mN_nb, mN_nc, mN_ns) (mP_pa, mP_pd, mP_pf, mP_pi, mP_pr, mP_pb, mP_pF, mP_pS, mP_p0, mP_p1, mP_p2, mP_p3, mP_p4, mP_pI) = some res → WC V p l e R s m args below meth c Q A kc ks 3 (wM V ad (mT_ty, mT_te) (mQ_qc, mQ_qb, mQ_qp, mQ_qr, mQ_qC) (mK_ks, mK_kk, mK_kv, mK_kt) (mN_nn, mN_nk, mN_na, mN_nb, mN_nc, mN_ns) (mP_pa, mP_pd, mP_pf, mP_pi, mP_pr, mP_pb, mP_pF, mP_pS, mP_p0, mP_p1, mP_p2, mP_p3, mP_p4, mP_pI) mL mH mR mG) 144 [(0, .ref (ad 0)), (1, .int x1)] [.ref (ad 0)] := by
  intro x1 mK_ks mK_kk mK_kv mK_kt mN_nn mN_nk mN_na mN_nb mN_nc mN_ns mP_pa mP_pd mP_pf mP_pi mP_pr mP_pb mP_pF mP_pS mP_p0 mP_p1 mP_p2 mP_p3 mP_p4 mP_pI hf
  rw [f8_stepAtom_L144] at hf
  refine k_iconst (v := (1 : Int32)) C dX8_stepAtom_144 (by decide) ?_
  refine k_goto C 149 dX8_stepAtom_145 (by decide) ?_
  exact w8_stepAtom_L149 C K _ _ _ _ _ _ _ _ _ _ _ _ _ _ _ _ _ _ _ _ _ _ _ _ _ _ hf

set_option maxHeartbeats 4000000 in
set_option maxRecDepth 100000 in
theorem w8_stepAtom_L148 {V : EV} {p : Program} {l : Launch} {e : Env} {R : Room} {s : State} {m : MethodId} {args : Array Value} {below : List Frame} {meth : Method} {c : Code} {Q : State → Prop} {A : Nat → Prop} {kc ks : Nat} {ad : Nat → Nat} {mL : MdL} {mH : MdH} {mR : MdR} {mG : MdG} {mT_ty : Int32} {mT_te : Nat → Int32} {mQ_qc : Int32} {mQ_qb : Int32} {mQ_qp : Int32} {mQ_qr : Int32} {mQ_qC : Int32}  {res : MdK × MdN × MdP} (C : CX V p l R s m args c A kc ks RX8 cX8_stepAtom 3 3 62) (K : RV V p l e R s m args below meth c Q A kc ks 3 cX8_stepAtom (wM V ad (mT_ty, mT_te) (mQ_qc, mQ_qb, mQ_qp, mQ_qr, mQ_qC) res.1 res.2.1 res.2.2 mL mH mR mG))  : ∀ (x1 : Int32) (mK_ks : Int32) (mK_kk : Nat → Int32) (mK_kv : Nat → Int32) (mK_kt : Nat → Int32) (mN_nn : Int32) (mN_nk : Nat → Int32) (mN_na : Nat → Int32) (mN_nb : Nat → Int32) (mN_nc : Nat → Int32) (mN_ns : Nat → Int32) (mP_pa : Int32) (mP_pd : Int32) (mP_pf : Int32) (mP_pi : Int32) (mP_pr : Int32) (mP_pb : Int32) (mP_pF : Nat → Int32) (mP_pS : Nat → Int32) (mP_p0 : Nat → Int32) (mP_p1 : Nat → Int32) (mP_p2 : Nat → Int32) (mP_p3 : Nat → Int32) (mP_p4 : Nat → Int32) (mP_pI : Nat → Int32), f8_stepAtom_L148 mT_ty mT_te mQ_qc mQ_qb mQ_qp mQ_qr mQ_qC x1 (mK_ks, mK_kk, mK_kv, mK_kt) (mN_nn, mN_nk, mN_na, mN_nb, mN_nc, mN_ns) (mP_pa, mP_pd, mP_pf, mP_pi, mP_pr, mP_pb, mP_pF, mP_pS, mP_p0, mP_p1, mP_p2, mP_p3, mP_p4, mP_pI) = some res → WC V p l e R s m args below meth c Q A kc ks 3 (wM V ad (mT_ty, mT_te) (mQ_qc, mQ_qb, mQ_qp, mQ_qr, mQ_qC) (mK_ks, mK_kk, mK_kv, mK_kt) (mN_nn, mN_nk, mN_na, mN_nb, mN_nc, mN_ns) (mP_pa, mP_pd, mP_pf, mP_pi, mP_pr, mP_pb, mP_pF, mP_pS, mP_p0, mP_p1, mP_p2, mP_p3, mP_p4, mP_pI) mL mH mR mG) 148 [(0, .ref (ad 0)), (1, .int x1)] [.ref (ad 0)] := by
  intro x1 mK_ks mK_kk mK_kv mK_kt mN_nn mN_nk mN_na mN_nb mN_nc mN_ns mP_pa mP_pd mP_pf mP_pi mP_pr mP_pb mP_pF mP_pS mP_p0 mP_p1 mP_p2 mP_p3 mP_p4 mP_pI hf
  rw [f8_stepAtom_L148] at hf
  refine k_iconst (v := (0 : Int32)) C dX8_stepAtom_148 (by decide) ?_
  exact w8_stepAtom_L149 C K _ _ _ _ _ _ _ _ _ _ _ _ _ _ _ _ _ _ _ _ _ _ _ _ _ _ hf
set_option maxHeartbeats 4000000 in
set_option maxRecDepth 100000 in
theorem b8_stepAtom {V : EV} {p : Program} {l : Launch} {e : Env} {R : Room} {s : State} {m : MethodId} {args : Array Value} {below : List Frame} {meth : Method} {c : Code} {Q : State → Prop} {A : Nat → Prop} {kc ks : Nat} {ad : Nat → Nat} {mL : MdL} {mH : MdH} {mR : MdR} {mG : MdG} {mT_ty : Int32} {mT_te : Nat → Int32} {mQ_qc : Int32} {mQ_qb : Int32} {mQ_qp : Int32} {mQ_qr : Int32} {mQ_qC : Int32} {v1 : Int32} {mK_ks : Int32} {mK_kk : Nat → Int32} {mK_kv : Nat → Int32} {mK_kt : Nat → Int32} {mN_nn : Int32} {mN_nk : Nat → Int32} {mN_na : Nat → Int32} {mN_nb : Nat → Int32} {mN_nc : Nat → Int32} {mN_ns : Nat → Int32} {mP_pa : Int32} {mP_pd : Int32} {mP_pf : Int32} {mP_pi : Int32} {mP_pr : Int32} {mP_pb : Int32} {mP_pF : Nat → Int32} {mP_pS : Nat → Int32} {mP_p0 : Nat → Int32} {mP_p1 : Nat → Int32} {mP_p2 : Nat → Int32} {mP_p3 : Nat → Int32} {mP_p4 : Nat → Int32} {mP_pI : Nat → Int32} {res : MdK × MdN × MdP} (C : CX V p l R s m args c A kc ks RX8 cX8_stepAtom 3 3 62) (hf : f8_stepAtom v1 (mT_ty, mT_te) (mQ_qc, mQ_qb, mQ_qp, mQ_qr, mQ_qC) (mK_ks, mK_kk, mK_kv, mK_kt) (mN_nn, mN_nk, mN_na, mN_nb, mN_nc, mN_ns) (mP_pa, mP_pd, mP_pf, mP_pi, mP_pr, mP_pb, mP_pF, mP_pS, mP_p0, mP_p1, mP_p2, mP_p3, mP_p4, mP_pI) = some res) (K : RV V p l e R s m args below meth c Q A kc ks 3 cX8_stepAtom (wM V ad (mT_ty, mT_te) (mQ_qc, mQ_qb, mQ_qp, mQ_qr, mQ_qC) res.1 res.2.1 res.2.2 mL mH mR mG)) : WC V p l e R s m args below meth c Q A kc ks 3 (wM V ad (mT_ty, mT_te) (mQ_qc, mQ_qb, mQ_qp, mQ_qr, mQ_qC) (mK_ks, mK_kk, mK_kv, mK_kt) (mN_nn, mN_nk, mN_na, mN_nb, mN_nc, mN_ns) (mP_pa, mP_pd, mP_pf, mP_pi, mP_pr, mP_pb, mP_pF, mP_pS, mP_p0, mP_p1, mP_p2, mP_p3, mP_p4, mP_pI) mL mH mR mG) 0 [(0, .ref (ad 0)), (1, .int v1)] [] := by
  rw [f8_stepAtom] at hf
  refine k_aload_n C dX8_stepAtom_0 0 rfl ?_
  refine g8_40 C dX8_stepAtom_1 ?_
  refine k_iload_n C dX8_stepAtom_4 1 rfl ?_
  obtain ⟨hi, hf⟩ := gd_no hf
  refine lm11 C hi dX8_stepAtom_5 ?_
  have hx0 : ∀ n : Int32, (mP_pS v1.toNatClampNeg) = n → (mP_pS v1.toNatClampNeg).toInt = n.toInt := fun n h => by rw [h]
  by_cases hc : (mP_pS v1.toNatClampNeg) = (0 : Int32)
  · replace hf := (if_pos hc).symm.trans hf
    refine k_tableIn C 32 dX8_stepAtom_6 (by rw [hx0 _ hc]; decide) (by rw [hx0 _ hc]; decide) (by rw [hx0 _ hc]; rfl) (by decide) ?_
    refine k_aload_n C dX8_stepAtom_32 0 rfl ?_
    refine g8_40 C dX8_stepAtom_33 ?_
    refine k_iload_n C dX8_stepAtom_36 1 rfl ?_
    refine k_aload_n C dX8_stepAtom_37 0 rfl ?_
    obtain ⟨r_31, hq_30, hf⟩ := ob_el hf
    refine k_callVi C (c8_peek C.2.2.2.2.2.2.2.2.2.1 hq_30) cm8_139 ok8_peek (by decide) 0 rfl rfl rfl rfl (Nat.le_of_ble_eq_true rfl) dX8_stepAtom_38 ?_
    refine k_bipush (v := (91 : Int32)) C dX8_stepAtom_41 (by decide) ?_
    refine k_icmp_ne C 50 dX8_stepAtom_43 (by decide) (fun hc => ?_) (fun hc => ?_)
    · replace hf := (if_neg hc).symm.trans hf
      refine k_iconst (v := (2 : Int32)) C dX8_stepAtom_50 (by decide) ?_
      exact w8_stepAtom_L51 C K _ _ _ _ _ _ _ _ _ _ _ _ _ _ _ _ _ _ _ _ _ _ _ _ _ _ _ hf
    · replace hf := (if_pos hc).symm.trans hf
      refine k_iconst (v := (1 : Int32)) C dX8_stepAtom_46 (by decide) ?_
      refine k_goto C 51 dX8_stepAtom_47 (by decide) ?_
      exact w8_stepAtom_L51 C K _ _ _ _ _ _ _ _ _ _ _ _ _ _ _ _ _ _ _ _ _ _ _ _ _ _ _ hf
  replace hf := (if_neg hc).symm.trans hf
  have hn0 := sw_ne hc
  by_cases hc : (mP_pS v1.toNatClampNeg) = (1 : Int32)
  · replace hf := (if_pos hc).symm.trans hf
    refine k_tableIn C 90 dX8_stepAtom_6 (by rw [hx0 _ hc]; decide) (by rw [hx0 _ hc]; decide) (by rw [hx0 _ hc]; rfl) (by decide) ?_
    refine k_aload_n C dX8_stepAtom_90 0 rfl ?_
    refine k_bipush (v := (93 : Int32)) C dX8_stepAtom_91 (by decide) ?_
    obtain ⟨⟨mP_pa_78, mP_pd_79, mP_pf_80, mP_pi_81, mP_pr_82, mP_pb_83, mP_pF_84, mP_pS_85, mP_p0_86, mP_p1_87, mP_p2_88, mP_p3_89, mP_p4_90, mP_pI_91⟩, hq_77, hf⟩ := ob_el hf
    dsimp only at hf
    refine k_callVv C (c8_close C.2.2.2.2.2.2.2.2.2.1 hq_77) cm8_224 ok8_close (by decide) 0 rfl rfl rfl rfl (Nat.le_of_ble_eq_true rfl) dX8_stepAtom_93 ?_
    refine k_aload_n C dX8_stepAtom_96 0 rfl ?_
    refine k_aload_n C dX8_stepAtom_97 0 rfl ?_
    refine g8_162 C dX8_stepAtom_98 ?_
    obtain ⟨⟨mP_pa_93, mP_pd_94, mP_pf_95, mP_pi_96, mP_pr_97, mP_pb_98, mP_pF_99, mP_pS_100, mP_p0_101, mP_p1_102, mP_p2_103, mP_p3_104, mP_p4_105, mP_pI_106⟩, hq_92, hf⟩ := ob_el hf
    dsimp only at hf
    refine k_callVv C (c8_finish C.2.2.2.2.2.2.2.2.2.1 hq_92) cm8_209 ok8_finish (by decide) 0 rfl rfl rfl rfl (Nat.le_of_ble_eq_true rfl) dX8_stepAtom_101 ?_
    refine k_goto C 257 dX8_stepAtom_104 (by decide) ?_
    cases hf
    exact K _ _ dX8_stepAtom_257
  replace hf := (if_neg hc).symm.trans hf
  have hn1 := sw_ne hc
  by_cases hc : (mP_pS v1.toNatClampNeg) = (2 : Int32)
  · replace hf := (if_pos hc).symm.trans hf
    refine k_tableIn C 107 dX8_stepAtom_6 (by rw [hx0 _ hc]; decide) (by rw [hx0 _ hc]; decide) (by rw [hx0 _ hc]; rfl) (by decide) ?_
    refine k_aload_n C dX8_stepAtom_107 0 rfl ?_
    obtain ⟨r_108, hq_107, hf⟩ := ob_el hf
    refine k_callVi C (c8_peek C.2.2.2.2.2.2.2.2.2.1 hq_107) cm8_139 ok8_peek (by decide) 0 rfl rfl rfl rfl (Nat.le_of_ble_eq_true rfl) dX8_stepAtom_108 ?_
    refine k_istore_n C dX8_stepAtom_111 [(2, .int r_108), (0, .ref (ad 0)), (1, .int v1)] (by decide) rfl ?_
    refine k_aload_n C dX8_stepAtom_112 1 rfl ?_
    refine k_aload_n C dX8_stepAtom_113 1 rfl ?_
    refine g8_135 C dX8_stepAtom_114 ?_
    refine k_if_ne C 144 dX8_stepAtom_117 (by decide) (fun hc => ?_) (fun hc => ?_)
    · replace hf := (if_neg hc).symm.trans hf
      refine k_sub [1, 2] (L' := [(0, .ref (ad 0)), (1, .int v1)]) rfl ?_
      exact w8_stepAtom_L144 C K _ _ _ _ _ _ _ _ _ _ _ _ _ _ _ _ _ _ _ _ _ _ _ _ _ hf
    · replace hf := (if_pos hc).symm.trans hf
      refine k_iload_n C dX8_stepAtom_120 0 rfl ?_
      refine k_bipush (v := (60 : Int32)) C dX8_stepAtom_121 (by decide) ?_
      refine k_icmp_eq C 148 dX8_stepAtom_123 (by decide) (fun hc => ?_) (fun hc => ?_)
      · replace hf := (if_pos hc).symm.trans hf
        refine k_sub [1, 2] (L' := [(0, .ref (ad 0)), (1, .int v1)]) rfl ?_
        exact w8_stepAtom_L148 C K _ _ _ _ _ _ _ _ _ _ _ _ _ _ _ _ _ _ _ _ _ _ _ _ _ hf
      · replace hf := (if_neg hc).symm.trans hf
        refine k_iload_n C dX8_stepAtom_126 0 rfl ?_
        refine k_bipush (v := (62 : Int32)) C dX8_stepAtom_127 (by decide) ?_
        refine k_icmp_eq C 148 dX8_stepAtom_129 (by decide) (fun hc => ?_) (fun hc => ?_)
        · replace hf := (if_pos hc).symm.trans hf
          refine k_sub [1, 2] (L' := [(0, .ref (ad 0)), (1, .int v1)]) rfl ?_
          exact w8_stepAtom_L148 C K _ _ _ _ _ _ _ _ _ _ _ _ _ _ _ _ _ _ _ _ _ _ _ _ _ hf
        · replace hf := (if_neg hc).symm.trans hf
          refine k_iload_n C dX8_stepAtom_132 0 rfl ?_
          refine k_bipush (v := (61 : Int32)) C dX8_stepAtom_133 (by decide) ?_
          refine k_icmp_eq C 148 dX8_stepAtom_135 (by decide) (fun hc => ?_) (fun hc => ?_)
          · replace hf := (if_pos hc).symm.trans hf
            refine k_sub [1, 2] (L' := [(0, .ref (ad 0)), (1, .int v1)]) rfl ?_
            exact w8_stepAtom_L148 C K _ _ _ _ _ _ _ _ _ _ _ _ _ _ _ _ _ _ _ _ _ _ _ _ _ hf
          · replace hf := (if_neg hc).symm.trans hf
            refine k_iload_n C dX8_stepAtom_138 0 rfl ?_
            refine k_bipush (v := (35 : Int32)) C dX8_stepAtom_139 (by decide) ?_
            refine k_icmp_eq C 148 dX8_stepAtom_141 (by decide) (fun hc => ?_) (fun hc => ?_)
            · replace hf := (if_pos hc).symm.trans hf
              refine k_sub [1, 2] (L' := [(0, .ref (ad 0)), (1, .int v1)]) rfl ?_
              exact w8_stepAtom_L148 C K _ _ _ _ _ _ _ _ _ _ _ _ _ _ _ _ _ _ _ _ _ _ _ _ _ hf
            · replace hf := (if_neg hc).symm.trans hf
              refine k_sub [1, 2] (L' := [(0, .ref (ad 0)), (1, .int v1)]) rfl ?_
              exact w8_stepAtom_L144 C K _ _ _ _ _ _ _ _ _ _ _ _ _ _ _ _ _ _ _ _ _ _ _ _ _ hf
  replace hf := (if_neg hc).symm.trans hf
  have hn2 := sw_ne hc
  have kd_124 : WC V p l e R s m args below meth c Q A kc ks 3 (wM V ad (mT_ty, mT_te) (mQ_qc, mQ_qb, mQ_qp, mQ_qr, mQ_qC) (mK_ks, mK_kk, mK_kv, mK_kt) (mN_nn, mN_nk, mN_na, mN_nb, mN_nc, mN_ns) (mP_pa, mP_pd, mP_pf, mP_pi, mP_pr, mP_pb, mP_pF, mP_pS, mP_p0, mP_p1, mP_p2, mP_p3, mP_p4, mP_pI) mL mH mR mG) 197 [(0, .ref (ad 0)), (1, .int v1)] [] := by
    refine k_aload_n C dX8_stepAtom_197 0 rfl ?_
    refine k_bipush (v := (6 : Int32)) C dX8_stepAtom_198 (by decide) ?_
    refine k_aload_n C dX8_stepAtom_200 0 rfl ?_
    refine g8_7 C dX8_stepAtom_201 ?_
    refine k_aload_n C dX8_stepAtom_204 0 rfl ?_
    refine g8_46 C dX8_stepAtom_205 ?_
    refine k_iload_n C dX8_stepAtom_208 1 rfl ?_
    obtain ⟨hi, hf⟩ := gd_no hf
    refine lm13 C hi dX8_stepAtom_209 ?_
    obtain ⟨hi, hf⟩ := gd_no hf
    refine lm1 C hi dX8_stepAtom_210 ?_
    refine k_aload_n C dX8_stepAtom_211 0 rfl ?_
    refine g8_46 C dX8_stepAtom_212 ?_
    refine k_iload_n C dX8_stepAtom_215 1 rfl ?_
    obtain ⟨hi, hf⟩ := gd_no hf
    refine lm13 C hi dX8_stepAtom_216 ?_
    obtain ⟨⟨r_2, ⟨mK_ks_3, mK_kk_4, mK_kv_5, mK_kt_6⟩⟩, hq_1, hf⟩ := ob_el hf
    dsimp only at hf
    refine k_callVi C (c8_emit C.2.2.2.2.2.2.2.2.2.1 hq_1) cm8_178 ok8_emit (by decide) 0 rfl rfl rfl rfl (Nat.le_of_ble_eq_true rfl) dX8_stepAtom_217 ?_
    refine k_pop C dX8_stepAtom_220 rfl ?_
    refine k_aload_n C dX8_stepAtom_221 0 rfl ?_
    refine k_aload_n C dX8_stepAtom_222 0 rfl ?_
    refine k_iconst (v := (4 : Int32)) C dX8_stepAtom_223 (by decide) ?_
    refine k_aload_n C dX8_stepAtom_224 0 rfl ?_
    refine g8_7 C dX8_stepAtom_225 ?_
    refine k_aload_n C dX8_stepAtom_228 0 rfl ?_
    refine g8_46 C dX8_stepAtom_229 ?_
    refine k_iload_n C dX8_stepAtom_232 1 rfl ?_
    obtain ⟨hi, hf⟩ := gd_no hf
    refine lm13 C hi dX8_stepAtom_233 ?_
    obtain ⟨hi, hf⟩ := gd_no hf
    refine lm1 C hi dX8_stepAtom_234 ?_
    refine k_aload_n C dX8_stepAtom_235 0 rfl ?_
    refine g8_43 C dX8_stepAtom_236 ?_
    refine k_iload_n C dX8_stepAtom_239 1 rfl ?_
    obtain ⟨hi, hf⟩ := gd_no hf
    refine lm12 C hi dX8_stepAtom_240 ?_
    refine k_aload_n C dX8_stepAtom_241 0 rfl ?_
    refine g8_162 C dX8_stepAtom_242 ?_
    refine k_aload_n C dX8_stepAtom_245 0 rfl ?_
    refine g8_46 C dX8_stepAtom_246 ?_
    refine k_iload_n C dX8_stepAtom_249 1 rfl ?_
    obtain ⟨hi, hf⟩ := gd_no hf
    refine lm13 C hi dX8_stepAtom_250 ?_
    obtain ⟨⟨r_8, ⟨mN_nn_9, mN_nk_10, mN_na_11, mN_nb_12, mN_nc_13, mN_ns_14⟩⟩, hq_7, hf⟩ := ob_el hf
    dsimp only at hf
    refine k_callVi C (c8_create C.2.2.2.2.2.2.2.2.2.1 hq_7) cm8_205 ok8_create (by decide) 0 rfl rfl rfl rfl (Nat.le_of_ble_eq_true rfl) dX8_stepAtom_251 ?_
    obtain ⟨⟨mP_pa_16, mP_pd_17, mP_pf_18, mP_pi_19, mP_pr_20, mP_pb_21, mP_pF_22, mP_pS_23, mP_p0_24, mP_p1_25, mP_p2_26, mP_p3_27, mP_p4_28, mP_pI_29⟩, hq_15, hf⟩ := ob_el hf
    dsimp only at hf
    refine k_callVv C (c8_finish C.2.2.2.2.2.2.2.2.2.1 hq_15) cm8_209 ok8_finish (by decide) 0 rfl rfl rfl rfl (Nat.le_of_ble_eq_true rfl) dX8_stepAtom_254 ?_
    cases hf
    exact K _ _ dX8_stepAtom_257
  have hr : (mP_pS v1.toNatClampNeg).toInt < 0 ∨ 2 < (mP_pS v1.toNatClampNeg).toInt := by
    have q0 : ¬ (mP_pS v1.toNatClampNeg).toInt = 0 := hn0 0 (by decide)
    have q1 : ¬ (mP_pS v1.toNatClampNeg).toInt = 1 := hn1 1 (by decide)
    have q2 : ¬ (mP_pS v1.toNatClampNeg).toInt = 2 := hn2 2 (by decide)
    omega
  rcases hr with hr | hr
  · exact k_tableOut C 197 dX8_stepAtom_6 (Or.inl hr) (by decide) kd_124
  · exact k_tableOut C 197 dX8_stepAtom_6 (Or.inr hr) (by decide) kd_124
theorem c8_stepAtom {V : EV} {l : Launch} (hl0 : l.stackTraces = false) {ad : Nat → Nat} {mL : MdL} {mH : MdH} {mR : MdR} {mG : MdG} {mT_ty : Int32} {mT_te : Nat → Int32} {mQ_qc : Int32} {mQ_qb : Int32} {mQ_qp : Int32} {mQ_qr : Int32} {mQ_qC : Int32} {v1 : Int32} {mK_ks : Int32} {mK_kk : Nat → Int32} {mK_kv : Nat → Int32} {mK_kt : Nat → Int32} {mN_nn : Int32} {mN_nk : Nat → Int32} {mN_na : Nat → Int32} {mN_nb : Nat → Int32} {mN_nc : Nat → Int32} {mN_ns : Nat → Int32} {mP_pa : Int32} {mP_pd : Int32} {mP_pf : Int32} {mP_pi : Int32} {mP_pr : Int32} {mP_pb : Int32} {mP_pF : Nat → Int32} {mP_pS : Nat → Int32} {mP_p0 : Nat → Int32} {mP_p1 : Nat → Int32} {mP_p2 : Nat → Int32} {mP_p3 : Nat → Int32} {mP_p4 : Nat → Int32} {mP_pI : Nat → Int32} {res : MdK × MdN × MdP} (hf : f8_stepAtom v1 (mT_ty, mT_te) (mQ_qc, mQ_qb, mQ_qp, mQ_qr, mQ_qC) (mK_ks, mK_kk, mK_kv, mK_kt) (mN_nn, mN_nk, mN_na, mN_nb, mN_nc, mN_ns) (mP_pa, mP_pd, mP_pf, mP_pi, mP_pr, mP_pb, mP_pF, mP_pS, mP_p0, mP_p1, mP_p2, mP_p3, mP_p4, mP_pI) = some res) : MV V l yX8_stepAtom cX8_stepAtom 3 3 62 [.ref (ad 0), .int v1] (wM V ad (mT_ty, mT_te) (mQ_qc, mQ_qb, mQ_qp, mQ_qr, mQ_qC) (mK_ks, mK_kk, mK_kv, mK_kt) (mN_nn, mN_nk, mN_na, mN_nb, mN_nc, mN_ns) (mP_pa, mP_pd, mP_pf, mP_pi, mP_pr, mP_pb, mP_pF, mP_pS, mP_p0, mP_p1, mP_p2, mP_p3, mP_p4, mP_pI) mL mH mR mG) (wM V ad (mT_ty, mT_te) (mQ_qc, mQ_qb, mQ_qp, mQ_qr, mQ_qC) res.1 res.2.1 res.2.2 mL mH mR mG) :=
  mv_of hl0 (by decide +kernel) (Nat.le_of_ble_eq_true rfl) (fun p e R s m args below meth c Q A C K => b8_stepAtom C hf K)

theorem ok8_stepSum : okCV RX8 yX8_stepSum 2 := by unfold okCV; decide +kernel
def f8_stepSum_L160   (mT_ty : Int32) (mT_te : Nat → Int32) (mQ_qc : Int32) (mQ_qb : Int32) (mQ_qp : Int32) (mQ_qr : Int32) (mQ_qC : Int32) : Int32 → Int32 → Int32 → MdK → MdN → MdP → Option (MdK × MdN × MdP)
  | x1, x2, y0, (mK_ks, mK_kk, mK_kv, mK_kt), (mN_nn, mN_nk, mN_na, mN_nb, mN_nc, mN_ns), (mP_pa, mP_pd, mP_pf, mP_pi, mP_pr, mP_pb, mP_pF, mP_pS, mP_p0, mP_p1, mP_p2, mP_p3, mP_p4, mP_pI) =>
    if y0 = 0 then if x1 < 0 ∨ 80 ≤ x1.toNatClampNeg then none else (f8_finish (mP_p0 x1.toNatClampNeg) (mP_pa, mP_pd, mP_pf, mP_pi, mP_pr, mP_pb, mP_pF, mP_pS, mP_p0, mP_p1, mP_p2, mP_p3, mP_p4, mP_pI)).bind fun (mP_pa_19, mP_pd_20, mP_pf_21, mP_pi_22, mP_pr_23, mP_pb_24, mP_pF_25, mP_pS_26, mP_p0_27, mP_p1_28, mP_p2_29, mP_p3_30, mP_p4_31, mP_pI_32) => some ((mK_ks, mK_kk, mK_kv, mK_kt), (mN_nn, mN_nk, mN_na, mN_nb, mN_nc, mN_ns), (mP_pa_19, mP_pd_20, mP_pf_21, mP_pi_22, mP_pr_23, mP_pb_24, mP_pF_25, mP_pS_26, mP_p0_27, mP_p1_28, mP_p2_29, mP_p3_30, mP_p4_31, mP_pI_32)) else if x1 < 0 ∨ 80 ≤ x1.toNatClampNeg then none else (f8_push x2 ((mP_pa + (1 : Int32)), mP_pd, mP_pf, mP_pi, mP_pr, mP_pb, mP_pF, mP_pS, mP_p0, (upd mP_p1 x1.toNatClampNeg mP_pa), mP_p2, mP_p3, mP_p4, mP_pI)).bind fun (mP_pa_4, mP_pd_5, mP_pf_6, mP_pi_7, mP_pr_8, mP_pb_9, mP_pF_10, mP_pS_11, mP_p0_12, mP_p1_13, mP_p2_14, mP_p3_15, mP_p4_16, mP_pI_17) => some ((mK_ks, mK_kk, mK_kv, mK_kt), (mN_nn, mN_nk, mN_na, mN_nb, mN_nc, mN_ns), (mP_pa_4, mP_pd_5, mP_pf_6, mP_pi_7, mP_pr_8, mP_pb_9, mP_pF_10, mP_pS_11, mP_p0_12, mP_p1_13, mP_p2_14, mP_p3_15, mP_p4_16, mP_pI_17))

def f8_stepSum_L155   (mT_ty : Int32) (mT_te : Nat → Int32) (mQ_qc : Int32) (mQ_qb : Int32) (mQ_qp : Int32) (mQ_qr : Int32) (mQ_qC : Int32) : Int32 → Int32 → MdK → MdN → MdP → Option (MdK × MdN × MdP)
  | x1, x2, (mK_ks, mK_kk, mK_kv, mK_kt), (mN_nn, mN_nk, mN_na, mN_nb, mN_nc, mN_ns), (mP_pa, mP_pd, mP_pf, mP_pi, mP_pr, mP_pb, mP_pF, mP_pS, mP_p0, mP_p1, mP_p2, mP_p3, mP_p4, mP_pI) =>
    f8_stepSum_L160 mT_ty mT_te mQ_qc mQ_qb mQ_qp mQ_qr mQ_qC x1 x2 (1 : Int32) (mK_ks, mK_kk, mK_kv, mK_kt) (mN_nn, mN_nk, mN_na, mN_nb, mN_nc, mN_ns) (mP_pa, mP_pd, mP_pf, mP_pi, mP_pr, mP_pb, mP_pF, mP_pS, mP_p0, mP_p1, mP_p2, mP_p3, mP_p4, mP_pI)

def f8_stepSum_L129   (mT_ty : Int32) (mT_te : Nat → Int32) (mQ_qc : Int32) (mQ_qb : Int32) (mQ_qp : Int32) (mQ_qr : Int32) (mQ_qC : Int32) : Int32 → Int32 → MdK → MdN → MdP → Option (MdK × MdN × MdP)
  | x1, x2, (mK_ks, mK_kk, mK_kv, mK_kt), (mN_nn, mN_nk, mN_na, mN_nb, mN_nc, mN_ns), (mP_pa, mP_pd, mP_pf, mP_pi, mP_pr, mP_pb, mP_pF, mP_pS, mP_p0, mP_p1, mP_p2, mP_p3, mP_p4, mP_pI) =>
    f8_stepSum_L160 mT_ty mT_te mQ_qc mQ_qb mQ_qp mQ_qr mQ_qC x1 x2 (1 : Int32) (mK_ks, mK_kk, mK_kv, mK_kt) (mN_nn, mN_nk, mN_na, mN_nb, mN_nc, mN_ns) (mP_pa, mP_pd, mP_pf, mP_pi, mP_pr, mP_pb, mP_pF, mP_pS, mP_p0, mP_p1, mP_p2, mP_p3, mP_p4, mP_pI)

def f8_stepSum_L106   (mT_ty : Int32) (mT_te : Nat → Int32) (mQ_qc : Int32) (mQ_qb : Int32) (mQ_qp : Int32) (mQ_qr : Int32) (mQ_qC : Int32) : Int32 → Int32 → MdK → MdN → MdP → Option (MdK × MdN × MdP)
  | x1, x2, (mK_ks, mK_kk, mK_kv, mK_kt), (mN_nn, mN_nk, mN_na, mN_nb, mN_nc, mN_ns), (mP_pa, mP_pd, mP_pf, mP_pi, mP_pr, mP_pb, mP_pF, mP_pS, mP_p0, mP_p1, mP_p2, mP_p3, mP_p4, mP_pI) =>
    (f8_peek (mT_ty, mT_te) (mP_pa, mP_pd, mP_pf, mP_pi, mP_pr, mP_pb, mP_pF, mP_pS, mP_p0, mP_p1, mP_p2, mP_p3, mP_p4, mP_pI)).bind fun r_2 => if x2 = (6 : Int32) then if r_2 = (43 : Int32) then f8_stepSum_L129 mT_ty mT_te mQ_qc mQ_qb mQ_qp mQ_qr mQ_qC x1 x2 (mK_ks, mK_kk, mK_kv, mK_kt) (mN_nn, mN_nk, mN_na, mN_nb, mN_nc, mN_ns) (mP_pa, mP_pd, mP_pf, mP_pi, mP_pr, mP_pb, mP_pF, mP_pS, mP_p0, mP_p1, mP_p2, mP_p3, mP_p4, mP_pI) else if r_2 = (45 : Int32) then f8_stepSum_L129 mT_ty mT_te mQ_qc mQ_qb mQ_qp mQ_qr mQ_qC x1 x2 (mK_ks, mK_kk, mK_kv, mK_kt) (mN_nn, mN_nk, mN_na, mN_nb, mN_nc, mN_ns) (mP_pa, mP_pd, mP_pf, mP_pi, mP_pr, mP_pb, mP_pF, mP_pS, mP_p0, mP_p1, mP_p2, mP_p3, mP_p4, mP_pI) else f8_stepSum_L160 mT_ty mT_te mQ_qc mQ_qb mQ_qp mQ_qr mQ_qC x1 x2 (0 : Int32) (mK_ks, mK_kk, mK_kv, mK_kt) (mN_nn, mN_nk, mN_na, mN_nb, mN_nc, mN_ns) (mP_pa, mP_pd, mP_pf, mP_pi, mP_pr, mP_pb, mP_pF, mP_pS, mP_p0, mP_p1, mP_p2, mP_p3, mP_p4, mP_pI) else if r_2 = (42 : Int32) then f8_stepSum_L155 mT_ty mT_te mQ_qc mQ_qb mQ_qp mQ_qr mQ_qC x1 x2 (mK_ks, mK_kk, mK_kv, mK_kt) (mN_nn, mN_nk, mN_na, mN_nb, mN_nc, mN_ns) (mP_pa, mP_pd, mP_pf, mP_pi, mP_pr, mP_pb, mP_pF, mP_pS, mP_p0, mP_p1, mP_p2, mP_p3, mP_p4, mP_pI) else if r_2 = (47 : Int32) then f8_stepSum_L155 mT_ty mT_te mQ_qc mQ_qb mQ_qp mQ_qr mQ_qC x1 x2 (mK_ks, mK_kk, mK_kv, mK_kt) (mN_nn, mN_nk, mN_na, mN_nb, mN_nc, mN_ns) (mP_pa, mP_pd, mP_pf, mP_pi, mP_pr, mP_pb, mP_pF, mP_pS, mP_p0, mP_p1, mP_p2, mP_p3, mP_p4, mP_pI) else if r_2 = (37 : Int32) then f8_stepSum_L155 mT_ty mT_te mQ_qc mQ_qb mQ_qp mQ_qr mQ_qC x1 x2 (mK_ks, mK_kk, mK_kv, mK_kt) (mN_nn, mN_nk, mN_na, mN_nb, mN_nc, mN_ns) (mP_pa, mP_pd, mP_pf, mP_pi, mP_pr, mP_pb, mP_pF, mP_pS, mP_p0, mP_p1, mP_p2, mP_p3, mP_p4, mP_pI) else f8_stepSum_L160 mT_ty mT_te mQ_qc mQ_qb mQ_qp mQ_qr mQ_qC x1 x2 (0 : Int32) (mK_ks, mK_kk, mK_kv, mK_kt) (mN_nn, mN_nk, mN_na, mN_nb, mN_nc, mN_ns) (mP_pa, mP_pd, mP_pf, mP_pi, mP_pr, mP_pb, mP_pF, mP_pS, mP_p0, mP_p1, mP_p2, mP_p3, mP_p4, mP_pI)
def f8_stepSum (v1 : Int32) (v2 : Int32) : MdT → MdQ → MdK → MdN → MdP → Option (MdK × MdN × MdP)
  | (mT_ty, mT_te), (mQ_qc, mQ_qb, mQ_qp, mQ_qr, mQ_qC), (mK_ks, mK_kk, mK_kv, mK_kt), (mN_nn, mN_nk, mN_na, mN_nb, mN_nc, mN_ns), (mP_pa, mP_pd, mP_pf, mP_pi, mP_pr, mP_pb, mP_pF, mP_pS, mP_p0, mP_p1, mP_p2, mP_p3, mP_p4, mP_pI) =>
    if v1 < 0 ∨ 80 ≤ v1.toNatClampNeg then none else if (mP_pS v1.toNatClampNeg) = 0 then if v1 < 0 ∨ 80 ≤ v1.toNatClampNeg then none else (f8_push v2 (mP_pa, mP_pd, mP_pf, mP_pi, mP_pr, mP_pb, mP_pF, (upd mP_pS v1.toNatClampNeg (1 : Int32)), mP_p0, mP_p1, mP_p2, mP_p3, mP_p4, mP_pI)).bind fun (mP_pa_48, mP_pd_49, mP_pf_50, mP_pi_51, mP_pr_52, mP_pb_53, mP_pF_54, mP_pS_55, mP_p0_56, mP_p1_57, mP_p2_58, mP_p3_59, mP_p4_60, mP_pI_61) => some ((mK_ks, mK_kk, mK_kv, mK_kt), (mN_nn, mN_nk, mN_na, mN_nb, mN_nc, mN_ns), (mP_pa_48, mP_pd_49, mP_pf_50, mP_pi_51, mP_pr_52, mP_pb_53, mP_pF_54, mP_pS_55, mP_p0_56, mP_p1_57, mP_p2_58, mP_p3_59, mP_p4_60, mP_pI_61)) else if v1 < 0 ∨ 80 ≤ v1.toNatClampNeg then none else if (mP_p0 v1.toNatClampNeg) = (-1 : Int32) then if v1 < 0 ∨ 80 ≤ v1.toNatClampNeg then none else f8_stepSum_L106 mT_ty mT_te mQ_qc mQ_qb mQ_qp mQ_qr mQ_qC v1 v2 (mK_ks, mK_kk, mK_kv, mK_kt) (mN_nn, mN_nk, mN_na, mN_nb, mN_nc, mN_ns) (mP_pa, mP_pd, mP_pf, mP_pi, mP_pr, mP_pb, mP_pF, mP_pS, (upd mP_p0 v1.toNatClampNeg mP_pr), mP_p1, mP_p2, mP_p3, mP_p4, mP_pI) else if v1 < 0 ∨ 80 ≤ v1.toNatClampNeg then none else if (mP_p1 v1.toNatClampNeg) < 0 ∨ 60 ≤ (mP_p1 v1.toNatClampNeg).toNatClampNeg then none else if v1 < 0 ∨ 80 ≤ v1.toNatClampNeg then none else (f8_emit (5 : Int32) (mT_te (mP_p1 v1.toNatClampNeg).toNatClampNeg) (mP_p1 v1.toNatClampNeg) (mQ_qc, mQ_qb, mQ_qp, mQ_qr, mQ_qC) (mK_ks, mK_kk, mK_kv, mK_kt)).bind fun (r_34, (mK_ks_35, mK_kk_36, mK_kv_37, mK_kt_38)) => if v1 < 0 ∨ 80 ≤ v1.toNatClampNeg then none else if (mP_p1 v1.toNatClampNeg) < 0 ∨ 60 ≤ (mP_p1 v1.toNatClampNeg).toNatClampNeg then none else if v1 < 0 ∨ 80 ≤ v1.toNatClampNeg then none else if v1 < 0 ∨ 80 ≤ v1.toNatClampNeg then none else (f8_create (3 : Int32) (mT_te (mP_p1 v1.toNatClampNeg).toNatClampNeg) (mP_p0 v1.toNatClampNeg) mP_pr (mP_p1 v1.toNatClampNeg) (mQ_qc, mQ_qb, mQ_qp, mQ_qr, mQ_qC) (mN_nn, mN_nk, mN_na, mN_nb, mN_nc, mN_ns)).bind fun (r_40, (mN_nn_41, mN_nk_42, mN_na_43, mN_nb_44, mN_nc_45, mN_ns_46)) => if v1 < 0 ∨ 80 ≤ v1.toNatClampNeg then none else f8_stepSum_L106 mT_ty mT_te mQ_qc mQ_qb mQ_qp mQ_qr mQ_qC v1 v2 (mK_ks_35, mK_kk_36, mK_kv_37, mK_kt_38) (mN_nn_41, mN_nk_42, mN_na_43, mN_nb_44, mN_nc_45, mN_ns_46) (mP_pa, mP_pd, mP_pf, mP_pi, mP_pr, mP_pb, mP_pF, mP_pS, (upd mP_p0 v1.toNatClampNeg r_40), mP_p1, mP_p2, mP_p3, mP_p4, mP_pI)
set_option maxHeartbeats 4000000 in
set_option maxRecDepth 100000 in
theorem w8_stepSum_L160 {V : EV} {p : Program} {l : Launch} {e : Env} {R : Room} {s : State} {m : MethodId} {args : Array Value} {below : List Frame} {meth : Method} {c : Code} {Q : State → Prop} {A : Nat → Prop} {kc ks : Nat} {ad : Nat → Nat} {mL : MdL} {mH : MdH} {mR : MdR} {mG : MdG} {mT_ty : Int32} {mT_te : Nat → Int32} {mQ_qc : Int32} {mQ_qb : Int32} {mQ_qp : Int32} {mQ_qr : Int32} {mQ_qC : Int32}  {res : MdK × MdN × MdP} (C : CX V p l R s m args c A kc ks RX8 cX8_stepSum 5 1 26) (K : RV V p l e R s m args below meth c Q A kc ks 5 cX8_stepSum (wM V ad (mT_ty, mT_te) (mQ_qc, mQ_qb, mQ_qp, mQ_qr, mQ_qC) res.1 res.2.1 res.2.2 mL mH mR mG))  : ∀ (x1 : Int32) (x2 : Int32) (y0 : Int32) (mK_ks : Int32) (mK_kk : Nat → Int32) (mK_kv : Nat → Int32) (mK_kt : Nat → Int32) (mN_nn : Int32) (mN_nk : Nat → Int32) (mN_na : Nat → Int32) (mN_nb : Nat → Int32) (mN_nc : Nat → Int32) (mN_ns : Nat → Int32) (mP_pa : Int32) (mP_pd : Int32) (mP_pf : Int32) (mP_pi : Int32) (mP_pr : Int32) (mP_pb : Int32) (mP_pF : Nat → Int32) (mP_pS : Nat → Int32) (mP_p0 : Nat → Int32) (mP_p1 : Nat → Int32) (mP_p2 : Nat → Int32) (mP_p3 : Nat → Int32) (mP_p4 : Nat → Int32) (mP_pI : Nat → Int32), f8_stepSum_L160 mT_ty mT_te mQ_qc mQ_qb mQ_qp mQ_qr mQ_qC x1 x2 y0 (mK_ks, mK_kk, mK_kv, mK_kt) (mN_nn, mN_nk, mN_na, mN_nb, mN_nc, mN_ns) (mP_pa, mP_pd, mP_pf, mP_pi, mP_pr, mP_pb, mP_pF, mP_pS, mP_p0, mP_p1, mP_p2, mP_p3, mP_p4, mP_pI) = some res → WC V p l e R s m args below meth c Q A kc ks 5 (wM V ad (mT_ty, mT_te) (mQ_qc, mQ_qb, mQ_qp, mQ_qr, mQ_qC) (mK_ks, mK_kk, mK_kv, mK_kt) (mN_nn, mN_nk, mN_na, mN_nb, mN_nc, mN_ns) (mP_pa, mP_pd, mP_pf, mP_pi, mP_pr, mP_pb, mP_pF, mP_pS, mP_p0, mP_p1, mP_p2, mP_p3, mP_p4, mP_pI) mL mH mR mG) 160 [(0, .ref (ad 0)), (1, .int x1), (2, .int x2)] [.int y0] := by
  intro x1 x2 y0 mK_ks mK_kk mK_kv mK_kt mN_nn mN_nk mN_na mN_nb mN_nc mN_ns mP_pa mP_pd mP_pf mP_pi mP_pr mP_pb mP_pF mP_pS mP_p0 mP_p1 mP_p2 mP_p3 mP_p4 mP_pI hf
  rw [f8_stepSum_L160] at hf
  refine k_istore C dX8_stepSum_160 [(4, .int y0), (0, .ref (ad 0)), (1, .int x1), (2, .int x2)] (by decide) rfl ?_
  refine k_iload C dX8_stepSum_162 0 rfl ?_
  refine k_if_ne C 178 dX8_stepSum_164 (by decide) (fun hc => ?_) (fun hc => ?_)
  · replace hf := (if_neg hc).symm.trans hf
    refine k_aload_n C dX8_stepSum_178 1 rfl ?_
    refine g8_46 C dX8_stepSum_179 ?_
    refine k_iload_n C dX8_stepSum_182 2 rfl ?_
    refine k_aload_n C dX8_stepSum_183 1 rfl ?_
    refine g8_132 C dX8_stepSum_184 ?_
    obtain ⟨hi, hf⟩ := gd_no hf
    refine sm13 C hi dX8_stepSum_187 ?_
    refine k_aload_n C dX8_stepSum_188 1 rfl ?_
    refine k_dup C dX8_stepSum_189 rfl ?_
    refine g8_132 C dX8_stepSum_190 ?_
    refine k_iconst (v := (1 : Int32)) C dX8_stepSum_193 (by decide) ?_
    refine k_iadd C dX8_stepSum_194 ?_
    refine p8_132 C dX8_stepSum_195 ?_
    refine k_aload_n C dX8_stepSum_198 1 rfl ?_
    refine k_iload_n C dX8_stepSum_199 3 rfl ?_
    obtain ⟨⟨mP_pa_4, mP_pd_5, mP_pf_6, mP_pi_7, mP_pr_8, mP_pb_9, mP_pF_10, mP_pS_11, mP_p0_12, mP_p1_13, mP_p2_14, mP_p3_15, mP_p4_16, mP_pI_17⟩, hq_3, hf⟩ := ob_el hf
    dsimp only at hf
    refine k_callVv C (c8_push C.2.2.2.2.2.2.2.2.2.1 hq_3) cm8_171 ok8_push (by decide) 0 rfl rfl rfl rfl (Nat.le_of_ble_eq_true rfl) dX8_stepSum_200 ?_
    cases hf
    exact K _ _ dX8_stepSum_203
  · replace hf := (if_pos hc).symm.trans hf
    refine k_aload_n C dX8_stepSum_167 1 rfl ?_
    refine k_aload_n C dX8_stepSum_168 1 rfl ?_
    refine g8_43 C dX8_stepSum_169 ?_
    refine k_iload_n C dX8_stepSum_172 2 rfl ?_
    obtain ⟨hi, hf⟩ := gd_no hf
    refine lm12 C hi dX8_stepSum_173 ?_
    obtain ⟨⟨mP_pa_19, mP_pd_20, mP_pf_21, mP_pi_22, mP_pr_23, mP_pb_24, mP_pF_25, mP_pS_26, mP_p0_27, mP_p1_28, mP_p2_29, mP_p3_30, mP_p4_31, mP_pI_32⟩, hq_18, hf⟩ := ob_el hf
    dsimp only at hf
    refine k_callVv C (c8_finish C.2.2.2.2.2.2.2.2.2.1 hq_18) cm8_209 ok8_finish (by decide) 0 rfl rfl rfl rfl (Nat.le_of_ble_eq_true rfl) dX8_stepSum_174 ?_
    cases hf
    exact K _ _ dX8_stepSum_177

set_option maxHeartbeats 4000000 in
set_option maxRecDepth 100000 in
theorem w8_stepSum_L155 {V : EV} {p : Program} {l : Launch} {e : Env} {R : Room} {s : State} {m : MethodId} {args : Array Value} {below : List Frame} {meth : Method} {c : Code} {Q : State → Prop} {A : Nat → Prop} {kc ks : Nat} {ad : Nat → Nat} {mL : MdL} {mH : MdH} {mR : MdR} {mG : MdG} {mT_ty : Int32} {mT_te : Nat → Int32} {mQ_qc : Int32} {mQ_qb : Int32} {mQ_qp : Int32} {mQ_qr : Int32} {mQ_qC : Int32}  {res : MdK × MdN × MdP} (C : CX V p l R s m args c A kc ks RX8 cX8_stepSum 5 1 26) (K : RV V p l e R s m args below meth c Q A kc ks 5 cX8_stepSum (wM V ad (mT_ty, mT_te) (mQ_qc, mQ_qb, mQ_qp, mQ_qr, mQ_qC) res.1 res.2.1 res.2.2 mL mH mR mG))  : ∀ (x1 : Int32) (x2 : Int32) (mK_ks : Int32) (mK_kk : Nat → Int32) (mK_kv : Nat → Int32) (mK_kt : Nat → Int32) (mN_nn : Int32) (mN_nk : Nat → Int32) (mN_na : Nat → Int32) (mN_nb : Nat → Int32) (mN_nc : Nat → Int32) (mN_ns : Nat → Int32) (mP_pa : Int32) (mP_pd : Int32) (mP_pf : Int32) (mP_pi : Int32) (mP_pr : Int32) (mP_pb : Int32) (mP_pF : Nat → Int32) (mP_pS : Nat → Int32) (mP_p0 : Nat → Int32) (mP_p1 : Nat → Int32) (mP_p2 : Nat → Int32) (mP_p3 : Nat → Int32) (mP_p4 : Nat → Int32) (mP_pI : Nat → Int32), f8_stepSum_L155 mT_ty mT_te mQ_qc mQ_qb mQ_qp mQ_qr mQ_qC x1 x2 (mK_ks, mK_kk, mK_kv, mK_kt) (mN_nn, mN_nk, mN_na, mN_nb, mN_nc, mN_ns) (mP_pa, mP_pd, mP_pf, mP_pi, mP_pr, mP_pb, mP_pF, mP_pS, mP_p0, mP_p1, mP_p2, mP_p3, mP_p4, mP_pI) = some res → WC V p l e R s m args below meth c Q A kc ks 5 (wM V ad (mT_ty, mT_te) (mQ_qc, mQ_qb, mQ_qp, mQ_qr, mQ_qC) (mK_ks, mK_kk, mK_kv, mK_kt) (mN_nn, mN_nk, mN_na, mN_nb, mN_nc, mN_ns) (mP_pa, mP_pd, mP_pf, mP_pi, mP_pr, mP_pb, mP_pF, mP_pS, mP_p0, mP_p1, mP_p2, mP_p3, mP_p4, mP_pI) mL mH mR mG) 155 [(0, .ref (ad 0)), (1, .int x1), (2, .int x2)] [] := by
  intro x1 x2 mK_ks mK_kk mK_kv mK_kt mN_nn mN_nk mN_na mN_nb mN_nc mN_ns mP_pa mP_pd mP_pf mP_pi mP_pr mP_pb mP_pF mP_pS mP_p0 mP_p1 mP_p2 mP_p3 mP_p4 mP_pI hf
  rw [f8_stepSum_L155] at hf
  refine k_iconst (v := (1 : Int32)) C dX8_stepSum_155 (by decide) ?_
  refine k_goto C 160 dX8_stepSum_156 (by decide) ?_
  exact w8_stepSum_L160 C K _ _ _ _ _ _ _ _ _ _ _ _ _ _ _ _ _ _ _ _ _ _ _ _ _ _ _ hf

set_option maxHeartbeats 4000000 in
set_option maxRecDepth 100000 in
theorem w8_stepSum_L129 {V : EV} {p : Program} {l : Launch} {e : Env} {R : Room} {s : State} {m : MethodId} {args : Array Value} {below : List Frame} {meth : Method} {c : Code} {Q : State → Prop} {A : Nat → Prop} {kc ks : Nat} {ad : Nat → Nat} {mL : MdL} {mH : MdH} {mR : MdR} {mG : MdG} {mT_ty : Int32} {mT_te : Nat → Int32} {mQ_qc : Int32} {mQ_qb : Int32} {mQ_qp : Int32} {mQ_qr : Int32} {mQ_qC : Int32}  {res : MdK × MdN × MdP} (C : CX V p l R s m args c A kc ks RX8 cX8_stepSum 5 1 26) (K : RV V p l e R s m args below meth c Q A kc ks 5 cX8_stepSum (wM V ad (mT_ty, mT_te) (mQ_qc, mQ_qb, mQ_qp, mQ_qr, mQ_qC) res.1 res.2.1 res.2.2 mL mH mR mG))  : ∀ (x1 : Int32) (x2 : Int32) (mK_ks : Int32) (mK_kk : Nat → Int32) (mK_kv : Nat → Int32) (mK_kt : Nat → Int32) (mN_nn : Int32) (mN_nk : Nat → Int32) (mN_na : Nat → Int32) (mN_nb : Nat → Int32) (mN_nc : Nat → Int32) (mN_ns : Nat → Int32) (mP_pa : Int32) (mP_pd : Int32) (mP_pf : Int32) (mP_pi : Int32) (mP_pr : Int32) (mP_pb : Int32) (mP_pF : Nat → Int32) (mP_pS : Nat → Int32) (mP_p0 : Nat → Int32) (mP_p1 : Nat → Int32) (mP_p2 : Nat → Int32) (mP_p3 : Nat → Int32) (mP_p4 : Nat → Int32) (mP_pI : Nat → Int32), f8_stepSum_L129 mT_ty mT_te mQ_qc mQ_qb mQ_qp mQ_qr mQ_qC x1 x2 (mK_ks, mK_kk, mK_kv, mK_kt) (mN_nn, mN_nk, mN_na, mN_nb, mN_nc, mN_ns) (mP_pa, mP_pd, mP_pf, mP_pi, mP_pr, mP_pb, mP_pF, mP_pS, mP_p0, mP_p1, mP_p2, mP_p3, mP_p4, mP_pI) = some res → WC V p l e R s m args below meth c Q A kc ks 5 (wM V ad (mT_ty, mT_te) (mQ_qc, mQ_qb, mQ_qp, mQ_qr, mQ_qC) (mK_ks, mK_kk, mK_kv, mK_kt) (mN_nn, mN_nk, mN_na, mN_nb, mN_nc, mN_ns) (mP_pa, mP_pd, mP_pf, mP_pi, mP_pr, mP_pb, mP_pF, mP_pS, mP_p0, mP_p1, mP_p2, mP_p3, mP_p4, mP_pI) mL mH mR mG) 129 [(0, .ref (ad 0)), (1, .int x1), (2, .int x2)] [] := by
  intro x1 x2 mK_ks mK_kk mK_kv mK_kt mN_nn mN_nk mN_na mN_nb mN_nc mN_ns mP_pa mP_pd mP_pf mP_pi mP_pr mP_pb mP_pF mP_pS mP_p0 mP_p1 mP_p2 mP_p3 mP_p4 mP_pI hf
  rw [f8_stepSum_L129] at hf
  refine k_iconst (v := (1 : Int32)) C dX8_stepSum_129 (by decide) ?_
  refine k_goto C 160 dX8_stepSum_130 (by decide) ?_
  exact w8_stepSum_L160 C K _ _ _ _ _ _ _ _ _ _ _ _ _ _ _ _ _ _ _ _ _ _ _ _ _ _ _ hf

set_option maxHeartbeats 4000000 in
set_option maxRecDepth 100000 in
theorem w8_stepSum_L106 {V : EV} {p : Program} {l : Launch} {e : Env} {R : Room} {s : State} {m : MethodId} {args : Array Value} {below : List Frame} {meth : Method} {c : Code} {Q : State → Prop} {A : Nat → Prop} {kc ks : Nat} {ad : Nat → Nat} {mL : MdL} {mH : MdH} {mR : MdR} {mG : MdG} {mT_ty : Int32} {mT_te : Nat → Int32} {mQ_qc : Int32} {mQ_qb : Int32} {mQ_qp : Int32} {mQ_qr : Int32} {mQ_qC : Int32}  {res : MdK × MdN × MdP} (C : CX V p l R s m args c A kc ks RX8 cX8_stepSum 5 1 26) (K : RV V p l e R s m args below meth c Q A kc ks 5 cX8_stepSum (wM V ad (mT_ty, mT_te) (mQ_qc, mQ_qb, mQ_qp, mQ_qr, mQ_qC) res.1 res.2.1 res.2.2 mL mH mR mG))  : ∀ (x1 : Int32) (x2 : Int32) (mK_ks : Int32) (mK_kk : Nat → Int32) (mK_kv : Nat → Int32) (mK_kt : Nat → Int32) (mN_nn : Int32) (mN_nk : Nat → Int32) (mN_na : Nat → Int32) (mN_nb : Nat → Int32) (mN_nc : Nat → Int32) (mN_ns : Nat → Int32) (mP_pa : Int32) (mP_pd : Int32) (mP_pf : Int32) (mP_pi : Int32) (mP_pr : Int32) (mP_pb : Int32) (mP_pF : Nat → Int32) (mP_pS : Nat → Int32) (mP_p0 : Nat → Int32) (mP_p1 : Nat → Int32) (mP_p2 : Nat → Int32) (mP_p3 : Nat → Int32) (mP_p4 : Nat → Int32) (mP_pI : Nat → Int32), f8_stepSum_L106 mT_ty mT_te mQ_qc mQ_qb mQ_qp mQ_qr mQ_qC x1 x2 (mK_ks, mK_kk, mK_kv, mK_kt) (mN_nn, mN_nk, mN_na, mN_nb, mN_nc, mN_ns) (mP_pa, mP_pd, mP_pf, mP_pi, mP_pr, mP_pb, mP_pF, mP_pS, mP_p0, mP_p1, mP_p2, mP_p3, mP_p4, mP_pI) = some res → WC V p l e R s m args below meth c Q A kc ks 5 (wM V ad (mT_ty, mT_te) (mQ_qc, mQ_qb, mQ_qp, mQ_qr, mQ_qC) (mK_ks, mK_kk, mK_kv, mK_kt) (mN_nn, mN_nk, mN_na, mN_nb, mN_nc, mN_ns) (mP_pa, mP_pd, mP_pf, mP_pi, mP_pr, mP_pb, mP_pF, mP_pS, mP_p0, mP_p1, mP_p2, mP_p3, mP_p4, mP_pI) mL mH mR mG) 106 [(0, .ref (ad 0)), (1, .int x1), (2, .int x2)] [] := by
  intro x1 x2 mK_ks mK_kk mK_kv mK_kt mN_nn mN_nk mN_na mN_nb mN_nc mN_ns mP_pa mP_pd mP_pf mP_pi mP_pr mP_pb mP_pF mP_pS mP_p0 mP_p1 mP_p2 mP_p3 mP_p4 mP_pI hf
  rw [f8_stepSum_L106] at hf
  refine k_aload_n C dX8_stepSum_106 0 rfl ?_
  obtain ⟨r_2, hq_1, hf⟩ := ob_el hf
  refine k_callVi C (c8_peek C.2.2.2.2.2.2.2.2.2.1 hq_1) cm8_139 ok8_peek (by decide) 0 rfl rfl rfl rfl (Nat.le_of_ble_eq_true rfl) dX8_stepSum_107 ?_
  refine k_istore_n C dX8_stepSum_110 [(3, .int r_2), (0, .ref (ad 0)), (1, .int x1), (2, .int x2)] (by decide) rfl ?_
  refine k_iload_n C dX8_stepSum_111 3 rfl ?_
  refine k_bipush (v := (6 : Int32)) C dX8_stepSum_112 (by decide) ?_
  refine k_icmp_ne C 137 dX8_stepSum_114 (by decide) (fun hc => ?_) (fun hc => ?_)
  · replace hf := (if_neg hc).symm.trans hf
    refine k_iload_n C dX8_stepSum_137 0 rfl ?_
    refine k_bipush (v := (42 : Int32)) C dX8_stepSum_138 (by decide) ?_
    refine k_icmp_eq C 155 dX8_stepSum_140 (by decide) (fun hc => ?_) (fun hc => ?_)
    · replace hf := (if_pos hc).symm.trans hf
      refine k_sub [1, 2, 3] (L' := [(0, .ref (ad 0)), (1, .int x1), (2, .int x2)]) rfl ?_
      exact w8_stepSum_L155 C K _ _ _ _ _ _ _ _ _ _ _ _ _ _ _ _ _ _ _ _ _ _ _ _ _ _ hf
    · replace hf := (if_neg hc).symm.trans hf
      refine k_iload_n C dX8_stepSum_143 0 rfl ?_
      refine k_bipush (v := (47 : Int32)) C dX8_stepSum_144 (by decide) ?_
      refine k_icmp_eq C 155 dX8_stepSum_146 (by decide) (fun hc => ?_) (fun hc => ?_)
      · replace hf := (if_pos hc).symm.trans hf
        refine k_sub [1, 2, 3] (L' := [(0, .ref (ad 0)), (1, .int x1), (2, .int x2)]) rfl ?_
        exact w8_stepSum_L155 C K _ _ _ _ _ _ _ _ _ _ _ _ _ _ _ _ _ _ _ _ _ _ _ _ _ _ hf
      · replace hf := (if_neg hc).symm.trans hf
        refine k_iload_n C dX8_stepSum_149 0 rfl ?_
        refine k_bipush (v := (37 : Int32)) C dX8_stepSum_150 (by decide) ?_
        refine k_icmp_ne C 159 dX8_stepSum_152 (by decide) (fun hc => ?_) (fun hc => ?_)
        · replace hf := (if_neg hc).symm.trans hf
          refine k_iconst (v := (0 : Int32)) C dX8_stepSum_159 (by decide) ?_
          refine k_sub [1, 2, 3] (L' := [(0, .ref (ad 0)), (1, .int x1), (2, .int x2)]) rfl ?_
          exact w8_stepSum_L160 C K _ _ _ _ _ _ _ _ _ _ _ _ _ _ _ _ _ _ _ _ _ _ _ _ _ _ _ hf
        · replace hf := (if_pos hc).symm.trans hf
          refine k_sub [1, 2, 3] (L' := [(0, .ref (ad 0)), (1, .int x1), (2, .int x2)]) rfl ?_
          exact w8_stepSum_L155 C K _ _ _ _ _ _ _ _ _ _ _ _ _ _ _ _ _ _ _ _ _ _ _ _ _ _ hf
  · replace hf := (if_pos hc).symm.trans hf
    refine k_iload_n C dX8_stepSum_117 0 rfl ?_
    refine k_bipush (v := (43 : Int32)) C dX8_stepSum_118 (by decide) ?_
    refine k_icmp_eq C 129 dX8_stepSum_120 (by decide) (fun hc => ?_) (fun hc => ?_)
    · replace hf := (if_pos hc).symm.trans hf
      refine k_sub [1, 2, 3] (L' := [(0, .ref (ad 0)), (1, .int x1), (2, .int x2)]) rfl ?_
      exact w8_stepSum_L129 C K _ _ _ _ _ _ _ _ _ _ _ _ _ _ _ _ _ _ _ _ _ _ _ _ _ _ hf
    · replace hf := (if_neg hc).symm.trans hf
      refine k_iload_n C dX8_stepSum_123 0 rfl ?_
      refine k_bipush (v := (45 : Int32)) C dX8_stepSum_124 (by decide) ?_
      refine k_icmp_ne C 133 dX8_stepSum_126 (by decide) (fun hc => ?_) (fun hc => ?_)
      · replace hf := (if_neg hc).symm.trans hf
        refine k_iconst (v := (0 : Int32)) C dX8_stepSum_133 (by decide) ?_
        refine k_goto C 160 dX8_stepSum_134 (by decide) ?_
        refine k_sub [1, 2, 3] (L' := [(0, .ref (ad 0)), (1, .int x1), (2, .int x2)]) rfl ?_
        exact w8_stepSum_L160 C K _ _ _ _ _ _ _ _ _ _ _ _ _ _ _ _ _ _ _ _ _ _ _ _ _ _ _ hf
      · replace hf := (if_pos hc).symm.trans hf
        refine k_sub [1, 2, 3] (L' := [(0, .ref (ad 0)), (1, .int x1), (2, .int x2)]) rfl ?_
        exact w8_stepSum_L129 C K _ _ _ _ _ _ _ _ _ _ _ _ _ _ _ _ _ _ _ _ _ _ _ _ _ _ hf
set_option maxHeartbeats 4000000 in
set_option maxRecDepth 100000 in
theorem b8_stepSum {V : EV} {p : Program} {l : Launch} {e : Env} {R : Room} {s : State} {m : MethodId} {args : Array Value} {below : List Frame} {meth : Method} {c : Code} {Q : State → Prop} {A : Nat → Prop} {kc ks : Nat} {ad : Nat → Nat} {mL : MdL} {mH : MdH} {mR : MdR} {mG : MdG} {mT_ty : Int32} {mT_te : Nat → Int32} {mQ_qc : Int32} {mQ_qb : Int32} {mQ_qp : Int32} {mQ_qr : Int32} {mQ_qC : Int32} {v1 : Int32} {v2 : Int32} {mK_ks : Int32} {mK_kk : Nat → Int32} {mK_kv : Nat → Int32} {mK_kt : Nat → Int32} {mN_nn : Int32} {mN_nk : Nat → Int32} {mN_na : Nat → Int32} {mN_nb : Nat → Int32} {mN_nc : Nat → Int32} {mN_ns : Nat → Int32} {mP_pa : Int32} {mP_pd : Int32} {mP_pf : Int32} {mP_pi : Int32} {mP_pr : Int32} {mP_pb : Int32} {mP_pF : Nat → Int32} {mP_pS : Nat → Int32} {mP_p0 : Nat → Int32} {mP_p1 : Nat → Int32} {mP_p2 : Nat → Int32} {mP_p3 : Nat → Int32} {mP_p4 : Nat → Int32} {mP_pI : Nat → Int32} {res : MdK × MdN × MdP} (C : CX V p l R s m args c A kc ks RX8 cX8_stepSum 5 1 26) (hf : f8_stepSum v1 v2 (mT_ty, mT_te) (mQ_qc, mQ_qb, mQ_qp, mQ_qr, mQ_qC) (mK_ks, mK_kk, mK_kv, mK_kt) (mN_nn, mN_nk, mN_na, mN_nb, mN_nc, mN_ns) (mP_pa, mP_pd, mP_pf, mP_pi, mP_pr, mP_pb, mP_pF, mP_pS, mP_p0, mP_p1, mP_p2, mP_p3, mP_p4, mP_pI) = some res) (K : RV V p l e R s m args below meth c Q A kc ks 5 cX8_stepSum (wM V ad (mT_ty, mT_te) (mQ_qc, mQ_qb, mQ_qp, mQ_qr, mQ_qC) res.1 res.2.1 res.2.2 mL mH mR mG)) : WC V p l e R s m args below meth c Q A kc ks 5 (wM V ad (mT_ty, mT_te) (mQ_qc, mQ_qb, mQ_qp, mQ_qr, mQ_qC) (mK_ks, mK_kk, mK_kv, mK_kt) (mN_nn, mN_nk, mN_na, mN_nb, mN_nc, mN_ns) (mP_pa, mP_pd, mP_pf, mP_pi, mP_pr, mP_pb, mP_pF, mP_pS, mP_p0, mP_p1, mP_p2, mP_p3, mP_p4, mP_pI) mL mH mR mG) 0 [(0, .ref (ad 0)), (1, .int v1), (2, .int v2)] [] := by
  rw [f8_stepSum] at hf
  refine k_aload_n C dX8_stepSum_0 0 rfl ?_
  refine g8_40 C dX8_stepSum_1 ?_
  refine k_iload_n C dX8_stepSum_4 1 rfl ?_
  obtain ⟨hi, hf⟩ := gd_no hf
  refine lm11 C hi dX8_stepSum_5 ?_
  refine k_if_ne C 22 dX8_stepSum_6 (by decide) (fun hc => ?_) (fun hc => ?_)
  · replace hf := (if_neg hc).symm.trans hf
    refine k_aload_n C dX8_stepSum_22 0 rfl ?_
    refine g8_43 C dX8_stepSum_23 ?_
    refine k_iload_n C dX8_stepSum_26 1 rfl ?_
    obtain ⟨hi, hf⟩ := gd_no hf
    refine lm12 C hi dX8_stepSum_27 ?_
    refine k_iconst (v := (-1 : Int32)) C dX8_stepSum_28 (by decide) ?_
    refine k_icmp_eq C 96 dX8_stepSum_29 (by decide) (fun hc => ?_) (fun hc => ?_)
    · replace hf := (if_pos hc).symm.trans hf
      refine k_aload_n C dX8_stepSum_96 0 rfl ?_
      refine g8_43 C dX8_stepSum_97 ?_
      refine k_iload_n C dX8_stepSum_100 1 rfl ?_
      refine k_aload_n C dX8_stepSum_101 0 rfl ?_
      refine g8_162 C dX8_stepSum_102 ?_
      obtain ⟨hi, hf⟩ := gd_no hf
      refine sm12 C hi dX8_stepSum_105 ?_
      exact w8_stepSum_L106 C K _ _ _ _ _ _ _ _ _ _ _ _ _ _ _ _ _ _ _ _ _ _ _ _ _ _ hf
    · replace hf := (if_neg hc).symm.trans hf
      refine k_aload_n C dX8_stepSum_32 0 rfl ?_
      refine k_iconst (v := (5 : Int32)) C dX8_stepSum_33 (by decide) ?_
      refine k_aload_n C dX8_stepSum_34 0 rfl ?_
      refine g8_7 C dX8_stepSum_35 ?_
      refine k_aload_n C dX8_stepSum_38 0 rfl ?_
      refine g8_46 C dX8_stepSum_39 ?_
      refine k_iload_n C dX8_stepSum_42 1 rfl ?_
      obtain ⟨hi, hf⟩ := gd_no hf
      refine lm13 C hi dX8_stepSum_43 ?_
      obtain ⟨hi, hf⟩ := gd_no hf
      refine lm1 C hi dX8_stepSum_44 ?_
      refine k_aload_n C dX8_stepSum_45 0 rfl ?_
      refine g8_46 C dX8_stepSum_46 ?_
      refine k_iload_n C dX8_stepSum_49 1 rfl ?_
      obtain ⟨hi, hf⟩ := gd_no hf
      refine lm13 C hi dX8_stepSum_50 ?_
      obtain ⟨⟨r_34, ⟨mK_ks_35, mK_kk_36, mK_kv_37, mK_kt_38⟩⟩, hq_33, hf⟩ := ob_el hf
      dsimp only at hf
      refine k_callVi C (c8_emit C.2.2.2.2.2.2.2.2.2.1 hq_33) cm8_178 ok8_emit (by decide) 0 rfl rfl rfl rfl (Nat.le_of_ble_eq_true rfl) dX8_stepSum_51 ?_
      refine k_pop C dX8_stepSum_54 rfl ?_
      refine k_aload_n C dX8_stepSum_55 0 rfl ?_
      refine g8_43 C dX8_stepSum_56 ?_
      refine k_iload_n C dX8_stepSum_59 1 rfl ?_
      refine k_aload_n C dX8_stepSum_60 0 rfl ?_
      refine k_iconst (v := (3 : Int32)) C dX8_stepSum_61 (by decide) ?_
      refine k_aload_n C dX8_stepSum_62 0 rfl ?_
      refine g8_7 C dX8_stepSum_63 ?_
      refine k_aload_n C dX8_stepSum_66 0 rfl ?_
      refine g8_46 C dX8_stepSum_67 ?_
      refine k_iload_n C dX8_stepSum_70 1 rfl ?_
      obtain ⟨hi, hf⟩ := gd_no hf
      refine lm13 C hi dX8_stepSum_71 ?_
      obtain ⟨hi, hf⟩ := gd_no hf
      refine lm1 C hi dX8_stepSum_72 ?_
      refine k_aload_n C dX8_stepSum_73 0 rfl ?_
      refine g8_43 C dX8_stepSum_74 ?_
      refine k_iload_n C dX8_stepSum_77 1 rfl ?_
      obtain ⟨hi, hf⟩ := gd_no hf
      refine lm12 C hi dX8_stepSum_78 ?_
      refine k_aload_n C dX8_stepSum_79 0 rfl ?_
      refine g8_162 C dX8_stepSum_80 ?_
      refine k_aload_n C dX8_stepSum_83 0 rfl ?_
      refine g8_46 C dX8_stepSum_84 ?_
      refine k_iload_n C dX8_stepSum_87 1 rfl ?_
      obtain ⟨hi, hf⟩ := gd_no hf
      refine lm13 C hi dX8_stepSum_88 ?_
      obtain ⟨⟨r_40, ⟨mN_nn_41, mN_nk_42, mN_na_43, mN_nb_44, mN_nc_45, mN_ns_46⟩⟩, hq_39, hf⟩ := ob_el hf
      dsimp only at hf
      refine k_callVi C (c8_create C.2.2.2.2.2.2.2.2.2.1 hq_39) cm8_205 ok8_create (by decide) 0 rfl rfl rfl rfl (Nat.le_of_ble_eq_true rfl) dX8_stepSum_89 ?_
      obtain ⟨hi, hf⟩ := gd_no hf
      refine sm12 C hi dX8_stepSum_92 ?_
      refine k_goto C 106 dX8_stepSum_93 (by decide) ?_
      exact w8_stepSum_L106 C K _ _ _ _ _ _ _ _ _ _ _ _ _ _ _ _ _ _ _ _ _ _ _ _ _ _ hf
  · replace hf := (if_pos hc).symm.trans hf
    refine k_aload_n C dX8_stepSum_9 0 rfl ?_
    refine g8_40 C dX8_stepSum_10 ?_
    refine k_iload_n C dX8_stepSum_13 1 rfl ?_
    refine k_iconst (v := (1 : Int32)) C dX8_stepSum_14 (by decide) ?_
    obtain ⟨hi, hf⟩ := gd_no hf
    refine sm11 C hi dX8_stepSum_15 ?_
    refine k_aload_n C dX8_stepSum_16 0 rfl ?_
    refine k_iload_n C dX8_stepSum_17 2 rfl ?_
    obtain ⟨⟨mP_pa_48, mP_pd_49, mP_pf_50, mP_pi_51, mP_pr_52, mP_pb_53, mP_pF_54, mP_pS_55, mP_p0_56, mP_p1_57, mP_p2_58, mP_p3_59, mP_p4_60, mP_pI_61⟩, hq_47, hf⟩ := ob_el hf
    dsimp only at hf
    refine k_callVv C (c8_push C.2.2.2.2.2.2.2.2.2.1 hq_47) cm8_171 ok8_push (by decide) 0 rfl rfl rfl rfl (Nat.le_of_ble_eq_true rfl) dX8_stepSum_18 ?_
    cases hf
    exact K _ _ dX8_stepSum_21
theorem c8_stepSum {V : EV} {l : Launch} (hl0 : l.stackTraces = false) {ad : Nat → Nat} {mL : MdL} {mH : MdH} {mR : MdR} {mG : MdG} {mT_ty : Int32} {mT_te : Nat → Int32} {mQ_qc : Int32} {mQ_qb : Int32} {mQ_qp : Int32} {mQ_qr : Int32} {mQ_qC : Int32} {v1 : Int32} {v2 : Int32} {mK_ks : Int32} {mK_kk : Nat → Int32} {mK_kv : Nat → Int32} {mK_kt : Nat → Int32} {mN_nn : Int32} {mN_nk : Nat → Int32} {mN_na : Nat → Int32} {mN_nb : Nat → Int32} {mN_nc : Nat → Int32} {mN_ns : Nat → Int32} {mP_pa : Int32} {mP_pd : Int32} {mP_pf : Int32} {mP_pi : Int32} {mP_pr : Int32} {mP_pb : Int32} {mP_pF : Nat → Int32} {mP_pS : Nat → Int32} {mP_p0 : Nat → Int32} {mP_p1 : Nat → Int32} {mP_p2 : Nat → Int32} {mP_p3 : Nat → Int32} {mP_p4 : Nat → Int32} {mP_pI : Nat → Int32} {res : MdK × MdN × MdP} (hf : f8_stepSum v1 v2 (mT_ty, mT_te) (mQ_qc, mQ_qb, mQ_qp, mQ_qr, mQ_qC) (mK_ks, mK_kk, mK_kv, mK_kt) (mN_nn, mN_nk, mN_na, mN_nb, mN_nc, mN_ns) (mP_pa, mP_pd, mP_pf, mP_pi, mP_pr, mP_pb, mP_pF, mP_pS, mP_p0, mP_p1, mP_p2, mP_p3, mP_p4, mP_pI) = some res) : MV V l yX8_stepSum cX8_stepSum 5 1 26 [.ref (ad 0), .int v1, .int v2] (wM V ad (mT_ty, mT_te) (mQ_qc, mQ_qb, mQ_qp, mQ_qr, mQ_qC) (mK_ks, mK_kk, mK_kv, mK_kt) (mN_nn, mN_nk, mN_na, mN_nb, mN_nc, mN_ns) (mP_pa, mP_pd, mP_pf, mP_pi, mP_pr, mP_pb, mP_pF, mP_pS, mP_p0, mP_p1, mP_p2, mP_p3, mP_p4, mP_pI) mL mH mR mG) (wM V ad (mT_ty, mT_te) (mQ_qc, mQ_qb, mQ_qp, mQ_qr, mQ_qC) res.1 res.2.1 res.2.2 mL mH mR mG) :=
  mv_of hl0 (by decide +kernel) (Nat.le_of_ble_eq_true rfl) (fun p e R s m args below meth c Q A C K => b8_stepSum C hf K)

theorem ok8_constant : okCV RX8 yX8_constant 1 := by unfold okCV; decide +kernel
def f8_constant_L93   (mT_ty : Int32) (mT_te : Nat → Int32) (mQ_qc : Int32) (mQ_qb : Int32) (mQ_qp : Int32) (mQ_qr : Int32) (mQ_qC : Int32) : Int32 → Int32 → MdK → MdN → MdP → Option (MdK × MdN × MdP)
  | x2, x3, (mK_ks, mK_kk, mK_kv, mK_kt), (mN_nn, mN_nk, mN_na, mN_nb, mN_nc, mN_ns), (mP_pa, mP_pd, mP_pf, mP_pi, mP_pr, mP_pb, mP_pF, mP_pS, mP_p0, mP_p1, mP_p2, mP_p3, mP_p4, mP_pI) =>
    (f8_emit (2 : Int32) x3 x2 (mQ_qc, mQ_qb, mQ_qp, mQ_qr, mQ_qC) (mK_ks, mK_kk, mK_kv, mK_kt)).bind fun (r_5, (mK_ks_6, mK_kk_7, mK_kv_8, mK_kt_9)) => (f8_create (0 : Int32) x3 (0 : Int32) (0 : Int32) x2 (mQ_qc, mQ_qb, mQ_qp, mQ_qr, mQ_qC) (mN_nn, mN_nk, mN_na, mN_nb, mN_nc, mN_ns)).bind fun (r_11, (mN_nn_12, mN_nk_13, mN_na_14, mN_nb_15, mN_nc_16, mN_ns_17)) => (f8_finish r_11 (mP_pa, mP_pd, mP_pf, mP_pi, mP_pr, mP_pb, mP_pF, mP_pS, mP_p0, mP_p1, mP_p2, mP_p3, mP_p4, mP_pI)).bind fun (mP_pa_19, mP_pd_20, mP_pf_21, mP_pi_22, mP_pr_23, mP_pb_24, mP_pF_25, mP_pS_26, mP_p0_27, mP_p1_28, mP_p2_29, mP_p3_30, mP_p4_31, mP_pI_32) => some ((mK_ks_6, mK_kk_7, mK_kv_8, mK_kt_9), (mN_nn_12, mN_nk_13, mN_na_14, mN_nb_15, mN_nc_16, mN_ns_17), (mP_pa_19, mP_pd_20, mP_pf_21, mP_pi_22, mP_pr_23, mP_pb_24, mP_pF_25, mP_pS_26, mP_p0_27, mP_p1_28, mP_p2_29, mP_p3_30, mP_p4_31, mP_pI_32))

def f8_constant_L30   (mT_ty : Int32) (mT_te : Nat → Int32) (mQ_qc : Int32) (mQ_qb : Int32) (mQ_qp : Int32) (mQ_qr : Int32) (mQ_qC : Int32) : Int32 → Int32 → Int32 → MdK → MdN → MdP → Option (MdK × MdN × MdP)
  | x1, x2, y0, (mK_ks, mK_kk, mK_kv, mK_kt), (mN_nn, mN_nk, mN_na, mN_nb, mN_nc, mN_ns), (mP_pa, mP_pd, mP_pf, mP_pi, mP_pr, mP_pb, mP_pF, mP_pS, mP_p0, mP_p1, mP_p2, mP_p3, mP_p4, mP_pI) =>
    if y0 = 0 ∨ y0 = 1 then nm_v (x1 - (48 : Int32)) (fun v3_1 => (f8_peek (mT_ty, mT_te) ((mP_pa + (1 : Int32)), mP_pd, mP_pf, mP_pi, mP_pr, y0, mP_pF, mP_pS, mP_p0, mP_p1, mP_p2, mP_p3, mP_p4, mP_pI)).bind fun r_3 => if v3_1 ≤ 0 then f8_constant_L93 mT_ty mT_te mQ_qc mQ_qb mQ_qp mQ_qr mQ_qC x2 v3_1 (mK_ks, mK_kk, mK_kv, mK_kt) (mN_nn, mN_nk, mN_na, mN_nb, mN_nc, mN_ns) ((mP_pa + (1 : Int32)), mP_pd, mP_pf, mP_pi, mP_pr, y0, mP_pF, mP_pS, mP_p0, mP_p1, mP_p2, mP_p3, mP_p4, mP_pI) else if r_3 < (48 : Int32) then f8_constant_L93 mT_ty mT_te mQ_qc mQ_qb mQ_qp mQ_qr mQ_qC x2 v3_1 (mK_ks, mK_kk, mK_kv, mK_kt) (mN_nn, mN_nk, mN_na, mN_nb, mN_nc, mN_ns) ((mP_pa + (1 : Int32)), mP_pd, mP_pf, mP_pi, mP_pr, y0, mP_pF, mP_pS, mP_p0, mP_p1, mP_p2, mP_p3, mP_p4, mP_pI) else if (57 : Int32) < r_3 then f8_constant_L93 mT_ty mT_te mQ_qc mQ_qb mQ_qp mQ_qr mQ_qC x2 v3_1 (mK_ks, mK_kk, mK_kv, mK_kt) (mN_nn, mN_nk, mN_na, mN_nb, mN_nc, mN_ns) ((mP_pa + (1 : Int32)), mP_pd, mP_pf, mP_pi, mP_pr, y0, mP_pF, mP_pS, mP_p0, mP_p1, mP_p2, mP_p3, mP_p4, mP_pI) else nm_v ((((10 : Int32) * v3_1) + r_3) - (48 : Int32)) (fun v3_33 => f8_constant_L93 mT_ty mT_te mQ_qc mQ_qb mQ_qp mQ_qr mQ_qC x2 v3_33 (mK_ks, mK_kk, mK_kv, mK_kt) (mN_nn, mN_nk, mN_na, mN_nb, mN_nc, mN_ns) (((mP_pa + (1 : Int32)) + (1 : Int32)), mP_pd, mP_pf, mP_pi, mP_pr, y0, mP_pF, mP_pS, mP_p0, mP_p1, mP_p2, mP_p3, mP_p4, mP_pI))) else none

def f8_constant_L25   (mT_ty : Int32) (mT_te : Nat → Int32) (mQ_qc : Int32) (mQ_qb : Int32) (mQ_qp : Int32) (mQ_qr : Int32) (mQ_qC : Int32) : Int32 → Int32 → MdK → MdN → MdP → Option (MdK × MdN × MdP)
  | x1, x2, (mK_ks, mK_kk, mK_kv, mK_kt), (mN_nn, mN_nk, mN_na, mN_nb, mN_nc, mN_ns), (mP_pa, mP_pd, mP_pf, mP_pi, mP_pr, mP_pb, mP_pF, mP_pS, mP_p0, mP_p1, mP_p2, mP_p3, mP_p4, mP_pI) =>
    f8_constant_L30 mT_ty mT_te mQ_qc mQ_qb mQ_qp mQ_qr mQ_qC x1 x2 (1 : Int32) (mK_ks, mK_kk, mK_kv, mK_kt) (mN_nn, mN_nk, mN_na, mN_nb, mN_nc, mN_ns) (mP_pa, mP_pd, mP_pf, mP_pi, mP_pr, mP_pb, mP_pF, mP_pS, mP_p0, mP_p1, mP_p2, mP_p3, mP_p4, mP_pI)
def f8_constant (v1 : Int32) : MdT → MdQ → MdK → MdN → MdP → Option (MdK × MdN × MdP)
  | (mT_ty, mT_te), (mQ_qc, mQ_qb, mQ_qp, mQ_qr, mQ_qC), (mK_ks, mK_kk, mK_kv, mK_kt), (mN_nn, mN_nk, mN_na, mN_nb, mN_nc, mN_ns), (mP_pa, mP_pd, mP_pf, mP_pi, mP_pr, mP_pb, mP_pF, mP_pS, mP_p0, mP_p1, mP_p2, mP_p3, mP_p4, mP_pI) =>
    if mP_pb = 0 then if v1 < (48 : Int32) then f8_constant_L25 mT_ty mT_te mQ_qc mQ_qb mQ_qp mQ_qr mQ_qC v1 mP_pa (mK_ks, mK_kk, mK_kv, mK_kt) (mN_nn, mN_nk, mN_na, mN_nb, mN_nc, mN_ns) (mP_pa, mP_pd, mP_pf, mP_pi, mP_pr, mP_pb, mP_pF, mP_pS, mP_p0, mP_p1, mP_p2, mP_p3, mP_p4, mP_pI) else if v1 ≤ (57 : Int32) then f8_constant_L30 mT_ty mT_te mQ_qc mQ_qb mQ_qp mQ_qr mQ_qC v1 mP_pa (0 : Int32) (mK_ks, mK_kk, mK_kv, mK_kt) (mN_nn, mN_nk, mN_na, mN_nb, mN_nc, mN_ns) (mP_pa, mP_pd, mP_pf, mP_pi, mP_pr, mP_pb, mP_pF, mP_pS, mP_p0, mP_p1, mP_p2, mP_p3, mP_p4, mP_pI) else f8_constant_L25 mT_ty mT_te mQ_qc mQ_qb mQ_qp mQ_qr mQ_qC v1 mP_pa (mK_ks, mK_kk, mK_kv, mK_kt) (mN_nn, mN_nk, mN_na, mN_nb, mN_nc, mN_ns) (mP_pa, mP_pd, mP_pf, mP_pi, mP_pr, mP_pb, mP_pF, mP_pS, mP_p0, mP_p1, mP_p2, mP_p3, mP_p4, mP_pI) else f8_constant_L25 mT_ty mT_te mQ_qc mQ_qb mQ_qp mQ_qr mQ_qC v1 mP_pa (mK_ks, mK_kk, mK_kv, mK_kt) (mN_nn, mN_nk, mN_na, mN_nb, mN_nc, mN_ns) (mP_pa, mP_pd, mP_pf, mP_pi, mP_pr, mP_pb, mP_pF, mP_pS, mP_p0, mP_p1, mP_p2, mP_p3, mP_p4, mP_pI)
set_option maxHeartbeats 4000000 in
set_option maxRecDepth 100000 in
theorem w8_constant_L93 {V : EV} {p : Program} {l : Launch} {e : Env} {R : Room} {s : State} {m : MethodId} {args : Array Value} {below : List Frame} {meth : Method} {c : Code} {Q : State → Prop} {A : Nat → Prop} {kc ks : Nat} {ad : Nat → Nat} {mL : MdL} {mH : MdH} {mR : MdR} {mG : MdG} {mT_ty : Int32} {mT_te : Nat → Int32} {mQ_qc : Int32} {mQ_qb : Int32} {mQ_qp : Int32} {mQ_qr : Int32} {mQ_qC : Int32}  {res : MdK × MdN × MdP} (C : CX V p l R s m args c A kc ks RX8 cX8_constant 5 1 26) (K : RV V p l e R s m args below meth c Q A kc ks 5 cX8_constant (wM V ad (mT_ty, mT_te) (mQ_qc, mQ_qb, mQ_qp, mQ_qr, mQ_qC) res.1 res.2.1 res.2.2 mL mH mR mG))  : ∀ (x2 : Int32) (x3 : Int32) (mK_ks : Int32) (mK_kk : Nat → Int32) (mK_kv : Nat → Int32) (mK_kt : Nat → Int32) (mN_nn : Int32) (mN_nk : Nat → Int32) (mN_na : Nat → Int32) (mN_nb : Nat → Int32) (mN_nc : Nat → Int32) (mN_ns : Nat → Int32) (mP_pa : Int32) (mP_pd : Int32) (mP_pf : Int32) (mP_pi : Int32) (mP_pr : Int32) (mP_pb : Int32) (mP_pF : Nat → Int32) (mP_pS : Nat → Int32) (mP_p0 : Nat → Int32) (mP_p1 : Nat → Int32) (mP_p2 : Nat → Int32) (mP_p3 : Nat → Int32) (mP_p4 : Nat → Int32) (mP_pI : Nat → Int32), f8_constant_L93 mT_ty mT_te mQ_qc mQ_qb mQ_qp mQ_qr mQ_qC x2 x3 (mK_ks, mK_kk, mK_kv, mK_kt) (mN_nn, mN_nk, mN_na, mN_nb, mN_nc, mN_ns) (mP_pa, mP_pd, mP_pf, mP_pi, mP_pr, mP_pb, mP_pF, mP_pS, mP_p0, mP_p1, mP_p2, mP_p3, mP_p4, mP_pI) = some res → WC V p l e R s m args below meth c Q A kc ks 5 (wM V ad (mT_ty, mT_te) (mQ_qc, mQ_qb, mQ_qp, mQ_qr, mQ_qC) (mK_ks, mK_kk, mK_kv, mK_kt) (mN_nn, mN_nk, mN_na, mN_nb, mN_nc, mN_ns) (mP_pa, mP_pd, mP_pf, mP_pi, mP_pr, mP_pb, mP_pF, mP_pS, mP_p0, mP_p1, mP_p2, mP_p3, mP_p4, mP_pI) mL mH mR mG) 93 [(0, .ref (ad 0)), (2, .int x2), (3, .int x3)] [] := by
  intro x2 x3 mK_ks mK_kk mK_kv mK_kt mN_nn mN_nk mN_na mN_nb mN_nc mN_ns mP_pa mP_pd mP_pf mP_pi mP_pr mP_pb mP_pF mP_pS mP_p0 mP_p1 mP_p2 mP_p3 mP_p4 mP_pI hf
  rw [f8_constant_L93] at hf
  refine k_aload_n C dX8_constant_93 0 rfl ?_
  refine k_iconst (v := (2 : Int32)) C dX8_constant_94 (by decide) ?_
  refine k_iload_n C dX8_constant_95 2 rfl ?_
  refine k_iload_n C dX8_constant_96 1 rfl ?_
  obtain ⟨⟨r_5, ⟨mK_ks_6, mK_kk_7, mK_kv_8, mK_kt_9⟩⟩, hq_4, hf⟩ := ob_el hf
  dsimp only at hf
  refine k_callVi C (c8_emit C.2.2.2.2.2.2.2.2.2.1 hq_4) cm8_178 ok8_emit (by decide) 0 rfl rfl rfl rfl (Nat.le_of_ble_eq_true rfl) dX8_constant_97 ?_
  refine k_pop C dX8_constant_100 rfl ?_
  refine k_aload_n C dX8_constant_101 0 rfl ?_
  refine k_aload_n C dX8_constant_102 0 rfl ?_
  refine k_iconst (v := (0 : Int32)) C dX8_constant_103 (by decide) ?_
  refine k_iload_n C dX8_constant_104 2 rfl ?_
  refine k_iconst (v := (0 : Int32)) C dX8_constant_105 (by decide) ?_
  refine k_iconst (v := (0 : Int32)) C dX8_constant_106 (by decide) ?_
  refine k_iload_n C dX8_constant_107 1 rfl ?_
  obtain ⟨⟨r_11, ⟨mN_nn_12, mN_nk_13, mN_na_14, mN_nb_15, mN_nc_16, mN_ns_17⟩⟩, hq_10, hf⟩ := ob_el hf
  dsimp only at hf
  refine k_callVi C (c8_create C.2.2.2.2.2.2.2.2.2.1 hq_10) cm8_205 ok8_create (by decide) 0 rfl rfl rfl rfl (Nat.le_of_ble_eq_true rfl) dX8_constant_108 ?_
  obtain ⟨⟨mP_pa_19, mP_pd_20, mP_pf_21, mP_pi_22, mP_pr_23, mP_pb_24, mP_pF_25, mP_pS_26, mP_p0_27, mP_p1_28, mP_p2_29, mP_p3_30, mP_p4_31, mP_pI_32⟩, hq_18, hf⟩ := ob_el hf
  dsimp only at hf
  refine k_callVv C (c8_finish C.2.2.2.2.2.2.2.2.2.1 hq_18) cm8_209 ok8_finish (by decide) 0 rfl rfl rfl rfl (Nat.le_of_ble_eq_true rfl) dX8_constant_111 ?_
  cases hf
  exact K _ _ dX8_constant_114

set_option maxHeartbeats 4000000 in
set_option maxRecDepth 100000 in
theorem w8_constant_L30 {V : EV} {p : Program} {l : Launch} {e : Env} {R : Room} {s : State} {m : MethodId} {args : Array Value} {below : List Frame} {meth : Method} {c : Code} {Q : State → Prop} {A : Nat → Prop} {kc ks : Nat} {ad : Nat → Nat} {mL : MdL} {mH : MdH} {mR : MdR} {mG : MdG} {mT_ty : Int32} {mT_te : Nat → Int32} {mQ_qc : Int32} {mQ_qb : Int32} {mQ_qp : Int32} {mQ_qr : Int32} {mQ_qC : Int32}  {res : MdK × MdN × MdP} (C : CX V p l R s m args c A kc ks RX8 cX8_constant 5 1 26) (K : RV V p l e R s m args below meth c Q A kc ks 5 cX8_constant (wM V ad (mT_ty, mT_te) (mQ_qc, mQ_qb, mQ_qp, mQ_qr, mQ_qC) res.1 res.2.1 res.2.2 mL mH mR mG))  : ∀ (x1 : Int32) (x2 : Int32) (y0 : Int32) (mK_ks : Int32) (mK_kk : Nat → Int32) (mK_kv : Nat → Int32) (mK_kt : Nat → Int32) (mN_nn : Int32) (mN_nk : Nat → Int32) (mN_na : Nat → Int32) (mN_nb : Nat → Int32) (mN_nc : Nat → Int32) (mN_ns : Nat → Int32) (mP_pa : Int32) (mP_pd : Int32) (mP_pf : Int32) (mP_pi : Int32) (mP_pr : Int32) (mP_pb : Int32) (mP_pF : Nat → Int32) (mP_pS : Nat → Int32) (mP_p0 : Nat → Int32) (mP_p1 : Nat → Int32) (mP_p2 : Nat → Int32) (mP_p3 : Nat → Int32) (mP_p4 : Nat → Int32) (mP_pI : Nat → Int32), f8_constant_L30 mT_ty mT_te mQ_qc mQ_qb mQ_qp mQ_qr mQ_qC x1 x2 y0 (mK_ks, mK_kk, mK_kv, mK_kt) (mN_nn, mN_nk, mN_na, mN_nb, mN_nc, mN_ns) (mP_pa, mP_pd, mP_pf, mP_pi, mP_pr, mP_pb, mP_pF, mP_pS, mP_p0, mP_p1, mP_p2, mP_p3, mP_p4, mP_pI) = some res → WC V p l e R s m args below meth c Q A kc ks 5 (wM V ad (mT_ty, mT_te) (mQ_qc, mQ_qb, mQ_qp, mQ_qr, mQ_qC) (mK_ks, mK_kk, mK_kv, mK_kt) (mN_nn, mN_nk, mN_na, mN_nb, mN_nc, mN_ns) (mP_pa, mP_pd, mP_pf, mP_pi, mP_pr, mP_pb, mP_pF, mP_pS, mP_p0, mP_p1, mP_p2, mP_p3, mP_p4, mP_pI) mL mH mR mG) 30 [(0, .ref (ad 0)), (1, .int x1), (2, .int x2)] [.int y0, .ref (ad 0)] := by
  intro x1 x2 y0 mK_ks mK_kk mK_kv mK_kt mN_nn mN_nk mN_na mN_nb mN_nc mN_ns mP_pa mP_pd mP_pf mP_pi mP_pr mP_pb mP_pF mP_pS mP_p0 mP_p1 mP_p2 mP_p3 mP_p4 mP_pI hf
  rw [f8_constant_L30] at hf
  obtain ⟨hb, hf⟩ := gd_ok hf
  refine p8_135 C hb dX8_constant_30 ?_
  refine k_iload_n C dX8_constant_33 1 rfl ?_
  refine k_bipush (v := (48 : Int32)) C dX8_constant_34 (by decide) ?_
  refine k_isub C dX8_constant_36 ?_
  refine k_topi (fun v3_1 ev3_1 => ?_)
  replace hf := nm_el hf ev3_1
  refine k_istore_n C dX8_constant_37 [(3, .int v3_1), (0, .ref (ad 0)), (1, .int x1), (2, .int x2)] (by decide) rfl ?_
  refine k_aload_n C dX8_constant_38 1 rfl ?_
  refine k_dup C dX8_constant_39 rfl ?_
  refine g8_132 C dX8_constant_40 ?_
  refine k_iconst (v := (1 : Int32)) C dX8_constant_43 (by decide) ?_
  refine k_iadd C dX8_constant_44 ?_
  refine p8_132 C dX8_constant_45 ?_
  refine k_aload_n C dX8_constant_48 1 rfl ?_
  obtain ⟨r_3, hq_2, hf⟩ := ob_el hf
  refine k_callVi C (c8_peek C.2.2.2.2.2.2.2.2.2.1 hq_2) cm8_139 ok8_peek (by decide) 0 rfl rfl rfl rfl (Nat.le_of_ble_eq_true rfl) dX8_constant_49 ?_
  refine k_istore C dX8_constant_52 [(4, .int r_3), (3, .int v3_1), (0, .ref (ad 0)), (1, .int x1), (2, .int x2)] (by decide) rfl ?_
  refine k_iload_n C dX8_constant_54 1 rfl ?_
  refine k_if_le C 93 dX8_constant_55 (by decide) (fun hc => ?_) (fun hc => ?_)
  · replace hf := (if_pos hc).symm.trans hf
    refine k_sub [2, 4, 1] (L' := [(0, .ref (ad 0)), (2, .int x2), (3, .int v3_1)]) rfl ?_
    exact w8_constant_L93 C K _ _ _ _ _ _ _ _ _ _ _ _ _ _ _ _ _ _ _ _ _ _ _ _ _ _ hf
  · replace hf := (if_neg hc).symm.trans hf
    refine k_iload C dX8_constant_58 0 rfl ?_
    refine k_bipush (v := (48 : Int32)) C dX8_constant_60 (by decide) ?_
    refine k_icmp_lt C 93 dX8_constant_62 (by decide) (fun hc => ?_) (fun hc => ?_)
    · replace hf := (if_pos hc).symm.trans hf
      refine k_sub [2, 4, 1] (L' := [(0, .ref (ad 0)), (2, .int x2), (3, .int v3_1)]) rfl ?_
      exact w8_constant_L93 C K _ _ _ _ _ _ _ _ _ _ _ _ _ _ _ _ _ _ _ _ _ _ _ _ _ _ hf
    · replace hf := (if_neg hc).symm.trans hf
      refine k_iload C dX8_constant_65 0 rfl ?_
      refine k_bipush (v := (57 : Int32)) C dX8_constant_67 (by decide) ?_
      refine k_icmp_gt C 93 dX8_constant_69 (by decide) (fun hc => ?_) (fun hc => ?_)
      · replace hf := (if_pos hc).symm.trans hf
        refine k_sub [2, 4, 1] (L' := [(0, .ref (ad 0)), (2, .int x2), (3, .int v3_1)]) rfl ?_
        exact w8_constant_L93 C K _ _ _ _ _ _ _ _ _ _ _ _ _ _ _ _ _ _ _ _ _ _ _ _ _ _ hf
      · replace hf := (if_neg hc).symm.trans hf
        refine k_bipush (v := (10 : Int32)) C dX8_constant_72 (by decide) ?_
        refine k_iload_n C dX8_constant_74 1 rfl ?_
        refine k_imul C dX8_constant_75 ?_
        refine k_iload C dX8_constant_76 0 rfl ?_
        refine k_iadd C dX8_constant_78 ?_
        refine k_bipush (v := (48 : Int32)) C dX8_constant_79 (by decide) ?_
        refine k_isub C dX8_constant_81 ?_
        refine k_topi (fun v3_33 ev3_33 => ?_)
        replace hf := nm_el hf ev3_33
        refine k_istore_n C dX8_constant_82 [(3, .int v3_33), (4, .int r_3), (0, .ref (ad 0)), (1, .int x1), (2, .int x2)] (by decide) rfl ?_
        refine k_aload_n C dX8_constant_83 2 rfl ?_
        refine k_dup C dX8_constant_84 rfl ?_
        refine g8_132 C dX8_constant_85 ?_
        refine k_iconst (v := (1 : Int32)) C dX8_constant_88 (by decide) ?_
        refine k_iadd C dX8_constant_89 ?_
        refine p8_132 C dX8_constant_90 ?_
        refine k_sub [2, 4, 0] (L' := [(0, .ref (ad 0)), (2, .int x2), (3, .int v3_33)]) rfl ?_
        exact w8_constant_L93 C K _ _ _ _ _ _ _ _ _ _ _ _ _ _ _ _ _ _ _ _ _ _ _ _ _ _ hf

set_option maxHeartbeats 4000000 in
set_option maxRecDepth 100000 in
theorem w8_constant_L25 {V : EV} {p : Program} {l : Launch} {e : Env} {R : Room} {s : State} {m : MethodId} {args : Array Value} {below : List Frame} {meth : Method} {c : Code} {Q : State → Prop} {A : Nat → Prop} {kc ks : Nat} {ad : Nat → Nat} {mL : MdL} {mH : MdH} {mR : MdR} {mG : MdG} {mT_ty : Int32} {mT_te : Nat → Int32} {mQ_qc : Int32} {mQ_qb : Int32} {mQ_qp : Int32} {mQ_qr : Int32} {mQ_qC : Int32}  {res : MdK × MdN × MdP} (C : CX V p l R s m args c A kc ks RX8 cX8_constant 5 1 26) (K : RV V p l e R s m args below meth c Q A kc ks 5 cX8_constant (wM V ad (mT_ty, mT_te) (mQ_qc, mQ_qb, mQ_qp, mQ_qr, mQ_qC) res.1 res.2.1 res.2.2 mL mH mR mG))  : ∀ (x1 : Int32) (x2 : Int32) (mK_ks : Int32) (mK_kk : Nat → Int32) (mK_kv : Nat → Int32) (mK_kt : Nat → Int32) (mN_nn : Int32) (mN_nk : Nat → Int32) (mN_na : Nat → Int32) (mN_nb : Nat → Int32) (mN_nc : Nat → Int32) (mN_ns : Nat → Int32) (mP_pa : Int32) (mP_pd : Int32) (mP_pf : Int32) (mP_pi : Int32) (mP_pr : Int32) (mP_pb : Int32) (mP_pF : Nat → Int32) (mP_pS : Nat → Int32) (mP_p0 : Nat → Int32) (mP_p1 : Nat → Int32) (mP_p2 : Nat → Int32) (mP_p3 : Nat → Int32) (mP_p4 : Nat → Int32) (mP_pI : Nat → Int32), f8_constant_L25 mT_ty mT_te mQ_qc mQ_qb mQ_qp mQ_qr mQ_qC x1 x2 (mK_ks, mK_kk, mK_kv, mK_kt) (mN_nn, mN_nk, mN_na, mN_nb, mN_nc, mN_ns) (mP_pa, mP_pd, mP_pf, mP_pi, mP_pr, mP_pb, mP_pF, mP_pS, mP_p0, mP_p1, mP_p2, mP_p3, mP_p4, mP_pI) = some res → WC V p l e R s m args below meth c Q A kc ks 5 (wM V ad (mT_ty, mT_te) (mQ_qc, mQ_qb, mQ_qp, mQ_qr, mQ_qC) (mK_ks, mK_kk, mK_kv, mK_kt) (mN_nn, mN_nk, mN_na, mN_nb, mN_nc, mN_ns) (mP_pa, mP_pd, mP_pf, mP_pi, mP_pr, mP_pb, mP_pF, mP_pS, mP_p0, mP_p1, mP_p2, mP_p3, mP_p4, mP_pI) mL mH mR mG) 25 [(0, .ref (ad 0)), (1, .int x1), (2, .int x2)] [.ref (ad 0)] := by
  intro x1 x2 mK_ks mK_kk mK_kv mK_kt mN_nn mN_nk mN_na mN_nb mN_nc mN_ns mP_pa mP_pd mP_pf mP_pi mP_pr mP_pb mP_pF mP_pS mP_p0 mP_p1 mP_p2 mP_p3 mP_p4 mP_pI hf
  rw [f8_constant_L25] at hf
  refine k_iconst (v := (1 : Int32)) C dX8_constant_25 (by decide) ?_
  refine k_goto C 30 dX8_constant_26 (by decide) ?_
  exact w8_constant_L30 C K _ _ _ _ _ _ _ _ _ _ _ _ _ _ _ _ _ _ _ _ _ _ _ _ _ _ _ hf
set_option maxHeartbeats 4000000 in
set_option maxRecDepth 100000 in
theorem b8_constant {V : EV} {p : Program} {l : Launch} {e : Env} {R : Room} {s : State} {m : MethodId} {args : Array Value} {below : List Frame} {meth : Method} {c : Code} {Q : State → Prop} {A : Nat → Prop} {kc ks : Nat} {ad : Nat → Nat} {mL : MdL} {mH : MdH} {mR : MdR} {mG : MdG} {mT_ty : Int32} {mT_te : Nat → Int32} {mQ_qc : Int32} {mQ_qb : Int32} {mQ_qp : Int32} {mQ_qr : Int32} {mQ_qC : Int32} {v1 : Int32} {mK_ks : Int32} {mK_kk : Nat → Int32} {mK_kv : Nat → Int32} {mK_kt : Nat → Int32} {mN_nn : Int32} {mN_nk : Nat → Int32} {mN_na : Nat → Int32} {mN_nb : Nat → Int32} {mN_nc : Nat → Int32} {mN_ns : Nat → Int32} {mP_pa : Int32} {mP_pd : Int32} {mP_pf : Int32} {mP_pi : Int32} {mP_pr : Int32} {mP_pb : Int32} {mP_pF : Nat → Int32} {mP_pS : Nat → Int32} {mP_p0 : Nat → Int32} {mP_p1 : Nat → Int32} {mP_p2 : Nat → Int32} {mP_p3 : Nat → Int32} {mP_p4 : Nat → Int32} {mP_pI : Nat → Int32} {res : MdK × MdN × MdP} (C : CX V p l R s m args c A kc ks RX8 cX8_constant 5 1 26) (hf : f8_constant v1 (mT_ty, mT_te) (mQ_qc, mQ_qb, mQ_qp, mQ_qr, mQ_qC) (mK_ks, mK_kk, mK_kv, mK_kt) (mN_nn, mN_nk, mN_na, mN_nb, mN_nc, mN_ns) (mP_pa, mP_pd, mP_pf, mP_pi, mP_pr, mP_pb, mP_pF, mP_pS, mP_p0, mP_p1, mP_p2, mP_p3, mP_p4, mP_pI) = some res) (K : RV V p l e R s m args below meth c Q A kc ks 5 cX8_constant (wM V ad (mT_ty, mT_te) (mQ_qc, mQ_qb, mQ_qp, mQ_qr, mQ_qC) res.1 res.2.1 res.2.2 mL mH mR mG)) : WC V p l e R s m args below meth c Q A kc ks 5 (wM V ad (mT_ty, mT_te) (mQ_qc, mQ_qb, mQ_qp, mQ_qr, mQ_qC) (mK_ks, mK_kk, mK_kv, mK_kt) (mN_nn, mN_nk, mN_na, mN_nb, mN_nc, mN_ns) (mP_pa, mP_pd, mP_pf, mP_pi, mP_pr, mP_pb, mP_pF, mP_pS, mP_p0, mP_p1, mP_p2, mP_p3, mP_p4, mP_pI) mL mH mR mG) 0 [(0, .ref (ad 0)), (1, .int v1)] [] := by
  rw [f8_constant] at hf
  refine k_aload_n C dX8_constant_0 0 rfl ?_
  refine g8_132 C dX8_constant_1 ?_
  refine k_istore_n C dX8_constant_4 [(2, .int mP_pa), (0, .ref (ad 0)), (1, .int v1)] (by decide) rfl ?_
  refine k_aload_n C dX8_constant_5 1 rfl ?_
  refine k_aload_n C dX8_constant_6 1 rfl ?_
  refine g8_135 C dX8_constant_7 ?_
  refine k_if_ne C 25 dX8_constant_10 (by decide) (fun hc => ?_) (fun hc => ?_)
  · replace hf := (if_neg hc).symm.trans hf
    refine k_sub [1, 2, 0] (L' := [(0, .ref (ad 0)), (1, .int v1), (2, .int mP_pa)]) rfl ?_
    exact w8_constant_L25 C K _ _ _ _ _ _ _ _ _ _ _ _ _ _ _ _ _ _ _ _ _ _ _ _ _ _ hf
  · replace hf := (if_pos hc).symm.trans hf
    refine k_iload_n C dX8_constant_13 2 rfl ?_
    refine k_bipush (v := (48 : Int32)) C dX8_constant_14 (by decide) ?_
    refine k_icmp_lt C 25 dX8_constant_16 (by decide) (fun hc => ?_) (fun hc => ?_)
    · replace hf := (if_pos hc).symm.trans hf
      refine k_sub [1, 2, 0] (L' := [(0, .ref (ad 0)), (1, .int v1), (2, .int mP_pa)]) rfl ?_
      exact w8_constant_L25 C K _ _ _ _ _ _ _ _ _ _ _ _ _ _ _ _ _ _ _ _ _ _ _ _ _ _ hf
    · replace hf := (if_neg hc).symm.trans hf
      refine k_iload_n C dX8_constant_19 2 rfl ?_
      refine k_bipush (v := (57 : Int32)) C dX8_constant_20 (by decide) ?_
      refine k_icmp_le C 29 dX8_constant_22 (by decide) (fun hc => ?_) (fun hc => ?_)
      · replace hf := (if_pos hc).symm.trans hf
        refine k_iconst (v := (0 : Int32)) C dX8_constant_29 (by decide) ?_
        refine k_sub [1, 2, 0] (L' := [(0, .ref (ad 0)), (1, .int v1), (2, .int mP_pa)]) rfl ?_
        exact w8_constant_L30 C K _ _ _ _ _ _ _ _ _ _ _ _ _ _ _ _ _ _ _ _ _ _ _ _ _ _ _ hf
      · replace hf := (if_neg hc).symm.trans hf
        refine k_sub [1, 2, 0] (L' := [(0, .ref (ad 0)), (1, .int v1), (2, .int mP_pa)]) rfl ?_
        exact w8_constant_L25 C K _ _ _ _ _ _ _ _ _ _ _ _ _ _ _ _ _ _ _ _ _ _ _ _ _ _ hf
theorem c8_constant {V : EV} {l : Launch} (hl0 : l.stackTraces = false) {ad : Nat → Nat} {mL : MdL} {mH : MdH} {mR : MdR} {mG : MdG} {mT_ty : Int32} {mT_te : Nat → Int32} {mQ_qc : Int32} {mQ_qb : Int32} {mQ_qp : Int32} {mQ_qr : Int32} {mQ_qC : Int32} {v1 : Int32} {mK_ks : Int32} {mK_kk : Nat → Int32} {mK_kv : Nat → Int32} {mK_kt : Nat → Int32} {mN_nn : Int32} {mN_nk : Nat → Int32} {mN_na : Nat → Int32} {mN_nb : Nat → Int32} {mN_nc : Nat → Int32} {mN_ns : Nat → Int32} {mP_pa : Int32} {mP_pd : Int32} {mP_pf : Int32} {mP_pi : Int32} {mP_pr : Int32} {mP_pb : Int32} {mP_pF : Nat → Int32} {mP_pS : Nat → Int32} {mP_p0 : Nat → Int32} {mP_p1 : Nat → Int32} {mP_p2 : Nat → Int32} {mP_p3 : Nat → Int32} {mP_p4 : Nat → Int32} {mP_pI : Nat → Int32} {res : MdK × MdN × MdP} (hf : f8_constant v1 (mT_ty, mT_te) (mQ_qc, mQ_qb, mQ_qp, mQ_qr, mQ_qC) (mK_ks, mK_kk, mK_kv, mK_kt) (mN_nn, mN_nk, mN_na, mN_nb, mN_nc, mN_ns) (mP_pa, mP_pd, mP_pf, mP_pi, mP_pr, mP_pb, mP_pF, mP_pS, mP_p0, mP_p1, mP_p2, mP_p3, mP_p4, mP_pI) = some res) : MV V l yX8_constant cX8_constant 5 1 26 [.ref (ad 0), .int v1] (wM V ad (mT_ty, mT_te) (mQ_qc, mQ_qb, mQ_qp, mQ_qr, mQ_qC) (mK_ks, mK_kk, mK_kv, mK_kt) (mN_nn, mN_nk, mN_na, mN_nb, mN_nc, mN_ns) (mP_pa, mP_pd, mP_pf, mP_pi, mP_pr, mP_pb, mP_pF, mP_pS, mP_p0, mP_p1, mP_p2, mP_p3, mP_p4, mP_pI) mL mH mR mG) (wM V ad (mT_ty, mT_te) (mQ_qc, mQ_qb, mQ_qp, mQ_qr, mQ_qC) res.1 res.2.1 res.2.2 mL mH mR mG) :=
  mv_of hl0 (by decide +kernel) (Nat.le_of_ble_eq_true rfl) (fun p e R s m args below meth c Q A C K => b8_constant C hf K)

theorem cm8_230 : ∀ a ∈ wsCV RX8 230 RX8 yX8_constant cX8_constant 5 none, a ∈ GW := by
  unfold wsCV
  exact (List.forall_mem_cons.mpr ⟨(gw_6 (i := 47) (by decide +kernel) rfl), (List.forall_mem_cons.mpr ⟨(gw_6 (i := 49) (by decide +kernel) rfl), (List.forall_mem_cons.mpr ⟨(gw_p (q := ((yX8_constant, 63) : MethodName × Nat)) (List.mem_append_right _ (List.mem_append_right _ (List.mem_append_right _ (List.mem_append_right _ (List.mem_append_right _ (List.mem_append_left _ (List.mem_of_getElem? (i := 2) (by decide +kernel)))))))) rfl), (List.forall_mem_cons.mpr ⟨(gw_1 (i := 9) (by decide +kernel) rfl), (List.forall_mem_cons.mpr ⟨(gw_6 (i := 50) (by decide +kernel) rfl), (List.forall_mem_nil _)⟩)⟩)⟩)⟩)⟩)
theorem ok8_stepFactor : okCV RX8 yX8_stepFactor 1 := by unfold okCV; decide +kernel
def f8_stepFactor_L69   (mT_ty : Int32) (mT_te : Nat → Int32) (mQ_qc : Int32) (mQ_qb : Int32) (mQ_qp : Int32) (mQ_qr : Int32) (mQ_qC : Int32) : Int32 → MdK → MdN → MdP → Option (MdK × MdN × MdP)
  | x2, (mK_ks, mK_kk, mK_kv, mK_kt), (mN_nn, mN_nk, mN_na, mN_nb, mN_nc, mN_ns), (mP_pa, mP_pd, mP_pf, mP_pi, mP_pr, mP_pb, mP_pF, mP_pS, mP_p0, mP_p1, mP_p2, mP_p3, mP_p4, mP_pI) =>
    (f8_emit (3 : Int32) x2 (-1 : Int32) (mQ_qc, mQ_qb, mQ_qp, mQ_qr, mQ_qC) (mK_ks, mK_kk, mK_kv, mK_kt)).bind fun (r_4, (mK_ks_5, mK_kk_6, mK_kv_7, mK_kt_8)) => (f8_create (1 : Int32) x2 (0 : Int32) (0 : Int32) (-1 : Int32) (mQ_qc, mQ_qb, mQ_qp, mQ_qr, mQ_qC) (mN_nn, mN_nk, mN_na, mN_nb, mN_nc, mN_ns)).bind fun (r_10, (mN_nn_11, mN_nk_12, mN_na_13, mN_nb_14, mN_nc_15, mN_ns_16)) => (f8_finish r_10 ((mP_pa + (1 : Int32)), mP_pd, mP_pf, mP_pi, mP_pr, mP_pb, mP_pF, mP_pS, mP_p0, mP_p1, mP_p2, mP_p3, mP_p4, mP_pI)).bind fun (mP_pa_18, mP_pd_19, mP_pf_20, mP_pi_21, mP_pr_22, mP_pb_23, mP_pF_24, mP_pS_25, mP_p0_26, mP_p1_27, mP_p2_28, mP_p3_29, mP_p4_30, mP_pI_31) => some ((mK_ks_5, mK_kk_6, mK_kv_7, mK_kt_8), (mN_nn_11, mN_nk_12, mN_na_13, mN_nb_14, mN_nc_15, mN_ns_16), (mP_pa_18, mP_pd_19, mP_pf_20, mP_pi_21, mP_pr_22, mP_pb_23, mP_pF_24, mP_pS_25, mP_p0_26, mP_p1_27, mP_p2_28, mP_p3_29, mP_p4_30, mP_pI_31))
def f8_stepFactor (v1 : Int32) : MdT → MdQ → MdK → MdN → MdP → Option (MdK × MdN × MdP)
  | (mT_ty, mT_te), (mQ_qc, mQ_qb, mQ_qp, mQ_qr, mQ_qC), (mK_ks, mK_kk, mK_kv, mK_kt), (mN_nn, mN_nk, mN_na, mN_nb, mN_nc, mN_ns), (mP_pa, mP_pd, mP_pf, mP_pi, mP_pr, mP_pb, mP_pF, mP_pS, mP_p0, mP_p1, mP_p2, mP_p3, mP_p4, mP_pI) =>
    if v1 < 0 ∨ 80 ≤ v1.toNatClampNeg then none else if (mP_pS v1.toNatClampNeg) = (1 : Int32) then (f8_close (41 : Int32) (mT_ty, mT_te) (mP_pa, mP_pd, mP_pf, mP_pi, mP_pr, mP_pb, mP_pF, mP_pS, mP_p0, mP_p1, mP_p2, mP_p3, mP_p4, mP_pI)).bind fun (mP_pa_142, mP_pd_143, mP_pf_144, mP_pi_145, mP_pr_146, mP_pb_147, mP_pF_148, mP_pS_149, mP_p0_150, mP_p1_151, mP_p2_152, mP_p3_153, mP_p4_154, mP_pI_155) => (f8_finish mP_pr_146 (mP_pa_142, mP_pd_143, mP_pf_144, mP_pi_145, mP_pr_146, mP_pb_147, mP_pF_148, mP_pS_149, mP_p0_150, mP_p1_151, mP_p2_152, mP_p3_153, mP_p4_154, mP_pI_155)).bind fun (mP_pa_157, mP_pd_158, mP_pf_159, mP_pi_160, mP_pr_161, mP_pb_162, mP_pF_163, mP_pS_164, mP_p0_165, mP_p1_166, mP_p2_167, mP_p3_168, mP_p4_169, mP_pI_170) => some ((mK_ks, mK_kk, mK_kv, mK_kt), (mN_nn, mN_nk, mN_na, mN_nb, mN_nc, mN_ns), (mP_pa_157, mP_pd_158, mP_pf_159, mP_pi_160, mP_pr_161, mP_pb_162, mP_pF_163, mP_pS_164, mP_p0_165, mP_p1_166, mP_p2_167, mP_p3_168, mP_p4_169, mP_pI_170)) else (f8_peek (mT_ty, mT_te) (mP_pa, mP_pd, mP_pf, mP_pi, mP_pr, mP_pb, mP_pF, mP_pS, mP_p0, mP_p1, mP_p2, mP_p3, mP_p4, mP_pI)).bind fun r_2 => if r_2 = (40 : Int32) then (f8_open (40 : Int32) (mT_ty, mT_te) (mP_pa, mP_pd, mP_pf, mP_pi, mP_pr, mP_pb, mP_pF, mP_pS, mP_p0, mP_p1, mP_p2, mP_p3, mP_p4, mP_pI)).bind fun (mP_pa_112, mP_pd_113, mP_pf_114, mP_pi_115, mP_pr_116, mP_pb_117, mP_pF_118, mP_pS_119, mP_p0_120, mP_p1_121, mP_p2_122, mP_p3_123, mP_p4_124, mP_pI_125) => if v1 < 0 ∨ 80 ≤ v1.toNatClampNeg then none else (f8_push (5 : Int32) (mP_pa_112, mP_pd_113, mP_pf_114, mP_pi_115, mP_pr_116, mP_pb_117, mP_pF_118, (upd mP_pS_119 v1.toNatClampNeg (1 : Int32)), mP_p0_120, mP_p1_121, mP_p2_122, mP_p3_123, mP_p4_124, mP_pI_125)).bind fun (mP_pa_127, mP_pd_128, mP_pf_129, mP_pi_130, mP_pr_131, mP_pb_132, mP_pF_133, mP_pS_134, mP_p0_135, mP_p1_136, mP_p2_137, mP_p3_138, mP_p4_139, mP_pI_140) => some ((mK_ks, mK_kk, mK_kv, mK_kt), (mN_nn, mN_nk, mN_na, mN_nb, mN_nc, mN_ns), (mP_pa_127, mP_pd_128, mP_pf_129, mP_pi_130, mP_pr_131, mP_pb_132, mP_pF_133, mP_pS_134, mP_p0_135, mP_p1_136, mP_p2_137, mP_p3_138, mP_p4_139, mP_pI_140)) else if r_2 = (120 : Int32) then f8_stepFactor_L69 mT_ty mT_te mQ_qc mQ_qb mQ_qp mQ_qr mQ_qC r_2 (mK_ks, mK_kk, mK_kv, mK_kt) (mN_nn, mN_nk, mN_na, mN_nb, mN_nc, mN_ns) (mP_pa, mP_pd, mP_pf, mP_pi, mP_pr, mP_pb, mP_pF, mP_pS, mP_p0, mP_p1, mP_p2, mP_p3, mP_p4, mP_pI) else if r_2 = (121 : Int32) then f8_stepFactor_L69 mT_ty mT_te mQ_qc mQ_qb mQ_qp mQ_qr mQ_qC r_2 (mK_ks, mK_kk, mK_kv, mK_kt) (mN_nn, mN_nk, mN_na, mN_nb, mN_nc, mN_ns) (mP_pa, mP_pd, mP_pf, mP_pi, mP_pr, mP_pb, mP_pF, mP_pS, mP_p0, mP_p1, mP_p2, mP_p3, mP_p4, mP_pI) else if r_2 < (97 : Int32) then (f8_constant r_2 (mT_ty, mT_te) (mQ_qc, mQ_qb, mQ_qp, mQ_qr, mQ_qC) (mK_ks, mK_kk, mK_kv, mK_kt) (mN_nn, mN_nk, mN_na, mN_nb, mN_nc, mN_ns) (mP_pa, mP_pd, mP_pf, mP_pi, mP_pr, mP_pb, mP_pF, mP_pS, mP_p0, mP_p1, mP_p2, mP_p3, mP_p4, mP_pI)).bind fun ((mK_ks_33, mK_kk_34, mK_kv_35, mK_kt_36), (mN_nn_37, mN_nk_38, mN_na_39, mN_nb_40, mN_nc_41, mN_ns_42), (mP_pa_43, mP_pd_44, mP_pf_45, mP_pi_46, mP_pr_47, mP_pb_48, mP_pF_49, mP_pS_50, mP_p0_51, mP_p1_52, mP_p2_53, mP_p3_54, mP_p4_55, mP_pI_56)) => some ((mK_ks_33, mK_kk_34, mK_kv_35, mK_kt_36), (mN_nn_37, mN_nk_38, mN_na_39, mN_nb_40, mN_nc_41, mN_ns_42), (mP_pa_43, mP_pd_44, mP_pf_45, mP_pi_46, mP_pr_47, mP_pb_48, mP_pF_49, mP_pS_50, mP_p0_51, mP_p1_52, mP_p2_53, mP_p3_54, mP_p4_55, mP_pI_56)) else if (102 : Int32) < r_2 then (f8_constant r_2 (mT_ty, mT_te) (mQ_qc, mQ_qb, mQ_qp, mQ_qr, mQ_qC) (mK_ks, mK_kk, mK_kv, mK_kt) (mN_nn, mN_nk, mN_na, mN_nb, mN_nc, mN_ns) (mP_pa, mP_pd, mP_pf, mP_pi, mP_pr, mP_pb, mP_pF, mP_pS, mP_p0, mP_p1, mP_p2, mP_p3, mP_p4, mP_pI)).bind fun ((mK_ks_58, mK_kk_59, mK_kv_60, mK_kt_61), (mN_nn_62, mN_nk_63, mN_na_64, mN_nb_65, mN_nc_66, mN_ns_67), (mP_pa_68, mP_pd_69, mP_pf_70, mP_pi_71, mP_pr_72, mP_pb_73, mP_pF_74, mP_pS_75, mP_p0_76, mP_p1_77, mP_p2_78, mP_p3_79, mP_p4_80, mP_pI_81)) => some ((mK_ks_58, mK_kk_59, mK_kv_60, mK_kt_61), (mN_nn_62, mN_nk_63, mN_na_64, mN_nb_65, mN_nc_66, mN_ns_67), (mP_pa_68, mP_pd_69, mP_pf_70, mP_pi_71, mP_pr_72, mP_pb_73, mP_pF_74, mP_pS_75, mP_p0_76, mP_p1_77, mP_p2_78, mP_p3_79, mP_p4_80, mP_pI_81)) else (f8_emit (4 : Int32) (r_2 - (97 : Int32)) (-1 : Int32) (mQ_qc, mQ_qb, mQ_qp, mQ_qr, mQ_qC) (mK_ks, mK_kk, mK_kv, mK_kt)).bind fun (r_83, (mK_ks_84, mK_kk_85, mK_kv_86, mK_kt_87)) => (f8_create (2 : Int32) (r_2 - (97 : Int32)) (0 : Int32) (0 : Int32) (-1 : Int32) (mQ_qc, mQ_qb, mQ_qp, mQ_qr, mQ_qC) (mN_nn, mN_nk, mN_na, mN_nb, mN_nc, mN_ns)).bind fun (r_89, (mN_nn_90, mN_nk_91, mN_na_92, mN_nb_93, mN_nc_94, mN_ns_95)) => (f8_finish r_89 ((mP_pa + (1 : Int32)), mP_pd, mP_pf, mP_pi, mP_pr, mP_pb, mP_pF, mP_pS, mP_p0, mP_p1, mP_p2, mP_p3, mP_p4, mP_pI)).bind fun (mP_pa_97, mP_pd_98, mP_pf_99, mP_pi_100, mP_pr_101, mP_pb_102, mP_pF_103, mP_pS_104, mP_p0_105, mP_p1_106, mP_p2_107, mP_p3_108, mP_p4_109, mP_pI_110) => some ((mK_ks_84, mK_kk_85, mK_kv_86, mK_kt_87), (mN_nn_90, mN_nk_91, mN_na_92, mN_nb_93, mN_nc_94, mN_ns_95), (mP_pa_97, mP_pd_98, mP_pf_99, mP_pi_100, mP_pr_101, mP_pb_102, mP_pF_103, mP_pS_104, mP_p0_105, mP_p1_106, mP_p2_107, mP_p3_108, mP_p4_109, mP_pI_110))
set_option maxHeartbeats 4000000 in
set_option maxRecDepth 100000 in
theorem w8_stepFactor_L69 {V : EV} {p : Program} {l : Launch} {e : Env} {R : Room} {s : State} {m : MethodId} {args : Array Value} {below : List Frame} {meth : Method} {c : Code} {Q : State → Prop} {A : Nat → Prop} {kc ks : Nat} {ad : Nat → Nat} {mL : MdL} {mH : MdH} {mR : MdR} {mG : MdG} {mT_ty : Int32} {mT_te : Nat → Int32} {mQ_qc : Int32} {mQ_qb : Int32} {mQ_qp : Int32} {mQ_qr : Int32} {mQ_qC : Int32}  {res : MdK × MdN × MdP} (C : CX V p l R s m args c A kc ks RX8 cX8_stepFactor 3 3 62) (K : RV V p l e R s m args below meth c Q A kc ks 3 cX8_stepFactor (wM V ad (mT_ty, mT_te) (mQ_qc, mQ_qb, mQ_qp, mQ_qr, mQ_qC) res.1 res.2.1 res.2.2 mL mH mR mG))  : ∀ (x2 : Int32) (mK_ks : Int32) (mK_kk : Nat → Int32) (mK_kv : Nat → Int32) (mK_kt : Nat → Int32) (mN_nn : Int32) (mN_nk : Nat → Int32) (mN_na : Nat → Int32) (mN_nb : Nat → Int32) (mN_nc : Nat → Int32) (mN_ns : Nat → Int32) (mP_pa : Int32) (mP_pd : Int32) (mP_pf : Int32) (mP_pi : Int32) (mP_pr : Int32) (mP_pb : Int32) (mP_pF : Nat → Int32) (mP_pS : Nat → Int32) (mP_p0 : Nat → Int32) (mP_p1 : Nat → Int32) (mP_p2 : Nat → Int32) (mP_p3 : Nat → Int32) (mP_p4 : Nat → Int32) (mP_pI : Nat → Int32), f8_stepFactor_L69 mT_ty mT_te mQ_qc mQ_qb mQ_qp mQ_qr mQ_qC x2 (mK_ks, mK_kk, mK_kv, mK_kt) (mN_nn, mN_nk, mN_na, mN_nb, mN_nc, mN_ns) (mP_pa, mP_pd, mP_pf, mP_pi, mP_pr, mP_pb, mP_pF, mP_pS, mP_p0, mP_p1, mP_p2, mP_p3, mP_p4, mP_pI) = some res → WC V p l e R s m args below meth c Q A kc ks 3 (wM V ad (mT_ty, mT_te) (mQ_qc, mQ_qb, mQ_qp, mQ_qr, mQ_qC) (mK_ks, mK_kk, mK_kv, mK_kt) (mN_nn, mN_nk, mN_na, mN_nb, mN_nc, mN_ns) (mP_pa, mP_pd, mP_pf, mP_pi, mP_pr, mP_pb, mP_pF, mP_pS, mP_p0, mP_p1, mP_p2, mP_p3, mP_p4, mP_pI) mL mH mR mG) 69 [(0, .ref (ad 0)), (2, .int x2)] [] := by
  intro x2 mK_ks mK_kk mK_kv mK_kt mN_nn mN_nk mN_na mN_nb mN_nc mN_ns mP_pa mP_pd mP_pf mP_pi mP_pr mP_pb mP_pF mP_pS mP_p0 mP_p1 mP_p2 mP_p3 mP_p4 mP_pI hf
  rw [f8_stepFactor_L69] at hf
  refine k_aload_n C dX8_stepFactor_69 0 rfl ?_
  refine k_dup C dX8_stepFactor_70 rfl ?_
  refine g8_132 C dX8_stepFactor_71 ?_
  refine k_iconst (v := (1 : Int32)) C dX8_stepFactor_74 (by decide) ?_
  refine k_iadd C dX8_stepFactor_75 ?_
  refine p8_132 C dX8_stepFactor_76 ?_
  refine k_aload_n C dX8_stepFactor_79 0 rfl ?_
  refine k_iconst (v := (3 : Int32)) C dX8_stepFactor_80 (by decide) ?_
  refine k_iload_n C dX8_stepFactor_81 1 rfl ?_
  refine k_iconst (v := (-1 : Int32)) C dX8_stepFactor_82 (by decide) ?_
  obtain ⟨⟨r_4, ⟨mK_ks_5, mK_kk_6, mK_kv_7, mK_kt_8⟩⟩, hq_3, hf⟩ := ob_el hf
  dsimp only at hf
  refine k_callVi C (c8_emit C.2.2.2.2.2.2.2.2.2.1 hq_3) cm8_178 ok8_emit (by decide) 0 rfl rfl rfl rfl (Nat.le_of_ble_eq_true rfl) dX8_stepFactor_83 ?_
  refine k_pop C dX8_stepFactor_86 rfl ?_
  refine k_aload_n C dX8_stepFactor_87 0 rfl ?_
  refine k_aload_n C dX8_stepFactor_88 0 rfl ?_
  refine k_iconst (v := (1 : Int32)) C dX8_stepFactor_89 (by decide) ?_
  refine k_iload_n C dX8_stepFactor_90 1 rfl ?_
  refine k_iconst (v := (0 : Int32)) C dX8_stepFactor_91 (by decide) ?_
  refine k_iconst (v := (0 : Int32)) C dX8_stepFactor_92 (by decide) ?_
  refine k_iconst (v := (-1 : Int32)) C dX8_stepFactor_93 (by decide) ?_
  obtain ⟨⟨r_10, ⟨mN_nn_11, mN_nk_12, mN_na_13, mN_nb_14, mN_nc_15, mN_ns_16⟩⟩, hq_9, hf⟩ := ob_el hf
  dsimp only at hf
  refine k_callVi C (c8_create C.2.2.2.2.2.2.2.2.2.1 hq_9) cm8_205 ok8_create (by decide) 0 rfl rfl rfl rfl (Nat.le_of_ble_eq_true rfl) dX8_stepFactor_94 ?_
  obtain ⟨⟨mP_pa_18, mP_pd_19, mP_pf_20, mP_pi_21, mP_pr_22, mP_pb_23, mP_pF_24, mP_pS_25, mP_p0_26, mP_p1_27, mP_p2_28, mP_p3_29, mP_p4_30, mP_pI_31⟩, hq_17, hf⟩ := ob_el hf
  dsimp only at hf
  refine k_callVv C (c8_finish C.2.2.2.2.2.2.2.2.2.1 hq_17) cm8_209 ok8_finish (by decide) 0 rfl rfl rfl rfl (Nat.le_of_ble_eq_true rfl) dX8_stepFactor_97 ?_
  refine k_goto C 160 dX8_stepFactor_100 (by decide) ?_
  cases hf
  exact K _ _ dX8_stepFactor_160
set_option maxHeartbeats 4000000 in
set_option maxRecDepth 100000 in
theorem b8_stepFactor {V : EV} {p : Program} {l : Launch} {e : Env} {R : Room} {s : State} {m : MethodId} {args : Array Value} {below : List Frame} {meth : Method} {c : Code} {Q : State → Prop} {A : Nat → Prop} {kc ks : Nat} {ad : Nat → Nat} {mL : MdL} {mH : MdH} {mR : MdR} {mG : MdG} {mT_ty : Int32} {mT_te : Nat → Int32} {mQ_qc : Int32} {mQ_qb : Int32} {mQ_qp : Int32} {mQ_qr : Int32} {mQ_qC : Int32} {v1 : Int32} {mK_ks : Int32} {mK_kk : Nat → Int32} {mK_kv : Nat → Int32} {mK_kt : Nat → Int32} {mN_nn : Int32} {mN_nk : Nat → Int32} {mN_na : Nat → Int32} {mN_nb : Nat → Int32} {mN_nc : Nat → Int32} {mN_ns : Nat → Int32} {mP_pa : Int32} {mP_pd : Int32} {mP_pf : Int32} {mP_pi : Int32} {mP_pr : Int32} {mP_pb : Int32} {mP_pF : Nat → Int32} {mP_pS : Nat → Int32} {mP_p0 : Nat → Int32} {mP_p1 : Nat → Int32} {mP_p2 : Nat → Int32} {mP_p3 : Nat → Int32} {mP_p4 : Nat → Int32} {mP_pI : Nat → Int32} {res : MdK × MdN × MdP} (C : CX V p l R s m args c A kc ks RX8 cX8_stepFactor 3 3 62) (hf : f8_stepFactor v1 (mT_ty, mT_te) (mQ_qc, mQ_qb, mQ_qp, mQ_qr, mQ_qC) (mK_ks, mK_kk, mK_kv, mK_kt) (mN_nn, mN_nk, mN_na, mN_nb, mN_nc, mN_ns) (mP_pa, mP_pd, mP_pf, mP_pi, mP_pr, mP_pb, mP_pF, mP_pS, mP_p0, mP_p1, mP_p2, mP_p3, mP_p4, mP_pI) = some res) (K : RV V p l e R s m args below meth c Q A kc ks 3 cX8_stepFactor (wM V ad (mT_ty, mT_te) (mQ_qc, mQ_qb, mQ_qp, mQ_qr, mQ_qC) res.1 res.2.1 res.2.2 mL mH mR mG)) : WC V p l e R s m args below meth c Q A kc ks 3 (wM V ad (mT_ty, mT_te) (mQ_qc, mQ_qb, mQ_qp, mQ_qr, mQ_qC) (mK_ks, mK_kk, mK_kv, mK_kt) (mN_nn, mN_nk, mN_na, mN_nb, mN_nc, mN_ns) (mP_pa, mP_pd, mP_pf, mP_pi, mP_pr, mP_pb, mP_pF, mP_pS, mP_p0, mP_p1, mP_p2, mP_p3, mP_p4, mP_pI) mL mH mR mG) 0 [(0, .ref (ad 0)), (1, .int v1)] [] := by
  rw [f8_stepFactor] at hf
  refine k_aload_n C dX8_stepFactor_0 0 rfl ?_
  refine g8_40 C dX8_stepFactor_1 ?_
  refine k_iload_n C dX8_stepFactor_4 1 rfl ?_
  obtain ⟨hi, hf⟩ := gd_no hf
  refine lm11 C hi dX8_stepFactor_5 ?_
  refine k_iconst (v := (1 : Int32)) C dX8_stepFactor_6 (by decide) ?_
  refine k_icmp_ne C 25 dX8_stepFactor_7 (by decide) (fun hc => ?_) (fun hc => ?_)
  · replace hf := (if_neg hc).symm.trans hf
    refine k_aload_n C dX8_stepFactor_25 0 rfl ?_
    obtain ⟨r_2, hq_1, hf⟩ := ob_el hf
    refine k_callVi C (c8_peek C.2.2.2.2.2.2.2.2.2.1 hq_1) cm8_139 ok8_peek (by decide) 0 rfl rfl rfl rfl (Nat.le_of_ble_eq_true rfl) dX8_stepFactor_26 ?_
    refine k_istore_n C dX8_stepFactor_29 [(2, .int r_2), (0, .ref (ad 0)), (1, .int v1)] (by decide) rfl ?_
    refine k_iload_n C dX8_stepFactor_30 0 rfl ?_
    refine k_bipush (v := (40 : Int32)) C dX8_stepFactor_31 (by decide) ?_
    refine k_icmp_ne C 57 dX8_stepFactor_33 (by decide) (fun hc => ?_) (fun hc => ?_)
    · replace hf := (if_neg hc).symm.trans hf
      refine k_iload_n C dX8_stepFactor_57 0 rfl ?_
      refine k_bipush (v := (120 : Int32)) C dX8_stepFactor_58 (by decide) ?_
      refine k_icmp_eq C 69 dX8_stepFactor_60 (by decide) (fun hc => ?_) (fun hc => ?_)
      · replace hf := (if_pos hc).symm.trans hf
        refine k_sub [1, 0] (L' := [(0, .ref (ad 0)), (2, .int r_2)]) rfl ?_
        exact w8_stepFactor_L69 C K _ _ _ _ _ _ _ _ _ _ _ _ _ _ _ _ _ _ _ _ _ _ _ _ _ hf
      · replace hf := (if_neg hc).symm.trans hf
        refine k_iload_n C dX8_stepFactor_63 0 rfl ?_
        refine k_bipush (v := (121 : Int32)) C dX8_stepFactor_64 (by decide) ?_
        refine k_icmp_ne C 103 dX8_stepFactor_66 (by decide) (fun hc => ?_) (fun hc => ?_)
        · replace hf := (if_neg hc).symm.trans hf
          refine k_iload_n C dX8_stepFactor_103 0 rfl ?_
          refine k_bipush (v := (97 : Int32)) C dX8_stepFactor_104 (by decide) ?_
          refine k_icmp_lt C 155 dX8_stepFactor_106 (by decide) (fun hc => ?_) (fun hc => ?_)
          · replace hf := (if_pos hc).symm.trans hf
            refine k_aload_n C dX8_stepFactor_155 1 rfl ?_
            refine k_iload_n C dX8_stepFactor_156 0 rfl ?_
            obtain ⟨⟨⟨mK_ks_33, mK_kk_34, mK_kv_35, mK_kt_36⟩, ⟨mN_nn_37, mN_nk_38, mN_na_39, mN_nb_40, mN_nc_41, mN_ns_42⟩, ⟨mP_pa_43, mP_pd_44, mP_pf_45, mP_pi_46, mP_pr_47, mP_pb_48, mP_pF_49, mP_pS_50, mP_p0_51, mP_p1_52, mP_p2_53, mP_p3_54, mP_p4_55, mP_pI_56⟩⟩, hq_32, hf⟩ := ob_el hf
            dsimp only at hf
            refine k_callVv C (c8_constant C.2.2.2.2.2.2.2.2.2.1 hq_32) cm8_230 ok8_constant (by decide) 0 rfl rfl rfl rfl (Nat.le_of_ble_eq_true rfl) dX8_stepFactor_157 ?_
            cases hf
            exact K _ _ dX8_stepFactor_160
          · replace hf := (if_neg hc).symm.trans hf
            refine k_iload_n C dX8_stepFactor_109 0 rfl ?_
            refine k_bipush (v := (102 : Int32)) C dX8_stepFactor_110 (by decide) ?_
            refine k_icmp_gt C 155 dX8_stepFactor_112 (by decide) (fun hc => ?_) (fun hc => ?_)
            · replace hf := (if_pos hc).symm.trans hf
              refine k_aload_n C dX8_stepFactor_155 1 rfl ?_
              refine k_iload_n C dX8_stepFactor_156 0 rfl ?_
              obtain ⟨⟨⟨mK_ks_58, mK_kk_59, mK_kv_60, mK_kt_61⟩, ⟨mN_nn_62, mN_nk_63, mN_na_64, mN_nb_65, mN_nc_66, mN_ns_67⟩, ⟨mP_pa_68, mP_pd_69, mP_pf_70, mP_pi_71, mP_pr_72, mP_pb_73, mP_pF_74, mP_pS_75, mP_p0_76, mP_p1_77, mP_p2_78, mP_p3_79, mP_p4_80, mP_pI_81⟩⟩, hq_57, hf⟩ := ob_el hf
              dsimp only at hf
              refine k_callVv C (c8_constant C.2.2.2.2.2.2.2.2.2.1 hq_57) cm8_230 ok8_constant (by decide) 0 rfl rfl rfl rfl (Nat.le_of_ble_eq_true rfl) dX8_stepFactor_157 ?_
              cases hf
              exact K _ _ dX8_stepFactor_160
            · replace hf := (if_neg hc).symm.trans hf
              refine k_aload_n C dX8_stepFactor_115 1 rfl ?_
              refine k_dup C dX8_stepFactor_116 rfl ?_
              refine g8_132 C dX8_stepFactor_117 ?_
              refine k_iconst (v := (1 : Int32)) C dX8_stepFactor_120 (by decide) ?_
              refine k_iadd C dX8_stepFactor_121 ?_
              refine p8_132 C dX8_stepFactor_122 ?_
              refine k_aload_n C dX8_stepFactor_125 1 rfl ?_
              refine k_iconst (v := (4 : Int32)) C dX8_stepFactor_126 (by decide) ?_
              refine k_iload_n C dX8_stepFactor_127 0 rfl ?_
              refine k_bipush (v := (97 : Int32)) C dX8_stepFactor_128 (by decide) ?_
              refine k_isub C dX8_stepFactor_130 ?_
              refine k_iconst (v := (-1 : Int32)) C dX8_stepFactor_131 (by decide) ?_
              obtain ⟨⟨r_83, ⟨mK_ks_84, mK_kk_85, mK_kv_86, mK_kt_87⟩⟩, hq_82, hf⟩ := ob_el hf
              dsimp only at hf
              refine k_callVi C (c8_emit C.2.2.2.2.2.2.2.2.2.1 hq_82) cm8_178 ok8_emit (by decide) 0 rfl rfl rfl rfl (Nat.le_of_ble_eq_true rfl) dX8_stepFactor_132 ?_
              refine k_pop C dX8_stepFactor_135 rfl ?_
              refine k_aload_n C dX8_stepFactor_136 1 rfl ?_
              refine k_aload_n C dX8_stepFactor_137 1 rfl ?_
              refine k_iconst (v := (2 : Int32)) C dX8_stepFactor_138 (by decide) ?_
              refine k_iload_n C dX8_stepFactor_139 0 rfl ?_
              refine k_bipush (v := (97 : Int32)) C dX8_stepFactor_140 (by decide) ?_
              refine k_isub C dX8_stepFactor_142 ?_
              refine k_iconst (v := (0 : Int32)) C dX8_stepFactor_143 (by decide) ?_
              refine k_iconst (v := (0 : Int32)) C dX8_stepFactor_144 (by decide) ?_
              refine k_iconst (v := (-1 : Int32)) C dX8_stepFactor_145 (by decide) ?_
              obtain ⟨⟨r_89, ⟨mN_nn_90, mN_nk_91, mN_na_92, mN_nb_93, mN_nc_94, mN_ns_95⟩⟩, hq_88, hf⟩ := ob_el hf
              dsimp only at hf
              refine k_callVi C (c8_create C.2.2.2.2.2.2.2.2.2.1 hq_88) cm8_205 ok8_create (by decide) 0 rfl rfl rfl rfl (Nat.le_of_ble_eq_true rfl) dX8_stepFactor_146 ?_
              obtain ⟨⟨mP_pa_97, mP_pd_98, mP_pf_99, mP_pi_100, mP_pr_101, mP_pb_102, mP_pF_103, mP_pS_104, mP_p0_105, mP_p1_106, mP_p2_107, mP_p3_108, mP_p4_109, mP_pI_110⟩, hq_96, hf⟩ := ob_el hf
              dsimp only at hf
              refine k_callVv C (c8_finish C.2.2.2.2.2.2.2.2.2.1 hq_96) cm8_209 ok8_finish (by decide) 0 rfl rfl rfl rfl (Nat.le_of_ble_eq_true rfl) dX8_stepFactor_149 ?_
              refine k_goto C 160 dX8_stepFactor_152 (by decide) ?_
              cases hf
              exact K _ _ dX8_stepFactor_160
        · replace hf := (if_pos hc).symm.trans hf
          refine k_sub [1, 0] (L' := [(0, .ref (ad 0)), (2, .int r_2)]) rfl ?_
          exact w8_stepFactor_L69 C K _ _ _ _ _ _ _ _ _ _ _ _ _ _ _ _ _ _ _ _ _ _ _ _ _ hf
    · replace hf := (if_pos hc).symm.trans hf
      refine k_aload_n C dX8_stepFactor_36 1 rfl ?_
      refine k_bipush (v := (40 : Int32)) C dX8_stepFactor_37 (by decide) ?_
      obtain ⟨⟨mP_pa_112, mP_pd_113, mP_pf_114, mP_pi_115, mP_pr_116, mP_pb_117, mP_pF_118, mP_pS_119, mP_p0_120, mP_p1_121, mP_p2_122, mP_p3_123, mP_p4_124, mP_pI_125⟩, hq_111, hf⟩ := ob_el hf
      dsimp only at hf
      refine k_callVv C (c8_open C.2.2.2.2.2.2.2.2.2.1 hq_111) cm8_218 ok8_open (by decide) 0 rfl rfl rfl rfl (Nat.le_of_ble_eq_true rfl) dX8_stepFactor_39 ?_
      refine k_aload_n C dX8_stepFactor_42 1 rfl ?_
      refine g8_40 C dX8_stepFactor_43 ?_
      refine k_iload_n C dX8_stepFactor_46 2 rfl ?_
      refine k_iconst (v := (1 : Int32)) C dX8_stepFactor_47 (by decide) ?_
      obtain ⟨hi, hf⟩ := gd_no hf
      refine sm11 C hi dX8_stepFactor_48 ?_
      refine k_aload_n C dX8_stepFactor_49 1 rfl ?_
      refine k_iconst (v := (5 : Int32)) C dX8_stepFactor_50 (by decide) ?_
      obtain ⟨⟨mP_pa_127, mP_pd_128, mP_pf_129, mP_pi_130, mP_pr_131, mP_pb_132, mP_pF_133, mP_pS_134, mP_p0_135, mP_p1_136, mP_p2_137, mP_p3_138, mP_p4_139, mP_pI_140⟩, hq_126, hf⟩ := ob_el hf
      dsimp only at hf
      refine k_callVv C (c8_push C.2.2.2.2.2.2.2.2.2.1 hq_126) cm8_171 ok8_push (by decide) 0 rfl rfl rfl rfl (Nat.le_of_ble_eq_true rfl) dX8_stepFactor_51 ?_
      refine k_goto C 160 dX8_stepFactor_54 (by decide) ?_
      cases hf
      exact K _ _ dX8_stepFactor_160
  · replace hf := (if_pos hc).symm.trans hf
    refine k_aload_n C dX8_stepFactor_10 0 rfl ?_
    refine k_bipush (v := (41 : Int32)) C dX8_stepFactor_11 (by decide) ?_
    obtain ⟨⟨mP_pa_142, mP_pd_143, mP_pf_144, mP_pi_145, mP_pr_146, mP_pb_147, mP_pF_148, mP_pS_149, mP_p0_150, mP_p1_151, mP_p2_152, mP_p3_153, mP_p4_154, mP_pI_155⟩, hq_141, hf⟩ := ob_el hf
    dsimp only at hf
    refine k_callVv C (c8_close C.2.2.2.2.2.2.2.2.2.1 hq_141) cm8_224 ok8_close (by decide) 0 rfl rfl rfl rfl (Nat.le_of_ble_eq_true rfl) dX8_stepFactor_13 ?_
    refine k_aload_n C dX8_stepFactor_16 0 rfl ?_
    refine k_aload_n C dX8_stepFactor_17 0 rfl ?_
    refine g8_162 C dX8_stepFactor_18 ?_
    obtain ⟨⟨mP_pa_157, mP_pd_158, mP_pf_159, mP_pi_160, mP_pr_161, mP_pb_162, mP_pF_163, mP_pS_164, mP_p0_165, mP_p1_166, mP_p2_167, mP_p3_168, mP_p4_169, mP_pI_170⟩, hq_156, hf⟩ := ob_el hf
    dsimp only at hf
    refine k_callVv C (c8_finish C.2.2.2.2.2.2.2.2.2.1 hq_156) cm8_209 ok8_finish (by decide) 0 rfl rfl rfl rfl (Nat.le_of_ble_eq_true rfl) dX8_stepFactor_21 ?_
    cases hf
    exact K _ _ dX8_stepFactor_24
theorem c8_stepFactor {V : EV} {l : Launch} (hl0 : l.stackTraces = false) {ad : Nat → Nat} {mL : MdL} {mH : MdH} {mR : MdR} {mG : MdG} {mT_ty : Int32} {mT_te : Nat → Int32} {mQ_qc : Int32} {mQ_qb : Int32} {mQ_qp : Int32} {mQ_qr : Int32} {mQ_qC : Int32} {v1 : Int32} {mK_ks : Int32} {mK_kk : Nat → Int32} {mK_kv : Nat → Int32} {mK_kt : Nat → Int32} {mN_nn : Int32} {mN_nk : Nat → Int32} {mN_na : Nat → Int32} {mN_nb : Nat → Int32} {mN_nc : Nat → Int32} {mN_ns : Nat → Int32} {mP_pa : Int32} {mP_pd : Int32} {mP_pf : Int32} {mP_pi : Int32} {mP_pr : Int32} {mP_pb : Int32} {mP_pF : Nat → Int32} {mP_pS : Nat → Int32} {mP_p0 : Nat → Int32} {mP_p1 : Nat → Int32} {mP_p2 : Nat → Int32} {mP_p3 : Nat → Int32} {mP_p4 : Nat → Int32} {mP_pI : Nat → Int32} {res : MdK × MdN × MdP} (hf : f8_stepFactor v1 (mT_ty, mT_te) (mQ_qc, mQ_qb, mQ_qp, mQ_qr, mQ_qC) (mK_ks, mK_kk, mK_kv, mK_kt) (mN_nn, mN_nk, mN_na, mN_nb, mN_nc, mN_ns) (mP_pa, mP_pd, mP_pf, mP_pi, mP_pr, mP_pb, mP_pF, mP_pS, mP_p0, mP_p1, mP_p2, mP_p3, mP_p4, mP_pI) = some res) : MV V l yX8_stepFactor cX8_stepFactor 3 3 62 [.ref (ad 0), .int v1] (wM V ad (mT_ty, mT_te) (mQ_qc, mQ_qb, mQ_qp, mQ_qr, mQ_qC) (mK_ks, mK_kk, mK_kv, mK_kt) (mN_nn, mN_nk, mN_na, mN_nb, mN_nc, mN_ns) (mP_pa, mP_pd, mP_pf, mP_pi, mP_pr, mP_pb, mP_pF, mP_pS, mP_p0, mP_p1, mP_p2, mP_p3, mP_p4, mP_pI) mL mH mR mG) (wM V ad (mT_ty, mT_te) (mQ_qc, mQ_qb, mQ_qp, mQ_qr, mQ_qC) res.1 res.2.1 res.2.2 mL mH mR mG) :=
  mv_of hl0 (by decide +kernel) (Nat.le_of_ble_eq_true rfl) (fun p e R s m args below meth c Q A C K => b8_stepFactor C hf K)

theorem cm8_185 : ∀ a ∈ wsCV RX8 185 RX8 yX8_stepRow cX8_stepRow 3 none, a ∈ GW := by
  unfold wsCV
  exact (List.forall_mem_cons.mpr ⟨(gw_5 (i := 219) (by decide +kernel) rfl), (List.forall_mem_cons.mpr ⟨(gw_5 (i := 221) (by decide +kernel) rfl), (List.forall_mem_cons.mpr ⟨(gw_p (q := ((yX8_stepRow, 63) : MethodName × Nat)) (List.mem_append_right _ (List.mem_append_right _ (List.mem_append_right _ (List.mem_append_right _ (List.mem_append_left _ (List.mem_of_getElem? (i := 1) (by decide +kernel))))))) rfl), (List.forall_mem_cons.mpr ⟨(gw_1 (i := 9) (by decide +kernel) rfl), (List.forall_mem_cons.mpr ⟨(gw_5 (i := 222) (by decide +kernel) rfl), (List.forall_mem_nil _)⟩)⟩)⟩)⟩)⟩)
theorem cm8_188 : ∀ a ∈ wsCV RX8 188 RX8 yX8_stepStatement cX8_stepStatement 3 none, a ∈ GW := by
  unfold wsCV
  exact (List.forall_mem_cons.mpr ⟨(gw_5 (i := 235) (by decide +kernel) rfl), (List.forall_mem_cons.mpr ⟨(gw_5 (i := 237) (by decide +kernel) rfl), (List.forall_mem_cons.mpr ⟨(gw_p (q := ((yX8_stepStatement, 63) : MethodName × Nat)) (List.mem_append_right _ (List.mem_append_right _ (List.mem_append_right _ (List.mem_append_right _ (List.mem_append_left _ (List.mem_of_getElem? (i := 5) (by decide +kernel))))))) rfl), (List.forall_mem_cons.mpr ⟨(gw_1 (i := 9) (by decide +kernel) rfl), (List.forall_mem_cons.mpr ⟨(gw_5 (i := 238) (by decide +kernel) rfl), (List.forall_mem_nil _)⟩)⟩)⟩)⟩)⟩)
theorem cm8_191 : ∀ a ∈ wsCV RX8 191 RX8 yX8_stepChain cX8_stepChain 4 none, a ∈ GW := by
  unfold wsCV
  exact (List.forall_mem_cons.mpr ⟨(gw_6 (i := 31) (by decide +kernel) rfl), (List.forall_mem_cons.mpr ⟨(gw_6 (i := 33) (by decide +kernel) rfl), (List.forall_mem_cons.mpr ⟨(gw_p (q := ((yX8_stepChain, 63) : MethodName × Nat)) (List.mem_append_right _ (List.mem_append_right _ (List.mem_append_right _ (List.mem_append_right _ (List.mem_append_left _ (List.mem_of_getElem? (i := 14) (by decide +kernel))))))) rfl), (List.forall_mem_cons.mpr ⟨(gw_1 (i := 9) (by decide +kernel) rfl), (List.forall_mem_cons.mpr ⟨(gw_6 (i := 34) (by decide +kernel) rfl), (List.forall_mem_nil _)⟩)⟩)⟩)⟩)⟩)
theorem cm8_195 : ∀ a ∈ wsCV RX8 195 RX8 yX8_stepAtom cX8_stepAtom 3 none, a ∈ GW := by
  unfold wsCV
  exact (List.forall_mem_cons.mpr ⟨(gw_6 (i := 35) (by decide +kernel) rfl), (List.forall_mem_cons.mpr ⟨(gw_6 (i := 37) (by decide +kernel) rfl), (List.forall_mem_cons.mpr ⟨(gw_p (q := ((yX8_stepAtom, 63) : MethodName × Nat)) (List.mem_append_right _ (List.mem_append_right _ (List.mem_append_right _ (List.mem_append_right _ (List.mem_append_left _ (List.mem_of_getElem? (i := 15) (by decide +kernel))))))) rfl), (List.forall_mem_cons.mpr ⟨(gw_1 (i := 9) (by decide +kernel) rfl), (List.forall_mem_cons.mpr ⟨(gw_6 (i := 38) (by decide +kernel) rfl), (List.forall_mem_nil _)⟩)⟩)⟩)⟩)⟩)
theorem cm8_198 : ∀ a ∈ wsCV RX8 198 RX8 yX8_stepSum cX8_stepSum 5 none, a ∈ GW := by
  unfold wsCV
  exact (List.forall_mem_cons.mpr ⟨(gw_6 (i := 39) (by decide +kernel) rfl), (List.forall_mem_cons.mpr ⟨(gw_6 (i := 41) (by decide +kernel) rfl), (List.forall_mem_cons.mpr ⟨(gw_p (q := ((yX8_stepSum, 63) : MethodName × Nat)) (List.mem_append_right _ (List.mem_append_right _ (List.mem_append_right _ (List.mem_append_right _ (List.mem_append_right _ (List.mem_append_left _ (List.mem_of_getElem? (i := 0) (by decide +kernel)))))))) rfl), (List.forall_mem_cons.mpr ⟨(gw_1 (i := 9) (by decide +kernel) rfl), (List.forall_mem_cons.mpr ⟨(gw_6 (i := 42) (by decide +kernel) rfl), (List.forall_mem_nil _)⟩)⟩)⟩)⟩)⟩)
theorem cm8_202 : ∀ a ∈ wsCV RX8 202 RX8 yX8_stepFactor cX8_stepFactor 3 none, a ∈ GW := by
  unfold wsCV
  exact (List.forall_mem_cons.mpr ⟨(gw_6 (i := 43) (by decide +kernel) rfl), (List.forall_mem_cons.mpr ⟨(gw_6 (i := 45) (by decide +kernel) rfl), (List.forall_mem_cons.mpr ⟨(gw_p (q := ((yX8_stepFactor, 63) : MethodName × Nat)) (List.mem_append_right _ (List.mem_append_right _ (List.mem_append_right _ (List.mem_append_right _ (List.mem_append_right _ (List.mem_append_left _ (List.mem_of_getElem? (i := 1) (by decide +kernel)))))))) rfl), (List.forall_mem_cons.mpr ⟨(gw_1 (i := 9) (by decide +kernel) rfl), (List.forall_mem_cons.mpr ⟨(gw_6 (i := 46) (by decide +kernel) rfl), (List.forall_mem_nil _)⟩)⟩)⟩)⟩)⟩)
theorem ok8_step : okCV RX8 yX8_step 1 := by unfold okCV; decide +kernel
def f8_step (N : Nat) (v1 : Int32) : MdT → MdQ → MdK → MdN → MdP → Option (MdK × MdN × MdP)
  | (mT_ty, mT_te), (mQ_qc, mQ_qb, mQ_qp, mQ_qr, mQ_qC), (mK_ks, mK_kk, mK_kv, mK_kt), (mN_nn, mN_nk, mN_na, mN_nb, mN_nc, mN_ns), (mP_pa, mP_pd, mP_pf, mP_pi, mP_pr, mP_pb, mP_pF, mP_pS, mP_p0, mP_p1, mP_p2, mP_p3, mP_p4, mP_pI) =>
    if v1 < 0 ∨ 80 ≤ v1.toNatClampNeg then none else if (mP_pF v1.toNatClampNeg) = (0 : Int32) then (f8_stepRow N v1 (mT_ty, mT_te) (mQ_qc, mQ_qb, mQ_qp, mQ_qr, mQ_qC) (mN_nn, mN_nk, mN_na, mN_nb, mN_nc, mN_ns) (mP_pa, mP_pd, mP_pf, mP_pi, mP_pr, mP_pb, mP_pF, mP_pS, mP_p0, mP_p1, mP_p2, mP_p3, mP_p4, mP_pI)).bind fun ((mN_nn_27, mN_nk_28, mN_na_29, mN_nb_30, mN_nc_31, mN_ns_32), (mP_pa_33, mP_pd_34, mP_pf_35, mP_pi_36, mP_pr_37, mP_pb_38, mP_pF_39, mP_pS_40, mP_p0_41, mP_p1_42, mP_p2_43, mP_p3_44, mP_p4_45, mP_pI_46)) => some ((mK_ks, mK_kk, mK_kv, mK_kt), (mN_nn_27, mN_nk_28, mN_na_29, mN_nb_30, mN_nc_31, mN_ns_32), (mP_pa_33, mP_pd_34, mP_pf_35, mP_pi_36, mP_pr_37, mP_pb_38, mP_pF_39, mP_pS_40, mP_p0_41, mP_p1_42, mP_p2_43, mP_p3_44, mP_p4_45, mP_pI_46)) else if (mP_pF v1.toNatClampNeg) = (1 : Int32) then (f8_stepStatement v1 (mT_ty, mT_te) (mQ_qc, mQ_qb, mQ_qp, mQ_qr, mQ_qC) (mK_ks, mK_kk, mK_kv, mK_kt) (mN_nn, mN_nk, mN_na, mN_nb, mN_nc, mN_ns) (mP_pa, mP_pd, mP_pf, mP_pi, mP_pr, mP_pb, mP_pF, mP_pS, mP_p0, mP_p1, mP_p2, mP_p3, mP_p4, mP_pI)).bind fun ((mK_ks_48, mK_kk_49, mK_kv_50, mK_kt_51), (mN_nn_52, mN_nk_53, mN_na_54, mN_nb_55, mN_nc_56, mN_ns_57), (mP_pa_58, mP_pd_59, mP_pf_60, mP_pi_61, mP_pr_62, mP_pb_63, mP_pF_64, mP_pS_65, mP_p0_66, mP_p1_67, mP_p2_68, mP_p3_69, mP_p4_70, mP_pI_71)) => some ((mK_ks_48, mK_kk_49, mK_kv_50, mK_kt_51), (mN_nn_52, mN_nk_53, mN_na_54, mN_nb_55, mN_nc_56, mN_ns_57), (mP_pa_58, mP_pd_59, mP_pf_60, mP_pi_61, mP_pr_62, mP_pb_63, mP_pF_64, mP_pS_65, mP_p0_66, mP_p1_67, mP_p2_68, mP_p3_69, mP_p4_70, mP_pI_71)) else if (mP_pF v1.toNatClampNeg) = (2 : Int32) then (f8_stepChain v1 (124 : Int32) (3 : Int32) (mT_ty, mT_te) (mQ_qc, mQ_qb, mQ_qp, mQ_qr, mQ_qC) (mK_ks, mK_kk, mK_kv, mK_kt) (mN_nn, mN_nk, mN_na, mN_nb, mN_nc, mN_ns) (mP_pa, mP_pd, mP_pf, mP_pi, mP_pr, mP_pb, mP_pF, mP_pS, mP_p0, mP_p1, mP_p2, mP_p3, mP_p4, mP_pI)).bind fun ((mK_ks_73, mK_kk_74, mK_kv_75, mK_kt_76), (mN_nn_77, mN_nk_78, mN_na_79, mN_nb_80, mN_nc_81, mN_ns_82), (mP_pa_83, mP_pd_84, mP_pf_85, mP_pi_86, mP_pr_87, mP_pb_88, mP_pF_89, mP_pS_90, mP_p0_91, mP_p1_92, mP_p2_93, mP_p3_94, mP_p4_95, mP_pI_96)) => some ((mK_ks_73, mK_kk_74, mK_kv_75, mK_kt_76), (mN_nn_77, mN_nk_78, mN_na_79, mN_nb_80, mN_nc_81, mN_ns_82), (mP_pa_83, mP_pd_84, mP_pf_85, mP_pi_86, mP_pr_87, mP_pb_88, mP_pF_89, mP_pS_90, mP_p0_91, mP_p1_92, mP_p2_93, mP_p3_94, mP_p4_95, mP_pI_96)) else if (mP_pF v1.toNatClampNeg) = (3 : Int32) then (f8_stepChain v1 (38 : Int32) (4 : Int32) (mT_ty, mT_te) (mQ_qc, mQ_qb, mQ_qp, mQ_qr, mQ_qC) (mK_ks, mK_kk, mK_kv, mK_kt) (mN_nn, mN_nk, mN_na, mN_nb, mN_nc, mN_ns) (mP_pa, mP_pd, mP_pf, mP_pi, mP_pr, mP_pb, mP_pF, mP_pS, mP_p0, mP_p1, mP_p2, mP_p3, mP_p4, mP_pI)).bind fun ((mK_ks_98, mK_kk_99, mK_kv_100, mK_kt_101), (mN_nn_102, mN_nk_103, mN_na_104, mN_nb_105, mN_nc_106, mN_ns_107), (mP_pa_108, mP_pd_109, mP_pf_110, mP_pi_111, mP_pr_112, mP_pb_113, mP_pF_114, mP_pS_115, mP_p0_116, mP_p1_117, mP_p2_118, mP_p3_119, mP_p4_120, mP_pI_121)) => some ((mK_ks_98, mK_kk_99, mK_kv_100, mK_kt_101), (mN_nn_102, mN_nk_103, mN_na_104, mN_nb_105, mN_nc_106, mN_ns_107), (mP_pa_108, mP_pd_109, mP_pf_110, mP_pi_111, mP_pr_112, mP_pb_113, mP_pF_114, mP_pS_115, mP_p0_116, mP_p1_117, mP_p2_118, mP_p3_119, mP_p4_120, mP_pI_121)) else if (mP_pF v1.toNatClampNeg) = (4 : Int32) then (f8_stepAtom v1 (mT_ty, mT_te) (mQ_qc, mQ_qb, mQ_qp, mQ_qr, mQ_qC) (mK_ks, mK_kk, mK_kv, mK_kt) (mN_nn, mN_nk, mN_na, mN_nb, mN_nc, mN_ns) (mP_pa, mP_pd, mP_pf, mP_pi, mP_pr, mP_pb, mP_pF, mP_pS, mP_p0, mP_p1, mP_p2, mP_p3, mP_p4, mP_pI)).bind fun ((mK_ks_123, mK_kk_124, mK_kv_125, mK_kt_126), (mN_nn_127, mN_nk_128, mN_na_129, mN_nb_130, mN_nc_131, mN_ns_132), (mP_pa_133, mP_pd_134, mP_pf_135, mP_pi_136, mP_pr_137, mP_pb_138, mP_pF_139, mP_pS_140, mP_p0_141, mP_p1_142, mP_p2_143, mP_p3_144, mP_p4_145, mP_pI_146)) => some ((mK_ks_123, mK_kk_124, mK_kv_125, mK_kt_126), (mN_nn_127, mN_nk_128, mN_na_129, mN_nb_130, mN_nc_131, mN_ns_132), (mP_pa_133, mP_pd_134, mP_pf_135, mP_pi_136, mP_pr_137, mP_pb_138, mP_pF_139, mP_pS_140, mP_p0_141, mP_p1_142, mP_p2_143, mP_p3_144, mP_p4_145, mP_pI_146)) else if (mP_pF v1.toNatClampNeg) = (5 : Int32) then (f8_stepSum v1 (6 : Int32) (mT_ty, mT_te) (mQ_qc, mQ_qb, mQ_qp, mQ_qr, mQ_qC) (mK_ks, mK_kk, mK_kv, mK_kt) (mN_nn, mN_nk, mN_na, mN_nb, mN_nc, mN_ns) (mP_pa, mP_pd, mP_pf, mP_pi, mP_pr, mP_pb, mP_pF, mP_pS, mP_p0, mP_p1, mP_p2, mP_p3, mP_p4, mP_pI)).bind fun ((mK_ks_148, mK_kk_149, mK_kv_150, mK_kt_151), (mN_nn_152, mN_nk_153, mN_na_154, mN_nb_155, mN_nc_156, mN_ns_157), (mP_pa_158, mP_pd_159, mP_pf_160, mP_pi_161, mP_pr_162, mP_pb_163, mP_pF_164, mP_pS_165, mP_p0_166, mP_p1_167, mP_p2_168, mP_p3_169, mP_p4_170, mP_pI_171)) => some ((mK_ks_148, mK_kk_149, mK_kv_150, mK_kt_151), (mN_nn_152, mN_nk_153, mN_na_154, mN_nb_155, mN_nc_156, mN_ns_157), (mP_pa_158, mP_pd_159, mP_pf_160, mP_pi_161, mP_pr_162, mP_pb_163, mP_pF_164, mP_pS_165, mP_p0_166, mP_p1_167, mP_p2_168, mP_p3_169, mP_p4_170, mP_pI_171)) else if (mP_pF v1.toNatClampNeg) = (6 : Int32) then (f8_stepSum v1 (7 : Int32) (mT_ty, mT_te) (mQ_qc, mQ_qb, mQ_qp, mQ_qr, mQ_qC) (mK_ks, mK_kk, mK_kv, mK_kt) (mN_nn, mN_nk, mN_na, mN_nb, mN_nc, mN_ns) (mP_pa, mP_pd, mP_pf, mP_pi, mP_pr, mP_pb, mP_pF, mP_pS, mP_p0, mP_p1, mP_p2, mP_p3, mP_p4, mP_pI)).bind fun ((mK_ks_173, mK_kk_174, mK_kv_175, mK_kt_176), (mN_nn_177, mN_nk_178, mN_na_179, mN_nb_180, mN_nc_181, mN_ns_182), (mP_pa_183, mP_pd_184, mP_pf_185, mP_pi_186, mP_pr_187, mP_pb_188, mP_pF_189, mP_pS_190, mP_p0_191, mP_p1_192, mP_p2_193, mP_p3_194, mP_p4_195, mP_pI_196)) => some ((mK_ks_173, mK_kk_174, mK_kv_175, mK_kt_176), (mN_nn_177, mN_nk_178, mN_na_179, mN_nb_180, mN_nc_181, mN_ns_182), (mP_pa_183, mP_pd_184, mP_pf_185, mP_pi_186, mP_pr_187, mP_pb_188, mP_pF_189, mP_pS_190, mP_p0_191, mP_p1_192, mP_p2_193, mP_p3_194, mP_p4_195, mP_pI_196)) else (f8_stepFactor v1 (mT_ty, mT_te) (mQ_qc, mQ_qb, mQ_qp, mQ_qr, mQ_qC) (mK_ks, mK_kk, mK_kv, mK_kt) (mN_nn, mN_nk, mN_na, mN_nb, mN_nc, mN_ns) (mP_pa, mP_pd, mP_pf, mP_pi, mP_pr, mP_pb, mP_pF, mP_pS, mP_p0, mP_p1, mP_p2, mP_p3, mP_p4, mP_pI)).bind fun ((mK_ks_2, mK_kk_3, mK_kv_4, mK_kt_5), (mN_nn_6, mN_nk_7, mN_na_8, mN_nb_9, mN_nc_10, mN_ns_11), (mP_pa_12, mP_pd_13, mP_pf_14, mP_pi_15, mP_pr_16, mP_pb_17, mP_pF_18, mP_pS_19, mP_p0_20, mP_p1_21, mP_p2_22, mP_p3_23, mP_p4_24, mP_pI_25)) => some ((mK_ks_2, mK_kk_3, mK_kv_4, mK_kt_5), (mN_nn_6, mN_nk_7, mN_na_8, mN_nb_9, mN_nc_10, mN_ns_11), (mP_pa_12, mP_pd_13, mP_pf_14, mP_pi_15, mP_pr_16, mP_pb_17, mP_pF_18, mP_pS_19, mP_p0_20, mP_p1_21, mP_p2_22, mP_p3_23, mP_p4_24, mP_pI_25))
set_option maxHeartbeats 4000000 in
set_option maxRecDepth 100000 in
theorem b8_step {V : EV} {p : Program} {l : Launch} {e : Env} {R : Room} {s : State} {m : MethodId} {args : Array Value} {below : List Frame} {meth : Method} {c : Code} {Q : State → Prop} {A : Nat → Prop} {kc ks : Nat} {ad : Nat → Nat} {mL : MdL} {mH : MdH} {mR : MdR} {mG : MdG} {mT_ty : Int32} {mT_te : Nat → Int32} {mQ_qc : Int32} {mQ_qb : Int32} {mQ_qp : Int32} {mQ_qr : Int32} {mQ_qC : Int32} {v1 : Int32} {mK_ks : Int32} {mK_kk : Nat → Int32} {mK_kv : Nat → Int32} {mK_kt : Nat → Int32} {mN_nn : Int32} {mN_nk : Nat → Int32} {mN_na : Nat → Int32} {mN_nb : Nat → Int32} {mN_nc : Nat → Int32} {mN_ns : Nat → Int32} {mP_pa : Int32} {mP_pd : Int32} {mP_pf : Int32} {mP_pi : Int32} {mP_pr : Int32} {mP_pb : Int32} {mP_pF : Nat → Int32} {mP_pS : Nat → Int32} {mP_p0 : Nat → Int32} {mP_p1 : Nat → Int32} {mP_p2 : Nat → Int32} {mP_p3 : Nat → Int32} {mP_p4 : Nat → Int32} {mP_pI : Nat → Int32} {N : Nat} {res : MdK × MdN × MdP} (C : CX V p l R s m args c A kc ks RX8 cX8_step 2 5 106) (hf : f8_step N v1 (mT_ty, mT_te) (mQ_qc, mQ_qb, mQ_qp, mQ_qr, mQ_qC) (mK_ks, mK_kk, mK_kv, mK_kt) (mN_nn, mN_nk, mN_na, mN_nb, mN_nc, mN_ns) (mP_pa, mP_pd, mP_pf, mP_pi, mP_pr, mP_pb, mP_pF, mP_pS, mP_p0, mP_p1, mP_p2, mP_p3, mP_p4, mP_pI) = some res) (K : RV V p l e R s m args below meth c Q A kc ks 2 cX8_step (wM V ad (mT_ty, mT_te) (mQ_qc, mQ_qb, mQ_qp, mQ_qr, mQ_qC) res.1 res.2.1 res.2.2 mL mH mR mG)) : WC V p l e R s m args below meth c Q A kc ks 2 (wM V ad (mT_ty, mT_te) (mQ_qc, mQ_qb, mQ_qp, mQ_qr, mQ_qC) (mK_ks, mK_kk, mK_kv, mK_kt) (mN_nn, mN_nk, mN_na, mN_nb, mN_nc, mN_ns) (mP_pa, mP_pd, mP_pf, mP_pi, mP_pr, mP_pb, mP_pF, mP_pS, mP_p0, mP_p1, mP_p2, mP_p3, mP_p4, mP_pI) mL mH mR mG) 0 [(0, .ref (ad 0)), (1, .int v1)] [] := by
  rw [f8_step] at hf
  refine k_aload_n C dX8_step_0 0 rfl ?_
  refine g8_37 C dX8_step_1 ?_
  refine k_iload_n C dX8_step_4 1 rfl ?_
  obtain ⟨hi, hf⟩ := gd_no hf
  refine lm10 C hi dX8_step_5 ?_
  have hx0 : ∀ n : Int32, (mP_pF v1.toNatClampNeg) = n → (mP_pF v1.toNatClampNeg).toInt = n.toInt := fun n h => by rw [h]
  by_cases hc : (mP_pF v1.toNatClampNeg) = (0 : Int32)
  · replace hf := (if_pos hc).symm.trans hf
    refine k_tableIn C 48 dX8_step_6 (by rw [hx0 _ hc]; decide) (by rw [hx0 _ hc]; decide) (by rw [hx0 _ hc]; rfl) (by decide) ?_
    refine k_aload_n C dX8_step_48 0 rfl ?_
    refine k_iload_n C dX8_step_49 1 rfl ?_
    obtain ⟨⟨⟨mN_nn_27, mN_nk_28, mN_na_29, mN_nb_30, mN_nc_31, mN_ns_32⟩, ⟨mP_pa_33, mP_pd_34, mP_pf_35, mP_pi_36, mP_pr_37, mP_pb_38, mP_pF_39, mP_pS_40, mP_p0_41, mP_p1_42, mP_p2_43, mP_p3_44, mP_p4_45, mP_pI_46⟩⟩, hq_26, hf⟩ := ob_el hf
    dsimp only at hf
    refine k_callVv C (c8_stepRow C.2.2.2.2.2.2.2.2.2.1 hq_26) cm8_185 ok8_stepRow (by decide) 0 rfl rfl rfl rfl (Nat.le_of_ble_eq_true rfl) dX8_step_50 ?_
    refine k_goto C 119 dX8_step_53 (by decide) ?_
    cases hf
    exact K _ _ dX8_step_119
  replace hf := (if_neg hc).symm.trans hf
  have hn0 := sw_ne hc
  by_cases hc : (mP_pF v1.toNatClampNeg) = (1 : Int32)
  · replace hf := (if_pos hc).symm.trans hf
    refine k_tableIn C 56 dX8_step_6 (by rw [hx0 _ hc]; decide) (by rw [hx0 _ hc]; decide) (by rw [hx0 _ hc]; rfl) (by decide) ?_
    refine k_aload_n C dX8_step_56 0 rfl ?_
    refine k_iload_n C dX8_step_57 1 rfl ?_
    obtain ⟨⟨⟨mK_ks_48, mK_kk_49, mK_kv_50, mK_kt_51⟩, ⟨mN_nn_52, mN_nk_53, mN_na_54, mN_nb_55, mN_nc_56, mN_ns_57⟩, ⟨mP_pa_58, mP_pd_59, mP_pf_60, mP_pi_61, mP_pr_62, mP_pb_63, mP_pF_64, mP_pS_65, mP_p0_66, mP_p1_67, mP_p2_68, mP_p3_69, mP_p4_70, mP_pI_71⟩⟩, hq_47, hf⟩ := ob_el hf
    dsimp only at hf
    refine k_callVv C (c8_stepStatement C.2.2.2.2.2.2.2.2.2.1 hq_47) cm8_188 ok8_stepStatement (by decide) 0 rfl rfl rfl rfl (Nat.le_of_ble_eq_true rfl) dX8_step_58 ?_
    refine k_goto C 119 dX8_step_61 (by decide) ?_
    cases hf
    exact K _ _ dX8_step_119
  replace hf := (if_neg hc).symm.trans hf
  have hn1 := sw_ne hc
  by_cases hc : (mP_pF v1.toNatClampNeg) = (2 : Int32)
  · replace hf := (if_pos hc).symm.trans hf
    refine k_tableIn C 64 dX8_step_6 (by rw [hx0 _ hc]; decide) (by rw [hx0 _ hc]; decide) (by rw [hx0 _ hc]; rfl) (by decide) ?_
    refine k_aload_n C dX8_step_64 0 rfl ?_
    refine k_iload_n C dX8_step_65 1 rfl ?_
    refine k_bipush (v := (124 : Int32)) C dX8_step_66 (by decide) ?_
    refine k_iconst (v := (3 : Int32)) C dX8_step_68 (by decide) ?_
    obtain ⟨⟨⟨mK_ks_73, mK_kk_74, mK_kv_75, mK_kt_76⟩, ⟨mN_nn_77, mN_nk_78, mN_na_79, mN_nb_80, mN_nc_81, mN_ns_82⟩, ⟨mP_pa_83, mP_pd_84, mP_pf_85, mP_pi_86, mP_pr_87, mP_pb_88, mP_pF_89, mP_pS_90, mP_p0_91, mP_p1_92, mP_p2_93, mP_p3_94, mP_p4_95, mP_pI_96⟩⟩, hq_72, hf⟩ := ob_el hf
    dsimp only at hf
    refine k_callVv C (c8_stepChain C.2.2.2.2.2.2.2.2.2.1 hq_72) cm8_191 ok8_stepChain (by decide) 0 rfl rfl rfl rfl (Nat.le_of_ble_eq_true rfl) dX8_step_69 ?_
    refine k_goto C 119 dX8_step_72 (by decide) ?_
    cases hf
    exact K _ _ dX8_step_119
  replace hf := (if_neg hc).symm.trans hf
  have hn2 := sw_ne hc
  by_cases hc : (mP_pF v1.toNatClampNeg) = (3 : Int32)
  · replace hf := (if_pos hc).symm.trans hf
    refine k_tableIn C 75 dX8_step_6 (by rw [hx0 _ hc]; decide) (by rw [hx0 _ hc]; decide) (by rw [hx0 _ hc]; rfl) (by decide) ?_
    refine k_aload_n C dX8_step_75 0 rfl ?_
    refine k_iload_n C dX8_step_76 1 rfl ?_
    refine k_bipush (v := (38 : Int32)) C dX8_step_77 (by decide) ?_
    refine k_iconst (v := (4 : Int32)) C dX8_step_79 (by decide) ?_
    obtain ⟨⟨⟨mK_ks_98, mK_kk_99, mK_kv_100, mK_kt_101⟩, ⟨mN_nn_102, mN_nk_103, mN_na_104, mN_nb_105, mN_nc_106, mN_ns_107⟩, ⟨mP_pa_108, mP_pd_109, mP_pf_110, mP_pi_111, mP_pr_112, mP_pb_113, mP_pF_114, mP_pS_115, mP_p0_116, mP_p1_117, mP_p2_118, mP_p3_119, mP_p4_120, mP_pI_121⟩⟩, hq_97, hf⟩ := ob_el hf
    dsimp only at hf
    refine k_callVv C (c8_stepChain C.2.2.2.2.2.2.2.2.2.1 hq_97) cm8_191 ok8_stepChain (by decide) 0 rfl rfl rfl rfl (Nat.le_of_ble_eq_true rfl) dX8_step_80 ?_
    refine k_goto C 119 dX8_step_83 (by decide) ?_
    cases hf
    exact K _ _ dX8_step_119
  replace hf := (if_neg hc).symm.trans hf
  have hn3 := sw_ne hc
  by_cases hc : (mP_pF v1.toNatClampNeg) = (4 : Int32)
  · replace hf := (if_pos hc).symm.trans hf
    refine k_tableIn C 86 dX8_step_6 (by rw [hx0 _ hc]; decide) (by rw [hx0 _ hc]; decide) (by rw [hx0 _ hc]; rfl) (by decide) ?_
    refine k_aload_n C dX8_step_86 0 rfl ?_
    refine k_iload_n C dX8_step_87 1 rfl ?_
    obtain ⟨⟨⟨mK_ks_123, mK_kk_124, mK_kv_125, mK_kt_126⟩, ⟨mN_nn_127, mN_nk_128, mN_na_129, mN_nb_130, mN_nc_131, mN_ns_132⟩, ⟨mP_pa_133, mP_pd_134, mP_pf_135, mP_pi_136, mP_pr_137, mP_pb_138, mP_pF_139, mP_pS_140, mP_p0_141, mP_p1_142, mP_p2_143, mP_p3_144, mP_p4_145, mP_pI_146⟩⟩, hq_122, hf⟩ := ob_el hf
    dsimp only at hf
    refine k_callVv C (c8_stepAtom C.2.2.2.2.2.2.2.2.2.1 hq_122) cm8_195 ok8_stepAtom (by decide) 0 rfl rfl rfl rfl (Nat.le_of_ble_eq_true rfl) dX8_step_88 ?_
    refine k_goto C 119 dX8_step_91 (by decide) ?_
    cases hf
    exact K _ _ dX8_step_119
  replace hf := (if_neg hc).symm.trans hf
  have hn4 := sw_ne hc
  by_cases hc : (mP_pF v1.toNatClampNeg) = (5 : Int32)
  · replace hf := (if_pos hc).symm.trans hf
    refine k_tableIn C 94 dX8_step_6 (by rw [hx0 _ hc]; decide) (by rw [hx0 _ hc]; decide) (by rw [hx0 _ hc]; rfl) (by decide) ?_
    refine k_aload_n C dX8_step_94 0 rfl ?_
    refine k_iload_n C dX8_step_95 1 rfl ?_
    refine k_bipush (v := (6 : Int32)) C dX8_step_96 (by decide) ?_
    obtain ⟨⟨⟨mK_ks_148, mK_kk_149, mK_kv_150, mK_kt_151⟩, ⟨mN_nn_152, mN_nk_153, mN_na_154, mN_nb_155, mN_nc_156, mN_ns_157⟩, ⟨mP_pa_158, mP_pd_159, mP_pf_160, mP_pi_161, mP_pr_162, mP_pb_163, mP_pF_164, mP_pS_165, mP_p0_166, mP_p1_167, mP_p2_168, mP_p3_169, mP_p4_170, mP_pI_171⟩⟩, hq_147, hf⟩ := ob_el hf
    dsimp only at hf
    refine k_callVv C (c8_stepSum C.2.2.2.2.2.2.2.2.2.1 hq_147) cm8_198 ok8_stepSum (by decide) 0 rfl rfl rfl rfl (Nat.le_of_ble_eq_true rfl) dX8_step_98 ?_
    refine k_goto C 119 dX8_step_101 (by decide) ?_
    cases hf
    exact K _ _ dX8_step_119
  replace hf := (if_neg hc).symm.trans hf
  have hn5 := sw_ne hc
  by_cases hc : (mP_pF v1.toNatClampNeg) = (6 : Int32)
  · replace hf := (if_pos hc).symm.trans hf
    refine k_tableIn C 104 dX8_step_6 (by rw [hx0 _ hc]; decide) (by rw [hx0 _ hc]; decide) (by rw [hx0 _ hc]; rfl) (by decide) ?_
    refine k_aload_n C dX8_step_104 0 rfl ?_
    refine k_iload_n C dX8_step_105 1 rfl ?_
    refine k_bipush (v := (7 : Int32)) C dX8_step_106 (by decide) ?_
    obtain ⟨⟨⟨mK_ks_173, mK_kk_174, mK_kv_175, mK_kt_176⟩, ⟨mN_nn_177, mN_nk_178, mN_na_179, mN_nb_180, mN_nc_181, mN_ns_182⟩, ⟨mP_pa_183, mP_pd_184, mP_pf_185, mP_pi_186, mP_pr_187, mP_pb_188, mP_pF_189, mP_pS_190, mP_p0_191, mP_p1_192, mP_p2_193, mP_p3_194, mP_p4_195, mP_pI_196⟩⟩, hq_172, hf⟩ := ob_el hf
    dsimp only at hf
    refine k_callVv C (c8_stepSum C.2.2.2.2.2.2.2.2.2.1 hq_172) cm8_198 ok8_stepSum (by decide) 0 rfl rfl rfl rfl (Nat.le_of_ble_eq_true rfl) dX8_step_108 ?_
    refine k_goto C 119 dX8_step_111 (by decide) ?_
    cases hf
    exact K _ _ dX8_step_119
  replace hf := (if_neg hc).symm.trans hf
  have hn6 := sw_ne hc
  have kd_197 : WC V p l e R s m args below meth c Q A kc ks 2 (wM V ad (mT_ty, mT_te) (mQ_qc, mQ_qb, mQ_qp, mQ_qr, mQ_qC) (mK_ks, mK_kk, mK_kv, mK_kt) (mN_nn, mN_nk, mN_na, mN_nb, mN_nc, mN_ns) (mP_pa, mP_pd, mP_pf, mP_pi, mP_pr, mP_pb, mP_pF, mP_pS, mP_p0, mP_p1, mP_p2, mP_p3, mP_p4, mP_pI) mL mH mR mG) 114 [(0, .ref (ad 0)), (1, .int v1)] [] := by
    refine k_aload_n C dX8_step_114 0 rfl ?_
    refine k_iload_n C dX8_step_115 1 rfl ?_
    obtain ⟨⟨⟨mK_ks_2, mK_kk_3, mK_kv_4, mK_kt_5⟩, ⟨mN_nn_6, mN_nk_7, mN_na_8, mN_nb_9, mN_nc_10, mN_ns_11⟩, ⟨mP_pa_12, mP_pd_13, mP_pf_14, mP_pi_15, mP_pr_16, mP_pb_17, mP_pF_18, mP_pS_19, mP_p0_20, mP_p1_21, mP_p2_22, mP_p3_23, mP_p4_24, mP_pI_25⟩⟩, hq_1, hf⟩ := ob_el hf
    dsimp only at hf
    refine k_callVv C (c8_stepFactor C.2.2.2.2.2.2.2.2.2.1 hq_1) cm8_202 ok8_stepFactor (by decide) 0 rfl rfl rfl rfl (Nat.le_of_ble_eq_true rfl) dX8_step_116 ?_
    cases hf
    exact K _ _ dX8_step_119
  have hr : (mP_pF v1.toNatClampNeg).toInt < 0 ∨ 6 < (mP_pF v1.toNatClampNeg).toInt := by
    have q0 : ¬ (mP_pF v1.toNatClampNeg).toInt = 0 := hn0 0 (by decide)
    have q1 : ¬ (mP_pF v1.toNatClampNeg).toInt = 1 := hn1 1 (by decide)
    have q2 : ¬ (mP_pF v1.toNatClampNeg).toInt = 2 := hn2 2 (by decide)
    have q3 : ¬ (mP_pF v1.toNatClampNeg).toInt = 3 := hn3 3 (by decide)
    have q4 : ¬ (mP_pF v1.toNatClampNeg).toInt = 4 := hn4 4 (by decide)
    have q5 : ¬ (mP_pF v1.toNatClampNeg).toInt = 5 := hn5 5 (by decide)
    have q6 : ¬ (mP_pF v1.toNatClampNeg).toInt = 6 := hn6 6 (by decide)
    omega
  rcases hr with hr | hr
  · exact k_tableOut C 114 dX8_step_6 (Or.inl hr) (by decide) kd_197
  · exact k_tableOut C 114 dX8_step_6 (Or.inr hr) (by decide) kd_197
theorem c8_step {V : EV} {l : Launch} (hl0 : l.stackTraces = false) {ad : Nat → Nat} {mL : MdL} {mH : MdH} {mR : MdR} {mG : MdG} {mT_ty : Int32} {mT_te : Nat → Int32} {mQ_qc : Int32} {mQ_qb : Int32} {mQ_qp : Int32} {mQ_qr : Int32} {mQ_qC : Int32} {v1 : Int32} {mK_ks : Int32} {mK_kk : Nat → Int32} {mK_kv : Nat → Int32} {mK_kt : Nat → Int32} {mN_nn : Int32} {mN_nk : Nat → Int32} {mN_na : Nat → Int32} {mN_nb : Nat → Int32} {mN_nc : Nat → Int32} {mN_ns : Nat → Int32} {mP_pa : Int32} {mP_pd : Int32} {mP_pf : Int32} {mP_pi : Int32} {mP_pr : Int32} {mP_pb : Int32} {mP_pF : Nat → Int32} {mP_pS : Nat → Int32} {mP_p0 : Nat → Int32} {mP_p1 : Nat → Int32} {mP_p2 : Nat → Int32} {mP_p3 : Nat → Int32} {mP_p4 : Nat → Int32} {mP_pI : Nat → Int32} {N : Nat} {res : MdK × MdN × MdP} (hf : f8_step N v1 (mT_ty, mT_te) (mQ_qc, mQ_qb, mQ_qp, mQ_qr, mQ_qC) (mK_ks, mK_kk, mK_kv, mK_kt) (mN_nn, mN_nk, mN_na, mN_nb, mN_nc, mN_ns) (mP_pa, mP_pd, mP_pf, mP_pi, mP_pr, mP_pb, mP_pF, mP_pS, mP_p0, mP_p1, mP_p2, mP_p3, mP_p4, mP_pI) = some res) : MV V l yX8_step cX8_step 2 5 106 [.ref (ad 0), .int v1] (wM V ad (mT_ty, mT_te) (mQ_qc, mQ_qb, mQ_qp, mQ_qr, mQ_qC) (mK_ks, mK_kk, mK_kv, mK_kt) (mN_nn, mN_nk, mN_na, mN_nb, mN_nc, mN_ns) (mP_pa, mP_pd, mP_pf, mP_pi, mP_pr, mP_pb, mP_pF, mP_pS, mP_p0, mP_p1, mP_p2, mP_p3, mP_p4, mP_pI) mL mH mR mG) (wM V ad (mT_ty, mT_te) (mQ_qc, mQ_qb, mQ_qp, mQ_qr, mQ_qC) res.1 res.2.1 res.2.2 mL mH mR mG) :=
  mv_of hl0 (by decide +kernel) (Nat.le_of_ble_eq_true rfl) (fun p e R s m args below meth c Q A C K => b8_step C hf K)

theorem cm8_175 : ∀ a ∈ wsCV RX8 175 RX8 yX8_step cX8_step 2 none, a ∈ GW := by
  unfold wsCV
  exact (List.forall_mem_cons.mpr ⟨(gw_5 (i := 215) (by decide +kernel) rfl), (List.forall_mem_cons.mpr ⟨(gw_5 (i := 217) (by decide +kernel) rfl), (List.forall_mem_cons.mpr ⟨(gw_p (q := ((yX8_step, 63) : MethodName × Nat)) (List.mem_append_right _ (List.mem_append_right _ (List.mem_append_right _ (List.mem_append_right _ (List.mem_append_left _ (List.mem_of_getElem? (i := 0) (by decide +kernel))))))) rfl), (List.forall_mem_cons.mpr ⟨(gw_1 (i := 9) (by decide +kernel) rfl), (List.forall_mem_cons.mpr ⟨(gw_5 (i := 218) (by decide +kernel) rfl), (List.forall_mem_nil _)⟩)⟩)⟩)⟩)⟩)
theorem ok8_read : okCV RX8 yX8_read 0 := by unfold okCV; decide +kernel
def f8_read_L52 (k79 : MdQ → MdK → MdN → MdP → Option (Int32 × MdQ × MdK × MdN × MdP)) (N : Nat) (mT_ty : Int32) (mT_te : Nat → Int32) : Nat → MdQ → MdK → MdN → MdP → Option (Int32 × MdQ × MdK × MdN × MdP)
  | 0, _, _, _, _ => none
  | n + 1, (mQ_qc, mQ_qb, mQ_qp, mQ_qr, mQ_qC), (mK_ks, mK_kk, mK_kv, mK_kt), (mN_nn, mN_nk, mN_na, mN_nb, mN_nc, mN_ns), (mP_pa, mP_pd, mP_pf, mP_pi, mP_pr, mP_pb, mP_pF, mP_pS, mP_p0, mP_p1, mP_p2, mP_p3, mP_p4, mP_pI) =>
    if mP_pf ≤ 0 then k79 (mQ_qc, mQ_qb, mQ_qp, mQ_qr, mQ_qC) (mK_ks, mK_kk, mK_kv, mK_kt) (mN_nn, mN_nk, mN_na, mN_nb, mN_nc, mN_ns) (mP_pa, mP_pd, mP_pf, mP_pi, mP_pr, mP_pb, mP_pF, mP_pS, mP_p0, mP_p1, mP_p2, mP_p3, mP_p4, mP_pI) else if mP_pb = 0 then (f8_step N (mP_pf - (1 : Int32)) (mT_ty, mT_te) (mQ_qc, mQ_qb, mQ_qp, mQ_qr, mQ_qC) (mK_ks, mK_kk, mK_kv, mK_kt) (mN_nn, mN_nk, mN_na, mN_nb, mN_nc, mN_ns) (mP_pa, mP_pd, mP_pf, mP_pi, mP_pr, mP_pb, mP_pF, mP_pS, mP_p0, mP_p1, mP_p2, mP_p3, mP_p4, mP_pI)).bind fun ((mK_ks_17, mK_kk_18, mK_kv_19, mK_kt_20), (mN_nn_21, mN_nk_22, mN_na_23, mN_nb_24, mN_nc_25, mN_ns_26), (mP_pa_27, mP_pd_28, mP_pf_29, mP_pi_30, mP_pr_31, mP_pb_32, mP_pF_33, mP_pS_34, mP_p0_35, mP_p1_36, mP_p2_37, mP_p3_38, mP_p4_39, mP_pI_40)) => f8_read_L52 k79 N mT_ty mT_te n (mQ_qc, mQ_qb, mQ_qp, mQ_qr, mQ_qC) (mK_ks_17, mK_kk_18, mK_kv_19, mK_kt_20) (mN_nn_21, mN_nk_22, mN_na_23, mN_nb_24, mN_nc_25, mN_ns_26) (mP_pa_27, mP_pd_28, mP_pf_29, mP_pi_30, mP_pr_31, mP_pb_32, mP_pF_33, mP_pS_34, mP_p0_35, mP_p1_36, mP_p2_37, mP_p3_38, mP_p4_39, mP_pI_40) else k79 (mQ_qc, mQ_qb, mQ_qp, mQ_qr, mQ_qC) (mK_ks, mK_kk, mK_kv, mK_kt) (mN_nn, mN_nk, mN_na, mN_nb, mN_nc, mN_ns) (mP_pa, mP_pd, mP_pf, mP_pi, mP_pr, mP_pb, mP_pF, mP_pS, mP_p0, mP_p1, mP_p2, mP_p3, mP_p4, mP_pI)

def f8_read_L79  (N : Nat) (mT_ty : Int32) (mT_te : Nat → Int32) : MdQ → MdK → MdN → MdP → Option (Int32 × MdQ × MdK × MdN × MdP)
  | (mQ_qc, mQ_qb, mQ_qp, mQ_qr, mQ_qC), (mK_ks, mK_kk, mK_kv, mK_kt), (mN_nn, mN_nk, mN_na, mN_nb, mN_nc, mN_ns), (mP_pa, mP_pd, mP_pf, mP_pi, mP_pr, mP_pb, mP_pF, mP_pS, mP_p0, mP_p1, mP_p2, mP_p3, mP_p4, mP_pI) =>
    (f8_emit (14 : Int32) (0 : Int32) (-1 : Int32) (mQ_qc, mQ_qb, mQ_qp, mQ_qr, mQ_qC) (mK_ks, mK_kk, mK_kv, mK_kt)).bind fun (r_43, (mK_ks_44, mK_kk_45, mK_kv_46, mK_kt_47)) => if mP_pb = 0 then if mP_pa = mT_ty then some ((1 : Int32), (mQ_qc, mQ_qb, mQ_qp, mP_pr, mQ_qC), (mK_ks_44, mK_kk_45, mK_kv_46, mK_kt_47), (mN_nn, mN_nk, mN_na, mN_nb, mN_nc, mN_ns), (mP_pa, mP_pd, mP_pf, mP_pi, mP_pr, mP_pb, mP_pF, mP_pS, mP_p0, mP_p1, mP_p2, mP_p3, mP_p4, mP_pI)) else some ((0 : Int32), (mQ_qc, mQ_qb, mQ_qp, mP_pr, mQ_qC), (mK_ks_44, mK_kk_45, mK_kv_46, mK_kt_47), (mN_nn, mN_nk, mN_na, mN_nb, mN_nc, mN_ns), (mP_pa, mP_pd, mP_pf, mP_pi, mP_pr, mP_pb, mP_pF, mP_pS, mP_p0, mP_p1, mP_p2, mP_p3, mP_p4, mP_pI)) else some ((0 : Int32), (mQ_qc, mQ_qb, mQ_qp, mP_pr, mQ_qC), (mK_ks_44, mK_kk_45, mK_kv_46, mK_kt_47), (mN_nn, mN_nk, mN_na, mN_nb, mN_nc, mN_ns), (mP_pa, mP_pd, mP_pf, mP_pi, mP_pr, mP_pb, mP_pF, mP_pS, mP_p0, mP_p1, mP_p2, mP_p3, mP_p4, mP_pI))
def f8_read (N : Nat)  : MdT → MdQ → MdK → MdN → MdP → Option (Int32 × MdQ × MdK × MdN × MdP)
  | (mT_ty, mT_te), (mQ_qc, mQ_qb, mQ_qp, mQ_qr, mQ_qC), (mK_ks, mK_kk, mK_kv, mK_kt), (mN_nn, mN_nk, mN_na, mN_nb, mN_nc, mN_ns), (mP_pa, mP_pd, mP_pf, mP_pi, mP_pr, mP_pb, mP_pF, mP_pS, mP_p0, mP_p1, mP_p2, mP_p3, mP_p4, mP_pI) =>
    (f8_push (0 : Int32) ((0 : Int32), (0 : Int32), (0 : Int32), (0 : Int32), mP_pr, (0 : Int32), mP_pF, mP_pS, mP_p0, mP_p1, mP_p2, mP_p3, mP_p4, mP_pI)).bind fun (mP_pa_2, mP_pd_3, mP_pf_4, mP_pi_5, mP_pr_6, mP_pb_7, mP_pF_8, mP_pS_9, mP_p0_10, mP_p1_11, mP_p2_12, mP_p3_13, mP_p4_14, mP_pI_15) => f8_read_L52 (fun (mQ_qc_41, mQ_qb_41, mQ_qp_41, mQ_qr_41, mQ_qC_41) (mK_ks_41, mK_kk_41, mK_kv_41, mK_kt_41) (mN_nn_41, mN_nk_41, mN_na_41, mN_nb_41, mN_nc_41, mN_ns_41) (mP_pa_41, mP_pd_41, mP_pf_41, mP_pi_41, mP_pr_41, mP_pb_41, mP_pF_41, mP_pS_41, mP_p0_41, mP_p1_41, mP_p2_41, mP_p3_41, mP_p4_41, mP_pI_41) => f8_read_L79 N mT_ty mT_te (mQ_qc_41, mQ_qb_41, mQ_qp_41, mQ_qr_41, mQ_qC_41) (mK_ks_41, mK_kk_41, mK_kv_41, mK_kt_41) (mN_nn_41, mN_nk_41, mN_na_41, mN_nb_41, mN_nc_41, mN_ns_41) (mP_pa_41, mP_pd_41, mP_pf_41, mP_pi_41, mP_pr_41, mP_pb_41, mP_pF_41, mP_pS_41, mP_p0_41, mP_p1_41, mP_p2_41, mP_p3_41, mP_p4_41, mP_pI_41)) N mT_ty mT_te N (mQ_qc, mQ_qb, ((256 : Int32) - mQ_qb), mQ_qr, mQ_qC) ((0 : Int32), mK_kk, mK_kv, mK_kt) ((0 : Int32), mN_nk, mN_na, mN_nb, mN_nc, mN_ns) (mP_pa_2, mP_pd_3, mP_pf_4, mP_pi_5, mP_pr_6, mP_pb_7, mP_pF_8, mP_pS_9, mP_p0_10, mP_p1_11, mP_p2_12, mP_p3_13, mP_p4_14, mP_pI_15)
set_option maxHeartbeats 4000000 in
set_option maxRecDepth 100000 in
theorem w8_read_L52 {V : EV} {p : Program} {l : Launch} {e : Env} {R : Room} {s : State} {m : MethodId} {args : Array Value} {below : List Frame} {meth : Method} {c : Code} {Q : State → Prop} {A : Nat → Prop} {kc ks : Nat} {ad : Nat → Nat} {mL : MdL} {mH : MdH} {mR : MdR} {mG : MdG} {mT_ty : Int32} {mT_te : Nat → Int32} {k79 : MdQ → MdK → MdN → MdP → Option (Int32 × MdQ × MdK × MdN × MdP)} {N : Nat} {res : Int32 × MdQ × MdK × MdN × MdP} (C : CX V p l R s m args c A kc ks RX8 cX8_read 1 6 127) (K : RI V p l e R s m args below meth c Q A kc ks 1 cX8_read .boolean res.1 (wM V ad (mT_ty, mT_te) res.2.1 res.2.2.1 res.2.2.2.1 res.2.2.2.2 mL mH mR mG)) (hk79 : ∀  (mQ_qc : Int32) (mQ_qb : Int32) (mQ_qp : Int32) (mQ_qr : Int32) (mQ_qC : Int32) (mK_ks : Int32) (mK_kk : Nat → Int32) (mK_kv : Nat → Int32) (mK_kt : Nat → Int32) (mN_nn : Int32) (mN_nk : Nat → Int32) (mN_na : Nat → Int32) (mN_nb : Nat → Int32) (mN_nc : Nat → Int32) (mN_ns : Nat → Int32) (mP_pa : Int32) (mP_pd : Int32) (mP_pf : Int32) (mP_pi : Int32) (mP_pr : Int32) (mP_pb : Int32) (mP_pF : Nat → Int32) (mP_pS : Nat → Int32) (mP_p0 : Nat → Int32) (mP_p1 : Nat → Int32) (mP_p2 : Nat → Int32) (mP_p3 : Nat → Int32) (mP_p4 : Nat → Int32) (mP_pI : Nat → Int32), k79 (mQ_qc, mQ_qb, mQ_qp, mQ_qr, mQ_qC) (mK_ks, mK_kk, mK_kv, mK_kt) (mN_nn, mN_nk, mN_na, mN_nb, mN_nc, mN_ns) (mP_pa, mP_pd, mP_pf, mP_pi, mP_pr, mP_pb, mP_pF, mP_pS, mP_p0, mP_p1, mP_p2, mP_p3, mP_p4, mP_pI) = some res → WC V p l e R s m args below meth c Q A kc ks 1 (wM V ad (mT_ty, mT_te) (mQ_qc, mQ_qb, mQ_qp, mQ_qr, mQ_qC) (mK_ks, mK_kk, mK_kv, mK_kt) (mN_nn, mN_nk, mN_na, mN_nb, mN_nc, mN_ns) (mP_pa, mP_pd, mP_pf, mP_pi, mP_pr, mP_pb, mP_pF, mP_pS, mP_p0, mP_p1, mP_p2, mP_p3, mP_p4, mP_pI) mL mH mR mG) 79 [(0, .ref (ad 0))] []) : ∀ (n : Nat)  (mQ_qc : Int32) (mQ_qb : Int32) (mQ_qp : Int32) (mQ_qr : Int32) (mQ_qC : Int32) (mK_ks : Int32) (mK_kk : Nat → Int32) (mK_kv : Nat → Int32) (mK_kt : Nat → Int32) (mN_nn : Int32) (mN_nk : Nat → Int32) (mN_na : Nat → Int32) (mN_nb : Nat → Int32) (mN_nc : Nat → Int32) (mN_ns : Nat → Int32) (mP_pa : Int32) (mP_pd : Int32) (mP_pf : Int32) (mP_pi : Int32) (mP_pr : Int32) (mP_pb : Int32) (mP_pF : Nat → Int32) (mP_pS : Nat → Int32) (mP_p0 : Nat → Int32) (mP_p1 : Nat → Int32) (mP_p2 : Nat → Int32) (mP_p3 : Nat → Int32) (mP_p4 : Nat → Int32) (mP_pI : Nat → Int32), f8_read_L52 k79 N mT_ty mT_te n (mQ_qc, mQ_qb, mQ_qp, mQ_qr, mQ_qC) (mK_ks, mK_kk, mK_kv, mK_kt) (mN_nn, mN_nk, mN_na, mN_nb, mN_nc, mN_ns) (mP_pa, mP_pd, mP_pf, mP_pi, mP_pr, mP_pb, mP_pF, mP_pS, mP_p0, mP_p1, mP_p2, mP_p3, mP_p4, mP_pI) = some res → WC V p l e R s m args below meth c Q A kc ks 1 (wM V ad (mT_ty, mT_te) (mQ_qc, mQ_qb, mQ_qp, mQ_qr, mQ_qC) (mK_ks, mK_kk, mK_kv, mK_kt) (mN_nn, mN_nk, mN_na, mN_nb, mN_nc, mN_ns) (mP_pa, mP_pd, mP_pf, mP_pi, mP_pr, mP_pb, mP_pF, mP_pS, mP_p0, mP_p1, mP_p2, mP_p3, mP_p4, mP_pI) mL mH mR mG) 52 [(0, .ref (ad 0))] [] := by
  intro n
  induction n with
  | zero => intro _ _ _ _ _ _ _ _ _ _ _ _ _ _ _ _ _ _ _ _ _ _ _ _ _ _ _ _ _ hf; exact nomatch (show none = some res from hf)
  | succ n ih =>
    intro mQ_qc mQ_qb mQ_qp mQ_qr mQ_qC mK_ks mK_kk mK_kv mK_kt mN_nn mN_nk mN_na mN_nb mN_nc mN_ns mP_pa mP_pd mP_pf mP_pi mP_pr mP_pb mP_pF mP_pS mP_p0 mP_p1 mP_p2 mP_p3 mP_p4 mP_pI hf
    rw [f8_read_L52] at hf
    refine k_aload_n C dX8_read_52 0 rfl ?_
    refine g8_159 C dX8_read_53 ?_
    refine k_if_le C 79 dX8_read_56 (by decide) (fun hc => ?_) (fun hc => ?_)
    · replace hf := (if_pos hc).symm.trans hf
      exact hk79 _ _ _ _ _ _ _ _ _ _ _ _ _ _ _ _ _ _ _ _ _ _ _ _ _ _ _ _ _ hf
    · replace hf := (if_neg hc).symm.trans hf
      refine k_aload_n C dX8_read_59 0 rfl ?_
      refine g8_135 C dX8_read_60 ?_
      refine k_if_ne C 79 dX8_read_63 (by decide) (fun hc => ?_) (fun hc => ?_)
      · replace hf := (if_neg hc).symm.trans hf
        exact hk79 _ _ _ _ _ _ _ _ _ _ _ _ _ _ _ _ _ _ _ _ _ _ _ _ _ _ _ _ _ hf
      · replace hf := (if_pos hc).symm.trans hf
        refine k_aload_n C dX8_read_66 0 rfl ?_
        refine k_aload_n C dX8_read_67 0 rfl ?_
        refine g8_159 C dX8_read_68 ?_
        refine k_iconst (v := (1 : Int32)) C dX8_read_71 (by decide) ?_
        refine k_isub C dX8_read_72 ?_
        obtain ⟨⟨⟨mK_ks_17, mK_kk_18, mK_kv_19, mK_kt_20⟩, ⟨mN_nn_21, mN_nk_22, mN_na_23, mN_nb_24, mN_nc_25, mN_ns_26⟩, ⟨mP_pa_27, mP_pd_28, mP_pf_29, mP_pi_30, mP_pr_31, mP_pb_32, mP_pF_33, mP_pS_34, mP_p0_35, mP_p1_36, mP_p2_37, mP_p3_38, mP_p4_39, mP_pI_40⟩⟩, hq_16, hf⟩ := ob_el hf
        dsimp only at hf
        refine k_callVv C (c8_step C.2.2.2.2.2.2.2.2.2.1 hq_16) cm8_175 ok8_step (by decide) 0 rfl rfl rfl rfl (Nat.le_of_ble_eq_true rfl) dX8_read_73 ?_
        refine k_goto C 52 dX8_read_76 (by decide) ?_
        exact ih _ _ _ _ _ _ _ _ _ _ _ _ _ _ _ _ _ _ _ _ _ _ _ _ _ _ _ _ _ hf

set_option maxHeartbeats 4000000 in
set_option maxRecDepth 100000 in
theorem w8_read_L79 {V : EV} {p : Program} {l : Launch} {e : Env} {R : Room} {s : State} {m : MethodId} {args : Array Value} {below : List Frame} {meth : Method} {c : Code} {Q : State → Prop} {A : Nat → Prop} {kc ks : Nat} {ad : Nat → Nat} {mL : MdL} {mH : MdH} {mR : MdR} {mG : MdG} {mT_ty : Int32} {mT_te : Nat → Int32}  {N : Nat} {res : Int32 × MdQ × MdK × MdN × MdP} (C : CX V p l R s m args c A kc ks RX8 cX8_read 1 6 127) (K : RI V p l e R s m args below meth c Q A kc ks 1 cX8_read .boolean res.1 (wM V ad (mT_ty, mT_te) res.2.1 res.2.2.1 res.2.2.2.1 res.2.2.2.2 mL mH mR mG))  : ∀  (mQ_qc : Int32) (mQ_qb : Int32) (mQ_qp : Int32) (mQ_qr : Int32) (mQ_qC : Int32) (mK_ks : Int32) (mK_kk : Nat → Int32) (mK_kv : Nat → Int32) (mK_kt : Nat → Int32) (mN_nn : Int32) (mN_nk : Nat → Int32) (mN_na : Nat → Int32) (mN_nb : Nat → Int32) (mN_nc : Nat → Int32) (mN_ns : Nat → Int32) (mP_pa : Int32) (mP_pd : Int32) (mP_pf : Int32) (mP_pi : Int32) (mP_pr : Int32) (mP_pb : Int32) (mP_pF : Nat → Int32) (mP_pS : Nat → Int32) (mP_p0 : Nat → Int32) (mP_p1 : Nat → Int32) (mP_p2 : Nat → Int32) (mP_p3 : Nat → Int32) (mP_p4 : Nat → Int32) (mP_pI : Nat → Int32), f8_read_L79 N mT_ty mT_te (mQ_qc, mQ_qb, mQ_qp, mQ_qr, mQ_qC) (mK_ks, mK_kk, mK_kv, mK_kt) (mN_nn, mN_nk, mN_na, mN_nb, mN_nc, mN_ns) (mP_pa, mP_pd, mP_pf, mP_pi, mP_pr, mP_pb, mP_pF, mP_pS, mP_p0, mP_p1, mP_p2, mP_p3, mP_p4, mP_pI) = some res → WC V p l e R s m args below meth c Q A kc ks 1 (wM V ad (mT_ty, mT_te) (mQ_qc, mQ_qb, mQ_qp, mQ_qr, mQ_qC) (mK_ks, mK_kk, mK_kv, mK_kt) (mN_nn, mN_nk, mN_na, mN_nb, mN_nc, mN_ns) (mP_pa, mP_pd, mP_pf, mP_pi, mP_pr, mP_pb, mP_pF, mP_pS, mP_p0, mP_p1, mP_p2, mP_p3, mP_p4, mP_pI) mL mH mR mG) 79 [(0, .ref (ad 0))] [] := by
  intro mQ_qc mQ_qb mQ_qp mQ_qr mQ_qC mK_ks mK_kk mK_kv mK_kt mN_nn mN_nk mN_na mN_nb mN_nc mN_ns mP_pa mP_pd mP_pf mP_pi mP_pr mP_pb mP_pF mP_pS mP_p0 mP_p1 mP_p2 mP_p3 mP_p4 mP_pI hf
  rw [f8_read_L79] at hf
  refine k_aload_n C dX8_read_79 0 rfl ?_
  refine k_bipush (v := (14 : Int32)) C dX8_read_80 (by decide) ?_
  refine k_iconst (v := (0 : Int32)) C dX8_read_82 (by decide) ?_
  refine k_iconst (v := (-1 : Int32)) C dX8_read_83 (by decide) ?_
  obtain ⟨⟨r_43, ⟨mK_ks_44, mK_kk_45, mK_kv_46, mK_kt_47⟩⟩, hq_42, hf⟩ := ob_el hf
  dsimp only at hf
  refine k_callVi C (c8_emit C.2.2.2.2.2.2.2.2.2.1 hq_42) cm8_178 ok8_emit (by decide) 0 rfl rfl rfl rfl (Nat.le_of_ble_eq_true rfl) dX8_read_84 ?_
  refine k_pop C dX8_read_87 rfl ?_
  refine k_aload_n C dX8_read_88 0 rfl ?_
  refine k_aload_n C dX8_read_89 0 rfl ?_
  refine g8_162 C dX8_read_90 ?_
  refine p8_182 C dX8_read_93 ?_
  refine k_aload_n C dX8_read_96 0 rfl ?_
  refine g8_135 C dX8_read_97 ?_
  refine k_if_ne C 118 dX8_read_100 (by decide) (fun hc => ?_) (fun hc => ?_)
  · replace hf := (if_neg hc).symm.trans hf
    refine k_iconst (v := (0 : Int32)) C dX8_read_118 (by decide) ?_
    cases hf
    exact K _ _ dX8_read_119 (nar_b (Or.inl rfl))
  · replace hf := (if_pos hc).symm.trans hf
    refine k_aload_n C dX8_read_103 0 rfl ?_
    refine g8_132 C dX8_read_104 ?_
    refine k_aload_n C dX8_read_107 0 rfl ?_
    refine g8_129 C dX8_read_108 ?_
    refine k_icmp_ne C 118 dX8_read_111 (by decide) (fun hc => ?_) (fun hc => ?_)
    · replace hf := (if_neg hc).symm.trans hf
      refine k_iconst (v := (0 : Int32)) C dX8_read_118 (by decide) ?_
      cases hf
      exact K _ _ dX8_read_119 (nar_b (Or.inl rfl))
    · replace hf := (if_pos hc).symm.trans hf
      refine k_iconst (v := (1 : Int32)) C dX8_read_114 (by decide) ?_
      refine k_goto C 119 dX8_read_115 (by decide) ?_
      cases hf
      exact K _ _ dX8_read_119 (nar_b (Or.inr rfl))
set_option maxHeartbeats 4000000 in
set_option maxRecDepth 100000 in
theorem b8_read {V : EV} {p : Program} {l : Launch} {e : Env} {R : Room} {s : State} {m : MethodId} {args : Array Value} {below : List Frame} {meth : Method} {c : Code} {Q : State → Prop} {A : Nat → Prop} {kc ks : Nat} {ad : Nat → Nat} {mL : MdL} {mH : MdH} {mR : MdR} {mG : MdG} {mT_ty : Int32} {mT_te : Nat → Int32} {mQ_qc : Int32} {mQ_qb : Int32} {mQ_qp : Int32} {mQ_qr : Int32} {mQ_qC : Int32} {mK_ks : Int32} {mK_kk : Nat → Int32} {mK_kv : Nat → Int32} {mK_kt : Nat → Int32} {mN_nn : Int32} {mN_nk : Nat → Int32} {mN_na : Nat → Int32} {mN_nb : Nat → Int32} {mN_nc : Nat → Int32} {mN_ns : Nat → Int32} {mP_pa : Int32} {mP_pd : Int32} {mP_pf : Int32} {mP_pi : Int32} {mP_pr : Int32} {mP_pb : Int32} {mP_pF : Nat → Int32} {mP_pS : Nat → Int32} {mP_p0 : Nat → Int32} {mP_p1 : Nat → Int32} {mP_p2 : Nat → Int32} {mP_p3 : Nat → Int32} {mP_p4 : Nat → Int32} {mP_pI : Nat → Int32} {N : Nat} {res : Int32 × MdQ × MdK × MdN × MdP} (C : CX V p l R s m args c A kc ks RX8 cX8_read 1 6 127) (hf : f8_read N (mT_ty, mT_te) (mQ_qc, mQ_qb, mQ_qp, mQ_qr, mQ_qC) (mK_ks, mK_kk, mK_kv, mK_kt) (mN_nn, mN_nk, mN_na, mN_nb, mN_nc, mN_ns) (mP_pa, mP_pd, mP_pf, mP_pi, mP_pr, mP_pb, mP_pF, mP_pS, mP_p0, mP_p1, mP_p2, mP_p3, mP_p4, mP_pI) = some res) (K : RI V p l e R s m args below meth c Q A kc ks 1 cX8_read .boolean res.1 (wM V ad (mT_ty, mT_te) res.2.1 res.2.2.1 res.2.2.2.1 res.2.2.2.2 mL mH mR mG)) : WC V p l e R s m args below meth c Q A kc ks 1 (wM V ad (mT_ty, mT_te) (mQ_qc, mQ_qb, mQ_qp, mQ_qr, mQ_qC) (mK_ks, mK_kk, mK_kv, mK_kt) (mN_nn, mN_nk, mN_na, mN_nb, mN_nc, mN_ns) (mP_pa, mP_pd, mP_pf, mP_pi, mP_pr, mP_pb, mP_pF, mP_pS, mP_p0, mP_p1, mP_p2, mP_p3, mP_p4, mP_pI) mL mH mR mG) 0 [(0, .ref (ad 0))] [] := by
  rw [f8_read] at hf
  refine k_aload_n C dX8_read_0 0 rfl ?_
  refine k_sipush (v := (256 : Int32)) C dX8_read_1 (by decide) ?_
  refine k_aload_n C dX8_read_4 0 rfl ?_
  refine g8_165 C dX8_read_5 ?_
  refine k_isub C dX8_read_8 ?_
  refine p8_150 C dX8_read_9 ?_
  refine k_aload_n C dX8_read_12 0 rfl ?_
  refine k_iconst (v := (0 : Int32)) C dX8_read_13 (by decide) ?_
  refine p8_153 C dX8_read_14 ?_
  refine k_aload_n C dX8_read_17 0 rfl ?_
  refine k_iconst (v := (0 : Int32)) C dX8_read_18 (by decide) ?_
  refine p8_156 C dX8_read_19 ?_
  refine k_aload_n C dX8_read_22 0 rfl ?_
  refine k_iconst (v := (0 : Int32)) C dX8_read_23 (by decide) ?_
  refine p8_132 C dX8_read_24 ?_
  refine k_aload_n C dX8_read_27 0 rfl ?_
  refine k_iconst (v := (0 : Int32)) C dX8_read_28 (by decide) ?_
  refine p8_147 C dX8_read_29 ?_
  refine k_aload_n C dX8_read_32 0 rfl ?_
  refine k_iconst (v := (0 : Int32)) C dX8_read_33 (by decide) ?_
  refine p8_159 C dX8_read_34 ?_
  refine k_aload_n C dX8_read_37 0 rfl ?_
  refine k_iconst (v := (0 : Int32)) C dX8_read_38 (by decide) ?_
  refine p8_168 C dX8_read_39 ?_
  refine k_aload_n C dX8_read_42 0 rfl ?_
  refine k_iconst (v := (0 : Int32)) C dX8_read_43 (by decide) ?_
  refine p8_135 C (Or.inl rfl) dX8_read_44 ?_
  refine k_aload_n C dX8_read_47 0 rfl ?_
  refine k_iconst (v := (0 : Int32)) C dX8_read_48 (by decide) ?_
  obtain ⟨⟨mP_pa_2, mP_pd_3, mP_pf_4, mP_pi_5, mP_pr_6, mP_pb_7, mP_pF_8, mP_pS_9, mP_p0_10, mP_p1_11, mP_p2_12, mP_p3_13, mP_p4_14, mP_pI_15⟩, hq_1, hf⟩ := ob_el hf
  dsimp only at hf
  refine k_callVv C (c8_push C.2.2.2.2.2.2.2.2.2.1 hq_1) cm8_171 ok8_push (by decide) 0 rfl rfl rfl rfl (Nat.le_of_ble_eq_true rfl) dX8_read_49 ?_
  refine w8_read_L52 C K ?_ _ _ _ _ _ _ _ _ _ _ _ _ _ _ _ _ _ _ _ _ _ _ _ _ _ _ _ _ _ _ hf
  · intro mQ_qc_41 mQ_qb_41 mQ_qp_41 mQ_qr_41 mQ_qC_41 mK_ks_41 mK_kk_41 mK_kv_41 mK_kt_41 mN_nn_41 mN_nk_41 mN_na_41 mN_nb_41 mN_nc_41 mN_ns_41 mP_pa_41 mP_pd_41 mP_pf_41 mP_pi_41 mP_pr_41 mP_pb_41 mP_pF_41 mP_pS_41 mP_p0_41 mP_p1_41 mP_p2_41 mP_p3_41 mP_p4_41 mP_pI_41 hf
    try dsimp only at hf
    exact w8_read_L79 C K _ _ _ _ _ _ _ _ _ _ _ _ _ _ _ _ _ _ _ _ _ _ _ _ _ _ _ _ _ hf
theorem c8_read {V : EV} {l : Launch} (hl0 : l.stackTraces = false) {ad : Nat → Nat} {mL : MdL} {mH : MdH} {mR : MdR} {mG : MdG} {mT_ty : Int32} {mT_te : Nat → Int32} {mQ_qc : Int32} {mQ_qb : Int32} {mQ_qp : Int32} {mQ_qr : Int32} {mQ_qC : Int32} {mK_ks : Int32} {mK_kk : Nat → Int32} {mK_kv : Nat → Int32} {mK_kt : Nat → Int32} {mN_nn : Int32} {mN_nk : Nat → Int32} {mN_na : Nat → Int32} {mN_nb : Nat → Int32} {mN_nc : Nat → Int32} {mN_ns : Nat → Int32} {mP_pa : Int32} {mP_pd : Int32} {mP_pf : Int32} {mP_pi : Int32} {mP_pr : Int32} {mP_pb : Int32} {mP_pF : Nat → Int32} {mP_pS : Nat → Int32} {mP_p0 : Nat → Int32} {mP_p1 : Nat → Int32} {mP_p2 : Nat → Int32} {mP_p3 : Nat → Int32} {mP_p4 : Nat → Int32} {mP_pI : Nat → Int32} {N : Nat} {res : Int32 × MdQ × MdK × MdN × MdP} (hf : f8_read N (mT_ty, mT_te) (mQ_qc, mQ_qb, mQ_qp, mQ_qr, mQ_qC) (mK_ks, mK_kk, mK_kv, mK_kt) (mN_nn, mN_nk, mN_na, mN_nb, mN_nc, mN_ns) (mP_pa, mP_pd, mP_pf, mP_pi, mP_pr, mP_pb, mP_pF, mP_pS, mP_p0, mP_p1, mP_p2, mP_p3, mP_p4, mP_pI) = some res) : MI V l yX8_read cX8_read 1 .boolean 6 127 [.ref (ad 0)] (wM V ad (mT_ty, mT_te) (mQ_qc, mQ_qb, mQ_qp, mQ_qr, mQ_qC) (mK_ks, mK_kk, mK_kv, mK_kt) (mN_nn, mN_nk, mN_na, mN_nb, mN_nc, mN_ns) (mP_pa, mP_pd, mP_pf, mP_pi, mP_pr, mP_pb, mP_pF, mP_pS, mP_p0, mP_p1, mP_p2, mP_p3, mP_p4, mP_pI) mL mH mR mG) res.1 (wM V ad (mT_ty, mT_te) res.2.1 res.2.2.1 res.2.2.2.1 res.2.2.2.2 mL mH mR mG) :=
  mi_of hl0 (by decide +kernel) (Nat.le_of_ble_eq_true rfl) (fun p e R s m args below meth c Q A C K => b8_read C hf K)

