theorem ok5_read : okCV RX5 yX5_read 3 := by unfold okCV; decide +kernel
def f5_read (N : Nat) (v2 : Int32) (q : Nat) : TopS → RdS → Int32 → CoS → Option (Except String Unit × RdS × Int32 × CoS)
  | (top_tx, top_ln, top_cp, top_cq, top_sq, top_fu, top_lv, top_lt), (rd_t0, rd_rt, rd_rl, rd_rq), ra_at, (cs_cw, cs_ce, cs_cn, cs_cj, cs_cz) =>
    (f5_row (f5_rec N 8) N (0 : Int32) (top_tx, top_ln, top_cp, top_cq, top_sq, top_fu, top_lv, top_lt) (rd_t0, 1, v2, q) (0 : Int32) (cs_cw, cs_ce, cs_cn, cs_cj, (0 : Int32))).bind fun (r_2, ra_at_3, (cs_cw_4, cs_ce_5, cs_cn_6, cs_cj_7, cs_cz_8)) => match r_2 with | .error E => some ((.error E), (rd_t0, 1, v2, q), ra_at_3, (cs_cw_4, cs_ce_5, cs_cn_6, cs_cj_7, cs_cz_8)) | .ok _ => if v2 ≤ ra_at_3 then some ((.ok ()), (rd_t0, 1, v2, q), ra_at_3, (cs_cw_4, cs_ce_5, cs_cn_6, cs_cj_7, cs_cz_8)) else (f5_refuse).bind fun r_10 => match r_10 with | .error E => some ((.error E), (rd_t0, 1, v2, q), ra_at_3, (cs_cw_4, cs_ce_5, cs_cn_6, cs_cj_7, cs_cz_8)) | .ok _ => some ((.ok ()), (rd_t0, 1, v2, q), ra_at_3, (cs_cw_4, cs_ce_5, cs_cn_6, cs_cj_7, cs_cz_8))
set_option maxHeartbeats 4000000 in
set_option maxRecDepth 100000 in
theorem b5_read {V : EV} {p : Program} {l : Launch} {e : Env} {R : Room} {s : State} {m : MethodId} {args : Array Value} {below : List Frame} {meth : Method} {c : Code} {Q : State → Prop} {A : Nat → Prop} {kc ks : Nat} {ad : Nat → Nat} {co : Nat → CoS} {mu : MuS} {fo : FoS} {tr : TrS} {ma : MaS} {mq : Nat} {mx : MxS} {top_tx : Nat → Int32} {top_ln : Int32} {top_cp : Int32} {top_cq : Nat} {top_sq : Nat} {top_fu : Int32} {top_lv : Int32} {top_lt : Int32} {v2 : Int32} {q : Nat} {rd_t0 : Nat → Int32} {rd_rt : Nat} {rd_rl : Int32} {rd_rq : Nat} {ra_at : Int32} {cs_cw : Nat → Int32} {cs_ce : Nat → Int32} {cs_cn : Nat → Int32} {cs_cj : Nat → Int32} {cs_cz : Int32} {N : Nat} {res : Except String Unit × RdS × Int32 × CoS} (C : CX V p l R s m args c A kc ks RX5 cX5_read 4 198 5761) (hq : q < 4) (hf : f5_read N v2 q (top_tx, top_ln, top_cp, top_cq, top_sq, top_fu, top_lv, top_lt) (rd_t0, rd_rt, rd_rl, rd_rq) ra_at (cs_cw, cs_ce, cs_cn, cs_cj, cs_cz) = some res) (K : (∀ v : Unit, res.1 = .ok v → RV V p l e R s m args below meth c Q A kc ks 4 cX5_read (wC V ad (top_tx, top_ln, top_cp, top_cq, top_sq, top_fu, top_lv, top_lt) res.2.1 res.2.2.1 (updC co q res.2.2.2) mu fo tr ma mq mx)) ∧ ∀ E : String, res.1 = .error E → XE V p l e R s m args below meth c Q A kc ks 4 RX5 cX5_read E (wC V ad (top_tx, top_ln, top_cp, top_cq, top_sq, top_fu, top_lv, top_lt) res.2.1 res.2.2.1 (updC co q res.2.2.2) mu fo tr ma mq mx)) : WC V p l e R s m args below meth c Q A kc ks 4 (wC V ad (top_tx, top_ln, top_cp, top_cq, top_sq, top_fu, top_lv, top_lt) (rd_t0, rd_rt, rd_rl, rd_rq) ra_at (updC co q (cs_cw, cs_ce, cs_cn, cs_cj, cs_cz)) mu fo tr ma mq mx) 0 [(0, .ref (ad 2)), (1, .ref (ad 1)), (2, .int v2), (3, .ref (ad (cpo q)))] [] := by
  rw [f5_read] at hf
  refine k_aload_n C dX5_read_0 0 rfl ?_
  refine k_aload_n C dX5_read_1 1 rfl ?_
  refine p5_9 (v := 1) C dX5_read_2 ?_
  refine k_aload_n C dX5_read_5 0 rfl ?_
  refine k_iload_n C dX5_read_6 2 rfl ?_
  refine p5_15 C dX5_read_7 ?_
  refine k_aload_n C dX5_read_10 0 rfl ?_
  refine k_iconst (v := (0 : Int32)) C dX5_read_11 (by decide) ?_
  refine p5_19 C dX5_read_12 ?_
  refine k_aload_n C dX5_read_15 0 rfl ?_
  refine k_aload_n C dX5_read_16 3 rfl ?_
  refine p5_25 (v := q) C dX5_read_17 ?_
  refine k_aload_n C dX5_read_20 0 rfl ?_
  refine g5_25 C dX5_read_21 ?_
  refine k_iconst (v := (0 : Int32)) C dX5_read_24 (by decide) ?_
  refine p5_29 C hq dX5_read_25 ?_
  refine k_aload_n C dX5_read_28 0 rfl ?_
  refine k_iconst (v := (0 : Int32)) C dX5_read_29 (by decide) ?_
  obtain ⟨⟨r_2, ra_at_3, ⟨cs_cw_4, cs_ce_5, cs_cn_6, cs_cj_7, cs_cz_8⟩⟩, hq_1, hf⟩ := ob_el hf
  dsimp only at hf
  rcases r_2 with E | _u
  · try dsimp only at hf
    cases hf
    exact k_callVvx C (x5_row C.2.2.2.2.2.2.2.2.2.1 (rec_ok 8 C.2.2.2.2.2.2.2.2.2.1) hq hq_1 rfl) cm5_32 ok5_row (by decide) 2 rfl rfl rfl rfl (Nat.le_of_ble_eq_true rfl) dX5_read_30 (K.2 _ rfl)
  try dsimp only at hf
  refine k_callVv C (c5_row C.2.2.2.2.2.2.2.2.2.1 (rec_ok 8 C.2.2.2.2.2.2.2.2.2.1) hq hq_1 rfl) cm5_32 ok5_row (by decide) 2 rfl rfl rfl rfl (Nat.le_of_ble_eq_true rfl) dX5_read_30 ?_
  refine k_aload_n C dX5_read_33 0 rfl ?_
  refine g5_19 C dX5_read_34 ?_
  refine k_aload_n C dX5_read_37 0 rfl ?_
  refine g5_15 C dX5_read_38 ?_
  refine k_icmp_ge C 48 dX5_read_41 (by decide) (fun hc => ?_) (fun hc => ?_)
  · replace hf := (if_pos hc).symm.trans hf
    cases hf
    exact K.1 _ rfl _ _ dX5_read_48
  · replace hf := (if_neg hc).symm.trans hf
    refine k_aload_n C dX5_read_44 0 rfl ?_
    obtain ⟨r_10, hq_9, hf⟩ := ob_el hf
    rcases r_10 with E | _u
    · try dsimp only at hf
      cases hf
      exact k_callVvx C (x5_refuse C.2.2.2.2.2.2.2.2.2.1 hq_9 rfl) cm5_36 ok5_refuse (by decide) 2 rfl rfl rfl rfl (Nat.le_of_ble_eq_true rfl) dX5_read_45 (K.2 _ rfl)
    try dsimp only at hf
    refine k_callVv C (c5_refuse C.2.2.2.2.2.2.2.2.2.1 hq_9 rfl) cm5_36 ok5_refuse (by decide) 2 rfl rfl rfl rfl (Nat.le_of_ble_eq_true rfl) dX5_read_45 ?_
    cases hf
    exact K.1 _ rfl _ _ dX5_read_48
theorem c5_read {V : EV} {l : Launch} (hl0 : l.stackTraces = false) {ad : Nat → Nat} {co : Nat → CoS} {mu : MuS} {fo : FoS} {tr : TrS} {ma : MaS} {mq : Nat} {mx : MxS} {top_tx : Nat → Int32} {top_ln : Int32} {top_cp : Int32} {top_cq : Nat} {top_sq : Nat} {top_fu : Int32} {top_lv : Int32} {top_lt : Int32} {v2 : Int32} {q : Nat} {rd_t0 : Nat → Int32} {rd_rt : Nat} {rd_rl : Int32} {rd_rq : Nat} {ra_at : Int32} {cs_cw : Nat → Int32} {cs_ce : Nat → Int32} {cs_cn : Nat → Int32} {cs_cj : Nat → Int32} {cs_cz : Int32} {N : Nat} {res : Except String Unit × RdS × Int32 × CoS} (hq : q < 4) (hf : f5_read N v2 q (top_tx, top_ln, top_cp, top_cq, top_sq, top_fu, top_lv, top_lt) (rd_t0, rd_rt, rd_rl, rd_rq) ra_at (cs_cw, cs_ce, cs_cn, cs_cj, cs_cz) = some res) {v : Unit} (hv : res.1 = .ok v) : MV V l yX5_read cX5_read 4 198 5761 [.ref (ad 2), .ref (ad 1), .int v2, .ref (ad (cpo q))] (wC V ad (top_tx, top_ln, top_cp, top_cq, top_sq, top_fu, top_lv, top_lt) (rd_t0, rd_rt, rd_rl, rd_rq) ra_at (updC co q (cs_cw, cs_ce, cs_cn, cs_cj, cs_cz)) mu fo tr ma mq mx) (wC V ad (top_tx, top_ln, top_cp, top_cq, top_sq, top_fu, top_lv, top_lt) res.2.1 res.2.2.1 (updC co q res.2.2.2) mu fo tr ma mq mx) :=
  mv_of hl0 (by decide +kernel) (Nat.le_of_ble_eq_true rfl) (fun p e R s m args below meth c Q A C K => b5_read C hq hf ⟨fun v' h' => (by cases hv.symm.trans h'; exact K), fun E h' => (by cases hv.symm.trans h')⟩)
theorem x5_read {V : EV} {l : Launch} (hl0 : l.stackTraces = false) {ad : Nat → Nat} {co : Nat → CoS} {mu : MuS} {fo : FoS} {tr : TrS} {ma : MaS} {mq : Nat} {mx : MxS} {top_tx : Nat → Int32} {top_ln : Int32} {top_cp : Int32} {top_cq : Nat} {top_sq : Nat} {top_fu : Int32} {top_lv : Int32} {top_lt : Int32} {v2 : Int32} {q : Nat} {rd_t0 : Nat → Int32} {rd_rt : Nat} {rd_rl : Int32} {rd_rq : Nat} {ra_at : Int32} {cs_cw : Nat → Int32} {cs_ce : Nat → Int32} {cs_cn : Nat → Int32} {cs_cj : Nat → Int32} {cs_cz : Int32} {N : Nat} {res : Except String Unit × RdS × Int32 × CoS} (hq : q < 4) (hf : f5_read N v2 q (top_tx, top_ln, top_cp, top_cq, top_sq, top_fu, top_lv, top_lt) (rd_t0, rd_rt, rd_rl, rd_rq) ra_at (cs_cw, cs_ce, cs_cn, cs_cj, cs_cz) = some res) {E : String} (hv : res.1 = .error E) : TV V l yX5_read cX5_read 4 198 5761 [.ref (ad 2), .ref (ad 1), .int v2, .ref (ad (cpo q))] (wC V ad (top_tx, top_ln, top_cp, top_cq, top_sq, top_fu, top_lv, top_lt) (rd_t0, rd_rt, rd_rl, rd_rq) ra_at (updC co q (cs_cw, cs_ce, cs_cn, cs_cj, cs_cz)) mu fo tr ma mq mx) E (wC V ad (top_tx, top_ln, top_cp, top_cq, top_sq, top_fu, top_lv, top_lt) res.2.1 res.2.2.1 (updC co q res.2.2.2) mu fo tr ma mq mx) :=
  tv_of hl0 (by decide +kernel) (Nat.le_of_ble_eq_true rfl) (fun p e R s m args below meth c Q A C K => b5_read C hq hf ⟨fun v' h' => (by cases hv.symm.trans h'), fun E' h' => (by cases hv.symm.trans h'; exact K)⟩)

