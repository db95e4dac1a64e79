theorem ok8_thrown : okCV RX8 yX8_thrown 0 := by unfold okCV; decide +kernel
def f8_thrown  : MdQ → Option (Int32)
  | (mQ_qc, mQ_qb, mQ_qp, mQ_qr, mQ_qC) =>
    some mQ_qC
set_option maxHeartbeats 4000000 in
set_option maxRecDepth 100000 in
theorem b8_thrown {V : EV} {p : Program} {l : Launch} {e : Env} {R : Room} {s : State} {m : MethodId} {args : Array Value} {below : List Frame} {meth : Method} {c : Code} {Q : State → Prop} {A : Nat → Prop} {kc ks : Nat} {ad : Nat → Nat} {mT : MdT} {mK : MdK} {mN : MdN} {mP : MdP} {mL : MdL} {mH : MdH} {mR : MdR} {mG : MdG} {mQ_qc : Int32} {mQ_qb : Int32} {mQ_qp : Int32} {mQ_qr : Int32} {mQ_qC : Int32}  {res : Int32} (C : CX V p l R s m args c A kc ks RX8 cX8_thrown 1 0 0) (hf : f8_thrown (mQ_qc, mQ_qb, mQ_qp, mQ_qr, mQ_qC) = some res) (K : RI V p l e R s m args below meth c Q A kc ks 1 cX8_thrown .int res (wM V ad mT (mQ_qc, mQ_qb, mQ_qp, mQ_qr, mQ_qC) mK mN mP mL mH mR mG)) : WC V p l e R s m args below meth c Q A kc ks 1 (wM V ad mT (mQ_qc, mQ_qb, mQ_qp, mQ_qr, mQ_qC) mK mN mP mL mH mR mG) 0 [(0, .ref (ad 0))] [] := by
  rw [f8_thrown] at hf
  refine k_aload_n C dX8_thrown_0 0 rfl ?_
  refine g8_126 C dX8_thrown_1 ?_
  cases hf
  exact K _ _ dX8_thrown_4 rfl
theorem c8_thrown {V : EV} {l : Launch} (hl0 : l.stackTraces = false) {ad : Nat → Nat} {mT : MdT} {mK : MdK} {mN : MdN} {mP : MdP} {mL : MdL} {mH : MdH} {mR : MdR} {mG : MdG} {mQ_qc : Int32} {mQ_qb : Int32} {mQ_qp : Int32} {mQ_qr : Int32} {mQ_qC : Int32}  {res : Int32} (hf : f8_thrown (mQ_qc, mQ_qb, mQ_qp, mQ_qr, mQ_qC) = some res) : MI V l yX8_thrown cX8_thrown 1 .int 0 0 [.ref (ad 0)] (wM V ad mT (mQ_qc, mQ_qb, mQ_qp, mQ_qr, mQ_qC) mK mN mP mL mH mR mG) res (wM V ad mT (mQ_qc, mQ_qb, mQ_qp, mQ_qr, mQ_qC) mK mN mP mL mH mR mG) :=
  mi_of hl0 (by decide +kernel) (Nat.le_of_ble_eq_true rfl) (fun p e R s m args below meth c Q A C K => b8_thrown C hf K)

theorem ok8_fail : okCV RX8 yX8_fail 1 := by unfold okCV; decide +kernel
def f8_fail (v1 : Int32) : MdQ → Option (Int32 × MdQ)
  | (mQ_qc, mQ_qb, mQ_qp, mQ_qr, mQ_qC) =>
    some ((0 : Int32), (mQ_qc, mQ_qb, mQ_qp, mQ_qr, v1))
set_option maxHeartbeats 4000000 in
set_option maxRecDepth 100000 in
theorem b8_fail {V : EV} {p : Program} {l : Launch} {e : Env} {R : Room} {s : State} {m : MethodId} {args : Array Value} {below : List Frame} {meth : Method} {c : Code} {Q : State → Prop} {A : Nat → Prop} {kc ks : Nat} {ad : Nat → Nat} {mT : MdT} {mK : MdK} {mN : MdN} {mP : MdP} {mL : MdL} {mH : MdH} {mR : MdR} {mG : MdG} {v1 : Int32} {mQ_qc : Int32} {mQ_qb : Int32} {mQ_qp : Int32} {mQ_qr : Int32} {mQ_qC : Int32} {res : Int32 × MdQ} (C : CX V p l R s m args c A kc ks RX8 cX8_fail 2 0 0) (hf : f8_fail v1 (mQ_qc, mQ_qb, mQ_qp, mQ_qr, mQ_qC) = some res) (K : RI V p l e R s m args below meth c Q A kc ks 2 cX8_fail .int res.1 (wM V ad mT res.2 mK mN mP mL mH mR mG)) : WC V p l e R s m args below meth c Q A kc ks 2 (wM V ad mT (mQ_qc, mQ_qb, mQ_qp, mQ_qr, mQ_qC) mK mN mP mL mH mR mG) 0 [(0, .ref (ad 0)), (1, .int v1)] [] := by
  rw [f8_fail] at hf
  refine k_aload_n C dX8_fail_0 0 rfl ?_
  refine k_iload_n C dX8_fail_1 1 rfl ?_
  refine p8_126 C dX8_fail_2 ?_
  refine k_iconst (v := (0 : Int32)) C dX8_fail_5 (by decide) ?_
  cases hf
  exact K _ _ dX8_fail_6 rfl
theorem c8_fail {V : EV} {l : Launch} (hl0 : l.stackTraces = false) {ad : Nat → Nat} {mT : MdT} {mK : MdK} {mN : MdN} {mP : MdP} {mL : MdL} {mH : MdH} {mR : MdR} {mG : MdG} {v1 : Int32} {mQ_qc : Int32} {mQ_qb : Int32} {mQ_qp : Int32} {mQ_qr : Int32} {mQ_qC : Int32} {res : Int32 × MdQ} (hf : f8_fail v1 (mQ_qc, mQ_qb, mQ_qp, mQ_qr, mQ_qC) = some res) : MI V l yX8_fail cX8_fail 2 .int 0 0 [.ref (ad 0), .int v1] (wM V ad mT (mQ_qc, mQ_qb, mQ_qp, mQ_qr, mQ_qC) mK mN mP mL mH mR mG) res.1 (wM V ad mT res.2 mK mN mP mL mH mR mG) :=
  mi_of hl0 (by decide +kernel) (Nat.le_of_ble_eq_true rfl) (fun p e R s m args below meth c Q A C K => b8_fail C hf K)

theorem ok8_type : okCV RX8 yX8_type 1 := by unfold okCV; decide +kernel
def f8_type (v1 : Int32) : MdT → MdQ → Option (Int32 × MdT × MdQ)
  | (mT_ty, mT_te), (mQ_qc, mQ_qb, mQ_qp, mQ_qr, mQ_qC) =>
    if v1 < (32 : Int32) then some ((-1 : Int32), (mT_ty, mT_te), (mQ_qc, mQ_qb, mQ_qp, mQ_qr, (0 : Int32))) else if (126 : Int32) < v1 then some ((-1 : Int32), (mT_ty, mT_te), (mQ_qc, mQ_qb, mQ_qp, mQ_qr, (0 : Int32))) else if mT_ty = (60 : Int32) then some ((-1 : Int32), (mT_ty, mT_te), (mQ_qc, mQ_qb, mQ_qp, mQ_qr, (0 : Int32))) else if mT_ty < 0 ∨ 60 ≤ mT_ty.toNatClampNeg then none else some ((mT_ty + (1 : Int32)), ((mT_ty + (1 : Int32)), (upd mT_te mT_ty.toNatClampNeg v1)), (mQ_qc, mQ_qb, mQ_qp, mQ_qr, (0 : Int32)))
set_option maxHeartbeats 4000000 in
set_option maxRecDepth 100000 in
theorem b8_type {V : EV} {p : Program} {l : Launch} {e : Env} {R : Room} {s : State} {m : MethodId} {args : Array Value} {below : List Frame} {meth : Method} {c : Code} {Q : State → Prop} {A : Nat → Prop} {kc ks : Nat} {ad : Nat → Nat} {mK : MdK} {mN : MdN} {mP : MdP} {mL : MdL} {mH : MdH} {mR : MdR} {mG : MdG} {v1 : Int32} {mT_ty : Int32} {mT_te : Nat → Int32} {mQ_qc : Int32} {mQ_qb : Int32} {mQ_qp : Int32} {mQ_qr : Int32} {mQ_qC : Int32} {res : Int32 × MdT × MdQ} (C : CX V p l R s m args c A kc ks RX8 cX8_type 2 0 0) (hf : f8_type v1 (mT_ty, mT_te) (mQ_qc, mQ_qb, mQ_qp, mQ_qr, mQ_qC) = some res) (K : RI V p l e R s m args below meth c Q A kc ks 2 cX8_type .int res.1 (wM V ad res.2.1 res.2.2 mK mN mP mL mH mR mG)) : WC V p l e R s m args below meth c Q A kc ks 2 (wM V ad (mT_ty, mT_te) (mQ_qc, mQ_qb, mQ_qp, mQ_qr, mQ_qC) mK mN mP mL mH mR mG) 0 [(0, .ref (ad 0)), (1, .int v1)] [] := by
  rw [f8_type] at hf
  refine k_aload_n C dX8_type_0 0 rfl ?_
  refine k_iconst (v := (0 : Int32)) C dX8_type_1 (by decide) ?_
  refine p8_126 C dX8_type_2 ?_
  refine k_iload_n C dX8_type_5 1 rfl ?_
  refine k_bipush (v := (32 : Int32)) C dX8_type_6 (by decide) ?_
  refine k_icmp_lt C 26 dX8_type_8 (by decide) (fun hc => ?_) (fun hc => ?_)
  · replace hf := (if_pos hc).symm.trans hf
    refine k_iconst (v := (-1 : Int32)) C dX8_type_26 (by decide) ?_
    cases hf
    exact K _ _ dX8_type_27 rfl
  · replace hf := (if_neg hc).symm.trans hf
    refine k_iload_n C dX8_type_11 1 rfl ?_
    refine k_bipush (v := (126 : Int32)) C dX8_type_12 (by decide) ?_
    refine k_icmp_gt C 26 dX8_type_14 (by decide) (fun hc => ?_) (fun hc => ?_)
    · replace hf := (if_pos hc).symm.trans hf
      refine k_iconst (v := (-1 : Int32)) C dX8_type_26 (by decide) ?_
      cases hf
      exact K _ _ dX8_type_27 rfl
    · replace hf := (if_neg hc).symm.trans hf
      refine k_aload_n C dX8_type_17 0 rfl ?_
      refine g8_129 C dX8_type_18 ?_
      refine k_bipush (v := (60 : Int32)) C dX8_type_21 (by decide) ?_
      refine k_icmp_ne C 28 dX8_type_23 (by decide) (fun hc => ?_) (fun hc => ?_)
      · replace hf := (if_neg hc).symm.trans hf
        refine k_aload_n C dX8_type_28 0 rfl ?_
        refine g8_7 C dX8_type_29 ?_
        refine k_aload_n C dX8_type_32 0 rfl ?_
        refine g8_129 C dX8_type_33 ?_
        refine k_iload_n C dX8_type_36 1 rfl ?_
        obtain ⟨hi, hf⟩ := gd_no hf
        refine sm1 C hi dX8_type_37 ?_
        refine k_aload_n C dX8_type_38 0 rfl ?_
        refine k_dup C dX8_type_39 rfl ?_
        refine g8_129 C dX8_type_40 ?_
        refine k_iconst (v := (1 : Int32)) C dX8_type_43 (by decide) ?_
        refine k_iadd C dX8_type_44 ?_
        refine p8_129 C dX8_type_45 ?_
        refine k_aload_n C dX8_type_48 0 rfl ?_
        refine g8_129 C dX8_type_49 ?_
        cases hf
        exact K _ _ dX8_type_52 rfl
      · replace hf := (if_pos hc).symm.trans hf
        refine k_iconst (v := (-1 : Int32)) C dX8_type_26 (by decide) ?_
        cases hf
        exact K _ _ dX8_type_27 rfl
theorem c8_type {V : EV} {l : Launch} (hl0 : l.stackTraces = false) {ad : Nat → Nat} {mK : MdK} {mN : MdN} {mP : MdP} {mL : MdL} {mH : MdH} {mR : MdR} {mG : MdG} {v1 : Int32} {mT_ty : Int32} {mT_te : Nat → Int32} {mQ_qc : Int32} {mQ_qb : Int32} {mQ_qp : Int32} {mQ_qr : Int32} {mQ_qC : Int32} {res : Int32 × MdT × MdQ} (hf : f8_type v1 (mT_ty, mT_te) (mQ_qc, mQ_qb, mQ_qp, mQ_qr, mQ_qC) = some res) : MI V l yX8_type cX8_type 2 .int 0 0 [.ref (ad 0), .int v1] (wM V ad (mT_ty, mT_te) (mQ_qc, mQ_qb, mQ_qp, mQ_qr, mQ_qC) mK mN mP mL mH mR mG) res.1 (wM V ad res.2.1 res.2.2 mK mN mP mL mH mR mG) :=
  mi_of hl0 (by decide +kernel) (Nat.le_of_ble_eq_true rfl) (fun p e R s m args below meth c Q A C K => b8_type C hf K)

theorem ok8_wipe : okCV RX8 yX8_wipe 0 := by unfold okCV; decide +kernel
def f8_wipe  : MdT → MdQ → Option (MdT × MdQ)
  | (mT_ty, mT_te), (mQ_qc, mQ_qb, mQ_qp, mQ_qr, mQ_qC) =>
    some (((0 : Int32), mT_te), (mQ_qc, mQ_qb, mQ_qp, mQ_qr, (0 : Int32)))
set_option maxHeartbeats 4000000 in
set_option maxRecDepth 100000 in
theorem b8_wipe {V : EV} {p : Program} {l : Launch} {e : Env} {R : Room} {s : State} {m : MethodId} {args : Array Value} {below : List Frame} {meth : Method} {c : Code} {Q : State → Prop} {A : Nat → Prop} {kc ks : Nat} {ad : Nat → Nat} {mK : MdK} {mN : MdN} {mP : MdP} {mL : MdL} {mH : MdH} {mR : MdR} {mG : MdG} {mT_ty : Int32} {mT_te : Nat → Int32} {mQ_qc : Int32} {mQ_qb : Int32} {mQ_qp : Int32} {mQ_qr : Int32} {mQ_qC : Int32} {res : MdT × MdQ} (C : CX V p l R s m args c A kc ks RX8 cX8_wipe 1 0 0) (hf : f8_wipe (mT_ty, mT_te) (mQ_qc, mQ_qb, mQ_qp, mQ_qr, mQ_qC) = some res) (K : RV V p l e R s m args below meth c Q A kc ks 1 cX8_wipe (wM V ad res.1 res.2 mK mN mP mL mH mR mG)) : WC V p l e R s m args below meth c Q A kc ks 1 (wM V ad (mT_ty, mT_te) (mQ_qc, mQ_qb, mQ_qp, mQ_qr, mQ_qC) mK mN mP mL mH mR mG) 0 [(0, .ref (ad 0))] [] := by
  rw [f8_wipe] at hf
  refine k_aload_n C dX8_wipe_0 0 rfl ?_
  refine k_iconst (v := (0 : Int32)) C dX8_wipe_1 (by decide) ?_
  refine p8_126 C dX8_wipe_2 ?_
  refine k_aload_n C dX8_wipe_5 0 rfl ?_
  refine k_iconst (v := (0 : Int32)) C dX8_wipe_6 (by decide) ?_
  refine p8_129 C dX8_wipe_7 ?_
  cases hf
  exact K _ _ dX8_wipe_10
theorem c8_wipe {V : EV} {l : Launch} (hl0 : l.stackTraces = false) {ad : Nat → Nat} {mK : MdK} {mN : MdN} {mP : MdP} {mL : MdL} {mH : MdH} {mR : MdR} {mG : MdG} {mT_ty : Int32} {mT_te : Nat → Int32} {mQ_qc : Int32} {mQ_qb : Int32} {mQ_qp : Int32} {mQ_qr : Int32} {mQ_qC : Int32} {res : MdT × MdQ} (hf : f8_wipe (mT_ty, mT_te) (mQ_qc, mQ_qb, mQ_qp, mQ_qr, mQ_qC) = some res) : MV V l yX8_wipe cX8_wipe 1 0 0 [.ref (ad 0)] (wM V ad (mT_ty, mT_te) (mQ_qc, mQ_qb, mQ_qp, mQ_qr, mQ_qC) mK mN mP mL mH mR mG) (wM V ad res.1 res.2 mK mN mP mL mH mR mG) :=
  mv_of hl0 (by decide +kernel) (Nat.le_of_ble_eq_true rfl) (fun p e R s m args below meth c Q A C K => b8_wipe C hf K)

theorem ok8_nodeAt : okCV RX8 yX8_nodeAt 1 := by unfold okCV; decide +kernel
def f8_nodeAt_L7 (k38 : Int32 → Option (Int32)) (N : Nat) (mQ_qc : Int32) (mQ_qb : Int32) (mQ_qp : Int32) (mQ_qr : Int32) (mQ_qC : Int32) (mN_nn : Int32) (mN_nk : Nat → Int32) (mN_na : Nat → Int32) (mN_nb : Nat → Int32) (mN_nc : Nat → Int32) (mN_ns : Nat → Int32) : Nat → Int32 → Int32 → Int32 → Option (Int32)
  | 0, _, _, _ => none
  | n + 1, x1, x2, x3 =>
    if (mQ_qp + mN_nn) ≤ x3 then k38 x2 else if x3 < 0 ∨ 512 ≤ x3.toNatClampNeg then none else if (mN_ns x3.toNatClampNeg) = x1 then nm_v (x3 + (1 : Int32)) (fun v3_2 => f8_nodeAt_L7 k38 N mQ_qc mQ_qb mQ_qp mQ_qr mQ_qC mN_nn mN_nk mN_na mN_nb mN_nc mN_ns n x1 x3 v3_2) else nm_v (x3 + (1 : Int32)) (fun v3_1 => f8_nodeAt_L7 k38 N mQ_qc mQ_qb mQ_qp mQ_qr mQ_qC mN_nn mN_nk mN_na mN_nb mN_nc mN_ns n x1 x2 v3_1)
def f8_nodeAt (N : Nat) (v1 : Int32) : MdQ → MdN → Option (Int32)
  | (mQ_qc, mQ_qb, mQ_qp, mQ_qr, mQ_qC), (mN_nn, mN_nk, mN_na, mN_nb, mN_nc, mN_ns) =>
    f8_nodeAt_L7 (fun x2_3 => some x2_3) N mQ_qc mQ_qb mQ_qp mQ_qr mQ_qC mN_nn mN_nk mN_na mN_nb mN_nc mN_ns N v1 (-1 : Int32) mQ_qp
set_option maxHeartbeats 4000000 in
set_option maxRecDepth 100000 in
theorem w8_nodeAt_L7 {V : EV} {p : Program} {l : Launch} {e : Env} {R : Room} {s : State} {m : MethodId} {args : Array Value} {below : List Frame} {meth : Method} {c : Code} {Q : State → Prop} {A : Nat → Prop} {kc ks : Nat} {ad : Nat → Nat} {mT : MdT} {mK : MdK} {mP : MdP} {mL : MdL} {mH : MdH} {mR : MdR} {mG : MdG} {mQ_qc : Int32} {mQ_qb : Int32} {mQ_qp : Int32} {mQ_qr : Int32} {mQ_qC : Int32} {mN_nn : Int32} {mN_nk : Nat → Int32} {mN_na : Nat → Int32} {mN_nb : Nat → Int32} {mN_nc : Nat → Int32} {mN_ns : Nat → Int32} {k38 : Int32 → Option (Int32)} {N : Nat} {res : Int32} (C : CX V p l R s m args c A kc ks RX8 cX8_nodeAt 4 0 0) (K : RI V p l e R s m args below meth c Q A kc ks 4 cX8_nodeAt .int res (wM V ad mT (mQ_qc, mQ_qb, mQ_qp, mQ_qr, mQ_qC) mK (mN_nn, mN_nk, mN_na, mN_nb, mN_nc, mN_ns) mP mL mH mR mG)) (hk38 : ∀ (x2 : Int32) , k38 x2 = some res → WC V p l e R s m args below meth c Q A kc ks 4 (wM V ad mT (mQ_qc, mQ_qb, mQ_qp, mQ_qr, mQ_qC) mK (mN_nn, mN_nk, mN_na, mN_nb, mN_nc, mN_ns) mP mL mH mR mG) 38 [(2, .int x2)] []) : ∀ (n : Nat) (x1 : Int32) (x2 : Int32) (x3 : Int32) , f8_nodeAt_L7 k38 N mQ_qc mQ_qb mQ_qp mQ_qr mQ_qC mN_nn mN_nk mN_na mN_nb mN_nc mN_ns n x1 x2 x3 = some res → WC V p l e R s m args below meth c Q A kc ks 4 (wM V ad mT (mQ_qc, mQ_qb, mQ_qp, mQ_qr, mQ_qC) mK (mN_nn, mN_nk, mN_na, mN_nb, mN_nc, mN_ns) mP mL mH mR mG) 7 [(0, .ref (ad 0)), (1, .int x1), (2, .int x2), (3, .int x3)] [] := by
  intro n
  induction n with
  | zero => intro _ _ _ hf; exact nomatch (show none = some res from hf)
  | succ n ih =>
    intro x1 x2 x3 hf
    rw [f8_nodeAt_L7] at hf
    refine k_iload_n C dX8_nodeAt_7 3 rfl ?_
    refine k_aload_n C dX8_nodeAt_8 0 rfl ?_
    refine g8_150 C dX8_nodeAt_9 ?_
    refine k_aload_n C dX8_nodeAt_12 0 rfl ?_
    refine g8_156 C dX8_nodeAt_13 ?_
    refine k_iadd C dX8_nodeAt_16 ?_
    refine k_icmp_ge C 38 dX8_nodeAt_17 (by decide) (fun hc => ?_) (fun hc => ?_)
    · replace hf := (if_pos hc).symm.trans hf
      refine k_sub [2] (L' := [(2, .int x2)]) rfl ?_
      exact hk38 _ hf
    · replace hf := (if_neg hc).symm.trans hf
      refine k_aload_n C dX8_nodeAt_20 0 rfl ?_
      refine g8_34 C dX8_nodeAt_21 ?_
      refine k_iload_n C dX8_nodeAt_24 3 rfl ?_
      obtain ⟨hi, hf⟩ := gd_no hf
      refine lm9 C hi dX8_nodeAt_25 ?_
      refine k_iload_n C dX8_nodeAt_26 1 rfl ?_
      refine k_icmp_ne C 32 dX8_nodeAt_27 (by decide) (fun hc => ?_) (fun hc => ?_)
      · replace hf := (if_neg hc).symm.trans hf
        obtain ⟨v3_1, ev3_1⟩ : ∃ y : Int32, y = x3 + (1 : Int32) := ⟨_, rfl⟩
        replace hf := nm_el hf ev3_1
        refine k_iinc (v := v3_1) C dX8_nodeAt_32 3 rfl (by rw [ev3_1]; rfl) [(3, .int v3_1), (0, .ref (ad 0)), (1, .int x1), (2, .int x2)] (by decide) rfl ?_
        refine k_goto C 7 dX8_nodeAt_35 (by decide) ?_
        refine k_sub [1, 2, 3, 0] (L' := [(0, .ref (ad 0)), (1, .int x1), (2, .int x2), (3, .int v3_1)]) rfl ?_
        exact ih _ _ _ hf
      · replace hf := (if_pos hc).symm.trans hf
        refine k_iload_n C dX8_nodeAt_30 3 rfl ?_
        refine k_istore_n C dX8_nodeAt_31 [(2, .int x3), (0, .ref (ad 0)), (1, .int x1), (3, .int x3)] (by decide) rfl ?_
        obtain ⟨v3_2, ev3_2⟩ : ∃ y : Int32, y = x3 + (1 : Int32) := ⟨_, rfl⟩
        replace hf := nm_el hf ev3_2
        refine k_iinc (v := v3_2) C dX8_nodeAt_32 3 rfl (by rw [ev3_2]; rfl) [(3, .int v3_2), (2, .int x3), (0, .ref (ad 0)), (1, .int x1)] (by decide) rfl ?_
        refine k_goto C 7 dX8_nodeAt_35 (by decide) ?_
        refine k_sub [2, 3, 1, 0] (L' := [(0, .ref (ad 0)), (1, .int x1), (2, .int x3), (3, .int v3_2)]) rfl ?_
        exact ih _ _ _ hf
set_option maxHeartbeats 4000000 in
set_option maxRecDepth 100000 in
theorem b8_nodeAt {V : EV} {p : Program} {l : Launch} {e : Env} {R : Room} {s : State} {m : MethodId} {args : Array Value} {below : List Frame} {meth : Method} {c : Code} {Q : State → Prop} {A : Nat → Prop} {kc ks : Nat} {ad : Nat → Nat} {mT : MdT} {mK : MdK} {mP : MdP} {mL : MdL} {mH : MdH} {mR : MdR} {mG : MdG} {mQ_qc : Int32} {mQ_qb : Int32} {mQ_qp : Int32} {mQ_qr : Int32} {mQ_qC : Int32} {mN_nn : Int32} {mN_nk : Nat → Int32} {mN_na : Nat → Int32} {mN_nb : Nat → Int32} {mN_nc : Nat → Int32} {mN_ns : Nat → Int32} {v1 : Int32} {N : Nat} {res : Int32} (C : CX V p l R s m args c A kc ks RX8 cX8_nodeAt 4 0 0) (hf : f8_nodeAt N v1 (mQ_qc, mQ_qb, mQ_qp, mQ_qr, mQ_qC) (mN_nn, mN_nk, mN_na, mN_nb, mN_nc, mN_ns) = some res) (K : RI V p l e R s m args below meth c Q A kc ks 4 cX8_nodeAt .int res (wM V ad mT (mQ_qc, mQ_qb, mQ_qp, mQ_qr, mQ_qC) mK (mN_nn, mN_nk, mN_na, mN_nb, mN_nc, mN_ns) mP mL mH mR mG)) : WC V p l e R s m args below meth c Q A kc ks 4 (wM V ad mT (mQ_qc, mQ_qb, mQ_qp, mQ_qr, mQ_qC) mK (mN_nn, mN_nk, mN_na, mN_nb, mN_nc, mN_ns) mP mL mH mR mG) 0 [(0, .ref (ad 0)), (1, .int v1)] [] := by
  rw [f8_nodeAt] at hf
  refine k_iconst (v := (-1 : Int32)) C dX8_nodeAt_0 (by decide) ?_
  refine k_istore_n C dX8_nodeAt_1 [(2, .int (-1 : Int32)), (0, .ref (ad 0)), (1, .int v1)] (by decide) rfl ?_
  refine k_aload_n C dX8_nodeAt_2 1 rfl ?_
  refine g8_150 C dX8_nodeAt_3 ?_
  refine k_istore_n C dX8_nodeAt_6 [(3, .int mQ_qp), (2, .int (-1 : Int32)), (0, .ref (ad 0)), (1, .int v1)] (by decide) rfl ?_
  refine k_sub [2, 3, 1, 0] (L' := [(0, .ref (ad 0)), (1, .int v1), (2, .int (-1 : Int32)), (3, .int mQ_qp)]) rfl ?_
  refine w8_nodeAt_L7 C K ?_ _ _ _ _ hf
  · intro x2_3 hf
    try dsimp only at hf
    refine k_iload_n C dX8_nodeAt_38 0 rfl ?_
    cases hf
    exact K _ _ dX8_nodeAt_39 rfl
theorem c8_nodeAt {V : EV} {l : Launch} (hl0 : l.stackTraces = false) {ad : Nat → Nat} {mT : MdT} {mK : MdK} {mP : MdP} {mL : MdL} {mH : MdH} {mR : MdR} {mG : MdG} {mQ_qc : Int32} {mQ_qb : Int32} {mQ_qp : Int32} {mQ_qr : Int32} {mQ_qC : Int32} {mN_nn : Int32} {mN_nk : Nat → Int32} {mN_na : Nat → Int32} {mN_nb : Nat → Int32} {mN_nc : Nat → Int32} {mN_ns : Nat → Int32} {v1 : Int32} {N : Nat} {res : Int32} (hf : f8_nodeAt N v1 (mQ_qc, mQ_qb, mQ_qp, mQ_qr, mQ_qC) (mN_nn, mN_nk, mN_na, mN_nb, mN_nc, mN_ns) = some res) : MI V l yX8_nodeAt cX8_nodeAt 4 .int 0 0 [.ref (ad 0), .int v1] (wM V ad mT (mQ_qc, mQ_qb, mQ_qp, mQ_qr, mQ_qC) mK (mN_nn, mN_nk, mN_na, mN_nb, mN_nc, mN_ns) mP mL mH mR mG) res (wM V ad mT (mQ_qc, mQ_qb, mQ_qp, mQ_qr, mQ_qC) mK (mN_nn, mN_nk, mN_na, mN_nb, mN_nc, mN_ns) mP mL mH mR mG) :=
  mi_of hl0 (by decide +kernel) (Nat.le_of_ble_eq_true rfl) (fun p e R s m args below meth c Q A C K => b8_nodeAt C hf K)

theorem ok8_kindOf : okCV RX8 yX8_kindOf 1 := by unfold okCV; decide +kernel
def f8_kindOf (v0 : Int32) : Option (Int32) :=
    if v0 = (3 : Int32) then some (0 : Int32) else if v0 = (4 : Int32) then some (1 : Int32) else if v0 = (5 : Int32) then some (2 : Int32) else if v0 = 0 then some (3 : Int32) else some (4 : Int32)
set_option maxHeartbeats 4000000 in
set_option maxRecDepth 100000 in
theorem b8_kindOf {V : EV} {p : Program} {l : Launch} {e : Env} {R : Room} {s : State} {m : MethodId} {args : Array Value} {below : List Frame} {meth : Method} {c : Code} {Q : State → Prop} {A : Nat → Prop} {kc ks : Nat} {ad : Nat → Nat} {mT : MdT} {mQ : MdQ} {mK : MdK} {mN : MdN} {mP : MdP} {mL : MdL} {mH : MdH} {mR : MdR} {mG : MdG} {v0 : Int32} {res : Int32} (C : CX V p l R s m args c A kc ks RX8 cX8_kindOf 1 0 0) (hf : f8_kindOf v0 = some res) (K : RI V p l e R s m args below meth c Q A kc ks 1 cX8_kindOf .int res (wM V ad mT mQ mK mN mP mL mH mR mG)) : WC V p l e R s m args below meth c Q A kc ks 1 (wM V ad mT mQ mK mN mP mL mH mR mG) 0 [(0, .int v0)] [] := by
  rw [f8_kindOf] at hf
  refine k_iload_n C dX8_kindOf_0 0 rfl ?_
  refine k_iconst (v := (3 : Int32)) C dX8_kindOf_1 (by decide) ?_
  refine k_icmp_ne C 9 dX8_kindOf_2 (by decide) (fun hc => ?_) (fun hc => ?_)
  · replace hf := (if_neg hc).symm.trans hf
    refine k_iload_n C dX8_kindOf_9 0 rfl ?_
    refine k_iconst (v := (4 : Int32)) C dX8_kindOf_10 (by decide) ?_
    refine k_icmp_ne C 18 dX8_kindOf_11 (by decide) (fun hc => ?_) (fun hc => ?_)
    · replace hf := (if_neg hc).symm.trans hf
      refine k_iload_n C dX8_kindOf_18 0 rfl ?_
      refine k_iconst (v := (5 : Int32)) C dX8_kindOf_19 (by decide) ?_
      refine k_icmp_ne C 27 dX8_kindOf_20 (by decide) (fun hc => ?_) (fun hc => ?_)
      · replace hf := (if_neg hc).symm.trans hf
        refine k_iload_n C dX8_kindOf_27 0 rfl ?_
        refine k_if_ne C 35 dX8_kindOf_28 (by decide) (fun hc => ?_) (fun hc => ?_)
        · replace hf := (if_neg hc).symm.trans hf
          refine k_iconst (v := (4 : Int32)) C dX8_kindOf_35 (by decide) ?_
          cases hf
          exact K _ _ dX8_kindOf_36 rfl
        · replace hf := (if_pos hc).symm.trans hf
          refine k_iconst (v := (3 : Int32)) C dX8_kindOf_31 (by decide) ?_
          refine k_goto C 36 dX8_kindOf_32 (by decide) ?_
          cases hf
          exact K _ _ dX8_kindOf_36 rfl
      · replace hf := (if_pos hc).symm.trans hf
        refine k_iconst (v := (2 : Int32)) C dX8_kindOf_23 (by decide) ?_
        refine k_goto C 36 dX8_kindOf_24 (by decide) ?_
        cases hf
        exact K _ _ dX8_kindOf_36 rfl
    · replace hf := (if_pos hc).symm.trans hf
      refine k_iconst (v := (1 : Int32)) C dX8_kindOf_14 (by decide) ?_
      refine k_goto C 36 dX8_kindOf_15 (by decide) ?_
      cases hf
      exact K _ _ dX8_kindOf_36 rfl
  · replace hf := (if_pos hc).symm.trans hf
    refine k_iconst (v := (0 : Int32)) C dX8_kindOf_5 (by decide) ?_
    refine k_goto C 36 dX8_kindOf_6 (by decide) ?_
    cases hf
    exact K _ _ dX8_kindOf_36 rfl
theorem c8_kindOf {V : EV} {l : Launch} (hl0 : l.stackTraces = false) {ad : Nat → Nat} {mT : MdT} {mQ : MdQ} {mK : MdK} {mN : MdN} {mP : MdP} {mL : MdL} {mH : MdH} {mR : MdR} {mG : MdG} {v0 : Int32} {res : Int32} (hf : f8_kindOf v0 = some res) : MI V l yX8_kindOf cX8_kindOf 1 .int 0 0 [.int v0] (wM V ad mT mQ mK mN mP mL mH mR mG) res (wM V ad mT mQ mK mN mP mL mH mR mG) :=
  mi_of hl0 (by decide +kernel) (Nat.le_of_ble_eq_true rfl) (fun p e R s m args below meth c Q A C K => b8_kindOf C hf K)

theorem ok8_signOf : okCV RX8 yX8_signOf 2 := by unfold okCV; decide +kernel
def f8_signOf (v0 : Int32) (v1 : Int32) : Option (Int32) :=
    if v0 = 0 then if v1 = 0 then some (43 : Int32) else if v1 = (1 : Int32) then some (45 : Int32) else if v1 = (2 : Int32) then some (42 : Int32) else if v1 = (3 : Int32) then some (47 : Int32) else some (37 : Int32) else if v0 = (1 : Int32) then if v1 = 0 then some (60 : Int32) else if v1 = (1 : Int32) then some (62 : Int32) else if v1 = (2 : Int32) then some (61 : Int32) else some (35 : Int32) else if v1 = 0 then some (38 : Int32) else some (124 : Int32)
set_option maxHeartbeats 4000000 in
set_option maxRecDepth 100000 in
theorem b8_signOf {V : EV} {p : Program} {l : Launch} {e : Env} {R : Room} {s : State} {m : MethodId} {args : Array Value} {below : List Frame} {meth : Method} {c : Code} {Q : State → Prop} {A : Nat → Prop} {kc ks : Nat} {ad : Nat → Nat} {mT : MdT} {mQ : MdQ} {mK : MdK} {mN : MdN} {mP : MdP} {mL : MdL} {mH : MdH} {mR : MdR} {mG : MdG} {v0 : Int32} {v1 : Int32} {res : Int32} (C : CX V p l R s m args c A kc ks RX8 cX8_signOf 2 0 0) (hf : f8_signOf v0 v1 = some res) (K : RI V p l e R s m args below meth c Q A kc ks 2 cX8_signOf .int res (wM V ad mT mQ mK mN mP mL mH mR mG)) : WC V p l e R s m args below meth c Q A kc ks 2 (wM V ad mT mQ mK mN mP mL mH mR mG) 0 [(0, .int v0), (1, .int v1)] [] := by
  rw [f8_signOf] at hf
  refine k_iload_n C dX8_signOf_0 0 rfl ?_
  refine k_if_ne C 46 dX8_signOf_1 (by decide) (fun hc => ?_) (fun hc => ?_)
  · replace hf := (if_neg hc).symm.trans hf
    refine k_iload_n C dX8_signOf_46 0 rfl ?_
    refine k_iconst (v := (1 : Int32)) C dX8_signOf_47 (by decide) ?_
    refine k_icmp_ne C 83 dX8_signOf_48 (by decide) (fun hc => ?_) (fun hc => ?_)
    · replace hf := (if_neg hc).symm.trans hf
      refine k_iload_n C dX8_signOf_83 1 rfl ?_
      refine k_if_ne C 92 dX8_signOf_84 (by decide) (fun hc => ?_) (fun hc => ?_)
      · replace hf := (if_neg hc).symm.trans hf
        refine k_bipush (v := (124 : Int32)) C dX8_signOf_92 (by decide) ?_
        cases hf
        exact K _ _ dX8_signOf_94 rfl
      · replace hf := (if_pos hc).symm.trans hf
        refine k_bipush (v := (38 : Int32)) C dX8_signOf_87 (by decide) ?_
        refine k_goto C 94 dX8_signOf_89 (by decide) ?_
        cases hf
        exact K _ _ dX8_signOf_94 rfl
    · replace hf := (if_pos hc).symm.trans hf
      refine k_iload_n C dX8_signOf_51 1 rfl ?_
      refine k_if_ne C 60 dX8_signOf_52 (by decide) (fun hc => ?_) (fun hc => ?_)
      · replace hf := (if_neg hc).symm.trans hf
        refine k_iload_n C dX8_signOf_60 1 rfl ?_
        refine k_iconst (v := (1 : Int32)) C dX8_signOf_61 (by decide) ?_
        refine k_icmp_ne C 70 dX8_signOf_62 (by decide) (fun hc => ?_) (fun hc => ?_)
        · replace hf := (if_neg hc).symm.trans hf
          refine k_iload_n C dX8_signOf_70 1 rfl ?_
          refine k_iconst (v := (2 : Int32)) C dX8_signOf_71 (by decide) ?_
          refine k_icmp_ne C 80 dX8_signOf_72 (by decide) (fun hc => ?_) (fun hc => ?_)
          · replace hf := (if_neg hc).symm.trans hf
            refine k_bipush (v := (35 : Int32)) C dX8_signOf_80 (by decide) ?_
            cases hf
            exact K _ _ dX8_signOf_82 rfl
          · replace hf := (if_pos hc).symm.trans hf
            refine k_bipush (v := (61 : Int32)) C dX8_signOf_75 (by decide) ?_
            refine k_goto C 82 dX8_signOf_77 (by decide) ?_
            cases hf
            exact K _ _ dX8_signOf_82 rfl
        · replace hf := (if_pos hc).symm.trans hf
          refine k_bipush (v := (62 : Int32)) C dX8_signOf_65 (by decide) ?_
          refine k_goto C 82 dX8_signOf_67 (by decide) ?_
          cases hf
          exact K _ _ dX8_signOf_82 rfl
      · replace hf := (if_pos hc).symm.trans hf
        refine k_bipush (v := (60 : Int32)) C dX8_signOf_55 (by decide) ?_
        refine k_goto C 82 dX8_signOf_57 (by decide) ?_
        cases hf
        exact K _ _ dX8_signOf_82 rfl
  · replace hf := (if_pos hc).symm.trans hf
    refine k_iload_n C dX8_signOf_4 1 rfl ?_
    refine k_if_ne C 13 dX8_signOf_5 (by decide) (fun hc => ?_) (fun hc => ?_)
    · replace hf := (if_neg hc).symm.trans hf
      refine k_iload_n C dX8_signOf_13 1 rfl ?_
      refine k_iconst (v := (1 : Int32)) C dX8_signOf_14 (by decide) ?_
      refine k_icmp_ne C 23 dX8_signOf_15 (by decide) (fun hc => ?_) (fun hc => ?_)
      · replace hf := (if_neg hc).symm.trans hf
        refine k_iload_n C dX8_signOf_23 1 rfl ?_
        refine k_iconst (v := (2 : Int32)) C dX8_signOf_24 (by decide) ?_
        refine k_icmp_ne C 33 dX8_signOf_25 (by decide) (fun hc => ?_) (fun hc => ?_)
        · replace hf := (if_neg hc).symm.trans hf
          refine k_iload_n C dX8_signOf_33 1 rfl ?_
          refine k_iconst (v := (3 : Int32)) C dX8_signOf_34 (by decide) ?_
          refine k_icmp_ne C 43 dX8_signOf_35 (by decide) (fun hc => ?_) (fun hc => ?_)
          · replace hf := (if_neg hc).symm.trans hf
            refine k_bipush (v := (37 : Int32)) C dX8_signOf_43 (by decide) ?_
            cases hf
            exact K _ _ dX8_signOf_45 rfl
          · replace hf := (if_pos hc).symm.trans hf
            refine k_bipush (v := (47 : Int32)) C dX8_signOf_38 (by decide) ?_
            refine k_goto C 45 dX8_signOf_40 (by decide) ?_
            cases hf
            exact K _ _ dX8_signOf_45 rfl
        · replace hf := (if_pos hc).symm.trans hf
          refine k_bipush (v := (42 : Int32)) C dX8_signOf_28 (by decide) ?_
          refine k_goto C 45 dX8_signOf_30 (by decide) ?_
          cases hf
          exact K _ _ dX8_signOf_45 rfl
      · replace hf := (if_pos hc).symm.trans hf
        refine k_bipush (v := (45 : Int32)) C dX8_signOf_18 (by decide) ?_
        refine k_goto C 45 dX8_signOf_20 (by decide) ?_
        cases hf
        exact K _ _ dX8_signOf_45 rfl
    · replace hf := (if_pos hc).symm.trans hf
      refine k_bipush (v := (43 : Int32)) C dX8_signOf_8 (by decide) ?_
      refine k_goto C 45 dX8_signOf_10 (by decide) ?_
      cases hf
      exact K _ _ dX8_signOf_45 rfl
theorem c8_signOf {V : EV} {l : Launch} (hl0 : l.stackTraces = false) {ad : Nat → Nat} {mT : MdT} {mQ : MdQ} {mK : MdK} {mN : MdN} {mP : MdP} {mL : MdL} {mH : MdH} {mR : MdR} {mG : MdG} {v0 : Int32} {v1 : Int32} {res : Int32} (hf : f8_signOf v0 v1 = some res) : MI V l yX8_signOf cX8_signOf 2 .int 0 0 [.int v0, .int v1] (wM V ad mT mQ mK mN mP mL mH mR mG) res (wM V ad mT mQ mK mN mP mL mH mR mG) :=
  mi_of hl0 (by decide +kernel) (Nat.le_of_ble_eq_true rfl) (fun p e R s m args below meth c Q A C K => b8_signOf C hf K)

theorem ok8_waysOf : okCV RX8 yX8_waysOf 1 := by unfold okCV; decide +kernel
def f8_waysOf (v0 : Int32) : Option (Int32) :=
    if v0 = 0 then some (5 : Int32) else if v0 = (1 : Int32) then some (4 : Int32) else if v0 = (4 : Int32) then some (1 : Int32) else some (2 : Int32)
set_option maxHeartbeats 4000000 in
set_option maxRecDepth 100000 in
theorem b8_waysOf {V : EV} {p : Program} {l : Launch} {e : Env} {R : Room} {s : State} {m : MethodId} {args : Array Value} {below : List Frame} {meth : Method} {c : Code} {Q : State → Prop} {A : Nat → Prop} {kc ks : Nat} {ad : Nat → Nat} {mT : MdT} {mQ : MdQ} {mK : MdK} {mN : MdN} {mP : MdP} {mL : MdL} {mH : MdH} {mR : MdR} {mG : MdG} {v0 : Int32} {res : Int32} (C : CX V p l R s m args c A kc ks RX8 cX8_waysOf 1 0 0) (hf : f8_waysOf v0 = some res) (K : RI V p l e R s m args below meth c Q A kc ks 1 cX8_waysOf .int res (wM V ad mT mQ mK mN mP mL mH mR mG)) : WC V p l e R s m args below meth c Q A kc ks 1 (wM V ad mT mQ mK mN mP mL mH mR mG) 0 [(0, .int v0)] [] := by
  rw [f8_waysOf] at hf
  refine k_iload_n C dX8_waysOf_0 0 rfl ?_
  refine k_if_ne C 8 dX8_waysOf_1 (by decide) (fun hc => ?_) (fun hc => ?_)
  · replace hf := (if_neg hc).symm.trans hf
    refine k_iload_n C dX8_waysOf_8 0 rfl ?_
    refine k_iconst (v := (1 : Int32)) C dX8_waysOf_9 (by decide) ?_
    refine k_icmp_ne C 17 dX8_waysOf_10 (by decide) (fun hc => ?_) (fun hc => ?_)
    · replace hf := (if_neg hc).symm.trans hf
      refine k_iload_n C dX8_waysOf_17 0 rfl ?_
      refine k_iconst (v := (4 : Int32)) C dX8_waysOf_18 (by decide) ?_
      refine k_icmp_ne C 26 dX8_waysOf_19 (by decide) (fun hc => ?_) (fun hc => ?_)
      · replace hf := (if_neg hc).symm.trans hf
        refine k_iconst (v := (2 : Int32)) C dX8_waysOf_26 (by decide) ?_
        cases hf
        exact K _ _ dX8_waysOf_27 rfl
      · replace hf := (if_pos hc).symm.trans hf
        refine k_iconst (v := (1 : Int32)) C dX8_waysOf_22 (by decide) ?_
        refine k_goto C 27 dX8_waysOf_23 (by decide) ?_
        cases hf
        exact K _ _ dX8_waysOf_27 rfl
    · replace hf := (if_pos hc).symm.trans hf
      refine k_iconst (v := (4 : Int32)) C dX8_waysOf_13 (by decide) ?_
      refine k_goto C 27 dX8_waysOf_14 (by decide) ?_
      cases hf
      exact K _ _ dX8_waysOf_27 rfl
  · replace hf := (if_pos hc).symm.trans hf
    refine k_iconst (v := (5 : Int32)) C dX8_waysOf_4 (by decide) ?_
    refine k_goto C 27 dX8_waysOf_5 (by decide) ?_
    cases hf
    exact K _ _ dX8_waysOf_27 rfl
theorem c8_waysOf {V : EV} {l : Launch} (hl0 : l.stackTraces = false) {ad : Nat → Nat} {mT : MdT} {mQ : MdQ} {mK : MdK} {mN : MdN} {mP : MdP} {mL : MdL} {mH : MdH} {mR : MdR} {mG : MdG} {v0 : Int32} {res : Int32} (hf : f8_waysOf v0 = some res) : MI V l yX8_waysOf cX8_waysOf 1 .int 0 0 [.int v0] (wM V ad mT mQ mK mN mP mL mH mR mG) res (wM V ad mT mQ mK mN mP mL mH mR mG) :=
  mi_of hl0 (by decide +kernel) (Nat.le_of_ble_eq_true rfl) (fun p e R s m args below meth c Q A C K => b8_waysOf C hf K)

theorem ok8_note : okCV RX8 yX8_note 4 := by unfold okCV; decide +kernel
def f8_note (v1 : Int32) (v2 : Int32) (v3 : Int32) (v4 : Int32) : MdL → Option (MdL)
  | (mL_lm, mL_lp, mL_ls, mL_li, mL_lk, mL_lf) =>
    if v1 < 0 ∨ 121 ≤ v1.toNatClampNeg then none else if v1 < 0 ∨ 121 ≤ v1.toNatClampNeg then none else if v1 < 0 ∨ 121 ≤ v1.toNatClampNeg then none else some (mL_lm, (upd mL_lp v1.toNatClampNeg v2), (upd mL_ls v1.toNatClampNeg v3), (upd mL_li v1.toNatClampNeg v4), mL_lk, mL_lf)
set_option maxHeartbeats 4000000 in
set_option maxRecDepth 100000 in
theorem b8_note {V : EV} {p : Program} {l : Launch} {e : Env} {R : Room} {s : State} {m : MethodId} {args : Array Value} {below : List Frame} {meth : Method} {c : Code} {Q : State → Prop} {A : Nat → Prop} {kc ks : Nat} {ad : Nat → Nat} {mT : MdT} {mQ : MdQ} {mK : MdK} {mN : MdN} {mP : MdP} {mH : MdH} {mR : MdR} {mG : MdG} {v1 : Int32} {v2 : Int32} {v3 : Int32} {v4 : Int32} {mL_lm : Int32} {mL_lp : Nat → Int32} {mL_ls : Nat → Int32} {mL_li : Nat → Int32} {mL_lk : Nat → Int32} {mL_lf : Nat → Int32} {res : MdL} (C : CX V p l R s m args c A kc ks RX8 cX8_note 5 0 0) (hf : f8_note v1 v2 v3 v4 (mL_lm, mL_lp, mL_ls, mL_li, mL_lk, mL_lf) = some res) (K : RV V p l e R s m args below meth c Q A kc ks 5 cX8_note (wM V ad mT mQ mK mN mP res mH mR mG)) : WC V p l e R s m args below meth c Q A kc ks 5 (wM V ad mT mQ mK mN mP (mL_lm, mL_lp, mL_ls, mL_li, mL_lk, mL_lf) mH mR mG) 0 [(0, .ref (ad 0)), (1, .int v1), (2, .int v2), (3, .int v3), (4, .int v4)] [] := by
  rw [f8_note] at hf
  refine k_aload_n C dX8_note_0 0 rfl ?_
  refine g8_61 C dX8_note_1 ?_
  refine k_iload_n C dX8_note_4 1 rfl ?_
  refine k_iload_n C dX8_note_5 2 rfl ?_
  obtain ⟨hi, hf⟩ := gd_no hf
  refine sm18 C hi dX8_note_6 ?_
  refine k_aload_n C dX8_note_7 0 rfl ?_
  refine g8_64 C dX8_note_8 ?_
  refine k_iload_n C dX8_note_11 1 rfl ?_
  refine k_iload_n C dX8_note_12 3 rfl ?_
  obtain ⟨hi, hf⟩ := gd_no hf
  refine sm19 C hi dX8_note_13 ?_
  refine k_aload_n C dX8_note_14 0 rfl ?_
  refine g8_67 C dX8_note_15 ?_
  refine k_iload_n C dX8_note_18 1 rfl ?_
  refine k_iload C dX8_note_19 4 rfl ?_
  obtain ⟨hi, hf⟩ := gd_no hf
  refine sm20 C hi dX8_note_21 ?_
  cases hf
  exact K _ _ dX8_note_22
theorem c8_note {V : EV} {l : Launch} (hl0 : l.stackTraces = false) {ad : Nat → Nat} {mT : MdT} {mQ : MdQ} {mK : MdK} {mN : MdN} {mP : MdP} {mH : MdH} {mR : MdR} {mG : MdG} {v1 : Int32} {v2 : Int32} {v3 : Int32} {v4 : Int32} {mL_lm : Int32} {mL_lp : Nat → Int32} {mL_ls : Nat → Int32} {mL_li : Nat → Int32} {mL_lk : Nat → Int32} {mL_lf : Nat → Int32} {res : MdL} (hf : f8_note v1 v2 v3 v4 (mL_lm, mL_lp, mL_ls, mL_li, mL_lk, mL_lf) = some res) : MV V l yX8_note cX8_note 5 0 0 [.ref (ad 0), .int v1, .int v2, .int v3, .int v4] (wM V ad mT mQ mK mN mP (mL_lm, mL_lp, mL_ls, mL_li, mL_lk, mL_lf) mH mR mG) (wM V ad mT mQ mK mN mP res mH mR mG) :=
  mv_of hl0 (by decide +kernel) (Nat.le_of_ble_eq_true rfl) (fun p e R s m args below meth c Q A C K => b8_note C hf K)

theorem cm8_237 : ∀ a ∈ wsCS RX8 237 yX8_kindOf cX8_kindOf 1 (some .int), a ∈ GW := by
  unfold wsCS
  exact (List.forall_mem_cons.mpr ⟨(gw_6 (i := 63) (by decide +kernel) rfl), (List.forall_mem_cons.mpr ⟨(gw_6 (i := 64) (by decide +kernel) rfl), (List.forall_mem_cons.mpr ⟨(gw_1 (i := 9) (by decide +kernel) rfl), (List.forall_mem_cons.mpr ⟨(gw_6 (i := 65) (by decide +kernel) rfl), (List.forall_mem_nil _)⟩)⟩)⟩)⟩)
theorem cm8_240 : ∀ a ∈ wsCS RX8 240 yX8_waysOf cX8_waysOf 1 (some .int), a ∈ GW := by
  unfold wsCS
  exact (List.forall_mem_cons.mpr ⟨(gw_6 (i := 66) (by decide +kernel) rfl), (List.forall_mem_cons.mpr ⟨(gw_6 (i := 67) (by decide +kernel) rfl), (List.forall_mem_cons.mpr ⟨(gw_1 (i := 9) (by decide +kernel) rfl), (List.forall_mem_cons.mpr ⟨(gw_6 (i := 68) (by decide +kernel) rfl), (List.forall_mem_nil _)⟩)⟩)⟩)⟩)
theorem cm8_243 : ∀ a ∈ wsCS RX8 243 yX8_signOf cX8_signOf 2 (some .int), a ∈ GW := by
  unfold wsCS
  exact (List.forall_mem_cons.mpr ⟨(gw_6 (i := 69) (by decide +kernel) rfl), (List.forall_mem_cons.mpr ⟨(gw_6 (i := 70) (by decide +kernel) rfl), (List.forall_mem_cons.mpr ⟨(gw_1 (i := 9) (by decide +kernel) rfl), (List.forall_mem_cons.mpr ⟨(gw_6 (i := 71) (by decide +kernel) rfl), (List.forall_mem_nil _)⟩)⟩)⟩)⟩)
theorem cm8_233 : ∀ a ∈ wsCV RX8 233 RX8 yX8_nodeAt cX8_nodeAt 4 (some .int), a ∈ GW := by
  unfold wsCV
  exact (List.forall_mem_cons.mpr ⟨(gw_6 (i := 59) (by decide +kernel) rfl), (List.forall_mem_cons.mpr ⟨(gw_6 (i := 61) (by decide +kernel) rfl), (List.forall_mem_cons.mpr ⟨(gw_p (q := ((yX8_nodeAt, 63) : MethodName × Nat)) (List.mem_append_right _ (List.mem_append_right _ (List.mem_append_right _ (List.mem_append_right _ (List.mem_append_right _ (List.mem_append_left _ (List.mem_of_getElem? (i := 5) (by decide +kernel)))))))) rfl), (List.forall_mem_cons.mpr ⟨(gw_1 (i := 9) (by decide +kernel) rfl), (List.forall_mem_cons.mpr ⟨(gw_6 (i := 62) (by decide +kernel) rfl), (List.forall_mem_nil _)⟩)⟩)⟩)⟩)⟩)
theorem cm8_247 : ∀ a ∈ wsCV RX8 247 RX8 yX8_note cX8_note 5 none, a ∈ GW := by
  unfold wsCV
  exact (List.forall_mem_cons.mpr ⟨(gw_6 (i := 72) (by decide +kernel) rfl), (List.forall_mem_cons.mpr ⟨(gw_6 (i := 74) (by decide +kernel) rfl), (List.forall_mem_cons.mpr ⟨(gw_p (q := ((yX8_note, 63) : MethodName × Nat)) (List.mem_append_right _ (List.mem_append_right _ (List.mem_append_right _ (List.mem_append_right _ (List.mem_append_right _ (List.mem_append_left _ (List.mem_of_getElem? (i := 6) (by decide +kernel)))))))) rfl), (List.forall_mem_cons.mpr ⟨(gw_1 (i := 9) (by decide +kernel) rfl), (List.forall_mem_cons.mpr ⟨(gw_6 (i := 75) (by decide +kernel) rfl), (List.forall_mem_nil _)⟩)⟩)⟩)⟩)⟩)
theorem ok8_listMutants : okCV RX8 yX8_listMutants 1 := by unfold okCV; decide +kernel
def f8_listMutants_L123 (k44 : Int32 → Int32 → Int32 → Int32 → Int32 → Int32 → MdL → Option (Int32 × MdL)) (N : Nat) (mT_ty : Int32) (mT_te : Nat → Int32) (mQ_qc : Int32) (mQ_qb : Int32) (mQ_qp : Int32) (mQ_qr : Int32) (mQ_qC : Int32) (mN_nn : Int32) (mN_nk : Nat → Int32) (mN_na : Nat → Int32) (mN_nb : Nat → Int32) (mN_nc : Nat → Int32) (mN_ns : Nat → Int32) : Int32 → Int32 → Int32 → Int32 → Int32 → Int32 → Int32 → MdL → Option (Int32 × MdL)
  | x1, x2, x3, x4, x5, x6, x7, (mL_lm, mL_lp, mL_ls, mL_li, mL_lk, mL_lf) =>
    nm_v (x2 + (1 : Int32)) (fun v2_7 => if x1 = 0 then nm_v (x6 + (1 : Int32)) (fun v6_8 => k44 x1 v2_7 x3 x4 x5 v6_8 (mL_lm, mL_lp, mL_ls, mL_li, mL_lk, mL_lf)) else (f8_note v2_7 x3 x5 x7 (mL_lm, mL_lp, mL_ls, mL_li, mL_lk, mL_lf)).bind fun (mL_lm_10, mL_lp_11, mL_ls_12, mL_li_13, mL_lk_14, mL_lf_15) => nm_v (x6 + (1 : Int32)) (fun v6_16 => k44 x1 v2_7 x3 x4 x5 v6_16 (mL_lm_10, mL_lp_11, mL_ls_12, mL_li_13, mL_lk_14, mL_lf_15)))

def f8_listMutants_L100 (k44 : Int32 → Int32 → Int32 → Int32 → Int32 → Int32 → MdL → Option (Int32 × MdL)) (N : Nat) (mT_ty : Int32) (mT_te : Nat → Int32) (mQ_qc : Int32) (mQ_qb : Int32) (mQ_qp : Int32) (mQ_qr : Int32) (mQ_qC : Int32) (mN_nn : Int32) (mN_nk : Nat → Int32) (mN_na : Nat → Int32) (mN_nb : Nat → Int32) (mN_nc : Nat → Int32) (mN_ns : Nat → Int32) : Int32 → Int32 → Int32 → Int32 → Int32 → Int32 → Int32 → MdL → Option (Int32 × MdL)
  | x1, x2, x3, x4, x5, x6, y0, (mL_lm, mL_lp, mL_ls, mL_li, mL_lk, mL_lf) =>
    if (3 : Int32) ≤ x5 then f8_listMutants_L123 k44 N mT_ty mT_te mQ_qc mQ_qb mQ_qp mQ_qr mQ_qC mN_nn mN_nk mN_na mN_nb mN_nc mN_ns x1 x2 x3 x4 x5 x6 y0 (mL_lm, mL_lp, mL_ls, mL_li, mL_lk, mL_lf) else if x4 < 0 ∨ 512 ≤ x4.toNatClampNeg then none else if y0 = (mN_na x4.toNatClampNeg) then nm_v (x6 + (1 : Int32)) (fun v6_17 => k44 x1 x2 x3 x4 x5 v6_17 (mL_lm, mL_lp, mL_ls, mL_li, mL_lk, mL_lf)) else f8_listMutants_L123 k44 N mT_ty mT_te mQ_qc mQ_qb mQ_qp mQ_qr mQ_qC mN_nn mN_nk mN_na mN_nb mN_nc mN_ns x1 x2 x3 x4 x5 x6 y0 (mL_lm, mL_lp, mL_ls, mL_li, mL_lk, mL_lf)

def f8_listMutants_L44 (k146 : Int32 → Int32 → Int32 → MdL → Option (Int32 × MdL)) (N : Nat) (mT_ty : Int32) (mT_te : Nat → Int32) (mQ_qc : Int32) (mQ_qb : Int32) (mQ_qp : Int32) (mQ_qr : Int32) (mQ_qC : Int32) (mN_nn : Int32) (mN_nk : Nat → Int32) (mN_na : Nat → Int32) (mN_nb : Nat → Int32) (mN_nc : Nat → Int32) (mN_ns : Nat → Int32) : Nat → Int32 → Int32 → Int32 → Int32 → Int32 → Int32 → MdL → Option (Int32 × MdL)
  | 0, _, _, _, _, _, _, _ => none
  | n + 1, x1, x2, x3, x4, x5, x6, (mL_lm, mL_lp, mL_ls, mL_li, mL_lk, mL_lf) =>
    if x4 = (-1 : Int32) then k146 x1 x2 x3 (mL_lm, mL_lp, mL_ls, mL_li, mL_lk, mL_lf) else (f8_waysOf x5).bind fun r_6 => if r_6 ≤ x6 then k146 x1 x2 x3 (mL_lm, mL_lp, mL_ls, mL_li, mL_lk, mL_lf) else if (3 : Int32) ≤ x5 then if x5 = (3 : Int32) then if x4 < 0 ∨ 512 ≤ x4.toNatClampNeg then none else f8_listMutants_L100 (fun x1_ x2_ x3_ x4_ x5_ x6_ c_mL => f8_listMutants_L44 k146 N mT_ty mT_te mQ_qc mQ_qb mQ_qp mQ_qr mQ_qC mN_nn mN_nk mN_na mN_nb mN_nc mN_ns n x1_ x2_ x3_ x4_ x5_ x6_ c_mL) N mT_ty mT_te mQ_qc mQ_qb mQ_qp mQ_qr mQ_qC mN_nn mN_nk mN_na mN_nb mN_nc mN_ns x1 x2 x3 x4 x5 x6 (((mN_na x4.toNatClampNeg) + (1 : Int32)) - ((2 : Int32) * x6)) (mL_lm, mL_lp, mL_ls, mL_li, mL_lk, mL_lf) else f8_listMutants_L100 (fun x1_ x2_ x3_ x4_ x5_ x6_ c_mL => f8_listMutants_L44 k146 N mT_ty mT_te mQ_qc mQ_qb mQ_qp mQ_qr mQ_qC mN_nn mN_nk mN_na mN_nb mN_nc mN_ns n x1_ x2_ x3_ x4_ x5_ x6_ c_mL) N mT_ty mT_te mQ_qc mQ_qb mQ_qp mQ_qr mQ_qC mN_nn mN_nk mN_na mN_nb mN_nc mN_ns x1 x2 x3 x4 x5 x6 (0 : Int32) (mL_lm, mL_lp, mL_ls, mL_li, mL_lk, mL_lf) else (f8_signOf x5 x6).bind fun r_19 => f8_listMutants_L100 (fun x1_ x2_ x3_ x4_ x5_ x6_ c_mL => f8_listMutants_L44 k146 N mT_ty mT_te mQ_qc mQ_qb mQ_qp mQ_qr mQ_qC mN_nn mN_nk mN_na mN_nb mN_nc mN_ns n x1_ x2_ x3_ x4_ x5_ x6_ c_mL) N mT_ty mT_te mQ_qc mQ_qb mQ_qp mQ_qr mQ_qC mN_nn mN_nk mN_na mN_nb mN_nc mN_ns x1 x2 x3 x4 x5 x6 r_19 (mL_lm, mL_lp, mL_ls, mL_li, mL_lk, mL_lf)

def f8_listMutants_L4 (k152 : Int32 → MdL → Option (Int32 × MdL)) (N : Nat) (mT_ty : Int32) (mT_te : Nat → Int32) (mQ_qc : Int32) (mQ_qb : Int32) (mQ_qp : Int32) (mQ_qr : Int32) (mQ_qC : Int32) (mN_nn : Int32) (mN_nk : Nat → Int32) (mN_na : Nat → Int32) (mN_nb : Nat → Int32) (mN_nc : Nat → Int32) (mN_ns : Nat → Int32) : Nat → Int32 → Int32 → Int32 → MdL → Option (Int32 × MdL)
  | 0, _, _, _, _ => none
  | n + 1, x1, x2, x3, (mL_lm, mL_lp, mL_ls, mL_li, mL_lk, mL_lf) =>
    if mT_ty ≤ x3 then k152 x2 (mL_lm, mL_lp, mL_ls, mL_li, mL_lk, mL_lf) else (f8_nodeAt N x3 (mQ_qc, mQ_qb, mQ_qp, mQ_qr, mQ_qC) (mN_nn, mN_nk, mN_na, mN_nb, mN_nc, mN_ns)).bind fun r_2 => if r_2 = (-1 : Int32) then f8_listMutants_L44 (fun x1_22 x2_22 x3_22 (mL_lm_22, mL_lp_22, mL_ls_22, mL_li_22, mL_lk_22, mL_lf_22) => nm_v (x3_22 + (1 : Int32)) (fun v3_23 => f8_listMutants_L4 k152 N mT_ty mT_te mQ_qc mQ_qb mQ_qp mQ_qr mQ_qC mN_nn mN_nk mN_na mN_nb mN_nc mN_ns n x1_22 x2_22 v3_23 (mL_lm_22, mL_lp_22, mL_ls_22, mL_li_22, mL_lk_22, mL_lf_22))) N mT_ty mT_te mQ_qc mQ_qb mQ_qp mQ_qr mQ_qC mN_nn mN_nk mN_na mN_nb mN_nc mN_ns N x1 x2 x3 r_2 (0 : Int32) (0 : Int32) (mL_lm, mL_lp, mL_ls, mL_li, mL_lk, mL_lf) else if r_2 < 0 ∨ 512 ≤ r_2.toNatClampNeg then none else (f8_kindOf (mN_nk r_2.toNatClampNeg)).bind fun r_4 => f8_listMutants_L44 (fun x1_20 x2_20 x3_20 (mL_lm_20, mL_lp_20, mL_ls_20, mL_li_20, mL_lk_20, mL_lf_20) => nm_v (x3_20 + (1 : Int32)) (fun v3_21 => f8_listMutants_L4 k152 N mT_ty mT_te mQ_qc mQ_qb mQ_qp mQ_qr mQ_qC mN_nn mN_nk mN_na mN_nb mN_nc mN_ns n x1_20 x2_20 v3_21 (mL_lm_20, mL_lp_20, mL_ls_20, mL_li_20, mL_lk_20, mL_lf_20))) N mT_ty mT_te mQ_qc mQ_qb mQ_qp mQ_qr mQ_qC mN_nn mN_nk mN_na mN_nb mN_nc mN_ns N x1 x2 x3 r_2 r_4 (0 : Int32) (mL_lm, mL_lp, mL_ls, mL_li, mL_lk, mL_lf)
def f8_listMutants (N : Nat) (v1 : Int32) : MdT → MdQ → MdN → MdL → Option (Int32 × MdL)
  | (mT_ty, mT_te), (mQ_qc, mQ_qb, mQ_qp, mQ_qr, mQ_qC), (mN_nn, mN_nk, mN_na, mN_nb, mN_nc, mN_ns), (mL_lm, mL_lp, mL_ls, mL_li, mL_lk, mL_lf) =>
    f8_listMutants_L4 (fun x2_24 (mL_lm_24, mL_lp_24, mL_ls_24, mL_li_24, mL_lk_24, mL_lf_24) => some (x2_24, (mL_lm_24, mL_lp_24, mL_ls_24, mL_li_24, mL_lk_24, mL_lf_24))) N mT_ty mT_te mQ_qc mQ_qb mQ_qp mQ_qr mQ_qC mN_nn mN_nk mN_na mN_nb mN_nc mN_ns N v1 (0 : Int32) (0 : Int32) (mL_lm, mL_lp, mL_ls, mL_li, mL_lk, mL_lf)
set_option maxHeartbeats 4000000 in
set_option maxRecDepth 100000 in
theorem w8_listMutants_L123 {V : EV} {p : Program} {l : Launch} {e : Env} {R : Room} {s : State} {m : MethodId} {args : Array Value} {below : List Frame} {meth : Method} {c : Code} {Q : State → Prop} {A : Nat → Prop} {kc ks : Nat} {ad : Nat → Nat} {mK : MdK} {mP : MdP} {mH : MdH} {mR : MdR} {mG : MdG} {mT_ty : Int32} {mT_te : Nat → Int32} {mQ_qc : Int32} {mQ_qb : Int32} {mQ_qp : Int32} {mQ_qr : Int32} {mQ_qC : Int32} {mN_nn : Int32} {mN_nk : Nat → Int32} {mN_na : Nat → Int32} {mN_nb : Nat → Int32} {mN_nc : Nat → Int32} {mN_ns : Nat → Int32} {k44 : Int32 → Int32 → Int32 → Int32 → Int32 → Int32 → MdL → Option (Int32 × MdL)} {N : Nat} {res : Int32 × MdL} (C : CX V p l R s m args c A kc ks RX8 cX8_listMutants 8 1 24) (K : RI V p l e R s m args below meth c Q A kc ks 8 cX8_listMutants .int res.1 (wM V ad (mT_ty, mT_te) (mQ_qc, mQ_qb, mQ_qp, mQ_qr, mQ_qC) mK (mN_nn, mN_nk, mN_na, mN_nb, mN_nc, mN_ns) mP res.2 mH mR mG)) (hk44 : ∀ (x1 : Int32) (x2 : Int32) (x3 : Int32) (x4 : Int32) (x5 : Int32) (x6 : Int32) (mL_lm : Int32) (mL_lp : Nat → Int32) (mL_ls : Nat → Int32) (mL_li : Nat → Int32) (mL_lk : Nat → Int32) (mL_lf : Nat → Int32), k44 x1 x2 x3 x4 x5 x6 (mL_lm, mL_lp, mL_ls, mL_li, mL_lk, mL_lf) = some res → WC V p l e R s m args below meth c Q A kc ks 8 (wM V ad (mT_ty, mT_te) (mQ_qc, mQ_qb, mQ_qp, mQ_qr, mQ_qC) mK (mN_nn, mN_nk, mN_na, mN_nb, mN_nc, mN_ns) mP (mL_lm, mL_lp, mL_ls, mL_li, mL_lk, mL_lf) mH mR mG) 44 [(0, .ref (ad 0)), (1, .int x1), (2, .int x2), (3, .int x3), (4, .int x4), (5, .int x5), (6, .int x6)] []) : ∀ (x1 : Int32) (x2 : Int32) (x3 : Int32) (x4 : Int32) (x5 : Int32) (x6 : Int32) (x7 : Int32) (mL_lm : Int32) (mL_lp : Nat → Int32) (mL_ls : Nat → Int32) (mL_li : Nat → Int32) (mL_lk : Nat → Int32) (mL_lf : Nat → Int32), f8_listMutants_L123 k44 N mT_ty mT_te mQ_qc mQ_qb mQ_qp mQ_qr mQ_qC mN_nn mN_nk mN_na mN_nb mN_nc mN_ns x1 x2 x3 x4 x5 x6 x7 (mL_lm, mL_lp, mL_ls, mL_li, mL_lk, mL_lf) = some res → WC V p l e R s m args below meth c Q A kc ks 8 (wM V ad (mT_ty, mT_te) (mQ_qc, mQ_qb, mQ_qp, mQ_qr, mQ_qC) mK (mN_nn, mN_nk, mN_na, mN_nb, mN_nc, mN_ns) mP (mL_lm, mL_lp, mL_ls, mL_li, mL_lk, mL_lf) mH mR mG) 123 [(0, .ref (ad 0)), (1, .int x1), (2, .int x2), (3, .int x3), (4, .int x4), (5, .int x5), (6, .int x6), (7, .int x7)] [] := by
  intro x1 x2 x3 x4 x5 x6 x7 mL_lm mL_lp mL_ls mL_li mL_lk mL_lf hf
  rw [f8_listMutants_L123] at hf
  obtain ⟨v2_7, ev2_7⟩ : ∃ y : Int32, y = x2 + (1 : Int32) := ⟨_, rfl⟩
  replace hf := nm_el hf ev2_7
  refine k_iinc (v := v2_7) C dX8_listMutants_123 2 rfl (by rw [ev2_7]; rfl) [(2, .int v2_7), (0, .ref (ad 0)), (1, .int x1), (3, .int x3), (4, .int x4), (5, .int x5), (6, .int x6), (7, .int x7)] (by decide) rfl ?_
  refine k_iload_n C dX8_listMutants_126 2 rfl ?_
  refine k_if_eq C 140 dX8_listMutants_127 (by decide) (fun hc => ?_) (fun hc => ?_)
  · replace hf := (if_pos hc).symm.trans hf
    obtain ⟨v6_8, ev6_8⟩ : ∃ y : Int32, y = x6 + (1 : Int32) := ⟨_, rfl⟩
    replace hf := nm_el hf ev6_8
    refine k_iinc (v := v6_8) C dX8_listMutants_140 6 rfl (by rw [ev6_8]; rfl) [(6, .int v6_8), (2, .int v2_7), (0, .ref (ad 0)), (1, .int x1), (3, .int x3), (4, .int x4), (5, .int x5), (7, .int x7)] (by decide) rfl ?_
    refine k_goto C 44 dX8_listMutants_143 (by decide) ?_
    refine k_sub [2, 3, 1, 4, 5, 6, 0] (L' := [(0, .ref (ad 0)), (1, .int x1), (2, .int v2_7), (3, .int x3), (4, .int x4), (5, .int x5), (6, .int v6_8)]) rfl ?_
    exact hk44 _ _ _ _ _ _ _ _ _ _ _ _ hf
  · replace hf := (if_neg hc).symm.trans hf
    refine k_aload_n C dX8_listMutants_130 1 rfl ?_
    refine k_iload_n C dX8_listMutants_131 0 rfl ?_
    refine k_iload_n C dX8_listMutants_132 3 rfl ?_
    refine k_iload C dX8_listMutants_133 5 rfl ?_
    refine k_iload C dX8_listMutants_135 7 rfl ?_
    obtain ⟨⟨mL_lm_10, mL_lp_11, mL_ls_12, mL_li_13, mL_lk_14, mL_lf_15⟩, hq_9, hf⟩ := ob_el hf
    dsimp only at hf
    refine k_callVv C (c8_note C.2.2.2.2.2.2.2.2.2.1 hq_9) cm8_247 ok8_note (by decide) 0 rfl rfl rfl rfl (Nat.le_of_ble_eq_true rfl) dX8_listMutants_137 ?_
    obtain ⟨v6_16, ev6_16⟩ : ∃ y : Int32, y = x6 + (1 : Int32) := ⟨_, rfl⟩
    replace hf := nm_el hf ev6_16
    refine k_iinc (v := v6_16) C dX8_listMutants_140 6 rfl (by rw [ev6_16]; rfl) [(6, .int v6_16), (2, .int v2_7), (0, .ref (ad 0)), (1, .int x1), (3, .int x3), (4, .int x4), (5, .int x5), (7, .int x7)] (by decide) rfl ?_
    refine k_goto C 44 dX8_listMutants_143 (by decide) ?_
    refine k_sub [2, 3, 1, 4, 5, 6, 0] (L' := [(0, .ref (ad 0)), (1, .int x1), (2, .int v2_7), (3, .int x3), (4, .int x4), (5, .int x5), (6, .int v6_16)]) rfl ?_
    exact hk44 _ _ _ _ _ _ _ _ _ _ _ _ hf

set_option maxHeartbeats 4000000 in
set_option maxRecDepth 100000 in
theorem w8_listMutants_L100 {V : EV} {p : Program} {l : Launch} {e : Env} {R : Room} {s : State} {m : MethodId} {args : Array Value} {below : List Frame} {meth : Method} {c : Code} {Q : State → Prop} {A : Nat → Prop} {kc ks : Nat} {ad : Nat → Nat} {mK : MdK} {mP : MdP} {mH : MdH} {mR : MdR} {mG : MdG} {mT_ty : Int32} {mT_te : Nat → Int32} {mQ_qc : Int32} {mQ_qb : Int32} {mQ_qp : Int32} {mQ_qr : Int32} {mQ_qC : Int32} {mN_nn : Int32} {mN_nk : Nat → Int32} {mN_na : Nat → Int32} {mN_nb : Nat → Int32} {mN_nc : Nat → Int32} {mN_ns : Nat → Int32} {k44 : Int32 → Int32 → Int32 → Int32 → Int32 → Int32 → MdL → Option (Int32 × MdL)} {N : Nat} {res : Int32 × MdL} (C : CX V p l R s m args c A kc ks RX8 cX8_listMutants 8 1 24) (K : RI V p l e R s m args below meth c Q A kc ks 8 cX8_listMutants .int res.1 (wM V ad (mT_ty, mT_te) (mQ_qc, mQ_qb, mQ_qp, mQ_qr, mQ_qC) mK (mN_nn, mN_nk, mN_na, mN_nb, mN_nc, mN_ns) mP res.2 mH mR mG)) (hk44 : ∀ (x1 : Int32) (x2 : Int32) (x3 : Int32) (x4 : Int32) (x5 : Int32) (x6 : Int32) (mL_lm : Int32) (mL_lp : Nat → Int32) (mL_ls : Nat → Int32) (mL_li : Nat → Int32) (mL_lk : Nat → Int32) (mL_lf : Nat → Int32), k44 x1 x2 x3 x4 x5 x6 (mL_lm, mL_lp, mL_ls, mL_li, mL_lk, mL_lf) = some res → WC V p l e R s m args below meth c Q A kc ks 8 (wM V ad (mT_ty, mT_te) (mQ_qc, mQ_qb, mQ_qp, mQ_qr, mQ_qC) mK (mN_nn, mN_nk, mN_na, mN_nb, mN_nc, mN_ns) mP (mL_lm, mL_lp, mL_ls, mL_li, mL_lk, mL_lf) mH mR mG) 44 [(0, .ref (ad 0)), (1, .int x1), (2, .int x2), (3, .int x3), (4, .int x4), (5, .int x5), (6, .int x6)] []) : ∀ (x1 : Int32) (x2 : Int32) (x3 : Int32) (x4 : Int32) (x5 : Int32) (x6 : Int32) (y0 : Int32) (mL_lm : Int32) (mL_lp : Nat → Int32) (mL_ls : Nat → Int32) (mL_li : Nat → Int32) (mL_lk : Nat → Int32) (mL_lf : Nat → Int32), f8_listMutants_L100 k44 N mT_ty mT_te mQ_qc mQ_qb mQ_qp mQ_qr mQ_qC mN_nn mN_nk mN_na mN_nb mN_nc mN_ns x1 x2 x3 x4 x5 x6 y0 (mL_lm, mL_lp, mL_ls, mL_li, mL_lk, mL_lf) = some res → WC V p l e R s m args below meth c Q A kc ks 8 (wM V ad (mT_ty, mT_te) (mQ_qc, mQ_qb, mQ_qp, mQ_qr, mQ_qC) mK (mN_nn, mN_nk, mN_na, mN_nb, mN_nc, mN_ns) mP (mL_lm, mL_lp, mL_ls, mL_li, mL_lk, mL_lf) mH mR mG) 100 [(0, .ref (ad 0)), (1, .int x1), (2, .int x2), (3, .int x3), (4, .int x4), (5, .int x5), (6, .int x6)] [.int y0] := by
  intro x1 x2 x3 x4 x5 x6 y0 mL_lm mL_lp mL_ls mL_li mL_lk mL_lf hf
  rw [f8_listMutants_L100] at hf
  refine k_istore C dX8_listMutants_100 [(7, .int y0), (0, .ref (ad 0)), (1, .int x1), (2, .int x2), (3, .int x3), (4, .int x4), (5, .int x5), (6, .int x6)] (by decide) rfl ?_
  refine k_iload C dX8_listMutants_102 6 rfl ?_
  refine k_iconst (v := (3 : Int32)) C dX8_listMutants_104 (by decide) ?_
  refine k_icmp_ge C 123 dX8_listMutants_105 (by decide) (fun hc => ?_) (fun hc => ?_)
  · replace hf := (if_pos hc).symm.trans hf
    refine k_sub [1, 2, 3, 4, 5, 6, 7, 0] (L' := [(0, .ref (ad 0)), (1, .int x1), (2, .int x2), (3, .int x3), (4, .int x4), (5, .int x5), (6, .int x6), (7, .int y0)]) rfl ?_
    exact w8_listMutants_L123 C K hk44 _ _ _ _ _ _ _ _ _ _ _ _ _ hf
  · replace hf := (if_neg hc).symm.trans hf
    refine k_iload C dX8_listMutants_108 0 rfl ?_
    refine k_aload_n C dX8_listMutants_110 1 rfl ?_
    refine g8_25 C dX8_listMutants_111 ?_
    refine k_iload C dX8_listMutants_114 5 rfl ?_
    obtain ⟨hi, hf⟩ := gd_no hf
    refine lm6 C hi dX8_listMutants_116 ?_
    refine k_icmp_ne C 123 dX8_listMutants_117 (by decide) (fun hc => ?_) (fun hc => ?_)
    · replace hf := (if_neg hc).symm.trans hf
      refine k_sub [1, 2, 3, 4, 5, 6, 7, 0] (L' := [(0, .ref (ad 0)), (1, .int x1), (2, .int x2), (3, .int x3), (4, .int x4), (5, .int x5), (6, .int x6), (7, .int y0)]) rfl ?_
      exact w8_listMutants_L123 C K hk44 _ _ _ _ _ _ _ _ _ _ _ _ _ hf
    · replace hf := (if_pos hc).symm.trans hf
      refine k_goto C 140 dX8_listMutants_120 (by decide) ?_
      obtain ⟨v6_17, ev6_17⟩ : ∃ y : Int32, y = x6 + (1 : Int32) := ⟨_, rfl⟩
      replace hf := nm_el hf ev6_17
      refine k_iinc (v := v6_17) C dX8_listMutants_140 7 rfl (by rw [ev6_17]; rfl) [(6, .int v6_17), (7, .int y0), (0, .ref (ad 0)), (1, .int x1), (2, .int x2), (3, .int x3), (4, .int x4), (5, .int x5)] (by decide) rfl ?_
      refine k_goto C 44 dX8_listMutants_143 (by decide) ?_
      refine k_sub [2, 3, 4, 5, 6, 7, 0] (L' := [(0, .ref (ad 0)), (1, .int x1), (2, .int x2), (3, .int x3), (4, .int x4), (5, .int x5), (6, .int v6_17)]) rfl ?_
      exact hk44 _ _ _ _ _ _ _ _ _ _ _ _ hf

set_option maxHeartbeats 4000000 in
set_option maxRecDepth 100000 in
theorem w8_listMutants_L44 {V : EV} {p : Program} {l : Launch} {e : Env} {R : Room} {s : State} {m : MethodId} {args : Array Value} {below : List Frame} {meth : Method} {c : Code} {Q : State → Prop} {A : Nat → Prop} {kc ks : Nat} {ad : Nat → Nat} {mK : MdK} {mP : MdP} {mH : MdH} {mR : MdR} {mG : MdG} {mT_ty : Int32} {mT_te : Nat → Int32} {mQ_qc : Int32} {mQ_qb : Int32} {mQ_qp : Int32} {mQ_qr : Int32} {mQ_qC : Int32} {mN_nn : Int32} {mN_nk : Nat → Int32} {mN_na : Nat → Int32} {mN_nb : Nat → Int32} {mN_nc : Nat → Int32} {mN_ns : Nat → Int32} {k146 : Int32 → Int32 → Int32 → MdL → Option (Int32 × MdL)} {N : Nat} {res : Int32 × MdL} (C : CX V p l R s m args c A kc ks RX8 cX8_listMutants 8 1 24) (K : RI V p l e R s m args below meth c Q A kc ks 8 cX8_listMutants .int res.1 (wM V ad (mT_ty, mT_te) (mQ_qc, mQ_qb, mQ_qp, mQ_qr, mQ_qC) mK (mN_nn, mN_nk, mN_na, mN_nb, mN_nc, mN_ns) mP res.2 mH mR mG)) (hk146 : ∀ (x1 : Int32) (x2 : Int32) (x3 : Int32) (mL_lm : Int32) (mL_lp : Nat → Int32) (mL_ls : Nat → Int32) (mL_li : Nat → Int32) (mL_lk : Nat → Int32) (mL_lf : Nat → Int32), k146 x1 x2 x3 (mL_lm, mL_lp, mL_ls, mL_li, mL_lk, mL_lf) = some res → WC V p l e R s m args below meth c Q A kc ks 8 (wM V ad (mT_ty, mT_te) (mQ_qc, mQ_qb, mQ_qp, mQ_qr, mQ_qC) mK (mN_nn, mN_nk, mN_na, mN_nb, mN_nc, mN_ns) mP (mL_lm, mL_lp, mL_ls, mL_li, mL_lk, mL_lf) mH mR mG) 146 [(0, .ref (ad 0)), (1, .int x1), (2, .int x2), (3, .int x3)] []) : ∀ (n : Nat) (x1 : Int32) (x2 : Int32) (x3 : Int32) (x4 : Int32) (x5 : Int32) (x6 : Int32) (mL_lm : Int32) (mL_lp : Nat → Int32) (mL_ls : Nat → Int32) (mL_li : Nat → Int32) (mL_lk : Nat → Int32) (mL_lf : Nat → Int32), f8_listMutants_L44 k146 N mT_ty mT_te mQ_qc mQ_qb mQ_qp mQ_qr mQ_qC mN_nn mN_nk mN_na mN_nb mN_nc mN_ns n x1 x2 x3 x4 x5 x6 (mL_lm, mL_lp, mL_ls, mL_li, mL_lk, mL_lf) = some res → WC V p l e R s m args below meth c Q A kc ks 8 (wM V ad (mT_ty, mT_te) (mQ_qc, mQ_qb, mQ_qp, mQ_qr, mQ_qC) mK (mN_nn, mN_nk, mN_na, mN_nb, mN_nc, mN_ns) mP (mL_lm, mL_lp, mL_ls, mL_li, mL_lk, mL_lf) mH mR mG) 44 [(0, .ref (ad 0)), (1, .int x1), (2, .int x2), (3, .int x3), (4, .int x4), (5, .int x5), (6, .int x6)] [] := by
  intro n
  induction n with
  | zero => intro _ _ _ _ _ _ _ _ _ _ _ _ hf; exact nomatch (show none = some res from hf)
  | succ n ih =>
    intro x1 x2 x3 x4 x5 x6 mL_lm mL_lp mL_ls mL_li mL_lk mL_lf hf
    rw [f8_listMutants_L44] at hf
    refine k_iload C dX8_listMutants_44 4 rfl ?_
    refine k_iconst (v := (-1 : Int32)) C dX8_listMutants_46 (by decide) ?_
    refine k_icmp_eq C 146 dX8_listMutants_47 (by decide) (fun hc => ?_) (fun hc => ?_)
    · replace hf := (if_pos hc).symm.trans hf
      refine k_sub [0, 1, 2, 3] (L' := [(0, .ref (ad 0)), (1, .int x1), (2, .int x2), (3, .int x3)]) rfl ?_
      exact hk146 _ _ _ _ _ _ _ _ _ hf
    · replace hf := (if_neg hc).symm.trans hf
      refine k_iload C dX8_listMutants_50 6 rfl ?_
      refine k_iload C dX8_listMutants_52 5 rfl ?_
      obtain ⟨r_6, hq_5, hf⟩ := ob_el hf
      refine k_callSi C (c8_waysOf C.2.2.2.2.2.2.2.2.2.1 hq_5) cm8_240 ok8_waysOf (by decide) rfl rfl (Nat.le_of_ble_eq_true rfl) dX8_listMutants_54 ?_
      refine k_icmp_ge C 146 dX8_listMutants_57 (by decide) (fun hc => ?_) (fun hc => ?_)
      · replace hf := (if_pos hc).symm.trans hf
        refine k_sub [0, 1, 2, 3] (L' := [(0, .ref (ad 0)), (1, .int x1), (2, .int x2), (3, .int x3)]) rfl ?_
        exact hk146 _ _ _ _ _ _ _ _ _ hf
      · replace hf := (if_neg hc).symm.trans hf
        refine k_iload C dX8_listMutants_60 5 rfl ?_
        refine k_iconst (v := (3 : Int32)) C dX8_listMutants_62 (by decide) ?_
        refine k_icmp_ge C 76 dX8_listMutants_63 (by decide) (fun hc => ?_) (fun hc => ?_)
        · replace hf := (if_pos hc).symm.trans hf
          refine k_iload C dX8_listMutants_76 5 rfl ?_
          refine k_iconst (v := (3 : Int32)) C dX8_listMutants_78 (by decide) ?_
          refine k_icmp_ne C 99 dX8_listMutants_79 (by decide) (fun hc => ?_) (fun hc => ?_)
          · replace hf := (if_neg hc).symm.trans hf
            refine k_iconst (v := (0 : Int32)) C dX8_listMutants_99 (by decide) ?_
            exact w8_listMutants_L100 C K ih _ _ _ _ _ _ _ _ _ _ _ _ _ hf
          · replace hf := (if_pos hc).symm.trans hf
            refine k_aload_n C dX8_listMutants_82 0 rfl ?_
            refine g8_25 C dX8_listMutants_83 ?_
            refine k_iload C dX8_listMutants_86 4 rfl ?_
            obtain ⟨hi, hf⟩ := gd_no hf
            refine lm6 C hi dX8_listMutants_88 ?_
            refine k_iconst (v := (1 : Int32)) C dX8_listMutants_89 (by decide) ?_
            refine k_iadd C dX8_listMutants_90 ?_
            refine k_iconst (v := (2 : Int32)) C dX8_listMutants_91 (by decide) ?_
            refine k_iload C dX8_listMutants_92 6 rfl ?_
            refine k_imul C dX8_listMutants_94 ?_
            refine k_isub C dX8_listMutants_95 ?_
            refine k_goto C 100 dX8_listMutants_96 (by decide) ?_
            exact w8_listMutants_L100 C K ih _ _ _ _ _ _ _ _ _ _ _ _ _ hf
        · replace hf := (if_neg hc).symm.trans hf
          refine k_iload C dX8_listMutants_66 5 rfl ?_
          refine k_iload C dX8_listMutants_68 6 rfl ?_
          obtain ⟨r_19, hq_18, hf⟩ := ob_el hf
          refine k_callSi C (c8_signOf C.2.2.2.2.2.2.2.2.2.1 hq_18) cm8_243 ok8_signOf (by decide) rfl rfl (Nat.le_of_ble_eq_true rfl) dX8_listMutants_70 ?_
          refine k_goto C 100 dX8_listMutants_73 (by decide) ?_
          exact w8_listMutants_L100 C K ih _ _ _ _ _ _ _ _ _ _ _ _ _ hf

set_option maxHeartbeats 4000000 in
set_option maxRecDepth 100000 in
theorem w8_listMutants_L4 {V : EV} {p : Program} {l : Launch} {e : Env} {R : Room} {s : State} {m : MethodId} {args : Array Value} {below : List Frame} {meth : Method} {c : Code} {Q : State → Prop} {A : Nat → Prop} {kc ks : Nat} {ad : Nat → Nat} {mK : MdK} {mP : MdP} {mH : MdH} {mR : MdR} {mG : MdG} {mT_ty : Int32} {mT_te : Nat → Int32} {mQ_qc : Int32} {mQ_qb : Int32} {mQ_qp : Int32} {mQ_qr : Int32} {mQ_qC : Int32} {mN_nn : Int32} {mN_nk : Nat → Int32} {mN_na : Nat → Int32} {mN_nb : Nat → Int32} {mN_nc : Nat → Int32} {mN_ns : Nat → Int32} {k152 : Int32 → MdL → Option (Int32 × MdL)} {N : Nat} {res : Int32 × MdL} (C : CX V p l R s m args c A kc ks RX8 cX8_listMutants 8 1 24) (K : RI V p l e R s m args below meth c Q A kc ks 8 cX8_listMutants .int res.1 (wM V ad (mT_ty, mT_te) (mQ_qc, mQ_qb, mQ_qp, mQ_qr, mQ_qC) mK (mN_nn, mN_nk, mN_na, mN_nb, mN_nc, mN_ns) mP res.2 mH mR mG)) (hk152 : ∀ (x2 : Int32) (mL_lm : Int32) (mL_lp : Nat → Int32) (mL_ls : Nat → Int32) (mL_li : Nat → Int32) (mL_lk : Nat → Int32) (mL_lf : Nat → Int32), k152 x2 (mL_lm, mL_lp, mL_ls, mL_li, mL_lk, mL_lf) = some res → WC V p l e R s m args below meth c Q A kc ks 8 (wM V ad (mT_ty, mT_te) (mQ_qc, mQ_qb, mQ_qp, mQ_qr, mQ_qC) mK (mN_nn, mN_nk, mN_na, mN_nb, mN_nc, mN_ns) mP (mL_lm, mL_lp, mL_ls, mL_li, mL_lk, mL_lf) mH mR mG) 152 [(2, .int x2)] []) : ∀ (n : Nat) (x1 : Int32) (x2 : Int32) (x3 : Int32) (mL_lm : Int32) (mL_lp : Nat → Int32) (mL_ls : Nat → Int32) (mL_li : Nat → Int32) (mL_lk : Nat → Int32) (mL_lf : Nat → Int32), f8_listMutants_L4 k152 N mT_ty mT_te mQ_qc mQ_qb mQ_qp mQ_qr mQ_qC mN_nn mN_nk mN_na mN_nb mN_nc mN_ns n x1 x2 x3 (mL_lm, mL_lp, mL_ls, mL_li, mL_lk, mL_lf) = some res → WC V p l e R s m args below meth c Q A kc ks 8 (wM V ad (mT_ty, mT_te) (mQ_qc, mQ_qb, mQ_qp, mQ_qr, mQ_qC) mK (mN_nn, mN_nk, mN_na, mN_nb, mN_nc, mN_ns) mP (mL_lm, mL_lp, mL_ls, mL_li, mL_lk, mL_lf) mH mR mG) 4 [(0, .ref (ad 0)), (1, .int x1), (2, .int x2), (3, .int x3)] [] := by
  intro n
  induction n with
  | zero => intro _ _ _ _ _ _ _ _ _ hf; exact nomatch (show none = some res from hf)
  | succ n ih =>
    intro x1 x2 x3 mL_lm mL_lp mL_ls mL_li mL_lk mL_lf hf
    rw [f8_listMutants_L4] at hf
    refine k_iload_n C dX8_listMutants_4 3 rfl ?_
    refine k_aload_n C dX8_listMutants_5 0 rfl ?_
    refine g8_129 C dX8_listMutants_6 ?_
    refine k_icmp_ge C 152 dX8_listMutants_9 (by decide) (fun hc => ?_) (fun hc => ?_)
    · replace hf := (if_pos hc).symm.trans hf
      refine k_sub [2] (L' := [(2, .int x2)]) rfl ?_
      exact hk152 _ _ _ _ _ _ _ hf
    · replace hf := (if_neg hc).symm.trans hf
      refine k_aload_n C dX8_listMutants_12 0 rfl ?_
      refine k_iload_n C dX8_listMutants_13 3 rfl ?_
      obtain ⟨r_2, hq_1, hf⟩ := ob_el hf
      refine k_callVi C (c8_nodeAt C.2.2.2.2.2.2.2.2.2.1 hq_1) cm8_233 ok8_nodeAt (by decide) 0 rfl rfl rfl rfl (Nat.le_of_ble_eq_true rfl) dX8_listMutants_14 ?_
      refine k_istore C dX8_listMutants_17 [(4, .int r_2), (0, .ref (ad 0)), (1, .int x1), (2, .int x2), (3, .int x3)] (by decide) rfl ?_
      refine k_iload C dX8_listMutants_19 0 rfl ?_
      refine k_iconst (v := (-1 : Int32)) C dX8_listMutants_21 (by decide) ?_
      refine k_icmp_ne C 29 dX8_listMutants_22 (by decide) (fun hc => ?_) (fun hc => ?_)
      · replace hf := (if_neg hc).symm.trans hf
        refine k_aload_n C dX8_listMutants_29 1 rfl ?_
        refine g8_22 C dX8_listMutants_30 ?_
        refine k_iload C dX8_listMutants_33 0 rfl ?_
        obtain ⟨hi, hf⟩ := gd_no hf
        refine lm5 C hi dX8_listMutants_35 ?_
        obtain ⟨r_4, hq_3, hf⟩ := ob_el hf
        refine k_callSi C (c8_kindOf C.2.2.2.2.2.2.2.2.2.1 hq_3) cm8_237 ok8_kindOf (by decide) rfl rfl (Nat.le_of_ble_eq_true rfl) dX8_listMutants_36 ?_
        refine k_istore C dX8_listMutants_39 [(5, .int r_4), (4, .int r_2), (0, .ref (ad 0)), (1, .int x1), (2, .int x2), (3, .int x3)] (by decide) rfl ?_
        refine k_iconst (v := (0 : Int32)) C dX8_listMutants_41 (by decide) ?_
        refine k_istore C dX8_listMutants_42 [(6, .int (0 : Int32)), (5, .int r_4), (4, .int r_2), (0, .ref (ad 0)), (1, .int x1), (2, .int x2), (3, .int x3)] (by decide) rfl ?_
        refine k_sub [3, 4, 5, 6, 2, 1, 0] (L' := [(0, .ref (ad 0)), (1, .int x1), (2, .int x2), (3, .int x3), (4, .int r_2), (5, .int r_4), (6, .int (0 : Int32))]) rfl ?_
        refine w8_listMutants_L44 C K ?_ _ _ _ _ _ _ _ _ _ _ _ _ _ hf
        · intro x1_20 x2_20 x3_20 mL_lm_20 mL_lp_20 mL_ls_20 mL_li_20 mL_lk_20 mL_lf_20 hf
          try dsimp only at hf
          obtain ⟨v3_21, ev3_21⟩ : ∃ y : Int32, y = x3_20 + (1 : Int32) := ⟨_, rfl⟩
          replace hf := nm_el hf ev3_21
          refine k_iinc (v := v3_21) C dX8_listMutants_146 3 rfl (by rw [ev3_21]; rfl) [(3, .int v3_21), (0, .ref (ad 0)), (1, .int x1_20), (2, .int x2_20)] (by decide) rfl ?_
          refine k_goto C 4 dX8_listMutants_149 (by decide) ?_
          refine k_sub [1, 2, 3, 0] (L' := [(0, .ref (ad 0)), (1, .int x1_20), (2, .int x2_20), (3, .int v3_21)]) rfl ?_
          exact ih _ _ _ _ _ _ _ _ _ hf
      · replace hf := (if_pos hc).symm.trans hf
        refine k_iconst (v := (0 : Int32)) C dX8_listMutants_25 (by decide) ?_
        refine k_goto C 39 dX8_listMutants_26 (by decide) ?_
        refine k_istore C dX8_listMutants_39 [(5, .int (0 : Int32)), (4, .int r_2), (0, .ref (ad 0)), (1, .int x1), (2, .int x2), (3, .int x3)] (by decide) rfl ?_
        refine k_iconst (v := (0 : Int32)) C dX8_listMutants_41 (by decide) ?_
        refine k_istore C dX8_listMutants_42 [(6, .int (0 : Int32)), (5, .int (0 : Int32)), (4, .int r_2), (0, .ref (ad 0)), (1, .int x1), (2, .int x2), (3, .int x3)] (by decide) rfl ?_
        refine k_sub [3, 4, 5, 6, 2, 1, 0] (L' := [(0, .ref (ad 0)), (1, .int x1), (2, .int x2), (3, .int x3), (4, .int r_2), (5, .int (0 : Int32)), (6, .int (0 : Int32))]) rfl ?_
        refine w8_listMutants_L44 C K ?_ _ _ _ _ _ _ _ _ _ _ _ _ _ hf
        · intro x1_22 x2_22 x3_22 mL_lm_22 mL_lp_22 mL_ls_22 mL_li_22 mL_lk_22 mL_lf_22 hf
          try dsimp only at hf
          obtain ⟨v3_23, ev3_23⟩ : ∃ y : Int32, y = x3_22 + (1 : Int32) := ⟨_, rfl⟩
          replace hf := nm_el hf ev3_23
          refine k_iinc (v := v3_23) C dX8_listMutants_146 3 rfl (by rw [ev3_23]; rfl) [(3, .int v3_23), (0, .ref (ad 0)), (1, .int x1_22), (2, .int x2_22)] (by decide) rfl ?_
          refine k_goto C 4 dX8_listMutants_149 (by decide) ?_
          refine k_sub [1, 2, 3, 0] (L' := [(0, .ref (ad 0)), (1, .int x1_22), (2, .int x2_22), (3, .int v3_23)]) rfl ?_
          exact ih _ _ _ _ _ _ _ _ _ hf
set_option maxHeartbeats 4000000 in
set_option maxRecDepth 100000 in
theorem b8_listMutants {V : EV} {p : Program} {l : Launch} {e : Env} {R : Room} {s : State} {m : MethodId} {args : Array Value} {below : List Frame} {meth : Method} {c : Code} {Q : State → Prop} {A : Nat → Prop} {kc ks : Nat} {ad : Nat → Nat} {mK : MdK} {mP : MdP} {mH : MdH} {mR : MdR} {mG : MdG} {mT_ty : Int32} {mT_te : Nat → Int32} {mQ_qc : Int32} {mQ_qb : Int32} {mQ_qp : Int32} {mQ_qr : Int32} {mQ_qC : Int32} {mN_nn : Int32} {mN_nk : Nat → Int32} {mN_na : Nat → Int32} {mN_nb : Nat → Int32} {mN_nc : Nat → Int32} {mN_ns : Nat → Int32} {v1 : Int32} {mL_lm : Int32} {mL_lp : Nat → Int32} {mL_ls : Nat → Int32} {mL_li : Nat → Int32} {mL_lk : Nat → Int32} {mL_lf : Nat → Int32} {N : Nat} {res : Int32 × MdL} (C : CX V p l R s m args c A kc ks RX8 cX8_listMutants 8 1 24) (hf : f8_listMutants N v1 (mT_ty, mT_te) (mQ_qc, mQ_qb, mQ_qp, mQ_qr, mQ_qC) (mN_nn, mN_nk, mN_na, mN_nb, mN_nc, mN_ns) (mL_lm, mL_lp, mL_ls, mL_li, mL_lk, mL_lf) = some res) (K : RI V p l e R s m args below meth c Q A kc ks 8 cX8_listMutants .int res.1 (wM V ad (mT_ty, mT_te) (mQ_qc, mQ_qb, mQ_qp, mQ_qr, mQ_qC) mK (mN_nn, mN_nk, mN_na, mN_nb, mN_nc, mN_ns) mP res.2 mH mR mG)) : WC V p l e R s m args below meth c Q A kc ks 8 (wM V ad (mT_ty, mT_te) (mQ_qc, mQ_qb, mQ_qp, mQ_qr, mQ_qC) mK (mN_nn, mN_nk, mN_na, mN_nb, mN_nc, mN_ns) mP (mL_lm, mL_lp, mL_ls, mL_li, mL_lk, mL_lf) mH mR mG) 0 [(0, .ref (ad 0)), (1, .int v1)] [] := by
  rw [f8_listMutants] at hf
  refine k_iconst (v := (0 : Int32)) C dX8_listMutants_0 (by decide) ?_
  refine k_istore_n C dX8_listMutants_1 [(2, .int (0 : Int32)), (0, .ref (ad 0)), (1, .int v1)] (by decide) rfl ?_
  refine k_iconst (v := (0 : Int32)) C dX8_listMutants_2 (by decide) ?_
  refine k_istore_n C dX8_listMutants_3 [(3, .int (0 : Int32)), (2, .int (0 : Int32)), (0, .ref (ad 0)), (1, .int v1)] (by decide) rfl ?_
  refine k_sub [2, 3, 1, 0] (L' := [(0, .ref (ad 0)), (1, .int v1), (2, .int (0 : Int32)), (3, .int (0 : Int32))]) rfl ?_
  refine w8_listMutants_L4 C K ?_ _ _ _ _ _ _ _ _ _ _ hf
  · intro x2_24 mL_lm_24 mL_lp_24 mL_ls_24 mL_li_24 mL_lk_24 mL_lf_24 hf
    try dsimp only at hf
    refine k_iload_n C dX8_listMutants_152 0 rfl ?_
    cases hf
    exact K _ _ dX8_listMutants_153 rfl
theorem c8_listMutants {V : EV} {l : Launch} (hl0 : l.stackTraces = false) {ad : Nat → Nat} {mK : MdK} {mP : MdP} {mH : MdH} {mR : MdR} {mG : MdG} {mT_ty : Int32} {mT_te : Nat → Int32} {mQ_qc : Int32} {mQ_qb : Int32} {mQ_qp : Int32} {mQ_qr : Int32} {mQ_qC : Int32} {mN_nn : Int32} {mN_nk : Nat → Int32} {mN_na : Nat → Int32} {mN_nb : Nat → Int32} {mN_nc : Nat → Int32} {mN_ns : Nat → Int32} {v1 : Int32} {mL_lm : Int32} {mL_lp : Nat → Int32} {mL_ls : Nat → Int32} {mL_li : Nat → Int32} {mL_lk : Nat → Int32} {mL_lf : Nat → Int32} {N : Nat} {res : Int32 × MdL} (hf : f8_listMutants N v1 (mT_ty, mT_te) (mQ_qc, mQ_qb, mQ_qp, mQ_qr, mQ_qC) (mN_nn, mN_nk, mN_na, mN_nb, mN_nc, mN_ns) (mL_lm, mL_lp, mL_ls, mL_li, mL_lk, mL_lf) = some res) : MI V l yX8_listMutants cX8_listMutants 8 .int 1 24 [.ref (ad 0), .int v1] (wM V ad (mT_ty, mT_te) (mQ_qc, mQ_qb, mQ_qp, mQ_qr, mQ_qC) mK (mN_nn, mN_nk, mN_na, mN_nb, mN_nc, mN_ns) mP (mL_lm, mL_lp, mL_ls, mL_li, mL_lk, mL_lf) mH mR mG) res.1 (wM V ad (mT_ty, mT_te) (mQ_qc, mQ_qb, mQ_qp, mQ_qr, mQ_qC) mK (mN_nn, mN_nk, mN_na, mN_nb, mN_nc, mN_ns) mP res.2 mH mR mG) :=
  mi_of hl0 (by decide +kernel) (Nat.le_of_ble_eq_true rfl) (fun p e R s m args below meth c Q A C K => b8_listMutants C hf K)

theorem ok8_number : okCV RX8 yX8_number 4 := by unfold okCV; decide +kernel
def f8_number_L32 (k95 : Int32 → Int32 → Int32 → Int32 → Int32 → Int32 → MdH → Option (Int32 × MdH)) (N : Nat)  : Nat → Int32 → Int32 → Int32 → Int32 → Int32 → Int32 → MdH → Option (Int32 × MdH)
  | 0, _, _, _, _, _, _, _ => none
  | n + 1, x1, x2, x3, x4, x5, x6, (mH_ht, mH_hK, mH_hA, mH_hB, mH_hC, mH_hN, mH_h1, mH_hT, mH_hR) =>
    if x6 = (-1 : Int32) then k95 x1 x2 x3 x4 x5 x6 (mH_ht, mH_hK, mH_hA, mH_hB, mH_hC, mH_hN, mH_h1, mH_hT, mH_hR) else if x6 < 0 ∨ 4200 ≤ x6.toNatClampNeg then none else if (mH_hK x6.toNatClampNeg) = x1 then if x6 < 0 ∨ 4200 ≤ x6.toNatClampNeg then none else if (mH_hA x6.toNatClampNeg) = x2 then if x6 < 0 ∨ 4200 ≤ x6.toNatClampNeg then none else if (mH_hB x6.toNatClampNeg) = x3 then if x6 < 0 ∨ 4200 ≤ x6.toNatClampNeg then none else if (mH_hC x6.toNatClampNeg) = x4 then k95 x1 x2 x3 x4 x5 x6 (mH_ht, mH_hK, mH_hA, mH_hB, mH_hC, mH_hN, mH_h1, mH_hT, mH_hR) else if x6 < 0 ∨ 4200 ≤ x6.toNatClampNeg then none else nm_v (mH_hN x6.toNatClampNeg) (fun v6_6 => f8_number_L32 k95 N n x1 x2 x3 x4 x5 v6_6 (mH_ht, mH_hK, mH_hA, mH_hB, mH_hC, mH_hN, mH_h1, mH_hT, mH_hR)) else if x6 < 0 ∨ 4200 ≤ x6.toNatClampNeg then none else nm_v (mH_hN x6.toNatClampNeg) (fun v6_5 => f8_number_L32 k95 N n x1 x2 x3 x4 x5 v6_5 (mH_ht, mH_hK, mH_hA, mH_hB, mH_hC, mH_hN, mH_h1, mH_hT, mH_hR)) else if x6 < 0 ∨ 4200 ≤ x6.toNatClampNeg then none else nm_v (mH_hN x6.toNatClampNeg) (fun v6_4 => f8_number_L32 k95 N n x1 x2 x3 x4 x5 v6_4 (mH_ht, mH_hK, mH_hA, mH_hB, mH_hC, mH_hN, mH_h1, mH_hT, mH_hR)) else if x6 < 0 ∨ 4200 ≤ x6.toNatClampNeg then none else nm_v (mH_hN x6.toNatClampNeg) (fun v6_3 => f8_number_L32 k95 N n x1 x2 x3 x4 x5 v6_3 (mH_ht, mH_hK, mH_hA, mH_hB, mH_hC, mH_hN, mH_h1, mH_hT, mH_hR))

def f8_number_L95  (N : Nat)  : Int32 → Int32 → Int32 → Int32 → Int32 → Int32 → MdH → Option (Int32 × MdH)
  | x1, x2, x3, x4, x5, x6, (mH_ht, mH_hK, mH_hA, mH_hB, mH_hC, mH_hN, mH_h1, mH_hT, mH_hR) =>
    if x6 = (-1 : Int32) then if mH_ht < 0 ∨ 4200 ≤ mH_ht.toNatClampNeg then none else if mH_ht < 0 ∨ 4200 ≤ mH_ht.toNatClampNeg then none else if mH_ht < 0 ∨ 4200 ≤ mH_ht.toNatClampNeg then none else if mH_ht < 0 ∨ 4200 ≤ mH_ht.toNatClampNeg then none else if x5 < 0 ∨ 256 ≤ x5.toNatClampNeg then none else if mH_ht < 0 ∨ 4200 ≤ mH_ht.toNatClampNeg then none else if x5 < 0 ∨ 256 ≤ x5.toNatClampNeg then none else some (mH_ht, ((mH_ht + (1 : Int32)), (upd mH_hK mH_ht.toNatClampNeg x1), (upd mH_hA mH_ht.toNatClampNeg x2), (upd mH_hB mH_ht.toNatClampNeg x3), (upd mH_hC mH_ht.toNatClampNeg x4), (upd mH_hN mH_ht.toNatClampNeg (mH_h1 x5.toNatClampNeg)), (upd mH_h1 x5.toNatClampNeg mH_ht), mH_hT, mH_hR)) else some (x6, (mH_ht, mH_hK, mH_hA, mH_hB, mH_hC, mH_hN, mH_h1, mH_hT, mH_hR))
def f8_number (N : Nat) (v1 : Int32) (v2 : Int32) (v3 : Int32) (v4 : Int32) : MdH → Option (Int32 × MdH)
  | (mH_ht, mH_hK, mH_hA, mH_hB, mH_hC, mH_hN, mH_h1, mH_hT, mH_hR) =>
    nm_v (((((v1 * (31 : Int32)) + (v2 * (17 : Int32))) + (v3 * (7 : Int32))) + v4) &&& (255 : Int32)) (fun v5_1 => if v5_1 < 0 ∨ 256 ≤ v5_1.toNatClampNeg then none else nm_v (mH_h1 v5_1.toNatClampNeg) (fun v6_2 => f8_number_L32 (fun x1_7 x2_7 x3_7 x4_7 x5_7 x6_7 (mH_ht_7, mH_hK_7, mH_hA_7, mH_hB_7, mH_hC_7, mH_hN_7, mH_h1_7, mH_hT_7, mH_hR_7) => f8_number_L95 N x1_7 x2_7 x3_7 x4_7 x5_7 x6_7 (mH_ht_7, mH_hK_7, mH_hA_7, mH_hB_7, mH_hC_7, mH_hN_7, mH_h1_7, mH_hT_7, mH_hR_7)) N N v1 v2 v3 v4 v5_1 v6_2 (mH_ht, mH_hK, mH_hA, mH_hB, mH_hC, mH_hN, mH_h1, mH_hT, mH_hR)))
set_option maxHeartbeats 4000000 in
set_option maxRecDepth 100000 in
theorem w8_number_L32 {V : EV} {p : Program} {l : Launch} {e : Env} {R : Room} {s : State} {m : MethodId} {args : Array Value} {below : List Frame} {meth : Method} {c : Code} {Q : State → Prop} {A : Nat → Prop} {kc ks : Nat} {ad : Nat → Nat} {mT : MdT} {mQ : MdQ} {mK : MdK} {mN : MdN} {mP : MdP} {mL : MdL} {mR : MdR} {mG : MdG} {k95 : Int32 → Int32 → Int32 → Int32 → Int32 → Int32 → MdH → Option (Int32 × MdH)} {N : Nat} {res : Int32 × MdH} (C : CX V p l R s m args c A kc ks RX8 cX8_number 7 0 0) (K : RI V p l e R s m args below meth c Q A kc ks 7 cX8_number .int res.1 (wM V ad mT mQ mK mN mP mL res.2 mR mG)) (hk95 : ∀ (x1 : Int32) (x2 : Int32) (x3 : Int32) (x4 : Int32) (x5 : Int32) (x6 : Int32) (mH_ht : Int32) (mH_hK : Nat → Int32) (mH_hA : Nat → Int32) (mH_hB : Nat → Int32) (mH_hC : Nat → Int32) (mH_hN : Nat → Int32) (mH_h1 : Nat → Int32) (mH_hT : Nat → Int32) (mH_hR : Nat → Int32), k95 x1 x2 x3 x4 x5 x6 (mH_ht, mH_hK, mH_hA, mH_hB, mH_hC, mH_hN, mH_h1, mH_hT, mH_hR) = some res → WC V p l e R s m args below meth c Q A kc ks 7 (wM V ad mT mQ mK mN mP mL (mH_ht, mH_hK, mH_hA, mH_hB, mH_hC, mH_hN, mH_h1, mH_hT, mH_hR) mR mG) 95 [(0, .ref (ad 0)), (1, .int x1), (2, .int x2), (3, .int x3), (4, .int x4), (5, .int x5), (6, .int x6)] []) : ∀ (n : Nat) (x1 : Int32) (x2 : Int32) (x3 : Int32) (x4 : Int32) (x5 : Int32) (x6 : Int32) (mH_ht : Int32) (mH_hK : Nat → Int32) (mH_hA : Nat → Int32) (mH_hB : Nat → Int32) (mH_hC : Nat → Int32) (mH_hN : Nat → Int32) (mH_h1 : Nat → Int32) (mH_hT : Nat → Int32) (mH_hR : Nat → Int32), f8_number_L32 k95 N n x1 x2 x3 x4 x5 x6 (mH_ht, mH_hK, mH_hA, mH_hB, mH_hC, mH_hN, mH_h1, mH_hT, mH_hR) = some res → WC V p l e R s m args below meth c Q A kc ks 7 (wM V ad mT mQ mK mN mP mL (mH_ht, mH_hK, mH_hA, mH_hB, mH_hC, mH_hN, mH_h1, mH_hT, mH_hR) mR mG) 32 [(0, .ref (ad 0)), (1, .int x1), (2, .int x2), (3, .int x3), (4, .int x4), (5, .int x5), (6, .int x6)] [] := by
  intro n
  induction n with
  | zero => intro _ _ _ _ _ _ _ _ _ _ _ _ _ _ _ hf; exact nomatch (show none = some res from hf)
  | succ n ih =>
    intro x1 x2 x3 x4 x5 x6 mH_ht mH_hK mH_hA mH_hB mH_hC mH_hN mH_h1 mH_hT mH_hR hf
    rw [f8_number_L32] at hf
    refine k_iload C dX8_number_32 6 rfl ?_
    refine k_iconst (v := (-1 : Int32)) C dX8_number_34 (by decide) ?_
    refine k_icmp_eq C 95 dX8_number_35 (by decide) (fun hc => ?_) (fun hc => ?_)
    · replace hf := (if_pos hc).symm.trans hf
      exact hk95 _ _ _ _ _ _ _ _ _ _ _ _ _ _ _ hf
    · replace hf := (if_neg hc).symm.trans hf
      refine k_aload_n C dX8_number_38 0 rfl ?_
      refine g8_76 C dX8_number_39 ?_
      refine k_iload C dX8_number_42 6 rfl ?_
      obtain ⟨hi, hf⟩ := gd_no hf
      refine lm23 C hi dX8_number_44 ?_
      refine k_iload_n C dX8_number_45 1 rfl ?_
      refine k_icmp_ne C 83 dX8_number_46 (by decide) (fun hc => ?_) (fun hc => ?_)
      · replace hf := (if_neg hc).symm.trans hf
        refine k_aload_n C dX8_number_83 0 rfl ?_
        refine g8_88 C dX8_number_84 ?_
        refine k_iload C dX8_number_87 6 rfl ?_
        obtain ⟨hi, hf⟩ := gd_no hf
        refine lm27 C hi dX8_number_89 ?_
        refine k_topi (fun v6_3 ev6_3 => ?_)
        replace hf := nm_el hf ev6_3
        refine k_istore C dX8_number_90 [(6, .int v6_3), (0, .ref (ad 0)), (1, .int x1), (2, .int x2), (3, .int x3), (4, .int x4), (5, .int x5)] (by decide) rfl ?_
        refine k_goto C 32 dX8_number_92 (by decide) ?_
        refine k_sub [1, 2, 3, 4, 5, 6, 0] (L' := [(0, .ref (ad 0)), (1, .int x1), (2, .int x2), (3, .int x3), (4, .int x4), (5, .int x5), (6, .int v6_3)]) rfl ?_
        exact ih _ _ _ _ _ _ _ _ _ _ _ _ _ _ _ hf
      · replace hf := (if_pos hc).symm.trans hf
        refine k_aload_n C dX8_number_49 0 rfl ?_
        refine g8_79 C dX8_number_50 ?_
        refine k_iload C dX8_number_53 6 rfl ?_
        obtain ⟨hi, hf⟩ := gd_no hf
        refine lm24 C hi dX8_number_55 ?_
        refine k_iload_n C dX8_number_56 2 rfl ?_
        refine k_icmp_ne C 83 dX8_number_57 (by decide) (fun hc => ?_) (fun hc => ?_)
        · replace hf := (if_neg hc).symm.trans hf
          refine k_aload_n C dX8_number_83 0 rfl ?_
          refine g8_88 C dX8_number_84 ?_
          refine k_iload C dX8_number_87 6 rfl ?_
          obtain ⟨hi, hf⟩ := gd_no hf
          refine lm27 C hi dX8_number_89 ?_
          refine k_topi (fun v6_4 ev6_4 => ?_)
          replace hf := nm_el hf ev6_4
          refine k_istore C dX8_number_90 [(6, .int v6_4), (0, .ref (ad 0)), (1, .int x1), (2, .int x2), (3, .int x3), (4, .int x4), (5, .int x5)] (by decide) rfl ?_
          refine k_goto C 32 dX8_number_92 (by decide) ?_
          refine k_sub [1, 2, 3, 4, 5, 6, 0] (L' := [(0, .ref (ad 0)), (1, .int x1), (2, .int x2), (3, .int x3), (4, .int x4), (5, .int x5), (6, .int v6_4)]) rfl ?_
          exact ih _ _ _ _ _ _ _ _ _ _ _ _ _ _ _ hf
        · replace hf := (if_pos hc).symm.trans hf
          refine k_aload_n C dX8_number_60 0 rfl ?_
          refine g8_82 C dX8_number_61 ?_
          refine k_iload C dX8_number_64 6 rfl ?_
          obtain ⟨hi, hf⟩ := gd_no hf
          refine lm25 C hi dX8_number_66 ?_
          refine k_iload_n C dX8_number_67 3 rfl ?_
          refine k_icmp_ne C 83 dX8_number_68 (by decide) (fun hc => ?_) (fun hc => ?_)
          · replace hf := (if_neg hc).symm.trans hf
            refine k_aload_n C dX8_number_83 0 rfl ?_
            refine g8_88 C dX8_number_84 ?_
            refine k_iload C dX8_number_87 6 rfl ?_
            obtain ⟨hi, hf⟩ := gd_no hf
            refine lm27 C hi dX8_number_89 ?_
            refine k_topi (fun v6_5 ev6_5 => ?_)
            replace hf := nm_el hf ev6_5
            refine k_istore C dX8_number_90 [(6, .int v6_5), (0, .ref (ad 0)), (1, .int x1), (2, .int x2), (3, .int x3), (4, .int x4), (5, .int x5)] (by decide) rfl ?_
            refine k_goto C 32 dX8_number_92 (by decide) ?_
            refine k_sub [1, 2, 3, 4, 5, 6, 0] (L' := [(0, .ref (ad 0)), (1, .int x1), (2, .int x2), (3, .int x3), (4, .int x4), (5, .int x5), (6, .int v6_5)]) rfl ?_
            exact ih _ _ _ _ _ _ _ _ _ _ _ _ _ _ _ hf
          · replace hf := (if_pos hc).symm.trans hf
            refine k_aload_n C dX8_number_71 0 rfl ?_
            refine g8_85 C dX8_number_72 ?_
            refine k_iload C dX8_number_75 6 rfl ?_
            obtain ⟨hi, hf⟩ := gd_no hf
            refine lm26 C hi dX8_number_77 ?_
            refine k_iload C dX8_number_78 4 rfl ?_
            refine k_icmp_eq C 95 dX8_number_80 (by decide) (fun hc => ?_) (fun hc => ?_)
            · replace hf := (if_pos hc).symm.trans hf
              exact hk95 _ _ _ _ _ _ _ _ _ _ _ _ _ _ _ hf
            · replace hf := (if_neg hc).symm.trans hf
              refine k_aload_n C dX8_number_83 0 rfl ?_
              refine g8_88 C dX8_number_84 ?_
              refine k_iload C dX8_number_87 6 rfl ?_
              obtain ⟨hi, hf⟩ := gd_no hf
              refine lm27 C hi dX8_number_89 ?_
              refine k_topi (fun v6_6 ev6_6 => ?_)
              replace hf := nm_el hf ev6_6
              refine k_istore C dX8_number_90 [(6, .int v6_6), (0, .ref (ad 0)), (1, .int x1), (2, .int x2), (3, .int x3), (4, .int x4), (5, .int x5)] (by decide) rfl ?_
              refine k_goto C 32 dX8_number_92 (by decide) ?_
              refine k_sub [1, 2, 3, 4, 5, 6, 0] (L' := [(0, .ref (ad 0)), (1, .int x1), (2, .int x2), (3, .int x3), (4, .int x4), (5, .int x5), (6, .int v6_6)]) rfl ?_
              exact ih _ _ _ _ _ _ _ _ _ _ _ _ _ _ _ hf

set_option maxHeartbeats 4000000 in
set_option maxRecDepth 100000 in
theorem w8_number_L95 {V : EV} {p : Program} {l : Launch} {e : Env} {R : Room} {s : State} {m : MethodId} {args : Array Value} {below : List Frame} {meth : Method} {c : Code} {Q : State → Prop} {A : Nat → Prop} {kc ks : Nat} {ad : Nat → Nat} {mT : MdT} {mQ : MdQ} {mK : MdK} {mN : MdN} {mP : MdP} {mL : MdL} {mR : MdR} {mG : MdG}  {N : Nat} {res : Int32 × MdH} (C : CX V p l R s m args c A kc ks RX8 cX8_number 7 0 0) (K : RI V p l e R s m args below meth c Q A kc ks 7 cX8_number .int res.1 (wM V ad mT mQ mK mN mP mL res.2 mR mG))  : ∀ (x1 : Int32) (x2 : Int32) (x3 : Int32) (x4 : Int32) (x5 : Int32) (x6 : Int32) (mH_ht : Int32) (mH_hK : Nat → Int32) (mH_hA : Nat → Int32) (mH_hB : Nat → Int32) (mH_hC : Nat → Int32) (mH_hN : Nat → Int32) (mH_h1 : Nat → Int32) (mH_hT : Nat → Int32) (mH_hR : Nat → Int32), f8_number_L95 N x1 x2 x3 x4 x5 x6 (mH_ht, mH_hK, mH_hA, mH_hB, mH_hC, mH_hN, mH_h1, mH_hT, mH_hR) = some res → WC V p l e R s m args below meth c Q A kc ks 7 (wM V ad mT mQ mK mN mP mL (mH_ht, mH_hK, mH_hA, mH_hB, mH_hC, mH_hN, mH_h1, mH_hT, mH_hR) mR mG) 95 [(0, .ref (ad 0)), (1, .int x1), (2, .int x2), (3, .int x3), (4, .int x4), (5, .int x5), (6, .int x6)] [] := by
  intro x1 x2 x3 x4 x5 x6 mH_ht mH_hK mH_hA mH_hB mH_hC mH_hN mH_h1 mH_hT mH_hR hf
  rw [f8_number_L95] at hf
  refine k_iload C dX8_number_95 6 rfl ?_
  refine k_iconst (v := (-1 : Int32)) C dX8_number_97 (by decide) ?_
  refine k_icmp_eq C 104 dX8_number_98 (by decide) (fun hc => ?_) (fun hc => ?_)
  · replace hf := (if_pos hc).symm.trans hf
    refine k_aload_n C dX8_number_104 0 rfl ?_
    refine g8_280 C dX8_number_105 ?_
    refine k_istore C dX8_number_108 [(6, .int mH_ht), (0, .ref (ad 0)), (1, .int x1), (2, .int x2), (3, .int x3), (4, .int x4), (5, .int x5)] (by decide) rfl ?_
    refine k_aload_n C dX8_number_110 1 rfl ?_
    refine g8_76 C dX8_number_111 ?_
    refine k_iload C dX8_number_114 0 rfl ?_
    refine k_iload_n C dX8_number_116 2 rfl ?_
    obtain ⟨hi, hf⟩ := gd_no hf
    refine sm23 C hi dX8_number_117 ?_
    refine k_aload_n C dX8_number_118 1 rfl ?_
    refine g8_79 C dX8_number_119 ?_
    refine k_iload C dX8_number_122 0 rfl ?_
    refine k_iload_n C dX8_number_124 3 rfl ?_
    obtain ⟨hi, hf⟩ := gd_no hf
    refine sm24 C hi dX8_number_125 ?_
    refine k_aload_n C dX8_number_126 1 rfl ?_
    refine g8_82 C dX8_number_127 ?_
    refine k_iload C dX8_number_130 0 rfl ?_
    refine k_iload_n C dX8_number_132 4 rfl ?_
    obtain ⟨hi, hf⟩ := gd_no hf
    refine sm25 C hi dX8_number_133 ?_
    refine k_aload_n C dX8_number_134 1 rfl ?_
    refine g8_85 C dX8_number_135 ?_
    refine k_iload C dX8_number_138 0 rfl ?_
    refine k_iload C dX8_number_140 5 rfl ?_
    obtain ⟨hi, hf⟩ := gd_no hf
    refine sm26 C hi dX8_number_142 ?_
    refine k_aload_n C dX8_number_143 1 rfl ?_
    refine g8_88 C dX8_number_144 ?_
    refine k_iload C dX8_number_147 0 rfl ?_
    refine k_aload_n C dX8_number_149 1 rfl ?_
    refine g8_91 C dX8_number_150 ?_
    refine k_iload C dX8_number_153 6 rfl ?_
    obtain ⟨hi, hf⟩ := gd_no hf
    refine lm28 C hi dX8_number_155 ?_
    obtain ⟨hi, hf⟩ := gd_no hf
    refine sm27 C hi dX8_number_156 ?_
    refine k_aload_n C dX8_number_157 1 rfl ?_
    refine g8_91 C dX8_number_158 ?_
    refine k_iload C dX8_number_161 6 rfl ?_
    refine k_iload C dX8_number_163 0 rfl ?_
    obtain ⟨hi, hf⟩ := gd_no hf
    refine sm28 C hi dX8_number_165 ?_
    refine k_aload_n C dX8_number_166 1 rfl ?_
    refine k_dup C dX8_number_167 rfl ?_
    refine g8_280 C dX8_number_168 ?_
    refine k_iconst (v := (1 : Int32)) C dX8_number_171 (by decide) ?_
    refine k_iadd C dX8_number_172 ?_
    refine p8_280 C dX8_number_173 ?_
    refine k_iload C dX8_number_176 0 rfl ?_
    cases hf
    exact K _ _ dX8_number_178 rfl
  · replace hf := (if_neg hc).symm.trans hf
    refine k_iload C dX8_number_101 6 rfl ?_
    cases hf
    exact K _ _ dX8_number_103 rfl
set_option maxHeartbeats 4000000 in
set_option maxRecDepth 100000 in
theorem b8_number {V : EV} {p : Program} {l : Launch} {e : Env} {R : Room} {s : State} {m : MethodId} {args : Array Value} {below : List Frame} {meth : Method} {c : Code} {Q : State → Prop} {A : Nat → Prop} {kc ks : Nat} {ad : Nat → Nat} {mT : MdT} {mQ : MdQ} {mK : MdK} {mN : MdN} {mP : MdP} {mL : MdL} {mR : MdR} {mG : MdG} {v1 : Int32} {v2 : Int32} {v3 : Int32} {v4 : Int32} {mH_ht : Int32} {mH_hK : Nat → Int32} {mH_hA : Nat → Int32} {mH_hB : Nat → Int32} {mH_hC : Nat → Int32} {mH_hN : Nat → Int32} {mH_h1 : Nat → Int32} {mH_hT : Nat → Int32} {mH_hR : Nat → Int32} {N : Nat} {res : Int32 × MdH} (C : CX V p l R s m args c A kc ks RX8 cX8_number 7 0 0) (hf : f8_number N v1 v2 v3 v4 (mH_ht, mH_hK, mH_hA, mH_hB, mH_hC, mH_hN, mH_h1, mH_hT, mH_hR) = some res) (K : RI V p l e R s m args below meth c Q A kc ks 7 cX8_number .int res.1 (wM V ad mT mQ mK mN mP mL res.2 mR mG)) : WC V p l e R s m args below meth c Q A kc ks 7 (wM V ad mT mQ mK mN mP mL (mH_ht, mH_hK, mH_hA, mH_hB, mH_hC, mH_hN, mH_h1, mH_hT, mH_hR) mR mG) 0 [(0, .ref (ad 0)), (1, .int v1), (2, .int v2), (3, .int v3), (4, .int v4)] [] := by
  rw [f8_number] at hf
  refine k_iload_n C dX8_number_0 1 rfl ?_
  refine k_bipush (v := (31 : Int32)) C dX8_number_1 (by decide) ?_
  refine k_imul C dX8_number_3 ?_
  refine k_iload_n C dX8_number_4 2 rfl ?_
  refine k_bipush (v := (17 : Int32)) C dX8_number_5 (by decide) ?_
  refine k_imul C dX8_number_7 ?_
  refine k_iadd C dX8_number_8 ?_
  refine k_iload_n C dX8_number_9 3 rfl ?_
  refine k_bipush (v := (7 : Int32)) C dX8_number_10 (by decide) ?_
  refine k_imul C dX8_number_12 ?_
  refine k_iadd C dX8_number_13 ?_
  refine k_iload C dX8_number_14 4 rfl ?_
  refine k_iadd C dX8_number_16 ?_
  refine k_sipush (v := (255 : Int32)) C dX8_number_17 (by decide) ?_
  refine k_iand C dX8_number_20 ?_
  refine k_topi (fun v5_1 ev5_1 => ?_)
  replace hf := nm_el hf ev5_1
  refine k_istore C dX8_number_21 [(5, .int v5_1), (0, .ref (ad 0)), (1, .int v1), (2, .int v2), (3, .int v3), (4, .int v4)] (by decide) rfl ?_
  refine k_aload_n C dX8_number_23 1 rfl ?_
  refine g8_91 C dX8_number_24 ?_
  refine k_iload C dX8_number_27 0 rfl ?_
  obtain ⟨hi, hf⟩ := gd_no hf
  refine lm28 C hi dX8_number_29 ?_
  refine k_topi (fun v6_2 ev6_2 => ?_)
  replace hf := nm_el hf ev6_2
  refine k_istore C dX8_number_30 [(6, .int v6_2), (5, .int v5_1), (0, .ref (ad 0)), (1, .int v1), (2, .int v2), (3, .int v3), (4, .int v4)] (by decide) rfl ?_
  refine k_sub [2, 3, 4, 5, 6, 1, 0] (L' := [(0, .ref (ad 0)), (1, .int v1), (2, .int v2), (3, .int v3), (4, .int v4), (5, .int v5_1), (6, .int v6_2)]) rfl ?_
  refine w8_number_L32 C K ?_ _ _ _ _ _ _ _ _ _ _ _ _ _ _ _ _ hf
  · intro x1_7 x2_7 x3_7 x4_7 x5_7 x6_7 mH_ht_7 mH_hK_7 mH_hA_7 mH_hB_7 mH_hC_7 mH_hN_7 mH_h1_7 mH_hT_7 mH_hR_7 hf
    try dsimp only at hf
    exact w8_number_L95 C K _ _ _ _ _ _ _ _ _ _ _ _ _ _ _ hf
theorem c8_number {V : EV} {l : Launch} (hl0 : l.stackTraces = false) {ad : Nat → Nat} {mT : MdT} {mQ : MdQ} {mK : MdK} {mN : MdN} {mP : MdP} {mL : MdL} {mR : MdR} {mG : MdG} {v1 : Int32} {v2 : Int32} {v3 : Int32} {v4 : Int32} {mH_ht : Int32} {mH_hK : Nat → Int32} {mH_hA : Nat → Int32} {mH_hB : Nat → Int32} {mH_hC : Nat → Int32} {mH_hN : Nat → Int32} {mH_h1 : Nat → Int32} {mH_hT : Nat → Int32} {mH_hR : Nat → Int32} {N : Nat} {res : Int32 × MdH} (hf : f8_number N v1 v2 v3 v4 (mH_ht, mH_hK, mH_hA, mH_hB, mH_hC, mH_hN, mH_h1, mH_hT, mH_hR) = some res) : MI V l yX8_number cX8_number 7 .int 0 0 [.ref (ad 0), .int v1, .int v2, .int v3, .int v4] (wM V ad mT mQ mK mN mP mL (mH_ht, mH_hK, mH_hA, mH_hB, mH_hC, mH_hN, mH_h1, mH_hT, mH_hR) mR mG) res.1 (wM V ad mT mQ mK mN mP mL res.2 mR mG) :=
  mi_of hl0 (by decide +kernel) (Nat.le_of_ble_eq_true rfl) (fun p e R s m args below meth c Q A C K => b8_number C hf K)

theorem ok8_of : okCV RX8 yX8_of 1 := by unfold okCV; decide +kernel
def f8_of (v1 : Int32) : MdQ → MdH → Option (Int32)
  | (mQ_qc, mQ_qb, mQ_qp, mQ_qr, mQ_qC), (mH_ht, mH_hK, mH_hA, mH_hB, mH_hC, mH_hN, mH_h1, mH_hT, mH_hR) =>
    if v1 = (-1 : Int32) then some (-1 : Int32) else if (v1 - mQ_qb) < 0 ∨ 256 ≤ (v1 - mQ_qb).toNatClampNeg then none else some (mH_hT (v1 - mQ_qb).toNatClampNeg)
set_option maxHeartbeats 4000000 in
set_option maxRecDepth 100000 in
theorem b8_of {V : EV} {p : Program} {l : Launch} {e : Env} {R : Room} {s : State} {m : MethodId} {args : Array Value} {below : List Frame} {meth : Method} {c : Code} {Q : State → Prop} {A : Nat → Prop} {kc ks : Nat} {ad : Nat → Nat} {mT : MdT} {mK : MdK} {mN : MdN} {mP : MdP} {mL : MdL} {mR : MdR} {mG : MdG} {mQ_qc : Int32} {mQ_qb : Int32} {mQ_qp : Int32} {mQ_qr : Int32} {mQ_qC : Int32} {mH_ht : Int32} {mH_hK : Nat → Int32} {mH_hA : Nat → Int32} {mH_hB : Nat → Int32} {mH_hC : Nat → Int32} {mH_hN : Nat → Int32} {mH_h1 : Nat → Int32} {mH_hT : Nat → Int32} {mH_hR : Nat → Int32} {v1 : Int32} {res : Int32} (C : CX V p l R s m args c A kc ks RX8 cX8_of 2 0 0) (hf : f8_of v1 (mQ_qc, mQ_qb, mQ_qp, mQ_qr, mQ_qC) (mH_ht, mH_hK, mH_hA, mH_hB, mH_hC, mH_hN, mH_h1, mH_hT, mH_hR) = some res) (K : RI V p l e R s m args below meth c Q A kc ks 2 cX8_of .int res (wM V ad mT (mQ_qc, mQ_qb, mQ_qp, mQ_qr, mQ_qC) mK mN mP mL (mH_ht, mH_hK, mH_hA, mH_hB, mH_hC, mH_hN, mH_h1, mH_hT, mH_hR) mR mG)) : WC V p l e R s m args below meth c Q A kc ks 2 (wM V ad mT (mQ_qc, mQ_qb, mQ_qp, mQ_qr, mQ_qC) mK mN mP mL (mH_ht, mH_hK, mH_hA, mH_hB, mH_hC, mH_hN, mH_h1, mH_hT, mH_hR) mR mG) 0 [(0, .ref (ad 0)), (1, .int v1)] [] := by
  rw [f8_of] at hf
  refine k_iload_n C dX8_of_0 1 rfl ?_
  refine k_iconst (v := (-1 : Int32)) C dX8_of_1 (by decide) ?_
  refine k_icmp_ne C 9 dX8_of_2 (by decide) (fun hc => ?_) (fun hc => ?_)
  · replace hf := (if_neg hc).symm.trans hf
    refine k_aload_n C dX8_of_9 0 rfl ?_
    refine g8_94 C dX8_of_10 ?_
    refine k_iload_n C dX8_of_13 1 rfl ?_
    refine k_aload_n C dX8_of_14 0 rfl ?_
    refine g8_165 C dX8_of_15 ?_
    refine k_isub C dX8_of_18 ?_
    obtain ⟨hi, hf⟩ := gd_no hf
    refine lm29 C hi dX8_of_19 ?_
    cases hf
    exact K _ _ dX8_of_20 rfl
  · replace hf := (if_pos hc).symm.trans hf
    refine k_iconst (v := (-1 : Int32)) C dX8_of_5 (by decide) ?_
    refine k_goto C 20 dX8_of_6 (by decide) ?_
    cases hf
    exact K _ _ dX8_of_20 rfl
theorem c8_of {V : EV} {l : Launch} (hl0 : l.stackTraces = false) {ad : Nat → Nat} {mT : MdT} {mK : MdK} {mN : MdN} {mP : MdP} {mL : MdL} {mR : MdR} {mG : MdG} {mQ_qc : Int32} {mQ_qb : Int32} {mQ_qp : Int32} {mQ_qr : Int32} {mQ_qC : Int32} {mH_ht : Int32} {mH_hK : Nat → Int32} {mH_hA : Nat → Int32} {mH_hB : Nat → Int32} {mH_hC : Nat → Int32} {mH_hN : Nat → Int32} {mH_h1 : Nat → Int32} {mH_hT : Nat → Int32} {mH_hR : Nat → Int32} {v1 : Int32} {res : Int32} (hf : f8_of v1 (mQ_qc, mQ_qb, mQ_qp, mQ_qr, mQ_qC) (mH_ht, mH_hK, mH_hA, mH_hB, mH_hC, mH_hN, mH_h1, mH_hT, mH_hR) = some res) : MI V l yX8_of cX8_of 2 .int 0 0 [.ref (ad 0), .int v1] (wM V ad mT (mQ_qc, mQ_qb, mQ_qp, mQ_qr, mQ_qC) mK mN mP mL (mH_ht, mH_hK, mH_hA, mH_hB, mH_hC, mH_hN, mH_h1, mH_hT, mH_hR) mR mG) res (wM V ad mT (mQ_qc, mQ_qb, mQ_qp, mQ_qr, mQ_qC) mK mN mP mL (mH_ht, mH_hK, mH_hA, mH_hB, mH_hC, mH_hN, mH_h1, mH_hT, mH_hR) mR mG) :=
  mi_of hl0 (by decide +kernel) (Nat.le_of_ble_eq_true rfl) (fun p e R s m args below meth c Q A C K => b8_of C hf K)

theorem ok8_traps : okCV RX8 yX8_traps 2 := by unfold okCV; decide +kernel
def f8_traps (v0 : Int32) (v1 : Int32) : Option (Int32) :=
    if v1 = 0 then if v0 = (47 : Int32) then some (1 : Int32) else if v0 = (37 : Int32) then some (1 : Int32) else some (0 : Int32) else some (0 : Int32)
set_option maxHeartbeats 4000000 in
set_option maxRecDepth 100000 in
theorem b8_traps {V : EV} {p : Program} {l : Launch} {e : Env} {R : Room} {s : State} {m : MethodId} {args : Array Value} {below : List Frame} {meth : Method} {c : Code} {Q : State → Prop} {A : Nat → Prop} {kc ks : Nat} {ad : Nat → Nat} {mT : MdT} {mQ : MdQ} {mK : MdK} {mN : MdN} {mP : MdP} {mL : MdL} {mH : MdH} {mR : MdR} {mG : MdG} {v0 : Int32} {v1 : Int32} {res : Int32} (C : CX V p l R s m args c A kc ks RX8 cX8_traps 2 0 0) (hf : f8_traps v0 v1 = some res) (K : RI V p l e R s m args below meth c Q A kc ks 2 cX8_traps .boolean res (wM V ad mT mQ mK mN mP mL mH mR mG)) : WC V p l e R s m args below meth c Q A kc ks 2 (wM V ad mT mQ mK mN mP mL mH mR mG) 0 [(0, .int v0), (1, .int v1)] [] := by
  rw [f8_traps] at hf
  refine k_iload_n C dX8_traps_0 1 rfl ?_
  refine k_if_ne C 20 dX8_traps_1 (by decide) (fun hc => ?_) (fun hc => ?_)
  · replace hf := (if_neg hc).symm.trans hf
    refine k_iconst (v := (0 : Int32)) C dX8_traps_20 (by decide) ?_
    cases hf
    exact K _ _ dX8_traps_21 (nar_b (Or.inl rfl))
  · replace hf := (if_pos hc).symm.trans hf
    refine k_iload_n C dX8_traps_4 0 rfl ?_
    refine k_bipush (v := (47 : Int32)) C dX8_traps_5 (by decide) ?_
    refine k_icmp_eq C 16 dX8_traps_7 (by decide) (fun hc => ?_) (fun hc => ?_)
    · replace hf := (if_pos hc).symm.trans hf
      refine k_iconst (v := (1 : Int32)) C dX8_traps_16 (by decide) ?_
      refine k_goto C 21 dX8_traps_17 (by decide) ?_
      cases hf
      exact K _ _ dX8_traps_21 (nar_b (Or.inr rfl))
    · replace hf := (if_neg hc).symm.trans hf
      refine k_iload_n C dX8_traps_10 0 rfl ?_
      refine k_bipush (v := (37 : Int32)) C dX8_traps_11 (by decide) ?_
      refine k_icmp_ne C 20 dX8_traps_13 (by decide) (fun hc => ?_) (fun hc => ?_)
      · replace hf := (if_neg hc).symm.trans hf
        refine k_iconst (v := (0 : Int32)) C dX8_traps_20 (by decide) ?_
        cases hf
        exact K _ _ dX8_traps_21 (nar_b (Or.inl rfl))
      · replace hf := (if_pos hc).symm.trans hf
        refine k_iconst (v := (1 : Int32)) C dX8_traps_16 (by decide) ?_
        refine k_goto C 21 dX8_traps_17 (by decide) ?_
        cases hf
        exact K _ _ dX8_traps_21 (nar_b (Or.inr rfl))
theorem c8_traps {V : EV} {l : Launch} (hl0 : l.stackTraces = false) {ad : Nat → Nat} {mT : MdT} {mQ : MdQ} {mK : MdK} {mN : MdN} {mP : MdP} {mL : MdL} {mH : MdH} {mR : MdR} {mG : MdG} {v0 : Int32} {v1 : Int32} {res : Int32} (hf : f8_traps v0 v1 = some res) : MI V l yX8_traps cX8_traps 2 .boolean 0 0 [.int v0, .int v1] (wM V ad mT mQ mK mN mP mL mH mR mG) res (wM V ad mT mQ mK mN mP mL mH mR mG) :=
  mi_of hl0 (by decide +kernel) (Nat.le_of_ble_eq_true rfl) (fun p e R s m args below meth c Q A C K => b8_traps C hf K)

theorem ok8_worked : okCV RX8 yX8_worked 3 := by unfold okCV; decide +kernel
def f8_worked (v0 : Int32) (v1 : Int32) (v2 : Int32) : Option (Int32) :=
    if v0 = (42 : Int32) then some (v1 * v2) else if v0 = (43 : Int32) then some (v1 + v2) else if v0 = (45 : Int32) then some (v1 - v2) else if v0 = (47 : Int32) then if v2 = 0 then none else some (v1 / v2) else if v2 = 0 then none else some (v1 - v1 / v2 * v2)
set_option maxHeartbeats 4000000 in
set_option maxRecDepth 100000 in
theorem b8_worked {V : EV} {p : Program} {l : Launch} {e : Env} {R : Room} {s : State} {m : MethodId} {args : Array Value} {below : List Frame} {meth : Method} {c : Code} {Q : State → Prop} {A : Nat → Prop} {kc ks : Nat} {ad : Nat → Nat} {mT : MdT} {mQ : MdQ} {mK : MdK} {mN : MdN} {mP : MdP} {mL : MdL} {mH : MdH} {mR : MdR} {mG : MdG} {v0 : Int32} {v1 : Int32} {v2 : Int32} {res : Int32} (C : CX V p l R s m args c A kc ks RX8 cX8_worked 3 0 0) (hf : f8_worked v0 v1 v2 = some res) (K : RI V p l e R s m args below meth c Q A kc ks 3 cX8_worked .int res (wM V ad mT mQ mK mN mP mL mH mR mG)) : WC V p l e R s m args below meth c Q A kc ks 3 (wM V ad mT mQ mK mN mP mL mH mR mG) 0 [(0, .int v0), (1, .int v1), (2, .int v2)] [] := by
  rw [f8_worked] at hf
  refine k_iload_n C dX8_worked_0 0 rfl ?_
  have hx0 : ∀ n : Int32, v0 = n → v0.toInt = n.toInt := fun n h => by rw [h]
  by_cases hc : v0 = (42 : Int32)
  · replace hf := (if_pos hc).symm.trans hf
    refine k_tableIn C 48 dX8_worked_1 (by rw [hx0 _ hc]; decide) (by rw [hx0 _ hc]; decide) (by rw [hx0 _ hc]; rfl) (by decide) ?_
    refine k_iload_n C dX8_worked_48 1 rfl ?_
    refine k_iload_n C dX8_worked_49 2 rfl ?_
    refine k_imul C dX8_worked_50 ?_
    cases hf
    exact K _ _ dX8_worked_51 rfl
  replace hf := (if_neg hc).symm.trans hf
  have hn42 := sw_ne hc
  by_cases hc : v0 = (43 : Int32)
  · replace hf := (if_pos hc).symm.trans hf
    refine k_tableIn C 40 dX8_worked_1 (by rw [hx0 _ hc]; decide) (by rw [hx0 _ hc]; decide) (by rw [hx0 _ hc]; rfl) (by decide) ?_
    refine k_iload_n C dX8_worked_40 1 rfl ?_
    refine k_iload_n C dX8_worked_41 2 rfl ?_
    refine k_iadd C dX8_worked_42 ?_
    cases hf
    exact K _ _ dX8_worked_43 rfl
  replace hf := (if_neg hc).symm.trans hf
  have hn43 := sw_ne hc
  by_cases hc : v0 = (45 : Int32)
  · replace hf := (if_pos hc).symm.trans hf
    refine k_tableIn C 44 dX8_worked_1 (by rw [hx0 _ hc]; decide) (by rw [hx0 _ hc]; decide) (by rw [hx0 _ hc]; rfl) (by decide) ?_
    refine k_iload_n C dX8_worked_44 1 rfl ?_
    refine k_iload_n C dX8_worked_45 2 rfl ?_
    refine k_isub C dX8_worked_46 ?_
    cases hf
    exact K _ _ dX8_worked_47 rfl
  replace hf := (if_neg hc).symm.trans hf
  have hn45 := sw_ne hc
  by_cases hc : v0 = (47 : Int32)
  · replace hf := (if_pos hc).symm.trans hf
    refine k_tableIn C 52 dX8_worked_1 (by rw [hx0 _ hc]; decide) (by rw [hx0 _ hc]; decide) (by rw [hx0 _ hc]; rfl) (by decide) ?_
    refine k_iload_n C dX8_worked_52 1 rfl ?_
    refine k_iload_n C dX8_worked_53 2 rfl ?_
    obtain ⟨hz, hf⟩ := gd_no hf
    refine k_idiv C dX8_worked_54 hz ?_
    cases hf
    exact K _ _ dX8_worked_55 rfl
  replace hf := (if_neg hc).symm.trans hf
  have hn47 := sw_ne hc
  have kd_1 : WC V p l e R s m args below meth c Q A kc ks 3 (wM V ad mT mQ mK mN mP mL mH mR mG) 56 [(0, .int v0), (1, .int v1), (2, .int v2)] [] := by
    refine k_iload_n C dX8_worked_56 1 rfl ?_
    refine k_iload_n C dX8_worked_57 2 rfl ?_
    obtain ⟨hz, hf⟩ := gd_no hf
    refine k_irem C dX8_worked_58 hz ?_
    cases hf
    exact K _ _ dX8_worked_59 rfl
  have hr : v0.toInt < 42 ∨ 47 < v0.toInt ∨ v0.toInt = 44 ∨ v0.toInt = 46 := by
    have q42 : ¬ v0.toInt = 42 := hn42 42 (by decide)
    have q43 : ¬ v0.toInt = 43 := hn43 43 (by decide)
    have q45 : ¬ v0.toInt = 45 := hn45 45 (by decide)
    have q47 : ¬ v0.toInt = 47 := hn47 47 (by decide)
    omega
  rcases hr with hr | hr | hr | hr
  · exact k_tableOut C 56 dX8_worked_1 (Or.inl hr) (by decide) kd_1
  · exact k_tableOut C 56 dX8_worked_1 (Or.inr hr) (by decide) kd_1
  · exact k_tableIn C 56 dX8_worked_1 (by rw [hr]; decide) (by rw [hr]; decide) (by rw [hr]; rfl) (by decide) kd_1
  · exact k_tableIn C 56 dX8_worked_1 (by rw [hr]; decide) (by rw [hr]; decide) (by rw [hr]; rfl) (by decide) kd_1
theorem c8_worked {V : EV} {l : Launch} (hl0 : l.stackTraces = false) {ad : Nat → Nat} {mT : MdT} {mQ : MdQ} {mK : MdK} {mN : MdN} {mP : MdP} {mL : MdL} {mH : MdH} {mR : MdR} {mG : MdG} {v0 : Int32} {v1 : Int32} {v2 : Int32} {res : Int32} (hf : f8_worked v0 v1 v2 = some res) : MI V l yX8_worked cX8_worked 3 .int 0 0 [.int v0, .int v1, .int v2] (wM V ad mT mQ mK mN mP mL mH mR mG) res (wM V ad mT mQ mK mN mP mL mH mR mG) :=
  mi_of hl0 (by decide +kernel) (Nat.le_of_ble_eq_true rfl) (fun p e R s m args below meth c Q A C K => b8_worked C hf K)

theorem ok8_isConstant : okCV RX8 yX8_isConstant 2 := by unfold okCV; decide +kernel
def f8_isConstant (v1 : Int32) (v2 : Int32) : MdH → Option (Int32)
  | (mH_ht, mH_hK, mH_hA, mH_hB, mH_hC, mH_hN, mH_h1, mH_hT, mH_hR) =>
    if v1 < 0 ∨ 4200 ≤ v1.toNatClampNeg then none else if (mH_hK v1.toNatClampNeg) = 0 then if v1 < 0 ∨ 4200 ≤ v1.toNatClampNeg then none else if (mH_hA v1.toNatClampNeg) = v2 then some (1 : Int32) else some (0 : Int32) else some (0 : Int32)
set_option maxHeartbeats 4000000 in
set_option maxRecDepth 100000 in
theorem b8_isConstant {V : EV} {p : Program} {l : Launch} {e : Env} {R : Room} {s : State} {m : MethodId} {args : Array Value} {below : List Frame} {meth : Method} {c : Code} {Q : State → Prop} {A : Nat → Prop} {kc ks : Nat} {ad : Nat → Nat} {mT : MdT} {mQ : MdQ} {mK : MdK} {mN : MdN} {mP : MdP} {mL : MdL} {mR : MdR} {mG : MdG} {mH_ht : Int32} {mH_hK : Nat → Int32} {mH_hA : Nat → Int32} {mH_hB : Nat → Int32} {mH_hC : Nat → Int32} {mH_hN : Nat → Int32} {mH_h1 : Nat → Int32} {mH_hT : Nat → Int32} {mH_hR : Nat → Int32} {v1 : Int32} {v2 : Int32} {res : Int32} (C : CX V p l R s m args c A kc ks RX8 cX8_isConstant 3 0 0) (hf : f8_isConstant v1 v2 (mH_ht, mH_hK, mH_hA, mH_hB, mH_hC, mH_hN, mH_h1, mH_hT, mH_hR) = some res) (K : RI V p l e R s m args below meth c Q A kc ks 3 cX8_isConstant .boolean res (wM V ad mT mQ mK mN mP mL (mH_ht, mH_hK, mH_hA, mH_hB, mH_hC, mH_hN, mH_h1, mH_hT, mH_hR) mR mG)) : WC V p l e R s m args below meth c Q A kc ks 3 (wM V ad mT mQ mK mN mP mL (mH_ht, mH_hK, mH_hA, mH_hB, mH_hC, mH_hN, mH_h1, mH_hT, mH_hR) mR mG) 0 [(0, .ref (ad 0)), (1, .int v1), (2, .int v2)] [] := by
  rw [f8_isConstant] at hf
  refine k_aload_n C dX8_isConstant_0 0 rfl ?_
  refine g8_76 C dX8_isConstant_1 ?_
  refine k_iload_n C dX8_isConstant_4 1 rfl ?_
  obtain ⟨hi, hf⟩ := gd_no hf
  refine lm23 C hi dX8_isConstant_5 ?_
  refine k_if_ne C 23 dX8_isConstant_6 (by decide) (fun hc => ?_) (fun hc => ?_)
  · replace hf := (if_neg hc).symm.trans hf
    refine k_iconst (v := (0 : Int32)) C dX8_isConstant_23 (by decide) ?_
    cases hf
    exact K _ _ dX8_isConstant_24 (nar_b (Or.inl rfl))
  · replace hf := (if_pos hc).symm.trans hf
    refine k_aload_n C dX8_isConstant_9 0 rfl ?_
    refine g8_79 C dX8_isConstant_10 ?_
    refine k_iload_n C dX8_isConstant_13 1 rfl ?_
    obtain ⟨hi, hf⟩ := gd_no hf
    refine lm24 C hi dX8_isConstant_14 ?_
    refine k_iload_n C dX8_isConstant_15 2 rfl ?_
    refine k_icmp_ne C 23 dX8_isConstant_16 (by decide) (fun hc => ?_) (fun hc => ?_)
    · replace hf := (if_neg hc).symm.trans hf
      refine k_iconst (v := (0 : Int32)) C dX8_isConstant_23 (by decide) ?_
      cases hf
      exact K _ _ dX8_isConstant_24 (nar_b (Or.inl rfl))
    · replace hf := (if_pos hc).symm.trans hf
      refine k_iconst (v := (1 : Int32)) C dX8_isConstant_19 (by decide) ?_
      refine k_goto C 24 dX8_isConstant_20 (by decide) ?_
      cases hf
      exact K _ _ dX8_isConstant_24 (nar_b (Or.inr rfl))
theorem c8_isConstant {V : EV} {l : Launch} (hl0 : l.stackTraces = false) {ad : Nat → Nat} {mT : MdT} {mQ : MdQ} {mK : MdK} {mN : MdN} {mP : MdP} {mL : MdL} {mR : MdR} {mG : MdG} {mH_ht : Int32} {mH_hK : Nat → Int32} {mH_hA : Nat → Int32} {mH_hB : Nat → Int32} {mH_hC : Nat → Int32} {mH_hN : Nat → Int32} {mH_h1 : Nat → Int32} {mH_hT : Nat → Int32} {mH_hR : Nat → Int32} {v1 : Int32} {v2 : Int32} {res : Int32} (hf : f8_isConstant v1 v2 (mH_ht, mH_hK, mH_hA, mH_hB, mH_hC, mH_hN, mH_h1, mH_hT, mH_hR) = some res) : MI V l yX8_isConstant cX8_isConstant 3 .boolean 0 0 [.ref (ad 0), .int v1, .int v2] (wM V ad mT mQ mK mN mP mL (mH_ht, mH_hK, mH_hA, mH_hB, mH_hC, mH_hN, mH_h1, mH_hT, mH_hR) mR mG) res (wM V ad mT mQ mK mN mP mL (mH_ht, mH_hK, mH_hA, mH_hB, mH_hC, mH_hN, mH_h1, mH_hT, mH_hR) mR mG) :=
  mi_of hl0 (by decide +kernel) (Nat.le_of_ble_eq_true rfl) (fun p e R s m args below meth c Q A C K => b8_isConstant C hf K)

theorem cm8_312 : ∀ a ∈ wsCS RX8 312 yX8_traps cX8_traps 2 (some .boolean), a ∈ GW := by
  unfold wsCS
  exact (List.forall_mem_cons.mpr ⟨(gw_6 (i := 96) (by decide +kernel) rfl), (List.forall_mem_cons.mpr ⟨(gw_6 (i := 97) (by decide +kernel) rfl), (List.forall_mem_cons.mpr ⟨(gw_1 (i := 9) (by decide +kernel) rfl), (List.forall_mem_cons.mpr ⟨(gw_6 (i := 98) (by decide +kernel) rfl), (List.forall_mem_nil _)⟩)⟩)⟩)⟩)
theorem cm8_316 : ∀ a ∈ wsCS RX8 316 yX8_worked cX8_worked 3 (some .int), a ∈ GW := by
  unfold wsCS
  exact (List.forall_mem_cons.mpr ⟨(gw_6 (i := 99) (by decide +kernel) rfl), (List.forall_mem_cons.mpr ⟨(gw_6 (i := 100) (by decide +kernel) rfl), (List.forall_mem_cons.mpr ⟨(gw_1 (i := 9) (by decide +kernel) rfl), (List.forall_mem_cons.mpr ⟨(gw_6 (i := 101) (by decide +kernel) rfl), (List.forall_mem_nil _)⟩)⟩)⟩)⟩)
theorem cm8_293 : ∀ a ∈ wsCV RX8 293 RX8 yX8_number cX8_number 7 (some .int), a ∈ GW := by
  unfold wsCV
  exact (List.forall_mem_cons.mpr ⟨(gw_6 (i := 84) (by decide +kernel) rfl), (List.forall_mem_cons.mpr ⟨(gw_6 (i := 86) (by decide +kernel) rfl), (List.forall_mem_cons.mpr ⟨(gw_p (q := ((yX8_number, 63) : MethodName × Nat)) (List.mem_append_right _ (List.mem_append_right _ (List.mem_append_right _ (List.mem_append_right _ (List.mem_append_right _ (List.mem_append_left _ (List.mem_of_getElem? (i := 9) (by decide +kernel)))))))) rfl), (List.forall_mem_cons.mpr ⟨(gw_1 (i := 9) (by decide +kernel) rfl), (List.forall_mem_cons.mpr ⟨(gw_6 (i := 87) (by decide +kernel) rfl), (List.forall_mem_nil _)⟩)⟩)⟩)⟩)⟩)
theorem cm8_319 : ∀ a ∈ wsCV RX8 319 RX8 yX8_isConstant cX8_isConstant 3 (some .boolean), a ∈ GW := by
  unfold wsCV
  exact (List.forall_mem_cons.mpr ⟨(gw_6 (i := 102) (by decide +kernel) rfl), (List.forall_mem_cons.mpr ⟨(gw_6 (i := 104) (by decide +kernel) rfl), (List.forall_mem_cons.mpr ⟨(gw_p (q := ((yX8_isConstant, 63) : MethodName × Nat)) (List.mem_append_right _ (List.mem_append_right _ (List.mem_append_right _ (List.mem_append_right _ (List.mem_append_right _ (List.mem_append_left _ (List.mem_of_getElem? (i := 12) (by decide +kernel)))))))) rfl), (List.forall_mem_cons.mpr ⟨(gw_1 (i := 9) (by decide +kernel) rfl), (List.forall_mem_cons.mpr ⟨(gw_6 (i := 105) (by decide +kernel) rfl), (List.forall_mem_nil _)⟩)⟩)⟩)⟩)⟩)
theorem ok8_foldSum : okCV RX8 yX8_foldSum 3 := by unfold okCV; decide +kernel
def f8_foldSum_L114  (N : Nat)  : Int32 → Int32 → Int32 → MdH → Option (Int32 × MdH)
  | x1, x2, x3, (mH_ht, mH_hK, mH_hA, mH_hB, mH_hC, mH_hN, mH_h1, mH_hT, mH_hR) =>
    if x1 = (42 : Int32) then (f8_isConstant x2 (1 : Int32) (mH_ht, mH_hK, mH_hA, mH_hB, mH_hC, mH_hN, mH_h1, mH_hT, mH_hR)).bind fun r_17 => if r_17 = 0 then (f8_number N (3 : Int32) x1 x2 x3 (mH_ht, mH_hK, mH_hA, mH_hB, mH_hC, mH_hN, mH_h1, mH_hT, mH_hR)).bind fun (r_19, (mH_ht_20, mH_hK_21, mH_hA_22, mH_hB_23, mH_hC_24, mH_hN_25, mH_h1_26, mH_hT_27, mH_hR_28)) => some (r_19, (mH_ht_20, mH_hK_21, mH_hA_22, mH_hB_23, mH_hC_24, mH_hN_25, mH_h1_26, mH_hT_27, mH_hR_28)) else some (x3, (mH_ht, mH_hK, mH_hA, mH_hB, mH_hC, mH_hN, mH_h1, mH_hT, mH_hR)) else (f8_number N (3 : Int32) x1 x2 x3 (mH_ht, mH_hK, mH_hA, mH_hB, mH_hC, mH_hN, mH_h1, mH_hT, mH_hR)).bind fun (r_6, (mH_ht_7, mH_hK_8, mH_hA_9, mH_hB_10, mH_hC_11, mH_hN_12, mH_h1_13, mH_hT_14, mH_hR_15)) => some (r_6, (mH_ht_7, mH_hK_8, mH_hA_9, mH_hB_10, mH_hC_11, mH_hN_12, mH_h1_13, mH_hT_14, mH_hR_15))

def f8_foldSum_L99  (N : Nat)  : Int32 → Int32 → Int32 → MdH → Option (Int32 × MdH)
  | x1, x2, x3, (mH_ht, mH_hK, mH_hA, mH_hB, mH_hC, mH_hN, mH_h1, mH_hT, mH_hR) =>
    if x1 = (43 : Int32) then (f8_isConstant x2 (0 : Int32) (mH_ht, mH_hK, mH_hA, mH_hB, mH_hC, mH_hN, mH_h1, mH_hT, mH_hR)).bind fun r_30 => if r_30 = 0 then f8_foldSum_L114 N x1 x2 x3 (mH_ht, mH_hK, mH_hA, mH_hB, mH_hC, mH_hN, mH_h1, mH_hT, mH_hR) else some (x3, (mH_ht, mH_hK, mH_hA, mH_hB, mH_hC, mH_hN, mH_h1, mH_hT, mH_hR)) else f8_foldSum_L114 N x1 x2 x3 (mH_ht, mH_hK, mH_hA, mH_hB, mH_hC, mH_hN, mH_h1, mH_hT, mH_hR)

def f8_foldSum_L88  (N : Nat)  : Int32 → Int32 → Int32 → MdH → Option (Int32 × MdH)
  | x1, x2, x3, (mH_ht, mH_hK, mH_hA, mH_hB, mH_hC, mH_hN, mH_h1, mH_hT, mH_hR) =>
    (f8_isConstant x3 (1 : Int32) (mH_ht, mH_hK, mH_hA, mH_hB, mH_hC, mH_hN, mH_h1, mH_hT, mH_hR)).bind fun r_4 => if r_4 = 0 then f8_foldSum_L99 N x1 x2 x3 (mH_ht, mH_hK, mH_hA, mH_hB, mH_hC, mH_hN, mH_h1, mH_hT, mH_hR) else some (x2, (mH_ht, mH_hK, mH_hA, mH_hB, mH_hC, mH_hN, mH_h1, mH_hT, mH_hR))

def f8_foldSum_L76  (N : Nat)  : Int32 → Int32 → Int32 → MdH → Option (Int32 × MdH)
  | x1, x2, x3, (mH_ht, mH_hK, mH_hA, mH_hB, mH_hC, mH_hN, mH_h1, mH_hT, mH_hR) =>
    if x1 = (42 : Int32) then f8_foldSum_L88 N x1 x2 x3 (mH_ht, mH_hK, mH_hA, mH_hB, mH_hC, mH_hN, mH_h1, mH_hT, mH_hR) else if x1 = (47 : Int32) then f8_foldSum_L88 N x1 x2 x3 (mH_ht, mH_hK, mH_hA, mH_hB, mH_hC, mH_hN, mH_h1, mH_hT, mH_hR) else f8_foldSum_L99 N x1 x2 x3 (mH_ht, mH_hK, mH_hA, mH_hB, mH_hC, mH_hN, mH_h1, mH_hT, mH_hR)

def f8_foldSum_L67  (N : Nat)  : Int32 → Int32 → Int32 → MdH → Option (Int32 × MdH)
  | x1, x2, x3, (mH_ht, mH_hK, mH_hA, mH_hB, mH_hC, mH_hN, mH_h1, mH_hT, mH_hR) =>
    (f8_isConstant x3 (0 : Int32) (mH_ht, mH_hK, mH_hA, mH_hB, mH_hC, mH_hN, mH_h1, mH_hT, mH_hR)).bind fun r_2 => if r_2 = 0 then f8_foldSum_L76 N x1 x2 x3 (mH_ht, mH_hK, mH_hA, mH_hB, mH_hC, mH_hN, mH_h1, mH_hT, mH_hR) else some (x2, (mH_ht, mH_hK, mH_hA, mH_hB, mH_hC, mH_hN, mH_h1, mH_hT, mH_hR))

def f8_foldSum_L55  (N : Nat)  : Int32 → Int32 → Int32 → MdH → Option (Int32 × MdH)
  | x1, x2, x3, (mH_ht, mH_hK, mH_hA, mH_hB, mH_hC, mH_hN, mH_h1, mH_hT, mH_hR) =>
    if x1 = (43 : Int32) then f8_foldSum_L67 N x1 x2 x3 (mH_ht, mH_hK, mH_hA, mH_hB, mH_hC, mH_hN, mH_h1, mH_hT, mH_hR) else if x1 = (45 : Int32) then f8_foldSum_L67 N x1 x2 x3 (mH_ht, mH_hK, mH_hA, mH_hB, mH_hC, mH_hN, mH_h1, mH_hT, mH_hR) else f8_foldSum_L76 N x1 x2 x3 (mH_ht, mH_hK, mH_hA, mH_hB, mH_hC, mH_hN, mH_h1, mH_hT, mH_hR)
def f8_foldSum (N : Nat) (v1 : Int32) (v2 : Int32) (v3 : Int32) : MdH → Option (Int32 × MdH)
  | (mH_ht, mH_hK, mH_hA, mH_hB, mH_hC, mH_hN, mH_h1, mH_hT, mH_hR) =>
    if v2 < 0 ∨ 4200 ≤ v2.toNatClampNeg then none else if (mH_hK v2.toNatClampNeg) = 0 then if v3 < 0 ∨ 4200 ≤ v3.toNatClampNeg then none else if (mH_hK v3.toNatClampNeg) = 0 then if v3 < 0 ∨ 4200 ≤ v3.toNatClampNeg then none else (f8_traps v1 (mH_hA v3.toNatClampNeg)).bind fun r_32 => if r_32 = 0 then if v2 < 0 ∨ 4200 ≤ v2.toNatClampNeg then none else if v3 < 0 ∨ 4200 ≤ v3.toNatClampNeg then none else (f8_worked v1 (mH_hA v2.toNatClampNeg) (mH_hA v3.toNatClampNeg)).bind fun r_34 => (f8_number N (0 : Int32) r_34 (0 : Int32) (0 : Int32) (mH_ht, mH_hK, mH_hA, mH_hB, mH_hC, mH_hN, mH_h1, mH_hT, mH_hR)).bind fun (r_36, (mH_ht_37, mH_hK_38, mH_hA_39, mH_hB_40, mH_hC_41, mH_hN_42, mH_h1_43, mH_hT_44, mH_hR_45)) => some (r_36, (mH_ht_37, mH_hK_38, mH_hA_39, mH_hB_40, mH_hC_41, mH_hN_42, mH_h1_43, mH_hT_44, mH_hR_45)) else f8_foldSum_L55 N v1 v2 v3 (mH_ht, mH_hK, mH_hA, mH_hB, mH_hC, mH_hN, mH_h1, mH_hT, mH_hR) else f8_foldSum_L55 N v1 v2 v3 (mH_ht, mH_hK, mH_hA, mH_hB, mH_hC, mH_hN, mH_h1, mH_hT, mH_hR) else f8_foldSum_L55 N v1 v2 v3 (mH_ht, mH_hK, mH_hA, mH_hB, mH_hC, mH_hN, mH_h1, mH_hT, mH_hR)
set_option maxHeartbeats 4000000 in
set_option maxRecDepth 100000 in
theorem w8_foldSum_L114 {V : EV} {p : Program} {l : Launch} {e : Env} {R : Room} {s : State} {m : MethodId} {args : Array Value} {below : List Frame} {meth : Method} {c : Code} {Q : State → Prop} {A : Nat → Prop} {kc ks : Nat} {ad : Nat → Nat} {mT : MdT} {mQ : MdQ} {mK : MdK} {mN : MdN} {mP : MdP} {mL : MdL} {mR : MdR} {mG : MdG}  {N : Nat} {res : Int32 × MdH} (C : CX V p l R s m args c A kc ks RX8 cX8_foldSum 4 1 26) (K : RI V p l e R s m args below meth c Q A kc ks 4 cX8_foldSum .int res.1 (wM V ad mT mQ mK mN mP mL res.2 mR mG))  : ∀ (x1 : Int32) (x2 : Int32) (x3 : Int32) (mH_ht : Int32) (mH_hK : Nat → Int32) (mH_hA : Nat → Int32) (mH_hB : Nat → Int32) (mH_hC : Nat → Int32) (mH_hN : Nat → Int32) (mH_h1 : Nat → Int32) (mH_hT : Nat → Int32) (mH_hR : Nat → Int32), f8_foldSum_L114 N x1 x2 x3 (mH_ht, mH_hK, mH_hA, mH_hB, mH_hC, mH_hN, mH_h1, mH_hT, mH_hR) = some res → WC V p l e R s m args below meth c Q A kc ks 4 (wM V ad mT mQ mK mN mP mL (mH_ht, mH_hK, mH_hA, mH_hB, mH_hC, mH_hN, mH_h1, mH_hT, mH_hR) mR mG) 114 [(0, .ref (ad 0)), (1, .int x1), (2, .int x2), (3, .int x3)] [] := by
  intro x1 x2 x3 mH_ht mH_hK mH_hA mH_hB mH_hC mH_hN mH_h1 mH_hT mH_hR hf
  rw [f8_foldSum_L114] at hf
  refine k_iload_n C dX8_foldSum_114 1 rfl ?_
  refine k_bipush (v := (42 : Int32)) C dX8_foldSum_115 (by decide) ?_
  refine k_icmp_ne C 131 dX8_foldSum_117 (by decide) (fun hc => ?_) (fun hc => ?_)
  · replace hf := (if_neg hc).symm.trans hf
    refine k_aload_n C dX8_foldSum_131 0 rfl ?_
    refine k_iconst (v := (3 : Int32)) C dX8_foldSum_132 (by decide) ?_
    refine k_iload_n C dX8_foldSum_133 1 rfl ?_
    refine k_iload_n C dX8_foldSum_134 2 rfl ?_
    refine k_iload_n C dX8_foldSum_135 3 rfl ?_
    obtain ⟨⟨r_6, ⟨mH_ht_7, mH_hK_8, mH_hA_9, mH_hB_10, mH_hC_11, mH_hN_12, mH_h1_13, mH_hT_14, mH_hR_15⟩⟩, hq_5, hf⟩ := ob_el hf
    dsimp only at hf
    refine k_callVi C (c8_number C.2.2.2.2.2.2.2.2.2.1 hq_5) cm8_293 ok8_number (by decide) 0 rfl rfl rfl rfl (Nat.le_of_ble_eq_true rfl) dX8_foldSum_136 ?_
    cases hf
    exact K _ _ dX8_foldSum_139 rfl
  · replace hf := (if_pos hc).symm.trans hf
    refine k_aload_n C dX8_foldSum_120 0 rfl ?_
    refine k_iload_n C dX8_foldSum_121 2 rfl ?_
    refine k_iconst (v := (1 : Int32)) C dX8_foldSum_122 (by decide) ?_
    obtain ⟨r_17, hq_16, hf⟩ := ob_el hf
    refine k_callVi C (c8_isConstant C.2.2.2.2.2.2.2.2.2.1 hq_16) cm8_319 ok8_isConstant (by decide) 0 rfl rfl rfl rfl (Nat.le_of_ble_eq_true rfl) dX8_foldSum_123 ?_
    refine k_if_eq C 131 dX8_foldSum_126 (by decide) (fun hc => ?_) (fun hc => ?_)
    · replace hf := (if_pos hc).symm.trans hf
      refine k_aload_n C dX8_foldSum_131 0 rfl ?_
      refine k_iconst (v := (3 : Int32)) C dX8_foldSum_132 (by decide) ?_
      refine k_iload_n C dX8_foldSum_133 1 rfl ?_
      refine k_iload_n C dX8_foldSum_134 2 rfl ?_
      refine k_iload_n C dX8_foldSum_135 3 rfl ?_
      obtain ⟨⟨r_19, ⟨mH_ht_20, mH_hK_21, mH_hA_22, mH_hB_23, mH_hC_24, mH_hN_25, mH_h1_26, mH_hT_27, mH_hR_28⟩⟩, hq_18, hf⟩ := ob_el hf
      dsimp only at hf
      refine k_callVi C (c8_number C.2.2.2.2.2.2.2.2.2.1 hq_18) cm8_293 ok8_number (by decide) 0 rfl rfl rfl rfl (Nat.le_of_ble_eq_true rfl) dX8_foldSum_136 ?_
      cases hf
      exact K _ _ dX8_foldSum_139 rfl
    · replace hf := (if_neg hc).symm.trans hf
      refine k_iload_n C dX8_foldSum_129 3 rfl ?_
      cases hf
      exact K _ _ dX8_foldSum_130 rfl

set_option maxHeartbeats 4000000 in
set_option maxRecDepth 100000 in
theorem w8_foldSum_L99 {V : EV} {p : Program} {l : Launch} {e : Env} {R : Room} {s : State} {m : MethodId} {args : Array Value} {below : List Frame} {meth : Method} {c : Code} {Q : State → Prop} {A : Nat → Prop} {kc ks : Nat} {ad : Nat → Nat} {mT : MdT} {mQ : MdQ} {mK : MdK} {mN : MdN} {mP : MdP} {mL : MdL} {mR : MdR} {mG : MdG}  {N : Nat} {res : Int32 × MdH} (C : CX V p l R s m args c A kc ks RX8 cX8_foldSum 4 1 26) (K : RI V p l e R s m args below meth c Q A kc ks 4 cX8_foldSum .int res.1 (wM V ad mT mQ mK mN mP mL res.2 mR mG))  : ∀ (x1 : Int32) (x2 : Int32) (x3 : Int32) (mH_ht : Int32) (mH_hK : Nat → Int32) (mH_hA : Nat → Int32) (mH_hB : Nat → Int32) (mH_hC : Nat → Int32) (mH_hN : Nat → Int32) (mH_h1 : Nat → Int32) (mH_hT : Nat → Int32) (mH_hR : Nat → Int32), f8_foldSum_L99 N x1 x2 x3 (mH_ht, mH_hK, mH_hA, mH_hB, mH_hC, mH_hN, mH_h1, mH_hT, mH_hR) = some res → WC V p l e R s m args below meth c Q A kc ks 4 (wM V ad mT mQ mK mN mP mL (mH_ht, mH_hK, mH_hA, mH_hB, mH_hC, mH_hN, mH_h1, mH_hT, mH_hR) mR mG) 99 [(0, .ref (ad 0)), (1, .int x1), (2, .int x2), (3, .int x3)] [] := by
  intro x1 x2 x3 mH_ht mH_hK mH_hA mH_hB mH_hC mH_hN mH_h1 mH_hT mH_hR hf
  rw [f8_foldSum_L99] at hf
  refine k_iload_n C dX8_foldSum_99 1 rfl ?_
  refine k_bipush (v := (43 : Int32)) C dX8_foldSum_100 (by decide) ?_
  refine k_icmp_ne C 114 dX8_foldSum_102 (by decide) (fun hc => ?_) (fun hc => ?_)
  · replace hf := (if_neg hc).symm.trans hf
    exact w8_foldSum_L114 C K _ _ _ _ _ _ _ _ _ _ _ _ hf
  · replace hf := (if_pos hc).symm.trans hf
    refine k_aload_n C dX8_foldSum_105 0 rfl ?_
    refine k_iload_n C dX8_foldSum_106 2 rfl ?_
    refine k_iconst (v := (0 : Int32)) C dX8_foldSum_107 (by decide) ?_
    obtain ⟨r_30, hq_29, hf⟩ := ob_el hf
    refine k_callVi C (c8_isConstant C.2.2.2.2.2.2.2.2.2.1 hq_29) cm8_319 ok8_isConstant (by decide) 0 rfl rfl rfl rfl (Nat.le_of_ble_eq_true rfl) dX8_foldSum_108 ?_
    refine k_if_ne C 129 dX8_foldSum_111 (by decide) (fun hc => ?_) (fun hc => ?_)
    · replace hf := (if_neg hc).symm.trans hf
      refine k_iload_n C dX8_foldSum_129 3 rfl ?_
      cases hf
      exact K _ _ dX8_foldSum_130 rfl
    · replace hf := (if_pos hc).symm.trans hf
      exact w8_foldSum_L114 C K _ _ _ _ _ _ _ _ _ _ _ _ hf

set_option maxHeartbeats 4000000 in
set_option maxRecDepth 100000 in
theorem w8_foldSum_L88 {V : EV} {p : Program} {l : Launch} {e : Env} {R : Room} {s : State} {m : MethodId} {args : Array Value} {below : List Frame} {meth : Method} {c : Code} {Q : State → Prop} {A : Nat → Prop} {kc ks : Nat} {ad : Nat → Nat} {mT : MdT} {mQ : MdQ} {mK : MdK} {mN : MdN} {mP : MdP} {mL : MdL} {mR : MdR} {mG : MdG}  {N : Nat} {res : Int32 × MdH} (C : CX V p l R s m args c A kc ks RX8 cX8_foldSum 4 1 26) (K : RI V p l e R s m args below meth c Q A kc ks 4 cX8_foldSum .int res.1 (wM V ad mT mQ mK mN mP mL res.2 mR mG))  : ∀ (x1 : Int32) (x2 : Int32) (x3 : Int32) (mH_ht : Int32) (mH_hK : Nat → Int32) (mH_hA : Nat → Int32) (mH_hB : Nat → Int32) (mH_hC : Nat → Int32) (mH_hN : Nat → Int32) (mH_h1 : Nat → Int32) (mH_hT : Nat → Int32) (mH_hR : Nat → Int32), f8_foldSum_L88 N x1 x2 x3 (mH_ht, mH_hK, mH_hA, mH_hB, mH_hC, mH_hN, mH_h1, mH_hT, mH_hR) = some res → WC V p l e R s m args below meth c Q A kc ks 4 (wM V ad mT mQ mK mN mP mL (mH_ht, mH_hK, mH_hA, mH_hB, mH_hC, mH_hN, mH_h1, mH_hT, mH_hR) mR mG) 88 [(0, .ref (ad 0)), (1, .int x1), (2, .int x2), (3, .int x3)] [] := by
  intro x1 x2 x3 mH_ht mH_hK mH_hA mH_hB mH_hC mH_hN mH_h1 mH_hT mH_hR hf
  rw [f8_foldSum_L88] at hf
  refine k_aload_n C dX8_foldSum_88 0 rfl ?_
  refine k_iload_n C dX8_foldSum_89 3 rfl ?_
  refine k_iconst (v := (1 : Int32)) C dX8_foldSum_90 (by decide) ?_
  obtain ⟨r_4, hq_3, hf⟩ := ob_el hf
  refine k_callVi C (c8_isConstant C.2.2.2.2.2.2.2.2.2.1 hq_3) cm8_319 ok8_isConstant (by decide) 0 rfl rfl rfl rfl (Nat.le_of_ble_eq_true rfl) dX8_foldSum_91 ?_
  refine k_if_eq C 99 dX8_foldSum_94 (by decide) (fun hc => ?_) (fun hc => ?_)
  · replace hf := (if_pos hc).symm.trans hf
    exact w8_foldSum_L99 C K _ _ _ _ _ _ _ _ _ _ _ _ hf
  · replace hf := (if_neg hc).symm.trans hf
    refine k_iload_n C dX8_foldSum_97 2 rfl ?_
    cases hf
    exact K _ _ dX8_foldSum_98 rfl

set_option maxHeartbeats 4000000 in
set_option maxRecDepth 100000 in
theorem w8_foldSum_L76 {V : EV} {p : Program} {l : Launch} {e : Env} {R : Room} {s : State} {m : MethodId} {args : Array Value} {below : List Frame} {meth : Method} {c : Code} {Q : State → Prop} {A : Nat → Prop} {kc ks : Nat} {ad : Nat → Nat} {mT : MdT} {mQ : MdQ} {mK : MdK} {mN : MdN} {mP : MdP} {mL : MdL} {mR : MdR} {mG : MdG}  {N : Nat} {res : Int32 × MdH} (C : CX V p l R s m args c A kc ks RX8 cX8_foldSum 4 1 26) (K : RI V p l e R s m args below meth c Q A kc ks 4 cX8_foldSum .int res.1 (wM V ad mT mQ mK mN mP mL res.2 mR mG))  : ∀ (x1 : Int32) (x2 : Int32) (x3 : Int32) (mH_ht : Int32) (mH_hK : Nat → Int32) (mH_hA : Nat → Int32) (mH_hB : Nat → Int32) (mH_hC : Nat → Int32) (mH_hN : Nat → Int32) (mH_h1 : Nat → Int32) (mH_hT : Nat → Int32) (mH_hR : Nat → Int32), f8_foldSum_L76 N x1 x2 x3 (mH_ht, mH_hK, mH_hA, mH_hB, mH_hC, mH_hN, mH_h1, mH_hT, mH_hR) = some res → WC V p l e R s m args below meth c Q A kc ks 4 (wM V ad mT mQ mK mN mP mL (mH_ht, mH_hK, mH_hA, mH_hB, mH_hC, mH_hN, mH_h1, mH_hT, mH_hR) mR mG) 76 [(0, .ref (ad 0)), (1, .int x1), (2, .int x2), (3, .int x3)] [] := by
  intro x1 x2 x3 mH_ht mH_hK mH_hA mH_hB mH_hC mH_hN mH_h1 mH_hT mH_hR hf
  rw [f8_foldSum_L76] at hf
  refine k_iload_n C dX8_foldSum_76 1 rfl ?_
  refine k_bipush (v := (42 : Int32)) C dX8_foldSum_77 (by decide) ?_
  refine k_icmp_eq C 88 dX8_foldSum_79 (by decide) (fun hc => ?_) (fun hc => ?_)
  · replace hf := (if_pos hc).symm.trans hf
    exact w8_foldSum_L88 C K _ _ _ _ _ _ _ _ _ _ _ _ hf
  · replace hf := (if_neg hc).symm.trans hf
    refine k_iload_n C dX8_foldSum_82 1 rfl ?_
    refine k_bipush (v := (47 : Int32)) C dX8_foldSum_83 (by decide) ?_
    refine k_icmp_ne C 99 dX8_foldSum_85 (by decide) (fun hc => ?_) (fun hc => ?_)
    · replace hf := (if_neg hc).symm.trans hf
      exact w8_foldSum_L99 C K _ _ _ _ _ _ _ _ _ _ _ _ hf
    · replace hf := (if_pos hc).symm.trans hf
      exact w8_foldSum_L88 C K _ _ _ _ _ _ _ _ _ _ _ _ hf

set_option maxHeartbeats 4000000 in
set_option maxRecDepth 100000 in
theorem w8_foldSum_L67 {V : EV} {p : Program} {l : Launch} {e : Env} {R : Room} {s : State} {m : MethodId} {args : Array Value} {below : List Frame} {meth : Method} {c : Code} {Q : State → Prop} {A : Nat → Prop} {kc ks : Nat} {ad : Nat → Nat} {mT : MdT} {mQ : MdQ} {mK : MdK} {mN : MdN} {mP : MdP} {mL : MdL} {mR : MdR} {mG : MdG}  {N : Nat} {res : Int32 × MdH} (C : CX V p l R s m args c A kc ks RX8 cX8_foldSum 4 1 26) (K : RI V p l e R s m args below meth c Q A kc ks 4 cX8_foldSum .int res.1 (wM V ad mT mQ mK mN mP mL res.2 mR mG))  : ∀ (x1 : Int32) (x2 : Int32) (x3 : Int32) (mH_ht : Int32) (mH_hK : Nat → Int32) (mH_hA : Nat → Int32) (mH_hB : Nat → Int32) (mH_hC : Nat → Int32) (mH_hN : Nat → Int32) (mH_h1 : Nat → Int32) (mH_hT : Nat → Int32) (mH_hR : Nat → Int32), f8_foldSum_L67 N x1 x2 x3 (mH_ht, mH_hK, mH_hA, mH_hB, mH_hC, mH_hN, mH_h1, mH_hT, mH_hR) = some res → WC V p l e R s m args below meth c Q A kc ks 4 (wM V ad mT mQ mK mN mP mL (mH_ht, mH_hK, mH_hA, mH_hB, mH_hC, mH_hN, mH_h1, mH_hT, mH_hR) mR mG) 67 [(0, .ref (ad 0)), (1, .int x1), (2, .int x2), (3, .int x3)] [] := by
  intro x1 x2 x3 mH_ht mH_hK mH_hA mH_hB mH_hC mH_hN mH_h1 mH_hT mH_hR hf
  rw [f8_foldSum_L67] at hf
  refine k_aload_n C dX8_foldSum_67 0 rfl ?_
  refine k_iload_n C dX8_foldSum_68 3 rfl ?_
  refine k_iconst (v := (0 : Int32)) C dX8_foldSum_69 (by decide) ?_
  obtain ⟨r_2, hq_1, hf⟩ := ob_el hf
  refine k_callVi C (c8_isConstant C.2.2.2.2.2.2.2.2.2.1 hq_1) cm8_319 ok8_isConstant (by decide) 0 rfl rfl rfl rfl (Nat.le_of_ble_eq_true rfl) dX8_foldSum_70 ?_
  refine k_if_ne C 97 dX8_foldSum_73 (by decide) (fun hc => ?_) (fun hc => ?_)
  · replace hf := (if_neg hc).symm.trans hf
    refine k_iload_n C dX8_foldSum_97 2 rfl ?_
    cases hf
    exact K _ _ dX8_foldSum_98 rfl
  · replace hf := (if_pos hc).symm.trans hf
    exact w8_foldSum_L76 C K _ _ _ _ _ _ _ _ _ _ _ _ hf

set_option maxHeartbeats 4000000 in
set_option maxRecDepth 100000 in
theorem w8_foldSum_L55 {V : EV} {p : Program} {l : Launch} {e : Env} {R : Room} {s : State} {m : MethodId} {args : Array Value} {below : List Frame} {meth : Method} {c : Code} {Q : State → Prop} {A : Nat → Prop} {kc ks : Nat} {ad : Nat → Nat} {mT : MdT} {mQ : MdQ} {mK : MdK} {mN : MdN} {mP : MdP} {mL : MdL} {mR : MdR} {mG : MdG}  {N : Nat} {res : Int32 × MdH} (C : CX V p l R s m args c A kc ks RX8 cX8_foldSum 4 1 26) (K : RI V p l e R s m args below meth c Q A kc ks 4 cX8_foldSum .int res.1 (wM V ad mT mQ mK mN mP mL res.2 mR mG))  : ∀ (x1 : Int32) (x2 : Int32) (x3 : Int32) (mH_ht : Int32) (mH_hK : Nat → Int32) (mH_hA : Nat → Int32) (mH_hB : Nat → Int32) (mH_hC : Nat → Int32) (mH_hN : Nat → Int32) (mH_h1 : Nat → Int32) (mH_hT : Nat → Int32) (mH_hR : Nat → Int32), f8_foldSum_L55 N x1 x2 x3 (mH_ht, mH_hK, mH_hA, mH_hB, mH_hC, mH_hN, mH_h1, mH_hT, mH_hR) = some res → WC V p l e R s m args below meth c Q A kc ks 4 (wM V ad mT mQ mK mN mP mL (mH_ht, mH_hK, mH_hA, mH_hB, mH_hC, mH_hN, mH_h1, mH_hT, mH_hR) mR mG) 55 [(0, .ref (ad 0)), (1, .int x1), (2, .int x2), (3, .int x3)] [] := by
  intro x1 x2 x3 mH_ht mH_hK mH_hA mH_hB mH_hC mH_hN mH_h1 mH_hT mH_hR hf
  rw [f8_foldSum_L55] at hf
  refine k_iload_n C dX8_foldSum_55 1 rfl ?_
  refine k_bipush (v := (43 : Int32)) C dX8_foldSum_56 (by decide) ?_
  refine k_icmp_eq C 67 dX8_foldSum_58 (by decide) (fun hc => ?_) (fun hc => ?_)
  · replace hf := (if_pos hc).symm.trans hf
    exact w8_foldSum_L67 C K _ _ _ _ _ _ _ _ _ _ _ _ hf
  · replace hf := (if_neg hc).symm.trans hf
    refine k_iload_n C dX8_foldSum_61 1 rfl ?_
    refine k_bipush (v := (45 : Int32)) C dX8_foldSum_62 (by decide) ?_
    refine k_icmp_ne C 76 dX8_foldSum_64 (by decide) (fun hc => ?_) (fun hc => ?_)
    · replace hf := (if_neg hc).symm.trans hf
      exact w8_foldSum_L76 C K _ _ _ _ _ _ _ _ _ _ _ _ hf
    · replace hf := (if_pos hc).symm.trans hf
      exact w8_foldSum_L67 C K _ _ _ _ _ _ _ _ _ _ _ _ hf
set_option maxHeartbeats 4000000 in
set_option maxRecDepth 100000 in
theorem b8_foldSum {V : EV} {p : Program} {l : Launch} {e : Env} {R : Room} {s : State} {m : MethodId} {args : Array Value} {below : List Frame} {meth : Method} {c : Code} {Q : State → Prop} {A : Nat → Prop} {kc ks : Nat} {ad : Nat → Nat} {mT : MdT} {mQ : MdQ} {mK : MdK} {mN : MdN} {mP : MdP} {mL : MdL} {mR : MdR} {mG : MdG} {v1 : Int32} {v2 : Int32} {v3 : Int32} {mH_ht : Int32} {mH_hK : Nat → Int32} {mH_hA : Nat → Int32} {mH_hB : Nat → Int32} {mH_hC : Nat → Int32} {mH_hN : Nat → Int32} {mH_h1 : Nat → Int32} {mH_hT : Nat → Int32} {mH_hR : Nat → Int32} {N : Nat} {res : Int32 × MdH} (C : CX V p l R s m args c A kc ks RX8 cX8_foldSum 4 1 26) (hf : f8_foldSum N v1 v2 v3 (mH_ht, mH_hK, mH_hA, mH_hB, mH_hC, mH_hN, mH_h1, mH_hT, mH_hR) = some res) (K : RI V p l e R s m args below meth c Q A kc ks 4 cX8_foldSum .int res.1 (wM V ad mT mQ mK mN mP mL res.2 mR mG)) : WC V p l e R s m args below meth c Q A kc ks 4 (wM V ad mT mQ mK mN mP mL (mH_ht, mH_hK, mH_hA, mH_hB, mH_hC, mH_hN, mH_h1, mH_hT, mH_hR) mR mG) 0 [(0, .ref (ad 0)), (1, .int v1), (2, .int v2), (3, .int v3)] [] := by
  rw [f8_foldSum] at hf
  refine k_aload_n C dX8_foldSum_0 0 rfl ?_
  refine g8_76 C dX8_foldSum_1 ?_
  refine k_iload_n C dX8_foldSum_4 2 rfl ?_
  obtain ⟨hi, hf⟩ := gd_no hf
  refine lm23 C hi dX8_foldSum_5 ?_
  refine k_if_ne C 55 dX8_foldSum_6 (by decide) (fun hc => ?_) (fun hc => ?_)
  · replace hf := (if_neg hc).symm.trans hf
    exact w8_foldSum_L55 C K _ _ _ _ _ _ _ _ _ _ _ _ hf
  · replace hf := (if_pos hc).symm.trans hf
    refine k_aload_n C dX8_foldSum_9 0 rfl ?_
    refine g8_76 C dX8_foldSum_10 ?_
    refine k_iload_n C dX8_foldSum_13 3 rfl ?_
    obtain ⟨hi, hf⟩ := gd_no hf
    refine lm23 C hi dX8_foldSum_14 ?_
    refine k_if_ne C 55 dX8_foldSum_15 (by decide) (fun hc => ?_) (fun hc => ?_)
    · replace hf := (if_neg hc).symm.trans hf
      exact w8_foldSum_L55 C K _ _ _ _ _ _ _ _ _ _ _ _ hf
    · replace hf := (if_pos hc).symm.trans hf
      refine k_iload_n C dX8_foldSum_18 1 rfl ?_
      refine k_aload_n C dX8_foldSum_19 0 rfl ?_
      refine g8_79 C dX8_foldSum_20 ?_
      refine k_iload_n C dX8_foldSum_23 3 rfl ?_
      obtain ⟨hi, hf⟩ := gd_no hf
      refine lm24 C hi dX8_foldSum_24 ?_
      obtain ⟨r_32, hq_31, hf⟩ := ob_el hf
      refine k_callSi C (c8_traps C.2.2.2.2.2.2.2.2.2.1 hq_31) cm8_312 ok8_traps (by decide) rfl rfl (Nat.le_of_ble_eq_true rfl) dX8_foldSum_25 ?_
      refine k_if_ne C 55 dX8_foldSum_28 (by decide) (fun hc => ?_) (fun hc => ?_)
      · replace hf := (if_neg hc).symm.trans hf
        exact w8_foldSum_L55 C K _ _ _ _ _ _ _ _ _ _ _ _ hf
      · replace hf := (if_pos hc).symm.trans hf
        refine k_aload_n C dX8_foldSum_31 0 rfl ?_
        refine k_iconst (v := (0 : Int32)) C dX8_foldSum_32 (by decide) ?_
        refine k_iload_n C dX8_foldSum_33 1 rfl ?_
        refine k_aload_n C dX8_foldSum_34 0 rfl ?_
        refine g8_79 C dX8_foldSum_35 ?_
        refine k_iload_n C dX8_foldSum_38 2 rfl ?_
        obtain ⟨hi, hf⟩ := gd_no hf
        refine lm24 C hi dX8_foldSum_39 ?_
        refine k_aload_n C dX8_foldSum_40 0 rfl ?_
        refine g8_79 C dX8_foldSum_41 ?_
        refine k_iload_n C dX8_foldSum_44 3 rfl ?_
        obtain ⟨hi, hf⟩ := gd_no hf
        refine lm24 C hi dX8_foldSum_45 ?_
        obtain ⟨r_34, hq_33, hf⟩ := ob_el hf
        refine k_callSi C (c8_worked C.2.2.2.2.2.2.2.2.2.1 hq_33) cm8_316 ok8_worked (by decide) rfl rfl (Nat.le_of_ble_eq_true rfl) dX8_foldSum_46 ?_
        refine k_iconst (v := (0 : Int32)) C dX8_foldSum_49 (by decide) ?_
        refine k_iconst (v := (0 : Int32)) C dX8_foldSum_50 (by decide) ?_
        obtain ⟨⟨r_36, ⟨mH_ht_37, mH_hK_38, mH_hA_39, mH_hB_40, mH_hC_41, mH_hN_42, mH_h1_43, mH_hT_44, mH_hR_45⟩⟩, hq_35, hf⟩ := ob_el hf
        dsimp only at hf
        refine k_callVi C (c8_number C.2.2.2.2.2.2.2.2.2.1 hq_35) cm8_293 ok8_number (by decide) 0 rfl rfl rfl rfl (Nat.le_of_ble_eq_true rfl) dX8_foldSum_51 ?_
        cases hf
        exact K _ _ dX8_foldSum_54 rfl
theorem c8_foldSum {V : EV} {l : Launch} (hl0 : l.stackTraces = false) {ad : Nat → Nat} {mT : MdT} {mQ : MdQ} {mK : MdK} {mN : MdN} {mP : MdP} {mL : MdL} {mR : MdR} {mG : MdG} {v1 : Int32} {v2 : Int32} {v3 : Int32} {mH_ht : Int32} {mH_hK : Nat → Int32} {mH_hA : Nat → Int32} {mH_hB : Nat → Int32} {mH_hC : Nat → Int32} {mH_hN : Nat → Int32} {mH_h1 : Nat → Int32} {mH_hT : Nat → Int32} {mH_hR : Nat → Int32} {N : Nat} {res : Int32 × MdH} (hf : f8_foldSum N v1 v2 v3 (mH_ht, mH_hK, mH_hA, mH_hB, mH_hC, mH_hN, mH_h1, mH_hT, mH_hR) = some res) : MI V l yX8_foldSum cX8_foldSum 4 .int 1 26 [.ref (ad 0), .int v1, .int v2, .int v3] (wM V ad mT mQ mK mN mP mL (mH_ht, mH_hK, mH_hA, mH_hB, mH_hC, mH_hN, mH_h1, mH_hT, mH_hR) mR mG) res.1 (wM V ad mT mQ mK mN mP mL res.2 mR mG) :=
  mi_of hl0 (by decide +kernel) (Nat.le_of_ble_eq_true rfl) (fun p e R s m args below meth c Q A C K => b8_foldSum C hf K)

theorem ok8_compared : okCV RX8 yX8_compared 3 := by unfold okCV; decide +kernel
def f8_compared (v0 : Int32) (v1 : Int32) (v2 : Int32) : Option (Int32) :=
    if v0 = (60 : Int32) then if v2 ≤ v1 then some (0 : Int32) else some (1 : Int32) else if v0 = (62 : Int32) then if v1 ≤ v2 then some (0 : Int32) else some (1 : Int32) else if v0 = (61 : Int32) then if v1 = v2 then some (1 : Int32) else some (0 : Int32) else if v1 = v2 then some (0 : Int32) else some (1 : Int32)
set_option maxHeartbeats 4000000 in
set_option maxRecDepth 100000 in
theorem b8_compared {V : EV} {p : Program} {l : Launch} {e : Env} {R : Room} {s : State} {m : MethodId} {args : Array Value} {below : List Frame} {meth : Method} {c : Code} {Q : State → Prop} {A : Nat → Prop} {kc ks : Nat} {ad : Nat → Nat} {mT : MdT} {mQ : MdQ} {mK : MdK} {mN : MdN} {mP : MdP} {mL : MdL} {mH : MdH} {mR : MdR} {mG : MdG} {v0 : Int32} {v1 : Int32} {v2 : Int32} {res : Int32} (C : CX V p l R s m args c A kc ks RX8 cX8_compared 3 0 0) (hf : f8_compared v0 v1 v2 = some res) (K : RI V p l e R s m args below meth c Q A kc ks 3 cX8_compared .boolean res (wM V ad mT mQ mK mN mP mL mH mR mG)) : WC V p l e R s m args below meth c Q A kc ks 3 (wM V ad mT mQ mK mN mP mL mH mR mG) 0 [(0, .int v0), (1, .int v1), (2, .int v2)] [] := by
  rw [f8_compared] at hf
  refine k_iload_n C dX8_compared_0 0 rfl ?_
  refine k_bipush (v := (60 : Int32)) C dX8_compared_1 (by decide) ?_
  refine k_icmp_ne C 19 dX8_compared_3 (by decide) (fun hc => ?_) (fun hc => ?_)
  · replace hf := (if_neg hc).symm.trans hf
    refine k_iload_n C dX8_compared_19 0 rfl ?_
    refine k_bipush (v := (62 : Int32)) C dX8_compared_20 (by decide) ?_
    refine k_icmp_ne C 38 dX8_compared_22 (by decide) (fun hc => ?_) (fun hc => ?_)
    · replace hf := (if_neg hc).symm.trans hf
      refine k_iload_n C dX8_compared_38 0 rfl ?_
      refine k_bipush (v := (61 : Int32)) C dX8_compared_39 (by decide) ?_
      refine k_icmp_ne C 57 dX8_compared_41 (by decide) (fun hc => ?_) (fun hc => ?_)
      · replace hf := (if_neg hc).symm.trans hf
        refine k_iload_n C dX8_compared_57 1 rfl ?_
        refine k_iload_n C dX8_compared_58 2 rfl ?_
        refine k_icmp_eq C 66 dX8_compared_59 (by decide) (fun hc => ?_) (fun hc => ?_)
        · replace hf := (if_pos hc).symm.trans hf
          refine k_iconst (v := (0 : Int32)) C dX8_compared_66 (by decide) ?_
          cases hf
          exact K _ _ dX8_compared_67 (nar_b (Or.inl rfl))
        · replace hf := (if_neg hc).symm.trans hf
          refine k_iconst (v := (1 : Int32)) C dX8_compared_62 (by decide) ?_
          refine k_goto C 67 dX8_compared_63 (by decide) ?_
          cases hf
          exact K _ _ dX8_compared_67 (nar_b (Or.inr rfl))
      · replace hf := (if_pos hc).symm.trans hf
        refine k_iload_n C dX8_compared_44 1 rfl ?_
        refine k_iload_n C dX8_compared_45 2 rfl ?_
        refine k_icmp_ne C 53 dX8_compared_46 (by decide) (fun hc => ?_) (fun hc => ?_)
        · replace hf := (if_neg hc).symm.trans hf
          refine k_iconst (v := (0 : Int32)) C dX8_compared_53 (by decide) ?_
          refine k_goto C 67 dX8_compared_54 (by decide) ?_
          cases hf
          exact K _ _ dX8_compared_67 (nar_b (Or.inl rfl))
        · replace hf := (if_pos hc).symm.trans hf
          refine k_iconst (v := (1 : Int32)) C dX8_compared_49 (by decide) ?_
          refine k_goto C 67 dX8_compared_50 (by decide) ?_
          cases hf
          exact K _ _ dX8_compared_67 (nar_b (Or.inr rfl))
    · replace hf := (if_pos hc).symm.trans hf
      refine k_iload_n C dX8_compared_25 1 rfl ?_
      refine k_iload_n C dX8_compared_26 2 rfl ?_
      refine k_icmp_le C 34 dX8_compared_27 (by decide) (fun hc => ?_) (fun hc => ?_)
      · replace hf := (if_pos hc).symm.trans hf
        refine k_iconst (v := (0 : Int32)) C dX8_compared_34 (by decide) ?_
        refine k_goto C 67 dX8_compared_35 (by decide) ?_
        cases hf
        exact K _ _ dX8_compared_67 (nar_b (Or.inl rfl))
      · replace hf := (if_neg hc).symm.trans hf
        refine k_iconst (v := (1 : Int32)) C dX8_compared_30 (by decide) ?_
        refine k_goto C 67 dX8_compared_31 (by decide) ?_
        cases hf
        exact K _ _ dX8_compared_67 (nar_b (Or.inr rfl))
  · replace hf := (if_pos hc).symm.trans hf
    refine k_iload_n C dX8_compared_6 1 rfl ?_
    refine k_iload_n C dX8_compared_7 2 rfl ?_
    refine k_icmp_ge C 15 dX8_compared_8 (by decide) (fun hc => ?_) (fun hc => ?_)
    · replace hf := (if_pos hc).symm.trans hf
      refine k_iconst (v := (0 : Int32)) C dX8_compared_15 (by decide) ?_
      refine k_goto C 67 dX8_compared_16 (by decide) ?_
      cases hf
      exact K _ _ dX8_compared_67 (nar_b (Or.inl rfl))
    · replace hf := (if_neg hc).symm.trans hf
      refine k_iconst (v := (1 : Int32)) C dX8_compared_11 (by decide) ?_
      refine k_goto C 67 dX8_compared_12 (by decide) ?_
      cases hf
      exact K _ _ dX8_compared_67 (nar_b (Or.inr rfl))
theorem c8_compared {V : EV} {l : Launch} (hl0 : l.stackTraces = false) {ad : Nat → Nat} {mT : MdT} {mQ : MdQ} {mK : MdK} {mN : MdN} {mP : MdP} {mL : MdL} {mH : MdH} {mR : MdR} {mG : MdG} {v0 : Int32} {v1 : Int32} {v2 : Int32} {res : Int32} (hf : f8_compared v0 v1 v2 = some res) : MI V l yX8_compared cX8_compared 3 .boolean 0 0 [.int v0, .int v1, .int v2] (wM V ad mT mQ mK mN mP mL mH mR mG) res (wM V ad mT mQ mK mN mP mL mH mR mG) :=
  mi_of hl0 (by decide +kernel) (Nat.le_of_ble_eq_true rfl) (fun p e R s m args below meth c Q A C K => b8_compared C hf K)

theorem ok8_truth : okCV RX8 yX8_truth 1 := by unfold okCV; decide +kernel
def f8_truth (N : Nat) (v1 : Int32) : MdH → Option (Int32 × MdH)
  | (mH_ht, mH_hK, mH_hA, mH_hB, mH_hC, mH_hN, mH_h1, mH_hT, mH_hR) =>
    if v1 = 0 then (f8_number N (12 : Int32) (0 : Int32) (0 : Int32) (0 : Int32) (mH_ht, mH_hK, mH_hA, mH_hB, mH_hC, mH_hN, mH_h1, mH_hT, mH_hR)).bind fun (r_2, (mH_ht_3, mH_hK_4, mH_hA_5, mH_hB_6, mH_hC_7, mH_hN_8, mH_h1_9, mH_hT_10, mH_hR_11)) => some (r_2, (mH_ht_3, mH_hK_4, mH_hA_5, mH_hB_6, mH_hC_7, mH_hN_8, mH_h1_9, mH_hT_10, mH_hR_11)) else (f8_number N (12 : Int32) (1 : Int32) (0 : Int32) (0 : Int32) (mH_ht, mH_hK, mH_hA, mH_hB, mH_hC, mH_hN, mH_h1, mH_hT, mH_hR)).bind fun (r_13, (mH_ht_14, mH_hK_15, mH_hA_16, mH_hB_17, mH_hC_18, mH_hN_19, mH_h1_20, mH_hT_21, mH_hR_22)) => some (r_13, (mH_ht_14, mH_hK_15, mH_hA_16, mH_hB_17, mH_hC_18, mH_hN_19, mH_h1_20, mH_hT_21, mH_hR_22))
set_option maxHeartbeats 4000000 in
set_option maxRecDepth 100000 in
theorem b8_truth {V : EV} {p : Program} {l : Launch} {e : Env} {R : Room} {s : State} {m : MethodId} {args : Array Value} {below : List Frame} {meth : Method} {c : Code} {Q : State → Prop} {A : Nat → Prop} {kc ks : Nat} {ad : Nat → Nat} {mT : MdT} {mQ : MdQ} {mK : MdK} {mN : MdN} {mP : MdP} {mL : MdL} {mR : MdR} {mG : MdG} {v1 : Int32} {mH_ht : Int32} {mH_hK : Nat → Int32} {mH_hA : Nat → Int32} {mH_hB : Nat → Int32} {mH_hC : Nat → Int32} {mH_hN : Nat → Int32} {mH_h1 : Nat → Int32} {mH_hT : Nat → Int32} {mH_hR : Nat → Int32} {N : Nat} {res : Int32 × MdH} (C : CX V p l R s m args c A kc ks RX8 cX8_truth 2 1 26) (hf : f8_truth N v1 (mH_ht, mH_hK, mH_hA, mH_hB, mH_hC, mH_hN, mH_h1, mH_hT, mH_hR) = some res) (K : RI V p l e R s m args below meth c Q A kc ks 2 cX8_truth .int res.1 (wM V ad mT mQ mK mN mP mL res.2 mR mG)) : WC V p l e R s m args below meth c Q A kc ks 2 (wM V ad mT mQ mK mN mP mL (mH_ht, mH_hK, mH_hA, mH_hB, mH_hC, mH_hN, mH_h1, mH_hT, mH_hR) mR mG) 0 [(0, .ref (ad 0)), (1, .int v1)] [] := by
  rw [f8_truth] at hf
  refine k_aload_n C dX8_truth_0 0 rfl ?_
  refine k_bipush (v := (12 : Int32)) C dX8_truth_1 (by decide) ?_
  refine k_iload_n C dX8_truth_3 1 rfl ?_
  refine k_if_eq C 11 dX8_truth_4 (by decide) (fun hc => ?_) (fun hc => ?_)
  · replace hf := (if_pos hc).symm.trans hf
    refine k_iconst (v := (0 : Int32)) C dX8_truth_11 (by decide) ?_
    refine k_iconst (v := (0 : Int32)) C dX8_truth_12 (by decide) ?_
    refine k_iconst (v := (0 : Int32)) C dX8_truth_13 (by decide) ?_
    obtain ⟨⟨r_2, ⟨mH_ht_3, mH_hK_4, mH_hA_5, mH_hB_6, mH_hC_7, mH_hN_8, mH_h1_9, mH_hT_10, mH_hR_11⟩⟩, hq_1, hf⟩ := ob_el hf
    dsimp only at hf
    refine k_callVi C (c8_number C.2.2.2.2.2.2.2.2.2.1 hq_1) cm8_293 ok8_number (by decide) 0 rfl rfl rfl rfl (Nat.le_of_ble_eq_true rfl) dX8_truth_14 ?_
    cases hf
    exact K _ _ dX8_truth_17 rfl
  · replace hf := (if_neg hc).symm.trans hf
    refine k_iconst (v := (1 : Int32)) C dX8_truth_7 (by decide) ?_
    refine k_goto C 12 dX8_truth_8 (by decide) ?_
    refine k_iconst (v := (0 : Int32)) C dX8_truth_12 (by decide) ?_
    refine k_iconst (v := (0 : Int32)) C dX8_truth_13 (by decide) ?_
    obtain ⟨⟨r_13, ⟨mH_ht_14, mH_hK_15, mH_hA_16, mH_hB_17, mH_hC_18, mH_hN_19, mH_h1_20, mH_hT_21, mH_hR_22⟩⟩, hq_12, hf⟩ := ob_el hf
    dsimp only at hf
    refine k_callVi C (c8_number C.2.2.2.2.2.2.2.2.2.1 hq_12) cm8_293 ok8_number (by decide) 0 rfl rfl rfl rfl (Nat.le_of_ble_eq_true rfl) dX8_truth_14 ?_
    cases hf
    exact K _ _ dX8_truth_17 rfl
theorem c8_truth {V : EV} {l : Launch} (hl0 : l.stackTraces = false) {ad : Nat → Nat} {mT : MdT} {mQ : MdQ} {mK : MdK} {mN : MdN} {mP : MdP} {mL : MdL} {mR : MdR} {mG : MdG} {v1 : Int32} {mH_ht : Int32} {mH_hK : Nat → Int32} {mH_hA : Nat → Int32} {mH_hB : Nat → Int32} {mH_hC : Nat → Int32} {mH_hN : Nat → Int32} {mH_h1 : Nat → Int32} {mH_hT : Nat → Int32} {mH_hR : Nat → Int32} {N : Nat} {res : Int32 × MdH} (hf : f8_truth N v1 (mH_ht, mH_hK, mH_hA, mH_hB, mH_hC, mH_hN, mH_h1, mH_hT, mH_hR) = some res) : MI V l yX8_truth cX8_truth 2 .int 1 26 [.ref (ad 0), .int v1] (wM V ad mT mQ mK mN mP mL (mH_ht, mH_hK, mH_hA, mH_hB, mH_hC, mH_hN, mH_h1, mH_hT, mH_hR) mR mG) res.1 (wM V ad mT mQ mK mN mP mL res.2 mR mG) :=
  mi_of hl0 (by decide +kernel) (Nat.le_of_ble_eq_true rfl) (fun p e R s m args below meth c Q A C K => b8_truth C hf K)

theorem cm8_322 : ∀ a ∈ wsCS RX8 322 yX8_compared cX8_compared 3 (some .boolean), a ∈ GW := by
  unfold wsCS
  exact (List.forall_mem_cons.mpr ⟨(gw_6 (i := 110) (by decide +kernel) rfl), (List.forall_mem_cons.mpr ⟨(gw_6 (i := 111) (by decide +kernel) rfl), (List.forall_mem_cons.mpr ⟨(gw_1 (i := 9) (by decide +kernel) rfl), (List.forall_mem_cons.mpr ⟨(gw_6 (i := 112) (by decide +kernel) rfl), (List.forall_mem_nil _)⟩)⟩)⟩)⟩)
theorem cm8_326 : ∀ a ∈ wsCV RX8 326 RX8 yX8_truth cX8_truth 2 (some .int), a ∈ GW := by
  unfold wsCV
  exact (List.forall_mem_cons.mpr ⟨(gw_6 (i := 113) (by decide +kernel) rfl), (List.forall_mem_cons.mpr ⟨(gw_6 (i := 115) (by decide +kernel) rfl), (List.forall_mem_cons.mpr ⟨(gw_p (q := ((yX8_truth, 63) : MethodName × Nat)) (List.mem_append_right _ (List.mem_append_right _ (List.mem_append_right _ (List.mem_append_right _ (List.mem_append_right _ (List.mem_append_left _ (List.mem_of_getElem? (i := 14) (by decide +kernel)))))))) rfl), (List.forall_mem_cons.mpr ⟨(gw_1 (i := 9) (by decide +kernel) rfl), (List.forall_mem_cons.mpr ⟨(gw_6 (i := 116) (by decide +kernel) rfl), (List.forall_mem_nil _)⟩)⟩)⟩)⟩)⟩)
theorem ok8_foldComparison : okCV RX8 yX8_foldComparison 3 := by unfold okCV; decide +kernel
def f8_foldComparison (N : Nat) (v1 : Int32) (v2 : Int32) (v3 : Int32) : MdH → Option (Int32 × MdH)
  | (mH_ht, mH_hK, mH_hA, mH_hB, mH_hC, mH_hN, mH_h1, mH_hT, mH_hR) =>
    if v2 < 0 ∨ 4200 ≤ v2.toNatClampNeg then none else if (mH_hK v2.toNatClampNeg) = 0 then if v3 < 0 ∨ 4200 ≤ v3.toNatClampNeg then none else if (mH_hK v3.toNatClampNeg) = 0 then if v2 < 0 ∨ 4200 ≤ v2.toNatClampNeg then none else if v3 < 0 ∨ 4200 ≤ v3.toNatClampNeg then none else (f8_compared v1 (mH_hA v2.toNatClampNeg) (mH_hA v3.toNatClampNeg)).bind fun r_24 => (f8_truth N r_24 (mH_ht, mH_hK, mH_hA, mH_hB, mH_hC, mH_hN, mH_h1, mH_hT, mH_hR)).bind fun (r_26, (mH_ht_27, mH_hK_28, mH_hA_29, mH_hB_30, mH_hC_31, mH_hN_32, mH_h1_33, mH_hT_34, mH_hR_35)) => some (r_26, (mH_ht_27, mH_hK_28, mH_hA_29, mH_hB_30, mH_hC_31, mH_hN_32, mH_h1_33, mH_hT_34, mH_hR_35)) else (f8_number N (4 : Int32) v1 v2 v3 (mH_ht, mH_hK, mH_hA, mH_hB, mH_hC, mH_hN, mH_h1, mH_hT, mH_hR)).bind fun (r_13, (mH_ht_14, mH_hK_15, mH_hA_16, mH_hB_17, mH_hC_18, mH_hN_19, mH_h1_20, mH_hT_21, mH_hR_22)) => some (r_13, (mH_ht_14, mH_hK_15, mH_hA_16, mH_hB_17, mH_hC_18, mH_hN_19, mH_h1_20, mH_hT_21, mH_hR_22)) else (f8_number N (4 : Int32) v1 v2 v3 (mH_ht, mH_hK, mH_hA, mH_hB, mH_hC, mH_hN, mH_h1, mH_hT, mH_hR)).bind fun (r_2, (mH_ht_3, mH_hK_4, mH_hA_5, mH_hB_6, mH_hC_7, mH_hN_8, mH_h1_9, mH_hT_10, mH_hR_11)) => some (r_2, (mH_ht_3, mH_hK_4, mH_hA_5, mH_hB_6, mH_hC_7, mH_hN_8, mH_h1_9, mH_hT_10, mH_hR_11))
set_option maxHeartbeats 4000000 in
set_option maxRecDepth 100000 in
theorem b8_foldComparison {V : EV} {p : Program} {l : Launch} {e : Env} {R : Room} {s : State} {m : MethodId} {args : Array Value} {below : List Frame} {meth : Method} {c : Code} {Q : State → Prop} {A : Nat → Prop} {kc ks : Nat} {ad : Nat → Nat} {mT : MdT} {mQ : MdQ} {mK : MdK} {mN : MdN} {mP : MdP} {mL : MdL} {mR : MdR} {mG : MdG} {v1 : Int32} {v2 : Int32} {v3 : Int32} {mH_ht : Int32} {mH_hK : Nat → Int32} {mH_hA : Nat → Int32} {mH_hB : Nat → Int32} {mH_hC : Nat → Int32} {mH_hN : Nat → Int32} {mH_h1 : Nat → Int32} {mH_hT : Nat → Int32} {mH_hR : Nat → Int32} {N : Nat} {res : Int32 × MdH} (C : CX V p l R s m args c A kc ks RX8 cX8_foldComparison 4 2 47) (hf : f8_foldComparison N v1 v2 v3 (mH_ht, mH_hK, mH_hA, mH_hB, mH_hC, mH_hN, mH_h1, mH_hT, mH_hR) = some res) (K : RI V p l e R s m args below meth c Q A kc ks 4 cX8_foldComparison .int res.1 (wM V ad mT mQ mK mN mP mL res.2 mR mG)) : WC V p l e R s m args below meth c Q A kc ks 4 (wM V ad mT mQ mK mN mP mL (mH_ht, mH_hK, mH_hA, mH_hB, mH_hC, mH_hN, mH_h1, mH_hT, mH_hR) mR mG) 0 [(0, .ref (ad 0)), (1, .int v1), (2, .int v2), (3, .int v3)] [] := by
  rw [f8_foldComparison] at hf
  refine k_aload_n C dX8_foldComparison_0 0 rfl ?_
  refine g8_76 C dX8_foldComparison_1 ?_
  refine k_iload_n C dX8_foldComparison_4 2 rfl ?_
  obtain ⟨hi, hf⟩ := gd_no hf
  refine lm23 C hi dX8_foldComparison_5 ?_
  refine k_if_ne C 39 dX8_foldComparison_6 (by decide) (fun hc => ?_) (fun hc => ?_)
  · replace hf := (if_neg hc).symm.trans hf
    refine k_aload_n C dX8_foldComparison_39 0 rfl ?_
    refine k_iconst (v := (4 : Int32)) C dX8_foldComparison_40 (by decide) ?_
    refine k_iload_n C dX8_foldComparison_41 1 rfl ?_
    refine k_iload_n C dX8_foldComparison_42 2 rfl ?_
    refine k_iload_n C dX8_foldComparison_43 3 rfl ?_
    obtain ⟨⟨r_2, ⟨mH_ht_3, mH_hK_4, mH_hA_5, mH_hB_6, mH_hC_7, mH_hN_8, mH_h1_9, mH_hT_10, mH_hR_11⟩⟩, hq_1, hf⟩ := ob_el hf
    dsimp only at hf
    refine k_callVi C (c8_number C.2.2.2.2.2.2.2.2.2.1 hq_1) cm8_293 ok8_number (by decide) 0 rfl rfl rfl rfl (Nat.le_of_ble_eq_true rfl) dX8_foldComparison_44 ?_
    cases hf
    exact K _ _ dX8_foldComparison_47 rfl
  · replace hf := (if_pos hc).symm.trans hf
    refine k_aload_n C dX8_foldComparison_9 0 rfl ?_
    refine g8_76 C dX8_foldComparison_10 ?_
    refine k_iload_n C dX8_foldComparison_13 3 rfl ?_
    obtain ⟨hi, hf⟩ := gd_no hf
    refine lm23 C hi dX8_foldComparison_14 ?_
    refine k_if_ne C 39 dX8_foldComparison_15 (by decide) (fun hc => ?_) (fun hc => ?_)
    · replace hf := (if_neg hc).symm.trans hf
      refine k_aload_n C dX8_foldComparison_39 0 rfl ?_
      refine k_iconst (v := (4 : Int32)) C dX8_foldComparison_40 (by decide) ?_
      refine k_iload_n C dX8_foldComparison_41 1 rfl ?_
      refine k_iload_n C dX8_foldComparison_42 2 rfl ?_
      refine k_iload_n C dX8_foldComparison_43 3 rfl ?_
      obtain ⟨⟨r_13, ⟨mH_ht_14, mH_hK_15, mH_hA_16, mH_hB_17, mH_hC_18, mH_hN_19, mH_h1_20, mH_hT_21, mH_hR_22⟩⟩, hq_12, hf⟩ := ob_el hf
      dsimp only at hf
      refine k_callVi C (c8_number C.2.2.2.2.2.2.2.2.2.1 hq_12) cm8_293 ok8_number (by decide) 0 rfl rfl rfl rfl (Nat.le_of_ble_eq_true rfl) dX8_foldComparison_44 ?_
      cases hf
      exact K _ _ dX8_foldComparison_47 rfl
    · replace hf := (if_pos hc).symm.trans hf
      refine k_aload_n C dX8_foldComparison_18 0 rfl ?_
      refine k_iload_n C dX8_foldComparison_19 1 rfl ?_
      refine k_aload_n C dX8_foldComparison_20 0 rfl ?_
      refine g8_79 C dX8_foldComparison_21 ?_
      refine k_iload_n C dX8_foldComparison_24 2 rfl ?_
      obtain ⟨hi, hf⟩ := gd_no hf
      refine lm24 C hi dX8_foldComparison_25 ?_
      refine k_aload_n C dX8_foldComparison_26 0 rfl ?_
      refine g8_79 C dX8_foldComparison_27 ?_
      refine k_iload_n C dX8_foldComparison_30 3 rfl ?_
      obtain ⟨hi, hf⟩ := gd_no hf
      refine lm24 C hi dX8_foldComparison_31 ?_
      obtain ⟨r_24, hq_23, hf⟩ := ob_el hf
      refine k_callSi C (c8_compared C.2.2.2.2.2.2.2.2.2.1 hq_23) cm8_322 ok8_compared (by decide) rfl rfl (Nat.le_of_ble_eq_true rfl) dX8_foldComparison_32 ?_
      obtain ⟨⟨r_26, ⟨mH_ht_27, mH_hK_28, mH_hA_29, mH_hB_30, mH_hC_31, mH_hN_32, mH_h1_33, mH_hT_34, mH_hR_35⟩⟩, hq_25, hf⟩ := ob_el hf
      dsimp only at hf
      refine k_callVi C (c8_truth C.2.2.2.2.2.2.2.2.2.1 hq_25) cm8_326 ok8_truth (by decide) 0 rfl rfl rfl rfl (Nat.le_of_ble_eq_true rfl) dX8_foldComparison_35 ?_
      cases hf
      exact K _ _ dX8_foldComparison_38 rfl
theorem c8_foldComparison {V : EV} {l : Launch} (hl0 : l.stackTraces = false) {ad : Nat → Nat} {mT : MdT} {mQ : MdQ} {mK : MdK} {mN : MdN} {mP : MdP} {mL : MdL} {mR : MdR} {mG : MdG} {v1 : Int32} {v2 : Int32} {v3 : Int32} {mH_ht : Int32} {mH_hK : Nat → Int32} {mH_hA : Nat → Int32} {mH_hB : Nat → Int32} {mH_hC : Nat → Int32} {mH_hN : Nat → Int32} {mH_h1 : Nat → Int32} {mH_hT : Nat → Int32} {mH_hR : Nat → Int32} {N : Nat} {res : Int32 × MdH} (hf : f8_foldComparison N v1 v2 v3 (mH_ht, mH_hK, mH_hA, mH_hB, mH_hC, mH_hN, mH_h1, mH_hT, mH_hR) = some res) : MI V l yX8_foldComparison cX8_foldComparison 4 .int 2 47 [.ref (ad 0), .int v1, .int v2, .int v3] (wM V ad mT mQ mK mN mP mL (mH_ht, mH_hK, mH_hA, mH_hB, mH_hC, mH_hN, mH_h1, mH_hT, mH_hR) mR mG) res.1 (wM V ad mT mQ mK mN mP mL res.2 mR mG) :=
  mi_of hl0 (by decide +kernel) (Nat.le_of_ble_eq_true rfl) (fun p e R s m args below meth c Q A C K => b8_foldComparison C hf K)

theorem ok8_isTruth : okCV RX8 yX8_isTruth 2 := by unfold okCV; decide +kernel
def f8_isTruth (v1 : Int32) (v2 : Int32) : MdH → Option (Int32)
  | (mH_ht, mH_hK, mH_hA, mH_hB, mH_hC, mH_hN, mH_h1, mH_hT, mH_hR) =>
    if v1 < 0 ∨ 4200 ≤ v1.toNatClampNeg then none else if (mH_hK v1.toNatClampNeg) = (12 : Int32) then if v1 < 0 ∨ 4200 ≤ v1.toNatClampNeg then none else if (mH_hA v1.toNatClampNeg) = v2 then some (1 : Int32) else some (0 : Int32) else some (0 : Int32)
set_option maxHeartbeats 4000000 in
set_option maxRecDepth 100000 in
theorem b8_isTruth {V : EV} {p : Program} {l : Launch} {e : Env} {R : Room} {s : State} {m : MethodId} {args : Array Value} {below : List Frame} {meth : Method} {c : Code} {Q : State → Prop} {A : Nat → Prop} {kc ks : Nat} {ad : Nat → Nat} {mT : MdT} {mQ : MdQ} {mK : MdK} {mN : MdN} {mP : MdP} {mL : MdL} {mR : MdR} {mG : MdG} {mH_ht : Int32} {mH_hK : Nat → Int32} {mH_hA : Nat → Int32} {mH_hB : Nat → Int32} {mH_hC : Nat → Int32} {mH_hN : Nat → Int32} {mH_h1 : Nat → Int32} {mH_hT : Nat → Int32} {mH_hR : Nat → Int32} {v1 : Int32} {v2 : Int32} {res : Int32} (C : CX V p l R s m args c A kc ks RX8 cX8_isTruth 3 0 0) (hf : f8_isTruth v1 v2 (mH_ht, mH_hK, mH_hA, mH_hB, mH_hC, mH_hN, mH_h1, mH_hT, mH_hR) = some res) (K : RI V p l e R s m args below meth c Q A kc ks 3 cX8_isTruth .boolean res (wM V ad mT mQ mK mN mP mL (mH_ht, mH_hK, mH_hA, mH_hB, mH_hC, mH_hN, mH_h1, mH_hT, mH_hR) mR mG)) : WC V p l e R s m args below meth c Q A kc ks 3 (wM V ad mT mQ mK mN mP mL (mH_ht, mH_hK, mH_hA, mH_hB, mH_hC, mH_hN, mH_h1, mH_hT, mH_hR) mR mG) 0 [(0, .ref (ad 0)), (1, .int v1), (2, .int v2)] [] := by
  rw [f8_isTruth] at hf
  refine k_aload_n C dX8_isTruth_0 0 rfl ?_
  refine g8_76 C dX8_isTruth_1 ?_
  refine k_iload_n C dX8_isTruth_4 1 rfl ?_
  obtain ⟨hi, hf⟩ := gd_no hf
  refine lm23 C hi dX8_isTruth_5 ?_
  refine k_bipush (v := (12 : Int32)) C dX8_isTruth_6 (by decide) ?_
  refine k_icmp_ne C 25 dX8_isTruth_8 (by decide) (fun hc => ?_) (fun hc => ?_)
  · replace hf := (if_neg hc).symm.trans hf
    refine k_iconst (v := (0 : Int32)) C dX8_isTruth_25 (by decide) ?_
    cases hf
    exact K _ _ dX8_isTruth_26 (nar_b (Or.inl rfl))
  · replace hf := (if_pos hc).symm.trans hf
    refine k_aload_n C dX8_isTruth_11 0 rfl ?_
    refine g8_79 C dX8_isTruth_12 ?_
    refine k_iload_n C dX8_isTruth_15 1 rfl ?_
    obtain ⟨hi, hf⟩ := gd_no hf
    refine lm24 C hi dX8_isTruth_16 ?_
    refine k_iload_n C dX8_isTruth_17 2 rfl ?_
    refine k_icmp_ne C 25 dX8_isTruth_18 (by decide) (fun hc => ?_) (fun hc => ?_)
    · replace hf := (if_neg hc).symm.trans hf
      refine k_iconst (v := (0 : Int32)) C dX8_isTruth_25 (by decide) ?_
      cases hf
      exact K _ _ dX8_isTruth_26 (nar_b (Or.inl rfl))
    · replace hf := (if_pos hc).symm.trans hf
      refine k_iconst (v := (1 : Int32)) C dX8_isTruth_21 (by decide) ?_
      refine k_goto C 26 dX8_isTruth_22 (by decide) ?_
      cases hf
      exact K _ _ dX8_isTruth_26 (nar_b (Or.inr rfl))
theorem c8_isTruth {V : EV} {l : Launch} (hl0 : l.stackTraces = false) {ad : Nat → Nat} {mT : MdT} {mQ : MdQ} {mK : MdK} {mN : MdN} {mP : MdP} {mL : MdL} {mR : MdR} {mG : MdG} {mH_ht : Int32} {mH_hK : Nat → Int32} {mH_hA : Nat → Int32} {mH_hB : Nat → Int32} {mH_hC : Nat → Int32} {mH_hN : Nat → Int32} {mH_h1 : Nat → Int32} {mH_hT : Nat → Int32} {mH_hR : Nat → Int32} {v1 : Int32} {v2 : Int32} {res : Int32} (hf : f8_isTruth v1 v2 (mH_ht, mH_hK, mH_hA, mH_hB, mH_hC, mH_hN, mH_h1, mH_hT, mH_hR) = some res) : MI V l yX8_isTruth cX8_isTruth 3 .boolean 0 0 [.ref (ad 0), .int v1, .int v2] (wM V ad mT mQ mK mN mP mL (mH_ht, mH_hK, mH_hA, mH_hB, mH_hC, mH_hN, mH_h1, mH_hT, mH_hR) mR mG) res (wM V ad mT mQ mK mN mP mL (mH_ht, mH_hK, mH_hA, mH_hB, mH_hC, mH_hN, mH_h1, mH_hT, mH_hR) mR mG) :=
  mi_of hl0 (by decide +kernel) (Nat.le_of_ble_eq_true rfl) (fun p e R s m args below meth c Q A C K => b8_isTruth C hf K)

theorem cm8_329 : ∀ a ∈ wsCV RX8 329 RX8 yX8_isTruth cX8_isTruth 3 (some .boolean), a ∈ GW := by
  unfold wsCV
  exact (List.forall_mem_cons.mpr ⟨(gw_6 (i := 121) (by decide +kernel) rfl), (List.forall_mem_cons.mpr ⟨(gw_6 (i := 123) (by decide +kernel) rfl), (List.forall_mem_cons.mpr ⟨(gw_p (q := ((yX8_isTruth, 63) : MethodName × Nat)) (List.mem_append_right _ (List.mem_append_right _ (List.mem_append_right _ (List.mem_append_right _ (List.mem_append_right _ (List.mem_append_right _ (List.mem_of_getElem? (i := 0) (by decide +kernel)))))))) rfl), (List.forall_mem_cons.mpr ⟨(gw_1 (i := 9) (by decide +kernel) rfl), (List.forall_mem_cons.mpr ⟨(gw_6 (i := 124) (by decide +kernel) rfl), (List.forall_mem_nil _)⟩)⟩)⟩)⟩)⟩)
theorem ok8_foldBoth : okCV RX8 yX8_foldBoth 3 := by unfold okCV; decide +kernel
def f8_foldBoth_L11  (N : Nat)  : Int32 → Int32 → Int32 → Int32 → MdH → Option (Int32 × MdH)
  | x1, x2, x3, y0, (mH_ht, mH_hK, mH_hA, mH_hB, mH_hC, mH_hN, mH_h1, mH_hT, mH_hR) =>
    (f8_isTruth x2 y0 (mH_ht, mH_hK, mH_hA, mH_hB, mH_hC, mH_hN, mH_h1, mH_hT, mH_hR)).bind fun r_2 => if r_2 = 0 then (f8_isTruth x2 ((1 : Int32) - y0) (mH_ht, mH_hK, mH_hA, mH_hB, mH_hC, mH_hN, mH_h1, mH_hT, mH_hR)).bind fun r_4 => if r_4 = 0 then (f8_isTruth x3 y0 (mH_ht, mH_hK, mH_hA, mH_hB, mH_hC, mH_hN, mH_h1, mH_hT, mH_hR)).bind fun r_6 => if r_6 = 0 then (f8_number N (5 : Int32) x1 x2 x3 (mH_ht, mH_hK, mH_hA, mH_hB, mH_hC, mH_hN, mH_h1, mH_hT, mH_hR)).bind fun (r_8, (mH_ht_9, mH_hK_10, mH_hA_11, mH_hB_12, mH_hC_13, mH_hN_14, mH_h1_15, mH_hT_16, mH_hR_17)) => some (r_8, (mH_ht_9, mH_hK_10, mH_hA_11, mH_hB_12, mH_hC_13, mH_hN_14, mH_h1_15, mH_hT_16, mH_hR_17)) else some (x2, (mH_ht, mH_hK, mH_hA, mH_hB, mH_hC, mH_hN, mH_h1, mH_hT, mH_hR)) else some (x2, (mH_ht, mH_hK, mH_hA, mH_hB, mH_hC, mH_hN, mH_h1, mH_hT, mH_hR)) else some (x3, (mH_ht, mH_hK, mH_hA, mH_hB, mH_hC, mH_hN, mH_h1, mH_hT, mH_hR))
def f8_foldBoth (N : Nat) (v1 : Int32) (v2 : Int32) (v3 : Int32) : MdH → Option (Int32 × MdH)
  | (mH_ht, mH_hK, mH_hA, mH_hB, mH_hC, mH_hN, mH_h1, mH_hT, mH_hR) =>
    if v1 = (38 : Int32) then f8_foldBoth_L11 N v1 v2 v3 (1 : Int32) (mH_ht, mH_hK, mH_hA, mH_hB, mH_hC, mH_hN, mH_h1, mH_hT, mH_hR) else f8_foldBoth_L11 N v1 v2 v3 (0 : Int32) (mH_ht, mH_hK, mH_hA, mH_hB, mH_hC, mH_hN, mH_h1, mH_hT, mH_hR)
set_option maxHeartbeats 4000000 in
set_option maxRecDepth 100000 in
theorem w8_foldBoth_L11 {V : EV} {p : Program} {l : Launch} {e : Env} {R : Room} {s : State} {m : MethodId} {args : Array Value} {below : List Frame} {meth : Method} {c : Code} {Q : State → Prop} {A : Nat → Prop} {kc ks : Nat} {ad : Nat → Nat} {mT : MdT} {mQ : MdQ} {mK : MdK} {mN : MdN} {mP : MdP} {mL : MdL} {mR : MdR} {mG : MdG}  {N : Nat} {res : Int32 × MdH} (C : CX V p l R s m args c A kc ks RX8 cX8_foldBoth 5 1 26) (K : RI V p l e R s m args below meth c Q A kc ks 5 cX8_foldBoth .int res.1 (wM V ad mT mQ mK mN mP mL res.2 mR mG))  : ∀ (x1 : Int32) (x2 : Int32) (x3 : Int32) (y0 : Int32) (mH_ht : Int32) (mH_hK : Nat → Int32) (mH_hA : Nat → Int32) (mH_hB : Nat → Int32) (mH_hC : Nat → Int32) (mH_hN : Nat → Int32) (mH_h1 : Nat → Int32) (mH_hT : Nat → Int32) (mH_hR : Nat → Int32), f8_foldBoth_L11 N x1 x2 x3 y0 (mH_ht, mH_hK, mH_hA, mH_hB, mH_hC, mH_hN, mH_h1, mH_hT, mH_hR) = some res → WC V p l e R s m args below meth c Q A kc ks 5 (wM V ad mT mQ mK mN mP mL (mH_ht, mH_hK, mH_hA, mH_hB, mH_hC, mH_hN, mH_h1, mH_hT, mH_hR) mR mG) 11 [(0, .ref (ad 0)), (1, .int x1), (2, .int x2), (3, .int x3)] [.int y0] := by
  intro x1 x2 x3 y0 mH_ht mH_hK mH_hA mH_hB mH_hC mH_hN mH_h1 mH_hT mH_hR hf
  rw [f8_foldBoth_L11] at hf
  refine k_istore C dX8_foldBoth_11 [(4, .int y0), (0, .ref (ad 0)), (1, .int x1), (2, .int x2), (3, .int x3)] (by decide) rfl ?_
  refine k_aload_n C dX8_foldBoth_13 1 rfl ?_
  refine k_iload_n C dX8_foldBoth_14 3 rfl ?_
  refine k_iload C dX8_foldBoth_15 0 rfl ?_
  obtain ⟨r_2, hq_1, hf⟩ := ob_el hf
  refine k_callVi C (c8_isTruth C.2.2.2.2.2.2.2.2.2.1 hq_1) cm8_329 ok8_isTruth (by decide) 0 rfl rfl rfl rfl (Nat.le_of_ble_eq_true rfl) dX8_foldBoth_17 ?_
  refine k_if_eq C 25 dX8_foldBoth_20 (by decide) (fun hc => ?_) (fun hc => ?_)
  · replace hf := (if_pos hc).symm.trans hf
    refine k_aload_n C dX8_foldBoth_25 1 rfl ?_
    refine k_iload_n C dX8_foldBoth_26 3 rfl ?_
    refine k_iconst (v := (1 : Int32)) C dX8_foldBoth_27 (by decide) ?_
    refine k_iload C dX8_foldBoth_28 0 rfl ?_
    refine k_isub C dX8_foldBoth_30 ?_
    obtain ⟨r_4, hq_3, hf⟩ := ob_el hf
    refine k_callVi C (c8_isTruth C.2.2.2.2.2.2.2.2.2.1 hq_3) cm8_329 ok8_isTruth (by decide) 0 rfl rfl rfl rfl (Nat.le_of_ble_eq_true rfl) dX8_foldBoth_31 ?_
    refine k_if_ne C 47 dX8_foldBoth_34 (by decide) (fun hc => ?_) (fun hc => ?_)
    · replace hf := (if_neg hc).symm.trans hf
      refine k_iload_n C dX8_foldBoth_47 3 rfl ?_
      cases hf
      exact K _ _ dX8_foldBoth_48 rfl
    · replace hf := (if_pos hc).symm.trans hf
      refine k_aload_n C dX8_foldBoth_37 1 rfl ?_
      refine k_iload_n C dX8_foldBoth_38 4 rfl ?_
      refine k_iload C dX8_foldBoth_39 0 rfl ?_
      obtain ⟨r_6, hq_5, hf⟩ := ob_el hf
      refine k_callVi C (c8_isTruth C.2.2.2.2.2.2.2.2.2.1 hq_5) cm8_329 ok8_isTruth (by decide) 0 rfl rfl rfl rfl (Nat.le_of_ble_eq_true rfl) dX8_foldBoth_41 ?_
      refine k_if_eq C 49 dX8_foldBoth_44 (by decide) (fun hc => ?_) (fun hc => ?_)
      · replace hf := (if_pos hc).symm.trans hf
        refine k_aload_n C dX8_foldBoth_49 1 rfl ?_
        refine k_iconst (v := (5 : Int32)) C dX8_foldBoth_50 (by decide) ?_
        refine k_iload_n C dX8_foldBoth_51 2 rfl ?_
        refine k_iload_n C dX8_foldBoth_52 3 rfl ?_
        refine k_iload_n C dX8_foldBoth_53 4 rfl ?_
        obtain ⟨⟨r_8, ⟨mH_ht_9, mH_hK_10, mH_hA_11, mH_hB_12, mH_hC_13, mH_hN_14, mH_h1_15, mH_hT_16, mH_hR_17⟩⟩, hq_7, hf⟩ := ob_el hf
        dsimp only at hf
        refine k_callVi C (c8_number C.2.2.2.2.2.2.2.2.2.1 hq_7) cm8_293 ok8_number (by decide) 0 rfl rfl rfl rfl (Nat.le_of_ble_eq_true rfl) dX8_foldBoth_54 ?_
        cases hf
        exact K _ _ dX8_foldBoth_57 rfl
      · replace hf := (if_neg hc).symm.trans hf
        refine k_iload_n C dX8_foldBoth_47 3 rfl ?_
        cases hf
        exact K _ _ dX8_foldBoth_48 rfl
  · replace hf := (if_neg hc).symm.trans hf
    refine k_iload_n C dX8_foldBoth_23 4 rfl ?_
    cases hf
    exact K _ _ dX8_foldBoth_24 rfl
set_option maxHeartbeats 4000000 in
set_option maxRecDepth 100000 in
theorem b8_foldBoth {V : EV} {p : Program} {l : Launch} {e : Env} {R : Room} {s : State} {m : MethodId} {args : Array Value} {below : List Frame} {meth : Method} {c : Code} {Q : State → Prop} {A : Nat → Prop} {kc ks : Nat} {ad : Nat → Nat} {mT : MdT} {mQ : MdQ} {mK : MdK} {mN : MdN} {mP : MdP} {mL : MdL} {mR : MdR} {mG : MdG} {v1 : Int32} {v2 : Int32} {v3 : Int32} {mH_ht : Int32} {mH_hK : Nat → Int32} {mH_hA : Nat → Int32} {mH_hB : Nat → Int32} {mH_hC : Nat → Int32} {mH_hN : Nat → Int32} {mH_h1 : Nat → Int32} {mH_hT : Nat → Int32} {mH_hR : Nat → Int32} {N : Nat} {res : Int32 × MdH} (C : CX V p l R s m args c A kc ks RX8 cX8_foldBoth 5 1 26) (hf : f8_foldBoth N v1 v2 v3 (mH_ht, mH_hK, mH_hA, mH_hB, mH_hC, mH_hN, mH_h1, mH_hT, mH_hR) = some res) (K : RI V p l e R s m args below meth c Q A kc ks 5 cX8_foldBoth .int res.1 (wM V ad mT mQ mK mN mP mL res.2 mR mG)) : WC V p l e R s m args below meth c Q A kc ks 5 (wM V ad mT mQ mK mN mP mL (mH_ht, mH_hK, mH_hA, mH_hB, mH_hC, mH_hN, mH_h1, mH_hT, mH_hR) mR mG) 0 [(0, .ref (ad 0)), (1, .int v1), (2, .int v2), (3, .int v3)] [] := by
  rw [f8_foldBoth] at hf
  refine k_iload_n C dX8_foldBoth_0 1 rfl ?_
  refine k_bipush (v := (38 : Int32)) C dX8_foldBoth_1 (by decide) ?_
  refine k_icmp_ne C 10 dX8_foldBoth_3 (by decide) (fun hc => ?_) (fun hc => ?_)
  · replace hf := (if_neg hc).symm.trans hf
    refine k_iconst (v := (0 : Int32)) C dX8_foldBoth_10 (by decide) ?_
    exact w8_foldBoth_L11 C K _ _ _ _ _ _ _ _ _ _ _ _ _ hf
  · replace hf := (if_pos hc).symm.trans hf
    refine k_iconst (v := (1 : Int32)) C dX8_foldBoth_6 (by decide) ?_
    refine k_goto C 11 dX8_foldBoth_7 (by decide) ?_
    exact w8_foldBoth_L11 C K _ _ _ _ _ _ _ _ _ _ _ _ _ hf
theorem c8_foldBoth {V : EV} {l : Launch} (hl0 : l.stackTraces = false) {ad : Nat → Nat} {mT : MdT} {mQ : MdQ} {mK : MdK} {mN : MdN} {mP : MdP} {mL : MdL} {mR : MdR} {mG : MdG} {v1 : Int32} {v2 : Int32} {v3 : Int32} {mH_ht : Int32} {mH_hK : Nat → Int32} {mH_hA : Nat → Int32} {mH_hB : Nat → Int32} {mH_hC : Nat → Int32} {mH_hN : Nat → Int32} {mH_h1 : Nat → Int32} {mH_hT : Nat → Int32} {mH_hR : Nat → Int32} {N : Nat} {res : Int32 × MdH} (hf : f8_foldBoth N v1 v2 v3 (mH_ht, mH_hK, mH_hA, mH_hB, mH_hC, mH_hN, mH_h1, mH_hT, mH_hR) = some res) : MI V l yX8_foldBoth cX8_foldBoth 5 .int 1 26 [.ref (ad 0), .int v1, .int v2, .int v3] (wM V ad mT mQ mK mN mP mL (mH_ht, mH_hK, mH_hA, mH_hB, mH_hC, mH_hN, mH_h1, mH_hT, mH_hR) mR mG) res.1 (wM V ad mT mQ mK mN mP mL res.2 mR mG) :=
  mi_of hl0 (by decide +kernel) (Nat.le_of_ble_eq_true rfl) (fun p e R s m args below meth c Q A C K => b8_foldBoth C hf K)

theorem ok8_join : okCV RX8 yX8_join 2 := by unfold okCV; decide +kernel
def f8_join_L5 (k39 : Int32 → Int32 → MdH → Option (Int32 × MdH)) (N : Nat)  : Nat → Int32 → Int32 → Int32 → MdH → Option (Int32 × MdH)
  | 0, _, _, _, _ => none
  | n + 1, x2, x3, x4, (mH_ht, mH_hK, mH_hA, mH_hB, mH_hC, mH_hN, mH_h1, mH_hT, mH_hR) =>
    if x4 = (-1 : Int32) then k39 x2 x3 (mH_ht, mH_hK, mH_hA, mH_hB, mH_hC, mH_hN, mH_h1, mH_hT, mH_hR) else if x4 < 0 ∨ 4200 ≤ x4.toNatClampNeg then none else if x3 < 0 ∨ 64 ≤ x3.toNatClampNeg then none else nm_v (x3 + (1 : Int32)) (fun v3_1 => if x4 < 0 ∨ 4200 ≤ x4.toNatClampNeg then none else nm_v (mH_hB x4.toNatClampNeg) (fun v4_2 => f8_join_L5 k39 N n x2 v3_1 v4_2 (mH_ht, mH_hK, mH_hA, mH_hB, mH_hC, mH_hN, mH_h1, mH_hT, (upd mH_hR x3.toNatClampNeg (mH_hA x4.toNatClampNeg)))))

def f8_join_L47 (k97 : Int32 → MdH → Option (Int32 × MdH)) (N : Nat)  : Nat → Int32 → Int32 → MdH → Option (Int32 × MdH)
  | 0, _, _, _ => none
  | n + 1, x4, x5, (mH_ht, mH_hK, mH_hA, mH_hB, mH_hC, mH_hN, mH_h1, mH_hT, mH_hR) =>
    if x5 < 0 then k97 x4 (mH_ht, mH_hK, mH_hA, mH_hB, mH_hC, mH_hN, mH_h1, mH_hT, mH_hR) else if x5 < 0 ∨ 64 ≤ x5.toNatClampNeg then none else if x5 < 0 ∨ 64 ≤ x5.toNatClampNeg then none else if (mH_hR x5.toNatClampNeg) < 0 ∨ 4200 ≤ (mH_hR x5.toNatClampNeg).toNatClampNeg then none else if (mH_hK (mH_hR x5.toNatClampNeg).toNatClampNeg) = (10 : Int32) then (f8_number N (11 : Int32) (mH_hR x5.toNatClampNeg) (-1 : Int32) (0 : Int32) (mH_ht, mH_hK, mH_hA, mH_hB, mH_hC, mH_hN, mH_h1, mH_hT, mH_hR)).bind fun (r_18, (mH_ht_19, mH_hK_20, mH_hA_21, mH_hB_22, mH_hC_23, mH_hN_24, mH_h1_25, mH_hT_26, mH_hR_27)) => nm_v (x5 + (-1 : Int32)) (fun v5_28 => f8_join_L47 k97 N n r_18 v5_28 (mH_ht_19, mH_hK_20, mH_hA_21, mH_hB_22, mH_hC_23, mH_hN_24, mH_h1_25, mH_hT_26, mH_hR_27)) else (f8_number N (11 : Int32) (mH_hR x5.toNatClampNeg) x4 (0 : Int32) (mH_ht, mH_hK, mH_hA, mH_hB, mH_hC, mH_hN, mH_h1, mH_hT, mH_hR)).bind fun (r_6, (mH_ht_7, mH_hK_8, mH_hA_9, mH_hB_10, mH_hC_11, mH_hN_12, mH_h1_13, mH_hT_14, mH_hR_15)) => nm_v (x5 + (-1 : Int32)) (fun v5_16 => f8_join_L47 k97 N n r_6 v5_16 (mH_ht_7, mH_hK_8, mH_hA_9, mH_hB_10, mH_hC_11, mH_hN_12, mH_h1_13, mH_hT_14, mH_hR_15))
def f8_join (N : Nat) (v1 : Int32) (v2 : Int32) : MdH → Option (Int32 × MdH)
  | (mH_ht, mH_hK, mH_hA, mH_hB, mH_hC, mH_hN, mH_h1, mH_hT, mH_hR) =>
    f8_join_L5 (fun x2_3 x3_3 (mH_ht_3, mH_hK_3, mH_hA_3, mH_hB_3, mH_hC_3, mH_hN_3, mH_h1_3, mH_hT_3, mH_hR_3) => nm_v (x3_3 - (1 : Int32)) (fun v5_4 => f8_join_L47 (fun x4_29 (mH_ht_29, mH_hK_29, mH_hA_29, mH_hB_29, mH_hC_29, mH_hN_29, mH_h1_29, mH_hT_29, mH_hR_29) => some (x4_29, (mH_ht_29, mH_hK_29, mH_hA_29, mH_hB_29, mH_hC_29, mH_hN_29, mH_h1_29, mH_hT_29, mH_hR_29))) N N x2_3 v5_4 (mH_ht_3, mH_hK_3, mH_hA_3, mH_hB_3, mH_hC_3, mH_hN_3, mH_h1_3, mH_hT_3, mH_hR_3))) N N v2 (0 : Int32) v1 (mH_ht, mH_hK, mH_hA, mH_hB, mH_hC, mH_hN, mH_h1, mH_hT, mH_hR)
set_option maxHeartbeats 4000000 in
set_option maxRecDepth 100000 in
theorem w8_join_L5 {V : EV} {p : Program} {l : Launch} {e : Env} {R : Room} {s : State} {m : MethodId} {args : Array Value} {below : List Frame} {meth : Method} {c : Code} {Q : State → Prop} {A : Nat → Prop} {kc ks : Nat} {ad : Nat → Nat} {mT : MdT} {mQ : MdQ} {mK : MdK} {mN : MdN} {mP : MdP} {mL : MdL} {mR : MdR} {mG : MdG} {k39 : Int32 → Int32 → MdH → Option (Int32 × MdH)} {N : Nat} {res : Int32 × MdH} (C : CX V p l R s m args c A kc ks RX8 cX8_join 6 1 26) (K : RI V p l e R s m args below meth c Q A kc ks 6 cX8_join .int res.1 (wM V ad mT mQ mK mN mP mL res.2 mR mG)) (hk39 : ∀ (x2 : Int32) (x3 : Int32) (mH_ht : Int32) (mH_hK : Nat → Int32) (mH_hA : Nat → Int32) (mH_hB : Nat → Int32) (mH_hC : Nat → Int32) (mH_hN : Nat → Int32) (mH_h1 : Nat → Int32) (mH_hT : Nat → Int32) (mH_hR : Nat → Int32), k39 x2 x3 (mH_ht, mH_hK, mH_hA, mH_hB, mH_hC, mH_hN, mH_h1, mH_hT, mH_hR) = some res → WC V p l e R s m args below meth c Q A kc ks 6 (wM V ad mT mQ mK mN mP mL (mH_ht, mH_hK, mH_hA, mH_hB, mH_hC, mH_hN, mH_h1, mH_hT, mH_hR) mR mG) 39 [(0, .ref (ad 0)), (2, .int x2), (3, .int x3)] []) : ∀ (n : Nat) (x2 : Int32) (x3 : Int32) (x4 : Int32) (mH_ht : Int32) (mH_hK : Nat → Int32) (mH_hA : Nat → Int32) (mH_hB : Nat → Int32) (mH_hC : Nat → Int32) (mH_hN : Nat → Int32) (mH_h1 : Nat → Int32) (mH_hT : Nat → Int32) (mH_hR : Nat → Int32), f8_join_L5 k39 N n x2 x3 x4 (mH_ht, mH_hK, mH_hA, mH_hB, mH_hC, mH_hN, mH_h1, mH_hT, mH_hR) = some res → WC V p l e R s m args below meth c Q A kc ks 6 (wM V ad mT mQ mK mN mP mL (mH_ht, mH_hK, mH_hA, mH_hB, mH_hC, mH_hN, mH_h1, mH_hT, mH_hR) mR mG) 5 [(0, .ref (ad 0)), (2, .int x2), (3, .int x3), (4, .int x4)] [] := by
  intro n
  induction n with
  | zero => intro _ _ _ _ _ _ _ _ _ _ _ _ hf; exact nomatch (show none = some res from hf)
  | succ n ih =>
    intro x2 x3 x4 mH_ht mH_hK mH_hA mH_hB mH_hC mH_hN mH_h1 mH_hT mH_hR hf
    rw [f8_join_L5] at hf
    refine k_iload C dX8_join_5 3 rfl ?_
    refine k_iconst (v := (-1 : Int32)) C dX8_join_7 (by decide) ?_
    refine k_icmp_eq C 39 dX8_join_8 (by decide) (fun hc => ?_) (fun hc => ?_)
    · replace hf := (if_pos hc).symm.trans hf
      refine k_sub [0, 1, 2] (L' := [(0, .ref (ad 0)), (2, .int x2), (3, .int x3)]) rfl ?_
      exact hk39 _ _ _ _ _ _ _ _ _ _ _ hf
    · replace hf := (if_neg hc).symm.trans hf
      refine k_aload_n C dX8_join_11 0 rfl ?_
      refine g8_97 C dX8_join_12 ?_
      refine k_iload_n C dX8_join_15 2 rfl ?_
      refine k_aload_n C dX8_join_16 0 rfl ?_
      refine g8_79 C dX8_join_17 ?_
      refine k_iload C dX8_join_20 3 rfl ?_
      obtain ⟨hi, hf⟩ := gd_no hf
      refine lm24 C hi dX8_join_22 ?_
      obtain ⟨hi, hf⟩ := gd_no hf
      refine sm30 C hi dX8_join_23 ?_
      obtain ⟨v3_1, ev3_1⟩ : ∃ y : Int32, y = x3 + (1 : Int32) := ⟨_, rfl⟩
      replace hf := nm_el hf ev3_1
      refine k_iinc (v := v3_1) C dX8_join_24 2 rfl (by rw [ev3_1]; rfl) [(3, .int v3_1), (0, .ref (ad 0)), (2, .int x2), (4, .int x4)] (by decide) rfl ?_
      refine k_aload_n C dX8_join_27 1 rfl ?_
      refine g8_82 C dX8_join_28 ?_
      refine k_iload C dX8_join_31 3 rfl ?_
      obtain ⟨hi, hf⟩ := gd_no hf
      refine lm25 C hi dX8_join_33 ?_
      refine k_topi (fun v4_2 ev4_2 => ?_)
      replace hf := nm_el hf ev4_2
      refine k_istore C dX8_join_34 [(4, .int v4_2), (3, .int v3_1), (0, .ref (ad 0)), (2, .int x2)] (by decide) rfl ?_
      refine k_goto C 5 dX8_join_36 (by decide) ?_
      refine k_sub [2, 3, 1, 0] (L' := [(0, .ref (ad 0)), (2, .int x2), (3, .int v3_1), (4, .int v4_2)]) rfl ?_
      exact ih _ _ _ _ _ _ _ _ _ _ _ _ hf

set_option maxHeartbeats 4000000 in
set_option maxRecDepth 100000 in
theorem w8_join_L47 {V : EV} {p : Program} {l : Launch} {e : Env} {R : Room} {s : State} {m : MethodId} {args : Array Value} {below : List Frame} {meth : Method} {c : Code} {Q : State → Prop} {A : Nat → Prop} {kc ks : Nat} {ad : Nat → Nat} {mT : MdT} {mQ : MdQ} {mK : MdK} {mN : MdN} {mP : MdP} {mL : MdL} {mR : MdR} {mG : MdG} {k97 : Int32 → MdH → Option (Int32 × MdH)} {N : Nat} {res : Int32 × MdH} (C : CX V p l R s m args c A kc ks RX8 cX8_join 6 1 26) (K : RI V p l e R s m args below meth c Q A kc ks 6 cX8_join .int res.1 (wM V ad mT mQ mK mN mP mL res.2 mR mG)) (hk97 : ∀ (x4 : Int32) (mH_ht : Int32) (mH_hK : Nat → Int32) (mH_hA : Nat → Int32) (mH_hB : Nat → Int32) (mH_hC : Nat → Int32) (mH_hN : Nat → Int32) (mH_h1 : Nat → Int32) (mH_hT : Nat → Int32) (mH_hR : Nat → Int32), k97 x4 (mH_ht, mH_hK, mH_hA, mH_hB, mH_hC, mH_hN, mH_h1, mH_hT, mH_hR) = some res → WC V p l e R s m args below meth c Q A kc ks 6 (wM V ad mT mQ mK mN mP mL (mH_ht, mH_hK, mH_hA, mH_hB, mH_hC, mH_hN, mH_h1, mH_hT, mH_hR) mR mG) 97 [(4, .int x4)] []) : ∀ (n : Nat) (x4 : Int32) (x5 : Int32) (mH_ht : Int32) (mH_hK : Nat → Int32) (mH_hA : Nat → Int32) (mH_hB : Nat → Int32) (mH_hC : Nat → Int32) (mH_hN : Nat → Int32) (mH_h1 : Nat → Int32) (mH_hT : Nat → Int32) (mH_hR : Nat → Int32), f8_join_L47 k97 N n x4 x5 (mH_ht, mH_hK, mH_hA, mH_hB, mH_hC, mH_hN, mH_h1, mH_hT, mH_hR) = some res → WC V p l e R s m args below meth c Q A kc ks 6 (wM V ad mT mQ mK mN mP mL (mH_ht, mH_hK, mH_hA, mH_hB, mH_hC, mH_hN, mH_h1, mH_hT, mH_hR) mR mG) 47 [(0, .ref (ad 0)), (4, .int x4), (5, .int x5)] [] := by
  intro n
  induction n with
  | zero => intro _ _ _ _ _ _ _ _ _ _ _ hf; exact nomatch (show none = some res from hf)
  | succ n ih =>
    intro x4 x5 mH_ht mH_hK mH_hA mH_hB mH_hC mH_hN mH_h1 mH_hT mH_hR hf
    rw [f8_join_L47] at hf
    refine k_iload C dX8_join_47 2 rfl ?_
    refine k_if_lt C 97 dX8_join_49 (by decide) (fun hc => ?_) (fun hc => ?_)
    · replace hf := (if_pos hc).symm.trans hf
      refine k_sub [1] (L' := [(4, .int x4)]) rfl ?_
      exact hk97 _ _ _ _ _ _ _ _ _ _ hf
    · replace hf := (if_neg hc).symm.trans hf
      refine k_aload_n C dX8_join_52 0 rfl ?_
      refine k_bipush (v := (11 : Int32)) C dX8_join_53 (by decide) ?_
      refine k_aload_n C dX8_join_55 0 rfl ?_
      refine g8_97 C dX8_join_56 ?_
      refine k_iload C dX8_join_59 2 rfl ?_
      obtain ⟨hi, hf⟩ := gd_no hf
      refine lm30 C hi dX8_join_61 ?_
      refine k_aload_n C dX8_join_62 0 rfl ?_
      refine g8_76 C dX8_join_63 ?_
      refine k_aload_n C dX8_join_66 0 rfl ?_
      refine g8_97 C dX8_join_67 ?_
      refine k_iload C dX8_join_70 2 rfl ?_
      obtain ⟨hi, hf⟩ := gd_no hf
      refine lm30 C hi dX8_join_72 ?_
      obtain ⟨hi, hf⟩ := gd_no hf
      refine lm23 C hi dX8_join_73 ?_
      refine k_bipush (v := (10 : Int32)) C dX8_join_74 (by decide) ?_
      refine k_icmp_ne C 83 dX8_join_76 (by decide) (fun hc => ?_) (fun hc => ?_)
      · replace hf := (if_neg hc).symm.trans hf
        refine k_iload C dX8_join_83 1 rfl ?_
        refine k_iconst (v := (0 : Int32)) C dX8_join_85 (by decide) ?_
        obtain ⟨⟨r_6, ⟨mH_ht_7, mH_hK_8, mH_hA_9, mH_hB_10, mH_hC_11, mH_hN_12, mH_h1_13, mH_hT_14, mH_hR_15⟩⟩, hq_5, hf⟩ := ob_el hf
        dsimp only at hf
        refine k_callVi C (c8_number C.2.2.2.2.2.2.2.2.2.1 hq_5) cm8_293 ok8_number (by decide) 0 rfl rfl rfl rfl (Nat.le_of_ble_eq_true rfl) dX8_join_86 ?_
        refine k_istore C dX8_join_89 [(4, .int r_6), (0, .ref (ad 0)), (5, .int x5)] (by decide) rfl ?_
        obtain ⟨v5_16, ev5_16⟩ : ∃ y : Int32, y = x5 + (-1 : Int32) := ⟨_, rfl⟩
        replace hf := nm_el hf ev5_16
        refine k_iinc (v := v5_16) C dX8_join_91 2 rfl (by rw [ev5_16]; rfl) [(5, .int v5_16), (4, .int r_6), (0, .ref (ad 0))] (by decide) rfl ?_
        refine k_goto C 47 dX8_join_94 (by decide) ?_
        refine k_sub [2, 1, 0] (L' := [(0, .ref (ad 0)), (4, .int r_6), (5, .int v5_16)]) rfl ?_
        exact ih _ _ _ _ _ _ _ _ _ _ _ hf
      · replace hf := (if_pos hc).symm.trans hf
        refine k_iconst (v := (-1 : Int32)) C dX8_join_79 (by decide) ?_
        refine k_goto C 85 dX8_join_80 (by decide) ?_
        refine k_iconst (v := (0 : Int32)) C dX8_join_85 (by decide) ?_
        obtain ⟨⟨r_18, ⟨mH_ht_19, mH_hK_20, mH_hA_21, mH_hB_22, mH_hC_23, mH_hN_24, mH_h1_25, mH_hT_26, mH_hR_27⟩⟩, hq_17, hf⟩ := ob_el hf
        dsimp only at hf
        refine k_callVi C (c8_number C.2.2.2.2.2.2.2.2.2.1 hq_17) cm8_293 ok8_number (by decide) 0 rfl rfl rfl rfl (Nat.le_of_ble_eq_true rfl) dX8_join_86 ?_
        refine k_istore C dX8_join_89 [(4, .int r_18), (0, .ref (ad 0)), (5, .int x5)] (by decide) rfl ?_
        obtain ⟨v5_28, ev5_28⟩ : ∃ y : Int32, y = x5 + (-1 : Int32) := ⟨_, rfl⟩
        replace hf := nm_el hf ev5_28
        refine k_iinc (v := v5_28) C dX8_join_91 2 rfl (by rw [ev5_28]; rfl) [(5, .int v5_28), (4, .int r_18), (0, .ref (ad 0))] (by decide) rfl ?_
        refine k_goto C 47 dX8_join_94 (by decide) ?_
        refine k_sub [2, 1, 0] (L' := [(0, .ref (ad 0)), (4, .int r_18), (5, .int v5_28)]) rfl ?_
        exact ih _ _ _ _ _ _ _ _ _ _ _ hf
set_option maxHeartbeats 4000000 in
set_option maxRecDepth 100000 in
theorem b8_join {V : EV} {p : Program} {l : Launch} {e : Env} {R : Room} {s : State} {m : MethodId} {args : Array Value} {below : List Frame} {meth : Method} {c : Code} {Q : State → Prop} {A : Nat → Prop} {kc ks : Nat} {ad : Nat → Nat} {mT : MdT} {mQ : MdQ} {mK : MdK} {mN : MdN} {mP : MdP} {mL : MdL} {mR : MdR} {mG : MdG} {v1 : Int32} {v2 : Int32} {mH_ht : Int32} {mH_hK : Nat → Int32} {mH_hA : Nat → Int32} {mH_hB : Nat → Int32} {mH_hC : Nat → Int32} {mH_hN : Nat → Int32} {mH_h1 : Nat → Int32} {mH_hT : Nat → Int32} {mH_hR : Nat → Int32} {N : Nat} {res : Int32 × MdH} (C : CX V p l R s m args c A kc ks RX8 cX8_join 6 1 26) (hf : f8_join N v1 v2 (mH_ht, mH_hK, mH_hA, mH_hB, mH_hC, mH_hN, mH_h1, mH_hT, mH_hR) = some res) (K : RI V p l e R s m args below meth c Q A kc ks 6 cX8_join .int res.1 (wM V ad mT mQ mK mN mP mL res.2 mR mG)) : WC V p l e R s m args below meth c Q A kc ks 6 (wM V ad mT mQ mK mN mP mL (mH_ht, mH_hK, mH_hA, mH_hB, mH_hC, mH_hN, mH_h1, mH_hT, mH_hR) mR mG) 0 [(0, .ref (ad 0)), (1, .int v1), (2, .int v2)] [] := by
  rw [f8_join] at hf
  refine k_iconst (v := (0 : Int32)) C dX8_join_0 (by decide) ?_
  refine k_istore_n C dX8_join_1 [(3, .int (0 : Int32)), (0, .ref (ad 0)), (1, .int v1), (2, .int v2)] (by decide) rfl ?_
  refine k_iload_n C dX8_join_2 2 rfl ?_
  refine k_istore C dX8_join_3 [(4, .int v1), (3, .int (0 : Int32)), (0, .ref (ad 0)), (1, .int v1), (2, .int v2)] (by decide) rfl ?_
  refine k_sub [2, 4, 1, 0] (L' := [(0, .ref (ad 0)), (2, .int v2), (3, .int (0 : Int32)), (4, .int v1)]) rfl ?_
  refine w8_join_L5 C K ?_ _ _ _ _ _ _ _ _ _ _ _ _ _ hf
  · intro x2_3 x3_3 mH_ht_3 mH_hK_3 mH_hA_3 mH_hB_3 mH_hC_3 mH_hN_3 mH_h1_3 mH_hT_3 mH_hR_3 hf
    try dsimp only at hf
    refine k_iload_n C dX8_join_39 1 rfl ?_
    refine k_istore C dX8_join_40 [(4, .int x2_3), (0, .ref (ad 0)), (2, .int x2_3), (3, .int x3_3)] (by decide) rfl ?_
    refine k_iload_n C dX8_join_42 3 rfl ?_
    refine k_iconst (v := (1 : Int32)) C dX8_join_43 (by decide) ?_
    refine k_isub C dX8_join_44 ?_
    refine k_topi (fun v5_4 ev5_4 => ?_)
    replace hf := nm_el hf ev5_4
    refine k_istore C dX8_join_45 [(5, .int v5_4), (4, .int x2_3), (0, .ref (ad 0)), (2, .int x2_3), (3, .int x3_3)] (by decide) rfl ?_
    refine k_sub [2, 1, 0] (L' := [(0, .ref (ad 0)), (4, .int x2_3), (5, .int v5_4)]) rfl ?_
    refine w8_join_L47 C K ?_ _ _ _ _ _ _ _ _ _ _ _ _ hf
    · intro x4_29 mH_ht_29 mH_hK_29 mH_hA_29 mH_hB_29 mH_hC_29 mH_hN_29 mH_h1_29 mH_hT_29 mH_hR_29 hf
      try dsimp only at hf
      refine k_iload C dX8_join_97 0 rfl ?_
      cases hf
      exact K _ _ dX8_join_99 rfl
theorem c8_join {V : EV} {l : Launch} (hl0 : l.stackTraces = false) {ad : Nat → Nat} {mT : MdT} {mQ : MdQ} {mK : MdK} {mN : MdN} {mP : MdP} {mL : MdL} {mR : MdR} {mG : MdG} {v1 : Int32} {v2 : Int32} {mH_ht : Int32} {mH_hK : Nat → Int32} {mH_hA : Nat → Int32} {mH_hB : Nat → Int32} {mH_hC : Nat → Int32} {mH_hN : Nat → Int32} {mH_h1 : Nat → Int32} {mH_hT : Nat → Int32} {mH_hR : Nat → Int32} {N : Nat} {res : Int32 × MdH} (hf : f8_join N v1 v2 (mH_ht, mH_hK, mH_hA, mH_hB, mH_hC, mH_hN, mH_h1, mH_hT, mH_hR) = some res) : MI V l yX8_join cX8_join 6 .int 1 26 [.ref (ad 0), .int v1, .int v2] (wM V ad mT mQ mK mN mP mL (mH_ht, mH_hK, mH_hA, mH_hB, mH_hC, mH_hN, mH_h1, mH_hT, mH_hR) mR mG) res.1 (wM V ad mT mQ mK mN mP mL res.2 mR mG) :=
  mi_of hl0 (by decide +kernel) (Nat.le_of_ble_eq_true rfl) (fun p e R s m args below meth c Q A C K => b8_join C hf K)

theorem ok8_single : okCV RX8 yX8_single 1 := by unfold okCV; decide +kernel
def f8_single (N : Nat) (v1 : Int32) : MdH → Option (Int32 × MdH)
  | (mH_ht, mH_hK, mH_hA, mH_hB, mH_hC, mH_hN, mH_h1, mH_hT, mH_hR) =>
    (f8_number N (11 : Int32) v1 (-1 : Int32) (0 : Int32) (mH_ht, mH_hK, mH_hA, mH_hB, mH_hC, mH_hN, mH_h1, mH_hT, mH_hR)).bind fun (r_2, (mH_ht_3, mH_hK_4, mH_hA_5, mH_hB_6, mH_hC_7, mH_hN_8, mH_h1_9, mH_hT_10, mH_hR_11)) => some (r_2, (mH_ht_3, mH_hK_4, mH_hA_5, mH_hB_6, mH_hC_7, mH_hN_8, mH_h1_9, mH_hT_10, mH_hR_11))
set_option maxHeartbeats 4000000 in
set_option maxRecDepth 100000 in
theorem b8_single {V : EV} {p : Program} {l : Launch} {e : Env} {R : Room} {s : State} {m : MethodId} {args : Array Value} {below : List Frame} {meth : Method} {c : Code} {Q : State → Prop} {A : Nat → Prop} {kc ks : Nat} {ad : Nat → Nat} {mT : MdT} {mQ : MdQ} {mK : MdK} {mN : MdN} {mP : MdP} {mL : MdL} {mR : MdR} {mG : MdG} {v1 : Int32} {mH_ht : Int32} {mH_hK : Nat → Int32} {mH_hA : Nat → Int32} {mH_hB : Nat → Int32} {mH_hC : Nat → Int32} {mH_hN : Nat → Int32} {mH_h1 : Nat → Int32} {mH_hT : Nat → Int32} {mH_hR : Nat → Int32} {N : Nat} {res : Int32 × MdH} (C : CX V p l R s m args c A kc ks RX8 cX8_single 2 1 26) (hf : f8_single N v1 (mH_ht, mH_hK, mH_hA, mH_hB, mH_hC, mH_hN, mH_h1, mH_hT, mH_hR) = some res) (K : RI V p l e R s m args below meth c Q A kc ks 2 cX8_single .int res.1 (wM V ad mT mQ mK mN mP mL res.2 mR mG)) : WC V p l e R s m args below meth c Q A kc ks 2 (wM V ad mT mQ mK mN mP mL (mH_ht, mH_hK, mH_hA, mH_hB, mH_hC, mH_hN, mH_h1, mH_hT, mH_hR) mR mG) 0 [(0, .ref (ad 0)), (1, .int v1)] [] := by
  rw [f8_single] at hf
  refine k_aload_n C dX8_single_0 0 rfl ?_
  refine k_bipush (v := (11 : Int32)) C dX8_single_1 (by decide) ?_
  refine k_iload_n C dX8_single_3 1 rfl ?_
  refine k_iconst (v := (-1 : Int32)) C dX8_single_4 (by decide) ?_
  refine k_iconst (v := (0 : Int32)) C dX8_single_5 (by decide) ?_
  obtain ⟨⟨r_2, ⟨mH_ht_3, mH_hK_4, mH_hA_5, mH_hB_6, mH_hC_7, mH_hN_8, mH_h1_9, mH_hT_10, mH_hR_11⟩⟩, hq_1, hf⟩ := ob_el hf
  dsimp only at hf
  refine k_callVi C (c8_number C.2.2.2.2.2.2.2.2.2.1 hq_1) cm8_293 ok8_number (by decide) 0 rfl rfl rfl rfl (Nat.le_of_ble_eq_true rfl) dX8_single_6 ?_
  cases hf
  exact K _ _ dX8_single_9 rfl
theorem c8_single {V : EV} {l : Launch} (hl0 : l.stackTraces = false) {ad : Nat → Nat} {mT : MdT} {mQ : MdQ} {mK : MdK} {mN : MdN} {mP : MdP} {mL : MdL} {mR : MdR} {mG : MdG} {v1 : Int32} {mH_ht : Int32} {mH_hK : Nat → Int32} {mH_hA : Nat → Int32} {mH_hB : Nat → Int32} {mH_hC : Nat → Int32} {mH_hN : Nat → Int32} {mH_h1 : Nat → Int32} {mH_hT : Nat → Int32} {mH_hR : Nat → Int32} {N : Nat} {res : Int32 × MdH} (hf : f8_single N v1 (mH_ht, mH_hK, mH_hA, mH_hB, mH_hC, mH_hN, mH_h1, mH_hT, mH_hR) = some res) : MI V l yX8_single cX8_single 2 .int 1 26 [.ref (ad 0), .int v1] (wM V ad mT mQ mK mN mP mL (mH_ht, mH_hK, mH_hA, mH_hB, mH_hC, mH_hN, mH_h1, mH_hT, mH_hR) mR mG) res.1 (wM V ad mT mQ mK mN mP mL res.2 mR mG) :=
  mi_of hl0 (by decide +kernel) (Nat.le_of_ble_eq_true rfl) (fun p e R s m args below meth c Q A C K => b8_single C hf K)

theorem cm8_290 : ∀ a ∈ wsCV RX8 290 RX8 yX8_of cX8_of 2 (some .int), a ∈ GW := by
  unfold wsCV
  exact (List.forall_mem_cons.mpr ⟨(gw_6 (i := 88) (by decide +kernel) rfl), (List.forall_mem_cons.mpr ⟨(gw_6 (i := 90) (by decide +kernel) rfl), (List.forall_mem_cons.mpr ⟨(gw_p (q := ((yX8_of, 63) : MethodName × Nat)) (List.mem_append_right _ (List.mem_append_right _ (List.mem_append_right _ (List.mem_append_right _ (List.mem_append_right _ (List.mem_append_left _ (List.mem_of_getElem? (i := 10) (by decide +kernel)))))))) rfl), (List.forall_mem_cons.mpr ⟨(gw_1 (i := 9) (by decide +kernel) rfl), (List.forall_mem_cons.mpr ⟨(gw_6 (i := 91) (by decide +kernel) rfl), (List.forall_mem_nil _)⟩)⟩)⟩)⟩)⟩)
theorem cm8_332 : ∀ a ∈ wsCV RX8 332 RX8 yX8_single cX8_single 2 (some .int), a ∈ GW := by
  unfold wsCV
  exact (List.forall_mem_cons.mpr ⟨(gw_6 (i := 133) (by decide +kernel) rfl), (List.forall_mem_cons.mpr ⟨(gw_6 (i := 135) (by decide +kernel) rfl), (List.forall_mem_cons.mpr ⟨(gw_p (q := ((yX8_single, 63) : MethodName × Nat)) (List.mem_append_right _ (List.mem_append_right _ (List.mem_append_right _ (List.mem_append_right _ (List.mem_append_right _ (List.mem_append_right _ (List.mem_of_getElem? (i := 3) (by decide +kernel)))))))) rfl), (List.forall_mem_cons.mpr ⟨(gw_1 (i := 9) (by decide +kernel) rfl), (List.forall_mem_cons.mpr ⟨(gw_6 (i := 136) (by decide +kernel) rfl), (List.forall_mem_nil _)⟩)⟩)⟩)⟩)⟩)
theorem ok8_foldStatement : okCV RX8 yX8_foldStatement 1 := by unfold okCV; decide +kernel
def f8_foldStatement_L99  (N : Nat) (mQ_qc : Int32) (mQ_qb : Int32) (mQ_qp : Int32) (mQ_qr : Int32) (mQ_qC : Int32) (mN_nn : Int32) (mN_nk : Nat → Int32) (mN_na : Nat → Int32) (mN_nb : Nat → Int32) (mN_nc : Nat → Int32) (mN_ns : Nat → Int32) : Int32 → Int32 → MdH → Option (Int32 × MdH)
  | x1, x3, (mH_ht, mH_hK, mH_hA, mH_hB, mH_hC, mH_hN, mH_h1, mH_hT, mH_hR) =>
    if x1 < 0 ∨ 512 ≤ x1.toNatClampNeg then none else (f8_number N (6 : Int32) (mN_na x1.toNatClampNeg) x3 (0 : Int32) (mH_ht, mH_hK, mH_hA, mH_hB, mH_hC, mH_hN, mH_h1, mH_hT, mH_hR)).bind fun (r_28, (mH_ht_29, mH_hK_30, mH_hA_31, mH_hB_32, mH_hC_33, mH_hN_34, mH_h1_35, mH_hT_36, mH_hR_37)) => (f8_single N r_28 (mH_ht_29, mH_hK_30, mH_hA_31, mH_hB_32, mH_hC_33, mH_hN_34, mH_h1_35, mH_hT_36, mH_hR_37)).bind fun (r_39, (mH_ht_40, mH_hK_41, mH_hA_42, mH_hB_43, mH_hC_44, mH_hN_45, mH_h1_46, mH_hT_47, mH_hR_48)) => some (r_39, (mH_ht_40, mH_hK_41, mH_hA_42, mH_hB_43, mH_hC_44, mH_hN_45, mH_h1_46, mH_hT_47, mH_hR_48))

def f8_foldStatement_L25  (N : Nat) (mQ_qc : Int32) (mQ_qb : Int32) (mQ_qp : Int32) (mQ_qr : Int32) (mQ_qC : Int32) (mN_nn : Int32) (mN_nk : Nat → Int32) (mN_na : Nat → Int32) (mN_nb : Nat → Int32) (mN_nc : Nat → Int32) (mN_ns : Nat → Int32) : Int32 → Int32 → MdH → Option (Int32 × MdH)
  | x1, y0, (mH_ht, mH_hK, mH_hA, mH_hB, mH_hC, mH_hN, mH_h1, mH_hT, mH_hR) =>
    if x1 < 0 ∨ 512 ≤ x1.toNatClampNeg then none else (f8_of (mN_nb x1.toNatClampNeg) (mQ_qc, mQ_qb, mQ_qp, mQ_qr, mQ_qC) (mH_ht, mH_hK, mH_hA, mH_hB, mH_hC, mH_hN, mH_h1, mH_hT, mH_hR)).bind fun r_4 => if x1 < 0 ∨ 512 ≤ x1.toNatClampNeg then none else if (mN_nk x1.toNatClampNeg) = (6 : Int32) then if r_4 < 0 ∨ 4200 ≤ r_4.toNatClampNeg then none else if (mH_hK r_4.toNatClampNeg) = (2 : Int32) then if r_4 < 0 ∨ 4200 ≤ r_4.toNatClampNeg then none else if x1 < 0 ∨ 512 ≤ x1.toNatClampNeg then none else if (mH_hA r_4.toNatClampNeg) = (mN_na x1.toNatClampNeg) then some ((-1 : Int32), (mH_ht, mH_hK, mH_hA, mH_hB, mH_hC, mH_hN, mH_h1, mH_hT, mH_hR)) else f8_foldStatement_L99 N mQ_qc mQ_qb mQ_qp mQ_qr mQ_qC mN_nn mN_nk mN_na mN_nb mN_nc mN_ns x1 r_4 (mH_ht, mH_hK, mH_hA, mH_hB, mH_hC, mH_hN, mH_h1, mH_hT, mH_hR) else f8_foldStatement_L99 N mQ_qc mQ_qb mQ_qp mQ_qr mQ_qC mN_nn mN_nk mN_na mN_nb mN_nc mN_ns x1 r_4 (mH_ht, mH_hK, mH_hA, mH_hB, mH_hC, mH_hN, mH_h1, mH_hT, mH_hR) else if (mN_nk x1.toNatClampNeg) = (7 : Int32) then if y0 < 0 ∨ 4200 ≤ y0.toNatClampNeg then none else if (mH_hK y0.toNatClampNeg) = (12 : Int32) then if y0 < 0 ∨ 4200 ≤ y0.toNatClampNeg then none else if (mH_hA y0.toNatClampNeg) = (1 : Int32) then some (r_4, (mH_ht, mH_hK, mH_hA, mH_hB, mH_hC, mH_hN, mH_h1, mH_hT, mH_hR)) else if x1 < 0 ∨ 512 ≤ x1.toNatClampNeg then none else (f8_of (mN_nc x1.toNatClampNeg) (mQ_qc, mQ_qb, mQ_qp, mQ_qr, mQ_qC) (mH_ht, mH_hK, mH_hA, mH_hB, mH_hC, mH_hN, mH_h1, mH_hT, mH_hR)).bind fun r_74 => some (r_74, (mH_ht, mH_hK, mH_hA, mH_hB, mH_hC, mH_hN, mH_h1, mH_hT, mH_hR)) else if x1 < 0 ∨ 512 ≤ x1.toNatClampNeg then none else (f8_of (mN_nc x1.toNatClampNeg) (mQ_qc, mQ_qb, mQ_qp, mQ_qr, mQ_qC) (mH_ht, mH_hK, mH_hA, mH_hB, mH_hC, mH_hN, mH_h1, mH_hT, mH_hR)).bind fun r_50 => (f8_number N (7 : Int32) y0 r_4 r_50 (mH_ht, mH_hK, mH_hA, mH_hB, mH_hC, mH_hN, mH_h1, mH_hT, mH_hR)).bind fun (r_52, (mH_ht_53, mH_hK_54, mH_hA_55, mH_hB_56, mH_hC_57, mH_hN_58, mH_h1_59, mH_hT_60, mH_hR_61)) => (f8_single N r_52 (mH_ht_53, mH_hK_54, mH_hA_55, mH_hB_56, mH_hC_57, mH_hN_58, mH_h1_59, mH_hT_60, mH_hR_61)).bind fun (r_63, (mH_ht_64, mH_hK_65, mH_hA_66, mH_hB_67, mH_hC_68, mH_hN_69, mH_h1_70, mH_hT_71, mH_hR_72)) => some (r_63, (mH_ht_64, mH_hK_65, mH_hA_66, mH_hB_67, mH_hC_68, mH_hN_69, mH_h1_70, mH_hT_71, mH_hR_72)) else if (mN_nk x1.toNatClampNeg) = (8 : Int32) then (f8_isTruth y0 (0 : Int32) (mH_ht, mH_hK, mH_hA, mH_hB, mH_hC, mH_hN, mH_h1, mH_hT, mH_hR)).bind fun r_76 => if r_76 = 0 then (f8_number N (8 : Int32) y0 r_4 (0 : Int32) (mH_ht, mH_hK, mH_hA, mH_hB, mH_hC, mH_hN, mH_h1, mH_hT, mH_hR)).bind fun (r_78, (mH_ht_79, mH_hK_80, mH_hA_81, mH_hB_82, mH_hC_83, mH_hN_84, mH_h1_85, mH_hT_86, mH_hR_87)) => (f8_single N r_78 (mH_ht_79, mH_hK_80, mH_hA_81, mH_hB_82, mH_hC_83, mH_hN_84, mH_h1_85, mH_hT_86, mH_hR_87)).bind fun (r_89, (mH_ht_90, mH_hK_91, mH_hA_92, mH_hB_93, mH_hC_94, mH_hN_95, mH_h1_96, mH_hT_97, mH_hR_98)) => some (r_89, (mH_ht_90, mH_hK_91, mH_hA_92, mH_hB_93, mH_hC_94, mH_hN_95, mH_h1_96, mH_hT_97, mH_hR_98)) else some ((-1 : Int32), (mH_ht, mH_hK, mH_hA, mH_hB, mH_hC, mH_hN, mH_h1, mH_hT, mH_hR)) else if (mN_nk x1.toNatClampNeg) = (9 : Int32) then (f8_isTruth y0 (1 : Int32) (mH_ht, mH_hK, mH_hA, mH_hB, mH_hC, mH_hN, mH_h1, mH_hT, mH_hR)).bind fun r_100 => if r_100 = 0 then (f8_number N (9 : Int32) y0 (0 : Int32) (0 : Int32) (mH_ht, mH_hK, mH_hA, mH_hB, mH_hC, mH_hN, mH_h1, mH_hT, mH_hR)).bind fun (r_102, (mH_ht_103, mH_hK_104, mH_hA_105, mH_hB_106, mH_hC_107, mH_hN_108, mH_h1_109, mH_hT_110, mH_hR_111)) => (f8_single N r_102 (mH_ht_103, mH_hK_104, mH_hA_105, mH_hB_106, mH_hC_107, mH_hN_108, mH_h1_109, mH_hT_110, mH_hR_111)).bind fun (r_113, (mH_ht_114, mH_hK_115, mH_hA_116, mH_hB_117, mH_hC_118, mH_hN_119, mH_h1_120, mH_hT_121, mH_hR_122)) => some (r_113, (mH_ht_114, mH_hK_115, mH_hA_116, mH_hB_117, mH_hC_118, mH_hN_119, mH_h1_120, mH_hT_121, mH_hR_122)) else some ((-1 : Int32), (mH_ht, mH_hK, mH_hA, mH_hB, mH_hC, mH_hN, mH_h1, mH_hT, mH_hR)) else (f8_number N (10 : Int32) y0 (0 : Int32) (0 : Int32) (mH_ht, mH_hK, mH_hA, mH_hB, mH_hC, mH_hN, mH_h1, mH_hT, mH_hR)).bind fun (r_6, (mH_ht_7, mH_hK_8, mH_hA_9, mH_hB_10, mH_hC_11, mH_hN_12, mH_h1_13, mH_hT_14, mH_hR_15)) => (f8_single N r_6 (mH_ht_7, mH_hK_8, mH_hA_9, mH_hB_10, mH_hC_11, mH_hN_12, mH_h1_13, mH_hT_14, mH_hR_15)).bind fun (r_17, (mH_ht_18, mH_hK_19, mH_hA_20, mH_hB_21, mH_hC_22, mH_hN_23, mH_h1_24, mH_hT_25, mH_hR_26)) => some (r_17, (mH_ht_18, mH_hK_19, mH_hA_20, mH_hB_21, mH_hC_22, mH_hN_23, mH_h1_24, mH_hT_25, mH_hR_26))
def f8_foldStatement (N : Nat) (v1 : Int32) : MdQ → MdN → MdH → Option (Int32 × MdH)
  | (mQ_qc, mQ_qb, mQ_qp, mQ_qr, mQ_qC), (mN_nn, mN_nk, mN_na, mN_nb, mN_nc, mN_ns), (mH_ht, mH_hK, mH_hA, mH_hB, mH_hC, mH_hN, mH_h1, mH_hT, mH_hR) =>
    if v1 < 0 ∨ 512 ≤ v1.toNatClampNeg then none else if (mN_nk v1.toNatClampNeg) = (6 : Int32) then f8_foldStatement_L25 N mQ_qc mQ_qb mQ_qp mQ_qr mQ_qC mN_nn mN_nk mN_na mN_nb mN_nc mN_ns v1 (-1 : Int32) (mH_ht, mH_hK, mH_hA, mH_hB, mH_hC, mH_hN, mH_h1, mH_hT, mH_hR) else if v1 < 0 ∨ 512 ≤ v1.toNatClampNeg then none else (f8_of (mN_na v1.toNatClampNeg) (mQ_qc, mQ_qb, mQ_qp, mQ_qr, mQ_qC) (mH_ht, mH_hK, mH_hA, mH_hB, mH_hC, mH_hN, mH_h1, mH_hT, mH_hR)).bind fun r_2 => f8_foldStatement_L25 N mQ_qc mQ_qb mQ_qp mQ_qr mQ_qC mN_nn mN_nk mN_na mN_nb mN_nc mN_ns v1 r_2 (mH_ht, mH_hK, mH_hA, mH_hB, mH_hC, mH_hN, mH_h1, mH_hT, mH_hR)
set_option maxHeartbeats 4000000 in
set_option maxRecDepth 100000 in
theorem w8_foldStatement_L99 {V : EV} {p : Program} {l : Launch} {e : Env} {R : Room} {s : State} {m : MethodId} {args : Array Value} {below : List Frame} {meth : Method} {c : Code} {Q : State → Prop} {A : Nat → Prop} {kc ks : Nat} {ad : Nat → Nat} {mT : MdT} {mK : MdK} {mP : MdP} {mL : MdL} {mR : MdR} {mG : MdG} {mQ_qc : Int32} {mQ_qb : Int32} {mQ_qp : Int32} {mQ_qr : Int32} {mQ_qC : Int32} {mN_nn : Int32} {mN_nk : Nat → Int32} {mN_na : Nat → Int32} {mN_nb : Nat → Int32} {mN_nc : Nat → Int32} {mN_ns : Nat → Int32}  {N : Nat} {res : Int32 × MdH} (C : CX V p l R s m args c A kc ks RX8 cX8_foldStatement 4 2 47) (K : RI V p l e R s m args below meth c Q A kc ks 4 cX8_foldStatement .int res.1 (wM V ad mT (mQ_qc, mQ_qb, mQ_qp, mQ_qr, mQ_qC) mK (mN_nn, mN_nk, mN_na, mN_nb, mN_nc, mN_ns) mP mL res.2 mR mG))  : ∀ (x1 : Int32) (x3 : Int32) (mH_ht : Int32) (mH_hK : Nat → Int32) (mH_hA : Nat → Int32) (mH_hB : Nat → Int32) (mH_hC : Nat → Int32) (mH_hN : Nat → Int32) (mH_h1 : Nat → Int32) (mH_hT : Nat → Int32) (mH_hR : Nat → Int32), f8_foldStatement_L99 N mQ_qc mQ_qb mQ_qp mQ_qr mQ_qC mN_nn mN_nk mN_na mN_nb mN_nc mN_ns x1 x3 (mH_ht, mH_hK, mH_hA, mH_hB, mH_hC, mH_hN, mH_h1, mH_hT, mH_hR) = some res → WC V p l e R s m args below meth c Q A kc ks 4 (wM V ad mT (mQ_qc, mQ_qb, mQ_qp, mQ_qr, mQ_qC) mK (mN_nn, mN_nk, mN_na, mN_nb, mN_nc, mN_ns) mP mL (mH_ht, mH_hK, mH_hA, mH_hB, mH_hC, mH_hN, mH_h1, mH_hT, mH_hR) mR mG) 99 [(0, .ref (ad 0)), (1, .int x1), (3, .int x3)] [] := by
  intro x1 x3 mH_ht mH_hK mH_hA mH_hB mH_hC mH_hN mH_h1 mH_hT mH_hR hf
  rw [f8_foldStatement_L99] at hf
  refine k_aload_n C dX8_foldStatement_99 0 rfl ?_
  refine k_aload_n C dX8_foldStatement_100 0 rfl ?_
  refine k_bipush (v := (6 : Int32)) C dX8_foldStatement_101 (by decide) ?_
  refine k_aload_n C dX8_foldStatement_103 0 rfl ?_
  refine g8_25 C dX8_foldStatement_104 ?_
  refine k_iload_n C dX8_foldStatement_107 1 rfl ?_
  obtain ⟨hi, hf⟩ := gd_no hf
  refine lm6 C hi dX8_foldStatement_108 ?_
  refine k_iload_n C dX8_foldStatement_109 2 rfl ?_
  refine k_iconst (v := (0 : Int32)) C dX8_foldStatement_110 (by decide) ?_
  obtain ⟨⟨r_28, ⟨mH_ht_29, mH_hK_30, mH_hA_31, mH_hB_32, mH_hC_33, mH_hN_34, mH_h1_35, mH_hT_36, mH_hR_37⟩⟩, hq_27, hf⟩ := ob_el hf
  dsimp only at hf
  refine k_callVi C (c8_number C.2.2.2.2.2.2.2.2.2.1 hq_27) cm8_293 ok8_number (by decide) 0 rfl rfl rfl rfl (Nat.le_of_ble_eq_true rfl) dX8_foldStatement_111 ?_
  obtain ⟨⟨r_39, ⟨mH_ht_40, mH_hK_41, mH_hA_42, mH_hB_43, mH_hC_44, mH_hN_45, mH_h1_46, mH_hT_47, mH_hR_48⟩⟩, hq_38, hf⟩ := ob_el hf
  dsimp only at hf
  refine k_callVi C (c8_single C.2.2.2.2.2.2.2.2.2.1 hq_38) cm8_332 ok8_single (by decide) 0 rfl rfl rfl rfl (Nat.le_of_ble_eq_true rfl) dX8_foldStatement_114 ?_
  cases hf
  exact K _ _ dX8_foldStatement_117 rfl

set_option maxHeartbeats 4000000 in
set_option maxRecDepth 100000 in
theorem w8_foldStatement_L25 {V : EV} {p : Program} {l : Launch} {e : Env} {R : Room} {s : State} {m : MethodId} {args : Array Value} {below : List Frame} {meth : Method} {c : Code} {Q : State → Prop} {A : Nat → Prop} {kc ks : Nat} {ad : Nat → Nat} {mT : MdT} {mK : MdK} {mP : MdP} {mL : MdL} {mR : MdR} {mG : MdG} {mQ_qc : Int32} {mQ_qb : Int32} {mQ_qp : Int32} {mQ_qr : Int32} {mQ_qC : Int32} {mN_nn : Int32} {mN_nk : Nat → Int32} {mN_na : Nat → Int32} {mN_nb : Nat → Int32} {mN_nc : Nat → Int32} {mN_ns : Nat → Int32}  {N : Nat} {res : Int32 × MdH} (C : CX V p l R s m args c A kc ks RX8 cX8_foldStatement 4 2 47) (K : RI V p l e R s m args below meth c Q A kc ks 4 cX8_foldStatement .int res.1 (wM V ad mT (mQ_qc, mQ_qb, mQ_qp, mQ_qr, mQ_qC) mK (mN_nn, mN_nk, mN_na, mN_nb, mN_nc, mN_ns) mP mL res.2 mR mG))  : ∀ (x1 : Int32) (y0 : Int32) (mH_ht : Int32) (mH_hK : Nat → Int32) (mH_hA : Nat → Int32) (mH_hB : Nat → Int32) (mH_hC : Nat → Int32) (mH_hN : Nat → Int32) (mH_h1 : Nat → Int32) (mH_hT : Nat → Int32) (mH_hR : Nat → Int32), f8_foldStatement_L25 N mQ_qc mQ_qb mQ_qp mQ_qr mQ_qC mN_nn mN_nk mN_na mN_nb mN_nc mN_ns x1 y0 (mH_ht, mH_hK, mH_hA, mH_hB, mH_hC, mH_hN, mH_h1, mH_hT, mH_hR) = some res → WC V p l e R s m args below meth c Q A kc ks 4 (wM V ad mT (mQ_qc, mQ_qb, mQ_qp, mQ_qr, mQ_qC) mK (mN_nn, mN_nk, mN_na, mN_nb, mN_nc, mN_ns) mP mL (mH_ht, mH_hK, mH_hA, mH_hB, mH_hC, mH_hN, mH_h1, mH_hT, mH_hR) mR mG) 25 [(0, .ref (ad 0)), (1, .int x1)] [.int y0] := by
  intro x1 y0 mH_ht mH_hK mH_hA mH_hB mH_hC mH_hN mH_h1 mH_hT mH_hR hf
  rw [f8_foldStatement_L25] at hf
  refine k_istore_n C dX8_foldStatement_25 [(2, .int y0), (0, .ref (ad 0)), (1, .int x1)] (by decide) rfl ?_
  refine k_aload_n C dX8_foldStatement_26 1 rfl ?_
  refine k_aload_n C dX8_foldStatement_27 1 rfl ?_
  refine g8_28 C dX8_foldStatement_28 ?_
  refine k_iload_n C dX8_foldStatement_31 2 rfl ?_
  obtain ⟨hi, hf⟩ := gd_no hf
  refine lm7 C hi dX8_foldStatement_32 ?_
  obtain ⟨r_4, hq_3, hf⟩ := ob_el hf
  refine k_callVi C (c8_of C.2.2.2.2.2.2.2.2.2.1 hq_3) cm8_290 ok8_of (by decide) 0 rfl rfl rfl rfl (Nat.le_of_ble_eq_true rfl) dX8_foldStatement_33 ?_
  refine k_istore_n C dX8_foldStatement_36 [(3, .int r_4), (2, .int y0), (0, .ref (ad 0)), (1, .int x1)] (by decide) rfl ?_
  refine k_aload_n C dX8_foldStatement_37 2 rfl ?_
  refine g8_22 C dX8_foldStatement_38 ?_
  refine k_iload_n C dX8_foldStatement_41 3 rfl ?_
  obtain ⟨hi, hf⟩ := gd_no hf
  refine lm5 C hi dX8_foldStatement_42 ?_
  have hx0 : ∀ n : Int32, (mN_nk x1.toNatClampNeg) = n → (mN_nk x1.toNatClampNeg).toInt = n.toInt := fun n h => by rw [h]
  by_cases hc : (mN_nk x1.toNatClampNeg) = (6 : Int32)
  · replace hf := (if_pos hc).symm.trans hf
    refine k_tableIn C 72 dX8_foldStatement_43 (by rw [hx0 _ hc]; decide) (by rw [hx0 _ hc]; decide) (by rw [hx0 _ hc]; rfl) (by decide) ?_
    refine k_aload_n C dX8_foldStatement_72 2 rfl ?_
    refine g8_76 C dX8_foldStatement_73 ?_
    refine k_iload_n C dX8_foldStatement_76 0 rfl ?_
    obtain ⟨hi, hf⟩ := gd_no hf
    refine lm23 C hi dX8_foldStatement_77 ?_
    refine k_iconst (v := (2 : Int32)) C dX8_foldStatement_78 (by decide) ?_
    refine k_icmp_ne C 99 dX8_foldStatement_79 (by decide) (fun hc => ?_) (fun hc => ?_)
    · replace hf := (if_neg hc).symm.trans hf
      refine k_sub [2, 3, 0] (L' := [(0, .ref (ad 0)), (1, .int x1), (3, .int r_4)]) rfl ?_
      exact w8_foldStatement_L99 C K _ _ _ _ _ _ _ _ _ _ _ hf
    · replace hf := (if_pos hc).symm.trans hf
      refine k_aload_n C dX8_foldStatement_82 2 rfl ?_
      refine g8_79 C dX8_foldStatement_83 ?_
      refine k_iload_n C dX8_foldStatement_86 0 rfl ?_
      obtain ⟨hi, hf⟩ := gd_no hf
      refine lm24 C hi dX8_foldStatement_87 ?_
      refine k_aload_n C dX8_foldStatement_88 2 rfl ?_
      refine g8_25 C dX8_foldStatement_89 ?_
      refine k_iload_n C dX8_foldStatement_92 3 rfl ?_
      obtain ⟨hi, hf⟩ := gd_no hf
      refine lm6 C hi dX8_foldStatement_93 ?_
      refine k_icmp_ne C 99 dX8_foldStatement_94 (by decide) (fun hc => ?_) (fun hc => ?_)
      · replace hf := (if_neg hc).symm.trans hf
        refine k_sub [2, 3, 0] (L' := [(0, .ref (ad 0)), (1, .int x1), (3, .int r_4)]) rfl ?_
        exact w8_foldStatement_L99 C K _ _ _ _ _ _ _ _ _ _ _ hf
      · replace hf := (if_pos hc).symm.trans hf
        refine k_iconst (v := (-1 : Int32)) C dX8_foldStatement_97 (by decide) ?_
        cases hf
        exact K _ _ dX8_foldStatement_98 rfl
  replace hf := (if_neg hc).symm.trans hf
  have hn6 := sw_ne hc
  by_cases hc : (mN_nk x1.toNatClampNeg) = (7 : Int32)
  · replace hf := (if_pos hc).symm.trans hf
    refine k_tableIn C 118 dX8_foldStatement_43 (by rw [hx0 _ hc]; decide) (by rw [hx0 _ hc]; decide) (by rw [hx0 _ hc]; rfl) (by decide) ?_
    refine k_aload_n C dX8_foldStatement_118 2 rfl ?_
    refine g8_76 C dX8_foldStatement_119 ?_
    refine k_iload_n C dX8_foldStatement_122 1 rfl ?_
    obtain ⟨hi, hf⟩ := gd_no hf
    refine lm23 C hi dX8_foldStatement_123 ?_
    refine k_bipush (v := (12 : Int32)) C dX8_foldStatement_124 (by decide) ?_
    refine k_icmp_ne C 154 dX8_foldStatement_126 (by decide) (fun hc => ?_) (fun hc => ?_)
    · replace hf := (if_neg hc).symm.trans hf
      refine k_aload_n C dX8_foldStatement_154 2 rfl ?_
      refine k_aload_n C dX8_foldStatement_155 2 rfl ?_
      refine k_bipush (v := (7 : Int32)) C dX8_foldStatement_156 (by decide) ?_
      refine k_iload_n C dX8_foldStatement_158 1 rfl ?_
      refine k_iload_n C dX8_foldStatement_159 0 rfl ?_
      refine k_aload_n C dX8_foldStatement_160 2 rfl ?_
      refine k_aload_n C dX8_foldStatement_161 2 rfl ?_
      refine g8_31 C dX8_foldStatement_162 ?_
      refine k_iload_n C dX8_foldStatement_165 3 rfl ?_
      obtain ⟨hi, hf⟩ := gd_no hf
      refine lm8 C hi dX8_foldStatement_166 ?_
      obtain ⟨r_50, hq_49, hf⟩ := ob_el hf
      refine k_callVi C (c8_of C.2.2.2.2.2.2.2.2.2.1 hq_49) cm8_290 ok8_of (by decide) 0 rfl rfl rfl rfl (Nat.le_of_ble_eq_true rfl) dX8_foldStatement_167 ?_
      obtain ⟨⟨r_52, ⟨mH_ht_53, mH_hK_54, mH_hA_55, mH_hB_56, mH_hC_57, mH_hN_58, mH_h1_59, mH_hT_60, mH_hR_61⟩⟩, hq_51, hf⟩ := ob_el hf
      dsimp only at hf
      refine k_callVi C (c8_number C.2.2.2.2.2.2.2.2.2.1 hq_51) cm8_293 ok8_number (by decide) 0 rfl rfl rfl rfl (Nat.le_of_ble_eq_true rfl) dX8_foldStatement_170 ?_
      obtain ⟨⟨r_63, ⟨mH_ht_64, mH_hK_65, mH_hA_66, mH_hB_67, mH_hC_68, mH_hN_69, mH_h1_70, mH_hT_71, mH_hR_72⟩⟩, hq_62, hf⟩ := ob_el hf
      dsimp only at hf
      refine k_callVi C (c8_single C.2.2.2.2.2.2.2.2.2.1 hq_62) cm8_332 ok8_single (by decide) 0 rfl rfl rfl rfl (Nat.le_of_ble_eq_true rfl) dX8_foldStatement_173 ?_
      cases hf
      exact K _ _ dX8_foldStatement_176 rfl
    · replace hf := (if_pos hc).symm.trans hf
      refine k_aload_n C dX8_foldStatement_129 2 rfl ?_
      refine g8_79 C dX8_foldStatement_130 ?_
      refine k_iload_n C dX8_foldStatement_133 1 rfl ?_
      obtain ⟨hi, hf⟩ := gd_no hf
      refine lm24 C hi dX8_foldStatement_134 ?_
      refine k_iconst (v := (1 : Int32)) C dX8_foldStatement_135 (by decide) ?_
      refine k_icmp_ne C 143 dX8_foldStatement_136 (by decide) (fun hc => ?_) (fun hc => ?_)
      · replace hf := (if_neg hc).symm.trans hf
        refine k_aload_n C dX8_foldStatement_143 2 rfl ?_
        refine k_aload_n C dX8_foldStatement_144 2 rfl ?_
        refine g8_31 C dX8_foldStatement_145 ?_
        refine k_iload_n C dX8_foldStatement_148 3 rfl ?_
        obtain ⟨hi, hf⟩ := gd_no hf
        refine lm8 C hi dX8_foldStatement_149 ?_
        obtain ⟨r_74, hq_73, hf⟩ := ob_el hf
        refine k_callVi C (c8_of C.2.2.2.2.2.2.2.2.2.1 hq_73) cm8_290 ok8_of (by decide) 0 rfl rfl rfl rfl (Nat.le_of_ble_eq_true rfl) dX8_foldStatement_150 ?_
        cases hf
        exact K _ _ dX8_foldStatement_153 rfl
      · replace hf := (if_pos hc).symm.trans hf
        refine k_iload_n C dX8_foldStatement_139 0 rfl ?_
        refine k_goto C 153 dX8_foldStatement_140 (by decide) ?_
        cases hf
        exact K _ _ dX8_foldStatement_153 rfl
  replace hf := (if_neg hc).symm.trans hf
  have hn7 := sw_ne hc
  by_cases hc : (mN_nk x1.toNatClampNeg) = (8 : Int32)
  · replace hf := (if_pos hc).symm.trans hf
    refine k_tableIn C 177 dX8_foldStatement_43 (by rw [hx0 _ hc]; decide) (by rw [hx0 _ hc]; decide) (by rw [hx0 _ hc]; rfl) (by decide) ?_
    refine k_aload_n C dX8_foldStatement_177 2 rfl ?_
    refine k_iload_n C dX8_foldStatement_178 1 rfl ?_
    refine k_iconst (v := (0 : Int32)) C dX8_foldStatement_179 (by decide) ?_
    obtain ⟨r_76, hq_75, hf⟩ := ob_el hf
    refine k_callVi C (c8_isTruth C.2.2.2.2.2.2.2.2.2.1 hq_75) cm8_329 ok8_isTruth (by decide) 0 rfl rfl rfl rfl (Nat.le_of_ble_eq_true rfl) dX8_foldStatement_180 ?_
    refine k_if_eq C 190 dX8_foldStatement_183 (by decide) (fun hc => ?_) (fun hc => ?_)
    · replace hf := (if_pos hc).symm.trans hf
      refine k_aload_n C dX8_foldStatement_190 2 rfl ?_
      refine k_aload_n C dX8_foldStatement_191 2 rfl ?_
      refine k_bipush (v := (8 : Int32)) C dX8_foldStatement_192 (by decide) ?_
      refine k_iload_n C dX8_foldStatement_194 1 rfl ?_
      refine k_iload_n C dX8_foldStatement_195 0 rfl ?_
      refine k_iconst (v := (0 : Int32)) C dX8_foldStatement_196 (by decide) ?_
      obtain ⟨⟨r_78, ⟨mH_ht_79, mH_hK_80, mH_hA_81, mH_hB_82, mH_hC_83, mH_hN_84, mH_h1_85, mH_hT_86, mH_hR_87⟩⟩, hq_77, hf⟩ := ob_el hf
      dsimp only at hf
      refine k_callVi C (c8_number C.2.2.2.2.2.2.2.2.2.1 hq_77) cm8_293 ok8_number (by decide) 0 rfl rfl rfl rfl (Nat.le_of_ble_eq_true rfl) dX8_foldStatement_197 ?_
      obtain ⟨⟨r_89, ⟨mH_ht_90, mH_hK_91, mH_hA_92, mH_hB_93, mH_hC_94, mH_hN_95, mH_h1_96, mH_hT_97, mH_hR_98⟩⟩, hq_88, hf⟩ := ob_el hf
      dsimp only at hf
      refine k_callVi C (c8_single C.2.2.2.2.2.2.2.2.2.1 hq_88) cm8_332 ok8_single (by decide) 0 rfl rfl rfl rfl (Nat.le_of_ble_eq_true rfl) dX8_foldStatement_200 ?_
      cases hf
      exact K _ _ dX8_foldStatement_203 rfl
    · replace hf := (if_neg hc).symm.trans hf
      refine k_iconst (v := (-1 : Int32)) C dX8_foldStatement_186 (by decide) ?_
      refine k_goto C 203 dX8_foldStatement_187 (by decide) ?_
      cases hf
      exact K _ _ dX8_foldStatement_203 rfl
  replace hf := (if_neg hc).symm.trans hf
  have hn8 := sw_ne hc
  by_cases hc : (mN_nk x1.toNatClampNeg) = (9 : Int32)
  · replace hf := (if_pos hc).symm.trans hf
    refine k_tableIn C 204 dX8_foldStatement_43 (by rw [hx0 _ hc]; decide) (by rw [hx0 _ hc]; decide) (by rw [hx0 _ hc]; rfl) (by decide) ?_
    refine k_aload_n C dX8_foldStatement_204 2 rfl ?_
    refine k_iload_n C dX8_foldStatement_205 1 rfl ?_
    refine k_iconst (v := (1 : Int32)) C dX8_foldStatement_206 (by decide) ?_
    obtain ⟨r_100, hq_99, hf⟩ := ob_el hf
    refine k_callVi C (c8_isTruth C.2.2.2.2.2.2.2.2.2.1 hq_99) cm8_329 ok8_isTruth (by decide) 0 rfl rfl rfl rfl (Nat.le_of_ble_eq_true rfl) dX8_foldStatement_207 ?_
    refine k_if_eq C 217 dX8_foldStatement_210 (by decide) (fun hc => ?_) (fun hc => ?_)
    · replace hf := (if_pos hc).symm.trans hf
      refine k_aload_n C dX8_foldStatement_217 2 rfl ?_
      refine k_aload_n C dX8_foldStatement_218 2 rfl ?_
      refine k_bipush (v := (9 : Int32)) C dX8_foldStatement_219 (by decide) ?_
      refine k_iload_n C dX8_foldStatement_221 1 rfl ?_
      refine k_iconst (v := (0 : Int32)) C dX8_foldStatement_222 (by decide) ?_
      refine k_iconst (v := (0 : Int32)) C dX8_foldStatement_223 (by decide) ?_
      obtain ⟨⟨r_102, ⟨mH_ht_103, mH_hK_104, mH_hA_105, mH_hB_106, mH_hC_107, mH_hN_108, mH_h1_109, mH_hT_110, mH_hR_111⟩⟩, hq_101, hf⟩ := ob_el hf
      dsimp only at hf
      refine k_callVi C (c8_number C.2.2.2.2.2.2.2.2.2.1 hq_101) cm8_293 ok8_number (by decide) 0 rfl rfl rfl rfl (Nat.le_of_ble_eq_true rfl) dX8_foldStatement_224 ?_
      obtain ⟨⟨r_113, ⟨mH_ht_114, mH_hK_115, mH_hA_116, mH_hB_117, mH_hC_118, mH_hN_119, mH_h1_120, mH_hT_121, mH_hR_122⟩⟩, hq_112, hf⟩ := ob_el hf
      dsimp only at hf
      refine k_callVi C (c8_single C.2.2.2.2.2.2.2.2.2.1 hq_112) cm8_332 ok8_single (by decide) 0 rfl rfl rfl rfl (Nat.le_of_ble_eq_true rfl) dX8_foldStatement_227 ?_
      cases hf
      exact K _ _ dX8_foldStatement_230 rfl
    · replace hf := (if_neg hc).symm.trans hf
      refine k_iconst (v := (-1 : Int32)) C dX8_foldStatement_213 (by decide) ?_
      refine k_goto C 230 dX8_foldStatement_214 (by decide) ?_
      cases hf
      exact K _ _ dX8_foldStatement_230 rfl
  replace hf := (if_neg hc).symm.trans hf
  have hn9 := sw_ne hc
  have kd_123 : WC V p l e R s m args below meth c Q A kc ks 4 (wM V ad mT (mQ_qc, mQ_qb, mQ_qp, mQ_qr, mQ_qC) mK (mN_nn, mN_nk, mN_na, mN_nb, mN_nc, mN_ns) mP mL (mH_ht, mH_hK, mH_hA, mH_hB, mH_hC, mH_hN, mH_h1, mH_hT, mH_hR) mR mG) 231 [(3, .int r_4), (2, .int y0), (0, .ref (ad 0)), (1, .int x1)] [] := by
    refine k_aload_n C dX8_foldStatement_231 2 rfl ?_
    refine k_aload_n C dX8_foldStatement_232 2 rfl ?_
    refine k_bipush (v := (10 : Int32)) C dX8_foldStatement_233 (by decide) ?_
    refine k_iload_n C dX8_foldStatement_235 1 rfl ?_
    refine k_iconst (v := (0 : Int32)) C dX8_foldStatement_236 (by decide) ?_
    refine k_iconst (v := (0 : Int32)) C dX8_foldStatement_237 (by decide) ?_
    obtain ⟨⟨r_6, ⟨mH_ht_7, mH_hK_8, mH_hA_9, mH_hB_10, mH_hC_11, mH_hN_12, mH_h1_13, mH_hT_14, mH_hR_15⟩⟩, hq_5, hf⟩ := ob_el hf
    dsimp only at hf
    refine k_callVi C (c8_number C.2.2.2.2.2.2.2.2.2.1 hq_5) cm8_293 ok8_number (by decide) 0 rfl rfl rfl rfl (Nat.le_of_ble_eq_true rfl) dX8_foldStatement_238 ?_
    obtain ⟨⟨r_17, ⟨mH_ht_18, mH_hK_19, mH_hA_20, mH_hB_21, mH_hC_22, mH_hN_23, mH_h1_24, mH_hT_25, mH_hR_26⟩⟩, hq_16, hf⟩ := ob_el hf
    dsimp only at hf
    refine k_callVi C (c8_single C.2.2.2.2.2.2.2.2.2.1 hq_16) cm8_332 ok8_single (by decide) 0 rfl rfl rfl rfl (Nat.le_of_ble_eq_true rfl) dX8_foldStatement_241 ?_
    cases hf
    exact K _ _ dX8_foldStatement_244 rfl
  have hr : (mN_nk x1.toNatClampNeg).toInt < 6 ∨ 9 < (mN_nk x1.toNatClampNeg).toInt := by
    have q6 : ¬ (mN_nk x1.toNatClampNeg).toInt = 6 := hn6 6 (by decide)
    have q7 : ¬ (mN_nk x1.toNatClampNeg).toInt = 7 := hn7 7 (by decide)
    have q8 : ¬ (mN_nk x1.toNatClampNeg).toInt = 8 := hn8 8 (by decide)
    have q9 : ¬ (mN_nk x1.toNatClampNeg).toInt = 9 := hn9 9 (by decide)
    omega
  rcases hr with hr | hr
  · exact k_tableOut C 231 dX8_foldStatement_43 (Or.inl hr) (by decide) kd_123
  · exact k_tableOut C 231 dX8_foldStatement_43 (Or.inr hr) (by decide) kd_123
set_option maxHeartbeats 4000000 in
set_option maxRecDepth 100000 in
theorem b8_foldStatement {V : EV} {p : Program} {l : Launch} {e : Env} {R : Room} {s : State} {m : MethodId} {args : Array Value} {below : List Frame} {meth : Method} {c : Code} {Q : State → Prop} {A : Nat → Prop} {kc ks : Nat} {ad : Nat → Nat} {mT : MdT} {mK : MdK} {mP : MdP} {mL : MdL} {mR : MdR} {mG : MdG} {mQ_qc : Int32} {mQ_qb : Int32} {mQ_qp : Int32} {mQ_qr : Int32} {mQ_qC : Int32} {mN_nn : Int32} {mN_nk : Nat → Int32} {mN_na : Nat → Int32} {mN_nb : Nat → Int32} {mN_nc : Nat → Int32} {mN_ns : Nat → Int32} {v1 : Int32} {mH_ht : Int32} {mH_hK : Nat → Int32} {mH_hA : Nat → Int32} {mH_hB : Nat → Int32} {mH_hC : Nat → Int32} {mH_hN : Nat → Int32} {mH_h1 : Nat → Int32} {mH_hT : Nat → Int32} {mH_hR : Nat → Int32} {N : Nat} {res : Int32 × MdH} (C : CX V p l R s m args c A kc ks RX8 cX8_foldStatement 4 2 47) (hf : f8_foldStatement N v1 (mQ_qc, mQ_qb, mQ_qp, mQ_qr, mQ_qC) (mN_nn, mN_nk, mN_na, mN_nb, mN_nc, mN_ns) (mH_ht, mH_hK, mH_hA, mH_hB, mH_hC, mH_hN, mH_h1, mH_hT, mH_hR) = some res) (K : RI V p l e R s m args below meth c Q A kc ks 4 cX8_foldStatement .int res.1 (wM V ad mT (mQ_qc, mQ_qb, mQ_qp, mQ_qr, mQ_qC) mK (mN_nn, mN_nk, mN_na, mN_nb, mN_nc, mN_ns) mP mL res.2 mR mG)) : WC V p l e R s m args below meth c Q A kc ks 4 (wM V ad mT (mQ_qc, mQ_qb, mQ_qp, mQ_qr, mQ_qC) mK (mN_nn, mN_nk, mN_na, mN_nb, mN_nc, mN_ns) mP mL (mH_ht, mH_hK, mH_hA, mH_hB, mH_hC, mH_hN, mH_h1, mH_hT, mH_hR) mR mG) 0 [(0, .ref (ad 0)), (1, .int v1)] [] := by
  rw [f8_foldStatement] at hf
  refine k_aload_n C dX8_foldStatement_0 0 rfl ?_
  refine g8_22 C dX8_foldStatement_1 ?_
  refine k_iload_n C dX8_foldStatement_4 1 rfl ?_
  obtain ⟨hi, hf⟩ := gd_no hf
  refine lm5 C hi dX8_foldStatement_5 ?_
  refine k_bipush (v := (6 : Int32)) C dX8_foldStatement_6 (by decide) ?_
  refine k_icmp_ne C 15 dX8_foldStatement_8 (by decide) (fun hc => ?_) (fun hc => ?_)
  · replace hf := (if_neg hc).symm.trans hf
    refine k_aload_n C dX8_foldStatement_15 0 rfl ?_
    refine k_aload_n C dX8_foldStatement_16 0 rfl ?_
    refine g8_25 C dX8_foldStatement_17 ?_
    refine k_iload_n C dX8_foldStatement_20 1 rfl ?_
    obtain ⟨hi, hf⟩ := gd_no hf
    refine lm6 C hi dX8_foldStatement_21 ?_
    obtain ⟨r_2, hq_1, hf⟩ := ob_el hf
    refine k_callVi C (c8_of C.2.2.2.2.2.2.2.2.2.1 hq_1) cm8_290 ok8_of (by decide) 0 rfl rfl rfl rfl (Nat.le_of_ble_eq_true rfl) dX8_foldStatement_22 ?_
    exact w8_foldStatement_L25 C K _ _ _ _ _ _ _ _ _ _ _ hf
  · replace hf := (if_pos hc).symm.trans hf
    refine k_iconst (v := (-1 : Int32)) C dX8_foldStatement_11 (by decide) ?_
    refine k_goto C 25 dX8_foldStatement_12 (by decide) ?_
    exact w8_foldStatement_L25 C K _ _ _ _ _ _ _ _ _ _ _ hf
theorem c8_foldStatement {V : EV} {l : Launch} (hl0 : l.stackTraces = false) {ad : Nat → Nat} {mT : MdT} {mK : MdK} {mP : MdP} {mL : MdL} {mR : MdR} {mG : MdG} {mQ_qc : Int32} {mQ_qb : Int32} {mQ_qp : Int32} {mQ_qr : Int32} {mQ_qC : Int32} {mN_nn : Int32} {mN_nk : Nat → Int32} {mN_na : Nat → Int32} {mN_nb : Nat → Int32} {mN_nc : Nat → Int32} {mN_ns : Nat → Int32} {v1 : Int32} {mH_ht : Int32} {mH_hK : Nat → Int32} {mH_hA : Nat → Int32} {mH_hB : Nat → Int32} {mH_hC : Nat → Int32} {mH_hN : Nat → Int32} {mH_h1 : Nat → Int32} {mH_hT : Nat → Int32} {mH_hR : Nat → Int32} {N : Nat} {res : Int32 × MdH} (hf : f8_foldStatement N v1 (mQ_qc, mQ_qb, mQ_qp, mQ_qr, mQ_qC) (mN_nn, mN_nk, mN_na, mN_nb, mN_nc, mN_ns) (mH_ht, mH_hK, mH_hA, mH_hB, mH_hC, mH_hN, mH_h1, mH_hT, mH_hR) = some res) : MI V l yX8_foldStatement cX8_foldStatement 4 .int 2 47 [.ref (ad 0), .int v1] (wM V ad mT (mQ_qc, mQ_qb, mQ_qp, mQ_qr, mQ_qC) mK (mN_nn, mN_nk, mN_na, mN_nb, mN_nc, mN_ns) mP mL (mH_ht, mH_hK, mH_hA, mH_hB, mH_hC, mH_hN, mH_h1, mH_hT, mH_hR) mR mG) res.1 (wM V ad mT (mQ_qc, mQ_qb, mQ_qp, mQ_qr, mQ_qC) mK (mN_nn, mN_nk, mN_na, mN_nb, mN_nc, mN_ns) mP mL res.2 mR mG) :=
  mi_of hl0 (by decide +kernel) (Nat.le_of_ble_eq_true rfl) (fun p e R s m args below meth c Q A C K => b8_foldStatement C hf K)

theorem cm8_297 : ∀ a ∈ wsCV RX8 297 RX8 yX8_foldSum cX8_foldSum 4 (some .int), a ∈ GW := by
  unfold wsCV
  exact (List.forall_mem_cons.mpr ⟨(gw_6 (i := 92) (by decide +kernel) rfl), (List.forall_mem_cons.mpr ⟨(gw_6 (i := 94) (by decide +kernel) rfl), (List.forall_mem_cons.mpr ⟨(gw_p (q := ((yX8_foldSum, 63) : MethodName × Nat)) (List.mem_append_right _ (List.mem_append_right _ (List.mem_append_right _ (List.mem_append_right _ (List.mem_append_right _ (List.mem_append_left _ (List.mem_of_getElem? (i := 11) (by decide +kernel)))))))) rfl), (List.forall_mem_cons.mpr ⟨(gw_1 (i := 9) (by decide +kernel) rfl), (List.forall_mem_cons.mpr ⟨(gw_6 (i := 95) (by decide +kernel) rfl), (List.forall_mem_nil _)⟩)⟩)⟩)⟩)⟩)
theorem cm8_300 : ∀ a ∈ wsCV RX8 300 RX8 yX8_foldComparison cX8_foldComparison 4 (some .int), a ∈ GW := by
  unfold wsCV
  exact (List.forall_mem_cons.mpr ⟨(gw_6 (i := 106) (by decide +kernel) rfl), (List.forall_mem_cons.mpr ⟨(gw_6 (i := 108) (by decide +kernel) rfl), (List.forall_mem_cons.mpr ⟨(gw_p (q := ((yX8_foldComparison, 63) : MethodName × Nat)) (List.mem_append_right _ (List.mem_append_right _ (List.mem_append_right _ (List.mem_append_right _ (List.mem_append_right _ (List.mem_append_left _ (List.mem_of_getElem? (i := 13) (by decide +kernel)))))))) rfl), (List.forall_mem_cons.mpr ⟨(gw_1 (i := 9) (by decide +kernel) rfl), (List.forall_mem_cons.mpr ⟨(gw_6 (i := 109) (by decide +kernel) rfl), (List.forall_mem_nil _)⟩)⟩)⟩)⟩)⟩)
theorem cm8_303 : ∀ a ∈ wsCV RX8 303 RX8 yX8_foldBoth cX8_foldBoth 5 (some .int), a ∈ GW := by
  unfold wsCV
  exact (List.forall_mem_cons.mpr ⟨(gw_6 (i := 117) (by decide +kernel) rfl), (List.forall_mem_cons.mpr ⟨(gw_6 (i := 119) (by decide +kernel) rfl), (List.forall_mem_cons.mpr ⟨(gw_p (q := ((yX8_foldBoth, 63) : MethodName × Nat)) (List.mem_append_right _ (List.mem_append_right _ (List.mem_append_right _ (List.mem_append_right _ (List.mem_append_right _ (List.mem_append_left _ (List.mem_of_getElem? (i := 15) (by decide +kernel)))))))) rfl), (List.forall_mem_cons.mpr ⟨(gw_1 (i := 9) (by decide +kernel) rfl), (List.forall_mem_cons.mpr ⟨(gw_6 (i := 120) (by decide +kernel) rfl), (List.forall_mem_nil _)⟩)⟩)⟩)⟩)⟩)
theorem cm8_306 : ∀ a ∈ wsCV RX8 306 RX8 yX8_join cX8_join 6 (some .int), a ∈ GW := by
  unfold wsCV
  exact (List.forall_mem_cons.mpr ⟨(gw_6 (i := 125) (by decide +kernel) rfl), (List.forall_mem_cons.mpr ⟨(gw_6 (i := 127) (by decide +kernel) rfl), (List.forall_mem_cons.mpr ⟨(gw_p (q := ((yX8_join, 63) : MethodName × Nat)) (List.mem_append_right _ (List.mem_append_right _ (List.mem_append_right _ (List.mem_append_right _ (List.mem_append_right _ (List.mem_append_right _ (List.mem_of_getElem? (i := 1) (by decide +kernel)))))))) rfl), (List.forall_mem_cons.mpr ⟨(gw_1 (i := 9) (by decide +kernel) rfl), (List.forall_mem_cons.mpr ⟨(gw_6 (i := 128) (by decide +kernel) rfl), (List.forall_mem_nil _)⟩)⟩)⟩)⟩)⟩)
theorem cm8_309 : ∀ a ∈ wsCV RX8 309 RX8 yX8_foldStatement cX8_foldStatement 4 (some .int), a ∈ GW := by
  unfold wsCV
  exact (List.forall_mem_cons.mpr ⟨(gw_6 (i := 129) (by decide +kernel) rfl), (List.forall_mem_cons.mpr ⟨(gw_6 (i := 131) (by decide +kernel) rfl), (List.forall_mem_cons.mpr ⟨(gw_p (q := ((yX8_foldStatement, 63) : MethodName × Nat)) (List.mem_append_right _ (List.mem_append_right _ (List.mem_append_right _ (List.mem_append_right _ (List.mem_append_right _ (List.mem_append_right _ (List.mem_of_getElem? (i := 2) (by decide +kernel)))))))) rfl), (List.forall_mem_cons.mpr ⟨(gw_1 (i := 9) (by decide +kernel) rfl), (List.forall_mem_cons.mpr ⟨(gw_6 (i := 132) (by decide +kernel) rfl), (List.forall_mem_nil _)⟩)⟩)⟩)⟩)⟩)
theorem ok8_foldNode : okCV RX8 yX8_foldNode 3 := by unfold okCV; decide +kernel
def f8_foldNode (N : Nat) (v1 : Int32) (v2 : Int32) (v3 : Int32) : MdQ → MdN → MdH → Option (Int32 × MdH)
  | (mQ_qc, mQ_qb, mQ_qp, mQ_qr, mQ_qC), (mN_nn, mN_nk, mN_na, mN_nb, mN_nc, mN_ns), (mH_ht, mH_hK, mH_hA, mH_hB, mH_hC, mH_hN, mH_h1, mH_hT, mH_hR) =>
    if v1 < 0 ∨ 512 ≤ v1.toNatClampNeg then none else if (mN_nk v1.toNatClampNeg) = (0 : Int32) then (f8_number N (0 : Int32) v3 (0 : Int32) (0 : Int32) (mH_ht, mH_hK, mH_hA, mH_hB, mH_hC, mH_hN, mH_h1, mH_hT, mH_hR)).bind fun (r_13, (mH_ht_14, mH_hK_15, mH_hA_16, mH_hB_17, mH_hC_18, mH_hN_19, mH_h1_20, mH_hT_21, mH_hR_22)) => some (r_13, (mH_ht_14, mH_hK_15, mH_hA_16, mH_hB_17, mH_hC_18, mH_hN_19, mH_h1_20, mH_hT_21, mH_hR_22)) else if (mN_nk v1.toNatClampNeg) = (1 : Int32) then if v1 < 0 ∨ 512 ≤ v1.toNatClampNeg then none else (f8_number N (1 : Int32) (mN_na v1.toNatClampNeg) (0 : Int32) (0 : Int32) (mH_ht, mH_hK, mH_hA, mH_hB, mH_hC, mH_hN, mH_h1, mH_hT, mH_hR)).bind fun (r_24, (mH_ht_25, mH_hK_26, mH_hA_27, mH_hB_28, mH_hC_29, mH_hN_30, mH_h1_31, mH_hT_32, mH_hR_33)) => some (r_24, (mH_ht_25, mH_hK_26, mH_hA_27, mH_hB_28, mH_hC_29, mH_hN_30, mH_h1_31, mH_hT_32, mH_hR_33)) else if (mN_nk v1.toNatClampNeg) = (2 : Int32) then if v1 < 0 ∨ 512 ≤ v1.toNatClampNeg then none else (f8_number N (2 : Int32) (mN_na v1.toNatClampNeg) (0 : Int32) (0 : Int32) (mH_ht, mH_hK, mH_hA, mH_hB, mH_hC, mH_hN, mH_h1, mH_hT, mH_hR)).bind fun (r_35, (mH_ht_36, mH_hK_37, mH_hA_38, mH_hB_39, mH_hC_40, mH_hN_41, mH_h1_42, mH_hT_43, mH_hR_44)) => some (r_35, (mH_ht_36, mH_hK_37, mH_hA_38, mH_hB_39, mH_hC_40, mH_hN_41, mH_h1_42, mH_hT_43, mH_hR_44)) else if (mN_nk v1.toNatClampNeg) = (3 : Int32) then if v1 < 0 ∨ 512 ≤ v1.toNatClampNeg then none else (f8_of (mN_nb v1.toNatClampNeg) (mQ_qc, mQ_qb, mQ_qp, mQ_qr, mQ_qC) (mH_ht, mH_hK, mH_hA, mH_hB, mH_hC, mH_hN, mH_h1, mH_hT, mH_hR)).bind fun r_46 => if v1 < 0 ∨ 512 ≤ v1.toNatClampNeg then none else (f8_of (mN_nc v1.toNatClampNeg) (mQ_qc, mQ_qb, mQ_qp, mQ_qr, mQ_qC) (mH_ht, mH_hK, mH_hA, mH_hB, mH_hC, mH_hN, mH_h1, mH_hT, mH_hR)).bind fun r_48 => (f8_foldSum N v3 r_46 r_48 (mH_ht, mH_hK, mH_hA, mH_hB, mH_hC, mH_hN, mH_h1, mH_hT, mH_hR)).bind fun (r_50, (mH_ht_51, mH_hK_52, mH_hA_53, mH_hB_54, mH_hC_55, mH_hN_56, mH_h1_57, mH_hT_58, mH_hR_59)) => some (r_50, (mH_ht_51, mH_hK_52, mH_hA_53, mH_hB_54, mH_hC_55, mH_hN_56, mH_h1_57, mH_hT_58, mH_hR_59)) else if (mN_nk v1.toNatClampNeg) = (4 : Int32) then if v1 < 0 ∨ 512 ≤ v1.toNatClampNeg then none else (f8_of (mN_nb v1.toNatClampNeg) (mQ_qc, mQ_qb, mQ_qp, mQ_qr, mQ_qC) (mH_ht, mH_hK, mH_hA, mH_hB, mH_hC, mH_hN, mH_h1, mH_hT, mH_hR)).bind fun r_61 => if v1 < 0 ∨ 512 ≤ v1.toNatClampNeg then none else (f8_of (mN_nc v1.toNatClampNeg) (mQ_qc, mQ_qb, mQ_qp, mQ_qr, mQ_qC) (mH_ht, mH_hK, mH_hA, mH_hB, mH_hC, mH_hN, mH_h1, mH_hT, mH_hR)).bind fun r_63 => (f8_foldComparison N v3 r_61 r_63 (mH_ht, mH_hK, mH_hA, mH_hB, mH_hC, mH_hN, mH_h1, mH_hT, mH_hR)).bind fun (r_65, (mH_ht_66, mH_hK_67, mH_hA_68, mH_hB_69, mH_hC_70, mH_hN_71, mH_h1_72, mH_hT_73, mH_hR_74)) => some (r_65, (mH_ht_66, mH_hK_67, mH_hA_68, mH_hB_69, mH_hC_70, mH_hN_71, mH_h1_72, mH_hT_73, mH_hR_74)) else if (mN_nk v1.toNatClampNeg) = (5 : Int32) then if v1 < 0 ∨ 512 ≤ v1.toNatClampNeg then none else (f8_of (mN_nb v1.toNatClampNeg) (mQ_qc, mQ_qb, mQ_qp, mQ_qr, mQ_qC) (mH_ht, mH_hK, mH_hA, mH_hB, mH_hC, mH_hN, mH_h1, mH_hT, mH_hR)).bind fun r_76 => if v1 < 0 ∨ 512 ≤ v1.toNatClampNeg then none else (f8_of (mN_nc v1.toNatClampNeg) (mQ_qc, mQ_qb, mQ_qp, mQ_qr, mQ_qC) (mH_ht, mH_hK, mH_hA, mH_hB, mH_hC, mH_hN, mH_h1, mH_hT, mH_hR)).bind fun r_78 => (f8_foldBoth N v3 r_76 r_78 (mH_ht, mH_hK, mH_hA, mH_hB, mH_hC, mH_hN, mH_h1, mH_hT, mH_hR)).bind fun (r_80, (mH_ht_81, mH_hK_82, mH_hA_83, mH_hB_84, mH_hC_85, mH_hN_86, mH_h1_87, mH_hT_88, mH_hR_89)) => some (r_80, (mH_ht_81, mH_hK_82, mH_hA_83, mH_hB_84, mH_hC_85, mH_hN_86, mH_h1_87, mH_hT_88, mH_hR_89)) else if (mN_nk v1.toNatClampNeg) = (11 : Int32) then if v1 < 0 ∨ 512 ≤ v1.toNatClampNeg then none else (f8_of (mN_na v1.toNatClampNeg) (mQ_qc, mQ_qb, mQ_qp, mQ_qr, mQ_qC) (mH_ht, mH_hK, mH_hA, mH_hB, mH_hC, mH_hN, mH_h1, mH_hT, mH_hR)).bind fun r_91 => if v1 < 0 ∨ 512 ≤ v1.toNatClampNeg then none else (f8_of (mN_nb v1.toNatClampNeg) (mQ_qc, mQ_qb, mQ_qp, mQ_qr, mQ_qC) (mH_ht, mH_hK, mH_hA, mH_hB, mH_hC, mH_hN, mH_h1, mH_hT, mH_hR)).bind fun r_93 => (f8_join N r_91 r_93 (mH_ht, mH_hK, mH_hA, mH_hB, mH_hC, mH_hN, mH_h1, mH_hT, mH_hR)).bind fun (r_95, (mH_ht_96, mH_hK_97, mH_hA_98, mH_hB_99, mH_hC_100, mH_hN_101, mH_h1_102, mH_hT_103, mH_hR_104)) => some (r_95, (mH_ht_96, mH_hK_97, mH_hA_98, mH_hB_99, mH_hC_100, mH_hN_101, mH_h1_102, mH_hT_103, mH_hR_104)) else if v2 = 0 then (f8_foldStatement N v1 (mQ_qc, mQ_qb, mQ_qp, mQ_qr, mQ_qC) (mN_nn, mN_nk, mN_na, mN_nb, mN_nc, mN_ns) (mH_ht, mH_hK, mH_hA, mH_hB, mH_hC, mH_hN, mH_h1, mH_hT, mH_hR)).bind fun (r_2, (mH_ht_3, mH_hK_4, mH_hA_5, mH_hB_6, mH_hC_7, mH_hN_8, mH_h1_9, mH_hT_10, mH_hR_11)) => some (r_2, (mH_ht_3, mH_hK_4, mH_hA_5, mH_hB_6, mH_hC_7, mH_hN_8, mH_h1_9, mH_hT_10, mH_hR_11)) else some ((-1 : Int32), (mH_ht, mH_hK, mH_hA, mH_hB, mH_hC, mH_hN, mH_h1, mH_hT, mH_hR))
set_option maxHeartbeats 4000000 in
set_option maxRecDepth 100000 in
theorem b8_foldNode {V : EV} {p : Program} {l : Launch} {e : Env} {R : Room} {s : State} {m : MethodId} {args : Array Value} {below : List Frame} {meth : Method} {c : Code} {Q : State → Prop} {A : Nat → Prop} {kc ks : Nat} {ad : Nat → Nat} {mT : MdT} {mK : MdK} {mP : MdP} {mL : MdL} {mR : MdR} {mG : MdG} {mQ_qc : Int32} {mQ_qb : Int32} {mQ_qp : Int32} {mQ_qr : Int32} {mQ_qC : Int32} {mN_nn : Int32} {mN_nk : Nat → Int32} {mN_na : Nat → Int32} {mN_nb : Nat → Int32} {mN_nc : Nat → Int32} {mN_ns : Nat → Int32} {v1 : Int32} {v2 : Int32} {v3 : Int32} {mH_ht : Int32} {mH_hK : Nat → Int32} {mH_hA : Nat → Int32} {mH_hB : Nat → Int32} {mH_hC : Nat → Int32} {mH_hN : Nat → Int32} {mH_h1 : Nat → Int32} {mH_hT : Nat → Int32} {mH_hR : Nat → Int32} {N : Nat} {res : Int32 × MdH} (C : CX V p l R s m args c A kc ks RX8 cX8_foldNode 4 3 70) (hf : f8_foldNode N v1 v2 v3 (mQ_qc, mQ_qb, mQ_qp, mQ_qr, mQ_qC) (mN_nn, mN_nk, mN_na, mN_nb, mN_nc, mN_ns) (mH_ht, mH_hK, mH_hA, mH_hB, mH_hC, mH_hN, mH_h1, mH_hT, mH_hR) = some res) (K : RI V p l e R s m args below meth c Q A kc ks 4 cX8_foldNode .int res.1 (wM V ad mT (mQ_qc, mQ_qb, mQ_qp, mQ_qr, mQ_qC) mK (mN_nn, mN_nk, mN_na, mN_nb, mN_nc, mN_ns) mP mL res.2 mR mG)) : WC V p l e R s m args below meth c Q A kc ks 4 (wM V ad mT (mQ_qc, mQ_qb, mQ_qp, mQ_qr, mQ_qC) mK (mN_nn, mN_nk, mN_na, mN_nb, mN_nc, mN_ns) mP mL (mH_ht, mH_hK, mH_hA, mH_hB, mH_hC, mH_hN, mH_h1, mH_hT, mH_hR) mR mG) 0 [(0, .ref (ad 0)), (1, .int v1), (2, .int v2), (3, .int v3)] [] := by
  rw [f8_foldNode] at hf
  refine k_aload_n C dX8_foldNode_0 0 rfl ?_
  refine g8_22 C dX8_foldNode_1 ?_
  refine k_iload_n C dX8_foldNode_4 1 rfl ?_
  obtain ⟨hi, hf⟩ := gd_no hf
  refine lm5 C hi dX8_foldNode_5 ?_
  have hx0 : ∀ n : Int32, (mN_nk v1.toNatClampNeg) = n → (mN_nk v1.toNatClampNeg).toInt = n.toInt := fun n h => by rw [h]
  by_cases hc : (mN_nk v1.toNatClampNeg) = (0 : Int32)
  · replace hf := (if_pos hc).symm.trans hf
    refine k_tableIn C 68 dX8_foldNode_6 (by rw [hx0 _ hc]; decide) (by rw [hx0 _ hc]; decide) (by rw [hx0 _ hc]; rfl) (by decide) ?_
    refine k_aload_n C dX8_foldNode_68 0 rfl ?_
    refine k_iconst (v := (0 : Int32)) C dX8_foldNode_69 (by decide) ?_
    refine k_iload_n C dX8_foldNode_70 3 rfl ?_
    refine k_iconst (v := (0 : Int32)) C dX8_foldNode_71 (by decide) ?_
    refine k_iconst (v := (0 : Int32)) C dX8_foldNode_72 (by decide) ?_
    obtain ⟨⟨r_13, ⟨mH_ht_14, mH_hK_15, mH_hA_16, mH_hB_17, mH_hC_18, mH_hN_19, mH_h1_20, mH_hT_21, mH_hR_22⟩⟩, hq_12, hf⟩ := ob_el hf
    dsimp only at hf
    refine k_callVi C (c8_number C.2.2.2.2.2.2.2.2.2.1 hq_12) cm8_293 ok8_number (by decide) 0 rfl rfl rfl rfl (Nat.le_of_ble_eq_true rfl) dX8_foldNode_73 ?_
    cases hf
    exact K _ _ dX8_foldNode_76 rfl
  replace hf := (if_neg hc).symm.trans hf
  have hn0 := sw_ne hc
  by_cases hc : (mN_nk v1.toNatClampNeg) = (1 : Int32)
  · replace hf := (if_pos hc).symm.trans hf
    refine k_tableIn C 77 dX8_foldNode_6 (by rw [hx0 _ hc]; decide) (by rw [hx0 _ hc]; decide) (by rw [hx0 _ hc]; rfl) (by decide) ?_
    refine k_aload_n C dX8_foldNode_77 0 rfl ?_
    refine k_iconst (v := (1 : Int32)) C dX8_foldNode_78 (by decide) ?_
    refine k_aload_n C dX8_foldNode_79 0 rfl ?_
    refine g8_25 C dX8_foldNode_80 ?_
    refine k_iload_n C dX8_foldNode_83 1 rfl ?_
    obtain ⟨hi, hf⟩ := gd_no hf
    refine lm6 C hi dX8_foldNode_84 ?_
    refine k_iconst (v := (0 : Int32)) C dX8_foldNode_85 (by decide) ?_
    refine k_iconst (v := (0 : Int32)) C dX8_foldNode_86 (by decide) ?_
    obtain ⟨⟨r_24, ⟨mH_ht_25, mH_hK_26, mH_hA_27, mH_hB_28, mH_hC_29, mH_hN_30, mH_h1_31, mH_hT_32, mH_hR_33⟩⟩, hq_23, hf⟩ := ob_el hf
    dsimp only at hf
    refine k_callVi C (c8_number C.2.2.2.2.2.2.2.2.2.1 hq_23) cm8_293 ok8_number (by decide) 0 rfl rfl rfl rfl (Nat.le_of_ble_eq_true rfl) dX8_foldNode_87 ?_
    cases hf
    exact K _ _ dX8_foldNode_90 rfl
  replace hf := (if_neg hc).symm.trans hf
  have hn1 := sw_ne hc
  by_cases hc : (mN_nk v1.toNatClampNeg) = (2 : Int32)
  · replace hf := (if_pos hc).symm.trans hf
    refine k_tableIn C 91 dX8_foldNode_6 (by rw [hx0 _ hc]; decide) (by rw [hx0 _ hc]; decide) (by rw [hx0 _ hc]; rfl) (by decide) ?_
    refine k_aload_n C dX8_foldNode_91 0 rfl ?_
    refine k_iconst (v := (2 : Int32)) C dX8_foldNode_92 (by decide) ?_
    refine k_aload_n C dX8_foldNode_93 0 rfl ?_
    refine g8_25 C dX8_foldNode_94 ?_
    refine k_iload_n C dX8_foldNode_97 1 rfl ?_
    obtain ⟨hi, hf⟩ := gd_no hf
    refine lm6 C hi dX8_foldNode_98 ?_
    refine k_iconst (v := (0 : Int32)) C dX8_foldNode_99 (by decide) ?_
    refine k_iconst (v := (0 : Int32)) C dX8_foldNode_100 (by decide) ?_
    obtain ⟨⟨r_35, ⟨mH_ht_36, mH_hK_37, mH_hA_38, mH_hB_39, mH_hC_40, mH_hN_41, mH_h1_42, mH_hT_43, mH_hR_44⟩⟩, hq_34, hf⟩ := ob_el hf
    dsimp only at hf
    refine k_callVi C (c8_number C.2.2.2.2.2.2.2.2.2.1 hq_34) cm8_293 ok8_number (by decide) 0 rfl rfl rfl rfl (Nat.le_of_ble_eq_true rfl) dX8_foldNode_101 ?_
    cases hf
    exact K _ _ dX8_foldNode_104 rfl
  replace hf := (if_neg hc).symm.trans hf
  have hn2 := sw_ne hc
  by_cases hc : (mN_nk v1.toNatClampNeg) = (3 : Int32)
  · replace hf := (if_pos hc).symm.trans hf
    refine k_tableIn C 105 dX8_foldNode_6 (by rw [hx0 _ hc]; decide) (by rw [hx0 _ hc]; decide) (by rw [hx0 _ hc]; rfl) (by decide) ?_
    refine k_aload_n C dX8_foldNode_105 0 rfl ?_
    refine k_iload_n C dX8_foldNode_106 3 rfl ?_
    refine k_aload_n C dX8_foldNode_107 0 rfl ?_
    refine k_aload_n C dX8_foldNode_108 0 rfl ?_
    refine g8_28 C dX8_foldNode_109 ?_
    refine k_iload_n C dX8_foldNode_112 1 rfl ?_
    obtain ⟨hi, hf⟩ := gd_no hf
    refine lm7 C hi dX8_foldNode_113 ?_
    obtain ⟨r_46, hq_45, hf⟩ := ob_el hf
    refine k_callVi C (c8_of C.2.2.2.2.2.2.2.2.2.1 hq_45) cm8_290 ok8_of (by decide) 0 rfl rfl rfl rfl (Nat.le_of_ble_eq_true rfl) dX8_foldNode_114 ?_
    refine k_aload_n C dX8_foldNode_117 0 rfl ?_
    refine k_aload_n C dX8_foldNode_118 0 rfl ?_
    refine g8_31 C dX8_foldNode_119 ?_
    refine k_iload_n C dX8_foldNode_122 1 rfl ?_
    obtain ⟨hi, hf⟩ := gd_no hf
    refine lm8 C hi dX8_foldNode_123 ?_
    obtain ⟨r_48, hq_47, hf⟩ := ob_el hf
    refine k_callVi C (c8_of C.2.2.2.2.2.2.2.2.2.1 hq_47) cm8_290 ok8_of (by decide) 0 rfl rfl rfl rfl (Nat.le_of_ble_eq_true rfl) dX8_foldNode_124 ?_
    obtain ⟨⟨r_50, ⟨mH_ht_51, mH_hK_52, mH_hA_53, mH_hB_54, mH_hC_55, mH_hN_56, mH_h1_57, mH_hT_58, mH_hR_59⟩⟩, hq_49, hf⟩ := ob_el hf
    dsimp only at hf
    refine k_callVi C (c8_foldSum C.2.2.2.2.2.2.2.2.2.1 hq_49) cm8_297 ok8_foldSum (by decide) 0 rfl rfl rfl rfl (Nat.le_of_ble_eq_true rfl) dX8_foldNode_127 ?_
    cases hf
    exact K _ _ dX8_foldNode_130 rfl
  replace hf := (if_neg hc).symm.trans hf
  have hn3 := sw_ne hc
  by_cases hc : (mN_nk v1.toNatClampNeg) = (4 : Int32)
  · replace hf := (if_pos hc).symm.trans hf
    refine k_tableIn C 131 dX8_foldNode_6 (by rw [hx0 _ hc]; decide) (by rw [hx0 _ hc]; decide) (by rw [hx0 _ hc]; rfl) (by decide) ?_
    refine k_aload_n C dX8_foldNode_131 0 rfl ?_
    refine k_iload_n C dX8_foldNode_132 3 rfl ?_
    refine k_aload_n C dX8_foldNode_133 0 rfl ?_
    refine k_aload_n C dX8_foldNode_134 0 rfl ?_
    refine g8_28 C dX8_foldNode_135 ?_
    refine k_iload_n C dX8_foldNode_138 1 rfl ?_
    obtain ⟨hi, hf⟩ := gd_no hf
    refine lm7 C hi dX8_foldNode_139 ?_
    obtain ⟨r_61, hq_60, hf⟩ := ob_el hf
    refine k_callVi C (c8_of C.2.2.2.2.2.2.2.2.2.1 hq_60) cm8_290 ok8_of (by decide) 0 rfl rfl rfl rfl (Nat.le_of_ble_eq_true rfl) dX8_foldNode_140 ?_
    refine k_aload_n C dX8_foldNode_143 0 rfl ?_
    refine k_aload_n C dX8_foldNode_144 0 rfl ?_
    refine g8_31 C dX8_foldNode_145 ?_
    refine k_iload_n C dX8_foldNode_148 1 rfl ?_
    obtain ⟨hi, hf⟩ := gd_no hf
    refine lm8 C hi dX8_foldNode_149 ?_
    obtain ⟨r_63, hq_62, hf⟩ := ob_el hf
    refine k_callVi C (c8_of C.2.2.2.2.2.2.2.2.2.1 hq_62) cm8_290 ok8_of (by decide) 0 rfl rfl rfl rfl (Nat.le_of_ble_eq_true rfl) dX8_foldNode_150 ?_
    obtain ⟨⟨r_65, ⟨mH_ht_66, mH_hK_67, mH_hA_68, mH_hB_69, mH_hC_70, mH_hN_71, mH_h1_72, mH_hT_73, mH_hR_74⟩⟩, hq_64, hf⟩ := ob_el hf
    dsimp only at hf
    refine k_callVi C (c8_foldComparison C.2.2.2.2.2.2.2.2.2.1 hq_64) cm8_300 ok8_foldComparison (by decide) 0 rfl rfl rfl rfl (Nat.le_of_ble_eq_true rfl) dX8_foldNode_153 ?_
    cases hf
    exact K _ _ dX8_foldNode_156 rfl
  replace hf := (if_neg hc).symm.trans hf
  have hn4 := sw_ne hc
  by_cases hc : (mN_nk v1.toNatClampNeg) = (5 : Int32)
  · replace hf := (if_pos hc).symm.trans hf
    refine k_tableIn C 157 dX8_foldNode_6 (by rw [hx0 _ hc]; decide) (by rw [hx0 _ hc]; decide) (by rw [hx0 _ hc]; rfl) (by decide) ?_
    refine k_aload_n C dX8_foldNode_157 0 rfl ?_
    refine k_iload_n C dX8_foldNode_158 3 rfl ?_
    refine k_aload_n C dX8_foldNode_159 0 rfl ?_
    refine k_aload_n C dX8_foldNode_160 0 rfl ?_
    refine g8_28 C dX8_foldNode_161 ?_
    refine k_iload_n C dX8_foldNode_164 1 rfl ?_
    obtain ⟨hi, hf⟩ := gd_no hf
    refine lm7 C hi dX8_foldNode_165 ?_
    obtain ⟨r_76, hq_75, hf⟩ := ob_el hf
    refine k_callVi C (c8_of C.2.2.2.2.2.2.2.2.2.1 hq_75) cm8_290 ok8_of (by decide) 0 rfl rfl rfl rfl (Nat.le_of_ble_eq_true rfl) dX8_foldNode_166 ?_
    refine k_aload_n C dX8_foldNode_169 0 rfl ?_
    refine k_aload_n C dX8_foldNode_170 0 rfl ?_
    refine g8_31 C dX8_foldNode_171 ?_
    refine k_iload_n C dX8_foldNode_174 1 rfl ?_
    obtain ⟨hi, hf⟩ := gd_no hf
    refine lm8 C hi dX8_foldNode_175 ?_
    obtain ⟨r_78, hq_77, hf⟩ := ob_el hf
    refine k_callVi C (c8_of C.2.2.2.2.2.2.2.2.2.1 hq_77) cm8_290 ok8_of (by decide) 0 rfl rfl rfl rfl (Nat.le_of_ble_eq_true rfl) dX8_foldNode_176 ?_
    obtain ⟨⟨r_80, ⟨mH_ht_81, mH_hK_82, mH_hA_83, mH_hB_84, mH_hC_85, mH_hN_86, mH_h1_87, mH_hT_88, mH_hR_89⟩⟩, hq_79, hf⟩ := ob_el hf
    dsimp only at hf
    refine k_callVi C (c8_foldBoth C.2.2.2.2.2.2.2.2.2.1 hq_79) cm8_303 ok8_foldBoth (by decide) 0 rfl rfl rfl rfl (Nat.le_of_ble_eq_true rfl) dX8_foldNode_179 ?_
    cases hf
    exact K _ _ dX8_foldNode_182 rfl
  replace hf := (if_neg hc).symm.trans hf
  have hn5 := sw_ne hc
  by_cases hc : (mN_nk v1.toNatClampNeg) = (11 : Int32)
  · replace hf := (if_pos hc).symm.trans hf
    refine k_tableIn C 183 dX8_foldNode_6 (by rw [hx0 _ hc]; decide) (by rw [hx0 _ hc]; decide) (by rw [hx0 _ hc]; rfl) (by decide) ?_
    refine k_aload_n C dX8_foldNode_183 0 rfl ?_
    refine k_aload_n C dX8_foldNode_184 0 rfl ?_
    refine k_aload_n C dX8_foldNode_185 0 rfl ?_
    refine g8_25 C dX8_foldNode_186 ?_
    refine k_iload_n C dX8_foldNode_189 1 rfl ?_
    obtain ⟨hi, hf⟩ := gd_no hf
    refine lm6 C hi dX8_foldNode_190 ?_
    obtain ⟨r_91, hq_90, hf⟩ := ob_el hf
    refine k_callVi C (c8_of C.2.2.2.2.2.2.2.2.2.1 hq_90) cm8_290 ok8_of (by decide) 0 rfl rfl rfl rfl (Nat.le_of_ble_eq_true rfl) dX8_foldNode_191 ?_
    refine k_aload_n C dX8_foldNode_194 0 rfl ?_
    refine k_aload_n C dX8_foldNode_195 0 rfl ?_
    refine g8_28 C dX8_foldNode_196 ?_
    refine k_iload_n C dX8_foldNode_199 1 rfl ?_
    obtain ⟨hi, hf⟩ := gd_no hf
    refine lm7 C hi dX8_foldNode_200 ?_
    obtain ⟨r_93, hq_92, hf⟩ := ob_el hf
    refine k_callVi C (c8_of C.2.2.2.2.2.2.2.2.2.1 hq_92) cm8_290 ok8_of (by decide) 0 rfl rfl rfl rfl (Nat.le_of_ble_eq_true rfl) dX8_foldNode_201 ?_
    obtain ⟨⟨r_95, ⟨mH_ht_96, mH_hK_97, mH_hA_98, mH_hB_99, mH_hC_100, mH_hN_101, mH_h1_102, mH_hT_103, mH_hR_104⟩⟩, hq_94, hf⟩ := ob_el hf
    dsimp only at hf
    refine k_callVi C (c8_join C.2.2.2.2.2.2.2.2.2.1 hq_94) cm8_306 ok8_join (by decide) 0 rfl rfl rfl rfl (Nat.le_of_ble_eq_true rfl) dX8_foldNode_204 ?_
    cases hf
    exact K _ _ dX8_foldNode_207 rfl
  replace hf := (if_neg hc).symm.trans hf
  have hn11 := sw_ne hc
  have kd_105 : WC V p l e R s m args below meth c Q A kc ks 4 (wM V ad mT (mQ_qc, mQ_qb, mQ_qp, mQ_qr, mQ_qC) mK (mN_nn, mN_nk, mN_na, mN_nb, mN_nc, mN_ns) mP mL (mH_ht, mH_hK, mH_hA, mH_hB, mH_hC, mH_hN, mH_h1, mH_hT, mH_hR) mR mG) 208 [(0, .ref (ad 0)), (1, .int v1), (2, .int v2), (3, .int v3)] [] := by
    refine k_iload_n C dX8_foldNode_208 2 rfl ?_
    refine k_if_eq C 216 dX8_foldNode_209 (by decide) (fun hc => ?_) (fun hc => ?_)
    · replace hf := (if_pos hc).symm.trans hf
      refine k_aload_n C dX8_foldNode_216 0 rfl ?_
      refine k_iload_n C dX8_foldNode_217 1 rfl ?_
      obtain ⟨⟨r_2, ⟨mH_ht_3, mH_hK_4, mH_hA_5, mH_hB_6, mH_hC_7, mH_hN_8, mH_h1_9, mH_hT_10, mH_hR_11⟩⟩, hq_1, hf⟩ := ob_el hf
      dsimp only at hf
      refine k_callVi C (c8_foldStatement C.2.2.2.2.2.2.2.2.2.1 hq_1) cm8_309 ok8_foldStatement (by decide) 0 rfl rfl rfl rfl (Nat.le_of_ble_eq_true rfl) dX8_foldNode_218 ?_
      cases hf
      exact K _ _ dX8_foldNode_221 rfl
    · replace hf := (if_neg hc).symm.trans hf
      refine k_iconst (v := (-1 : Int32)) C dX8_foldNode_212 (by decide) ?_
      refine k_goto C 221 dX8_foldNode_213 (by decide) ?_
      cases hf
      exact K _ _ dX8_foldNode_221 rfl
  have hr : (mN_nk v1.toNatClampNeg).toInt < 0 ∨ 11 < (mN_nk v1.toNatClampNeg).toInt ∨ (mN_nk v1.toNatClampNeg).toInt = 6 ∨ (mN_nk v1.toNatClampNeg).toInt = 7 ∨ (mN_nk v1.toNatClampNeg).toInt = 8 ∨ (mN_nk v1.toNatClampNeg).toInt = 9 ∨ (mN_nk v1.toNatClampNeg).toInt = 10 := by
    have q0 : ¬ (mN_nk v1.toNatClampNeg).toInt = 0 := hn0 0 (by decide)
    have q1 : ¬ (mN_nk v1.toNatClampNeg).toInt = 1 := hn1 1 (by decide)
    have q2 : ¬ (mN_nk v1.toNatClampNeg).toInt = 2 := hn2 2 (by decide)
    have q3 : ¬ (mN_nk v1.toNatClampNeg).toInt = 3 := hn3 3 (by decide)
    have q4 : ¬ (mN_nk v1.toNatClampNeg).toInt = 4 := hn4 4 (by decide)
    have q5 : ¬ (mN_nk v1.toNatClampNeg).toInt = 5 := hn5 5 (by decide)
    have q11 : ¬ (mN_nk v1.toNatClampNeg).toInt = 11 := hn11 11 (by decide)
    omega
  rcases hr with hr | hr | hr | hr | hr | hr | hr
  · exact k_tableOut C 208 dX8_foldNode_6 (Or.inl hr) (by decide) kd_105
  · exact k_tableOut C 208 dX8_foldNode_6 (Or.inr hr) (by decide) kd_105
  · exact k_tableIn C 208 dX8_foldNode_6 (by rw [hr]; decide) (by rw [hr]; decide) (by rw [hr]; rfl) (by decide) kd_105
  · exact k_tableIn C 208 dX8_foldNode_6 (by rw [hr]; decide) (by rw [hr]; decide) (by rw [hr]; rfl) (by decide) kd_105
  · exact k_tableIn C 208 dX8_foldNode_6 (by rw [hr]; decide) (by rw [hr]; decide) (by rw [hr]; rfl) (by decide) kd_105
  · exact k_tableIn C 208 dX8_foldNode_6 (by rw [hr]; decide) (by rw [hr]; decide) (by rw [hr]; rfl) (by decide) kd_105
  · exact k_tableIn C 208 dX8_foldNode_6 (by rw [hr]; decide) (by rw [hr]; decide) (by rw [hr]; rfl) (by decide) kd_105
theorem c8_foldNode {V : EV} {l : Launch} (hl0 : l.stackTraces = false) {ad : Nat → Nat} {mT : MdT} {mK : MdK} {mP : MdP} {mL : MdL} {mR : MdR} {mG : MdG} {mQ_qc : Int32} {mQ_qb : Int32} {mQ_qp : Int32} {mQ_qr : Int32} {mQ_qC : Int32} {mN_nn : Int32} {mN_nk : Nat → Int32} {mN_na : Nat → Int32} {mN_nb : Nat → Int32} {mN_nc : Nat → Int32} {mN_ns : Nat → Int32} {v1 : Int32} {v2 : Int32} {v3 : Int32} {mH_ht : Int32} {mH_hK : Nat → Int32} {mH_hA : Nat → Int32} {mH_hB : Nat → Int32} {mH_hC : Nat → Int32} {mH_hN : Nat → Int32} {mH_h1 : Nat → Int32} {mH_hT : Nat → Int32} {mH_hR : Nat → Int32} {N : Nat} {res : Int32 × MdH} (hf : f8_foldNode N v1 v2 v3 (mQ_qc, mQ_qb, mQ_qp, mQ_qr, mQ_qC) (mN_nn, mN_nk, mN_na, mN_nb, mN_nc, mN_ns) (mH_ht, mH_hK, mH_hA, mH_hB, mH_hC, mH_hN, mH_h1, mH_hT, mH_hR) = some res) : MI V l yX8_foldNode cX8_foldNode 4 .int 3 70 [.ref (ad 0), .int v1, .int v2, .int v3] (wM V ad mT (mQ_qc, mQ_qb, mQ_qp, mQ_qr, mQ_qC) mK (mN_nn, mN_nk, mN_na, mN_nb, mN_nc, mN_ns) mP mL (mH_ht, mH_hK, mH_hA, mH_hB, mH_hC, mH_hN, mH_h1, mH_hT, mH_hR) mR mG) res.1 (wM V ad mT (mQ_qc, mQ_qb, mQ_qp, mQ_qr, mQ_qC) mK (mN_nn, mN_nk, mN_na, mN_nb, mN_nc, mN_ns) mP mL res.2 mR mG) :=
  mi_of hl0 (by decide +kernel) (Nat.le_of_ble_eq_true rfl) (fun p e R s m args below meth c Q A C K => b8_foldNode C hf K)

theorem cm8_286 : ∀ a ∈ wsCV RX8 286 RX8 yX8_foldNode cX8_foldNode 4 (some .int), a ∈ GW := by
  unfold wsCV
  exact (List.forall_mem_cons.mpr ⟨(gw_6 (i := 80) (by decide +kernel) rfl), (List.forall_mem_cons.mpr ⟨(gw_6 (i := 82) (by decide +kernel) rfl), (List.forall_mem_cons.mpr ⟨(gw_p (q := ((yX8_foldNode, 63) : MethodName × Nat)) (List.mem_append_right _ (List.mem_append_right _ (List.mem_append_right _ (List.mem_append_right _ (List.mem_append_right _ (List.mem_append_left _ (List.mem_of_getElem? (i := 8) (by decide +kernel)))))))) rfl), (List.forall_mem_cons.mpr ⟨(gw_1 (i := 9) (by decide +kernel) rfl), (List.forall_mem_cons.mpr ⟨(gw_6 (i := 83) (by decide +kernel) rfl), (List.forall_mem_nil _)⟩)⟩)⟩)⟩)⟩)
theorem ok8_fold : okCV RX8 yX8_fold 1 := by unfold okCV; decide +kernel
def f8_fold_L42 (k5 : Int32 → Int32 → MdH → Option (Int32 × MdH)) (N : Nat) (mQ_qc : Int32) (mQ_qb : Int32) (mQ_qp : Int32) (mQ_qr : Int32) (mQ_qC : Int32) (mN_nn : Int32) (mN_nk : Nat → Int32) (mN_na : Nat → Int32) (mN_nb : Nat → Int32) (mN_nc : Nat → Int32) (mN_ns : Nat → Int32) (mL_lm : Int32) (mL_lp : Nat → Int32) (mL_ls : Nat → Int32) (mL_li : Nat → Int32) (mL_lk : Nat → Int32) (mL_lf : Nat → Int32) : Int32 → Int32 → Int32 → MdH → Option (Int32 × MdH)
  | x1, x2, y0, (mH_ht, mH_hK, mH_hA, mH_hB, mH_hC, mH_hN, mH_h1, mH_hT, mH_hR) =>
    if y0 = 0 then if x2 < 0 ∨ 512 ≤ x2.toNatClampNeg then none else (f8_foldNode N x2 y0 (mN_na x2.toNatClampNeg) (mQ_qc, mQ_qb, mQ_qp, mQ_qr, mQ_qC) (mN_nn, mN_nk, mN_na, mN_nb, mN_nc, mN_ns) (mH_ht, mH_hK, mH_hA, mH_hB, mH_hC, mH_hN, mH_h1, mH_hT, mH_hR)).bind fun (r_2, (mH_ht_3, mH_hK_4, mH_hA_5, mH_hB_6, mH_hC_7, mH_hN_8, mH_h1_9, mH_hT_10, mH_hR_11)) => if (x2 - mQ_qb) < 0 ∨ 256 ≤ (x2 - mQ_qb).toNatClampNeg then none else nm_v (x2 + (1 : Int32)) (fun v2_12 => k5 x1 v2_12 (mH_ht_3, mH_hK_4, mH_hA_5, mH_hB_6, mH_hC_7, mH_hN_8, mH_h1_9, (upd mH_hT_10 (x2 - mQ_qb).toNatClampNeg r_2), mH_hR_11)) else if x1 < 0 ∨ 121 ≤ x1.toNatClampNeg then none else (f8_foldNode N x2 y0 (mL_li x1.toNatClampNeg) (mQ_qc, mQ_qb, mQ_qp, mQ_qr, mQ_qC) (mN_nn, mN_nk, mN_na, mN_nb, mN_nc, mN_ns) (mH_ht, mH_hK, mH_hA, mH_hB, mH_hC, mH_hN, mH_h1, mH_hT, mH_hR)).bind fun (r_14, (mH_ht_15, mH_hK_16, mH_hA_17, mH_hB_18, mH_hC_19, mH_hN_20, mH_h1_21, mH_hT_22, mH_hR_23)) => if (x2 - mQ_qb) < 0 ∨ 256 ≤ (x2 - mQ_qb).toNatClampNeg then none else nm_v (x2 + (1 : Int32)) (fun v2_24 => k5 x1 v2_24 (mH_ht_15, mH_hK_16, mH_hA_17, mH_hB_18, mH_hC_19, mH_hN_20, mH_h1_21, (upd mH_hT_22 (x2 - mQ_qb).toNatClampNeg r_14), mH_hR_23))

def f8_fold_L41 (k5 : Int32 → Int32 → MdH → Option (Int32 × MdH)) (N : Nat) (mQ_qc : Int32) (mQ_qb : Int32) (mQ_qp : Int32) (mQ_qr : Int32) (mQ_qC : Int32) (mN_nn : Int32) (mN_nk : Nat → Int32) (mN_na : Nat → Int32) (mN_nb : Nat → Int32) (mN_nc : Nat → Int32) (mN_ns : Nat → Int32) (mL_lm : Int32) (mL_lp : Nat → Int32) (mL_ls : Nat → Int32) (mL_li : Nat → Int32) (mL_lk : Nat → Int32) (mL_lf : Nat → Int32) : Int32 → Int32 → MdH → Option (Int32 × MdH)
  | x1, x2, (mH_ht, mH_hK, mH_hA, mH_hB, mH_hC, mH_hN, mH_h1, mH_hT, mH_hR) =>
    f8_fold_L42 k5 N mQ_qc mQ_qb mQ_qp mQ_qr mQ_qC mN_nn mN_nk mN_na mN_nb mN_nc mN_ns mL_lm mL_lp mL_ls mL_li mL_lk mL_lf x1 x2 (0 : Int32) (mH_ht, mH_hK, mH_hA, mH_hB, mH_hC, mH_hN, mH_h1, mH_hT, mH_hR)

def f8_fold_L5 (k85 : MdH → Option (Int32 × MdH)) (N : Nat) (mQ_qc : Int32) (mQ_qb : Int32) (mQ_qp : Int32) (mQ_qr : Int32) (mQ_qC : Int32) (mN_nn : Int32) (mN_nk : Nat → Int32) (mN_na : Nat → Int32) (mN_nb : Nat → Int32) (mN_nc : Nat → Int32) (mN_ns : Nat → Int32) (mL_lm : Int32) (mL_lp : Nat → Int32) (mL_ls : Nat → Int32) (mL_li : Nat → Int32) (mL_lk : Nat → Int32) (mL_lf : Nat → Int32) : Nat → Int32 → Int32 → MdH → Option (Int32 × MdH)
  | 0, _, _, _ => none
  | n + 1, x1, x2, (mH_ht, mH_hK, mH_hA, mH_hB, mH_hC, mH_hN, mH_h1, mH_hT, mH_hR) =>
    if (mQ_qb + mN_nn) ≤ x2 then k85 (mH_ht, mH_hK, mH_hA, mH_hB, mH_hC, mH_hN, mH_h1, mH_hT, mH_hR) else if x1 ≤ 0 then f8_fold_L41 (fun x1_ x2_ c_mH => f8_fold_L5 k85 N mQ_qc mQ_qb mQ_qp mQ_qr mQ_qC mN_nn mN_nk mN_na mN_nb mN_nc mN_ns mL_lm mL_lp mL_ls mL_li mL_lk mL_lf n x1_ x2_ c_mH) N mQ_qc mQ_qb mQ_qp mQ_qr mQ_qC mN_nn mN_nk mN_na mN_nb mN_nc mN_ns mL_lm mL_lp mL_ls mL_li mL_lk mL_lf x1 x2 (mH_ht, mH_hK, mH_hA, mH_hB, mH_hC, mH_hN, mH_h1, mH_hT, mH_hR) else if x2 < 0 ∨ 512 ≤ x2.toNatClampNeg then none else if x1 < 0 ∨ 121 ≤ x1.toNatClampNeg then none else if (mN_ns x2.toNatClampNeg) = (mL_lp x1.toNatClampNeg) then f8_fold_L42 (fun x1_ x2_ c_mH => f8_fold_L5 k85 N mQ_qc mQ_qb mQ_qp mQ_qr mQ_qC mN_nn mN_nk mN_na mN_nb mN_nc mN_ns mL_lm mL_lp mL_ls mL_li mL_lk mL_lf n x1_ x2_ c_mH) N mQ_qc mQ_qb mQ_qp mQ_qr mQ_qC mN_nn mN_nk mN_na mN_nb mN_nc mN_ns mL_lm mL_lp mL_ls mL_li mL_lk mL_lf x1 x2 (1 : Int32) (mH_ht, mH_hK, mH_hA, mH_hB, mH_hC, mH_hN, mH_h1, mH_hT, mH_hR) else f8_fold_L41 (fun x1_ x2_ c_mH => f8_fold_L5 k85 N mQ_qc mQ_qb mQ_qp mQ_qr mQ_qC mN_nn mN_nk mN_na mN_nb mN_nc mN_ns mL_lm mL_lp mL_ls mL_li mL_lk mL_lf n x1_ x2_ c_mH) N mQ_qc mQ_qb mQ_qp mQ_qr mQ_qC mN_nn mN_nk mN_na mN_nb mN_nc mN_ns mL_lm mL_lp mL_ls mL_li mL_lk mL_lf x1 x2 (mH_ht, mH_hK, mH_hA, mH_hB, mH_hC, mH_hN, mH_h1, mH_hT, mH_hR)
def f8_fold (N : Nat) (v1 : Int32) : MdQ → MdN → MdL → MdH → Option (Int32 × MdH)
  | (mQ_qc, mQ_qb, mQ_qp, mQ_qr, mQ_qC), (mN_nn, mN_nk, mN_na, mN_nb, mN_nc, mN_ns), (mL_lm, mL_lp, mL_ls, mL_li, mL_lk, mL_lf), (mH_ht, mH_hK, mH_hA, mH_hB, mH_hC, mH_hN, mH_h1, mH_hT, mH_hR) =>
    f8_fold_L5 (fun (mH_ht_25, mH_hK_25, mH_hA_25, mH_hB_25, mH_hC_25, mH_hN_25, mH_h1_25, mH_hT_25, mH_hR_25) => (f8_of mQ_qr (mQ_qc, mQ_qb, mQ_qp, mQ_qr, mQ_qC) (mH_ht_25, mH_hK_25, mH_hA_25, mH_hB_25, mH_hC_25, mH_hN_25, mH_h1_25, mH_hT_25, mH_hR_25)).bind fun r_27 => some (r_27, (mH_ht_25, mH_hK_25, mH_hA_25, mH_hB_25, mH_hC_25, mH_hN_25, mH_h1_25, mH_hT_25, mH_hR_25))) N mQ_qc mQ_qb mQ_qp mQ_qr mQ_qC mN_nn mN_nk mN_na mN_nb mN_nc mN_ns mL_lm mL_lp mL_ls mL_li mL_lk mL_lf N v1 mQ_qb (mH_ht, mH_hK, mH_hA, mH_hB, mH_hC, mH_hN, mH_h1, mH_hT, mH_hR)
set_option maxHeartbeats 4000000 in
set_option maxRecDepth 100000 in
theorem w8_fold_L42 {V : EV} {p : Program} {l : Launch} {e : Env} {R : Room} {s : State} {m : MethodId} {args : Array Value} {below : List Frame} {meth : Method} {c : Code} {Q : State → Prop} {A : Nat → Prop} {kc ks : Nat} {ad : Nat → Nat} {mT : MdT} {mK : MdK} {mP : MdP} {mR : MdR} {mG : MdG} {mQ_qc : Int32} {mQ_qb : Int32} {mQ_qp : Int32} {mQ_qr : Int32} {mQ_qC : Int32} {mN_nn : Int32} {mN_nk : Nat → Int32} {mN_na : Nat → Int32} {mN_nb : Nat → Int32} {mN_nc : Nat → Int32} {mN_ns : Nat → Int32} {mL_lm : Int32} {mL_lp : Nat → Int32} {mL_ls : Nat → Int32} {mL_li : Nat → Int32} {mL_lk : Nat → Int32} {mL_lf : Nat → Int32} {k5 : Int32 → Int32 → MdH → Option (Int32 × MdH)} {N : Nat} {res : Int32 × MdH} (C : CX V p l R s m args c A kc ks RX8 cX8_fold 4 4 93) (K : RI V p l e R s m args below meth c Q A kc ks 4 cX8_fold .int res.1 (wM V ad mT (mQ_qc, mQ_qb, mQ_qp, mQ_qr, mQ_qC) mK (mN_nn, mN_nk, mN_na, mN_nb, mN_nc, mN_ns) mP (mL_lm, mL_lp, mL_ls, mL_li, mL_lk, mL_lf) res.2 mR mG)) (hk5 : ∀ (x1 : Int32) (x2 : Int32) (mH_ht : Int32) (mH_hK : Nat → Int32) (mH_hA : Nat → Int32) (mH_hB : Nat → Int32) (mH_hC : Nat → Int32) (mH_hN : Nat → Int32) (mH_h1 : Nat → Int32) (mH_hT : Nat → Int32) (mH_hR : Nat → Int32), k5 x1 x2 (mH_ht, mH_hK, mH_hA, mH_hB, mH_hC, mH_hN, mH_h1, mH_hT, mH_hR) = some res → WC V p l e R s m args below meth c Q A kc ks 4 (wM V ad mT (mQ_qc, mQ_qb, mQ_qp, mQ_qr, mQ_qC) mK (mN_nn, mN_nk, mN_na, mN_nb, mN_nc, mN_ns) mP (mL_lm, mL_lp, mL_ls, mL_li, mL_lk, mL_lf) (mH_ht, mH_hK, mH_hA, mH_hB, mH_hC, mH_hN, mH_h1, mH_hT, mH_hR) mR mG) 5 [(0, .ref (ad 0)), (1, .int x1), (2, .int x2)] []) : ∀ (x1 : Int32) (x2 : Int32) (y0 : Int32) (mH_ht : Int32) (mH_hK : Nat → Int32) (mH_hA : Nat → Int32) (mH_hB : Nat → Int32) (mH_hC : Nat → Int32) (mH_hN : Nat → Int32) (mH_h1 : Nat → Int32) (mH_hT : Nat → Int32) (mH_hR : Nat → Int32), f8_fold_L42 k5 N mQ_qc mQ_qb mQ_qp mQ_qr mQ_qC mN_nn mN_nk mN_na mN_nb mN_nc mN_ns mL_lm mL_lp mL_ls mL_li mL_lk mL_lf x1 x2 y0 (mH_ht, mH_hK, mH_hA, mH_hB, mH_hC, mH_hN, mH_h1, mH_hT, mH_hR) = some res → WC V p l e R s m args below meth c Q A kc ks 4 (wM V ad mT (mQ_qc, mQ_qb, mQ_qp, mQ_qr, mQ_qC) mK (mN_nn, mN_nk, mN_na, mN_nb, mN_nc, mN_ns) mP (mL_lm, mL_lp, mL_ls, mL_li, mL_lk, mL_lf) (mH_ht, mH_hK, mH_hA, mH_hB, mH_hC, mH_hN, mH_h1, mH_hT, mH_hR) mR mG) 42 [(0, .ref (ad 0)), (1, .int x1), (2, .int x2)] [.int y0] := by
  intro x1 x2 y0 mH_ht mH_hK mH_hA mH_hB mH_hC mH_hN mH_h1 mH_hT mH_hR hf
  rw [f8_fold_L42] at hf
  refine k_istore_n C dX8_fold_42 [(3, .int y0), (0, .ref (ad 0)), (1, .int x1), (2, .int x2)] (by decide) rfl ?_
  refine k_aload_n C dX8_fold_43 1 rfl ?_
  refine g8_94 C dX8_fold_44 ?_
  refine k_iload_n C dX8_fold_47 3 rfl ?_
  refine k_aload_n C dX8_fold_48 1 rfl ?_
  refine g8_165 C dX8_fold_49 ?_
  refine k_isub C dX8_fold_52 ?_
  refine k_aload_n C dX8_fold_53 1 rfl ?_
  refine k_iload_n C dX8_fold_54 3 rfl ?_
  refine k_iload_n C dX8_fold_55 0 rfl ?_
  refine k_iload_n C dX8_fold_56 0 rfl ?_
  refine k_if_eq C 69 dX8_fold_57 (by decide) (fun hc => ?_) (fun hc => ?_)
  · replace hf := (if_pos hc).symm.trans hf
    refine k_aload_n C dX8_fold_69 1 rfl ?_
    refine g8_25 C dX8_fold_70 ?_
    refine k_iload_n C dX8_fold_73 3 rfl ?_
    obtain ⟨hi, hf⟩ := gd_no hf
    refine lm6 C hi dX8_fold_74 ?_
    obtain ⟨⟨r_2, ⟨mH_ht_3, mH_hK_4, mH_hA_5, mH_hB_6, mH_hC_7, mH_hN_8, mH_h1_9, mH_hT_10, mH_hR_11⟩⟩, hq_1, hf⟩ := ob_el hf
    dsimp only at hf
    refine k_callVi C (c8_foldNode C.2.2.2.2.2.2.2.2.2.1 hq_1) cm8_286 ok8_foldNode (by decide) 0 rfl rfl rfl rfl (Nat.le_of_ble_eq_true rfl) dX8_fold_75 ?_
    obtain ⟨hi, hf⟩ := gd_no hf
    refine sm29 C hi dX8_fold_78 ?_
    obtain ⟨v2_12, ev2_12⟩ : ∃ y : Int32, y = x2 + (1 : Int32) := ⟨_, rfl⟩
    replace hf := nm_el hf ev2_12
    refine k_iinc (v := v2_12) C dX8_fold_79 3 rfl (by rw [ev2_12]; rfl) [(2, .int v2_12), (3, .int y0), (0, .ref (ad 0)), (1, .int x1)] (by decide) rfl ?_
    refine k_goto C 5 dX8_fold_82 (by decide) ?_
    refine k_sub [2, 3, 0] (L' := [(0, .ref (ad 0)), (1, .int x1), (2, .int v2_12)]) rfl ?_
    exact hk5 _ _ _ _ _ _ _ _ _ _ _ hf
  · replace hf := (if_neg hc).symm.trans hf
    refine k_aload_n C dX8_fold_60 1 rfl ?_
    refine g8_67 C dX8_fold_61 ?_
    refine k_iload_n C dX8_fold_64 2 rfl ?_
    obtain ⟨hi, hf⟩ := gd_no hf
    refine lm20 C hi dX8_fold_65 ?_
    refine k_goto C 75 dX8_fold_66 (by decide) ?_
    obtain ⟨⟨r_14, ⟨mH_ht_15, mH_hK_16, mH_hA_17, mH_hB_18, mH_hC_19, mH_hN_20, mH_h1_21, mH_hT_22, mH_hR_23⟩⟩, hq_13, hf⟩ := ob_el hf
    dsimp only at hf
    refine k_callVi C (c8_foldNode C.2.2.2.2.2.2.2.2.2.1 hq_13) cm8_286 ok8_foldNode (by decide) 0 rfl rfl rfl rfl (Nat.le_of_ble_eq_true rfl) dX8_fold_75 ?_
    obtain ⟨hi, hf⟩ := gd_no hf
    refine sm29 C hi dX8_fold_78 ?_
    obtain ⟨v2_24, ev2_24⟩ : ∃ y : Int32, y = x2 + (1 : Int32) := ⟨_, rfl⟩
    replace hf := nm_el hf ev2_24
    refine k_iinc (v := v2_24) C dX8_fold_79 3 rfl (by rw [ev2_24]; rfl) [(2, .int v2_24), (3, .int y0), (0, .ref (ad 0)), (1, .int x1)] (by decide) rfl ?_
    refine k_goto C 5 dX8_fold_82 (by decide) ?_
    refine k_sub [2, 3, 0] (L' := [(0, .ref (ad 0)), (1, .int x1), (2, .int v2_24)]) rfl ?_
    exact hk5 _ _ _ _ _ _ _ _ _ _ _ hf

set_option maxHeartbeats 4000000 in
set_option maxRecDepth 100000 in
theorem w8_fold_L41 {V : EV} {p : Program} {l : Launch} {e : Env} {R : Room} {s : State} {m : MethodId} {args : Array Value} {below : List Frame} {meth : Method} {c : Code} {Q : State → Prop} {A : Nat → Prop} {kc ks : Nat} {ad : Nat → Nat} {mT : MdT} {mK : MdK} {mP : MdP} {mR : MdR} {mG : MdG} {mQ_qc : Int32} {mQ_qb : Int32} {mQ_qp : Int32} {mQ_qr : Int32} {mQ_qC : Int32} {mN_nn : Int32} {mN_nk : Nat → Int32} {mN_na : Nat → Int32} {mN_nb : Nat → Int32} {mN_nc : Nat → Int32} {mN_ns : Nat → Int32} {mL_lm : Int32} {mL_lp : Nat → Int32} {mL_ls : Nat → Int32} {mL_li : Nat → Int32} {mL_lk : Nat → Int32} {mL_lf : Nat → Int32} {k5 : Int32 → Int32 → MdH → Option (Int32 × MdH)} {N : Nat} {res : Int32 × MdH} (C : CX V p l R s m args c A kc ks RX8 cX8_fold 4 4 93) (K : RI V p l e R s m args below meth c Q A kc ks 4 cX8_fold .int res.1 (wM V ad mT (mQ_qc, mQ_qb, mQ_qp, mQ_qr, mQ_qC) mK (mN_nn, mN_nk, mN_na, mN_nb, mN_nc, mN_ns) mP (mL_lm, mL_lp, mL_ls, mL_li, mL_lk, mL_lf) res.2 mR mG)) (hk5 : ∀ (x1 : Int32) (x2 : Int32) (mH_ht : Int32) (mH_hK : Nat → Int32) (mH_hA : Nat → Int32) (mH_hB : Nat → Int32) (mH_hC : Nat → Int32) (mH_hN : Nat → Int32) (mH_h1 : Nat → Int32) (mH_hT : Nat → Int32) (mH_hR : Nat → Int32), k5 x1 x2 (mH_ht, mH_hK, mH_hA, mH_hB, mH_hC, mH_hN, mH_h1, mH_hT, mH_hR) = some res → WC V p l e R s m args below meth c Q A kc ks 4 (wM V ad mT (mQ_qc, mQ_qb, mQ_qp, mQ_qr, mQ_qC) mK (mN_nn, mN_nk, mN_na, mN_nb, mN_nc, mN_ns) mP (mL_lm, mL_lp, mL_ls, mL_li, mL_lk, mL_lf) (mH_ht, mH_hK, mH_hA, mH_hB, mH_hC, mH_hN, mH_h1, mH_hT, mH_hR) mR mG) 5 [(0, .ref (ad 0)), (1, .int x1), (2, .int x2)] []) : ∀ (x1 : Int32) (x2 : Int32) (mH_ht : Int32) (mH_hK : Nat → Int32) (mH_hA : Nat → Int32) (mH_hB : Nat → Int32) (mH_hC : Nat → Int32) (mH_hN : Nat → Int32) (mH_h1 : Nat → Int32) (mH_hT : Nat → Int32) (mH_hR : Nat → Int32), f8_fold_L41 k5 N mQ_qc mQ_qb mQ_qp mQ_qr mQ_qC mN_nn mN_nk mN_na mN_nb mN_nc mN_ns mL_lm mL_lp mL_ls mL_li mL_lk mL_lf x1 x2 (mH_ht, mH_hK, mH_hA, mH_hB, mH_hC, mH_hN, mH_h1, mH_hT, mH_hR) = some res → WC V p l e R s m args below meth c Q A kc ks 4 (wM V ad mT (mQ_qc, mQ_qb, mQ_qp, mQ_qr, mQ_qC) mK (mN_nn, mN_nk, mN_na, mN_nb, mN_nc, mN_ns) mP (mL_lm, mL_lp, mL_ls, mL_li, mL_lk, mL_lf) (mH_ht, mH_hK, mH_hA, mH_hB, mH_hC, mH_hN, mH_h1, mH_hT, mH_hR) mR mG) 41 [(0, .ref (ad 0)), (1, .int x1), (2, .int x2)] [] := by
  intro x1 x2 mH_ht mH_hK mH_hA mH_hB mH_hC mH_hN mH_h1 mH_hT mH_hR hf
  rw [f8_fold_L41] at hf
  refine k_iconst (v := (0 : Int32)) C dX8_fold_41 (by decide) ?_
  exact w8_fold_L42 C K hk5 _ _ _ _ _ _ _ _ _ _ _ _ hf

set_option maxHeartbeats 4000000 in
set_option maxRecDepth 100000 in
theorem w8_fold_L5 {V : EV} {p : Program} {l : Launch} {e : Env} {R : Room} {s : State} {m : MethodId} {args : Array Value} {below : List Frame} {meth : Method} {c : Code} {Q : State → Prop} {A : Nat → Prop} {kc ks : Nat} {ad : Nat → Nat} {mT : MdT} {mK : MdK} {mP : MdP} {mR : MdR} {mG : MdG} {mQ_qc : Int32} {mQ_qb : Int32} {mQ_qp : Int32} {mQ_qr : Int32} {mQ_qC : Int32} {mN_nn : Int32} {mN_nk : Nat → Int32} {mN_na : Nat → Int32} {mN_nb : Nat → Int32} {mN_nc : Nat → Int32} {mN_ns : Nat → Int32} {mL_lm : Int32} {mL_lp : Nat → Int32} {mL_ls : Nat → Int32} {mL_li : Nat → Int32} {mL_lk : Nat → Int32} {mL_lf : Nat → Int32} {k85 : MdH → Option (Int32 × MdH)} {N : Nat} {res : Int32 × MdH} (C : CX V p l R s m args c A kc ks RX8 cX8_fold 4 4 93) (K : RI V p l e R s m args below meth c Q A kc ks 4 cX8_fold .int res.1 (wM V ad mT (mQ_qc, mQ_qb, mQ_qp, mQ_qr, mQ_qC) mK (mN_nn, mN_nk, mN_na, mN_nb, mN_nc, mN_ns) mP (mL_lm, mL_lp, mL_ls, mL_li, mL_lk, mL_lf) res.2 mR mG)) (hk85 : ∀  (mH_ht : Int32) (mH_hK : Nat → Int32) (mH_hA : Nat → Int32) (mH_hB : Nat → Int32) (mH_hC : Nat → Int32) (mH_hN : Nat → Int32) (mH_h1 : Nat → Int32) (mH_hT : Nat → Int32) (mH_hR : Nat → Int32), k85 (mH_ht, mH_hK, mH_hA, mH_hB, mH_hC, mH_hN, mH_h1, mH_hT, mH_hR) = some res → WC V p l e R s m args below meth c Q A kc ks 4 (wM V ad mT (mQ_qc, mQ_qb, mQ_qp, mQ_qr, mQ_qC) mK (mN_nn, mN_nk, mN_na, mN_nb, mN_nc, mN_ns) mP (mL_lm, mL_lp, mL_ls, mL_li, mL_lk, mL_lf) (mH_ht, mH_hK, mH_hA, mH_hB, mH_hC, mH_hN, mH_h1, mH_hT, mH_hR) mR mG) 85 [(0, .ref (ad 0))] []) : ∀ (n : Nat) (x1 : Int32) (x2 : Int32) (mH_ht : Int32) (mH_hK : Nat → Int32) (mH_hA : Nat → Int32) (mH_hB : Nat → Int32) (mH_hC : Nat → Int32) (mH_hN : Nat → Int32) (mH_h1 : Nat → Int32) (mH_hT : Nat → Int32) (mH_hR : Nat → Int32), f8_fold_L5 k85 N mQ_qc mQ_qb mQ_qp mQ_qr mQ_qC mN_nn mN_nk mN_na mN_nb mN_nc mN_ns mL_lm mL_lp mL_ls mL_li mL_lk mL_lf n x1 x2 (mH_ht, mH_hK, mH_hA, mH_hB, mH_hC, mH_hN, mH_h1, mH_hT, mH_hR) = some res → WC V p l e R s m args below meth c Q A kc ks 4 (wM V ad mT (mQ_qc, mQ_qb, mQ_qp, mQ_qr, mQ_qC) mK (mN_nn, mN_nk, mN_na, mN_nb, mN_nc, mN_ns) mP (mL_lm, mL_lp, mL_ls, mL_li, mL_lk, mL_lf) (mH_ht, mH_hK, mH_hA, mH_hB, mH_hC, mH_hN, mH_h1, mH_hT, mH_hR) mR mG) 5 [(0, .ref (ad 0)), (1, .int x1), (2, .int x2)] [] := by
  intro n
  induction n with
  | zero => intro _ _ _ _ _ _ _ _ _ _ _ hf; exact nomatch (show none = some res from hf)
  | succ n ih =>
    intro x1 x2 mH_ht mH_hK mH_hA mH_hB mH_hC mH_hN mH_h1 mH_hT mH_hR hf
    rw [f8_fold_L5] at hf
    refine k_iload_n C dX8_fold_5 2 rfl ?_
    refine k_aload_n C dX8_fold_6 0 rfl ?_
    refine g8_165 C dX8_fold_7 ?_
    refine k_aload_n C dX8_fold_10 0 rfl ?_
    refine g8_156 C dX8_fold_11 ?_
    refine k_iadd C dX8_fold_14 ?_
    refine k_icmp_ge C 85 dX8_fold_15 (by decide) (fun hc => ?_) (fun hc => ?_)
    · replace hf := (if_pos hc).symm.trans hf
      refine k_sub [0] (L' := [(0, .ref (ad 0))]) rfl ?_
      exact hk85 _ _ _ _ _ _ _ _ _ hf
    · replace hf := (if_neg hc).symm.trans hf
      refine k_iload_n C dX8_fold_18 1 rfl ?_
      refine k_if_le C 41 dX8_fold_19 (by decide) (fun hc => ?_) (fun hc => ?_)
      · replace hf := (if_pos hc).symm.trans hf
        exact w8_fold_L41 C K ih _ _ _ _ _ _ _ _ _ _ _ hf
      · replace hf := (if_neg hc).symm.trans hf
        refine k_aload_n C dX8_fold_22 0 rfl ?_
        refine g8_34 C dX8_fold_23 ?_
        refine k_iload_n C dX8_fold_26 2 rfl ?_
        obtain ⟨hi, hf⟩ := gd_no hf
        refine lm9 C hi dX8_fold_27 ?_
        refine k_aload_n C dX8_fold_28 0 rfl ?_
        refine g8_61 C dX8_fold_29 ?_
        refine k_iload_n C dX8_fold_32 1 rfl ?_
        obtain ⟨hi, hf⟩ := gd_no hf
        refine lm18 C hi dX8_fold_33 ?_
        refine k_icmp_ne C 41 dX8_fold_34 (by decide) (fun hc => ?_) (fun hc => ?_)
        · replace hf := (if_neg hc).symm.trans hf
          exact w8_fold_L41 C K ih _ _ _ _ _ _ _ _ _ _ _ hf
        · replace hf := (if_pos hc).symm.trans hf
          refine k_iconst (v := (1 : Int32)) C dX8_fold_37 (by decide) ?_
          refine k_goto C 42 dX8_fold_38 (by decide) ?_
          exact w8_fold_L42 C K ih _ _ _ _ _ _ _ _ _ _ _ _ hf
set_option maxHeartbeats 4000000 in
set_option maxRecDepth 100000 in
theorem b8_fold {V : EV} {p : Program} {l : Launch} {e : Env} {R : Room} {s : State} {m : MethodId} {args : Array Value} {below : List Frame} {meth : Method} {c : Code} {Q : State → Prop} {A : Nat → Prop} {kc ks : Nat} {ad : Nat → Nat} {mT : MdT} {mK : MdK} {mP : MdP} {mR : MdR} {mG : MdG} {mQ_qc : Int32} {mQ_qb : Int32} {mQ_qp : Int32} {mQ_qr : Int32} {mQ_qC : Int32} {mN_nn : Int32} {mN_nk : Nat → Int32} {mN_na : Nat → Int32} {mN_nb : Nat → Int32} {mN_nc : Nat → Int32} {mN_ns : Nat → Int32} {mL_lm : Int32} {mL_lp : Nat → Int32} {mL_ls : Nat → Int32} {mL_li : Nat → Int32} {mL_lk : Nat → Int32} {mL_lf : Nat → Int32} {v1 : Int32} {mH_ht : Int32} {mH_hK : Nat → Int32} {mH_hA : Nat → Int32} {mH_hB : Nat → Int32} {mH_hC : Nat → Int32} {mH_hN : Nat → Int32} {mH_h1 : Nat → Int32} {mH_hT : Nat → Int32} {mH_hR : Nat → Int32} {N : Nat} {res : Int32 × MdH} (C : CX V p l R s m args c A kc ks RX8 cX8_fold 4 4 93) (hf : f8_fold N v1 (mQ_qc, mQ_qb, mQ_qp, mQ_qr, mQ_qC) (mN_nn, mN_nk, mN_na, mN_nb, mN_nc, mN_ns) (mL_lm, mL_lp, mL_ls, mL_li, mL_lk, mL_lf) (mH_ht, mH_hK, mH_hA, mH_hB, mH_hC, mH_hN, mH_h1, mH_hT, mH_hR) = some res) (K : RI V p l e R s m args below meth c Q A kc ks 4 cX8_fold .int res.1 (wM V ad mT (mQ_qc, mQ_qb, mQ_qp, mQ_qr, mQ_qC) mK (mN_nn, mN_nk, mN_na, mN_nb, mN_nc, mN_ns) mP (mL_lm, mL_lp, mL_ls, mL_li, mL_lk, mL_lf) res.2 mR mG)) : WC V p l e R s m args below meth c Q A kc ks 4 (wM V ad mT (mQ_qc, mQ_qb, mQ_qp, mQ_qr, mQ_qC) mK (mN_nn, mN_nk, mN_na, mN_nb, mN_nc, mN_ns) mP (mL_lm, mL_lp, mL_ls, mL_li, mL_lk, mL_lf) (mH_ht, mH_hK, mH_hA, mH_hB, mH_hC, mH_hN, mH_h1, mH_hT, mH_hR) mR mG) 0 [(0, .ref (ad 0)), (1, .int v1)] [] := by
  rw [f8_fold] at hf
  refine k_aload_n C dX8_fold_0 0 rfl ?_
  refine g8_165 C dX8_fold_1 ?_
  refine k_istore_n C dX8_fold_4 [(2, .int mQ_qb), (0, .ref (ad 0)), (1, .int v1)] (by decide) rfl ?_
  refine k_sub [1, 2, 0] (L' := [(0, .ref (ad 0)), (1, .int v1), (2, .int mQ_qb)]) rfl ?_
  refine w8_fold_L5 C K ?_ _ _ _ _ _ _ _ _ _ _ _ _ hf
  · intro mH_ht_25 mH_hK_25 mH_hA_25 mH_hB_25 mH_hC_25 mH_hN_25 mH_h1_25 mH_hT_25 mH_hR_25 hf
    try dsimp only at hf
    refine k_aload_n C dX8_fold_85 0 rfl ?_
    refine k_aload_n C dX8_fold_86 0 rfl ?_
    refine g8_182 C dX8_fold_87 ?_
    obtain ⟨r_27, hq_26, hf⟩ := ob_el hf
    refine k_callVi C (c8_of C.2.2.2.2.2.2.2.2.2.1 hq_26) cm8_290 ok8_of (by decide) 0 rfl rfl rfl rfl (Nat.le_of_ble_eq_true rfl) dX8_fold_90 ?_
    cases hf
    exact K _ _ dX8_fold_93 rfl
theorem c8_fold {V : EV} {l : Launch} (hl0 : l.stackTraces = false) {ad : Nat → Nat} {mT : MdT} {mK : MdK} {mP : MdP} {mR : MdR} {mG : MdG} {mQ_qc : Int32} {mQ_qb : Int32} {mQ_qp : Int32} {mQ_qr : Int32} {mQ_qC : Int32} {mN_nn : Int32} {mN_nk : Nat → Int32} {mN_na : Nat → Int32} {mN_nb : Nat → Int32} {mN_nc : Nat → Int32} {mN_ns : Nat → Int32} {mL_lm : Int32} {mL_lp : Nat → Int32} {mL_ls : Nat → Int32} {mL_li : Nat → Int32} {mL_lk : Nat → Int32} {mL_lf : Nat → Int32} {v1 : Int32} {mH_ht : Int32} {mH_hK : Nat → Int32} {mH_hA : Nat → Int32} {mH_hB : Nat → Int32} {mH_hC : Nat → Int32} {mH_hN : Nat → Int32} {mH_h1 : Nat → Int32} {mH_hT : Nat → Int32} {mH_hR : Nat → Int32} {N : Nat} {res : Int32 × MdH} (hf : f8_fold N v1 (mQ_qc, mQ_qb, mQ_qp, mQ_qr, mQ_qC) (mN_nn, mN_nk, mN_na, mN_nb, mN_nc, mN_ns) (mL_lm, mL_lp, mL_ls, mL_li, mL_lk, mL_lf) (mH_ht, mH_hK, mH_hA, mH_hB, mH_hC, mH_hN, mH_h1, mH_hT, mH_hR) = some res) : MI V l yX8_fold cX8_fold 4 .int 4 93 [.ref (ad 0), .int v1] (wM V ad mT (mQ_qc, mQ_qb, mQ_qp, mQ_qr, mQ_qC) mK (mN_nn, mN_nk, mN_na, mN_nb, mN_nc, mN_ns) mP (mL_lm, mL_lp, mL_ls, mL_li, mL_lk, mL_lf) (mH_ht, mH_hK, mH_hA, mH_hB, mH_hC, mH_hN, mH_h1, mH_hT, mH_hR) mR mG) res.1 (wM V ad mT (mQ_qc, mQ_qb, mQ_qp, mQ_qr, mQ_qC) mK (mN_nn, mN_nk, mN_na, mN_nb, mN_nc, mN_ns) mP (mL_lm, mL_lp, mL_ls, mL_li, mL_lk, mL_lf) res.2 mR mG) :=
  mi_of hl0 (by decide +kernel) (Nat.le_of_ble_eq_true rfl) (fun p e R s m args below meth c Q A C K => b8_fold C hf K)

theorem cm8_251 : ∀ a ∈ wsCV RX8 251 RX8 yX8_read cX8_read 1 (some .boolean), a ∈ GW := by
  unfold wsCV
  exact (List.forall_mem_cons.mpr ⟨(gw_5 (i := 207) (by decide +kernel) rfl), (List.forall_mem_cons.mpr ⟨(gw_5 (i := 209) (by decide +kernel) rfl), (List.forall_mem_cons.mpr ⟨(gw_p (q := ((yX8_read, 63) : MethodName × Nat)) (List.mem_append_right _ (List.mem_append_right _ (List.mem_append_right _ (List.mem_append_left _ (List.mem_of_getElem? (i := 14) (by decide +kernel)))))) rfl), (List.forall_mem_cons.mpr ⟨(gw_1 (i := 9) (by decide +kernel) rfl), (List.forall_mem_cons.mpr ⟨(gw_5 (i := 210) (by decide +kernel) rfl), (List.forall_mem_nil _)⟩)⟩)⟩)⟩)⟩)
theorem cm8_255 : ∀ a ∈ wsCV RX8 255 RX8 yX8_fail cX8_fail 2 (some .int), a ∈ GW := by
  unfold wsCV
  exact (List.forall_mem_cons.mpr ⟨(gw_6 (i := 51) (by decide +kernel) rfl), (List.forall_mem_cons.mpr ⟨(gw_6 (i := 53) (by decide +kernel) rfl), (List.forall_mem_cons.mpr ⟨(gw_p (q := ((yX8_fail, 63) : MethodName × Nat)) (List.mem_append_right _ (List.mem_append_right _ (List.mem_append_right _ (List.mem_append_right _ (List.mem_append_right _ (List.mem_append_left _ (List.mem_of_getElem? (i := 3) (by decide +kernel)))))))) rfl), (List.forall_mem_cons.mpr ⟨(gw_1 (i := 9) (by decide +kernel) rfl), (List.forall_mem_cons.mpr ⟨(gw_6 (i := 54) (by decide +kernel) rfl), (List.forall_mem_nil _)⟩)⟩)⟩)⟩)⟩)
theorem cm8_258 : ∀ a ∈ wsCV RX8 258 RX8 yX8_listMutants cX8_listMutants 8 (some .int), a ∈ GW := by
  unfold wsCV
  exact (List.forall_mem_cons.mpr ⟨(gw_6 (i := 55) (by decide +kernel) rfl), (List.forall_mem_cons.mpr ⟨(gw_6 (i := 57) (by decide +kernel) rfl), (List.forall_mem_cons.mpr ⟨(gw_p (q := ((yX8_listMutants, 63) : MethodName × Nat)) (List.mem_append_right _ (List.mem_append_right _ (List.mem_append_right _ (List.mem_append_right _ (List.mem_append_right _ (List.mem_append_left _ (List.mem_of_getElem? (i := 4) (by decide +kernel)))))))) rfl), (List.forall_mem_cons.mpr ⟨(gw_1 (i := 9) (by decide +kernel) rfl), (List.forall_mem_cons.mpr ⟨(gw_6 (i := 58) (by decide +kernel) rfl), (List.forall_mem_nil _)⟩)⟩)⟩)⟩)⟩)
theorem cm8_283 : ∀ a ∈ wsCV RX8 283 RX8 yX8_fold cX8_fold 4 (some .int), a ∈ GW := by
  unfold wsCV
  exact (List.forall_mem_cons.mpr ⟨(gw_6 (i := 76) (by decide +kernel) rfl), (List.forall_mem_cons.mpr ⟨(gw_6 (i := 78) (by decide +kernel) rfl), (List.forall_mem_cons.mpr ⟨(gw_p (q := ((yX8_fold, 63) : MethodName × Nat)) (List.mem_append_right _ (List.mem_append_right _ (List.mem_append_right _ (List.mem_append_right _ (List.mem_append_right _ (List.mem_append_left _ (List.mem_of_getElem? (i := 7) (by decide +kernel)))))))) rfl), (List.forall_mem_cons.mpr ⟨(gw_1 (i := 9) (by decide +kernel) rfl), (List.forall_mem_cons.mpr ⟨(gw_6 (i := 79) (by decide +kernel) rfl), (List.forall_mem_nil _)⟩)⟩)⟩)⟩)⟩)
theorem ok8_compile : okCV RX8 yX8_compile 0 := by unfold okCV; decide +kernel
def f8_compile_L83 (k103 : MdQ → MdK → MdN → MdP → MdL → MdH → MdG → Option (Int32 × MdQ × MdK × MdN × MdP × MdL × MdH × MdG)) (N : Nat) (mT_ty : Int32) (mT_te : Nat → Int32) : Nat → Int32 → MdQ → MdK → MdN → MdP → MdL → MdH → MdG → Option (Int32 × MdQ × MdK × MdN × MdP × MdL × MdH × MdG)
  | 0, _, _, _, _, _, _, _, _ => none
  | n + 1, x1, (mQ_qc, mQ_qb, mQ_qp, mQ_qr, mQ_qC), (mK_ks, mK_kk, mK_kv, mK_kt), (mN_nn, mN_nk, mN_na, mN_nb, mN_nc, mN_ns), (mP_pa, mP_pd, mP_pf, mP_pi, mP_pr, mP_pb, mP_pF, mP_pS, mP_p0, mP_p1, mP_p2, mP_p3, mP_p4, mP_pI), (mL_lm, mL_lp, mL_ls, mL_li, mL_lk, mL_lf), (mH_ht, mH_hK, mH_hA, mH_hB, mH_hC, mH_hN, mH_h1, mH_hT, mH_hR), (mG_gf, mG_gv, mG_gt, mG_gn, mG_gX, mG_gY, mG_gM, mG_gK, mG_gR) =>
    if (256 : Int32) ≤ x1 then k103 (mQ_qc, mQ_qb, mQ_qp, mQ_qr, mQ_qC) (mK_ks, mK_kk, mK_kv, mK_kt) (mN_nn, mN_nk, mN_na, mN_nb, mN_nc, mN_ns) (mP_pa, mP_pd, mP_pf, mP_pi, mP_pr, mP_pb, mP_pF, mP_pS, mP_p0, mP_p1, mP_p2, mP_p3, mP_p4, mP_pI) (mL_lm, mL_lp, mL_ls, mL_li, mL_lk, mL_lf) (mH_ht, mH_hK, mH_hA, mH_hB, mH_hC, mH_hN, mH_h1, mH_hT, mH_hR) (mG_gf, mG_gv, mG_gt, mG_gn, mG_gX, mG_gY, mG_gM, mG_gK, mG_gR) else if x1 < 0 ∨ 256 ≤ x1.toNatClampNeg then none else nm_v (x1 + (1 : Int32)) (fun v1_48 => f8_compile_L83 k103 N mT_ty mT_te n v1_48 (mQ_qc, mQ_qb, mQ_qp, mQ_qr, mQ_qC) (mK_ks, mK_kk, mK_kv, mK_kt) (mN_nn, mN_nk, mN_na, mN_nb, mN_nc, mN_ns) (mP_pa, mP_pd, mP_pf, mP_pi, mP_pr, mP_pb, mP_pF, mP_pS, mP_p0, mP_p1, mP_p2, mP_p3, mP_p4, mP_pI) (mL_lm, mL_lp, mL_ls, mL_li, mL_lk, mL_lf) (mH_ht, mH_hK, mH_hA, mH_hB, mH_hC, mH_hN, (upd mH_h1 x1.toNatClampNeg (-1 : Int32)), mH_hT, mH_hR) (mG_gf, mG_gv, mG_gt, mG_gn, mG_gX, mG_gY, mG_gM, mG_gK, mG_gR))

def f8_compile_L135 (k167 : Int32 → MdQ → MdK → MdN → MdP → MdL → MdH → MdG → Option (Int32 × MdQ × MdK × MdN × MdP × MdL × MdH × MdG)) (N : Nat) (mT_ty : Int32) (mT_te : Nat → Int32) : Nat → Int32 → Int32 → MdQ → MdK → MdN → MdP → MdL → MdH → MdG → Option (Int32 × MdQ × MdK × MdN × MdP × MdL × MdH × MdG)
  | 0, _, _, _, _, _, _, _, _, _ => none
  | n + 1, x1, x2, (mQ_qc, mQ_qb, mQ_qp, mQ_qr, mQ_qC), (mK_ks, mK_kk, mK_kv, mK_kt), (mN_nn, mN_nk, mN_na, mN_nb, mN_nc, mN_ns), (mP_pa, mP_pd, mP_pf, mP_pi, mP_pr, mP_pb, mP_pF, mP_pS, mP_p0, mP_p1, mP_p2, mP_p3, mP_p4, mP_pI), (mL_lm, mL_lp, mL_ls, mL_li, mL_lk, mL_lf), (mH_ht, mH_hK, mH_hA, mH_hB, mH_hC, mH_hN, mH_h1, mH_hT, mH_hR), (mG_gf, mG_gv, mG_gt, mG_gn, mG_gX, mG_gY, mG_gM, mG_gK, mG_gR) =>
    if x2 < 0 then k167 x1 (mQ_qc, mQ_qb, mQ_qp, mQ_qr, mQ_qC) (mK_ks, mK_kk, mK_kv, mK_kt) (mN_nn, mN_nk, mN_na, mN_nb, mN_nc, mN_ns) (mP_pa, mP_pd, mP_pf, mP_pi, mP_pr, mP_pb, mP_pF, mP_pS, mP_p0, mP_p1, mP_p2, mP_p3, mP_p4, mP_pI) (mL_lm, mL_lp, mL_ls, mL_li, mL_lk, mL_lf) (mH_ht, mH_hK, mH_hA, mH_hB, mH_hC, mH_hN, mH_h1, mH_hT, mH_hR) (mG_gf, mG_gv, mG_gt, mG_gn, mG_gX, mG_gY, mG_gM, mG_gK, mG_gR) else if x2 < 0 ∨ 121 ≤ x2.toNatClampNeg then none else if x1 < 0 ∨ 121 ≤ x1.toNatClampNeg then none else if (mL_lf x2.toNatClampNeg) = (mL_lf x1.toNatClampNeg) then if x1 < 0 ∨ 121 ≤ x1.toNatClampNeg then none else nm_v (x2 + (-1 : Int32)) (fun v2_63 => f8_compile_L135 k167 N mT_ty mT_te n x1 v2_63 (mQ_qc, mQ_qb, mQ_qp, mQ_qr, mQ_qC) (mK_ks, mK_kk, mK_kv, mK_kt) (mN_nn, mN_nk, mN_na, mN_nb, mN_nc, mN_ns) (mP_pa, mP_pd, mP_pf, mP_pi, mP_pr, mP_pb, mP_pF, mP_pS, mP_p0, mP_p1, mP_p2, mP_p3, mP_p4, mP_pI) (mL_lm, mL_lp, mL_ls, mL_li, (upd mL_lk x1.toNatClampNeg x2), mL_lf) (mH_ht, mH_hK, mH_hA, mH_hB, mH_hC, mH_hN, mH_h1, mH_hT, mH_hR) (mG_gf, mG_gv, mG_gt, mG_gn, mG_gX, mG_gY, mG_gM, mG_gK, mG_gR)) else nm_v (x2 + (-1 : Int32)) (fun v2_62 => f8_compile_L135 k167 N mT_ty mT_te n x1 v2_62 (mQ_qc, mQ_qb, mQ_qp, mQ_qr, mQ_qC) (mK_ks, mK_kk, mK_kv, mK_kt) (mN_nn, mN_nk, mN_na, mN_nb, mN_nc, mN_ns) (mP_pa, mP_pd, mP_pf, mP_pi, mP_pr, mP_pb, mP_pF, mP_pS, mP_p0, mP_p1, mP_p2, mP_p3, mP_p4, mP_pI) (mL_lm, mL_lp, mL_ls, mL_li, mL_lk, mL_lf) (mH_ht, mH_hK, mH_hA, mH_hB, mH_hC, mH_hN, mH_h1, mH_hT, mH_hR) (mG_gf, mG_gv, mG_gt, mG_gn, mG_gX, mG_gY, mG_gM, mG_gK, mG_gR))

def f8_compile_L105 (k173 : MdQ → MdK → MdN → MdP → MdL → MdH → MdG → Option (Int32 × MdQ × MdK × MdN × MdP × MdL × MdH × MdG)) (N : Nat) (mT_ty : Int32) (mT_te : Nat → Int32) : Nat → Int32 → MdQ → MdK → MdN → MdP → MdL → MdH → MdG → Option (Int32 × MdQ × MdK × MdN × MdP × MdL × MdH × MdG)
  | 0, _, _, _, _, _, _, _, _ => none
  | n + 1, x1, (mQ_qc, mQ_qb, mQ_qp, mQ_qr, mQ_qC), (mK_ks, mK_kk, mK_kv, mK_kt), (mN_nn, mN_nk, mN_na, mN_nb, mN_nc, mN_ns), (mP_pa, mP_pd, mP_pf, mP_pi, mP_pr, mP_pb, mP_pF, mP_pS, mP_p0, mP_p1, mP_p2, mP_p3, mP_p4, mP_pI), (mL_lm, mL_lp, mL_ls, mL_li, mL_lk, mL_lf), (mH_ht, mH_hK, mH_hA, mH_hB, mH_hC, mH_hN, mH_h1, mH_hT, mH_hR), (mG_gf, mG_gv, mG_gt, mG_gn, mG_gX, mG_gY, mG_gM, mG_gK, mG_gR) =>
    if mL_lm < x1 then k173 (mQ_qc, mQ_qb, mQ_qp, mQ_qr, mQ_qC) (mK_ks, mK_kk, mK_kv, mK_kt) (mN_nn, mN_nk, mN_na, mN_nb, mN_nc, mN_ns) (mP_pa, mP_pd, mP_pf, mP_pi, mP_pr, mP_pb, mP_pF, mP_pS, mP_p0, mP_p1, mP_p2, mP_p3, mP_p4, mP_pI) (mL_lm, mL_lp, mL_ls, mL_li, mL_lk, mL_lf) (mH_ht, mH_hK, mH_hA, mH_hB, mH_hC, mH_hN, mH_h1, mH_hT, mH_hR) (mG_gf, mG_gv, mG_gt, mG_gn, mG_gX, mG_gY, mG_gM, mG_gK, mG_gR) else (f8_fold N x1 (mQ_qc, mQ_qb, mQ_qp, mQ_qr, mQ_qC) (mN_nn, mN_nk, mN_na, mN_nb, mN_nc, mN_ns) (mL_lm, mL_lp, mL_ls, mL_li, mL_lk, mL_lf) (mH_ht, mH_hK, mH_hA, mH_hB, mH_hC, mH_hN, mH_h1, mH_hT, mH_hR)).bind fun (r_51, (mH_ht_52, mH_hK_53, mH_hA_54, mH_hB_55, mH_hC_56, mH_hN_57, mH_h1_58, mH_hT_59, mH_hR_60)) => if x1 < 0 ∨ 121 ≤ x1.toNatClampNeg then none else if x1 < 0 ∨ 121 ≤ x1.toNatClampNeg then none else nm_v (x1 - (1 : Int32)) (fun v2_61 => f8_compile_L135 (fun x1_64 (mQ_qc_64, mQ_qb_64, mQ_qp_64, mQ_qr_64, mQ_qC_64) (mK_ks_64, mK_kk_64, mK_kv_64, mK_kt_64) (mN_nn_64, mN_nk_64, mN_na_64, mN_nb_64, mN_nc_64, mN_ns_64) (mP_pa_64, mP_pd_64, mP_pf_64, mP_pi_64, mP_pr_64, mP_pb_64, mP_pF_64, mP_pS_64, mP_p0_64, mP_p1_64, mP_p2_64, mP_p3_64, mP_p4_64, mP_pI_64) (mL_lm_64, mL_lp_64, mL_ls_64, mL_li_64, mL_lk_64, mL_lf_64) (mH_ht_64, mH_hK_64, mH_hA_64, mH_hB_64, mH_hC_64, mH_hN_64, mH_h1_64, mH_hT_64, mH_hR_64) (mG_gf_64, mG_gv_64, mG_gt_64, mG_gn_64, mG_gX_64, mG_gY_64, mG_gM_64, mG_gK_64, mG_gR_64) => nm_v (x1_64 + (1 : Int32)) (fun v1_65 => f8_compile_L105 k173 N mT_ty mT_te n v1_65 (mQ_qc_64, mQ_qb_64, mQ_qp_64, mQ_qr_64, mQ_qC_64) (mK_ks_64, mK_kk_64, mK_kv_64, mK_kt_64) (mN_nn_64, mN_nk_64, mN_na_64, mN_nb_64, mN_nc_64, mN_ns_64) (mP_pa_64, mP_pd_64, mP_pf_64, mP_pi_64, mP_pr_64, mP_pb_64, mP_pF_64, mP_pS_64, mP_p0_64, mP_p1_64, mP_p2_64, mP_p3_64, mP_p4_64, mP_pI_64) (mL_lm_64, mL_lp_64, mL_ls_64, mL_li_64, mL_lk_64, mL_lf_64) (mH_ht_64, mH_hK_64, mH_hA_64, mH_hB_64, mH_hC_64, mH_hN_64, mH_h1_64, mH_hT_64, mH_hR_64) (mG_gf_64, mG_gv_64, mG_gt_64, mG_gn_64, mG_gX_64, mG_gY_64, mG_gM_64, mG_gK_64, mG_gR_64))) N mT_ty mT_te N x1 v2_61 (mQ_qc, mQ_qb, mQ_qp, mQ_qr, mQ_qC) (mK_ks, mK_kk, mK_kv, mK_kt) (mN_nn, mN_nk, mN_na, mN_nb, mN_nc, mN_ns) (mP_pa, mP_pd, mP_pf, mP_pi, mP_pr, mP_pb, mP_pF, mP_pS, mP_p0, mP_p1, mP_p2, mP_p3, mP_p4, mP_pI) (mL_lm, mL_lp, mL_ls, mL_li, (upd mL_lk x1.toNatClampNeg x1), (upd mL_lf x1.toNatClampNeg r_51)) (mH_ht_52, mH_hK_53, mH_hA_54, mH_hB_55, mH_hC_56, mH_hN_57, mH_h1_58, mH_hT_59, mH_hR_60) (mG_gf, mG_gv, mG_gt, mG_gn, mG_gX, mG_gY, mG_gM, mG_gK, mG_gR))
def f8_compile (N : Nat)  : MdT → MdQ → MdK → MdN → MdP → MdL → MdH → MdG → Option (Int32 × MdQ × MdK × MdN × MdP × MdL × MdH × MdG)
  | (mT_ty, mT_te), (mQ_qc, mQ_qb, mQ_qp, mQ_qr, mQ_qC), (mK_ks, mK_kk, mK_kv, mK_kt), (mN_nn, mN_nk, mN_na, mN_nb, mN_nc, mN_ns), (mP_pa, mP_pd, mP_pf, mP_pi, mP_pr, mP_pb, mP_pF, mP_pS, mP_p0, mP_p1, mP_p2, mP_p3, mP_p4, mP_pI), (mL_lm, mL_lp, mL_ls, mL_li, mL_lk, mL_lf), (mH_ht, mH_hK, mH_hA, mH_hB, mH_hC, mH_hN, mH_h1, mH_hT, mH_hR), (mG_gf, mG_gv, mG_gt, mG_gn, mG_gX, mG_gY, mG_gM, mG_gK, mG_gR) =>
    (f8_read N (mT_ty, mT_te) (mQ_qc, mQ_qb, mQ_qp, mQ_qr, (0 : Int32)) (mK_ks, mK_kk, mK_kv, mK_kt) (mN_nn, mN_nk, mN_na, mN_nb, mN_nc, mN_ns) (mP_pa, mP_pd, mP_pf, mP_pi, mP_pr, mP_pb, mP_pF, mP_pS, mP_p0, mP_p1, mP_p2, mP_p3, mP_p4, mP_pI)).bind fun (r_2, (mQ_qc_3, mQ_qb_4, mQ_qp_5, mQ_qr_6, mQ_qC_7), (mK_ks_8, mK_kk_9, mK_kv_10, mK_kt_11), (mN_nn_12, mN_nk_13, mN_na_14, mN_nb_15, mN_nc_16, mN_ns_17), (mP_pa_18, mP_pd_19, mP_pf_20, mP_pi_21, mP_pr_22, mP_pb_23, mP_pF_24, mP_pS_25, mP_p0_26, mP_p1_27, mP_p2_28, mP_p3_29, mP_p4_30, mP_pI_31)) => if r_2 = 0 then (f8_fail (1 : Int32) (mQ_qc_3, mQ_qb_4, mQ_qp_5, mQ_qr_6, mQ_qC_7)).bind fun (r_75, (mQ_qc_76, mQ_qb_77, mQ_qp_78, mQ_qr_79, mQ_qC_80)) => some (r_75, (mQ_qc_76, mQ_qb_77, mQ_qp_78, mQ_qr_79, mQ_qC_80), (mK_ks_8, mK_kk_9, mK_kv_10, mK_kt_11), (mN_nn_12, mN_nk_13, mN_na_14, mN_nb_15, mN_nc_16, mN_ns_17), (mP_pa_18, mP_pd_19, mP_pf_20, mP_pi_21, mP_pr_22, mP_pb_23, mP_pF_24, mP_pS_25, mP_p0_26, mP_p1_27, mP_p2_28, mP_p3_29, mP_p4_30, mP_pI_31), (mL_lm, mL_lp, mL_ls, mL_li, mL_lk, mL_lf), (mH_ht, mH_hK, mH_hA, mH_hB, mH_hC, mH_hN, mH_h1, mH_hT, mH_hR), (mG_gf, mG_gv, mG_gt, mG_gn, mG_gX, mG_gY, mG_gM, mG_gK, mG_gR)) else (f8_listMutants N (0 : Int32) (mT_ty, mT_te) (mQ_qc_3, mQ_qb_4, mQ_qp_5, mQ_qr_6, mQ_qC_7) (mN_nn_12, mN_nk_13, mN_na_14, mN_nb_15, mN_nc_16, mN_ns_17) (mL_lm, mL_lp, mL_ls, mL_li, mL_lk, mL_lf)).bind fun (r_33, (mL_lm_34, mL_lp_35, mL_ls_36, mL_li_37, mL_lk_38, mL_lf_39)) => if r_33 ≤ (120 : Int32) then (f8_listMutants N (1 : Int32) (mT_ty, mT_te) (mQ_qc_3, mQ_qb_4, mQ_qp_5, mQ_qr_6, mQ_qC_7) (mN_nn_12, mN_nk_13, mN_na_14, mN_nb_15, mN_nc_16, mN_ns_17) (mL_lm_34, mL_lp_35, mL_ls_36, mL_li_37, mL_lk_38, mL_lf_39)).bind fun (r_41, (mL_lm_42, mL_lp_43, mL_ls_44, mL_li_45, mL_lk_46, mL_lf_47)) => f8_compile_L83 (fun (mQ_qc_49, mQ_qb_49, mQ_qp_49, mQ_qr_49, mQ_qC_49) (mK_ks_49, mK_kk_49, mK_kv_49, mK_kt_49) (mN_nn_49, mN_nk_49, mN_na_49, mN_nb_49, mN_nc_49, mN_ns_49) (mP_pa_49, mP_pd_49, mP_pf_49, mP_pi_49, mP_pr_49, mP_pb_49, mP_pF_49, mP_pS_49, mP_p0_49, mP_p1_49, mP_p2_49, mP_p3_49, mP_p4_49, mP_pI_49) (mL_lm_49, mL_lp_49, mL_ls_49, mL_li_49, mL_lk_49, mL_lf_49) (mH_ht_49, mH_hK_49, mH_hA_49, mH_hB_49, mH_hC_49, mH_hN_49, mH_h1_49, mH_hT_49, mH_hR_49) (mG_gf_49, mG_gv_49, mG_gt_49, mG_gn_49, mG_gX_49, mG_gY_49, mG_gM_49, mG_gK_49, mG_gR_49) => f8_compile_L105 (fun (mQ_qc_66, mQ_qb_66, mQ_qp_66, mQ_qr_66, mQ_qC_66) (mK_ks_66, mK_kk_66, mK_kv_66, mK_kt_66) (mN_nn_66, mN_nk_66, mN_na_66, mN_nb_66, mN_nc_66, mN_ns_66) (mP_pa_66, mP_pd_66, mP_pf_66, mP_pi_66, mP_pr_66, mP_pb_66, mP_pF_66, mP_pS_66, mP_p0_66, mP_p1_66, mP_p2_66, mP_p3_66, mP_p4_66, mP_pI_66) (mL_lm_66, mL_lp_66, mL_ls_66, mL_li_66, mL_lk_66, mL_lf_66) (mH_ht_66, mH_hK_66, mH_hA_66, mH_hB_66, mH_hC_66, mH_hN_66, mH_h1_66, mH_hT_66, mH_hR_66) (mG_gf_66, mG_gv_66, mG_gt_66, mG_gn_66, mG_gX_66, mG_gY_66, mG_gM_66, mG_gK_66, mG_gR_66) => some (mL_lm_66, (mQ_qc_66, mQ_qb_66, mQ_qp_66, mQ_qr_66, mQ_qC_66), (mK_ks_66, mK_kk_66, mK_kv_66, mK_kt_66), (mN_nn_66, mN_nk_66, mN_na_66, mN_nb_66, mN_nc_66, mN_ns_66), (mP_pa_66, mP_pd_66, mP_pf_66, mP_pi_66, mP_pr_66, mP_pb_66, mP_pF_66, mP_pS_66, mP_p0_66, mP_p1_66, mP_p2_66, mP_p3_66, mP_p4_66, mP_pI_66), (mL_lm_66, mL_lp_66, mL_ls_66, mL_li_66, mL_lk_66, mL_lf_66), (mH_ht_66, mH_hK_66, mH_hA_66, mH_hB_66, mH_hC_66, mH_hN_66, mH_h1_66, mH_hT_66, mH_hR_66), (mG_gf_66, mG_gv_66, mG_gt_66, mG_gn_66, mG_gX_66, mG_gY_66, mG_gM_66, mG_gK_66, mG_gR_66))) N mT_ty mT_te N (0 : Int32) (mQ_qc_49, mQ_qb_49, mQ_qp_49, mQ_qr_49, mQ_qC_49) (mK_ks_49, mK_kk_49, mK_kv_49, mK_kt_49) (mN_nn_49, mN_nk_49, mN_na_49, mN_nb_49, mN_nc_49, mN_ns_49) (mP_pa_49, mP_pd_49, mP_pf_49, mP_pi_49, mP_pr_49, mP_pb_49, mP_pF_49, mP_pS_49, mP_p0_49, mP_p1_49, mP_p2_49, mP_p3_49, mP_p4_49, mP_pI_49) (mL_lm_49, mL_lp_49, mL_ls_49, mL_li_49, mL_lk_49, mL_lf_49) (mH_ht_49, mH_hK_49, mH_hA_49, mH_hB_49, mH_hC_49, mH_hN_49, mH_h1_49, mH_hT_49, mH_hR_49) (mG_gf_49, mG_gv_49, mG_gt_49, mG_gn_49, mG_gX_49, mG_gY_49, mG_gM_49, mG_gK_49, mG_gR_49)) N mT_ty mT_te N (0 : Int32) ((1 : Int32), mQ_qp_5, mQ_qp_5, mQ_qr_6, mQ_qC_7) (mK_ks_8, mK_kk_9, mK_kv_10, mK_kt_11) (mN_nn_12, mN_nk_13, mN_na_14, mN_nb_15, mN_nc_16, mN_ns_17) (mP_pa_18, mP_pd_19, mP_pf_20, mP_pi_21, mP_pr_22, mP_pb_23, mP_pF_24, mP_pS_25, mP_p0_26, mP_p1_27, mP_p2_28, mP_p3_29, mP_p4_30, mP_pI_31) (r_41, mL_lp_43, mL_ls_44, mL_li_45, mL_lk_46, mL_lf_47) ((0 : Int32), mH_hK, mH_hA, mH_hB, mH_hC, mH_hN, mH_h1, mH_hT, mH_hR) (mG_gf, (0 : Int32), (0 : Int32), (0 : Int32), mG_gX, mG_gY, (0 : Int32), mG_gK, mG_gR) else (f8_fail (2 : Int32) (mQ_qc_3, mQ_qb_4, mQ_qp_5, mQ_qr_6, mQ_qC_7)).bind fun (r_68, (mQ_qc_69, mQ_qb_70, mQ_qp_71, mQ_qr_72, mQ_qC_73)) => some (r_68, (mQ_qc_69, mQ_qb_70, mQ_qp_71, mQ_qr_72, mQ_qC_73), (mK_ks_8, mK_kk_9, mK_kv_10, mK_kt_11), (mN_nn_12, mN_nk_13, mN_na_14, mN_nb_15, mN_nc_16, mN_ns_17), (mP_pa_18, mP_pd_19, mP_pf_20, mP_pi_21, mP_pr_22, mP_pb_23, mP_pF_24, mP_pS_25, mP_p0_26, mP_p1_27, mP_p2_28, mP_p3_29, mP_p4_30, mP_pI_31), (mL_lm_34, mL_lp_35, mL_ls_36, mL_li_37, mL_lk_38, mL_lf_39), (mH_ht, mH_hK, mH_hA, mH_hB, mH_hC, mH_hN, mH_h1, mH_hT, mH_hR), (mG_gf, mG_gv, mG_gt, mG_gn, mG_gX, mG_gY, mG_gM, mG_gK, mG_gR))
set_option maxHeartbeats 4000000 in
set_option maxRecDepth 100000 in
theorem w8_compile_L83 {V : EV} {p : Program} {l : Launch} {e : Env} {R : Room} {s : State} {m : MethodId} {args : Array Value} {below : List Frame} {meth : Method} {c : Code} {Q : State → Prop} {A : Nat → Prop} {kc ks : Nat} {ad : Nat → Nat} {mR : MdR} {mT_ty : Int32} {mT_te : Nat → Int32} {k103 : MdQ → MdK → MdN → MdP → MdL → MdH → MdG → Option (Int32 × MdQ × MdK × MdN × MdP × MdL × MdH × MdG)} {N : Nat} {res : Int32 × MdQ × MdK × MdN × MdP × MdL × MdH × MdG} (C : CX V p l R s m args c A kc ks RX8 cX8_compile 3 7 147) (K : RI V p l e R s m args below meth c Q A kc ks 3 cX8_compile .int res.1 (wM V ad (mT_ty, mT_te) res.2.1 res.2.2.1 res.2.2.2.1 res.2.2.2.2.1 res.2.2.2.2.2.1 res.2.2.2.2.2.2.1 mR res.2.2.2.2.2.2.2)) (hk103 : ∀  (mQ_qc : Int32) (mQ_qb : Int32) (mQ_qp : Int32) (mQ_qr : Int32) (mQ_qC : Int32) (mK_ks : Int32) (mK_kk : Nat → Int32) (mK_kv : Nat → Int32) (mK_kt : Nat → Int32) (mN_nn : Int32) (mN_nk : Nat → Int32) (mN_na : Nat → Int32) (mN_nb : Nat → Int32) (mN_nc : Nat → Int32) (mN_ns : Nat → Int32) (mP_pa : Int32) (mP_pd : Int32) (mP_pf : Int32) (mP_pi : Int32) (mP_pr : Int32) (mP_pb : Int32) (mP_pF : Nat → Int32) (mP_pS : Nat → Int32) (mP_p0 : Nat → Int32) (mP_p1 : Nat → Int32) (mP_p2 : Nat → Int32) (mP_p3 : Nat → Int32) (mP_p4 : Nat → Int32) (mP_pI : Nat → Int32) (mL_lm : Int32) (mL_lp : Nat → Int32) (mL_ls : Nat → Int32) (mL_li : Nat → Int32) (mL_lk : Nat → Int32) (mL_lf : Nat → Int32) (mH_ht : Int32) (mH_hK : Nat → Int32) (mH_hA : Nat → Int32) (mH_hB : Nat → Int32) (mH_hC : Nat → Int32) (mH_hN : Nat → Int32) (mH_h1 : Nat → Int32) (mH_hT : Nat → Int32) (mH_hR : Nat → Int32) (mG_gf : Int32) (mG_gv : Int32) (mG_gt : Int32) (mG_gn : Int32) (mG_gX : Nat → Int32) (mG_gY : Nat → Int32) (mG_gM : Int32) (mG_gK : Nat → Int32) (mG_gR : Nat → Int32), k103 (mQ_qc, mQ_qb, mQ_qp, mQ_qr, mQ_qC) (mK_ks, mK_kk, mK_kv, mK_kt) (mN_nn, mN_nk, mN_na, mN_nb, mN_nc, mN_ns) (mP_pa, mP_pd, mP_pf, mP_pi, mP_pr, mP_pb, mP_pF, mP_pS, mP_p0, mP_p1, mP_p2, mP_p3, mP_p4, mP_pI) (mL_lm, mL_lp, mL_ls, mL_li, mL_lk, mL_lf) (mH_ht, mH_hK, mH_hA, mH_hB, mH_hC, mH_hN, mH_h1, mH_hT, mH_hR) (mG_gf, mG_gv, mG_gt, mG_gn, mG_gX, mG_gY, mG_gM, mG_gK, mG_gR) = some res → WC V p l e R s m args below meth c Q A kc ks 3 (wM V ad (mT_ty, mT_te) (mQ_qc, mQ_qb, mQ_qp, mQ_qr, mQ_qC) (mK_ks, mK_kk, mK_kv, mK_kt) (mN_nn, mN_nk, mN_na, mN_nb, mN_nc, mN_ns) (mP_pa, mP_pd, mP_pf, mP_pi, mP_pr, mP_pb, mP_pF, mP_pS, mP_p0, mP_p1, mP_p2, mP_p3, mP_p4, mP_pI) (mL_lm, mL_lp, mL_ls, mL_li, mL_lk, mL_lf) (mH_ht, mH_hK, mH_hA, mH_hB, mH_hC, mH_hN, mH_h1, mH_hT, mH_hR) mR (mG_gf, mG_gv, mG_gt, mG_gn, mG_gX, mG_gY, mG_gM, mG_gK, mG_gR)) 103 [(0, .ref (ad 0))] []) : ∀ (n : Nat) (x1 : Int32) (mQ_qc : Int32) (mQ_qb : Int32) (mQ_qp : Int32) (mQ_qr : Int32) (mQ_qC : Int32) (mK_ks : Int32) (mK_kk : Nat → Int32) (mK_kv : Nat → Int32) (mK_kt : Nat → Int32) (mN_nn : Int32) (mN_nk : Nat → Int32) (mN_na : Nat → Int32) (mN_nb : Nat → Int32) (mN_nc : Nat → Int32) (mN_ns : Nat → Int32) (mP_pa : Int32) (mP_pd : Int32) (mP_pf : Int32) (mP_pi : Int32) (mP_pr : Int32) (mP_pb : Int32) (mP_pF : Nat → Int32) (mP_pS : Nat → Int32) (mP_p0 : Nat → Int32) (mP_p1 : Nat → Int32) (mP_p2 : Nat → Int32) (mP_p3 : Nat → Int32) (mP_p4 : Nat → Int32) (mP_pI : Nat → Int32) (mL_lm : Int32) (mL_lp : Nat → Int32) (mL_ls : Nat → Int32) (mL_li : Nat → Int32) (mL_lk : Nat → Int32) (mL_lf : Nat → Int32) (mH_ht : Int32) (mH_hK : Nat → Int32) (mH_hA : Nat → Int32) (mH_hB : Nat → Int32) (mH_hC : Nat → Int32) (mH_hN : Nat → Int32) (mH_h1 : Nat → Int32) (mH_hT : Nat → Int32) (mH_hR : Nat → Int32) (mG_gf : Int32) (mG_gv : Int32) (mG_gt : Int32) (mG_gn : Int32) (mG_gX : Nat → Int32) (mG_gY : Nat → Int32) (mG_gM : Int32) (mG_gK : Nat → Int32) (mG_gR : Nat → Int32), f8_compile_L83 k103 N mT_ty mT_te n x1 (mQ_qc, mQ_qb, mQ_qp, mQ_qr, mQ_qC) (mK_ks, mK_kk, mK_kv, mK_kt) (mN_nn, mN_nk, mN_na, mN_nb, mN_nc, mN_ns) (mP_pa, mP_pd, mP_pf, mP_pi, mP_pr, mP_pb, mP_pF, mP_pS, mP_p0, mP_p1, mP_p2, mP_p3, mP_p4, mP_pI) (mL_lm, mL_lp, mL_ls, mL_li, mL_lk, mL_lf) (mH_ht, mH_hK, mH_hA, mH_hB, mH_hC, mH_hN, mH_h1, mH_hT, mH_hR) (mG_gf, mG_gv, mG_gt, mG_gn, mG_gX, mG_gY, mG_gM, mG_gK, mG_gR) = some res → WC V p l e R s m args below meth c Q A kc ks 3 (wM V ad (mT_ty, mT_te) (mQ_qc, mQ_qb, mQ_qp, mQ_qr, mQ_qC) (mK_ks, mK_kk, mK_kv, mK_kt) (mN_nn, mN_nk, mN_na, mN_nb, mN_nc, mN_ns) (mP_pa, mP_pd, mP_pf, mP_pi, mP_pr, mP_pb, mP_pF, mP_pS, mP_p0, mP_p1, mP_p2, mP_p3, mP_p4, mP_pI) (mL_lm, mL_lp, mL_ls, mL_li, mL_lk, mL_lf) (mH_ht, mH_hK, mH_hA, mH_hB, mH_hC, mH_hN, mH_h1, mH_hT, mH_hR) mR (mG_gf, mG_gv, mG_gt, mG_gn, mG_gX, mG_gY, mG_gM, mG_gK, mG_gR)) 83 [(0, .ref (ad 0)), (1, .int x1)] [] := by
  intro n
  induction n with
  | zero => intro _ _ _ _ _ _ _ _ _ _ _ _ _ _ _ _ _ _ _ _ _ _ _ _ _ _ _ _ _ _ _ _ _ _ _ _ _ _ _ _ _ _ _ _ _ _ _ _ _ _ _ _ _ _ hf; exact nomatch (show none = some res from hf)
  | succ n ih =>
    intro x1 mQ_qc mQ_qb mQ_qp mQ_qr mQ_qC mK_ks mK_kk mK_kv mK_kt mN_nn mN_nk mN_na mN_nb mN_nc mN_ns mP_pa mP_pd mP_pf mP_pi mP_pr mP_pb mP_pF mP_pS mP_p0 mP_p1 mP_p2 mP_p3 mP_p4 mP_pI mL_lm mL_lp mL_ls mL_li mL_lk mL_lf mH_ht mH_hK mH_hA mH_hB mH_hC mH_hN mH_h1 mH_hT mH_hR mG_gf mG_gv mG_gt mG_gn mG_gX mG_gY mG_gM mG_gK mG_gR hf
    rw [f8_compile_L83] at hf
    refine k_iload_n C dX8_compile_83 1 rfl ?_
    refine k_sipush (v := (256 : Int32)) C dX8_compile_84 (by decide) ?_
    refine k_icmp_ge C 103 dX8_compile_87 (by decide) (fun hc => ?_) (fun hc => ?_)
    · replace hf := (if_pos hc).symm.trans hf
      refine k_sub [0] (L' := [(0, .ref (ad 0))]) rfl ?_
      exact hk103 _ _ _ _ _ _ _ _ _ _ _ _ _ _ _ _ _ _ _ _ _ _ _ _ _ _ _ _ _ _ _ _ _ _ _ _ _ _ _ _ _ _ _ _ _ _ _ _ _ _ _ _ _ hf
    · replace hf := (if_neg hc).symm.trans hf
      refine k_aload_n C dX8_compile_90 0 rfl ?_
      refine g8_91 C dX8_compile_91 ?_
      refine k_iload_n C dX8_compile_94 1 rfl ?_
      refine k_iconst (v := (-1 : Int32)) C dX8_compile_95 (by decide) ?_
      obtain ⟨hi, hf⟩ := gd_no hf
      refine sm28 C hi dX8_compile_96 ?_
      obtain ⟨v1_48, ev1_48⟩ : ∃ y : Int32, y = x1 + (1 : Int32) := ⟨_, rfl⟩
      replace hf := nm_el hf ev1_48
      refine k_iinc (v := v1_48) C dX8_compile_97 1 rfl (by rw [ev1_48]; rfl) [(1, .int v1_48), (0, .ref (ad 0))] (by decide) rfl ?_
      refine k_goto C 83 dX8_compile_100 (by decide) ?_
      refine k_sub [1, 0] (L' := [(0, .ref (ad 0)), (1, .int v1_48)]) rfl ?_
      exact ih _ _ _ _ _ _ _ _ _ _ _ _ _ _ _ _ _ _ _ _ _ _ _ _ _ _ _ _ _ _ _ _ _ _ _ _ _ _ _ _ _ _ _ _ _ _ _ _ _ _ _ _ _ _ hf

set_option maxHeartbeats 4000000 in
set_option maxRecDepth 100000 in
theorem w8_compile_L135 {V : EV} {p : Program} {l : Launch} {e : Env} {R : Room} {s : State} {m : MethodId} {args : Array Value} {below : List Frame} {meth : Method} {c : Code} {Q : State → Prop} {A : Nat → Prop} {kc ks : Nat} {ad : Nat → Nat} {mR : MdR} {mT_ty : Int32} {mT_te : Nat → Int32} {k167 : Int32 → MdQ → MdK → MdN → MdP → MdL → MdH → MdG → Option (Int32 × MdQ × MdK × MdN × MdP × MdL × MdH × MdG)} {N : Nat} {res : Int32 × MdQ × MdK × MdN × MdP × MdL × MdH × MdG} (C : CX V p l R s m args c A kc ks RX8 cX8_compile 3 7 147) (K : RI V p l e R s m args below meth c Q A kc ks 3 cX8_compile .int res.1 (wM V ad (mT_ty, mT_te) res.2.1 res.2.2.1 res.2.2.2.1 res.2.2.2.2.1 res.2.2.2.2.2.1 res.2.2.2.2.2.2.1 mR res.2.2.2.2.2.2.2)) (hk167 : ∀ (x1 : Int32) (mQ_qc : Int32) (mQ_qb : Int32) (mQ_qp : Int32) (mQ_qr : Int32) (mQ_qC : Int32) (mK_ks : Int32) (mK_kk : Nat → Int32) (mK_kv : Nat → Int32) (mK_kt : Nat → Int32) (mN_nn : Int32) (mN_nk : Nat → Int32) (mN_na : Nat → Int32) (mN_nb : Nat → Int32) (mN_nc : Nat → Int32) (mN_ns : Nat → Int32) (mP_pa : Int32) (mP_pd : Int32) (mP_pf : Int32) (mP_pi : Int32) (mP_pr : Int32) (mP_pb : Int32) (mP_pF : Nat → Int32) (mP_pS : Nat → Int32) (mP_p0 : Nat → Int32) (mP_p1 : Nat → Int32) (mP_p2 : Nat → Int32) (mP_p3 : Nat → Int32) (mP_p4 : Nat → Int32) (mP_pI : Nat → Int32) (mL_lm : Int32) (mL_lp : Nat → Int32) (mL_ls : Nat → Int32) (mL_li : Nat → Int32) (mL_lk : Nat → Int32) (mL_lf : Nat → Int32) (mH_ht : Int32) (mH_hK : Nat → Int32) (mH_hA : Nat → Int32) (mH_hB : Nat → Int32) (mH_hC : Nat → Int32) (mH_hN : Nat → Int32) (mH_h1 : Nat → Int32) (mH_hT : Nat → Int32) (mH_hR : Nat → Int32) (mG_gf : Int32) (mG_gv : Int32) (mG_gt : Int32) (mG_gn : Int32) (mG_gX : Nat → Int32) (mG_gY : Nat → Int32) (mG_gM : Int32) (mG_gK : Nat → Int32) (mG_gR : Nat → Int32), k167 x1 (mQ_qc, mQ_qb, mQ_qp, mQ_qr, mQ_qC) (mK_ks, mK_kk, mK_kv, mK_kt) (mN_nn, mN_nk, mN_na, mN_nb, mN_nc, mN_ns) (mP_pa, mP_pd, mP_pf, mP_pi, mP_pr, mP_pb, mP_pF, mP_pS, mP_p0, mP_p1, mP_p2, mP_p3, mP_p4, mP_pI) (mL_lm, mL_lp, mL_ls, mL_li, mL_lk, mL_lf) (mH_ht, mH_hK, mH_hA, mH_hB, mH_hC, mH_hN, mH_h1, mH_hT, mH_hR) (mG_gf, mG_gv, mG_gt, mG_gn, mG_gX, mG_gY, mG_gM, mG_gK, mG_gR) = some res → WC V p l e R s m args below meth c Q A kc ks 3 (wM V ad (mT_ty, mT_te) (mQ_qc, mQ_qb, mQ_qp, mQ_qr, mQ_qC) (mK_ks, mK_kk, mK_kv, mK_kt) (mN_nn, mN_nk, mN_na, mN_nb, mN_nc, mN_ns) (mP_pa, mP_pd, mP_pf, mP_pi, mP_pr, mP_pb, mP_pF, mP_pS, mP_p0, mP_p1, mP_p2, mP_p3, mP_p4, mP_pI) (mL_lm, mL_lp, mL_ls, mL_li, mL_lk, mL_lf) (mH_ht, mH_hK, mH_hA, mH_hB, mH_hC, mH_hN, mH_h1, mH_hT, mH_hR) mR (mG_gf, mG_gv, mG_gt, mG_gn, mG_gX, mG_gY, mG_gM, mG_gK, mG_gR)) 167 [(0, .ref (ad 0)), (1, .int x1)] []) : ∀ (n : Nat) (x1 : Int32) (x2 : Int32) (mQ_qc : Int32) (mQ_qb : Int32) (mQ_qp : Int32) (mQ_qr : Int32) (mQ_qC : Int32) (mK_ks : Int32) (mK_kk : Nat → Int32) (mK_kv : Nat → Int32) (mK_kt : Nat → Int32) (mN_nn : Int32) (mN_nk : Nat → Int32) (mN_na : Nat → Int32) (mN_nb : Nat → Int32) (mN_nc : Nat → Int32) (mN_ns : Nat → Int32) (mP_pa : Int32) (mP_pd : Int32) (mP_pf : Int32) (mP_pi : Int32) (mP_pr : Int32) (mP_pb : Int32) (mP_pF : Nat → Int32) (mP_pS : Nat → Int32) (mP_p0 : Nat → Int32) (mP_p1 : Nat → Int32) (mP_p2 : Nat → Int32) (mP_p3 : Nat → Int32) (mP_p4 : Nat → Int32) (mP_pI : Nat → Int32) (mL_lm : Int32) (mL_lp : Nat → Int32) (mL_ls : Nat → Int32) (mL_li : Nat → Int32) (mL_lk : Nat → Int32) (mL_lf : Nat → Int32) (mH_ht : Int32) (mH_hK : Nat → Int32) (mH_hA : Nat → Int32) (mH_hB : Nat → Int32) (mH_hC : Nat → Int32) (mH_hN : Nat → Int32) (mH_h1 : Nat → Int32) (mH_hT : Nat → Int32) (mH_hR : Nat → Int32) (mG_gf : Int32) (mG_gv : Int32) (mG_gt : Int32) (mG_gn : Int32) (mG_gX : Nat → Int32) (mG_gY : Nat → Int32) (mG_gM : Int32) (mG_gK : Nat → Int32) (mG_gR : Nat → Int32), f8_compile_L135 k167 N mT_ty mT_te n x1 x2 (mQ_qc, mQ_qb, mQ_qp, mQ_qr, mQ_qC) (mK_ks, mK_kk, mK_kv, mK_kt) (mN_nn, mN_nk, mN_na, mN_nb, mN_nc, mN_ns) (mP_pa, mP_pd, mP_pf, mP_pi, mP_pr, mP_pb, mP_pF, mP_pS, mP_p0, mP_p1, mP_p2, mP_p3, mP_p4, mP_pI) (mL_lm, mL_lp, mL_ls, mL_li, mL_lk, mL_lf) (mH_ht, mH_hK, mH_hA, mH_hB, mH_hC, mH_hN, mH_h1, mH_hT, mH_hR) (mG_gf, mG_gv, mG_gt, mG_gn, mG_gX, mG_gY, mG_gM, mG_gK, mG_gR) = some res → WC V p l e R s m args below meth c Q A kc ks 3 (wM V ad (mT_ty, mT_te) (mQ_qc, mQ_qb, mQ_qp, mQ_qr, mQ_qC) (mK_ks, mK_kk, mK_kv, mK_kt) (mN_nn, mN_nk, mN_na, mN_nb, mN_nc, mN_ns) (mP_pa, mP_pd, mP_pf, mP_pi, mP_pr, mP_pb, mP_pF, mP_pS, mP_p0, mP_p1, mP_p2, mP_p3, mP_p4, mP_pI) (mL_lm, mL_lp, mL_ls, mL_li, mL_lk, mL_lf) (mH_ht, mH_hK, mH_hA, mH_hB, mH_hC, mH_hN, mH_h1, mH_hT, mH_hR) mR (mG_gf, mG_gv, mG_gt, mG_gn, mG_gX, mG_gY, mG_gM, mG_gK, mG_gR)) 135 [(0, .ref (ad 0)), (1, .int x1), (2, .int x2)] [] := by
  intro n
  induction n with
  | zero => intro _ _ _ _ _ _ _ _ _ _ _ _ _ _ _ _ _ _ _ _ _ _ _ _ _ _ _ _ _ _ _ _ _ _ _ _ _ _ _ _ _ _ _ _ _ _ _ _ _ _ _ _ _ _ _ hf; exact nomatch (show none = some res from hf)
  | succ n ih =>
    intro x1 x2 mQ_qc mQ_qb mQ_qp mQ_qr mQ_qC mK_ks mK_kk mK_kv mK_kt mN_nn mN_nk mN_na mN_nb mN_nc mN_ns mP_pa mP_pd mP_pf mP_pi mP_pr mP_pb mP_pF mP_pS mP_p0 mP_p1 mP_p2 mP_p3 mP_p4 mP_pI mL_lm mL_lp mL_ls mL_li mL_lk mL_lf mH_ht mH_hK mH_hA mH_hB mH_hC mH_hN mH_h1 mH_hT mH_hR mG_gf mG_gv mG_gt mG_gn mG_gX mG_gY mG_gM mG_gK mG_gR hf
    rw [f8_compile_L135] at hf
    refine k_iload_n C dX8_compile_135 2 rfl ?_
    refine k_if_lt C 167 dX8_compile_136 (by decide) (fun hc => ?_) (fun hc => ?_)
    · replace hf := (if_pos hc).symm.trans hf
      refine k_sub [0, 1] (L' := [(0, .ref (ad 0)), (1, .int x1)]) rfl ?_
      exact hk167 _ _ _ _ _ _ _ _ _ _ _ _ _ _ _ _ _ _ _ _ _ _ _ _ _ _ _ _ _ _ _ _ _ _ _ _ _ _ _ _ _ _ _ _ _ _ _ _ _ _ _ _ _ _ hf
    · replace hf := (if_neg hc).symm.trans hf
      refine k_aload_n C dX8_compile_139 0 rfl ?_
      refine g8_73 C dX8_compile_140 ?_
      refine k_iload_n C dX8_compile_143 2 rfl ?_
      obtain ⟨hi, hf⟩ := gd_no hf
      refine lm22 C hi dX8_compile_144 ?_
      refine k_aload_n C dX8_compile_145 0 rfl ?_
      refine g8_73 C dX8_compile_146 ?_
      refine k_iload_n C dX8_compile_149 1 rfl ?_
      obtain ⟨hi, hf⟩ := gd_no hf
      refine lm22 C hi dX8_compile_150 ?_
      refine k_icmp_ne C 161 dX8_compile_151 (by decide) (fun hc => ?_) (fun hc => ?_)
      · replace hf := (if_neg hc).symm.trans hf
        obtain ⟨v2_62, ev2_62⟩ : ∃ y : Int32, y = x2 + (-1 : Int32) := ⟨_, rfl⟩
        replace hf := nm_el hf ev2_62
        refine k_iinc (v := v2_62) C dX8_compile_161 2 rfl (by rw [ev2_62]; rfl) [(2, .int v2_62), (0, .ref (ad 0)), (1, .int x1)] (by decide) rfl ?_
        refine k_goto C 135 dX8_compile_164 (by decide) ?_
        refine k_sub [1, 2, 0] (L' := [(0, .ref (ad 0)), (1, .int x1), (2, .int v2_62)]) rfl ?_
        exact ih _ _ _ _ _ _ _ _ _ _ _ _ _ _ _ _ _ _ _ _ _ _ _ _ _ _ _ _ _ _ _ _ _ _ _ _ _ _ _ _ _ _ _ _ _ _ _ _ _ _ _ _ _ _ _ hf
      · replace hf := (if_pos hc).symm.trans hf
        refine k_aload_n C dX8_compile_154 0 rfl ?_
        refine g8_70 C dX8_compile_155 ?_
        refine k_iload_n C dX8_compile_158 1 rfl ?_
        refine k_iload_n C dX8_compile_159 2 rfl ?_
        obtain ⟨hi, hf⟩ := gd_no hf
        refine sm21 C hi dX8_compile_160 ?_
        obtain ⟨v2_63, ev2_63⟩ : ∃ y : Int32, y = x2 + (-1 : Int32) := ⟨_, rfl⟩
        replace hf := nm_el hf ev2_63
        refine k_iinc (v := v2_63) C dX8_compile_161 2 rfl (by rw [ev2_63]; rfl) [(2, .int v2_63), (0, .ref (ad 0)), (1, .int x1)] (by decide) rfl ?_
        refine k_goto C 135 dX8_compile_164 (by decide) ?_
        refine k_sub [1, 2, 0] (L' := [(0, .ref (ad 0)), (1, .int x1), (2, .int v2_63)]) rfl ?_
        exact ih _ _ _ _ _ _ _ _ _ _ _ _ _ _ _ _ _ _ _ _ _ _ _ _ _ _ _ _ _ _ _ _ _ _ _ _ _ _ _ _ _ _ _ _ _ _ _ _ _ _ _ _ _ _ _ hf

set_option maxHeartbeats 4000000 in
set_option maxRecDepth 100000 in
theorem w8_compile_L105 {V : EV} {p : Program} {l : Launch} {e : Env} {R : Room} {s : State} {m : MethodId} {args : Array Value} {below : List Frame} {meth : Method} {c : Code} {Q : State → Prop} {A : Nat → Prop} {kc ks : Nat} {ad : Nat → Nat} {mR : MdR} {mT_ty : Int32} {mT_te : Nat → Int32} {k173 : MdQ → MdK → MdN → MdP → MdL → MdH → MdG → Option (Int32 × MdQ × MdK × MdN × MdP × MdL × MdH × MdG)} {N : Nat} {res : Int32 × MdQ × MdK × MdN × MdP × MdL × MdH × MdG} (C : CX V p l R s m args c A kc ks RX8 cX8_compile 3 7 147) (K : RI V p l e R s m args below meth c Q A kc ks 3 cX8_compile .int res.1 (wM V ad (mT_ty, mT_te) res.2.1 res.2.2.1 res.2.2.2.1 res.2.2.2.2.1 res.2.2.2.2.2.1 res.2.2.2.2.2.2.1 mR res.2.2.2.2.2.2.2)) (hk173 : ∀  (mQ_qc : Int32) (mQ_qb : Int32) (mQ_qp : Int32) (mQ_qr : Int32) (mQ_qC : Int32) (mK_ks : Int32) (mK_kk : Nat → Int32) (mK_kv : Nat → Int32) (mK_kt : Nat → Int32) (mN_nn : Int32) (mN_nk : Nat → Int32) (mN_na : Nat → Int32) (mN_nb : Nat → Int32) (mN_nc : Nat → Int32) (mN_ns : Nat → Int32) (mP_pa : Int32) (mP_pd : Int32) (mP_pf : Int32) (mP_pi : Int32) (mP_pr : Int32) (mP_pb : Int32) (mP_pF : Nat → Int32) (mP_pS : Nat → Int32) (mP_p0 : Nat → Int32) (mP_p1 : Nat → Int32) (mP_p2 : Nat → Int32) (mP_p3 : Nat → Int32) (mP_p4 : Nat → Int32) (mP_pI : Nat → Int32) (mL_lm : Int32) (mL_lp : Nat → Int32) (mL_ls : Nat → Int32) (mL_li : Nat → Int32) (mL_lk : Nat → Int32) (mL_lf : Nat → Int32) (mH_ht : Int32) (mH_hK : Nat → Int32) (mH_hA : Nat → Int32) (mH_hB : Nat → Int32) (mH_hC : Nat → Int32) (mH_hN : Nat → Int32) (mH_h1 : Nat → Int32) (mH_hT : Nat → Int32) (mH_hR : Nat → Int32) (mG_gf : Int32) (mG_gv : Int32) (mG_gt : Int32) (mG_gn : Int32) (mG_gX : Nat → Int32) (mG_gY : Nat → Int32) (mG_gM : Int32) (mG_gK : Nat → Int32) (mG_gR : Nat → Int32), k173 (mQ_qc, mQ_qb, mQ_qp, mQ_qr, mQ_qC) (mK_ks, mK_kk, mK_kv, mK_kt) (mN_nn, mN_nk, mN_na, mN_nb, mN_nc, mN_ns) (mP_pa, mP_pd, mP_pf, mP_pi, mP_pr, mP_pb, mP_pF, mP_pS, mP_p0, mP_p1, mP_p2, mP_p3, mP_p4, mP_pI) (mL_lm, mL_lp, mL_ls, mL_li, mL_lk, mL_lf) (mH_ht, mH_hK, mH_hA, mH_hB, mH_hC, mH_hN, mH_h1, mH_hT, mH_hR) (mG_gf, mG_gv, mG_gt, mG_gn, mG_gX, mG_gY, mG_gM, mG_gK, mG_gR) = some res → WC V p l e R s m args below meth c Q A kc ks 3 (wM V ad (mT_ty, mT_te) (mQ_qc, mQ_qb, mQ_qp, mQ_qr, mQ_qC) (mK_ks, mK_kk, mK_kv, mK_kt) (mN_nn, mN_nk, mN_na, mN_nb, mN_nc, mN_ns) (mP_pa, mP_pd, mP_pf, mP_pi, mP_pr, mP_pb, mP_pF, mP_pS, mP_p0, mP_p1, mP_p2, mP_p3, mP_p4, mP_pI) (mL_lm, mL_lp, mL_ls, mL_li, mL_lk, mL_lf) (mH_ht, mH_hK, mH_hA, mH_hB, mH_hC, mH_hN, mH_h1, mH_hT, mH_hR) mR (mG_gf, mG_gv, mG_gt, mG_gn, mG_gX, mG_gY, mG_gM, mG_gK, mG_gR)) 173 [(0, .ref (ad 0))] []) : ∀ (n : Nat) (x1 : Int32) (mQ_qc : Int32) (mQ_qb : Int32) (mQ_qp : Int32) (mQ_qr : Int32) (mQ_qC : Int32) (mK_ks : Int32) (mK_kk : Nat → Int32) (mK_kv : Nat → Int32) (mK_kt : Nat → Int32) (mN_nn : Int32) (mN_nk : Nat → Int32) (mN_na : Nat → Int32) (mN_nb : Nat → Int32) (mN_nc : Nat → Int32) (mN_ns : Nat → Int32) (mP_pa : Int32) (mP_pd : Int32) (mP_pf : Int32) (mP_pi : Int32) (mP_pr : Int32) (mP_pb : Int32) (mP_pF : Nat → Int32) (mP_pS : Nat → Int32) (mP_p0 : Nat → Int32) (mP_p1 : Nat → Int32) (mP_p2 : Nat → Int32) (mP_p3 : Nat → Int32) (mP_p4 : Nat → Int32) (mP_pI : Nat → Int32) (mL_lm : Int32) (mL_lp : Nat → Int32) (mL_ls : Nat → Int32) (mL_li : Nat → Int32) (mL_lk : Nat → Int32) (mL_lf : Nat → Int32) (mH_ht : Int32) (mH_hK : Nat → Int32) (mH_hA : Nat → Int32) (mH_hB : Nat → Int32) (mH_hC : Nat → Int32) (mH_hN : Nat → Int32) (mH_h1 : Nat → Int32) (mH_hT : Nat → Int32) (mH_hR : Nat → Int32) (mG_gf : Int32) (mG_gv : Int32) (mG_gt : Int32) (mG_gn : Int32) (mG_gX : Nat → Int32) (mG_gY : Nat → Int32) (mG_gM : Int32) (mG_gK : Nat → Int32) (mG_gR : Nat → Int32), f8_compile_L105 k173 N mT_ty mT_te n x1 (mQ_qc, mQ_qb, mQ_qp, mQ_qr, mQ_qC) (mK_ks, mK_kk, mK_kv, mK_kt) (mN_nn, mN_nk, mN_na, mN_nb, mN_nc, mN_ns) (mP_pa, mP_pd, mP_pf, mP_pi, mP_pr, mP_pb, mP_pF, mP_pS, mP_p0, mP_p1, mP_p2, mP_p3, mP_p4, mP_pI) (mL_lm, mL_lp, mL_ls, mL_li, mL_lk, mL_lf) (mH_ht, mH_hK, mH_hA, mH_hB, mH_hC, mH_hN, mH_h1, mH_hT, mH_hR) (mG_gf, mG_gv, mG_gt, mG_gn, mG_gX, mG_gY, mG_gM, mG_gK, mG_gR) = some res → WC V p l e R s m args below meth c Q A kc ks 3 (wM V ad (mT_ty, mT_te) (mQ_qc, mQ_qb, mQ_qp, mQ_qr, mQ_qC) (mK_ks, mK_kk, mK_kv, mK_kt) (mN_nn, mN_nk, mN_na, mN_nb, mN_nc, mN_ns) (mP_pa, mP_pd, mP_pf, mP_pi, mP_pr, mP_pb, mP_pF, mP_pS, mP_p0, mP_p1, mP_p2, mP_p3, mP_p4, mP_pI) (mL_lm, mL_lp, mL_ls, mL_li, mL_lk, mL_lf) (mH_ht, mH_hK, mH_hA, mH_hB, mH_hC, mH_hN, mH_h1, mH_hT, mH_hR) mR (mG_gf, mG_gv, mG_gt, mG_gn, mG_gX, mG_gY, mG_gM, mG_gK, mG_gR)) 105 [(0, .ref (ad 0)), (1, .int x1)] [] := by
  intro n
  induction n with
  | zero => intro _ _ _ _ _ _ _ _ _ _ _ _ _ _ _ _ _ _ _ _ _ _ _ _ _ _ _ _ _ _ _ _ _ _ _ _ _ _ _ _ _ _ _ _ _ _ _ _ _ _ _ _ _ _ hf; exact nomatch (show none = some res from hf)
  | succ n ih =>
    intro x1 mQ_qc mQ_qb mQ_qp mQ_qr mQ_qC mK_ks mK_kk mK_kv mK_kt mN_nn mN_nk mN_na mN_nb mN_nc mN_ns mP_pa mP_pd mP_pf mP_pi mP_pr mP_pb mP_pF mP_pS mP_p0 mP_p1 mP_p2 mP_p3 mP_p4 mP_pI mL_lm mL_lp mL_ls mL_li mL_lk mL_lf mH_ht mH_hK mH_hA mH_hB mH_hC mH_hN mH_h1 mH_hT mH_hR mG_gf mG_gv mG_gt mG_gn mG_gX mG_gY mG_gM mG_gK mG_gR hf
    rw [f8_compile_L105] at hf
    refine k_iload_n C dX8_compile_105 1 rfl ?_
    refine k_aload_n C dX8_compile_106 0 rfl ?_
    refine g8_262 C dX8_compile_107 ?_
    refine k_icmp_gt C 173 dX8_compile_110 (by decide) (fun hc => ?_) (fun hc => ?_)
    · replace hf := (if_pos hc).symm.trans hf
      refine k_sub [0] (L' := [(0, .ref (ad 0))]) rfl ?_
      exact hk173 _ _ _ _ _ _ _ _ _ _ _ _ _ _ _ _ _ _ _ _ _ _ _ _ _ _ _ _ _ _ _ _ _ _ _ _ _ _ _ _ _ _ _ _ _ _ _ _ _ _ _ _ _ hf
    · replace hf := (if_neg hc).symm.trans hf
      refine k_aload_n C dX8_compile_113 0 rfl ?_
      refine g8_73 C dX8_compile_114 ?_
      refine k_iload_n C dX8_compile_117 1 rfl ?_
      refine k_aload_n C dX8_compile_118 0 rfl ?_
      refine k_iload_n C dX8_compile_119 1 rfl ?_
      obtain ⟨⟨r_51, ⟨mH_ht_52, mH_hK_53, mH_hA_54, mH_hB_55, mH_hC_56, mH_hN_57, mH_h1_58, mH_hT_59, mH_hR_60⟩⟩, hq_50, hf⟩ := ob_el hf
      dsimp only at hf
      refine k_callVi C (c8_fold C.2.2.2.2.2.2.2.2.2.1 hq_50) cm8_283 ok8_fold (by decide) 0 rfl rfl rfl rfl (Nat.le_of_ble_eq_true rfl) dX8_compile_120 ?_
      obtain ⟨hi, hf⟩ := gd_no hf
      refine sm22 C hi dX8_compile_123 ?_
      refine k_aload_n C dX8_compile_124 0 rfl ?_
      refine g8_70 C dX8_compile_125 ?_
      refine k_iload_n C dX8_compile_128 1 rfl ?_
      refine k_iload_n C dX8_compile_129 1 rfl ?_
      obtain ⟨hi, hf⟩ := gd_no hf
      refine sm21 C hi dX8_compile_130 ?_
      refine k_iload_n C dX8_compile_131 1 rfl ?_
      refine k_iconst (v := (1 : Int32)) C dX8_compile_132 (by decide) ?_
      refine k_isub C dX8_compile_133 ?_
      refine k_topi (fun v2_61 ev2_61 => ?_)
      replace hf := nm_el hf ev2_61
      refine k_istore_n C dX8_compile_134 [(2, .int v2_61), (0, .ref (ad 0)), (1, .int x1)] (by decide) rfl ?_
      refine k_sub [1, 2, 0] (L' := [(0, .ref (ad 0)), (1, .int x1), (2, .int v2_61)]) rfl ?_
      refine w8_compile_L135 C K ?_ _ _ _ _ _ _ _ _ _ _ _ _ _ _ _ _ _ _ _ _ _ _ _ _ _ _ _ _ _ _ _ _ _ _ _ _ _ _ _ _ _ _ _ _ _ _ _ _ _ _ _ _ _ _ _ _ hf
      · intro x1_64 mQ_qc_64 mQ_qb_64 mQ_qp_64 mQ_qr_64 mQ_qC_64 mK_ks_64 mK_kk_64 mK_kv_64 mK_kt_64 mN_nn_64 mN_nk_64 mN_na_64 mN_nb_64 mN_nc_64 mN_ns_64 mP_pa_64 mP_pd_64 mP_pf_64 mP_pi_64 mP_pr_64 mP_pb_64 mP_pF_64 mP_pS_64 mP_p0_64 mP_p1_64 mP_p2_64 mP_p3_64 mP_p4_64 mP_pI_64 mL_lm_64 mL_lp_64 mL_ls_64 mL_li_64 mL_lk_64 mL_lf_64 mH_ht_64 mH_hK_64 mH_hA_64 mH_hB_64 mH_hC_64 mH_hN_64 mH_h1_64 mH_hT_64 mH_hR_64 mG_gf_64 mG_gv_64 mG_gt_64 mG_gn_64 mG_gX_64 mG_gY_64 mG_gM_64 mG_gK_64 mG_gR_64 hf
        try dsimp only at hf
        obtain ⟨v1_65, ev1_65⟩ : ∃ y : Int32, y = x1_64 + (1 : Int32) := ⟨_, rfl⟩
        replace hf := nm_el hf ev1_65
        refine k_iinc (v := v1_65) C dX8_compile_167 1 rfl (by rw [ev1_65]; rfl) [(1, .int v1_65), (0, .ref (ad 0))] (by decide) rfl ?_
        refine k_goto C 105 dX8_compile_170 (by decide) ?_
        refine k_sub [1, 0] (L' := [(0, .ref (ad 0)), (1, .int v1_65)]) rfl ?_
        exact ih _ _ _ _ _ _ _ _ _ _ _ _ _ _ _ _ _ _ _ _ _ _ _ _ _ _ _ _ _ _ _ _ _ _ _ _ _ _ _ _ _ _ _ _ _ _ _ _ _ _ _ _ _ _ hf
set_option maxHeartbeats 4000000 in
set_option maxRecDepth 100000 in
theorem b8_compile {V : EV} {p : Program} {l : Launch} {e : Env} {R : Room} {s : State} {m : MethodId} {args : Array Value} {below : List Frame} {meth : Method} {c : Code} {Q : State → Prop} {A : Nat → Prop} {kc ks : Nat} {ad : Nat → Nat} {mR : MdR} {mT_ty : Int32} {mT_te : Nat → Int32} {mQ_qc : Int32} {mQ_qb : Int32} {mQ_qp : Int32} {mQ_qr : Int32} {mQ_qC : Int32} {mK_ks : Int32} {mK_kk : Nat → Int32} {mK_kv : Nat → Int32} {mK_kt : Nat → Int32} {mN_nn : Int32} {mN_nk : Nat → Int32} {mN_na : Nat → Int32} {mN_nb : Nat → Int32} {mN_nc : Nat → Int32} {mN_ns : Nat → Int32} {mP_pa : Int32} {mP_pd : Int32} {mP_pf : Int32} {mP_pi : Int32} {mP_pr : Int32} {mP_pb : Int32} {mP_pF : Nat → Int32} {mP_pS : Nat → Int32} {mP_p0 : Nat → Int32} {mP_p1 : Nat → Int32} {mP_p2 : Nat → Int32} {mP_p3 : Nat → Int32} {mP_p4 : Nat → Int32} {mP_pI : Nat → Int32} {mL_lm : Int32} {mL_lp : Nat → Int32} {mL_ls : Nat → Int32} {mL_li : Nat → Int32} {mL_lk : Nat → Int32} {mL_lf : Nat → Int32} {mH_ht : Int32} {mH_hK : Nat → Int32} {mH_hA : Nat → Int32} {mH_hB : Nat → Int32} {mH_hC : Nat → Int32} {mH_hN : Nat → Int32} {mH_h1 : Nat → Int32} {mH_hT : Nat → Int32} {mH_hR : Nat → Int32} {mG_gf : Int32} {mG_gv : Int32} {mG_gt : Int32} {mG_gn : Int32} {mG_gX : Nat → Int32} {mG_gY : Nat → Int32} {mG_gM : Int32} {mG_gK : Nat → Int32} {mG_gR : Nat → Int32} {N : Nat} {res : Int32 × MdQ × MdK × MdN × MdP × MdL × MdH × MdG} (C : CX V p l R s m args c A kc ks RX8 cX8_compile 3 7 147) (hf : f8_compile N (mT_ty, mT_te) (mQ_qc, mQ_qb, mQ_qp, mQ_qr, mQ_qC) (mK_ks, mK_kk, mK_kv, mK_kt) (mN_nn, mN_nk, mN_na, mN_nb, mN_nc, mN_ns) (mP_pa, mP_pd, mP_pf, mP_pi, mP_pr, mP_pb, mP_pF, mP_pS, mP_p0, mP_p1, mP_p2, mP_p3, mP_p4, mP_pI) (mL_lm, mL_lp, mL_ls, mL_li, mL_lk, mL_lf) (mH_ht, mH_hK, mH_hA, mH_hB, mH_hC, mH_hN, mH_h1, mH_hT, mH_hR) (mG_gf, mG_gv, mG_gt, mG_gn, mG_gX, mG_gY, mG_gM, mG_gK, mG_gR) = some res) (K : RI V p l e R s m args below meth c Q A kc ks 3 cX8_compile .int res.1 (wM V ad (mT_ty, mT_te) res.2.1 res.2.2.1 res.2.2.2.1 res.2.2.2.2.1 res.2.2.2.2.2.1 res.2.2.2.2.2.2.1 mR res.2.2.2.2.2.2.2)) : WC V p l e R s m args below meth c Q A kc ks 3 (wM V ad (mT_ty, mT_te) (mQ_qc, mQ_qb, mQ_qp, mQ_qr, mQ_qC) (mK_ks, mK_kk, mK_kv, mK_kt) (mN_nn, mN_nk, mN_na, mN_nb, mN_nc, mN_ns) (mP_pa, mP_pd, mP_pf, mP_pi, mP_pr, mP_pb, mP_pF, mP_pS, mP_p0, mP_p1, mP_p2, mP_p3, mP_p4, mP_pI) (mL_lm, mL_lp, mL_ls, mL_li, mL_lk, mL_lf) (mH_ht, mH_hK, mH_hA, mH_hB, mH_hC, mH_hN, mH_h1, mH_hT, mH_hR) mR (mG_gf, mG_gv, mG_gt, mG_gn, mG_gX, mG_gY, mG_gM, mG_gK, mG_gR)) 0 [(0, .ref (ad 0))] [] := by
  rw [f8_compile] at hf
  refine k_aload_n C dX8_compile_0 0 rfl ?_
  refine k_iconst (v := (0 : Int32)) C dX8_compile_1 (by decide) ?_
  refine p8_126 C dX8_compile_2 ?_
  refine k_aload_n C dX8_compile_5 0 rfl ?_
  obtain ⟨⟨r_2, ⟨mQ_qc_3, mQ_qb_4, mQ_qp_5, mQ_qr_6, mQ_qC_7⟩, ⟨mK_ks_8, mK_kk_9, mK_kv_10, mK_kt_11⟩, ⟨mN_nn_12, mN_nk_13, mN_na_14, mN_nb_15, mN_nc_16, mN_ns_17⟩, ⟨mP_pa_18, mP_pd_19, mP_pf_20, mP_pi_21, mP_pr_22, mP_pb_23, mP_pF_24, mP_pS_25, mP_p0_26, mP_p1_27, mP_p2_28, mP_p3_29, mP_p4_30, mP_pI_31⟩⟩, hq_1, hf⟩ := ob_el hf
  dsimp only at hf
  refine k_callVi C (c8_read C.2.2.2.2.2.2.2.2.2.1 hq_1) cm8_251 ok8_read (by decide) 0 rfl rfl rfl rfl (Nat.le_of_ble_eq_true rfl) dX8_compile_6 ?_
  refine k_if_ne C 18 dX8_compile_9 (by decide) (fun hc => ?_) (fun hc => ?_)
  · replace hf := (if_neg hc).symm.trans hf
    refine k_aload_n C dX8_compile_18 0 rfl ?_
    refine k_iconst (v := (0 : Int32)) C dX8_compile_19 (by decide) ?_
    obtain ⟨⟨r_33, ⟨mL_lm_34, mL_lp_35, mL_ls_36, mL_li_37, mL_lk_38, mL_lf_39⟩⟩, hq_32, hf⟩ := ob_el hf
    dsimp only at hf
    refine k_callVi C (c8_listMutants C.2.2.2.2.2.2.2.2.2.1 hq_32) cm8_258 ok8_listMutants (by decide) 0 rfl rfl rfl rfl (Nat.le_of_ble_eq_true rfl) dX8_compile_20 ?_
    refine k_bipush (v := (120 : Int32)) C dX8_compile_23 (by decide) ?_
    refine k_icmp_le C 34 dX8_compile_25 (by decide) (fun hc => ?_) (fun hc => ?_)
    · replace hf := (if_pos hc).symm.trans hf
      refine k_aload_n C dX8_compile_34 0 rfl ?_
      refine k_aload_n C dX8_compile_35 0 rfl ?_
      refine k_iconst (v := (1 : Int32)) C dX8_compile_36 (by decide) ?_
      obtain ⟨⟨r_41, ⟨mL_lm_42, mL_lp_43, mL_ls_44, mL_li_45, mL_lk_46, mL_lf_47⟩⟩, hq_40, hf⟩ := ob_el hf
      dsimp only at hf
      refine k_callVi C (c8_listMutants C.2.2.2.2.2.2.2.2.2.1 hq_40) cm8_258 ok8_listMutants (by decide) 0 rfl rfl rfl rfl (Nat.le_of_ble_eq_true rfl) dX8_compile_37 ?_
      refine p8_262 C dX8_compile_40 ?_
      refine k_aload_n C dX8_compile_43 0 rfl ?_
      refine k_aload_n C dX8_compile_44 0 rfl ?_
      refine g8_150 C dX8_compile_45 ?_
      refine p8_165 C dX8_compile_48 ?_
      refine k_aload_n C dX8_compile_51 0 rfl ?_
      refine k_iconst (v := (1 : Int32)) C dX8_compile_52 (by decide) ?_
      refine p8_265 C (Or.inr rfl) dX8_compile_53 ?_
      refine k_aload_n C dX8_compile_56 0 rfl ?_
      refine k_iconst (v := (0 : Int32)) C dX8_compile_57 (by decide) ?_
      refine p8_268 C dX8_compile_58 ?_
      refine k_aload_n C dX8_compile_61 0 rfl ?_
      refine k_iconst (v := (0 : Int32)) C dX8_compile_62 (by decide) ?_
      refine p8_271 C (Or.inl rfl) dX8_compile_63 ?_
      refine k_aload_n C dX8_compile_66 0 rfl ?_
      refine k_iconst (v := (0 : Int32)) C dX8_compile_67 (by decide) ?_
      refine p8_274 C dX8_compile_68 ?_
      refine k_aload_n C dX8_compile_71 0 rfl ?_
      refine k_iconst (v := (0 : Int32)) C dX8_compile_72 (by decide) ?_
      refine p8_277 C dX8_compile_73 ?_
      refine k_aload_n C dX8_compile_76 0 rfl ?_
      refine k_iconst (v := (0 : Int32)) C dX8_compile_77 (by decide) ?_
      refine p8_280 C dX8_compile_78 ?_
      refine k_iconst (v := (0 : Int32)) C dX8_compile_81 (by decide) ?_
      refine k_istore_n C dX8_compile_82 [(1, .int (0 : Int32)), (0, .ref (ad 0))] (by decide) rfl ?_
      refine k_sub [1, 0] (L' := [(0, .ref (ad 0)), (1, .int (0 : Int32))]) rfl ?_
      refine w8_compile_L83 C K ?_ _ _ _ _ _ _ _ _ _ _ _ _ _ _ _ _ _ _ _ _ _ _ _ _ _ _ _ _ _ _ _ _ _ _ _ _ _ _ _ _ _ _ _ _ _ _ _ _ _ _ _ _ _ _ _ hf
      · intro mQ_qc_49 mQ_qb_49 mQ_qp_49 mQ_qr_49 mQ_qC_49 mK_ks_49 mK_kk_49 mK_kv_49 mK_kt_49 mN_nn_49 mN_nk_49 mN_na_49 mN_nb_49 mN_nc_49 mN_ns_49 mP_pa_49 mP_pd_49 mP_pf_49 mP_pi_49 mP_pr_49 mP_pb_49 mP_pF_49 mP_pS_49 mP_p0_49 mP_p1_49 mP_p2_49 mP_p3_49 mP_p4_49 mP_pI_49 mL_lm_49 mL_lp_49 mL_ls_49 mL_li_49 mL_lk_49 mL_lf_49 mH_ht_49 mH_hK_49 mH_hA_49 mH_hB_49 mH_hC_49 mH_hN_49 mH_h1_49 mH_hT_49 mH_hR_49 mG_gf_49 mG_gv_49 mG_gt_49 mG_gn_49 mG_gX_49 mG_gY_49 mG_gM_49 mG_gK_49 mG_gR_49 hf
        try dsimp only at hf
        refine k_iconst (v := (0 : Int32)) C dX8_compile_103 (by decide) ?_
        refine k_istore_n C dX8_compile_104 [(1, .int (0 : Int32)), (0, .ref (ad 0))] (by decide) rfl ?_
        refine k_sub [1, 0] (L' := [(0, .ref (ad 0)), (1, .int (0 : Int32))]) rfl ?_
        refine w8_compile_L105 C K ?_ _ _ _ _ _ _ _ _ _ _ _ _ _ _ _ _ _ _ _ _ _ _ _ _ _ _ _ _ _ _ _ _ _ _ _ _ _ _ _ _ _ _ _ _ _ _ _ _ _ _ _ _ _ _ _ hf
        · intro mQ_qc_66 mQ_qb_66 mQ_qp_66 mQ_qr_66 mQ_qC_66 mK_ks_66 mK_kk_66 mK_kv_66 mK_kt_66 mN_nn_66 mN_nk_66 mN_na_66 mN_nb_66 mN_nc_66 mN_ns_66 mP_pa_66 mP_pd_66 mP_pf_66 mP_pi_66 mP_pr_66 mP_pb_66 mP_pF_66 mP_pS_66 mP_p0_66 mP_p1_66 mP_p2_66 mP_p3_66 mP_p4_66 mP_pI_66 mL_lm_66 mL_lp_66 mL_ls_66 mL_li_66 mL_lk_66 mL_lf_66 mH_ht_66 mH_hK_66 mH_hA_66 mH_hB_66 mH_hC_66 mH_hN_66 mH_h1_66 mH_hT_66 mH_hR_66 mG_gf_66 mG_gv_66 mG_gt_66 mG_gn_66 mG_gX_66 mG_gY_66 mG_gM_66 mG_gK_66 mG_gR_66 hf
          try dsimp only at hf
          refine k_aload_n C dX8_compile_173 0 rfl ?_
          refine g8_262 C dX8_compile_174 ?_
          cases hf
          exact K _ _ dX8_compile_177 rfl
    · replace hf := (if_neg hc).symm.trans hf
      refine k_aload_n C dX8_compile_28 0 rfl ?_
      refine k_iconst (v := (2 : Int32)) C dX8_compile_29 (by decide) ?_
      obtain ⟨⟨r_68, ⟨mQ_qc_69, mQ_qb_70, mQ_qp_71, mQ_qr_72, mQ_qC_73⟩⟩, hq_67, hf⟩ := ob_el hf
      dsimp only at hf
      refine k_callVi C (c8_fail C.2.2.2.2.2.2.2.2.2.1 hq_67) cm8_255 ok8_fail (by decide) 0 rfl rfl rfl rfl (Nat.le_of_ble_eq_true rfl) dX8_compile_30 ?_
      cases hf
      exact K _ _ dX8_compile_33 rfl
  · replace hf := (if_pos hc).symm.trans hf
    refine k_aload_n C dX8_compile_12 0 rfl ?_
    refine k_iconst (v := (1 : Int32)) C dX8_compile_13 (by decide) ?_
    obtain ⟨⟨r_75, ⟨mQ_qc_76, mQ_qb_77, mQ_qp_78, mQ_qr_79, mQ_qC_80⟩⟩, hq_74, hf⟩ := ob_el hf
    dsimp only at hf
    refine k_callVi C (c8_fail C.2.2.2.2.2.2.2.2.2.1 hq_74) cm8_255 ok8_fail (by decide) 0 rfl rfl rfl rfl (Nat.le_of_ble_eq_true rfl) dX8_compile_14 ?_
    cases hf
    exact K _ _ dX8_compile_17 rfl
theorem c8_compile {V : EV} {l : Launch} (hl0 : l.stackTraces = false) {ad : Nat → Nat} {mR : MdR} {mT_ty : Int32} {mT_te : Nat → Int32} {mQ_qc : Int32} {mQ_qb : Int32} {mQ_qp : Int32} {mQ_qr : Int32} {mQ_qC : Int32} {mK_ks : Int32} {mK_kk : Nat → Int32} {mK_kv : Nat → Int32} {mK_kt : Nat → Int32} {mN_nn : Int32} {mN_nk : Nat → Int32} {mN_na : Nat → Int32} {mN_nb : Nat → Int32} {mN_nc : Nat → Int32} {mN_ns : Nat → Int32} {mP_pa : Int32} {mP_pd : Int32} {mP_pf : Int32} {mP_pi : Int32} {mP_pr : Int32} {mP_pb : Int32} {mP_pF : Nat → Int32} {mP_pS : Nat → Int32} {mP_p0 : Nat → Int32} {mP_p1 : Nat → Int32} {mP_p2 : Nat → Int32} {mP_p3 : Nat → Int32} {mP_p4 : Nat → Int32} {mP_pI : Nat → Int32} {mL_lm : Int32} {mL_lp : Nat → Int32} {mL_ls : Nat → Int32} {mL_li : Nat → Int32} {mL_lk : Nat → Int32} {mL_lf : Nat → Int32} {mH_ht : Int32} {mH_hK : Nat → Int32} {mH_hA : Nat → Int32} {mH_hB : Nat → Int32} {mH_hC : Nat → Int32} {mH_hN : Nat → Int32} {mH_h1 : Nat → Int32} {mH_hT : Nat → Int32} {mH_hR : Nat → Int32} {mG_gf : Int32} {mG_gv : Int32} {mG_gt : Int32} {mG_gn : Int32} {mG_gX : Nat → Int32} {mG_gY : Nat → Int32} {mG_gM : Int32} {mG_gK : Nat → Int32} {mG_gR : Nat → Int32} {N : Nat} {res : Int32 × MdQ × MdK × MdN × MdP × MdL × MdH × MdG} (hf : f8_compile N (mT_ty, mT_te) (mQ_qc, mQ_qb, mQ_qp, mQ_qr, mQ_qC) (mK_ks, mK_kk, mK_kv, mK_kt) (mN_nn, mN_nk, mN_na, mN_nb, mN_nc, mN_ns) (mP_pa, mP_pd, mP_pf, mP_pi, mP_pr, mP_pb, mP_pF, mP_pS, mP_p0, mP_p1, mP_p2, mP_p3, mP_p4, mP_pI) (mL_lm, mL_lp, mL_ls, mL_li, mL_lk, mL_lf) (mH_ht, mH_hK, mH_hA, mH_hB, mH_hC, mH_hN, mH_h1, mH_hT, mH_hR) (mG_gf, mG_gv, mG_gt, mG_gn, mG_gX, mG_gY, mG_gM, mG_gK, mG_gR) = some res) : MI V l yX8_compile cX8_compile 3 .int 7 147 [.ref (ad 0)] (wM V ad (mT_ty, mT_te) (mQ_qc, mQ_qb, mQ_qp, mQ_qr, mQ_qC) (mK_ks, mK_kk, mK_kv, mK_kt) (mN_nn, mN_nk, mN_na, mN_nb, mN_nc, mN_ns) (mP_pa, mP_pd, mP_pf, mP_pi, mP_pr, mP_pb, mP_pF, mP_pS, mP_p0, mP_p1, mP_p2, mP_p3, mP_p4, mP_pI) (mL_lm, mL_lp, mL_ls, mL_li, mL_lk, mL_lf) (mH_ht, mH_hK, mH_hA, mH_hB, mH_hC, mH_hN, mH_h1, mH_hT, mH_hR) mR (mG_gf, mG_gv, mG_gt, mG_gn, mG_gX, mG_gY, mG_gM, mG_gK, mG_gR)) res.1 (wM V ad (mT_ty, mT_te) res.2.1 res.2.2.1 res.2.2.2.1 res.2.2.2.2.1 res.2.2.2.2.2.1 res.2.2.2.2.2.2.1 mR res.2.2.2.2.2.2.2) :=
  mi_of hl0 (by decide +kernel) (Nat.le_of_ble_eq_true rfl) (fun p e R s m args below meth c Q A C K => b8_compile C hf K)

theorem ok8_mutant : okCV RX8 yX8_mutant 2 := by unfold okCV; decide +kernel
def f8_mutant (v1 : Int32) (v2 : Int32) : MdL → MdQ → Option (Int32 × MdQ)
  | (mL_lm, mL_lp, mL_ls, mL_li, mL_lk, mL_lf), (mQ_qc, mQ_qb, mQ_qp, mQ_qr, mQ_qC) =>
    if mQ_qc = 0 then (f8_fail (1 : Int32) (mQ_qc, mQ_qb, mQ_qp, mQ_qr, (0 : Int32))).bind fun (r_24, (mQ_qc_25, mQ_qb_26, mQ_qp_27, mQ_qr_28, mQ_qC_29)) => some (r_24, (mQ_qc_25, mQ_qb_26, mQ_qp_27, mQ_qr_28, mQ_qC_29)) else if v1 < (1 : Int32) then (f8_fail (2 : Int32) (mQ_qc, mQ_qb, mQ_qp, mQ_qr, (0 : Int32))).bind fun (r_2, (mQ_qc_3, mQ_qb_4, mQ_qp_5, mQ_qr_6, mQ_qC_7)) => some (r_2, (mQ_qc_3, mQ_qb_4, mQ_qp_5, mQ_qr_6, mQ_qC_7)) else if v1 ≤ mL_lm then if v2 = (0 : Int32) then if v1 < 0 ∨ 121 ≤ v1.toNatClampNeg then none else some ((mL_lp v1.toNatClampNeg), (mQ_qc, mQ_qb, mQ_qp, mQ_qr, (0 : Int32))) else if v2 = (1 : Int32) then if v1 < 0 ∨ 121 ≤ v1.toNatClampNeg then none else some ((mL_ls v1.toNatClampNeg), (mQ_qc, mQ_qb, mQ_qp, mQ_qr, (0 : Int32))) else if v2 = (2 : Int32) then if v1 < 0 ∨ 121 ≤ v1.toNatClampNeg then none else some ((mL_li v1.toNatClampNeg), (mQ_qc, mQ_qb, mQ_qp, mQ_qr, (0 : Int32))) else if v2 = (3 : Int32) then if v1 < 0 ∨ 121 ≤ v1.toNatClampNeg then none else some ((mL_lk v1.toNatClampNeg), (mQ_qc, mQ_qb, mQ_qp, mQ_qr, (0 : Int32))) else (f8_fail (3 : Int32) (mQ_qc, mQ_qb, mQ_qp, mQ_qr, (0 : Int32))).bind fun (r_9, (mQ_qc_10, mQ_qb_11, mQ_qp_12, mQ_qr_13, mQ_qC_14)) => some (r_9, (mQ_qc_10, mQ_qb_11, mQ_qp_12, mQ_qr_13, mQ_qC_14)) else (f8_fail (2 : Int32) (mQ_qc, mQ_qb, mQ_qp, mQ_qr, (0 : Int32))).bind fun (r_17, (mQ_qc_18, mQ_qb_19, mQ_qp_20, mQ_qr_21, mQ_qC_22)) => some (r_17, (mQ_qc_18, mQ_qb_19, mQ_qp_20, mQ_qr_21, mQ_qC_22))
set_option maxHeartbeats 4000000 in
set_option maxRecDepth 100000 in
theorem b8_mutant {V : EV} {p : Program} {l : Launch} {e : Env} {R : Room} {s : State} {m : MethodId} {args : Array Value} {below : List Frame} {meth : Method} {c : Code} {Q : State → Prop} {A : Nat → Prop} {kc ks : Nat} {ad : Nat → Nat} {mT : MdT} {mK : MdK} {mN : MdN} {mP : MdP} {mH : MdH} {mR : MdR} {mG : MdG} {mL_lm : Int32} {mL_lp : Nat → Int32} {mL_ls : Nat → Int32} {mL_li : Nat → Int32} {mL_lk : Nat → Int32} {mL_lf : Nat → Int32} {v1 : Int32} {v2 : Int32} {mQ_qc : Int32} {mQ_qb : Int32} {mQ_qp : Int32} {mQ_qr : Int32} {mQ_qC : Int32} {res : Int32 × MdQ} (C : CX V p l R s m args c A kc ks RX8 cX8_mutant 3 1 21) (hf : f8_mutant v1 v2 (mL_lm, mL_lp, mL_ls, mL_li, mL_lk, mL_lf) (mQ_qc, mQ_qb, mQ_qp, mQ_qr, mQ_qC) = some res) (K : RI V p l e R s m args below meth c Q A kc ks 3 cX8_mutant .int res.1 (wM V ad mT res.2 mK mN mP (mL_lm, mL_lp, mL_ls, mL_li, mL_lk, mL_lf) mH mR mG)) : WC V p l e R s m args below meth c Q A kc ks 3 (wM V ad mT (mQ_qc, mQ_qb, mQ_qp, mQ_qr, mQ_qC) mK mN mP (mL_lm, mL_lp, mL_ls, mL_li, mL_lk, mL_lf) mH mR mG) 0 [(0, .ref (ad 0)), (1, .int v1), (2, .int v2)] [] := by
  rw [f8_mutant] at hf
  refine k_aload_n C dX8_mutant_0 0 rfl ?_
  refine k_iconst (v := (0 : Int32)) C dX8_mutant_1 (by decide) ?_
  refine p8_126 C dX8_mutant_2 ?_
  refine k_aload_n C dX8_mutant_5 0 rfl ?_
  refine g8_265 C dX8_mutant_6 ?_
  refine k_if_ne C 18 dX8_mutant_9 (by decide) (fun hc => ?_) (fun hc => ?_)
  · replace hf := (if_neg hc).symm.trans hf
    refine k_iload_n C dX8_mutant_18 1 rfl ?_
    refine k_iconst (v := (1 : Int32)) C dX8_mutant_19 (by decide) ?_
    refine k_icmp_lt C 31 dX8_mutant_20 (by decide) (fun hc => ?_) (fun hc => ?_)
    · replace hf := (if_pos hc).symm.trans hf
      refine k_aload_n C dX8_mutant_31 0 rfl ?_
      refine k_iconst (v := (2 : Int32)) C dX8_mutant_32 (by decide) ?_
      obtain ⟨⟨r_2, ⟨mQ_qc_3, mQ_qb_4, mQ_qp_5, mQ_qr_6, mQ_qC_7⟩⟩, hq_1, hf⟩ := ob_el hf
      dsimp only at hf
      refine k_callVi C (c8_fail C.2.2.2.2.2.2.2.2.2.1 hq_1) cm8_255 ok8_fail (by decide) 0 rfl rfl rfl rfl (Nat.le_of_ble_eq_true rfl) dX8_mutant_33 ?_
      cases hf
      exact K _ _ dX8_mutant_36 rfl
    · replace hf := (if_neg hc).symm.trans hf
      refine k_iload_n C dX8_mutant_23 1 rfl ?_
      refine k_aload_n C dX8_mutant_24 0 rfl ?_
      refine g8_262 C dX8_mutant_25 ?_
      refine k_icmp_le C 37 dX8_mutant_28 (by decide) (fun hc => ?_) (fun hc => ?_)
      · replace hf := (if_pos hc).symm.trans hf
        refine k_iload_n C dX8_mutant_37 2 rfl ?_
        have hx0 : ∀ n : Int32, v2 = n → v2.toInt = n.toInt := fun n h => by rw [h]
        by_cases hc : v2 = (0 : Int32)
        · replace hf := (if_pos hc).symm.trans hf
          refine k_tableIn C 68 dX8_mutant_38 (by rw [hx0 _ hc]; decide) (by rw [hx0 _ hc]; decide) (by rw [hx0 _ hc]; rfl) (by decide) ?_
          refine k_aload_n C dX8_mutant_68 0 rfl ?_
          refine g8_61 C dX8_mutant_69 ?_
          refine k_iload_n C dX8_mutant_72 1 rfl ?_
          obtain ⟨hi, hf⟩ := gd_no hf
          refine lm18 C hi dX8_mutant_73 ?_
          cases hf
          exact K _ _ dX8_mutant_74 rfl
        replace hf := (if_neg hc).symm.trans hf
        have hn0 := sw_ne hc
        by_cases hc : v2 = (1 : Int32)
        · replace hf := (if_pos hc).symm.trans hf
          refine k_tableIn C 75 dX8_mutant_38 (by rw [hx0 _ hc]; decide) (by rw [hx0 _ hc]; decide) (by rw [hx0 _ hc]; rfl) (by decide) ?_
          refine k_aload_n C dX8_mutant_75 0 rfl ?_
          refine g8_64 C dX8_mutant_76 ?_
          refine k_iload_n C dX8_mutant_79 1 rfl ?_
          obtain ⟨hi, hf⟩ := gd_no hf
          refine lm19 C hi dX8_mutant_80 ?_
          cases hf
          exact K _ _ dX8_mutant_81 rfl
        replace hf := (if_neg hc).symm.trans hf
        have hn1 := sw_ne hc
        by_cases hc : v2 = (2 : Int32)
        · replace hf := (if_pos hc).symm.trans hf
          refine k_tableIn C 82 dX8_mutant_38 (by rw [hx0 _ hc]; decide) (by rw [hx0 _ hc]; decide) (by rw [hx0 _ hc]; rfl) (by decide) ?_
          refine k_aload_n C dX8_mutant_82 0 rfl ?_
          refine g8_67 C dX8_mutant_83 ?_
          refine k_iload_n C dX8_mutant_86 1 rfl ?_
          obtain ⟨hi, hf⟩ := gd_no hf
          refine lm20 C hi dX8_mutant_87 ?_
          cases hf
          exact K _ _ dX8_mutant_88 rfl
        replace hf := (if_neg hc).symm.trans hf
        have hn2 := sw_ne hc
        by_cases hc : v2 = (3 : Int32)
        · replace hf := (if_pos hc).symm.trans hf
          refine k_tableIn C 89 dX8_mutant_38 (by rw [hx0 _ hc]; decide) (by rw [hx0 _ hc]; decide) (by rw [hx0 _ hc]; rfl) (by decide) ?_
          refine k_aload_n C dX8_mutant_89 0 rfl ?_
          refine g8_70 C dX8_mutant_90 ?_
          refine k_iload_n C dX8_mutant_93 1 rfl ?_
          obtain ⟨hi, hf⟩ := gd_no hf
          refine lm21 C hi dX8_mutant_94 ?_
          cases hf
          exact K _ _ dX8_mutant_95 rfl
        replace hf := (if_neg hc).symm.trans hf
        have hn3 := sw_ne hc
        have kd_15 : WC V p l e R s m args below meth c Q A kc ks 3 (wM V ad mT (mQ_qc, mQ_qb, mQ_qp, mQ_qr, (0 : Int32)) mK mN mP (mL_lm, mL_lp, mL_ls, mL_li, mL_lk, mL_lf) mH mR mG) 96 [(0, .ref (ad 0)), (1, .int v1), (2, .int v2)] [] := by
          refine k_aload_n C dX8_mutant_96 0 rfl ?_
          refine k_iconst (v := (3 : Int32)) C dX8_mutant_97 (by decide) ?_
          obtain ⟨⟨r_9, ⟨mQ_qc_10, mQ_qb_11, mQ_qp_12, mQ_qr_13, mQ_qC_14⟩⟩, hq_8, hf⟩ := ob_el hf
          dsimp only at hf
          refine k_callVi C (c8_fail C.2.2.2.2.2.2.2.2.2.1 hq_8) cm8_255 ok8_fail (by decide) 0 rfl rfl rfl rfl (Nat.le_of_ble_eq_true rfl) dX8_mutant_98 ?_
          cases hf
          exact K _ _ dX8_mutant_101 rfl
        have hr : v2.toInt < 0 ∨ 3 < v2.toInt := by
          have q0 : ¬ v2.toInt = 0 := hn0 0 (by decide)
          have q1 : ¬ v2.toInt = 1 := hn1 1 (by decide)
          have q2 : ¬ v2.toInt = 2 := hn2 2 (by decide)
          have q3 : ¬ v2.toInt = 3 := hn3 3 (by decide)
          omega
        rcases hr with hr | hr
        · exact k_tableOut C 96 dX8_mutant_38 (Or.inl hr) (by decide) kd_15
        · exact k_tableOut C 96 dX8_mutant_38 (Or.inr hr) (by decide) kd_15
      · replace hf := (if_neg hc).symm.trans hf
        refine k_aload_n C dX8_mutant_31 0 rfl ?_
        refine k_iconst (v := (2 : Int32)) C dX8_mutant_32 (by decide) ?_
        obtain ⟨⟨r_17, ⟨mQ_qc_18, mQ_qb_19, mQ_qp_20, mQ_qr_21, mQ_qC_22⟩⟩, hq_16, hf⟩ := ob_el hf
        dsimp only at hf
        refine k_callVi C (c8_fail C.2.2.2.2.2.2.2.2.2.1 hq_16) cm8_255 ok8_fail (by decide) 0 rfl rfl rfl rfl (Nat.le_of_ble_eq_true rfl) dX8_mutant_33 ?_
        cases hf
        exact K _ _ dX8_mutant_36 rfl
  · replace hf := (if_pos hc).symm.trans hf
    refine k_aload_n C dX8_mutant_12 0 rfl ?_
    refine k_iconst (v := (1 : Int32)) C dX8_mutant_13 (by decide) ?_
    obtain ⟨⟨r_24, ⟨mQ_qc_25, mQ_qb_26, mQ_qp_27, mQ_qr_28, mQ_qC_29⟩⟩, hq_23, hf⟩ := ob_el hf
    dsimp only at hf
    refine k_callVi C (c8_fail C.2.2.2.2.2.2.2.2.2.1 hq_23) cm8_255 ok8_fail (by decide) 0 rfl rfl rfl rfl (Nat.le_of_ble_eq_true rfl) dX8_mutant_14 ?_
    cases hf
    exact K _ _ dX8_mutant_17 rfl
theorem c8_mutant {V : EV} {l : Launch} (hl0 : l.stackTraces = false) {ad : Nat → Nat} {mT : MdT} {mK : MdK} {mN : MdN} {mP : MdP} {mH : MdH} {mR : MdR} {mG : MdG} {mL_lm : Int32} {mL_lp : Nat → Int32} {mL_ls : Nat → Int32} {mL_li : Nat → Int32} {mL_lk : Nat → Int32} {mL_lf : Nat → Int32} {v1 : Int32} {v2 : Int32} {mQ_qc : Int32} {mQ_qb : Int32} {mQ_qp : Int32} {mQ_qr : Int32} {mQ_qC : Int32} {res : Int32 × MdQ} (hf : f8_mutant v1 v2 (mL_lm, mL_lp, mL_ls, mL_li, mL_lk, mL_lf) (mQ_qc, mQ_qb, mQ_qp, mQ_qr, mQ_qC) = some res) : MI V l yX8_mutant cX8_mutant 3 .int 1 21 [.ref (ad 0), .int v1, .int v2] (wM V ad mT (mQ_qc, mQ_qb, mQ_qp, mQ_qr, mQ_qC) mK mN mP (mL_lm, mL_lp, mL_ls, mL_li, mL_lk, mL_lf) mH mR mG) res.1 (wM V ad mT res.2 mK mN mP (mL_lm, mL_lp, mL_ls, mL_li, mL_lk, mL_lf) mH mR mG) :=
  mi_of hl0 (by decide +kernel) (Nat.le_of_ble_eq_true rfl) (fun p e R s m args below meth c Q A C K => b8_mutant C hf K)

theorem ok8_push2 : okCV RX8 yX8_push2 1 := by unfold okCV; decide +kernel
def f8_push2 (v1 : Int32) : MdR → Option (MdR)
  | (mR_rl, mR_ro, mR_rv, mR_rs, mR_rt, mR_rS, mR_rV, mR_rM) =>
    if mR_rt < 0 ∨ 64 ≤ mR_rt.toNatClampNeg then none else some (mR_rl, mR_ro, mR_rv, mR_rs, (mR_rt + (1 : Int32)), (upd mR_rS mR_rt.toNatClampNeg v1), mR_rV, mR_rM)
set_option maxHeartbeats 4000000 in
set_option maxRecDepth 100000 in
theorem b8_push2 {V : EV} {p : Program} {l : Launch} {e : Env} {R : Room} {s : State} {m : MethodId} {args : Array Value} {below : List Frame} {meth : Method} {c : Code} {Q : State → Prop} {A : Nat → Prop} {kc ks : Nat} {ad : Nat → Nat} {mT : MdT} {mQ : MdQ} {mK : MdK} {mN : MdN} {mP : MdP} {mL : MdL} {mH : MdH} {mG : MdG} {v1 : Int32} {mR_rl : Int32} {mR_ro : Int32} {mR_rv : Int32} {mR_rs : Int32} {mR_rt : Int32} {mR_rS : Nat → Int32} {mR_rV : Nat → Int32} {mR_rM : Nat → Int32} {res : MdR} (C : CX V p l R s m args c A kc ks RX8 cX8_push2 2 0 0) (hf : f8_push2 v1 (mR_rl, mR_ro, mR_rv, mR_rs, mR_rt, mR_rS, mR_rV, mR_rM) = some res) (K : RV V p l e R s m args below meth c Q A kc ks 2 cX8_push2 (wM V ad mT mQ mK mN mP mL mH res mG)) : WC V p l e R s m args below meth c Q A kc ks 2 (wM V ad mT mQ mK mN mP mL mH (mR_rl, mR_ro, mR_rv, mR_rs, mR_rt, mR_rS, mR_rV, mR_rM) mG) 0 [(0, .ref (ad 0)), (1, .int v1)] [] := by
  rw [f8_push2] at hf
  refine k_aload_n C dX8_push2_0 0 rfl ?_
  refine g8_104 C dX8_push2_1 ?_
  refine k_aload_n C dX8_push2_4 0 rfl ?_
  refine g8_335 C dX8_push2_5 ?_
  refine k_iload_n C dX8_push2_8 1 rfl ?_
  obtain ⟨hi, hf⟩ := gd_no hf
  refine sm31 C hi dX8_push2_9 ?_
  refine k_aload_n C dX8_push2_10 0 rfl ?_
  refine k_dup C dX8_push2_11 rfl ?_
  refine g8_335 C dX8_push2_12 ?_
  refine k_iconst (v := (1 : Int32)) C dX8_push2_15 (by decide) ?_
  refine k_iadd C dX8_push2_16 ?_
  refine p8_335 C dX8_push2_17 ?_
  cases hf
  exact K _ _ dX8_push2_20
theorem c8_push2 {V : EV} {l : Launch} (hl0 : l.stackTraces = false) {ad : Nat → Nat} {mT : MdT} {mQ : MdQ} {mK : MdK} {mN : MdN} {mP : MdP} {mL : MdL} {mH : MdH} {mG : MdG} {v1 : Int32} {mR_rl : Int32} {mR_ro : Int32} {mR_rv : Int32} {mR_rs : Int32} {mR_rt : Int32} {mR_rS : Nat → Int32} {mR_rV : Nat → Int32} {mR_rM : Nat → Int32} {res : MdR} (hf : f8_push2 v1 (mR_rl, mR_ro, mR_rv, mR_rs, mR_rt, mR_rS, mR_rV, mR_rM) = some res) : MV V l yX8_push2 cX8_push2 2 0 0 [.ref (ad 0), .int v1] (wM V ad mT mQ mK mN mP mL mH (mR_rl, mR_ro, mR_rv, mR_rs, mR_rt, mR_rS, mR_rV, mR_rM) mG) (wM V ad mT mQ mK mN mP mL mH res mG) :=
  mv_of hl0 (by decide +kernel) (Nat.le_of_ble_eq_true rfl) (fun p e R s m args below meth c Q A C K => b8_push2 C hf K)

theorem ok8_pop : okCV RX8 yX8_pop 0 := by unfold okCV; decide +kernel
def f8_pop  : MdR → Option (Int32 × MdR)
  | (mR_rl, mR_ro, mR_rv, mR_rs, mR_rt, mR_rS, mR_rV, mR_rM) =>
    if (mR_rt - (1 : Int32)) < 0 ∨ 64 ≤ (mR_rt - (1 : Int32)).toNatClampNeg then none else some ((mR_rS (mR_rt - (1 : Int32)).toNatClampNeg), (mR_rl, mR_ro, mR_rv, mR_rs, (mR_rt - (1 : Int32)), mR_rS, mR_rV, mR_rM))
set_option maxHeartbeats 4000000 in
set_option maxRecDepth 100000 in
theorem b8_pop {V : EV} {p : Program} {l : Launch} {e : Env} {R : Room} {s : State} {m : MethodId} {args : Array Value} {below : List Frame} {meth : Method} {c : Code} {Q : State → Prop} {A : Nat → Prop} {kc ks : Nat} {ad : Nat → Nat} {mT : MdT} {mQ : MdQ} {mK : MdK} {mN : MdN} {mP : MdP} {mL : MdL} {mH : MdH} {mG : MdG} {mR_rl : Int32} {mR_ro : Int32} {mR_rv : Int32} {mR_rs : Int32} {mR_rt : Int32} {mR_rS : Nat → Int32} {mR_rV : Nat → Int32} {mR_rM : Nat → Int32} {res : Int32 × MdR} (C : CX V p l R s m args c A kc ks RX8 cX8_pop 1 0 0) (hf : f8_pop (mR_rl, mR_ro, mR_rv, mR_rs, mR_rt, mR_rS, mR_rV, mR_rM) = some res) (K : RI V p l e R s m args below meth c Q A kc ks 1 cX8_pop .int res.1 (wM V ad mT mQ mK mN mP mL mH res.2 mG)) : WC V p l e R s m args below meth c Q A kc ks 1 (wM V ad mT mQ mK mN mP mL mH (mR_rl, mR_ro, mR_rv, mR_rs, mR_rt, mR_rS, mR_rV, mR_rM) mG) 0 [(0, .ref (ad 0))] [] := by
  rw [f8_pop] at hf
  refine k_aload_n C dX8_pop_0 0 rfl ?_
  refine k_dup C dX8_pop_1 rfl ?_
  refine g8_335 C dX8_pop_2 ?_
  refine k_iconst (v := (1 : Int32)) C dX8_pop_5 (by decide) ?_
  refine k_isub C dX8_pop_6 ?_
  refine p8_335 C dX8_pop_7 ?_
  refine k_aload_n C dX8_pop_10 0 rfl ?_
  refine g8_104 C dX8_pop_11 ?_
  refine k_aload_n C dX8_pop_14 0 rfl ?_
  refine g8_335 C dX8_pop_15 ?_
  obtain ⟨hi, hf⟩ := gd_no hf
  refine lm31 C hi dX8_pop_18 ?_
  cases hf
  exact K _ _ dX8_pop_19 rfl
theorem c8_pop {V : EV} {l : Launch} (hl0 : l.stackTraces = false) {ad : Nat → Nat} {mT : MdT} {mQ : MdQ} {mK : MdK} {mN : MdN} {mP : MdP} {mL : MdL} {mH : MdH} {mG : MdG} {mR_rl : Int32} {mR_ro : Int32} {mR_rv : Int32} {mR_rs : Int32} {mR_rt : Int32} {mR_rS : Nat → Int32} {mR_rV : Nat → Int32} {mR_rM : Nat → Int32} {res : Int32 × MdR} (hf : f8_pop (mR_rl, mR_ro, mR_rv, mR_rs, mR_rt, mR_rS, mR_rV, mR_rM) = some res) : MI V l yX8_pop cX8_pop 1 .int 0 0 [.ref (ad 0)] (wM V ad mT mQ mK mN mP mL mH (mR_rl, mR_ro, mR_rv, mR_rs, mR_rt, mR_rS, mR_rV, mR_rM) mG) res.1 (wM V ad mT mQ mK mN mP mL mH res.2 mG) :=
  mi_of hl0 (by decide +kernel) (Nat.le_of_ble_eq_true rfl) (fun p e R s m args below meth c Q A C K => b8_pop C hf K)

theorem ok8_stop : okCV RX8 yX8_stop 1 := by unfold okCV; decide +kernel
def f8_stop (v1 : Int32) : MdR → Option (Int32 × MdR)
  | (mR_rl, mR_ro, mR_rv, mR_rs, mR_rt, mR_rS, mR_rV, mR_rM) =>
    some ((0 : Int32), (mR_rl, v1, mR_rv, mR_rs, mR_rt, mR_rS, mR_rV, mR_rM))
set_option maxHeartbeats 4000000 in
set_option maxRecDepth 100000 in
theorem b8_stop {V : EV} {p : Program} {l : Launch} {e : Env} {R : Room} {s : State} {m : MethodId} {args : Array Value} {below : List Frame} {meth : Method} {c : Code} {Q : State → Prop} {A : Nat → Prop} {kc ks : Nat} {ad : Nat → Nat} {mT : MdT} {mQ : MdQ} {mK : MdK} {mN : MdN} {mP : MdP} {mL : MdL} {mH : MdH} {mG : MdG} {v1 : Int32} {mR_rl : Int32} {mR_ro : Int32} {mR_rv : Int32} {mR_rs : Int32} {mR_rt : Int32} {mR_rS : Nat → Int32} {mR_rV : Nat → Int32} {mR_rM : Nat → Int32} {res : Int32 × MdR} (C : CX V p l R s m args c A kc ks RX8 cX8_stop 2 0 0) (hf : f8_stop v1 (mR_rl, mR_ro, mR_rv, mR_rs, mR_rt, mR_rS, mR_rV, mR_rM) = some res) (K : RI V p l e R s m args below meth c Q A kc ks 2 cX8_stop .int res.1 (wM V ad mT mQ mK mN mP mL mH res.2 mG)) : WC V p l e R s m args below meth c Q A kc ks 2 (wM V ad mT mQ mK mN mP mL mH (mR_rl, mR_ro, mR_rv, mR_rs, mR_rt, mR_rS, mR_rV, mR_rM) mG) 0 [(0, .ref (ad 0)), (1, .int v1)] [] := by
  rw [f8_stop] at hf
  refine k_aload_n C dX8_stop_0 0 rfl ?_
  refine k_iload_n C dX8_stop_1 1 rfl ?_
  refine p8_341 C dX8_stop_2 ?_
  refine k_iconst (v := (0 : Int32)) C dX8_stop_5 (by decide) ?_
  cases hf
  exact K _ _ dX8_stop_6 rfl
theorem c8_stop {V : EV} {l : Launch} (hl0 : l.stackTraces = false) {ad : Nat → Nat} {mT : MdT} {mQ : MdQ} {mK : MdK} {mN : MdN} {mP : MdP} {mL : MdL} {mH : MdH} {mG : MdG} {v1 : Int32} {mR_rl : Int32} {mR_ro : Int32} {mR_rv : Int32} {mR_rs : Int32} {mR_rt : Int32} {mR_rS : Nat → Int32} {mR_rV : Nat → Int32} {mR_rM : Nat → Int32} {res : Int32 × MdR} (hf : f8_stop v1 (mR_rl, mR_ro, mR_rv, mR_rs, mR_rt, mR_rS, mR_rV, mR_rM) = some res) : MI V l yX8_stop cX8_stop 2 .int 0 0 [.ref (ad 0), .int v1] (wM V ad mT mQ mK mN mP mL mH (mR_rl, mR_ro, mR_rv, mR_rs, mR_rt, mR_rS, mR_rV, mR_rM) mG) res.1 (wM V ad mT mQ mK mN mP mL mH res.2 mG) :=
  mi_of hl0 (by decide +kernel) (Nat.le_of_ble_eq_true rfl) (fun p e R s m args below meth c Q A C K => b8_stop C hf K)

theorem cm8_353 : ∀ a ∈ wsCV RX8 353 RX8 yX8_push2 cX8_push2 2 none, a ∈ GW := by
  unfold wsCV
  exact (List.forall_mem_cons.mpr ⟨(gw_6 (i := 153) (by decide +kernel) rfl), (List.forall_mem_cons.mpr ⟨(gw_6 (i := 155) (by decide +kernel) rfl), (List.forall_mem_cons.mpr ⟨(gw_p (q := ((yX8_push2, 63) : MethodName × Nat)) (List.mem_append_right _ (List.mem_append_right _ (List.mem_append_right _ (List.mem_append_right _ (List.mem_append_right _ (List.mem_append_right _ (List.mem_of_getElem? (i := 6) (by decide +kernel)))))))) rfl), (List.forall_mem_cons.mpr ⟨(gw_1 (i := 9) (by decide +kernel) rfl), (List.forall_mem_cons.mpr ⟨(gw_6 (i := 156) (by decide +kernel) rfl), (List.forall_mem_nil _)⟩)⟩)⟩)⟩)⟩)
theorem cm8_366 : ∀ a ∈ wsCV RX8 366 RX8 yX8_pop cX8_pop 1 (some .int), a ∈ GW := by
  unfold wsCV
  exact (List.forall_mem_cons.mpr ⟨(gw_6 (i := 161) (by decide +kernel) rfl), (List.forall_mem_cons.mpr ⟨(gw_6 (i := 163) (by decide +kernel) rfl), (List.forall_mem_cons.mpr ⟨(gw_p (q := ((yX8_pop, 63) : MethodName × Nat)) (List.mem_append_right _ (List.mem_append_right _ (List.mem_append_right _ (List.mem_append_right _ (List.mem_append_right _ (List.mem_append_right _ (List.mem_of_getElem? (i := 8) (by decide +kernel)))))))) rfl), (List.forall_mem_cons.mpr ⟨(gw_1 (i := 9) (by decide +kernel) rfl), (List.forall_mem_cons.mpr ⟨(gw_6 (i := 164) (by decide +kernel) rfl), (List.forall_mem_nil _)⟩)⟩)⟩)⟩)⟩)
theorem cm8_372 : ∀ a ∈ wsCV RX8 372 RX8 yX8_stop cX8_stop 2 (some .int), a ∈ GW := by
  unfold wsCV
  exact (List.forall_mem_cons.mpr ⟨(gw_6 (i := 165) (by decide +kernel) rfl), (List.forall_mem_cons.mpr ⟨(gw_6 (i := 167) (by decide +kernel) rfl), (List.forall_mem_cons.mpr ⟨(gw_p (q := ((yX8_stop, 63) : MethodName × Nat)) (List.mem_append_right _ (List.mem_append_right _ (List.mem_append_right _ (List.mem_append_right _ (List.mem_append_right _ (List.mem_append_right _ (List.mem_of_getElem? (i := 9) (by decide +kernel)))))))) rfl), (List.forall_mem_cons.mpr ⟨(gw_1 (i := 9) (by decide +kernel) rfl), (List.forall_mem_cons.mpr ⟨(gw_6 (i := 168) (by decide +kernel) rfl), (List.forall_mem_nil _)⟩)⟩)⟩)⟩)⟩)
theorem ok8_calculate : okCV RX8 yX8_calculate 2 := by unfold okCV; decide +kernel
def f8_calculate (v1 : Int32) (v2 : Int32) : MdR → Option (Int32 × MdR)
  | (mR_rl, mR_ro, mR_rv, mR_rs, mR_rt, mR_rS, mR_rV, mR_rM) =>
    (f8_pop (mR_rl, mR_ro, mR_rv, mR_rs, mR_rt, mR_rS, mR_rV, mR_rM)).bind fun (r_2, (mR_rl_3, mR_ro_4, mR_rv_5, mR_rs_6, mR_rt_7, mR_rS_8, mR_rV_9, mR_rM_10)) => (f8_pop (mR_rl_3, mR_ro_4, mR_rv_5, mR_rs_6, mR_rt_7, mR_rS_8, mR_rV_9, mR_rM_10)).bind fun (r_12, (mR_rl_13, mR_ro_14, mR_rv_15, mR_rs_16, mR_rt_17, mR_rS_18, mR_rV_19, mR_rM_20)) => (f8_traps v2 r_2).bind fun r_22 => if r_22 = 0 then (f8_worked v2 r_12 r_2).bind fun r_24 => (f8_push2 r_24 (mR_rl_13, mR_ro_14, mR_rv_15, mR_rs_16, mR_rt_17, mR_rS_18, mR_rV_19, mR_rM_20)).bind fun (mR_rl_26, mR_ro_27, mR_rv_28, mR_rs_29, mR_rt_30, mR_rS_31, mR_rV_32, mR_rM_33) => some ((v1 + (1 : Int32)), (mR_rl_26, mR_ro_27, mR_rv_28, mR_rs_29, mR_rt_30, mR_rS_31, mR_rV_32, mR_rM_33)) else (f8_stop (1 : Int32) (mR_rl_13, mR_ro_14, mR_rv_15, mR_rs_16, mR_rt_17, mR_rS_18, mR_rV_19, mR_rM_20)).bind fun (r_35, (mR_rl_36, mR_ro_37, mR_rv_38, mR_rs_39, mR_rt_40, mR_rS_41, mR_rV_42, mR_rM_43)) => some (r_35, (mR_rl_36, mR_ro_37, mR_rv_38, mR_rs_39, mR_rt_40, mR_rS_41, mR_rV_42, mR_rM_43))
set_option maxHeartbeats 4000000 in
set_option maxRecDepth 100000 in
theorem b8_calculate {V : EV} {p : Program} {l : Launch} {e : Env} {R : Room} {s : State} {m : MethodId} {args : Array Value} {below : List Frame} {meth : Method} {c : Code} {Q : State → Prop} {A : Nat → Prop} {kc ks : Nat} {ad : Nat → Nat} {mT : MdT} {mQ : MdQ} {mK : MdK} {mN : MdN} {mP : MdP} {mL : MdL} {mH : MdH} {mG : MdG} {v1 : Int32} {v2 : Int32} {mR_rl : Int32} {mR_ro : Int32} {mR_rv : Int32} {mR_rs : Int32} {mR_rt : Int32} {mR_rS : Nat → Int32} {mR_rV : Nat → Int32} {mR_rM : Nat → Int32} {res : Int32 × MdR} (C : CX V p l R s m args c A kc ks RX8 cX8_calculate 5 1 22) (hf : f8_calculate v1 v2 (mR_rl, mR_ro, mR_rv, mR_rs, mR_rt, mR_rS, mR_rV, mR_rM) = some res) (K : RI V p l e R s m args below meth c Q A kc ks 5 cX8_calculate .int res.1 (wM V ad mT mQ mK mN mP mL mH res.2 mG)) : WC V p l e R s m args below meth c Q A kc ks 5 (wM V ad mT mQ mK mN mP mL mH (mR_rl, mR_ro, mR_rv, mR_rs, mR_rt, mR_rS, mR_rV, mR_rM) mG) 0 [(0, .ref (ad 0)), (1, .int v1), (2, .int v2)] [] := by
  rw [f8_calculate] at hf
  refine k_aload_n C dX8_calculate_0 0 rfl ?_
  obtain ⟨⟨r_2, ⟨mR_rl_3, mR_ro_4, mR_rv_5, mR_rs_6, mR_rt_7, mR_rS_8, mR_rV_9, mR_rM_10⟩⟩, hq_1, hf⟩ := ob_el hf
  dsimp only at hf
  refine k_callVi C (c8_pop C.2.2.2.2.2.2.2.2.2.1 hq_1) cm8_366 ok8_pop (by decide) 0 rfl rfl rfl rfl (Nat.le_of_ble_eq_true rfl) dX8_calculate_1 ?_
  refine k_istore_n C dX8_calculate_4 [(3, .int r_2), (0, .ref (ad 0)), (1, .int v1), (2, .int v2)] (by decide) rfl ?_
  refine k_aload_n C dX8_calculate_5 1 rfl ?_
  obtain ⟨⟨r_12, ⟨mR_rl_13, mR_ro_14, mR_rv_15, mR_rs_16, mR_rt_17, mR_rS_18, mR_rV_19, mR_rM_20⟩⟩, hq_11, hf⟩ := ob_el hf
  dsimp only at hf
  refine k_callVi C (c8_pop C.2.2.2.2.2.2.2.2.2.1 hq_11) cm8_366 ok8_pop (by decide) 0 rfl rfl rfl rfl (Nat.le_of_ble_eq_true rfl) dX8_calculate_6 ?_
  refine k_istore C dX8_calculate_9 [(4, .int r_12), (3, .int r_2), (0, .ref (ad 0)), (1, .int v1), (2, .int v2)] (by decide) rfl ?_
  refine k_iload_n C dX8_calculate_11 4 rfl ?_
  refine k_iload_n C dX8_calculate_12 1 rfl ?_
  obtain ⟨r_22, hq_21, hf⟩ := ob_el hf
  refine k_callSi C (c8_traps C.2.2.2.2.2.2.2.2.2.1 hq_21) cm8_312 ok8_traps (by decide) rfl rfl (Nat.le_of_ble_eq_true rfl) dX8_calculate_13 ?_
  refine k_if_eq C 25 dX8_calculate_16 (by decide) (fun hc => ?_) (fun hc => ?_)
  · replace hf := (if_pos hc).symm.trans hf
    refine k_aload_n C dX8_calculate_25 2 rfl ?_
    refine k_iload_n C dX8_calculate_26 4 rfl ?_
    refine k_iload C dX8_calculate_27 0 rfl ?_
    refine k_iload_n C dX8_calculate_29 1 rfl ?_
    obtain ⟨r_24, hq_23, hf⟩ := ob_el hf
    refine k_callSi C (c8_worked C.2.2.2.2.2.2.2.2.2.1 hq_23) cm8_316 ok8_worked (by decide) rfl rfl (Nat.le_of_ble_eq_true rfl) dX8_calculate_30 ?_
    obtain ⟨⟨mR_rl_26, mR_ro_27, mR_rv_28, mR_rs_29, mR_rt_30, mR_rS_31, mR_rV_32, mR_rM_33⟩, hq_25, hf⟩ := ob_el hf
    dsimp only at hf
    refine k_callVv C (c8_push2 C.2.2.2.2.2.2.2.2.2.1 hq_25) cm8_353 ok8_push2 (by decide) 0 rfl rfl rfl rfl (Nat.le_of_ble_eq_true rfl) dX8_calculate_33 ?_
    refine k_iload_n C dX8_calculate_36 3 rfl ?_
    refine k_iconst (v := (1 : Int32)) C dX8_calculate_37 (by decide) ?_
    refine k_iadd C dX8_calculate_38 ?_
    cases hf
    exact K _ _ dX8_calculate_39 rfl
  · replace hf := (if_neg hc).symm.trans hf
    refine k_aload_n C dX8_calculate_19 2 rfl ?_
    refine k_iconst (v := (1 : Int32)) C dX8_calculate_20 (by decide) ?_
    obtain ⟨⟨r_35, ⟨mR_rl_36, mR_ro_37, mR_rv_38, mR_rs_39, mR_rt_40, mR_rS_41, mR_rV_42, mR_rM_43⟩⟩, hq_34, hf⟩ := ob_el hf
    dsimp only at hf
    refine k_callVi C (c8_stop C.2.2.2.2.2.2.2.2.2.1 hq_34) cm8_372 ok8_stop (by decide) 0 rfl rfl rfl rfl (Nat.le_of_ble_eq_true rfl) dX8_calculate_21 ?_
    cases hf
    exact K _ _ dX8_calculate_24 rfl
theorem c8_calculate {V : EV} {l : Launch} (hl0 : l.stackTraces = false) {ad : Nat → Nat} {mT : MdT} {mQ : MdQ} {mK : MdK} {mN : MdN} {mP : MdP} {mL : MdL} {mH : MdH} {mG : MdG} {v1 : Int32} {v2 : Int32} {mR_rl : Int32} {mR_ro : Int32} {mR_rv : Int32} {mR_rs : Int32} {mR_rt : Int32} {mR_rS : Nat → Int32} {mR_rV : Nat → Int32} {mR_rM : Nat → Int32} {res : Int32 × MdR} (hf : f8_calculate v1 v2 (mR_rl, mR_ro, mR_rv, mR_rs, mR_rt, mR_rS, mR_rV, mR_rM) = some res) : MI V l yX8_calculate cX8_calculate 5 .int 1 22 [.ref (ad 0), .int v1, .int v2] (wM V ad mT mQ mK mN mP mL mH (mR_rl, mR_ro, mR_rv, mR_rs, mR_rt, mR_rS, mR_rV, mR_rM) mG) res.1 (wM V ad mT mQ mK mN mP mL mH res.2 mG) :=
  mi_of hl0 (by decide +kernel) (Nat.le_of_ble_eq_true rfl) (fun p e R s m args below meth c Q A C K => b8_calculate C hf K)

theorem ok8_compare : okCV RX8 yX8_compare 2 := by unfold okCV; decide +kernel
def f8_compare (v1 : Int32) (v2 : Int32) : MdR → Option (Int32 × MdR)
  | (mR_rl, mR_ro, mR_rv, mR_rs, mR_rt, mR_rS, mR_rV, mR_rM) =>
    (f8_pop (mR_rl, mR_ro, mR_rv, mR_rs, mR_rt, mR_rS, mR_rV, mR_rM)).bind fun (r_2, (mR_rl_3, mR_ro_4, mR_rv_5, mR_rs_6, mR_rt_7, mR_rS_8, mR_rV_9, mR_rM_10)) => (f8_pop (mR_rl_3, mR_ro_4, mR_rv_5, mR_rs_6, mR_rt_7, mR_rS_8, mR_rV_9, mR_rM_10)).bind fun (r_12, (mR_rl_13, mR_ro_14, mR_rv_15, mR_rs_16, mR_rt_17, mR_rS_18, mR_rV_19, mR_rM_20)) => (f8_compared v2 r_12 r_2).bind fun r_22 => if r_22 = 0 then (f8_push2 (0 : Int32) (mR_rl_13, mR_ro_14, mR_rv_15, mR_rs_16, mR_rt_17, mR_rS_18, mR_rV_19, mR_rM_20)).bind fun (mR_rl_24, mR_ro_25, mR_rv_26, mR_rs_27, mR_rt_28, mR_rS_29, mR_rV_30, mR_rM_31) => some ((v1 + (1 : Int32)), (mR_rl_24, mR_ro_25, mR_rv_26, mR_rs_27, mR_rt_28, mR_rS_29, mR_rV_30, mR_rM_31)) else (f8_push2 (1 : Int32) (mR_rl_13, mR_ro_14, mR_rv_15, mR_rs_16, mR_rt_17, mR_rS_18, mR_rV_19, mR_rM_20)).bind fun (mR_rl_33, mR_ro_34, mR_rv_35, mR_rs_36, mR_rt_37, mR_rS_38, mR_rV_39, mR_rM_40) => some ((v1 + (1 : Int32)), (mR_rl_33, mR_ro_34, mR_rv_35, mR_rs_36, mR_rt_37, mR_rS_38, mR_rV_39, mR_rM_40))
set_option maxHeartbeats 4000000 in
set_option maxRecDepth 100000 in
theorem b8_compare {V : EV} {p : Program} {l : Launch} {e : Env} {R : Room} {s : State} {m : MethodId} {args : Array Value} {below : List Frame} {meth : Method} {c : Code} {Q : State → Prop} {A : Nat → Prop} {kc ks : Nat} {ad : Nat → Nat} {mT : MdT} {mQ : MdQ} {mK : MdK} {mN : MdN} {mP : MdP} {mL : MdL} {mH : MdH} {mG : MdG} {v1 : Int32} {v2 : Int32} {mR_rl : Int32} {mR_ro : Int32} {mR_rv : Int32} {mR_rs : Int32} {mR_rt : Int32} {mR_rS : Nat → Int32} {mR_rV : Nat → Int32} {mR_rM : Nat → Int32} {res : Int32 × MdR} (C : CX V p l R s m args c A kc ks RX8 cX8_compare 5 1 22) (hf : f8_compare v1 v2 (mR_rl, mR_ro, mR_rv, mR_rs, mR_rt, mR_rS, mR_rV, mR_rM) = some res) (K : RI V p l e R s m args below meth c Q A kc ks 5 cX8_compare .int res.1 (wM V ad mT mQ mK mN mP mL mH res.2 mG)) : WC V p l e R s m args below meth c Q A kc ks 5 (wM V ad mT mQ mK mN mP mL mH (mR_rl, mR_ro, mR_rv, mR_rs, mR_rt, mR_rS, mR_rV, mR_rM) mG) 0 [(0, .ref (ad 0)), (1, .int v1), (2, .int v2)] [] := by
  rw [f8_compare] at hf
  refine k_aload_n C dX8_compare_0 0 rfl ?_
  obtain ⟨⟨r_2, ⟨mR_rl_3, mR_ro_4, mR_rv_5, mR_rs_6, mR_rt_7, mR_rS_8, mR_rV_9, mR_rM_10⟩⟩, hq_1, hf⟩ := ob_el hf
  dsimp only at hf
  refine k_callVi C (c8_pop C.2.2.2.2.2.2.2.2.2.1 hq_1) cm8_366 ok8_pop (by decide) 0 rfl rfl rfl rfl (Nat.le_of_ble_eq_true rfl) dX8_compare_1 ?_
  refine k_istore_n C dX8_compare_4 [(3, .int r_2), (0, .ref (ad 0)), (1, .int v1), (2, .int v2)] (by decide) rfl ?_
  refine k_aload_n C dX8_compare_5 1 rfl ?_
  obtain ⟨⟨r_12, ⟨mR_rl_13, mR_ro_14, mR_rv_15, mR_rs_16, mR_rt_17, mR_rS_18, mR_rV_19, mR_rM_20⟩⟩, hq_11, hf⟩ := ob_el hf
  dsimp only at hf
  refine k_callVi C (c8_pop C.2.2.2.2.2.2.2.2.2.1 hq_11) cm8_366 ok8_pop (by decide) 0 rfl rfl rfl rfl (Nat.le_of_ble_eq_true rfl) dX8_compare_6 ?_
  refine k_istore C dX8_compare_9 [(4, .int r_12), (3, .int r_2), (0, .ref (ad 0)), (1, .int v1), (2, .int v2)] (by decide) rfl ?_
  refine k_aload_n C dX8_compare_11 2 rfl ?_
  refine k_iload_n C dX8_compare_12 4 rfl ?_
  refine k_iload C dX8_compare_13 0 rfl ?_
  refine k_iload_n C dX8_compare_15 1 rfl ?_
  obtain ⟨r_22, hq_21, hf⟩ := ob_el hf
  refine k_callSi C (c8_compared C.2.2.2.2.2.2.2.2.2.1 hq_21) cm8_322 ok8_compared (by decide) rfl rfl (Nat.le_of_ble_eq_true rfl) dX8_compare_16 ?_
  refine k_if_eq C 26 dX8_compare_19 (by decide) (fun hc => ?_) (fun hc => ?_)
  · replace hf := (if_pos hc).symm.trans hf
    refine k_iconst (v := (0 : Int32)) C dX8_compare_26 (by decide) ?_
    obtain ⟨⟨mR_rl_24, mR_ro_25, mR_rv_26, mR_rs_27, mR_rt_28, mR_rS_29, mR_rV_30, mR_rM_31⟩, hq_23, hf⟩ := ob_el hf
    dsimp only at hf
    refine k_callVv C (c8_push2 C.2.2.2.2.2.2.2.2.2.1 hq_23) cm8_353 ok8_push2 (by decide) 0 rfl rfl rfl rfl (Nat.le_of_ble_eq_true rfl) dX8_compare_27 ?_
    refine k_iload_n C dX8_compare_30 3 rfl ?_
    refine k_iconst (v := (1 : Int32)) C dX8_compare_31 (by decide) ?_
    refine k_iadd C dX8_compare_32 ?_
    cases hf
    exact K _ _ dX8_compare_33 rfl
  · replace hf := (if_neg hc).symm.trans hf
    refine k_iconst (v := (1 : Int32)) C dX8_compare_22 (by decide) ?_
    refine k_goto C 27 dX8_compare_23 (by decide) ?_
    obtain ⟨⟨mR_rl_33, mR_ro_34, mR_rv_35, mR_rs_36, mR_rt_37, mR_rS_38, mR_rV_39, mR_rM_40⟩, hq_32, hf⟩ := ob_el hf
    dsimp only at hf
    refine k_callVv C (c8_push2 C.2.2.2.2.2.2.2.2.2.1 hq_32) cm8_353 ok8_push2 (by decide) 0 rfl rfl rfl rfl (Nat.le_of_ble_eq_true rfl) dX8_compare_27 ?_
    refine k_iload_n C dX8_compare_30 3 rfl ?_
    refine k_iconst (v := (1 : Int32)) C dX8_compare_31 (by decide) ?_
    refine k_iadd C dX8_compare_32 ?_
    cases hf
    exact K _ _ dX8_compare_33 rfl
theorem c8_compare {V : EV} {l : Launch} (hl0 : l.stackTraces = false) {ad : Nat → Nat} {mT : MdT} {mQ : MdQ} {mK : MdK} {mN : MdN} {mP : MdP} {mL : MdL} {mH : MdH} {mG : MdG} {v1 : Int32} {v2 : Int32} {mR_rl : Int32} {mR_ro : Int32} {mR_rv : Int32} {mR_rs : Int32} {mR_rt : Int32} {mR_rS : Nat → Int32} {mR_rV : Nat → Int32} {mR_rM : Nat → Int32} {res : Int32 × MdR} (hf : f8_compare v1 v2 (mR_rl, mR_ro, mR_rv, mR_rs, mR_rt, mR_rS, mR_rV, mR_rM) = some res) : MI V l yX8_compare cX8_compare 5 .int 1 22 [.ref (ad 0), .int v1, .int v2] (wM V ad mT mQ mK mN mP mL mH (mR_rl, mR_ro, mR_rv, mR_rs, mR_rt, mR_rS, mR_rV, mR_rM) mG) res.1 (wM V ad mT mQ mK mN mP mL mH res.2 mG) :=
  mi_of hl0 (by decide +kernel) (Nat.le_of_ble_eq_true rfl) (fun p e R s m args below meth c Q A C K => b8_compare C hf K)

theorem ok8_cut : okCV RX8 yX8_cut 2 := by unfold okCV; decide +kernel
def f8_cut_L15   (mK_ks : Int32) (mK_kk : Nat → Int32) (mK_kv : Nat → Int32) (mK_kt : Nat → Int32) : Int32 → Int32 → Int32 → Int32 → MdR → Option (Int32 × MdR)
  | x1, x3, y0, y1, (mR_rl, mR_ro, mR_rv, mR_rs, mR_rt, mR_rS, mR_rV, mR_rM) =>
    if y1 = y0 then (f8_push2 x3 (mR_rl, mR_ro, mR_rv, mR_rs, mR_rt, mR_rS, mR_rV, mR_rM)).bind fun (mR_rl_12, mR_ro_13, mR_rv_14, mR_rs_15, mR_rt_16, mR_rS_17, mR_rV_18, mR_rM_19) => if x1 < 0 ∨ 512 ≤ x1.toNatClampNeg then none else some ((mK_kv x1.toNatClampNeg), (mR_rl_12, mR_ro_13, mR_rv_14, mR_rs_15, mR_rt_16, mR_rS_17, mR_rV_18, mR_rM_19)) else some ((x1 + (1 : Int32)), (mR_rl, mR_ro, mR_rv, mR_rs, mR_rt, mR_rS, mR_rV, mR_rM))
def f8_cut (v1 : Int32) (v2 : Int32) : MdK → MdR → Option (Int32 × MdR)
  | (mK_ks, mK_kk, mK_kv, mK_kt), (mR_rl, mR_ro, mR_rv, mR_rs, mR_rt, mR_rS, mR_rV, mR_rM) =>
    (f8_pop (mR_rl, mR_ro, mR_rv, mR_rs, mR_rt, mR_rS, mR_rV, mR_rM)).bind fun (r_2, (mR_rl_3, mR_ro_4, mR_rv_5, mR_rs_6, mR_rt_7, mR_rS_8, mR_rV_9, mR_rM_10)) => if r_2 = 0 then f8_cut_L15 mK_ks mK_kk mK_kv mK_kt v1 r_2 (1 : Int32) v2 (mR_rl_3, mR_ro_4, mR_rv_5, mR_rs_6, mR_rt_7, mR_rS_8, mR_rV_9, mR_rM_10) else f8_cut_L15 mK_ks mK_kk mK_kv mK_kt v1 r_2 (0 : Int32) v2 (mR_rl_3, mR_ro_4, mR_rv_5, mR_rs_6, mR_rt_7, mR_rS_8, mR_rV_9, mR_rM_10)
set_option maxHeartbeats 4000000 in
set_option maxRecDepth 100000 in
theorem w8_cut_L15 {V : EV} {p : Program} {l : Launch} {e : Env} {R : Room} {s : State} {m : MethodId} {args : Array Value} {below : List Frame} {meth : Method} {c : Code} {Q : State → Prop} {A : Nat → Prop} {kc ks : Nat} {ad : Nat → Nat} {mT : MdT} {mQ : MdQ} {mN : MdN} {mP : MdP} {mL : MdL} {mH : MdH} {mG : MdG} {mK_ks : Int32} {mK_kk : Nat → Int32} {mK_kv : Nat → Int32} {mK_kt : Nat → Int32}  {res : Int32 × MdR} (C : CX V p l R s m args c A kc ks RX8 cX8_cut 4 1 21) (K : RI V p l e R s m args below meth c Q A kc ks 4 cX8_cut .int res.1 (wM V ad mT mQ (mK_ks, mK_kk, mK_kv, mK_kt) mN mP mL mH res.2 mG))  : ∀ (x1 : Int32) (x3 : Int32) (y0 : Int32) (y1 : Int32) (mR_rl : Int32) (mR_ro : Int32) (mR_rv : Int32) (mR_rs : Int32) (mR_rt : Int32) (mR_rS : Nat → Int32) (mR_rV : Nat → Int32) (mR_rM : Nat → Int32), f8_cut_L15 mK_ks mK_kk mK_kv mK_kt x1 x3 y0 y1 (mR_rl, mR_ro, mR_rv, mR_rs, mR_rt, mR_rS, mR_rV, mR_rM) = some res → WC V p l e R s m args below meth c Q A kc ks 4 (wM V ad mT mQ (mK_ks, mK_kk, mK_kv, mK_kt) mN mP mL mH (mR_rl, mR_ro, mR_rv, mR_rs, mR_rt, mR_rS, mR_rV, mR_rM) mG) 15 [(0, .ref (ad 0)), (1, .int x1), (3, .int x3)] [.int y0, .int y1] := by
  intro x1 x3 y0 y1 mR_rl mR_ro mR_rv mR_rs mR_rt mR_rS mR_rV mR_rM hf
  rw [f8_cut_L15] at hf
  refine k_icmp_ne C 30 dX8_cut_15 (by decide) (fun hc => ?_) (fun hc => ?_)
  · replace hf := (if_neg hc).symm.trans hf
    refine k_iload_n C dX8_cut_30 1 rfl ?_
    refine k_iconst (v := (1 : Int32)) C dX8_cut_31 (by decide) ?_
    refine k_iadd C dX8_cut_32 ?_
    cases hf
    exact K _ _ dX8_cut_33 rfl
  · replace hf := (if_pos hc).symm.trans hf
    refine k_aload_n C dX8_cut_18 0 rfl ?_
    refine k_iload_n C dX8_cut_19 2 rfl ?_
    obtain ⟨⟨mR_rl_12, mR_ro_13, mR_rv_14, mR_rs_15, mR_rt_16, mR_rS_17, mR_rV_18, mR_rM_19⟩, hq_11, hf⟩ := ob_el hf
    dsimp only at hf
    refine k_callVv C (c8_push2 C.2.2.2.2.2.2.2.2.2.1 hq_11) cm8_353 ok8_push2 (by decide) 0 rfl rfl rfl rfl (Nat.le_of_ble_eq_true rfl) dX8_cut_20 ?_
    refine k_aload_n C dX8_cut_23 0 rfl ?_
    refine g8_16 C dX8_cut_24 ?_
    refine k_iload_n C dX8_cut_27 1 rfl ?_
    obtain ⟨hi, hf⟩ := gd_no hf
    refine lm3 C hi dX8_cut_28 ?_
    cases hf
    exact K _ _ dX8_cut_29 rfl
set_option maxHeartbeats 4000000 in
set_option maxRecDepth 100000 in
theorem b8_cut {V : EV} {p : Program} {l : Launch} {e : Env} {R : Room} {s : State} {m : MethodId} {args : Array Value} {below : List Frame} {meth : Method} {c : Code} {Q : State → Prop} {A : Nat → Prop} {kc ks : Nat} {ad : Nat → Nat} {mT : MdT} {mQ : MdQ} {mN : MdN} {mP : MdP} {mL : MdL} {mH : MdH} {mG : MdG} {mK_ks : Int32} {mK_kk : Nat → Int32} {mK_kv : Nat → Int32} {mK_kt : Nat → Int32} {v1 : Int32} {v2 : Int32} {mR_rl : Int32} {mR_ro : Int32} {mR_rv : Int32} {mR_rs : Int32} {mR_rt : Int32} {mR_rS : Nat → Int32} {mR_rV : Nat → Int32} {mR_rM : Nat → Int32} {res : Int32 × MdR} (C : CX V p l R s m args c A kc ks RX8 cX8_cut 4 1 21) (hf : f8_cut v1 v2 (mK_ks, mK_kk, mK_kv, mK_kt) (mR_rl, mR_ro, mR_rv, mR_rs, mR_rt, mR_rS, mR_rV, mR_rM) = some res) (K : RI V p l e R s m args below meth c Q A kc ks 4 cX8_cut .int res.1 (wM V ad mT mQ (mK_ks, mK_kk, mK_kv, mK_kt) mN mP mL mH res.2 mG)) : WC V p l e R s m args below meth c Q A kc ks 4 (wM V ad mT mQ (mK_ks, mK_kk, mK_kv, mK_kt) mN mP mL mH (mR_rl, mR_ro, mR_rv, mR_rs, mR_rt, mR_rS, mR_rV, mR_rM) mG) 0 [(0, .ref (ad 0)), (1, .int v1), (2, .int v2)] [] := by
  rw [f8_cut] at hf
  refine k_aload_n C dX8_cut_0 0 rfl ?_
  obtain ⟨⟨r_2, ⟨mR_rl_3, mR_ro_4, mR_rv_5, mR_rs_6, mR_rt_7, mR_rS_8, mR_rV_9, mR_rM_10⟩⟩, hq_1, hf⟩ := ob_el hf
  dsimp only at hf
  refine k_callVi C (c8_pop C.2.2.2.2.2.2.2.2.2.1 hq_1) cm8_366 ok8_pop (by decide) 0 rfl rfl rfl rfl (Nat.le_of_ble_eq_true rfl) dX8_cut_1 ?_
  refine k_istore_n C dX8_cut_4 [(3, .int r_2), (0, .ref (ad 0)), (1, .int v1), (2, .int v2)] (by decide) rfl ?_
  refine k_iload_n C dX8_cut_5 3 rfl ?_
  refine k_iload_n C dX8_cut_6 0 rfl ?_
  refine k_if_ne C 14 dX8_cut_7 (by decide) (fun hc => ?_) (fun hc => ?_)
  · replace hf := (if_neg hc).symm.trans hf
    refine k_iconst (v := (0 : Int32)) C dX8_cut_14 (by decide) ?_
    refine k_sub [1, 2, 0] (L' := [(0, .ref (ad 0)), (1, .int v1), (3, .int r_2)]) rfl ?_
    exact w8_cut_L15 C K _ _ _ _ _ _ _ _ _ _ _ _ hf
  · replace hf := (if_pos hc).symm.trans hf
    refine k_iconst (v := (1 : Int32)) C dX8_cut_10 (by decide) ?_
    refine k_goto C 15 dX8_cut_11 (by decide) ?_
    refine k_sub [1, 2, 0] (L' := [(0, .ref (ad 0)), (1, .int v1), (3, .int r_2)]) rfl ?_
    exact w8_cut_L15 C K _ _ _ _ _ _ _ _ _ _ _ _ hf
theorem c8_cut {V : EV} {l : Launch} (hl0 : l.stackTraces = false) {ad : Nat → Nat} {mT : MdT} {mQ : MdQ} {mN : MdN} {mP : MdP} {mL : MdL} {mH : MdH} {mG : MdG} {mK_ks : Int32} {mK_kk : Nat → Int32} {mK_kv : Nat → Int32} {mK_kt : Nat → Int32} {v1 : Int32} {v2 : Int32} {mR_rl : Int32} {mR_ro : Int32} {mR_rv : Int32} {mR_rs : Int32} {mR_rt : Int32} {mR_rS : Nat → Int32} {mR_rV : Nat → Int32} {mR_rM : Nat → Int32} {res : Int32 × MdR} (hf : f8_cut v1 v2 (mK_ks, mK_kk, mK_kv, mK_kt) (mR_rl, mR_ro, mR_rv, mR_rs, mR_rt, mR_rS, mR_rV, mR_rM) = some res) : MI V l yX8_cut cX8_cut 4 .int 1 21 [.ref (ad 0), .int v1, .int v2] (wM V ad mT mQ (mK_ks, mK_kk, mK_kv, mK_kt) mN mP mL mH (mR_rl, mR_ro, mR_rv, mR_rs, mR_rt, mR_rS, mR_rV, mR_rM) mG) res.1 (wM V ad mT mQ (mK_ks, mK_kk, mK_kv, mK_kt) mN mP mL mH res.2 mG) :=
  mi_of hl0 (by decide +kernel) (Nat.le_of_ble_eq_true rfl) (fun p e R s m args below meth c Q A C K => b8_cut C hf K)

theorem ok8_burn : okCV RX8 yX8_burn 1 := by unfold okCV; decide +kernel
def f8_burn (v1 : Int32) : MdR → Option (Int32 × MdR)
  | (mR_rl, mR_ro, mR_rv, mR_rs, mR_rt, mR_rS, mR_rV, mR_rM) =>
    if mR_rl = 0 then (f8_stop (3 : Int32) (mR_rl, mR_ro, mR_rv, mR_rs, mR_rt, mR_rS, mR_rV, mR_rM)).bind fun (r_2, (mR_rl_3, mR_ro_4, mR_rv_5, mR_rs_6, mR_rt_7, mR_rS_8, mR_rV_9, mR_rM_10)) => some (r_2, (mR_rl_3, mR_ro_4, mR_rv_5, mR_rs_6, mR_rt_7, mR_rS_8, mR_rV_9, mR_rM_10)) else some ((v1 + (1 : Int32)), ((mR_rl - (1 : Int32)), mR_ro, mR_rv, mR_rs, mR_rt, mR_rS, mR_rV, mR_rM))
set_option maxHeartbeats 4000000 in
set_option maxRecDepth 100000 in
theorem b8_burn {V : EV} {p : Program} {l : Launch} {e : Env} {R : Room} {s : State} {m : MethodId} {args : Array Value} {below : List Frame} {meth : Method} {c : Code} {Q : State → Prop} {A : Nat → Prop} {kc ks : Nat} {ad : Nat → Nat} {mT : MdT} {mQ : MdQ} {mK : MdK} {mN : MdN} {mP : MdP} {mL : MdL} {mH : MdH} {mG : MdG} {v1 : Int32} {mR_rl : Int32} {mR_ro : Int32} {mR_rv : Int32} {mR_rs : Int32} {mR_rt : Int32} {mR_rS : Nat → Int32} {mR_rV : Nat → Int32} {mR_rM : Nat → Int32} {res : Int32 × MdR} (C : CX V p l R s m args c A kc ks RX8 cX8_burn 2 1 21) (hf : f8_burn v1 (mR_rl, mR_ro, mR_rv, mR_rs, mR_rt, mR_rS, mR_rV, mR_rM) = some res) (K : RI V p l e R s m args below meth c Q A kc ks 2 cX8_burn .int res.1 (wM V ad mT mQ mK mN mP mL mH res.2 mG)) : WC V p l e R s m args below meth c Q A kc ks 2 (wM V ad mT mQ mK mN mP mL mH (mR_rl, mR_ro, mR_rv, mR_rs, mR_rt, mR_rS, mR_rV, mR_rM) mG) 0 [(0, .ref (ad 0)), (1, .int v1)] [] := by
  rw [f8_burn] at hf
  refine k_aload_n C dX8_burn_0 0 rfl ?_
  refine g8_338 C dX8_burn_1 ?_
  refine k_if_ne C 13 dX8_burn_4 (by decide) (fun hc => ?_) (fun hc => ?_)
  · replace hf := (if_neg hc).symm.trans hf
    refine k_aload_n C dX8_burn_13 0 rfl ?_
    refine k_dup C dX8_burn_14 rfl ?_
    refine g8_338 C dX8_burn_15 ?_
    refine k_iconst (v := (1 : Int32)) C dX8_burn_18 (by decide) ?_
    refine k_isub C dX8_burn_19 ?_
    refine p8_338 C dX8_burn_20 ?_
    refine k_iload_n C dX8_burn_23 1 rfl ?_
    refine k_iconst (v := (1 : Int32)) C dX8_burn_24 (by decide) ?_
    refine k_iadd C dX8_burn_25 ?_
    cases hf
    exact K _ _ dX8_burn_26 rfl
  · replace hf := (if_pos hc).symm.trans hf
    refine k_aload_n C dX8_burn_7 0 rfl ?_
    refine k_iconst (v := (3 : Int32)) C dX8_burn_8 (by decide) ?_
    obtain ⟨⟨r_2, ⟨mR_rl_3, mR_ro_4, mR_rv_5, mR_rs_6, mR_rt_7, mR_rS_8, mR_rV_9, mR_rM_10⟩⟩, hq_1, hf⟩ := ob_el hf
    dsimp only at hf
    refine k_callVi C (c8_stop C.2.2.2.2.2.2.2.2.2.1 hq_1) cm8_372 ok8_stop (by decide) 0 rfl rfl rfl rfl (Nat.le_of_ble_eq_true rfl) dX8_burn_9 ?_
    cases hf
    exact K _ _ dX8_burn_12 rfl
theorem c8_burn {V : EV} {l : Launch} (hl0 : l.stackTraces = false) {ad : Nat → Nat} {mT : MdT} {mQ : MdQ} {mK : MdK} {mN : MdN} {mP : MdP} {mL : MdL} {mH : MdH} {mG : MdG} {v1 : Int32} {mR_rl : Int32} {mR_ro : Int32} {mR_rv : Int32} {mR_rs : Int32} {mR_rt : Int32} {mR_rS : Nat → Int32} {mR_rV : Nat → Int32} {mR_rM : Nat → Int32} {res : Int32 × MdR} (hf : f8_burn v1 (mR_rl, mR_ro, mR_rv, mR_rs, mR_rt, mR_rS, mR_rV, mR_rM) = some res) : MI V l yX8_burn cX8_burn 2 .int 1 21 [.ref (ad 0), .int v1] (wM V ad mT mQ mK mN mP mL mH (mR_rl, mR_ro, mR_rv, mR_rs, mR_rt, mR_rS, mR_rV, mR_rM) mG) res.1 (wM V ad mT mQ mK mN mP mL mH res.2 mG) :=
  mi_of hl0 (by decide +kernel) (Nat.le_of_ble_eq_true rfl) (fun p e R s m args below meth c Q A C K => b8_burn C hf K)

theorem cm8_356 : ∀ a ∈ wsCV RX8 356 RX8 yX8_calculate cX8_calculate 5 (some .int), a ∈ GW := by
  unfold wsCV
  exact (List.forall_mem_cons.mpr ⟨(gw_6 (i := 157) (by decide +kernel) rfl), (List.forall_mem_cons.mpr ⟨(gw_6 (i := 159) (by decide +kernel) rfl), (List.forall_mem_cons.mpr ⟨(gw_p (q := ((yX8_calculate, 63) : MethodName × Nat)) (List.mem_append_right _ (List.mem_append_right _ (List.mem_append_right _ (List.mem_append_right _ (List.mem_append_right _ (List.mem_append_right _ (List.mem_of_getElem? (i := 7) (by decide +kernel)))))))) rfl), (List.forall_mem_cons.mpr ⟨(gw_1 (i := 9) (by decide +kernel) rfl), (List.forall_mem_cons.mpr ⟨(gw_6 (i := 160) (by decide +kernel) rfl), (List.forall_mem_nil _)⟩)⟩)⟩)⟩)⟩)
theorem cm8_359 : ∀ a ∈ wsCV RX8 359 RX8 yX8_compare cX8_compare 5 (some .int), a ∈ GW := by
  unfold wsCV
  exact (List.forall_mem_cons.mpr ⟨(gw_6 (i := 169) (by decide +kernel) rfl), (List.forall_mem_cons.mpr ⟨(gw_6 (i := 171) (by decide +kernel) rfl), (List.forall_mem_cons.mpr ⟨(gw_p (q := ((yX8_compare, 63) : MethodName × Nat)) (List.mem_append_right _ (List.mem_append_right _ (List.mem_append_right _ (List.mem_append_right _ (List.mem_append_right _ (List.mem_append_right _ (List.mem_of_getElem? (i := 10) (by decide +kernel)))))))) rfl), (List.forall_mem_cons.mpr ⟨(gw_1 (i := 9) (by decide +kernel) rfl), (List.forall_mem_cons.mpr ⟨(gw_6 (i := 172) (by decide +kernel) rfl), (List.forall_mem_nil _)⟩)⟩)⟩)⟩)⟩)
theorem cm8_362 : ∀ a ∈ wsCV RX8 362 RX8 yX8_cut cX8_cut 4 (some .int), a ∈ GW := by
  unfold wsCV
  exact (List.forall_mem_cons.mpr ⟨(gw_6 (i := 173) (by decide +kernel) rfl), (List.forall_mem_cons.mpr ⟨(gw_6 (i := 175) (by decide +kernel) rfl), (List.forall_mem_cons.mpr ⟨(gw_p (q := ((yX8_cut, 63) : MethodName × Nat)) (List.mem_append_right _ (List.mem_append_right _ (List.mem_append_right _ (List.mem_append_right _ (List.mem_append_right _ (List.mem_append_right _ (List.mem_of_getElem? (i := 11) (by decide +kernel)))))))) rfl), (List.forall_mem_cons.mpr ⟨(gw_1 (i := 9) (by decide +kernel) rfl), (List.forall_mem_cons.mpr ⟨(gw_6 (i := 176) (by decide +kernel) rfl), (List.forall_mem_nil _)⟩)⟩)⟩)⟩)⟩)
theorem cm8_369 : ∀ a ∈ wsCV RX8 369 RX8 yX8_burn cX8_burn 2 (some .int), a ∈ GW := by
  unfold wsCV
  exact (List.forall_mem_cons.mpr ⟨(gw_6 (i := 177) (by decide +kernel) rfl), (List.forall_mem_cons.mpr ⟨(gw_6 (i := 179) (by decide +kernel) rfl), (List.forall_mem_cons.mpr ⟨(gw_p (q := ((yX8_burn, 63) : MethodName × Nat)) (List.mem_append_right _ (List.mem_append_right _ (List.mem_append_right _ (List.mem_append_right _ (List.mem_append_right _ (List.mem_append_right _ (List.mem_of_getElem? (i := 12) (by decide +kernel)))))))) rfl), (List.forall_mem_cons.mpr ⟨(gw_1 (i := 9) (by decide +kernel) rfl), (List.forall_mem_cons.mpr ⟨(gw_6 (i := 180) (by decide +kernel) rfl), (List.forall_mem_nil _)⟩)⟩)⟩)⟩)⟩)
theorem ok8_execute : okCV RX8 yX8_execute 4 := by unfold okCV; decide +kernel
def f8_execute_L48   (mK_ks : Int32) (mK_kk : Nat → Int32) (mK_kv : Nat → Int32) (mK_kt : Nat → Int32) (mL_lm : Int32) (mL_lp : Nat → Int32) (mL_ls : Nat → Int32) (mL_li : Nat → Int32) (mL_lk : Nat → Int32) (mL_lf : Nat → Int32) : Int32 → Int32 → Int32 → Int32 → Int32 → MdR → Option (Int32 × MdR)
  | x1, x2, x3, x4, x6, (mR_rl, mR_ro, mR_rv, mR_rs, mR_rt, mR_rS, mR_rV, mR_rM) =>
    if x1 < 0 ∨ 512 ≤ x1.toNatClampNeg then none else if (mK_kk x1.toNatClampNeg) = (1 : Int32) then if x6 = 0 then some ((x1 + (1 : Int32)), (mR_rl, mR_ro, mR_rv, mR_rs, mR_rt, mR_rS, mR_rV, mR_rM)) else if x1 < 0 ∨ 512 ≤ x1.toNatClampNeg then none else some ((mK_kv x1.toNatClampNeg), (mR_rl, mR_ro, mR_rv, mR_rs, mR_rt, mR_rS, mR_rV, mR_rM)) else if (mK_kk x1.toNatClampNeg) = (2 : Int32) then if x6 = 0 then if x1 < 0 ∨ 512 ≤ x1.toNatClampNeg then none else (f8_push2 (mK_kv x1.toNatClampNeg) (mR_rl, mR_ro, mR_rv, mR_rs, mR_rt, mR_rS, mR_rV, mR_rM)).bind fun (mR_rl_13, mR_ro_14, mR_rv_15, mR_rs_16, mR_rt_17, mR_rS_18, mR_rV_19, mR_rM_20) => some ((x1 + (1 : Int32)), (mR_rl_13, mR_ro_14, mR_rv_15, mR_rs_16, mR_rt_17, mR_rS_18, mR_rV_19, mR_rM_20)) else if x2 < 0 ∨ 121 ≤ x2.toNatClampNeg then none else (f8_push2 (mL_li x2.toNatClampNeg) (mR_rl, mR_ro, mR_rv, mR_rs, mR_rt, mR_rS, mR_rV, mR_rM)).bind fun (mR_rl_22, mR_ro_23, mR_rv_24, mR_rs_25, mR_rt_26, mR_rS_27, mR_rV_28, mR_rM_29) => some ((x1 + (1 : Int32)), (mR_rl_22, mR_ro_23, mR_rv_24, mR_rs_25, mR_rt_26, mR_rS_27, mR_rV_28, mR_rM_29)) else if (mK_kk x1.toNatClampNeg) = (3 : Int32) then if x1 < 0 ∨ 512 ≤ x1.toNatClampNeg then none else if (mK_kv x1.toNatClampNeg) = (120 : Int32) then (f8_push2 x3 (mR_rl, mR_ro, mR_rv, mR_rs, mR_rt, mR_rS, mR_rV, mR_rM)).bind fun (mR_rl_40, mR_ro_41, mR_rv_42, mR_rs_43, mR_rt_44, mR_rS_45, mR_rV_46, mR_rM_47) => some ((x1 + (1 : Int32)), (mR_rl_40, mR_ro_41, mR_rv_42, mR_rs_43, mR_rt_44, mR_rS_45, mR_rV_46, mR_rM_47)) else (f8_push2 x4 (mR_rl, mR_ro, mR_rv, mR_rs, mR_rt, mR_rS, mR_rV, mR_rM)).bind fun (mR_rl_31, mR_ro_32, mR_rv_33, mR_rs_34, mR_rt_35, mR_rS_36, mR_rV_37, mR_rM_38) => some ((x1 + (1 : Int32)), (mR_rl_31, mR_ro_32, mR_rv_33, mR_rs_34, mR_rt_35, mR_rS_36, mR_rV_37, mR_rM_38)) else if (mK_kk x1.toNatClampNeg) = (4 : Int32) then if x1 < 0 ∨ 512 ≤ x1.toNatClampNeg then none else if (mK_kv x1.toNatClampNeg) < 0 ∨ 6 ≤ (mK_kv x1.toNatClampNeg).toNatClampNeg then none else (f8_push2 (mR_rV (mK_kv x1.toNatClampNeg).toNatClampNeg) (mR_rl, mR_ro, mR_rv, mR_rs, mR_rt, mR_rS, mR_rV, mR_rM)).bind fun (mR_rl_49, mR_ro_50, mR_rv_51, mR_rs_52, mR_rt_53, mR_rS_54, mR_rV_55, mR_rM_56) => some ((x1 + (1 : Int32)), (mR_rl_49, mR_ro_50, mR_rv_51, mR_rs_52, mR_rt_53, mR_rS_54, mR_rV_55, mR_rM_56)) else if (mK_kk x1.toNatClampNeg) = (5 : Int32) then if x6 = 0 then if x1 < 0 ∨ 512 ≤ x1.toNatClampNeg then none else (f8_calculate x1 (mK_kv x1.toNatClampNeg) (mR_rl, mR_ro, mR_rv, mR_rs, mR_rt, mR_rS, mR_rV, mR_rM)).bind fun (r_58, (mR_rl_59, mR_ro_60, mR_rv_61, mR_rs_62, mR_rt_63, mR_rS_64, mR_rV_65, mR_rM_66)) => some (r_58, (mR_rl_59, mR_ro_60, mR_rv_61, mR_rs_62, mR_rt_63, mR_rS_64, mR_rV_65, mR_rM_66)) else if x2 < 0 ∨ 121 ≤ x2.toNatClampNeg then none else (f8_calculate x1 (mL_li x2.toNatClampNeg) (mR_rl, mR_ro, mR_rv, mR_rs, mR_rt, mR_rS, mR_rV, mR_rM)).bind fun (r_68, (mR_rl_69, mR_ro_70, mR_rv_71, mR_rs_72, mR_rt_73, mR_rS_74, mR_rV_75, mR_rM_76)) => some (r_68, (mR_rl_69, mR_ro_70, mR_rv_71, mR_rs_72, mR_rt_73, mR_rS_74, mR_rV_75, mR_rM_76)) else if (mK_kk x1.toNatClampNeg) = (6 : Int32) then if x6 = 0 then if x1 < 0 ∨ 512 ≤ x1.toNatClampNeg then none else (f8_compare x1 (mK_kv x1.toNatClampNeg) (mR_rl, mR_ro, mR_rv, mR_rs, mR_rt, mR_rS, mR_rV, mR_rM)).bind fun (r_78, (mR_rl_79, mR_ro_80, mR_rv_81, mR_rs_82, mR_rt_83, mR_rS_84, mR_rV_85, mR_rM_86)) => some (r_78, (mR_rl_79, mR_ro_80, mR_rv_81, mR_rs_82, mR_rt_83, mR_rS_84, mR_rV_85, mR_rM_86)) else if x2 < 0 ∨ 121 ≤ x2.toNatClampNeg then none else (f8_compare x1 (mL_li x2.toNatClampNeg) (mR_rl, mR_ro, mR_rv, mR_rs, mR_rt, mR_rS, mR_rV, mR_rM)).bind fun (r_88, (mR_rl_89, mR_ro_90, mR_rv_91, mR_rs_92, mR_rt_93, mR_rS_94, mR_rV_95, mR_rM_96)) => some (r_88, (mR_rl_89, mR_ro_90, mR_rv_91, mR_rs_92, mR_rt_93, mR_rS_94, mR_rV_95, mR_rM_96)) else if (mK_kk x1.toNatClampNeg) = (7 : Int32) then if x6 = 0 then (f8_cut x1 (1 : Int32) (mK_ks, mK_kk, mK_kv, mK_kt) (mR_rl, mR_ro, mR_rv, mR_rs, mR_rt, mR_rS, mR_rV, mR_rM)).bind fun (r_108, (mR_rl_109, mR_ro_110, mR_rv_111, mR_rs_112, mR_rt_113, mR_rS_114, mR_rV_115, mR_rM_116)) => some (r_108, (mR_rl_109, mR_ro_110, mR_rv_111, mR_rs_112, mR_rt_113, mR_rS_114, mR_rV_115, mR_rM_116)) else (f8_cut x1 (0 : Int32) (mK_ks, mK_kk, mK_kv, mK_kt) (mR_rl, mR_ro, mR_rv, mR_rs, mR_rt, mR_rS, mR_rV, mR_rM)).bind fun (r_98, (mR_rl_99, mR_ro_100, mR_rv_101, mR_rs_102, mR_rt_103, mR_rS_104, mR_rV_105, mR_rM_106)) => some (r_98, (mR_rl_99, mR_ro_100, mR_rv_101, mR_rs_102, mR_rt_103, mR_rS_104, mR_rV_105, mR_rM_106)) else if (mK_kk x1.toNatClampNeg) = (8 : Int32) then if x1 < 0 ∨ 512 ≤ x1.toNatClampNeg then none else (f8_pop (mR_rl, mR_ro, mR_rv, mR_rs, mR_rt, mR_rS, mR_rV, mR_rM)).bind fun (r_118, (mR_rl_119, mR_ro_120, mR_rv_121, mR_rs_122, mR_rt_123, mR_rS_124, mR_rV_125, mR_rM_126)) => if (mK_kv x1.toNatClampNeg) < 0 ∨ 6 ≤ (mK_kv x1.toNatClampNeg).toNatClampNeg then none else some ((x1 + (1 : Int32)), (mR_rl_119, mR_ro_120, mR_rv_121, mR_rs_122, mR_rt_123, mR_rS_124, (upd mR_rV_125 (mK_kv x1.toNatClampNeg).toNatClampNeg r_118), mR_rM_126)) else if (mK_kk x1.toNatClampNeg) = (9 : Int32) then (f8_pop (mR_rl, mR_ro, mR_rv, mR_rs, mR_rt, mR_rS, mR_rV, mR_rM)).bind fun (r_128, (mR_rl_129, mR_ro_130, mR_rv_131, mR_rs_132, mR_rt_133, mR_rS_134, mR_rV_135, mR_rM_136)) => if r_128 = 0 then if x1 < 0 ∨ 512 ≤ x1.toNatClampNeg then none else some ((mK_kv x1.toNatClampNeg), (mR_rl_129, mR_ro_130, mR_rv_131, mR_rs_132, mR_rt_133, mR_rS_134, mR_rV_135, mR_rM_136)) else some ((x1 + (1 : Int32)), (mR_rl_129, mR_ro_130, mR_rv_131, mR_rs_132, mR_rt_133, mR_rS_134, mR_rV_135, mR_rM_136)) else if (mK_kk x1.toNatClampNeg) = (10 : Int32) then if x1 < 0 ∨ 512 ≤ x1.toNatClampNeg then none else some ((mK_kv x1.toNatClampNeg), (mR_rl, mR_ro, mR_rv, mR_rs, mR_rt, mR_rS, mR_rV, mR_rM)) else if (mK_kk x1.toNatClampNeg) = (11 : Int32) then (f8_burn x1 (mR_rl, mR_ro, mR_rv, mR_rs, mR_rt, mR_rS, mR_rV, mR_rM)).bind fun (r_138, (mR_rl_139, mR_ro_140, mR_rv_141, mR_rs_142, mR_rt_143, mR_rS_144, mR_rV_145, mR_rM_146)) => some (r_138, (mR_rl_139, mR_ro_140, mR_rv_141, mR_rs_142, mR_rt_143, mR_rS_144, mR_rV_145, mR_rM_146)) else if (mK_kk x1.toNatClampNeg) = (12 : Int32) then (f8_pop (mR_rl, mR_ro, mR_rv, mR_rs, mR_rt, mR_rS, mR_rV, mR_rM)).bind fun (r_148, (mR_rl_149, mR_ro_150, mR_rv_151, mR_rs_152, mR_rt_153, mR_rS_154, mR_rV_155, mR_rM_156)) => if r_148 = 0 then (f8_stop (2 : Int32) (mR_rl_149, mR_ro_150, mR_rv_151, mR_rs_152, mR_rt_153, mR_rS_154, mR_rV_155, mR_rM_156)).bind fun (r_158, (mR_rl_159, mR_ro_160, mR_rv_161, mR_rs_162, mR_rt_163, mR_rS_164, mR_rV_165, mR_rM_166)) => some (r_158, (mR_rl_159, mR_ro_160, mR_rv_161, mR_rs_162, mR_rt_163, mR_rS_164, mR_rV_165, mR_rM_166)) else some ((x1 + (1 : Int32)), (mR_rl_149, mR_ro_150, mR_rv_151, mR_rs_152, mR_rt_153, mR_rS_154, mR_rV_155, mR_rM_156)) else if (mK_kk x1.toNatClampNeg) = (13 : Int32) then (f8_pop (mR_rl, mR_ro, mR_rv, mR_rs, mR_rt, mR_rS, mR_rV, mR_rM)).bind fun (r_168, (mR_rl_169, mR_ro_170, mR_rv_171, mR_rs_172, mR_rt_173, mR_rS_174, mR_rV_175, mR_rM_176)) => (f8_stop (0 : Int32) (mR_rl_169, mR_ro_170, r_168, mR_rs_172, mR_rt_173, mR_rS_174, mR_rV_175, mR_rM_176)).bind fun (r_178, (mR_rl_179, mR_ro_180, mR_rv_181, mR_rs_182, mR_rt_183, mR_rS_184, mR_rV_185, mR_rM_186)) => some (r_178, (mR_rl_179, mR_ro_180, mR_rv_181, mR_rs_182, mR_rt_183, mR_rS_184, mR_rV_185, mR_rM_186)) else if (mK_kk x1.toNatClampNeg) = (15 : Int32) then (f8_cut x1 x6 (mK_ks, mK_kk, mK_kv, mK_kt) (mR_rl, mR_ro, mR_rv, mR_rs, mR_rt, mR_rS, mR_rV, mR_rM)).bind fun (r_188, (mR_rl_189, mR_ro_190, mR_rv_191, mR_rs_192, mR_rt_193, mR_rS_194, mR_rV_195, mR_rM_196)) => some (r_188, (mR_rl_189, mR_ro_190, mR_rv_191, mR_rs_192, mR_rt_193, mR_rS_194, mR_rV_195, mR_rM_196)) else (f8_stop (0 : Int32) (mR_rl, mR_ro, mR_rv, mR_rs, mR_rt, mR_rS, mR_rV, mR_rM)).bind fun (r_3, (mR_rl_4, mR_ro_5, mR_rv_6, mR_rs_7, mR_rt_8, mR_rS_9, mR_rV_10, mR_rM_11)) => some (r_3, (mR_rl_4, mR_ro_5, mR_rv_6, mR_rs_7, mR_rt_8, mR_rS_9, mR_rV_10, mR_rM_11))

def f8_execute_L33   (mK_ks : Int32) (mK_kk : Nat → Int32) (mK_kv : Nat → Int32) (mK_kt : Nat → Int32) (mL_lm : Int32) (mL_lp : Nat → Int32) (mL_ls : Nat → Int32) (mL_li : Nat → Int32) (mL_lk : Nat → Int32) (mL_lf : Nat → Int32) : Int32 → Int32 → Int32 → Int32 → Int32 → Int32 → MdR → Option (Int32 × MdR)
  | x1, x2, x3, x4, x5, y0, (mR_rl, mR_ro, mR_rv, mR_rs, mR_rt, mR_rS, mR_rV, mR_rM) =>
    if x5 < 0 then f8_execute_L48 mK_ks mK_kk mK_kv mK_kt mL_lm mL_lp mL_ls mL_li mL_lk mL_lf x1 x2 x3 x4 y0 (mR_rl, mR_ro, mR_rv, mR_rs, mR_rt, mR_rS, mR_rV, mR_rM) else if x5 < 0 ∨ 60 ≤ x5.toNatClampNeg then none else f8_execute_L48 mK_ks mK_kk mK_kv mK_kt mL_lm mL_lp mL_ls mL_li mL_lk mL_lf x1 x2 x3 x4 y0 (mR_rl, mR_ro, mR_rv, mR_rs, mR_rt, mR_rS, mR_rV, (upd mR_rM x5.toNatClampNeg (vp_nar .boolean (1 : Int32))))

def f8_execute_L32   (mK_ks : Int32) (mK_kk : Nat → Int32) (mK_kv : Nat → Int32) (mK_kt : Nat → Int32) (mL_lm : Int32) (mL_lp : Nat → Int32) (mL_ls : Nat → Int32) (mL_li : Nat → Int32) (mL_lk : Nat → Int32) (mL_lf : Nat → Int32) : Int32 → Int32 → Int32 → Int32 → Int32 → MdR → Option (Int32 × MdR)
  | x1, x2, x3, x4, x5, (mR_rl, mR_ro, mR_rv, mR_rs, mR_rt, mR_rS, mR_rV, mR_rM) =>
    f8_execute_L33 mK_ks mK_kk mK_kv mK_kt mL_lm mL_lp mL_ls mL_li mL_lk mL_lf x1 x2 x3 x4 x5 (0 : Int32) (mR_rl, mR_ro, mR_rv, mR_rs, mR_rt, mR_rS, mR_rV, mR_rM)
def f8_execute (v1 : Int32) (v2 : Int32) (v3 : Int32) (v4 : Int32) : MdK → MdL → MdR → Option (Int32 × MdR)
  | (mK_ks, mK_kk, mK_kv, mK_kt), (mL_lm, mL_lp, mL_ls, mL_li, mL_lk, mL_lf), (mR_rl, mR_ro, mR_rv, mR_rs, mR_rt, mR_rS, mR_rV, mR_rM) =>
    if v1 < 0 ∨ 512 ≤ v1.toNatClampNeg then none else nm_v (mK_kt v1.toNatClampNeg) (fun v5_1 => if v2 ≤ 0 then f8_execute_L32 mK_ks mK_kk mK_kv mK_kt mL_lm mL_lp mL_ls mL_li mL_lk mL_lf v1 v2 v3 v4 v5_1 (mR_rl, mR_ro, mR_rv, mR_rs, mR_rt, mR_rS, mR_rV, mR_rM) else if v5_1 < 0 then f8_execute_L32 mK_ks mK_kk mK_kv mK_kt mL_lm mL_lp mL_ls mL_li mL_lk mL_lf v1 v2 v3 v4 v5_1 (mR_rl, mR_ro, mR_rv, mR_rs, mR_rt, mR_rS, mR_rV, mR_rM) else if v2 < 0 ∨ 121 ≤ v2.toNatClampNeg then none else if v5_1 = (mL_lp v2.toNatClampNeg) then f8_execute_L33 mK_ks mK_kk mK_kv mK_kt mL_lm mL_lp mL_ls mL_li mL_lk mL_lf v1 v2 v3 v4 v5_1 (1 : Int32) (mR_rl, mR_ro, mR_rv, mR_rs, mR_rt, mR_rS, mR_rV, mR_rM) else f8_execute_L32 mK_ks mK_kk mK_kv mK_kt mL_lm mL_lp mL_ls mL_li mL_lk mL_lf v1 v2 v3 v4 v5_1 (mR_rl, mR_ro, mR_rv, mR_rs, mR_rt, mR_rS, mR_rV, mR_rM))
set_option maxHeartbeats 4000000 in
set_option maxRecDepth 100000 in
theorem w8_execute_L48 {V : EV} {p : Program} {l : Launch} {e : Env} {R : Room} {s : State} {m : MethodId} {args : Array Value} {below : List Frame} {meth : Method} {c : Code} {Q : State → Prop} {A : Nat → Prop} {kc ks : Nat} {ad : Nat → Nat} {mT : MdT} {mQ : MdQ} {mN : MdN} {mP : MdP} {mH : MdH} {mG : MdG} {mK_ks : Int32} {mK_kk : Nat → Int32} {mK_kv : Nat → Int32} {mK_kt : Nat → Int32} {mL_lm : Int32} {mL_lp : Nat → Int32} {mL_ls : Nat → Int32} {mL_li : Nat → Int32} {mL_lk : Nat → Int32} {mL_lf : Nat → Int32}  {res : Int32 × MdR} (C : CX V p l R s m args c A kc ks RX8 cX8_execute 7 2 46) (K : RI V p l e R s m args below meth c Q A kc ks 7 cX8_execute .int res.1 (wM V ad mT mQ (mK_ks, mK_kk, mK_kv, mK_kt) mN mP (mL_lm, mL_lp, mL_ls, mL_li, mL_lk, mL_lf) mH res.2 mG))  : ∀ (x1 : Int32) (x2 : Int32) (x3 : Int32) (x4 : Int32) (x6 : Int32) (mR_rl : Int32) (mR_ro : Int32) (mR_rv : Int32) (mR_rs : Int32) (mR_rt : Int32) (mR_rS : Nat → Int32) (mR_rV : Nat → Int32) (mR_rM : Nat → Int32), f8_execute_L48 mK_ks mK_kk mK_kv mK_kt mL_lm mL_lp mL_ls mL_li mL_lk mL_lf x1 x2 x3 x4 x6 (mR_rl, mR_ro, mR_rv, mR_rs, mR_rt, mR_rS, mR_rV, mR_rM) = some res → WC V p l e R s m args below meth c Q A kc ks 7 (wM V ad mT mQ (mK_ks, mK_kk, mK_kv, mK_kt) mN mP (mL_lm, mL_lp, mL_ls, mL_li, mL_lk, mL_lf) mH (mR_rl, mR_ro, mR_rv, mR_rs, mR_rt, mR_rS, mR_rV, mR_rM) mG) 48 [(0, .ref (ad 0)), (1, .int x1), (2, .int x2), (3, .int x3), (4, .int x4), (6, .int x6)] [] := by
  intro x1 x2 x3 x4 x6 mR_rl mR_ro mR_rv mR_rs mR_rt mR_rS mR_rV mR_rM hf
  rw [f8_execute_L48] at hf
  refine k_aload_n C dX8_execute_48 0 rfl ?_
  refine g8_13 C dX8_execute_49 ?_
  refine k_iload_n C dX8_execute_52 1 rfl ?_
  obtain ⟨hi, hf⟩ := gd_no hf
  refine lm2 C hi dX8_execute_53 ?_
  have hx0 : ∀ n : Int32, (mK_kk x1.toNatClampNeg) = n → (mK_kk x1.toNatClampNeg).toInt = n.toInt := fun n h => by rw [h]
  by_cases hc : (mK_kk x1.toNatClampNeg) = (1 : Int32)
  · replace hf := (if_pos hc).symm.trans hf
    refine k_tableIn C 128 dX8_execute_54 (by rw [hx0 _ hc]; decide) (by rw [hx0 _ hc]; decide) (by rw [hx0 _ hc]; rfl) (by decide) ?_
    refine k_iload C dX8_execute_128 5 rfl ?_
    refine k_if_eq C 142 dX8_execute_130 (by decide) (fun hc => ?_) (fun hc => ?_)
    · replace hf := (if_pos hc).symm.trans hf
      refine k_iload_n C dX8_execute_142 1 rfl ?_
      refine k_iconst (v := (1 : Int32)) C dX8_execute_143 (by decide) ?_
      refine k_iadd C dX8_execute_144 ?_
      cases hf
      exact K _ _ dX8_execute_145 rfl
    · replace hf := (if_neg hc).symm.trans hf
      refine k_aload_n C dX8_execute_133 0 rfl ?_
      refine g8_16 C dX8_execute_134 ?_
      refine k_iload_n C dX8_execute_137 1 rfl ?_
      obtain ⟨hi, hf⟩ := gd_no hf
      refine lm3 C hi dX8_execute_138 ?_
      refine k_goto C 145 dX8_execute_139 (by decide) ?_
      cases hf
      exact K _ _ dX8_execute_145 rfl
  replace hf := (if_neg hc).symm.trans hf
  have hn1 := sw_ne hc
  by_cases hc : (mK_kk x1.toNatClampNeg) = (2 : Int32)
  · replace hf := (if_pos hc).symm.trans hf
    refine k_tableIn C 146 dX8_execute_54 (by rw [hx0 _ hc]; decide) (by rw [hx0 _ hc]; decide) (by rw [hx0 _ hc]; rfl) (by decide) ?_
    refine k_aload_n C dX8_execute_146 0 rfl ?_
    refine k_iload C dX8_execute_147 5 rfl ?_
    refine k_if_eq C 161 dX8_execute_149 (by decide) (fun hc => ?_) (fun hc => ?_)
    · replace hf := (if_pos hc).symm.trans hf
      refine k_aload_n C dX8_execute_161 0 rfl ?_
      refine g8_16 C dX8_execute_162 ?_
      refine k_iload_n C dX8_execute_165 1 rfl ?_
      obtain ⟨hi, hf⟩ := gd_no hf
      refine lm3 C hi dX8_execute_166 ?_
      obtain ⟨⟨mR_rl_13, mR_ro_14, mR_rv_15, mR_rs_16, mR_rt_17, mR_rS_18, mR_rV_19, mR_rM_20⟩, hq_12, hf⟩ := ob_el hf
      dsimp only at hf
      refine k_callVv C (c8_push2 C.2.2.2.2.2.2.2.2.2.1 hq_12) cm8_353 ok8_push2 (by decide) 0 rfl rfl rfl rfl (Nat.le_of_ble_eq_true rfl) dX8_execute_167 ?_
      refine k_iload_n C dX8_execute_170 1 rfl ?_
      refine k_iconst (v := (1 : Int32)) C dX8_execute_171 (by decide) ?_
      refine k_iadd C dX8_execute_172 ?_
      cases hf
      exact K _ _ dX8_execute_173 rfl
    · replace hf := (if_neg hc).symm.trans hf
      refine k_aload_n C dX8_execute_152 0 rfl ?_
      refine g8_67 C dX8_execute_153 ?_
      refine k_iload_n C dX8_execute_156 2 rfl ?_
      obtain ⟨hi, hf⟩ := gd_no hf
      refine lm20 C hi dX8_execute_157 ?_
      refine k_goto C 167 dX8_execute_158 (by decide) ?_
      obtain ⟨⟨mR_rl_22, mR_ro_23, mR_rv_24, mR_rs_25, mR_rt_26, mR_rS_27, mR_rV_28, mR_rM_29⟩, hq_21, hf⟩ := ob_el hf
      dsimp only at hf
      refine k_callVv C (c8_push2 C.2.2.2.2.2.2.2.2.2.1 hq_21) cm8_353 ok8_push2 (by decide) 0 rfl rfl rfl rfl (Nat.le_of_ble_eq_true rfl) dX8_execute_167 ?_
      refine k_iload_n C dX8_execute_170 1 rfl ?_
      refine k_iconst (v := (1 : Int32)) C dX8_execute_171 (by decide) ?_
      refine k_iadd C dX8_execute_172 ?_
      cases hf
      exact K _ _ dX8_execute_173 rfl
  replace hf := (if_neg hc).symm.trans hf
  have hn2 := sw_ne hc
  by_cases hc : (mK_kk x1.toNatClampNeg) = (3 : Int32)
  · replace hf := (if_pos hc).symm.trans hf
    refine k_tableIn C 174 dX8_execute_54 (by rw [hx0 _ hc]; decide) (by rw [hx0 _ hc]; decide) (by rw [hx0 _ hc]; rfl) (by decide) ?_
    refine k_aload_n C dX8_execute_174 0 rfl ?_
    refine k_aload_n C dX8_execute_175 0 rfl ?_
    refine g8_16 C dX8_execute_176 ?_
    refine k_iload_n C dX8_execute_179 1 rfl ?_
    obtain ⟨hi, hf⟩ := gd_no hf
    refine lm3 C hi dX8_execute_180 ?_
    refine k_bipush (v := (120 : Int32)) C dX8_execute_181 (by decide) ?_
    refine k_icmp_ne C 190 dX8_execute_183 (by decide) (fun hc => ?_) (fun hc => ?_)
    · replace hf := (if_neg hc).symm.trans hf
      refine k_iload C dX8_execute_190 4 rfl ?_
      obtain ⟨⟨mR_rl_31, mR_ro_32, mR_rv_33, mR_rs_34, mR_rt_35, mR_rS_36, mR_rV_37, mR_rM_38⟩, hq_30, hf⟩ := ob_el hf
      dsimp only at hf
      refine k_callVv C (c8_push2 C.2.2.2.2.2.2.2.2.2.1 hq_30) cm8_353 ok8_push2 (by decide) 0 rfl rfl rfl rfl (Nat.le_of_ble_eq_true rfl) dX8_execute_192 ?_
      refine k_iload_n C dX8_execute_195 1 rfl ?_
      refine k_iconst (v := (1 : Int32)) C dX8_execute_196 (by decide) ?_
      refine k_iadd C dX8_execute_197 ?_
      cases hf
      exact K _ _ dX8_execute_198 rfl
    · replace hf := (if_pos hc).symm.trans hf
      refine k_iload_n C dX8_execute_186 3 rfl ?_
      refine k_goto C 192 dX8_execute_187 (by decide) ?_
      obtain ⟨⟨mR_rl_40, mR_ro_41, mR_rv_42, mR_rs_43, mR_rt_44, mR_rS_45, mR_rV_46, mR_rM_47⟩, hq_39, hf⟩ := ob_el hf
      dsimp only at hf
      refine k_callVv C (c8_push2 C.2.2.2.2.2.2.2.2.2.1 hq_39) cm8_353 ok8_push2 (by decide) 0 rfl rfl rfl rfl (Nat.le_of_ble_eq_true rfl) dX8_execute_192 ?_
      refine k_iload_n C dX8_execute_195 1 rfl ?_
      refine k_iconst (v := (1 : Int32)) C dX8_execute_196 (by decide) ?_
      refine k_iadd C dX8_execute_197 ?_
      cases hf
      exact K _ _ dX8_execute_198 rfl
  replace hf := (if_neg hc).symm.trans hf
  have hn3 := sw_ne hc
  by_cases hc : (mK_kk x1.toNatClampNeg) = (4 : Int32)
  · replace hf := (if_pos hc).symm.trans hf
    refine k_tableIn C 199 dX8_execute_54 (by rw [hx0 _ hc]; decide) (by rw [hx0 _ hc]; decide) (by rw [hx0 _ hc]; rfl) (by decide) ?_
    refine k_aload_n C dX8_execute_199 0 rfl ?_
    refine k_aload_n C dX8_execute_200 0 rfl ?_
    refine g8_107 C dX8_execute_201 ?_
    refine k_aload_n C dX8_execute_204 0 rfl ?_
    refine g8_16 C dX8_execute_205 ?_
    refine k_iload_n C dX8_execute_208 1 rfl ?_
    obtain ⟨hi, hf⟩ := gd_no hf
    refine lm3 C hi dX8_execute_209 ?_
    obtain ⟨hi, hf⟩ := gd_no hf
    refine lm32 C hi dX8_execute_210 ?_
    obtain ⟨⟨mR_rl_49, mR_ro_50, mR_rv_51, mR_rs_52, mR_rt_53, mR_rS_54, mR_rV_55, mR_rM_56⟩, hq_48, hf⟩ := ob_el hf
    dsimp only at hf
    refine k_callVv C (c8_push2 C.2.2.2.2.2.2.2.2.2.1 hq_48) cm8_353 ok8_push2 (by decide) 0 rfl rfl rfl rfl (Nat.le_of_ble_eq_true rfl) dX8_execute_211 ?_
    refine k_iload_n C dX8_execute_214 1 rfl ?_
    refine k_iconst (v := (1 : Int32)) C dX8_execute_215 (by decide) ?_
    refine k_iadd C dX8_execute_216 ?_
    cases hf
    exact K _ _ dX8_execute_217 rfl
  replace hf := (if_neg hc).symm.trans hf
  have hn4 := sw_ne hc
  by_cases hc : (mK_kk x1.toNatClampNeg) = (5 : Int32)
  · replace hf := (if_pos hc).symm.trans hf
    refine k_tableIn C 218 dX8_execute_54 (by rw [hx0 _ hc]; decide) (by rw [hx0 _ hc]; decide) (by rw [hx0 _ hc]; rfl) (by decide) ?_
    refine k_aload_n C dX8_execute_218 0 rfl ?_
    refine k_iload_n C dX8_execute_219 1 rfl ?_
    refine k_iload C dX8_execute_220 5 rfl ?_
    refine k_if_eq C 234 dX8_execute_222 (by decide) (fun hc => ?_) (fun hc => ?_)
    · replace hf := (if_pos hc).symm.trans hf
      refine k_aload_n C dX8_execute_234 0 rfl ?_
      refine g8_16 C dX8_execute_235 ?_
      refine k_iload_n C dX8_execute_238 1 rfl ?_
      obtain ⟨hi, hf⟩ := gd_no hf
      refine lm3 C hi dX8_execute_239 ?_
      obtain ⟨⟨r_58, ⟨mR_rl_59, mR_ro_60, mR_rv_61, mR_rs_62, mR_rt_63, mR_rS_64, mR_rV_65, mR_rM_66⟩⟩, hq_57, hf⟩ := ob_el hf
      dsimp only at hf
      refine k_callVi C (c8_calculate C.2.2.2.2.2.2.2.2.2.1 hq_57) cm8_356 ok8_calculate (by decide) 0 rfl rfl rfl rfl (Nat.le_of_ble_eq_true rfl) dX8_execute_240 ?_
      cases hf
      exact K _ _ dX8_execute_243 rfl
    · replace hf := (if_neg hc).symm.trans hf
      refine k_aload_n C dX8_execute_225 0 rfl ?_
      refine g8_67 C dX8_execute_226 ?_
      refine k_iload_n C dX8_execute_229 2 rfl ?_
      obtain ⟨hi, hf⟩ := gd_no hf
      refine lm20 C hi dX8_execute_230 ?_
      refine k_goto C 240 dX8_execute_231 (by decide) ?_
      obtain ⟨⟨r_68, ⟨mR_rl_69, mR_ro_70, mR_rv_71, mR_rs_72, mR_rt_73, mR_rS_74, mR_rV_75, mR_rM_76⟩⟩, hq_67, hf⟩ := ob_el hf
      dsimp only at hf
      refine k_callVi C (c8_calculate C.2.2.2.2.2.2.2.2.2.1 hq_67) cm8_356 ok8_calculate (by decide) 0 rfl rfl rfl rfl (Nat.le_of_ble_eq_true rfl) dX8_execute_240 ?_
      cases hf
      exact K _ _ dX8_execute_243 rfl
  replace hf := (if_neg hc).symm.trans hf
  have hn5 := sw_ne hc
  by_cases hc : (mK_kk x1.toNatClampNeg) = (6 : Int32)
  · replace hf := (if_pos hc).symm.trans hf
    refine k_tableIn C 244 dX8_execute_54 (by rw [hx0 _ hc]; decide) (by rw [hx0 _ hc]; decide) (by rw [hx0 _ hc]; rfl) (by decide) ?_
    refine k_aload_n C dX8_execute_244 0 rfl ?_
    refine k_iload_n C dX8_execute_245 1 rfl ?_
    refine k_iload C dX8_execute_246 5 rfl ?_
    refine k_if_eq C 260 dX8_execute_248 (by decide) (fun hc => ?_) (fun hc => ?_)
    · replace hf := (if_pos hc).symm.trans hf
      refine k_aload_n C dX8_execute_260 0 rfl ?_
      refine g8_16 C dX8_execute_261 ?_
      refine k_iload_n C dX8_execute_264 1 rfl ?_
      obtain ⟨hi, hf⟩ := gd_no hf
      refine lm3 C hi dX8_execute_265 ?_
      obtain ⟨⟨r_78, ⟨mR_rl_79, mR_ro_80, mR_rv_81, mR_rs_82, mR_rt_83, mR_rS_84, mR_rV_85, mR_rM_86⟩⟩, hq_77, hf⟩ := ob_el hf
      dsimp only at hf
      refine k_callVi C (c8_compare C.2.2.2.2.2.2.2.2.2.1 hq_77) cm8_359 ok8_compare (by decide) 0 rfl rfl rfl rfl (Nat.le_of_ble_eq_true rfl) dX8_execute_266 ?_
      cases hf
      exact K _ _ dX8_execute_269 rfl
    · replace hf := (if_neg hc).symm.trans hf
      refine k_aload_n C dX8_execute_251 0 rfl ?_
      refine g8_67 C dX8_execute_252 ?_
      refine k_iload_n C dX8_execute_255 2 rfl ?_
      obtain ⟨hi, hf⟩ := gd_no hf
      refine lm20 C hi dX8_execute_256 ?_
      refine k_goto C 266 dX8_execute_257 (by decide) ?_
      obtain ⟨⟨r_88, ⟨mR_rl_89, mR_ro_90, mR_rv_91, mR_rs_92, mR_rt_93, mR_rS_94, mR_rV_95, mR_rM_96⟩⟩, hq_87, hf⟩ := ob_el hf
      dsimp only at hf
      refine k_callVi C (c8_compare C.2.2.2.2.2.2.2.2.2.1 hq_87) cm8_359 ok8_compare (by decide) 0 rfl rfl rfl rfl (Nat.le_of_ble_eq_true rfl) dX8_execute_266 ?_
      cases hf
      exact K _ _ dX8_execute_269 rfl
  replace hf := (if_neg hc).symm.trans hf
  have hn6 := sw_ne hc
  by_cases hc : (mK_kk x1.toNatClampNeg) = (7 : Int32)
  · replace hf := (if_pos hc).symm.trans hf
    refine k_tableIn C 270 dX8_execute_54 (by rw [hx0 _ hc]; decide) (by rw [hx0 _ hc]; decide) (by rw [hx0 _ hc]; rfl) (by decide) ?_
    refine k_aload_n C dX8_execute_270 0 rfl ?_
    refine k_iload_n C dX8_execute_271 1 rfl ?_
    refine k_iload C dX8_execute_272 5 rfl ?_
    refine k_if_ne C 281 dX8_execute_274 (by decide) (fun hc => ?_) (fun hc => ?_)
    · replace hf := (if_neg hc).symm.trans hf
      refine k_iconst (v := (0 : Int32)) C dX8_execute_281 (by decide) ?_
      obtain ⟨⟨r_98, ⟨mR_rl_99, mR_ro_100, mR_rv_101, mR_rs_102, mR_rt_103, mR_rS_104, mR_rV_105, mR_rM_106⟩⟩, hq_97, hf⟩ := ob_el hf
      dsimp only at hf
      refine k_callVi C (c8_cut C.2.2.2.2.2.2.2.2.2.1 hq_97) cm8_362 ok8_cut (by decide) 0 rfl rfl rfl rfl (Nat.le_of_ble_eq_true rfl) dX8_execute_282 ?_
      cases hf
      exact K _ _ dX8_execute_285 rfl
    · replace hf := (if_pos hc).symm.trans hf
      refine k_iconst (v := (1 : Int32)) C dX8_execute_277 (by decide) ?_
      refine k_goto C 282 dX8_execute_278 (by decide) ?_
      obtain ⟨⟨r_108, ⟨mR_rl_109, mR_ro_110, mR_rv_111, mR_rs_112, mR_rt_113, mR_rS_114, mR_rV_115, mR_rM_116⟩⟩, hq_107, hf⟩ := ob_el hf
      dsimp only at hf
      refine k_callVi C (c8_cut C.2.2.2.2.2.2.2.2.2.1 hq_107) cm8_362 ok8_cut (by decide) 0 rfl rfl rfl rfl (Nat.le_of_ble_eq_true rfl) dX8_execute_282 ?_
      cases hf
      exact K _ _ dX8_execute_285 rfl
  replace hf := (if_neg hc).symm.trans hf
  have hn7 := sw_ne hc
  by_cases hc : (mK_kk x1.toNatClampNeg) = (8 : Int32)
  · replace hf := (if_pos hc).symm.trans hf
    refine k_tableIn C 294 dX8_execute_54 (by rw [hx0 _ hc]; decide) (by rw [hx0 _ hc]; decide) (by rw [hx0 _ hc]; rfl) (by decide) ?_
    refine k_aload_n C dX8_execute_294 0 rfl ?_
    refine g8_107 C dX8_execute_295 ?_
    refine k_aload_n C dX8_execute_298 0 rfl ?_
    refine g8_16 C dX8_execute_299 ?_
    refine k_iload_n C dX8_execute_302 1 rfl ?_
    obtain ⟨hi, hf⟩ := gd_no hf
    refine lm3 C hi dX8_execute_303 ?_
    refine k_aload_n C dX8_execute_304 0 rfl ?_
    obtain ⟨⟨r_118, ⟨mR_rl_119, mR_ro_120, mR_rv_121, mR_rs_122, mR_rt_123, mR_rS_124, mR_rV_125, mR_rM_126⟩⟩, hq_117, hf⟩ := ob_el hf
    dsimp only at hf
    refine k_callVi C (c8_pop C.2.2.2.2.2.2.2.2.2.1 hq_117) cm8_366 ok8_pop (by decide) 0 rfl rfl rfl rfl (Nat.le_of_ble_eq_true rfl) dX8_execute_305 ?_
    obtain ⟨hi, hf⟩ := gd_no hf
    refine sm32 C hi dX8_execute_308 ?_
    refine k_iload_n C dX8_execute_309 1 rfl ?_
    refine k_iconst (v := (1 : Int32)) C dX8_execute_310 (by decide) ?_
    refine k_iadd C dX8_execute_311 ?_
    cases hf
    exact K _ _ dX8_execute_312 rfl
  replace hf := (if_neg hc).symm.trans hf
  have hn8 := sw_ne hc
  by_cases hc : (mK_kk x1.toNatClampNeg) = (9 : Int32)
  · replace hf := (if_pos hc).symm.trans hf
    refine k_tableIn C 313 dX8_execute_54 (by rw [hx0 _ hc]; decide) (by rw [hx0 _ hc]; decide) (by rw [hx0 _ hc]; rfl) (by decide) ?_
    refine k_aload_n C dX8_execute_313 0 rfl ?_
    obtain ⟨⟨r_128, ⟨mR_rl_129, mR_ro_130, mR_rv_131, mR_rs_132, mR_rt_133, mR_rS_134, mR_rV_135, mR_rM_136⟩⟩, hq_127, hf⟩ := ob_el hf
    dsimp only at hf
    refine k_callVi C (c8_pop C.2.2.2.2.2.2.2.2.2.1 hq_127) cm8_366 ok8_pop (by decide) 0 rfl rfl rfl rfl (Nat.le_of_ble_eq_true rfl) dX8_execute_314 ?_
    refine k_if_ne C 329 dX8_execute_317 (by decide) (fun hc => ?_) (fun hc => ?_)
    · replace hf := (if_neg hc).symm.trans hf
      refine k_iload_n C dX8_execute_329 1 rfl ?_
      refine k_iconst (v := (1 : Int32)) C dX8_execute_330 (by decide) ?_
      refine k_iadd C dX8_execute_331 ?_
      cases hf
      exact K _ _ dX8_execute_332 rfl
    · replace hf := (if_pos hc).symm.trans hf
      refine k_aload_n C dX8_execute_320 0 rfl ?_
      refine g8_16 C dX8_execute_321 ?_
      refine k_iload_n C dX8_execute_324 1 rfl ?_
      obtain ⟨hi, hf⟩ := gd_no hf
      refine lm3 C hi dX8_execute_325 ?_
      refine k_goto C 332 dX8_execute_326 (by decide) ?_
      cases hf
      exact K _ _ dX8_execute_332 rfl
  replace hf := (if_neg hc).symm.trans hf
  have hn9 := sw_ne hc
  by_cases hc : (mK_kk x1.toNatClampNeg) = (10 : Int32)
  · replace hf := (if_pos hc).symm.trans hf
    refine k_tableIn C 333 dX8_execute_54 (by rw [hx0 _ hc]; decide) (by rw [hx0 _ hc]; decide) (by rw [hx0 _ hc]; rfl) (by decide) ?_
    refine k_aload_n C dX8_execute_333 0 rfl ?_
    refine g8_16 C dX8_execute_334 ?_
    refine k_iload_n C dX8_execute_337 1 rfl ?_
    obtain ⟨hi, hf⟩ := gd_no hf
    refine lm3 C hi dX8_execute_338 ?_
    cases hf
    exact K _ _ dX8_execute_339 rfl
  replace hf := (if_neg hc).symm.trans hf
  have hn10 := sw_ne hc
  by_cases hc : (mK_kk x1.toNatClampNeg) = (11 : Int32)
  · replace hf := (if_pos hc).symm.trans hf
    refine k_tableIn C 340 dX8_execute_54 (by rw [hx0 _ hc]; decide) (by rw [hx0 _ hc]; decide) (by rw [hx0 _ hc]; rfl) (by decide) ?_
    refine k_aload_n C dX8_execute_340 0 rfl ?_
    refine k_iload_n C dX8_execute_341 1 rfl ?_
    obtain ⟨⟨r_138, ⟨mR_rl_139, mR_ro_140, mR_rv_141, mR_rs_142, mR_rt_143, mR_rS_144, mR_rV_145, mR_rM_146⟩⟩, hq_137, hf⟩ := ob_el hf
    dsimp only at hf
    refine k_callVi C (c8_burn C.2.2.2.2.2.2.2.2.2.1 hq_137) cm8_369 ok8_burn (by decide) 0 rfl rfl rfl rfl (Nat.le_of_ble_eq_true rfl) dX8_execute_342 ?_
    cases hf
    exact K _ _ dX8_execute_345 rfl
  replace hf := (if_neg hc).symm.trans hf
  have hn11 := sw_ne hc
  by_cases hc : (mK_kk x1.toNatClampNeg) = (12 : Int32)
  · replace hf := (if_pos hc).symm.trans hf
    refine k_tableIn C 346 dX8_execute_54 (by rw [hx0 _ hc]; decide) (by rw [hx0 _ hc]; decide) (by rw [hx0 _ hc]; rfl) (by decide) ?_
    refine k_aload_n C dX8_execute_346 0 rfl ?_
    obtain ⟨⟨r_148, ⟨mR_rl_149, mR_ro_150, mR_rv_151, mR_rs_152, mR_rt_153, mR_rS_154, mR_rV_155, mR_rM_156⟩⟩, hq_147, hf⟩ := ob_el hf
    dsimp only at hf
    refine k_callVi C (c8_pop C.2.2.2.2.2.2.2.2.2.1 hq_147) cm8_366 ok8_pop (by decide) 0 rfl rfl rfl rfl (Nat.le_of_ble_eq_true rfl) dX8_execute_347 ?_
    refine k_if_ne C 361 dX8_execute_350 (by decide) (fun hc => ?_) (fun hc => ?_)
    · replace hf := (if_neg hc).symm.trans hf
      refine k_iload_n C dX8_execute_361 1 rfl ?_
      refine k_iconst (v := (1 : Int32)) C dX8_execute_362 (by decide) ?_
      refine k_iadd C dX8_execute_363 ?_
      cases hf
      exact K _ _ dX8_execute_364 rfl
    · replace hf := (if_pos hc).symm.trans hf
      refine k_aload_n C dX8_execute_353 0 rfl ?_
      refine k_iconst (v := (2 : Int32)) C dX8_execute_354 (by decide) ?_
      obtain ⟨⟨r_158, ⟨mR_rl_159, mR_ro_160, mR_rv_161, mR_rs_162, mR_rt_163, mR_rS_164, mR_rV_165, mR_rM_166⟩⟩, hq_157, hf⟩ := ob_el hf
      dsimp only at hf
      refine k_callVi C (c8_stop C.2.2.2.2.2.2.2.2.2.1 hq_157) cm8_372 ok8_stop (by decide) 0 rfl rfl rfl rfl (Nat.le_of_ble_eq_true rfl) dX8_execute_355 ?_
      refine k_goto C 364 dX8_execute_358 (by decide) ?_
      cases hf
      exact K _ _ dX8_execute_364 rfl
  replace hf := (if_neg hc).symm.trans hf
  have hn12 := sw_ne hc
  by_cases hc : (mK_kk x1.toNatClampNeg) = (13 : Int32)
  · replace hf := (if_pos hc).symm.trans hf
    refine k_tableIn C 365 dX8_execute_54 (by rw [hx0 _ hc]; decide) (by rw [hx0 _ hc]; decide) (by rw [hx0 _ hc]; rfl) (by decide) ?_
    refine k_aload_n C dX8_execute_365 0 rfl ?_
    refine k_aload_n C dX8_execute_366 0 rfl ?_
    obtain ⟨⟨r_168, ⟨mR_rl_169, mR_ro_170, mR_rv_171, mR_rs_172, mR_rt_173, mR_rS_174, mR_rV_175, mR_rM_176⟩⟩, hq_167, hf⟩ := ob_el hf
    dsimp only at hf
    refine k_callVi C (c8_pop C.2.2.2.2.2.2.2.2.2.1 hq_167) cm8_366 ok8_pop (by decide) 0 rfl rfl rfl rfl (Nat.le_of_ble_eq_true rfl) dX8_execute_367 ?_
    refine p8_344 C dX8_execute_370 ?_
    refine k_aload_n C dX8_execute_373 0 rfl ?_
    refine k_iconst (v := (0 : Int32)) C dX8_execute_374 (by decide) ?_
    obtain ⟨⟨r_178, ⟨mR_rl_179, mR_ro_180, mR_rv_181, mR_rs_182, mR_rt_183, mR_rS_184, mR_rV_185, mR_rM_186⟩⟩, hq_177, hf⟩ := ob_el hf
    dsimp only at hf
    refine k_callVi C (c8_stop C.2.2.2.2.2.2.2.2.2.1 hq_177) cm8_372 ok8_stop (by decide) 0 rfl rfl rfl rfl (Nat.le_of_ble_eq_true rfl) dX8_execute_375 ?_
    cases hf
    exact K _ _ dX8_execute_378 rfl
  replace hf := (if_neg hc).symm.trans hf
  have hn13 := sw_ne hc
  by_cases hc : (mK_kk x1.toNatClampNeg) = (15 : Int32)
  · replace hf := (if_pos hc).symm.trans hf
    refine k_tableIn C 286 dX8_execute_54 (by rw [hx0 _ hc]; decide) (by rw [hx0 _ hc]; decide) (by rw [hx0 _ hc]; rfl) (by decide) ?_
    refine k_aload_n C dX8_execute_286 0 rfl ?_
    refine k_iload_n C dX8_execute_287 1 rfl ?_
    refine k_iload C dX8_execute_288 5 rfl ?_
    obtain ⟨⟨r_188, ⟨mR_rl_189, mR_ro_190, mR_rv_191, mR_rs_192, mR_rt_193, mR_rS_194, mR_rV_195, mR_rM_196⟩⟩, hq_187, hf⟩ := ob_el hf
    dsimp only at hf
    refine k_callVi C (c8_cut C.2.2.2.2.2.2.2.2.2.1 hq_187) cm8_362 ok8_cut (by decide) 0 rfl rfl rfl rfl (Nat.le_of_ble_eq_true rfl) dX8_execute_290 ?_
    cases hf
    exact K _ _ dX8_execute_293 rfl
  replace hf := (if_neg hc).symm.trans hf
  have hn15 := sw_ne hc
  have kd_197 : WC V p l e R s m args below meth c Q A kc ks 7 (wM V ad mT mQ (mK_ks, mK_kk, mK_kv, mK_kt) mN mP (mL_lm, mL_lp, mL_ls, mL_li, mL_lk, mL_lf) mH (mR_rl, mR_ro, mR_rv, mR_rs, mR_rt, mR_rS, mR_rV, mR_rM) mG) 379 [(0, .ref (ad 0)), (1, .int x1), (2, .int x2), (3, .int x3), (4, .int x4), (6, .int x6)] [] := by
    refine k_aload_n C dX8_execute_379 0 rfl ?_
    refine k_iconst (v := (0 : Int32)) C dX8_execute_380 (by decide) ?_
    obtain ⟨⟨r_3, ⟨mR_rl_4, mR_ro_5, mR_rv_6, mR_rs_7, mR_rt_8, mR_rS_9, mR_rV_10, mR_rM_11⟩⟩, hq_2, hf⟩ := ob_el hf
    dsimp only at hf
    refine k_callVi C (c8_stop C.2.2.2.2.2.2.2.2.2.1 hq_2) cm8_372 ok8_stop (by decide) 0 rfl rfl rfl rfl (Nat.le_of_ble_eq_true rfl) dX8_execute_381 ?_
    cases hf
    exact K _ _ dX8_execute_384 rfl
  have hr : (mK_kk x1.toNatClampNeg).toInt < 1 ∨ 15 < (mK_kk x1.toNatClampNeg).toInt ∨ (mK_kk x1.toNatClampNeg).toInt = 14 := by
    have q1 : ¬ (mK_kk x1.toNatClampNeg).toInt = 1 := hn1 1 (by decide)
    have q2 : ¬ (mK_kk x1.toNatClampNeg).toInt = 2 := hn2 2 (by decide)
    have q3 : ¬ (mK_kk x1.toNatClampNeg).toInt = 3 := hn3 3 (by decide)
    have q4 : ¬ (mK_kk x1.toNatClampNeg).toInt = 4 := hn4 4 (by decide)
    have q5 : ¬ (mK_kk x1.toNatClampNeg).toInt = 5 := hn5 5 (by decide)
    have q6 : ¬ (mK_kk x1.toNatClampNeg).toInt = 6 := hn6 6 (by decide)
    have q7 : ¬ (mK_kk x1.toNatClampNeg).toInt = 7 := hn7 7 (by decide)
    have q8 : ¬ (mK_kk x1.toNatClampNeg).toInt = 8 := hn8 8 (by decide)
    have q9 : ¬ (mK_kk x1.toNatClampNeg).toInt = 9 := hn9 9 (by decide)
    have q10 : ¬ (mK_kk x1.toNatClampNeg).toInt = 10 := hn10 10 (by decide)
    have q11 : ¬ (mK_kk x1.toNatClampNeg).toInt = 11 := hn11 11 (by decide)
    have q12 : ¬ (mK_kk x1.toNatClampNeg).toInt = 12 := hn12 12 (by decide)
    have q13 : ¬ (mK_kk x1.toNatClampNeg).toInt = 13 := hn13 13 (by decide)
    have q15 : ¬ (mK_kk x1.toNatClampNeg).toInt = 15 := hn15 15 (by decide)
    omega
  rcases hr with hr | hr | hr
  · exact k_tableOut C 379 dX8_execute_54 (Or.inl hr) (by decide) kd_197
  · exact k_tableOut C 379 dX8_execute_54 (Or.inr hr) (by decide) kd_197
  · exact k_tableIn C 379 dX8_execute_54 (by rw [hr]; decide) (by rw [hr]; decide) (by rw [hr]; rfl) (by decide) kd_197

set_option maxHeartbeats 4000000 in
set_option maxRecDepth 100000 in
theorem w8_execute_L33 {V : EV} {p : Program} {l : Launch} {e : Env} {R : Room} {s : State} {m : MethodId} {args : Array Value} {below : List Frame} {meth : Method} {c : Code} {Q : State → Prop} {A : Nat → Prop} {kc ks : Nat} {ad : Nat → Nat} {mT : MdT} {mQ : MdQ} {mN : MdN} {mP : MdP} {mH : MdH} {mG : MdG} {mK_ks : Int32} {mK_kk : Nat → Int32} {mK_kv : Nat → Int32} {mK_kt : Nat → Int32} {mL_lm : Int32} {mL_lp : Nat → Int32} {mL_ls : Nat → Int32} {mL_li : Nat → Int32} {mL_lk : Nat → Int32} {mL_lf : Nat → Int32}  {res : Int32 × MdR} (C : CX V p l R s m args c A kc ks RX8 cX8_execute 7 2 46) (K : RI V p l e R s m args below meth c Q A kc ks 7 cX8_execute .int res.1 (wM V ad mT mQ (mK_ks, mK_kk, mK_kv, mK_kt) mN mP (mL_lm, mL_lp, mL_ls, mL_li, mL_lk, mL_lf) mH res.2 mG))  : ∀ (x1 : Int32) (x2 : Int32) (x3 : Int32) (x4 : Int32) (x5 : Int32) (y0 : Int32) (mR_rl : Int32) (mR_ro : Int32) (mR_rv : Int32) (mR_rs : Int32) (mR_rt : Int32) (mR_rS : Nat → Int32) (mR_rV : Nat → Int32) (mR_rM : Nat → Int32), f8_execute_L33 mK_ks mK_kk mK_kv mK_kt mL_lm mL_lp mL_ls mL_li mL_lk mL_lf x1 x2 x3 x4 x5 y0 (mR_rl, mR_ro, mR_rv, mR_rs, mR_rt, mR_rS, mR_rV, mR_rM) = some res → WC V p l e R s m args below meth c Q A kc ks 7 (wM V ad mT mQ (mK_ks, mK_kk, mK_kv, mK_kt) mN mP (mL_lm, mL_lp, mL_ls, mL_li, mL_lk, mL_lf) mH (mR_rl, mR_ro, mR_rv, mR_rs, mR_rt, mR_rS, mR_rV, mR_rM) mG) 33 [(0, .ref (ad 0)), (1, .int x1), (2, .int x2), (3, .int x3), (4, .int x4), (5, .int x5)] [.int y0] := by
  intro x1 x2 x3 x4 x5 y0 mR_rl mR_ro mR_rv mR_rs mR_rt mR_rS mR_rV mR_rM hf
  rw [f8_execute_L33] at hf
  refine k_istore C dX8_execute_33 [(6, .int y0), (0, .ref (ad 0)), (1, .int x1), (2, .int x2), (3, .int x3), (4, .int x4), (5, .int x5)] (by decide) rfl ?_
  refine k_iload C dX8_execute_35 6 rfl ?_
  refine k_if_lt C 48 dX8_execute_37 (by decide) (fun hc => ?_) (fun hc => ?_)
  · replace hf := (if_pos hc).symm.trans hf
    refine k_sub [1, 2, 3, 4, 5, 0] (L' := [(0, .ref (ad 0)), (1, .int x1), (2, .int x2), (3, .int x3), (4, .int x4), (6, .int y0)]) rfl ?_
    exact w8_execute_L48 C K _ _ _ _ _ _ _ _ _ _ _ _ _ hf
  · replace hf := (if_neg hc).symm.trans hf
    refine k_aload_n C dX8_execute_40 1 rfl ?_
    refine g8_110 C dX8_execute_41 ?_
    refine k_iload C dX8_execute_44 6 rfl ?_
    refine k_iconst (v := (1 : Int32)) C dX8_execute_46 (by decide) ?_
    obtain ⟨hi, hf⟩ := gd_no hf
    refine sm33 C hi dX8_execute_47 ?_
    refine k_sub [1, 2, 3, 4, 5, 0] (L' := [(0, .ref (ad 0)), (1, .int x1), (2, .int x2), (3, .int x3), (4, .int x4), (6, .int y0)]) rfl ?_
    exact w8_execute_L48 C K _ _ _ _ _ _ _ _ _ _ _ _ _ hf

set_option maxHeartbeats 4000000 in
set_option maxRecDepth 100000 in
theorem w8_execute_L32 {V : EV} {p : Program} {l : Launch} {e : Env} {R : Room} {s : State} {m : MethodId} {args : Array Value} {below : List Frame} {meth : Method} {c : Code} {Q : State → Prop} {A : Nat → Prop} {kc ks : Nat} {ad : Nat → Nat} {mT : MdT} {mQ : MdQ} {mN : MdN} {mP : MdP} {mH : MdH} {mG : MdG} {mK_ks : Int32} {mK_kk : Nat → Int32} {mK_kv : Nat → Int32} {mK_kt : Nat → Int32} {mL_lm : Int32} {mL_lp : Nat → Int32} {mL_ls : Nat → Int32} {mL_li : Nat → Int32} {mL_lk : Nat → Int32} {mL_lf : Nat → Int32}  {res : Int32 × MdR} (C : CX V p l R s m args c A kc ks RX8 cX8_execute 7 2 46) (K : RI V p l e R s m args below meth c Q A kc ks 7 cX8_execute .int res.1 (wM V ad mT mQ (mK_ks, mK_kk, mK_kv, mK_kt) mN mP (mL_lm, mL_lp, mL_ls, mL_li, mL_lk, mL_lf) mH res.2 mG))  : ∀ (x1 : Int32) (x2 : Int32) (x3 : Int32) (x4 : Int32) (x5 : Int32) (mR_rl : Int32) (mR_ro : Int32) (mR_rv : Int32) (mR_rs : Int32) (mR_rt : Int32) (mR_rS : Nat → Int32) (mR_rV : Nat → Int32) (mR_rM : Nat → Int32), f8_execute_L32 mK_ks mK_kk mK_kv mK_kt mL_lm mL_lp mL_ls mL_li mL_lk mL_lf x1 x2 x3 x4 x5 (mR_rl, mR_ro, mR_rv, mR_rs, mR_rt, mR_rS, mR_rV, mR_rM) = some res → WC V p l e R s m args below meth c Q A kc ks 7 (wM V ad mT mQ (mK_ks, mK_kk, mK_kv, mK_kt) mN mP (mL_lm, mL_lp, mL_ls, mL_li, mL_lk, mL_lf) mH (mR_rl, mR_ro, mR_rv, mR_rs, mR_rt, mR_rS, mR_rV, mR_rM) mG) 32 [(0, .ref (ad 0)), (1, .int x1), (2, .int x2), (3, .int x3), (4, .int x4), (5, .int x5)] [] := by
  intro x1 x2 x3 x4 x5 mR_rl mR_ro mR_rv mR_rs mR_rt mR_rS mR_rV mR_rM hf
  rw [f8_execute_L32] at hf
  refine k_iconst (v := (0 : Int32)) C dX8_execute_32 (by decide) ?_
  exact w8_execute_L33 C K _ _ _ _ _ _ _ _ _ _ _ _ _ _ hf
set_option maxHeartbeats 4000000 in
set_option maxRecDepth 100000 in
theorem b8_execute {V : EV} {p : Program} {l : Launch} {e : Env} {R : Room} {s : State} {m : MethodId} {args : Array Value} {below : List Frame} {meth : Method} {c : Code} {Q : State → Prop} {A : Nat → Prop} {kc ks : Nat} {ad : Nat → Nat} {mT : MdT} {mQ : MdQ} {mN : MdN} {mP : MdP} {mH : MdH} {mG : MdG} {mK_ks : Int32} {mK_kk : Nat → Int32} {mK_kv : Nat → Int32} {mK_kt : Nat → Int32} {mL_lm : Int32} {mL_lp : Nat → Int32} {mL_ls : Nat → Int32} {mL_li : Nat → Int32} {mL_lk : Nat → Int32} {mL_lf : Nat → Int32} {v1 : Int32} {v2 : Int32} {v3 : Int32} {v4 : Int32} {mR_rl : Int32} {mR_ro : Int32} {mR_rv : Int32} {mR_rs : Int32} {mR_rt : Int32} {mR_rS : Nat → Int32} {mR_rV : Nat → Int32} {mR_rM : Nat → Int32} {res : Int32 × MdR} (C : CX V p l R s m args c A kc ks RX8 cX8_execute 7 2 46) (hf : f8_execute v1 v2 v3 v4 (mK_ks, mK_kk, mK_kv, mK_kt) (mL_lm, mL_lp, mL_ls, mL_li, mL_lk, mL_lf) (mR_rl, mR_ro, mR_rv, mR_rs, mR_rt, mR_rS, mR_rV, mR_rM) = some res) (K : RI V p l e R s m args below meth c Q A kc ks 7 cX8_execute .int res.1 (wM V ad mT mQ (mK_ks, mK_kk, mK_kv, mK_kt) mN mP (mL_lm, mL_lp, mL_ls, mL_li, mL_lk, mL_lf) mH res.2 mG)) : WC V p l e R s m args below meth c Q A kc ks 7 (wM V ad mT mQ (mK_ks, mK_kk, mK_kv, mK_kt) mN mP (mL_lm, mL_lp, mL_ls, mL_li, mL_lk, mL_lf) mH (mR_rl, mR_ro, mR_rv, mR_rs, mR_rt, mR_rS, mR_rV, mR_rM) mG) 0 [(0, .ref (ad 0)), (1, .int v1), (2, .int v2), (3, .int v3), (4, .int v4)] [] := by
  rw [f8_execute] at hf
  refine k_aload_n C dX8_execute_0 0 rfl ?_
  refine g8_19 C dX8_execute_1 ?_
  refine k_iload_n C dX8_execute_4 1 rfl ?_
  obtain ⟨hi, hf⟩ := gd_no hf
  refine lm4 C hi dX8_execute_5 ?_
  refine k_topi (fun v5_1 ev5_1 => ?_)
  replace hf := nm_el hf ev5_1
  refine k_istore C dX8_execute_6 [(5, .int v5_1), (0, .ref (ad 0)), (1, .int v1), (2, .int v2), (3, .int v3), (4, .int v4)] (by decide) rfl ?_
  refine k_iload_n C dX8_execute_8 3 rfl ?_
  refine k_if_le C 32 dX8_execute_9 (by decide) (fun hc => ?_) (fun hc => ?_)
  · replace hf := (if_pos hc).symm.trans hf
    refine k_sub [1, 2, 3, 4, 5, 0] (L' := [(0, .ref (ad 0)), (1, .int v1), (2, .int v2), (3, .int v3), (4, .int v4), (5, .int v5_1)]) rfl ?_
    exact w8_execute_L32 C K _ _ _ _ _ _ _ _ _ _ _ _ _ hf
  · replace hf := (if_neg hc).symm.trans hf
    refine k_iload C dX8_execute_12 0 rfl ?_
    refine k_if_lt C 32 dX8_execute_14 (by decide) (fun hc => ?_) (fun hc => ?_)
    · replace hf := (if_pos hc).symm.trans hf
      refine k_sub [1, 2, 3, 4, 5, 0] (L' := [(0, .ref (ad 0)), (1, .int v1), (2, .int v2), (3, .int v3), (4, .int v4), (5, .int v5_1)]) rfl ?_
      exact w8_execute_L32 C K _ _ _ _ _ _ _ _ _ _ _ _ _ hf
    · replace hf := (if_neg hc).symm.trans hf
      refine k_iload C dX8_execute_17 0 rfl ?_
      refine k_aload_n C dX8_execute_19 1 rfl ?_
      refine g8_61 C dX8_execute_20 ?_
      refine k_iload_n C dX8_execute_23 3 rfl ?_
      obtain ⟨hi, hf⟩ := gd_no hf
      refine lm18 C hi dX8_execute_24 ?_
      refine k_icmp_ne C 32 dX8_execute_25 (by decide) (fun hc => ?_) (fun hc => ?_)
      · replace hf := (if_neg hc).symm.trans hf
        refine k_sub [1, 2, 3, 4, 5, 0] (L' := [(0, .ref (ad 0)), (1, .int v1), (2, .int v2), (3, .int v3), (4, .int v4), (5, .int v5_1)]) rfl ?_
        exact w8_execute_L32 C K _ _ _ _ _ _ _ _ _ _ _ _ _ hf
      · replace hf := (if_pos hc).symm.trans hf
        refine k_iconst (v := (1 : Int32)) C dX8_execute_28 (by decide) ?_
        refine k_goto C 33 dX8_execute_29 (by decide) ?_
        refine k_sub [1, 2, 3, 4, 5, 0] (L' := [(0, .ref (ad 0)), (1, .int v1), (2, .int v2), (3, .int v3), (4, .int v4), (5, .int v5_1)]) rfl ?_
        exact w8_execute_L33 C K _ _ _ _ _ _ _ _ _ _ _ _ _ _ hf
theorem c8_execute {V : EV} {l : Launch} (hl0 : l.stackTraces = false) {ad : Nat → Nat} {mT : MdT} {mQ : MdQ} {mN : MdN} {mP : MdP} {mH : MdH} {mG : MdG} {mK_ks : Int32} {mK_kk : Nat → Int32} {mK_kv : Nat → Int32} {mK_kt : Nat → Int32} {mL_lm : Int32} {mL_lp : Nat → Int32} {mL_ls : Nat → Int32} {mL_li : Nat → Int32} {mL_lk : Nat → Int32} {mL_lf : Nat → Int32} {v1 : Int32} {v2 : Int32} {v3 : Int32} {v4 : Int32} {mR_rl : Int32} {mR_ro : Int32} {mR_rv : Int32} {mR_rs : Int32} {mR_rt : Int32} {mR_rS : Nat → Int32} {mR_rV : Nat → Int32} {mR_rM : Nat → Int32} {res : Int32 × MdR} (hf : f8_execute v1 v2 v3 v4 (mK_ks, mK_kk, mK_kv, mK_kt) (mL_lm, mL_lp, mL_ls, mL_li, mL_lk, mL_lf) (mR_rl, mR_ro, mR_rv, mR_rs, mR_rt, mR_rS, mR_rV, mR_rM) = some res) : MI V l yX8_execute cX8_execute 7 .int 2 46 [.ref (ad 0), .int v1, .int v2, .int v3, .int v4] (wM V ad mT mQ (mK_ks, mK_kk, mK_kv, mK_kt) mN mP (mL_lm, mL_lp, mL_ls, mL_li, mL_lk, mL_lf) mH (mR_rl, mR_ro, mR_rv, mR_rs, mR_rt, mR_rS, mR_rV, mR_rM) mG) res.1 (wM V ad mT mQ (mK_ks, mK_kk, mK_kv, mK_kt) mN mP (mL_lm, mL_lp, mL_ls, mL_li, mL_lk, mL_lf) mH res.2 mG) :=
  mi_of hl0 (by decide +kernel) (Nat.le_of_ble_eq_true rfl) (fun p e R s m args below meth c Q A C K => b8_execute C hf K)

theorem cm8_347 : ∀ a ∈ wsCV RX8 347 RX8 yX8_execute cX8_execute 7 (some .int), a ∈ GW := by
  unfold wsCV
  exact (List.forall_mem_cons.mpr ⟨(gw_6 (i := 149) (by decide +kernel) rfl), (List.forall_mem_cons.mpr ⟨(gw_6 (i := 151) (by decide +kernel) rfl), (List.forall_mem_cons.mpr ⟨(gw_p (q := ((yX8_execute, 63) : MethodName × Nat)) (List.mem_append_right _ (List.mem_append_right _ (List.mem_append_right _ (List.mem_append_right _ (List.mem_append_right _ (List.mem_append_right _ (List.mem_of_getElem? (i := 5) (by decide +kernel)))))))) rfl), (List.forall_mem_cons.mpr ⟨(gw_1 (i := 9) (by decide +kernel) rfl), (List.forall_mem_cons.mpr ⟨(gw_6 (i := 152) (by decide +kernel) rfl), (List.forall_mem_nil _)⟩)⟩)⟩)⟩)⟩)
theorem ok8_go : okCV RX8 yX8_go 3 := by unfold okCV; decide +kernel
def f8_go_L3 (k24 : Int32 → Int32 → Int32 → MdR → Option (MdR)) (N : Nat) (mQ_qc : Int32) (mQ_qb : Int32) (mQ_qp : Int32) (mQ_qr : Int32) (mQ_qC : Int32) (mK_ks : Int32) (mK_kk : Nat → Int32) (mK_kv : Nat → Int32) (mK_kt : Nat → Int32) (mL_lm : Int32) (mL_lp : Nat → Int32) (mL_ls : Nat → Int32) (mL_li : Nat → Int32) (mL_lk : Nat → Int32) (mL_lf : Nat → Int32) (mG_gf : Int32) (mG_gv : Int32) (mG_gt : Int32) (mG_gn : Int32) (mG_gX : Nat → Int32) (mG_gY : Nat → Int32) (mG_gM : Int32) (mG_gK : Nat → Int32) (mG_gR : Nat → Int32) : Nat → Int32 → Int32 → Int32 → Int32 → MdR → Option (MdR)
  | 0, _, _, _, _, _ => none
  | n + 1, x1, x2, x3, x4, (mR_rl, mR_ro, mR_rv, mR_rs, mR_rt, mR_rS, mR_rV, mR_rM) =>
    if (6 : Int32) ≤ x4 then k24 x1 x2 x3 (mR_rl, mR_ro, mR_rv, mR_rs, mR_rt, mR_rS, mR_rV, mR_rM) else if x4 < 0 ∨ 6 ≤ x4.toNatClampNeg then none else nm_v (x4 + (1 : Int32)) (fun v4_1 => f8_go_L3 k24 N mQ_qc mQ_qb mQ_qp mQ_qr mQ_qC mK_ks mK_kk mK_kv mK_kt mL_lm mL_lp mL_ls mL_li mL_lk mL_lf mG_gf mG_gv mG_gt mG_gn mG_gX mG_gY mG_gM mG_gK mG_gR n x1 x2 x3 v4_1 (mR_rl, mR_ro, mR_rv, mR_rs, mR_rt, mR_rS, (upd mR_rV x4.toNatClampNeg (0 : Int32)), mR_rM))

def f8_go_L27 (k48 : Int32 → Int32 → Int32 → MdR → Option (MdR)) (N : Nat) (mQ_qc : Int32) (mQ_qb : Int32) (mQ_qp : Int32) (mQ_qr : Int32) (mQ_qC : Int32) (mK_ks : Int32) (mK_kk : Nat → Int32) (mK_kv : Nat → Int32) (mK_kt : Nat → Int32) (mL_lm : Int32) (mL_lp : Nat → Int32) (mL_ls : Nat → Int32) (mL_li : Nat → Int32) (mL_lk : Nat → Int32) (mL_lf : Nat → Int32) (mG_gf : Int32) (mG_gv : Int32) (mG_gt : Int32) (mG_gn : Int32) (mG_gX : Nat → Int32) (mG_gY : Nat → Int32) (mG_gM : Int32) (mG_gK : Nat → Int32) (mG_gR : Nat → Int32) : Nat → Int32 → Int32 → Int32 → Int32 → MdR → Option (MdR)
  | 0, _, _, _, _, _ => none
  | n + 1, x1, x2, x3, x4, (mR_rl, mR_ro, mR_rv, mR_rs, mR_rt, mR_rS, mR_rV, mR_rM) =>
    if (60 : Int32) ≤ x4 then k48 x1 x2 x3 (mR_rl, mR_ro, mR_rv, mR_rs, mR_rt, mR_rS, mR_rV, mR_rM) else if x4 < 0 ∨ 60 ≤ x4.toNatClampNeg then none else nm_v (x4 + (1 : Int32)) (fun v4_3 => f8_go_L27 k48 N mQ_qc mQ_qb mQ_qp mQ_qr mQ_qC mK_ks mK_kk mK_kv mK_kt mL_lm mL_lp mL_ls mL_li mL_lk mL_lf mG_gf mG_gv mG_gt mG_gn mG_gX mG_gY mG_gM mG_gK mG_gR n x1 x2 x3 v4_3 (mR_rl, mR_ro, mR_rv, mR_rs, mR_rt, mR_rS, mR_rV, (upd mR_rM x4.toNatClampNeg (vp_nar .boolean (0 : Int32)))))

def f8_go_L77 (k99 : MdR → Option (MdR)) (N : Nat) (mQ_qc : Int32) (mQ_qb : Int32) (mQ_qp : Int32) (mQ_qr : Int32) (mQ_qC : Int32) (mK_ks : Int32) (mK_kk : Nat → Int32) (mK_kv : Nat → Int32) (mK_kt : Nat → Int32) (mL_lm : Int32) (mL_lp : Nat → Int32) (mL_ls : Nat → Int32) (mL_li : Nat → Int32) (mL_lk : Nat → Int32) (mL_lf : Nat → Int32) (mG_gf : Int32) (mG_gv : Int32) (mG_gt : Int32) (mG_gn : Int32) (mG_gX : Nat → Int32) (mG_gY : Nat → Int32) (mG_gM : Int32) (mG_gK : Nat → Int32) (mG_gR : Nat → Int32) : Nat → Int32 → Int32 → Int32 → Int32 → MdR → Option (MdR)
  | 0, _, _, _, _, _ => none
  | n + 1, x1, x2, x3, x4, (mR_rl, mR_ro, mR_rv, mR_rs, mR_rt, mR_rS, mR_rV, mR_rM) =>
    if mR_ro = (-1 : Int32) then (f8_execute x4 x1 x2 x3 (mK_ks, mK_kk, mK_kv, mK_kt) (mL_lm, mL_lp, mL_ls, mL_li, mL_lk, mL_lf) (mR_rl, mR_ro, mR_rv, mR_rs, mR_rt, mR_rS, mR_rV, mR_rM)).bind fun (r_6, (mR_rl_7, mR_ro_8, mR_rv_9, mR_rs_10, mR_rt_11, mR_rS_12, mR_rV_13, mR_rM_14)) => f8_go_L77 k99 N mQ_qc mQ_qb mQ_qp mQ_qr mQ_qC mK_ks mK_kk mK_kv mK_kt mL_lm mL_lp mL_ls mL_li mL_lk mL_lf mG_gf mG_gv mG_gt mG_gn mG_gX mG_gY mG_gM mG_gK mG_gR n x1 x2 x3 r_6 (mR_rl_7, mR_ro_8, mR_rv_9, mR_rs_10, mR_rt_11, mR_rS_12, mR_rV_13, mR_rM_14) else k99 (mR_rl, mR_ro, mR_rv, mR_rs, mR_rt, mR_rS, mR_rV, mR_rM)
def f8_go (N : Nat) (v1 : Int32) (v2 : Int32) (v3 : Int32) : MdQ → MdK → MdL → MdG → MdR → Option (MdR)
  | (mQ_qc, mQ_qb, mQ_qp, mQ_qr, mQ_qC), (mK_ks, mK_kk, mK_kv, mK_kt), (mL_lm, mL_lp, mL_ls, mL_li, mL_lk, mL_lf), (mG_gf, mG_gv, mG_gt, mG_gn, mG_gX, mG_gY, mG_gM, mG_gK, mG_gR), (mR_rl, mR_ro, mR_rv, mR_rs, mR_rt, mR_rS, mR_rV, mR_rM) =>
    f8_go_L3 (fun x1_2 x2_2 x3_2 (mR_rl_2, mR_ro_2, mR_rv_2, mR_rs_2, mR_rt_2, mR_rS_2, mR_rV_2, mR_rM_2) => f8_go_L27 (fun x1_4 x2_4 x3_4 (mR_rl_4, mR_ro_4, mR_rv_4, mR_rs_4, mR_rt_4, mR_rS_4, mR_rV_4, mR_rM_4) => f8_go_L77 (fun (mR_rl_15, mR_ro_15, mR_rv_15, mR_rs_15, mR_rt_15, mR_rS_15, mR_rV_15, mR_rM_15) => if mR_ro_15 = 0 then some (mR_rl_15, mR_ro_15, mR_rv_15, (mG_gf - mR_rl_15), mR_rt_15, mR_rS_15, mR_rV_15, mR_rM_15) else some (mR_rl_15, mR_ro_15, (0 : Int32), (mG_gf - mR_rl_15), mR_rt_15, mR_rS_15, mR_rV_15, mR_rM_15)) N mQ_qc mQ_qb mQ_qp mQ_qr mQ_qC mK_ks mK_kk mK_kv mK_kt mL_lm mL_lp mL_ls mL_li mL_lk mL_lf mG_gf mG_gv mG_gt mG_gn mG_gX mG_gY mG_gM mG_gK mG_gR N x1_4 x2_4 x3_4 mQ_qb (mG_gf, (-1 : Int32), (0 : Int32), mR_rs_4, (0 : Int32), mR_rS_4, mR_rV_4, mR_rM_4)) N mQ_qc mQ_qb mQ_qp mQ_qr mQ_qC mK_ks mK_kk mK_kv mK_kt mL_lm mL_lp mL_ls mL_li mL_lk mL_lf mG_gf mG_gv mG_gt mG_gn mG_gX mG_gY mG_gM mG_gK mG_gR N x1_2 x2_2 x3_2 (0 : Int32) (mR_rl_2, mR_ro_2, mR_rv_2, mR_rs_2, mR_rt_2, mR_rS_2, mR_rV_2, mR_rM_2)) N mQ_qc mQ_qb mQ_qp mQ_qr mQ_qC mK_ks mK_kk mK_kv mK_kt mL_lm mL_lp mL_ls mL_li mL_lk mL_lf mG_gf mG_gv mG_gt mG_gn mG_gX mG_gY mG_gM mG_gK mG_gR N v1 v2 v3 (0 : Int32) (mR_rl, mR_ro, mR_rv, mR_rs, mR_rt, mR_rS, mR_rV, mR_rM)
set_option maxHeartbeats 4000000 in
set_option maxRecDepth 100000 in
theorem w8_go_L3 {V : EV} {p : Program} {l : Launch} {e : Env} {R : Room} {s : State} {m : MethodId} {args : Array Value} {below : List Frame} {meth : Method} {c : Code} {Q : State → Prop} {A : Nat → Prop} {kc ks : Nat} {ad : Nat → Nat} {mT : MdT} {mN : MdN} {mP : MdP} {mH : MdH} {mQ_qc : Int32} {mQ_qb : Int32} {mQ_qp : Int32} {mQ_qr : Int32} {mQ_qC : Int32} {mK_ks : Int32} {mK_kk : Nat → Int32} {mK_kv : Nat → Int32} {mK_kt : Nat → Int32} {mL_lm : Int32} {mL_lp : Nat → Int32} {mL_ls : Nat → Int32} {mL_li : Nat → Int32} {mL_lk : Nat → Int32} {mL_lf : Nat → Int32} {mG_gf : Int32} {mG_gv : Int32} {mG_gt : Int32} {mG_gn : Int32} {mG_gX : Nat → Int32} {mG_gY : Nat → Int32} {mG_gM : Int32} {mG_gK : Nat → Int32} {mG_gR : Nat → Int32} {k24 : Int32 → Int32 → Int32 → MdR → Option (MdR)} {N : Nat} {res : MdR} (C : CX V p l R s m args c A kc ks RX8 cX8_go 5 3 72) (K : RV V p l e R s m args below meth c Q A kc ks 5 cX8_go (wM V ad mT (mQ_qc, mQ_qb, mQ_qp, mQ_qr, mQ_qC) (mK_ks, mK_kk, mK_kv, mK_kt) mN mP (mL_lm, mL_lp, mL_ls, mL_li, mL_lk, mL_lf) mH res (mG_gf, mG_gv, mG_gt, mG_gn, mG_gX, mG_gY, mG_gM, mG_gK, mG_gR))) (hk24 : ∀ (x1 : Int32) (x2 : Int32) (x3 : Int32) (mR_rl : Int32) (mR_ro : Int32) (mR_rv : Int32) (mR_rs : Int32) (mR_rt : Int32) (mR_rS : Nat → Int32) (mR_rV : Nat → Int32) (mR_rM : Nat → Int32), k24 x1 x2 x3 (mR_rl, mR_ro, mR_rv, mR_rs, mR_rt, mR_rS, mR_rV, mR_rM) = some res → WC V p l e R s m args below meth c Q A kc ks 5 (wM V ad mT (mQ_qc, mQ_qb, mQ_qp, mQ_qr, mQ_qC) (mK_ks, mK_kk, mK_kv, mK_kt) mN mP (mL_lm, mL_lp, mL_ls, mL_li, mL_lk, mL_lf) mH (mR_rl, mR_ro, mR_rv, mR_rs, mR_rt, mR_rS, mR_rV, mR_rM) (mG_gf, mG_gv, mG_gt, mG_gn, mG_gX, mG_gY, mG_gM, mG_gK, mG_gR)) 24 [(0, .ref (ad 0)), (1, .int x1), (2, .int x2), (3, .int x3)] []) : ∀ (n : Nat) (x1 : Int32) (x2 : Int32) (x3 : Int32) (x4 : Int32) (mR_rl : Int32) (mR_ro : Int32) (mR_rv : Int32) (mR_rs : Int32) (mR_rt : Int32) (mR_rS : Nat → Int32) (mR_rV : Nat → Int32) (mR_rM : Nat → Int32), f8_go_L3 k24 N mQ_qc mQ_qb mQ_qp mQ_qr mQ_qC mK_ks mK_kk mK_kv mK_kt mL_lm mL_lp mL_ls mL_li mL_lk mL_lf mG_gf mG_gv mG_gt mG_gn mG_gX mG_gY mG_gM mG_gK mG_gR n x1 x2 x3 x4 (mR_rl, mR_ro, mR_rv, mR_rs, mR_rt, mR_rS, mR_rV, mR_rM) = some res → WC V p l e R s m args below meth c Q A kc ks 5 (wM V ad mT (mQ_qc, mQ_qb, mQ_qp, mQ_qr, mQ_qC) (mK_ks, mK_kk, mK_kv, mK_kt) mN mP (mL_lm, mL_lp, mL_ls, mL_li, mL_lk, mL_lf) mH (mR_rl, mR_ro, mR_rv, mR_rs, mR_rt, mR_rS, mR_rV, mR_rM) (mG_gf, mG_gv, mG_gt, mG_gn, mG_gX, mG_gY, mG_gM, mG_gK, mG_gR)) 3 [(0, .ref (ad 0)), (1, .int x1), (2, .int x2), (3, .int x3), (4, .int x4)] [] := by
  intro n
  induction n with
  | zero => intro _ _ _ _ _ _ _ _ _ _ _ _ hf; exact nomatch (show none = some res from hf)
  | succ n ih =>
    intro x1 x2 x3 x4 mR_rl mR_ro mR_rv mR_rs mR_rt mR_rS mR_rV mR_rM hf
    rw [f8_go_L3] at hf
    refine k_iload C dX8_go_3 4 rfl ?_
    refine k_bipush (v := (6 : Int32)) C dX8_go_5 (by decide) ?_
    refine k_icmp_ge C 24 dX8_go_7 (by decide) (fun hc => ?_) (fun hc => ?_)
    · replace hf := (if_pos hc).symm.trans hf
      refine k_sub [0, 1, 2, 3] (L' := [(0, .ref (ad 0)), (1, .int x1), (2, .int x2), (3, .int x3)]) rfl ?_
      exact hk24 _ _ _ _ _ _ _ _ _ _ _ hf
    · replace hf := (if_neg hc).symm.trans hf
      refine k_aload_n C dX8_go_10 0 rfl ?_
      refine g8_107 C dX8_go_11 ?_
      refine k_iload C dX8_go_14 4 rfl ?_
      refine k_iconst (v := (0 : Int32)) C dX8_go_16 (by decide) ?_
      obtain ⟨hi, hf⟩ := gd_no hf
      refine sm32 C hi dX8_go_17 ?_
      obtain ⟨v4_1, ev4_1⟩ : ∃ y : Int32, y = x4 + (1 : Int32) := ⟨_, rfl⟩
      replace hf := nm_el hf ev4_1
      refine k_iinc (v := v4_1) C dX8_go_18 4 rfl (by rw [ev4_1]; rfl) [(4, .int v4_1), (0, .ref (ad 0)), (1, .int x1), (2, .int x2), (3, .int x3)] (by decide) rfl ?_
      refine k_goto C 3 dX8_go_21 (by decide) ?_
      refine k_sub [1, 2, 3, 4, 0] (L' := [(0, .ref (ad 0)), (1, .int x1), (2, .int x2), (3, .int x3), (4, .int v4_1)]) rfl ?_
      exact ih _ _ _ _ _ _ _ _ _ _ _ _ hf

set_option maxHeartbeats 4000000 in
set_option maxRecDepth 100000 in
theorem w8_go_L27 {V : EV} {p : Program} {l : Launch} {e : Env} {R : Room} {s : State} {m : MethodId} {args : Array Value} {below : List Frame} {meth : Method} {c : Code} {Q : State → Prop} {A : Nat → Prop} {kc ks : Nat} {ad : Nat → Nat} {mT : MdT} {mN : MdN} {mP : MdP} {mH : MdH} {mQ_qc : Int32} {mQ_qb : Int32} {mQ_qp : Int32} {mQ_qr : Int32} {mQ_qC : Int32} {mK_ks : Int32} {mK_kk : Nat → Int32} {mK_kv : Nat → Int32} {mK_kt : Nat → Int32} {mL_lm : Int32} {mL_lp : Nat → Int32} {mL_ls : Nat → Int32} {mL_li : Nat → Int32} {mL_lk : Nat → Int32} {mL_lf : Nat → Int32} {mG_gf : Int32} {mG_gv : Int32} {mG_gt : Int32} {mG_gn : Int32} {mG_gX : Nat → Int32} {mG_gY : Nat → Int32} {mG_gM : Int32} {mG_gK : Nat → Int32} {mG_gR : Nat → Int32} {k48 : Int32 → Int32 → Int32 → MdR → Option (MdR)} {N : Nat} {res : MdR} (C : CX V p l R s m args c A kc ks RX8 cX8_go 5 3 72) (K : RV V p l e R s m args below meth c Q A kc ks 5 cX8_go (wM V ad mT (mQ_qc, mQ_qb, mQ_qp, mQ_qr, mQ_qC) (mK_ks, mK_kk, mK_kv, mK_kt) mN mP (mL_lm, mL_lp, mL_ls, mL_li, mL_lk, mL_lf) mH res (mG_gf, mG_gv, mG_gt, mG_gn, mG_gX, mG_gY, mG_gM, mG_gK, mG_gR))) (hk48 : ∀ (x1 : Int32) (x2 : Int32) (x3 : Int32) (mR_rl : Int32) (mR_ro : Int32) (mR_rv : Int32) (mR_rs : Int32) (mR_rt : Int32) (mR_rS : Nat → Int32) (mR_rV : Nat → Int32) (mR_rM : Nat → Int32), k48 x1 x2 x3 (mR_rl, mR_ro, mR_rv, mR_rs, mR_rt, mR_rS, mR_rV, mR_rM) = some res → WC V p l e R s m args below meth c Q A kc ks 5 (wM V ad mT (mQ_qc, mQ_qb, mQ_qp, mQ_qr, mQ_qC) (mK_ks, mK_kk, mK_kv, mK_kt) mN mP (mL_lm, mL_lp, mL_ls, mL_li, mL_lk, mL_lf) mH (mR_rl, mR_ro, mR_rv, mR_rs, mR_rt, mR_rS, mR_rV, mR_rM) (mG_gf, mG_gv, mG_gt, mG_gn, mG_gX, mG_gY, mG_gM, mG_gK, mG_gR)) 48 [(0, .ref (ad 0)), (1, .int x1), (2, .int x2), (3, .int x3)] []) : ∀ (n : Nat) (x1 : Int32) (x2 : Int32) (x3 : Int32) (x4 : Int32) (mR_rl : Int32) (mR_ro : Int32) (mR_rv : Int32) (mR_rs : Int32) (mR_rt : Int32) (mR_rS : Nat → Int32) (mR_rV : Nat → Int32) (mR_rM : Nat → Int32), f8_go_L27 k48 N mQ_qc mQ_qb mQ_qp mQ_qr mQ_qC mK_ks mK_kk mK_kv mK_kt mL_lm mL_lp mL_ls mL_li mL_lk mL_lf mG_gf mG_gv mG_gt mG_gn mG_gX mG_gY mG_gM mG_gK mG_gR n x1 x2 x3 x4 (mR_rl, mR_ro, mR_rv, mR_rs, mR_rt, mR_rS, mR_rV, mR_rM) = some res → WC V p l e R s m args below meth c Q A kc ks 5 (wM V ad mT (mQ_qc, mQ_qb, mQ_qp, mQ_qr, mQ_qC) (mK_ks, mK_kk, mK_kv, mK_kt) mN mP (mL_lm, mL_lp, mL_ls, mL_li, mL_lk, mL_lf) mH (mR_rl, mR_ro, mR_rv, mR_rs, mR_rt, mR_rS, mR_rV, mR_rM) (mG_gf, mG_gv, mG_gt, mG_gn, mG_gX, mG_gY, mG_gM, mG_gK, mG_gR)) 27 [(0, .ref (ad 0)), (1, .int x1), (2, .int x2), (3, .int x3), (4, .int x4)] [] := by
  intro n
  induction n with
  | zero => intro _ _ _ _ _ _ _ _ _ _ _ _ hf; exact nomatch (show none = some res from hf)
  | succ n ih =>
    intro x1 x2 x3 x4 mR_rl mR_ro mR_rv mR_rs mR_rt mR_rS mR_rV mR_rM hf
    rw [f8_go_L27] at hf
    refine k_iload C dX8_go_27 4 rfl ?_
    refine k_bipush (v := (60 : Int32)) C dX8_go_29 (by decide) ?_
    refine k_icmp_ge C 48 dX8_go_31 (by decide) (fun hc => ?_) (fun hc => ?_)
    · replace hf := (if_pos hc).symm.trans hf
      refine k_sub [0, 1, 2, 3] (L' := [(0, .ref (ad 0)), (1, .int x1), (2, .int x2), (3, .int x3)]) rfl ?_
      exact hk48 _ _ _ _ _ _ _ _ _ _ _ hf
    · replace hf := (if_neg hc).symm.trans hf
      refine k_aload_n C dX8_go_34 0 rfl ?_
      refine g8_110 C dX8_go_35 ?_
      refine k_iload C dX8_go_38 4 rfl ?_
      refine k_iconst (v := (0 : Int32)) C dX8_go_40 (by decide) ?_
      obtain ⟨hi, hf⟩ := gd_no hf
      refine sm33 C hi dX8_go_41 ?_
      obtain ⟨v4_3, ev4_3⟩ : ∃ y : Int32, y = x4 + (1 : Int32) := ⟨_, rfl⟩
      replace hf := nm_el hf ev4_3
      refine k_iinc (v := v4_3) C dX8_go_42 4 rfl (by rw [ev4_3]; rfl) [(4, .int v4_3), (0, .ref (ad 0)), (1, .int x1), (2, .int x2), (3, .int x3)] (by decide) rfl ?_
      refine k_goto C 27 dX8_go_45 (by decide) ?_
      refine k_sub [1, 2, 3, 4, 0] (L' := [(0, .ref (ad 0)), (1, .int x1), (2, .int x2), (3, .int x3), (4, .int v4_3)]) rfl ?_
      exact ih _ _ _ _ _ _ _ _ _ _ _ _ hf

set_option maxHeartbeats 4000000 in
set_option maxRecDepth 100000 in
theorem w8_go_L77 {V : EV} {p : Program} {l : Launch} {e : Env} {R : Room} {s : State} {m : MethodId} {args : Array Value} {below : List Frame} {meth : Method} {c : Code} {Q : State → Prop} {A : Nat → Prop} {kc ks : Nat} {ad : Nat → Nat} {mT : MdT} {mN : MdN} {mP : MdP} {mH : MdH} {mQ_qc : Int32} {mQ_qb : Int32} {mQ_qp : Int32} {mQ_qr : Int32} {mQ_qC : Int32} {mK_ks : Int32} {mK_kk : Nat → Int32} {mK_kv : Nat → Int32} {mK_kt : Nat → Int32} {mL_lm : Int32} {mL_lp : Nat → Int32} {mL_ls : Nat → Int32} {mL_li : Nat → Int32} {mL_lk : Nat → Int32} {mL_lf : Nat → Int32} {mG_gf : Int32} {mG_gv : Int32} {mG_gt : Int32} {mG_gn : Int32} {mG_gX : Nat → Int32} {mG_gY : Nat → Int32} {mG_gM : Int32} {mG_gK : Nat → Int32} {mG_gR : Nat → Int32} {k99 : MdR → Option (MdR)} {N : Nat} {res : MdR} (C : CX V p l R s m args c A kc ks RX8 cX8_go 5 3 72) (K : RV V p l e R s m args below meth c Q A kc ks 5 cX8_go (wM V ad mT (mQ_qc, mQ_qb, mQ_qp, mQ_qr, mQ_qC) (mK_ks, mK_kk, mK_kv, mK_kt) mN mP (mL_lm, mL_lp, mL_ls, mL_li, mL_lk, mL_lf) mH res (mG_gf, mG_gv, mG_gt, mG_gn, mG_gX, mG_gY, mG_gM, mG_gK, mG_gR))) (hk99 : ∀  (mR_rl : Int32) (mR_ro : Int32) (mR_rv : Int32) (mR_rs : Int32) (mR_rt : Int32) (mR_rS : Nat → Int32) (mR_rV : Nat → Int32) (mR_rM : Nat → Int32), k99 (mR_rl, mR_ro, mR_rv, mR_rs, mR_rt, mR_rS, mR_rV, mR_rM) = some res → WC V p l e R s m args below meth c Q A kc ks 5 (wM V ad mT (mQ_qc, mQ_qb, mQ_qp, mQ_qr, mQ_qC) (mK_ks, mK_kk, mK_kv, mK_kt) mN mP (mL_lm, mL_lp, mL_ls, mL_li, mL_lk, mL_lf) mH (mR_rl, mR_ro, mR_rv, mR_rs, mR_rt, mR_rS, mR_rV, mR_rM) (mG_gf, mG_gv, mG_gt, mG_gn, mG_gX, mG_gY, mG_gM, mG_gK, mG_gR)) 99 [(0, .ref (ad 0))] []) : ∀ (n : Nat) (x1 : Int32) (x2 : Int32) (x3 : Int32) (x4 : Int32) (mR_rl : Int32) (mR_ro : Int32) (mR_rv : Int32) (mR_rs : Int32) (mR_rt : Int32) (mR_rS : Nat → Int32) (mR_rV : Nat → Int32) (mR_rM : Nat → Int32), f8_go_L77 k99 N mQ_qc mQ_qb mQ_qp mQ_qr mQ_qC mK_ks mK_kk mK_kv mK_kt mL_lm mL_lp mL_ls mL_li mL_lk mL_lf mG_gf mG_gv mG_gt mG_gn mG_gX mG_gY mG_gM mG_gK mG_gR n x1 x2 x3 x4 (mR_rl, mR_ro, mR_rv, mR_rs, mR_rt, mR_rS, mR_rV, mR_rM) = some res → WC V p l e R s m args below meth c Q A kc ks 5 (wM V ad mT (mQ_qc, mQ_qb, mQ_qp, mQ_qr, mQ_qC) (mK_ks, mK_kk, mK_kv, mK_kt) mN mP (mL_lm, mL_lp, mL_ls, mL_li, mL_lk, mL_lf) mH (mR_rl, mR_ro, mR_rv, mR_rs, mR_rt, mR_rS, mR_rV, mR_rM) (mG_gf, mG_gv, mG_gt, mG_gn, mG_gX, mG_gY, mG_gM, mG_gK, mG_gR)) 77 [(0, .ref (ad 0)), (1, .int x1), (2, .int x2), (3, .int x3), (4, .int x4)] [] := by
  intro n
  induction n with
  | zero => intro _ _ _ _ _ _ _ _ _ _ _ _ hf; exact nomatch (show none = some res from hf)
  | succ n ih =>
    intro x1 x2 x3 x4 mR_rl mR_ro mR_rv mR_rs mR_rt mR_rS mR_rV mR_rM hf
    rw [f8_go_L77] at hf
    refine k_aload_n C dX8_go_77 0 rfl ?_
    refine g8_341 C dX8_go_78 ?_
    refine k_iconst (v := (-1 : Int32)) C dX8_go_81 (by decide) ?_
    refine k_icmp_ne C 99 dX8_go_82 (by decide) (fun hc => ?_) (fun hc => ?_)
    · replace hf := (if_neg hc).symm.trans hf
      refine k_sub [0] (L' := [(0, .ref (ad 0))]) rfl ?_
      exact hk99 _ _ _ _ _ _ _ _ hf
    · replace hf := (if_pos hc).symm.trans hf
      refine k_aload_n C dX8_go_85 0 rfl ?_
      refine k_iload C dX8_go_86 4 rfl ?_
      refine k_iload_n C dX8_go_88 1 rfl ?_
      refine k_iload_n C dX8_go_89 2 rfl ?_
      refine k_iload_n C dX8_go_90 3 rfl ?_
      obtain ⟨⟨r_6, ⟨mR_rl_7, mR_ro_8, mR_rv_9, mR_rs_10, mR_rt_11, mR_rS_12, mR_rV_13, mR_rM_14⟩⟩, hq_5, hf⟩ := ob_el hf
      dsimp only at hf
      refine k_callVi C (c8_execute C.2.2.2.2.2.2.2.2.2.1 hq_5) cm8_347 ok8_execute (by decide) 0 rfl rfl rfl rfl (Nat.le_of_ble_eq_true rfl) dX8_go_91 ?_
      refine k_istore C dX8_go_94 [(4, .int r_6), (0, .ref (ad 0)), (1, .int x1), (2, .int x2), (3, .int x3)] (by decide) rfl ?_
      refine k_goto C 77 dX8_go_96 (by decide) ?_
      refine k_sub [1, 2, 3, 4, 0] (L' := [(0, .ref (ad 0)), (1, .int x1), (2, .int x2), (3, .int x3), (4, .int r_6)]) rfl ?_
      exact ih _ _ _ _ _ _ _ _ _ _ _ _ hf
set_option maxHeartbeats 4000000 in
set_option maxRecDepth 100000 in
theorem b8_go {V : EV} {p : Program} {l : Launch} {e : Env} {R : Room} {s : State} {m : MethodId} {args : Array Value} {below : List Frame} {meth : Method} {c : Code} {Q : State → Prop} {A : Nat → Prop} {kc ks : Nat} {ad : Nat → Nat} {mT : MdT} {mN : MdN} {mP : MdP} {mH : MdH} {mQ_qc : Int32} {mQ_qb : Int32} {mQ_qp : Int32} {mQ_qr : Int32} {mQ_qC : Int32} {mK_ks : Int32} {mK_kk : Nat → Int32} {mK_kv : Nat → Int32} {mK_kt : Nat → Int32} {mL_lm : Int32} {mL_lp : Nat → Int32} {mL_ls : Nat → Int32} {mL_li : Nat → Int32} {mL_lk : Nat → Int32} {mL_lf : Nat → Int32} {mG_gf : Int32} {mG_gv : Int32} {mG_gt : Int32} {mG_gn : Int32} {mG_gX : Nat → Int32} {mG_gY : Nat → Int32} {mG_gM : Int32} {mG_gK : Nat → Int32} {mG_gR : Nat → Int32} {v1 : Int32} {v2 : Int32} {v3 : Int32} {mR_rl : Int32} {mR_ro : Int32} {mR_rv : Int32} {mR_rs : Int32} {mR_rt : Int32} {mR_rS : Nat → Int32} {mR_rV : Nat → Int32} {mR_rM : Nat → Int32} {N : Nat} {res : MdR} (C : CX V p l R s m args c A kc ks RX8 cX8_go 5 3 72) (hf : f8_go N v1 v2 v3 (mQ_qc, mQ_qb, mQ_qp, mQ_qr, mQ_qC) (mK_ks, mK_kk, mK_kv, mK_kt) (mL_lm, mL_lp, mL_ls, mL_li, mL_lk, mL_lf) (mG_gf, mG_gv, mG_gt, mG_gn, mG_gX, mG_gY, mG_gM, mG_gK, mG_gR) (mR_rl, mR_ro, mR_rv, mR_rs, mR_rt, mR_rS, mR_rV, mR_rM) = some res) (K : RV V p l e R s m args below meth c Q A kc ks 5 cX8_go (wM V ad mT (mQ_qc, mQ_qb, mQ_qp, mQ_qr, mQ_qC) (mK_ks, mK_kk, mK_kv, mK_kt) mN mP (mL_lm, mL_lp, mL_ls, mL_li, mL_lk, mL_lf) mH res (mG_gf, mG_gv, mG_gt, mG_gn, mG_gX, mG_gY, mG_gM, mG_gK, mG_gR))) : WC V p l e R s m args below meth c Q A kc ks 5 (wM V ad mT (mQ_qc, mQ_qb, mQ_qp, mQ_qr, mQ_qC) (mK_ks, mK_kk, mK_kv, mK_kt) mN mP (mL_lm, mL_lp, mL_ls, mL_li, mL_lk, mL_lf) mH (mR_rl, mR_ro, mR_rv, mR_rs, mR_rt, mR_rS, mR_rV, mR_rM) (mG_gf, mG_gv, mG_gt, mG_gn, mG_gX, mG_gY, mG_gM, mG_gK, mG_gR)) 0 [(0, .ref (ad 0)), (1, .int v1), (2, .int v2), (3, .int v3)] [] := by
  rw [f8_go] at hf
  refine k_iconst (v := (0 : Int32)) C dX8_go_0 (by decide) ?_
  refine k_istore C dX8_go_1 [(4, .int (0 : Int32)), (0, .ref (ad 0)), (1, .int v1), (2, .int v2), (3, .int v3)] (by decide) rfl ?_
  refine k_sub [1, 2, 3, 4, 0] (L' := [(0, .ref (ad 0)), (1, .int v1), (2, .int v2), (3, .int v3), (4, .int (0 : Int32))]) rfl ?_
  refine w8_go_L3 C K ?_ _ _ _ _ _ _ _ _ _ _ _ _ _ hf
  · intro x1_2 x2_2 x3_2 mR_rl_2 mR_ro_2 mR_rv_2 mR_rs_2 mR_rt_2 mR_rS_2 mR_rV_2 mR_rM_2 hf
    try dsimp only at hf
    refine k_iconst (v := (0 : Int32)) C dX8_go_24 (by decide) ?_
    refine k_istore C dX8_go_25 [(4, .int (0 : Int32)), (0, .ref (ad 0)), (1, .int x1_2), (2, .int x2_2), (3, .int x3_2)] (by decide) rfl ?_
    refine k_sub [1, 2, 3, 4, 0] (L' := [(0, .ref (ad 0)), (1, .int x1_2), (2, .int x2_2), (3, .int x3_2), (4, .int (0 : Int32))]) rfl ?_
    refine w8_go_L27 C K ?_ _ _ _ _ _ _ _ _ _ _ _ _ _ hf
    · intro x1_4 x2_4 x3_4 mR_rl_4 mR_ro_4 mR_rv_4 mR_rs_4 mR_rt_4 mR_rS_4 mR_rV_4 mR_rM_4 hf
      try dsimp only at hf
      refine k_aload_n C dX8_go_48 0 rfl ?_
      refine k_aload_n C dX8_go_49 0 rfl ?_
      refine g8_100 C dX8_go_50 ?_
      refine p8_338 C dX8_go_53 ?_
      refine k_aload_n C dX8_go_56 0 rfl ?_
      refine k_iconst (v := (0 : Int32)) C dX8_go_57 (by decide) ?_
      refine p8_335 C dX8_go_58 ?_
      refine k_aload_n C dX8_go_61 0 rfl ?_
      refine k_iconst (v := (-1 : Int32)) C dX8_go_62 (by decide) ?_
      refine p8_341 C dX8_go_63 ?_
      refine k_aload_n C dX8_go_66 0 rfl ?_
      refine k_iconst (v := (0 : Int32)) C dX8_go_67 (by decide) ?_
      refine p8_344 C dX8_go_68 ?_
      refine k_aload_n C dX8_go_71 0 rfl ?_
      refine g8_165 C dX8_go_72 ?_
      refine k_istore C dX8_go_75 [(4, .int mQ_qb), (0, .ref (ad 0)), (1, .int x1_4), (2, .int x2_4), (3, .int x3_4)] (by decide) rfl ?_
      refine k_sub [1, 2, 3, 4, 0] (L' := [(0, .ref (ad 0)), (1, .int x1_4), (2, .int x2_4), (3, .int x3_4), (4, .int mQ_qb)]) rfl ?_
      refine w8_go_L77 C K ?_ _ _ _ _ _ _ _ _ _ _ _ _ _ hf
      · intro mR_rl_15 mR_ro_15 mR_rv_15 mR_rs_15 mR_rt_15 mR_rS_15 mR_rV_15 mR_rM_15 hf
        try dsimp only at hf
        refine k_aload_n C dX8_go_99 0 rfl ?_
        refine k_aload_n C dX8_go_100 0 rfl ?_
        refine g8_100 C dX8_go_101 ?_
        refine k_aload_n C dX8_go_104 0 rfl ?_
        refine g8_338 C dX8_go_105 ?_
        refine k_isub C dX8_go_108 ?_
        refine p8_350 C dX8_go_109 ?_
        refine k_aload_n C dX8_go_112 0 rfl ?_
        refine g8_341 C dX8_go_113 ?_
        refine k_if_eq C 124 dX8_go_116 (by decide) (fun hc => ?_) (fun hc => ?_)
        · replace hf := (if_pos hc).symm.trans hf
          cases hf
          exact K _ _ dX8_go_124
        · replace hf := (if_neg hc).symm.trans hf
          refine k_aload_n C dX8_go_119 0 rfl ?_
          refine k_iconst (v := (0 : Int32)) C dX8_go_120 (by decide) ?_
          refine p8_344 C dX8_go_121 ?_
          cases hf
          exact K _ _ dX8_go_124
theorem c8_go {V : EV} {l : Launch} (hl0 : l.stackTraces = false) {ad : Nat → Nat} {mT : MdT} {mN : MdN} {mP : MdP} {mH : MdH} {mQ_qc : Int32} {mQ_qb : Int32} {mQ_qp : Int32} {mQ_qr : Int32} {mQ_qC : Int32} {mK_ks : Int32} {mK_kk : Nat → Int32} {mK_kv : Nat → Int32} {mK_kt : Nat → Int32} {mL_lm : Int32} {mL_lp : Nat → Int32} {mL_ls : Nat → Int32} {mL_li : Nat → Int32} {mL_lk : Nat → Int32} {mL_lf : Nat → Int32} {mG_gf : Int32} {mG_gv : Int32} {mG_gt : Int32} {mG_gn : Int32} {mG_gX : Nat → Int32} {mG_gY : Nat → Int32} {mG_gM : Int32} {mG_gK : Nat → Int32} {mG_gR : Nat → Int32} {v1 : Int32} {v2 : Int32} {v3 : Int32} {mR_rl : Int32} {mR_ro : Int32} {mR_rv : Int32} {mR_rs : Int32} {mR_rt : Int32} {mR_rS : Nat → Int32} {mR_rV : Nat → Int32} {mR_rM : Nat → Int32} {N : Nat} {res : MdR} (hf : f8_go N v1 v2 v3 (mQ_qc, mQ_qb, mQ_qp, mQ_qr, mQ_qC) (mK_ks, mK_kk, mK_kv, mK_kt) (mL_lm, mL_lp, mL_ls, mL_li, mL_lk, mL_lf) (mG_gf, mG_gv, mG_gt, mG_gn, mG_gX, mG_gY, mG_gM, mG_gK, mG_gR) (mR_rl, mR_ro, mR_rv, mR_rs, mR_rt, mR_rS, mR_rV, mR_rM) = some res) : MV V l yX8_go cX8_go 5 3 72 [.ref (ad 0), .int v1, .int v2, .int v3] (wM V ad mT (mQ_qc, mQ_qb, mQ_qp, mQ_qr, mQ_qC) (mK_ks, mK_kk, mK_kv, mK_kt) mN mP (mL_lm, mL_lp, mL_ls, mL_li, mL_lk, mL_lf) mH (mR_rl, mR_ro, mR_rv, mR_rs, mR_rt, mR_rS, mR_rV, mR_rM) (mG_gf, mG_gv, mG_gt, mG_gn, mG_gX, mG_gY, mG_gM, mG_gK, mG_gR)) (wM V ad mT (mQ_qc, mQ_qb, mQ_qp, mQ_qr, mQ_qC) (mK_ks, mK_kk, mK_kv, mK_kt) mN mP (mL_lm, mL_lp, mL_ls, mL_li, mL_lk, mL_lf) mH res (mG_gf, mG_gv, mG_gt, mG_gn, mG_gX, mG_gY, mG_gM, mG_gK, mG_gR)) :=
  mv_of hl0 (by decide +kernel) (Nat.le_of_ble_eq_true rfl) (fun p e R s m args below meth c Q A C K => b8_go C hf K)

theorem cm8_375 : ∀ a ∈ wsCV RX8 375 RX8 yX8_go cX8_go 5 none, a ∈ GW := by
  unfold wsCV
  exact (List.forall_mem_cons.mpr ⟨(gw_6 (i := 145) (by decide +kernel) rfl), (List.forall_mem_cons.mpr ⟨(gw_6 (i := 147) (by decide +kernel) rfl), (List.forall_mem_cons.mpr ⟨(gw_p (q := ((yX8_go, 63) : MethodName × Nat)) (List.mem_append_right _ (List.mem_append_right _ (List.mem_append_right _ (List.mem_append_right _ (List.mem_append_right _ (List.mem_append_right _ (List.mem_of_getElem? (i := 4) (by decide +kernel)))))))) rfl), (List.forall_mem_cons.mpr ⟨(gw_1 (i := 9) (by decide +kernel) rfl), (List.forall_mem_cons.mpr ⟨(gw_6 (i := 148) (by decide +kernel) rfl), (List.forall_mem_nil _)⟩)⟩)⟩)⟩)⟩)
theorem ok8_run : okCV RX8 yX8_run 3 := by unfold okCV; decide +kernel
def f8_run (N : Nat) (v1 : Int32) (v2 : Int32) (v3 : Int32) : MdK → MdL → MdQ → MdR → MdG → Option (Int32 × MdQ × MdR × MdG)
  | (mK_ks, mK_kk, mK_kv, mK_kt), (mL_lm, mL_lp, mL_ls, mL_li, mL_lk, mL_lf), (mQ_qc, mQ_qb, mQ_qp, mQ_qr, mQ_qC), (mR_rl, mR_ro, mR_rv, mR_rs, mR_rt, mR_rS, mR_rV, mR_rM), (mG_gf, mG_gv, mG_gt, mG_gn, mG_gX, mG_gY, mG_gM, mG_gK, mG_gR) =>
    if mQ_qc = 0 then (f8_fail (1 : Int32) (mQ_qc, mQ_qb, mQ_qp, mQ_qr, (0 : Int32))).bind fun (r_25, (mQ_qc_26, mQ_qb_27, mQ_qp_28, mQ_qr_29, mQ_qC_30)) => some (r_25, (mQ_qc_26, mQ_qb_27, mQ_qp_28, mQ_qr_29, mQ_qC_30), (mR_rl, mR_ro, mR_rv, mR_rs, mR_rt, mR_rS, mR_rV, mR_rM), (mG_gf, mG_gv, mG_gt, mG_gn, mG_gX, mG_gY, mG_gM, mG_gK, mG_gR)) else if v1 < 0 then (f8_fail (2 : Int32) (mQ_qc, mQ_qb, mQ_qp, mQ_qr, (0 : Int32))).bind fun (r_2, (mQ_qc_3, mQ_qb_4, mQ_qp_5, mQ_qr_6, mQ_qC_7)) => some (r_2, (mQ_qc_3, mQ_qb_4, mQ_qp_5, mQ_qr_6, mQ_qC_7), (mR_rl, mR_ro, mR_rv, mR_rs, mR_rt, mR_rS, mR_rV, mR_rM), (mG_gf, mG_gv, mG_gt, mG_gn, mG_gX, mG_gY, mG_gM, mG_gK, mG_gR)) else if v1 ≤ mL_lm then (f8_go N v1 v2 v3 (mQ_qc, mQ_qb, mQ_qp, mQ_qr, (0 : Int32)) (mK_ks, mK_kk, mK_kv, mK_kt) (mL_lm, mL_lp, mL_ls, mL_li, mL_lk, mL_lf) (mG_gf, mG_gv, mG_gt, mG_gn, mG_gX, mG_gY, mG_gM, mG_gK, mG_gR) (mR_rl, mR_ro, mR_rv, mR_rs, mR_rt, mR_rS, mR_rV, mR_rM)).bind fun (mR_rl_9, mR_ro_10, mR_rv_11, mR_rs_12, mR_rt_13, mR_rS_14, mR_rV_15, mR_rM_16) => some (mR_ro_10, (mQ_qc, mQ_qb, mQ_qp, mQ_qr, (0 : Int32)), (mR_rl_9, mR_ro_10, mR_rv_11, mR_rs_12, mR_rt_13, mR_rS_14, mR_rV_15, mR_rM_16), (mG_gf, mR_rv_11, mR_rs_12, mG_gn, mG_gX, mG_gY, mG_gM, mG_gK, mG_gR)) else (f8_fail (2 : Int32) (mQ_qc, mQ_qb, mQ_qp, mQ_qr, (0 : Int32))).bind fun (r_18, (mQ_qc_19, mQ_qb_20, mQ_qp_21, mQ_qr_22, mQ_qC_23)) => some (r_18, (mQ_qc_19, mQ_qb_20, mQ_qp_21, mQ_qr_22, mQ_qC_23), (mR_rl, mR_ro, mR_rv, mR_rs, mR_rt, mR_rS, mR_rV, mR_rM), (mG_gf, mG_gv, mG_gt, mG_gn, mG_gX, mG_gY, mG_gM, mG_gK, mG_gR))
set_option maxHeartbeats 4000000 in
set_option maxRecDepth 100000 in
theorem b8_run {V : EV} {p : Program} {l : Launch} {e : Env} {R : Room} {s : State} {m : MethodId} {args : Array Value} {below : List Frame} {meth : Method} {c : Code} {Q : State → Prop} {A : Nat → Prop} {kc ks : Nat} {ad : Nat → Nat} {mT : MdT} {mN : MdN} {mP : MdP} {mH : MdH} {mK_ks : Int32} {mK_kk : Nat → Int32} {mK_kv : Nat → Int32} {mK_kt : Nat → Int32} {mL_lm : Int32} {mL_lp : Nat → Int32} {mL_ls : Nat → Int32} {mL_li : Nat → Int32} {mL_lk : Nat → Int32} {mL_lf : Nat → Int32} {v1 : Int32} {v2 : Int32} {v3 : Int32} {mQ_qc : Int32} {mQ_qb : Int32} {mQ_qp : Int32} {mQ_qr : Int32} {mQ_qC : Int32} {mR_rl : Int32} {mR_ro : Int32} {mR_rv : Int32} {mR_rs : Int32} {mR_rt : Int32} {mR_rS : Nat → Int32} {mR_rV : Nat → Int32} {mR_rM : Nat → Int32} {mG_gf : Int32} {mG_gv : Int32} {mG_gt : Int32} {mG_gn : Int32} {mG_gX : Nat → Int32} {mG_gY : Nat → Int32} {mG_gM : Int32} {mG_gK : Nat → Int32} {mG_gR : Nat → Int32} {N : Nat} {res : Int32 × MdQ × MdR × MdG} (C : CX V p l R s m args c A kc ks RX8 cX8_run 4 4 96) (hf : f8_run N v1 v2 v3 (mK_ks, mK_kk, mK_kv, mK_kt) (mL_lm, mL_lp, mL_ls, mL_li, mL_lk, mL_lf) (mQ_qc, mQ_qb, mQ_qp, mQ_qr, mQ_qC) (mR_rl, mR_ro, mR_rv, mR_rs, mR_rt, mR_rS, mR_rV, mR_rM) (mG_gf, mG_gv, mG_gt, mG_gn, mG_gX, mG_gY, mG_gM, mG_gK, mG_gR) = some res) (K : RI V p l e R s m args below meth c Q A kc ks 4 cX8_run .int res.1 (wM V ad mT res.2.1 (mK_ks, mK_kk, mK_kv, mK_kt) mN mP (mL_lm, mL_lp, mL_ls, mL_li, mL_lk, mL_lf) mH res.2.2.1 res.2.2.2)) : WC V p l e R s m args below meth c Q A kc ks 4 (wM V ad mT (mQ_qc, mQ_qb, mQ_qp, mQ_qr, mQ_qC) (mK_ks, mK_kk, mK_kv, mK_kt) mN mP (mL_lm, mL_lp, mL_ls, mL_li, mL_lk, mL_lf) mH (mR_rl, mR_ro, mR_rv, mR_rs, mR_rt, mR_rS, mR_rV, mR_rM) (mG_gf, mG_gv, mG_gt, mG_gn, mG_gX, mG_gY, mG_gM, mG_gK, mG_gR)) 0 [(0, .ref (ad 0)), (1, .int v1), (2, .int v2), (3, .int v3)] [] := by
  rw [f8_run] at hf
  refine k_aload_n C dX8_run_0 0 rfl ?_
  refine k_iconst (v := (0 : Int32)) C dX8_run_1 (by decide) ?_
  refine p8_126 C dX8_run_2 ?_
  refine k_aload_n C dX8_run_5 0 rfl ?_
  refine g8_265 C dX8_run_6 ?_
  refine k_if_ne C 18 dX8_run_9 (by decide) (fun hc => ?_) (fun hc => ?_)
  · replace hf := (if_neg hc).symm.trans hf
    refine k_iload_n C dX8_run_18 1 rfl ?_
    refine k_if_lt C 30 dX8_run_19 (by decide) (fun hc => ?_) (fun hc => ?_)
    · replace hf := (if_pos hc).symm.trans hf
      refine k_aload_n C dX8_run_30 0 rfl ?_
      refine k_iconst (v := (2 : Int32)) C dX8_run_31 (by decide) ?_
      obtain ⟨⟨r_2, ⟨mQ_qc_3, mQ_qb_4, mQ_qp_5, mQ_qr_6, mQ_qC_7⟩⟩, hq_1, hf⟩ := ob_el hf
      dsimp only at hf
      refine k_callVi C (c8_fail C.2.2.2.2.2.2.2.2.2.1 hq_1) cm8_255 ok8_fail (by decide) 0 rfl rfl rfl rfl (Nat.le_of_ble_eq_true rfl) dX8_run_32 ?_
      cases hf
      exact K _ _ dX8_run_35 rfl
    · replace hf := (if_neg hc).symm.trans hf
      refine k_iload_n C dX8_run_22 1 rfl ?_
      refine k_aload_n C dX8_run_23 0 rfl ?_
      refine g8_262 C dX8_run_24 ?_
      refine k_icmp_le C 36 dX8_run_27 (by decide) (fun hc => ?_) (fun hc => ?_)
      · replace hf := (if_pos hc).symm.trans hf
        refine k_aload_n C dX8_run_36 0 rfl ?_
        refine k_iload_n C dX8_run_37 1 rfl ?_
        refine k_iload_n C dX8_run_38 2 rfl ?_
        refine k_iload_n C dX8_run_39 3 rfl ?_
        obtain ⟨⟨mR_rl_9, mR_ro_10, mR_rv_11, mR_rs_12, mR_rt_13, mR_rS_14, mR_rV_15, mR_rM_16⟩, hq_8, hf⟩ := ob_el hf
        dsimp only at hf
        refine k_callVv C (c8_go C.2.2.2.2.2.2.2.2.2.1 hq_8) cm8_375 ok8_go (by decide) 0 rfl rfl rfl rfl (Nat.le_of_ble_eq_true rfl) dX8_run_40 ?_
        refine k_aload_n C dX8_run_43 0 rfl ?_
        refine k_aload_n C dX8_run_44 0 rfl ?_
        refine g8_344 C dX8_run_45 ?_
        refine p8_274 C dX8_run_48 ?_
        refine k_aload_n C dX8_run_51 0 rfl ?_
        refine k_aload_n C dX8_run_52 0 rfl ?_
        refine g8_350 C dX8_run_53 ?_
        refine p8_277 C dX8_run_56 ?_
        refine k_aload_n C dX8_run_59 0 rfl ?_
        refine g8_341 C dX8_run_60 ?_
        cases hf
        exact K _ _ dX8_run_63 rfl
      · replace hf := (if_neg hc).symm.trans hf
        refine k_aload_n C dX8_run_30 0 rfl ?_
        refine k_iconst (v := (2 : Int32)) C dX8_run_31 (by decide) ?_
        obtain ⟨⟨r_18, ⟨mQ_qc_19, mQ_qb_20, mQ_qp_21, mQ_qr_22, mQ_qC_23⟩⟩, hq_17, hf⟩ := ob_el hf
        dsimp only at hf
        refine k_callVi C (c8_fail C.2.2.2.2.2.2.2.2.2.1 hq_17) cm8_255 ok8_fail (by decide) 0 rfl rfl rfl rfl (Nat.le_of_ble_eq_true rfl) dX8_run_32 ?_
        cases hf
        exact K _ _ dX8_run_35 rfl
  · replace hf := (if_pos hc).symm.trans hf
    refine k_aload_n C dX8_run_12 0 rfl ?_
    refine k_iconst (v := (1 : Int32)) C dX8_run_13 (by decide) ?_
    obtain ⟨⟨r_25, ⟨mQ_qc_26, mQ_qb_27, mQ_qp_28, mQ_qr_29, mQ_qC_30⟩⟩, hq_24, hf⟩ := ob_el hf
    dsimp only at hf
    refine k_callVi C (c8_fail C.2.2.2.2.2.2.2.2.2.1 hq_24) cm8_255 ok8_fail (by decide) 0 rfl rfl rfl rfl (Nat.le_of_ble_eq_true rfl) dX8_run_14 ?_
    cases hf
    exact K _ _ dX8_run_17 rfl
theorem c8_run {V : EV} {l : Launch} (hl0 : l.stackTraces = false) {ad : Nat → Nat} {mT : MdT} {mN : MdN} {mP : MdP} {mH : MdH} {mK_ks : Int32} {mK_kk : Nat → Int32} {mK_kv : Nat → Int32} {mK_kt : Nat → Int32} {mL_lm : Int32} {mL_lp : Nat → Int32} {mL_ls : Nat → Int32} {mL_li : Nat → Int32} {mL_lk : Nat → Int32} {mL_lf : Nat → Int32} {v1 : Int32} {v2 : Int32} {v3 : Int32} {mQ_qc : Int32} {mQ_qb : Int32} {mQ_qp : Int32} {mQ_qr : Int32} {mQ_qC : Int32} {mR_rl : Int32} {mR_ro : Int32} {mR_rv : Int32} {mR_rs : Int32} {mR_rt : Int32} {mR_rS : Nat → Int32} {mR_rV : Nat → Int32} {mR_rM : Nat → Int32} {mG_gf : Int32} {mG_gv : Int32} {mG_gt : Int32} {mG_gn : Int32} {mG_gX : Nat → Int32} {mG_gY : Nat → Int32} {mG_gM : Int32} {mG_gK : Nat → Int32} {mG_gR : Nat → Int32} {N : Nat} {res : Int32 × MdQ × MdR × MdG} (hf : f8_run N v1 v2 v3 (mK_ks, mK_kk, mK_kv, mK_kt) (mL_lm, mL_lp, mL_ls, mL_li, mL_lk, mL_lf) (mQ_qc, mQ_qb, mQ_qp, mQ_qr, mQ_qC) (mR_rl, mR_ro, mR_rv, mR_rs, mR_rt, mR_rS, mR_rV, mR_rM) (mG_gf, mG_gv, mG_gt, mG_gn, mG_gX, mG_gY, mG_gM, mG_gK, mG_gR) = some res) : MI V l yX8_run cX8_run 4 .int 4 96 [.ref (ad 0), .int v1, .int v2, .int v3] (wM V ad mT (mQ_qc, mQ_qb, mQ_qp, mQ_qr, mQ_qC) (mK_ks, mK_kk, mK_kv, mK_kt) mN mP (mL_lm, mL_lp, mL_ls, mL_li, mL_lk, mL_lf) mH (mR_rl, mR_ro, mR_rv, mR_rs, mR_rt, mR_rS, mR_rV, mR_rM) (mG_gf, mG_gv, mG_gt, mG_gn, mG_gX, mG_gY, mG_gM, mG_gK, mG_gR)) res.1 (wM V ad mT res.2.1 (mK_ks, mK_kk, mK_kv, mK_kt) mN mP (mL_lm, mL_lp, mL_ls, mL_li, mL_lk, mL_lf) mH res.2.2.1 res.2.2.2) :=
  mi_of hl0 (by decide +kernel) (Nat.le_of_ble_eq_true rfl) (fun p e R s m args below meth c Q A C K => b8_run C hf K)

theorem ok8_value : okCV RX8 yX8_value 0 := by unfold okCV; decide +kernel
def f8_value  : MdG → MdQ → Option (Int32 × MdQ)
  | (mG_gf, mG_gv, mG_gt, mG_gn, mG_gX, mG_gY, mG_gM, mG_gK, mG_gR), (mQ_qc, mQ_qb, mQ_qp, mQ_qr, mQ_qC) =>
    some (mG_gv, (mQ_qc, mQ_qb, mQ_qp, mQ_qr, (0 : Int32)))
set_option maxHeartbeats 4000000 in
set_option maxRecDepth 100000 in
theorem b8_value {V : EV} {p : Program} {l : Launch} {e : Env} {R : Room} {s : State} {m : MethodId} {args : Array Value} {below : List Frame} {meth : Method} {c : Code} {Q : State → Prop} {A : Nat → Prop} {kc ks : Nat} {ad : Nat → Nat} {mT : MdT} {mK : MdK} {mN : MdN} {mP : MdP} {mL : MdL} {mH : MdH} {mR : MdR} {mG_gf : Int32} {mG_gv : Int32} {mG_gt : Int32} {mG_gn : Int32} {mG_gX : Nat → Int32} {mG_gY : Nat → Int32} {mG_gM : Int32} {mG_gK : Nat → Int32} {mG_gR : Nat → Int32} {mQ_qc : Int32} {mQ_qb : Int32} {mQ_qp : Int32} {mQ_qr : Int32} {mQ_qC : Int32} {res : Int32 × MdQ} (C : CX V p l R s m args c A kc ks RX8 cX8_value 1 0 0) (hf : f8_value (mG_gf, mG_gv, mG_gt, mG_gn, mG_gX, mG_gY, mG_gM, mG_gK, mG_gR) (mQ_qc, mQ_qb, mQ_qp, mQ_qr, mQ_qC) = some res) (K : RI V p l e R s m args below meth c Q A kc ks 1 cX8_value .int res.1 (wM V ad mT res.2 mK mN mP mL mH mR (mG_gf, mG_gv, mG_gt, mG_gn, mG_gX, mG_gY, mG_gM, mG_gK, mG_gR))) : WC V p l e R s m args below meth c Q A kc ks 1 (wM V ad mT (mQ_qc, mQ_qb, mQ_qp, mQ_qr, mQ_qC) mK mN mP mL mH mR (mG_gf, mG_gv, mG_gt, mG_gn, mG_gX, mG_gY, mG_gM, mG_gK, mG_gR)) 0 [(0, .ref (ad 0))] [] := by
  rw [f8_value] at hf
  refine k_aload_n C dX8_value_0 0 rfl ?_
  refine k_iconst (v := (0 : Int32)) C dX8_value_1 (by decide) ?_
  refine p8_126 C dX8_value_2 ?_
  refine k_aload_n C dX8_value_5 0 rfl ?_
  refine g8_274 C dX8_value_6 ?_
  cases hf
  exact K _ _ dX8_value_9 rfl
theorem c8_value {V : EV} {l : Launch} (hl0 : l.stackTraces = false) {ad : Nat → Nat} {mT : MdT} {mK : MdK} {mN : MdN} {mP : MdP} {mL : MdL} {mH : MdH} {mR : MdR} {mG_gf : Int32} {mG_gv : Int32} {mG_gt : Int32} {mG_gn : Int32} {mG_gX : Nat → Int32} {mG_gY : Nat → Int32} {mG_gM : Int32} {mG_gK : Nat → Int32} {mG_gR : Nat → Int32} {mQ_qc : Int32} {mQ_qb : Int32} {mQ_qp : Int32} {mQ_qr : Int32} {mQ_qC : Int32} {res : Int32 × MdQ} (hf : f8_value (mG_gf, mG_gv, mG_gt, mG_gn, mG_gX, mG_gY, mG_gM, mG_gK, mG_gR) (mQ_qc, mQ_qb, mQ_qp, mQ_qr, mQ_qC) = some res) : MI V l yX8_value cX8_value 1 .int 0 0 [.ref (ad 0)] (wM V ad mT (mQ_qc, mQ_qb, mQ_qp, mQ_qr, mQ_qC) mK mN mP mL mH mR (mG_gf, mG_gv, mG_gt, mG_gn, mG_gX, mG_gY, mG_gM, mG_gK, mG_gR)) res.1 (wM V ad mT res.2 mK mN mP mL mH mR (mG_gf, mG_gv, mG_gt, mG_gn, mG_gX, mG_gY, mG_gM, mG_gK, mG_gR)) :=
  mi_of hl0 (by decide +kernel) (Nat.le_of_ble_eq_true rfl) (fun p e R s m args below meth c Q A C K => b8_value C hf K)

theorem ok8_took : okCV RX8 yX8_took 0 := by unfold okCV; decide +kernel
def f8_took  : MdG → MdQ → Option (Int32 × MdQ)
  | (mG_gf, mG_gv, mG_gt, mG_gn, mG_gX, mG_gY, mG_gM, mG_gK, mG_gR), (mQ_qc, mQ_qb, mQ_qp, mQ_qr, mQ_qC) =>
    some (mG_gt, (mQ_qc, mQ_qb, mQ_qp, mQ_qr, (0 : Int32)))
set_option maxHeartbeats 4000000 in
set_option maxRecDepth 100000 in
theorem b8_took {V : EV} {p : Program} {l : Launch} {e : Env} {R : Room} {s : State} {m : MethodId} {args : Array Value} {below : List Frame} {meth : Method} {c : Code} {Q : State → Prop} {A : Nat → Prop} {kc ks : Nat} {ad : Nat → Nat} {mT : MdT} {mK : MdK} {mN : MdN} {mP : MdP} {mL : MdL} {mH : MdH} {mR : MdR} {mG_gf : Int32} {mG_gv : Int32} {mG_gt : Int32} {mG_gn : Int32} {mG_gX : Nat → Int32} {mG_gY : Nat → Int32} {mG_gM : Int32} {mG_gK : Nat → Int32} {mG_gR : Nat → Int32} {mQ_qc : Int32} {mQ_qb : Int32} {mQ_qp : Int32} {mQ_qr : Int32} {mQ_qC : Int32} {res : Int32 × MdQ} (C : CX V p l R s m args c A kc ks RX8 cX8_took 1 0 0) (hf : f8_took (mG_gf, mG_gv, mG_gt, mG_gn, mG_gX, mG_gY, mG_gM, mG_gK, mG_gR) (mQ_qc, mQ_qb, mQ_qp, mQ_qr, mQ_qC) = some res) (K : RI V p l e R s m args below meth c Q A kc ks 1 cX8_took .int res.1 (wM V ad mT res.2 mK mN mP mL mH mR (mG_gf, mG_gv, mG_gt, mG_gn, mG_gX, mG_gY, mG_gM, mG_gK, mG_gR))) : WC V p l e R s m args below meth c Q A kc ks 1 (wM V ad mT (mQ_qc, mQ_qb, mQ_qp, mQ_qr, mQ_qC) mK mN mP mL mH mR (mG_gf, mG_gv, mG_gt, mG_gn, mG_gX, mG_gY, mG_gM, mG_gK, mG_gR)) 0 [(0, .ref (ad 0))] [] := by
  rw [f8_took] at hf
  refine k_aload_n C dX8_took_0 0 rfl ?_
  refine k_iconst (v := (0 : Int32)) C dX8_took_1 (by decide) ?_
  refine p8_126 C dX8_took_2 ?_
  refine k_aload_n C dX8_took_5 0 rfl ?_
  refine g8_277 C dX8_took_6 ?_
  cases hf
  exact K _ _ dX8_took_9 rfl
theorem c8_took {V : EV} {l : Launch} (hl0 : l.stackTraces = false) {ad : Nat → Nat} {mT : MdT} {mK : MdK} {mN : MdN} {mP : MdP} {mL : MdL} {mH : MdH} {mR : MdR} {mG_gf : Int32} {mG_gv : Int32} {mG_gt : Int32} {mG_gn : Int32} {mG_gX : Nat → Int32} {mG_gY : Nat → Int32} {mG_gM : Int32} {mG_gK : Nat → Int32} {mG_gR : Nat → Int32} {mQ_qc : Int32} {mQ_qb : Int32} {mQ_qp : Int32} {mQ_qr : Int32} {mQ_qC : Int32} {res : Int32 × MdQ} (hf : f8_took (mG_gf, mG_gv, mG_gt, mG_gn, mG_gX, mG_gY, mG_gM, mG_gK, mG_gR) (mQ_qc, mQ_qb, mQ_qp, mQ_qr, mQ_qC) = some res) : MI V l yX8_took cX8_took 1 .int 0 0 [.ref (ad 0)] (wM V ad mT (mQ_qc, mQ_qb, mQ_qp, mQ_qr, mQ_qC) mK mN mP mL mH mR (mG_gf, mG_gv, mG_gt, mG_gn, mG_gX, mG_gY, mG_gM, mG_gK, mG_gR)) res.1 (wM V ad mT res.2 mK mN mP mL mH mR (mG_gf, mG_gv, mG_gt, mG_gn, mG_gX, mG_gY, mG_gM, mG_gK, mG_gR)) :=
  mi_of hl0 (by decide +kernel) (Nat.le_of_ble_eq_true rfl) (fun p e R s m args below meth c Q A C K => b8_took C hf K)

theorem ok8_test : okCV RX8 yX8_test 2 := by unfold okCV; decide +kernel
def f8_test (v1 : Int32) (v2 : Int32) : MdQ → MdG → Option (Int32 × MdQ × MdG)
  | (mQ_qc, mQ_qb, mQ_qp, mQ_qr, mQ_qC), (mG_gf, mG_gv, mG_gt, mG_gn, mG_gX, mG_gY, mG_gM, mG_gK, mG_gR) =>
    if mQ_qc = 0 then (f8_fail (1 : Int32) (mQ_qc, mQ_qb, mQ_qp, mQ_qr, (0 : Int32))).bind fun (r_2, (mQ_qc_3, mQ_qb_4, mQ_qp_5, mQ_qr_6, mQ_qC_7)) => some (r_2, (mQ_qc_3, mQ_qb_4, mQ_qp_5, mQ_qr_6, mQ_qC_7), (mG_gf, mG_gv, mG_gt, mG_gn, mG_gX, mG_gY, mG_gM, mG_gK, mG_gR)) else if mG_gn = (8 : Int32) then (f8_fail (1 : Int32) (mQ_qc, mQ_qb, mQ_qp, mQ_qr, (0 : Int32))).bind fun (r_9, (mQ_qc_10, mQ_qb_11, mQ_qp_12, mQ_qr_13, mQ_qC_14)) => some (r_9, (mQ_qc_10, mQ_qb_11, mQ_qp_12, mQ_qr_13, mQ_qC_14), (mG_gf, mG_gv, mG_gt, mG_gn, mG_gX, mG_gY, mG_gM, mG_gK, mG_gR)) else if mG_gn < 0 ∨ 8 ≤ mG_gn.toNatClampNeg then none else if mG_gn < 0 ∨ 8 ≤ mG_gn.toNatClampNeg then none else some (((mG_gn + (1 : Int32)) - (1 : Int32)), (mQ_qc, mQ_qb, mQ_qp, mQ_qr, (0 : Int32)), (mG_gf, mG_gv, mG_gt, (mG_gn + (1 : Int32)), (upd mG_gX mG_gn.toNatClampNeg v1), (upd mG_gY mG_gn.toNatClampNeg v2), (0 : Int32), mG_gK, mG_gR))
set_option maxHeartbeats 4000000 in
set_option maxRecDepth 100000 in
theorem b8_test {V : EV} {p : Program} {l : Launch} {e : Env} {R : Room} {s : State} {m : MethodId} {args : Array Value} {below : List Frame} {meth : Method} {c : Code} {Q : State → Prop} {A : Nat → Prop} {kc ks : Nat} {ad : Nat → Nat} {mT : MdT} {mK : MdK} {mN : MdN} {mP : MdP} {mL : MdL} {mH : MdH} {mR : MdR} {v1 : Int32} {v2 : Int32} {mQ_qc : Int32} {mQ_qb : Int32} {mQ_qp : Int32} {mQ_qr : Int32} {mQ_qC : Int32} {mG_gf : Int32} {mG_gv : Int32} {mG_gt : Int32} {mG_gn : Int32} {mG_gX : Nat → Int32} {mG_gY : Nat → Int32} {mG_gM : Int32} {mG_gK : Nat → Int32} {mG_gR : Nat → Int32} {res : Int32 × MdQ × MdG} (C : CX V p l R s m args c A kc ks RX8 cX8_test 3 1 21) (hf : f8_test v1 v2 (mQ_qc, mQ_qb, mQ_qp, mQ_qr, mQ_qC) (mG_gf, mG_gv, mG_gt, mG_gn, mG_gX, mG_gY, mG_gM, mG_gK, mG_gR) = some res) (K : RI V p l e R s m args below meth c Q A kc ks 3 cX8_test .int res.1 (wM V ad mT res.2.1 mK mN mP mL mH mR res.2.2)) : WC V p l e R s m args below meth c Q A kc ks 3 (wM V ad mT (mQ_qc, mQ_qb, mQ_qp, mQ_qr, mQ_qC) mK mN mP mL mH mR (mG_gf, mG_gv, mG_gt, mG_gn, mG_gX, mG_gY, mG_gM, mG_gK, mG_gR)) 0 [(0, .ref (ad 0)), (1, .int v1), (2, .int v2)] [] := by
  rw [f8_test] at hf
  refine k_aload_n C dX8_test_0 0 rfl ?_
  refine k_iconst (v := (0 : Int32)) C dX8_test_1 (by decide) ?_
  refine p8_126 C dX8_test_2 ?_
  refine k_aload_n C dX8_test_5 0 rfl ?_
  refine g8_265 C dX8_test_6 ?_
  refine k_if_eq C 21 dX8_test_9 (by decide) (fun hc => ?_) (fun hc => ?_)
  · replace hf := (if_pos hc).symm.trans hf
    refine k_aload_n C dX8_test_21 0 rfl ?_
    refine k_iconst (v := (1 : Int32)) C dX8_test_22 (by decide) ?_
    obtain ⟨⟨r_2, ⟨mQ_qc_3, mQ_qb_4, mQ_qp_5, mQ_qr_6, mQ_qC_7⟩⟩, hq_1, hf⟩ := ob_el hf
    dsimp only at hf
    refine k_callVi C (c8_fail C.2.2.2.2.2.2.2.2.2.1 hq_1) cm8_255 ok8_fail (by decide) 0 rfl rfl rfl rfl (Nat.le_of_ble_eq_true rfl) dX8_test_23 ?_
    cases hf
    exact K _ _ dX8_test_26 rfl
  · replace hf := (if_neg hc).symm.trans hf
    refine k_aload_n C dX8_test_12 0 rfl ?_
    refine g8_268 C dX8_test_13 ?_
    refine k_bipush (v := (8 : Int32)) C dX8_test_16 (by decide) ?_
    refine k_icmp_ne C 27 dX8_test_18 (by decide) (fun hc => ?_) (fun hc => ?_)
    · replace hf := (if_neg hc).symm.trans hf
      refine k_aload_n C dX8_test_27 0 rfl ?_
      refine g8_114 C dX8_test_28 ?_
      refine k_aload_n C dX8_test_31 0 rfl ?_
      refine g8_268 C dX8_test_32 ?_
      refine k_iload_n C dX8_test_35 1 rfl ?_
      obtain ⟨hi, hf⟩ := gd_no hf
      refine sm34 C hi dX8_test_36 ?_
      refine k_aload_n C dX8_test_37 0 rfl ?_
      refine g8_117 C dX8_test_38 ?_
      refine k_aload_n C dX8_test_41 0 rfl ?_
      refine g8_268 C dX8_test_42 ?_
      refine k_iload_n C dX8_test_45 2 rfl ?_
      obtain ⟨hi, hf⟩ := gd_no hf
      refine sm35 C hi dX8_test_46 ?_
      refine k_aload_n C dX8_test_47 0 rfl ?_
      refine k_dup C dX8_test_48 rfl ?_
      refine g8_268 C dX8_test_49 ?_
      refine k_iconst (v := (1 : Int32)) C dX8_test_52 (by decide) ?_
      refine k_iadd C dX8_test_53 ?_
      refine p8_268 C dX8_test_54 ?_
      refine k_aload_n C dX8_test_57 0 rfl ?_
      refine k_iconst (v := (0 : Int32)) C dX8_test_58 (by decide) ?_
      refine p8_271 C (Or.inl rfl) dX8_test_59 ?_
      refine k_aload_n C dX8_test_62 0 rfl ?_
      refine g8_268 C dX8_test_63 ?_
      refine k_iconst (v := (1 : Int32)) C dX8_test_66 (by decide) ?_
      refine k_isub C dX8_test_67 ?_
      cases hf
      exact K _ _ dX8_test_68 rfl
    · replace hf := (if_pos hc).symm.trans hf
      refine k_aload_n C dX8_test_21 0 rfl ?_
      refine k_iconst (v := (1 : Int32)) C dX8_test_22 (by decide) ?_
      obtain ⟨⟨r_9, ⟨mQ_qc_10, mQ_qb_11, mQ_qp_12, mQ_qr_13, mQ_qC_14⟩⟩, hq_8, hf⟩ := ob_el hf
      dsimp only at hf
      refine k_callVi C (c8_fail C.2.2.2.2.2.2.2.2.2.1 hq_8) cm8_255 ok8_fail (by decide) 0 rfl rfl rfl rfl (Nat.le_of_ble_eq_true rfl) dX8_test_23 ?_
      cases hf
      exact K _ _ dX8_test_26 rfl
theorem c8_test {V : EV} {l : Launch} (hl0 : l.stackTraces = false) {ad : Nat → Nat} {mT : MdT} {mK : MdK} {mN : MdN} {mP : MdP} {mL : MdL} {mH : MdH} {mR : MdR} {v1 : Int32} {v2 : Int32} {mQ_qc : Int32} {mQ_qb : Int32} {mQ_qp : Int32} {mQ_qr : Int32} {mQ_qC : Int32} {mG_gf : Int32} {mG_gv : Int32} {mG_gt : Int32} {mG_gn : Int32} {mG_gX : Nat → Int32} {mG_gY : Nat → Int32} {mG_gM : Int32} {mG_gK : Nat → Int32} {mG_gR : Nat → Int32} {res : Int32 × MdQ × MdG} (hf : f8_test v1 v2 (mQ_qc, mQ_qb, mQ_qp, mQ_qr, mQ_qC) (mG_gf, mG_gv, mG_gt, mG_gn, mG_gX, mG_gY, mG_gM, mG_gK, mG_gR) = some res) : MI V l yX8_test cX8_test 3 .int 1 21 [.ref (ad 0), .int v1, .int v2] (wM V ad mT (mQ_qc, mQ_qb, mQ_qp, mQ_qr, mQ_qC) mK mN mP mL mH mR (mG_gf, mG_gv, mG_gt, mG_gn, mG_gX, mG_gY, mG_gM, mG_gK, mG_gR)) res.1 (wM V ad mT res.2.1 mK mN mP mL mH mR res.2.2) :=
  mi_of hl0 (by decide +kernel) (Nat.le_of_ble_eq_true rfl) (fun p e R s m args below meth c Q A C K => b8_test C hf K)

theorem ok8_fuel : okCV RX8 yX8_fuel 1 := by unfold okCV; decide +kernel
def f8_fuel (v1 : Int32) : MdQ → MdG → Option (Int32 × MdQ × MdG)
  | (mQ_qc, mQ_qb, mQ_qp, mQ_qr, mQ_qC), (mG_gf, mG_gv, mG_gt, mG_gn, mG_gX, mG_gY, mG_gM, mG_gK, mG_gR) =>
    if v1 < (1 : Int32) then some ((0 : Int32), (mQ_qc, mQ_qb, mQ_qp, mQ_qr, (0 : Int32)), (mG_gf, mG_gv, mG_gt, mG_gn, mG_gX, mG_gY, mG_gM, mG_gK, mG_gR)) else if v1 ≤ (50 : Int32) then some ((1 : Int32), (mQ_qc, mQ_qb, mQ_qp, mQ_qr, (0 : Int32)), (v1, mG_gv, mG_gt, mG_gn, mG_gX, mG_gY, (0 : Int32), mG_gK, mG_gR)) else some ((0 : Int32), (mQ_qc, mQ_qb, mQ_qp, mQ_qr, (0 : Int32)), (mG_gf, mG_gv, mG_gt, mG_gn, mG_gX, mG_gY, mG_gM, mG_gK, mG_gR))
set_option maxHeartbeats 4000000 in
set_option maxRecDepth 100000 in
theorem b8_fuel {V : EV} {p : Program} {l : Launch} {e : Env} {R : Room} {s : State} {m : MethodId} {args : Array Value} {below : List Frame} {meth : Method} {c : Code} {Q : State → Prop} {A : Nat → Prop} {kc ks : Nat} {ad : Nat → Nat} {mT : MdT} {mK : MdK} {mN : MdN} {mP : MdP} {mL : MdL} {mH : MdH} {mR : MdR} {v1 : Int32} {mQ_qc : Int32} {mQ_qb : Int32} {mQ_qp : Int32} {mQ_qr : Int32} {mQ_qC : Int32} {mG_gf : Int32} {mG_gv : Int32} {mG_gt : Int32} {mG_gn : Int32} {mG_gX : Nat → Int32} {mG_gY : Nat → Int32} {mG_gM : Int32} {mG_gK : Nat → Int32} {mG_gR : Nat → Int32} {res : Int32 × MdQ × MdG} (C : CX V p l R s m args c A kc ks RX8 cX8_fuel 2 0 0) (hf : f8_fuel v1 (mQ_qc, mQ_qb, mQ_qp, mQ_qr, mQ_qC) (mG_gf, mG_gv, mG_gt, mG_gn, mG_gX, mG_gY, mG_gM, mG_gK, mG_gR) = some res) (K : RI V p l e R s m args below meth c Q A kc ks 2 cX8_fuel .boolean res.1 (wM V ad mT res.2.1 mK mN mP mL mH mR res.2.2)) : WC V p l e R s m args below meth c Q A kc ks 2 (wM V ad mT (mQ_qc, mQ_qb, mQ_qp, mQ_qr, mQ_qC) mK mN mP mL mH mR (mG_gf, mG_gv, mG_gt, mG_gn, mG_gX, mG_gY, mG_gM, mG_gK, mG_gR)) 0 [(0, .ref (ad 0)), (1, .int v1)] [] := by
  rw [f8_fuel] at hf
  refine k_aload_n C dX8_fuel_0 0 rfl ?_
  refine k_iconst (v := (0 : Int32)) C dX8_fuel_1 (by decide) ?_
  refine p8_126 C dX8_fuel_2 ?_
  refine k_iload_n C dX8_fuel_5 1 rfl ?_
  refine k_iconst (v := (1 : Int32)) C dX8_fuel_6 (by decide) ?_
  refine k_icmp_lt C 16 dX8_fuel_7 (by decide) (fun hc => ?_) (fun hc => ?_)
  · replace hf := (if_pos hc).symm.trans hf
    refine k_iconst (v := (0 : Int32)) C dX8_fuel_16 (by decide) ?_
    cases hf
    exact K _ _ dX8_fuel_17 (nar_b (Or.inl rfl))
  · replace hf := (if_neg hc).symm.trans hf
    refine k_iload_n C dX8_fuel_10 1 rfl ?_
    refine k_bipush (v := (50 : Int32)) C dX8_fuel_11 (by decide) ?_
    refine k_icmp_le C 18 dX8_fuel_13 (by decide) (fun hc => ?_) (fun hc => ?_)
    · replace hf := (if_pos hc).symm.trans hf
      refine k_aload_n C dX8_fuel_18 0 rfl ?_
      refine k_iload_n C dX8_fuel_19 1 rfl ?_
      refine p8_100 C dX8_fuel_20 ?_
      refine k_aload_n C dX8_fuel_23 0 rfl ?_
      refine k_iconst (v := (0 : Int32)) C dX8_fuel_24 (by decide) ?_
      refine p8_271 C (Or.inl rfl) dX8_fuel_25 ?_
      refine k_iconst (v := (1 : Int32)) C dX8_fuel_28 (by decide) ?_
      cases hf
      exact K _ _ dX8_fuel_29 (nar_b (Or.inr rfl))
    · replace hf := (if_neg hc).symm.trans hf
      refine k_iconst (v := (0 : Int32)) C dX8_fuel_16 (by decide) ?_
      cases hf
      exact K _ _ dX8_fuel_17 (nar_b (Or.inl rfl))
theorem c8_fuel {V : EV} {l : Launch} (hl0 : l.stackTraces = false) {ad : Nat → Nat} {mT : MdT} {mK : MdK} {mN : MdN} {mP : MdP} {mL : MdL} {mH : MdH} {mR : MdR} {v1 : Int32} {mQ_qc : Int32} {mQ_qb : Int32} {mQ_qp : Int32} {mQ_qr : Int32} {mQ_qC : Int32} {mG_gf : Int32} {mG_gv : Int32} {mG_gt : Int32} {mG_gn : Int32} {mG_gX : Nat → Int32} {mG_gY : Nat → Int32} {mG_gM : Int32} {mG_gK : Nat → Int32} {mG_gR : Nat → Int32} {res : Int32 × MdQ × MdG} (hf : f8_fuel v1 (mQ_qc, mQ_qb, mQ_qp, mQ_qr, mQ_qC) (mG_gf, mG_gv, mG_gt, mG_gn, mG_gX, mG_gY, mG_gM, mG_gK, mG_gR) = some res) : MI V l yX8_fuel cX8_fuel 2 .boolean 0 0 [.ref (ad 0), .int v1] (wM V ad mT (mQ_qc, mQ_qb, mQ_qp, mQ_qr, mQ_qC) mK mN mP mL mH mR (mG_gf, mG_gv, mG_gt, mG_gn, mG_gX, mG_gY, mG_gM, mG_gK, mG_gR)) res.1 (wM V ad mT res.2.1 mK mN mP mL mH mR res.2.2) :=
  mi_of hl0 (by decide +kernel) (Nat.le_of_ble_eq_true rfl) (fun p e R s m args below meth c Q A C K => b8_fuel C hf K)

theorem ok8_matrix : okCV RX8 yX8_matrix 0 := by unfold okCV; decide +kernel
def f8_matrix_L61 (k93 : Int32 → Int32 → Int32 → Int32 → MdQ → MdR → MdG → Option (Int32 × MdQ × MdR × MdG)) (N : Nat) (mK_ks : Int32) (mK_kk : Nat → Int32) (mK_kv : Nat → Int32) (mK_kt : Nat → Int32) (mL_lm : Int32) (mL_lp : Nat → Int32) (mL_ls : Nat → Int32) (mL_li : Nat → Int32) (mL_lk : Nat → Int32) (mL_lf : Nat → Int32) : Nat → Int32 → Int32 → Int32 → Int32 → Int32 → MdQ → MdR → MdG → Option (Int32 × MdQ × MdR × MdG)
  | 0, _, _, _, _, _, _, _, _ => none
  | n + 1, x1, x2, x3, x4, x5, (mQ_qc, mQ_qb, mQ_qp, mQ_qr, mQ_qC), (mR_rl, mR_ro, mR_rv, mR_rs, mR_rt, mR_rS, mR_rV, mR_rM), (mG_gf, mG_gv, mG_gt, mG_gn, mG_gX, mG_gY, mG_gM, mG_gK, mG_gR) =>
    if (60 : Int32) ≤ x5 then k93 x1 x2 x3 x4 (mQ_qc, mQ_qb, mQ_qp, mQ_qr, mQ_qC) (mR_rl, mR_ro, mR_rv, mR_rs, mR_rt, mR_rS, mR_rV, mR_rM) (mG_gf, mG_gv, mG_gt, mG_gn, mG_gX, mG_gY, mG_gM, mG_gK, mG_gR) else if x5 < 0 ∨ 60 ≤ x5.toNatClampNeg then none else if (((60 : Int32) * x2) + x5) < 0 ∨ 480 ≤ (((60 : Int32) * x2) + x5).toNatClampNeg then none else nm_v (x5 + (1 : Int32)) (fun v5_10 => f8_matrix_L61 k93 N mK_ks mK_kk mK_kv mK_kt mL_lm mL_lp mL_ls mL_li mL_lk mL_lf n x1 x2 x3 x4 v5_10 (mQ_qc, mQ_qb, mQ_qp, mQ_qr, mQ_qC) (mR_rl, mR_ro, mR_rv, mR_rs, mR_rt, mR_rS, mR_rV, mR_rM) (mG_gf, mG_gv, mG_gt, mG_gn, mG_gX, mG_gY, mG_gM, mG_gK, (upd mG_gR (((60 : Int32) * x2) + x5).toNatClampNeg (vp_nar .boolean (mR_rM x5.toNatClampNeg)))))

def f8_matrix_L96 (k214 : Int32 → Int32 → MdQ → MdR → MdG → Option (Int32 × MdQ × MdR × MdG)) (N : Nat) (mK_ks : Int32) (mK_kk : Nat → Int32) (mK_kv : Nat → Int32) (mK_kt : Nat → Int32) (mL_lm : Int32) (mL_lp : Nat → Int32) (mL_ls : Nat → Int32) (mL_li : Nat → Int32) (mL_lk : Nat → Int32) (mL_lf : Nat → Int32) : Nat → Int32 → Int32 → Int32 → Int32 → Int32 → MdQ → MdR → MdG → Option (Int32 × MdQ × MdR × MdG)
  | 0, _, _, _, _, _, _, _, _ => none
  | n + 1, x1, x2, x3, x4, x5, (mQ_qc, mQ_qb, mQ_qp, mQ_qr, mQ_qC), (mR_rl, mR_ro, mR_rv, mR_rs, mR_rt, mR_rS, mR_rV, mR_rM), (mG_gf, mG_gv, mG_gt, mG_gn, mG_gX, mG_gY, mG_gM, mG_gK, mG_gR) =>
    if mL_lm < x5 then k214 x1 x2 (mQ_qc, mQ_qb, mQ_qp, mQ_qr, mQ_qC) (mR_rl, mR_ro, mR_rv, mR_rs, mR_rt, mR_rS, mR_rV, mR_rM) (mG_gf, mG_gv, mG_gt, mG_gn, mG_gX, mG_gY, mG_gM, mG_gK, mG_gR) else if (((121 : Int32) * x2) + x5) < 0 ∨ 968 ≤ (((121 : Int32) * x2) + x5).toNatClampNeg then none else if x5 < 0 ∨ 121 ≤ x5.toNatClampNeg then none else if (mL_lk x5.toNatClampNeg) = x5 then if x5 < 0 ∨ 121 ≤ x5.toNatClampNeg then none else if (((60 : Int32) * x2) + (mL_lp x5.toNatClampNeg)) < 0 ∨ 480 ≤ (((60 : Int32) * x2) + (mL_lp x5.toNatClampNeg)).toNatClampNeg then none else if (mG_gR (((60 : Int32) * x2) + (mL_lp x5.toNatClampNeg)).toNatClampNeg) = 0 then nm_v (x5 + (1 : Int32)) (fun v5_26 => f8_matrix_L96 k214 N mK_ks mK_kk mK_kv mK_kt mL_lm mL_lp mL_ls mL_li mL_lk mL_lf n x1 x2 x3 x4 v5_26 (mQ_qc, mQ_qb, mQ_qp, mQ_qr, mQ_qC) (mR_rl, mR_ro, mR_rv, mR_rs, mR_rt, mR_rS, mR_rV, mR_rM) (mG_gf, mG_gv, mG_gt, mG_gn, mG_gX, mG_gY, mG_gM, (upd mG_gK (((121 : Int32) * x2) + x5).toNatClampNeg (vp_nar .boolean (0 : Int32))), mG_gR)) else if x2 < 0 ∨ 8 ≤ x2.toNatClampNeg then none else if x2 < 0 ∨ 8 ≤ x2.toNatClampNeg then none else (f8_go N x5 (mG_gX x2.toNatClampNeg) (mG_gY x2.toNatClampNeg) (mQ_qc, mQ_qb, mQ_qp, mQ_qr, mQ_qC) (mK_ks, mK_kk, mK_kv, mK_kt) (mL_lm, mL_lp, mL_ls, mL_li, mL_lk, mL_lf) (mG_gf, mG_gv, mG_gt, mG_gn, mG_gX, mG_gY, mG_gM, (upd mG_gK (((121 : Int32) * x2) + x5).toNatClampNeg (vp_nar .boolean (0 : Int32))), mG_gR) (mR_rl, mR_ro, mR_rv, mR_rs, mR_rt, mR_rS, mR_rV, mR_rM)).bind fun (mR_rl_14, mR_ro_15, mR_rv_16, mR_rs_17, mR_rt_18, mR_rS_19, mR_rV_20, mR_rM_21) => nm_v (x1 + (1 : Int32)) (fun v1_22 => if mR_ro_15 = x3 then if mR_rv_16 = x4 then if (((121 : Int32) * x2) + x5) < 0 ∨ 968 ≤ (((121 : Int32) * x2) + x5).toNatClampNeg then none else nm_v (x5 + (1 : Int32)) (fun v5_24 => f8_matrix_L96 k214 N mK_ks mK_kk mK_kv mK_kt mL_lm mL_lp mL_ls mL_li mL_lk mL_lf n v1_22 x2 x3 x4 v5_24 (mQ_qc, mQ_qb, mQ_qp, mQ_qr, mQ_qC) (mR_rl_14, mR_ro_15, mR_rv_16, mR_rs_17, mR_rt_18, mR_rS_19, mR_rV_20, mR_rM_21) (mG_gf, mG_gv, mG_gt, mG_gn, mG_gX, mG_gY, mG_gM, (upd (upd mG_gK (((121 : Int32) * x2) + x5).toNatClampNeg (vp_nar .boolean (0 : Int32))) (((121 : Int32) * x2) + x5).toNatClampNeg (vp_nar .boolean (0 : Int32))), mG_gR)) else if (((121 : Int32) * x2) + x5) < 0 ∨ 968 ≤ (((121 : Int32) * x2) + x5).toNatClampNeg then none else nm_v (x5 + (1 : Int32)) (fun v5_25 => f8_matrix_L96 k214 N mK_ks mK_kk mK_kv mK_kt mL_lm mL_lp mL_ls mL_li mL_lk mL_lf n v1_22 x2 x3 x4 v5_25 (mQ_qc, mQ_qb, mQ_qp, mQ_qr, mQ_qC) (mR_rl_14, mR_ro_15, mR_rv_16, mR_rs_17, mR_rt_18, mR_rS_19, mR_rV_20, mR_rM_21) (mG_gf, mG_gv, mG_gt, mG_gn, mG_gX, mG_gY, mG_gM, (upd (upd mG_gK (((121 : Int32) * x2) + x5).toNatClampNeg (vp_nar .boolean (0 : Int32))) (((121 : Int32) * x2) + x5).toNatClampNeg (vp_nar .boolean (1 : Int32))), mG_gR)) else if (((121 : Int32) * x2) + x5) < 0 ∨ 968 ≤ (((121 : Int32) * x2) + x5).toNatClampNeg then none else nm_v (x5 + (1 : Int32)) (fun v5_23 => f8_matrix_L96 k214 N mK_ks mK_kk mK_kv mK_kt mL_lm mL_lp mL_ls mL_li mL_lk mL_lf n v1_22 x2 x3 x4 v5_23 (mQ_qc, mQ_qb, mQ_qp, mQ_qr, mQ_qC) (mR_rl_14, mR_ro_15, mR_rv_16, mR_rs_17, mR_rt_18, mR_rS_19, mR_rV_20, mR_rM_21) (mG_gf, mG_gv, mG_gt, mG_gn, mG_gX, mG_gY, mG_gM, (upd (upd mG_gK (((121 : Int32) * x2) + x5).toNatClampNeg (vp_nar .boolean (0 : Int32))) (((121 : Int32) * x2) + x5).toNatClampNeg (vp_nar .boolean (1 : Int32))), mG_gR))) else nm_v (x5 + (1 : Int32)) (fun v5_12 => f8_matrix_L96 k214 N mK_ks mK_kk mK_kv mK_kt mL_lm mL_lp mL_ls mL_li mL_lk mL_lf n x1 x2 x3 x4 v5_12 (mQ_qc, mQ_qb, mQ_qp, mQ_qr, mQ_qC) (mR_rl, mR_ro, mR_rv, mR_rs, mR_rt, mR_rS, mR_rV, mR_rM) (mG_gf, mG_gv, mG_gt, mG_gn, mG_gX, mG_gY, mG_gM, (upd mG_gK (((121 : Int32) * x2) + x5).toNatClampNeg (vp_nar .boolean (0 : Int32))), mG_gR))

def f8_matrix_L22 (k220 : Int32 → MdQ → MdR → MdG → Option (Int32 × MdQ × MdR × MdG)) (N : Nat) (mK_ks : Int32) (mK_kk : Nat → Int32) (mK_kv : Nat → Int32) (mK_kt : Nat → Int32) (mL_lm : Int32) (mL_lp : Nat → Int32) (mL_ls : Nat → Int32) (mL_li : Nat → Int32) (mL_lk : Nat → Int32) (mL_lf : Nat → Int32) : Nat → Int32 → Int32 → MdQ → MdR → MdG → Option (Int32 × MdQ × MdR × MdG)
  | 0, _, _, _, _, _ => none
  | n + 1, x1, x2, (mQ_qc, mQ_qb, mQ_qp, mQ_qr, mQ_qC), (mR_rl, mR_ro, mR_rv, mR_rs, mR_rt, mR_rS, mR_rV, mR_rM), (mG_gf, mG_gv, mG_gt, mG_gn, mG_gX, mG_gY, mG_gM, mG_gK, mG_gR) =>
    if mG_gn ≤ x2 then k220 x1 (mQ_qc, mQ_qb, mQ_qp, mQ_qr, mQ_qC) (mR_rl, mR_ro, mR_rv, mR_rs, mR_rt, mR_rS, mR_rV, mR_rM) (mG_gf, mG_gv, mG_gt, mG_gn, mG_gX, mG_gY, mG_gM, mG_gK, mG_gR) else if x2 < 0 ∨ 8 ≤ x2.toNatClampNeg then none else if x2 < 0 ∨ 8 ≤ x2.toNatClampNeg then none else (f8_go N (0 : Int32) (mG_gX x2.toNatClampNeg) (mG_gY x2.toNatClampNeg) (mQ_qc, mQ_qb, mQ_qp, mQ_qr, mQ_qC) (mK_ks, mK_kk, mK_kv, mK_kt) (mL_lm, mL_lp, mL_ls, mL_li, mL_lk, mL_lf) (mG_gf, mG_gv, mG_gt, mG_gn, mG_gX, mG_gY, mG_gM, mG_gK, mG_gR) (mR_rl, mR_ro, mR_rv, mR_rs, mR_rt, mR_rS, mR_rV, mR_rM)).bind fun (mR_rl_2, mR_ro_3, mR_rv_4, mR_rs_5, mR_rt_6, mR_rS_7, mR_rV_8, mR_rM_9) => f8_matrix_L61 (fun x1_11 x2_11 x3_11 x4_11 (mQ_qc_11, mQ_qb_11, mQ_qp_11, mQ_qr_11, mQ_qC_11) (mR_rl_11, mR_ro_11, mR_rv_11, mR_rs_11, mR_rt_11, mR_rS_11, mR_rV_11, mR_rM_11) (mG_gf_11, mG_gv_11, mG_gt_11, mG_gn_11, mG_gX_11, mG_gY_11, mG_gM_11, mG_gK_11, mG_gR_11) => f8_matrix_L96 (fun x1_27 x2_27 (mQ_qc_27, mQ_qb_27, mQ_qp_27, mQ_qr_27, mQ_qC_27) (mR_rl_27, mR_ro_27, mR_rv_27, mR_rs_27, mR_rt_27, mR_rS_27, mR_rV_27, mR_rM_27) (mG_gf_27, mG_gv_27, mG_gt_27, mG_gn_27, mG_gX_27, mG_gY_27, mG_gM_27, mG_gK_27, mG_gR_27) => nm_v (x2_27 + (1 : Int32)) (fun v2_28 => f8_matrix_L22 k220 N mK_ks mK_kk mK_kv mK_kt mL_lm mL_lp mL_ls mL_li mL_lk mL_lf n x1_27 v2_28 (mQ_qc_27, mQ_qb_27, mQ_qp_27, mQ_qr_27, mQ_qC_27) (mR_rl_27, mR_ro_27, mR_rv_27, mR_rs_27, mR_rt_27, mR_rS_27, mR_rV_27, mR_rM_27) (mG_gf_27, mG_gv_27, mG_gt_27, mG_gn_27, mG_gX_27, mG_gY_27, mG_gM_27, mG_gK_27, mG_gR_27))) N mK_ks mK_kk mK_kv mK_kt mL_lm mL_lp mL_ls mL_li mL_lk mL_lf N x1_11 x2_11 x3_11 x4_11 (1 : Int32) (mQ_qc_11, mQ_qb_11, mQ_qp_11, mQ_qr_11, mQ_qC_11) (mR_rl_11, mR_ro_11, mR_rv_11, mR_rs_11, mR_rt_11, mR_rS_11, mR_rV_11, mR_rM_11) (mG_gf_11, mG_gv_11, mG_gt_11, mG_gn_11, mG_gX_11, mG_gY_11, mG_gM_11, mG_gK_11, mG_gR_11)) N mK_ks mK_kk mK_kv mK_kt mL_lm mL_lp mL_ls mL_li mL_lk mL_lf N x1 x2 mR_ro_3 mR_rv_4 (0 : Int32) (mQ_qc, mQ_qb, mQ_qp, mQ_qr, mQ_qC) (mR_rl_2, mR_ro_3, mR_rv_4, mR_rs_5, mR_rt_6, mR_rS_7, mR_rV_8, mR_rM_9) (mG_gf, mG_gv, mG_gt, mG_gn, mG_gX, mG_gY, mG_gM, mG_gK, mG_gR)
def f8_matrix (N : Nat)  : MdK → MdL → MdQ → MdR → MdG → Option (Int32 × MdQ × MdR × MdG)
  | (mK_ks, mK_kk, mK_kv, mK_kt), (mL_lm, mL_lp, mL_ls, mL_li, mL_lk, mL_lf), (mQ_qc, mQ_qb, mQ_qp, mQ_qr, mQ_qC), (mR_rl, mR_ro, mR_rv, mR_rs, mR_rt, mR_rS, mR_rV, mR_rM), (mG_gf, mG_gv, mG_gt, mG_gn, mG_gX, mG_gY, mG_gM, mG_gK, mG_gR) =>
    if mQ_qc = 0 then (f8_fail (1 : Int32) (mQ_qc, mQ_qb, mQ_qp, mQ_qr, (0 : Int32))).bind fun (r_31, (mQ_qc_32, mQ_qb_33, mQ_qp_34, mQ_qr_35, mQ_qC_36)) => some (r_31, (mQ_qc_32, mQ_qb_33, mQ_qp_34, mQ_qr_35, mQ_qC_36), (mR_rl, mR_ro, mR_rv, mR_rs, mR_rt, mR_rS, mR_rV, mR_rM), (mG_gf, mG_gv, mG_gt, mG_gn, mG_gX, mG_gY, mG_gM, mG_gK, mG_gR)) else f8_matrix_L22 (fun x1_29 (mQ_qc_29, mQ_qb_29, mQ_qp_29, mQ_qr_29, mQ_qC_29) (mR_rl_29, mR_ro_29, mR_rv_29, mR_rs_29, mR_rt_29, mR_rS_29, mR_rV_29, mR_rM_29) (mG_gf_29, mG_gv_29, mG_gt_29, mG_gn_29, mG_gX_29, mG_gY_29, mG_gM_29, mG_gK_29, mG_gR_29) => some (x1_29, (mQ_qc_29, mQ_qb_29, mQ_qp_29, mQ_qr_29, mQ_qC_29), (mR_rl_29, mR_ro_29, mR_rv_29, mR_rs_29, mR_rt_29, mR_rS_29, mR_rV_29, mR_rM_29), (mG_gf_29, mG_gv_29, mG_gt_29, mG_gn_29, mG_gX_29, mG_gY_29, (1 : Int32), mG_gK_29, mG_gR_29))) N mK_ks mK_kk mK_kv mK_kt mL_lm mL_lp mL_ls mL_li mL_lk mL_lf N (0 : Int32) (0 : Int32) (mQ_qc, mQ_qb, mQ_qp, mQ_qr, (0 : Int32)) (mR_rl, mR_ro, mR_rv, mR_rs, mR_rt, mR_rS, mR_rV, mR_rM) (mG_gf, mG_gv, mG_gt, mG_gn, mG_gX, mG_gY, mG_gM, mG_gK, mG_gR)
set_option maxHeartbeats 4000000 in
set_option maxRecDepth 100000 in
theorem w8_matrix_L61 {V : EV} {p : Program} {l : Launch} {e : Env} {R : Room} {s : State} {m : MethodId} {args : Array Value} {below : List Frame} {meth : Method} {c : Code} {Q : State → Prop} {A : Nat → Prop} {kc ks : Nat} {ad : Nat → Nat} {mT : MdT} {mN : MdN} {mP : MdP} {mH : MdH} {mK_ks : Int32} {mK_kk : Nat → Int32} {mK_kv : Nat → Int32} {mK_kt : Nat → Int32} {mL_lm : Int32} {mL_lp : Nat → Int32} {mL_ls : Nat → Int32} {mL_li : Nat → Int32} {mL_lk : Nat → Int32} {mL_lf : Nat → Int32} {k93 : Int32 → Int32 → Int32 → Int32 → MdQ → MdR → MdG → Option (Int32 × MdQ × MdR × MdG)} {N : Nat} {res : Int32 × MdQ × MdR × MdG} (C : CX V p l R s m args c A kc ks RX8 cX8_matrix 6 4 96) (K : RI V p l e R s m args below meth c Q A kc ks 6 cX8_matrix .int res.1 (wM V ad mT res.2.1 (mK_ks, mK_kk, mK_kv, mK_kt) mN mP (mL_lm, mL_lp, mL_ls, mL_li, mL_lk, mL_lf) mH res.2.2.1 res.2.2.2)) (hk93 : ∀ (x1 : Int32) (x2 : Int32) (x3 : Int32) (x4 : Int32) (mQ_qc : Int32) (mQ_qb : Int32) (mQ_qp : Int32) (mQ_qr : Int32) (mQ_qC : Int32) (mR_rl : Int32) (mR_ro : Int32) (mR_rv : Int32) (mR_rs : Int32) (mR_rt : Int32) (mR_rS : Nat → Int32) (mR_rV : Nat → Int32) (mR_rM : Nat → Int32) (mG_gf : Int32) (mG_gv : Int32) (mG_gt : Int32) (mG_gn : Int32) (mG_gX : Nat → Int32) (mG_gY : Nat → Int32) (mG_gM : Int32) (mG_gK : Nat → Int32) (mG_gR : Nat → Int32), k93 x1 x2 x3 x4 (mQ_qc, mQ_qb, mQ_qp, mQ_qr, mQ_qC) (mR_rl, mR_ro, mR_rv, mR_rs, mR_rt, mR_rS, mR_rV, mR_rM) (mG_gf, mG_gv, mG_gt, mG_gn, mG_gX, mG_gY, mG_gM, mG_gK, mG_gR) = some res → WC V p l e R s m args below meth c Q A kc ks 6 (wM V ad mT (mQ_qc, mQ_qb, mQ_qp, mQ_qr, mQ_qC) (mK_ks, mK_kk, mK_kv, mK_kt) mN mP (mL_lm, mL_lp, mL_ls, mL_li, mL_lk, mL_lf) mH (mR_rl, mR_ro, mR_rv, mR_rs, mR_rt, mR_rS, mR_rV, mR_rM) (mG_gf, mG_gv, mG_gt, mG_gn, mG_gX, mG_gY, mG_gM, mG_gK, mG_gR)) 93 [(0, .ref (ad 0)), (1, .int x1), (2, .int x2), (3, .int x3), (4, .int x4)] []) : ∀ (n : Nat) (x1 : Int32) (x2 : Int32) (x3 : Int32) (x4 : Int32) (x5 : Int32) (mQ_qc : Int32) (mQ_qb : Int32) (mQ_qp : Int32) (mQ_qr : Int32) (mQ_qC : Int32) (mR_rl : Int32) (mR_ro : Int32) (mR_rv : Int32) (mR_rs : Int32) (mR_rt : Int32) (mR_rS : Nat → Int32) (mR_rV : Nat → Int32) (mR_rM : Nat → Int32) (mG_gf : Int32) (mG_gv : Int32) (mG_gt : Int32) (mG_gn : Int32) (mG_gX : Nat → Int32) (mG_gY : Nat → Int32) (mG_gM : Int32) (mG_gK : Nat → Int32) (mG_gR : Nat → Int32), f8_matrix_L61 k93 N mK_ks mK_kk mK_kv mK_kt mL_lm mL_lp mL_ls mL_li mL_lk mL_lf n x1 x2 x3 x4 x5 (mQ_qc, mQ_qb, mQ_qp, mQ_qr, mQ_qC) (mR_rl, mR_ro, mR_rv, mR_rs, mR_rt, mR_rS, mR_rV, mR_rM) (mG_gf, mG_gv, mG_gt, mG_gn, mG_gX, mG_gY, mG_gM, mG_gK, mG_gR) = some res → WC V p l e R s m args below meth c Q A kc ks 6 (wM V ad mT (mQ_qc, mQ_qb, mQ_qp, mQ_qr, mQ_qC) (mK_ks, mK_kk, mK_kv, mK_kt) mN mP (mL_lm, mL_lp, mL_ls, mL_li, mL_lk, mL_lf) mH (mR_rl, mR_ro, mR_rv, mR_rs, mR_rt, mR_rS, mR_rV, mR_rM) (mG_gf, mG_gv, mG_gt, mG_gn, mG_gX, mG_gY, mG_gM, mG_gK, mG_gR)) 61 [(0, .ref (ad 0)), (1, .int x1), (2, .int x2), (3, .int x3), (4, .int x4), (5, .int x5)] [] := by
  intro n
  induction n with
  | zero => intro _ _ _ _ _ _ _ _ _ _ _ _ _ _ _ _ _ _ _ _ _ _ _ _ _ _ _ hf; exact nomatch (show none = some res from hf)
  | succ n ih =>
    intro x1 x2 x3 x4 x5 mQ_qc mQ_qb mQ_qp mQ_qr mQ_qC mR_rl mR_ro mR_rv mR_rs mR_rt mR_rS mR_rV mR_rM mG_gf mG_gv mG_gt mG_gn mG_gX mG_gY mG_gM mG_gK mG_gR hf
    rw [f8_matrix_L61] at hf
    refine k_iload C dX8_matrix_61 5 rfl ?_
    refine k_bipush (v := (60 : Int32)) C dX8_matrix_63 (by decide) ?_
    refine k_icmp_ge C 93 dX8_matrix_65 (by decide) (fun hc => ?_) (fun hc => ?_)
    · replace hf := (if_pos hc).symm.trans hf
      refine k_sub [0, 1, 2, 3, 4] (L' := [(0, .ref (ad 0)), (1, .int x1), (2, .int x2), (3, .int x3), (4, .int x4)]) rfl ?_
      exact hk93 _ _ _ _ _ _ _ _ _ _ _ _ _ _ _ _ _ _ _ _ _ _ _ _ _ _ hf
    · replace hf := (if_neg hc).symm.trans hf
      refine k_aload_n C dX8_matrix_68 0 rfl ?_
      refine g8_123 C dX8_matrix_69 ?_
      refine k_bipush (v := (60 : Int32)) C dX8_matrix_72 (by decide) ?_
      refine k_iload_n C dX8_matrix_74 2 rfl ?_
      refine k_imul C dX8_matrix_75 ?_
      refine k_iload C dX8_matrix_76 5 rfl ?_
      refine k_iadd C dX8_matrix_78 ?_
      refine k_aload_n C dX8_matrix_79 0 rfl ?_
      refine g8_110 C dX8_matrix_80 ?_
      refine k_iload C dX8_matrix_83 5 rfl ?_
      obtain ⟨hi, hf⟩ := gd_no hf
      refine lm33 C hi dX8_matrix_85 ?_
      obtain ⟨hi, hf⟩ := gd_no hf
      refine sm37 C hi dX8_matrix_86 ?_
      obtain ⟨v5_10, ev5_10⟩ : ∃ y : Int32, y = x5 + (1 : Int32) := ⟨_, rfl⟩
      replace hf := nm_el hf ev5_10
      refine k_iinc (v := v5_10) C dX8_matrix_87 5 rfl (by rw [ev5_10]; rfl) [(5, .int v5_10), (0, .ref (ad 0)), (1, .int x1), (2, .int x2), (3, .int x3), (4, .int x4)] (by decide) rfl ?_
      refine k_goto C 61 dX8_matrix_90 (by decide) ?_
      refine k_sub [1, 2, 3, 4, 5, 0] (L' := [(0, .ref (ad 0)), (1, .int x1), (2, .int x2), (3, .int x3), (4, .int x4), (5, .int v5_10)]) rfl ?_
      exact ih _ _ _ _ _ _ _ _ _ _ _ _ _ _ _ _ _ _ _ _ _ _ _ _ _ _ _ hf

set_option maxHeartbeats 4000000 in
set_option maxRecDepth 100000 in
theorem w8_matrix_L96 {V : EV} {p : Program} {l : Launch} {e : Env} {R : Room} {s : State} {m : MethodId} {args : Array Value} {below : List Frame} {meth : Method} {c : Code} {Q : State → Prop} {A : Nat → Prop} {kc ks : Nat} {ad : Nat → Nat} {mT : MdT} {mN : MdN} {mP : MdP} {mH : MdH} {mK_ks : Int32} {mK_kk : Nat → Int32} {mK_kv : Nat → Int32} {mK_kt : Nat → Int32} {mL_lm : Int32} {mL_lp : Nat → Int32} {mL_ls : Nat → Int32} {mL_li : Nat → Int32} {mL_lk : Nat → Int32} {mL_lf : Nat → Int32} {k214 : Int32 → Int32 → MdQ → MdR → MdG → Option (Int32 × MdQ × MdR × MdG)} {N : Nat} {res : Int32 × MdQ × MdR × MdG} (C : CX V p l R s m args c A kc ks RX8 cX8_matrix 6 4 96) (K : RI V p l e R s m args below meth c Q A kc ks 6 cX8_matrix .int res.1 (wM V ad mT res.2.1 (mK_ks, mK_kk, mK_kv, mK_kt) mN mP (mL_lm, mL_lp, mL_ls, mL_li, mL_lk, mL_lf) mH res.2.2.1 res.2.2.2)) (hk214 : ∀ (x1 : Int32) (x2 : Int32) (mQ_qc : Int32) (mQ_qb : Int32) (mQ_qp : Int32) (mQ_qr : Int32) (mQ_qC : Int32) (mR_rl : Int32) (mR_ro : Int32) (mR_rv : Int32) (mR_rs : Int32) (mR_rt : Int32) (mR_rS : Nat → Int32) (mR_rV : Nat → Int32) (mR_rM : Nat → Int32) (mG_gf : Int32) (mG_gv : Int32) (mG_gt : Int32) (mG_gn : Int32) (mG_gX : Nat → Int32) (mG_gY : Nat → Int32) (mG_gM : Int32) (mG_gK : Nat → Int32) (mG_gR : Nat → Int32), k214 x1 x2 (mQ_qc, mQ_qb, mQ_qp, mQ_qr, mQ_qC) (mR_rl, mR_ro, mR_rv, mR_rs, mR_rt, mR_rS, mR_rV, mR_rM) (mG_gf, mG_gv, mG_gt, mG_gn, mG_gX, mG_gY, mG_gM, mG_gK, mG_gR) = some res → WC V p l e R s m args below meth c Q A kc ks 6 (wM V ad mT (mQ_qc, mQ_qb, mQ_qp, mQ_qr, mQ_qC) (mK_ks, mK_kk, mK_kv, mK_kt) mN mP (mL_lm, mL_lp, mL_ls, mL_li, mL_lk, mL_lf) mH (mR_rl, mR_ro, mR_rv, mR_rs, mR_rt, mR_rS, mR_rV, mR_rM) (mG_gf, mG_gv, mG_gt, mG_gn, mG_gX, mG_gY, mG_gM, mG_gK, mG_gR)) 214 [(0, .ref (ad 0)), (1, .int x1), (2, .int x2)] []) : ∀ (n : Nat) (x1 : Int32) (x2 : Int32) (x3 : Int32) (x4 : Int32) (x5 : Int32) (mQ_qc : Int32) (mQ_qb : Int32) (mQ_qp : Int32) (mQ_qr : Int32) (mQ_qC : Int32) (mR_rl : Int32) (mR_ro : Int32) (mR_rv : Int32) (mR_rs : Int32) (mR_rt : Int32) (mR_rS : Nat → Int32) (mR_rV : Nat → Int32) (mR_rM : Nat → Int32) (mG_gf : Int32) (mG_gv : Int32) (mG_gt : Int32) (mG_gn : Int32) (mG_gX : Nat → Int32) (mG_gY : Nat → Int32) (mG_gM : Int32) (mG_gK : Nat → Int32) (mG_gR : Nat → Int32), f8_matrix_L96 k214 N mK_ks mK_kk mK_kv mK_kt mL_lm mL_lp mL_ls mL_li mL_lk mL_lf n x1 x2 x3 x4 x5 (mQ_qc, mQ_qb, mQ_qp, mQ_qr, mQ_qC) (mR_rl, mR_ro, mR_rv, mR_rs, mR_rt, mR_rS, mR_rV, mR_rM) (mG_gf, mG_gv, mG_gt, mG_gn, mG_gX, mG_gY, mG_gM, mG_gK, mG_gR) = some res → WC V p l e R s m args below meth c Q A kc ks 6 (wM V ad mT (mQ_qc, mQ_qb, mQ_qp, mQ_qr, mQ_qC) (mK_ks, mK_kk, mK_kv, mK_kt) mN mP (mL_lm, mL_lp, mL_ls, mL_li, mL_lk, mL_lf) mH (mR_rl, mR_ro, mR_rv, mR_rs, mR_rt, mR_rS, mR_rV, mR_rM) (mG_gf, mG_gv, mG_gt, mG_gn, mG_gX, mG_gY, mG_gM, mG_gK, mG_gR)) 96 [(0, .ref (ad 0)), (1, .int x1), (2, .int x2), (3, .int x3), (4, .int x4), (5, .int x5)] [] := by
  intro n
  induction n with
  | zero => intro _ _ _ _ _ _ _ _ _ _ _ _ _ _ _ _ _ _ _ _ _ _ _ _ _ _ _ hf; exact nomatch (show none = some res from hf)
  | succ n ih =>
    intro x1 x2 x3 x4 x5 mQ_qc mQ_qb mQ_qp mQ_qr mQ_qC mR_rl mR_ro mR_rv mR_rs mR_rt mR_rS mR_rV mR_rM mG_gf mG_gv mG_gt mG_gn mG_gX mG_gY mG_gM mG_gK mG_gR hf
    rw [f8_matrix_L96] at hf
    refine k_iload C dX8_matrix_96 5 rfl ?_
    refine k_aload_n C dX8_matrix_98 0 rfl ?_
    refine g8_262 C dX8_matrix_99 ?_
    refine k_icmp_gt C 214 dX8_matrix_102 (by decide) (fun hc => ?_) (fun hc => ?_)
    · replace hf := (if_pos hc).symm.trans hf
      refine k_sub [0, 1, 2] (L' := [(0, .ref (ad 0)), (1, .int x1), (2, .int x2)]) rfl ?_
      exact hk214 _ _ _ _ _ _ _ _ _ _ _ _ _ _ _ _ _ _ _ _ _ _ _ _ hf
    · replace hf := (if_neg hc).symm.trans hf
      refine k_aload_n C dX8_matrix_105 0 rfl ?_
      refine g8_120 C dX8_matrix_106 ?_
      refine k_bipush (v := (121 : Int32)) C dX8_matrix_109 (by decide) ?_
      refine k_iload_n C dX8_matrix_111 2 rfl ?_
      refine k_imul C dX8_matrix_112 ?_
      refine k_iload C dX8_matrix_113 5 rfl ?_
      refine k_iadd C dX8_matrix_115 ?_
      refine k_iconst (v := (0 : Int32)) C dX8_matrix_116 (by decide) ?_
      obtain ⟨hi, hf⟩ := gd_no hf
      refine sm36 C hi dX8_matrix_117 ?_
      refine k_aload_n C dX8_matrix_118 0 rfl ?_
      refine g8_70 C dX8_matrix_119 ?_
      refine k_iload C dX8_matrix_122 5 rfl ?_
      obtain ⟨hi, hf⟩ := gd_no hf
      refine lm21 C hi dX8_matrix_124 ?_
      refine k_iload C dX8_matrix_125 5 rfl ?_
      refine k_icmp_ne C 208 dX8_matrix_127 (by decide) (fun hc => ?_) (fun hc => ?_)
      · replace hf := (if_neg hc).symm.trans hf
        obtain ⟨v5_12, ev5_12⟩ : ∃ y : Int32, y = x5 + (1 : Int32) := ⟨_, rfl⟩
        replace hf := nm_el hf ev5_12
        refine k_iinc (v := v5_12) C dX8_matrix_208 5 rfl (by rw [ev5_12]; rfl) [(5, .int v5_12), (0, .ref (ad 0)), (1, .int x1), (2, .int x2), (3, .int x3), (4, .int x4)] (by decide) rfl ?_
        refine k_goto C 96 dX8_matrix_211 (by decide) ?_
        refine k_sub [1, 2, 3, 4, 5, 0] (L' := [(0, .ref (ad 0)), (1, .int x1), (2, .int x2), (3, .int x3), (4, .int x4), (5, .int v5_12)]) rfl ?_
        exact ih _ _ _ _ _ _ _ _ _ _ _ _ _ _ _ _ _ _ _ _ _ _ _ _ _ _ _ hf
      · replace hf := (if_pos hc).symm.trans hf
        refine k_aload_n C dX8_matrix_130 0 rfl ?_
        refine g8_123 C dX8_matrix_131 ?_
        refine k_bipush (v := (60 : Int32)) C dX8_matrix_134 (by decide) ?_
        refine k_iload_n C dX8_matrix_136 2 rfl ?_
        refine k_imul C dX8_matrix_137 ?_
        refine k_aload_n C dX8_matrix_138 0 rfl ?_
        refine g8_61 C dX8_matrix_139 ?_
        refine k_iload C dX8_matrix_142 5 rfl ?_
        obtain ⟨hi, hf⟩ := gd_no hf
        refine lm18 C hi dX8_matrix_144 ?_
        refine k_iadd C dX8_matrix_145 ?_
        obtain ⟨hi, hf⟩ := gd_no hf
        refine lm37 C hi dX8_matrix_146 ?_
        refine k_if_ne C 153 dX8_matrix_147 (by decide) (fun hc => ?_) (fun hc => ?_)
        · replace hf := (if_neg hc).symm.trans hf
          refine k_aload_n C dX8_matrix_153 0 rfl ?_
          refine k_iload C dX8_matrix_154 5 rfl ?_
          refine k_aload_n C dX8_matrix_156 0 rfl ?_
          refine g8_114 C dX8_matrix_157 ?_
          refine k_iload_n C dX8_matrix_160 2 rfl ?_
          obtain ⟨hi, hf⟩ := gd_no hf
          refine lm34 C hi dX8_matrix_161 ?_
          refine k_aload_n C dX8_matrix_162 0 rfl ?_
          refine g8_117 C dX8_matrix_163 ?_
          refine k_iload_n C dX8_matrix_166 2 rfl ?_
          obtain ⟨hi, hf⟩ := gd_no hf
          refine lm35 C hi dX8_matrix_167 ?_
          obtain ⟨⟨mR_rl_14, mR_ro_15, mR_rv_16, mR_rs_17, mR_rt_18, mR_rS_19, mR_rV_20, mR_rM_21⟩, hq_13, hf⟩ := ob_el hf
          dsimp only at hf
          refine k_callVv C (c8_go C.2.2.2.2.2.2.2.2.2.1 hq_13) cm8_375 ok8_go (by decide) 0 rfl rfl rfl rfl (Nat.le_of_ble_eq_true rfl) dX8_matrix_168 ?_
          obtain ⟨v1_22, ev1_22⟩ : ∃ y : Int32, y = x1 + (1 : Int32) := ⟨_, rfl⟩
          replace hf := nm_el hf ev1_22
          refine k_iinc (v := v1_22) C dX8_matrix_171 1 rfl (by rw [ev1_22]; rfl) [(1, .int v1_22), (0, .ref (ad 0)), (2, .int x2), (3, .int x3), (4, .int x4), (5, .int x5)] (by decide) rfl ?_
          refine k_aload_n C dX8_matrix_174 1 rfl ?_
          refine g8_120 C dX8_matrix_175 ?_
          refine k_bipush (v := (121 : Int32)) C dX8_matrix_178 (by decide) ?_
          refine k_iload_n C dX8_matrix_180 2 rfl ?_
          refine k_imul C dX8_matrix_181 ?_
          refine k_iload C dX8_matrix_182 5 rfl ?_
          refine k_iadd C dX8_matrix_184 ?_
          refine k_aload_n C dX8_matrix_185 1 rfl ?_
          refine g8_341 C dX8_matrix_186 ?_
          refine k_iload_n C dX8_matrix_189 3 rfl ?_
          refine k_icmp_ne C 202 dX8_matrix_190 (by decide) (fun hc => ?_) (fun hc => ?_)
          · replace hf := (if_neg hc).symm.trans hf
            refine k_iconst (v := (1 : Int32)) C dX8_matrix_202 (by decide) ?_
            refine k_goto C 207 dX8_matrix_203 (by decide) ?_
            obtain ⟨hi, hf⟩ := gd_no hf
            refine sm36 C hi dX8_matrix_207 ?_
            obtain ⟨v5_23, ev5_23⟩ : ∃ y : Int32, y = x5 + (1 : Int32) := ⟨_, rfl⟩
            replace hf := nm_el hf ev5_23
            refine k_iinc (v := v5_23) C dX8_matrix_208 5 rfl (by rw [ev5_23]; rfl) [(5, .int v5_23), (1, .int v1_22), (0, .ref (ad 0)), (2, .int x2), (3, .int x3), (4, .int x4)] (by decide) rfl ?_
            refine k_goto C 96 dX8_matrix_211 (by decide) ?_
            refine k_sub [2, 1, 3, 4, 5, 0] (L' := [(0, .ref (ad 0)), (1, .int v1_22), (2, .int x2), (3, .int x3), (4, .int x4), (5, .int v5_23)]) rfl ?_
            exact ih _ _ _ _ _ _ _ _ _ _ _ _ _ _ _ _ _ _ _ _ _ _ _ _ _ _ _ hf
          · replace hf := (if_pos hc).symm.trans hf
            refine k_aload_n C dX8_matrix_193 1 rfl ?_
            refine g8_344 C dX8_matrix_194 ?_
            refine k_iload C dX8_matrix_197 4 rfl ?_
            refine k_icmp_eq C 206 dX8_matrix_199 (by decide) (fun hc => ?_) (fun hc => ?_)
            · replace hf := (if_pos hc).symm.trans hf
              refine k_iconst (v := (0 : Int32)) C dX8_matrix_206 (by decide) ?_
              obtain ⟨hi, hf⟩ := gd_no hf
              refine sm36 C hi dX8_matrix_207 ?_
              obtain ⟨v5_24, ev5_24⟩ : ∃ y : Int32, y = x5 + (1 : Int32) := ⟨_, rfl⟩
              replace hf := nm_el hf ev5_24
              refine k_iinc (v := v5_24) C dX8_matrix_208 5 rfl (by rw [ev5_24]; rfl) [(5, .int v5_24), (1, .int v1_22), (0, .ref (ad 0)), (2, .int x2), (3, .int x3), (4, .int x4)] (by decide) rfl ?_
              refine k_goto C 96 dX8_matrix_211 (by decide) ?_
              refine k_sub [2, 1, 3, 4, 5, 0] (L' := [(0, .ref (ad 0)), (1, .int v1_22), (2, .int x2), (3, .int x3), (4, .int x4), (5, .int v5_24)]) rfl ?_
              exact ih _ _ _ _ _ _ _ _ _ _ _ _ _ _ _ _ _ _ _ _ _ _ _ _ _ _ _ hf
            · replace hf := (if_neg hc).symm.trans hf
              refine k_iconst (v := (1 : Int32)) C dX8_matrix_202 (by decide) ?_
              refine k_goto C 207 dX8_matrix_203 (by decide) ?_
              obtain ⟨hi, hf⟩ := gd_no hf
              refine sm36 C hi dX8_matrix_207 ?_
              obtain ⟨v5_25, ev5_25⟩ : ∃ y : Int32, y = x5 + (1 : Int32) := ⟨_, rfl⟩
              replace hf := nm_el hf ev5_25
              refine k_iinc (v := v5_25) C dX8_matrix_208 5 rfl (by rw [ev5_25]; rfl) [(5, .int v5_25), (1, .int v1_22), (0, .ref (ad 0)), (2, .int x2), (3, .int x3), (4, .int x4)] (by decide) rfl ?_
              refine k_goto C 96 dX8_matrix_211 (by decide) ?_
              refine k_sub [2, 1, 3, 4, 5, 0] (L' := [(0, .ref (ad 0)), (1, .int v1_22), (2, .int x2), (3, .int x3), (4, .int x4), (5, .int v5_25)]) rfl ?_
              exact ih _ _ _ _ _ _ _ _ _ _ _ _ _ _ _ _ _ _ _ _ _ _ _ _ _ _ _ hf
        · replace hf := (if_pos hc).symm.trans hf
          refine k_goto C 208 dX8_matrix_150 (by decide) ?_
          obtain ⟨v5_26, ev5_26⟩ : ∃ y : Int32, y = x5 + (1 : Int32) := ⟨_, rfl⟩
          replace hf := nm_el hf ev5_26
          refine k_iinc (v := v5_26) C dX8_matrix_208 5 rfl (by rw [ev5_26]; rfl) [(5, .int v5_26), (0, .ref (ad 0)), (1, .int x1), (2, .int x2), (3, .int x3), (4, .int x4)] (by decide) rfl ?_
          refine k_goto C 96 dX8_matrix_211 (by decide) ?_
          refine k_sub [1, 2, 3, 4, 5, 0] (L' := [(0, .ref (ad 0)), (1, .int x1), (2, .int x2), (3, .int x3), (4, .int x4), (5, .int v5_26)]) rfl ?_
          exact ih _ _ _ _ _ _ _ _ _ _ _ _ _ _ _ _ _ _ _ _ _ _ _ _ _ _ _ hf

set_option maxHeartbeats 4000000 in
set_option maxRecDepth 100000 in
theorem w8_matrix_L22 {V : EV} {p : Program} {l : Launch} {e : Env} {R : Room} {s : State} {m : MethodId} {args : Array Value} {below : List Frame} {meth : Method} {c : Code} {Q : State → Prop} {A : Nat → Prop} {kc ks : Nat} {ad : Nat → Nat} {mT : MdT} {mN : MdN} {mP : MdP} {mH : MdH} {mK_ks : Int32} {mK_kk : Nat → Int32} {mK_kv : Nat → Int32} {mK_kt : Nat → Int32} {mL_lm : Int32} {mL_lp : Nat → Int32} {mL_ls : Nat → Int32} {mL_li : Nat → Int32} {mL_lk : Nat → Int32} {mL_lf : Nat → Int32} {k220 : Int32 → MdQ → MdR → MdG → Option (Int32 × MdQ × MdR × MdG)} {N : Nat} {res : Int32 × MdQ × MdR × MdG} (C : CX V p l R s m args c A kc ks RX8 cX8_matrix 6 4 96) (K : RI V p l e R s m args below meth c Q A kc ks 6 cX8_matrix .int res.1 (wM V ad mT res.2.1 (mK_ks, mK_kk, mK_kv, mK_kt) mN mP (mL_lm, mL_lp, mL_ls, mL_li, mL_lk, mL_lf) mH res.2.2.1 res.2.2.2)) (hk220 : ∀ (x1 : Int32) (mQ_qc : Int32) (mQ_qb : Int32) (mQ_qp : Int32) (mQ_qr : Int32) (mQ_qC : Int32) (mR_rl : Int32) (mR_ro : Int32) (mR_rv : Int32) (mR_rs : Int32) (mR_rt : Int32) (mR_rS : Nat → Int32) (mR_rV : Nat → Int32) (mR_rM : Nat → Int32) (mG_gf : Int32) (mG_gv : Int32) (mG_gt : Int32) (mG_gn : Int32) (mG_gX : Nat → Int32) (mG_gY : Nat → Int32) (mG_gM : Int32) (mG_gK : Nat → Int32) (mG_gR : Nat → Int32), k220 x1 (mQ_qc, mQ_qb, mQ_qp, mQ_qr, mQ_qC) (mR_rl, mR_ro, mR_rv, mR_rs, mR_rt, mR_rS, mR_rV, mR_rM) (mG_gf, mG_gv, mG_gt, mG_gn, mG_gX, mG_gY, mG_gM, mG_gK, mG_gR) = some res → WC V p l e R s m args below meth c Q A kc ks 6 (wM V ad mT (mQ_qc, mQ_qb, mQ_qp, mQ_qr, mQ_qC) (mK_ks, mK_kk, mK_kv, mK_kt) mN mP (mL_lm, mL_lp, mL_ls, mL_li, mL_lk, mL_lf) mH (mR_rl, mR_ro, mR_rv, mR_rs, mR_rt, mR_rS, mR_rV, mR_rM) (mG_gf, mG_gv, mG_gt, mG_gn, mG_gX, mG_gY, mG_gM, mG_gK, mG_gR)) 220 [(0, .ref (ad 0)), (1, .int x1)] []) : ∀ (n : Nat) (x1 : Int32) (x2 : Int32) (mQ_qc : Int32) (mQ_qb : Int32) (mQ_qp : Int32) (mQ_qr : Int32) (mQ_qC : Int32) (mR_rl : Int32) (mR_ro : Int32) (mR_rv : Int32) (mR_rs : Int32) (mR_rt : Int32) (mR_rS : Nat → Int32) (mR_rV : Nat → Int32) (mR_rM : Nat → Int32) (mG_gf : Int32) (mG_gv : Int32) (mG_gt : Int32) (mG_gn : Int32) (mG_gX : Nat → Int32) (mG_gY : Nat → Int32) (mG_gM : Int32) (mG_gK : Nat → Int32) (mG_gR : Nat → Int32), f8_matrix_L22 k220 N mK_ks mK_kk mK_kv mK_kt mL_lm mL_lp mL_ls mL_li mL_lk mL_lf n x1 x2 (mQ_qc, mQ_qb, mQ_qp, mQ_qr, mQ_qC) (mR_rl, mR_ro, mR_rv, mR_rs, mR_rt, mR_rS, mR_rV, mR_rM) (mG_gf, mG_gv, mG_gt, mG_gn, mG_gX, mG_gY, mG_gM, mG_gK, mG_gR) = some res → WC V p l e R s m args below meth c Q A kc ks 6 (wM V ad mT (mQ_qc, mQ_qb, mQ_qp, mQ_qr, mQ_qC) (mK_ks, mK_kk, mK_kv, mK_kt) mN mP (mL_lm, mL_lp, mL_ls, mL_li, mL_lk, mL_lf) mH (mR_rl, mR_ro, mR_rv, mR_rs, mR_rt, mR_rS, mR_rV, mR_rM) (mG_gf, mG_gv, mG_gt, mG_gn, mG_gX, mG_gY, mG_gM, mG_gK, mG_gR)) 22 [(0, .ref (ad 0)), (1, .int x1), (2, .int x2)] [] := by
  intro n
  induction n with
  | zero => intro _ _ _ _ _ _ _ _ _ _ _ _ _ _ _ _ _ _ _ _ _ _ _ _ hf; exact nomatch (show none = some res from hf)
  | succ n ih =>
    intro x1 x2 mQ_qc mQ_qb mQ_qp mQ_qr mQ_qC mR_rl mR_ro mR_rv mR_rs mR_rt mR_rS mR_rV mR_rM mG_gf mG_gv mG_gt mG_gn mG_gX mG_gY mG_gM mG_gK mG_gR hf
    rw [f8_matrix_L22] at hf
    refine k_iload_n C dX8_matrix_22 2 rfl ?_
    refine k_aload_n C dX8_matrix_23 0 rfl ?_
    refine g8_268 C dX8_matrix_24 ?_
    refine k_icmp_ge C 220 dX8_matrix_27 (by decide) (fun hc => ?_) (fun hc => ?_)
    · replace hf := (if_pos hc).symm.trans hf
      refine k_sub [0, 1] (L' := [(0, .ref (ad 0)), (1, .int x1)]) rfl ?_
      exact hk220 _ _ _ _ _ _ _ _ _ _ _ _ _ _ _ _ _ _ _ _ _ _ _ hf
    · replace hf := (if_neg hc).symm.trans hf
      refine k_aload_n C dX8_matrix_30 0 rfl ?_
      refine k_iconst (v := (0 : Int32)) C dX8_matrix_31 (by decide) ?_
      refine k_aload_n C dX8_matrix_32 0 rfl ?_
      refine g8_114 C dX8_matrix_33 ?_
      refine k_iload_n C dX8_matrix_36 2 rfl ?_
      obtain ⟨hi, hf⟩ := gd_no hf
      refine lm34 C hi dX8_matrix_37 ?_
      refine k_aload_n C dX8_matrix_38 0 rfl ?_
      refine g8_117 C dX8_matrix_39 ?_
      refine k_iload_n C dX8_matrix_42 2 rfl ?_
      obtain ⟨hi, hf⟩ := gd_no hf
      refine lm35 C hi dX8_matrix_43 ?_
      obtain ⟨⟨mR_rl_2, mR_ro_3, mR_rv_4, mR_rs_5, mR_rt_6, mR_rS_7, mR_rV_8, mR_rM_9⟩, hq_1, hf⟩ := ob_el hf
      dsimp only at hf
      refine k_callVv C (c8_go C.2.2.2.2.2.2.2.2.2.1 hq_1) cm8_375 ok8_go (by decide) 0 rfl rfl rfl rfl (Nat.le_of_ble_eq_true rfl) dX8_matrix_44 ?_
      refine k_aload_n C dX8_matrix_47 0 rfl ?_
      refine g8_341 C dX8_matrix_48 ?_
      refine k_istore_n C dX8_matrix_51 [(3, .int mR_ro_3), (0, .ref (ad 0)), (1, .int x1), (2, .int x2)] (by decide) rfl ?_
      refine k_aload_n C dX8_matrix_52 1 rfl ?_
      refine g8_344 C dX8_matrix_53 ?_
      refine k_istore C dX8_matrix_56 [(4, .int mR_rv_4), (3, .int mR_ro_3), (0, .ref (ad 0)), (1, .int x1), (2, .int x2)] (by decide) rfl ?_
      refine k_iconst (v := (0 : Int32)) C dX8_matrix_58 (by decide) ?_
      refine k_istore C dX8_matrix_59 [(5, .int (0 : Int32)), (4, .int mR_rv_4), (3, .int mR_ro_3), (0, .ref (ad 0)), (1, .int x1), (2, .int x2)] (by decide) rfl ?_
      refine k_sub [3, 4, 5, 2, 1, 0] (L' := [(0, .ref (ad 0)), (1, .int x1), (2, .int x2), (3, .int mR_ro_3), (4, .int mR_rv_4), (5, .int (0 : Int32))]) rfl ?_
      refine w8_matrix_L61 C K ?_ _ _ _ _ _ _ _ _ _ _ _ _ _ _ _ _ _ _ _ _ _ _ _ _ _ _ _ _ hf
      · intro x1_11 x2_11 x3_11 x4_11 mQ_qc_11 mQ_qb_11 mQ_qp_11 mQ_qr_11 mQ_qC_11 mR_rl_11 mR_ro_11 mR_rv_11 mR_rs_11 mR_rt_11 mR_rS_11 mR_rV_11 mR_rM_11 mG_gf_11 mG_gv_11 mG_gt_11 mG_gn_11 mG_gX_11 mG_gY_11 mG_gM_11 mG_gK_11 mG_gR_11 hf
        try dsimp only at hf
        refine k_iconst (v := (1 : Int32)) C dX8_matrix_93 (by decide) ?_
        refine k_istore C dX8_matrix_94 [(5, .int (1 : Int32)), (0, .ref (ad 0)), (1, .int x1_11), (2, .int x2_11), (3, .int x3_11), (4, .int x4_11)] (by decide) rfl ?_
        refine k_sub [1, 2, 3, 4, 5, 0] (L' := [(0, .ref (ad 0)), (1, .int x1_11), (2, .int x2_11), (3, .int x3_11), (4, .int x4_11), (5, .int (1 : Int32))]) rfl ?_
        refine w8_matrix_L96 C K ?_ _ _ _ _ _ _ _ _ _ _ _ _ _ _ _ _ _ _ _ _ _ _ _ _ _ _ _ _ hf
        · intro x1_27 x2_27 mQ_qc_27 mQ_qb_27 mQ_qp_27 mQ_qr_27 mQ_qC_27 mR_rl_27 mR_ro_27 mR_rv_27 mR_rs_27 mR_rt_27 mR_rS_27 mR_rV_27 mR_rM_27 mG_gf_27 mG_gv_27 mG_gt_27 mG_gn_27 mG_gX_27 mG_gY_27 mG_gM_27 mG_gK_27 mG_gR_27 hf
          try dsimp only at hf
          obtain ⟨v2_28, ev2_28⟩ : ∃ y : Int32, y = x2_27 + (1 : Int32) := ⟨_, rfl⟩
          replace hf := nm_el hf ev2_28
          refine k_iinc (v := v2_28) C dX8_matrix_214 2 rfl (by rw [ev2_28]; rfl) [(2, .int v2_28), (0, .ref (ad 0)), (1, .int x1_27)] (by decide) rfl ?_
          refine k_goto C 22 dX8_matrix_217 (by decide) ?_
          refine k_sub [1, 2, 0] (L' := [(0, .ref (ad 0)), (1, .int x1_27), (2, .int v2_28)]) rfl ?_
          exact ih _ _ _ _ _ _ _ _ _ _ _ _ _ _ _ _ _ _ _ _ _ _ _ _ hf
set_option maxHeartbeats 4000000 in
set_option maxRecDepth 100000 in
theorem b8_matrix {V : EV} {p : Program} {l : Launch} {e : Env} {R : Room} {s : State} {m : MethodId} {args : Array Value} {below : List Frame} {meth : Method} {c : Code} {Q : State → Prop} {A : Nat → Prop} {kc ks : Nat} {ad : Nat → Nat} {mT : MdT} {mN : MdN} {mP : MdP} {mH : MdH} {mK_ks : Int32} {mK_kk : Nat → Int32} {mK_kv : Nat → Int32} {mK_kt : Nat → Int32} {mL_lm : Int32} {mL_lp : Nat → Int32} {mL_ls : Nat → Int32} {mL_li : Nat → Int32} {mL_lk : Nat → Int32} {mL_lf : Nat → Int32} {mQ_qc : Int32} {mQ_qb : Int32} {mQ_qp : Int32} {mQ_qr : Int32} {mQ_qC : Int32} {mR_rl : Int32} {mR_ro : Int32} {mR_rv : Int32} {mR_rs : Int32} {mR_rt : Int32} {mR_rS : Nat → Int32} {mR_rV : Nat → Int32} {mR_rM : Nat → Int32} {mG_gf : Int32} {mG_gv : Int32} {mG_gt : Int32} {mG_gn : Int32} {mG_gX : Nat → Int32} {mG_gY : Nat → Int32} {mG_gM : Int32} {mG_gK : Nat → Int32} {mG_gR : Nat → Int32} {N : Nat} {res : Int32 × MdQ × MdR × MdG} (C : CX V p l R s m args c A kc ks RX8 cX8_matrix 6 4 96) (hf : f8_matrix N (mK_ks, mK_kk, mK_kv, mK_kt) (mL_lm, mL_lp, mL_ls, mL_li, mL_lk, mL_lf) (mQ_qc, mQ_qb, mQ_qp, mQ_qr, mQ_qC) (mR_rl, mR_ro, mR_rv, mR_rs, mR_rt, mR_rS, mR_rV, mR_rM) (mG_gf, mG_gv, mG_gt, mG_gn, mG_gX, mG_gY, mG_gM, mG_gK, mG_gR) = some res) (K : RI V p l e R s m args below meth c Q A kc ks 6 cX8_matrix .int res.1 (wM V ad mT res.2.1 (mK_ks, mK_kk, mK_kv, mK_kt) mN mP (mL_lm, mL_lp, mL_ls, mL_li, mL_lk, mL_lf) mH res.2.2.1 res.2.2.2)) : WC V p l e R s m args below meth c Q A kc ks 6 (wM V ad mT (mQ_qc, mQ_qb, mQ_qp, mQ_qr, mQ_qC) (mK_ks, mK_kk, mK_kv, mK_kt) mN mP (mL_lm, mL_lp, mL_ls, mL_li, mL_lk, mL_lf) mH (mR_rl, mR_ro, mR_rv, mR_rs, mR_rt, mR_rS, mR_rV, mR_rM) (mG_gf, mG_gv, mG_gt, mG_gn, mG_gX, mG_gY, mG_gM, mG_gK, mG_gR)) 0 [(0, .ref (ad 0))] [] := by
  rw [f8_matrix] at hf
  refine k_aload_n C dX8_matrix_0 0 rfl ?_
  refine k_iconst (v := (0 : Int32)) C dX8_matrix_1 (by decide) ?_
  refine p8_126 C dX8_matrix_2 ?_
  refine k_aload_n C dX8_matrix_5 0 rfl ?_
  refine g8_265 C dX8_matrix_6 ?_
  refine k_if_ne C 18 dX8_matrix_9 (by decide) (fun hc => ?_) (fun hc => ?_)
  · replace hf := (if_neg hc).symm.trans hf
    refine k_iconst (v := (0 : Int32)) C dX8_matrix_18 (by decide) ?_
    refine k_istore_n C dX8_matrix_19 [(1, .int (0 : Int32)), (0, .ref (ad 0))] (by decide) rfl ?_
    refine k_iconst (v := (0 : Int32)) C dX8_matrix_20 (by decide) ?_
    refine k_istore_n C dX8_matrix_21 [(2, .int (0 : Int32)), (1, .int (0 : Int32)), (0, .ref (ad 0))] (by decide) rfl ?_
    refine k_sub [2, 1, 0] (L' := [(0, .ref (ad 0)), (1, .int (0 : Int32)), (2, .int (0 : Int32))]) rfl ?_
    refine w8_matrix_L22 C K ?_ _ _ _ _ _ _ _ _ _ _ _ _ _ _ _ _ _ _ _ _ _ _ _ _ _ hf
    · intro x1_29 mQ_qc_29 mQ_qb_29 mQ_qp_29 mQ_qr_29 mQ_qC_29 mR_rl_29 mR_ro_29 mR_rv_29 mR_rs_29 mR_rt_29 mR_rS_29 mR_rV_29 mR_rM_29 mG_gf_29 mG_gv_29 mG_gt_29 mG_gn_29 mG_gX_29 mG_gY_29 mG_gM_29 mG_gK_29 mG_gR_29 hf
      try dsimp only at hf
      refine k_aload_n C dX8_matrix_220 0 rfl ?_
      refine k_iconst (v := (1 : Int32)) C dX8_matrix_221 (by decide) ?_
      refine p8_271 C (Or.inr rfl) dX8_matrix_222 ?_
      refine k_iload_n C dX8_matrix_225 1 rfl ?_
      cases hf
      exact K _ _ dX8_matrix_226 rfl
  · replace hf := (if_pos hc).symm.trans hf
    refine k_aload_n C dX8_matrix_12 0 rfl ?_
    refine k_iconst (v := (1 : Int32)) C dX8_matrix_13 (by decide) ?_
    obtain ⟨⟨r_31, ⟨mQ_qc_32, mQ_qb_33, mQ_qp_34, mQ_qr_35, mQ_qC_36⟩⟩, hq_30, hf⟩ := ob_el hf
    dsimp only at hf
    refine k_callVi C (c8_fail C.2.2.2.2.2.2.2.2.2.1 hq_30) cm8_255 ok8_fail (by decide) 0 rfl rfl rfl rfl (Nat.le_of_ble_eq_true rfl) dX8_matrix_14 ?_
    cases hf
    exact K _ _ dX8_matrix_17 rfl
theorem c8_matrix {V : EV} {l : Launch} (hl0 : l.stackTraces = false) {ad : Nat → Nat} {mT : MdT} {mN : MdN} {mP : MdP} {mH : MdH} {mK_ks : Int32} {mK_kk : Nat → Int32} {mK_kv : Nat → Int32} {mK_kt : Nat → Int32} {mL_lm : Int32} {mL_lp : Nat → Int32} {mL_ls : Nat → Int32} {mL_li : Nat → Int32} {mL_lk : Nat → Int32} {mL_lf : Nat → Int32} {mQ_qc : Int32} {mQ_qb : Int32} {mQ_qp : Int32} {mQ_qr : Int32} {mQ_qC : Int32} {mR_rl : Int32} {mR_ro : Int32} {mR_rv : Int32} {mR_rs : Int32} {mR_rt : Int32} {mR_rS : Nat → Int32} {mR_rV : Nat → Int32} {mR_rM : Nat → Int32} {mG_gf : Int32} {mG_gv : Int32} {mG_gt : Int32} {mG_gn : Int32} {mG_gX : Nat → Int32} {mG_gY : Nat → Int32} {mG_gM : Int32} {mG_gK : Nat → Int32} {mG_gR : Nat → Int32} {N : Nat} {res : Int32 × MdQ × MdR × MdG} (hf : f8_matrix N (mK_ks, mK_kk, mK_kv, mK_kt) (mL_lm, mL_lp, mL_ls, mL_li, mL_lk, mL_lf) (mQ_qc, mQ_qb, mQ_qp, mQ_qr, mQ_qC) (mR_rl, mR_ro, mR_rv, mR_rs, mR_rt, mR_rS, mR_rV, mR_rM) (mG_gf, mG_gv, mG_gt, mG_gn, mG_gX, mG_gY, mG_gM, mG_gK, mG_gR) = some res) : MI V l yX8_matrix cX8_matrix 6 .int 4 96 [.ref (ad 0)] (wM V ad mT (mQ_qc, mQ_qb, mQ_qp, mQ_qr, mQ_qC) (mK_ks, mK_kk, mK_kv, mK_kt) mN mP (mL_lm, mL_lp, mL_ls, mL_li, mL_lk, mL_lf) mH (mR_rl, mR_ro, mR_rv, mR_rs, mR_rt, mR_rS, mR_rV, mR_rM) (mG_gf, mG_gv, mG_gt, mG_gn, mG_gX, mG_gY, mG_gM, mG_gK, mG_gR)) res.1 (wM V ad mT res.2.1 (mK_ks, mK_kk, mK_kv, mK_kt) mN mP (mL_lm, mL_lp, mL_ls, mL_li, mL_lk, mL_lf) mH res.2.2.1 res.2.2.2) :=
  mi_of hl0 (by decide +kernel) (Nat.le_of_ble_eq_true rfl) (fun p e R s m args below meth c Q A C K => b8_matrix C hf K)

theorem ok8_fault : okCV RX8 yX8_fault 2 := by unfold okCV; decide +kernel
def f8_fault (v1 : Int32) (v2 : Int32) : MdL → MdG → Option (Int32)
  | (mL_lm, mL_lp, mL_ls, mL_li, mL_lk, mL_lf), (mG_gf, mG_gv, mG_gt, mG_gn, mG_gX, mG_gY, mG_gM, mG_gK, mG_gR) =>
    if mG_gM = 0 then some (1 : Int32) else if v1 < (1 : Int32) then some (2 : Int32) else if mL_lm < v1 then some (2 : Int32) else if v2 < 0 then some (2 : Int32) else if v2 < mG_gn then some (0 : Int32) else some (2 : Int32)
set_option maxHeartbeats 4000000 in
set_option maxRecDepth 100000 in
theorem b8_fault {V : EV} {p : Program} {l : Launch} {e : Env} {R : Room} {s : State} {m : MethodId} {args : Array Value} {below : List Frame} {meth : Method} {c : Code} {Q : State → Prop} {A : Nat → Prop} {kc ks : Nat} {ad : Nat → Nat} {mT : MdT} {mQ : MdQ} {mK : MdK} {mN : MdN} {mP : MdP} {mH : MdH} {mR : MdR} {mL_lm : Int32} {mL_lp : Nat → Int32} {mL_ls : Nat → Int32} {mL_li : Nat → Int32} {mL_lk : Nat → Int32} {mL_lf : Nat → Int32} {mG_gf : Int32} {mG_gv : Int32} {mG_gt : Int32} {mG_gn : Int32} {mG_gX : Nat → Int32} {mG_gY : Nat → Int32} {mG_gM : Int32} {mG_gK : Nat → Int32} {mG_gR : Nat → Int32} {v1 : Int32} {v2 : Int32} {res : Int32} (C : CX V p l R s m args c A kc ks RX8 cX8_fault 3 0 0) (hf : f8_fault v1 v2 (mL_lm, mL_lp, mL_ls, mL_li, mL_lk, mL_lf) (mG_gf, mG_gv, mG_gt, mG_gn, mG_gX, mG_gY, mG_gM, mG_gK, mG_gR) = some res) (K : RI V p l e R s m args below meth c Q A kc ks 3 cX8_fault .int res (wM V ad mT mQ mK mN mP (mL_lm, mL_lp, mL_ls, mL_li, mL_lk, mL_lf) mH mR (mG_gf, mG_gv, mG_gt, mG_gn, mG_gX, mG_gY, mG_gM, mG_gK, mG_gR))) : WC V p l e R s m args below meth c Q A kc ks 3 (wM V ad mT mQ mK mN mP (mL_lm, mL_lp, mL_ls, mL_li, mL_lk, mL_lf) mH mR (mG_gf, mG_gv, mG_gt, mG_gn, mG_gX, mG_gY, mG_gM, mG_gK, mG_gR)) 0 [(0, .ref (ad 0)), (1, .int v1), (2, .int v2)] [] := by
  rw [f8_fault] at hf
  refine k_aload_n C dX8_fault_0 0 rfl ?_
  refine g8_271 C dX8_fault_1 ?_
  refine k_if_ne C 11 dX8_fault_4 (by decide) (fun hc => ?_) (fun hc => ?_)
  · replace hf := (if_neg hc).symm.trans hf
    refine k_iload_n C dX8_fault_11 1 rfl ?_
    refine k_iconst (v := (1 : Int32)) C dX8_fault_12 (by decide) ?_
    refine k_icmp_lt C 36 dX8_fault_13 (by decide) (fun hc => ?_) (fun hc => ?_)
    · replace hf := (if_pos hc).symm.trans hf
      refine k_iconst (v := (2 : Int32)) C dX8_fault_36 (by decide) ?_
      refine k_goto C 41 dX8_fault_37 (by decide) ?_
      cases hf
      exact K _ _ dX8_fault_41 rfl
    · replace hf := (if_neg hc).symm.trans hf
      refine k_iload_n C dX8_fault_16 1 rfl ?_
      refine k_aload_n C dX8_fault_17 0 rfl ?_
      refine g8_262 C dX8_fault_18 ?_
      refine k_icmp_gt C 36 dX8_fault_21 (by decide) (fun hc => ?_) (fun hc => ?_)
      · replace hf := (if_pos hc).symm.trans hf
        refine k_iconst (v := (2 : Int32)) C dX8_fault_36 (by decide) ?_
        refine k_goto C 41 dX8_fault_37 (by decide) ?_
        cases hf
        exact K _ _ dX8_fault_41 rfl
      · replace hf := (if_neg hc).symm.trans hf
        refine k_iload_n C dX8_fault_24 2 rfl ?_
        refine k_if_lt C 36 dX8_fault_25 (by decide) (fun hc => ?_) (fun hc => ?_)
        · replace hf := (if_pos hc).symm.trans hf
          refine k_iconst (v := (2 : Int32)) C dX8_fault_36 (by decide) ?_
          refine k_goto C 41 dX8_fault_37 (by decide) ?_
          cases hf
          exact K _ _ dX8_fault_41 rfl
        · replace hf := (if_neg hc).symm.trans hf
          refine k_iload_n C dX8_fault_28 2 rfl ?_
          refine k_aload_n C dX8_fault_29 0 rfl ?_
          refine g8_268 C dX8_fault_30 ?_
          refine k_icmp_lt C 40 dX8_fault_33 (by decide) (fun hc => ?_) (fun hc => ?_)
          · replace hf := (if_pos hc).symm.trans hf
            refine k_iconst (v := (0 : Int32)) C dX8_fault_40 (by decide) ?_
            cases hf
            exact K _ _ dX8_fault_41 rfl
          · replace hf := (if_neg hc).symm.trans hf
            refine k_iconst (v := (2 : Int32)) C dX8_fault_36 (by decide) ?_
            refine k_goto C 41 dX8_fault_37 (by decide) ?_
            cases hf
            exact K _ _ dX8_fault_41 rfl
  · replace hf := (if_pos hc).symm.trans hf
    refine k_iconst (v := (1 : Int32)) C dX8_fault_7 (by decide) ?_
    refine k_goto C 41 dX8_fault_8 (by decide) ?_
    cases hf
    exact K _ _ dX8_fault_41 rfl
theorem c8_fault {V : EV} {l : Launch} (hl0 : l.stackTraces = false) {ad : Nat → Nat} {mT : MdT} {mQ : MdQ} {mK : MdK} {mN : MdN} {mP : MdP} {mH : MdH} {mR : MdR} {mL_lm : Int32} {mL_lp : Nat → Int32} {mL_ls : Nat → Int32} {mL_li : Nat → Int32} {mL_lk : Nat → Int32} {mL_lf : Nat → Int32} {mG_gf : Int32} {mG_gv : Int32} {mG_gt : Int32} {mG_gn : Int32} {mG_gX : Nat → Int32} {mG_gY : Nat → Int32} {mG_gM : Int32} {mG_gK : Nat → Int32} {mG_gR : Nat → Int32} {v1 : Int32} {v2 : Int32} {res : Int32} (hf : f8_fault v1 v2 (mL_lm, mL_lp, mL_ls, mL_li, mL_lk, mL_lf) (mG_gf, mG_gv, mG_gt, mG_gn, mG_gX, mG_gY, mG_gM, mG_gK, mG_gR) = some res) : MI V l yX8_fault cX8_fault 3 .int 0 0 [.ref (ad 0), .int v1, .int v2] (wM V ad mT mQ mK mN mP (mL_lm, mL_lp, mL_ls, mL_li, mL_lk, mL_lf) mH mR (mG_gf, mG_gv, mG_gt, mG_gn, mG_gX, mG_gY, mG_gM, mG_gK, mG_gR)) res (wM V ad mT mQ mK mN mP (mL_lm, mL_lp, mL_ls, mL_li, mL_lk, mL_lf) mH mR (mG_gf, mG_gv, mG_gt, mG_gn, mG_gX, mG_gY, mG_gM, mG_gK, mG_gR)) :=
  mi_of hl0 (by decide +kernel) (Nat.le_of_ble_eq_true rfl) (fun p e R s m args below meth c Q A C K => b8_fault C hf K)

theorem cm8_378 : ∀ a ∈ wsCV RX8 378 RX8 yX8_fault cX8_fault 3 (some .int), a ∈ GW := by
  unfold wsCV
  exact (List.forall_mem_cons.mpr ⟨(gw_6 (i := 205) (by decide +kernel) rfl), (List.forall_mem_cons.mpr ⟨(gw_6 (i := 207) (by decide +kernel) rfl), (List.forall_mem_cons.mpr ⟨(gw_p (q := ((yX8_fault, 63) : MethodName × Nat)) (List.mem_append_right _ (List.mem_append_right _ (List.mem_append_right _ (List.mem_append_right _ (List.mem_append_right _ (List.mem_append_right _ (List.mem_of_getElem? (i := 13) (by decide +kernel)))))))) rfl), (List.forall_mem_cons.mpr ⟨(gw_1 (i := 9) (by decide +kernel) rfl), (List.forall_mem_cons.mpr ⟨(gw_6 (i := 208) (by decide +kernel) rfl), (List.forall_mem_nil _)⟩)⟩)⟩)⟩)⟩)
theorem ok8_killed : okCV RX8 yX8_killed 2 := by unfold okCV; decide +kernel
def f8_killed (v1 : Int32) (v2 : Int32) : MdL → MdG → MdQ → Option (Int32 × MdQ)
  | (mL_lm, mL_lp, mL_ls, mL_li, mL_lk, mL_lf), (mG_gf, mG_gv, mG_gt, mG_gn, mG_gX, mG_gY, mG_gM, mG_gK, mG_gR), (mQ_qc, mQ_qb, mQ_qp, mQ_qr, mQ_qC) =>
    (f8_fault v1 v2 (mL_lm, mL_lp, mL_ls, mL_li, mL_lk, mL_lf) (mG_gf, mG_gv, mG_gt, mG_gn, mG_gX, mG_gY, mG_gM, mG_gK, mG_gR)).bind fun r_2 => if r_2 = 0 then if v1 < 0 ∨ 121 ≤ v1.toNatClampNeg then none else if (mL_lk v1.toNatClampNeg) ≤ 0 then some ((0 : Int32), (mQ_qc, mQ_qb, mQ_qp, mQ_qr, r_2)) else if v1 < 0 ∨ 121 ≤ v1.toNatClampNeg then none else if (((121 : Int32) * v2) + (mL_lk v1.toNatClampNeg)) < 0 ∨ 968 ≤ (((121 : Int32) * v2) + (mL_lk v1.toNatClampNeg)).toNatClampNeg then none else if (mG_gK (((121 : Int32) * v2) + (mL_lk v1.toNatClampNeg)).toNatClampNeg) = 0 then some ((0 : Int32), (mQ_qc, mQ_qb, mQ_qp, mQ_qr, r_2)) else some ((1 : Int32), (mQ_qc, mQ_qb, mQ_qp, mQ_qr, r_2)) else some ((0 : Int32), (mQ_qc, mQ_qb, mQ_qp, mQ_qr, r_2))
set_option maxHeartbeats 4000000 in
set_option maxRecDepth 100000 in
theorem b8_killed {V : EV} {p : Program} {l : Launch} {e : Env} {R : Room} {s : State} {m : MethodId} {args : Array Value} {below : List Frame} {meth : Method} {c : Code} {Q : State → Prop} {A : Nat → Prop} {kc ks : Nat} {ad : Nat → Nat} {mT : MdT} {mK : MdK} {mN : MdN} {mP : MdP} {mH : MdH} {mR : MdR} {mL_lm : Int32} {mL_lp : Nat → Int32} {mL_ls : Nat → Int32} {mL_li : Nat → Int32} {mL_lk : Nat → Int32} {mL_lf : Nat → Int32} {mG_gf : Int32} {mG_gv : Int32} {mG_gt : Int32} {mG_gn : Int32} {mG_gX : Nat → Int32} {mG_gY : Nat → Int32} {mG_gM : Int32} {mG_gK : Nat → Int32} {mG_gR : Nat → Int32} {v1 : Int32} {v2 : Int32} {mQ_qc : Int32} {mQ_qb : Int32} {mQ_qp : Int32} {mQ_qr : Int32} {mQ_qC : Int32} {res : Int32 × MdQ} (C : CX V p l R s m args c A kc ks RX8 cX8_killed 3 1 22) (hf : f8_killed v1 v2 (mL_lm, mL_lp, mL_ls, mL_li, mL_lk, mL_lf) (mG_gf, mG_gv, mG_gt, mG_gn, mG_gX, mG_gY, mG_gM, mG_gK, mG_gR) (mQ_qc, mQ_qb, mQ_qp, mQ_qr, mQ_qC) = some res) (K : RI V p l e R s m args below meth c Q A kc ks 3 cX8_killed .boolean res.1 (wM V ad mT res.2 mK mN mP (mL_lm, mL_lp, mL_ls, mL_li, mL_lk, mL_lf) mH mR (mG_gf, mG_gv, mG_gt, mG_gn, mG_gX, mG_gY, mG_gM, mG_gK, mG_gR))) : WC V p l e R s m args below meth c Q A kc ks 3 (wM V ad mT (mQ_qc, mQ_qb, mQ_qp, mQ_qr, mQ_qC) mK mN mP (mL_lm, mL_lp, mL_ls, mL_li, mL_lk, mL_lf) mH mR (mG_gf, mG_gv, mG_gt, mG_gn, mG_gX, mG_gY, mG_gM, mG_gK, mG_gR)) 0 [(0, .ref (ad 0)), (1, .int v1), (2, .int v2)] [] := by
  rw [f8_killed] at hf
  refine k_aload_n C dX8_killed_0 0 rfl ?_
  refine k_aload_n C dX8_killed_1 0 rfl ?_
  refine k_iload_n C dX8_killed_2 1 rfl ?_
  refine k_iload_n C dX8_killed_3 2 rfl ?_
  obtain ⟨r_2, hq_1, hf⟩ := ob_el hf
  refine k_callVi C (c8_fault C.2.2.2.2.2.2.2.2.2.1 hq_1) cm8_378 ok8_fault (by decide) 0 rfl rfl rfl rfl (Nat.le_of_ble_eq_true rfl) dX8_killed_4 ?_
  refine p8_126 C dX8_killed_7 ?_
  refine k_aload_n C dX8_killed_10 0 rfl ?_
  refine g8_126 C dX8_killed_11 ?_
  refine k_if_ne C 49 dX8_killed_14 (by decide) (fun hc => ?_) (fun hc => ?_)
  · replace hf := (if_neg hc).symm.trans hf
    refine k_iconst (v := (0 : Int32)) C dX8_killed_49 (by decide) ?_
    cases hf
    exact K _ _ dX8_killed_50 (nar_b (Or.inl rfl))
  · replace hf := (if_pos hc).symm.trans hf
    refine k_aload_n C dX8_killed_17 0 rfl ?_
    refine g8_70 C dX8_killed_18 ?_
    refine k_iload_n C dX8_killed_21 1 rfl ?_
    obtain ⟨hi, hf⟩ := gd_no hf
    refine lm21 C hi dX8_killed_22 ?_
    refine k_if_le C 49 dX8_killed_23 (by decide) (fun hc => ?_) (fun hc => ?_)
    · replace hf := (if_pos hc).symm.trans hf
      refine k_iconst (v := (0 : Int32)) C dX8_killed_49 (by decide) ?_
      cases hf
      exact K _ _ dX8_killed_50 (nar_b (Or.inl rfl))
    · replace hf := (if_neg hc).symm.trans hf
      refine k_aload_n C dX8_killed_26 0 rfl ?_
      refine g8_120 C dX8_killed_27 ?_
      refine k_bipush (v := (121 : Int32)) C dX8_killed_30 (by decide) ?_
      refine k_iload_n C dX8_killed_32 2 rfl ?_
      refine k_imul C dX8_killed_33 ?_
      refine k_aload_n C dX8_killed_34 0 rfl ?_
      refine g8_70 C dX8_killed_35 ?_
      refine k_iload_n C dX8_killed_38 1 rfl ?_
      obtain ⟨hi, hf⟩ := gd_no hf
      refine lm21 C hi dX8_killed_39 ?_
      refine k_iadd C dX8_killed_40 ?_
      obtain ⟨hi, hf⟩ := gd_no hf
      refine lm36 C hi dX8_killed_41 ?_
      refine k_if_eq C 49 dX8_killed_42 (by decide) (fun hc => ?_) (fun hc => ?_)
      · replace hf := (if_pos hc).symm.trans hf
        refine k_iconst (v := (0 : Int32)) C dX8_killed_49 (by decide) ?_
        cases hf
        exact K _ _ dX8_killed_50 (nar_b (Or.inl rfl))
      · replace hf := (if_neg hc).symm.trans hf
        refine k_iconst (v := (1 : Int32)) C dX8_killed_45 (by decide) ?_
        refine k_goto C 50 dX8_killed_46 (by decide) ?_
        cases hf
        exact K _ _ dX8_killed_50 (nar_b (Or.inr rfl))
theorem c8_killed {V : EV} {l : Launch} (hl0 : l.stackTraces = false) {ad : Nat → Nat} {mT : MdT} {mK : MdK} {mN : MdN} {mP : MdP} {mH : MdH} {mR : MdR} {mL_lm : Int32} {mL_lp : Nat → Int32} {mL_ls : Nat → Int32} {mL_li : Nat → Int32} {mL_lk : Nat → Int32} {mL_lf : Nat → Int32} {mG_gf : Int32} {mG_gv : Int32} {mG_gt : Int32} {mG_gn : Int32} {mG_gX : Nat → Int32} {mG_gY : Nat → Int32} {mG_gM : Int32} {mG_gK : Nat → Int32} {mG_gR : Nat → Int32} {v1 : Int32} {v2 : Int32} {mQ_qc : Int32} {mQ_qb : Int32} {mQ_qp : Int32} {mQ_qr : Int32} {mQ_qC : Int32} {res : Int32 × MdQ} (hf : f8_killed v1 v2 (mL_lm, mL_lp, mL_ls, mL_li, mL_lk, mL_lf) (mG_gf, mG_gv, mG_gt, mG_gn, mG_gX, mG_gY, mG_gM, mG_gK, mG_gR) (mQ_qc, mQ_qb, mQ_qp, mQ_qr, mQ_qC) = some res) : MI V l yX8_killed cX8_killed 3 .boolean 1 22 [.ref (ad 0), .int v1, .int v2] (wM V ad mT (mQ_qc, mQ_qb, mQ_qp, mQ_qr, mQ_qC) mK mN mP (mL_lm, mL_lp, mL_ls, mL_li, mL_lk, mL_lf) mH mR (mG_gf, mG_gv, mG_gt, mG_gn, mG_gX, mG_gY, mG_gM, mG_gK, mG_gR)) res.1 (wM V ad mT res.2 mK mN mP (mL_lm, mL_lp, mL_ls, mL_li, mL_lk, mL_lf) mH mR (mG_gf, mG_gv, mG_gt, mG_gn, mG_gX, mG_gY, mG_gM, mG_gK, mG_gR)) :=
  mi_of hl0 (by decide +kernel) (Nat.le_of_ble_eq_true rfl) (fun p e R s m args below meth c Q A C K => b8_killed C hf K)

theorem ok8_reached : okCV RX8 yX8_reached 2 := by unfold okCV; decide +kernel
def f8_reached (v1 : Int32) (v2 : Int32) : MdL → MdG → MdQ → Option (Int32 × MdQ)
  | (mL_lm, mL_lp, mL_ls, mL_li, mL_lk, mL_lf), (mG_gf, mG_gv, mG_gt, mG_gn, mG_gX, mG_gY, mG_gM, mG_gK, mG_gR), (mQ_qc, mQ_qb, mQ_qp, mQ_qr, mQ_qC) =>
    (f8_fault v1 v2 (mL_lm, mL_lp, mL_ls, mL_li, mL_lk, mL_lf) (mG_gf, mG_gv, mG_gt, mG_gn, mG_gX, mG_gY, mG_gM, mG_gK, mG_gR)).bind fun r_2 => if r_2 = 0 then if v1 < 0 ∨ 121 ≤ v1.toNatClampNeg then none else if (((60 : Int32) * v2) + (mL_lp v1.toNatClampNeg)) < 0 ∨ 480 ≤ (((60 : Int32) * v2) + (mL_lp v1.toNatClampNeg)).toNatClampNeg then none else if (mG_gR (((60 : Int32) * v2) + (mL_lp v1.toNatClampNeg)).toNatClampNeg) = 0 then some ((0 : Int32), (mQ_qc, mQ_qb, mQ_qp, mQ_qr, r_2)) else some ((1 : Int32), (mQ_qc, mQ_qb, mQ_qp, mQ_qr, r_2)) else some ((0 : Int32), (mQ_qc, mQ_qb, mQ_qp, mQ_qr, r_2))
set_option maxHeartbeats 4000000 in
set_option maxRecDepth 100000 in
theorem b8_reached {V : EV} {p : Program} {l : Launch} {e : Env} {R : Room} {s : State} {m : MethodId} {args : Array Value} {below : List Frame} {meth : Method} {c : Code} {Q : State → Prop} {A : Nat → Prop} {kc ks : Nat} {ad : Nat → Nat} {mT : MdT} {mK : MdK} {mN : MdN} {mP : MdP} {mH : MdH} {mR : MdR} {mL_lm : Int32} {mL_lp : Nat → Int32} {mL_ls : Nat → Int32} {mL_li : Nat → Int32} {mL_lk : Nat → Int32} {mL_lf : Nat → Int32} {mG_gf : Int32} {mG_gv : Int32} {mG_gt : Int32} {mG_gn : Int32} {mG_gX : Nat → Int32} {mG_gY : Nat → Int32} {mG_gM : Int32} {mG_gK : Nat → Int32} {mG_gR : Nat → Int32} {v1 : Int32} {v2 : Int32} {mQ_qc : Int32} {mQ_qb : Int32} {mQ_qp : Int32} {mQ_qr : Int32} {mQ_qC : Int32} {res : Int32 × MdQ} (C : CX V p l R s m args c A kc ks RX8 cX8_reached 3 1 22) (hf : f8_reached v1 v2 (mL_lm, mL_lp, mL_ls, mL_li, mL_lk, mL_lf) (mG_gf, mG_gv, mG_gt, mG_gn, mG_gX, mG_gY, mG_gM, mG_gK, mG_gR) (mQ_qc, mQ_qb, mQ_qp, mQ_qr, mQ_qC) = some res) (K : RI V p l e R s m args below meth c Q A kc ks 3 cX8_reached .boolean res.1 (wM V ad mT res.2 mK mN mP (mL_lm, mL_lp, mL_ls, mL_li, mL_lk, mL_lf) mH mR (mG_gf, mG_gv, mG_gt, mG_gn, mG_gX, mG_gY, mG_gM, mG_gK, mG_gR))) : WC V p l e R s m args below meth c Q A kc ks 3 (wM V ad mT (mQ_qc, mQ_qb, mQ_qp, mQ_qr, mQ_qC) mK mN mP (mL_lm, mL_lp, mL_ls, mL_li, mL_lk, mL_lf) mH mR (mG_gf, mG_gv, mG_gt, mG_gn, mG_gX, mG_gY, mG_gM, mG_gK, mG_gR)) 0 [(0, .ref (ad 0)), (1, .int v1), (2, .int v2)] [] := by
  rw [f8_reached] at hf
  refine k_aload_n C dX8_reached_0 0 rfl ?_
  refine k_aload_n C dX8_reached_1 0 rfl ?_
  refine k_iload_n C dX8_reached_2 1 rfl ?_
  refine k_iload_n C dX8_reached_3 2 rfl ?_
  obtain ⟨r_2, hq_1, hf⟩ := ob_el hf
  refine k_callVi C (c8_fault C.2.2.2.2.2.2.2.2.2.1 hq_1) cm8_378 ok8_fault (by decide) 0 rfl rfl rfl rfl (Nat.le_of_ble_eq_true rfl) dX8_reached_4 ?_
  refine p8_126 C dX8_reached_7 ?_
  refine k_aload_n C dX8_reached_10 0 rfl ?_
  refine g8_126 C dX8_reached_11 ?_
  refine k_if_ne C 40 dX8_reached_14 (by decide) (fun hc => ?_) (fun hc => ?_)
  · replace hf := (if_neg hc).symm.trans hf
    refine k_iconst (v := (0 : Int32)) C dX8_reached_40 (by decide) ?_
    cases hf
    exact K _ _ dX8_reached_41 (nar_b (Or.inl rfl))
  · replace hf := (if_pos hc).symm.trans hf
    refine k_aload_n C dX8_reached_17 0 rfl ?_
    refine g8_123 C dX8_reached_18 ?_
    refine k_bipush (v := (60 : Int32)) C dX8_reached_21 (by decide) ?_
    refine k_iload_n C dX8_reached_23 2 rfl ?_
    refine k_imul C dX8_reached_24 ?_
    refine k_aload_n C dX8_reached_25 0 rfl ?_
    refine g8_61 C dX8_reached_26 ?_
    refine k_iload_n C dX8_reached_29 1 rfl ?_
    obtain ⟨hi, hf⟩ := gd_no hf
    refine lm18 C hi dX8_reached_30 ?_
    refine k_iadd C dX8_reached_31 ?_
    obtain ⟨hi, hf⟩ := gd_no hf
    refine lm37 C hi dX8_reached_32 ?_
    refine k_if_eq C 40 dX8_reached_33 (by decide) (fun hc => ?_) (fun hc => ?_)
    · replace hf := (if_pos hc).symm.trans hf
      refine k_iconst (v := (0 : Int32)) C dX8_reached_40 (by decide) ?_
      cases hf
      exact K _ _ dX8_reached_41 (nar_b (Or.inl rfl))
    · replace hf := (if_neg hc).symm.trans hf
      refine k_iconst (v := (1 : Int32)) C dX8_reached_36 (by decide) ?_
      refine k_goto C 41 dX8_reached_37 (by decide) ?_
      cases hf
      exact K _ _ dX8_reached_41 (nar_b (Or.inr rfl))
theorem c8_reached {V : EV} {l : Launch} (hl0 : l.stackTraces = false) {ad : Nat → Nat} {mT : MdT} {mK : MdK} {mN : MdN} {mP : MdP} {mH : MdH} {mR : MdR} {mL_lm : Int32} {mL_lp : Nat → Int32} {mL_ls : Nat → Int32} {mL_li : Nat → Int32} {mL_lk : Nat → Int32} {mL_lf : Nat → Int32} {mG_gf : Int32} {mG_gv : Int32} {mG_gt : Int32} {mG_gn : Int32} {mG_gX : Nat → Int32} {mG_gY : Nat → Int32} {mG_gM : Int32} {mG_gK : Nat → Int32} {mG_gR : Nat → Int32} {v1 : Int32} {v2 : Int32} {mQ_qc : Int32} {mQ_qb : Int32} {mQ_qp : Int32} {mQ_qr : Int32} {mQ_qC : Int32} {res : Int32 × MdQ} (hf : f8_reached v1 v2 (mL_lm, mL_lp, mL_ls, mL_li, mL_lk, mL_lf) (mG_gf, mG_gv, mG_gt, mG_gn, mG_gX, mG_gY, mG_gM, mG_gK, mG_gR) (mQ_qc, mQ_qb, mQ_qp, mQ_qr, mQ_qC) = some res) : MI V l yX8_reached cX8_reached 3 .boolean 1 22 [.ref (ad 0), .int v1, .int v2] (wM V ad mT (mQ_qc, mQ_qb, mQ_qp, mQ_qr, mQ_qC) mK mN mP (mL_lm, mL_lp, mL_ls, mL_li, mL_lk, mL_lf) mH mR (mG_gf, mG_gv, mG_gt, mG_gn, mG_gX, mG_gY, mG_gM, mG_gK, mG_gR)) res.1 (wM V ad mT res.2 mK mN mP (mL_lm, mL_lp, mL_ls, mL_li, mL_lk, mL_lf) mH mR (mG_gf, mG_gv, mG_gt, mG_gn, mG_gX, mG_gY, mG_gM, mG_gK, mG_gR)) :=
  mi_of hl0 (by decide +kernel) (Nat.le_of_ble_eq_true rfl) (fun p e R s m args below meth c Q A C K => b8_reached C hf K)

theorem ok8_score : okCV RX8 yX8_score 1 := by unfold okCV; decide +kernel
def f8_score_L64 (k106 : Int32 → Int32 → Int32 → Int32 → MdQ → Option (Int32 × MdQ)) (N : Nat) (mL_lm : Int32) (mL_lp : Nat → Int32) (mL_ls : Nat → Int32) (mL_li : Nat → Int32) (mL_lk : Nat → Int32) (mL_lf : Nat → Int32) (mG_gf : Int32) (mG_gv : Int32) (mG_gt : Int32) (mG_gn : Int32) (mG_gX : Nat → Int32) (mG_gY : Nat → Int32) (mG_gM : Int32) (mG_gK : Nat → Int32) (mG_gR : Nat → Int32) : Nat → Int32 → Int32 → Int32 → Int32 → Int32 → MdQ → Option (Int32 × MdQ)
  | 0, _, _, _, _, _, _ => none
  | n + 1, x1, x2, x3, x4, x5, (mQ_qc, mQ_qb, mQ_qp, mQ_qr, mQ_qC) =>
    if mG_gn ≤ x5 then k106 x1 x2 x3 x4 (mQ_qc, mQ_qb, mQ_qp, mQ_qr, mQ_qC) else if x4 = 0 then if (((121 : Int32) * x5) + x3) < 0 ∨ 968 ≤ (((121 : Int32) * x5) + x3).toNatClampNeg then none else if (mG_gK (((121 : Int32) * x5) + x3).toNatClampNeg) = 0 then nm_v (x5 + (1 : Int32)) (fun v5_2 => f8_score_L64 k106 N mL_lm mL_lp mL_ls mL_li mL_lk mL_lf mG_gf mG_gv mG_gt mG_gn mG_gX mG_gY mG_gM mG_gK mG_gR n x1 x2 x3 (0 : Int32) v5_2 (mQ_qc, mQ_qb, mQ_qp, mQ_qr, mQ_qC)) else nm_v (x5 + (1 : Int32)) (fun v5_3 => f8_score_L64 k106 N mL_lm mL_lp mL_ls mL_li mL_lk mL_lf mG_gf mG_gv mG_gt mG_gn mG_gX mG_gY mG_gM mG_gK mG_gR n x1 x2 x3 (1 : Int32) v5_3 (mQ_qc, mQ_qb, mQ_qp, mQ_qr, mQ_qC)) else nm_v (x5 + (1 : Int32)) (fun v5_1 => f8_score_L64 k106 N mL_lm mL_lp mL_ls mL_li mL_lk mL_lf mG_gf mG_gv mG_gt mG_gn mG_gX mG_gY mG_gM mG_gK mG_gR n x1 x2 x3 (1 : Int32) v5_1 (mQ_qc, mQ_qb, mQ_qp, mQ_qr, mQ_qC))

def f8_score_L42 (k130 : Int32 → MdQ → Option (Int32 × MdQ)) (N : Nat) (mL_lm : Int32) (mL_lp : Nat → Int32) (mL_ls : Nat → Int32) (mL_li : Nat → Int32) (mL_lk : Nat → Int32) (mL_lf : Nat → Int32) (mG_gf : Int32) (mG_gv : Int32) (mG_gt : Int32) (mG_gn : Int32) (mG_gX : Nat → Int32) (mG_gY : Nat → Int32) (mG_gM : Int32) (mG_gK : Nat → Int32) (mG_gR : Nat → Int32) : Nat → Int32 → Int32 → Int32 → MdQ → Option (Int32 × MdQ)
  | 0, _, _, _, _ => none
  | n + 1, x1, x2, x3, (mQ_qc, mQ_qb, mQ_qp, mQ_qr, mQ_qC) =>
    if mL_lm < x3 then k130 x2 (mQ_qc, mQ_qb, mQ_qp, mQ_qr, mQ_qC) else if x1 = 0 then f8_score_L64 (fun x1_9 x2_9 x3_9 x4_9 (mQ_qc_9, mQ_qb_9, mQ_qp_9, mQ_qr_9, mQ_qC_9) => if x3_9 < 0 ∨ 121 ≤ x3_9.toNatClampNeg then none else if (mL_lk x3_9.toNatClampNeg) = x3_9 then if x4_9 = 0 then nm_v (x3_9 + (1 : Int32)) (fun v3_11 => f8_score_L42 k130 N mL_lm mL_lp mL_ls mL_li mL_lk mL_lf mG_gf mG_gv mG_gt mG_gn mG_gX mG_gY mG_gM mG_gK mG_gR n x1_9 x2_9 v3_11 (mQ_qc_9, mQ_qb_9, mQ_qp_9, mQ_qr_9, mQ_qC_9)) else nm_v (x2_9 + (1 : Int32)) (fun v2_12 => nm_v (x3_9 + (1 : Int32)) (fun v3_13 => f8_score_L42 k130 N mL_lm mL_lp mL_ls mL_li mL_lk mL_lf mG_gf mG_gv mG_gt mG_gn mG_gX mG_gY mG_gM mG_gK mG_gR n x1_9 v2_12 v3_13 (mQ_qc_9, mQ_qb_9, mQ_qp_9, mQ_qr_9, mQ_qC_9))) else nm_v (x3_9 + (1 : Int32)) (fun v3_10 => f8_score_L42 k130 N mL_lm mL_lp mL_ls mL_li mL_lk mL_lf mG_gf mG_gv mG_gt mG_gn mG_gX mG_gY mG_gM mG_gK mG_gR n x1_9 x2_9 v3_10 (mQ_qc_9, mQ_qb_9, mQ_qp_9, mQ_qr_9, mQ_qC_9))) N mL_lm mL_lp mL_ls mL_li mL_lk mL_lf mG_gf mG_gv mG_gt mG_gn mG_gX mG_gY mG_gM mG_gK mG_gR N x1 x2 x3 (1 : Int32) (0 : Int32) (mQ_qc, mQ_qb, mQ_qp, mQ_qr, mQ_qC) else f8_score_L64 (fun x1_4 x2_4 x3_4 x4_4 (mQ_qc_4, mQ_qb_4, mQ_qp_4, mQ_qr_4, mQ_qC_4) => if x3_4 < 0 ∨ 121 ≤ x3_4.toNatClampNeg then none else if (mL_lk x3_4.toNatClampNeg) = x3_4 then if x4_4 = 0 then nm_v (x3_4 + (1 : Int32)) (fun v3_6 => f8_score_L42 k130 N mL_lm mL_lp mL_ls mL_li mL_lk mL_lf mG_gf mG_gv mG_gt mG_gn mG_gX mG_gY mG_gM mG_gK mG_gR n x1_4 x2_4 v3_6 (mQ_qc_4, mQ_qb_4, mQ_qp_4, mQ_qr_4, mQ_qC_4)) else nm_v (x2_4 + (1 : Int32)) (fun v2_7 => nm_v (x3_4 + (1 : Int32)) (fun v3_8 => f8_score_L42 k130 N mL_lm mL_lp mL_ls mL_li mL_lk mL_lf mG_gf mG_gv mG_gt mG_gn mG_gX mG_gY mG_gM mG_gK mG_gR n x1_4 v2_7 v3_8 (mQ_qc_4, mQ_qb_4, mQ_qp_4, mQ_qr_4, mQ_qC_4))) else nm_v (x3_4 + (1 : Int32)) (fun v3_5 => f8_score_L42 k130 N mL_lm mL_lp mL_ls mL_li mL_lk mL_lf mG_gf mG_gv mG_gt mG_gn mG_gX mG_gY mG_gM mG_gK mG_gR n x1_4 x2_4 v3_5 (mQ_qc_4, mQ_qb_4, mQ_qp_4, mQ_qr_4, mQ_qC_4))) N mL_lm mL_lp mL_ls mL_li mL_lk mL_lf mG_gf mG_gv mG_gt mG_gn mG_gX mG_gY mG_gM mG_gK mG_gR N x1 x2 x3 (0 : Int32) (0 : Int32) (mQ_qc, mQ_qb, mQ_qp, mQ_qr, mQ_qC)

def f8_score_L26  (N : Nat) (mL_lm : Int32) (mL_lp : Nat → Int32) (mL_ls : Nat → Int32) (mL_li : Nat → Int32) (mL_lk : Nat → Int32) (mL_lf : Nat → Int32) (mG_gf : Int32) (mG_gv : Int32) (mG_gt : Int32) (mG_gn : Int32) (mG_gX : Nat → Int32) (mG_gY : Nat → Int32) (mG_gM : Int32) (mG_gK : Nat → Int32) (mG_gR : Nat → Int32) : Int32 → Int32 → MdQ → Option (Int32 × MdQ)
  | x1, y0, (mQ_qc, mQ_qb, mQ_qp, mQ_qr, mQ_qC) =>
    if y0 ≤ 0 then f8_score_L42 (fun x2_14 (mQ_qc_14, mQ_qb_14, mQ_qp_14, mQ_qr_14, mQ_qC_14) => some (x2_14, (mQ_qc_14, mQ_qb_14, mQ_qp_14, mQ_qr_14, mQ_qC_14))) N mL_lm mL_lp mL_ls mL_li mL_lk mL_lf mG_gf mG_gv mG_gt mG_gn mG_gX mG_gY mG_gM mG_gK mG_gR N x1 (0 : Int32) (1 : Int32) (mQ_qc, mQ_qb, mQ_qp, mQ_qr, y0) else some ((0 : Int32), (mQ_qc, mQ_qb, mQ_qp, mQ_qr, y0))

def f8_score_L25  (N : Nat) (mL_lm : Int32) (mL_lp : Nat → Int32) (mL_ls : Nat → Int32) (mL_li : Nat → Int32) (mL_lk : Nat → Int32) (mL_lf : Nat → Int32) (mG_gf : Int32) (mG_gv : Int32) (mG_gt : Int32) (mG_gn : Int32) (mG_gX : Nat → Int32) (mG_gY : Nat → Int32) (mG_gM : Int32) (mG_gK : Nat → Int32) (mG_gR : Nat → Int32) : Int32 → MdQ → Option (Int32 × MdQ)
  | x1, (mQ_qc, mQ_qb, mQ_qp, mQ_qr, mQ_qC) =>
    f8_score_L26 N mL_lm mL_lp mL_ls mL_li mL_lk mL_lf mG_gf mG_gv mG_gt mG_gn mG_gX mG_gY mG_gM mG_gK mG_gR x1 (0 : Int32) (mQ_qc, mQ_qb, mQ_qp, mQ_qr, mQ_qC)
def f8_score (N : Nat) (v1 : Int32) : MdL → MdG → MdQ → Option (Int32 × MdQ)
  | (mL_lm, mL_lp, mL_ls, mL_li, mL_lk, mL_lf), (mG_gf, mG_gv, mG_gt, mG_gn, mG_gX, mG_gY, mG_gM, mG_gK, mG_gR), (mQ_qc, mQ_qb, mQ_qp, mQ_qr, mQ_qC) =>
    if mG_gM = 0 then f8_score_L26 N mL_lm mL_lp mL_ls mL_li mL_lk mL_lf mG_gf mG_gv mG_gt mG_gn mG_gX mG_gY mG_gM mG_gK mG_gR v1 (1 : Int32) (mQ_qc, mQ_qb, mQ_qp, mQ_qr, mQ_qC) else if v1 = 0 then f8_score_L25 N mL_lm mL_lp mL_ls mL_li mL_lk mL_lf mG_gf mG_gv mG_gt mG_gn mG_gX mG_gY mG_gM mG_gK mG_gR v1 (mQ_qc, mQ_qb, mQ_qp, mQ_qr, mQ_qC) else if v1 = (1 : Int32) then f8_score_L25 N mL_lm mL_lp mL_ls mL_li mL_lk mL_lf mG_gf mG_gv mG_gt mG_gn mG_gX mG_gY mG_gM mG_gK mG_gR v1 (mQ_qc, mQ_qb, mQ_qp, mQ_qr, mQ_qC) else f8_score_L26 N mL_lm mL_lp mL_ls mL_li mL_lk mL_lf mG_gf mG_gv mG_gt mG_gn mG_gX mG_gY mG_gM mG_gK mG_gR v1 (2 : Int32) (mQ_qc, mQ_qb, mQ_qp, mQ_qr, mQ_qC)
set_option maxHeartbeats 4000000 in
set_option maxRecDepth 100000 in
theorem w8_score_L64 {V : EV} {p : Program} {l : Launch} {e : Env} {R : Room} {s : State} {m : MethodId} {args : Array Value} {below : List Frame} {meth : Method} {c : Code} {Q : State → Prop} {A : Nat → Prop} {kc ks : Nat} {ad : Nat → Nat} {mT : MdT} {mK : MdK} {mN : MdN} {mP : MdP} {mH : MdH} {mR : MdR} {mL_lm : Int32} {mL_lp : Nat → Int32} {mL_ls : Nat → Int32} {mL_li : Nat → Int32} {mL_lk : Nat → Int32} {mL_lf : Nat → Int32} {mG_gf : Int32} {mG_gv : Int32} {mG_gt : Int32} {mG_gn : Int32} {mG_gX : Nat → Int32} {mG_gY : Nat → Int32} {mG_gM : Int32} {mG_gK : Nat → Int32} {mG_gR : Nat → Int32} {k106 : Int32 → Int32 → Int32 → Int32 → MdQ → Option (Int32 × MdQ)} {N : Nat} {res : Int32 × MdQ} (C : CX V p l R s m args c A kc ks RX8 cX8_score 6 0 0) (K : RI V p l e R s m args below meth c Q A kc ks 6 cX8_score .int res.1 (wM V ad mT res.2 mK mN mP (mL_lm, mL_lp, mL_ls, mL_li, mL_lk, mL_lf) mH mR (mG_gf, mG_gv, mG_gt, mG_gn, mG_gX, mG_gY, mG_gM, mG_gK, mG_gR))) (hk106 : ∀ (x1 : Int32) (x2 : Int32) (x3 : Int32) (x4 : Int32) (mQ_qc : Int32) (mQ_qb : Int32) (mQ_qp : Int32) (mQ_qr : Int32) (mQ_qC : Int32), k106 x1 x2 x3 x4 (mQ_qc, mQ_qb, mQ_qp, mQ_qr, mQ_qC) = some res → WC V p l e R s m args below meth c Q A kc ks 6 (wM V ad mT (mQ_qc, mQ_qb, mQ_qp, mQ_qr, mQ_qC) mK mN mP (mL_lm, mL_lp, mL_ls, mL_li, mL_lk, mL_lf) mH mR (mG_gf, mG_gv, mG_gt, mG_gn, mG_gX, mG_gY, mG_gM, mG_gK, mG_gR)) 106 [(0, .ref (ad 0)), (1, .int x1), (2, .int x2), (3, .int x3), (4, .int x4)] []) : ∀ (n : Nat) (x1 : Int32) (x2 : Int32) (x3 : Int32) (x4 : Int32) (x5 : Int32) (mQ_qc : Int32) (mQ_qb : Int32) (mQ_qp : Int32) (mQ_qr : Int32) (mQ_qC : Int32), f8_score_L64 k106 N mL_lm mL_lp mL_ls mL_li mL_lk mL_lf mG_gf mG_gv mG_gt mG_gn mG_gX mG_gY mG_gM mG_gK mG_gR n x1 x2 x3 x4 x5 (mQ_qc, mQ_qb, mQ_qp, mQ_qr, mQ_qC) = some res → WC V p l e R s m args below meth c Q A kc ks 6 (wM V ad mT (mQ_qc, mQ_qb, mQ_qp, mQ_qr, mQ_qC) mK mN mP (mL_lm, mL_lp, mL_ls, mL_li, mL_lk, mL_lf) mH mR (mG_gf, mG_gv, mG_gt, mG_gn, mG_gX, mG_gY, mG_gM, mG_gK, mG_gR)) 64 [(0, .ref (ad 0)), (1, .int x1), (2, .int x2), (3, .int x3), (4, .int x4), (5, .int x5)] [] := by
  intro n
  induction n with
  | zero => intro _ _ _ _ _ _ _ _ _ _ hf; exact nomatch (show none = some res from hf)
  | succ n ih =>
    intro x1 x2 x3 x4 x5 mQ_qc mQ_qb mQ_qp mQ_qr mQ_qC hf
    rw [f8_score_L64] at hf
    refine k_iload C dX8_score_64 5 rfl ?_
    refine k_aload_n C dX8_score_66 0 rfl ?_
    refine g8_268 C dX8_score_67 ?_
    refine k_icmp_ge C 106 dX8_score_70 (by decide) (fun hc => ?_) (fun hc => ?_)
    · replace hf := (if_pos hc).symm.trans hf
      refine k_sub [0, 1, 2, 3, 4] (L' := [(0, .ref (ad 0)), (1, .int x1), (2, .int x2), (3, .int x3), (4, .int x4)]) rfl ?_
      exact hk106 _ _ _ _ _ _ _ _ _ hf
    · replace hf := (if_neg hc).symm.trans hf
      refine k_iload C dX8_score_73 4 rfl ?_
      refine k_if_ne C 93 dX8_score_75 (by decide) (fun hc => ?_) (fun hc => ?_)
      · replace hf := (if_neg hc).symm.trans hf
        refine k_iconst (v := (1 : Int32)) C dX8_score_93 (by decide) ?_
        refine k_goto C 98 dX8_score_94 (by decide) ?_
        refine k_istore C dX8_score_98 [(4, .int (1 : Int32)), (0, .ref (ad 0)), (1, .int x1), (2, .int x2), (3, .int x3), (5, .int x5)] (by decide) rfl ?_
        obtain ⟨v5_1, ev5_1⟩ : ∃ y : Int32, y = x5 + (1 : Int32) := ⟨_, rfl⟩
        replace hf := nm_el hf ev5_1
        refine k_iinc (v := v5_1) C dX8_score_100 5 rfl (by rw [ev5_1]; rfl) [(5, .int v5_1), (4, .int (1 : Int32)), (0, .ref (ad 0)), (1, .int x1), (2, .int x2), (3, .int x3)] (by decide) rfl ?_
        refine k_goto C 64 dX8_score_103 (by decide) ?_
        refine k_sub [2, 3, 4, 5, 1, 0] (L' := [(0, .ref (ad 0)), (1, .int x1), (2, .int x2), (3, .int x3), (4, .int (1 : Int32)), (5, .int v5_1)]) rfl ?_
        exact ih _ _ _ _ _ _ _ _ _ _ hf
      · replace hf := (if_pos hc).symm.trans hf
        refine k_aload_n C dX8_score_78 0 rfl ?_
        refine g8_120 C dX8_score_79 ?_
        refine k_bipush (v := (121 : Int32)) C dX8_score_82 (by decide) ?_
        refine k_iload C dX8_score_84 5 rfl ?_
        refine k_imul C dX8_score_86 ?_
        refine k_iload_n C dX8_score_87 3 rfl ?_
        refine k_iadd C dX8_score_88 ?_
        obtain ⟨hi, hf⟩ := gd_no hf
        refine lm36 C hi dX8_score_89 ?_
        refine k_if_eq C 97 dX8_score_90 (by decide) (fun hc => ?_) (fun hc => ?_)
        · replace hf := (if_pos hc).symm.trans hf
          refine k_iconst (v := (0 : Int32)) C dX8_score_97 (by decide) ?_
          refine k_istore C dX8_score_98 [(4, .int (0 : Int32)), (0, .ref (ad 0)), (1, .int x1), (2, .int x2), (3, .int x3), (5, .int x5)] (by decide) rfl ?_
          obtain ⟨v5_2, ev5_2⟩ : ∃ y : Int32, y = x5 + (1 : Int32) := ⟨_, rfl⟩
          replace hf := nm_el hf ev5_2
          refine k_iinc (v := v5_2) C dX8_score_100 5 rfl (by rw [ev5_2]; rfl) [(5, .int v5_2), (4, .int (0 : Int32)), (0, .ref (ad 0)), (1, .int x1), (2, .int x2), (3, .int x3)] (by decide) rfl ?_
          refine k_goto C 64 dX8_score_103 (by decide) ?_
          refine k_sub [2, 3, 4, 5, 1, 0] (L' := [(0, .ref (ad 0)), (1, .int x1), (2, .int x2), (3, .int x3), (4, .int (0 : Int32)), (5, .int v5_2)]) rfl ?_
          exact ih _ _ _ _ _ _ _ _ _ _ hf
        · replace hf := (if_neg hc).symm.trans hf
          refine k_iconst (v := (1 : Int32)) C dX8_score_93 (by decide) ?_
          refine k_goto C 98 dX8_score_94 (by decide) ?_
          refine k_istore C dX8_score_98 [(4, .int (1 : Int32)), (0, .ref (ad 0)), (1, .int x1), (2, .int x2), (3, .int x3), (5, .int x5)] (by decide) rfl ?_
          obtain ⟨v5_3, ev5_3⟩ : ∃ y : Int32, y = x5 + (1 : Int32) := ⟨_, rfl⟩
          replace hf := nm_el hf ev5_3
          refine k_iinc (v := v5_3) C dX8_score_100 5 rfl (by rw [ev5_3]; rfl) [(5, .int v5_3), (4, .int (1 : Int32)), (0, .ref (ad 0)), (1, .int x1), (2, .int x2), (3, .int x3)] (by decide) rfl ?_
          refine k_goto C 64 dX8_score_103 (by decide) ?_
          refine k_sub [2, 3, 4, 5, 1, 0] (L' := [(0, .ref (ad 0)), (1, .int x1), (2, .int x2), (3, .int x3), (4, .int (1 : Int32)), (5, .int v5_3)]) rfl ?_
          exact ih _ _ _ _ _ _ _ _ _ _ hf

set_option maxHeartbeats 4000000 in
set_option maxRecDepth 100000 in
theorem w8_score_L42 {V : EV} {p : Program} {l : Launch} {e : Env} {R : Room} {s : State} {m : MethodId} {args : Array Value} {below : List Frame} {meth : Method} {c : Code} {Q : State → Prop} {A : Nat → Prop} {kc ks : Nat} {ad : Nat → Nat} {mT : MdT} {mK : MdK} {mN : MdN} {mP : MdP} {mH : MdH} {mR : MdR} {mL_lm : Int32} {mL_lp : Nat → Int32} {mL_ls : Nat → Int32} {mL_li : Nat → Int32} {mL_lk : Nat → Int32} {mL_lf : Nat → Int32} {mG_gf : Int32} {mG_gv : Int32} {mG_gt : Int32} {mG_gn : Int32} {mG_gX : Nat → Int32} {mG_gY : Nat → Int32} {mG_gM : Int32} {mG_gK : Nat → Int32} {mG_gR : Nat → Int32} {k130 : Int32 → MdQ → Option (Int32 × MdQ)} {N : Nat} {res : Int32 × MdQ} (C : CX V p l R s m args c A kc ks RX8 cX8_score 6 0 0) (K : RI V p l e R s m args below meth c Q A kc ks 6 cX8_score .int res.1 (wM V ad mT res.2 mK mN mP (mL_lm, mL_lp, mL_ls, mL_li, mL_lk, mL_lf) mH mR (mG_gf, mG_gv, mG_gt, mG_gn, mG_gX, mG_gY, mG_gM, mG_gK, mG_gR))) (hk130 : ∀ (x2 : Int32) (mQ_qc : Int32) (mQ_qb : Int32) (mQ_qp : Int32) (mQ_qr : Int32) (mQ_qC : Int32), k130 x2 (mQ_qc, mQ_qb, mQ_qp, mQ_qr, mQ_qC) = some res → WC V p l e R s m args below meth c Q A kc ks 6 (wM V ad mT (mQ_qc, mQ_qb, mQ_qp, mQ_qr, mQ_qC) mK mN mP (mL_lm, mL_lp, mL_ls, mL_li, mL_lk, mL_lf) mH mR (mG_gf, mG_gv, mG_gt, mG_gn, mG_gX, mG_gY, mG_gM, mG_gK, mG_gR)) 130 [(2, .int x2)] []) : ∀ (n : Nat) (x1 : Int32) (x2 : Int32) (x3 : Int32) (mQ_qc : Int32) (mQ_qb : Int32) (mQ_qp : Int32) (mQ_qr : Int32) (mQ_qC : Int32), f8_score_L42 k130 N mL_lm mL_lp mL_ls mL_li mL_lk mL_lf mG_gf mG_gv mG_gt mG_gn mG_gX mG_gY mG_gM mG_gK mG_gR n x1 x2 x3 (mQ_qc, mQ_qb, mQ_qp, mQ_qr, mQ_qC) = some res → WC V p l e R s m args below meth c Q A kc ks 6 (wM V ad mT (mQ_qc, mQ_qb, mQ_qp, mQ_qr, mQ_qC) mK mN mP (mL_lm, mL_lp, mL_ls, mL_li, mL_lk, mL_lf) mH mR (mG_gf, mG_gv, mG_gt, mG_gn, mG_gX, mG_gY, mG_gM, mG_gK, mG_gR)) 42 [(0, .ref (ad 0)), (1, .int x1), (2, .int x2), (3, .int x3)] [] := by
  intro n
  induction n with
  | zero => intro _ _ _ _ _ _ _ _ hf; exact nomatch (show none = some res from hf)
  | succ n ih =>
    intro x1 x2 x3 mQ_qc mQ_qb mQ_qp mQ_qr mQ_qC hf
    rw [f8_score_L42] at hf
    refine k_iload_n C dX8_score_42 3 rfl ?_
    refine k_aload_n C dX8_score_43 0 rfl ?_
    refine g8_262 C dX8_score_44 ?_
    refine k_icmp_gt C 130 dX8_score_47 (by decide) (fun hc => ?_) (fun hc => ?_)
    · replace hf := (if_pos hc).symm.trans hf
      refine k_sub [2] (L' := [(2, .int x2)]) rfl ?_
      exact hk130 _ _ _ _ _ _ hf
    · replace hf := (if_neg hc).symm.trans hf
      refine k_iload_n C dX8_score_50 1 rfl ?_
      refine k_if_ne C 58 dX8_score_51 (by decide) (fun hc => ?_) (fun hc => ?_)
      · replace hf := (if_neg hc).symm.trans hf
        refine k_iconst (v := (0 : Int32)) C dX8_score_58 (by decide) ?_
        refine k_istore C dX8_score_59 [(4, .int (0 : Int32)), (0, .ref (ad 0)), (1, .int x1), (2, .int x2), (3, .int x3)] (by decide) rfl ?_
        refine k_iconst (v := (0 : Int32)) C dX8_score_61 (by decide) ?_
        refine k_istore C dX8_score_62 [(5, .int (0 : Int32)), (4, .int (0 : Int32)), (0, .ref (ad 0)), (1, .int x1), (2, .int x2), (3, .int x3)] (by decide) rfl ?_
        refine k_sub [2, 3, 4, 5, 1, 0] (L' := [(0, .ref (ad 0)), (1, .int x1), (2, .int x2), (3, .int x3), (4, .int (0 : Int32)), (5, .int (0 : Int32))]) rfl ?_
        refine w8_score_L64 C K ?_ _ _ _ _ _ _ _ _ _ _ _ hf
        · intro x1_4 x2_4 x3_4 x4_4 mQ_qc_4 mQ_qb_4 mQ_qp_4 mQ_qr_4 mQ_qC_4 hf
          try dsimp only at hf
          refine k_aload_n C dX8_score_106 0 rfl ?_
          refine g8_70 C dX8_score_107 ?_
          refine k_iload_n C dX8_score_110 3 rfl ?_
          obtain ⟨hi, hf⟩ := gd_no hf
          refine lm21 C hi dX8_score_111 ?_
          refine k_iload_n C dX8_score_112 3 rfl ?_
          refine k_icmp_ne C 124 dX8_score_113 (by decide) (fun hc => ?_) (fun hc => ?_)
          · replace hf := (if_neg hc).symm.trans hf
            obtain ⟨v3_5, ev3_5⟩ : ∃ y : Int32, y = x3_4 + (1 : Int32) := ⟨_, rfl⟩
            replace hf := nm_el hf ev3_5
            refine k_iinc (v := v3_5) C dX8_score_124 3 rfl (by rw [ev3_5]; rfl) [(3, .int v3_5), (0, .ref (ad 0)), (1, .int x1_4), (2, .int x2_4), (4, .int x4_4)] (by decide) rfl ?_
            refine k_goto C 42 dX8_score_127 (by decide) ?_
            refine k_sub [1, 2, 3, 0] (L' := [(0, .ref (ad 0)), (1, .int x1_4), (2, .int x2_4), (3, .int v3_5)]) rfl ?_
            exact ih _ _ _ _ _ _ _ _ hf
          · replace hf := (if_pos hc).symm.trans hf
            refine k_iload C dX8_score_116 4 rfl ?_
            refine k_if_eq C 124 dX8_score_118 (by decide) (fun hc => ?_) (fun hc => ?_)
            · replace hf := (if_pos hc).symm.trans hf
              obtain ⟨v3_6, ev3_6⟩ : ∃ y : Int32, y = x3_4 + (1 : Int32) := ⟨_, rfl⟩
              replace hf := nm_el hf ev3_6
              refine k_iinc (v := v3_6) C dX8_score_124 3 rfl (by rw [ev3_6]; rfl) [(3, .int v3_6), (0, .ref (ad 0)), (1, .int x1_4), (2, .int x2_4), (4, .int x4_4)] (by decide) rfl ?_
              refine k_goto C 42 dX8_score_127 (by decide) ?_
              refine k_sub [1, 2, 3, 0] (L' := [(0, .ref (ad 0)), (1, .int x1_4), (2, .int x2_4), (3, .int v3_6)]) rfl ?_
              exact ih _ _ _ _ _ _ _ _ hf
            · replace hf := (if_neg hc).symm.trans hf
              obtain ⟨v2_7, ev2_7⟩ : ∃ y : Int32, y = x2_4 + (1 : Int32) := ⟨_, rfl⟩
              replace hf := nm_el hf ev2_7
              refine k_iinc (v := v2_7) C dX8_score_121 2 rfl (by rw [ev2_7]; rfl) [(2, .int v2_7), (0, .ref (ad 0)), (1, .int x1_4), (3, .int x3_4), (4, .int x4_4)] (by decide) rfl ?_
              obtain ⟨v3_8, ev3_8⟩ : ∃ y : Int32, y = x3_4 + (1 : Int32) := ⟨_, rfl⟩
              replace hf := nm_el hf ev3_8
              refine k_iinc (v := v3_8) C dX8_score_124 3 rfl (by rw [ev3_8]; rfl) [(3, .int v3_8), (2, .int v2_7), (0, .ref (ad 0)), (1, .int x1_4), (4, .int x4_4)] (by decide) rfl ?_
              refine k_goto C 42 dX8_score_127 (by decide) ?_
              refine k_sub [2, 3, 1, 0] (L' := [(0, .ref (ad 0)), (1, .int x1_4), (2, .int v2_7), (3, .int v3_8)]) rfl ?_
              exact ih _ _ _ _ _ _ _ _ hf
      · replace hf := (if_pos hc).symm.trans hf
        refine k_iconst (v := (1 : Int32)) C dX8_score_54 (by decide) ?_
        refine k_goto C 59 dX8_score_55 (by decide) ?_
        refine k_istore C dX8_score_59 [(4, .int (1 : Int32)), (0, .ref (ad 0)), (1, .int x1), (2, .int x2), (3, .int x3)] (by decide) rfl ?_
        refine k_iconst (v := (0 : Int32)) C dX8_score_61 (by decide) ?_
        refine k_istore C dX8_score_62 [(5, .int (0 : Int32)), (4, .int (1 : Int32)), (0, .ref (ad 0)), (1, .int x1), (2, .int x2), (3, .int x3)] (by decide) rfl ?_
        refine k_sub [2, 3, 4, 5, 1, 0] (L' := [(0, .ref (ad 0)), (1, .int x1), (2, .int x2), (3, .int x3), (4, .int (1 : Int32)), (5, .int (0 : Int32))]) rfl ?_
        refine w8_score_L64 C K ?_ _ _ _ _ _ _ _ _ _ _ _ hf
        · intro x1_9 x2_9 x3_9 x4_9 mQ_qc_9 mQ_qb_9 mQ_qp_9 mQ_qr_9 mQ_qC_9 hf
          try dsimp only at hf
          refine k_aload_n C dX8_score_106 0 rfl ?_
          refine g8_70 C dX8_score_107 ?_
          refine k_iload_n C dX8_score_110 3 rfl ?_
          obtain ⟨hi, hf⟩ := gd_no hf
          refine lm21 C hi dX8_score_111 ?_
          refine k_iload_n C dX8_score_112 3 rfl ?_
          refine k_icmp_ne C 124 dX8_score_113 (by decide) (fun hc => ?_) (fun hc => ?_)
          · replace hf := (if_neg hc).symm.trans hf
            obtain ⟨v3_10, ev3_10⟩ : ∃ y : Int32, y = x3_9 + (1 : Int32) := ⟨_, rfl⟩
            replace hf := nm_el hf ev3_10
            refine k_iinc (v := v3_10) C dX8_score_124 3 rfl (by rw [ev3_10]; rfl) [(3, .int v3_10), (0, .ref (ad 0)), (1, .int x1_9), (2, .int x2_9), (4, .int x4_9)] (by decide) rfl ?_
            refine k_goto C 42 dX8_score_127 (by decide) ?_
            refine k_sub [1, 2, 3, 0] (L' := [(0, .ref (ad 0)), (1, .int x1_9), (2, .int x2_9), (3, .int v3_10)]) rfl ?_
            exact ih _ _ _ _ _ _ _ _ hf
          · replace hf := (if_pos hc).symm.trans hf
            refine k_iload C dX8_score_116 4 rfl ?_
            refine k_if_eq C 124 dX8_score_118 (by decide) (fun hc => ?_) (fun hc => ?_)
            · replace hf := (if_pos hc).symm.trans hf
              obtain ⟨v3_11, ev3_11⟩ : ∃ y : Int32, y = x3_9 + (1 : Int32) := ⟨_, rfl⟩
              replace hf := nm_el hf ev3_11
              refine k_iinc (v := v3_11) C dX8_score_124 3 rfl (by rw [ev3_11]; rfl) [(3, .int v3_11), (0, .ref (ad 0)), (1, .int x1_9), (2, .int x2_9), (4, .int x4_9)] (by decide) rfl ?_
              refine k_goto C 42 dX8_score_127 (by decide) ?_
              refine k_sub [1, 2, 3, 0] (L' := [(0, .ref (ad 0)), (1, .int x1_9), (2, .int x2_9), (3, .int v3_11)]) rfl ?_
              exact ih _ _ _ _ _ _ _ _ hf
            · replace hf := (if_neg hc).symm.trans hf
              obtain ⟨v2_12, ev2_12⟩ : ∃ y : Int32, y = x2_9 + (1 : Int32) := ⟨_, rfl⟩
              replace hf := nm_el hf ev2_12
              refine k_iinc (v := v2_12) C dX8_score_121 2 rfl (by rw [ev2_12]; rfl) [(2, .int v2_12), (0, .ref (ad 0)), (1, .int x1_9), (3, .int x3_9), (4, .int x4_9)] (by decide) rfl ?_
              obtain ⟨v3_13, ev3_13⟩ : ∃ y : Int32, y = x3_9 + (1 : Int32) := ⟨_, rfl⟩
              replace hf := nm_el hf ev3_13
              refine k_iinc (v := v3_13) C dX8_score_124 3 rfl (by rw [ev3_13]; rfl) [(3, .int v3_13), (2, .int v2_12), (0, .ref (ad 0)), (1, .int x1_9), (4, .int x4_9)] (by decide) rfl ?_
              refine k_goto C 42 dX8_score_127 (by decide) ?_
              refine k_sub [2, 3, 1, 0] (L' := [(0, .ref (ad 0)), (1, .int x1_9), (2, .int v2_12), (3, .int v3_13)]) rfl ?_
              exact ih _ _ _ _ _ _ _ _ hf

set_option maxHeartbeats 4000000 in
set_option maxRecDepth 100000 in
theorem w8_score_L26 {V : EV} {p : Program} {l : Launch} {e : Env} {R : Room} {s : State} {m : MethodId} {args : Array Value} {below : List Frame} {meth : Method} {c : Code} {Q : State → Prop} {A : Nat → Prop} {kc ks : Nat} {ad : Nat → Nat} {mT : MdT} {mK : MdK} {mN : MdN} {mP : MdP} {mH : MdH} {mR : MdR} {mL_lm : Int32} {mL_lp : Nat → Int32} {mL_ls : Nat → Int32} {mL_li : Nat → Int32} {mL_lk : Nat → Int32} {mL_lf : Nat → Int32} {mG_gf : Int32} {mG_gv : Int32} {mG_gt : Int32} {mG_gn : Int32} {mG_gX : Nat → Int32} {mG_gY : Nat → Int32} {mG_gM : Int32} {mG_gK : Nat → Int32} {mG_gR : Nat → Int32}  {N : Nat} {res : Int32 × MdQ} (C : CX V p l R s m args c A kc ks RX8 cX8_score 6 0 0) (K : RI V p l e R s m args below meth c Q A kc ks 6 cX8_score .int res.1 (wM V ad mT res.2 mK mN mP (mL_lm, mL_lp, mL_ls, mL_li, mL_lk, mL_lf) mH mR (mG_gf, mG_gv, mG_gt, mG_gn, mG_gX, mG_gY, mG_gM, mG_gK, mG_gR)))  : ∀ (x1 : Int32) (y0 : Int32) (mQ_qc : Int32) (mQ_qb : Int32) (mQ_qp : Int32) (mQ_qr : Int32) (mQ_qC : Int32), f8_score_L26 N mL_lm mL_lp mL_ls mL_li mL_lk mL_lf mG_gf mG_gv mG_gt mG_gn mG_gX mG_gY mG_gM mG_gK mG_gR x1 y0 (mQ_qc, mQ_qb, mQ_qp, mQ_qr, mQ_qC) = some res → WC V p l e R s m args below meth c Q A kc ks 6 (wM V ad mT (mQ_qc, mQ_qb, mQ_qp, mQ_qr, mQ_qC) mK mN mP (mL_lm, mL_lp, mL_ls, mL_li, mL_lk, mL_lf) mH mR (mG_gf, mG_gv, mG_gt, mG_gn, mG_gX, mG_gY, mG_gM, mG_gK, mG_gR)) 26 [(0, .ref (ad 0)), (1, .int x1)] [.int y0, .ref (ad 0)] := by
  intro x1 y0 mQ_qc mQ_qb mQ_qp mQ_qr mQ_qC hf
  rw [f8_score_L26] at hf
  refine p8_126 C dX8_score_26 ?_
  refine k_aload_n C dX8_score_29 0 rfl ?_
  refine g8_126 C dX8_score_30 ?_
  refine k_if_le C 38 dX8_score_33 (by decide) (fun hc => ?_) (fun hc => ?_)
  · replace hf := (if_pos hc).symm.trans hf
    refine k_iconst (v := (0 : Int32)) C dX8_score_38 (by decide) ?_
    refine k_istore_n C dX8_score_39 [(2, .int (0 : Int32)), (0, .ref (ad 0)), (1, .int x1)] (by decide) rfl ?_
    refine k_iconst (v := (1 : Int32)) C dX8_score_40 (by decide) ?_
    refine k_istore_n C dX8_score_41 [(3, .int (1 : Int32)), (2, .int (0 : Int32)), (0, .ref (ad 0)), (1, .int x1)] (by decide) rfl ?_
    refine k_sub [2, 3, 1, 0] (L' := [(0, .ref (ad 0)), (1, .int x1), (2, .int (0 : Int32)), (3, .int (1 : Int32))]) rfl ?_
    refine w8_score_L42 C K ?_ _ _ _ _ _ _ _ _ _ hf
    · intro x2_14 mQ_qc_14 mQ_qb_14 mQ_qp_14 mQ_qr_14 mQ_qC_14 hf
      try dsimp only at hf
      refine k_iload_n C dX8_score_130 0 rfl ?_
      cases hf
      exact K _ _ dX8_score_131 rfl
  · replace hf := (if_neg hc).symm.trans hf
    refine k_iconst (v := (0 : Int32)) C dX8_score_36 (by decide) ?_
    cases hf
    exact K _ _ dX8_score_37 rfl

set_option maxHeartbeats 4000000 in
set_option maxRecDepth 100000 in
theorem w8_score_L25 {V : EV} {p : Program} {l : Launch} {e : Env} {R : Room} {s : State} {m : MethodId} {args : Array Value} {below : List Frame} {meth : Method} {c : Code} {Q : State → Prop} {A : Nat → Prop} {kc ks : Nat} {ad : Nat → Nat} {mT : MdT} {mK : MdK} {mN : MdN} {mP : MdP} {mH : MdH} {mR : MdR} {mL_lm : Int32} {mL_lp : Nat → Int32} {mL_ls : Nat → Int32} {mL_li : Nat → Int32} {mL_lk : Nat → Int32} {mL_lf : Nat → Int32} {mG_gf : Int32} {mG_gv : Int32} {mG_gt : Int32} {mG_gn : Int32} {mG_gX : Nat → Int32} {mG_gY : Nat → Int32} {mG_gM : Int32} {mG_gK : Nat → Int32} {mG_gR : Nat → Int32}  {N : Nat} {res : Int32 × MdQ} (C : CX V p l R s m args c A kc ks RX8 cX8_score 6 0 0) (K : RI V p l e R s m args below meth c Q A kc ks 6 cX8_score .int res.1 (wM V ad mT res.2 mK mN mP (mL_lm, mL_lp, mL_ls, mL_li, mL_lk, mL_lf) mH mR (mG_gf, mG_gv, mG_gt, mG_gn, mG_gX, mG_gY, mG_gM, mG_gK, mG_gR)))  : ∀ (x1 : Int32) (mQ_qc : Int32) (mQ_qb : Int32) (mQ_qp : Int32) (mQ_qr : Int32) (mQ_qC : Int32), f8_score_L25 N mL_lm mL_lp mL_ls mL_li mL_lk mL_lf mG_gf mG_gv mG_gt mG_gn mG_gX mG_gY mG_gM mG_gK mG_gR x1 (mQ_qc, mQ_qb, mQ_qp, mQ_qr, mQ_qC) = some res → WC V p l e R s m args below meth c Q A kc ks 6 (wM V ad mT (mQ_qc, mQ_qb, mQ_qp, mQ_qr, mQ_qC) mK mN mP (mL_lm, mL_lp, mL_ls, mL_li, mL_lk, mL_lf) mH mR (mG_gf, mG_gv, mG_gt, mG_gn, mG_gX, mG_gY, mG_gM, mG_gK, mG_gR)) 25 [(0, .ref (ad 0)), (1, .int x1)] [.ref (ad 0)] := by
  intro x1 mQ_qc mQ_qb mQ_qp mQ_qr mQ_qC hf
  rw [f8_score_L25] at hf
  refine k_iconst (v := (0 : Int32)) C dX8_score_25 (by decide) ?_
  exact w8_score_L26 C K _ _ _ _ _ _ _ hf
set_option maxHeartbeats 4000000 in
set_option maxRecDepth 100000 in
theorem b8_score {V : EV} {p : Program} {l : Launch} {e : Env} {R : Room} {s : State} {m : MethodId} {args : Array Value} {below : List Frame} {meth : Method} {c : Code} {Q : State → Prop} {A : Nat → Prop} {kc ks : Nat} {ad : Nat → Nat} {mT : MdT} {mK : MdK} {mN : MdN} {mP : MdP} {mH : MdH} {mR : MdR} {mL_lm : Int32} {mL_lp : Nat → Int32} {mL_ls : Nat → Int32} {mL_li : Nat → Int32} {mL_lk : Nat → Int32} {mL_lf : Nat → Int32} {mG_gf : Int32} {mG_gv : Int32} {mG_gt : Int32} {mG_gn : Int32} {mG_gX : Nat → Int32} {mG_gY : Nat → Int32} {mG_gM : Int32} {mG_gK : Nat → Int32} {mG_gR : Nat → Int32} {v1 : Int32} {mQ_qc : Int32} {mQ_qb : Int32} {mQ_qp : Int32} {mQ_qr : Int32} {mQ_qC : Int32} {N : Nat} {res : Int32 × MdQ} (C : CX V p l R s m args c A kc ks RX8 cX8_score 6 0 0) (hf : f8_score N v1 (mL_lm, mL_lp, mL_ls, mL_li, mL_lk, mL_lf) (mG_gf, mG_gv, mG_gt, mG_gn, mG_gX, mG_gY, mG_gM, mG_gK, mG_gR) (mQ_qc, mQ_qb, mQ_qp, mQ_qr, mQ_qC) = some res) (K : RI V p l e R s m args below meth c Q A kc ks 6 cX8_score .int res.1 (wM V ad mT res.2 mK mN mP (mL_lm, mL_lp, mL_ls, mL_li, mL_lk, mL_lf) mH mR (mG_gf, mG_gv, mG_gt, mG_gn, mG_gX, mG_gY, mG_gM, mG_gK, mG_gR))) : WC V p l e R s m args below meth c Q A kc ks 6 (wM V ad mT (mQ_qc, mQ_qb, mQ_qp, mQ_qr, mQ_qC) mK mN mP (mL_lm, mL_lp, mL_ls, mL_li, mL_lk, mL_lf) mH mR (mG_gf, mG_gv, mG_gt, mG_gn, mG_gX, mG_gY, mG_gM, mG_gK, mG_gR)) 0 [(0, .ref (ad 0)), (1, .int v1)] [] := by
  rw [f8_score] at hf
  refine k_aload_n C dX8_score_0 0 rfl ?_
  refine k_aload_n C dX8_score_1 0 rfl ?_
  refine g8_271 C dX8_score_2 ?_
  refine k_if_ne C 12 dX8_score_5 (by decide) (fun hc => ?_) (fun hc => ?_)
  · replace hf := (if_neg hc).symm.trans hf
    refine k_iload_n C dX8_score_12 1 rfl ?_
    refine k_if_eq C 25 dX8_score_13 (by decide) (fun hc => ?_) (fun hc => ?_)
    · replace hf := (if_pos hc).symm.trans hf
      exact w8_score_L25 C K _ _ _ _ _ _ hf
    · replace hf := (if_neg hc).symm.trans hf
      refine k_iload_n C dX8_score_16 1 rfl ?_
      refine k_iconst (v := (1 : Int32)) C dX8_score_17 (by decide) ?_
      refine k_icmp_eq C 25 dX8_score_18 (by decide) (fun hc => ?_) (fun hc => ?_)
      · replace hf := (if_pos hc).symm.trans hf
        exact w8_score_L25 C K _ _ _ _ _ _ hf
      · replace hf := (if_neg hc).symm.trans hf
        refine k_iconst (v := (2 : Int32)) C dX8_score_21 (by decide) ?_
        refine k_goto C 26 dX8_score_22 (by decide) ?_
        exact w8_score_L26 C K _ _ _ _ _ _ _ hf
  · replace hf := (if_pos hc).symm.trans hf
    refine k_iconst (v := (1 : Int32)) C dX8_score_8 (by decide) ?_
    refine k_goto C 26 dX8_score_9 (by decide) ?_
    exact w8_score_L26 C K _ _ _ _ _ _ _ hf
theorem c8_score {V : EV} {l : Launch} (hl0 : l.stackTraces = false) {ad : Nat → Nat} {mT : MdT} {mK : MdK} {mN : MdN} {mP : MdP} {mH : MdH} {mR : MdR} {mL_lm : Int32} {mL_lp : Nat → Int32} {mL_ls : Nat → Int32} {mL_li : Nat → Int32} {mL_lk : Nat → Int32} {mL_lf : Nat → Int32} {mG_gf : Int32} {mG_gv : Int32} {mG_gt : Int32} {mG_gn : Int32} {mG_gX : Nat → Int32} {mG_gY : Nat → Int32} {mG_gM : Int32} {mG_gK : Nat → Int32} {mG_gR : Nat → Int32} {v1 : Int32} {mQ_qc : Int32} {mQ_qb : Int32} {mQ_qp : Int32} {mQ_qr : Int32} {mQ_qC : Int32} {N : Nat} {res : Int32 × MdQ} (hf : f8_score N v1 (mL_lm, mL_lp, mL_ls, mL_li, mL_lk, mL_lf) (mG_gf, mG_gv, mG_gt, mG_gn, mG_gX, mG_gY, mG_gM, mG_gK, mG_gR) (mQ_qc, mQ_qb, mQ_qp, mQ_qr, mQ_qC) = some res) : MI V l yX8_score cX8_score 6 .int 0 0 [.ref (ad 0), .int v1] (wM V ad mT (mQ_qc, mQ_qb, mQ_qp, mQ_qr, mQ_qC) mK mN mP (mL_lm, mL_lp, mL_ls, mL_li, mL_lk, mL_lf) mH mR (mG_gf, mG_gv, mG_gt, mG_gn, mG_gX, mG_gY, mG_gM, mG_gK, mG_gR)) res.1 (wM V ad mT res.2 mK mN mP (mL_lm, mL_lp, mL_ls, mL_li, mL_lk, mL_lf) mH mR (mG_gf, mG_gv, mG_gt, mG_gn, mG_gX, mG_gY, mG_gM, mG_gK, mG_gR)) :=
  mi_of hl0 (by decide +kernel) (Nat.le_of_ble_eq_true rfl) (fun p e R s m args below meth c Q A C K => b8_score C hf K)

