theorem ok7_type : okCV RX7 yX7_type 1 := by unfold okCV; decide +kernel
def f7_type (v1 : Int32) : TopS → Option (Int32 × TopS)
  | (top_tx, top_ln, top_cp, top_cq, top_sq, top_fu, top_lv, top_lt) =>
    if v1 < (32 : Int32) then some ((-1 : Int32), (top_tx, top_ln, top_cp, top_cq, top_sq, top_fu, top_lv, top_lt)) else if (126 : Int32) < v1 then some ((-1 : Int32), (top_tx, top_ln, top_cp, top_cq, top_sq, top_fu, top_lv, top_lt)) else if top_ln = (60 : Int32) then some ((-1 : Int32), (top_tx, top_ln, top_cp, top_cq, top_sq, top_fu, top_lv, top_lt)) else if top_ln < 0 ∨ 60 ≤ top_ln.toNatClampNeg then none else some ((top_ln + (1 : Int32)), ((upd top_tx top_ln.toNatClampNeg (vp_nar .char v1)), (top_ln + (1 : Int32)), top_cp, top_cq, top_sq, top_fu, top_lv, top_lt))
set_option maxHeartbeats 4000000 in
set_option maxRecDepth 100000 in
theorem b7_type {V : EV} {p : Program} {l : Launch} {e : Env} {R : Room} {s : State} {m : MethodId} {args : Array Value} {below : List Frame} {meth : Method} {c : Code} {Q : State → Prop} {A : Nat → Prop} {kc ks : Nat} {ad : Nat → Nat} {rd : RdS} {ra : Int32} {co : Nat → CoS} {mu : MuS} {fo : FoS} {tr : TrS} {ma : MaS} {mq : Nat} {mx : MxS} {v1 : Int32} {top_tx : Nat → Int32} {top_ln : Int32} {top_cp : Int32} {top_cq : Nat} {top_sq : Nat} {top_fu : Int32} {top_lv : Int32} {top_lt : Int32} {res : Int32 × TopS} (C : CX V p l R s m args c A kc ks RX7 cX7_type 2 0 0) (hf : f7_type v1 (top_tx, top_ln, top_cp, top_cq, top_sq, top_fu, top_lv, top_lt) = some res) (K : RI V p l e R s m args below meth c Q A kc ks 2 cX7_type .int res.1 (wC V ad res.2 rd ra co mu fo tr ma mq mx)) : WC V p l e R s m args below meth c Q A kc ks 2 (wC V ad (top_tx, top_ln, top_cp, top_cq, top_sq, top_fu, top_lv, top_lt) rd ra co mu fo tr ma mq mx) 0 [(0, .ref (ad 0)), (1, .int v1)] [] := by
  rw [f7_type] at hf
  refine k_iload_n C dX7_type_0 1 rfl ?_
  refine k_bipush (v := (32 : Int32)) C dX7_type_1 (by decide) ?_
  refine k_icmp_lt C 21 dX7_type_3 (by decide) (fun hc => ?_) (fun hc => ?_)
  · replace hf := (if_pos hc).symm.trans hf
    refine k_iconst (v := (-1 : Int32)) C dX7_type_21 (by decide) ?_
    cases hf
    exact K _ _ dX7_type_22 rfl
  · replace hf := (if_neg hc).symm.trans hf
    refine k_iload_n C dX7_type_6 1 rfl ?_
    refine k_bipush (v := (126 : Int32)) C dX7_type_7 (by decide) ?_
    refine k_icmp_gt C 21 dX7_type_9 (by decide) (fun hc => ?_) (fun hc => ?_)
    · replace hf := (if_pos hc).symm.trans hf
      refine k_iconst (v := (-1 : Int32)) C dX7_type_21 (by decide) ?_
      cases hf
      exact K _ _ dX7_type_22 rfl
    · replace hf := (if_neg hc).symm.trans hf
      refine k_aload_n C dX7_type_12 0 rfl ?_
      refine g7_13 C dX7_type_13 ?_
      refine k_bipush (v := (60 : Int32)) C dX7_type_16 (by decide) ?_
      refine k_icmp_ne C 23 dX7_type_18 (by decide) (fun hc => ?_) (fun hc => ?_)
      · replace hf := (if_neg hc).symm.trans hf
        refine k_aload_n C dX7_type_23 0 rfl ?_
        refine g7_9 C dX7_type_24 ?_
        refine k_aload_n C dX7_type_27 0 rfl ?_
        refine g7_13 C dX7_type_28 ?_
        refine k_iload_n C dX7_type_31 1 rfl ?_
        obtain ⟨hi, hf⟩ := gd_no hf
        refine sc1 C hi dX7_type_32 ?_
        refine k_aload_n C dX7_type_33 0 rfl ?_
        refine k_dup C dX7_type_34 rfl ?_
        refine g7_13 C dX7_type_35 ?_
        refine k_iconst (v := (1 : Int32)) C dX7_type_38 (by decide) ?_
        refine k_iadd C dX7_type_39 ?_
        refine p7_13 C dX7_type_40 ?_
        refine k_aload_n C dX7_type_43 0 rfl ?_
        refine g7_13 C dX7_type_44 ?_
        cases hf
        exact K _ _ dX7_type_47 rfl
      · replace hf := (if_pos hc).symm.trans hf
        refine k_iconst (v := (-1 : Int32)) C dX7_type_21 (by decide) ?_
        cases hf
        exact K _ _ dX7_type_22 rfl
theorem c7_type {V : EV} {l : Launch} (hl0 : l.stackTraces = false) {ad : Nat → Nat} {rd : RdS} {ra : Int32} {co : Nat → CoS} {mu : MuS} {fo : FoS} {tr : TrS} {ma : MaS} {mq : Nat} {mx : MxS} {v1 : Int32} {top_tx : Nat → Int32} {top_ln : Int32} {top_cp : Int32} {top_cq : Nat} {top_sq : Nat} {top_fu : Int32} {top_lv : Int32} {top_lt : Int32} {res : Int32 × TopS} (hf : f7_type v1 (top_tx, top_ln, top_cp, top_cq, top_sq, top_fu, top_lv, top_lt) = some res) : MI V l yX7_type cX7_type 2 .int 0 0 [.ref (ad 0), .int v1] (wC V ad (top_tx, top_ln, top_cp, top_cq, top_sq, top_fu, top_lv, top_lt) rd ra co mu fo tr ma mq mx) res.1 (wC V ad res.2 rd ra co mu fo tr ma mq mx) :=
  mi_of hl0 (by decide +kernel) (Nat.le_of_ble_eq_true rfl) (fun p e R s m args below meth c Q A C K => b7_type C hf K)

theorem ok7_wipe : okCV RX7 yX7_wipe 0 := by unfold okCV; decide +kernel
def f7_wipe  : TopS → Option (TopS)
  | (top_tx, top_ln, top_cp, top_cq, top_sq, top_fu, top_lv, top_lt) =>
    some (top_tx, (0 : Int32), top_cp, top_cq, top_sq, top_fu, top_lv, top_lt)
set_option maxHeartbeats 4000000 in
set_option maxRecDepth 100000 in
theorem b7_wipe {V : EV} {p : Program} {l : Launch} {e : Env} {R : Room} {s : State} {m : MethodId} {args : Array Value} {below : List Frame} {meth : Method} {c : Code} {Q : State → Prop} {A : Nat → Prop} {kc ks : Nat} {ad : Nat → Nat} {rd : RdS} {ra : Int32} {co : Nat → CoS} {mu : MuS} {fo : FoS} {tr : TrS} {ma : MaS} {mq : Nat} {mx : MxS} {top_tx : Nat → Int32} {top_ln : Int32} {top_cp : Int32} {top_cq : Nat} {top_sq : Nat} {top_fu : Int32} {top_lv : Int32} {top_lt : Int32} {res : TopS} (C : CX V p l R s m args c A kc ks RX7 cX7_wipe 1 0 0) (hf : f7_wipe (top_tx, top_ln, top_cp, top_cq, top_sq, top_fu, top_lv, top_lt) = some res) (K : RV V p l e R s m args below meth c Q A kc ks 1 cX7_wipe (wC V ad res rd ra co mu fo tr ma mq mx)) : WC V p l e R s m args below meth c Q A kc ks 1 (wC V ad (top_tx, top_ln, top_cp, top_cq, top_sq, top_fu, top_lv, top_lt) rd ra co mu fo tr ma mq mx) 0 [(0, .ref (ad 0))] [] := by
  rw [f7_wipe] at hf
  refine k_aload_n C dX7_wipe_0 0 rfl ?_
  refine k_iconst (v := (0 : Int32)) C dX7_wipe_1 (by decide) ?_
  refine p7_13 C dX7_wipe_2 ?_
  cases hf
  exact K _ _ dX7_wipe_5
theorem c7_wipe {V : EV} {l : Launch} (hl0 : l.stackTraces = false) {ad : Nat → Nat} {rd : RdS} {ra : Int32} {co : Nat → CoS} {mu : MuS} {fo : FoS} {tr : TrS} {ma : MaS} {mq : Nat} {mx : MxS} {top_tx : Nat → Int32} {top_ln : Int32} {top_cp : Int32} {top_cq : Nat} {top_sq : Nat} {top_fu : Int32} {top_lv : Int32} {top_lt : Int32} {res : TopS} (hf : f7_wipe (top_tx, top_ln, top_cp, top_cq, top_sq, top_fu, top_lv, top_lt) = some res) : MV V l yX7_wipe cX7_wipe 1 0 0 [.ref (ad 0)] (wC V ad (top_tx, top_ln, top_cp, top_cq, top_sq, top_fu, top_lv, top_lt) rd ra co mu fo tr ma mq mx) (wC V ad res rd ra co mu fo tr ma mq mx) :=
  mv_of hl0 (by decide +kernel) (Nat.le_of_ble_eq_true rfl) (fun p e R s m args below meth c Q A C K => b7_wipe C hf K)

theorem ok7_fuel : okCV RX7 yX7_fuel 1 := by unfold okCV; decide +kernel
def f7_fuel (v1 : Int32) : TopS → MxS → Option (Int32 × TopS × MxS)
  | (top_tx, top_ln, top_cp, top_cq, top_sq, top_fu, top_lv, top_lt), (mx_xN, mx_xM, mx_xS, mx_xK, mx_xX, mx_xY) =>
    if v1 < (1 : Int32) then some ((0 : Int32), (top_tx, top_ln, top_cp, top_cq, top_sq, top_fu, top_lv, top_lt), (mx_xN, mx_xM, mx_xS, mx_xK, mx_xX, mx_xY)) else if v1 ≤ (50 : Int32) then some ((1 : Int32), (top_tx, top_ln, top_cp, top_cq, top_sq, v1, top_lv, top_lt), (mx_xN, (0 : Int32), mx_xS, mx_xK, mx_xX, mx_xY)) else some ((0 : Int32), (top_tx, top_ln, top_cp, top_cq, top_sq, top_fu, top_lv, top_lt), (mx_xN, mx_xM, mx_xS, mx_xK, mx_xX, mx_xY))
set_option maxHeartbeats 4000000 in
set_option maxRecDepth 100000 in
theorem b7_fuel {V : EV} {p : Program} {l : Launch} {e : Env} {R : Room} {s : State} {m : MethodId} {args : Array Value} {below : List Frame} {meth : Method} {c : Code} {Q : State → Prop} {A : Nat → Prop} {kc ks : Nat} {ad : Nat → Nat} {rd : RdS} {ra : Int32} {co : Nat → CoS} {mu : MuS} {fo : FoS} {tr : TrS} {ma : MaS} {mq : Nat} {v1 : Int32} {top_tx : Nat → Int32} {top_ln : Int32} {top_cp : Int32} {top_cq : Nat} {top_sq : Nat} {top_fu : Int32} {top_lv : Int32} {top_lt : Int32} {mx_xN : Int32} {mx_xM : Int32} {mx_xS : Nat → Int64} {mx_xK : Nat → Int32} {mx_xX : Nat → Int32} {mx_xY : Nat → Int32} {res : Int32 × TopS × MxS} (C : CX V p l R s m args c A kc ks RX7 cX7_fuel 2 0 0) (hf : f7_fuel v1 (top_tx, top_ln, top_cp, top_cq, top_sq, top_fu, top_lv, top_lt) (mx_xN, mx_xM, mx_xS, mx_xK, mx_xX, mx_xY) = some res) (K : RI V p l e R s m args below meth c Q A kc ks 2 cX7_fuel .boolean res.1 (wC V ad res.2.1 rd ra co mu fo tr ma mq res.2.2)) : WC V p l e R s m args below meth c Q A kc ks 2 (wC V ad (top_tx, top_ln, top_cp, top_cq, top_sq, top_fu, top_lv, top_lt) rd ra co mu fo tr ma mq (mx_xN, mx_xM, mx_xS, mx_xK, mx_xX, mx_xY)) 0 [(0, .ref (ad 0)), (1, .int v1)] [] := by
  rw [f7_fuel] at hf
  refine k_iload_n C dX7_fuel_0 1 rfl ?_
  refine k_iconst (v := (1 : Int32)) C dX7_fuel_1 (by decide) ?_
  refine k_icmp_lt C 11 dX7_fuel_2 (by decide) (fun hc => ?_) (fun hc => ?_)
  · replace hf := (if_pos hc).symm.trans hf
    refine k_iconst (v := (0 : Int32)) C dX7_fuel_11 (by decide) ?_
    cases hf
    exact K _ _ dX7_fuel_12 (nar_b (Or.inl rfl))
  · replace hf := (if_neg hc).symm.trans hf
    refine k_iload_n C dX7_fuel_5 1 rfl ?_
    refine k_bipush (v := (50 : Int32)) C dX7_fuel_6 (by decide) ?_
    refine k_icmp_le C 13 dX7_fuel_8 (by decide) (fun hc => ?_) (fun hc => ?_)
    · replace hf := (if_pos hc).symm.trans hf
      refine k_aload_n C dX7_fuel_13 0 rfl ?_
      refine k_iload_n C dX7_fuel_14 1 rfl ?_
      refine p7_66 C dX7_fuel_15 ?_
      refine k_aload_n C dX7_fuel_18 0 rfl ?_
      refine g7_62 C dX7_fuel_19 ?_
      refine k_iconst (v := (0 : Int32)) C dX7_fuel_22 (by decide) ?_
      refine p7_138 C (Or.inl rfl) dX7_fuel_23 ?_
      refine k_iconst (v := (1 : Int32)) C dX7_fuel_26 (by decide) ?_
      cases hf
      exact K _ _ dX7_fuel_27 (nar_b (Or.inr rfl))
    · replace hf := (if_neg hc).symm.trans hf
      refine k_iconst (v := (0 : Int32)) C dX7_fuel_11 (by decide) ?_
      cases hf
      exact K _ _ dX7_fuel_12 (nar_b (Or.inl rfl))
theorem c7_fuel {V : EV} {l : Launch} (hl0 : l.stackTraces = false) {ad : Nat → Nat} {rd : RdS} {ra : Int32} {co : Nat → CoS} {mu : MuS} {fo : FoS} {tr : TrS} {ma : MaS} {mq : Nat} {v1 : Int32} {top_tx : Nat → Int32} {top_ln : Int32} {top_cp : Int32} {top_cq : Nat} {top_sq : Nat} {top_fu : Int32} {top_lv : Int32} {top_lt : Int32} {mx_xN : Int32} {mx_xM : Int32} {mx_xS : Nat → Int64} {mx_xK : Nat → Int32} {mx_xX : Nat → Int32} {mx_xY : Nat → Int32} {res : Int32 × TopS × MxS} (hf : f7_fuel v1 (top_tx, top_ln, top_cp, top_cq, top_sq, top_fu, top_lv, top_lt) (mx_xN, mx_xM, mx_xS, mx_xK, mx_xX, mx_xY) = some res) : MI V l yX7_fuel cX7_fuel 2 .boolean 0 0 [.ref (ad 0), .int v1] (wC V ad (top_tx, top_ln, top_cp, top_cq, top_sq, top_fu, top_lv, top_lt) rd ra co mu fo tr ma mq (mx_xN, mx_xM, mx_xS, mx_xK, mx_xX, mx_xY)) res.1 (wC V ad res.2.1 rd ra co mu fo tr ma mq res.2.2) :=
  mi_of hl0 (by decide +kernel) (Nat.le_of_ble_eq_true rfl) (fun p e R s m args below meth c Q A C K => b7_fuel C hf K)

theorem ok7_value : okCV RX7 yX7_value 0 := by unfold okCV; decide +kernel
def f7_value  : TopS → Option (Int32)
  | (top_tx, top_ln, top_cp, top_cq, top_sq, top_fu, top_lv, top_lt) =>
    some top_lv
set_option maxHeartbeats 4000000 in
set_option maxRecDepth 100000 in
theorem b7_value {V : EV} {p : Program} {l : Launch} {e : Env} {R : Room} {s : State} {m : MethodId} {args : Array Value} {below : List Frame} {meth : Method} {c : Code} {Q : State → Prop} {A : Nat → Prop} {kc ks : Nat} {ad : Nat → Nat} {rd : RdS} {ra : Int32} {co : Nat → CoS} {mu : MuS} {fo : FoS} {tr : TrS} {ma : MaS} {mq : Nat} {mx : MxS} {top_tx : Nat → Int32} {top_ln : Int32} {top_cp : Int32} {top_cq : Nat} {top_sq : Nat} {top_fu : Int32} {top_lv : Int32} {top_lt : Int32}  {res : Int32} (C : CX V p l R s m args c A kc ks RX7 cX7_value 1 0 0) (hf : f7_value (top_tx, top_ln, top_cp, top_cq, top_sq, top_fu, top_lv, top_lt) = some res) (K : RI V p l e R s m args below meth c Q A kc ks 1 cX7_value .int res (wC V ad (top_tx, top_ln, top_cp, top_cq, top_sq, top_fu, top_lv, top_lt) rd ra co mu fo tr ma mq mx)) : WC V p l e R s m args below meth c Q A kc ks 1 (wC V ad (top_tx, top_ln, top_cp, top_cq, top_sq, top_fu, top_lv, top_lt) rd ra co mu fo tr ma mq mx) 0 [(0, .ref (ad 0))] [] := by
  rw [f7_value] at hf
  refine k_aload_n C dX7_value_0 0 rfl ?_
  refine g7_69 C dX7_value_1 ?_
  cases hf
  exact K _ _ dX7_value_4 rfl
theorem c7_value {V : EV} {l : Launch} (hl0 : l.stackTraces = false) {ad : Nat → Nat} {rd : RdS} {ra : Int32} {co : Nat → CoS} {mu : MuS} {fo : FoS} {tr : TrS} {ma : MaS} {mq : Nat} {mx : MxS} {top_tx : Nat → Int32} {top_ln : Int32} {top_cp : Int32} {top_cq : Nat} {top_sq : Nat} {top_fu : Int32} {top_lv : Int32} {top_lt : Int32}  {res : Int32} (hf : f7_value (top_tx, top_ln, top_cp, top_cq, top_sq, top_fu, top_lv, top_lt) = some res) : MI V l yX7_value cX7_value 1 .int 0 0 [.ref (ad 0)] (wC V ad (top_tx, top_ln, top_cp, top_cq, top_sq, top_fu, top_lv, top_lt) rd ra co mu fo tr ma mq mx) res (wC V ad (top_tx, top_ln, top_cp, top_cq, top_sq, top_fu, top_lv, top_lt) rd ra co mu fo tr ma mq mx) :=
  mi_of hl0 (by decide +kernel) (Nat.le_of_ble_eq_true rfl) (fun p e R s m args below meth c Q A C K => b7_value C hf K)

theorem ok7_took : okCV RX7 yX7_took 0 := by unfold okCV; decide +kernel
def f7_took  : TopS → Option (Int32)
  | (top_tx, top_ln, top_cp, top_cq, top_sq, top_fu, top_lv, top_lt) =>
    some top_lt
set_option maxHeartbeats 4000000 in
set_option maxRecDepth 100000 in
theorem b7_took {V : EV} {p : Program} {l : Launch} {e : Env} {R : Room} {s : State} {m : MethodId} {args : Array Value} {below : List Frame} {meth : Method} {c : Code} {Q : State → Prop} {A : Nat → Prop} {kc ks : Nat} {ad : Nat → Nat} {rd : RdS} {ra : Int32} {co : Nat → CoS} {mu : MuS} {fo : FoS} {tr : TrS} {ma : MaS} {mq : Nat} {mx : MxS} {top_tx : Nat → Int32} {top_ln : Int32} {top_cp : Int32} {top_cq : Nat} {top_sq : Nat} {top_fu : Int32} {top_lv : Int32} {top_lt : Int32}  {res : Int32} (C : CX V p l R s m args c A kc ks RX7 cX7_took 1 0 0) (hf : f7_took (top_tx, top_ln, top_cp, top_cq, top_sq, top_fu, top_lv, top_lt) = some res) (K : RI V p l e R s m args below meth c Q A kc ks 1 cX7_took .int res (wC V ad (top_tx, top_ln, top_cp, top_cq, top_sq, top_fu, top_lv, top_lt) rd ra co mu fo tr ma mq mx)) : WC V p l e R s m args below meth c Q A kc ks 1 (wC V ad (top_tx, top_ln, top_cp, top_cq, top_sq, top_fu, top_lv, top_lt) rd ra co mu fo tr ma mq mx) 0 [(0, .ref (ad 0))] [] := by
  rw [f7_took] at hf
  refine k_aload_n C dX7_took_0 0 rfl ?_
  refine g7_72 C dX7_took_1 ?_
  cases hf
  exact K _ _ dX7_took_4 rfl
theorem c7_took {V : EV} {l : Launch} (hl0 : l.stackTraces = false) {ad : Nat → Nat} {rd : RdS} {ra : Int32} {co : Nat → CoS} {mu : MuS} {fo : FoS} {tr : TrS} {ma : MaS} {mq : Nat} {mx : MxS} {top_tx : Nat → Int32} {top_ln : Int32} {top_cp : Int32} {top_cq : Nat} {top_sq : Nat} {top_fu : Int32} {top_lv : Int32} {top_lt : Int32}  {res : Int32} (hf : f7_took (top_tx, top_ln, top_cp, top_cq, top_sq, top_fu, top_lv, top_lt) = some res) : MI V l yX7_took cX7_took 1 .int 0 0 [.ref (ad 0)] (wC V ad (top_tx, top_ln, top_cp, top_cq, top_sq, top_fu, top_lv, top_lt) rd ra co mu fo tr ma mq mx) res (wC V ad (top_tx, top_ln, top_cp, top_cq, top_sq, top_fu, top_lv, top_lt) rd ra co mu fo tr ma mq mx) :=
  mi_of hl0 (by decide +kernel) (Nat.le_of_ble_eq_true rfl) (fun p e R s m args below meth c Q A C K => b7_took C hf K)

theorem xk7_83 : Cond.classLink RX7 83 "java/lang/IllegalStateException" ∈ GW := gw_3 (i := 126) (by decide +kernel) rfl
theorem xi_IllegalStateException : Cond.initialized "java/lang/IllegalStateException" ∈ GW := gw_1 (i := 20) (by decide +kernel) rfl
theorem xa7_87 : ∀ x ∈ vx_atS RX7 87 "java/lang/IllegalStateException" nmsX, x ∈ GW ∨ x ∈ badX := fun x h => by
  have h1 := List.all_eq_true.mp (show (vx_atS RX7 87 "java/lang/IllegalStateException" nmsX).all (fun w => (goodWord w && decide (w ∈ lw_tbl)) || decide (w ∈ badX)) = true by decide +kernel) x h
  simp only [Bool.or_eq_true, Bool.and_eq_true, decide_eq_true_eq] at h1
  exact h1.imp (fun g => gw_of g.2 g.1) id
theorem ok7_needCompiled : okCV RX7 yX7_needCompiled 0 := by unfold okCV; decide +kernel
def f7_needCompiled  : TopS → Option (Except String Unit)
  | (top_tx, top_ln, top_cp, top_cq, top_sq, top_fu, top_lv, top_lt) =>
    if top_cp = 0 then some (.error "java/lang/IllegalStateException") else some (.ok ())
set_option maxHeartbeats 4000000 in
set_option maxRecDepth 100000 in
theorem b7_needCompiled {V : EV} {p : Program} {l : Launch} {e : Env} {R : Room} {s : State} {m : MethodId} {args : Array Value} {below : List Frame} {meth : Method} {c : Code} {Q : State → Prop} {A : Nat → Prop} {kc ks : Nat} {ad : Nat → Nat} {rd : RdS} {ra : Int32} {co : Nat → CoS} {mu : MuS} {fo : FoS} {tr : TrS} {ma : MaS} {mq : Nat} {mx : MxS} {top_tx : Nat → Int32} {top_ln : Int32} {top_cp : Int32} {top_cq : Nat} {top_sq : Nat} {top_fu : Int32} {top_lv : Int32} {top_lt : Int32}  {res : Except String Unit} (C : CX V p l R s m args c A kc ks RX7 cX7_needCompiled 1 6 90) (hf : f7_needCompiled (top_tx, top_ln, top_cp, top_cq, top_sq, top_fu, top_lv, top_lt) = some res) (K : (∀ v : Unit, res = .ok v → RV V p l e R s m args below meth c Q A kc ks 1 cX7_needCompiled (wC V ad (top_tx, top_ln, top_cp, top_cq, top_sq, top_fu, top_lv, top_lt) rd ra co mu fo tr ma mq mx)) ∧ ∀ E : String, res = .error E → XE V p l e R s m args below meth c Q A kc ks 1 RX7 cX7_needCompiled E (wC V ad (top_tx, top_ln, top_cp, top_cq, top_sq, top_fu, top_lv, top_lt) rd ra co mu fo tr ma mq mx)) : WC V p l e R s m args below meth c Q A kc ks 1 (wC V ad (top_tx, top_ln, top_cp, top_cq, top_sq, top_fu, top_lv, top_lt) rd ra co mu fo tr ma mq mx) 0 [(0, .ref (ad 0))] [] := by
  rw [f7_needCompiled] at hf
  refine k_aload_n C dX7_needCompiled_0 0 rfl ?_
  refine g7_24 C dX7_needCompiled_1 ?_
  refine k_if_ne C 17 dX7_needCompiled_4 (by decide) (fun hc => ?_) (fun hc => ?_)
  · replace hf := (if_neg hc).symm.trans hf
    cases hf
    exact K.1 _ rfl _ _ dX7_needCompiled_17
  · replace hf := (if_pos hc).symm.trans hf
    cases hf
    exact (K.2 _ rfl).2.2 _ _ _ 83 177 87 8 "nothing is compiled" (by decide +kernel) xk7_83 xi_IllegalStateException (by decide +kernel) xa7_87 dX7_needCompiled_7 dX7_needCompiled_10 dX7_needCompiled_11 dX7_needCompiled_13 dX7_needCompiled_16 (Nat.le_of_ble_eq_true rfl) (Nat.lt_of_lt_of_le (by decide) C.2.2.2.2.2.2.2.1) (Nat.le_trans (by decide) C.2.2.2.2.2.2.2.2.1)
theorem c7_needCompiled {V : EV} {l : Launch} (hl0 : l.stackTraces = false) {ad : Nat → Nat} {rd : RdS} {ra : Int32} {co : Nat → CoS} {mu : MuS} {fo : FoS} {tr : TrS} {ma : MaS} {mq : Nat} {mx : MxS} {top_tx : Nat → Int32} {top_ln : Int32} {top_cp : Int32} {top_cq : Nat} {top_sq : Nat} {top_fu : Int32} {top_lv : Int32} {top_lt : Int32}  {res : Except String Unit} (hf : f7_needCompiled (top_tx, top_ln, top_cp, top_cq, top_sq, top_fu, top_lv, top_lt) = some res) {v : Unit} (hv : res = .ok v) : MV V l yX7_needCompiled cX7_needCompiled 1 6 90 [.ref (ad 0)] (wC V ad (top_tx, top_ln, top_cp, top_cq, top_sq, top_fu, top_lv, top_lt) rd ra co mu fo tr ma mq mx) (wC V ad (top_tx, top_ln, top_cp, top_cq, top_sq, top_fu, top_lv, top_lt) rd ra co mu fo tr ma mq mx) :=
  mv_of hl0 (by decide +kernel) (Nat.le_of_ble_eq_true rfl) (fun p e R s m args below meth c Q A C K => b7_needCompiled C hf ⟨fun v' h' => (by cases hv.symm.trans h'; exact K), fun E h' => (by cases hv.symm.trans h')⟩)
theorem x7_needCompiled {V : EV} {l : Launch} (hl0 : l.stackTraces = false) {ad : Nat → Nat} {rd : RdS} {ra : Int32} {co : Nat → CoS} {mu : MuS} {fo : FoS} {tr : TrS} {ma : MaS} {mq : Nat} {mx : MxS} {top_tx : Nat → Int32} {top_ln : Int32} {top_cp : Int32} {top_cq : Nat} {top_sq : Nat} {top_fu : Int32} {top_lv : Int32} {top_lt : Int32}  {res : Except String Unit} (hf : f7_needCompiled (top_tx, top_ln, top_cp, top_cq, top_sq, top_fu, top_lv, top_lt) = some res) {E : String} (hv : res = .error E) : TV V l yX7_needCompiled cX7_needCompiled 1 6 90 [.ref (ad 0)] (wC V ad (top_tx, top_ln, top_cp, top_cq, top_sq, top_fu, top_lv, top_lt) rd ra co mu fo tr ma mq mx) E (wC V ad (top_tx, top_ln, top_cp, top_cq, top_sq, top_fu, top_lv, top_lt) rd ra co mu fo tr ma mq mx) :=
  tv_of hl0 (by decide +kernel) (Nat.le_of_ble_eq_true rfl) (fun p e R s m args below meth c Q A C K => b7_needCompiled C hf ⟨fun v' h' => (by cases hv.symm.trans h'), fun E' h' => (by cases hv.symm.trans h'; exact K)⟩)

theorem ok7_needMatrix : okCV RX7 yX7_needMatrix 0 := by unfold okCV; decide +kernel
def f7_needMatrix  : MxS → Option (Except String Unit)
  | (mx_xN, mx_xM, mx_xS, mx_xK, mx_xX, mx_xY) =>
    if mx_xM = 0 then some (.error "java/lang/IllegalStateException") else some (.ok ())
set_option maxHeartbeats 4000000 in
set_option maxRecDepth 100000 in
theorem b7_needMatrix {V : EV} {p : Program} {l : Launch} {e : Env} {R : Room} {s : State} {m : MethodId} {args : Array Value} {below : List Frame} {meth : Method} {c : Code} {Q : State → Prop} {A : Nat → Prop} {kc ks : Nat} {ad : Nat → Nat} {top : TopS} {rd : RdS} {ra : Int32} {co : Nat → CoS} {mu : MuS} {fo : FoS} {tr : TrS} {ma : MaS} {mq : Nat} {mx_xN : Int32} {mx_xM : Int32} {mx_xS : Nat → Int64} {mx_xK : Nat → Int32} {mx_xX : Nat → Int32} {mx_xY : Nat → Int32}  {res : Except String Unit} (C : CX V p l R s m args c A kc ks RX7 cX7_needMatrix 1 6 90) (hf : f7_needMatrix (mx_xN, mx_xM, mx_xS, mx_xK, mx_xX, mx_xY) = some res) (K : (∀ v : Unit, res = .ok v → RV V p l e R s m args below meth c Q A kc ks 1 cX7_needMatrix (wC V ad top rd ra co mu fo tr ma mq (mx_xN, mx_xM, mx_xS, mx_xK, mx_xX, mx_xY))) ∧ ∀ E : String, res = .error E → XE V p l e R s m args below meth c Q A kc ks 1 RX7 cX7_needMatrix E (wC V ad top rd ra co mu fo tr ma mq (mx_xN, mx_xM, mx_xS, mx_xK, mx_xX, mx_xY))) : WC V p l e R s m args below meth c Q A kc ks 1 (wC V ad top rd ra co mu fo tr ma mq (mx_xN, mx_xM, mx_xS, mx_xK, mx_xX, mx_xY)) 0 [(0, .ref (ad 0))] [] := by
  rw [f7_needMatrix] at hf
  refine k_aload_n C dX7_needMatrix_0 0 rfl ?_
  refine g7_62 C dX7_needMatrix_1 ?_
  refine g7_138 C dX7_needMatrix_4 ?_
  refine k_if_ne C 20 dX7_needMatrix_7 (by decide) (fun hc => ?_) (fun hc => ?_)
  · replace hf := (if_neg hc).symm.trans hf
    cases hf
    exact K.1 _ rfl _ _ dX7_needMatrix_20
  · replace hf := (if_pos hc).symm.trans hf
    cases hf
    exact (K.2 _ rfl).2.2 _ _ _ 83 179 87 9 "there is no matrix" (by decide +kernel) xk7_83 xi_IllegalStateException (by decide +kernel) xa7_87 dX7_needMatrix_10 dX7_needMatrix_13 dX7_needMatrix_14 dX7_needMatrix_16 dX7_needMatrix_19 (Nat.le_of_ble_eq_true rfl) (Nat.lt_of_lt_of_le (by decide) C.2.2.2.2.2.2.2.1) (Nat.le_trans (by decide) C.2.2.2.2.2.2.2.2.1)
theorem c7_needMatrix {V : EV} {l : Launch} (hl0 : l.stackTraces = false) {ad : Nat → Nat} {top : TopS} {rd : RdS} {ra : Int32} {co : Nat → CoS} {mu : MuS} {fo : FoS} {tr : TrS} {ma : MaS} {mq : Nat} {mx_xN : Int32} {mx_xM : Int32} {mx_xS : Nat → Int64} {mx_xK : Nat → Int32} {mx_xX : Nat → Int32} {mx_xY : Nat → Int32}  {res : Except String Unit} (hf : f7_needMatrix (mx_xN, mx_xM, mx_xS, mx_xK, mx_xX, mx_xY) = some res) {v : Unit} (hv : res = .ok v) : MV V l yX7_needMatrix cX7_needMatrix 1 6 90 [.ref (ad 0)] (wC V ad top rd ra co mu fo tr ma mq (mx_xN, mx_xM, mx_xS, mx_xK, mx_xX, mx_xY)) (wC V ad top rd ra co mu fo tr ma mq (mx_xN, mx_xM, mx_xS, mx_xK, mx_xX, mx_xY)) :=
  mv_of hl0 (by decide +kernel) (Nat.le_of_ble_eq_true rfl) (fun p e R s m args below meth c Q A C K => b7_needMatrix C hf ⟨fun v' h' => (by cases hv.symm.trans h'; exact K), fun E h' => (by cases hv.symm.trans h')⟩)
theorem x7_needMatrix {V : EV} {l : Launch} (hl0 : l.stackTraces = false) {ad : Nat → Nat} {top : TopS} {rd : RdS} {ra : Int32} {co : Nat → CoS} {mu : MuS} {fo : FoS} {tr : TrS} {ma : MaS} {mq : Nat} {mx_xN : Int32} {mx_xM : Int32} {mx_xS : Nat → Int64} {mx_xK : Nat → Int32} {mx_xX : Nat → Int32} {mx_xY : Nat → Int32}  {res : Except String Unit} (hf : f7_needMatrix (mx_xN, mx_xM, mx_xS, mx_xK, mx_xX, mx_xY) = some res) {E : String} (hv : res = .error E) : TV V l yX7_needMatrix cX7_needMatrix 1 6 90 [.ref (ad 0)] (wC V ad top rd ra co mu fo tr ma mq (mx_xN, mx_xM, mx_xS, mx_xK, mx_xX, mx_xY)) E (wC V ad top rd ra co mu fo tr ma mq (mx_xN, mx_xM, mx_xS, mx_xK, mx_xX, mx_xY)) :=
  tv_of hl0 (by decide +kernel) (Nat.le_of_ble_eq_true rfl) (fun p e R s m args below meth c Q A C K => b7_needMatrix C hf ⟨fun v' h' => (by cases hv.symm.trans h'), fun E' h' => (by cases hv.symm.trans h'; exact K)⟩)

theorem xk7_181 : Cond.classLink RX7 181 "java/lang/IndexOutOfBoundsException" ∈ GW := gw_4 (i := 90) (by decide +kernel) rfl
theorem xi_IndexOutOfBoundsException : Cond.initialized "java/lang/IndexOutOfBoundsException" ∈ GW := gw_1 (i := 22) (by decide +kernel) rfl
theorem xa7_185 : ∀ x ∈ vx_atS RX7 185 "java/lang/IndexOutOfBoundsException" nmsX, x ∈ GW ∨ x ∈ badX := fun x h => by
  have h1 := List.all_eq_true.mp (show (vx_atS RX7 185 "java/lang/IndexOutOfBoundsException" nmsX).all (fun w => (goodWord w && decide (w ∈ lw_tbl)) || decide (w ∈ badX)) = true by decide +kernel) x h
  simp only [Bool.or_eq_true, Bool.and_eq_true, decide_eq_true_eq] at h1
  exact h1.imp (fun g => gw_of g.2 g.1) id
theorem ok7_needMutant : okCV RX7 yX7_needMutant 2 := by unfold okCV; decide +kernel
def f7_needMutant (v1 : Int32) (v2 : Int32) : MuS → Option (Except String Unit)
  | (mu_mS, mu_mK, mu_mI, mu_mC, mu_mc, mu_mA) =>
    if v1 < v2 then some (.error "java/lang/IndexOutOfBoundsException") else if v1 ≤ mu_mc then some (.ok ()) else some (.error "java/lang/IndexOutOfBoundsException")
set_option maxHeartbeats 4000000 in
set_option maxRecDepth 100000 in
theorem b7_needMutant {V : EV} {p : Program} {l : Launch} {e : Env} {R : Room} {s : State} {m : MethodId} {args : Array Value} {below : List Frame} {meth : Method} {c : Code} {Q : State → Prop} {A : Nat → Prop} {kc ks : Nat} {ad : Nat → Nat} {top : TopS} {rd : RdS} {ra : Int32} {co : Nat → CoS} {fo : FoS} {tr : TrS} {ma : MaS} {mq : Nat} {mx : MxS} {mu_mS : Nat → Int32} {mu_mK : Nat → Int32} {mu_mI : Nat → Int32} {mu_mC : Nat → Int32} {mu_mc : Int32} {mu_mA : Nat → Int32} {v1 : Int32} {v2 : Int32} {res : Except String Unit} (C : CX V p l R s m args c A kc ks RX7 cX7_needMutant 3 6 90) (hf : f7_needMutant v1 v2 (mu_mS, mu_mK, mu_mI, mu_mC, mu_mc, mu_mA) = some res) (K : (∀ v : Unit, res = .ok v → RV V p l e R s m args below meth c Q A kc ks 3 cX7_needMutant (wC V ad top rd ra co (mu_mS, mu_mK, mu_mI, mu_mC, mu_mc, mu_mA) fo tr ma mq mx)) ∧ ∀ E : String, res = .error E → XE V p l e R s m args below meth c Q A kc ks 3 RX7 cX7_needMutant E (wC V ad top rd ra co (mu_mS, mu_mK, mu_mI, mu_mC, mu_mc, mu_mA) fo tr ma mq mx)) : WC V p l e R s m args below meth c Q A kc ks 3 (wC V ad top rd ra co (mu_mS, mu_mK, mu_mI, mu_mC, mu_mc, mu_mA) fo tr ma mq mx) 0 [(0, .ref (ad 0)), (1, .int v1), (2, .int v2)] [] := by
  rw [f7_needMutant] at hf
  refine k_iload_n C dX7_needMutant_0 1 rfl ?_
  refine k_iload_n C dX7_needMutant_1 2 rfl ?_
  refine k_icmp_lt C 16 dX7_needMutant_2 (by decide) (fun hc => ?_) (fun hc => ?_)
  · replace hf := (if_pos hc).symm.trans hf
    cases hf
    exact (K.2 _ rfl).2.2 _ _ _ 181 183 185 10 "no such mutant" (by decide +kernel) xk7_181 xi_IndexOutOfBoundsException (by decide +kernel) xa7_185 dX7_needMutant_16 dX7_needMutant_19 dX7_needMutant_20 dX7_needMutant_22 dX7_needMutant_25 (Nat.le_of_ble_eq_true rfl) (Nat.lt_of_lt_of_le (by decide) C.2.2.2.2.2.2.2.1) (Nat.le_trans (by decide) C.2.2.2.2.2.2.2.2.1)
  · replace hf := (if_neg hc).symm.trans hf
    refine k_iload_n C dX7_needMutant_5 1 rfl ?_
    refine k_aload_n C dX7_needMutant_6 0 rfl ?_
    refine g7_41 C dX7_needMutant_7 ?_
    refine g7_101 C dX7_needMutant_10 ?_
    refine k_icmp_le C 26 dX7_needMutant_13 (by decide) (fun hc => ?_) (fun hc => ?_)
    · replace hf := (if_pos hc).symm.trans hf
      cases hf
      exact K.1 _ rfl _ _ dX7_needMutant_26
    · replace hf := (if_neg hc).symm.trans hf
      cases hf
      exact (K.2 _ rfl).2.2 _ _ _ 181 183 185 10 "no such mutant" (by decide +kernel) xk7_181 xi_IndexOutOfBoundsException (by decide +kernel) xa7_185 dX7_needMutant_16 dX7_needMutant_19 dX7_needMutant_20 dX7_needMutant_22 dX7_needMutant_25 (Nat.le_of_ble_eq_true rfl) (Nat.lt_of_lt_of_le (by decide) C.2.2.2.2.2.2.2.1) (Nat.le_trans (by decide) C.2.2.2.2.2.2.2.2.1)
theorem c7_needMutant {V : EV} {l : Launch} (hl0 : l.stackTraces = false) {ad : Nat → Nat} {top : TopS} {rd : RdS} {ra : Int32} {co : Nat → CoS} {fo : FoS} {tr : TrS} {ma : MaS} {mq : Nat} {mx : MxS} {mu_mS : Nat → Int32} {mu_mK : Nat → Int32} {mu_mI : Nat → Int32} {mu_mC : Nat → Int32} {mu_mc : Int32} {mu_mA : Nat → Int32} {v1 : Int32} {v2 : Int32} {res : Except String Unit} (hf : f7_needMutant v1 v2 (mu_mS, mu_mK, mu_mI, mu_mC, mu_mc, mu_mA) = some res) {v : Unit} (hv : res = .ok v) : MV V l yX7_needMutant cX7_needMutant 3 6 90 [.ref (ad 0), .int v1, .int v2] (wC V ad top rd ra co (mu_mS, mu_mK, mu_mI, mu_mC, mu_mc, mu_mA) fo tr ma mq mx) (wC V ad top rd ra co (mu_mS, mu_mK, mu_mI, mu_mC, mu_mc, mu_mA) fo tr ma mq mx) :=
  mv_of hl0 (by decide +kernel) (Nat.le_of_ble_eq_true rfl) (fun p e R s m args below meth c Q A C K => b7_needMutant C hf ⟨fun v' h' => (by cases hv.symm.trans h'; exact K), fun E h' => (by cases hv.symm.trans h')⟩)
theorem x7_needMutant {V : EV} {l : Launch} (hl0 : l.stackTraces = false) {ad : Nat → Nat} {top : TopS} {rd : RdS} {ra : Int32} {co : Nat → CoS} {fo : FoS} {tr : TrS} {ma : MaS} {mq : Nat} {mx : MxS} {mu_mS : Nat → Int32} {mu_mK : Nat → Int32} {mu_mI : Nat → Int32} {mu_mC : Nat → Int32} {mu_mc : Int32} {mu_mA : Nat → Int32} {v1 : Int32} {v2 : Int32} {res : Except String Unit} (hf : f7_needMutant v1 v2 (mu_mS, mu_mK, mu_mI, mu_mC, mu_mc, mu_mA) = some res) {E : String} (hv : res = .error E) : TV V l yX7_needMutant cX7_needMutant 3 6 90 [.ref (ad 0), .int v1, .int v2] (wC V ad top rd ra co (mu_mS, mu_mK, mu_mI, mu_mC, mu_mc, mu_mA) fo tr ma mq mx) E (wC V ad top rd ra co (mu_mS, mu_mK, mu_mI, mu_mC, mu_mc, mu_mA) fo tr ma mq mx) :=
  tv_of hl0 (by decide +kernel) (Nat.le_of_ble_eq_true rfl) (fun p e R s m args below meth c Q A C K => b7_needMutant C hf ⟨fun v' h' => (by cases hv.symm.trans h'), fun E' h' => (by cases hv.symm.trans h'; exact K)⟩)

theorem ok7_needTest : okCV RX7 yX7_needTest 1 := by unfold okCV; decide +kernel
def f7_needTest (v1 : Int32) : MxS → Option (Except String Unit)
  | (mx_xN, mx_xM, mx_xS, mx_xK, mx_xX, mx_xY) =>
    if v1 < 0 then some (.error "java/lang/IndexOutOfBoundsException") else if v1 < mx_xN then some (.ok ()) else some (.error "java/lang/IndexOutOfBoundsException")
set_option maxHeartbeats 4000000 in
set_option maxRecDepth 100000 in
theorem b7_needTest {V : EV} {p : Program} {l : Launch} {e : Env} {R : Room} {s : State} {m : MethodId} {args : Array Value} {below : List Frame} {meth : Method} {c : Code} {Q : State → Prop} {A : Nat → Prop} {kc ks : Nat} {ad : Nat → Nat} {top : TopS} {rd : RdS} {ra : Int32} {co : Nat → CoS} {mu : MuS} {fo : FoS} {tr : TrS} {ma : MaS} {mq : Nat} {mx_xN : Int32} {mx_xM : Int32} {mx_xS : Nat → Int64} {mx_xK : Nat → Int32} {mx_xX : Nat → Int32} {mx_xY : Nat → Int32} {v1 : Int32} {res : Except String Unit} (C : CX V p l R s m args c A kc ks RX7 cX7_needTest 2 6 90) (hf : f7_needTest v1 (mx_xN, mx_xM, mx_xS, mx_xK, mx_xX, mx_xY) = some res) (K : (∀ v : Unit, res = .ok v → RV V p l e R s m args below meth c Q A kc ks 2 cX7_needTest (wC V ad top rd ra co mu fo tr ma mq (mx_xN, mx_xM, mx_xS, mx_xK, mx_xX, mx_xY))) ∧ ∀ E : String, res = .error E → XE V p l e R s m args below meth c Q A kc ks 2 RX7 cX7_needTest E (wC V ad top rd ra co mu fo tr ma mq (mx_xN, mx_xM, mx_xS, mx_xK, mx_xX, mx_xY))) : WC V p l e R s m args below meth c Q A kc ks 2 (wC V ad top rd ra co mu fo tr ma mq (mx_xN, mx_xM, mx_xS, mx_xK, mx_xX, mx_xY)) 0 [(0, .ref (ad 0)), (1, .int v1)] [] := by
  rw [f7_needTest] at hf
  refine k_iload_n C dX7_needTest_0 1 rfl ?_
  refine k_if_lt C 15 dX7_needTest_1 (by decide) (fun hc => ?_) (fun hc => ?_)
  · replace hf := (if_pos hc).symm.trans hf
    cases hf
    exact (K.2 _ rfl).2.2 _ _ _ 181 186 185 11 "no such test" (by decide +kernel) xk7_181 xi_IndexOutOfBoundsException (by decide +kernel) xa7_185 dX7_needTest_15 dX7_needTest_18 dX7_needTest_19 dX7_needTest_21 dX7_needTest_24 (Nat.le_of_ble_eq_true rfl) (Nat.lt_of_lt_of_le (by decide) C.2.2.2.2.2.2.2.1) (Nat.le_trans (by decide) C.2.2.2.2.2.2.2.2.1)
  · replace hf := (if_neg hc).symm.trans hf
    refine k_iload_n C dX7_needTest_4 1 rfl ?_
    refine k_aload_n C dX7_needTest_5 0 rfl ?_
    refine g7_62 C dX7_needTest_6 ?_
    refine g7_129 C dX7_needTest_9 ?_
    refine k_icmp_lt C 25 dX7_needTest_12 (by decide) (fun hc => ?_) (fun hc => ?_)
    · replace hf := (if_pos hc).symm.trans hf
      cases hf
      exact K.1 _ rfl _ _ dX7_needTest_25
    · replace hf := (if_neg hc).symm.trans hf
      cases hf
      exact (K.2 _ rfl).2.2 _ _ _ 181 186 185 11 "no such test" (by decide +kernel) xk7_181 xi_IndexOutOfBoundsException (by decide +kernel) xa7_185 dX7_needTest_15 dX7_needTest_18 dX7_needTest_19 dX7_needTest_21 dX7_needTest_24 (Nat.le_of_ble_eq_true rfl) (Nat.lt_of_lt_of_le (by decide) C.2.2.2.2.2.2.2.1) (Nat.le_trans (by decide) C.2.2.2.2.2.2.2.2.1)
theorem c7_needTest {V : EV} {l : Launch} (hl0 : l.stackTraces = false) {ad : Nat → Nat} {top : TopS} {rd : RdS} {ra : Int32} {co : Nat → CoS} {mu : MuS} {fo : FoS} {tr : TrS} {ma : MaS} {mq : Nat} {mx_xN : Int32} {mx_xM : Int32} {mx_xS : Nat → Int64} {mx_xK : Nat → Int32} {mx_xX : Nat → Int32} {mx_xY : Nat → Int32} {v1 : Int32} {res : Except String Unit} (hf : f7_needTest v1 (mx_xN, mx_xM, mx_xS, mx_xK, mx_xX, mx_xY) = some res) {v : Unit} (hv : res = .ok v) : MV V l yX7_needTest cX7_needTest 2 6 90 [.ref (ad 0), .int v1] (wC V ad top rd ra co mu fo tr ma mq (mx_xN, mx_xM, mx_xS, mx_xK, mx_xX, mx_xY)) (wC V ad top rd ra co mu fo tr ma mq (mx_xN, mx_xM, mx_xS, mx_xK, mx_xX, mx_xY)) :=
  mv_of hl0 (by decide +kernel) (Nat.le_of_ble_eq_true rfl) (fun p e R s m args below meth c Q A C K => b7_needTest C hf ⟨fun v' h' => (by cases hv.symm.trans h'; exact K), fun E h' => (by cases hv.symm.trans h')⟩)
theorem x7_needTest {V : EV} {l : Launch} (hl0 : l.stackTraces = false) {ad : Nat → Nat} {top : TopS} {rd : RdS} {ra : Int32} {co : Nat → CoS} {mu : MuS} {fo : FoS} {tr : TrS} {ma : MaS} {mq : Nat} {mx_xN : Int32} {mx_xM : Int32} {mx_xS : Nat → Int64} {mx_xK : Nat → Int32} {mx_xX : Nat → Int32} {mx_xY : Nat → Int32} {v1 : Int32} {res : Except String Unit} (hf : f7_needTest v1 (mx_xN, mx_xM, mx_xS, mx_xK, mx_xX, mx_xY) = some res) {E : String} (hv : res = .error E) : TV V l yX7_needTest cX7_needTest 2 6 90 [.ref (ad 0), .int v1] (wC V ad top rd ra co mu fo tr ma mq (mx_xN, mx_xM, mx_xS, mx_xK, mx_xX, mx_xY)) E (wC V ad top rd ra co mu fo tr ma mq (mx_xN, mx_xM, mx_xS, mx_xK, mx_xX, mx_xY)) :=
  tv_of hl0 (by decide +kernel) (Nat.le_of_ble_eq_true rfl) (fun p e R s m args below meth c Q A C K => b7_needTest C hf ⟨fun v' h' => (by cases hv.symm.trans h'), fun E' h' => (by cases hv.symm.trans h'; exact K)⟩)

theorem cm7_194 : ∀ a ∈ wsCS RX7 194 yX7_choicesOf cX7_choicesOf 1 (some .int), a ∈ GW := by
  unfold wsCS
  exact (List.forall_mem_cons.mpr ⟨(gw_3 (i := 119) (by decide +kernel) rfl), (List.forall_mem_cons.mpr ⟨(gw_3 (i := 120) (by decide +kernel) rfl), (List.forall_mem_cons.mpr ⟨(gw_1 (i := 1) (by decide +kernel) rfl), (List.forall_mem_cons.mpr ⟨(gw_3 (i := 121) (by decide +kernel) rfl), (List.forall_mem_nil _)⟩)⟩)⟩)⟩)
theorem ok7_mutantsOf : okCV RX7 yX7_mutantsOf 1 := by unfold okCV; decide +kernel
def f7_mutantsOf_L4 (k30 : Int32 → Option (Int32)) (N : Nat) (cs_cw : Nat → Int32) (cs_ce : Nat → Int32) (cs_cn : Nat → Int32) (cs_cj : Nat → Int32) (cs_cz : Int32) : Nat → Int32 → Int32 → Option (Int32)
  | 0, _, _ => none
  | n + 1, x1, x2 =>
    if cs_cz ≤ x2 then k30 x1 else if x2 < 0 ∨ 80 ≤ x2.toNatClampNeg then none else (f7_choicesOf (cs_cw x2.toNatClampNeg)).bind fun r_2 => nm_v (x1 + r_2) (fun v1_3 => nm_v (x2 + (1 : Int32)) (fun v2_4 => f7_mutantsOf_L4 k30 N cs_cw cs_ce cs_cn cs_cj cs_cz n v1_3 v2_4))
def f7_mutantsOf (N : Nat)  : CoS → Option (Int32)
  | (cs_cw, cs_ce, cs_cn, cs_cj, cs_cz) =>
    f7_mutantsOf_L4 (fun x1_5 => some x1_5) N cs_cw cs_ce cs_cn cs_cj cs_cz N (0 : Int32) (0 : Int32)
set_option maxHeartbeats 4000000 in
set_option maxRecDepth 100000 in
theorem w7_mutantsOf_L4 {V : EV} {p : Program} {l : Launch} {e : Env} {R : Room} {s : State} {m : MethodId} {args : Array Value} {below : List Frame} {meth : Method} {c : Code} {Q : State → Prop} {A : Nat → Prop} {kc ks : Nat} {ad : Nat → Nat} {top : TopS} {rd : RdS} {ra : Int32} {co : Nat → CoS} {mu : MuS} {fo : FoS} {tr : TrS} {ma : MaS} {mq : Nat} {mx : MxS} {cs_cw : Nat → Int32} {cs_ce : Nat → Int32} {cs_cn : Nat → Int32} {cs_cj : Nat → Int32} {cs_cz : Int32} {q : Nat} {k30 : Int32 → Option (Int32)} {N : Nat} {res : Int32} (C : CX V p l R s m args c A kc ks RX7 cX7_mutantsOf 3 3 80) (hq : q < 4) (K : RI V p l e R s m args below meth c Q A kc ks 3 cX7_mutantsOf .int res (wC V ad top rd ra (updC co q (cs_cw, cs_ce, cs_cn, cs_cj, cs_cz)) mu fo tr ma mq mx)) (hk30 : ∀ (x1 : Int32) , k30 x1 = some res → WC V p l e R s m args below meth c Q A kc ks 3 (wC V ad top rd ra (updC co q (cs_cw, cs_ce, cs_cn, cs_cj, cs_cz)) mu fo tr ma mq mx) 30 [(1, .int x1)] []) : ∀ (n : Nat) (x1 : Int32) (x2 : Int32) , f7_mutantsOf_L4 k30 N cs_cw cs_ce cs_cn cs_cj cs_cz n x1 x2 = some res → WC V p l e R s m args below meth c Q A kc ks 3 (wC V ad top rd ra (updC co q (cs_cw, cs_ce, cs_cn, cs_cj, cs_cz)) mu fo tr ma mq mx) 4 [(0, .ref (ad (cpo q))), (1, .int x1), (2, .int x2)] [] := by
  intro n
  induction n with
  | zero => intro _ _ hf; exact nomatch (show none = some res from hf)
  | succ n ih =>
    intro x1 x2 hf
    rw [f7_mutantsOf_L4] at hf
    refine k_iload_n C dX7_mutantsOf_4 2 rfl ?_
    refine k_aload_n C dX7_mutantsOf_5 0 rfl ?_
    refine g7_188 C hq dX7_mutantsOf_6 ?_
    refine k_icmp_ge C 30 dX7_mutantsOf_9 (by decide) (fun hc => ?_) (fun hc => ?_)
    · replace hf := (if_pos hc).symm.trans hf
      refine k_sub [1] (L' := [(1, .int x1)]) rfl ?_
      exact hk30 _ hf
    · replace hf := (if_neg hc).symm.trans hf
      refine k_iload_n C dX7_mutantsOf_12 1 rfl ?_
      refine k_aload_n C dX7_mutantsOf_13 0 rfl ?_
      refine g7_191 C hq dX7_mutantsOf_14 ?_
      refine k_iload_n C dX7_mutantsOf_17 2 rfl ?_
      obtain ⟨hi, hf⟩ := gd_no hf
      refine lk0 C hq hi dX7_mutantsOf_18 ?_
      obtain ⟨r_2, hq_1, hf⟩ := ob_el hf
      refine k_callSi C (c7_choicesOf C.2.2.2.2.2.2.2.2.2.1 hq_1) cm7_194 ok7_choicesOf (by decide) rfl rfl (Nat.le_of_ble_eq_true rfl) dX7_mutantsOf_19 ?_
      refine k_iadd C dX7_mutantsOf_22 ?_
      refine k_topi (fun v1_3 ev1_3 => ?_)
      replace hf := nm_el hf ev1_3
      refine k_istore_n C dX7_mutantsOf_23 [(1, .int v1_3), (0, .ref (ad (cpo q))), (2, .int x2)] (by decide) rfl ?_
      obtain ⟨v2_4, ev2_4⟩ : ∃ y : Int32, y = x2 + (1 : Int32) := ⟨_, rfl⟩
      replace hf := nm_el hf ev2_4
      refine k_iinc (v := v2_4) C dX7_mutantsOf_24 2 rfl (by rw [ev2_4]; rfl) [(2, .int v2_4), (1, .int v1_3), (0, .ref (ad (cpo q)))] (by decide) rfl ?_
      refine k_goto C 4 dX7_mutantsOf_27 (by decide) ?_
      refine k_sub [2, 1, 0] (L' := [(0, .ref (ad (cpo q))), (1, .int v1_3), (2, .int v2_4)]) rfl ?_
      exact ih _ _ hf
set_option maxHeartbeats 4000000 in
set_option maxRecDepth 100000 in
theorem b7_mutantsOf {V : EV} {p : Program} {l : Launch} {e : Env} {R : Room} {s : State} {m : MethodId} {args : Array Value} {below : List Frame} {meth : Method} {c : Code} {Q : State → Prop} {A : Nat → Prop} {kc ks : Nat} {ad : Nat → Nat} {top : TopS} {rd : RdS} {ra : Int32} {co : Nat → CoS} {mu : MuS} {fo : FoS} {tr : TrS} {ma : MaS} {mq : Nat} {mx : MxS} {cs_cw : Nat → Int32} {cs_ce : Nat → Int32} {cs_cn : Nat → Int32} {cs_cj : Nat → Int32} {cs_cz : Int32} {q : Nat}  {N : Nat} {res : Int32} (C : CX V p l R s m args c A kc ks RX7 cX7_mutantsOf 3 3 80) (hq : q < 4) (hf : f7_mutantsOf N (cs_cw, cs_ce, cs_cn, cs_cj, cs_cz) = some res) (K : RI V p l e R s m args below meth c Q A kc ks 3 cX7_mutantsOf .int res (wC V ad top rd ra (updC co q (cs_cw, cs_ce, cs_cn, cs_cj, cs_cz)) mu fo tr ma mq mx)) : WC V p l e R s m args below meth c Q A kc ks 3 (wC V ad top rd ra (updC co q (cs_cw, cs_ce, cs_cn, cs_cj, cs_cz)) mu fo tr ma mq mx) 0 [(0, .ref (ad (cpo q)))] [] := by
  rw [f7_mutantsOf] at hf
  refine k_iconst (v := (0 : Int32)) C dX7_mutantsOf_0 (by decide) ?_
  refine k_istore_n C dX7_mutantsOf_1 [(1, .int (0 : Int32)), (0, .ref (ad (cpo q)))] (by decide) rfl ?_
  refine k_iconst (v := (0 : Int32)) C dX7_mutantsOf_2 (by decide) ?_
  refine k_istore_n C dX7_mutantsOf_3 [(2, .int (0 : Int32)), (1, .int (0 : Int32)), (0, .ref (ad (cpo q)))] (by decide) rfl ?_
  refine k_sub [2, 1, 0] (L' := [(0, .ref (ad (cpo q))), (1, .int (0 : Int32)), (2, .int (0 : Int32))]) rfl ?_
  refine w7_mutantsOf_L4 C hq K ?_ _ _ _ hf
  · intro x1_5 hf
    try dsimp only at hf
    refine k_iload_n C dX7_mutantsOf_30 0 rfl ?_
    cases hf
    exact K _ _ dX7_mutantsOf_31 rfl
theorem c7_mutantsOf {V : EV} {l : Launch} (hl0 : l.stackTraces = false) {ad : Nat → Nat} {top : TopS} {rd : RdS} {ra : Int32} {co : Nat → CoS} {mu : MuS} {fo : FoS} {tr : TrS} {ma : MaS} {mq : Nat} {mx : MxS} {cs_cw : Nat → Int32} {cs_ce : Nat → Int32} {cs_cn : Nat → Int32} {cs_cj : Nat → Int32} {cs_cz : Int32} {q : Nat}  {N : Nat} {res : Int32} (hq : q < 4) (hf : f7_mutantsOf N (cs_cw, cs_ce, cs_cn, cs_cj, cs_cz) = some res) : MI V l yX7_mutantsOf cX7_mutantsOf 3 .int 3 80 [.ref (ad (cpo q))] (wC V ad top rd ra (updC co q (cs_cw, cs_ce, cs_cn, cs_cj, cs_cz)) mu fo tr ma mq mx) res (wC V ad top rd ra (updC co q (cs_cw, cs_ce, cs_cn, cs_cj, cs_cz)) mu fo tr ma mq mx) :=
  mi_of hl0 (by decide +kernel) (Nat.le_of_ble_eq_true rfl) (fun p e R s m args below meth c Q A C K => b7_mutantsOf C hq hf K)

theorem cm7_104 : ∀ a ∈ wsCV RX7 104 RX7 yX7_needCompiled cX7_needCompiled 1 none, a ∈ GW := by
  unfold wsCV
  exact (List.forall_mem_cons.mpr ⟨(gw_4 (i := 81) (by decide +kernel) rfl), (List.forall_mem_cons.mpr ⟨(gw_4 (i := 83) (by decide +kernel) rfl), (List.forall_mem_cons.mpr ⟨(gw_p (q := ((yX7_needCompiled, 13) : MethodName × Nat)) (List.mem_append_right _ (List.mem_append_right _ (List.mem_append_left _ (List.mem_of_getElem? (i := 15) (by decide +kernel))))) rfl), (List.forall_mem_cons.mpr ⟨(gw_1 (i := 1) (by decide +kernel) rfl), (List.forall_mem_cons.mpr ⟨(gw_4 (i := 84) (by decide +kernel) rfl), (List.forall_mem_nil _)⟩)⟩)⟩)⟩)⟩)
theorem cm7_107 : ∀ a ∈ wsCV RX7 107 RX7 yX7_needMutant cX7_needMutant 3 none, a ∈ GW := by
  unfold wsCV
  exact (List.forall_mem_cons.mpr ⟨(gw_4 (i := 86) (by decide +kernel) rfl), (List.forall_mem_cons.mpr ⟨(gw_4 (i := 88) (by decide +kernel) rfl), (List.forall_mem_cons.mpr ⟨(gw_p (q := ((yX7_needMutant, 13) : MethodName × Nat)) (List.mem_append_right _ (List.mem_append_right _ (List.mem_append_right _ (List.mem_append_left _ (List.mem_of_getElem? (i := 0) (by decide +kernel)))))) rfl), (List.forall_mem_cons.mpr ⟨(gw_1 (i := 1) (by decide +kernel) rfl), (List.forall_mem_cons.mpr ⟨(gw_4 (i := 89) (by decide +kernel) rfl), (List.forall_mem_nil _)⟩)⟩)⟩)⟩)⟩)
theorem xk7_124 : Cond.classLink RX7 124 "java/lang/IllegalArgumentException" ∈ GW := gw_4 (i := 106) (by decide +kernel) rfl
theorem xa7_128 : ∀ x ∈ vx_atS RX7 128 "java/lang/IllegalArgumentException" nmsX, x ∈ GW ∨ x ∈ badX := fun x h => by
  have h1 := List.all_eq_true.mp (show (vx_atS RX7 128 "java/lang/IllegalArgumentException" nmsX).all (fun w => (goodWord w && decide (w ∈ lw_tbl)) || decide (w ∈ badX)) = true by decide +kernel) x h
  simp only [Bool.or_eq_true, Bool.and_eq_true, decide_eq_true_eq] at h1
  exact h1.imp (fun g => gw_of g.2 g.1) id
theorem ok7_mutant : okCV RX7 yX7_mutant 2 := by unfold okCV; decide +kernel
def f7_mutant (v1 : Int32) (v2 : Int32) : TopS → MuS → Option (Except String Int32)
  | (top_tx, top_ln, top_cp, top_cq, top_sq, top_fu, top_lv, top_lt), (mu_mS, mu_mK, mu_mI, mu_mC, mu_mc, mu_mA) =>
    (f7_needCompiled (top_tx, top_ln, top_cp, top_cq, top_sq, top_fu, top_lv, top_lt)).bind fun r_2 => match r_2 with | .error E => some (.error E) | .ok _ => (f7_needMutant v1 (1 : Int32) (mu_mS, mu_mK, mu_mI, mu_mC, mu_mc, mu_mA)).bind fun r_4 => match r_4 with | .error E => some (.error E) | .ok _ => if v2 = (0 : Int32) then if v1 < 0 ∨ 121 ≤ v1.toNatClampNeg then none else some (.ok (mu_mS v1.toNatClampNeg)) else if v2 = (1 : Int32) then if v1 < 0 ∨ 121 ≤ v1.toNatClampNeg then none else some (.ok (mu_mK v1.toNatClampNeg)) else if v2 = (2 : Int32) then if v1 < 0 ∨ 121 ≤ v1.toNatClampNeg then none else some (.ok (mu_mI v1.toNatClampNeg)) else if v2 = (3 : Int32) then if v1 < 0 ∨ 121 ≤ v1.toNatClampNeg then none else some (.ok (mu_mC v1.toNatClampNeg)) else some (.error "java/lang/IllegalArgumentException")
set_option maxHeartbeats 4000000 in
set_option maxRecDepth 100000 in
theorem b7_mutant {V : EV} {p : Program} {l : Launch} {e : Env} {R : Room} {s : State} {m : MethodId} {args : Array Value} {below : List Frame} {meth : Method} {c : Code} {Q : State → Prop} {A : Nat → Prop} {kc ks : Nat} {ad : Nat → Nat} {rd : RdS} {ra : Int32} {co : Nat → CoS} {fo : FoS} {tr : TrS} {ma : MaS} {mq : Nat} {mx : MxS} {top_tx : Nat → Int32} {top_ln : Int32} {top_cp : Int32} {top_cq : Nat} {top_sq : Nat} {top_fu : Int32} {top_lv : Int32} {top_lt : Int32} {mu_mS : Nat → Int32} {mu_mK : Nat → Int32} {mu_mI : Nat → Int32} {mu_mC : Nat → Int32} {mu_mc : Int32} {mu_mA : Nat → Int32} {v1 : Int32} {v2 : Int32} {res : Except String Int32} (C : CX V p l R s m args c A kc ks RX7 cX7_mutant 3 7 112) (hf : f7_mutant v1 v2 (top_tx, top_ln, top_cp, top_cq, top_sq, top_fu, top_lv, top_lt) (mu_mS, mu_mK, mu_mI, mu_mC, mu_mc, mu_mA) = some res) (K : (∀ v : Int32, res = .ok v → RI V p l e R s m args below meth c Q A kc ks 3 cX7_mutant .int v (wC V ad (top_tx, top_ln, top_cp, top_cq, top_sq, top_fu, top_lv, top_lt) rd ra co (mu_mS, mu_mK, mu_mI, mu_mC, mu_mc, mu_mA) fo tr ma mq mx)) ∧ ∀ E : String, res = .error E → XE V p l e R s m args below meth c Q A kc ks 3 RX7 cX7_mutant E (wC V ad (top_tx, top_ln, top_cp, top_cq, top_sq, top_fu, top_lv, top_lt) rd ra co (mu_mS, mu_mK, mu_mI, mu_mC, mu_mc, mu_mA) fo tr ma mq mx)) : WC V p l e R s m args below meth c Q A kc ks 3 (wC V ad (top_tx, top_ln, top_cp, top_cq, top_sq, top_fu, top_lv, top_lt) rd ra co (mu_mS, mu_mK, mu_mI, mu_mC, mu_mc, mu_mA) fo tr ma mq mx) 0 [(0, .ref (ad 0)), (1, .int v1), (2, .int v2)] [] := by
  rw [f7_mutant] at hf
  refine k_aload_n C dX7_mutant_0 0 rfl ?_
  obtain ⟨r_2, hq_1, hf⟩ := ob_el hf
  rcases r_2 with E | _u
  · try dsimp only at hf
    cases hf
    exact k_callVvx C (x7_needCompiled C.2.2.2.2.2.2.2.2.2.1 hq_1 rfl) cm7_104 ok7_needCompiled (by decide) 0 rfl rfl rfl rfl (Nat.le_of_ble_eq_true rfl) dX7_mutant_1 (K.2 _ rfl)
  try dsimp only at hf
  refine k_callVv C (c7_needCompiled C.2.2.2.2.2.2.2.2.2.1 hq_1 rfl) cm7_104 ok7_needCompiled (by decide) 0 rfl rfl rfl rfl (Nat.le_of_ble_eq_true rfl) dX7_mutant_1 ?_
  refine k_aload_n C dX7_mutant_4 0 rfl ?_
  refine k_iload_n C dX7_mutant_5 1 rfl ?_
  refine k_iconst (v := (1 : Int32)) C dX7_mutant_6 (by decide) ?_
  obtain ⟨r_4, hq_3, hf⟩ := ob_el hf
  rcases r_4 with E | _u
  · try dsimp only at hf
    cases hf
    exact k_callVvx C (x7_needMutant C.2.2.2.2.2.2.2.2.2.1 hq_3 rfl) cm7_107 ok7_needMutant (by decide) 0 rfl rfl rfl rfl (Nat.le_of_ble_eq_true rfl) dX7_mutant_7 (K.2 _ rfl)
  try dsimp only at hf
  refine k_callVv C (c7_needMutant C.2.2.2.2.2.2.2.2.2.1 hq_3 rfl) cm7_107 ok7_needMutant (by decide) 0 rfl rfl rfl rfl (Nat.le_of_ble_eq_true rfl) dX7_mutant_7 ?_
  refine k_iload_n C dX7_mutant_10 2 rfl ?_
  have hx0 : ∀ n : Int32, v2 = n → v2.toInt = n.toInt := fun n h => by rw [h]
  by_cases hc : v2 = (0 : Int32)
  · replace hf := (if_pos hc).symm.trans hf
    refine k_tableIn C 40 dX7_mutant_11 (by rw [hx0 _ hc]; decide) (by rw [hx0 _ hc]; decide) (by rw [hx0 _ hc]; rfl) (by decide) ?_
    refine k_aload_n C dX7_mutant_40 0 rfl ?_
    refine g7_41 C dX7_mutant_41 ?_
    refine g7_111 C dX7_mutant_44 ?_
    refine k_iload_n C dX7_mutant_47 1 rfl ?_
    obtain ⟨hi, hf⟩ := gd_no hf
    refine lc20 C hi dX7_mutant_48 ?_
    cases hf
    exact K.1 _ rfl _ _ dX7_mutant_49 rfl
  replace hf := (if_neg hc).symm.trans hf
  have hn0 := sw_ne hc
  by_cases hc : v2 = (1 : Int32)
  · replace hf := (if_pos hc).symm.trans hf
    refine k_tableIn C 50 dX7_mutant_11 (by rw [hx0 _ hc]; decide) (by rw [hx0 _ hc]; decide) (by rw [hx0 _ hc]; rfl) (by decide) ?_
    refine k_aload_n C dX7_mutant_50 0 rfl ?_
    refine g7_41 C dX7_mutant_51 ?_
    refine g7_115 C dX7_mutant_54 ?_
    refine k_iload_n C dX7_mutant_57 1 rfl ?_
    obtain ⟨hi, hf⟩ := gd_no hf
    refine lc21 C hi dX7_mutant_58 ?_
    cases hf
    exact K.1 _ rfl _ _ dX7_mutant_59 rfl
  replace hf := (if_neg hc).symm.trans hf
  have hn1 := sw_ne hc
  by_cases hc : v2 = (2 : Int32)
  · replace hf := (if_pos hc).symm.trans hf
    refine k_tableIn C 60 dX7_mutant_11 (by rw [hx0 _ hc]; decide) (by rw [hx0 _ hc]; decide) (by rw [hx0 _ hc]; rfl) (by decide) ?_
    refine k_aload_n C dX7_mutant_60 0 rfl ?_
    refine g7_41 C dX7_mutant_61 ?_
    refine g7_118 C dX7_mutant_64 ?_
    refine k_iload_n C dX7_mutant_67 1 rfl ?_
    obtain ⟨hi, hf⟩ := gd_no hf
    refine lc22 C hi dX7_mutant_68 ?_
    cases hf
    exact K.1 _ rfl _ _ dX7_mutant_69 rfl
  replace hf := (if_neg hc).symm.trans hf
  have hn2 := sw_ne hc
  by_cases hc : v2 = (3 : Int32)
  · replace hf := (if_pos hc).symm.trans hf
    refine k_tableIn C 70 dX7_mutant_11 (by rw [hx0 _ hc]; decide) (by rw [hx0 _ hc]; decide) (by rw [hx0 _ hc]; rfl) (by decide) ?_
    refine k_aload_n C dX7_mutant_70 0 rfl ?_
    refine g7_41 C dX7_mutant_71 ?_
    refine g7_121 C dX7_mutant_74 ?_
    refine k_iload_n C dX7_mutant_77 1 rfl ?_
    obtain ⟨hi, hf⟩ := gd_no hf
    refine lc23 C hi dX7_mutant_78 ?_
    cases hf
    exact K.1 _ rfl _ _ dX7_mutant_79 rfl
  replace hf := (if_neg hc).symm.trans hf
  have hn3 := sw_ne hc
  have kd_5 : WC V p l e R s m args below meth c Q A kc ks 3 (wC V ad (top_tx, top_ln, top_cp, top_cq, top_sq, top_fu, top_lv, top_lt) rd ra co (mu_mS, mu_mK, mu_mI, mu_mC, mu_mc, mu_mA) fo tr ma mq mx) 80 [(0, .ref (ad 0)), (1, .int v1), (2, .int v2)] [] := by
    cases hf
    exact (K.2 _ rfl).2.2 _ _ _ 124 126 128 6 "no such what" (by decide +kernel) xk7_124 xi_IllegalArgumentException (by decide +kernel) xa7_128 dX7_mutant_80 dX7_mutant_83 dX7_mutant_84 dX7_mutant_86 dX7_mutant_89 (Nat.le_of_ble_eq_true rfl) (Nat.lt_of_lt_of_le (by decide) C.2.2.2.2.2.2.2.1) (Nat.le_trans (by decide) C.2.2.2.2.2.2.2.2.1)
  have hr : v2.toInt < 0 ∨ 3 < v2.toInt := by
    have q0 : ¬ v2.toInt = 0 := hn0 0 (by decide)
    have q1 : ¬ v2.toInt = 1 := hn1 1 (by decide)
    have q2 : ¬ v2.toInt = 2 := hn2 2 (by decide)
    have q3 : ¬ v2.toInt = 3 := hn3 3 (by decide)
    omega
  rcases hr with hr | hr
  · exact k_tableOut C 80 dX7_mutant_11 (Or.inl hr) (by decide) kd_5
  · exact k_tableOut C 80 dX7_mutant_11 (Or.inr hr) (by decide) kd_5
theorem c7_mutant {V : EV} {l : Launch} (hl0 : l.stackTraces = false) {ad : Nat → Nat} {rd : RdS} {ra : Int32} {co : Nat → CoS} {fo : FoS} {tr : TrS} {ma : MaS} {mq : Nat} {mx : MxS} {top_tx : Nat → Int32} {top_ln : Int32} {top_cp : Int32} {top_cq : Nat} {top_sq : Nat} {top_fu : Int32} {top_lv : Int32} {top_lt : Int32} {mu_mS : Nat → Int32} {mu_mK : Nat → Int32} {mu_mI : Nat → Int32} {mu_mC : Nat → Int32} {mu_mc : Int32} {mu_mA : Nat → Int32} {v1 : Int32} {v2 : Int32} {res : Except String Int32} (hf : f7_mutant v1 v2 (top_tx, top_ln, top_cp, top_cq, top_sq, top_fu, top_lv, top_lt) (mu_mS, mu_mK, mu_mI, mu_mC, mu_mc, mu_mA) = some res) {v : Int32} (hv : res = .ok v) : MI V l yX7_mutant cX7_mutant 3 .int 7 112 [.ref (ad 0), .int v1, .int v2] (wC V ad (top_tx, top_ln, top_cp, top_cq, top_sq, top_fu, top_lv, top_lt) rd ra co (mu_mS, mu_mK, mu_mI, mu_mC, mu_mc, mu_mA) fo tr ma mq mx) v (wC V ad (top_tx, top_ln, top_cp, top_cq, top_sq, top_fu, top_lv, top_lt) rd ra co (mu_mS, mu_mK, mu_mI, mu_mC, mu_mc, mu_mA) fo tr ma mq mx) :=
  mi_of hl0 (by decide +kernel) (Nat.le_of_ble_eq_true rfl) (fun p e R s m args below meth c Q A C K => b7_mutant C hf ⟨fun v' h' => (by cases hv.symm.trans h'; exact K), fun E h' => (by cases hv.symm.trans h')⟩)
theorem x7_mutant {V : EV} {l : Launch} (hl0 : l.stackTraces = false) {ad : Nat → Nat} {rd : RdS} {ra : Int32} {co : Nat → CoS} {fo : FoS} {tr : TrS} {ma : MaS} {mq : Nat} {mx : MxS} {top_tx : Nat → Int32} {top_ln : Int32} {top_cp : Int32} {top_cq : Nat} {top_sq : Nat} {top_fu : Int32} {top_lv : Int32} {top_lt : Int32} {mu_mS : Nat → Int32} {mu_mK : Nat → Int32} {mu_mI : Nat → Int32} {mu_mC : Nat → Int32} {mu_mc : Int32} {mu_mA : Nat → Int32} {v1 : Int32} {v2 : Int32} {res : Except String Int32} (hf : f7_mutant v1 v2 (top_tx, top_ln, top_cp, top_cq, top_sq, top_fu, top_lv, top_lt) (mu_mS, mu_mK, mu_mI, mu_mC, mu_mc, mu_mA) = some res) {E : String} (hv : res = .error E) : TI V l yX7_mutant cX7_mutant 3 .int 7 112 [.ref (ad 0), .int v1, .int v2] (wC V ad (top_tx, top_ln, top_cp, top_cq, top_sq, top_fu, top_lv, top_lt) rd ra co (mu_mS, mu_mK, mu_mI, mu_mC, mu_mc, mu_mA) fo tr ma mq mx) E (wC V ad (top_tx, top_ln, top_cp, top_cq, top_sq, top_fu, top_lv, top_lt) rd ra co (mu_mS, mu_mK, mu_mI, mu_mC, mu_mc, mu_mA) fo tr ma mq mx) :=
  ti_of hl0 (by decide +kernel) (Nat.le_of_ble_eq_true rfl) (fun p e R s m args below meth c Q A C K => b7_mutant C hf ⟨fun v' h' => (by cases hv.symm.trans h'), fun E' h' => (by cases hv.symm.trans h'; exact K)⟩)

theorem cm7_134 : ∀ a ∈ wsCV RX7 134 RX3 yX3_addTest cX3_addTest 3 (some .int), a ∈ GW := by
  unfold wsCV
  exact (List.forall_mem_cons.mpr ⟨(gw_4 (i := 117) (by decide +kernel) rfl), (List.forall_mem_cons.mpr ⟨(gw_4 (i := 118) (by decide +kernel) rfl), (List.forall_mem_cons.mpr ⟨(gw_4 (i := 119) (by decide +kernel) rfl), (List.forall_mem_cons.mpr ⟨(gw_1 (i := 8) (by decide +kernel) rfl), (List.forall_mem_cons.mpr ⟨(gw_4 (i := 120) (by decide +kernel) rfl), (List.forall_mem_nil _)⟩)⟩)⟩)⟩)⟩)
theorem ok7_test : okCV RX7 yX7_test 2 := by unfold okCV; decide +kernel
def f7_test (v1 : Int32) (v2 : Int32) : TopS → MxS → Option (Except String Int32 × MxS)
  | (top_tx, top_ln, top_cp, top_cq, top_sq, top_fu, top_lv, top_lt), (mx_xN, mx_xM, mx_xS, mx_xK, mx_xX, mx_xY) =>
    (f7_needCompiled (top_tx, top_ln, top_cp, top_cq, top_sq, top_fu, top_lv, top_lt)).bind fun r_2 => match r_2 with | .error E => some ((.error E), (mx_xN, mx_xM, mx_xS, mx_xK, mx_xX, mx_xY)) | .ok _ => if mx_xN = (8 : Int32) then some ((.error "java/lang/IllegalStateException"), (mx_xN, mx_xM, mx_xS, mx_xK, mx_xX, mx_xY)) else (f3_addTest v1 v2 (mx_xN, mx_xM, mx_xS, mx_xK, mx_xX, mx_xY)).bind fun (r_4, (mx_xN_5, mx_xM_6, mx_xS_7, mx_xK_8, mx_xX_9, mx_xY_10)) => some ((.ok r_4), (mx_xN_5, mx_xM_6, mx_xS_7, mx_xK_8, mx_xX_9, mx_xY_10))
set_option maxHeartbeats 4000000 in
set_option maxRecDepth 100000 in
theorem b7_test {V : EV} {p : Program} {l : Launch} {e : Env} {R : Room} {s : State} {m : MethodId} {args : Array Value} {below : List Frame} {meth : Method} {c : Code} {Q : State → Prop} {A : Nat → Prop} {kc ks : Nat} {ad : Nat → Nat} {rd : RdS} {ra : Int32} {co : Nat → CoS} {mu : MuS} {fo : FoS} {tr : TrS} {ma : MaS} {mq : Nat} {top_tx : Nat → Int32} {top_ln : Int32} {top_cp : Int32} {top_cq : Nat} {top_sq : Nat} {top_fu : Int32} {top_lv : Int32} {top_lt : Int32} {v1 : Int32} {v2 : Int32} {mx_xN : Int32} {mx_xM : Int32} {mx_xS : Nat → Int64} {mx_xK : Nat → Int32} {mx_xX : Nat → Int32} {mx_xY : Nat → Int32} {res : Except String Int32 × MxS} (C : CX V p l R s m args c A kc ks RX7 cX7_test 3 7 110) (hf : f7_test v1 v2 (top_tx, top_ln, top_cp, top_cq, top_sq, top_fu, top_lv, top_lt) (mx_xN, mx_xM, mx_xS, mx_xK, mx_xX, mx_xY) = some res) (K : (∀ v : Int32, res.1 = .ok v → RI V p l e R s m args below meth c Q A kc ks 3 cX7_test .int v (wC V ad (top_tx, top_ln, top_cp, top_cq, top_sq, top_fu, top_lv, top_lt) rd ra co mu fo tr ma mq res.2)) ∧ ∀ E : String, res.1 = .error E → XE V p l e R s m args below meth c Q A kc ks 3 RX7 cX7_test E (wC V ad (top_tx, top_ln, top_cp, top_cq, top_sq, top_fu, top_lv, top_lt) rd ra co mu fo tr ma mq res.2)) : WC V p l e R s m args below meth c Q A kc ks 3 (wC V ad (top_tx, top_ln, top_cp, top_cq, top_sq, top_fu, top_lv, top_lt) rd ra co mu fo tr ma mq (mx_xN, mx_xM, mx_xS, mx_xK, mx_xX, mx_xY)) 0 [(0, .ref (ad 0)), (1, .int v1), (2, .int v2)] [] := by
  rw [f7_test] at hf
  refine k_aload_n C dX7_test_0 0 rfl ?_
  obtain ⟨r_2, hq_1, hf⟩ := ob_el hf
  rcases r_2 with E | _u
  · try dsimp only at hf
    cases hf
    exact k_callVvx C (x7_needCompiled C.2.2.2.2.2.2.2.2.2.1 hq_1 rfl) cm7_104 ok7_needCompiled (by decide) 0 rfl rfl rfl rfl (Nat.le_of_ble_eq_true rfl) dX7_test_1 (K.2 _ rfl)
  try dsimp only at hf
  refine k_callVv C (c7_needCompiled C.2.2.2.2.2.2.2.2.2.1 hq_1 rfl) cm7_104 ok7_needCompiled (by decide) 0 rfl rfl rfl rfl (Nat.le_of_ble_eq_true rfl) dX7_test_1 ?_
  refine k_aload_n C dX7_test_4 0 rfl ?_
  refine g7_62 C dX7_test_5 ?_
  refine g7_129 C dX7_test_8 ?_
  refine k_bipush (v := (8 : Int32)) C dX7_test_11 (by decide) ?_
  refine k_icmp_ne C 26 dX7_test_13 (by decide) (fun hc => ?_) (fun hc => ?_)
  · replace hf := (if_neg hc).symm.trans hf
    refine k_aload_n C dX7_test_26 0 rfl ?_
    refine g7_62 C dX7_test_27 ?_
    refine k_iload_n C dX7_test_30 1 rfl ?_
    refine k_iload_n C dX7_test_31 2 rfl ?_
    obtain ⟨⟨r_4, ⟨mx_xN_5, mx_xM_6, mx_xS_7, mx_xK_8, mx_xX_9, mx_xY_10⟩⟩, hq_3, hf⟩ := ob_el hf
    dsimp only at hf
    refine k_callVi C (c3_addTest C.2.2.2.2.2.2.2.2.2.1 hq_3) cm7_134 ok3_addTest (by decide) 43 rfl rfl rfl rfl (Nat.le_of_ble_eq_true rfl) dX7_test_32 ?_
    cases hf
    exact K.1 _ rfl _ _ dX7_test_35 rfl
  · replace hf := (if_pos hc).symm.trans hf
    cases hf
    exact (K.2 _ rfl).2.2 _ _ _ 83 132 87 7 "there are eight tests" (by decide +kernel) xk7_83 xi_IllegalStateException (by decide +kernel) xa7_87 dX7_test_16 dX7_test_19 dX7_test_20 dX7_test_22 dX7_test_25 (Nat.le_of_ble_eq_true rfl) (Nat.lt_of_lt_of_le (by decide) C.2.2.2.2.2.2.2.1) (Nat.le_trans (by decide) C.2.2.2.2.2.2.2.2.1)
theorem c7_test {V : EV} {l : Launch} (hl0 : l.stackTraces = false) {ad : Nat → Nat} {rd : RdS} {ra : Int32} {co : Nat → CoS} {mu : MuS} {fo : FoS} {tr : TrS} {ma : MaS} {mq : Nat} {top_tx : Nat → Int32} {top_ln : Int32} {top_cp : Int32} {top_cq : Nat} {top_sq : Nat} {top_fu : Int32} {top_lv : Int32} {top_lt : Int32} {v1 : Int32} {v2 : Int32} {mx_xN : Int32} {mx_xM : Int32} {mx_xS : Nat → Int64} {mx_xK : Nat → Int32} {mx_xX : Nat → Int32} {mx_xY : Nat → Int32} {res : Except String Int32 × MxS} (hf : f7_test v1 v2 (top_tx, top_ln, top_cp, top_cq, top_sq, top_fu, top_lv, top_lt) (mx_xN, mx_xM, mx_xS, mx_xK, mx_xX, mx_xY) = some res) {v : Int32} (hv : res.1 = .ok v) : MI V l yX7_test cX7_test 3 .int 7 110 [.ref (ad 0), .int v1, .int v2] (wC V ad (top_tx, top_ln, top_cp, top_cq, top_sq, top_fu, top_lv, top_lt) rd ra co mu fo tr ma mq (mx_xN, mx_xM, mx_xS, mx_xK, mx_xX, mx_xY)) v (wC V ad (top_tx, top_ln, top_cp, top_cq, top_sq, top_fu, top_lv, top_lt) rd ra co mu fo tr ma mq res.2) :=
  mi_of hl0 (by decide +kernel) (Nat.le_of_ble_eq_true rfl) (fun p e R s m args below meth c Q A C K => b7_test C hf ⟨fun v' h' => (by cases hv.symm.trans h'; exact K), fun E h' => (by cases hv.symm.trans h')⟩)
theorem x7_test {V : EV} {l : Launch} (hl0 : l.stackTraces = false) {ad : Nat → Nat} {rd : RdS} {ra : Int32} {co : Nat → CoS} {mu : MuS} {fo : FoS} {tr : TrS} {ma : MaS} {mq : Nat} {top_tx : Nat → Int32} {top_ln : Int32} {top_cp : Int32} {top_cq : Nat} {top_sq : Nat} {top_fu : Int32} {top_lv : Int32} {top_lt : Int32} {v1 : Int32} {v2 : Int32} {mx_xN : Int32} {mx_xM : Int32} {mx_xS : Nat → Int64} {mx_xK : Nat → Int32} {mx_xX : Nat → Int32} {mx_xY : Nat → Int32} {res : Except String Int32 × MxS} (hf : f7_test v1 v2 (top_tx, top_ln, top_cp, top_cq, top_sq, top_fu, top_lv, top_lt) (mx_xN, mx_xM, mx_xS, mx_xK, mx_xX, mx_xY) = some res) {E : String} (hv : res.1 = .error E) : TI V l yX7_test cX7_test 3 .int 7 110 [.ref (ad 0), .int v1, .int v2] (wC V ad (top_tx, top_ln, top_cp, top_cq, top_sq, top_fu, top_lv, top_lt) rd ra co mu fo tr ma mq (mx_xN, mx_xM, mx_xS, mx_xK, mx_xX, mx_xY)) E (wC V ad (top_tx, top_ln, top_cp, top_cq, top_sq, top_fu, top_lv, top_lt) rd ra co mu fo tr ma mq res.2) :=
  ti_of hl0 (by decide +kernel) (Nat.le_of_ble_eq_true rfl) (fun p e R s m args below meth c Q A C K => b7_test C hf ⟨fun v' h' => (by cases hv.symm.trans h'), fun E' h' => (by cases hv.symm.trans h'; exact K)⟩)

theorem cm7_155 : ∀ a ∈ wsCV RX7 155 RX7 yX7_needMatrix cX7_needMatrix 1 none, a ∈ GW := by
  unfold wsCV
  exact (List.forall_mem_cons.mpr ⟨(gw_4 (i := 208) (by decide +kernel) rfl), (List.forall_mem_cons.mpr ⟨(gw_4 (i := 210) (by decide +kernel) rfl), (List.forall_mem_cons.mpr ⟨(gw_p (q := ((yX7_needMatrix, 13) : MethodName × Nat)) (List.mem_append_right _ (List.mem_append_right _ (List.mem_append_right _ (List.mem_append_left _ (List.mem_of_getElem? (i := 12) (by decide +kernel)))))) rfl), (List.forall_mem_cons.mpr ⟨(gw_1 (i := 1) (by decide +kernel) rfl), (List.forall_mem_cons.mpr ⟨(gw_4 (i := 211) (by decide +kernel) rfl), (List.forall_mem_nil _)⟩)⟩)⟩)⟩)⟩)
theorem cm7_158 : ∀ a ∈ wsCV RX7 158 RX7 yX7_needTest cX7_needTest 2 none, a ∈ GW := by
  unfold wsCV
  exact (List.forall_mem_cons.mpr ⟨(gw_4 (i := 213) (by decide +kernel) rfl), (List.forall_mem_cons.mpr ⟨(gw_4 (i := 215) (by decide +kernel) rfl), (List.forall_mem_cons.mpr ⟨(gw_p (q := ((yX7_needTest, 13) : MethodName × Nat)) (List.mem_append_right _ (List.mem_append_right _ (List.mem_append_right _ (List.mem_append_left _ (List.mem_of_getElem? (i := 13) (by decide +kernel)))))) rfl), (List.forall_mem_cons.mpr ⟨(gw_1 (i := 1) (by decide +kernel) rfl), (List.forall_mem_cons.mpr ⟨(gw_4 (i := 216) (by decide +kernel) rfl), (List.forall_mem_nil _)⟩)⟩)⟩)⟩)⟩)
theorem ok7_killed : okCV RX7 yX7_killed 2 := by unfold okCV; decide +kernel
def f7_killed (v1 : Int32) (v2 : Int32) : MuS → MxS → Option (Except String Int32)
  | (mu_mS, mu_mK, mu_mI, mu_mC, mu_mc, mu_mA), (mx_xN, mx_xM, mx_xS, mx_xK, mx_xX, mx_xY) =>
    (f7_needMatrix (mx_xN, mx_xM, mx_xS, mx_xK, mx_xX, mx_xY)).bind fun r_2 => match r_2 with | .error E => some (.error E) | .ok _ => (f7_needMutant v1 (1 : Int32) (mu_mS, mu_mK, mu_mI, mu_mC, mu_mc, mu_mA)).bind fun r_4 => match r_4 with | .error E => some (.error E) | .ok _ => (f7_needTest v2 (mx_xN, mx_xM, mx_xS, mx_xK, mx_xX, mx_xY)).bind fun r_6 => match r_6 with | .error E => some (.error E) | .ok _ => if v1 < 0 ∨ 121 ≤ v1.toNatClampNeg then none else if (mu_mC v1.toNatClampNeg) < 0 ∨ 121 ≤ (mu_mC v1.toNatClampNeg).toNatClampNeg then none else if (((mx_xK (mu_mC v1.toNatClampNeg).toNatClampNeg) >>> (v2 &&& 31)) &&& (1 : Int32)) = (1 : Int32) then some (.ok (1 : Int32)) else some (.ok (0 : Int32))
set_option maxHeartbeats 4000000 in
set_option maxRecDepth 100000 in
theorem b7_killed {V : EV} {p : Program} {l : Launch} {e : Env} {R : Room} {s : State} {m : MethodId} {args : Array Value} {below : List Frame} {meth : Method} {c : Code} {Q : State → Prop} {A : Nat → Prop} {kc ks : Nat} {ad : Nat → Nat} {top : TopS} {rd : RdS} {ra : Int32} {co : Nat → CoS} {fo : FoS} {tr : TrS} {ma : MaS} {mq : Nat} {mu_mS : Nat → Int32} {mu_mK : Nat → Int32} {mu_mI : Nat → Int32} {mu_mC : Nat → Int32} {mu_mc : Int32} {mu_mA : Nat → Int32} {mx_xN : Int32} {mx_xM : Int32} {mx_xS : Nat → Int64} {mx_xK : Nat → Int32} {mx_xX : Nat → Int32} {mx_xY : Nat → Int32} {v1 : Int32} {v2 : Int32} {res : Except String Int32} (C : CX V p l R s m args c A kc ks RX7 cX7_killed 3 7 112) (hf : f7_killed v1 v2 (mu_mS, mu_mK, mu_mI, mu_mC, mu_mc, mu_mA) (mx_xN, mx_xM, mx_xS, mx_xK, mx_xX, mx_xY) = some res) (K : (∀ v : Int32, res = .ok v → RI V p l e R s m args below meth c Q A kc ks 3 cX7_killed .boolean v (wC V ad top rd ra co (mu_mS, mu_mK, mu_mI, mu_mC, mu_mc, mu_mA) fo tr ma mq (mx_xN, mx_xM, mx_xS, mx_xK, mx_xX, mx_xY))) ∧ ∀ E : String, res = .error E → XE V p l e R s m args below meth c Q A kc ks 3 RX7 cX7_killed E (wC V ad top rd ra co (mu_mS, mu_mK, mu_mI, mu_mC, mu_mc, mu_mA) fo tr ma mq (mx_xN, mx_xM, mx_xS, mx_xK, mx_xX, mx_xY))) : WC V p l e R s m args below meth c Q A kc ks 3 (wC V ad top rd ra co (mu_mS, mu_mK, mu_mI, mu_mC, mu_mc, mu_mA) fo tr ma mq (mx_xN, mx_xM, mx_xS, mx_xK, mx_xX, mx_xY)) 0 [(0, .ref (ad 0)), (1, .int v1), (2, .int v2)] [] := by
  rw [f7_killed] at hf
  refine k_aload_n C dX7_killed_0 0 rfl ?_
  obtain ⟨r_2, hq_1, hf⟩ := ob_el hf
  rcases r_2 with E | _u
  · try dsimp only at hf
    cases hf
    exact k_callVvx C (x7_needMatrix C.2.2.2.2.2.2.2.2.2.1 hq_1 rfl) cm7_155 ok7_needMatrix (by decide) 0 rfl rfl rfl rfl (Nat.le_of_ble_eq_true rfl) dX7_killed_1 (K.2 _ rfl)
  try dsimp only at hf
  refine k_callVv C (c7_needMatrix C.2.2.2.2.2.2.2.2.2.1 hq_1 rfl) cm7_155 ok7_needMatrix (by decide) 0 rfl rfl rfl rfl (Nat.le_of_ble_eq_true rfl) dX7_killed_1 ?_
  refine k_aload_n C dX7_killed_4 0 rfl ?_
  refine k_iload_n C dX7_killed_5 1 rfl ?_
  refine k_iconst (v := (1 : Int32)) C dX7_killed_6 (by decide) ?_
  obtain ⟨r_4, hq_3, hf⟩ := ob_el hf
  rcases r_4 with E | _u
  · try dsimp only at hf
    cases hf
    exact k_callVvx C (x7_needMutant C.2.2.2.2.2.2.2.2.2.1 hq_3 rfl) cm7_107 ok7_needMutant (by decide) 0 rfl rfl rfl rfl (Nat.le_of_ble_eq_true rfl) dX7_killed_7 (K.2 _ rfl)
  try dsimp only at hf
  refine k_callVv C (c7_needMutant C.2.2.2.2.2.2.2.2.2.1 hq_3 rfl) cm7_107 ok7_needMutant (by decide) 0 rfl rfl rfl rfl (Nat.le_of_ble_eq_true rfl) dX7_killed_7 ?_
  refine k_aload_n C dX7_killed_10 0 rfl ?_
  refine k_iload_n C dX7_killed_11 2 rfl ?_
  obtain ⟨r_6, hq_5, hf⟩ := ob_el hf
  rcases r_6 with E | _u
  · try dsimp only at hf
    cases hf
    exact k_callVvx C (x7_needTest C.2.2.2.2.2.2.2.2.2.1 hq_5 rfl) cm7_158 ok7_needTest (by decide) 0 rfl rfl rfl rfl (Nat.le_of_ble_eq_true rfl) dX7_killed_12 (K.2 _ rfl)
  try dsimp only at hf
  refine k_callVv C (c7_needTest C.2.2.2.2.2.2.2.2.2.1 hq_5 rfl) cm7_158 ok7_needTest (by decide) 0 rfl rfl rfl rfl (Nat.le_of_ble_eq_true rfl) dX7_killed_12 ?_
  refine k_aload_n C dX7_killed_15 0 rfl ?_
  refine g7_62 C dX7_killed_16 ?_
  refine g7_162 C dX7_killed_19 ?_
  refine k_aload_n C dX7_killed_22 0 rfl ?_
  refine g7_41 C dX7_killed_23 ?_
  refine g7_121 C dX7_killed_26 ?_
  refine k_iload_n C dX7_killed_29 1 rfl ?_
  obtain ⟨hi, hf⟩ := gd_no hf
  refine lc23 C hi dX7_killed_30 ?_
  obtain ⟨hi, hf⟩ := gd_no hf
  refine lc45 C hi dX7_killed_31 ?_
  refine k_iload_n C dX7_killed_32 2 rfl ?_
  refine k_ishr C dX7_killed_33 ?_
  refine k_iconst (v := (1 : Int32)) C dX7_killed_34 (by decide) ?_
  refine k_iand C dX7_killed_35 ?_
  refine k_iconst (v := (1 : Int32)) C dX7_killed_36 (by decide) ?_
  refine k_icmp_ne C 44 dX7_killed_37 (by decide) (fun hc => ?_) (fun hc => ?_)
  · replace hf := (if_neg hc).symm.trans hf
    refine k_iconst (v := (0 : Int32)) C dX7_killed_44 (by decide) ?_
    cases hf
    exact K.1 _ rfl _ _ dX7_killed_45 (nar_b (Or.inl rfl))
  · replace hf := (if_pos hc).symm.trans hf
    refine k_iconst (v := (1 : Int32)) C dX7_killed_40 (by decide) ?_
    refine k_goto C 45 dX7_killed_41 (by decide) ?_
    cases hf
    exact K.1 _ rfl _ _ dX7_killed_45 (nar_b (Or.inr rfl))
theorem c7_killed {V : EV} {l : Launch} (hl0 : l.stackTraces = false) {ad : Nat → Nat} {top : TopS} {rd : RdS} {ra : Int32} {co : Nat → CoS} {fo : FoS} {tr : TrS} {ma : MaS} {mq : Nat} {mu_mS : Nat → Int32} {mu_mK : Nat → Int32} {mu_mI : Nat → Int32} {mu_mC : Nat → Int32} {mu_mc : Int32} {mu_mA : Nat → Int32} {mx_xN : Int32} {mx_xM : Int32} {mx_xS : Nat → Int64} {mx_xK : Nat → Int32} {mx_xX : Nat → Int32} {mx_xY : Nat → Int32} {v1 : Int32} {v2 : Int32} {res : Except String Int32} (hf : f7_killed v1 v2 (mu_mS, mu_mK, mu_mI, mu_mC, mu_mc, mu_mA) (mx_xN, mx_xM, mx_xS, mx_xK, mx_xX, mx_xY) = some res) {v : Int32} (hv : res = .ok v) : MI V l yX7_killed cX7_killed 3 .boolean 7 112 [.ref (ad 0), .int v1, .int v2] (wC V ad top rd ra co (mu_mS, mu_mK, mu_mI, mu_mC, mu_mc, mu_mA) fo tr ma mq (mx_xN, mx_xM, mx_xS, mx_xK, mx_xX, mx_xY)) v (wC V ad top rd ra co (mu_mS, mu_mK, mu_mI, mu_mC, mu_mc, mu_mA) fo tr ma mq (mx_xN, mx_xM, mx_xS, mx_xK, mx_xX, mx_xY)) :=
  mi_of hl0 (by decide +kernel) (Nat.le_of_ble_eq_true rfl) (fun p e R s m args below meth c Q A C K => b7_killed C hf ⟨fun v' h' => (by cases hv.symm.trans h'; exact K), fun E h' => (by cases hv.symm.trans h')⟩)
theorem x7_killed {V : EV} {l : Launch} (hl0 : l.stackTraces = false) {ad : Nat → Nat} {top : TopS} {rd : RdS} {ra : Int32} {co : Nat → CoS} {fo : FoS} {tr : TrS} {ma : MaS} {mq : Nat} {mu_mS : Nat → Int32} {mu_mK : Nat → Int32} {mu_mI : Nat → Int32} {mu_mC : Nat → Int32} {mu_mc : Int32} {mu_mA : Nat → Int32} {mx_xN : Int32} {mx_xM : Int32} {mx_xS : Nat → Int64} {mx_xK : Nat → Int32} {mx_xX : Nat → Int32} {mx_xY : Nat → Int32} {v1 : Int32} {v2 : Int32} {res : Except String Int32} (hf : f7_killed v1 v2 (mu_mS, mu_mK, mu_mI, mu_mC, mu_mc, mu_mA) (mx_xN, mx_xM, mx_xS, mx_xK, mx_xX, mx_xY) = some res) {E : String} (hv : res = .error E) : TI V l yX7_killed cX7_killed 3 .boolean 7 112 [.ref (ad 0), .int v1, .int v2] (wC V ad top rd ra co (mu_mS, mu_mK, mu_mI, mu_mC, mu_mc, mu_mA) fo tr ma mq (mx_xN, mx_xM, mx_xS, mx_xK, mx_xX, mx_xY)) E (wC V ad top rd ra co (mu_mS, mu_mK, mu_mI, mu_mC, mu_mc, mu_mA) fo tr ma mq (mx_xN, mx_xM, mx_xS, mx_xK, mx_xX, mx_xY)) :=
  ti_of hl0 (by decide +kernel) (Nat.le_of_ble_eq_true rfl) (fun p e R s m args below meth c Q A C K => b7_killed C hf ⟨fun v' h' => (by cases hv.symm.trans h'), fun E' h' => (by cases hv.symm.trans h'; exact K)⟩)

theorem cm7_169 : ∀ a ∈ wsCS RX7 169 yX7_holds cX7_holds 3 (some .boolean), a ∈ GW := by
  unfold wsCS
  exact (List.forall_mem_cons.mpr ⟨(gw_4 (i := 225) (by decide +kernel) rfl), (List.forall_mem_cons.mpr ⟨(gw_4 (i := 199) (by decide +kernel) rfl), (List.forall_mem_cons.mpr ⟨(gw_1 (i := 1) (by decide +kernel) rfl), (List.forall_mem_cons.mpr ⟨(gw_4 (i := 200) (by decide +kernel) rfl), (List.forall_mem_nil _)⟩)⟩)⟩)⟩)
theorem ok7_reached : okCV RX7 yX7_reached 2 := by unfold okCV; decide +kernel
def f7_reached (v1 : Int32) (v2 : Int32) : MuS → MxS → Option (Except String Int32)
  | (mu_mS, mu_mK, mu_mI, mu_mC, mu_mc, mu_mA), (mx_xN, mx_xM, mx_xS, mx_xK, mx_xX, mx_xY) =>
    (f7_needMatrix (mx_xN, mx_xM, mx_xS, mx_xK, mx_xX, mx_xY)).bind fun r_2 => match r_2 with | .error E => some (.error E) | .ok _ => (f7_needMutant v1 (1 : Int32) (mu_mS, mu_mK, mu_mI, mu_mC, mu_mc, mu_mA)).bind fun r_4 => match r_4 with | .error E => some (.error E) | .ok _ => (f7_needTest v2 (mx_xN, mx_xM, mx_xS, mx_xK, mx_xX, mx_xY)).bind fun r_6 => match r_6 with | .error E => some (.error E) | .ok _ => if v2 < 0 ∨ 8 ≤ v2.toNatClampNeg then none else if v1 < 0 ∨ 121 ≤ v1.toNatClampNeg then none else (f7_holds (mx_xS v2.toNatClampNeg) (mu_mS v1.toNatClampNeg)).bind fun r_8 => if r_8 = 0 ∨ r_8 = 1 then some (.ok r_8) else none
set_option maxHeartbeats 4000000 in
set_option maxRecDepth 100000 in
theorem b7_reached {V : EV} {p : Program} {l : Launch} {e : Env} {R : Room} {s : State} {m : MethodId} {args : Array Value} {below : List Frame} {meth : Method} {c : Code} {Q : State → Prop} {A : Nat → Prop} {kc ks : Nat} {ad : Nat → Nat} {top : TopS} {rd : RdS} {ra : Int32} {co : Nat → CoS} {fo : FoS} {tr : TrS} {ma : MaS} {mq : Nat} {mu_mS : Nat → Int32} {mu_mK : Nat → Int32} {mu_mI : Nat → Int32} {mu_mC : Nat → Int32} {mu_mc : Int32} {mu_mA : Nat → Int32} {mx_xN : Int32} {mx_xM : Int32} {mx_xS : Nat → Int64} {mx_xK : Nat → Int32} {mx_xX : Nat → Int32} {mx_xY : Nat → Int32} {v1 : Int32} {v2 : Int32} {res : Except String Int32} (C : CX V p l R s m args c A kc ks RX7 cX7_reached 3 7 112) (hf : f7_reached v1 v2 (mu_mS, mu_mK, mu_mI, mu_mC, mu_mc, mu_mA) (mx_xN, mx_xM, mx_xS, mx_xK, mx_xX, mx_xY) = some res) (K : (∀ v : Int32, res = .ok v → RI V p l e R s m args below meth c Q A kc ks 3 cX7_reached .boolean v (wC V ad top rd ra co (mu_mS, mu_mK, mu_mI, mu_mC, mu_mc, mu_mA) fo tr ma mq (mx_xN, mx_xM, mx_xS, mx_xK, mx_xX, mx_xY))) ∧ ∀ E : String, res = .error E → XE V p l e R s m args below meth c Q A kc ks 3 RX7 cX7_reached E (wC V ad top rd ra co (mu_mS, mu_mK, mu_mI, mu_mC, mu_mc, mu_mA) fo tr ma mq (mx_xN, mx_xM, mx_xS, mx_xK, mx_xX, mx_xY))) : WC V p l e R s m args below meth c Q A kc ks 3 (wC V ad top rd ra co (mu_mS, mu_mK, mu_mI, mu_mC, mu_mc, mu_mA) fo tr ma mq (mx_xN, mx_xM, mx_xS, mx_xK, mx_xX, mx_xY)) 0 [(0, .ref (ad 0)), (1, .int v1), (2, .int v2)] [] := by
  rw [f7_reached] at hf
  refine k_aload_n C dX7_reached_0 0 rfl ?_
  obtain ⟨r_2, hq_1, hf⟩ := ob_el hf
  rcases r_2 with E | _u
  · try dsimp only at hf
    cases hf
    exact k_callVvx C (x7_needMatrix C.2.2.2.2.2.2.2.2.2.1 hq_1 rfl) cm7_155 ok7_needMatrix (by decide) 0 rfl rfl rfl rfl (Nat.le_of_ble_eq_true rfl) dX7_reached_1 (K.2 _ rfl)
  try dsimp only at hf
  refine k_callVv C (c7_needMatrix C.2.2.2.2.2.2.2.2.2.1 hq_1 rfl) cm7_155 ok7_needMatrix (by decide) 0 rfl rfl rfl rfl (Nat.le_of_ble_eq_true rfl) dX7_reached_1 ?_
  refine k_aload_n C dX7_reached_4 0 rfl ?_
  refine k_iload_n C dX7_reached_5 1 rfl ?_
  refine k_iconst (v := (1 : Int32)) C dX7_reached_6 (by decide) ?_
  obtain ⟨r_4, hq_3, hf⟩ := ob_el hf
  rcases r_4 with E | _u
  · try dsimp only at hf
    cases hf
    exact k_callVvx C (x7_needMutant C.2.2.2.2.2.2.2.2.2.1 hq_3 rfl) cm7_107 ok7_needMutant (by decide) 0 rfl rfl rfl rfl (Nat.le_of_ble_eq_true rfl) dX7_reached_7 (K.2 _ rfl)
  try dsimp only at hf
  refine k_callVv C (c7_needMutant C.2.2.2.2.2.2.2.2.2.1 hq_3 rfl) cm7_107 ok7_needMutant (by decide) 0 rfl rfl rfl rfl (Nat.le_of_ble_eq_true rfl) dX7_reached_7 ?_
  refine k_aload_n C dX7_reached_10 0 rfl ?_
  refine k_iload_n C dX7_reached_11 2 rfl ?_
  obtain ⟨r_6, hq_5, hf⟩ := ob_el hf
  rcases r_6 with E | _u
  · try dsimp only at hf
    cases hf
    exact k_callVvx C (x7_needTest C.2.2.2.2.2.2.2.2.2.1 hq_5 rfl) cm7_158 ok7_needTest (by decide) 0 rfl rfl rfl rfl (Nat.le_of_ble_eq_true rfl) dX7_reached_12 (K.2 _ rfl)
  try dsimp only at hf
  refine k_callVv C (c7_needTest C.2.2.2.2.2.2.2.2.2.1 hq_5 rfl) cm7_158 ok7_needTest (by decide) 0 rfl rfl rfl rfl (Nat.le_of_ble_eq_true rfl) dX7_reached_12 ?_
  refine k_aload_n C dX7_reached_15 0 rfl ?_
  refine g7_62 C dX7_reached_16 ?_
  refine g7_165 C dX7_reached_19 ?_
  refine k_iload_n C dX7_reached_22 2 rfl ?_
  obtain ⟨hi, hf⟩ := gd_no hf
  refine lc44 C hi dX7_reached_23 ?_
  refine k_aload_n C dX7_reached_24 0 rfl ?_
  refine g7_41 C dX7_reached_25 ?_
  refine g7_111 C dX7_reached_28 ?_
  refine k_iload_n C dX7_reached_31 1 rfl ?_
  obtain ⟨hi, hf⟩ := gd_no hf
  refine lc20 C hi dX7_reached_32 ?_
  obtain ⟨r_8, hq_7, hf⟩ := ob_el hf
  refine k_callSi C (c7_holds C.2.2.2.2.2.2.2.2.2.1 hq_7) cm7_169 ok7_holds (by decide) rfl rfl (Nat.le_of_ble_eq_true rfl) dX7_reached_33 ?_
  obtain ⟨hb, hf⟩ := gd_ok hf
  cases hf
  exact K.1 _ rfl _ _ dX7_reached_36 (nar_b hb)
theorem c7_reached {V : EV} {l : Launch} (hl0 : l.stackTraces = false) {ad : Nat → Nat} {top : TopS} {rd : RdS} {ra : Int32} {co : Nat → CoS} {fo : FoS} {tr : TrS} {ma : MaS} {mq : Nat} {mu_mS : Nat → Int32} {mu_mK : Nat → Int32} {mu_mI : Nat → Int32} {mu_mC : Nat → Int32} {mu_mc : Int32} {mu_mA : Nat → Int32} {mx_xN : Int32} {mx_xM : Int32} {mx_xS : Nat → Int64} {mx_xK : Nat → Int32} {mx_xX : Nat → Int32} {mx_xY : Nat → Int32} {v1 : Int32} {v2 : Int32} {res : Except String Int32} (hf : f7_reached v1 v2 (mu_mS, mu_mK, mu_mI, mu_mC, mu_mc, mu_mA) (mx_xN, mx_xM, mx_xS, mx_xK, mx_xX, mx_xY) = some res) {v : Int32} (hv : res = .ok v) : MI V l yX7_reached cX7_reached 3 .boolean 7 112 [.ref (ad 0), .int v1, .int v2] (wC V ad top rd ra co (mu_mS, mu_mK, mu_mI, mu_mC, mu_mc, mu_mA) fo tr ma mq (mx_xN, mx_xM, mx_xS, mx_xK, mx_xX, mx_xY)) v (wC V ad top rd ra co (mu_mS, mu_mK, mu_mI, mu_mC, mu_mc, mu_mA) fo tr ma mq (mx_xN, mx_xM, mx_xS, mx_xK, mx_xX, mx_xY)) :=
  mi_of hl0 (by decide +kernel) (Nat.le_of_ble_eq_true rfl) (fun p e R s m args below meth c Q A C K => b7_reached C hf ⟨fun v' h' => (by cases hv.symm.trans h'; exact K), fun E h' => (by cases hv.symm.trans h')⟩)
theorem x7_reached {V : EV} {l : Launch} (hl0 : l.stackTraces = false) {ad : Nat → Nat} {top : TopS} {rd : RdS} {ra : Int32} {co : Nat → CoS} {fo : FoS} {tr : TrS} {ma : MaS} {mq : Nat} {mu_mS : Nat → Int32} {mu_mK : Nat → Int32} {mu_mI : Nat → Int32} {mu_mC : Nat → Int32} {mu_mc : Int32} {mu_mA : Nat → Int32} {mx_xN : Int32} {mx_xM : Int32} {mx_xS : Nat → Int64} {mx_xK : Nat → Int32} {mx_xX : Nat → Int32} {mx_xY : Nat → Int32} {v1 : Int32} {v2 : Int32} {res : Except String Int32} (hf : f7_reached v1 v2 (mu_mS, mu_mK, mu_mI, mu_mC, mu_mc, mu_mA) (mx_xN, mx_xM, mx_xS, mx_xK, mx_xX, mx_xY) = some res) {E : String} (hv : res = .error E) : TI V l yX7_reached cX7_reached 3 .boolean 7 112 [.ref (ad 0), .int v1, .int v2] (wC V ad top rd ra co (mu_mS, mu_mK, mu_mI, mu_mC, mu_mc, mu_mA) fo tr ma mq (mx_xN, mx_xM, mx_xS, mx_xK, mx_xX, mx_xY)) E (wC V ad top rd ra co (mu_mS, mu_mK, mu_mI, mu_mC, mu_mc, mu_mA) fo tr ma mq (mx_xN, mx_xM, mx_xS, mx_xK, mx_xX, mx_xY)) :=
  ti_of hl0 (by decide +kernel) (Nat.le_of_ble_eq_true rfl) (fun p e R s m args below meth c Q A C K => b7_reached C hf ⟨fun v' h' => (by cases hv.symm.trans h'), fun E' h' => (by cases hv.symm.trans h'; exact K)⟩)

theorem cm7_173 : ∀ a ∈ wsCV RX7 173 RX4 yX4_isNamesake cX4_isNamesake 2 (some .boolean), a ∈ GW := by
  unfold wsCV
  exact (List.forall_mem_cons.mpr ⟨(gw_4 (i := 233) (by decide +kernel) rfl), (List.forall_mem_cons.mpr ⟨(gw_4 (i := 195) (by decide +kernel) rfl), (List.forall_mem_cons.mpr ⟨(gw_4 (i := 196) (by decide +kernel) rfl), (List.forall_mem_cons.mpr ⟨(gw_1 (i := 4) (by decide +kernel) rfl), (List.forall_mem_cons.mpr ⟨(gw_4 (i := 197) (by decide +kernel) rfl), (List.forall_mem_nil _)⟩)⟩)⟩)⟩)⟩)
theorem ok7_score : okCV RX7 yX7_score 1 := by unfold okCV; decide +kernel
def f7_score_L27 (k74 : Int32 → Option (Except String Int32)) (N : Nat) (mu_mS : Nat → Int32) (mu_mK : Nat → Int32) (mu_mI : Nat → Int32) (mu_mC : Nat → Int32) (mu_mc : Int32) (mu_mA : Nat → Int32) (mx_xN : Int32) (mx_xM : Int32) (mx_xS : Nat → Int64) (mx_xK : Nat → Int32) (mx_xX : Nat → Int32) (mx_xY : Nat → Int32) : Nat → Int32 → Int32 → Int32 → Option (Except String Int32)
  | 0, _, _, _ => none
  | n + 1, x1, x2, x3 =>
    if mu_mc < x3 then k74 x2 else (f4_isNamesake x3 (mu_mS, mu_mK, mu_mI, mu_mC, mu_mc, mu_mA)).bind fun r_4 => if r_4 = 0 then nm_v (x3 + (1 : Int32)) (fun v3_5 => f7_score_L27 k74 N mu_mS mu_mK mu_mI mu_mC mu_mc mu_mA mx_xN mx_xM mx_xS mx_xK mx_xX mx_xY n x1 x2 v3_5) else if x1 = 0 then nm_v (x2 + (1 : Int32)) (fun v2_6 => nm_v (x3 + (1 : Int32)) (fun v3_7 => f7_score_L27 k74 N mu_mS mu_mK mu_mI mu_mC mu_mc mu_mA mx_xN mx_xM mx_xS mx_xK mx_xX mx_xY n x1 v2_6 v3_7)) else if x3 < 0 ∨ 121 ≤ x3.toNatClampNeg then none else if (mx_xK x3.toNatClampNeg) = 0 then nm_v (x3 + (1 : Int32)) (fun v3_8 => f7_score_L27 k74 N mu_mS mu_mK mu_mI mu_mC mu_mc mu_mA mx_xN mx_xM mx_xS mx_xK mx_xX mx_xY n x1 x2 v3_8) else nm_v (x2 + (1 : Int32)) (fun v2_9 => nm_v (x3 + (1 : Int32)) (fun v3_10 => f7_score_L27 k74 N mu_mS mu_mK mu_mI mu_mC mu_mc mu_mA mx_xN mx_xM mx_xS mx_xK mx_xX mx_xY n x1 v2_9 v3_10))
def f7_score (N : Nat) (v1 : Int32) : MuS → MxS → Option (Except String Int32)
  | (mu_mS, mu_mK, mu_mI, mu_mC, mu_mc, mu_mA), (mx_xN, mx_xM, mx_xS, mx_xK, mx_xX, mx_xY) =>
    (f7_needMatrix (mx_xN, mx_xM, mx_xS, mx_xK, mx_xX, mx_xY)).bind fun r_2 => match r_2 with | .error E => some (.error E) | .ok _ => if v1 = 0 then f7_score_L27 (fun x2_11 => some (.ok x2_11)) N mu_mS mu_mK mu_mI mu_mC mu_mc mu_mA mx_xN mx_xM mx_xS mx_xK mx_xX mx_xY N v1 (0 : Int32) (1 : Int32) else if v1 = (1 : Int32) then f7_score_L27 (fun x2_12 => some (.ok x2_12)) N mu_mS mu_mK mu_mI mu_mC mu_mc mu_mA mx_xN mx_xM mx_xS mx_xK mx_xX mx_xY N v1 (0 : Int32) (1 : Int32) else some (.error "java/lang/IllegalArgumentException")
set_option maxHeartbeats 4000000 in
set_option maxRecDepth 100000 in
theorem w7_score_L27 {V : EV} {p : Program} {l : Launch} {e : Env} {R : Room} {s : State} {m : MethodId} {args : Array Value} {below : List Frame} {meth : Method} {c : Code} {Q : State → Prop} {A : Nat → Prop} {kc ks : Nat} {ad : Nat → Nat} {top : TopS} {rd : RdS} {ra : Int32} {co : Nat → CoS} {fo : FoS} {tr : TrS} {ma : MaS} {mq : Nat} {mu_mS : Nat → Int32} {mu_mK : Nat → Int32} {mu_mI : Nat → Int32} {mu_mC : Nat → Int32} {mu_mc : Int32} {mu_mA : Nat → Int32} {mx_xN : Int32} {mx_xM : Int32} {mx_xS : Nat → Int64} {mx_xK : Nat → Int32} {mx_xX : Nat → Int32} {mx_xY : Nat → Int32} {k74 : Int32 → Option (Except String Int32)} {N : Nat} {res : Except String Int32} (C : CX V p l R s m args c A kc ks RX7 cX7_score 4 7 110) (K : (∀ v : Int32, res = .ok v → RI V p l e R s m args below meth c Q A kc ks 4 cX7_score .int v (wC V ad top rd ra co (mu_mS, mu_mK, mu_mI, mu_mC, mu_mc, mu_mA) fo tr ma mq (mx_xN, mx_xM, mx_xS, mx_xK, mx_xX, mx_xY))) ∧ ∀ E : String, res = .error E → XE V p l e R s m args below meth c Q A kc ks 4 RX7 cX7_score E (wC V ad top rd ra co (mu_mS, mu_mK, mu_mI, mu_mC, mu_mc, mu_mA) fo tr ma mq (mx_xN, mx_xM, mx_xS, mx_xK, mx_xX, mx_xY))) (hk74 : ∀ (x2 : Int32) , k74 x2 = some res → WC V p l e R s m args below meth c Q A kc ks 4 (wC V ad top rd ra co (mu_mS, mu_mK, mu_mI, mu_mC, mu_mc, mu_mA) fo tr ma mq (mx_xN, mx_xM, mx_xS, mx_xK, mx_xX, mx_xY)) 74 [(2, .int x2)] []) : ∀ (n : Nat) (x1 : Int32) (x2 : Int32) (x3 : Int32) , f7_score_L27 k74 N mu_mS mu_mK mu_mI mu_mC mu_mc mu_mA mx_xN mx_xM mx_xS mx_xK mx_xX mx_xY n x1 x2 x3 = some res → WC V p l e R s m args below meth c Q A kc ks 4 (wC V ad top rd ra co (mu_mS, mu_mK, mu_mI, mu_mC, mu_mc, mu_mA) fo tr ma mq (mx_xN, mx_xM, mx_xS, mx_xK, mx_xX, mx_xY)) 27 [(0, .ref (ad 0)), (1, .int x1), (2, .int x2), (3, .int x3)] [] := by
  intro n
  induction n with
  | zero => intro _ _ _ hf; exact nomatch (show none = some res from hf)
  | succ n ih =>
    intro x1 x2 x3 hf
    rw [f7_score_L27] at hf
    refine k_iload_n C dX7_score_27 3 rfl ?_
    refine k_aload_n C dX7_score_28 0 rfl ?_
    refine g7_41 C dX7_score_29 ?_
    refine g7_101 C dX7_score_32 ?_
    refine k_icmp_gt C 74 dX7_score_35 (by decide) (fun hc => ?_) (fun hc => ?_)
    · replace hf := (if_pos hc).symm.trans hf
      refine k_sub [2] (L' := [(2, .int x2)]) rfl ?_
      exact hk74 _ hf
    · replace hf := (if_neg hc).symm.trans hf
      refine k_aload_n C dX7_score_38 0 rfl ?_
      refine g7_41 C dX7_score_39 ?_
      refine k_iload_n C dX7_score_42 3 rfl ?_
      obtain ⟨r_4, hq_3, hf⟩ := ob_el hf
      refine k_callVi C (c4_isNamesake C.2.2.2.2.2.2.2.2.2.1 hq_3) cm7_173 ok4_isNamesake (by decide) 19 rfl rfl rfl rfl (Nat.le_of_ble_eq_true rfl) dX7_score_43 ?_
      refine k_if_eq C 68 dX7_score_46 (by decide) (fun hc => ?_) (fun hc => ?_)
      · replace hf := (if_pos hc).symm.trans hf
        obtain ⟨v3_5, ev3_5⟩ : ∃ y : Int32, y = x3 + (1 : Int32) := ⟨_, rfl⟩
        replace hf := nm_el hf ev3_5
        refine k_iinc (v := v3_5) C dX7_score_68 3 rfl (by rw [ev3_5]; rfl) [(3, .int v3_5), (0, .ref (ad 0)), (1, .int x1), (2, .int x2)] (by decide) rfl ?_
        refine k_goto C 27 dX7_score_71 (by decide) ?_
        refine k_sub [1, 2, 3, 0] (L' := [(0, .ref (ad 0)), (1, .int x1), (2, .int x2), (3, .int v3_5)]) rfl ?_
        exact ih _ _ _ hf
      · replace hf := (if_neg hc).symm.trans hf
        refine k_iload_n C dX7_score_49 1 rfl ?_
        refine k_if_eq C 65 dX7_score_50 (by decide) (fun hc => ?_) (fun hc => ?_)
        · replace hf := (if_pos hc).symm.trans hf
          obtain ⟨v2_6, ev2_6⟩ : ∃ y : Int32, y = x2 + (1 : Int32) := ⟨_, rfl⟩
          replace hf := nm_el hf ev2_6
          refine k_iinc (v := v2_6) C dX7_score_65 2 rfl (by rw [ev2_6]; rfl) [(2, .int v2_6), (0, .ref (ad 0)), (1, .int x1), (3, .int x3)] (by decide) rfl ?_
          obtain ⟨v3_7, ev3_7⟩ : ∃ y : Int32, y = x3 + (1 : Int32) := ⟨_, rfl⟩
          replace hf := nm_el hf ev3_7
          refine k_iinc (v := v3_7) C dX7_score_68 3 rfl (by rw [ev3_7]; rfl) [(3, .int v3_7), (2, .int v2_6), (0, .ref (ad 0)), (1, .int x1)] (by decide) rfl ?_
          refine k_goto C 27 dX7_score_71 (by decide) ?_
          refine k_sub [2, 3, 1, 0] (L' := [(0, .ref (ad 0)), (1, .int x1), (2, .int v2_6), (3, .int v3_7)]) rfl ?_
          exact ih _ _ _ hf
        · replace hf := (if_neg hc).symm.trans hf
          refine k_aload_n C dX7_score_53 0 rfl ?_
          refine g7_62 C dX7_score_54 ?_
          refine g7_162 C dX7_score_57 ?_
          refine k_iload_n C dX7_score_60 3 rfl ?_
          obtain ⟨hi, hf⟩ := gd_no hf
          refine lc45 C hi dX7_score_61 ?_
          refine k_if_eq C 68 dX7_score_62 (by decide) (fun hc => ?_) (fun hc => ?_)
          · replace hf := (if_pos hc).symm.trans hf
            obtain ⟨v3_8, ev3_8⟩ : ∃ y : Int32, y = x3 + (1 : Int32) := ⟨_, rfl⟩
            replace hf := nm_el hf ev3_8
            refine k_iinc (v := v3_8) C dX7_score_68 3 rfl (by rw [ev3_8]; rfl) [(3, .int v3_8), (0, .ref (ad 0)), (1, .int x1), (2, .int x2)] (by decide) rfl ?_
            refine k_goto C 27 dX7_score_71 (by decide) ?_
            refine k_sub [1, 2, 3, 0] (L' := [(0, .ref (ad 0)), (1, .int x1), (2, .int x2), (3, .int v3_8)]) rfl ?_
            exact ih _ _ _ hf
          · replace hf := (if_neg hc).symm.trans hf
            obtain ⟨v2_9, ev2_9⟩ : ∃ y : Int32, y = x2 + (1 : Int32) := ⟨_, rfl⟩
            replace hf := nm_el hf ev2_9
            refine k_iinc (v := v2_9) C dX7_score_65 2 rfl (by rw [ev2_9]; rfl) [(2, .int v2_9), (0, .ref (ad 0)), (1, .int x1), (3, .int x3)] (by decide) rfl ?_
            obtain ⟨v3_10, ev3_10⟩ : ∃ y : Int32, y = x3 + (1 : Int32) := ⟨_, rfl⟩
            replace hf := nm_el hf ev3_10
            refine k_iinc (v := v3_10) C dX7_score_68 3 rfl (by rw [ev3_10]; rfl) [(3, .int v3_10), (2, .int v2_9), (0, .ref (ad 0)), (1, .int x1)] (by decide) rfl ?_
            refine k_goto C 27 dX7_score_71 (by decide) ?_
            refine k_sub [2, 3, 1, 0] (L' := [(0, .ref (ad 0)), (1, .int x1), (2, .int v2_9), (3, .int v3_10)]) rfl ?_
            exact ih _ _ _ hf
set_option maxHeartbeats 4000000 in
set_option maxRecDepth 100000 in
theorem b7_score {V : EV} {p : Program} {l : Launch} {e : Env} {R : Room} {s : State} {m : MethodId} {args : Array Value} {below : List Frame} {meth : Method} {c : Code} {Q : State → Prop} {A : Nat → Prop} {kc ks : Nat} {ad : Nat → Nat} {top : TopS} {rd : RdS} {ra : Int32} {co : Nat → CoS} {fo : FoS} {tr : TrS} {ma : MaS} {mq : Nat} {mu_mS : Nat → Int32} {mu_mK : Nat → Int32} {mu_mI : Nat → Int32} {mu_mC : Nat → Int32} {mu_mc : Int32} {mu_mA : Nat → Int32} {mx_xN : Int32} {mx_xM : Int32} {mx_xS : Nat → Int64} {mx_xK : Nat → Int32} {mx_xX : Nat → Int32} {mx_xY : Nat → Int32} {v1 : Int32} {N : Nat} {res : Except String Int32} (C : CX V p l R s m args c A kc ks RX7 cX7_score 4 7 110) (hf : f7_score N v1 (mu_mS, mu_mK, mu_mI, mu_mC, mu_mc, mu_mA) (mx_xN, mx_xM, mx_xS, mx_xK, mx_xX, mx_xY) = some res) (K : (∀ v : Int32, res = .ok v → RI V p l e R s m args below meth c Q A kc ks 4 cX7_score .int v (wC V ad top rd ra co (mu_mS, mu_mK, mu_mI, mu_mC, mu_mc, mu_mA) fo tr ma mq (mx_xN, mx_xM, mx_xS, mx_xK, mx_xX, mx_xY))) ∧ ∀ E : String, res = .error E → XE V p l e R s m args below meth c Q A kc ks 4 RX7 cX7_score E (wC V ad top rd ra co (mu_mS, mu_mK, mu_mI, mu_mC, mu_mc, mu_mA) fo tr ma mq (mx_xN, mx_xM, mx_xS, mx_xK, mx_xX, mx_xY))) : WC V p l e R s m args below meth c Q A kc ks 4 (wC V ad top rd ra co (mu_mS, mu_mK, mu_mI, mu_mC, mu_mc, mu_mA) fo tr ma mq (mx_xN, mx_xM, mx_xS, mx_xK, mx_xX, mx_xY)) 0 [(0, .ref (ad 0)), (1, .int v1)] [] := by
  rw [f7_score] at hf
  refine k_aload_n C dX7_score_0 0 rfl ?_
  obtain ⟨r_2, hq_1, hf⟩ := ob_el hf
  rcases r_2 with E | _u
  · try dsimp only at hf
    cases hf
    exact k_callVvx C (x7_needMatrix C.2.2.2.2.2.2.2.2.2.1 hq_1 rfl) cm7_155 ok7_needMatrix (by decide) 0 rfl rfl rfl rfl (Nat.le_of_ble_eq_true rfl) dX7_score_1 (K.2 _ rfl)
  try dsimp only at hf
  refine k_callVv C (c7_needMatrix C.2.2.2.2.2.2.2.2.2.1 hq_1 rfl) cm7_155 ok7_needMatrix (by decide) 0 rfl rfl rfl rfl (Nat.le_of_ble_eq_true rfl) dX7_score_1 ?_
  refine k_iload_n C dX7_score_4 1 rfl ?_
  refine k_if_eq C 23 dX7_score_5 (by decide) (fun hc => ?_) (fun hc => ?_)
  · replace hf := (if_pos hc).symm.trans hf
    refine k_iconst (v := (0 : Int32)) C dX7_score_23 (by decide) ?_
    refine k_istore_n C dX7_score_24 [(2, .int (0 : Int32)), (0, .ref (ad 0)), (1, .int v1)] (by decide) rfl ?_
    refine k_iconst (v := (1 : Int32)) C dX7_score_25 (by decide) ?_
    refine k_istore_n C dX7_score_26 [(3, .int (1 : Int32)), (2, .int (0 : Int32)), (0, .ref (ad 0)), (1, .int v1)] (by decide) rfl ?_
    refine k_sub [2, 3, 1, 0] (L' := [(0, .ref (ad 0)), (1, .int v1), (2, .int (0 : Int32)), (3, .int (1 : Int32))]) rfl ?_
    refine w7_score_L27 C K ?_ _ _ _ _ hf
    · intro x2_11 hf
      try dsimp only at hf
      refine k_iload_n C dX7_score_74 0 rfl ?_
      cases hf
      exact K.1 _ rfl _ _ dX7_score_75 rfl
  · replace hf := (if_neg hc).symm.trans hf
    refine k_iload_n C dX7_score_8 1 rfl ?_
    refine k_iconst (v := (1 : Int32)) C dX7_score_9 (by decide) ?_
    refine k_icmp_eq C 23 dX7_score_10 (by decide) (fun hc => ?_) (fun hc => ?_)
    · replace hf := (if_pos hc).symm.trans hf
      refine k_iconst (v := (0 : Int32)) C dX7_score_23 (by decide) ?_
      refine k_istore_n C dX7_score_24 [(2, .int (0 : Int32)), (0, .ref (ad 0)), (1, .int v1)] (by decide) rfl ?_
      refine k_iconst (v := (1 : Int32)) C dX7_score_25 (by decide) ?_
      refine k_istore_n C dX7_score_26 [(3, .int (1 : Int32)), (2, .int (0 : Int32)), (0, .ref (ad 0)), (1, .int v1)] (by decide) rfl ?_
      refine k_sub [2, 3, 1, 0] (L' := [(0, .ref (ad 0)), (1, .int v1), (2, .int (0 : Int32)), (3, .int (1 : Int32))]) rfl ?_
      refine w7_score_L27 C K ?_ _ _ _ _ hf
      · intro x2_12 hf
        try dsimp only at hf
        refine k_iload_n C dX7_score_74 0 rfl ?_
        cases hf
        exact K.1 _ rfl _ _ dX7_score_75 rfl
    · replace hf := (if_neg hc).symm.trans hf
      cases hf
      exact (K.2 _ rfl).2.2 _ _ _ 124 126 128 6 "no such what" (by decide +kernel) xk7_124 xi_IllegalArgumentException (by decide +kernel) xa7_128 dX7_score_13 dX7_score_16 dX7_score_17 dX7_score_19 dX7_score_22 (Nat.le_of_ble_eq_true rfl) (Nat.lt_of_lt_of_le (by decide) C.2.2.2.2.2.2.2.1) (Nat.le_trans (by decide) C.2.2.2.2.2.2.2.2.1)
theorem c7_score {V : EV} {l : Launch} (hl0 : l.stackTraces = false) {ad : Nat → Nat} {top : TopS} {rd : RdS} {ra : Int32} {co : Nat → CoS} {fo : FoS} {tr : TrS} {ma : MaS} {mq : Nat} {mu_mS : Nat → Int32} {mu_mK : Nat → Int32} {mu_mI : Nat → Int32} {mu_mC : Nat → Int32} {mu_mc : Int32} {mu_mA : Nat → Int32} {mx_xN : Int32} {mx_xM : Int32} {mx_xS : Nat → Int64} {mx_xK : Nat → Int32} {mx_xX : Nat → Int32} {mx_xY : Nat → Int32} {v1 : Int32} {N : Nat} {res : Except String Int32} (hf : f7_score N v1 (mu_mS, mu_mK, mu_mI, mu_mC, mu_mc, mu_mA) (mx_xN, mx_xM, mx_xS, mx_xK, mx_xX, mx_xY) = some res) {v : Int32} (hv : res = .ok v) : MI V l yX7_score cX7_score 4 .int 7 110 [.ref (ad 0), .int v1] (wC V ad top rd ra co (mu_mS, mu_mK, mu_mI, mu_mC, mu_mc, mu_mA) fo tr ma mq (mx_xN, mx_xM, mx_xS, mx_xK, mx_xX, mx_xY)) v (wC V ad top rd ra co (mu_mS, mu_mK, mu_mI, mu_mC, mu_mc, mu_mA) fo tr ma mq (mx_xN, mx_xM, mx_xS, mx_xK, mx_xX, mx_xY)) :=
  mi_of hl0 (by decide +kernel) (Nat.le_of_ble_eq_true rfl) (fun p e R s m args below meth c Q A C K => b7_score C hf ⟨fun v' h' => (by cases hv.symm.trans h'; exact K), fun E h' => (by cases hv.symm.trans h')⟩)
theorem x7_score {V : EV} {l : Launch} (hl0 : l.stackTraces = false) {ad : Nat → Nat} {top : TopS} {rd : RdS} {ra : Int32} {co : Nat → CoS} {fo : FoS} {tr : TrS} {ma : MaS} {mq : Nat} {mu_mS : Nat → Int32} {mu_mK : Nat → Int32} {mu_mI : Nat → Int32} {mu_mC : Nat → Int32} {mu_mc : Int32} {mu_mA : Nat → Int32} {mx_xN : Int32} {mx_xM : Int32} {mx_xS : Nat → Int64} {mx_xK : Nat → Int32} {mx_xX : Nat → Int32} {mx_xY : Nat → Int32} {v1 : Int32} {N : Nat} {res : Except String Int32} (hf : f7_score N v1 (mu_mS, mu_mK, mu_mI, mu_mC, mu_mc, mu_mA) (mx_xN, mx_xM, mx_xS, mx_xK, mx_xX, mx_xY) = some res) {E : String} (hv : res = .error E) : TI V l yX7_score cX7_score 4 .int 7 110 [.ref (ad 0), .int v1] (wC V ad top rd ra co (mu_mS, mu_mK, mu_mI, mu_mC, mu_mc, mu_mA) fo tr ma mq (mx_xN, mx_xM, mx_xS, mx_xK, mx_xX, mx_xY)) E (wC V ad top rd ra co (mu_mS, mu_mK, mu_mI, mu_mC, mu_mc, mu_mA) fo tr ma mq (mx_xN, mx_xM, mx_xS, mx_xK, mx_xX, mx_xY)) :=
  ti_of hl0 (by decide +kernel) (Nat.le_of_ble_eq_true rfl) (fun p e R s m args below meth c Q A C K => b7_score C hf ⟨fun v' h' => (by cases hv.symm.trans h'), fun E' h' => (by cases hv.symm.trans h'; exact K)⟩)

theorem cm7_141 : ∀ a ∈ wsCV RX7 141 RX2 yX2_execute cX2_execute 8 (some .int), a ∈ GW := by
  unfold wsCV
  exact (List.forall_mem_cons.mpr ⟨(gw_4 (i := 128) (by decide +kernel) rfl), (List.forall_mem_cons.mpr ⟨(gw_4 (i := 129) (by decide +kernel) rfl), (List.forall_mem_cons.mpr ⟨(gw_4 (i := 130) (by decide +kernel) rfl), (List.forall_mem_cons.mpr ⟨(gw_1 (i := 7) (by decide +kernel) rfl), (List.forall_mem_cons.mpr ⟨(gw_4 (i := 131) (by decide +kernel) rfl), (List.forall_mem_nil _)⟩)⟩)⟩)⟩)⟩)
theorem ok7_run : okCV RX7 yX7_run 3 := by unfold okCV; decide +kernel
def f7_run (N : Nat) (v1 : Int32) (v2 : Int32) (v3 : Int32) : CoS → MuS → TopS → MaS → Nat → Option (Except String Int32 × TopS × MaS × Nat)
  | (cs_cw, cs_ce, cs_cn, cs_cj, cs_cz), (mu_mS, mu_mK, mu_mI, mu_mC, mu_mc, mu_mA), (top_tx, top_ln, top_cp, top_cq, top_sq, top_fu, top_lv, top_lt), (ma_aR, ma_aB, ma_aL, ma_aS, ma_aV, ma_aH, ma_aP, ma_aO, ma_aT, ma_aC, ma_aI), mq_aq =>
    (f7_needCompiled (top_tx, top_ln, top_cp, top_cq, top_sq, top_fu, top_lv, top_lt)).bind fun r_2 => match r_2 with | .error E => some ((.error E), (top_tx, top_ln, top_cp, top_cq, top_sq, top_fu, top_lv, top_lt), (ma_aR, ma_aB, ma_aL, ma_aS, ma_aV, ma_aH, ma_aP, ma_aO, ma_aT, ma_aC, ma_aI), mq_aq) | .ok _ => (f7_needMutant v1 (0 : Int32) (mu_mS, mu_mK, mu_mI, mu_mC, mu_mc, mu_mA)).bind fun r_4 => match r_4 with | .error E => some ((.error E), (top_tx, top_ln, top_cp, top_cq, top_sq, top_fu, top_lv, top_lt), (ma_aR, ma_aB, ma_aL, ma_aS, ma_aV, ma_aH, ma_aP, ma_aO, ma_aT, ma_aC, ma_aI), mq_aq) | .ok _ => if v1 < 0 ∨ 121 ≤ v1.toNatClampNeg then none else if v1 < 0 ∨ 121 ≤ v1.toNatClampNeg then none else (f2_execute N (mu_mS v1.toNatClampNeg) (mu_mI v1.toNatClampNeg) v2 v3 top_fu (cs_cw, cs_ce, cs_cn, cs_cj, cs_cz) (ma_aR, ma_aB, ma_aL, ma_aS, ma_aV, ma_aH, ma_aP, ma_aO, ma_aT, ma_aC, ma_aI)).bind fun (r_6, (ma_aR_7, ma_aB_8, ma_aL_9, ma_aS_10, ma_aV_11, ma_aH_12, ma_aP_13, ma_aO_14, ma_aT_15, ma_aC_16, ma_aI_17)) => some ((.ok r_6), (top_tx, top_ln, top_cp, top_cq, top_sq, top_fu, ma_aR_7, ma_aB_8), (ma_aR_7, ma_aB_8, ma_aL_9, ma_aS_10, ma_aV_11, ma_aH_12, ma_aP_13, ma_aO_14, ma_aT_15, ma_aC_16, ma_aI_17), top_cq)
set_option maxHeartbeats 4000000 in
set_option maxRecDepth 100000 in
theorem b7_run {V : EV} {p : Program} {l : Launch} {e : Env} {R : Room} {s : State} {m : MethodId} {args : Array Value} {below : List Frame} {meth : Method} {c : Code} {Q : State → Prop} {A : Nat → Prop} {kc ks : Nat} {ad : Nat → Nat} {rd : RdS} {ra : Int32} {co : Nat → CoS} {fo : FoS} {tr : TrS} {mx : MxS} {cs_cw : Nat → Int32} {cs_ce : Nat → Int32} {cs_cn : Nat → Int32} {cs_cj : Nat → Int32} {cs_cz : Int32} {mu_mS : Nat → Int32} {mu_mK : Nat → Int32} {mu_mI : Nat → Int32} {mu_mC : Nat → Int32} {mu_mc : Int32} {mu_mA : Nat → Int32} {v1 : Int32} {v2 : Int32} {v3 : Int32} {top_tx : Nat → Int32} {top_ln : Int32} {top_cp : Int32} {top_cq : Nat} {top_sq : Nat} {top_fu : Int32} {top_lv : Int32} {top_lt : Int32} {ma_aR : Int32} {ma_aB : Int32} {ma_aL : Int64} {ma_aS : Nat → Int32} {ma_aV : Nat → Int32} {ma_aH : Int32} {ma_aP : Int32} {ma_aO : Int32} {ma_aT : Int32} {ma_aC : Int32} {ma_aI : Int32} {mq_aq : Nat} {N : Nat} {res : Except String Int32 × TopS × MaS × Nat} (C : CX V p l R s m args c A kc ks RX7 cX7_run 5 7 112) (hq : top_cq < 4) (hf : f7_run N v1 v2 v3 (cs_cw, cs_ce, cs_cn, cs_cj, cs_cz) (mu_mS, mu_mK, mu_mI, mu_mC, mu_mc, mu_mA) (top_tx, top_ln, top_cp, top_cq, top_sq, top_fu, top_lv, top_lt) (ma_aR, ma_aB, ma_aL, ma_aS, ma_aV, ma_aH, ma_aP, ma_aO, ma_aT, ma_aC, ma_aI) mq_aq = some res) (K : (∀ v : Int32, res.1 = .ok v → RI V p l e R s m args below meth c Q A kc ks 5 cX7_run .int v (wC V ad res.2.1 rd ra (updC co top_cq (cs_cw, cs_ce, cs_cn, cs_cj, cs_cz)) (mu_mS, mu_mK, mu_mI, mu_mC, mu_mc, mu_mA) fo tr res.2.2.1 res.2.2.2 mx)) ∧ ∀ E : String, res.1 = .error E → XE V p l e R s m args below meth c Q A kc ks 5 RX7 cX7_run E (wC V ad res.2.1 rd ra (updC co top_cq (cs_cw, cs_ce, cs_cn, cs_cj, cs_cz)) (mu_mS, mu_mK, mu_mI, mu_mC, mu_mc, mu_mA) fo tr res.2.2.1 res.2.2.2 mx)) : WC V p l e R s m args below meth c Q A kc ks 5 (wC V ad (top_tx, top_ln, top_cp, top_cq, top_sq, top_fu, top_lv, top_lt) rd ra (updC co top_cq (cs_cw, cs_ce, cs_cn, cs_cj, cs_cz)) (mu_mS, mu_mK, mu_mI, mu_mC, mu_mc, mu_mA) fo tr (ma_aR, ma_aB, ma_aL, ma_aS, ma_aV, ma_aH, ma_aP, ma_aO, ma_aT, ma_aC, ma_aI) mq_aq mx) 0 [(0, .ref (ad 0)), (1, .int v1), (2, .int v2), (3, .int v3)] [] := by
  rw [f7_run] at hf
  refine k_aload_n C dX7_run_0 0 rfl ?_
  obtain ⟨r_2, hq_1, hf⟩ := ob_el hf
  rcases r_2 with E | _u
  · try dsimp only at hf
    cases hf
    exact k_callVvx C (x7_needCompiled C.2.2.2.2.2.2.2.2.2.1 hq_1 rfl) cm7_104 ok7_needCompiled (by decide) 0 rfl rfl rfl rfl (Nat.le_of_ble_eq_true rfl) dX7_run_1 (K.2 _ rfl)
  try dsimp only at hf
  refine k_callVv C (c7_needCompiled C.2.2.2.2.2.2.2.2.2.1 hq_1 rfl) cm7_104 ok7_needCompiled (by decide) 0 rfl rfl rfl rfl (Nat.le_of_ble_eq_true rfl) dX7_run_1 ?_
  refine k_aload_n C dX7_run_4 0 rfl ?_
  refine k_iload_n C dX7_run_5 1 rfl ?_
  refine k_iconst (v := (0 : Int32)) C dX7_run_6 (by decide) ?_
  obtain ⟨r_4, hq_3, hf⟩ := ob_el hf
  rcases r_4 with E | _u
  · try dsimp only at hf
    cases hf
    exact k_callVvx C (x7_needMutant C.2.2.2.2.2.2.2.2.2.1 hq_3 rfl) cm7_107 ok7_needMutant (by decide) 0 rfl rfl rfl rfl (Nat.le_of_ble_eq_true rfl) dX7_run_7 (K.2 _ rfl)
  try dsimp only at hf
  refine k_callVv C (c7_needMutant C.2.2.2.2.2.2.2.2.2.1 hq_3 rfl) cm7_107 ok7_needMutant (by decide) 0 rfl rfl rfl rfl (Nat.le_of_ble_eq_true rfl) dX7_run_7 ?_
  refine k_aload_n C dX7_run_10 0 rfl ?_
  refine g7_55 C dX7_run_11 ?_
  refine k_aload_n C dX7_run_14 0 rfl ?_
  refine g7_31 C dX7_run_15 ?_
  refine k_aload_n C dX7_run_18 0 rfl ?_
  refine g7_41 C dX7_run_19 ?_
  refine g7_111 C dX7_run_22 ?_
  refine k_iload_n C dX7_run_25 1 rfl ?_
  obtain ⟨hi, hf⟩ := gd_no hf
  refine lc20 C hi dX7_run_26 ?_
  refine k_aload_n C dX7_run_27 0 rfl ?_
  refine g7_41 C dX7_run_28 ?_
  refine g7_118 C dX7_run_31 ?_
  refine k_iload_n C dX7_run_34 1 rfl ?_
  obtain ⟨hi, hf⟩ := gd_no hf
  refine lc22 C hi dX7_run_35 ?_
  refine k_iload_n C dX7_run_36 2 rfl ?_
  refine k_iload_n C dX7_run_37 3 rfl ?_
  refine k_aload_n C dX7_run_38 0 rfl ?_
  refine g7_66 C dX7_run_39 ?_
  obtain ⟨⟨r_6, ⟨ma_aR_7, ma_aB_8, ma_aL_9, ma_aS_10, ma_aV_11, ma_aH_12, ma_aP_13, ma_aO_14, ma_aT_15, ma_aC_16, ma_aI_17⟩⟩, hq_5, hf⟩ := ob_el hf
  dsimp only at hf
  refine k_callVi C (c2_execute C.2.2.2.2.2.2.2.2.2.1 hq hq_5) cm7_141 ok2_execute (by decide) 35 rfl rfl rfl rfl (Nat.le_of_ble_eq_true rfl) dX7_run_42 ?_
  refine k_istore C dX7_run_45 [(4, .int r_6), (0, .ref (ad 0)), (1, .int v1), (2, .int v2), (3, .int v3)] (by decide) rfl ?_
  refine k_aload_n C dX7_run_47 1 rfl ?_
  refine k_aload_n C dX7_run_48 1 rfl ?_
  refine g7_55 C dX7_run_49 ?_
  refine g7_145 C dX7_run_52 ?_
  refine p7_69 C dX7_run_55 ?_
  refine k_aload_n C dX7_run_58 1 rfl ?_
  refine k_aload_n C dX7_run_59 1 rfl ?_
  refine g7_55 C dX7_run_60 ?_
  refine g7_148 C dX7_run_63 ?_
  refine p7_72 C dX7_run_66 ?_
  refine k_iload C dX7_run_69 0 rfl ?_
  cases hf
  exact K.1 _ rfl _ _ dX7_run_71 rfl
theorem c7_run {V : EV} {l : Launch} (hl0 : l.stackTraces = false) {ad : Nat → Nat} {rd : RdS} {ra : Int32} {co : Nat → CoS} {fo : FoS} {tr : TrS} {mx : MxS} {cs_cw : Nat → Int32} {cs_ce : Nat → Int32} {cs_cn : Nat → Int32} {cs_cj : Nat → Int32} {cs_cz : Int32} {mu_mS : Nat → Int32} {mu_mK : Nat → Int32} {mu_mI : Nat → Int32} {mu_mC : Nat → Int32} {mu_mc : Int32} {mu_mA : Nat → Int32} {v1 : Int32} {v2 : Int32} {v3 : Int32} {top_tx : Nat → Int32} {top_ln : Int32} {top_cp : Int32} {top_cq : Nat} {top_sq : Nat} {top_fu : Int32} {top_lv : Int32} {top_lt : Int32} {ma_aR : Int32} {ma_aB : Int32} {ma_aL : Int64} {ma_aS : Nat → Int32} {ma_aV : Nat → Int32} {ma_aH : Int32} {ma_aP : Int32} {ma_aO : Int32} {ma_aT : Int32} {ma_aC : Int32} {ma_aI : Int32} {mq_aq : Nat} {N : Nat} {res : Except String Int32 × TopS × MaS × Nat} (hq : top_cq < 4) (hf : f7_run N v1 v2 v3 (cs_cw, cs_ce, cs_cn, cs_cj, cs_cz) (mu_mS, mu_mK, mu_mI, mu_mC, mu_mc, mu_mA) (top_tx, top_ln, top_cp, top_cq, top_sq, top_fu, top_lv, top_lt) (ma_aR, ma_aB, ma_aL, ma_aS, ma_aV, ma_aH, ma_aP, ma_aO, ma_aT, ma_aC, ma_aI) mq_aq = some res) {v : Int32} (hv : res.1 = .ok v) : MI V l yX7_run cX7_run 5 .int 7 112 [.ref (ad 0), .int v1, .int v2, .int v3] (wC V ad (top_tx, top_ln, top_cp, top_cq, top_sq, top_fu, top_lv, top_lt) rd ra (updC co top_cq (cs_cw, cs_ce, cs_cn, cs_cj, cs_cz)) (mu_mS, mu_mK, mu_mI, mu_mC, mu_mc, mu_mA) fo tr (ma_aR, ma_aB, ma_aL, ma_aS, ma_aV, ma_aH, ma_aP, ma_aO, ma_aT, ma_aC, ma_aI) mq_aq mx) v (wC V ad res.2.1 rd ra (updC co top_cq (cs_cw, cs_ce, cs_cn, cs_cj, cs_cz)) (mu_mS, mu_mK, mu_mI, mu_mC, mu_mc, mu_mA) fo tr res.2.2.1 res.2.2.2 mx) :=
  mi_of hl0 (by decide +kernel) (Nat.le_of_ble_eq_true rfl) (fun p e R s m args below meth c Q A C K => b7_run C hq hf ⟨fun v' h' => (by cases hv.symm.trans h'; exact K), fun E h' => (by cases hv.symm.trans h')⟩)
theorem x7_run {V : EV} {l : Launch} (hl0 : l.stackTraces = false) {ad : Nat → Nat} {rd : RdS} {ra : Int32} {co : Nat → CoS} {fo : FoS} {tr : TrS} {mx : MxS} {cs_cw : Nat → Int32} {cs_ce : Nat → Int32} {cs_cn : Nat → Int32} {cs_cj : Nat → Int32} {cs_cz : Int32} {mu_mS : Nat → Int32} {mu_mK : Nat → Int32} {mu_mI : Nat → Int32} {mu_mC : Nat → Int32} {mu_mc : Int32} {mu_mA : Nat → Int32} {v1 : Int32} {v2 : Int32} {v3 : Int32} {top_tx : Nat → Int32} {top_ln : Int32} {top_cp : Int32} {top_cq : Nat} {top_sq : Nat} {top_fu : Int32} {top_lv : Int32} {top_lt : Int32} {ma_aR : Int32} {ma_aB : Int32} {ma_aL : Int64} {ma_aS : Nat → Int32} {ma_aV : Nat → Int32} {ma_aH : Int32} {ma_aP : Int32} {ma_aO : Int32} {ma_aT : Int32} {ma_aC : Int32} {ma_aI : Int32} {mq_aq : Nat} {N : Nat} {res : Except String Int32 × TopS × MaS × Nat} (hq : top_cq < 4) (hf : f7_run N v1 v2 v3 (cs_cw, cs_ce, cs_cn, cs_cj, cs_cz) (mu_mS, mu_mK, mu_mI, mu_mC, mu_mc, mu_mA) (top_tx, top_ln, top_cp, top_cq, top_sq, top_fu, top_lv, top_lt) (ma_aR, ma_aB, ma_aL, ma_aS, ma_aV, ma_aH, ma_aP, ma_aO, ma_aT, ma_aC, ma_aI) mq_aq = some res) {E : String} (hv : res.1 = .error E) : TI V l yX7_run cX7_run 5 .int 7 112 [.ref (ad 0), .int v1, .int v2, .int v3] (wC V ad (top_tx, top_ln, top_cp, top_cq, top_sq, top_fu, top_lv, top_lt) rd ra (updC co top_cq (cs_cw, cs_ce, cs_cn, cs_cj, cs_cz)) (mu_mS, mu_mK, mu_mI, mu_mC, mu_mc, mu_mA) fo tr (ma_aR, ma_aB, ma_aL, ma_aS, ma_aV, ma_aH, ma_aP, ma_aO, ma_aT, ma_aC, ma_aI) mq_aq mx) E (wC V ad res.2.1 rd ra (updC co top_cq (cs_cw, cs_ce, cs_cn, cs_cj, cs_cz)) (mu_mS, mu_mK, mu_mI, mu_mC, mu_mc, mu_mA) fo tr res.2.2.1 res.2.2.2 mx) :=
  ti_of hl0 (by decide +kernel) (Nat.le_of_ble_eq_true rfl) (fun p e R s m args below meth c Q A C K => b7_run C hq hf ⟨fun v' h' => (by cases hv.symm.trans h'), fun E' h' => (by cases hv.symm.trans h'; exact K)⟩)

theorem cm7_151 : ∀ a ∈ wsCV RX7 151 RX3 yX3_make cX3_make 7 (some .int), a ∈ GW := by
  unfold wsCV
  exact (List.forall_mem_cons.mpr ⟨(gw_4 (i := 184) (by decide +kernel) rfl), (List.forall_mem_cons.mpr ⟨(gw_4 (i := 185) (by decide +kernel) rfl), (List.forall_mem_cons.mpr ⟨(gw_4 (i := 186) (by decide +kernel) rfl), (List.forall_mem_cons.mpr ⟨(gw_1 (i := 8) (by decide +kernel) rfl), (List.forall_mem_cons.mpr ⟨(gw_4 (i := 187) (by decide +kernel) rfl), (List.forall_mem_nil _)⟩)⟩)⟩)⟩)⟩)
theorem ok7_matrix : okCV RX7 yX7_matrix 0 := by unfold okCV; decide +kernel
def f7_matrix (N : Nat)  : TopS → CoS → MuS → MaS → Nat → MxS → Option (Except String Int32 × MaS × Nat × MxS)
  | (top_tx, top_ln, top_cp, top_cq, top_sq, top_fu, top_lv, top_lt), (cs_cw, cs_ce, cs_cn, cs_cj, cs_cz), (mu_mS, mu_mK, mu_mI, mu_mC, mu_mc, mu_mA), (ma_aR, ma_aB, ma_aL, ma_aS, ma_aV, ma_aH, ma_aP, ma_aO, ma_aT, ma_aC, ma_aI), mq_aq, (mx_xN, mx_xM, mx_xS, mx_xK, mx_xX, mx_xY) =>
    (f7_needCompiled (top_tx, top_ln, top_cp, top_cq, top_sq, top_fu, top_lv, top_lt)).bind fun r_2 => match r_2 with | .error E => some ((.error E), (ma_aR, ma_aB, ma_aL, ma_aS, ma_aV, ma_aH, ma_aP, ma_aO, ma_aT, ma_aC, ma_aI), mq_aq, (mx_xN, mx_xM, mx_xS, mx_xK, mx_xX, mx_xY)) | .ok _ => (f3_make N top_cq top_fu (cs_cw, cs_ce, cs_cn, cs_cj, cs_cz) (mu_mS, mu_mK, mu_mI, mu_mC, mu_mc, mu_mA) (ma_aR, ma_aB, ma_aL, ma_aS, ma_aV, ma_aH, ma_aP, ma_aO, ma_aT, ma_aC, ma_aI) mq_aq (mx_xN, mx_xM, mx_xS, mx_xK, mx_xX, mx_xY)).bind fun (r_4, (ma_aR_5, ma_aB_6, ma_aL_7, ma_aS_8, ma_aV_9, ma_aH_10, ma_aP_11, ma_aO_12, ma_aT_13, ma_aC_14, ma_aI_15), mq_aq_16, (mx_xN_17, mx_xM_18, mx_xS_19, mx_xK_20, mx_xX_21, mx_xY_22)) => some ((.ok r_4), (ma_aR_5, ma_aB_6, ma_aL_7, ma_aS_8, ma_aV_9, ma_aH_10, ma_aP_11, ma_aO_12, ma_aT_13, ma_aC_14, ma_aI_15), mq_aq_16, (mx_xN_17, mx_xM_18, mx_xS_19, mx_xK_20, mx_xX_21, mx_xY_22))
set_option maxHeartbeats 4000000 in
set_option maxRecDepth 100000 in
theorem b7_matrix {V : EV} {p : Program} {l : Launch} {e : Env} {R : Room} {s : State} {m : MethodId} {args : Array Value} {below : List Frame} {meth : Method} {c : Code} {Q : State → Prop} {A : Nat → Prop} {kc ks : Nat} {ad : Nat → Nat} {rd : RdS} {ra : Int32} {co : Nat → CoS} {fo : FoS} {tr : TrS} {top_tx : Nat → Int32} {top_ln : Int32} {top_cp : Int32} {top_cq : Nat} {top_sq : Nat} {top_fu : Int32} {top_lv : Int32} {top_lt : Int32} {cs_cw : Nat → Int32} {cs_ce : Nat → Int32} {cs_cn : Nat → Int32} {cs_cj : Nat → Int32} {cs_cz : Int32} {mu_mS : Nat → Int32} {mu_mK : Nat → Int32} {mu_mI : Nat → Int32} {mu_mC : Nat → Int32} {mu_mc : Int32} {mu_mA : Nat → Int32} {ma_aR : Int32} {ma_aB : Int32} {ma_aL : Int64} {ma_aS : Nat → Int32} {ma_aV : Nat → Int32} {ma_aH : Int32} {ma_aP : Int32} {ma_aO : Int32} {ma_aT : Int32} {ma_aC : Int32} {ma_aI : Int32} {mq_aq : Nat} {mx_xN : Int32} {mx_xM : Int32} {mx_xS : Nat → Int64} {mx_xK : Nat → Int32} {mx_xX : Nat → Int32} {mx_xY : Nat → Int32} {N : Nat} {res : Except String Int32 × MaS × Nat × MxS} (C : CX V p l R s m args c A kc ks RX7 cX7_matrix 1 7 151) (hq : top_cq < 4) (hf : f7_matrix N (top_tx, top_ln, top_cp, top_cq, top_sq, top_fu, top_lv, top_lt) (cs_cw, cs_ce, cs_cn, cs_cj, cs_cz) (mu_mS, mu_mK, mu_mI, mu_mC, mu_mc, mu_mA) (ma_aR, ma_aB, ma_aL, ma_aS, ma_aV, ma_aH, ma_aP, ma_aO, ma_aT, ma_aC, ma_aI) mq_aq (mx_xN, mx_xM, mx_xS, mx_xK, mx_xX, mx_xY) = some res) (K : (∀ v : Int32, res.1 = .ok v → RI V p l e R s m args below meth c Q A kc ks 1 cX7_matrix .int v (wC V ad (top_tx, top_ln, top_cp, top_cq, top_sq, top_fu, top_lv, top_lt) rd ra (updC co top_cq (cs_cw, cs_ce, cs_cn, cs_cj, cs_cz)) (mu_mS, mu_mK, mu_mI, mu_mC, mu_mc, mu_mA) fo tr res.2.1 res.2.2.1 res.2.2.2)) ∧ ∀ E : String, res.1 = .error E → XE V p l e R s m args below meth c Q A kc ks 1 RX7 cX7_matrix E (wC V ad (top_tx, top_ln, top_cp, top_cq, top_sq, top_fu, top_lv, top_lt) rd ra (updC co top_cq (cs_cw, cs_ce, cs_cn, cs_cj, cs_cz)) (mu_mS, mu_mK, mu_mI, mu_mC, mu_mc, mu_mA) fo tr res.2.1 res.2.2.1 res.2.2.2)) : WC V p l e R s m args below meth c Q A kc ks 1 (wC V ad (top_tx, top_ln, top_cp, top_cq, top_sq, top_fu, top_lv, top_lt) rd ra (updC co top_cq (cs_cw, cs_ce, cs_cn, cs_cj, cs_cz)) (mu_mS, mu_mK, mu_mI, mu_mC, mu_mc, mu_mA) fo tr (ma_aR, ma_aB, ma_aL, ma_aS, ma_aV, ma_aH, ma_aP, ma_aO, ma_aT, ma_aC, ma_aI) mq_aq (mx_xN, mx_xM, mx_xS, mx_xK, mx_xX, mx_xY)) 0 [(0, .ref (ad 0))] [] := by
  rw [f7_matrix] at hf
  refine k_aload_n C dX7_matrix_0 0 rfl ?_
  obtain ⟨r_2, hq_1, hf⟩ := ob_el hf
  rcases r_2 with E | _u
  · try dsimp only at hf
    cases hf
    exact k_callVvx C (x7_needCompiled C.2.2.2.2.2.2.2.2.2.1 hq_1 rfl) cm7_104 ok7_needCompiled (by decide) 0 rfl rfl rfl rfl (Nat.le_of_ble_eq_true rfl) dX7_matrix_1 (K.2 _ rfl)
  try dsimp only at hf
  refine k_callVv C (c7_needCompiled C.2.2.2.2.2.2.2.2.2.1 hq_1 rfl) cm7_104 ok7_needCompiled (by decide) 0 rfl rfl rfl rfl (Nat.le_of_ble_eq_true rfl) dX7_matrix_1 ?_
  refine k_aload_n C dX7_matrix_4 0 rfl ?_
  refine g7_62 C dX7_matrix_5 ?_
  refine k_aload_n C dX7_matrix_8 0 rfl ?_
  refine g7_31 C dX7_matrix_9 ?_
  refine k_aload_n C dX7_matrix_12 0 rfl ?_
  refine g7_41 C dX7_matrix_13 ?_
  refine k_aload_n C dX7_matrix_16 0 rfl ?_
  refine g7_55 C dX7_matrix_17 ?_
  refine k_aload_n C dX7_matrix_20 0 rfl ?_
  refine g7_66 C dX7_matrix_21 ?_
  obtain ⟨⟨r_4, ⟨ma_aR_5, ma_aB_6, ma_aL_7, ma_aS_8, ma_aV_9, ma_aH_10, ma_aP_11, ma_aO_12, ma_aT_13, ma_aC_14, ma_aI_15⟩, mq_aq_16, ⟨mx_xN_17, mx_xM_18, mx_xS_19, mx_xK_20, mx_xX_21, mx_xY_22⟩⟩, hq_3, hf⟩ := ob_el hf
  dsimp only at hf
  refine k_callVi C (c3_make C.2.2.2.2.2.2.2.2.2.1 hq hq_3) cm7_151 ok3_make (by decide) 43 rfl rfl rfl rfl (Nat.le_of_ble_eq_true rfl) dX7_matrix_24 ?_
  cases hf
  exact K.1 _ rfl _ _ dX7_matrix_27 rfl
theorem c7_matrix {V : EV} {l : Launch} (hl0 : l.stackTraces = false) {ad : Nat → Nat} {rd : RdS} {ra : Int32} {co : Nat → CoS} {fo : FoS} {tr : TrS} {top_tx : Nat → Int32} {top_ln : Int32} {top_cp : Int32} {top_cq : Nat} {top_sq : Nat} {top_fu : Int32} {top_lv : Int32} {top_lt : Int32} {cs_cw : Nat → Int32} {cs_ce : Nat → Int32} {cs_cn : Nat → Int32} {cs_cj : Nat → Int32} {cs_cz : Int32} {mu_mS : Nat → Int32} {mu_mK : Nat → Int32} {mu_mI : Nat → Int32} {mu_mC : Nat → Int32} {mu_mc : Int32} {mu_mA : Nat → Int32} {ma_aR : Int32} {ma_aB : Int32} {ma_aL : Int64} {ma_aS : Nat → Int32} {ma_aV : Nat → Int32} {ma_aH : Int32} {ma_aP : Int32} {ma_aO : Int32} {ma_aT : Int32} {ma_aC : Int32} {ma_aI : Int32} {mq_aq : Nat} {mx_xN : Int32} {mx_xM : Int32} {mx_xS : Nat → Int64} {mx_xK : Nat → Int32} {mx_xX : Nat → Int32} {mx_xY : Nat → Int32} {N : Nat} {res : Except String Int32 × MaS × Nat × MxS} (hq : top_cq < 4) (hf : f7_matrix N (top_tx, top_ln, top_cp, top_cq, top_sq, top_fu, top_lv, top_lt) (cs_cw, cs_ce, cs_cn, cs_cj, cs_cz) (mu_mS, mu_mK, mu_mI, mu_mC, mu_mc, mu_mA) (ma_aR, ma_aB, ma_aL, ma_aS, ma_aV, ma_aH, ma_aP, ma_aO, ma_aT, ma_aC, ma_aI) mq_aq (mx_xN, mx_xM, mx_xS, mx_xK, mx_xX, mx_xY) = some res) {v : Int32} (hv : res.1 = .ok v) : MI V l yX7_matrix cX7_matrix 1 .int 7 151 [.ref (ad 0)] (wC V ad (top_tx, top_ln, top_cp, top_cq, top_sq, top_fu, top_lv, top_lt) rd ra (updC co top_cq (cs_cw, cs_ce, cs_cn, cs_cj, cs_cz)) (mu_mS, mu_mK, mu_mI, mu_mC, mu_mc, mu_mA) fo tr (ma_aR, ma_aB, ma_aL, ma_aS, ma_aV, ma_aH, ma_aP, ma_aO, ma_aT, ma_aC, ma_aI) mq_aq (mx_xN, mx_xM, mx_xS, mx_xK, mx_xX, mx_xY)) v (wC V ad (top_tx, top_ln, top_cp, top_cq, top_sq, top_fu, top_lv, top_lt) rd ra (updC co top_cq (cs_cw, cs_ce, cs_cn, cs_cj, cs_cz)) (mu_mS, mu_mK, mu_mI, mu_mC, mu_mc, mu_mA) fo tr res.2.1 res.2.2.1 res.2.2.2) :=
  mi_of hl0 (by decide +kernel) (Nat.le_of_ble_eq_true rfl) (fun p e R s m args below meth c Q A C K => b7_matrix C hq hf ⟨fun v' h' => (by cases hv.symm.trans h'; exact K), fun E h' => (by cases hv.symm.trans h')⟩)
theorem x7_matrix {V : EV} {l : Launch} (hl0 : l.stackTraces = false) {ad : Nat → Nat} {rd : RdS} {ra : Int32} {co : Nat → CoS} {fo : FoS} {tr : TrS} {top_tx : Nat → Int32} {top_ln : Int32} {top_cp : Int32} {top_cq : Nat} {top_sq : Nat} {top_fu : Int32} {top_lv : Int32} {top_lt : Int32} {cs_cw : Nat → Int32} {cs_ce : Nat → Int32} {cs_cn : Nat → Int32} {cs_cj : Nat → Int32} {cs_cz : Int32} {mu_mS : Nat → Int32} {mu_mK : Nat → Int32} {mu_mI : Nat → Int32} {mu_mC : Nat → Int32} {mu_mc : Int32} {mu_mA : Nat → Int32} {ma_aR : Int32} {ma_aB : Int32} {ma_aL : Int64} {ma_aS : Nat → Int32} {ma_aV : Nat → Int32} {ma_aH : Int32} {ma_aP : Int32} {ma_aO : Int32} {ma_aT : Int32} {ma_aC : Int32} {ma_aI : Int32} {mq_aq : Nat} {mx_xN : Int32} {mx_xM : Int32} {mx_xS : Nat → Int64} {mx_xK : Nat → Int32} {mx_xX : Nat → Int32} {mx_xY : Nat → Int32} {N : Nat} {res : Except String Int32 × MaS × Nat × MxS} (hq : top_cq < 4) (hf : f7_matrix N (top_tx, top_ln, top_cp, top_cq, top_sq, top_fu, top_lv, top_lt) (cs_cw, cs_ce, cs_cn, cs_cj, cs_cz) (mu_mS, mu_mK, mu_mI, mu_mC, mu_mc, mu_mA) (ma_aR, ma_aB, ma_aL, ma_aS, ma_aV, ma_aH, ma_aP, ma_aO, ma_aT, ma_aC, ma_aI) mq_aq (mx_xN, mx_xM, mx_xS, mx_xK, mx_xX, mx_xY) = some res) {E : String} (hv : res.1 = .error E) : TI V l yX7_matrix cX7_matrix 1 .int 7 151 [.ref (ad 0)] (wC V ad (top_tx, top_ln, top_cp, top_cq, top_sq, top_fu, top_lv, top_lt) rd ra (updC co top_cq (cs_cw, cs_ce, cs_cn, cs_cj, cs_cz)) (mu_mS, mu_mK, mu_mI, mu_mC, mu_mc, mu_mA) fo tr (ma_aR, ma_aB, ma_aL, ma_aS, ma_aV, ma_aH, ma_aP, ma_aO, ma_aT, ma_aC, ma_aI) mq_aq (mx_xN, mx_xM, mx_xS, mx_xK, mx_xX, mx_xY)) E (wC V ad (top_tx, top_ln, top_cp, top_cq, top_sq, top_fu, top_lv, top_lt) rd ra (updC co top_cq (cs_cw, cs_ce, cs_cn, cs_cj, cs_cz)) (mu_mS, mu_mK, mu_mI, mu_mC, mu_mc, mu_mA) fo tr res.2.1 res.2.2.1 res.2.2.2) :=
  ti_of hl0 (by decide +kernel) (Nat.le_of_ble_eq_true rfl) (fun p e R s m args below meth c Q A C K => b7_matrix C hq hf ⟨fun v' h' => (by cases hv.symm.trans h'), fun E' h' => (by cases hv.symm.trans h'; exact K)⟩)

theorem cm7_79 : ∀ a ∈ wsCS RX7 79 yX7_mutantsOf cX7_mutantsOf 3 (some .int), a ∈ GW := by
  unfold wsCS
  exact (List.forall_mem_cons.mpr ⟨(gw_3 (i := 116) (by decide +kernel) rfl), (List.forall_mem_cons.mpr ⟨(gw_3 (i := 117) (by decide +kernel) rfl), (List.forall_mem_cons.mpr ⟨(gw_1 (i := 1) (by decide +kernel) rfl), (List.forall_mem_cons.mpr ⟨(gw_3 (i := 118) (by decide +kernel) rfl), (List.forall_mem_nil _)⟩)⟩)⟩)⟩)
theorem cm7_75 : ∀ a ∈ wsCV RX7 75 RX5 yX5_read cX5_read 4 none, a ∈ GW := by
  unfold wsCV
  exact (List.forall_mem_cons.mpr ⟨(gw_2 (i := 94) (by decide +kernel) rfl), (List.forall_mem_cons.mpr ⟨(gw_2 (i := 95) (by decide +kernel) rfl), (List.forall_mem_cons.mpr ⟨(gw_2 (i := 96) (by decide +kernel) rfl), (List.forall_mem_cons.mpr ⟨(gw_1 (i := 2) (by decide +kernel) rfl), (List.forall_mem_cons.mpr ⟨(gw_2 (i := 97) (by decide +kernel) rfl), (List.forall_mem_nil _)⟩)⟩)⟩)⟩)⟩)
theorem cm7_90 : ∀ a ∈ wsCV RX7 90 RX4 yX4_list cX4_list 3 none, a ∈ GW := by
  unfold wsCV
  exact (List.forall_mem_cons.mpr ⟨(gw_3 (i := 142) (by decide +kernel) rfl), (List.forall_mem_cons.mpr ⟨(gw_3 (i := 143) (by decide +kernel) rfl), (List.forall_mem_cons.mpr ⟨(gw_3 (i := 144) (by decide +kernel) rfl), (List.forall_mem_cons.mpr ⟨(gw_1 (i := 4) (by decide +kernel) rfl), (List.forall_mem_cons.mpr ⟨(gw_3 (i := 145) (by decide +kernel) rfl), (List.forall_mem_nil _)⟩)⟩)⟩)⟩)⟩)
theorem cm7_94 : ∀ a ∈ wsCV RX7 94 RX1 yX1_findClasses cX1_findClasses 4 none, a ∈ GW := by
  unfold wsCV
  exact (List.forall_mem_cons.mpr ⟨(gw_3 (i := 190) (by decide +kernel) rfl), (List.forall_mem_cons.mpr ⟨(gw_3 (i := 191) (by decide +kernel) rfl), (List.forall_mem_cons.mpr ⟨(gw_3 (i := 192) (by decide +kernel) rfl), (List.forall_mem_cons.mpr ⟨(gw_1 (i := 5) (by decide +kernel) rfl), (List.forall_mem_cons.mpr ⟨(gw_3 (i := 193) (by decide +kernel) rfl), (List.forall_mem_nil _)⟩)⟩)⟩)⟩)⟩)
theorem cm7_98 : ∀ a ∈ wsCV RX7 98 RX3 yX3_forgetTests cX3_forgetTests 1 none, a ∈ GW := by
  unfold wsCV
  exact (List.forall_mem_cons.mpr ⟨(gw_4 (i := 69) (by decide +kernel) rfl), (List.forall_mem_cons.mpr ⟨(gw_4 (i := 70) (by decide +kernel) rfl), (List.forall_mem_cons.mpr ⟨(gw_4 (i := 71) (by decide +kernel) rfl), (List.forall_mem_cons.mpr ⟨(gw_1 (i := 8) (by decide +kernel) rfl), (List.forall_mem_cons.mpr ⟨(gw_4 (i := 72) (by decide +kernel) rfl), (List.forall_mem_nil _)⟩)⟩)⟩)⟩)⟩)
theorem ok7_compile : okCV RX7 yX7_compile 0 := by unfold okCV; decide +kernel
def f7_compile (N : Nat)  : TopS → RdS → Int32 → CoS → MuS → FoS → TrS → MxS → Option (Except String Int32 × TopS × RdS × Int32 × CoS × MuS × FoS × TrS × MxS)
  | (top_tx, top_ln, top_cp, top_cq, top_sq, top_fu, top_lv, top_lt), (rd_t0, rd_rt, rd_rl, rd_rq), ra_at, (cs_cw, cs_ce, cs_cn, cs_cj, cs_cz), (mu_mS, mu_mK, mu_mI, mu_mC, mu_mc, mu_mA), (fo_fR, fo_fS, fo_fh, fo_fb), (tr_tK, tr_tF, tr_tS, tr_tT, tr_tO, tr_tN, tr_tc), (mx_xN, mx_xM, mx_xS, mx_xK, mx_xX, mx_xY) =>
    (f5_read N top_ln top_sq (top_tx, top_ln, top_cp, top_cq, top_sq, top_fu, top_lv, top_lt) (rd_t0, rd_rt, rd_rl, rd_rq) ra_at (cs_cw, cs_ce, cs_cn, cs_cj, cs_cz)).bind fun (r_2, (rd_t0_3, rd_rt_4, rd_rl_5, rd_rq_6), ra_at_7, (cs_cw_8, cs_ce_9, cs_cn_10, cs_cj_11, cs_cz_12)) => match r_2 with | .error E => some ((.error E), (top_tx, top_ln, top_cp, top_cq, top_sq, top_fu, top_lv, top_lt), (rd_t0_3, rd_rt_4, rd_rl_5, rd_rq_6), ra_at_7, (cs_cw_8, cs_ce_9, cs_cn_10, cs_cj_11, cs_cz_12), (mu_mS, mu_mK, mu_mI, mu_mC, mu_mc, mu_mA), (fo_fR, fo_fS, fo_fh, fo_fb), (tr_tK, tr_tF, tr_tS, tr_tT, tr_tO, tr_tN, tr_tc), (mx_xN, mx_xM, mx_xS, mx_xK, mx_xX, mx_xY)) | .ok _ => (f7_mutantsOf N (cs_cw_8, cs_ce_9, cs_cn_10, cs_cj_11, cs_cz_12)).bind fun r_14 => if r_14 ≤ (120 : Int32) then (f4_list N (cs_cw_8, cs_ce_9, cs_cn_10, cs_cj_11, cs_cz_12) (mu_mS, mu_mK, mu_mI, mu_mC, mu_mc, mu_mA)).bind fun (mu_mS_16, mu_mK_17, mu_mI_18, mu_mC_19, mu_mc_20, mu_mA_21) => (f1_findClasses N (cs_cw_8, cs_ce_9, cs_cn_10, cs_cj_11, cs_cz_12) (mu_mS_16, mu_mK_17, mu_mI_18, mu_mC_19, mu_mc_20, mu_mA_21) (fo_fR, fo_fS, fo_fh, fo_fb) (tr_tK, tr_tF, tr_tS, tr_tT, tr_tO, tr_tN, tr_tc)).bind fun ((mu_mS_23, mu_mK_24, mu_mI_25, mu_mC_26, mu_mc_27, mu_mA_28), (fo_fR_29, fo_fS_30, fo_fh_31, fo_fb_32), (tr_tK_33, tr_tF_34, tr_tS_35, tr_tT_36, tr_tO_37, tr_tN_38, tr_tc_39)) => (f3_forgetTests (mx_xN, mx_xM, mx_xS, mx_xK, mx_xX, mx_xY)).bind fun (mx_xN_41, mx_xM_42, mx_xS_43, mx_xK_44, mx_xX_45, mx_xY_46) => some ((.ok mu_mc_27), (top_tx, top_ln, (1 : Int32), top_sq, top_cq, top_fu, (0 : Int32), (0 : Int32)), (rd_t0_3, rd_rt_4, rd_rl_5, rd_rq_6), ra_at_7, (cs_cw_8, cs_ce_9, cs_cn_10, cs_cj_11, cs_cz_12), (mu_mS_23, mu_mK_24, mu_mI_25, mu_mC_26, mu_mc_27, mu_mA_28), (fo_fR_29, fo_fS_30, fo_fh_31, fo_fb_32), (tr_tK_33, tr_tF_34, tr_tS_35, tr_tT_36, tr_tO_37, tr_tN_38, tr_tc_39), (mx_xN_41, mx_xM_42, mx_xS_43, mx_xK_44, mx_xX_45, mx_xY_46)) else some ((.error "java/lang/IllegalStateException"), (top_tx, top_ln, top_cp, top_cq, top_sq, top_fu, top_lv, top_lt), (rd_t0_3, rd_rt_4, rd_rl_5, rd_rq_6), ra_at_7, (cs_cw_8, cs_ce_9, cs_cn_10, cs_cj_11, cs_cz_12), (mu_mS, mu_mK, mu_mI, mu_mC, mu_mc, mu_mA), (fo_fR, fo_fS, fo_fh, fo_fb), (tr_tK, tr_tF, tr_tS, tr_tT, tr_tO, tr_tN, tr_tc), (mx_xN, mx_xM, mx_xS, mx_xK, mx_xX, mx_xY))
set_option maxHeartbeats 4000000 in
set_option maxRecDepth 100000 in
theorem b7_compile {V : EV} {p : Program} {l : Launch} {e : Env} {R : Room} {s : State} {m : MethodId} {args : Array Value} {below : List Frame} {meth : Method} {c : Code} {Q : State → Prop} {A : Nat → Prop} {kc ks : Nat} {ad : Nat → Nat} {co : Nat → CoS} {ma : MaS} {mq : Nat} {top_tx : Nat → Int32} {top_ln : Int32} {top_cp : Int32} {top_cq : Nat} {top_sq : Nat} {top_fu : Int32} {top_lv : Int32} {top_lt : Int32} {rd_t0 : Nat → Int32} {rd_rt : Nat} {rd_rl : Int32} {rd_rq : Nat} {ra_at : Int32} {cs_cw : Nat → Int32} {cs_ce : Nat → Int32} {cs_cn : Nat → Int32} {cs_cj : Nat → Int32} {cs_cz : Int32} {mu_mS : Nat → Int32} {mu_mK : Nat → Int32} {mu_mI : Nat → Int32} {mu_mC : Nat → Int32} {mu_mc : Int32} {mu_mA : Nat → Int32} {fo_fR : Nat → Int32} {fo_fS : Nat → Int32} {fo_fh : Int32} {fo_fb : Int32} {tr_tK : Nat → Int32} {tr_tF : Nat → Int32} {tr_tS : Nat → Int32} {tr_tT : Nat → Int32} {tr_tO : Nat → Int32} {tr_tN : Nat → Int32} {tr_tc : Int32} {mx_xN : Int32} {mx_xM : Int32} {mx_xS : Nat → Int64} {mx_xK : Nat → Int32} {mx_xX : Nat → Int32} {mx_xY : Nat → Int32} {N : Nat} {res : Except String Int32 × TopS × RdS × Int32 × CoS × MuS × FoS × TrS × MxS} (C : CX V p l R s m args c A kc ks RX7 cX7_compile 2 199 5784) (hq : top_sq < 4) (hf : f7_compile N (top_tx, top_ln, top_cp, top_cq, top_sq, top_fu, top_lv, top_lt) (rd_t0, rd_rt, rd_rl, rd_rq) ra_at (cs_cw, cs_ce, cs_cn, cs_cj, cs_cz) (mu_mS, mu_mK, mu_mI, mu_mC, mu_mc, mu_mA) (fo_fR, fo_fS, fo_fh, fo_fb) (tr_tK, tr_tF, tr_tS, tr_tT, tr_tO, tr_tN, tr_tc) (mx_xN, mx_xM, mx_xS, mx_xK, mx_xX, mx_xY) = some res) (K : (∀ v : Int32, res.1 = .ok v → RI V p l e R s m args below meth c Q A kc ks 2 cX7_compile .int v (wC V ad res.2.1 res.2.2.1 res.2.2.2.1 (updC co top_sq res.2.2.2.2.1) res.2.2.2.2.2.1 res.2.2.2.2.2.2.1 res.2.2.2.2.2.2.2.1 ma mq res.2.2.2.2.2.2.2.2)) ∧ ∀ E : String, res.1 = .error E → XE V p l e R s m args below meth c Q A kc ks 2 RX7 cX7_compile E (wC V ad res.2.1 res.2.2.1 res.2.2.2.1 (updC co top_sq res.2.2.2.2.1) res.2.2.2.2.2.1 res.2.2.2.2.2.2.1 res.2.2.2.2.2.2.2.1 ma mq res.2.2.2.2.2.2.2.2)) : WC V p l e R s m args below meth c Q A kc ks 2 (wC V ad (top_tx, top_ln, top_cp, top_cq, top_sq, top_fu, top_lv, top_lt) (rd_t0, rd_rt, rd_rl, rd_rq) ra_at (updC co top_sq (cs_cw, cs_ce, cs_cn, cs_cj, cs_cz)) (mu_mS, mu_mK, mu_mI, mu_mC, mu_mc, mu_mA) (fo_fR, fo_fS, fo_fh, fo_fb) (tr_tK, tr_tF, tr_tS, tr_tT, tr_tO, tr_tN, tr_tc) ma mq (mx_xN, mx_xM, mx_xS, mx_xK, mx_xX, mx_xY)) 0 [(0, .ref (ad 0))] [] := by
  rw [f7_compile] at hf
  refine k_aload_n C dX7_compile_0 0 rfl ?_
  refine g7_20 C dX7_compile_1 ?_
  refine k_aload_n C dX7_compile_4 0 rfl ?_
  refine g7_9 C dX7_compile_5 ?_
  refine k_aload_n C dX7_compile_8 0 rfl ?_
  refine g7_13 C dX7_compile_9 ?_
  refine k_aload_n C dX7_compile_12 0 rfl ?_
  refine g7_35 C dX7_compile_13 ?_
  obtain ⟨⟨r_2, ⟨rd_t0_3, rd_rt_4, rd_rl_5, rd_rq_6⟩, ra_at_7, ⟨cs_cw_8, cs_ce_9, cs_cn_10, cs_cj_11, cs_cz_12⟩⟩, hq_1, hf⟩ := ob_el hf
  dsimp only at hf
  rcases r_2 with E | _u
  · try dsimp only at hf
    cases hf
    exact k_callVvx C (x5_read C.2.2.2.2.2.2.2.2.2.1 hq hq_1 rfl) cm7_75 ok5_read (by decide) 2 rfl rfl rfl rfl (Nat.le_of_ble_eq_true rfl) dX7_compile_16 (K.2 _ rfl)
  try dsimp only at hf
  refine k_callVv C (c5_read C.2.2.2.2.2.2.2.2.2.1 hq hq_1 rfl) cm7_75 ok5_read (by decide) 2 rfl rfl rfl rfl (Nat.le_of_ble_eq_true rfl) dX7_compile_16 ?_
  refine k_aload_n C dX7_compile_19 0 rfl ?_
  refine g7_35 C dX7_compile_20 ?_
  obtain ⟨r_14, hq_13, hf⟩ := ob_el hf
  refine k_callSi C (c7_mutantsOf C.2.2.2.2.2.2.2.2.2.1 hq hq_13) cm7_79 ok7_mutantsOf (by decide) rfl rfl (Nat.le_of_ble_eq_true rfl) dX7_compile_23 ?_
  refine k_bipush (v := (120 : Int32)) C dX7_compile_26 (by decide) ?_
  refine k_icmp_le C 41 dX7_compile_28 (by decide) (fun hc => ?_) (fun hc => ?_)
  · replace hf := (if_pos hc).symm.trans hf
    refine k_aload_n C dX7_compile_41 0 rfl ?_
    refine g7_31 C dX7_compile_42 ?_
    refine k_astore_n C dX7_compile_45 [(1, .ref (ad (cpo top_cq))), (0, .ref (ad 0))] (by decide) rfl ?_
    refine k_aload_n C dX7_compile_46 1 rfl ?_
    refine k_aload_n C dX7_compile_47 1 rfl ?_
    refine g7_35 C dX7_compile_48 ?_
    refine p7_31 (v := top_sq) C dX7_compile_51 ?_
    refine k_aload_n C dX7_compile_54 1 rfl ?_
    refine k_aload_n C dX7_compile_55 0 rfl ?_
    refine p7_35 (v := top_cq) C dX7_compile_56 ?_
    refine k_aload_n C dX7_compile_59 1 rfl ?_
    refine k_iconst (v := (1 : Int32)) C dX7_compile_60 (by decide) ?_
    refine p7_24 C (Or.inr rfl) dX7_compile_61 ?_
    refine k_aload_n C dX7_compile_64 1 rfl ?_
    refine g7_41 C dX7_compile_65 ?_
    refine k_aload_n C dX7_compile_68 1 rfl ?_
    refine g7_31 C dX7_compile_69 ?_
    obtain ⟨⟨mu_mS_16, mu_mK_17, mu_mI_18, mu_mC_19, mu_mc_20, mu_mA_21⟩, hq_15, hf⟩ := ob_el hf
    dsimp only at hf
    refine k_callVv C (c4_list C.2.2.2.2.2.2.2.2.2.1 hq hq_15) cm7_90 ok4_list (by decide) 19 rfl rfl rfl rfl (Nat.le_of_ble_eq_true rfl) dX7_compile_72 ?_
    refine k_aload_n C dX7_compile_75 1 rfl ?_
    refine g7_48 C dX7_compile_76 ?_
    refine k_aload_n C dX7_compile_79 1 rfl ?_
    refine g7_31 C dX7_compile_80 ?_
    refine k_aload_n C dX7_compile_83 1 rfl ?_
    refine g7_41 C dX7_compile_84 ?_
    obtain ⟨⟨⟨mu_mS_23, mu_mK_24, mu_mI_25, mu_mC_26, mu_mc_27, mu_mA_28⟩, ⟨fo_fR_29, fo_fS_30, fo_fh_31, fo_fb_32⟩, ⟨tr_tK_33, tr_tF_34, tr_tS_35, tr_tT_36, tr_tO_37, tr_tN_38, tr_tc_39⟩⟩, hq_22, hf⟩ := ob_el hf
    dsimp only at hf
    refine k_callVv C (c1_findClasses C.2.2.2.2.2.2.2.2.2.1 hq hq_22) cm7_94 ok1_findClasses (by decide) 25 rfl rfl rfl rfl (Nat.le_of_ble_eq_true rfl) dX7_compile_87 ?_
    refine k_aload_n C dX7_compile_90 1 rfl ?_
    refine g7_62 C dX7_compile_91 ?_
    obtain ⟨⟨mx_xN_41, mx_xM_42, mx_xS_43, mx_xK_44, mx_xX_45, mx_xY_46⟩, hq_40, hf⟩ := ob_el hf
    dsimp only at hf
    refine k_callVv C (c3_forgetTests C.2.2.2.2.2.2.2.2.2.1 hq_40) cm7_98 ok3_forgetTests (by decide) 43 rfl rfl rfl rfl (Nat.le_of_ble_eq_true rfl) dX7_compile_94 ?_
    refine k_aload_n C dX7_compile_97 1 rfl ?_
    refine k_iconst (v := (0 : Int32)) C dX7_compile_98 (by decide) ?_
    refine p7_69 C dX7_compile_99 ?_
    refine k_aload_n C dX7_compile_102 1 rfl ?_
    refine k_iconst (v := (0 : Int32)) C dX7_compile_103 (by decide) ?_
    refine p7_72 C dX7_compile_104 ?_
    refine k_aload_n C dX7_compile_107 1 rfl ?_
    refine g7_41 C dX7_compile_108 ?_
    refine g7_101 C dX7_compile_111 ?_
    cases hf
    exact K.1 _ rfl _ _ dX7_compile_114 rfl
  · replace hf := (if_neg hc).symm.trans hf
    cases hf
    exact (K.2 _ rfl).2.2 _ _ _ 83 85 87 12 "more than 120 mutants" (by decide +kernel) xk7_83 xi_IllegalStateException (by decide +kernel) xa7_87 dX7_compile_31 dX7_compile_34 dX7_compile_35 dX7_compile_37 dX7_compile_40 (Nat.le_of_ble_eq_true rfl) (Nat.lt_of_lt_of_le (by decide) C.2.2.2.2.2.2.2.1) (Nat.le_trans (by decide) C.2.2.2.2.2.2.2.2.1)
theorem c7_compile {V : EV} {l : Launch} (hl0 : l.stackTraces = false) {ad : Nat → Nat} {co : Nat → CoS} {ma : MaS} {mq : Nat} {top_tx : Nat → Int32} {top_ln : Int32} {top_cp : Int32} {top_cq : Nat} {top_sq : Nat} {top_fu : Int32} {top_lv : Int32} {top_lt : Int32} {rd_t0 : Nat → Int32} {rd_rt : Nat} {rd_rl : Int32} {rd_rq : Nat} {ra_at : Int32} {cs_cw : Nat → Int32} {cs_ce : Nat → Int32} {cs_cn : Nat → Int32} {cs_cj : Nat → Int32} {cs_cz : Int32} {mu_mS : Nat → Int32} {mu_mK : Nat → Int32} {mu_mI : Nat → Int32} {mu_mC : Nat → Int32} {mu_mc : Int32} {mu_mA : Nat → Int32} {fo_fR : Nat → Int32} {fo_fS : Nat → Int32} {fo_fh : Int32} {fo_fb : Int32} {tr_tK : Nat → Int32} {tr_tF : Nat → Int32} {tr_tS : Nat → Int32} {tr_tT : Nat → Int32} {tr_tO : Nat → Int32} {tr_tN : Nat → Int32} {tr_tc : Int32} {mx_xN : Int32} {mx_xM : Int32} {mx_xS : Nat → Int64} {mx_xK : Nat → Int32} {mx_xX : Nat → Int32} {mx_xY : Nat → Int32} {N : Nat} {res : Except String Int32 × TopS × RdS × Int32 × CoS × MuS × FoS × TrS × MxS} (hq : top_sq < 4) (hf : f7_compile N (top_tx, top_ln, top_cp, top_cq, top_sq, top_fu, top_lv, top_lt) (rd_t0, rd_rt, rd_rl, rd_rq) ra_at (cs_cw, cs_ce, cs_cn, cs_cj, cs_cz) (mu_mS, mu_mK, mu_mI, mu_mC, mu_mc, mu_mA) (fo_fR, fo_fS, fo_fh, fo_fb) (tr_tK, tr_tF, tr_tS, tr_tT, tr_tO, tr_tN, tr_tc) (mx_xN, mx_xM, mx_xS, mx_xK, mx_xX, mx_xY) = some res) {v : Int32} (hv : res.1 = .ok v) : MI V l yX7_compile cX7_compile 2 .int 199 5784 [.ref (ad 0)] (wC V ad (top_tx, top_ln, top_cp, top_cq, top_sq, top_fu, top_lv, top_lt) (rd_t0, rd_rt, rd_rl, rd_rq) ra_at (updC co top_sq (cs_cw, cs_ce, cs_cn, cs_cj, cs_cz)) (mu_mS, mu_mK, mu_mI, mu_mC, mu_mc, mu_mA) (fo_fR, fo_fS, fo_fh, fo_fb) (tr_tK, tr_tF, tr_tS, tr_tT, tr_tO, tr_tN, tr_tc) ma mq (mx_xN, mx_xM, mx_xS, mx_xK, mx_xX, mx_xY)) v (wC V ad res.2.1 res.2.2.1 res.2.2.2.1 (updC co top_sq res.2.2.2.2.1) res.2.2.2.2.2.1 res.2.2.2.2.2.2.1 res.2.2.2.2.2.2.2.1 ma mq res.2.2.2.2.2.2.2.2) :=
  mi_of hl0 (by decide +kernel) (Nat.le_of_ble_eq_true rfl) (fun p e R s m args below meth c Q A C K => b7_compile C hq hf ⟨fun v' h' => (by cases hv.symm.trans h'; exact K), fun E h' => (by cases hv.symm.trans h')⟩)
theorem x7_compile {V : EV} {l : Launch} (hl0 : l.stackTraces = false) {ad : Nat → Nat} {co : Nat → CoS} {ma : MaS} {mq : Nat} {top_tx : Nat → Int32} {top_ln : Int32} {top_cp : Int32} {top_cq : Nat} {top_sq : Nat} {top_fu : Int32} {top_lv : Int32} {top_lt : Int32} {rd_t0 : Nat → Int32} {rd_rt : Nat} {rd_rl : Int32} {rd_rq : Nat} {ra_at : Int32} {cs_cw : Nat → Int32} {cs_ce : Nat → Int32} {cs_cn : Nat → Int32} {cs_cj : Nat → Int32} {cs_cz : Int32} {mu_mS : Nat → Int32} {mu_mK : Nat → Int32} {mu_mI : Nat → Int32} {mu_mC : Nat → Int32} {mu_mc : Int32} {mu_mA : Nat → Int32} {fo_fR : Nat → Int32} {fo_fS : Nat → Int32} {fo_fh : Int32} {fo_fb : Int32} {tr_tK : Nat → Int32} {tr_tF : Nat → Int32} {tr_tS : Nat → Int32} {tr_tT : Nat → Int32} {tr_tO : Nat → Int32} {tr_tN : Nat → Int32} {tr_tc : Int32} {mx_xN : Int32} {mx_xM : Int32} {mx_xS : Nat → Int64} {mx_xK : Nat → Int32} {mx_xX : Nat → Int32} {mx_xY : Nat → Int32} {N : Nat} {res : Except String Int32 × TopS × RdS × Int32 × CoS × MuS × FoS × TrS × MxS} (hq : top_sq < 4) (hf : f7_compile N (top_tx, top_ln, top_cp, top_cq, top_sq, top_fu, top_lv, top_lt) (rd_t0, rd_rt, rd_rl, rd_rq) ra_at (cs_cw, cs_ce, cs_cn, cs_cj, cs_cz) (mu_mS, mu_mK, mu_mI, mu_mC, mu_mc, mu_mA) (fo_fR, fo_fS, fo_fh, fo_fb) (tr_tK, tr_tF, tr_tS, tr_tT, tr_tO, tr_tN, tr_tc) (mx_xN, mx_xM, mx_xS, mx_xK, mx_xX, mx_xY) = some res) {E : String} (hv : res.1 = .error E) : TI V l yX7_compile cX7_compile 2 .int 199 5784 [.ref (ad 0)] (wC V ad (top_tx, top_ln, top_cp, top_cq, top_sq, top_fu, top_lv, top_lt) (rd_t0, rd_rt, rd_rl, rd_rq) ra_at (updC co top_sq (cs_cw, cs_ce, cs_cn, cs_cj, cs_cz)) (mu_mS, mu_mK, mu_mI, mu_mC, mu_mc, mu_mA) (fo_fR, fo_fS, fo_fh, fo_fb) (tr_tK, tr_tF, tr_tS, tr_tT, tr_tO, tr_tN, tr_tc) ma mq (mx_xN, mx_xM, mx_xS, mx_xK, mx_xX, mx_xY)) E (wC V ad res.2.1 res.2.2.1 res.2.2.2.1 (updC co top_sq res.2.2.2.2.1) res.2.2.2.2.2.1 res.2.2.2.2.2.2.1 res.2.2.2.2.2.2.2.1 ma mq res.2.2.2.2.2.2.2.2) :=
  ti_of hl0 (by decide +kernel) (Nat.le_of_ble_eq_true rfl) (fun p e R s m args below meth c Q A C K => b7_compile C hq hf ⟨fun v' h' => (by cases hv.symm.trans h'), fun E' h' => (by cases hv.symm.trans h'; exact K)⟩)

