theorem ok0_add : okCV RX0 yX0_add 3 := by unfold okCV; decide +kernel
def f0_add (v1 : Int32) (v2 : Int32) (v3 : Int32) : CoS → Option (Int32 × CoS)
  | (cs_cw, cs_ce, cs_cn, cs_cj, cs_cz) =>
    if cs_cz = (80 : Int32) then some ((79 : Int32), (cs_cw, cs_ce, cs_cn, cs_cj, cs_cz)) else if cs_cz < 0 ∨ 80 ≤ cs_cz.toNatClampNeg then none else if cs_cz < 0 ∨ 80 ≤ cs_cz.toNatClampNeg then none else if cs_cz < 0 ∨ 80 ≤ cs_cz.toNatClampNeg then none else if cs_cz < 0 ∨ 80 ≤ cs_cz.toNatClampNeg then none else some (((cs_cz + (1 : Int32)) - (1 : Int32)), ((upd cs_cw cs_cz.toNatClampNeg v1), (upd cs_ce cs_cz.toNatClampNeg v2), (upd cs_cn cs_cz.toNatClampNeg v3), (upd cs_cj cs_cz.toNatClampNeg (0 : Int32)), (cs_cz + (1 : Int32))))
set_option maxHeartbeats 4000000 in
set_option maxRecDepth 100000 in
theorem b0_add {V : EV} {p : Program} {l : Launch} {e : Env} {R : Room} {s : State} {m : MethodId} {args : Array Value} {below : List Frame} {meth : Method} {c : Code} {Q : State → Prop} {A : Nat → Prop} {kc ks : Nat} {ad : Nat → Nat} {top : TopS} {rd : RdS} {ra : Int32} {co : Nat → CoS} {mu : MuS} {fo : FoS} {tr : TrS} {ma : MaS} {mq : Nat} {mx : MxS} {q : Nat} {v1 : Int32} {v2 : Int32} {v3 : Int32} {cs_cw : Nat → Int32} {cs_ce : Nat → Int32} {cs_cn : Nat → Int32} {cs_cj : Nat → Int32} {cs_cz : Int32} {res : Int32 × CoS} (C : CX V p l R s m args c A kc ks RX0 cX0_add 4 0 0) (hq : q < 4) (hf : f0_add v1 v2 v3 (cs_cw, cs_ce, cs_cn, cs_cj, cs_cz) = some res) (K : RI V p l e R s m args below meth c Q A kc ks 4 cX0_add .int res.1 (wC V ad top rd ra (updC co q res.2) mu fo tr ma mq mx)) : WC V p l e R s m args below meth c Q A kc ks 4 (wC V ad top rd ra (updC co q (cs_cw, cs_ce, cs_cn, cs_cj, cs_cz)) mu fo tr ma mq mx) 0 [(0, .ref (ad (cpo q))), (1, .int v1), (2, .int v2), (3, .int v3)] [] := by
  rw [f0_add] at hf
  refine k_aload_n C dX0_add_0 0 rfl ?_
  refine g0_22 C hq dX0_add_1 ?_
  refine k_bipush (v := (80 : Int32)) C dX0_add_4 (by decide) ?_
  refine k_icmp_ne C 12 dX0_add_6 (by decide) (fun hc => ?_) (fun hc => ?_)
  · replace hf := (if_neg hc).symm.trans hf
    refine k_aload_n C dX0_add_12 0 rfl ?_
    refine g0_9 C hq dX0_add_13 ?_
    refine k_aload_n C dX0_add_16 0 rfl ?_
    refine g0_22 C hq dX0_add_17 ?_
    refine k_iload_n C dX0_add_20 1 rfl ?_
    obtain ⟨hi, hf⟩ := gd_no hf
    refine sk0 C hq hi dX0_add_21 ?_
    refine k_aload_n C dX0_add_22 0 rfl ?_
    refine g0_13 C hq dX0_add_23 ?_
    refine k_aload_n C dX0_add_26 0 rfl ?_
    refine g0_22 C hq dX0_add_27 ?_
    refine k_iload_n C dX0_add_30 2 rfl ?_
    obtain ⟨hi, hf⟩ := gd_no hf
    refine sk1 C hq hi dX0_add_31 ?_
    refine k_aload_n C dX0_add_32 0 rfl ?_
    refine g0_16 C hq dX0_add_33 ?_
    refine k_aload_n C dX0_add_36 0 rfl ?_
    refine g0_22 C hq dX0_add_37 ?_
    refine k_iload_n C dX0_add_40 3 rfl ?_
    obtain ⟨hi, hf⟩ := gd_no hf
    refine sk2 C hq hi dX0_add_41 ?_
    refine k_aload_n C dX0_add_42 0 rfl ?_
    refine g0_19 C hq dX0_add_43 ?_
    refine k_aload_n C dX0_add_46 0 rfl ?_
    refine g0_22 C hq dX0_add_47 ?_
    refine k_iconst (v := (0 : Int32)) C dX0_add_50 (by decide) ?_
    obtain ⟨hi, hf⟩ := gd_no hf
    refine sk3 C hq hi dX0_add_51 ?_
    refine k_aload_n C dX0_add_52 0 rfl ?_
    refine k_dup C dX0_add_53 rfl ?_
    refine g0_22 C hq dX0_add_54 ?_
    refine k_iconst (v := (1 : Int32)) C dX0_add_57 (by decide) ?_
    refine k_iadd C dX0_add_58 ?_
    refine p0_22 C hq dX0_add_59 ?_
    refine k_aload_n C dX0_add_62 0 rfl ?_
    refine g0_22 C hq dX0_add_63 ?_
    refine k_iconst (v := (1 : Int32)) C dX0_add_66 (by decide) ?_
    refine k_isub C dX0_add_67 ?_
    cases hf
    exact K _ _ dX0_add_68 rfl
  · replace hf := (if_pos hc).symm.trans hf
    refine k_bipush (v := (79 : Int32)) C dX0_add_9 (by decide) ?_
    cases hf
    exact K _ _ dX0_add_11 rfl
theorem c0_add {V : EV} {l : Launch} (hl0 : l.stackTraces = false) {ad : Nat → Nat} {top : TopS} {rd : RdS} {ra : Int32} {co : Nat → CoS} {mu : MuS} {fo : FoS} {tr : TrS} {ma : MaS} {mq : Nat} {mx : MxS} {q : Nat} {v1 : Int32} {v2 : Int32} {v3 : Int32} {cs_cw : Nat → Int32} {cs_ce : Nat → Int32} {cs_cn : Nat → Int32} {cs_cj : Nat → Int32} {cs_cz : Int32} {res : Int32 × CoS} (hq : q < 4) (hf : f0_add v1 v2 v3 (cs_cw, cs_ce, cs_cn, cs_cj, cs_cz) = some res) : MI V l yX0_add cX0_add 4 .int 0 0 [.ref (ad (cpo q)), .int v1, .int v2, .int v3] (wC V ad top rd ra (updC co q (cs_cw, cs_ce, cs_cn, cs_cj, cs_cz)) mu fo tr ma mq mx) res.1 (wC V ad top rd ra (updC co q res.2) mu fo tr ma mq mx) :=
  mi_of hl0 (by decide +kernel) (Nat.le_of_ble_eq_true rfl) (fun p e R s m args below meth c Q A C K => b0_add C hq hf K)

theorem ok0_jumpHere : okCV RX0 yX0_jumpHere 1 := by unfold okCV; decide +kernel
def f0_jumpHere (v1 : Int32) : CoS → Option (CoS)
  | (cs_cw, cs_ce, cs_cn, cs_cj, cs_cz) =>
    if v1 < 0 ∨ 80 ≤ v1.toNatClampNeg then none else some (cs_cw, cs_ce, cs_cn, (upd cs_cj v1.toNatClampNeg cs_cz), cs_cz)
set_option maxHeartbeats 4000000 in
set_option maxRecDepth 100000 in
theorem b0_jumpHere {V : EV} {p : Program} {l : Launch} {e : Env} {R : Room} {s : State} {m : MethodId} {args : Array Value} {below : List Frame} {meth : Method} {c : Code} {Q : State → Prop} {A : Nat → Prop} {kc ks : Nat} {ad : Nat → Nat} {top : TopS} {rd : RdS} {ra : Int32} {co : Nat → CoS} {mu : MuS} {fo : FoS} {tr : TrS} {ma : MaS} {mq : Nat} {mx : MxS} {q : Nat} {v1 : Int32} {cs_cw : Nat → Int32} {cs_ce : Nat → Int32} {cs_cn : Nat → Int32} {cs_cj : Nat → Int32} {cs_cz : Int32} {res : CoS} (C : CX V p l R s m args c A kc ks RX0 cX0_jumpHere 2 0 0) (hq : q < 4) (hf : f0_jumpHere v1 (cs_cw, cs_ce, cs_cn, cs_cj, cs_cz) = some res) (K : RV V p l e R s m args below meth c Q A kc ks 2 cX0_jumpHere (wC V ad top rd ra (updC co q res) mu fo tr ma mq mx)) : WC V p l e R s m args below meth c Q A kc ks 2 (wC V ad top rd ra (updC co q (cs_cw, cs_ce, cs_cn, cs_cj, cs_cz)) mu fo tr ma mq mx) 0 [(0, .ref (ad (cpo q))), (1, .int v1)] [] := by
  rw [f0_jumpHere] at hf
  refine k_aload_n C dX0_jumpHere_0 0 rfl ?_
  refine g0_19 C hq dX0_jumpHere_1 ?_
  refine k_iload_n C dX0_jumpHere_4 1 rfl ?_
  refine k_aload_n C dX0_jumpHere_5 0 rfl ?_
  refine g0_22 C hq dX0_jumpHere_6 ?_
  obtain ⟨hi, hf⟩ := gd_no hf
  refine sk3 C hq hi dX0_jumpHere_9 ?_
  cases hf
  exact K _ _ dX0_jumpHere_10
theorem c0_jumpHere {V : EV} {l : Launch} (hl0 : l.stackTraces = false) {ad : Nat → Nat} {top : TopS} {rd : RdS} {ra : Int32} {co : Nat → CoS} {mu : MuS} {fo : FoS} {tr : TrS} {ma : MaS} {mq : Nat} {mx : MxS} {q : Nat} {v1 : Int32} {cs_cw : Nat → Int32} {cs_ce : Nat → Int32} {cs_cn : Nat → Int32} {cs_cj : Nat → Int32} {cs_cz : Int32} {res : CoS} (hq : q < 4) (hf : f0_jumpHere v1 (cs_cw, cs_ce, cs_cn, cs_cj, cs_cz) = some res) : MV V l yX0_jumpHere cX0_jumpHere 2 0 0 [.ref (ad (cpo q)), .int v1] (wC V ad top rd ra (updC co q (cs_cw, cs_ce, cs_cn, cs_cj, cs_cz)) mu fo tr ma mq mx) (wC V ad top rd ra (updC co q res) mu fo tr ma mq mx) :=
  mv_of hl0 (by decide +kernel) (Nat.le_of_ble_eq_true rfl) (fun p e R s m args below meth c Q A C K => b0_jumpHere C hq hf K)

theorem ok0_numberAt : okCV RX0 yX0_numberAt 3 := by unfold okCV; decide +kernel
def f0_numberAt (v1 : Int32) (v2 : Int32) (v3 : Int32) : CoS → Option (Int32)
  | (cs_cw, cs_ce, cs_cn, cs_cj, cs_cz) =>
    if v1 < 0 ∨ 80 ≤ v1.toNatClampNeg then none else if (cs_ce v1.toNatClampNeg) = v2 then some v3 else if v1 < 0 ∨ 80 ≤ v1.toNatClampNeg then none else some (cs_cn v1.toNatClampNeg)
set_option maxHeartbeats 4000000 in
set_option maxRecDepth 100000 in
theorem b0_numberAt {V : EV} {p : Program} {l : Launch} {e : Env} {R : Room} {s : State} {m : MethodId} {args : Array Value} {below : List Frame} {meth : Method} {c : Code} {Q : State → Prop} {A : Nat → Prop} {kc ks : Nat} {ad : Nat → Nat} {top : TopS} {rd : RdS} {ra : Int32} {co : Nat → CoS} {mu : MuS} {fo : FoS} {tr : TrS} {ma : MaS} {mq : Nat} {mx : MxS} {cs_cw : Nat → Int32} {cs_ce : Nat → Int32} {cs_cn : Nat → Int32} {cs_cj : Nat → Int32} {cs_cz : Int32} {q : Nat} {v1 : Int32} {v2 : Int32} {v3 : Int32} {res : Int32} (C : CX V p l R s m args c A kc ks RX0 cX0_numberAt 4 0 0) (hq : q < 4) (hf : f0_numberAt v1 v2 v3 (cs_cw, cs_ce, cs_cn, cs_cj, cs_cz) = some res) (K : RI V p l e R s m args below meth c Q A kc ks 4 cX0_numberAt .int res (wC V ad top rd ra (updC co q (cs_cw, cs_ce, cs_cn, cs_cj, cs_cz)) mu fo tr ma mq mx)) : WC V p l e R s m args below meth c Q A kc ks 4 (wC V ad top rd ra (updC co q (cs_cw, cs_ce, cs_cn, cs_cj, cs_cz)) mu fo tr ma mq mx) 0 [(0, .ref (ad (cpo q))), (1, .int v1), (2, .int v2), (3, .int v3)] [] := by
  rw [f0_numberAt] at hf
  refine k_aload_n C dX0_numberAt_0 0 rfl ?_
  refine g0_13 C hq dX0_numberAt_1 ?_
  refine k_iload_n C dX0_numberAt_4 1 rfl ?_
  obtain ⟨hi, hf⟩ := gd_no hf
  refine lk1 C hq hi dX0_numberAt_5 ?_
  refine k_iload_n C dX0_numberAt_6 2 rfl ?_
  refine k_icmp_ne C 14 dX0_numberAt_7 (by decide) (fun hc => ?_) (fun hc => ?_)
  · replace hf := (if_neg hc).symm.trans hf
    refine k_aload_n C dX0_numberAt_14 0 rfl ?_
    refine g0_16 C hq dX0_numberAt_15 ?_
    refine k_iload_n C dX0_numberAt_18 1 rfl ?_
    obtain ⟨hi, hf⟩ := gd_no hf
    refine lk2 C hq hi dX0_numberAt_19 ?_
    cases hf
    exact K _ _ dX0_numberAt_20 rfl
  · replace hf := (if_pos hc).symm.trans hf
    refine k_iload_n C dX0_numberAt_10 3 rfl ?_
    refine k_goto C 20 dX0_numberAt_11 (by decide) ?_
    cases hf
    exact K _ _ dX0_numberAt_20 rfl
theorem c0_numberAt {V : EV} {l : Launch} (hl0 : l.stackTraces = false) {ad : Nat → Nat} {top : TopS} {rd : RdS} {ra : Int32} {co : Nat → CoS} {mu : MuS} {fo : FoS} {tr : TrS} {ma : MaS} {mq : Nat} {mx : MxS} {cs_cw : Nat → Int32} {cs_ce : Nat → Int32} {cs_cn : Nat → Int32} {cs_cj : Nat → Int32} {cs_cz : Int32} {q : Nat} {v1 : Int32} {v2 : Int32} {v3 : Int32} {res : Int32} (hq : q < 4) (hf : f0_numberAt v1 v2 v3 (cs_cw, cs_ce, cs_cn, cs_cj, cs_cz) = some res) : MI V l yX0_numberAt cX0_numberAt 4 .int 0 0 [.ref (ad (cpo q)), .int v1, .int v2, .int v3] (wC V ad top rd ra (updC co q (cs_cw, cs_ce, cs_cn, cs_cj, cs_cz)) mu fo tr ma mq mx) res (wC V ad top rd ra (updC co q (cs_cw, cs_ce, cs_cn, cs_cj, cs_cz)) mu fo tr ma mq mx) :=
  mi_of hl0 (by decide +kernel) (Nat.le_of_ble_eq_true rfl) (fun p e R s m args below meth c Q A C K => b0_numberAt C hq hf K)

theorem ok6_chainOf : okCV RX6 yX6_chainOf 4 := by unfold okCV; decide +kernel
def f6_chainOf (v0 : Int32) (v1 : Int32) (v2 : Int32) (v3 : Int32) : Option (Int32) :=
    nm_v ((((((v0 * (31 : Int32)) + v1) * (1009 : Int32)) + v2) * (1013 : Int32)) + v3) (fun v4_1 => some (((v4_1 ^^^ ((v4_1.toUInt32 >>> ((12 : Int32).toUInt32 &&& Int32.toUInt32 31)).toInt32)) ^^^ ((v4_1.toUInt32 >>> ((24 : Int32).toUInt32 &&& Int32.toUInt32 31)).toInt32)) &&& (4095 : Int32)))
set_option maxHeartbeats 4000000 in
set_option maxRecDepth 100000 in
theorem b6_chainOf {V : EV} {p : Program} {l : Launch} {e : Env} {R : Room} {s : State} {m : MethodId} {args : Array Value} {below : List Frame} {meth : Method} {c : Code} {Q : State → Prop} {A : Nat → Prop} {kc ks : Nat} {ad : Nat → Nat} {top : TopS} {rd : RdS} {ra : Int32} {co : Nat → CoS} {mu : MuS} {fo : FoS} {tr : TrS} {ma : MaS} {mq : Nat} {mx : MxS} {v0 : Int32} {v1 : Int32} {v2 : Int32} {v3 : Int32} {res : Int32} (C : CX V p l R s m args c A kc ks RX6 cX6_chainOf 5 0 0) (hf : f6_chainOf v0 v1 v2 v3 = some res) (K : RI V p l e R s m args below meth c Q A kc ks 5 cX6_chainOf .int res (wC V ad top rd ra co mu fo tr ma mq mx)) : WC V p l e R s m args below meth c Q A kc ks 5 (wC V ad top rd ra co mu fo tr ma mq mx) 0 [(0, .int v0), (1, .int v1), (2, .int v2), (3, .int v3)] [] := by
  rw [f6_chainOf] at hf
  refine k_iload_n C dX6_chainOf_0 0 rfl ?_
  refine k_bipush (v := (31 : Int32)) C dX6_chainOf_1 (by decide) ?_
  refine k_imul C dX6_chainOf_3 ?_
  refine k_iload_n C dX6_chainOf_4 1 rfl ?_
  refine k_iadd C dX6_chainOf_5 ?_
  refine k_sipush (v := (1009 : Int32)) C dX6_chainOf_6 (by decide) ?_
  refine k_imul C dX6_chainOf_9 ?_
  refine k_iload_n C dX6_chainOf_10 2 rfl ?_
  refine k_iadd C dX6_chainOf_11 ?_
  refine k_sipush (v := (1013 : Int32)) C dX6_chainOf_12 (by decide) ?_
  refine k_imul C dX6_chainOf_15 ?_
  refine k_iload_n C dX6_chainOf_16 3 rfl ?_
  refine k_iadd C dX6_chainOf_17 ?_
  refine k_topi (fun v4_1 ev4_1 => ?_)
  replace hf := nm_el hf ev4_1
  refine k_istore C dX6_chainOf_18 [(4, .int v4_1), (0, .int v0), (1, .int v1), (2, .int v2), (3, .int v3)] (by decide) rfl ?_
  refine k_iload C dX6_chainOf_20 0 rfl ?_
  refine k_iload C dX6_chainOf_22 0 rfl ?_
  refine k_bipush (v := (12 : Int32)) C dX6_chainOf_24 (by decide) ?_
  refine k_iushr C dX6_chainOf_26 ?_
  refine k_ixor C dX6_chainOf_27 ?_
  refine k_iload C dX6_chainOf_28 0 rfl ?_
  refine k_bipush (v := (24 : Int32)) C dX6_chainOf_30 (by decide) ?_
  refine k_iushr C dX6_chainOf_32 ?_
  refine k_ixor C dX6_chainOf_33 ?_
  refine k_sipush (v := (4095 : Int32)) C dX6_chainOf_34 (by decide) ?_
  refine k_iand C dX6_chainOf_37 ?_
  cases hf
  exact K _ _ dX6_chainOf_38 rfl
theorem c6_chainOf {V : EV} {l : Launch} (hl0 : l.stackTraces = false) {ad : Nat → Nat} {top : TopS} {rd : RdS} {ra : Int32} {co : Nat → CoS} {mu : MuS} {fo : FoS} {tr : TrS} {ma : MaS} {mq : Nat} {mx : MxS} {v0 : Int32} {v1 : Int32} {v2 : Int32} {v3 : Int32} {res : Int32} (hf : f6_chainOf v0 v1 v2 v3 = some res) : MI V l yX6_chainOf cX6_chainOf 5 .int 0 0 [.int v0, .int v1, .int v2, .int v3] (wC V ad top rd ra co mu fo tr ma mq mx) res (wC V ad top rd ra co mu fo tr ma mq mx) :=
  mi_of hl0 (by decide +kernel) (Nat.le_of_ble_eq_true rfl) (fun p e R s m args below meth c Q A C K => b6_chainOf C hf K)

theorem ok6_add : okCV RX6 yX6_add 5 := by unfold okCV; decide +kernel
def f6_add (v1 : Int32) (v2 : Int32) (v3 : Int32) (v4 : Int32) (v5 : Int32) : TrS → Option (Int32 × TrS)
  | (tr_tK, tr_tF, tr_tS, tr_tT, tr_tO, tr_tN, tr_tc) =>
    if tr_tc = (18755 : Int32) then some ((0 : Int32), (tr_tK, tr_tF, tr_tS, tr_tT, tr_tO, tr_tN, tr_tc)) else if tr_tc < 0 ∨ 18755 ≤ tr_tc.toNatClampNeg then none else if tr_tc < 0 ∨ 18755 ≤ tr_tc.toNatClampNeg then none else if tr_tc < 0 ∨ 18755 ≤ tr_tc.toNatClampNeg then none else if tr_tc < 0 ∨ 18755 ≤ tr_tc.toNatClampNeg then none else if v5 < 0 ∨ 4096 ≤ v5.toNatClampNeg then none else if tr_tc < 0 ∨ 18755 ≤ tr_tc.toNatClampNeg then none else if v5 < 0 ∨ 4096 ≤ v5.toNatClampNeg then none else some (tr_tc, ((upd tr_tK tr_tc.toNatClampNeg v1), (upd tr_tF tr_tc.toNatClampNeg v2), (upd tr_tS tr_tc.toNatClampNeg v3), (upd tr_tT tr_tc.toNatClampNeg v4), (upd tr_tO tr_tc.toNatClampNeg (tr_tN v5.toNatClampNeg)), (upd tr_tN v5.toNatClampNeg tr_tc), (tr_tc + (1 : Int32))))
set_option maxHeartbeats 4000000 in
set_option maxRecDepth 100000 in
theorem b6_add {V : EV} {p : Program} {l : Launch} {e : Env} {R : Room} {s : State} {m : MethodId} {args : Array Value} {below : List Frame} {meth : Method} {c : Code} {Q : State → Prop} {A : Nat → Prop} {kc ks : Nat} {ad : Nat → Nat} {top : TopS} {rd : RdS} {ra : Int32} {co : Nat → CoS} {mu : MuS} {fo : FoS} {ma : MaS} {mq : Nat} {mx : MxS} {v1 : Int32} {v2 : Int32} {v3 : Int32} {v4 : Int32} {v5 : Int32} {tr_tK : Nat → Int32} {tr_tF : Nat → Int32} {tr_tS : Nat → Int32} {tr_tT : Nat → Int32} {tr_tO : Nat → Int32} {tr_tN : Nat → Int32} {tr_tc : Int32} {res : Int32 × TrS} (C : CX V p l R s m args c A kc ks RX6 cX6_add 7 0 0) (hf : f6_add v1 v2 v3 v4 v5 (tr_tK, tr_tF, tr_tS, tr_tT, tr_tO, tr_tN, tr_tc) = some res) (K : RI V p l e R s m args below meth c Q A kc ks 7 cX6_add .int res.1 (wC V ad top rd ra co mu fo res.2 ma mq mx)) : WC V p l e R s m args below meth c Q A kc ks 7 (wC V ad top rd ra co mu fo (tr_tK, tr_tF, tr_tS, tr_tT, tr_tO, tr_tN, tr_tc) ma mq mx) 0 [(0, .ref (ad 26)), (1, .int v1), (2, .int v2), (3, .int v3), (4, .int v4), (5, .int v5)] [] := by
  rw [f6_add] at hf
  refine k_aload_n C dX6_add_0 0 rfl ?_
  refine g6_32 C dX6_add_1 ?_
  refine k_sipush (v := (18755 : Int32)) C dX6_add_4 (by decide) ?_
  refine k_icmp_ne C 12 dX6_add_7 (by decide) (fun hc => ?_) (fun hc => ?_)
  · replace hf := (if_neg hc).symm.trans hf
    refine k_aload_n C dX6_add_12 0 rfl ?_
    refine g6_32 C dX6_add_13 ?_
    refine k_istore C dX6_add_16 [(6, .int tr_tc), (0, .ref (ad 26)), (1, .int v1), (2, .int v2), (3, .int v3), (4, .int v4), (5, .int v5)] (by decide) rfl ?_
    refine k_aload_n C dX6_add_18 1 rfl ?_
    refine k_dup C dX6_add_19 rfl ?_
    refine g6_32 C dX6_add_20 ?_
    refine k_iconst (v := (1 : Int32)) C dX6_add_23 (by decide) ?_
    refine k_iadd C dX6_add_24 ?_
    refine p6_32 C dX6_add_25 ?_
    refine k_aload_n C dX6_add_28 1 rfl ?_
    refine g6_13 C dX6_add_29 ?_
    refine k_iload C dX6_add_32 0 rfl ?_
    refine k_iload_n C dX6_add_34 2 rfl ?_
    obtain ⟨hi, hf⟩ := gd_no hf
    refine sc27 C hi dX6_add_35 ?_
    refine k_aload_n C dX6_add_36 1 rfl ?_
    refine g6_17 C dX6_add_37 ?_
    refine k_iload C dX6_add_40 0 rfl ?_
    refine k_iload_n C dX6_add_42 3 rfl ?_
    obtain ⟨hi, hf⟩ := gd_no hf
    refine sc28 C hi dX6_add_43 ?_
    refine k_aload_n C dX6_add_44 1 rfl ?_
    refine g6_20 C dX6_add_45 ?_
    refine k_iload C dX6_add_48 0 rfl ?_
    refine k_iload_n C dX6_add_50 4 rfl ?_
    obtain ⟨hi, hf⟩ := gd_no hf
    refine sc29 C hi dX6_add_51 ?_
    refine k_aload_n C dX6_add_52 1 rfl ?_
    refine g6_23 C dX6_add_53 ?_
    refine k_iload C dX6_add_56 0 rfl ?_
    refine k_iload C dX6_add_58 5 rfl ?_
    obtain ⟨hi, hf⟩ := gd_no hf
    refine sc30 C hi dX6_add_60 ?_
    refine k_aload_n C dX6_add_61 1 rfl ?_
    refine g6_26 C dX6_add_62 ?_
    refine k_iload C dX6_add_65 0 rfl ?_
    refine k_aload_n C dX6_add_67 1 rfl ?_
    refine g6_29 C dX6_add_68 ?_
    refine k_iload C dX6_add_71 6 rfl ?_
    obtain ⟨hi, hf⟩ := gd_no hf
    refine lc32 C hi dX6_add_73 ?_
    obtain ⟨hi, hf⟩ := gd_no hf
    refine sc31 C hi dX6_add_74 ?_
    refine k_aload_n C dX6_add_75 1 rfl ?_
    refine g6_29 C dX6_add_76 ?_
    refine k_iload C dX6_add_79 6 rfl ?_
    refine k_iload C dX6_add_81 0 rfl ?_
    obtain ⟨hi, hf⟩ := gd_no hf
    refine sc32 C hi dX6_add_83 ?_
    refine k_iload C dX6_add_84 0 rfl ?_
    cases hf
    exact K _ _ dX6_add_86 rfl
  · replace hf := (if_pos hc).symm.trans hf
    refine k_iconst (v := (0 : Int32)) C dX6_add_10 (by decide) ?_
    cases hf
    exact K _ _ dX6_add_11 rfl
theorem c6_add {V : EV} {l : Launch} (hl0 : l.stackTraces = false) {ad : Nat → Nat} {top : TopS} {rd : RdS} {ra : Int32} {co : Nat → CoS} {mu : MuS} {fo : FoS} {ma : MaS} {mq : Nat} {mx : MxS} {v1 : Int32} {v2 : Int32} {v3 : Int32} {v4 : Int32} {v5 : Int32} {tr_tK : Nat → Int32} {tr_tF : Nat → Int32} {tr_tS : Nat → Int32} {tr_tT : Nat → Int32} {tr_tO : Nat → Int32} {tr_tN : Nat → Int32} {tr_tc : Int32} {res : Int32 × TrS} (hf : f6_add v1 v2 v3 v4 v5 (tr_tK, tr_tF, tr_tS, tr_tT, tr_tO, tr_tN, tr_tc) = some res) : MI V l yX6_add cX6_add 7 .int 0 0 [.ref (ad 26), .int v1, .int v2, .int v3, .int v4, .int v5] (wC V ad top rd ra co mu fo (tr_tK, tr_tF, tr_tS, tr_tT, tr_tO, tr_tN, tr_tc) ma mq mx) res.1 (wC V ad top rd ra co mu fo res.2 ma mq mx) :=
  mi_of hl0 (by decide +kernel) (Nat.le_of_ble_eq_true rfl) (fun p e R s m args below meth c Q A C K => b6_add C hf K)

theorem cm6_42 : ∀ a ∈ wsCS RX6 42 yX6_chainOf cX6_chainOf 5 (some .int), a ∈ GW := by
  unfold wsCS
  exact (List.forall_mem_cons.mpr ⟨(gw_4 (i := 5) (by decide +kernel) rfl), (List.forall_mem_cons.mpr ⟨(gw_4 (i := 6) (by decide +kernel) rfl), (List.forall_mem_cons.mpr ⟨(gw_1 (i := 6) (by decide +kernel) rfl), (List.forall_mem_cons.mpr ⟨(gw_4 (i := 7) (by decide +kernel) rfl), (List.forall_mem_nil _)⟩)⟩)⟩)⟩)
theorem cm6_46 : ∀ a ∈ wsCV RX6 46 RX6 yX6_add cX6_add 7 (some .int), a ∈ GW := by
  unfold wsCV
  exact (List.forall_mem_cons.mpr ⟨(gw_4 (i := 8) (by decide +kernel) rfl), (List.forall_mem_cons.mpr ⟨(gw_4 (i := 10) (by decide +kernel) rfl), (List.forall_mem_cons.mpr ⟨(gw_p (q := ((yX6_add, 7) : MethodName × Nat)) (List.mem_append_right _ (List.mem_append_right _ (List.mem_append_left _ (List.mem_of_getElem? (i := 2) (by decide +kernel))))) rfl), (List.forall_mem_cons.mpr ⟨(gw_1 (i := 6) (by decide +kernel) rfl), (List.forall_mem_cons.mpr ⟨(gw_4 (i := 11) (by decide +kernel) rfl), (List.forall_mem_nil _)⟩)⟩)⟩)⟩)⟩)
theorem ok6_of : okCV RX6 yX6_of 4 := by unfold okCV; decide +kernel
def f6_of_L84 (k22 : Int32 → Int32 → Int32 → Int32 → Int32 → Int32 → Int32 → TrS → Option (Int32 × TrS)) (N : Nat)  : Int32 → Int32 → Int32 → Int32 → Int32 → Int32 → Int32 → TrS → Option (Int32 × TrS)
  | x1, x2, x3, x4, x5, x6, x7, (tr_tK, tr_tF, tr_tS, tr_tT, tr_tO, tr_tN, tr_tc) =>
    if x6 < 0 ∨ 18755 ≤ x6.toNatClampNeg then none else nm_v (tr_tO x6.toNatClampNeg) (fun v6_4 => nm_v (x7 + (1 : Int32)) (fun v7_5 => k22 x1 x2 x3 x4 x5 v6_4 v7_5 (tr_tK, tr_tF, tr_tS, tr_tT, tr_tO, tr_tN, tr_tc)))

def f6_of_L22 (k99 : Int32 → Int32 → Int32 → Int32 → Int32 → TrS → Option (Int32 × TrS)) (N : Nat)  : Nat → Int32 → Int32 → Int32 → Int32 → Int32 → Int32 → Int32 → TrS → Option (Int32 × TrS)
  | 0, _, _, _, _, _, _, _, _ => none
  | n + 1, x1, x2, x3, x4, x5, x6, x7, (tr_tK, tr_tF, tr_tS, tr_tT, tr_tO, tr_tN, tr_tc) =>
    if tr_tc ≤ x7 then k99 x1 x2 x3 x4 x5 (tr_tK, tr_tF, tr_tS, tr_tT, tr_tO, tr_tN, tr_tc) else if x6 = 0 then k99 x1 x2 x3 x4 x5 (tr_tK, tr_tF, tr_tS, tr_tT, tr_tO, tr_tN, tr_tc) else if x6 < 0 ∨ 18755 ≤ x6.toNatClampNeg then none else if (tr_tK x6.toNatClampNeg) = x1 then if x6 < 0 ∨ 18755 ≤ x6.toNatClampNeg then none else if (tr_tF x6.toNatClampNeg) = x2 then if x6 < 0 ∨ 18755 ≤ x6.toNatClampNeg then none else if (tr_tS x6.toNatClampNeg) = x3 then if x6 < 0 ∨ 18755 ≤ x6.toNatClampNeg then none else if (tr_tT x6.toNatClampNeg) = x4 then some (x6, (tr_tK, tr_tF, tr_tS, tr_tT, tr_tO, tr_tN, tr_tc)) else f6_of_L84 (fun x1_ x2_ x3_ x4_ x5_ x6_ x7_ c_tr => f6_of_L22 k99 N n x1_ x2_ x3_ x4_ x5_ x6_ x7_ c_tr) N x1 x2 x3 x4 x5 x6 x7 (tr_tK, tr_tF, tr_tS, tr_tT, tr_tO, tr_tN, tr_tc) else f6_of_L84 (fun x1_ x2_ x3_ x4_ x5_ x6_ x7_ c_tr => f6_of_L22 k99 N n x1_ x2_ x3_ x4_ x5_ x6_ x7_ c_tr) N x1 x2 x3 x4 x5 x6 x7 (tr_tK, tr_tF, tr_tS, tr_tT, tr_tO, tr_tN, tr_tc) else f6_of_L84 (fun x1_ x2_ x3_ x4_ x5_ x6_ x7_ c_tr => f6_of_L22 k99 N n x1_ x2_ x3_ x4_ x5_ x6_ x7_ c_tr) N x1 x2 x3 x4 x5 x6 x7 (tr_tK, tr_tF, tr_tS, tr_tT, tr_tO, tr_tN, tr_tc) else f6_of_L84 (fun x1_ x2_ x3_ x4_ x5_ x6_ x7_ c_tr => f6_of_L22 k99 N n x1_ x2_ x3_ x4_ x5_ x6_ x7_ c_tr) N x1 x2 x3 x4 x5 x6 x7 (tr_tK, tr_tF, tr_tS, tr_tT, tr_tO, tr_tN, tr_tc)

def f6_of_L99  (N : Nat)  : Int32 → Int32 → Int32 → Int32 → Int32 → TrS → Option (Int32 × TrS)
  | x1, x2, x3, x4, x5, (tr_tK, tr_tF, tr_tS, tr_tT, tr_tO, tr_tN, tr_tc) =>
    (f6_add x1 x2 x3 x4 x5 (tr_tK, tr_tF, tr_tS, tr_tT, tr_tO, tr_tN, tr_tc)).bind fun (r_8, (tr_tK_9, tr_tF_10, tr_tS_11, tr_tT_12, tr_tO_13, tr_tN_14, tr_tc_15)) => some (r_8, (tr_tK_9, tr_tF_10, tr_tS_11, tr_tT_12, tr_tO_13, tr_tN_14, tr_tc_15))
def f6_of (N : Nat) (v1 : Int32) (v2 : Int32) (v3 : Int32) (v4 : Int32) : TrS → Option (Int32 × TrS)
  | (tr_tK, tr_tF, tr_tS, tr_tT, tr_tO, tr_tN, tr_tc) =>
    (f6_chainOf v1 v2 v3 v4).bind fun r_2 => if r_2 < 0 ∨ 4096 ≤ r_2.toNatClampNeg then none else nm_v (tr_tN r_2.toNatClampNeg) (fun v6_3 => f6_of_L22 (fun x1_6 x2_6 x3_6 x4_6 x5_6 (tr_tK_6, tr_tF_6, tr_tS_6, tr_tT_6, tr_tO_6, tr_tN_6, tr_tc_6) => f6_of_L99 N x1_6 x2_6 x3_6 x4_6 x5_6 (tr_tK_6, tr_tF_6, tr_tS_6, tr_tT_6, tr_tO_6, tr_tN_6, tr_tc_6)) N N v1 v2 v3 v4 r_2 v6_3 (0 : Int32) (tr_tK, tr_tF, tr_tS, tr_tT, tr_tO, tr_tN, tr_tc))
set_option maxHeartbeats 4000000 in
set_option maxRecDepth 100000 in
theorem w6_of_L84 {V : EV} {p : Program} {l : Launch} {e : Env} {R : Room} {s : State} {m : MethodId} {args : Array Value} {below : List Frame} {meth : Method} {c : Code} {Q : State → Prop} {A : Nat → Prop} {kc ks : Nat} {ad : Nat → Nat} {top : TopS} {rd : RdS} {ra : Int32} {co : Nat → CoS} {mu : MuS} {fo : FoS} {ma : MaS} {mq : Nat} {mx : MxS} {k22 : Int32 → Int32 → Int32 → Int32 → Int32 → Int32 → Int32 → TrS → Option (Int32 × TrS)} {N : Nat} {res : Int32 × TrS} (C : CX V p l R s m args c A kc ks RX6 cX6_of 8 1 26) (K : RI V p l e R s m args below meth c Q A kc ks 8 cX6_of .int res.1 (wC V ad top rd ra co mu fo res.2 ma mq mx)) (hk22 : ∀ (x1 : Int32) (x2 : Int32) (x3 : Int32) (x4 : Int32) (x5 : Int32) (x6 : Int32) (x7 : Int32) (tr_tK : Nat → Int32) (tr_tF : Nat → Int32) (tr_tS : Nat → Int32) (tr_tT : Nat → Int32) (tr_tO : Nat → Int32) (tr_tN : Nat → Int32) (tr_tc : Int32), k22 x1 x2 x3 x4 x5 x6 x7 (tr_tK, tr_tF, tr_tS, tr_tT, tr_tO, tr_tN, tr_tc) = some res → WC V p l e R s m args below meth c Q A kc ks 8 (wC V ad top rd ra co mu fo (tr_tK, tr_tF, tr_tS, tr_tT, tr_tO, tr_tN, tr_tc) ma mq mx) 22 [(0, .ref (ad 26)), (1, .int x1), (2, .int x2), (3, .int x3), (4, .int x4), (5, .int x5), (6, .int x6), (7, .int x7)] []) : ∀ (x1 : Int32) (x2 : Int32) (x3 : Int32) (x4 : Int32) (x5 : Int32) (x6 : Int32) (x7 : Int32) (tr_tK : Nat → Int32) (tr_tF : Nat → Int32) (tr_tS : Nat → Int32) (tr_tT : Nat → Int32) (tr_tO : Nat → Int32) (tr_tN : Nat → Int32) (tr_tc : Int32), f6_of_L84 k22 N x1 x2 x3 x4 x5 x6 x7 (tr_tK, tr_tF, tr_tS, tr_tT, tr_tO, tr_tN, tr_tc) = some res → WC V p l e R s m args below meth c Q A kc ks 8 (wC V ad top rd ra co mu fo (tr_tK, tr_tF, tr_tS, tr_tT, tr_tO, tr_tN, tr_tc) ma mq mx) 84 [(0, .ref (ad 26)), (1, .int x1), (2, .int x2), (3, .int x3), (4, .int x4), (5, .int x5), (6, .int x6), (7, .int x7)] [] := by
  intro x1 x2 x3 x4 x5 x6 x7 tr_tK tr_tF tr_tS tr_tT tr_tO tr_tN tr_tc hf
  rw [f6_of_L84] at hf
  refine k_aload_n C dX6_of_84 0 rfl ?_
  refine g6_26 C dX6_of_85 ?_
  refine k_iload C dX6_of_88 6 rfl ?_
  obtain ⟨hi, hf⟩ := gd_no hf
  refine lc31 C hi dX6_of_90 ?_
  refine k_topi (fun v6_4 ev6_4 => ?_)
  replace hf := nm_el hf ev6_4
  refine k_istore C dX6_of_91 [(6, .int v6_4), (0, .ref (ad 26)), (1, .int x1), (2, .int x2), (3, .int x3), (4, .int x4), (5, .int x5), (7, .int x7)] (by decide) rfl ?_
  obtain ⟨v7_5, ev7_5⟩ : ∃ y : Int32, y = x7 + (1 : Int32) := ⟨_, rfl⟩
  replace hf := nm_el hf ev7_5
  refine k_iinc (v := v7_5) C dX6_of_93 7 rfl (by rw [ev7_5]; rfl) [(7, .int v7_5), (6, .int v6_4), (0, .ref (ad 26)), (1, .int x1), (2, .int x2), (3, .int x3), (4, .int x4), (5, .int x5)] (by decide) rfl ?_
  refine k_goto C 22 dX6_of_96 (by decide) ?_
  refine k_sub [2, 3, 4, 5, 6, 7, 1, 0] (L' := [(0, .ref (ad 26)), (1, .int x1), (2, .int x2), (3, .int x3), (4, .int x4), (5, .int x5), (6, .int v6_4), (7, .int v7_5)]) rfl ?_
  exact hk22 _ _ _ _ _ _ _ _ _ _ _ _ _ _ hf

set_option maxHeartbeats 4000000 in
set_option maxRecDepth 100000 in
theorem w6_of_L22 {V : EV} {p : Program} {l : Launch} {e : Env} {R : Room} {s : State} {m : MethodId} {args : Array Value} {below : List Frame} {meth : Method} {c : Code} {Q : State → Prop} {A : Nat → Prop} {kc ks : Nat} {ad : Nat → Nat} {top : TopS} {rd : RdS} {ra : Int32} {co : Nat → CoS} {mu : MuS} {fo : FoS} {ma : MaS} {mq : Nat} {mx : MxS} {k99 : Int32 → Int32 → Int32 → Int32 → Int32 → TrS → Option (Int32 × TrS)} {N : Nat} {res : Int32 × TrS} (C : CX V p l R s m args c A kc ks RX6 cX6_of 8 1 26) (K : RI V p l e R s m args below meth c Q A kc ks 8 cX6_of .int res.1 (wC V ad top rd ra co mu fo res.2 ma mq mx)) (hk99 : ∀ (x1 : Int32) (x2 : Int32) (x3 : Int32) (x4 : Int32) (x5 : Int32) (tr_tK : Nat → Int32) (tr_tF : Nat → Int32) (tr_tS : Nat → Int32) (tr_tT : Nat → Int32) (tr_tO : Nat → Int32) (tr_tN : Nat → Int32) (tr_tc : Int32), k99 x1 x2 x3 x4 x5 (tr_tK, tr_tF, tr_tS, tr_tT, tr_tO, tr_tN, tr_tc) = some res → WC V p l e R s m args below meth c Q A kc ks 8 (wC V ad top rd ra co mu fo (tr_tK, tr_tF, tr_tS, tr_tT, tr_tO, tr_tN, tr_tc) ma mq mx) 99 [(0, .ref (ad 26)), (1, .int x1), (2, .int x2), (3, .int x3), (4, .int x4), (5, .int x5)] []) : ∀ (n : Nat) (x1 : Int32) (x2 : Int32) (x3 : Int32) (x4 : Int32) (x5 : Int32) (x6 : Int32) (x7 : Int32) (tr_tK : Nat → Int32) (tr_tF : Nat → Int32) (tr_tS : Nat → Int32) (tr_tT : Nat → Int32) (tr_tO : Nat → Int32) (tr_tN : Nat → Int32) (tr_tc : Int32), f6_of_L22 k99 N n x1 x2 x3 x4 x5 x6 x7 (tr_tK, tr_tF, tr_tS, tr_tT, tr_tO, tr_tN, tr_tc) = some res → WC V p l e R s m args below meth c Q A kc ks 8 (wC V ad top rd ra co mu fo (tr_tK, tr_tF, tr_tS, tr_tT, tr_tO, tr_tN, tr_tc) ma mq mx) 22 [(0, .ref (ad 26)), (1, .int x1), (2, .int x2), (3, .int x3), (4, .int x4), (5, .int x5), (6, .int x6), (7, .int x7)] [] := by
  intro n
  induction n with
  | zero => intro _ _ _ _ _ _ _ _ _ _ _ _ _ _ hf; exact nomatch (show none = some res from hf)
  | succ n ih =>
    intro x1 x2 x3 x4 x5 x6 x7 tr_tK tr_tF tr_tS tr_tT tr_tO tr_tN tr_tc hf
    rw [f6_of_L22] at hf
    refine k_iload C dX6_of_22 7 rfl ?_
    refine k_aload_n C dX6_of_24 0 rfl ?_
    refine g6_32 C dX6_of_25 ?_
    refine k_icmp_ge C 99 dX6_of_28 (by decide) (fun hc => ?_) (fun hc => ?_)
    · replace hf := (if_pos hc).symm.trans hf
      refine k_sub [0, 1, 2, 3, 4, 5] (L' := [(0, .ref (ad 26)), (1, .int x1), (2, .int x2), (3, .int x3), (4, .int x4), (5, .int x5)]) rfl ?_
      exact hk99 _ _ _ _ _ _ _ _ _ _ _ _ hf
    · replace hf := (if_neg hc).symm.trans hf
      refine k_iload C dX6_of_31 6 rfl ?_
      refine k_if_eq C 99 dX6_of_33 (by decide) (fun hc => ?_) (fun hc => ?_)
      · replace hf := (if_pos hc).symm.trans hf
        refine k_sub [0, 1, 2, 3, 4, 5] (L' := [(0, .ref (ad 26)), (1, .int x1), (2, .int x2), (3, .int x3), (4, .int x4), (5, .int x5)]) rfl ?_
        exact hk99 _ _ _ _ _ _ _ _ _ _ _ _ hf
      · replace hf := (if_neg hc).symm.trans hf
        refine k_aload_n C dX6_of_36 0 rfl ?_
        refine g6_13 C dX6_of_37 ?_
        refine k_iload C dX6_of_40 6 rfl ?_
        obtain ⟨hi, hf⟩ := gd_no hf
        refine lc27 C hi dX6_of_42 ?_
        refine k_iload_n C dX6_of_43 1 rfl ?_
        refine k_icmp_ne C 84 dX6_of_44 (by decide) (fun hc => ?_) (fun hc => ?_)
        · replace hf := (if_neg hc).symm.trans hf
          exact w6_of_L84 C K ih _ _ _ _ _ _ _ _ _ _ _ _ _ _ hf
        · replace hf := (if_pos hc).symm.trans hf
          refine k_aload_n C dX6_of_47 0 rfl ?_
          refine g6_17 C dX6_of_48 ?_
          refine k_iload C dX6_of_51 6 rfl ?_
          obtain ⟨hi, hf⟩ := gd_no hf
          refine lc28 C hi dX6_of_53 ?_
          refine k_iload_n C dX6_of_54 2 rfl ?_
          refine k_icmp_ne C 84 dX6_of_55 (by decide) (fun hc => ?_) (fun hc => ?_)
          · replace hf := (if_neg hc).symm.trans hf
            exact w6_of_L84 C K ih _ _ _ _ _ _ _ _ _ _ _ _ _ _ hf
          · replace hf := (if_pos hc).symm.trans hf
            refine k_aload_n C dX6_of_58 0 rfl ?_
            refine g6_20 C dX6_of_59 ?_
            refine k_iload C dX6_of_62 6 rfl ?_
            obtain ⟨hi, hf⟩ := gd_no hf
            refine lc29 C hi dX6_of_64 ?_
            refine k_iload_n C dX6_of_65 3 rfl ?_
            refine k_icmp_ne C 84 dX6_of_66 (by decide) (fun hc => ?_) (fun hc => ?_)
            · replace hf := (if_neg hc).symm.trans hf
              exact w6_of_L84 C K ih _ _ _ _ _ _ _ _ _ _ _ _ _ _ hf
            · replace hf := (if_pos hc).symm.trans hf
              refine k_aload_n C dX6_of_69 0 rfl ?_
              refine g6_23 C dX6_of_70 ?_
              refine k_iload C dX6_of_73 6 rfl ?_
              obtain ⟨hi, hf⟩ := gd_no hf
              refine lc30 C hi dX6_of_75 ?_
              refine k_iload C dX6_of_76 4 rfl ?_
              refine k_icmp_ne C 84 dX6_of_78 (by decide) (fun hc => ?_) (fun hc => ?_)
              · replace hf := (if_neg hc).symm.trans hf
                exact w6_of_L84 C K ih _ _ _ _ _ _ _ _ _ _ _ _ _ _ hf
              · replace hf := (if_pos hc).symm.trans hf
                refine k_iload C dX6_of_81 6 rfl ?_
                cases hf
                exact K _ _ dX6_of_83 rfl

set_option maxHeartbeats 4000000 in
set_option maxRecDepth 100000 in
theorem w6_of_L99 {V : EV} {p : Program} {l : Launch} {e : Env} {R : Room} {s : State} {m : MethodId} {args : Array Value} {below : List Frame} {meth : Method} {c : Code} {Q : State → Prop} {A : Nat → Prop} {kc ks : Nat} {ad : Nat → Nat} {top : TopS} {rd : RdS} {ra : Int32} {co : Nat → CoS} {mu : MuS} {fo : FoS} {ma : MaS} {mq : Nat} {mx : MxS}  {N : Nat} {res : Int32 × TrS} (C : CX V p l R s m args c A kc ks RX6 cX6_of 8 1 26) (K : RI V p l e R s m args below meth c Q A kc ks 8 cX6_of .int res.1 (wC V ad top rd ra co mu fo res.2 ma mq mx))  : ∀ (x1 : Int32) (x2 : Int32) (x3 : Int32) (x4 : Int32) (x5 : Int32) (tr_tK : Nat → Int32) (tr_tF : Nat → Int32) (tr_tS : Nat → Int32) (tr_tT : Nat → Int32) (tr_tO : Nat → Int32) (tr_tN : Nat → Int32) (tr_tc : Int32), f6_of_L99 N x1 x2 x3 x4 x5 (tr_tK, tr_tF, tr_tS, tr_tT, tr_tO, tr_tN, tr_tc) = some res → WC V p l e R s m args below meth c Q A kc ks 8 (wC V ad top rd ra co mu fo (tr_tK, tr_tF, tr_tS, tr_tT, tr_tO, tr_tN, tr_tc) ma mq mx) 99 [(0, .ref (ad 26)), (1, .int x1), (2, .int x2), (3, .int x3), (4, .int x4), (5, .int x5)] [] := by
  intro x1 x2 x3 x4 x5 tr_tK tr_tF tr_tS tr_tT tr_tO tr_tN tr_tc hf
  rw [f6_of_L99] at hf
  refine k_aload_n C dX6_of_99 0 rfl ?_
  refine k_iload_n C dX6_of_100 1 rfl ?_
  refine k_iload_n C dX6_of_101 2 rfl ?_
  refine k_iload_n C dX6_of_102 3 rfl ?_
  refine k_iload C dX6_of_103 4 rfl ?_
  refine k_iload C dX6_of_105 5 rfl ?_
  obtain ⟨⟨r_8, ⟨tr_tK_9, tr_tF_10, tr_tS_11, tr_tT_12, tr_tO_13, tr_tN_14, tr_tc_15⟩⟩, hq_7, hf⟩ := ob_el hf
  dsimp only at hf
  refine k_callVi C (c6_add C.2.2.2.2.2.2.2.2.2.1 hq_7) cm6_46 ok6_add (by decide) 26 rfl rfl rfl rfl (Nat.le_of_ble_eq_true rfl) dX6_of_107 ?_
  cases hf
  exact K _ _ dX6_of_110 rfl
set_option maxHeartbeats 4000000 in
set_option maxRecDepth 100000 in
theorem b6_of {V : EV} {p : Program} {l : Launch} {e : Env} {R : Room} {s : State} {m : MethodId} {args : Array Value} {below : List Frame} {meth : Method} {c : Code} {Q : State → Prop} {A : Nat → Prop} {kc ks : Nat} {ad : Nat → Nat} {top : TopS} {rd : RdS} {ra : Int32} {co : Nat → CoS} {mu : MuS} {fo : FoS} {ma : MaS} {mq : Nat} {mx : MxS} {v1 : Int32} {v2 : Int32} {v3 : Int32} {v4 : Int32} {tr_tK : Nat → Int32} {tr_tF : Nat → Int32} {tr_tS : Nat → Int32} {tr_tT : Nat → Int32} {tr_tO : Nat → Int32} {tr_tN : Nat → Int32} {tr_tc : Int32} {N : Nat} {res : Int32 × TrS} (C : CX V p l R s m args c A kc ks RX6 cX6_of 8 1 26) (hf : f6_of N v1 v2 v3 v4 (tr_tK, tr_tF, tr_tS, tr_tT, tr_tO, tr_tN, tr_tc) = some res) (K : RI V p l e R s m args below meth c Q A kc ks 8 cX6_of .int res.1 (wC V ad top rd ra co mu fo res.2 ma mq mx)) : WC V p l e R s m args below meth c Q A kc ks 8 (wC V ad top rd ra co mu fo (tr_tK, tr_tF, tr_tS, tr_tT, tr_tO, tr_tN, tr_tc) ma mq mx) 0 [(0, .ref (ad 26)), (1, .int v1), (2, .int v2), (3, .int v3), (4, .int v4)] [] := by
  rw [f6_of] at hf
  refine k_iload_n C dX6_of_0 1 rfl ?_
  refine k_iload_n C dX6_of_1 2 rfl ?_
  refine k_iload_n C dX6_of_2 3 rfl ?_
  refine k_iload C dX6_of_3 4 rfl ?_
  obtain ⟨r_2, hq_1, hf⟩ := ob_el hf
  refine k_callSi C (c6_chainOf C.2.2.2.2.2.2.2.2.2.1 hq_1) cm6_42 ok6_chainOf (by decide) rfl rfl (Nat.le_of_ble_eq_true rfl) dX6_of_5 ?_
  refine k_istore C dX6_of_8 [(5, .int r_2), (0, .ref (ad 26)), (1, .int v1), (2, .int v2), (3, .int v3), (4, .int v4)] (by decide) rfl ?_
  refine k_aload_n C dX6_of_10 1 rfl ?_
  refine g6_29 C dX6_of_11 ?_
  refine k_iload C dX6_of_14 0 rfl ?_
  obtain ⟨hi, hf⟩ := gd_no hf
  refine lc32 C hi dX6_of_16 ?_
  refine k_topi (fun v6_3 ev6_3 => ?_)
  replace hf := nm_el hf ev6_3
  refine k_istore C dX6_of_17 [(6, .int v6_3), (5, .int r_2), (0, .ref (ad 26)), (1, .int v1), (2, .int v2), (3, .int v3), (4, .int v4)] (by decide) rfl ?_
  refine k_iconst (v := (0 : Int32)) C dX6_of_19 (by decide) ?_
  refine k_istore C dX6_of_20 [(7, .int (0 : Int32)), (6, .int v6_3), (5, .int r_2), (0, .ref (ad 26)), (1, .int v1), (2, .int v2), (3, .int v3), (4, .int v4)] (by decide) rfl ?_
  refine k_sub [3, 4, 5, 6, 7, 2, 1, 0] (L' := [(0, .ref (ad 26)), (1, .int v1), (2, .int v2), (3, .int v3), (4, .int v4), (5, .int r_2), (6, .int v6_3), (7, .int (0 : Int32))]) rfl ?_
  refine w6_of_L22 C K ?_ _ _ _ _ _ _ _ _ _ _ _ _ _ _ _ hf
  · intro x1_6 x2_6 x3_6 x4_6 x5_6 tr_tK_6 tr_tF_6 tr_tS_6 tr_tT_6 tr_tO_6 tr_tN_6 tr_tc_6 hf
    try dsimp only at hf
    exact w6_of_L99 C K _ _ _ _ _ _ _ _ _ _ _ _ hf
theorem c6_of {V : EV} {l : Launch} (hl0 : l.stackTraces = false) {ad : Nat → Nat} {top : TopS} {rd : RdS} {ra : Int32} {co : Nat → CoS} {mu : MuS} {fo : FoS} {ma : MaS} {mq : Nat} {mx : MxS} {v1 : Int32} {v2 : Int32} {v3 : Int32} {v4 : Int32} {tr_tK : Nat → Int32} {tr_tF : Nat → Int32} {tr_tS : Nat → Int32} {tr_tT : Nat → Int32} {tr_tO : Nat → Int32} {tr_tN : Nat → Int32} {tr_tc : Int32} {N : Nat} {res : Int32 × TrS} (hf : f6_of N v1 v2 v3 v4 (tr_tK, tr_tF, tr_tS, tr_tT, tr_tO, tr_tN, tr_tc) = some res) : MI V l yX6_of cX6_of 8 .int 1 26 [.ref (ad 26), .int v1, .int v2, .int v3, .int v4] (wC V ad top rd ra co mu fo (tr_tK, tr_tF, tr_tS, tr_tT, tr_tO, tr_tN, tr_tc) ma mq mx) res.1 (wC V ad top rd ra co mu fo res.2 ma mq mx) :=
  mi_of hl0 (by decide +kernel) (Nat.le_of_ble_eq_true rfl) (fun p e R s m args below meth c Q A C K => b6_of C hf K)

theorem cm6_50 : ∀ a ∈ wsCV RX6 50 RX6 yX6_of cX6_of 8 (some .int), a ∈ GW := by
  unfold wsCV
  exact (List.forall_mem_cons.mpr ⟨(gw_4 (i := 1) (by decide +kernel) rfl), (List.forall_mem_cons.mpr ⟨(gw_4 (i := 2) (by decide +kernel) rfl), (List.forall_mem_cons.mpr ⟨(gw_4 (i := 3) (by decide +kernel) rfl), (List.forall_mem_cons.mpr ⟨(gw_1 (i := 6) (by decide +kernel) rfl), (List.forall_mem_cons.mpr ⟨(gw_4 (i := 4) (by decide +kernel) rfl), (List.forall_mem_nil _)⟩)⟩)⟩)⟩)⟩)
theorem ok6_constant : okCV RX6 yX6_constant 1 := by unfold okCV; decide +kernel
def f6_constant (N : Nat) (v1 : Int32) : TrS → Option (Int32 × TrS)
  | (tr_tK, tr_tF, tr_tS, tr_tT, tr_tO, tr_tN, tr_tc) =>
    (f6_of N (1 : Int32) v1 (0 : Int32) (0 : Int32) (tr_tK, tr_tF, tr_tS, tr_tT, tr_tO, tr_tN, tr_tc)).bind fun (r_2, (tr_tK_3, tr_tF_4, tr_tS_5, tr_tT_6, tr_tO_7, tr_tN_8, tr_tc_9)) => some (r_2, (tr_tK_3, tr_tF_4, tr_tS_5, tr_tT_6, tr_tO_7, tr_tN_8, tr_tc_9))
set_option maxHeartbeats 4000000 in
set_option maxRecDepth 100000 in
theorem b6_constant {V : EV} {p : Program} {l : Launch} {e : Env} {R : Room} {s : State} {m : MethodId} {args : Array Value} {below : List Frame} {meth : Method} {c : Code} {Q : State → Prop} {A : Nat → Prop} {kc ks : Nat} {ad : Nat → Nat} {top : TopS} {rd : RdS} {ra : Int32} {co : Nat → CoS} {mu : MuS} {fo : FoS} {ma : MaS} {mq : Nat} {mx : MxS} {v1 : Int32} {tr_tK : Nat → Int32} {tr_tF : Nat → Int32} {tr_tS : Nat → Int32} {tr_tT : Nat → Int32} {tr_tO : Nat → Int32} {tr_tN : Nat → Int32} {tr_tc : Int32} {N : Nat} {res : Int32 × TrS} (C : CX V p l R s m args c A kc ks RX6 cX6_constant 2 2 53) (hf : f6_constant N v1 (tr_tK, tr_tF, tr_tS, tr_tT, tr_tO, tr_tN, tr_tc) = some res) (K : RI V p l e R s m args below meth c Q A kc ks 2 cX6_constant .int res.1 (wC V ad top rd ra co mu fo res.2 ma mq mx)) : WC V p l e R s m args below meth c Q A kc ks 2 (wC V ad top rd ra co mu fo (tr_tK, tr_tF, tr_tS, tr_tT, tr_tO, tr_tN, tr_tc) ma mq mx) 0 [(0, .ref (ad 26)), (1, .int v1)] [] := by
  rw [f6_constant] at hf
  refine k_aload_n C dX6_constant_0 0 rfl ?_
  refine k_iconst (v := (1 : Int32)) C dX6_constant_1 (by decide) ?_
  refine k_iload_n C dX6_constant_2 1 rfl ?_
  refine k_iconst (v := (0 : Int32)) C dX6_constant_3 (by decide) ?_
  refine k_iconst (v := (0 : Int32)) C dX6_constant_4 (by decide) ?_
  obtain ⟨⟨r_2, ⟨tr_tK_3, tr_tF_4, tr_tS_5, tr_tT_6, tr_tO_7, tr_tN_8, tr_tc_9⟩⟩, hq_1, hf⟩ := ob_el hf
  dsimp only at hf
  refine k_callVi C (c6_of C.2.2.2.2.2.2.2.2.2.1 hq_1) cm6_50 ok6_of (by decide) 26 rfl rfl rfl rfl (Nat.le_of_ble_eq_true rfl) dX6_constant_5 ?_
  cases hf
  exact K _ _ dX6_constant_8 rfl
theorem c6_constant {V : EV} {l : Launch} (hl0 : l.stackTraces = false) {ad : Nat → Nat} {top : TopS} {rd : RdS} {ra : Int32} {co : Nat → CoS} {mu : MuS} {fo : FoS} {ma : MaS} {mq : Nat} {mx : MxS} {v1 : Int32} {tr_tK : Nat → Int32} {tr_tF : Nat → Int32} {tr_tS : Nat → Int32} {tr_tT : Nat → Int32} {tr_tO : Nat → Int32} {tr_tN : Nat → Int32} {tr_tc : Int32} {N : Nat} {res : Int32 × TrS} (hf : f6_constant N v1 (tr_tK, tr_tF, tr_tS, tr_tT, tr_tO, tr_tN, tr_tc) = some res) : MI V l yX6_constant cX6_constant 2 .int 2 53 [.ref (ad 26), .int v1] (wC V ad top rd ra co mu fo (tr_tK, tr_tF, tr_tS, tr_tT, tr_tO, tr_tN, tr_tc) ma mq mx) res.1 (wC V ad top rd ra co mu fo res.2 ma mq mx) :=
  mi_of hl0 (by decide +kernel) (Nat.le_of_ble_eq_true rfl) (fun p e R s m args below meth c Q A C K => b6_constant C hf K)

theorem ok6_isConstant : okCV RX6 yX6_isConstant 1 := by unfold okCV; decide +kernel
def f6_isConstant (v1 : Int32) : TrS → Option (Int32)
  | (tr_tK, tr_tF, tr_tS, tr_tT, tr_tO, tr_tN, tr_tc) =>
    if v1 < 0 ∨ 18755 ≤ v1.toNatClampNeg then none else if (tr_tK v1.toNatClampNeg) = (1 : Int32) then some (1 : Int32) else some (0 : Int32)
set_option maxHeartbeats 4000000 in
set_option maxRecDepth 100000 in
theorem b6_isConstant {V : EV} {p : Program} {l : Launch} {e : Env} {R : Room} {s : State} {m : MethodId} {args : Array Value} {below : List Frame} {meth : Method} {c : Code} {Q : State → Prop} {A : Nat → Prop} {kc ks : Nat} {ad : Nat → Nat} {top : TopS} {rd : RdS} {ra : Int32} {co : Nat → CoS} {mu : MuS} {fo : FoS} {ma : MaS} {mq : Nat} {mx : MxS} {tr_tK : Nat → Int32} {tr_tF : Nat → Int32} {tr_tS : Nat → Int32} {tr_tT : Nat → Int32} {tr_tO : Nat → Int32} {tr_tN : Nat → Int32} {tr_tc : Int32} {v1 : Int32} {res : Int32} (C : CX V p l R s m args c A kc ks RX6 cX6_isConstant 2 0 0) (hf : f6_isConstant v1 (tr_tK, tr_tF, tr_tS, tr_tT, tr_tO, tr_tN, tr_tc) = some res) (K : RI V p l e R s m args below meth c Q A kc ks 2 cX6_isConstant .boolean res (wC V ad top rd ra co mu fo (tr_tK, tr_tF, tr_tS, tr_tT, tr_tO, tr_tN, tr_tc) ma mq mx)) : WC V p l e R s m args below meth c Q A kc ks 2 (wC V ad top rd ra co mu fo (tr_tK, tr_tF, tr_tS, tr_tT, tr_tO, tr_tN, tr_tc) ma mq mx) 0 [(0, .ref (ad 26)), (1, .int v1)] [] := by
  rw [f6_isConstant] at hf
  refine k_aload_n C dX6_isConstant_0 0 rfl ?_
  refine g6_13 C dX6_isConstant_1 ?_
  refine k_iload_n C dX6_isConstant_4 1 rfl ?_
  obtain ⟨hi, hf⟩ := gd_no hf
  refine lc27 C hi dX6_isConstant_5 ?_
  refine k_iconst (v := (1 : Int32)) C dX6_isConstant_6 (by decide) ?_
  refine k_icmp_ne C 14 dX6_isConstant_7 (by decide) (fun hc => ?_) (fun hc => ?_)
  · replace hf := (if_neg hc).symm.trans hf
    refine k_iconst (v := (0 : Int32)) C dX6_isConstant_14 (by decide) ?_
    cases hf
    exact K _ _ dX6_isConstant_15 (nar_b (Or.inl rfl))
  · replace hf := (if_pos hc).symm.trans hf
    refine k_iconst (v := (1 : Int32)) C dX6_isConstant_10 (by decide) ?_
    refine k_goto C 15 dX6_isConstant_11 (by decide) ?_
    cases hf
    exact K _ _ dX6_isConstant_15 (nar_b (Or.inr rfl))
theorem c6_isConstant {V : EV} {l : Launch} (hl0 : l.stackTraces = false) {ad : Nat → Nat} {top : TopS} {rd : RdS} {ra : Int32} {co : Nat → CoS} {mu : MuS} {fo : FoS} {ma : MaS} {mq : Nat} {mx : MxS} {tr_tK : Nat → Int32} {tr_tF : Nat → Int32} {tr_tS : Nat → Int32} {tr_tT : Nat → Int32} {tr_tO : Nat → Int32} {tr_tN : Nat → Int32} {tr_tc : Int32} {v1 : Int32} {res : Int32} (hf : f6_isConstant v1 (tr_tK, tr_tF, tr_tS, tr_tT, tr_tO, tr_tN, tr_tc) = some res) : MI V l yX6_isConstant cX6_isConstant 2 .boolean 0 0 [.ref (ad 26), .int v1] (wC V ad top rd ra co mu fo (tr_tK, tr_tF, tr_tS, tr_tT, tr_tO, tr_tN, tr_tc) ma mq mx) res (wC V ad top rd ra co mu fo (tr_tK, tr_tF, tr_tS, tr_tT, tr_tO, tr_tN, tr_tc) ma mq mx) :=
  mi_of hl0 (by decide +kernel) (Nat.le_of_ble_eq_true rfl) (fun p e R s m args below meth c Q A C K => b6_isConstant C hf K)

theorem cm6_53 : ∀ a ∈ wsCV RX6 53 RX6 yX6_isConstant cX6_isConstant 2 (some .boolean), a ∈ GW := by
  unfold wsCV
  exact (List.forall_mem_cons.mpr ⟨(gw_4 (i := 20) (by decide +kernel) rfl), (List.forall_mem_cons.mpr ⟨(gw_3 (i := 228) (by decide +kernel) rfl), (List.forall_mem_cons.mpr ⟨(gw_3 (i := 229) (by decide +kernel) rfl), (List.forall_mem_cons.mpr ⟨(gw_1 (i := 6) (by decide +kernel) rfl), (List.forall_mem_cons.mpr ⟨(gw_3 (i := 230) (by decide +kernel) rfl), (List.forall_mem_nil _)⟩)⟩)⟩)⟩)⟩)
theorem ok6_isNumber : okCV RX6 yX6_isNumber 2 := by unfold okCV; decide +kernel
def f6_isNumber (v1 : Int32) (v2 : Int32) : TrS → Option (Int32)
  | (tr_tK, tr_tF, tr_tS, tr_tT, tr_tO, tr_tN, tr_tc) =>
    (f6_isConstant v1 (tr_tK, tr_tF, tr_tS, tr_tT, tr_tO, tr_tN, tr_tc)).bind fun r_2 => if r_2 = 0 then some (0 : Int32) else if v1 < 0 ∨ 18755 ≤ v1.toNatClampNeg then none else if (tr_tF v1.toNatClampNeg) = v2 then some (1 : Int32) else some (0 : Int32)
set_option maxHeartbeats 4000000 in
set_option maxRecDepth 100000 in
theorem b6_isNumber {V : EV} {p : Program} {l : Launch} {e : Env} {R : Room} {s : State} {m : MethodId} {args : Array Value} {below : List Frame} {meth : Method} {c : Code} {Q : State → Prop} {A : Nat → Prop} {kc ks : Nat} {ad : Nat → Nat} {top : TopS} {rd : RdS} {ra : Int32} {co : Nat → CoS} {mu : MuS} {fo : FoS} {ma : MaS} {mq : Nat} {mx : MxS} {tr_tK : Nat → Int32} {tr_tF : Nat → Int32} {tr_tS : Nat → Int32} {tr_tT : Nat → Int32} {tr_tO : Nat → Int32} {tr_tN : Nat → Int32} {tr_tc : Int32} {v1 : Int32} {v2 : Int32} {res : Int32} (C : CX V p l R s m args c A kc ks RX6 cX6_isNumber 3 1 21) (hf : f6_isNumber v1 v2 (tr_tK, tr_tF, tr_tS, tr_tT, tr_tO, tr_tN, tr_tc) = some res) (K : RI V p l e R s m args below meth c Q A kc ks 3 cX6_isNumber .boolean res (wC V ad top rd ra co mu fo (tr_tK, tr_tF, tr_tS, tr_tT, tr_tO, tr_tN, tr_tc) ma mq mx)) : WC V p l e R s m args below meth c Q A kc ks 3 (wC V ad top rd ra co mu fo (tr_tK, tr_tF, tr_tS, tr_tT, tr_tO, tr_tN, tr_tc) ma mq mx) 0 [(0, .ref (ad 26)), (1, .int v1), (2, .int v2)] [] := by
  rw [f6_isNumber] at hf
  refine k_aload_n C dX6_isNumber_0 0 rfl ?_
  refine k_iload_n C dX6_isNumber_1 1 rfl ?_
  obtain ⟨r_2, hq_1, hf⟩ := ob_el hf
  refine k_callVi C (c6_isConstant C.2.2.2.2.2.2.2.2.2.1 hq_1) cm6_53 ok6_isConstant (by decide) 26 rfl rfl rfl rfl (Nat.le_of_ble_eq_true rfl) dX6_isNumber_2 ?_
  refine k_if_eq C 22 dX6_isNumber_5 (by decide) (fun hc => ?_) (fun hc => ?_)
  · replace hf := (if_pos hc).symm.trans hf
    refine k_iconst (v := (0 : Int32)) C dX6_isNumber_22 (by decide) ?_
    cases hf
    exact K _ _ dX6_isNumber_23 (nar_b (Or.inl rfl))
  · replace hf := (if_neg hc).symm.trans hf
    refine k_aload_n C dX6_isNumber_8 0 rfl ?_
    refine g6_17 C dX6_isNumber_9 ?_
    refine k_iload_n C dX6_isNumber_12 1 rfl ?_
    obtain ⟨hi, hf⟩ := gd_no hf
    refine lc28 C hi dX6_isNumber_13 ?_
    refine k_iload_n C dX6_isNumber_14 2 rfl ?_
    refine k_icmp_ne C 22 dX6_isNumber_15 (by decide) (fun hc => ?_) (fun hc => ?_)
    · replace hf := (if_neg hc).symm.trans hf
      refine k_iconst (v := (0 : Int32)) C dX6_isNumber_22 (by decide) ?_
      cases hf
      exact K _ _ dX6_isNumber_23 (nar_b (Or.inl rfl))
    · replace hf := (if_pos hc).symm.trans hf
      refine k_iconst (v := (1 : Int32)) C dX6_isNumber_18 (by decide) ?_
      refine k_goto C 23 dX6_isNumber_19 (by decide) ?_
      cases hf
      exact K _ _ dX6_isNumber_23 (nar_b (Or.inr rfl))
theorem c6_isNumber {V : EV} {l : Launch} (hl0 : l.stackTraces = false) {ad : Nat → Nat} {top : TopS} {rd : RdS} {ra : Int32} {co : Nat → CoS} {mu : MuS} {fo : FoS} {ma : MaS} {mq : Nat} {mx : MxS} {tr_tK : Nat → Int32} {tr_tF : Nat → Int32} {tr_tS : Nat → Int32} {tr_tT : Nat → Int32} {tr_tO : Nat → Int32} {tr_tN : Nat → Int32} {tr_tc : Int32} {v1 : Int32} {v2 : Int32} {res : Int32} (hf : f6_isNumber v1 v2 (tr_tK, tr_tF, tr_tS, tr_tT, tr_tO, tr_tN, tr_tc) = some res) : MI V l yX6_isNumber cX6_isNumber 3 .boolean 1 21 [.ref (ad 26), .int v1, .int v2] (wC V ad top rd ra co mu fo (tr_tK, tr_tF, tr_tS, tr_tT, tr_tO, tr_tN, tr_tc) ma mq mx) res (wC V ad top rd ra co mu fo (tr_tK, tr_tF, tr_tS, tr_tT, tr_tO, tr_tN, tr_tc) ma mq mx) :=
  mi_of hl0 (by decide +kernel) (Nat.le_of_ble_eq_true rfl) (fun p e R s m args below meth c Q A C K => b6_isNumber C hf K)

theorem cm6_36 : ∀ a ∈ wsCS RX6 36 yJ7_fill_53178 cJ7_fill_53178 4 none, a ∈ GW := by
  unfold wsCS
  exact (List.forall_mem_cons.mpr ⟨(gw_3 (i := 198) (by decide +kernel) rfl), (List.forall_mem_cons.mpr ⟨(gw_3 (i := 151) (by decide +kernel) rfl), (List.forall_mem_cons.mpr ⟨(gw_1 (i := 21) (by decide +kernel) rfl), (List.forall_mem_cons.mpr ⟨(gw_3 (i := 152) (by decide +kernel) rfl), (List.forall_mem_nil _)⟩)⟩)⟩)⟩)
theorem ok6_clear : okCV RX6 yX6_clear 0 := by unfold okCV; decide +kernel
def f6_clear  : TrS → Option (TrS)
  | (tr_tK, tr_tF, tr_tS, tr_tT, tr_tO, tr_tN, tr_tc) =>
    some (tr_tK, tr_tF, tr_tS, tr_tT, tr_tO, (fillF tr_tN 4096 (0 : Int32)), (4 : Int32))
set_option maxHeartbeats 4000000 in
set_option maxRecDepth 100000 in
theorem b6_clear {V : EV} {p : Program} {l : Launch} {e : Env} {R : Room} {s : State} {m : MethodId} {args : Array Value} {below : List Frame} {meth : Method} {c : Code} {Q : State → Prop} {A : Nat → Prop} {kc ks : Nat} {ad : Nat → Nat} {top : TopS} {rd : RdS} {ra : Int32} {co : Nat → CoS} {mu : MuS} {fo : FoS} {ma : MaS} {mq : Nat} {mx : MxS} {tr_tK : Nat → Int32} {tr_tF : Nat → Int32} {tr_tS : Nat → Int32} {tr_tT : Nat → Int32} {tr_tO : Nat → Int32} {tr_tN : Nat → Int32} {tr_tc : Int32} {res : TrS} (C : CX V p l R s m args c A kc ks RX6 cX6_clear 1 1 23) (hf : f6_clear (tr_tK, tr_tF, tr_tS, tr_tT, tr_tO, tr_tN, tr_tc) = some res) (K : RV V p l e R s m args below meth c Q A kc ks 1 cX6_clear (wC V ad top rd ra co mu fo res ma mq mx)) : WC V p l e R s m args below meth c Q A kc ks 1 (wC V ad top rd ra co mu fo (tr_tK, tr_tF, tr_tS, tr_tT, tr_tO, tr_tN, tr_tc) ma mq mx) 0 [(0, .ref (ad 26))] [] := by
  rw [f6_clear] at hf
  refine k_aload_n C dX6_clear_0 0 rfl ?_
  refine g6_29 C dX6_clear_1 ?_
  refine k_iconst (v := (0 : Int32)) C dX6_clear_4 (by decide) ?_
  refine k_fill (w' := (wC V ad top rd ra co mu fo (tr_tK, tr_tF, tr_tS, tr_tT, tr_tO, (fillF tr_tN 4096 (0 : Int32)), tr_tc) ma mq mx)) C 32 (by decide) rfl rfl cm6_36 (by decide) (Nat.le_of_ble_eq_true rfl) dX6_clear_5 ?_
  refine k_aload_n C dX6_clear_8 0 rfl ?_
  refine k_iconst (v := (4 : Int32)) C dX6_clear_9 (by decide) ?_
  refine p6_32 C dX6_clear_10 ?_
  cases hf
  exact K _ _ dX6_clear_13
theorem c6_clear {V : EV} {l : Launch} (hl0 : l.stackTraces = false) {ad : Nat → Nat} {top : TopS} {rd : RdS} {ra : Int32} {co : Nat → CoS} {mu : MuS} {fo : FoS} {ma : MaS} {mq : Nat} {mx : MxS} {tr_tK : Nat → Int32} {tr_tF : Nat → Int32} {tr_tS : Nat → Int32} {tr_tT : Nat → Int32} {tr_tO : Nat → Int32} {tr_tN : Nat → Int32} {tr_tc : Int32} {res : TrS} (hf : f6_clear (tr_tK, tr_tF, tr_tS, tr_tT, tr_tO, tr_tN, tr_tc) = some res) : MV V l yX6_clear cX6_clear 1 1 23 [.ref (ad 26)] (wC V ad top rd ra co mu fo (tr_tK, tr_tF, tr_tS, tr_tT, tr_tO, tr_tN, tr_tc) ma mq mx) (wC V ad top rd ra co mu fo res ma mq mx) :=
  mv_of hl0 (by decide +kernel) (Nat.le_of_ble_eq_true rfl) (fun p e R s m args below meth c Q A C K => b6_clear C hf K)

