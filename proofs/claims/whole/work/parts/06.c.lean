theorem ok4_add : okCV RX4 yX4_add 3 := by unfold okCV; decide +kernel
def f4_add (v1 : Int32) (v2 : Int32) (v3 : Int32) : MuS → Option (MuS)
  | (mu_mS, mu_mK, mu_mI, mu_mC, mu_mc, mu_mA) =>
    if (120 : Int32) ≤ mu_mc then some (mu_mS, mu_mK, mu_mI, mu_mC, mu_mc, mu_mA) else if (mu_mc + (1 : Int32)) < 0 ∨ 121 ≤ (mu_mc + (1 : Int32)).toNatClampNeg then none else if (mu_mc + (1 : Int32)) < 0 ∨ 121 ≤ (mu_mc + (1 : Int32)).toNatClampNeg then none else if (mu_mc + (1 : Int32)) < 0 ∨ 121 ≤ (mu_mc + (1 : Int32)).toNatClampNeg then none else some ((upd mu_mS (mu_mc + (1 : Int32)).toNatClampNeg v1), (upd mu_mK (mu_mc + (1 : Int32)).toNatClampNeg v2), (upd mu_mI (mu_mc + (1 : Int32)).toNatClampNeg v3), mu_mC, (mu_mc + (1 : Int32)), mu_mA)
set_option maxHeartbeats 4000000 in
set_option maxRecDepth 100000 in
theorem b4_add {V : EV} {p : Program} {l : Launch} {e : Env} {R : Room} {s : State} {m : MethodId} {args : Array Value} {below : List Frame} {meth : Method} {c : Code} {Q : State → Prop} {A : Nat → Prop} {kc ks : Nat} {ad : Nat → Nat} {top : TopS} {rd : RdS} {ra : Int32} {co : Nat → CoS} {fo : FoS} {tr : TrS} {ma : MaS} {mq : Nat} {mx : MxS} {v1 : Int32} {v2 : Int32} {v3 : Int32} {mu_mS : Nat → Int32} {mu_mK : Nat → Int32} {mu_mI : Nat → Int32} {mu_mC : Nat → Int32} {mu_mc : Int32} {mu_mA : Nat → Int32} {res : MuS} (C : CX V p l R s m args c A kc ks RX4 cX4_add 4 0 0) (hf : f4_add v1 v2 v3 (mu_mS, mu_mK, mu_mI, mu_mC, mu_mc, mu_mA) = some res) (K : RV V p l e R s m args below meth c Q A kc ks 4 cX4_add (wC V ad top rd ra co res fo tr ma mq mx)) : WC V p l e R s m args below meth c Q A kc ks 4 (wC V ad top rd ra co (mu_mS, mu_mK, mu_mI, mu_mC, mu_mc, mu_mA) fo tr ma mq mx) 0 [(0, .ref (ad 19)), (1, .int v1), (2, .int v2), (3, .int v3)] [] := by
  rw [f4_add] at hf
  refine k_aload_n C dX4_add_0 0 rfl ?_
  refine g4_24 C dX4_add_1 ?_
  refine k_bipush (v := (120 : Int32)) C dX4_add_4 (by decide) ?_
  refine k_icmp_ge C 49 dX4_add_6 (by decide) (fun hc => ?_) (fun hc => ?_)
  · replace hf := (if_pos hc).symm.trans hf
    cases hf
    exact K _ _ dX4_add_49
  · replace hf := (if_neg hc).symm.trans hf
    refine k_aload_n C dX4_add_9 0 rfl ?_
    refine k_dup C dX4_add_10 rfl ?_
    refine g4_24 C dX4_add_11 ?_
    refine k_iconst (v := (1 : Int32)) C dX4_add_14 (by decide) ?_
    refine k_iadd C dX4_add_15 ?_
    refine p4_24 C dX4_add_16 ?_
    refine k_aload_n C dX4_add_19 0 rfl ?_
    refine g4_9 C dX4_add_20 ?_
    refine k_aload_n C dX4_add_23 0 rfl ?_
    refine g4_24 C dX4_add_24 ?_
    refine k_iload_n C dX4_add_27 1 rfl ?_
    obtain ⟨hi, hf⟩ := gd_no hf
    refine sc20 C hi dX4_add_28 ?_
    refine k_aload_n C dX4_add_29 0 rfl ?_
    refine g4_15 C dX4_add_30 ?_
    refine k_aload_n C dX4_add_33 0 rfl ?_
    refine g4_24 C dX4_add_34 ?_
    refine k_iload_n C dX4_add_37 2 rfl ?_
    obtain ⟨hi, hf⟩ := gd_no hf
    refine sc21 C hi dX4_add_38 ?_
    refine k_aload_n C dX4_add_39 0 rfl ?_
    refine g4_18 C dX4_add_40 ?_
    refine k_aload_n C dX4_add_43 0 rfl ?_
    refine g4_24 C dX4_add_44 ?_
    refine k_iload_n C dX4_add_47 3 rfl ?_
    obtain ⟨hi, hf⟩ := gd_no hf
    refine sc22 C hi dX4_add_48 ?_
    cases hf
    exact K _ _ dX4_add_49
theorem c4_add {V : EV} {l : Launch} (hl0 : l.stackTraces = false) {ad : Nat → Nat} {top : TopS} {rd : RdS} {ra : Int32} {co : Nat → CoS} {fo : FoS} {tr : TrS} {ma : MaS} {mq : Nat} {mx : MxS} {v1 : Int32} {v2 : Int32} {v3 : Int32} {mu_mS : Nat → Int32} {mu_mK : Nat → Int32} {mu_mI : Nat → Int32} {mu_mC : Nat → Int32} {mu_mc : Int32} {mu_mA : Nat → Int32} {res : MuS} (hf : f4_add v1 v2 v3 (mu_mS, mu_mK, mu_mI, mu_mC, mu_mc, mu_mA) = some res) : MV V l yX4_add cX4_add 4 0 0 [.ref (ad 19), .int v1, .int v2, .int v3] (wC V ad top rd ra co (mu_mS, mu_mK, mu_mI, mu_mC, mu_mc, mu_mA) fo tr ma mq mx) (wC V ad top rd ra co res fo tr ma mq mx) :=
  mv_of hl0 (by decide +kernel) (Nat.le_of_ble_eq_true rfl) (fun p e R s m args below meth c Q A C K => b4_add C hf K)

theorem cm4_73 : ∀ a ∈ wsCV RX4 73 RX4 yX4_add cX4_add 4 none, a ∈ GW := by
  unfold wsCV
  exact (List.forall_mem_cons.mpr ⟨(gw_3 (i := 184) (by decide +kernel) rfl), (List.forall_mem_cons.mpr ⟨(gw_3 (i := 186) (by decide +kernel) rfl), (List.forall_mem_cons.mpr ⟨(gw_p (q := ((yX4_add, 6) : MethodName × Nat)) (List.mem_append_right _ (List.mem_append_left _ (List.mem_of_getElem? (i := 11) (by decide +kernel)))) rfl), (List.forall_mem_cons.mpr ⟨(gw_1 (i := 4) (by decide +kernel) rfl), (List.forall_mem_cons.mpr ⟨(gw_3 (i := 187) (by decide +kernel) rfl), (List.forall_mem_nil _)⟩)⟩)⟩)⟩)⟩)
theorem cm4_76 : ∀ a ∈ wsCV RX4 76 "java/lang/String" yJ0_length_8abf5 cJ0_length_8abf5 1 (some .int), a ∈ GW := by
  unfold wsCV
  exact (List.forall_mem_cons.mpr ⟨(gw_3 (i := 163) (by decide +kernel) rfl), (List.forall_mem_cons.mpr ⟨(gw_3 (i := 14) (by decide +kernel) rfl), (List.forall_mem_cons.mpr ⟨(gw_3 (i := 15) (by decide +kernel) rfl), (List.forall_mem_cons.mpr ⟨(gw_1 (i := 14) (by decide +kernel) rfl), (List.forall_mem_cons.mpr ⟨(gw_3 (i := 16) (by decide +kernel) rfl), (List.forall_mem_nil _)⟩)⟩)⟩)⟩)⟩)
theorem cm4_82 : ∀ a ∈ wsCV RX4 82 "java/lang/String" yJ0_charAt_5068e cJ0_charAt_5068e 2 (some .char), a ∈ GW := by
  unfold wsCV
  exact (List.forall_mem_cons.mpr ⟨(gw_3 (i := 164) (by decide +kernel) rfl), (List.forall_mem_cons.mpr ⟨(gw_3 (i := 165) (by decide +kernel) rfl), (List.forall_mem_cons.mpr ⟨(gw_3 (i := 166) (by decide +kernel) rfl), (List.forall_mem_cons.mpr ⟨(gw_1 (i := 14) (by decide +kernel) rfl), (List.forall_mem_cons.mpr ⟨(gw_3 (i := 167) (by decide +kernel) rfl), (List.forall_mem_nil _)⟩)⟩)⟩)⟩)⟩)
theorem ok4_listOthers : okCV RX4 yX4_listOthers 4 := by unfold okCV; decide +kernel
def f4_listOthers_L3 (k41 : MuS → Option (MuS)) (N : Nat) (sj : Nat)  : Nat → Int32 → Int32 → Int32 → Int32 → MuS → Option (MuS)
  | 0, _, _, _, _, _ => none
  | n + 1, x1, x2, x4, x5, (mu_mS, mu_mK, mu_mI, mu_mC, mu_mc, mu_mA) =>
    if (strLen sj) ≤ x5 then k41 (mu_mS, mu_mK, mu_mI, mu_mC, mu_mc, mu_mA) else if x5 < 0 ∨ lenJ.getD sj 0 ≤ x5.toNatClampNeg then none else if (strAt sj x5) = x4 then nm_v (x5 + (1 : Int32)) (fun v5_1 => f4_listOthers_L3 k41 N sj n x1 x2 x4 v5_1 (mu_mS, mu_mK, mu_mI, mu_mC, mu_mc, mu_mA)) else if x5 < 0 ∨ lenJ.getD sj 0 ≤ x5.toNatClampNeg then none else (f4_add x1 x2 (strAt sj x5) (mu_mS, mu_mK, mu_mI, mu_mC, mu_mc, mu_mA)).bind fun (mu_mS_3, mu_mK_4, mu_mI_5, mu_mC_6, mu_mc_7, mu_mA_8) => nm_v (x5 + (1 : Int32)) (fun v5_9 => f4_listOthers_L3 k41 N sj n x1 x2 x4 v5_9 (mu_mS_3, mu_mK_4, mu_mI_5, mu_mC_6, mu_mc_7, mu_mA_8))
def f4_listOthers (N : Nat) (v1 : Int32) (v2 : Int32) (sj : Nat) (v4 : Int32) : MuS → Option (MuS)
  | (mu_mS, mu_mK, mu_mI, mu_mC, mu_mc, mu_mA) =>
    f4_listOthers_L3 (fun (mu_mS_10, mu_mK_10, mu_mI_10, mu_mC_10, mu_mc_10, mu_mA_10) => some (mu_mS_10, mu_mK_10, mu_mI_10, mu_mC_10, mu_mc_10, mu_mA_10)) N sj N v1 v2 v4 (0 : Int32) (mu_mS, mu_mK, mu_mI, mu_mC, mu_mc, mu_mA)
set_option maxHeartbeats 4000000 in
set_option maxRecDepth 100000 in
theorem w4_listOthers_L3 {V : EV} {p : Program} {l : Launch} {e : Env} {R : Room} {s : State} {m : MethodId} {args : Array Value} {below : List Frame} {meth : Method} {c : Code} {Q : State → Prop} {A : Nat → Prop} {kc ks : Nat} {ad : Nat → Nat} {top : TopS} {rd : RdS} {ra : Int32} {co : Nat → CoS} {fo : FoS} {tr : TrS} {ma : MaS} {mq : Nat} {mx : MxS} {sj : Nat} {k41 : MuS → Option (MuS)} {N : Nat} {res : MuS} (C : CX V p l R s m args c A kc ks RX4 cX4_listOthers 6 5 151) (hs : sj < 6) (K : RV V p l e R s m args below meth c Q A kc ks 6 cX4_listOthers (wC V ad top rd ra co res fo tr ma mq mx)) (hk41 : ∀  (mu_mS : Nat → Int32) (mu_mK : Nat → Int32) (mu_mI : Nat → Int32) (mu_mC : Nat → Int32) (mu_mc : Int32) (mu_mA : Nat → Int32), k41 (mu_mS, mu_mK, mu_mI, mu_mC, mu_mc, mu_mA) = some res → WC V p l e R s m args below meth c Q A kc ks 6 (wC V ad top rd ra co (mu_mS, mu_mK, mu_mI, mu_mC, mu_mc, mu_mA) fo tr ma mq mx) 41 [] []) : ∀ (n : Nat) (x1 : Int32) (x2 : Int32) (x4 : Int32) (x5 : Int32) (mu_mS : Nat → Int32) (mu_mK : Nat → Int32) (mu_mI : Nat → Int32) (mu_mC : Nat → Int32) (mu_mc : Int32) (mu_mA : Nat → Int32), f4_listOthers_L3 k41 N sj n x1 x2 x4 x5 (mu_mS, mu_mK, mu_mI, mu_mC, mu_mc, mu_mA) = some res → WC V p l e R s m args below meth c Q A kc ks 6 (wC V ad top rd ra co (mu_mS, mu_mK, mu_mI, mu_mC, mu_mc, mu_mA) fo tr ma mq mx) 3 [(0, .ref (ad 19)), (1, .int x1), (2, .int x2), (3, .ref (V.2.2.1 sj)), (4, .int x4), (5, .int x5)] [] := by
  intro n
  induction n with
  | zero => intro _ _ _ _ _ _ _ _ _ _ hf; exact nomatch (show none = some res from hf)
  | succ n ih =>
    intro x1 x2 x4 x5 mu_mS mu_mK mu_mI mu_mC mu_mc mu_mA hf
    rw [f4_listOthers_L3] at hf
    refine k_iload C dX4_listOthers_3 5 rfl ?_
    refine k_aload_n C dX4_listOthers_5 3 rfl ?_
    refine k_strLen C hs cm4_76 (by decide) (Nat.le_of_ble_eq_true rfl) dX4_listOthers_6 ?_
    refine k_icmp_ge C 41 dX4_listOthers_9 (by decide) (fun hc => ?_) (fun hc => ?_)
    · replace hf := (if_pos hc).symm.trans hf
      refine k_sub [] (L' := []) rfl ?_
      exact hk41 _ _ _ _ _ _ hf
    · replace hf := (if_neg hc).symm.trans hf
      refine k_aload_n C dX4_listOthers_12 3 rfl ?_
      refine k_iload C dX4_listOthers_13 5 rfl ?_
      obtain ⟨hi, hf⟩ := gd_no hf
      refine k_strAt C hs hi cm4_82 (by decide) (Nat.le_of_ble_eq_true rfl) dX4_listOthers_15 ?_
      refine k_iload C dX4_listOthers_18 4 rfl ?_
      refine k_icmp_eq C 35 dX4_listOthers_20 (by decide) (fun hc => ?_) (fun hc => ?_)
      · replace hf := (if_pos hc).symm.trans hf
        obtain ⟨v5_1, ev5_1⟩ : ∃ y : Int32, y = x5 + (1 : Int32) := ⟨_, rfl⟩
        replace hf := nm_el hf ev5_1
        refine k_iinc (v := v5_1) C dX4_listOthers_35 5 rfl (by rw [ev5_1]; rfl) [(5, .int v5_1), (0, .ref (ad 19)), (1, .int x1), (2, .int x2), (3, .ref (V.2.2.1 sj)), (4, .int x4)] (by decide) rfl ?_
        refine k_goto C 3 dX4_listOthers_38 (by decide) ?_
        refine k_sub [1, 2, 3, 4, 5, 0] (L' := [(0, .ref (ad 19)), (1, .int x1), (2, .int x2), (3, .ref (V.2.2.1 sj)), (4, .int x4), (5, .int v5_1)]) rfl ?_
        exact ih _ _ _ _ _ _ _ _ _ _ hf
      · replace hf := (if_neg hc).symm.trans hf
        refine k_aload_n C dX4_listOthers_23 0 rfl ?_
        refine k_iload_n C dX4_listOthers_24 1 rfl ?_
        refine k_iload_n C dX4_listOthers_25 2 rfl ?_
        refine k_aload_n C dX4_listOthers_26 3 rfl ?_
        refine k_iload C dX4_listOthers_27 5 rfl ?_
        obtain ⟨hi, hf⟩ := gd_no hf
        refine k_strAt C hs hi cm4_82 (by decide) (Nat.le_of_ble_eq_true rfl) dX4_listOthers_29 ?_
        obtain ⟨⟨mu_mS_3, mu_mK_4, mu_mI_5, mu_mC_6, mu_mc_7, mu_mA_8⟩, hq_2, hf⟩ := ob_el hf
        dsimp only at hf
        refine k_callVv C (c4_add C.2.2.2.2.2.2.2.2.2.1 hq_2) cm4_73 ok4_add (by decide) 19 rfl rfl rfl rfl (Nat.le_of_ble_eq_true rfl) dX4_listOthers_32 ?_
        obtain ⟨v5_9, ev5_9⟩ : ∃ y : Int32, y = x5 + (1 : Int32) := ⟨_, rfl⟩
        replace hf := nm_el hf ev5_9
        refine k_iinc (v := v5_9) C dX4_listOthers_35 5 rfl (by rw [ev5_9]; rfl) [(5, .int v5_9), (0, .ref (ad 19)), (1, .int x1), (2, .int x2), (3, .ref (V.2.2.1 sj)), (4, .int x4)] (by decide) rfl ?_
        refine k_goto C 3 dX4_listOthers_38 (by decide) ?_
        refine k_sub [1, 2, 3, 4, 5, 0] (L' := [(0, .ref (ad 19)), (1, .int x1), (2, .int x2), (3, .ref (V.2.2.1 sj)), (4, .int x4), (5, .int v5_9)]) rfl ?_
        exact ih _ _ _ _ _ _ _ _ _ _ hf
set_option maxHeartbeats 4000000 in
set_option maxRecDepth 100000 in
theorem b4_listOthers {V : EV} {p : Program} {l : Launch} {e : Env} {R : Room} {s : State} {m : MethodId} {args : Array Value} {below : List Frame} {meth : Method} {c : Code} {Q : State → Prop} {A : Nat → Prop} {kc ks : Nat} {ad : Nat → Nat} {top : TopS} {rd : RdS} {ra : Int32} {co : Nat → CoS} {fo : FoS} {tr : TrS} {ma : MaS} {mq : Nat} {mx : MxS} {v1 : Int32} {v2 : Int32} {sj : Nat} {v4 : Int32} {mu_mS : Nat → Int32} {mu_mK : Nat → Int32} {mu_mI : Nat → Int32} {mu_mC : Nat → Int32} {mu_mc : Int32} {mu_mA : Nat → Int32} {N : Nat} {res : MuS} (C : CX V p l R s m args c A kc ks RX4 cX4_listOthers 6 5 151) (hs : sj < 6) (hf : f4_listOthers N v1 v2 sj v4 (mu_mS, mu_mK, mu_mI, mu_mC, mu_mc, mu_mA) = some res) (K : RV V p l e R s m args below meth c Q A kc ks 6 cX4_listOthers (wC V ad top rd ra co res fo tr ma mq mx)) : WC V p l e R s m args below meth c Q A kc ks 6 (wC V ad top rd ra co (mu_mS, mu_mK, mu_mI, mu_mC, mu_mc, mu_mA) fo tr ma mq mx) 0 [(0, .ref (ad 19)), (1, .int v1), (2, .int v2), (3, .ref (V.2.2.1 sj)), (4, .int v4)] [] := by
  rw [f4_listOthers] at hf
  refine k_iconst (v := (0 : Int32)) C dX4_listOthers_0 (by decide) ?_
  refine k_istore C dX4_listOthers_1 [(5, .int (0 : Int32)), (0, .ref (ad 19)), (1, .int v1), (2, .int v2), (3, .ref (V.2.2.1 sj)), (4, .int v4)] (by decide) rfl ?_
  refine k_sub [1, 2, 3, 4, 5, 0] (L' := [(0, .ref (ad 19)), (1, .int v1), (2, .int v2), (3, .ref (V.2.2.1 sj)), (4, .int v4), (5, .int (0 : Int32))]) rfl ?_
  refine w4_listOthers_L3 C hs K ?_ _ _ _ _ _ _ _ _ _ _ _ hf
  · intro mu_mS_10 mu_mK_10 mu_mI_10 mu_mC_10 mu_mc_10 mu_mA_10 hf
    try dsimp only at hf
    cases hf
    exact K _ _ dX4_listOthers_41
theorem c4_listOthers {V : EV} {l : Launch} (hl0 : l.stackTraces = false) {ad : Nat → Nat} {top : TopS} {rd : RdS} {ra : Int32} {co : Nat → CoS} {fo : FoS} {tr : TrS} {ma : MaS} {mq : Nat} {mx : MxS} {v1 : Int32} {v2 : Int32} {sj : Nat} {v4 : Int32} {mu_mS : Nat → Int32} {mu_mK : Nat → Int32} {mu_mI : Nat → Int32} {mu_mC : Nat → Int32} {mu_mc : Int32} {mu_mA : Nat → Int32} {N : Nat} {res : MuS} (hs : sj < 6) (hf : f4_listOthers N v1 v2 sj v4 (mu_mS, mu_mK, mu_mI, mu_mC, mu_mc, mu_mA) = some res) : MV V l yX4_listOthers cX4_listOthers 6 5 151 [.ref (ad 19), .int v1, .int v2, .ref (V.2.2.1 sj), .int v4] (wC V ad top rd ra co (mu_mS, mu_mK, mu_mI, mu_mC, mu_mc, mu_mA) fo tr ma mq mx) (wC V ad top rd ra co res fo tr ma mq mx) :=
  mv_of hl0 (by decide +kernel) (Nat.le_of_ble_eq_true rfl) (fun p e R s m args below meth c Q A C K => b4_listOthers C hs hf K)

theorem cm4_65 : ∀ a ∈ wsCV RX4 65 RX4 yX4_listOthers cX4_listOthers 6 none, a ∈ GW := by
  unfold wsCV
  exact (List.forall_mem_cons.mpr ⟨(gw_3 (i := 159) (by decide +kernel) rfl), (List.forall_mem_cons.mpr ⟨(gw_3 (i := 161) (by decide +kernel) rfl), (List.forall_mem_cons.mpr ⟨(gw_p (q := ((yX4_listOthers, 6) : MethodName × Nat)) (List.mem_append_right _ (List.mem_append_left _ (List.mem_of_getElem? (i := 10) (by decide +kernel)))) rfl), (List.forall_mem_cons.mpr ⟨(gw_1 (i := 4) (by decide +kernel) rfl), (List.forall_mem_cons.mpr ⟨(gw_3 (i := 162) (by decide +kernel) rfl), (List.forall_mem_nil _)⟩)⟩)⟩)⟩)⟩)
theorem ok4_listSite : okCV RX4 yX4_listSite 3 := by unfold okCV; decide +kernel
def f4_listSite (N : Nat) (v1 : Int32) (v2 : Int32) (v3 : Int32) : MuS → Option (MuS)
  | (mu_mS, mu_mK, mu_mI, mu_mC, mu_mc, mu_mA) =>
    if v2 = (0 : Int32) then (f4_listOthers N v1 v2 0 v3 (mu_mS, mu_mK, mu_mI, mu_mC, mu_mc, mu_mA)).bind fun (mu_mS_9, mu_mK_10, mu_mI_11, mu_mC_12, mu_mc_13, mu_mA_14) => some (mu_mS_9, mu_mK_10, mu_mI_11, mu_mC_12, mu_mc_13, mu_mA_14) else if v2 = (1 : Int32) then (f4_listOthers N v1 v2 1 v3 (mu_mS, mu_mK, mu_mI, mu_mC, mu_mc, mu_mA)).bind fun (mu_mS_16, mu_mK_17, mu_mI_18, mu_mC_19, mu_mc_20, mu_mA_21) => some (mu_mS_16, mu_mK_17, mu_mI_18, mu_mC_19, mu_mc_20, mu_mA_21) else if v2 = (2 : Int32) then (f4_listOthers N v1 v2 2 v3 (mu_mS, mu_mK, mu_mI, mu_mC, mu_mc, mu_mA)).bind fun (mu_mS_23, mu_mK_24, mu_mI_25, mu_mC_26, mu_mc_27, mu_mA_28) => some (mu_mS_23, mu_mK_24, mu_mI_25, mu_mC_26, mu_mc_27, mu_mA_28) else if v2 = (3 : Int32) then (f4_add v1 v2 (v3 + (1 : Int32)) (mu_mS, mu_mK, mu_mI, mu_mC, mu_mc, mu_mA)).bind fun (mu_mS_30, mu_mK_31, mu_mI_32, mu_mC_33, mu_mc_34, mu_mA_35) => (f4_add v1 v2 (v3 - (1 : Int32)) (mu_mS_30, mu_mK_31, mu_mI_32, mu_mC_33, mu_mc_34, mu_mA_35)).bind fun (mu_mS_37, mu_mK_38, mu_mI_39, mu_mC_40, mu_mc_41, mu_mA_42) => some (mu_mS_37, mu_mK_38, mu_mI_39, mu_mC_40, mu_mc_41, mu_mA_42) else (f4_add v1 v2 (0 : Int32) (mu_mS, mu_mK, mu_mI, mu_mC, mu_mc, mu_mA)).bind fun (mu_mS_2, mu_mK_3, mu_mI_4, mu_mC_5, mu_mc_6, mu_mA_7) => some (mu_mS_2, mu_mK_3, mu_mI_4, mu_mC_5, mu_mc_6, mu_mA_7)
set_option maxHeartbeats 4000000 in
set_option maxRecDepth 100000 in
theorem b4_listSite {V : EV} {p : Program} {l : Launch} {e : Env} {R : Room} {s : State} {m : MethodId} {args : Array Value} {below : List Frame} {meth : Method} {c : Code} {Q : State → Prop} {A : Nat → Prop} {kc ks : Nat} {ad : Nat → Nat} {top : TopS} {rd : RdS} {ra : Int32} {co : Nat → CoS} {fo : FoS} {tr : TrS} {ma : MaS} {mq : Nat} {mx : MxS} {v1 : Int32} {v2 : Int32} {v3 : Int32} {mu_mS : Nat → Int32} {mu_mK : Nat → Int32} {mu_mI : Nat → Int32} {mu_mC : Nat → Int32} {mu_mc : Int32} {mu_mA : Nat → Int32} {N : Nat} {res : MuS} (C : CX V p l R s m args c A kc ks RX4 cX4_listSite 4 6 176) (hf : f4_listSite N v1 v2 v3 (mu_mS, mu_mK, mu_mI, mu_mC, mu_mc, mu_mA) = some res) (K : RV V p l e R s m args below meth c Q A kc ks 4 cX4_listSite (wC V ad top rd ra co res fo tr ma mq mx)) : WC V p l e R s m args below meth c Q A kc ks 4 (wC V ad top rd ra co (mu_mS, mu_mK, mu_mI, mu_mC, mu_mc, mu_mA) fo tr ma mq mx) 0 [(0, .ref (ad 19)), (1, .int v1), (2, .int v2), (3, .int v3)] [] := by
  rw [f4_listSite] at hf
  refine k_iload_n C dX4_listSite_0 2 rfl ?_
  have hx0 : ∀ n : Int32, v2 = n → v2.toInt = n.toInt := fun n h => by rw [h]
  by_cases hc : v2 = (0 : Int32)
  · replace hf := (if_pos hc).symm.trans hf
    refine k_tableIn C 32 dX4_listSite_1 (by rw [hx0 _ hc]; decide) (by rw [hx0 _ hc]; decide) (by rw [hx0 _ hc]; rfl) (by decide) ?_
    refine k_aload_n C dX4_listSite_32 0 rfl ?_
    refine k_iload_n C dX4_listSite_33 1 rfl ?_
    refine k_iload_n C dX4_listSite_34 2 rfl ?_
    refine k_ldcS (tx := "+-*/%") (j := 0) C (by decide +kernel) dX4_listSite_35 ?_
    refine k_iload_n C dX4_listSite_37 3 rfl ?_
    obtain ⟨⟨mu_mS_9, mu_mK_10, mu_mI_11, mu_mC_12, mu_mc_13, mu_mA_14⟩, hq_8, hf⟩ := ob_el hf
    dsimp only at hf
    refine k_callVv C (c4_listOthers C.2.2.2.2.2.2.2.2.2.1 (by decide) hq_8) cm4_65 ok4_listOthers (by decide) 19 rfl rfl rfl rfl (Nat.le_of_ble_eq_true rfl) dX4_listSite_38 ?_
    refine k_goto C 96 dX4_listSite_41 (by decide) ?_
    cases hf
    exact K _ _ dX4_listSite_96
  replace hf := (if_neg hc).symm.trans hf
  have hn0 := sw_ne hc
  by_cases hc : v2 = (1 : Int32)
  · replace hf := (if_pos hc).symm.trans hf
    refine k_tableIn C 44 dX4_listSite_1 (by rw [hx0 _ hc]; decide) (by rw [hx0 _ hc]; decide) (by rw [hx0 _ hc]; rfl) (by decide) ?_
    refine k_aload_n C dX4_listSite_44 0 rfl ?_
    refine k_iload_n C dX4_listSite_45 1 rfl ?_
    refine k_iload_n C dX4_listSite_46 2 rfl ?_
    refine k_ldcS (tx := "<>=#") (j := 1) C (by decide +kernel) dX4_listSite_47 ?_
    refine k_iload_n C dX4_listSite_49 3 rfl ?_
    obtain ⟨⟨mu_mS_16, mu_mK_17, mu_mI_18, mu_mC_19, mu_mc_20, mu_mA_21⟩, hq_15, hf⟩ := ob_el hf
    dsimp only at hf
    refine k_callVv C (c4_listOthers C.2.2.2.2.2.2.2.2.2.1 (by decide) hq_15) cm4_65 ok4_listOthers (by decide) 19 rfl rfl rfl rfl (Nat.le_of_ble_eq_true rfl) dX4_listSite_50 ?_
    refine k_goto C 96 dX4_listSite_53 (by decide) ?_
    cases hf
    exact K _ _ dX4_listSite_96
  replace hf := (if_neg hc).symm.trans hf
  have hn1 := sw_ne hc
  by_cases hc : v2 = (2 : Int32)
  · replace hf := (if_pos hc).symm.trans hf
    refine k_tableIn C 56 dX4_listSite_1 (by rw [hx0 _ hc]; decide) (by rw [hx0 _ hc]; decide) (by rw [hx0 _ hc]; rfl) (by decide) ?_
    refine k_aload_n C dX4_listSite_56 0 rfl ?_
    refine k_iload_n C dX4_listSite_57 1 rfl ?_
    refine k_iload_n C dX4_listSite_58 2 rfl ?_
    refine k_ldcS (tx := "&|") (j := 2) C (by decide +kernel) dX4_listSite_59 ?_
    refine k_iload_n C dX4_listSite_61 3 rfl ?_
    obtain ⟨⟨mu_mS_23, mu_mK_24, mu_mI_25, mu_mC_26, mu_mc_27, mu_mA_28⟩, hq_22, hf⟩ := ob_el hf
    dsimp only at hf
    refine k_callVv C (c4_listOthers C.2.2.2.2.2.2.2.2.2.1 (by decide) hq_22) cm4_65 ok4_listOthers (by decide) 19 rfl rfl rfl rfl (Nat.le_of_ble_eq_true rfl) dX4_listSite_62 ?_
    refine k_goto C 96 dX4_listSite_65 (by decide) ?_
    cases hf
    exact K _ _ dX4_listSite_96
  replace hf := (if_neg hc).symm.trans hf
  have hn2 := sw_ne hc
  by_cases hc : v2 = (3 : Int32)
  · replace hf := (if_pos hc).symm.trans hf
    refine k_tableIn C 68 dX4_listSite_1 (by rw [hx0 _ hc]; decide) (by rw [hx0 _ hc]; decide) (by rw [hx0 _ hc]; rfl) (by decide) ?_
    refine k_aload_n C dX4_listSite_68 0 rfl ?_
    refine k_iload_n C dX4_listSite_69 1 rfl ?_
    refine k_iload_n C dX4_listSite_70 2 rfl ?_
    refine k_iload_n C dX4_listSite_71 3 rfl ?_
    refine k_iconst (v := (1 : Int32)) C dX4_listSite_72 (by decide) ?_
    refine k_iadd C dX4_listSite_73 ?_
    obtain ⟨⟨mu_mS_30, mu_mK_31, mu_mI_32, mu_mC_33, mu_mc_34, mu_mA_35⟩, hq_29, hf⟩ := ob_el hf
    dsimp only at hf
    refine k_callVv C (c4_add C.2.2.2.2.2.2.2.2.2.1 hq_29) cm4_73 ok4_add (by decide) 19 rfl rfl rfl rfl (Nat.le_of_ble_eq_true rfl) dX4_listSite_74 ?_
    refine k_aload_n C dX4_listSite_77 0 rfl ?_
    refine k_iload_n C dX4_listSite_78 1 rfl ?_
    refine k_iload_n C dX4_listSite_79 2 rfl ?_
    refine k_iload_n C dX4_listSite_80 3 rfl ?_
    refine k_iconst (v := (1 : Int32)) C dX4_listSite_81 (by decide) ?_
    refine k_isub C dX4_listSite_82 ?_
    obtain ⟨⟨mu_mS_37, mu_mK_38, mu_mI_39, mu_mC_40, mu_mc_41, mu_mA_42⟩, hq_36, hf⟩ := ob_el hf
    dsimp only at hf
    refine k_callVv C (c4_add C.2.2.2.2.2.2.2.2.2.1 hq_36) cm4_73 ok4_add (by decide) 19 rfl rfl rfl rfl (Nat.le_of_ble_eq_true rfl) dX4_listSite_83 ?_
    refine k_goto C 96 dX4_listSite_86 (by decide) ?_
    cases hf
    exact K _ _ dX4_listSite_96
  replace hf := (if_neg hc).symm.trans hf
  have hn3 := sw_ne hc
  have kd_43 : WC V p l e R s m args below meth c Q A kc ks 4 (wC V ad top rd ra co (mu_mS, mu_mK, mu_mI, mu_mC, mu_mc, mu_mA) fo tr ma mq mx) 89 [(0, .ref (ad 19)), (1, .int v1), (2, .int v2), (3, .int v3)] [] := by
    refine k_aload_n C dX4_listSite_89 0 rfl ?_
    refine k_iload_n C dX4_listSite_90 1 rfl ?_
    refine k_iload_n C dX4_listSite_91 2 rfl ?_
    refine k_iconst (v := (0 : Int32)) C dX4_listSite_92 (by decide) ?_
    obtain ⟨⟨mu_mS_2, mu_mK_3, mu_mI_4, mu_mC_5, mu_mc_6, mu_mA_7⟩, hq_1, hf⟩ := ob_el hf
    dsimp only at hf
    refine k_callVv C (c4_add C.2.2.2.2.2.2.2.2.2.1 hq_1) cm4_73 ok4_add (by decide) 19 rfl rfl rfl rfl (Nat.le_of_ble_eq_true rfl) dX4_listSite_93 ?_
    cases hf
    exact K _ _ dX4_listSite_96
  have hr : v2.toInt < 0 ∨ 3 < v2.toInt := by
    have q0 : ¬ v2.toInt = 0 := hn0 0 (by decide)
    have q1 : ¬ v2.toInt = 1 := hn1 1 (by decide)
    have q2 : ¬ v2.toInt = 2 := hn2 2 (by decide)
    have q3 : ¬ v2.toInt = 3 := hn3 3 (by decide)
    omega
  rcases hr with hr | hr
  · exact k_tableOut C 89 dX4_listSite_1 (Or.inl hr) (by decide) kd_43
  · exact k_tableOut C 89 dX4_listSite_1 (Or.inr hr) (by decide) kd_43
theorem c4_listSite {V : EV} {l : Launch} (hl0 : l.stackTraces = false) {ad : Nat → Nat} {top : TopS} {rd : RdS} {ra : Int32} {co : Nat → CoS} {fo : FoS} {tr : TrS} {ma : MaS} {mq : Nat} {mx : MxS} {v1 : Int32} {v2 : Int32} {v3 : Int32} {mu_mS : Nat → Int32} {mu_mK : Nat → Int32} {mu_mI : Nat → Int32} {mu_mC : Nat → Int32} {mu_mc : Int32} {mu_mA : Nat → Int32} {N : Nat} {res : MuS} (hf : f4_listSite N v1 v2 v3 (mu_mS, mu_mK, mu_mI, mu_mC, mu_mc, mu_mA) = some res) : MV V l yX4_listSite cX4_listSite 4 6 176 [.ref (ad 19), .int v1, .int v2, .int v3] (wC V ad top rd ra co (mu_mS, mu_mK, mu_mI, mu_mC, mu_mc, mu_mA) fo tr ma mq mx) (wC V ad top rd ra co res fo tr ma mq mx) :=
  mv_of hl0 (by decide +kernel) (Nat.le_of_ble_eq_true rfl) (fun p e R s m args below meth c Q A C K => b4_listSite C hf K)

theorem nw4_56 : (RX4, 56, yX7_choicesOf) ∈ nwl := by decide +kernel
theorem cn7_choicesOf : ∀ a ∈ wsCN yX7_choicesOf cX7_choicesOf 1 (some .int), a ∈ GW := by
  unfold wsCN
  exact (List.forall_mem_cons.mpr ⟨(gw_3 (i := 120) (by decide +kernel) rfl), (List.forall_mem_cons.mpr ⟨(gw_1 (i := 1) (by decide +kernel) rfl), (List.forall_mem_cons.mpr ⟨(gw_3 (i := 121) (by decide +kernel) rfl), (List.forall_mem_nil _)⟩)⟩)⟩)
theorem cm4_47 : ∀ a ∈ wsCS RX4 47 yJ7_fill_53178 cJ7_fill_53178 4 none, a ∈ GW := by
  unfold wsCS
  exact (List.forall_mem_cons.mpr ⟨(gw_3 (i := 150) (by decide +kernel) rfl), (List.forall_mem_cons.mpr ⟨(gw_3 (i := 151) (by decide +kernel) rfl), (List.forall_mem_cons.mpr ⟨(gw_1 (i := 21) (by decide +kernel) rfl), (List.forall_mem_cons.mpr ⟨(gw_3 (i := 152) (by decide +kernel) rfl), (List.forall_mem_nil _)⟩)⟩)⟩)⟩)
theorem ok4_sortSites : okCV RX4 yX4_sortSites 1 := by unfold okCV; decide +kernel
def f4_sortSites_L10 (k48 : MuS → Option (MuS)) (N : Nat) (cs_cw : Nat → Int32) (cs_ce : Nat → Int32) (cs_cn : Nat → Int32) (cs_cj : Nat → Int32) (cs_cz : Int32) : Nat → Int32 → MuS → Option (MuS)
  | 0, _, _ => none
  | n + 1, x2, (mu_mS, mu_mK, mu_mI, mu_mC, mu_mc, mu_mA) =>
    if cs_cz ≤ x2 then k48 (mu_mS, mu_mK, mu_mI, mu_mC, mu_mc, mu_mA) else if x2 < 0 ∨ 80 ≤ x2.toNatClampNeg then none else (f7_choicesOf (cs_cw x2.toNatClampNeg)).bind fun r_2 => if r_2 ≤ 0 then nm_v (x2 + (1 : Int32)) (fun v2_3 => f4_sortSites_L10 k48 N cs_cw cs_ce cs_cn cs_cj cs_cz n v2_3 (mu_mS, mu_mK, mu_mI, mu_mC, mu_mc, mu_mA)) else if x2 < 0 ∨ 80 ≤ x2.toNatClampNeg then none else if (cs_ce x2.toNatClampNeg) < 0 ∨ 60 ≤ (cs_ce x2.toNatClampNeg).toNatClampNeg then none else nm_v (x2 + (1 : Int32)) (fun v2_4 => f4_sortSites_L10 k48 N cs_cw cs_ce cs_cn cs_cj cs_cz n v2_4 (mu_mS, mu_mK, mu_mI, mu_mC, mu_mc, (upd mu_mA (cs_ce x2.toNatClampNeg).toNatClampNeg x2)))
def f4_sortSites (N : Nat)  : CoS → MuS → Option (MuS)
  | (cs_cw, cs_ce, cs_cn, cs_cj, cs_cz), (mu_mS, mu_mK, mu_mI, mu_mC, mu_mc, mu_mA) =>
    f4_sortSites_L10 (fun (mu_mS_5, mu_mK_5, mu_mI_5, mu_mC_5, mu_mc_5, mu_mA_5) => some (mu_mS_5, mu_mK_5, mu_mI_5, mu_mC_5, mu_mc_5, mu_mA_5)) N cs_cw cs_ce cs_cn cs_cj cs_cz N (0 : Int32) (mu_mS, mu_mK, mu_mI, mu_mC, mu_mc, (fillF mu_mA 60 (-1 : Int32)))
set_option maxHeartbeats 4000000 in
set_option maxRecDepth 100000 in
theorem w4_sortSites_L10 {V : EV} {p : Program} {l : Launch} {e : Env} {R : Room} {s : State} {m : MethodId} {args : Array Value} {below : List Frame} {meth : Method} {c : Code} {Q : State → Prop} {A : Nat → Prop} {kc ks : Nat} {ad : Nat → Nat} {top : TopS} {rd : RdS} {ra : Int32} {co : Nat → CoS} {fo : FoS} {tr : TrS} {ma : MaS} {mq : Nat} {mx : MxS} {cs_cw : Nat → Int32} {cs_ce : Nat → Int32} {cs_cn : Nat → Int32} {cs_cj : Nat → Int32} {cs_cz : Int32} {q : Nat} {k48 : MuS → Option (MuS)} {N : Nat} {res : MuS} (C : CX V p l R s m args c A kc ks RX4 cX4_sortSites 3 3 80) (hq : q < 4) (K : RV V p l e R s m args below meth c Q A kc ks 3 cX4_sortSites (wC V ad top rd ra (updC co q (cs_cw, cs_ce, cs_cn, cs_cj, cs_cz)) res fo tr ma mq mx)) (hk48 : ∀  (mu_mS : Nat → Int32) (mu_mK : Nat → Int32) (mu_mI : Nat → Int32) (mu_mC : Nat → Int32) (mu_mc : Int32) (mu_mA : Nat → Int32), k48 (mu_mS, mu_mK, mu_mI, mu_mC, mu_mc, mu_mA) = some res → WC V p l e R s m args below meth c Q A kc ks 3 (wC V ad top rd ra (updC co q (cs_cw, cs_ce, cs_cn, cs_cj, cs_cz)) (mu_mS, mu_mK, mu_mI, mu_mC, mu_mc, mu_mA) fo tr ma mq mx) 48 [] []) : ∀ (n : Nat) (x2 : Int32) (mu_mS : Nat → Int32) (mu_mK : Nat → Int32) (mu_mI : Nat → Int32) (mu_mC : Nat → Int32) (mu_mc : Int32) (mu_mA : Nat → Int32), f4_sortSites_L10 k48 N cs_cw cs_ce cs_cn cs_cj cs_cz n x2 (mu_mS, mu_mK, mu_mI, mu_mC, mu_mc, mu_mA) = some res → WC V p l e R s m args below meth c Q A kc ks 3 (wC V ad top rd ra (updC co q (cs_cw, cs_ce, cs_cn, cs_cj, cs_cz)) (mu_mS, mu_mK, mu_mI, mu_mC, mu_mc, mu_mA) fo tr ma mq mx) 10 [(0, .ref (ad 19)), (1, .ref (ad (cpo q))), (2, .int x2)] [] := by
  intro n
  induction n with
  | zero => intro _ _ _ _ _ _ _ hf; exact nomatch (show none = some res from hf)
  | succ n ih =>
    intro x2 mu_mS mu_mK mu_mI mu_mC mu_mc mu_mA hf
    rw [f4_sortSites_L10] at hf
    refine k_iload_n C dX4_sortSites_10 2 rfl ?_
    refine k_aload_n C dX4_sortSites_11 1 rfl ?_
    refine g4_53 C hq dX4_sortSites_12 ?_
    refine k_icmp_ge C 48 dX4_sortSites_15 (by decide) (fun hc => ?_) (fun hc => ?_)
    · replace hf := (if_pos hc).symm.trans hf
      refine k_sub [] (L' := []) rfl ?_
      exact hk48 _ _ _ _ _ _ hf
    · replace hf := (if_neg hc).symm.trans hf
      refine k_aload_n C dX4_sortSites_18 1 rfl ?_
      refine g4_35 C hq dX4_sortSites_19 ?_
      refine k_iload_n C dX4_sortSites_22 2 rfl ?_
      obtain ⟨hi, hf⟩ := gd_no hf
      refine lk0 C hq hi dX4_sortSites_23 ?_
      obtain ⟨r_2, hq_1, hf⟩ := ob_el hf
      refine k_callNi C (c7_choicesOf C.2.2.2.2.2.2.2.2.2.1 hq_1) nw4_56 cn7_choicesOf ok7_choicesOf (by decide) rfl rfl (Nat.le_of_ble_eq_true rfl) dX4_sortSites_24 ?_
      refine k_if_le C 42 dX4_sortSites_27 (by decide) (fun hc => ?_) (fun hc => ?_)
      · replace hf := (if_pos hc).symm.trans hf
        obtain ⟨v2_3, ev2_3⟩ : ∃ y : Int32, y = x2 + (1 : Int32) := ⟨_, rfl⟩
        replace hf := nm_el hf ev2_3
        refine k_iinc (v := v2_3) C dX4_sortSites_42 2 rfl (by rw [ev2_3]; rfl) [(2, .int v2_3), (0, .ref (ad 19)), (1, .ref (ad (cpo q)))] (by decide) rfl ?_
        refine k_goto C 10 dX4_sortSites_45 (by decide) ?_
        refine k_sub [1, 2, 0] (L' := [(0, .ref (ad 19)), (1, .ref (ad (cpo q))), (2, .int v2_3)]) rfl ?_
        exact ih _ _ _ _ _ _ _ hf
      · replace hf := (if_neg hc).symm.trans hf
        refine k_aload_n C dX4_sortSites_30 0 rfl ?_
        refine g4_28 C dX4_sortSites_31 ?_
        refine k_aload_n C dX4_sortSites_34 1 rfl ?_
        refine g4_60 C hq dX4_sortSites_35 ?_
        refine k_iload_n C dX4_sortSites_38 2 rfl ?_
        obtain ⟨hi, hf⟩ := gd_no hf
        refine lk1 C hq hi dX4_sortSites_39 ?_
        refine k_iload_n C dX4_sortSites_40 2 rfl ?_
        obtain ⟨hi, hf⟩ := gd_no hf
        refine sc24 C hi dX4_sortSites_41 ?_
        obtain ⟨v2_4, ev2_4⟩ : ∃ y : Int32, y = x2 + (1 : Int32) := ⟨_, rfl⟩
        replace hf := nm_el hf ev2_4
        refine k_iinc (v := v2_4) C dX4_sortSites_42 2 rfl (by rw [ev2_4]; rfl) [(2, .int v2_4), (0, .ref (ad 19)), (1, .ref (ad (cpo q)))] (by decide) rfl ?_
        refine k_goto C 10 dX4_sortSites_45 (by decide) ?_
        refine k_sub [1, 2, 0] (L' := [(0, .ref (ad 19)), (1, .ref (ad (cpo q))), (2, .int v2_4)]) rfl ?_
        exact ih _ _ _ _ _ _ _ hf
set_option maxHeartbeats 4000000 in
set_option maxRecDepth 100000 in
theorem b4_sortSites {V : EV} {p : Program} {l : Launch} {e : Env} {R : Room} {s : State} {m : MethodId} {args : Array Value} {below : List Frame} {meth : Method} {c : Code} {Q : State → Prop} {A : Nat → Prop} {kc ks : Nat} {ad : Nat → Nat} {top : TopS} {rd : RdS} {ra : Int32} {co : Nat → CoS} {fo : FoS} {tr : TrS} {ma : MaS} {mq : Nat} {mx : MxS} {cs_cw : Nat → Int32} {cs_ce : Nat → Int32} {cs_cn : Nat → Int32} {cs_cj : Nat → Int32} {cs_cz : Int32} {q : Nat} {mu_mS : Nat → Int32} {mu_mK : Nat → Int32} {mu_mI : Nat → Int32} {mu_mC : Nat → Int32} {mu_mc : Int32} {mu_mA : Nat → Int32} {N : Nat} {res : MuS} (C : CX V p l R s m args c A kc ks RX4 cX4_sortSites 3 3 80) (hq : q < 4) (hf : f4_sortSites N (cs_cw, cs_ce, cs_cn, cs_cj, cs_cz) (mu_mS, mu_mK, mu_mI, mu_mC, mu_mc, mu_mA) = some res) (K : RV V p l e R s m args below meth c Q A kc ks 3 cX4_sortSites (wC V ad top rd ra (updC co q (cs_cw, cs_ce, cs_cn, cs_cj, cs_cz)) res fo tr ma mq mx)) : WC V p l e R s m args below meth c Q A kc ks 3 (wC V ad top rd ra (updC co q (cs_cw, cs_ce, cs_cn, cs_cj, cs_cz)) (mu_mS, mu_mK, mu_mI, mu_mC, mu_mc, mu_mA) fo tr ma mq mx) 0 [(0, .ref (ad 19)), (1, .ref (ad (cpo q)))] [] := by
  rw [f4_sortSites] at hf
  refine k_aload_n C dX4_sortSites_0 0 rfl ?_
  refine g4_28 C dX4_sortSites_1 ?_
  refine k_iconst (v := (-1 : Int32)) C dX4_sortSites_4 (by decide) ?_
  refine k_fill (w' := (wC V ad top rd ra (updC co q (cs_cw, cs_ce, cs_cn, cs_cj, cs_cz)) (mu_mS, mu_mK, mu_mI, mu_mC, mu_mc, (fillF mu_mA 60 (-1 : Int32))) fo tr ma mq mx)) C 24 (by decide) rfl rfl cm4_47 (by decide) (Nat.le_of_ble_eq_true rfl) dX4_sortSites_5 ?_
  refine k_iconst (v := (0 : Int32)) C dX4_sortSites_8 (by decide) ?_
  refine k_istore_n C dX4_sortSites_9 [(2, .int (0 : Int32)), (0, .ref (ad 19)), (1, .ref (ad (cpo q)))] (by decide) rfl ?_
  refine k_sub [1, 2, 0] (L' := [(0, .ref (ad 19)), (1, .ref (ad (cpo q))), (2, .int (0 : Int32))]) rfl ?_
  refine w4_sortSites_L10 C hq K ?_ _ _ _ _ _ _ _ _ hf
  · intro mu_mS_5 mu_mK_5 mu_mI_5 mu_mC_5 mu_mc_5 mu_mA_5 hf
    try dsimp only at hf
    cases hf
    exact K _ _ dX4_sortSites_48
theorem c4_sortSites {V : EV} {l : Launch} (hl0 : l.stackTraces = false) {ad : Nat → Nat} {top : TopS} {rd : RdS} {ra : Int32} {co : Nat → CoS} {fo : FoS} {tr : TrS} {ma : MaS} {mq : Nat} {mx : MxS} {cs_cw : Nat → Int32} {cs_ce : Nat → Int32} {cs_cn : Nat → Int32} {cs_cj : Nat → Int32} {cs_cz : Int32} {q : Nat} {mu_mS : Nat → Int32} {mu_mK : Nat → Int32} {mu_mI : Nat → Int32} {mu_mC : Nat → Int32} {mu_mc : Int32} {mu_mA : Nat → Int32} {N : Nat} {res : MuS} (hq : q < 4) (hf : f4_sortSites N (cs_cw, cs_ce, cs_cn, cs_cj, cs_cz) (mu_mS, mu_mK, mu_mI, mu_mC, mu_mc, mu_mA) = some res) : MV V l yX4_sortSites cX4_sortSites 3 3 80 [.ref (ad 19), .ref (ad (cpo q))] (wC V ad top rd ra (updC co q (cs_cw, cs_ce, cs_cn, cs_cj, cs_cz)) (mu_mS, mu_mK, mu_mI, mu_mC, mu_mc, mu_mA) fo tr ma mq mx) (wC V ad top rd ra (updC co q (cs_cw, cs_ce, cs_cn, cs_cj, cs_cz)) res fo tr ma mq mx) :=
  mv_of hl0 (by decide +kernel) (Nat.le_of_ble_eq_true rfl) (fun p e R s m args below meth c Q A C K => b4_sortSites C hq hf K)

theorem cm4_31 : ∀ a ∈ wsCV RX4 31 RX4 yX4_sortSites cX4_sortSites 3 none, a ∈ GW := by
  unfold wsCV
  exact (List.forall_mem_cons.mpr ⟨(gw_3 (i := 146) (by decide +kernel) rfl), (List.forall_mem_cons.mpr ⟨(gw_3 (i := 148) (by decide +kernel) rfl), (List.forall_mem_cons.mpr ⟨(gw_p (q := ((yX4_sortSites, 6) : MethodName × Nat)) (List.mem_append_right _ (List.mem_append_left _ (List.mem_of_getElem? (i := 8) (by decide +kernel)))) rfl), (List.forall_mem_cons.mpr ⟨(gw_1 (i := 4) (by decide +kernel) rfl), (List.forall_mem_cons.mpr ⟨(gw_3 (i := 149) (by decide +kernel) rfl), (List.forall_mem_nil _)⟩)⟩)⟩)⟩)⟩)
theorem cm4_43 : ∀ a ∈ wsCV RX4 43 RX4 yX4_listSite cX4_listSite 4 none, a ∈ GW := by
  unfold wsCV
  exact (List.forall_mem_cons.mpr ⟨(gw_3 (i := 154) (by decide +kernel) rfl), (List.forall_mem_cons.mpr ⟨(gw_3 (i := 156) (by decide +kernel) rfl), (List.forall_mem_cons.mpr ⟨(gw_p (q := ((yX4_listSite, 6) : MethodName × Nat)) (List.mem_append_right _ (List.mem_append_left _ (List.mem_of_getElem? (i := 9) (by decide +kernel)))) rfl), (List.forall_mem_cons.mpr ⟨(gw_1 (i := 4) (by decide +kernel) rfl), (List.forall_mem_cons.mpr ⟨(gw_3 (i := 157) (by decide +kernel) rfl), (List.forall_mem_nil _)⟩)⟩)⟩)⟩)⟩)
theorem ok4_list : okCV RX4 yX4_list 1 := by unfold okCV; decide +kernel
def f4_list_L19 (k68 : MuS → Option (MuS)) (N : Nat) (cs_cw : Nat → Int32) (cs_ce : Nat → Int32) (cs_cn : Nat → Int32) (cs_cj : Nat → Int32) (cs_cz : Int32) : Nat → Int32 → MuS → Option (MuS)
  | 0, _, _ => none
  | n + 1, x2, (mu_mS, mu_mK, mu_mI, mu_mC, mu_mc, mu_mA) =>
    if (60 : Int32) ≤ x2 then k68 (mu_mS, mu_mK, mu_mI, mu_mC, mu_mc, mu_mA) else if x2 < 0 ∨ 60 ≤ x2.toNatClampNeg then none else if (mu_mA x2.toNatClampNeg) = (-1 : Int32) then nm_v (x2 + (1 : Int32)) (fun v2_8 => f4_list_L19 k68 N cs_cw cs_ce cs_cn cs_cj cs_cz n v2_8 (mu_mS, mu_mK, mu_mI, mu_mC, mu_mc, mu_mA)) else if x2 < 0 ∨ 60 ≤ x2.toNatClampNeg then none else if (mu_mA x2.toNatClampNeg) < 0 ∨ 80 ≤ (mu_mA x2.toNatClampNeg).toNatClampNeg then none else if x2 < 0 ∨ 60 ≤ x2.toNatClampNeg then none else if (mu_mA x2.toNatClampNeg) < 0 ∨ 80 ≤ (mu_mA x2.toNatClampNeg).toNatClampNeg then none else (f4_listSite N x2 (cs_cw (mu_mA x2.toNatClampNeg).toNatClampNeg) (cs_cn (mu_mA x2.toNatClampNeg).toNatClampNeg) (mu_mS, mu_mK, mu_mI, mu_mC, mu_mc, mu_mA)).bind fun (mu_mS_10, mu_mK_11, mu_mI_12, mu_mC_13, mu_mc_14, mu_mA_15) => nm_v (x2 + (1 : Int32)) (fun v2_16 => f4_list_L19 k68 N cs_cw cs_ce cs_cn cs_cj cs_cz n v2_16 (mu_mS_10, mu_mK_11, mu_mI_12, mu_mC_13, mu_mc_14, mu_mA_15))
def f4_list (N : Nat)  : CoS → MuS → Option (MuS)
  | (cs_cw, cs_ce, cs_cn, cs_cj, cs_cz), (mu_mS, mu_mK, mu_mI, mu_mC, mu_mc, mu_mA) =>
    if (0 : Int32) < 0 ∨ 121 ≤ (0 : Int32).toNatClampNeg then none else (f4_sortSites N (cs_cw, cs_ce, cs_cn, cs_cj, cs_cz) ((upd mu_mS (0 : Int32).toNatClampNeg (-1 : Int32)), mu_mK, mu_mI, mu_mC, (0 : Int32), mu_mA)).bind fun (mu_mS_2, mu_mK_3, mu_mI_4, mu_mC_5, mu_mc_6, mu_mA_7) => f4_list_L19 (fun (mu_mS_17, mu_mK_17, mu_mI_17, mu_mC_17, mu_mc_17, mu_mA_17) => some (mu_mS_17, mu_mK_17, mu_mI_17, mu_mC_17, mu_mc_17, mu_mA_17)) N cs_cw cs_ce cs_cn cs_cj cs_cz N (0 : Int32) (mu_mS_2, mu_mK_3, mu_mI_4, mu_mC_5, mu_mc_6, mu_mA_7)
set_option maxHeartbeats 4000000 in
set_option maxRecDepth 100000 in
theorem w4_list_L19 {V : EV} {p : Program} {l : Launch} {e : Env} {R : Room} {s : State} {m : MethodId} {args : Array Value} {below : List Frame} {meth : Method} {c : Code} {Q : State → Prop} {A : Nat → Prop} {kc ks : Nat} {ad : Nat → Nat} {top : TopS} {rd : RdS} {ra : Int32} {co : Nat → CoS} {fo : FoS} {tr : TrS} {ma : MaS} {mq : Nat} {mx : MxS} {cs_cw : Nat → Int32} {cs_ce : Nat → Int32} {cs_cn : Nat → Int32} {cs_cj : Nat → Int32} {cs_cz : Int32} {q : Nat} {k68 : MuS → Option (MuS)} {N : Nat} {res : MuS} (C : CX V p l R s m args c A kc ks RX4 cX4_list 3 7 199) (hq : q < 4) (K : RV V p l e R s m args below meth c Q A kc ks 3 cX4_list (wC V ad top rd ra (updC co q (cs_cw, cs_ce, cs_cn, cs_cj, cs_cz)) res fo tr ma mq mx)) (hk68 : ∀  (mu_mS : Nat → Int32) (mu_mK : Nat → Int32) (mu_mI : Nat → Int32) (mu_mC : Nat → Int32) (mu_mc : Int32) (mu_mA : Nat → Int32), k68 (mu_mS, mu_mK, mu_mI, mu_mC, mu_mc, mu_mA) = some res → WC V p l e R s m args below meth c Q A kc ks 3 (wC V ad top rd ra (updC co q (cs_cw, cs_ce, cs_cn, cs_cj, cs_cz)) (mu_mS, mu_mK, mu_mI, mu_mC, mu_mc, mu_mA) fo tr ma mq mx) 68 [] []) : ∀ (n : Nat) (x2 : Int32) (mu_mS : Nat → Int32) (mu_mK : Nat → Int32) (mu_mI : Nat → Int32) (mu_mC : Nat → Int32) (mu_mc : Int32) (mu_mA : Nat → Int32), f4_list_L19 k68 N cs_cw cs_ce cs_cn cs_cj cs_cz n x2 (mu_mS, mu_mK, mu_mI, mu_mC, mu_mc, mu_mA) = some res → WC V p l e R s m args below meth c Q A kc ks 3 (wC V ad top rd ra (updC co q (cs_cw, cs_ce, cs_cn, cs_cj, cs_cz)) (mu_mS, mu_mK, mu_mI, mu_mC, mu_mc, mu_mA) fo tr ma mq mx) 19 [(0, .ref (ad 19)), (1, .ref (ad (cpo q))), (2, .int x2)] [] := by
  intro n
  induction n with
  | zero => intro _ _ _ _ _ _ _ hf; exact nomatch (show none = some res from hf)
  | succ n ih =>
    intro x2 mu_mS mu_mK mu_mI mu_mC mu_mc mu_mA hf
    rw [f4_list_L19] at hf
    refine k_iload_n C dX4_list_19 2 rfl ?_
    refine k_bipush (v := (60 : Int32)) C dX4_list_20 (by decide) ?_
    refine k_icmp_ge C 68 dX4_list_22 (by decide) (fun hc => ?_) (fun hc => ?_)
    · replace hf := (if_pos hc).symm.trans hf
      refine k_sub [] (L' := []) rfl ?_
      exact hk68 _ _ _ _ _ _ hf
    · replace hf := (if_neg hc).symm.trans hf
      refine k_aload_n C dX4_list_25 0 rfl ?_
      refine g4_28 C dX4_list_26 ?_
      refine k_iload_n C dX4_list_29 2 rfl ?_
      obtain ⟨hi, hf⟩ := gd_no hf
      refine lc24 C hi dX4_list_30 ?_
      refine k_iconst (v := (-1 : Int32)) C dX4_list_31 (by decide) ?_
      refine k_icmp_eq C 62 dX4_list_32 (by decide) (fun hc => ?_) (fun hc => ?_)
      · replace hf := (if_pos hc).symm.trans hf
        obtain ⟨v2_8, ev2_8⟩ : ∃ y : Int32, y = x2 + (1 : Int32) := ⟨_, rfl⟩
        replace hf := nm_el hf ev2_8
        refine k_iinc (v := v2_8) C dX4_list_62 2 rfl (by rw [ev2_8]; rfl) [(2, .int v2_8), (0, .ref (ad 19)), (1, .ref (ad (cpo q)))] (by decide) rfl ?_
        refine k_goto C 19 dX4_list_65 (by decide) ?_
        refine k_sub [1, 2, 0] (L' := [(0, .ref (ad 19)), (1, .ref (ad (cpo q))), (2, .int v2_8)]) rfl ?_
        exact ih _ _ _ _ _ _ _ hf
      · replace hf := (if_neg hc).symm.trans hf
        refine k_aload_n C dX4_list_35 0 rfl ?_
        refine k_iload_n C dX4_list_36 2 rfl ?_
        refine k_aload_n C dX4_list_37 1 rfl ?_
        refine g4_35 C hq dX4_list_38 ?_
        refine k_aload_n C dX4_list_41 0 rfl ?_
        refine g4_28 C dX4_list_42 ?_
        refine k_iload_n C dX4_list_45 2 rfl ?_
        obtain ⟨hi, hf⟩ := gd_no hf
        refine lc24 C hi dX4_list_46 ?_
        obtain ⟨hi, hf⟩ := gd_no hf
        refine lk0 C hq hi dX4_list_47 ?_
        refine k_aload_n C dX4_list_48 1 rfl ?_
        refine g4_40 C hq dX4_list_49 ?_
        refine k_aload_n C dX4_list_52 0 rfl ?_
        refine g4_28 C dX4_list_53 ?_
        refine k_iload_n C dX4_list_56 2 rfl ?_
        obtain ⟨hi, hf⟩ := gd_no hf
        refine lc24 C hi dX4_list_57 ?_
        obtain ⟨hi, hf⟩ := gd_no hf
        refine lk2 C hq hi dX4_list_58 ?_
        obtain ⟨⟨mu_mS_10, mu_mK_11, mu_mI_12, mu_mC_13, mu_mc_14, mu_mA_15⟩, hq_9, hf⟩ := ob_el hf
        dsimp only at hf
        refine k_callVv C (c4_listSite C.2.2.2.2.2.2.2.2.2.1 hq_9) cm4_43 ok4_listSite (by decide) 19 rfl rfl rfl rfl (Nat.le_of_ble_eq_true rfl) dX4_list_59 ?_
        obtain ⟨v2_16, ev2_16⟩ : ∃ y : Int32, y = x2 + (1 : Int32) := ⟨_, rfl⟩
        replace hf := nm_el hf ev2_16
        refine k_iinc (v := v2_16) C dX4_list_62 2 rfl (by rw [ev2_16]; rfl) [(2, .int v2_16), (0, .ref (ad 19)), (1, .ref (ad (cpo q)))] (by decide) rfl ?_
        refine k_goto C 19 dX4_list_65 (by decide) ?_
        refine k_sub [1, 2, 0] (L' := [(0, .ref (ad 19)), (1, .ref (ad (cpo q))), (2, .int v2_16)]) rfl ?_
        exact ih _ _ _ _ _ _ _ hf
set_option maxHeartbeats 4000000 in
set_option maxRecDepth 100000 in
theorem b4_list {V : EV} {p : Program} {l : Launch} {e : Env} {R : Room} {s : State} {m : MethodId} {args : Array Value} {below : List Frame} {meth : Method} {c : Code} {Q : State → Prop} {A : Nat → Prop} {kc ks : Nat} {ad : Nat → Nat} {top : TopS} {rd : RdS} {ra : Int32} {co : Nat → CoS} {fo : FoS} {tr : TrS} {ma : MaS} {mq : Nat} {mx : MxS} {cs_cw : Nat → Int32} {cs_ce : Nat → Int32} {cs_cn : Nat → Int32} {cs_cj : Nat → Int32} {cs_cz : Int32} {q : Nat} {mu_mS : Nat → Int32} {mu_mK : Nat → Int32} {mu_mI : Nat → Int32} {mu_mC : Nat → Int32} {mu_mc : Int32} {mu_mA : Nat → Int32} {N : Nat} {res : MuS} (C : CX V p l R s m args c A kc ks RX4 cX4_list 3 7 199) (hq : q < 4) (hf : f4_list N (cs_cw, cs_ce, cs_cn, cs_cj, cs_cz) (mu_mS, mu_mK, mu_mI, mu_mC, mu_mc, mu_mA) = some res) (K : RV V p l e R s m args below meth c Q A kc ks 3 cX4_list (wC V ad top rd ra (updC co q (cs_cw, cs_ce, cs_cn, cs_cj, cs_cz)) res fo tr ma mq mx)) : WC V p l e R s m args below meth c Q A kc ks 3 (wC V ad top rd ra (updC co q (cs_cw, cs_ce, cs_cn, cs_cj, cs_cz)) (mu_mS, mu_mK, mu_mI, mu_mC, mu_mc, mu_mA) fo tr ma mq mx) 0 [(0, .ref (ad 19)), (1, .ref (ad (cpo q)))] [] := by
  rw [f4_list] at hf
  refine k_aload_n C dX4_list_0 0 rfl ?_
  refine g4_9 C dX4_list_1 ?_
  refine k_iconst (v := (0 : Int32)) C dX4_list_4 (by decide) ?_
  refine k_iconst (v := (-1 : Int32)) C dX4_list_5 (by decide) ?_
  obtain ⟨hi, hf⟩ := gd_no hf
  refine sc20 C hi dX4_list_6 ?_
  refine k_aload_n C dX4_list_7 0 rfl ?_
  refine k_iconst (v := (0 : Int32)) C dX4_list_8 (by decide) ?_
  refine p4_24 C dX4_list_9 ?_
  refine k_aload_n C dX4_list_12 0 rfl ?_
  refine k_aload_n C dX4_list_13 1 rfl ?_
  obtain ⟨⟨mu_mS_2, mu_mK_3, mu_mI_4, mu_mC_5, mu_mc_6, mu_mA_7⟩, hq_1, hf⟩ := ob_el hf
  dsimp only at hf
  refine k_callVv C (c4_sortSites C.2.2.2.2.2.2.2.2.2.1 hq hq_1) cm4_31 ok4_sortSites (by decide) 19 rfl rfl rfl rfl (Nat.le_of_ble_eq_true rfl) dX4_list_14 ?_
  refine k_iconst (v := (0 : Int32)) C dX4_list_17 (by decide) ?_
  refine k_istore_n C dX4_list_18 [(2, .int (0 : Int32)), (0, .ref (ad 19)), (1, .ref (ad (cpo q)))] (by decide) rfl ?_
  refine k_sub [1, 2, 0] (L' := [(0, .ref (ad 19)), (1, .ref (ad (cpo q))), (2, .int (0 : Int32))]) rfl ?_
  refine w4_list_L19 C hq K ?_ _ _ _ _ _ _ _ _ hf
  · intro mu_mS_17 mu_mK_17 mu_mI_17 mu_mC_17 mu_mc_17 mu_mA_17 hf
    try dsimp only at hf
    cases hf
    exact K _ _ dX4_list_68
theorem c4_list {V : EV} {l : Launch} (hl0 : l.stackTraces = false) {ad : Nat → Nat} {top : TopS} {rd : RdS} {ra : Int32} {co : Nat → CoS} {fo : FoS} {tr : TrS} {ma : MaS} {mq : Nat} {mx : MxS} {cs_cw : Nat → Int32} {cs_ce : Nat → Int32} {cs_cn : Nat → Int32} {cs_cj : Nat → Int32} {cs_cz : Int32} {q : Nat} {mu_mS : Nat → Int32} {mu_mK : Nat → Int32} {mu_mI : Nat → Int32} {mu_mC : Nat → Int32} {mu_mc : Int32} {mu_mA : Nat → Int32} {N : Nat} {res : MuS} (hq : q < 4) (hf : f4_list N (cs_cw, cs_ce, cs_cn, cs_cj, cs_cz) (mu_mS, mu_mK, mu_mI, mu_mC, mu_mc, mu_mA) = some res) : MV V l yX4_list cX4_list 3 7 199 [.ref (ad 19), .ref (ad (cpo q))] (wC V ad top rd ra (updC co q (cs_cw, cs_ce, cs_cn, cs_cj, cs_cz)) (mu_mS, mu_mK, mu_mI, mu_mC, mu_mc, mu_mA) fo tr ma mq mx) (wC V ad top rd ra (updC co q (cs_cw, cs_ce, cs_cn, cs_cj, cs_cz)) res fo tr ma mq mx) :=
  mv_of hl0 (by decide +kernel) (Nat.le_of_ble_eq_true rfl) (fun p e R s m args below meth c Q A C K => b4_list C hq hf K)

theorem ok4_isNamesake : okCV RX4 yX4_isNamesake 1 := by unfold okCV; decide +kernel
def f4_isNamesake (v1 : Int32) : MuS → Option (Int32)
  | (mu_mS, mu_mK, mu_mI, mu_mC, mu_mc, mu_mA) =>
    if v1 = 0 then some (0 : Int32) else if v1 < 0 ∨ 121 ≤ v1.toNatClampNeg then none else if (mu_mC v1.toNatClampNeg) = v1 then some (1 : Int32) else some (0 : Int32)
set_option maxHeartbeats 4000000 in
set_option maxRecDepth 100000 in
theorem b4_isNamesake {V : EV} {p : Program} {l : Launch} {e : Env} {R : Room} {s : State} {m : MethodId} {args : Array Value} {below : List Frame} {meth : Method} {c : Code} {Q : State → Prop} {A : Nat → Prop} {kc ks : Nat} {ad : Nat → Nat} {top : TopS} {rd : RdS} {ra : Int32} {co : Nat → CoS} {fo : FoS} {tr : TrS} {ma : MaS} {mq : Nat} {mx : MxS} {mu_mS : Nat → Int32} {mu_mK : Nat → Int32} {mu_mI : Nat → Int32} {mu_mC : Nat → Int32} {mu_mc : Int32} {mu_mA : Nat → Int32} {v1 : Int32} {res : Int32} (C : CX V p l R s m args c A kc ks RX4 cX4_isNamesake 2 0 0) (hf : f4_isNamesake v1 (mu_mS, mu_mK, mu_mI, mu_mC, mu_mc, mu_mA) = some res) (K : RI V p l e R s m args below meth c Q A kc ks 2 cX4_isNamesake .boolean res (wC V ad top rd ra co (mu_mS, mu_mK, mu_mI, mu_mC, mu_mc, mu_mA) fo tr ma mq mx)) : WC V p l e R s m args below meth c Q A kc ks 2 (wC V ad top rd ra co (mu_mS, mu_mK, mu_mI, mu_mC, mu_mc, mu_mA) fo tr ma mq mx) 0 [(0, .ref (ad 19)), (1, .int v1)] [] := by
  rw [f4_isNamesake] at hf
  refine k_iload_n C dX4_isNamesake_0 1 rfl ?_
  refine k_if_eq C 18 dX4_isNamesake_1 (by decide) (fun hc => ?_) (fun hc => ?_)
  · replace hf := (if_pos hc).symm.trans hf
    refine k_iconst (v := (0 : Int32)) C dX4_isNamesake_18 (by decide) ?_
    cases hf
    exact K _ _ dX4_isNamesake_19 (nar_b (Or.inl rfl))
  · replace hf := (if_neg hc).symm.trans hf
    refine k_aload_n C dX4_isNamesake_4 0 rfl ?_
    refine g4_21 C dX4_isNamesake_5 ?_
    refine k_iload_n C dX4_isNamesake_8 1 rfl ?_
    obtain ⟨hi, hf⟩ := gd_no hf
    refine lc23 C hi dX4_isNamesake_9 ?_
    refine k_iload_n C dX4_isNamesake_10 1 rfl ?_
    refine k_icmp_ne C 18 dX4_isNamesake_11 (by decide) (fun hc => ?_) (fun hc => ?_)
    · replace hf := (if_neg hc).symm.trans hf
      refine k_iconst (v := (0 : Int32)) C dX4_isNamesake_18 (by decide) ?_
      cases hf
      exact K _ _ dX4_isNamesake_19 (nar_b (Or.inl rfl))
    · replace hf := (if_pos hc).symm.trans hf
      refine k_iconst (v := (1 : Int32)) C dX4_isNamesake_14 (by decide) ?_
      refine k_goto C 19 dX4_isNamesake_15 (by decide) ?_
      cases hf
      exact K _ _ dX4_isNamesake_19 (nar_b (Or.inr rfl))
theorem c4_isNamesake {V : EV} {l : Launch} (hl0 : l.stackTraces = false) {ad : Nat → Nat} {top : TopS} {rd : RdS} {ra : Int32} {co : Nat → CoS} {fo : FoS} {tr : TrS} {ma : MaS} {mq : Nat} {mx : MxS} {mu_mS : Nat → Int32} {mu_mK : Nat → Int32} {mu_mI : Nat → Int32} {mu_mC : Nat → Int32} {mu_mc : Int32} {mu_mA : Nat → Int32} {v1 : Int32} {res : Int32} (hf : f4_isNamesake v1 (mu_mS, mu_mK, mu_mI, mu_mC, mu_mc, mu_mA) = some res) : MI V l yX4_isNamesake cX4_isNamesake 2 .boolean 0 0 [.ref (ad 19), .int v1] (wC V ad top rd ra co (mu_mS, mu_mK, mu_mI, mu_mC, mu_mc, mu_mA) fo tr ma mq mx) res (wC V ad top rd ra co (mu_mS, mu_mK, mu_mI, mu_mC, mu_mc, mu_mA) fo tr ma mq mx) :=
  mi_of hl0 (by decide +kernel) (Nat.le_of_ble_eq_true rfl) (fun p e R s m args below meth c Q A C K => b4_isNamesake C hf K)

theorem ok2_reach : okCV RX2 yX2_reach 1 := by unfold okCV; decide +kernel
def f2_reach (v1 : Int32) : CoS → MaS → Option (MaS)
  | (cs_cw, cs_ce, cs_cn, cs_cj, cs_cz), (ma_aR, ma_aB, ma_aL, ma_aS, ma_aV, ma_aH, ma_aP, ma_aO, ma_aT, ma_aC, ma_aI) =>
    if v1 < 0 ∨ 80 ≤ v1.toNatClampNeg then none else some (ma_aR, ma_aB, (ma_aL ||| ((1 : Int64) <<< ((cs_ce v1.toNatClampNeg).toInt64 &&& 63))), ma_aS, ma_aV, ma_aH, ma_aP, ma_aO, ma_aT, ma_aC, ma_aI)
set_option maxHeartbeats 4000000 in
set_option maxRecDepth 100000 in
theorem b2_reach {V : EV} {p : Program} {l : Launch} {e : Env} {R : Room} {s : State} {m : MethodId} {args : Array Value} {below : List Frame} {meth : Method} {c : Code} {Q : State → Prop} {A : Nat → Prop} {kc ks : Nat} {ad : Nat → Nat} {top : TopS} {rd : RdS} {ra : Int32} {co : Nat → CoS} {mu : MuS} {fo : FoS} {tr : TrS} {mx : MxS} {cs_cw : Nat → Int32} {cs_ce : Nat → Int32} {cs_cn : Nat → Int32} {cs_cj : Nat → Int32} {cs_cz : Int32} {mq_aq : Nat} {v1 : Int32} {ma_aR : Int32} {ma_aB : Int32} {ma_aL : Int64} {ma_aS : Nat → Int32} {ma_aV : Nat → Int32} {ma_aH : Int32} {ma_aP : Int32} {ma_aO : Int32} {ma_aT : Int32} {ma_aC : Int32} {ma_aI : Int32} {res : MaS} (C : CX V p l R s m args c A kc ks RX2 cX2_reach 2 0 0) (hq : mq_aq < 4) (hf : f2_reach v1 (cs_cw, cs_ce, cs_cn, cs_cj, cs_cz) (ma_aR, ma_aB, ma_aL, ma_aS, ma_aV, ma_aH, ma_aP, ma_aO, ma_aT, ma_aC, ma_aI) = some res) (K : RV V p l e R s m args below meth c Q A kc ks 2 cX2_reach (wC V ad top rd ra (updC co mq_aq (cs_cw, cs_ce, cs_cn, cs_cj, cs_cz)) mu fo tr res mq_aq mx)) : WC V p l e R s m args below meth c Q A kc ks 2 (wC V ad top rd ra (updC co mq_aq (cs_cw, cs_ce, cs_cn, cs_cj, cs_cz)) mu fo tr (ma_aR, ma_aB, ma_aL, ma_aS, ma_aV, ma_aH, ma_aP, ma_aO, ma_aT, ma_aC, ma_aI) mq_aq mx) 0 [(0, .ref (ad 35)), (1, .int v1)] [] := by
  rw [f2_reach] at hf
  refine k_aload_n C dX2_reach_0 0 rfl ?_
  refine k_dup C dX2_reach_1 rfl ?_
  refine g2_20 C dX2_reach_2 ?_
  refine k_lconst (v := (1 : Int64)) C dX2_reach_5 (by decide) ?_
  refine k_aload_n C dX2_reach_6 0 rfl ?_
  refine g2_50 C dX2_reach_7 ?_
  refine g2_108 C hq dX2_reach_10 ?_
  refine k_iload_n C dX2_reach_13 1 rfl ?_
  obtain ⟨hi, hf⟩ := gd_no hf
  refine lk1 C hq hi dX2_reach_14 ?_
  refine k_lshl C dX2_reach_15 ?_
  refine k_lor C dX2_reach_16 ?_
  refine p2_20 C dX2_reach_17 ?_
  cases hf
  exact K _ _ dX2_reach_20
theorem c2_reach {V : EV} {l : Launch} (hl0 : l.stackTraces = false) {ad : Nat → Nat} {top : TopS} {rd : RdS} {ra : Int32} {co : Nat → CoS} {mu : MuS} {fo : FoS} {tr : TrS} {mx : MxS} {cs_cw : Nat → Int32} {cs_ce : Nat → Int32} {cs_cn : Nat → Int32} {cs_cj : Nat → Int32} {cs_cz : Int32} {mq_aq : Nat} {v1 : Int32} {ma_aR : Int32} {ma_aB : Int32} {ma_aL : Int64} {ma_aS : Nat → Int32} {ma_aV : Nat → Int32} {ma_aH : Int32} {ma_aP : Int32} {ma_aO : Int32} {ma_aT : Int32} {ma_aC : Int32} {ma_aI : Int32} {res : MaS} (hq : mq_aq < 4) (hf : f2_reach v1 (cs_cw, cs_ce, cs_cn, cs_cj, cs_cz) (ma_aR, ma_aB, ma_aL, ma_aS, ma_aV, ma_aH, ma_aP, ma_aO, ma_aT, ma_aC, ma_aI) = some res) : MV V l yX2_reach cX2_reach 2 0 0 [.ref (ad 35), .int v1] (wC V ad top rd ra (updC co mq_aq (cs_cw, cs_ce, cs_cn, cs_cj, cs_cz)) mu fo tr (ma_aR, ma_aB, ma_aL, ma_aS, ma_aV, ma_aH, ma_aP, ma_aO, ma_aT, ma_aC, ma_aI) mq_aq mx) (wC V ad top rd ra (updC co mq_aq (cs_cw, cs_ce, cs_cn, cs_cj, cs_cz)) mu fo tr res mq_aq mx) :=
  mv_of hl0 (by decide +kernel) (Nat.le_of_ble_eq_true rfl) (fun p e R s m args below meth c Q A C K => b2_reach C hq hf K)

theorem ok2_push : okCV RX2 yX2_push 1 := by unfold okCV; decide +kernel
def f2_push (v1 : Int32) : MaS → Option (MaS)
  | (ma_aR, ma_aB, ma_aL, ma_aS, ma_aV, ma_aH, ma_aP, ma_aO, ma_aT, ma_aC, ma_aI) =>
    if (32 : Int32) ≤ ma_aH then some (ma_aR, ma_aB, ma_aL, ma_aS, ma_aV, ma_aH, ma_aP, ma_aO, ma_aT, ma_aC, ma_aI) else if ma_aH < 0 ∨ 32 ≤ ma_aH.toNatClampNeg then none else some (ma_aR, ma_aB, ma_aL, (upd ma_aS ma_aH.toNatClampNeg v1), ma_aV, (ma_aH + (1 : Int32)), ma_aP, ma_aO, ma_aT, ma_aC, ma_aI)
set_option maxHeartbeats 4000000 in
set_option maxRecDepth 100000 in
theorem b2_push {V : EV} {p : Program} {l : Launch} {e : Env} {R : Room} {s : State} {m : MethodId} {args : Array Value} {below : List Frame} {meth : Method} {c : Code} {Q : State → Prop} {A : Nat → Prop} {kc ks : Nat} {ad : Nat → Nat} {top : TopS} {rd : RdS} {ra : Int32} {co : Nat → CoS} {mu : MuS} {fo : FoS} {tr : TrS} {mq : Nat} {mx : MxS} {v1 : Int32} {ma_aR : Int32} {ma_aB : Int32} {ma_aL : Int64} {ma_aS : Nat → Int32} {ma_aV : Nat → Int32} {ma_aH : Int32} {ma_aP : Int32} {ma_aO : Int32} {ma_aT : Int32} {ma_aC : Int32} {ma_aI : Int32} {res : MaS} (C : CX V p l R s m args c A kc ks RX2 cX2_push 2 0 0) (hf : f2_push v1 (ma_aR, ma_aB, ma_aL, ma_aS, ma_aV, ma_aH, ma_aP, ma_aO, ma_aT, ma_aC, ma_aI) = some res) (K : RV V p l e R s m args below meth c Q A kc ks 2 cX2_push (wC V ad top rd ra co mu fo tr res mq mx)) : WC V p l e R s m args below meth c Q A kc ks 2 (wC V ad top rd ra co mu fo tr (ma_aR, ma_aB, ma_aL, ma_aS, ma_aV, ma_aH, ma_aP, ma_aO, ma_aT, ma_aC, ma_aI) mq mx) 0 [(0, .ref (ad 35)), (1, .int v1)] [] := by
  rw [f2_push] at hf
  refine k_aload_n C dX2_push_0 0 rfl ?_
  refine g2_31 C dX2_push_1 ?_
  refine k_bipush (v := (32 : Int32)) C dX2_push_4 (by decide) ?_
  refine k_icmp_ge C 29 dX2_push_6 (by decide) (fun hc => ?_) (fun hc => ?_)
  · replace hf := (if_pos hc).symm.trans hf
    cases hf
    exact K _ _ dX2_push_29
  · replace hf := (if_neg hc).symm.trans hf
    refine k_aload_n C dX2_push_9 0 rfl ?_
    refine g2_24 C dX2_push_10 ?_
    refine k_aload_n C dX2_push_13 0 rfl ?_
    refine g2_31 C dX2_push_14 ?_
    refine k_iload_n C dX2_push_17 1 rfl ?_
    obtain ⟨hi, hf⟩ := gd_no hf
    refine sc36 C hi dX2_push_18 ?_
    refine k_aload_n C dX2_push_19 0 rfl ?_
    refine k_dup C dX2_push_20 rfl ?_
    refine g2_31 C dX2_push_21 ?_
    refine k_iconst (v := (1 : Int32)) C dX2_push_24 (by decide) ?_
    refine k_iadd C dX2_push_25 ?_
    refine p2_31 C dX2_push_26 ?_
    cases hf
    exact K _ _ dX2_push_29
theorem c2_push {V : EV} {l : Launch} (hl0 : l.stackTraces = false) {ad : Nat → Nat} {top : TopS} {rd : RdS} {ra : Int32} {co : Nat → CoS} {mu : MuS} {fo : FoS} {tr : TrS} {mq : Nat} {mx : MxS} {v1 : Int32} {ma_aR : Int32} {ma_aB : Int32} {ma_aL : Int64} {ma_aS : Nat → Int32} {ma_aV : Nat → Int32} {ma_aH : Int32} {ma_aP : Int32} {ma_aO : Int32} {ma_aT : Int32} {ma_aC : Int32} {ma_aI : Int32} {res : MaS} (hf : f2_push v1 (ma_aR, ma_aB, ma_aL, ma_aS, ma_aV, ma_aH, ma_aP, ma_aO, ma_aT, ma_aC, ma_aI) = some res) : MV V l yX2_push cX2_push 2 0 0 [.ref (ad 35), .int v1] (wC V ad top rd ra co mu fo tr (ma_aR, ma_aB, ma_aL, ma_aS, ma_aV, ma_aH, ma_aP, ma_aO, ma_aT, ma_aC, ma_aI) mq mx) (wC V ad top rd ra co mu fo tr res mq mx) :=
  mv_of hl0 (by decide +kernel) (Nat.le_of_ble_eq_true rfl) (fun p e R s m args below meth c Q A C K => b2_push C hf K)

theorem ok2_pop : okCV RX2 yX2_pop 0 := by unfold okCV; decide +kernel
def f2_pop  : MaS → Option (Int32 × MaS)
  | (ma_aR, ma_aB, ma_aL, ma_aS, ma_aV, ma_aH, ma_aP, ma_aO, ma_aT, ma_aC, ma_aI) =>
    if ma_aH = 0 then some ((0 : Int32), (ma_aR, ma_aB, ma_aL, ma_aS, ma_aV, ma_aH, ma_aP, ma_aO, ma_aT, ma_aC, ma_aI)) else if (ma_aH - (1 : Int32)) < 0 ∨ 32 ≤ (ma_aH - (1 : Int32)).toNatClampNeg then none else some ((ma_aS (ma_aH - (1 : Int32)).toNatClampNeg), (ma_aR, ma_aB, ma_aL, ma_aS, ma_aV, (ma_aH - (1 : Int32)), ma_aP, ma_aO, ma_aT, ma_aC, ma_aI))
set_option maxHeartbeats 4000000 in
set_option maxRecDepth 100000 in
theorem b2_pop {V : EV} {p : Program} {l : Launch} {e : Env} {R : Room} {s : State} {m : MethodId} {args : Array Value} {below : List Frame} {meth : Method} {c : Code} {Q : State → Prop} {A : Nat → Prop} {kc ks : Nat} {ad : Nat → Nat} {top : TopS} {rd : RdS} {ra : Int32} {co : Nat → CoS} {mu : MuS} {fo : FoS} {tr : TrS} {mq : Nat} {mx : MxS} {ma_aR : Int32} {ma_aB : Int32} {ma_aL : Int64} {ma_aS : Nat → Int32} {ma_aV : Nat → Int32} {ma_aH : Int32} {ma_aP : Int32} {ma_aO : Int32} {ma_aT : Int32} {ma_aC : Int32} {ma_aI : Int32} {res : Int32 × MaS} (C : CX V p l R s m args c A kc ks RX2 cX2_pop 1 0 0) (hf : f2_pop (ma_aR, ma_aB, ma_aL, ma_aS, ma_aV, ma_aH, ma_aP, ma_aO, ma_aT, ma_aC, ma_aI) = some res) (K : RI V p l e R s m args below meth c Q A kc ks 1 cX2_pop .int res.1 (wC V ad top rd ra co mu fo tr res.2 mq mx)) : WC V p l e R s m args below meth c Q A kc ks 1 (wC V ad top rd ra co mu fo tr (ma_aR, ma_aB, ma_aL, ma_aS, ma_aV, ma_aH, ma_aP, ma_aO, ma_aT, ma_aC, ma_aI) mq mx) 0 [(0, .ref (ad 35))] [] := by
  rw [f2_pop] at hf
  refine k_aload_n C dX2_pop_0 0 rfl ?_
  refine g2_31 C dX2_pop_1 ?_
  refine k_if_ne C 9 dX2_pop_4 (by decide) (fun hc => ?_) (fun hc => ?_)
  · replace hf := (if_neg hc).symm.trans hf
    refine k_aload_n C dX2_pop_9 0 rfl ?_
    refine k_dup C dX2_pop_10 rfl ?_
    refine g2_31 C dX2_pop_11 ?_
    refine k_iconst (v := (1 : Int32)) C dX2_pop_14 (by decide) ?_
    refine k_isub C dX2_pop_15 ?_
    refine p2_31 C dX2_pop_16 ?_
    refine k_aload_n C dX2_pop_19 0 rfl ?_
    refine g2_24 C dX2_pop_20 ?_
    refine k_aload_n C dX2_pop_23 0 rfl ?_
    refine g2_31 C dX2_pop_24 ?_
    obtain ⟨hi, hf⟩ := gd_no hf
    refine lc36 C hi dX2_pop_27 ?_
    cases hf
    exact K _ _ dX2_pop_28 rfl
  · replace hf := (if_pos hc).symm.trans hf
    refine k_iconst (v := (0 : Int32)) C dX2_pop_7 (by decide) ?_
    cases hf
    exact K _ _ dX2_pop_8 rfl
theorem c2_pop {V : EV} {l : Launch} (hl0 : l.stackTraces = false) {ad : Nat → Nat} {top : TopS} {rd : RdS} {ra : Int32} {co : Nat → CoS} {mu : MuS} {fo : FoS} {tr : TrS} {mq : Nat} {mx : MxS} {ma_aR : Int32} {ma_aB : Int32} {ma_aL : Int64} {ma_aS : Nat → Int32} {ma_aV : Nat → Int32} {ma_aH : Int32} {ma_aP : Int32} {ma_aO : Int32} {ma_aT : Int32} {ma_aC : Int32} {ma_aI : Int32} {res : Int32 × MaS} (hf : f2_pop (ma_aR, ma_aB, ma_aL, ma_aS, ma_aV, ma_aH, ma_aP, ma_aO, ma_aT, ma_aC, ma_aI) = some res) : MI V l yX2_pop cX2_pop 1 .int 0 0 [.ref (ad 35)] (wC V ad top rd ra co mu fo tr (ma_aR, ma_aB, ma_aL, ma_aS, ma_aV, ma_aH, ma_aP, ma_aO, ma_aT, ma_aC, ma_aI) mq mx) res.1 (wC V ad top rd ra co mu fo tr res.2 mq mx) :=
  mi_of hl0 (by decide +kernel) (Nat.le_of_ble_eq_true rfl) (fun p e R s m args below meth c Q A C K => b2_pop C hf K)

theorem nw2_111 : (RX2, 111, yX7_traps) ∈ nwl := by decide +kernel
theorem nw2_115 : (RX2, 115, yX7_arithmetic) ∈ nwl := by decide +kernel
theorem cm2_79 : ∀ a ∈ wsCV RX2 79 RX2 yX2_reach cX2_reach 2 none, a ∈ GW := by
  unfold wsCV
  exact (List.forall_mem_cons.mpr ⟨(gw_4 (i := 146) (by decide +kernel) rfl), (List.forall_mem_cons.mpr ⟨(gw_4 (i := 148) (by decide +kernel) rfl), (List.forall_mem_cons.mpr ⟨(gw_p (q := ((yX2_reach, 12) : MethodName × Nat)) (List.mem_append_right _ (List.mem_append_right _ (List.mem_append_right _ (List.mem_append_left _ (List.mem_of_getElem? (i := 4) (by decide +kernel)))))) rfl), (List.forall_mem_cons.mpr ⟨(gw_1 (i := 7) (by decide +kernel) rfl), (List.forall_mem_cons.mpr ⟨(gw_4 (i := 149) (by decide +kernel) rfl), (List.forall_mem_nil _)⟩)⟩)⟩)⟩)⟩)
theorem cm2_82 : ∀ a ∈ wsCV RX2 82 RX0 yX0_numberAt cX0_numberAt 4 (some .int), a ∈ GW := by
  unfold wsCV
  exact (List.forall_mem_cons.mpr ⟨(gw_4 (i := 145) (by decide +kernel) rfl), (List.forall_mem_cons.mpr ⟨(gw_3 (i := 212) (by decide +kernel) rfl), (List.forall_mem_cons.mpr ⟨(gw_3 (i := 213) (by decide +kernel) rfl), (List.forall_mem_cons.mpr ⟨(gw_1 (i := 3) (by decide +kernel) rfl), (List.forall_mem_cons.mpr ⟨(gw_3 (i := 214) (by decide +kernel) rfl), (List.forall_mem_nil _)⟩)⟩)⟩)⟩)⟩)
theorem cm2_86 : ∀ a ∈ wsCV RX2 86 RX2 yX2_push cX2_push 2 none, a ∈ GW := by
  unfold wsCV
  exact (List.forall_mem_cons.mpr ⟨(gw_4 (i := 152) (by decide +kernel) rfl), (List.forall_mem_cons.mpr ⟨(gw_4 (i := 154) (by decide +kernel) rfl), (List.forall_mem_cons.mpr ⟨(gw_p (q := ((yX2_push, 12) : MethodName × Nat)) (List.mem_append_right _ (List.mem_append_right _ (List.mem_append_right _ (List.mem_append_left _ (List.mem_of_getElem? (i := 5) (by decide +kernel)))))) rfl), (List.forall_mem_cons.mpr ⟨(gw_1 (i := 7) (by decide +kernel) rfl), (List.forall_mem_cons.mpr ⟨(gw_4 (i := 155) (by decide +kernel) rfl), (List.forall_mem_nil _)⟩)⟩)⟩)⟩)⟩)
theorem cm2_95 : ∀ a ∈ wsCV RX2 95 RX2 yX2_pop cX2_pop 1 (some .int), a ∈ GW := by
  unfold wsCV
  exact (List.forall_mem_cons.mpr ⟨(gw_4 (i := 141) (by decide +kernel) rfl), (List.forall_mem_cons.mpr ⟨(gw_4 (i := 143) (by decide +kernel) rfl), (List.forall_mem_cons.mpr ⟨(gw_p (q := ((yX2_pop, 12) : MethodName × Nat)) (List.mem_append_right _ (List.mem_append_right _ (List.mem_append_right _ (List.mem_append_left _ (List.mem_of_getElem? (i := 3) (by decide +kernel)))))) rfl), (List.forall_mem_cons.mpr ⟨(gw_1 (i := 7) (by decide +kernel) rfl), (List.forall_mem_cons.mpr ⟨(gw_4 (i := 144) (by decide +kernel) rfl), (List.forall_mem_nil _)⟩)⟩)⟩)⟩)⟩)
theorem ok2_apply : okCV RX2 yX2_apply 1 := by unfold okCV; decide +kernel
def f2_apply (v1 : Int32) : CoS → MaS → Option (MaS)
  | (cs_cw, cs_ce, cs_cn, cs_cj, cs_cz), (ma_aR, ma_aB, ma_aL, ma_aS, ma_aV, ma_aH, ma_aP, ma_aO, ma_aT, ma_aC, ma_aI) =>
    (f2_pop (ma_aR, ma_aB, ma_aL, ma_aS, ma_aV, ma_aH, ma_aP, ma_aO, ma_aT, ma_aC, ma_aI)).bind fun (r_2, (ma_aR_3, ma_aB_4, ma_aL_5, ma_aS_6, ma_aV_7, ma_aH_8, ma_aP_9, ma_aO_10, ma_aT_11, ma_aC_12, ma_aI_13)) => (f2_pop (ma_aR_3, ma_aB_4, ma_aL_5, ma_aS_6, ma_aV_7, ma_aH_8, ma_aP_9, ma_aO_10, ma_aT_11, ma_aC_12, ma_aI_13)).bind fun (r_15, (ma_aR_16, ma_aB_17, ma_aL_18, ma_aS_19, ma_aV_20, ma_aH_21, ma_aP_22, ma_aO_23, ma_aT_24, ma_aC_25, ma_aI_26)) => (f0_numberAt v1 ma_aC_25 ma_aI_26 (cs_cw, cs_ce, cs_cn, cs_cj, cs_cz)).bind fun r_28 => (f2_reach v1 (cs_cw, cs_ce, cs_cn, cs_cj, cs_cz) (ma_aR_16, ma_aB_17, ma_aL_18, ma_aS_19, ma_aV_20, ma_aH_21, ma_aP_22, ma_aO_23, ma_aT_24, ma_aC_25, ma_aI_26)).bind fun (ma_aR_30, ma_aB_31, ma_aL_32, ma_aS_33, ma_aV_34, ma_aH_35, ma_aP_36, ma_aO_37, ma_aT_38, ma_aC_39, ma_aI_40) => (f7_traps r_28 r_2).bind fun r_42 => if r_42 = 0 then (f7_arithmetic r_28 r_15 r_2).bind fun r_44 => (f2_push r_44 (ma_aR_30, ma_aB_31, ma_aL_32, ma_aS_33, ma_aV_34, ma_aH_35, ma_aP_36, ma_aO_37, ma_aT_38, ma_aC_39, ma_aI_40)).bind fun (ma_aR_46, ma_aB_47, ma_aL_48, ma_aS_49, ma_aV_50, ma_aH_51, ma_aP_52, ma_aO_53, ma_aT_54, ma_aC_55, ma_aI_56) => some (ma_aR_46, ma_aB_47, ma_aL_48, ma_aS_49, ma_aV_50, ma_aH_51, ma_aP_52, ma_aO_53, ma_aT_54, ma_aC_55, ma_aI_56) else some (ma_aR_30, ma_aB_31, ma_aL_32, ma_aS_33, ma_aV_34, ma_aH_35, ma_aP_36, (1 : Int32), ma_aT_38, ma_aC_39, ma_aI_40)
set_option maxHeartbeats 4000000 in
set_option maxRecDepth 100000 in
theorem b2_apply {V : EV} {p : Program} {l : Launch} {e : Env} {R : Room} {s : State} {m : MethodId} {args : Array Value} {below : List Frame} {meth : Method} {c : Code} {Q : State → Prop} {A : Nat → Prop} {kc ks : Nat} {ad : Nat → Nat} {top : TopS} {rd : RdS} {ra : Int32} {co : Nat → CoS} {mu : MuS} {fo : FoS} {tr : TrS} {mx : MxS} {cs_cw : Nat → Int32} {cs_ce : Nat → Int32} {cs_cn : Nat → Int32} {cs_cj : Nat → Int32} {cs_cz : Int32} {mq_aq : Nat} {v1 : Int32} {ma_aR : Int32} {ma_aB : Int32} {ma_aL : Int64} {ma_aS : Nat → Int32} {ma_aV : Nat → Int32} {ma_aH : Int32} {ma_aP : Int32} {ma_aO : Int32} {ma_aT : Int32} {ma_aC : Int32} {ma_aI : Int32} {res : MaS} (C : CX V p l R s m args c A kc ks RX2 cX2_apply 5 1 23) (hq : mq_aq < 4) (hf : f2_apply v1 (cs_cw, cs_ce, cs_cn, cs_cj, cs_cz) (ma_aR, ma_aB, ma_aL, ma_aS, ma_aV, ma_aH, ma_aP, ma_aO, ma_aT, ma_aC, ma_aI) = some res) (K : RV V p l e R s m args below meth c Q A kc ks 5 cX2_apply (wC V ad top rd ra (updC co mq_aq (cs_cw, cs_ce, cs_cn, cs_cj, cs_cz)) mu fo tr res mq_aq mx)) : WC V p l e R s m args below meth c Q A kc ks 5 (wC V ad top rd ra (updC co mq_aq (cs_cw, cs_ce, cs_cn, cs_cj, cs_cz)) mu fo tr (ma_aR, ma_aB, ma_aL, ma_aS, ma_aV, ma_aH, ma_aP, ma_aO, ma_aT, ma_aC, ma_aI) mq_aq mx) 0 [(0, .ref (ad 35)), (1, .int v1)] [] := by
  rw [f2_apply] at hf
  refine k_aload_n C dX2_apply_0 0 rfl ?_
  obtain ⟨⟨r_2, ⟨ma_aR_3, ma_aB_4, ma_aL_5, ma_aS_6, ma_aV_7, ma_aH_8, ma_aP_9, ma_aO_10, ma_aT_11, ma_aC_12, ma_aI_13⟩⟩, hq_1, hf⟩ := ob_el hf
  dsimp only at hf
  refine k_callVi C (c2_pop C.2.2.2.2.2.2.2.2.2.1 hq_1) cm2_95 ok2_pop (by decide) 35 rfl rfl rfl rfl (Nat.le_of_ble_eq_true rfl) dX2_apply_1 ?_
  refine k_istore_n C dX2_apply_4 [(2, .int r_2), (0, .ref (ad 35)), (1, .int v1)] (by decide) rfl ?_
  refine k_aload_n C dX2_apply_5 1 rfl ?_
  obtain ⟨⟨r_15, ⟨ma_aR_16, ma_aB_17, ma_aL_18, ma_aS_19, ma_aV_20, ma_aH_21, ma_aP_22, ma_aO_23, ma_aT_24, ma_aC_25, ma_aI_26⟩⟩, hq_14, hf⟩ := ob_el hf
  dsimp only at hf
  refine k_callVi C (c2_pop C.2.2.2.2.2.2.2.2.2.1 hq_14) cm2_95 ok2_pop (by decide) 35 rfl rfl rfl rfl (Nat.le_of_ble_eq_true rfl) dX2_apply_6 ?_
  refine k_istore_n C dX2_apply_9 [(3, .int r_15), (2, .int r_2), (0, .ref (ad 35)), (1, .int v1)] (by decide) rfl ?_
  refine k_aload_n C dX2_apply_10 2 rfl ?_
  refine g2_50 C dX2_apply_11 ?_
  refine k_iload_n C dX2_apply_14 3 rfl ?_
  refine k_aload_n C dX2_apply_15 2 rfl ?_
  refine g2_43 C dX2_apply_16 ?_
  refine k_aload_n C dX2_apply_19 2 rfl ?_
  refine g2_46 C dX2_apply_20 ?_
  obtain ⟨r_28, hq_27, hf⟩ := ob_el hf
  refine k_callCi C hq (c0_numberAt C.2.2.2.2.2.2.2.2.2.1 hq hq_27) cm2_82 ok0_numberAt (by decide) rfl rfl (Nat.le_of_ble_eq_true rfl) dX2_apply_23 ?_
  refine k_istore C dX2_apply_26 [(4, .int r_28), (3, .int r_15), (2, .int r_2), (0, .ref (ad 35)), (1, .int v1)] (by decide) rfl ?_
  refine k_aload_n C dX2_apply_28 3 rfl ?_
  refine k_iload_n C dX2_apply_29 4 rfl ?_
  obtain ⟨⟨ma_aR_30, ma_aB_31, ma_aL_32, ma_aS_33, ma_aV_34, ma_aH_35, ma_aP_36, ma_aO_37, ma_aT_38, ma_aC_39, ma_aI_40⟩, hq_29, hf⟩ := ob_el hf
  dsimp only at hf
  refine k_callVv C (c2_reach C.2.2.2.2.2.2.2.2.2.1 hq hq_29) cm2_79 ok2_reach (by decide) 35 rfl rfl rfl rfl (Nat.le_of_ble_eq_true rfl) dX2_apply_30 ?_
  refine k_iload C dX2_apply_33 0 rfl ?_
  refine k_iload_n C dX2_apply_35 2 rfl ?_
  obtain ⟨r_42, hq_41, hf⟩ := ob_el hf
  refine k_callNi C (c7_traps C.2.2.2.2.2.2.2.2.2.1 hq_41) nw2_111 cn7_traps ok7_traps (by decide) rfl rfl (Nat.le_of_ble_eq_true rfl) dX2_apply_36 ?_
  refine k_if_eq C 50 dX2_apply_39 (by decide) (fun hc => ?_) (fun hc => ?_)
  · replace hf := (if_pos hc).symm.trans hf
    refine k_aload_n C dX2_apply_50 3 rfl ?_
    refine k_iload C dX2_apply_51 0 rfl ?_
    refine k_iload_n C dX2_apply_53 1 rfl ?_
    refine k_iload_n C dX2_apply_54 2 rfl ?_
    obtain ⟨r_44, hq_43, hf⟩ := ob_el hf
    refine k_callNi C (c7_arithmetic C.2.2.2.2.2.2.2.2.2.1 hq_43) nw2_115 cn7_arithmetic ok7_arithmetic (by decide) rfl rfl (Nat.le_of_ble_eq_true rfl) dX2_apply_55 ?_
    obtain ⟨⟨ma_aR_46, ma_aB_47, ma_aL_48, ma_aS_49, ma_aV_50, ma_aH_51, ma_aP_52, ma_aO_53, ma_aT_54, ma_aC_55, ma_aI_56⟩, hq_45, hf⟩ := ob_el hf
    dsimp only at hf
    refine k_callVv C (c2_push C.2.2.2.2.2.2.2.2.2.1 hq_45) cm2_86 ok2_push (by decide) 35 rfl rfl rfl rfl (Nat.le_of_ble_eq_true rfl) dX2_apply_58 ?_
    cases hf
    exact K _ _ dX2_apply_61
  · replace hf := (if_neg hc).symm.trans hf
    refine k_aload_n C dX2_apply_42 3 rfl ?_
    refine k_iconst (v := (1 : Int32)) C dX2_apply_43 (by decide) ?_
    refine p2_37 C dX2_apply_44 ?_
    refine k_goto C 61 dX2_apply_47 (by decide) ?_
    cases hf
    exact K _ _ dX2_apply_61
theorem c2_apply {V : EV} {l : Launch} (hl0 : l.stackTraces = false) {ad : Nat → Nat} {top : TopS} {rd : RdS} {ra : Int32} {co : Nat → CoS} {mu : MuS} {fo : FoS} {tr : TrS} {mx : MxS} {cs_cw : Nat → Int32} {cs_ce : Nat → Int32} {cs_cn : Nat → Int32} {cs_cj : Nat → Int32} {cs_cz : Int32} {mq_aq : Nat} {v1 : Int32} {ma_aR : Int32} {ma_aB : Int32} {ma_aL : Int64} {ma_aS : Nat → Int32} {ma_aV : Nat → Int32} {ma_aH : Int32} {ma_aP : Int32} {ma_aO : Int32} {ma_aT : Int32} {ma_aC : Int32} {ma_aI : Int32} {res : MaS} (hq : mq_aq < 4) (hf : f2_apply v1 (cs_cw, cs_ce, cs_cn, cs_cj, cs_cz) (ma_aR, ma_aB, ma_aL, ma_aS, ma_aV, ma_aH, ma_aP, ma_aO, ma_aT, ma_aC, ma_aI) = some res) : MV V l yX2_apply cX2_apply 5 1 23 [.ref (ad 35), .int v1] (wC V ad top rd ra (updC co mq_aq (cs_cw, cs_ce, cs_cn, cs_cj, cs_cz)) mu fo tr (ma_aR, ma_aB, ma_aL, ma_aS, ma_aV, ma_aH, ma_aP, ma_aO, ma_aT, ma_aC, ma_aI) mq_aq mx) (wC V ad top rd ra (updC co mq_aq (cs_cw, cs_ce, cs_cn, cs_cj, cs_cz)) mu fo tr res mq_aq mx) :=
  mv_of hl0 (by decide +kernel) (Nat.le_of_ble_eq_true rfl) (fun p e R s m args below meth c Q A C K => b2_apply C hq hf K)

theorem nw2_118 : (RX2, 118, yX7_comparison) ∈ nwl := by decide +kernel
theorem ok2_compare : okCV RX2 yX2_compare 1 := by unfold okCV; decide +kernel
def f2_compare (v1 : Int32) : CoS → MaS → Option (MaS)
  | (cs_cw, cs_ce, cs_cn, cs_cj, cs_cz), (ma_aR, ma_aB, ma_aL, ma_aS, ma_aV, ma_aH, ma_aP, ma_aO, ma_aT, ma_aC, ma_aI) =>
    (f2_pop (ma_aR, ma_aB, ma_aL, ma_aS, ma_aV, ma_aH, ma_aP, ma_aO, ma_aT, ma_aC, ma_aI)).bind fun (r_2, (ma_aR_3, ma_aB_4, ma_aL_5, ma_aS_6, ma_aV_7, ma_aH_8, ma_aP_9, ma_aO_10, ma_aT_11, ma_aC_12, ma_aI_13)) => (f2_pop (ma_aR_3, ma_aB_4, ma_aL_5, ma_aS_6, ma_aV_7, ma_aH_8, ma_aP_9, ma_aO_10, ma_aT_11, ma_aC_12, ma_aI_13)).bind fun (r_15, (ma_aR_16, ma_aB_17, ma_aL_18, ma_aS_19, ma_aV_20, ma_aH_21, ma_aP_22, ma_aO_23, ma_aT_24, ma_aC_25, ma_aI_26)) => (f2_reach v1 (cs_cw, cs_ce, cs_cn, cs_cj, cs_cz) (ma_aR_16, ma_aB_17, ma_aL_18, ma_aS_19, ma_aV_20, ma_aH_21, ma_aP_22, ma_aO_23, ma_aT_24, ma_aC_25, ma_aI_26)).bind fun (ma_aR_28, ma_aB_29, ma_aL_30, ma_aS_31, ma_aV_32, ma_aH_33, ma_aP_34, ma_aO_35, ma_aT_36, ma_aC_37, ma_aI_38) => (f0_numberAt v1 ma_aC_37 ma_aI_38 (cs_cw, cs_ce, cs_cn, cs_cj, cs_cz)).bind fun r_40 => (f7_comparison r_40 r_15 r_2).bind fun r_42 => if r_42 = 0 then (f2_push (0 : Int32) (ma_aR_28, ma_aB_29, ma_aL_30, ma_aS_31, ma_aV_32, ma_aH_33, ma_aP_34, ma_aO_35, ma_aT_36, ma_aC_37, ma_aI_38)).bind fun (ma_aR_44, ma_aB_45, ma_aL_46, ma_aS_47, ma_aV_48, ma_aH_49, ma_aP_50, ma_aO_51, ma_aT_52, ma_aC_53, ma_aI_54) => some (ma_aR_44, ma_aB_45, ma_aL_46, ma_aS_47, ma_aV_48, ma_aH_49, ma_aP_50, ma_aO_51, ma_aT_52, ma_aC_53, ma_aI_54) else (f2_push (1 : Int32) (ma_aR_28, ma_aB_29, ma_aL_30, ma_aS_31, ma_aV_32, ma_aH_33, ma_aP_34, ma_aO_35, ma_aT_36, ma_aC_37, ma_aI_38)).bind fun (ma_aR_56, ma_aB_57, ma_aL_58, ma_aS_59, ma_aV_60, ma_aH_61, ma_aP_62, ma_aO_63, ma_aT_64, ma_aC_65, ma_aI_66) => some (ma_aR_56, ma_aB_57, ma_aL_58, ma_aS_59, ma_aV_60, ma_aH_61, ma_aP_62, ma_aO_63, ma_aT_64, ma_aC_65, ma_aI_66)
set_option maxHeartbeats 4000000 in
set_option maxRecDepth 100000 in
theorem b2_compare {V : EV} {p : Program} {l : Launch} {e : Env} {R : Room} {s : State} {m : MethodId} {args : Array Value} {below : List Frame} {meth : Method} {c : Code} {Q : State → Prop} {A : Nat → Prop} {kc ks : Nat} {ad : Nat → Nat} {top : TopS} {rd : RdS} {ra : Int32} {co : Nat → CoS} {mu : MuS} {fo : FoS} {tr : TrS} {mx : MxS} {cs_cw : Nat → Int32} {cs_ce : Nat → Int32} {cs_cn : Nat → Int32} {cs_cj : Nat → Int32} {cs_cz : Int32} {mq_aq : Nat} {v1 : Int32} {ma_aR : Int32} {ma_aB : Int32} {ma_aL : Int64} {ma_aS : Nat → Int32} {ma_aV : Nat → Int32} {ma_aH : Int32} {ma_aP : Int32} {ma_aO : Int32} {ma_aT : Int32} {ma_aC : Int32} {ma_aI : Int32} {res : MaS} (C : CX V p l R s m args c A kc ks RX2 cX2_compare 4 1 23) (hq : mq_aq < 4) (hf : f2_compare v1 (cs_cw, cs_ce, cs_cn, cs_cj, cs_cz) (ma_aR, ma_aB, ma_aL, ma_aS, ma_aV, ma_aH, ma_aP, ma_aO, ma_aT, ma_aC, ma_aI) = some res) (K : RV V p l e R s m args below meth c Q A kc ks 4 cX2_compare (wC V ad top rd ra (updC co mq_aq (cs_cw, cs_ce, cs_cn, cs_cj, cs_cz)) mu fo tr res mq_aq mx)) : WC V p l e R s m args below meth c Q A kc ks 4 (wC V ad top rd ra (updC co mq_aq (cs_cw, cs_ce, cs_cn, cs_cj, cs_cz)) mu fo tr (ma_aR, ma_aB, ma_aL, ma_aS, ma_aV, ma_aH, ma_aP, ma_aO, ma_aT, ma_aC, ma_aI) mq_aq mx) 0 [(0, .ref (ad 35)), (1, .int v1)] [] := by
  rw [f2_compare] at hf
  refine k_aload_n C dX2_compare_0 0 rfl ?_
  obtain ⟨⟨r_2, ⟨ma_aR_3, ma_aB_4, ma_aL_5, ma_aS_6, ma_aV_7, ma_aH_8, ma_aP_9, ma_aO_10, ma_aT_11, ma_aC_12, ma_aI_13⟩⟩, hq_1, hf⟩ := ob_el hf
  dsimp only at hf
  refine k_callVi C (c2_pop C.2.2.2.2.2.2.2.2.2.1 hq_1) cm2_95 ok2_pop (by decide) 35 rfl rfl rfl rfl (Nat.le_of_ble_eq_true rfl) dX2_compare_1 ?_
  refine k_istore_n C dX2_compare_4 [(2, .int r_2), (0, .ref (ad 35)), (1, .int v1)] (by decide) rfl ?_
  refine k_aload_n C dX2_compare_5 1 rfl ?_
  obtain ⟨⟨r_15, ⟨ma_aR_16, ma_aB_17, ma_aL_18, ma_aS_19, ma_aV_20, ma_aH_21, ma_aP_22, ma_aO_23, ma_aT_24, ma_aC_25, ma_aI_26⟩⟩, hq_14, hf⟩ := ob_el hf
  dsimp only at hf
  refine k_callVi C (c2_pop C.2.2.2.2.2.2.2.2.2.1 hq_14) cm2_95 ok2_pop (by decide) 35 rfl rfl rfl rfl (Nat.le_of_ble_eq_true rfl) dX2_compare_6 ?_
  refine k_istore_n C dX2_compare_9 [(3, .int r_15), (2, .int r_2), (0, .ref (ad 35)), (1, .int v1)] (by decide) rfl ?_
  refine k_aload_n C dX2_compare_10 2 rfl ?_
  refine k_iload_n C dX2_compare_11 3 rfl ?_
  obtain ⟨⟨ma_aR_28, ma_aB_29, ma_aL_30, ma_aS_31, ma_aV_32, ma_aH_33, ma_aP_34, ma_aO_35, ma_aT_36, ma_aC_37, ma_aI_38⟩, hq_27, hf⟩ := ob_el hf
  dsimp only at hf
  refine k_callVv C (c2_reach C.2.2.2.2.2.2.2.2.2.1 hq hq_27) cm2_79 ok2_reach (by decide) 35 rfl rfl rfl rfl (Nat.le_of_ble_eq_true rfl) dX2_compare_12 ?_
  refine k_aload_n C dX2_compare_15 2 rfl ?_
  refine k_aload_n C dX2_compare_16 2 rfl ?_
  refine g2_50 C dX2_compare_17 ?_
  refine k_iload_n C dX2_compare_20 3 rfl ?_
  refine k_aload_n C dX2_compare_21 2 rfl ?_
  refine g2_43 C dX2_compare_22 ?_
  refine k_aload_n C dX2_compare_25 2 rfl ?_
  refine g2_46 C dX2_compare_26 ?_
  obtain ⟨r_40, hq_39, hf⟩ := ob_el hf
  refine k_callCi C hq (c0_numberAt C.2.2.2.2.2.2.2.2.2.1 hq hq_39) cm2_82 ok0_numberAt (by decide) rfl rfl (Nat.le_of_ble_eq_true rfl) dX2_compare_29 ?_
  refine k_iload_n C dX2_compare_32 0 rfl ?_
  refine k_iload_n C dX2_compare_33 1 rfl ?_
  obtain ⟨r_42, hq_41, hf⟩ := ob_el hf
  refine k_callNi C (c7_comparison C.2.2.2.2.2.2.2.2.2.1 hq_41) nw2_118 cn7_comparison ok7_comparison (by decide) rfl rfl (Nat.le_of_ble_eq_true rfl) dX2_compare_34 ?_
  refine k_if_eq C 44 dX2_compare_37 (by decide) (fun hc => ?_) (fun hc => ?_)
  · replace hf := (if_pos hc).symm.trans hf
    refine k_iconst (v := (0 : Int32)) C dX2_compare_44 (by decide) ?_
    obtain ⟨⟨ma_aR_44, ma_aB_45, ma_aL_46, ma_aS_47, ma_aV_48, ma_aH_49, ma_aP_50, ma_aO_51, ma_aT_52, ma_aC_53, ma_aI_54⟩, hq_43, hf⟩ := ob_el hf
    dsimp only at hf
    refine k_callVv C (c2_push C.2.2.2.2.2.2.2.2.2.1 hq_43) cm2_86 ok2_push (by decide) 35 rfl rfl rfl rfl (Nat.le_of_ble_eq_true rfl) dX2_compare_45 ?_
    cases hf
    exact K _ _ dX2_compare_48
  · replace hf := (if_neg hc).symm.trans hf
    refine k_iconst (v := (1 : Int32)) C dX2_compare_40 (by decide) ?_
    refine k_goto C 45 dX2_compare_41 (by decide) ?_
    obtain ⟨⟨ma_aR_56, ma_aB_57, ma_aL_58, ma_aS_59, ma_aV_60, ma_aH_61, ma_aP_62, ma_aO_63, ma_aT_64, ma_aC_65, ma_aI_66⟩, hq_55, hf⟩ := ob_el hf
    dsimp only at hf
    refine k_callVv C (c2_push C.2.2.2.2.2.2.2.2.2.1 hq_55) cm2_86 ok2_push (by decide) 35 rfl rfl rfl rfl (Nat.le_of_ble_eq_true rfl) dX2_compare_45 ?_
    cases hf
    exact K _ _ dX2_compare_48
theorem c2_compare {V : EV} {l : Launch} (hl0 : l.stackTraces = false) {ad : Nat → Nat} {top : TopS} {rd : RdS} {ra : Int32} {co : Nat → CoS} {mu : MuS} {fo : FoS} {tr : TrS} {mx : MxS} {cs_cw : Nat → Int32} {cs_ce : Nat → Int32} {cs_cn : Nat → Int32} {cs_cj : Nat → Int32} {cs_cz : Int32} {mq_aq : Nat} {v1 : Int32} {ma_aR : Int32} {ma_aB : Int32} {ma_aL : Int64} {ma_aS : Nat → Int32} {ma_aV : Nat → Int32} {ma_aH : Int32} {ma_aP : Int32} {ma_aO : Int32} {ma_aT : Int32} {ma_aC : Int32} {ma_aI : Int32} {res : MaS} (hq : mq_aq < 4) (hf : f2_compare v1 (cs_cw, cs_ce, cs_cn, cs_cj, cs_cz) (ma_aR, ma_aB, ma_aL, ma_aS, ma_aV, ma_aH, ma_aP, ma_aO, ma_aT, ma_aC, ma_aI) = some res) : MV V l yX2_compare cX2_compare 4 1 23 [.ref (ad 35), .int v1] (wC V ad top rd ra (updC co mq_aq (cs_cw, cs_ce, cs_cn, cs_cj, cs_cz)) mu fo tr (ma_aR, ma_aB, ma_aL, ma_aS, ma_aV, ma_aH, ma_aP, ma_aO, ma_aT, ma_aC, ma_aI) mq_aq mx) (wC V ad top rd ra (updC co mq_aq (cs_cw, cs_ce, cs_cn, cs_cj, cs_cz)) mu fo tr res mq_aq mx) :=
  mv_of hl0 (by decide +kernel) (Nat.le_of_ble_eq_true rfl) (fun p e R s m args below meth c Q A C K => b2_compare C hq hf K)

theorem ok2_decide : okCV RX2 yX2_decide 1 := by unfold okCV; decide +kernel
def f2_decide_L31   (cs_cw : Nat → Int32) (cs_ce : Nat → Int32) (cs_cn : Nat → Int32) (cs_cj : Nat → Int32) (cs_cz : Int32) : Int32 → Int32 → Int32 → MaS → Option (MaS)
  | x1, x2, y0, (ma_aR, ma_aB, ma_aL, ma_aS, ma_aV, ma_aH, ma_aP, ma_aO, ma_aT, ma_aC, ma_aI) =>
    (f2_reach x1 (cs_cw, cs_ce, cs_cn, cs_cj, cs_cz) (ma_aR, ma_aB, ma_aL, ma_aS, ma_aV, ma_aH, ma_aP, ma_aO, ma_aT, ma_aC, ma_aI)).bind fun (ma_aR_17, ma_aB_18, ma_aL_19, ma_aS_20, ma_aV_21, ma_aH_22, ma_aP_23, ma_aO_24, ma_aT_25, ma_aC_26, ma_aI_27) => if x2 = y0 then (f2_push x2 (ma_aR_17, ma_aB_18, ma_aL_19, ma_aS_20, ma_aV_21, ma_aH_22, ma_aP_23, ma_aO_24, ma_aT_25, ma_aC_26, ma_aI_27)).bind fun (ma_aR_29, ma_aB_30, ma_aL_31, ma_aS_32, ma_aV_33, ma_aH_34, ma_aP_35, ma_aO_36, ma_aT_37, ma_aC_38, ma_aI_39) => if x1 < 0 ∨ 80 ≤ x1.toNatClampNeg then none else some (ma_aR_29, ma_aB_30, ma_aL_31, ma_aS_32, ma_aV_33, ma_aH_34, (cs_cj x1.toNatClampNeg), ma_aO_36, ma_aT_37, ma_aC_38, ma_aI_39) else some (ma_aR_17, ma_aB_18, ma_aL_19, ma_aS_20, ma_aV_21, ma_aH_22, ma_aP_23, ma_aO_24, ma_aT_25, ma_aC_26, ma_aI_27)
def f2_decide (v1 : Int32) : CoS → MaS → Option (MaS)
  | (cs_cw, cs_ce, cs_cn, cs_cj, cs_cz), (ma_aR, ma_aB, ma_aL, ma_aS, ma_aV, ma_aH, ma_aP, ma_aO, ma_aT, ma_aC, ma_aI) =>
    (f2_pop (ma_aR, ma_aB, ma_aL, ma_aS, ma_aV, ma_aH, ma_aP, ma_aO, ma_aT, ma_aC, ma_aI)).bind fun (r_2, (ma_aR_3, ma_aB_4, ma_aL_5, ma_aS_6, ma_aV_7, ma_aH_8, ma_aP_9, ma_aO_10, ma_aT_11, ma_aC_12, ma_aI_13)) => (f0_numberAt v1 ma_aC_12 ma_aI_13 (cs_cw, cs_ce, cs_cn, cs_cj, cs_cz)).bind fun r_15 => if r_15 = (38 : Int32) then f2_decide_L31 cs_cw cs_ce cs_cn cs_cj cs_cz v1 r_2 (0 : Int32) (ma_aR_3, ma_aB_4, ma_aL_5, ma_aS_6, ma_aV_7, ma_aH_8, ma_aP_9, ma_aO_10, ma_aT_11, ma_aC_12, ma_aI_13) else f2_decide_L31 cs_cw cs_ce cs_cn cs_cj cs_cz v1 r_2 (1 : Int32) (ma_aR_3, ma_aB_4, ma_aL_5, ma_aS_6, ma_aV_7, ma_aH_8, ma_aP_9, ma_aO_10, ma_aT_11, ma_aC_12, ma_aI_13)
set_option maxHeartbeats 4000000 in
set_option maxRecDepth 100000 in
theorem w2_decide_L31 {V : EV} {p : Program} {l : Launch} {e : Env} {R : Room} {s : State} {m : MethodId} {args : Array Value} {below : List Frame} {meth : Method} {c : Code} {Q : State → Prop} {A : Nat → Prop} {kc ks : Nat} {ad : Nat → Nat} {top : TopS} {rd : RdS} {ra : Int32} {co : Nat → CoS} {mu : MuS} {fo : FoS} {tr : TrS} {mx : MxS} {cs_cw : Nat → Int32} {cs_ce : Nat → Int32} {cs_cn : Nat → Int32} {cs_cj : Nat → Int32} {cs_cz : Int32} {mq_aq : Nat}  {res : MaS} (C : CX V p l R s m args c A kc ks RX2 cX2_decide 4 1 23) (hq : mq_aq < 4) (K : RV V p l e R s m args below meth c Q A kc ks 4 cX2_decide (wC V ad top rd ra (updC co mq_aq (cs_cw, cs_ce, cs_cn, cs_cj, cs_cz)) mu fo tr res mq_aq mx))  : ∀ (x1 : Int32) (x2 : Int32) (y0 : Int32) (ma_aR : Int32) (ma_aB : Int32) (ma_aL : Int64) (ma_aS : Nat → Int32) (ma_aV : Nat → Int32) (ma_aH : Int32) (ma_aP : Int32) (ma_aO : Int32) (ma_aT : Int32) (ma_aC : Int32) (ma_aI : Int32), f2_decide_L31 cs_cw cs_ce cs_cn cs_cj cs_cz x1 x2 y0 (ma_aR, ma_aB, ma_aL, ma_aS, ma_aV, ma_aH, ma_aP, ma_aO, ma_aT, ma_aC, ma_aI) = some res → WC V p l e R s m args below meth c Q A kc ks 4 (wC V ad top rd ra (updC co mq_aq (cs_cw, cs_ce, cs_cn, cs_cj, cs_cz)) mu fo tr (ma_aR, ma_aB, ma_aL, ma_aS, ma_aV, ma_aH, ma_aP, ma_aO, ma_aT, ma_aC, ma_aI) mq_aq mx) 31 [(0, .ref (ad 35)), (1, .int x1), (2, .int x2)] [.int y0] := by
  intro x1 x2 y0 ma_aR ma_aB ma_aL ma_aS ma_aV ma_aH ma_aP ma_aO ma_aT ma_aC ma_aI hf
  rw [f2_decide_L31] at hf
  refine k_istore_n C dX2_decide_31 [(3, .int y0), (0, .ref (ad 35)), (1, .int x1), (2, .int x2)] (by decide) rfl ?_
  refine k_aload_n C dX2_decide_32 1 rfl ?_
  refine k_iload_n C dX2_decide_33 2 rfl ?_
  obtain ⟨⟨ma_aR_17, ma_aB_18, ma_aL_19, ma_aS_20, ma_aV_21, ma_aH_22, ma_aP_23, ma_aO_24, ma_aT_25, ma_aC_26, ma_aI_27⟩, hq_16, hf⟩ := ob_el hf
  dsimp only at hf
  refine k_callVv C (c2_reach C.2.2.2.2.2.2.2.2.2.1 hq hq_16) cm2_79 ok2_reach (by decide) 35 rfl rfl rfl rfl (Nat.le_of_ble_eq_true rfl) dX2_decide_34 ?_
  refine k_iload_n C dX2_decide_37 3 rfl ?_
  refine k_iload_n C dX2_decide_38 0 rfl ?_
  refine k_icmp_ne C 60 dX2_decide_39 (by decide) (fun hc => ?_) (fun hc => ?_)
  · replace hf := (if_neg hc).symm.trans hf
    cases hf
    exact K _ _ dX2_decide_60
  · replace hf := (if_pos hc).symm.trans hf
    refine k_aload_n C dX2_decide_42 1 rfl ?_
    refine k_iload_n C dX2_decide_43 3 rfl ?_
    obtain ⟨⟨ma_aR_29, ma_aB_30, ma_aL_31, ma_aS_32, ma_aV_33, ma_aH_34, ma_aP_35, ma_aO_36, ma_aT_37, ma_aC_38, ma_aI_39⟩, hq_28, hf⟩ := ob_el hf
    dsimp only at hf
    refine k_callVv C (c2_push C.2.2.2.2.2.2.2.2.2.1 hq_28) cm2_86 ok2_push (by decide) 35 rfl rfl rfl rfl (Nat.le_of_ble_eq_true rfl) dX2_decide_44 ?_
    refine k_aload_n C dX2_decide_47 1 rfl ?_
    refine k_aload_n C dX2_decide_48 1 rfl ?_
    refine g2_50 C dX2_decide_49 ?_
    refine g2_102 C hq dX2_decide_52 ?_
    refine k_iload_n C dX2_decide_55 2 rfl ?_
    obtain ⟨hi, hf⟩ := gd_no hf
    refine lk3 C hq hi dX2_decide_56 ?_
    refine p2_34 C dX2_decide_57 ?_
    cases hf
    exact K _ _ dX2_decide_60
set_option maxHeartbeats 4000000 in
set_option maxRecDepth 100000 in
theorem b2_decide {V : EV} {p : Program} {l : Launch} {e : Env} {R : Room} {s : State} {m : MethodId} {args : Array Value} {below : List Frame} {meth : Method} {c : Code} {Q : State → Prop} {A : Nat → Prop} {kc ks : Nat} {ad : Nat → Nat} {top : TopS} {rd : RdS} {ra : Int32} {co : Nat → CoS} {mu : MuS} {fo : FoS} {tr : TrS} {mx : MxS} {cs_cw : Nat → Int32} {cs_ce : Nat → Int32} {cs_cn : Nat → Int32} {cs_cj : Nat → Int32} {cs_cz : Int32} {mq_aq : Nat} {v1 : Int32} {ma_aR : Int32} {ma_aB : Int32} {ma_aL : Int64} {ma_aS : Nat → Int32} {ma_aV : Nat → Int32} {ma_aH : Int32} {ma_aP : Int32} {ma_aO : Int32} {ma_aT : Int32} {ma_aC : Int32} {ma_aI : Int32} {res : MaS} (C : CX V p l R s m args c A kc ks RX2 cX2_decide 4 1 23) (hq : mq_aq < 4) (hf : f2_decide v1 (cs_cw, cs_ce, cs_cn, cs_cj, cs_cz) (ma_aR, ma_aB, ma_aL, ma_aS, ma_aV, ma_aH, ma_aP, ma_aO, ma_aT, ma_aC, ma_aI) = some res) (K : RV V p l e R s m args below meth c Q A kc ks 4 cX2_decide (wC V ad top rd ra (updC co mq_aq (cs_cw, cs_ce, cs_cn, cs_cj, cs_cz)) mu fo tr res mq_aq mx)) : WC V p l e R s m args below meth c Q A kc ks 4 (wC V ad top rd ra (updC co mq_aq (cs_cw, cs_ce, cs_cn, cs_cj, cs_cz)) mu fo tr (ma_aR, ma_aB, ma_aL, ma_aS, ma_aV, ma_aH, ma_aP, ma_aO, ma_aT, ma_aC, ma_aI) mq_aq mx) 0 [(0, .ref (ad 35)), (1, .int v1)] [] := by
  rw [f2_decide] at hf
  refine k_aload_n C dX2_decide_0 0 rfl ?_
  obtain ⟨⟨r_2, ⟨ma_aR_3, ma_aB_4, ma_aL_5, ma_aS_6, ma_aV_7, ma_aH_8, ma_aP_9, ma_aO_10, ma_aT_11, ma_aC_12, ma_aI_13⟩⟩, hq_1, hf⟩ := ob_el hf
  dsimp only at hf
  refine k_callVi C (c2_pop C.2.2.2.2.2.2.2.2.2.1 hq_1) cm2_95 ok2_pop (by decide) 35 rfl rfl rfl rfl (Nat.le_of_ble_eq_true rfl) dX2_decide_1 ?_
  refine k_istore_n C dX2_decide_4 [(2, .int r_2), (0, .ref (ad 35)), (1, .int v1)] (by decide) rfl ?_
  refine k_aload_n C dX2_decide_5 1 rfl ?_
  refine g2_50 C dX2_decide_6 ?_
  refine k_iload_n C dX2_decide_9 2 rfl ?_
  refine k_aload_n C dX2_decide_10 1 rfl ?_
  refine g2_43 C dX2_decide_11 ?_
  refine k_aload_n C dX2_decide_14 1 rfl ?_
  refine g2_46 C dX2_decide_15 ?_
  obtain ⟨r_15, hq_14, hf⟩ := ob_el hf
  refine k_callCi C hq (c0_numberAt C.2.2.2.2.2.2.2.2.2.1 hq hq_14) cm2_82 ok0_numberAt (by decide) rfl rfl (Nat.le_of_ble_eq_true rfl) dX2_decide_18 ?_
  refine k_bipush (v := (38 : Int32)) C dX2_decide_21 (by decide) ?_
  refine k_icmp_ne C 30 dX2_decide_23 (by decide) (fun hc => ?_) (fun hc => ?_)
  · replace hf := (if_neg hc).symm.trans hf
    refine k_iconst (v := (1 : Int32)) C dX2_decide_30 (by decide) ?_
    refine k_sub [1, 2, 0] (L' := [(0, .ref (ad 35)), (1, .int v1), (2, .int r_2)]) rfl ?_
    exact w2_decide_L31 C hq K _ _ _ _ _ _ _ _ _ _ _ _ _ _ hf
  · replace hf := (if_pos hc).symm.trans hf
    refine k_iconst (v := (0 : Int32)) C dX2_decide_26 (by decide) ?_
    refine k_goto C 31 dX2_decide_27 (by decide) ?_
    refine k_sub [1, 2, 0] (L' := [(0, .ref (ad 35)), (1, .int v1), (2, .int r_2)]) rfl ?_
    exact w2_decide_L31 C hq K _ _ _ _ _ _ _ _ _ _ _ _ _ _ hf
theorem c2_decide {V : EV} {l : Launch} (hl0 : l.stackTraces = false) {ad : Nat → Nat} {top : TopS} {rd : RdS} {ra : Int32} {co : Nat → CoS} {mu : MuS} {fo : FoS} {tr : TrS} {mx : MxS} {cs_cw : Nat → Int32} {cs_ce : Nat → Int32} {cs_cn : Nat → Int32} {cs_cj : Nat → Int32} {cs_cz : Int32} {mq_aq : Nat} {v1 : Int32} {ma_aR : Int32} {ma_aB : Int32} {ma_aL : Int64} {ma_aS : Nat → Int32} {ma_aV : Nat → Int32} {ma_aH : Int32} {ma_aP : Int32} {ma_aO : Int32} {ma_aT : Int32} {ma_aC : Int32} {ma_aI : Int32} {res : MaS} (hq : mq_aq < 4) (hf : f2_decide v1 (cs_cw, cs_ce, cs_cn, cs_cj, cs_cz) (ma_aR, ma_aB, ma_aL, ma_aS, ma_aV, ma_aH, ma_aP, ma_aO, ma_aT, ma_aC, ma_aI) = some res) : MV V l yX2_decide cX2_decide 4 1 23 [.ref (ad 35), .int v1] (wC V ad top rd ra (updC co mq_aq (cs_cw, cs_ce, cs_cn, cs_cj, cs_cz)) mu fo tr (ma_aR, ma_aB, ma_aL, ma_aS, ma_aV, ma_aH, ma_aP, ma_aO, ma_aT, ma_aC, ma_aI) mq_aq mx) (wC V ad top rd ra (updC co mq_aq (cs_cw, cs_ce, cs_cn, cs_cj, cs_cz)) mu fo tr res mq_aq mx) :=
  mv_of hl0 (by decide +kernel) (Nat.le_of_ble_eq_true rfl) (fun p e R s m args below meth c Q A C K => b2_decide C hq hf K)

theorem ok2_begin : okCV RX2 yX2_begin 1 := by unfold okCV; decide +kernel
def f2_begin (v1 : Int32) : CoS → MaS → Option (MaS)
  | (cs_cw, cs_ce, cs_cn, cs_cj, cs_cz), (ma_aR, ma_aB, ma_aL, ma_aS, ma_aV, ma_aH, ma_aP, ma_aO, ma_aT, ma_aC, ma_aI) =>
    (f2_reach v1 (cs_cw, cs_ce, cs_cn, cs_cj, cs_cz) (ma_aR, ma_aB, ma_aL, ma_aS, ma_aV, ma_aH, ma_aP, ma_aO, ma_aT, ma_aC, ma_aI)).bind fun (ma_aR_2, ma_aB_3, ma_aL_4, ma_aS_5, ma_aV_6, ma_aH_7, ma_aP_8, ma_aO_9, ma_aT_10, ma_aC_11, ma_aI_12) => if v1 < 0 ∨ 80 ≤ v1.toNatClampNeg then none else if (cs_ce v1.toNatClampNeg) = ma_aC_11 then if v1 < 0 ∨ 80 ≤ v1.toNatClampNeg then none else some (ma_aR_2, ma_aB_3, ma_aL_4, ma_aS_5, ma_aV_6, ma_aH_7, (cs_cj v1.toNatClampNeg), ma_aO_9, ma_aT_10, ma_aC_11, ma_aI_12) else some (ma_aR_2, ma_aB_3, ma_aL_4, ma_aS_5, ma_aV_6, ma_aH_7, ma_aP_8, ma_aO_9, ma_aT_10, ma_aC_11, ma_aI_12)
set_option maxHeartbeats 4000000 in
set_option maxRecDepth 100000 in
theorem b2_begin {V : EV} {p : Program} {l : Launch} {e : Env} {R : Room} {s : State} {m : MethodId} {args : Array Value} {below : List Frame} {meth : Method} {c : Code} {Q : State → Prop} {A : Nat → Prop} {kc ks : Nat} {ad : Nat → Nat} {top : TopS} {rd : RdS} {ra : Int32} {co : Nat → CoS} {mu : MuS} {fo : FoS} {tr : TrS} {mx : MxS} {cs_cw : Nat → Int32} {cs_ce : Nat → Int32} {cs_cn : Nat → Int32} {cs_cj : Nat → Int32} {cs_cz : Int32} {mq_aq : Nat} {v1 : Int32} {ma_aR : Int32} {ma_aB : Int32} {ma_aL : Int64} {ma_aS : Nat → Int32} {ma_aV : Nat → Int32} {ma_aH : Int32} {ma_aP : Int32} {ma_aO : Int32} {ma_aT : Int32} {ma_aC : Int32} {ma_aI : Int32} {res : MaS} (C : CX V p l R s m args c A kc ks RX2 cX2_begin 2 1 21) (hq : mq_aq < 4) (hf : f2_begin v1 (cs_cw, cs_ce, cs_cn, cs_cj, cs_cz) (ma_aR, ma_aB, ma_aL, ma_aS, ma_aV, ma_aH, ma_aP, ma_aO, ma_aT, ma_aC, ma_aI) = some res) (K : RV V p l e R s m args below meth c Q A kc ks 2 cX2_begin (wC V ad top rd ra (updC co mq_aq (cs_cw, cs_ce, cs_cn, cs_cj, cs_cz)) mu fo tr res mq_aq mx)) : WC V p l e R s m args below meth c Q A kc ks 2 (wC V ad top rd ra (updC co mq_aq (cs_cw, cs_ce, cs_cn, cs_cj, cs_cz)) mu fo tr (ma_aR, ma_aB, ma_aL, ma_aS, ma_aV, ma_aH, ma_aP, ma_aO, ma_aT, ma_aC, ma_aI) mq_aq mx) 0 [(0, .ref (ad 35)), (1, .int v1)] [] := by
  rw [f2_begin] at hf
  refine k_aload_n C dX2_begin_0 0 rfl ?_
  refine k_iload_n C dX2_begin_1 1 rfl ?_
  obtain ⟨⟨ma_aR_2, ma_aB_3, ma_aL_4, ma_aS_5, ma_aV_6, ma_aH_7, ma_aP_8, ma_aO_9, ma_aT_10, ma_aC_11, ma_aI_12⟩, hq_1, hf⟩ := ob_el hf
  dsimp only at hf
  refine k_callVv C (c2_reach C.2.2.2.2.2.2.2.2.2.1 hq hq_1) cm2_79 ok2_reach (by decide) 35 rfl rfl rfl rfl (Nat.le_of_ble_eq_true rfl) dX2_begin_2 ?_
  refine k_aload_n C dX2_begin_5 0 rfl ?_
  refine g2_50 C dX2_begin_6 ?_
  refine g2_108 C hq dX2_begin_9 ?_
  refine k_iload_n C dX2_begin_12 1 rfl ?_
  obtain ⟨hi, hf⟩ := gd_no hf
  refine lk1 C hq hi dX2_begin_13 ?_
  refine k_aload_n C dX2_begin_14 0 rfl ?_
  refine g2_43 C dX2_begin_15 ?_
  refine k_icmp_ne C 34 dX2_begin_18 (by decide) (fun hc => ?_) (fun hc => ?_)
  · replace hf := (if_neg hc).symm.trans hf
    cases hf
    exact K _ _ dX2_begin_34
  · replace hf := (if_pos hc).symm.trans hf
    refine k_aload_n C dX2_begin_21 0 rfl ?_
    refine k_aload_n C dX2_begin_22 0 rfl ?_
    refine g2_50 C dX2_begin_23 ?_
    refine g2_102 C hq dX2_begin_26 ?_
    refine k_iload_n C dX2_begin_29 1 rfl ?_
    obtain ⟨hi, hf⟩ := gd_no hf
    refine lk3 C hq hi dX2_begin_30 ?_
    refine p2_34 C dX2_begin_31 ?_
    cases hf
    exact K _ _ dX2_begin_34
theorem c2_begin {V : EV} {l : Launch} (hl0 : l.stackTraces = false) {ad : Nat → Nat} {top : TopS} {rd : RdS} {ra : Int32} {co : Nat → CoS} {mu : MuS} {fo : FoS} {tr : TrS} {mx : MxS} {cs_cw : Nat → Int32} {cs_ce : Nat → Int32} {cs_cn : Nat → Int32} {cs_cj : Nat → Int32} {cs_cz : Int32} {mq_aq : Nat} {v1 : Int32} {ma_aR : Int32} {ma_aB : Int32} {ma_aL : Int64} {ma_aS : Nat → Int32} {ma_aV : Nat → Int32} {ma_aH : Int32} {ma_aP : Int32} {ma_aO : Int32} {ma_aT : Int32} {ma_aC : Int32} {ma_aI : Int32} {res : MaS} (hq : mq_aq < 4) (hf : f2_begin v1 (cs_cw, cs_ce, cs_cn, cs_cj, cs_cz) (ma_aR, ma_aB, ma_aL, ma_aS, ma_aV, ma_aH, ma_aP, ma_aO, ma_aT, ma_aC, ma_aI) = some res) : MV V l yX2_begin cX2_begin 2 1 21 [.ref (ad 35), .int v1] (wC V ad top rd ra (updC co mq_aq (cs_cw, cs_ce, cs_cn, cs_cj, cs_cz)) mu fo tr (ma_aR, ma_aB, ma_aL, ma_aS, ma_aV, ma_aH, ma_aP, ma_aO, ma_aT, ma_aC, ma_aI) mq_aq mx) (wC V ad top rd ra (updC co mq_aq (cs_cw, cs_ce, cs_cn, cs_cj, cs_cz)) mu fo tr res mq_aq mx) :=
  mv_of hl0 (by decide +kernel) (Nat.le_of_ble_eq_true rfl) (fun p e R s m args below meth c Q A C K => b2_begin C hq hf K)

theorem ok2_check : okCV RX2 yX2_check 0 := by unfold okCV; decide +kernel
def f2_check  : MaS → Option (MaS)
  | (ma_aR, ma_aB, ma_aL, ma_aS, ma_aV, ma_aH, ma_aP, ma_aO, ma_aT, ma_aC, ma_aI) =>
    (f2_pop (ma_aR, ma_aB, ma_aL, ma_aS, ma_aV, ma_aH, ma_aP, ma_aO, ma_aT, ma_aC, ma_aI)).bind fun (r_2, (ma_aR_3, ma_aB_4, ma_aL_5, ma_aS_6, ma_aV_7, ma_aH_8, ma_aP_9, ma_aO_10, ma_aT_11, ma_aC_12, ma_aI_13)) => if r_2 = 0 then some (ma_aR_3, ma_aB_4, ma_aL_5, ma_aS_6, ma_aV_7, ma_aH_8, ma_aP_9, (2 : Int32), ma_aT_11, ma_aC_12, ma_aI_13) else some (ma_aR_3, ma_aB_4, ma_aL_5, ma_aS_6, ma_aV_7, ma_aH_8, ma_aP_9, ma_aO_10, ma_aT_11, ma_aC_12, ma_aI_13)
set_option maxHeartbeats 4000000 in
set_option maxRecDepth 100000 in
theorem b2_check {V : EV} {p : Program} {l : Launch} {e : Env} {R : Room} {s : State} {m : MethodId} {args : Array Value} {below : List Frame} {meth : Method} {c : Code} {Q : State → Prop} {A : Nat → Prop} {kc ks : Nat} {ad : Nat → Nat} {top : TopS} {rd : RdS} {ra : Int32} {co : Nat → CoS} {mu : MuS} {fo : FoS} {tr : TrS} {mq : Nat} {mx : MxS} {ma_aR : Int32} {ma_aB : Int32} {ma_aL : Int64} {ma_aS : Nat → Int32} {ma_aV : Nat → Int32} {ma_aH : Int32} {ma_aP : Int32} {ma_aO : Int32} {ma_aT : Int32} {ma_aC : Int32} {ma_aI : Int32} {res : MaS} (C : CX V p l R s m args c A kc ks RX2 cX2_check 1 1 20) (hf : f2_check (ma_aR, ma_aB, ma_aL, ma_aS, ma_aV, ma_aH, ma_aP, ma_aO, ma_aT, ma_aC, ma_aI) = some res) (K : RV V p l e R s m args below meth c Q A kc ks 1 cX2_check (wC V ad top rd ra co mu fo tr res mq mx)) : WC V p l e R s m args below meth c Q A kc ks 1 (wC V ad top rd ra co mu fo tr (ma_aR, ma_aB, ma_aL, ma_aS, ma_aV, ma_aH, ma_aP, ma_aO, ma_aT, ma_aC, ma_aI) mq mx) 0 [(0, .ref (ad 35))] [] := by
  rw [f2_check] at hf
  refine k_aload_n C dX2_check_0 0 rfl ?_
  obtain ⟨⟨r_2, ⟨ma_aR_3, ma_aB_4, ma_aL_5, ma_aS_6, ma_aV_7, ma_aH_8, ma_aP_9, ma_aO_10, ma_aT_11, ma_aC_12, ma_aI_13⟩⟩, hq_1, hf⟩ := ob_el hf
  dsimp only at hf
  refine k_callVi C (c2_pop C.2.2.2.2.2.2.2.2.2.1 hq_1) cm2_95 ok2_pop (by decide) 35 rfl rfl rfl rfl (Nat.le_of_ble_eq_true rfl) dX2_check_1 ?_
  refine k_if_ne C 12 dX2_check_4 (by decide) (fun hc => ?_) (fun hc => ?_)
  · replace hf := (if_neg hc).symm.trans hf
    cases hf
    exact K _ _ dX2_check_12
  · replace hf := (if_pos hc).symm.trans hf
    refine k_aload_n C dX2_check_7 0 rfl ?_
    refine k_iconst (v := (2 : Int32)) C dX2_check_8 (by decide) ?_
    refine p2_37 C dX2_check_9 ?_
    cases hf
    exact K _ _ dX2_check_12
theorem c2_check {V : EV} {l : Launch} (hl0 : l.stackTraces = false) {ad : Nat → Nat} {top : TopS} {rd : RdS} {ra : Int32} {co : Nat → CoS} {mu : MuS} {fo : FoS} {tr : TrS} {mq : Nat} {mx : MxS} {ma_aR : Int32} {ma_aB : Int32} {ma_aL : Int64} {ma_aS : Nat → Int32} {ma_aV : Nat → Int32} {ma_aH : Int32} {ma_aP : Int32} {ma_aO : Int32} {ma_aT : Int32} {ma_aC : Int32} {ma_aI : Int32} {res : MaS} (hf : f2_check (ma_aR, ma_aB, ma_aL, ma_aS, ma_aV, ma_aH, ma_aP, ma_aO, ma_aT, ma_aC, ma_aI) = some res) : MV V l yX2_check cX2_check 1 1 20 [.ref (ad 35)] (wC V ad top rd ra co mu fo tr (ma_aR, ma_aB, ma_aL, ma_aS, ma_aV, ma_aH, ma_aP, ma_aO, ma_aT, ma_aC, ma_aI) mq mx) (wC V ad top rd ra co mu fo tr res mq mx) :=
  mv_of hl0 (by decide +kernel) (Nat.le_of_ble_eq_true rfl) (fun p e R s m args below meth c Q A C K => b2_check C hf K)

theorem ok2_enterBody : okCV RX2 yX2_enterBody 1 := by unfold okCV; decide +kernel
def f2_enterBody (v1 : Int32) : CoS → MaS → Option (MaS)
  | (cs_cw, cs_ce, cs_cn, cs_cj, cs_cz), (ma_aR, ma_aB, ma_aL, ma_aS, ma_aV, ma_aH, ma_aP, ma_aO, ma_aT, ma_aC, ma_aI) =>
    (f2_pop (ma_aR, ma_aB, ma_aL, ma_aS, ma_aV, ma_aH, ma_aP, ma_aO, ma_aT, ma_aC, ma_aI)).bind fun (r_2, (ma_aR_3, ma_aB_4, ma_aL_5, ma_aS_6, ma_aV_7, ma_aH_8, ma_aP_9, ma_aO_10, ma_aT_11, ma_aC_12, ma_aI_13)) => if r_2 = 0 then if v1 < 0 ∨ 80 ≤ v1.toNatClampNeg then none else some (ma_aR_3, ma_aB_4, ma_aL_5, ma_aS_6, ma_aV_7, ma_aH_8, (cs_cj v1.toNatClampNeg), ma_aO_10, ma_aT_11, ma_aC_12, ma_aI_13) else if ma_aB_4 = ma_aT_11 then some (ma_aR_3, ma_aB_4, ma_aL_5, ma_aS_6, ma_aV_7, ma_aH_8, ma_aP_9, (3 : Int32), ma_aT_11, ma_aC_12, ma_aI_13) else some (ma_aR_3, (ma_aB_4 + (1 : Int32)), ma_aL_5, ma_aS_6, ma_aV_7, ma_aH_8, ma_aP_9, ma_aO_10, ma_aT_11, ma_aC_12, ma_aI_13)
set_option maxHeartbeats 4000000 in
set_option maxRecDepth 100000 in
theorem b2_enterBody {V : EV} {p : Program} {l : Launch} {e : Env} {R : Room} {s : State} {m : MethodId} {args : Array Value} {below : List Frame} {meth : Method} {c : Code} {Q : State → Prop} {A : Nat → Prop} {kc ks : Nat} {ad : Nat → Nat} {top : TopS} {rd : RdS} {ra : Int32} {co : Nat → CoS} {mu : MuS} {fo : FoS} {tr : TrS} {mx : MxS} {cs_cw : Nat → Int32} {cs_ce : Nat → Int32} {cs_cn : Nat → Int32} {cs_cj : Nat → Int32} {cs_cz : Int32} {mq_aq : Nat} {v1 : Int32} {ma_aR : Int32} {ma_aB : Int32} {ma_aL : Int64} {ma_aS : Nat → Int32} {ma_aV : Nat → Int32} {ma_aH : Int32} {ma_aP : Int32} {ma_aO : Int32} {ma_aT : Int32} {ma_aC : Int32} {ma_aI : Int32} {res : MaS} (C : CX V p l R s m args c A kc ks RX2 cX2_enterBody 2 1 20) (hq : mq_aq < 4) (hf : f2_enterBody v1 (cs_cw, cs_ce, cs_cn, cs_cj, cs_cz) (ma_aR, ma_aB, ma_aL, ma_aS, ma_aV, ma_aH, ma_aP, ma_aO, ma_aT, ma_aC, ma_aI) = some res) (K : RV V p l e R s m args below meth c Q A kc ks 2 cX2_enterBody (wC V ad top rd ra (updC co mq_aq (cs_cw, cs_ce, cs_cn, cs_cj, cs_cz)) mu fo tr res mq_aq mx)) : WC V p l e R s m args below meth c Q A kc ks 2 (wC V ad top rd ra (updC co mq_aq (cs_cw, cs_ce, cs_cn, cs_cj, cs_cz)) mu fo tr (ma_aR, ma_aB, ma_aL, ma_aS, ma_aV, ma_aH, ma_aP, ma_aO, ma_aT, ma_aC, ma_aI) mq_aq mx) 0 [(0, .ref (ad 35)), (1, .int v1)] [] := by
  rw [f2_enterBody] at hf
  refine k_aload_n C dX2_enterBody_0 0 rfl ?_
  obtain ⟨⟨r_2, ⟨ma_aR_3, ma_aB_4, ma_aL_5, ma_aS_6, ma_aV_7, ma_aH_8, ma_aP_9, ma_aO_10, ma_aT_11, ma_aC_12, ma_aI_13⟩⟩, hq_1, hf⟩ := ob_el hf
  dsimp only at hf
  refine k_callVi C (c2_pop C.2.2.2.2.2.2.2.2.2.1 hq_1) cm2_95 ok2_pop (by decide) 35 rfl rfl rfl rfl (Nat.le_of_ble_eq_true rfl) dX2_enterBody_1 ?_
  refine k_if_ne C 23 dX2_enterBody_4 (by decide) (fun hc => ?_) (fun hc => ?_)
  · replace hf := (if_neg hc).symm.trans hf
    refine k_aload_n C dX2_enterBody_23 0 rfl ?_
    refine g2_17 C dX2_enterBody_24 ?_
    refine k_aload_n C dX2_enterBody_27 0 rfl ?_
    refine g2_40 C dX2_enterBody_28 ?_
    refine k_icmp_ne C 42 dX2_enterBody_31 (by decide) (fun hc => ?_) (fun hc => ?_)
    · replace hf := (if_neg hc).symm.trans hf
      refine k_aload_n C dX2_enterBody_42 0 rfl ?_
      refine k_dup C dX2_enterBody_43 rfl ?_
      refine g2_17 C dX2_enterBody_44 ?_
      refine k_iconst (v := (1 : Int32)) C dX2_enterBody_47 (by decide) ?_
      refine k_iadd C dX2_enterBody_48 ?_
      refine p2_17 C dX2_enterBody_49 ?_
      cases hf
      exact K _ _ dX2_enterBody_52
    · replace hf := (if_pos hc).symm.trans hf
      refine k_aload_n C dX2_enterBody_34 0 rfl ?_
      refine k_iconst (v := (3 : Int32)) C dX2_enterBody_35 (by decide) ?_
      refine p2_37 C dX2_enterBody_36 ?_
      refine k_goto C 52 dX2_enterBody_39 (by decide) ?_
      cases hf
      exact K _ _ dX2_enterBody_52
  · replace hf := (if_pos hc).symm.trans hf
    refine k_aload_n C dX2_enterBody_7 0 rfl ?_
    refine k_aload_n C dX2_enterBody_8 0 rfl ?_
    refine g2_50 C dX2_enterBody_9 ?_
    refine g2_102 C hq dX2_enterBody_12 ?_
    refine k_iload_n C dX2_enterBody_15 1 rfl ?_
    obtain ⟨hi, hf⟩ := gd_no hf
    refine lk3 C hq hi dX2_enterBody_16 ?_
    refine p2_34 C dX2_enterBody_17 ?_
    refine k_goto C 52 dX2_enterBody_20 (by decide) ?_
    cases hf
    exact K _ _ dX2_enterBody_52
theorem c2_enterBody {V : EV} {l : Launch} (hl0 : l.stackTraces = false) {ad : Nat → Nat} {top : TopS} {rd : RdS} {ra : Int32} {co : Nat → CoS} {mu : MuS} {fo : FoS} {tr : TrS} {mx : MxS} {cs_cw : Nat → Int32} {cs_ce : Nat → Int32} {cs_cn : Nat → Int32} {cs_cj : Nat → Int32} {cs_cz : Int32} {mq_aq : Nat} {v1 : Int32} {ma_aR : Int32} {ma_aB : Int32} {ma_aL : Int64} {ma_aS : Nat → Int32} {ma_aV : Nat → Int32} {ma_aH : Int32} {ma_aP : Int32} {ma_aO : Int32} {ma_aT : Int32} {ma_aC : Int32} {ma_aI : Int32} {res : MaS} (hq : mq_aq < 4) (hf : f2_enterBody v1 (cs_cw, cs_ce, cs_cn, cs_cj, cs_cz) (ma_aR, ma_aB, ma_aL, ma_aS, ma_aV, ma_aH, ma_aP, ma_aO, ma_aT, ma_aC, ma_aI) = some res) : MV V l yX2_enterBody cX2_enterBody 2 1 20 [.ref (ad 35), .int v1] (wC V ad top rd ra (updC co mq_aq (cs_cw, cs_ce, cs_cn, cs_cj, cs_cz)) mu fo tr (ma_aR, ma_aB, ma_aL, ma_aS, ma_aV, ma_aH, ma_aP, ma_aO, ma_aT, ma_aC, ma_aI) mq_aq mx) (wC V ad top rd ra (updC co mq_aq (cs_cw, cs_ce, cs_cn, cs_cj, cs_cz)) mu fo tr res mq_aq mx) :=
  mv_of hl0 (by decide +kernel) (Nat.le_of_ble_eq_true rfl) (fun p e R s m args below meth c Q A C K => b2_enterBody C hq hf K)

theorem cm2_70 : ∀ a ∈ wsCV RX2 70 RX2 yX2_apply cX2_apply 5 none, a ∈ GW := by
  unfold wsCV
  exact (List.forall_mem_cons.mpr ⟨(gw_4 (i := 137) (by decide +kernel) rfl), (List.forall_mem_cons.mpr ⟨(gw_4 (i := 139) (by decide +kernel) rfl), (List.forall_mem_cons.mpr ⟨(gw_p (q := ((yX2_apply, 12) : MethodName × Nat)) (List.mem_append_right _ (List.mem_append_right _ (List.mem_append_right _ (List.mem_append_left _ (List.mem_of_getElem? (i := 2) (by decide +kernel)))))) rfl), (List.forall_mem_cons.mpr ⟨(gw_1 (i := 7) (by decide +kernel) rfl), (List.forall_mem_cons.mpr ⟨(gw_4 (i := 140) (by decide +kernel) rfl), (List.forall_mem_nil _)⟩)⟩)⟩)⟩)⟩)
theorem cm2_73 : ∀ a ∈ wsCV RX2 73 RX2 yX2_compare cX2_compare 4 none, a ∈ GW := by
  unfold wsCV
  exact (List.forall_mem_cons.mpr ⟨(gw_4 (i := 156) (by decide +kernel) rfl), (List.forall_mem_cons.mpr ⟨(gw_4 (i := 158) (by decide +kernel) rfl), (List.forall_mem_cons.mpr ⟨(gw_p (q := ((yX2_compare, 12) : MethodName × Nat)) (List.mem_append_right _ (List.mem_append_right _ (List.mem_append_right _ (List.mem_append_left _ (List.mem_of_getElem? (i := 6) (by decide +kernel)))))) rfl), (List.forall_mem_cons.mpr ⟨(gw_1 (i := 7) (by decide +kernel) rfl), (List.forall_mem_cons.mpr ⟨(gw_4 (i := 159) (by decide +kernel) rfl), (List.forall_mem_nil _)⟩)⟩)⟩)⟩)⟩)
theorem cm2_76 : ∀ a ∈ wsCV RX2 76 RX2 yX2_decide cX2_decide 4 none, a ∈ GW := by
  unfold wsCV
  exact (List.forall_mem_cons.mpr ⟨(gw_4 (i := 161) (by decide +kernel) rfl), (List.forall_mem_cons.mpr ⟨(gw_4 (i := 163) (by decide +kernel) rfl), (List.forall_mem_cons.mpr ⟨(gw_p (q := ((yX2_decide, 12) : MethodName × Nat)) (List.mem_append_right _ (List.mem_append_right _ (List.mem_append_right _ (List.mem_append_left _ (List.mem_of_getElem? (i := 7) (by decide +kernel)))))) rfl), (List.forall_mem_cons.mpr ⟨(gw_1 (i := 7) (by decide +kernel) rfl), (List.forall_mem_cons.mpr ⟨(gw_4 (i := 164) (by decide +kernel) rfl), (List.forall_mem_nil _)⟩)⟩)⟩)⟩)⟩)
theorem cm2_89 : ∀ a ∈ wsCV RX2 89 RX2 yX2_begin cX2_begin 2 none, a ∈ GW := by
  unfold wsCV
  exact (List.forall_mem_cons.mpr ⟨(gw_4 (i := 165) (by decide +kernel) rfl), (List.forall_mem_cons.mpr ⟨(gw_4 (i := 167) (by decide +kernel) rfl), (List.forall_mem_cons.mpr ⟨(gw_p (q := ((yX2_begin, 12) : MethodName × Nat)) (List.mem_append_right _ (List.mem_append_right _ (List.mem_append_right _ (List.mem_append_left _ (List.mem_of_getElem? (i := 8) (by decide +kernel)))))) rfl), (List.forall_mem_cons.mpr ⟨(gw_1 (i := 7) (by decide +kernel) rfl), (List.forall_mem_cons.mpr ⟨(gw_4 (i := 168) (by decide +kernel) rfl), (List.forall_mem_nil _)⟩)⟩)⟩)⟩)⟩)
theorem cm2_99 : ∀ a ∈ wsCV RX2 99 RX2 yX2_check cX2_check 1 none, a ∈ GW := by
  unfold wsCV
  exact (List.forall_mem_cons.mpr ⟨(gw_4 (i := 169) (by decide +kernel) rfl), (List.forall_mem_cons.mpr ⟨(gw_4 (i := 171) (by decide +kernel) rfl), (List.forall_mem_cons.mpr ⟨(gw_p (q := ((yX2_check, 12) : MethodName × Nat)) (List.mem_append_right _ (List.mem_append_right _ (List.mem_append_right _ (List.mem_append_left _ (List.mem_of_getElem? (i := 9) (by decide +kernel)))))) rfl), (List.forall_mem_cons.mpr ⟨(gw_1 (i := 7) (by decide +kernel) rfl), (List.forall_mem_cons.mpr ⟨(gw_4 (i := 172) (by decide +kernel) rfl), (List.forall_mem_nil _)⟩)⟩)⟩)⟩)⟩)
theorem cm2_105 : ∀ a ∈ wsCV RX2 105 RX2 yX2_enterBody cX2_enterBody 2 none, a ∈ GW := by
  unfold wsCV
  exact (List.forall_mem_cons.mpr ⟨(gw_4 (i := 173) (by decide +kernel) rfl), (List.forall_mem_cons.mpr ⟨(gw_4 (i := 175) (by decide +kernel) rfl), (List.forall_mem_cons.mpr ⟨(gw_p (q := ((yX2_enterBody, 12) : MethodName × Nat)) (List.mem_append_right _ (List.mem_append_right _ (List.mem_append_right _ (List.mem_append_left _ (List.mem_of_getElem? (i := 10) (by decide +kernel)))))) rfl), (List.forall_mem_cons.mpr ⟨(gw_1 (i := 7) (by decide +kernel) rfl), (List.forall_mem_cons.mpr ⟨(gw_4 (i := 176) (by decide +kernel) rfl), (List.forall_mem_nil _)⟩)⟩)⟩)⟩)⟩)
theorem ok2_step : okCV RX2 yX2_step 1 := by unfold okCV; decide +kernel
def f2_step (v1 : Int32) : CoS → MaS → Option (MaS)
  | (cs_cw, cs_ce, cs_cn, cs_cj, cs_cz), (ma_aR, ma_aB, ma_aL, ma_aS, ma_aV, ma_aH, ma_aP, ma_aO, ma_aT, ma_aC, ma_aI) =>
    if v1 < 0 ∨ 80 ≤ v1.toNatClampNeg then none else if (cs_cw v1.toNatClampNeg) = (0 : Int32) then (f2_apply v1 (cs_cw, cs_ce, cs_cn, cs_cj, cs_cz) (ma_aR, ma_aB, ma_aL, ma_aS, ma_aV, ma_aH, ma_aP, ma_aO, ma_aT, ma_aC, ma_aI)).bind fun (ma_aR_2, ma_aB_3, ma_aL_4, ma_aS_5, ma_aV_6, ma_aH_7, ma_aP_8, ma_aO_9, ma_aT_10, ma_aC_11, ma_aI_12) => some (ma_aR_2, ma_aB_3, ma_aL_4, ma_aS_5, ma_aV_6, ma_aH_7, ma_aP_8, ma_aO_9, ma_aT_10, ma_aC_11, ma_aI_12) else if (cs_cw v1.toNatClampNeg) = (1 : Int32) then (f2_compare v1 (cs_cw, cs_ce, cs_cn, cs_cj, cs_cz) (ma_aR, ma_aB, ma_aL, ma_aS, ma_aV, ma_aH, ma_aP, ma_aO, ma_aT, ma_aC, ma_aI)).bind fun (ma_aR_14, ma_aB_15, ma_aL_16, ma_aS_17, ma_aV_18, ma_aH_19, ma_aP_20, ma_aO_21, ma_aT_22, ma_aC_23, ma_aI_24) => some (ma_aR_14, ma_aB_15, ma_aL_16, ma_aS_17, ma_aV_18, ma_aH_19, ma_aP_20, ma_aO_21, ma_aT_22, ma_aC_23, ma_aI_24) else if (cs_cw v1.toNatClampNeg) = (2 : Int32) then (f2_decide v1 (cs_cw, cs_ce, cs_cn, cs_cj, cs_cz) (ma_aR, ma_aB, ma_aL, ma_aS, ma_aV, ma_aH, ma_aP, ma_aO, ma_aT, ma_aC, ma_aI)).bind fun (ma_aR_26, ma_aB_27, ma_aL_28, ma_aS_29, ma_aV_30, ma_aH_31, ma_aP_32, ma_aO_33, ma_aT_34, ma_aC_35, ma_aI_36) => some (ma_aR_26, ma_aB_27, ma_aL_28, ma_aS_29, ma_aV_30, ma_aH_31, ma_aP_32, ma_aO_33, ma_aT_34, ma_aC_35, ma_aI_36) else if (cs_cw v1.toNatClampNeg) = (3 : Int32) then (f2_reach v1 (cs_cw, cs_ce, cs_cn, cs_cj, cs_cz) (ma_aR, ma_aB, ma_aL, ma_aS, ma_aV, ma_aH, ma_aP, ma_aO, ma_aT, ma_aC, ma_aI)).bind fun (ma_aR_38, ma_aB_39, ma_aL_40, ma_aS_41, ma_aV_42, ma_aH_43, ma_aP_44, ma_aO_45, ma_aT_46, ma_aC_47, ma_aI_48) => (f0_numberAt v1 ma_aC_47 ma_aI_48 (cs_cw, cs_ce, cs_cn, cs_cj, cs_cz)).bind fun r_50 => (f2_push r_50 (ma_aR_38, ma_aB_39, ma_aL_40, ma_aS_41, ma_aV_42, ma_aH_43, ma_aP_44, ma_aO_45, ma_aT_46, ma_aC_47, ma_aI_48)).bind fun (ma_aR_52, ma_aB_53, ma_aL_54, ma_aS_55, ma_aV_56, ma_aH_57, ma_aP_58, ma_aO_59, ma_aT_60, ma_aC_61, ma_aI_62) => some (ma_aR_52, ma_aB_53, ma_aL_54, ma_aS_55, ma_aV_56, ma_aH_57, ma_aP_58, ma_aO_59, ma_aT_60, ma_aC_61, ma_aI_62) else if (cs_cw v1.toNatClampNeg) = (4 : Int32) then (f2_begin v1 (cs_cw, cs_ce, cs_cn, cs_cj, cs_cz) (ma_aR, ma_aB, ma_aL, ma_aS, ma_aV, ma_aH, ma_aP, ma_aO, ma_aT, ma_aC, ma_aI)).bind fun (ma_aR_64, ma_aB_65, ma_aL_66, ma_aS_67, ma_aV_68, ma_aH_69, ma_aP_70, ma_aO_71, ma_aT_72, ma_aC_73, ma_aI_74) => some (ma_aR_64, ma_aB_65, ma_aL_66, ma_aS_67, ma_aV_68, ma_aH_69, ma_aP_70, ma_aO_71, ma_aT_72, ma_aC_73, ma_aI_74) else if (cs_cw v1.toNatClampNeg) = (5 : Int32) then if v1 < 0 ∨ 80 ≤ v1.toNatClampNeg then none else if (cs_cn v1.toNatClampNeg) < 0 ∨ 8 ≤ (cs_cn v1.toNatClampNeg).toNatClampNeg then none else (f2_push (ma_aV (cs_cn v1.toNatClampNeg).toNatClampNeg) (ma_aR, ma_aB, ma_aL, ma_aS, ma_aV, ma_aH, ma_aP, ma_aO, ma_aT, ma_aC, ma_aI)).bind fun (ma_aR_76, ma_aB_77, ma_aL_78, ma_aS_79, ma_aV_80, ma_aH_81, ma_aP_82, ma_aO_83, ma_aT_84, ma_aC_85, ma_aI_86) => some (ma_aR_76, ma_aB_77, ma_aL_78, ma_aS_79, ma_aV_80, ma_aH_81, ma_aP_82, ma_aO_83, ma_aT_84, ma_aC_85, ma_aI_86) else if (cs_cw v1.toNatClampNeg) = (7 : Int32) then if v1 < 0 ∨ 80 ≤ v1.toNatClampNeg then none else (f2_pop (ma_aR, ma_aB, ma_aL, ma_aS, ma_aV, ma_aH, ma_aP, ma_aO, ma_aT, ma_aC, ma_aI)).bind fun (r_88, (ma_aR_89, ma_aB_90, ma_aL_91, ma_aS_92, ma_aV_93, ma_aH_94, ma_aP_95, ma_aO_96, ma_aT_97, ma_aC_98, ma_aI_99)) => if (cs_cn v1.toNatClampNeg) < 0 ∨ 8 ≤ (cs_cn v1.toNatClampNeg).toNatClampNeg then none else some (ma_aR_89, ma_aB_90, ma_aL_91, ma_aS_92, (upd ma_aV_93 (cs_cn v1.toNatClampNeg).toNatClampNeg r_88), ma_aH_94, ma_aP_95, ma_aO_96, ma_aT_97, ma_aC_98, ma_aI_99) else if (cs_cw v1.toNatClampNeg) = (8 : Int32) then (f2_check (ma_aR, ma_aB, ma_aL, ma_aS, ma_aV, ma_aH, ma_aP, ma_aO, ma_aT, ma_aC, ma_aI)).bind fun (ma_aR_101, ma_aB_102, ma_aL_103, ma_aS_104, ma_aV_105, ma_aH_106, ma_aP_107, ma_aO_108, ma_aT_109, ma_aC_110, ma_aI_111) => some (ma_aR_101, ma_aB_102, ma_aL_103, ma_aS_104, ma_aV_105, ma_aH_106, ma_aP_107, ma_aO_108, ma_aT_109, ma_aC_110, ma_aI_111) else if (cs_cw v1.toNatClampNeg) = (9 : Int32) then (f2_pop (ma_aR, ma_aB, ma_aL, ma_aS, ma_aV, ma_aH, ma_aP, ma_aO, ma_aT, ma_aC, ma_aI)).bind fun (r_113, (ma_aR_114, ma_aB_115, ma_aL_116, ma_aS_117, ma_aV_118, ma_aH_119, ma_aP_120, ma_aO_121, ma_aT_122, ma_aC_123, ma_aI_124)) => some (r_113, ma_aB_115, ma_aL_116, ma_aS_117, ma_aV_118, ma_aH_119, ma_aP_120, (0 : Int32), ma_aT_122, ma_aC_123, ma_aI_124) else if (cs_cw v1.toNatClampNeg) = (10 : Int32) then (f2_pop (ma_aR, ma_aB, ma_aL, ma_aS, ma_aV, ma_aH, ma_aP, ma_aO, ma_aT, ma_aC, ma_aI)).bind fun (r_126, (ma_aR_127, ma_aB_128, ma_aL_129, ma_aS_130, ma_aV_131, ma_aH_132, ma_aP_133, ma_aO_134, ma_aT_135, ma_aC_136, ma_aI_137)) => if r_126 = 0 then if v1 < 0 ∨ 80 ≤ v1.toNatClampNeg then none else some (ma_aR_127, ma_aB_128, ma_aL_129, ma_aS_130, ma_aV_131, ma_aH_132, (cs_cj v1.toNatClampNeg), ma_aO_134, ma_aT_135, ma_aC_136, ma_aI_137) else some (ma_aR_127, ma_aB_128, ma_aL_129, ma_aS_130, ma_aV_131, ma_aH_132, ma_aP_133, ma_aO_134, ma_aT_135, ma_aC_136, ma_aI_137) else if (cs_cw v1.toNatClampNeg) = (11 : Int32) then if v1 < 0 ∨ 80 ≤ v1.toNatClampNeg then none else some (ma_aR, ma_aB, ma_aL, ma_aS, ma_aV, ma_aH, (cs_cj v1.toNatClampNeg), ma_aO, ma_aT, ma_aC, ma_aI) else if (cs_cw v1.toNatClampNeg) = (13 : Int32) then (f2_enterBody v1 (cs_cw, cs_ce, cs_cn, cs_cj, cs_cz) (ma_aR, ma_aB, ma_aL, ma_aS, ma_aV, ma_aH, ma_aP, ma_aO, ma_aT, ma_aC, ma_aI)).bind fun (ma_aR_139, ma_aB_140, ma_aL_141, ma_aS_142, ma_aV_143, ma_aH_144, ma_aP_145, ma_aO_146, ma_aT_147, ma_aC_148, ma_aI_149) => some (ma_aR_139, ma_aB_140, ma_aL_141, ma_aS_142, ma_aV_143, ma_aH_144, ma_aP_145, ma_aO_146, ma_aT_147, ma_aC_148, ma_aI_149) else if (cs_cw v1.toNatClampNeg) = (14 : Int32) then if v1 < 0 ∨ 80 ≤ v1.toNatClampNeg then none else some (ma_aR, ma_aB, ma_aL, ma_aS, ma_aV, ma_aH, (cs_cj v1.toNatClampNeg), ma_aO, ma_aT, ma_aC, ma_aI) else some (ma_aR, ma_aB, ma_aL, ma_aS, ma_aV, ma_aH, ma_aP, ma_aO, ma_aT, ma_aC, ma_aI)
set_option maxHeartbeats 4000000 in
set_option maxRecDepth 100000 in
theorem b2_step {V : EV} {p : Program} {l : Launch} {e : Env} {R : Room} {s : State} {m : MethodId} {args : Array Value} {below : List Frame} {meth : Method} {c : Code} {Q : State → Prop} {A : Nat → Prop} {kc ks : Nat} {ad : Nat → Nat} {top : TopS} {rd : RdS} {ra : Int32} {co : Nat → CoS} {mu : MuS} {fo : FoS} {tr : TrS} {mx : MxS} {cs_cw : Nat → Int32} {cs_ce : Nat → Int32} {cs_cn : Nat → Int32} {cs_cj : Nat → Int32} {cs_cz : Int32} {mq_aq : Nat} {v1 : Int32} {ma_aR : Int32} {ma_aB : Int32} {ma_aL : Int64} {ma_aS : Nat → Int32} {ma_aV : Nat → Int32} {ma_aH : Int32} {ma_aP : Int32} {ma_aO : Int32} {ma_aT : Int32} {ma_aC : Int32} {ma_aI : Int32} {res : MaS} (C : CX V p l R s m args c A kc ks RX2 cX2_step 2 2 47) (hq : mq_aq < 4) (hf : f2_step v1 (cs_cw, cs_ce, cs_cn, cs_cj, cs_cz) (ma_aR, ma_aB, ma_aL, ma_aS, ma_aV, ma_aH, ma_aP, ma_aO, ma_aT, ma_aC, ma_aI) = some res) (K : RV V p l e R s m args below meth c Q A kc ks 2 cX2_step (wC V ad top rd ra (updC co mq_aq (cs_cw, cs_ce, cs_cn, cs_cj, cs_cz)) mu fo tr res mq_aq mx)) : WC V p l e R s m args below meth c Q A kc ks 2 (wC V ad top rd ra (updC co mq_aq (cs_cw, cs_ce, cs_cn, cs_cj, cs_cz)) mu fo tr (ma_aR, ma_aB, ma_aL, ma_aS, ma_aV, ma_aH, ma_aP, ma_aO, ma_aT, ma_aC, ma_aI) mq_aq mx) 0 [(0, .ref (ad 35)), (1, .int v1)] [] := by
  rw [f2_step] at hf
  refine k_aload_n C dX2_step_0 0 rfl ?_
  refine g2_50 C dX2_step_1 ?_
  refine g2_67 C hq dX2_step_4 ?_
  refine k_iload_n C dX2_step_7 1 rfl ?_
  obtain ⟨hi, hf⟩ := gd_no hf
  refine lk0 C hq hi dX2_step_8 ?_
  have hx0 : ∀ n : Int32, (cs_cw v1.toNatClampNeg) = n → (cs_cw v1.toNatClampNeg).toInt = n.toInt := fun n h => by rw [h]
  by_cases hc : (cs_cw v1.toNatClampNeg) = (0 : Int32)
  · replace hf := (if_pos hc).symm.trans hf
    refine k_tableIn C 84 dX2_step_9 (by rw [hx0 _ hc]; decide) (by rw [hx0 _ hc]; decide) (by rw [hx0 _ hc]; rfl) (by decide) ?_
    refine k_aload_n C dX2_step_84 0 rfl ?_
    refine k_iload_n C dX2_step_85 1 rfl ?_
    obtain ⟨⟨ma_aR_2, ma_aB_3, ma_aL_4, ma_aS_5, ma_aV_6, ma_aH_7, ma_aP_8, ma_aO_9, ma_aT_10, ma_aC_11, ma_aI_12⟩, hq_1, hf⟩ := ob_el hf
    dsimp only at hf
    refine k_callVv C (c2_apply C.2.2.2.2.2.2.2.2.2.1 hq hq_1) cm2_70 ok2_apply (by decide) 35 rfl rfl rfl rfl (Nat.le_of_ble_eq_true rfl) dX2_step_86 ?_
    refine k_goto C 263 dX2_step_89 (by decide) ?_
    cases hf
    exact K _ _ dX2_step_263
  replace hf := (if_neg hc).symm.trans hf
  have hn0 := sw_ne hc
  by_cases hc : (cs_cw v1.toNatClampNeg) = (1 : Int32)
  · replace hf := (if_pos hc).symm.trans hf
    refine k_tableIn C 92 dX2_step_9 (by rw [hx0 _ hc]; decide) (by rw [hx0 _ hc]; decide) (by rw [hx0 _ hc]; rfl) (by decide) ?_
    refine k_aload_n C dX2_step_92 0 rfl ?_
    refine k_iload_n C dX2_step_93 1 rfl ?_
    obtain ⟨⟨ma_aR_14, ma_aB_15, ma_aL_16, ma_aS_17, ma_aV_18, ma_aH_19, ma_aP_20, ma_aO_21, ma_aT_22, ma_aC_23, ma_aI_24⟩, hq_13, hf⟩ := ob_el hf
    dsimp only at hf
    refine k_callVv C (c2_compare C.2.2.2.2.2.2.2.2.2.1 hq hq_13) cm2_73 ok2_compare (by decide) 35 rfl rfl rfl rfl (Nat.le_of_ble_eq_true rfl) dX2_step_94 ?_
    refine k_goto C 263 dX2_step_97 (by decide) ?_
    cases hf
    exact K _ _ dX2_step_263
  replace hf := (if_neg hc).symm.trans hf
  have hn1 := sw_ne hc
  by_cases hc : (cs_cw v1.toNatClampNeg) = (2 : Int32)
  · replace hf := (if_pos hc).symm.trans hf
    refine k_tableIn C 100 dX2_step_9 (by rw [hx0 _ hc]; decide) (by rw [hx0 _ hc]; decide) (by rw [hx0 _ hc]; rfl) (by decide) ?_
    refine k_aload_n C dX2_step_100 0 rfl ?_
    refine k_iload_n C dX2_step_101 1 rfl ?_
    obtain ⟨⟨ma_aR_26, ma_aB_27, ma_aL_28, ma_aS_29, ma_aV_30, ma_aH_31, ma_aP_32, ma_aO_33, ma_aT_34, ma_aC_35, ma_aI_36⟩, hq_25, hf⟩ := ob_el hf
    dsimp only at hf
    refine k_callVv C (c2_decide C.2.2.2.2.2.2.2.2.2.1 hq hq_25) cm2_76 ok2_decide (by decide) 35 rfl rfl rfl rfl (Nat.le_of_ble_eq_true rfl) dX2_step_102 ?_
    refine k_goto C 263 dX2_step_105 (by decide) ?_
    cases hf
    exact K _ _ dX2_step_263
  replace hf := (if_neg hc).symm.trans hf
  have hn2 := sw_ne hc
  by_cases hc : (cs_cw v1.toNatClampNeg) = (3 : Int32)
  · replace hf := (if_pos hc).symm.trans hf
    refine k_tableIn C 108 dX2_step_9 (by rw [hx0 _ hc]; decide) (by rw [hx0 _ hc]; decide) (by rw [hx0 _ hc]; rfl) (by decide) ?_
    refine k_aload_n C dX2_step_108 0 rfl ?_
    refine k_iload_n C dX2_step_109 1 rfl ?_
    obtain ⟨⟨ma_aR_38, ma_aB_39, ma_aL_40, ma_aS_41, ma_aV_42, ma_aH_43, ma_aP_44, ma_aO_45, ma_aT_46, ma_aC_47, ma_aI_48⟩, hq_37, hf⟩ := ob_el hf
    dsimp only at hf
    refine k_callVv C (c2_reach C.2.2.2.2.2.2.2.2.2.1 hq hq_37) cm2_79 ok2_reach (by decide) 35 rfl rfl rfl rfl (Nat.le_of_ble_eq_true rfl) dX2_step_110 ?_
    refine k_aload_n C dX2_step_113 0 rfl ?_
    refine k_aload_n C dX2_step_114 0 rfl ?_
    refine g2_50 C dX2_step_115 ?_
    refine k_iload_n C dX2_step_118 1 rfl ?_
    refine k_aload_n C dX2_step_119 0 rfl ?_
    refine g2_43 C dX2_step_120 ?_
    refine k_aload_n C dX2_step_123 0 rfl ?_
    refine g2_46 C dX2_step_124 ?_
    obtain ⟨r_50, hq_49, hf⟩ := ob_el hf
    refine k_callCi C hq (c0_numberAt C.2.2.2.2.2.2.2.2.2.1 hq hq_49) cm2_82 ok0_numberAt (by decide) rfl rfl (Nat.le_of_ble_eq_true rfl) dX2_step_127 ?_
    obtain ⟨⟨ma_aR_52, ma_aB_53, ma_aL_54, ma_aS_55, ma_aV_56, ma_aH_57, ma_aP_58, ma_aO_59, ma_aT_60, ma_aC_61, ma_aI_62⟩, hq_51, hf⟩ := ob_el hf
    dsimp only at hf
    refine k_callVv C (c2_push C.2.2.2.2.2.2.2.2.2.1 hq_51) cm2_86 ok2_push (by decide) 35 rfl rfl rfl rfl (Nat.le_of_ble_eq_true rfl) dX2_step_130 ?_
    refine k_goto C 263 dX2_step_133 (by decide) ?_
    cases hf
    exact K _ _ dX2_step_263
  replace hf := (if_neg hc).symm.trans hf
  have hn3 := sw_ne hc
  by_cases hc : (cs_cw v1.toNatClampNeg) = (4 : Int32)
  · replace hf := (if_pos hc).symm.trans hf
    refine k_tableIn C 136 dX2_step_9 (by rw [hx0 _ hc]; decide) (by rw [hx0 _ hc]; decide) (by rw [hx0 _ hc]; rfl) (by decide) ?_
    refine k_aload_n C dX2_step_136 0 rfl ?_
    refine k_iload_n C dX2_step_137 1 rfl ?_
    obtain ⟨⟨ma_aR_64, ma_aB_65, ma_aL_66, ma_aS_67, ma_aV_68, ma_aH_69, ma_aP_70, ma_aO_71, ma_aT_72, ma_aC_73, ma_aI_74⟩, hq_63, hf⟩ := ob_el hf
    dsimp only at hf
    refine k_callVv C (c2_begin C.2.2.2.2.2.2.2.2.2.1 hq hq_63) cm2_89 ok2_begin (by decide) 35 rfl rfl rfl rfl (Nat.le_of_ble_eq_true rfl) dX2_step_138 ?_
    refine k_goto C 263 dX2_step_141 (by decide) ?_
    cases hf
    exact K _ _ dX2_step_263
  replace hf := (if_neg hc).symm.trans hf
  have hn4 := sw_ne hc
  by_cases hc : (cs_cw v1.toNatClampNeg) = (5 : Int32)
  · replace hf := (if_pos hc).symm.trans hf
    refine k_tableIn C 144 dX2_step_9 (by rw [hx0 _ hc]; decide) (by rw [hx0 _ hc]; decide) (by rw [hx0 _ hc]; rfl) (by decide) ?_
    refine k_aload_n C dX2_step_144 0 rfl ?_
    refine k_aload_n C dX2_step_145 0 rfl ?_
    refine g2_28 C dX2_step_146 ?_
    refine k_aload_n C dX2_step_149 0 rfl ?_
    refine g2_50 C dX2_step_150 ?_
    refine g2_92 C hq dX2_step_153 ?_
    refine k_iload_n C dX2_step_156 1 rfl ?_
    obtain ⟨hi, hf⟩ := gd_no hf
    refine lk2 C hq hi dX2_step_157 ?_
    obtain ⟨hi, hf⟩ := gd_no hf
    refine lc37 C hi dX2_step_158 ?_
    obtain ⟨⟨ma_aR_76, ma_aB_77, ma_aL_78, ma_aS_79, ma_aV_80, ma_aH_81, ma_aP_82, ma_aO_83, ma_aT_84, ma_aC_85, ma_aI_86⟩, hq_75, hf⟩ := ob_el hf
    dsimp only at hf
    refine k_callVv C (c2_push C.2.2.2.2.2.2.2.2.2.1 hq_75) cm2_86 ok2_push (by decide) 35 rfl rfl rfl rfl (Nat.le_of_ble_eq_true rfl) dX2_step_159 ?_
    refine k_goto C 263 dX2_step_162 (by decide) ?_
    cases hf
    exact K _ _ dX2_step_263
  replace hf := (if_neg hc).symm.trans hf
  have hn5 := sw_ne hc
  by_cases hc : (cs_cw v1.toNatClampNeg) = (7 : Int32)
  · replace hf := (if_pos hc).symm.trans hf
    refine k_tableIn C 165 dX2_step_9 (by rw [hx0 _ hc]; decide) (by rw [hx0 _ hc]; decide) (by rw [hx0 _ hc]; rfl) (by decide) ?_
    refine k_aload_n C dX2_step_165 0 rfl ?_
    refine g2_28 C dX2_step_166 ?_
    refine k_aload_n C dX2_step_169 0 rfl ?_
    refine g2_50 C dX2_step_170 ?_
    refine g2_92 C hq dX2_step_173 ?_
    refine k_iload_n C dX2_step_176 1 rfl ?_
    obtain ⟨hi, hf⟩ := gd_no hf
    refine lk2 C hq hi dX2_step_177 ?_
    refine k_aload_n C dX2_step_178 0 rfl ?_
    obtain ⟨⟨r_88, ⟨ma_aR_89, ma_aB_90, ma_aL_91, ma_aS_92, ma_aV_93, ma_aH_94, ma_aP_95, ma_aO_96, ma_aT_97, ma_aC_98, ma_aI_99⟩⟩, hq_87, hf⟩ := ob_el hf
    dsimp only at hf
    refine k_callVi C (c2_pop C.2.2.2.2.2.2.2.2.2.1 hq_87) cm2_95 ok2_pop (by decide) 35 rfl rfl rfl rfl (Nat.le_of_ble_eq_true rfl) dX2_step_179 ?_
    obtain ⟨hi, hf⟩ := gd_no hf
    refine sc37 C hi dX2_step_182 ?_
    refine k_goto C 263 dX2_step_183 (by decide) ?_
    cases hf
    exact K _ _ dX2_step_263
  replace hf := (if_neg hc).symm.trans hf
  have hn7 := sw_ne hc
  by_cases hc : (cs_cw v1.toNatClampNeg) = (8 : Int32)
  · replace hf := (if_pos hc).symm.trans hf
    refine k_tableIn C 186 dX2_step_9 (by rw [hx0 _ hc]; decide) (by rw [hx0 _ hc]; decide) (by rw [hx0 _ hc]; rfl) (by decide) ?_
    refine k_aload_n C dX2_step_186 0 rfl ?_
    obtain ⟨⟨ma_aR_101, ma_aB_102, ma_aL_103, ma_aS_104, ma_aV_105, ma_aH_106, ma_aP_107, ma_aO_108, ma_aT_109, ma_aC_110, ma_aI_111⟩, hq_100, hf⟩ := ob_el hf
    dsimp only at hf
    refine k_callVv C (c2_check C.2.2.2.2.2.2.2.2.2.1 hq_100) cm2_99 ok2_check (by decide) 35 rfl rfl rfl rfl (Nat.le_of_ble_eq_true rfl) dX2_step_187 ?_
    refine k_goto C 263 dX2_step_190 (by decide) ?_
    cases hf
    exact K _ _ dX2_step_263
  replace hf := (if_neg hc).symm.trans hf
  have hn8 := sw_ne hc
  by_cases hc : (cs_cw v1.toNatClampNeg) = (9 : Int32)
  · replace hf := (if_pos hc).symm.trans hf
    refine k_tableIn C 193 dX2_step_9 (by rw [hx0 _ hc]; decide) (by rw [hx0 _ hc]; decide) (by rw [hx0 _ hc]; rfl) (by decide) ?_
    refine k_aload_n C dX2_step_193 0 rfl ?_
    refine k_aload_n C dX2_step_194 0 rfl ?_
    obtain ⟨⟨r_113, ⟨ma_aR_114, ma_aB_115, ma_aL_116, ma_aS_117, ma_aV_118, ma_aH_119, ma_aP_120, ma_aO_121, ma_aT_122, ma_aC_123, ma_aI_124⟩⟩, hq_112, hf⟩ := ob_el hf
    dsimp only at hf
    refine k_callVi C (c2_pop C.2.2.2.2.2.2.2.2.2.1 hq_112) cm2_95 ok2_pop (by decide) 35 rfl rfl rfl rfl (Nat.le_of_ble_eq_true rfl) dX2_step_195 ?_
    refine p2_11 C dX2_step_198 ?_
    refine k_aload_n C dX2_step_201 0 rfl ?_
    refine k_iconst (v := (0 : Int32)) C dX2_step_202 (by decide) ?_
    refine p2_37 C dX2_step_203 ?_
    refine k_goto C 263 dX2_step_206 (by decide) ?_
    cases hf
    exact K _ _ dX2_step_263
  replace hf := (if_neg hc).symm.trans hf
  have hn9 := sw_ne hc
  by_cases hc : (cs_cw v1.toNatClampNeg) = (10 : Int32)
  · replace hf := (if_pos hc).symm.trans hf
    refine k_tableIn C 209 dX2_step_9 (by rw [hx0 _ hc]; decide) (by rw [hx0 _ hc]; decide) (by rw [hx0 _ hc]; rfl) (by decide) ?_
    refine k_aload_n C dX2_step_209 0 rfl ?_
    refine k_aload_n C dX2_step_210 0 rfl ?_
    obtain ⟨⟨r_126, ⟨ma_aR_127, ma_aB_128, ma_aL_129, ma_aS_130, ma_aV_131, ma_aH_132, ma_aP_133, ma_aO_134, ma_aT_135, ma_aC_136, ma_aI_137⟩⟩, hq_125, hf⟩ := ob_el hf
    dsimp only at hf
    refine k_callVi C (c2_pop C.2.2.2.2.2.2.2.2.2.1 hq_125) cm2_95 ok2_pop (by decide) 35 rfl rfl rfl rfl (Nat.le_of_ble_eq_true rfl) dX2_step_211 ?_
    refine k_if_ne C 229 dX2_step_214 (by decide) (fun hc => ?_) (fun hc => ?_)
    · replace hf := (if_neg hc).symm.trans hf
      refine k_aload_n C dX2_step_229 0 rfl ?_
      refine g2_34 C dX2_step_230 ?_
      refine p2_34 C dX2_step_233 ?_
      refine k_goto C 263 dX2_step_236 (by decide) ?_
      cases hf
      exact K _ _ dX2_step_263
    · replace hf := (if_pos hc).symm.trans hf
      refine k_aload_n C dX2_step_217 0 rfl ?_
      refine g2_50 C dX2_step_218 ?_
      refine g2_102 C hq dX2_step_221 ?_
      refine k_iload_n C dX2_step_224 1 rfl ?_
      obtain ⟨hi, hf⟩ := gd_no hf
      refine lk3 C hq hi dX2_step_225 ?_
      refine k_goto C 233 dX2_step_226 (by decide) ?_
      refine p2_34 C dX2_step_233 ?_
      refine k_goto C 263 dX2_step_236 (by decide) ?_
      cases hf
      exact K _ _ dX2_step_263
  replace hf := (if_neg hc).symm.trans hf
  have hn10 := sw_ne hc
  by_cases hc : (cs_cw v1.toNatClampNeg) = (11 : Int32)
  · replace hf := (if_pos hc).symm.trans hf
    refine k_tableIn C 247 dX2_step_9 (by rw [hx0 _ hc]; decide) (by rw [hx0 _ hc]; decide) (by rw [hx0 _ hc]; rfl) (by decide) ?_
    refine k_aload_n C dX2_step_247 0 rfl ?_
    refine k_aload_n C dX2_step_248 0 rfl ?_
    refine g2_50 C dX2_step_249 ?_
    refine g2_102 C hq dX2_step_252 ?_
    refine k_iload_n C dX2_step_255 1 rfl ?_
    obtain ⟨hi, hf⟩ := gd_no hf
    refine lk3 C hq hi dX2_step_256 ?_
    refine p2_34 C dX2_step_257 ?_
    refine k_goto C 263 dX2_step_260 (by decide) ?_
    cases hf
    exact K _ _ dX2_step_263
  replace hf := (if_neg hc).symm.trans hf
  have hn11 := sw_ne hc
  by_cases hc : (cs_cw v1.toNatClampNeg) = (13 : Int32)
  · replace hf := (if_pos hc).symm.trans hf
    refine k_tableIn C 239 dX2_step_9 (by rw [hx0 _ hc]; decide) (by rw [hx0 _ hc]; decide) (by rw [hx0 _ hc]; rfl) (by decide) ?_
    refine k_aload_n C dX2_step_239 0 rfl ?_
    refine k_iload_n C dX2_step_240 1 rfl ?_
    obtain ⟨⟨ma_aR_139, ma_aB_140, ma_aL_141, ma_aS_142, ma_aV_143, ma_aH_144, ma_aP_145, ma_aO_146, ma_aT_147, ma_aC_148, ma_aI_149⟩, hq_138, hf⟩ := ob_el hf
    dsimp only at hf
    refine k_callVv C (c2_enterBody C.2.2.2.2.2.2.2.2.2.1 hq hq_138) cm2_105 ok2_enterBody (by decide) 35 rfl rfl rfl rfl (Nat.le_of_ble_eq_true rfl) dX2_step_241 ?_
    refine k_goto C 263 dX2_step_244 (by decide) ?_
    cases hf
    exact K _ _ dX2_step_263
  replace hf := (if_neg hc).symm.trans hf
  have hn13 := sw_ne hc
  by_cases hc : (cs_cw v1.toNatClampNeg) = (14 : Int32)
  · replace hf := (if_pos hc).symm.trans hf
    refine k_tableIn C 247 dX2_step_9 (by rw [hx0 _ hc]; decide) (by rw [hx0 _ hc]; decide) (by rw [hx0 _ hc]; rfl) (by decide) ?_
    refine k_aload_n C dX2_step_247 0 rfl ?_
    refine k_aload_n C dX2_step_248 0 rfl ?_
    refine g2_50 C dX2_step_249 ?_
    refine g2_102 C hq dX2_step_252 ?_
    refine k_iload_n C dX2_step_255 1 rfl ?_
    obtain ⟨hi, hf⟩ := gd_no hf
    refine lk3 C hq hi dX2_step_256 ?_
    refine p2_34 C dX2_step_257 ?_
    refine k_goto C 263 dX2_step_260 (by decide) ?_
    cases hf
    exact K _ _ dX2_step_263
  replace hf := (if_neg hc).symm.trans hf
  have hn14 := sw_ne hc
  have kd_150 : WC V p l e R s m args below meth c Q A kc ks 2 (wC V ad top rd ra (updC co mq_aq (cs_cw, cs_ce, cs_cn, cs_cj, cs_cz)) mu fo tr (ma_aR, ma_aB, ma_aL, ma_aS, ma_aV, ma_aH, ma_aP, ma_aO, ma_aT, ma_aC, ma_aI) mq_aq mx) 263 [(0, .ref (ad 35)), (1, .int v1)] [] := by
    cases hf
    exact K _ _ dX2_step_263
  have hr : (cs_cw v1.toNatClampNeg).toInt < 0 ∨ 14 < (cs_cw v1.toNatClampNeg).toInt ∨ (cs_cw v1.toNatClampNeg).toInt = 6 ∨ (cs_cw v1.toNatClampNeg).toInt = 12 := by
    have q0 : ¬ (cs_cw v1.toNatClampNeg).toInt = 0 := hn0 0 (by decide)
    have q1 : ¬ (cs_cw v1.toNatClampNeg).toInt = 1 := hn1 1 (by decide)
    have q2 : ¬ (cs_cw v1.toNatClampNeg).toInt = 2 := hn2 2 (by decide)
    have q3 : ¬ (cs_cw v1.toNatClampNeg).toInt = 3 := hn3 3 (by decide)
    have q4 : ¬ (cs_cw v1.toNatClampNeg).toInt = 4 := hn4 4 (by decide)
    have q5 : ¬ (cs_cw v1.toNatClampNeg).toInt = 5 := hn5 5 (by decide)
    have q7 : ¬ (cs_cw v1.toNatClampNeg).toInt = 7 := hn7 7 (by decide)
    have q8 : ¬ (cs_cw v1.toNatClampNeg).toInt = 8 := hn8 8 (by decide)
    have q9 : ¬ (cs_cw v1.toNatClampNeg).toInt = 9 := hn9 9 (by decide)
    have q10 : ¬ (cs_cw v1.toNatClampNeg).toInt = 10 := hn10 10 (by decide)
    have q11 : ¬ (cs_cw v1.toNatClampNeg).toInt = 11 := hn11 11 (by decide)
    have q13 : ¬ (cs_cw v1.toNatClampNeg).toInt = 13 := hn13 13 (by decide)
    have q14 : ¬ (cs_cw v1.toNatClampNeg).toInt = 14 := hn14 14 (by decide)
    omega
  rcases hr with hr | hr | hr | hr
  · exact k_tableOut C 263 dX2_step_9 (Or.inl hr) (by decide) kd_150
  · exact k_tableOut C 263 dX2_step_9 (Or.inr hr) (by decide) kd_150
  · exact k_tableIn C 263 dX2_step_9 (by rw [hr]; decide) (by rw [hr]; decide) (by rw [hr]; rfl) (by decide) kd_150
  · exact k_tableIn C 263 dX2_step_9 (by rw [hr]; decide) (by rw [hr]; decide) (by rw [hr]; rfl) (by decide) kd_150
theorem c2_step {V : EV} {l : Launch} (hl0 : l.stackTraces = false) {ad : Nat → Nat} {top : TopS} {rd : RdS} {ra : Int32} {co : Nat → CoS} {mu : MuS} {fo : FoS} {tr : TrS} {mx : MxS} {cs_cw : Nat → Int32} {cs_ce : Nat → Int32} {cs_cn : Nat → Int32} {cs_cj : Nat → Int32} {cs_cz : Int32} {mq_aq : Nat} {v1 : Int32} {ma_aR : Int32} {ma_aB : Int32} {ma_aL : Int64} {ma_aS : Nat → Int32} {ma_aV : Nat → Int32} {ma_aH : Int32} {ma_aP : Int32} {ma_aO : Int32} {ma_aT : Int32} {ma_aC : Int32} {ma_aI : Int32} {res : MaS} (hq : mq_aq < 4) (hf : f2_step v1 (cs_cw, cs_ce, cs_cn, cs_cj, cs_cz) (ma_aR, ma_aB, ma_aL, ma_aS, ma_aV, ma_aH, ma_aP, ma_aO, ma_aT, ma_aC, ma_aI) = some res) : MV V l yX2_step cX2_step 2 2 47 [.ref (ad 35), .int v1] (wC V ad top rd ra (updC co mq_aq (cs_cw, cs_ce, cs_cn, cs_cj, cs_cz)) mu fo tr (ma_aR, ma_aB, ma_aL, ma_aS, ma_aV, ma_aH, ma_aP, ma_aO, ma_aT, ma_aC, ma_aI) mq_aq mx) (wC V ad top rd ra (updC co mq_aq (cs_cw, cs_ce, cs_cn, cs_cj, cs_cz)) mu fo tr res mq_aq mx) :=
  mv_of hl0 (by decide +kernel) (Nat.le_of_ble_eq_true rfl) (fun p e R s m args below meth c Q A C K => b2_step C hq hf K)

theorem cm2_63 : ∀ a ∈ wsCV RX2 63 RX2 yX2_step cX2_step 2 none, a ∈ GW := by
  unfold wsCV
  exact (List.forall_mem_cons.mpr ⟨(gw_4 (i := 133) (by decide +kernel) rfl), (List.forall_mem_cons.mpr ⟨(gw_4 (i := 135) (by decide +kernel) rfl), (List.forall_mem_cons.mpr ⟨(gw_p (q := ((yX2_step, 12) : MethodName × Nat)) (List.mem_append_right _ (List.mem_append_right _ (List.mem_append_right _ (List.mem_append_left _ (List.mem_of_getElem? (i := 1) (by decide +kernel)))))) rfl), (List.forall_mem_cons.mpr ⟨(gw_1 (i := 7) (by decide +kernel) rfl), (List.forall_mem_cons.mpr ⟨(gw_4 (i := 136) (by decide +kernel) rfl), (List.forall_mem_nil _)⟩)⟩)⟩)⟩)⟩)
theorem cm2_54 : ∀ a ∈ wsCS RX2 54 yJ7_fill_53178 cJ7_fill_53178 4 none, a ∈ GW := by
  unfold wsCS
  exact (List.forall_mem_cons.mpr ⟨(gw_4 (i := 132) (by decide +kernel) rfl), (List.forall_mem_cons.mpr ⟨(gw_3 (i := 151) (by decide +kernel) rfl), (List.forall_mem_cons.mpr ⟨(gw_1 (i := 21) (by decide +kernel) rfl), (List.forall_mem_cons.mpr ⟨(gw_3 (i := 152) (by decide +kernel) rfl), (List.forall_mem_nil _)⟩)⟩)⟩)⟩)
theorem ok2_execute : okCV RX2 yX2_execute 6 := by unfold okCV; decide +kernel
def f2_execute_L80 (k136 : MaS → Option (Int32 × MaS)) (N : Nat) (cs_cw : Nat → Int32) (cs_ce : Nat → Int32) (cs_cn : Nat → Int32) (cs_cj : Nat → Int32) (cs_cz : Int32) : Nat → Int32 → MaS → Option (Int32 × MaS)
  | 0, _, _ => none
  | n + 1, x7, (ma_aR, ma_aB, ma_aL, ma_aS, ma_aV, ma_aH, ma_aP, ma_aO, ma_aT, ma_aC, ma_aI) =>
    if (4080 : Int32) ≤ x7 then k136 (ma_aR, ma_aB, ma_aL, ma_aS, ma_aV, ma_aH, ma_aP, ma_aO, ma_aT, ma_aC, ma_aI) else if ma_aO = (-1 : Int32) then if cs_cz ≤ ma_aP then k136 (ma_aR, ma_aB, ma_aL, ma_aS, ma_aV, ma_aH, ma_aP, ma_aO, ma_aT, ma_aC, ma_aI) else (f2_step ((ma_aP + (1 : Int32)) - (1 : Int32)) (cs_cw, cs_ce, cs_cn, cs_cj, cs_cz) (ma_aR, ma_aB, ma_aL, ma_aS, ma_aV, ma_aH, (ma_aP + (1 : Int32)), ma_aO, ma_aT, ma_aC, ma_aI)).bind fun (ma_aR_2, ma_aB_3, ma_aL_4, ma_aS_5, ma_aV_6, ma_aH_7, ma_aP_8, ma_aO_9, ma_aT_10, ma_aC_11, ma_aI_12) => nm_v (x7 + (1 : Int32)) (fun v7_13 => f2_execute_L80 k136 N cs_cw cs_ce cs_cn cs_cj cs_cz n v7_13 (ma_aR_2, ma_aB_3, ma_aL_4, ma_aS_5, ma_aV_6, ma_aH_7, ma_aP_8, ma_aO_9, ma_aT_10, ma_aC_11, ma_aI_12)) else k136 (ma_aR, ma_aB, ma_aL, ma_aS, ma_aV, ma_aH, ma_aP, ma_aO, ma_aT, ma_aC, ma_aI)

def f2_execute_L136  (N : Nat) (cs_cw : Nat → Int32) (cs_ce : Nat → Int32) (cs_cn : Nat → Int32) (cs_cj : Nat → Int32) (cs_cz : Int32) : MaS → Option (Int32 × MaS)
  | (ma_aR, ma_aB, ma_aL, ma_aS, ma_aV, ma_aH, ma_aP, ma_aO, ma_aT, ma_aC, ma_aI) =>
    if ma_aO = (-1 : Int32) then some ((0 : Int32), (ma_aR, ma_aB, ma_aL, ma_aS, ma_aV, ma_aH, ma_aP, ma_aO, ma_aT, ma_aC, ma_aI)) else some (ma_aO, (ma_aR, ma_aB, ma_aL, ma_aS, ma_aV, ma_aH, ma_aP, ma_aO, ma_aT, ma_aC, ma_aI))
def f2_execute (N : Nat) (v2 : Int32) (v3 : Int32) (v4 : Int32) (v5 : Int32) (v6 : Int32) : CoS → MaS → Option (Int32 × MaS)
  | (cs_cw, cs_ce, cs_cn, cs_cj, cs_cz), (ma_aR, ma_aB, ma_aL, ma_aS, ma_aV, ma_aH, ma_aP, ma_aO, ma_aT, ma_aC, ma_aI) =>
    if (6 : Int32) < 0 ∨ 8 ≤ (6 : Int32).toNatClampNeg then none else if (7 : Int32) < 0 ∨ 8 ≤ (7 : Int32).toNatClampNeg then none else f2_execute_L80 (fun (ma_aR_14, ma_aB_14, ma_aL_14, ma_aS_14, ma_aV_14, ma_aH_14, ma_aP_14, ma_aO_14, ma_aT_14, ma_aC_14, ma_aI_14) => f2_execute_L136 N cs_cw cs_ce cs_cn cs_cj cs_cz (ma_aR_14, ma_aB_14, ma_aL_14, ma_aS_14, ma_aV_14, ma_aH_14, ma_aP_14, ma_aO_14, ma_aT_14, ma_aC_14, ma_aI_14)) N cs_cw cs_ce cs_cn cs_cj cs_cz N (0 : Int32) ((0 : Int32), (0 : Int32), (0 : Int64), ma_aS, (upd (upd (fillF ma_aV 8 (0 : Int32)) (6 : Int32).toNatClampNeg v4) (7 : Int32).toNatClampNeg v5), (0 : Int32), (0 : Int32), (-1 : Int32), v6, v2, v3)
set_option maxHeartbeats 4000000 in
set_option maxRecDepth 100000 in
theorem w2_execute_L80 {V : EV} {p : Program} {l : Launch} {e : Env} {R : Room} {s : State} {m : MethodId} {args : Array Value} {below : List Frame} {meth : Method} {c : Code} {Q : State → Prop} {A : Nat → Prop} {kc ks : Nat} {ad : Nat → Nat} {top : TopS} {rd : RdS} {ra : Int32} {co : Nat → CoS} {mu : MuS} {fo : FoS} {tr : TrS} {mx : MxS} {cs_cw : Nat → Int32} {cs_ce : Nat → Int32} {cs_cn : Nat → Int32} {cs_cj : Nat → Int32} {cs_cz : Int32} {q : Nat} {k136 : MaS → Option (Int32 × MaS)} {N : Nat} {res : Int32 × MaS} (C : CX V p l R s m args c A kc ks RX2 cX2_execute 8 3 68) (hq : q < 4) (K : RI V p l e R s m args below meth c Q A kc ks 8 cX2_execute .int res.1 (wC V ad top rd ra (updC co q (cs_cw, cs_ce, cs_cn, cs_cj, cs_cz)) mu fo tr res.2 q mx)) (hk136 : ∀  (ma_aR : Int32) (ma_aB : Int32) (ma_aL : Int64) (ma_aS : Nat → Int32) (ma_aV : Nat → Int32) (ma_aH : Int32) (ma_aP : Int32) (ma_aO : Int32) (ma_aT : Int32) (ma_aC : Int32) (ma_aI : Int32), k136 (ma_aR, ma_aB, ma_aL, ma_aS, ma_aV, ma_aH, ma_aP, ma_aO, ma_aT, ma_aC, ma_aI) = some res → WC V p l e R s m args below meth c Q A kc ks 8 (wC V ad top rd ra (updC co q (cs_cw, cs_ce, cs_cn, cs_cj, cs_cz)) mu fo tr (ma_aR, ma_aB, ma_aL, ma_aS, ma_aV, ma_aH, ma_aP, ma_aO, ma_aT, ma_aC, ma_aI) q mx) 136 [(0, .ref (ad 35))] []) : ∀ (n : Nat) (x7 : Int32) (ma_aR : Int32) (ma_aB : Int32) (ma_aL : Int64) (ma_aS : Nat → Int32) (ma_aV : Nat → Int32) (ma_aH : Int32) (ma_aP : Int32) (ma_aO : Int32) (ma_aT : Int32) (ma_aC : Int32) (ma_aI : Int32), f2_execute_L80 k136 N cs_cw cs_ce cs_cn cs_cj cs_cz n x7 (ma_aR, ma_aB, ma_aL, ma_aS, ma_aV, ma_aH, ma_aP, ma_aO, ma_aT, ma_aC, ma_aI) = some res → WC V p l e R s m args below meth c Q A kc ks 8 (wC V ad top rd ra (updC co q (cs_cw, cs_ce, cs_cn, cs_cj, cs_cz)) mu fo tr (ma_aR, ma_aB, ma_aL, ma_aS, ma_aV, ma_aH, ma_aP, ma_aO, ma_aT, ma_aC, ma_aI) q mx) 80 [(0, .ref (ad 35)), (7, .int x7)] [] := by
  intro n
  induction n with
  | zero => intro _ _ _ _ _ _ _ _ _ _ _ _ hf; exact nomatch (show none = some res from hf)
  | succ n ih =>
    intro x7 ma_aR ma_aB ma_aL ma_aS ma_aV ma_aH ma_aP ma_aO ma_aT ma_aC ma_aI hf
    rw [f2_execute_L80] at hf
    refine k_iload C dX2_execute_80 1 rfl ?_
    refine k_sipush (v := (4080 : Int32)) C dX2_execute_82 (by decide) ?_
    refine k_icmp_ge C 136 dX2_execute_85 (by decide) (fun hc => ?_) (fun hc => ?_)
    · replace hf := (if_pos hc).symm.trans hf
      refine k_sub [0] (L' := [(0, .ref (ad 35))]) rfl ?_
      exact hk136 _ _ _ _ _ _ _ _ _ _ _ hf
    · replace hf := (if_neg hc).symm.trans hf
      refine k_aload_n C dX2_execute_88 0 rfl ?_
      refine g2_37 C dX2_execute_89 ?_
      refine k_iconst (v := (-1 : Int32)) C dX2_execute_92 (by decide) ?_
      refine k_icmp_ne C 136 dX2_execute_93 (by decide) (fun hc => ?_) (fun hc => ?_)
      · replace hf := (if_neg hc).symm.trans hf
        refine k_sub [0] (L' := [(0, .ref (ad 35))]) rfl ?_
        exact hk136 _ _ _ _ _ _ _ _ _ _ _ hf
      · replace hf := (if_pos hc).symm.trans hf
        refine k_aload_n C dX2_execute_96 0 rfl ?_
        refine g2_34 C dX2_execute_97 ?_
        refine k_aload_n C dX2_execute_100 0 rfl ?_
        refine g2_50 C dX2_execute_101 ?_
        refine g2_60 C hq dX2_execute_104 ?_
        refine k_icmp_ge C 136 dX2_execute_107 (by decide) (fun hc => ?_) (fun hc => ?_)
        · replace hf := (if_pos hc).symm.trans hf
          refine k_sub [0] (L' := [(0, .ref (ad 35))]) rfl ?_
          exact hk136 _ _ _ _ _ _ _ _ _ _ _ hf
        · replace hf := (if_neg hc).symm.trans hf
          refine k_aload_n C dX2_execute_110 0 rfl ?_
          refine k_dup C dX2_execute_111 rfl ?_
          refine g2_34 C dX2_execute_112 ?_
          refine k_iconst (v := (1 : Int32)) C dX2_execute_115 (by decide) ?_
          refine k_iadd C dX2_execute_116 ?_
          refine p2_34 C dX2_execute_117 ?_
          refine k_aload_n C dX2_execute_120 0 rfl ?_
          refine k_aload_n C dX2_execute_121 0 rfl ?_
          refine g2_34 C dX2_execute_122 ?_
          refine k_iconst (v := (1 : Int32)) C dX2_execute_125 (by decide) ?_
          refine k_isub C dX2_execute_126 ?_
          obtain ⟨⟨ma_aR_2, ma_aB_3, ma_aL_4, ma_aS_5, ma_aV_6, ma_aH_7, ma_aP_8, ma_aO_9, ma_aT_10, ma_aC_11, ma_aI_12⟩, hq_1, hf⟩ := ob_el hf
          dsimp only at hf
          refine k_callVv C (c2_step C.2.2.2.2.2.2.2.2.2.1 hq hq_1) cm2_63 ok2_step (by decide) 35 rfl rfl rfl rfl (Nat.le_of_ble_eq_true rfl) dX2_execute_127 ?_
          obtain ⟨v7_13, ev7_13⟩ : ∃ y : Int32, y = x7 + (1 : Int32) := ⟨_, rfl⟩
          replace hf := nm_el hf ev7_13
          refine k_iinc (v := v7_13) C dX2_execute_130 1 rfl (by rw [ev7_13]; rfl) [(7, .int v7_13), (0, .ref (ad 35))] (by decide) rfl ?_
          refine k_goto C 80 dX2_execute_133 (by decide) ?_
          refine k_sub [1, 0] (L' := [(0, .ref (ad 35)), (7, .int v7_13)]) rfl ?_
          exact ih _ _ _ _ _ _ _ _ _ _ _ _ hf

set_option maxHeartbeats 4000000 in
set_option maxRecDepth 100000 in
theorem w2_execute_L136 {V : EV} {p : Program} {l : Launch} {e : Env} {R : Room} {s : State} {m : MethodId} {args : Array Value} {below : List Frame} {meth : Method} {c : Code} {Q : State → Prop} {A : Nat → Prop} {kc ks : Nat} {ad : Nat → Nat} {top : TopS} {rd : RdS} {ra : Int32} {co : Nat → CoS} {mu : MuS} {fo : FoS} {tr : TrS} {mx : MxS} {cs_cw : Nat → Int32} {cs_ce : Nat → Int32} {cs_cn : Nat → Int32} {cs_cj : Nat → Int32} {cs_cz : Int32} {q : Nat}  {N : Nat} {res : Int32 × MaS} (C : CX V p l R s m args c A kc ks RX2 cX2_execute 8 3 68) (hq : q < 4) (K : RI V p l e R s m args below meth c Q A kc ks 8 cX2_execute .int res.1 (wC V ad top rd ra (updC co q (cs_cw, cs_ce, cs_cn, cs_cj, cs_cz)) mu fo tr res.2 q mx))  : ∀  (ma_aR : Int32) (ma_aB : Int32) (ma_aL : Int64) (ma_aS : Nat → Int32) (ma_aV : Nat → Int32) (ma_aH : Int32) (ma_aP : Int32) (ma_aO : Int32) (ma_aT : Int32) (ma_aC : Int32) (ma_aI : Int32), f2_execute_L136 N cs_cw cs_ce cs_cn cs_cj cs_cz (ma_aR, ma_aB, ma_aL, ma_aS, ma_aV, ma_aH, ma_aP, ma_aO, ma_aT, ma_aC, ma_aI) = some res → WC V p l e R s m args below meth c Q A kc ks 8 (wC V ad top rd ra (updC co q (cs_cw, cs_ce, cs_cn, cs_cj, cs_cz)) mu fo tr (ma_aR, ma_aB, ma_aL, ma_aS, ma_aV, ma_aH, ma_aP, ma_aO, ma_aT, ma_aC, ma_aI) q mx) 136 [(0, .ref (ad 35))] [] := by
  intro ma_aR ma_aB ma_aL ma_aS ma_aV ma_aH ma_aP ma_aO ma_aT ma_aC ma_aI hf
  rw [f2_execute_L136] at hf
  refine k_aload_n C dX2_execute_136 0 rfl ?_
  refine g2_37 C dX2_execute_137 ?_
  refine k_iconst (v := (-1 : Int32)) C dX2_execute_140 (by decide) ?_
  refine k_icmp_ne C 148 dX2_execute_141 (by decide) (fun hc => ?_) (fun hc => ?_)
  · replace hf := (if_neg hc).symm.trans hf
    refine k_aload_n C dX2_execute_148 0 rfl ?_
    refine g2_37 C dX2_execute_149 ?_
    cases hf
    exact K _ _ dX2_execute_152 rfl
  · replace hf := (if_pos hc).symm.trans hf
    refine k_iconst (v := (0 : Int32)) C dX2_execute_144 (by decide) ?_
    refine k_goto C 152 dX2_execute_145 (by decide) ?_
    cases hf
    exact K _ _ dX2_execute_152 rfl
set_option maxHeartbeats 4000000 in
set_option maxRecDepth 100000 in
theorem b2_execute {V : EV} {p : Program} {l : Launch} {e : Env} {R : Room} {s : State} {m : MethodId} {args : Array Value} {below : List Frame} {meth : Method} {c : Code} {Q : State → Prop} {A : Nat → Prop} {kc ks : Nat} {ad : Nat → Nat} {top : TopS} {rd : RdS} {ra : Int32} {co : Nat → CoS} {mu : MuS} {fo : FoS} {tr : TrS} {mx : MxS} {cs_cw : Nat → Int32} {cs_ce : Nat → Int32} {cs_cn : Nat → Int32} {cs_cj : Nat → Int32} {cs_cz : Int32} {mq_aq : Nat} {q : Nat} {v2 : Int32} {v3 : Int32} {v4 : Int32} {v5 : Int32} {v6 : Int32} {ma_aR : Int32} {ma_aB : Int32} {ma_aL : Int64} {ma_aS : Nat → Int32} {ma_aV : Nat → Int32} {ma_aH : Int32} {ma_aP : Int32} {ma_aO : Int32} {ma_aT : Int32} {ma_aC : Int32} {ma_aI : Int32} {N : Nat} {res : Int32 × MaS} (C : CX V p l R s m args c A kc ks RX2 cX2_execute 8 3 68) (hq : q < 4) (hf : f2_execute N v2 v3 v4 v5 v6 (cs_cw, cs_ce, cs_cn, cs_cj, cs_cz) (ma_aR, ma_aB, ma_aL, ma_aS, ma_aV, ma_aH, ma_aP, ma_aO, ma_aT, ma_aC, ma_aI) = some res) (K : RI V p l e R s m args below meth c Q A kc ks 8 cX2_execute .int res.1 (wC V ad top rd ra (updC co q (cs_cw, cs_ce, cs_cn, cs_cj, cs_cz)) mu fo tr res.2 q mx)) : WC V p l e R s m args below meth c Q A kc ks 8 (wC V ad top rd ra (updC co q (cs_cw, cs_ce, cs_cn, cs_cj, cs_cz)) mu fo tr (ma_aR, ma_aB, ma_aL, ma_aS, ma_aV, ma_aH, ma_aP, ma_aO, ma_aT, ma_aC, ma_aI) mq_aq mx) 0 [(0, .ref (ad 35)), (1, .ref (ad (cpo q))), (2, .int v2), (3, .int v3), (4, .int v4), (5, .int v5), (6, .int v6)] [] := by
  rw [f2_execute] at hf
  refine k_aload_n C dX2_execute_0 0 rfl ?_
  refine k_aload_n C dX2_execute_1 1 rfl ?_
  refine p2_50 (v := q) C dX2_execute_2 ?_
  refine k_aload_n C dX2_execute_5 0 rfl ?_
  refine k_iload_n C dX2_execute_6 2 rfl ?_
  refine p2_43 C dX2_execute_7 ?_
  refine k_aload_n C dX2_execute_10 0 rfl ?_
  refine k_iload_n C dX2_execute_11 3 rfl ?_
  refine p2_46 C dX2_execute_12 ?_
  refine k_aload_n C dX2_execute_15 0 rfl ?_
  refine k_iload C dX2_execute_16 6 rfl ?_
  refine p2_40 C dX2_execute_18 ?_
  refine k_aload_n C dX2_execute_21 0 rfl ?_
  refine g2_28 C dX2_execute_22 ?_
  refine k_iconst (v := (0 : Int32)) C dX2_execute_25 (by decide) ?_
  refine k_fill (w' := (wC V ad top rd ra (updC co q (cs_cw, cs_ce, cs_cn, cs_cj, cs_cz)) mu fo tr (ma_aR, ma_aB, ma_aL, ma_aS, (fillF ma_aV 8 (0 : Int32)), ma_aH, ma_aP, ma_aO, v6, v2, v3) q mx)) C 37 (by decide) rfl rfl cm2_54 (by decide) (Nat.le_of_ble_eq_true rfl) dX2_execute_26 ?_
  refine k_aload_n C dX2_execute_29 0 rfl ?_
  refine g2_28 C dX2_execute_30 ?_
  refine k_bipush (v := (6 : Int32)) C dX2_execute_33 (by decide) ?_
  refine k_iload C dX2_execute_35 4 rfl ?_
  obtain ⟨hi, hf⟩ := gd_no hf
  refine sc37 C hi dX2_execute_37 ?_
  refine k_aload_n C dX2_execute_38 0 rfl ?_
  refine g2_28 C dX2_execute_39 ?_
  refine k_bipush (v := (7 : Int32)) C dX2_execute_42 (by decide) ?_
  refine k_iload C dX2_execute_44 5 rfl ?_
  obtain ⟨hi, hf⟩ := gd_no hf
  refine sc37 C hi dX2_execute_46 ?_
  refine k_aload_n C dX2_execute_47 0 rfl ?_
  refine k_iconst (v := (0 : Int32)) C dX2_execute_48 (by decide) ?_
  refine p2_31 C dX2_execute_49 ?_
  refine k_aload_n C dX2_execute_52 0 rfl ?_
  refine k_iconst (v := (0 : Int32)) C dX2_execute_53 (by decide) ?_
  refine p2_34 C dX2_execute_54 ?_
  refine k_aload_n C dX2_execute_57 0 rfl ?_
  refine k_iconst (v := (0 : Int32)) C dX2_execute_58 (by decide) ?_
  refine p2_11 C dX2_execute_59 ?_
  refine k_aload_n C dX2_execute_62 0 rfl ?_
  refine k_iconst (v := (0 : Int32)) C dX2_execute_63 (by decide) ?_
  refine p2_17 C dX2_execute_64 ?_
  refine k_aload_n C dX2_execute_67 0 rfl ?_
  refine k_lconst (v := (0 : Int64)) C dX2_execute_68 (by decide) ?_
  refine p2_20 C dX2_execute_69 ?_
  refine k_aload_n C dX2_execute_72 0 rfl ?_
  refine k_iconst (v := (-1 : Int32)) C dX2_execute_73 (by decide) ?_
  refine p2_37 C dX2_execute_74 ?_
  refine k_iconst (v := (0 : Int32)) C dX2_execute_77 (by decide) ?_
  refine k_istore C dX2_execute_78 [(7, .int (0 : Int32)), (0, .ref (ad 35)), (1, .ref (ad (cpo q))), (2, .int v2), (3, .int v3), (4, .int v4), (5, .int v5), (6, .int v6)] (by decide) rfl ?_
  refine k_sub [1, 0] (L' := [(0, .ref (ad 35)), (7, .int (0 : Int32))]) rfl ?_
  refine w2_execute_L80 C hq K ?_ _ _ _ _ _ _ _ _ _ _ _ _ _ hf
  · intro ma_aR_14 ma_aB_14 ma_aL_14 ma_aS_14 ma_aV_14 ma_aH_14 ma_aP_14 ma_aO_14 ma_aT_14 ma_aC_14 ma_aI_14 hf
    try dsimp only at hf
    exact w2_execute_L136 C hq K _ _ _ _ _ _ _ _ _ _ _ hf
theorem c2_execute {V : EV} {l : Launch} (hl0 : l.stackTraces = false) {ad : Nat → Nat} {top : TopS} {rd : RdS} {ra : Int32} {co : Nat → CoS} {mu : MuS} {fo : FoS} {tr : TrS} {mx : MxS} {cs_cw : Nat → Int32} {cs_ce : Nat → Int32} {cs_cn : Nat → Int32} {cs_cj : Nat → Int32} {cs_cz : Int32} {mq_aq : Nat} {q : Nat} {v2 : Int32} {v3 : Int32} {v4 : Int32} {v5 : Int32} {v6 : Int32} {ma_aR : Int32} {ma_aB : Int32} {ma_aL : Int64} {ma_aS : Nat → Int32} {ma_aV : Nat → Int32} {ma_aH : Int32} {ma_aP : Int32} {ma_aO : Int32} {ma_aT : Int32} {ma_aC : Int32} {ma_aI : Int32} {N : Nat} {res : Int32 × MaS} (hq : q < 4) (hf : f2_execute N v2 v3 v4 v5 v6 (cs_cw, cs_ce, cs_cn, cs_cj, cs_cz) (ma_aR, ma_aB, ma_aL, ma_aS, ma_aV, ma_aH, ma_aP, ma_aO, ma_aT, ma_aC, ma_aI) = some res) : MI V l yX2_execute cX2_execute 8 .int 3 68 [.ref (ad 35), .ref (ad (cpo q)), .int v2, .int v3, .int v4, .int v5, .int v6] (wC V ad top rd ra (updC co q (cs_cw, cs_ce, cs_cn, cs_cj, cs_cz)) mu fo tr (ma_aR, ma_aB, ma_aL, ma_aS, ma_aV, ma_aH, ma_aP, ma_aO, ma_aT, ma_aC, ma_aI) mq_aq mx) res.1 (wC V ad top rd ra (updC co q (cs_cw, cs_ce, cs_cn, cs_cj, cs_cz)) mu fo tr res.2 q mx) :=
  mi_of hl0 (by decide +kernel) (Nat.le_of_ble_eq_true rfl) (fun p e R s m args below meth c Q A C K => b2_execute C hq hf K)

