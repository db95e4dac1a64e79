theorem ok7_traps : okCV RX7 yX7_traps 2 := by unfold okCV; decide +kernel
def f7_traps_L12    : Int32 → Option (Int32)
  | x1 =>
    if x1 = 0 then some (1 : Int32) else some (0 : Int32)
def f7_traps (v0 : Int32) (v1 : Int32) : Option (Int32) :=
    if v0 = (47 : Int32) then f7_traps_L12 v1 else if v0 = (37 : Int32) then f7_traps_L12 v1 else some (0 : Int32)
set_option maxHeartbeats 4000000 in
set_option maxRecDepth 100000 in
theorem w7_traps_L12 {V : EV} {p : Program} {l : Launch} {e : Env} {R : Room} {s : State} {m : MethodId} {args : Array Value} {below : List Frame} {meth : Method} {c : Code} {Q : State → Prop} {A : Nat → Prop} {kc ks : Nat} {ad : Nat → Nat} {top : TopS} {rd : RdS} {ra : Int32} {co : Nat → CoS} {mu : MuS} {fo : FoS} {tr : TrS} {ma : MaS} {mq : Nat} {mx : MxS}  {res : Int32} (C : CX V p l R s m args c A kc ks RX7 cX7_traps 2 0 0) (K : RI V p l e R s m args below meth c Q A kc ks 2 cX7_traps .boolean res (wC V ad top rd ra co mu fo tr ma mq mx))  : ∀ (x1 : Int32) , f7_traps_L12 x1 = some res → WC V p l e R s m args below meth c Q A kc ks 2 (wC V ad top rd ra co mu fo tr ma mq mx) 12 [(1, .int x1)] [] := by
  intro x1 hf
  rw [f7_traps_L12] at hf
  refine k_iload_n C dX7_traps_12 0 rfl ?_
  refine k_if_ne C 20 dX7_traps_13 (by decide) (fun hc => ?_) (fun hc => ?_)
  · replace hf := (if_neg hc).symm.trans hf
    refine k_iconst (v := (0 : Int32)) C dX7_traps_20 (by decide) ?_
    cases hf
    exact K _ _ dX7_traps_21 (nar_b (Or.inl rfl))
  · replace hf := (if_pos hc).symm.trans hf
    refine k_iconst (v := (1 : Int32)) C dX7_traps_16 (by decide) ?_
    refine k_goto C 21 dX7_traps_17 (by decide) ?_
    cases hf
    exact K _ _ dX7_traps_21 (nar_b (Or.inr rfl))
set_option maxHeartbeats 4000000 in
set_option maxRecDepth 100000 in
theorem b7_traps {V : EV} {p : Program} {l : Launch} {e : Env} {R : Room} {s : State} {m : MethodId} {args : Array Value} {below : List Frame} {meth : Method} {c : Code} {Q : State → Prop} {A : Nat → Prop} {kc ks : Nat} {ad : Nat → Nat} {top : TopS} {rd : RdS} {ra : Int32} {co : Nat → CoS} {mu : MuS} {fo : FoS} {tr : TrS} {ma : MaS} {mq : Nat} {mx : MxS} {v0 : Int32} {v1 : Int32} {res : Int32} (C : CX V p l R s m args c A kc ks RX7 cX7_traps 2 0 0) (hf : f7_traps v0 v1 = some res) (K : RI V p l e R s m args below meth c Q A kc ks 2 cX7_traps .boolean res (wC V ad top rd ra co mu fo tr ma mq mx)) : WC V p l e R s m args below meth c Q A kc ks 2 (wC V ad top rd ra co mu fo tr ma mq mx) 0 [(0, .int v0), (1, .int v1)] [] := by
  rw [f7_traps] at hf
  refine k_iload_n C dX7_traps_0 0 rfl ?_
  refine k_bipush (v := (47 : Int32)) C dX7_traps_1 (by decide) ?_
  refine k_icmp_eq C 12 dX7_traps_3 (by decide) (fun hc => ?_) (fun hc => ?_)
  · replace hf := (if_pos hc).symm.trans hf
    refine k_sub [1] (L' := [(1, .int v1)]) rfl ?_
    exact w7_traps_L12 C K _ hf
  · replace hf := (if_neg hc).symm.trans hf
    refine k_iload_n C dX7_traps_6 0 rfl ?_
    refine k_bipush (v := (37 : Int32)) C dX7_traps_7 (by decide) ?_
    refine k_icmp_ne C 20 dX7_traps_9 (by decide) (fun hc => ?_) (fun hc => ?_)
    · replace hf := (if_neg hc).symm.trans hf
      refine k_iconst (v := (0 : Int32)) C dX7_traps_20 (by decide) ?_
      cases hf
      exact K _ _ dX7_traps_21 (nar_b (Or.inl rfl))
    · replace hf := (if_pos hc).symm.trans hf
      refine k_sub [1] (L' := [(1, .int v1)]) rfl ?_
      exact w7_traps_L12 C K _ hf
theorem c7_traps {V : EV} {l : Launch} (hl0 : l.stackTraces = false) {ad : Nat → Nat} {top : TopS} {rd : RdS} {ra : Int32} {co : Nat → CoS} {mu : MuS} {fo : FoS} {tr : TrS} {ma : MaS} {mq : Nat} {mx : MxS} {v0 : Int32} {v1 : Int32} {res : Int32} (hf : f7_traps v0 v1 = some res) : MI V l yX7_traps cX7_traps 2 .boolean 0 0 [.int v0, .int v1] (wC V ad top rd ra co mu fo tr ma mq mx) res (wC V ad top rd ra co mu fo tr ma mq mx) :=
  mi_of hl0 (by decide +kernel) (Nat.le_of_ble_eq_true rfl) (fun p e R s m args below meth c Q A C K => b7_traps C hf K)

theorem ok7_arithmetic : okCV RX7 yX7_arithmetic 3 := by unfold okCV; decide +kernel
def f7_arithmetic (v0 : Int32) (v1 : Int32) (v2 : Int32) : Option (Int32) :=
    if v0 = (42 : Int32) then some (v1 * v2) else if v0 = (43 : Int32) then some (v1 + v2) else if v0 = (45 : Int32) then some (v1 - v2) else if v0 = (47 : Int32) then if v2 = 0 then some (0 : Int32) else if v2 = 0 then none else some (v1 / v2) else if v2 = 0 then some (0 : Int32) else if v2 = 0 then none else some (v1 - v1 / v2 * v2)
set_option maxHeartbeats 4000000 in
set_option maxRecDepth 100000 in
theorem b7_arithmetic {V : EV} {p : Program} {l : Launch} {e : Env} {R : Room} {s : State} {m : MethodId} {args : Array Value} {below : List Frame} {meth : Method} {c : Code} {Q : State → Prop} {A : Nat → Prop} {kc ks : Nat} {ad : Nat → Nat} {top : TopS} {rd : RdS} {ra : Int32} {co : Nat → CoS} {mu : MuS} {fo : FoS} {tr : TrS} {ma : MaS} {mq : Nat} {mx : MxS} {v0 : Int32} {v1 : Int32} {v2 : Int32} {res : Int32} (C : CX V p l R s m args c A kc ks RX7 cX7_arithmetic 3 0 0) (hf : f7_arithmetic v0 v1 v2 = some res) (K : RI V p l e R s m args below meth c Q A kc ks 3 cX7_arithmetic .int res (wC V ad top rd ra co mu fo tr ma mq mx)) : WC V p l e R s m args below meth c Q A kc ks 3 (wC V ad top rd ra co mu fo tr ma mq mx) 0 [(0, .int v0), (1, .int v1), (2, .int v2)] [] := by
  rw [f7_arithmetic] at hf
  refine k_iload_n C dX7_arithmetic_0 0 rfl ?_
  have hx0 : ∀ n : Int32, v0 = n → v0.toInt = n.toInt := fun n h => by rw [h]
  by_cases hc : v0 = (42 : Int32)
  · replace hf := (if_pos hc).symm.trans hf
    refine k_tableIn C 48 dX7_arithmetic_1 (by rw [hx0 _ hc]; decide) (by rw [hx0 _ hc]; decide) (by rw [hx0 _ hc]; rfl) (by decide) ?_
    refine k_iload_n C dX7_arithmetic_48 1 rfl ?_
    refine k_iload_n C dX7_arithmetic_49 2 rfl ?_
    refine k_imul C dX7_arithmetic_50 ?_
    cases hf
    exact K _ _ dX7_arithmetic_51 rfl
  replace hf := (if_neg hc).symm.trans hf
  have hn42 := sw_ne hc
  by_cases hc : v0 = (43 : Int32)
  · replace hf := (if_pos hc).symm.trans hf
    refine k_tableIn C 40 dX7_arithmetic_1 (by rw [hx0 _ hc]; decide) (by rw [hx0 _ hc]; decide) (by rw [hx0 _ hc]; rfl) (by decide) ?_
    refine k_iload_n C dX7_arithmetic_40 1 rfl ?_
    refine k_iload_n C dX7_arithmetic_41 2 rfl ?_
    refine k_iadd C dX7_arithmetic_42 ?_
    cases hf
    exact K _ _ dX7_arithmetic_43 rfl
  replace hf := (if_neg hc).symm.trans hf
  have hn43 := sw_ne hc
  by_cases hc : v0 = (45 : Int32)
  · replace hf := (if_pos hc).symm.trans hf
    refine k_tableIn C 44 dX7_arithmetic_1 (by rw [hx0 _ hc]; decide) (by rw [hx0 _ hc]; decide) (by rw [hx0 _ hc]; rfl) (by decide) ?_
    refine k_iload_n C dX7_arithmetic_44 1 rfl ?_
    refine k_iload_n C dX7_arithmetic_45 2 rfl ?_
    refine k_isub C dX7_arithmetic_46 ?_
    cases hf
    exact K _ _ dX7_arithmetic_47 rfl
  replace hf := (if_neg hc).symm.trans hf
  have hn45 := sw_ne hc
  by_cases hc : v0 = (47 : Int32)
  · replace hf := (if_pos hc).symm.trans hf
    refine k_tableIn C 52 dX7_arithmetic_1 (by rw [hx0 _ hc]; decide) (by rw [hx0 _ hc]; decide) (by rw [hx0 _ hc]; rfl) (by decide) ?_
    refine k_iload_n C dX7_arithmetic_52 2 rfl ?_
    refine k_if_ne C 60 dX7_arithmetic_53 (by decide) (fun hc => ?_) (fun hc => ?_)
    · replace hf := (if_neg hc).symm.trans hf
      refine k_iload_n C dX7_arithmetic_60 1 rfl ?_
      refine k_iload_n C dX7_arithmetic_61 2 rfl ?_
      obtain ⟨hz, hf⟩ := gd_no hf
      refine k_idiv C dX7_arithmetic_62 hz ?_
      cases hf
      exact K _ _ dX7_arithmetic_63 rfl
    · replace hf := (if_pos hc).symm.trans hf
      refine k_iconst (v := (0 : Int32)) C dX7_arithmetic_56 (by decide) ?_
      refine k_goto C 63 dX7_arithmetic_57 (by decide) ?_
      cases hf
      exact K _ _ dX7_arithmetic_63 rfl
  replace hf := (if_neg hc).symm.trans hf
  have hn47 := sw_ne hc
  have kd_1 : WC V p l e R s m args below meth c Q A kc ks 3 (wC V ad top rd ra co mu fo tr ma mq mx) 64 [(0, .int v0), (1, .int v1), (2, .int v2)] [] := by
    refine k_iload_n C dX7_arithmetic_64 2 rfl ?_
    refine k_if_ne C 72 dX7_arithmetic_65 (by decide) (fun hc => ?_) (fun hc => ?_)
    · replace hf := (if_neg hc).symm.trans hf
      refine k_iload_n C dX7_arithmetic_72 1 rfl ?_
      refine k_iload_n C dX7_arithmetic_73 2 rfl ?_
      obtain ⟨hz, hf⟩ := gd_no hf
      refine k_irem C dX7_arithmetic_74 hz ?_
      cases hf
      exact K _ _ dX7_arithmetic_75 rfl
    · replace hf := (if_pos hc).symm.trans hf
      refine k_iconst (v := (0 : Int32)) C dX7_arithmetic_68 (by decide) ?_
      refine k_goto C 75 dX7_arithmetic_69 (by decide) ?_
      cases hf
      exact K _ _ dX7_arithmetic_75 rfl
  have hr : v0.toInt < 42 ∨ 47 < v0.toInt ∨ v0.toInt = 44 ∨ v0.toInt = 46 := by
    have q42 : ¬ v0.toInt = 42 := hn42 42 (by decide)
    have q43 : ¬ v0.toInt = 43 := hn43 43 (by decide)
    have q45 : ¬ v0.toInt = 45 := hn45 45 (by decide)
    have q47 : ¬ v0.toInt = 47 := hn47 47 (by decide)
    omega
  rcases hr with hr | hr | hr | hr
  · exact k_tableOut C 64 dX7_arithmetic_1 (Or.inl hr) (by decide) kd_1
  · exact k_tableOut C 64 dX7_arithmetic_1 (Or.inr hr) (by decide) kd_1
  · exact k_tableIn C 64 dX7_arithmetic_1 (by rw [hr]; decide) (by rw [hr]; decide) (by rw [hr]; rfl) (by decide) kd_1
  · exact k_tableIn C 64 dX7_arithmetic_1 (by rw [hr]; decide) (by rw [hr]; decide) (by rw [hr]; rfl) (by decide) kd_1
theorem c7_arithmetic {V : EV} {l : Launch} (hl0 : l.stackTraces = false) {ad : Nat → Nat} {top : TopS} {rd : RdS} {ra : Int32} {co : Nat → CoS} {mu : MuS} {fo : FoS} {tr : TrS} {ma : MaS} {mq : Nat} {mx : MxS} {v0 : Int32} {v1 : Int32} {v2 : Int32} {res : Int32} (hf : f7_arithmetic v0 v1 v2 = some res) : MI V l yX7_arithmetic cX7_arithmetic 3 .int 0 0 [.int v0, .int v1, .int v2] (wC V ad top rd ra co mu fo tr ma mq mx) res (wC V ad top rd ra co mu fo tr ma mq mx) :=
  mi_of hl0 (by decide +kernel) (Nat.le_of_ble_eq_true rfl) (fun p e R s m args below meth c Q A C K => b7_arithmetic C hf K)

theorem ok7_comparison : okCV RX7 yX7_comparison 3 := by unfold okCV; decide +kernel
def f7_comparison (v0 : Int32) (v1 : Int32) (v2 : Int32) : Option (Int32) :=
    if v0 = (60 : Int32) then if v2 ≤ v1 then some (0 : Int32) else some (1 : Int32) else if v0 = (61 : Int32) then if v1 = v2 then some (1 : Int32) else some (0 : Int32) else if v0 = (62 : Int32) then if v1 ≤ v2 then some (0 : Int32) else some (1 : Int32) else if v1 = v2 then some (0 : Int32) else some (1 : Int32)
set_option maxHeartbeats 4000000 in
set_option maxRecDepth 100000 in
theorem b7_comparison {V : EV} {p : Program} {l : Launch} {e : Env} {R : Room} {s : State} {m : MethodId} {args : Array Value} {below : List Frame} {meth : Method} {c : Code} {Q : State → Prop} {A : Nat → Prop} {kc ks : Nat} {ad : Nat → Nat} {top : TopS} {rd : RdS} {ra : Int32} {co : Nat → CoS} {mu : MuS} {fo : FoS} {tr : TrS} {ma : MaS} {mq : Nat} {mx : MxS} {v0 : Int32} {v1 : Int32} {v2 : Int32} {res : Int32} (C : CX V p l R s m args c A kc ks RX7 cX7_comparison 3 0 0) (hf : f7_comparison v0 v1 v2 = some res) (K : RI V p l e R s m args below meth c Q A kc ks 3 cX7_comparison .boolean res (wC V ad top rd ra co mu fo tr ma mq mx)) : WC V p l e R s m args below meth c Q A kc ks 3 (wC V ad top rd ra co mu fo tr ma mq mx) 0 [(0, .int v0), (1, .int v1), (2, .int v2)] [] := by
  rw [f7_comparison] at hf
  refine k_iload_n C dX7_comparison_0 0 rfl ?_
  have hx0 : ∀ n : Int32, v0 = n → v0.toInt = n.toInt := fun n h => by rw [h]
  by_cases hc : v0 = (60 : Int32)
  · replace hf := (if_pos hc).symm.trans hf
    refine k_tableIn C 28 dX7_comparison_1 (by rw [hx0 _ hc]; decide) (by rw [hx0 _ hc]; decide) (by rw [hx0 _ hc]; rfl) (by decide) ?_
    refine k_iload_n C dX7_comparison_28 1 rfl ?_
    refine k_iload_n C dX7_comparison_29 2 rfl ?_
    refine k_icmp_ge C 37 dX7_comparison_30 (by decide) (fun hc => ?_) (fun hc => ?_)
    · replace hf := (if_pos hc).symm.trans hf
      refine k_iconst (v := (0 : Int32)) C dX7_comparison_37 (by decide) ?_
      cases hf
      exact K _ _ dX7_comparison_38 (nar_b (Or.inl rfl))
    · replace hf := (if_neg hc).symm.trans hf
      refine k_iconst (v := (1 : Int32)) C dX7_comparison_33 (by decide) ?_
      refine k_goto C 38 dX7_comparison_34 (by decide) ?_
      cases hf
      exact K _ _ dX7_comparison_38 (nar_b (Or.inr rfl))
  replace hf := (if_neg hc).symm.trans hf
  have hn60 := sw_ne hc
  by_cases hc : v0 = (61 : Int32)
  · replace hf := (if_pos hc).symm.trans hf
    refine k_tableIn C 50 dX7_comparison_1 (by rw [hx0 _ hc]; decide) (by rw [hx0 _ hc]; decide) (by rw [hx0 _ hc]; rfl) (by decide) ?_
    refine k_iload_n C dX7_comparison_50 1 rfl ?_
    refine k_iload_n C dX7_comparison_51 2 rfl ?_
    refine k_icmp_ne C 59 dX7_comparison_52 (by decide) (fun hc => ?_) (fun hc => ?_)
    · replace hf := (if_neg hc).symm.trans hf
      refine k_iconst (v := (0 : Int32)) C dX7_comparison_59 (by decide) ?_
      cases hf
      exact K _ _ dX7_comparison_60 (nar_b (Or.inl rfl))
    · replace hf := (if_pos hc).symm.trans hf
      refine k_iconst (v := (1 : Int32)) C dX7_comparison_55 (by decide) ?_
      refine k_goto C 60 dX7_comparison_56 (by decide) ?_
      cases hf
      exact K _ _ dX7_comparison_60 (nar_b (Or.inr rfl))
  replace hf := (if_neg hc).symm.trans hf
  have hn61 := sw_ne hc
  by_cases hc : v0 = (62 : Int32)
  · replace hf := (if_pos hc).symm.trans hf
    refine k_tableIn C 39 dX7_comparison_1 (by rw [hx0 _ hc]; decide) (by rw [hx0 _ hc]; decide) (by rw [hx0 _ hc]; rfl) (by decide) ?_
    refine k_iload_n C dX7_comparison_39 1 rfl ?_
    refine k_iload_n C dX7_comparison_40 2 rfl ?_
    refine k_icmp_le C 48 dX7_comparison_41 (by decide) (fun hc => ?_) (fun hc => ?_)
    · replace hf := (if_pos hc).symm.trans hf
      refine k_iconst (v := (0 : Int32)) C dX7_comparison_48 (by decide) ?_
      cases hf
      exact K _ _ dX7_comparison_49 (nar_b (Or.inl rfl))
    · replace hf := (if_neg hc).symm.trans hf
      refine k_iconst (v := (1 : Int32)) C dX7_comparison_44 (by decide) ?_
      refine k_goto C 49 dX7_comparison_45 (by decide) ?_
      cases hf
      exact K _ _ dX7_comparison_49 (nar_b (Or.inr rfl))
  replace hf := (if_neg hc).symm.trans hf
  have hn62 := sw_ne hc
  have kd_1 : WC V p l e R s m args below meth c Q A kc ks 3 (wC V ad top rd ra co mu fo tr ma mq mx) 61 [(0, .int v0), (1, .int v1), (2, .int v2)] [] := by
    refine k_iload_n C dX7_comparison_61 1 rfl ?_
    refine k_iload_n C dX7_comparison_62 2 rfl ?_
    refine k_icmp_eq C 70 dX7_comparison_63 (by decide) (fun hc => ?_) (fun hc => ?_)
    · replace hf := (if_pos hc).symm.trans hf
      refine k_iconst (v := (0 : Int32)) C dX7_comparison_70 (by decide) ?_
      cases hf
      exact K _ _ dX7_comparison_71 (nar_b (Or.inl rfl))
    · replace hf := (if_neg hc).symm.trans hf
      refine k_iconst (v := (1 : Int32)) C dX7_comparison_66 (by decide) ?_
      refine k_goto C 71 dX7_comparison_67 (by decide) ?_
      cases hf
      exact K _ _ dX7_comparison_71 (nar_b (Or.inr rfl))
  have hr : v0.toInt < 60 ∨ 62 < v0.toInt := by
    have q60 : ¬ v0.toInt = 60 := hn60 60 (by decide)
    have q61 : ¬ v0.toInt = 61 := hn61 61 (by decide)
    have q62 : ¬ v0.toInt = 62 := hn62 62 (by decide)
    omega
  rcases hr with hr | hr
  · exact k_tableOut C 61 dX7_comparison_1 (Or.inl hr) (by decide) kd_1
  · exact k_tableOut C 61 dX7_comparison_1 (Or.inr hr) (by decide) kd_1
theorem c7_comparison {V : EV} {l : Launch} (hl0 : l.stackTraces = false) {ad : Nat → Nat} {top : TopS} {rd : RdS} {ra : Int32} {co : Nat → CoS} {mu : MuS} {fo : FoS} {tr : TrS} {ma : MaS} {mq : Nat} {mx : MxS} {v0 : Int32} {v1 : Int32} {v2 : Int32} {res : Int32} (hf : f7_comparison v0 v1 v2 = some res) : MI V l yX7_comparison cX7_comparison 3 .boolean 0 0 [.int v0, .int v1, .int v2] (wC V ad top rd ra co mu fo tr ma mq mx) res (wC V ad top rd ra co mu fo tr ma mq mx) :=
  mi_of hl0 (by decide +kernel) (Nat.le_of_ble_eq_true rfl) (fun p e R s m args below meth c Q A C K => b7_comparison C hf K)

theorem cm7_200 : ∀ a ∈ wsCV RX7 200 "java/lang/String" yJ0_length_8abf5 cJ0_length_8abf5 1 (some .int), a ∈ GW := by
  unfold wsCV
  exact (List.forall_mem_cons.mpr ⟨(gw_3 (i := 123) (by decide +kernel) rfl), (List.forall_mem_cons.mpr ⟨(gw_3 (i := 14) (by decide +kernel) rfl), (List.forall_mem_cons.mpr ⟨(gw_3 (i := 15) (by decide +kernel) rfl), (List.forall_mem_cons.mpr ⟨(gw_1 (i := 14) (by decide +kernel) rfl), (List.forall_mem_cons.mpr ⟨(gw_3 (i := 16) (by decide +kernel) rfl), (List.forall_mem_nil _)⟩)⟩)⟩)⟩)⟩)
theorem ok7_choicesOf : okCV RX7 yX7_choicesOf 1 := by unfold okCV; decide +kernel
def f7_choicesOf (v0 : Int32) : Option (Int32) :=
    if v0 = (0 : Int32) then some ((strLen 0) - (1 : Int32)) else if v0 = (1 : Int32) then some ((strLen 1) - (1 : Int32)) else if v0 = (2 : Int32) then some ((strLen 2) - (1 : Int32)) else if v0 = (3 : Int32) then some (2 : Int32) else if v0 = (4 : Int32) then some (1 : Int32) else some (0 : Int32)
set_option maxHeartbeats 4000000 in
set_option maxRecDepth 100000 in
theorem b7_choicesOf {V : EV} {p : Program} {l : Launch} {e : Env} {R : Room} {s : State} {m : MethodId} {args : Array Value} {below : List Frame} {meth : Method} {c : Code} {Q : State → Prop} {A : Nat → Prop} {kc ks : Nat} {ad : Nat → Nat} {top : TopS} {rd : RdS} {ra : Int32} {co : Nat → CoS} {mu : MuS} {fo : FoS} {tr : TrS} {ma : MaS} {mq : Nat} {mx : MxS} {v0 : Int32} {res : Int32} (C : CX V p l R s m args c A kc ks RX7 cX7_choicesOf 1 2 60) (hf : f7_choicesOf v0 = some res) (K : RI V p l e R s m args below meth c Q A kc ks 1 cX7_choicesOf .int res (wC V ad top rd ra co mu fo tr ma mq mx)) : WC V p l e R s m args below meth c Q A kc ks 1 (wC V ad top rd ra co mu fo tr ma mq mx) 0 [(0, .int v0)] [] := by
  rw [f7_choicesOf] at hf
  refine k_iload_n C dX7_choicesOf_0 0 rfl ?_
  have hx0 : ∀ n : Int32, v0 = n → v0.toInt = n.toInt := fun n h => by rw [h]
  by_cases hc : v0 = (0 : Int32)
  · replace hf := (if_pos hc).symm.trans hf
    refine k_tableIn C 36 dX7_choicesOf_1 (by rw [hx0 _ hc]; decide) (by rw [hx0 _ hc]; decide) (by rw [hx0 _ hc]; rfl) (by decide) ?_
    refine k_ldcS (tx := "+-*/%") (j := 0) C (by decide +kernel) dX7_choicesOf_36 ?_
    refine k_strLen C (by decide) cm7_200 (by decide) (Nat.le_of_ble_eq_true rfl) dX7_choicesOf_38 ?_
    refine k_iconst (v := (1 : Int32)) C dX7_choicesOf_41 (by decide) ?_
    refine k_isub C dX7_choicesOf_42 ?_
    cases hf
    exact K _ _ dX7_choicesOf_43 rfl
  replace hf := (if_neg hc).symm.trans hf
  have hn0 := sw_ne hc
  by_cases hc : v0 = (1 : Int32)
  · replace hf := (if_pos hc).symm.trans hf
    refine k_tableIn C 44 dX7_choicesOf_1 (by rw [hx0 _ hc]; decide) (by rw [hx0 _ hc]; decide) (by rw [hx0 _ hc]; rfl) (by decide) ?_
    refine k_ldcS (tx := "<>=#") (j := 1) C (by decide +kernel) dX7_choicesOf_44 ?_
    refine k_strLen C (by decide) cm7_200 (by decide) (Nat.le_of_ble_eq_true rfl) dX7_choicesOf_46 ?_
    refine k_iconst (v := (1 : Int32)) C dX7_choicesOf_49 (by decide) ?_
    refine k_isub C dX7_choicesOf_50 ?_
    cases hf
    exact K _ _ dX7_choicesOf_51 rfl
  replace hf := (if_neg hc).symm.trans hf
  have hn1 := sw_ne hc
  by_cases hc : v0 = (2 : Int32)
  · replace hf := (if_pos hc).symm.trans hf
    refine k_tableIn C 52 dX7_choicesOf_1 (by rw [hx0 _ hc]; decide) (by rw [hx0 _ hc]; decide) (by rw [hx0 _ hc]; rfl) (by decide) ?_
    refine k_ldcS (tx := "&|") (j := 2) C (by decide +kernel) dX7_choicesOf_52 ?_
    refine k_strLen C (by decide) cm7_200 (by decide) (Nat.le_of_ble_eq_true rfl) dX7_choicesOf_54 ?_
    refine k_iconst (v := (1 : Int32)) C dX7_choicesOf_57 (by decide) ?_
    refine k_isub C dX7_choicesOf_58 ?_
    cases hf
    exact K _ _ dX7_choicesOf_59 rfl
  replace hf := (if_neg hc).symm.trans hf
  have hn2 := sw_ne hc
  by_cases hc : v0 = (3 : Int32)
  · replace hf := (if_pos hc).symm.trans hf
    refine k_tableIn C 60 dX7_choicesOf_1 (by rw [hx0 _ hc]; decide) (by rw [hx0 _ hc]; decide) (by rw [hx0 _ hc]; rfl) (by decide) ?_
    refine k_iconst (v := (2 : Int32)) C dX7_choicesOf_60 (by decide) ?_
    cases hf
    exact K _ _ dX7_choicesOf_61 rfl
  replace hf := (if_neg hc).symm.trans hf
  have hn3 := sw_ne hc
  by_cases hc : v0 = (4 : Int32)
  · replace hf := (if_pos hc).symm.trans hf
    refine k_tableIn C 62 dX7_choicesOf_1 (by rw [hx0 _ hc]; decide) (by rw [hx0 _ hc]; decide) (by rw [hx0 _ hc]; rfl) (by decide) ?_
    refine k_iconst (v := (1 : Int32)) C dX7_choicesOf_62 (by decide) ?_
    cases hf
    exact K _ _ dX7_choicesOf_63 rfl
  replace hf := (if_neg hc).symm.trans hf
  have hn4 := sw_ne hc
  have kd_1 : WC V p l e R s m args below meth c Q A kc ks 1 (wC V ad top rd ra co mu fo tr ma mq mx) 64 [(0, .int v0)] [] := by
    refine k_iconst (v := (0 : Int32)) C dX7_choicesOf_64 (by decide) ?_
    cases hf
    exact K _ _ dX7_choicesOf_65 rfl
  have hr : v0.toInt < 0 ∨ 4 < v0.toInt := by
    have q0 : ¬ v0.toInt = 0 := hn0 0 (by decide)
    have q1 : ¬ v0.toInt = 1 := hn1 1 (by decide)
    have q2 : ¬ v0.toInt = 2 := hn2 2 (by decide)
    have q3 : ¬ v0.toInt = 3 := hn3 3 (by decide)
    have q4 : ¬ v0.toInt = 4 := hn4 4 (by decide)
    omega
  rcases hr with hr | hr
  · exact k_tableOut C 64 dX7_choicesOf_1 (Or.inl hr) (by decide) kd_1
  · exact k_tableOut C 64 dX7_choicesOf_1 (Or.inr hr) (by decide) kd_1
theorem c7_choicesOf {V : EV} {l : Launch} (hl0 : l.stackTraces = false) {ad : Nat → Nat} {top : TopS} {rd : RdS} {ra : Int32} {co : Nat → CoS} {mu : MuS} {fo : FoS} {tr : TrS} {ma : MaS} {mq : Nat} {mx : MxS} {v0 : Int32} {res : Int32} (hf : f7_choicesOf v0 = some res) : MI V l yX7_choicesOf cX7_choicesOf 1 .int 2 60 [.int v0] (wC V ad top rd ra co mu fo tr ma mq mx) res (wC V ad top rd ra co mu fo tr ma mq mx) :=
  mi_of hl0 (by decide +kernel) (Nat.le_of_ble_eq_true rfl) (fun p e R s m args below meth c Q A C K => b7_choicesOf C hf K)

theorem ok7_holds : okCV RX7 yX7_holds 2 := by unfold okCV; decide +kernel
def f7_holds (v0 : Int64) (v2 : Int32) : Option (Int32) :=
    if (lg_cmp (((v0.toUInt64 >>> (v2.toInt64.toUInt64 &&& Int64.toUInt64 63)).toInt64) &&& (1 : Int64)) (1 : Int64)) = 0 then some (1 : Int32) else some (0 : Int32)
set_option maxHeartbeats 4000000 in
set_option maxRecDepth 100000 in
theorem b7_holds {V : EV} {p : Program} {l : Launch} {e : Env} {R : Room} {s : State} {m : MethodId} {args : Array Value} {below : List Frame} {meth : Method} {c : Code} {Q : State → Prop} {A : Nat → Prop} {kc ks : Nat} {ad : Nat → Nat} {top : TopS} {rd : RdS} {ra : Int32} {co : Nat → CoS} {mu : MuS} {fo : FoS} {tr : TrS} {ma : MaS} {mq : Nat} {mx : MxS} {v0 : Int64} {v2 : Int32} {res : Int32} (C : CX V p l R s m args c A kc ks RX7 cX7_holds 3 0 0) (hf : f7_holds v0 v2 = some res) (K : RI V p l e R s m args below meth c Q A kc ks 3 cX7_holds .boolean res (wC V ad top rd ra co mu fo tr ma mq mx)) : WC V p l e R s m args below meth c Q A kc ks 3 (wC V ad top rd ra co mu fo tr ma mq mx) 0 [(0, .long v0), (2, .int v2)] [] := by
  rw [f7_holds] at hf
  refine k_lload_n C dX7_holds_0 0 rfl ?_
  refine k_iload_n C dX7_holds_1 1 rfl ?_
  refine k_lushr C dX7_holds_2 ?_
  refine k_lconst (v := (1 : Int64)) C dX7_holds_3 (by decide) ?_
  refine k_land C dX7_holds_4 ?_
  refine k_lconst (v := (1 : Int64)) C dX7_holds_5 (by decide) ?_
  refine k_lcmp C dX7_holds_6 ?_
  refine k_if_ne C 14 dX7_holds_7 (by decide) (fun hc => ?_) (fun hc => ?_)
  · replace hf := (if_neg hc).symm.trans hf
    refine k_iconst (v := (0 : Int32)) C dX7_holds_14 (by decide) ?_
    cases hf
    exact K _ _ dX7_holds_15 (nar_b (Or.inl rfl))
  · replace hf := (if_pos hc).symm.trans hf
    refine k_iconst (v := (1 : Int32)) C dX7_holds_10 (by decide) ?_
    refine k_goto C 15 dX7_holds_11 (by decide) ?_
    cases hf
    exact K _ _ dX7_holds_15 (nar_b (Or.inr rfl))
theorem c7_holds {V : EV} {l : Launch} (hl0 : l.stackTraces = false) {ad : Nat → Nat} {top : TopS} {rd : RdS} {ra : Int32} {co : Nat → CoS} {mu : MuS} {fo : FoS} {tr : TrS} {ma : MaS} {mq : Nat} {mx : MxS} {v0 : Int64} {v2 : Int32} {res : Int32} (hf : f7_holds v0 v2 = some res) : MI V l yX7_holds cX7_holds 3 .boolean 0 0 [.long v0, .int v2] (wC V ad top rd ra co mu fo tr ma mq mx) res (wC V ad top rd ra co mu fo tr ma mq mx) :=
  mi_of hl0 (by decide +kernel) (Nat.le_of_ble_eq_true rfl) (fun p e R s m args below meth c Q A C K => b7_holds C hf K)

theorem ok1_push : okCV RX1 yX1_push 1 := by unfold okCV; decide +kernel
def f1_push (v1 : Int32) : FoS → Option (FoS)
  | (fo_fR, fo_fS, fo_fh, fo_fb) =>
    if (128 : Int32) ≤ fo_fh then some (fo_fR, fo_fS, fo_fh, fo_fb) else if fo_fh < 0 ∨ 128 ≤ fo_fh.toNatClampNeg then none else some (fo_fR, (upd fo_fS fo_fh.toNatClampNeg v1), (fo_fh + (1 : Int32)), fo_fb)
set_option maxHeartbeats 4000000 in
set_option maxRecDepth 100000 in
theorem b1_push {V : EV} {p : Program} {l : Launch} {e : Env} {R : Room} {s : State} {m : MethodId} {args : Array Value} {below : List Frame} {meth : Method} {c : Code} {Q : State → Prop} {A : Nat → Prop} {kc ks : Nat} {ad : Nat → Nat} {top : TopS} {rd : RdS} {ra : Int32} {co : Nat → CoS} {mu : MuS} {tr : TrS} {ma : MaS} {mq : Nat} {mx : MxS} {v1 : Int32} {fo_fR : Nat → Int32} {fo_fS : Nat → Int32} {fo_fh : Int32} {fo_fb : Int32} {res : FoS} (C : CX V p l R s m args c A kc ks RX1 cX1_push 2 0 0) (hf : f1_push v1 (fo_fR, fo_fS, fo_fh, fo_fb) = some res) (K : RV V p l e R s m args below meth c Q A kc ks 2 cX1_push (wC V ad top rd ra co mu res tr ma mq mx)) : WC V p l e R s m args below meth c Q A kc ks 2 (wC V ad top rd ra co mu (fo_fR, fo_fS, fo_fh, fo_fb) tr ma mq mx) 0 [(0, .ref (ad 25)), (1, .int v1)] [] := by
  rw [f1_push] at hf
  refine k_aload_n C dX1_push_0 0 rfl ?_
  refine g1_25 C dX1_push_1 ?_
  refine k_sipush (v := (128 : Int32)) C dX1_push_4 (by decide) ?_
  refine k_icmp_ge C 30 dX1_push_7 (by decide) (fun hc => ?_) (fun hc => ?_)
  · replace hf := (if_pos hc).symm.trans hf
    cases hf
    exact K _ _ dX1_push_30
  · replace hf := (if_neg hc).symm.trans hf
    refine k_aload_n C dX1_push_10 0 rfl ?_
    refine g1_22 C dX1_push_11 ?_
    refine k_aload_n C dX1_push_14 0 rfl ?_
    refine g1_25 C dX1_push_15 ?_
    refine k_iload_n C dX1_push_18 1 rfl ?_
    obtain ⟨hi, hf⟩ := gd_no hf
    refine sc34 C hi dX1_push_19 ?_
    refine k_aload_n C dX1_push_20 0 rfl ?_
    refine k_dup C dX1_push_21 rfl ?_
    refine g1_25 C dX1_push_22 ?_
    refine k_iconst (v := (1 : Int32)) C dX1_push_25 (by decide) ?_
    refine k_iadd C dX1_push_26 ?_
    refine p1_25 C dX1_push_27 ?_
    cases hf
    exact K _ _ dX1_push_30
theorem c1_push {V : EV} {l : Launch} (hl0 : l.stackTraces = false) {ad : Nat → Nat} {top : TopS} {rd : RdS} {ra : Int32} {co : Nat → CoS} {mu : MuS} {tr : TrS} {ma : MaS} {mq : Nat} {mx : MxS} {v1 : Int32} {fo_fR : Nat → Int32} {fo_fS : Nat → Int32} {fo_fh : Int32} {fo_fb : Int32} {res : FoS} (hf : f1_push v1 (fo_fR, fo_fS, fo_fh, fo_fb) = some res) : MV V l yX1_push cX1_push 2 0 0 [.ref (ad 25), .int v1] (wC V ad top rd ra co mu (fo_fR, fo_fS, fo_fh, fo_fb) tr ma mq mx) (wC V ad top rd ra co mu res tr ma mq mx) :=
  mv_of hl0 (by decide +kernel) (Nat.le_of_ble_eq_true rfl) (fun p e R s m args below meth c Q A C K => b1_push C hf K)

theorem ok1_pop : okCV RX1 yX1_pop 0 := by unfold okCV; decide +kernel
def f1_pop  : FoS → Option (Int32 × FoS)
  | (fo_fR, fo_fS, fo_fh, fo_fb) =>
    if fo_fh = 0 then some ((0 : Int32), (fo_fR, fo_fS, fo_fh, fo_fb)) else if (fo_fh - (1 : Int32)) < 0 ∨ 128 ≤ (fo_fh - (1 : Int32)).toNatClampNeg then none else some ((fo_fS (fo_fh - (1 : Int32)).toNatClampNeg), (fo_fR, fo_fS, (fo_fh - (1 : Int32)), fo_fb))
set_option maxHeartbeats 4000000 in
set_option maxRecDepth 100000 in
theorem b1_pop {V : EV} {p : Program} {l : Launch} {e : Env} {R : Room} {s : State} {m : MethodId} {args : Array Value} {below : List Frame} {meth : Method} {c : Code} {Q : State → Prop} {A : Nat → Prop} {kc ks : Nat} {ad : Nat → Nat} {top : TopS} {rd : RdS} {ra : Int32} {co : Nat → CoS} {mu : MuS} {tr : TrS} {ma : MaS} {mq : Nat} {mx : MxS} {fo_fR : Nat → Int32} {fo_fS : Nat → Int32} {fo_fh : Int32} {fo_fb : Int32} {res : Int32 × FoS} (C : CX V p l R s m args c A kc ks RX1 cX1_pop 1 0 0) (hf : f1_pop (fo_fR, fo_fS, fo_fh, fo_fb) = some res) (K : RI V p l e R s m args below meth c Q A kc ks 1 cX1_pop .int res.1 (wC V ad top rd ra co mu res.2 tr ma mq mx)) : WC V p l e R s m args below meth c Q A kc ks 1 (wC V ad top rd ra co mu (fo_fR, fo_fS, fo_fh, fo_fb) tr ma mq mx) 0 [(0, .ref (ad 25))] [] := by
  rw [f1_pop] at hf
  refine k_aload_n C dX1_pop_0 0 rfl ?_
  refine g1_25 C dX1_pop_1 ?_
  refine k_if_ne C 9 dX1_pop_4 (by decide) (fun hc => ?_) (fun hc => ?_)
  · replace hf := (if_neg hc).symm.trans hf
    refine k_aload_n C dX1_pop_9 0 rfl ?_
    refine k_dup C dX1_pop_10 rfl ?_
    refine g1_25 C dX1_pop_11 ?_
    refine k_iconst (v := (1 : Int32)) C dX1_pop_14 (by decide) ?_
    refine k_isub C dX1_pop_15 ?_
    refine p1_25 C dX1_pop_16 ?_
    refine k_aload_n C dX1_pop_19 0 rfl ?_
    refine g1_22 C dX1_pop_20 ?_
    refine k_aload_n C dX1_pop_23 0 rfl ?_
    refine g1_25 C dX1_pop_24 ?_
    obtain ⟨hi, hf⟩ := gd_no hf
    refine lc34 C hi dX1_pop_27 ?_
    cases hf
    exact K _ _ dX1_pop_28 rfl
  · replace hf := (if_pos hc).symm.trans hf
    refine k_iconst (v := (0 : Int32)) C dX1_pop_7 (by decide) ?_
    cases hf
    exact K _ _ dX1_pop_8 rfl
theorem c1_pop {V : EV} {l : Launch} (hl0 : l.stackTraces = false) {ad : Nat → Nat} {top : TopS} {rd : RdS} {ra : Int32} {co : Nat → CoS} {mu : MuS} {tr : TrS} {ma : MaS} {mq : Nat} {mx : MxS} {fo_fR : Nat → Int32} {fo_fS : Nat → Int32} {fo_fh : Int32} {fo_fb : Int32} {res : Int32 × FoS} (hf : f1_pop (fo_fR, fo_fS, fo_fh, fo_fb) = some res) : MI V l yX1_pop cX1_pop 1 .int 0 0 [.ref (ad 25)] (wC V ad top rd ra co mu (fo_fR, fo_fS, fo_fh, fo_fb) tr ma mq mx) res.1 (wC V ad top rd ra co mu res.2 tr ma mq mx) :=
  mi_of hl0 (by decide +kernel) (Nat.le_of_ble_eq_true rfl) (fun p e R s m args below meth c Q A C K => b1_pop C hf K)

theorem cm1_105 : ∀ a ∈ wsCV RX1 105 RX1 yX1_push cX1_push 2 none, a ∈ GW := by
  unfold wsCV
  exact (List.forall_mem_cons.mpr ⟨(gw_3 (i := 207) (by decide +kernel) rfl), (List.forall_mem_cons.mpr ⟨(gw_3 (i := 209) (by decide +kernel) rfl), (List.forall_mem_cons.mpr ⟨(gw_p (q := ((yX1_push, 5) : MethodName × Nat)) (List.mem_append_right _ (List.mem_append_left _ (List.mem_of_getElem? (i := 14) (by decide +kernel)))) rfl), (List.forall_mem_cons.mpr ⟨(gw_1 (i := 5) (by decide +kernel) rfl), (List.forall_mem_cons.mpr ⟨(gw_3 (i := 210) (by decide +kernel) rfl), (List.forall_mem_nil _)⟩)⟩)⟩)⟩)⟩)
theorem ok1_openRow : okCV RX1 yX1_openRow 0 := by unfold okCV; decide +kernel
def f1_openRow  : FoS → Option (FoS)
  | (fo_fR, fo_fS, fo_fh, fo_fb) =>
    (f1_push fo_fb (fo_fR, fo_fS, fo_fh, fo_fb)).bind fun (fo_fR_2, fo_fS_3, fo_fh_4, fo_fb_5) => some (fo_fR_2, fo_fS_3, fo_fh_4, fo_fh_4)
set_option maxHeartbeats 4000000 in
set_option maxRecDepth 100000 in
theorem b1_openRow {V : EV} {p : Program} {l : Launch} {e : Env} {R : Room} {s : State} {m : MethodId} {args : Array Value} {below : List Frame} {meth : Method} {c : Code} {Q : State → Prop} {A : Nat → Prop} {kc ks : Nat} {ad : Nat → Nat} {top : TopS} {rd : RdS} {ra : Int32} {co : Nat → CoS} {mu : MuS} {tr : TrS} {ma : MaS} {mq : Nat} {mx : MxS} {fo_fR : Nat → Int32} {fo_fS : Nat → Int32} {fo_fh : Int32} {fo_fb : Int32} {res : FoS} (C : CX V p l R s m args c A kc ks RX1 cX1_openRow 1 1 21) (hf : f1_openRow (fo_fR, fo_fS, fo_fh, fo_fb) = some res) (K : RV V p l e R s m args below meth c Q A kc ks 1 cX1_openRow (wC V ad top rd ra co mu res tr ma mq mx)) : WC V p l e R s m args below meth c Q A kc ks 1 (wC V ad top rd ra co mu (fo_fR, fo_fS, fo_fh, fo_fb) tr ma mq mx) 0 [(0, .ref (ad 25))] [] := by
  rw [f1_openRow] at hf
  refine k_aload_n C dX1_openRow_0 0 rfl ?_
  refine k_aload_n C dX1_openRow_1 0 rfl ?_
  refine g1_29 C dX1_openRow_2 ?_
  obtain ⟨⟨fo_fR_2, fo_fS_3, fo_fh_4, fo_fb_5⟩, hq_1, hf⟩ := ob_el hf
  dsimp only at hf
  refine k_callVv C (c1_push C.2.2.2.2.2.2.2.2.2.1 hq_1) cm1_105 ok1_push (by decide) 25 rfl rfl rfl rfl (Nat.le_of_ble_eq_true rfl) dX1_openRow_5 ?_
  refine k_aload_n C dX1_openRow_8 0 rfl ?_
  refine k_aload_n C dX1_openRow_9 0 rfl ?_
  refine g1_25 C dX1_openRow_10 ?_
  refine p1_29 C dX1_openRow_13 ?_
  cases hf
  exact K _ _ dX1_openRow_16
theorem c1_openRow {V : EV} {l : Launch} (hl0 : l.stackTraces = false) {ad : Nat → Nat} {top : TopS} {rd : RdS} {ra : Int32} {co : Nat → CoS} {mu : MuS} {tr : TrS} {ma : MaS} {mq : Nat} {mx : MxS} {fo_fR : Nat → Int32} {fo_fS : Nat → Int32} {fo_fh : Int32} {fo_fb : Int32} {res : FoS} (hf : f1_openRow (fo_fR, fo_fS, fo_fh, fo_fb) = some res) : MV V l yX1_openRow cX1_openRow 1 1 21 [.ref (ad 25)] (wC V ad top rd ra co mu (fo_fR, fo_fS, fo_fh, fo_fb) tr ma mq mx) (wC V ad top rd ra co mu res tr ma mq mx) :=
  mv_of hl0 (by decide +kernel) (Nat.le_of_ble_eq_true rfl) (fun p e R s m args below meth c Q A C K => b1_openRow C hf K)

theorem cm1_88 : ∀ a ∈ wsCV RX1 88 RX1 yX1_pop cX1_pop 1 (some .int), a ∈ GW := by
  unfold wsCV
  exact (List.forall_mem_cons.mpr ⟨(gw_3 (i := 223) (by decide +kernel) rfl), (List.forall_mem_cons.mpr ⟨(gw_3 (i := 225) (by decide +kernel) rfl), (List.forall_mem_cons.mpr ⟨(gw_p (q := ((yX1_pop, 5) : MethodName × Nat)) (List.mem_append_right _ (List.mem_append_right _ (List.mem_append_left _ (List.mem_of_getElem? (i := 1) (by decide +kernel))))) rfl), (List.forall_mem_cons.mpr ⟨(gw_1 (i := 5) (by decide +kernel) rfl), (List.forall_mem_cons.mpr ⟨(gw_3 (i := 226) (by decide +kernel) rfl), (List.forall_mem_nil _)⟩)⟩)⟩)⟩)⟩)
theorem cm1_108 : ∀ a ∈ wsCV RX1 108 RX6 yX6_of cX6_of 8 (some .int), a ∈ GW := by
  unfold wsCV
  exact (List.forall_mem_cons.mpr ⟨(gw_4 (i := 25) (by decide +kernel) rfl), (List.forall_mem_cons.mpr ⟨(gw_4 (i := 2) (by decide +kernel) rfl), (List.forall_mem_cons.mpr ⟨(gw_4 (i := 3) (by decide +kernel) rfl), (List.forall_mem_cons.mpr ⟨(gw_1 (i := 6) (by decide +kernel) rfl), (List.forall_mem_cons.mpr ⟨(gw_4 (i := 4) (by decide +kernel) rfl), (List.forall_mem_nil _)⟩)⟩)⟩)⟩)⟩)
theorem ok1_closeRow : okCV RX1 yX1_closeRow 0 := by unfold okCV; decide +kernel
def f1_closeRow_L14 (k43 : Int32 → Int32 → FoS → TrS → Option (FoS × TrS)) (N : Nat)  : Nat → Int32 → Int32 → Int32 → FoS → TrS → Option (FoS × TrS)
  | 0, _, _, _, _, _ => none
  | n + 1, x1, x2, x3, (fo_fR, fo_fS, fo_fh, fo_fb), (tr_tK, tr_tF, tr_tS, tr_tT, tr_tO, tr_tN, tr_tc) =>
    if x3 < x2 then k43 x1 x2 (fo_fR, fo_fS, fo_fh, fo_fb) (tr_tK, tr_tF, tr_tS, tr_tT, tr_tO, tr_tN, tr_tc) else if x3 < 0 ∨ 128 ≤ x3.toNatClampNeg then none else (f6_of N (9 : Int32) (fo_fS x3.toNatClampNeg) x1 (0 : Int32) (tr_tK, tr_tF, tr_tS, tr_tT, tr_tO, tr_tN, tr_tc)).bind fun (r_3, (tr_tK_4, tr_tF_5, tr_tS_6, tr_tT_7, tr_tO_8, tr_tN_9, tr_tc_10)) => nm_v (x3 + (-1 : Int32)) (fun v3_11 => f1_closeRow_L14 k43 N n r_3 x2 v3_11 (fo_fR, fo_fS, fo_fh, fo_fb) (tr_tK_4, tr_tF_5, tr_tS_6, tr_tT_7, tr_tO_8, tr_tN_9, tr_tc_10))
def f1_closeRow (N : Nat)  : FoS → TrS → Option (FoS × TrS)
  | (fo_fR, fo_fS, fo_fh, fo_fb), (tr_tK, tr_tF, tr_tS, tr_tT, tr_tO, tr_tN, tr_tc) =>
    nm_v (fo_fh - (1 : Int32)) (fun v3_1 => f1_closeRow_L14 (fun x1_12 x2_12 (fo_fR_12, fo_fS_12, fo_fh_12, fo_fb_12) (tr_tK_12, tr_tF_12, tr_tS_12, tr_tT_12, tr_tO_12, tr_tN_12, tr_tc_12) => (f1_pop (fo_fR_12, fo_fS_12, x2_12, fo_fb_12)).bind fun (r_14, (fo_fR_15, fo_fS_16, fo_fh_17, fo_fb_18)) => (f1_push x1_12 (fo_fR_15, fo_fS_16, fo_fh_17, r_14)).bind fun (fo_fR_20, fo_fS_21, fo_fh_22, fo_fb_23) => some ((fo_fR_20, fo_fS_21, fo_fh_22, fo_fb_23), (tr_tK_12, tr_tF_12, tr_tS_12, tr_tT_12, tr_tO_12, tr_tN_12, tr_tc_12))) N N (1 : Int32) fo_fb v3_1 (fo_fR, fo_fS, fo_fh, fo_fb) (tr_tK, tr_tF, tr_tS, tr_tT, tr_tO, tr_tN, tr_tc))
set_option maxHeartbeats 4000000 in
set_option maxRecDepth 100000 in
theorem w1_closeRow_L14 {V : EV} {p : Program} {l : Launch} {e : Env} {R : Room} {s : State} {m : MethodId} {args : Array Value} {below : List Frame} {meth : Method} {c : Code} {Q : State → Prop} {A : Nat → Prop} {kc ks : Nat} {ad : Nat → Nat} {top : TopS} {rd : RdS} {ra : Int32} {co : Nat → CoS} {mu : MuS} {ma : MaS} {mq : Nat} {mx : MxS} {k43 : Int32 → Int32 → FoS → TrS → Option (FoS × TrS)} {N : Nat} {res : FoS × TrS} (C : CX V p l R s m args c A kc ks RX1 cX1_closeRow 4 2 53) (K : RV V p l e R s m args below meth c Q A kc ks 4 cX1_closeRow (wC V ad top rd ra co mu res.1 res.2 ma mq mx)) (hk43 : ∀ (x1 : Int32) (x2 : Int32) (fo_fR : Nat → Int32) (fo_fS : Nat → Int32) (fo_fh : Int32) (fo_fb : Int32) (tr_tK : Nat → Int32) (tr_tF : Nat → Int32) (tr_tS : Nat → Int32) (tr_tT : Nat → Int32) (tr_tO : Nat → Int32) (tr_tN : Nat → Int32) (tr_tc : Int32), k43 x1 x2 (fo_fR, fo_fS, fo_fh, fo_fb) (tr_tK, tr_tF, tr_tS, tr_tT, tr_tO, tr_tN, tr_tc) = some res → WC V p l e R s m args below meth c Q A kc ks 4 (wC V ad top rd ra co mu (fo_fR, fo_fS, fo_fh, fo_fb) (tr_tK, tr_tF, tr_tS, tr_tT, tr_tO, tr_tN, tr_tc) ma mq mx) 43 [(0, .ref (ad 25)), (1, .int x1), (2, .int x2)] []) : ∀ (n : Nat) (x1 : Int32) (x2 : Int32) (x3 : Int32) (fo_fR : Nat → Int32) (fo_fS : Nat → Int32) (fo_fh : Int32) (fo_fb : Int32) (tr_tK : Nat → Int32) (tr_tF : Nat → Int32) (tr_tS : Nat → Int32) (tr_tT : Nat → Int32) (tr_tO : Nat → Int32) (tr_tN : Nat → Int32) (tr_tc : Int32), f1_closeRow_L14 k43 N n x1 x2 x3 (fo_fR, fo_fS, fo_fh, fo_fb) (tr_tK, tr_tF, tr_tS, tr_tT, tr_tO, tr_tN, tr_tc) = some res → WC V p l e R s m args below meth c Q A kc ks 4 (wC V ad top rd ra co mu (fo_fR, fo_fS, fo_fh, fo_fb) (tr_tK, tr_tF, tr_tS, tr_tT, tr_tO, tr_tN, tr_tc) ma mq mx) 14 [(0, .ref (ad 25)), (1, .int x1), (2, .int x2), (3, .int x3)] [] := by
  intro n
  induction n with
  | zero => intro _ _ _ _ _ _ _ _ _ _ _ _ _ _ hf; exact nomatch (show none = some res from hf)
  | succ n ih =>
    intro x1 x2 x3 fo_fR fo_fS fo_fh fo_fb tr_tK tr_tF tr_tS tr_tT tr_tO tr_tN tr_tc hf
    rw [f1_closeRow_L14] at hf
    refine k_iload_n C dX1_closeRow_14 3 rfl ?_
    refine k_iload_n C dX1_closeRow_15 2 rfl ?_
    refine k_icmp_lt C 43 dX1_closeRow_16 (by decide) (fun hc => ?_) (fun hc => ?_)
    · replace hf := (if_pos hc).symm.trans hf
      refine k_sub [0, 1, 2] (L' := [(0, .ref (ad 25)), (1, .int x1), (2, .int x2)]) rfl ?_
      exact hk43 _ _ _ _ _ _ _ _ _ _ _ _ _ hf
    · replace hf := (if_neg hc).symm.trans hf
      refine k_aload_n C dX1_closeRow_19 0 rfl ?_
      refine g1_12 C dX1_closeRow_20 ?_
      refine k_bipush (v := (9 : Int32)) C dX1_closeRow_23 (by decide) ?_
      refine k_aload_n C dX1_closeRow_25 0 rfl ?_
      refine g1_22 C dX1_closeRow_26 ?_
      refine k_iload_n C dX1_closeRow_29 3 rfl ?_
      obtain ⟨hi, hf⟩ := gd_no hf
      refine lc34 C hi dX1_closeRow_30 ?_
      refine k_iload_n C dX1_closeRow_31 1 rfl ?_
      refine k_iconst (v := (0 : Int32)) C dX1_closeRow_32 (by decide) ?_
      obtain ⟨⟨r_3, ⟨tr_tK_4, tr_tF_5, tr_tS_6, tr_tT_7, tr_tO_8, tr_tN_9, tr_tc_10⟩⟩, hq_2, hf⟩ := ob_el hf
      dsimp only at hf
      refine k_callVi C (c6_of C.2.2.2.2.2.2.2.2.2.1 hq_2) cm1_108 ok6_of (by decide) 26 rfl rfl rfl rfl (Nat.le_of_ble_eq_true rfl) dX1_closeRow_33 ?_
      refine k_istore_n C dX1_closeRow_36 [(1, .int r_3), (0, .ref (ad 25)), (2, .int x2), (3, .int x3)] (by decide) rfl ?_
      obtain ⟨v3_11, ev3_11⟩ : ∃ y : Int32, y = x3 + (-1 : Int32) := ⟨_, rfl⟩
      replace hf := nm_el hf ev3_11
      refine k_iinc (v := v3_11) C dX1_closeRow_37 3 rfl (by rw [ev3_11]; rfl) [(3, .int v3_11), (1, .int r_3), (0, .ref (ad 25)), (2, .int x2)] (by decide) rfl ?_
      refine k_goto C 14 dX1_closeRow_40 (by decide) ?_
      refine k_sub [2, 1, 3, 0] (L' := [(0, .ref (ad 25)), (1, .int r_3), (2, .int x2), (3, .int v3_11)]) rfl ?_
      exact ih _ _ _ _ _ _ _ _ _ _ _ _ _ _ hf
set_option maxHeartbeats 4000000 in
set_option maxRecDepth 100000 in
theorem b1_closeRow {V : EV} {p : Program} {l : Launch} {e : Env} {R : Room} {s : State} {m : MethodId} {args : Array Value} {below : List Frame} {meth : Method} {c : Code} {Q : State → Prop} {A : Nat → Prop} {kc ks : Nat} {ad : Nat → Nat} {top : TopS} {rd : RdS} {ra : Int32} {co : Nat → CoS} {mu : MuS} {ma : MaS} {mq : Nat} {mx : MxS} {fo_fR : Nat → Int32} {fo_fS : Nat → Int32} {fo_fh : Int32} {fo_fb : Int32} {tr_tK : Nat → Int32} {tr_tF : Nat → Int32} {tr_tS : Nat → Int32} {tr_tT : Nat → Int32} {tr_tO : Nat → Int32} {tr_tN : Nat → Int32} {tr_tc : Int32} {N : Nat} {res : FoS × TrS} (C : CX V p l R s m args c A kc ks RX1 cX1_closeRow 4 2 53) (hf : f1_closeRow N (fo_fR, fo_fS, fo_fh, fo_fb) (tr_tK, tr_tF, tr_tS, tr_tT, tr_tO, tr_tN, tr_tc) = some res) (K : RV V p l e R s m args below meth c Q A kc ks 4 cX1_closeRow (wC V ad top rd ra co mu res.1 res.2 ma mq mx)) : WC V p l e R s m args below meth c Q A kc ks 4 (wC V ad top rd ra co mu (fo_fR, fo_fS, fo_fh, fo_fb) (tr_tK, tr_tF, tr_tS, tr_tT, tr_tO, tr_tN, tr_tc) ma mq mx) 0 [(0, .ref (ad 25))] [] := by
  rw [f1_closeRow] at hf
  refine k_iconst (v := (1 : Int32)) C dX1_closeRow_0 (by decide) ?_
  refine k_istore_n C dX1_closeRow_1 [(1, .int (1 : Int32)), (0, .ref (ad 25))] (by decide) rfl ?_
  refine k_aload_n C dX1_closeRow_2 1 rfl ?_
  refine g1_29 C dX1_closeRow_3 ?_
  refine k_istore_n C dX1_closeRow_6 [(2, .int fo_fb), (1, .int (1 : Int32)), (0, .ref (ad 25))] (by decide) rfl ?_
  refine k_aload_n C dX1_closeRow_7 2 rfl ?_
  refine g1_25 C dX1_closeRow_8 ?_
  refine k_iconst (v := (1 : Int32)) C dX1_closeRow_11 (by decide) ?_
  refine k_isub C dX1_closeRow_12 ?_
  refine k_topi (fun v3_1 ev3_1 => ?_)
  replace hf := nm_el hf ev3_1
  refine k_istore_n C dX1_closeRow_13 [(3, .int v3_1), (2, .int fo_fb), (1, .int (1 : Int32)), (0, .ref (ad 25))] (by decide) rfl ?_
  refine k_sub [3, 2, 1, 0] (L' := [(0, .ref (ad 25)), (1, .int (1 : Int32)), (2, .int fo_fb), (3, .int v3_1)]) rfl ?_
  refine w1_closeRow_L14 C K ?_ _ _ _ _ _ _ _ _ _ _ _ _ _ _ _ hf
  · intro x1_12 x2_12 fo_fR_12 fo_fS_12 fo_fh_12 fo_fb_12 tr_tK_12 tr_tF_12 tr_tS_12 tr_tT_12 tr_tO_12 tr_tN_12 tr_tc_12 hf
    try dsimp only at hf
    refine k_aload_n C dX1_closeRow_43 0 rfl ?_
    refine k_iload_n C dX1_closeRow_44 2 rfl ?_
    refine p1_25 C dX1_closeRow_45 ?_
    refine k_aload_n C dX1_closeRow_48 0 rfl ?_
    refine k_aload_n C dX1_closeRow_49 0 rfl ?_
    obtain ⟨⟨r_14, ⟨fo_fR_15, fo_fS_16, fo_fh_17, fo_fb_18⟩⟩, hq_13, hf⟩ := ob_el hf
    dsimp only at hf
    refine k_callVi C (c1_pop C.2.2.2.2.2.2.2.2.2.1 hq_13) cm1_88 ok1_pop (by decide) 25 rfl rfl rfl rfl (Nat.le_of_ble_eq_true rfl) dX1_closeRow_50 ?_
    refine p1_29 C dX1_closeRow_53 ?_
    refine k_aload_n C dX1_closeRow_56 0 rfl ?_
    refine k_iload_n C dX1_closeRow_57 1 rfl ?_
    obtain ⟨⟨fo_fR_20, fo_fS_21, fo_fh_22, fo_fb_23⟩, hq_19, hf⟩ := ob_el hf
    dsimp only at hf
    refine k_callVv C (c1_push C.2.2.2.2.2.2.2.2.2.1 hq_19) cm1_105 ok1_push (by decide) 25 rfl rfl rfl rfl (Nat.le_of_ble_eq_true rfl) dX1_closeRow_58 ?_
    cases hf
    exact K _ _ dX1_closeRow_61
theorem c1_closeRow {V : EV} {l : Launch} (hl0 : l.stackTraces = false) {ad : Nat → Nat} {top : TopS} {rd : RdS} {ra : Int32} {co : Nat → CoS} {mu : MuS} {ma : MaS} {mq : Nat} {mx : MxS} {fo_fR : Nat → Int32} {fo_fS : Nat → Int32} {fo_fh : Int32} {fo_fb : Int32} {tr_tK : Nat → Int32} {tr_tF : Nat → Int32} {tr_tS : Nat → Int32} {tr_tT : Nat → Int32} {tr_tO : Nat → Int32} {tr_tN : Nat → Int32} {tr_tc : Int32} {N : Nat} {res : FoS × TrS} (hf : f1_closeRow N (fo_fR, fo_fS, fo_fh, fo_fb) (tr_tK, tr_tF, tr_tS, tr_tT, tr_tO, tr_tN, tr_tc) = some res) : MV V l yX1_closeRow cX1_closeRow 4 2 53 [.ref (ad 25)] (wC V ad top rd ra co mu (fo_fR, fo_fS, fo_fh, fo_fb) (tr_tK, tr_tF, tr_tS, tr_tT, tr_tO, tr_tN, tr_tc) ma mq mx) (wC V ad top rd ra co mu res.1 res.2 ma mq mx) :=
  mv_of hl0 (by decide +kernel) (Nat.le_of_ble_eq_true rfl) (fun p e R s m args below meth c Q A C K => b1_closeRow C hf K)

theorem ok1_append : okCV RX1 yX1_append 1 := by unfold okCV; decide +kernel
def f1_append_L40   (tr_tK : Nat → Int32) (tr_tF : Nat → Int32) (tr_tS : Nat → Int32) (tr_tT : Nat → Int32) (tr_tO : Nat → Int32) (tr_tN : Nat → Int32) (tr_tc : Int32) : Int32 → Int32 → FoS → Option (FoS)
  | x1, y0, (fo_fR, fo_fS, fo_fh, fo_fb) =>
    if y0 = 0 then (f1_push x1 (fo_fR, fo_fS, fo_fh, fo_fb)).bind fun (fo_fR_2, fo_fS_3, fo_fh_4, fo_fb_5) => some (fo_fR_2, fo_fS_3, fo_fh_4, fo_fb_5) else some (fo_fR, fo_fS, fo_fh, fo_fb)

def f1_append_L39   (tr_tK : Nat → Int32) (tr_tF : Nat → Int32) (tr_tS : Nat → Int32) (tr_tT : Nat → Int32) (tr_tO : Nat → Int32) (tr_tN : Nat → Int32) (tr_tc : Int32) : Int32 → FoS → Option (FoS)
  | x1, (fo_fR, fo_fS, fo_fh, fo_fb) =>
    f1_append_L40 tr_tK tr_tF tr_tS tr_tT tr_tO tr_tN tr_tc x1 (0 : Int32) (fo_fR, fo_fS, fo_fh, fo_fb)
def f1_append (v1 : Int32) : TrS → FoS → Option (FoS)
  | (tr_tK, tr_tF, tr_tS, tr_tT, tr_tO, tr_tN, tr_tc), (fo_fR, fo_fS, fo_fh, fo_fb) =>
    if fo_fh ≤ fo_fb then f1_append_L39 tr_tK tr_tF tr_tS tr_tT tr_tO tr_tN tr_tc v1 (fo_fR, fo_fS, fo_fh, fo_fb) else if (fo_fh - (1 : Int32)) < 0 ∨ 128 ≤ (fo_fh - (1 : Int32)).toNatClampNeg then none else if (fo_fS (fo_fh - (1 : Int32)).toNatClampNeg) < 0 ∨ 18755 ≤ (fo_fS (fo_fh - (1 : Int32)).toNatClampNeg).toNatClampNeg then none else if (tr_tK (fo_fS (fo_fh - (1 : Int32)).toNatClampNeg).toNatClampNeg) = (6 : Int32) then f1_append_L40 tr_tK tr_tF tr_tS tr_tT tr_tO tr_tN tr_tc v1 (1 : Int32) (fo_fR, fo_fS, fo_fh, fo_fb) else f1_append_L39 tr_tK tr_tF tr_tS tr_tT tr_tO tr_tN tr_tc v1 (fo_fR, fo_fS, fo_fh, fo_fb)
set_option maxHeartbeats 4000000 in
set_option maxRecDepth 100000 in
theorem w1_append_L40 {V : EV} {p : Program} {l : Launch} {e : Env} {R : Room} {s : State} {m : MethodId} {args : Array Value} {below : List Frame} {meth : Method} {c : Code} {Q : State → Prop} {A : Nat → Prop} {kc ks : Nat} {ad : Nat → Nat} {top : TopS} {rd : RdS} {ra : Int32} {co : Nat → CoS} {mu : MuS} {ma : MaS} {mq : Nat} {mx : MxS} {tr_tK : Nat → Int32} {tr_tF : Nat → Int32} {tr_tS : Nat → Int32} {tr_tT : Nat → Int32} {tr_tO : Nat → Int32} {tr_tN : Nat → Int32} {tr_tc : Int32}  {res : FoS} (C : CX V p l R s m args c A kc ks RX1 cX1_append 3 1 21) (K : RV V p l e R s m args below meth c Q A kc ks 3 cX1_append (wC V ad top rd ra co mu res (tr_tK, tr_tF, tr_tS, tr_tT, tr_tO, tr_tN, tr_tc) ma mq mx))  : ∀ (x1 : Int32) (y0 : Int32) (fo_fR : Nat → Int32) (fo_fS : Nat → Int32) (fo_fh : Int32) (fo_fb : Int32), f1_append_L40 tr_tK tr_tF tr_tS tr_tT tr_tO tr_tN tr_tc x1 y0 (fo_fR, fo_fS, fo_fh, fo_fb) = some res → WC V p l e R s m args below meth c Q A kc ks 3 (wC V ad top rd ra co mu (fo_fR, fo_fS, fo_fh, fo_fb) (tr_tK, tr_tF, tr_tS, tr_tT, tr_tO, tr_tN, tr_tc) ma mq mx) 40 [(0, .ref (ad 25)), (1, .int x1)] [.int y0] := by
  intro x1 y0 fo_fR fo_fS fo_fh fo_fb hf
  rw [f1_append_L40] at hf
  refine k_istore_n C dX1_append_40 [(2, .int y0), (0, .ref (ad 25)), (1, .int x1)] (by decide) rfl ?_
  refine k_iload_n C dX1_append_41 0 rfl ?_
  refine k_if_ne C 50 dX1_append_42 (by decide) (fun hc => ?_) (fun hc => ?_)
  · replace hf := (if_neg hc).symm.trans hf
    cases hf
    exact K _ _ dX1_append_50
  · replace hf := (if_pos hc).symm.trans hf
    refine k_aload_n C dX1_append_45 1 rfl ?_
    refine k_iload_n C dX1_append_46 2 rfl ?_
    obtain ⟨⟨fo_fR_2, fo_fS_3, fo_fh_4, fo_fb_5⟩, hq_1, hf⟩ := ob_el hf
    dsimp only at hf
    refine k_callVv C (c1_push C.2.2.2.2.2.2.2.2.2.1 hq_1) cm1_105 ok1_push (by decide) 25 rfl rfl rfl rfl (Nat.le_of_ble_eq_true rfl) dX1_append_47 ?_
    cases hf
    exact K _ _ dX1_append_50

set_option maxHeartbeats 4000000 in
set_option maxRecDepth 100000 in
theorem w1_append_L39 {V : EV} {p : Program} {l : Launch} {e : Env} {R : Room} {s : State} {m : MethodId} {args : Array Value} {below : List Frame} {meth : Method} {c : Code} {Q : State → Prop} {A : Nat → Prop} {kc ks : Nat} {ad : Nat → Nat} {top : TopS} {rd : RdS} {ra : Int32} {co : Nat → CoS} {mu : MuS} {ma : MaS} {mq : Nat} {mx : MxS} {tr_tK : Nat → Int32} {tr_tF : Nat → Int32} {tr_tS : Nat → Int32} {tr_tT : Nat → Int32} {tr_tO : Nat → Int32} {tr_tN : Nat → Int32} {tr_tc : Int32}  {res : FoS} (C : CX V p l R s m args c A kc ks RX1 cX1_append 3 1 21) (K : RV V p l e R s m args below meth c Q A kc ks 3 cX1_append (wC V ad top rd ra co mu res (tr_tK, tr_tF, tr_tS, tr_tT, tr_tO, tr_tN, tr_tc) ma mq mx))  : ∀ (x1 : Int32) (fo_fR : Nat → Int32) (fo_fS : Nat → Int32) (fo_fh : Int32) (fo_fb : Int32), f1_append_L39 tr_tK tr_tF tr_tS tr_tT tr_tO tr_tN tr_tc x1 (fo_fR, fo_fS, fo_fh, fo_fb) = some res → WC V p l e R s m args below meth c Q A kc ks 3 (wC V ad top rd ra co mu (fo_fR, fo_fS, fo_fh, fo_fb) (tr_tK, tr_tF, tr_tS, tr_tT, tr_tO, tr_tN, tr_tc) ma mq mx) 39 [(0, .ref (ad 25)), (1, .int x1)] [] := by
  intro x1 fo_fR fo_fS fo_fh fo_fb hf
  rw [f1_append_L39] at hf
  refine k_iconst (v := (0 : Int32)) C dX1_append_39 (by decide) ?_
  exact w1_append_L40 C K _ _ _ _ _ _ hf
set_option maxHeartbeats 4000000 in
set_option maxRecDepth 100000 in
theorem b1_append {V : EV} {p : Program} {l : Launch} {e : Env} {R : Room} {s : State} {m : MethodId} {args : Array Value} {below : List Frame} {meth : Method} {c : Code} {Q : State → Prop} {A : Nat → Prop} {kc ks : Nat} {ad : Nat → Nat} {top : TopS} {rd : RdS} {ra : Int32} {co : Nat → CoS} {mu : MuS} {ma : MaS} {mq : Nat} {mx : MxS} {tr_tK : Nat → Int32} {tr_tF : Nat → Int32} {tr_tS : Nat → Int32} {tr_tT : Nat → Int32} {tr_tO : Nat → Int32} {tr_tN : Nat → Int32} {tr_tc : Int32} {v1 : Int32} {fo_fR : Nat → Int32} {fo_fS : Nat → Int32} {fo_fh : Int32} {fo_fb : Int32} {res : FoS} (C : CX V p l R s m args c A kc ks RX1 cX1_append 3 1 21) (hf : f1_append v1 (tr_tK, tr_tF, tr_tS, tr_tT, tr_tO, tr_tN, tr_tc) (fo_fR, fo_fS, fo_fh, fo_fb) = some res) (K : RV V p l e R s m args below meth c Q A kc ks 3 cX1_append (wC V ad top rd ra co mu res (tr_tK, tr_tF, tr_tS, tr_tT, tr_tO, tr_tN, tr_tc) ma mq mx)) : WC V p l e R s m args below meth c Q A kc ks 3 (wC V ad top rd ra co mu (fo_fR, fo_fS, fo_fh, fo_fb) (tr_tK, tr_tF, tr_tS, tr_tT, tr_tO, tr_tN, tr_tc) ma mq mx) 0 [(0, .ref (ad 25)), (1, .int v1)] [] := by
  rw [f1_append] at hf
  refine k_aload_n C dX1_append_0 0 rfl ?_
  refine g1_25 C dX1_append_1 ?_
  refine k_aload_n C dX1_append_4 0 rfl ?_
  refine g1_29 C dX1_append_5 ?_
  refine k_icmp_le C 39 dX1_append_8 (by decide) (fun hc => ?_) (fun hc => ?_)
  · replace hf := (if_pos hc).symm.trans hf
    exact w1_append_L39 C K _ _ _ _ _ hf
  · replace hf := (if_neg hc).symm.trans hf
    refine k_aload_n C dX1_append_11 0 rfl ?_
    refine g1_12 C dX1_append_12 ?_
    refine g1_127 C dX1_append_15 ?_
    refine k_aload_n C dX1_append_18 0 rfl ?_
    refine g1_22 C dX1_append_19 ?_
    refine k_aload_n C dX1_append_22 0 rfl ?_
    refine g1_25 C dX1_append_23 ?_
    refine k_iconst (v := (1 : Int32)) C dX1_append_26 (by decide) ?_
    refine k_isub C dX1_append_27 ?_
    obtain ⟨hi, hf⟩ := gd_no hf
    refine lc34 C hi dX1_append_28 ?_
    obtain ⟨hi, hf⟩ := gd_no hf
    refine lc27 C hi dX1_append_29 ?_
    refine k_bipush (v := (6 : Int32)) C dX1_append_30 (by decide) ?_
    refine k_icmp_ne C 39 dX1_append_32 (by decide) (fun hc => ?_) (fun hc => ?_)
    · replace hf := (if_neg hc).symm.trans hf
      exact w1_append_L39 C K _ _ _ _ _ hf
    · replace hf := (if_pos hc).symm.trans hf
      refine k_iconst (v := (1 : Int32)) C dX1_append_35 (by decide) ?_
      refine k_goto C 40 dX1_append_36 (by decide) ?_
      exact w1_append_L40 C K _ _ _ _ _ _ hf
theorem c1_append {V : EV} {l : Launch} (hl0 : l.stackTraces = false) {ad : Nat → Nat} {top : TopS} {rd : RdS} {ra : Int32} {co : Nat → CoS} {mu : MuS} {ma : MaS} {mq : Nat} {mx : MxS} {tr_tK : Nat → Int32} {tr_tF : Nat → Int32} {tr_tS : Nat → Int32} {tr_tT : Nat → Int32} {tr_tO : Nat → Int32} {tr_tN : Nat → Int32} {tr_tc : Int32} {v1 : Int32} {fo_fR : Nat → Int32} {fo_fS : Nat → Int32} {fo_fh : Int32} {fo_fb : Int32} {res : FoS} (hf : f1_append v1 (tr_tK, tr_tF, tr_tS, tr_tT, tr_tO, tr_tN, tr_tc) (fo_fR, fo_fS, fo_fh, fo_fb) = some res) : MV V l yX1_append cX1_append 3 1 21 [.ref (ad 25), .int v1] (wC V ad top rd ra co mu (fo_fR, fo_fS, fo_fh, fo_fb) (tr_tK, tr_tF, tr_tS, tr_tT, tr_tO, tr_tN, tr_tc) ma mq mx) (wC V ad top rd ra co mu res (tr_tK, tr_tF, tr_tS, tr_tT, tr_tO, tr_tN, tr_tc) ma mq mx) :=
  mv_of hl0 (by decide +kernel) (Nat.le_of_ble_eq_true rfl) (fun p e R s m args below meth c Q A C K => b1_append C hf K)

theorem cm1_118 : ∀ a ∈ wsCV RX1 118 RX1 yX1_append cX1_append 3 none, a ∈ GW := by
  unfold wsCV
  exact (List.forall_mem_cons.mpr ⟨(gw_4 (i := 41) (by decide +kernel) rfl), (List.forall_mem_cons.mpr ⟨(gw_4 (i := 43) (by decide +kernel) rfl), (List.forall_mem_cons.mpr ⟨(gw_p (q := ((yX1_append, 5) : MethodName × Nat)) (List.mem_append_right _ (List.mem_append_right _ (List.mem_append_left _ (List.mem_of_getElem? (i := 8) (by decide +kernel))))) rfl), (List.forall_mem_cons.mpr ⟨(gw_1 (i := 5) (by decide +kernel) rfl), (List.forall_mem_cons.mpr ⟨(gw_4 (i := 44) (by decide +kernel) rfl), (List.forall_mem_nil _)⟩)⟩)⟩)⟩)⟩)
theorem ok1_appendAll : okCV RX1 yX1_appendAll 1 := by unfold okCV; decide +kernel
def f1_appendAll_L4 (k53 : FoS → Option (FoS)) (N : Nat) (tr_tK : Nat → Int32) (tr_tF : Nat → Int32) (tr_tS : Nat → Int32) (tr_tT : Nat → Int32) (tr_tO : Nat → Int32) (tr_tN : Nat → Int32) (tr_tc : Int32) : Nat → Int32 → Int32 → FoS → Option (FoS)
  | 0, _, _, _ => none
  | n + 1, x2, x3, (fo_fR, fo_fS, fo_fh, fo_fb) =>
    if (60 : Int32) ≤ x3 then k53 (fo_fR, fo_fS, fo_fh, fo_fb) else if x2 < 0 ∨ 18755 ≤ x2.toNatClampNeg then none else if (tr_tK x2.toNatClampNeg) = (9 : Int32) then if x2 < 0 ∨ 18755 ≤ x2.toNatClampNeg then none else (f1_append (tr_tF x2.toNatClampNeg) (tr_tK, tr_tF, tr_tS, tr_tT, tr_tO, tr_tN, tr_tc) (fo_fR, fo_fS, fo_fh, fo_fb)).bind fun (fo_fR_2, fo_fS_3, fo_fh_4, fo_fb_5) => if x2 < 0 ∨ 18755 ≤ x2.toNatClampNeg then none else nm_v (tr_tS x2.toNatClampNeg) (fun v2_6 => nm_v (x3 + (1 : Int32)) (fun v3_7 => f1_appendAll_L4 k53 N tr_tK tr_tF tr_tS tr_tT tr_tO tr_tN tr_tc n v2_6 v3_7 (fo_fR_2, fo_fS_3, fo_fh_4, fo_fb_5))) else k53 (fo_fR, fo_fS, fo_fh, fo_fb)
def f1_appendAll (N : Nat) (v1 : Int32) : TrS → FoS → Option (FoS)
  | (tr_tK, tr_tF, tr_tS, tr_tT, tr_tO, tr_tN, tr_tc), (fo_fR, fo_fS, fo_fh, fo_fb) =>
    f1_appendAll_L4 (fun (fo_fR_8, fo_fS_8, fo_fh_8, fo_fb_8) => some (fo_fR_8, fo_fS_8, fo_fh_8, fo_fb_8)) N tr_tK tr_tF tr_tS tr_tT tr_tO tr_tN tr_tc N v1 (0 : Int32) (fo_fR, fo_fS, fo_fh, fo_fb)
set_option maxHeartbeats 4000000 in
set_option maxRecDepth 100000 in
theorem w1_appendAll_L4 {V : EV} {p : Program} {l : Launch} {e : Env} {R : Room} {s : State} {m : MethodId} {args : Array Value} {below : List Frame} {meth : Method} {c : Code} {Q : State → Prop} {A : Nat → Prop} {kc ks : Nat} {ad : Nat → Nat} {top : TopS} {rd : RdS} {ra : Int32} {co : Nat → CoS} {mu : MuS} {ma : MaS} {mq : Nat} {mx : MxS} {tr_tK : Nat → Int32} {tr_tF : Nat → Int32} {tr_tS : Nat → Int32} {tr_tT : Nat → Int32} {tr_tO : Nat → Int32} {tr_tN : Nat → Int32} {tr_tc : Int32} {k53 : FoS → Option (FoS)} {N : Nat} {res : FoS} (C : CX V p l R s m args c A kc ks RX1 cX1_appendAll 4 2 43) (K : RV V p l e R s m args below meth c Q A kc ks 4 cX1_appendAll (wC V ad top rd ra co mu res (tr_tK, tr_tF, tr_tS, tr_tT, tr_tO, tr_tN, tr_tc) ma mq mx)) (hk53 : ∀  (fo_fR : Nat → Int32) (fo_fS : Nat → Int32) (fo_fh : Int32) (fo_fb : Int32), k53 (fo_fR, fo_fS, fo_fh, fo_fb) = some res → WC V p l e R s m args below meth c Q A kc ks 4 (wC V ad top rd ra co mu (fo_fR, fo_fS, fo_fh, fo_fb) (tr_tK, tr_tF, tr_tS, tr_tT, tr_tO, tr_tN, tr_tc) ma mq mx) 53 [] []) : ∀ (n : Nat) (x2 : Int32) (x3 : Int32) (fo_fR : Nat → Int32) (fo_fS : Nat → Int32) (fo_fh : Int32) (fo_fb : Int32), f1_appendAll_L4 k53 N tr_tK tr_tF tr_tS tr_tT tr_tO tr_tN tr_tc n x2 x3 (fo_fR, fo_fS, fo_fh, fo_fb) = some res → WC V p l e R s m args below meth c Q A kc ks 4 (wC V ad top rd ra co mu (fo_fR, fo_fS, fo_fh, fo_fb) (tr_tK, tr_tF, tr_tS, tr_tT, tr_tO, tr_tN, tr_tc) ma mq mx) 4 [(0, .ref (ad 25)), (2, .int x2), (3, .int x3)] [] := by
  intro n
  induction n with
  | zero => intro _ _ _ _ _ _ hf; exact nomatch (show none = some res from hf)
  | succ n ih =>
    intro x2 x3 fo_fR fo_fS fo_fh fo_fb hf
    rw [f1_appendAll_L4] at hf
    refine k_iload_n C dX1_appendAll_4 2 rfl ?_
    refine k_bipush (v := (60 : Int32)) C dX1_appendAll_5 (by decide) ?_
    refine k_icmp_ge C 53 dX1_appendAll_7 (by decide) (fun hc => ?_) (fun hc => ?_)
    · replace hf := (if_pos hc).symm.trans hf
      refine k_sub [] (L' := []) rfl ?_
      exact hk53 _ _ _ _ hf
    · replace hf := (if_neg hc).symm.trans hf
      refine k_aload_n C dX1_appendAll_10 0 rfl ?_
      refine g1_12 C dX1_appendAll_11 ?_
      refine g1_127 C dX1_appendAll_14 ?_
      refine k_iload_n C dX1_appendAll_17 1 rfl ?_
      obtain ⟨hi, hf⟩ := gd_no hf
      refine lc27 C hi dX1_appendAll_18 ?_
      refine k_bipush (v := (9 : Int32)) C dX1_appendAll_19 (by decide) ?_
      refine k_icmp_ne C 53 dX1_appendAll_21 (by decide) (fun hc => ?_) (fun hc => ?_)
      · replace hf := (if_neg hc).symm.trans hf
        refine k_sub [] (L' := []) rfl ?_
        exact hk53 _ _ _ _ hf
      · replace hf := (if_pos hc).symm.trans hf
        refine k_aload_n C dX1_appendAll_24 0 rfl ?_
        refine k_aload_n C dX1_appendAll_25 0 rfl ?_
        refine g1_12 C dX1_appendAll_26 ?_
        refine g1_130 C dX1_appendAll_29 ?_
        refine k_iload_n C dX1_appendAll_32 1 rfl ?_
        obtain ⟨hi, hf⟩ := gd_no hf
        refine lc28 C hi dX1_appendAll_33 ?_
        obtain ⟨⟨fo_fR_2, fo_fS_3, fo_fh_4, fo_fb_5⟩, hq_1, hf⟩ := ob_el hf
        dsimp only at hf
        refine k_callVv C (c1_append C.2.2.2.2.2.2.2.2.2.1 hq_1) cm1_118 ok1_append (by decide) 25 rfl rfl rfl rfl (Nat.le_of_ble_eq_true rfl) dX1_appendAll_34 ?_
        refine k_aload_n C dX1_appendAll_37 0 rfl ?_
        refine g1_12 C dX1_appendAll_38 ?_
        refine g1_133 C dX1_appendAll_41 ?_
        refine k_iload_n C dX1_appendAll_44 1 rfl ?_
        obtain ⟨hi, hf⟩ := gd_no hf
        refine lc29 C hi dX1_appendAll_45 ?_
        refine k_topi (fun v2_6 ev2_6 => ?_)
        replace hf := nm_el hf ev2_6
        refine k_istore_n C dX1_appendAll_46 [(2, .int v2_6), (0, .ref (ad 25)), (3, .int x3)] (by decide) rfl ?_
        obtain ⟨v3_7, ev3_7⟩ : ∃ y : Int32, y = x3 + (1 : Int32) := ⟨_, rfl⟩
        replace hf := nm_el hf ev3_7
        refine k_iinc (v := v3_7) C dX1_appendAll_47 2 rfl (by rw [ev3_7]; rfl) [(3, .int v3_7), (2, .int v2_6), (0, .ref (ad 25))] (by decide) rfl ?_
        refine k_goto C 4 dX1_appendAll_50 (by decide) ?_
        refine k_sub [2, 1, 0] (L' := [(0, .ref (ad 25)), (2, .int v2_6), (3, .int v3_7)]) rfl ?_
        exact ih _ _ _ _ _ _ hf
set_option maxHeartbeats 4000000 in
set_option maxRecDepth 100000 in
theorem b1_appendAll {V : EV} {p : Program} {l : Launch} {e : Env} {R : Room} {s : State} {m : MethodId} {args : Array Value} {below : List Frame} {meth : Method} {c : Code} {Q : State → Prop} {A : Nat → Prop} {kc ks : Nat} {ad : Nat → Nat} {top : TopS} {rd : RdS} {ra : Int32} {co : Nat → CoS} {mu : MuS} {ma : MaS} {mq : Nat} {mx : MxS} {tr_tK : Nat → Int32} {tr_tF : Nat → Int32} {tr_tS : Nat → Int32} {tr_tT : Nat → Int32} {tr_tO : Nat → Int32} {tr_tN : Nat → Int32} {tr_tc : Int32} {v1 : Int32} {fo_fR : Nat → Int32} {fo_fS : Nat → Int32} {fo_fh : Int32} {fo_fb : Int32} {N : Nat} {res : FoS} (C : CX V p l R s m args c A kc ks RX1 cX1_appendAll 4 2 43) (hf : f1_appendAll N v1 (tr_tK, tr_tF, tr_tS, tr_tT, tr_tO, tr_tN, tr_tc) (fo_fR, fo_fS, fo_fh, fo_fb) = some res) (K : RV V p l e R s m args below meth c Q A kc ks 4 cX1_appendAll (wC V ad top rd ra co mu res (tr_tK, tr_tF, tr_tS, tr_tT, tr_tO, tr_tN, tr_tc) ma mq mx)) : WC V p l e R s m args below meth c Q A kc ks 4 (wC V ad top rd ra co mu (fo_fR, fo_fS, fo_fh, fo_fb) (tr_tK, tr_tF, tr_tS, tr_tT, tr_tO, tr_tN, tr_tc) ma mq mx) 0 [(0, .ref (ad 25)), (1, .int v1)] [] := by
  rw [f1_appendAll] at hf
  refine k_iload_n C dX1_appendAll_0 1 rfl ?_
  refine k_istore_n C dX1_appendAll_1 [(2, .int v1), (0, .ref (ad 25)), (1, .int v1)] (by decide) rfl ?_
  refine k_iconst (v := (0 : Int32)) C dX1_appendAll_2 (by decide) ?_
  refine k_istore_n C dX1_appendAll_3 [(3, .int (0 : Int32)), (2, .int v1), (0, .ref (ad 25)), (1, .int v1)] (by decide) rfl ?_
  refine k_sub [2, 1, 0] (L' := [(0, .ref (ad 25)), (2, .int v1), (3, .int (0 : Int32))]) rfl ?_
  refine w1_appendAll_L4 C K ?_ _ _ _ _ _ _ _ hf
  · intro fo_fR_8 fo_fS_8 fo_fh_8 fo_fb_8 hf
    try dsimp only at hf
    cases hf
    exact K _ _ dX1_appendAll_53
theorem c1_appendAll {V : EV} {l : Launch} (hl0 : l.stackTraces = false) {ad : Nat → Nat} {top : TopS} {rd : RdS} {ra : Int32} {co : Nat → CoS} {mu : MuS} {ma : MaS} {mq : Nat} {mx : MxS} {tr_tK : Nat → Int32} {tr_tF : Nat → Int32} {tr_tS : Nat → Int32} {tr_tT : Nat → Int32} {tr_tO : Nat → Int32} {tr_tN : Nat → Int32} {tr_tc : Int32} {v1 : Int32} {fo_fR : Nat → Int32} {fo_fS : Nat → Int32} {fo_fh : Int32} {fo_fb : Int32} {N : Nat} {res : FoS} (hf : f1_appendAll N v1 (tr_tK, tr_tF, tr_tS, tr_tT, tr_tO, tr_tN, tr_tc) (fo_fR, fo_fS, fo_fh, fo_fb) = some res) : MV V l yX1_appendAll cX1_appendAll 4 2 43 [.ref (ad 25), .int v1] (wC V ad top rd ra co mu (fo_fR, fo_fS, fo_fh, fo_fb) (tr_tK, tr_tF, tr_tS, tr_tT, tr_tO, tr_tN, tr_tc) ma mq mx) (wC V ad top rd ra co mu res (tr_tK, tr_tF, tr_tS, tr_tT, tr_tO, tr_tN, tr_tc) ma mq mx) :=
  mv_of hl0 (by decide +kernel) (Nat.le_of_ble_eq_true rfl) (fun p e R s m args below meth c Q A C K => b1_appendAll C hf K)

theorem cm1_153 : ∀ a ∈ wsCV RX1 153 RX6 yX6_isNumber cX6_isNumber 3 (some .boolean), a ∈ GW := by
  unfold wsCV
  exact (List.forall_mem_cons.mpr ⟨(gw_4 (i := 16) (by decide +kernel) rfl), (List.forall_mem_cons.mpr ⟨(gw_4 (i := 17) (by decide +kernel) rfl), (List.forall_mem_cons.mpr ⟨(gw_4 (i := 18) (by decide +kernel) rfl), (List.forall_mem_cons.mpr ⟨(gw_1 (i := 6) (by decide +kernel) rfl), (List.forall_mem_cons.mpr ⟨(gw_4 (i := 19) (by decide +kernel) rfl), (List.forall_mem_nil _)⟩)⟩)⟩)⟩)⟩)
theorem ok1_changesNothingOnTheRight : okCV RX1 yX1_changesNothingOnTheRight 2 := by unfold okCV; decide +kernel
def f1_changesNothingOnTheRight_L34   (tr_tK : Nat → Int32) (tr_tF : Nat → Int32) (tr_tS : Nat → Int32) (tr_tT : Nat → Int32) (tr_tO : Nat → Int32) (tr_tN : Nat → Int32) (tr_tc : Int32) : Int32 → Option (Int32)
  | x2 =>
    (f6_isNumber x2 (1 : Int32) (tr_tK, tr_tF, tr_tS, tr_tT, tr_tO, tr_tN, tr_tc)).bind fun r_4 => if r_4 = 0 then some (0 : Int32) else some (1 : Int32)
def f1_changesNothingOnTheRight (v1 : Int32) (v2 : Int32) : TrS → Option (Int32)
  | (tr_tK, tr_tF, tr_tS, tr_tT, tr_tO, tr_tN, tr_tc) =>
    if v1 = (43 : Int32) then (f6_isNumber v2 (0 : Int32) (tr_tK, tr_tF, tr_tS, tr_tT, tr_tO, tr_tN, tr_tc)).bind fun r_2 => if r_2 = 0 ∨ r_2 = 1 then some r_2 else none else if v1 = (45 : Int32) then (f6_isNumber v2 (0 : Int32) (tr_tK, tr_tF, tr_tS, tr_tT, tr_tO, tr_tN, tr_tc)).bind fun r_6 => if r_6 = 0 ∨ r_6 = 1 then some r_6 else none else if v1 = (42 : Int32) then f1_changesNothingOnTheRight_L34 tr_tK tr_tF tr_tS tr_tT tr_tO tr_tN tr_tc v2 else if v1 = (47 : Int32) then f1_changesNothingOnTheRight_L34 tr_tK tr_tF tr_tS tr_tT tr_tO tr_tN tr_tc v2 else some (0 : Int32)
set_option maxHeartbeats 4000000 in
set_option maxRecDepth 100000 in
theorem w1_changesNothingOnTheRight_L34 {V : EV} {p : Program} {l : Launch} {e : Env} {R : Room} {s : State} {m : MethodId} {args : Array Value} {below : List Frame} {meth : Method} {c : Code} {Q : State → Prop} {A : Nat → Prop} {kc ks : Nat} {ad : Nat → Nat} {top : TopS} {rd : RdS} {ra : Int32} {co : Nat → CoS} {mu : MuS} {fo : FoS} {ma : MaS} {mq : Nat} {mx : MxS} {tr_tK : Nat → Int32} {tr_tF : Nat → Int32} {tr_tS : Nat → Int32} {tr_tT : Nat → Int32} {tr_tO : Nat → Int32} {tr_tN : Nat → Int32} {tr_tc : Int32}  {res : Int32} (C : CX V p l R s m args c A kc ks RX1 cX1_changesNothingOnTheRight 3 2 43) (K : RI V p l e R s m args below meth c Q A kc ks 3 cX1_changesNothingOnTheRight .boolean res (wC V ad top rd ra co mu fo (tr_tK, tr_tF, tr_tS, tr_tT, tr_tO, tr_tN, tr_tc) ma mq mx))  : ∀ (x2 : Int32) , f1_changesNothingOnTheRight_L34 tr_tK tr_tF tr_tS tr_tT tr_tO tr_tN tr_tc x2 = some res → WC V p l e R s m args below meth c Q A kc ks 3 (wC V ad top rd ra co mu fo (tr_tK, tr_tF, tr_tS, tr_tT, tr_tO, tr_tN, tr_tc) ma mq mx) 34 [(0, .ref (ad 25)), (2, .int x2)] [] := by
  intro x2 hf
  rw [f1_changesNothingOnTheRight_L34] at hf
  refine k_aload_n C dX1_changesNothingOnTheRight_34 0 rfl ?_
  refine g1_12 C dX1_changesNothingOnTheRight_35 ?_
  refine k_iload_n C dX1_changesNothingOnTheRight_38 1 rfl ?_
  refine k_iconst (v := (1 : Int32)) C dX1_changesNothingOnTheRight_39 (by decide) ?_
  obtain ⟨r_4, hq_3, hf⟩ := ob_el hf
  refine k_callVi C (c6_isNumber C.2.2.2.2.2.2.2.2.2.1 hq_3) cm1_153 ok6_isNumber (by decide) 26 rfl rfl rfl rfl (Nat.le_of_ble_eq_true rfl) dX1_changesNothingOnTheRight_40 ?_
  refine k_if_eq C 50 dX1_changesNothingOnTheRight_43 (by decide) (fun hc => ?_) (fun hc => ?_)
  · replace hf := (if_pos hc).symm.trans hf
    refine k_iconst (v := (0 : Int32)) C dX1_changesNothingOnTheRight_50 (by decide) ?_
    cases hf
    exact K _ _ dX1_changesNothingOnTheRight_51 (nar_b (Or.inl rfl))
  · replace hf := (if_neg hc).symm.trans hf
    refine k_iconst (v := (1 : Int32)) C dX1_changesNothingOnTheRight_46 (by decide) ?_
    refine k_goto C 51 dX1_changesNothingOnTheRight_47 (by decide) ?_
    cases hf
    exact K _ _ dX1_changesNothingOnTheRight_51 (nar_b (Or.inr rfl))
set_option maxHeartbeats 4000000 in
set_option maxRecDepth 100000 in
theorem b1_changesNothingOnTheRight {V : EV} {p : Program} {l : Launch} {e : Env} {R : Room} {s : State} {m : MethodId} {args : Array Value} {below : List Frame} {meth : Method} {c : Code} {Q : State → Prop} {A : Nat → Prop} {kc ks : Nat} {ad : Nat → Nat} {top : TopS} {rd : RdS} {ra : Int32} {co : Nat → CoS} {mu : MuS} {fo : FoS} {ma : MaS} {mq : Nat} {mx : MxS} {tr_tK : Nat → Int32} {tr_tF : Nat → Int32} {tr_tS : Nat → Int32} {tr_tT : Nat → Int32} {tr_tO : Nat → Int32} {tr_tN : Nat → Int32} {tr_tc : Int32} {v1 : Int32} {v2 : Int32} {res : Int32} (C : CX V p l R s m args c A kc ks RX1 cX1_changesNothingOnTheRight 3 2 43) (hf : f1_changesNothingOnTheRight v1 v2 (tr_tK, tr_tF, tr_tS, tr_tT, tr_tO, tr_tN, tr_tc) = some res) (K : RI V p l e R s m args below meth c Q A kc ks 3 cX1_changesNothingOnTheRight .boolean res (wC V ad top rd ra co mu fo (tr_tK, tr_tF, tr_tS, tr_tT, tr_tO, tr_tN, tr_tc) ma mq mx)) : WC V p l e R s m args below meth c Q A kc ks 3 (wC V ad top rd ra co mu fo (tr_tK, tr_tF, tr_tS, tr_tT, tr_tO, tr_tN, tr_tc) ma mq mx) 0 [(0, .ref (ad 25)), (1, .int v1), (2, .int v2)] [] := by
  rw [f1_changesNothingOnTheRight] at hf
  refine k_iload_n C dX1_changesNothingOnTheRight_0 1 rfl ?_
  refine k_bipush (v := (43 : Int32)) C dX1_changesNothingOnTheRight_1 (by decide) ?_
  refine k_icmp_eq C 12 dX1_changesNothingOnTheRight_3 (by decide) (fun hc => ?_) (fun hc => ?_)
  · replace hf := (if_pos hc).symm.trans hf
    refine k_aload_n C dX1_changesNothingOnTheRight_12 0 rfl ?_
    refine g1_12 C dX1_changesNothingOnTheRight_13 ?_
    refine k_iload_n C dX1_changesNothingOnTheRight_16 2 rfl ?_
    refine k_iconst (v := (0 : Int32)) C dX1_changesNothingOnTheRight_17 (by decide) ?_
    obtain ⟨r_2, hq_1, hf⟩ := ob_el hf
    refine k_callVi C (c6_isNumber C.2.2.2.2.2.2.2.2.2.1 hq_1) cm1_153 ok6_isNumber (by decide) 26 rfl rfl rfl rfl (Nat.le_of_ble_eq_true rfl) dX1_changesNothingOnTheRight_18 ?_
    obtain ⟨hb, hf⟩ := gd_ok hf
    cases hf
    exact K _ _ dX1_changesNothingOnTheRight_21 (nar_b hb)
  · replace hf := (if_neg hc).symm.trans hf
    refine k_iload_n C dX1_changesNothingOnTheRight_6 1 rfl ?_
    refine k_bipush (v := (45 : Int32)) C dX1_changesNothingOnTheRight_7 (by decide) ?_
    refine k_icmp_ne C 22 dX1_changesNothingOnTheRight_9 (by decide) (fun hc => ?_) (fun hc => ?_)
    · replace hf := (if_neg hc).symm.trans hf
      refine k_iload_n C dX1_changesNothingOnTheRight_22 1 rfl ?_
      refine k_bipush (v := (42 : Int32)) C dX1_changesNothingOnTheRight_23 (by decide) ?_
      refine k_icmp_eq C 34 dX1_changesNothingOnTheRight_25 (by decide) (fun hc => ?_) (fun hc => ?_)
      · replace hf := (if_pos hc).symm.trans hf
        refine k_sub [0, 2] (L' := [(0, .ref (ad 25)), (2, .int v2)]) rfl ?_
        exact w1_changesNothingOnTheRight_L34 C K _ hf
      · replace hf := (if_neg hc).symm.trans hf
        refine k_iload_n C dX1_changesNothingOnTheRight_28 1 rfl ?_
        refine k_bipush (v := (47 : Int32)) C dX1_changesNothingOnTheRight_29 (by decide) ?_
        refine k_icmp_ne C 50 dX1_changesNothingOnTheRight_31 (by decide) (fun hc => ?_) (fun hc => ?_)
        · replace hf := (if_neg hc).symm.trans hf
          refine k_iconst (v := (0 : Int32)) C dX1_changesNothingOnTheRight_50 (by decide) ?_
          cases hf
          exact K _ _ dX1_changesNothingOnTheRight_51 (nar_b (Or.inl rfl))
        · replace hf := (if_pos hc).symm.trans hf
          refine k_sub [0, 2] (L' := [(0, .ref (ad 25)), (2, .int v2)]) rfl ?_
          exact w1_changesNothingOnTheRight_L34 C K _ hf
    · replace hf := (if_pos hc).symm.trans hf
      refine k_aload_n C dX1_changesNothingOnTheRight_12 0 rfl ?_
      refine g1_12 C dX1_changesNothingOnTheRight_13 ?_
      refine k_iload_n C dX1_changesNothingOnTheRight_16 2 rfl ?_
      refine k_iconst (v := (0 : Int32)) C dX1_changesNothingOnTheRight_17 (by decide) ?_
      obtain ⟨r_6, hq_5, hf⟩ := ob_el hf
      refine k_callVi C (c6_isNumber C.2.2.2.2.2.2.2.2.2.1 hq_5) cm1_153 ok6_isNumber (by decide) 26 rfl rfl rfl rfl (Nat.le_of_ble_eq_true rfl) dX1_changesNothingOnTheRight_18 ?_
      obtain ⟨hb, hf⟩ := gd_ok hf
      cases hf
      exact K _ _ dX1_changesNothingOnTheRight_21 (nar_b hb)
theorem c1_changesNothingOnTheRight {V : EV} {l : Launch} (hl0 : l.stackTraces = false) {ad : Nat → Nat} {top : TopS} {rd : RdS} {ra : Int32} {co : Nat → CoS} {mu : MuS} {fo : FoS} {ma : MaS} {mq : Nat} {mx : MxS} {tr_tK : Nat → Int32} {tr_tF : Nat → Int32} {tr_tS : Nat → Int32} {tr_tT : Nat → Int32} {tr_tO : Nat → Int32} {tr_tN : Nat → Int32} {tr_tc : Int32} {v1 : Int32} {v2 : Int32} {res : Int32} (hf : f1_changesNothingOnTheRight v1 v2 (tr_tK, tr_tF, tr_tS, tr_tT, tr_tO, tr_tN, tr_tc) = some res) : MI V l yX1_changesNothingOnTheRight cX1_changesNothingOnTheRight 3 .boolean 2 43 [.ref (ad 25), .int v1, .int v2] (wC V ad top rd ra co mu fo (tr_tK, tr_tF, tr_tS, tr_tT, tr_tO, tr_tN, tr_tc) ma mq mx) res (wC V ad top rd ra co mu fo (tr_tK, tr_tF, tr_tS, tr_tT, tr_tO, tr_tN, tr_tc) ma mq mx) :=
  mi_of hl0 (by decide +kernel) (Nat.le_of_ble_eq_true rfl) (fun p e R s m args below meth c Q A C K => b1_changesNothingOnTheRight C hf K)

theorem ok1_changesNothingOnTheLeft : okCV RX1 yX1_changesNothingOnTheLeft 2 := by unfold okCV; decide +kernel
def f1_changesNothingOnTheLeft_L18   (tr_tK : Nat → Int32) (tr_tF : Nat → Int32) (tr_tS : Nat → Int32) (tr_tT : Nat → Int32) (tr_tO : Nat → Int32) (tr_tN : Nat → Int32) (tr_tc : Int32) : Int32 → Int32 → Option (Int32)
  | x1, x2 =>
    if x1 = (42 : Int32) then (f6_isNumber x2 (1 : Int32) (tr_tK, tr_tF, tr_tS, tr_tT, tr_tO, tr_tN, tr_tc)).bind fun r_2 => if r_2 = 0 then some (0 : Int32) else some (1 : Int32) else some (0 : Int32)
def f1_changesNothingOnTheLeft (v1 : Int32) (v2 : Int32) : TrS → Option (Int32)
  | (tr_tK, tr_tF, tr_tS, tr_tT, tr_tO, tr_tN, tr_tc) =>
    if v1 = (43 : Int32) then (f6_isNumber v2 (0 : Int32) (tr_tK, tr_tF, tr_tS, tr_tT, tr_tO, tr_tN, tr_tc)).bind fun r_4 => if r_4 = 0 then f1_changesNothingOnTheLeft_L18 tr_tK tr_tF tr_tS tr_tT tr_tO tr_tN tr_tc v1 v2 else some (1 : Int32) else f1_changesNothingOnTheLeft_L18 tr_tK tr_tF tr_tS tr_tT tr_tO tr_tN tr_tc v1 v2
set_option maxHeartbeats 4000000 in
set_option maxRecDepth 100000 in
theorem w1_changesNothingOnTheLeft_L18 {V : EV} {p : Program} {l : Launch} {e : Env} {R : Room} {s : State} {m : MethodId} {args : Array Value} {below : List Frame} {meth : Method} {c : Code} {Q : State → Prop} {A : Nat → Prop} {kc ks : Nat} {ad : Nat → Nat} {top : TopS} {rd : RdS} {ra : Int32} {co : Nat → CoS} {mu : MuS} {fo : FoS} {ma : MaS} {mq : Nat} {mx : MxS} {tr_tK : Nat → Int32} {tr_tF : Nat → Int32} {tr_tS : Nat → Int32} {tr_tT : Nat → Int32} {tr_tO : Nat → Int32} {tr_tN : Nat → Int32} {tr_tc : Int32}  {res : Int32} (C : CX V p l R s m args c A kc ks RX1 cX1_changesNothingOnTheLeft 3 2 43) (K : RI V p l e R s m args below meth c Q A kc ks 3 cX1_changesNothingOnTheLeft .boolean res (wC V ad top rd ra co mu fo (tr_tK, tr_tF, tr_tS, tr_tT, tr_tO, tr_tN, tr_tc) ma mq mx))  : ∀ (x1 : Int32) (x2 : Int32) , f1_changesNothingOnTheLeft_L18 tr_tK tr_tF tr_tS tr_tT tr_tO tr_tN tr_tc x1 x2 = some res → WC V p l e R s m args below meth c Q A kc ks 3 (wC V ad top rd ra co mu fo (tr_tK, tr_tF, tr_tS, tr_tT, tr_tO, tr_tN, tr_tc) ma mq mx) 18 [(0, .ref (ad 25)), (1, .int x1), (2, .int x2)] [] := by
  intro x1 x2 hf
  rw [f1_changesNothingOnTheLeft_L18] at hf
  refine k_iload_n C dX1_changesNothingOnTheLeft_18 1 rfl ?_
  refine k_bipush (v := (42 : Int32)) C dX1_changesNothingOnTheLeft_19 (by decide) ?_
  refine k_icmp_ne C 40 dX1_changesNothingOnTheLeft_21 (by decide) (fun hc => ?_) (fun hc => ?_)
  · replace hf := (if_neg hc).symm.trans hf
    refine k_iconst (v := (0 : Int32)) C dX1_changesNothingOnTheLeft_40 (by decide) ?_
    cases hf
    exact K _ _ dX1_changesNothingOnTheLeft_41 (nar_b (Or.inl rfl))
  · replace hf := (if_pos hc).symm.trans hf
    refine k_aload_n C dX1_changesNothingOnTheLeft_24 0 rfl ?_
    refine g1_12 C dX1_changesNothingOnTheLeft_25 ?_
    refine k_iload_n C dX1_changesNothingOnTheLeft_28 2 rfl ?_
    refine k_iconst (v := (1 : Int32)) C dX1_changesNothingOnTheLeft_29 (by decide) ?_
    obtain ⟨r_2, hq_1, hf⟩ := ob_el hf
    refine k_callVi C (c6_isNumber C.2.2.2.2.2.2.2.2.2.1 hq_1) cm1_153 ok6_isNumber (by decide) 26 rfl rfl rfl rfl (Nat.le_of_ble_eq_true rfl) dX1_changesNothingOnTheLeft_30 ?_
    refine k_if_eq C 40 dX1_changesNothingOnTheLeft_33 (by decide) (fun hc => ?_) (fun hc => ?_)
    · replace hf := (if_pos hc).symm.trans hf
      refine k_iconst (v := (0 : Int32)) C dX1_changesNothingOnTheLeft_40 (by decide) ?_
      cases hf
      exact K _ _ dX1_changesNothingOnTheLeft_41 (nar_b (Or.inl rfl))
    · replace hf := (if_neg hc).symm.trans hf
      refine k_iconst (v := (1 : Int32)) C dX1_changesNothingOnTheLeft_36 (by decide) ?_
      refine k_goto C 41 dX1_changesNothingOnTheLeft_37 (by decide) ?_
      cases hf
      exact K _ _ dX1_changesNothingOnTheLeft_41 (nar_b (Or.inr rfl))
set_option maxHeartbeats 4000000 in
set_option maxRecDepth 100000 in
theorem b1_changesNothingOnTheLeft {V : EV} {p : Program} {l : Launch} {e : Env} {R : Room} {s : State} {m : MethodId} {args : Array Value} {below : List Frame} {meth : Method} {c : Code} {Q : State → Prop} {A : Nat → Prop} {kc ks : Nat} {ad : Nat → Nat} {top : TopS} {rd : RdS} {ra : Int32} {co : Nat → CoS} {mu : MuS} {fo : FoS} {ma : MaS} {mq : Nat} {mx : MxS} {tr_tK : Nat → Int32} {tr_tF : Nat → Int32} {tr_tS : Nat → Int32} {tr_tT : Nat → Int32} {tr_tO : Nat → Int32} {tr_tN : Nat → Int32} {tr_tc : Int32} {v1 : Int32} {v2 : Int32} {res : Int32} (C : CX V p l R s m args c A kc ks RX1 cX1_changesNothingOnTheLeft 3 2 43) (hf : f1_changesNothingOnTheLeft v1 v2 (tr_tK, tr_tF, tr_tS, tr_tT, tr_tO, tr_tN, tr_tc) = some res) (K : RI V p l e R s m args below meth c Q A kc ks 3 cX1_changesNothingOnTheLeft .boolean res (wC V ad top rd ra co mu fo (tr_tK, tr_tF, tr_tS, tr_tT, tr_tO, tr_tN, tr_tc) ma mq mx)) : WC V p l e R s m args below meth c Q A kc ks 3 (wC V ad top rd ra co mu fo (tr_tK, tr_tF, tr_tS, tr_tT, tr_tO, tr_tN, tr_tc) ma mq mx) 0 [(0, .ref (ad 25)), (1, .int v1), (2, .int v2)] [] := by
  rw [f1_changesNothingOnTheLeft] at hf
  refine k_iload_n C dX1_changesNothingOnTheLeft_0 1 rfl ?_
  refine k_bipush (v := (43 : Int32)) C dX1_changesNothingOnTheLeft_1 (by decide) ?_
  refine k_icmp_ne C 18 dX1_changesNothingOnTheLeft_3 (by decide) (fun hc => ?_) (fun hc => ?_)
  · replace hf := (if_neg hc).symm.trans hf
    exact w1_changesNothingOnTheLeft_L18 C K _ _ hf
  · replace hf := (if_pos hc).symm.trans hf
    refine k_aload_n C dX1_changesNothingOnTheLeft_6 0 rfl ?_
    refine g1_12 C dX1_changesNothingOnTheLeft_7 ?_
    refine k_iload_n C dX1_changesNothingOnTheLeft_10 2 rfl ?_
    refine k_iconst (v := (0 : Int32)) C dX1_changesNothingOnTheLeft_11 (by decide) ?_
    obtain ⟨r_4, hq_3, hf⟩ := ob_el hf
    refine k_callVi C (c6_isNumber C.2.2.2.2.2.2.2.2.2.1 hq_3) cm1_153 ok6_isNumber (by decide) 26 rfl rfl rfl rfl (Nat.le_of_ble_eq_true rfl) dX1_changesNothingOnTheLeft_12 ?_
    refine k_if_ne C 36 dX1_changesNothingOnTheLeft_15 (by decide) (fun hc => ?_) (fun hc => ?_)
    · replace hf := (if_neg hc).symm.trans hf
      refine k_iconst (v := (1 : Int32)) C dX1_changesNothingOnTheLeft_36 (by decide) ?_
      refine k_goto C 41 dX1_changesNothingOnTheLeft_37 (by decide) ?_
      cases hf
      exact K _ _ dX1_changesNothingOnTheLeft_41 (nar_b (Or.inr rfl))
    · replace hf := (if_pos hc).symm.trans hf
      exact w1_changesNothingOnTheLeft_L18 C K _ _ hf
theorem c1_changesNothingOnTheLeft {V : EV} {l : Launch} (hl0 : l.stackTraces = false) {ad : Nat → Nat} {top : TopS} {rd : RdS} {ra : Int32} {co : Nat → CoS} {mu : MuS} {fo : FoS} {ma : MaS} {mq : Nat} {mx : MxS} {tr_tK : Nat → Int32} {tr_tF : Nat → Int32} {tr_tS : Nat → Int32} {tr_tT : Nat → Int32} {tr_tO : Nat → Int32} {tr_tN : Nat → Int32} {tr_tc : Int32} {v1 : Int32} {v2 : Int32} {res : Int32} (hf : f1_changesNothingOnTheLeft v1 v2 (tr_tK, tr_tF, tr_tS, tr_tT, tr_tO, tr_tN, tr_tc) = some res) : MI V l yX1_changesNothingOnTheLeft cX1_changesNothingOnTheLeft 3 .boolean 2 43 [.ref (ad 25), .int v1, .int v2] (wC V ad top rd ra co mu fo (tr_tK, tr_tF, tr_tS, tr_tT, tr_tO, tr_tN, tr_tc) ma mq mx) res (wC V ad top rd ra co mu fo (tr_tK, tr_tF, tr_tS, tr_tT, tr_tO, tr_tN, tr_tc) ma mq mx) :=
  mi_of hl0 (by decide +kernel) (Nat.le_of_ble_eq_true rfl) (fun p e R s m args below meth c Q A C K => b1_changesNothingOnTheLeft C hf K)

theorem nw1_140 : (RX1, 140, yX7_traps) ∈ nwl := by decide +kernel
theorem cn7_traps : ∀ a ∈ wsCN yX7_traps cX7_traps 2 (some .boolean), a ∈ GW := by
  unfold wsCN
  exact (List.forall_mem_cons.mpr ⟨(gw_3 (i := 232) (by decide +kernel) rfl), (List.forall_mem_cons.mpr ⟨(gw_1 (i := 1) (by decide +kernel) rfl), (List.forall_mem_cons.mpr ⟨(gw_3 (i := 233) (by decide +kernel) rfl), (List.forall_mem_nil _)⟩)⟩)⟩)
theorem nw1_144 : (RX1, 144, yX7_arithmetic) ∈ nwl := by decide +kernel
theorem cn7_arithmetic : ∀ a ∈ wsCN yX7_arithmetic cX7_arithmetic 3 (some .int), a ∈ GW := by
  unfold wsCN
  exact (List.forall_mem_cons.mpr ⟨(gw_3 (i := 235) (by decide +kernel) rfl), (List.forall_mem_cons.mpr ⟨(gw_1 (i := 1) (by decide +kernel) rfl), (List.forall_mem_cons.mpr ⟨(gw_3 (i := 236) (by decide +kernel) rfl), (List.forall_mem_nil _)⟩)⟩)⟩)
theorem cm1_102 : ∀ a ∈ wsCV RX1 102 RX6 yX6_constant cX6_constant 2 (some .int), a ∈ GW := by
  unfold wsCV
  exact (List.forall_mem_cons.mpr ⟨(gw_3 (i := 237) (by decide +kernel) rfl), (List.forall_mem_cons.mpr ⟨(gw_3 (i := 238) (by decide +kernel) rfl), (List.forall_mem_cons.mpr ⟨(gw_3 (i := 239) (by decide +kernel) rfl), (List.forall_mem_cons.mpr ⟨(gw_1 (i := 6) (by decide +kernel) rfl), (List.forall_mem_cons.mpr ⟨(gw_4 (i := 0) (by decide +kernel) rfl), (List.forall_mem_nil _)⟩)⟩)⟩)⟩)⟩)
theorem cm1_136 : ∀ a ∈ wsCV RX1 136 RX6 yX6_isConstant cX6_isConstant 2 (some .boolean), a ∈ GW := by
  unfold wsCV
  exact (List.forall_mem_cons.mpr ⟨(gw_3 (i := 227) (by decide +kernel) rfl), (List.forall_mem_cons.mpr ⟨(gw_3 (i := 228) (by decide +kernel) rfl), (List.forall_mem_cons.mpr ⟨(gw_3 (i := 229) (by decide +kernel) rfl), (List.forall_mem_cons.mpr ⟨(gw_1 (i := 6) (by decide +kernel) rfl), (List.forall_mem_cons.mpr ⟨(gw_3 (i := 230) (by decide +kernel) rfl), (List.forall_mem_nil _)⟩)⟩)⟩)⟩)⟩)
theorem cm1_147 : ∀ a ∈ wsCV RX1 147 RX1 yX1_changesNothingOnTheRight cX1_changesNothingOnTheRight 3 (some .boolean), a ∈ GW := by
  unfold wsCV
  exact (List.forall_mem_cons.mpr ⟨(gw_4 (i := 12) (by decide +kernel) rfl), (List.forall_mem_cons.mpr ⟨(gw_4 (i := 14) (by decide +kernel) rfl), (List.forall_mem_cons.mpr ⟨(gw_p (q := ((yX1_changesNothingOnTheRight, 5) : MethodName × Nat)) (List.mem_append_right _ (List.mem_append_right _ (List.mem_append_left _ (List.mem_of_getElem? (i := 3) (by decide +kernel))))) rfl), (List.forall_mem_cons.mpr ⟨(gw_1 (i := 5) (by decide +kernel) rfl), (List.forall_mem_cons.mpr ⟨(gw_4 (i := 15) (by decide +kernel) rfl), (List.forall_mem_nil _)⟩)⟩)⟩)⟩)⟩)
theorem cm1_150 : ∀ a ∈ wsCV RX1 150 RX1 yX1_changesNothingOnTheLeft cX1_changesNothingOnTheLeft 3 (some .boolean), a ∈ GW := by
  unfold wsCV
  exact (List.forall_mem_cons.mpr ⟨(gw_4 (i := 21) (by decide +kernel) rfl), (List.forall_mem_cons.mpr ⟨(gw_4 (i := 23) (by decide +kernel) rfl), (List.forall_mem_cons.mpr ⟨(gw_p (q := ((yX1_changesNothingOnTheLeft, 5) : MethodName × Nat)) (List.mem_append_right _ (List.mem_append_right _ (List.mem_append_left _ (List.mem_of_getElem? (i := 4) (by decide +kernel))))) rfl), (List.forall_mem_cons.mpr ⟨(gw_1 (i := 5) (by decide +kernel) rfl), (List.forall_mem_cons.mpr ⟨(gw_4 (i := 24) (by decide +kernel) rfl), (List.forall_mem_nil _)⟩)⟩)⟩)⟩)⟩)
theorem ok1_apply : okCV RX1 yX1_apply 1 := by unfold okCV; decide +kernel
def f1_apply_L96  (N : Nat)  : Int32 → Int32 → Int32 → FoS → TrS → Option (FoS × TrS)
  | x1, x2, x3, (fo_fR, fo_fS, fo_fh, fo_fb), (tr_tK, tr_tF, tr_tS, tr_tT, tr_tO, tr_tN, tr_tc) =>
    (f1_changesNothingOnTheRight x1 x2 (tr_tK, tr_tF, tr_tS, tr_tT, tr_tO, tr_tN, tr_tc)).bind fun r_16 => if r_16 = 0 then (f1_changesNothingOnTheLeft x1 x3 (tr_tK, tr_tF, tr_tS, tr_tT, tr_tO, tr_tN, tr_tc)).bind fun r_18 => if r_18 = 0 then (f6_of N (3 : Int32) x1 x3 x2 (tr_tK, tr_tF, tr_tS, tr_tT, tr_tO, tr_tN, tr_tc)).bind fun (r_20, (tr_tK_21, tr_tF_22, tr_tS_23, tr_tT_24, tr_tO_25, tr_tN_26, tr_tc_27)) => (f1_push r_20 (fo_fR, fo_fS, fo_fh, fo_fb)).bind fun (fo_fR_29, fo_fS_30, fo_fh_31, fo_fb_32) => some ((fo_fR_29, fo_fS_30, fo_fh_31, fo_fb_32), (tr_tK_21, tr_tF_22, tr_tS_23, tr_tT_24, tr_tO_25, tr_tN_26, tr_tc_27)) else (f1_push x2 (fo_fR, fo_fS, fo_fh, fo_fb)).bind fun (fo_fR_34, fo_fS_35, fo_fh_36, fo_fb_37) => some ((fo_fR_34, fo_fS_35, fo_fh_36, fo_fb_37), (tr_tK, tr_tF, tr_tS, tr_tT, tr_tO, tr_tN, tr_tc)) else (f1_push x3 (fo_fR, fo_fS, fo_fh, fo_fb)).bind fun (fo_fR_39, fo_fS_40, fo_fh_41, fo_fb_42) => some ((fo_fR_39, fo_fS_40, fo_fh_41, fo_fb_42), (tr_tK, tr_tF, tr_tS, tr_tT, tr_tO, tr_tN, tr_tc))

def f1_apply_L37  (N : Nat)  : Int32 → Int32 → Int32 → Int32 → FoS → TrS → Option (FoS × TrS)
  | x1, x2, x3, y0, (fo_fR, fo_fS, fo_fh, fo_fb), (tr_tK, tr_tF, tr_tS, tr_tT, tr_tO, tr_tN, tr_tc) =>
    if y0 = 0 then f1_apply_L96 N x1 x2 x3 (fo_fR, fo_fS, fo_fh, fo_fb) (tr_tK, tr_tF, tr_tS, tr_tT, tr_tO, tr_tN, tr_tc) else if x2 < 0 ∨ 18755 ≤ x2.toNatClampNeg then none else (f7_traps x1 (tr_tF x2.toNatClampNeg)).bind fun r_44 => if r_44 = 0 then if x3 < 0 ∨ 18755 ≤ x3.toNatClampNeg then none else if x2 < 0 ∨ 18755 ≤ x2.toNatClampNeg then none else (f7_arithmetic x1 (tr_tF x3.toNatClampNeg) (tr_tF x2.toNatClampNeg)).bind fun r_46 => (f6_constant N r_46 (tr_tK, tr_tF, tr_tS, tr_tT, tr_tO, tr_tN, tr_tc)).bind fun (r_48, (tr_tK_49, tr_tF_50, tr_tS_51, tr_tT_52, tr_tO_53, tr_tN_54, tr_tc_55)) => (f1_push r_48 (fo_fR, fo_fS, fo_fh, fo_fb)).bind fun (fo_fR_57, fo_fS_58, fo_fh_59, fo_fb_60) => some ((fo_fR_57, fo_fS_58, fo_fh_59, fo_fb_60), (tr_tK_49, tr_tF_50, tr_tS_51, tr_tT_52, tr_tO_53, tr_tN_54, tr_tc_55)) else f1_apply_L96 N x1 x2 x3 (fo_fR, fo_fS, fo_fh, fo_fb) (tr_tK, tr_tF, tr_tS, tr_tT, tr_tO, tr_tN, tr_tc)

def f1_apply_L36  (N : Nat)  : Int32 → Int32 → Int32 → FoS → TrS → Option (FoS × TrS)
  | x1, x2, x3, (fo_fR, fo_fS, fo_fh, fo_fb), (tr_tK, tr_tF, tr_tS, tr_tT, tr_tO, tr_tN, tr_tc) =>
    f1_apply_L37 N x1 x2 x3 (0 : Int32) (fo_fR, fo_fS, fo_fh, fo_fb) (tr_tK, tr_tF, tr_tS, tr_tT, tr_tO, tr_tN, tr_tc)
def f1_apply (N : Nat) (v1 : Int32) : FoS → TrS → Option (FoS × TrS)
  | (fo_fR, fo_fS, fo_fh, fo_fb), (tr_tK, tr_tF, tr_tS, tr_tT, tr_tO, tr_tN, tr_tc) =>
    (f1_pop (fo_fR, fo_fS, fo_fh, fo_fb)).bind fun (r_2, (fo_fR_3, fo_fS_4, fo_fh_5, fo_fb_6)) => (f1_pop (fo_fR_3, fo_fS_4, fo_fh_5, fo_fb_6)).bind fun (r_8, (fo_fR_9, fo_fS_10, fo_fh_11, fo_fb_12)) => (f6_isConstant r_8 (tr_tK, tr_tF, tr_tS, tr_tT, tr_tO, tr_tN, tr_tc)).bind fun r_14 => if r_14 = 0 then f1_apply_L36 N v1 r_2 r_8 (fo_fR_9, fo_fS_10, fo_fh_11, fo_fb_12) (tr_tK, tr_tF, tr_tS, tr_tT, tr_tO, tr_tN, tr_tc) else (f6_isConstant r_2 (tr_tK, tr_tF, tr_tS, tr_tT, tr_tO, tr_tN, tr_tc)).bind fun r_62 => if r_62 = 0 then f1_apply_L36 N v1 r_2 r_8 (fo_fR_9, fo_fS_10, fo_fh_11, fo_fb_12) (tr_tK, tr_tF, tr_tS, tr_tT, tr_tO, tr_tN, tr_tc) else f1_apply_L37 N v1 r_2 r_8 (1 : Int32) (fo_fR_9, fo_fS_10, fo_fh_11, fo_fb_12) (tr_tK, tr_tF, tr_tS, tr_tT, tr_tO, tr_tN, tr_tc)
set_option maxHeartbeats 4000000 in
set_option maxRecDepth 100000 in
theorem w1_apply_L96 {V : EV} {p : Program} {l : Launch} {e : Env} {R : Room} {s : State} {m : MethodId} {args : Array Value} {below : List Frame} {meth : Method} {c : Code} {Q : State → Prop} {A : Nat → Prop} {kc ks : Nat} {ad : Nat → Nat} {top : TopS} {rd : RdS} {ra : Int32} {co : Nat → CoS} {mu : MuS} {ma : MaS} {mq : Nat} {mx : MxS}  {N : Nat} {res : FoS × TrS} (C : CX V p l R s m args c A kc ks RX1 cX1_apply 5 3 74) (K : RV V p l e R s m args below meth c Q A kc ks 5 cX1_apply (wC V ad top rd ra co mu res.1 res.2 ma mq mx))  : ∀ (x1 : Int32) (x2 : Int32) (x3 : Int32) (fo_fR : Nat → Int32) (fo_fS : Nat → Int32) (fo_fh : Int32) (fo_fb : Int32) (tr_tK : Nat → Int32) (tr_tF : Nat → Int32) (tr_tS : Nat → Int32) (tr_tT : Nat → Int32) (tr_tO : Nat → Int32) (tr_tN : Nat → Int32) (tr_tc : Int32), f1_apply_L96 N x1 x2 x3 (fo_fR, fo_fS, fo_fh, fo_fb) (tr_tK, tr_tF, tr_tS, tr_tT, tr_tO, tr_tN, tr_tc) = some res → WC V p l e R s m args below meth c Q A kc ks 5 (wC V ad top rd ra co mu (fo_fR, fo_fS, fo_fh, fo_fb) (tr_tK, tr_tF, tr_tS, tr_tT, tr_tO, tr_tN, tr_tc) ma mq mx) 96 [(0, .ref (ad 25)), (1, .int x1), (2, .int x2), (3, .int x3)] [] := by
  intro x1 x2 x3 fo_fR fo_fS fo_fh fo_fb tr_tK tr_tF tr_tS tr_tT tr_tO tr_tN tr_tc hf
  rw [f1_apply_L96] at hf
  refine k_aload_n C dX1_apply_96 0 rfl ?_
  refine k_iload_n C dX1_apply_97 1 rfl ?_
  refine k_iload_n C dX1_apply_98 2 rfl ?_
  obtain ⟨r_16, hq_15, hf⟩ := ob_el hf
  refine k_callVi C (c1_changesNothingOnTheRight C.2.2.2.2.2.2.2.2.2.1 hq_15) cm1_147 ok1_changesNothingOnTheRight (by decide) 25 rfl rfl rfl rfl (Nat.le_of_ble_eq_true rfl) dX1_apply_99 ?_
  refine k_if_eq C 113 dX1_apply_102 (by decide) (fun hc => ?_) (fun hc => ?_)
  · replace hf := (if_pos hc).symm.trans hf
    refine k_aload_n C dX1_apply_113 0 rfl ?_
    refine k_iload_n C dX1_apply_114 1 rfl ?_
    refine k_iload_n C dX1_apply_115 3 rfl ?_
    obtain ⟨r_18, hq_17, hf⟩ := ob_el hf
    refine k_callVi C (c1_changesNothingOnTheLeft C.2.2.2.2.2.2.2.2.2.1 hq_17) cm1_150 ok1_changesNothingOnTheLeft (by decide) 25 rfl rfl rfl rfl (Nat.le_of_ble_eq_true rfl) dX1_apply_116 ?_
    refine k_if_eq C 130 dX1_apply_119 (by decide) (fun hc => ?_) (fun hc => ?_)
    · replace hf := (if_pos hc).symm.trans hf
      refine k_aload_n C dX1_apply_130 0 rfl ?_
      refine k_aload_n C dX1_apply_131 0 rfl ?_
      refine g1_12 C dX1_apply_132 ?_
      refine k_iconst (v := (3 : Int32)) C dX1_apply_135 (by decide) ?_
      refine k_iload_n C dX1_apply_136 1 rfl ?_
      refine k_iload_n C dX1_apply_137 3 rfl ?_
      refine k_iload_n C dX1_apply_138 2 rfl ?_
      obtain ⟨⟨r_20, ⟨tr_tK_21, tr_tF_22, tr_tS_23, tr_tT_24, tr_tO_25, tr_tN_26, tr_tc_27⟩⟩, hq_19, hf⟩ := ob_el hf
      dsimp only at hf
      refine k_callVi C (c6_of C.2.2.2.2.2.2.2.2.2.1 hq_19) cm1_108 ok6_of (by decide) 26 rfl rfl rfl rfl (Nat.le_of_ble_eq_true rfl) dX1_apply_139 ?_
      obtain ⟨⟨fo_fR_29, fo_fS_30, fo_fh_31, fo_fb_32⟩, hq_28, hf⟩ := ob_el hf
      dsimp only at hf
      refine k_callVv C (c1_push C.2.2.2.2.2.2.2.2.2.1 hq_28) cm1_105 ok1_push (by decide) 25 rfl rfl rfl rfl (Nat.le_of_ble_eq_true rfl) dX1_apply_142 ?_
      cases hf
      exact K _ _ dX1_apply_145
    · replace hf := (if_neg hc).symm.trans hf
      refine k_aload_n C dX1_apply_122 0 rfl ?_
      refine k_iload_n C dX1_apply_123 2 rfl ?_
      obtain ⟨⟨fo_fR_34, fo_fS_35, fo_fh_36, fo_fb_37⟩, hq_33, hf⟩ := ob_el hf
      dsimp only at hf
      refine k_callVv C (c1_push C.2.2.2.2.2.2.2.2.2.1 hq_33) cm1_105 ok1_push (by decide) 25 rfl rfl rfl rfl (Nat.le_of_ble_eq_true rfl) dX1_apply_124 ?_
      refine k_goto C 145 dX1_apply_127 (by decide) ?_
      cases hf
      exact K _ _ dX1_apply_145
  · replace hf := (if_neg hc).symm.trans hf
    refine k_aload_n C dX1_apply_105 0 rfl ?_
    refine k_iload_n C dX1_apply_106 3 rfl ?_
    obtain ⟨⟨fo_fR_39, fo_fS_40, fo_fh_41, fo_fb_42⟩, hq_38, hf⟩ := ob_el hf
    dsimp only at hf
    refine k_callVv C (c1_push C.2.2.2.2.2.2.2.2.2.1 hq_38) cm1_105 ok1_push (by decide) 25 rfl rfl rfl rfl (Nat.le_of_ble_eq_true rfl) dX1_apply_107 ?_
    refine k_goto C 145 dX1_apply_110 (by decide) ?_
    cases hf
    exact K _ _ dX1_apply_145

set_option maxHeartbeats 4000000 in
set_option maxRecDepth 100000 in
theorem w1_apply_L37 {V : EV} {p : Program} {l : Launch} {e : Env} {R : Room} {s : State} {m : MethodId} {args : Array Value} {below : List Frame} {meth : Method} {c : Code} {Q : State → Prop} {A : Nat → Prop} {kc ks : Nat} {ad : Nat → Nat} {top : TopS} {rd : RdS} {ra : Int32} {co : Nat → CoS} {mu : MuS} {ma : MaS} {mq : Nat} {mx : MxS}  {N : Nat} {res : FoS × TrS} (C : CX V p l R s m args c A kc ks RX1 cX1_apply 5 3 74) (K : RV V p l e R s m args below meth c Q A kc ks 5 cX1_apply (wC V ad top rd ra co mu res.1 res.2 ma mq mx))  : ∀ (x1 : Int32) (x2 : Int32) (x3 : Int32) (y0 : Int32) (fo_fR : Nat → Int32) (fo_fS : Nat → Int32) (fo_fh : Int32) (fo_fb : Int32) (tr_tK : Nat → Int32) (tr_tF : Nat → Int32) (tr_tS : Nat → Int32) (tr_tT : Nat → Int32) (tr_tO : Nat → Int32) (tr_tN : Nat → Int32) (tr_tc : Int32), f1_apply_L37 N x1 x2 x3 y0 (fo_fR, fo_fS, fo_fh, fo_fb) (tr_tK, tr_tF, tr_tS, tr_tT, tr_tO, tr_tN, tr_tc) = some res → WC V p l e R s m args below meth c Q A kc ks 5 (wC V ad top rd ra co mu (fo_fR, fo_fS, fo_fh, fo_fb) (tr_tK, tr_tF, tr_tS, tr_tT, tr_tO, tr_tN, tr_tc) ma mq mx) 37 [(0, .ref (ad 25)), (1, .int x1), (2, .int x2), (3, .int x3)] [.int y0] := by
  intro x1 x2 x3 y0 fo_fR fo_fS fo_fh fo_fb tr_tK tr_tF tr_tS tr_tT tr_tO tr_tN tr_tc hf
  rw [f1_apply_L37] at hf
  refine k_istore C dX1_apply_37 [(4, .int y0), (0, .ref (ad 25)), (1, .int x1), (2, .int x2), (3, .int x3)] (by decide) rfl ?_
  refine k_iload C dX1_apply_39 0 rfl ?_
  refine k_if_eq C 96 dX1_apply_41 (by decide) (fun hc => ?_) (fun hc => ?_)
  · replace hf := (if_pos hc).symm.trans hf
    refine k_sub [1, 2, 3, 4] (L' := [(0, .ref (ad 25)), (1, .int x1), (2, .int x2), (3, .int x3)]) rfl ?_
    exact w1_apply_L96 C K _ _ _ _ _ _ _ _ _ _ _ _ _ _ hf
  · replace hf := (if_neg hc).symm.trans hf
    refine k_iload_n C dX1_apply_44 2 rfl ?_
    refine k_aload_n C dX1_apply_45 1 rfl ?_
    refine g1_12 C dX1_apply_46 ?_
    refine g1_130 C dX1_apply_49 ?_
    refine k_iload_n C dX1_apply_52 3 rfl ?_
    obtain ⟨hi, hf⟩ := gd_no hf
    refine lc28 C hi dX1_apply_53 ?_
    obtain ⟨r_44, hq_43, hf⟩ := ob_el hf
    refine k_callNi C (c7_traps C.2.2.2.2.2.2.2.2.2.1 hq_43) nw1_140 cn7_traps ok7_traps (by decide) rfl rfl (Nat.le_of_ble_eq_true rfl) dX1_apply_54 ?_
    refine k_if_ne C 96 dX1_apply_57 (by decide) (fun hc => ?_) (fun hc => ?_)
    · replace hf := (if_neg hc).symm.trans hf
      refine k_sub [1, 2, 3, 4] (L' := [(0, .ref (ad 25)), (1, .int x1), (2, .int x2), (3, .int x3)]) rfl ?_
      exact w1_apply_L96 C K _ _ _ _ _ _ _ _ _ _ _ _ _ _ hf
    · replace hf := (if_pos hc).symm.trans hf
      refine k_aload_n C dX1_apply_60 1 rfl ?_
      refine k_aload_n C dX1_apply_61 1 rfl ?_
      refine g1_12 C dX1_apply_62 ?_
      refine k_iload_n C dX1_apply_65 2 rfl ?_
      refine k_aload_n C dX1_apply_66 1 rfl ?_
      refine g1_12 C dX1_apply_67 ?_
      refine g1_130 C dX1_apply_70 ?_
      refine k_iload_n C dX1_apply_73 4 rfl ?_
      obtain ⟨hi, hf⟩ := gd_no hf
      refine lc28 C hi dX1_apply_74 ?_
      refine k_aload_n C dX1_apply_75 1 rfl ?_
      refine g1_12 C dX1_apply_76 ?_
      refine g1_130 C dX1_apply_79 ?_
      refine k_iload_n C dX1_apply_82 3 rfl ?_
      obtain ⟨hi, hf⟩ := gd_no hf
      refine lc28 C hi dX1_apply_83 ?_
      obtain ⟨r_46, hq_45, hf⟩ := ob_el hf
      refine k_callNi C (c7_arithmetic C.2.2.2.2.2.2.2.2.2.1 hq_45) nw1_144 cn7_arithmetic ok7_arithmetic (by decide) rfl rfl (Nat.le_of_ble_eq_true rfl) dX1_apply_84 ?_
      obtain ⟨⟨r_48, ⟨tr_tK_49, tr_tF_50, tr_tS_51, tr_tT_52, tr_tO_53, tr_tN_54, tr_tc_55⟩⟩, hq_47, hf⟩ := ob_el hf
      dsimp only at hf
      refine k_callVi C (c6_constant C.2.2.2.2.2.2.2.2.2.1 hq_47) cm1_102 ok6_constant (by decide) 26 rfl rfl rfl rfl (Nat.le_of_ble_eq_true rfl) dX1_apply_87 ?_
      obtain ⟨⟨fo_fR_57, fo_fS_58, fo_fh_59, fo_fb_60⟩, hq_56, hf⟩ := ob_el hf
      dsimp only at hf
      refine k_callVv C (c1_push C.2.2.2.2.2.2.2.2.2.1 hq_56) cm1_105 ok1_push (by decide) 25 rfl rfl rfl rfl (Nat.le_of_ble_eq_true rfl) dX1_apply_90 ?_
      refine k_goto C 145 dX1_apply_93 (by decide) ?_
      cases hf
      exact K _ _ dX1_apply_145

set_option maxHeartbeats 4000000 in
set_option maxRecDepth 100000 in
theorem w1_apply_L36 {V : EV} {p : Program} {l : Launch} {e : Env} {R : Room} {s : State} {m : MethodId} {args : Array Value} {below : List Frame} {meth : Method} {c : Code} {Q : State → Prop} {A : Nat → Prop} {kc ks : Nat} {ad : Nat → Nat} {top : TopS} {rd : RdS} {ra : Int32} {co : Nat → CoS} {mu : MuS} {ma : MaS} {mq : Nat} {mx : MxS}  {N : Nat} {res : FoS × TrS} (C : CX V p l R s m args c A kc ks RX1 cX1_apply 5 3 74) (K : RV V p l e R s m args below meth c Q A kc ks 5 cX1_apply (wC V ad top rd ra co mu res.1 res.2 ma mq mx))  : ∀ (x1 : Int32) (x2 : Int32) (x3 : Int32) (fo_fR : Nat → Int32) (fo_fS : Nat → Int32) (fo_fh : Int32) (fo_fb : Int32) (tr_tK : Nat → Int32) (tr_tF : Nat → Int32) (tr_tS : Nat → Int32) (tr_tT : Nat → Int32) (tr_tO : Nat → Int32) (tr_tN : Nat → Int32) (tr_tc : Int32), f1_apply_L36 N x1 x2 x3 (fo_fR, fo_fS, fo_fh, fo_fb) (tr_tK, tr_tF, tr_tS, tr_tT, tr_tO, tr_tN, tr_tc) = some res → WC V p l e R s m args below meth c Q A kc ks 5 (wC V ad top rd ra co mu (fo_fR, fo_fS, fo_fh, fo_fb) (tr_tK, tr_tF, tr_tS, tr_tT, tr_tO, tr_tN, tr_tc) ma mq mx) 36 [(0, .ref (ad 25)), (1, .int x1), (2, .int x2), (3, .int x3)] [] := by
  intro x1 x2 x3 fo_fR fo_fS fo_fh fo_fb tr_tK tr_tF tr_tS tr_tT tr_tO tr_tN tr_tc hf
  rw [f1_apply_L36] at hf
  refine k_iconst (v := (0 : Int32)) C dX1_apply_36 (by decide) ?_
  exact w1_apply_L37 C K _ _ _ _ _ _ _ _ _ _ _ _ _ _ _ hf
set_option maxHeartbeats 4000000 in
set_option maxRecDepth 100000 in
theorem b1_apply {V : EV} {p : Program} {l : Launch} {e : Env} {R : Room} {s : State} {m : MethodId} {args : Array Value} {below : List Frame} {meth : Method} {c : Code} {Q : State → Prop} {A : Nat → Prop} {kc ks : Nat} {ad : Nat → Nat} {top : TopS} {rd : RdS} {ra : Int32} {co : Nat → CoS} {mu : MuS} {ma : MaS} {mq : Nat} {mx : MxS} {v1 : Int32} {fo_fR : Nat → Int32} {fo_fS : Nat → Int32} {fo_fh : Int32} {fo_fb : Int32} {tr_tK : Nat → Int32} {tr_tF : Nat → Int32} {tr_tS : Nat → Int32} {tr_tT : Nat → Int32} {tr_tO : Nat → Int32} {tr_tN : Nat → Int32} {tr_tc : Int32} {N : Nat} {res : FoS × TrS} (C : CX V p l R s m args c A kc ks RX1 cX1_apply 5 3 74) (hf : f1_apply N v1 (fo_fR, fo_fS, fo_fh, fo_fb) (tr_tK, tr_tF, tr_tS, tr_tT, tr_tO, tr_tN, tr_tc) = some res) (K : RV V p l e R s m args below meth c Q A kc ks 5 cX1_apply (wC V ad top rd ra co mu res.1 res.2 ma mq mx)) : WC V p l e R s m args below meth c Q A kc ks 5 (wC V ad top rd ra co mu (fo_fR, fo_fS, fo_fh, fo_fb) (tr_tK, tr_tF, tr_tS, tr_tT, tr_tO, tr_tN, tr_tc) ma mq mx) 0 [(0, .ref (ad 25)), (1, .int v1)] [] := by
  rw [f1_apply] at hf
  refine k_aload_n C dX1_apply_0 0 rfl ?_
  obtain ⟨⟨r_2, ⟨fo_fR_3, fo_fS_4, fo_fh_5, fo_fb_6⟩⟩, hq_1, hf⟩ := ob_el hf
  dsimp only at hf
  refine k_callVi C (c1_pop C.2.2.2.2.2.2.2.2.2.1 hq_1) cm1_88 ok1_pop (by decide) 25 rfl rfl rfl rfl (Nat.le_of_ble_eq_true rfl) dX1_apply_1 ?_
  refine k_istore_n C dX1_apply_4 [(2, .int r_2), (0, .ref (ad 25)), (1, .int v1)] (by decide) rfl ?_
  refine k_aload_n C dX1_apply_5 1 rfl ?_
  obtain ⟨⟨r_8, ⟨fo_fR_9, fo_fS_10, fo_fh_11, fo_fb_12⟩⟩, hq_7, hf⟩ := ob_el hf
  dsimp only at hf
  refine k_callVi C (c1_pop C.2.2.2.2.2.2.2.2.2.1 hq_7) cm1_88 ok1_pop (by decide) 25 rfl rfl rfl rfl (Nat.le_of_ble_eq_true rfl) dX1_apply_6 ?_
  refine k_istore_n C dX1_apply_9 [(3, .int r_8), (2, .int r_2), (0, .ref (ad 25)), (1, .int v1)] (by decide) rfl ?_
  refine k_aload_n C dX1_apply_10 2 rfl ?_
  refine g1_12 C dX1_apply_11 ?_
  refine k_iload_n C dX1_apply_14 0 rfl ?_
  obtain ⟨r_14, hq_13, hf⟩ := ob_el hf
  refine k_callVi C (c6_isConstant C.2.2.2.2.2.2.2.2.2.1 hq_13) cm1_136 ok6_isConstant (by decide) 26 rfl rfl rfl rfl (Nat.le_of_ble_eq_true rfl) dX1_apply_15 ?_
  refine k_if_eq C 36 dX1_apply_18 (by decide) (fun hc => ?_) (fun hc => ?_)
  · replace hf := (if_pos hc).symm.trans hf
    refine k_sub [2, 3, 1, 0] (L' := [(0, .ref (ad 25)), (1, .int v1), (2, .int r_2), (3, .int r_8)]) rfl ?_
    exact w1_apply_L36 C K _ _ _ _ _ _ _ _ _ _ _ _ _ _ hf
  · replace hf := (if_neg hc).symm.trans hf
    refine k_aload_n C dX1_apply_21 2 rfl ?_
    refine g1_12 C dX1_apply_22 ?_
    refine k_iload_n C dX1_apply_25 1 rfl ?_
    obtain ⟨r_62, hq_61, hf⟩ := ob_el hf
    refine k_callVi C (c6_isConstant C.2.2.2.2.2.2.2.2.2.1 hq_61) cm1_136 ok6_isConstant (by decide) 26 rfl rfl rfl rfl (Nat.le_of_ble_eq_true rfl) dX1_apply_26 ?_
    refine k_if_eq C 36 dX1_apply_29 (by decide) (fun hc => ?_) (fun hc => ?_)
    · replace hf := (if_pos hc).symm.trans hf
      refine k_sub [2, 3, 1, 0] (L' := [(0, .ref (ad 25)), (1, .int v1), (2, .int r_2), (3, .int r_8)]) rfl ?_
      exact w1_apply_L36 C K _ _ _ _ _ _ _ _ _ _ _ _ _ _ hf
    · replace hf := (if_neg hc).symm.trans hf
      refine k_iconst (v := (1 : Int32)) C dX1_apply_32 (by decide) ?_
      refine k_goto C 37 dX1_apply_33 (by decide) ?_
      refine k_sub [2, 3, 1, 0] (L' := [(0, .ref (ad 25)), (1, .int v1), (2, .int r_2), (3, .int r_8)]) rfl ?_
      exact w1_apply_L37 C K _ _ _ _ _ _ _ _ _ _ _ _ _ _ _ hf
theorem c1_apply {V : EV} {l : Launch} (hl0 : l.stackTraces = false) {ad : Nat → Nat} {top : TopS} {rd : RdS} {ra : Int32} {co : Nat → CoS} {mu : MuS} {ma : MaS} {mq : Nat} {mx : MxS} {v1 : Int32} {fo_fR : Nat → Int32} {fo_fS : Nat → Int32} {fo_fh : Int32} {fo_fb : Int32} {tr_tK : Nat → Int32} {tr_tF : Nat → Int32} {tr_tS : Nat → Int32} {tr_tT : Nat → Int32} {tr_tO : Nat → Int32} {tr_tN : Nat → Int32} {tr_tc : Int32} {N : Nat} {res : FoS × TrS} (hf : f1_apply N v1 (fo_fR, fo_fS, fo_fh, fo_fb) (tr_tK, tr_tF, tr_tS, tr_tT, tr_tO, tr_tN, tr_tc) = some res) : MV V l yX1_apply cX1_apply 5 3 74 [.ref (ad 25), .int v1] (wC V ad top rd ra co mu (fo_fR, fo_fS, fo_fh, fo_fb) (tr_tK, tr_tF, tr_tS, tr_tT, tr_tO, tr_tN, tr_tc) ma mq mx) (wC V ad top rd ra co mu res.1 res.2 ma mq mx) :=
  mv_of hl0 (by decide +kernel) (Nat.le_of_ble_eq_true rfl) (fun p e R s m args below meth c Q A C K => b1_apply C hf K)

theorem nw1_156 : (RX1, 156, yX7_comparison) ∈ nwl := by decide +kernel
theorem cn7_comparison : ∀ a ∈ wsCN yX7_comparison cX7_comparison 3 (some .boolean), a ∈ GW := by
  unfold wsCN
  exact (List.forall_mem_cons.mpr ⟨(gw_4 (i := 31) (by decide +kernel) rfl), (List.forall_mem_cons.mpr ⟨(gw_1 (i := 1) (by decide +kernel) rfl), (List.forall_mem_cons.mpr ⟨(gw_4 (i := 32) (by decide +kernel) rfl), (List.forall_mem_nil _)⟩)⟩)⟩)
theorem ok1_compare : okCV RX1 yX1_compare 1 := by unfold okCV; decide +kernel
def f1_compare_L73  (N : Nat)  : Int32 → Int32 → Int32 → FoS → TrS → Option (FoS × TrS)
  | x1, x2, x3, (fo_fR, fo_fS, fo_fh, fo_fb), (tr_tK, tr_tF, tr_tS, tr_tT, tr_tO, tr_tN, tr_tc) =>
    (f6_of N (3 : Int32) x1 x3 x2 (tr_tK, tr_tF, tr_tS, tr_tT, tr_tO, tr_tN, tr_tc)).bind fun (r_16, (tr_tK_17, tr_tF_18, tr_tS_19, tr_tT_20, tr_tO_21, tr_tN_22, tr_tc_23)) => (f1_push r_16 (fo_fR, fo_fS, fo_fh, fo_fb)).bind fun (fo_fR_25, fo_fS_26, fo_fh_27, fo_fb_28) => some ((fo_fR_25, fo_fS_26, fo_fh_27, fo_fb_28), (tr_tK_17, tr_tF_18, tr_tS_19, tr_tT_20, tr_tO_21, tr_tN_22, tr_tc_23))
def f1_compare (N : Nat) (v1 : Int32) : FoS → TrS → Option (FoS × TrS)
  | (fo_fR, fo_fS, fo_fh, fo_fb), (tr_tK, tr_tF, tr_tS, tr_tT, tr_tO, tr_tN, tr_tc) =>
    (f1_pop (fo_fR, fo_fS, fo_fh, fo_fb)).bind fun (r_2, (fo_fR_3, fo_fS_4, fo_fh_5, fo_fb_6)) => (f1_pop (fo_fR_3, fo_fS_4, fo_fh_5, fo_fb_6)).bind fun (r_8, (fo_fR_9, fo_fS_10, fo_fh_11, fo_fb_12)) => (f6_isConstant r_8 (tr_tK, tr_tF, tr_tS, tr_tT, tr_tO, tr_tN, tr_tc)).bind fun r_14 => if r_14 = 0 then f1_compare_L73 N v1 r_2 r_8 (fo_fR_9, fo_fS_10, fo_fh_11, fo_fb_12) (tr_tK, tr_tF, tr_tS, tr_tT, tr_tO, tr_tN, tr_tc) else (f6_isConstant r_2 (tr_tK, tr_tF, tr_tS, tr_tT, tr_tO, tr_tN, tr_tc)).bind fun r_30 => if r_30 = 0 then f1_compare_L73 N v1 r_2 r_8 (fo_fR_9, fo_fS_10, fo_fh_11, fo_fb_12) (tr_tK, tr_tF, tr_tS, tr_tT, tr_tO, tr_tN, tr_tc) else if r_8 < 0 ∨ 18755 ≤ r_8.toNatClampNeg then none else if r_2 < 0 ∨ 18755 ≤ r_2.toNatClampNeg then none else (f7_comparison v1 (tr_tF r_8.toNatClampNeg) (tr_tF r_2.toNatClampNeg)).bind fun r_32 => if r_32 = 0 then (f1_push (3 : Int32) (fo_fR_9, fo_fS_10, fo_fh_11, fo_fb_12)).bind fun (fo_fR_34, fo_fS_35, fo_fh_36, fo_fb_37) => some ((fo_fR_34, fo_fS_35, fo_fh_36, fo_fb_37), (tr_tK, tr_tF, tr_tS, tr_tT, tr_tO, tr_tN, tr_tc)) else (f1_push (2 : Int32) (fo_fR_9, fo_fS_10, fo_fh_11, fo_fb_12)).bind fun (fo_fR_39, fo_fS_40, fo_fh_41, fo_fb_42) => some ((fo_fR_39, fo_fS_40, fo_fh_41, fo_fb_42), (tr_tK, tr_tF, tr_tS, tr_tT, tr_tO, tr_tN, tr_tc))
set_option maxHeartbeats 4000000 in
set_option maxRecDepth 100000 in
theorem w1_compare_L73 {V : EV} {p : Program} {l : Launch} {e : Env} {R : Room} {s : State} {m : MethodId} {args : Array Value} {below : List Frame} {meth : Method} {c : Code} {Q : State → Prop} {A : Nat → Prop} {kc ks : Nat} {ad : Nat → Nat} {top : TopS} {rd : RdS} {ra : Int32} {co : Nat → CoS} {mu : MuS} {ma : MaS} {mq : Nat} {mx : MxS}  {N : Nat} {res : FoS × TrS} (C : CX V p l R s m args c A kc ks RX1 cX1_compare 5 2 53) (K : RV V p l e R s m args below meth c Q A kc ks 5 cX1_compare (wC V ad top rd ra co mu res.1 res.2 ma mq mx))  : ∀ (x1 : Int32) (x2 : Int32) (x3 : Int32) (fo_fR : Nat → Int32) (fo_fS : Nat → Int32) (fo_fh : Int32) (fo_fb : Int32) (tr_tK : Nat → Int32) (tr_tF : Nat → Int32) (tr_tS : Nat → Int32) (tr_tT : Nat → Int32) (tr_tO : Nat → Int32) (tr_tN : Nat → Int32) (tr_tc : Int32), f1_compare_L73 N x1 x2 x3 (fo_fR, fo_fS, fo_fh, fo_fb) (tr_tK, tr_tF, tr_tS, tr_tT, tr_tO, tr_tN, tr_tc) = some res → WC V p l e R s m args below meth c Q A kc ks 5 (wC V ad top rd ra co mu (fo_fR, fo_fS, fo_fh, fo_fb) (tr_tK, tr_tF, tr_tS, tr_tT, tr_tO, tr_tN, tr_tc) ma mq mx) 73 [(0, .ref (ad 25)), (1, .int x1), (2, .int x2), (3, .int x3)] [] := by
  intro x1 x2 x3 fo_fR fo_fS fo_fh fo_fb tr_tK tr_tF tr_tS tr_tT tr_tO tr_tN tr_tc hf
  rw [f1_compare_L73] at hf
  refine k_aload_n C dX1_compare_73 0 rfl ?_
  refine k_aload_n C dX1_compare_74 0 rfl ?_
  refine g1_12 C dX1_compare_75 ?_
  refine k_iconst (v := (3 : Int32)) C dX1_compare_78 (by decide) ?_
  refine k_iload_n C dX1_compare_79 1 rfl ?_
  refine k_iload_n C dX1_compare_80 3 rfl ?_
  refine k_iload_n C dX1_compare_81 2 rfl ?_
  obtain ⟨⟨r_16, ⟨tr_tK_17, tr_tF_18, tr_tS_19, tr_tT_20, tr_tO_21, tr_tN_22, tr_tc_23⟩⟩, hq_15, hf⟩ := ob_el hf
  dsimp only at hf
  refine k_callVi C (c6_of C.2.2.2.2.2.2.2.2.2.1 hq_15) cm1_108 ok6_of (by decide) 26 rfl rfl rfl rfl (Nat.le_of_ble_eq_true rfl) dX1_compare_82 ?_
  obtain ⟨⟨fo_fR_25, fo_fS_26, fo_fh_27, fo_fb_28⟩, hq_24, hf⟩ := ob_el hf
  dsimp only at hf
  refine k_callVv C (c1_push C.2.2.2.2.2.2.2.2.2.1 hq_24) cm1_105 ok1_push (by decide) 25 rfl rfl rfl rfl (Nat.le_of_ble_eq_true rfl) dX1_compare_85 ?_
  cases hf
  exact K _ _ dX1_compare_88
set_option maxHeartbeats 4000000 in
set_option maxRecDepth 100000 in
theorem b1_compare {V : EV} {p : Program} {l : Launch} {e : Env} {R : Room} {s : State} {m : MethodId} {args : Array Value} {below : List Frame} {meth : Method} {c : Code} {Q : State → Prop} {A : Nat → Prop} {kc ks : Nat} {ad : Nat → Nat} {top : TopS} {rd : RdS} {ra : Int32} {co : Nat → CoS} {mu : MuS} {ma : MaS} {mq : Nat} {mx : MxS} {v1 : Int32} {fo_fR : Nat → Int32} {fo_fS : Nat → Int32} {fo_fh : Int32} {fo_fb : Int32} {tr_tK : Nat → Int32} {tr_tF : Nat → Int32} {tr_tS : Nat → Int32} {tr_tT : Nat → Int32} {tr_tO : Nat → Int32} {tr_tN : Nat → Int32} {tr_tc : Int32} {N : Nat} {res : FoS × TrS} (C : CX V p l R s m args c A kc ks RX1 cX1_compare 5 2 53) (hf : f1_compare N v1 (fo_fR, fo_fS, fo_fh, fo_fb) (tr_tK, tr_tF, tr_tS, tr_tT, tr_tO, tr_tN, tr_tc) = some res) (K : RV V p l e R s m args below meth c Q A kc ks 5 cX1_compare (wC V ad top rd ra co mu res.1 res.2 ma mq mx)) : WC V p l e R s m args below meth c Q A kc ks 5 (wC V ad top rd ra co mu (fo_fR, fo_fS, fo_fh, fo_fb) (tr_tK, tr_tF, tr_tS, tr_tT, tr_tO, tr_tN, tr_tc) ma mq mx) 0 [(0, .ref (ad 25)), (1, .int v1)] [] := by
  rw [f1_compare] at hf
  refine k_aload_n C dX1_compare_0 0 rfl ?_
  obtain ⟨⟨r_2, ⟨fo_fR_3, fo_fS_4, fo_fh_5, fo_fb_6⟩⟩, hq_1, hf⟩ := ob_el hf
  dsimp only at hf
  refine k_callVi C (c1_pop C.2.2.2.2.2.2.2.2.2.1 hq_1) cm1_88 ok1_pop (by decide) 25 rfl rfl rfl rfl (Nat.le_of_ble_eq_true rfl) dX1_compare_1 ?_
  refine k_istore_n C dX1_compare_4 [(2, .int r_2), (0, .ref (ad 25)), (1, .int v1)] (by decide) rfl ?_
  refine k_aload_n C dX1_compare_5 1 rfl ?_
  obtain ⟨⟨r_8, ⟨fo_fR_9, fo_fS_10, fo_fh_11, fo_fb_12⟩⟩, hq_7, hf⟩ := ob_el hf
  dsimp only at hf
  refine k_callVi C (c1_pop C.2.2.2.2.2.2.2.2.2.1 hq_7) cm1_88 ok1_pop (by decide) 25 rfl rfl rfl rfl (Nat.le_of_ble_eq_true rfl) dX1_compare_6 ?_
  refine k_istore_n C dX1_compare_9 [(3, .int r_8), (2, .int r_2), (0, .ref (ad 25)), (1, .int v1)] (by decide) rfl ?_
  refine k_aload_n C dX1_compare_10 2 rfl ?_
  refine g1_12 C dX1_compare_11 ?_
  refine k_iload_n C dX1_compare_14 0 rfl ?_
  obtain ⟨r_14, hq_13, hf⟩ := ob_el hf
  refine k_callVi C (c6_isConstant C.2.2.2.2.2.2.2.2.2.1 hq_13) cm1_136 ok6_isConstant (by decide) 26 rfl rfl rfl rfl (Nat.le_of_ble_eq_true rfl) dX1_compare_15 ?_
  refine k_if_eq C 73 dX1_compare_18 (by decide) (fun hc => ?_) (fun hc => ?_)
  · replace hf := (if_pos hc).symm.trans hf
    refine k_sub [2, 3, 1, 0] (L' := [(0, .ref (ad 25)), (1, .int v1), (2, .int r_2), (3, .int r_8)]) rfl ?_
    exact w1_compare_L73 C K _ _ _ _ _ _ _ _ _ _ _ _ _ _ hf
  · replace hf := (if_neg hc).symm.trans hf
    refine k_aload_n C dX1_compare_21 2 rfl ?_
    refine g1_12 C dX1_compare_22 ?_
    refine k_iload_n C dX1_compare_25 1 rfl ?_
    obtain ⟨r_30, hq_29, hf⟩ := ob_el hf
    refine k_callVi C (c6_isConstant C.2.2.2.2.2.2.2.2.2.1 hq_29) cm1_136 ok6_isConstant (by decide) 26 rfl rfl rfl rfl (Nat.le_of_ble_eq_true rfl) dX1_compare_26 ?_
    refine k_if_eq C 73 dX1_compare_29 (by decide) (fun hc => ?_) (fun hc => ?_)
    · replace hf := (if_pos hc).symm.trans hf
      refine k_sub [2, 3, 1, 0] (L' := [(0, .ref (ad 25)), (1, .int v1), (2, .int r_2), (3, .int r_8)]) rfl ?_
      exact w1_compare_L73 C K _ _ _ _ _ _ _ _ _ _ _ _ _ _ hf
    · replace hf := (if_neg hc).symm.trans hf
      refine k_iload_n C dX1_compare_32 3 rfl ?_
      refine k_aload_n C dX1_compare_33 2 rfl ?_
      refine g1_12 C dX1_compare_34 ?_
      refine g1_130 C dX1_compare_37 ?_
      refine k_iload_n C dX1_compare_40 0 rfl ?_
      obtain ⟨hi, hf⟩ := gd_no hf
      refine lc28 C hi dX1_compare_41 ?_
      refine k_aload_n C dX1_compare_42 2 rfl ?_
      refine g1_12 C dX1_compare_43 ?_
      refine g1_130 C dX1_compare_46 ?_
      refine k_iload_n C dX1_compare_49 1 rfl ?_
      obtain ⟨hi, hf⟩ := gd_no hf
      refine lc28 C hi dX1_compare_50 ?_
      obtain ⟨r_32, hq_31, hf⟩ := ob_el hf
      refine k_callNi C (c7_comparison C.2.2.2.2.2.2.2.2.2.1 hq_31) nw1_156 cn7_comparison ok7_comparison (by decide) rfl rfl (Nat.le_of_ble_eq_true rfl) dX1_compare_51 ?_
      refine k_istore C dX1_compare_54 [(4, .int r_32), (3, .int r_8), (2, .int r_2), (0, .ref (ad 25)), (1, .int v1)] (by decide) rfl ?_
      refine k_aload_n C dX1_compare_56 3 rfl ?_
      refine k_iload C dX1_compare_57 0 rfl ?_
      refine k_if_eq C 66 dX1_compare_59 (by decide) (fun hc => ?_) (fun hc => ?_)
      · replace hf := (if_pos hc).symm.trans hf
        refine k_iconst (v := (3 : Int32)) C dX1_compare_66 (by decide) ?_
        obtain ⟨⟨fo_fR_34, fo_fS_35, fo_fh_36, fo_fb_37⟩, hq_33, hf⟩ := ob_el hf
        dsimp only at hf
        refine k_callVv C (c1_push C.2.2.2.2.2.2.2.2.2.1 hq_33) cm1_105 ok1_push (by decide) 25 rfl rfl rfl rfl (Nat.le_of_ble_eq_true rfl) dX1_compare_67 ?_
        refine k_goto C 88 dX1_compare_70 (by decide) ?_
        cases hf
        exact K _ _ dX1_compare_88
      · replace hf := (if_neg hc).symm.trans hf
        refine k_iconst (v := (2 : Int32)) C dX1_compare_62 (by decide) ?_
        refine k_goto C 67 dX1_compare_63 (by decide) ?_
        obtain ⟨⟨fo_fR_39, fo_fS_40, fo_fh_41, fo_fb_42⟩, hq_38, hf⟩ := ob_el hf
        dsimp only at hf
        refine k_callVv C (c1_push C.2.2.2.2.2.2.2.2.2.1 hq_38) cm1_105 ok1_push (by decide) 25 rfl rfl rfl rfl (Nat.le_of_ble_eq_true rfl) dX1_compare_67 ?_
        refine k_goto C 88 dX1_compare_70 (by decide) ?_
        cases hf
        exact K _ _ dX1_compare_88
theorem c1_compare {V : EV} {l : Launch} (hl0 : l.stackTraces = false) {ad : Nat → Nat} {top : TopS} {rd : RdS} {ra : Int32} {co : Nat → CoS} {mu : MuS} {ma : MaS} {mq : Nat} {mx : MxS} {v1 : Int32} {fo_fR : Nat → Int32} {fo_fS : Nat → Int32} {fo_fh : Int32} {fo_fb : Int32} {tr_tK : Nat → Int32} {tr_tF : Nat → Int32} {tr_tS : Nat → Int32} {tr_tT : Nat → Int32} {tr_tO : Nat → Int32} {tr_tN : Nat → Int32} {tr_tc : Int32} {N : Nat} {res : FoS × TrS} (hf : f1_compare N v1 (fo_fR, fo_fS, fo_fh, fo_fb) (tr_tK, tr_tF, tr_tS, tr_tT, tr_tO, tr_tN, tr_tc) = some res) : MV V l yX1_compare cX1_compare 5 2 53 [.ref (ad 25), .int v1] (wC V ad top rd ra co mu (fo_fR, fo_fS, fo_fh, fo_fb) (tr_tK, tr_tF, tr_tS, tr_tT, tr_tO, tr_tN, tr_tc) ma mq mx) (wC V ad top rd ra co mu res.1 res.2 ma mq mx) :=
  mv_of hl0 (by decide +kernel) (Nat.le_of_ble_eq_true rfl) (fun p e R s m args below meth c Q A C K => b1_compare C hf K)

theorem ok1_join : okCV RX1 yX1_join 1 := by unfold okCV; decide +kernel
def f1_join_L34  (N : Nat)  : Int32 → Int32 → Int32 → Int32 → Int32 → FoS → TrS → Option (FoS × TrS)
  | x1, x2, x3, x4, y0, (fo_fR, fo_fS, fo_fh, fo_fb), (tr_tK, tr_tF, tr_tS, tr_tT, tr_tO, tr_tN, tr_tc) =>
    if x3 = x4 then (f1_push x2 (fo_fR, fo_fS, fo_fh, fo_fb)).bind fun (fo_fR_38, fo_fS_39, fo_fh_40, fo_fb_41) => some ((fo_fR_38, fo_fS_39, fo_fh_40, fo_fb_41), (tr_tK, tr_tF, tr_tS, tr_tT, tr_tO, tr_tN, tr_tc)) else if x3 = y0 then (f1_push x3 (fo_fR, fo_fS, fo_fh, fo_fb)).bind fun (fo_fR_14, fo_fS_15, fo_fh_16, fo_fb_17) => some ((fo_fR_14, fo_fS_15, fo_fh_16, fo_fb_17), (tr_tK, tr_tF, tr_tS, tr_tT, tr_tO, tr_tN, tr_tc)) else if x2 = x4 then (f1_push x3 (fo_fR, fo_fS, fo_fh, fo_fb)).bind fun (fo_fR_33, fo_fS_34, fo_fh_35, fo_fb_36) => some ((fo_fR_33, fo_fS_34, fo_fh_35, fo_fb_36), (tr_tK, tr_tF, tr_tS, tr_tT, tr_tO, tr_tN, tr_tc)) else (f6_of N (3 : Int32) x1 x3 x2 (tr_tK, tr_tF, tr_tS, tr_tT, tr_tO, tr_tN, tr_tc)).bind fun (r_19, (tr_tK_20, tr_tF_21, tr_tS_22, tr_tT_23, tr_tO_24, tr_tN_25, tr_tc_26)) => (f1_push r_19 (fo_fR, fo_fS, fo_fh, fo_fb)).bind fun (fo_fR_28, fo_fS_29, fo_fh_30, fo_fb_31) => some ((fo_fR_28, fo_fS_29, fo_fh_30, fo_fb_31), (tr_tK_20, tr_tF_21, tr_tS_22, tr_tT_23, tr_tO_24, tr_tN_25, tr_tc_26))

def f1_join_L21  (N : Nat)  : Int32 → Int32 → Int32 → Int32 → FoS → TrS → Option (FoS × TrS)
  | x1, x2, x3, y0, (fo_fR, fo_fS, fo_fh, fo_fb), (tr_tK, tr_tF, tr_tS, tr_tT, tr_tO, tr_tN, tr_tc) =>
    if x1 = (38 : Int32) then f1_join_L34 N x1 x2 x3 y0 (3 : Int32) (fo_fR, fo_fS, fo_fh, fo_fb) (tr_tK, tr_tF, tr_tS, tr_tT, tr_tO, tr_tN, tr_tc) else f1_join_L34 N x1 x2 x3 y0 (2 : Int32) (fo_fR, fo_fS, fo_fh, fo_fb) (tr_tK, tr_tF, tr_tS, tr_tT, tr_tO, tr_tN, tr_tc)
def f1_join (N : Nat) (v1 : Int32) : FoS → TrS → Option (FoS × TrS)
  | (fo_fR, fo_fS, fo_fh, fo_fb), (tr_tK, tr_tF, tr_tS, tr_tT, tr_tO, tr_tN, tr_tc) =>
    (f1_pop (fo_fR, fo_fS, fo_fh, fo_fb)).bind fun (r_2, (fo_fR_3, fo_fS_4, fo_fh_5, fo_fb_6)) => (f1_pop (fo_fR_3, fo_fS_4, fo_fh_5, fo_fb_6)).bind fun (r_8, (fo_fR_9, fo_fS_10, fo_fh_11, fo_fb_12)) => if v1 = (38 : Int32) then f1_join_L21 N v1 r_2 r_8 (2 : Int32) (fo_fR_9, fo_fS_10, fo_fh_11, fo_fb_12) (tr_tK, tr_tF, tr_tS, tr_tT, tr_tO, tr_tN, tr_tc) else f1_join_L21 N v1 r_2 r_8 (3 : Int32) (fo_fR_9, fo_fS_10, fo_fh_11, fo_fb_12) (tr_tK, tr_tF, tr_tS, tr_tT, tr_tO, tr_tN, tr_tc)
set_option maxHeartbeats 4000000 in
set_option maxRecDepth 100000 in
theorem w1_join_L34 {V : EV} {p : Program} {l : Launch} {e : Env} {R : Room} {s : State} {m : MethodId} {args : Array Value} {below : List Frame} {meth : Method} {c : Code} {Q : State → Prop} {A : Nat → Prop} {kc ks : Nat} {ad : Nat → Nat} {top : TopS} {rd : RdS} {ra : Int32} {co : Nat → CoS} {mu : MuS} {ma : MaS} {mq : Nat} {mx : MxS}  {N : Nat} {res : FoS × TrS} (C : CX V p l R s m args c A kc ks RX1 cX1_join 6 2 53) (K : RV V p l e R s m args below meth c Q A kc ks 6 cX1_join (wC V ad top rd ra co mu res.1 res.2 ma mq mx))  : ∀ (x1 : Int32) (x2 : Int32) (x3 : Int32) (x4 : Int32) (y0 : Int32) (fo_fR : Nat → Int32) (fo_fS : Nat → Int32) (fo_fh : Int32) (fo_fb : Int32) (tr_tK : Nat → Int32) (tr_tF : Nat → Int32) (tr_tS : Nat → Int32) (tr_tT : Nat → Int32) (tr_tO : Nat → Int32) (tr_tN : Nat → Int32) (tr_tc : Int32), f1_join_L34 N x1 x2 x3 x4 y0 (fo_fR, fo_fS, fo_fh, fo_fb) (tr_tK, tr_tF, tr_tS, tr_tT, tr_tO, tr_tN, tr_tc) = some res → WC V p l e R s m args below meth c Q A kc ks 6 (wC V ad top rd ra co mu (fo_fR, fo_fS, fo_fh, fo_fb) (tr_tK, tr_tF, tr_tS, tr_tT, tr_tO, tr_tN, tr_tc) ma mq mx) 34 [(0, .ref (ad 25)), (1, .int x1), (2, .int x2), (3, .int x3), (4, .int x4)] [.int y0] := by
  intro x1 x2 x3 x4 y0 fo_fR fo_fS fo_fh fo_fb tr_tK tr_tF tr_tS tr_tT tr_tO tr_tN tr_tc hf
  rw [f1_join_L34] at hf
  refine k_istore C dX1_join_34 [(5, .int y0), (0, .ref (ad 25)), (1, .int x1), (2, .int x2), (3, .int x3), (4, .int x4)] (by decide) rfl ?_
  refine k_iload_n C dX1_join_36 4 rfl ?_
  refine k_iload C dX1_join_37 5 rfl ?_
  refine k_icmp_ne C 50 dX1_join_39 (by decide) (fun hc => ?_) (fun hc => ?_)
  · replace hf := (if_neg hc).symm.trans hf
    refine k_iload_n C dX1_join_50 4 rfl ?_
    refine k_iload C dX1_join_51 0 rfl ?_
    refine k_icmp_eq C 62 dX1_join_53 (by decide) (fun hc => ?_) (fun hc => ?_)
    · replace hf := (if_pos hc).symm.trans hf
      refine k_aload_n C dX1_join_62 1 rfl ?_
      refine k_iload_n C dX1_join_63 4 rfl ?_
      obtain ⟨⟨fo_fR_14, fo_fS_15, fo_fh_16, fo_fb_17⟩, hq_13, hf⟩ := ob_el hf
      dsimp only at hf
      refine k_callVv C (c1_push C.2.2.2.2.2.2.2.2.2.1 hq_13) cm1_105 ok1_push (by decide) 25 rfl rfl rfl rfl (Nat.le_of_ble_eq_true rfl) dX1_join_64 ?_
      refine k_goto C 85 dX1_join_67 (by decide) ?_
      cases hf
      exact K _ _ dX1_join_85
    · replace hf := (if_neg hc).symm.trans hf
      refine k_iload_n C dX1_join_56 3 rfl ?_
      refine k_iload C dX1_join_57 5 rfl ?_
      refine k_icmp_ne C 70 dX1_join_59 (by decide) (fun hc => ?_) (fun hc => ?_)
      · replace hf := (if_neg hc).symm.trans hf
        refine k_aload_n C dX1_join_70 1 rfl ?_
        refine k_aload_n C dX1_join_71 1 rfl ?_
        refine g1_12 C dX1_join_72 ?_
        refine k_iconst (v := (3 : Int32)) C dX1_join_75 (by decide) ?_
        refine k_iload_n C dX1_join_76 2 rfl ?_
        refine k_iload_n C dX1_join_77 4 rfl ?_
        refine k_iload_n C dX1_join_78 3 rfl ?_
        obtain ⟨⟨r_19, ⟨tr_tK_20, tr_tF_21, tr_tS_22, tr_tT_23, tr_tO_24, tr_tN_25, tr_tc_26⟩⟩, hq_18, hf⟩ := ob_el hf
        dsimp only at hf
        refine k_callVi C (c6_of C.2.2.2.2.2.2.2.2.2.1 hq_18) cm1_108 ok6_of (by decide) 26 rfl rfl rfl rfl (Nat.le_of_ble_eq_true rfl) dX1_join_79 ?_
        obtain ⟨⟨fo_fR_28, fo_fS_29, fo_fh_30, fo_fb_31⟩, hq_27, hf⟩ := ob_el hf
        dsimp only at hf
        refine k_callVv C (c1_push C.2.2.2.2.2.2.2.2.2.1 hq_27) cm1_105 ok1_push (by decide) 25 rfl rfl rfl rfl (Nat.le_of_ble_eq_true rfl) dX1_join_82 ?_
        cases hf
        exact K _ _ dX1_join_85
      · replace hf := (if_pos hc).symm.trans hf
        refine k_aload_n C dX1_join_62 1 rfl ?_
        refine k_iload_n C dX1_join_63 4 rfl ?_
        obtain ⟨⟨fo_fR_33, fo_fS_34, fo_fh_35, fo_fb_36⟩, hq_32, hf⟩ := ob_el hf
        dsimp only at hf
        refine k_callVv C (c1_push C.2.2.2.2.2.2.2.2.2.1 hq_32) cm1_105 ok1_push (by decide) 25 rfl rfl rfl rfl (Nat.le_of_ble_eq_true rfl) dX1_join_64 ?_
        refine k_goto C 85 dX1_join_67 (by decide) ?_
        cases hf
        exact K _ _ dX1_join_85
  · replace hf := (if_pos hc).symm.trans hf
    refine k_aload_n C dX1_join_42 1 rfl ?_
    refine k_iload_n C dX1_join_43 3 rfl ?_
    obtain ⟨⟨fo_fR_38, fo_fS_39, fo_fh_40, fo_fb_41⟩, hq_37, hf⟩ := ob_el hf
    dsimp only at hf
    refine k_callVv C (c1_push C.2.2.2.2.2.2.2.2.2.1 hq_37) cm1_105 ok1_push (by decide) 25 rfl rfl rfl rfl (Nat.le_of_ble_eq_true rfl) dX1_join_44 ?_
    refine k_goto C 85 dX1_join_47 (by decide) ?_
    cases hf
    exact K _ _ dX1_join_85

set_option maxHeartbeats 4000000 in
set_option maxRecDepth 100000 in
theorem w1_join_L21 {V : EV} {p : Program} {l : Launch} {e : Env} {R : Room} {s : State} {m : MethodId} {args : Array Value} {below : List Frame} {meth : Method} {c : Code} {Q : State → Prop} {A : Nat → Prop} {kc ks : Nat} {ad : Nat → Nat} {top : TopS} {rd : RdS} {ra : Int32} {co : Nat → CoS} {mu : MuS} {ma : MaS} {mq : Nat} {mx : MxS}  {N : Nat} {res : FoS × TrS} (C : CX V p l R s m args c A kc ks RX1 cX1_join 6 2 53) (K : RV V p l e R s m args below meth c Q A kc ks 6 cX1_join (wC V ad top rd ra co mu res.1 res.2 ma mq mx))  : ∀ (x1 : Int32) (x2 : Int32) (x3 : Int32) (y0 : Int32) (fo_fR : Nat → Int32) (fo_fS : Nat → Int32) (fo_fh : Int32) (fo_fb : Int32) (tr_tK : Nat → Int32) (tr_tF : Nat → Int32) (tr_tS : Nat → Int32) (tr_tT : Nat → Int32) (tr_tO : Nat → Int32) (tr_tN : Nat → Int32) (tr_tc : Int32), f1_join_L21 N x1 x2 x3 y0 (fo_fR, fo_fS, fo_fh, fo_fb) (tr_tK, tr_tF, tr_tS, tr_tT, tr_tO, tr_tN, tr_tc) = some res → WC V p l e R s m args below meth c Q A kc ks 6 (wC V ad top rd ra co mu (fo_fR, fo_fS, fo_fh, fo_fb) (tr_tK, tr_tF, tr_tS, tr_tT, tr_tO, tr_tN, tr_tc) ma mq mx) 21 [(0, .ref (ad 25)), (1, .int x1), (2, .int x2), (3, .int x3)] [.int y0] := by
  intro x1 x2 x3 y0 fo_fR fo_fS fo_fh fo_fb tr_tK tr_tF tr_tS tr_tT tr_tO tr_tN tr_tc hf
  rw [f1_join_L21] at hf
  refine k_istore C dX1_join_21 [(4, .int y0), (0, .ref (ad 25)), (1, .int x1), (2, .int x2), (3, .int x3)] (by decide) rfl ?_
  refine k_iload_n C dX1_join_23 2 rfl ?_
  refine k_bipush (v := (38 : Int32)) C dX1_join_24 (by decide) ?_
  refine k_icmp_ne C 33 dX1_join_26 (by decide) (fun hc => ?_) (fun hc => ?_)
  · replace hf := (if_neg hc).symm.trans hf
    refine k_iconst (v := (2 : Int32)) C dX1_join_33 (by decide) ?_
    refine k_sub [1, 2, 3, 4, 0] (L' := [(0, .ref (ad 25)), (1, .int x1), (2, .int x2), (3, .int x3), (4, .int y0)]) rfl ?_
    exact w1_join_L34 C K _ _ _ _ _ _ _ _ _ _ _ _ _ _ _ _ hf
  · replace hf := (if_pos hc).symm.trans hf
    refine k_iconst (v := (3 : Int32)) C dX1_join_29 (by decide) ?_
    refine k_goto C 34 dX1_join_30 (by decide) ?_
    refine k_sub [1, 2, 3, 4, 0] (L' := [(0, .ref (ad 25)), (1, .int x1), (2, .int x2), (3, .int x3), (4, .int y0)]) rfl ?_
    exact w1_join_L34 C K _ _ _ _ _ _ _ _ _ _ _ _ _ _ _ _ hf
set_option maxHeartbeats 4000000 in
set_option maxRecDepth 100000 in
theorem b1_join {V : EV} {p : Program} {l : Launch} {e : Env} {R : Room} {s : State} {m : MethodId} {args : Array Value} {below : List Frame} {meth : Method} {c : Code} {Q : State → Prop} {A : Nat → Prop} {kc ks : Nat} {ad : Nat → Nat} {top : TopS} {rd : RdS} {ra : Int32} {co : Nat → CoS} {mu : MuS} {ma : MaS} {mq : Nat} {mx : MxS} {v1 : Int32} {fo_fR : Nat → Int32} {fo_fS : Nat → Int32} {fo_fh : Int32} {fo_fb : Int32} {tr_tK : Nat → Int32} {tr_tF : Nat → Int32} {tr_tS : Nat → Int32} {tr_tT : Nat → Int32} {tr_tO : Nat → Int32} {tr_tN : Nat → Int32} {tr_tc : Int32} {N : Nat} {res : FoS × TrS} (C : CX V p l R s m args c A kc ks RX1 cX1_join 6 2 53) (hf : f1_join N v1 (fo_fR, fo_fS, fo_fh, fo_fb) (tr_tK, tr_tF, tr_tS, tr_tT, tr_tO, tr_tN, tr_tc) = some res) (K : RV V p l e R s m args below meth c Q A kc ks 6 cX1_join (wC V ad top rd ra co mu res.1 res.2 ma mq mx)) : WC V p l e R s m args below meth c Q A kc ks 6 (wC V ad top rd ra co mu (fo_fR, fo_fS, fo_fh, fo_fb) (tr_tK, tr_tF, tr_tS, tr_tT, tr_tO, tr_tN, tr_tc) ma mq mx) 0 [(0, .ref (ad 25)), (1, .int v1)] [] := by
  rw [f1_join] at hf
  refine k_aload_n C dX1_join_0 0 rfl ?_
  obtain ⟨⟨r_2, ⟨fo_fR_3, fo_fS_4, fo_fh_5, fo_fb_6⟩⟩, hq_1, hf⟩ := ob_el hf
  dsimp only at hf
  refine k_callVi C (c1_pop C.2.2.2.2.2.2.2.2.2.1 hq_1) cm1_88 ok1_pop (by decide) 25 rfl rfl rfl rfl (Nat.le_of_ble_eq_true rfl) dX1_join_1 ?_
  refine k_istore_n C dX1_join_4 [(2, .int r_2), (0, .ref (ad 25)), (1, .int v1)] (by decide) rfl ?_
  refine k_aload_n C dX1_join_5 1 rfl ?_
  obtain ⟨⟨r_8, ⟨fo_fR_9, fo_fS_10, fo_fh_11, fo_fb_12⟩⟩, hq_7, hf⟩ := ob_el hf
  dsimp only at hf
  refine k_callVi C (c1_pop C.2.2.2.2.2.2.2.2.2.1 hq_7) cm1_88 ok1_pop (by decide) 25 rfl rfl rfl rfl (Nat.le_of_ble_eq_true rfl) dX1_join_6 ?_
  refine k_istore_n C dX1_join_9 [(3, .int r_8), (2, .int r_2), (0, .ref (ad 25)), (1, .int v1)] (by decide) rfl ?_
  refine k_iload_n C dX1_join_10 3 rfl ?_
  refine k_bipush (v := (38 : Int32)) C dX1_join_11 (by decide) ?_
  refine k_icmp_ne C 20 dX1_join_13 (by decide) (fun hc => ?_) (fun hc => ?_)
  · replace hf := (if_neg hc).symm.trans hf
    refine k_iconst (v := (3 : Int32)) C dX1_join_20 (by decide) ?_
    refine k_sub [2, 3, 1, 0] (L' := [(0, .ref (ad 25)), (1, .int v1), (2, .int r_2), (3, .int r_8)]) rfl ?_
    exact w1_join_L21 C K _ _ _ _ _ _ _ _ _ _ _ _ _ _ _ hf
  · replace hf := (if_pos hc).symm.trans hf
    refine k_iconst (v := (2 : Int32)) C dX1_join_16 (by decide) ?_
    refine k_goto C 21 dX1_join_17 (by decide) ?_
    refine k_sub [2, 3, 1, 0] (L' := [(0, .ref (ad 25)), (1, .int v1), (2, .int r_2), (3, .int r_8)]) rfl ?_
    exact w1_join_L21 C K _ _ _ _ _ _ _ _ _ _ _ _ _ _ _ hf
theorem c1_join {V : EV} {l : Launch} (hl0 : l.stackTraces = false) {ad : Nat → Nat} {top : TopS} {rd : RdS} {ra : Int32} {co : Nat → CoS} {mu : MuS} {ma : MaS} {mq : Nat} {mx : MxS} {v1 : Int32} {fo_fR : Nat → Int32} {fo_fS : Nat → Int32} {fo_fh : Int32} {fo_fb : Int32} {tr_tK : Nat → Int32} {tr_tF : Nat → Int32} {tr_tS : Nat → Int32} {tr_tT : Nat → Int32} {tr_tO : Nat → Int32} {tr_tN : Nat → Int32} {tr_tc : Int32} {N : Nat} {res : FoS × TrS} (hf : f1_join N v1 (fo_fR, fo_fS, fo_fh, fo_fb) (tr_tK, tr_tF, tr_tS, tr_tT, tr_tO, tr_tN, tr_tc) = some res) : MV V l yX1_join cX1_join 6 2 53 [.ref (ad 25), .int v1] (wC V ad top rd ra co mu (fo_fR, fo_fS, fo_fh, fo_fb) (tr_tK, tr_tF, tr_tS, tr_tT, tr_tO, tr_tN, tr_tc) ma mq mx) (wC V ad top rd ra co mu res.1 res.2 ma mq mx) :=
  mv_of hl0 (by decide +kernel) (Nat.le_of_ble_eq_true rfl) (fun p e R s m args below meth c Q A C K => b1_join C hf K)

theorem ok1_store : okCV RX1 yX1_store 1 := by unfold okCV; decide +kernel
def f1_store_L36  (N : Nat)  : Int32 → Int32 → Int32 → FoS → TrS → Option (FoS × TrS)
  | x1, x2, y0, (fo_fR, fo_fS, fo_fh, fo_fb), (tr_tK, tr_tF, tr_tS, tr_tT, tr_tO, tr_tN, tr_tc) =>
    if y0 = 0 then (f6_of N (4 : Int32) x1 x2 (0 : Int32) (tr_tK, tr_tF, tr_tS, tr_tT, tr_tO, tr_tN, tr_tc)).bind fun (r_8, (tr_tK_9, tr_tF_10, tr_tS_11, tr_tT_12, tr_tO_13, tr_tN_14, tr_tc_15)) => (f1_append r_8 (tr_tK_9, tr_tF_10, tr_tS_11, tr_tT_12, tr_tO_13, tr_tN_14, tr_tc_15) (fo_fR, fo_fS, fo_fh, fo_fb)).bind fun (fo_fR_17, fo_fS_18, fo_fh_19, fo_fb_20) => some ((fo_fR_17, fo_fS_18, fo_fh_19, fo_fb_20), (tr_tK_9, tr_tF_10, tr_tS_11, tr_tT_12, tr_tO_13, tr_tN_14, tr_tc_15)) else some ((fo_fR, fo_fS, fo_fh, fo_fb), (tr_tK, tr_tF, tr_tS, tr_tT, tr_tO, tr_tN, tr_tc))

def f1_store_L35  (N : Nat)  : Int32 → Int32 → FoS → TrS → Option (FoS × TrS)
  | x1, x2, (fo_fR, fo_fS, fo_fh, fo_fb), (tr_tK, tr_tF, tr_tS, tr_tT, tr_tO, tr_tN, tr_tc) =>
    f1_store_L36 N x1 x2 (0 : Int32) (fo_fR, fo_fS, fo_fh, fo_fb) (tr_tK, tr_tF, tr_tS, tr_tT, tr_tO, tr_tN, tr_tc)
def f1_store (N : Nat) (v1 : Int32) : FoS → TrS → Option (FoS × TrS)
  | (fo_fR, fo_fS, fo_fh, fo_fb), (tr_tK, tr_tF, tr_tS, tr_tT, tr_tO, tr_tN, tr_tc) =>
    (f1_pop (fo_fR, fo_fS, fo_fh, fo_fb)).bind fun (r_2, (fo_fR_3, fo_fS_4, fo_fh_5, fo_fb_6)) => if r_2 < 0 ∨ 18755 ≤ r_2.toNatClampNeg then none else if (tr_tK r_2.toNatClampNeg) = (2 : Int32) then if r_2 < 0 ∨ 18755 ≤ r_2.toNatClampNeg then none else if (tr_tF r_2.toNatClampNeg) = v1 then f1_store_L36 N v1 r_2 (1 : Int32) (fo_fR_3, fo_fS_4, fo_fh_5, fo_fb_6) (tr_tK, tr_tF, tr_tS, tr_tT, tr_tO, tr_tN, tr_tc) else f1_store_L35 N v1 r_2 (fo_fR_3, fo_fS_4, fo_fh_5, fo_fb_6) (tr_tK, tr_tF, tr_tS, tr_tT, tr_tO, tr_tN, tr_tc) else f1_store_L35 N v1 r_2 (fo_fR_3, fo_fS_4, fo_fh_5, fo_fb_6) (tr_tK, tr_tF, tr_tS, tr_tT, tr_tO, tr_tN, tr_tc)
set_option maxHeartbeats 4000000 in
set_option maxRecDepth 100000 in
theorem w1_store_L36 {V : EV} {p : Program} {l : Launch} {e : Env} {R : Room} {s : State} {m : MethodId} {args : Array Value} {below : List Frame} {meth : Method} {c : Code} {Q : State → Prop} {A : Nat → Prop} {kc ks : Nat} {ad : Nat → Nat} {top : TopS} {rd : RdS} {ra : Int32} {co : Nat → CoS} {mu : MuS} {ma : MaS} {mq : Nat} {mx : MxS}  {N : Nat} {res : FoS × TrS} (C : CX V p l R s m args c A kc ks RX1 cX1_store 4 2 53) (K : RV V p l e R s m args below meth c Q A kc ks 4 cX1_store (wC V ad top rd ra co mu res.1 res.2 ma mq mx))  : ∀ (x1 : Int32) (x2 : Int32) (y0 : Int32) (fo_fR : Nat → Int32) (fo_fS : Nat → Int32) (fo_fh : Int32) (fo_fb : Int32) (tr_tK : Nat → Int32) (tr_tF : Nat → Int32) (tr_tS : Nat → Int32) (tr_tT : Nat → Int32) (tr_tO : Nat → Int32) (tr_tN : Nat → Int32) (tr_tc : Int32), f1_store_L36 N x1 x2 y0 (fo_fR, fo_fS, fo_fh, fo_fb) (tr_tK, tr_tF, tr_tS, tr_tT, tr_tO, tr_tN, tr_tc) = some res → WC V p l e R s m args below meth c Q A kc ks 4 (wC V ad top rd ra co mu (fo_fR, fo_fS, fo_fh, fo_fb) (tr_tK, tr_tF, tr_tS, tr_tT, tr_tO, tr_tN, tr_tc) ma mq mx) 36 [(0, .ref (ad 25)), (1, .int x1), (2, .int x2)] [.int y0] := by
  intro x1 x2 y0 fo_fR fo_fS fo_fh fo_fb tr_tK tr_tF tr_tS tr_tT tr_tO tr_tN tr_tc hf
  rw [f1_store_L36] at hf
  refine k_istore_n C dX1_store_36 [(3, .int y0), (0, .ref (ad 25)), (1, .int x1), (2, .int x2)] (by decide) rfl ?_
  refine k_iload_n C dX1_store_37 0 rfl ?_
  refine k_if_ne C 56 dX1_store_38 (by decide) (fun hc => ?_) (fun hc => ?_)
  · replace hf := (if_neg hc).symm.trans hf
    cases hf
    exact K _ _ dX1_store_56
  · replace hf := (if_pos hc).symm.trans hf
    refine k_aload_n C dX1_store_41 1 rfl ?_
    refine k_aload_n C dX1_store_42 1 rfl ?_
    refine g1_12 C dX1_store_43 ?_
    refine k_iconst (v := (4 : Int32)) C dX1_store_46 (by decide) ?_
    refine k_iload_n C dX1_store_47 2 rfl ?_
    refine k_iload_n C dX1_store_48 3 rfl ?_
    refine k_iconst (v := (0 : Int32)) C dX1_store_49 (by decide) ?_
    obtain ⟨⟨r_8, ⟨tr_tK_9, tr_tF_10, tr_tS_11, tr_tT_12, tr_tO_13, tr_tN_14, tr_tc_15⟩⟩, hq_7, hf⟩ := ob_el hf
    dsimp only at hf
    refine k_callVi C (c6_of C.2.2.2.2.2.2.2.2.2.1 hq_7) cm1_108 ok6_of (by decide) 26 rfl rfl rfl rfl (Nat.le_of_ble_eq_true rfl) dX1_store_50 ?_
    obtain ⟨⟨fo_fR_17, fo_fS_18, fo_fh_19, fo_fb_20⟩, hq_16, hf⟩ := ob_el hf
    dsimp only at hf
    refine k_callVv C (c1_append C.2.2.2.2.2.2.2.2.2.1 hq_16) cm1_118 ok1_append (by decide) 25 rfl rfl rfl rfl (Nat.le_of_ble_eq_true rfl) dX1_store_53 ?_
    cases hf
    exact K _ _ dX1_store_56

set_option maxHeartbeats 4000000 in
set_option maxRecDepth 100000 in
theorem w1_store_L35 {V : EV} {p : Program} {l : Launch} {e : Env} {R : Room} {s : State} {m : MethodId} {args : Array Value} {below : List Frame} {meth : Method} {c : Code} {Q : State → Prop} {A : Nat → Prop} {kc ks : Nat} {ad : Nat → Nat} {top : TopS} {rd : RdS} {ra : Int32} {co : Nat → CoS} {mu : MuS} {ma : MaS} {mq : Nat} {mx : MxS}  {N : Nat} {res : FoS × TrS} (C : CX V p l R s m args c A kc ks RX1 cX1_store 4 2 53) (K : RV V p l e R s m args below meth c Q A kc ks 4 cX1_store (wC V ad top rd ra co mu res.1 res.2 ma mq mx))  : ∀ (x1 : Int32) (x2 : Int32) (fo_fR : Nat → Int32) (fo_fS : Nat → Int32) (fo_fh : Int32) (fo_fb : Int32) (tr_tK : Nat → Int32) (tr_tF : Nat → Int32) (tr_tS : Nat → Int32) (tr_tT : Nat → Int32) (tr_tO : Nat → Int32) (tr_tN : Nat → Int32) (tr_tc : Int32), f1_store_L35 N x1 x2 (fo_fR, fo_fS, fo_fh, fo_fb) (tr_tK, tr_tF, tr_tS, tr_tT, tr_tO, tr_tN, tr_tc) = some res → WC V p l e R s m args below meth c Q A kc ks 4 (wC V ad top rd ra co mu (fo_fR, fo_fS, fo_fh, fo_fb) (tr_tK, tr_tF, tr_tS, tr_tT, tr_tO, tr_tN, tr_tc) ma mq mx) 35 [(0, .ref (ad 25)), (1, .int x1), (2, .int x2)] [] := by
  intro x1 x2 fo_fR fo_fS fo_fh fo_fb tr_tK tr_tF tr_tS tr_tT tr_tO tr_tN tr_tc hf
  rw [f1_store_L35] at hf
  refine k_iconst (v := (0 : Int32)) C dX1_store_35 (by decide) ?_
  exact w1_store_L36 C K _ _ _ _ _ _ _ _ _ _ _ _ _ _ hf
set_option maxHeartbeats 4000000 in
set_option maxRecDepth 100000 in
theorem b1_store {V : EV} {p : Program} {l : Launch} {e : Env} {R : Room} {s : State} {m : MethodId} {args : Array Value} {below : List Frame} {meth : Method} {c : Code} {Q : State → Prop} {A : Nat → Prop} {kc ks : Nat} {ad : Nat → Nat} {top : TopS} {rd : RdS} {ra : Int32} {co : Nat → CoS} {mu : MuS} {ma : MaS} {mq : Nat} {mx : MxS} {v1 : Int32} {fo_fR : Nat → Int32} {fo_fS : Nat → Int32} {fo_fh : Int32} {fo_fb : Int32} {tr_tK : Nat → Int32} {tr_tF : Nat → Int32} {tr_tS : Nat → Int32} {tr_tT : Nat → Int32} {tr_tO : Nat → Int32} {tr_tN : Nat → Int32} {tr_tc : Int32} {N : Nat} {res : FoS × TrS} (C : CX V p l R s m args c A kc ks RX1 cX1_store 4 2 53) (hf : f1_store N v1 (fo_fR, fo_fS, fo_fh, fo_fb) (tr_tK, tr_tF, tr_tS, tr_tT, tr_tO, tr_tN, tr_tc) = some res) (K : RV V p l e R s m args below meth c Q A kc ks 4 cX1_store (wC V ad top rd ra co mu res.1 res.2 ma mq mx)) : WC V p l e R s m args below meth c Q A kc ks 4 (wC V ad top rd ra co mu (fo_fR, fo_fS, fo_fh, fo_fb) (tr_tK, tr_tF, tr_tS, tr_tT, tr_tO, tr_tN, tr_tc) ma mq mx) 0 [(0, .ref (ad 25)), (1, .int v1)] [] := by
  rw [f1_store] at hf
  refine k_aload_n C dX1_store_0 0 rfl ?_
  obtain ⟨⟨r_2, ⟨fo_fR_3, fo_fS_4, fo_fh_5, fo_fb_6⟩⟩, hq_1, hf⟩ := ob_el hf
  dsimp only at hf
  refine k_callVi C (c1_pop C.2.2.2.2.2.2.2.2.2.1 hq_1) cm1_88 ok1_pop (by decide) 25 rfl rfl rfl rfl (Nat.le_of_ble_eq_true rfl) dX1_store_1 ?_
  refine k_istore_n C dX1_store_4 [(2, .int r_2), (0, .ref (ad 25)), (1, .int v1)] (by decide) rfl ?_
  refine k_aload_n C dX1_store_5 1 rfl ?_
  refine g1_12 C dX1_store_6 ?_
  refine g1_127 C dX1_store_9 ?_
  refine k_iload_n C dX1_store_12 0 rfl ?_
  obtain ⟨hi, hf⟩ := gd_no hf
  refine lc27 C hi dX1_store_13 ?_
  refine k_iconst (v := (2 : Int32)) C dX1_store_14 (by decide) ?_
  refine k_icmp_ne C 35 dX1_store_15 (by decide) (fun hc => ?_) (fun hc => ?_)
  · replace hf := (if_neg hc).symm.trans hf
    refine k_sub [1, 2, 0] (L' := [(0, .ref (ad 25)), (1, .int v1), (2, .int r_2)]) rfl ?_
    exact w1_store_L35 C K _ _ _ _ _ _ _ _ _ _ _ _ _ hf
  · replace hf := (if_pos hc).symm.trans hf
    refine k_aload_n C dX1_store_18 1 rfl ?_
    refine g1_12 C dX1_store_19 ?_
    refine g1_130 C dX1_store_22 ?_
    refine k_iload_n C dX1_store_25 0 rfl ?_
    obtain ⟨hi, hf⟩ := gd_no hf
    refine lc28 C hi dX1_store_26 ?_
    refine k_iload_n C dX1_store_27 2 rfl ?_
    refine k_icmp_ne C 35 dX1_store_28 (by decide) (fun hc => ?_) (fun hc => ?_)
    · replace hf := (if_neg hc).symm.trans hf
      refine k_sub [1, 2, 0] (L' := [(0, .ref (ad 25)), (1, .int v1), (2, .int r_2)]) rfl ?_
      exact w1_store_L35 C K _ _ _ _ _ _ _ _ _ _ _ _ _ hf
    · replace hf := (if_pos hc).symm.trans hf
      refine k_iconst (v := (1 : Int32)) C dX1_store_31 (by decide) ?_
      refine k_goto C 36 dX1_store_32 (by decide) ?_
      refine k_sub [1, 2, 0] (L' := [(0, .ref (ad 25)), (1, .int v1), (2, .int r_2)]) rfl ?_
      exact w1_store_L36 C K _ _ _ _ _ _ _ _ _ _ _ _ _ _ hf
theorem c1_store {V : EV} {l : Launch} (hl0 : l.stackTraces = false) {ad : Nat → Nat} {top : TopS} {rd : RdS} {ra : Int32} {co : Nat → CoS} {mu : MuS} {ma : MaS} {mq : Nat} {mx : MxS} {v1 : Int32} {fo_fR : Nat → Int32} {fo_fS : Nat → Int32} {fo_fh : Int32} {fo_fb : Int32} {tr_tK : Nat → Int32} {tr_tF : Nat → Int32} {tr_tS : Nat → Int32} {tr_tT : Nat → Int32} {tr_tO : Nat → Int32} {tr_tN : Nat → Int32} {tr_tc : Int32} {N : Nat} {res : FoS × TrS} (hf : f1_store N v1 (fo_fR, fo_fS, fo_fh, fo_fb) (tr_tK, tr_tF, tr_tS, tr_tT, tr_tO, tr_tN, tr_tc) = some res) : MV V l yX1_store cX1_store 4 2 53 [.ref (ad 25), .int v1] (wC V ad top rd ra co mu (fo_fR, fo_fS, fo_fh, fo_fb) (tr_tK, tr_tF, tr_tS, tr_tT, tr_tO, tr_tN, tr_tc) ma mq mx) (wC V ad top rd ra co mu res.1 res.2 ma mq mx) :=
  mv_of hl0 (by decide +kernel) (Nat.le_of_ble_eq_true rfl) (fun p e R s m args below meth c Q A C K => b1_store C hf K)

theorem ok1_check : okCV RX1 yX1_check 0 := by unfold okCV; decide +kernel
def f1_check (N : Nat)  : FoS → TrS → Option (FoS × TrS)
  | (fo_fR, fo_fS, fo_fh, fo_fb), (tr_tK, tr_tF, tr_tS, tr_tT, tr_tO, tr_tN, tr_tc) =>
    (f1_pop (fo_fR, fo_fS, fo_fh, fo_fb)).bind fun (r_2, (fo_fR_3, fo_fS_4, fo_fh_5, fo_fb_6)) => if r_2 = (2 : Int32) then some ((fo_fR_3, fo_fS_4, fo_fh_5, fo_fb_6), (tr_tK, tr_tF, tr_tS, tr_tT, tr_tO, tr_tN, tr_tc)) else (f6_of N (5 : Int32) r_2 (0 : Int32) (0 : Int32) (tr_tK, tr_tF, tr_tS, tr_tT, tr_tO, tr_tN, tr_tc)).bind fun (r_8, (tr_tK_9, tr_tF_10, tr_tS_11, tr_tT_12, tr_tO_13, tr_tN_14, tr_tc_15)) => (f1_append r_8 (tr_tK_9, tr_tF_10, tr_tS_11, tr_tT_12, tr_tO_13, tr_tN_14, tr_tc_15) (fo_fR_3, fo_fS_4, fo_fh_5, fo_fb_6)).bind fun (fo_fR_17, fo_fS_18, fo_fh_19, fo_fb_20) => some ((fo_fR_17, fo_fS_18, fo_fh_19, fo_fb_20), (tr_tK_9, tr_tF_10, tr_tS_11, tr_tT_12, tr_tO_13, tr_tN_14, tr_tc_15))
set_option maxHeartbeats 4000000 in
set_option maxRecDepth 100000 in
theorem b1_check {V : EV} {p : Program} {l : Launch} {e : Env} {R : Room} {s : State} {m : MethodId} {args : Array Value} {below : List Frame} {meth : Method} {c : Code} {Q : State → Prop} {A : Nat → Prop} {kc ks : Nat} {ad : Nat → Nat} {top : TopS} {rd : RdS} {ra : Int32} {co : Nat → CoS} {mu : MuS} {ma : MaS} {mq : Nat} {mx : MxS} {fo_fR : Nat → Int32} {fo_fS : Nat → Int32} {fo_fh : Int32} {fo_fb : Int32} {tr_tK : Nat → Int32} {tr_tF : Nat → Int32} {tr_tS : Nat → Int32} {tr_tT : Nat → Int32} {tr_tO : Nat → Int32} {tr_tN : Nat → Int32} {tr_tc : Int32} {N : Nat} {res : FoS × TrS} (C : CX V p l R s m args c A kc ks RX1 cX1_check 2 2 53) (hf : f1_check N (fo_fR, fo_fS, fo_fh, fo_fb) (tr_tK, tr_tF, tr_tS, tr_tT, tr_tO, tr_tN, tr_tc) = some res) (K : RV V p l e R s m args below meth c Q A kc ks 2 cX1_check (wC V ad top rd ra co mu res.1 res.2 ma mq mx)) : WC V p l e R s m args below meth c Q A kc ks 2 (wC V ad top rd ra co mu (fo_fR, fo_fS, fo_fh, fo_fb) (tr_tK, tr_tF, tr_tS, tr_tT, tr_tO, tr_tN, tr_tc) ma mq mx) 0 [(0, .ref (ad 25))] [] := by
  rw [f1_check] at hf
  refine k_aload_n C dX1_check_0 0 rfl ?_
  obtain ⟨⟨r_2, ⟨fo_fR_3, fo_fS_4, fo_fh_5, fo_fb_6⟩⟩, hq_1, hf⟩ := ob_el hf
  dsimp only at hf
  refine k_callVi C (c1_pop C.2.2.2.2.2.2.2.2.2.1 hq_1) cm1_88 ok1_pop (by decide) 25 rfl rfl rfl rfl (Nat.le_of_ble_eq_true rfl) dX1_check_1 ?_
  refine k_istore_n C dX1_check_4 [(1, .int r_2), (0, .ref (ad 25))] (by decide) rfl ?_
  refine k_iload_n C dX1_check_5 0 rfl ?_
  refine k_iconst (v := (2 : Int32)) C dX1_check_6 (by decide) ?_
  refine k_icmp_eq C 25 dX1_check_7 (by decide) (fun hc => ?_) (fun hc => ?_)
  · replace hf := (if_pos hc).symm.trans hf
    cases hf
    exact K _ _ dX1_check_25
  · replace hf := (if_neg hc).symm.trans hf
    refine k_aload_n C dX1_check_10 1 rfl ?_
    refine k_aload_n C dX1_check_11 1 rfl ?_
    refine g1_12 C dX1_check_12 ?_
    refine k_iconst (v := (5 : Int32)) C dX1_check_15 (by decide) ?_
    refine k_iload_n C dX1_check_16 0 rfl ?_
    refine k_iconst (v := (0 : Int32)) C dX1_check_17 (by decide) ?_
    refine k_iconst (v := (0 : Int32)) C dX1_check_18 (by decide) ?_
    obtain ⟨⟨r_8, ⟨tr_tK_9, tr_tF_10, tr_tS_11, tr_tT_12, tr_tO_13, tr_tN_14, tr_tc_15⟩⟩, hq_7, hf⟩ := ob_el hf
    dsimp only at hf
    refine k_callVi C (c6_of C.2.2.2.2.2.2.2.2.2.1 hq_7) cm1_108 ok6_of (by decide) 26 rfl rfl rfl rfl (Nat.le_of_ble_eq_true rfl) dX1_check_19 ?_
    obtain ⟨⟨fo_fR_17, fo_fS_18, fo_fh_19, fo_fb_20⟩, hq_16, hf⟩ := ob_el hf
    dsimp only at hf
    refine k_callVv C (c1_append C.2.2.2.2.2.2.2.2.2.1 hq_16) cm1_118 ok1_append (by decide) 25 rfl rfl rfl rfl (Nat.le_of_ble_eq_true rfl) dX1_check_22 ?_
    cases hf
    exact K _ _ dX1_check_25
theorem c1_check {V : EV} {l : Launch} (hl0 : l.stackTraces = false) {ad : Nat → Nat} {top : TopS} {rd : RdS} {ra : Int32} {co : Nat → CoS} {mu : MuS} {ma : MaS} {mq : Nat} {mx : MxS} {fo_fR : Nat → Int32} {fo_fS : Nat → Int32} {fo_fh : Int32} {fo_fb : Int32} {tr_tK : Nat → Int32} {tr_tF : Nat → Int32} {tr_tS : Nat → Int32} {tr_tT : Nat → Int32} {tr_tO : Nat → Int32} {tr_tN : Nat → Int32} {tr_tc : Int32} {N : Nat} {res : FoS × TrS} (hf : f1_check N (fo_fR, fo_fS, fo_fh, fo_fb) (tr_tK, tr_tF, tr_tS, tr_tT, tr_tO, tr_tN, tr_tc) = some res) : MV V l yX1_check cX1_check 2 2 53 [.ref (ad 25)] (wC V ad top rd ra co mu (fo_fR, fo_fS, fo_fh, fo_fb) (tr_tK, tr_tF, tr_tS, tr_tT, tr_tO, tr_tN, tr_tc) ma mq mx) (wC V ad top rd ra co mu res.1 res.2 ma mq mx) :=
  mv_of hl0 (by decide +kernel) (Nat.le_of_ble_eq_true rfl) (fun p e R s m args below meth c Q A C K => b1_check C hf K)

theorem cm1_160 : ∀ a ∈ wsCV RX1 160 RX1 yX1_appendAll cX1_appendAll 4 none, a ∈ GW := by
  unfold wsCV
  exact (List.forall_mem_cons.mpr ⟨(gw_4 (i := 57) (by decide +kernel) rfl), (List.forall_mem_cons.mpr ⟨(gw_4 (i := 59) (by decide +kernel) rfl), (List.forall_mem_cons.mpr ⟨(gw_p (q := ((yX1_appendAll, 5) : MethodName × Nat)) (List.mem_append_right _ (List.mem_append_right _ (List.mem_append_left _ (List.mem_of_getElem? (i := 12) (by decide +kernel))))) rfl), (List.forall_mem_cons.mpr ⟨(gw_1 (i := 5) (by decide +kernel) rfl), (List.forall_mem_cons.mpr ⟨(gw_4 (i := 60) (by decide +kernel) rfl), (List.forall_mem_nil _)⟩)⟩)⟩)⟩)⟩)
theorem ok1_endIf : okCV RX1 yX1_endIf 0 := by unfold okCV; decide +kernel
def f1_endIf (N : Nat)  : FoS → TrS → Option (FoS × TrS)
  | (fo_fR, fo_fS, fo_fh, fo_fb), (tr_tK, tr_tF, tr_tS, tr_tT, tr_tO, tr_tN, tr_tc) =>
    (f1_pop (fo_fR, fo_fS, fo_fh, fo_fb)).bind fun (r_2, (fo_fR_3, fo_fS_4, fo_fh_5, fo_fb_6)) => (f1_pop (fo_fR_3, fo_fS_4, fo_fh_5, fo_fb_6)).bind fun (r_8, (fo_fR_9, fo_fS_10, fo_fh_11, fo_fb_12)) => (f1_pop (fo_fR_9, fo_fS_10, fo_fh_11, fo_fb_12)).bind fun (r_14, (fo_fR_15, fo_fS_16, fo_fh_17, fo_fb_18)) => if r_14 = (2 : Int32) then (f1_appendAll N r_8 (tr_tK, tr_tF, tr_tS, tr_tT, tr_tO, tr_tN, tr_tc) (fo_fR_15, fo_fS_16, fo_fh_17, fo_fb_18)).bind fun (fo_fR_39, fo_fS_40, fo_fh_41, fo_fb_42) => some ((fo_fR_39, fo_fS_40, fo_fh_41, fo_fb_42), (tr_tK, tr_tF, tr_tS, tr_tT, tr_tO, tr_tN, tr_tc)) else if r_14 = (3 : Int32) then (f1_appendAll N r_2 (tr_tK, tr_tF, tr_tS, tr_tT, tr_tO, tr_tN, tr_tc) (fo_fR_15, fo_fS_16, fo_fh_17, fo_fb_18)).bind fun (fo_fR_34, fo_fS_35, fo_fh_36, fo_fb_37) => some ((fo_fR_34, fo_fS_35, fo_fh_36, fo_fb_37), (tr_tK, tr_tF, tr_tS, tr_tT, tr_tO, tr_tN, tr_tc)) else (f6_of N (7 : Int32) r_14 r_8 r_2 (tr_tK, tr_tF, tr_tS, tr_tT, tr_tO, tr_tN, tr_tc)).bind fun (r_20, (tr_tK_21, tr_tF_22, tr_tS_23, tr_tT_24, tr_tO_25, tr_tN_26, tr_tc_27)) => (f1_append r_20 (tr_tK_21, tr_tF_22, tr_tS_23, tr_tT_24, tr_tO_25, tr_tN_26, tr_tc_27) (fo_fR_15, fo_fS_16, fo_fh_17, fo_fb_18)).bind fun (fo_fR_29, fo_fS_30, fo_fh_31, fo_fb_32) => some ((fo_fR_29, fo_fS_30, fo_fh_31, fo_fb_32), (tr_tK_21, tr_tF_22, tr_tS_23, tr_tT_24, tr_tO_25, tr_tN_26, tr_tc_27))
set_option maxHeartbeats 4000000 in
set_option maxRecDepth 100000 in
theorem b1_endIf {V : EV} {p : Program} {l : Launch} {e : Env} {R : Room} {s : State} {m : MethodId} {args : Array Value} {below : List Frame} {meth : Method} {c : Code} {Q : State → Prop} {A : Nat → Prop} {kc ks : Nat} {ad : Nat → Nat} {top : TopS} {rd : RdS} {ra : Int32} {co : Nat → CoS} {mu : MuS} {ma : MaS} {mq : Nat} {mx : MxS} {fo_fR : Nat → Int32} {fo_fS : Nat → Int32} {fo_fh : Int32} {fo_fb : Int32} {tr_tK : Nat → Int32} {tr_tF : Nat → Int32} {tr_tS : Nat → Int32} {tr_tT : Nat → Int32} {tr_tO : Nat → Int32} {tr_tN : Nat → Int32} {tr_tc : Int32} {N : Nat} {res : FoS × TrS} (C : CX V p l R s m args c A kc ks RX1 cX1_endIf 4 3 66) (hf : f1_endIf N (fo_fR, fo_fS, fo_fh, fo_fb) (tr_tK, tr_tF, tr_tS, tr_tT, tr_tO, tr_tN, tr_tc) = some res) (K : RV V p l e R s m args below meth c Q A kc ks 4 cX1_endIf (wC V ad top rd ra co mu res.1 res.2 ma mq mx)) : WC V p l e R s m args below meth c Q A kc ks 4 (wC V ad top rd ra co mu (fo_fR, fo_fS, fo_fh, fo_fb) (tr_tK, tr_tF, tr_tS, tr_tT, tr_tO, tr_tN, tr_tc) ma mq mx) 0 [(0, .ref (ad 25))] [] := by
  rw [f1_endIf] at hf
  refine k_aload_n C dX1_endIf_0 0 rfl ?_
  obtain ⟨⟨r_2, ⟨fo_fR_3, fo_fS_4, fo_fh_5, fo_fb_6⟩⟩, hq_1, hf⟩ := ob_el hf
  dsimp only at hf
  refine k_callVi C (c1_pop C.2.2.2.2.2.2.2.2.2.1 hq_1) cm1_88 ok1_pop (by decide) 25 rfl rfl rfl rfl (Nat.le_of_ble_eq_true rfl) dX1_endIf_1 ?_
  refine k_istore_n C dX1_endIf_4 [(1, .int r_2), (0, .ref (ad 25))] (by decide) rfl ?_
  refine k_aload_n C dX1_endIf_5 1 rfl ?_
  obtain ⟨⟨r_8, ⟨fo_fR_9, fo_fS_10, fo_fh_11, fo_fb_12⟩⟩, hq_7, hf⟩ := ob_el hf
  dsimp only at hf
  refine k_callVi C (c1_pop C.2.2.2.2.2.2.2.2.2.1 hq_7) cm1_88 ok1_pop (by decide) 25 rfl rfl rfl rfl (Nat.le_of_ble_eq_true rfl) dX1_endIf_6 ?_
  refine k_istore_n C dX1_endIf_9 [(2, .int r_8), (1, .int r_2), (0, .ref (ad 25))] (by decide) rfl ?_
  refine k_aload_n C dX1_endIf_10 2 rfl ?_
  obtain ⟨⟨r_14, ⟨fo_fR_15, fo_fS_16, fo_fh_17, fo_fb_18⟩⟩, hq_13, hf⟩ := ob_el hf
  dsimp only at hf
  refine k_callVi C (c1_pop C.2.2.2.2.2.2.2.2.2.1 hq_13) cm1_88 ok1_pop (by decide) 25 rfl rfl rfl rfl (Nat.le_of_ble_eq_true rfl) dX1_endIf_11 ?_
  refine k_istore_n C dX1_endIf_14 [(3, .int r_14), (2, .int r_8), (1, .int r_2), (0, .ref (ad 25))] (by decide) rfl ?_
  refine k_iload_n C dX1_endIf_15 0 rfl ?_
  refine k_iconst (v := (2 : Int32)) C dX1_endIf_16 (by decide) ?_
  refine k_icmp_ne C 28 dX1_endIf_17 (by decide) (fun hc => ?_) (fun hc => ?_)
  · replace hf := (if_neg hc).symm.trans hf
    refine k_iload_n C dX1_endIf_28 0 rfl ?_
    refine k_iconst (v := (3 : Int32)) C dX1_endIf_29 (by decide) ?_
    refine k_icmp_ne C 41 dX1_endIf_30 (by decide) (fun hc => ?_) (fun hc => ?_)
    · replace hf := (if_neg hc).symm.trans hf
      refine k_aload_n C dX1_endIf_41 3 rfl ?_
      refine k_aload_n C dX1_endIf_42 3 rfl ?_
      refine g1_12 C dX1_endIf_43 ?_
      refine k_bipush (v := (7 : Int32)) C dX1_endIf_46 (by decide) ?_
      refine k_iload_n C dX1_endIf_48 0 rfl ?_
      refine k_iload_n C dX1_endIf_49 1 rfl ?_
      refine k_iload_n C dX1_endIf_50 2 rfl ?_
      obtain ⟨⟨r_20, ⟨tr_tK_21, tr_tF_22, tr_tS_23, tr_tT_24, tr_tO_25, tr_tN_26, tr_tc_27⟩⟩, hq_19, hf⟩ := ob_el hf
      dsimp only at hf
      refine k_callVi C (c6_of C.2.2.2.2.2.2.2.2.2.1 hq_19) cm1_108 ok6_of (by decide) 26 rfl rfl rfl rfl (Nat.le_of_ble_eq_true rfl) dX1_endIf_51 ?_
      obtain ⟨⟨fo_fR_29, fo_fS_30, fo_fh_31, fo_fb_32⟩, hq_28, hf⟩ := ob_el hf
      dsimp only at hf
      refine k_callVv C (c1_append C.2.2.2.2.2.2.2.2.2.1 hq_28) cm1_118 ok1_append (by decide) 25 rfl rfl rfl rfl (Nat.le_of_ble_eq_true rfl) dX1_endIf_54 ?_
      cases hf
      exact K _ _ dX1_endIf_57
    · replace hf := (if_pos hc).symm.trans hf
      refine k_aload_n C dX1_endIf_33 3 rfl ?_
      refine k_iload_n C dX1_endIf_34 2 rfl ?_
      obtain ⟨⟨fo_fR_34, fo_fS_35, fo_fh_36, fo_fb_37⟩, hq_33, hf⟩ := ob_el hf
      dsimp only at hf
      refine k_callVv C (c1_appendAll C.2.2.2.2.2.2.2.2.2.1 hq_33) cm1_160 ok1_appendAll (by decide) 25 rfl rfl rfl rfl (Nat.le_of_ble_eq_true rfl) dX1_endIf_35 ?_
      refine k_goto C 57 dX1_endIf_38 (by decide) ?_
      cases hf
      exact K _ _ dX1_endIf_57
  · replace hf := (if_pos hc).symm.trans hf
    refine k_aload_n C dX1_endIf_20 3 rfl ?_
    refine k_iload_n C dX1_endIf_21 1 rfl ?_
    obtain ⟨⟨fo_fR_39, fo_fS_40, fo_fh_41, fo_fb_42⟩, hq_38, hf⟩ := ob_el hf
    dsimp only at hf
    refine k_callVv C (c1_appendAll C.2.2.2.2.2.2.2.2.2.1 hq_38) cm1_160 ok1_appendAll (by decide) 25 rfl rfl rfl rfl (Nat.le_of_ble_eq_true rfl) dX1_endIf_22 ?_
    refine k_goto C 57 dX1_endIf_25 (by decide) ?_
    cases hf
    exact K _ _ dX1_endIf_57
theorem c1_endIf {V : EV} {l : Launch} (hl0 : l.stackTraces = false) {ad : Nat → Nat} {top : TopS} {rd : RdS} {ra : Int32} {co : Nat → CoS} {mu : MuS} {ma : MaS} {mq : Nat} {mx : MxS} {fo_fR : Nat → Int32} {fo_fS : Nat → Int32} {fo_fh : Int32} {fo_fb : Int32} {tr_tK : Nat → Int32} {tr_tF : Nat → Int32} {tr_tS : Nat → Int32} {tr_tT : Nat → Int32} {tr_tO : Nat → Int32} {tr_tN : Nat → Int32} {tr_tc : Int32} {N : Nat} {res : FoS × TrS} (hf : f1_endIf N (fo_fR, fo_fS, fo_fh, fo_fb) (tr_tK, tr_tF, tr_tS, tr_tT, tr_tO, tr_tN, tr_tc) = some res) : MV V l yX1_endIf cX1_endIf 4 3 66 [.ref (ad 25)] (wC V ad top rd ra co mu (fo_fR, fo_fS, fo_fh, fo_fb) (tr_tK, tr_tF, tr_tS, tr_tT, tr_tO, tr_tN, tr_tc) ma mq mx) (wC V ad top rd ra co mu res.1 res.2 ma mq mx) :=
  mv_of hl0 (by decide +kernel) (Nat.le_of_ble_eq_true rfl) (fun p e R s m args below meth c Q A C K => b1_endIf C hf K)

theorem ok1_endWhile : okCV RX1 yX1_endWhile 0 := by unfold okCV; decide +kernel
def f1_endWhile (N : Nat)  : FoS → TrS → Option (FoS × TrS)
  | (fo_fR, fo_fS, fo_fh, fo_fb), (tr_tK, tr_tF, tr_tS, tr_tT, tr_tO, tr_tN, tr_tc) =>
    (f1_pop (fo_fR, fo_fS, fo_fh, fo_fb)).bind fun (r_2, (fo_fR_3, fo_fS_4, fo_fh_5, fo_fb_6)) => (f1_pop (fo_fR_3, fo_fS_4, fo_fh_5, fo_fb_6)).bind fun (r_8, (fo_fR_9, fo_fS_10, fo_fh_11, fo_fb_12)) => if r_8 = (3 : Int32) then some ((fo_fR_9, fo_fS_10, fo_fh_11, fo_fb_12), (tr_tK, tr_tF, tr_tS, tr_tT, tr_tO, tr_tN, tr_tc)) else (f6_of N (8 : Int32) r_8 r_2 (0 : Int32) (tr_tK, tr_tF, tr_tS, tr_tT, tr_tO, tr_tN, tr_tc)).bind fun (r_14, (tr_tK_15, tr_tF_16, tr_tS_17, tr_tT_18, tr_tO_19, tr_tN_20, tr_tc_21)) => (f1_append r_14 (tr_tK_15, tr_tF_16, tr_tS_17, tr_tT_18, tr_tO_19, tr_tN_20, tr_tc_21) (fo_fR_9, fo_fS_10, fo_fh_11, fo_fb_12)).bind fun (fo_fR_23, fo_fS_24, fo_fh_25, fo_fb_26) => some ((fo_fR_23, fo_fS_24, fo_fh_25, fo_fb_26), (tr_tK_15, tr_tF_16, tr_tS_17, tr_tT_18, tr_tO_19, tr_tN_20, tr_tc_21))
set_option maxHeartbeats 4000000 in
set_option maxRecDepth 100000 in
theorem b1_endWhile {V : EV} {p : Program} {l : Launch} {e : Env} {R : Room} {s : State} {m : MethodId} {args : Array Value} {below : List Frame} {meth : Method} {c : Code} {Q : State → Prop} {A : Nat → Prop} {kc ks : Nat} {ad : Nat → Nat} {top : TopS} {rd : RdS} {ra : Int32} {co : Nat → CoS} {mu : MuS} {ma : MaS} {mq : Nat} {mx : MxS} {fo_fR : Nat → Int32} {fo_fS : Nat → Int32} {fo_fh : Int32} {fo_fb : Int32} {tr_tK : Nat → Int32} {tr_tF : Nat → Int32} {tr_tS : Nat → Int32} {tr_tT : Nat → Int32} {tr_tO : Nat → Int32} {tr_tN : Nat → Int32} {tr_tc : Int32} {N : Nat} {res : FoS × TrS} (C : CX V p l R s m args c A kc ks RX1 cX1_endWhile 3 2 53) (hf : f1_endWhile N (fo_fR, fo_fS, fo_fh, fo_fb) (tr_tK, tr_tF, tr_tS, tr_tT, tr_tO, tr_tN, tr_tc) = some res) (K : RV V p l e R s m args below meth c Q A kc ks 3 cX1_endWhile (wC V ad top rd ra co mu res.1 res.2 ma mq mx)) : WC V p l e R s m args below meth c Q A kc ks 3 (wC V ad top rd ra co mu (fo_fR, fo_fS, fo_fh, fo_fb) (tr_tK, tr_tF, tr_tS, tr_tT, tr_tO, tr_tN, tr_tc) ma mq mx) 0 [(0, .ref (ad 25))] [] := by
  rw [f1_endWhile] at hf
  refine k_aload_n C dX1_endWhile_0 0 rfl ?_
  obtain ⟨⟨r_2, ⟨fo_fR_3, fo_fS_4, fo_fh_5, fo_fb_6⟩⟩, hq_1, hf⟩ := ob_el hf
  dsimp only at hf
  refine k_callVi C (c1_pop C.2.2.2.2.2.2.2.2.2.1 hq_1) cm1_88 ok1_pop (by decide) 25 rfl rfl rfl rfl (Nat.le_of_ble_eq_true rfl) dX1_endWhile_1 ?_
  refine k_istore_n C dX1_endWhile_4 [(1, .int r_2), (0, .ref (ad 25))] (by decide) rfl ?_
  refine k_aload_n C dX1_endWhile_5 1 rfl ?_
  obtain ⟨⟨r_8, ⟨fo_fR_9, fo_fS_10, fo_fh_11, fo_fb_12⟩⟩, hq_7, hf⟩ := ob_el hf
  dsimp only at hf
  refine k_callVi C (c1_pop C.2.2.2.2.2.2.2.2.2.1 hq_7) cm1_88 ok1_pop (by decide) 25 rfl rfl rfl rfl (Nat.le_of_ble_eq_true rfl) dX1_endWhile_6 ?_
  refine k_istore_n C dX1_endWhile_9 [(2, .int r_8), (1, .int r_2), (0, .ref (ad 25))] (by decide) rfl ?_
  refine k_iload_n C dX1_endWhile_10 0 rfl ?_
  refine k_iconst (v := (3 : Int32)) C dX1_endWhile_11 (by decide) ?_
  refine k_icmp_eq C 31 dX1_endWhile_12 (by decide) (fun hc => ?_) (fun hc => ?_)
  · replace hf := (if_pos hc).symm.trans hf
    cases hf
    exact K _ _ dX1_endWhile_31
  · replace hf := (if_neg hc).symm.trans hf
    refine k_aload_n C dX1_endWhile_15 2 rfl ?_
    refine k_aload_n C dX1_endWhile_16 2 rfl ?_
    refine g1_12 C dX1_endWhile_17 ?_
    refine k_bipush (v := (8 : Int32)) C dX1_endWhile_20 (by decide) ?_
    refine k_iload_n C dX1_endWhile_22 0 rfl ?_
    refine k_iload_n C dX1_endWhile_23 1 rfl ?_
    refine k_iconst (v := (0 : Int32)) C dX1_endWhile_24 (by decide) ?_
    obtain ⟨⟨r_14, ⟨tr_tK_15, tr_tF_16, tr_tS_17, tr_tT_18, tr_tO_19, tr_tN_20, tr_tc_21⟩⟩, hq_13, hf⟩ := ob_el hf
    dsimp only at hf
    refine k_callVi C (c6_of C.2.2.2.2.2.2.2.2.2.1 hq_13) cm1_108 ok6_of (by decide) 26 rfl rfl rfl rfl (Nat.le_of_ble_eq_true rfl) dX1_endWhile_25 ?_
    obtain ⟨⟨fo_fR_23, fo_fS_24, fo_fh_25, fo_fb_26⟩, hq_22, hf⟩ := ob_el hf
    dsimp only at hf
    refine k_callVv C (c1_append C.2.2.2.2.2.2.2.2.2.1 hq_22) cm1_118 ok1_append (by decide) 25 rfl rfl rfl rfl (Nat.le_of_ble_eq_true rfl) dX1_endWhile_28 ?_
    cases hf
    exact K _ _ dX1_endWhile_31
theorem c1_endWhile {V : EV} {l : Launch} (hl0 : l.stackTraces = false) {ad : Nat → Nat} {top : TopS} {rd : RdS} {ra : Int32} {co : Nat → CoS} {mu : MuS} {ma : MaS} {mq : Nat} {mx : MxS} {fo_fR : Nat → Int32} {fo_fS : Nat → Int32} {fo_fh : Int32} {fo_fb : Int32} {tr_tK : Nat → Int32} {tr_tF : Nat → Int32} {tr_tS : Nat → Int32} {tr_tT : Nat → Int32} {tr_tO : Nat → Int32} {tr_tN : Nat → Int32} {tr_tc : Int32} {N : Nat} {res : FoS × TrS} (hf : f1_endWhile N (fo_fR, fo_fS, fo_fh, fo_fb) (tr_tK, tr_tF, tr_tS, tr_tT, tr_tO, tr_tN, tr_tc) = some res) : MV V l yX1_endWhile cX1_endWhile 3 2 53 [.ref (ad 25)] (wC V ad top rd ra co mu (fo_fR, fo_fS, fo_fh, fo_fb) (tr_tK, tr_tF, tr_tS, tr_tT, tr_tO, tr_tN, tr_tc) ma mq mx) (wC V ad top rd ra co mu res.1 res.2 ma mq mx) :=
  mv_of hl0 (by decide +kernel) (Nat.le_of_ble_eq_true rfl) (fun p e R s m args below meth c Q A C K => b1_endWhile C hf K)

theorem cm1_57 : ∀ a ∈ wsCV RX1 57 RX1 yX1_openRow cX1_openRow 1 none, a ∈ GW := by
  unfold wsCV
  exact (List.forall_mem_cons.mpr ⟨(gw_3 (i := 203) (by decide +kernel) rfl), (List.forall_mem_cons.mpr ⟨(gw_3 (i := 205) (by decide +kernel) rfl), (List.forall_mem_cons.mpr ⟨(gw_p (q := ((yX1_openRow, 5) : MethodName × Nat)) (List.mem_append_right _ (List.mem_append_left _ (List.mem_of_getElem? (i := 13) (by decide +kernel)))) rfl), (List.forall_mem_cons.mpr ⟨(gw_1 (i := 5) (by decide +kernel) rfl), (List.forall_mem_cons.mpr ⟨(gw_3 (i := 206) (by decide +kernel) rfl), (List.forall_mem_nil _)⟩)⟩)⟩)⟩)⟩)
theorem cm1_85 : ∀ a ∈ wsCV RX1 85 RX1 yX1_closeRow cX1_closeRow 4 none, a ∈ GW := by
  unfold wsCV
  exact (List.forall_mem_cons.mpr ⟨(gw_4 (i := 49) (by decide +kernel) rfl), (List.forall_mem_cons.mpr ⟨(gw_4 (i := 51) (by decide +kernel) rfl), (List.forall_mem_cons.mpr ⟨(gw_p (q := ((yX1_closeRow, 5) : MethodName × Nat)) (List.mem_append_right _ (List.mem_append_right _ (List.mem_append_left _ (List.mem_of_getElem? (i := 10) (by decide +kernel))))) rfl), (List.forall_mem_cons.mpr ⟨(gw_1 (i := 5) (by decide +kernel) rfl), (List.forall_mem_cons.mpr ⟨(gw_4 (i := 52) (by decide +kernel) rfl), (List.forall_mem_nil _)⟩)⟩)⟩)⟩)⟩)
theorem cm1_92 : ∀ a ∈ wsCV RX1 92 RX1 yX1_apply cX1_apply 5 none, a ∈ GW := by
  unfold wsCV
  exact (List.forall_mem_cons.mpr ⟨(gw_3 (i := 219) (by decide +kernel) rfl), (List.forall_mem_cons.mpr ⟨(gw_3 (i := 221) (by decide +kernel) rfl), (List.forall_mem_cons.mpr ⟨(gw_p (q := ((yX1_apply, 5) : MethodName × Nat)) (List.mem_append_right _ (List.mem_append_right _ (List.mem_append_left _ (List.mem_of_getElem? (i := 0) (by decide +kernel))))) rfl), (List.forall_mem_cons.mpr ⟨(gw_1 (i := 5) (by decide +kernel) rfl), (List.forall_mem_cons.mpr ⟨(gw_3 (i := 222) (by decide +kernel) rfl), (List.forall_mem_nil _)⟩)⟩)⟩)⟩)⟩)
theorem cm1_96 : ∀ a ∈ wsCV RX1 96 RX1 yX1_compare cX1_compare 5 none, a ∈ GW := by
  unfold wsCV
  exact (List.forall_mem_cons.mpr ⟨(gw_4 (i := 26) (by decide +kernel) rfl), (List.forall_mem_cons.mpr ⟨(gw_4 (i := 28) (by decide +kernel) rfl), (List.forall_mem_cons.mpr ⟨(gw_p (q := ((yX1_compare, 5) : MethodName × Nat)) (List.mem_append_right _ (List.mem_append_right _ (List.mem_append_left _ (List.mem_of_getElem? (i := 5) (by decide +kernel))))) rfl), (List.forall_mem_cons.mpr ⟨(gw_1 (i := 5) (by decide +kernel) rfl), (List.forall_mem_cons.mpr ⟨(gw_4 (i := 29) (by decide +kernel) rfl), (List.forall_mem_nil _)⟩)⟩)⟩)⟩)⟩)
theorem cm1_99 : ∀ a ∈ wsCV RX1 99 RX1 yX1_join cX1_join 6 none, a ∈ GW := by
  unfold wsCV
  exact (List.forall_mem_cons.mpr ⟨(gw_4 (i := 33) (by decide +kernel) rfl), (List.forall_mem_cons.mpr ⟨(gw_4 (i := 35) (by decide +kernel) rfl), (List.forall_mem_cons.mpr ⟨(gw_p (q := ((yX1_join, 5) : MethodName × Nat)) (List.mem_append_right _ (List.mem_append_right _ (List.mem_append_left _ (List.mem_of_getElem? (i := 6) (by decide +kernel))))) rfl), (List.forall_mem_cons.mpr ⟨(gw_1 (i := 5) (by decide +kernel) rfl), (List.forall_mem_cons.mpr ⟨(gw_4 (i := 36) (by decide +kernel) rfl), (List.forall_mem_nil _)⟩)⟩)⟩)⟩)⟩)
theorem cm1_112 : ∀ a ∈ wsCV RX1 112 RX1 yX1_store cX1_store 4 none, a ∈ GW := by
  unfold wsCV
  exact (List.forall_mem_cons.mpr ⟨(gw_4 (i := 37) (by decide +kernel) rfl), (List.forall_mem_cons.mpr ⟨(gw_4 (i := 39) (by decide +kernel) rfl), (List.forall_mem_cons.mpr ⟨(gw_p (q := ((yX1_store, 5) : MethodName × Nat)) (List.mem_append_right _ (List.mem_append_right _ (List.mem_append_left _ (List.mem_of_getElem? (i := 7) (by decide +kernel))))) rfl), (List.forall_mem_cons.mpr ⟨(gw_1 (i := 5) (by decide +kernel) rfl), (List.forall_mem_cons.mpr ⟨(gw_4 (i := 40) (by decide +kernel) rfl), (List.forall_mem_nil _)⟩)⟩)⟩)⟩)⟩)
theorem cm1_115 : ∀ a ∈ wsCV RX1 115 RX1 yX1_check cX1_check 2 none, a ∈ GW := by
  unfold wsCV
  exact (List.forall_mem_cons.mpr ⟨(gw_4 (i := 45) (by decide +kernel) rfl), (List.forall_mem_cons.mpr ⟨(gw_4 (i := 47) (by decide +kernel) rfl), (List.forall_mem_cons.mpr ⟨(gw_p (q := ((yX1_check, 5) : MethodName × Nat)) (List.mem_append_right _ (List.mem_append_right _ (List.mem_append_left _ (List.mem_of_getElem? (i := 9) (by decide +kernel))))) rfl), (List.forall_mem_cons.mpr ⟨(gw_1 (i := 5) (by decide +kernel) rfl), (List.forall_mem_cons.mpr ⟨(gw_4 (i := 48) (by decide +kernel) rfl), (List.forall_mem_nil _)⟩)⟩)⟩)⟩)⟩)
theorem cm1_121 : ∀ a ∈ wsCV RX1 121 RX1 yX1_endIf cX1_endIf 4 none, a ∈ GW := by
  unfold wsCV
  exact (List.forall_mem_cons.mpr ⟨(gw_4 (i := 53) (by decide +kernel) rfl), (List.forall_mem_cons.mpr ⟨(gw_4 (i := 55) (by decide +kernel) rfl), (List.forall_mem_cons.mpr ⟨(gw_p (q := ((yX1_endIf, 5) : MethodName × Nat)) (List.mem_append_right _ (List.mem_append_right _ (List.mem_append_left _ (List.mem_of_getElem? (i := 11) (by decide +kernel))))) rfl), (List.forall_mem_cons.mpr ⟨(gw_1 (i := 5) (by decide +kernel) rfl), (List.forall_mem_cons.mpr ⟨(gw_4 (i := 56) (by decide +kernel) rfl), (List.forall_mem_nil _)⟩)⟩)⟩)⟩)⟩)
theorem cm1_124 : ∀ a ∈ wsCV RX1 124 RX1 yX1_endWhile cX1_endWhile 3 none, a ∈ GW := by
  unfold wsCV
  exact (List.forall_mem_cons.mpr ⟨(gw_4 (i := 61) (by decide +kernel) rfl), (List.forall_mem_cons.mpr ⟨(gw_4 (i := 63) (by decide +kernel) rfl), (List.forall_mem_cons.mpr ⟨(gw_p (q := ((yX1_endWhile, 5) : MethodName × Nat)) (List.mem_append_right _ (List.mem_append_right _ (List.mem_append_left _ (List.mem_of_getElem? (i := 13) (by decide +kernel))))) rfl), (List.forall_mem_cons.mpr ⟨(gw_1 (i := 5) (by decide +kernel) rfl), (List.forall_mem_cons.mpr ⟨(gw_4 (i := 64) (by decide +kernel) rfl), (List.forall_mem_nil _)⟩)⟩)⟩)⟩)⟩)
theorem ok1_step : okCV RX1 yX1_step 3 := by unfold okCV; decide +kernel
def f1_step (N : Nat) (v1 : Int32) (v2 : Int32) (v3 : Int32) : FoS → TrS → Option (FoS × TrS)
  | (fo_fR, fo_fS, fo_fh, fo_fb), (tr_tK, tr_tF, tr_tS, tr_tT, tr_tO, tr_tN, tr_tc) =>
    if v1 = (0 : Int32) then (f1_apply N v3 (fo_fR, fo_fS, fo_fh, fo_fb) (tr_tK, tr_tF, tr_tS, tr_tT, tr_tO, tr_tN, tr_tc)).bind fun ((fo_fR_2, fo_fS_3, fo_fh_4, fo_fb_5), (tr_tK_6, tr_tF_7, tr_tS_8, tr_tT_9, tr_tO_10, tr_tN_11, tr_tc_12)) => some ((fo_fR_2, fo_fS_3, fo_fh_4, fo_fb_5), (tr_tK_6, tr_tF_7, tr_tS_8, tr_tT_9, tr_tO_10, tr_tN_11, tr_tc_12)) else if v1 = (1 : Int32) then (f1_compare N v3 (fo_fR, fo_fS, fo_fh, fo_fb) (tr_tK, tr_tF, tr_tS, tr_tT, tr_tO, tr_tN, tr_tc)).bind fun ((fo_fR_14, fo_fS_15, fo_fh_16, fo_fb_17), (tr_tK_18, tr_tF_19, tr_tS_20, tr_tT_21, tr_tO_22, tr_tN_23, tr_tc_24)) => some ((fo_fR_14, fo_fS_15, fo_fh_16, fo_fb_17), (tr_tK_18, tr_tF_19, tr_tS_20, tr_tT_21, tr_tO_22, tr_tN_23, tr_tc_24)) else if v1 = (3 : Int32) then (f6_constant N v3 (tr_tK, tr_tF, tr_tS, tr_tT, tr_tO, tr_tN, tr_tc)).bind fun (r_26, (tr_tK_27, tr_tF_28, tr_tS_29, tr_tT_30, tr_tO_31, tr_tN_32, tr_tc_33)) => (f1_push r_26 (fo_fR, fo_fS, fo_fh, fo_fb)).bind fun (fo_fR_35, fo_fS_36, fo_fh_37, fo_fb_38) => some ((fo_fR_35, fo_fS_36, fo_fh_37, fo_fb_38), (tr_tK_27, tr_tF_28, tr_tS_29, tr_tT_30, tr_tO_31, tr_tN_32, tr_tc_33)) else if v1 = (5 : Int32) then (f6_of N (2 : Int32) v2 (0 : Int32) (0 : Int32) (tr_tK, tr_tF, tr_tS, tr_tT, tr_tO, tr_tN, tr_tc)).bind fun (r_40, (tr_tK_41, tr_tF_42, tr_tS_43, tr_tT_44, tr_tO_45, tr_tN_46, tr_tc_47)) => (f1_push r_40 (fo_fR, fo_fS, fo_fh, fo_fb)).bind fun (fo_fR_49, fo_fS_50, fo_fh_51, fo_fb_52) => some ((fo_fR_49, fo_fS_50, fo_fh_51, fo_fb_52), (tr_tK_41, tr_tF_42, tr_tS_43, tr_tT_44, tr_tO_45, tr_tN_46, tr_tc_47)) else if v1 = (6 : Int32) then (f1_join N v3 (fo_fR, fo_fS, fo_fh, fo_fb) (tr_tK, tr_tF, tr_tS, tr_tT, tr_tO, tr_tN, tr_tc)).bind fun ((fo_fR_54, fo_fS_55, fo_fh_56, fo_fb_57), (tr_tK_58, tr_tF_59, tr_tS_60, tr_tT_61, tr_tO_62, tr_tN_63, tr_tc_64)) => some ((fo_fR_54, fo_fS_55, fo_fh_56, fo_fb_57), (tr_tK_58, tr_tF_59, tr_tS_60, tr_tT_61, tr_tO_62, tr_tN_63, tr_tc_64)) else if v1 = (7 : Int32) then (f1_store N v2 (fo_fR, fo_fS, fo_fh, fo_fb) (tr_tK, tr_tF, tr_tS, tr_tT, tr_tO, tr_tN, tr_tc)).bind fun ((fo_fR_66, fo_fS_67, fo_fh_68, fo_fb_69), (tr_tK_70, tr_tF_71, tr_tS_72, tr_tT_73, tr_tO_74, tr_tN_75, tr_tc_76)) => some ((fo_fR_66, fo_fS_67, fo_fh_68, fo_fb_69), (tr_tK_70, tr_tF_71, tr_tS_72, tr_tT_73, tr_tO_74, tr_tN_75, tr_tc_76)) else if v1 = (8 : Int32) then (f1_check N (fo_fR, fo_fS, fo_fh, fo_fb) (tr_tK, tr_tF, tr_tS, tr_tT, tr_tO, tr_tN, tr_tc)).bind fun ((fo_fR_78, fo_fS_79, fo_fh_80, fo_fb_81), (tr_tK_82, tr_tF_83, tr_tS_84, tr_tT_85, tr_tO_86, tr_tN_87, tr_tc_88)) => some ((fo_fR_78, fo_fS_79, fo_fh_80, fo_fb_81), (tr_tK_82, tr_tF_83, tr_tS_84, tr_tT_85, tr_tO_86, tr_tN_87, tr_tc_88)) else if v1 = (9 : Int32) then (f1_pop (fo_fR, fo_fS, fo_fh, fo_fb)).bind fun (r_90, (fo_fR_91, fo_fS_92, fo_fh_93, fo_fb_94)) => (f6_of N (6 : Int32) r_90 (0 : Int32) (0 : Int32) (tr_tK, tr_tF, tr_tS, tr_tT, tr_tO, tr_tN, tr_tc)).bind fun (r_96, (tr_tK_97, tr_tF_98, tr_tS_99, tr_tT_100, tr_tO_101, tr_tN_102, tr_tc_103)) => (f1_append r_96 (tr_tK_97, tr_tF_98, tr_tS_99, tr_tT_100, tr_tO_101, tr_tN_102, tr_tc_103) (fo_fR_91, fo_fS_92, fo_fh_93, fo_fb_94)).bind fun (fo_fR_105, fo_fS_106, fo_fh_107, fo_fb_108) => some ((fo_fR_105, fo_fS_106, fo_fh_107, fo_fb_108), (tr_tK_97, tr_tF_98, tr_tS_99, tr_tT_100, tr_tO_101, tr_tN_102, tr_tc_103)) else if v1 = (10 : Int32) then (f1_openRow (fo_fR, fo_fS, fo_fh, fo_fb)).bind fun (fo_fR_110, fo_fS_111, fo_fh_112, fo_fb_113) => some ((fo_fR_110, fo_fS_111, fo_fh_112, fo_fb_113), (tr_tK, tr_tF, tr_tS, tr_tT, tr_tO, tr_tN, tr_tc)) else if v1 = (11 : Int32) then (f1_closeRow N (fo_fR, fo_fS, fo_fh, fo_fb) (tr_tK, tr_tF, tr_tS, tr_tT, tr_tO, tr_tN, tr_tc)).bind fun ((fo_fR_115, fo_fS_116, fo_fh_117, fo_fb_118), (tr_tK_119, tr_tF_120, tr_tS_121, tr_tT_122, tr_tO_123, tr_tN_124, tr_tc_125)) => (f1_openRow (fo_fR_115, fo_fS_116, fo_fh_117, fo_fb_118)).bind fun (fo_fR_127, fo_fS_128, fo_fh_129, fo_fb_130) => some ((fo_fR_127, fo_fS_128, fo_fh_129, fo_fb_130), (tr_tK_119, tr_tF_120, tr_tS_121, tr_tT_122, tr_tO_123, tr_tN_124, tr_tc_125)) else if v1 = (12 : Int32) then (f1_closeRow N (fo_fR, fo_fS, fo_fh, fo_fb) (tr_tK, tr_tF, tr_tS, tr_tT, tr_tO, tr_tN, tr_tc)).bind fun ((fo_fR_132, fo_fS_133, fo_fh_134, fo_fb_135), (tr_tK_136, tr_tF_137, tr_tS_138, tr_tT_139, tr_tO_140, tr_tN_141, tr_tc_142)) => (f1_endIf N (fo_fR_132, fo_fS_133, fo_fh_134, fo_fb_135) (tr_tK_136, tr_tF_137, tr_tS_138, tr_tT_139, tr_tO_140, tr_tN_141, tr_tc_142)).bind fun ((fo_fR_144, fo_fS_145, fo_fh_146, fo_fb_147), (tr_tK_148, tr_tF_149, tr_tS_150, tr_tT_151, tr_tO_152, tr_tN_153, tr_tc_154)) => some ((fo_fR_144, fo_fS_145, fo_fh_146, fo_fb_147), (tr_tK_148, tr_tF_149, tr_tS_150, tr_tT_151, tr_tO_152, tr_tN_153, tr_tc_154)) else if v1 = (13 : Int32) then (f1_openRow (fo_fR, fo_fS, fo_fh, fo_fb)).bind fun (fo_fR_156, fo_fS_157, fo_fh_158, fo_fb_159) => some ((fo_fR_156, fo_fS_157, fo_fh_158, fo_fb_159), (tr_tK, tr_tF, tr_tS, tr_tT, tr_tO, tr_tN, tr_tc)) else if v1 = (14 : Int32) then (f1_closeRow N (fo_fR, fo_fS, fo_fh, fo_fb) (tr_tK, tr_tF, tr_tS, tr_tT, tr_tO, tr_tN, tr_tc)).bind fun ((fo_fR_161, fo_fS_162, fo_fh_163, fo_fb_164), (tr_tK_165, tr_tF_166, tr_tS_167, tr_tT_168, tr_tO_169, tr_tN_170, tr_tc_171)) => (f1_endWhile N (fo_fR_161, fo_fS_162, fo_fh_163, fo_fb_164) (tr_tK_165, tr_tF_166, tr_tS_167, tr_tT_168, tr_tO_169, tr_tN_170, tr_tc_171)).bind fun ((fo_fR_173, fo_fS_174, fo_fh_175, fo_fb_176), (tr_tK_177, tr_tF_178, tr_tS_179, tr_tT_180, tr_tO_181, tr_tN_182, tr_tc_183)) => some ((fo_fR_173, fo_fS_174, fo_fh_175, fo_fb_176), (tr_tK_177, tr_tF_178, tr_tS_179, tr_tT_180, tr_tO_181, tr_tN_182, tr_tc_183)) else some ((fo_fR, fo_fS, fo_fh, fo_fb), (tr_tK, tr_tF, tr_tS, tr_tT, tr_tO, tr_tN, tr_tc))
set_option maxHeartbeats 4000000 in
set_option maxRecDepth 100000 in
theorem b1_step {V : EV} {p : Program} {l : Launch} {e : Env} {R : Room} {s : State} {m : MethodId} {args : Array Value} {below : List Frame} {meth : Method} {c : Code} {Q : State → Prop} {A : Nat → Prop} {kc ks : Nat} {ad : Nat → Nat} {top : TopS} {rd : RdS} {ra : Int32} {co : Nat → CoS} {mu : MuS} {ma : MaS} {mq : Nat} {mx : MxS} {v1 : Int32} {v2 : Int32} {v3 : Int32} {fo_fR : Nat → Int32} {fo_fS : Nat → Int32} {fo_fh : Int32} {fo_fb : Int32} {tr_tK : Nat → Int32} {tr_tF : Nat → Int32} {tr_tS : Nat → Int32} {tr_tT : Nat → Int32} {tr_tO : Nat → Int32} {tr_tN : Nat → Int32} {tr_tc : Int32} {N : Nat} {res : FoS × TrS} (C : CX V p l R s m args c A kc ks RX1 cX1_step 4 4 98) (hf : f1_step N v1 v2 v3 (fo_fR, fo_fS, fo_fh, fo_fb) (tr_tK, tr_tF, tr_tS, tr_tT, tr_tO, tr_tN, tr_tc) = some res) (K : RV V p l e R s m args below meth c Q A kc ks 4 cX1_step (wC V ad top rd ra co mu res.1 res.2 ma mq mx)) : WC V p l e R s m args below meth c Q A kc ks 4 (wC V ad top rd ra co mu (fo_fR, fo_fS, fo_fh, fo_fb) (tr_tK, tr_tF, tr_tS, tr_tT, tr_tO, tr_tN, tr_tc) ma mq mx) 0 [(0, .ref (ad 25)), (1, .int v1), (2, .int v2), (3, .int v3)] [] := by
  rw [f1_step] at hf
  refine k_iload_n C dX1_step_0 1 rfl ?_
  have hx0 : ∀ n : Int32, v1 = n → v1.toInt = n.toInt := fun n h => by rw [h]
  by_cases hc : v1 = (0 : Int32)
  · replace hf := (if_pos hc).symm.trans hf
    refine k_tableIn C 76 dX1_step_1 (by rw [hx0 _ hc]; decide) (by rw [hx0 _ hc]; decide) (by rw [hx0 _ hc]; rfl) (by decide) ?_
    refine k_aload_n C dX1_step_76 0 rfl ?_
    refine k_iload_n C dX1_step_77 3 rfl ?_
    obtain ⟨⟨⟨fo_fR_2, fo_fS_3, fo_fh_4, fo_fb_5⟩, ⟨tr_tK_6, tr_tF_7, tr_tS_8, tr_tT_9, tr_tO_10, tr_tN_11, tr_tc_12⟩⟩, hq_1, hf⟩ := ob_el hf
    dsimp only at hf
    refine k_callVv C (c1_apply C.2.2.2.2.2.2.2.2.2.1 hq_1) cm1_92 ok1_apply (by decide) 25 rfl rfl rfl rfl (Nat.le_of_ble_eq_true rfl) dX1_step_78 ?_
    refine k_goto C 210 dX1_step_81 (by decide) ?_
    cases hf
    exact K _ _ dX1_step_210
  replace hf := (if_neg hc).symm.trans hf
  have hn0 := sw_ne hc
  by_cases hc : v1 = (1 : Int32)
  · replace hf := (if_pos hc).symm.trans hf
    refine k_tableIn C 84 dX1_step_1 (by rw [hx0 _ hc]; decide) (by rw [hx0 _ hc]; decide) (by rw [hx0 _ hc]; rfl) (by decide) ?_
    refine k_aload_n C dX1_step_84 0 rfl ?_
    refine k_iload_n C dX1_step_85 3 rfl ?_
    obtain ⟨⟨⟨fo_fR_14, fo_fS_15, fo_fh_16, fo_fb_17⟩, ⟨tr_tK_18, tr_tF_19, tr_tS_20, tr_tT_21, tr_tO_22, tr_tN_23, tr_tc_24⟩⟩, hq_13, hf⟩ := ob_el hf
    dsimp only at hf
    refine k_callVv C (c1_compare C.2.2.2.2.2.2.2.2.2.1 hq_13) cm1_96 ok1_compare (by decide) 25 rfl rfl rfl rfl (Nat.le_of_ble_eq_true rfl) dX1_step_86 ?_
    refine k_goto C 210 dX1_step_89 (by decide) ?_
    cases hf
    exact K _ _ dX1_step_210
  replace hf := (if_neg hc).symm.trans hf
  have hn1 := sw_ne hc
  by_cases hc : v1 = (3 : Int32)
  · replace hf := (if_pos hc).symm.trans hf
    refine k_tableIn C 100 dX1_step_1 (by rw [hx0 _ hc]; decide) (by rw [hx0 _ hc]; decide) (by rw [hx0 _ hc]; rfl) (by decide) ?_
    refine k_aload_n C dX1_step_100 0 rfl ?_
    refine k_aload_n C dX1_step_101 0 rfl ?_
    refine g1_12 C dX1_step_102 ?_
    refine k_iload_n C dX1_step_105 3 rfl ?_
    obtain ⟨⟨r_26, ⟨tr_tK_27, tr_tF_28, tr_tS_29, tr_tT_30, tr_tO_31, tr_tN_32, tr_tc_33⟩⟩, hq_25, hf⟩ := ob_el hf
    dsimp only at hf
    refine k_callVi C (c6_constant C.2.2.2.2.2.2.2.2.2.1 hq_25) cm1_102 ok6_constant (by decide) 26 rfl rfl rfl rfl (Nat.le_of_ble_eq_true rfl) dX1_step_106 ?_
    obtain ⟨⟨fo_fR_35, fo_fS_36, fo_fh_37, fo_fb_38⟩, hq_34, hf⟩ := ob_el hf
    dsimp only at hf
    refine k_callVv C (c1_push C.2.2.2.2.2.2.2.2.2.1 hq_34) cm1_105 ok1_push (by decide) 25 rfl rfl rfl rfl (Nat.le_of_ble_eq_true rfl) dX1_step_109 ?_
    refine k_goto C 210 dX1_step_112 (by decide) ?_
    cases hf
    exact K _ _ dX1_step_210
  replace hf := (if_neg hc).symm.trans hf
  have hn3 := sw_ne hc
  by_cases hc : v1 = (5 : Int32)
  · replace hf := (if_pos hc).symm.trans hf
    refine k_tableIn C 115 dX1_step_1 (by rw [hx0 _ hc]; decide) (by rw [hx0 _ hc]; decide) (by rw [hx0 _ hc]; rfl) (by decide) ?_
    refine k_aload_n C dX1_step_115 0 rfl ?_
    refine k_aload_n C dX1_step_116 0 rfl ?_
    refine g1_12 C dX1_step_117 ?_
    refine k_iconst (v := (2 : Int32)) C dX1_step_120 (by decide) ?_
    refine k_iload_n C dX1_step_121 2 rfl ?_
    refine k_iconst (v := (0 : Int32)) C dX1_step_122 (by decide) ?_
    refine k_iconst (v := (0 : Int32)) C dX1_step_123 (by decide) ?_
    obtain ⟨⟨r_40, ⟨tr_tK_41, tr_tF_42, tr_tS_43, tr_tT_44, tr_tO_45, tr_tN_46, tr_tc_47⟩⟩, hq_39, hf⟩ := ob_el hf
    dsimp only at hf
    refine k_callVi C (c6_of C.2.2.2.2.2.2.2.2.2.1 hq_39) cm1_108 ok6_of (by decide) 26 rfl rfl rfl rfl (Nat.le_of_ble_eq_true rfl) dX1_step_124 ?_
    obtain ⟨⟨fo_fR_49, fo_fS_50, fo_fh_51, fo_fb_52⟩, hq_48, hf⟩ := ob_el hf
    dsimp only at hf
    refine k_callVv C (c1_push C.2.2.2.2.2.2.2.2.2.1 hq_48) cm1_105 ok1_push (by decide) 25 rfl rfl rfl rfl (Nat.le_of_ble_eq_true rfl) dX1_step_127 ?_
    refine k_goto C 210 dX1_step_130 (by decide) ?_
    cases hf
    exact K _ _ dX1_step_210
  replace hf := (if_neg hc).symm.trans hf
  have hn5 := sw_ne hc
  by_cases hc : v1 = (6 : Int32)
  · replace hf := (if_pos hc).symm.trans hf
    refine k_tableIn C 92 dX1_step_1 (by rw [hx0 _ hc]; decide) (by rw [hx0 _ hc]; decide) (by rw [hx0 _ hc]; rfl) (by decide) ?_
    refine k_aload_n C dX1_step_92 0 rfl ?_
    refine k_iload_n C dX1_step_93 3 rfl ?_
    obtain ⟨⟨⟨fo_fR_54, fo_fS_55, fo_fh_56, fo_fb_57⟩, ⟨tr_tK_58, tr_tF_59, tr_tS_60, tr_tT_61, tr_tO_62, tr_tN_63, tr_tc_64⟩⟩, hq_53, hf⟩ := ob_el hf
    dsimp only at hf
    refine k_callVv C (c1_join C.2.2.2.2.2.2.2.2.2.1 hq_53) cm1_99 ok1_join (by decide) 25 rfl rfl rfl rfl (Nat.le_of_ble_eq_true rfl) dX1_step_94 ?_
    refine k_goto C 210 dX1_step_97 (by decide) ?_
    cases hf
    exact K _ _ dX1_step_210
  replace hf := (if_neg hc).symm.trans hf
  have hn6 := sw_ne hc
  by_cases hc : v1 = (7 : Int32)
  · replace hf := (if_pos hc).symm.trans hf
    refine k_tableIn C 133 dX1_step_1 (by rw [hx0 _ hc]; decide) (by rw [hx0 _ hc]; decide) (by rw [hx0 _ hc]; rfl) (by decide) ?_
    refine k_aload_n C dX1_step_133 0 rfl ?_
    refine k_iload_n C dX1_step_134 2 rfl ?_
    obtain ⟨⟨⟨fo_fR_66, fo_fS_67, fo_fh_68, fo_fb_69⟩, ⟨tr_tK_70, tr_tF_71, tr_tS_72, tr_tT_73, tr_tO_74, tr_tN_75, tr_tc_76⟩⟩, hq_65, hf⟩ := ob_el hf
    dsimp only at hf
    refine k_callVv C (c1_store C.2.2.2.2.2.2.2.2.2.1 hq_65) cm1_112 ok1_store (by decide) 25 rfl rfl rfl rfl (Nat.le_of_ble_eq_true rfl) dX1_step_135 ?_
    refine k_goto C 210 dX1_step_138 (by decide) ?_
    cases hf
    exact K _ _ dX1_step_210
  replace hf := (if_neg hc).symm.trans hf
  have hn7 := sw_ne hc
  by_cases hc : v1 = (8 : Int32)
  · replace hf := (if_pos hc).symm.trans hf
    refine k_tableIn C 141 dX1_step_1 (by rw [hx0 _ hc]; decide) (by rw [hx0 _ hc]; decide) (by rw [hx0 _ hc]; rfl) (by decide) ?_
    refine k_aload_n C dX1_step_141 0 rfl ?_
    obtain ⟨⟨⟨fo_fR_78, fo_fS_79, fo_fh_80, fo_fb_81⟩, ⟨tr_tK_82, tr_tF_83, tr_tS_84, tr_tT_85, tr_tO_86, tr_tN_87, tr_tc_88⟩⟩, hq_77, hf⟩ := ob_el hf
    dsimp only at hf
    refine k_callVv C (c1_check C.2.2.2.2.2.2.2.2.2.1 hq_77) cm1_115 ok1_check (by decide) 25 rfl rfl rfl rfl (Nat.le_of_ble_eq_true rfl) dX1_step_142 ?_
    refine k_goto C 210 dX1_step_145 (by decide) ?_
    cases hf
    exact K _ _ dX1_step_210
  replace hf := (if_neg hc).symm.trans hf
  have hn8 := sw_ne hc
  by_cases hc : v1 = (9 : Int32)
  · replace hf := (if_pos hc).symm.trans hf
    refine k_tableIn C 148 dX1_step_1 (by rw [hx0 _ hc]; decide) (by rw [hx0 _ hc]; decide) (by rw [hx0 _ hc]; rfl) (by decide) ?_
    refine k_aload_n C dX1_step_148 0 rfl ?_
    refine k_aload_n C dX1_step_149 0 rfl ?_
    refine g1_12 C dX1_step_150 ?_
    refine k_bipush (v := (6 : Int32)) C dX1_step_153 (by decide) ?_
    refine k_aload_n C dX1_step_155 0 rfl ?_
    obtain ⟨⟨r_90, ⟨fo_fR_91, fo_fS_92, fo_fh_93, fo_fb_94⟩⟩, hq_89, hf⟩ := ob_el hf
    dsimp only at hf
    refine k_callVi C (c1_pop C.2.2.2.2.2.2.2.2.2.1 hq_89) cm1_88 ok1_pop (by decide) 25 rfl rfl rfl rfl (Nat.le_of_ble_eq_true rfl) dX1_step_156 ?_
    refine k_iconst (v := (0 : Int32)) C dX1_step_159 (by decide) ?_
    refine k_iconst (v := (0 : Int32)) C dX1_step_160 (by decide) ?_
    obtain ⟨⟨r_96, ⟨tr_tK_97, tr_tF_98, tr_tS_99, tr_tT_100, tr_tO_101, tr_tN_102, tr_tc_103⟩⟩, hq_95, hf⟩ := ob_el hf
    dsimp only at hf
    refine k_callVi C (c6_of C.2.2.2.2.2.2.2.2.2.1 hq_95) cm1_108 ok6_of (by decide) 26 rfl rfl rfl rfl (Nat.le_of_ble_eq_true rfl) dX1_step_161 ?_
    obtain ⟨⟨fo_fR_105, fo_fS_106, fo_fh_107, fo_fb_108⟩, hq_104, hf⟩ := ob_el hf
    dsimp only at hf
    refine k_callVv C (c1_append C.2.2.2.2.2.2.2.2.2.1 hq_104) cm1_118 ok1_append (by decide) 25 rfl rfl rfl rfl (Nat.le_of_ble_eq_true rfl) dX1_step_164 ?_
    refine k_goto C 210 dX1_step_167 (by decide) ?_
    cases hf
    exact K _ _ dX1_step_210
  replace hf := (if_neg hc).symm.trans hf
  have hn9 := sw_ne hc
  by_cases hc : v1 = (10 : Int32)
  · replace hf := (if_pos hc).symm.trans hf
    refine k_tableIn C 170 dX1_step_1 (by rw [hx0 _ hc]; decide) (by rw [hx0 _ hc]; decide) (by rw [hx0 _ hc]; rfl) (by decide) ?_
    refine k_aload_n C dX1_step_170 0 rfl ?_
    obtain ⟨⟨fo_fR_110, fo_fS_111, fo_fh_112, fo_fb_113⟩, hq_109, hf⟩ := ob_el hf
    dsimp only at hf
    refine k_callVv C (c1_openRow C.2.2.2.2.2.2.2.2.2.1 hq_109) cm1_57 ok1_openRow (by decide) 25 rfl rfl rfl rfl (Nat.le_of_ble_eq_true rfl) dX1_step_171 ?_
    refine k_goto C 210 dX1_step_174 (by decide) ?_
    cases hf
    exact K _ _ dX1_step_210
  replace hf := (if_neg hc).symm.trans hf
  have hn10 := sw_ne hc
  by_cases hc : v1 = (11 : Int32)
  · replace hf := (if_pos hc).symm.trans hf
    refine k_tableIn C 177 dX1_step_1 (by rw [hx0 _ hc]; decide) (by rw [hx0 _ hc]; decide) (by rw [hx0 _ hc]; rfl) (by decide) ?_
    refine k_aload_n C dX1_step_177 0 rfl ?_
    obtain ⟨⟨⟨fo_fR_115, fo_fS_116, fo_fh_117, fo_fb_118⟩, ⟨tr_tK_119, tr_tF_120, tr_tS_121, tr_tT_122, tr_tO_123, tr_tN_124, tr_tc_125⟩⟩, hq_114, hf⟩ := ob_el hf
    dsimp only at hf
    refine k_callVv C (c1_closeRow C.2.2.2.2.2.2.2.2.2.1 hq_114) cm1_85 ok1_closeRow (by decide) 25 rfl rfl rfl rfl (Nat.le_of_ble_eq_true rfl) dX1_step_178 ?_
    refine k_aload_n C dX1_step_181 0 rfl ?_
    obtain ⟨⟨fo_fR_127, fo_fS_128, fo_fh_129, fo_fb_130⟩, hq_126, hf⟩ := ob_el hf
    dsimp only at hf
    refine k_callVv C (c1_openRow C.2.2.2.2.2.2.2.2.2.1 hq_126) cm1_57 ok1_openRow (by decide) 25 rfl rfl rfl rfl (Nat.le_of_ble_eq_true rfl) dX1_step_182 ?_
    refine k_goto C 210 dX1_step_185 (by decide) ?_
    cases hf
    exact K _ _ dX1_step_210
  replace hf := (if_neg hc).symm.trans hf
  have hn11 := sw_ne hc
  by_cases hc : v1 = (12 : Int32)
  · replace hf := (if_pos hc).symm.trans hf
    refine k_tableIn C 188 dX1_step_1 (by rw [hx0 _ hc]; decide) (by rw [hx0 _ hc]; decide) (by rw [hx0 _ hc]; rfl) (by decide) ?_
    refine k_aload_n C dX1_step_188 0 rfl ?_
    obtain ⟨⟨⟨fo_fR_132, fo_fS_133, fo_fh_134, fo_fb_135⟩, ⟨tr_tK_136, tr_tF_137, tr_tS_138, tr_tT_139, tr_tO_140, tr_tN_141, tr_tc_142⟩⟩, hq_131, hf⟩ := ob_el hf
    dsimp only at hf
    refine k_callVv C (c1_closeRow C.2.2.2.2.2.2.2.2.2.1 hq_131) cm1_85 ok1_closeRow (by decide) 25 rfl rfl rfl rfl (Nat.le_of_ble_eq_true rfl) dX1_step_189 ?_
    refine k_aload_n C dX1_step_192 0 rfl ?_
    obtain ⟨⟨⟨fo_fR_144, fo_fS_145, fo_fh_146, fo_fb_147⟩, ⟨tr_tK_148, tr_tF_149, tr_tS_150, tr_tT_151, tr_tO_152, tr_tN_153, tr_tc_154⟩⟩, hq_143, hf⟩ := ob_el hf
    dsimp only at hf
    refine k_callVv C (c1_endIf C.2.2.2.2.2.2.2.2.2.1 hq_143) cm1_121 ok1_endIf (by decide) 25 rfl rfl rfl rfl (Nat.le_of_ble_eq_true rfl) dX1_step_193 ?_
    refine k_goto C 210 dX1_step_196 (by decide) ?_
    cases hf
    exact K _ _ dX1_step_210
  replace hf := (if_neg hc).symm.trans hf
  have hn12 := sw_ne hc
  by_cases hc : v1 = (13 : Int32)
  · replace hf := (if_pos hc).symm.trans hf
    refine k_tableIn C 170 dX1_step_1 (by rw [hx0 _ hc]; decide) (by rw [hx0 _ hc]; decide) (by rw [hx0 _ hc]; rfl) (by decide) ?_
    refine k_aload_n C dX1_step_170 0 rfl ?_
    obtain ⟨⟨fo_fR_156, fo_fS_157, fo_fh_158, fo_fb_159⟩, hq_155, hf⟩ := ob_el hf
    dsimp only at hf
    refine k_callVv C (c1_openRow C.2.2.2.2.2.2.2.2.2.1 hq_155) cm1_57 ok1_openRow (by decide) 25 rfl rfl rfl rfl (Nat.le_of_ble_eq_true rfl) dX1_step_171 ?_
    refine k_goto C 210 dX1_step_174 (by decide) ?_
    cases hf
    exact K _ _ dX1_step_210
  replace hf := (if_neg hc).symm.trans hf
  have hn13 := sw_ne hc
  by_cases hc : v1 = (14 : Int32)
  · replace hf := (if_pos hc).symm.trans hf
    refine k_tableIn C 199 dX1_step_1 (by rw [hx0 _ hc]; decide) (by rw [hx0 _ hc]; decide) (by rw [hx0 _ hc]; rfl) (by decide) ?_
    refine k_aload_n C dX1_step_199 0 rfl ?_
    obtain ⟨⟨⟨fo_fR_161, fo_fS_162, fo_fh_163, fo_fb_164⟩, ⟨tr_tK_165, tr_tF_166, tr_tS_167, tr_tT_168, tr_tO_169, tr_tN_170, tr_tc_171⟩⟩, hq_160, hf⟩ := ob_el hf
    dsimp only at hf
    refine k_callVv C (c1_closeRow C.2.2.2.2.2.2.2.2.2.1 hq_160) cm1_85 ok1_closeRow (by decide) 25 rfl rfl rfl rfl (Nat.le_of_ble_eq_true rfl) dX1_step_200 ?_
    refine k_aload_n C dX1_step_203 0 rfl ?_
    obtain ⟨⟨⟨fo_fR_173, fo_fS_174, fo_fh_175, fo_fb_176⟩, ⟨tr_tK_177, tr_tF_178, tr_tS_179, tr_tT_180, tr_tO_181, tr_tN_182, tr_tc_183⟩⟩, hq_172, hf⟩ := ob_el hf
    dsimp only at hf
    refine k_callVv C (c1_endWhile C.2.2.2.2.2.2.2.2.2.1 hq_172) cm1_124 ok1_endWhile (by decide) 25 rfl rfl rfl rfl (Nat.le_of_ble_eq_true rfl) dX1_step_204 ?_
    refine k_goto C 210 dX1_step_207 (by decide) ?_
    cases hf
    exact K _ _ dX1_step_210
  replace hf := (if_neg hc).symm.trans hf
  have hn14 := sw_ne hc
  have kd_184 : WC V p l e R s m args below meth c Q A kc ks 4 (wC V ad top rd ra co mu (fo_fR, fo_fS, fo_fh, fo_fb) (tr_tK, tr_tF, tr_tS, tr_tT, tr_tO, tr_tN, tr_tc) ma mq mx) 210 [(0, .ref (ad 25)), (1, .int v1), (2, .int v2), (3, .int v3)] [] := by
    cases hf
    exact K _ _ dX1_step_210
  have hr : v1.toInt < 0 ∨ 14 < v1.toInt ∨ v1.toInt = 2 ∨ v1.toInt = 4 := by
    have q0 : ¬ v1.toInt = 0 := hn0 0 (by decide)
    have q1 : ¬ v1.toInt = 1 := hn1 1 (by decide)
    have q3 : ¬ v1.toInt = 3 := hn3 3 (by decide)
    have q5 : ¬ v1.toInt = 5 := hn5 5 (by decide)
    have q6 : ¬ v1.toInt = 6 := hn6 6 (by decide)
    have q7 : ¬ v1.toInt = 7 := hn7 7 (by decide)
    have q8 : ¬ v1.toInt = 8 := hn8 8 (by decide)
    have q9 : ¬ v1.toInt = 9 := hn9 9 (by decide)
    have q10 : ¬ v1.toInt = 10 := hn10 10 (by decide)
    have q11 : ¬ v1.toInt = 11 := hn11 11 (by decide)
    have q12 : ¬ v1.toInt = 12 := hn12 12 (by decide)
    have q13 : ¬ v1.toInt = 13 := hn13 13 (by decide)
    have q14 : ¬ v1.toInt = 14 := hn14 14 (by decide)
    omega
  rcases hr with hr | hr | hr | hr
  · exact k_tableOut C 210 dX1_step_1 (Or.inl hr) (by decide) kd_184
  · exact k_tableOut C 210 dX1_step_1 (Or.inr hr) (by decide) kd_184
  · exact k_tableIn C 210 dX1_step_1 (by rw [hr]; decide) (by rw [hr]; decide) (by rw [hr]; rfl) (by decide) kd_184
  · exact k_tableIn C 210 dX1_step_1 (by rw [hr]; decide) (by rw [hr]; decide) (by rw [hr]; rfl) (by decide) kd_184
theorem c1_step {V : EV} {l : Launch} (hl0 : l.stackTraces = false) {ad : Nat → Nat} {top : TopS} {rd : RdS} {ra : Int32} {co : Nat → CoS} {mu : MuS} {ma : MaS} {mq : Nat} {mx : MxS} {v1 : Int32} {v2 : Int32} {v3 : Int32} {fo_fR : Nat → Int32} {fo_fS : Nat → Int32} {fo_fh : Int32} {fo_fb : Int32} {tr_tK : Nat → Int32} {tr_tF : Nat → Int32} {tr_tS : Nat → Int32} {tr_tT : Nat → Int32} {tr_tO : Nat → Int32} {tr_tN : Nat → Int32} {tr_tc : Int32} {N : Nat} {res : FoS × TrS} (hf : f1_step N v1 v2 v3 (fo_fR, fo_fS, fo_fh, fo_fb) (tr_tK, tr_tF, tr_tS, tr_tT, tr_tO, tr_tN, tr_tc) = some res) : MV V l yX1_step cX1_step 4 4 98 [.ref (ad 25), .int v1, .int v2, .int v3] (wC V ad top rd ra co mu (fo_fR, fo_fS, fo_fh, fo_fb) (tr_tK, tr_tF, tr_tS, tr_tT, tr_tO, tr_tN, tr_tc) ma mq mx) (wC V ad top rd ra co mu res.1 res.2 ma mq mx) :=
  mv_of hl0 (by decide +kernel) (Nat.le_of_ble_eq_true rfl) (fun p e R s m args below meth c Q A C K => b1_step C hf K)

theorem cm1_77 : ∀ a ∈ wsCV RX1 77 RX0 yX0_numberAt cX0_numberAt 4 (some .int), a ∈ GW := by
  unfold wsCV
  exact (List.forall_mem_cons.mpr ⟨(gw_3 (i := 211) (by decide +kernel) rfl), (List.forall_mem_cons.mpr ⟨(gw_3 (i := 212) (by decide +kernel) rfl), (List.forall_mem_cons.mpr ⟨(gw_3 (i := 213) (by decide +kernel) rfl), (List.forall_mem_cons.mpr ⟨(gw_1 (i := 3) (by decide +kernel) rfl), (List.forall_mem_cons.mpr ⟨(gw_3 (i := 214) (by decide +kernel) rfl), (List.forall_mem_nil _)⟩)⟩)⟩)⟩)⟩)
theorem cm1_81 : ∀ a ∈ wsCV RX1 81 RX1 yX1_step cX1_step 4 none, a ∈ GW := by
  unfold wsCV
  exact (List.forall_mem_cons.mpr ⟨(gw_3 (i := 215) (by decide +kernel) rfl), (List.forall_mem_cons.mpr ⟨(gw_3 (i := 217) (by decide +kernel) rfl), (List.forall_mem_cons.mpr ⟨(gw_p (q := ((yX1_step, 5) : MethodName × Nat)) (List.mem_append_right _ (List.mem_append_left _ (List.mem_of_getElem? (i := 15) (by decide +kernel)))) rfl), (List.forall_mem_cons.mpr ⟨(gw_1 (i := 5) (by decide +kernel) rfl), (List.forall_mem_cons.mpr ⟨(gw_3 (i := 218) (by decide +kernel) rfl), (List.forall_mem_nil _)⟩)⟩)⟩)⟩)⟩)
theorem ok1_fold : okCV RX1 yX1_fold 3 := by unfold okCV; decide +kernel
def f1_fold_L60 (k20 : Int32 → Int32 → Int32 → Int32 → FoS → TrS → Option (Int32 × FoS × TrS)) (N : Nat) (cs_cw : Nat → Int32) (cs_ce : Nat → Int32) (cs_cn : Nat → Int32) (cs_cj : Nat → Int32) (cs_cz : Int32) : Int32 → Int32 → Int32 → Int32 → FoS → TrS → Option (Int32 × FoS × TrS)
  | x2, x3, x4, x5, (fo_fR, fo_fS, fo_fh, fo_fb), (tr_tK, tr_tF, tr_tS, tr_tT, tr_tO, tr_tN, tr_tc) =>
    if x5 < x4 then nm_v (x5 + (1 : Int32)) (fun v5_6 => k20 x2 x3 x4 v5_6 (fo_fR, fo_fS, fo_fh, fo_fb) (tr_tK, tr_tF, tr_tS, tr_tT, tr_tO, tr_tN, tr_tc)) else if x5 < 0 ∨ 80 ≤ x5.toNatClampNeg then none else if x5 < 0 ∨ 80 ≤ x5.toNatClampNeg then none else (f0_numberAt x5 x2 x3 (cs_cw, cs_ce, cs_cn, cs_cj, cs_cz)).bind fun r_8 => (f1_step N (cs_cw x5.toNatClampNeg) (cs_cn x5.toNatClampNeg) r_8 (fo_fR, fo_fS, fo_fh, fo_fb) (tr_tK, tr_tF, tr_tS, tr_tT, tr_tO, tr_tN, tr_tc)).bind fun ((fo_fR_10, fo_fS_11, fo_fh_12, fo_fb_13), (tr_tK_14, tr_tF_15, tr_tS_16, tr_tT_17, tr_tO_18, tr_tN_19, tr_tc_20)) => nm_v (x5 + (1 : Int32)) (fun v5_21 => k20 x2 x3 x4 v5_21 (fo_fR_10, fo_fS_11, fo_fh_12, fo_fb_13) (tr_tK_14, tr_tF_15, tr_tS_16, tr_tT_17, tr_tO_18, tr_tN_19, tr_tc_20))

def f1_fold_L20 (k99 : FoS → TrS → Option (Int32 × FoS × TrS)) (N : Nat) (cs_cw : Nat → Int32) (cs_ce : Nat → Int32) (cs_cn : Nat → Int32) (cs_cj : Nat → Int32) (cs_cz : Int32) : Nat → Int32 → Int32 → Int32 → Int32 → FoS → TrS → Option (Int32 × FoS × TrS)
  | 0, _, _, _, _, _, _ => none
  | n + 1, x2, x3, x4, x5, (fo_fR, fo_fS, fo_fh, fo_fb), (tr_tK, tr_tF, tr_tS, tr_tT, tr_tO, tr_tN, tr_tc) =>
    if cs_cz ≤ x5 then k99 (fo_fR, fo_fS, fo_fh, fo_fb) (tr_tK, tr_tF, tr_tS, tr_tT, tr_tO, tr_tN, tr_tc) else if x5 < 0 ∨ 80 ≤ x5.toNatClampNeg then none else if (cs_cw x5.toNatClampNeg) = (4 : Int32) then if x5 < 0 ∨ 80 ≤ x5.toNatClampNeg then none else if (cs_ce x5.toNatClampNeg) = x2 then if x5 < 0 ∨ 80 ≤ x5.toNatClampNeg then none else nm_v (cs_cj x5.toNatClampNeg) (fun v4_22 => f1_fold_L60 (fun x2_ x3_ x4_ x5_ c_fo c_tr => f1_fold_L20 k99 N cs_cw cs_ce cs_cn cs_cj cs_cz n x2_ x3_ x4_ x5_ c_fo c_tr) N cs_cw cs_ce cs_cn cs_cj cs_cz x2 x3 v4_22 x5 (fo_fR, fo_fS, fo_fh, fo_fb) (tr_tK, tr_tF, tr_tS, tr_tT, tr_tO, tr_tN, tr_tc)) else f1_fold_L60 (fun x2_ x3_ x4_ x5_ c_fo c_tr => f1_fold_L20 k99 N cs_cw cs_ce cs_cn cs_cj cs_cz n x2_ x3_ x4_ x5_ c_fo c_tr) N cs_cw cs_ce cs_cn cs_cj cs_cz x2 x3 x4 x5 (fo_fR, fo_fS, fo_fh, fo_fb) (tr_tK, tr_tF, tr_tS, tr_tT, tr_tO, tr_tN, tr_tc) else f1_fold_L60 (fun x2_ x3_ x4_ x5_ c_fo c_tr => f1_fold_L20 k99 N cs_cw cs_ce cs_cn cs_cj cs_cz n x2_ x3_ x4_ x5_ c_fo c_tr) N cs_cw cs_ce cs_cn cs_cj cs_cz x2 x3 x4 x5 (fo_fR, fo_fS, fo_fh, fo_fb) (tr_tK, tr_tF, tr_tS, tr_tT, tr_tO, tr_tN, tr_tc)
def f1_fold (N : Nat) (v2 : Int32) (v3 : Int32) : CoS → FoS → TrS → Option (Int32 × FoS × TrS)
  | (cs_cw, cs_ce, cs_cn, cs_cj, cs_cz), (fo_fR, fo_fS, fo_fh, fo_fb), (tr_tK, tr_tF, tr_tS, tr_tT, tr_tO, tr_tN, tr_tc) =>
    (f1_openRow (fo_fR, fo_fS, (0 : Int32), (0 : Int32))).bind fun (fo_fR_2, fo_fS_3, fo_fh_4, fo_fb_5) => f1_fold_L20 (fun (fo_fR_23, fo_fS_23, fo_fh_23, fo_fb_23) (tr_tK_23, tr_tF_23, tr_tS_23, tr_tT_23, tr_tO_23, tr_tN_23, tr_tc_23) => (f1_closeRow N (fo_fR_23, fo_fS_23, fo_fh_23, fo_fb_23) (tr_tK_23, tr_tF_23, tr_tS_23, tr_tT_23, tr_tO_23, tr_tN_23, tr_tc_23)).bind fun ((fo_fR_25, fo_fS_26, fo_fh_27, fo_fb_28), (tr_tK_29, tr_tF_30, tr_tS_31, tr_tT_32, tr_tO_33, tr_tN_34, tr_tc_35)) => (f1_pop (fo_fR_25, fo_fS_26, fo_fh_27, fo_fb_28)).bind fun (r_37, (fo_fR_38, fo_fS_39, fo_fh_40, fo_fb_41)) => some (r_37, (fo_fR_38, fo_fS_39, fo_fh_40, fo_fb_41), (tr_tK_29, tr_tF_30, tr_tS_31, tr_tT_32, tr_tO_33, tr_tN_34, tr_tc_35))) N cs_cw cs_ce cs_cn cs_cj cs_cz N v2 v3 (0 : Int32) (0 : Int32) (fo_fR_2, fo_fS_3, fo_fh_4, fo_fb_5) (tr_tK, tr_tF, tr_tS, tr_tT, tr_tO, tr_tN, tr_tc)
set_option maxHeartbeats 4000000 in
set_option maxRecDepth 100000 in
theorem w1_fold_L60 {V : EV} {p : Program} {l : Launch} {e : Env} {R : Room} {s : State} {m : MethodId} {args : Array Value} {below : List Frame} {meth : Method} {c : Code} {Q : State → Prop} {A : Nat → Prop} {kc ks : Nat} {ad : Nat → Nat} {top : TopS} {rd : RdS} {ra : Int32} {co : Nat → CoS} {mu : MuS} {ma : MaS} {mq : Nat} {mx : MxS} {cs_cw : Nat → Int32} {cs_ce : Nat → Int32} {cs_cn : Nat → Int32} {cs_cj : Nat → Int32} {cs_cz : Int32} {q : Nat} {k20 : Int32 → Int32 → Int32 → Int32 → FoS → TrS → Option (Int32 × FoS × TrS)} {N : Nat} {res : Int32 × FoS × TrS} (C : CX V p l R s m args c A kc ks RX1 cX1_fold 6 5 121) (hq : q < 4) (K : RI V p l e R s m args below meth c Q A kc ks 6 cX1_fold .int res.1 (wC V ad top rd ra (updC co q (cs_cw, cs_ce, cs_cn, cs_cj, cs_cz)) mu res.2.1 res.2.2 ma mq mx)) (hk20 : ∀ (x2 : Int32) (x3 : Int32) (x4 : Int32) (x5 : Int32) (fo_fR : Nat → Int32) (fo_fS : Nat → Int32) (fo_fh : Int32) (fo_fb : Int32) (tr_tK : Nat → Int32) (tr_tF : Nat → Int32) (tr_tS : Nat → Int32) (tr_tT : Nat → Int32) (tr_tO : Nat → Int32) (tr_tN : Nat → Int32) (tr_tc : Int32), k20 x2 x3 x4 x5 (fo_fR, fo_fS, fo_fh, fo_fb) (tr_tK, tr_tF, tr_tS, tr_tT, tr_tO, tr_tN, tr_tc) = some res → WC V p l e R s m args below meth c Q A kc ks 6 (wC V ad top rd ra (updC co q (cs_cw, cs_ce, cs_cn, cs_cj, cs_cz)) mu (fo_fR, fo_fS, fo_fh, fo_fb) (tr_tK, tr_tF, tr_tS, tr_tT, tr_tO, tr_tN, tr_tc) ma mq mx) 20 [(0, .ref (ad 25)), (1, .ref (ad (cpo q))), (2, .int x2), (3, .int x3), (4, .int x4), (5, .int x5)] []) : ∀ (x2 : Int32) (x3 : Int32) (x4 : Int32) (x5 : Int32) (fo_fR : Nat → Int32) (fo_fS : Nat → Int32) (fo_fh : Int32) (fo_fb : Int32) (tr_tK : Nat → Int32) (tr_tF : Nat → Int32) (tr_tS : Nat → Int32) (tr_tT : Nat → Int32) (tr_tO : Nat → Int32) (tr_tN : Nat → Int32) (tr_tc : Int32), f1_fold_L60 k20 N cs_cw cs_ce cs_cn cs_cj cs_cz x2 x3 x4 x5 (fo_fR, fo_fS, fo_fh, fo_fb) (tr_tK, tr_tF, tr_tS, tr_tT, tr_tO, tr_tN, tr_tc) = some res → WC V p l e R s m args below meth c Q A kc ks 6 (wC V ad top rd ra (updC co q (cs_cw, cs_ce, cs_cn, cs_cj, cs_cz)) mu (fo_fR, fo_fS, fo_fh, fo_fb) (tr_tK, tr_tF, tr_tS, tr_tT, tr_tO, tr_tN, tr_tc) ma mq mx) 60 [(0, .ref (ad 25)), (1, .ref (ad (cpo q))), (2, .int x2), (3, .int x3), (4, .int x4), (5, .int x5)] [] := by
  intro x2 x3 x4 x5 fo_fR fo_fS fo_fh fo_fb tr_tK tr_tF tr_tS tr_tT tr_tO tr_tN tr_tc hf
  rw [f1_fold_L60] at hf
  refine k_iload C dX1_fold_60 5 rfl ?_
  refine k_iload C dX1_fold_62 4 rfl ?_
  refine k_icmp_lt C 93 dX1_fold_64 (by decide) (fun hc => ?_) (fun hc => ?_)
  · replace hf := (if_pos hc).symm.trans hf
    obtain ⟨v5_6, ev5_6⟩ : ∃ y : Int32, y = x5 + (1 : Int32) := ⟨_, rfl⟩
    replace hf := nm_el hf ev5_6
    refine k_iinc (v := v5_6) C dX1_fold_93 5 rfl (by rw [ev5_6]; rfl) [(5, .int v5_6), (0, .ref (ad 25)), (1, .ref (ad (cpo q))), (2, .int x2), (3, .int x3), (4, .int x4)] (by decide) rfl ?_
    refine k_goto C 20 dX1_fold_96 (by decide) ?_
    refine k_sub [1, 2, 3, 4, 5, 0] (L' := [(0, .ref (ad 25)), (1, .ref (ad (cpo q))), (2, .int x2), (3, .int x3), (4, .int x4), (5, .int v5_6)]) rfl ?_
    exact hk20 _ _ _ _ _ _ _ _ _ _ _ _ _ _ _ hf
  · replace hf := (if_neg hc).symm.trans hf
    refine k_aload_n C dX1_fold_67 0 rfl ?_
    refine k_aload_n C dX1_fold_68 1 rfl ?_
    refine g1_65 C hq dX1_fold_69 ?_
    refine k_iload C dX1_fold_72 5 rfl ?_
    obtain ⟨hi, hf⟩ := gd_no hf
    refine lk0 C hq hi dX1_fold_74 ?_
    refine k_aload_n C dX1_fold_75 1 rfl ?_
    refine g1_74 C hq dX1_fold_76 ?_
    refine k_iload C dX1_fold_79 5 rfl ?_
    obtain ⟨hi, hf⟩ := gd_no hf
    refine lk2 C hq hi dX1_fold_81 ?_
    refine k_aload_n C dX1_fold_82 1 rfl ?_
    refine k_iload C dX1_fold_83 5 rfl ?_
    refine k_iload_n C dX1_fold_85 2 rfl ?_
    refine k_iload_n C dX1_fold_86 3 rfl ?_
    obtain ⟨r_8, hq_7, hf⟩ := ob_el hf
    refine k_callCi C hq (c0_numberAt C.2.2.2.2.2.2.2.2.2.1 hq hq_7) cm1_77 ok0_numberAt (by decide) rfl rfl (Nat.le_of_ble_eq_true rfl) dX1_fold_87 ?_
    obtain ⟨⟨⟨fo_fR_10, fo_fS_11, fo_fh_12, fo_fb_13⟩, ⟨tr_tK_14, tr_tF_15, tr_tS_16, tr_tT_17, tr_tO_18, tr_tN_19, tr_tc_20⟩⟩, hq_9, hf⟩ := ob_el hf
    dsimp only at hf
    refine k_callVv C (c1_step C.2.2.2.2.2.2.2.2.2.1 hq_9) cm1_81 ok1_step (by decide) 25 rfl rfl rfl rfl (Nat.le_of_ble_eq_true rfl) dX1_fold_90 ?_
    obtain ⟨v5_21, ev5_21⟩ : ∃ y : Int32, y = x5 + (1 : Int32) := ⟨_, rfl⟩
    replace hf := nm_el hf ev5_21
    refine k_iinc (v := v5_21) C dX1_fold_93 5 rfl (by rw [ev5_21]; rfl) [(5, .int v5_21), (0, .ref (ad 25)), (1, .ref (ad (cpo q))), (2, .int x2), (3, .int x3), (4, .int x4)] (by decide) rfl ?_
    refine k_goto C 20 dX1_fold_96 (by decide) ?_
    refine k_sub [1, 2, 3, 4, 5, 0] (L' := [(0, .ref (ad 25)), (1, .ref (ad (cpo q))), (2, .int x2), (3, .int x3), (4, .int x4), (5, .int v5_21)]) rfl ?_
    exact hk20 _ _ _ _ _ _ _ _ _ _ _ _ _ _ _ hf

set_option maxHeartbeats 4000000 in
set_option maxRecDepth 100000 in
theorem w1_fold_L20 {V : EV} {p : Program} {l : Launch} {e : Env} {R : Room} {s : State} {m : MethodId} {args : Array Value} {below : List Frame} {meth : Method} {c : Code} {Q : State → Prop} {A : Nat → Prop} {kc ks : Nat} {ad : Nat → Nat} {top : TopS} {rd : RdS} {ra : Int32} {co : Nat → CoS} {mu : MuS} {ma : MaS} {mq : Nat} {mx : MxS} {cs_cw : Nat → Int32} {cs_ce : Nat → Int32} {cs_cn : Nat → Int32} {cs_cj : Nat → Int32} {cs_cz : Int32} {q : Nat} {k99 : FoS → TrS → Option (Int32 × FoS × TrS)} {N : Nat} {res : Int32 × FoS × TrS} (C : CX V p l R s m args c A kc ks RX1 cX1_fold 6 5 121) (hq : q < 4) (K : RI V p l e R s m args below meth c Q A kc ks 6 cX1_fold .int res.1 (wC V ad top rd ra (updC co q (cs_cw, cs_ce, cs_cn, cs_cj, cs_cz)) mu res.2.1 res.2.2 ma mq mx)) (hk99 : ∀  (fo_fR : Nat → Int32) (fo_fS : Nat → Int32) (fo_fh : Int32) (fo_fb : Int32) (tr_tK : Nat → Int32) (tr_tF : Nat → Int32) (tr_tS : Nat → Int32) (tr_tT : Nat → Int32) (tr_tO : Nat → Int32) (tr_tN : Nat → Int32) (tr_tc : Int32), k99 (fo_fR, fo_fS, fo_fh, fo_fb) (tr_tK, tr_tF, tr_tS, tr_tT, tr_tO, tr_tN, tr_tc) = some res → WC V p l e R s m args below meth c Q A kc ks 6 (wC V ad top rd ra (updC co q (cs_cw, cs_ce, cs_cn, cs_cj, cs_cz)) mu (fo_fR, fo_fS, fo_fh, fo_fb) (tr_tK, tr_tF, tr_tS, tr_tT, tr_tO, tr_tN, tr_tc) ma mq mx) 99 [(0, .ref (ad 25))] []) : ∀ (n : Nat) (x2 : Int32) (x3 : Int32) (x4 : Int32) (x5 : Int32) (fo_fR : Nat → Int32) (fo_fS : Nat → Int32) (fo_fh : Int32) (fo_fb : Int32) (tr_tK : Nat → Int32) (tr_tF : Nat → Int32) (tr_tS : Nat → Int32) (tr_tT : Nat → Int32) (tr_tO : Nat → Int32) (tr_tN : Nat → Int32) (tr_tc : Int32), f1_fold_L20 k99 N cs_cw cs_ce cs_cn cs_cj cs_cz n x2 x3 x4 x5 (fo_fR, fo_fS, fo_fh, fo_fb) (tr_tK, tr_tF, tr_tS, tr_tT, tr_tO, tr_tN, tr_tc) = some res → WC V p l e R s m args below meth c Q A kc ks 6 (wC V ad top rd ra (updC co q (cs_cw, cs_ce, cs_cn, cs_cj, cs_cz)) mu (fo_fR, fo_fS, fo_fh, fo_fb) (tr_tK, tr_tF, tr_tS, tr_tT, tr_tO, tr_tN, tr_tc) ma mq mx) 20 [(0, .ref (ad 25)), (1, .ref (ad (cpo q))), (2, .int x2), (3, .int x3), (4, .int x4), (5, .int x5)] [] := by
  intro n
  induction n with
  | zero => intro _ _ _ _ _ _ _ _ _ _ _ _ _ _ _ hf; exact nomatch (show none = some res from hf)
  | succ n ih =>
    intro x2 x3 x4 x5 fo_fR fo_fS fo_fh fo_fb tr_tK tr_tF tr_tS tr_tT tr_tO tr_tN tr_tc hf
    rw [f1_fold_L20] at hf
    refine k_iload C dX1_fold_20 5 rfl ?_
    refine k_aload_n C dX1_fold_22 1 rfl ?_
    refine g1_60 C hq dX1_fold_23 ?_
    refine k_icmp_ge C 99 dX1_fold_26 (by decide) (fun hc => ?_) (fun hc => ?_)
    · replace hf := (if_pos hc).symm.trans hf
      refine k_sub [0] (L' := [(0, .ref (ad 25))]) rfl ?_
      exact hk99 _ _ _ _ _ _ _ _ _ _ _ hf
    · replace hf := (if_neg hc).symm.trans hf
      refine k_aload_n C dX1_fold_29 1 rfl ?_
      refine g1_65 C hq dX1_fold_30 ?_
      refine k_iload C dX1_fold_33 5 rfl ?_
      obtain ⟨hi, hf⟩ := gd_no hf
      refine lk0 C hq hi dX1_fold_35 ?_
      refine k_iconst (v := (4 : Int32)) C dX1_fold_36 (by decide) ?_
      refine k_icmp_ne C 60 dX1_fold_37 (by decide) (fun hc => ?_) (fun hc => ?_)
      · replace hf := (if_neg hc).symm.trans hf
        exact w1_fold_L60 C hq K ih _ _ _ _ _ _ _ _ _ _ _ _ _ _ _ hf
      · replace hf := (if_pos hc).symm.trans hf
        refine k_aload_n C dX1_fold_40 1 rfl ?_
        refine g1_68 C hq dX1_fold_41 ?_
        refine k_iload C dX1_fold_44 5 rfl ?_
        obtain ⟨hi, hf⟩ := gd_no hf
        refine lk1 C hq hi dX1_fold_46 ?_
        refine k_iload_n C dX1_fold_47 2 rfl ?_
        refine k_icmp_ne C 60 dX1_fold_48 (by decide) (fun hc => ?_) (fun hc => ?_)
        · replace hf := (if_neg hc).symm.trans hf
          exact w1_fold_L60 C hq K ih _ _ _ _ _ _ _ _ _ _ _ _ _ _ _ hf
        · replace hf := (if_pos hc).symm.trans hf
          refine k_aload_n C dX1_fold_51 1 rfl ?_
          refine g1_71 C hq dX1_fold_52 ?_
          refine k_iload C dX1_fold_55 5 rfl ?_
          obtain ⟨hi, hf⟩ := gd_no hf
          refine lk3 C hq hi dX1_fold_57 ?_
          refine k_topi (fun v4_22 ev4_22 => ?_)
          replace hf := nm_el hf ev4_22
          refine k_istore C dX1_fold_58 [(4, .int v4_22), (0, .ref (ad 25)), (1, .ref (ad (cpo q))), (2, .int x2), (3, .int x3), (5, .int x5)] (by decide) rfl ?_
          refine k_sub [1, 2, 3, 4, 0, 5] (L' := [(0, .ref (ad 25)), (1, .ref (ad (cpo q))), (2, .int x2), (3, .int x3), (4, .int v4_22), (5, .int x5)]) rfl ?_
          exact w1_fold_L60 C hq K ih _ _ _ _ _ _ _ _ _ _ _ _ _ _ _ hf
set_option maxHeartbeats 4000000 in
set_option maxRecDepth 100000 in
theorem b1_fold {V : EV} {p : Program} {l : Launch} {e : Env} {R : Room} {s : State} {m : MethodId} {args : Array Value} {below : List Frame} {meth : Method} {c : Code} {Q : State → Prop} {A : Nat → Prop} {kc ks : Nat} {ad : Nat → Nat} {top : TopS} {rd : RdS} {ra : Int32} {co : Nat → CoS} {mu : MuS} {ma : MaS} {mq : Nat} {mx : MxS} {cs_cw : Nat → Int32} {cs_ce : Nat → Int32} {cs_cn : Nat → Int32} {cs_cj : Nat → Int32} {cs_cz : Int32} {q : Nat} {v2 : Int32} {v3 : Int32} {fo_fR : Nat → Int32} {fo_fS : Nat → Int32} {fo_fh : Int32} {fo_fb : Int32} {tr_tK : Nat → Int32} {tr_tF : Nat → Int32} {tr_tS : Nat → Int32} {tr_tT : Nat → Int32} {tr_tO : Nat → Int32} {tr_tN : Nat → Int32} {tr_tc : Int32} {N : Nat} {res : Int32 × FoS × TrS} (C : CX V p l R s m args c A kc ks RX1 cX1_fold 6 5 121) (hq : q < 4) (hf : f1_fold N v2 v3 (cs_cw, cs_ce, cs_cn, cs_cj, cs_cz) (fo_fR, fo_fS, fo_fh, fo_fb) (tr_tK, tr_tF, tr_tS, tr_tT, tr_tO, tr_tN, tr_tc) = some res) (K : RI V p l e R s m args below meth c Q A kc ks 6 cX1_fold .int res.1 (wC V ad top rd ra (updC co q (cs_cw, cs_ce, cs_cn, cs_cj, cs_cz)) mu res.2.1 res.2.2 ma mq mx)) : WC V p l e R s m args below meth c Q A kc ks 6 (wC V ad top rd ra (updC co q (cs_cw, cs_ce, cs_cn, cs_cj, cs_cz)) mu (fo_fR, fo_fS, fo_fh, fo_fb) (tr_tK, tr_tF, tr_tS, tr_tT, tr_tO, tr_tN, tr_tc) ma mq mx) 0 [(0, .ref (ad 25)), (1, .ref (ad (cpo q))), (2, .int v2), (3, .int v3)] [] := by
  rw [f1_fold] at hf
  refine k_aload_n C dX1_fold_0 0 rfl ?_
  refine k_iconst (v := (0 : Int32)) C dX1_fold_1 (by decide) ?_
  refine p1_25 C dX1_fold_2 ?_
  refine k_aload_n C dX1_fold_5 0 rfl ?_
  refine k_iconst (v := (0 : Int32)) C dX1_fold_6 (by decide) ?_
  refine p1_29 C dX1_fold_7 ?_
  refine k_aload_n C dX1_fold_10 0 rfl ?_
  obtain ⟨⟨fo_fR_2, fo_fS_3, fo_fh_4, fo_fb_5⟩, hq_1, hf⟩ := ob_el hf
  dsimp only at hf
  refine k_callVv C (c1_openRow C.2.2.2.2.2.2.2.2.2.1 hq_1) cm1_57 ok1_openRow (by decide) 25 rfl rfl rfl rfl (Nat.le_of_ble_eq_true rfl) dX1_fold_11 ?_
  refine k_iconst (v := (0 : Int32)) C dX1_fold_14 (by decide) ?_
  refine k_istore C dX1_fold_15 [(4, .int (0 : Int32)), (0, .ref (ad 25)), (1, .ref (ad (cpo q))), (2, .int v2), (3, .int v3)] (by decide) rfl ?_
  refine k_iconst (v := (0 : Int32)) C dX1_fold_17 (by decide) ?_
  refine k_istore C dX1_fold_18 [(5, .int (0 : Int32)), (4, .int (0 : Int32)), (0, .ref (ad 25)), (1, .ref (ad (cpo q))), (2, .int v2), (3, .int v3)] (by decide) rfl ?_
  refine k_sub [2, 3, 4, 5, 1, 0] (L' := [(0, .ref (ad 25)), (1, .ref (ad (cpo q))), (2, .int v2), (3, .int v3), (4, .int (0 : Int32)), (5, .int (0 : Int32))]) rfl ?_
  refine w1_fold_L20 C hq K ?_ _ _ _ _ _ _ _ _ _ _ _ _ _ _ _ _ hf
  · intro fo_fR_23 fo_fS_23 fo_fh_23 fo_fb_23 tr_tK_23 tr_tF_23 tr_tS_23 tr_tT_23 tr_tO_23 tr_tN_23 tr_tc_23 hf
    try dsimp only at hf
    refine k_aload_n C dX1_fold_99 0 rfl ?_
    obtain ⟨⟨⟨fo_fR_25, fo_fS_26, fo_fh_27, fo_fb_28⟩, ⟨tr_tK_29, tr_tF_30, tr_tS_31, tr_tT_32, tr_tO_33, tr_tN_34, tr_tc_35⟩⟩, hq_24, hf⟩ := ob_el hf
    dsimp only at hf
    refine k_callVv C (c1_closeRow C.2.2.2.2.2.2.2.2.2.1 hq_24) cm1_85 ok1_closeRow (by decide) 25 rfl rfl rfl rfl (Nat.le_of_ble_eq_true rfl) dX1_fold_100 ?_
    refine k_aload_n C dX1_fold_103 0 rfl ?_
    obtain ⟨⟨r_37, ⟨fo_fR_38, fo_fS_39, fo_fh_40, fo_fb_41⟩⟩, hq_36, hf⟩ := ob_el hf
    dsimp only at hf
    refine k_callVi C (c1_pop C.2.2.2.2.2.2.2.2.2.1 hq_36) cm1_88 ok1_pop (by decide) 25 rfl rfl rfl rfl (Nat.le_of_ble_eq_true rfl) dX1_fold_104 ?_
    cases hf
    exact K _ _ dX1_fold_107 rfl
theorem c1_fold {V : EV} {l : Launch} (hl0 : l.stackTraces = false) {ad : Nat → Nat} {top : TopS} {rd : RdS} {ra : Int32} {co : Nat → CoS} {mu : MuS} {ma : MaS} {mq : Nat} {mx : MxS} {cs_cw : Nat → Int32} {cs_ce : Nat → Int32} {cs_cn : Nat → Int32} {cs_cj : Nat → Int32} {cs_cz : Int32} {q : Nat} {v2 : Int32} {v3 : Int32} {fo_fR : Nat → Int32} {fo_fS : Nat → Int32} {fo_fh : Int32} {fo_fb : Int32} {tr_tK : Nat → Int32} {tr_tF : Nat → Int32} {tr_tS : Nat → Int32} {tr_tT : Nat → Int32} {tr_tO : Nat → Int32} {tr_tN : Nat → Int32} {tr_tc : Int32} {N : Nat} {res : Int32 × FoS × TrS} (hq : q < 4) (hf : f1_fold N v2 v3 (cs_cw, cs_ce, cs_cn, cs_cj, cs_cz) (fo_fR, fo_fS, fo_fh, fo_fb) (tr_tK, tr_tF, tr_tS, tr_tT, tr_tO, tr_tN, tr_tc) = some res) : MI V l yX1_fold cX1_fold 6 .int 5 121 [.ref (ad 25), .ref (ad (cpo q)), .int v2, .int v3] (wC V ad top rd ra (updC co q (cs_cw, cs_ce, cs_cn, cs_cj, cs_cz)) mu (fo_fR, fo_fS, fo_fh, fo_fb) (tr_tK, tr_tF, tr_tS, tr_tT, tr_tO, tr_tN, tr_tc) ma mq mx) res.1 (wC V ad top rd ra (updC co q (cs_cw, cs_ce, cs_cn, cs_cj, cs_cz)) mu res.2.1 res.2.2 ma mq mx) :=
  mi_of hl0 (by decide +kernel) (Nat.le_of_ble_eq_true rfl) (fun p e R s m args below meth c Q A C K => b1_fold C hq hf K)

theorem ok1_firstLike : okCV RX1 yX1_firstLike 1 := by unfold okCV; decide +kernel
def f1_firstLike_L2 (k28 : Int32 → Option (Int32)) (N : Nat) (fo_fR : Nat → Int32) (fo_fS : Nat → Int32) (fo_fh : Int32) (fo_fb : Int32) : Nat → Int32 → Int32 → Option (Int32)
  | 0, _, _ => none
  | n + 1, x1, x2 =>
    if x1 ≤ x2 then k28 x2 else if x2 < 0 ∨ 121 ≤ x2.toNatClampNeg then none else if x1 < 0 ∨ 121 ≤ x1.toNatClampNeg then none else if (fo_fR x2.toNatClampNeg) = (fo_fR x1.toNatClampNeg) then k28 x2 else nm_v (x2 + (1 : Int32)) (fun v2_1 => f1_firstLike_L2 k28 N fo_fR fo_fS fo_fh fo_fb n x1 v2_1)
def f1_firstLike (N : Nat) (v1 : Int32) : FoS → Option (Int32)
  | (fo_fR, fo_fS, fo_fh, fo_fb) =>
    f1_firstLike_L2 (fun x2_2 => some x2_2) N fo_fR fo_fS fo_fh fo_fb N v1 (0 : Int32)
set_option maxHeartbeats 4000000 in
set_option maxRecDepth 100000 in
theorem w1_firstLike_L2 {V : EV} {p : Program} {l : Launch} {e : Env} {R : Room} {s : State} {m : MethodId} {args : Array Value} {below : List Frame} {meth : Method} {c : Code} {Q : State → Prop} {A : Nat → Prop} {kc ks : Nat} {ad : Nat → Nat} {top : TopS} {rd : RdS} {ra : Int32} {co : Nat → CoS} {mu : MuS} {tr : TrS} {ma : MaS} {mq : Nat} {mx : MxS} {fo_fR : Nat → Int32} {fo_fS : Nat → Int32} {fo_fh : Int32} {fo_fb : Int32} {k28 : Int32 → Option (Int32)} {N : Nat} {res : Int32} (C : CX V p l R s m args c A kc ks RX1 cX1_firstLike 3 0 0) (K : RI V p l e R s m args below meth c Q A kc ks 3 cX1_firstLike .int res (wC V ad top rd ra co mu (fo_fR, fo_fS, fo_fh, fo_fb) tr ma mq mx)) (hk28 : ∀ (x2 : Int32) , k28 x2 = some res → WC V p l e R s m args below meth c Q A kc ks 3 (wC V ad top rd ra co mu (fo_fR, fo_fS, fo_fh, fo_fb) tr ma mq mx) 28 [(2, .int x2)] []) : ∀ (n : Nat) (x1 : Int32) (x2 : Int32) , f1_firstLike_L2 k28 N fo_fR fo_fS fo_fh fo_fb n x1 x2 = some res → WC V p l e R s m args below meth c Q A kc ks 3 (wC V ad top rd ra co mu (fo_fR, fo_fS, fo_fh, fo_fb) tr ma mq mx) 2 [(0, .ref (ad 25)), (1, .int x1), (2, .int x2)] [] := by
  intro n
  induction n with
  | zero => intro _ _ hf; exact nomatch (show none = some res from hf)
  | succ n ih =>
    intro x1 x2 hf
    rw [f1_firstLike_L2] at hf
    refine k_iload_n C dX1_firstLike_2 2 rfl ?_
    refine k_iload_n C dX1_firstLike_3 1 rfl ?_
    refine k_icmp_ge C 28 dX1_firstLike_4 (by decide) (fun hc => ?_) (fun hc => ?_)
    · replace hf := (if_pos hc).symm.trans hf
      refine k_sub [2] (L' := [(2, .int x2)]) rfl ?_
      exact hk28 _ hf
    · replace hf := (if_neg hc).symm.trans hf
      refine k_aload_n C dX1_firstLike_7 0 rfl ?_
      refine g1_18 C dX1_firstLike_8 ?_
      refine k_iload_n C dX1_firstLike_11 2 rfl ?_
      obtain ⟨hi, hf⟩ := gd_no hf
      refine lc33 C hi dX1_firstLike_12 ?_
      refine k_aload_n C dX1_firstLike_13 0 rfl ?_
      refine g1_18 C dX1_firstLike_14 ?_
      refine k_iload_n C dX1_firstLike_17 1 rfl ?_
      obtain ⟨hi, hf⟩ := gd_no hf
      refine lc33 C hi dX1_firstLike_18 ?_
      refine k_icmp_eq C 28 dX1_firstLike_19 (by decide) (fun hc => ?_) (fun hc => ?_)
      · replace hf := (if_pos hc).symm.trans hf
        refine k_sub [2] (L' := [(2, .int x2)]) rfl ?_
        exact hk28 _ hf
      · replace hf := (if_neg hc).symm.trans hf
        obtain ⟨v2_1, ev2_1⟩ : ∃ y : Int32, y = x2 + (1 : Int32) := ⟨_, rfl⟩
        replace hf := nm_el hf ev2_1
        refine k_iinc (v := v2_1) C dX1_firstLike_22 2 rfl (by rw [ev2_1]; rfl) [(2, .int v2_1), (0, .ref (ad 25)), (1, .int x1)] (by decide) rfl ?_
        refine k_goto C 2 dX1_firstLike_25 (by decide) ?_
        refine k_sub [1, 2, 0] (L' := [(0, .ref (ad 25)), (1, .int x1), (2, .int v2_1)]) rfl ?_
        exact ih _ _ hf
set_option maxHeartbeats 4000000 in
set_option maxRecDepth 100000 in
theorem b1_firstLike {V : EV} {p : Program} {l : Launch} {e : Env} {R : Room} {s : State} {m : MethodId} {args : Array Value} {below : List Frame} {meth : Method} {c : Code} {Q : State → Prop} {A : Nat → Prop} {kc ks : Nat} {ad : Nat → Nat} {top : TopS} {rd : RdS} {ra : Int32} {co : Nat → CoS} {mu : MuS} {tr : TrS} {ma : MaS} {mq : Nat} {mx : MxS} {fo_fR : Nat → Int32} {fo_fS : Nat → Int32} {fo_fh : Int32} {fo_fb : Int32} {v1 : Int32} {N : Nat} {res : Int32} (C : CX V p l R s m args c A kc ks RX1 cX1_firstLike 3 0 0) (hf : f1_firstLike N v1 (fo_fR, fo_fS, fo_fh, fo_fb) = some res) (K : RI V p l e R s m args below meth c Q A kc ks 3 cX1_firstLike .int res (wC V ad top rd ra co mu (fo_fR, fo_fS, fo_fh, fo_fb) tr ma mq mx)) : WC V p l e R s m args below meth c Q A kc ks 3 (wC V ad top rd ra co mu (fo_fR, fo_fS, fo_fh, fo_fb) tr ma mq mx) 0 [(0, .ref (ad 25)), (1, .int v1)] [] := by
  rw [f1_firstLike] at hf
  refine k_iconst (v := (0 : Int32)) C dX1_firstLike_0 (by decide) ?_
  refine k_istore_n C dX1_firstLike_1 [(2, .int (0 : Int32)), (0, .ref (ad 25)), (1, .int v1)] (by decide) rfl ?_
  refine k_sub [1, 2, 0] (L' := [(0, .ref (ad 25)), (1, .int v1), (2, .int (0 : Int32))]) rfl ?_
  refine w1_firstLike_L2 C K ?_ _ _ _ hf
  · intro x2_2 hf
    try dsimp only at hf
    refine k_iload_n C dX1_firstLike_28 0 rfl ?_
    cases hf
    exact K _ _ dX1_firstLike_29 rfl
theorem c1_firstLike {V : EV} {l : Launch} (hl0 : l.stackTraces = false) {ad : Nat → Nat} {top : TopS} {rd : RdS} {ra : Int32} {co : Nat → CoS} {mu : MuS} {tr : TrS} {ma : MaS} {mq : Nat} {mx : MxS} {fo_fR : Nat → Int32} {fo_fS : Nat → Int32} {fo_fh : Int32} {fo_fb : Int32} {v1 : Int32} {N : Nat} {res : Int32} (hf : f1_firstLike N v1 (fo_fR, fo_fS, fo_fh, fo_fb) = some res) : MI V l yX1_firstLike cX1_firstLike 3 .int 0 0 [.ref (ad 25), .int v1] (wC V ad top rd ra co mu (fo_fR, fo_fS, fo_fh, fo_fb) tr ma mq mx) res (wC V ad top rd ra co mu (fo_fR, fo_fS, fo_fh, fo_fb) tr ma mq mx) :=
  mi_of hl0 (by decide +kernel) (Nat.le_of_ble_eq_true rfl) (fun p e R s m args below meth c Q A C K => b1_firstLike C hf K)

