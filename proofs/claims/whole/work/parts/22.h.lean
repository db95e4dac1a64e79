/-! THE LAW'S WALK: what stands around at the entry -/
theorem tb_1 {i : Nat} {w : Cond} (h : tables_1_1[i]? = some w) : w ∈ lw_tbl := by
  first
    | exact List.mem_append_right _ (List.mem_append_left _ (List.mem_of_getElem? h))
    | exact List.mem_append_left _ (List.mem_of_getElem? h)
theorem tb_2 {i : Nat} {w : Cond} (h : tables_1_2[i]? = some w) : w ∈ lw_tbl := by
  first
    | exact List.mem_append_right _ (List.mem_append_right _ (List.mem_append_left _ (List.mem_of_getElem? h)))
    | exact List.mem_append_right _ (List.mem_append_left _ (List.mem_of_getElem? h))
theorem tb_3 {i : Nat} {w : Cond} (h : tables_1_3[i]? = some w) : w ∈ lw_tbl := by
  first
    | exact List.mem_append_right _ (List.mem_append_right _ (List.mem_append_right _ (List.mem_append_left _ (List.mem_of_getElem? h))))
    | exact List.mem_append_right _ (List.mem_append_right _ (List.mem_append_left _ (List.mem_of_getElem? h)))
theorem tb_4 {i : Nat} {w : Cond} (h : tables_1_4[i]? = some w) : w ∈ lw_tbl := by
  first
    | exact List.mem_append_right _ (List.mem_append_right _ (List.mem_append_right _ (List.mem_append_right _ (List.mem_append_left _ (List.mem_of_getElem? h)))))
    | exact List.mem_append_right _ (List.mem_append_right _ (List.mem_append_right _ (List.mem_append_left _ (List.mem_of_getElem? h))))
theorem tb_5 {i : Nat} {w : Cond} (h : tables_1_5[i]? = some w) : w ∈ lw_tbl := by
  first
    | exact List.mem_append_right _ (List.mem_append_right _ (List.mem_append_right _ (List.mem_append_right _ (List.mem_append_right _ (List.mem_append_left _ (List.mem_of_getElem? h))))))
    | exact List.mem_append_right _ (List.mem_append_right _ (List.mem_append_right _ (List.mem_append_right _ (List.mem_append_left _ (List.mem_of_getElem? h)))))
theorem tb_6 {i : Nat} {w : Cond} (h : tables_1_6[i]? = some w) : w ∈ lw_tbl := by
  first
    | exact List.mem_append_right _ (List.mem_append_right _ (List.mem_append_right _ (List.mem_append_right _ (List.mem_append_right _ (List.mem_append_right _ (List.mem_of_getElem? h))))))
    | exact List.mem_append_right _ (List.mem_append_right _ (List.mem_append_right _ (List.mem_append_right _ (List.mem_append_right _ (List.mem_of_getElem? h)))))
def NFL : List Cond := flatC (Cond.and given_1 narrow_1)
def tmJ : Nat → Term := fun i => match i with
  | 0 => .string "MutantTester" 198
  | 1 => .string "MutantTester$Reader" 121
  | 2 => .string "MutantTester" 207
  | 3 => .string "MutantTester$Reader" 130
  | 4 => .string "MutantTester$Reader" 135
  | _ => .string "MutantTester$Reader" 144
def tmX : Nat → Term := fun i => match i with
  | 6 => .string "MutantTester" 126
  | 7 => .string "MutantTester" 132
  | 8 => .string "MutantTester" 177
  | 9 => .string "MutantTester" 179
  | 10 => .string "MutantTester" 183
  | 11 => .string "MutantTester" 186
  | 12 => .string "MutantTester" 85
  | _ => .string "MutantTester$Reader" 41
theorem n_ex : ∀ i, i < 6 → Cond.exactly (tmJ i) "java/lang/String" ∈ NFL := by decide +kernel
theorem n_co : ∀ i, i < 6 → Cond.eq (.field (tmJ i) "java/lang/String" "coder" "B") (.int 0) ∈ NFL := by decide +kernel
theorem n_ar : ∀ i, i < 6 → Cond.arrayOf (.field (tmJ i) "java/lang/String" "value" "[B") .byte ∈ NFL := by decide +kernel
theorem n_le : ∀ i, i < 6 → Cond.eq (.length (.field (tmJ i) "java/lang/String" "value" "[B")) (.int (Int32.ofNat (lenJ.getD i 0))) ∈ NFL := by decide +kernel
theorem n_el : ∀ i, i < 6 → ∀ j, j < lenJ.getD i 0 → Cond.eq (.elem (.field (tmJ i) "java/lang/String" "value" "[B") (.int (Int32.ofNat j))) (.int ((bytJ.getD i []).getD j 0)) ∈ NFL := by decide +kernel
theorem n_ne : ∀ i, i < 6 → ∀ j, j < 6 → i ≠ j → Cond.not (Cond.eq (tmJ i) (tmJ j)) ∈ NFL ∨ Cond.not (Cond.eq (tmJ j) (tmJ i)) ∈ NFL := by decide +kernel
theorem n_ln : ∀ i, i < 6 → lenJ.getD i 0 < 2 ^ 31 := by decide +kernel
theorem n_xx : ∀ i, i < 14 → 6 ≤ i → Cond.exactly (tmX i) "java/lang/String" ∈ NFL := by decide +kernel
theorem n_nc : Cond.not (.castable ISE IAE) ∈ NFL ∧ Cond.not (.castable IOB ISE) ∈ NFL ∧ Cond.not (.castable IAE ISE) ∈ NFL ∧ Cond.not (.castable IAE IOB) ∈ NFL := by decide +kernel
theorem n_eq : Cond.eq (tmJ 0) (.string "MutantTester$Mutants" 63) ∈ NFL ∧ Cond.eq (tmJ 1) (.string "MutantTester" 205) ∈ NFL ∧ Cond.eq (tmJ 1) (.string "MutantTester$Mutants" 69) ∈ NFL ∧ Cond.eq (tmJ 2) (.string "MutantTester$Mutants" 71) ∈ NFL := by decide +kernel
theorem n_st : Cond.isRef (.static Bundle.tN "UNASSIGNED_STACK" Bundle.steD) ∈ NFL ∧ Cond.isRef (.static Bundle.tN "SUPPRESSED_SENTINEL" Bundle.listD) ∈ NFL ∧ Cond.eq (.static "java/lang/String" "COMPACT_STRINGS" "Z") (.int 1) ∈ NFL ∧ Cond.isRef (.static "jdk/internal/util/Preconditions" "SIOOBE_FORMATTER" "Ljava/util/function/BiFunction;") ∈ NFL := by decide +kernel
section
variable {s : State} {args : Array Value} {A : Nat → Prop}
theorem arr_00 {ty : FieldType} (h : (Cond.arrayClass ty).before args s = true) (hp : ∀ cX, s.vm.findClass ("[" ++ ty.toString) = some cX → va_RA s cX ty) : ∃ cA, ArrOfT s cA ty ∧ va_RA s cA ty := by
  obtain ⟨c, k, comp, h1, h2, h3⟩ := Cond.arrayClass_spec (args := args) (first := s) (o := none) (s := s) (idx := []) h
  exact ⟨c, fun n z => ⟨fun k h => (by cases h), k, h2, comp, h3⟩, hp c h1⟩
set_option maxHeartbeats 4000000 in
theorem env_00 (hts : ∀ w ∈ lw_tbl, w.before args s = true) (hnf : ∀ w ∈ NFL, w.before args s = true) (hA : ∀ a : Nat, a < s.heap.size → ¬ A a) : ∃ V : EV, ENV V A s s.heap := by
  have hG : ∀ w ∈ GW, w.before args s = true := fun w h => hts w (List.mem_filter.mp h).1
  obtain ⟨c0, i0, k0⟩ := u_known (C := RX0) (T := TX0) (N := 5) (n := 5) hG inG0 (hG _ (gw_1 (i := 38) (by decide +kernel) rfl))
  obtain ⟨c1, i1, k1⟩ := u_known (C := RX1) (T := TX1) (N := 5) (n := 5) hG inG1 (hG _ (gw_1 (i := 134) (by decide +kernel) rfl))
  obtain ⟨c2, i2, k2⟩ := u_known (C := RX2) (T := TX2) (N := 12) (n := 12) hG inG2 (hG _ (gw_1 (i := 187) (by decide +kernel) rfl))
  obtain ⟨c3, i3, k3⟩ := u_known (C := RX3) (T := TX3) (N := 6) (n := 6) hG inG3 (hG _ (gw_1 (i := 236) (by decide +kernel) rfl))
  obtain ⟨c4, i4, k4⟩ := u_known (C := RX4) (T := TX4) (N := 6) (n := 6) hG inG4 (hG _ (gw_1 (i := 97) (by decide +kernel) rfl))
  obtain ⟨c5, i5, k5⟩ := u_known (C := RX5) (T := TX5) (N := 4) (n := 4) hG inG5 (hG _ (gw_1 (i := 32) (by decide +kernel) rfl))
  obtain ⟨c6, i6, k6⟩ := u_known (C := RX6) (T := TX6) (N := 7) (n := 7) hG inG6 (hG _ (gw_1 (i := 140) (by decide +kernel) rfl))
  obtain ⟨c7, i7, k7⟩ := u_known (C := RX7) (T := TX7) (N := 13) (n := 13) hG inG7 (hG _ (gw_1 (i := 24) (by decide +kernel) rfl))
  obtain ⟨c8, i8, k8⟩ := u_known (C := RX8) (T := TX8) (N := 63) (n := 63) hG inG8 (hG _ (gw_4 (i := 235) (by decide +kernel) rfl))
  obtain ⟨dC, dI, hKc⟩ : ∃ (dC : Nat → ClassId) (dI : Nat → Nat → Nat), ∀ (k : Nat) (q : vw_C), vwCl[k]? = some q → u_Kn s q.1 q.2.1 q.2.2 (dC k) (dI k) := by
    refine ⟨fun k => match k with
      | 0 => c0
      | 1 => c1
      | 2 => c2
      | 3 => c3
      | 4 => c4
      | 5 => c5
      | 6 => c6
      | 7 => c7
      | _ => c8, fun k => match k with
      | 0 => i0
      | 1 => i1
      | 2 => i2
      | 3 => i3
      | 4 => i4
      | 5 => i5
      | 6 => i6
      | 7 => i7
      | _ => i8, ?_⟩
    intro k q hq
    match k, hq with
    | 0, hq => cases hq; exact k0
    | 1, hq => cases hq; exact k1
    | 2, hq => cases hq; exact k2
    | 3, hq => cases hq; exact k3
    | 4, hq => cases hq; exact k4
    | 5, hq => cases hq; exact k5
    | 6, hq => cases hq; exact k6
    | 7, hq => cases hq; exact k7
    | 8, hq => cases hq; exact k8
    | k + 9, hq => simp at hq
  obtain ⟨a0, b0, d0⟩ := arr_00 (s := s) (args := args) (ty := .int) (hG _ (gw_1 (i := 80) (by decide +kernel) rfl)) (fun _ h => h)
  obtain ⟨a1, b1, d1⟩ := arr_00 (s := s) (args := args) (ty := .char) (hG _ (gw_1 (i := 79) (by decide +kernel) rfl)) (fun _ h => h)
  obtain ⟨a2, b2, d2⟩ := arr_00 (s := s) (args := args) (ty := .long) (hG _ (gw_2 (i := 24) (by decide +kernel) rfl)) (fun _ h => h)
  obtain ⟨a3, b3, d3⟩ := arr_00 (s := s) (args := args) (ty := .boolean) (hG _ (gw_5 (i := 190) (by decide +kernel) rfl)) (fun _ h => h)
  obtain ⟨cA, hKa⟩ : ∃ cA : Nat → ClassId, ∀ (k : Nat) (q : ClassId × FieldType), (tysG cA)[k]? = some q → ArrOfT s q.1 q.2 ∧ va_RA s q.1 q.2 := by
    refine ⟨fun k => match k with
      | 0 => a0
      | 1 => a1
      | 2 => a2
      | _ => a3, ?_⟩
    intro k q hq
    match k, hq with
    | 0, hq => cases hq; exact ⟨b0, d0⟩
    | 1, hq => cases hq; exact ⟨b1, d1⟩
    | 2, hq => cases hq; exact ⟨b2, d2⟩
    | 3, hq => cases hq; exact ⟨b3, d3⟩
    | k + 4, hq => simp [tysG] at hq
  obtain ⟨adK, adV, hS, hSe⟩ := vk_Sof (args := args) (s := s) (N := 6) (tm := tmJ) (len := lenJ) (byt := bytJ) (A := A) n_ln (fun i h => hnf _ (n_ex i h)) (fun i h => hnf _ (n_co i h)) (fun i h => hnf _ (n_ar i h)) (fun i h => hnf _ (n_le i h)) (fun i h j hj => hnf _ (n_el i h j hj)) (fun i j hi hj hij => (n_ne i hi j hj hij).imp (hnf _) (hnf _)) hA
  have hx0 : ∀ i, ∃ a : Nat, i < 14 → 6 ≤ i → (tmX i).eval args s none [] s = some (.ref a) := by
    intro i
    by_cases h : i < 14 ∧ 6 ≤ i
    · obtain ⟨a, c, cA, kA, q1, -⟩ := Cond.exactly_spec (args := args) (first := s) (o := none) (s := s) (idx := []) (t := tmX i) (cls := "java/lang/String") (hnf _ (n_xx i h.1 h.2))
      exact ⟨a, fun _ _ => q1⟩
    · exact ⟨0, fun h1 h2 => absurd ⟨h1, h2⟩ h⟩
  obtain ⟨xx, hxx⟩ := Classical.axiomOfChoice hx0
  obtain ⟨ad, ha1, ha2⟩ : ∃ ad : Nat → Nat, (∀ i, i < 6 → ad i = adK i) ∧ ∀ i, 6 ≤ i → ad i = xx i := ⟨fun i => if i < 6 then adK i else xx i, fun i h => if_pos h, fun i h => if_neg (by omega)⟩
  have hS' : vk_S 6 lenJ bytJ ad adV A s s.heap := by
    refine ⟨fun i hi => ?_, fun i j hi hj e => ?_⟩
    · rw [ha1 i hi]
      exact hS.1 i hi
    · rw [ha1 i hi, ha1 j hj] at e
      exact hS.2 i j hi hj e
  have eJ : ∀ i, i < 6 → (tmJ i).eval args s none [] s = some (.ref (ad i)) := fun i hi => by rw [ha1 i hi]; exact hSe i hi
  have eX : ∀ i, i < 14 → 6 ≤ i → (tmX i).eval args s none [] s = some (.ref (ad i)) := fun i hi h6 => by rw [ha2 i h6]; exact hxx i hi h6
  have hR : ∀ q ∈ sJ, vk_R q.1 q.2.1 q.2.2.1 (ad q.2.2.2) s := (List.forall_mem_cons.mpr ⟨(vk_R.of (A := args) (hts _ (tb_3 (i := 122) (by decide +kernel))) (eJ 0 (by decide))), (List.forall_mem_cons.mpr ⟨(vk_R.of (A := args) (hts _ (tb_3 (i := 158) (by decide +kernel))) (va_eqR (hnf _ n_eq.1) (eJ 0 (by decide)))), (List.forall_mem_cons.mpr ⟨(vk_R.of (A := args) (hts _ (tb_3 (i := 124) (by decide +kernel))) (va_eqR (hnf _ n_eq.2.1) (eJ 1 (by decide)))), (List.forall_mem_cons.mpr ⟨(vk_R.of (A := args) (hts _ (tb_3 (i := 188) (by decide +kernel))) (va_eqR (hnf _ n_eq.2.2.1) (eJ 1 (by decide)))), (List.forall_mem_cons.mpr ⟨(vk_R.of (A := args) (hts _ (tb_3 (i := 87) (by decide +kernel))) (eJ 1 (by decide))), (List.forall_mem_cons.mpr ⟨(vk_R.of (A := args) (hts _ (tb_3 (i := 125) (by decide +kernel))) (eJ 2 (by decide))), (List.forall_mem_cons.mpr ⟨(vk_R.of (A := args) (hts _ (tb_3 (i := 189) (by decide +kernel))) (va_eqR (hnf _ n_eq.2.2.2) (eJ 2 (by decide)))), (List.forall_mem_cons.mpr ⟨(vk_R.of (A := args) (hts _ (tb_3 (i := 86) (by decide +kernel))) (eJ 3 (by decide))), (List.forall_mem_cons.mpr ⟨(vk_R.of (A := args) (hts _ (tb_3 (i := 85) (by decide +kernel))) (eJ 4 (by decide))), (List.forall_mem_cons.mpr ⟨(vk_R.of (A := args) (hts _ (tb_2 (i := 234) (by decide +kernel))) (eJ 5 (by decide))), (List.forall_mem_cons.mpr ⟨(vk_R.of (A := args) (hts _ (tb_4 (i := 107) (by decide +kernel))) (eX 6 (by decide) (by decide))), (List.forall_mem_cons.mpr ⟨(vk_R.of (A := args) (hts _ (tb_4 (i := 116) (by decide +kernel))) (eX 7 (by decide) (by decide))), (List.forall_mem_cons.mpr ⟨(vk_R.of (A := args) (hts _ (tb_4 (i := 85) (by decide +kernel))) (eX 8 (by decide) (by decide))), (List.forall_mem_cons.mpr ⟨(vk_R.of (A := args) (hts _ (tb_4 (i := 212) (by decide +kernel))) (eX 9 (by decide) (by decide))), (List.forall_mem_cons.mpr ⟨(vk_R.of (A := args) (hts _ (tb_4 (i := 99) (by decide +kernel))) (eX 10 (by decide) (by decide))), (List.forall_mem_cons.mpr ⟨(vk_R.of (A := args) (hts _ (tb_4 (i := 217) (by decide +kernel))) (eX 11 (by decide) (by decide))), (List.forall_mem_cons.mpr ⟨(vk_R.of (A := args) (hts _ (tb_3 (i := 135) (by decide +kernel))) (eX 12 (by decide) (by decide))), (List.forall_mem_cons.mpr ⟨(vk_R.of (A := args) (hts _ (tb_2 (i := 179) (by decide +kernel))) (eX 13 (by decide) (by decide))), (List.forall_mem_nil _)⟩)⟩)⟩)⟩)⟩)⟩)⟩)⟩)⟩)⟩)⟩)⟩)⟩)⟩)⟩)⟩)⟩)⟩)
  have hz1 : vx_Zq Bundle.tN "UNASSIGNED_STACK" Bundle.steD A s s.heap := vx_Zqof (hts _ (tb_2 (i := 165) (by decide +kernel))) (hts _ (tb_1 (i := 10) (by decide +kernel))) (hnf _ n_st.1) hA
  have hz2 : vx_Zq Bundle.tN "SUPPRESSED_SENTINEL" Bundle.listD A s s.heap := vx_Zqof (hts _ (tb_2 (i := 167) (by decide +kernel))) (hts _ (tb_1 (i := 10) (by decide +kernel))) (hnf _ n_st.2.1) hA
  have hz3 : va_Z "java/lang/String" "COMPACT_STRINGS" "Z" (.int 1) A s s.heap := va_Zof (hts _ (tb_3 (i := 12) (by decide +kernel))) (hts _ (tb_1 (i := 14) (by decide +kernel))) (va_eqi (hnf _ n_st.2.2.1)) hA
  have hz4 : va_Zq "jdk/internal/util/Preconditions" "SIOOBE_FORMATTER" "Ljava/util/function/BiFunction;" A s s.heap := va_Zqof (hts _ (tb_3 (i := 55) (by decide +kernel))) (hts _ (tb_1 (i := 18) (by decide +kernel))) (hnf _ n_st.2.2.2) hA
  have hd : ∀ q ∈ dcl, va_Nw (.declares q) s := (List.forall_mem_cons.mpr ⟨va_Nw.of (A := args) rfl (hts _ (tb_2 (i := 142) (by decide +kernel))), (List.forall_mem_cons.mpr ⟨va_Nw.of (A := args) rfl (hts _ (tb_2 (i := 144) (by decide +kernel))), (List.forall_mem_cons.mpr ⟨va_Nw.of (A := args) rfl (hts _ (tb_2 (i := 146) (by decide +kernel))), (List.forall_mem_nil _)⟩)⟩)⟩)
  have he : ∀ q ∈ exl, va_Nw (.castable q q) s := (List.forall_mem_cons.mpr ⟨va_Nw.of (A := args) rfl (hts _ (tb_2 (i := 140) (by decide +kernel))), (List.forall_mem_cons.mpr ⟨va_Nw.of (A := args) rfl (hts _ (tb_3 (i := 128) (by decide +kernel))), (List.forall_mem_cons.mpr ⟨va_Nw.of (A := args) rfl (hts _ (tb_4 (i := 92) (by decide +kernel))), (List.forall_mem_nil _)⟩)⟩)⟩)
  have hn : ∀ q ∈ nwl, va_Nw (.methodLinkNest q.1 q.2.1 q.2.2 "MutantTester") s := (List.forall_mem_cons.mpr ⟨va_Nw.of (A := args) rfl (hts _ (tb_1 (i := 33) (by decide +kernel))), (List.forall_mem_cons.mpr ⟨va_Nw.of (A := args) rfl (hts _ (tb_1 (i := 95) (by decide +kernel))), (List.forall_mem_cons.mpr ⟨va_Nw.of (A := args) rfl (hts _ (tb_1 (i := 98) (by decide +kernel))), (List.forall_mem_cons.mpr ⟨va_Nw.of (A := args) rfl (hts _ (tb_1 (i := 135) (by decide +kernel))), (List.forall_mem_cons.mpr ⟨va_Nw.of (A := args) rfl (hts _ (tb_1 (i := 188) (by decide +kernel))), (List.forall_mem_cons.mpr ⟨va_Nw.of (A := args) rfl (hts _ (tb_1 (i := 237) (by decide +kernel))), (List.forall_mem_cons.mpr ⟨va_Nw.of (A := args) rfl (hts _ (tb_1 (i := 141) (by decide +kernel))), (List.forall_mem_cons.mpr ⟨va_Nw.of (A := args) rfl (hts _ (tb_1 (i := 193) (by decide +kernel))), (List.forall_mem_cons.mpr ⟨va_Nw.of (A := args) rfl (hts _ (tb_1 (i := 39) (by decide +kernel))), (List.forall_mem_cons.mpr ⟨va_Nw.of (A := args) rfl (hts _ (tb_3 (i := 231) (by decide +kernel))), (List.forall_mem_cons.mpr ⟨va_Nw.of (A := args) rfl (hts _ (tb_3 (i := 234) (by decide +kernel))), (List.forall_mem_cons.mpr ⟨va_Nw.of (A := args) rfl (hts _ (tb_4 (i := 30) (by decide +kernel))), (List.forall_mem_cons.mpr ⟨va_Nw.of (A := args) rfl (hts _ (tb_4 (i := 150) (by decide +kernel))), (List.forall_mem_cons.mpr ⟨va_Nw.of (A := args) rfl (hts _ (tb_4 (i := 151) (by decide +kernel))), (List.forall_mem_cons.mpr ⟨va_Nw.of (A := args) rfl (hts _ (tb_4 (i := 160) (by decide +kernel))), (List.forall_mem_cons.mpr ⟨va_Nw.of (A := args) rfl (hts _ (tb_4 (i := 198) (by decide +kernel))), (List.forall_mem_cons.mpr ⟨va_Nw.of (A := args) rfl (hts _ (tb_3 (i := 153) (by decide +kernel))), (List.forall_mem_nil _)⟩)⟩)⟩)⟩)⟩)⟩)⟩)⟩)⟩)⟩)⟩)⟩)⟩)⟩)⟩)⟩)⟩)
  exact ⟨((dC, dI), cA, ad, adV), ⟨hKc, hKa⟩, hS', hR, hz1, hz2, hz3, hz4, hd, he, hn⟩
theorem ncs_00 (hnf : ∀ w ∈ NFL, w.before args s = true) : NCS s := ⟨va_Nc.of (hnf _ n_nc.1), va_Nc.of (hnf _ n_nc.2.1), va_Nc.of (hnf _ n_nc.2.2.1), va_Nc.of (hnf _ n_nc.2.2.2)⟩
end
