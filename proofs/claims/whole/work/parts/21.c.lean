/-! THE LAW'S HELPERS: their walks -/
theorem set_last {w : va_W} {a b : Nat × va_E} : (w ++ [a]).set w.length b = w ++ [b] := by
  rw [List.set_append_right _ _ (Nat.le_refl _), Nat.sub_self]
  rfl
theorem get_last {w : va_W} {a : Nat × va_E} : (w ++ [a])[w.length]? = some a := by
  rw [List.getElem?_append_right (Nat.le_refl _), Nat.sub_self]
  rfl
theorem get_ap {w v : va_W} {k : Nat} {a : Nat × va_E} (h : w[k]? = some a) : (w ++ v)[k]? = some a := by
  rw [List.getElem?_append_left (List.getElem?_eq_some_iff.mp h).1]
  exact h
abbrev outW (V : EV) (o : Nat) (f : Nat → Int64) : Nat × va_E := (o, .inl (V.2.1 2, 1, .inr (.inl f)))
theorem cmL_7 : ∀ a ∈ wsCV RL 7 RX7 yX7_compile cX7_compile 2 (some .int), a ∈ GW := by
  unfold wsCV
  exact (List.forall_mem_cons.mpr ⟨(gw_2 (i := 90) (by decide +kernel) rfl), (List.forall_mem_cons.mpr ⟨(gw_2 (i := 91) (by decide +kernel) rfl), (List.forall_mem_cons.mpr ⟨(gw_2 (i := 92) (by decide +kernel) rfl), (List.forall_mem_cons.mpr ⟨(gw_1 (i := 1) (by decide +kernel) rfl), (List.forall_mem_cons.mpr ⟨(gw_2 (i := 93) (by decide +kernel) rfl), (List.forall_mem_nil _)⟩)⟩)⟩)⟩)⟩)
theorem cmL_17 : ∀ a ∈ wsCV RL 17 RX7 yX7_mutant cX7_mutant 3 (some .int), a ∈ GW := by
  unfold wsCV
  exact (List.forall_mem_cons.mpr ⟨(gw_4 (i := 77) (by decide +kernel) rfl), (List.forall_mem_cons.mpr ⟨(gw_4 (i := 78) (by decide +kernel) rfl), (List.forall_mem_cons.mpr ⟨(gw_4 (i := 79) (by decide +kernel) rfl), (List.forall_mem_cons.mpr ⟨(gw_1 (i := 1) (by decide +kernel) rfl), (List.forall_mem_cons.mpr ⟨(gw_4 (i := 80) (by decide +kernel) rfl), (List.forall_mem_nil _)⟩)⟩)⟩)⟩)⟩)
theorem cmL_23 : ∀ a ∈ wsCV RL 23 RX7 yX7_test cX7_test 3 (some .int), a ∈ GW := by
  unfold wsCV
  exact (List.forall_mem_cons.mpr ⟨(gw_4 (i := 112) (by decide +kernel) rfl), (List.forall_mem_cons.mpr ⟨(gw_4 (i := 113) (by decide +kernel) rfl), (List.forall_mem_cons.mpr ⟨(gw_4 (i := 114) (by decide +kernel) rfl), (List.forall_mem_cons.mpr ⟨(gw_1 (i := 1) (by decide +kernel) rfl), (List.forall_mem_cons.mpr ⟨(gw_4 (i := 115) (by decide +kernel) rfl), (List.forall_mem_nil _)⟩)⟩)⟩)⟩)⟩)
theorem cmL_26 : ∀ a ∈ wsCV RL 26 RX7 yX7_run cX7_run 5 (some .int), a ∈ GW := by
  unfold wsCV
  exact (List.forall_mem_cons.mpr ⟨(gw_4 (i := 124) (by decide +kernel) rfl), (List.forall_mem_cons.mpr ⟨(gw_4 (i := 125) (by decide +kernel) rfl), (List.forall_mem_cons.mpr ⟨(gw_4 (i := 126) (by decide +kernel) rfl), (List.forall_mem_cons.mpr ⟨(gw_1 (i := 1) (by decide +kernel) rfl), (List.forall_mem_cons.mpr ⟨(gw_4 (i := 127) (by decide +kernel) rfl), (List.forall_mem_nil _)⟩)⟩)⟩)⟩)⟩)
theorem cmL_30 : ∀ a ∈ wsCV RL 30 RX7 yX7_matrix cX7_matrix 1 (some .int), a ∈ GW := by
  unfold wsCV
  exact (List.forall_mem_cons.mpr ⟨(gw_4 (i := 180) (by decide +kernel) rfl), (List.forall_mem_cons.mpr ⟨(gw_4 (i := 181) (by decide +kernel) rfl), (List.forall_mem_cons.mpr ⟨(gw_4 (i := 182) (by decide +kernel) rfl), (List.forall_mem_cons.mpr ⟨(gw_1 (i := 1) (by decide +kernel) rfl), (List.forall_mem_cons.mpr ⟨(gw_4 (i := 183) (by decide +kernel) rfl), (List.forall_mem_nil _)⟩)⟩)⟩)⟩)⟩)
theorem cmL_33 : ∀ a ∈ wsCV RL 33 RX7 yX7_killed cX7_killed 3 (some .boolean), a ∈ GW := by
  unfold wsCV
  exact (List.forall_mem_cons.mpr ⟨(gw_4 (i := 204) (by decide +kernel) rfl), (List.forall_mem_cons.mpr ⟨(gw_4 (i := 205) (by decide +kernel) rfl), (List.forall_mem_cons.mpr ⟨(gw_4 (i := 206) (by decide +kernel) rfl), (List.forall_mem_cons.mpr ⟨(gw_1 (i := 1) (by decide +kernel) rfl), (List.forall_mem_cons.mpr ⟨(gw_4 (i := 207) (by decide +kernel) rfl), (List.forall_mem_nil _)⟩)⟩)⟩)⟩)⟩)
theorem cmL_37 : ∀ a ∈ wsCV RL 37 RX7 yX7_reached cX7_reached 3 (some .boolean), a ∈ GW := by
  unfold wsCV
  exact (List.forall_mem_cons.mpr ⟨(gw_4 (i := 221) (by decide +kernel) rfl), (List.forall_mem_cons.mpr ⟨(gw_4 (i := 222) (by decide +kernel) rfl), (List.forall_mem_cons.mpr ⟨(gw_4 (i := 223) (by decide +kernel) rfl), (List.forall_mem_cons.mpr ⟨(gw_1 (i := 1) (by decide +kernel) rfl), (List.forall_mem_cons.mpr ⟨(gw_4 (i := 224) (by decide +kernel) rfl), (List.forall_mem_nil _)⟩)⟩)⟩)⟩)⟩)
theorem cmL_40 : ∀ a ∈ wsCV RL 40 RX7 yX7_score cX7_score 4 (some .int), a ∈ GW := by
  unfold wsCV
  exact (List.forall_mem_cons.mpr ⟨(gw_4 (i := 229) (by decide +kernel) rfl), (List.forall_mem_cons.mpr ⟨(gw_4 (i := 230) (by decide +kernel) rfl), (List.forall_mem_cons.mpr ⟨(gw_4 (i := 231) (by decide +kernel) rfl), (List.forall_mem_cons.mpr ⟨(gw_1 (i := 1) (by decide +kernel) rfl), (List.forall_mem_cons.mpr ⟨(gw_4 (i := 232) (by decide +kernel) rfl), (List.forall_mem_nil _)⟩)⟩)⟩)⟩)⟩)
abbrev hhL_compile : List (Nat × Nat × Nat × Nat) := [(0, 8, 11, 13), (0, 8, 14, 15)]
theorem cmL_57 : ∀ a ∈ wsCW RL 57 yL_compile cL_compile 3 hhL_compile, a ∈ GW := by
  unfold wsCW
  exact (List.forall_mem_cons.mpr ⟨(gw_2 (i := 85) (by decide +kernel) rfl), (List.forall_mem_cons.mpr ⟨(gw_2 (i := 86) (by decide +kernel) rfl), (List.forall_mem_cons.mpr ⟨(gw_1 (i := 0) (by decide +kernel) rfl), (List.forall_mem_cons.mpr ⟨(gw_2 (i := 87) (by decide +kernel) rfl), (List.forall_mem_nil _)⟩)⟩)⟩)⟩)
abbrev hhL_mutant : List (Nat × Nat × Nat × Nat) := [(0, 10, 13, 15), (0, 10, 17, 21), (0, 10, 21, 13)]
theorem cmL_66 : ∀ a ∈ wsCW RL 66 yL_mutant cL_mutant 5 hhL_mutant, a ∈ GW := by
  unfold wsCW
  exact (List.forall_mem_cons.mpr ⟨(gw_4 (i := 73) (by decide +kernel) rfl), (List.forall_mem_cons.mpr ⟨(gw_4 (i := 74) (by decide +kernel) rfl), (List.forall_mem_cons.mpr ⟨(gw_1 (i := 0) (by decide +kernel) rfl), (List.forall_mem_cons.mpr ⟨(gw_4 (i := 75) (by decide +kernel) rfl), (List.forall_mem_nil _)⟩)⟩)⟩)⟩)
abbrev hhL_test : List (Nat × Nat × Nat × Nat) := [(0, 10, 13, 15)]
theorem cmL_70 : ∀ a ∈ wsCW RL 70 yL_test cL_test 5 hhL_test, a ∈ GW := by
  unfold wsCW
  exact (List.forall_mem_cons.mpr ⟨(gw_4 (i := 109) (by decide +kernel) rfl), (List.forall_mem_cons.mpr ⟨(gw_4 (i := 110) (by decide +kernel) rfl), (List.forall_mem_cons.mpr ⟨(gw_1 (i := 0) (by decide +kernel) rfl), (List.forall_mem_cons.mpr ⟨(gw_4 (i := 111) (by decide +kernel) rfl), (List.forall_mem_nil _)⟩)⟩)⟩)⟩)
abbrev hhL_run : List (Nat × Nat × Nat × Nat) := [(0, 12, 15, 15), (0, 12, 19, 21)]
theorem cmL_78 : ∀ a ∈ wsCW RL 78 yL_run cL_run 6 hhL_run, a ∈ GW := by
  unfold wsCW
  exact (List.forall_mem_cons.mpr ⟨(gw_4 (i := 121) (by decide +kernel) rfl), (List.forall_mem_cons.mpr ⟨(gw_4 (i := 122) (by decide +kernel) rfl), (List.forall_mem_cons.mpr ⟨(gw_1 (i := 0) (by decide +kernel) rfl), (List.forall_mem_cons.mpr ⟨(gw_4 (i := 123) (by decide +kernel) rfl), (List.forall_mem_nil _)⟩)⟩)⟩)⟩)
abbrev hhL_matrix : List (Nat × Nat × Nat × Nat) := [(0, 8, 11, 15)]
theorem cmL_90 : ∀ a ∈ wsCW RL 90 yL_matrix cL_matrix 3 hhL_matrix, a ∈ GW := by
  unfold wsCW
  exact (List.forall_mem_cons.mpr ⟨(gw_4 (i := 177) (by decide +kernel) rfl), (List.forall_mem_cons.mpr ⟨(gw_4 (i := 178) (by decide +kernel) rfl), (List.forall_mem_cons.mpr ⟨(gw_1 (i := 0) (by decide +kernel) rfl), (List.forall_mem_cons.mpr ⟨(gw_4 (i := 179) (by decide +kernel) rfl), (List.forall_mem_nil _)⟩)⟩)⟩)⟩)
abbrev hhL_killed : List (Nat × Nat × Nat × Nat) := [(0, 17, 20, 15), (0, 17, 24, 21)]
theorem cmL_93 : ∀ a ∈ wsCW RL 93 yL_killed cL_killed 5 hhL_killed, a ∈ GW := by
  unfold wsCW
  exact (List.forall_mem_cons.mpr ⟨(gw_4 (i := 201) (by decide +kernel) rfl), (List.forall_mem_cons.mpr ⟨(gw_4 (i := 202) (by decide +kernel) rfl), (List.forall_mem_cons.mpr ⟨(gw_1 (i := 0) (by decide +kernel) rfl), (List.forall_mem_cons.mpr ⟨(gw_4 (i := 203) (by decide +kernel) rfl), (List.forall_mem_nil _)⟩)⟩)⟩)⟩)
abbrev hhL_reached : List (Nat × Nat × Nat × Nat) := [(0, 17, 20, 15), (0, 17, 24, 21)]
theorem cmL_96 : ∀ a ∈ wsCW RL 96 yL_reached cL_reached 5 hhL_reached, a ∈ GW := by
  unfold wsCW
  exact (List.forall_mem_cons.mpr ⟨(gw_4 (i := 218) (by decide +kernel) rfl), (List.forall_mem_cons.mpr ⟨(gw_4 (i := 219) (by decide +kernel) rfl), (List.forall_mem_cons.mpr ⟨(gw_1 (i := 0) (by decide +kernel) rfl), (List.forall_mem_cons.mpr ⟨(gw_4 (i := 220) (by decide +kernel) rfl), (List.forall_mem_nil _)⟩)⟩)⟩)⟩)
abbrev hhL_score : List (Nat × Nat × Nat × Nat) := [(0, 9, 12, 15), (0, 9, 15, 13)]
theorem cmL_99 : ∀ a ∈ wsCW RL 99 yL_score cL_score 4 hhL_score, a ∈ GW := by
  unfold wsCW
  exact (List.forall_mem_cons.mpr ⟨(gw_4 (i := 226) (by decide +kernel) rfl), (List.forall_mem_cons.mpr ⟨(gw_4 (i := 227) (by decide +kernel) rfl), (List.forall_mem_cons.mpr ⟨(gw_1 (i := 0) (by decide +kernel) rfl), (List.forall_mem_cons.mpr ⟨(gw_4 (i := 228) (by decide +kernel) rfl), (List.forall_mem_nil _)⟩)⟩)⟩)⟩)
theorem xkL_13 : Cond.classLink RL 13 IAE ∈ GW := gw_2 (i := 88) (by decide +kernel) rfl
theorem xkL_15 : Cond.classLink RL 15 ISE ∈ GW := gw_2 (i := 89) (by decide +kernel) rfl
theorem xkL_21 : Cond.classLink RL 21 IOB ∈ GW := gw_4 (i := 76) (by decide +kernel) rfl
theorem wr_compile {V : EV} {l : Launch} (hl0 : l.stackTraces = false) {w w1 : va_W} {x o : Nat} {f : Nat → Int64} {fs : List Value} {r : Int32} (hM : MI V l yX7_compile cX7_compile 2 .int 199 5784 [.ref x] w r w1) (he : w[0]? = some (x, .inr (7, fs))) : MW V l yL_compile cL_compile 3 hhL_compile 200 5805 [.ref x, .ref o] (w ++ [outW V o f]) 0 (w1 ++ [outW V o (vp_updL f 0 r.toInt64)]) := by
  refine mw_of hl0 (by decide +kernel) (Nat.le_of_ble_eq_true rfl) (fun p e R s m args below meth c Q A C hk hN ht K => ?_)
  refine k_sub (L' := [(0, .ref x), (1, .ref o)]) [0, 1] rfl ?_
  refine k_aload_n C dL_compile_0 1 rfl ?_
  refine k_iconst C dL_compile_1 (v := 0) rfl ?_
  refine k_aload_n C dL_compile_2 0 rfl ?_
  refine k_callVi C (mi_fr hM) cmL_7 ok7_compile (by decide) 0 (get_ap he) rfl rfl rfl (Nat.le_of_ble_eq_true rfl) dL_compile_3 ?_
  refine k_i2l C dL_compile_6 ?_
  refine k_last C w1.length get_last (show ¬ ((0 : Int32) < 0 ∨ 1 ≤ (0 : Int32).toNatClampNeg) by decide) (w' := w1 ++ [outW V o (vp_updL f 0 r.toInt64)]) (by rw [set_last]; rfl) dL_compile_7 ?_
  refine k_goto C 17 dL_compile_8 (by decide) ?_
  refine k_iconst C dL_compile_17 (v := 0) rfl ?_
  exact K 0 0 (by decide) (by decide) _ _ dL_compile_18 rfl
theorem wx_compile_1 {V : EV} {l : Launch} (hl0 : l.stackTraces = false) {w w1 : va_W} {x o : Nat} {f : Nat → Int64} {fs : List Value} (hM : TI V l yX7_compile cX7_compile 2 .int 199 5784 [.ref x] w IAE w1) (he : w[0]? = some (x, .inr (7, fs))) : MW V l yL_compile cL_compile 3 hhL_compile 200 5805 [.ref x, .ref o] (w ++ [outW V o f]) 1 (w1 ++ [outW V o f]) := by
  refine mw_of hl0 (by decide +kernel) (Nat.le_of_ble_eq_true rfl) (fun p e R s m args below meth c Q A C hk hN ht K => ?_)
  refine k_sub (L' := [(0, .ref x), (1, .ref o)]) [0, 1] rfl ?_
  refine k_aload_n C dL_compile_0 1 rfl ?_
  refine k_iconst C dL_compile_1 (v := 0) rfl ?_
  refine k_aload_n C dL_compile_2 0 rfl ?_
  refine k_callVic C (ti_fr hM) cmL_7 ok7_compile (by decide) 0 (get_ap he) rfl rfl rfl (Nat.le_of_ble_eq_true rfl) dL_compile_3 hk [] ⟨0, 8, 11, 13⟩ [⟨0, 8, 14, 15⟩] (ht.trans rfl) (fun z hz => by cases hz) (by decide) (by decide) xkL_13 (by decide +kernel) (fun q9 => ?_)
  have C1 := C.up hk
  refine k_astore_n C1 dL_compile_11 _ (by decide) rfl ?_
  refine k_iconst C1 dL_compile_12 (v := 1) rfl ?_
  exact K (0 + 1) (0 + 6) (by decide) (by decide) _ _ dL_compile_13 rfl
theorem wx_compile_2 {V : EV} {l : Launch} (hl0 : l.stackTraces = false) {w w1 : va_W} {x o : Nat} {f : Nat → Int64} {fs : List Value} (hM : TI V l yX7_compile cX7_compile 2 .int 199 5784 [.ref x] w ISE w1) (he : w[0]? = some (x, .inr (7, fs))) : MW V l yL_compile cL_compile 3 hhL_compile 200 5805 [.ref x, .ref o] (w ++ [outW V o f]) 2 (w1 ++ [outW V o f]) := by
  refine mw_of hl0 (by decide +kernel) (Nat.le_of_ble_eq_true rfl) (fun p e R s m args below meth c Q A C hk hN ht K => ?_)
  refine k_sub (L' := [(0, .ref x), (1, .ref o)]) [0, 1] rfl ?_
  refine k_aload_n C dL_compile_0 1 rfl ?_
  refine k_iconst C dL_compile_1 (v := 0) rfl ?_
  refine k_aload_n C dL_compile_2 0 rfl ?_
  refine k_callVic C (ti_fr hM) cmL_7 ok7_compile (by decide) 0 (get_ap he) rfl rfl rfl (Nat.le_of_ble_eq_true rfl) dL_compile_3 hk [⟨0, 8, 11, 13⟩] ⟨0, 8, 14, 15⟩ [] (ht.trans rfl) (fun z hz => by rw [List.mem_singleton.mp hz]; exact .inr ⟨by decide, IAE, C.2.2.2.2.1 _ xkL_13, hN.1⟩) (by decide) (by decide) xkL_15 (by decide +kernel) (fun q9 => ?_)
  have C1 := C.up hk
  refine k_astore_n C1 dL_compile_14 _ (by decide) rfl ?_
  refine k_iconst C1 dL_compile_15 (v := 2) rfl ?_
  exact K (0 + 1) (0 + 6) (by decide) (by decide) _ _ dL_compile_16 rfl
theorem wl_compile {V : EV} {l : Launch} (hl0 : l.stackTraces = false) {w w1 : va_W} {x o : Nat} {f : Nat → Int64} {fs : List Value} {res : Except String Int32} {v k : Int32} (hO : OUT res v k [(IAE, 1), (ISE, 2)]) (h1 : ∀ r, res = .ok r → MI V l yX7_compile cX7_compile 2 .int 199 5784 [.ref x] w r w1) (h2 : ∀ E, res = .error E → TI V l yX7_compile cX7_compile 2 .int 199 5784 [.ref x] w E w1) (he : w[0]? = some (x, .inr (7, fs))) : ∃ f', (k = 0 → f' 0 = v.toInt64) ∧ MW V l yL_compile cL_compile 3 hhL_compile 200 5805 [.ref x, .ref o] (w ++ [outW V o f]) k (w1 ++ [outW V o f']) := by
  rcases hO with ⟨e1, e2⟩ | ⟨E, hE, e1⟩
  · subst e2
    exact ⟨_, fun _ => rfl, wr_compile hl0 (h1 v e1) he⟩
  · simp only [List.mem_cons, List.not_mem_nil, or_false, Prod.mk.injEq] at hE
    rcases hE with ⟨rfl, rfl⟩ | ⟨rfl, rfl⟩
    · exact ⟨f, fun q => absurd q (by decide), wx_compile_1 hl0 (h2 _ e1) he⟩
    · exact ⟨f, fun q => absurd q (by decide), wx_compile_2 hl0 (h2 _ e1) he⟩
theorem wr_mutant {V : EV} {l : Launch} (hl0 : l.stackTraces = false) {w w1 : va_W} {x o : Nat} {f : Nat → Int64} {fs : List Value} {v1 v2 : Int32} {r : Int32} (hM : MI V l yX7_mutant cX7_mutant 3 .int 7 112 [.ref x, .int v1, .int v2] w r w1) (he : w[0]? = some (x, .inr (7, fs))) : MW V l yL_mutant cL_mutant 5 hhL_mutant 8 134 [.ref x, .int v1, .int v2, .ref o] (w ++ [outW V o f]) 0 (w1 ++ [outW V o (vp_updL f 0 r.toInt64)]) := by
  refine mw_of hl0 (by decide +kernel) (Nat.le_of_ble_eq_true rfl) (fun p e R s m args below meth c Q A C hk hN ht K => ?_)
  refine k_sub (L' := [(0, .ref x), (1, .int v1), (2, .int v2), (3, .ref o)]) [0, 1, 2, 3] rfl ?_
  refine k_aload_n C dL_mutant_0 3 rfl ?_
  refine k_iconst C dL_mutant_1 (v := 0) rfl ?_
  refine k_aload_n C dL_mutant_2 0 rfl ?_
  refine k_iload_n C dL_mutant_3 1 rfl ?_
  refine k_iload_n C dL_mutant_4 2 rfl ?_
  refine k_callVi C (mi_fr hM) cmL_17 ok7_mutant (by decide) 0 (get_ap he) rfl rfl rfl (Nat.le_of_ble_eq_true rfl) dL_mutant_5 ?_
  refine k_i2l C dL_mutant_8 ?_
  refine k_last C w1.length get_last (show ¬ ((0 : Int32) < 0 ∨ 1 ≤ (0 : Int32).toNatClampNeg) by decide) (w' := w1 ++ [outW V o (vp_updL f 0 r.toInt64)]) (by rw [set_last]; rfl) dL_mutant_9 ?_
  refine k_goto C 25 dL_mutant_10 (by decide) ?_
  refine k_iconst C dL_mutant_25 (v := 0) rfl ?_
  exact K 0 0 (by decide) (by decide) _ _ dL_mutant_26 rfl
theorem wx_mutant_1 {V : EV} {l : Launch} (hl0 : l.stackTraces = false) {w w1 : va_W} {x o : Nat} {f : Nat → Int64} {fs : List Value} {v1 v2 : Int32} (hM : TI V l yX7_mutant cX7_mutant 3 .int 7 112 [.ref x, .int v1, .int v2] w ISE w1) (he : w[0]? = some (x, .inr (7, fs))) : MW V l yL_mutant cL_mutant 5 hhL_mutant 8 134 [.ref x, .int v1, .int v2, .ref o] (w ++ [outW V o f]) 1 (w1 ++ [outW V o f]) := by
  refine mw_of hl0 (by decide +kernel) (Nat.le_of_ble_eq_true rfl) (fun p e R s m args below meth c Q A C hk hN ht K => ?_)
  refine k_sub (L' := [(0, .ref x), (1, .int v1), (2, .int v2), (3, .ref o)]) [0, 1, 2, 3] rfl ?_
  refine k_aload_n C dL_mutant_0 3 rfl ?_
  refine k_iconst C dL_mutant_1 (v := 0) rfl ?_
  refine k_aload_n C dL_mutant_2 0 rfl ?_
  refine k_iload_n C dL_mutant_3 1 rfl ?_
  refine k_iload_n C dL_mutant_4 2 rfl ?_
  refine k_callVic C (ti_fr hM) cmL_17 ok7_mutant (by decide) 0 (get_ap he) rfl rfl rfl (Nat.le_of_ble_eq_true rfl) dL_mutant_5 hk [] ⟨0, 10, 13, 15⟩ [⟨0, 10, 17, 21⟩, ⟨0, 10, 21, 13⟩] (ht.trans rfl) (fun z hz => by cases hz) (by decide) (by decide) xkL_15 (by decide +kernel) (fun q9 => ?_)
  have C1 := C.up hk
  refine k_astore C1 dL_mutant_13 _ (by decide) rfl ?_
  refine k_iconst C1 dL_mutant_15 (v := 1) rfl ?_
  exact K (0 + 1) (0 + 6) (by decide) (by decide) _ _ dL_mutant_16 rfl
theorem wx_mutant_2 {V : EV} {l : Launch} (hl0 : l.stackTraces = false) {w w1 : va_W} {x o : Nat} {f : Nat → Int64} {fs : List Value} {v1 v2 : Int32} (hM : TI V l yX7_mutant cX7_mutant 3 .int 7 112 [.ref x, .int v1, .int v2] w IOB w1) (he : w[0]? = some (x, .inr (7, fs))) : MW V l yL_mutant cL_mutant 5 hhL_mutant 8 134 [.ref x, .int v1, .int v2, .ref o] (w ++ [outW V o f]) 2 (w1 ++ [outW V o f]) := by
  refine mw_of hl0 (by decide +kernel) (Nat.le_of_ble_eq_true rfl) (fun p e R s m args below meth c Q A C hk hN ht K => ?_)
  refine k_sub (L' := [(0, .ref x), (1, .int v1), (2, .int v2), (3, .ref o)]) [0, 1, 2, 3] rfl ?_
  refine k_aload_n C dL_mutant_0 3 rfl ?_
  refine k_iconst C dL_mutant_1 (v := 0) rfl ?_
  refine k_aload_n C dL_mutant_2 0 rfl ?_
  refine k_iload_n C dL_mutant_3 1 rfl ?_
  refine k_iload_n C dL_mutant_4 2 rfl ?_
  refine k_callVic C (ti_fr hM) cmL_17 ok7_mutant (by decide) 0 (get_ap he) rfl rfl rfl (Nat.le_of_ble_eq_true rfl) dL_mutant_5 hk [⟨0, 10, 13, 15⟩] ⟨0, 10, 17, 21⟩ [⟨0, 10, 21, 13⟩] (ht.trans rfl) (fun z hz => by rw [List.mem_singleton.mp hz]; exact .inr ⟨by decide, ISE, C.2.2.2.2.1 _ xkL_15, hN.2.1⟩) (by decide) (by decide) xkL_21 (by decide +kernel) (fun q9 => ?_)
  have C1 := C.up hk
  refine k_astore C1 dL_mutant_17 _ (by decide) rfl ?_
  refine k_iconst C1 dL_mutant_19 (v := 2) rfl ?_
  exact K (0 + 1) (0 + 6) (by decide) (by decide) _ _ dL_mutant_20 rfl
theorem wx_mutant_3 {V : EV} {l : Launch} (hl0 : l.stackTraces = false) {w w1 : va_W} {x o : Nat} {f : Nat → Int64} {fs : List Value} {v1 v2 : Int32} (hM : TI V l yX7_mutant cX7_mutant 3 .int 7 112 [.ref x, .int v1, .int v2] w IAE w1) (he : w[0]? = some (x, .inr (7, fs))) : MW V l yL_mutant cL_mutant 5 hhL_mutant 8 134 [.ref x, .int v1, .int v2, .ref o] (w ++ [outW V o f]) 3 (w1 ++ [outW V o f]) := by
  refine mw_of hl0 (by decide +kernel) (Nat.le_of_ble_eq_true rfl) (fun p e R s m args below meth c Q A C hk hN ht K => ?_)
  refine k_sub (L' := [(0, .ref x), (1, .int v1), (2, .int v2), (3, .ref o)]) [0, 1, 2, 3] rfl ?_
  refine k_aload_n C dL_mutant_0 3 rfl ?_
  refine k_iconst C dL_mutant_1 (v := 0) rfl ?_
  refine k_aload_n C dL_mutant_2 0 rfl ?_
  refine k_iload_n C dL_mutant_3 1 rfl ?_
  refine k_iload_n C dL_mutant_4 2 rfl ?_
  refine k_callVic C (ti_fr hM) cmL_17 ok7_mutant (by decide) 0 (get_ap he) rfl rfl rfl (Nat.le_of_ble_eq_true rfl) dL_mutant_5 hk [⟨0, 10, 13, 15⟩, ⟨0, 10, 17, 21⟩] ⟨0, 10, 21, 13⟩ [] (ht.trans rfl) (fun z hz => by
    rcases List.mem_cons.mp hz with rfl | hz
    · exact .inr ⟨by decide, ISE, C.2.2.2.2.1 _ xkL_15, hN.2.2.1⟩
    · rw [List.mem_singleton.mp hz]; exact .inr ⟨by decide, IOB, C.2.2.2.2.1 _ xkL_21, hN.2.2.2⟩) (by decide) (by decide) xkL_13 (by decide +kernel) (fun q9 => ?_)
  have C1 := C.up hk
  refine k_astore C1 dL_mutant_21 _ (by decide) rfl ?_
  refine k_iconst C1 dL_mutant_23 (v := 3) rfl ?_
  exact K (0 + 1) (0 + 6) (by decide) (by decide) _ _ dL_mutant_24 rfl
theorem wl_mutant {V : EV} {l : Launch} (hl0 : l.stackTraces = false) {w w1 : va_W} {x o : Nat} {f : Nat → Int64} {fs : List Value} {v1 v2 : Int32} {res : Except String Int32} {v k : Int32} (hO : OUT res v k [(ISE, 1), (IOB, 2), (IAE, 3)]) (h1 : ∀ r, res = .ok r → MI V l yX7_mutant cX7_mutant 3 .int 7 112 [.ref x, .int v1, .int v2] w r w1) (h2 : ∀ E, res = .error E → TI V l yX7_mutant cX7_mutant 3 .int 7 112 [.ref x, .int v1, .int v2] w E w1) (he : w[0]? = some (x, .inr (7, fs))) : ∃ f', (k = 0 → f' 0 = v.toInt64) ∧ MW V l yL_mutant cL_mutant 5 hhL_mutant 8 134 [.ref x, .int v1, .int v2, .ref o] (w ++ [outW V o f]) k (w1 ++ [outW V o f']) := by
  rcases hO with ⟨e1, e2⟩ | ⟨E, hE, e1⟩
  · subst e2
    exact ⟨_, fun _ => rfl, wr_mutant hl0 (h1 v e1) he⟩
  · simp only [List.mem_cons, List.not_mem_nil, or_false, Prod.mk.injEq] at hE
    rcases hE with ⟨rfl, rfl⟩ | ⟨rfl, rfl⟩ | ⟨rfl, rfl⟩
    · exact ⟨f, fun q => absurd q (by decide), wx_mutant_1 hl0 (h2 _ e1) he⟩
    · exact ⟨f, fun q => absurd q (by decide), wx_mutant_2 hl0 (h2 _ e1) he⟩
    · exact ⟨f, fun q => absurd q (by decide), wx_mutant_3 hl0 (h2 _ e1) he⟩
theorem wr_test {V : EV} {l : Launch} (hl0 : l.stackTraces = false) {w w1 : va_W} {x o : Nat} {f : Nat → Int64} {fs : List Value} {v1 v2 : Int32} {r : Int32} (hM : MI V l yX7_test cX7_test 3 .int 7 110 [.ref x, .int v1, .int v2] w r w1) (he : w[0]? = some (x, .inr (7, fs))) : MW V l yL_test cL_test 5 hhL_test 8 132 [.ref x, .int v1, .int v2, .ref o] (w ++ [outW V o f]) 0 (w1 ++ [outW V o (vp_updL f 0 r.toInt64)]) := by
  refine mw_of hl0 (by decide +kernel) (Nat.le_of_ble_eq_true rfl) (fun p e R s m args below meth c Q A C hk hN ht K => ?_)
  refine k_sub (L' := [(0, .ref x), (1, .int v1), (2, .int v2), (3, .ref o)]) [0, 1, 2, 3] rfl ?_
  refine k_aload_n C dL_test_0 3 rfl ?_
  refine k_iconst C dL_test_1 (v := 0) rfl ?_
  refine k_aload_n C dL_test_2 0 rfl ?_
  refine k_iload_n C dL_test_3 1 rfl ?_
  refine k_iload_n C dL_test_4 2 rfl ?_
  refine k_callVi C (mi_fr hM) cmL_23 ok7_test (by decide) 0 (get_ap he) rfl rfl rfl (Nat.le_of_ble_eq_true rfl) dL_test_5 ?_
  refine k_i2l C dL_test_8 ?_
  refine k_last C w1.length get_last (show ¬ ((0 : Int32) < 0 ∨ 1 ≤ (0 : Int32).toNatClampNeg) by decide) (w' := w1 ++ [outW V o (vp_updL f 0 r.toInt64)]) (by rw [set_last]; rfl) dL_test_9 ?_
  refine k_goto C 17 dL_test_10 (by decide) ?_
  refine k_iconst C dL_test_17 (v := 0) rfl ?_
  exact K 0 0 (by decide) (by decide) _ _ dL_test_18 rfl
theorem wx_test_1 {V : EV} {l : Launch} (hl0 : l.stackTraces = false) {w w1 : va_W} {x o : Nat} {f : Nat → Int64} {fs : List Value} {v1 v2 : Int32} (hM : TI V l yX7_test cX7_test 3 .int 7 110 [.ref x, .int v1, .int v2] w ISE w1) (he : w[0]? = some (x, .inr (7, fs))) : MW V l yL_test cL_test 5 hhL_test 8 132 [.ref x, .int v1, .int v2, .ref o] (w ++ [outW V o f]) 1 (w1 ++ [outW V o f]) := by
  refine mw_of hl0 (by decide +kernel) (Nat.le_of_ble_eq_true rfl) (fun p e R s m args below meth c Q A C hk hN ht K => ?_)
  refine k_sub (L' := [(0, .ref x), (1, .int v1), (2, .int v2), (3, .ref o)]) [0, 1, 2, 3] rfl ?_
  refine k_aload_n C dL_test_0 3 rfl ?_
  refine k_iconst C dL_test_1 (v := 0) rfl ?_
  refine k_aload_n C dL_test_2 0 rfl ?_
  refine k_iload_n C dL_test_3 1 rfl ?_
  refine k_iload_n C dL_test_4 2 rfl ?_
  refine k_callVic C (ti_fr hM) cmL_23 ok7_test (by decide) 0 (get_ap he) rfl rfl rfl (Nat.le_of_ble_eq_true rfl) dL_test_5 hk [] ⟨0, 10, 13, 15⟩ [] (ht.trans rfl) (fun z hz => by cases hz) (by decide) (by decide) xkL_15 (by decide +kernel) (fun q9 => ?_)
  have C1 := C.up hk
  refine k_astore C1 dL_test_13 _ (by decide) rfl ?_
  refine k_iconst C1 dL_test_15 (v := 1) rfl ?_
  exact K (0 + 1) (0 + 6) (by decide) (by decide) _ _ dL_test_16 rfl
theorem wl_test {V : EV} {l : Launch} (hl0 : l.stackTraces = false) {w w1 : va_W} {x o : Nat} {f : Nat → Int64} {fs : List Value} {v1 v2 : Int32} {res : Except String Int32} {v k : Int32} (hO : OUT res v k [(ISE, 1)]) (h1 : ∀ r, res = .ok r → MI V l yX7_test cX7_test 3 .int 7 110 [.ref x, .int v1, .int v2] w r w1) (h2 : ∀ E, res = .error E → TI V l yX7_test cX7_test 3 .int 7 110 [.ref x, .int v1, .int v2] w E w1) (he : w[0]? = some (x, .inr (7, fs))) : ∃ f', (k = 0 → f' 0 = v.toInt64) ∧ MW V l yL_test cL_test 5 hhL_test 8 132 [.ref x, .int v1, .int v2, .ref o] (w ++ [outW V o f]) k (w1 ++ [outW V o f']) := by
  rcases hO with ⟨e1, e2⟩ | ⟨E, hE, e1⟩
  · subst e2
    exact ⟨_, fun _ => rfl, wr_test hl0 (h1 v e1) he⟩
  · simp only [List.mem_cons, List.not_mem_nil, or_false, Prod.mk.injEq] at hE
    obtain ⟨rfl, rfl⟩ := hE
    exact ⟨f, fun q => absurd q (by decide), wx_test_1 hl0 (h2 _ e1) he⟩
theorem wr_run {V : EV} {l : Launch} (hl0 : l.stackTraces = false) {w w1 : va_W} {x o : Nat} {f : Nat → Int64} {fs : List Value} {v1 v2 v3 : Int32} {r : Int32} (hM : MI V l yX7_run cX7_run 5 .int 7 112 [.ref x, .int v1, .int v2, .int v3] w r w1) (he : w[0]? = some (x, .inr (7, fs))) : MW V l yL_run cL_run 6 hhL_run 8 136 [.ref x, .int v1, .int v2, .int v3, .ref o] (w ++ [outW V o f]) 0 (w1 ++ [outW V o (vp_updL f 0 r.toInt64)]) := by
  refine mw_of hl0 (by decide +kernel) (Nat.le_of_ble_eq_true rfl) (fun p e R s m args below meth c Q A C hk hN ht K => ?_)
  refine k_sub (L' := [(0, .ref x), (1, .int v1), (2, .int v2), (3, .int v3), (4, .ref o)]) [0, 1, 2, 3, 4] rfl ?_
  refine k_aload C dL_run_0 4 rfl ?_
  refine k_iconst C dL_run_2 (v := 0) rfl ?_
  refine k_aload_n C dL_run_3 0 rfl ?_
  refine k_iload_n C dL_run_4 1 rfl ?_
  refine k_iload_n C dL_run_5 2 rfl ?_
  refine k_iload_n C dL_run_6 3 rfl ?_
  refine k_callVi C (mi_fr hM) cmL_26 ok7_run (by decide) 0 (get_ap he) rfl rfl rfl (Nat.le_of_ble_eq_true rfl) dL_run_7 ?_
  refine k_i2l C dL_run_10 ?_
  refine k_last C w1.length get_last (show ¬ ((0 : Int32) < 0 ∨ 1 ≤ (0 : Int32).toNatClampNeg) by decide) (w' := w1 ++ [outW V o (vp_updL f 0 r.toInt64)]) (by rw [set_last]; rfl) dL_run_11 ?_
  refine k_goto C 23 dL_run_12 (by decide) ?_
  refine k_iconst C dL_run_23 (v := 0) rfl ?_
  exact K 0 0 (by decide) (by decide) _ _ dL_run_24 rfl
theorem wx_run_1 {V : EV} {l : Launch} (hl0 : l.stackTraces = false) {w w1 : va_W} {x o : Nat} {f : Nat → Int64} {fs : List Value} {v1 v2 v3 : Int32} (hM : TI V l yX7_run cX7_run 5 .int 7 112 [.ref x, .int v1, .int v2, .int v3] w ISE w1) (he : w[0]? = some (x, .inr (7, fs))) : MW V l yL_run cL_run 6 hhL_run 8 136 [.ref x, .int v1, .int v2, .int v3, .ref o] (w ++ [outW V o f]) 1 (w1 ++ [outW V o f]) := by
  refine mw_of hl0 (by decide +kernel) (Nat.le_of_ble_eq_true rfl) (fun p e R s m args below meth c Q A C hk hN ht K => ?_)
  refine k_sub (L' := [(0, .ref x), (1, .int v1), (2, .int v2), (3, .int v3), (4, .ref o)]) [0, 1, 2, 3, 4] rfl ?_
  refine k_aload C dL_run_0 4 rfl ?_
  refine k_iconst C dL_run_2 (v := 0) rfl ?_
  refine k_aload_n C dL_run_3 0 rfl ?_
  refine k_iload_n C dL_run_4 1 rfl ?_
  refine k_iload_n C dL_run_5 2 rfl ?_
  refine k_iload_n C dL_run_6 3 rfl ?_
  refine k_callVic C (ti_fr hM) cmL_26 ok7_run (by decide) 0 (get_ap he) rfl rfl rfl (Nat.le_of_ble_eq_true rfl) dL_run_7 hk [] ⟨0, 12, 15, 15⟩ [⟨0, 12, 19, 21⟩] (ht.trans rfl) (fun z hz => by cases hz) (by decide) (by decide) xkL_15 (by decide +kernel) (fun q9 => ?_)
  have C1 := C.up hk
  refine k_astore C1 dL_run_15 _ (by decide) rfl ?_
  refine k_iconst C1 dL_run_17 (v := 1) rfl ?_
  exact K (0 + 1) (0 + 6) (by decide) (by decide) _ _ dL_run_18 rfl
theorem wx_run_2 {V : EV} {l : Launch} (hl0 : l.stackTraces = false) {w w1 : va_W} {x o : Nat} {f : Nat → Int64} {fs : List Value} {v1 v2 v3 : Int32} (hM : TI V l yX7_run cX7_run 5 .int 7 112 [.ref x, .int v1, .int v2, .int v3] w IOB w1) (he : w[0]? = some (x, .inr (7, fs))) : MW V l yL_run cL_run 6 hhL_run 8 136 [.ref x, .int v1, .int v2, .int v3, .ref o] (w ++ [outW V o f]) 2 (w1 ++ [outW V o f]) := by
  refine mw_of hl0 (by decide +kernel) (Nat.le_of_ble_eq_true rfl) (fun p e R s m args below meth c Q A C hk hN ht K => ?_)
  refine k_sub (L' := [(0, .ref x), (1, .int v1), (2, .int v2), (3, .int v3), (4, .ref o)]) [0, 1, 2, 3, 4] rfl ?_
  refine k_aload C dL_run_0 4 rfl ?_
  refine k_iconst C dL_run_2 (v := 0) rfl ?_
  refine k_aload_n C dL_run_3 0 rfl ?_
  refine k_iload_n C dL_run_4 1 rfl ?_
  refine k_iload_n C dL_run_5 2 rfl ?_
  refine k_iload_n C dL_run_6 3 rfl ?_
  refine k_callVic C (ti_fr hM) cmL_26 ok7_run (by decide) 0 (get_ap he) rfl rfl rfl (Nat.le_of_ble_eq_true rfl) dL_run_7 hk [⟨0, 12, 15, 15⟩] ⟨0, 12, 19, 21⟩ [] (ht.trans rfl) (fun z hz => by rw [List.mem_singleton.mp hz]; exact .inr ⟨by decide, ISE, C.2.2.2.2.1 _ xkL_15, hN.2.1⟩) (by decide) (by decide) xkL_21 (by decide +kernel) (fun q9 => ?_)
  have C1 := C.up hk
  refine k_astore C1 dL_run_19 _ (by decide) rfl ?_
  refine k_iconst C1 dL_run_21 (v := 2) rfl ?_
  exact K (0 + 1) (0 + 6) (by decide) (by decide) _ _ dL_run_22 rfl
theorem wl_run {V : EV} {l : Launch} (hl0 : l.stackTraces = false) {w w1 : va_W} {x o : Nat} {f : Nat → Int64} {fs : List Value} {v1 v2 v3 : Int32} {res : Except String Int32} {v k : Int32} (hO : OUT res v k [(ISE, 1), (IOB, 2)]) (h1 : ∀ r, res = .ok r → MI V l yX7_run cX7_run 5 .int 7 112 [.ref x, .int v1, .int v2, .int v3] w r w1) (h2 : ∀ E, res = .error E → TI V l yX7_run cX7_run 5 .int 7 112 [.ref x, .int v1, .int v2, .int v3] w E w1) (he : w[0]? = some (x, .inr (7, fs))) : ∃ f', (k = 0 → f' 0 = v.toInt64) ∧ MW V l yL_run cL_run 6 hhL_run 8 136 [.ref x, .int v1, .int v2, .int v3, .ref o] (w ++ [outW V o f]) k (w1 ++ [outW V o f']) := by
  rcases hO with ⟨e1, e2⟩ | ⟨E, hE, e1⟩
  · subst e2
    exact ⟨_, fun _ => rfl, wr_run hl0 (h1 v e1) he⟩
  · simp only [List.mem_cons, List.not_mem_nil, or_false, Prod.mk.injEq] at hE
    rcases hE with ⟨rfl, rfl⟩ | ⟨rfl, rfl⟩
    · exact ⟨f, fun q => absurd q (by decide), wx_run_1 hl0 (h2 _ e1) he⟩
    · exact ⟨f, fun q => absurd q (by decide), wx_run_2 hl0 (h2 _ e1) he⟩
theorem wr_matrix {V : EV} {l : Launch} (hl0 : l.stackTraces = false) {w w1 : va_W} {x o : Nat} {f : Nat → Int64} {fs : List Value} {r : Int32} (hM : MI V l yX7_matrix cX7_matrix 1 .int 7 151 [.ref x] w r w1) (he : w[0]? = some (x, .inr (7, fs))) : MW V l yL_matrix cL_matrix 3 hhL_matrix 8 171 [.ref x, .ref o] (w ++ [outW V o f]) 0 (w1 ++ [outW V o (vp_updL f 0 r.toInt64)]) := by
  refine mw_of hl0 (by decide +kernel) (Nat.le_of_ble_eq_true rfl) (fun p e R s m args below meth c Q A C hk hN ht K => ?_)
  refine k_sub (L' := [(0, .ref x), (1, .ref o)]) [0, 1] rfl ?_
  refine k_aload_n C dL_matrix_0 1 rfl ?_
  refine k_iconst C dL_matrix_1 (v := 0) rfl ?_
  refine k_aload_n C dL_matrix_2 0 rfl ?_
  refine k_callVi C (mi_fr hM) cmL_30 ok7_matrix (by decide) 0 (get_ap he) rfl rfl rfl (Nat.le_of_ble_eq_true rfl) dL_matrix_3 ?_
  refine k_i2l C dL_matrix_6 ?_
  refine k_last C w1.length get_last (show ¬ ((0 : Int32) < 0 ∨ 1 ≤ (0 : Int32).toNatClampNeg) by decide) (w' := w1 ++ [outW V o (vp_updL f 0 r.toInt64)]) (by rw [set_last]; rfl) dL_matrix_7 ?_
  refine k_goto C 14 dL_matrix_8 (by decide) ?_
  refine k_iconst C dL_matrix_14 (v := 0) rfl ?_
  exact K 0 0 (by decide) (by decide) _ _ dL_matrix_15 rfl
theorem wx_matrix_1 {V : EV} {l : Launch} (hl0 : l.stackTraces = false) {w w1 : va_W} {x o : Nat} {f : Nat → Int64} {fs : List Value} (hM : TI V l yX7_matrix cX7_matrix 1 .int 7 151 [.ref x] w ISE w1) (he : w[0]? = some (x, .inr (7, fs))) : MW V l yL_matrix cL_matrix 3 hhL_matrix 8 171 [.ref x, .ref o] (w ++ [outW V o f]) 1 (w1 ++ [outW V o f]) := by
  refine mw_of hl0 (by decide +kernel) (Nat.le_of_ble_eq_true rfl) (fun p e R s m args below meth c Q A C hk hN ht K => ?_)
  refine k_sub (L' := [(0, .ref x), (1, .ref o)]) [0, 1] rfl ?_
  refine k_aload_n C dL_matrix_0 1 rfl ?_
  refine k_iconst C dL_matrix_1 (v := 0) rfl ?_
  refine k_aload_n C dL_matrix_2 0 rfl ?_
  refine k_callVic C (ti_fr hM) cmL_30 ok7_matrix (by decide) 0 (get_ap he) rfl rfl rfl (Nat.le_of_ble_eq_true rfl) dL_matrix_3 hk [] ⟨0, 8, 11, 15⟩ [] (ht.trans rfl) (fun z hz => by cases hz) (by decide) (by decide) xkL_15 (by decide +kernel) (fun q9 => ?_)
  have C1 := C.up hk
  refine k_astore_n C1 dL_matrix_11 _ (by decide) rfl ?_
  refine k_iconst C1 dL_matrix_12 (v := 1) rfl ?_
  exact K (0 + 1) (0 + 6) (by decide) (by decide) _ _ dL_matrix_13 rfl
theorem wl_matrix {V : EV} {l : Launch} (hl0 : l.stackTraces = false) {w w1 : va_W} {x o : Nat} {f : Nat → Int64} {fs : List Value} {res : Except String Int32} {v k : Int32} (hO : OUT res v k [(ISE, 1)]) (h1 : ∀ r, res = .ok r → MI V l yX7_matrix cX7_matrix 1 .int 7 151 [.ref x] w r w1) (h2 : ∀ E, res = .error E → TI V l yX7_matrix cX7_matrix 1 .int 7 151 [.ref x] w E w1) (he : w[0]? = some (x, .inr (7, fs))) : ∃ f', (k = 0 → f' 0 = v.toInt64) ∧ MW V l yL_matrix cL_matrix 3 hhL_matrix 8 171 [.ref x, .ref o] (w ++ [outW V o f]) k (w1 ++ [outW V o f']) := by
  rcases hO with ⟨e1, e2⟩ | ⟨E, hE, e1⟩
  · subst e2
    exact ⟨_, fun _ => rfl, wr_matrix hl0 (h1 v e1) he⟩
  · simp only [List.mem_cons, List.not_mem_nil, or_false, Prod.mk.injEq] at hE
    obtain ⟨rfl, rfl⟩ := hE
    exact ⟨f, fun q => absurd q (by decide), wx_matrix_1 hl0 (h2 _ e1) he⟩
theorem wr_killed {V : EV} {l : Launch} (hl0 : l.stackTraces = false) {w w1 : va_W} {x o : Nat} {f : Nat → Int64} {fs : List Value} {v1 v2 : Int32} {r : Int32} (hb : r = 0 ∨ r = 1) (hM : MI V l yX7_killed cX7_killed 3 .boolean 7 112 [.ref x, .int v1, .int v2] w r w1) (he : w[0]? = some (x, .inr (7, fs))) : MW V l yL_killed cL_killed 5 hhL_killed 8 134 [.ref x, .int v1, .int v2, .ref o] (w ++ [outW V o f]) 0 (w1 ++ [outW V o (vp_updL f 0 r.toInt64)]) := by
  refine mw_of hl0 (by decide +kernel) (Nat.le_of_ble_eq_true rfl) (fun p e R s m args below meth c Q A C hk hN ht K => ?_)
  refine k_sub (L' := [(0, .ref x), (1, .int v1), (2, .int v2), (3, .ref o)]) [0, 1, 2, 3] rfl ?_
  refine k_aload_n C dL_killed_0 3 rfl ?_
  refine k_iconst C dL_killed_1 (v := 0) rfl ?_
  refine k_aload_n C dL_killed_2 0 rfl ?_
  refine k_iload_n C dL_killed_3 1 rfl ?_
  refine k_iload_n C dL_killed_4 2 rfl ?_
  refine k_callVi C (mi_fr hM) cmL_33 ok7_killed (by decide) 0 (get_ap he) rfl rfl rfl (Nat.le_of_ble_eq_true rfl) dL_killed_5 ?_
  refine k_if_eq C 15 dL_killed_8 (by decide) (fun hz => ?_) (fun hz => ?_)
  · refine k_lconst C dL_killed_15 (v := 0) rfl ?_
    refine k_last C w1.length get_last (show ¬ ((0 : Int32) < 0 ∨ 1 ≤ (0 : Int32).toNatClampNeg) by decide) (w' := w1 ++ [outW V o (vp_updL f 0 r.toInt64)]) (by rw [set_last]; rw [hz]; rfl) dL_killed_16 ?_
    refine k_goto C 28 dL_killed_17 (by decide) ?_
    refine k_iconst C dL_killed_28 (v := 0) rfl ?_
    exact K 0 0 (by decide) (by decide) _ _ dL_killed_29 rfl
  · have h1 : r = 1 := hb.resolve_left hz
    refine k_lconst C dL_killed_11 (v := 1) rfl ?_
    refine k_goto C 16 dL_killed_12 (by decide) ?_
    refine k_last C w1.length get_last (show ¬ ((0 : Int32) < 0 ∨ 1 ≤ (0 : Int32).toNatClampNeg) by decide) (w' := w1 ++ [outW V o (vp_updL f 0 r.toInt64)]) (by rw [set_last]; rw [h1]; rfl) dL_killed_16 ?_
    refine k_goto C 28 dL_killed_17 (by decide) ?_
    refine k_iconst C dL_killed_28 (v := 0) rfl ?_
    exact K 0 0 (by decide) (by decide) _ _ dL_killed_29 rfl
theorem wx_killed_1 {V : EV} {l : Launch} (hl0 : l.stackTraces = false) {w w1 : va_W} {x o : Nat} {f : Nat → Int64} {fs : List Value} {v1 v2 : Int32} (hM : TI V l yX7_killed cX7_killed 3 .boolean 7 112 [.ref x, .int v1, .int v2] w ISE w1) (he : w[0]? = some (x, .inr (7, fs))) : MW V l yL_killed cL_killed 5 hhL_killed 8 134 [.ref x, .int v1, .int v2, .ref o] (w ++ [outW V o f]) 1 (w1 ++ [outW V o f]) := by
  refine mw_of hl0 (by decide +kernel) (Nat.le_of_ble_eq_true rfl) (fun p e R s m args below meth c Q A C hk hN ht K => ?_)
  refine k_sub (L' := [(0, .ref x), (1, .int v1), (2, .int v2), (3, .ref o)]) [0, 1, 2, 3] rfl ?_
  refine k_aload_n C dL_killed_0 3 rfl ?_
  refine k_iconst C dL_killed_1 (v := 0) rfl ?_
  refine k_aload_n C dL_killed_2 0 rfl ?_
  refine k_iload_n C dL_killed_3 1 rfl ?_
  refine k_iload_n C dL_killed_4 2 rfl ?_
  refine k_callVic C (ti_fr hM) cmL_33 ok7_killed (by decide) 0 (get_ap he) rfl rfl rfl (Nat.le_of_ble_eq_true rfl) dL_killed_5 hk [] ⟨0, 17, 20, 15⟩ [⟨0, 17, 24, 21⟩] (ht.trans rfl) (fun z hz => by cases hz) (by decide) (by decide) xkL_15 (by decide +kernel) (fun q9 => ?_)
  have C1 := C.up hk
  refine k_astore C1 dL_killed_20 _ (by decide) rfl ?_
  refine k_iconst C1 dL_killed_22 (v := 1) rfl ?_
  exact K (0 + 1) (0 + 6) (by decide) (by decide) _ _ dL_killed_23 rfl
theorem wx_killed_2 {V : EV} {l : Launch} (hl0 : l.stackTraces = false) {w w1 : va_W} {x o : Nat} {f : Nat → Int64} {fs : List Value} {v1 v2 : Int32} (hM : TI V l yX7_killed cX7_killed 3 .boolean 7 112 [.ref x, .int v1, .int v2] w IOB w1) (he : w[0]? = some (x, .inr (7, fs))) : MW V l yL_killed cL_killed 5 hhL_killed 8 134 [.ref x, .int v1, .int v2, .ref o] (w ++ [outW V o f]) 2 (w1 ++ [outW V o f]) := by
  refine mw_of hl0 (by decide +kernel) (Nat.le_of_ble_eq_true rfl) (fun p e R s m args below meth c Q A C hk hN ht K => ?_)
  refine k_sub (L' := [(0, .ref x), (1, .int v1), (2, .int v2), (3, .ref o)]) [0, 1, 2, 3] rfl ?_
  refine k_aload_n C dL_killed_0 3 rfl ?_
  refine k_iconst C dL_killed_1 (v := 0) rfl ?_
  refine k_aload_n C dL_killed_2 0 rfl ?_
  refine k_iload_n C dL_killed_3 1 rfl ?_
  refine k_iload_n C dL_killed_4 2 rfl ?_
  refine k_callVic C (ti_fr hM) cmL_33 ok7_killed (by decide) 0 (get_ap he) rfl rfl rfl (Nat.le_of_ble_eq_true rfl) dL_killed_5 hk [⟨0, 17, 20, 15⟩] ⟨0, 17, 24, 21⟩ [] (ht.trans rfl) (fun z hz => by rw [List.mem_singleton.mp hz]; exact .inr ⟨by decide, ISE, C.2.2.2.2.1 _ xkL_15, hN.2.1⟩) (by decide) (by decide) xkL_21 (by decide +kernel) (fun q9 => ?_)
  have C1 := C.up hk
  refine k_astore C1 dL_killed_24 _ (by decide) rfl ?_
  refine k_iconst C1 dL_killed_26 (v := 2) rfl ?_
  exact K (0 + 1) (0 + 6) (by decide) (by decide) _ _ dL_killed_27 rfl
theorem wl_killed {V : EV} {l : Launch} (hl0 : l.stackTraces = false) {w w1 : va_W} {x o : Nat} {f : Nat → Int64} {fs : List Value} {v1 v2 : Int32} {res : Except String Int32} {v k : Int32} (hO : OUT res v k [(ISE, 1), (IOB, 2)]) (hb : v = 0 ∨ v = 1) (h1 : ∀ r, res = .ok r → MI V l yX7_killed cX7_killed 3 .boolean 7 112 [.ref x, .int v1, .int v2] w r w1) (h2 : ∀ E, res = .error E → TI V l yX7_killed cX7_killed 3 .boolean 7 112 [.ref x, .int v1, .int v2] w E w1) (he : w[0]? = some (x, .inr (7, fs))) : ∃ f', (k = 0 → f' 0 = v.toInt64) ∧ MW V l yL_killed cL_killed 5 hhL_killed 8 134 [.ref x, .int v1, .int v2, .ref o] (w ++ [outW V o f]) k (w1 ++ [outW V o f']) := by
  rcases hO with ⟨e1, e2⟩ | ⟨E, hE, e1⟩
  · subst e2
    exact ⟨_, fun _ => rfl, wr_killed hl0 hb (h1 v e1) he⟩
  · simp only [List.mem_cons, List.not_mem_nil, or_false, Prod.mk.injEq] at hE
    rcases hE with ⟨rfl, rfl⟩ | ⟨rfl, rfl⟩
    · exact ⟨f, fun q => absurd q (by decide), wx_killed_1 hl0 (h2 _ e1) he⟩
    · exact ⟨f, fun q => absurd q (by decide), wx_killed_2 hl0 (h2 _ e1) he⟩
theorem wr_reached {V : EV} {l : Launch} (hl0 : l.stackTraces = false) {w w1 : va_W} {x o : Nat} {f : Nat → Int64} {fs : List Value} {v1 v2 : Int32} {r : Int32} (hb : r = 0 ∨ r = 1) (hM : MI V l yX7_reached cX7_reached 3 .boolean 7 112 [.ref x, .int v1, .int v2] w r w1) (he : w[0]? = some (x, .inr (7, fs))) : MW V l yL_reached cL_reached 5 hhL_reached 8 134 [.ref x, .int v1, .int v2, .ref o] (w ++ [outW V o f]) 0 (w1 ++ [outW V o (vp_updL f 0 r.toInt64)]) := by
  refine mw_of hl0 (by decide +kernel) (Nat.le_of_ble_eq_true rfl) (fun p e R s m args below meth c Q A C hk hN ht K => ?_)
  refine k_sub (L' := [(0, .ref x), (1, .int v1), (2, .int v2), (3, .ref o)]) [0, 1, 2, 3] rfl ?_
  refine k_aload_n C dL_reached_0 3 rfl ?_
  refine k_iconst C dL_reached_1 (v := 0) rfl ?_
  refine k_aload_n C dL_reached_2 0 rfl ?_
  refine k_iload_n C dL_reached_3 1 rfl ?_
  refine k_iload_n C dL_reached_4 2 rfl ?_
  refine k_callVi C (mi_fr hM) cmL_37 ok7_reached (by decide) 0 (get_ap he) rfl rfl rfl (Nat.le_of_ble_eq_true rfl) dL_reached_5 ?_
  refine k_if_eq C 15 dL_reached_8 (by decide) (fun hz => ?_) (fun hz => ?_)
  · refine k_lconst C dL_reached_15 (v := 0) rfl ?_
    refine k_last C w1.length get_last (show ¬ ((0 : Int32) < 0 ∨ 1 ≤ (0 : Int32).toNatClampNeg) by decide) (w' := w1 ++ [outW V o (vp_updL f 0 r.toInt64)]) (by rw [set_last]; rw [hz]; rfl) dL_reached_16 ?_
    refine k_goto C 28 dL_reached_17 (by decide) ?_
    refine k_iconst C dL_reached_28 (v := 0) rfl ?_
    exact K 0 0 (by decide) (by decide) _ _ dL_reached_29 rfl
  · have h1 : r = 1 := hb.resolve_left hz
    refine k_lconst C dL_reached_11 (v := 1) rfl ?_
    refine k_goto C 16 dL_reached_12 (by decide) ?_
    refine k_last C w1.length get_last (show ¬ ((0 : Int32) < 0 ∨ 1 ≤ (0 : Int32).toNatClampNeg) by decide) (w' := w1 ++ [outW V o (vp_updL f 0 r.toInt64)]) (by rw [set_last]; rw [h1]; rfl) dL_reached_16 ?_
    refine k_goto C 28 dL_reached_17 (by decide) ?_
    refine k_iconst C dL_reached_28 (v := 0) rfl ?_
    exact K 0 0 (by decide) (by decide) _ _ dL_reached_29 rfl
theorem wx_reached_1 {V : EV} {l : Launch} (hl0 : l.stackTraces = false) {w w1 : va_W} {x o : Nat} {f : Nat → Int64} {fs : List Value} {v1 v2 : Int32} (hM : TI V l yX7_reached cX7_reached 3 .boolean 7 112 [.ref x, .int v1, .int v2] w ISE w1) (he : w[0]? = some (x, .inr (7, fs))) : MW V l yL_reached cL_reached 5 hhL_reached 8 134 [.ref x, .int v1, .int v2, .ref o] (w ++ [outW V o f]) 1 (w1 ++ [outW V o f]) := by
  refine mw_of hl0 (by decide +kernel) (Nat.le_of_ble_eq_true rfl) (fun p e R s m args below meth c Q A C hk hN ht K => ?_)
  refine k_sub (L' := [(0, .ref x), (1, .int v1), (2, .int v2), (3, .ref o)]) [0, 1, 2, 3] rfl ?_
  refine k_aload_n C dL_reached_0 3 rfl ?_
  refine k_iconst C dL_reached_1 (v := 0) rfl ?_
  refine k_aload_n C dL_reached_2 0 rfl ?_
  refine k_iload_n C dL_reached_3 1 rfl ?_
  refine k_iload_n C dL_reached_4 2 rfl ?_
  refine k_callVic C (ti_fr hM) cmL_37 ok7_reached (by decide) 0 (get_ap he) rfl rfl rfl (Nat.le_of_ble_eq_true rfl) dL_reached_5 hk [] ⟨0, 17, 20, 15⟩ [⟨0, 17, 24, 21⟩] (ht.trans rfl) (fun z hz => by cases hz) (by decide) (by decide) xkL_15 (by decide +kernel) (fun q9 => ?_)
  have C1 := C.up hk
  refine k_astore C1 dL_reached_20 _ (by decide) rfl ?_
  refine k_iconst C1 dL_reached_22 (v := 1) rfl ?_
  exact K (0 + 1) (0 + 6) (by decide) (by decide) _ _ dL_reached_23 rfl
theorem wx_reached_2 {V : EV} {l : Launch} (hl0 : l.stackTraces = false) {w w1 : va_W} {x o : Nat} {f : Nat → Int64} {fs : List Value} {v1 v2 : Int32} (hM : TI V l yX7_reached cX7_reached 3 .boolean 7 112 [.ref x, .int v1, .int v2] w IOB w1) (he : w[0]? = some (x, .inr (7, fs))) : MW V l yL_reached cL_reached 5 hhL_reached 8 134 [.ref x, .int v1, .int v2, .ref o] (w ++ [outW V o f]) 2 (w1 ++ [outW V o f]) := by
  refine mw_of hl0 (by decide +kernel) (Nat.le_of_ble_eq_true rfl) (fun p e R s m args below meth c Q A C hk hN ht K => ?_)
  refine k_sub (L' := [(0, .ref x), (1, .int v1), (2, .int v2), (3, .ref o)]) [0, 1, 2, 3] rfl ?_
  refine k_aload_n C dL_reached_0 3 rfl ?_
  refine k_iconst C dL_reached_1 (v := 0) rfl ?_
  refine k_aload_n C dL_reached_2 0 rfl ?_
  refine k_iload_n C dL_reached_3 1 rfl ?_
  refine k_iload_n C dL_reached_4 2 rfl ?_
  refine k_callVic C (ti_fr hM) cmL_37 ok7_reached (by decide) 0 (get_ap he) rfl rfl rfl (Nat.le_of_ble_eq_true rfl) dL_reached_5 hk [⟨0, 17, 20, 15⟩] ⟨0, 17, 24, 21⟩ [] (ht.trans rfl) (fun z hz => by rw [List.mem_singleton.mp hz]; exact .inr ⟨by decide, ISE, C.2.2.2.2.1 _ xkL_15, hN.2.1⟩) (by decide) (by decide) xkL_21 (by decide +kernel) (fun q9 => ?_)
  have C1 := C.up hk
  refine k_astore C1 dL_reached_24 _ (by decide) rfl ?_
  refine k_iconst C1 dL_reached_26 (v := 2) rfl ?_
  exact K (0 + 1) (0 + 6) (by decide) (by decide) _ _ dL_reached_27 rfl
theorem wl_reached {V : EV} {l : Launch} (hl0 : l.stackTraces = false) {w w1 : va_W} {x o : Nat} {f : Nat → Int64} {fs : List Value} {v1 v2 : Int32} {res : Except String Int32} {v k : Int32} (hO : OUT res v k [(ISE, 1), (IOB, 2)]) (hb : v = 0 ∨ v = 1) (h1 : ∀ r, res = .ok r → MI V l yX7_reached cX7_reached 3 .boolean 7 112 [.ref x, .int v1, .int v2] w r w1) (h2 : ∀ E, res = .error E → TI V l yX7_reached cX7_reached 3 .boolean 7 112 [.ref x, .int v1, .int v2] w E w1) (he : w[0]? = some (x, .inr (7, fs))) : ∃ f', (k = 0 → f' 0 = v.toInt64) ∧ MW V l yL_reached cL_reached 5 hhL_reached 8 134 [.ref x, .int v1, .int v2, .ref o] (w ++ [outW V o f]) k (w1 ++ [outW V o f']) := by
  rcases hO with ⟨e1, e2⟩ | ⟨E, hE, e1⟩
  · subst e2
    exact ⟨_, fun _ => rfl, wr_reached hl0 hb (h1 v e1) he⟩
  · simp only [List.mem_cons, List.not_mem_nil, or_false, Prod.mk.injEq] at hE
    rcases hE with ⟨rfl, rfl⟩ | ⟨rfl, rfl⟩
    · exact ⟨f, fun q => absurd q (by decide), wx_reached_1 hl0 (h2 _ e1) he⟩
    · exact ⟨f, fun q => absurd q (by decide), wx_reached_2 hl0 (h2 _ e1) he⟩
theorem wr_score {V : EV} {l : Launch} (hl0 : l.stackTraces = false) {w w1 : va_W} {x o : Nat} {f : Nat → Int64} {fs : List Value} {v1 : Int32} {r : Int32} (hM : MI V l yX7_score cX7_score 4 .int 7 110 [.ref x, .int v1] w r w1) (he : w[0]? = some (x, .inr (7, fs))) : MW V l yL_score cL_score 4 hhL_score 8 133 [.ref x, .int v1, .ref o] (w ++ [outW V o f]) 0 (w1 ++ [outW V o (vp_updL f 0 r.toInt64)]) := by
  refine mw_of hl0 (by decide +kernel) (Nat.le_of_ble_eq_true rfl) (fun p e R s m args below meth c Q A C hk hN ht K => ?_)
  refine k_sub (L' := [(0, .ref x), (1, .int v1), (2, .ref o)]) [0, 1, 2] rfl ?_
  refine k_aload_n C dL_score_0 2 rfl ?_
  refine k_iconst C dL_score_1 (v := 0) rfl ?_
  refine k_aload_n C dL_score_2 0 rfl ?_
  refine k_iload_n C dL_score_3 1 rfl ?_
  refine k_callVi C (mi_fr hM) cmL_40 ok7_score (by decide) 0 (get_ap he) rfl rfl rfl (Nat.le_of_ble_eq_true rfl) dL_score_4 ?_
  refine k_i2l C dL_score_7 ?_
  refine k_last C w1.length get_last (show ¬ ((0 : Int32) < 0 ∨ 1 ≤ (0 : Int32).toNatClampNeg) by decide) (w' := w1 ++ [outW V o (vp_updL f 0 r.toInt64)]) (by rw [set_last]; rfl) dL_score_8 ?_
  refine k_goto C 18 dL_score_9 (by decide) ?_
  refine k_iconst C dL_score_18 (v := 0) rfl ?_
  exact K 0 0 (by decide) (by decide) _ _ dL_score_19 rfl
theorem wx_score_1 {V : EV} {l : Launch} (hl0 : l.stackTraces = false) {w w1 : va_W} {x o : Nat} {f : Nat → Int64} {fs : List Value} {v1 : Int32} (hM : TI V l yX7_score cX7_score 4 .int 7 110 [.ref x, .int v1] w ISE w1) (he : w[0]? = some (x, .inr (7, fs))) : MW V l yL_score cL_score 4 hhL_score 8 133 [.ref x, .int v1, .ref o] (w ++ [outW V o f]) 1 (w1 ++ [outW V o f]) := by
  refine mw_of hl0 (by decide +kernel) (Nat.le_of_ble_eq_true rfl) (fun p e R s m args below meth c Q A C hk hN ht K => ?_)
  refine k_sub (L' := [(0, .ref x), (1, .int v1), (2, .ref o)]) [0, 1, 2] rfl ?_
  refine k_aload_n C dL_score_0 2 rfl ?_
  refine k_iconst C dL_score_1 (v := 0) rfl ?_
  refine k_aload_n C dL_score_2 0 rfl ?_
  refine k_iload_n C dL_score_3 1 rfl ?_
  refine k_callVic C (ti_fr hM) cmL_40 ok7_score (by decide) 0 (get_ap he) rfl rfl rfl (Nat.le_of_ble_eq_true rfl) dL_score_4 hk [] ⟨0, 9, 12, 15⟩ [⟨0, 9, 15, 13⟩] (ht.trans rfl) (fun z hz => by cases hz) (by decide) (by decide) xkL_15 (by decide +kernel) (fun q9 => ?_)
  have C1 := C.up hk
  refine k_astore_n C1 dL_score_12 _ (by decide) rfl ?_
  refine k_iconst C1 dL_score_13 (v := 1) rfl ?_
  exact K (0 + 1) (0 + 6) (by decide) (by decide) _ _ dL_score_14 rfl
theorem wx_score_2 {V : EV} {l : Launch} (hl0 : l.stackTraces = false) {w w1 : va_W} {x o : Nat} {f : Nat → Int64} {fs : List Value} {v1 : Int32} (hM : TI V l yX7_score cX7_score 4 .int 7 110 [.ref x, .int v1] w IAE w1) (he : w[0]? = some (x, .inr (7, fs))) : MW V l yL_score cL_score 4 hhL_score 8 133 [.ref x, .int v1, .ref o] (w ++ [outW V o f]) 2 (w1 ++ [outW V o f]) := by
  refine mw_of hl0 (by decide +kernel) (Nat.le_of_ble_eq_true rfl) (fun p e R s m args below meth c Q A C hk hN ht K => ?_)
  refine k_sub (L' := [(0, .ref x), (1, .int v1), (2, .ref o)]) [0, 1, 2] rfl ?_
  refine k_aload_n C dL_score_0 2 rfl ?_
  refine k_iconst C dL_score_1 (v := 0) rfl ?_
  refine k_aload_n C dL_score_2 0 rfl ?_
  refine k_iload_n C dL_score_3 1 rfl ?_
  refine k_callVic C (ti_fr hM) cmL_40 ok7_score (by decide) 0 (get_ap he) rfl rfl rfl (Nat.le_of_ble_eq_true rfl) dL_score_4 hk [⟨0, 9, 12, 15⟩] ⟨0, 9, 15, 13⟩ [] (ht.trans rfl) (fun z hz => by rw [List.mem_singleton.mp hz]; exact .inr ⟨by decide, ISE, C.2.2.2.2.1 _ xkL_15, hN.2.2.1⟩) (by decide) (by decide) xkL_13 (by decide +kernel) (fun q9 => ?_)
  have C1 := C.up hk
  refine k_astore_n C1 dL_score_15 _ (by decide) rfl ?_
  refine k_iconst C1 dL_score_16 (v := 2) rfl ?_
  exact K (0 + 1) (0 + 6) (by decide) (by decide) _ _ dL_score_17 rfl
theorem wl_score {V : EV} {l : Launch} (hl0 : l.stackTraces = false) {w w1 : va_W} {x o : Nat} {f : Nat → Int64} {fs : List Value} {v1 : Int32} {res : Except String Int32} {v k : Int32} (hO : OUT res v k [(ISE, 1), (IAE, 2)]) (h1 : ∀ r, res = .ok r → MI V l yX7_score cX7_score 4 .int 7 110 [.ref x, .int v1] w r w1) (h2 : ∀ E, res = .error E → TI V l yX7_score cX7_score 4 .int 7 110 [.ref x, .int v1] w E w1) (he : w[0]? = some (x, .inr (7, fs))) : ∃ f', (k = 0 → f' 0 = v.toInt64) ∧ MW V l yL_score cL_score 4 hhL_score 8 133 [.ref x, .int v1, .ref o] (w ++ [outW V o f]) k (w1 ++ [outW V o f']) := by
  rcases hO with ⟨e1, e2⟩ | ⟨E, hE, e1⟩
  · subst e2
    exact ⟨_, fun _ => rfl, wr_score hl0 (h1 v e1) he⟩
  · simp only [List.mem_cons, List.not_mem_nil, or_false, Prod.mk.injEq] at hE
    rcases hE with ⟨rfl, rfl⟩ | ⟨rfl, rfl⟩
    · exact ⟨f, fun q => absurd q (by decide), wx_score_1 hl0 (h2 _ e1) he⟩
    · exact ⟨f, fun q => absurd q (by decide), wx_score_2 hl0 (h2 _ e1) he⟩
