/-! THE LAW'S WALK: one call on both sides -/
theorem cmL_48 : ∀ a ∈ wsCV RL 48 RX7 yX7_type cX7_type 2 (some .int), a ∈ GW := by
  unfold wsCV
  exact (List.forall_mem_cons.mpr ⟨(gw_2 (i := 65) (by decide +kernel) rfl), (List.forall_mem_cons.mpr ⟨(gw_2 (i := 66) (by decide +kernel) rfl), (List.forall_mem_cons.mpr ⟨(gw_2 (i := 67) (by decide +kernel) rfl), (List.forall_mem_cons.mpr ⟨(gw_1 (i := 1) (by decide +kernel) rfl), (List.forall_mem_cons.mpr ⟨(gw_2 (i := 68) (by decide +kernel) rfl), (List.forall_mem_nil _)⟩)⟩)⟩)⟩)⟩)
theorem cmL_53 : ∀ a ∈ wsCV RL 53 RX7 yX7_wipe cX7_wipe 1 none, a ∈ GW := by
  unfold wsCV
  exact (List.forall_mem_cons.mpr ⟨(gw_2 (i := 69) (by decide +kernel) rfl), (List.forall_mem_cons.mpr ⟨(gw_2 (i := 70) (by decide +kernel) rfl), (List.forall_mem_cons.mpr ⟨(gw_2 (i := 71) (by decide +kernel) rfl), (List.forall_mem_cons.mpr ⟨(gw_1 (i := 1) (by decide +kernel) rfl), (List.forall_mem_cons.mpr ⟨(gw_2 (i := 72) (by decide +kernel) rfl), (List.forall_mem_nil _)⟩)⟩)⟩)⟩)⟩)
theorem cmL_73 : ∀ a ∈ wsCV RL 73 RX7 yX7_fuel cX7_fuel 2 (some .boolean), a ∈ GW := by
  unfold wsCV
  exact (List.forall_mem_cons.mpr ⟨(gw_2 (i := 73) (by decide +kernel) rfl), (List.forall_mem_cons.mpr ⟨(gw_2 (i := 74) (by decide +kernel) rfl), (List.forall_mem_cons.mpr ⟨(gw_2 (i := 75) (by decide +kernel) rfl), (List.forall_mem_cons.mpr ⟨(gw_1 (i := 1) (by decide +kernel) rfl), (List.forall_mem_cons.mpr ⟨(gw_2 (i := 76) (by decide +kernel) rfl), (List.forall_mem_nil _)⟩)⟩)⟩)⟩)⟩)
theorem cmL_82 : ∀ a ∈ wsCV RL 82 RX7 yX7_value cX7_value 1 (some .int), a ∈ GW := by
  unfold wsCV
  exact (List.forall_mem_cons.mpr ⟨(gw_2 (i := 77) (by decide +kernel) rfl), (List.forall_mem_cons.mpr ⟨(gw_2 (i := 78) (by decide +kernel) rfl), (List.forall_mem_cons.mpr ⟨(gw_2 (i := 79) (by decide +kernel) rfl), (List.forall_mem_cons.mpr ⟨(gw_1 (i := 1) (by decide +kernel) rfl), (List.forall_mem_cons.mpr ⟨(gw_2 (i := 80) (by decide +kernel) rfl), (List.forall_mem_nil _)⟩)⟩)⟩)⟩)⟩)
theorem cmL_86 : ∀ a ∈ wsCV RL 86 RX7 yX7_took cX7_took 1 (some .int), a ∈ GW := by
  unfold wsCV
  exact (List.forall_mem_cons.mpr ⟨(gw_2 (i := 81) (by decide +kernel) rfl), (List.forall_mem_cons.mpr ⟨(gw_2 (i := 82) (by decide +kernel) rfl), (List.forall_mem_cons.mpr ⟨(gw_2 (i := 83) (by decide +kernel) rfl), (List.forall_mem_cons.mpr ⟨(gw_1 (i := 1) (by decide +kernel) rfl), (List.forall_mem_cons.mpr ⟨(gw_2 (i := 84) (by decide +kernel) rfl), (List.forall_mem_nil _)⟩)⟩)⟩)⟩)⟩)
theorem cmL_63 : ∀ a ∈ wsCV RL 63 RX8 yX8_thrown cX8_thrown 1 (some .int), a ∈ GW := by
  unfold wsCV
  exact (List.forall_mem_cons.mpr ⟨(gw_5 (i := 191) (by decide +kernel) rfl), (List.forall_mem_cons.mpr ⟨(gw_5 (i := 192) (by decide +kernel) rfl), (List.forall_mem_cons.mpr ⟨(gw_5 (i := 193) (by decide +kernel) rfl), (List.forall_mem_cons.mpr ⟨(gw_1 (i := 9) (by decide +kernel) rfl), (List.forall_mem_cons.mpr ⟨(gw_5 (i := 194) (by decide +kernel) rfl), (List.forall_mem_nil _)⟩)⟩)⟩)⟩)⟩)
theorem cmL_52 : ∀ a ∈ wsCV RL 52 RX8 yX8_type cX8_type 2 (some .int), a ∈ GW := by
  unfold wsCV
  exact (List.forall_mem_cons.mpr ⟨(gw_5 (i := 195) (by decide +kernel) rfl), (List.forall_mem_cons.mpr ⟨(gw_5 (i := 196) (by decide +kernel) rfl), (List.forall_mem_cons.mpr ⟨(gw_5 (i := 197) (by decide +kernel) rfl), (List.forall_mem_cons.mpr ⟨(gw_1 (i := 9) (by decide +kernel) rfl), (List.forall_mem_cons.mpr ⟨(gw_5 (i := 198) (by decide +kernel) rfl), (List.forall_mem_nil _)⟩)⟩)⟩)⟩)⟩)
theorem cmL_56 : ∀ a ∈ wsCV RL 56 RX8 yX8_wipe cX8_wipe 1 none, a ∈ GW := by
  unfold wsCV
  exact (List.forall_mem_cons.mpr ⟨(gw_5 (i := 199) (by decide +kernel) rfl), (List.forall_mem_cons.mpr ⟨(gw_5 (i := 200) (by decide +kernel) rfl), (List.forall_mem_cons.mpr ⟨(gw_5 (i := 201) (by decide +kernel) rfl), (List.forall_mem_cons.mpr ⟨(gw_1 (i := 9) (by decide +kernel) rfl), (List.forall_mem_cons.mpr ⟨(gw_5 (i := 202) (by decide +kernel) rfl), (List.forall_mem_nil _)⟩)⟩)⟩)⟩)⟩)
theorem cmL_62 : ∀ a ∈ wsCV RL 62 RX8 yX8_compile cX8_compile 3 (some .int), a ∈ GW := by
  unfold wsCV
  exact (List.forall_mem_cons.mpr ⟨(gw_5 (i := 203) (by decide +kernel) rfl), (List.forall_mem_cons.mpr ⟨(gw_5 (i := 204) (by decide +kernel) rfl), (List.forall_mem_cons.mpr ⟨(gw_5 (i := 205) (by decide +kernel) rfl), (List.forall_mem_cons.mpr ⟨(gw_1 (i := 9) (by decide +kernel) rfl), (List.forall_mem_cons.mpr ⟨(gw_5 (i := 206) (by decide +kernel) rfl), (List.forall_mem_nil _)⟩)⟩)⟩)⟩)⟩)
theorem cmL_69 : ∀ a ∈ wsCV RL 69 RX8 yX8_mutant cX8_mutant 3 (some .int), a ∈ GW := by
  unfold wsCV
  exact (List.forall_mem_cons.mpr ⟨(gw_6 (i := 137) (by decide +kernel) rfl), (List.forall_mem_cons.mpr ⟨(gw_6 (i := 138) (by decide +kernel) rfl), (List.forall_mem_cons.mpr ⟨(gw_6 (i := 139) (by decide +kernel) rfl), (List.forall_mem_cons.mpr ⟨(gw_1 (i := 9) (by decide +kernel) rfl), (List.forall_mem_cons.mpr ⟨(gw_6 (i := 140) (by decide +kernel) rfl), (List.forall_mem_nil _)⟩)⟩)⟩)⟩)⟩)
theorem cmL_72 : ∀ a ∈ wsCV RL 72 RX8 yX8_test cX8_test 3 (some .int), a ∈ GW := by
  unfold wsCV
  exact (List.forall_mem_cons.mpr ⟨(gw_6 (i := 189) (by decide +kernel) rfl), (List.forall_mem_cons.mpr ⟨(gw_6 (i := 190) (by decide +kernel) rfl), (List.forall_mem_cons.mpr ⟨(gw_6 (i := 191) (by decide +kernel) rfl), (List.forall_mem_cons.mpr ⟨(gw_1 (i := 9) (by decide +kernel) rfl), (List.forall_mem_cons.mpr ⟨(gw_6 (i := 192) (by decide +kernel) rfl), (List.forall_mem_nil _)⟩)⟩)⟩)⟩)⟩)
theorem cmL_77 : ∀ a ∈ wsCV RL 77 RX8 yX8_fuel cX8_fuel 2 (some .boolean), a ∈ GW := by
  unfold wsCV
  exact (List.forall_mem_cons.mpr ⟨(gw_6 (i := 193) (by decide +kernel) rfl), (List.forall_mem_cons.mpr ⟨(gw_6 (i := 194) (by decide +kernel) rfl), (List.forall_mem_cons.mpr ⟨(gw_6 (i := 195) (by decide +kernel) rfl), (List.forall_mem_cons.mpr ⟨(gw_1 (i := 9) (by decide +kernel) rfl), (List.forall_mem_cons.mpr ⟨(gw_6 (i := 196) (by decide +kernel) rfl), (List.forall_mem_nil _)⟩)⟩)⟩)⟩)⟩)
theorem cmL_81 : ∀ a ∈ wsCV RL 81 RX8 yX8_run cX8_run 4 (some .int), a ∈ GW := by
  unfold wsCV
  exact (List.forall_mem_cons.mpr ⟨(gw_6 (i := 141) (by decide +kernel) rfl), (List.forall_mem_cons.mpr ⟨(gw_6 (i := 142) (by decide +kernel) rfl), (List.forall_mem_cons.mpr ⟨(gw_6 (i := 143) (by decide +kernel) rfl), (List.forall_mem_cons.mpr ⟨(gw_1 (i := 9) (by decide +kernel) rfl), (List.forall_mem_cons.mpr ⟨(gw_6 (i := 144) (by decide +kernel) rfl), (List.forall_mem_nil _)⟩)⟩)⟩)⟩)⟩)
theorem cmL_85 : ∀ a ∈ wsCV RL 85 RX8 yX8_value cX8_value 1 (some .int), a ∈ GW := by
  unfold wsCV
  exact (List.forall_mem_cons.mpr ⟨(gw_6 (i := 181) (by decide +kernel) rfl), (List.forall_mem_cons.mpr ⟨(gw_6 (i := 182) (by decide +kernel) rfl), (List.forall_mem_cons.mpr ⟨(gw_6 (i := 183) (by decide +kernel) rfl), (List.forall_mem_cons.mpr ⟨(gw_1 (i := 9) (by decide +kernel) rfl), (List.forall_mem_cons.mpr ⟨(gw_6 (i := 184) (by decide +kernel) rfl), (List.forall_mem_nil _)⟩)⟩)⟩)⟩)⟩)
theorem cmL_89 : ∀ a ∈ wsCV RL 89 RX8 yX8_took cX8_took 1 (some .int), a ∈ GW := by
  unfold wsCV
  exact (List.forall_mem_cons.mpr ⟨(gw_6 (i := 185) (by decide +kernel) rfl), (List.forall_mem_cons.mpr ⟨(gw_6 (i := 186) (by decide +kernel) rfl), (List.forall_mem_cons.mpr ⟨(gw_6 (i := 187) (by decide +kernel) rfl), (List.forall_mem_cons.mpr ⟨(gw_1 (i := 9) (by decide +kernel) rfl), (List.forall_mem_cons.mpr ⟨(gw_6 (i := 188) (by decide +kernel) rfl), (List.forall_mem_nil _)⟩)⟩)⟩)⟩)⟩)
theorem cmL_92 : ∀ a ∈ wsCV RL 92 RX8 yX8_matrix cX8_matrix 6 (some .int), a ∈ GW := by
  unfold wsCV
  exact (List.forall_mem_cons.mpr ⟨(gw_6 (i := 197) (by decide +kernel) rfl), (List.forall_mem_cons.mpr ⟨(gw_6 (i := 198) (by decide +kernel) rfl), (List.forall_mem_cons.mpr ⟨(gw_6 (i := 199) (by decide +kernel) rfl), (List.forall_mem_cons.mpr ⟨(gw_1 (i := 9) (by decide +kernel) rfl), (List.forall_mem_cons.mpr ⟨(gw_6 (i := 200) (by decide +kernel) rfl), (List.forall_mem_nil _)⟩)⟩)⟩)⟩)⟩)
theorem cmL_95 : ∀ a ∈ wsCV RL 95 RX8 yX8_killed cX8_killed 3 (some .boolean), a ∈ GW := by
  unfold wsCV
  exact (List.forall_mem_cons.mpr ⟨(gw_6 (i := 201) (by decide +kernel) rfl), (List.forall_mem_cons.mpr ⟨(gw_6 (i := 202) (by decide +kernel) rfl), (List.forall_mem_cons.mpr ⟨(gw_6 (i := 203) (by decide +kernel) rfl), (List.forall_mem_cons.mpr ⟨(gw_1 (i := 9) (by decide +kernel) rfl), (List.forall_mem_cons.mpr ⟨(gw_6 (i := 204) (by decide +kernel) rfl), (List.forall_mem_nil _)⟩)⟩)⟩)⟩)⟩)
theorem cmL_98 : ∀ a ∈ wsCV RL 98 RX8 yX8_reached cX8_reached 3 (some .boolean), a ∈ GW := by
  unfold wsCV
  exact (List.forall_mem_cons.mpr ⟨(gw_6 (i := 209) (by decide +kernel) rfl), (List.forall_mem_cons.mpr ⟨(gw_6 (i := 210) (by decide +kernel) rfl), (List.forall_mem_cons.mpr ⟨(gw_6 (i := 211) (by decide +kernel) rfl), (List.forall_mem_cons.mpr ⟨(gw_1 (i := 9) (by decide +kernel) rfl), (List.forall_mem_cons.mpr ⟨(gw_6 (i := 212) (by decide +kernel) rfl), (List.forall_mem_nil _)⟩)⟩)⟩)⟩)⟩)
theorem cmL_102 : ∀ a ∈ wsCV RL 102 RX8 yX8_score cX8_score 6 (some .int), a ∈ GW := by
  unfold wsCV
  exact (List.forall_mem_cons.mpr ⟨(gw_6 (i := 213) (by decide +kernel) rfl), (List.forall_mem_cons.mpr ⟨(gw_6 (i := 214) (by decide +kernel) rfl), (List.forall_mem_cons.mpr ⟨(gw_6 (i := 215) (by decide +kernel) rfl), (List.forall_mem_cons.mpr ⟨(gw_1 (i := 9) (by decide +kernel) rfl), (List.forall_mem_cons.mpr ⟨(gw_6 (i := 216) (by decide +kernel) rfl), (List.forall_mem_nil _)⟩)⟩)⟩)⟩)⟩)
theorem okL_compile : okCV yL_compile.cls yL_compile 2 := by unfold okCV; decide +kernel
theorem okL_mutant : okCV yL_mutant.cls yL_mutant 4 := by unfold okCV; decide +kernel
theorem okL_test : okCV yL_test.cls yL_test 4 := by unfold okCV; decide +kernel
theorem okL_run : okCV yL_run.cls yL_run 5 := by unfold okCV; decide +kernel
theorem okL_matrix : okCV yL_matrix.cls yL_matrix 2 := by unfold okCV; decide +kernel
theorem okL_killed : okCV yL_killed.cls yL_killed 4 := by unfold okCV; decide +kernel
theorem okL_reached : okCV yL_reached.cls yL_reached 4 := by unfold okCV; decide +kernel
theorem okL_score : okCV yL_score.cls yL_score 3 := by unfold okCV; decide +kernel
theorem lg_self (x : Int64) : lg_cmp x x = 0 := by unfold lg_cmp; simp
section
variable {V : EV} {p : Program} {l : Launch} {e : Env} {R : Room} {s : State} {m : MethodId} {args : Array Value} {below : List Frame} {meth : Method} {c : Code} {Q : State → Prop} {A : Nat → Prop} {own : String} {cc : ByteArray} {kc ks nL fr lo : Nat}
variable {wc wc' wm wm' : va_W} {pc : Nat} {L : List (Nat × Value)} {st st0 : List Value} {q : Nat × va_E}
/-- the law's world: the class's cells, the long, the reference's cells -/
abbrev lwd (wc : va_W) (q : Nat × va_E) (wm : va_W) : va_W := (wc ++ [q]) ++ wm
theorem k_lC (C : CX V p l R s m args c A kc ks own cc nL fr lo) {idx n maxL f2 l2 x : Nat} {fs : List Value} {y : MethodName} {bytes : ByteArray} {ty : FieldType} {r : Int32} {As : List Value} (hM : MI V l y bytes maxL ty f2 l2 (.ref x :: As) wc r wc') (hm : ∀ a ∈ wsCV own idx RX7 y bytes maxL (some ty), a ∈ GW) (hok : okCV RX7 y n) (hR : f2 + 1 ≤ fr ∧ 8 + (maxL + 11) + l2 ≤ lo) (he : wc[0]? = some (x, .inr (7, fs))) (hn : As.length = n) (hst : st0 = As.reverse ++ .ref x :: st) (hW : (st.map fun v => v.category).sum ≤ 8) (hdg : decode cc pc = .ok (.invokevirtual idx, 3))
    (kk : WC V p l e R s m args below meth c Q A kc ks nL (lwd wc' q wm) (pc + 3) L (.int r :: st)) : WC V p l e R s m args below meth c Q A kc ks nL (lwd wc q wm) pc L st0 := by
  refine k_w (List.append_assoc wc [q] wm).symm (k_callVi C (mi_fr (rest := [q] ++ wm) hM) hm hok hR 0 (get_ap he) rfl hn hst hW hdg (k_w (List.append_assoc wc' [q] wm) kk))
theorem k_lCv (C : CX V p l R s m args c A kc ks own cc nL fr lo) {idx n maxL f2 l2 x : Nat} {fs : List Value} {y : MethodName} {bytes : ByteArray} {As : List Value} (hM : MV V l y bytes maxL f2 l2 (.ref x :: As) wc wc') (hm : ∀ a ∈ wsCV own idx RX7 y bytes maxL none, a ∈ GW) (hok : okCV RX7 y n) (hR : f2 + 1 ≤ fr ∧ 8 + (maxL + 11) + l2 ≤ lo) (he : wc[0]? = some (x, .inr (7, fs))) (hn : As.length = n) (hst : st0 = As.reverse ++ .ref x :: st) (hW : (st.map fun v => v.category).sum ≤ 8) (hdg : decode cc pc = .ok (.invokevirtual idx, 3))
    (kk : WC V p l e R s m args below meth c Q A kc ks nL (lwd wc' q wm) (pc + 3) L st) : WC V p l e R s m args below meth c Q A kc ks nL (lwd wc q wm) pc L st0 := by
  refine k_w (List.append_assoc wc [q] wm).symm (k_callVv C (mv_fr (rest := [q] ++ wm) hM) hm hok hR 0 (get_ap he) rfl hn hst hW hdg (k_w (List.append_assoc wc' [q] wm) kk))
theorem k_lM (C : CX V p l R s m args c A kc ks own cc nL fr lo) {idx n maxL f2 l2 x : Nat} {fs : List Value} {y : MethodName} {bytes : ByteArray} {ty : FieldType} {r : Int32} {As : List Value} (hM : MI V l y bytes maxL ty f2 l2 (.ref x :: As) wm r wm') (hm : ∀ a ∈ wsCV own idx RX8 y bytes maxL (some ty), a ∈ GW) (hok : okCV RX8 y n) (hR : f2 + 1 ≤ fr ∧ 8 + (maxL + 11) + l2 ≤ lo) (he : wm[0]? = some (x, .inr (8, fs))) (hn : As.length = n) (hst : st0 = As.reverse ++ .ref x :: st) (hW : (st.map fun v => v.category).sum ≤ 8) (hdg : decode cc pc = .ok (.invokevirtual idx, 3))
    (kk : WC V p l e R s m args below meth c Q A kc ks nL (lwd wc q wm') (pc + 3) L (.int r :: st)) : WC V p l e R s m args below meth c Q A kc ks nL (lwd wc q wm) pc L st0 :=
  k_perm List.perm_append_comm (k_callVi C (mi_fr (rest := wc ++ [q]) hM) hm hok hR 0 (get_ap he) rfl hn hst hW hdg (k_perm List.perm_append_comm kk))
theorem k_lMv (C : CX V p l R s m args c A kc ks own cc nL fr lo) {idx n maxL f2 l2 x : Nat} {fs : List Value} {y : MethodName} {bytes : ByteArray} {As : List Value} (hM : MV V l y bytes maxL f2 l2 (.ref x :: As) wm wm') (hm : ∀ a ∈ wsCV own idx RX8 y bytes maxL none, a ∈ GW) (hok : okCV RX8 y n) (hR : f2 + 1 ≤ fr ∧ 8 + (maxL + 11) + l2 ≤ lo) (he : wm[0]? = some (x, .inr (8, fs))) (hn : As.length = n) (hst : st0 = As.reverse ++ .ref x :: st) (hW : (st.map fun v => v.category).sum ≤ 8) (hdg : decode cc pc = .ok (.invokevirtual idx, 3))
    (kk : WC V p l e R s m args below meth c Q A kc ks nL (lwd wc q wm') (pc + 3) L st) : WC V p l e R s m args below meth c Q A kc ks nL (lwd wc q wm) pc L st0 :=
  k_perm List.perm_append_comm (k_callVv C (mv_fr (rest := wc ++ [q]) hM) hm hok hR 0 (get_ap he) rfl hn hst hW hdg (k_perm List.perm_append_comm kk))
theorem get_out : (lwd wc q wm)[wc.length]? = some q := get_ap get_last
theorem k_sld (C : CX V p l R s m args c A kc ks own cc nL fr lo) {b n : Nat} {xs : Nat → Int32} (hX : va_X b n xs s s.heap) (hbl : b < s.heap.size) (hbA : ¬ A b) {w : va_W} {i : Int32} (hin : vp_in i n) (hdg : decode cc pc = .ok (.iaload, 1)) (kk : WC V p l e R s m args below meth c Q A kc ks nL w (pc + 1) L (.int (xs i.toNatClampNeg) :: st)) : WC V p l e R s m args below meth c Q A kc ks nL w pc L (.int i :: .ref b :: st) :=
  fun H locs ls hP hD hS hl => va_sld C.1 C.2.1 hX hbl hbA hS hin hdg (kk H locs ls hP hD hS hl)
theorem k_slenX (C : CX V p l R s m args c A kc ks own cc nL fr lo) {b n : Nat} {xs : Nat → Int32} (hX : va_X b n xs s s.heap) (hbl : b < s.heap.size) (hbA : ¬ A b) {w : va_W} (hdg : decode cc pc = .ok (.arraylength, 1)) (kk : WC V p l e R s m args below meth c Q A kc ks nL w (pc + 1) L (.int (Int32.ofNat n) :: st)) : WC V p l e R s m args below meth c Q A kc ks nL w pc L (.ref b :: st) :=
  fun H locs ls hP hD hS hl => va_slen C.1 C.2.1 hX hbl hbA hS hdg (kk H locs ls hP hD hS hl)
/-- the walk's locals at the head of a round, and what follows a round -/
abbrev lL0 (i : Int32) (o x8 x7 b : Nat) : List (Nat × Value) := [(4, .int i), (3, .ref o), (2, .ref x8), (1, .ref x7), (0, .ref b)]
def LEND (V : EV) (p : Program) (l : Launch) (e : Env) (R : Room) (s : State) (m : MethodId) (args : Array Value) (below : List Frame) (meth : Method) (c : Code) (Q : State → Prop) (A : Nat → Prop) (kc ks : Nat) (a7 a8 : Nat → Nat) (o b : Nat) (i : Int32) : Prop :=
  ∀ (wc wm : va_W) (f : Nat → Int64) (kc' ks' : Nat), LSt V a7 a8 wc wm → kc' ≤ kc + 1 → ks' ≤ ks + 6 → WC V p l e R s m args below meth c Q A kc' ks' 7 (lwd wc (outW V o f) wm) 703 (lL0 i o (a8 0) (a7 0) b) []
end
section
variable {V : EV} {p : Program} {l : Launch} {e : Env} {R : Room} {s : State} {m : MethodId} {args : Array Value} {below : List Frame} {meth : Method} {c : Code} {Q : State → Prop} {A : Nat → Prop} {kc ks : Nat} {wc wm : va_W} {a7 a8 : Nat → Nat} {o b n : Nat} {xs : Nat → Int32} {i : Int32} {f : Nat → Int64}
theorem q_type (C : CX V p l R s m args c A kc ks RL cL_law 7 2048 84000) (hN : NCS s) (hk : kc + 1 ≤ R.cells ∧ ks + 6 ≤ R.slots) (hl0 : l.stackTraces = false) (hX : va_X b n xs s s.heap) (hbl : b < s.heap.size) (hbA : ¬ A b) (h1 : vp_in (i + 1) n) (h2 : vp_in (i + 2) n) (h3 : vp_in (i + 3) n) (h : LSt V a7 a8 wc wm) (K : LEND V p l e R s m args below meth c Q A kc ks a7 a8 o b i) : WC V p l e R s m args below meth c Q A kc ks 7 (lwd wc (outW V o f) wm) 104 (lL0 i o (a8 0) (a7 0) b) [] := by
  obtain ⟨v, wc', wm', g7, g8, hB⟩ := p_type hl0 h ((xs (i + 1).toNatClampNeg).toUInt32 % 65536).toInt32
  obtain ⟨fs, hc0⟩ := h.c0
  obtain ⟨fm, hm0⟩ := h.m0
  refine k_aload_n C dL_law_104 3 rfl ?_
  refine k_aload_n C dL_law_105 4 rfl ?_
  refine k_iload C dL_law_106 0 rfl ?_
  refine k_iconst C (v := 1) dL_law_108 rfl ?_
  refine k_iadd C dL_law_109 ?_
  refine k_sld C hX hbl hbA h1 dL_law_110 ?_
  refine k_i2c C dL_law_111 ?_
  refine k_lC C g7 cmL_48 ok7_type ⟨Nat.le_of_ble_eq_true rfl, Nat.le_of_ble_eq_true rfl⟩ hc0 rfl rfl (Nat.le_of_ble_eq_true rfl) dL_law_112 ?_
  refine k_aload_n C dL_law_115 2 rfl ?_
  refine k_aload_n C dL_law_116 4 rfl ?_
  refine k_iload C dL_law_117 0 rfl ?_
  refine k_iconst C (v := 1) dL_law_119 rfl ?_
  refine k_iadd C dL_law_120 ?_
  refine k_sld C hX hbl hbA h1 dL_law_121 ?_
  refine k_i2c C dL_law_122 ?_
  refine k_lM C g8 cmL_52 ok8_type ⟨Nat.le_of_ble_eq_true rfl, Nat.le_of_ble_eq_true rfl⟩ hm0 rfl rfl (Nat.le_of_ble_eq_true rfl) dL_law_123 ?_
  exact k_icmp_eq C 703 dL_law_126 (by decide) (fun _ => K _ _ f kc ks hB (Nat.le_succ _) (Nat.le_add_right _ _)) (fun z => absurd rfl z)
theorem q_wipe (C : CX V p l R s m args c A kc ks RL cL_law 7 2048 84000) (hN : NCS s) (hk : kc + 1 ≤ R.cells ∧ ks + 6 ≤ R.slots) (hl0 : l.stackTraces = false) (hX : va_X b n xs s s.heap) (hbl : b < s.heap.size) (hbA : ¬ A b) (h1 : vp_in (i + 1) n) (h2 : vp_in (i + 2) n) (h3 : vp_in (i + 3) n) (h : LSt V a7 a8 wc wm) (K : LEND V p l e R s m args below meth c Q A kc ks a7 a8 o b i) : WC V p l e R s m args below meth c Q A kc ks 7 (lwd wc (outW V o f) wm) 131 (lL0 i o (a8 0) (a7 0) b) [] := by
  obtain ⟨wc', wm', g7, g8, hB⟩ := p_wipe hl0 h 
  obtain ⟨fs, hc0⟩ := h.c0
  obtain ⟨fm, hm0⟩ := h.m0
  refine k_aload_n C dL_law_131 3 rfl ?_
  refine k_lCv C g7 cmL_53 ok7_wipe ⟨Nat.le_of_ble_eq_true rfl, Nat.le_of_ble_eq_true rfl⟩ hc0 rfl rfl (Nat.le_of_ble_eq_true rfl) dL_law_132 ?_
  refine k_aload_n C dL_law_135 2 rfl ?_
  refine k_lMv C g8 cmL_56 ok8_wipe ⟨Nat.le_of_ble_eq_true rfl, Nat.le_of_ble_eq_true rfl⟩ hm0 rfl rfl (Nat.le_of_ble_eq_true rfl) dL_law_136 ?_
  exact k_goto C 703 dL_law_139 (by decide) (K _ _ f kc ks hB (Nat.le_succ _) (Nat.le_add_right _ _))
theorem q_fuel (C : CX V p l R s m args c A kc ks RL cL_law 7 2048 84000) (hN : NCS s) (hk : kc + 1 ≤ R.cells ∧ ks + 6 ≤ R.slots) (hl0 : l.stackTraces = false) (hX : va_X b n xs s s.heap) (hbl : b < s.heap.size) (hbA : ¬ A b) (h1 : vp_in (i + 1) n) (h2 : vp_in (i + 2) n) (h3 : vp_in (i + 3) n) (h : LSt V a7 a8 wc wm) (K : LEND V p l e R s m args below meth c Q A kc ks a7 a8 o b i) : WC V p l e R s m args below meth c Q A kc ks 7 (lwd wc (outW V o f) wm) 322 (lL0 i o (a8 0) (a7 0) b) [] := by
  obtain ⟨v, wc', wm', g7, g8, hB⟩ := p_fuel hl0 h (xs (i + 1).toNatClampNeg)
  obtain ⟨fs, hc0⟩ := h.c0
  obtain ⟨fm, hm0⟩ := h.m0
  refine k_aload_n C dL_law_322 3 rfl ?_
  refine k_aload_n C dL_law_323 4 rfl ?_
  refine k_iload C dL_law_324 0 rfl ?_
  refine k_iconst C (v := 1) dL_law_326 rfl ?_
  refine k_iadd C dL_law_327 ?_
  refine k_sld C hX hbl hbA h1 dL_law_328 ?_
  refine k_lC C g7 cmL_73 ok7_fuel ⟨Nat.le_of_ble_eq_true rfl, Nat.le_of_ble_eq_true rfl⟩ hc0 rfl rfl (Nat.le_of_ble_eq_true rfl) dL_law_329 ?_
  refine k_aload_n C dL_law_332 2 rfl ?_
  refine k_aload_n C dL_law_333 4 rfl ?_
  refine k_iload C dL_law_334 0 rfl ?_
  refine k_iconst C (v := 1) dL_law_336 rfl ?_
  refine k_iadd C dL_law_337 ?_
  refine k_sld C hX hbl hbA h1 dL_law_338 ?_
  refine k_lM C g8 cmL_77 ok8_fuel ⟨Nat.le_of_ble_eq_true rfl, Nat.le_of_ble_eq_true rfl⟩ hm0 rfl rfl (Nat.le_of_ble_eq_true rfl) dL_law_339 ?_
  exact k_icmp_eq C 703 dL_law_342 (by decide) (fun _ => K _ _ f kc ks hB (Nat.le_succ _) (Nat.le_add_right _ _)) (fun z => absurd rfl z)
theorem q_value (C : CX V p l R s m args c A kc ks RL cL_law 7 2048 84000) (hN : NCS s) (hk : kc + 1 ≤ R.cells ∧ ks + 6 ≤ R.slots) (hl0 : l.stackTraces = false) (hX : va_X b n xs s s.heap) (hbl : b < s.heap.size) (hbA : ¬ A b) (h1 : vp_in (i + 1) n) (h2 : vp_in (i + 2) n) (h3 : vp_in (i + 3) n) (h : LSt V a7 a8 wc wm) (K : LEND V p l e R s m args below meth c Q A kc ks a7 a8 o b i) : WC V p l e R s m args below meth c Q A kc ks 7 (lwd wc (outW V o f) wm) 427 (lL0 i o (a8 0) (a7 0) b) [] := by
  obtain ⟨v, wc', wm', g7, g8, hB⟩ := p_value hl0 h 
  obtain ⟨fs, hc0⟩ := h.c0
  obtain ⟨fm, hm0⟩ := h.m0
  refine k_aload_n C dL_law_427 3 rfl ?_
  refine k_lC C g7 cmL_82 ok7_value ⟨Nat.le_of_ble_eq_true rfl, Nat.le_of_ble_eq_true rfl⟩ hc0 rfl rfl (Nat.le_of_ble_eq_true rfl) dL_law_428 ?_
  refine k_aload_n C dL_law_431 2 rfl ?_
  refine k_lM C g8 cmL_85 ok8_value ⟨Nat.le_of_ble_eq_true rfl, Nat.le_of_ble_eq_true rfl⟩ hm0 rfl rfl (Nat.le_of_ble_eq_true rfl) dL_law_432 ?_
  exact k_icmp_eq C 703 dL_law_435 (by decide) (fun _ => K _ _ f kc ks hB (Nat.le_succ _) (Nat.le_add_right _ _)) (fun z => absurd rfl z)
theorem q_took (C : CX V p l R s m args c A kc ks RL cL_law 7 2048 84000) (hN : NCS s) (hk : kc + 1 ≤ R.cells ∧ ks + 6 ≤ R.slots) (hl0 : l.stackTraces = false) (hX : va_X b n xs s s.heap) (hbl : b < s.heap.size) (hbA : ¬ A b) (h1 : vp_in (i + 1) n) (h2 : vp_in (i + 2) n) (h3 : vp_in (i + 3) n) (h : LSt V a7 a8 wc wm) (K : LEND V p l e R s m args below meth c Q A kc ks a7 a8 o b i) : WC V p l e R s m args below meth c Q A kc ks 7 (lwd wc (outW V o f) wm) 440 (lL0 i o (a8 0) (a7 0) b) [] := by
  obtain ⟨v, wc', wm', g7, g8, hB⟩ := p_took hl0 h 
  obtain ⟨fs, hc0⟩ := h.c0
  obtain ⟨fm, hm0⟩ := h.m0
  refine k_aload_n C dL_law_440 3 rfl ?_
  refine k_lC C g7 cmL_86 ok7_took ⟨Nat.le_of_ble_eq_true rfl, Nat.le_of_ble_eq_true rfl⟩ hc0 rfl rfl (Nat.le_of_ble_eq_true rfl) dL_law_441 ?_
  refine k_aload_n C dL_law_444 2 rfl ?_
  refine k_lM C g8 cmL_89 ok8_took ⟨Nat.le_of_ble_eq_true rfl, Nat.le_of_ble_eq_true rfl⟩ hm0 rfl rfl (Nat.le_of_ble_eq_true rfl) dL_law_445 ?_
  exact k_icmp_eq C 703 dL_law_448 (by decide) (fun _ => K _ _ f kc ks hB (Nat.le_succ _) (Nat.le_add_right _ _)) (fun z => absurd rfl z)
theorem q_compile (C : CX V p l R s m args c A kc ks RL cL_law 7 2048 84000) (hN : NCS s) (hk : kc + 1 ≤ R.cells ∧ ks + 6 ≤ R.slots) (hl0 : l.stackTraces = false) (hX : va_X b n xs s s.heap) (hbl : b < s.heap.size) (hbA : ¬ A b) (h1 : vp_in (i + 1) n) (h2 : vp_in (i + 2) n) (h3 : vp_in (i + 3) n) (h : LSt V a7 a8 wc wm) (K : LEND V p l e R s m args below meth c Q A kc ks a7 a8 o b i) : WC V p l e R s m args below meth c Q A kc ks 7 (lwd wc (outW V o f) wm) 142 (lL0 i o (a8 0) (a7 0) b) [] := by
  obtain ⟨k, v, f', wc', wm', hf, g7, g8, hB⟩ := p_compile hl0 h o f 
  obtain ⟨fm, hm0⟩ := h.m0
  obtain ⟨fm', hm1⟩ := hB.st.m0
  refine k_aload_n C dL_law_142 3 rfl ?_
  refine k_aload_n C dL_law_143 1 rfl ?_
  refine k_callSW C (mw_fr (rest := wm) g7) hN cmL_57 okL_compile ⟨Nat.le_of_ble_eq_true rfl, Nat.le_of_ble_eq_true rfl⟩ hk rfl rfl (Nat.le_of_ble_eq_true rfl) dL_law_144 ?_
  have C := C.up hk
  refine k_istore C dL_law_147 _ (Nat.le_of_ble_eq_true rfl) rfl ?_
  refine k_aload_n C dL_law_149 3 rfl ?_
  refine k_lM C g8 cmL_62 ok8_compile ⟨Nat.le_of_ble_eq_true rfl, Nat.le_of_ble_eq_true rfl⟩ hm0 rfl rfl (Nat.le_of_ble_eq_true rfl) dL_law_150 ?_
  refine k_istore C dL_law_153 _ (Nat.le_of_ble_eq_true rfl) rfl ?_
  refine k_aload_n C dL_law_155 4 rfl ?_
  refine k_lM C (p_thrown hl0 hB) cmL_63 ok8_thrown ⟨Nat.le_of_ble_eq_true rfl, Nat.le_of_ble_eq_true rfl⟩ hm1 rfl rfl (Nat.le_of_ble_eq_true rfl) dL_law_156 ?_
  refine k_iload C dL_law_159 1 rfl ?_
  refine k_icmp_eq C 166 dL_law_161 (by decide) (fun _ => ?_) (fun z => absurd rfl z)
  refine k_iload C dL_law_166 1 rfl ?_
  have hE : WC V p l e R s m args below meth c Q A (kc + 1) (ks + 6) 7 (lwd wc' (outW V o f') wm') 183 [(6, .int v), (5, .int k), (4, .int i), (3, .ref o), (2, .ref (a8 0)), (1, .ref (a7 0)), (0, .ref b)] [] := k_goto C 703 dL_law_183 (by decide) (k_sub [2, 3, 4, 5, 6] rfl (K _ _ f' _ _ hB.st (Nat.le_refl _) (Nat.le_refl _)))
  refine k_if_ne C 183 dL_law_168 (by decide) (fun _ => hE) (fun hk0 => ?_)
  refine k_aload_n C dL_law_171 3 rfl ?_
  refine k_iconst C (v := 0) dL_law_172 rfl ?_
  refine k_lald C wc'.length get_out (show ¬ ((0 : Int32) < 0 ∨ 1 ≤ (0 : Int32).toNatClampNeg) by decide) dL_law_173 ?_
  refine k_iload C dL_law_174 0 rfl ?_
  refine k_i2l C dL_law_176 ?_
  refine k_lcmp C dL_law_177 ?_
  refine k_if_eq C 183 dL_law_178 (by decide) (fun _ => hE) (fun z => absurd ?_ z)
  show lg_cmp (f' 0) v.toInt64 = 0
  rw [hf hk0]
  exact lg_self _
theorem q_mutant (C : CX V p l R s m args c A kc ks RL cL_law 7 2048 84000) (hN : NCS s) (hk : kc + 1 ≤ R.cells ∧ ks + 6 ≤ R.slots) (hl0 : l.stackTraces = false) (hX : va_X b n xs s s.heap) (hbl : b < s.heap.size) (hbA : ¬ A b) (h1 : vp_in (i + 1) n) (h2 : vp_in (i + 2) n) (h3 : vp_in (i + 3) n) (h : LSt V a7 a8 wc wm) (K : LEND V p l e R s m args below meth c Q A kc ks a7 a8 o b i) : WC V p l e R s m args below meth c Q A kc ks 7 (lwd wc (outW V o f) wm) 186 (lL0 i o (a8 0) (a7 0) b) [] := by
  obtain ⟨k, v, f', wc', wm', hf, g7, g8, hB⟩ := p_mutant hl0 h o f (xs (i + 1).toNatClampNeg) (xs (i + 2).toNatClampNeg)
  obtain ⟨fm, hm0⟩ := h.m0
  obtain ⟨fm', hm1⟩ := hB.st.m0
  refine k_aload_n C dL_law_186 3 rfl ?_
  refine k_aload_n C dL_law_187 4 rfl ?_
  refine k_iload C dL_law_188 0 rfl ?_
  refine k_iconst C (v := 1) dL_law_190 rfl ?_
  refine k_iadd C dL_law_191 ?_
  refine k_sld C hX hbl hbA h1 dL_law_192 ?_
  refine k_aload_n C dL_law_193 4 rfl ?_
  refine k_iload C dL_law_194 0 rfl ?_
  refine k_iconst C (v := 2) dL_law_196 rfl ?_
  refine k_iadd C dL_law_197 ?_
  refine k_sld C hX hbl hbA h2 dL_law_198 ?_
  refine k_aload_n C dL_law_199 1 rfl ?_
  refine k_callSW C (mw_fr (rest := wm) g7) hN cmL_66 okL_mutant ⟨Nat.le_of_ble_eq_true rfl, Nat.le_of_ble_eq_true rfl⟩ hk rfl rfl (Nat.le_of_ble_eq_true rfl) dL_law_200 ?_
  have C := C.up hk
  refine k_istore C dL_law_203 _ (Nat.le_of_ble_eq_true rfl) rfl ?_
  refine k_aload_n C dL_law_205 3 rfl ?_
  refine k_aload_n C dL_law_206 5 rfl ?_
  refine k_iload C dL_law_207 1 rfl ?_
  refine k_iconst C (v := 1) dL_law_209 rfl ?_
  refine k_iadd C dL_law_210 ?_
  refine k_sld C hX hbl hbA h1 dL_law_211 ?_
  refine k_aload_n C dL_law_212 5 rfl ?_
  refine k_iload C dL_law_213 1 rfl ?_
  refine k_iconst C (v := 2) dL_law_215 rfl ?_
  refine k_iadd C dL_law_216 ?_
  refine k_sld C hX hbl hbA h2 dL_law_217 ?_
  refine k_lM C g8 cmL_69 ok8_mutant ⟨Nat.le_of_ble_eq_true rfl, Nat.le_of_ble_eq_true rfl⟩ hm0 rfl rfl (Nat.le_of_ble_eq_true rfl) dL_law_218 ?_
  refine k_istore C dL_law_221 _ (Nat.le_of_ble_eq_true rfl) rfl ?_
  refine k_aload_n C dL_law_223 4 rfl ?_
  refine k_lM C (p_thrown hl0 hB) cmL_63 ok8_thrown ⟨Nat.le_of_ble_eq_true rfl, Nat.le_of_ble_eq_true rfl⟩ hm1 rfl rfl (Nat.le_of_ble_eq_true rfl) dL_law_224 ?_
  refine k_iload C dL_law_227 1 rfl ?_
  refine k_icmp_eq C 234 dL_law_229 (by decide) (fun _ => ?_) (fun z => absurd rfl z)
  refine k_iload C dL_law_234 1 rfl ?_
  have hE : WC V p l e R s m args below meth c Q A (kc + 1) (ks + 6) 7 (lwd wc' (outW V o f') wm') 251 [(6, .int v), (5, .int k), (4, .int i), (3, .ref o), (2, .ref (a8 0)), (1, .ref (a7 0)), (0, .ref b)] [] := k_goto C 703 dL_law_251 (by decide) (k_sub [2, 3, 4, 5, 6] rfl (K _ _ f' _ _ hB.st (Nat.le_refl _) (Nat.le_refl _)))
  refine k_if_ne C 251 dL_law_236 (by decide) (fun _ => hE) (fun hk0 => ?_)
  refine k_aload_n C dL_law_239 3 rfl ?_
  refine k_iconst C (v := 0) dL_law_240 rfl ?_
  refine k_lald C wc'.length get_out (show ¬ ((0 : Int32) < 0 ∨ 1 ≤ (0 : Int32).toNatClampNeg) by decide) dL_law_241 ?_
  refine k_iload C dL_law_242 0 rfl ?_
  refine k_i2l C dL_law_244 ?_
  refine k_lcmp C dL_law_245 ?_
  refine k_if_eq C 251 dL_law_246 (by decide) (fun _ => hE) (fun z => absurd ?_ z)
  show lg_cmp (f' 0) v.toInt64 = 0
  rw [hf hk0]
  exact lg_self _
theorem q_test (C : CX V p l R s m args c A kc ks RL cL_law 7 2048 84000) (hN : NCS s) (hk : kc + 1 ≤ R.cells ∧ ks + 6 ≤ R.slots) (hl0 : l.stackTraces = false) (hX : va_X b n xs s s.heap) (hbl : b < s.heap.size) (hbA : ¬ A b) (h1 : vp_in (i + 1) n) (h2 : vp_in (i + 2) n) (h3 : vp_in (i + 3) n) (h : LSt V a7 a8 wc wm) (K : LEND V p l e R s m args below meth c Q A kc ks a7 a8 o b i) : WC V p l e R s m args below meth c Q A kc ks 7 (lwd wc (outW V o f) wm) 254 (lL0 i o (a8 0) (a7 0) b) [] := by
  obtain ⟨k, v, f', wc', wm', hf, g7, g8, hB⟩ := p_test hl0 h o f (xs (i + 1).toNatClampNeg) (xs (i + 2).toNatClampNeg)
  obtain ⟨fm, hm0⟩ := h.m0
  obtain ⟨fm', hm1⟩ := hB.st.m0
  refine k_aload_n C dL_law_254 3 rfl ?_
  refine k_aload_n C dL_law_255 4 rfl ?_
  refine k_iload C dL_law_256 0 rfl ?_
  refine k_iconst C (v := 1) dL_law_258 rfl ?_
  refine k_iadd C dL_law_259 ?_
  refine k_sld C hX hbl hbA h1 dL_law_260 ?_
  refine k_aload_n C dL_law_261 4 rfl ?_
  refine k_iload C dL_law_262 0 rfl ?_
  refine k_iconst C (v := 2) dL_law_264 rfl ?_
  refine k_iadd C dL_law_265 ?_
  refine k_sld C hX hbl hbA h2 dL_law_266 ?_
  refine k_aload_n C dL_law_267 1 rfl ?_
  refine k_callSW C (mw_fr (rest := wm) g7) hN cmL_70 okL_test ⟨Nat.le_of_ble_eq_true rfl, Nat.le_of_ble_eq_true rfl⟩ hk rfl rfl (Nat.le_of_ble_eq_true rfl) dL_law_268 ?_
  have C := C.up hk
  refine k_istore C dL_law_271 _ (Nat.le_of_ble_eq_true rfl) rfl ?_
  refine k_aload_n C dL_law_273 3 rfl ?_
  refine k_aload_n C dL_law_274 5 rfl ?_
  refine k_iload C dL_law_275 1 rfl ?_
  refine k_iconst C (v := 1) dL_law_277 rfl ?_
  refine k_iadd C dL_law_278 ?_
  refine k_sld C hX hbl hbA h1 dL_law_279 ?_
  refine k_aload_n C dL_law_280 5 rfl ?_
  refine k_iload C dL_law_281 1 rfl ?_
  refine k_iconst C (v := 2) dL_law_283 rfl ?_
  refine k_iadd C dL_law_284 ?_
  refine k_sld C hX hbl hbA h2 dL_law_285 ?_
  refine k_lM C g8 cmL_72 ok8_test ⟨Nat.le_of_ble_eq_true rfl, Nat.le_of_ble_eq_true rfl⟩ hm0 rfl rfl (Nat.le_of_ble_eq_true rfl) dL_law_286 ?_
  refine k_istore C dL_law_289 _ (Nat.le_of_ble_eq_true rfl) rfl ?_
  refine k_aload_n C dL_law_291 4 rfl ?_
  refine k_lM C (p_thrown hl0 hB) cmL_63 ok8_thrown ⟨Nat.le_of_ble_eq_true rfl, Nat.le_of_ble_eq_true rfl⟩ hm1 rfl rfl (Nat.le_of_ble_eq_true rfl) dL_law_292 ?_
  refine k_iload C dL_law_295 1 rfl ?_
  refine k_icmp_eq C 302 dL_law_297 (by decide) (fun _ => ?_) (fun z => absurd rfl z)
  refine k_iload C dL_law_302 1 rfl ?_
  have hE : WC V p l e R s m args below meth c Q A (kc + 1) (ks + 6) 7 (lwd wc' (outW V o f') wm') 319 [(6, .int v), (5, .int k), (4, .int i), (3, .ref o), (2, .ref (a8 0)), (1, .ref (a7 0)), (0, .ref b)] [] := k_goto C 703 dL_law_319 (by decide) (k_sub [2, 3, 4, 5, 6] rfl (K _ _ f' _ _ hB.st (Nat.le_refl _) (Nat.le_refl _)))
  refine k_if_ne C 319 dL_law_304 (by decide) (fun _ => hE) (fun hk0 => ?_)
  refine k_aload_n C dL_law_307 3 rfl ?_
  refine k_iconst C (v := 0) dL_law_308 rfl ?_
  refine k_lald C wc'.length get_out (show ¬ ((0 : Int32) < 0 ∨ 1 ≤ (0 : Int32).toNatClampNeg) by decide) dL_law_309 ?_
  refine k_iload C dL_law_310 0 rfl ?_
  refine k_i2l C dL_law_312 ?_
  refine k_lcmp C dL_law_313 ?_
  refine k_if_eq C 319 dL_law_314 (by decide) (fun _ => hE) (fun z => absurd ?_ z)
  show lg_cmp (f' 0) v.toInt64 = 0
  rw [hf hk0]
  exact lg_self _
theorem q_run (C : CX V p l R s m args c A kc ks RL cL_law 7 2048 84000) (hN : NCS s) (hk : kc + 1 ≤ R.cells ∧ ks + 6 ≤ R.slots) (hl0 : l.stackTraces = false) (hX : va_X b n xs s s.heap) (hbl : b < s.heap.size) (hbA : ¬ A b) (h1 : vp_in (i + 1) n) (h2 : vp_in (i + 2) n) (h3 : vp_in (i + 3) n) (h : LSt V a7 a8 wc wm) (K : LEND V p l e R s m args below meth c Q A kc ks a7 a8 o b i) : WC V p l e R s m args below meth c Q A kc ks 7 (lwd wc (outW V o f) wm) 347 (lL0 i o (a8 0) (a7 0) b) [] := by
  obtain ⟨k, v, f', wc', wm', hf, g7, g8, hB⟩ := p_run hl0 h o f (xs (i + 1).toNatClampNeg) (xs (i + 2).toNatClampNeg) (xs (i + 3).toNatClampNeg)
  obtain ⟨fm, hm0⟩ := h.m0
  obtain ⟨fm', hm1⟩ := hB.st.m0
  refine k_aload_n C dL_law_347 3 rfl ?_
  refine k_aload_n C dL_law_348 4 rfl ?_
  refine k_iload C dL_law_349 0 rfl ?_
  refine k_iconst C (v := 1) dL_law_351 rfl ?_
  refine k_iadd C dL_law_352 ?_
  refine k_sld C hX hbl hbA h1 dL_law_353 ?_
  refine k_aload_n C dL_law_354 4 rfl ?_
  refine k_iload C dL_law_355 0 rfl ?_
  refine k_iconst C (v := 2) dL_law_357 rfl ?_
  refine k_iadd C dL_law_358 ?_
  refine k_sld C hX hbl hbA h2 dL_law_359 ?_
  refine k_aload_n C dL_law_360 4 rfl ?_
  refine k_iload C dL_law_361 0 rfl ?_
  refine k_iconst C (v := 3) dL_law_363 rfl ?_
  refine k_iadd C dL_law_364 ?_
  refine k_sld C hX hbl hbA h3 dL_law_365 ?_
  refine k_aload_n C dL_law_366 1 rfl ?_
  refine k_callSW C (mw_fr (rest := wm) g7) hN cmL_78 okL_run ⟨Nat.le_of_ble_eq_true rfl, Nat.le_of_ble_eq_true rfl⟩ hk rfl rfl (Nat.le_of_ble_eq_true rfl) dL_law_367 ?_
  have C := C.up hk
  refine k_istore C dL_law_370 _ (Nat.le_of_ble_eq_true rfl) rfl ?_
  refine k_aload_n C dL_law_372 3 rfl ?_
  refine k_aload_n C dL_law_373 5 rfl ?_
  refine k_iload C dL_law_374 1 rfl ?_
  refine k_iconst C (v := 1) dL_law_376 rfl ?_
  refine k_iadd C dL_law_377 ?_
  refine k_sld C hX hbl hbA h1 dL_law_378 ?_
  refine k_aload_n C dL_law_379 5 rfl ?_
  refine k_iload C dL_law_380 1 rfl ?_
  refine k_iconst C (v := 2) dL_law_382 rfl ?_
  refine k_iadd C dL_law_383 ?_
  refine k_sld C hX hbl hbA h2 dL_law_384 ?_
  refine k_aload_n C dL_law_385 5 rfl ?_
  refine k_iload C dL_law_386 1 rfl ?_
  refine k_iconst C (v := 3) dL_law_388 rfl ?_
  refine k_iadd C dL_law_389 ?_
  refine k_sld C hX hbl hbA h3 dL_law_390 ?_
  refine k_lM C g8 cmL_81 ok8_run ⟨Nat.le_of_ble_eq_true rfl, Nat.le_of_ble_eq_true rfl⟩ hm0 rfl rfl (Nat.le_of_ble_eq_true rfl) dL_law_391 ?_
  refine k_istore C dL_law_394 _ (Nat.le_of_ble_eq_true rfl) rfl ?_
  refine k_aload_n C dL_law_396 4 rfl ?_
  refine k_lM C (p_thrown hl0 hB) cmL_63 ok8_thrown ⟨Nat.le_of_ble_eq_true rfl, Nat.le_of_ble_eq_true rfl⟩ hm1 rfl rfl (Nat.le_of_ble_eq_true rfl) dL_law_397 ?_
  refine k_iload C dL_law_400 1 rfl ?_
  refine k_icmp_eq C 407 dL_law_402 (by decide) (fun _ => ?_) (fun z => absurd rfl z)
  refine k_iload C dL_law_407 1 rfl ?_
  have hE : WC V p l e R s m args below meth c Q A (kc + 1) (ks + 6) 7 (lwd wc' (outW V o f') wm') 424 [(6, .int v), (5, .int k), (4, .int i), (3, .ref o), (2, .ref (a8 0)), (1, .ref (a7 0)), (0, .ref b)] [] := k_goto C 703 dL_law_424 (by decide) (k_sub [2, 3, 4, 5, 6] rfl (K _ _ f' _ _ hB.st (Nat.le_refl _) (Nat.le_refl _)))
  refine k_if_ne C 424 dL_law_409 (by decide) (fun _ => hE) (fun hk0 => ?_)
  refine k_aload_n C dL_law_412 3 rfl ?_
  refine k_iconst C (v := 0) dL_law_413 rfl ?_
  refine k_lald C wc'.length get_out (show ¬ ((0 : Int32) < 0 ∨ 1 ≤ (0 : Int32).toNatClampNeg) by decide) dL_law_414 ?_
  refine k_iload C dL_law_415 0 rfl ?_
  refine k_i2l C dL_law_417 ?_
  refine k_lcmp C dL_law_418 ?_
  refine k_if_eq C 424 dL_law_419 (by decide) (fun _ => hE) (fun z => absurd ?_ z)
  show lg_cmp (f' 0) v.toInt64 = 0
  rw [hf hk0]
  exact lg_self _
theorem q_matrix (C : CX V p l R s m args c A kc ks RL cL_law 7 2048 84000) (hN : NCS s) (hk : kc + 1 ≤ R.cells ∧ ks + 6 ≤ R.slots) (hl0 : l.stackTraces = false) (hX : va_X b n xs s s.heap) (hbl : b < s.heap.size) (hbA : ¬ A b) (h1 : vp_in (i + 1) n) (h2 : vp_in (i + 2) n) (h3 : vp_in (i + 3) n) (h : LSt V a7 a8 wc wm) (K : LEND V p l e R s m args below meth c Q A kc ks a7 a8 o b i) : WC V p l e R s m args below meth c Q A kc ks 7 (lwd wc (outW V o f) wm) 453 (lL0 i o (a8 0) (a7 0) b) [] := by
  obtain ⟨k, v, f', wc', wm', hf, g7, g8, hB⟩ := p_matrix hl0 h o f 
  obtain ⟨fm, hm0⟩ := h.m0
  obtain ⟨fm', hm1⟩ := hB.st.m0
  refine k_aload_n C dL_law_453 3 rfl ?_
  refine k_aload_n C dL_law_454 1 rfl ?_
  refine k_callSW C (mw_fr (rest := wm) g7) hN cmL_90 okL_matrix ⟨Nat.le_of_ble_eq_true rfl, Nat.le_of_ble_eq_true rfl⟩ hk rfl rfl (Nat.le_of_ble_eq_true rfl) dL_law_455 ?_
  have C := C.up hk
  refine k_istore C dL_law_458 _ (Nat.le_of_ble_eq_true rfl) rfl ?_
  refine k_aload_n C dL_law_460 3 rfl ?_
  refine k_lM C g8 cmL_92 ok8_matrix ⟨Nat.le_of_ble_eq_true rfl, Nat.le_of_ble_eq_true rfl⟩ hm0 rfl rfl (Nat.le_of_ble_eq_true rfl) dL_law_461 ?_
  refine k_istore C dL_law_464 _ (Nat.le_of_ble_eq_true rfl) rfl ?_
  refine k_aload_n C dL_law_466 4 rfl ?_
  refine k_lM C (p_thrown hl0 hB) cmL_63 ok8_thrown ⟨Nat.le_of_ble_eq_true rfl, Nat.le_of_ble_eq_true rfl⟩ hm1 rfl rfl (Nat.le_of_ble_eq_true rfl) dL_law_467 ?_
  refine k_iload C dL_law_470 1 rfl ?_
  refine k_icmp_eq C 477 dL_law_472 (by decide) (fun _ => ?_) (fun z => absurd rfl z)
  refine k_iload C dL_law_477 1 rfl ?_
  have hE : WC V p l e R s m args below meth c Q A (kc + 1) (ks + 6) 7 (lwd wc' (outW V o f') wm') 494 [(6, .int v), (5, .int k), (4, .int i), (3, .ref o), (2, .ref (a8 0)), (1, .ref (a7 0)), (0, .ref b)] [] := k_goto C 703 dL_law_494 (by decide) (k_sub [2, 3, 4, 5, 6] rfl (K _ _ f' _ _ hB.st (Nat.le_refl _) (Nat.le_refl _)))
  refine k_if_ne C 494 dL_law_479 (by decide) (fun _ => hE) (fun hk0 => ?_)
  refine k_aload_n C dL_law_482 3 rfl ?_
  refine k_iconst C (v := 0) dL_law_483 rfl ?_
  refine k_lald C wc'.length get_out (show ¬ ((0 : Int32) < 0 ∨ 1 ≤ (0 : Int32).toNatClampNeg) by decide) dL_law_484 ?_
  refine k_iload C dL_law_485 0 rfl ?_
  refine k_i2l C dL_law_487 ?_
  refine k_lcmp C dL_law_488 ?_
  refine k_if_eq C 494 dL_law_489 (by decide) (fun _ => hE) (fun z => absurd ?_ z)
  show lg_cmp (f' 0) v.toInt64 = 0
  rw [hf hk0]
  exact lg_self _
theorem q_killed (C : CX V p l R s m args c A kc ks RL cL_law 7 2048 84000) (hN : NCS s) (hk : kc + 1 ≤ R.cells ∧ ks + 6 ≤ R.slots) (hl0 : l.stackTraces = false) (hX : va_X b n xs s s.heap) (hbl : b < s.heap.size) (hbA : ¬ A b) (h1 : vp_in (i + 1) n) (h2 : vp_in (i + 2) n) (h3 : vp_in (i + 3) n) (h : LSt V a7 a8 wc wm) (K : LEND V p l e R s m args below meth c Q A kc ks a7 a8 o b i) : WC V p l e R s m args below meth c Q A kc ks 7 (lwd wc (outW V o f) wm) 497 (lL0 i o (a8 0) (a7 0) b) [] := by
  obtain ⟨k, v, f', wc', wm', hf, g7, g8, hB, hv⟩ := p_killed hl0 h o f (xs (i + 1).toNatClampNeg) (xs (i + 2).toNatClampNeg)
  obtain ⟨fm, hm0⟩ := h.m0
  obtain ⟨fm', hm1⟩ := hB.st.m0
  refine k_aload_n C dL_law_497 3 rfl ?_
  refine k_aload_n C dL_law_498 4 rfl ?_
  refine k_iload C dL_law_499 0 rfl ?_
  refine k_iconst C (v := 1) dL_law_501 rfl ?_
  refine k_iadd C dL_law_502 ?_
  refine k_sld C hX hbl hbA h1 dL_law_503 ?_
  refine k_aload_n C dL_law_504 4 rfl ?_
  refine k_iload C dL_law_505 0 rfl ?_
  refine k_iconst C (v := 2) dL_law_507 rfl ?_
  refine k_iadd C dL_law_508 ?_
  refine k_sld C hX hbl hbA h2 dL_law_509 ?_
  refine k_aload_n C dL_law_510 1 rfl ?_
  refine k_callSW C (mw_fr (rest := wm) g7) hN cmL_93 okL_killed ⟨Nat.le_of_ble_eq_true rfl, Nat.le_of_ble_eq_true rfl⟩ hk rfl rfl (Nat.le_of_ble_eq_true rfl) dL_law_511 ?_
  have C := C.up hk
  refine k_istore C dL_law_514 _ (Nat.le_of_ble_eq_true rfl) rfl ?_
  refine k_aload_n C dL_law_516 3 rfl ?_
  refine k_aload_n C dL_law_517 5 rfl ?_
  refine k_iload C dL_law_518 1 rfl ?_
  refine k_iconst C (v := 1) dL_law_520 rfl ?_
  refine k_iadd C dL_law_521 ?_
  refine k_sld C hX hbl hbA h1 dL_law_522 ?_
  refine k_aload_n C dL_law_523 5 rfl ?_
  refine k_iload C dL_law_524 1 rfl ?_
  refine k_iconst C (v := 2) dL_law_526 rfl ?_
  refine k_iadd C dL_law_527 ?_
  refine k_sld C hX hbl hbA h2 dL_law_528 ?_
  refine k_lM C g8 cmL_95 ok8_killed ⟨Nat.le_of_ble_eq_true rfl, Nat.le_of_ble_eq_true rfl⟩ hm0 rfl rfl (Nat.le_of_ble_eq_true rfl) dL_law_529 ?_
  refine k_istore C dL_law_532 _ (Nat.le_of_ble_eq_true rfl) rfl ?_
  refine k_aload_n C dL_law_534 4 rfl ?_
  refine k_lM C (p_thrown hl0 hB) cmL_63 ok8_thrown ⟨Nat.le_of_ble_eq_true rfl, Nat.le_of_ble_eq_true rfl⟩ hm1 rfl rfl (Nat.le_of_ble_eq_true rfl) dL_law_535 ?_
  refine k_iload C dL_law_538 1 rfl ?_
  refine k_icmp_eq C 545 dL_law_540 (by decide) (fun _ => ?_) (fun z => absurd rfl z)
  refine k_iload C dL_law_545 1 rfl ?_
  have hE : WC V p l e R s m args below meth c Q A (kc + 1) (ks + 6) 7 (lwd wc' (outW V o f') wm') 569 [(6, .int v), (5, .int k), (4, .int i), (3, .ref o), (2, .ref (a8 0)), (1, .ref (a7 0)), (0, .ref b)] [] := k_goto C 703 dL_law_569 (by decide) (k_sub [2, 3, 4, 5, 6] rfl (K _ _ f' _ _ hB.st (Nat.le_refl _) (Nat.le_refl _)))
  refine k_if_ne C 569 dL_law_547 (by decide) (fun _ => hE) (fun hk0 => ?_)
  refine k_aload_n C dL_law_550 3 rfl ?_
  refine k_iconst C (v := 0) dL_law_551 rfl ?_
  refine k_lald C wc'.length get_out (show ¬ ((0 : Int32) < 0 ∨ 1 ≤ (0 : Int32).toNatClampNeg) by decide) dL_law_552 ?_
  refine k_iload C dL_law_553 0 rfl ?_
  refine k_if_eq C 562 dL_law_555 (by decide) (fun hz => ?_) (fun hz => ?_)
  · refine k_lconst C (v := 0) dL_law_562 rfl ?_
    refine k_lcmp C dL_law_563 ?_
    refine k_if_eq C 569 dL_law_564 (by decide) (fun _ => hE) (fun z => absurd ?_ z)
    show lg_cmp (f' 0) 0 = 0
    rw [hf hk0, hz]
    exact lg_self _
  · refine k_lconst C (v := 1) dL_law_558 rfl ?_
    refine k_goto C 563 dL_law_559 (by decide) ?_
    refine k_lcmp C dL_law_563 ?_
    refine k_if_eq C 569 dL_law_564 (by decide) (fun _ => hE) (fun z => absurd ?_ z)
    show lg_cmp (f' 0) 1 = 0
    rw [hf hk0, hv.resolve_left hz]
    exact lg_self _
theorem q_reached (C : CX V p l R s m args c A kc ks RL cL_law 7 2048 84000) (hN : NCS s) (hk : kc + 1 ≤ R.cells ∧ ks + 6 ≤ R.slots) (hl0 : l.stackTraces = false) (hX : va_X b n xs s s.heap) (hbl : b < s.heap.size) (hbA : ¬ A b) (h1 : vp_in (i + 1) n) (h2 : vp_in (i + 2) n) (h3 : vp_in (i + 3) n) (h : LSt V a7 a8 wc wm) (K : LEND V p l e R s m args below meth c Q A kc ks a7 a8 o b i) : WC V p l e R s m args below meth c Q A kc ks 7 (lwd wc (outW V o f) wm) 572 (lL0 i o (a8 0) (a7 0) b) [] := by
  obtain ⟨k, v, f', wc', wm', hf, g7, g8, hB, hv⟩ := p_reached hl0 h o f (xs (i + 1).toNatClampNeg) (xs (i + 2).toNatClampNeg)
  obtain ⟨fm, hm0⟩ := h.m0
  obtain ⟨fm', hm1⟩ := hB.st.m0
  refine k_aload_n C dL_law_572 3 rfl ?_
  refine k_aload_n C dL_law_573 4 rfl ?_
  refine k_iload C dL_law_574 0 rfl ?_
  refine k_iconst C (v := 1) dL_law_576 rfl ?_
  refine k_iadd C dL_law_577 ?_
  refine k_sld C hX hbl hbA h1 dL_law_578 ?_
  refine k_aload_n C dL_law_579 4 rfl ?_
  refine k_iload C dL_law_580 0 rfl ?_
  refine k_iconst C (v := 2) dL_law_582 rfl ?_
  refine k_iadd C dL_law_583 ?_
  refine k_sld C hX hbl hbA h2 dL_law_584 ?_
  refine k_aload_n C dL_law_585 1 rfl ?_
  refine k_callSW C (mw_fr (rest := wm) g7) hN cmL_96 okL_reached ⟨Nat.le_of_ble_eq_true rfl, Nat.le_of_ble_eq_true rfl⟩ hk rfl rfl (Nat.le_of_ble_eq_true rfl) dL_law_586 ?_
  have C := C.up hk
  refine k_istore C dL_law_589 _ (Nat.le_of_ble_eq_true rfl) rfl ?_
  refine k_aload_n C dL_law_591 3 rfl ?_
  refine k_aload_n C dL_law_592 5 rfl ?_
  refine k_iload C dL_law_593 1 rfl ?_
  refine k_iconst C (v := 1) dL_law_595 rfl ?_
  refine k_iadd C dL_law_596 ?_
  refine k_sld C hX hbl hbA h1 dL_law_597 ?_
  refine k_aload_n C dL_law_598 5 rfl ?_
  refine k_iload C dL_law_599 1 rfl ?_
  refine k_iconst C (v := 2) dL_law_601 rfl ?_
  refine k_iadd C dL_law_602 ?_
  refine k_sld C hX hbl hbA h2 dL_law_603 ?_
  refine k_lM C g8 cmL_98 ok8_reached ⟨Nat.le_of_ble_eq_true rfl, Nat.le_of_ble_eq_true rfl⟩ hm0 rfl rfl (Nat.le_of_ble_eq_true rfl) dL_law_604 ?_
  refine k_istore C dL_law_607 _ (Nat.le_of_ble_eq_true rfl) rfl ?_
  refine k_aload_n C dL_law_609 4 rfl ?_
  refine k_lM C (p_thrown hl0 hB) cmL_63 ok8_thrown ⟨Nat.le_of_ble_eq_true rfl, Nat.le_of_ble_eq_true rfl⟩ hm1 rfl rfl (Nat.le_of_ble_eq_true rfl) dL_law_610 ?_
  refine k_iload C dL_law_613 1 rfl ?_
  refine k_icmp_eq C 620 dL_law_615 (by decide) (fun _ => ?_) (fun z => absurd rfl z)
  refine k_iload C dL_law_620 1 rfl ?_
  have hE : WC V p l e R s m args below meth c Q A (kc + 1) (ks + 6) 7 (lwd wc' (outW V o f') wm') 644 [(6, .int v), (5, .int k), (4, .int i), (3, .ref o), (2, .ref (a8 0)), (1, .ref (a7 0)), (0, .ref b)] [] := k_goto C 703 dL_law_644 (by decide) (k_sub [2, 3, 4, 5, 6] rfl (K _ _ f' _ _ hB.st (Nat.le_refl _) (Nat.le_refl _)))
  refine k_if_ne C 644 dL_law_622 (by decide) (fun _ => hE) (fun hk0 => ?_)
  refine k_aload_n C dL_law_625 3 rfl ?_
  refine k_iconst C (v := 0) dL_law_626 rfl ?_
  refine k_lald C wc'.length get_out (show ¬ ((0 : Int32) < 0 ∨ 1 ≤ (0 : Int32).toNatClampNeg) by decide) dL_law_627 ?_
  refine k_iload C dL_law_628 0 rfl ?_
  refine k_if_eq C 637 dL_law_630 (by decide) (fun hz => ?_) (fun hz => ?_)
  · refine k_lconst C (v := 0) dL_law_637 rfl ?_
    refine k_lcmp C dL_law_638 ?_
    refine k_if_eq C 644 dL_law_639 (by decide) (fun _ => hE) (fun z => absurd ?_ z)
    show lg_cmp (f' 0) 0 = 0
    rw [hf hk0, hz]
    exact lg_self _
  · refine k_lconst C (v := 1) dL_law_633 rfl ?_
    refine k_goto C 638 dL_law_634 (by decide) ?_
    refine k_lcmp C dL_law_638 ?_
    refine k_if_eq C 644 dL_law_639 (by decide) (fun _ => hE) (fun z => absurd ?_ z)
    show lg_cmp (f' 0) 1 = 0
    rw [hf hk0, hv.resolve_left hz]
    exact lg_self _
theorem q_score (C : CX V p l R s m args c A kc ks RL cL_law 7 2048 84000) (hN : NCS s) (hk : kc + 1 ≤ R.cells ∧ ks + 6 ≤ R.slots) (hl0 : l.stackTraces = false) (hX : va_X b n xs s s.heap) (hbl : b < s.heap.size) (hbA : ¬ A b) (h1 : vp_in (i + 1) n) (h2 : vp_in (i + 2) n) (h3 : vp_in (i + 3) n) (h : LSt V a7 a8 wc wm) (K : LEND V p l e R s m args below meth c Q A kc ks a7 a8 o b i) : WC V p l e R s m args below meth c Q A kc ks 7 (lwd wc (outW V o f) wm) 647 (lL0 i o (a8 0) (a7 0) b) [] := by
  obtain ⟨k, v, f', wc', wm', hf, g7, g8, hB⟩ := p_score hl0 h o f (xs (i + 1).toNatClampNeg)
  obtain ⟨fm, hm0⟩ := h.m0
  obtain ⟨fm', hm1⟩ := hB.st.m0
  refine k_aload_n C dL_law_647 3 rfl ?_
  refine k_aload_n C dL_law_648 4 rfl ?_
  refine k_iload C dL_law_649 0 rfl ?_
  refine k_iconst C (v := 1) dL_law_651 rfl ?_
  refine k_iadd C dL_law_652 ?_
  refine k_sld C hX hbl hbA h1 dL_law_653 ?_
  refine k_aload_n C dL_law_654 1 rfl ?_
  refine k_callSW C (mw_fr (rest := wm) g7) hN cmL_99 okL_score ⟨Nat.le_of_ble_eq_true rfl, Nat.le_of_ble_eq_true rfl⟩ hk rfl rfl (Nat.le_of_ble_eq_true rfl) dL_law_655 ?_
  have C := C.up hk
  refine k_istore C dL_law_658 _ (Nat.le_of_ble_eq_true rfl) rfl ?_
  refine k_aload_n C dL_law_660 3 rfl ?_
  refine k_aload_n C dL_law_661 5 rfl ?_
  refine k_iload C dL_law_662 1 rfl ?_
  refine k_iconst C (v := 1) dL_law_664 rfl ?_
  refine k_iadd C dL_law_665 ?_
  refine k_sld C hX hbl hbA h1 dL_law_666 ?_
  refine k_lM C g8 cmL_102 ok8_score ⟨Nat.le_of_ble_eq_true rfl, Nat.le_of_ble_eq_true rfl⟩ hm0 rfl rfl (Nat.le_of_ble_eq_true rfl) dL_law_667 ?_
  refine k_istore C dL_law_670 _ (Nat.le_of_ble_eq_true rfl) rfl ?_
  refine k_aload_n C dL_law_672 4 rfl ?_
  refine k_lM C (p_thrown hl0 hB) cmL_63 ok8_thrown ⟨Nat.le_of_ble_eq_true rfl, Nat.le_of_ble_eq_true rfl⟩ hm1 rfl rfl (Nat.le_of_ble_eq_true rfl) dL_law_673 ?_
  refine k_iload C dL_law_676 1 rfl ?_
  refine k_icmp_eq C 683 dL_law_678 (by decide) (fun _ => ?_) (fun z => absurd rfl z)
  refine k_iload C dL_law_683 1 rfl ?_
  have hE : WC V p l e R s m args below meth c Q A (kc + 1) (ks + 6) 7 (lwd wc' (outW V o f') wm') 700 [(6, .int v), (5, .int k), (4, .int i), (3, .ref o), (2, .ref (a8 0)), (1, .ref (a7 0)), (0, .ref b)] [] := k_goto C 703 dL_law_700 (by decide) (k_sub [2, 3, 4, 5, 6] rfl (K _ _ f' _ _ hB.st (Nat.le_refl _) (Nat.le_refl _)))
  refine k_if_ne C 700 dL_law_685 (by decide) (fun _ => hE) (fun hk0 => ?_)
  refine k_aload_n C dL_law_688 3 rfl ?_
  refine k_iconst C (v := 0) dL_law_689 rfl ?_
  refine k_lald C wc'.length get_out (show ¬ ((0 : Int32) < 0 ∨ 1 ≤ (0 : Int32).toNatClampNeg) by decide) dL_law_690 ?_
  refine k_iload C dL_law_691 0 rfl ?_
  refine k_i2l C dL_law_693 ?_
  refine k_lcmp C dL_law_694 ?_
  refine k_if_eq C 700 dL_law_695 (by decide) (fun _ => hE) (fun z => absurd ?_ z)
  show lg_cmp (f' 0) v.toInt64 = 0
  rw [hf hk0]
  exact lg_self _
end
