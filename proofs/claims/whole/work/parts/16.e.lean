/-! FOLDING in the reference: comparisons and conditions -/
section
variable {N : Nat} {mH : MdH} {D : Nat → FT} {cnt : Nat} {x y : Int32} {A B T : FT}
theorem m_isT (h : CM mH D cnt) (hx : TE D cnt x T) : f8_isTruth x 1 mH = some (if knd T = 10 then 1 else 0) ∧ f8_isTruth x 0 mH = some (if knd T = 11 then 1 else 0) := by
  obtain ⟨t, k, a, b, c, h1, rfl, ⟨r1, r2, r3, r4⟩, h4, h5, h6⟩ := m_row h hx
  have hc := h.2.1
  have hk := h4.k12
  have hg := z_gd (n := t) (N := 4200) (by omega) (by omega)
  obtain ⟨ht, hK, hA, hB, hC, hNx, h1', hT, hR⟩ := mH
  dsimp only at r1 r2
  rw [f8_isTruth, f8_isTruth, if_neg hg, if_neg hg, if_neg hg, if_neg hg, z_nat (n := t) (by omega), r1, r2]
  by_cases w : k = 12
  · subst w
    rw [if_pos (show nI 12 = (12 : Int32) from rfl), if_pos (show nI 12 = (12 : Int32) from rfl)]
    rcases h4.1 with rfl | rfl
    · have hT : T = flsT := h5
      subst hT
      exact ⟨rfl, rfl⟩
    · have hT : T = truT := h5
      subst hT
      exact ⟨rfl, rfl⟩
  · have hk0 : ¬ (knd T = 0 ∨ 10 ≤ knd T) := fun q => w (h6.symm.trans (kof_12.mpr q))
    rw [if_neg (nl_ne k 12 12 rfl w (by omega) (by omega)), if_neg (nl_ne k 12 12 rfl w (by omega) (by omega)), if_neg (by omega), if_neg (by omega)]
    exact ⟨rfl, rfl⟩
theorem nb8 (z : Option (Int32 × MdH)) : (z.bind fun q => some (q.1, (q.2.1, q.2.2.1, q.2.2.2.1, q.2.2.2.2.1, q.2.2.2.2.2.1, q.2.2.2.2.2.2.1, q.2.2.2.2.2.2.2.1, q.2.2.2.2.2.2.2.2.1, q.2.2.2.2.2.2.2.2.2))) = z := by
  cases z <;> rfl
theorem MF.of {mH : MdH} {Rq : List FT} {o o' : Option (Int32 × MdH)} (h : MF mH D cnt Rq T o) (e : o' = o) : MF mH D cnt Rq T o' := e ▸ h
theorem m_truth {v : Int32} (hv : v = 0 ∨ v = 1) (hN : 20000 < N) (h : CM mH D cnt) (hk : OKR D cnt [if v = 0 then flsT else truT]) : MF mH D cnt [if v = 0 then flsT else truT] (if v = 0 then flsT else truT) (f8_truth N v mH) := by
  have n0 := m_num (N := N) (k := 12) (a := 0) (b := 0) (c := 0) hN h ⟨.inl rfl, rfl, rfl⟩
  have n1 := m_num (N := N) (k := 12) (a := 1) (b := 0) (c := 0) hN h ⟨.inr rfl, rfl, rfl⟩
  rcases hv with rfl | rfl
  · have e : f8_truth N 0 mH = f8_number N 12 0 0 0 mH := by
      obtain ⟨ht, hK, hA, hB, hC, hNx, h1', hT, hR⟩ := mH
      rw [f8_truth, if_pos rfl]
      exact nb8 _
    rw [e]
    exact n0 hk
  · have e : f8_truth N 1 mH = f8_number N 12 1 0 0 mH := by
      obtain ⟨ht, hK, hA, hB, hC, hNx, h1', hT, hR⟩ := mH
      rw [f8_truth, if_neg (by decide)]
      exact nb8 _
    rw [e]
    exact n1 hk
theorem m_cmp {o : Nat} (hN : 20000 < N) (hoo : o ∈ cmS) (h : CM mH D cnt) (hx : TE D cnt x A) (hy : TE D cnt y B) (hk : OKR D cnt [fCmp (nI o) A B]) : MF mH D cnt [fCmp (nI o) A B] (fCmp (nI o) A B) (f8_foldComparison N (nI o) x y mH) := by
  have hc := h.2.1
  have et : tM D 4 (nI o) x y = opT (nI o) A B := by
    show opT (nI o) (denM D x) (denM D y) = _
    rw [hx.den (by omega), hy.den (by omega)]
  have nm := m_num (N := N) (k := 4) (a := nI o) (b := x) (c := y) hN h ⟨⟨o, hoo, rfl⟩, hx.id, hy.id⟩
  rw [et] at nm
  have tr := fun v hv => m_truth (N := N) (v := v) hv hN h
  obtain ⟨t, k, a, b, c, h1, rfl, ⟨r1, r2, r3, r4⟩, h4, h5, h6⟩ := m_row h hx
  obtain ⟨t', k', a', b', c', h1', rfl, ⟨r1', r2', r3', r4'⟩, h4', h5', h6'⟩ := m_row h hy
  have hk12 := h4.k12
  have hk12' := h4'.k12
  have hg := z_gd (n := t) (N := 4200) (by omega) (by omega)
  have hg' := z_gd (n := t') (N := 4200) (by omega) (by omega)
  unfold fCmp at hk ⊢
  obtain ⟨ht, hK, hA, hB, hC, hNx, h1x, hT, hR⟩ := mH
  dsimp only at r1 r2 r1' r2'
  rw [f8_foldComparison, if_neg hg, if_neg hg', if_neg hg, if_neg hg', z_nat (n := t) (by omega), z_nat (n := t') (by omega), r1, r2, r1', r2']
  by_cases wA : knd A = 1
  · have hk0 : k = 0 := h6.symm.trans (kof_0.mpr wA)
    subst hk0
    have hnA : num A = a := by rw [h5]; exact num_nde
    rw [if_pos (show nI 0 = (0 : Int32) from rfl)]
    by_cases wB : knd B = 1
    · have hk0 : k' = 0 := h6'.symm.trans (kof_0.mpr wB)
      subst hk0
      have hnB : num B = a' := by rw [h5']; exact num_nde
      rw [if_pos (show nI 0 = (0 : Int32) from rfl)]
      obtain ⟨v, hv, q1, q2⟩ := z_cmr (nI o) a a'
      rw [hnA, hnB, if_pos ⟨wA, wB⟩, q1] at hk
      rw [hnA, hnB, if_pos ⟨wA, wB⟩, q1, q2, ob_s]
      have eq : (if (some v = some (0 : Int32)) then flsT else truT) = if v = 0 then flsT else truT := by
        rcases hv with rfl | rfl <;> rfl
      rw [eq] at hk ⊢
      have := tr v hv hk
      exact MF.of (this) (nb8 _)
    · have hk0 : k' ≠ 0 := fun q => wB (kof_0.mp (h6'.trans q))
      rw [if_neg (fun q => wB q.2)] at hk ⊢
      rw [if_neg (nl_ne k' 0 0 rfl hk0 (by omega) (by omega))]
      exact MF.of (nm hk) (nb8 _)
  · have hk0 : k ≠ 0 := fun q => wA (kof_0.mp (h6.trans q))
    rw [if_neg (fun q => wA q.1)] at hk ⊢
    rw [if_neg (nl_ne k 0 0 rfl hk0 (by omega) (by omega))]
    exact MF.of (nm hk) (nb8 _)
theorem m_both {o : Nat} (hN : 20000 < N) (hoo : o ∈ lgS) (h : CM mH D cnt) (hx : TE D cnt x A) (hy : TE D cnt y B) (hk : OKR D cnt [fBth (nI o) A B]) : MF mH D cnt [fBth (nI o) A B] (fBth (nI o) A B) (f8_foldBoth N (nI o) x y mH) := by
  have hc := h.2.1
  have et : tM D 5 (nI o) x y = opT (nI o) A B := by
    show opT (nI o) (denM D x) (denM D y) = _
    rw [hx.den (by omega), hy.den (by omega)]
  have nm := m_num (N := N) (k := 5) (a := nI o) (b := x) (c := y) hN h ⟨⟨o, hoo, rfl⟩, hx.id, hy.id⟩
  rw [et] at nm
  obtain ⟨x1, x0⟩ := m_isT h hx
  obtain ⟨y1, y0⟩ := m_isT h hy
  have ox := MF.old h hx
  have oy := MF.old h hy
  unfold fBth at hk ⊢
  obtain ⟨ht, hK, hA, hB, hC, hNx, h1x, hT, hR⟩ := mH
  simp only [lgS, List.mem_cons, List.not_mem_nil, or_false] at hoo
  rcases hoo with rfl | rfl
  · rw [if_pos (show nI 38 = (38 : Int32) from rfl)] at hk
    rw [if_pos (show nI 38 = (38 : Int32) from rfl), f8_foldBoth, if_pos (show nI 38 = (38 : Int32) from rfl), f8_foldBoth_L11, x1, ob_s, ite10, show (1 : Int32) - 1 = 0 from rfl, x0, ob_s, ite10, y1, ob_s, ite10]
    by_cases w1 : knd A = 10
    · rw [if_pos w1, if_pos w1]; exact oy
    · rw [if_neg w1] at hk
      rw [if_neg w1, if_neg w1]
      by_cases w2 : knd A = 11
      · rw [if_pos w2, if_pos (.inl w2)]; exact ox
      · rw [if_neg w2]
        by_cases w3 : knd B = 10
        · rw [if_pos w3, if_pos (.inr w3)]; exact ox
        · rw [if_neg (fun q => q.elim w2 w3)] at hk
          rw [if_neg w3, if_neg (fun q => q.elim w2 w3)]
          exact MF.of (nm hk) (nb8 _)
  · rw [if_neg (show ¬ nI 124 = (38 : Int32) by decide)] at hk
    rw [if_neg (show ¬ nI 124 = (38 : Int32) by decide), f8_foldBoth, if_neg (show ¬ nI 124 = (38 : Int32) by decide), f8_foldBoth_L11, x0, ob_s, ite10, show (1 : Int32) - 0 = 1 from rfl, x1, ob_s, ite10, y0, ob_s, ite10]
    by_cases w1 : knd A = 11
    · rw [if_pos w1, if_pos w1]; exact oy
    · rw [if_neg w1] at hk
      rw [if_neg w1, if_neg w1]
      by_cases w2 : knd A = 10
      · rw [if_pos w2, if_pos (.inl w2)]; exact ox
      · rw [if_neg w2]
        by_cases w3 : knd B = 11
        · rw [if_pos w3, if_pos (.inr w3)]; exact ox
        · rw [if_neg (fun q => q.elim w2 w3)] at hk
          rw [if_neg w3, if_neg (fun q => q.elim w2 w3)]
          exact MF.of (nm hk) (nb8 _)
end
