/-! FOLDING in the reference: sums -/
section
variable {N : Nat} {mH : MdH} {D : Nat → FT} {cnt : Nat} {x y : Int32} {A B T : FT}
theorem TE.id {D : Nat → FT} {cnt : Nat} {x : Int32} {T : FT} (h : TE D cnt x T) : IDm cnt x := by
  obtain ⟨t, h1, h2, _⟩ := h
  exact .inr ⟨t, h1, h2⟩
theorem TE.den {D : Nat → FT} {cnt : Nat} {x : Int32} {T : FT} (hc : cnt ≤ 20000) (h : TE D cnt x T) : denM D x = T := (h.tm hc).2
theorem ite10 {α : Type} {p : Prop} [Decidable p] {X Y : α} : (if (if p then (1 : Int32) else 0) = 0 then X else Y) = if p then Y else X := by
  by_cases h : p
  · rw [if_pos h, if_pos h, if_neg (by decide)]
  · rw [if_neg h, if_neg h, if_pos rfl]
theorem e_114 (h : CM mH D cnt) (hx : TE D cnt x A) (o : Int32) : f8_foldSum_L114 N o x y mH = if o = 42 ∧ knd A = 1 ∧ num A = 1 then some (y, mH) else f8_number N 3 o x y mH := by
  have i1 := m_isC h hx 1
  obtain ⟨ht, hK, hA, hB, hC, hNx, h1, hT, hR⟩ := mH
  rw [f8_foldSum_L114]
  have hn : ∀ (z : Option (Int32 × MdH)), (z.bind fun q => some (q.1, (q.2.1, q.2.2.1, q.2.2.2.1, q.2.2.2.2.1, q.2.2.2.2.2.1, q.2.2.2.2.2.2.1, q.2.2.2.2.2.2.2.1, q.2.2.2.2.2.2.2.2.1, q.2.2.2.2.2.2.2.2.2))) = z := by
    intro z
    cases z <;> rfl
  by_cases w : o = 42
  · rw [if_pos w, i1, ob_s, ite10]
    by_cases w2 : knd A = 1 ∧ num A = 1
    · rw [if_pos w2, if_pos ⟨w, w2⟩]
    · rw [if_neg w2, if_neg (fun q => w2 q.2)]
      exact hn _
  · rw [if_neg w, if_neg (fun q => w q.1)]
    exact hn _
theorem e_99 (h : CM mH D cnt) (hx : TE D cnt x A) (o : Int32) : f8_foldSum_L99 N o x y mH = if o = 43 ∧ knd A = 1 ∧ num A = 0 then some (y, mH) else f8_foldSum_L114 N o x y mH := by
  have i1 := m_isC h hx 0
  obtain ⟨ht, hK, hA, hB, hC, hNx, h1, hT, hR⟩ := mH
  rw [f8_foldSum_L99]
  by_cases w : o = 43
  · rw [if_pos w, i1, ob_s, ite10]
    by_cases w2 : knd A = 1 ∧ num A = 0
    · rw [if_pos w2, if_pos ⟨w, w2⟩]
    · rw [if_neg w2, if_neg (fun q => w2 q.2)]
  · rw [if_neg w, if_neg (fun q => w q.1)]
theorem e_76 (h : CM mH D cnt) (hy : TE D cnt y B) (o : Int32) : f8_foldSum_L76 N o x y mH = if (o = 42 ∨ o = 47) ∧ knd B = 1 ∧ num B = 1 then some (x, mH) else f8_foldSum_L99 N o x y mH := by
  have i1 := m_isC h hy 1
  obtain ⟨ht, hK, hA, hB, hC, hNx, h1, hT, hR⟩ := mH
  have e88 : f8_foldSum_L88 N o x y (ht, hK, hA, hB, hC, hNx, h1, hT, hR) = if knd B = 1 ∧ num B = 1 then some (x, (ht, hK, hA, hB, hC, hNx, h1, hT, hR)) else f8_foldSum_L99 N o x y (ht, hK, hA, hB, hC, hNx, h1, hT, hR) := by
    rw [f8_foldSum_L88, i1, ob_s, ite10]
  rw [f8_foldSum_L76, e88]
  by_cases w : o = 42
  · rw [if_pos w]
    by_cases w2 : knd B = 1 ∧ num B = 1
    · rw [if_pos w2, if_pos ⟨.inl w, w2⟩]
    · rw [if_neg w2, if_neg (fun q => w2 q.2)]
  · rw [if_neg w]
    by_cases w1 : o = 47
    · rw [if_pos w1]
      by_cases w2 : knd B = 1 ∧ num B = 1
      · rw [if_pos w2, if_pos ⟨.inr w1, w2⟩]
      · rw [if_neg w2, if_neg (fun q => w2 q.2)]
    · rw [if_neg w1, if_neg (fun q => q.1.elim w w1)]
theorem e_55 (h : CM mH D cnt) (hy : TE D cnt y B) (o : Int32) : f8_foldSum_L55 N o x y mH = if (o = 43 ∨ o = 45) ∧ knd B = 1 ∧ num B = 0 then some (x, mH) else f8_foldSum_L76 N o x y mH := by
  have i1 := m_isC h hy 0
  obtain ⟨ht, hK, hA, hB, hC, hNx, h1, hT, hR⟩ := mH
  have e67 : f8_foldSum_L67 N o x y (ht, hK, hA, hB, hC, hNx, h1, hT, hR) = if knd B = 1 ∧ num B = 0 then some (x, (ht, hK, hA, hB, hC, hNx, h1, hT, hR)) else f8_foldSum_L76 N o x y (ht, hK, hA, hB, hC, hNx, h1, hT, hR) := by
    rw [f8_foldSum_L67, i1, ob_s, ite10]
  rw [f8_foldSum_L55, e67]
  by_cases w : o = 43
  · rw [if_pos w]
    by_cases w2 : knd B = 1 ∧ num B = 0
    · rw [if_pos w2, if_pos ⟨.inl w, w2⟩]
    · rw [if_neg w2, if_neg (fun q => w2 q.2)]
  · rw [if_neg w]
    by_cases w1 : o = 45
    · rw [if_pos w1]
      by_cases w2 : knd B = 1 ∧ num B = 0
      · rw [if_pos w2, if_pos ⟨.inr w1, w2⟩]
      · rw [if_neg w2, if_neg (fun q => w2 q.2)]
    · rw [if_neg w1, if_neg (fun q => q.1.elim w w1)]
/-- what a sum comes to that is not worked out -/
theorem m_sum2 {o : Nat} (hN : 20000 < N) (hoo : o ∈ arS) (h : CM mH D cnt) (hx : TE D cnt x A) (hy : TE D cnt y B) (hk : OKR D cnt [fSum2 (nI o) A B]) : MF mH D cnt [fSum2 (nI o) A B] (fSum2 (nI o) A B) (f8_foldSum_L55 N (nI o) x y mH) := by
  have hc := h.2.1
  have ex : f8_foldSum_L55 N (nI o) x y mH = if (nI o = 43 ∨ nI o = 45) ∧ knd B = 1 ∧ num B = 0 ∨ (nI o = 42 ∨ nI o = 47) ∧ knd B = 1 ∧ num B = 1 then some (x, mH) else if nI o = 43 ∧ knd A = 1 ∧ num A = 0 ∨ nI o = 42 ∧ knd A = 1 ∧ num A = 1 then some (y, mH) else f8_number N 3 (nI o) x y mH := by
    rw [e_55 h hy, e_76 h hy, e_99 h hx, e_114 h hx]
    by_cases w1 : (nI o = 43 ∨ nI o = 45) ∧ knd B = 1 ∧ num B = 0
    · rw [if_pos w1, if_pos (Or.inl w1)]
    · rw [if_neg w1]
      by_cases w2 : (nI o = 42 ∨ nI o = 47) ∧ knd B = 1 ∧ num B = 1
      · rw [if_pos w2, if_pos (Or.inr w2)]
      · rw [if_neg w2, if_neg (show ¬ ((nI o = 43 ∨ nI o = 45) ∧ knd B = 1 ∧ num B = 0 ∨ (nI o = 42 ∨ nI o = 47) ∧ knd B = 1 ∧ num B = 1) from fun q => q.elim w1 w2)]
        by_cases w3 : nI o = 43 ∧ knd A = 1 ∧ num A = 0
        · rw [if_pos w3, if_pos (Or.inl w3)]
        · rw [if_neg w3]
          by_cases w4 : nI o = 42 ∧ knd A = 1 ∧ num A = 1
          · rw [if_pos w4, if_pos (Or.inr w4)]
          · rw [if_neg w4, if_neg (fun q => q.elim w3 w4)]
  rw [ex]
  unfold fSum2 at hk ⊢
  by_cases w1 : (nI o = 43 ∨ nI o = 45) ∧ knd B = 1 ∧ num B = 0 ∨ (nI o = 42 ∨ nI o = 47) ∧ knd B = 1 ∧ num B = 1
  · rw [if_pos w1, if_pos w1]
    exact MF.old h hx
  · rw [if_neg w1] at hk
    rw [if_neg w1, if_neg w1]
    by_cases w2 : nI o = 43 ∧ knd A = 1 ∧ num A = 0 ∨ nI o = 42 ∧ knd A = 1 ∧ num A = 1
    · rw [if_pos w2, if_pos w2]
      exact MF.old h hy
    · rw [if_neg w2] at hk
      rw [if_neg w2, if_neg w2]
      have et : tM D 3 (nI o) x y = opT (nI o) A B := by
        show opT (nI o) (denM D x) (denM D y) = _
        rw [hx.den (by omega), hy.den (by omega)]
      have := m_num (k := 3) (a := nI o) (b := x) (c := y) hN h ⟨⟨o, hoo, rfl⟩, hx.id, hy.id⟩ (by rw [et]; exact hk)
      rw [et] at this
      exact this
theorem m_sum {o : Nat} (hN : 20000 < N) (hoo : o ∈ arS) (h : CM mH D cnt) (hx : TE D cnt x A) (hy : TE D cnt y B) (hk : OKR D cnt [fSum (nI o) A B]) : MF mH D cnt [fSum (nI o) A B] (fSum (nI o) A B) (f8_foldSum N (nI o) x y mH) := by
  have hc := h.2.1
  have s2 := m_sum2 (N := N) hN hoo h hx hy
  have nm := fun v => m_num (N := N) (k := 0) (a := v) (b := 0) (c := 0) hN h ⟨rfl, rfl⟩
  obtain ⟨t, k, a, b, c, h1, rfl, ⟨r1, r2, r3, r4⟩, h4, h5, h6⟩ := m_row h hx
  obtain ⟨t', k', a', b', c', h1', rfl, ⟨r1', r2', r3', r4'⟩, h4', h5', h6'⟩ := m_row h hy
  have hk12 := h4.k12
  have hk12' := h4'.k12
  have hg := z_gd (n := t) (N := 4200) (by omega) (by omega)
  have hg' := z_gd (n := t') (N := 4200) (by omega) (by omega)
  unfold fSum at hk ⊢
  obtain ⟨ht, hK, hA, hB, hC, hNx, h1x, hT, hR⟩ := mH
  dsimp only at r1 r2 r1' r2'
  rw [f8_foldSum, if_neg hg, if_neg hg', if_neg hg', if_neg hg, if_neg hg', z_nat (n := t) (by omega), z_nat (n := t') (by omega), r1, r2, r1', r2']
  by_cases wA : knd A = 1
  · have hk0 : k = 0 := h6.symm.trans (kof_0.mpr wA)
    subst hk0
    have hnA : num A = a := by rw [h5]; exact num_nde
    rw [if_pos (show nI 0 = (0 : Int32) from rfl)]
    by_cases wB : knd B = 1
    · have hk0 : k' = 0 := h6'.symm.trans (kof_0.mpr wB)
      subst hk0
      have hnB : num B = a' := by rw [h5']; exact num_nde
      rw [if_pos (show nI 0 = (0 : Int32) from rfl)]
      rw [hnA, hnB] at hk ⊢
      rcases z_trp hoo a a' with ⟨q1, q2⟩ | ⟨q1, q2, v, q3, q4⟩
      · rw [if_neg (fun q => absurd (q1.symm.trans q.2.2) (by decide))] at hk ⊢
        rw [q2, ob_s, if_neg (by decide)]
        exact s2 hk
      · rw [if_pos ⟨wA, wB, q1⟩, q3] at hk ⊢
        rw [q2, ob_s, if_pos rfl, q4, ob_s]
        obtain ⟨x', mH', D', cnt', e1, e2⟩ := nm v hk
        refine ⟨x', mH', D', cnt', ?_, e2⟩
        have e1' : f8_number N 0 v 0 0 (ht, hK, hA, hB, hC, hNx, h1x, hT, hR) = some (x', mH') := e1
        rw [e1', ob_s]
    · have hk0 : k' ≠ 0 := fun q => wB (kof_0.mp (h6'.trans q))
      rw [if_neg (fun q => wB q.2.1)] at hk ⊢
      rw [if_neg (nl_ne k' 0 0 rfl hk0 (by omega) (by omega))]
      exact s2 hk
  · have hk0 : k ≠ 0 := fun q => wA (kof_0.mp (h6.trans q))
    rw [if_neg (fun q => wA q.1)] at hk ⊢
    rw [if_neg (nl_ne k 0 0 rfl hk0 (by omega) (by omega))]
    exact s2 hk
end
