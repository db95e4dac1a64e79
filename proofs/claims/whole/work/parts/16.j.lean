/-! FOLDING in the reference: a node -/
section
variable {N : Nat} {mQ : MdQ} {mN : MdN} {mH : MdH} {D : Nat → FT} {cnt : Nat} {v x y z w1 w2 : Int32} {A B C E X T : FT} {Rq : List FT}
theorem m_n0 (hN : 20000 < N) (h : CM mH D cnt) (hg : ¬ (v < 0 ∨ 512 ≤ v.toNatClampNeg)) (h1 : mN.2.1 v.toNatClampNeg = 0) (hk : OKR D cnt [cstT w2]) : MF mH D cnt [cstT w2] (cstT w2) (f8_foldNode N v w1 w2 mQ mN mH) := by
  have nm := m_num (N := N) (k := 0) (a := w2) (b := 0) (c := 0) hN h ⟨rfl, rfl⟩ hk
  obtain ⟨qc, qb, qp, qr, qC⟩ := mQ
  obtain ⟨nn, nk, na, nb, nc, ns⟩ := mN
  obtain ⟨ht, hK, hA, hB, hC, hNx, h1x, hT, hR⟩ := mH
  dsimp only at h1
  rw [f8_foldNode, if_neg hg, h1, if_pos rfl]
  exact MF.of nm (nb8 _)
theorem m_n1 {k : Nat} (hN : 20000 < N) (h : CM mH D cnt) (hg : ¬ (v < 0 ∨ 512 ≤ v.toNatClampNeg)) (h1 : mN.2.1 v.toNatClampNeg = 1) (h2 : mN.2.2.1 v.toNatClampNeg = nI (k + 114)) (h6 : ¬ k < 6) (h8 : k < 8) (hk : OKR D cnt [varT (nI k)]) : MF mH D cnt [varT (nI k)] (varT (nI k)) (f8_foldNode N v w1 w2 mQ mN mH) := by
  have hk67 : k = 6 ∨ k = 7 := by omega
  have hv : VM cnt 1 (nI (k + 114)) 0 0 := ⟨by rcases hk67 with rfl | rfl <;> decide, rfl, rfl⟩
  have et : tM D 1 (nI (k + 114)) 0 0 = varT (nI k) := by
    show varT (nI (k + 114) - 114) = _
    rcases hk67 with rfl | rfl <;> rfl
  have nm := m_num (N := N) (k := 1) (a := nI (k + 114)) (b := 0) (c := 0) hN h hv
  rw [et] at nm
  have nm := nm hk
  obtain ⟨qc, qb, qp, qr, qC⟩ := mQ
  obtain ⟨nn, nk, na, nb, nc, ns⟩ := mN
  obtain ⟨ht, hK, hA, hB, hC, hNx, h1x, hT, hR⟩ := mH
  dsimp only at h1 h2
  rw [f8_foldNode, if_neg hg, h1, if_neg (show ¬ (1 : Int32) = 0 by decide), if_pos rfl, if_neg hg, h2]
  exact MF.of nm (nb8 _)
theorem m_n2 {k : Nat} (hN : 20000 < N) (h : CM mH D cnt) (hg : ¬ (v < 0 ∨ 512 ≤ v.toNatClampNeg)) (h1 : mN.2.1 v.toNatClampNeg = 2) (h2 : mN.2.2.1 v.toNatClampNeg = nI k) (h6 : k < 6) (hk : OKR D cnt [varT (nI k)]) : MF mH D cnt [varT (nI k)] (varT (nI k)) (f8_foldNode N v w1 w2 mQ mN mH) := by
  have nm := m_num (N := N) (k := 2) (a := nI k) (b := 0) (c := 0) hN h ⟨⟨k, h6, rfl⟩, rfl, rfl⟩ hk
  obtain ⟨qc, qb, qp, qr, qC⟩ := mQ
  obtain ⟨nn, nk, na, nb, nc, ns⟩ := mN
  obtain ⟨ht, hK, hA, hB, hC, hNx, h1x, hT, hR⟩ := mH
  dsimp only at h1 h2
  rw [f8_foldNode, if_neg hg, h1, if_neg (show ¬ (2 : Int32) = 0 by decide), if_neg (show ¬ (2 : Int32) = 1 by decide), if_pos rfl, if_neg hg, h2]
  exact MF.of nm (nb8 _)
theorem m_n3 {o : Nat} (hN : 20000 < N) (hoo : o ∈ arS) (h : CM mH D cnt) (hg : ¬ (v < 0 ∨ 512 ≤ v.toNatClampNeg)) (h1 : mN.2.1 v.toNatClampNeg = 3) (h2 : f8_of (mN.2.2.2.1 v.toNatClampNeg) mQ mH = some x) (h3 : f8_of (mN.2.2.2.2.1 v.toNatClampNeg) mQ mH = some y) (hx : TE D cnt x A) (hy : TE D cnt y B) (hk : OKR D cnt [fSum (nI o) A B]) : MF mH D cnt [fSum (nI o) A B] (fSum (nI o) A B) (f8_foldNode N v w1 (nI o) mQ mN mH) := by
  have nm := m_sum hN hoo h hx hy hk
  obtain ⟨qc, qb, qp, qr, qC⟩ := mQ
  obtain ⟨nn, nk, na, nb, nc, ns⟩ := mN
  obtain ⟨ht, hK, hA, hB, hC, hNx, h1x, hT, hR⟩ := mH
  dsimp only at h1 h2 h3
  rw [f8_foldNode, if_neg hg, h1, if_neg (show ¬ (3 : Int32) = 0 by decide), if_neg (show ¬ (3 : Int32) = 1 by decide), if_neg (show ¬ (3 : Int32) = 2 by decide), if_pos rfl, if_neg hg, h2, ob_s, if_neg hg, h3, ob_s]
  exact MF.of nm (nb8 _)
theorem m_n4 {o : Nat} (hN : 20000 < N) (hoo : o ∈ cmS) (h : CM mH D cnt) (hg : ¬ (v < 0 ∨ 512 ≤ v.toNatClampNeg)) (h1 : mN.2.1 v.toNatClampNeg = 4) (h2 : f8_of (mN.2.2.2.1 v.toNatClampNeg) mQ mH = some x) (h3 : f8_of (mN.2.2.2.2.1 v.toNatClampNeg) mQ mH = some y) (hx : TE D cnt x A) (hy : TE D cnt y B) (hk : OKR D cnt [fCmp (nI o) A B]) : MF mH D cnt [fCmp (nI o) A B] (fCmp (nI o) A B) (f8_foldNode N v w1 (nI o) mQ mN mH) := by
  have nm := m_cmp hN hoo h hx hy hk
  obtain ⟨qc, qb, qp, qr, qC⟩ := mQ
  obtain ⟨nn, nk, na, nb, nc, ns⟩ := mN
  obtain ⟨ht, hK, hA, hB, hC, hNx, h1x, hT, hR⟩ := mH
  dsimp only at h1 h2 h3
  rw [f8_foldNode, if_neg hg, h1, if_neg (show ¬ (4 : Int32) = 0 by decide), if_neg (show ¬ (4 : Int32) = 1 by decide), if_neg (show ¬ (4 : Int32) = 2 by decide), if_neg (show ¬ (4 : Int32) = 3 by decide), if_pos rfl, if_neg hg, h2, ob_s, if_neg hg, h3, ob_s]
  exact MF.of nm (nb8 _)
theorem m_n5 {o : Nat} (hN : 20000 < N) (hoo : o ∈ lgS) (h : CM mH D cnt) (hg : ¬ (v < 0 ∨ 512 ≤ v.toNatClampNeg)) (h1 : mN.2.1 v.toNatClampNeg = 5) (h2 : f8_of (mN.2.2.2.1 v.toNatClampNeg) mQ mH = some x) (h3 : f8_of (mN.2.2.2.2.1 v.toNatClampNeg) mQ mH = some y) (hx : TE D cnt x A) (hy : TE D cnt y B) (hk : OKR D cnt [fBth (nI o) A B]) : MF mH D cnt [fBth (nI o) A B] (fBth (nI o) A B) (f8_foldNode N v w1 (nI o) mQ mN mH) := by
  have nm := m_both hN hoo h hx hy hk
  obtain ⟨qc, qb, qp, qr, qC⟩ := mQ
  obtain ⟨nn, nk, na, nb, nc, ns⟩ := mN
  obtain ⟨ht, hK, hA, hB, hC, hNx, h1x, hT, hR⟩ := mH
  dsimp only at h1 h2 h3
  rw [f8_foldNode, if_neg hg, h1, if_neg (show ¬ (5 : Int32) = 0 by decide), if_neg (show ¬ (5 : Int32) = 1 by decide), if_neg (show ¬ (5 : Int32) = 2 by decide), if_neg (show ¬ (5 : Int32) = 3 by decide), if_neg (show ¬ (5 : Int32) = 4 by decide), if_pos rfl, if_neg hg, h2, ob_s, if_neg hg, h3, ob_s]
  exact MF.of nm (nb8 _)
theorem m_n11 {L M : List FT} (hN : 20000 < N) (h : CM mH D cnt) (hg : ¬ (v < 0 ∨ 512 ≤ v.toNatClampNeg)) (h1 : mN.2.1 v.toNatClampNeg = 11) (h2 : f8_of (mN.2.2.1 v.toNatClampNeg) mQ mH = some x) (h3 : f8_of (mN.2.2.2.1 v.toNatClampNeg) mQ mH = some y) (hx : TMm D cnt x (lstT L)) (hy : TMm D cnt y (lstT M)) (hL : L.length ≤ 60) (hn : ∀ A, A ∈ L → A ≠ nilT) (hk : OKR D cnt (jrq L M)) : MF mH D cnt (jrq L M) (lstT (jn L M)) (f8_foldNode N v w1 w2 mQ mN mH) := by
  have nm := m_join hN h hx hy hL hn hk
  obtain ⟨qc, qb, qp, qr, qC⟩ := mQ
  obtain ⟨nn, nk, na, nb, nc, ns⟩ := mN
  obtain ⟨ht, hK, hA, hB, hC, hNx, h1x, hT, hR⟩ := mH
  dsimp only at h1 h2 h3
  rw [f8_foldNode, if_neg hg, h1, if_neg (show ¬ (11 : Int32) = 0 by decide), if_neg (show ¬ (11 : Int32) = 1 by decide), if_neg (show ¬ (11 : Int32) = 2 by decide), if_neg (show ¬ (11 : Int32) = 3 by decide), if_neg (show ¬ (11 : Int32) = 4 by decide), if_neg (show ¬ (11 : Int32) = 5 by decide), if_pos rfl, if_neg hg, h2, ob_s, if_neg hg, h3, ob_s]
  exact MF.of nm (nb8 _)
theorem m_nst {k : Nat} (hg : ¬ (v < 0 ∨ 512 ≤ v.toNatClampNeg)) (h1 : mN.2.1 v.toNatClampNeg = nI k) (hk1 : 6 ≤ k) (hk2 : k ≤ 10) : f8_foldNode N v w1 w2 mQ mN mH = if w1 = 0 then f8_foldStatement N v mQ mN mH else some (-1, mH) := by
  obtain ⟨qc, qb, qp, qr, qC⟩ := mQ
  obtain ⟨nn, nk, na, nb, nc, ns⟩ := mN
  obtain ⟨ht, hK, hA, hB, hC, hNx, h1x, hT, hR⟩ := mH
  dsimp only at h1
  rw [f8_foldNode, if_neg hg, h1, if_neg (nl_ne k 0 0 rfl (by omega) (by omega) (by omega)), if_neg (nl_ne k 1 1 rfl (by omega) (by omega) (by omega)), if_neg (nl_ne k 2 2 rfl (by omega) (by omega) (by omega)), if_neg (nl_ne k 3 3 rfl (by omega) (by omega) (by omega)), if_neg (nl_ne k 4 4 rfl (by omega) (by omega) (by omega)), if_neg (nl_ne k 5 5 rfl (by omega) (by omega) (by omega)), if_neg (nl_ne k 11 11 rfl (by omega) (by omega) (by omega))]
  by_cases w : w1 = 0
  · rw [if_pos w, if_pos w]
    exact nb8 _
  · rw [if_neg w, if_neg w]
end
