/-! FOLDING in the reference: while, check, return -/
section
variable {N : Nat} {mQ : MdQ} {mN : MdN} {mH : MdH} {D : Nat → FT} {cnt : Nat} {v x y z : Int32} {A B C E X T : FT}
theorem m_s8 {La : List FT} (hN : 20000 < N) (h : CM mH D cnt) (hg : ¬ (v < 0 ∨ 512 ≤ v.toNatClampNeg)) (h1 : mN.2.1 v.toNatClampNeg = 8) (h2 : f8_of (mN.2.2.1 v.toNatClampNeg) mQ mH = some x) (h3 : f8_of (mN.2.2.2.1 v.toNatClampNeg) mQ mH = some y)
    (hx : TE D cnt x C) (hy : TMm D cnt y (lstT La)) (hk : OKR D cnt (if knd C = 11 then [] else [whlT C (lstT La), lstC (whlT C (lstT La)) nilT])) :
    MF mH D cnt (if knd C = 11 then [] else [whlT C (lstT La), lstC (whlT C (lstT La)) nilT]) (lstT (if knd C = 11 then [] else [whlT C (lstT La)])) (f8_foldStatement N v mQ mN mH) := by
  have hc := h.2.1
  have et : tM D 8 x y 0 = whlT C (lstT La) := by
    show whlT (denM D x) (denM D y) = _
    rw [hx.den (by omega), hy.2]
  have pr := m_pair (N := N) (k := 8) (a := x) (b := y) (c := 0) hN h ⟨hx.id, hy.1, rfl⟩ et
  have no := MF.none h (TMm.nil (D := D) (cnt := cnt))
  have it := (m_isT h hx).2
  obtain ⟨qc, qb, qp, qr, qC⟩ := mQ
  obtain ⟨nn, nk, na, nb, nc, ns⟩ := mN
  obtain ⟨ht, hK, hA, hB, hC, hNx, h1x, hT, hR⟩ := mH
  dsimp only at h1 h2 h3
  rw [f8_foldStatement, if_neg hg, h1, if_neg (show ¬ (8 : Int32) = 6 by decide), if_neg hg, h2, ob_s, f8_foldStatement_L25, if_neg hg, h3, ob_s, if_neg hg, h1, if_neg (show ¬ (8 : Int32) = 6 by decide), if_neg (show ¬ (8 : Int32) = 7 by decide), if_pos (show (8 : Int32) = 8 from rfl), it, ob_s, ite10]
  by_cases w : knd C = 11
  · rw [if_pos w, if_pos w, if_pos w]
    exact no
  · rw [if_neg w] at hk
    rw [if_neg w, if_neg w, if_neg w]
    exact pr hk
theorem m_s9 (hN : 20000 < N) (h : CM mH D cnt) (hg : ¬ (v < 0 ∨ 512 ≤ v.toNatClampNeg)) (h1 : mN.2.1 v.toNatClampNeg = 9) (h2 : f8_of (mN.2.2.1 v.toNatClampNeg) mQ mH = some x) (h3 : f8_of (mN.2.2.2.1 v.toNatClampNeg) mQ mH = some y)
    (hx : TE D cnt x C) (hk : OKR D cnt (if knd C = 10 then [] else [chkT C, lstC (chkT C) nilT])) :
    MF mH D cnt (if knd C = 10 then [] else [chkT C, lstC (chkT C) nilT]) (lstT (if knd C = 10 then [] else [chkT C])) (f8_foldStatement N v mQ mN mH) := by
  have hc := h.2.1
  have et : tM D 9 x 0 0 = chkT C := by
    show chkT (denM D x) = _
    rw [hx.den (by omega)]
  have pr := m_pair (N := N) (k := 9) (a := x) (b := 0) (c := 0) hN h ⟨hx.id, rfl, rfl⟩ et
  have no := MF.none h (TMm.nil (D := D) (cnt := cnt))
  have it := (m_isT h hx).1
  obtain ⟨qc, qb, qp, qr, qC⟩ := mQ
  obtain ⟨nn, nk, na, nb, nc, ns⟩ := mN
  obtain ⟨ht, hK, hA, hB, hC, hNx, h1x, hT, hR⟩ := mH
  dsimp only at h1 h2 h3
  rw [f8_foldStatement, if_neg hg, h1, if_neg (show ¬ (9 : Int32) = 6 by decide), if_neg hg, h2, ob_s, f8_foldStatement_L25, if_neg hg, h3, ob_s, if_neg hg, h1, if_neg (show ¬ (9 : Int32) = 6 by decide), if_neg (show ¬ (9 : Int32) = 7 by decide), if_neg (show ¬ (9 : Int32) = 8 by decide), if_pos (show (9 : Int32) = 9 from rfl), it, ob_s, ite10]
  by_cases w : knd C = 10
  · rw [if_pos w, if_pos w, if_pos w]
    exact no
  · rw [if_neg w] at hk
    rw [if_neg w, if_neg w, if_neg w]
    exact pr hk
theorem m_s10 (hN : 20000 < N) (h : CM mH D cnt) (hg : ¬ (v < 0 ∨ 512 ≤ v.toNatClampNeg)) (h1 : mN.2.1 v.toNatClampNeg = 10) (h2 : f8_of (mN.2.2.1 v.toNatClampNeg) mQ mH = some x) (h3 : f8_of (mN.2.2.2.1 v.toNatClampNeg) mQ mH = some y)
    (hx : TE D cnt x E) (hk : OKR D cnt [retT E, lstC (retT E) nilT]) :
    MF mH D cnt [retT E, lstC (retT E) nilT] (lstT [retT E]) (f8_foldStatement N v mQ mN mH) := by
  have hc := h.2.1
  have et : tM D 10 x 0 0 = retT E := by
    show retT (denM D x) = _
    rw [hx.den (by omega)]
  have pr := m_pair (N := N) (k := 10) (a := x) (b := 0) (c := 0) hN h ⟨hx.id, rfl, rfl⟩ et
  obtain ⟨qc, qb, qp, qr, qC⟩ := mQ
  obtain ⟨nn, nk, na, nb, nc, ns⟩ := mN
  obtain ⟨ht, hK, hA, hB, hC, hNx, h1x, hT, hR⟩ := mH
  dsimp only at h1 h2 h3
  rw [f8_foldStatement, if_neg hg, h1, if_neg (show ¬ (10 : Int32) = 6 by decide), if_neg hg, h2, ob_s, f8_foldStatement_L25, if_neg hg, h3, ob_s, if_neg hg, h1, if_neg (show ¬ (10 : Int32) = 6 by decide), if_neg (show ¬ (10 : Int32) = 7 by decide), if_neg (show ¬ (10 : Int32) = 8 by decide), if_neg (show ¬ (10 : Int32) = 9 by decide)]
  exact pr hk
end
