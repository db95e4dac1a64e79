/-! FOLDING in the reference: the whole folding -/
section
variable {N : Nat} {mQ : MdQ} {mN : MdN} {mL : MdL} {mm B nn : Nat} {u : MTN} {b : Bool}
theorem m_fold {x : RoT 4} {mH : MdH} {D : Nat → FT} {cnt : Nat} (hE : EN8 N mQ mN mL mm B (nRo B 4 0 x).length u) (hi : IW (iRo 4) x) (ho : OKN8 u (sRo 4 x)) (hw : wRo 4 x ≤ 60) (hn : NSH B mN 0 (nRo B 4 0 x)) (hq : mQ.2.2.2.1 = nRix B 0 x (nRo B 4 0 x))
    (h : CM mH D cnt) (hz : b = false → ∀ R, R ∈ rRo uZ 4 x → HAS D cnt R) (hk : cnt + cRo u b 4 x ≤ 4200) :
    ∃ r mH' D' cnt', f8_fold N (nI mm) mQ mN mL mH = some (r, mH') ∧ CM mH' D' cnt' ∧ EXT D D' cnt ∧ cnt ≤ cnt' ∧ cnt' ≤ cnt + cRo u b 4 x ∧ (∀ R, R ∈ rRo u 4 x → HAS D' cnt' R) ∧ TMm D' cnt' r (lstT (fRo u 4 x)) := by
  have hEE := hE
  obtain ⟨e1, e2, e3, e4, e5, e6, e7⟩ := hEE
  obtain ⟨mH1, D1, cnt1, a1, a3, a4, a5, a6, a7, a8, a9⟩ := g_ro (b := b) hE 4 x hi ho hw 0 mH D cnt hn (by dsimp only; omega) h hz hk
  dsimp only at a1 a9
  have hm : 0 + (nRo B 4 0 x).length ≤ 256 := by omega
  obtain ⟨y, y1, y2⟩ := rix_of (mQ := mQ) (mH := mH1) (D := D1) (cnt := cnt1) (m := 0) (l := x) (L := nRo B 4 0 x) (T := lstT (fRo u 4 x)) e1 e5 hm a9 (fun w => by rw [w]; rfl)
  refine ⟨y, mH1, D1, cnt1, ?_, a3, a4, a5, a6, a7, y2⟩
  obtain ⟨n, hN⟩ : ∃ n, N = n + 1 + (nRo B 4 0 x).length := ⟨N - 1 - (nRo B 4 0 x).length, by omega⟩
  have a1 := a1 (fun mH => (f8_of mQ.2.2.2.1 mQ mH).bind fun r => some (r, mH)) (n + 1)
  rw [Nat.zero_add, Nat.add_zero] at a1
  have e : f8_fold N (nI mm) mQ mN mL mH = FL5 (fun mH => (f8_of mQ.2.2.2.1 mQ mH).bind fun r => some (r, mH)) N mQ mN mL N (nI mm) (nI B) mH := by
    rw [← e1]
    rfl
  rw [e, congrArg (fun t => FL5 (fun mH => (f8_of mQ.2.2.2.1 mQ mH).bind fun r => some (r, mH)) N mQ mN mL t (nI mm) (nI B) mH) hN]
  refine a1.trans ?_
  rw [hq] at *
  obtain ⟨qc, qb, qp, qr, qC⟩ := mQ
  obtain ⟨nn', nk, na, nb, nc, ns⟩ := mN
  obtain ⟨ht, hK, hA, hB', hC, hNx, h1x, hT, hR⟩ := mH1
  dsimp only at e1 e2
  subst e1 e2
  unfold FL5
  dsimp only
  rw [f8_fold_L5, nI_add, if_pos (Int32.le_refl _), y1, ob_s]
end
