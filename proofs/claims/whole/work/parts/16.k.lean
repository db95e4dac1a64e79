/-! FOLDING in the reference: from a node to the next -/
section
variable {N : Nat} {mQ : MdQ} {mN : MdN} {mL : MdL} {mH mH' : MdH} {D : Nat → FT} {cnt B j m nn n : Nat} {r : Int32} {u : MTN}
def FL5 (kk : MdH → Option (Int32 × MdH)) (N : Nat) (mQ : MdQ) (mN : MdN) (mL : MdL) (n : Nat) (x1 x2 : Int32) (mH : MdH) : Option (Int32 × MdH) :=
  f8_fold_L5 kk N mQ.1 mQ.2.1 mQ.2.2.1 mQ.2.2.2.1 mQ.2.2.2.2 mN.1 mN.2.1 mN.2.2.1 mN.2.2.2.1 mN.2.2.2.2.1 mN.2.2.2.2.2 mL.1 mL.2.1 mL.2.2.1 mL.2.2.2.1 mL.2.2.2.2.1 mL.2.2.2.2.2 n x1 x2 mH
/-- which mutant is folded -/
def MU8 (mL : MdL) (m : Nat) (u : MTN) : Prop := m ≤ 120 ∧ (m = 0 ∧ u.1 = -1 ∨ 0 < m ∧ mL.2.1 m = u.1 ∧ mL.2.2.2.1 m = u.2 ∧ u.1 ≠ -1)
/-- the thing of a node is written down -/
def hTw (mH : MdH) (j : Nat) (r : Int32) : MdH := (mH.1, mH.2.1, mH.2.2.1, mH.2.2.2.1, mH.2.2.2.2.1, mH.2.2.2.2.2.1, mH.2.2.2.2.2.2.1, upd mH.2.2.2.2.2.2.2.1 j r, mH.2.2.2.2.2.2.2.2)
theorem hTw_cm (h : CM mH D cnt) : CM (hTw mH j r) D cnt := h
theorem nI_bj {B j : Nat} : nI (B + j) - nI B = nI j := by
  rw [← nI_add, Int32.add_comm, Int32.add_sub_cancel]
theorem m_step {kk : MdH → Option (Int32 × MdH)} {w1 w2 : Int32} (hb : mQ.2.1 = nI B) (hn : mN.1 = nI nn) (hB : B + nn ≤ 512) (hj : j < nn) (h256 : nn ≤ 256) (hm : MU8 mL m u)
    (hw : if u.1 ≠ -1 ∧ mN.2.2.2.2.2 (B + j) = u.1 then w1 = 1 ∧ w2 = u.2 else w1 = 0 ∧ w2 = mN.2.2.1 (B + j)) (h : f8_foldNode N (nI (B + j)) w1 w2 mQ mN mH = some (r, mH')) :
    FL5 kk N mQ mN mL (n + 1) (nI m) (nI (B + j)) mH = FL5 kk N mQ mN mL n (nI m) (nI (B + (j + 1))) (hTw mH' j r) := by
  have hg := z_gd (n := B + j) (N := 512) (by omega) (by omega)
  have hbn := z_nat (n := B + j) (by omega)
  have hg' : ¬ (nI (B + j) < 0 ∨ 512 ≤ B + j) := by rw [hbn] at hg; exact hg
  have hgj := z_gd (n := j) (N := 256) (by omega) (by omega)
  have hjn := z_nat (n := j) (by omega)
  have hle : ¬ nI (B + nn) ≤ nI (B + j) := fun q => absurd ((nI_leI (by omega) (by omega)).mp q) (by omega)
  obtain ⟨hm1, hm⟩ := hm
  have hgm := z_gd (n := m) (N := 121) (by omega) (by omega)
  have hmn := z_nat (n := m) (by omega)
  have hgm' : ¬ (nI m < 0 ∨ 121 ≤ m) := by rw [hmn] at hgm; exact hgm
  obtain ⟨qc, qb, qp, qr, qC⟩ := mQ
  obtain ⟨nn', nk, na, nb, nc, ns⟩ := mN
  obtain ⟨lm, lp, ls, li, lk, lf⟩ := mL
  obtain ⟨ht, hK, hA, hB', hC, hNx, h1x, hT, hR⟩ := mH
  obtain ⟨ht', hK', hA', hB'', hC', hNx', h1x', hT', hR'⟩ := mH'
  dsimp only at hb hn hm hw
  subst hb hn
  unfold FL5 hTw
  dsimp only
  have l42 : ∀ k5, f8_fold_L42 k5 N qc (nI B) qp qr qC (nI nn) nk na nb nc ns lm lp ls li lk lf (nI m) (nI (B + j)) w1 (ht, hK, hA, hB', hC, hNx, h1x, hT, hR) = k5 (nI m) (nI (B + j + 1)) (ht', hK', hA', hB'', hC', hNx', h1x', upd hT' j r, hR') := by
    intro k5
    rw [f8_fold_L42, nI_bj]
    by_cases w : u.1 ≠ -1 ∧ ns (B + j) = u.1
    · rw [if_pos w] at hw
      obtain ⟨rfl, rfl⟩ := hw
      have hli : li m = u.2 := by
        rcases hm with ⟨_, q⟩ | ⟨_, _, q, _⟩
        · exact absurd q w.1
        · exact q
      rw [if_neg (by decide), if_neg hgm, hmn, hli, h, ob_s]
      dsimp only [nm_v]
      rw [if_neg hgj, hjn, nI_1]
    · rw [if_neg w] at hw
      obtain ⟨rfl, rfl⟩ := hw
      rw [if_pos rfl, if_neg hg, hbn, h, ob_s]
      dsimp only [nm_v]
      rw [if_neg hgj, hjn, nI_1]
  rw [f8_fold_L5, nI_add, if_neg hle]
  rcases hm with ⟨m0, mu1⟩ | ⟨m0, mu1, mu2, mu3⟩
  · subst m0
    have w10 : w1 = 0 := by
      rw [if_neg (fun q => q.1 mu1)] at hw
      exact hw.1
    subst w10
    rw [if_pos (show nI 0 ≤ 0 by decide), f8_fold_L41, l42]
    rfl
  · rw [if_neg (show ¬ nI m ≤ (0 : Int32) from fun q => absurd ((nI_leI (a := m) (b := 0) (by omega) (by omega)).mp q) (by omega)), if_neg hg, if_neg hgm, hbn, hmn, mu1]
    by_cases w : ns (B + j) = u.1
    · have w11 : w1 = 1 := by
        rw [if_pos ⟨mu3, w⟩] at hw
        exact hw.1
      subst w11
      rw [if_pos w, l42]
      rfl
    · have w10 : w1 = 0 := by
        rw [if_neg (fun q => w q.2)] at hw
        exact hw.1
      subst w10
      rw [if_neg w, f8_fold_L41, l42]
      rfl
end
