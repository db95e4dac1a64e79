/-! FOLDING in the reference: one node of the walk -/
def EN8 (N : Nat) (mQ : MdQ) (mN : MdN) (mL : MdL) (mm B nn : Nat) (u : MTN) : Prop := mQ.2.1 = nI B ∧ mN.1 = nI nn ∧ B + nn ≤ 512 ∧ nn ≤ 256 ∧ B ≤ 256 ∧ MU8 mL mm u ∧ 20000 < N
section
variable {N : Nat} {mQ : MdQ} {mN : MdN} {mL : MdL} {mm B nn m cnt : Nat} {mH : MdH} {D : Nat → FT} {u : MTN} {T : FT} {Rq : List FT} {w1 w2 : Int32}
theorem m_go (hE : EN8 N mQ mN mL mm B nn u) (hm : m < nn) (hw : if u.1 ≠ -1 ∧ mN.2.2.2.2.2 (B + m) = u.1 then w1 = 1 ∧ w2 = u.2 else w1 = 0 ∧ w2 = mN.2.2.1 (B + m)) (h : MF mH D cnt Rq T (f8_foldNode N (nI (B + m)) w1 w2 mQ mN mH)) :
    ∃ mH' D' cnt', FGM N mQ mN mL mm B mH m mH' 1 ∧ CM mH' D' cnt' ∧ EXT D D' cnt ∧ cnt ≤ cnt' ∧ cnt' ≤ cnt + Rq.length ∧ ((∀ R, R ∈ Rq → HAS D cnt R) → cnt' = cnt) ∧ (∀ R, R ∈ Rq → HAS D' cnt' R) ∧ (∀ j, j < m → mH'.2.2.2.2.2.2.2.1 j = mH.2.2.2.2.2.2.2.1 j) ∧ TMm D' cnt' (mH'.2.2.2.2.2.2.2.1 m) T := by
  obtain ⟨e1, e2, e3, e4, e5, e6, e7⟩ := hE
  obtain ⟨r, mH1, D1, cnt1, f1, f2, f3, f4, f5, f6, f7, f8, f9⟩ := h
  refine ⟨hTw mH1 m r, D1, cnt1, fun kk n => ?_, f2, f3, f4, f5, f6, f7, fun j hj => ?_, ?_⟩
  · exact m_step e1 e2 e3 hm e4 e6 hw f1
  · show upd mH1.2.2.2.2.2.2.2.1 m r j = _
    rw [z_upd_n (by omega), f9]
  · show TMm D1 cnt1 (upd mH1.2.2.2.2.2.2.2.1 m r m) T
    rw [z_upd_e]
    exact f8
/-- what the node's place says -/
theorem w_site {s n : Nat} (hs : s < 60) (ha : mN.2.2.1 (B + m) = nI n) (ht : mN.2.2.2.2.2 (B + m) = nI s) : if u.1 ≠ -1 ∧ mN.2.2.2.2.2 (B + m) = u.1 then (if nI s = u.1 then (1 : Int32) else 0) = 1 ∧ ov u s n = u.2 else (if nI s = u.1 then (1 : Int32) else 0) = 0 ∧ ov u s n = mN.2.2.1 (B + m) := by
  rw [ht, ha]
  unfold ov
  by_cases w : nI s = u.1
  · have h1 : u.1 ≠ -1 := by rw [← w]; exact nI_m1 (by omega)
    rw [if_pos ⟨h1, w⟩, if_pos w, if_pos w]
    exact ⟨rfl, rfl⟩
  · rw [if_neg (fun q => w q.2), if_neg w, if_neg w]
    exact ⟨rfl, rfl⟩
theorem w_none (ht : mN.2.2.2.2.2 (B + m) = -1) : if u.1 ≠ -1 ∧ mN.2.2.2.2.2 (B + m) = u.1 then (0 : Int32) = 1 ∧ mN.2.2.1 (B + m) = u.2 else (0 : Int32) = 0 ∧ mN.2.2.1 (B + m) = mN.2.2.1 (B + m) := by
  rw [if_neg (fun q => q.1 (q.2.symm.trans ht))]
  exact ⟨rfl, rfl⟩
end
