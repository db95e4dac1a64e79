/-! FOLDING in the reference: leaves -/
section
variable {N : Nat} {mQ : MdQ} {mN : MdN} {mL : MdL} {mm B nn : Nat} {u : MTN} {b : Bool}
theorem g_leaf (hE : EN8 N mQ mN mL mm B nn u) (x : Leaf) (hv : ∀ s v, x = .inl (s, v) → s < 60) (hk : ∀ s k, x = .inr (s, k) → k < 8) : MGE N mQ mN mL mm B nn b (fun _ => nLeaf x) (if b || dty u (sLeaf x) then 1 else 0) [fLeaf uZ x] [fLeaf u x] (fLeaf u x) := by
  intro m mH D cnt h1 h2 h3 h4 h5
  have hEE := hE
  obtain ⟨e1, e2, e3, e4, e5, e6, e7⟩ := hEE
  have hd : dty u (sLeaf x) = false → ∀ R, R ∈ [fLeaf u x] → R ∈ [fLeaf uZ x] := by
    intro q R hR
    have : fLeaf u x = fLeaf uZ x := by
      rcases x with ⟨s, v⟩ | ⟨s, k⟩
      · have c := (CLN.cons (dty_cl (S := sLeaf (.inl (s, v))) (fun e he => by rw [show e = (s, 3, v) from List.mem_singleton.mp he]; exact hv s v rfl) q)).1
        show cstT (ov u s v) = cstT (ov uZ s v)
        rw [ov_cl c]
      · rfl
    rw [← this]
    exact hR
  have hok := okr_of (b := b) (d := dty u (sLeaf x)) (Rq := [fLeaf u x]) h4 hd h5
  have fin : ∀ (w1 w2 : Int32), (if u.1 ≠ -1 ∧ mN.2.2.2.2.2 (B + m) = u.1 then w1 = 1 ∧ w2 = u.2 else w1 = 0 ∧ w2 = mN.2.2.1 (B + m)) → m < nn → MF mH D cnt [fLeaf u x] (fLeaf u x) (f8_foldNode N (nI (B + m)) w1 w2 mQ mN mH) → fLeaf u x ≠ nilT →
      ∃ mH' D' cnt', FGM N mQ mN mL mm B mH m mH' 1 ∧ 1 ≤ 1 ∧ CM mH' D' cnt' ∧ EXT D D' cnt ∧ cnt ≤ cnt' ∧ cnt' ≤ cnt + (if b || dty u (sLeaf x) then 1 else 0) ∧ (∀ R, R ∈ [fLeaf u x] → HAS D' cnt' R) ∧ (∀ j, j < m → mH'.2.2.2.2.2.2.2.1 j = mH.2.2.2.2.2.2.2.1 j) ∧ TE D' cnt' (mH'.2.2.2.2.2.2.2.1 (m + 1 - 1)) (fLeaf u x) := by
    intro w1 w2 hw hm hf hn
    obtain ⟨mH', D', cnt', g1, g2, g3, g4, g5, g6, g7, g8, g9⟩ := m_go hE hm hw hf
    have hc := g2.2.1
    exact ⟨mH', D', cnt', g1, Nat.le_refl _, g2, g3, g4, cnt_of (Rq := [fLeaf u x]) h4 hd g5 g6, g7, g8, by rw [Nat.add_sub_cancel]; exact g9.te (by omega) hn⟩
  rcases x with ⟨s, v⟩ | ⟨s, k⟩
  · have h2 : m + 1 ≤ nn := h2
    have hg := z_gd (n := B + m) (N := 512) (by omega) (by omega)
    have hbn := z_nat (n := B + m) (by omega)
    obtain ⟨r1, r2, r3, r4, r5⟩ := NSH.one h1
    exact fin _ _ (w_site (hv s v rfl) r2 r5) (by omega) (m_n0 e7 h3 hg (by rw [hbn]; exact r1) hok) nde_nil
  · have hk8 := hk s k rfl
    by_cases w : k < 6
    · have e : nLeaf (.inr (s, k)) = [(2, nI k, 0, 0, -1)] := if_pos w
      rw [e] at h1 h2 ⊢
      have h2 : m + 1 ≤ nn := h2
      have hg := z_gd (n := B + m) (N := 512) (by omega) (by omega)
      have hbn := z_nat (n := B + m) (by omega)
      obtain ⟨r1, r2, r3, r4, r5⟩ := NSH.one h1
      exact fin _ _ (w_none r5) (by omega) (m_n2 e7 h3 hg (by rw [hbn]; exact r1) (by rw [hbn]; exact r2) w hok) nde_nil
    · have e : nLeaf (.inr (s, k)) = [(1, nI (k + 114), 0, 0, -1)] := if_neg w
      rw [e] at h1 h2 ⊢
      have h2 : m + 1 ≤ nn := h2
      have hg := z_gd (n := B + m) (N := 512) (by omega) (by omega)
      have hbn := z_nat (n := B + m) (by omega)
      obtain ⟨r1, r2, r3, r4, r5⟩ := NSH.one h1
      exact fin _ _ (w_none r5) (by omega) (m_n1 e7 h3 hg (by rw [hbn]; exact r1) (by rw [hbn]; exact r2) w hk8 hok) nde_nil
end
