/-! FOLDING in the reference: what is asked of the table -/
def HAS (D : Nat → FT) (cnt : Nat) (R : FT) : Prop := ∃ t, t < cnt ∧ D t = R
theorem HAS.ext {D D' : Nat → FT} {n m : Nat} {R : FT} (h : HAS D n R) (he : EXT D D' n) (hm : n ≤ m) : HAS D' m R := by
  obtain ⟨t, h1, h2⟩ := h
  exact ⟨t, by omega, (he t h1).trans h2⟩
/-- a number that stands for a term, and is no -1 -/
def TE (D : Nat → FT) (cnt : Nat) (x : Int32) (T : FT) : Prop := ∃ t, t < cnt ∧ x = nI t ∧ D t = T
def TMm (D : Nat → FT) (cnt : Nat) (x : Int32) (T : FT) : Prop := IDm cnt x ∧ denM D x = T
theorem TE.ext {D D' : Nat → FT} {n m : Nat} {x : Int32} {R : FT} (h : TE D n x R) (he : EXT D D' n) (hm : n ≤ m) : TE D' m x R := by
  obtain ⟨t, h1, h2, h3⟩ := h
  exact ⟨t, by omega, h2, (he t h1).trans h3⟩
theorem TE.tm {D : Nat → FT} {cnt : Nat} {x : Int32} {T : FT} (hc : cnt ≤ 20000) (h : TE D cnt x T) : TMm D cnt x T := by
  obtain ⟨t, h1, rfl, h3⟩ := h
  exact ⟨.inr ⟨t, h1, rfl⟩, (denM_id (by omega)).trans h3⟩
theorem TE.has {D : Nat → FT} {cnt : Nat} {x : Int32} {T : FT} (h : TE D cnt x T) : HAS D cnt T := by
  obtain ⟨t, h1, rfl, h3⟩ := h
  exact ⟨t, h1, h3⟩
theorem TMm.te {D : Nat → FT} {cnt : Nat} {x : Int32} {T : FT} (hc : cnt ≤ 20000) (h : TMm D cnt x T) (hn : T ≠ nilT) : TE D cnt x T := by
  obtain ⟨rfl | ⟨t, h1, rfl⟩, h2⟩ := h
  · exact absurd h2.symm hn
  · exact ⟨t, h1, rfl, (denM_id (by omega)).symm.trans h2⟩
theorem TMm.ext {D D' : Nat → FT} {n m : Nat} {x : Int32} {R : FT} (hc : n ≤ 20000) (h : TMm D n x R) (he : EXT D D' n) (hm : n ≤ m) : TMm D' m x R := by
  obtain ⟨h1, h2⟩ := h
  refine ⟨h1.mono hm, ?_⟩
  rw [← h2]
  rcases h1 with rfl | ⟨t, h1, rfl⟩
  · rfl
  · rw [denM_id (by omega), denM_id (by omega), he t h1]
theorem TMm.nil {D : Nat → FT} {cnt : Nat} : TMm D cnt (-1) nilT := ⟨.inl rfl, if_pos rfl⟩
/-- there is room for what is asked -/
def OKR (D : Nat → FT) (cnt : Nat) (Rq : List FT) : Prop := (∀ R, R ∈ Rq → HAS D cnt R) ∨ cnt + Rq.length ≤ 4200
/-- what comes of it -/
def MF (mH : MdH) (D : Nat → FT) (cnt : Nat) (Rq : List FT) (T : FT) (o : Option (Int32 × MdH)) : Prop :=
  ∃ x mH' D' cnt', o = some (x, mH') ∧ CM mH' D' cnt' ∧ EXT D D' cnt ∧ cnt ≤ cnt' ∧ cnt' ≤ cnt + Rq.length ∧ ((∀ R, R ∈ Rq → HAS D cnt R) → cnt' = cnt) ∧ (∀ R, R ∈ Rq → HAS D' cnt' R) ∧ TMm D' cnt' x T ∧ mH'.2.2.2.2.2.2.2.1 = mH.2.2.2.2.2.2.2.1
theorem kof_0 {T : FT} : kofM T = 0 ↔ knd T = 1 := by
  unfold kofM
  repeat' split
  all_goals omega
theorem kof_10 {T : FT} : kofM T = 10 ↔ knd T = 6 := by
  unfold kofM
  repeat' split
  all_goals omega
theorem kof_2 {T : FT} : kofM T = 2 ↔ knd T = 2 ∧ ¬ (num T = 6 ∨ num T = 7) := by
  unfold kofM
  repeat' split
  all_goals first | omega | (rename_i h; exact ⟨fun q => by omega, fun q => absurd h q.2⟩) | (rename_i h1 h; exact ⟨fun _ => ⟨h1, h⟩, fun _ => rfl⟩)
theorem kof_12 {T : FT} : kofM T = 12 ↔ knd T = 0 ∨ 10 ≤ knd T := by
  unfold kofM
  repeat' split
  all_goals omega
section
variable {N : Nat} {mH : MdH} {D : Nat → FT} {cnt : Nat} {x y : Int32} {A B T : FT}
theorem m_row (h : CM mH D cnt) (hx : TE D cnt x T) : ∃ t k a b c, t < cnt ∧ x = nI t ∧ ROWm mH t k a b c ∧ VM t k a b c ∧ T = tM D k a b c ∧ kofM T = k := by
  obtain ⟨t, h1, h2, h3⟩ := hx
  obtain ⟨k, a, b, c, r1, r2, r3⟩ := h.2.2.1 t h1
  refine ⟨t, k, a, b, c, h1, h2, r1, r2, h3.symm.trans r3, ?_⟩
  rw [← h3, r3]
  exact (kofM_tM (D := D) r2).1
theorem m_num {k : Nat} {a b c : Int32} (hN : 20000 < N) (h : CM mH D cnt) (hv : VM cnt k a b c) (ho : OKR D cnt [tM D k a b c]) : MF mH D cnt [tM D k a b c] (tM D k a b c) (f8_number N (nI k) a b c mH) := by
  have hc := h.2.1
  rcases m_of hN h hv with ⟨t, h1, h2, h3⟩ | ⟨h1, h2⟩
  · refine ⟨nI t, mH, D, cnt, h3, h, EXT.refl, Nat.le_refl _, by omega, fun _ => rfl, fun R hR => ?_, ⟨.inr ⟨t, h1, rfl⟩, (denM_id (by omega)).trans h2⟩, rfl⟩
    rw [List.mem_singleton] at hR
    subst hR
    exact ⟨t, h1, h2⟩
  · have hn : ¬ ∀ R, R ∈ [tM D k a b c] → HAS D cnt R := by
      intro q
      obtain ⟨t, t1, t2⟩ := q _ List.mem_cons_self
      exact h1 t t1 t2
    have hlt : cnt < 4200 := by
      rcases ho with q | q
      · exact absurd q hn
      · simp only [List.length_cons, List.length_nil] at q; omega
    obtain ⟨mH', D', e1, e2, e3, e4, e5⟩ := h2 hlt
    refine ⟨nI cnt, mH', D', cnt + 1, e1, e2, e3, by omega, Nat.le_refl _, fun q => absurd q hn, fun R hR => ?_, ⟨.inr ⟨cnt, by omega, rfl⟩, (denM_id (by omega)).trans e4⟩, by rw [e5]⟩
    rw [List.mem_singleton] at hR
    subst hR
    exact ⟨cnt, by omega, e4⟩
/-- a term that is there already -/
theorem MF.old (h : CM mH D cnt) (hx : TE D cnt x T) : MF mH D cnt [T] T (some (x, mH)) := by
  have hc := h.2.1
  refine ⟨x, mH, D, cnt, rfl, h, EXT.refl, Nat.le_refl _, by omega, fun _ => rfl, fun R hR => ?_, hx.tm (by omega), rfl⟩
  rw [List.mem_singleton] at hR
  subst hR
  exact hx.has
theorem m_isC (h : CM mH D cnt) (hx : TE D cnt x T) (v : Int32) : f8_isConstant x v mH = some (if knd T = 1 ∧ num T = v then 1 else 0) := by
  obtain ⟨t, k, a, b, c, h1, rfl, ⟨r1, r2, r3, r4⟩, h4, h5, h6⟩ := m_row h hx
  have hc := h.2.1
  have hk := h4.k12
  have hg := z_gd (n := t) (N := 4200) (by omega) (by omega)
  obtain ⟨ht, hK, hA, hB, hC, hNx, h1', hT, hR⟩ := mH
  dsimp only at r1 r2
  rw [f8_isConstant, if_neg hg, if_neg hg, z_nat (n := t) (by omega), r1, r2]
  by_cases w : knd T = 1
  · have hk0 : k = 0 := h6.symm.trans (kof_0.mpr w)
    subst hk0
    have hn : num T = a := by rw [h5]; exact num_nde
    rw [if_pos (show nI 0 = (0 : Int32) from rfl), hn]
    by_cases w2 : a = v
    · rw [if_pos w2, if_pos ⟨w, w2⟩]
    · rw [if_neg w2, if_neg (fun q => w2 q.2)]
  · have hk0 : k ≠ 0 := fun q => w (kof_0.mp (h6.trans q))
    rw [if_neg (nl_ne k 0 0 rfl hk0 (by omega) (by omega)), if_neg (fun q => w q.1)]
end
