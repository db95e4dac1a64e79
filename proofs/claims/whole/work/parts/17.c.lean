/-! FOLDING: statements without the changed place -/
section
variable {u : MTN}
theorem if_cl {α : Type} {s : Nat} (h : s < 60 ∧ nI s ≠ u.1) {X Y : α} : (if nI s = u.1 then X else Y) = Y ∧ (if nI s = uZ.1 then X else Y) = Y := ⟨if_neg h.2, if_neg (nI_m1 (by omega))⟩
theorem cl_sm (d : Nat) : ∀ x, CLN u (sSm d x) → fSm u d x = fSm uZ d x := by
  intro x hc
  obtain ⟨s, x⟩ := x
  obtain ⟨c1, c2⟩ := CLN.cons hc
  dsimp only at c1
  rw [fSm, fSm]
  dsimp only
  rw [(if_cl c1).1, if_neg (nI_m1 (by omega))]
  rcases x with ⟨k, e⟩ | e | c
  · dsimp only at c2 ⊢
    rw [cl_ex d e c2]
  · dsimp only at c2 ⊢
    rw [cl_ex d e c2]
  · dsimp only at c2 ⊢
    rw [cl_co d c c2]
theorem cl_st {S : Type} {d : Nat} {sf : S → List Ste} {ff : MTN → S → List FT} (h : ∀ x, CLN u (sf x) → ff u x = ff uZ x) : ∀ x, CLN u (sSt d sf x) → fSt u d (ff u) x = fSt uZ d (ff uZ) x := by
  intro x hc
  rcases x with x | y
  · exact cl_sm d x hc
  · exact h y hc
theorem cl_row {α : Type} {sf : α → List Ste} {ff : MTN → α → List FT} (h : ∀ x, CLN u (sf x) → ff u x = ff uZ x) : ∀ l, CLN u (sRow sf l) → fFlat (ff u) l = fFlat (ff uZ) l := by
  intro l
  induction l with
  | nil => intro _; rfl
  | cons x l ih =>
    intro hc
    obtain ⟨c1, c2⟩ := CLN.app hc
    rw [fFlat, fFlat, h x c1, ih c2]
theorem cl_bsub : ∀ d x, CLN u (sBSub d x) → fBSub u d x = fBSub uZ d x := by
  intro d
  induction d with
  | zero => intro x _; rfl
  | succ d ih =>
    intro x hc
    obtain ⟨s, c, x⟩ := x
    obtain ⟨c1, c2⟩ := CLN.cons hc
    obtain ⟨c2, c3⟩ := c2.app
    dsimp only at c1 c2 c3
    have hrow := cl_row (ff := fun u => fSt u d (fBSub u d)) (cl_st (ff := fun u => fBSub u d) ih)
    rw [fBSub, fBSub]
    dsimp only
    rw [(if_cl c1).1, if_neg (nI_m1 (by omega)), cl_co (d + 1) c c2]
    rcases x with ⟨r1, r2⟩ | r
    · dsimp only at c3 ⊢
      obtain ⟨c3, c4⟩ := c3.app
      rw [hrow r1 c3, hrow (r2.getD []) c4]
    · dsimp only at c3 ⊢
      rw [hrow r c3]
theorem cl_ro (d : Nat) : ∀ x, CLN u (sRo d x) → fRo u d x = fRo uZ d x := by
  intro x hc
  rw [fRo, fRo, cl_row (ff := fun u => fSt u d (fBSub u d)) (cl_st (ff := fun u => fBSub u d) (cl_bsub d)) x hc]
end
