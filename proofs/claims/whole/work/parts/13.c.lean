/-! the nodes' sites -/
abbrev Sti : Type := Int32 × Nat × Int32
def up (e : Ste) : Sti := (nI e.1, e.2.1, nI e.2.2)
def kd (k : Nat) : Nat := if k = 3 then 0 else if k = 4 then 1 else if k = 5 then 2 else if k = 0 then 3 else 4
def dS (q : Nde) : Option Sti := if q.1 = 11 ∨ q.1 = 1 ∨ q.1 = 2 then none else some (q.2.2.2.2, kd q.1, if kd q.1 = 4 then 0 else q.2.1)
abbrev PD (D : List Nde) (S : List Ste) : Prop := (D.filterMap dS).Perm (S.map up)
theorem PD.app {D E : List Nde} {P Q : List Ste} (h1 : PD D P) (h2 : PD E Q) : PD (D ++ E) (P ++ Q) := by
  unfold PD
  rw [List.filterMap_append, List.map_append]
  exact List.Perm.append h1 h2
theorem PD.nil : PD [] [] := List.Perm.refl _
theorem PD.last {D : List Nde} {P : List Ste} {k s v : Nat} {a b c st : Int32} (h : PD D P) (hk : ¬ (k = 11 ∨ k = 1 ∨ k = 2)) (hs : st = nI s) (hv : nI v = if kd k = 4 then 0 else a) : PD (D ++ [(k, a, b, c, st)]) ((s, kd k, v) :: P) := by
  unfold PD
  rw [List.filterMap_append]
  have e : List.filterMap dS [(k, a, b, c, st)] = [up (s, kd k, v)] := by
    rw [List.filterMap_cons_some (b := up (s, kd k, v))]
    · rfl
    · rw [dS, if_neg hk]
      show some (st, kd k, if kd k = 4 then 0 else a) = some (nI s, kd k, nI v)
      rw [hs, hv]
  rw [e]
  exact (List.Perm.append h (List.Perm.refl _)).trans List.perm_append_comm
theorem PD.mid {D E : List Nde} {P Q : List Ste} {k s v : Nat} {a b c st : Int32} (h : PD D P) (h2 : PD E Q) (hk : ¬ (k = 11 ∨ k = 1 ∨ k = 2)) (hs : st = nI s) (hv : nI v = if kd k = 4 then 0 else a) : PD (D ++ (k, a, b, c, st) :: E) ((s, kd k, v) :: P ++ Q) := by
  rw [show D ++ (k, a, b, c, st) :: E = (D ++ [(k, a, b, c, st)]) ++ E by rw [List.append_assoc]; rfl]
  exact PD.app (h.last hk hs hv) h2
section
variable {α : Type} {g : Nat → α → List Nde} {f : α → List Ste} {B : Nat}
theorem pn_moE {K : Nat} (hK : K = 3 ∨ K = 5) (h : ∀ m x, PD (g m x) (f x)) : ∀ l v m, PD (nMoE K B g v m l) (sMo (kd K) f l) := by
  intro l
  induction l with
  | nil => intro v m; exact PD.nil
  | cons q l ih =>
    intro v m
    rw [nMoE, sMo]
    refine PD.mid (h _ _) (ih _ _) ?_ rfl ?_
    · rcases hK with rfl | rfl <;> decide
    · rcases hK with rfl | rfl <;> rfl
theorem pn_chE {K : Nat} (hK : K = 3 ∨ K = 5) (h : ∀ m x, PD (g m x) (f x)) : ∀ m x, PD (nChE K B g m x) (sCh (kd K) f x) := fun m x => PD.app (h m x.1) (pn_moE hK h x.2 _ _)
theorem pn_rowS (h : ∀ m x, PD (g m x) (f x)) : ∀ l m, PD (nRowS B g m l) (sRow f l) := by
  intro l
  induction l with
  | nil => intro m; exact PD.nil
  | cons x l ih => intro m; exact PD.app (h _ _) (ih _)
theorem pn_lst : ∀ R v m, PD (nLst B v m R) [] := by
  intro R
  induction R with
  | nil => intro v m; exact PD.nil
  | cons x R ih =>
    intro v m
    rw [nLst]
    unfold PD
    rw [List.filterMap_cons_none]
    · exact ih _ _
    · exact if_pos (.inl rfl)
theorem pn_row (h : ∀ m x, PD (g m x) (f x)) : ∀ m l, PD (nRow B g m l) (sRow f l) := by
  intro m l
  rw [nRow, ← List.append_nil (sRow f l)]
  exact PD.app (pn_rowS h l m) (pn_lst _ _ _)
end
section
variable {B : Nat}
theorem pn_fa {S : Type} {g : Nat → S → List Nde} {f : S → List Ste} (h : ∀ m x, PD (g m x) (f x)) : ∀ m x, PD (nFa g m x) (sFa f x) := by
  intro m x
  rcases x with (⟨s, v⟩ | ⟨s, k⟩) | y
  · exact List.Perm.refl _
  · show PD (nLeaf (.inr (s, k))) []
    rw [nLeaf]
    split
    · exact List.Perm.refl _
    · exact List.Perm.refl _
  · exact h _ _
theorem pn_sub : ∀ d m x, PD (nSub B d m x) (sSub d x) := by
  intro d
  induction d with
  | zero => intro m x; exact PD.nil
  | succ d ih => exact pn_chE (.inl rfl) (pn_chE (.inl rfl) (pn_fa ih))
theorem pn_ex (d : Nat) : ∀ m x, PD (nEx B d m x) (sEx d x) := pn_chE (.inl rfl) (pn_chE (.inl rfl) (pn_fa (pn_sub d)))
theorem pn_cm (d : Nat) : ∀ m x, PD (nCm B d m x) (sCm d x) := by
  intro m x
  rw [nCm, sCm]
  try dsimp only
  rw [List.append_assoc]
  refine PD.app (pn_ex d m x.1) ?_
  exact PD.last (k := 4) (s := x.2.1) (v := x.2.2.1) (pn_ex d _ x.2.2.2) (by decide) rfl rfl
theorem pn_at {S : Type} (d : Nat) {g : Nat → S → List Nde} {f : S → List Ste} (h : ∀ m x, PD (g m x) (f x)) : ∀ m x, PD (nAt B d g m x) (sAt d f x) := by
  intro m x
  rcases x with x | y
  · exact pn_cm d m x
  · exact h m y
theorem pn_csub : ∀ d m x, PD (nCSub B d m x) (sCSub d x) := by
  intro d
  induction d with
  | zero => intro m x; exact PD.nil
  | succ d ih => exact pn_chE (.inr rfl) (pn_chE (.inr rfl) (pn_at d ih))
theorem pn_co (d : Nat) : ∀ m x, PD (nCo B d m x) (sCo d x) := pn_chE (.inr rfl) (pn_chE (.inr rfl) (pn_at d (pn_csub d)))
theorem pn_sm (d : Nat) : ∀ m x, PD (nSm B d m x) (sSm d x) := by
  intro m x
  obtain ⟨s, x⟩ := x
  rcases x with ⟨k, e⟩ | e | c
  · exact PD.last (k := 6) (v := 0) (pn_ex d m e) (by decide) rfl rfl
  · exact PD.last (k := 10) (v := 0) (pn_ex d m e) (by decide) rfl rfl
  · exact PD.last (k := 9) (v := 0) (pn_co d m c) (by decide) rfl rfl
theorem pn_st {S : Type} (d : Nat) {g : Nat → S → List Nde} {f : S → List Ste} (h : ∀ m x, PD (g m x) (f x)) : ∀ m x, PD (nSt B d g m x) (sSt d f x) := by
  intro m x
  rcases x with x | y
  · exact pn_sm d m x
  · exact h m y
theorem pn_bsub : ∀ d m x, PD (nBSub B d m x) (sBSub d x) := by
  intro d
  induction d with
  | zero => intro m x; exact PD.nil
  | succ d ih =>
    intro m x
    obtain ⟨s, c, x⟩ := x
    have hr := fun m l => pn_row (g := nSt B d (nBSub B d)) (B := B) (pn_st d ih) m l
    rcases x with ⟨r, _ | t⟩ | r
    · rw [nBSub, sBSub]
      dsimp only
      refine PD.last (k := 7) (v := 0) (PD.app (pn_co (d + 1) m c) ?_) (by decide) rfl rfl
      rw [← List.append_nil (nRow _ _ _ _)]
      exact PD.app (hr _ _) PD.nil
    · rw [nBSub, sBSub]
      dsimp only
      refine PD.last (k := 7) (v := 0) ?_ (by decide) rfl rfl
      rw [List.append_assoc]
      exact PD.app (pn_co (d + 1) m c) (PD.app (hr _ _) (hr _ _))
    · rw [nBSub, sBSub]
      dsimp only
      exact PD.last (k := 8) (v := 0) (PD.app (pn_co (d + 1) m c) (hr _ _)) (by decide) rfl rfl
theorem pn_ro (d : Nat) : ∀ m x, PD (nRo B d m x) (sRo d x) := fun m x => pn_row (pn_st d (pn_bsub d)) m x
end
