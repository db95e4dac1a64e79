/-! all pieces are of a kind -/
abbrev J15 (J : List Pce) : Prop := ∀ q, q ∈ J → q.1 < 15
theorem J15.app {L M : List Pce} (h1 : J15 L) (h2 : J15 M) : J15 (L ++ M) := fun q hq => (List.mem_append.mp hq).elim (h1 q) (h2 q)
theorem J15.cons {L : List Pce} {w s n j : Nat} (hw : w < 15) (h : J15 L) : J15 ((w, s, n, j) :: L) := fun q hq => (List.mem_cons.mp hq).elim (fun e => by rw [e]; exact hw) (h q)
theorem J15.nil : J15 [] := fun q hq => by cases hq
section
variable {α : Type}
theorem j15_moE {g : α → List Pce} (h : ∀ x, J15 (g x)) : ∀ l, J15 (jMoE g l) := by
  intro l
  induction l with
  | nil => exact J15.nil
  | cons q l ih => exact (h q.2.2).app (J15.cons (by omega) ih)
theorem j15_chE {g : α → List Pce} (h : ∀ x, J15 (g x)) : ∀ x, J15 (jChE g x) := fun x => (h x.1).app (j15_moE h x.2)
theorem j15_moC {g : Nat → α → List Pce} (h : ∀ i x, J15 (g i x)) : ∀ l i, J15 (jMoC g i l) := by
  intro l
  induction l with
  | nil => intro i; exact J15.nil
  | cons q l ih => intro i; exact J15.cons (by omega) ((h _ _).app (J15.cons (by omega) (ih _)))
theorem j15_chC {g : Nat → α → List Pce} (h : ∀ i x, J15 (g i x)) : ∀ i x, J15 (jChC g i x) := fun i x => (h i x.1).app (j15_moC h x.2 _)
theorem j15_row {g : Nat → α → List Pce} (h : ∀ i x, J15 (g i x)) : ∀ l i, J15 (jRow g i l) := by
  intro l
  induction l with
  | nil => intro i; exact J15.nil
  | cons x l ih => intro i; exact (h _ _).app (ih _)
end
theorem j15_fa {S : Type} {g : S → List Pce} (h : ∀ x, J15 (g x)) : ∀ x, J15 (jFa g x) := by
  intro x
  rcases x with (⟨s, v⟩ | ⟨s, k⟩) | y
  · exact J15.cons (by omega) J15.nil
  · exact J15.cons (by omega) J15.nil
  · exact h _
theorem j15_sub : ∀ d x, J15 (jSub d x) := by
  intro d
  induction d with
  | zero => intro x; exact J15.nil
  | succ d ih => exact j15_chE (j15_chE (j15_fa ih))
theorem j15_ex (d : Nat) : ∀ x, J15 (jEx d x) := j15_chE (j15_chE (j15_fa (j15_sub d)))
theorem j15_at {S : Type} (d : Nat) {g : Nat → S → List Pce} (h : ∀ i x, J15 (g i x)) : ∀ i x, J15 (jAt d g i x) := by
  intro i x
  rcases x with x | y
  · exact ((j15_ex d _).app (j15_ex d _)).app (J15.cons (by omega) J15.nil)
  · exact h i y
theorem j15_csub : ∀ d i x, J15 (jCSub d i x) := by
  intro d
  induction d with
  | zero => intro i x; exact J15.nil
  | succ d ih => exact j15_chC (j15_chC (j15_at d ih))
theorem j15_co (d : Nat) : ∀ i x, J15 (jCo d i x) := j15_chC (j15_chC (j15_at d (j15_csub d)))
theorem j15_st {S : Type} (d : Nat) {g : Nat → S → List Pce} (h : ∀ i x, J15 (g i x)) : ∀ i x, J15 (jSt d g i x) := by
  intro i x
  rcases x with ⟨s, x⟩ | y
  · rcases x with ⟨k, e⟩ | e | c
    · exact J15.cons (by omega) ((j15_ex d e).app (J15.cons (by omega) J15.nil))
    · exact J15.cons (by omega) ((j15_ex d e).app (J15.cons (by omega) J15.nil))
    · exact J15.cons (by omega) ((j15_co d _ c).app (J15.cons (by omega) J15.nil))
  · exact h i y
theorem j15_bsub : ∀ d i x, J15 (jBSub d i x) := by
  intro d
  induction d with
  | zero => intro i x; exact J15.nil
  | succ d ih =>
    intro i x
    obtain ⟨s, c, x⟩ := x
    have hr := fun l i => j15_row (j15_st d ih) l i
    rcases x with ⟨r, t⟩ | r
    · rw [jBSub]
      dsimp only
      simp only [List.cons_append, List.append_assoc]
      exact J15.cons (by omega) ((j15_co _ _ c).app (J15.cons (by omega) ((hr _ _).app (J15.cons (by omega) ((hr _ _).app (J15.cons (by omega) J15.nil))))))
    · rw [jBSub]
      dsimp only
      simp only [List.cons_append, List.append_assoc]
      exact J15.cons (by omega) ((j15_co _ _ c).app (J15.cons (by omega) ((hr _ _).app (J15.cons (by omega) J15.nil))))
theorem j15_ro (d : Nat) : ∀ i x, J15 (jRo d i x) := fun i x => j15_row (j15_st d (j15_bsub d)) x i
theorem jw_of {J : List Pce} {S : List Ste} {p0 p' : Nat} (h : J15 J) (hR : JSR J S) (hS : SIN p0 p' S) (h60 : p' ≤ 60) : JW J := fun q hq => ⟨h q hq, fun hw => by have := (hS.2.2 _ (hR.1 q hq hw)).2.1; dsimp only at this; omega⟩
