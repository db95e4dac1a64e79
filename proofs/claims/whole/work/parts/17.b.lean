/-! FOLDING: a tree without the changed place folds as the unchanged one -/
abbrev uZ : MTN := (-1, 0)
def CLN (u : MTN) (S : List Ste) : Prop := ∀ e, e ∈ S → e.1 < 60 ∧ nI e.1 ≠ u.1
section
variable {u : MTN} {α : Type}
theorem CLN.app {L M : List Ste} (h : CLN u (L ++ M)) : CLN u L ∧ CLN u M := ⟨fun e he => h e (List.mem_append_left _ he), fun e he => h e (List.mem_append_right _ he)⟩
theorem CLN.cons {e : Ste} {L : List Ste} (h : CLN u (e :: L)) : (e.1 < 60 ∧ nI e.1 ≠ u.1) ∧ CLN u L := ⟨h e List.mem_cons_self, fun a ha => h a (List.mem_cons_of_mem _ ha)⟩
theorem ov_cl {s n : Nat} (h : s < 60 ∧ nI s ≠ u.1) : ov u s n = ov uZ s n := by
  unfold ov
  rw [if_neg h.2, if_neg (nI_m1 (by omega))]
theorem cl_mo {K : Nat} {cb : Int32 → FT → FT → FT} {sf : α → List Ste} {ff : MTN → α → FT} (h : ∀ x, CLN u (sf x) → ff u x = ff uZ x) : ∀ l v, CLN u (sMo K sf l) → fMo u cb (ff u) v l = fMo uZ cb (ff uZ) v l := by
  intro l
  induction l with
  | nil => intro v _; rfl
  | cons q l ih =>
    intro v hc
    obtain ⟨c1, c2⟩ := hc.cons
    obtain ⟨c2, c3⟩ := c2.app
    rw [fMo, fMo, ov_cl c1, h q.2.2 c2]
    exact ih _ c3
theorem cl_ch {K : Nat} {cb : Int32 → FT → FT → FT} {sf : α → List Ste} {ff : MTN → α → FT} (h : ∀ x, CLN u (sf x) → ff u x = ff uZ x) : ∀ x, CLN u (sCh K sf x) → fCh u cb (ff u) x = fCh uZ cb (ff uZ) x := by
  intro x hc
  obtain ⟨c1, c2⟩ := hc.app
  unfold fCh
  rw [h x.1 c1]
  exact cl_mo h x.2 _ c2
end
section
variable {u : MTN}
theorem cl_fa {S : Type} {sf : S → List Ste} {ff : MTN → S → FT} (h : ∀ x, CLN u (sf x) → ff u x = ff uZ x) : ∀ x, CLN u (sFa sf x) → fFa u (ff u) x = fFa uZ (ff uZ) x := by
  intro x hc
  rcases x with (⟨s, v⟩ | ⟨s, k⟩) | y
  · have := (CLN.cons hc).1
    show cstT (ov u s v) = cstT (ov uZ s v)
    rw [ov_cl this]
  · rfl
  · exact h y hc
theorem cl_sub : ∀ d x, CLN u (sSub d x) → fSub u d x = fSub uZ d x := by
  intro d
  induction d with
  | zero => intro x _; rfl
  | succ d ih => exact cl_ch (ff := fun u => fCh u fSum (fFa u (fSub u d))) (cl_ch (ff := fun u => fFa u (fSub u d)) (cl_fa (ff := fun u => fSub u d) ih))
theorem cl_ex (d : Nat) : ∀ x, CLN u (sEx d x) → fEx u d x = fEx uZ d x := cl_ch (ff := fun u => fTe u d) (cl_ch (ff := fun u => fFa u (fSub u d)) (cl_fa (ff := fun u => fSub u d) (cl_sub d)))
theorem cl_at {S : Type} {d : Nat} {sf : S → List Ste} {ff : MTN → S → FT} (h : ∀ x, CLN u (sf x) → ff u x = ff uZ x) : ∀ x, CLN u (sAt d sf x) → fAt u d (ff u) x = fAt uZ d (ff uZ) x := by
  intro x hc
  rcases x with x | y
  · obtain ⟨c1, c2⟩ := CLN.app hc
    obtain ⟨c2, c3⟩ := c2.cons
    show fCmp (ov u x.2.1 x.2.2.1) (fEx u d x.1) (fEx u d x.2.2.2) = fCmp (ov uZ x.2.1 x.2.2.1) (fEx uZ d x.1) (fEx uZ d x.2.2.2)
    rw [ov_cl c2, cl_ex d _ c1, cl_ex d _ c3]
  · exact h y hc
theorem cl_csub : ∀ d x, CLN u (sCSub d x) → fCSub u d x = fCSub uZ d x := by
  intro d
  induction d with
  | zero => intro x _; rfl
  | succ d ih => exact cl_ch (ff := fun u => fCh u fBth (fAt u d (fCSub u d))) (cl_ch (ff := fun u => fAt u d (fCSub u d)) (cl_at (ff := fun u => fCSub u d) ih))
theorem cl_co (d : Nat) : ∀ x, CLN u (sCo d x) → fCo u d x = fCo uZ d x := cl_ch (ff := fun u => fPa u d) (cl_ch (ff := fun u => fAt u d (fCSub u d)) (cl_at (ff := fun u => fCSub u d) (cl_csub d)))
end
