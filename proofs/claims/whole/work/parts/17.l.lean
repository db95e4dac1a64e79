/-! FOLDING in the reference: what statements and rows ask for, and how much may be new -/
def own2 : List FT → List FT
  | [] => []
  | X :: l => match l with
    | [] => [X, lstC X nilT]
    | _ :: _ => []
def ownI (C : FT) (La Lb : List FT) : List FT := if knd C = 10 ∨ knd C = 11 then [] else [iteT C (lstT La) (lstT Lb), lstC (iteT C (lstT La) (lstT Lb)) nilT]
def ownW (C : FT) (La : List FT) : List FT := if knd C = 11 then [] else [whlT C (lstT La), lstC (whlT C (lstT La)) nilT]
section
variable {α : Type}
def rJ (ff : α → List FT) : List α → List FT
  | [] => []
  | x :: l => rJ ff l ++ jrq (ff x) (cutR (fFlat ff l))
def rRow (ff rf : α → List FT) (l : List α) : List FT := fFlat rf l ++ rJ ff l
def cJ (u : MTN) (b : Bool) (sf : α → List Ste) (wf : α → Nat) : List α → Nat
  | [] => 0
  | x :: l => cJ u b sf wf l + (if b || dty u (sRow sf (x :: l)) then wf x else 0)
def cRow (u : MTN) (b : Bool) (sf : α → List Ste) (cf wf : α → Nat) (l : List α) : Nat := kRw cf l + cJ u b sf wf l
end
section
variable (u : MTN)
def rIn (d : Nat) (x : SmT d) : List FT := match x.2 with
  | .inl (_, e) => rEx u d e
  | .inr (.inl e) => rEx u d e
  | .inr (.inr c) => rCo u d c
def rSm (d : Nat) (x : SmT d) : List FT := rIn u d x ++ own2 (fSm u d x)
def rSt {S : Type} (d : Nat) (f : S → List FT) : SmT d ⊕ S → List FT
  | .inl x => rSm u d x
  | .inr y => f y
def rBSub : (d : Nat) → BSubT d → List FT
  | 0 => fun _ => []
  | d + 1 => fun x => rCo u (d + 1) x.2.1 ++ (match x.2.2 with
    | .inl (r1, r2) => rRow (fSt u d (fBSub u d)) (rSt u d (rBSub d)) r1 ++ rRow (fSt u d (fBSub u d)) (rSt u d (rBSub d)) (r2.getD []) ++ (if nI x.1 = u.1 then [] else ownI (fCo u (d + 1) x.2.1) (cutR (fFlat (fSt u d (fBSub u d)) r1)) (cutR (fFlat (fSt u d (fBSub u d)) (r2.getD []))))
    | .inr r => rRow (fSt u d (fBSub u d)) (rSt u d (rBSub d)) r ++ (if nI x.1 = u.1 then [] else ownW (fCo u (d + 1) x.2.1) (cutR (fFlat (fSt u d (fBSub u d)) r))))
def rRo (d : Nat) (l : RoT d) : List FT := rRow (fSt u d (fBSub u d)) (rSt u d (rBSub u d)) l
end
section
variable (u : MTN) (b : Bool)
def cIn (d : Nat) (x : SmT d) : Nat := match x.2 with
  | .inl (_, e) => cEx u b d e
  | .inr (.inl e) => cEx u b d e
  | .inr (.inr c) => cCo u b d c
def cSm (d : Nat) (x : SmT d) : Nat := cIn u b d x + (if b || dty u (sSm d x).tail then 2 else 0)
def cSt {S : Type} (d : Nat) (f : S → Nat) : SmT d ⊕ S → Nat
  | .inl x => cSm u b d x
  | .inr y => f y
def cBSub : (d : Nat) → BSubT d → Nat
  | 0 => fun _ => 0
  | d + 1 => fun x => cCo u b (d + 1) x.2.1 + (match x.2.2 with
    | .inl (r1, r2) => cRow u b (sSt d (sBSub d)) (cSt u b d (cBSub d)) (wSt d (wBSub d)) r1 + cRow u b (sSt d (sBSub d)) (cSt u b d (cBSub d)) (wSt d (wBSub d)) (r2.getD [])
    | .inr r => cRow u b (sSt d (sBSub d)) (cSt u b d (cBSub d)) (wSt d (wBSub d)) r) + (if b || dty u (sBSub (d + 1) x).tail then 2 else 0)
def cRo (d : Nat) (l : RoT d) : Nat := cRow u b (sSt d (sBSub d)) (cSt u b d (cBSub u b d)) (wSt d (wBSub d)) l
end
section
variable {u : MTN} {α : Type}
theorem cl_sm (d : Nat) : ∀ x, CLN u (sSm d x) → fSm u d x = fSm uZ d x := by
  intro x hc
  obtain ⟨s, x⟩ := x
  rw [sSm] at hc
  obtain ⟨c1, c2⟩ := hc.cons
  rw [fSm, fSm, if_neg c1.2, if_neg (nI_m1 (i := s) (by have := c1.1; dsimp only at this; omega))]
  rcases x with ⟨k, e⟩ | e | c
  · dsimp only at c2 ⊢
    rw [cl_ex d e c2]
  · dsimp only at c2 ⊢
    rw [cl_ex d e c2]
  · dsimp only at c2 ⊢
    rw [cl_co d c c2]
theorem cl_flat {sf : α → List Ste} {ff : MTN → α → List FT} (h : ∀ x, CLN u (sf x) → ff u x = ff uZ x) : ∀ l, CLN u (sRow sf l) → fFlat (ff u) l = fFlat (ff uZ) l := by
  intro l
  induction l with
  | nil => intro _; rfl
  | cons x l ih =>
    intro hc
    rw [sRow] at hc
    obtain ⟨c1, c2⟩ := hc.app
    rw [fFlat, fFlat, h x c1, ih c2]
theorem cl_st {S : Type} {d : Nat} {sf : S → List Ste} {ff : MTN → S → List FT} (h : ∀ x, CLN u (sf x) → ff u x = ff uZ x) : ∀ x, CLN u (sSt d sf x) → fSt u d (ff u) x = fSt uZ d (ff uZ) x := by
  intro x hc
  rcases x with x | y
  · exact cl_sm d x hc
  · exact h y hc
theorem cl_bsub : ∀ d x, CLN u (sBSub d x) → fBSub u d x = fBSub uZ d x := by
  intro d
  induction d with
  | zero => intro x _; rfl
  | succ d ih =>
    intro x hc
    obtain ⟨s, c, x⟩ := x
    have hf := cl_flat (u := u) (ff := fun u => fSt u d (fBSub u d)) (cl_st (d := d) (ff := fun u => fBSub u d) ih)
    rw [sBSub] at hc
    obtain ⟨c1, c2⟩ := hc.cons
    obtain ⟨c2, c3⟩ := c2.app
    dsimp only at c1 c2 c3 hf
    rw [fBSub, fBSub]
    dsimp only
    rw [if_neg c1.2, if_neg (nI_m1 (i := s) (by omega)), cl_co (d + 1) c c2]
    rcases x with ⟨r1, r2⟩ | r
    · dsimp only at c3 ⊢
      obtain ⟨c3, c4⟩ := c3.app
      rw [hf r1 c3, hf _ c4]
    · dsimp only at c3 ⊢
      rw [hf r c3]
theorem cutR_mem {A : FT} {L : List FT} (h : A ∈ cutR L) : A ∈ L := by
  induction L with
  | nil => exact h
  | cons x L ih =>
    rw [cutR] at h
    split at h
    · rw [List.mem_singleton.mp h]; exact List.mem_cons_self
    · rcases List.mem_cons.mp h with h | h
      · rw [h]; exact List.mem_cons_self
      · exact List.mem_cons_of_mem _ (ih h)
def NNL (L : List FT) : Prop := ∀ A, A ∈ L → A ≠ nilT
theorem NNL.nil : NNL [] := fun A h => by cases h
theorem NNL.one {k : Nat} {a : Int32} {b c d : FT} : NNL [nde k a b c d] := fun A h => by rw [List.mem_singleton.mp h]; exact nde_nil
theorem NNL.cut {L : List FT} (h : NNL L) : NNL (cutR L) := fun A hA => h A (cutR_mem hA)
theorem nn_sm {d : Nat} (x : SmT d) : NNL (fSm u d x) := by
  obtain ⟨s, x⟩ := x
  rw [fSm]
  split
  · exact NNL.nil
  · rcases x with ⟨k, e⟩ | e | c
    · dsimp only
      split
      · exact NNL.nil
      · exact NNL.one
    · exact NNL.one
    · dsimp only
      split
      · exact NNL.nil
      · exact NNL.one
theorem nn_flat {f : α → List FT} (h : ∀ x, NNL (f x)) : ∀ l, NNL (fFlat f l) := by
  intro l
  induction l with
  | nil => exact NNL.nil
  | cons x l ih =>
    intro A hA
    rw [fFlat] at hA
    rcases List.mem_append.mp hA with hA | hA
    · exact h x A hA
    · exact ih A hA
theorem nn_st {S : Type} {d : Nat} {f : S → List FT} (h : ∀ x, NNL (f x)) : ∀ x, NNL (fSt u d f x) := by
  intro x
  rcases x with x | y
  · exact nn_sm x
  · exact h y
theorem nn_bsub : ∀ d x, NNL (fBSub u d x) := by
  intro d
  induction d with
  | zero => intro x; exact x.elim
  | succ d ih =>
    intro x
    obtain ⟨s, c, x⟩ := x
    have hf := nn_flat (nn_st (u := u) (d := d) ih)
    rw [fBSub]
    dsimp only
    split
    · exact NNL.nil
    · rcases x with ⟨r1, r2⟩ | r
      · dsimp only
        split
        · exact (hf r1).cut
        · split
          · exact (hf _).cut
          · exact NNL.one
      · dsimp only
        split
        · exact NNL.nil
        · exact NNL.one
end
