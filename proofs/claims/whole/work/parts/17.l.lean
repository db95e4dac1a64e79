/-! FOLDING in the reference: what statements and rows ask for, and how much may be new -/
def own2 : List FT → List FT
  | [] => []
  | X :: l => match l with
    | [] => [X, lstC X nilT]
    | _ :: _ => []
def ownI (C : FT) (La Lb : List FT) : List FT := if knd C = 10 ∨ knd C = 11 then [] else [iteT C (lstT La) (lstT Lb), lstC (iteT C (lstT La) (lstT Lb)) nilT]
def ownW (C : FT) (La : List FT) : List FT := if knd C = 11 then [] else [whlT C (lstT La), lstC (whlT C (lstT La)) nilT]
section
variable {α : Type}
def rJ (ff : α → List FT) : List α → List FT
  | [] => []
  | x :: l => rJ ff l ++ jrq (ff x) (cutR (fFlat ff l))
def rRow (ff rf : α → List FT) (l : List α) : List FT := fFlat rf l ++ rJ ff l
def cJ (u : MTN) (b : Bool) (sf : α → List Ste) (wf : α → Nat) : List α → Nat
  | [] => 0
  | x :: l => cJ u b sf wf l + (if b || dty u (sRow sf (x :: l)) then wf x else 0)
def cRow (u : MTN) (b : Bool) (sf : α → List Ste) (cf wf : α → Nat) (l : List α) : Nat := kRw cf l + cJ u b sf wf l
end
/-- the cells that a statement's row may want in front of another: none, if it ends with a return -/
def wjS {S : Type} (d : Nat) (f : S → Nat) : SmT d ⊕ S → Nat
  | .inl x => match x.2 with
    | .inl _ => 1
    | .inr (.inl _) => 0
    | .inr (.inr _) => 1
  | .inr y => f y
def wjB : (d : Nat) → BSubT d → Nat
  | 0 => fun _ => 1
  | d + 1 => fun x => match x.2.2 with
    | .inl (r1, r2) => max 1 (kRw (wjS d (wjB d)) r1 + kRw (wjS d (wjB d)) (r2.getD []))
    | .inr r => max 1 (kRw (wjS d (wjB d)) r)
def wjR (d : Nat) : RoT d → Nat := kRw (wjS d (wjB d))
section
variable (u : MTN)
def rIn (d : Nat) (x : SmT d) : List FT := match x.2 with
  | .inl (_, e) => rEx u d e
  | .inr (.inl e) => rEx u d e
  | .inr (.inr c) => rCo u d c
def rSm (d : Nat) (x : SmT d) : List FT := rIn u d x ++ own2 (fSm u d x)
def rSt {S : Type} (d : Nat) (f : S → List FT) : SmT d ⊕ S → List FT
  | .inl x => rSm u d x
  | .inr y => f y
def rBSub : (d : Nat) → BSubT d → List FT
  | 0 => fun _ => []
  | d + 1 => fun x => rCo u (d + 1) x.2.1 ++ (match x.2.2 with
    | .inl (r1, r2) => rRow (fSt u d (fBSub u d)) (rSt u d (rBSub d)) r1 ++ rRow (fSt u d (fBSub u d)) (rSt u d (rBSub d)) (r2.getD []) ++ (if nI x.1 = u.1 then [] else ownI (fCo u (d + 1) x.2.1) (cutR (fFlat (fSt u d (fBSub u d)) r1)) (cutR (fFlat (fSt u d (fBSub u d)) (r2.getD []))))
    | .inr r => rRow (fSt u d (fBSub u d)) (rSt u d (rBSub d)) r ++ (if nI x.1 = u.1 then [] else ownW (fCo u (d + 1) x.2.1) (cutR (fFlat (fSt u d (fBSub u d)) r))))
def rRo (d : Nat) (l : RoT d) : List FT := rRow (fSt u d (fBSub u d)) (rSt u d (rBSub u d)) l
end
section
variable (u : MTN) (b : Bool)
def cIn (d : Nat) (x : SmT d) : Nat := match x.2 with
  | .inl (_, e) => cEx u b d e
  | .inr (.inl e) => cEx u b d e
  | .inr (.inr c) => cCo u b d c
def cSm (d : Nat) (x : SmT d) : Nat := cIn u b d x + (if b || dty u (sSm d x).tail then 2 else 0)
def cSt {S : Type} (d : Nat) (f : S → Nat) : SmT d ⊕ S → Nat
  | .inl x => cSm u b d x
  | .inr y => f y
def cBSub : (d : Nat) → BSubT d → Nat
  | 0 => fun _ => 0
  | d + 1 => fun x => cCo u b (d + 1) x.2.1 + (match x.2.2 with
    | .inl (r1, r2) => cRow u b (sSt d (sBSub d)) (cSt u b d (cBSub d)) (wjS d (wjB d)) r1 + cRow u b (sSt d (sBSub d)) (cSt u b d (cBSub d)) (wjS d (wjB d)) (r2.getD [])
    | .inr r => cRow u b (sSt d (sBSub d)) (cSt u b d (cBSub d)) (wjS d (wjB d)) r) + (if b || dty u (sBSub (d + 1) x).tail then 2 else 0)
def cRo (d : Nat) (l : RoT d) : Nat := cRow u b (sSt d (sBSub d)) (cSt u b d (cBSub u b d)) (wjS d (wjB d)) l
end
section
variable {u : MTN} {α : Type}
theorem clf_sm (d : Nat) : ∀ x, CLN u (sSm d x) → fSm u d x = fSm uZ d x := by
  intro x hc
  obtain ⟨s, x⟩ := x
  rw [sSm] at hc
  obtain ⟨c1, c2⟩ := hc.cons
  rw [fSm, fSm, if_neg c1.2, if_neg (nI_m1 (i := s) (by have := c1.1; dsimp only at this; omega))]
  rcases x with ⟨k, e⟩ | e | c
  · dsimp only at c2 ⊢
    rw [cl_ex d e c2]
  · dsimp only at c2 ⊢
    rw [cl_ex d e c2]
  · dsimp only at c2 ⊢
    rw [cl_co d c c2]
theorem clf_flat {sf : α → List Ste} {ff : MTN → α → List FT} (h : ∀ x, CLN u (sf x) → ff u x = ff uZ x) : ∀ l, CLN u (sRow sf l) → fFlat (ff u) l = fFlat (ff uZ) l := by
  intro l
  induction l with
  | nil => intro _; rfl
  | cons x l ih =>
    intro hc
    rw [sRow] at hc
    obtain ⟨c1, c2⟩ := hc.app
    rw [fFlat, fFlat, h x c1, ih c2]
theorem clf_st {S : Type} {d : Nat} {sf : S → List Ste} {ff : MTN → S → List FT} (h : ∀ x, CLN u (sf x) → ff u x = ff uZ x) : ∀ x, CLN u (sSt d sf x) → fSt u d (ff u) x = fSt uZ d (ff uZ) x := by
  intro x hc
  rcases x with x | y
  · exact clf_sm d x hc
  · exact h y hc
theorem clf_bsub : ∀ d x, CLN u (sBSub d x) → fBSub u d x = fBSub uZ d x := by
  intro d
  induction d with
  | zero => intro x _; rfl
  | succ d ih =>
    intro x hc
    obtain ⟨s, c, x⟩ := x
    have hf := clf_flat (u := u) (ff := fun u => fSt u d (fBSub u d)) (clf_st (d := d) (ff := fun u => fBSub u d) ih)
    rw [sBSub] at hc
    obtain ⟨c1, c2⟩ := hc.cons
    obtain ⟨c2, c3⟩ := c2.app
    dsimp only at c1 c2 c3 hf
    rw [fBSub, fBSub]
    dsimp only
    rw [if_neg c1.2, if_neg (nI_m1 (i := s) (by omega)), cl_co (d + 1) c c2]
    rcases x with ⟨r1, r2⟩ | r
    · dsimp only at c3 ⊢
      obtain ⟨c3, c4⟩ := c3.app
      rw [hf r1 c3, hf _ c4]
    · dsimp only at c3 ⊢
      rw [hf r c3]
theorem cutR_mem {A : FT} {L : List FT} (h : A ∈ cutR L) : A ∈ L := by
  induction L with
  | nil => exact h
  | cons x L ih =>
    rw [cutR] at h
    split at h
    · rw [List.mem_singleton.mp h]; exact List.mem_cons_self
    · rcases List.mem_cons.mp h with h | h
      · rw [h]; exact List.mem_cons_self
      · exact List.mem_cons_of_mem _ (ih h)
theorem cutR_cut {L : List FT} : cutR (cutR L) = cutR L := cutR_app (L := [])
def NOR (L : List FT) : Prop := ∀ A, A ∈ L → knd A ≠ 6
theorem cutR_nor : ∀ L, NOR (cutR L) → cutR L = L := by
  intro L
  induction L with
  | nil => intro _; rfl
  | cons x L ih =>
    intro h
    rw [cutR] at h ⊢
    by_cases w : knd x = 6
    · rw [if_pos w] at h
      exact absurd w (h x List.mem_cons_self)
    · rw [if_neg w] at h ⊢
      rw [ih (fun A hA => h A (List.mem_cons_of_mem _ hA))]
/-- what stands in front of a row, with a return at its end, or without -/
def CRW (L : List FT) (w : Nat) : Prop := cutR L = L ∧ (NOR L → L.length ≤ w)
theorem CRW.nil {w : Nat} : CRW [] w := ⟨rfl, fun _ => Nat.zero_le _⟩
theorem CRW.one {X : FT} {w : Nat} (h : 1 ≤ w) : CRW [X] w := by
  refine ⟨?_, fun _ => h⟩
  rw [cutR]
  split <;> rfl
theorem CRW.cut {L : List FT} {w v : Nat} (h : NOR L → L.length ≤ w) (hv : w ≤ v) : CRW (cutR L) v := by
  refine ⟨cutR_cut, fun q => ?_⟩
  have e := cutR_nor L q
  rw [e] at q ⊢
  exact Nat.le_trans (h q) hv
theorem wj_flat {f : α → List FT} {w : α → Nat} (h : ∀ x, CRW (f x) (w x)) : ∀ l, NOR (fFlat f l) → (fFlat f l).length ≤ kRw w l := by
  intro l
  induction l with
  | nil => intro _; exact Nat.le_refl _
  | cons x l ih =>
    intro q
    rw [fFlat] at q ⊢
    rw [kRw, List.length_append]
    exact Nat.add_le_add ((h x).2 (fun A hA => q A (List.mem_append_left _ hA))) (ih (fun A hA => q A (List.mem_append_right _ hA)))
theorem wj_sm {d : Nat} {S : Type} {f : S → Nat} (x : SmT d) : CRW (fSm u d x) (wjS d f (.inl x)) := by
  obtain ⟨s, x⟩ := x
  rw [fSm]
  split
  · exact CRW.nil
  · rcases x with ⟨k, e⟩ | e | c
    · dsimp only
      split
      · exact CRW.nil
      · exact CRW.one (Nat.le_refl _)
    · exact ⟨rfl, fun q => absurd knd_nde (q _ List.mem_cons_self)⟩
    · dsimp only
      split
      · exact CRW.nil
      · exact CRW.one (Nat.le_refl _)
theorem wj_st {S : Type} {d : Nat} {f : S → List FT} {w : S → Nat} (h : ∀ x, CRW (f x) (w x)) : ∀ x, CRW (fSt u d f x) (wjS d w x) := by
  intro x
  rcases x with x | y
  · exact wj_sm x
  · exact h y
theorem wj_bsub : ∀ d x, CRW (fBSub u d x) (wjB d x) := by
  intro d
  induction d with
  | zero => intro x; exact x.elim
  | succ d ih =>
    intro x
    obtain ⟨s, c, x⟩ := x
    have hf := wj_flat (wj_st (u := u) (d := d) ih)
    rw [fBSub, wjB]
    dsimp only
    split
    · exact CRW.nil
    · rcases x with ⟨r1, r2⟩ | r
      · dsimp only
        split
        · exact CRW.cut (hf r1) (by omega)
        · split
          · exact CRW.cut (hf _) (by omega)
          · exact CRW.one (by omega)
      · dsimp only
        split
        · exact CRW.nil
        · exact CRW.one (by omega)
def NNL (L : List FT) : Prop := ∀ A, A ∈ L → A ≠ nilT
theorem NNL.nil : NNL [] := fun A h => by cases h
theorem NNL.one {k : Nat} {a : Int32} {b c d : FT} : NNL [nde k a b c d] := fun A h => by rw [List.mem_singleton.mp h]; exact nde_nil
theorem NNL.cut {L : List FT} (h : NNL L) : NNL (cutR L) := fun A hA => h A (cutR_mem hA)
theorem nn_sm {d : Nat} (x : SmT d) : NNL (fSm u d x) := by
  obtain ⟨s, x⟩ := x
  rw [fSm]
  split
  · exact NNL.nil
  · rcases x with ⟨k, e⟩ | e | c
    · dsimp only
      split
      · exact NNL.nil
      · exact NNL.one
    · exact NNL.one
    · dsimp only
      split
      · exact NNL.nil
      · exact NNL.one
theorem nn_flat {f : α → List FT} (h : ∀ x, NNL (f x)) : ∀ l, NNL (fFlat f l) := by
  intro l
  induction l with
  | nil => exact NNL.nil
  | cons x l ih =>
    intro A hA
    rw [fFlat] at hA
    rcases List.mem_append.mp hA with hA | hA
    · exact h x A hA
    · exact ih A hA
theorem nn_st {S : Type} {d : Nat} {f : S → List FT} (h : ∀ x, NNL (f x)) : ∀ x, NNL (fSt u d f x) := by
  intro x
  rcases x with x | y
  · exact nn_sm x
  · exact h y
theorem nn_bsub : ∀ d x, NNL (fBSub u d x) := by
  intro d
  induction d with
  | zero => intro x; exact x.elim
  | succ d ih =>
    intro x
    obtain ⟨s, c, x⟩ := x
    have hf := nn_flat (nn_st (u := u) (d := d) ih)
    rw [fBSub]
    dsimp only
    split
    · exact NNL.nil
    · rcases x with ⟨r1, r2⟩ | r
      · dsimp only
        split
        · exact (hf r1).cut
        · split
          · exact (hf _).cut
          · exact NNL.one
      · dsimp only
        split
        · exact NNL.nil
        · exact NNL.one
end
