/-! FOLDING: the folded program as a term (a tree type that is there) -/
abbrev FT : Type := Std.Format
def nde (k : Nat) (a : Int32) (b c d : FT) : FT := .tag k (.nest a.toInt (.append b (.append c d)))
abbrev nilT : FT := Std.Format.nil
theorem nde_inj {k k' : Nat} {a a' : Int32} {b c d b' c' d' : FT} (h : nde k a b c d = nde k' a' b' c' d') : k = k' ∧ a = a' ∧ b = b' ∧ c = c' ∧ d = d' := by
  unfold nde at h
  injection h with h1 h2
  injection h2 with h3 h4
  injection h4 with h5 h6
  injection h6 with h7 h8
  exact ⟨h1, Int32.toInt_inj.mp h3, h5, h7, h8⟩
theorem nde_nil {k : Nat} {a : Int32} {b c d : FT} : nde k a b c d ≠ nilT := by
  unfold nde
  intro h
  cases h
abbrev cstT (v : Int32) : FT := nde 1 v nilT nilT nilT
abbrev varT (k : Int32) : FT := nde 2 k nilT nilT nilT
abbrev opT (o : Int32) (a b : FT) : FT := nde 3 o a b nilT
abbrev asgT (k : Int32) (e : FT) : FT := nde 4 k e nilT nilT
abbrev chkT (c : FT) : FT := nde 5 0 c nilT nilT
abbrev retT (e : FT) : FT := nde 6 0 e nilT nilT
abbrev iteT (c t e : FT) : FT := nde 7 0 c t e
abbrev whlT (c b : FT) : FT := nde 8 0 c b nilT
abbrev lstC (h t : FT) : FT := nde 9 0 h t nilT
abbrev truT : FT := nde 10 0 nilT nilT nilT
abbrev flsT : FT := nde 11 0 nilT nilT nilT
/-- the kind and the number at its root -/
def knd : FT → Nat
  | .tag k _ => k
  | _ => 0
def num : FT → Int32
  | .tag _ (.nest v _) => Int32.ofInt v
  | _ => 0
theorem knd_nde {k : Nat} {a : Int32} {b c d : FT} : knd (nde k a b c d) = k := rfl
theorem num_nde {k : Nat} {a : Int32} {b c d : FT} : num (nde k a b c d) = a := Int32.ofInt_toInt a
theorem knd_nil : knd nilT = 0 := rfl
/-! folding by the rules -/
def fSum2 (o : Int32) (a b : FT) : FT :=
  if (o = 43 ∨ o = 45) ∧ knd b = 1 ∧ num b = 0 ∨ (o = 42 ∨ o = 47) ∧ knd b = 1 ∧ num b = 1 then a
  else if o = 43 ∧ knd a = 1 ∧ num a = 0 ∨ o = 42 ∧ knd a = 1 ∧ num a = 1 then b else opT o a b
def fSum (o : Int32) (a b : FT) : FT := if knd a = 1 ∧ knd b = 1 ∧ f7_traps o (num b) = some 0 then cstT ((f7_arithmetic o (num a) (num b)).getD 0) else fSum2 o a b
def fCmp (o : Int32) (a b : FT) : FT := if knd a = 1 ∧ knd b = 1 then (if f7_comparison o (num a) (num b) = some 0 then flsT else truT) else opT o a b
def fBth (o : Int32) (a b : FT) : FT :=
  if o = 38 then (if knd a = 10 then b else if knd a = 11 ∨ knd b = 10 then a else opT o a b)
  else (if knd a = 11 then b else if knd a = 10 ∨ knd b = 11 then a else opT o a b)
/-- what stands behind a return is left out -/
def cutR : List FT → List FT
  | [] => []
  | x :: l => if knd x = 6 then [x] else x :: cutR l
def lstT : List FT → FT
  | [] => nilT
  | x :: l => lstC x (lstT l)
/-- which place is changed, and what stands there -/
abbrev MTN : Type := Int32 × Int32
def ov (u : MTN) (s n : Nat) : Int32 := if nI s = u.1 then u.2 else nI n
section
variable {α : Type} (u : MTN)
def fMo (cb : Int32 → FT → FT → FT) (f : α → FT) : FT → List (Nat × Nat × α) → FT
  | v, [] => v
  | v, q :: l => fMo cb f (cb (ov u q.1 q.2.1) v (f q.2.2)) l
def fCh (cb : Int32 → FT → FT → FT) (f : α → FT) (x : Chn α) : FT := fMo u cb f (f x.1) x.2
def fFlat (f : α → List FT) : List α → List FT
  | [] => []
  | x :: l => f x ++ fFlat f l
end
section
variable (u : MTN)
def fLeaf : Leaf → FT
  | .inl (s, v) => cstT (ov u s v)
  | .inr (_, k) => varT (nI k)
def fFa {S : Type} (f : S → FT) : Leaf ⊕ S → FT
  | .inl x => fLeaf u x
  | .inr y => f y
def fSub : (d : Nat) → SubT d → FT
  | 0 => fun _ => nilT
  | d + 1 => fCh u fSum (fCh u fSum (fFa u (fSub d)))
def fTe (d : Nat) : TeT d → FT := fCh u fSum (fFa u (fSub u d))
def fEx (d : Nat) : ExT d → FT := fCh u fSum (fTe u d)
def fCm (d : Nat) (x : CmT d) : FT := fCmp (ov u x.2.1 x.2.2.1) (fEx u d x.1) (fEx u d x.2.2.2)
def fAt {S : Type} (d : Nat) (f : S → FT) : CmT d ⊕ S → FT
  | .inl x => fCm u d x
  | .inr y => f y
def fCSub : (d : Nat) → CSubT d → FT
  | 0 => fun _ => nilT
  | d + 1 => fCh u fBth (fCh u fBth (fAt u d (fCSub d)))
def fPa (d : Nat) : PaT d → FT := fCh u fBth (fAt u d (fCSub u d))
def fCo (d : Nat) : CoT d → FT := fCh u fBth (fPa u d)
def fSm (d : Nat) (x : SmT d) : List FT := if nI x.1 = u.1 then [] else match x.2 with
  | .inl (k, e) => if knd (fEx u d e) = 2 ∧ num (fEx u d e) = nI k then [] else [asgT (nI k) (fEx u d e)]
  | .inr (.inl e) => [retT (fEx u d e)]
  | .inr (.inr c) => if knd (fCo u d c) = 10 then [] else [chkT (fCo u d c)]
def fSt {S : Type} (d : Nat) (f : S → List FT) : SmT d ⊕ S → List FT
  | .inl x => fSm u d x
  | .inr y => f y
def fBSub : (d : Nat) → BSubT d → List FT
  | 0 => fun _ => []
  | d + 1 => fun x => if nI x.1 = u.1 then [] else match x.2.2 with
    | .inl (r1, r2) =>
      let a := cutR (fFlat (fSt u d (fBSub d)) r1)
      let b := cutR (fFlat (fSt u d (fBSub d)) (r2.getD []))
      if knd (fCo u (d + 1) x.2.1) = 10 then a else if knd (fCo u (d + 1) x.2.1) = 11 then b else [iteT (fCo u (d + 1) x.2.1) (lstT a) (lstT b)]
    | .inr r => if knd (fCo u (d + 1) x.2.1) = 11 then [] else [whlT (fCo u (d + 1) x.2.1) (lstT (cutR (fFlat (fSt u d (fBSub d)) r)))]
def fRo (d : Nat) (l : RoT d) : List FT := cutR (fFlat (fSt u d (fBSub u d)) l)
end
theorem cutR_app {L M : List FT} : cutR (L ++ cutR M) = cutR (L ++ M) := by
  induction L with
  | nil =>
    rw [List.nil_append, List.nil_append]
    induction M with
    | nil => rfl
    | cons x M ih =>
      rw [cutR]
      by_cases h : knd x = 6
      · rw [if_pos h]
        exact if_pos h
      · rw [if_neg h, cutR, if_neg h, ih]
  | cons x L ih =>
    rw [List.cons_append, List.cons_append, cutR, cutR, ih]
theorem lstT_inj {L M : List FT} (h : lstT L = lstT M) : L = M := by
  induction L generalizing M with
  | nil =>
    cases M with
    | nil => rfl
    | cons y M => exact absurd h.symm nde_nil
  | cons x L ih =>
    cases M with
    | nil => exact absurd h nde_nil
    | cons y M =>
      obtain ⟨_, _, h1, h2, _⟩ := nde_inj h
      rw [h1, ih h2]
