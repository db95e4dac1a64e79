/-! FOLDING in the reference: what a tree asks of the table, and what of it may be new -/
section
variable {α : Type} (u : MTN)
def rMo (cb : Int32 → FT → FT → FT) (ff : α → FT) (rf : α → List FT) : FT → List (Nat × Nat × α) → List FT
  | _, [] => []
  | v, q :: l => rf q.2.2 ++ (cb (ov u q.1 q.2.1) v (ff q.2.2)) :: rMo cb ff rf (cb (ov u q.1 q.2.1) v (ff q.2.2)) l
def rCh (cb : Int32 → FT → FT → FT) (ff : α → FT) (rf : α → List FT) (x : Chn α) : List FT := rf x.1 ++ rMo u cb ff rf (ff x.1) x.2
/-- is the changed place there? -/
def dty (S : List Ste) : Bool := S.any (fun e => decide (nI e.1 = u.1))
def cMo (sf : α → List Ste) (cf : α → Nat) : Bool → List (Nat × Nat × α) → Nat
  | _, [] => 0
  | dv, q :: l => cf q.2.2 + (if dv || decide (nI q.1 = u.1) || dty u (sf q.2.2) then 1 else 0) + cMo sf cf (dv || decide (nI q.1 = u.1) || dty u (sf q.2.2)) l
def cCh (b : Bool) (sf : α → List Ste) (cf : α → Nat) (x : Chn α) : Nat := cf x.1 + cMo u sf cf (b || dty u (sf x.1)) x.2
end
section
variable (u : MTN)
def rFa {S : Type} (rf : S → List FT) : Leaf ⊕ S → List FT
  | .inl x => [fLeaf u x]
  | .inr y => rf y
def rSub : (d : Nat) → SubT d → List FT
  | 0 => fun _ => []
  | d + 1 => rCh u fSum (fCh u fSum (fFa u (fSub u d))) (rCh u fSum (fFa u (fSub u d)) (rFa u (rSub d)))
def rTe (d : Nat) : TeT d → List FT := rCh u fSum (fFa u (fSub u d)) (rFa u (rSub u d))
def rEx (d : Nat) : ExT d → List FT := rCh u fSum (fTe u d) (rTe u d)
def rAt {S : Type} (d : Nat) (rf : S → List FT) : CmT d ⊕ S → List FT
  | .inl x => rEx u d x.1 ++ rEx u d x.2.2.2 ++ [fCm u d x]
  | .inr y => rf y
def rCSub : (d : Nat) → CSubT d → List FT
  | 0 => fun _ => []
  | d + 1 => rCh u fBth (fCh u fBth (fAt u d (fCSub u d))) (rCh u fBth (fAt u d (fCSub u d)) (rAt u d (rCSub d)))
def rPa (d : Nat) : PaT d → List FT := rCh u fBth (fAt u d (fCSub u d)) (rAt u d (rCSub u d))
def rCo (d : Nat) : CoT d → List FT := rCh u fBth (fPa u d) (rPa u d)
end
section
variable {u : MTN} {α : Type}
theorem dty_cl {S : List Ste} (h60 : ∀ e, e ∈ S → e.1 < 60) (h : dty u S = false) : CLN u S := by
  intro e he
  refine ⟨h60 e he, fun q => ?_⟩
  have : dty u S = true := List.any_eq_true.mpr ⟨e, he, decide_eq_true q⟩
  rw [h] at this
  cases this
theorem rl_mo {K : Nat} {cb : Int32 → FT → FT → FT} {sf : α → List Ste} {ff : MTN → α → FT} {rf : MTN → α → List FT} (h : ∀ x, CLN u (sf x) → ff u x = ff uZ x) (h2 : ∀ x, CLN u (sf x) → rf u x = rf uZ x) : ∀ l v, CLN u (sMo K sf l) → rMo u cb (ff u) (rf u) v l = rMo uZ cb (ff uZ) (rf uZ) v l := by
  intro l
  induction l with
  | nil => intro v _; rfl
  | cons q l ih =>
    intro v hc
    obtain ⟨c1, c2⟩ := hc.cons
    obtain ⟨c2, c3⟩ := c2.app
    rw [rMo, rMo, ov_cl c1, h q.2.2 c2, h2 q.2.2 c2, ih _ c3]
theorem rl_ch {K : Nat} {cb : Int32 → FT → FT → FT} {sf : α → List Ste} {ff : MTN → α → FT} {rf : MTN → α → List FT} (h : ∀ x, CLN u (sf x) → ff u x = ff uZ x) (h2 : ∀ x, CLN u (sf x) → rf u x = rf uZ x) : ∀ x, CLN u (sCh K sf x) → rCh u cb (ff u) (rf u) x = rCh uZ cb (ff uZ) (rf uZ) x := by
  intro x hc
  obtain ⟨c1, c2⟩ := hc.app
  unfold rCh
  rw [h x.1 c1, h2 x.1 c1, rl_mo h h2 x.2 _ c2]
end
