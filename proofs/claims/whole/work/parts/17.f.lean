/-! FOLDING in the reference: how much may be new -/
section
variable (u : MTN) (b : Bool)
def cFa {S : Type} (cf : S → Nat) : Leaf ⊕ S → Nat
  | .inl x => if b || dty u (sLeaf x) then 1 else 0
  | .inr y => cf y
def cSub : (d : Nat) → SubT d → Nat
  | 0 => fun _ => 0
  | d + 1 => cCh u b (sCh 0 (sFa (sSub d))) (cCh u b (sFa (sSub d)) (cFa u b (cSub d)))
def cTe (d : Nat) : TeT d → Nat := cCh u b (sFa (sSub d)) (cFa u b (cSub u b d))
def cEx (d : Nat) : ExT d → Nat := cCh u b (sTe d) (cTe u b d)
def cAt {S : Type} (d : Nat) (cf : S → Nat) : CmT d ⊕ S → Nat
  | .inl x => cEx u b d x.1 + cEx u b d x.2.2.2 + (if b || dty u (sCm d x) then 1 else 0)
  | .inr y => cf y
def cCSub : (d : Nat) → CSubT d → Nat
  | 0 => fun _ => 0
  | d + 1 => cCh u b (sCh 2 (sAt d (sCSub d))) (cCh u b (sAt d (sCSub d)) (cAt u b d (cCSub d)))
def cPa (d : Nat) : PaT d → Nat := cCh u b (sAt d (sCSub d)) (cAt u b d (cCSub u b d))
def cCo (d : Nat) : CoT d → Nat := cCh u b (sPa d) (cPa u b d)
end
section
variable {u : MTN} {α : Type}
/-- at the first pass all is new -/
theorem ct_mo {sf : α → List Ste} {cf kf : α → Nat} (h : ∀ x, cf x = kf x) : ∀ l, cMo u sf cf true l = kMo kf l := by
  intro l
  induction l with
  | nil => rfl
  | cons q l ih =>
    rw [cMo, kMo, h, Bool.true_or, Bool.true_or, if_pos rfl, ih]
theorem ct_ch {sf : α → List Ste} {cf kf : α → Nat} (h : ∀ x, cf x = kf x) : ∀ x, cCh u true sf cf x = kCh kf x := by
  intro x
  rw [cCh, kCh, h, Bool.true_or, ct_mo h]
theorem ct_fa {S : Type} {cf kf : S → Nat} (h : ∀ x, cf x = kf x) : ∀ x, cFa u true cf x = kFa kf x := by
  intro x
  rcases x with x | y
  · show (if true || dty u (sLeaf x) then 1 else 0) = 1
    rw [Bool.true_or, if_pos rfl]
  · exact h y
theorem ct_sub : ∀ d x, cSub u true d x = kSub d x := by
  intro d
  induction d with
  | zero => intro x; rfl
  | succ d ih => exact ct_ch (ct_ch (ct_fa ih))
theorem ct_ex (d : Nat) : ∀ x, cEx u true d x = kEx d x := ct_ch (ct_ch (ct_fa (ct_sub d)))
theorem ct_at {S : Type} {d : Nat} {cf kf : S → Nat} (h : ∀ x, cf x = kf x) : ∀ x, cAt u true d cf x = kAt d kf x := by
  intro x
  rcases x with x | y
  · show cEx u true d x.1 + cEx u true d x.2.2.2 + (if true || dty u (sCm d x) then 1 else 0) = kEx d x.1 + kEx d x.2.2.2 + 1
    rw [Bool.true_or, if_pos rfl, ct_ex, ct_ex]
  · exact h y
theorem ct_csub : ∀ d x, cCSub u true d x = kCSub d x := by
  intro d
  induction d with
  | zero => intro x; rfl
  | succ d ih => exact ct_ch (ct_ch (ct_at ih))
theorem ct_co (d : Nat) : ∀ x, cCo u true d x = kCo d x := ct_ch (ct_ch (ct_at (ct_csub d)))
end
