/-! WHAT THE MODEL HOLDS: code and nodes -/
/-- kind, value, site -/
abbrev Mce : Type := Nat × Nat × Nat
/-- kind, a, b, c, site -/
abbrev Nde : Type := Nat × Int32 × Int32 × Int32 × Int32
def hasSt (k : Nat) : Bool := k == 1 || k == 2 || k == 5 || k == 6 || k == 7 || k == 15
def MkAt (B : Nat) (mK : MdK) (j : Nat) (q : Mce) : Prop :=
  mK.2.1 (B + j) = nI q.1 ∧ mK.2.2.1 (B + j) = nI q.2.1 ∧ mK.2.2.2 (B + j) = if hasSt q.1 = true then nI q.2.2 else -1
/-- what lies outside the half that is written -/
def OUK (B : Nat) (a b : MdK) : Prop := ∀ j, j < B ∨ B + 256 ≤ j → a.2.1 j = b.2.1 j ∧ a.2.2.1 j = b.2.2.1 j ∧ a.2.2.2 j = b.2.2.2 j
def OUN (B : Nat) (a b : MdN) : Prop := ∀ j, j < B ∨ B + 256 ≤ j → a.2.1 j = b.2.1 j ∧ a.2.2.1 j = b.2.2.1 j ∧ a.2.2.2.1 j = b.2.2.2.1 j ∧ a.2.2.2.2.1 j = b.2.2.2.2.1 j ∧ a.2.2.2.2.2 j = b.2.2.2.2.2 j
def KV (B : Nat) (O : MdK × MdN) (mK : MdK) (C : List Mce) : Prop := mK.1 = nI C.length ∧ (∀ j q, C[j]? = some q → MkAt B mK j q) ∧ OUK B O.1 mK
def NdAt (B : Nat) (mN : MdN) (j : Nat) (q : Nde) : Prop :=
  mN.2.1 (B + j) = nI q.1 ∧ mN.2.2.1 (B + j) = q.2.1 ∧ mN.2.2.2.1 (B + j) = q.2.2.1 ∧ mN.2.2.2.2.1 (B + j) = q.2.2.2.1 ∧ mN.2.2.2.2.2 (B + j) = q.2.2.2.2
def NV (B : Nat) (O : MdK × MdN) (mN : MdN) (D : List Nde) : Prop := mN.1 = nI D.length ∧ (∀ j q, D[j]? = some q → NdAt B mN j q) ∧ OUN B O.2 mN
/-! code, by the number of its first piece (the half's start counted) -/
def mLeaf : Leaf → List Mce
  | .inl (s, v) => [(2, v, s)]
  | .inr (_, k) => if k < 6 then [(4, k, 0)] else [(3, k + 114, 0)]
def mMoE {α : Type} (f : α → List Mce) : List (Nat × Nat × α) → List Mce
  | [] => []
  | q :: l => f q.2.2 ++ (5, q.2.1, q.1) :: mMoE f l
def mChE {α : Type} (f : α → List Mce) (x : Chn α) : List Mce := f x.1 ++ mMoE f x.2
def mFa {S : Type} (f : S → List Mce) : Leaf ⊕ S → List Mce
  | .inl x => mLeaf x
  | .inr y => f y
def mSub : (d : Nat) → SubT d → List Mce
  | 0 => fun _ => []
  | d + 1 => mChE (mChE (mFa (mSub d)))
def mTe (d : Nat) : TeT d → List Mce := mChE (mFa (mSub d))
def mEx (d : Nat) : ExT d → List Mce := mChE (mTe d)
def mCm (d : Nat) (x : CmT d) : List Mce := mEx d x.1 ++ mEx d x.2.2.2 ++ [(6, x.2.2.1, x.2.1)]
def shK (c : Nat) : Nat := if c = 38 then 7 else 15
def mMoC {α : Type} (f : Nat → α → List Mce) : Nat → List (Nat × Nat × α) → List Mce
  | _, [] => []
  | i, q :: l => (shK q.2.1, i + 1 + (f (i + 1) q.2.2).length, q.1) :: f (i + 1) q.2.2 ++ mMoC f (i + 1 + (f (i + 1) q.2.2).length) l
def mChC {α : Type} (f : Nat → α → List Mce) (i : Nat) (x : Chn α) : List Mce := f i x.1 ++ mMoC f (i + (f i x.1).length) x.2
def mAt {S : Type} (d : Nat) (f : Nat → S → List Mce) (i : Nat) : CmT d ⊕ S → List Mce
  | .inl x => mCm d x
  | .inr y => f i y
def mCSub : (d : Nat) → Nat → CSubT d → List Mce
  | 0 => fun _ _ => []
  | d + 1 => mChC (mChC (mAt d (mCSub d)))
def mPa (d : Nat) : Nat → PaT d → List Mce := mChC (mAt d (mCSub d))
def mCo (d : Nat) : Nat → CoT d → List Mce := mChC (mPa d)
def mSm (d : Nat) (i : Nat) (x : SmT d) : List Mce := match x.2 with
  | .inl (k, e) => (1, i + (mEx d e).length + 2, x.1) :: mEx d e ++ [(8, k, 0)]
  | .inr (.inl e) => (1, i + (mEx d e).length + 2, x.1) :: mEx d e ++ [(13, 0, 0)]
  | .inr (.inr c) => (1, i + (mCo d (i + 1) c).length + 2, x.1) :: mCo d (i + 1) c ++ [(12, 0, 0)]
def mRow {α : Type} (f : Nat → α → List Mce) : Nat → List α → List Mce
  | _, [] => []
  | i, x :: l => f i x ++ mRow f (i + (f i x).length) l
def mSt {S : Type} (d : Nat) (f : Nat → S → List Mce) (i : Nat) : SmT d ⊕ S → List Mce
  | .inl x => mSm d i x
  | .inr y => f i y
def mBSub : (d : Nat) → Nat → BSubT d → List Mce
  | 0 => fun _ _ => []
  | d + 1 => fun i x =>
    let c := mCo (d + 1) (i + 1) x.2.1
    let k := i + 1 + c.length
    match x.2.2 with
    | .inl (r1, none) =>
      let a := mRow (mSt d (mBSub d)) (k + 1) r1
      (1, k + 1 + a.length, x.1) :: c ++ (9, k + 1 + a.length, 0) :: a
    | .inl (r1, some r2) =>
      let a := mRow (mSt d (mBSub d)) (k + 1) r1
      let m := k + 1 + a.length
      let b := mRow (mSt d (mBSub d)) (m + 1) r2
      (1, m + 1 + b.length, x.1) :: c ++ (9, m + 1, 0) :: a ++ (10, m + 1 + b.length, 0) :: b
    | .inr r =>
      let a := mRow (mSt d (mBSub d)) (k + 2) r
      (1, k + 2 + a.length + 1, x.1) :: c ++ (9, k + 2 + a.length + 1, 0) :: (11, 0, 0) :: a ++ [(10, i + 1, 0)]
def mRo (d : Nat) : Nat → RoT d → List Mce := mRow (mSt d (mBSub d))
/-! nodes: by the number of the next node (from the half's start); the last of a list that isn't empty is the thing's own -/
def nid (B m : Nat) (l : List Nde) : Int32 := nI (B + m + l.length - 1)
def nLeaf : Leaf → List Nde
  | .inl (s, v) => [(0, nI v, 0, 0, nI s)]
  | .inr (_, k) => if k < 6 then [(2, nI k, 0, 0, -1)] else [(1, nI (k + 114), 0, 0, -1)]
def nMoE {α : Type} (K : Nat) (B : Nat) (f : Nat → α → List Nde) : Int32 → Nat → List (Nat × Nat × α) → List Nde
  | _, _, [] => []
  | v, m, q :: l => f m q.2.2 ++ (K, nI q.2.1, v, nid B m (f m q.2.2), nI q.1) :: nMoE K B f (nI (B + m + (f m q.2.2).length)) (m + (f m q.2.2).length + 1) l
def nChE {α : Type} (K : Nat) (B : Nat) (f : Nat → α → List Nde) (m : Nat) (x : Chn α) : List Nde := f m x.1 ++ nMoE K B f (nid B m (f m x.1)) (m + (f m x.1).length) x.2
def nFa {S : Type} (f : Nat → S → List Nde) (m : Nat) : Leaf ⊕ S → List Nde
  | .inl x => nLeaf x
  | .inr y => f m y
def nSub (B : Nat) : (d : Nat) → Nat → SubT d → List Nde
  | 0 => fun _ _ => []
  | d + 1 => nChE 3 B (nChE 3 B (nFa (nSub B d)))
def nTe (B d : Nat) : Nat → TeT d → List Nde := nChE 3 B (nFa (nSub B d))
def nEx (B d : Nat) : Nat → ExT d → List Nde := nChE 3 B (nTe B d)
def nCm (B d m : Nat) (x : CmT d) : List Nde :=
  let l := nEx B d m x.1
  let r := nEx B d (m + l.length) x.2.2.2
  l ++ r ++ [(4, nI x.2.2.1, nid B m l, nid B (m + l.length) r, nI x.2.1)]
def nAt {S : Type} (B d : Nat) (f : Nat → S → List Nde) (m : Nat) : CmT d ⊕ S → List Nde
  | .inl x => nCm B d m x
  | .inr y => f m y
def nCSub (B : Nat) : (d : Nat) → Nat → CSubT d → List Nde
  | 0 => fun _ _ => []
  | d + 1 => nChE 5 B (nChE 5 B (nAt B d (nCSub B d)))
def nPa (B d : Nat) : Nat → PaT d → List Nde := nChE 5 B (nAt B d (nCSub B d))
def nCo (B d : Nat) : Nat → CoT d → List Nde := nChE 5 B (nPa B d)
def nSm (B d m : Nat) (x : SmT d) : List Nde := match x.2 with
  | .inl (k, e) => nEx B d m e ++ [(6, nI k, nid B m (nEx B d m e), 0, nI x.1)]
  | .inr (.inl e) => nEx B d m e ++ [(10, nid B m (nEx B d m e), -1, -1, nI x.1)]
  | .inr (.inr c) => nCo B d m c ++ [(9, nid B m (nCo B d m c), -1, -1, nI x.1)]
/-- the statements' nodes, and their numbers -/
def nRowS {α : Type} (B : Nat) (f : Nat → α → List Nde) : Nat → List α → List Nde
  | _, [] => []
  | m, x :: l => f m x ++ nRowS B f (m + (f m x).length) l
def nRowI {α : Type} (B : Nat) (f : Nat → α → List Nde) : Nat → List α → List Int32
  | _, [] => []
  | m, x :: l => nid B m (f m x) :: nRowI B f (m + (f m x).length) l
/-- the list's nodes, made from the last item on -/
def nLst (B : Nat) : Int32 → Nat → List Int32 → List Nde
  | _, _, [] => []
  | v, m, x :: l => (11, x, v, 0, -1) :: nLst B (nI (B + m)) (m + 1) l
def nRow {α : Type} (B : Nat) (f : Nat → α → List Nde) (m : Nat) (l : List α) : List Nde := nRowS B f m l ++ nLst B (-1) (m + (nRowS B f m l).length) (nRowI B f m l).reverse
def nSt {S : Type} (B d : Nat) (f : Nat → S → List Nde) (m : Nat) : SmT d ⊕ S → List Nde
  | .inl x => nSm B d m x
  | .inr y => f m y
/-- is a list empty? -/
def nRix {α : Type} (B : Nat) (m : Nat) (l : List α) (L : List Nde) : Int32 := match l with
  | [] => -1
  | _ :: _ => nid B m L
def nBSub (B : Nat) : (d : Nat) → Nat → BSubT d → List Nde
  | 0 => fun _ _ => []
  | d + 1 => fun m x =>
    let c := nCo B (d + 1) m x.2.1
    match x.2.2 with
    | .inl (r1, none) =>
      let a := nRow B (nSt B d (nBSub B d)) (m + c.length) r1
      c ++ a ++ [(7, nid B m c, nRix B (m + c.length) r1 a, -1, nI x.1)]
    | .inl (r1, some r2) =>
      let a := nRow B (nSt B d (nBSub B d)) (m + c.length) r1
      let b := nRow B (nSt B d (nBSub B d)) (m + c.length + a.length) r2
      c ++ a ++ b ++ [(7, nid B m c, nRix B (m + c.length) r1 a, nRix B (m + c.length + a.length) r2 b, nI x.1)]
    | .inr r =>
      let a := nRow B (nSt B d (nBSub B d)) (m + c.length) r
      c ++ a ++ [(8, nid B m c, nRix B (m + c.length) r a, 0, nI x.1)]
def nRo (B d : Nat) : Nat → RoT d → List Nde := nRow B (nSt B d (nBSub B d))
