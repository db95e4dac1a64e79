/-! WHAT IS WRITTEN: the program's tree in the grammar's own shape, by how many brackets may still be opened; and the pieces of code of the class -/
abbrev Chn (α : Type) : Type := α × List (Nat × Nat × α)
/-- a constant (place, value) or a variable (place, slot) -/
abbrev Leaf : Type := (Nat × Nat) ⊕ (Nat × Nat)
def SubT : Nat → Type
  | 0 => Empty
  | d + 1 => Chn (Chn (Leaf ⊕ SubT d))
abbrev FaT (d : Nat) : Type := Leaf ⊕ SubT d
abbrev TeT (d : Nat) : Type := Chn (FaT d)
abbrev ExT (d : Nat) : Type := Chn (TeT d)
/-- left, place, sign, right -/
abbrev CmT (d : Nat) : Type := ExT d × Nat × Nat × ExT d
def CSubT : Nat → Type
  | 0 => Empty
  | d + 1 => Chn (Chn (CmT d ⊕ CSubT d))
abbrev AtT (d : Nat) : Type := CmT d ⊕ CSubT d
abbrev PaT (d : Nat) : Type := Chn (AtT d)
abbrev CoT (d : Nat) : Type := Chn (PaT d)
/-- place; set (slot, expression), return, check -/
abbrev SmT (d : Nat) : Type := Nat × ((Nat × ExT d) ⊕ ExT d ⊕ CoT d)
/-- place, condition; if (row, perhaps another row), while (row) -/
def BSubT : Nat → Type
  | 0 => Empty
  | d + 1 => Nat × CoT (d + 1) × ((List (SmT d ⊕ BSubT d) × Option (List (SmT d ⊕ BSubT d))) ⊕ List (SmT d ⊕ BSubT d))
abbrev StT (d : Nat) : Type := SmT d ⊕ BSubT d
abbrev RoT (d : Nat) : Type := List (StT d)
/-! reading -/
abbrev PR (α : Type) : Type := Option (α × Nat × List Nat)
def isDig (c : Nat) : Bool := decide (48 ≤ c) && decide (c ≤ 57)
def isAdd (c : Nat) : Bool := c == 43 || c == 45
def isMul (c : Nat) : Bool := c == 42 || c == 47 || c == 37
def isCmp (c : Nat) : Bool := c == 60 || c == 62 || c == 61 || c == 35
def slotOf (c : Nat) : Option Nat := if 97 ≤ c ∧ c ≤ 102 then some (c - 97) else if c = 120 then some 6 else if c = 121 then some 7 else none
def pLeaf (p : Nat) : List Nat → PR Leaf
  | [] => none
  | c :: r =>
    if isDig c then
      match r with
      | [] => some (.inl (p, c - 48), p + 1, [])
      | b :: r' => if c ≠ 48 ∧ isDig b then some (.inl (p, (c - 48) * 10 + (b - 48)), p + 2, r') else some (.inl (p, c - 48), p + 1, b :: r')
    else (slotOf c).bind fun k => some (.inr (p, k), p + 1, r)
def pMore {α : Type} (item : Nat → List Nat → PR α) (isop : Nat → Bool) : Nat → Nat → List Nat → PR (List (Nat × Nat × α))
  | 0, p, s => some ([], p, s)
  | _ + 1, p, [] => some ([], p, [])
  | n + 1, p, c :: r => if isop c then (item (p + 1) r).bind fun x => (pMore item isop n x.2.1 x.2.2).bind fun y => some ((p, c, x.1) :: y.1, y.2.1, y.2.2) else some ([], p, c :: r)
def pChn {α : Type} (item : Nat → List Nat → PR α) (isop : Nat → Bool) (p : Nat) (s : List Nat) : PR (Chn α) :=
  (item p s).bind fun x => (pMore item isop 60 x.2.1 x.2.2).bind fun y => some ((x.1, y.1), y.2.1, y.2.2)
def pTok (c : Nat) (p : Nat) : List Nat → Option (Nat × List Nat)
  | [] => none
  | b :: r => if b = c then some (p + 1, r) else none
def pFa {S : Type} (sub : Nat → List Nat → PR S) (p : Nat) : List Nat → PR (Leaf ⊕ S)
  | [] => none
  | c :: r => if c = 40 then (sub (p + 1) r).bind fun x => (pTok 41 x.2.1 x.2.2).bind fun y => some (.inr x.1, y.1, y.2)
    else (pLeaf p (c :: r)).bind fun x => some (.inl x.1, x.2.1, x.2.2)
def pSub : (d : Nat) → Nat → List Nat → PR (SubT d)
  | 0 => fun _ _ => none
  | d + 1 => pChn (pChn (pFa (pSub d)) isMul) isAdd
def pTe (d : Nat) : Nat → List Nat → PR (TeT d) := pChn (pFa (pSub d)) isMul
def pEx (d : Nat) : Nat → List Nat → PR (ExT d) := pChn (pTe d) isAdd
def pCm (d : Nat) (p : Nat) (s : List Nat) : PR (CmT d) :=
  (pEx d p s).bind fun x => match x.2.2 with
    | [] => none
    | c :: r => if isCmp c then (pEx d (x.2.1 + 1) r).bind fun y => some ((x.1, x.2.1, c, y.1), y.2.1, y.2.2) else none
def pAt {S : Type} (d : Nat) (sub : Nat → List Nat → PR S) (p : Nat) : List Nat → PR (CmT d ⊕ S)
  | [] => none
  | c :: r => if c = 91 then (sub (p + 1) r).bind fun x => (pTok 93 x.2.1 x.2.2).bind fun y => some (.inr x.1, y.1, y.2)
    else (pCm d p (c :: r)).bind fun x => some (.inl x.1, x.2.1, x.2.2)
def pCSub : (d : Nat) → Nat → List Nat → PR (CSubT d)
  | 0 => fun _ _ => none
  | d + 1 => pChn (pChn (pAt d (pCSub d)) (fun c => c == 38)) (fun c => c == 124)
def pPa (d : Nat) : Nat → List Nat → PR (PaT d) := pChn (pAt d (pCSub d)) (fun c => c == 38)
def pCo (d : Nat) : Nat → List Nat → PR (CoT d) := pChn (pPa d) (fun c => c == 124)
def pRow {α : Type} (item : Nat → List Nat → PR α) : Nat → Nat → List Nat → PR (List α)
  | 0, p, s => some ([], p, s)
  | _ + 1, p, [] => some ([], p, [])
  | n + 1, p, c :: r => if c = 125 then some ([], p, c :: r) else (item p (c :: r)).bind fun x => (pRow item n x.2.1 x.2.2).bind fun y => some (x.1 :: y.1, y.2.1, y.2.2)
/-- what is no ? and no @ -/
def pSm (d : Nat) (p : Nat) : List Nat → PR (SmT d)
  | [] => none
  | c :: r =>
    if c = 33 then (pCo d (p + 1) r).bind fun x => (pTok 59 x.2.1 x.2.2).bind fun y => some ((p, .inr (.inr x.1)), y.1, y.2)
    else if c = 94 then (pEx d (p + 1) r).bind fun x => (pTok 59 x.2.1 x.2.2).bind fun y => some ((p, .inr (.inl x.1)), y.1, y.2)
    else if 97 ≤ c ∧ c ≤ 102 then (pTok 61 (p + 1) r).bind fun z => (pEx d z.1 z.2).bind fun x => (pTok 59 x.2.1 x.2.2).bind fun y => some ((p, .inl (c - 97, x.1)), y.1, y.2)
    else none
def pBlk {α : Type} (item : Nat → List Nat → PR α) (p : Nat) (s : List Nat) : PR (List α) :=
  (pTok 123 p s).bind fun z => (pRow item 60 z.1 z.2).bind fun x => (pTok 125 x.2.1 x.2.2).bind fun y => some (x.1, y.1, y.2)
def pSt {S : Type} (d : Nat) (bsub : Nat → List Nat → PR S) (p : Nat) : List Nat → PR (SmT d ⊕ S)
  | [] => none
  | c :: r => if c = 63 ∨ c = 64 then (bsub p (c :: r)).bind fun x => some (.inr x.1, x.2.1, x.2.2) else (pSm d p (c :: r)).bind fun x => some (.inl x.1, x.2.1, x.2.2)
def pBSub : (d : Nat) → Nat → List Nat → PR (BSubT d)
  | 0 => fun _ _ => none
  | d + 1 => fun p s => match s with
    | [] => none
    | c :: r => (pCo (d + 1) (p + 1) r).bind fun x => (pBlk (pSt d (pBSub d)) x.2.1 x.2.2).bind fun y =>
      if c = 63 then (if y.2.2.head? = some 123 then (pBlk (pSt d (pBSub d)) y.2.1 y.2.2).bind fun z => some ((p, x.1, .inl (y.1, some z.1)), z.2.1, z.2.2) else some ((p, x.1, .inl (y.1, none)), y.2.1, y.2.2))
      else some ((p, x.1, .inr y.1), y.2.1, y.2.2)
def pRo (d : Nat) : Nat → List Nat → PR (RoT d) := pRow (pSt d (pBSub d)) 60
def pTop (s : List Nat) : Option (RoT 4) := (pRo 4 0 s).bind fun x => if x.2.2 = [] then some x.1 else none
/-! the class's pieces: what, place (of a site, and of what joins), number, jump -/
abbrev Pce : Type := Nat × Nat × Nat × Nat
def jLeaf : Leaf → List Pce
  | .inl (s, v) => [(3, s, v, 0)]
  | .inr (_, k) => [(5, 0, k, 0)]
def jMoE {α : Type} (f : α → List Pce) : List (Nat × Nat × α) → List Pce
  | [] => []
  | q :: l => f q.2.2 ++ (0, q.1, q.2.1, 0) :: jMoE f l
def jChE {α : Type} (f : α → List Pce) (x : Chn α) : List Pce := f x.1 ++ jMoE f x.2
def jFa {S : Type} (f : S → List Pce) : Leaf ⊕ S → List Pce
  | .inl x => jLeaf x
  | .inr y => f y
def jSub : (d : Nat) → SubT d → List Pce
  | 0 => fun _ => []
  | d + 1 => jChE (jChE (jFa (jSub d)))
def jTe (d : Nat) : TeT d → List Pce := jChE (jFa (jSub d))
def jEx (d : Nat) : ExT d → List Pce := jChE (jTe d)
def jCm (d : Nat) (x : CmT d) : List Pce := jEx d x.1 ++ jEx d x.2.2.2 ++ [(1, x.2.1, x.2.2.1, 0)]
def jMoC {α : Type} (f : Nat → α → List Pce) : Nat → List (Nat × Nat × α) → List Pce
  | _, [] => []
  | i, q :: l => (2, q.1, q.2.1, i + (f (i + 1) q.2.2).length + 2) :: f (i + 1) q.2.2 ++ (6, q.1, q.2.1, 0) :: jMoC f (i + (f (i + 1) q.2.2).length + 2) l
def jChC {α : Type} (f : Nat → α → List Pce) (i : Nat) (x : Chn α) : List Pce := f i x.1 ++ jMoC f (i + (f i x.1).length) x.2
def jAt {S : Type} (d : Nat) (f : Nat → S → List Pce) (i : Nat) : CmT d ⊕ S → List Pce
  | .inl x => jCm d x
  | .inr y => f i y
def jCSub : (d : Nat) → Nat → CSubT d → List Pce
  | 0 => fun _ _ => []
  | d + 1 => jChC (jChC (jAt d (jCSub d)))
def jPa (d : Nat) : Nat → PaT d → List Pce := jChC (jAt d (jCSub d))
def jCo (d : Nat) : Nat → CoT d → List Pce := jChC (jPa d)
def jSm (d : Nat) (i : Nat) (x : SmT d) : List Pce := match x.2 with
  | .inl (k, e) => (4, x.1, 0, i + (jEx d e).length + 2) :: jEx d e ++ [(7, 0, k, 0)]
  | .inr (.inl e) => (4, x.1, 0, i + (jEx d e).length + 2) :: jEx d e ++ [(9, 0, 0, 0)]
  | .inr (.inr c) => (4, x.1, 0, i + (jCo d (i + 1) c).length + 2) :: jCo d (i + 1) c ++ [(8, 0, 0, 0)]
def jRow {α : Type} (f : Nat → α → List Pce) : Nat → List α → List Pce
  | _, [] => []
  | i, x :: l => f i x ++ jRow f (i + (f i x).length) l
def jSt {S : Type} (d : Nat) (f : Nat → S → List Pce) (i : Nat) : SmT d ⊕ S → List Pce
  | .inl x => jSm d i x
  | .inr y => f i y
def jBSub : (d : Nat) → Nat → BSubT d → List Pce
  | 0 => fun _ _ => []
  | d + 1 => fun i x =>
    let c := jCo (d + 1) (i + 1) x.2.1
    let k := i + 1 + c.length
    match x.2.2 with
    | .inl (r1, r2) =>
      let a := jRow (jSt d (jBSub d)) (k + 1) r1
      let m := k + 1 + a.length
      let b := jRow (jSt d (jBSub d)) (m + 1) (r2.getD [])
      (4, x.1, 0, m + 1 + b.length + 1) :: c ++ (10, 0, 0, m + 1) :: a ++ (11, 0, if r2.isSome then 1 else 0, m + 1 + b.length + 1) :: b ++ [(12, 0, 0, 0)]
    | .inr r =>
      let a := jRow (jSt d (jBSub d)) (k + 1) r
      (4, x.1, 0, k + 1 + a.length + 1) :: c ++ (13, 0, 0, k + 1 + a.length + 1) :: a ++ [(14, 0, 0, i + 1)]
def jRo (d : Nat) : Nat → RoT d → List Pce := jRow (jSt d (jBSub d))
