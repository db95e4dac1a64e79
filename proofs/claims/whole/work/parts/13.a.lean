/-! WHERE A TREE IS WRITTEN: from p up to p' -/
section
variable {α : Type}
def iMo (it : Nat → Nat → α → Prop) (op : Nat → Bool) : Nat → Nat → List (Nat × Nat × α) → Prop
  | p, p', [] => p = p'
  | p, p', q :: l => q.1 = p ∧ op q.2.1 = true ∧ ∃ p1, it (p + 1) p1 q.2.2 ∧ iMo it op p1 p' l
def iCh (it : Nat → Nat → α → Prop) (op : Nat → Bool) (p p' : Nat) (x : Chn α) : Prop := ∃ p1, it p p1 x.1 ∧ iMo it op p1 p' x.2
def iRow (it : Nat → Nat → α → Prop) : Nat → Nat → List α → Prop
  | p, p', [] => p = p'
  | p, p', x :: l => ∃ p1, it p p1 x ∧ iRow it p1 p' l
def iBlk (it : Nat → Nat → α → Prop) (p p' : Nat) (l : List α) : Prop := ∃ p1, iRow it (p + 1) p1 l ∧ p' = p1 + 1
def PI (item : Nat → List Nat → PR α) (it : Nat → Nat → α → Prop) : Prop := ∀ p s x p' s', item p s = some (x, p', s') → it p p' x
end
def iLeaf (p p' : Nat) : Leaf → Prop
  | .inl (s, v) => s = p ∧ v ≤ 99 ∧ p < p' ∧ p' ≤ p + 2
  | .inr (s, k) => s = p ∧ k < 8 ∧ p' = p + 1
def iFa {S : Type} (f : Nat → Nat → S → Prop) (p p' : Nat) : Leaf ⊕ S → Prop
  | .inl x => iLeaf p p' x
  | .inr y => ∃ p1, f (p + 1) p1 y ∧ p' = p1 + 1
def iSub : (d : Nat) → Nat → Nat → SubT d → Prop
  | 0 => fun _ _ _ => False
  | d + 1 => iCh (iCh (iFa (iSub d)) isMul) isAdd
def iTe (d : Nat) : Nat → Nat → TeT d → Prop := iCh (iFa (iSub d)) isMul
def iEx (d : Nat) : Nat → Nat → ExT d → Prop := iCh (iTe d) isAdd
def iCm (d p p' : Nat) (x : CmT d) : Prop := iEx d p x.2.1 x.1 ∧ isCmp x.2.2.1 = true ∧ iEx d (x.2.1 + 1) p' x.2.2.2
def iAt {S : Type} (d : Nat) (f : Nat → Nat → S → Prop) (p p' : Nat) : CmT d ⊕ S → Prop
  | .inl x => iCm d p p' x
  | .inr y => ∃ p1, f (p + 1) p1 y ∧ p' = p1 + 1
def iCSub : (d : Nat) → Nat → Nat → CSubT d → Prop
  | 0 => fun _ _ _ => False
  | d + 1 => iCh (iCh (iAt d (iCSub d)) (fun c => c == 38)) (fun c => c == 124)
def iPa (d : Nat) : Nat → Nat → PaT d → Prop := iCh (iAt d (iCSub d)) (fun c => c == 38)
def iCo (d : Nat) : Nat → Nat → CoT d → Prop := iCh (iPa d) (fun c => c == 124)
def iSm (d p p' : Nat) (x : SmT d) : Prop := x.1 = p ∧ match x.2 with
  | .inl (k, e) => k < 6 ∧ ∃ p1, iEx d (p + 2) p1 e ∧ p' = p1 + 1
  | .inr (.inl e) => ∃ p1, iEx d (p + 1) p1 e ∧ p' = p1 + 1
  | .inr (.inr c) => ∃ p1, iCo d (p + 1) p1 c ∧ p' = p1 + 1
def iSt {S : Type} (d : Nat) (f : Nat → Nat → S → Prop) (p p' : Nat) : SmT d ⊕ S → Prop
  | .inl x => iSm d p p' x
  | .inr y => f p p' y
def iBSub : (d : Nat) → Nat → Nat → BSubT d → Prop
  | 0 => fun _ _ _ => False
  | d + 1 => fun p p' x => x.1 = p ∧ ∃ p1, iCo (d + 1) (p + 1) p1 x.2.1 ∧ match x.2.2 with
    | .inl (r, none) => iBlk (iSt d (iBSub d)) p1 p' r
    | .inl (r, some t) => ∃ p2, iBlk (iSt d (iBSub d)) p1 p2 r ∧ iBlk (iSt d (iBSub d)) p2 p' t
    | .inr r => iBlk (iSt d (iBSub d)) p1 p' r
def iRo (d : Nat) : Nat → Nat → RoT d → Prop := iRow (iSt d (iBSub d))
/-! what is read is written there -/
theorem pi_leaf : PI pLeaf iLeaf := by
  intro p s x p' s' h
  rw [pLeaf.eq_def] at h
  rcases s with _ | ⟨c, r⟩
  · cases h
  · dsimp only at h
    by_cases hd : isDig c = true
    · rw [if_pos hd] at h
      have hdd : 48 ≤ c ∧ c ≤ 57 := by
        unfold isDig at hd; simp only [Bool.and_eq_true, decide_eq_true_eq] at hd; exact hd
      rcases r with _ | ⟨b, r'⟩
      · cases h; exact ⟨rfl, by omega, by omega, by omega⟩
      · dsimp only at h
        by_cases q : c ≠ 48 ∧ isDig b = true
        · rw [if_pos q] at h
          have hbb : 48 ≤ b ∧ b ≤ 57 := by
            have := q.2
            unfold isDig at this; simp only [Bool.and_eq_true, decide_eq_true_eq] at this; exact this
          cases h; exact ⟨rfl, by omega, by omega, by omega⟩
        · rw [if_neg q] at h
          cases h; exact ⟨rfl, by omega, by omega, by omega⟩
    · rw [if_neg hd] at h
      rcases hs : slotOf c with _ | k
      · rw [hs] at h; cases h
      · rw [hs] at h
        have hk := (z_slt hs).1
        cases h; exact ⟨rfl, hk, rfl⟩
section
variable {α : Type} {item : Nat → List Nat → PR α} {it : Nat → Nat → α → Prop}
theorem pi_more (op : Nat → Bool) (hI : PI item it) : ∀ n p s l p' s', pMore item op n p s = some (l, p', s') → iMo it op p p' l := by
  intro n
  induction n with
  | zero => intro p s l p' s' h; rw [pMore] at h; cases h; exact rfl
  | succ n ih =>
    intro p s l p' s' h
    rcases s with _ | ⟨c, r⟩
    · rw [pMore] at h; cases h; exact rfl
    · rw [pMore] at h
      by_cases ho : op c = true
      · rw [if_pos ho] at h
        obtain ⟨x, h1, h⟩ := ob_el h
        obtain ⟨y, h2, h⟩ := ob_el h
        cases h
        exact ⟨rfl, ho, _, hI _ _ _ _ _ h1, ih _ _ _ _ _ h2⟩
      · rw [if_neg ho] at h
        cases h; exact rfl
theorem pi_chn (op : Nat → Bool) (hI : PI item it) : PI (pChn item op) (iCh it op) := by
  intro p s x p' s' h
  rw [pChn] at h
  obtain ⟨x, h1, h⟩ := ob_el h
  obtain ⟨y, h2, h⟩ := ob_el h
  cases h
  exact ⟨_, hI _ _ _ _ _ h1, pi_more op hI _ _ _ _ _ _ h2⟩
theorem pTok_s {c p : Nat} {s : List Nat} {y : Nat × List Nat} (h : pTok c p s = some y) : y.1 = p + 1 := by
  rcases s with _ | ⟨b, r⟩
  · cases h
  · rw [pTok] at h
    split at h
    · cases h; rfl
    · cases h
theorem pi_fa {S : Type} {sub : Nat → List Nat → PR S} {f : Nat → Nat → S → Prop} (hS : PI sub f) : PI (pFa sub) (iFa f) := by
  intro p s x p' s' h
  rcases s with _ | ⟨c, r⟩
  · cases h
  · rw [pFa] at h
    split at h
    · obtain ⟨x, h1, h⟩ := ob_el h
      obtain ⟨y, h2, h⟩ := ob_el h
      cases h
      exact ⟨_, hS _ _ _ _ _ h1, pTok_s h2⟩
    · obtain ⟨x, h1, h⟩ := ob_el h
      cases h
      exact pi_leaf _ _ _ _ _ h1
theorem pi_row (hI : PI item it) : ∀ n p s l p' s', pRow item n p s = some (l, p', s') → iRow it p p' l := by
  intro n
  induction n with
  | zero => intro p s l p' s' h; rw [pRow] at h; cases h; exact rfl
  | succ n ih =>
    intro p s l p' s' h
    rcases s with _ | ⟨c, r⟩
    · rw [pRow] at h; cases h; exact rfl
    · rw [pRow] at h
      split at h
      · cases h; exact rfl
      · obtain ⟨x, h1, h⟩ := ob_el h
        obtain ⟨y, h2, h⟩ := ob_el h
        cases h
        exact ⟨_, hI _ _ _ _ _ h1, ih _ _ _ _ _ h2⟩
theorem pi_blk (hI : PI item it) : PI (pBlk item) (iBlk it) := by
  intro p s x p' s' h
  rw [pBlk] at h
  obtain ⟨z, h1, h⟩ := ob_el h
  obtain ⟨x, h2, h⟩ := ob_el h
  obtain ⟨y, h3, h⟩ := ob_el h
  cases h
  have := pi_row hI _ _ _ _ _ _ h2
  rw [pTok_s h1] at this
  exact ⟨_, this, pTok_s h3⟩
end
theorem pi_sub : ∀ d, PI (pSub d) (iSub d) := by
  intro d
  induction d with
  | zero => intro p s x p' s' h; cases h
  | succ d ih => exact pi_chn _ (pi_chn _ (pi_fa ih))
theorem pi_ex (d : Nat) : PI (pEx d) (iEx d) := pi_chn _ (pi_chn _ (pi_fa (pi_sub d)))
theorem pi_cm (d : Nat) : PI (pCm d) (iCm d) := by
  intro p s x p' s' h
  rw [pCm] at h
  obtain ⟨⟨x1, p1, s1⟩, h1, h⟩ := ob_el h
  dsimp only at h
  rcases s1 with _ | ⟨c, r⟩
  · cases h
  · dsimp only at h
    split at h
    · rename_i hc
      obtain ⟨y, h2, h⟩ := ob_el h
      cases h
      exact ⟨pi_ex d _ _ _ _ _ h1, hc, pi_ex d _ _ _ _ _ h2⟩
    · cases h
theorem pi_at {S : Type} (d : Nat) {sub : Nat → List Nat → PR S} {f : Nat → Nat → S → Prop} (hS : PI sub f) : PI (pAt d sub) (iAt d f) := by
  intro p s x p' s' h
  rcases s with _ | ⟨c, r⟩
  · cases h
  · rw [pAt] at h
    split at h
    · obtain ⟨x, h1, h⟩ := ob_el h
      obtain ⟨y, h2, h⟩ := ob_el h
      cases h
      exact ⟨_, hS _ _ _ _ _ h1, pTok_s h2⟩
    · obtain ⟨x, h1, h⟩ := ob_el h
      cases h
      exact pi_cm d _ _ _ _ _ h1
theorem pi_csub : ∀ d, PI (pCSub d) (iCSub d) := by
  intro d
  induction d with
  | zero => intro p s x p' s' h; cases h
  | succ d ih => exact pi_chn _ (pi_chn _ (pi_at d ih))
theorem pi_co (d : Nat) : PI (pCo d) (iCo d) := pi_chn _ (pi_chn _ (pi_at d (pi_csub d)))
theorem pi_sm (d : Nat) : PI (pSm d) (iSm d) := by
  intro p s x p' s' h
  rcases s with _ | ⟨c, r⟩
  · cases h
  · rw [pSm] at h
    split at h
    · obtain ⟨x, h1, h⟩ := ob_el h
      obtain ⟨y, h2, h⟩ := ob_el h
      cases h
      exact ⟨rfl, _, pi_co d _ _ _ _ _ h1, pTok_s h2⟩
    · split at h
      · obtain ⟨x, h1, h⟩ := ob_el h
        obtain ⟨y, h2, h⟩ := ob_el h
        cases h
        exact ⟨rfl, _, pi_ex d _ _ _ _ _ h1, pTok_s h2⟩
      · split at h
        · rename_i hc
          obtain ⟨z, h0, h⟩ := ob_el h
          obtain ⟨x, h1, h⟩ := ob_el h
          obtain ⟨y, h2, h⟩ := ob_el h
          cases h
          have := pi_ex d _ _ _ _ _ h1
          rw [pTok_s h0] at this
          exact ⟨rfl, by omega, _, this, pTok_s h2⟩
        · cases h
theorem pi_st {S : Type} (d : Nat) {sub : Nat → List Nat → PR S} {f : Nat → Nat → S → Prop} (hS : PI sub f) : PI (pSt d sub) (iSt d f) := by
  intro p s x p' s' h
  rcases s with _ | ⟨c, r⟩
  · cases h
  · rw [pSt] at h
    split at h
    · obtain ⟨x, h1, h⟩ := ob_el h
      cases h
      exact hS _ _ _ _ _ h1
    · obtain ⟨x, h1, h⟩ := ob_el h
      cases h
      exact pi_sm d _ _ _ _ _ h1
theorem pi_bsub : ∀ d, PI (pBSub d) (iBSub d) := by
  intro d
  induction d with
  | zero => intro p s x p' s' h; cases h
  | succ d ih =>
    intro p s x p' s' h
    rcases s with _ | ⟨c, r⟩
    · cases h
    · rw [pBSub] at h
      dsimp only at h
      obtain ⟨x, h1, h⟩ := ob_el h
      obtain ⟨y, h2, h⟩ := ob_el h
      have k1 := pi_co (d + 1) _ _ _ _ _ h1
      have k2 := pi_blk (pi_st d ih) _ _ _ _ _ h2
      split at h
      · split at h
        · obtain ⟨z, h3, h⟩ := ob_el h
          cases h
          exact ⟨rfl, _, k1, _, k2, pi_blk (pi_st d ih) _ _ _ _ _ h3⟩
        · cases h
          exact ⟨rfl, _, k1, k2⟩
      · cases h
        exact ⟨rfl, _, k1, k2⟩
/-- a whole program -/
theorem pi_top {T : List Nat} {x : RoT 4} (hT : T.length ≤ 60) (h : pTop T = some x) (hp : ∀ p s, pRo 4 0 T = some (x, p, s) → p ≤ T.length) : ∃ p', p' ≤ 60 ∧ iRo 4 0 p' x := by
  rw [pTop] at h
  obtain ⟨⟨y, p', s'⟩, h1, h⟩ := ob_el h
  dsimp only at h
  split at h
  · cases h
    exact ⟨p', Nat.le_trans (hp _ _ h1) hT, pi_row (pi_st 4 (pi_bsub 4)) _ _ _ _ _ _ h1⟩
  · cases h
