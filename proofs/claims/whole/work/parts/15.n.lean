/-! FOLDING: a program is small -/
section
variable {α : Type}
def KE (it : Nat → Nat → α → Prop) (k : α → Nat) : Prop := ∀ p p' x, it p p' x → p + k x ≤ p' ∧ 1 ≤ k x
theorem kn_mo {it : Nat → Nat → α → Prop} {op : Nat → Bool} {k : α → Nat} (h : KE it k) : ∀ l p p', iMo it op p p' l → p + kMo k l ≤ p' := by
  intro l
  induction l with
  | nil => intro p p' hi; exact Nat.le_of_eq hi
  | cons q l ih =>
    intro p p' hi
    obtain ⟨_, _, p1, h1, h2⟩ := hi
    have a := (h _ _ _ h1).1
    have b := ih _ _ h2
    rw [kMo]
    omega
theorem kn_ch {it : Nat → Nat → α → Prop} {op : Nat → Bool} {k : α → Nat} (h : KE it k) : KE (iCh it op) (kCh k) := by
  intro p p' x hi
  obtain ⟨p1, h1, h2⟩ := hi
  obtain ⟨a, a1⟩ := h _ _ _ h1
  have b := kn_mo h _ _ _ h2
  rw [kCh]
  omega
end
theorem kn_fa {S : Type} {f : Nat → Nat → S → Prop} {k : S → Nat} (h : KE f k) : KE (iFa f) (kFa k) := by
  intro p p' x hi
  rcases x with (⟨s, v⟩ | ⟨s, v⟩) | y
  · obtain ⟨h1, h2, h3, h4⟩ := hi
    exact ⟨by rw [kFa]; omega, by rw [kFa]; omega⟩
  · obtain ⟨h1, h2, h3⟩ := hi
    exact ⟨by rw [kFa]; omega, by rw [kFa]; omega⟩
  · obtain ⟨p1, h1, h2⟩ := hi
    obtain ⟨a, b⟩ := h _ _ _ h1
    rw [kFa]
    omega
theorem kn_sub : ∀ d, KE (iSub d) (kSub d) := by
  intro d
  induction d with
  | zero => intro p p' x; exact x.elim
  | succ d ih => exact kn_ch (kn_ch (kn_fa ih))
theorem kn_ex (d : Nat) : KE (iEx d) (kEx d) := kn_ch (kn_ch (kn_fa (kn_sub d)))
theorem kn_at {S : Type} (d : Nat) {f : Nat → Nat → S → Prop} {k : S → Nat} (h : KE f k) : KE (iAt d f) (kAt d k) := by
  intro p p' x hi
  rcases x with x | y
  · obtain ⟨h1, h2, h3⟩ := hi
    obtain ⟨a, b⟩ := kn_ex d _ _ _ h1
    obtain ⟨a', b'⟩ := kn_ex d _ _ _ h3
    rw [kAt, kCm]
    omega
  · obtain ⟨p1, h1, h2⟩ := hi
    obtain ⟨a, b⟩ := h _ _ _ h1
    rw [kAt]
    omega
theorem kn_csub : ∀ d, KE (iCSub d) (kCSub d) := by
  intro d
  induction d with
  | zero => intro p p' x; exact x.elim
  | succ d ih => exact kn_ch (kn_ch (kn_at d ih))
theorem kn_co (d : Nat) : KE (iCo d) (kCo d) := kn_ch (kn_ch (kn_at d (kn_csub d)))
def KN {α : Type} (it : Nat → Nat → α → Prop) (k w : α → Nat) (d : Nat) : Prop := ∀ p p' x, it p p' x → k x + w x + p ≤ p' + d * w x ∧ 3 * w x + p ≤ p'
theorem kn_row {α : Type} {it : Nat → Nat → α → Prop} {k w : α → Nat} {d : Nat} (h : KN it k w d) : ∀ l p p', iRow it p p' l → kRw k l + kRw w l + p ≤ p' + d * kRw w l ∧ 3 * kRw w l + p ≤ p' := by
  intro l
  induction l with
  | nil =>
    intro p p' hi
    have : p = p' := hi
    rw [kRw, kRw]
    omega
  | cons x l ih =>
    intro p p' hi
    obtain ⟨p1, h1, h2⟩ := hi
    obtain ⟨a, b⟩ := h _ _ _ h1
    obtain ⟨a', b'⟩ := ih _ _ h2
    rw [kRw, kRw, Nat.mul_add]
    omega
theorem kn_blk {α : Type} {it : Nat → Nat → α → Prop} {k w : α → Nat} {d : Nat} (h : KN it k w d) : ∀ l p p', iBlk it p p' l → kRw k l + kRw w l + p + 2 ≤ p' + d * kRw w l ∧ 3 * kRw w l + p + 2 ≤ p' := by
  intro l p p' hi
  obtain ⟨p1, h1, h2⟩ := hi
  obtain ⟨a, b⟩ := kn_row h _ _ _ h1
  omega
theorem kn_st {S : Type} (d : Nat) {f : Nat → Nat → S → Prop} {k w : S → Nat} (h : KN f k w d) : KN (iSt d f) (kSt d k) (wSt d w) d := by
  intro p p' x hi
  rcases x with ⟨s, x⟩ | y
  · rw [kSt, wSt, kSm]
    rcases x with ⟨k, e⟩ | e | c
    · obtain ⟨_, _, p1, h1, h2⟩ := hi
      obtain ⟨a, b⟩ := kn_ex d _ _ _ h1
      dsimp only at a b ⊢
      omega
    · obtain ⟨_, p1, h1, h2⟩ := hi
      obtain ⟨a, b⟩ := kn_ex d _ _ _ h1
      dsimp only at a b ⊢
      omega
    · obtain ⟨_, p1, h1, h2⟩ := hi
      obtain ⟨a, b⟩ := kn_co d _ _ _ h1
      dsimp only at a b ⊢
      omega
  · exact h _ _ _ hi
theorem kn_max {d a b : Nat} : d * (a + b) ≤ d * max 1 (a + b) := Nat.mul_le_mul_left d (Nat.le_max_right _ _)
theorem kn_bsub : ∀ d, KN (iBSub d) (kBSub d) (wBSub d) d := by
  intro d
  induction d with
  | zero => intro p p' x; exact x.elim
  | succ d ih =>
    intro p p' x hi
    obtain ⟨s, c, x⟩ := x
    have hb := kn_blk (kn_st d ih)
    obtain ⟨_, p1, h1, h2⟩ := hi
    obtain ⟨a, b⟩ := kn_co (d + 1) _ _ _ h1
    rcases x with ⟨r1, r2⟩ | r
    · have e1 : kBSub (d + 1) (s, c, .inl (r1, r2)) = kCo (d + 1) c + 1 + (kRw (kSt d (kBSub d)) r1 + kRw (wSt d (wBSub d)) r1 + (kRw (kSt d (kBSub d)) (r2.getD []) + kRw (wSt d (wBSub d)) (r2.getD []))) := rfl
      have e2 : wBSub (d + 1) (s, c, .inl (r1, r2)) = max 1 (kRw (wSt d (wBSub d)) r1 + kRw (wSt d (wBSub d)) (r2.getD [])) := rfl
      rw [e1, e2, Nat.add_mul d 1]
      have hm := kn_max (d := d) (a := kRw (wSt d (wBSub d)) r1) (b := kRw (wSt d (wBSub d)) (r2.getD []))
      rw [Nat.mul_add] at hm
      rcases r2 with _ | t
      · obtain ⟨g1, g2⟩ := hb _ _ _ h2
        have z1 : kRw (kSt d (kBSub d)) ((none : Option (List (SmT d ⊕ BSubT d))).getD []) = 0 := rfl
        have z2 : kRw (wSt d (wBSub d)) ((none : Option (List (SmT d ⊕ BSubT d))).getD []) = 0 := rfl
        rw [z2] at hm ⊢
        rw [z1]
        dsimp only at a b
        omega
      · obtain ⟨p2, h2, h3⟩ := h2
        obtain ⟨g1, g2⟩ := hb _ _ _ h2
        obtain ⟨g3, g4⟩ := hb _ _ _ h3
        rw [Option.getD_some] at hm ⊢
        dsimp only at a b
        omega
    · have e1 : kBSub (d + 1) (s, c, .inr r) = kCo (d + 1) c + 1 + (kRw (kSt d (kBSub d)) r + kRw (wSt d (wBSub d)) r) := rfl
      have e2 : wBSub (d + 1) (s, c, .inr r) = max 1 (kRw (wSt d (wBSub d)) r) := rfl
      rw [e1, e2, Nat.add_mul d 1]
      have hm := kn_max (d := d) (a := kRw (wSt d (wBSub d)) r) (b := 0)
      rw [Nat.add_zero] at hm
      obtain ⟨g1, g2⟩ := hb _ _ _ h2
      dsimp only at a b
      omega
theorem kn_ro (d : Nat) : KN (iRo d) (kRo d) (wRo d) d := fun p p' x h => kn_row (kn_st d (kn_bsub d)) x p p' h
/-- a text of sixty -/
theorem kn_top {p p' : Nat} {x : RoT 4} (h : iRo 4 p p' x) (hp : p' ≤ 60 + p) : wRo 4 x ≤ 20 ∧ kRo 4 x + wRo 4 x ≤ 140 := by
  obtain ⟨a, b⟩ := kn_ro 4 p p' x h
  omega
