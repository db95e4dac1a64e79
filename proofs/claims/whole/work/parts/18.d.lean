/-! ROOM of the reference's table: statements and rows -/
section
variable {u : MTN} {α : Type}
theorem cz_row {sf : α → List Ste} {cf wj : α → Nat} (h : ∀ x, CLN u (sf x) → cf x = 0) : ∀ l, CLN u (sRow sf l) → cRow u false sf cf wj l = 0 := by
  intro l
  unfold cRow
  induction l with
  | nil => intro _; rfl
  | cons x l ih =>
    intro hc
    have hd := dty_cln hc
    rw [sRow] at hc
    obtain ⟨c1, c2⟩ := hc.app
    have := ih c2
    rw [kRw, cJ, h x c1, hd, Bool.or_false, if_neg (by decide)]
    omega
theorem cz_in (d : Nat) (x : SmT d) (h : CLN u (sSm d x).tail) : cIn u false d x = 0 := by
  obtain ⟨s, x⟩ := x
  rcases x with ⟨k, e⟩ | e | c
  · exact cz_ex d e h
  · exact cz_ex d e h
  · exact cz_co d c h
theorem cz_sm (d : Nat) : ∀ x, CLN u (sSm d x) → cSm u false d x = 0 := by
  intro x hc
  have h : CLN u (sSm d x).tail := by
    rw [sSm] at hc ⊢
    exact hc.cons.2
  rw [cSm, cz_in d x h, dty_cln h]
  rfl
theorem cz_st {S : Type} {d : Nat} {sf : S → List Ste} {cf : S → Nat} (h : ∀ x, CLN u (sf x) → cf x = 0) : ∀ x, CLN u (sSt d sf x) → cSt u false d cf x = 0 := by
  intro x hc
  rcases x with x | y
  · exact cz_sm d x hc
  · exact h y hc
theorem cz_bsub : ∀ d x, CLN u (sBSub d x) → cBSub u false d x = 0 := by
  intro d
  induction d with
  | zero => intro x; exact x.elim
  | succ d ih =>
    intro x hc
    obtain ⟨s, c, x⟩ := x
    have hr := cz_row (wj := wjS d (wjB d)) (cz_st (u := u) (d := d) ih)
    have ht : CLN u (sBSub (d + 1) (s, c, x)).tail := by
      rw [sBSub] at hc ⊢
      exact hc.cons.2
    have ht' := ht
    rw [sBSub, List.tail_cons] at ht'
    obtain ⟨c2, c3⟩ := ht'.app
    rw [cBSub]
    dsimp only at c2 c3 ⊢
    rw [dty_cln ht, cz_co (d + 1) c c2]
    rcases x with ⟨r1, r2⟩ | r
    · dsimp only at c3 ⊢
      rw [hr r1 c3.app.1, hr _ c3.app.2]
      rfl
    · dsimp only at c3 ⊢
      rw [hr r c3]
      rfl
end
def SB {α : Type} (it : Nat → Nat → α → Prop) (sf : α → List Ste) (cf : MTN → α → Nat) (c1 wj : α → Nat) (d : Nat) : Prop :=
  ∀ p k x, it p (p + k) x → p + k ≤ 60 → RBP d k (muS (sf x)) (wj x) (Sg (sf x) (fun s => cf (pu s) x)) 1 ∧ c1 x ≤ k + d * wj x
def RB {α : Type} (it : Nat → Nat → α → Prop) (sf : α → List Ste) (cf : MTN → α → Nat) (c1 wj : α → Nat) (d : Nat) : Prop :=
  ∀ l p k, iRow it p (p + k) l → p + k ≤ 60 → RBP d k (muS (sRow sf l)) (kRw wj l) (Sg (sRow sf l) (fun s => cRow (pu s) false sf (cf (pu s)) wj l)) 0 ∧ cRow uZ true sf c1 wj l ≤ k + (d + 1) * kRw wj l
section
variable {α : Type}
theorem rb_row {it : Nat → Nat → α → Prop} {sf : α → List Ste} {cf : MTN → α → Nat} {c1 wj : α → Nat} {d : Nat} (hd : d ≤ 4) (hs : ∀ p p' x, it p p' x → SIN p p' (sf x)) (hz : ∀ u x, CLN u (sf x) → cf u x = 0) (h : SB it sf cf c1 wj d) : RB it sf cf c1 wj d := by
  intro l
  induction l with
  | nil =>
    intro p k hi h60
    have : k = 0 := by
      have : p = p + k := hi
      omega
    subst this
    exact ⟨rb_nil, Nat.zero_le _⟩
  | cons x l ih =>
    intro p k hi h60
    obtain ⟨p1, i1, i2⟩ := hi
    have s1 := hs _ _ _ i1
    have s2 := sin_row hs _ _ _ i2
    have s11 := s1.1
    have s21 := s2.1
    obtain ⟨k1, rfl⟩ : ∃ k1, p1 = p + k1 := ⟨p1 - p, by omega⟩
    obtain ⟨k2, hk2⟩ : ∃ k2, p + k = p + k1 + k2 := ⟨p + k - (p + k1), by omega⟩
    rw [hk2] at i2 s2
    obtain ⟨g1, g2⟩ := h p k1 x i1 (by omega)
    obtain ⟨f1, f2⟩ := ih (p + k1) k2 i2 (by omega)
    have hk : k = k1 + k2 := by omega
    subst hk
    have es : sRow sf (x :: l) = sf x ++ sRow sf l := rfl
    have em : muS (sRow sf (x :: l)) = muS (sf x) + muS (sRow sf l) := by rw [es, muS_app]
    have ew : kRw wj (x :: l) = wj x + kRw wj l := rfl
    have ec : ∀ u b (cc : α → Nat), cRow u b sf cc wj (x :: l) = cc x + cRow u b sf cc wj l + (if b || dty u (sRow sf (x :: l)) then wj x else 0) := by
      intro u b cc
      rw [cRow, cRow, kRw, cJ]
      omega
    have c1' : Sg (sf x) (fun t => cRow (pu t) false sf (cf (pu t)) wj (x :: l)) = Sg (sf x) (fun s => cf (pu s) x) + muS (sf x) * wj x := by
      rw [← Sg_cst, ← Sg_add]
      refine Sg_cong (fun e he => ?_)
      obtain ⟨b1, b2, _⟩ := s1.2.2 e he
      have c2 : CLN (pu e.1) (sRow sf l) := cln_pu s2 (by omega) (by omega) (.inl (by omega))
      rw [ec, cz_row (hz (pu e.1)) l c2, es, dty_pu (List.mem_append_left _ he), Bool.or_true, if_pos rfl, Nat.add_zero]
    have c2' : Sg (sRow sf l) (fun t => cRow (pu t) false sf (cf (pu t)) wj (x :: l)) = Sg (sRow sf l) (fun s => cRow (pu s) false sf (cf (pu s)) wj l) + muS (sRow sf l) * wj x := by
      rw [← Sg_cst, ← Sg_add]
      refine Sg_cong (fun e he => ?_)
      obtain ⟨b1, b2, _⟩ := s2.2.2 e he
      have c2 : CLN (pu e.1) (sf x) := cln_pu s1 (by omega) (by omega) (.inr (by omega))
      rw [ec, hz _ x c2, es, dty_pu (List.mem_append_right _ he), Bool.or_true, if_pos rfl, Nat.zero_add]
    have et : Sg (sRow sf (x :: l)) (fun t => cRow (pu t) false sf (cf (pu t)) wj (x :: l)) = Sg (sf x) (fun s => cf (pu s) x) + Sg (sRow sf l) (fun s => cRow (pu s) false sf (cf (pu s)) wj l) + 1 * (wj x * (muS (sf x) + muS (sRow sf l))) := by
      rw [es, Sg_app, c1', c2', Nat.one_mul, Nat.mul_add, Nat.mul_comm (wj x), Nat.mul_comm (wj x)]
      omega
    rw [em, ew, et]
    refine ⟨rb_two hd g1 f1 (Nat.le_refl _) rfl, ?_⟩
    rw [ec, Bool.true_or, if_pos rfl, Nat.mul_add]
    rw [Nat.add_mul, Nat.one_mul] at f2 ⊢
    rw [Nat.add_mul d 1 (kRw wj l), Nat.one_mul]
    omega
end
theorem sb_sm (d : Nat) : SB (iSm d) (sSm d) (fun u => cSm u false d) (cSm uZ true d) (fun x => wjS (S := Empty) d (fun _ => 0) (.inl x)) d := by
  intro p k x hi h60
  obtain ⟨s, x⟩ := x
  have hs := sin_sm d _ _ _ hi
  obtain ⟨rfl, hi⟩ := hi
  dsimp only at hi h60 hs
  -- over all places
  have gen : ∀ (S : List Ste) (q : Nat), s + 1 ≤ q → SIN q (s + k) S → sSm d (s, x) = (s, 4, 0) :: S → muS (sSm d (s, x)) = 1 + muS S ∧ Sg (sSm d (s, x)) (fun t => cSm (pu t) false d (s, x)) = Sg S (fun t => cIn (pu t) false d (s, x)) + muS S * 2 := by
    intro S q hq h1 e
    have hq2 := h1.1
    have ec : ∀ u, cSm u false d (s, x) = cIn u false d (s, x) + (if dty u S then 2 else 0) := by
      intro u
      rw [cSm, e, List.tail_cons, Bool.false_or]
    have c0 : cSm (pu s) false d (s, x) = 0 := by
      have c : CLN (pu s) S := cln_pu h1 (by omega) (by omega) (.inl (by omega))
      rw [ec, cz_in d (s, x) (by rw [e]; exact c), dty_cln c]
      rfl
    have c1 : Sg S (fun t => cSm (pu t) false d (s, x)) = Sg S (fun t => cIn (pu t) false d (s, x)) + muS S * 2 := by
      rw [← Sg_cst, ← Sg_add]
      refine Sg_cong (fun e he => ?_)
      rw [ec, dty_pu he, if_pos rfl]
    refine ⟨by rw [e, muS_cons]; rfl, ?_⟩
    rw [e, Sg, c1]
    dsimp only
    rw [c0, Nat.mul_zero, Nat.zero_add]
  rcases x with ⟨v, e⟩ | e | c
  · obtain ⟨_, p1, i1, i2⟩ := hi
    have s1 := sin_ex d _ _ _ i1
    have s11 := s1.1
    obtain ⟨k1, rfl⟩ : ∃ k1, p1 = s + 2 + k1 := ⟨p1 - (s + 2), by omega⟩
    obtain ⟨a1, a2⟩ := gen (sEx d e) (s + 2) (by omega) (s1.wid (Nat.le_refl _) (by omega)) rfl
    obtain ⟨g1, _, _, g3, g4⟩ := eb_ex d (s + 2) k1 e i1 (by omega)
    have hk : k = k1 + 3 := by omega
    subst hk
    have kn := (kn_ex d _ _ _ i1).1
    rw [a1]
    refine ⟨?_, ?_⟩
    · rw [show (fun s_1 => (fun u => cSm u false d) (pu s_1) (s, Sum.inl (v, e))) = (fun t => cSm (pu t) false d (s, Sum.inl (v, e))) from rfl, a2]
      exact rb_set g1 g3 g4
    · show cEx uZ true d e + 2 ≤ _
      rw [ct_ex]
      omega
  · obtain ⟨p1, i1, i2⟩ := hi
    have s1 := sin_ex d _ _ _ i1
    have s11 := s1.1
    obtain ⟨k1, rfl⟩ : ∃ k1, p1 = s + 1 + k1 := ⟨p1 - (s + 1), by omega⟩
    obtain ⟨a1, a2⟩ := gen (sEx d e) (s + 1) (by omega) (s1.wid (Nat.le_refl _) (by omega)) rfl
    obtain ⟨g1, _, _, g3, g4⟩ := eb_ex d (s + 1) k1 e i1 (by omega)
    have hk : k = k1 + 2 := by omega
    subst hk
    have kn := (kn_ex d _ _ _ i1).1
    rw [a1]
    refine ⟨?_, ?_⟩
    · rw [show (fun s_1 => (fun u => cSm u false d) (pu s_1) (s, Sum.inr (Sum.inl e))) = (fun t => cSm (pu t) false d (s, Sum.inr (Sum.inl e))) from rfl, a2]
      exact rb_ret g1 g3 g4
    · show cEx uZ true d e + 2 ≤ _
      rw [ct_ex]
      omega
  · obtain ⟨p1, i1, i2⟩ := hi
    have s1 := sin_co d _ _ _ i1
    have s11 := s1.1
    obtain ⟨k1, rfl⟩ : ∃ k1, p1 = s + 1 + k1 := ⟨p1 - (s + 1), by omega⟩
    obtain ⟨a1, a2⟩ := gen (sCo d c) (s + 1) (by omega) (s1.wid (Nat.le_refl _) (by omega)) rfl
    obtain ⟨g1, gk, _, g3, g4⟩ := eb_co d (s + 1) k1 c i1 (by omega)
    have hk : k = k1 + 2 := by omega
    subst hk
    have kn := (kn_co d _ _ _ i1).1
    rw [a1]
    refine ⟨?_, ?_⟩
    · rw [show (fun s_1 => (fun u => cSm u false d) (pu s_1) (s, Sum.inr (Sum.inr c))) = (fun t => cSm (pu t) false d (s, Sum.inr (Sum.inr c))) from rfl, a2]
      exact rb_chk gk g3 g4
    · show cCo uZ true d c + 2 ≤ _
      rw [ct_co]
      omega
theorem sb_st {S : Type} {d : Nat} {it : Nat → Nat → S → Prop} {sf : S → List Ste} {cf : MTN → S → Nat} {c1 wj : S → Nat} (h : SB it sf cf c1 wj d) : SB (iSt d it) (sSt d sf) (fun u => cSt u false d (cf u)) (cSt uZ true d c1) (wjS d wj) d := by
  intro p k x hi h60
  rcases x with x | y
  · have e : wjS d wj (.inl x) = wjS (S := Empty) d (fun _ => 0) (.inl x) := rfl
    have := sb_sm d p k x hi h60
    rw [e]
    exact this
  · exact h p k y hi h60
