/-! ROOM of the reference's table: expressions and conditions -/
/-- a tree of k characters: how many mutants, how much is new over all of them -/
def EB {α : Type} (it : Nat → Nat → α → Prop) (sf : α → List Ste) (cf : MTN → α → Nat) (a b : Nat) : Prop :=
  ∀ p k x, it p (p + k) x → p + k ≤ 60 → 1 ≤ k ∧ b ≤ k ∧ b ≤ muS (sf x) ∧ muS (sf x) + a ≤ 3 * k ∧ 4 * Sg (sf x) (fun s => cf (pu s) x) + 3 ≤ 3 * (k * k) + 8 * k
section
variable {α : Type}
theorem eb_mo {it : Nat → Nat → α → Prop} {op : Nat → Bool} {sf : α → List Ste} {cf : MTN → α → Nat} {K a b : Nat} (hv : ∀ {c}, op c = true → SV K c) (hs : ∀ p p' x, it p p' x → SIN p p' (sf x)) (hz : ∀ u x, CLN u (sf x) → cf u x = 0) (h : EB it sf cf a b) (hw : ch K ≤ 3 + a) (ha : 1 ≤ a) :
    ∀ l p k, iMo it op p (p + k) l → p + k ≤ 60 → ∀ k0 m0 t0, 1 ≤ k0 → m0 + a ≤ 3 * k0 → 4 * t0 + 3 ≤ 3 * (k0 * k0) + 8 * k0 →
      m0 + muS (sMo K sf l) + a ≤ 3 * (k0 + k) ∧ 4 * (t0 + m0 * l.length + Sg (sMo K sf l) (fun s => cMo (pu s) sf (cf (pu s)) false l)) + 3 ≤ 3 * ((k0 + k) * (k0 + k)) + 8 * (k0 + k) := by
  intro l
  induction l with
  | nil =>
    intro p k hi h60 k0 m0 t0 h1 h2 h3
    have : k = 0 := by
      have : p = p + k := hi
      omega
    subst this
    rw [show sMo K sf [] = [] from rfl, muS_nil, List.length_nil, Nat.mul_zero, Nat.add_zero, Nat.add_zero, Nat.add_zero, Sg, Nat.add_zero]
    exact ⟨h2, h3⟩
  | cons q l ih =>
    intro p k hi h60 k0 m0 t0 h1 h2 h3
    obtain ⟨s, n, x⟩ := q
    obtain ⟨rfl, i2, p1, i3, i4⟩ := hi
    dsimp only at i2 i3 h60 i4 ⊢
    have s1 := hs _ _ _ i3
    have s2 := sin_mo hv hs _ _ _ i4
    have s11 := s1.1
    have s21 := s2.1
    obtain ⟨k1, rfl⟩ : ∃ k1, p1 = s + 1 + k1 := ⟨p1 - (s + 1), by omega⟩
    obtain ⟨k2, hk2⟩ : ∃ k2, s + k = s + 1 + k1 + k2 := ⟨s + k - (s + 1 + k1), by omega⟩
    rw [hk2] at i4 s2
    obtain ⟨g1, gk, g2, g3, g4⟩ := h (s + 1) k1 x i3 (by omega)
    obtain ⟨ar1, ar2⟩ := eb_ar h1 g1 h2 g3 hw ha h3 g4
    have := ih (s + 1 + k1) k2 i4 (by omega) (k0 + (1 + k1)) (m0 + ch K + muS (sf x)) (t0 + Sg (sf x) (fun s => cf (pu s) x) + (m0 + ch K + muS (sf x))) (by omega) ar1 ar2
    rw [show k = 1 + k1 + k2 by omega, show k0 + (1 + k1 + k2) = k0 + (1 + k1) + k2 by omega]
    have es : sMo K sf ((s, n, x) :: l) = (s, K, n) :: (sf x ++ sMo K sf l) := rfl
    have em : muS (sMo K sf ((s, n, x) :: l)) = ch K + (muS (sf x) + muS (sMo K sf l)) := by
      rw [es, muS_cons, muS_app]
    have c0 : cMo (pu s) sf (cf (pu s)) false ((s, n, x) :: l) = 1 + l.length := by
      have c1 : CLN (pu s) (sf x) := cln_pu s1 (by omega) (by omega) (.inl (by omega))
      have c2 : CLN (pu s) (sMo K sf l) := cln_pu s2 (by omega) (by omega) (.inl (by omega))
      rw [cMo]
      dsimp only
      rw [hz _ _ c1, decide_eq_true (show nI s = (pu s).1 from rfl), Bool.or_true, Bool.true_or, if_pos rfl, cz_mo (hz (pu s)) l true c2, if_pos rfl]
    have c1 : Sg (sf x) (fun t => cMo (pu t) sf (cf (pu t)) false ((s, n, x) :: l)) = Sg (sf x) (fun s => cf (pu s) x) + muS (sf x) * (1 + l.length) := by
      rw [← Sg_cst, ← Sg_add]
      refine Sg_cong (fun e he => ?_)
      obtain ⟨b1, b2, _⟩ := s1.2.2 e he
      have c2 : CLN (pu e.1) (sMo K sf l) := cln_pu s2 (by omega) (by omega) (.inl (by omega))
      rw [cMo]
      dsimp only
      rw [dty_pu he, Bool.or_true, if_pos rfl, cz_mo (hz (pu e.1)) l true c2, if_pos rfl]
      omega
    have c2 : Sg (sMo K sf l) (fun t => cMo (pu t) sf (cf (pu t)) false ((s, n, x) :: l)) = Sg (sMo K sf l) (fun t => cMo (pu t) sf (cf (pu t)) false l) := by
      refine Sg_cong (fun e he => ?_)
      obtain ⟨b1, b2, _⟩ := s2.2.2 e he
      have c2 : CLN (pu e.1) (sf x) := cln_pu s1 (by omega) (by omega) (.inr (by omega))
      rw [cMo]
      dsimp only
      rw [hz _ _ c2, dty_cln c2, decide_eq_false (show ¬ nI s = (pu e.1).1 from fun q => absurd ((nI_eq (by omega) (by omega)).mp q) (by omega)), Bool.or_false, Bool.or_false, if_neg (by decide)]
      omega
    have et : Sg (sMo K sf ((s, n, x) :: l)) (fun t => cMo (pu t) sf (cf (pu t)) false ((s, n, x) :: l)) = ch K * (1 + l.length) + (Sg (sf x) (fun s => cf (pu s) x) + muS (sf x) * (1 + l.length) + Sg (sMo K sf l) (fun t => cMo (pu t) sf (cf (pu t)) false l)) := by
      rw [es, Sg, Sg_app, c0, c1, c2]
    rw [em, et, List.length_cons]
    rw [Nat.add_mul, Nat.add_mul] at this
    rw [Nat.mul_add (ch K), Nat.mul_add (muS (sf x)), Nat.mul_add m0]
    omega
theorem eb_ch {it : Nat → Nat → α → Prop} {op : Nat → Bool} {sf : α → List Ste} {cf : MTN → α → Nat} {K a b : Nat} (hv : ∀ {c}, op c = true → SV K c) (hs : ∀ p p' x, it p p' x → SIN p p' (sf x)) (hz : ∀ u x, CLN u (sf x) → cf u x = 0) (h : EB it sf cf a b) (hw : ch K ≤ 3 + a) (ha : 1 ≤ a) :
    EB (iCh it op) (sCh K sf) (fun u x => cCh u false sf (cf u) x) a b := by
  intro p k x hi h60
  obtain ⟨x, l⟩ := x
  obtain ⟨p1, i1, i2⟩ := hi
  dsimp only at i1 i2
  have s1 := hs _ _ _ i1
  have s2 := sin_mo hv hs _ _ _ i2
  have s11 := s1.1
  have s21 := s2.1
  obtain ⟨k1, rfl⟩ : ∃ k1, p1 = p + k1 := ⟨p1 - p, by omega⟩
  obtain ⟨k2, hk2⟩ : ∃ k2, p + k = p + k1 + k2 := ⟨p + k - (p + k1), by omega⟩
  rw [hk2] at i2 s2
  obtain ⟨g1, gk, g2, g3, g4⟩ := h p k1 x i1 (by omega)
  obtain ⟨m1, m2⟩ := eb_mo hv hs hz h hw ha l (p + k1) k2 i2 (by omega) k1 (muS (sf x)) (Sg (sf x) (fun s => cf (pu s) x)) g1 g3 g4
  have es : sCh K sf (x, l) = sf x ++ sMo K sf l := rfl
  have em : muS (sCh K sf (x, l)) = muS (sf x) + muS (sMo K sf l) := by rw [es, muS_app]
  have c1 : Sg (sf x) (fun t => cCh (pu t) false sf (cf (pu t)) (x, l)) = Sg (sf x) (fun s => cf (pu s) x) + muS (sf x) * l.length := by
    rw [← Sg_cst, ← Sg_add]
    refine Sg_cong (fun e he => ?_)
    obtain ⟨b1, b2, _⟩ := s1.2.2 e he
    have c2 : CLN (pu e.1) (sMo K sf l) := cln_pu s2 (by omega) (by omega) (.inl (by omega))
    rw [cCh]
    dsimp only
    rw [dty_pu he, Bool.or_true, cz_mo (hz (pu e.1)) l true c2, if_pos rfl]
  have c2 : Sg (sMo K sf l) (fun t => cCh (pu t) false sf (cf (pu t)) (x, l)) = Sg (sMo K sf l) (fun t => cMo (pu t) sf (cf (pu t)) false l) := by
    refine Sg_cong (fun e he => ?_)
    obtain ⟨b1, b2, _⟩ := s2.2.2 e he
    have c2 : CLN (pu e.1) (sf x) := cln_pu s1 (by omega) (by omega) (.inr (by omega))
    rw [cCh]
    dsimp only
    rw [hz _ _ c2, dty_cln c2, Bool.or_false, Nat.zero_add]
  have et : Sg (sCh K sf (x, l)) (fun t => cCh (pu t) false sf (cf (pu t)) (x, l)) = Sg (sf x) (fun s => cf (pu s) x) + muS (sf x) * l.length + Sg (sMo K sf l) (fun t => cMo (pu t) sf (cf (pu t)) false l) := by
    rw [es, Sg_app, c1, c2]
  rw [show k = k1 + k2 by omega, em, et]
  exact ⟨by omega, by omega, by omega, m1, m2⟩
end
theorem eb_fa {S : Type} {it : Nat → Nat → S → Prop} {sf : S → List Ste} {cf : MTN → S → Nat} (hs : ∀ p p' x, it p p' x → SIN p p' (sf x)) (h : EB it sf cf 1 0) : EB (iFa it) (sFa sf) (fun u x => cFa u false (cf u) x) 1 0 := by
  intro p k x hi h60
  rcases x with (⟨s, v⟩ | ⟨s, v⟩) | y
  · obtain ⟨h1, h2, h3, h4⟩ := hi
    have es : sFa sf (.inl (.inl (s, v))) = [(s, 3, v)] := rfl
    have c : cFa (pu s) false (cf (pu s)) (.inl (.inl (s, v))) = 1 := by
      show (if false || dty (pu s) (sLeaf (.inl (s, v))) then 1 else 0) = 1
      rw [show dty (pu s) (sLeaf (.inl (s, v))) = true from dty_pu (e := (s, 3, v)) List.mem_cons_self]
      rfl
    have em : muS (sFa sf (.inl (.inl (s, v)))) = 2 := rfl
    rw [em, es]
    refine ⟨by omega, by omega, by omega, by omega, ?_⟩
    rw [Sg, Sg]
    dsimp only
    rw [c]
    have hk : k = 1 ∨ k = 2 := by omega
    rcases hk with rfl | rfl <;> decide
  · obtain ⟨h1, h2, h3⟩ := hi
    have : k = 1 := by omega
    subst this
    exact ⟨by omega, Nat.zero_le _, Nat.zero_le _, show 0 + 1 ≤ 3 * 1 by decide, show 4 * 0 + 3 ≤ 3 * (1 * 1) + 8 * 1 by decide⟩
  · obtain ⟨p1, i1, i2⟩ := hi
    have s1 := (hs _ _ _ i1).1
    obtain ⟨k1, rfl⟩ : ∃ k1, p1 = p + 1 + k1 := ⟨p1 - (p + 1), by omega⟩
    obtain ⟨g1, gk, g2, g3, g4⟩ := h (p + 1) k1 y i1 (by omega)
    have hk : k = k1 + 2 := by omega
    subst hk
    have q := sq_add k1 2
    refine ⟨by omega, by omega, g2, ?_, ?_⟩
    · show muS (sf y) + 1 ≤ _
      omega
    · show 4 * Sg (sf y) (fun s => cf (pu s) y) + 3 ≤ _
      omega
theorem eb_sub : ∀ d, EB (iSub d) (sSub d) (fun u => cSub u false d) 1 0 := by
  intro d
  induction d with
  | zero => intro p k x; exact x.elim
  | succ d ih =>
    have h1 := eb_fa (sin_sub d) ih
    have h2 := eb_ch (K := 0) sv_mul (sin_fa (sin_sub d)) (fun u => cz_fa (cz_sub d)) h1 (by decide) (by decide)
    exact eb_ch (K := 0) sv_add (sin_ch sv_mul (sin_fa (sin_sub d))) (fun u => cz_ch (cz_fa (cz_sub d))) h2 (by decide) (by decide)
theorem eb_ex (d : Nat) : EB (iEx d) (sEx d) (fun u => cEx u false d) 1 0 := by
  have h1 := eb_fa (sin_sub d) (eb_sub d)
  have h2 := eb_ch (K := 0) sv_mul (sin_fa (sin_sub d)) (fun u => cz_fa (cz_sub d)) h1 (by decide) (by decide)
  exact eb_ch (K := 0) sv_add (sin_ch sv_mul (sin_fa (sin_sub d))) (fun u => cz_ch (cz_fa (cz_sub d))) h2 (by decide) (by decide)
theorem eb_at {S : Type} {d : Nat} {it : Nat → Nat → S → Prop} {sf : S → List Ste} {cf : MTN → S → Nat} (hs : ∀ p p' x, it p p' x → SIN p p' (sf x)) (h : EB it sf cf 2 3) : EB (iAt d it) (sAt d sf) (fun u x => cAt u false d (cf u) x) 2 3 := by
  intro p k x hi h60
  rcases x with ⟨l, s, n, x⟩ | y
  · obtain ⟨i1, i2, i3⟩ := hi
    dsimp only at i1 i2 i3
    have s1 := sin_ex d _ _ _ i1
    have s2 := sin_ex d _ _ _ i3
    have s11 := s1.1
    have s21 := s2.1
    obtain ⟨k1, rfl⟩ : ∃ k1, s = p + k1 := ⟨s - p, by omega⟩
    obtain ⟨k2, hk2⟩ : ∃ k2, p + k = p + k1 + 1 + k2 := ⟨p + k - (p + k1 + 1), by omega⟩
    rw [hk2] at i3 s2
    obtain ⟨g1, gk, g2, g3, g4⟩ := eb_ex d p k1 l i1 (by omega)
    obtain ⟨f1, fk, f2, f3, f4⟩ := eb_ex d (p + k1 + 1) k2 x i3 (by omega)
    dsimp only at g4 f4
    obtain ⟨ar1, ar2⟩ := eb_ar (w := 3) g1 f1 g3 f3 (by omega) (by omega) g4 f4
    have es : sAt d sf (.inl (l, p + k1, n, x)) = sEx d l ++ ((p + k1, 1, n) :: sEx d x) := rfl
    have em : muS (sAt d sf (.inl (l, p + k1, n, x))) = muS (sEx d l) + (3 + muS (sEx d x)) := by rw [es, muS_app, muS_cons]; rfl
    have cc : ∀ u, cAt u false d (cf u) (.inl (l, p + k1, n, x)) = cEx u false d l + cEx u false d x + (if dty u (sEx d l ++ ((p + k1, 1, n) :: sEx d x)) then 1 else 0) := fun u => rfl
    have c1 : Sg (sEx d l) (fun t => cAt (pu t) false d (cf (pu t)) (.inl (l, p + k1, n, x))) = Sg (sEx d l) (fun s => cEx (pu s) false d l) + muS (sEx d l) * 1 := by
      rw [← Sg_cst, ← Sg_add]
      refine Sg_cong (fun e he => ?_)
      obtain ⟨b1, b2, _⟩ := s1.2.2 e he
      have c2 : CLN (pu e.1) (sEx d x) := cln_pu s2 (by omega) (by omega) (.inl (by omega))
      rw [cc, cz_ex d x c2, dty_pu (List.mem_append_left _ he), if_pos rfl]
    have c2 : Sg (sEx d x) (fun t => cAt (pu t) false d (cf (pu t)) (.inl (l, p + k1, n, x))) = Sg (sEx d x) (fun s => cEx (pu s) false d x) + muS (sEx d x) * 1 := by
      rw [← Sg_cst, ← Sg_add]
      refine Sg_cong (fun e he => ?_)
      obtain ⟨b1, b2, _⟩ := s2.2.2 e he
      have c2 : CLN (pu e.1) (sEx d l) := cln_pu s1 (by omega) (by omega) (.inr (by omega))
      rw [cc, cz_ex d l c2, dty_pu (List.mem_append_right _ (List.mem_cons_of_mem _ he)), if_pos rfl, Nat.zero_add]
    have c0 : cAt (pu (p + k1)) false d (cf (pu (p + k1))) (.inl (l, p + k1, n, x)) = 1 := by
      have a1 : CLN (pu (p + k1)) (sEx d l) := cln_pu s1 (by omega) (by omega) (.inr (by omega))
      have a2 : CLN (pu (p + k1)) (sEx d x) := cln_pu s2 (by omega) (by omega) (.inl (by omega))
      rw [cc, cz_ex d l a1, cz_ex d x a2, dty_pu (e := (p + k1, 1, n)) (List.mem_append_right _ List.mem_cons_self), if_pos rfl]
    have et : Sg (sAt d sf (.inl (l, p + k1, n, x))) (fun t => cAt (pu t) false d (cf (pu t)) (.inl (l, p + k1, n, x))) = Sg (sEx d l) (fun s => cEx (pu s) false d l) + muS (sEx d l) * 1 + (3 * 1 + (Sg (sEx d x) (fun s => cEx (pu s) false d x) + muS (sEx d x) * 1)) := by
      rw [es, Sg_app, Sg, c1, c2]
      dsimp only
      rw [c0]
      rfl
    have hk : k = k1 + (1 + k2) := by omega
    subst hk
    rw [em, et]
    exact ⟨by omega, by omega, by omega, by omega, by omega⟩
  · obtain ⟨p1, i1, i2⟩ := hi
    have s1 := (hs _ _ _ i1).1
    obtain ⟨k1, rfl⟩ : ∃ k1, p1 = p + 1 + k1 := ⟨p1 - (p + 1), by omega⟩
    obtain ⟨g1, gk, g2, g3, g4⟩ := h (p + 1) k1 y i1 (by omega)
    have hk : k = k1 + 2 := by omega
    subst hk
    have q := sq_add k1 2
    refine ⟨by omega, by omega, g2, ?_, ?_⟩
    · show muS (sf y) + 2 ≤ _
      omega
    · show 4 * Sg (sf y) (fun s => cf (pu s) y) + 3 ≤ _
      omega
theorem eb_csub : ∀ d, EB (iCSub d) (sCSub d) (fun u => cCSub u false d) 2 3 := by
  intro d
  induction d with
  | zero => intro p k x; exact x.elim
  | succ d ih =>
    have h1 := eb_at (d := d) (sin_csub d) ih
    have h2 := eb_ch (K := 2) sv_and (sin_at d (sin_csub d)) (fun u => cz_at (cz_csub d)) h1 (by decide) (by decide)
    exact eb_ch (K := 2) sv_or (sin_ch sv_and (sin_at d (sin_csub d))) (fun u => cz_ch (cz_at (cz_csub d))) h2 (by decide) (by decide)
theorem eb_co (d : Nat) : EB (iCo d) (sCo d) (fun u => cCo u false d) 2 3 := by
  have h1 := eb_at (d := d) (sin_csub d) (eb_csub d)
  have h2 := eb_ch (K := 2) sv_and (sin_at d (sin_csub d)) (fun u => cz_at (cz_csub d)) h1 (by decide) (by decide)
  exact eb_ch (K := 2) sv_or (sin_ch sv_and (sin_at d (sin_csub d))) (fun u => cz_ch (cz_at (cz_csub d))) h2 (by decide) (by decide)
