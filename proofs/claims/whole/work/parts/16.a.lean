/-! FOLDING in the reference: its table of trees -/
def IDm (cnt : Nat) (x : Int32) : Prop := x = -1 ∨ ∃ i, i < cnt ∧ x = nI i
def denM (D : Nat → FT) (x : Int32) : FT := if x = -1 then nilT else D x.toNatClampNeg
theorem IDm.mono {n m : Nat} {x : Int32} (h : IDm n x) (hm : n ≤ m) : IDm m x := by
  rcases h with h | ⟨i, h1, h2⟩
  · exact .inl h
  · exact .inr ⟨i, by omega, h2⟩
theorem nI_m1 {i : Nat} (hi : i < 20000) : nI i ≠ -1 := by
  intro h
  have h2 := z_nat (n := i) (by omega)
  have h3 : ¬ (nI i < 0 ∨ 20000 ≤ (nI i).toNatClampNeg) := z_gd hi (by omega)
  rw [h] at h3
  exact h3 (.inl (by decide))
theorem denM_id {D : Nat → FT} {i : Nat} (hi : i < 20000) : denM D (nI i) = D i := by
  unfold denM
  rw [if_neg (nI_m1 hi), z_nat (n := i) (by omega)]
def VM (cnt : Nat) : Nat → Int32 → Int32 → Int32 → Prop
  | 0, _, b, c => b = 0 ∧ c = 0
  | 1, a, b, c => (a = 120 ∨ a = 121) ∧ b = 0 ∧ c = 0
  | 2, a, b, c => (∃ j, j < 6 ∧ a = nI j) ∧ b = 0 ∧ c = 0
  | 3, a, b, c => (∃ o, o ∈ arS ∧ a = nI o) ∧ IDm cnt b ∧ IDm cnt c
  | 4, a, b, c => (∃ o, o ∈ cmS ∧ a = nI o) ∧ IDm cnt b ∧ IDm cnt c
  | 5, a, b, c => (∃ o, o ∈ lgS ∧ a = nI o) ∧ IDm cnt b ∧ IDm cnt c
  | 6, _, b, c => IDm cnt b ∧ c = 0
  | 7, a, b, c => IDm cnt a ∧ IDm cnt b ∧ IDm cnt c
  | 8, a, b, c => IDm cnt a ∧ IDm cnt b ∧ c = 0
  | 9, a, b, c => IDm cnt a ∧ b = 0 ∧ c = 0
  | 10, a, b, c => IDm cnt a ∧ b = 0 ∧ c = 0
  | 11, a, b, c => IDm cnt a ∧ IDm cnt b ∧ c = 0
  | 12, a, b, c => (a = 0 ∨ a = 1) ∧ b = 0 ∧ c = 0
  | _, _, _, _ => False
def tM (D : Nat → FT) : Nat → Int32 → Int32 → Int32 → FT
  | 0, a, _, _ => cstT a
  | 1, a, _, _ => varT (a - 114)
  | 2, a, _, _ => varT a
  | 3, a, b, c => opT a (denM D b) (denM D c)
  | 4, a, b, c => opT a (denM D b) (denM D c)
  | 5, a, b, c => opT a (denM D b) (denM D c)
  | 6, a, b, _ => asgT a (denM D b)
  | 7, a, b, c => iteT (denM D a) (denM D b) (denM D c)
  | 8, a, b, _ => whlT (denM D a) (denM D b)
  | 9, a, _, _ => chkT (denM D a)
  | 10, a, _, _ => retT (denM D a)
  | 11, a, b, _ => lstC (denM D a) (denM D b)
  | _, a, _, _ => if a = 0 then flsT else truT
/-- the kind is told by the term -/
def kofM (T : FT) : Nat :=
  if knd T = 1 then 0 else if knd T = 2 then (if num T = 6 ∨ num T = 7 then 1 else 2) else if knd T = 3 then (if num T = 38 ∨ num T = 124 then 5 else if num T = 60 ∨ num T = 62 ∨ num T = 61 ∨ num T = 35 then 4 else 3)
  else if knd T = 4 then 6 else if knd T = 5 then 9 else if knd T = 6 then 10 else if knd T = 7 then 7 else if knd T = 8 then 8 else if knd T = 9 then 11 else 12
theorem kofM_tM {D : Nat → FT} {cnt : Nat} : ∀ {k : Nat} {a b c : Int32}, VM cnt k a b c → kofM (tM D k a b c) = k ∧ tM D k a b c ≠ nilT
  | 0, a, b, c, h => ⟨rfl, nde_nil⟩
  | 1, a, b, c, h => by
    rcases h.1 with rfl | rfl
    · exact ⟨by show kofM (varT ((120 : Int32) - 114)) = 1; decide, nde_nil⟩
    · exact ⟨by show kofM (varT ((121 : Int32) - 114)) = 1; decide, nde_nil⟩
  | 2, a, b, c, h => by
    obtain ⟨j, hj, rfl⟩ := h.1
    refine ⟨?_, nde_nil⟩
    have : j = 0 ∨ j = 1 ∨ j = 2 ∨ j = 3 ∨ j = 4 ∨ j = 5 := by omega
    rcases this with rfl | rfl | rfl | rfl | rfl | rfl <;> (show kofM (varT _) = 2; decide)
  | 3, a, b, c, h => by
    obtain ⟨o, ho, rfl⟩ := h.1
    refine ⟨?_, nde_nil⟩
    have hn : num (tM D 3 (nI o) b c) = nI o := num_nde
    unfold kofM
    rw [hn, show knd (tM D 3 (nI o) b c) = 3 from rfl]
    simp only [arS, List.mem_cons, List.not_mem_nil, or_false] at ho
    rcases ho with rfl | rfl | rfl | rfl | rfl <;> decide
  | 4, a, b, c, h => by
    obtain ⟨o, ho, rfl⟩ := h.1
    refine ⟨?_, nde_nil⟩
    have hn : num (tM D 4 (nI o) b c) = nI o := num_nde
    unfold kofM
    rw [hn, show knd (tM D 4 (nI o) b c) = 3 from rfl]
    simp only [cmS, List.mem_cons, List.not_mem_nil, or_false] at ho
    rcases ho with rfl | rfl | rfl | rfl <;> decide
  | 5, a, b, c, h => by
    obtain ⟨o, ho, rfl⟩ := h.1
    refine ⟨?_, nde_nil⟩
    have hn : num (tM D 5 (nI o) b c) = nI o := num_nde
    unfold kofM
    rw [hn, show knd (tM D 5 (nI o) b c) = 3 from rfl]
    simp only [lgS, List.mem_cons, List.not_mem_nil, or_false] at ho
    rcases ho with rfl | rfl <;> decide
  | 6, a, b, c, h => ⟨rfl, nde_nil⟩
  | 7, a, b, c, h => ⟨rfl, nde_nil⟩
  | 8, a, b, c, h => ⟨rfl, nde_nil⟩
  | 9, a, b, c, h => ⟨rfl, nde_nil⟩
  | 10, a, b, c, h => ⟨rfl, nde_nil⟩
  | 11, a, b, c, h => ⟨rfl, nde_nil⟩
  | 12, a, b, c, h => by
    rcases h.1 with rfl | rfl
    · exact ⟨by show kofM flsT = 12; decide, nde_nil⟩
    · exact ⟨by show kofM truT = 12; decide, nde_nil⟩
  | n + 13, a, b, c, h => False.elim h
theorem IDm.eq {cnt : Nat} {D : Nat → FT} {x y : Int32} (hc : cnt ≤ 20000) (hI : INJ D 0 cnt) (hn : ∀ t, t < cnt → D t ≠ nilT) (hx : IDm cnt x) (hy : IDm cnt y) (h : denM D x = denM D y) : x = y := by
  rcases hx with rfl | ⟨i, h1, rfl⟩
  · rcases hy with rfl | ⟨j, h3, rfl⟩
    · rfl
    · rw [denM_id (by omega)] at h
      exact absurd h.symm (hn j h3)
  · rcases hy with rfl | ⟨j, h3, rfl⟩
    · rw [denM_id (by omega)] at h
      exact absurd h (hn i h1)
    · rw [denM_id (by omega), denM_id (by omega)] at h
      rw [hI i j (by omega) h1 (by omega) h3 h]
theorem tM_same {D : Nat → FT} {cnt : Nat} (hc : cnt ≤ 20000) (hI : INJ D 0 cnt) (hn : ∀ t, t < cnt → D t ≠ nilT) : ∀ {k : Nat} {a b c a' b' c' : Int32}, VM cnt k a b c → VM cnt k a' b' c' → tM D k a b c = tM D k a' b' c' → a = a' ∧ b = b' ∧ c = c'
  | 0, a, b, c, a', b', c', h1, h2, h => ⟨(nde_inj h).2.1, h1.1.trans h2.1.symm, h1.2.trans h2.2.symm⟩
  | 1, a, b, c, a', b', c', h1, h2, h => ⟨by
      have q : a - 114 = a' - 114 := (nde_inj h).2.1
      rcases h1.1 with rfl | rfl <;> rcases h2.1 with rfl | rfl <;> first | rfl | exact absurd q (by decide), h1.2.1.trans h2.2.1.symm, h1.2.2.trans h2.2.2.symm⟩
  | 2, a, b, c, a', b', c', h1, h2, h => ⟨(nde_inj h).2.1, h1.2.1.trans h2.2.1.symm, h1.2.2.trans h2.2.2.symm⟩
  | 3, a, b, c, a', b', c', h1, h2, h => ⟨(nde_inj h).2.1, IDm.eq hc hI hn h1.2.1 h2.2.1 (nde_inj h).2.2.1, IDm.eq hc hI hn h1.2.2 h2.2.2 (nde_inj h).2.2.2.1⟩
  | 4, a, b, c, a', b', c', h1, h2, h => ⟨(nde_inj h).2.1, IDm.eq hc hI hn h1.2.1 h2.2.1 (nde_inj h).2.2.1, IDm.eq hc hI hn h1.2.2 h2.2.2 (nde_inj h).2.2.2.1⟩
  | 5, a, b, c, a', b', c', h1, h2, h => ⟨(nde_inj h).2.1, IDm.eq hc hI hn h1.2.1 h2.2.1 (nde_inj h).2.2.1, IDm.eq hc hI hn h1.2.2 h2.2.2 (nde_inj h).2.2.2.1⟩
  | 6, a, b, c, a', b', c', h1, h2, h => ⟨(nde_inj h).2.1, IDm.eq hc hI hn h1.1 h2.1 (nde_inj h).2.2.1, h1.2.trans h2.2.symm⟩
  | 7, a, b, c, a', b', c', h1, h2, h => ⟨IDm.eq hc hI hn h1.1 h2.1 (nde_inj h).2.2.1, IDm.eq hc hI hn h1.2.1 h2.2.1 (nde_inj h).2.2.2.1, IDm.eq hc hI hn h1.2.2 h2.2.2 (nde_inj h).2.2.2.2⟩
  | 8, a, b, c, a', b', c', h1, h2, h => ⟨IDm.eq hc hI hn h1.1 h2.1 (nde_inj h).2.2.1, IDm.eq hc hI hn h1.2.1 h2.2.1 (nde_inj h).2.2.2.1, h1.2.2.trans h2.2.2.symm⟩
  | 9, a, b, c, a', b', c', h1, h2, h => ⟨IDm.eq hc hI hn h1.1 h2.1 (nde_inj h).2.2.1, h1.2.1.trans h2.2.1.symm, h1.2.2.trans h2.2.2.symm⟩
  | 10, a, b, c, a', b', c', h1, h2, h => ⟨IDm.eq hc hI hn h1.1 h2.1 (nde_inj h).2.2.1, h1.2.1.trans h2.2.1.symm, h1.2.2.trans h2.2.2.symm⟩
  | 11, a, b, c, a', b', c', h1, h2, h => ⟨IDm.eq hc hI hn h1.1 h2.1 (nde_inj h).2.2.1, IDm.eq hc hI hn h1.2.1 h2.2.1 (nde_inj h).2.2.2.1, h1.2.2.trans h2.2.2.symm⟩
  | 12, a, b, c, a', b', c', h1, h2, h => ⟨by
      have n3 : truT ≠ flsT := fun h => absurd (nde_inj h).1 (by decide)
      rcases h1.1 with rfl | rfl <;> rcases h2.1 with rfl | rfl <;> first | rfl | exact absurd h n3 | exact absurd h.symm n3, h1.2.1.trans h2.2.1.symm, h1.2.2.trans h2.2.2.symm⟩
  | n + 13, a, b, c, a', b', c', h1, h2, h => False.elim h1
theorem tM_inj {D : Nat → FT} {cnt k k' : Nat} {a b c a' b' c' : Int32} (hc : cnt ≤ 20000) (hI : INJ D 0 cnt) (hn : ∀ t, t < cnt → D t ≠ nilT) (h1 : VM cnt k a b c) (h2 : VM cnt k' a' b' c') (h : tM D k a b c = tM D k' a' b' c') : k = k' ∧ a = a' ∧ b = b' ∧ c = c' := by
  have e1 := (kofM_tM (D := D) h1).1
  have e2 := (kofM_tM (D := D) h2).1
  rw [h, e2] at e1
  subst e1
  exact ⟨rfl, tM_same hc hI hn h1 h2 h⟩
theorem VM.k12 {cnt : Nat} : ∀ {k : Nat} {a b c : Int32}, VM cnt k a b c → k ≤ 12
  | 0, _, _, _, _ => by omega
  | 1, _, _, _, _ => by omega
  | 2, _, _, _, _ => by omega
  | 3, _, _, _, _ => by omega
  | 4, _, _, _, _ => by omega
  | 5, _, _, _, _ => by omega
  | 6, _, _, _, _ => by omega
  | 7, _, _, _, _ => by omega
  | 8, _, _, _, _ => by omega
  | 9, _, _, _, _ => by omega
  | 10, _, _, _, _ => by omega
  | 11, _, _, _, _ => by omega
  | 12, _, _, _, _ => by omega
  | n + 13, _, _, _, h => False.elim h
theorem VM.mono {n m : Nat} (hm : n ≤ m) : ∀ {k : Nat} {a b c : Int32}, VM n k a b c → VM m k a b c
  | 0, _, _, _, h => h
  | 1, _, _, _, h => h
  | 2, _, _, _, h => h
  | 3, _, _, _, h => ⟨h.1, h.2.1.mono hm, h.2.2.mono hm⟩
  | 4, _, _, _, h => ⟨h.1, h.2.1.mono hm, h.2.2.mono hm⟩
  | 5, _, _, _, h => ⟨h.1, h.2.1.mono hm, h.2.2.mono hm⟩
  | 6, _, _, _, h => ⟨h.1.mono hm, h.2⟩
  | 7, _, _, _, h => ⟨h.1.mono hm, h.2.1.mono hm, h.2.2.mono hm⟩
  | 8, _, _, _, h => ⟨h.1.mono hm, h.2.1.mono hm, h.2.2⟩
  | 9, _, _, _, h => ⟨h.1.mono hm, h.2⟩
  | 10, _, _, _, h => ⟨h.1.mono hm, h.2⟩
  | 11, _, _, _, h => ⟨h.1.mono hm, h.2.1.mono hm, h.2.2⟩
  | 12, _, _, _, h => h
  | n + 13, _, _, _, h => False.elim h
theorem tM_ext {D D' : Nat → FT} {cnt : Nat} (hc : cnt ≤ 20000) (he : EXT D D' cnt) : ∀ {k : Nat} {a b c : Int32}, VM cnt k a b c → tM D' k a b c = tM D k a b c := by
  have id : ∀ x, IDm cnt x → denM D' x = denM D x := by
    intro x hx
    rcases hx with rfl | ⟨i, h1, rfl⟩
    · rfl
    · rw [denM_id (by omega), denM_id (by omega), he i h1]
  intro k a b c h
  match k, h with
  | 0, h => rfl
  | 1, h => rfl
  | 2, h => rfl
  | 3, h => show opT a _ _ = opT a _ _; rw [id b h.2.1, id c h.2.2]
  | 4, h => show opT a _ _ = opT a _ _; rw [id b h.2.1, id c h.2.2]
  | 5, h => show opT a _ _ = opT a _ _; rw [id b h.2.1, id c h.2.2]
  | 6, h => show asgT a _ = asgT a _; rw [id b h.1]
  | 7, h => show iteT _ _ _ = iteT _ _ _; rw [id a h.1, id b h.2.1, id c h.2.2]
  | 8, h => show whlT _ _ = whlT _ _; rw [id a h.1, id b h.2.1]
  | 9, h => show chkT _ = chkT _; rw [id a h.1]
  | 10, h => show retT _ = retT _; rw [id a h.1]
  | 11, h => show lstC _ _ = lstC _ _; rw [id a h.1, id b h.2.1]
  | 12, h => rfl
  | n + 13, h => exact False.elim h
