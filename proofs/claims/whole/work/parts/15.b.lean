/-! FOLDING: the class's table of trees -/
def IDc (cnt : Nat) (x : Int32) : Prop := ∃ i, 1 ≤ i ∧ i < cnt ∧ x = nI i
def VALc (cnt k : Nat) (a b c : Int32) : Prop := (k = 1 ∨ k = 2) ∧ b = 0 ∧ c = 0 ∨ k = 3 ∧ IDc cnt b ∧ IDc cnt c ∨ k = 4 ∧ IDc cnt b ∧ c = 0 ∨ (k = 5 ∨ k = 6) ∧ IDc cnt a ∧ b = 0 ∧ c = 0 ∨ k = 7 ∧ IDc cnt a ∧ IDc cnt b ∧ IDc cnt c ∨ (k = 8 ∨ k = 9) ∧ IDc cnt a ∧ IDc cnt b ∧ c = 0
def trm (D : Nat → FT) (k : Nat) (a b c : Int32) : FT :=
  if k = 1 then cstT a else if k = 2 then varT a else if k = 3 then opT a (D b.toNatClampNeg) (D c.toNatClampNeg) else if k = 4 then asgT a (D b.toNatClampNeg) else if k = 5 then chkT (D a.toNatClampNeg) else if k = 6 then retT (D a.toNatClampNeg)
  else if k = 7 then iteT (D a.toNatClampNeg) (D b.toNatClampNeg) (D c.toNatClampNeg) else if k = 8 then whlT (D a.toNatClampNeg) (D b.toNatClampNeg) else lstC (D a.toNatClampNeg) (D b.toNatClampNeg)
theorem IDc.mono {n m : Nat} {x : Int32} (h : IDc n x) (hm : n ≤ m) : IDc m x := by
  obtain ⟨i, h1, h2, h3⟩ := h
  exact ⟨i, h1, by omega, h3⟩
theorem VALc.mono {n m k : Nat} {a b c : Int32} (h : VALc n k a b c) (hm : n ≤ m) : VALc m k a b c := by
  rcases h with h | ⟨h1, h2, h3⟩ | ⟨h1, h2, h3⟩ | ⟨h1, h2, h3⟩ | ⟨h1, h2, h3, h4⟩ | ⟨h1, h2, h3, h4⟩
  · exact .inl h
  · exact .inr (.inl ⟨h1, h2.mono hm, h3.mono hm⟩)
  · exact .inr (.inr (.inl ⟨h1, h2.mono hm, h3⟩))
  · exact .inr (.inr (.inr (.inl ⟨h1, h2.mono hm, h3⟩)))
  · exact .inr (.inr (.inr (.inr (.inl ⟨h1, h2.mono hm, h3.mono hm, h4.mono hm⟩))))
  · exact .inr (.inr (.inr (.inr (.inr ⟨h1, h2.mono hm, h3.mono hm, h4⟩))))
theorem VALc.k9 {n k : Nat} {a b c : Int32} (h : VALc n k a b c) : 1 ≤ k ∧ k ≤ 9 := by
  rcases h with ⟨h | h, _⟩ | ⟨h, _⟩ | ⟨h, _⟩ | ⟨h | h, _⟩ | ⟨h, _⟩ | ⟨h | h, _⟩ <;> omega
/-- the terms of a table are told apart -/
def INJ (D : Nat → FT) (lo cnt : Nat) : Prop := ∀ t t', lo ≤ t → t < cnt → lo ≤ t' → t' < cnt → D t = D t' → t = t'
theorem IDc.eq {cnt : Nat} {D : Nat → FT} {x y : Int32} (hc : cnt ≤ 20000) (hI : INJ D 1 cnt) (hx : IDc cnt x) (hy : IDc cnt y) (h : D x.toNatClampNeg = D y.toNatClampNeg) : x = y := by
  obtain ⟨i, h1, h2, rfl⟩ := hx
  obtain ⟨j, h3, h4, rfl⟩ := hy
  rw [z_nat (n := i) (by omega), z_nat (n := j) (by omega)] at h
  rw [hI i j h1 h2 h3 h4 h]
theorem trm_knd {D : Nat → FT} {k : Nat} {a b c : Int32} (h : 1 ≤ k ∧ k ≤ 9) : knd (trm D k a b c) = k := by
  unfold trm
  by_cases h1 : k = 1
  · rw [if_pos h1, h1]; rfl
  · rw [if_neg h1]
    by_cases h2 : k = 2
    · rw [if_pos h2, h2]; rfl
    · rw [if_neg h2]
      by_cases h3 : k = 3
      · rw [if_pos h3, h3]; rfl
      · rw [if_neg h3]
        by_cases h4 : k = 4
        · rw [if_pos h4, h4]; rfl
        · rw [if_neg h4]
          by_cases h5 : k = 5
          · rw [if_pos h5, h5]; rfl
          · rw [if_neg h5]
            by_cases h6 : k = 6
            · rw [if_pos h6, h6]; rfl
            · rw [if_neg h6]
              by_cases h7 : k = 7
              · rw [if_pos h7, h7]; rfl
              · rw [if_neg h7]
                by_cases h8 : k = 8
                · rw [if_pos h8, h8]; rfl
                · rw [if_neg h8, show k = 9 by omega]; rfl
/-- one term, one row -/
theorem trm_inj {D : Nat → FT} {cnt k k' : Nat} {a b c a' b' c' : Int32} (hc : cnt ≤ 20000) (hI : INJ D 1 cnt) (h1 : VALc cnt k a b c) (h2 : VALc cnt k' a' b' c') (h : trm D k a b c = trm D k' a' b' c') : k = k' ∧ a = a' ∧ b = b' ∧ c = c' := by
  have hk : k = k' := by rw [← trm_knd (D := D) (a := a) (b := b) (c := c) h1.k9, ← trm_knd (D := D) (a := a') (b := b') (c := c') h2.k9, h]
  subst hk
  refine ⟨rfl, ?_⟩
  rcases h1 with ⟨g1 | g1, g2, g3⟩ | ⟨g1, g2, g3⟩ | ⟨g1, g2, g3⟩ | ⟨g1 | g1, g2, g3, g4⟩ | ⟨g1, g2, g3, g4⟩ | ⟨g1 | g1, g2, g3, g4⟩ <;> subst g1 <;>
    rcases h2 with ⟨e1 | e1, e2, e3⟩ | ⟨e1, e2, e3⟩ | ⟨e1, e2, e3⟩ | ⟨e1 | e1, e2, e3, e4⟩ | ⟨e1, e2, e3, e4⟩ | ⟨e1 | e1, e2, e3, e4⟩ <;> (try omega)
  · obtain ⟨_, q, _⟩ := nde_inj h
    exact ⟨q, by rw [g2, e2], by rw [g3, e3]⟩
  · obtain ⟨_, q, _⟩ := nde_inj h
    exact ⟨q, by rw [g2, e2], by rw [g3, e3]⟩
  · obtain ⟨_, q, q2, q3, _⟩ := nde_inj h
    exact ⟨q, IDc.eq hc hI g2 e2 q2, IDc.eq hc hI g3 e3 q3⟩
  · obtain ⟨_, q, q2, q3, _⟩ := nde_inj h
    exact ⟨q, IDc.eq hc hI g2 e2 q2, by rw [g3, e3]⟩
  · obtain ⟨_, q, q2, q3, _⟩ := nde_inj h
    exact ⟨IDc.eq hc hI g2 e2 q2, by rw [g3, e3], by rw [g4, e4]⟩
  · obtain ⟨_, q, q2, q3, _⟩ := nde_inj h
    exact ⟨IDc.eq hc hI g2 e2 q2, by rw [g3, e3], by rw [g4, e4]⟩
  · obtain ⟨_, q, q2, q3, q4⟩ := nde_inj h
    exact ⟨IDc.eq hc hI g2 e2 q2, IDc.eq hc hI g3 e3 q3, IDc.eq hc hI g4 e4 q4⟩
  · obtain ⟨_, q, q2, q3, q4⟩ := nde_inj h
    exact ⟨IDc.eq hc hI g2 e2 q2, IDc.eq hc hI g3 e3 q3, by rw [g4, e4]⟩
  · obtain ⟨_, q, q2, q3, q4⟩ := nde_inj h
    exact ⟨IDc.eq hc hI g2 e2 q2, IDc.eq hc hI g3 e3 q3, by rw [g4, e4]⟩
/-- chains -/
def LNK (O : Nat → Int32) (nil : Int32) : Int32 → List Nat → Prop
  | v, [] => v = nil
  | v, t :: L => v = nI t ∧ LNK O nil (O t) L
def DSC : Nat → List Nat → Prop
  | _, [] => True
  | b, t :: L => t < b ∧ DSC t L
theorem DSC.len {b : Nat} {L : List Nat} (h : DSC b L) : L.length ≤ b := by
  induction L generalizing b with
  | nil => exact Nat.zero_le _
  | cons t L ih => have := ih h.2; have := h.1; rw [List.length_cons]; omega
theorem DSC.lt {b : Nat} {L : List Nat} (h : DSC b L) : ∀ t, t ∈ L → t < b := by
  induction L generalizing b with
  | nil => intro t ht; cases ht
  | cons s L ih =>
    intro t ht
    rcases List.mem_cons.mp ht with rfl | hm
    · exact h.1
    · have := ih h.2 t hm; have := h.1; omega
theorem DSC.mono {b d : Nat} {L : List Nat} (h : DSC b L) (hd : b ≤ d) : DSC d L := by
  cases L with
  | nil => trivial
  | cons t L => exact ⟨by have := h.1; omega, h.2⟩
theorem LNK.same {O O' : Nat → Int32} {nil v : Int32} {b : Nat} {L : List Nat} (h : LNK O nil v L) (hd : DSC b L) (he : ∀ t, t < b → O t = O' t) : LNK O' nil v L := by
  induction L generalizing v b with
  | nil => exact h
  | cons t L ih => exact ⟨h.1, by rw [← he t hd.1]; exact ih h.2 hd.2 (fun s hs => he s (by have := hd.1; omega))⟩
def ROWt (tr : TrS) (t k : Nat) (a b c : Int32) : Prop := tr.1 t = nI k ∧ tr.2.1 t = a ∧ tr.2.2.1 t = b ∧ tr.2.2.2.1 t = c
def CT (tr : TrS) (D : Nat → FT) (cnt : Nat) : Prop :=
  tr.2.2.2.2.2.2 = nI cnt ∧ 4 ≤ cnt ∧ cnt ≤ 18755 ∧ (D 1 = nilT ∧ D 2 = truT ∧ D 3 = flsT) ∧ (∀ t, t < 4 → tr.1 t = 0) ∧
  (∀ t, 4 ≤ t → t < cnt → ∃ k a b c, ROWt tr t k a b c ∧ VALc t k a b c ∧ D t = trm D k a b c) ∧ INJ D 1 cnt ∧
  ∃ ch : Nat → List Nat, (∀ h, h < 4096 → LNK tr.2.2.2.2.1 0 (tr.2.2.2.2.2.1 h) (ch h) ∧ DSC cnt (ch h) ∧ ∀ t, t ∈ ch h → 4 ≤ t) ∧ ∀ t k a b c, 4 ≤ t → t < cnt → ROWt tr t k a b c → ∃ h, h < 4096 ∧ f6_chainOf (nI k) a b c = some (nI h) ∧ t ∈ ch h
theorem z_and {x : Int32} {m : Nat} (hm : m < 65536) : ∃ h, h ≤ m ∧ x &&& nI m = nI h := by
  refine ⟨(x &&& nI m).toBitVec.toNat, ?_, ?_⟩
  · rw [Int32.toBitVec_and, BitVec.toNat_and]
    refine Nat.le_trans Nat.and_le_right ?_
    show (BitVec.ofNat 32 m).toNat ≤ m
    rw [BitVec.toNat_ofNat]
    exact Nat.mod_le _ _
  · rw [← Int32.toBitVec_inj]
    simp [nI]
    rw [Nat.mod_eq_of_lt (by omega)]
theorem z_chain (k a b c : Int32) : ∃ h, h < 4096 ∧ f6_chainOf k a b c = some (nI h) := by
  rw [f6_chainOf, nm_v]
  obtain ⟨h, h1, h2⟩ := z_and (x := ((((k * 31 + a) * 1009 + b) * 1013 + c) ^^^ (((((k * 31 + a) * 1009 + b) * 1013 + c).toUInt32 >>> ((12 : Int32).toUInt32 &&& Int32.toUInt32 31)).toInt32)) ^^^ (((((k * 31 + a) * 1009 + b) * 1013 + c).toUInt32 >>> ((24 : Int32).toUInt32 &&& Int32.toUInt32 31)).toInt32)) (m := 4095) (by omega)
  exact ⟨h, by omega, congrArg some h2⟩
/-- along a chain -/
theorem z_walk {kk : Int32 → Int32 → Int32 → Int32 → Int32 → TrS → Option (Int32 × TrS)} {N : Nat} {tr : TrS} {cnt : Nat} {x1 x2 x3 x4 x5 : Int32} (hz : tr.2.2.2.2.2.2 = nI cnt) (hc : cnt ≤ 18755) : ∀ L n j v, LNK tr.2.2.2.2.1 0 v L → (∀ t, t ∈ L → 4 ≤ t ∧ t < cnt) → L.length < n → j + L.length < cnt →
    (∃ t, t ∈ L ∧ (tr.1 t = x1 ∧ tr.2.1 t = x2 ∧ tr.2.2.1 t = x3 ∧ tr.2.2.2.1 t = x4) ∧ f6_of_L22 kk N n x1 x2 x3 x4 x5 v (nI j) tr = some (nI t, tr)) ∨
    ((∀ t, t ∈ L → ¬ (tr.1 t = x1 ∧ tr.2.1 t = x2 ∧ tr.2.2.1 t = x3 ∧ tr.2.2.2.1 t = x4)) ∧ f6_of_L22 kk N n x1 x2 x3 x4 x5 v (nI j) tr = kk x1 x2 x3 x4 x5 tr) := by
  obtain ⟨tK, tF, tS, tT, tO, tN, tc⟩ := tr
  dsimp only at hz
  subst hz
  intro L
  induction L with
  | nil =>
    intro n j v hl hm hn hj
    obtain ⟨n, rfl⟩ : ∃ m, n = m + 1 := ⟨n - 1, by simp only [List.length_nil] at hn; omega⟩
    have hl : v = 0 := hl
    subst hl
    refine .inr ⟨fun t ht => (by cases ht), ?_⟩
    simp only [List.length_nil] at hj
    rw [f6_of_L22, if_neg (fun q => absurd ((nI_leI (by omega) (by omega)).mp q) (by omega)), if_pos rfl]
  | cons t L ih =>
    intro n j v hl hm hn hj
    rw [List.length_cons] at hn hj
    obtain ⟨n, rfl⟩ : ∃ m, n = m + 1 := ⟨n - 1, by omega⟩
    obtain ⟨hv, hl⟩ := hl
    dsimp only at hl
    subst hv
    obtain ⟨m1, m2⟩ := hm t List.mem_cons_self
    have hg := z_gd (n := t) (N := 18755) (by omega) (by omega)
    have hn := z_nat (n := t) (by omega)
    have hg' : ¬ (nI t < 0 ∨ 18755 ≤ t) := by rw [hn] at hg; exact hg
    have h84 : ∀ k22, f6_of_L84 k22 N x1 x2 x3 x4 x5 (nI t) (nI j) (tK, tF, tS, tT, tO, tN, nI cnt) = k22 x1 x2 x3 x4 x5 (tO t) (nI (j + 1)) (tK, tF, tS, tT, tO, tN, nI cnt) := by
      intro k22
      rw [f6_of_L84, if_neg hg, nm_v, nm_v, nI_1, hn]
    rw [f6_of_L22, if_neg (fun q => absurd ((nI_leI (by omega) (by omega)).mp q) (by omega)), if_neg (nl_ne t 0 0 rfl (by omega) (by omega) (by omega)), if_neg hg, hn, h84]
    by_cases w : tK t = x1 ∧ tF t = x2 ∧ tS t = x3 ∧ tT t = x4
    · left
      refine ⟨t, List.mem_cons_self, w, ?_⟩
      rw [if_pos w.1, if_neg hg', if_pos w.2.1, if_neg hg', if_pos w.2.2.1, if_neg hg', if_pos w.2.2.2]
    · have key : (if tK t = x1 then if nI t < 0 ∨ 18755 ≤ t then none else if tF t = x2 then if nI t < 0 ∨ 18755 ≤ t then none else if tS t = x3 then if nI t < 0 ∨ 18755 ≤ t then none else if tT t = x4 then some (nI t, (tK, tF, tS, tT, tO, tN, nI cnt)) else f6_of_L22 kk N n x1 x2 x3 x4 x5 (tO t) (nI (j + 1)) (tK, tF, tS, tT, tO, tN, nI cnt) else f6_of_L22 kk N n x1 x2 x3 x4 x5 (tO t) (nI (j + 1)) (tK, tF, tS, tT, tO, tN, nI cnt) else f6_of_L22 kk N n x1 x2 x3 x4 x5 (tO t) (nI (j + 1)) (tK, tF, tS, tT, tO, tN, nI cnt) else f6_of_L22 kk N n x1 x2 x3 x4 x5 (tO t) (nI (j + 1)) (tK, tF, tS, tT, tO, tN, nI cnt)) = f6_of_L22 kk N n x1 x2 x3 x4 x5 (tO t) (nI (j + 1)) (tK, tF, tS, tT, tO, tN, nI cnt) := by
        by_cases w1 : tK t = x1
        · rw [if_pos w1, if_neg hg']
          by_cases w2 : tF t = x2
          · rw [if_pos w2, if_neg hg']
            by_cases w3 : tS t = x3
            · rw [if_pos w3, if_neg hg', if_neg (fun w4 => w ⟨w1, w2, w3, w4⟩)]
            · rw [if_neg w3]
          · rw [if_neg w2]
        · rw [if_neg w1]
      rw [key]
      rcases ih n (j + 1) (tO t) hl (fun s hs => hm s (List.mem_cons_of_mem _ hs)) (by omega) (by omega) with ⟨s, h1, h2, h3⟩ | ⟨h1, h2⟩
      · exact .inl ⟨s, List.mem_cons_of_mem _ h1, h2, h3⟩
      · refine .inr ⟨fun s hs => ?_, h2⟩
        rcases List.mem_cons.mp hs with rfl | hs
        · exact w
        · exact h1 s hs
