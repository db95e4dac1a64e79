/-! BOTH SIDES: score, run -/
section
variable {top : TopS} {co : Nat → CoS} {mu : MuS} {tr : TrS} {mx : MxS} {mT : MdT} {mQ : MdQ} {mK : MdK} {mL : MdL} {mG : MdG} {ma : MaS} {mR : MdR}
section
variable {N nt m : Nat} {l1 : Int32} {l2 l3 l4 l5 l6 : Nat → Int32} {g1 g2 g3 : Int32} {g5 g6 : Nat → Int32} {g7 : Int32} {g8 g9 : Nat → Int32} {x1 x2 : Int32}
/-- is one of the tests' marks set? -/
theorem z_s64 {kk : Int32 → Int32 → Int32 → Int32 → MdQ → Option (Int32 × MdQ)} (hnt : nt ≤ 8) (hm : m ≤ 120) : ∀ r n t (z : Int32), t + r = nt → r < n → (z = 0 ∨ z = 1) →
    ∃ z', (z' = 0 ∨ z' = 1) ∧ (z' = 0 ↔ z = 0 ∧ ∀ j, t ≤ j → j < nt → g8 (121 * j + m) = 0) ∧ f8_score_L64 kk N l1 l2 l3 l4 l5 l6 g1 g2 g3 (nI nt) g5 g6 g7 g8 g9 n x1 x2 (nI m) z (nI t) mQ = kk x1 x2 (nI m) z' mQ := by
  obtain ⟨qc, qb, qp, qr, qC⟩ := mQ
  intro r
  induction r with
  | zero =>
    intro n t z h1 h2 h3
    obtain ⟨n, rfl⟩ : ∃ a, n = a + 1 := ⟨n - 1, by omega⟩
    refine ⟨z, h3, ⟨fun q => ⟨q, fun j j1 j2 => by omega⟩, fun q => q.1⟩, ?_⟩
    rw [f8_score_L64, if_pos ((nI_leI (by omega) (by omega)).mpr (by omega))]
  | succ r ih =>
    intro n t z h1 h2 h3
    obtain ⟨n, rfl⟩ : ∃ a, n = a + 1 := ⟨n - 1, by omega⟩
    have hlt : ¬ nI nt ≤ nI t := fun q => absurd ((nI_leI (by omega) (by omega)).mp q) (by omega)
    have ei : (121 : Int32) * nI t + nI m = nI (121 * t + m) := by
      rw [show (121 : Int32) = nI 121 from rfl, nI_mul, nI_add]
    have hg := z_gd (n := 121 * t + m) (N := 968) (by omega) (by omega)
    have hn := z_nat (n := 121 * t + m) (by omega)
    rcases h3 with rfl | rfl
    · by_cases w : g8 (121 * t + m) = 0
      · obtain ⟨z', i1, i2, i3⟩ := ih n (t + 1) 0 (by omega) (by omega) (.inl rfl)
        refine ⟨z', i1, ?_, ?_⟩
        · rw [i2]
          refine ⟨fun q => ⟨rfl, fun j j1 j2 => ?_⟩, fun q => ⟨rfl, fun j j1 j2 => q.2 j (by omega) j2⟩⟩
          by_cases e : j = t
          · rw [e]; exact w
          · exact q.2 j (by omega) j2
        · rw [f8_score_L64, if_neg hlt, if_pos rfl, ei, if_neg hg, hn, if_pos w, nm_v, nI_1]
          exact i3
      · obtain ⟨z', i1, i2, i3⟩ := ih n (t + 1) 1 (by omega) (by omega) (.inr rfl)
        refine ⟨z', i1, ?_, ?_⟩
        · rw [i2]
          exact ⟨fun q => absurd q.1 (by decide), fun q => absurd (q.2 t (Nat.le_refl _) (by omega)) w⟩
        · rw [f8_score_L64, if_neg hlt, if_pos rfl, ei, if_neg hg, hn, if_neg w, nm_v, nI_1]
          exact i3
    · obtain ⟨z', i1, i2, i3⟩ := ih n (t + 1) 1 (by omega) (by omega) (.inr rfl)
      refine ⟨z', i1, ?_, ?_⟩
      · rw [i2]
        exact ⟨fun q => absurd q.1 (by decide), fun q => absurd q.1 (by decide)⟩
      · rw [f8_score_L64, if_neg hlt, if_neg (by decide), nm_v, nI_1]
        exact i3
/-- both count the same -/
theorem z_s42 {mS mK' mI mC mA : Nat → Int32} {xN xM : Int32} {xS : Nat → Int64} {xK xX xY : Nat → Int32} {nM : Nat} (hN : 200 < N) (hnt : nt ≤ 8) (hM : nM ≤ 120) (hw : x1 = 0 ∨ x1 = 1) (hk : ∀ m, m ≤ nM → ∃ k, k ≤ m ∧ mC m = nI k ∧ l5 m = nI k)
    (hx : ∀ m, m ≤ nM → ∃ k, k < 256 ∧ xK m = nI k ∧ (m = 0 → k = 0) ∧ (0 < m → ∀ t, t < 8 → (k.testBit t = true ↔ t < nt ∧ g8 (121 * t + m) ≠ 0))) : ∀ r n m (acc : Int32), m + r = nM + 1 → r < n → 1 ≤ m →
    ∃ v, f7_score_L27 (fun x => some (.ok x)) N mS mK' mI mC (nI nM) mA xN xM xS xK xX xY n x1 acc (nI m) = some (.ok v) ∧ f8_score_L42 (fun x Q => some (x, Q)) N (nI nM) l2 l3 l4 l5 l6 g1 g2 g3 (nI nt) g5 g6 g7 g8 g9 n x1 acc (nI m) mQ = some (v, mQ) := by
  intro r
  induction r with
  | zero =>
    intro n m acc h1 h2 h3
    obtain ⟨n, rfl⟩ : ∃ a, n = a + 1 := ⟨n - 1, by omega⟩
    obtain ⟨qc, qb, qp, qr, qC⟩ := mQ
    have hlt : nI nM < nI m := (nI_ltI (by omega) (by omega)).mpr (by omega)
    refine ⟨acc, ?_, ?_⟩
    · rw [f7_score_L27, if_pos hlt]
    · rw [f8_score_L42, if_pos hlt]
  | succ r ih =>
    intro n m acc h1 h2 h3
    obtain ⟨n, rfl⟩ : ∃ a, n = a + 1 := ⟨n - 1, by omega⟩
    have hlt : ¬ nI nM < nI m := fun q => absurd ((nI_ltI (by omega) (by omega)).mp q) (by omega)
    have hg := z_gd (n := m) (N := 121) (by omega) (by omega)
    have hn := z_nat (n := m) (by omega)
    have h0 : ¬ nI m = 0 := nI_ne0 (by omega) (by omega)
    obtain ⟨k, k1, k2, k3⟩ := hk m (by omega)
    obtain ⟨kk, y1, y2, _, y4⟩ := hx m (by omega)
    have y4 := y4 (by omega)
    -- the reference's step
    have step : ∀ (z : Int32), f8_score_L42 (fun x Q => some (x, Q)) N (nI nM) l2 l3 l4 l5 l6 g1 g2 g3 (nI nt) g5 g6 g7 g8 g9 (n + 1) x1 acc (nI m) mQ = f8_score_L64 (fun a b c d Q => if c < 0 ∨ 121 ≤ c.toNatClampNeg then none else if l5 c.toNatClampNeg = c then (if d = 0 then f8_score_L42 (fun x Q => some (x, Q)) N (nI nM) l2 l3 l4 l5 l6 g1 g2 g3 (nI nt) g5 g6 g7 g8 g9 n a b (c + 1) Q else f8_score_L42 (fun x Q => some (x, Q)) N (nI nM) l2 l3 l4 l5 l6 g1 g2 g3 (nI nt) g5 g6 g7 g8 g9 n a (b + 1) (c + 1) Q) else f8_score_L42 (fun x Q => some (x, Q)) N (nI nM) l2 l3 l4 l5 l6 g1 g2 g3 (nI nt) g5 g6 g7 g8 g9 n a b (c + 1) Q) N (nI nM) l2 l3 l4 l5 l6 g1 g2 g3 (nI nt) g5 g6 g7 g8 g9 N x1 acc (nI m) (if x1 = 0 then 1 else 0) 0 mQ := by
      intro z
      obtain ⟨qc, qb, qp, qr, qC⟩ := mQ
      rw [f8_score_L42, if_neg hlt]
      by_cases w : x1 = 0
      · rw [if_pos w, if_pos w]
        rfl
      · rw [if_neg w, if_neg w]
        rfl
    obtain ⟨z', i1, i2, i3⟩ := z_s64 (mQ := mQ) (N := N) (l1 := nI nM) (l2 := l2) (l3 := l3) (l4 := l4) (l5 := l5) (l6 := l6) (g1 := g1) (g2 := g2) (g3 := g3) (g5 := g5) (g6 := g6) (g7 := g7) (g8 := g8) (g9 := g9) (x1 := x1) (x2 := acc) (m := m) (nt := nt) (kk := fun a b c d Q => if c < 0 ∨ 121 ≤ c.toNatClampNeg then none else if l5 c.toNatClampNeg = c then (if d = 0 then f8_score_L42 (fun x Q => some (x, Q)) N (nI nM) l2 l3 l4 l5 l6 g1 g2 g3 (nI nt) g5 g6 g7 g8 g9 n a b (c + 1) Q else f8_score_L42 (fun x Q => some (x, Q)) N (nI nM) l2 l3 l4 l5 l6 g1 g2 g3 (nI nt) g5 g6 g7 g8 g9 n a (b + 1) (c + 1) Q) else f8_score_L42 (fun x Q => some (x, Q)) N (nI nM) l2 l3 l4 l5 l6 g1 g2 g3 (nI nt) g5 g6 g7 g8 g9 n a b (c + 1) Q) hnt (by omega) nt N 0 (if x1 = 0 then 1 else 0) (by omega) (by omega) (by
      by_cases w : x1 = 0
      · rw [if_pos w]; exact .inr rfl
      · rw [if_neg w]; exact .inl rfl)
    rw [step 0]
    have i3' : f8_score_L64 (fun a b c d Q => if c < 0 ∨ 121 ≤ c.toNatClampNeg then none else if l5 c.toNatClampNeg = c then (if d = 0 then f8_score_L42 (fun x Q => some (x, Q)) N (nI nM) l2 l3 l4 l5 l6 g1 g2 g3 (nI nt) g5 g6 g7 g8 g9 n a b (c + 1) Q else f8_score_L42 (fun x Q => some (x, Q)) N (nI nM) l2 l3 l4 l5 l6 g1 g2 g3 (nI nt) g5 g6 g7 g8 g9 n a (b + 1) (c + 1) Q) else f8_score_L42 (fun x Q => some (x, Q)) N (nI nM) l2 l3 l4 l5 l6 g1 g2 g3 (nI nt) g5 g6 g7 g8 g9 n a b (c + 1) Q) N (nI nM) l2 l3 l4 l5 l6 g1 g2 g3 (nI nt) g5 g6 g7 g8 g9 N x1 acc (nI m) (if x1 = 0 then 1 else 0) 0 mQ = _ := i3
    rw [i3']
    rw [if_neg hg, hn, k3, nI_1, f7_score_L27, if_neg hlt, f4_isNamesake, if_neg h0, if_neg hg, hn, k2, nI_1]
    by_cases w : nI k = nI m
    · rw [if_pos w, if_pos w, ob_s, if_neg (show ¬ (1 : Int32) = 0 by decide)]
      by_cases w0 : x1 = 0
      · have hz : ¬ z' = 0 := fun q => by
          have := (i2.mp q).1
          rw [if_pos w0] at this
          exact absurd this (by decide)
        rw [if_pos w0, if_neg hz]
        exact ih n (m + 1) (acc + 1) (by omega) (by omega) (by omega)
      · rw [if_neg w0, if_neg (by rw [hn] at hg; exact hg), y2]
        have i2' : z' = 0 ↔ ∀ j, j < nt → g8 (121 * j + m) = 0 := by
          rw [i2, if_neg w0]
          exact ⟨fun q j hj => q.2 j (Nat.zero_le _) hj, fun q => ⟨rfl, fun j _ hj => q j hj⟩⟩
        have hkk : nI kk = 0 ↔ z' = 0 := by
          rw [i2']
          constructor
          · intro q j hj
            have e0 : kk = 0 := (nI_eq (a := kk) (b := 0) (by omega) (by omega)).mp q
            by_cases e : g8 (121 * j + m) = 0
            · exact e
            · have := (y4 j (by omega)).mpr ⟨hj, e⟩
              rw [e0, Nat.zero_testBit] at this
              exact absurd this (by decide)
          · intro q
            have : kk = 0 := by
              refine Nat.eq_of_testBit_eq (fun t => ?_)
              rw [Nat.zero_testBit]
              by_cases ht : t < 8
              · cases hb : kk.testBit t with
                | false => rfl
                | true =>
                  obtain ⟨a1, a2⟩ := (y4 t ht).mp hb
                  exact absurd (q t a1) a2
              · exact Nat.testBit_lt_two_pow (Nat.lt_of_lt_of_le y1 (by
                  have := Nat.pow_le_pow_right (show 0 < 2 by omega) (show 8 ≤ t by omega)
                  exact this))
            rw [this]
            rfl
        by_cases wz : z' = 0
        · rw [if_pos (hkk.mpr wz), if_pos wz]
          exact ih n (m + 1) acc (by omega) (by omega) (by omega)
        · rw [if_neg (fun q => wz (hkk.mp q)), if_neg wz]
          exact ih n (m + 1) (acc + 1) (by omega) (by omega) (by omega)
    · rw [if_neg w, if_neg w, ob_s, if_pos rfl]
      exact ih n (m + 1) acc (by omega) (by omega) (by omega)
end
theorem e_score (h : BSR top co mu tr mx mT mQ mK mL mG) (a : Int32) : ∃ r v c, f7_score 1000 a mu mx = some r ∧ f8_score 1000 a mL mG mQ = some (v, (mQ.1, mQ.2.1, mQ.2.2.1, mQ.2.2.2.1, c)) ∧ OUT r v c [(ISE, 1), (IAE, 2)] ∧ BSR top co mu tr mx mT (mQ.1, mQ.2.1, mQ.2.2.1, mQ.2.2.2.1, c) mK mL mG := by
  have hm := e_mut h.2.2.1
  have hr : ∀ c, BSR top co mu tr mx mT (mQ.1, mQ.2.1, mQ.2.2.1, mQ.2.2.2.1, c) mK mL mG := fun c => h
  obtain ⟨nt, k1, k2, k3, k4, k5⟩ := h.2.2.2.2.2.2
  obtain ⟨tx, ln, cp, cq, sq, fu, lv, lt⟩ := top
  obtain ⟨mS, mK', mI, mC, mc, mA⟩ := mu
  obtain ⟨xN, xM, xS, xK, xX, xY⟩ := mx
  obtain ⟨l1, l2, l3, l4, l5, l6⟩ := mL
  obtain ⟨g1, g2, g3, g4, g5, g6, g7, g8, g9⟩ := mG
  obtain ⟨qc, qb, qp, qr, qC⟩ := mQ
  dsimp only at hm k2 k3 k5
  subst k2 k3
  have n1 : ¬ (1 : Int32) = 0 := by decide
  rw [f7_score, f8_score, f7_needMatrix]
  rcases k5 with ⟨rfl, rfl⟩ | ⟨rfl, rfl, rfl, nM, e1, e2, e3⟩
  · rw [if_pos rfl, if_pos rfl, ob_s]
    refine ⟨_, 0, 1, rfl, ?_, .inr ⟨ISE, by simp only [List.mem_cons, true_or], rfl⟩, hr 1⟩
    rw [f8_score_L26, if_neg (by decide)]
  · obtain ⟨nM', m1, m2, m3, m0, m4, m5⟩ := hm rfl
    subst e1 m3
    have : nM = nM' := (nI_eq (by omega) (by omega)).mp m2
    subst this
    rw [if_neg n1, if_neg n1, ob_s]
    dsimp only
    have loop : ∀ (q : Int32), (a = 0 ∨ a = 1) → ∃ v, f7_score_L27 (fun x => some (.ok x)) 1000 mS mK' mI mC (nI nM) mA (nI nt) 1 xS xK xX xY 1000 a 0 1 = some (.ok v) ∧ f8_score_L42 (fun x Q => some (x, Q)) 1000 (nI nM) l2 l3 l4 l5 l6 g1 g2 g3 (nI nt) g5 g6 1 g8 g9 1000 a 0 1 (qc, qb, qp, qr, 0) = some (v, (qc, qb, qp, qr, 0)) := fun _ hw => z_s42 (mQ := (qc, qb, qp, qr, 0)) (N := 1000) (by omega) k1 m1 hw m5 e3.2 nM 1000 1 0 (by omega) (by omega) (by omega)
    by_cases w0 : a = 0
    · obtain ⟨v, l1', l2'⟩ := loop 0 (.inl w0)
      rw [if_pos w0, if_pos w0]
      refine ⟨_, v, 0, l1', ?_, .inl ⟨rfl, rfl⟩, hr 0⟩
      rw [f8_score_L25, f8_score_L26, if_pos (by decide)]
      exact l2'
    · rw [if_neg w0, if_neg w0]
      by_cases w1 : a = 1
      · obtain ⟨v, l1', l2'⟩ := loop 0 (.inr w1)
        rw [if_pos w1, if_pos w1]
        refine ⟨_, v, 0, l1', ?_, .inl ⟨rfl, rfl⟩, hr 0⟩
        rw [f8_score_L25, f8_score_L26, if_pos (by decide)]
        exact l2'
      · rw [if_neg w1, if_neg w1]
        refine ⟨_, 0, 2, rfl, ?_, .inr ⟨IAE, by simp only [List.mem_cons, true_or, or_true], rfl⟩, hr 2⟩
        rw [f8_score_L26, if_neg (by decide)]
end
