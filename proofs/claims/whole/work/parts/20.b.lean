/-! BOTH SIDES: test, killed, reached, run -/
theorem nI_mul (a b : Nat) : nI a * nI b = nI (a * b) := (Int32.ofNat_mul a b).symm
theorem ib_bit : ∀ k : Fin 256, ∀ t : Fin 8, (((nI k >>> (nI t &&& 31)) &&& (1 : Int32)) = 1) ↔ (k : Nat).testBit t = true := by decide +kernel
section
variable {top : TopS} {co : Nat → CoS} {mu : MuS} {tr : TrS} {mx : MxS} {mT : MdT} {mQ : MdQ} {mK : MdK} {mL : MdL} {mG : MdG}
theorem cp_01 (h : CPR top co mu mQ mK mL) : top.2.2.1 = 0 ∧ mQ.1 = 0 ∨ top.2.2.1 = 1 ∧ mQ.1 = 1 := by
  obtain ⟨base, b1, b2, b3⟩ := h
  rcases b3 with b3 | ⟨b3, b4, _⟩
  · exact .inl b3
  · exact .inr ⟨b3, b4⟩
theorem e_test (h : BSR top co mu tr mx mT mQ mK mL mG) (a b : Int32) : ∃ r v c mx' mG', f7_test a b top mx = some (r, mx') ∧ f8_test a b mQ mG = some (v, (mQ.1, mQ.2.1, mQ.2.2.1, mQ.2.2.2.1, c), mG') ∧ OUT r v c [(ISE, 1)] ∧ BSR top co mu tr mx' mT (mQ.1, mQ.2.1, mQ.2.2.1, mQ.2.2.2.1, c) mK mL mG' := by
  have hq := cp_01 h.2.2.1
  obtain ⟨tx, ln, cp, cq, sq, fu, lv, lt⟩ := top
  obtain ⟨xN, xM, xS, xK, xX, xY⟩ := mx
  obtain ⟨qc, qb, qp, qr, qC⟩ := mQ
  obtain ⟨g1, g2, g3, g4, g5, g6, g7, g8, g9⟩ := mG
  obtain ⟨h1, h2, h3, h4, h5, h6, h7⟩ := h
  dsimp only at hq
  have n1 : ¬ (1 : Int32) = 0 := by decide
  rw [f7_test, f8_test, f7_needCompiled]
  rcases hq with ⟨rfl, rfl⟩ | ⟨rfl, rfl⟩
  · rw [if_pos rfl, if_pos rfl, ob_s]
    exact ⟨_, _, _, _, _, rfl, rfl, .inr ⟨ISE, by simp only [List.mem_cons, true_or], rfl⟩, h1, h2, h3, h4, h5, h6, h7⟩
  · rw [if_neg n1, if_neg n1, ob_s]
    dsimp only
    have h7' := h7
    obtain ⟨nt, k1, k2, k3, k4, k5⟩ := h7
    dsimp only at k2 k3 k4
    subst k2 k3
    by_cases w : nI nt = 8
    · rw [if_pos w, if_pos w]
      exact ⟨_, _, _, _, _, rfl, rfl, .inr ⟨ISE, by simp only [List.mem_cons, true_or], rfl⟩, h1, h2, h3, h4, h5, h6, h7'⟩
    · have hl : nt < 8 := by
        by_cases q : nt = 8
        · rw [q] at w
          exact absurd rfl w
        · omega
      have hg := z_gd (n := nt) (N := 8) hl (by omega)
      have hn := z_nat (n := nt) (by omega)
      rw [if_neg w, if_neg w, f3_addTest, if_neg hg, if_neg hg, if_neg hg, if_neg hg, hn, ob_s]
      refine ⟨_, _, _, _, _, rfl, rfl, .inl ⟨rfl, rfl⟩, h1, h2, h3, h4, h5, h6, ⟨nt + 1, by omega, nI_1 nt, nI_1 nt, fun j hj => ?_, .inl ⟨rfl, rfl⟩⟩⟩
      dsimp only
      by_cases q : j = nt
      · subst q
        rw [z_upd_e, z_upd_e, z_upd_e, z_upd_e]
        exact ⟨rfl, rfl⟩
      · rw [z_upd_n q, z_upd_n q, z_upd_n q, z_upd_n q]
        exact k4 j (by omega)
/-- killed and reached want the same -/
theorem e_flt (h : BSR top co mu tr mx mT mQ mK mL mG) (a b : Int32) :
    (f7_needMatrix mx = some (.error ISE) ∧ f8_fault a b mL mG = some 1) ∨
    (f7_needMatrix mx = some (.ok ()) ∧ f7_needMutant a 1 mu = some (.error IOB) ∧ f8_fault a b mL mG = some 2) ∨
    (f7_needMatrix mx = some (.ok ()) ∧ f7_needMutant a 1 mu = some (.ok ()) ∧ f7_needTest b mx = some (.error IOB) ∧ f8_fault a b mL mG = some 2) ∨
    (f7_needMatrix mx = some (.ok ()) ∧ f7_needMutant a 1 mu = some (.ok ()) ∧ f7_needTest b mx = some (.ok ()) ∧ f8_fault a b mL mG = some 0 ∧ ∃ m t nt nM, 1 ≤ m ∧ m ≤ nM ∧ nM ≤ 120 ∧ t < nt ∧ nt ≤ 8 ∧ a = nI m ∧ b = nI t ∧ MTX nt nM mx mG ∧ (∃ s, s < 60 ∧ mu.1 m = nI s ∧ mL.2.1 m = nI s) ∧ ∃ k, k ≤ m ∧ mu.2.2.2.1 m = nI k ∧ mL.2.2.2.2.1 m = nI k) := by
  have hm := e_mut h.2.2.1
  obtain ⟨nt, k1, k2, k3, k4, k5⟩ := h.2.2.2.2.2.2
  obtain ⟨tx, ln, cp, cq, sq, fu, lv, lt⟩ := top
  obtain ⟨mS, mK', mI, mC, mc, mA⟩ := mu
  obtain ⟨xN, xM, xS, xK, xX, xY⟩ := mx
  obtain ⟨l1, l2, l3, l4, l5, l6⟩ := mL
  obtain ⟨g1, g2, g3, g4, g5, g6, g7, g8, g9⟩ := mG
  dsimp only at hm k2 k3 k5
  subst k2 k3
  have n1 : ¬ (1 : Int32) = 0 := by decide
  rw [f7_needMatrix, f8_fault, f7_needMutant, f7_needTest]
  rcases k5 with ⟨rfl, rfl⟩ | ⟨rfl, rfl, rfl, nM, e1, e2, e3⟩
  · rw [if_pos rfl, if_pos rfl]
    exact .inl ⟨rfl, rfl⟩
  · obtain ⟨nM', m1, m2, m3, m0, m4, m5⟩ := hm rfl
    subst e1 m3
    have : nM = nM' := (nI_eq (by omega) (by omega)).mp m2
    subst this
    rw [if_neg n1, if_neg n1]
    by_cases w1 : a < 1
    · rw [if_pos w1, if_pos w1]
      exact .inr (.inl ⟨rfl, rfl, rfl⟩)
    · rw [if_neg w1, if_neg w1]
      by_cases w2 : a ≤ nI nM
      · have w2' : ¬ nI nM < a := by
          rw [Int32.lt_iff_toInt_lt]
          rw [Int32.le_iff_toInt_le] at w2
          omega
        rw [if_pos w2, if_neg w2']
        by_cases w3 : b < 0
        · rw [if_pos w3, if_pos w3]
          exact .inr (.inr (.inl ⟨rfl, rfl, rfl, rfl⟩))
        · rw [if_neg w3, if_neg w3]
          by_cases w4 : b < nI nt
          · rw [if_pos w4, if_pos w4]
            obtain ⟨m, q1, q2, rfl⟩ := i_rng (a := 1) (b := nM) w1 w2 (by omega) (by omega)
            obtain ⟨t, t1, t2, rfl⟩ := i_rng (a := 0) (b := nt) w3 (by
              rw [Int32.lt_iff_toInt_lt] at w4
              rw [Int32.le_iff_toInt_le]
              omega) (by omega) (by omega)
            have t3 : t < nt := (nI_ltI (by omega) (by omega)).mp w4
            obtain ⟨a1, a2, a3, s, a4, a5⟩ := m4 m q1 q2
            exact .inr (.inr (.inr ⟨rfl, rfl, rfl, rfl, m, t, nt, nM, q1, q2, m1, t3, k1, rfl, rfl, e3, ⟨s, a4, a1.trans a5, a5⟩, m5 m q2⟩))
          · rw [if_neg w4, if_neg w4]
            exact .inr (.inr (.inl ⟨rfl, rfl, rfl, rfl⟩))
      · have w2' : nI nM < a := by
          rw [Int32.lt_iff_toInt_lt]
          rw [Int32.le_iff_toInt_le] at w2
          omega
        rw [if_neg w2, if_pos w2']
        exact .inr (.inl ⟨rfl, rfl, rfl⟩)
theorem e_killed (h : BSR top co mu tr mx mT mQ mK mL mG) (a b : Int32) : ∃ r v c, f7_killed a b mu mx = some r ∧ f8_killed a b mL mG mQ = some (v, (mQ.1, mQ.2.1, mQ.2.2.1, mQ.2.2.2.1, c)) ∧ OUT r v c [(ISE, 1), (IOB, 2)] ∧ (v = 0 ∨ v = 1) ∧ BSR top co mu tr mx mT (mQ.1, mQ.2.1, mQ.2.2.1, mQ.2.2.2.1, c) mK mL mG := by
  have hf := e_flt h a b
  have hr : ∀ c, BSR top co mu tr mx mT (mQ.1, mQ.2.1, mQ.2.2.1, mQ.2.2.2.1, c) mK mL mG := fun c => h
  obtain ⟨mS, mK', mI, mC, mc, mA⟩ := mu
  obtain ⟨xN, xM, xS, xK, xX, xY⟩ := mx
  obtain ⟨l1, l2, l3, l4, l5, l6⟩ := mL
  obtain ⟨g1, g2, g3, g4, g5, g6, g7, g8, g9⟩ := mG
  obtain ⟨qc, qb, qp, qr, qC⟩ := mQ
  rw [f7_killed, f8_killed]
  rcases hf with ⟨f1, f2⟩ | ⟨f1, f2, f3⟩ | ⟨f1, f2, f3, f4⟩ | ⟨f1, f2, f3, f4, m, t, nt, nM, m1, m2, m3, t1, t2, rfl, rfl, hx, _, k, k1, k2, k3⟩
  · rw [f1, f2, ob_s, ob_s]
    exact ⟨_, _, _, rfl, rfl, .inr ⟨ISE, by simp only [List.mem_cons, true_or], rfl⟩, .inl rfl, hr 1⟩
  · rw [f1, f3, ob_s, ob_s]
    dsimp only
    rw [f2, ob_s]
    exact ⟨_, _, _, rfl, rfl, .inr ⟨IOB, by simp only [List.mem_cons, true_or, or_true], rfl⟩, .inl rfl, hr 2⟩
  · rw [f1, f4, ob_s, ob_s]
    dsimp only
    rw [f2, ob_s]
    dsimp only
    rw [f3, ob_s]
    exact ⟨_, _, _, rfl, rfl, .inr ⟨IOB, by simp only [List.mem_cons, true_or, or_true], rfl⟩, .inl rfl, hr 2⟩
  · have hg := z_gd (n := m) (N := 121) (by omega) (by omega)
    have hn := z_nat (n := m) (by omega)
    have hgk := z_gd (n := k) (N := 121) (by omega) (by omega)
    have hnk := z_nat (n := k) (by omega)
    dsimp only at k2 k3
    obtain ⟨_, hx⟩ := hx
    obtain ⟨kk, x1, x2, x3, x4⟩ := hx k (by omega)
    dsimp only at x2 x4
    have bit := ib_bit ⟨kk, x1⟩ ⟨t, by omega⟩
    dsimp only at bit
    rw [f1, f4, ob_s, ob_s]
    dsimp only
    rw [f2, ob_s]
    dsimp only
    rw [f3, ob_s]
    dsimp only
    rw [if_neg hg, if_pos rfl, if_neg hg, hn, k2, k3, if_neg hgk, hnk, x2]
    by_cases w : k = 0
    · subst w
      have : kk = 0 := x3 rfl
      subst this
      rw [Nat.zero_testBit] at bit
      rw [if_neg (fun q => absurd (bit.mp q) (by decide)), if_pos (show nI 0 ≤ (0 : Int32) by decide)]
      exact ⟨_, _, _, rfl, rfl, .inl ⟨rfl, rfl⟩, .inl rfl, hr 0⟩
    · have hk0 : ¬ nI k ≤ (0 : Int32) := fun q => absurd ((nI_leI (a := k) (b := 0) (by omega) (by omega)).mp q) (by omega)
      have x4 := x4 (by omega) t (by omega)
      have ei : (121 : Int32) * nI t + nI k = nI (121 * t + k) := by
        rw [show (121 : Int32) = nI 121 from rfl, nI_mul, nI_add]
      have hg' : ¬ (nI m < 0 ∨ 121 ≤ m) := by rw [hn] at hg; exact hg
      rw [if_neg hk0, if_neg hg', ei, if_neg (z_gd (n := 121 * t + k) (N := 968) (by omega) (by omega)), z_nat (n := 121 * t + k) (by omega)]
      by_cases w2 : g8 (121 * t + k) = 0
      · rw [if_pos w2, if_neg (fun q => (x4.mp (bit.mp q)).2 w2)]
        exact ⟨_, _, _, rfl, rfl, .inl ⟨rfl, rfl⟩, .inl rfl, hr 0⟩
      · rw [if_neg w2, if_pos (bit.mpr (x4.mpr ⟨t1, w2⟩))]
        exact ⟨_, _, _, rfl, rfl, .inl ⟨rfl, rfl⟩, .inr rfl, hr 0⟩
theorem e_reached (h : BSR top co mu tr mx mT mQ mK mL mG) (a b : Int32) : ∃ r v c, f7_reached a b mu mx = some r ∧ f8_reached a b mL mG mQ = some (v, (mQ.1, mQ.2.1, mQ.2.2.1, mQ.2.2.2.1, c)) ∧ OUT r v c [(ISE, 1), (IOB, 2)] ∧ (v = 0 ∨ v = 1) ∧ BSR top co mu tr mx mT (mQ.1, mQ.2.1, mQ.2.2.1, mQ.2.2.2.1, c) mK mL mG := by
  have hf := e_flt h a b
  have hr : ∀ c, BSR top co mu tr mx mT (mQ.1, mQ.2.1, mQ.2.2.1, mQ.2.2.2.1, c) mK mL mG := fun c => h
  obtain ⟨mS, mK', mI, mC, mc, mA⟩ := mu
  obtain ⟨xN, xM, xS, xK, xX, xY⟩ := mx
  obtain ⟨l1, l2, l3, l4, l5, l6⟩ := mL
  obtain ⟨g1, g2, g3, g4, g5, g6, g7, g8, g9⟩ := mG
  obtain ⟨qc, qb, qp, qr, qC⟩ := mQ
  rw [f7_reached, f8_reached]
  rcases hf with ⟨f1, f2⟩ | ⟨f1, f2, f3⟩ | ⟨f1, f2, f3, f4⟩ | ⟨f1, f2, f3, f4, m, t, nt, nM, m1, m2, m3, t1, t2, rfl, rfl, hx, ⟨s, s1, s2, s3⟩, k, k1, k2, k3⟩
  · rw [f1, f2, ob_s, ob_s]
    exact ⟨_, _, _, rfl, rfl, .inr ⟨ISE, by simp only [List.mem_cons, true_or], rfl⟩, .inl rfl, hr 1⟩
  · rw [f1, f3, ob_s, ob_s]
    dsimp only
    rw [f2, ob_s]
    exact ⟨_, _, _, rfl, rfl, .inr ⟨IOB, by simp only [List.mem_cons, true_or, or_true], rfl⟩, .inl rfl, hr 2⟩
  · rw [f1, f4, ob_s, ob_s]
    dsimp only
    rw [f2, ob_s]
    dsimp only
    rw [f3, ob_s]
    exact ⟨_, _, _, rfl, rfl, .inr ⟨IOB, by simp only [List.mem_cons, true_or, or_true], rfl⟩, .inl rfl, hr 2⟩
  · have hg := z_gd (n := m) (N := 121) (by omega) (by omega)
    have hn := z_nat (n := m) (by omega)
    have hgt := z_gd (n := t) (N := 8) (by omega) (by omega)
    have hnt := z_nat (n := t) (by omega)
    dsimp only at s2 s3
    have hx := hx.1 t t1 s s1
    dsimp only at hx
    have ei : (60 : Int32) * nI t + nI s = nI (60 * t + s) := by
      rw [show (60 : Int32) = nI 60 from rfl, nI_mul, nI_add]
    rw [f1, f4, ob_s, ob_s]
    dsimp only
    rw [f2, ob_s]
    dsimp only
    rw [f3, ob_s]
    dsimp only
    rw [if_neg hgt, if_neg hg, if_pos rfl, if_neg hg, hn, hnt, s2, s3, ei, if_neg (z_gd (n := 60 * t + s) (N := 480) (by omega) (by omega)), z_nat (n := 60 * t + s) (by omega), hx, lb_hold (by omega), ob_s]
    by_cases w : lbt (xS t) s = true
    · rw [if_pos w, if_pos (.inr rfl), if_neg (by decide)]
      exact ⟨_, _, _, rfl, rfl, .inl ⟨rfl, rfl⟩, .inr rfl, hr 0⟩
    · rw [if_neg w, if_pos (.inl rfl), if_pos rfl]
      exact ⟨_, _, _, rfl, rfl, .inl ⟨rfl, rfl⟩, .inl rfl, hr 0⟩
end
