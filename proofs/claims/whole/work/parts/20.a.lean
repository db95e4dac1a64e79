/-! BOTH SIDES: what holds between them -/
abbrev ISE : String := "java/lang/IllegalStateException"
abbrev IOB : String := "java/lang/IndexOutOfBoundsException"
theorem i_rng {v : Int32} {a b : Nat} (h1 : ¬ v < nI a) (h2 : v ≤ nI b) (hb : b < 2 ^ 31) (ha : a < 2 ^ 31) : ∃ m, a ≤ m ∧ m ≤ b ∧ v = nI m := by
  rw [Int32.lt_iff_toInt_lt, nI_toInt ha] at h1
  rw [Int32.le_iff_toInt_le, nI_toInt hb] at h2
  refine ⟨v.toInt.toNat, by omega, by omega, Int32.toInt_inj.mp ?_⟩
  rw [nI_toInt (by omega)]
  omega
/-- the text, in both -/
def TXR (top : TopS) (mT : MdT) : Prop := ∃ T, TXT top T ∧ TXM mT T ∧ top.2.1 = nI T.length
/-- a program that is compiled, in both -/
def PRG (x : RoT 4) (cs : CoS) (mu : MuS) (mK : MdK) (mL : MdL) (base : Nat) : Prop :=
  (∃ p', p' ≤ 60 ∧ iRo 4 0 p' x) ∧ CS cs (jRo 4 0 x) ∧ (jRo 4 0 x).length ≤ 80 ∧ MKH mK base (mRo 4 base x ++ [(14, 0, 0)]) ∧ (mRo 4 base x).length < 200 ∧ MuV mu (MU (sRo 4 x)) ∧ CPL x mL ∧ ∀ i, i ≤ (MU (sRo 4 x)).length → ∃ k, k ≤ i ∧ mu.2.2.2.1 i = nI k ∧ mL.2.2.2.2.1 i = nI k
/-- what is compiled, if anything is -/
def CPR (top : TopS) (co : Nat → CoS) (mu : MuS) (mQ : MdQ) (mK : MdK) (mL : MdL) : Prop :=
  ∃ base, (base = 0 ∨ base = 256) ∧ mQ.2.1 = nI base ∧ (top.2.2.1 = 0 ∧ mQ.1 = 0 ∨ top.2.2.1 = 1 ∧ mQ.1 = 1 ∧ ∃ x, PRG x (co top.2.2.2.1) mu mK mL base)
/-- the rows of the matrix -/
def MTX (nt nM : Nat) (mx : MxS) (mG : MdG) : Prop :=
  (∀ t, t < nt → ∀ s, s < 60 → mG.2.2.2.2.2.2.2.2 (60 * t + s) = if lbt (mx.2.2.1 t) s = true then 1 else 0) ∧
  ∀ m, m ≤ nM → ∃ k, k < 256 ∧ mx.2.2.2.1 m = nI k ∧ (m = 0 → k = 0) ∧ (0 < m → ∀ t, t < 8 → (k.testBit t = true ↔ t < nt ∧ mG.2.2.2.2.2.2.2.1 (121 * t + m) ≠ 0))
def MXR (top : TopS) (mu : MuS) (mx : MxS) (mG : MdG) : Prop :=
  ∃ nt, nt ≤ 8 ∧ mx.1 = nI nt ∧ mG.2.2.2.1 = nI nt ∧ (∀ j, j < nt → mx.2.2.2.2.1 j = mG.2.2.2.2.1 j ∧ mx.2.2.2.2.2 j = mG.2.2.2.2.2.1 j) ∧
    (mx.2.1 = 0 ∧ mG.2.2.2.2.2.2.1 = 0 ∨ mx.2.1 = 1 ∧ mG.2.2.2.2.2.2.1 = 1 ∧ top.2.2.1 = 1 ∧ ∃ nM, mu.2.2.2.2.1 = nI nM ∧ nM ≤ 120 ∧ MTX nt nM mx mG)
/-- all that holds between the two -/
def BSR (top : TopS) (co : Nat → CoS) (mu : MuS) (tr : TrS) (mx : MxS) (mT : MdT) (mQ : MdQ) (mK : MdK) (mL : MdL) (mG : MdG) : Prop :=
  TXR top mT ∧ (top.2.2.2.1 < 4 ∧ top.2.2.2.2.1 < 4 ∧ top.2.2.2.1 ≠ top.2.2.2.2.1) ∧ CPR top co mu mQ mK mL ∧ (∃ f, 1 ≤ f ∧ f ≤ 50 ∧ top.2.2.2.2.2.1 = nI f ∧ mG.1 = nI f) ∧ (top.2.2.2.2.2.2.1 = mG.2.1 ∧ top.2.2.2.2.2.2.2 = mG.2.2.1) ∧ (∀ t, t < 4 → tr.1 t = 0) ∧ MXR top mu mx mG
/-- an answer, or a throw and its number -/
def OUT (r : Except String Int32) (v c : Int32) (L : List (String × Int32)) : Prop := r = .ok v ∧ c = 0 ∨ ∃ E, (E, c) ∈ L ∧ r = .error E
section
variable {top : TopS} {co : Nat → CoS} {mu : MuS} {tr : TrS} {mx : MxS} {mT : MdT} {mQ : MdQ} {mK : MdK} {mL : MdL} {mG : MdG}
theorem ch_nar : ∀ n, n < 127 → vp_nar .char (nI n) = nI n := by decide +kernel
theorem e_type (h : BSR top co mu tr mx mT mQ mK mL mG) (c : Int32) : ∃ v top' mT', f7_type c top = some (v, top') ∧ f8_type c mT mQ = some (v, mT', (mQ.1, mQ.2.1, mQ.2.2.1, mQ.2.2.2.1, 0)) ∧ BSR top' co mu tr mx mT' (mQ.1, mQ.2.1, mQ.2.2.1, mQ.2.2.2.1, 0) mK mL mG := by
  obtain ⟨tx, ln, cp, cq, sq, fu, lv, lt⟩ := top
  obtain ⟨ty, te⟩ := mT
  obtain ⟨qc, qb, qp, qr, qC⟩ := mQ
  obtain ⟨⟨T, ⟨x1, x2⟩, ⟨y1, y2, y3⟩, z1⟩, h2, h3, h4, h5, h6, h7⟩ := h
  dsimp only at x1 x2 y1 y3 z1
  rw [f7_type, f8_type]
  by_cases w1 : c < 32
  · rw [if_pos w1, if_pos w1]
    exact ⟨_, _, _, rfl, rfl, ⟨T, ⟨x1, x2⟩, ⟨y1, y2, y3⟩, z1⟩, h2, h3, h4, h5, h6, h7⟩
  · rw [if_neg w1, if_neg w1]
    by_cases w2 : 126 < c
    · rw [if_pos w2, if_pos w2]
      exact ⟨_, _, _, rfl, rfl, ⟨T, ⟨x1, x2⟩, ⟨y1, y2, y3⟩, z1⟩, h2, h3, h4, h5, h6, h7⟩
    · rw [if_neg w2, if_neg w2]
      subst y1 z1
      by_cases w3 : nI T.length = 60
      · rw [if_pos w3, if_pos w3]
        exact ⟨_, _, _, rfl, rfl, ⟨T, ⟨x1, x2⟩, ⟨rfl, y2, y3⟩, rfl⟩, h2, h3, h4, h5, h6, h7⟩
      · have hl : T.length < 60 := by
          by_cases q : T.length = 60
          · rw [q] at w3
            exact absurd rfl w3
          · omega
        have hg := z_gd (n := T.length) (N := 60) hl (by omega)
        have hn := z_nat (n := T.length) (by omega)
        rw [if_neg w3, if_neg w3, if_neg hg, if_neg hg, hn]
        obtain ⟨n, n1, n2, rfl⟩ := i_rng (a := 32) (b := 126) w1 (by
          rw [Int32.lt_iff_toInt_lt] at w2
          rw [Int32.le_iff_toInt_le]
          exact Int.not_lt.mp w2) (by omega) (by omega)
        refine ⟨_, _, _, rfl, rfl, ⟨T ++ [n], ⟨?_, ?_⟩, ⟨?_, ?_, ?_⟩, ?_⟩, h2, h3, h4, h5, h6, h7⟩
        · rw [List.length_append]; simp only [List.length_cons, List.length_nil]; omega
        · intro j a hj
          dsimp only
          by_cases q : j = T.length
          · subst q
            rw [List.getElem?_append_right (Nat.le_refl _), Nat.sub_self] at hj
            have : n = a := Option.some.inj hj
            subst this
            rw [z_upd_e, ch_nar n (by omega)]
            exact ⟨rfl, by omega⟩
          · have hj2 := (List.getElem?_eq_some_iff.mp hj).1
            rw [List.length_append] at hj2
            simp only [List.length_cons, List.length_nil] at hj2
            rw [List.getElem?_append_left (by omega)] at hj
            rw [z_upd_n q]
            exact x2 j a hj
        · rw [nI_1, List.length_append]; rfl
        · rw [List.length_append]; simp only [List.length_cons, List.length_nil]; omega
        · intro j a hj
          dsimp only
          by_cases q : j = T.length
          · subst q
            rw [List.getElem?_append_right (Nat.le_refl _), Nat.sub_self] at hj
            have : n = a := Option.some.inj hj
            subst this
            rw [z_upd_e]
            exact ⟨rfl, by omega, by omega⟩
          · have hj2 := (List.getElem?_eq_some_iff.mp hj).1
            rw [List.length_append] at hj2
            simp only [List.length_cons, List.length_nil] at hj2
            rw [List.getElem?_append_left (by omega)] at hj
            rw [z_upd_n q]
            exact y3 j a hj
        · rw [nI_1, List.length_append]; rfl
theorem e_wipe (h : BSR top co mu tr mx mT mQ mK mL mG) : ∃ top' mT', f7_wipe top = some top' ∧ f8_wipe mT mQ = some (mT', (mQ.1, mQ.2.1, mQ.2.2.1, mQ.2.2.2.1, 0)) ∧ BSR top' co mu tr mx mT' (mQ.1, mQ.2.1, mQ.2.2.1, mQ.2.2.2.1, 0) mK mL mG := by
  obtain ⟨tx, ln, cp, cq, sq, fu, lv, lt⟩ := top
  obtain ⟨ty, te⟩ := mT
  obtain ⟨qc, qb, qp, qr, qC⟩ := mQ
  obtain ⟨_, h2, h3, h4, h5, h6, h7⟩ := h
  exact ⟨_, _, rfl, rfl, ⟨[], ⟨Nat.zero_le _, fun j c hj => by cases hj⟩, ⟨rfl, Nat.zero_le _, fun j c hj => by cases hj⟩, rfl⟩, h2, h3, h4, h5, h6, h7⟩
theorem e_fuel (h : BSR top co mu tr mx mT mQ mK mL mG) (c : Int32) : ∃ v top' mx' mG', f7_fuel c top mx = some (v, top', mx') ∧ f8_fuel c mQ mG = some (v, (mQ.1, mQ.2.1, mQ.2.2.1, mQ.2.2.2.1, 0), mG') ∧ BSR top' co mu tr mx' mT (mQ.1, mQ.2.1, mQ.2.2.1, mQ.2.2.2.1, 0) mK mL mG' := by
  obtain ⟨tx, ln, cp, cq, sq, fu, lv, lt⟩ := top
  obtain ⟨xN, xM, xS, xK, xX, xY⟩ := mx
  obtain ⟨qc, qb, qp, qr, qC⟩ := mQ
  obtain ⟨g1, g2, g3, g4, g5, g6, g7, g8, g9⟩ := mG
  obtain ⟨h1, h2, h3, h4, h5, h6, h7⟩ := h
  rw [f7_fuel, f8_fuel]
  by_cases w1 : c < 1
  · rw [if_pos w1, if_pos w1]
    exact ⟨_, _, _, _, rfl, rfl, h1, h2, h3, h4, h5, h6, h7⟩
  · rw [if_neg w1, if_neg w1]
    by_cases w2 : c ≤ 50
    · rw [if_pos w2, if_pos w2]
      obtain ⟨n, n1, n2, rfl⟩ := i_rng (a := 1) (b := 50) w1 w2 (by omega) (by omega)
      obtain ⟨nt, k1, k2, k3, k4, _⟩ := h7
      exact ⟨_, _, _, _, rfl, rfl, h1, h2, h3, ⟨n, n1, n2, rfl, rfl⟩, h5, h6, ⟨nt, k1, k2, k3, k4, .inl ⟨rfl, rfl⟩⟩⟩
    · rw [if_neg w2, if_neg w2]
      exact ⟨_, _, _, _, rfl, rfl, h1, h2, h3, h4, h5, h6, h7⟩
theorem e_value (h : BSR top co mu tr mx mT mQ mK mL mG) : ∃ v, f7_value top = some v ∧ f8_value mG mQ = some (v, (mQ.1, mQ.2.1, mQ.2.2.1, mQ.2.2.2.1, 0)) ∧ BSR top co mu tr mx mT (mQ.1, mQ.2.1, mQ.2.2.1, mQ.2.2.2.1, 0) mK mL mG := by
  obtain ⟨tx, ln, cp, cq, sq, fu, lv, lt⟩ := top
  obtain ⟨qc, qb, qp, qr, qC⟩ := mQ
  obtain ⟨g1, g2, g3, g4, g5, g6, g7, g8, g9⟩ := mG
  obtain ⟨h1, h2, h3, h4, ⟨h5, h5'⟩, h6, h7⟩ := h
  dsimp only at h5 h5'
  subst h5 h5'
  exact ⟨_, rfl, rfl, h1, h2, h3, h4, ⟨rfl, rfl⟩, h6, h7⟩
theorem e_took (h : BSR top co mu tr mx mT mQ mK mL mG) : ∃ v, f7_took top = some v ∧ f8_took mG mQ = some (v, (mQ.1, mQ.2.1, mQ.2.2.1, mQ.2.2.2.1, 0)) ∧ BSR top co mu tr mx mT (mQ.1, mQ.2.1, mQ.2.2.1, mQ.2.2.2.1, 0) mK mL mG := by
  obtain ⟨tx, ln, cp, cq, sq, fu, lv, lt⟩ := top
  obtain ⟨qc, qb, qp, qr, qC⟩ := mQ
  obtain ⟨g1, g2, g3, g4, g5, g6, g7, g8, g9⟩ := mG
  obtain ⟨h1, h2, h3, h4, ⟨h5, h5'⟩, h6, h7⟩ := h
  dsimp only at h5 h5'
  subst h5 h5'
  exact ⟨_, rfl, rfl, h1, h2, h3, h4, ⟨rfl, rfl⟩, h6, h7⟩
/-- a mutant's number, of those that there are -/
theorem e_mut (h : CPR top co mu mQ mK mL) (hc : top.2.2.1 = 1) : ∃ nM, nM ≤ 120 ∧ mu.2.2.2.2.1 = nI nM ∧ mL.1 = nI nM ∧ mu.1 0 = -1 ∧ (∀ m, 1 ≤ m → m ≤ nM → mu.1 m = mL.2.1 m ∧ mu.2.1 m = mL.2.2.1 m ∧ mu.2.2.1 m = mL.2.2.2.1 m ∧ ∃ s, s < 60 ∧ mL.2.1 m = nI s) ∧ ∀ m, m ≤ nM → ∃ k, k ≤ m ∧ mu.2.2.2.1 m = nI k ∧ mL.2.2.2.2.1 m = nI k := by
  obtain ⟨base, b1, b2, b3⟩ := h
  rcases b3 with ⟨b3, _⟩ | ⟨_, b4, x, ⟨p', p1, p2⟩, q2, q3, q4, q5, q6, q7, q8⟩
  · rw [b3] at hc
    exact absurd hc (by decide)
  · have hS := sin_ro 4 _ _ _ p2
    refine ⟨(MU (sRo 4 x)).length, q7.1, q6.1, q7.2.1, q6.2.1, fun m m1 m2 => ?_, q8⟩
    obtain ⟨j, rfl⟩ : ∃ j, m = j + 1 := ⟨m - 1, by omega⟩
    have hj : (MU (sRo 4 x))[j]? = some (MU (sRo 4 x))[j] := List.getElem?_eq_getElem (by omega)
    obtain ⟨a1, a2, a3⟩ := q6.2.2 j _ hj
    obtain ⟨c1, c2, c3⟩ := q7.2.2.1 j _ hj
    have := (mu_lt hS (List.mem_of_getElem? hj)).2
    exact ⟨a1.trans c1.symm, a2.trans c2.symm, a3.trans c3.symm, _, by omega, c1⟩
theorem e_mutant (h : BSR top co mu tr mx mT mQ mK mL mG) (a w : Int32) : ∃ r v c, f7_mutant a w top mu = some r ∧ f8_mutant a w mL mQ = some (v, (mQ.1, mQ.2.1, mQ.2.2.1, mQ.2.2.2.1, c)) ∧ OUT r v c [(ISE, 1), (IOB, 2), (IAE, 3)] ∧ BSR top co mu tr mx mT (mQ.1, mQ.2.1, mQ.2.2.1, mQ.2.2.2.1, c) mK mL mG := by
  have hm := e_mut h.2.2.1
  have hq : top.2.2.1 = 0 ∧ mQ.1 = 0 ∨ top.2.2.1 = 1 ∧ mQ.1 = 1 := by
    obtain ⟨base, b1, b2, b3⟩ := h.2.2.1
    rcases b3 with b3 | ⟨b3, b4, _⟩
    · exact .inl b3
    · exact .inr ⟨b3, b4⟩
  obtain ⟨tx, ln, cp, cq, sq, fu, lv, lt⟩ := top
  obtain ⟨mS, mK', mI, mC, mc, mA⟩ := mu
  obtain ⟨qc, qb, qp, qr, qC⟩ := mQ
  obtain ⟨l1, l2, l3, l4, l5, l6⟩ := mL
  have hr : ∀ c, BSR (tx, ln, cp, cq, sq, fu, lv, lt) co (mS, mK', mI, mC, mc, mA) tr mx mT (qc, qb, qp, qr, c) mK (l1, l2, l3, l4, l5, l6) mG := fun c => h
  dsimp only at hm hq
  rw [f7_mutant, f8_mutant, f7_needCompiled]
  rcases hq with ⟨rfl, rfl⟩ | ⟨rfl, rfl⟩
  · rw [if_pos rfl, if_pos rfl, ob_s]
    exact ⟨_, _, _, rfl, rfl, .inr ⟨ISE, by simp only [List.mem_cons, true_or], rfl⟩, hr 1⟩
  · obtain ⟨nM, m1, rfl, rfl, _, m4, m5⟩ := hm rfl
    have n1 : ¬ (1 : Int32) = 0 := by decide
    rw [if_neg n1, if_neg n1, ob_s]
    dsimp only
    rw [f7_needMutant]
    by_cases w1 : a < 1
    · rw [if_pos w1, if_pos w1, ob_s]
      exact ⟨_, _, _, rfl, rfl, .inr ⟨IOB, by simp only [List.mem_cons, true_or, or_true], rfl⟩, hr 2⟩
    · rw [if_neg w1, if_neg w1]
      by_cases w2 : a ≤ nI nM
      · rw [if_pos w2, if_pos w2, ob_s]
        dsimp only
        obtain ⟨n, n1, n2, rfl⟩ := i_rng (a := 1) (b := nM) w1 w2 (by omega) (by omega)
        have hg := z_gd (n := n) (N := 121) (by omega) (by omega)
        have hn := z_nat (n := n) (by omega)
        obtain ⟨e1, e2, e3, _⟩ := m4 n n1 n2
        obtain ⟨k, k1, k2, k3⟩ := m5 n n2
        by_cases q0 : w = 0
        · rw [if_pos q0, if_pos q0, if_neg hg, if_neg hg, hn, e1]
          exact ⟨_, _, _, rfl, rfl, .inl ⟨rfl, rfl⟩, hr 0⟩
        · rw [if_neg q0, if_neg q0]
          by_cases q1 : w = 1
          · rw [if_pos q1, if_pos q1, if_neg hg, if_neg hg, hn, e2]
            exact ⟨_, _, _, rfl, rfl, .inl ⟨rfl, rfl⟩, hr 0⟩
          · rw [if_neg q1, if_neg q1]
            by_cases q2 : w = 2
            · rw [if_pos q2, if_pos q2, if_neg hg, if_neg hg, hn, e3]
              exact ⟨_, _, _, rfl, rfl, .inl ⟨rfl, rfl⟩, hr 0⟩
            · rw [if_neg q2, if_neg q2]
              by_cases q3 : w = 3
              · rw [if_pos q3, if_pos q3, if_neg hg, if_neg hg, hn, k2, k3]
                exact ⟨_, _, _, rfl, rfl, .inl ⟨rfl, rfl⟩, hr 0⟩
              · rw [if_neg q3, if_neg q3]
                exact ⟨_, _, _, rfl, rfl, .inr ⟨IAE, by simp only [List.mem_cons, true_or, or_true], rfl⟩, hr 3⟩
      · rw [if_neg w2, if_neg w2, ob_s]
        exact ⟨_, _, _, rfl, rfl, .inr ⟨IOB, by simp only [List.mem_cons, true_or, or_true], rfl⟩, hr 2⟩
end
