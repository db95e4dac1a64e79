/-! BOTH SIDES: the matrix -/
theorem ib_set : ∀ k : Fin 256, ∀ t : Fin 8, nI k ||| ((1 : Int32) <<< (nI t &&& 31)) = nI ((k : Nat) ||| 2 ^ (t : Nat)) := by decide +kernel
/-- what the marks of the mutants say, up to test t, mutant m -/
def KR (t m nM : Nat) (xK gK : Nat → Int32) : Prop :=
  ∀ i, i ≤ nM → ∃ k, k < 256 ∧ xK i = nI k ∧ (i = 0 → k = 0) ∧ (0 < i → ∀ j, j < 8 → (k.testBit j = true ↔ (j < t ∨ j = t ∧ i < m) ∧ gK (121 * j + i) ≠ 0))
theorem KR.step {t m nM : Nat} {xK gK xK' gK' : Nat → Int32} (h : KR t m nM xK gK) (hm : m ≤ nM) (hM : nM ≤ 120) (h1 : 1 ≤ m) (ht : t < 8) (z : Bool) (hg : ∀ j, j ≠ 121 * t + m → gK' j = gK j) (hz : gK' (121 * t + m) ≠ 0 ↔ z = true) (hx : ∀ i, i ≠ m → xK' i = xK i) (h0 : z = false → xK' m = xK m) (hs : z = true → xK' m = xK m ||| ((1 : Int32) <<< (nI t &&& 31))) : KR t (m + 1) nM xK' gK' := by
  intro i hi
  obtain ⟨k, k1, k2, k3, k4⟩ := h i hi
  by_cases w : i = m
  · subst w
    have k4 := k4 (by omega)
    cases z with
    | false =>
      refine ⟨k, k1, (h0 rfl).trans k2, k3, fun _ j hj => ?_⟩
      by_cases q : j = t
      · subst q
        rw [k4 j hj]
        constructor
        · intro a
          exact absurd a.1 (by omega)
        · intro a
          exact absurd (hz.mp a.2) (by decide)
      · rw [k4 j hj, hg (121 * j + i) (by omega)]
        constructor
        · exact fun a => ⟨by omega, a.2⟩
        · exact fun a => ⟨by omega, a.2⟩
    | true =>
      have e := ib_set ⟨k, k1⟩ ⟨t, ht⟩
      dsimp only at e
      refine ⟨k ||| 2 ^ t, ?_, (hs rfl).trans (by rw [k2]; exact e), fun q => by omega, fun _ j hj => ?_⟩
      · have : (2 : Nat) ^ t < 2 ^ 8 := Nat.pow_lt_pow_right (by omega) ht
        exact Nat.or_lt_two_pow (n := 8) k1 this
      · rw [Nat.testBit_or, Nat.testBit_two_pow, Bool.or_eq_true, k4 j hj, decide_eq_true_eq]
        by_cases q : j = t
        · subst q
          exact ⟨fun _ => ⟨by omega, hz.mpr rfl⟩, fun _ => .inr rfl⟩
        · rw [hg (121 * j + i) (by omega)]
          constructor
          · rintro (a | a)
            · exact ⟨by omega, a.2⟩
            · exact absurd a.symm q
          · exact fun a => .inl ⟨by omega, a.2⟩
  · refine ⟨k, k1, (hx i w).trans k2, k3, fun h0' j hj => ?_⟩
    rw [k4 h0' j hj, hg (121 * j + i) (by omega)]
    constructor
    · exact fun a => ⟨by omega, a.2⟩
    · exact fun a => ⟨by omega, a.2⟩
theorem KR.next {t nM : Nat} {xK gK : Nat → Int32} (h : KR t (nM + 1) nM xK gK) : KR (t + 1) 1 nM xK gK := by
  intro i hi
  obtain ⟨k, k1, k2, k3, k4⟩ := h i hi
  refine ⟨k, k1, k2, k3, fun h0 j hj => ?_⟩
  rw [k4 h0 j hj]
  constructor
  · exact fun a => ⟨by omega, a.2⟩
  · exact fun a => ⟨by omega, a.2⟩
theorem KR.zero {nM : Nat} {xK gK : Nat → Int32} (hM : nM ≤ 120) (h : ∀ i, i < 121 → xK i = 0) : KR 0 1 nM xK gK := by
  intro i hi
  refine ⟨0, by omega, h i (by omega), fun _ => rfl, fun h0 j hj => ?_⟩
  rw [Nat.zero_testBit]
  exact ⟨fun a => absurd a (by decide), fun a => absurd a.1 (by omega)⟩
def SR (t : Nat) (xS : Nat → Int64) (gR : Nat → Int32) : Prop := ∀ j, j < t → ∀ s, s < 60 → gR (60 * j + s) = if lbt (xS j) s = true then 1 else 0
section
variable {t m : Nat} {k0 : Int32} {k1 k2 k3 : Nat → Int32} {l1 : Int32} {l2 l3 l4 l5 l6 : Nat → Int32} {mQ : MdQ} {mR : MdR} {g1 g2 g3 g4 : Int32} {g5 g6 : Nat → Int32} {g7 : Int32}
theorem nar_01 {v : Int32} (h : v = 0 ∨ v = 1) : vp_nar .boolean v = v := by
  rcases h with rfl | rfl <;> rfl
theorem z_m61 (ht : t < 8) (hr : ∀ s, s < 60 → mR.2.2.2.2.2.2.2 s = 0 ∨ mR.2.2.2.2.2.2.2 s = 1) : ∀ r s (gR : Nat → Int32), s + r = 60 → (∀ j, j < s → gR (60 * t + j) = mR.2.2.2.2.2.2.2 j) →
    ∃ gR', (∀ j, j < 60 → gR' (60 * t + j) = mR.2.2.2.2.2.2.2 j) ∧ (∀ i, i < 60 * t → gR' i = gR i) ∧ ∀ kk N n x1 x3 x4 g8, r < n → f8_matrix_L61 kk N k0 k1 k2 k3 l1 l2 l3 l4 l5 l6 n x1 (nI t) x3 x4 (nI s) mQ mR (g1, g2, g3, g4, g5, g6, g7, g8, gR) = kk x1 (nI t) x3 x4 mQ mR (g1, g2, g3, g4, g5, g6, g7, g8, gR') := by
  obtain ⟨qc, qb, qp, qr, qC⟩ := mQ
  obtain ⟨r1, r2, r3, r4, r5, rS, rV, rM⟩ := mR
  intro r
  induction r with
  | zero =>
    intro s gR h1 h3
    have : s = 60 := by omega
    subst this
    refine ⟨gR, h3, fun i _ => rfl, fun kk N n x1 x3 x4 g8 h2 => ?_⟩
    obtain ⟨n, rfl⟩ : ∃ a, n = a + 1 := ⟨n - 1, by omega⟩
    rw [f8_matrix_L61, if_pos (by decide)]
  | succ r ih =>
    intro s gR h1 h3
    have hg := z_gd (n := s) (N := 60) (by omega) (by omega)
    have hn := z_nat (n := s) (by omega)
    have ei : (60 : Int32) * nI t + nI s = nI (60 * t + s) := by
      rw [show (60 : Int32) = nI 60 from rfl, nI_mul, nI_add]
    obtain ⟨gR', i1, i2, i3⟩ := ih (s + 1) (upd gR (60 * t + s) (vp_nar .boolean (rM s))) (by omega) (fun j hj => by
      by_cases q : j = s
      · subst q
        rw [z_upd_e]
        exact nar_01 (hr j (by omega))
      · rw [z_upd_n (by omega)]
        exact h3 j (by omega))
    refine ⟨gR', i1, fun i hi => by rw [i2 i hi, z_upd_n (by omega)], fun kk N n x1 x3 x4 g8 h2 => ?_⟩
    obtain ⟨n, rfl⟩ : ∃ a, n = a + 1 := ⟨n - 1, by omega⟩
    rw [f8_matrix_L61, if_neg (show ¬ (60 : Int32) ≤ nI s from nl_nle 60 s _ rfl (by omega) (by omega)), if_neg hg, ei, if_neg (z_gd (n := 60 * t + s) (N := 480) (by omega) (by omega)), nm_v, nI_1, hn, z_nat (n := 60 * t + s) (by omega)]
    exact i3 kk N n x1 x3 x4 g8 (by omega)
end
section
variable {x : RoT 4} {cs : CoS} {mu : MuS} {mK : MdK} {mL : MdL} {base f t nM : Nat} {mQ : MdQ} {o v xN xM : Int32} {xS : Nat → Int64} {xX xY gX gY : Nat → Int32} {g2 g3 g4 g7 : Int32} {gR : Nat → Int32}
theorem z_mm (hx : PRG x cs mu mK mL base) (hb : base ≤ 256) (hf : f ≤ 50) (hq : mQ.2.1 = nI base) (ht : t < 8) (hnM : nM = (MU (sRo 4 x)).length) (hXt : xX t = gX t) (hYt : xY t = gY t) (hS : ∀ s, s < 60 → gR (60 * t + s) = if lbt (xS t) s = true then 1 else 0) :
    ∀ r m (ma : MaS) (mR : MdR) (xK gK : Nat → Int32) (acc rn : Int32), m + r = nM + 1 → 1 ≤ m → KR t m nM xK gK →
      ∃ N0 c' ma' xK' mR' gK', KR t (nM + 1) nM xK' gK' ∧
        (∀ kk N n, N0 ≤ N → r < n → f3_runMutants_L48 kk N cs.1 cs.2.1 cs.2.2.1 cs.2.2.2.1 cs.2.2.2.2 mu.1 mu.2.1 mu.2.2.1 mu.2.2.2.1 mu.2.2.2.2.1 mu.2.2.2.2.2 n (nI t) (nI f) o v acc (nI m) ma (xN, xM, xS, xK, xX, xY) = kk (acc + c') ma' (xN, xM, xS, xK', xX, xY)) ∧
        (∀ kk N n, N0 ≤ N → r < n → f8_matrix_L96 kk N mK.1 mK.2.1 mK.2.2.1 mK.2.2.2 mL.1 mL.2.1 mL.2.2.1 mL.2.2.2.1 mL.2.2.2.2.1 mL.2.2.2.2.2 n rn (nI t) o v (nI m) mQ mR (nI f, g2, g3, g4, gX, gY, g7, gK, gR) = kk (rn + c') (nI t) mQ mR' (nI f, g2, g3, g4, gX, gY, g7, gK', gR)) := by
  obtain ⟨⟨p', p1, p2⟩, q2, q3, q4, q5, q6, q7, q8⟩ := id hx
  have hSS := sin_ro 4 _ _ _ p2
  have hmc : mu.2.2.2.2.1 = nI nM := by rw [hnM]; exact q6.1
  have hlm : mL.1 = nI nM := by rw [hnM]; exact q7.2.1
  have hM : nM ≤ 120 := by rw [hnM]; exact q7.1
  have hpl : ∀ m, 1 ≤ m → m ≤ nM → ∃ s, s < 60 ∧ mu.1 m = nI s ∧ mL.2.1 m = nI s := by
    intro m m1 m2
    obtain ⟨j, rfl⟩ : ∃ j, m = j + 1 := ⟨m - 1, by omega⟩
    have hj : (MU (sRo 4 x))[j]? = some (MU (sRo 4 x))[j] := List.getElem?_eq_getElem (by omega)
    obtain ⟨a1, a2, a3⟩ := q6.2.2 j _ hj
    obtain ⟨c1, c2, c3⟩ := q7.2.2.1 j _ hj
    have := (mu_lt hSS (List.mem_of_getElem? hj)).2
    exact ⟨_, by omega, a1, c1⟩
  have hgt := z_gd (n := t) (N := 8) (by omega) (by omega)
  have hnt := z_nat (n := t) (by omega)
  intro r
  induction r with
  | zero =>
    intro m ma mR xK gK acc rn h1 h2 h3
    have hlt : nI nM < nI m := (nI_ltI (by omega) (by omega)).mpr (by omega)
    refine ⟨0, 0, ma, xK, mR, gK, by rw [show nM + 1 = m by omega]; exact h3, fun kk N n _ hn => ?_, fun kk N n _ hn => ?_⟩
    · obtain ⟨n, rfl⟩ : ∃ a, n = a + 1 := ⟨n - 1, by omega⟩
      obtain ⟨aR, aB, aL, aS, aV, aH, aP, aO, aT, aC, aI⟩ := ma
      rw [f3_runMutants_L48, hmc, if_pos hlt, Int32.add_zero]
    · obtain ⟨n, rfl⟩ : ∃ a, n = a + 1 := ⟨n - 1, by omega⟩
      obtain ⟨qc, qb, qp, qr, qC⟩ := mQ
      obtain ⟨r1, r2, r3, r4, r5, rS, rV, rM⟩ := mR
      rw [f8_matrix_L96, hlm, if_pos hlt, Int32.add_zero]
  | succ r ih =>
    intro m ma mR xK gK acc rn h1 h2 h3
    have hm : m ≤ nM := by omega
    have hlt : ¬ nI nM < nI m := fun q => absurd ((nI_ltI (by omega) (by omega)).mp q) (by omega)
    have hg := z_gd (n := m) (N := 121) (by omega) (by omega)
    have hn := z_nat (n := m) (by omega)
    have hg' : ¬ (nI m < 0 ∨ 121 ≤ m) := by rw [hn] at hg; exact hg
    have hgt' : ¬ (nI t < 0 ∨ 8 ≤ t) := by rw [hnt] at hgt; exact hgt
    have h0 : ¬ nI m = 0 := nI_ne0 (by omega) (by omega)
    obtain ⟨k, k1, k2, k3⟩ := q8 m (by omega)
    obtain ⟨s, s1, s2, s3⟩ := hpl m h2 hm
    have ei : (121 : Int32) * nI t + nI m = nI (121 * t + m) := by
      rw [show (121 : Int32) = nI 121 from rfl, nI_mul, nI_add]
    have es : (60 : Int32) * nI t + nI s = nI (60 * t + s) := by
      rw [show (60 : Int32) = nI 60 from rfl, nI_mul, nI_add]
    have hgi := z_gd (n := 121 * t + m) (N := 968) (by omega) (by omega)
    have hni := z_nat (n := 121 * t + m) (by omega)
    have hgs := z_gd (n := 60 * t + s) (N := 480) (by omega) (by omega)
    have hns := z_nat (n := 60 * t + s) (by omega)
    have hSs := hS s s1
    have name : f4_isNamesake (nI m) mu = some (if nI k = nI m then 1 else 0) := by
      obtain ⟨mS, mK', mI, mC, mc, mA⟩ := mu
      dsimp only at k2
      rw [f4_isNamesake, if_neg h0, if_neg hg, hn, k2]
      by_cases w : nI k = nI m
      · rw [if_pos w, if_pos w]
      · rw [if_neg w, if_neg w]
    have name' : f4_isNamesake (nI m) (mu.1, mu.2.1, mu.2.2.1, mu.2.2.2.1, nI nM, mu.2.2.2.2.2) = some (if nI k = nI m then 1 else 0) := by rw [← hmc]; exact name
    have u0 : ∀ j, j ≠ 121 * t + m → upd gK (121 * t + m) 0 j = gK j := fun j hj => z_upd_n hj
    -- one that isn't run
    have skip : (¬ nI k = nI m ∨ ¬ lbt (xS t) s = true) → ∃ N0 c' ma' xK' mR' gK', KR t (nM + 1) nM xK' gK' ∧
        (∀ kk N n, N0 ≤ N → r + 1 < n → f3_runMutants_L48 kk N cs.1 cs.2.1 cs.2.2.1 cs.2.2.2.1 cs.2.2.2.2 mu.1 mu.2.1 mu.2.2.1 mu.2.2.2.1 mu.2.2.2.2.1 mu.2.2.2.2.2 n (nI t) (nI f) o v acc (nI m) ma (xN, xM, xS, xK, xX, xY) = kk (acc + c') ma' (xN, xM, xS, xK', xX, xY)) ∧
        (∀ kk N n, N0 ≤ N → r + 1 < n → f8_matrix_L96 kk N mK.1 mK.2.1 mK.2.2.1 mK.2.2.2 mL.1 mL.2.1 mL.2.2.1 mL.2.2.2.1 mL.2.2.2.2.1 mL.2.2.2.2.2 n rn (nI t) o v (nI m) mQ mR (nI f, g2, g3, g4, gX, gY, g7, gK, gR) = kk (rn + c') (nI t) mQ mR' (nI f, g2, g3, g4, gX, gY, g7, gK', gR)) := by
      intro w
      obtain ⟨N0, c', ma', xK', mR', gK', i1, i2, i3⟩ := ih (m + 1) ma mR xK (upd gK (121 * t + m) 0) acc rn (by omega) (by omega) (h3.step hm hM h2 ht false u0 (by rw [z_upd_e]; exact ⟨fun q => absurd rfl q, fun q => absurd q (by decide)⟩) (fun i _ => rfl) (fun _ => rfl) (fun q => absurd q (by decide)))
      refine ⟨N0, c', ma', xK', mR', gK', i1, fun kk N n hN hn' => ?_, fun kk N n hN hn' => ?_⟩
      · obtain ⟨n, rfl⟩ : ∃ a, n = a + 1 := ⟨n - 1, by omega⟩
        rw [← i2 kk N n hN (by omega)]
        obtain ⟨aR, aB, aL, aS, aV, aH, aP, aO, aT, aC, aI⟩ := ma
        rw [f3_runMutants_L48, hmc, if_neg hlt, name', ob_s, nm_v, nI_1]
        by_cases w1 : nI k = nI m
        · have w2 : ¬ lbt (xS t) s = true := w.elim (fun q => absurd w1 q) id
          rw [if_pos w1, if_neg (show ¬ (1 : Int32) = 0 by decide), if_neg hgt, if_neg hg, hn, hnt, s2, lb_hold (by omega), ob_s, if_neg w2, if_pos rfl]
        · rw [if_neg w1, if_pos rfl]
      · obtain ⟨n, rfl⟩ : ∃ a, n = a + 1 := ⟨n - 1, by omega⟩
        rw [← i3 kk N n hN (by omega)]
        obtain ⟨qc, qb, qp, qr, qC⟩ := mQ
        obtain ⟨r1, r2, r3, r4, r5, rS, rV, rM⟩ := mR
        rw [f8_matrix_L96, hlm, if_neg hlt, ei, if_neg hgi, if_neg hg, hn, hni, k3]
        by_cases w1 : nI k = nI m
        · have w2 : ¬ lbt (xS t) s = true := w.elim (fun q => absurd w1 q) id
          rw [if_neg w2] at hSs
          rw [if_pos w1, if_neg hg', s3, es, if_neg hgs, hns, if_pos hSs, nm_v, nI_1]
          rfl
        · rw [if_neg w1, nm_v, nI_1]
          rfl
    by_cases w1 : nI k = nI m
    · by_cases w2 : lbt (xS t) s = true
      · -- it is run
        rw [if_pos w2] at hSs
        obtain ⟨N1, o', bu, a', r', _, _, e1, e2, e3, e4, _⟩ := e_go (u := (mu.1 m, mu.2.2.1 m)) (m := m) (mQ := mQ) (mG := (nI f, g2, g3, g4, gX, gY, g7, upd gK (121 * t + m) (vp_nar .boolean 0), gR)) (ma := ma) (mR := mR) hx hb (.inr ⟨h2, by omega, rfl⟩) hf hq rfl (xX t) (xY t)
        -- is it killed?
        by_cases w3 : nI o' = o ∧ a'.1 = v
        · obtain ⟨N0, c', ma', xK', mR', gK', i1, i2, i3⟩ := ih (m + 1) a' r' xK (upd (upd gK (121 * t + m) (vp_nar .boolean 0)) (121 * t + m) (vp_nar .boolean 0)) (acc + 1) (rn + 1) (by omega) (by omega) (h3.step hm hM h2 ht false (fun j hj => by rw [z_upd_n hj, z_upd_n hj]) (by rw [z_upd_e]; exact ⟨fun q => absurd rfl q, fun q => absurd q (by decide)⟩) (fun i _ => rfl) (fun _ => rfl) (fun q => absurd q (by decide)))
          refine ⟨max N0 N1, 1 + c', ma', xK', mR', gK', i1, fun kk N n hN hn' => ?_, fun kk N n hN hn' => ?_⟩
          · obtain ⟨n, rfl⟩ : ∃ a, n = a + 1 := ⟨n - 1, by omega⟩
            rw [← Int32.add_assoc, ← i2 kk N n (by omega) (by omega)]
            have e1 := e1 N (by omega)
            obtain ⟨aR, aB, aL, aS, aV, aH, aP, aO, aT, aC, aI⟩ := ma
            obtain ⟨aR', aB', aL', aS', aV', aH', aP', aO', aT', aC', aI'⟩ := a'
            dsimp only at e1 w3
            have e1 : f2_execute N (nI s) (mu.2.2.1 m) (xX t) (xY t) (nI f) (cs.1, cs.2.1, cs.2.2.1, cs.2.2.2.1, cs.2.2.2.2) (aR, aB, aL, aS, aV, aH, aP, aO, aT, aC, aI) = some (nI o', aR', aB', aL', aS', aV', aH', aP', aO', aT', aC', aI') := by rw [← s2]; exact e1
            rw [f3_runMutants_L48, hmc, if_neg hlt, name', ob_s, if_pos w1, if_neg (show ¬ (1 : Int32) = 0 by decide), if_neg hgt, if_neg hg, hn, hnt, s2, lb_hold (by omega), ob_s, if_pos w2, if_neg (show ¬ (1 : Int32) = 0 by decide), if_neg hg', if_neg hg', if_neg hgt', if_neg hgt', e1, ob_s]
            dsimp only
            rw [if_pos w3.1, if_pos w3.2, nm_v, nm_v, nI_1]
          · obtain ⟨n, rfl⟩ : ∃ a, n = a + 1 := ⟨n - 1, by omega⟩
            rw [← Int32.add_assoc, ← i3 kk N n (by omega) (by omega)]
            have e2 := e2 N (by omega)
            obtain ⟨qc, qb, qp, qr, qC⟩ := mQ
            obtain ⟨r1, r2, r3, r4, r5, rS, rV, rM⟩ := mR
            obtain ⟨r1', r2', r3', r4', r5', rS', rV', rM'⟩ := r'
            dsimp only at e3 e4
            have e2 : f8_go N (nI m) (gX t) (gY t) (qc, qb, qp, qr, qC) (mK.1, mK.2.1, mK.2.2.1, mK.2.2.2) (nI nM, mL.2.1, mL.2.2.1, mL.2.2.2.1, mL.2.2.2.2.1, mL.2.2.2.2.2) (nI f, g2, g3, g4, gX, gY, g7, upd gK (121 * t + m) (vp_nar .boolean 0), gR) (r1, r2, r3, r4, r5, rS, rV, rM) = some (r1', r2', r3', r4', r5', rS', rV', rM') := by rw [← hlm, ← hXt, ← hYt]; exact e2
            rw [f8_matrix_L96, hlm, if_neg hlt, ei, if_neg hgi, if_neg hg, hn, hni, k3, if_pos w1, if_neg hg', s3, es, if_neg hgs, hns, if_neg (by rw [hSs]; decide), if_neg hgt, if_neg hgt, hnt, e2, ob_s]
            dsimp only [nm_v]
            rw [if_pos (e3.trans w3.1), if_pos (e4.trans w3.2), if_neg (by rw [hni] at hgi; exact hgi), nI_1]
        · obtain ⟨N0, c', ma', xK', mR', gK', i1, i2, i3⟩ := ih (m + 1) a' r' (upd xK m (xK m ||| ((1 : Int32) <<< (nI t &&& 31)))) (upd (upd gK (121 * t + m) (vp_nar .boolean 0)) (121 * t + m) (vp_nar .boolean 1)) (acc + 1) (rn + 1) (by omega) (by omega) (h3.step hm hM h2 ht true (fun j hj => by rw [z_upd_n hj, z_upd_n hj]) (by rw [z_upd_e]; exact ⟨fun _ => rfl, fun _ => by decide⟩) (fun i hi => z_upd_n hi) (fun q => absurd q (by decide)) (fun _ => z_upd_e))
          refine ⟨max N0 N1, 1 + c', ma', xK', mR', gK', i1, fun kk N n hN hn' => ?_, fun kk N n hN hn' => ?_⟩
          · obtain ⟨n, rfl⟩ : ∃ a, n = a + 1 := ⟨n - 1, by omega⟩
            rw [← Int32.add_assoc, ← i2 kk N n (by omega) (by omega)]
            have e1 := e1 N (by omega)
            obtain ⟨aR, aB, aL, aS, aV, aH, aP, aO, aT, aC, aI⟩ := ma
            obtain ⟨aR', aB', aL', aS', aV', aH', aP', aO', aT', aC', aI'⟩ := a'
            dsimp only at e1 w3
            have e1 : f2_execute N (nI s) (mu.2.2.1 m) (xX t) (xY t) (nI f) (cs.1, cs.2.1, cs.2.2.1, cs.2.2.2.1, cs.2.2.2.2) (aR, aB, aL, aS, aV, aH, aP, aO, aT, aC, aI) = some (nI o', aR', aB', aL', aS', aV', aH', aP', aO', aT', aC', aI') := by rw [← s2]; exact e1
            rw [f3_runMutants_L48, hmc, if_neg hlt, name', ob_s, if_pos w1, if_neg (show ¬ (1 : Int32) = 0 by decide), if_neg hgt, if_neg hg, hn, hnt, s2, lb_hold (by omega), ob_s, if_pos w2, if_neg (show ¬ (1 : Int32) = 0 by decide), if_neg hg', if_neg hg', if_neg hgt', if_neg hgt', e1, ob_s]
            dsimp only
            by_cases w4 : nI o' = o
            · rw [if_pos w4, if_neg (fun q => w3 ⟨w4, q⟩), f3_runMutants_L138, if_neg hg, if_neg hg, hn, nm_v, nm_v, nI_1]
            · rw [if_neg w4, f3_runMutants_L138, if_neg hg, if_neg hg, hn, nm_v, nm_v, nI_1]
          · obtain ⟨n, rfl⟩ : ∃ a, n = a + 1 := ⟨n - 1, by omega⟩
            rw [← Int32.add_assoc, ← i3 kk N n (by omega) (by omega)]
            have e2 := e2 N (by omega)
            obtain ⟨qc, qb, qp, qr, qC⟩ := mQ
            obtain ⟨r1, r2, r3, r4, r5, rS, rV, rM⟩ := mR
            obtain ⟨r1', r2', r3', r4', r5', rS', rV', rM'⟩ := r'
            dsimp only at e3 e4
            have e2 : f8_go N (nI m) (gX t) (gY t) (qc, qb, qp, qr, qC) (mK.1, mK.2.1, mK.2.2.1, mK.2.2.2) (nI nM, mL.2.1, mL.2.2.1, mL.2.2.2.1, mL.2.2.2.2.1, mL.2.2.2.2.2) (nI f, g2, g3, g4, gX, gY, g7, upd gK (121 * t + m) (vp_nar .boolean 0), gR) (r1, r2, r3, r4, r5, rS, rV, rM) = some (r1', r2', r3', r4', r5', rS', rV', rM') := by rw [← hlm, ← hXt, ← hYt]; exact e2
            rw [f8_matrix_L96, hlm, if_neg hlt, ei, if_neg hgi, if_neg hg, hn, hni, k3, if_pos w1, if_neg hg', s3, es, if_neg hgs, hns, if_neg (by rw [hSs]; decide), if_neg hgt, if_neg hgt, hnt, e2, ob_s]
            dsimp only [nm_v]
            by_cases w4 : nI o' = o
            · rw [if_pos (e3.trans w4), if_neg (fun q => w3 ⟨w4, e4.symm.trans q⟩), if_neg (by rw [hni] at hgi; exact hgi), nI_1]
            · rw [if_neg (fun q => w4 (e3.symm.trans q)), if_neg (by rw [hni] at hgi; exact hgi), nI_1]
      · exact skip (.inr w2)
    · exact skip (.inl w1)
end
