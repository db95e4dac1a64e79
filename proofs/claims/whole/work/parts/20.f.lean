/-! BOTH SIDES: the matrix, all tests -/
section
variable {x : RoT 4} {cs : CoS} {mu : MuS} {mK : MdK} {mL : MdL} {base f nt nM q : Nat} {mQ : MdQ} {xM : Int32} {xX xY gX gY : Nat → Int32} {g2 g3 g7 : Int32}
theorem z_tt (hx : PRG x cs mu mK mL base) (hb : base ≤ 256) (hf : f ≤ 50) (hq : mQ.2.1 = nI base) (hnt : nt ≤ 8) (hnM : nM = (MU (sRo 4 x)).length) (hX : ∀ j, j < nt → xX j = gX j ∧ xY j = gY j) :
    ∀ r t (ma : MaS) (mq : Nat) (mR : MdR) (xS : Nat → Int64) (xK gK gR : Nat → Int32) (tot : Int32), t + r = nt → KR t 1 nM xK gK → SR t xS gR →
      ∃ N0 tot' ma' mq' mR' xS' xK' gK' gR', (mq' = mq ∨ mq' = q) ∧ KR nt 1 nM xK' gK' ∧ SR nt xS' gR' ∧
        (∀ kk N n, N0 ≤ N → r < n → f3_make_L14 kk N q cs.1 cs.2.1 cs.2.2.1 cs.2.2.2.1 cs.2.2.2.2 mu.1 mu.2.1 mu.2.2.1 mu.2.2.2.1 mu.2.2.2.2.1 mu.2.2.2.2.2 n (nI f) tot (nI t) ma mq (nI nt, xM, xS, xK, xX, xY) = kk tot' ma' mq' (nI nt, xM, xS', xK', xX, xY)) ∧
        (∀ kk N n, N0 ≤ N → r < n → f8_matrix_L22 kk N mK.1 mK.2.1 mK.2.2.1 mK.2.2.2 mL.1 mL.2.1 mL.2.2.1 mL.2.2.2.1 mL.2.2.2.2.1 mL.2.2.2.2.2 n tot (nI t) mQ mR (nI f, g2, g3, nI nt, gX, gY, g7, gK, gR) = kk tot' mQ mR' (nI f, g2, g3, nI nt, gX, gY, g7, gK', gR')) := by
  have hmc : mu.2.2.2.2.1 = nI nM := by rw [hnM]; exact hx.2.2.2.2.2.1.1
  have hM : nM ≤ 120 := by rw [hnM]; exact hx.2.2.2.2.2.2.1.1
  intro r
  induction r with
  | zero =>
    intro t ma mq mR xS xK gK gR tot h1 h2 h3
    have : t = nt := by omega
    subst this
    refine ⟨0, tot, ma, mq, mR, xS, xK, gK, gR, .inl rfl, h2, h3, fun kk N n _ hn => ?_, fun kk N n _ hn => ?_⟩
    · obtain ⟨n, rfl⟩ : ∃ a, n = a + 1 := ⟨n - 1, by omega⟩
      obtain ⟨aR, aB, aL, aS, aV, aH, aP, aO, aT, aC, aI⟩ := ma
      rw [f3_make_L14, if_pos (Int32.le_refl _)]
    · obtain ⟨n, rfl⟩ : ∃ a, n = a + 1 := ⟨n - 1, by omega⟩
      obtain ⟨qc, qb, qp, qr, qC⟩ := mQ
      obtain ⟨r1, r2, r3, r4, r5, rS, rV, rM⟩ := mR
      rw [f8_matrix_L22, if_pos (Int32.le_refl _)]
  | succ r ih =>
    intro t ma mq mR xS xK gK gR tot h1 h2 h3
    have ht : t < 8 := by omega
    have hlt : ¬ nI nt ≤ nI t := fun q => absurd ((nI_leI (by omega) (by omega)).mp q) (by omega)
    have hgt := z_gd (n := t) (N := 8) ht (by omega)
    have hn := z_nat (n := t) (by omega)
    have hgt' : ¬ (nI t < 0 ∨ 8 ≤ t) := by rw [hn] at hgt; exact hgt
    obtain ⟨hXt, hYt⟩ := hX t (by omega)
    obtain ⟨N1, o, bu, a', r', _, _, e1, e2, e3, e4, _, _, e7⟩ := e_go (u := ((-1 : Int32), (0 : Int32))) (m := 0) (mQ := mQ) (mG := (nI f, g2, g3, nI nt, gX, gY, g7, gK, gR)) (ma := ma) (mR := mR) hx hb (.inl ⟨rfl, rfl⟩) hf hq rfl (xX t) (xY t)
    have hrm : ∀ s, s < 60 → r'.2.2.2.2.2.2.2 s = 0 ∨ r'.2.2.2.2.2.2.2 s = 1 := by
      intro s hs
      rw [e7 s hs]
      by_cases w : lbt a'.2.2.1 s = true
      · rw [if_pos w]; exact .inr rfl
      · rw [if_neg w]; exact .inl rfl
    -- the places that are met
    obtain ⟨gR1, m1, m2, m3⟩ := z_m61 (k0 := mK.1) (k1 := mK.2.1) (k2 := mK.2.2.1) (k3 := mK.2.2.2) (l1 := mL.1) (l2 := mL.2.1) (l3 := mL.2.2.1) (l4 := mL.2.2.2.1) (l5 := mL.2.2.2.2.1) (l6 := mL.2.2.2.2.2) (mQ := mQ) (mR := r') (g1 := nI f) (g2 := g2) (g3 := g3) (g4 := nI nt) (g5 := gX) (g6 := gY) (g7 := g7) ht hrm 60 0 gR (by omega) (fun j hj => by omega)
    have hSR : SR (t + 1) (vp_updL xS t a'.2.2.1) gR1 := by
      intro j hj s hs
      by_cases w : j = t
      · subst w
        rw [m1 s hs, e7 s hs]
        show _ = if lbt (if j = j then a'.2.2.1 else xS j) s = true then 1 else 0
        rw [if_pos rfl]
      · rw [m2 _ (by omega), h3 j (by omega) s hs]
        show _ = if lbt (if j = t then a'.2.2.1 else xS j) s = true then 1 else 0
        rw [if_neg w]
    obtain ⟨N2, c', ma2, xK2, mR2, gK2, f1, f2, f3⟩ := z_mm (mQ := mQ) (o := nI o) (v := a'.1) (xN := nI nt) (xM := xM) (xS := vp_updL xS t a'.2.2.1) (xX := xX) (xY := xY) (gX := gX) (gY := gY) (g2 := g2) (g3 := g3) (g4 := nI nt) (g7 := g7) (gR := gR1) hx hb hf hq ht hnM hXt hYt (hSR t (by omega)) nM 1 a' r' xK gK 0 tot (by omega) (by omega) h2
    obtain ⟨N3, tot', ma', mq', mR', xS', xK', gK', gR', i0, i1, i2, i3, i4⟩ := ih (t + 1) ma2 q mR2 (vp_updL xS t a'.2.2.1) xK2 gK2 gR1 (tot + c') (by omega) f1.next hSR
    refine ⟨max (max N1 N2) (max N3 200), tot', ma', mq', mR', xS', xK', gK', gR', ?_, i1, i2, fun kk N n hN hn' => ?_, fun kk N n hN hn' => ?_⟩
    · rcases i0 with i0 | i0
      · exact .inr i0
      · exact .inr i0
    · obtain ⟨n, rfl⟩ : ∃ a, n = a + 1 := ⟨n - 1, by omega⟩
      rw [← i3 kk N n (by omega) (by omega)]
      have e1 := e1 N (by omega)
      have f2 := f2 (fun x ma mx => some (x, ma, mx)) N N (by omega) (by omega)
      have run : f3_runMutants N (nI t) (nI f) cs mu ma (nI nt, xM, xS, xK, xX, xY) = some (c', ma2, (nI nt, xM, vp_updL xS t a'.2.2.1, xK2, xX, xY)) := by
        obtain ⟨b1, b2, b3, b4, b5⟩ := cs
        obtain ⟨mS, mK', mI, mC, mc, mA⟩ := mu
        obtain ⟨aR, aB, aL, aS, aV, aH, aP, aO, aT, aC, aI⟩ := ma
        obtain ⟨aR', aB', aL', aS', aV', aH', aP', aO', aT', aC', aI'⟩ := a'
        rw [Int32.zero_add] at f2
        rw [f3_runMutants, if_neg hgt, if_neg hgt, hn, e1, ob_s]
        dsimp only
        rw [if_neg hgt']
        exact f2
      obtain ⟨aR, aB, aL, aS, aV, aH, aP, aO, aT, aC, aI⟩ := ma
      rw [f3_make_L14, if_neg hlt]
      have run' : f3_runMutants N (nI t) (nI f) (cs.1, cs.2.1, cs.2.2.1, cs.2.2.2.1, cs.2.2.2.2) (mu.1, mu.2.1, mu.2.2.1, mu.2.2.2.1, mu.2.2.2.2.1, mu.2.2.2.2.2) (aR, aB, aL, aS, aV, aH, aP, aO, aT, aC, aI) (nI nt, xM, xS, xK, xX, xY) = some (c', ma2, (nI nt, xM, vp_updL xS t a'.2.2.1, xK2, xX, xY)) := run
      rw [run', ob_s]
      dsimp only [nm_v]
      rw [nI_1]
    · obtain ⟨n, rfl⟩ : ∃ a, n = a + 1 := ⟨n - 1, by omega⟩
      rw [← i4 kk N n (by omega) (by omega)]
      have e2 := e2 N (by omega)
      have f3 := f3 (fun x1 x2 Q R G => nm_v (x2 + (1 : Int32)) (fun v => f8_matrix_L22 kk N mK.1 mK.2.1 mK.2.2.1 mK.2.2.2 mL.1 mL.2.1 mL.2.2.1 mL.2.2.2.1 mL.2.2.2.2.1 mL.2.2.2.2.2 n x1 v Q R G)) N N (by omega) (by omega)
      have m3 := m3 (fun x1 x2 x3 x4 Q R G => f8_matrix_L96 (fun x1 x2 Q R G => nm_v (x2 + (1 : Int32)) (fun v => f8_matrix_L22 kk N mK.1 mK.2.1 mK.2.2.1 mK.2.2.2 mL.1 mL.2.1 mL.2.2.1 mL.2.2.2.1 mL.2.2.2.2.1 mL.2.2.2.2.2 n x1 v Q R G)) N mK.1 mK.2.1 mK.2.2.1 mK.2.2.2 mL.1 mL.2.1 mL.2.2.1 mL.2.2.2.1 mL.2.2.2.2.1 mL.2.2.2.2.2 N x1 x2 x3 x4 1 Q R G) N N tot (nI o) a'.1 gK (by omega)
      have key := m3.trans f3
      rw [nm_v, nI_1] at key
      rw [← key]
      have e2' : f8_go N 0 (gX t) (gY t) mQ mK mL (nI f, g2, g3, nI nt, gX, gY, g7, gK, gR) mR = some r' := by rw [← hXt, ← hYt]; exact e2
      obtain ⟨qc, qb, qp, qr, qC⟩ := mQ
      obtain ⟨r1, r2, r3, r4, r5, rS, rV, rM⟩ := mR
      obtain ⟨r1', r2', r3', r4', r5', rS', rV', rM'⟩ := r'
      dsimp only at e3 e4
      subst e3 e4
      have e2'' : f8_go N 0 (gX t) (gY t) (qc, qb, qp, qr, qC) (mK.1, mK.2.1, mK.2.2.1, mK.2.2.2) (mL.1, mL.2.1, mL.2.2.1, mL.2.2.2.1, mL.2.2.2.2.1, mL.2.2.2.2.2) (nI f, g2, g3, nI nt, gX, gY, g7, gK, gR) (r1, r2, r3, r4, r5, rS, rV, rM) = some (r1', nI o, a'.1, r4', r5', rS', rV', rM') := e2'
      rw [f8_matrix_L22, if_neg hlt, if_neg hgt, if_neg hgt, hn, e2'', ob_s]
      rfl
end
section
variable {top : TopS} {co : Nat → CoS} {mu : MuS} {tr : TrS} {mx : MxS} {mT : MdT} {mQ : MdQ} {mK : MdK} {mL : MdL} {mG : MdG} {ma : MaS} {mR : MdR} {q : Nat}
theorem e_matrix (h : BSR top co mu tr mx mT mQ mK mL mG) : ∃ N r v c ma' q' mx' mR' mG', f7_matrix N top (co top.2.2.2.1) mu ma q mx = some (r, ma', q', mx') ∧ (q' = q ∨ q' = top.2.2.2.1) ∧ f8_matrix N mK mL mQ mR mG = some (v, (mQ.1, mQ.2.1, mQ.2.2.1, mQ.2.2.2.1, c), mR', mG') ∧ OUT r v c [(ISE, 1)] ∧ BSR top co mu tr mx' mT (mQ.1, mQ.2.1, mQ.2.2.1, mQ.2.2.2.1, c) mK mL mG' := by
  have hq := cp_01 h.2.2.1
  obtain ⟨h1, h2, h3, ⟨f, f1, f2, f3, f4⟩, h5, h6, h7⟩ := h
  have h3' := h3
  have h7' := h7
  obtain ⟨base, b1, b2, b3⟩ := h3
  obtain ⟨nt, n1, n2, n3, n4, _⟩ := h7
  obtain ⟨tx, ln, cp, cq, sq, fu, lv, lt⟩ := top
  obtain ⟨xN, xM, xS, xK, xX, xY⟩ := mx
  obtain ⟨qc, qb, qp, qr, qC⟩ := mQ
  obtain ⟨g1, g2, g3, g4, g5, g6, g7, g8, g9⟩ := mG
  dsimp only at hq f3 f4 n2 n3 n4 b2 b3 h5 ⊢
  subst f3 f4 n2 n3 b2
  have ne1 : ¬ (1 : Int32) = 0 := by decide
  rcases hq with ⟨rfl, rfl⟩ | ⟨rfl, rfl⟩
  · refine ⟨0, .error ISE, 0, 1, ma, q, (nI nt, xM, xS, xK, xX, xY), mR, (nI f, g2, g3, nI nt, g5, g6, g7, g8, g9), ?_, .inl rfl, ?_, .inr ⟨ISE, by simp only [List.mem_cons, true_or], rfl⟩, h1, h2, h3', ⟨f, f1, f2, rfl, rfl⟩, h5, h6, h7'⟩
    · generalize co cq = zz
      obtain ⟨z1, z2, z3, z4, z5⟩ := zz
      obtain ⟨mS, mK', mI, mC, mc, mA⟩ := mu
      obtain ⟨aR, aB, aL, aS, aV, aH, aP, aO, aT, aC, aI⟩ := ma
      rw [f7_matrix, f7_needCompiled, if_pos rfl, ob_s]
    · obtain ⟨k1, k2, k3, k4⟩ := mK
      obtain ⟨l1, l2, l3, l4, l5, l6⟩ := mL
      obtain ⟨r1, r2, r3, r4, r5, rS, rV, rM⟩ := mR
      rw [f8_matrix, if_pos rfl]
      rfl
  · rcases b3 with ⟨b3, _⟩ | ⟨_, _, x, hx⟩
    · exact absurd b3 ne1
    · have hM := hx.2.2.2.2.2.2.1.1
      have hmc := hx.2.2.2.2.2.1.1
      obtain ⟨N0, tot', ma', mq', mR', xS', xK', gK', gR', i0, i1, i2, i3, i4⟩ := z_tt (q := cq) (mQ := (1, nI base, qp, qr, 0)) (xM := xM) (xX := xX) (xY := xY) (gX := g5) (gY := g6) (g2 := g2) (g3 := g3) (g7 := g7) (nM := (MU (sRo 4 x)).length) hx (by omega) f2 rfl n1 rfl n4 nt 0 ma q mR xS (fillF xK 121 0) g8 g9 0 (by omega) (KR.zero hM (fun i hi => if_pos hi)) (fun j hj => by omega)
      refine ⟨max N0 9, .ok tot', tot', 0, ma', mq', (nI nt, 1, xS', xK', xX, xY), mR', (nI f, g2, g3, nI nt, g5, g6, 1, gK', gR'), ?_, i0, ?_, .inl ⟨rfl, rfl⟩, h1, h2, h3', ⟨f, f1, f2, rfl, rfl⟩, h5, h6, ⟨nt, n1, rfl, rfl, n4, .inr ⟨rfl, rfl, rfl, _, hmc, hM, i2, fun i hi => ?_⟩⟩⟩
      · have i3 := i3 (fun x ma mq mx => some (x, ma, mq, (mx.1, 1, mx.2.2))) (max N0 9) (max N0 9) (by omega) (by omega)
        generalize co cq = zz at i3 ⊢
        obtain ⟨z1, z2, z3, z4, z5⟩ := zz
        obtain ⟨mS, mK', mI, mC, mc, mA⟩ := mu
        obtain ⟨aR, aB, aL, aS, aV, aH, aP, aO, aT, aC, aI⟩ := ma
        rw [f7_matrix, f7_needCompiled, if_neg ne1, ob_s]
        dsimp only
        rw [f3_make]
        refine (congrArg (fun o => Option.bind o _) i3).trans ?_
        rfl
      · have i4 := i4 (fun x Q R G => some (x, Q, R, (G.1, G.2.1, G.2.2.1, G.2.2.2.1, G.2.2.2.2.1, G.2.2.2.2.2.1, 1, G.2.2.2.2.2.2.2.1, G.2.2.2.2.2.2.2.2))) (max N0 9) (max N0 9) (by omega) (by omega)
        obtain ⟨k1, k2, k3, k4⟩ := mK
        obtain ⟨l1, l2, l3, l4, l5, l6⟩ := mL
        obtain ⟨r1, r2, r3, r4, r5, rS, rV, rM⟩ := mR
        rw [f8_matrix, if_neg ne1]
        exact i4
      · obtain ⟨k, k1, k2, k3, k4⟩ := i1 i hi
        refine ⟨k, k1, k2, k3, fun h0 t ht => ?_⟩
        rw [k4 h0 t ht]
        constructor
        · exact fun a => ⟨by omega, a.2⟩
        · exact fun a => ⟨by omega, a.2⟩
end
