/-! BOTH SIDES: run, compile -/
section
variable {top : TopS} {co : Nat → CoS} {mu : MuS} {tr : TrS} {mx : MxS} {mT : MdT} {mQ : MdQ} {mK : MdK} {mL : MdL} {mG : MdG} {ma : MaS} {mR : MdR} {cs : CoS} {x : RoT 4} {base : Nat}
/-- which mutant runs in both: the program itself, or one of the list -/
def MRN (mu : MuS) (nM m : Nat) (u : MTN) : Prop := m = 0 ∧ u.1 = -1 ∨ 1 ≤ m ∧ m ≤ nM ∧ u = (mu.1 m, mu.2.2.1 m)
theorem e_go {u : MTN} {m f : Nat} (h : PRG x cs mu mK mL base) (hb : base ≤ 256) (hm : MRN mu (MU (sRo 4 x)).length m u) (hf : f ≤ 50) (hq : mQ.2.1 = nI base) (hg : mG.1 = nI f) (a b : Int32) :
    ∃ N0 o bu a' r', o < 4 ∧ bu ≤ f ∧ (∀ N, N0 ≤ N → f2_execute N u.1 u.2 a b (nI f) cs ma = some (nI o, a')) ∧ (∀ N, N0 ≤ N → f8_go N (nI m) a b mQ mK mL mG mR = some r') ∧ r'.2.1 = nI o ∧ r'.2.2.1 = a'.1 ∧ a'.2.1 = nI bu ∧ r'.2.2.2.1 = nI bu ∧ STE a'.2.2.1 r'.2.2.2.2.2.2.2 := by
  obtain ⟨⟨p', p1, p2⟩, q2, q3, q4, q5, q6, q7, q8⟩ := h
  have hS := sin_ro 4 _ _ _ p2
  have hr : MUR (f, u.1, u.2, nI m, mL, a, b) ∧ OKL (f, u.1, u.2, nI m, mL, a, b) (sRo 4 x) := by
    rcases hm with ⟨rfl, hu⟩ | ⟨m1, m2, rfl⟩
    · refine ⟨.inl ⟨hu, rfl⟩, fun e he => ?_⟩
      obtain ⟨c1, c2, c3⟩ := hS.2.2 e he
      refine ⟨by omega, c3, fun q => ?_⟩
      dsimp only at q
      rw [hu] at q
      exact absurd q (uz_no (by omega))
    · obtain ⟨j, rfl⟩ : ∃ j, m = j + 1 := ⟨m - 1, by omega⟩
      have hj : (MU (sRo 4 x))[j]? = some (MU (sRo 4 x))[j] := List.getElem?_eq_getElem (by omega)
      obtain ⟨a1, a2, a3⟩ := q6.2.2 j _ hj
      obtain ⟨c1, c2, c3⟩ := q7.2.2.1 j _ hj
      have h120 := q7.1
      refine ⟨.inr ⟨j + 1, by omega, by omega, rfl, c1.trans a1.symm, c3.trans a3.symm⟩, fun e he => ?_⟩
      obtain ⟨d1, d2, d3⟩ := hS.2.2 e he
      refine ⟨by omega, d3, fun q => ?_⟩
      dsimp only at q ⊢
      rw [a1] at q
      rw [a3]
      obtain ⟨k1, k2⟩ := mut_ok hS p1 (List.mem_of_getElem? hj) he q
      refine ⟨fun w => ?_, k2⟩
      have := k1 (by omega)
      rw [w] at this
      exact this
  exact z_exe (c := (f, u.1, u.2, nI m, mL, a, b)) q2 q3 hr.1 hf q4 hb q5 p2 hr.2 hq hg
theorem e_run {q : Nat} (h : BSR top co mu tr mx mT mQ mK mL mG) (m a b : Int32) : ∃ N r v c top' ma' q' mR' mG', f7_run N m a b (co top.2.2.2.1) mu top ma q = some (r, top', ma', q') ∧ (q' = q ∨ q' = top.2.2.2.1) ∧ f8_run N m a b mK mL mQ mR mG = some (v, (mQ.1, mQ.2.1, mQ.2.2.1, mQ.2.2.2.1, c), mR', mG') ∧ OUT r v c [(ISE, 1), (IOB, 2)] ∧ BSR top' co mu tr mx mT (mQ.1, mQ.2.1, mQ.2.2.1, mQ.2.2.2.1, c) mK mL mG' := by
  have hq := cp_01 h.2.2.1
  have hm := e_mut h.2.2.1
  obtain ⟨h1, h2, h3, ⟨f, f1, f2, f3, f4⟩, h5, h6, h7⟩ := h
  have h3' := h3
  obtain ⟨base, b1, b2, b3⟩ := h3
  -- if the mutant is there
  have runs : top.2.2.1 = 1 → ∀ n nM, n ≤ nM → mu.2.2.2.2.1 = nI nM → nM ≤ 120 → ∃ N o a' r', f2_execute N (mu.1 n) (mu.2.2.1 n) a b (nI f) (co top.2.2.2.1) ma = some (nI o, a') ∧ f8_go N (nI n) a b (mQ.1, mQ.2.1, mQ.2.2.1, mQ.2.2.2.1, 0) mK mL mG mR = some r' ∧ r'.2.1 = nI o ∧ r'.2.2.1 = a'.1 ∧ a'.2.1 = r'.2.2.2.1 := by
    intro e n nM hn hc hM
    rcases b3 with ⟨b3, _⟩ | ⟨_, b4, x, hx⟩
    · rw [b3] at e
      exact absurd e (by decide)
    · have hnM : nM = (MU (sRo 4 x)).length := by
        have := hx.2.2.2.2.2.1.1
        have h120 := hx.2.2.2.2.2.2.1.1
        exact (nI_eq (by omega) (by omega)).mp (hc.symm.trans this)
      obtain ⟨N0, o, bu, a', r', _, _, g1, g2, g3, g4, g5, g6, _⟩ := e_go (u := (mu.1 n, mu.2.2.1 n)) (m := n) (mQ := (mQ.1, mQ.2.1, mQ.2.2.1, mQ.2.2.2.1, 0)) (mG := mG) (ma := ma) (mR := mR) hx (by omega) (by
        by_cases w : n = 0
        · subst w
          exact .inl ⟨rfl, hx.2.2.2.2.2.1.2.1⟩
        · exact .inr ⟨by omega, by omega, rfl⟩) f2 b2 f4 a b
      exact ⟨N0, o, a', r', g1 N0 (Nat.le_refl _), g2 N0 (Nat.le_refl _), g3, g4, g5.trans g6.symm⟩
  obtain ⟨tx, ln, cp, cq, sq, fu, lv, lt⟩ := top
  obtain ⟨mS, mK', mI, mC, mc, mA⟩ := mu
  obtain ⟨qc, qb, qp, qr, qC⟩ := mQ
  obtain ⟨l1, l2, l3, l4, l5, l6⟩ := mL
  obtain ⟨k1, k2, k3, k4⟩ := mK
  obtain ⟨g1, g2, g3, g4, g5, g6, g7, g8, g9⟩ := mG
  obtain ⟨aR, aB, aL, aS, aV, aH, aP, aO, aT, aC, aI⟩ := ma
  obtain ⟨r1, r2, r3, r4, r5, rS, rV, rM⟩ := mR
  dsimp only at hm hq f3 f4 runs h5 ⊢
  generalize co cq = zz at runs ⊢
  obtain ⟨z1, z2, z3, z4, z5⟩ := zz
  subst f3 f4
  have n1 : ¬ (1 : Int32) = 0 := by decide
  have hr : ∀ c, BSR (tx, ln, cp, cq, sq, nI f, lv, lt) co (mS, mK', mI, mC, mc, mA) tr mx mT (qc, qb, qp, qr, c) (k1, k2, k3, k4) (l1, l2, l3, l4, l5, l6) (nI f, g2, g3, g4, g5, g6, g7, g8, g9) := fun c => ⟨h1, h2, h3', ⟨f, f1, f2, rfl, rfl⟩, h5, h6, h7⟩
  rcases hq with ⟨rfl, rfl⟩ | ⟨rfl, rfl⟩
  · refine ⟨0, .error ISE, 0, 1, (tx, ln, 0, cq, sq, nI f, lv, lt), (aR, aB, aL, aS, aV, aH, aP, aO, aT, aC, aI), q, (r1, r2, r3, r4, r5, rS, rV, rM), (nI f, g2, g3, g4, g5, g6, g7, g8, g9), ?_, .inl rfl, ?_, .inr ⟨ISE, by simp only [List.mem_cons, true_or], rfl⟩, hr 1⟩
    · rw [f7_run, f7_needCompiled, if_pos rfl, ob_s]
    · rw [f8_run, if_pos rfl]
      rfl
  · obtain ⟨nM, m1, rfl, rfl, _, m4, m5⟩ := hm rfl
    by_cases w1 : m < 0
    · refine ⟨0, .error IOB, 0, 2, (tx, ln, 1, cq, sq, nI f, lv, lt), (aR, aB, aL, aS, aV, aH, aP, aO, aT, aC, aI), q, (r1, r2, r3, r4, r5, rS, rV, rM), (nI f, g2, g3, g4, g5, g6, g7, g8, g9), ?_, .inl rfl, ?_, .inr ⟨IOB, by simp only [List.mem_cons, true_or, or_true], rfl⟩, hr 2⟩
      · rw [f7_run, f7_needCompiled, if_neg n1, ob_s]
        dsimp only
        rw [f7_needMutant, if_pos w1, ob_s]
      · rw [f8_run, if_neg n1, if_pos w1]
        rfl
    · by_cases w2 : m ≤ nI nM
      · obtain ⟨n, _, n2, rfl⟩ := i_rng (a := 0) (b := nM) w1 w2 (by omega) (by omega)
        obtain ⟨N, o, a', r', e1, e2, e3, e4, e5⟩ := runs rfl n nM n2 rfl m1
        have hg := z_gd (n := n) (N := 121) (by omega) (by omega)
        have hn := z_nat (n := n) (by omega)
        obtain ⟨aR', aB', aL', aS', aV', aH', aP', aO', aT', aC', aI'⟩ := a'
        obtain ⟨r1', r2', r3', r4', r5', rS', rV', rM'⟩ := r'
        dsimp only at e3 e4 e5
        subst e3 e4 e5
        refine ⟨N, .ok (nI o), nI o, 0, (tx, ln, 1, cq, sq, nI f, r3', aB'), (r3', aB', aL', aS', aV', aH', aP', aO', aT', aC', aI'), cq, (r1', nI o, r3', aB', r5', rS', rV', rM'), (nI f, r3', aB', g4, g5, g6, g7, g8, g9), ?_, .inr rfl, ?_, .inl ⟨rfl, rfl⟩, h1, h2, h3', ⟨f, f1, f2, rfl, rfl⟩, ⟨rfl, rfl⟩, h6, h7⟩
        · rw [f7_run, f7_needCompiled, if_neg n1, ob_s]
          dsimp only
          rw [f7_needMutant, if_neg w1, if_pos w2, ob_s]
          dsimp only
          rw [if_neg hg, if_neg hg, hn, e1, ob_s]
        · rw [f8_run, if_neg n1, if_neg w1, if_pos w2, e2, ob_s]
      · refine ⟨0, .error IOB, 0, 2, (tx, ln, 1, cq, sq, nI f, lv, lt), (aR, aB, aL, aS, aV, aH, aP, aO, aT, aC, aI), q, (r1, r2, r3, r4, r5, rS, rV, rM), (nI f, g2, g3, g4, g5, g6, g7, g8, g9), ?_, .inl rfl, ?_, .inr ⟨IOB, by simp only [List.mem_cons, true_or, or_true], rfl⟩, hr 2⟩
        · rw [f7_run, f7_needCompiled, if_neg n1, ob_s]
          dsimp only
          rw [f7_needMutant, if_neg w1, if_neg w2, ob_s]
        · rw [f8_run, if_neg n1, if_neg w1, if_neg w2]
          rfl
end
theorem mkh_out {B base : Nat} {mK mK' : MdK} {L : List Mce} (h : MKH mK base L) (ho : OUK B mK mK') (hb : base = 0 ∧ B = 256 ∨ base = 256 ∧ B = 0) (hl : L.length ≤ 256) : MKH mK' base L := by
  intro k q hk
  have hlt := (List.getElem?_eq_some_iff.mp hk).1
  obtain ⟨o1, o2, o3⟩ := ho (base + k) (by omega)
  have := h k q hk
  unfold MA at this ⊢
  rw [← o1, ← o2, ← o3]
  exact this
section
variable {top : TopS} {co : Nat → CoS} {mu : MuS} {tr : TrS} {mx : MxS} {mT : MdT} {mQ : MdQ} {mK : MdK} {mL : MdL} {mG : MdG} {mN : MdN} {mP : MdP} {mH : MdH} {rd : RdS} {ra : Int32} {fo : FoS}
/-- the class compiles -/
theorem z_cmpC {T : List Nat} {cs : CoS} {x : RoT 4} {p' : Nat} (hT : TXT top T) (hl : top.2.1 = nI T.length) (hx : pTop T = some x) (hp : p' ≤ T.length) (hi : iRo 4 0 p' x) (htr : ∀ t, t < 4 → tr.1 t = 0) :
    ∃ cs', CS cs' (jRo 4 0 x) ∧ (jRo 4 0 x).length ≤ 80 ∧
      ((MU (sRo 4 x)).length ≤ 120 → ∃ mu' fo' tr', f7_compile 30000 top rd ra cs mu fo tr mx = some (.ok (nI (MU (sRo 4 x)).length), (top.1, top.2.1, 1, top.2.2.2.2.1, top.2.2.2.1, top.2.2.2.2.2.1, 0, 0), (rd.1, 1, nI T.length, top.2.2.2.2.1), nI T.length, cs', mu', fo', tr', (0, 0, mx.2.2)) ∧ MuV mu' (MU (sRo 4 x)) ∧ (∀ t, t < 4 → tr'.1 t = 0) ∧ ∀ i, i ≤ (MU (sRo 4 x)).length → ∃ k, FLK (fun j => fRo (mtu mu' j) 4 x) i k ∧ mu'.2.2.2.1 i = nI k) ∧
      (¬ (MU (sRo 4 x)).length ≤ 120 → f7_compile 30000 top rd ra cs mu fo tr mx = some (.error ISE, top, (rd.1, 1, nI T.length, top.2.2.2.2.1), nI T.length, cs', mu, fo, tr, mx)) := by
  have h60 := hT.1
  have hS := sin_ro 4 _ _ _ hi
  have hr := z_read (N := 30000) (q := top.2.2.2.2.1) (rd := rd) (ra := ra) (cs := cs) hT (by omega)
  rw [hx] at hr
  obtain ⟨cs', r1, r2, r3⟩ := hr
  have hJ : (jRo 4 0 x).length ≤ 80 := by omega
  have hJS := jsr_of (pj_ro 4 0 x)
  have hJW := jw_of (j15_ro 4 0 x) hJS hS (by omega)
  have hm := z_many (N := 30000) (by omega) r2 hJ hJW (pj_ro 4 0 x) hS
  have hlen : (MU (sRo 4 x)).length < 1000 := by
    rw [mu_len (fun e he => (hS.2.2 e he).2.2)]
    have k := (rb_row (d := 4) (by omega) (sin_st 4 (sin_bsub 4)) (fun u => cz_st (cz_bsub 4)) (sb_st (sb_bsub 4 (by omega))) x 0 p' (by rw [Nat.zero_add]; exact hi) (by omega)).1
    obtain ⟨a, A, Bb, z, k1, k2, k3, k4, _⟩ := k
    have : muS (sRo 4 x) = muS (sRow (sSt 4 (sBSub 4)) x) := rfl
    omega
  refine ⟨cs', r2, hJ, fun hM => ?_, fun hM => ?_⟩
  · obtain ⟨mu1, l1, l2, l3⟩ := z_list (N := 30000) (mu := mu) (by omega) r2 hJ hJW hS (by omega) hJS hM
    have kn := kn_top hi (by omega)
    obtain ⟨mC', fo', tr', f1, f2, f3⟩ := z_fclass (N := 30000) (fo := fo) (x := x) (sz := (jRo 4 0 x).length) (nM := (MU (sRo 4 x)).length) ⟨r2.1, hJ, by omega⟩ (fun k p hk => by rw [Nat.zero_add]; exact r2.2 k p hk) rfl kn.1 kn.2 hM l2.1 (fun j hj => okh_mtu hS (by omega) l2 j hj) htr
    have hmc := l2.1
    refine ⟨(mu1.1, mu1.2.1, mu1.2.2.1, mC', mu1.2.2.2.2.1, mu1.2.2.2.2.2), fo', tr', ?_, l2, f2, f3⟩
    obtain ⟨tx, ln, cp, cq, sq, fu, lv, lt⟩ := top
    obtain ⟨d1, d2, d3, d4⟩ := rd
    obtain ⟨b1, b2, b3, b4, b5⟩ := cs
    obtain ⟨b1', b2', b3', b4', b5'⟩ := cs'
    obtain ⟨mS, mK', mI, mC, mc, mA⟩ := mu
    obtain ⟨mS1, mK1, mI1, mC1, mc1, mA1⟩ := mu1
    obtain ⟨fR, fS, fh, fb⟩ := fo
    obtain ⟨fR', fS', fh', fb'⟩ := fo'
    obtain ⟨tK, tF, tS, tT, tO, tN, tc⟩ := tr
    obtain ⟨tK', tF', tS', tT', tO', tN', tc'⟩ := tr'
    obtain ⟨xN, xM, xS, xK, xX, xY⟩ := mx
    dsimp only at hl hmc r1
    subst hl hmc
    rw [f7_compile, r1, ob_s]
    dsimp only
    rw [hm, ob_s, if_pos (show nI (MU (sRo 4 x)).length ≤ (120 : Int32) from nl_ge 120 (MU (sRo 4 x)).length _ rfl hM (by omega)), l1, ob_s]
    dsimp only
    rw [f1, ob_s]
    rfl
  · obtain ⟨tx, ln, cp, cq, sq, fu, lv, lt⟩ := top
    obtain ⟨d1, d2, d3, d4⟩ := rd
    obtain ⟨b1, b2, b3, b4, b5⟩ := cs
    obtain ⟨b1', b2', b3', b4', b5'⟩ := cs'
    obtain ⟨mS, mK', mI, mC, mc, mA⟩ := mu
    obtain ⟨fR, fS, fh, fb⟩ := fo
    obtain ⟨tK, tF, tS, tT, tO, tN, tc⟩ := tr
    obtain ⟨xN, xM, xS, xK, xX, xY⟩ := mx
    dsimp only at hl r1
    subst hl
    rw [f7_compile, r1, ob_s]
    dsimp only
    rw [hm, ob_s, if_neg (show ¬ nI (MU (sRo 4 x)).length ≤ (120 : Int32) from nl_nge 120 (MU (sRo 4 x)).length _ rfl (by omega) (by omega))]
theorem z_cmpG {T : List Nat} {cs : CoS} (hT : TXT top T) (hl : top.2.1 = nI T.length) (hx : pTop T = none) :
    ∃ ra' cs', f7_compile 30000 top rd ra cs mu fo tr mx = some (.error IAE, top, (rd.1, 1, nI T.length, top.2.2.2.2.1), ra', cs', mu, fo, tr, mx) := by
  have hr := z_read (N := 30000) (q := top.2.2.2.2.1) (rd := rd) (ra := ra) (cs := cs) hT (by omega)
  rw [hx] at hr
  obtain ⟨ra', cs', r1⟩ := hr
  refine ⟨ra', cs', ?_⟩
  obtain ⟨tx, ln, cp, cq, sq, fu, lv, lt⟩ := top
  obtain ⟨d1, d2, d3, d4⟩ := rd
  obtain ⟨b1, b2, b3, b4, b5⟩ := cs
  obtain ⟨b1', b2', b3', b4', b5'⟩ := cs'
  obtain ⟨mS, mK', mI, mC, mc, mA⟩ := mu
  obtain ⟨fR, fS, fh, fb⟩ := fo
  obtain ⟨tK, tF, tS, tT, tO, tN, tc⟩ := tr
  obtain ⟨xN, xM, xS, xK, xX, xY⟩ := mx
  dsimp only at hl r1
  subst hl
  rw [f7_compile, r1, ob_s]
theorem e_compile (h : BSR top co mu tr mx mT mQ mK mL mG) : ∃ N M r top' rd' ra' cs' mu' fo' tr' mx' v c qr qp qc qb mK' mN' mP' mL' mH' mG', f7_compile N top rd ra (co top.2.2.2.2.1) mu fo tr mx = some (r, top', rd', ra', cs', mu', fo', tr', mx') ∧ rd'.1 = rd.1 ∧
    f8_compile M mT mQ mK mN mP mL mH mG = some (v, (qc, qb, qp, qr, c), mK', mN', mP', mL', mH', mG') ∧ OUT r v c [(IAE, 1), (ISE, 2)] ∧ BSR top' (updC co top.2.2.2.2.1 cs') mu' tr' mx' mT (qc, qb, qp, qr, c) mK' mL' mG' := by
  obtain ⟨⟨T, t1, t2, t3⟩, ⟨h2, h2', h2''⟩, ⟨base, b1, b2, b3⟩, h4, h5, h6, h7⟩ := h
  obtain ⟨B, hB⟩ : ∃ B, base = 0 ∧ B = 256 ∨ base = 256 ∧ B = 0 := by
    rcases b1 with b1 | b1
    · exact ⟨256, .inl ⟨b1, rfl⟩⟩
    · exact ⟨0, .inr ⟨b1, rfl⟩⟩
  -- what stays, if it is refused
  have keep : ∀ (cs' : CoS) (mK' : MdK) (qc qb qp qr c : Int32), OUK B mK mK' → qc = mQ.1 → qb = mQ.2.1 → BSR top (updC co top.2.2.2.2.1 cs') mu tr mx mT (qc, qb, qp, qr, c) mK' mL mG := by
    intro cs' mK' qc qb qp qr c ho e1 e2
    refine ⟨⟨T, t1, t2, t3⟩, ⟨h2, h2', h2''⟩, ⟨base, b1, e2.trans b2, ?_⟩, h4, h5, h6, h7⟩
    rcases b3 with ⟨b3, b4⟩ | ⟨b3, b4, x, q1, q2, q3, q4, q5, q6, q7, q8⟩
    · exact .inl ⟨b3, e1.trans b4⟩
    · refine .inr ⟨b3, e1.trans b4, x, q1, ?_, q3, mkh_out q4 ho hB (by rw [List.length_append]; simp only [List.length_cons, List.length_nil]; omega), q5, q6, q7, q8⟩
      rw [updC, if_neg h2'']
      exact q2
  cases hx : pTop T with
  | none =>
    obtain ⟨ra', cs', f1⟩ := z_cmpG (rd := rd) (ra := ra) (cs := co top.2.2.2.2.1) (mu := mu) (fo := fo) (tr := tr) (mx := mx) t1 t3 hx
    obtain ⟨M, qr, mK', mN', mP', g1, g2⟩ := z_cmpF (mN := mN) (mP := mP) (mL := mL) (mH := mH) (mG := mG) (mK := mK) t2 hB b2 hx
    exact ⟨_, M, _, _, _, _, _, _, _, _, _, _, _, _, _, _, _, _, _, _, _, _, _, f1, rfl, g1, .inr ⟨IAE, by simp only [List.mem_cons, true_or], rfl⟩, keep cs' mK' _ _ _ _ _ g2 rfl b2.symm⟩
  | some x =>
    obtain ⟨p', hp, hi⟩ := pi_len t1 hx
    obtain ⟨cs', c1, c2, c3, c4⟩ := z_cmpC (rd := rd) (ra := ra) (cs := co top.2.2.2.2.1) (mu := mu) (fo := fo) (tr := tr) (mx := mx) t1 t3 hx hp hi h6
    obtain ⟨d3, d4⟩ := z_cmpS (mN := mN) (mP := mP) (mL := mL) (mH := mH) (mG := mG) (mK := mK) t2 hB b2 hx hp hi
    by_cases hM : (MU (sRo 4 x)).length ≤ 120
    · obtain ⟨mu', fo', tr', f1, f2, f3, f4⟩ := c3 hM
      obtain ⟨M, mK', mN', mP', mL', mH', qr, g1, g2, g3, g4⟩ := d3 hM
      refine ⟨_, M, _, _, _, _, _, _, _, _, _, _, _, _, _, _, _, _, _, _, _, _, _, f1, rfl, g1, .inl ⟨rfl, rfl⟩, ⟨T, t1, t2, t3⟩, ⟨h2', h2, fun q => h2'' q.symm⟩, ⟨B, by omega, rfl, .inr ⟨rfl, rfl, x, ⟨p', by have := t1.1; omega, hi⟩, ?_, c2, g2, by omega, f2, g4, fun i hi' => ?_⟩⟩, h4, ⟨rfl, rfl⟩, f3, ⟨0, by omega, rfl, rfl, fun j hj => by omega, .inl ⟨rfl, rfl⟩⟩⟩
      · show CS (updC co top.2.2.2.2.1 cs' top.2.2.2.2.1) _
        rw [updC, if_pos rfl]
        exact c1
      · obtain ⟨k, k1, k2⟩ := f4 i hi'
        obtain ⟨k', k1', k2'⟩ := g4.2.2.2 i hi'
        have hS := sin_ro 4 _ _ _ hi
        have al := fun j (hj : j ≤ i) => mt_alike hS (by have := t1.1; omega) f2 j (by omega)
        have : k = k' := FLK.eq (T := fun j => fRo (mtu mu' j) 4 x) (U := fun j => fRo (mtm (MU (sRo 4 x)) j) 4 x) (fun j hj => by
          rw [al j hj, al i (Nat.le_refl _)]) k1 k1'
        subst this
        exact ⟨k, k1.1, k2, k2'⟩
    · have f1 := c4 hM
      obtain ⟨M, qr, mK', mN', mP', g1, g2⟩ := d4 hM
      exact ⟨_, M, _, _, _, _, _, _, _, _, _, _, _, _, _, _, _, _, _, _, _, _, _, f1, rfl, g1, .inr ⟨ISE, by simp only [List.mem_cons, true_or, or_true], rfl⟩, keep cs' mK' _ _ _ _ _ g2 rfl b2.symm⟩
end
