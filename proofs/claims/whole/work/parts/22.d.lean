/-! BOTH SIDES' WORLDS, and what a call does to them -/
def LSt (V : EV) (a7 a8 : Nat → Nat) (wc wm : va_W) : Prop := ∃ (top : TopS) (rd : RdS) (ra : Int32) (co : Nat → CoS) (mu : MuS) (fo : FoS) (tr : TrS) (ma : MaS) (mq : Nat) (mx : MxS) (mT : MdT) (mQ : MdQ) (mK : MdK) (mN : MdN) (mP : MdP) (mL : MdL) (mH : MdH) (mR : MdR) (mG : MdG), wc = wC V a7 top rd ra co mu fo tr ma mq mx ∧ wm = wM V a8 mT mQ mK mN mP mL mH mR mG ∧ BSR top co mu tr mx mT mQ mK mL mG
/-- with the number that the latest throw left -/
def LT (V : EV) (a7 a8 : Nat → Nat) (k : Int32) (wc wm : va_W) : Prop := ∃ (top : TopS) (rd : RdS) (ra : Int32) (co : Nat → CoS) (mu : MuS) (fo : FoS) (tr : TrS) (ma : MaS) (mq : Nat) (mx : MxS) (mT : MdT) (mQ : MdQ) (mK : MdK) (mN : MdN) (mP : MdP) (mL : MdL) (mH : MdH) (mR : MdR) (mG : MdG), wc = wC V a7 top rd ra co mu fo tr ma mq mx ∧ wm = wM V a8 mT mQ mK mN mP mL mH mR mG ∧ BSR top co mu tr mx mT mQ mK mL mG ∧ mQ.2.2.2.2 = k
theorem updC_id {co : Nat → CoS} {q : Nat} : updC co q (co q) = co := by
  funext j
  unfold updC
  by_cases h : j = q
  · rw [if_pos h, h]
  · rw [if_neg h]
section
variable {V : EV} {l : Launch} {a7 a8 : Nat → Nat} {wc wm : va_W} {k : Int32}
theorem LT.st (h : LT V a7 a8 k wc wm) : LSt V a7 a8 wc wm := by
  obtain ⟨top, rd, ra, co, mu, fo, tr, ma, mq, mx, mT, mQ, mK, mN, mP, mL, mH, mR, mG, h1, h2, h3, _⟩ := h
  exact ⟨top, rd, ra, co, mu, fo, tr, ma, mq, mx, mT, mQ, mK, mN, mP, mL, mH, mR, mG, h1, h2, h3⟩
theorem LSt.c0 (h : LSt V a7 a8 wc wm) : ∃ fs, wc[0]? = some (a7 0, .inr (7, fs)) := by
  obtain ⟨top, rd, ra, co, mu, fo, tr, ma, mq, mx, mT, mQ, mK, mN, mP, mL, mH, mR, mG, rfl, h2, h3⟩ := h
  exact ⟨_, rfl⟩
theorem LSt.m0 (h : LSt V a7 a8 wc wm) : ∃ fs, wm[0]? = some (a8 0, .inr (8, fs)) := by
  obtain ⟨top, rd, ra, co, mu, fo, tr, ma, mq, mx, mT, mQ, mK, mN, mP, mL, mH, mR, mG, h1, rfl, h3⟩ := h
  exact ⟨_, rfl⟩
theorem p_thrown (hl0 : l.stackTraces = false) (h : LT V a7 a8 k wc wm) : MI V l yX8_thrown cX8_thrown 1 .int 0 0 [.ref (a8 0)] wm k wm := by
  obtain ⟨top, rd, ra, co, mu, fo, tr, ma, mq, mx, mT, ⟨qc, qb, qp, qr, qC⟩, mK, mN, mP, mL, mH, mR, mG, h1, rfl, h3, rfl⟩ := h
  exact c8_thrown hl0 (by rfl)
theorem p_type (hl0 : l.stackTraces = false) (h : LSt V a7 a8 wc wm) (c : Int32) : ∃ (v : Int32) (wc' wm' : va_W), MI V l yX7_type cX7_type 2 .int 0 0 [.ref (a7 0), .int c] wc v wc' ∧ MI V l yX8_type cX8_type 2 .int 0 0 [.ref (a8 0), .int c] wm v wm' ∧ LSt V a7 a8 wc' wm' := by
  obtain ⟨top, rd, ra, co, mu, fo, tr, ma, mq, mx, mT, mQ, mK, mN, mP, mL, mH, mR, mG, rfl, rfl, h⟩ := h
  obtain ⟨tx, ln, cp, cq, sq, fu, lv, lt⟩ := top
  obtain ⟨ty, te⟩ := mT
  obtain ⟨qc, qb, qp, qr, qC⟩ := mQ
  obtain ⟨v, top', mT', e1, e2, hB⟩ := e_type h c
  exact ⟨v, _, _, c7_type hl0 e1, c8_type hl0 e2, _, _, _, _, _, _, _, _, _, _, _, _, _, _, _, _, _, _, _, rfl, rfl, hB⟩
theorem p_wipe (hl0 : l.stackTraces = false) (h : LSt V a7 a8 wc wm) : ∃ (wc' wm' : va_W), MV V l yX7_wipe cX7_wipe 1 0 0 [.ref (a7 0)] wc wc' ∧ MV V l yX8_wipe cX8_wipe 1 0 0 [.ref (a8 0)] wm wm' ∧ LSt V a7 a8 wc' wm' := by
  obtain ⟨top, rd, ra, co, mu, fo, tr, ma, mq, mx, mT, mQ, mK, mN, mP, mL, mH, mR, mG, rfl, rfl, h⟩ := h
  obtain ⟨tx, ln, cp, cq, sq, fu, lv, lt⟩ := top
  obtain ⟨ty, te⟩ := mT
  obtain ⟨qc, qb, qp, qr, qC⟩ := mQ
  obtain ⟨top', mT', e1, e2, hB⟩ := e_wipe h
  exact ⟨_, _, c7_wipe hl0 e1, c8_wipe hl0 e2, _, _, _, _, _, _, _, _, _, _, _, _, _, _, _, _, _, _, _, rfl, rfl, hB⟩
theorem p_fuel (hl0 : l.stackTraces = false) (h : LSt V a7 a8 wc wm) (c : Int32) : ∃ (v : Int32) (wc' wm' : va_W), MI V l yX7_fuel cX7_fuel 2 .boolean 0 0 [.ref (a7 0), .int c] wc v wc' ∧ MI V l yX8_fuel cX8_fuel 2 .boolean 0 0 [.ref (a8 0), .int c] wm v wm' ∧ LSt V a7 a8 wc' wm' := by
  obtain ⟨top, rd, ra, co, mu, fo, tr, ma, mq, mx, mT, mQ, mK, mN, mP, mL, mH, mR, mG, rfl, rfl, h⟩ := h
  obtain ⟨tx, ln, cp, cq, sq, fu, lv, lt⟩ := top
  obtain ⟨xN, xM, xS, xK, xX, xY⟩ := mx
  obtain ⟨qc, qb, qp, qr, qC⟩ := mQ
  obtain ⟨gf, gv, gt, gn, gX, gY, gM, gK, gR⟩ := mG
  obtain ⟨v, top', mx', mG', e1, e2, hB⟩ := e_fuel h c
  exact ⟨v, _, _, c7_fuel hl0 e1, c8_fuel hl0 e2, _, _, _, _, _, _, _, _, _, _, _, _, _, _, _, _, _, _, _, rfl, rfl, hB⟩
theorem p_value (hl0 : l.stackTraces = false) (h : LSt V a7 a8 wc wm) : ∃ (v : Int32) (wc' wm' : va_W), MI V l yX7_value cX7_value 1 .int 0 0 [.ref (a7 0)] wc v wc' ∧ MI V l yX8_value cX8_value 1 .int 0 0 [.ref (a8 0)] wm v wm' ∧ LSt V a7 a8 wc' wm' := by
  obtain ⟨top, rd, ra, co, mu, fo, tr, ma, mq, mx, mT, mQ, mK, mN, mP, mL, mH, mR, mG, rfl, rfl, h⟩ := h
  obtain ⟨tx, ln, cp, cq, sq, fu, lv, lt⟩ := top
  obtain ⟨qc, qb, qp, qr, qC⟩ := mQ
  obtain ⟨gf, gv, gt, gn, gX, gY, gM, gK, gR⟩ := mG
  obtain ⟨v, e1, e2, hB⟩ := e_value h
  exact ⟨v, _, _, c7_value hl0 e1, c8_value hl0 e2, _, _, _, _, _, _, _, _, _, _, _, _, _, _, _, _, _, _, _, rfl, rfl, hB⟩
theorem p_took (hl0 : l.stackTraces = false) (h : LSt V a7 a8 wc wm) : ∃ (v : Int32) (wc' wm' : va_W), MI V l yX7_took cX7_took 1 .int 0 0 [.ref (a7 0)] wc v wc' ∧ MI V l yX8_took cX8_took 1 .int 0 0 [.ref (a8 0)] wm v wm' ∧ LSt V a7 a8 wc' wm' := by
  obtain ⟨top, rd, ra, co, mu, fo, tr, ma, mq, mx, mT, mQ, mK, mN, mP, mL, mH, mR, mG, rfl, rfl, h⟩ := h
  obtain ⟨tx, ln, cp, cq, sq, fu, lv, lt⟩ := top
  obtain ⟨qc, qb, qp, qr, qC⟩ := mQ
  obtain ⟨gf, gv, gt, gn, gX, gY, gM, gK, gR⟩ := mG
  obtain ⟨v, e1, e2, hB⟩ := e_took h
  exact ⟨v, _, _, c7_took hl0 e1, c8_took hl0 e2, _, _, _, _, _, _, _, _, _, _, _, _, _, _, _, _, _, _, _, rfl, rfl, hB⟩
theorem p_mutant (hl0 : l.stackTraces = false) (h : LSt V a7 a8 wc wm) (o : Nat) (f : Nat → Int64) (b0 : Int32) (b1 : Int32) : ∃ (k v : Int32) (f' : Nat → Int64) (wc' wm' : va_W), (k = 0 → f' 0 = v.toInt64) ∧ MW V l yL_mutant cL_mutant 5 hhL_mutant 8 134 [.ref (a7 0), .int b0, .int b1, .ref o] (wc ++ [outW V o f]) k (wc' ++ [outW V o f']) ∧ MI V l yX8_mutant cX8_mutant 3 .int 1 21 [.ref (a8 0), .int b0, .int b1] wm v wm' ∧ LT V a7 a8 k wc' wm' := by
  obtain ⟨top, rd, ra, co, mu, fo, tr, ma, mq, mx, mT, mQ, mK, mN, mP, mL, mH, mR, mG, rfl, rfl, h⟩ := h
  obtain ⟨tx, ln, cp, cq, sq, fu, lv, lt⟩ := top
  obtain ⟨mS, mKk, mI, mC, mc, mA⟩ := mu
  obtain ⟨qc, qb, qp, qr, qC⟩ := mQ
  obtain ⟨lm, lp, ls, li, lk, lf⟩ := mL
  obtain ⟨r, v, c, e1, e2, hO, hB⟩ := e_mutant h b0 b1
  obtain ⟨f', g1, g2⟩ := wl_mutant (V := V) (l := l) hl0 (w := wC V a7 (tx, ln, cp, cq, sq, fu, lv, lt) rd ra co (mS, mKk, mI, mC, mc, mA) fo tr ma mq mx) (w1 := wC V a7 (tx, ln, cp, cq, sq, fu, lv, lt) rd ra co (mS, mKk, mI, mC, mc, mA) fo tr ma mq mx) (x := a7 0) (o := o) (f := f) hO (fun r' hr => c7_mutant hl0 e1 hr) (fun E hE => x7_mutant hl0 e1 hE) rfl
  exact ⟨c, v, f', _, _, g1, g2, c8_mutant hl0 e2, ⟨_, _, _, _, _, _, _, _, _, _, _, _, _, _, _, _, _, _, _, rfl, rfl, hB, rfl⟩⟩
theorem p_test (hl0 : l.stackTraces = false) (h : LSt V a7 a8 wc wm) (o : Nat) (f : Nat → Int64) (b0 : Int32) (b1 : Int32) : ∃ (k v : Int32) (f' : Nat → Int64) (wc' wm' : va_W), (k = 0 → f' 0 = v.toInt64) ∧ MW V l yL_test cL_test 5 hhL_test 8 132 [.ref (a7 0), .int b0, .int b1, .ref o] (wc ++ [outW V o f]) k (wc' ++ [outW V o f']) ∧ MI V l yX8_test cX8_test 3 .int 1 21 [.ref (a8 0), .int b0, .int b1] wm v wm' ∧ LT V a7 a8 k wc' wm' := by
  obtain ⟨top, rd, ra, co, mu, fo, tr, ma, mq, mx, mT, mQ, mK, mN, mP, mL, mH, mR, mG, rfl, rfl, h⟩ := h
  obtain ⟨tx, ln, cp, cq, sq, fu, lv, lt⟩ := top
  obtain ⟨xN, xM, xS, xK, xX, xY⟩ := mx
  obtain ⟨qc, qb, qp, qr, qC⟩ := mQ
  obtain ⟨gf, gv, gt, gn, gX, gY, gM, gK, gR⟩ := mG
  obtain ⟨r, v, c, mx', mG', e1, e2, hO, hB⟩ := e_test h b0 b1
  obtain ⟨f', g1, g2⟩ := wl_test (V := V) (l := l) hl0 (w := wC V a7 (tx, ln, cp, cq, sq, fu, lv, lt) rd ra co mu fo tr ma mq (xN, xM, xS, xK, xX, xY)) (w1 := wC V a7 (tx, ln, cp, cq, sq, fu, lv, lt) rd ra co mu fo tr ma mq mx') (x := a7 0) (o := o) (f := f) hO (fun r' hr => c7_test hl0 e1 hr) (fun E hE => x7_test hl0 e1 hE) rfl
  exact ⟨c, v, f', _, _, g1, g2, c8_test hl0 e2, ⟨_, _, _, _, _, _, _, _, _, _, _, _, _, _, _, _, _, _, _, rfl, rfl, hB, rfl⟩⟩
theorem p_killed (hl0 : l.stackTraces = false) (h : LSt V a7 a8 wc wm) (o : Nat) (f : Nat → Int64) (b0 : Int32) (b1 : Int32) : ∃ (k v : Int32) (f' : Nat → Int64) (wc' wm' : va_W), (k = 0 → f' 0 = v.toInt64) ∧ MW V l yL_killed cL_killed 5 hhL_killed 8 134 [.ref (a7 0), .int b0, .int b1, .ref o] (wc ++ [outW V o f]) k (wc' ++ [outW V o f']) ∧ MI V l yX8_killed cX8_killed 3 .boolean 1 22 [.ref (a8 0), .int b0, .int b1] wm v wm' ∧ LT V a7 a8 k wc' wm' ∧ (v = 0 ∨ v = 1) := by
  obtain ⟨top, rd, ra, co, mu, fo, tr, ma, mq, mx, mT, mQ, mK, mN, mP, mL, mH, mR, mG, rfl, rfl, h⟩ := h
  obtain ⟨mS, mKk, mI, mC, mc, mA⟩ := mu
  obtain ⟨xN, xM, xS, xK, xX, xY⟩ := mx
  obtain ⟨qc, qb, qp, qr, qC⟩ := mQ
  obtain ⟨lm, lp, ls, li, lk, lf⟩ := mL
  obtain ⟨gf, gv, gt, gn, gX, gY, gM, gK, gR⟩ := mG
  obtain ⟨r, v, c, e1, e2, hO, hv, hB⟩ := e_killed h b0 b1
  obtain ⟨f', g1, g2⟩ := wl_killed (V := V) (l := l) hl0 (w := wC V a7 top rd ra co (mS, mKk, mI, mC, mc, mA) fo tr ma mq (xN, xM, xS, xK, xX, xY)) (w1 := wC V a7 top rd ra co (mS, mKk, mI, mC, mc, mA) fo tr ma mq (xN, xM, xS, xK, xX, xY)) (x := a7 0) (o := o) (f := f) hO hv (fun r' hr => c7_killed hl0 e1 hr) (fun E hE => x7_killed hl0 e1 hE) rfl
  exact ⟨c, v, f', _, _, g1, g2, c8_killed hl0 e2, ⟨_, _, _, _, _, _, _, _, _, _, _, _, _, _, _, _, _, _, _, rfl, rfl, hB, rfl⟩, hv⟩
theorem p_reached (hl0 : l.stackTraces = false) (h : LSt V a7 a8 wc wm) (o : Nat) (f : Nat → Int64) (b0 : Int32) (b1 : Int32) : ∃ (k v : Int32) (f' : Nat → Int64) (wc' wm' : va_W), (k = 0 → f' 0 = v.toInt64) ∧ MW V l yL_reached cL_reached 5 hhL_reached 8 134 [.ref (a7 0), .int b0, .int b1, .ref o] (wc ++ [outW V o f]) k (wc' ++ [outW V o f']) ∧ MI V l yX8_reached cX8_reached 3 .boolean 1 22 [.ref (a8 0), .int b0, .int b1] wm v wm' ∧ LT V a7 a8 k wc' wm' ∧ (v = 0 ∨ v = 1) := by
  obtain ⟨top, rd, ra, co, mu, fo, tr, ma, mq, mx, mT, mQ, mK, mN, mP, mL, mH, mR, mG, rfl, rfl, h⟩ := h
  obtain ⟨mS, mKk, mI, mC, mc, mA⟩ := mu
  obtain ⟨xN, xM, xS, xK, xX, xY⟩ := mx
  obtain ⟨qc, qb, qp, qr, qC⟩ := mQ
  obtain ⟨lm, lp, ls, li, lk, lf⟩ := mL
  obtain ⟨gf, gv, gt, gn, gX, gY, gM, gK, gR⟩ := mG
  obtain ⟨r, v, c, e1, e2, hO, hv, hB⟩ := e_reached h b0 b1
  obtain ⟨f', g1, g2⟩ := wl_reached (V := V) (l := l) hl0 (w := wC V a7 top rd ra co (mS, mKk, mI, mC, mc, mA) fo tr ma mq (xN, xM, xS, xK, xX, xY)) (w1 := wC V a7 top rd ra co (mS, mKk, mI, mC, mc, mA) fo tr ma mq (xN, xM, xS, xK, xX, xY)) (x := a7 0) (o := o) (f := f) hO hv (fun r' hr => c7_reached hl0 e1 hr) (fun E hE => x7_reached hl0 e1 hE) rfl
  exact ⟨c, v, f', _, _, g1, g2, c8_reached hl0 e2, ⟨_, _, _, _, _, _, _, _, _, _, _, _, _, _, _, _, _, _, _, rfl, rfl, hB, rfl⟩, hv⟩
theorem p_score (hl0 : l.stackTraces = false) (h : LSt V a7 a8 wc wm) (o : Nat) (f : Nat → Int64) (b0 : Int32) : ∃ (k v : Int32) (f' : Nat → Int64) (wc' wm' : va_W), (k = 0 → f' 0 = v.toInt64) ∧ MW V l yL_score cL_score 4 hhL_score 8 133 [.ref (a7 0), .int b0, .ref o] (wc ++ [outW V o f]) k (wc' ++ [outW V o f']) ∧ MI V l yX8_score cX8_score 6 .int 0 0 [.ref (a8 0), .int b0] wm v wm' ∧ LT V a7 a8 k wc' wm' := by
  obtain ⟨top, rd, ra, co, mu, fo, tr, ma, mq, mx, mT, mQ, mK, mN, mP, mL, mH, mR, mG, rfl, rfl, h⟩ := h
  obtain ⟨mS, mKk, mI, mC, mc, mA⟩ := mu
  obtain ⟨xN, xM, xS, xK, xX, xY⟩ := mx
  obtain ⟨qc, qb, qp, qr, qC⟩ := mQ
  obtain ⟨lm, lp, ls, li, lk, lf⟩ := mL
  obtain ⟨gf, gv, gt, gn, gX, gY, gM, gK, gR⟩ := mG
  obtain ⟨r, v, c, e1, e2, hO, hB⟩ := e_score h b0
  obtain ⟨f', g1, g2⟩ := wl_score (V := V) (l := l) hl0 (w := wC V a7 top rd ra co (mS, mKk, mI, mC, mc, mA) fo tr ma mq (xN, xM, xS, xK, xX, xY)) (w1 := wC V a7 top rd ra co (mS, mKk, mI, mC, mc, mA) fo tr ma mq (xN, xM, xS, xK, xX, xY)) (x := a7 0) (o := o) (f := f) hO (fun r' hr => c7_score hl0 e1 hr) (fun E hE => x7_score hl0 e1 hE) rfl
  exact ⟨c, v, f', _, _, g1, g2, c8_score hl0 e2, ⟨_, _, _, _, _, _, _, _, _, _, _, _, _, _, _, _, _, _, _, rfl, rfl, hB, rfl⟩⟩
theorem p_run (hl0 : l.stackTraces = false) (h : LSt V a7 a8 wc wm) (o : Nat) (f : Nat → Int64) (b0 : Int32) (b1 : Int32) (b2 : Int32) : ∃ (k v : Int32) (f' : Nat → Int64) (wc' wm' : va_W), (k = 0 → f' 0 = v.toInt64) ∧ MW V l yL_run cL_run 6 hhL_run 8 136 [.ref (a7 0), .int b0, .int b1, .int b2, .ref o] (wc ++ [outW V o f]) k (wc' ++ [outW V o f']) ∧ MI V l yX8_run cX8_run 4 .int 4 96 [.ref (a8 0), .int b0, .int b1, .int b2] wm v wm' ∧ LT V a7 a8 k wc' wm' := by
  obtain ⟨top, rd, ra, co, mu, fo, tr, ma, mq, mx, mT, mQ, mK, mN, mP, mL, mH, mR, mG, rfl, rfl, h⟩ := h
  obtain ⟨tx, ln, cp, cq, sq, fu, lv, lt⟩ := top
  obtain ⟨mS, mKk, mI, mC, mc, mA⟩ := mu
  obtain ⟨aR, aB, aL, aS, aV, aH, aP, aO, aT, aC, aI⟩ := ma
  obtain ⟨qc, qb, qp, qr, qC⟩ := mQ
  obtain ⟨ks, kk, kv, kt⟩ := mK
  obtain ⟨lm, lp, ls, li, lk, lf⟩ := mL
  obtain ⟨rl, ro, rv, rs, rt, rS, rV, rM⟩ := mR
  obtain ⟨gf, gv, gt, gn, gX, gY, gM, gK, gR⟩ := mG
  obtain ⟨N, r, v, c, top', ma', q', mR', mG', e1, _, e2, hO, hB⟩ := e_run (ma := (aR, aB, aL, aS, aV, aH, aP, aO, aT, aC, aI)) (q := mq) (mR := (rl, ro, rv, rs, rt, rS, rV, rM)) h b0 b1 b2
  have hq : cq < 4 := h.2.1.1
  dsimp only at e1 hB
  have hco := updC_id (co := co) (q := cq)
  generalize hcs : co cq = cs at e1 hco
  obtain ⟨cw, ce, cn, cj, cz⟩ := cs
  rw [← hco] at hB ⊢
  obtain ⟨f', g1, g2⟩ := wl_run (V := V) (l := l) hl0 (w := wC V a7 (tx, ln, cp, cq, sq, fu, lv, lt) rd ra (updC co cq (cw, ce, cn, cj, cz)) (mS, mKk, mI, mC, mc, mA) fo tr (aR, aB, aL, aS, aV, aH, aP, aO, aT, aC, aI) mq mx) (w1 := wC V a7 top' rd ra (updC co cq (cw, ce, cn, cj, cz)) (mS, mKk, mI, mC, mc, mA) fo tr ma' q' mx) (x := a7 0) (o := o) (f := f) hO (fun r' hr => c7_run hl0 hq e1 hr) (fun E hE => x7_run hl0 hq e1 hE) rfl
  exact ⟨c, v, f', _, _, g1, g2, c8_run hl0 e2, ⟨_, _, _, _, _, _, _, _, _, _, _, _, _, _, _, _, _, _, _, rfl, rfl, hB, rfl⟩⟩
theorem p_matrix (hl0 : l.stackTraces = false) (h : LSt V a7 a8 wc wm) (o : Nat) (f : Nat → Int64) : ∃ (k v : Int32) (f' : Nat → Int64) (wc' wm' : va_W), (k = 0 → f' 0 = v.toInt64) ∧ MW V l yL_matrix cL_matrix 3 hhL_matrix 8 171 [.ref (a7 0), .ref o] (wc ++ [outW V o f]) k (wc' ++ [outW V o f']) ∧ MI V l yX8_matrix cX8_matrix 6 .int 4 96 [.ref (a8 0)] wm v wm' ∧ LT V a7 a8 k wc' wm' := by
  obtain ⟨top, rd, ra, co, mu, fo, tr, ma, mq, mx, mT, mQ, mK, mN, mP, mL, mH, mR, mG, rfl, rfl, h⟩ := h
  obtain ⟨tx, ln, cp, cq, sq, fu, lv, lt⟩ := top
  obtain ⟨mS, mKk, mI, mC, mc, mA⟩ := mu
  obtain ⟨aR, aB, aL, aS, aV, aH, aP, aO, aT, aC, aI⟩ := ma
  obtain ⟨xN, xM, xS, xK, xX, xY⟩ := mx
  obtain ⟨qc, qb, qp, qr, qC⟩ := mQ
  obtain ⟨ks, kk, kv, kt⟩ := mK
  obtain ⟨lm, lp, ls, li, lk, lf⟩ := mL
  obtain ⟨rl, ro, rv, rs, rt, rS, rV, rM⟩ := mR
  obtain ⟨gf, gv, gt, gn, gX, gY, gM, gK, gR⟩ := mG
  obtain ⟨N, r, v, c, ma', q', mx', mR', mG', e1, _, e2, hO, hB⟩ := e_matrix (ma := (aR, aB, aL, aS, aV, aH, aP, aO, aT, aC, aI)) (q := mq) (mR := (rl, ro, rv, rs, rt, rS, rV, rM)) h 
  have hq : cq < 4 := h.2.1.1
  dsimp only at e1 hB
  have hco := updC_id (co := co) (q := cq)
  generalize hcs : co cq = cs at e1 hco
  obtain ⟨cw, ce, cn, cj, cz⟩ := cs
  rw [← hco] at hB ⊢
  obtain ⟨f', g1, g2⟩ := wl_matrix (V := V) (l := l) hl0 (w := wC V a7 (tx, ln, cp, cq, sq, fu, lv, lt) rd ra (updC co cq (cw, ce, cn, cj, cz)) (mS, mKk, mI, mC, mc, mA) fo tr (aR, aB, aL, aS, aV, aH, aP, aO, aT, aC, aI) mq (xN, xM, xS, xK, xX, xY)) (w1 := wC V a7 (tx, ln, cp, cq, sq, fu, lv, lt) rd ra (updC co cq (cw, ce, cn, cj, cz)) (mS, mKk, mI, mC, mc, mA) fo tr ma' q' mx') (x := a7 0) (o := o) (f := f) hO (fun r' hr => c7_matrix hl0 hq e1 hr) (fun E hE => x7_matrix hl0 hq e1 hE) rfl
  exact ⟨c, v, f', _, _, g1, g2, c8_matrix hl0 e2, ⟨_, _, _, _, _, _, _, _, _, _, _, _, _, _, _, _, _, _, _, rfl, rfl, hB, rfl⟩⟩
theorem p_compile (hl0 : l.stackTraces = false) (h : LSt V a7 a8 wc wm) (o : Nat) (f : Nat → Int64) : ∃ (k v : Int32) (f' : Nat → Int64) (wc' wm' : va_W), (k = 0 → f' 0 = v.toInt64) ∧ MW V l yL_compile cL_compile 3 hhL_compile 200 5805 [.ref (a7 0), .ref o] (wc ++ [outW V o f]) k (wc' ++ [outW V o f']) ∧ MI V l yX8_compile cX8_compile 3 .int 7 147 [.ref (a8 0)] wm v wm' ∧ LT V a7 a8 k wc' wm' := by
  obtain ⟨top, rd, ra, co, mu, fo, tr, ma, mq, mx, mT, mQ, mK, mN, mP, mL, mH, mR, mG, rfl, rfl, h⟩ := h
  obtain ⟨tx, ln, cp, cq, sq, fu, lv, lt⟩ := top
  obtain ⟨rt0, rrt, rrl, rrq⟩ := rd
  obtain ⟨mS, mKk, mI, mC, mc, mA⟩ := mu
  obtain ⟨fR, fS, fh, fb⟩ := fo
  obtain ⟨tK, tF, tS, tT, tO, tN, tc⟩ := tr
  obtain ⟨xN, xM, xS, xK, xX, xY⟩ := mx
  obtain ⟨ty, te⟩ := mT
  obtain ⟨qc, qb, qp, qr, qC⟩ := mQ
  obtain ⟨ks, kk, kv, kt⟩ := mK
  obtain ⟨nn, nk, na, nb, nc, ns⟩ := mN
  obtain ⟨pa, pd, pf, pi, pr, pb, pF, pS, p0, p1, p2, p3, p4, pI⟩ := mP
  obtain ⟨lm, lp, ls, li, lk, lf⟩ := mL
  obtain ⟨ht, hK, hA, hB, hC, hN, h1, hT, hR⟩ := mH
  obtain ⟨gf, gv, gt, gn, gX, gY, gM, gK, gR⟩ := mG
  obtain ⟨N, M, r, top', rd', ra', cs', mu', fo', tr', mx', v, c, qr', qp', qc', qb', mK', mN', mP', mL', mH', mG', e1, _, e2, hO, hB⟩ := e_compile (rd := (rt0, rrt, rrl, rrq)) (ra := ra) (fo := (fR, fS, fh, fb)) (mN := (nn, nk, na, nb, nc, ns)) (mP := (pa, pd, pf, pi, pr, pb, pF, pS, p0, p1, p2, p3, p4, pI)) (mH := (ht, hK, hA, hB, hC, hN, h1, hT, hR)) h 
  have hq : sq < 4 := h.2.1.2.1
  dsimp only at e1
  have hco := updC_id (co := co) (q := sq)
  generalize hcs : co sq = cs at e1 hco
  obtain ⟨cw, ce, cn, cj, cz⟩ := cs
  rw [← hco]
  obtain ⟨f', g1, g2⟩ := wl_compile (V := V) (l := l) hl0 (w := wC V a7 (tx, ln, cp, cq, sq, fu, lv, lt) (rt0, rrt, rrl, rrq) ra (updC co sq (cw, ce, cn, cj, cz)) (mS, mKk, mI, mC, mc, mA) (fR, fS, fh, fb) (tK, tF, tS, tT, tO, tN, tc) ma mq (xN, xM, xS, xK, xX, xY)) (w1 := wC V a7 top' rd' ra' (updC co sq cs') mu' fo' tr' ma mq mx') (x := a7 0) (o := o) (f := f) hO (fun r' hr => c7_compile hl0 hq e1 hr) (fun E hE => x7_compile hl0 hq e1 hE) rfl
  exact ⟨c, v, f', _, _, g1, g2, c8_compile hl0 e2, ⟨_, _, _, _, _, _, _, _, _, _, _, _, _, _, _, _, _, _, _, rfl, rfl, hB, rfl⟩⟩
end
