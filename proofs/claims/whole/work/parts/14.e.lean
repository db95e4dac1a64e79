section
variable {cs : CoS} {mK : MdK} {c : RC} {i m sz bu s n j jm : Nat} {v : Int32} {st : List Int32} {a : MaS} {r : MdR}
/-- what is applied: of the piece, or instead -/
def opv (c : RC) (s n : Nat) : Int32 := if nI s = c.2.1 then c.2.2.1 else nI n
theorem i_apply {u w : Int32} {o : Nat} (hz : cs.2.2.2.2 = nI sz) (hsz : sz ≤ 80) (hi : i < sz) (hm : m < 512) (hM : MUR c) (hs : s < 60) (ho : o ∈ arS) (hov : opv c s n = nI o) (hp : PcAt cs i (0, s, n, j)) (hq : MA mK m (5, n, s)) (hst : st.length + 1 < 32) (h : REL c i (w :: u :: st) bu a r) : RES cs mK c 1 bu a (nI m) r (PV c (fun _ => True) (i + 1) (m + 1) st) := by
  obtain ⟨aL, aS, aV, r4, rS, rV, rM, rfl, rfl, h1, h2, h3, h4, h5, h6, h7⟩ := h
  obtain ⟨p1, p2, p3, p4⟩ := hp
  dsimp only at p1 p2
  have hg := z_gd (n := i) (N := 80) (by omega) (by omega)
  have hin := z_nat (n := i) (by omega)
  have hg' : ¬ (nI i < 0 ∨ 80 ≤ i) := by rw [hin] at hg; exact hg
  have p3 := p3 (.inl (by dsimp only; omega))
  have p4 := p4 (by dsimp only; omega)
  dsimp only at p3 p4
  obtain ⟨t1, t2⟩ := h3.top
  obtain ⟨t3, t4⟩ := t2.top
  obtain ⟨t5, t6⟩ := h4.top
  obtain ⟨t7, t8⟩ := t6.top
  rw [List.length_cons] at t1 t5
  have hgm := z_gd (n := m) (N := 512) hm (by omega)
  have hmn := z_nat (n := m) (by omega)
  have hgm' : ¬ (nI m < 0 ∨ 512 ≤ m) := by rw [hmn] at hgm; exact hgm
  have e1 := z_rea (cs := cs) (aR := 0) (aB := nI bu) (aL := aL) (aS := aS) (aV := aV) (aH := nI st.length) (aP := nI (i + 1)) (aO := -1) (aT := nI c.1) (aC := c.2.1) (aI := c.2.2.1) (i := i) (s := s) (by omega) p3
  have e2 := z_nub (cs := cs) (i := i) (s := s) (n := n) (cg := c.2.1) (ins := c.2.2.1) (by omega) p3 p4
  rw [show (if nI s = c.2.1 then c.2.2.1 else nI n) = nI o from hov] at e2
  have ec : ∀ a', ((f7_traps (nI o) w).bind fun q => if q = 0 then (f7_arithmetic (nI o) u w).bind fun q2 => f2_push q2 (0, nI bu, aL ||| ((1 : Int64) <<< ((nI s).toInt64 &&& 63)), aS, aV, nI st.length, nI (i + 1), -1, nI c.1, c.2.1, c.2.2.1) else some (0, nI bu, aL ||| ((1 : Int64) <<< ((nI s).toInt64 &&& 63)), aS, aV, nI st.length, nI (i + 1), 1, nI c.1, c.2.1, c.2.2.1)) = some a' → f2_step (nI i) cs (0, nI bu, aL, aS, aV, nI (w :: u :: st).length, nI (i + 1), -1, nI c.1, c.2.1, c.2.2.1) = some a' := by
    intro a' ha
    obtain ⟨cw, ce, cn, cj, cz⟩ := cs
    dsimp only at p1
    rw [f2_step, if_neg hg, hin, p1, if_pos (by decide), f2_apply, List.length_cons, z_ppc (by omega), ob_s]
    dsimp only
    rw [List.length_cons, z_ppc (by omega), ob_s]
    dsimp only
    rw [e2, ob_s, e1, ob_s]
    dsimp only
    rw [t1, t3]
    rcases hq1 : f7_traps (nI o) w with _ | q1
    · rw [hq1] at ha; cases ha
    · rw [hq1, ob_s] at ha
      rw [ob_s]
      by_cases w0 : q1 = 0
      · rw [if_pos w0] at ha ⊢
        rcases hq2 : f7_arithmetic (nI o) u w with _ | q2
        · rw [hq2] at ha; cases ha
        · rw [hq2, ob_s] at ha
          rw [ob_s, ha]
          rfl
      · rw [if_neg w0] at ha ⊢
        rw [← ha]
        rfl
  have em : ∀ z, ((f8_traps (nI o) w).bind fun q => if q = 0 then (f8_worked (nI o) u w).bind fun q2 => (f8_push2 q2 (nI (c.1 - bu), -1, 0, r4, nI st.length, rS, rV, upd rM s (vp_nar .boolean 1))).bind fun r' => some (nI m + 1, r') else some (0, (nI (c.1 - bu), 1, 0, r4, nI st.length, rS, rV, upd rM s (vp_nar .boolean 1)))) = some z → f8_execute (nI m) c.2.2.2.1 c.2.2.2.2.2.1 c.2.2.2.2.2.2 mK c.2.2.2.2.1 (nI (c.1 - bu), -1, 0, r4, nI (w :: u :: st).length, rS, rV, rM) = some z := by
    intro z ha
    rw [z_exs hM hm hs rfl hq]
    obtain ⟨q1, q2, q3⟩ := hq
    have hcal : f8_calculate (nI m) (nI o) (nI (c.1 - bu), -1, 0, r4, nI (w :: u :: st).length, rS, rV, upd rM s (vp_nar .boolean 1)) = some z := by
      have hl2 : (u :: st).length < 64 := by rw [List.length_cons]; omega
      rw [f8_calculate, List.length_cons, z_ppm hl2, ob_s]
      dsimp only
      rw [List.length_cons, z_ppm (by omega), ob_s]
      dsimp only
      rw [t5, t7]
      rcases hq1 : f8_traps (nI o) w with _ | q1
      · rw [hq1] at ha; cases ha
      · rw [hq1, ob_s] at ha
        rw [ob_s]
        by_cases w0 : q1 = 0
        · rw [if_pos w0] at ha ⊢
          rcases hq2 : f8_worked (nI o) u w with _ | q2
          · rw [hq2] at ha; cases ha
          · rw [hq2, ob_s] at ha
            rw [ob_s]
            rcases hq3 : f8_push2 q2 (nI (c.1 - bu), -1, 0, r4, nI st.length, rS, rV, upd rM s (vp_nar .boolean 1)) with _ | q3
            · rw [hq3] at ha; cases ha
            · rw [hq3, ob_s] at ha
              rw [ob_s, ← ha]
        · rw [if_neg w0] at ha ⊢
          rw [f8_stop, ob_s, ← ha]
    unfold opv at hov
    unfold X48
    obtain ⟨fu, cg, ins, mm, ⟨l1, l2, l3, l4, l5, l6⟩, x, y⟩ := c
    obtain ⟨k1, k2, k3, k4⟩ := mK
    dsimp only at q1 q2 hov hM hcal ⊢
    rw [f8_execute_L48, if_neg hgm, hmn, q1, if_neg (by decide), if_neg (by decide), if_neg (by decide), if_neg (by decide), if_pos (by decide), q2]
    have fin : ∀ op : Int32, op = nI o → (f8_calculate (nI m) op (nI (fu - bu), -1, 0, r4, nI (w :: u :: st).length, rS, rV, upd rM s (vp_nar .boolean 1))).bind (fun x => some (x.1, (x.2.1, x.2.2.1, x.2.2.2.1, x.2.2.2.2.1, x.2.2.2.2.2.1, x.2.2.2.2.2.2.1, x.2.2.2.2.2.2.2.1, x.2.2.2.2.2.2.2.2))) = some z := by
      intro op hop
      rw [hop, hcal]
      rfl
    by_cases w : nI s = cg
    · rcases hM with ⟨e1, e2⟩ | ⟨u, e1, e2, e3, e4, e5⟩
      · dsimp only at e1
        rw [e1] at w
        exact absurd w (z_m1 (by omega))
      · dsimp only at e3 e4 e5
        rw [if_pos w] at hov
        rw [if_pos w, if_neg (by decide), e3, if_neg (z_gd e2 (by omega)), z_nat (n := u) (by omega), e5]
        exact fin _ hov
    · rw [if_neg w] at hov
      rw [if_neg w, if_pos rfl, if_neg hgm']
      exact fin _ hov
  rcases z_trp ho u w with ⟨b1, b2⟩ | ⟨b1, b2, v, b3, b4⟩
  · refine ⟨1, _, bu, _, _, Nat.le_refl _, by omega, CGO.step hz hi hsz (ec _ (by rw [b1]; rfl)), MGO.step rfl (em _ (by rw [b2]; rfl)), .inr ⟨1, by omega, rfl, h2.set hs, rfl, rfl, h1, rfl, fun h => absurd h (by omega), fun _ => rfl⟩⟩
  · refine ⟨1, _, bu, nI (m + 1), _, Nat.le_refl _, by omega, CGO.step hz hi hsz (ec (0, nI bu, aL ||| ((1 : Int64) <<< ((nI s).toInt64 &&& 63)), upd aS st.length v, aV, nI (st.length + 1), nI (i + 1), -1, nI c.1, c.2.1, c.2.2.1) ?_), MGO.step rfl (em (nI (m + 1), (nI (c.1 - bu), -1, 0, r4, nI (st.length + 1), upd rS st.length v, rV, upd rM s (vp_nar .boolean 1))) ?_), .inl ⟨v, trivial, rfl, _, _, _, _, _, _, _, rfl, rfl, h1, h2.set hs, t4.push, t8.push, h5, h6, h7⟩⟩
    · rw [b1, ob_s, if_pos rfl, b3, ob_s, z_puc (by omega)]
    · rw [b2, ob_s, if_pos rfl, b4, ob_s, z_pum (by omega), ob_s, nI_1]
theorem i_cmp {u w : Int32} (hz : cs.2.2.2.2 = nI sz) (hsz : sz ≤ 80) (hi : i < sz) (hm : m < 512) (hM : MUR c) (hs : s < 60) (hp : PcAt cs i (1, s, n, j)) (hq : MA mK m (6, n, s)) (hst : st.length + 1 < 32) (h : REL c i (w :: u :: st) bu a r) : RES cs mK c 1 bu a (nI m) r (PV c (fun v => v = 0 ∨ v = 1) (i + 1) (m + 1) st) := by
  obtain ⟨aL, aS, aV, r4, rS, rV, rM, rfl, rfl, h1, h2, h3, h4, h5, h6, h7⟩ := h
  obtain ⟨p1, p2, p3, p4⟩ := hp
  dsimp only at p1 p2
  have hg := z_gd (n := i) (N := 80) (by omega) (by omega)
  have hin := z_nat (n := i) (by omega)
  have hg' : ¬ (nI i < 0 ∨ 80 ≤ i) := by rw [hin] at hg; exact hg
  have p3 := p3 (.inl (by dsimp only; omega))
  have p4 := p4 (by dsimp only; omega)
  dsimp only at p3 p4
  obtain ⟨t1, t2⟩ := h3.top
  obtain ⟨t3, t4⟩ := t2.top
  obtain ⟨t5, t6⟩ := h4.top
  obtain ⟨t7, t8⟩ := t6.top
  rw [List.length_cons] at t1 t5
  have hgm := z_gd (n := m) (N := 512) hm (by omega)
  have hmn := z_nat (n := m) (by omega)
  have hgm' : ¬ (nI m < 0 ∨ 512 ≤ m) := by rw [hmn] at hgm; exact hgm
  have e1 := z_rea (cs := cs) (aR := 0) (aB := nI bu) (aL := aL) (aS := aS) (aV := aV) (aH := nI st.length) (aP := nI (i + 1)) (aO := -1) (aT := nI c.1) (aC := c.2.1) (aI := c.2.2.1) (i := i) (s := s) (by omega) p3
  have e2 := z_nub (cs := cs) (i := i) (s := s) (n := n) (cg := c.2.1) (ins := c.2.2.1) (by omega) p3 p4
  obtain ⟨v, b1, b2, b3⟩ := z_cmr (opv c s n) u w
  refine ⟨1, _, bu, nI (m + 1), _, Nat.le_refl _, by omega, CGO.step hz hi hsz (a' := (0, nI bu, aL ||| ((1 : Int64) <<< ((nI s).toInt64 &&& 63)), upd aS st.length v, aV, nI (st.length + 1), nI (i + 1), -1, nI c.1, c.2.1, c.2.2.1)) ?_, MGO.step rfl (r' := (nI (c.1 - bu), -1, 0, r4, nI (st.length + 1), upd rS st.length v, rV, upd rM s (vp_nar .boolean 1))) ?_, .inl ⟨v, b1, rfl, _, _, _, _, _, _, _, rfl, rfl, h1, h2.set hs, t4.push, t8.push, h5, h6, h7⟩⟩
  · obtain ⟨cw, ce, cn, cj, cz⟩ := cs
    dsimp only at p1
    rw [f2_step, if_neg hg, hin, p1, if_neg (by decide), if_pos (by decide), f2_compare, List.length_cons, z_ppc (by omega), ob_s]
    dsimp only
    rw [List.length_cons, z_ppc (by omega), ob_s]
    dsimp only
    rw [e1, ob_s]
    dsimp only
    rw [e2, ob_s, t1, t3, show f7_comparison (if nI s = c.2.1 then c.2.2.1 else nI n) u w = some v from b2, ob_s]
    rcases b1 with rfl | rfl
    · rw [if_pos rfl, z_puc (by omega)]; rfl
    · rw [if_neg (by decide), z_puc (by omega)]; rfl
  · rw [z_exs hM hm hs rfl hq]
    obtain ⟨q1, q2, q3⟩ := hq
    have hcal : f8_compare (nI m) (opv c s n) (nI (c.1 - bu), -1, 0, r4, nI (w :: u :: st).length, rS, rV, upd rM s (vp_nar .boolean 1)) = some (nI (m + 1), (nI (c.1 - bu), -1, 0, r4, nI (st.length + 1), upd rS st.length v, rV, upd rM s (vp_nar .boolean 1))) := by
      have hl2 : (u :: st).length < 64 := by rw [List.length_cons]; omega
      rw [f8_compare, List.length_cons, z_ppm hl2, ob_s]
      dsimp only
      rw [List.length_cons, z_ppm (by omega), ob_s]
      dsimp only
      rw [t5, t7, b3, ob_s]
      rcases b1 with rfl | rfl
      · rw [if_pos rfl, z_pum (by omega), nI_1]; rfl
      · rw [if_neg (by decide), z_pum (by omega), nI_1]; rfl
    unfold X48
    unfold opv at hcal
    obtain ⟨fu, cg, ins, mm, ⟨l1, l2, l3, l4, l5, l6⟩, x, y⟩ := c
    obtain ⟨k1, k2, k3, k4⟩ := mK
    dsimp only at q1 q2 hM hcal ⊢
    rw [f8_execute_L48, if_neg hgm, hmn, q1, if_neg (by decide), if_neg (by decide), if_neg (by decide), if_neg (by decide), if_neg (by decide), if_pos (by decide), q2]
    by_cases w : nI s = cg
    · rcases hM with ⟨e1, e2⟩ | ⟨u, e1, e2, e3, e4, e5⟩
      · dsimp only at e1
        rw [e1] at w
        exact absurd w (z_m1 (by omega))
      · dsimp only at e3 e4 e5
        rw [if_pos w] at hcal
        rw [if_pos w, if_neg (by decide), e3, if_neg (z_gd e2 (by omega)), z_nat (n := u) (by omega), e5, hcal]
        rfl
    · rw [if_neg w] at hcal
      rw [if_neg w, if_pos rfl, if_neg hgm', hcal]
      rfl
/-- & and |: behind the left side -/
theorem i_dec (hz : cs.2.2.2.2 = nI sz) (hsz : sz ≤ 80) (hi : i < sz) (hm : m < 512) (hM : MUR c) (hs : s < 60) (hn : n = 38 ∨ n = 124) (hov : nI s = c.2.1 → c.2.2.1 = nI (162 - n)) (hp : PcAt cs i (2, s, n, j)) (hq : MA mK m (shK n, jm, s)) (hst : st.length < 32) (hv : v = 0 ∨ v = 1) (h : REL c i (v :: st) bu a r) : RES cs mK c 1 bu a (nI m) r (fun bu' a' pc' r' => (pc' = nI jm ∧ REL c j (v :: st) bu' a' r') ∨ PN c (i + 1) (m + 1) st bu' a' pc' r') := by
  obtain ⟨aL, aS, aV, r4, rS, rV, rM, rfl, rfl, h1, h2, h3, h4, h5, h6, h7⟩ := h
  obtain ⟨p1, p2, p3, p4⟩ := hp
  dsimp only at p1 p2
  have hg := z_gd (n := i) (N := 80) (by omega) (by omega)
  have hin := z_nat (n := i) (by omega)
  have hg' : ¬ (nI i < 0 ∨ 80 ≤ i) := by rw [hin] at hg; exact hg
  have p3 := p3 (.inl (by dsimp only; omega))
  have p4 := p4 (by dsimp only; omega)
  dsimp only at p3 p4
  obtain ⟨t1, t2⟩ := h3.top
  obtain ⟨t3, t4⟩ := h4.top
  have hgm := z_gd (n := m) (N := 512) hm (by omega)
  have hmn := z_nat (n := m) (by omega)
  have hgm' : ¬ (nI m < 0 ∨ 512 ≤ m) := by rw [hmn] at hgm; exact hgm
  have e1 := z_rea (cs := cs) (aR := 0) (aB := nI bu) (aL := aL) (aS := aS) (aV := aV) (aH := nI st.length) (aP := nI (i + 1)) (aO := -1) (aT := nI c.1) (aC := c.2.1) (aI := c.2.2.1) (i := i) (s := s) (by omega) p3
  have e2 := z_nub (cs := cs) (i := i) (s := s) (n := n) (cg := c.2.1) (ins := c.2.2.1) (by omega) p3 p4
  -- does it go behind the right side?
  have key : ∃ y0 : Int32, (y0 = 0 ∨ y0 = 1) ∧ ((opv c s n = 38 → y0 = 0) ∧ (¬ opv c s n = 38 → y0 = 1)) ∧ ((if (if nI s = c.2.1 then (1 : Int32) else 0) = 0 then (1 : Int32) else 0) = 1 - y0 → n = 38 → True) := by
    by_cases w : opv c s n = 38
    · exact ⟨0, .inl rfl, ⟨fun _ => rfl, fun q => absurd w q⟩, fun _ _ => trivial⟩
    · exact ⟨1, .inr rfl, ⟨fun q => absurd q w, fun _ => rfl⟩, fun _ _ => trivial⟩
  obtain ⟨y0, hy, ⟨hy1, hy2⟩, _⟩ := key
  have l31 : ∀ cs' : CoS, cs' = cs → f2_decide_L31 cs'.1 cs'.2.1 cs'.2.2.1 cs'.2.2.2.1 cs'.2.2.2.2 (nI i) v y0 (0, nI bu, aL, aS, aV, nI st.length, nI (i + 1), -1, nI c.1, c.2.1, c.2.2.1) = some (if v = y0 then (0, nI bu, aL ||| ((1 : Int64) <<< ((nI s).toInt64 &&& 63)), upd aS st.length v, aV, nI (st.length + 1), nI j, -1, nI c.1, c.2.1, c.2.2.1) else (0, nI bu, aL ||| ((1 : Int64) <<< ((nI s).toInt64 &&& 63)), aS, aV, nI st.length, nI (i + 1), -1, nI c.1, c.2.1, c.2.2.1)) := by
    intro cs' e
    subst e
    obtain ⟨cw, ce, cn, cj, cz⟩ := cs'
    dsimp only at p2 ⊢
    rw [f2_decide_L31, e1, ob_s]
    dsimp only
    by_cases w : v = y0
    · rw [if_pos w, if_pos w, z_puc hst, ob_s]
      dsimp only
      rw [if_neg hg, hin, p2]
    · rw [if_neg w, if_neg w]
  have ec : f2_step (nI i) cs (0, nI bu, aL, aS, aV, nI (v :: st).length, nI (i + 1), -1, nI c.1, c.2.1, c.2.2.1) = some (if v = y0 then (0, nI bu, aL ||| ((1 : Int64) <<< ((nI s).toInt64 &&& 63)), upd aS st.length v, aV, nI (st.length + 1), nI j, -1, nI c.1, c.2.1, c.2.2.1) else (0, nI bu, aL ||| ((1 : Int64) <<< ((nI s).toInt64 &&& 63)), aS, aV, nI st.length, nI (i + 1), -1, nI c.1, c.2.1, c.2.2.1)) := by
    have l31 := l31 cs rfl
    obtain ⟨cw, ce, cn, cj, cz⟩ := cs
    dsimp only at p1 l31
    have dec : f2_decide (nI i) (cw, ce, cn, cj, cz) (0, nI bu, aL, aS, aV, nI (v :: st).length, nI (i + 1), -1, nI c.1, c.2.1, c.2.2.1) = some (if v = y0 then (0, nI bu, aL ||| ((1 : Int64) <<< ((nI s).toInt64 &&& 63)), upd aS st.length v, aV, nI (st.length + 1), nI j, -1, nI c.1, c.2.1, c.2.2.1) else (0, nI bu, aL ||| ((1 : Int64) <<< ((nI s).toInt64 &&& 63)), aS, aV, nI st.length, nI (i + 1), -1, nI c.1, c.2.1, c.2.2.1)) := by
      rw [f2_decide, List.length_cons, z_ppc hst, ob_s]
      dsimp only
      rw [e2, ob_s, t1]
      show (if opv c s n = 38 then _ else _) = _
      by_cases w : opv c s n = 38
      · have e0 := hy1 w
        subst e0
        exact (if_pos w).trans l31
      · have e0 := hy2 w
        subst e0
        exact (if_neg w).trans l31
    rw [f2_step, if_neg hg, hin, p1, if_neg (by decide), if_neg (by decide), if_pos (by decide), dec]
    rfl
  have em : f8_execute (nI m) c.2.2.2.1 c.2.2.2.2.2.1 c.2.2.2.2.2.2 mK c.2.2.2.2.1 (nI (c.1 - bu), -1, 0, r4, nI (v :: st).length, rS, rV, rM) = some (if v = y0 then (nI jm, (nI (c.1 - bu), -1, 0, r4, nI (st.length + 1), upd rS st.length v, rV, upd rM s (vp_nar .boolean 1))) else (nI (m + 1), (nI (c.1 - bu), -1, 0, r4, nI st.length, rS, rV, upd rM s (vp_nar .boolean 1)))) := by
    have hk : hasSt (shK n) = true := by rcases hn with rfl | rfl <;> rfl
    rw [z_exs hM hm hs hk hq]
    obtain ⟨q1, q2, q3⟩ := hq
    dsimp only at q1 q2
    have cut : ∀ y1 : Int32, (y1 = 1 ∧ y0 = 0 ∨ y1 = 0 ∧ y0 = 1) → f8_cut (nI m) y1 mK (nI (c.1 - bu), -1, 0, r4, nI (v :: st).length, rS, rV, upd rM s (vp_nar .boolean 1)) = some (if v = y0 then (nI jm, (nI (c.1 - bu), -1, 0, r4, nI (st.length + 1), upd rS st.length v, rV, upd rM s (vp_nar .boolean 1))) else (nI (m + 1), (nI (c.1 - bu), -1, 0, r4, nI st.length, rS, rV, upd rM s (vp_nar .boolean 1)))) := by
      intro y1 hy1
      obtain ⟨k1, k2, k3, k4⟩ := mK
      dsimp only at q2
      rw [f8_cut, List.length_cons, z_ppm (by omega), ob_s]
      dsimp only
      rw [t3]
      rcases hy1 with ⟨rfl, rfl⟩ | ⟨rfl, rfl⟩
      · rcases hv with rfl | rfl
        · rw [if_pos rfl, if_pos rfl, f8_cut_L15, if_pos rfl, z_pum (by omega), ob_s]
          dsimp only
          rw [if_neg hgm, hmn, q2]
        · rw [if_neg (by decide), if_neg (by decide), f8_cut_L15, if_neg (by decide), nI_1]
      · rcases hv with rfl | rfl
        · rw [if_pos rfl, if_neg (by decide), f8_cut_L15, if_neg (by decide), nI_1]
        · rw [if_neg (by decide), if_pos rfl, f8_cut_L15, if_pos rfl, z_pum (by omega), ob_s]
          dsimp only
          rw [if_neg hgm, hmn, q2]
    unfold X48
    unfold opv at hy1 hy2
    obtain ⟨fu, cg, ins, mm, ⟨l1, l2, l3, l4, l5, l6⟩, x, y⟩ := c
    obtain ⟨k1, k2, k3, k4⟩ := mK
    dsimp only at q1 hov hy1 hy2 cut ⊢
    rw [f8_execute_L48, if_neg hgm, hmn, q1]
    rcases hn with rfl | rfl
    · rw [show nI (shK 38) = nI 7 from rfl, if_neg (by decide), if_neg (by decide), if_neg (by decide), if_neg (by decide), if_neg (by decide), if_neg (by decide), if_pos (by decide)]
      by_cases w : nI s = cg
      · rw [if_pos w] at hy1 hy2
        rw [if_pos w, if_neg (by decide), cut 0 (.inr ⟨rfl, hy2 (by rw [hov w]; decide)⟩)]
        rfl
      · rw [if_neg w] at hy1 hy2
        rw [if_neg w, if_pos rfl, cut 1 (.inl ⟨rfl, hy1 rfl⟩)]
        rfl
    · rw [show nI (shK 124) = nI 15 from rfl, if_neg (by decide), if_neg (by decide), if_neg (by decide), if_neg (by decide), if_neg (by decide), if_neg (by decide), if_neg (by decide), if_neg (by decide), if_neg (by decide), if_neg (by decide), if_neg (by decide), if_neg (by decide), if_neg (by decide), if_pos (by decide)]
      by_cases w : nI s = cg
      · rw [if_pos w] at hy1 hy2
        rw [if_pos w, cut 1 (.inl ⟨rfl, hy1 (by rw [hov w]; rfl)⟩)]
        rfl
      · rw [if_neg w] at hy1 hy2
        rw [if_neg w, cut 0 (.inr ⟨rfl, hy2 (by decide)⟩)]
        rfl
  by_cases w : v = y0
  · rw [if_pos w] at ec em
    exact ⟨1, _, bu, _, _, Nat.le_refl _, by omega, CGO.step hz hi hsz ec, MGO.step rfl em, .inl (.inl ⟨rfl, _, _, _, _, _, _, _, rfl, rfl, h1, h2.set hs, t2.push, t4.push, h5, h6, h7⟩)⟩
  · rw [if_neg w] at ec em
    exact ⟨1, _, bu, _, _, Nat.le_refl _, by omega, CGO.step hz hi hsz ec, MGO.step rfl em, .inl (.inr ⟨rfl, _, _, _, _, _, _, _, rfl, rfl, h1, h2.set hs, t2, t4, h5, h6, h7⟩)⟩
/-- the way into a while's row -/
theorem i_do (hz : cs.2.2.2.2 = nI sz) (hsz : sz ≤ 80) (hi : i < sz) (hm : m + 1 < 512) (hM : MUR c) (hfu : c.1 ≤ 50) (hp : PcAt cs i (13, s, n, j)) (hq : MA mK m (9, jm, 0)) (hq2 : MA mK (m + 1) (11, 0, 0)) (hst : st.length < 32) (h : REL c i (v :: st) bu a r) : RES cs mK c 1 bu a (nI m) r (PN c j jm st) ∨ ∃ a' r', CGO cs a a' 1 ∧ MGO mK c (nI m) r (nI (m + 2)) r' ∧ REL c (i + 1) st (bu + 1) a' r' := by
  obtain ⟨aL, aS, aV, r4, rS, rV, rM, rfl, rfl, h1, h2, h3, h4, h5, h6, h7⟩ := h
  obtain ⟨p1, p2, p3, p4⟩ := hp
  dsimp only at p1 p2
  have hg := z_gd (n := i) (N := 80) (by omega) (by omega)
  have hin := z_nat (n := i) (by omega)
  have hg' : ¬ (nI i < 0 ∨ 80 ≤ i) := by rw [hin] at hg; exact hg
  obtain ⟨t1, t2⟩ := h3.top
  obtain ⟨t3, t4⟩ := h4.top
  have hgm := z_gd (n := m) (N := 512) (by omega) (by omega)
  have hmn := z_nat (n := m) (by omega)
  have hgm' : ¬ (nI m < 0 ∨ 512 ≤ m) := by rw [hmn] at hgm; exact hgm
  have ec : f2_step (nI i) cs (0, nI bu, aL, aS, aV, nI (v :: st).length, nI (i + 1), -1, nI c.1, c.2.1, c.2.2.1) = some (if v = 0 then (0, nI bu, aL, aS, aV, nI st.length, nI j, -1, nI c.1, c.2.1, c.2.2.1) else if bu = c.1 then (0, nI bu, aL, aS, aV, nI st.length, nI (i + 1), 3, nI c.1, c.2.1, c.2.2.1) else (0, nI (bu + 1), aL, aS, aV, nI st.length, nI (i + 1), -1, nI c.1, c.2.1, c.2.2.1)) := by
    obtain ⟨cw, ce, cn, cj, cz⟩ := cs
    dsimp only at p1 p2
    rw [f2_step, if_neg hg, hin, p1, if_neg (by decide), if_neg (by decide), if_neg (by decide), if_neg (by decide), if_neg (by decide), if_neg (by decide), if_neg (by decide), if_neg (by decide), if_neg (by decide), if_neg (by decide), if_neg (by decide), if_pos (by decide), f2_enterBody, List.length_cons, z_ppc hst, ob_s]
    dsimp only
    rw [t1]
    by_cases w : v = 0
    · rw [if_pos w, if_pos w, if_neg hg, hin, p2]; rfl
    · rw [if_neg w, if_neg w]
      by_cases w2 : bu = c.1
      · rw [if_pos w2, if_pos (by rw [w2])]; rfl
      · rw [if_neg w2, if_neg (fun q => w2 ((nI_eq (by omega) (by omega)).mp q)), nI_1]; rfl
  have em : f8_execute (nI m) c.2.2.2.1 c.2.2.2.2.2.1 c.2.2.2.2.2.2 mK c.2.2.2.2.1 (nI (c.1 - bu), -1, 0, r4, nI (v :: st).length, rS, rV, rM) = some (if v = 0 then nI jm else nI (m + 1), (nI (c.1 - bu), -1, 0, r4, nI st.length, rS, rV, rM)) := by
    rw [z_exn (by omega) rfl hq hM]
    obtain ⟨q1, q2, q3⟩ := hq
    unfold X48
    obtain ⟨fu, cg, ins, mm, ⟨l1, l2, l3, l4, l5, l6⟩, x, y⟩ := c
    obtain ⟨k1, k2, k3, k4⟩ := mK
    dsimp only at q1 q2 ⊢
    rw [f8_execute_L48, if_neg hgm, hmn, q1, if_neg (by decide), if_neg (by decide), if_neg (by decide), if_neg (by decide), if_neg (by decide), if_neg (by decide), if_neg (by decide), if_neg (by decide), if_pos (by decide), List.length_cons, z_ppm (by omega), ob_s]
    dsimp only
    rw [t3, q2, nI_1]
    by_cases w : v = 0
    · rw [if_pos w, if_pos w, if_neg hgm']
    · rw [if_neg w, if_neg w]
  have em2 : f8_execute (nI (m + 1)) c.2.2.2.1 c.2.2.2.2.2.1 c.2.2.2.2.2.2 mK c.2.2.2.2.1 (nI (c.1 - bu), -1, 0, r4, nI st.length, rS, rV, rM) = some (if bu = c.1 then (0, (nI (c.1 - bu), 3, 0, r4, nI st.length, rS, rV, rM)) else (nI (m + 2), (nI (c.1 - (bu + 1)), -1, 0, r4, nI st.length, rS, rV, rM))) := by
    rw [z_exn hm rfl hq2 hM]
    obtain ⟨q1, q2, q3⟩ := hq2
    have hgm2 := z_gd (n := m + 1) (N := 512) hm (by omega)
    unfold X48
    obtain ⟨fu, cg, ins, mm, ⟨l1, l2, l3, l4, l5, l6⟩, x, y⟩ := c
    obtain ⟨k1, k2, k3, k4⟩ := mK
    dsimp only at q1 q2 h1 hfu ⊢
    rw [f8_execute_L48, if_neg hgm2, z_nat (n := m + 1) (by omega), q1, if_neg (by decide), if_neg (by decide), if_neg (by decide), if_neg (by decide), if_neg (by decide), if_neg (by decide), if_neg (by decide), if_neg (by decide), if_neg (by decide), if_neg (by decide), if_pos (by decide), f8_burn]
    by_cases w2 : bu = fu
    · rw [if_pos w2, if_pos (by rw [w2, Nat.sub_self]; rfl)]; rfl
    · rw [if_neg w2, if_neg (nl_ne (fu - bu) 0 0 rfl (by omega) (by omega) (by omega)), nI_1]
      have : nI (fu - bu) - 1 = nI (fu - (bu + 1)) := by
        rw [show fu - bu = (fu - (bu + 1)) + 1 by omega, ← nI_1, Int32.add_sub_cancel]
      rw [this]
      rfl
  by_cases w : v = 0
  · rw [if_pos w] at ec em
    exact .inl ⟨1, _, bu, _, _, Nat.le_refl _, by omega, CGO.step hz hi hsz ec, MGO.step rfl em, .inl ⟨rfl, _, _, _, _, _, _, _, rfl, rfl, h1, h2, t2, t4, h5, h6, h7⟩⟩
  · rw [if_neg w] at ec em
    by_cases w2 : bu = c.1
    · rw [if_pos w2] at ec em2
      exact .inl ⟨1, _, bu, _, _, Nat.le_refl _, by omega, CGO.step hz hi hsz ec, (MGO.step rfl em).trans (MGO.step rfl em2), .inr ⟨3, by omega, rfl, h2, rfl, rfl, h1, rfl, fun h => absurd h (by omega), fun _ => rfl⟩⟩
    · rw [if_neg w2] at ec em2
      exact .inr ⟨_, _, CGO.step hz hi hsz ec, (MGO.step rfl em).trans (MGO.step rfl em2), _, _, _, _, _, _, _, rfl, rfl, by omega, h2, t2, t4, h5, h6, h7⟩
end
