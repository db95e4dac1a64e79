section
variable {cs : CoS} {mK : MdK} {c : RC} {i m sz bu s n j jm : Nat} {v : Int32} {st : List Int32} {a : MaS} {r : MdR}
theorem i_load (hz : cs.2.2.2.2 = nI sz) (hsz : sz ≤ 80) (hi : i < sz) (hm : m < 512) (hM : MUR c) (hn : n < 8) (hp : PcAt cs i (5, s, n, j)) (hq : MA mK m (if n < 6 then (4, n, 0) else (3, n + 114, 0))) (hst : st.length < 32) (h : REL c i st bu a r) : RES cs mK c 1 bu a (nI m) r (PV c (fun _ => True) (i + 1) (m + 1) st) := by
  obtain ⟨aL, aS, aV, r4, rS, rV, rM, rfl, rfl, h1, h2, h3, h4, h5, h6, h7⟩ := h
  obtain ⟨p1, p2, p3, p4⟩ := hp
  dsimp only at p1 p2
  have hg := z_gd (n := i) (N := 80) (by omega) (by omega)
  have hin := z_nat (n := i) (by omega)
  have hg' : ¬ (nI i < 0 ∨ 80 ≤ i) := by rw [hin] at hg; exact hg
  have p4 := p4 (by dsimp only; omega)
  dsimp only at p4
  have hgm := z_gd (n := m) (N := 512) hm (by omega)
  have hmn := z_nat (n := m) (by omega)
  have hgm' : ¬ (nI m < 0 ∨ 512 ≤ m) := by rw [hmn] at hgm; exact hgm
  refine ⟨1, _, bu, nI (m + 1), _, Nat.le_refl _, by omega, CGO.step hz hi hsz (a' := (0, nI bu, aL, upd aS st.length (aV n), aV, nI (st.length + 1), nI (i + 1), -1, nI c.1, c.2.1, c.2.2.1)) ?_, MGO.step rfl (r' := (nI (c.1 - bu), -1, 0, r4, nI (st.length + 1), upd rS st.length (aV n), rV, rM)) ?_, .inl ⟨aV n, trivial, rfl, _, _, _, _, _, _, _, rfl, rfl, h1, h2, h3.push, h4.push, h5, h6, h7⟩⟩
  · obtain ⟨cw, ce, cn, cj, cz⟩ := cs
    dsimp only at p1 p4
    rw [f2_step, if_neg hg, hin, p1, if_neg (by decide), if_neg (by decide), if_neg (by decide), if_neg (by decide), if_neg (by decide), if_pos (by decide), if_neg hg', p4, if_neg (z_gd (n := n) (N := 8) hn (by omega)), z_nat (n := n) (by omega), z_puc hst]
    rfl
  · by_cases w : n < 6
    · rw [if_pos w] at hq
      rw [z_exn hm rfl hq hM]
      obtain ⟨q1, q2, q3⟩ := hq
      unfold X48
      obtain ⟨fu, cg, ins, mm, ⟨l1, l2, l3, l4, l5, l6⟩, x, y⟩ := c
      obtain ⟨k1, k2, k3, k4⟩ := mK
      dsimp only at q1 q2 ⊢
      rw [f8_execute_L48, if_neg hgm, hmn, q1, if_neg (by decide), if_neg (by decide), if_neg (by decide), if_pos (by decide), if_neg hgm', q2, if_neg (z_gd (n := n) (N := 6) w (by omega)), z_nat (n := n) (by omega), h5 n w, z_pum (by omega), nI_1]
      rfl
    · rw [if_neg w] at hq
      rw [z_exn hm rfl hq hM]
      obtain ⟨q1, q2, q3⟩ := hq
      unfold X48
      obtain ⟨fu, cg, ins, mm, ⟨l1, l2, l3, l4, l5, l6⟩, x, y⟩ := c
      obtain ⟨k1, k2, k3, k4⟩ := mK
      dsimp only at q1 q2 h6 h7 ⊢
      rw [f8_execute_L48, if_neg hgm, hmn, q1, if_neg (by decide), if_neg (by decide), if_pos (by decide), if_neg hgm', q2]
      have hn2 : n = 6 ∨ n = 7 := by omega
      rcases hn2 with rfl | rfl
      · rw [if_pos (by decide), h6, z_pum (by omega), nI_1]
        rfl
      · rw [if_neg (by decide), h7, z_pum (by omega), nI_1]
        rfl
theorem i_store (hz : cs.2.2.2.2 = nI sz) (hsz : sz ≤ 80) (hi : i < sz) (hm : m < 512) (hM : MUR c) (hn : n < 6) (hp : PcAt cs i (7, s, n, j)) (hq : MA mK m (8, n, 0)) (hst : st.length < 32) (h : REL c i (v :: st) bu a r) : RES cs mK c 1 bu a (nI m) r (PN c (i + 1) (m + 1) st) := by
  obtain ⟨aL, aS, aV, r4, rS, rV, rM, rfl, rfl, h1, h2, h3, h4, h5, h6, h7⟩ := h
  obtain ⟨p1, p2, p3, p4⟩ := hp
  dsimp only at p1 p2
  have hg := z_gd (n := i) (N := 80) (by omega) (by omega)
  have hin := z_nat (n := i) (by omega)
  have hg' : ¬ (nI i < 0 ∨ 80 ≤ i) := by rw [hin] at hg; exact hg
  have p4 := p4 (by dsimp only; omega)
  dsimp only at p4
  obtain ⟨t1, t2⟩ := h3.top
  obtain ⟨t3, t4⟩ := h4.top
  have hgm := z_gd (n := m) (N := 512) hm (by omega)
  have hmn := z_nat (n := m) (by omega)
  have hgm' : ¬ (nI m < 0 ∨ 512 ≤ m) := by rw [hmn] at hgm; exact hgm
  refine ⟨1, _, bu, nI (m + 1), _, Nat.le_refl _, by omega, CGO.step hz hi hsz (a' := (0, nI bu, aL, aS, upd aV n v, nI st.length, nI (i + 1), -1, nI c.1, c.2.1, c.2.2.1)) ?_, MGO.step rfl (r' := (nI (c.1 - bu), -1, 0, r4, nI st.length, rS, upd rV n v, rM)) ?_, .inl ⟨rfl, _, _, _, _, _, _, _, rfl, rfl, h1, h2, t2, t4, ?_, (z_upd_n (by omega)).trans h6, (z_upd_n (by omega)).trans h7⟩⟩
  · obtain ⟨cw, ce, cn, cj, cz⟩ := cs
    dsimp only at p1 p4
    rw [f2_step, if_neg hg, hin, p1, if_neg (by decide), if_neg (by decide), if_neg (by decide), if_neg (by decide), if_neg (by decide), if_neg (by decide), if_pos (by decide), if_neg hg', List.length_cons, z_ppc hst, ob_s]
    dsimp only
    rw [p4, if_neg (z_gd (n := n) (N := 8) (by omega) (by omega)), z_nat (n := n) (by omega), t1]
  · rw [z_exn hm rfl hq hM]
    obtain ⟨q1, q2, q3⟩ := hq
    unfold X48
    obtain ⟨fu, cg, ins, mm, ⟨l1, l2, l3, l4, l5, l6⟩, x, y⟩ := c
    obtain ⟨k1, k2, k3, k4⟩ := mK
    dsimp only at q1 q2 ⊢
    rw [f8_execute_L48, if_neg hgm, hmn, q1, if_neg (by decide), if_neg (by decide), if_neg (by decide), if_neg (by decide), if_neg (by decide), if_neg (by decide), if_neg (by decide), if_pos (by decide), if_neg hgm', List.length_cons, z_ppm (by omega), ob_s]
    dsimp only
    rw [q2, if_neg (z_gd (n := n) (N := 6) hn (by omega)), z_nat (n := n) (by omega), t3, nI_1]
  · intro j hj
    by_cases w : j = n
    · rw [w, z_upd_e, z_upd_e]
    · rw [z_upd_n w, z_upd_n w, h5 j hj]
theorem i_check (hz : cs.2.2.2.2 = nI sz) (hsz : sz ≤ 80) (hi : i < sz) (hm : m < 512) (hM : MUR c) (hp : PcAt cs i (8, s, n, j)) (hq : MA mK m (12, 0, 0)) (hst : st.length < 32) (h : REL c i (v :: st) bu a r) : RES cs mK c 1 bu a (nI m) r (PN c (i + 1) (m + 1) st) := by
  obtain ⟨aL, aS, aV, r4, rS, rV, rM, rfl, rfl, h1, h2, h3, h4, h5, h6, h7⟩ := h
  obtain ⟨p1, p2, p3, p4⟩ := hp
  dsimp only at p1 p2
  have hg := z_gd (n := i) (N := 80) (by omega) (by omega)
  have hin := z_nat (n := i) (by omega)
  have hg' : ¬ (nI i < 0 ∨ 80 ≤ i) := by rw [hin] at hg; exact hg
  obtain ⟨t1, t2⟩ := h3.top
  obtain ⟨t3, t4⟩ := h4.top
  have hgm := z_gd (n := m) (N := 512) hm (by omega)
  have hmn := z_nat (n := m) (by omega)
  have hgm' : ¬ (nI m < 0 ∨ 512 ≤ m) := by rw [hmn] at hgm; exact hgm
  have ec : f2_step (nI i) cs (0, nI bu, aL, aS, aV, nI (v :: st).length, nI (i + 1), -1, nI c.1, c.2.1, c.2.2.1) = some (0, nI bu, aL, aS, aV, nI st.length, nI (i + 1), (if v = 0 then 2 else -1), nI c.1, c.2.1, c.2.2.1) := by
    obtain ⟨cw, ce, cn, cj, cz⟩ := cs
    dsimp only at p1
    rw [f2_step, if_neg hg, hin, p1, if_neg (by decide), if_neg (by decide), if_neg (by decide), if_neg (by decide), if_neg (by decide), if_neg (by decide), if_neg (by decide), if_pos (by decide), f2_check, List.length_cons, z_ppc hst, ob_s]
    dsimp only
    rw [t1]
    by_cases w : v = 0
    · rw [if_pos w, if_pos w]; rfl
    · rw [if_neg w, if_neg w]; rfl
  have em : f8_execute (nI m) c.2.2.2.1 c.2.2.2.2.2.1 c.2.2.2.2.2.2 mK c.2.2.2.2.1 (nI (c.1 - bu), -1, 0, r4, nI (v :: st).length, rS, rV, rM) = some (if v = 0 then 0 else nI (m + 1), (nI (c.1 - bu), (if v = 0 then 2 else -1), 0, r4, nI st.length, rS, rV, rM)) := by
    rw [z_exn hm rfl hq hM]
    obtain ⟨q1, q2, q3⟩ := hq
    unfold X48
    obtain ⟨fu, cg, ins, mm, ⟨l1, l2, l3, l4, l5, l6⟩, x, y⟩ := c
    obtain ⟨k1, k2, k3, k4⟩ := mK
    dsimp only at q1 q2 ⊢
    rw [f8_execute_L48, if_neg hgm, hmn, q1, if_neg (by decide), if_neg (by decide), if_neg (by decide), if_neg (by decide), if_neg (by decide), if_neg (by decide), if_neg (by decide), if_neg (by decide), if_neg (by decide), if_neg (by decide), if_neg (by decide), if_pos (by decide), List.length_cons, z_ppm (by omega), ob_s]
    dsimp only
    rw [t3, nI_1]
    by_cases w : v = 0
    · rw [if_pos w, if_pos w, if_pos w]; rfl
    · rw [if_neg w, if_neg w, if_neg w]
  refine ⟨1, _, bu, _, _, Nat.le_refl _, by omega, CGO.step hz hi hsz ec, MGO.step rfl em, ?_⟩
  by_cases w : v = 0
  · rw [if_pos w, if_pos w]
    exact .inr ⟨2, by omega, rfl, h2, rfl, rfl, h1, rfl, fun h => absurd h (by omega), fun _ => rfl⟩
  · rw [if_neg w, if_neg w]
    exact .inl ⟨rfl, _, _, _, _, _, _, _, rfl, rfl, h1, h2, t2, t4, h5, h6, h7⟩
theorem i_ret (hz : cs.2.2.2.2 = nI sz) (hsz : sz ≤ 80) (hi : i < sz) (hm : m < 512) (hM : MUR c) (hp : PcAt cs i (9, s, n, j)) (hq : MA mK m (13, 0, 0)) (hst : st.length < 32) (h : REL c i (v :: st) bu a r) {post : Nat → MaS → Int32 → MdR → Prop} : RES cs mK c 1 bu a (nI m) r post := by
  obtain ⟨aL, aS, aV, r4, rS, rV, rM, rfl, rfl, h1, h2, h3, h4, h5, h6, h7⟩ := h
  obtain ⟨p1, p2, p3, p4⟩ := hp
  dsimp only at p1 p2
  have hg := z_gd (n := i) (N := 80) (by omega) (by omega)
  have hin := z_nat (n := i) (by omega)
  have hg' : ¬ (nI i < 0 ∨ 80 ≤ i) := by rw [hin] at hg; exact hg
  obtain ⟨t1, t2⟩ := h3.top
  obtain ⟨t3, t4⟩ := h4.top
  have hgm := z_gd (n := m) (N := 512) hm (by omega)
  have hmn := z_nat (n := m) (by omega)
  have hgm' : ¬ (nI m < 0 ∨ 512 ≤ m) := by rw [hmn] at hgm; exact hgm
  refine ⟨1, _, bu, 0, _, Nat.le_refl _, by omega, CGO.step hz hi hsz (a' := (v, nI bu, aL, aS, aV, nI st.length, nI (i + 1), 0, nI c.1, c.2.1, c.2.2.1)) ?_, MGO.step rfl (r' := (nI (c.1 - bu), 0, v, r4, nI st.length, rS, rV, rM)) ?_, .inr ⟨0, by omega, rfl, h2, rfl, rfl, h1, rfl, fun _ => rfl, fun h => absurd rfl h⟩⟩
  · obtain ⟨cw, ce, cn, cj, cz⟩ := cs
    dsimp only at p1
    rw [f2_step, if_neg hg, hin, p1, if_neg (by decide), if_neg (by decide), if_neg (by decide), if_neg (by decide), if_neg (by decide), if_neg (by decide), if_neg (by decide), if_neg (by decide), if_pos (by decide), List.length_cons, z_ppc hst, ob_s]
    dsimp only
    rw [t1]
  · rw [z_exn hm rfl hq hM]
    obtain ⟨q1, q2, q3⟩ := hq
    unfold X48
    obtain ⟨fu, cg, ins, mm, ⟨l1, l2, l3, l4, l5, l6⟩, x, y⟩ := c
    obtain ⟨k1, k2, k3, k4⟩ := mK
    dsimp only at q1 q2 ⊢
    rw [f8_execute_L48, if_neg hgm, hmn, q1, if_neg (by decide), if_neg (by decide), if_neg (by decide), if_neg (by decide), if_neg (by decide), if_neg (by decide), if_neg (by decide), if_neg (by decide), if_neg (by decide), if_neg (by decide), if_neg (by decide), if_neg (by decide), if_pos (by decide), List.length_cons, z_ppm (by omega), ob_s]
    dsimp only
    rw [t3]
    rfl
theorem i_beg (hz : cs.2.2.2.2 = nI sz) (hsz : sz ≤ 80) (hi : i < sz) (hm : m < 512) (hM : MUR c) (hs : s < 60) (hp : PcAt cs i (4, s, n, j)) (hq : MA mK m (1, jm, s)) (h : REL c i st bu a r) : RES cs mK c 1 bu a (nI m) r (fun bu' a' pc' r' => PN c j jm st bu' a' pc' r' ∨ PN c (i + 1) (m + 1) st bu' a' pc' r') := by
  obtain ⟨aL, aS, aV, r4, rS, rV, rM, rfl, rfl, h1, h2, h3, h4, h5, h6, h7⟩ := h
  obtain ⟨p1, p2, p3, p4⟩ := hp
  dsimp only at p1 p2
  have hg := z_gd (n := i) (N := 80) (by omega) (by omega)
  have hin := z_nat (n := i) (by omega)
  have hg' : ¬ (nI i < 0 ∨ 80 ≤ i) := by rw [hin] at hg; exact hg
  have p3 := p3 (.inl (by dsimp only; omega))
  dsimp only at p3
  have hgm := z_gd (n := m) (N := 512) hm (by omega)
  have hmn := z_nat (n := m) (by omega)
  have hgm' : ¬ (nI m < 0 ∨ 512 ≤ m) := by rw [hmn] at hgm; exact hgm
  have ec : f2_step (nI i) cs (0, nI bu, aL, aS, aV, nI st.length, nI (i + 1), -1, nI c.1, c.2.1, c.2.2.1) = some (0, nI bu, aL ||| ((1 : Int64) <<< ((nI s).toInt64 &&& 63)), aS, aV, nI st.length, (if nI s = c.2.1 then nI j else nI (i + 1)), -1, nI c.1, c.2.1, c.2.2.1) := by
    have e1 := z_rea (cs := cs) (aR := 0) (aB := nI bu) (aL := aL) (aS := aS) (aV := aV) (aH := nI st.length) (aP := nI (i + 1)) (aO := -1) (aT := nI c.1) (aC := c.2.1) (aI := c.2.2.1) (i := i) (s := s) (by omega) p3
    obtain ⟨cw, ce, cn, cj, cz⟩ := cs
    dsimp only at p1 p2 p3
    rw [f2_step, if_neg hg, hin, p1, if_neg (by decide), if_neg (by decide), if_neg (by decide), if_neg (by decide), if_pos (by decide), f2_begin, e1, ob_s]
    dsimp only
    rw [if_neg hg, hin, p3]
    by_cases w : nI s = c.2.1
    · rw [if_pos w, if_pos w, if_neg hg', p2]; rfl
    · rw [if_neg w, if_neg w]; rfl
  have em : f8_execute (nI m) c.2.2.2.1 c.2.2.2.2.2.1 c.2.2.2.2.2.2 mK c.2.2.2.2.1 (nI (c.1 - bu), -1, 0, r4, nI st.length, rS, rV, rM) = some (if nI s = c.2.1 then nI jm else nI (m + 1), (nI (c.1 - bu), -1, 0, r4, nI st.length, rS, rV, upd rM s (vp_nar .boolean 1))) := by
    rw [z_exs hM hm hs rfl hq]
    obtain ⟨q1, q2, q3⟩ := hq
    unfold X48
    obtain ⟨fu, cg, ins, mm, ⟨l1, l2, l3, l4, l5, l6⟩, x, y⟩ := c
    obtain ⟨k1, k2, k3, k4⟩ := mK
    dsimp only at q1 q2 ⊢
    rw [f8_execute_L48, if_neg hgm, hmn, q1, if_pos (by decide), q2, nI_1]
    by_cases w : nI s = cg
    · rw [if_pos w, if_pos w, if_neg (by decide), if_neg hgm']
    · rw [if_neg w, if_neg w, if_pos rfl]
  refine ⟨1, _, bu, _, _, Nat.le_refl _, by omega, CGO.step hz hi hsz ec, MGO.step rfl em, .inl ?_⟩
  by_cases w : nI s = c.2.1
  · rw [if_pos w, if_pos w]
    exact .inl ⟨rfl, _, _, _, _, _, _, _, rfl, rfl, h1, h2.set hs, h3, h4, h5, h6, h7⟩
  · rw [if_neg w, if_neg w]
    exact .inr ⟨rfl, _, _, _, _, _, _, _, rfl, rfl, h1, h2.set hs, h3, h4, h5, h6, h7⟩
theorem i_then (hz : cs.2.2.2.2 = nI sz) (hsz : sz ≤ 80) (hi : i < sz) (hm : m < 512) (hM : MUR c) (hp : PcAt cs i (10, s, n, j)) (hq : MA mK m (9, jm, 0)) (hst : st.length < 32) (h : REL c i (v :: st) bu a r) : RES cs mK c 1 bu a (nI m) r (fun bu' a' pc' r' => PN c j jm st bu' a' pc' r' ∨ PN c (i + 1) (m + 1) st bu' a' pc' r') := by
  obtain ⟨aL, aS, aV, r4, rS, rV, rM, rfl, rfl, h1, h2, h3, h4, h5, h6, h7⟩ := h
  obtain ⟨p1, p2, p3, p4⟩ := hp
  dsimp only at p1 p2
  have hg := z_gd (n := i) (N := 80) (by omega) (by omega)
  have hin := z_nat (n := i) (by omega)
  have hg' : ¬ (nI i < 0 ∨ 80 ≤ i) := by rw [hin] at hg; exact hg
  obtain ⟨t1, t2⟩ := h3.top
  obtain ⟨t3, t4⟩ := h4.top
  have hgm := z_gd (n := m) (N := 512) hm (by omega)
  have hmn := z_nat (n := m) (by omega)
  have hgm' : ¬ (nI m < 0 ∨ 512 ≤ m) := by rw [hmn] at hgm; exact hgm
  have ec : f2_step (nI i) cs (0, nI bu, aL, aS, aV, nI (v :: st).length, nI (i + 1), -1, nI c.1, c.2.1, c.2.2.1) = some (0, nI bu, aL, aS, aV, nI st.length, (if v = 0 then nI j else nI (i + 1)), -1, nI c.1, c.2.1, c.2.2.1) := by
    obtain ⟨cw, ce, cn, cj, cz⟩ := cs
    dsimp only at p1 p2
    rw [f2_step, if_neg hg, hin, p1, if_neg (by decide), if_neg (by decide), if_neg (by decide), if_neg (by decide), if_neg (by decide), if_neg (by decide), if_neg (by decide), if_neg (by decide), if_neg (by decide), if_pos (by decide), List.length_cons, z_ppc hst, ob_s]
    dsimp only
    rw [t1, p2]
    by_cases w : v = 0
    · rw [if_pos w, if_pos w, if_neg hg']
    · rw [if_neg w, if_neg w]
  have em : f8_execute (nI m) c.2.2.2.1 c.2.2.2.2.2.1 c.2.2.2.2.2.2 mK c.2.2.2.2.1 (nI (c.1 - bu), -1, 0, r4, nI (v :: st).length, rS, rV, rM) = some (if v = 0 then nI jm else nI (m + 1), (nI (c.1 - bu), -1, 0, r4, nI st.length, rS, rV, rM)) := by
    rw [z_exn hm rfl hq hM]
    obtain ⟨q1, q2, q3⟩ := hq
    unfold X48
    obtain ⟨fu, cg, ins, mm, ⟨l1, l2, l3, l4, l5, l6⟩, x, y⟩ := c
    obtain ⟨k1, k2, k3, k4⟩ := mK
    dsimp only at q1 q2 ⊢
    rw [f8_execute_L48, if_neg hgm, hmn, q1, if_neg (by decide), if_neg (by decide), if_neg (by decide), if_neg (by decide), if_neg (by decide), if_neg (by decide), if_neg (by decide), if_neg (by decide), if_pos (by decide), List.length_cons, z_ppm (by omega), ob_s]
    dsimp only
    rw [t3, q2, nI_1]
    by_cases w : v = 0
    · rw [if_pos w, if_pos w, if_neg hgm']
    · rw [if_neg w, if_neg w]
  refine ⟨1, _, bu, _, _, Nat.le_refl _, by omega, CGO.step hz hi hsz ec, MGO.step rfl em, .inl ?_⟩
  by_cases w : v = 0
  · rw [if_pos w, if_pos w]
    exact .inl ⟨rfl, _, _, _, _, _, _, _, rfl, rfl, h1, h2, t2, t4, h5, h6, h7⟩
  · rw [if_neg w, if_neg w]
    exact .inr ⟨rfl, _, _, _, _, _, _, _, rfl, rfl, h1, h2, t2, t4, h5, h6, h7⟩
/-- ELSE and AGAIN: where the class goes -/
theorem z_jmp {aL : Int64} {aS aV : Nat → Int32} {w : Nat} (hw : w = 11 ∨ w = 14) (hi : i < 80) (hp : PcAt cs i (w, s, n, j)) : f2_step (nI i) cs (0, nI bu, aL, aS, aV, nI st.length, nI (i + 1), -1, nI c.1, c.2.1, c.2.2.1) = some (0, nI bu, aL, aS, aV, nI st.length, nI j, -1, nI c.1, c.2.1, c.2.2.1) := by
  obtain ⟨p1, p2, p3, p4⟩ := hp
  dsimp only at p1 p2
  have hg := z_gd (n := i) (N := 80) (by omega) (by omega)
  have hin := z_nat (n := i) (by omega)
  have hg' : ¬ (nI i < 0 ∨ 80 ≤ i) := by rw [hin] at hg; exact hg
  obtain ⟨cw, ce, cn, cj, cz⟩ := cs
  dsimp only at p1 p2
  rw [f2_step, if_neg hg, hin, p1]
  rcases hw with rfl | rfl
  · rw [if_neg (by decide), if_neg (by decide), if_neg (by decide), if_neg (by decide), if_neg (by decide), if_neg (by decide), if_neg (by decide), if_neg (by decide), if_neg (by decide), if_neg (by decide), if_pos (by decide), if_neg hg', p2]
  · rw [if_neg (by decide), if_neg (by decide), if_neg (by decide), if_neg (by decide), if_neg (by decide), if_neg (by decide), if_neg (by decide), if_neg (by decide), if_neg (by decide), if_neg (by decide), if_neg (by decide), if_neg (by decide), if_pos (by decide), if_neg hg', p2]
theorem i_jmp {w : Nat} (hw : w = 11 ∨ w = 14) (hz : cs.2.2.2.2 = nI sz) (hsz : sz ≤ 80) (hi : i < sz) (hm : m < 512) (hM : MUR c) (hp : PcAt cs i (w, s, n, j)) (hq : MA mK m (10, jm, 0)) (h : REL c i st bu a r) : RES cs mK c 1 bu a (nI m) r (PN c j jm st) := by
  obtain ⟨aL, aS, aV, r4, rS, rV, rM, rfl, rfl, h1, h2, h3, h4, h5, h6, h7⟩ := h
  have hgm := z_gd (n := m) (N := 512) hm (by omega)
  have hmn := z_nat (n := m) (by omega)
  have hgm' : ¬ (nI m < 0 ∨ 512 ≤ m) := by rw [hmn] at hgm; exact hgm
  refine ⟨1, _, bu, nI jm, _, Nat.le_refl _, by omega, CGO.step hz hi hsz (z_jmp hw (by omega) hp), MGO.step rfl (r' := (nI (c.1 - bu), -1, 0, r4, nI st.length, rS, rV, rM)) ?_, .inl ⟨rfl, _, _, _, _, _, _, _, rfl, rfl, h1, h2, h3, h4, h5, h6, h7⟩⟩
  rw [z_exn hm rfl hq hM]
  obtain ⟨q1, q2, q3⟩ := hq
  unfold X48
  obtain ⟨fu, cg, ins, mm, ⟨l1, l2, l3, l4, l5, l6⟩, x, y⟩ := c
  obtain ⟨k1, k2, k3, k4⟩ := mK
  dsimp only at q1 q2 ⊢
  rw [f8_execute_L48, if_neg hgm, hmn, q1, if_neg (by decide), if_neg (by decide), if_neg (by decide), if_neg (by decide), if_neg (by decide), if_neg (by decide), if_neg (by decide), if_neg (by decide), if_neg (by decide), if_pos (by decide), if_neg hgm', q2]
/-- an ELSE that has no block: the class alone -/
theorem i_els0 (hz : cs.2.2.2.2 = nI sz) (hsz : sz ≤ 80) (hi : i < sz) (hp : PcAt cs i (11, s, n, j)) (h : REL c i st bu a r) : RES cs mK c 1 bu a (nI m) r (PN c j m st) := by
  obtain ⟨aL, aS, aV, r4, rS, rV, rM, rfl, rfl, h1, h2, h3, h4, h5, h6, h7⟩ := h
  exact ⟨1, _, bu, nI m, _, Nat.le_refl _, by omega, CGO.step hz hi hsz (z_jmp (.inl rfl) (by omega) hp), MGO.refl, .inl ⟨rfl, _, _, _, _, _, _, _, rfl, rfl, h1, h2, h3, h4, h5, h6, h7⟩⟩
/-- JOIN and END_IF: the class alone -/
theorem i_nop {w : Nat} (hw : w = 6 ∨ w = 12) (hz : cs.2.2.2.2 = nI sz) (hsz : sz ≤ 80) (hi : i < sz) (hp : PcAt cs i (w, s, n, j)) (h : REL c i st bu a r) : RES cs mK c 1 bu a (nI m) r (PN c (i + 1) m st) := by
  obtain ⟨aL, aS, aV, r4, rS, rV, rM, rfl, rfl, h1, h2, h3, h4, h5, h6, h7⟩ := h
  obtain ⟨p1, p2, p3, p4⟩ := hp
  dsimp only at p1 p2
  have hg := z_gd (n := i) (N := 80) (by omega) (by omega)
  have hin := z_nat (n := i) (by omega)
  have hg' : ¬ (nI i < 0 ∨ 80 ≤ i) := by rw [hin] at hg; exact hg
  refine ⟨1, _, bu, nI m, _, Nat.le_refl _, by omega, CGO.step hz hi hsz (a' := (0, nI bu, aL, aS, aV, nI st.length, nI (i + 1), -1, nI c.1, c.2.1, c.2.2.1)) ?_, MGO.refl, .inl ⟨rfl, _, _, _, _, _, _, _, rfl, rfl, h1, h2, h3, h4, h5, h6, h7⟩⟩
  obtain ⟨cw, ce, cn, cj, cz⟩ := cs
  dsimp only at p1
  rw [f2_step, if_neg hg, hin, p1]
  rcases hw with rfl | rfl <;> rw [if_neg (by decide), if_neg (by decide), if_neg (by decide), if_neg (by decide), if_neg (by decide), if_neg (by decide), if_neg (by decide), if_neg (by decide), if_neg (by decide), if_neg (by decide), if_neg (by decide), if_neg (by decide), if_neg (by decide)]
end
