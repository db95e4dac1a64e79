/-! RUNNING: one piece in each -/
def MA (mK : MdK) (m : Nat) (q : Mce) : Prop := mK.2.1 m = nI q.1 ∧ mK.2.2.1 m = nI q.2.1 ∧ mK.2.2.2 m = if hasSt q.1 = true then nI q.2.2 else -1
/-- which mutant is run -/
def MUR (c : RC) : Prop := c.2.1 = -1 ∧ c.2.2.2.1 = nI 0 ∨ ∃ u, 1 ≤ u ∧ u < 121 ∧ c.2.2.2.1 = nI u ∧ c.2.2.2.2.1.2.1 u = c.2.1 ∧ c.2.2.2.2.1.2.2.2.1 u = c.2.2.1
section
variable {mK : MdK} {c : RC} {m k v s : Nat} {r1 r2 r3 r4 r5 : Int32} {rS rV rM : Nat → Int32}
def X48 (mK : MdK) (c : RC) (m : Nat) (h : Int32) (r : MdR) : Option (Int32 × MdR) := f8_execute_L48 mK.1 mK.2.1 mK.2.2.1 mK.2.2.2 c.2.2.2.2.1.1 c.2.2.2.2.1.2.1 c.2.2.2.2.1.2.2.1 c.2.2.2.2.1.2.2.2.1 c.2.2.2.2.1.2.2.2.2.1 c.2.2.2.2.1.2.2.2.2.2 (nI m) c.2.2.2.1 c.2.2.2.2.2.1 c.2.2.2.2.2.2 h r
theorem z_exs (hM : MUR c) (hm : m < 512) (hs : s < 60) (hk : hasSt k = true) (h : MA mK m (k, v, s)) : f8_execute (nI m) c.2.2.2.1 c.2.2.2.2.2.1 c.2.2.2.2.2.2 mK c.2.2.2.2.1 (r1, r2, r3, r4, r5, rS, rV, rM) = X48 mK c m (if nI s = c.2.1 then 1 else 0) (r1, r2, r3, r4, r5, rS, rV, upd rM s (vp_nar .boolean 1)) := by
  obtain ⟨h1, h2, h3⟩ := h
  obtain ⟨fu, cg, ins, mm, ⟨l1, l2, l3, l4, l5, l6⟩, x, y⟩ := c
  obtain ⟨k1, k2, k3, k4⟩ := mK
  dsimp only at h1 h2 h3 ⊢
  rw [if_pos hk] at h3
  have hn0 : ¬ nI s < 0 := z_nn (by omega)
  have hg := z_gd (n := m) (N := 512) hm (by omega)
  have hg60 := z_gd (n := s) (N := 60) hs (by omega)
  have l33 : ∀ y0 : Int32, f8_execute_L33 k1 k2 k3 k4 l1 l2 l3 l4 l5 l6 (nI m) mm x y (nI s) y0 (r1, r2, r3, r4, r5, rS, rV, rM) = X48 (k1, k2, k3, k4) (fu, cg, ins, mm, (l1, l2, l3, l4, l5, l6), x, y) m y0 (r1, r2, r3, r4, r5, rS, rV, upd rM s (vp_nar .boolean 1)) := by
    intro y0
    rw [f8_execute_L33, if_neg hn0, if_neg hg60, z_nat (n := s) (by omega)]
    rfl
  rw [f8_execute, if_neg hg, z_nat (n := m) (by omega), h3, nm_v, f8_execute_L32, l33, l33]
  rcases hM with ⟨e1, e2⟩ | ⟨u, e1, e2, e3, e4, e5⟩
  · dsimp only at e1 e2
    rw [e2, if_pos (by decide), e1, if_neg (z_m1 (by omega))]
  · dsimp only at e3 e4 e5
    rw [e3, if_neg (nl_nle u 0 0 rfl (by omega) (by omega)), if_neg hn0, if_neg (z_gd e2 (by omega)), z_nat (n := u) (by omega), e4]
    by_cases w : nI s = cg
    · rw [if_pos w, if_pos w]
    · rw [if_neg w, if_neg w]
theorem z_exn (hm : m < 512) (hk : hasSt k = false) (h : MA mK m (k, v, s)) (hM : MUR c) : f8_execute (nI m) c.2.2.2.1 c.2.2.2.2.2.1 c.2.2.2.2.2.2 mK c.2.2.2.2.1 (r1, r2, r3, r4, r5, rS, rV, rM) = X48 mK c m 0 (r1, r2, r3, r4, r5, rS, rV, rM) := by
  obtain ⟨h1, h2, h3⟩ := h
  obtain ⟨fu, cg, ins, mm, ⟨l1, l2, l3, l4, l5, l6⟩, x, y⟩ := c
  obtain ⟨k1, k2, k3, k4⟩ := mK
  dsimp only at h1 h2 h3 ⊢
  rw [if_neg (by rw [hk]; decide)] at h3
  have hg := z_gd (n := m) (N := 512) hm (by omega)
  rw [f8_execute, if_neg hg, z_nat (n := m) (by omega), h3, nm_v, f8_execute_L32, f8_execute_L33, if_pos (show (-1 : Int32) < 0 by decide)]
  by_cases w : mm ≤ 0
  · rw [if_pos w]; rfl
  · rw [if_neg w]; rfl
end
theorem z_trp {o : Nat} (h : o ∈ arS) (a b : Int32) : (f7_traps (nI o) b = some 1 ∧ f8_traps (nI o) b = some 1) ∨ (f7_traps (nI o) b = some 0 ∧ f8_traps (nI o) b = some 0 ∧ ∃ v, f7_arithmetic (nI o) a b = some v ∧ f8_worked (nI o) a b = some v) := by
  have ho : o = 43 ∨ o = 45 ∨ o = 42 ∨ o = 47 ∨ o = 37 := by
    unfold arS at h
    simp only [List.mem_cons, List.not_mem_nil, or_false] at h
    exact h
  unfold f7_traps f8_traps f7_arithmetic f8_worked f7_traps_L12
  rcases ho with rfl | rfl | rfl | rfl | rfl
  · refine .inr ⟨rfl, ?_, a + b, rfl, rfl⟩
    split
    · rfl
    · rfl
  · refine .inr ⟨rfl, ?_, a - b, rfl, rfl⟩
    split
    · rfl
    · rfl
  · refine .inr ⟨rfl, ?_, a * b, rfl, rfl⟩
    split
    · rfl
    · rfl
  · by_cases w : b = 0
    · exact .inl ⟨by rw [if_pos (by decide), if_pos w], by rw [if_pos w, if_pos (by decide)]⟩
    · exact .inr ⟨by rw [if_pos (by decide), if_neg w], by rw [if_neg w], a / b, by rw [if_neg (by decide), if_neg (by decide), if_neg (by decide), if_pos (by decide), if_neg w, if_neg w], by rw [if_neg (by decide), if_neg (by decide), if_neg (by decide), if_pos (by decide), if_neg w]⟩
  · by_cases w : b = 0
    · exact .inl ⟨by rw [if_neg (by decide), if_pos (by decide), if_pos w], by rw [if_pos w, if_neg (by decide), if_pos (by decide)]⟩
    · exact .inr ⟨by rw [if_neg (by decide), if_pos (by decide), if_neg w], by rw [if_neg w], a - a / b * b, by rw [if_neg (by decide), if_neg (by decide), if_neg (by decide), if_neg (by decide), if_neg w, if_neg w], by rw [if_neg (by decide), if_neg (by decide), if_neg (by decide), if_neg (by decide), if_neg w]⟩
theorem z_cmr (o a b : Int32) : ∃ v : Int32, (v = 0 ∨ v = 1) ∧ f7_comparison o a b = some v ∧ f8_compared o a b = some v := by
  unfold f7_comparison f8_compared
  by_cases w1 : o = 60
  · rw [if_pos w1, if_pos w1]
    split
    · exact ⟨0, .inl rfl, rfl, rfl⟩
    · exact ⟨1, .inr rfl, rfl, rfl⟩
  · rw [if_neg w1, if_neg w1]
    by_cases w2 : o = 61
    · subst w2
      rw [if_pos rfl, if_neg (show ¬ (61 : Int32) = 62 by decide), if_pos rfl]
      split
      · exact ⟨1, .inr rfl, rfl, rfl⟩
      · exact ⟨0, .inl rfl, rfl, rfl⟩
    · rw [if_neg w2]
      by_cases w3 : o = 62
      · rw [if_pos w3, if_pos w3]
        split
        · exact ⟨0, .inl rfl, rfl, rfl⟩
        · exact ⟨1, .inr rfl, rfl, rfl⟩
      · rw [if_neg w3, if_neg w3, if_neg w2]
        split
        · exact ⟨0, .inl rfl, rfl, rfl⟩
        · exact ⟨1, .inr rfl, rfl, rfl⟩
section
variable {cs : CoS} {mK : MdK} {c : RC} {i m sz bu s n j : Nat} {st : List Int32} {a : MaS} {r : MdR}
/-- a number is pushed -/
def PV (c : RC) (val : Int32 → Prop) (i m : Nat) (st : List Int32) (bu : Nat) (a : MaS) (pc : Int32) (r : MdR) : Prop := ∃ v, val v ∧ pc = nI m ∧ REL c i (v :: st) bu a r
def PN (c : RC) (i m : Nat) (st : List Int32) (bu : Nat) (a : MaS) (pc : Int32) (r : MdR) : Prop := pc = nI m ∧ REL c i st bu a r
theorem i_const (hz : cs.2.2.2.2 = nI sz) (hsz : sz ≤ 80) (hi : i < sz) (hm : m < 512) (hM : MUR c) (hs : s < 60) (hp : PcAt cs i (3, s, n, j)) (hq : MA mK m (2, n, s)) (hst : st.length < 32) (h : REL c i st bu a r) : RES cs mK c 1 bu a (nI m) r (PV c (fun _ => True) (i + 1) (m + 1) st) := by
  obtain ⟨aL, aS, aV, r4, rS, rV, rM, rfl, rfl, h1, h2, h3, h4, h5, h6, h7⟩ := h
  obtain ⟨p1, p2, p3, p4⟩ := hp
  have p3 := p3 (.inl (by dsimp only; omega))
  have p4 := p4 (by dsimp only; omega)
  dsimp only at p1 p3 p4
  have hx := z_exs (r1 := nI (c.1 - bu)) (r2 := -1) (r3 := 0) (r4 := r4) (r5 := nI st.length) (rS := rS) (rV := rV) (rM := rM) hM hm hs rfl hq
  obtain ⟨q1, q2, q3⟩ := hq
  dsimp only at q1 q2
  have hg := z_gd (n := i) (N := 80) (by omega) (by omega)
  have hgm := z_gd (n := m) (N := 512) hm (by omega)
  refine ⟨1, _, bu, nI (m + 1), _, Nat.le_refl _, by omega, CGO.step hz hi hsz (a' := (0, nI bu, aL ||| ((1 : Int64) <<< ((nI s).toInt64 &&& 63)), upd aS st.length (if nI s = c.2.1 then c.2.2.1 else nI n), aV, nI (st.length + 1), nI (i + 1), -1, nI c.1, c.2.1, c.2.2.1)) ?_, MGO.step rfl (r' := (nI (c.1 - bu), -1, 0, r4, nI (st.length + 1), upd rS st.length (if nI s = c.2.1 then c.2.2.1 else nI n), rV, upd rM s (vp_nar .boolean 1))) ?_, .inl ⟨(if nI s = c.2.1 then c.2.2.1 else nI n), trivial, rfl, _, _, _, _, _, _, _, rfl, rfl, h1, h2.set hs, h3.push, h4.push, h5, h6, h7⟩⟩
  · have e1 := z_rea (cs := cs) (aR := 0) (aB := nI bu) (aL := aL) (aS := aS) (aV := aV) (aH := nI st.length) (aP := nI (i + 1)) (aO := -1) (aT := nI c.1) (aC := c.2.1) (aI := c.2.2.1) (i := i) (s := s) (by omega) p3
    have e2 := z_nub (cs := cs) (i := i) (s := s) (n := n) (cg := c.2.1) (ins := c.2.2.1) (by omega) p3 p4
    obtain ⟨cw, ce, cn, cj, cz⟩ := cs
    dsimp only at p1
    rw [f2_step, if_neg hg, z_nat (n := i) (by omega), p1, if_neg (by decide), if_neg (by decide), if_neg (by decide), if_pos (by decide), e1, ob_s]
    dsimp only
    rw [e2, ob_s, z_puc hst]
    rfl
  · rw [hx]
    unfold X48
    obtain ⟨fu, cg, ins, mm, ⟨l1, l2, l3, l4, l5, l6⟩, x, y⟩ := c
    obtain ⟨k1, k2, k3, k4⟩ := mK
    dsimp only at q1 q2 hM ⊢
    rw [f8_execute_L48, if_neg hgm, z_nat (n := m) (by omega), q1, if_neg (by decide), if_pos (by decide), q2]
    rcases hM with ⟨e1, e2⟩ | ⟨u, e1, e2, e3, e4, e5⟩
    · dsimp only at e1 e2
      rw [e1, if_neg (z_m1 (n := s) (by omega)), if_neg (z_m1 (n := s) (by omega)), if_pos rfl, if_neg (by rw [z_nat (n := m) (by omega)] at hgm; exact hgm), z_pum (by omega), nI_1]
      rfl
    · dsimp only at e3 e4 e5
      by_cases w : nI s = cg
      · rw [if_pos w, if_pos w, if_neg (by decide), e3, if_neg (z_gd e2 (by omega)), z_nat (n := u) (by omega), e5, z_pum (by omega), nI_1]
        rfl
      · rw [if_neg w, if_neg w, if_pos rfl, if_neg (by rw [z_nat (n := m) (by omega)] at hgm; exact hgm), z_pum (by omega), nI_1]
        rfl
end
