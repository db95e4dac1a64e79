/-! RUNNING: the two machines, side by side -/
/-- fuel; the changed place and what stands there (class); mutant, its table, inputs (model) -/
abbrev RC : Type := Nat × Int32 × Int32 × Int32 × MdL × Int32 × Int32
def REL (c : RC) (i : Nat) (st : List Int32) (bu : Nat) (a : MaS) (r : MdR) : Prop :=
  ∃ aL aS aV r4 rS rV rM, a = (0, nI bu, aL, aS, aV, nI st.length, nI i, -1, nI c.1, c.2.1, c.2.2.1) ∧ r = (nI (c.1 - bu), -1, 0, r4, nI st.length, rS, rV, rM) ∧ bu ≤ c.1 ∧ STE aL rM ∧ IT aS 0 st ∧ IT rS 0 st ∧ (∀ j, j < 6 → rV j = aV j) ∧ aV 6 = c.2.2.2.2.2.1 ∧ aV 7 = c.2.2.2.2.2.2
def STOP (c : RC) (bu : Nat) (a : MaS) (r : MdR) : Prop :=
  ∃ o : Nat, o < 4 ∧ a.2.1 = nI bu ∧ STE a.2.2.1 r.2.2.2.2.2.2.2 ∧ a.2.2.2.2.2.2.2.1 = nI o ∧ r.2.1 = nI o ∧ bu ≤ c.1 ∧ r.1 = nI (c.1 - bu) ∧ (o = 0 → r.2.2.1 = a.1) ∧ (o ≠ 0 → a.1 = 0)
/-! how they go on -/
def CGO (cs : CoS) (a a' : MaS) (k : Nat) : Prop := ∀ (kk : MaS → Option (Int32 × MaS)) (N n stp : Nat), stp + k ≤ 4080 → f2_execute_L80 kk N cs.1 cs.2.1 cs.2.2.1 cs.2.2.2.1 cs.2.2.2.2 (n + k) (nI stp) a = f2_execute_L80 kk N cs.1 cs.2.1 cs.2.2.1 cs.2.2.2.1 cs.2.2.2.2 n (nI (stp + k)) a'
theorem CGO.refl {cs : CoS} {a : MaS} : CGO cs a a 0 := fun _ _ _ _ _ => rfl
theorem CGO.trans {cs : CoS} {a b c : MaS} {k l : Nat} (h1 : CGO cs a b k) (h2 : CGO cs b c l) : CGO cs a c (k + l) := fun kk N n stp h => by
  rw [show n + (k + l) = n + l + k by omega, h1 kk N (n + l) stp (by omega), h2 kk N n (stp + k) (by omega), Nat.add_assoc]
theorem CGO.step {cs : CoS} {i sz : Nat} {aR aB : Int32} {aL : Int64} {aS aV : Nat → Int32} {aH aT aC aI : Int32} {a' : MaS} (hz : cs.2.2.2.2 = nI sz) (hi : i < sz) (hsz : sz ≤ 80) (h : f2_step (nI i) cs (aR, aB, aL, aS, aV, aH, nI (i + 1), -1, aT, aC, aI) = some a') : CGO cs (aR, aB, aL, aS, aV, aH, nI i, -1, aT, aC, aI) a' 1 := by
  intro kk N n stp hst
  obtain ⟨cw, ce, cn, cj, cz⟩ := cs
  dsimp only at hz ⊢
  subst hz
  have h1 : ¬ (4080 : Int32) ≤ nI stp := nl_nge stp 4080 4080 rfl (by omega) (by omega)
  have h2 : ¬ nI sz ≤ nI i := fun q => absurd ((nI_leI (by omega) (by omega)).mp q) (by omega)
  rw [f2_execute_L80, if_neg h1, if_pos rfl, if_neg h2, nI_1, ← nI_1 i, Int32.add_sub_cancel, nI_1 i, h, ob_s]
  dsimp only [nm_v]
  rw [nI_1]
def MGO (mK : MdK) (c : RC) (pc : Int32) (r : MdR) (pc' : Int32) (r' : MdR) : Prop := ∃ k, ∀ (kk : MdR → Option MdR) (N n : Nat) (q1 q2 q3 q4 q5 g1 g2 g3 g4 : Int32) (g5 g6 : Nat → Int32) (g7 : Int32) (g8 g9 : Nat → Int32), f8_go_L77 kk N q1 q2 q3 q4 q5 mK.1 mK.2.1 mK.2.2.1 mK.2.2.2 c.2.2.2.2.1.1 c.2.2.2.2.1.2.1 c.2.2.2.2.1.2.2.1 c.2.2.2.2.1.2.2.2.1 c.2.2.2.2.1.2.2.2.2.1 c.2.2.2.2.1.2.2.2.2.2 g1 g2 g3 g4 g5 g6 g7 g8 g9 (n + k) c.2.2.2.1 c.2.2.2.2.2.1 c.2.2.2.2.2.2 pc r = f8_go_L77 kk N q1 q2 q3 q4 q5 mK.1 mK.2.1 mK.2.2.1 mK.2.2.2 c.2.2.2.2.1.1 c.2.2.2.2.1.2.1 c.2.2.2.2.1.2.2.1 c.2.2.2.2.1.2.2.2.1 c.2.2.2.2.1.2.2.2.2.1 c.2.2.2.2.1.2.2.2.2.2 g1 g2 g3 g4 g5 g6 g7 g8 g9 n c.2.2.2.1 c.2.2.2.2.2.1 c.2.2.2.2.2.2 pc' r'
theorem MGO.refl {mK : MdK} {c : RC} {pc : Int32} {r : MdR} : MGO mK c pc r pc r := ⟨0, fun _ _ _ _ _ _ _ _ _ _ _ _ _ _ _ _ _ => rfl⟩
theorem MGO.trans {mK : MdK} {c : RC} {p1 p2 p3 : Int32} {r1 r2 r3 : MdR} (h1 : MGO mK c p1 r1 p2 r2) (h2 : MGO mK c p2 r2 p3 r3) : MGO mK c p1 r1 p3 r3 := by
  obtain ⟨k1, h1⟩ := h1
  obtain ⟨k2, h2⟩ := h2
  refine ⟨k2 + k1, fun kk N n q1 q2 q3 q4 q5 g1 g2 g3 g4 g5 g6 g7 g8 g9 => ?_⟩
  rw [← Nat.add_assoc, h1, h2]
theorem MGO.step {mK : MdK} {c : RC} {pc pc' : Int32} {r r' : MdR} (h0 : r.2.1 = -1) (h : f8_execute pc c.2.2.2.1 c.2.2.2.2.2.1 c.2.2.2.2.2.2 mK c.2.2.2.2.1 r = some (pc', r')) : MGO mK c pc r pc' r' := by
  refine ⟨1, fun kk N n q1 q2 q3 q4 q5 g1 g2 g3 g4 g5 g6 g7 g8 g9 => ?_⟩
  obtain ⟨fu, cg, ins, mm, mL, x, y⟩ := c
  obtain ⟨l1, l2, l3, l4, l5, l6⟩ := mL
  obtain ⟨k1, k2, k3, k4⟩ := mK
  obtain ⟨r1, r2, r3, r4, r5, r6, r7, r8⟩ := r
  dsimp only at h0 h ⊢
  rw [f8_go_L77, if_pos h0, h, ob_s]
/-! the answers of a part of a run: n steps in the class, but those that fuel pays -/
section
variable {cs : CoS} {mK : MdK} {c : RC}
def RES (cs : CoS) (mK : MdK) (c : RC) (n bu : Nat) (a : MaS) (pc : Int32) (r : MdR) (post : Nat → MaS → Int32 → MdR → Prop) : Prop :=
  ∃ k a' bu' pc' r', bu ≤ bu' ∧ k ≤ n + 80 * (bu' - bu) ∧ CGO cs a a' k ∧ MGO mK c pc r pc' r' ∧ (post bu' a' pc' r' ∨ STOP c bu' a' r')
theorem RES.ret {n bu : Nat} {a : MaS} {pc : Int32} {r : MdR} {post : Nat → MaS → Int32 → MdR → Prop} (h : post bu a pc r) : RES cs mK c n bu a pc r post := ⟨0, a, bu, pc, r, Nat.le_refl _, Nat.zero_le _, CGO.refl, MGO.refl, .inl h⟩
theorem RES.bind {n1 n2 bu : Nat} {a : MaS} {pc : Int32} {r : MdR} {p1 p2 : Nat → MaS → Int32 → MdR → Prop} (h1 : RES cs mK c n1 bu a pc r p1) (h2 : ∀ bu' a' pc' r', bu ≤ bu' → p1 bu' a' pc' r' → RES cs mK c n2 bu' a' pc' r' p2) : RES cs mK c (n1 + n2) bu a pc r p2 := by
  obtain ⟨k, a', bu', pc', r', g1, g2, g3, g4, g5⟩ := h1
  rcases g5 with g5 | g5
  · obtain ⟨k2, a2, bu2, pc2, r2, e1, e2, e3, e4, e5⟩ := h2 bu' a' pc' r' g1 g5
    exact ⟨k + k2, a2, bu2, pc2, r2, by omega, by omega, g3.trans e3, g4.trans e4, e5⟩
  · exact ⟨k, a', bu', pc', r', g1, by omega, g3, g4, .inr g5⟩
theorem RES.wid {n m bu : Nat} {a : MaS} {pc : Int32} {r : MdR} {p1 p2 : Nat → MaS → Int32 → MdR → Prop} (h1 : RES cs mK c n bu a pc r p1) (hn : n ≤ m) (h2 : ∀ bu' a' pc' r', bu ≤ bu' → p1 bu' a' pc' r' → p2 bu' a' pc' r') : RES cs mK c m bu a pc r p2 := by
  obtain ⟨k, a', bu', pc', r', g1, g2, g3, g4, g5⟩ := h1
  exact ⟨k, a', bu', pc', r', g1, by omega, g3, g4, g5.imp (h2 bu' a' pc' r' g1) id⟩
end
/-! stacks -/
theorem IT.push {I : Nat → Int32} {st : List Int32} {v : Int32} (h : IT I 0 st) : IT (upd I st.length v) 0 (v :: st) := ⟨by rw [Nat.zero_add]; exact z_upd_e, IT.same (fun j hj => (z_upd_n (by omega)).symm) h⟩
theorem IT.top {I : Nat → Int32} {st : List Int32} {v : Int32} (h : IT I 0 (v :: st)) : I st.length = v ∧ IT I 0 st := by
  have := h.1
  rw [Nat.zero_add] at this
  exact ⟨this, h.2⟩
section
variable {aR aB aH : Int32} {aL : Int64} {aS aV : Nat → Int32} {aP aO aT aC aI : Int32} {r1 r2 r3 r4 : Int32} {rS rV rM : Nat → Int32}
theorem z_ppc {k : Nat} (hk : k < 32) : f2_pop (aR, aB, aL, aS, aV, nI (k + 1), aP, aO, aT, aC, aI) = some (aS k, (aR, aB, aL, aS, aV, nI k, aP, aO, aT, aC, aI)) := by
  rw [f2_pop, if_neg (nl_ne (k + 1) 0 0 rfl (by omega) (by omega) (by omega)), ← nI_1, Int32.add_sub_cancel, if_neg (z_gd hk (by omega)), z_nat (by omega)]
theorem z_puc {k : Nat} {v : Int32} (hk : k < 32) : f2_push v (aR, aB, aL, aS, aV, nI k, aP, aO, aT, aC, aI) = some (aR, aB, aL, upd aS k v, aV, nI (k + 1), aP, aO, aT, aC, aI) := by
  rw [f2_push, if_neg (nl_nge k 32 32 rfl hk (by omega)), if_neg (z_gd hk (by omega)), z_nat (by omega), nI_1]
theorem z_ppm {k : Nat} (hk : k < 64) : f8_pop (r1, r2, r3, r4, nI (k + 1), rS, rV, rM) = some (rS k, (r1, r2, r3, r4, nI k, rS, rV, rM)) := by
  rw [f8_pop, ← nI_1, Int32.add_sub_cancel, if_neg (z_gd hk (by omega)), z_nat (by omega)]
theorem z_pum {k : Nat} {v : Int32} (hk : k < 64) : f8_push2 v (r1, r2, r3, r4, nI k, rS, rV, rM) = some (r1, r2, r3, r4, nI (k + 1), upd rS k v, rV, rM) := by
  rw [f8_push2, if_neg (z_gd hk (by omega)), z_nat (by omega), nI_1]
theorem z_rea {cs : CoS} {i s : Nat} (hi : i < 80) (h : cs.2.1 i = nI s) : f2_reach (nI i) cs (aR, aB, aL, aS, aV, aH, aP, aO, aT, aC, aI) = some (aR, aB, aL ||| ((1 : Int64) <<< ((nI s).toInt64 &&& 63)), aS, aV, aH, aP, aO, aT, aC, aI) := by
  obtain ⟨cw, ce, cn, cj, cz⟩ := cs
  dsimp only at h
  rw [f2_reach, if_neg (z_gd hi (by omega)), z_nat (by omega), h]
theorem z_nub {cs : CoS} {i s n : Nat} {cg ins : Int32} (hi : i < 80) (h : cs.2.1 i = nI s) (hn : cs.2.2.1 i = nI n) : f0_numberAt (nI i) cg ins cs = some (if nI s = cg then ins else nI n) := by
  obtain ⟨cw, ce, cn, cj, cz⟩ := cs
  dsimp only at h hn
  rw [f0_numberAt, if_neg (z_gd hi (by omega)), z_nat (by omega), h, hn]
  by_cases w : nI s = cg
  · rw [if_pos w, if_pos w]
  · rw [if_neg w, if_neg w, if_neg]
    have := z_gd (n := i) (N := 80) hi (by omega)
    rw [z_nat (by omega)] at this
    exact this
end
