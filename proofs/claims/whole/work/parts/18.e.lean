/-! ROOM of the reference's table: if, while, the whole program -/
theorem Sg_two {A C : List Ste} {a c : MTN → Nat} {p q p' : Nat} (h1 : SIN p q A) (h2 : SIN q p' C) (h60 : p' ≤ 60) (za : ∀ u, CLN u A → a u = 0) (zc : ∀ u, CLN u C → c u = 0) : Sg (A ++ C) (fun t => a (pu t) + c (pu t)) = Sg A (fun t => a (pu t)) + Sg C (fun t => c (pu t)) := by
  have q1 := h1.1
  have q2 := h2.1
  have e1 : Sg A (fun t => a (pu t) + c (pu t)) = Sg A (fun t => a (pu t)) := Sg_cong (fun e he => by
    obtain ⟨b1, b2, _⟩ := h1.2.2 e he
    rw [zc _ (cln_pu h2 h60 (by omega) (.inl (by omega))), Nat.add_zero])
  have e2 : Sg C (fun t => a (pu t) + c (pu t)) = Sg C (fun t => c (pu t)) := Sg_cong (fun e he => by
    obtain ⟨b1, b2, _⟩ := h2.2.2 e he
    rw [za _ (cln_pu h1 (by omega) (by omega) (.inr (by omega))), Nat.zero_add])
  rw [Sg_app, e1, e2]
theorem Sg_blk {C R : List Ste} {a c f : MTN → Nat} {s p q p' : Nat} (hp : s + 1 ≤ p) (h1 : SIN p q C) (h2 : SIN q p' R) (h60 : p' ≤ 60) (za : ∀ u, CLN u C → a u = 0) (zc : ∀ u, CLN u R → c u = 0) (hf : ∀ u, f u = a u + c u + (if dty u (C ++ R) then 2 else 0)) :
    muS ((s, 4, 0) :: (C ++ R)) = muS C + muS R + 1 ∧ Sg ((s, 4, 0) :: (C ++ R)) (fun t => f (pu t)) = Sg C (fun t => a (pu t)) + Sg R (fun t => c (pu t)) + (muS C + muS R) * 2 := by
  have q1 := h1.1
  have q2 := h2.1
  have c0 : f (pu s) = 0 := by
    have d1 : CLN (pu s) C := cln_pu h1 (by omega) (by omega) (.inl (by omega))
    have d2 : CLN (pu s) R := cln_pu h2 (by omega) (by omega) (.inl (by omega))
    have d3 : CLN (pu s) (C ++ R) := fun e he => by
      rcases List.mem_append.mp he with he | he
      · exact d1 e he
      · exact d2 e he
    rw [hf, za _ d1, zc _ d2, dty_cln d3]
    rfl
  have c1 : Sg (C ++ R) (fun t => f (pu t)) = Sg (C ++ R) (fun t => a (pu t) + c (pu t)) + muS (C ++ R) * 2 := by
    rw [← Sg_cst, ← Sg_add]
    refine Sg_cong (fun e he => ?_)
    rw [hf, dty_pu he, if_pos rfl]
  refine ⟨?_, ?_⟩
  · rw [muS_cons, muS_app]
    show 1 + _ = _
    omega
  · rw [Sg, c1, Sg_two h1 h2 h60 za zc, muS_app]
    dsimp only
    rw [c0]
    omega
theorem sb_bsub : ∀ d, d ≤ 4 → SB (iBSub d) (sBSub d) (fun u => cBSub u false d) (cBSub uZ true d) (wjB d) d := by
  intro d
  induction d with
  | zero => intro _ p k x; exact x.elim
  | succ d ih =>
    intro hd p k x hi h60
    have hss := sin_st d (sin_bsub d)
    have hzz : ∀ u x, CLN u (sSt d (sBSub d) x) → cSt u false d (cBSub u false d) x = 0 := fun u => cz_st (cz_bsub d)
    have hrow := rb_row (d := d) (by omega) hss hzz (sb_st (ih (by omega)))
    have hzr : ∀ l u, CLN u (sRow (sSt d (sBSub d)) l) → cRow u false (sSt d (sBSub d)) (cSt u false d (cBSub u false d)) (wjS d (wjB d)) l = 0 := fun l u h => cz_row (hzz u) l h
    obtain ⟨s, c, x⟩ := x
    obtain ⟨hs, p1, i1, i2⟩ := hi
    dsimp only at hs i1 i2
    subst hs
    have s1 := sin_co (d + 1) _ _ _ i1
    have s11 := s1.1
    have p160 : p1 ≤ s + k := by
      rcases x with ⟨r1, _ | r2⟩ | r
      · exact (sin_blk hss _ _ _ i2).1
      · obtain ⟨p2, i2, i3⟩ := i2
        have := (sin_blk hss _ _ _ i2).1
        have := (sin_blk hss _ _ _ i3).1
        omega
      · exact (sin_blk hss _ _ _ i2).1
    obtain ⟨k1, rfl⟩ : ∃ k1, p1 = s + 1 + k1 := ⟨p1 - (s + 1), by omega⟩
    obtain ⟨g1, gk, gm, g3, g4⟩ := eb_co (d + 1) (s + 1) k1 c i1 (by omega)
    have kn := (kn_co (d + 1) _ _ _ i1).1
    have zc : ∀ u, CLN u (sCo (d + 1) c) → cCo u false (d + 1) c = 0 := fun u h => cz_co (d + 1) c h
    rcases x with ⟨r1, r2⟩ | r
    · -- both rows
      have rows : ∃ k2 k3 e, SIN (s + 1 + k1) (s + k) (sRow (sSt d (sBSub d)) r1 ++ sRow (sSt d (sBSub d)) (r2.getD [])) ∧ k = k1 + (k2 + k3) + 3 + e ∧ (∃ q, SIN (s + 1 + k1) q (sRow (sSt d (sBSub d)) r1) ∧ SIN q (s + k) (sRow (sSt d (sBSub d)) (r2.getD []))) ∧ (∃ p, iRow (iSt d (iBSub d)) p (p + k2) r1 ∧ p + k2 ≤ 60) ∧ (∃ p, iRow (iSt d (iBSub d)) p (p + k3) (r2.getD []) ∧ p + k3 ≤ 60) := by
        rcases r2 with _ | t
        · obtain ⟨p2, i3, i4⟩ := i2
          have t3 := sin_row hss _ _ _ i3
          have t31 := t3.1
          have n3 : SIN p2 (s + k) (sRow (sSt d (sBSub d)) ((none : Option (List (SmT d ⊕ BSubT d))).getD [])) := SIN.nil (by omega)
          have w3 : SIN (s + 1 + k1) p2 (sRow (sSt d (sBSub d)) r1) := t3.wid (by omega) (Nat.le_refl _)
          exact ⟨p2 - (s + 1 + k1 + 1), 0, 0, w3.app n3, by omega, ⟨p2, w3, n3⟩, ⟨s + 1 + k1 + 1, by rw [show s + 1 + k1 + 1 + (p2 - (s + 1 + k1 + 1)) = p2 by omega]; exact i3, by omega⟩, ⟨0, rfl, by omega⟩⟩
        · obtain ⟨p2, ⟨p3, i3, i4⟩, ⟨p4, i5, i6⟩⟩ := i2
          have t3 := sin_row hss _ _ _ i3
          have t31 := t3.1
          have t5 := sin_row hss _ _ _ i5
          have t51 := t5.1
          have w3 : SIN (s + 1 + k1) p3 (sRow (sSt d (sBSub d)) r1) := t3.wid (by omega) (Nat.le_refl _)
          have w5 : SIN p3 (s + k) (sRow (sSt d (sBSub d)) t) := t5.wid (by omega) (by omega)
          exact ⟨p3 - (s + 1 + k1 + 1), p4 - (p2 + 1), 2, w3.app w5, by omega, ⟨p3, w3, w5⟩, ⟨s + 1 + k1 + 1, by rw [show s + 1 + k1 + 1 + (p3 - (s + 1 + k1 + 1)) = p3 by omega]; exact i3, by omega⟩, ⟨p2 + 1, by rw [show p2 + 1 + (p4 - (p2 + 1)) = p4 by omega]; exact i5, by omega⟩⟩
      obtain ⟨k2, k3, e, sR, hk, ⟨q, w3, w5⟩, ⟨pa, ia, la⟩, ⟨pb, ib, lb⟩⟩ := rows
      obtain ⟨ra1, ra2⟩ := hrow r1 pa k2 ia la
      obtain ⟨rb1, rb2⟩ := hrow (r2.getD []) pb k3 ib lb
      have zr : ∀ u, CLN u (sRow (sSt d (sBSub d)) r1 ++ sRow (sSt d (sBSub d)) (r2.getD [])) → cRow u false (sSt d (sBSub d)) (cSt u false d (cBSub u false d)) (wjS d (wjB d)) r1 + cRow u false (sSt d (sBSub d)) (cSt u false d (cBSub u false d)) (wjS d (wjB d)) (r2.getD []) = 0 := fun u h => by rw [hzr _ u h.app.1, hzr _ u h.app.2]
      obtain ⟨b1, b2⟩ := Sg_blk (s := s) (C := sCo (d + 1) c) (a := fun u => cCo u false (d + 1) c) (c := fun u => cRow u false (sSt d (sBSub d)) (cSt u false d (cBSub u false d)) (wjS d (wjB d)) r1 + cRow u false (sSt d (sBSub d)) (cSt u false d (cBSub u false d)) (wjS d (wjB d)) (r2.getD [])) (f := fun u => cBSub u false (d + 1) (s, c, .inl (r1, r2))) (Nat.le_refl _) s1 sR h60 zc zr (fun u => rfl)
      have tw := Sg_two (a := fun u => cRow u false (sSt d (sBSub d)) (cSt u false d (cBSub u false d)) (wjS d (wjB d)) r1) (c := fun u => cRow u false (sSt d (sBSub d)) (cSt u false d (cBSub u false d)) (wjS d (wjB d)) (r2.getD [])) w3 w5 h60 (hzr r1) (hzr _)
      dsimp only at b1 b2 tw ra1 rb1 g4
      rw [tw, muS_app] at b2
      rw [muS_app] at b1
      have rr := rb_two (t := Sg (sRow (sSt d (sBSub d)) r1) (fun t => cRow (pu t) false (sSt d (sBSub d)) (cSt (pu t) false d (cBSub (pu t) false d)) (wjS d (wjB d)) r1) + Sg (sRow (sSt d (sBSub d)) (r2.getD [])) (fun t => cRow (pu t) false (sSt d (sBSub d)) (cSt (pu t) false d (cBSub (pu t) false d)) (wjS d (wjB d)) (r2.getD []))) (by omega) ra1 rb1 (by omega) (by rw [Nat.zero_mul, Nat.add_zero])
      have ew : wjB (d + 1) (s, c, .inl (r1, r2)) = max 1 (kRw (wjS d (wjB d)) r1 + kRw (wjS d (wjB d)) (r2.getD [])) := rfl
      refine ⟨rb_blk (by omega) rr gk gm g3 g4 ew b1 hk b2, ?_⟩
      have hm := Nat.mul_le_mul_left (d + 1) (Nat.le_max_right 1 (kRw (wjS d (wjB d)) r1 + kRw (wjS d (wjB d)) (r2.getD [])))
      rw [Nat.mul_add] at hm
      have ec : cBSub uZ true (d + 1) (s, c, .inl (r1, r2)) = cCo uZ true (d + 1) c + (cRow uZ true (sSt d (sBSub d)) (cSt uZ true d (cBSub uZ true d)) (wjS d (wjB d)) r1 + cRow uZ true (sSt d (sBSub d)) (cSt uZ true d (cBSub uZ true d)) (wjS d (wjB d)) (r2.getD [])) + 2 := rfl
      rw [ec, ew, ct_co]
      omega
    · obtain ⟨p2, i3, i4⟩ := i2
      have t3 := sin_row hss _ _ _ i3
      have t31 := t3.1
      have w3 : SIN (s + 1 + k1) (s + k) (sRow (sSt d (sBSub d)) r) := t3.wid (by omega) (by omega)
      obtain ⟨k2, rfl⟩ : ∃ k2, p2 = s + 1 + k1 + 1 + k2 := ⟨p2 - (s + 1 + k1 + 1), by omega⟩
      obtain ⟨ra1, ra2⟩ := hrow r (s + 1 + k1 + 1) k2 i3 (by omega)
      obtain ⟨b1, b2⟩ := Sg_blk (s := s) (C := sCo (d + 1) c) (a := fun u => cCo u false (d + 1) c) (c := fun u => cRow u false (sSt d (sBSub d)) (cSt u false d (cBSub u false d)) (wjS d (wjB d)) r) (f := fun u => cBSub u false (d + 1) (s, c, .inr r)) (Nat.le_refl _) s1 w3 h60 zc (hzr r) (fun u => rfl)
      dsimp only at b1 b2 ra1 g4
      have ew : wjB (d + 1) (s, c, .inr r) = max 1 (kRw (wjS d (wjB d)) r) := rfl
      refine ⟨rb_blk (e := 0) (by omega) ra1 gk gm g3 g4 ew b1 (by omega) b2, ?_⟩
      have hm := Nat.mul_le_mul_left (d + 1) (Nat.le_max_right 1 (kRw (wjS d (wjB d)) r))
      have ec : cBSub uZ true (d + 1) (s, c, .inr r) = cCo uZ true (d + 1) c + cRow uZ true (sSt d (sBSub d)) (cSt uZ true d (cBSub uZ true d)) (wjS d (wjB d)) r + 2 := rfl
      rw [ec, ew, ct_co]
      omega
theorem rb_fin {n m W t c : Nat} (h : RBP 4 n m W t 0) (hn : n ≤ 60) (hm : m ≤ 120) (hc : c ≤ n + 5 * W) : c + t ≤ 4200 := by
  obtain ⟨a, A, B, z, p1, p2, p3, p4, p5, p6, p7, p8⟩ := h
  rw [Nat.zero_mul, Nat.add_zero] at p7
  have hW : W ≤ 15 := by omega
  obtain ⟨y, hy⟩ : ∃ y, y = 61 - 4 * W - 6 * a := ⟨_, rfl⟩
  have hz : z ≤ y := by omega
  have sq := Nat.mul_le_mul hz hz
  have hw : W = 0 ∨ W = 1 ∨ W = 2 ∨ W = 3 ∨ W = 4 ∨ W = 5 ∨ W = 6 ∨ W = 7 ∨ W = 8 ∨ W = 9 ∨ W = 10 ∨ W = 11 ∨ W = 12 ∨ W = 13 ∨ W = 14 ∨ W = 15 := by omega
  generalize z * z = zz at sq p6
  rcases up4 p1 with rfl | rfl | rfl | rfl | rfl <;> rcases hw with rfl | rfl | rfl | rfl | rfl | rfl | rfl | rfl | rfl | rfl | rfl | rfl | rfl | rfl | rfl | rfl <;> simp only [Nat.reduceMul, Nat.reduceSub] at hy <;> subst hy <;> omega
/-- the room of a whole program's folding -/
theorem rb_top {p p' : Nat} {x : RoT 4} (hi : iRo 4 p p' x) (hp : p' ≤ 60) (hm : muS (sRo 4 x) ≤ 120) : cRo uZ true 4 x + Sg (sRo 4 x) (fun s => cRo (pu s) false 4 x) ≤ 4200 := by
  have s1 := (sin_ro 4 _ _ _ hi).1
  obtain ⟨k, rfl⟩ : ∃ k, p' = p + k := ⟨p' - p, by omega⟩
  obtain ⟨h1, h2⟩ := rb_row (d := 4) (by omega) (sin_st 4 (sin_bsub 4)) (fun u => cz_st (cz_bsub 4)) (sb_st (sb_bsub 4 (by omega))) x p k hi hp
  exact rb_fin h1 (by omega) hm h2
