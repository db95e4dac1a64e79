/-! if and while -/
theorem pBlk_bind {α β : Type} {item : Nat → List Nat → PR α} {p : Nat} {s : List Nat} {g : List α × Nat × List Nat → PR β} : (pBlk item p s).bind g = (pTok 123 p s).bind fun z => (pRow item 60 z.1 z.2).bind fun x => (pTok 125 x.2.1 x.2.2).bind fun y => g (x.1, y.1, y.2) := by
  rw [pBlk]
  rcases pTok 123 p s with _ | z
  · rfl
  · show ((pRow item 60 z.1 z.2).bind _).bind g = (pRow item 60 z.1 z.2).bind _
    rcases pRow item 60 z.1 z.2 with _ | x
    · rfl
    · show ((pTok 125 x.2.1 x.2.2).bind _).bind g = (pTok 125 x.2.1 x.2.2).bind _
      rcases pTok 125 x.2.1 x.2.2 with _ | y <;> rfl
section
variable {k : KT} {N : Nat} {mT : MdT} {T : List Nat} {B : Nat} {O : MdK × MdN} {q1 q2 q4 q5 : Int32} {dp d F : Nat}
theorem z_b0 {S : Type} {mc : Nat → S → List Mce} {nd : Nat → S → List Nde} {id : Nat → S → Int32} (hT : TXM mT T) (hB : B ≤ 256) (hd : dp = 4) (hF : F + 2 < 80) (hC : BS k N mT (q1, q2, nI B, q4, q5) T B O 2 (pCo d) dp (F + 1) (mCo d) (nCo B d) (fun m x => nid B m (nCo B d m x)) 1)
    {p f i : Nat} {r : Int32} {A : Arr} {mK : MdK} {mN : MdN} {C : List Mce} {D : List Nde} (h1 : p ≤ T.length) (h2 : f ≤ F) (h3 : i ≤ p) (a1 : A.1 f = 1) (a2 : A.2.1 f = 0) (hK : KV B O mK C) (hN : NV B O mN D) (lC : C.length ≤ 2 * p) (lD : D.length ≤ 2 * p) {c : Nat} {s : List Nat} (e : T.drop p = c :: s) (hc : c = 63 ∨ c = 64) :
    BZ k N mT (q1, q2, nI B, q4, q5) T B O (mK, mN, mkP p dp (f + 1) i r 0 A) (none : PR S) p dp f i A C D (mc (B + C.length)) (nd D.length) (id D.length) 1 := by
  have h60 := hT.2.1
  obtain ⟨w1, w2, w3⟩ := z_dc e
  have hc128 := (hT.2.2 p c w2).2.1
  have pk := z_pk1 (dp := dp) (f := f + 1) (i := i) (r0 := r) (A := A) (b := 0) hT e
  have LC : ∀ q : Mce, (C ++ [q]).length = C.length + 1 := fun q => by rw [List.length_append]; rfl
  obtain ⟨mK1, u, g⟩ := z_bsO (q1 := q1) (q2 := q2) (q4 := q4) (q5 := q5) hc128 (by omega) pk hB (by omega) hK (by omega)
  rw [if_pos (by omega), if_neg (by omega)] at u
  have key : BZ k N mT (q1, q2, nI B, q4, q5) T B O (mK, mN, mkP p dp (f + 1) i r 0 A) ((pCo d (p + 1) (T.drop (p + 1))).bind fun _ => (none : PR S)) p dp f i A C D (mc (B + C.length)) (nd D.length) (id D.length) 1 := by
    refine BZ.go (GOS.step (by omega) ((z_spS (by omega) a1).trans (z_st0 (by omega) a2 u))) (BZ.sub (hC (p + 1) (f + 1) i r _ mK1 mN _ D (by omega) (by omega) (by omega) psh_at.1 psh_at.2.1 psh_at.2.2 g hN (by rw [LC]; omega) (by omega)) ?_)
    intro x p' A' mK' mN' g1 g2 g3 g4 g5 g6
    obtain ⟨⟨b1, b2, b3, b4, b5, b6, b7⟩, g7⟩ := g4.pop
    rw [LC] at g2 g5
    rw [List.append_assoc, List.cons_append, List.nil_append] at g5
    have lK : (C ++ (1, 0, p) :: mCo d (B + (C.length + 1)) x).length < 200 := by simp only [List.length_append, List.length_cons]; omega
    rcases hc with rfl | rfl
    · obtain ⟨b, mK2, hb, u2, k2⟩ := z_st2 (q1 := q1) (q2 := q2) (q4 := q4) (q5 := q5) (mN := mN') (dp := dp) (i := i) (r := nid B D.length (nCo B d D.length x)) hT g1 (by omega) hB (by omega) (b2.trans z_upd_e) (b4.trans z_upd_e) g5 (by omega)
      obtain rfl : b = 1 := by
        rcases hb with ⟨rfl, _⟩ | ⟨_, hb, _⟩
        · rfl
        · omega
      exact BZ.bad (GOS.step (by omega) ((z_spS (by omega) (b1.trans a1)).trans u2)) k2 g6 (by rw [List.length_append]; simp only [List.length_cons, List.length_nil]; omega)
    · obtain ⟨b, mK2, hb, u2, k2⟩ := z_st5 (q1 := q1) (q2 := q2) (q4 := q4) (q5 := q5) (mN := mN') (dp := dp) (i := i) (r := nid B D.length (nCo B d D.length x)) hT g1 (by omega) hB (by omega) (b2.trans z_upd_e) (b4.trans z_upd_e) g5 (by omega)
      obtain rfl : b = 1 := by
        rcases hb with ⟨rfl, _⟩ | ⟨_, hb, _⟩
        · rfl
        · omega
      exact BZ.bad (GOS.step (by omega) ((z_spS (by omega) (b1.trans a1)).trans u2)) k2 g6 (by rw [List.length_append]; simp only [List.length_cons, List.length_nil]; omega)
  have e0 : ((pCo d (p + 1) (T.drop (p + 1))).bind fun _ => (none : PR S)) = none := by cases pCo d (p + 1) (T.drop (p + 1)) <;> rfl
  rw [e0] at key
  exact key
theorem z_b1 (hT : TXM mT T) (hB : B ≤ 256) (hd : dp < 4) (hF : F + 2 < 80) (hC : BS k N mT (q1, q2, nI B, q4, q5) T B O 2 (pCo (d + 1)) dp (F + 1) (mCo (d + 1)) (nCo B (d + 1)) (fun m x => nid B m (nCo B (d + 1) m x)) 1)
    (hR : BS k N mT (q1, q2, nI B, q4, q5) T B O 0 (pRow (pSt d (pBSub d)) 60) (dp + 1) (F + 1) (mRow (mSt d (mBSub d))) (nRow B (nSt B d (nBSub B d))) (fun m l => nRix B m l (nRow B (nSt B d (nBSub B d)) m l)) 0)
    {p f i : Nat} {r : Int32} {A : Arr} {mK : MdK} {mN : MdN} {C : List Mce} {D : List Nde} (h1 : p ≤ T.length) (h2 : f ≤ F) (h3 : i ≤ p) (a1 : A.1 f = 1) (a2 : A.2.1 f = 0) (hK : KV B O mK C) (hN : NV B O mN D) (lC : C.length ≤ 2 * p) (lD : D.length ≤ 2 * p) {c : Nat} {s : List Nat} (e : T.drop p = c :: s) (hc : c = 63 ∨ c = 64) :
    BZ k N mT (q1, q2, nI B, q4, q5) T B O (mK, mN, mkP p dp (f + 1) i r 0 A) (pBSub (d + 1) p (T.drop p)) p dp f i A C D (mBSub (d + 1) (B + C.length)) (nBSub B (d + 1) D.length) (fun x => nid B D.length (nBSub B (d + 1) D.length x)) 1 := by
  have h60 := hT.2.1
  obtain ⟨w1, w2, w3⟩ := z_dc e
  have hc128 := (hT.2.2 p c w2).2.1
  have pk := z_pk1 (dp := dp) (f := f + 1) (i := i) (r0 := r) (A := A) (b := 0) hT e
  have LC : ∀ q : Mce, (C ++ [q]).length = C.length + 1 := fun q => by rw [List.length_append]; rfl
  obtain ⟨mK1, u, g⟩ := z_bsO (q1 := q1) (q2 := q2) (q4 := q4) (q5 := q5) hc128 (by omega) pk hB (by omega) hK (by omega)
  rw [if_pos (by omega), if_neg (by omega)] at u
  rw [e, pBSub]
  dsimp only
  rw [w3]
  refine BZ.go (GOS.step (by omega) ((z_spS (by omega) a1).trans (z_st0 (by omega) a2 u))) (BZ.sub (hC (p + 1) (f + 1) i r _ mK1 mN _ D (by omega) (by omega) (by omega) psh_at.1 psh_at.2.1 psh_at.2.2 g hN (by rw [LC]; omega) (by omega)) ?_)
  intro x p' A' mK' mN' g1 g2 g3 g4 g5 g6
  obtain ⟨⟨b1, b2, b3, b4, b5, b6, b7⟩, g7⟩ := g4.pop
  rw [LC] at g2 g5
  rw [List.append_assoc, List.cons_append, List.nil_append] at g5
  generalize hM : mCo (d + 1) (B + (C.length + 1)) x = M at g2 g5
  have hM' : mCo (d + 1) (B + C.length + 1) x = M := hM
  have lK : (C ++ (1, 0, p) :: M).length = C.length + 1 + M.length := by simp only [List.length_append, List.length_cons]; omega
  have g0 : AG f i A A' := (AG.s4 (AG.sS (AG.s1 AG.refl))).trans g7 (Nat.le_refl _) (Nat.le_refl _)
  dsimp only
  rw [pBlk_bind]
  rcases hc with rfl | rfl
  · -- if
    obtain ⟨b, mK2, hb, u2, k2⟩ := z_st2 (q1 := q1) (q2 := q2) (q4 := q4) (q5 := q5) (mN := mN') (dp := dp) (i := i) (r := nid B D.length (nCo B (d + 1) D.length x)) hT g1 (by omega) hB (by omega) (b2.trans z_upd_e) (b4.trans z_upd_e) g5 (by omega)
    have hb' : TKB T 123 p' b := by
      rcases hb with ⟨hb1, hb2 | hb2⟩ | ⟨hb1, _, hb3⟩
      · exact .inl ⟨hb1, hb2⟩
      · omega
      · exact .inr ⟨hb1, hb3⟩
    have lK2 : (C ++ (1, 0, p) :: M ++ [(9, 0, 0)]).length = C.length + 1 + M.length + 1 := by rw [List.length_append, lK]; rfl
    refine BZ.tok hb' (GOS.step (by omega) ((z_spS (by omega) (b1.trans a1)).trans u2)) k2 g6 (by omega) ?_
    intro hl
    refine BZ.sub (hR (p' + 1) (f + 1) i _ _ mK2 mN' _ _ hl (by omega) (by omega) psh_at.1 psh_at.2.1 psh_at.2.2 k2 g6 (by omega) (by rw [List.length_append]; omega)) ?_
    intro y p2 A2 mK3 mN3 m1 m2 m3 m4 m5 m6
    dsimp only
    obtain ⟨⟨c1, c2, c3, c4, c5, c6, c7⟩, m7⟩ := m4.pop
    rw [lK2] at m2 m5
    rw [List.append_assoc, List.cons_append, List.nil_append] at m5
    rw [show B + (C.length + 1 + M.length + 1) = B + C.length + 1 + M.length + 1 by omega] at m2 m5
    generalize hM2 : mRow (mSt d (mBSub d)) (B + C.length + 1 + M.length + 1) y = M2 at m2 m5
    generalize hDc : nCo B (d + 1) D.length x = Dc at *
    rw [List.length_append] at m3 m6 m7
    generalize hDr : nRow B (nSt B d (nBSub B d)) (D.length + Dc.length) y = Dr at *
    generalize hrr : nRix B (D ++ Dc).length y (nRow B (nSt B d (nBSub B d)) (D ++ Dc).length y) = rr
    have hrr' : nRix B (D.length + Dc.length) y Dr = rr := by rw [← hrr, List.length_append, hDr]
    have lK3 : (C ++ (1, 0, p) :: M ++ (9, 0, 0) :: M2).length = C.length + 1 + M.length + 1 + M2.length := by rw [List.length_append, lK]; simp only [List.length_cons]; omega
    have g0' : AG f i A A2 := g0.trans ((AG.s3 (AG.sS (AG.s0 AG.refl))).trans m7 (Nat.le_refl _) (Nat.le_refl _)) (Nat.le_refl _) (Nat.le_refl _)
    have q4' : A2.2.2.2.1 f = nI (B + C.length) := c4.trans (b4.trans z_upd_e)
    have q0' : A2.2.2.1 f = nid B D.length Dc := c3.trans z_upd_e
    have stp := z_stk (mQ := (q1, q2, nI B, q4, q5)) (mT := mT) (mN := mN3) (p := p2) (dp := dp + 1) (i := i) (r := rr) (n := 0) rfl hB (by omega) q4' (by rw [List.append_assoc, List.cons_append] at m5; exact m5) (by omega) (c2.trans z_upd_e)
    rcases z_eth (q1 := q1) (q2 := q2) (q4 := q4) (q5 := q5) (i := i) (r := rr) hT m1 hd hB (by omega) q4' (c6.trans z_upd_e) m5 m6 (by omega) (by simp only [List.length_append]; omega) with ⟨z1, mK4, mN4, p4, dp4, f4, i4, r4, A4, C4, D4, z2, z3, z4, z5⟩ | ⟨z1, hl2, ⟨z2, mK4, mN4, z3, z4, z5⟩ | ⟨z2, hl3, mK4, z3, z4⟩⟩
    · rw [z1]
      exact BZ.bad (GOS.step (by omega) ((z_spS (by omega) (c1.trans (b1.trans a1))).trans (stp.trans z2))) z3 z4 z5
    · rw [z1, ob_s, if_pos rfl, if_neg z2]
      refine BZ.ret (GOS.step (by omega) ((z_spS (by omega) (c1.trans (b1.trans a1))).trans (stp.trans z3))) ?_ ?_ ?_ (AG.s2 g0') hl2 ?_ ?_
      · show _ = nid B D.length (nBSub B (d + 1) D.length (p, x, .inl (y, none)))
        rw [nBSub]; dsimp only; rw [hDc, hDr]
        show nI (B + (D ++ Dc ++ Dr).length) = nI (B + D.length + (Dc ++ Dr ++ [_]).length - 1)
        simp only [List.length_append, List.length_cons, List.length_nil]; congr 1; omega
      · show KV B O mK4 (C ++ mBSub (d + 1) (B + C.length) (p, x, .inl (y, none)))
        rw [mBSub]; dsimp only; rw [hM', hM2]
        have e1 : B + C.length + 1 + (M ++ (9, B + (C ++ (1, 0, p) :: M).length + 1 + M2.length, 0) :: M2).length = B + C.length + 1 + M.length + 1 + M2.length := by simp only [List.length_append, List.length_cons]; omega
        rw [e1] at z4
        rw [show B + (C ++ (1, 0, p) :: M).length + 1 + M2.length = B + C.length + 1 + M.length + 1 + M2.length by rw [lK]; omega] at z4
        exact z4
      · show NV B O mN4 (D ++ nBSub B (d + 1) D.length (p, x, .inl (y, none)))
        rw [nBSub]; dsimp only; rw [hDc, hDr, hrr']
        rw [q0'] at z5
        rw [List.append_assoc, List.append_assoc, ← List.append_assoc Dc] at z5
        exact z5
      · show 2 * p + (mBSub (d + 1) (B + C.length) (p, x, .inl (y, none))).length ≤ 2 * (p2 + 1)
        rw [mBSub]; dsimp only; rw [hM', hM2]; simp only [List.length_append, List.length_cons]; omega
      · show 2 * p + (nBSub B (d + 1) D.length (p, x, .inl (y, none))).length + 1 ≤ 2 * (p2 + 1)
        rw [nBSub]; dsimp only; rw [hDc, hDr]; simp only [List.length_append, List.length_cons, List.length_nil]; omega
    · rw [z1, ob_s, if_pos rfl, if_pos z2, pBlk_bind]
      obtain ⟨s2, es2⟩ : ∃ s2, T.drop (p2 + 1) = 123 :: s2 := by
        rcases e2 : T.drop (p2 + 1) with _ | ⟨c2, s2⟩
        · rw [e2] at z2; cases z2
        · rw [e2] at z2; cases z2; exact ⟨s2, rfl⟩
      have tk : pTok 123 (p2 + 1) (T.drop (p2 + 1)) = some (p2 + 1 + 1, T.drop (p2 + 1 + 1)) := by
        rw [es2, pTok, if_pos rfl, ← (z_dc es2).2.2]
      rw [tk, ob_s]
      have lK4 : (C ++ (1, 0, p) :: M ++ (9, B + (C ++ (1, 0, p) :: M).length + 1 + (M2 ++ [(10, 0, 0)]).length, 0) :: (M2 ++ [(10, 0, 0)])).length = C.length + 1 + M.length + 1 + M2.length + 1 := by rw [List.length_append, lK]; simp only [List.length_cons, List.length_append, List.length_nil]; omega
      refine BZ.go (GOS.step (by omega) ((z_spS (by omega) (c1.trans (b1.trans a1))).trans (stp.trans z3))) (BZ.sub (hR (p2 + 1 + 1) (f + 1) i _ _ mK4 mN3 _ _ hl3 (by omega) (by omega) psh_at.1 psh_at.2.1 psh_at.2.2 z4 m6 (by omega) (by simp only [List.length_append]; omega)) ?_)
      intro t p3 A3 mK5 mN5 n1 n2 n3 n4 n5 n6
      dsimp only
      obtain ⟨⟨d1, d2, d3, d4, d5, d6, d7⟩, n7⟩ := n4.pop
      rw [lK4] at n2 n5
      rw [show B + (C.length + 1 + M.length + 1 + M2.length + 1) = B + C.length + 1 + M.length + 1 + M2.length + 1 by omega] at n2 n5
      generalize hM3 : mRow (mSt d (mBSub d)) (B + C.length + 1 + M.length + 1 + M2.length + 1) t = M3 at n2 n5
      generalize hVV : B + (C ++ (1, 0, p) :: M).length + 1 + (M2 ++ [(10, 0, 0)]).length = VV at *
      have n5' : KV B O mK5 (C ++ (1, 0, p) :: (M ++ (9, VV, 0) :: M2) ++ (10, 0, 0) :: M3) := by
        have : C ++ (1, 0, p) :: M ++ (9, VV, 0) :: (M2 ++ [(10, 0, 0)]) ++ M3 = C ++ (1, 0, p) :: (M ++ (9, VV, 0) :: M2) ++ (10, 0, 0) :: M3 := by simp only [List.append_assoc, List.cons_append, List.nil_append]
        rw [← this]; exact n5
      have q4'' : A3.2.2.2.1 f = nI (B + C.length) := d4.trans q4'
      have lQ : (C ++ (1, 0, p) :: (M ++ (9, VV, 0) :: M2)).length = C.length + 1 + M.length + 1 + M2.length := by simp only [List.length_append, List.length_cons]; omega
      have q7'' : A3.2.2.2.2.2.2.1 f = nI (B + (C ++ (1, 0, p) :: (M ++ (9, VV, 0) :: M2)).length) := d7.trans (z_upd_e.trans (by rw [lQ, lK3]))
      have lD2 : (D ++ Dc ++ Dr).length = D.length + Dc.length + Dr.length := by simp only [List.length_append]
      rw [lD2] at n3 n6
      generalize hDs : nRow B (nSt B d (nBSub B d)) (D.length + Dc.length + Dr.length) t = Ds at *
      generalize hrs : nRix B (D ++ Dc ++ Dr).length t (nRow B (nSt B d (nBSub B d)) (D ++ Dc ++ Dr).length t) = rs
      have hrs' : nRix B (D.length + Dc.length + Dr.length) t Ds = rs := by rw [← hrs, lD2, hDs]
      obtain ⟨b, mK6, mN6, hb, y1, y2, y3⟩ := z_st4 (q1 := q1) (q2 := q2) (q4 := q4) (q5 := q5) (dp := dp) (i := i) (r := rs) hT n1 hB (by omega) (d2.trans z_upd_e) q4'' q7'' n5' n6 (by rw [List.length_append, lQ]; simp only [List.length_cons]; omega) (by simp only [List.length_append]; omega)
      have lQ2 : (C ++ (1, B + C.length + 1 + (M ++ (9, VV, 0) :: M2 ++ (10, B + (C ++ (1, 0, p) :: (M ++ (9, VV, 0) :: M2)).length + 1 + M3.length, 0) :: M3).length, p) :: (M ++ (9, VV, 0) :: M2 ++ (10, B + (C ++ (1, 0, p) :: (M ++ (9, VV, 0) :: M2)).length + 1 + M3.length, 0) :: M3)).length = C.length + 1 + M.length + 1 + M2.length + 1 + M3.length := by simp only [List.length_append, List.length_cons]; omega
      refine BZ.tok hb (GOS.step (by omega) ((z_spS (by omega) (d1.trans (c1.trans (b1.trans a1)))).trans y1)) y2 y3 (by omega) ?_
      intro hl4
      refine BZ.ret GOS_refl ?_ ?_ ?_ (g0'.trans ((AG.s4 (AG.sS (AG.s2 AG.refl))).trans n7 (Nat.le_refl _) (Nat.le_refl _)) (Nat.le_refl _) (Nat.le_refl _)) hl4 ?_ ?_
      · show _ = nid B D.length (nBSub B (d + 1) D.length (p, x, .inl (y, some t)))
        rw [nBSub]; dsimp only; rw [hDc, hDr, hDs]
        show nI (B + (D ++ Dc ++ Dr ++ Ds).length) = nI (B + D.length + (Dc ++ Dr ++ Ds ++ [_]).length - 1)
        simp only [List.length_append, List.length_cons, List.length_nil]; congr 1; omega
      · show KV B O mK6 (C ++ mBSub (d + 1) (B + C.length) (p, x, .inl (y, some t)))
        rw [mBSub]; dsimp only; rw [hM', hM2, hM3]
        have e1 : B + C.length + 1 + (M ++ (9, VV, 0) :: M2 ++ (10, B + (C ++ (1, 0, p) :: (M ++ (9, VV, 0) :: M2)).length + 1 + M3.length, 0) :: M3).length = B + C.length + 1 + M.length + 1 + M2.length + 1 + M3.length := by simp only [List.length_append, List.length_cons]; omega
        rw [e1, lQ] at y2
        rw [show VV = B + C.length + 1 + M.length + 1 + M2.length + 1 by rw [← hVV, lK]; simp only [List.length_append, List.length_cons, List.length_nil]; omega] at y2
        rw [show B + (C.length + 1 + M.length + 1 + M2.length) + 1 + M3.length = B + C.length + 1 + M.length + 1 + M2.length + 1 + M3.length by omega] at y2
        simp only [List.append_assoc, List.cons_append] at y2 ⊢
        exact y2
      · show NV B O mN6 (D ++ nBSub B (d + 1) D.length (p, x, .inl (y, some t)))
        rw [nBSub]; dsimp only; rw [hDc, hDr, hDs, hrr', hrs']
        rw [show A3.2.2.1 f = nid B D.length Dc from d3.trans q0', show A3.2.2.2.2.1 f = rr from d5.trans z_upd_e] at y3
        simp only [List.append_assoc] at y3 ⊢
        exact y3
      · show 2 * p + (mBSub (d + 1) (B + C.length) (p, x, .inl (y, some t))).length ≤ 2 * (p3 + 1)
        rw [mBSub]; dsimp only; rw [hM', hM2, hM3]; simp only [List.length_append, List.length_cons]; omega
      · show 2 * p + (nBSub B (d + 1) D.length (p, x, .inl (y, some t))).length + 1 ≤ 2 * (p3 + 1)
        rw [nBSub]; dsimp only; rw [hDc, hDr, hDs]; simp only [List.length_append, List.length_cons, List.length_nil]; omega
  · -- while
    obtain ⟨b, mK2, hb, u2, k2⟩ := z_st5 (q1 := q1) (q2 := q2) (q4 := q4) (q5 := q5) (mN := mN') (dp := dp) (i := i) (r := nid B D.length (nCo B (d + 1) D.length x)) hT g1 (by omega) hB (by omega) (b2.trans z_upd_e) (b4.trans z_upd_e) g5 (by omega)
    have hb' : TKB T 123 p' b := by
      rcases hb with ⟨hb1, hb2 | hb2⟩ | ⟨hb1, _, hb3⟩
      · exact .inl ⟨hb1, hb2⟩
      · omega
      · exact .inr ⟨hb1, hb3⟩
    have lK2 : (C ++ (1, 0, p) :: M ++ [(9, 0, 0), (11, 0, 0)]).length = C.length + 1 + M.length + 2 := by rw [List.length_append, lK]; rfl
    refine BZ.tok hb' (GOS.step (by omega) ((z_spS (by omega) (b1.trans a1)).trans u2)) k2 g6 (by omega) ?_
    intro hl
    refine BZ.sub (hR (p' + 1) (f + 1) i _ _ mK2 mN' _ _ hl (by omega) (by omega) psh_at.1 psh_at.2.1 psh_at.2.2 k2 g6 (by omega) (by rw [List.length_append]; omega)) ?_
    intro y p2 A2 mK3 mN3 m1 m2 m3 m4 m5 m6
    dsimp only
    obtain ⟨⟨c1, c2, c3, c4, c5, c6, c7⟩, m7⟩ := m4.pop
    rw [lK2] at m2 m5
    rw [List.append_assoc, List.cons_append, List.cons_append, List.nil_append] at m5
    rw [show B + (C.length + 1 + M.length + 2) = B + C.length + 1 + M.length + 2 by omega] at m2 m5
    generalize hM2 : mRow (mSt d (mBSub d)) (B + C.length + 1 + M.length + 2) y = M2 at m2 m5
    generalize hDc : nCo B (d + 1) D.length x = Dc at *
    rw [List.length_append] at m3 m6 m7
    generalize hDr : nRow B (nSt B d (nBSub B d)) (D.length + Dc.length) y = Dr at *
    generalize hrr : nRix B (D ++ Dc).length y (nRow B (nSt B d (nBSub B d)) (D ++ Dc).length y) = rr
    have hrr' : nRix B (D.length + Dc.length) y Dr = rr := by rw [← hrr, List.length_append, hDr]
    have g0' : AG f i A A2 := g0.trans ((AG.s3 (AG.sS (AG.s0 AG.refl))).trans m7 (Nat.le_refl _) (Nat.le_refl _)) (Nat.le_refl _) (Nat.le_refl _)
    have q4' : A2.2.2.2.1 f = nI (B + C.length) := c4.trans (b4.trans z_upd_e)
    have q0' : A2.2.2.1 f = nid B D.length Dc := c3.trans z_upd_e
    have q7' : A2.2.2.2.2.2.2.1 f = nI (B + C.length + 1) := c7.trans (b7.trans z_upd_e)
    have lK3 : (C ++ (1, 0, p) :: M ++ (9, 0, 0) :: (11, 0, 0) :: M2).length = C.length + 1 + M.length + 2 + M2.length := by rw [List.length_append, lK]; simp only [List.length_cons]; omega
    obtain ⟨b, mK6, mN6, hb, y1, y2, y3⟩ := z_st6 (q1 := q1) (q2 := q2) (q4 := q4) (q5 := q5) (dp := dp) (i := i) (r := rr) hT m1 hB (by omega) (c2.trans z_upd_e) q4' (c6.trans z_upd_e) q7' m5 m6 (by omega) (by simp only [List.length_append]; omega)
    have lQ2 : ∀ v w, (C ++ (1, v, p) :: (M ++ (9, w, 0) :: ((11, 0, 0) :: M2 ++ [(10, B + C.length + 1, 0)]))).length = C.length + 1 + M.length + 2 + M2.length + 1 := by intro v w; simp only [List.length_append, List.length_cons, List.length_nil]; omega
    refine BZ.tok hb (GOS.step (by omega) ((z_spS (by omega) (c1.trans (b1.trans a1))).trans y1)) y2 y3 (by rw [lQ2]; omega) ?_
    intro hl4
    rw [if_neg (by omega)]
    refine BZ.ret GOS_refl ?_ ?_ ?_ g0' hl4 ?_ ?_
    · show _ = nid B D.length (nBSub B (d + 1) D.length (p, x, .inr y))
      rw [nBSub]; dsimp only; rw [hDc, hDr]
      show nI (B + (D ++ Dc ++ Dr).length) = nI (B + D.length + (Dc ++ Dr ++ [_]).length - 1)
      simp only [List.length_append, List.length_cons, List.length_nil]; congr 1; omega
    · show KV B O mK6 (C ++ mBSub (d + 1) (B + C.length) (p, x, .inr y))
      rw [mBSub]; dsimp only; rw [hM', hM2]
      have e1 : B + C.length + 1 + (M ++ (9, B + (C ++ (1, 0, p) :: M).length + 1 + ((11, 0, 0) :: M2 ++ [(10, B + C.length + 1, 0)]).length, 0) :: ((11, 0, 0) :: M2 ++ [(10, B + C.length + 1, 0)])).length = B + C.length + 1 + M.length + 2 + M2.length + 1 := by simp only [List.length_append, List.length_cons, List.length_nil]; omega
      have e2 : B + (C ++ (1, 0, p) :: M).length + 1 + ((11, 0, 0) :: M2 ++ [(10, B + C.length + 1, 0)]).length = B + C.length + 1 + M.length + 2 + M2.length + 1 := by rw [lK]; simp only [List.length_append, List.length_cons, List.length_nil]; omega
      rw [e1, e2] at y2
      simp only [List.append_assoc, List.cons_append] at y2 ⊢
      exact y2
    · show NV B O mN6 (D ++ nBSub B (d + 1) D.length (p, x, .inr y))
      rw [nBSub]; dsimp only; rw [hDc, hDr, hrr']
      rw [q0'] at y3
      simp only [List.append_assoc] at y3 ⊢
      exact y3
    · show 2 * p + (mBSub (d + 1) (B + C.length) (p, x, .inr y)).length ≤ 2 * (p2 + 1)
      rw [mBSub]; dsimp only; rw [hM', hM2]; simp only [List.length_append, List.length_cons, List.length_nil]; omega
    · show 2 * p + (nBSub B (d + 1) D.length (p, x, .inr y)).length + 1 ≤ 2 * (p2 + 1)
      rw [nBSub]; dsimp only; rw [hDc, hDr]; simp only [List.length_append, List.length_cons, List.length_nil]; omega
end
