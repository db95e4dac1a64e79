/-! statements with rows: steps -/
section
variable {k : KT} {N : Nat} {mT : MdT} {T : List Nat} {B : Nat} {O : MdK × MdN} {q1 q2 q4 q5 : Int32} {mK : MdK} {mN : MdN} {p dp f i c F : Nat} {r b : Int32} {A : Arr} {C M M2 M3 : List Mce} {D : List Nde}
abbrev TKB (T : List Nat) (c p : Nat) (b : Int32) : Prop := b = 1 ∧ pTok c p (T.drop p) = none ∨ b = 0 ∧ pTok c p (T.drop p) = some (p + 1, T.drop (p + 1)) ∧ p + 1 ≤ T.length
theorem z_st2 {v q : Nat} (hT : TXM mT T) (hp : p ≤ T.length) (hd : dp ≤ 4) (hB : B ≤ 256) (hf : f + 1 < 80) (hS : A.2.1 f = 2) (hq : A.2.2.2.1 f = nI (B + C.length)) (h1 : KV B O mK (C ++ (1, v, q) :: M)) (hC : (C ++ (1, v, q) :: M).length < 256) :
    ∃ b mK', (b = 1 ∧ (pTok 123 p (T.drop p) = none ∨ dp = 4) ∨ b = 0 ∧ dp < 4 ∧ pTok 123 p (T.drop p) = some (p + 1, T.drop (p + 1)) ∧ p + 1 ≤ T.length) ∧ f8_stepStatement (nI f) mT (q1, q2, nI B, q4, q5) mK mN (mkP p dp (f + 1) i r 0 A) = some (mK', mN, mkP (p + 1) (dp + 1) (f + 2) i r b (pshA (f + 1) 0 (s3 f (nI (B + (C ++ (1, v, q) :: M).length)) (sS f 3 (s0 f r A))))) ∧ KV B O mK' (C ++ (1, v, q) :: M ++ [(9, 0, 0)]) := by
  obtain ⟨b, hb, e0⟩ := z_opb (dp := dp) (f := f + 1) (i := i) (r0 := r) (A := s0 f r A) hT hp 123 123 rfl (by omega) (by omega) hd
  have hCl : C.length < 256 := by rw [List.length_append] at hC; omega
  have hg := z_gd (n := f) (N := 80) (by omega) (by omega)
  have hn := z_nat (n := f) (by omega)
  have hg' : ¬ (nI f < 0 ∨ 80 ≤ f) := by rw [hn] at hg; exact hg
  have hq' : A.2.2.2.1 (nI f).toNatClampNeg = nI (B + C.length) := by rw [hn, hq]
  have hqg := z_gd (n := B + C.length) (N := 512) (by omega) (by omega)
  have hss := z_ss h1
  obtain ⟨mK1, e1, g1⟩ := z_emit (mQ := (q1, q2, nI B, q4, q5)) rfl h1 hB hC 9 0 0 (x1 := 9) (x2 := 0) (x3 := -1) rfl rfl rfl
  have h3 := z_pu (p := p + 1) (dp := dp + 1) (f := f + 1) (i := i) (r0 := r) (b := b) (A := s3 f (nI (B + (C ++ (1, v, q) :: M).length)) (sS f 3 (s0 f r A))) (k := 0) hf
  refine ⟨b, mK1, hb, ?_, g1⟩
  obtain ⟨t1, t2⟩ := mT
  obtain ⟨a1, a2, a3, a4⟩ := mK
  obtain ⟨b1, b2, b3, b4, b5, b6⟩ := mN
  dsimp only at hss
  rw [mkP] at e0 h3 ⊢
  have hx : (nI (B + C.length)).toNatClampNeg = B + C.length := z_nat (by omega)
  have s2 : A.2.1 (nI f).toNatClampNeg = (2 : Int32) := by rw [hn, hS]
  rw [f8_stepStatement, if_neg hg, s2, if_neg (by decide), if_neg hg, hq', if_neg hqg, hx, hss, nm_v, if_neg hg, if_neg (by decide), if_pos rfl, if_neg hg, hn, e0, ob_s, mkP]
  dsimp only
  rw [e1, ob_s]
  dsimp only
  rw [if_neg hg', if_neg hg', h3]
  rfl
theorem z_st5 {v q : Nat} (hT : TXM mT T) (hp : p ≤ T.length) (hd : dp ≤ 4) (hB : B ≤ 256) (hf : f + 1 < 80) (hS : A.2.1 f = 5) (hq : A.2.2.2.1 f = nI (B + C.length)) (h1 : KV B O mK (C ++ (1, v, q) :: M)) (hC : (C ++ (1, v, q) :: M).length < 255) :
    ∃ b mK', (b = 1 ∧ (pTok 123 p (T.drop p) = none ∨ dp = 4) ∨ b = 0 ∧ dp < 4 ∧ pTok 123 p (T.drop p) = some (p + 1, T.drop (p + 1)) ∧ p + 1 ≤ T.length) ∧ f8_stepStatement (nI f) mT (q1, q2, nI B, q4, q5) mK mN (mkP p dp (f + 1) i r 0 A) = some (mK', mN, mkP (p + 1) (dp + 1) (f + 2) i r b (pshA (f + 1) 0 (s3 f (nI (B + (C ++ (1, v, q) :: M).length)) (sS f 6 (s0 f r A))))) ∧ KV B O mK' (C ++ (1, v, q) :: M ++ [(9, 0, 0), (11, 0, 0)]) := by
  obtain ⟨b, hb, e0⟩ := z_opb (dp := dp) (f := f + 1) (i := i) (r0 := r) (A := s0 f r A) hT hp 123 123 rfl (by omega) (by omega) hd
  have hCl : C.length < 256 := by rw [List.length_append] at hC; omega
  have hg := z_gd (n := f) (N := 80) (by omega) (by omega)
  have hn := z_nat (n := f) (by omega)
  have hg' : ¬ (nI f < 0 ∨ 80 ≤ f) := by rw [hn] at hg; exact hg
  have hq' : A.2.2.2.1 (nI f).toNatClampNeg = nI (B + C.length) := by rw [hn, hq]
  have hqg := z_gd (n := B + C.length) (N := 512) (by omega) (by omega)
  have hss := z_ss h1
  obtain ⟨mK1, e1, g1⟩ := z_emit (mQ := (q1, q2, nI B, q4, q5)) rfl h1 hB (by omega) 9 0 0 (x1 := 9) (x2 := 0) (x3 := -1) rfl rfl rfl
  obtain ⟨mK2, e2, g2⟩ := z_emit (mQ := (q1, q2, nI B, q4, q5)) rfl g1 hB (by rw [List.length_append]; simp only [List.length_cons, List.length_nil]; omega) 11 0 0 (x1 := 11) (x2 := 0) (x3 := -1) rfl rfl rfl
  have h3 := z_pu (p := p + 1) (dp := dp + 1) (f := f + 1) (i := i) (r0 := r) (b := b) (A := s3 f (nI (B + (C ++ (1, v, q) :: M).length)) (sS f 6 (s0 f r A))) (k := 0) hf
  refine ⟨b, mK2, hb, ?_, by rw [List.append_assoc] at g2; exact g2⟩
  obtain ⟨t1, t2⟩ := mT
  obtain ⟨a1, a2, a3, a4⟩ := mK
  obtain ⟨c1, c2, c3, c4⟩ := mK1
  obtain ⟨b1, b2, b3, b4, b5, b6⟩ := mN
  dsimp only at hss
  rw [mkP] at e0 h3 ⊢
  have hx : (nI (B + C.length)).toNatClampNeg = B + C.length := z_nat (by omega)
  have s5 : A.2.1 (nI f).toNatClampNeg = (5 : Int32) := by rw [hn, hS]
  rw [f8_stepStatement, if_neg hg, s5, if_neg (by decide), if_neg hg, hq', if_neg hqg, hx, hss, nm_v, if_neg hg, if_neg (by decide), if_neg (by decide), if_neg (by decide), if_neg (by decide), if_pos rfl, if_neg hg, hn, e0, ob_s, mkP]
  dsimp only
  rw [e1, ob_s]
  dsimp only
  rw [if_neg hg', e2, ob_s]
  dsimp only
  rw [if_neg hg', h3]
  rfl
/-- which branch a statement's state takes -/
theorem z_stk {mQ : MdQ} {v q n : Nat} (hn : mQ.2.2.1 = nI B) (hB : B ≤ 256) (hf : f < 80) (hq : A.2.2.2.1 f = nI (B + C.length)) (h1 : KV B O mK (C ++ (1, v, q) :: M)) (hC : C.length < 256) :
    (A.2.1 f = 3 → f8_stepStatement (nI f) mT mQ mK mN (mkP p dp (f + 1) i r 0 A) = f8_endThen (nI f) (nI q) mT mQ mK mN (mkP p dp (f + 1) i r 0 A)) := by
  have hg := z_gd (n := f) (N := 80) (by omega) (by omega)
  have hnn := z_nat (n := f) (by omega)
  have hq' : A.2.2.2.1 (nI f).toNatClampNeg = nI (B + C.length) := by rw [hnn, hq]
  have hqg := z_gd (n := B + C.length) (N := 512) (by omega) (by omega)
  have hss := z_ss h1
  intro hS
  obtain ⟨t1, t2⟩ := mT
  obtain ⟨q1, q2, q3, q4, q5⟩ := mQ
  obtain ⟨a1, a2, a3, a4⟩ := mK
  obtain ⟨b1, b2, b3, b4, b5, b6⟩ := mN
  dsimp only at hss
  have hx : (nI (B + C.length)).toNatClampNeg = B + C.length := z_nat (by omega)
  have s3 : A.2.1 (nI f).toNatClampNeg = (3 : Int32) := by rw [hnn, hS]
  have id3 : ∀ o : Option MSt, (o.bind fun x => some ((x.1.1, x.1.2.1, x.1.2.2.1, x.1.2.2.2), (x.2.1.1, x.2.1.2.1, x.2.1.2.2.1, x.2.1.2.2.2.1, x.2.1.2.2.2.2.1, x.2.1.2.2.2.2.2), (x.2.2.1, x.2.2.2.1, x.2.2.2.2.1, x.2.2.2.2.2.1, x.2.2.2.2.2.2.1, x.2.2.2.2.2.2.2.1, x.2.2.2.2.2.2.2.2.1, x.2.2.2.2.2.2.2.2.2.1, x.2.2.2.2.2.2.2.2.2.2.1, x.2.2.2.2.2.2.2.2.2.2.2.1, x.2.2.2.2.2.2.2.2.2.2.2.2.1, x.2.2.2.2.2.2.2.2.2.2.2.2.2.1, x.2.2.2.2.2.2.2.2.2.2.2.2.2.2.1, x.2.2.2.2.2.2.2.2.2.2.2.2.2.2.2))) = o := fun o => by cases o <;> rfl
  rw [mkP, f8_stepStatement, if_neg hg, s3, if_neg (by decide), if_neg hg, hq', if_neg hqg, hx, hss, nm_v, if_neg hg, if_neg (by decide), if_neg (by decide), if_pos rfl]
  exact id3 _
/-- behind the first row of an if -/
theorem z_eth {q : Nat} (hT : TXM mT T) (hp : p ≤ T.length) (hd : dp < 4) (hB : B ≤ 256) (hf : f + 1 < 80) (hq : A.2.2.2.1 f = nI (B + C.length)) (h3 : A.2.2.2.2.2.1 f = nI (B + (C ++ (1, 0, q) :: M).length)) (h1 : KV B O mK (C ++ (1, 0, q) :: M ++ (9, 0, 0) :: M2)) (h2 : NV B O mN D) (hC : (C ++ (1, 0, q) :: M ++ (9, 0, 0) :: M2).length < 255) (hD : D.length < 256) :
    (pTok 125 p (T.drop p) = none ∧ ∃ mK' mN' p' dp' f' i' r' A' C' D', f8_endThen (nI f) (nI q) mT (q1, q2, nI B, q4, q5) mK mN (mkP p (dp + 1) (f + 1) i r 0 A) = some (mK', mN', mkP p' dp' f' i' r' 1 A') ∧ KV B O mK' C' ∧ NV B O mN' D' ∧ C'.length < 256) ∨
    (pTok 125 p (T.drop p) = some (p + 1, T.drop (p + 1)) ∧ p + 1 ≤ T.length ∧
      (((T.drop (p + 1)).head? ≠ some 123 ∧ ∃ mK' mN', f8_endThen (nI f) (nI q) mT (q1, q2, nI B, q4, q5) mK mN (mkP p (dp + 1) (f + 1) i r 0 A) = some (mK', mN', mkP (p + 1) dp f i (nI (B + D.length)) 0 (s2 f r A)) ∧ KV B O mK' (C ++ (1, B + C.length + 1 + (M ++ (9, B + (C ++ (1, 0, q) :: M).length + 1 + M2.length, 0) :: M2).length, q) :: (M ++ (9, B + (C ++ (1, 0, q) :: M).length + 1 + M2.length, 0) :: M2)) ∧ NV B O mN' (D ++ [(7, A.2.2.1 f, r, -1, nI q)])) ∨
       ((T.drop (p + 1)).head? = some 123 ∧ p + 1 + 1 ≤ T.length ∧ ∃ mK', f8_endThen (nI f) (nI q) mT (q1, q2, nI B, q4, q5) mK mN (mkP p (dp + 1) (f + 1) i r 0 A) = some (mK', mN, mkP (p + 1 + 1) (dp + 1) (f + 2) i r 0 (pshA (f + 1) 0 (s4 f (nI (B + (C ++ (1, 0, q) :: M ++ (9, 0, 0) :: M2).length)) (sS f 4 (s2 f r A))))) ∧ KV B O mK' (C ++ (1, 0, q) :: M ++ (9, B + (C ++ (1, 0, q) :: M).length + 1 + (M2 ++ [(10, 0, 0)]).length, 0) :: (M2 ++ [(10, 0, 0)]))))) := by
  have h60 := hT.2.1
  have hP : (C ++ (1, 0, q) :: M).length < 255 := by rw [List.length_append] at hC; omega
  have hCl : C.length < 255 := by rw [List.length_append] at hP; omega
  have hg := z_gd (n := f) (N := 80) (by omega) (by omega)
  have hn := z_nat (n := f) (by omega)
  have hg' : ¬ (nI f < 0 ∨ 80 ≤ f) := by rw [hn] at hg; exact hg
  obtain ⟨b, hb, e0⟩ := z_clb (dp := dp) (f := f + 1) (i := i) (r0 := r) (A := A) hT hp 125 125 rfl (by omega) (by omega)
  -- no {
  have noB : ∀ x : Int32, ¬ x = 123 → f8_peek mT (mkP (p + 1) dp (f + 1) i r b (s2 f r A)) = some x → ∃ mK' mN', f8_endThen (nI f) (nI q) mT (q1, q2, nI B, q4, q5) mK mN (mkP p (dp + 1) (f + 1) i r 0 A) = some (mK', mN', mkP (p + 1) dp f i (nI (B + D.length)) b (s2 f r A)) ∧ KV B O mK' (C ++ (1, B + C.length + 1 + (M ++ (9, B + (C ++ (1, 0, q) :: M).length + 1 + M2.length, 0) :: M2).length, q) :: (M ++ (9, B + (C ++ (1, 0, q) :: M).length + 1 + M2.length, 0) :: M2)) ∧ NV B O mN' (D ++ [(7, A.2.2.1 f, r, -1, nI q)]) := by
    intro x hx pk
    obtain ⟨mK1, e1, g1⟩ := z_land (mQ := (q1, q2, nI B, q4, q5)) rfl h1 hB (by omega) (x := nI (B + (C ++ (1, 0, q) :: M).length)) rfl
    obtain ⟨mN1, e2, g2⟩ := z_create (mQ := (q1, q2, nI B, q4, q5)) rfl h2 hB hD 7 7 (A.2.2.1 f) r (-1) (nI q) rfl
    rw [List.append_assoc, List.cons_append] at g1
    obtain ⟨mK2, e3, g3⟩ := z_end (q1 := q1) (q2 := q2) (q4 := q4) (q5 := q5) (p := p + 1) (dp := dp) (i := i) (r := r) (b := b) (n := nI (B + D.length)) (f := f) (A := s2 f r A) hB (by omega) hq g1 (by omega)
    refine ⟨mK2, mN1, ?_, g3, g2⟩
    obtain ⟨t1, t2⟩ := mT
    obtain ⟨a1, a2, a3, a4⟩ := mK
    obtain ⟨b1, b2, b3, b4, b5, b6⟩ := mN
    rw [mkP] at e0 pk e3 ⊢
    rw [f8_endThen, e0, ob_s, mkP]
    dsimp only
    rw [if_neg hg, hn, pk, ob_s, if_neg hx, if_neg hg', h3, e1, ob_s]
    try dsimp only
    rw [if_neg hg', if_neg hg', z_upd_e, e2, ob_s]
    dsimp only
    rw [e3]
    rfl
  have yesB : ∀ b2, f8_peek mT (mkP (p + 1) dp (f + 1) i r b (s2 f r A)) = some 123 → f8_open 123 mT (mkP (p + 1) dp (f + 1) i r b (s2 f r A)) = some (mkP (p + 1 + 1) (dp + 1) (f + 1) i r b2 (s2 f r A)) → ∃ mK', f8_endThen (nI f) (nI q) mT (q1, q2, nI B, q4, q5) mK mN (mkP p (dp + 1) (f + 1) i r 0 A) = some (mK', mN, mkP (p + 1 + 1) (dp + 1) (f + 2) i r b2 (pshA (f + 1) 0 (s4 f (nI (B + (C ++ (1, 0, q) :: M ++ (9, 0, 0) :: M2).length)) (sS f 4 (s2 f r A))))) ∧ KV B O mK' (C ++ (1, 0, q) :: M ++ (9, B + (C ++ (1, 0, q) :: M).length + 1 + (M2 ++ [(10, 0, 0)]).length, 0) :: (M2 ++ [(10, 0, 0)])) := by
    intro b2 pk ho
    obtain ⟨mK1, e1, g1⟩ := z_emit (mQ := (q1, q2, nI B, q4, q5)) rfl h1 hB (by omega) 10 0 0 (x1 := 10) (x2 := 0) (x3 := -1) rfl rfl rfl
    rw [List.append_assoc, List.cons_append] at g1
    obtain ⟨mK2, e2, g2⟩ := z_land (mQ := (q1, q2, nI B, q4, q5)) rfl g1 hB (by omega) (x := nI (B + (C ++ (1, 0, q) :: M).length)) rfl
    have h4 := z_pu (p := p + 1 + 1) (dp := dp + 1) (f := f + 1) (i := i) (r0 := r) (b := b2) (A := s4 f (nI (B + (C ++ (1, 0, q) :: M ++ (9, 0, 0) :: M2).length)) (sS f 4 (s2 f r A))) (k := 0) hf
    refine ⟨mK2, ?_, g2⟩
    obtain ⟨t1, t2⟩ := mT
    obtain ⟨a1, a2, a3, a4⟩ := mK
    obtain ⟨b1, b2, b3, b4, b5, b6⟩ := mN
    obtain ⟨c1, c2, c3, c4⟩ := mK1
    rw [mkP] at e0 pk ho h4 ⊢
    rw [f8_endThen, e0, ob_s, mkP]
    dsimp only
    rw [if_neg hg, hn, pk, ob_s, if_pos rfl, ho, ob_s, mkP]
    dsimp only
    rw [e1, ob_s]
    dsimp only
    rw [if_neg hg', if_neg hg', h3, e2, ob_s]
    try dsimp only
    rw [if_neg hg', h4]
    rfl
  obtain ⟨x, hx⟩ := z_pkA (p := p + 1) (dp := dp) (f := f + 1) (i := i) (r0 := r) (b := b) (A := s2 f r A) hT (by omega)
  rcases hb with ⟨rfl, hb⟩ | ⟨rfl, hb, hl⟩
  · left
    refine ⟨hb, ?_⟩
    by_cases w : x = 123
    · subst w
      obtain ⟨mK', u, g⟩ := yesB 1 hx z_op1
      refine ⟨_, _, _, _, _, _, _, _, _, D, u, g, h2, ?_⟩
      simp only [List.length_append, List.length_cons, List.length_nil] at hC ⊢
      omega
    · obtain ⟨mK', mN', u, g1, g2⟩ := noB x w hx
      refine ⟨_, _, _, _, _, _, _, _, _, _, u, g1, g2, ?_⟩
      simp only [List.length_append, List.length_cons] at hC ⊢
      omega
  · right
    refine ⟨hb, hl, ?_⟩
    rcases e : T.drop (p + 1) with _ | ⟨c, s⟩
    · left
      refine ⟨fun q => (by cases q), noB 0 (by decide) (z_pk0 hT e (by omega))⟩
    · obtain ⟨w1, w2, w3⟩ := z_dc e
      have hc := (hT.2.2 _ c w2).2.1
      by_cases w : c = 123
      · subst w
        right
        obtain ⟨b2, hb2, ho⟩ := z_opb (dp := dp) (f := f + 1) (i := i) (r0 := r) (A := s2 f r A) hT hl 123 123 rfl (by omega) (by omega) (by omega)
        rcases hb2 with ⟨_, h | h⟩ | ⟨rfl, _, _, hl2⟩
        · rw [e, pTok, if_pos rfl] at h; cases h
        · omega
        · exact ⟨rfl, hl2, yesB 0 (z_pk1 hT e) ho⟩
      · left
        exact ⟨fun q => w (by cases q; rfl), noB (nI c) (fun q => w ((nI_eq (b := 123) (by omega) (by omega)).mp q)) (z_pk1 hT e)⟩
/-- the end of an if with two rows -/
theorem z_st4 {q u : Nat} (hT : TXM mT T) (hp : p ≤ T.length) (hB : B ≤ 256) (hf : f < 80) (hS : A.2.1 f = 4) (hq : A.2.2.2.1 f = nI (B + C.length)) (h4 : A.2.2.2.2.2.2.1 f = nI (B + (C ++ (1, 0, q) :: M).length)) (h1 : KV B O mK (C ++ (1, 0, q) :: M ++ (10, u, 0) :: M2)) (h2 : NV B O mN D) (hC : (C ++ (1, 0, q) :: M ++ (10, u, 0) :: M2).length < 255) (hD : D.length < 256) :
    ∃ b mK' mN', TKB T 125 p b ∧ f8_stepStatement (nI f) mT (q1, q2, nI B, q4, q5) mK mN (mkP p (dp + 1) (f + 1) i r 0 A) = some (mK', mN', mkP (p + 1) dp f i (nI (B + D.length)) b A) ∧ KV B O mK' (C ++ (1, B + C.length + 1 + (M ++ (10, B + (C ++ (1, 0, q) :: M).length + 1 + M2.length, 0) :: M2).length, q) :: (M ++ (10, B + (C ++ (1, 0, q) :: M).length + 1 + M2.length, 0) :: M2)) ∧ NV B O mN' (D ++ [(7, A.2.2.1 f, A.2.2.2.2.1 f, r, nI q)]) := by
  have hP : (C ++ (1, 0, q) :: M).length < 255 := by rw [List.length_append] at hC; omega
  have hCl : C.length < 255 := by rw [List.length_append] at hP; omega
  have hg := z_gd (n := f) (N := 80) (by omega) (by omega)
  have hn := z_nat (n := f) (by omega)
  have hg' : ¬ (nI f < 0 ∨ 80 ≤ f) := by rw [hn] at hg; exact hg
  obtain ⟨b, hb, e0⟩ := z_clb (dp := dp) (f := f + 1) (i := i) (r0 := r) (A := A) hT hp 125 125 rfl (by omega) (by omega)
  have h1' := h1
  rw [List.append_assoc, List.cons_append] at h1'
  have hss := z_ss h1'
  have hq' : A.2.2.2.1 (nI f).toNatClampNeg = nI (B + C.length) := by rw [hn, hq]
  have hqg := z_gd (n := B + C.length) (N := 512) (by omega) (by omega)
  obtain ⟨mK1, e1, g1⟩ := z_land (mQ := (q1, q2, nI B, q4, q5)) rfl h1 hB (by omega) (x := nI (B + (C ++ (1, 0, q) :: M).length)) rfl
  obtain ⟨mN1, e2, g2⟩ := z_create (mQ := (q1, q2, nI B, q4, q5)) rfl h2 hB hD 7 7 (A.2.2.1 f) (A.2.2.2.2.1 f) r (nI q) rfl
  rw [List.append_assoc, List.cons_append] at g1
  obtain ⟨mK2, e3, g3⟩ := z_end (q1 := q1) (q2 := q2) (q4 := q4) (q5 := q5) (p := p + 1) (dp := dp) (i := i) (r := r) (b := b) (n := nI (B + D.length)) (f := f) (A := A) hB (by omega) hq g1 (by omega)
  refine ⟨b, mK2, mN1, hb, ?_, g3, g2⟩
  obtain ⟨t1, t2⟩ := mT
  obtain ⟨a1, a2, a3, a4⟩ := mK
  obtain ⟨b1, b2, b3, b4, b5, b6⟩ := mN
  dsimp only at hss
  rw [mkP] at e0 e3 ⊢
  have hx : (nI (B + C.length)).toNatClampNeg = B + C.length := z_nat (by omega)
  have s4 : A.2.1 (nI f).toNatClampNeg = (4 : Int32) := by rw [hn, hS]
  rw [f8_stepStatement, if_neg hg, s4, if_neg (by decide), if_neg hg, hq', if_neg hqg, hx, hss, nm_v, if_neg hg, if_neg (by decide), if_neg (by decide), if_neg (by decide), if_pos rfl, e0, ob_s, mkP]
  dsimp only
  rw [if_neg hg, hn, h4, e1, ob_s]
  try dsimp only
  rw [if_neg hg', if_neg hg', e2, ob_s]
  dsimp only
  rw [e3]
  rfl
/-- the end of a while -/
theorem z_st6 {q u : Nat} (hT : TXM mT T) (hp : p ≤ T.length) (hB : B ≤ 256) (hf : f < 80) (hS : A.2.1 f = 6) (hq : A.2.2.2.1 f = nI (B + C.length)) (h3 : A.2.2.2.2.2.1 f = nI (B + (C ++ (1, 0, q) :: M).length)) (h4 : A.2.2.2.2.2.2.1 f = nI u) (h1 : KV B O mK (C ++ (1, 0, q) :: M ++ (9, 0, 0) :: M2)) (h2 : NV B O mN D) (hC : (C ++ (1, 0, q) :: M ++ (9, 0, 0) :: M2).length < 255) (hD : D.length < 256) :
    ∃ b mK' mN', TKB T 125 p b ∧ f8_stepStatement (nI f) mT (q1, q2, nI B, q4, q5) mK mN (mkP p (dp + 1) (f + 1) i r 0 A) = some (mK', mN', mkP (p + 1) dp f i (nI (B + D.length)) b A) ∧ KV B O mK' (C ++ (1, B + C.length + 1 + (M ++ (9, B + (C ++ (1, 0, q) :: M).length + 1 + (M2 ++ [(10, u, 0)]).length, 0) :: (M2 ++ [(10, u, 0)])).length, q) :: (M ++ (9, B + (C ++ (1, 0, q) :: M).length + 1 + (M2 ++ [(10, u, 0)]).length, 0) :: (M2 ++ [(10, u, 0)]))) ∧ NV B O mN' (D ++ [(8, A.2.2.1 f, r, 0, nI q)]) := by
  have hP : (C ++ (1, 0, q) :: M).length < 255 := by rw [List.length_append] at hC; omega
  have hCl : C.length < 255 := by rw [List.length_append] at hP; omega
  have hg := z_gd (n := f) (N := 80) (by omega) (by omega)
  have hn := z_nat (n := f) (by omega)
  have hg' : ¬ (nI f < 0 ∨ 80 ≤ f) := by rw [hn] at hg; exact hg
  obtain ⟨b, hb, e0⟩ := z_clb (dp := dp) (f := f + 1) (i := i) (r0 := r) (A := A) hT hp 125 125 rfl (by omega) (by omega)
  have h1' := h1
  rw [List.append_assoc, List.cons_append] at h1'
  have hss := z_ss h1'
  have hq' : A.2.2.2.1 (nI f).toNatClampNeg = nI (B + C.length) := by rw [hn, hq]
  have hqg := z_gd (n := B + C.length) (N := 512) (by omega) (by omega)
  obtain ⟨mK0, e5, g5⟩ := z_emit (mQ := (q1, q2, nI B, q4, q5)) rfl h1 hB (by omega) 10 u 0 (x1 := 10) (x2 := nI u) (x3 := -1) rfl rfl rfl
  rw [List.append_assoc, List.cons_append] at g5
  obtain ⟨mK1, e1, g1⟩ := z_land (mQ := (q1, q2, nI B, q4, q5)) rfl g5 hB (by omega) (x := nI (B + (C ++ (1, 0, q) :: M).length)) rfl
  obtain ⟨mN1, e2, g2⟩ := z_create (mQ := (q1, q2, nI B, q4, q5)) rfl h2 hB hD 8 8 (A.2.2.1 f) r 0 (nI q) rfl
  rw [List.append_assoc, List.cons_append] at g1
  obtain ⟨mK2, e3, g3⟩ := z_end (q1 := q1) (q2 := q2) (q4 := q4) (q5 := q5) (p := p + 1) (dp := dp) (i := i) (r := r) (b := b) (n := nI (B + D.length)) (f := f) (A := A) hB (by omega) hq g1 (by omega)
  refine ⟨b, mK2, mN1, hb, ?_, g3, g2⟩
  obtain ⟨t1, t2⟩ := mT
  obtain ⟨a1, a2, a3, a4⟩ := mK
  obtain ⟨c1, c2, c3, c4⟩ := mK0
  obtain ⟨b1, b2, b3, b4, b5, b6⟩ := mN
  dsimp only at hss
  rw [mkP] at e0 e3 ⊢
  have hx : (nI (B + C.length)).toNatClampNeg = B + C.length := z_nat (by omega)
  have s6 : A.2.1 (nI f).toNatClampNeg = (6 : Int32) := by rw [hn, hS]
  rw [f8_stepStatement, if_neg hg, s6, if_neg (by decide), if_neg hg, hq', if_neg hqg, hx, hss, nm_v, if_neg hg, if_neg (by decide), if_neg (by decide), if_neg (by decide), if_neg (by decide), if_neg (by decide), if_pos rfl, e0, ob_s, mkP]
  dsimp only
  rw [if_neg hg, hn, h4, e5, ob_s]
  dsimp only
  rw [if_neg hg', h3, e1, ob_s]
  try dsimp only
  rw [if_neg hg', e2, ob_s]
  dsimp only
  rw [e3]
  rfl
end
