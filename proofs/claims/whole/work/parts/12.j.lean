/-! conditions -/
def ZC (Y : Int32) (sg : Nat) (X : Int32) : Prop := Y = 2 ∧ sg = 124 ∧ X = 3 ∨ Y = 3 ∧ sg = 38 ∧ X = 4
section
variable {k : KT} {N : Nat} {mT : MdT} {T : List Nat} {B : Nat} {O : MdK × MdN} {q1 q2 q4 q5 : Int32} {mK : MdK} {mN : MdN} {p dp f i sg F : Nat} {r b X Y : Int32} {A : Arr} {C : List Mce} {D : List Nde}
theorem z_spC {mQ : MdQ} (hY : ZC Y sg X) (hf : f < 80) (h : A.1 f = Y) : f8_step N (nI f) mT mQ mK mN (mkP p dp (f + 1) i r b A) = f8_stepChain (nI f) (nI sg) X mT mQ mK mN (mkP p dp (f + 1) i r b A) := by
  rcases hY with ⟨rfl, rfl, rfl⟩ | ⟨rfl, rfl, rfl⟩
  · exact (z_sp hf).2.1 h
  · exact (z_sp hf).2.2.1 h
theorem z_ch0 {mQ : MdQ} {s : Int32} (hf : f + 1 < 80) (hS : A.2.1 f = 0) : f8_stepChain (nI f) s X mT mQ mK mN (mkP p dp (f + 1) i r b A) = some (mK, mN, mkP p dp (f + 2) i r b (pshA (f + 1) X (sS f 1 A))) := by
  have h := z_pu (p := p) (dp := dp) (f := f + 1) (i := i) (r0 := r) (b := b) (A := sS f 1 A) (k := X) hf
  have hg := z_gd (n := f) (N := 80) (by omega) (by omega)
  have hS' : A.2.1 (nI f).toNatClampNeg = 0 := by rw [z_nat (by omega)]; exact hS
  obtain ⟨t1, t2⟩ := mT
  obtain ⟨q1, q2, q3, q4, q5⟩ := mQ
  obtain ⟨a1, a2, a3, a4⟩ := mK
  obtain ⟨b1, b2, b3, b4, b5, b6⟩ := mN
  rw [mkP] at h ⊢
  rw [f8_stepChain, if_neg hg, if_pos hS', if_neg hg, z_nat (by omega), h]
  rfl
theorem z_ch1 {s : Int32} (hf : f + 1 < 80) (hS : A.2.1 f = 1) (h0 : A.2.2.1 f = -1) : f8_stepChain (nI f) s X mT (q1, q2, nI B, q4, q5) mK mN (mkP p dp (f + 1) i r b A) = f8_stepChain_L88 mT.1 mT.2 q1 q2 (nI B) q4 q5 (nI f) s X mK mN (mkP p dp (f + 1) i r b (s0 f r A)) := by
  have hg := z_gd (n := f) (N := 80) (by omega) (by omega)
  have hS' : ¬ A.2.1 (nI f).toNatClampNeg = 0 := by rw [z_nat (by omega), hS]; decide
  have h0' : A.2.2.1 (nI f).toNatClampNeg = -1 := by rw [z_nat (by omega), h0]
  obtain ⟨t1, t2⟩ := mT
  obtain ⟨a1, a2, a3, a4⟩ := mK
  obtain ⟨b1, b2, b3, b4, b5, b6⟩ := mN
  rw [mkP, f8_stepChain, if_neg hg, if_neg hS', if_neg hg, if_pos h0', if_neg hg, z_nat (by omega)]
  rfl
theorem z_ch2 {s v : Int32} {q kk vv : Nat} {M : List Mce} (hB : B ≤ 256) (hf : f + 1 < 80) (hS : A.2.1 f = 1) (h0 : A.2.2.1 f = v) (hv : ¬ v = -1) (hq : A.2.2.2.1 f = nI (B + C.length)) (hk : hasSt kk = true) (h1 : KV B O mK (C ++ (kk, vv, q) :: M)) (h2 : NV B O mN D) (hC : C.length < 256) (hD : D.length < 256) :
    ∃ mK' mN', f8_stepChain (nI f) s X mT (q1, q2, nI B, q4, q5) mK mN (mkP p dp (f + 1) i r b A) = f8_stepChain_L88 mT.1 mT.2 q1 q2 (nI B) q4 q5 (nI f) s X mK' mN' (mkP p dp (f + 1) i r b (s0 f (nI (B + D.length)) A)) ∧ KV B O mK' (C ++ (kk, B + C.length + 1 + M.length, q) :: M) ∧ NV B O mN' (D ++ [(5, s, v, r, nI q)]) := by
  have hg := z_gd (n := f) (N := 80) (by omega) (by omega)
  have hn := z_nat (n := f) (by omega)
  have hS' : ¬ A.2.1 (nI f).toNatClampNeg = 0 := by rw [hn, hS]; decide
  have hv' : A.2.2.1 (nI f).toNatClampNeg = v := by rw [hn, h0]
  have h0' : ¬ A.2.2.1 (nI f).toNatClampNeg = -1 := by rw [hv']; exact hv
  have hq' : A.2.2.2.1 (nI f).toNatClampNeg = nI (B + C.length) := by rw [hn, hq]
  have hqg := z_gd (n := B + C.length) (N := 512) (by omega) (by omega)
  obtain ⟨mK', e1, g1⟩ := z_land (mQ := (q1, q2, nI B, q4, q5)) rfl h1 hB hC (x := nI (B + C.length)) rfl
  obtain ⟨mN', e2, g2⟩ := z_create (mQ := (q1, q2, nI B, q4, q5)) rfl h2 hB hD 5 5 s v r (nI q) rfl
  refine ⟨mK', mN', ?_, g1, g2⟩
  have hst := (g1.2.1 C.length _ (by rw [List.getElem?_append_right (Nat.le_refl _), Nat.sub_self]; rfl)).2.2
  rw [if_pos hk] at hst
  obtain ⟨t1, t2⟩ := mT
  obtain ⟨a1, a2, a3, a4⟩ := mK
  obtain ⟨b1, b2, b3, b4, b5, b6⟩ := mN
  obtain ⟨c1, c2, c3, c4⟩ := mK'
  dsimp only at hst
  rw [mkP, f8_stepChain, if_neg hg, if_neg hS', if_neg hg, if_neg h0', if_neg hg, hq', e1, ob_s]
  dsimp only
  rw [if_neg hg, if_neg hg, if_neg hqg, z_nat (n := B + C.length) (by omega), hst, hv', e2, ob_s]
  dsimp only
  rw [if_neg hg, hn]
  rfl
theorem z_c88a {C : List Mce} (hY : ZC Y sg X) (hB : B ≤ 256) (hf : f + 1 < 80) (hp : f8_peek mT (mkP p dp (f + 1) i r b A) = some (nI sg)) (h1 : KV B O mK C) (hC : C.length < 256) :
    ∃ mK', f8_stepChain_L88 mT.1 mT.2 q1 q2 (nI B) q4 q5 (nI f) (nI sg) X mK mN (mkP p dp (f + 1) i r b A) = some (mK', mN, mkP (p + 1) dp (f + 2) i r b (pshA (f + 1) X (s1 f (nI (B + C.length)) A))) ∧ KV B O mK' (C ++ [(shK sg, 0, p)]) := by
  have hg := z_gd (n := f) (N := 80) (by omega) (by omega)
  have hn := z_nat (n := f) (by omega)
  have h3 := z_pu (p := p + 1) (dp := dp) (f := f + 1) (i := i) (r0 := r) (b := b) (A := s1 f (nI (B + C.length)) A) (k := X) hf
  have ht : hasSt (shK sg) = true := by unfold shK; split <;> rfl
  obtain ⟨mK', e1, g1⟩ := z_emit (mQ := (q1, q2, nI B, q4, q5)) rfl h1 hB hC (shK sg) 0 p (x1 := nI (shK sg)) (x2 := 0) (x3 := nI p) rfl rfl (by rw [if_pos ht])
  refine ⟨mK', ?_, g1⟩
  obtain ⟨t1, t2⟩ := mT
  obtain ⟨a1, a2, a3, a4⟩ := mK
  obtain ⟨b1, b2, b3, b4, b5, b6⟩ := mN
  rw [mkP] at hp h3 ⊢
  rw [f8_stepChain_L88, hp, ob_s, if_pos rfl]
  rcases hY with ⟨rfl, rfl, rfl⟩ | ⟨rfl, rfl, rfl⟩
  · rw [if_neg (by decide), f8_stepChain_L126]
    have e1' : f8_emit 15 0 (nI p) (q1, q2, nI B, q4, q5) (a1, a2, a3, a4) = some (nI (B + C.length), mK') := e1
    rw [e1', ob_s]
    dsimp only
    rw [if_neg hg, hn, nI_1, h3]
    rfl
  · rw [if_pos (by decide), f8_stepChain_L126]
    have e1' : f8_emit 7 0 (nI p) (q1, q2, nI B, q4, q5) (a1, a2, a3, a4) = some (nI (B + C.length), mK') := e1
    rw [e1', ob_s]
    dsimp only
    rw [if_neg hg, hn, nI_1, h3]
    rfl
theorem z_c88b {c : Nat} (hsg : sg < 128) (hc : c < 128) (hn : c ≠ sg) (hf : f + 1 < 80) (hp : f8_peek mT (mkP p dp (f + 1) i r b A) = some (nI c)) : f8_stepChain_L88 mT.1 mT.2 q1 q2 (nI B) q4 q5 (nI f) (nI sg) X mK mN (mkP p dp (f + 1) i r b A) = some (mK, mN, mkP p dp f i (A.2.2.1 f) b A) := by
  have hg := z_gd (n := f) (N := 80) (by omega) (by omega)
  have h2 := z_fi (p := p) (dp := dp) (f := f) (i := i) (r0 := r) (b := b) (A := A) (v := A.2.2.1 f)
  obtain ⟨t1, t2⟩ := mT
  obtain ⟨a1, a2, a3, a4⟩ := mK
  obtain ⟨b1, b2, b3, b4, b5, b6⟩ := mN
  rw [mkP] at hp h2 ⊢
  rw [f8_stepChain_L88, hp, ob_s, if_neg (fun q => hn ((nI_eq (by omega) (by omega)).mp q)), if_neg hg, z_nat (n := f) (by omega), h2]
  rfl
variable {α : Type} {item : Nat → List Nat → PR α} {mc0 : Nat → α → List Mce} {nd0 : Nat → α → List Nde}
theorem z_chL (hT : TXM mT T) (hB : B ≤ 256) (hY : ZC Y sg X) (hf : f + 2 < 80) (hF : f + 1 ≤ F) (hI : BS k N mT (q1, q2, nI B, q4, q5) T B O X item dp F mc0 nd0 (fun m x => nid B m (nd0 m x)) 1) :
    ∀ n p A mK mN C D v r st, T.length ≤ p + n → p ≤ T.length → i ≤ p → A.1 f = Y → A.2.1 f = 1 → A.2.2.1 f = v → ¬ v = -1 → KV B O mK C → NV B O mN D → C.length ≤ 2 * p → D.length + 1 ≤ 2 * p → (∀ st', f8_stepChain_L88 mT.1 mT.2 q1 q2 (nI B) q4 q5 (nI f) (nI sg) X mK mN (mkP p dp (f + 1) i r 0 A) = some st' → GOS k N mT (q1, q2, nI B, q4, q5) st st') →
      BZ k N mT (q1, q2, nI B, q4, q5) T B O st (pMore item (fun c => c == sg) n p (T.drop p)) p dp f i A C D (mMoC mc0 (B + C.length)) (nMoE 5 B nd0 v D.length) (fun y => cid B D.length v (nMoE 5 B nd0 v D.length y)) 0 := by
  have h60 := hT.2.1
  have hsg : sg < 128 ∧ sg ≠ 0 := by rcases hY with ⟨_, rfl, _⟩ | ⟨_, rfl, _⟩ <;> exact ⟨by omega, by omega⟩
  have ht : hasSt (shK sg) = true := by unfold shK; split <;> rfl
  have stop : ∀ p A mK mN C D v r st, p ≤ T.length → i ≤ p → A.2.2.1 f = v → KV B O mK C → NV B O mN D → (∀ st', f8_stepChain_L88 mT.1 mT.2 q1 q2 (nI B) q4 q5 (nI f) (nI sg) X mK mN (mkP p dp (f + 1) i r 0 A) = some st' → GOS k N mT (q1, q2, nI B, q4, q5) st st') → ∀ c, c < 128 → c ≠ sg → f8_peek mT (mkP p dp (f + 1) i r 0 A) = some (nI c) → BZ k N mT (q1, q2, nI B, q4, q5) T B O st (some ([], p, T.drop p)) p dp f i A C D (mMoC mc0 (B + C.length)) (nMoE 5 B nd0 v D.length) (fun y => cid B D.length v (nMoE 5 B nd0 v D.length y)) 0 := by
    intro p A mK mN C D v r st h2 h3 a3 hK hN hst c hc ho pk
    have hs := hst _ (z_c88b hsg.1 hc ho (by omega) pk)
    refine BZ.ret hs a3 (by rw [mMoC, List.append_nil]; exact hK) (by rw [nMoE, List.append_nil]; exact hN) AG.refl h2 ?_ ?_
    · rw [mMoC]; simp only [List.length_nil]; omega
    · rw [nMoE]; simp only [List.length_nil]; omega
  intro n
  induction n with
  | zero =>
    intro p A mK mN C D v r st h1 h2 h3 a1 a2 a3 hv hK hN hC hD hst
    have e : T.drop p = [] := List.drop_eq_nil_iff.mpr (by omega)
    rw [pMore]
    exact stop p A mK mN C D v r st h2 h3 a3 hK hN hst 0 (by omega) (fun q => hsg.2 q.symm) (z_pk0 hT e (by omega))
  | succ n ih =>
    intro p A mK mN C D v r st h1 h2 h3 a1 a2 a3 hv hK hN hC hD hst
    rcases e : T.drop p with _ | ⟨c, s⟩
    · rw [pMore, ← e]
      exact stop p A mK mN C D v r st h2 h3 a3 hK hN hst 0 (by omega) (fun q => hsg.2 q.symm) (z_pk0 hT e (by omega))
    · obtain ⟨w1, w2, w3⟩ := z_dc e
      have hc := (hT.2.2 p c w2).2.1
      have pk := z_pk1 (dp := dp) (f := f + 1) (i := i) (r0 := r) (A := A) (b := 0) hT e
      rw [pMore]
      by_cases ho : c = sg
      · subst ho
        rw [if_pos (by simp), w3]
        obtain ⟨mK1, u0, k1⟩ := z_c88a (mN := mN) (q1 := q1) (q2 := q2) (q4 := q4) (q5 := q5) hY hB (by omega) pk hK (by omega)
        have hs := hst _ u0
        have LC : (C ++ [(shK c, 0, p)]).length = C.length + 1 := by rw [List.length_append]; rfl
        refine BZ.go hs (BZ.sub (hI (p + 1) (f + 1) i r _ mK1 mN _ D (by omega) (by omega) (by omega) psh_at.1 psh_at.2.1 psh_at.2.2 k1 hN (by omega) (by omega)) ?_)
        intro x p' A' mK' mN' g1 g2 g3 g4 g5 g6
        rw [LC] at g2 g5
        obtain ⟨⟨b1, b2, b3, b4, b5, b6, b7⟩, g7⟩ := g4.pop
        rw [List.append_assoc, List.cons_append, List.nil_append] at g5
        obtain ⟨mK2, mN2, u1, u2, u3⟩ := z_ch2 (q1 := q1) (q2 := q2) (q4 := q4) (q5 := q5) (X := X) (s := nI c) (p := p') (dp := dp) (i := i) (r := nid B D.length (nd0 D.length x)) (b := 0) (q := p) (v := v) (A := A') (mT := mT) hB (f := f) (by omega) (b2.trans a2) (b3.trans a3) hv (b4.trans z_upd_e) ht g5 g6 (by omega) (by rw [List.length_append]; omega)
        have hst2 : ∀ st', f8_stepChain_L88 mT.1 mT.2 q1 q2 (nI B) q4 q5 (nI f) (nI c) X mK2 mN2 (mkP p' dp (f + 1) i (nid B D.length (nd0 D.length x)) 0 (s0 f (nI (B + (D ++ nd0 D.length x).length)) A')) = some st' → GOS k N mT (q1, q2, nI B, q4, q5) (mK', mN', mkP p' dp (f + 1) i (nid B D.length (nd0 D.length x)) 0 A') st' := by
          intro st' h
          exact GOS.step (by omega) ((z_spC hY (by omega) (b1.trans a1)).trans (u1.trans h))
        have L1 : (D ++ nd0 D.length x ++ [(5, nI c, v, nid B D.length (nd0 D.length x), nI p)]).length = D.length + (nd0 D.length x).length + 1 := by simp only [List.length_append, List.length_cons, List.length_nil]
        have L2 : (C ++ (shK c, B + C.length + 1 + (mc0 (B + (C.length + 1)) x).length, p) :: mc0 (B + (C.length + 1)) x).length = C.length + 1 + (mc0 (B + (C.length + 1)) x).length := by simp only [List.length_append, List.length_cons]; omega
        have := ih p' (s0 f (nI (B + (D ++ nd0 D.length x).length)) A') mK2 mN2 _ _ _ (nid B D.length (nd0 D.length x)) (mK', mN', mkP p' dp (f + 1) i (nid B D.length (nd0 D.length x)) 0 A') (by omega) g1 (by omega) (b1.trans a1) (b2.trans a2) z_upd_e (z_m1 (by rw [List.length_append]; omega)) u2 u3 (by omega) (by omega) hst2
        refine BZ.map (h := fun y => (p, c, x) :: y) this ?_ ?_ ?_ ?_ ?_ ?_
        · exact AG.s0 ((AG.s1 AG.refl).trans g7 (Nat.le_refl _) (Nat.le_refl _))
        · intro y; rw [mMoC, L2]; simp only [List.append_assoc, List.cons_append, Nat.add_assoc]
        · intro y; rw [nMoE, L1, List.length_append, ← Nat.add_assoc]; simp only [List.append_assoc, List.cons_append, List.nil_append]
        · intro y; (try dsimp only); rw [nMoE, L1, List.length_append, ← Nat.add_assoc]; exact cid_cons
        · intro y p2 h; rw [mMoC]; rw [L2] at h; simp only [List.length_append, List.length_cons, ← Nat.add_assoc] at h g2 ⊢; omega
        · intro y p2 h; rw [nMoE]; rw [L1, List.length_append, ← Nat.add_assoc] at h; simp only [List.length_append, List.length_cons]; omega
      · rw [if_neg (by simp [ho]), ← e]
        exact stop p A mK mN C D v r st h2 h3 a3 hK hN hst c hc ho pk
theorem z_chn (hT : TXM mT T) (hB : B ≤ 256) (hY : ZC Y sg X) (hF : F + 2 < 80) (hI : BS k N mT (q1, q2, nI B, q4, q5) T B O X item dp (F + 1) mc0 nd0 (fun m x => nid B m (nd0 m x)) 1) :
    BS k N mT (q1, q2, nI B, q4, q5) T B O Y (pChn item (fun c => c == sg)) dp F (mChC mc0) (nChE 5 B nd0) (fun m x => nid B m (nChE 5 B nd0 m x)) 1 := by
  intro p f i r A mK mN C D h1 h2 h3 a1 a2 a3 hK hN hC hD
  have h60 := hT.2.1
  rw [pChn]
  refine BZ.go (GOS.step (by omega) ((z_spC hY (by omega) a1).trans (z_ch0 (by omega) a2))) (BZ.sub (hI p (f + 1) i r _ mK mN C D h1 (by omega) h3 psh_at.1 psh_at.2.1 psh_at.2.2 hK hN hC hD) ?_)
  intro x p' A' mK' mN' g1 g2 g3 g4 g5 g6
  obtain ⟨⟨b1, b2, b3, b4, b5, b6, b7⟩, g7⟩ := g4.pop
  have hs1 := z_ch1 (X := X) (mT := mT) (q1 := q1) (q2 := q2) (B := B) (q4 := q4) (q5 := q5) (mK := mK') (mN := mN') (p := p') (dp := dp) (i := i) (r := nid B D.length (nd0 D.length x)) (b := 0) (f := f) (A := A') (s := nI sg) (by omega) (b2.trans z_upd_e) (b3.trans a3)
  have hst : ∀ st', f8_stepChain_L88 mT.1 mT.2 q1 q2 (nI B) q4 q5 (nI f) (nI sg) X mK' mN' (mkP p' dp (f + 1) i (nid B D.length (nd0 D.length x)) 0 (s0 f (nid B D.length (nd0 D.length x)) A')) = some st' → GOS k N mT (q1, q2, nI B, q4, q5) (mK', mN', mkP p' dp (f + 1) i (nid B D.length (nd0 D.length x)) 0 A') st' := by
    intro st' h
    exact GOS.step (by omega) ((z_spC hY (by omega) (b1.trans a1)).trans (hs1.trans h))
  have := z_chL (i := i) hT hB hY (f := f) (by omega) (by omega) hI 60 p' (s0 f (nid B D.length (nd0 D.length x)) A') mK' mN' (C ++ mc0 (B + C.length) x) (D ++ nd0 D.length x) _ _ _ (by omega) g1 (by omega) (b1.trans a1) (b2.trans z_upd_e) z_upd_e (nid_ne (by omega)) g5 g6 (by rw [List.length_append]; omega) (by rw [List.length_append]; omega) hst
  refine BZ.map (h := fun y => (x, y)) this ?_ ?_ ?_ ?_ ?_ ?_
  · exact AG.s0 ((AG.sS AG.refl).trans g7 (Nat.le_refl _) (Nat.le_refl _))
  · intro y; rw [mChC, List.length_append, List.append_assoc, Nat.add_assoc]
  · intro y; rw [nChE, List.length_append, List.append_assoc]
  · intro y; (try dsimp only); rw [nChE, List.length_append, cid_app]
  · intro y p2 h; rw [mChC]; rw [List.length_append, ← Nat.add_assoc] at h; simp only [List.length_append]; omega
  · intro y p2 h; rw [nChE]; rw [List.length_append] at h; simp only [List.length_append]; omega
end
