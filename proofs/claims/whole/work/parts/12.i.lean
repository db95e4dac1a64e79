/-! atoms -/
theorem z_a1 : ∀ c, c < 128 → (isCmp c = true → nI c = (60 : Int32) ∨ nI c = (62 : Int32) ∨ nI c = (61 : Int32) ∨ nI c = (35 : Int32)) ∧ (isCmp c = false → ¬ nI c = (60 : Int32) ∧ ¬ nI c = (62 : Int32) ∧ ¬ nI c = (61 : Int32) ∧ ¬ nI c = (35 : Int32)) := by decide +kernel
section
variable {k : KT} {N : Nat} {mT : MdT} {T : List Nat} {B : Nat} {O : MdK × MdN} {q1 q2 q4 q5 : Int32} {mK : MdK} {mN : MdN} {p dp f i c F : Nat} {r b : Int32} {A : Arr} {C : List Mce} {D : List Nde}
/-- ] -/
theorem z_at1 {mQ : MdQ} (hT : TXM mT T) (hp : p ≤ T.length) (hf : f < 80) (hS : A.2.1 f = 1) :
    ∃ b, (b = 1 ∧ pTok 93 p (T.drop p) = none ∨ b = 0 ∧ pTok 93 p (T.drop p) = some (p + 1, T.drop (p + 1)) ∧ p + 1 ≤ T.length) ∧ f8_stepAtom (nI f) mT mQ mK mN (mkP p (dp + 1) (f + 1) i r 0 A) = some (mK, mN, mkP (p + 1) dp f i r b A) := by
  obtain ⟨b, h1, h2⟩ := z_clb (dp := dp) (f := f + 1) (i := i) (r0 := r) (A := A) hT hp 93 93 rfl (by omega) (by omega)
  refine ⟨b, h1, ?_⟩
  have h3 := z_fi (p := p + 1) (dp := dp) (f := f) (i := i) (r0 := r) (b := b) (A := A) (v := r)
  have hg := z_gd (n := f) (N := 80) (by omega) (by omega)
  have hS' : A.2.1 (nI f).toNatClampNeg = 1 := by rw [z_nat (by omega)]; exact hS
  have hS0 : ¬ A.2.1 (nI f).toNatClampNeg = 0 := by rw [hS']; decide
  obtain ⟨t1, t2⟩ := mT
  obtain ⟨q1, q2, q3, q4, q5⟩ := mQ
  obtain ⟨a1, a2, a3, a4⟩ := mK
  obtain ⟨b1, b2, b3, b4, b5, b6⟩ := mN
  rw [mkP] at h2 ⊢
  rw [f8_stepAtom, if_neg hg, if_neg hS0, if_pos hS', h2, ob_s]
  show (f8_finish r (mkP (p + 1) dp (f + 1) i r b A)).bind _ = _
  rw [h3]
  rfl
/-- [ -/
theorem z_at0 {mQ : MdQ} (hT : TXM mT T) (hf : f + 1 < 80) (hd : dp ≤ 4) (hS : A.2.1 f = 0) {s : List Nat} (h : T.drop p = 91 :: s) :
    ∃ b, (b = 1 ∧ dp = 4 ∨ b = 0 ∧ dp < 4) ∧ f8_stepAtom (nI f) mT mQ mK mN (mkP p dp (f + 1) i r 0 A) = some (mK, mN, mkP (p + 1) (dp + 1) (f + 2) i r b (pshA (f + 1) 2 (sS f 1 A))) := by
  have hp := (z_dc h).1
  obtain ⟨b, h1, h2⟩ := z_opb (dp := dp) (f := f + 1) (i := i) (r0 := r) (A := sS f 1 A) hT (Nat.le_of_lt hp) 91 91 rfl (by omega) (by omega) hd
  refine ⟨b, ?_, ?_⟩
  · rcases h1 with ⟨e, h1 | h1⟩ | ⟨e, h1, _⟩
    · rw [h] at h1; cases h1
    · exact .inl ⟨e, h1⟩
    · exact .inr ⟨e, h1⟩
  have pk := z_pk1 (dp := dp) (f := f + 1) (i := i) (r0 := r) (A := A) (b := 0) hT h
  have h3 := z_pu (p := p + 1) (dp := dp + 1) (f := f + 1) (i := i) (r0 := r) (b := b) (A := sS f 1 A) (k := 2) hf
  have hg := z_gd (n := f) (N := 80) (by omega) (by omega)
  have hn := z_nat (n := f) (by omega)
  have hg' : ¬ (nI f < 0 ∨ 80 ≤ f) := by rw [hn] at hg; exact hg
  have hS' : A.2.1 (nI f).toNatClampNeg = 0 := by rw [hn, hS]
  obtain ⟨t1, t2⟩ := mT
  obtain ⟨q1, q2, q3, q4, q5⟩ := mQ
  obtain ⟨a1, a2, a3, a4⟩ := mK
  obtain ⟨b1, b2, b3, b4, b5, b6⟩ := mN
  rw [mkP] at h2 h3 pk ⊢
  rw [f8_stepAtom, if_neg hg, if_pos hS', pk, ob_s, if_pos (nl_eq 91 91 91 rfl rfl), f8_stepAtom_L51, if_neg hg, if_neg hg, hn, if_pos z_upd_e, h2, ob_s, mkP]
  dsimp only
  rw [f8_stepAtom_L68, if_neg hg, hn, if_pos z_upd_e, h3]
  rfl
/-- neither -/
theorem z_at0n {mQ : MdQ} (hT : TXM mT T) (hp : p ≤ T.length) (hf : f + 1 < 80) (hS : A.2.1 f = 0) (h : (T.drop p).head? ≠ some 91) :
    f8_stepAtom (nI f) mT mQ mK mN (mkP p dp (f + 1) i r 0 A) = some (mK, mN, mkP p dp (f + 2) i r 0 (pshA (f + 1) 5 (sS f 2 A))) := by
  have h60 := hT.2.1
  obtain ⟨c, hc1, hc2, pk⟩ : ∃ c, c < 128 ∧ c ≠ 91 ∧ f8_peek mT (mkP p dp (f + 1) i r 0 A) = some (nI c) := by
    rcases e : T.drop p with _ | ⟨c, s⟩
    · exact ⟨0, by omega, by omega, z_pk0 hT e (by omega)⟩
    · exact ⟨c, (hT.2.2 p c (z_dc e).2.1).2.1, fun q => h (by rw [e, q]; rfl), z_pk1 hT e⟩
  have h3 := z_pu (p := p) (dp := dp) (f := f + 1) (i := i) (r0 := r) (b := 0) (A := sS f 2 A) (k := 5) hf
  have hg := z_gd (n := f) (N := 80) (by omega) (by omega)
  have hn := z_nat (n := f) (by omega)
  have hg' : ¬ (nI f < 0 ∨ 80 ≤ f) := by rw [hn] at hg; exact hg
  have hS' : A.2.1 (nI f).toNatClampNeg = 0 := by rw [hn, hS]
  have h21 : ¬ upd A.2.1 f 2 f = (1 : Int32) := by rw [z_upd_e]; decide
  obtain ⟨t1, t2⟩ := mT
  obtain ⟨q1, q2, q3, q4, q5⟩ := mQ
  obtain ⟨a1, a2, a3, a4⟩ := mK
  obtain ⟨b1, b2, b3, b4, b5, b6⟩ := mN
  rw [mkP] at h3 pk ⊢
  rw [f8_stepAtom, if_neg hg, if_pos hS', pk, ob_s, if_neg (nl_ne c 91 91 rfl hc2 (by omega) (by omega)), f8_stepAtom_L51, if_neg hg, if_neg hg, hn, if_neg h21, f8_stepAtom_L68, if_neg hg, hn, if_neg h21, h3]
  rfl
/-- the sign of a comparison -/
theorem z_at2 (hT : TXM mT T) (hp : p ≤ T.length) (hf : f + 1 < 80) (hS : A.2.1 f = 2) :
    ∃ b, (b = 1 ∧ (∀ c s, T.drop p = c :: s → isCmp c = false) ∨ b = 0 ∧ ∃ c, T.drop p = c :: T.drop (p + 1) ∧ isCmp c = true ∧ p + 1 ≤ T.length ∧ T[p]? = some c) ∧ f8_stepAtom (nI f) mT (q1, q2, nI B, q4, q5) mK mN (mkP p dp (f + 1) i r 0 A) = some (mK, mN, mkP (p + 1) dp (f + 2) i r b (pshA (f + 1) 5 (s1 f (nI p) (s0 f r (sS f 3 A))))) := by
  have h60 := hT.2.1
  have hg := z_gd (n := f) (N := 80) (by omega) (by omega)
  have hn := z_nat (n := f) (by omega)
  have hS2 : A.2.1 (nI f).toNatClampNeg = 2 := by rw [hn, hS]
  have hS0 : ¬ A.2.1 (nI f).toNatClampNeg = 0 := by rw [hS2]; decide
  have hS1 : ¬ A.2.1 (nI f).toNatClampNeg = 1 := by rw [hS2]; decide
  have u149 : ∀ b, (b = 0 ∨ b = 1) → f8_stepAtom_L149 mT.1 mT.2 q1 q2 (nI B) q4 q5 (nI f) b mK mN (mkP p dp (f + 1) i r 0 A) = some (mK, mN, mkP (p + 1) dp (f + 2) i r b (pshA (f + 1) 5 (s1 f (nI p) (s0 f r (sS f 3 A))))) := by
    intro b hb
    have h3 := z_pu (p := p + 1) (dp := dp) (f := f + 1) (i := i) (r0 := r) (b := b) (A := s1 f (nI p) (s0 f r (sS f 3 A))) (k := 5) hf
    obtain ⟨a1, a2, a3, a4⟩ := mK
    obtain ⟨b1, b2, b3, b4, b5, b6⟩ := mN
    rw [mkP] at h3 ⊢
    rw [f8_stepAtom_L149, if_pos hb, if_neg hg, if_neg hg, if_neg hg, hn, nI_1, h3]
    rfl
  have main : ∀ c, c < 128 → f8_peek mT (mkP p dp (f + 1) i r 0 A) = some (nI c) → f8_stepAtom (nI f) mT (q1, q2, nI B, q4, q5) mK mN (mkP p dp (f + 1) i r 0 A) = some (mK, mN, mkP (p + 1) dp (f + 2) i r (if isCmp c = true then 0 else 1) (pshA (f + 1) 5 (s1 f (nI p) (s0 f r (sS f 3 A))))) := by
    intro c hc pk
    have k1 := z_a1 c hc
    have U0 := u149 0 (.inl rfl)
    have U1 := u149 1 (.inr rfl)
    obtain ⟨t1, t2⟩ := mT
    obtain ⟨a1, a2, a3, a4⟩ := mK
    obtain ⟨b1, b2, b3, b4, b5, b6⟩ := mN
    rw [mkP] at pk U0 U1 ⊢
    dsimp only at U0 U1
    rw [f8_stepAtom, if_neg hg, if_neg hS0, if_neg hS1, if_pos hS2, pk, ob_s, if_pos rfl, f8_stepAtom_L148, f8_stepAtom_L144, U0, U1]
    rcases e : isCmp c with _ | _
    · rw [if_neg (k1.2 e).1, if_neg (k1.2 e).2.1, if_neg (k1.2 e).2.2.1, if_neg (k1.2 e).2.2.2, if_neg (by decide)]
    · rw [if_pos rfl]
      by_cases w1 : nI c = (60 : Int32)
      · rw [if_pos w1]
      · rw [if_neg w1]
        by_cases w2 : nI c = (62 : Int32)
        · rw [if_pos w2]
        · rw [if_neg w2]
          by_cases w3 : nI c = (61 : Int32)
          · rw [if_pos w3]
          · rw [if_neg w3, if_pos ((((k1.1 e).resolve_left w1).resolve_left w2).resolve_left w3)]
  rcases e : T.drop p with _ | ⟨c, s⟩
  · exact ⟨1, .inl ⟨rfl, fun c s h => by cases h⟩, main 0 (by omega) (z_pk0 hT e (by omega))⟩
  · obtain ⟨w1, w2, w3⟩ := z_dc e
    refine ⟨_, ?_, main c (hT.2.2 p c w2).2.1 (z_pk1 hT e)⟩
    rcases ho : isCmp c with _ | _
    · exact .inl ⟨rfl, fun c' s' h => by cases h; exact ho⟩
    · exact .inr ⟨rfl, c, by rw [w3], ho, w1, w2⟩
/-- the comparison -/
theorem z_at3 {q : Nat} {v : Int32} (hT : TXM mT T) (hB : B ≤ 256) (hf : f < 80) (hS : A.2.1 f = 3) (h0 : A.2.2.1 f = v) (hq : A.2.2.2.1 f = nI q) (hqc : T[q]? = some c) (h1 : KV B O mK C) (h2 : NV B O mN D) (hC : C.length < 256) (hD : D.length < 256) :
    ∃ mK' mN', f8_stepAtom (nI f) mT (q1, q2, nI B, q4, q5) mK mN (mkP p dp (f + 1) i r b A) = some (mK', mN', mkP p dp f i (nI (B + D.length)) b A) ∧ KV B O mK' (C ++ [(6, c, q)]) ∧ NV B O mN' (D ++ [(4, nI c, v, r, nI q)]) := by
  have hg := z_gd (n := f) (N := 80) (by omega) (by omega)
  have h60 := hT.2.1
  have hql : q < T.length := (List.getElem?_eq_some_iff.mp hqc).1
  have hn := z_nat (n := f) (by omega)
  have hS3 : A.2.1 (nI f).toNatClampNeg = 3 := by rw [hn, hS]
  have hS0 : ¬ A.2.1 (nI f).toNatClampNeg = 0 := by rw [hS3]; decide
  have hS1 : ¬ A.2.1 (nI f).toNatClampNeg = 1 := by rw [hS3]; decide
  have hS2 : ¬ A.2.1 (nI f).toNatClampNeg = 2 := by rw [hS3]; decide
  have hq' : A.2.2.2.1 (nI f).toNatClampNeg = nI q := by rw [hn, hq]
  have hqg := z_gd (n := q) (N := 60) (by omega) (by omega)
  have hx := (hT.2.2 q c hqc).1
  have hv : A.2.2.1 (nI f).toNatClampNeg = v := by rw [hn, h0]
  obtain ⟨mK', e1, g1⟩ := z_emit (mQ := (q1, q2, nI B, q4, q5)) rfl h1 hB hC 6 c q (x1 := 6) (x2 := nI c) (x3 := nI q) rfl rfl rfl
  obtain ⟨mN', e2, g2⟩ := z_create (mQ := (q1, q2, nI B, q4, q5)) rfl h2 hB hD 4 4 (nI c) v r (nI q) rfl
  refine ⟨mK', mN', ?_, g1, g2⟩
  have h3 := z_fi (p := p) (dp := dp) (f := f) (i := i) (r0 := r) (b := b) (A := A) (v := nI (B + D.length))
  obtain ⟨t1, t2⟩ := mT
  obtain ⟨a1, a2, a3, a4⟩ := mK
  obtain ⟨b1, b2, b3, b4, b5, b6⟩ := mN
  dsimp only at hx
  rw [mkP] at h3 ⊢
  rw [f8_stepAtom, if_neg hg, if_neg hS0, if_neg hS1, if_neg hS2, if_neg hg, hq', if_neg hqg, if_neg hg, z_nat (n := q) (by omega), hx, e1, ob_s]
  dsimp only
  rw [if_neg hg, if_neg (by rw [z_nat (n := q) (by omega)] at hqg; exact hqg), if_neg hg, if_neg hg, hv, e2, ob_s]
  dsimp only
  rw [h3]
  rfl
theorem z_atm {S : Type} {d : Nat} {sub : Nat → List Nat → PR S} {mc : Nat → S → List Mce} {nd : Nat → S → List Nde} (hT : TXM mT T) (hB : B ≤ 256) (hd : dp ≤ 4) (hF : F + 2 < 80) (hE : BS k N mT (q1, q2, nI B, q4, q5) T B O 5 (pEx d) dp (F + 1) (fun _ => mEx d) (nEx B d) (fun m x => nid B m (nEx B d m x)) 1)
    (hsub : dp = 4 ∧ (∀ p s, sub p s = none) ∨ dp < 4 ∧ BS k N mT (q1, q2, nI B, q4, q5) T B O 2 sub (dp + 1) (F + 1) mc nd (fun m x => nid B m (nd m x)) 1) :
    BS k N mT (q1, q2, nI B, q4, q5) T B O 4 (pAt d sub) dp F (mAt d mc) (nAt B d nd) (fun m x => nid B m (nAt B d nd m x)) 1 := by
  intro p f i r A mK mN C D h1 h2 h3 a1 a2 a3 hK hN hC hD
  have h60 := hT.2.1
  have st := fun j => (z_sp (N := N + j) (mT := mT) (mQ := (q1, q2, nI B, q4, q5)) (f := f) (p := p) (dp := dp) (i := i) (r0 := r) (b := 0) (A := A) (mK := mK) (mN := mN) (by omega)).2.2.2.1 a1
  by_cases e91 : (T.drop p).head? = some 91
  · obtain ⟨s, e⟩ : ∃ s, T.drop p = 91 :: s := by
      rcases e : T.drop p with _ | ⟨c, s⟩
      · rw [e] at e91; cases e91
      · rw [e] at e91; cases e91; exact ⟨s, rfl⟩
    obtain ⟨w1, w2, w3⟩ := z_dc e
    obtain ⟨b, hb, u⟩ := z_at0 (mQ := (q1, q2, nI B, q4, q5)) (mK := mK) (mN := mN) (i := i) (r := r) hT (by omega) hd a2 e
    have go := GOS.step (k := k) (by omega) ((st _).trans u)
    rw [e, pAt, if_pos rfl, w3]
    rcases hsub with ⟨d4, hn⟩ | ⟨d4, hI⟩
    · rw [hn]
      rcases hb with ⟨rfl, _⟩ | ⟨_, hb⟩
      · exact BZ.bad go hK hN (by omega)
      · omega
    · obtain rfl : b = 0 := by
        rcases hb with ⟨_, hb⟩ | ⟨hb, _⟩
        · omega
        · exact hb
      refine BZ.go go (BZ.sub (hI (p + 1) (f + 1) i r _ mK mN C D (by omega) (by omega) (by omega) psh_at.1 psh_at.2.1 psh_at.2.2 hK hN (by omega) (by omega)) ?_)
      intro x p' A' mK' mN' g1 g2 g3 g4 g5 g6
      obtain ⟨⟨b1, b2, b3, b4, b5, b6, b7⟩, g7⟩ := g4.pop
      obtain ⟨b, hb, u⟩ := z_at1 (mQ := (q1, q2, nI B, q4, q5)) (mK := mK') (mN := mN') (dp := dp) (i := i) (r := nid B D.length (nd D.length x)) (f := f) (A := A') hT g1 (by omega) (b2.trans z_upd_e)
      have st2 := fun j => (z_sp (N := N + j) (mT := mT) (mQ := (q1, q2, nI B, q4, q5)) (f := f) (p := p') (dp := dp + 1) (i := i) (r0 := nid B D.length (nd D.length x)) (b := 0) (A := A') (mK := mK') (mN := mN') (by omega)).2.2.2.1 (b1.trans a1)
      refine BZ.tok hb (GOS.step (by omega) ((st2 _).trans u)) g5 g6 (by rw [List.length_append]; omega) ?_
      intro hl
      refine BZ.ret (GOS_refl) rfl ?_ ?_ ((AG.sS AG.refl).trans g7 (Nat.le_refl _) (Nat.le_refl _)) hl ?_ ?_
      · exact g5
      · exact g6
      · show 2 * p + (mc (B + C.length) x).length ≤ 2 * (p' + 1); omega
      · show 2 * p + (nd D.length x).length + 1 ≤ 2 * (p' + 1); omega
  · have sp : pAt d sub p (T.drop p) = (pCm d p (T.drop p)).bind fun x => some (.inl x.1, x.2.1, x.2.2) := by
      rcases e : T.drop p with _ | ⟨c, s⟩
      · rfl
      · rw [pAt, if_neg (fun q => e91 (by rw [e, q]; rfl))]
    rw [sp]
    have u := z_at0n (mQ := (q1, q2, nI B, q4, q5)) (mK := mK) (mN := mN) (dp := dp) (i := i) (r := r) hT h1 (by omega) a2 e91
    have key : BZ k N mT (q1, q2, nI B, q4, q5) T B O (mK, mN, mkP p dp (f + 1) i r 0 A) (pCm d p (T.drop p)) p dp f i A C D (mCm d) (nCm B d D.length) (fun x => nid B D.length (nCm B d D.length x)) 1 := by
      rw [pCm]
      refine BZ.go (GOS.step (by omega) ((st _).trans u)) (BZ.sub (hE p (f + 1) i r _ mK mN C D h1 (by omega) h3 psh_at.1 psh_at.2.1 psh_at.2.2 hK hN hC hD) ?_)
      intro x p' A' mK' mN' g1 g2 g3 g4 g5 g6
      have g2 : 2 * p + (mEx d x).length ≤ 2 * p' := g2
      have g5 : KV B O mK' (C ++ mEx d x) := g5
      obtain ⟨⟨b1, b2, b3, b4, b5, b6, b7⟩, g7⟩ := g4.pop
      obtain ⟨b, hb, u2⟩ := z_at2 (q1 := q1) (q2 := q2) (B := B) (q4 := q4) (q5 := q5) (mK := mK') (mN := mN') (dp := dp) (i := i) (r := nid B D.length (nEx B d D.length x)) (f := f) (A := A') hT g1 (by omega) (b2.trans z_upd_e)
      have st2 := fun j => (z_sp (N := N + j) (mT := mT) (mQ := (q1, q2, nI B, q4, q5)) (f := f) (p := p') (dp := dp) (i := i) (r0 := nid B D.length (nEx B d D.length x)) (b := 0) (A := A') (mK := mK') (mN := mN') (by omega)).2.2.2.1 (b1.trans a1)
      have go2 := GOS.step (k := k) (by omega) ((st2 _).trans u2)
      rcases hb with ⟨rfl, hn⟩ | ⟨rfl, c, e, ho, hl, hc⟩
      · dsimp only
        rcases e : T.drop p' with _ | ⟨c, s⟩
        · exact BZ.bad go2 g5 g6 (by rw [List.length_append]; omega)
        · dsimp only
          rw [if_neg (by rw [hn c s e]; decide)]
          exact BZ.bad go2 g5 g6 (by rw [List.length_append]; omega)
      · dsimp only
        rw [e]
        dsimp only
        rw [if_pos ho]
        refine BZ.go go2 (BZ.sub (hE (p' + 1) (f + 1) i _ _ mK' mN' _ _ hl (by omega) (by omega) psh_at.1 psh_at.2.1 psh_at.2.2 g5 g6 (by rw [List.length_append]; omega) (by rw [List.length_append]; omega)) ?_)
        intro y p2 A2 mK2 mN2 m1 m2 m3 m4 m5 m6
        have m2 : 2 * (p' + 1) + (mEx d y).length ≤ 2 * p2 := m2
        have m5 : KV B O mK2 (C ++ mEx d x ++ mEx d y) := m5
        rw [List.length_append] at m3
        obtain ⟨⟨c1, c2, c3, c4, c5, c6, c7⟩, m7⟩ := m4.pop
        obtain ⟨mK3, mN3, u3, n1, n2⟩ := z_at3 (q1 := q1) (q2 := q2) (q4 := q4) (q5 := q5) (p := p2) (dp := dp) (i := i) (f := f) (b := 0) (r := nid B (D ++ nEx B d D.length x).length (nEx B d (D ++ nEx B d D.length x).length y)) (A := A2) (c := c) (q := p') (v := nid B D.length (nEx B d D.length x)) hT hB (by omega) (c2.trans z_upd_e) (c3.trans z_upd_e) (c4.trans z_upd_e) hc m5 m6 (by simp only [List.length_append]; omega) (by simp only [List.length_append]; omega)
        have st3 := fun j => (z_sp (N := N + j) (mT := mT) (mQ := (q1, q2, nI B, q4, q5)) (f := f) (p := p2) (dp := dp) (i := i) (r0 := nid B (D ++ nEx B d D.length x).length (nEx B d (D ++ nEx B d D.length x).length y)) (b := 0) (A := A2) (mK := mK2) (mN := mN2) (by omega)).2.2.2.1 (c1.trans (b1.trans a1))
        have nl : (nCm B d D.length (x, p', c, y)).length = (nEx B d D.length x).length + (nEx B d (D.length + (nEx B d D.length x).length) y).length + 1 := by
          rw [nCm]; simp only [List.length_append, List.length_cons, List.length_nil]
        refine BZ.ret (GOS.step (by omega) ((st3 _).trans u3)) ?_ ?_ ?_ ?_ m1 ?_ ?_
        · show nI (B + (D ++ nEx B d D.length x ++ nEx B d (D ++ nEx B d D.length x).length y).length) = nI (B + D.length + (nCm B d D.length (x, p', c, y)).length - 1)
          rw [nl]; simp only [List.length_append]; congr 1; omega
        · rw [mCm]; simp only [List.append_assoc] at n1 ⊢; exact n1
        · rw [nCm]; rw [List.length_append] at n2; simp only [List.append_assoc] at n2 ⊢; exact n2
        · exact (AG.sS AG.refl).trans (g7.trans ((AG.s1 (AG.s0 (AG.sS AG.refl))).trans m7 (Nat.le_refl _) (Nat.le_refl _)) (Nat.le_refl _) (Nat.le_refl _)) (Nat.le_refl _) (Nat.le_refl _)
        · show 2 * p + (mCm d (x, p', c, y)).length ≤ 2 * p2; rw [mCm]; simp only [List.length_append, List.length_cons, List.length_nil]; omega
        · show 2 * p + (nCm B d D.length (x, p', c, y)).length + 1 ≤ 2 * p2; rw [nl]; omega
    exact BZ.map (h := Sum.inl) key AG.refl (fun x => rfl) (fun x => rfl) (fun x => rfl) (fun x p' h => h) (fun x p' h => h)
end
