/-! factors -/
section
variable {k : KT} {N : Nat} {mT : MdT} {T : List Nat} {B : Nat} {O : MdK × MdN} {q1 q2 q4 q5 : Int32} {mK : MdK} {mN : MdN} {p dp f i c F : Nat} {r b : Int32} {A : Arr} {C : List Mce} {D : List Nde}
theorem z_fc1 {mQ : MdQ} (hT : TXM mT T) (hp : p ≤ T.length) (hf : f < 80) (hS : A.2.1 f = 1) :
    ∃ b, (b = 1 ∧ pTok 41 p (T.drop p) = none ∨ b = 0 ∧ pTok 41 p (T.drop p) = some (p + 1, T.drop (p + 1)) ∧ p + 1 ≤ T.length) ∧ f8_stepFactor (nI f) mT mQ mK mN (mkP p (dp + 1) (f + 1) i r 0 A) = some (mK, mN, mkP (p + 1) dp f i r b A) := by
  obtain ⟨b, h1, h2⟩ := z_clb (dp := dp) (f := f + 1) (i := i) (r0 := r) (A := A) hT hp 41 41 rfl (by omega) (by omega)
  refine ⟨b, h1, ?_⟩
  have h3 := z_fi (p := p + 1) (dp := dp) (f := f) (i := i) (r0 := r) (b := b) (A := A) (v := r)
  have hg := z_gd (n := f) (N := 80) (by omega) (by omega)
  have hS' : A.2.1 (nI f).toNatClampNeg = 1 := by rw [z_nat (by omega)]; exact hS
  obtain ⟨t1, t2⟩ := mT
  obtain ⟨q1, q2, q3, q4, q5⟩ := mQ
  obtain ⟨a1, a2, a3, a4⟩ := mK
  obtain ⟨b1, b2, b3, b4, b5, b6⟩ := mN
  rw [mkP] at h2 ⊢
  rw [f8_stepFactor, if_neg hg, if_pos hS', h2, ob_s]
  show (f8_finish r (mkP (p + 1) dp (f + 1) i r b A)).bind _ = _
  rw [h3]
  rfl
theorem z_fc0 {mQ : MdQ} (hT : TXM mT T) (hf : f + 1 < 80) (hd : dp ≤ 4) (hS : A.2.1 f = 0) {s : List Nat} (h : T.drop p = 40 :: s) :
    ∃ b, (b = 1 ∧ dp = 4 ∨ b = 0 ∧ dp < 4) ∧ f8_stepFactor (nI f) mT mQ mK mN (mkP p dp (f + 1) i r 0 A) = some (mK, mN, mkP (p + 1) (dp + 1) (f + 2) i r b (pshA (f + 1) 5 (sS f 1 A))) := by
  have hp := (z_dc h).1
  obtain ⟨b, h1, h2⟩ := z_opb (dp := dp) (f := f + 1) (i := i) (r0 := r) (A := A) hT (Nat.le_of_lt hp) 40 40 rfl (by omega) (by omega) hd
  refine ⟨b, ?_, ?_⟩
  · rcases h1 with ⟨e, h1 | h1⟩ | ⟨e, h1, _⟩
    · rw [h] at h1; cases h1
    · exact .inl ⟨e, h1⟩
    · exact .inr ⟨e, h1⟩
  have pk := z_pk1 (dp := dp) (f := f + 1) (i := i) (r0 := r) (A := A) (b := 0) hT h
  have h3 := z_pu (p := p + 1) (dp := dp + 1) (f := f + 1) (i := i) (r0 := r) (b := b) (A := sS f 1 A) (k := 5) hf
  have hg := z_gd (n := f) (N := 80) (by omega) (by omega)
  have hS' : ¬ A.2.1 (nI f).toNatClampNeg = 1 := by rw [z_nat (by omega), hS]; decide
  obtain ⟨t1, t2⟩ := mT
  obtain ⟨q1, q2, q3, q4, q5⟩ := mQ
  obtain ⟨a1, a2, a3, a4⟩ := mK
  obtain ⟨b1, b2, b3, b4, b5, b6⟩ := mN
  rw [mkP] at h2 h3 pk ⊢
  rw [f8_stepFactor, if_neg hg, if_neg hS', pk, ob_s, if_pos (nl_eq 40 40 40 rfl rfl), h2, ob_s, mkP]
  dsimp only
  rw [if_neg hg, z_nat (by omega), h3]
  rfl
/-- a leaf, or nothing -/
theorem z_fcl (hT : TXM mT T) (hB : B ≤ 256) (hp : p ≤ T.length) (hf : f + 1 < 80) (hS : A.2.1 f = 0) (hc : (T.drop p).head? ≠ some 40) (h1 : KV B O mK C) (h2 : NV B O mN D) (hC : C.length < 200) (hD : D.length < 200) :
    (pLeaf p (T.drop p) = none ∧ ∃ mK' mN' p' f' r' C' D', f8_stepFactor (nI f) mT (q1, q2, nI B, q4, q5) mK mN (mkP p dp (f + 1) i r 0 A) = some (mK', mN', mkP p' dp f' i r' 1 A) ∧ KV B O mK' C' ∧ NV B O mN' D' ∧ C'.length < 256) ∨
    ∃ x p', pLeaf p (T.drop p) = some (x, p', T.drop p') ∧ p < p' ∧ p' ≤ T.length ∧ ∃ mK' mN', f8_stepFactor (nI f) mT (q1, q2, nI B, q4, q5) mK mN (mkP p dp (f + 1) i r 0 A) = some (mK', mN', mkP p' dp f i (nI (B + D.length)) 0 A) ∧ KV B O mK' (C ++ mLeaf x) ∧ NV B O mN' (D ++ nLeaf x) := by
  have h60 := hT.2.1
  have hg := z_gd (n := f) (N := 80) (by omega) (by omega)
  have hS' : ¬ A.2.1 (nI f).toNatClampNeg = 1 := by rw [z_nat (by omega), hS]; decide
  -- a bad constant
  have bad : ∀ c, c < 97 ∨ 102 < c → c < 128 → c ≠ 40 → c ≠ 120 → c ≠ 121 → ¬ (48 ≤ c ∧ c ≤ 57) → f8_peek mT (mkP p dp (f + 1) i r 0 A) = some (nI c) → ∃ mK' mN' p' f' r' C' D', f8_stepFactor (nI f) mT (q1, q2, nI B, q4, q5) mK mN (mkP p dp (f + 1) i r 0 A) = some (mK', mN', mkP p' dp f' i r' 1 A) ∧ KV B O mK' C' ∧ NV B O mN' D' ∧ C'.length < 256 := by
    intro c hc1 hc2 c40 c120 c121 hcd pk
    have hx : nI c < (48 : Int32) ∨ ¬ nI c ≤ (57 : Int32) := by
      by_cases w : c < 48
      · exact .inl (nl_lt c 48 48 rfl w (by omega))
      · exact .inr (fun q => hcd ⟨by omega, (nI_leI (b := 57) (by omega) (by omega)).mp q⟩)
    obtain ⟨mK', mN', p', r', e1, ⟨v, g1⟩, D', g2⟩ := z_cmb (q1 := q1) (q2 := q2) (q4 := q4) (q5 := q5) (dp := dp) (f := f) (i := i) (r0 := r) (A := A) (p := p) hT (by omega) h1 h2 hB (by omega) (by omega) hx
    refine ⟨mK', mN', p', f, r', _, D', ?_, g1, g2, by rw [List.length_append]; simp only [List.length_cons, List.length_nil]; omega⟩
    obtain ⟨t1, t2⟩ := mT
    obtain ⟨a1, a2, a3, a4⟩ := mK
    obtain ⟨b1, b2, b3, b4, b5, b6⟩ := mN
    rw [mkP] at e1 pk ⊢
    have n1 : ¬ nI c = (40 : Int32) := fun q => c40 ((nI_eq (b := 40) (by omega) (by omega)).mp q)
    have n2 : ¬ nI c = (120 : Int32) := fun q => c120 ((nI_eq (b := 120) (by omega) (by omega)).mp q)
    have n3 : ¬ nI c = (121 : Int32) := fun q => c121 ((nI_eq (b := 121) (by omega) (by omega)).mp q)
    rw [f8_stepFactor, if_neg hg, if_neg hS', pk, ob_s, if_neg n1, if_neg n2, if_neg n3]
    rcases hc1 with w | w
    · rw [if_pos (nl_lt c 97 97 rfl w (by omega)), e1]; rfl
    · rw [if_neg (nl_nlt c 97 97 rfl (by omega) (by omega)), if_pos (nl_gt c 102 102 rfl w (by omega)), e1]; rfl
  rcases e : T.drop p with _ | ⟨c, s⟩
  · exact .inl ⟨rfl, bad 0 (by omega) (by omega) (by omega) (by omega) (by omega) (by omega) (z_pk0 hT e (by omega))⟩
  · obtain ⟨w1, w2, w3⟩ := z_dc e
    have hc128 := (hT.2.2 p c w2).2.1
    have pk := z_pk1 (dp := dp) (f := f + 1) (i := i) (r0 := r) (A := A) (b := 0) hT e
    have c40 : c ≠ 40 := fun q => hc (by rw [e, q]; rfl)
    have n1 : ¬ nI c = (40 : Int32) := fun q => c40 ((nI_eq (b := 40) (by omega) (by omega)).mp q)
    by_cases hd : isDig c = true
    · have hdd : 48 ≤ c ∧ c ≤ 57 := by
        unfold isDig at hd; simp only [Bool.and_eq_true, decide_eq_true_eq] at hd; exact hd
      obtain ⟨v, p', g0, g1, g2, mK', mN', e1, g3, g4⟩ := z_cm (q1 := q1) (q2 := q2) (q4 := q4) (q5 := q5) (dp := dp) (f := f) (i := i) (r0 := r) (A := A) hT e hd h1 h2 hB (by omega) (by omega)
      refine .inr ⟨_, p', g0, g1, g2, mK', mN', ?_, g3, g4⟩
      obtain ⟨t1, t2⟩ := mT
      obtain ⟨a1, a2, a3, a4⟩ := mK
      obtain ⟨b1, b2, b3, b4, b5, b6⟩ := mN
      rw [mkP] at e1 pk ⊢
      rw [f8_stepFactor, if_neg hg, if_neg hS', pk, ob_s, if_neg n1, if_neg (nl_ne c 120 120 rfl (by omega) (by omega) (by omega)), if_neg (nl_ne c 121 121 rfl (by omega) (by omega) (by omega)), if_pos (nl_lt c 97 97 rfl (by omega) (by omega)), e1]
      rfl
    · have hdd : ¬ (48 ≤ c ∧ c ≤ 57) := fun q => hd (by unfold isDig; rw [decide_eq_true q.1, decide_eq_true q.2]; rfl)
      have sp : pLeaf p (c :: s) = (slotOf c).bind fun k => some (.inr (p, k), p + 1, s) := by rw [pLeaf.eq_def]; dsimp only; rw [if_neg hd]
      rw [sp]
      by_cases hxy : c = 120 ∨ c = 121
      · have hs : slotOf c = some (c - 114) := by rcases hxy with rfl | rfl <;> rfl
        obtain ⟨mK', mN', e1, g3, g4⟩ := z_f69 (mT := mT) (q1 := q1) (q2 := q2) (q4 := q4) (q5 := q5) (p := p) (dp := dp) (f := f) (i := i) (r0 := r) (b := 0) (A := A) h1 h2 hB (by omega) (by omega) c
        have m1 : mLeaf (.inr (p, c - 114)) = [(3, c, 0)] := by rcases hxy with rfl | rfl <;> rfl
        have m2 : nLeaf (.inr (p, c - 114)) = [(1, nI c, 0, 0, -1)] := by rcases hxy with rfl | rfl <;> rfl
        refine .inr ⟨.inr (p, c - 114), p + 1, by rw [hs, ← w3]; rfl, by omega, by omega, mK', mN', ?_, by rw [m1]; exact g3, by rw [m2]; exact g4⟩
        obtain ⟨t1, t2⟩ := mT
        obtain ⟨a1, a2, a3, a4⟩ := mK
        obtain ⟨b1, b2, b3, b4, b5, b6⟩ := mN
        rw [mkP] at e1 pk ⊢
        dsimp only at e1
        rw [f8_stepFactor, if_neg hg, if_neg hS', pk, ob_s, if_neg n1, e1]
        split
        · rfl
        · rw [if_pos]
          rcases hxy with rfl | rfl
          · exact absurd rfl (by assumption)
          · rfl
      · by_cases hv : 97 ≤ c ∧ c ≤ 102
        · have hs : slotOf c = some (c - 97) := by unfold slotOf; rw [if_pos hv]
          have hk : c - 97 < 6 := by omega
          have m1 : mLeaf (.inr (p, c - 97)) = [(4, c - 97, 0)] := by rw [mLeaf, if_pos hk]
          have m2 : nLeaf (.inr (p, c - 97)) = [(2, nI (c - 97), 0, 0, -1)] := by rw [nLeaf, if_pos hk]
          obtain ⟨mK', f1, g1⟩ := z_emit (mQ := (q1, q2, nI B, q4, q5)) rfl h1 hB (by omega) 4 (c - 97) 0 (x1 := 4) (x2 := nI c - 97) (x3 := -1) rfl (pk_sub (b := 97) hv.1) rfl
          obtain ⟨mN', f2, g2⟩ := z_create (mQ := (q1, q2, nI B, q4, q5)) rfl h2 hB (by omega) 2 2 (nI c - 97) 0 0 (-1) rfl
          have h3 := z_fi (p := p + 1) (dp := dp) (f := f) (i := i) (r0 := r) (b := 0) (A := A) (v := nI (B + D.length))
          refine .inr ⟨.inr (p, c - 97), p + 1, by rw [hs, ← w3]; rfl, by omega, by omega, mK', mN', ?_, by rw [m1]; exact g1, by rw [m2]; rw [show nI c - (97 : Int32) = nI (c - 97) from pk_sub (b := 97) hv.1] at g2; exact g2⟩
          obtain ⟨t1, t2⟩ := mT
          obtain ⟨a1, a2, a3, a4⟩ := mK
          obtain ⟨b1, b2, b3, b4, b5, b6⟩ := mN
          rw [mkP] at h3 pk ⊢
          rw [f8_stepFactor, if_neg hg, if_neg hS', pk, ob_s, if_neg n1, if_neg (nl_ne c 120 120 rfl (by omega) (by omega) (by omega)), if_neg (nl_ne c 121 121 rfl (by omega) (by omega) (by omega)), if_neg (nl_nlt c 97 97 rfl (by omega) (by omega)), if_neg (nl_ngt c 102 102 rfl (by omega) (by omega)), f1, ob_s]
          dsimp only
          rw [f2, ob_s]
          dsimp only
          rw [nI_1, h3]
          rfl
        · have hs : slotOf c = none := by unfold slotOf; rw [if_neg hv, if_neg (fun q => hxy (.inl q)), if_neg (fun q => hxy (.inr q))]
          exact .inl ⟨by rw [hs]; rfl, bad c (by omega) hc128 c40 (fun q => hxy (.inl q)) (fun q => hxy (.inr q)) hdd pk⟩
theorem z_fac {S : Type} {sub : Nat → List Nat → PR S} {mc : S → List Mce} {nd : Nat → S → List Nde} (hT : TXM mT T) (hB : B ≤ 256) (hd : dp ≤ 4) (hF : F + 2 < 80) (hsub : dp = 4 ∧ (∀ p s, sub p s = none) ∨ dp < 4 ∧ BS k N mT (q1, q2, nI B, q4, q5) T B O 5 sub (dp + 1) (F + 1) (fun _ => mc) nd (fun m x => nid B m (nd m x)) 1) :
    BS k N mT (q1, q2, nI B, q4, q5) T B O 7 (pFa sub) dp F (fun _ => mFa mc) (nFa nd) (fun m x => nid B m (nFa nd m x)) 1 := by
  intro p f i r A mK mN C D h1 h2 h3 a1 a2 a3 hK hN hC hD
  have h60 := hT.2.1
  have st := fun j => (z_sp (N := N + j) (mT := mT) (mQ := (q1, q2, nI B, q4, q5)) (f := f) (p := p) (dp := dp) (i := i) (r0 := r) (b := 0) (A := A) (mK := mK) (mN := mN) (by omega)).2.2.2.2.2.2 a1
  by_cases e40 : (T.drop p).head? = some 40
  · obtain ⟨s, e⟩ : ∃ s, T.drop p = 40 :: s := by
      rcases e : T.drop p with _ | ⟨c, s⟩
      · rw [e] at e40; cases e40
      · rw [e] at e40; cases e40; exact ⟨s, rfl⟩
    obtain ⟨w1, w2, w3⟩ := z_dc e
    obtain ⟨b, hb, u⟩ := z_fc0 (mQ := (q1, q2, nI B, q4, q5)) (mK := mK) (mN := mN) (i := i) (r := r) hT (by omega) hd a2 e
    have go := GOS.step (k := k) (by omega) ((st _).trans u)
    rw [e, pFa, if_pos rfl, w3]
    rcases hsub with ⟨d4, hn⟩ | ⟨d4, hI⟩
    · rw [hn]
      rcases hb with ⟨rfl, _⟩ | ⟨_, hb⟩
      · exact BZ.bad go hK hN (by omega)
      · omega
    · obtain rfl : b = 0 := by
        rcases hb with ⟨_, hb⟩ | ⟨hb, _⟩
        · omega
        · exact hb
      refine BZ.go go (BZ.sub (hI (p + 1) (f + 1) i r _ mK mN C D (by omega) (by omega) (by omega) psh_at.1 psh_at.2.1 psh_at.2.2 hK hN (by omega) (by omega)) ?_)
      intro x p' A' mK' mN' g1 g2 g3 g4 g5 g6
      obtain ⟨⟨b1, b2, b3, b4, b5, b6, b7⟩, g7⟩ := g4.pop
      obtain ⟨b, hb, u⟩ := z_fc1 (mQ := (q1, q2, nI B, q4, q5)) (mK := mK') (mN := mN') (dp := dp) (i := i) (r := nid B D.length (nd D.length x)) (f := f) (A := A') hT g1 (by omega) (b2.trans z_upd_e)
      have st2 := fun j => (z_sp (N := N + j) (mT := mT) (mQ := (q1, q2, nI B, q4, q5)) (f := f) (p := p') (dp := dp + 1) (i := i) (r0 := nid B D.length (nd D.length x)) (b := 0) (A := A') (mK := mK') (mN := mN') (by omega)).2.2.2.2.2.2 (b1.trans a1)
      refine BZ.tok hb (GOS.step (by omega) ((st2 _).trans u)) g5 g6 (by rw [List.length_append]; omega) ?_
      intro hl
      refine BZ.ret (GOS_refl) rfl ?_ ?_ ((AG.sS AG.refl).trans g7 (Nat.le_refl _) (Nat.le_refl _)) hl ?_ ?_
      · exact g5
      · exact g6
      · have g2 : 2 * (p + 1) + (mc x).length ≤ 2 * p' := g2
        show 2 * p + (mc x).length ≤ 2 * (p' + 1); omega
      · show 2 * p + (nd D.length x).length + 1 ≤ 2 * (p' + 1); omega
  · have sp : pFa sub p (T.drop p) = (pLeaf p (T.drop p)).bind fun x => some (.inl x.1, x.2.1, x.2.2) := by
      rcases e : T.drop p with _ | ⟨c, s⟩
      · rfl
      · rw [pFa, if_neg (fun q => e40 (by rw [e, q]; rfl))]
    rw [sp]
    rcases z_fcl (q1 := q1) (q2 := q2) (q4 := q4) (q5 := q5) (dp := dp) (f := f) (i := i) (r := r) (A := A) hT hB h1 (by omega) a2 e40 hK hN (by omega) (by omega) with ⟨e, mK', mN', p', f', r', C', D', u, g1, g2, g3⟩ | ⟨x, p', e, l1, l2, mK', mN', u, g1, g2⟩
    · rw [e]
      exact BZ.bad (GOS.step (by omega) ((st _).trans u)) g1 g2 g3
    · rw [e]
      have z1 : (mLeaf x).length = 1 := by
        rcases x with x | ⟨a, b⟩
        · rfl
        · rw [mLeaf]; split <;> rfl
      have z2 : (nLeaf x).length = 1 := by
        rcases x with x | ⟨a, b⟩
        · rfl
        · rw [nLeaf]; split <;> rfl
      refine BZ.ret (GOS.step (by omega) ((st _).trans u)) ?_ g1 g2 AG.refl l2 ?_ ?_
      · show _ = nI (B + D.length + (nLeaf x).length - 1)
        rw [z2]; rfl
      · show 2 * p + (mLeaf x).length ≤ 2 * p'; omega
      · show 2 * p + (nLeaf x).length + 1 ≤ 2 * p'; omega
end
