/-! rows -/
section
variable {k : KT} {N : Nat} {mT : MdT} {T : List Nat} {B : Nat} {O : MdK × MdN} {q1 q2 q4 q5 : Int32} {dp d F p f i i0 : Nat} {r b : Int32} {A : Arr} {mK : MdK} {mN : MdN} {D : List Nde}
/-- a statement's frame -/
theorem z_stt (hT : TXM mT T) (hB : B ≤ 256) (hd : dp + d = 4) (hF : F + 2 < 80) (hE : BS k N mT (q1, q2, nI B, q4, q5) T B O 5 (pEx d) dp (F + 1) (fun _ => mEx d) (nEx B d) (fun m x => nid B m (nEx B d m x)) 1) (hC : BS k N mT (q1, q2, nI B, q4, q5) T B O 2 (pCo d) dp (F + 1) (mCo d) (nCo B d) (fun m x => nid B m (nCo B d m x)) 1)
    (hR : ∀ e, d = e + 1 → BS k N mT (q1, q2, nI B, q4, q5) T B O 0 (pRow (pSt e (pBSub e)) 60) (dp + 1) (F + 1) (mRow (mSt e (mBSub e))) (nRow B (nSt B e (nBSub B e))) (fun m l => nRix B m l (nRow B (nSt B e (nBSub B e)) m l)) 0) :
    BS k N mT (q1, q2, nI B, q4, q5) T B O 1 (pSt d (pBSub d)) dp F (mSt d (mBSub d)) (nSt B d (nBSub B d)) (fun m x => nid B m (nSt B d (nBSub B d) m x)) 1 := by
  intro p f i r A mK mN C D h1 h2 h3 a1 a2 a3 hK hN lC lD
  by_cases hh : ∀ c s, T.drop p = c :: s → c ≠ 63 ∧ c ≠ 64
  · have sp : pSt d (pBSub d) p (T.drop p) = (pSm d p (T.drop p)).bind fun x => some (.inl x.1, x.2.1, x.2.2) := by
      rcases e : T.drop p with _ | ⟨c, s⟩
      · rfl
      · have := hh c s e
        rw [pSt, if_neg (by omega)]
    rw [sp]
    exact BZ.map (h := Sum.inl) (z_smp hT hB hF hE hC h1 h2 h3 a1 a2 hK hN lC lD hh) AG.refl (fun x => rfl) (fun x => rfl) (fun x => rfl) (fun x p' h => h) (fun x p' h => h)
  · obtain ⟨c, s, e, hc⟩ : ∃ c s, T.drop p = c :: s ∧ (c = 63 ∨ c = 64) := by
      rcases e : T.drop p with _ | ⟨c, s⟩
      · exact absurd (fun c s h => by rw [e] at h; cases h) hh
      · refine ⟨c, s, rfl, ?_⟩
        by_cases w : c = 63 ∨ c = 64
        · exact w
        · exact absurd (fun c' s' h => by rw [e] at h; cases h; omega) hh
    have sp : pSt d (pBSub d) p (T.drop p) = (pBSub d p (T.drop p)).bind fun x => some (.inr x.1, x.2.1, x.2.2) := by rw [e, pSt, if_pos hc]
    rw [sp]
    rcases d with _ | d
    · have := z_b0 (S := BSubT 0) (mc := fun j x => mBSub 0 j x) (nd := fun m x => nBSub B 0 m x) (id := fun m x => nid B m (nBSub B 0 m x)) (k := k) hT hB (by omega) hF hC (i := i) (r := r) h1 h2 h3 a1 a2 hK hN lC lD e hc
      exact BZ.map (h := Sum.inr) (r := pBSub 0 p (T.drop p)) this AG.refl (fun x => rfl) (fun x => rfl) (fun x => rfl) (fun x p' h => h) (fun x p' h => h)
    · exact BZ.map (h := Sum.inr) (z_b1 hT hB (by omega) hF hC (hR d rfl) h1 h2 h3 a1 a2 hK hN lC lD e hc) AG.refl (fun x => rfl) (fun x => rfl) (fun x => rfl) (fun x p' h => h) (fun x p' h => h)
theorem z_sp0 {mQ : MdQ} (hf : f < 80) (h : A.1 f = 0) {mN' : MdN} {P' : MdP} (e : f8_stepRow N (nI f) mT mQ mN (mkP p dp (f + 1) i r b A) = some (mN', P')) : f8_step N (nI f) mT mQ mK mN (mkP p dp (f + 1) i r b A) = some (mK, mN', P') := by
  obtain ⟨t1, t2⟩ := mT
  obtain ⟨q1, q2, q3, q4, q5⟩ := mQ
  obtain ⟨a1, a2, a3, a4⟩ := mK
  obtain ⟨b1, b2, b3, b4, b5, b6⟩ := mN
  have hg := z_gd hf (by omega)
  rw [mkP] at e ⊢
  rw [f8_step, if_neg hg, z_nat (by omega), if_pos h, e]
  rfl
theorem z_r0 {mQ : MdQ} (hf : f < 80) (h : A.2.1 f = 0) : f8_stepRow N (nI f) mT mQ mN (mkP p dp (f + 1) i r b A) = f8_stepRow_L52 N mT.1 mT.2 mQ.1 mQ.2.1 mQ.2.2.1 mQ.2.2.2.1 mQ.2.2.2.2 (nI f) mN (mkP p dp (f + 1) i r b (s0 f (nI i) A)) := by
  obtain ⟨t1, t2⟩ := mT
  obtain ⟨q1, q2, q3, q4, q5⟩ := mQ
  obtain ⟨b1, b2, b3, b4, b5, b6⟩ := mN
  have hg := z_gd hf (by omega)
  have hn := z_nat (n := f) (by omega)
  have hS : A.2.1 (nI f).toNatClampNeg = 0 := by rw [hn, h]
  rw [mkP, f8_stepRow, if_neg hg, if_pos hS, if_neg hg, f8_stepRow_L19, if_neg hg, hS, if_neg (by decide), hn]
  rfl
theorem z_r1 {mQ : MdQ} (hf : f < 80) (hi : i < 64) (h : A.2.1 f = 1) : f8_stepRow N (nI f) mT mQ mN (mkP p dp (f + 1) i r b A) = f8_stepRow_L52 N mT.1 mT.2 mQ.1 mQ.2.1 mQ.2.2.1 mQ.2.2.2.1 mQ.2.2.2.2 (nI f) mN (mkP p dp (f + 1) (i + 1) r b (sI i r A)) := by
  obtain ⟨t1, t2⟩ := mT
  obtain ⟨q1, q2, q3, q4, q5⟩ := mQ
  obtain ⟨b1, b2, b3, b4, b5, b6⟩ := mN
  have hg := z_gd hf (by omega)
  have hgi := z_gd hi (by omega)
  have hn := z_nat (n := f) (by omega)
  have hS : A.2.1 (nI f).toNatClampNeg = 1 := by rw [hn, h]
  rw [mkP, f8_stepRow, if_neg hg, hS, if_neg (by decide), f8_stepRow_L19, if_neg hg, hS, if_pos rfl, if_neg hgi, z_nat (n := i) (by omega), nI_1]
  rfl
/-- the items that are there, the last first -/
def IT (I : Nat → Int32) (i0 : Nat) : List Int32 → Prop
  | [] => True
  | x :: R => I (i0 + R.length) = x ∧ IT I i0 R
theorem IT.same {I J : Nat → Int32} {i0 : Nat} {R : List Int32} (h : ∀ j, j < i0 + R.length → I j = J j) (hI : IT I i0 R) : IT J i0 R := by
  induction R with
  | nil => trivial
  | cons x R ih =>
    have h : ∀ j, j < i0 + R.length + 1 → I j = J j := h
    exact ⟨(h _ (by omega)).symm.trans hI.1, ih (fun j hj => h j (by omega)) hI.2⟩
def lid (B m : Nat) (v : Int32) (R : List Int32) : Int32 := match R with
  | [] => v
  | _ :: R' => nI (B + m + R'.length)
theorem z_l94 {kk : Int32 → MdN → MdP → Option (MdN × MdP)} (hB : B ≤ 256) (hf : f < 80) (h0 : A.2.2.1 f = nI i0) : ∀ (R : List Int32) (v : Int32) (mN : MdN) (D : List Nde), i0 + R.length ≤ 64 → IT A.2.2.2.2.2.2.2 i0 R → NV B O mN D → D.length + R.length ≤ 256 →
    ∃ mN', (∀ N n, R.length < n → f8_stepRow_L94 kk N mT.1 mT.2 q1 q2 (nI B) q4 q5 n (nI f) v mN (mkP p dp (f + 1) (i0 + R.length) r b A) = kk (lid B D.length v R) mN' (mkP p dp (f + 1) i0 r b A)) ∧ NV B O mN' (D ++ nLst B v D.length R) := by
  intro R
  have hg := z_gd hf (by omega)
  have hn := z_nat (n := f) (by omega)
  have hh : A.2.2.1 (nI f).toNatClampNeg = nI i0 := by rw [hn, h0]
  induction R with
  | nil =>
    intro v mN D h2 h3 h4 h5
    refine ⟨mN, fun N n h1 => ?_, by rw [nLst, List.append_nil]; exact h4⟩
    obtain ⟨n, rfl⟩ : ∃ m, n = m + 1 := ⟨n - 1, by simp only [List.length_nil] at h1; omega⟩
    obtain ⟨b1, b2, b3, b4, b5, b6⟩ := mN
    have h2 : i0 ≤ 64 := by simp only [List.length_nil] at h2; omega
    rw [mkP, f8_stepRow_L94, if_neg hg, hh]
    exact if_pos ((nI_leI (by simp only [List.length_nil]; omega) (by omega)).mpr (by simp only [List.length_nil]; omega))
  | cons x R ih =>
    intro v mN D h2 h3 h4 h5
    rw [List.length_cons] at h2 h5
    obtain ⟨mN1, e1, g1⟩ := z_create (mQ := (q1, q2, nI B, q4, q5)) rfl h4 hB (by omega) 11 11 x v 0 (-1) rfl
    obtain ⟨mN2, e2, g2⟩ := ih (nI (B + D.length)) mN1 _ (by omega) h3.2 g1 (by rw [List.length_append]; simp only [List.length_cons, List.length_nil]; omega)
    have L1 : (D ++ [((11 : Nat), x, v, (0 : Int32), (-1 : Int32))]).length = D.length + 1 := by rw [List.length_append]; rfl
    refine ⟨mN2, ?_, ?_⟩
    · intro N n h1
      rw [List.length_cons] at h1
      obtain ⟨n, rfl⟩ : ∃ m, n = m + 1 := ⟨n - 1, by omega⟩
      have e2 := e2 N n (by omega)
      have lx : lid B D.length v (x :: R) = lid B (D ++ [((11 : Nat), x, v, (0 : Int32), (-1 : Int32))]).length (nI (B + D.length)) R := by
        cases R with
        | nil => rfl
        | cons y R =>
          show nI (B + D.length + (R.length + 1)) = nI (B + _ + R.length)
          rw [L1]; congr 1; omega
      rw [lx, ← e2]
      have hx := h3.1
      obtain ⟨b1, b2, b3, b4, b5, b6⟩ := mN
      have hle : ¬ nI (i0 + (R.length + 1)) ≤ nI i0 := fun q => absurd ((nI_leI (by omega) (by omega)).mp q) (by omega)
      have hs : nI (i0 + (R.length + 1)) - 1 = nI (i0 + R.length) := by rw [← Nat.add_assoc, ← nI_1, Int32.add_sub_cancel]
      rw [mkP, f8_stepRow_L94, if_neg hg, hh, if_neg (by rw [List.length_cons]; exact hle), List.length_cons, hs, if_neg (z_gd (n := i0 + R.length) (N := 64) (by omega) (by omega)), z_nat (n := i0 + R.length) (by omega), hx, e1, ob_s]
      rfl
    · rw [L1] at g2
      rw [nLst]
      rw [List.append_assoc, List.cons_append, List.nil_append] at g2
      exact g2
/-- a row goes on -/
theorem z_l52p {c : Nat} {s : List Nat} (hT : TXM mT T) (hf : f + 1 < 80) (e : T.drop p = c :: s) (hc : c ≠ 125 ∨ dp = 0) (hd : dp < 2 ^ 20) : f8_stepRow_L52 N mT.1 mT.2 q1 q2 (nI B) q4 q5 (nI f) mN (mkP p dp (f + 1) i r 0 A) = some (mN, mkP p dp (f + 2) i r 0 (pshA (f + 1) 1 (sS f 1 A))) := by
  have h60 := hT.2.1
  obtain ⟨w1, w2, w3⟩ := z_dc e
  have hc128 := (hT.2.2 p c w2).2.1
  have pk := z_pk1 (dp := dp) (f := f + 1) (i := i) (r0 := r) (A := sS f 1 A) (b := 0) hT e
  have h := z_pu (p := p) (dp := dp) (f := f + 1) (i := i) (r0 := r) (b := 0) (A := sS f 1 A) (k := 1) hf
  have hg := z_gd (n := f) (N := 80) (by omega) (by omega)
  have hn := z_nat (n := f) (by omega)
  have ht := hT.1
  obtain ⟨t1, t2⟩ := mT
  obtain ⟨b1, b2, b3, b4, b5, b6⟩ := mN
  dsimp only at ht
  subst ht
  rw [mkP] at pk h ⊢
  rw [f8_stepRow_L52, if_neg hg, if_neg (fun q => absurd ((nI_leI (by omega) (by omega)).mp q) (by omega)), hn, pk, ob_s]
  by_cases w : c = 125
  · rw [if_pos (nl_eq c 125 125 rfl w), if_pos (nl_eq dp 0 0 rfl (by omega)), h]
    rfl
  · rw [if_neg (nl_ne c 125 125 rfl w (by omega) (by omega)), h]
    rfl
/-- a row ends -/
theorem z_l52e {R : List Int32} (hT : TXM mT T) (hB : B ≤ 256) (hf : f + 1 < 80) (hp : p ≤ T.length) (hN : 64 < N) (e : T.drop p = [] ∨ ∃ s, T.drop p = 125 :: s ∧ dp ≠ 0) (hd : dp < 2 ^ 20) (h0 : A.2.2.1 f = nI i0) (hi : i0 + R.length ≤ 64) (hI : IT A.2.2.2.2.2.2.2 i0 R) (h4 : NV B O mN D) (h5 : D.length + R.length ≤ 256) :
    ∃ mN', (∀ j, f8_stepRow_L52 (N + j) mT.1 mT.2 q1 q2 (nI B) q4 q5 (nI f) mN (mkP p dp (f + 1) (i0 + R.length) r 0 A) = some (mN', mkP p dp f i0 (lid B D.length (-1) R) 0 (sS f 1 A))) ∧ NV B O mN' (D ++ nLst B (-1) D.length R) := by
  have h60 := hT.2.1
  have hg := z_gd (n := f) (N := 80) (by omega) (by omega)
  have hn := z_nat (n := f) (by omega)
  obtain ⟨mN', e1, g1⟩ := z_l94 (mT := mT) (q1 := q1) (q2 := q2) (q4 := q4) (q5 := q5) (p := p) (dp := dp) (r := r) (b := 0) (kk := fun x2 mN' mP' => (f8_finish x2 mP').bind fun P => some (mN', P)) (f := f) (A := sS f 1 A) hB (by omega) h0 R (-1) mN D hi hI h4 h5
  refine ⟨mN', fun j => ?_, g1⟩
  have hfi := z_fi (p := p) (dp := dp) (f := f) (i := i0) (r0 := r) (b := 0) (A := sS f 1 A) (v := lid B D.length (-1) R)
  have e1' := (e1 (N + j) (N + j) (by omega)).trans (show _ = some (mN', mkP p dp f i0 (lid B D.length (-1) R) 0 (sS f 1 A)) by rw [hfi]; rfl)
  have ht := hT.1
  have pk1 := fun c s (h : T.drop p = c :: s) => z_pk1 (dp := dp) (f := f + 1) (i := i0 + R.length) (r0 := r) (A := sS f 1 A) (b := 0) (c := c) (s := s) hT h
  obtain ⟨t1, t2⟩ := mT
  obtain ⟨b1, b2, b3, b4, b5, b6⟩ := mN
  dsimp only at ht
  subst ht
  rcases e with e | ⟨s, e, hd0⟩
  · have hl := List.drop_eq_nil_iff.mp e
    rw [mkP] at e1' ⊢
    rw [f8_stepRow_L52, if_neg hg, if_pos ((nI_leI (by omega) (by omega)).mpr hl), hn]
    exact e1'
  · obtain ⟨w1, w2, w3⟩ := z_dc e
    have pk := pk1 125 s e
    rw [mkP] at e1' pk ⊢
    rw [f8_stepRow_L52, if_neg hg, if_neg (fun q => absurd ((nI_leI (by omega) (by omega)).mp q) (by omega)), hn, pk, ob_s, if_pos (nl_eq 125 125 125 rfl rfl), if_neg (nl_ne dp 0 0 rfl hd0 (by omega) (by omega))]
    exact e1'
end
