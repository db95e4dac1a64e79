/-! numbers beside written ones -/
theorem nl_ne (c n : Nat) (x : Int32) (hx : x = nI n) (h : c ≠ n) (hc : c < 2 ^ 31) (hn : n < 2 ^ 31) : ¬ nI c = x := fun q => h ((nI_eq hc hn).mp (q.trans hx))
theorem nl_eq (c n : Nat) (x : Int32) (hx : x = nI n) (h : c = n) : nI c = x := by rw [h, hx]
theorem nl_lt (c n : Nat) (x : Int32) (hx : x = nI n) (h : c < n) (hn : n < 2 ^ 31) : nI c < x := by rw [hx]; exact (nI_ltI (by omega) hn).mpr h
theorem nl_nlt (c n : Nat) (x : Int32) (hx : x = nI n) (h : n ≤ c) (hc : c < 2 ^ 31) : ¬ nI c < x := by rw [hx]; exact fun q => absurd ((nI_ltI hc (by omega)).mp q) (by omega)
theorem nl_gt (c n : Nat) (x : Int32) (hx : x = nI n) (h : n < c) (hc : c < 2 ^ 31) : x < nI c := by rw [hx]; exact (nI_ltI (by omega) hc).mpr h
theorem nl_ngt (c n : Nat) (x : Int32) (hx : x = nI n) (h : c ≤ n) (hn : n < 2 ^ 31) : ¬ x < nI c := by rw [hx]; exact fun q => absurd ((nI_ltI hn (by omega)).mp q) (by omega)
/-! arrays of frames -/
section
variable {f i : Nat} {A E : Arr} {v X : Int32}
theorem AG.psh (h : AG f i A E) : AG f i A (pshA (f + 1) X E) :=
  ⟨fun j hj => by
    obtain ⟨a1, a2, a3, a4, a5, a6, a7⟩ := h.1 j hj
    exact ⟨a1.trans (z_upd_n (by omega)).symm, a2.trans (z_upd_n (by omega)).symm, a3.trans (z_upd_n (by omega)).symm, a4, a5, a6, a7⟩, h.2⟩
theorem AG.sS (h : AG f i A E) : AG f i A (sS f v E) :=
  ⟨fun j hj => by
    obtain ⟨a1, a2, a3, a4, a5, a6, a7⟩ := h.1 j hj
    exact ⟨a1, a2.trans (z_upd_n (by omega)).symm, a3, a4, a5, a6, a7⟩, h.2⟩
theorem AG.s0 (h : AG f i A E) : AG f i A (s0 f v E) :=
  ⟨fun j hj => by
    obtain ⟨a1, a2, a3, a4, a5, a6, a7⟩ := h.1 j hj
    exact ⟨a1, a2, a3.trans (z_upd_n (by omega)).symm, a4, a5, a6, a7⟩, h.2⟩
theorem AG.s1 (h : AG f i A E) : AG f i A (s1 f v E) :=
  ⟨fun j hj => by
    obtain ⟨a1, a2, a3, a4, a5, a6, a7⟩ := h.1 j hj
    exact ⟨a1, a2, a3, a4.trans (z_upd_n (by omega)).symm, a5, a6, a7⟩, h.2⟩
theorem AG.s2 (h : AG f i A E) : AG f i A (s2 f v E) :=
  ⟨fun j hj => by
    obtain ⟨a1, a2, a3, a4, a5, a6, a7⟩ := h.1 j hj
    exact ⟨a1, a2, a3, a4, a5.trans (z_upd_n (by omega)).symm, a6, a7⟩, h.2⟩
theorem AG.s3 (h : AG f i A E) : AG f i A (s3 f v E) :=
  ⟨fun j hj => by
    obtain ⟨a1, a2, a3, a4, a5, a6, a7⟩ := h.1 j hj
    exact ⟨a1, a2, a3, a4, a5, a6.trans (z_upd_n (by omega)).symm, a7⟩, h.2⟩
theorem AG.s4 (h : AG f i A E) : AG f i A (s4 f v E) :=
  ⟨fun j hj => by
    obtain ⟨a1, a2, a3, a4, a5, a6, a7⟩ := h.1 j hj
    exact ⟨a1, a2, a3, a4, a5, a6, a7.trans (z_upd_n (by omega)).symm⟩, h.2⟩
theorem AG.sI {k : Nat} (h : AG f i A E) (hk : i ≤ k) : AG f i A (sI k v E) :=
  ⟨h.1, fun j hj => (h.2 j hj).trans (z_upd_n (by omega)).symm⟩
/-- what a frame finds when the one above it has ended -/
theorem AG.pop {A' : Arr} (h : AG (f + 1) i (pshA (f + 1) X E) A') : (A'.1 f = E.1 f ∧ A'.2.1 f = E.2.1 f ∧ A'.2.2.1 f = E.2.2.1 f ∧ A'.2.2.2.1 f = E.2.2.2.1 f ∧ A'.2.2.2.2.1 f = E.2.2.2.2.1 f ∧ A'.2.2.2.2.2.1 f = E.2.2.2.2.2.1 f ∧ A'.2.2.2.2.2.2.1 f = E.2.2.2.2.2.2.1 f) ∧ AG f i E A' := by
  obtain ⟨a1, a2, a3, a4, a5, a6, a7⟩ := h.1 f (by omega)
  refine ⟨⟨a1.symm.trans (z_upd_n (by omega)), a2.symm.trans (z_upd_n (by omega)), a3.symm.trans (z_upd_n (by omega)), a4.symm, a5.symm, a6.symm, a7.symm⟩, ?_⟩
  exact (AG.psh AG.refl).trans h (by omega) (by omega)
/-- the frame that is begun -/
theorem psh_at : (pshA f X E).1 f = X ∧ (pshA f X E).2.1 f = 0 ∧ (pshA f X E).2.2.1 f = -1 := ⟨z_upd_e, z_upd_e, z_upd_e⟩
end
/-! sums -/
theorem z_a6 : ∀ c, c < 128 → (isAdd c = true → nI c = (43 : Int32) ∨ nI c = (45 : Int32)) ∧ (isAdd c = false → ¬ nI c = (43 : Int32) ∧ ¬ nI c = (45 : Int32)) := by decide +kernel
theorem z_a7 : ∀ c, c < 128 → (isMul c = true → nI c = (42 : Int32) ∨ nI c = (47 : Int32) ∨ nI c = (37 : Int32)) ∧ (isMul c = false → ¬ nI c = (42 : Int32) ∧ ¬ nI c = (47 : Int32) ∧ ¬ nI c = (37 : Int32)) := by decide +kernel
def XO (X : Int32) (isop : Nat → Bool) : Prop := X = 6 ∧ isop = isAdd ∨ X = 7 ∧ isop = isMul
section
variable {mT : MdT} {T : List Nat} {B : Nat} {O : MdK × MdN} {q1 q2 q4 q5 : Int32} {mK : MdK} {mN : MdN} {p dp f i c : Nat} {r b X : Int32} {A : Arr} {isop : Nat → Bool}
theorem z_s160 (hf : f + 1 < 80) : f8_stepSum_L160 mT.1 mT.2 q1 q2 (nI B) q4 q5 (nI f) X 1 mK mN (mkP p dp (f + 1) i r b A) = some (mK, mN, mkP (p + 1) dp (f + 2) i r b (pshA (f + 1) X (s1 f (nI p) A))) ∧
    f8_stepSum_L160 mT.1 mT.2 q1 q2 (nI B) q4 q5 (nI f) X 0 mK mN (mkP p dp (f + 1) i r b A) = some (mK, mN, mkP p dp f i (A.2.2.1 f) b A) := by
  have h := z_pu (p := p + 1) (dp := dp) (f := f + 1) (i := i) (r0 := r) (b := b) (A := s1 f (nI p) A) (k := X) hf
  have h2 := z_fi (p := p) (dp := dp) (f := f) (i := i) (r0 := r) (b := b) (A := A) (v := A.2.2.1 f)
  have hg := z_gd (n := f) (N := 80) (by omega) (by omega)
  obtain ⟨a1, a2, a3, a4⟩ := mK
  obtain ⟨b1, b2, b3, b4, b5, b6⟩ := mN
  rw [mkP] at h h2 ⊢
  constructor
  · rw [f8_stepSum_L160, if_neg (by decide), if_neg hg, z_nat (by omega), nI_1, h]
    rfl
  · rw [f8_stepSum_L160, if_pos rfl, if_neg hg, z_nat (by omega), h2]
    rfl
theorem z_s106 (hX : XO X isop) (hf : f + 1 < 80) (hc : c < 128) (hp : f8_peek mT (mkP p dp (f + 1) i r b A) = some (nI c)) : f8_stepSum_L106 mT.1 mT.2 q1 q2 (nI B) q4 q5 (nI f) X mK mN (mkP p dp (f + 1) i r b A) = if isop c = true then some (mK, mN, mkP (p + 1) dp (f + 2) i r b (pshA (f + 1) X (s1 f (nI p) A))) else some (mK, mN, mkP p dp f i (A.2.2.1 f) b A) := by
  have h := z_s160 (mT := mT) (B := B) (q1 := q1) (q2 := q2) (q4 := q4) (q5 := q5) (mK := mK) (mN := mN) (p := p) (dp := dp) (i := i) (r := r) (b := b) (X := X) (A := A) hf
  have k6 := z_a6 c hc
  have k7 := z_a7 c hc
  obtain ⟨t1, t2⟩ := mT
  obtain ⟨a1, a2, a3, a4⟩ := mK
  obtain ⟨b1, b2, b3, b4, b5, b6⟩ := mN
  rw [mkP] at h hp ⊢
  dsimp only at h
  rcases hX with ⟨rfl, rfl⟩ | ⟨rfl, rfl⟩
  · rw [f8_stepSum_L106, hp, ob_s, if_pos rfl]
    rcases e : isAdd c with _ | _
    · rw [if_neg (k6.2 e).1, if_neg (k6.2 e).2, h.2, if_neg (by decide)]
    · rw [if_pos rfl, f8_stepSum_L129, h.1]
      split
      · rfl
      · rw [if_pos ((k6.1 e).resolve_left (by assumption))]
  · rw [f8_stepSum_L106, hp, ob_s, if_neg (by decide)]
    rcases e : isMul c with _ | _
    · rw [if_neg (k7.2 e).1, if_neg (k7.2 e).2.1, if_neg (k7.2 e).2.2, h.2, if_neg (by decide)]
    · rw [if_pos rfl, f8_stepSum_L155, h.1]
      split
      · rfl
      · split
        · rfl
        · rw [if_pos (((k7.1 e).resolve_left (by assumption)).resolve_left (by assumption))]
theorem z_sm0 {mQ : MdQ} (hf : f + 1 < 80) (hS : A.2.1 f = 0) : f8_stepSum (nI f) X mT mQ mK mN (mkP p dp (f + 1) i r b A) = some (mK, mN, mkP p dp (f + 2) i r b (pshA (f + 1) X (sS f 1 A))) := by
  have h := z_pu (p := p) (dp := dp) (f := f + 1) (i := i) (r0 := r) (b := b) (A := sS f 1 A) (k := X) hf
  have hg := z_gd (n := f) (N := 80) (by omega) (by omega)
  have hS' : A.2.1 (nI f).toNatClampNeg = 0 := by rw [z_nat (by omega)]; exact hS
  obtain ⟨t1, t2⟩ := mT
  obtain ⟨q1, q2, q3, q4, q5⟩ := mQ
  obtain ⟨a1, a2, a3, a4⟩ := mK
  obtain ⟨b1, b2, b3, b4, b5, b6⟩ := mN
  rw [mkP] at h ⊢
  rw [f8_stepSum, if_neg hg, if_pos hS', if_neg hg, z_nat (by omega), h]
  rfl
theorem z_sm1 (hf : f + 1 < 80) (hS : A.2.1 f = 1) (h0 : A.2.2.1 f = -1) : f8_stepSum (nI f) X mT (q1, q2, nI B, q4, q5) mK mN (mkP p dp (f + 1) i r b A) = f8_stepSum_L106 mT.1 mT.2 q1 q2 (nI B) q4 q5 (nI f) X mK mN (mkP p dp (f + 1) i r b (s0 f r A)) := by
  have hg := z_gd (n := f) (N := 80) (by omega) (by omega)
  have hS' : ¬ A.2.1 (nI f).toNatClampNeg = 0 := by rw [z_nat (by omega), hS]; decide
  have h0' : A.2.2.1 (nI f).toNatClampNeg = -1 := by rw [z_nat (by omega), h0]
  obtain ⟨t1, t2⟩ := mT
  obtain ⟨a1, a2, a3, a4⟩ := mK
  obtain ⟨b1, b2, b3, b4, b5, b6⟩ := mN
  rw [mkP, f8_stepSum, if_neg hg, if_neg hS', if_neg hg, if_pos h0', if_neg hg, z_nat (by omega)]
  rfl
theorem z_sm2 {C : List Mce} {D : List Nde} {q : Nat} {v : Int32} (hT : TXM mT T) (hB : B ≤ 256) (hf : f + 1 < 80) (hS : A.2.1 f = 1) (h0 : A.2.2.1 f = v) (hv : ¬ v = -1) (hq : A.2.2.2.1 f = nI q) (hqc : T[q]? = some c) (h1 : KV B O mK C) (h2 : NV B O mN D) (hC : C.length < 256) (hD : D.length < 256) :
    ∃ mK' mN', f8_stepSum (nI f) X mT (q1, q2, nI B, q4, q5) mK mN (mkP p dp (f + 1) i r b A) = f8_stepSum_L106 mT.1 mT.2 q1 q2 (nI B) q4 q5 (nI f) X mK' mN' (mkP p dp (f + 1) i r b (s0 f (nI (B + D.length)) A)) ∧ KV B O mK' (C ++ [(5, c, q)]) ∧ NV B O mN' (D ++ [(3, nI c, v, r, nI q)]) := by
  have hg := z_gd (n := f) (N := 80) (by omega) (by omega)
  have h60 := hT.2.1
  have hql : q < T.length := (List.getElem?_eq_some_iff.mp hqc).1
  have hS' : ¬ A.2.1 (nI f).toNatClampNeg = 0 := by rw [z_nat (by omega), hS]; decide
  have h0' : ¬ A.2.2.1 (nI f).toNatClampNeg = -1 := by rw [z_nat (by omega), h0]; exact hv
  have hq' : A.2.2.2.1 (nI f).toNatClampNeg = nI q := by rw [z_nat (by omega), hq]
  have hqg := z_gd (n := q) (N := 60) (by omega) (by omega)
  have hx := (hT.2.2 q c hqc).1
  obtain ⟨mK', e1, g1⟩ := z_emit (mQ := (q1, q2, nI B, q4, q5)) rfl h1 hB hC 5 c q (x1 := 5) (x2 := nI c) (x3 := nI q) rfl rfl rfl
  obtain ⟨mN', e2, g2⟩ := z_create (mQ := (q1, q2, nI B, q4, q5)) rfl h2 hB hD 3 3 (nI c) v r (nI q) rfl
  refine ⟨mK', mN', ?_, g1, g2⟩
  obtain ⟨t1, t2⟩ := mT
  obtain ⟨a1, a2, a3, a4⟩ := mK
  obtain ⟨b1, b2, b3, b4, b5, b6⟩ := mN
  dsimp only at hx
  rw [mkP, f8_stepSum, if_neg hg, if_neg hS', if_neg hg, if_neg h0', if_neg hg, hq', if_neg hqg, if_neg hg, z_nat (n := q) (by omega), hx, e1, ob_s]
  dsimp only
  rw [if_neg hg, if_neg (by rw [z_nat (n := q) (by omega)] at hqg; exact hqg), if_neg hg, if_neg hg, z_nat (n := f) (by omega), h0, e2, ob_s]
  dsimp only
  rw [if_neg (by rw [z_nat (n := f) (by omega)] at hg; exact hg)]
  rfl
end
