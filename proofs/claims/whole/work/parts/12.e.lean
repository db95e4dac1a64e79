section
variable {mT : MdT} {T : List Nat} {B : Nat} {O : MdK × MdN} {q1 q2 q4 q5 : Int32}
theorem z_c93 {mK : MdK} {mN : MdN} {C : List Mce} {D : List Nde} {p dp f i : Nat} {r0 b : Int32} {A : Arr} (h1 : KV B O mK C) (h2 : NV B O mN D) (hB : B ≤ 256) (hC : C.length < 256) (hD : D.length < 256) (s v : Nat) :
    ∃ mK' mN', f8_constant_L93 mT.1 mT.2 q1 q2 (nI B) q4 q5 (nI s) (nI v) mK mN (mkP p dp (f + 1) i r0 b A) = some (mK', mN', mkP p dp f i (nI (B + D.length)) b A) ∧ KV B O mK' (C ++ [(2, v, s)]) ∧ NV B O mN' (D ++ [(0, nI v, 0, 0, nI s)]) := by
  obtain ⟨mK', f1, g1⟩ := z_emit (mQ := (q1, q2, nI B, q4, q5)) rfl h1 hB hC 2 v s (x1 := 2) (x2 := nI v) (x3 := nI s) rfl rfl rfl
  obtain ⟨mN', f2, g2⟩ := z_create (mQ := (q1, q2, nI B, q4, q5)) rfl h2 hB hD 0 0 (nI v) 0 0 (nI s) rfl
  refine ⟨mK', mN', ?_, g1, g2⟩
  have h3 := z_fi (p := p) (dp := dp) (f := f) (i := i) (r0 := r0) (b := b) (A := A) (v := nI (B + D.length))
  obtain ⟨a1, a2, a3, a4⟩ := mK
  obtain ⟨b1, b2, b3, b4, b5, b6⟩ := mN
  rw [mkP] at h3 ⊢
  rw [f8_constant_L93, f1, ob_s]
  dsimp only
  rw [f2, ob_s]
  dsimp only
  rw [h3]
  rfl
/-- x and y -/
theorem z_f69 {mK : MdK} {mN : MdN} {C : List Mce} {D : List Nde} {p dp f i : Nat} {r0 b : Int32} {A : Arr} (h1 : KV B O mK C) (h2 : NV B O mN D) (hB : B ≤ 256) (hC : C.length < 256) (hD : D.length < 256) (v : Nat) :
    ∃ mK' mN', f8_stepFactor_L69 mT.1 mT.2 q1 q2 (nI B) q4 q5 (nI v) mK mN (mkP p dp (f + 1) i r0 b A) = some (mK', mN', mkP (p + 1) dp f i (nI (B + D.length)) b A) ∧ KV B O mK' (C ++ [(3, v, 0)]) ∧ NV B O mN' (D ++ [(1, nI v, 0, 0, -1)]) := by
  obtain ⟨mK', f1, g1⟩ := z_emit (mQ := (q1, q2, nI B, q4, q5)) rfl h1 hB hC 3 v 0 (x1 := 3) (x2 := nI v) (x3 := -1) rfl rfl rfl
  obtain ⟨mN', f2, g2⟩ := z_create (mQ := (q1, q2, nI B, q4, q5)) rfl h2 hB hD 1 1 (nI v) 0 0 (-1) rfl
  refine ⟨mK', mN', ?_, g1, g2⟩
  have h3 := z_fi (p := p + 1) (dp := dp) (f := f) (i := i) (r0 := r0) (b := b) (A := A) (v := nI (B + D.length))
  obtain ⟨a1, a2, a3, a4⟩ := mK
  obtain ⟨b1, b2, b3, b4, b5, b6⟩ := mN
  rw [mkP] at h3 ⊢
  rw [f8_stepFactor_L69, f1, ob_s, nI_1]
  dsimp only
  rw [f2, ob_s]
  dsimp only
  rw [h3]
  rfl
end
section
variable {mT : MdT} {T : List Nat} {B : Nat} {O : MdK × MdN} {q1 q2 q4 q5 : Int32}
theorem z_cm {mK : MdK} {mN : MdN} {C : List Mce} {D : List Nde} {p dp f i c : Nat} {r : List Nat} {r0 : Int32} {A : Arr} (hT : TXM mT T) (h : T.drop p = c :: r) (hd : isDig c = true) (h1 : KV B O mK C) (h2 : NV B O mN D) (hB : B ≤ 256) (hC : C.length < 256) (hD : D.length < 256) :
    ∃ v p', pLeaf p (c :: r) = some (.inl (p, v), p', T.drop p') ∧ p < p' ∧ p' ≤ T.length ∧ ∃ mK' mN', f8_constant (nI c) mT (q1, q2, nI B, q4, q5) mK mN (mkP p dp (f + 1) i r0 0 A) = some (mK', mN', mkP p' dp f i (nI (B + D.length)) 0 A) ∧ KV B O mK' (C ++ [(2, v, p)]) ∧ NV B O mN' (D ++ [(0, nI v, 0, 0, nI p)]) := by
  obtain ⟨hp, hpc, hr⟩ := z_dc h
  have h60 := hT.2.1
  have hdd : 48 ≤ c ∧ c ≤ 57 := by
    unfold isDig at hd; simp only [Bool.and_eq_true, decide_eq_true_eq] at hd; exact hd
  have e48 : nI c - (48 : Int32) = nI (c - 48) := pk_sub (a := c) (b := 48) hdd.1
  have n1 : ¬ nI c < (48 : Int32) := fun q => absurd ((nI_ltI (b := 48) (by omega) (by omega)).mp q) (by omega)
  have n2 : nI c ≤ (57 : Int32) := (nI_leI (b := 57) (by omega) (by omega)).mpr hdd.2
  have e0 : nI (c - 48) ≤ 0 ↔ c = 48 := (nI_leI (b := 0) (by omega) (by omega)).trans (by omega)
  obtain ⟨mK1, mN1, f1, g1, g2⟩ := z_c93 (mT := mT) (q1 := q1) (q2 := q2) (q4 := q4) (q5 := q5) (p := p + 1) (dp := dp) (f := f) (i := i) (r0 := r0) (b := 0) (A := A) h1 h2 hB hC hD p (c - 48)
  rw [pLeaf.eq_def]
  dsimp only
  rw [if_pos hd]
  rcases r with _ | ⟨b, r'⟩
  · refine ⟨c - 48, p + 1, by rw [← hr], by omega, by omega, mK1, mN1, ?_, g1, g2⟩
    have k0 := z_pk0 (dp := dp) (f := f + 1) (i := i) (r0 := r0) (A := A) (b := 0) hT hr.symm (by omega)
    obtain ⟨t1, t2⟩ := mT
    obtain ⟨a1, a2, a3, a4⟩ := mK
    obtain ⟨b1, b2, b3, b4, b5, b6⟩ := mN
    rw [mkP] at k0 f1 ⊢
    rw [f8_constant, if_pos rfl, if_neg n1, if_pos n2, f8_constant_L30, if_pos (.inl rfl)]
    dsimp only [nm_v]
    rw [e48, nI_1, k0, ob_s, f1]
    split
    · rfl
    · exact if_pos (by decide)
  · have k1 := z_pk1 (dp := dp) (f := f + 1) (i := i) (r0 := r0) (A := A) (b := 0) hT hr.symm
    obtain ⟨hp2, hq2, hr2⟩ := z_dc hr.symm
    have hb := (hT.2.2 _ _ hq2).2.1
    have m1 : nI b < (48 : Int32) ↔ b < 48 := nI_ltI (b := 48) (by omega) (by omega)
    have m2 : (57 : Int32) < nI b ↔ 57 < b := nI_ltI (a := 57) (by omega) (by omega)
    by_cases q : c ≠ 48 ∧ isDig b = true
    · have hbb : 48 ≤ b ∧ b ≤ 57 := by
        have := q.2
        unfold isDig at this; simp only [Bool.and_eq_true, decide_eq_true_eq] at this; exact this
      obtain ⟨mK2, mN2, f2, g3, g4⟩ := z_c93 (mT := mT) (q1 := q1) (q2 := q2) (q4 := q4) (q5 := q5) (p := p + 1 + 1) (dp := dp) (f := f) (i := i) (r0 := r0) (b := 0) (A := A) h1 h2 hB hC hD p ((c - 48) * 10 + (b - 48))
      have e10 : (10 : Int32) * nI (c - 48) + nI b - (48 : Int32) = nI ((c - 48) * 10 + (b - 48)) := by
        have : (10 : Int32) * nI (c - 48) = nI (10 * (c - 48)) := pk_mul 10 _
        rw [this, nI_add]
        exact (pk_sub (b := 48) (by omega)).trans (by congr 1; omega)
      dsimp only
      rw [if_pos q]
      refine ⟨(c - 48) * 10 + (b - 48), p + 2, by rw [hr2], by omega, by omega, mK2, mN2, ?_, g3, g4⟩
      obtain ⟨t1, t2⟩ := mT
      obtain ⟨a1, a2, a3, a4⟩ := mK
      obtain ⟨b1, b2, b3, b4, b5, b6⟩ := mN
      rw [mkP] at k1 f2 ⊢
      rw [f8_constant, if_pos rfl, if_neg n1, if_pos n2, f8_constant_L30, if_pos (.inl rfl)]
      dsimp only [nm_v]
      rw [e48, nI_1, k1, ob_s, if_neg (fun h => q.1 (e0.mp h)), if_neg (fun h => absurd (m1.mp h) (by omega)), if_neg (fun h => absurd (m2.mp h) (by omega)), e10, nI_1, f2]
    · dsimp only
      rw [if_neg q]
      refine ⟨c - 48, p + 1, by rw [← hr], by omega, by omega, mK1, mN1, ?_, g1, g2⟩
      obtain ⟨t1, t2⟩ := mT
      obtain ⟨a1, a2, a3, a4⟩ := mK
      obtain ⟨b1, b2, b3, b4, b5, b6⟩ := mN
      rw [mkP] at k1 f1 ⊢
      rw [f8_constant, if_pos rfl, if_neg n1, if_pos n2, f8_constant_L30, if_pos (.inl rfl)]
      dsimp only [nm_v]
      rw [e48, nI_1, k1, ob_s, f1]
      by_cases w0 : c = 48
      · exact if_pos (e0.mpr w0)
      · rw [if_neg (fun h => w0 (e0.mp h))]
        by_cases w1 : b < 48
        · exact if_pos (m1.mpr w1)
        · rw [if_neg (fun h => w1 (m1.mp h))]
          refine if_pos (m2.mpr ?_)
          by_cases w2 : 57 < b
          · exact w2
          · exact absurd ⟨w0, by unfold isDig; rw [decide_eq_true (by omega), decide_eq_true (by omega)]; rfl⟩ q
end
theorem z_any (x : Int32) : ∃ v : Nat, x = nI v := by
  refine ⟨x.toBitVec.toNat, ?_⟩
  rw [← Int32.toBitVec_inj]
  simp [nI]
section
variable {mT : MdT} {T : List Nat} {B : Nat} {O : MdK × MdN} {q1 q2 q4 q5 : Int32}
theorem z_c93b {mK : MdK} {mN : MdN} {C : List Mce} {D : List Nde} {p dp f i : Nat} {r0 b : Int32} {A : Arr} (h1 : KV B O mK C) (h2 : NV B O mN D) (hB : B ≤ 256) (hC : C.length < 256) (hD : D.length < 256) (s : Nat) (x : Int32) :
    ∃ mK' mN' r', f8_constant_L93 mT.1 mT.2 q1 q2 (nI B) q4 q5 (nI s) x mK mN (mkP p dp (f + 1) i r0 b A) = some (mK', mN', mkP p dp f i r' b A) ∧ (∃ v, KV B O mK' (C ++ [(2, v, s)])) ∧ ∃ D', NV B O mN' D' := by
  obtain ⟨v, rfl⟩ := z_any x
  obtain ⟨mK', mN', h3, h4, h5⟩ := z_c93 (mT := mT) (q1 := q1) (q2 := q2) (q4 := q4) (q5 := q5) (p := p) (dp := dp) (f := f) (i := i) (r0 := r0) (b := b) (A := A) h1 h2 hB hC hD s v
  exact ⟨mK', mN', _, h3, ⟨_, h4⟩, _, h5⟩
theorem z_pkA {p dp f i : Nat} {r0 b : Int32} {A : Arr} (hT : TXM mT T) (hp : p < 2 ^ 20) : ∃ x, f8_peek mT (mkP p dp f i r0 b A) = some x := by
  rcases h : T.drop p with _ | ⟨c, r⟩
  · exact ⟨_, z_pk0 hT h hp⟩
  · exact ⟨_, z_pk1 hT h⟩
theorem z_c30b {mK : MdK} {mN : MdN} {C : List Mce} {D : List Nde} {p dp f i : Nat} {x : Int32} {r0 : Int32} {A : Arr} (hT : TXM mT T) (hp : p < 100) (h1 : KV B O mK C) (h2 : NV B O mN D) (hB : B ≤ 256) (hC : C.length < 256) (hD : D.length < 256) (s : Nat) :
    ∃ mK' mN' p' r', f8_constant_L30 mT.1 mT.2 q1 q2 (nI B) q4 q5 x (nI s) 1 mK mN (mkP p dp (f + 1) i r0 0 A) = some (mK', mN', mkP p' dp f i r' 1 A) ∧ (∃ v, KV B O mK' (C ++ [(2, v, s)])) ∧ ∃ D', NV B O mN' D' := by
  obtain ⟨y, hy⟩ := z_pkA (p := p + 1) (dp := dp) (f := f + 1) (i := i) (r0 := r0) (b := 1) (A := A) hT (by omega)
  have F1 := fun v => z_c93b (mT := mT) (q1 := q1) (q2 := q2) (q4 := q4) (q5 := q5) (p := p + 1) (dp := dp) (f := f) (i := i) (r0 := r0) (b := 1) (A := A) h1 h2 hB hC hD s v
  have F2 := fun v => z_c93b (mT := mT) (q1 := q1) (q2 := q2) (q4 := q4) (q5 := q5) (p := p + 1 + 1) (dp := dp) (f := f) (i := i) (r0 := r0) (b := 1) (A := A) h1 h2 hB hC hD s v
  obtain ⟨t1, t2⟩ := mT
  obtain ⟨a1, a2, a3, a4⟩ := mK
  obtain ⟨b1, b2, b3, b4, b5, b6⟩ := mN
  rw [mkP] at hy ⊢
  rw [f8_constant_L30, if_pos (.inr rfl)]
  dsimp only [nm_v]
  rw [nI_1, hy, ob_s, nI_1]
  obtain ⟨k1, n1, r1, e1, g1⟩ := F1 (x - 48)
  obtain ⟨k2, n2, r2, e2, g2⟩ := F2 (10 * (x - 48) + y - 48)
  rw [mkP] at e1 e2
  split
  · exact ⟨k1, n1, _, r1, e1, g1⟩
  · split
    · exact ⟨k1, n1, _, r1, e1, g1⟩
    · split
      · exact ⟨k1, n1, _, r1, e1, g1⟩
      · exact ⟨k2, n2, _, r2, e2, g2⟩
end
section
variable {mT : MdT} {T : List Nat} {B : Nat} {O : MdK × MdN} {q1 q2 q4 q5 : Int32}
theorem z_cmb {mK : MdK} {mN : MdN} {C : List Mce} {D : List Nde} {p dp f i : Nat} {x : Int32} {r0 : Int32} {A : Arr} (hT : TXM mT T) (hp : p < 100) (h1 : KV B O mK C) (h2 : NV B O mN D) (hB : B ≤ 256) (hC : C.length < 256) (hD : D.length < 256) (hx : x < 48 ∨ ¬ x ≤ 57) :
    ∃ mK' mN' p' r', f8_constant x mT (q1, q2, nI B, q4, q5) mK mN (mkP p dp (f + 1) i r0 0 A) = some (mK', mN', mkP p' dp f i r' 1 A) ∧ (∃ v, KV B O mK' (C ++ [(2, v, p)])) ∧ ∃ D', NV B O mN' D' := by
  obtain ⟨k1, n1, p1, r1, e1, g1⟩ := z_c30b (mT := mT) (q1 := q1) (q2 := q2) (q4 := q4) (q5 := q5) (p := p) (dp := dp) (f := f) (i := i) (x := x) (r0 := r0) (A := A) hT hp h1 h2 hB hC hD p
  refine ⟨k1, n1, p1, r1, ?_, g1⟩
  obtain ⟨t1, t2⟩ := mT
  obtain ⟨a1, a2, a3, a4⟩ := mK
  obtain ⟨b1, b2, b3, b4, b5, b6⟩ := mN
  rw [mkP] at e1 ⊢
  rw [f8_constant, if_pos rfl]
  by_cases w : x < 48
  · rw [if_pos w, f8_constant_L25, e1]
  · rw [if_neg w, if_neg (hx.resolve_left w), f8_constant_L25, e1]
end
