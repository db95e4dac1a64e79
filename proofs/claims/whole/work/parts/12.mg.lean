theorem z_any (x : Int32) : ∃ v : Nat, x = nI v := by
  refine ⟨x.toBitVec.toNat, ?_⟩
  rw [← Int32.toBitVec_inj]
  simp [nI]
section
variable {mT : MdT} {T : List Nat} {B : Nat} {q1 q2 q4 q5 : Int32}
theorem z_c93b {mK : MdK} {mN : MdN} {C : List Mce} {D : List Nde} {p dp f i : Nat} {r0 b : Int32} {A : Arr} (h1 : KV B mK C) (h2 : NV B mN D) (hC : B + C.length < 512) (hD : B + D.length < 512) (s : Nat) (x : Int32) :
    ∃ mK' mN' r', f8_constant_L93 mT.1 mT.2 q1 q2 (nI B) q4 q5 (nI s) x mK mN (mkP p dp (f + 1) i r0 b A) = some (mK', mN', mkP p dp f i r' b A) ∧ mK'.1 = nI (C.length + 1) := by
  obtain ⟨v, rfl⟩ := z_any x
  obtain ⟨mK', mN', h3, h4, _⟩ := z_c93 (mT := mT) (q1 := q1) (q2 := q2) (q4 := q4) (q5 := q5) (p := p) (dp := dp) (f := f) (i := i) (r0 := r0) (b := b) (A := A) h1 h2 hC hD s v
  exact ⟨mK', mN', _, h3, by rw [h4.1, List.length_append]; rfl⟩
theorem z_pkA {p dp f i : Nat} {r0 b : Int32} {A : Arr} (hT : TXM mT T) (hp : p < 2 ^ 20) : ∃ x, f8_peek mT (mkP p dp f i r0 b A) = some x := by
  rcases h : T.drop p with _ | ⟨c, r⟩
  · exact ⟨_, z_pk0 hT h hp⟩
  · exact ⟨_, z_pk1 hT h⟩
theorem z_c30b {mK : MdK} {mN : MdN} {C : List Mce} {D : List Nde} {p dp f i : Nat} {x : Int32} {r0 : Int32} {A : Arr} (hT : TXM mT T) (hp : p < 100) (h1 : KV B mK C) (h2 : NV B mN D) (hC : B + C.length < 512) (hD : B + D.length < 512) (s : Nat) :
    ∃ mK' mN' p' r', f8_constant_L30 mT.1 mT.2 q1 q2 (nI B) q4 q5 x (nI s) 1 mK mN (mkP p dp (f + 1) i r0 0 A) = some (mK', mN', mkP p' dp f i r' 1 A) ∧ mK'.1 = nI (C.length + 1) := by
  obtain ⟨y, hy⟩ := z_pkA (p := p + 1) (dp := dp) (f := f + 1) (i := i) (r0 := r0) (b := 1) (A := A) hT (by omega)
  have F1 := fun v => z_c93b (mT := mT) (q1 := q1) (q2 := q2) (q4 := q4) (q5 := q5) (p := p + 1) (dp := dp) (f := f) (i := i) (r0 := r0) (b := 1) (A := A) h1 h2 hC hD s v
  have F2 := fun v => z_c93b (mT := mT) (q1 := q1) (q2 := q2) (q4 := q4) (q5 := q5) (p := p + 1 + 1) (dp := dp) (f := f) (i := i) (r0 := r0) (b := 1) (A := A) h1 h2 hC hD s v
  obtain ⟨t1, t2⟩ := mT
  obtain ⟨a1, a2, a3, a4⟩ := mK
  obtain ⟨b1, b2, b3, b4, b5, b6⟩ := mN
  rw [mkP] at hy ⊢
  rw [f8_constant_L30, if_pos (.inr rfl)]
  dsimp only [nm_v]
  rw [nI_1, hy, ob_s, nI_1]
  obtain ⟨k1, n1, r1, e1, g1⟩ := F1 (x - 48)
  obtain ⟨k2, n2, r2, e2, g2⟩ := F2 (10 * (x - 48) + y - 48)
  rw [mkP] at e1 e2
  split
  · exact ⟨k1, n1, _, r1, e1, g1⟩
  · split
    · exact ⟨k1, n1, _, r1, e1, g1⟩
    · split
      · exact ⟨k1, n1, _, r1, e1, g1⟩
      · exact ⟨k2, n2, _, r2, e2, g2⟩
end
