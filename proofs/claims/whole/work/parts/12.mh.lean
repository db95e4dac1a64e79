section
variable {mT : MdT} {T : List Nat} {B : Nat} {q1 q2 q4 q5 : Int32}
theorem z_cmb {mK : MdK} {mN : MdN} {C : List Mce} {D : List Nde} {p dp f i : Nat} {x : Int32} {r0 : Int32} {A : Arr} (hT : TXM mT T) (hp : p < 100) (h1 : KV B mK C) (h2 : NV B mN D) (hC : B + C.length < 512) (hD : B + D.length < 512) (hx : x < 48 ∨ ¬ x ≤ 57) :
    ∃ mK' mN' p' r', f8_constant x mT (q1, q2, nI B, q4, q5) mK mN (mkP p dp (f + 1) i r0 0 A) = some (mK', mN', mkP p' dp f i r' 1 A) ∧ mK'.1 = nI (C.length + 1) := by
  obtain ⟨k1, n1, p1, r1, e1, g1⟩ := z_c30b (mT := mT) (q1 := q1) (q2 := q2) (q4 := q4) (q5 := q5) (p := p) (dp := dp) (f := f) (i := i) (x := x) (r0 := r0) (A := A) hT hp h1 h2 hC hD p
  refine ⟨k1, n1, p1, r1, ?_, g1⟩
  obtain ⟨t1, t2⟩ := mT
  obtain ⟨a1, a2, a3, a4⟩ := mK
  obtain ⟨b1, b2, b3, b4, b5, b6⟩ := mN
  rw [mkP] at e1 ⊢
  rw [f8_constant, if_pos rfl]
  by_cases w : x < 48
  · rw [if_pos w, f8_constant_L25, e1]
  · rw [if_neg w, if_neg (hx.resolve_left w), f8_constant_L25, e1]
end
