section
variable {mT : MdT} {T : List Nat} {B : Nat} {q1 q2 q4 q5 : Int32}
theorem z_c93 {mK : MdK} {mN : MdN} {C : List Mce} {D : List Nde} {p dp f i : Nat} {r0 b : Int32} {A : Arr} (h1 : KV B mK C) (h2 : NV B mN D) (hC : B + C.length < 512) (hD : B + D.length < 512) (s v : Nat) :
    ∃ mK' mN', f8_constant_L93 mT.1 mT.2 q1 q2 (nI B) q4 q5 (nI s) (nI v) mK mN (mkP p dp (f + 1) i r0 b A) = some (mK', mN', mkP p dp f i (nI (B + D.length)) b A) ∧ KV B mK' (C ++ [(2, v, s)]) ∧ NV B mN' (D ++ [(0, nI v, 0, 0, nI s)]) := by
  obtain ⟨mK', f1, g1⟩ := z_emit (mQ := (q1, q2, nI B, q4, q5)) rfl h1 hC 2 v s (x1 := 2) (x2 := nI v) (x3 := nI s) rfl rfl (fun _ => rfl)
  obtain ⟨mN', f2, g2⟩ := z_create (mQ := (q1, q2, nI B, q4, q5)) rfl h2 hD 0 0 (nI v) 0 0 (nI s) rfl
  refine ⟨mK', mN', ?_, g1, g2⟩
  have h3 := z_fi (p := p) (dp := dp) (f := f) (i := i) (r0 := r0) (b := b) (A := A) (v := nI (B + D.length))
  obtain ⟨a1, a2, a3, a4⟩ := mK
  obtain ⟨b1, b2, b3, b4, b5, b6⟩ := mN
  rw [mkP] at h3 ⊢
  rw [f8_constant_L93, f1, ob_s]
  dsimp only
  rw [f2, ob_s]
  dsimp only
  rw [h3]
  rfl
/-- x and y -/
theorem z_f69 {mK : MdK} {mN : MdN} {C : List Mce} {D : List Nde} {p dp f i : Nat} {r0 b : Int32} {A : Arr} (h1 : KV B mK C) (h2 : NV B mN D) (hC : B + C.length < 512) (hD : B + D.length < 512) (v : Nat) :
    ∃ mK' mN', f8_stepFactor_L69 mT.1 mT.2 q1 q2 (nI B) q4 q5 (nI v) mK mN (mkP p dp (f + 1) i r0 b A) = some (mK', mN', mkP (p + 1) dp f i (nI (B + D.length)) b A) ∧ KV B mK' (C ++ [(3, v, 0)]) ∧ NV B mN' (D ++ [(1, nI v, 0, 0, -1)]) := by
  obtain ⟨mK', f1, g1⟩ := z_emit (mQ := (q1, q2, nI B, q4, q5)) rfl h1 hC 3 v 0 (x1 := 3) (x2 := nI v) (x3 := -1) rfl rfl (fun h => by cases h)
  obtain ⟨mN', f2, g2⟩ := z_create (mQ := (q1, q2, nI B, q4, q5)) rfl h2 hD 1 1 (nI v) 0 0 (-1) rfl
  refine ⟨mK', mN', ?_, g1, g2⟩
  have h3 := z_fi (p := p + 1) (dp := dp) (f := f) (i := i) (r0 := r0) (b := b) (A := A) (v := nI (B + D.length))
  obtain ⟨a1, a2, a3, a4⟩ := mK
  obtain ⟨b1, b2, b3, b4, b5, b6⟩ := mN
  rw [mkP] at h3 ⊢
  rw [f8_stepFactor_L69, f1, ob_s, nI_1]
  dsimp only
  rw [f2, ob_s]
  dsimp only
  rw [h3]
  rfl
end
