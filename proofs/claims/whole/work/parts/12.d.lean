section
variable {k : KT} {N : Nat} {mT : MdT} {mQ : MdQ} {T : List Nat} {B : Nat}
/-! which step it is -/
theorem z_sp {f p dp i : Nat} {r0 b : Int32} {A : Arr} {mK : MdK} {mN : MdN} (hf : f < 80) :
    (A.1 f = 1 → f8_step N (nI f) mT mQ mK mN (mkP p dp (f + 1) i r0 b A) = f8_stepStatement (nI f) mT mQ mK mN (mkP p dp (f + 1) i r0 b A)) ∧
    (A.1 f = 2 → f8_step N (nI f) mT mQ mK mN (mkP p dp (f + 1) i r0 b A) = f8_stepChain (nI f) 124 3 mT mQ mK mN (mkP p dp (f + 1) i r0 b A)) ∧
    (A.1 f = 3 → f8_step N (nI f) mT mQ mK mN (mkP p dp (f + 1) i r0 b A) = f8_stepChain (nI f) 38 4 mT mQ mK mN (mkP p dp (f + 1) i r0 b A)) ∧
    (A.1 f = 4 → f8_step N (nI f) mT mQ mK mN (mkP p dp (f + 1) i r0 b A) = f8_stepAtom (nI f) mT mQ mK mN (mkP p dp (f + 1) i r0 b A)) ∧
    (A.1 f = 5 → f8_step N (nI f) mT mQ mK mN (mkP p dp (f + 1) i r0 b A) = f8_stepSum (nI f) 6 mT mQ mK mN (mkP p dp (f + 1) i r0 b A)) ∧
    (A.1 f = 6 → f8_step N (nI f) mT mQ mK mN (mkP p dp (f + 1) i r0 b A) = f8_stepSum (nI f) 7 mT mQ mK mN (mkP p dp (f + 1) i r0 b A)) ∧
    (A.1 f = 7 → f8_step N (nI f) mT mQ mK mN (mkP p dp (f + 1) i r0 b A) = f8_stepFactor (nI f) mT mQ mK mN (mkP p dp (f + 1) i r0 b A)) := by
  obtain ⟨t1, t2⟩ := mT
  obtain ⟨q1, q2, q3, q4, q5⟩ := mQ
  obtain ⟨a1, a2, a3, a4⟩ := mK
  obtain ⟨b1, b2, b3, b4, b5, b6⟩ := mN
  have hg := z_gd hf (by omega)
  have id3 : ∀ o : Option MSt, (o.bind fun x => some ((x.1.1, x.1.2.1, x.1.2.2.1, x.1.2.2.2), (x.2.1.1, x.2.1.2.1, x.2.1.2.2.1, x.2.1.2.2.2.1, x.2.1.2.2.2.2.1, x.2.1.2.2.2.2.2), (x.2.2.1, x.2.2.2.1, x.2.2.2.2.1, x.2.2.2.2.2.1, x.2.2.2.2.2.2.1, x.2.2.2.2.2.2.2.1, x.2.2.2.2.2.2.2.2.1, x.2.2.2.2.2.2.2.2.2.1, x.2.2.2.2.2.2.2.2.2.2.1, x.2.2.2.2.2.2.2.2.2.2.2.1, x.2.2.2.2.2.2.2.2.2.2.2.2.1, x.2.2.2.2.2.2.2.2.2.2.2.2.2.1, x.2.2.2.2.2.2.2.2.2.2.2.2.2.2.1, x.2.2.2.2.2.2.2.2.2.2.2.2.2.2.2))) = o := fun o => by cases o <;> rfl
  rw [mkP, f8_step, if_neg hg, z_nat (by omega)]
  refine ⟨fun h => ?_, fun h => ?_, fun h => ?_, fun h => ?_, fun h => ?_, fun h => ?_, fun h => ?_⟩ <;> rw [h] <;> (try rw [if_neg (by decide)]) <;> (try rw [if_neg (by decide)]) <;> (try rw [if_neg (by decide)]) <;> (try rw [if_neg (by decide)]) <;> (try rw [if_neg (by decide)]) <;> (try rw [if_neg (by decide)]) <;> (try rw [if_neg (by decide)]) <;> (try rw [if_pos rfl]) <;> exact id3 _
end
