theorem z_any (x : Int32) : ∃ v : Nat, x = nI v := by
  refine ⟨x.toBitVec.toNat, ?_⟩
  rw [← Int32.toBitVec_inj]
  simp [nI]
