/-! RUNNING: the sites as bits -/
def lbt (L : Int64) (s : Nat) : Bool := L.toBitVec.getLsbD s
theorem lb_s1 : ∀ s : Fin 64, ((nI s).toInt64 &&& 63).toBitVec.smod 64 = BitVec.ofNat 64 s := by decide +kernel
theorem lb_s2 : ∀ s : Fin 64, ((nI s).toInt64.toUInt64 &&& Int64.toUInt64 63).toBitVec % 64 = BitVec.ofNat 64 s := by decide +kernel
theorem lb_one : ∀ t : Fin 64, ∀ s : Fin 64, ((1#64) <<< (s : Nat)).getLsbD t = decide ((s : Nat) = t) := by decide +kernel
theorem lb_set {L : Int64} {s t : Nat} (hs : s < 64) (ht : t < 64) : lbt (L ||| ((1 : Int64) <<< ((nI s).toInt64 &&& 63))) t = (lbt L t || decide (s = t)) := by
  unfold lbt
  rw [Int64.toBitVec_or, BitVec.getLsbD_or, Int64.toBitVec_shiftLeft]
  congr 1
  rw [lb_s1 ⟨s, hs⟩]
  have h1 : (BitVec.ofNat 64 ((⟨s, hs⟩ : Fin 64) : Nat)).toNat = s := by rw [BitVec.toNat_ofNat]; exact Nat.mod_eq_of_lt (by dsimp only; omega)
  show ((1#64) <<< (BitVec.ofNat 64 ((⟨s, hs⟩ : Fin 64) : Nat))).getLsbD t = _
  rw [BitVec.shiftLeft_eq', h1]
  exact lb_one ⟨t, ht⟩ ⟨s, hs⟩
theorem lb_0 {t : Nat} : lbt 0 t = false := BitVec.getLsbD_zero
theorem lb_hold {L : Int64} {s : Nat} (hs : s < 64) : f7_holds L (nI s) = some (if lbt L s = true then 1 else 0) := by
  unfold f7_holds
  have e : ((L.toUInt64 >>> ((nI s).toInt64.toUInt64 &&& Int64.toUInt64 63)).toInt64).toBitVec = L.toBitVec >>> s := by
    show L.toBitVec >>> (((nI s).toInt64.toUInt64 &&& Int64.toUInt64 63).toBitVec % 64) = L.toBitVec >>> s
    rw [lb_s2 ⟨s, hs⟩, BitVec.ushiftRight_eq']
    have h1 : (BitVec.ofNat 64 ((⟨s, hs⟩ : Fin 64) : Nat)).toNat = s := by rw [BitVec.toNat_ofNat]; exact Nat.mod_eq_of_lt (by dsimp only; omega)
    rw [h1]
  have e2 : ((((L.toUInt64 >>> ((nI s).toInt64.toUInt64 &&& Int64.toUInt64 63)).toInt64) &&& (1 : Int64)) = 1) ↔ lbt L s = true := by
    rw [← Int64.toBitVec_inj, Int64.toBitVec_and, e]
    show (L.toBitVec >>> s &&& 1#64) = 1#64 ↔ _
    rw [BitVec.and_one_eq_setWidth_ofBool_getLsbD, BitVec.getLsbD_ushiftRight, Nat.add_zero]
    unfold lbt
    cases L.toBitVec.getLsbD s <;> decide
  have e0 : ((((L.toUInt64 >>> ((nI s).toInt64.toUInt64 &&& Int64.toUInt64 63)).toInt64) &&& (1 : Int64)) = 0) ↔ lbt L s = false := by
    rw [← Int64.toBitVec_inj, Int64.toBitVec_and, e]
    show (L.toBitVec >>> s &&& 1#64) = 0#64 ↔ _
    rw [BitVec.and_one_eq_setWidth_ofBool_getLsbD, BitVec.getLsbD_ushiftRight, Nat.add_zero]
    unfold lbt
    cases L.toBitVec.getLsbD s <;> decide
  rcases h : lbt L s with _ | _
  · rw [e0.mpr h]
    decide
  · rw [e2.mpr h]
    decide
/-- both know the same sites -/
def STE (L : Int64) (M : Nat → Int32) : Prop := ∀ s, s < 60 → M s = if lbt L s = true then 1 else 0
theorem STE.set {L : Int64} {M : Nat → Int32} {s : Nat} (h : STE L M) (hs : s < 60) : STE (L ||| ((1 : Int64) <<< ((nI s).toInt64 &&& 63))) (upd M s (vp_nar .boolean 1)) := by
  intro t ht
  rw [lb_set (by omega) (by omega)]
  by_cases e : t = s
  · subst e
    rw [z_upd_e, decide_eq_true rfl, Bool.or_true, if_pos rfl]
    rfl
  · rw [z_upd_n e, decide_eq_false (fun q => e q.symm), Bool.or_false]
    exact h t ht
