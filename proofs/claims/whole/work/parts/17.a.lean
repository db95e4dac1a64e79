/-! FOLDING in the reference: the walk over the nodes -/
section
variable {N : Nat} {mQ : MdQ} {mN : MdN} {mL : MdL} {mm : Nat}
def FGM (N : Nat) (mQ : MdQ) (mN : MdN) (mL : MdL) (mm B : Nat) (mH : MdH) (m : Nat) (mH' : MdH) (k : Nat) : Prop := ∀ (kk : MdH → Option (Int32 × MdH)) (n : Nat), FL5 kk N mQ mN mL (n + k) (nI mm) (nI (B + m)) mH = FL5 kk N mQ mN mL n (nI mm) (nI (B + (m + k))) mH'
variable {B m k l nn : Nat} {mH mH' mH2 : MdH} {u : MTN} {r : Int32}
theorem FGM.refl : FGM N mQ mN mL mm B mH m mH 0 := fun kk n => rfl
theorem FGM.trans (h1 : FGM N mQ mN mL mm B mH m mH' k) (h2 : FGM N mQ mN mL mm B mH' (m + k) mH2 l) : FGM N mQ mN mL mm B mH m mH2 (k + l) := fun kk n => by
  rw [show n + (k + l) = n + l + k by omega, h1 kk (n + l), h2 kk n, Nat.add_assoc m k l]
/-- the nodes from m on -/
def NSH (B : Nat) (mN : MdN) (m : Nat) (L : List Nde) : Prop := ∀ k q, L[k]? = some q → mN.2.1 (B + (m + k)) = nI q.1 ∧ mN.2.2.1 (B + (m + k)) = q.2.1 ∧ mN.2.2.2.1 (B + (m + k)) = q.2.2.1 ∧ mN.2.2.2.2.1 (B + (m + k)) = q.2.2.2.1 ∧ mN.2.2.2.2.2 (B + (m + k)) = q.2.2.2.2
theorem NSH.app {L M : List Nde} (h : NSH B mN m (L ++ M)) : NSH B mN m L ∧ NSH B mN (m + L.length) M := by
  refine ⟨fun k q hk => h k q ?_, fun k q hk => ?_⟩
  · rw [List.getElem?_append_left (List.getElem?_eq_some_iff.mp hk).1]; exact hk
  · have := h (L.length + k) q (by rw [List.getElem?_append_right (Nat.le_add_right _ _), Nat.add_sub_cancel_left]; exact hk)
    rw [← Nat.add_assoc m] at this
    exact this
theorem NSH.cons {q : Nde} {L : List Nde} (h : NSH B mN m (q :: L)) : NSH B mN m [q] ∧ NSH B mN (m + 1) L := NSH.app (L := [q]) h
theorem NSH.one {q : Nde} (h : NSH B mN m [q]) : mN.2.1 (B + m) = nI q.1 ∧ mN.2.2.1 (B + m) = q.2.1 ∧ mN.2.2.2.1 (B + m) = q.2.2.1 ∧ mN.2.2.2.2.1 (B + m) = q.2.2.2.1 ∧ mN.2.2.2.2.2 (B + m) = q.2.2.2.2 := h 0 q rfl
/-- the thing of a node that is done -/
theorem m_ofn {j : Nat} (hb : mQ.2.1 = nI B) (hB : B ≤ 256) (hj : j < 256) : f8_of (nI (B + j)) mQ mH = some (mH.2.2.2.2.2.2.2.1 j) := by
  have hgj := z_gd (n := j) (N := 256) (by omega) (by omega)
  obtain ⟨qc, qb, qp, qr, qC⟩ := mQ
  obtain ⟨ht, hK, hA, hB', hC, hNx, h1x, hT, hR⟩ := mH
  dsimp only at hb
  subst hb
  rw [f8_of, if_neg (nI_m1 (by omega)), nI_bj, if_neg hgj, z_nat (n := j) (by omega)]
theorem m_of1 : f8_of (-1) mQ mH = some (-1) := by
  obtain ⟨qc, qb, qp, qr, qC⟩ := mQ
  obtain ⟨ht, hK, hA, hB', hC, hNx, h1x, hT, hR⟩ := mH
  rw [f8_of, if_pos rfl]
theorem m_of0 (hb : mQ.2.1 = nI 0) : f8_of 0 mQ mH = some (mH.2.2.2.2.2.2.2.1 0) := m_ofn (B := 0) (j := 0) hb (by omega) (by omega)
end
