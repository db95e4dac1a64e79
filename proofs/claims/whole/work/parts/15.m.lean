/-! FOLDING in the class: which mutants are alike -/
section
variable {cs : CoS} {N sz : Nat}
theorem c_clear {tr : TrS} (h0 : ∀ t, t < 4 → tr.1 t = 0) : ∃ tr' D, f6_clear tr = some tr' ∧ CT tr' D 4 := by
  obtain ⟨tK, tF, tS, tT, tO, tN, tc⟩ := tr
  refine ⟨(tK, tF, tS, tT, tO, fillF tN 4096 0, 4), fun t => if t = 1 then nilT else if t = 2 then truT else flsT, rfl, rfl, Nat.le_refl _, by omega, ⟨rfl, rfl, rfl⟩, h0, fun t h1 h2 => by omega, ?_, fun _ => [], ?_, fun t k a b c h1 h2 => by omega⟩
  · intro t t' h1 h2 h3 h4 h5
    dsimp only at h5
    have n1 : nilT ≠ truT := fun h => nde_nil h.symm
    have n2 : nilT ≠ flsT := fun h => nde_nil h.symm
    have n3 : truT ≠ flsT := fun h => absurd (nde_inj h).1 (by decide)
    have c1 : t = 1 ∨ t = 2 ∨ t = 3 := by omega
    have c2 : t' = 1 ∨ t' = 2 ∨ t' = 3 := by omega
    rcases c1 with rfl | rfl | rfl <;> rcases c2 with rfl | rfl | rfl <;> first | rfl | exact absurd h5 n1 | exact absurd h5 n2 | exact absurd h5 n3 | exact absurd h5.symm n1 | exact absurd h5.symm n2 | exact absurd h5.symm n3
  · intro h hh
    exact ⟨if_pos hh, trivial, fun t ht => by cases ht⟩
/-- the first that is like it -/
def FLK (T : Nat → List FT) (j i : Nat) : Prop := i ≤ j ∧ T i = T j ∧ ∀ k, k < i → T k ≠ T j
theorem FLK.eq {T U : Nat → List FT} {j i i' : Nat} (hTU : ∀ k, k ≤ j → (T k = T j ↔ U k = U j)) (h1 : FLK T j i) (h2 : FLK U j i') : i = i' := by
  obtain ⟨a1, a2, a3⟩ := h1
  obtain ⟨b1, b2, b3⟩ := h2
  by_cases w : i < i'
  · exact absurd ((hTU i a1).mp a2) (b3 i w)
  · by_cases w2 : i' < i
    · exact absurd ((hTU i' b1).mpr b2) (a3 i' w2)
    · omega
theorem z_fl {kk : Int32 → Option Int32} {R S : Nat → Int32} {hh b : Int32} {j : Nat} {T : Nat → List FT} (E : ∀ i, i ≤ j → (R i = R j ↔ T i = T j)) (hj : j < 121) : ∀ r n i, i + r = j → r < n → (∀ k, k < i → T k ≠ T j) → ∃ i', FLK T j i' ∧ f1_firstLike_L2 kk N R S hh b n (nI j) (nI i) = kk (nI i') := by
  intro r
  induction r with
  | zero =>
    intro n i h1 h2 h3
    obtain ⟨n, rfl⟩ : ∃ m, n = m + 1 := ⟨n - 1, by omega⟩
    have : i = j := by omega
    subst this
    refine ⟨i, ⟨Nat.le_refl _, rfl, h3⟩, ?_⟩
    rw [f1_firstLike_L2, if_pos (Int32.le_refl _)]
  | succ r ih =>
    intro n i h1 h2 h3
    obtain ⟨n, rfl⟩ : ∃ m, n = m + 1 := ⟨n - 1, by omega⟩
    rw [f1_firstLike_L2, if_neg (fun q => absurd ((nI_leI (by omega) (by omega)).mp q) (by omega)), if_neg (z_gd (n := i) (N := 121) (by omega) (by omega)), if_neg (z_gd (n := j) (N := 121) (by omega) (by omega)), z_nat (n := i) (by omega), z_nat (n := j) (by omega)]
    by_cases w : R i = R j
    · rw [if_pos w]
      exact ⟨i, ⟨by omega, (E i (by omega)).mp w, h3⟩, rfl⟩
    · rw [if_neg w]
      obtain ⟨i', e1, e2⟩ := ih n (i + 1) (by omega) (by omega) (fun k hk => by
        by_cases q : k = i
        · subst q; exact fun e => w ((E k (by omega)).mpr e)
        · exact h3 k (by omega))
      refine ⟨i', e1, ?_⟩
      rw [← e2, nm_v, nI_1]
/-- the mutation at a place of the list -/
def mtu (mu : MuS) (j : Nat) : MTN := (mu.1 j, mu.2.2.1 j)
theorem z_fc {kk : MuS → FoS → TrS → Option (MuS × FoS × TrS)} {x : RoT 4} {mS mK mI mA : Nat → Int32} {nM : Nat} {T : Nat → List FT} (hR : FRUN cs N sz) (hc : CSH cs 0 (jRo 4 0 x)) (hz : sz = (jRo 4 0 x).length) (hw : wRo 4 x ≤ 20) (hk : kRo 4 x + wRo 4 x ≤ 140) (hM : nM ≤ 120)
    (ho : ∀ j, j ≤ nM → OKH (mS j, mI j) (sRo 4 x)) (hT : ∀ j, T j = fRo (mS j, mI j) 4 x) :
    ∀ r n j (mC : Nat → Int32) (fo : FoS) (tr : TrS) (D : Nat → FT) (cnt : Nat), j + r = nM + 1 → r < n → CT tr D cnt → cnt ≤ 4 + j * 140 → (∀ i, i < j → TM D cnt (fo.1 i) (lstT (T i))) → (∀ i, i < j → ∃ k, FLK T i k ∧ mC i = nI k) →
      ∃ mC' fo' tr' D' cnt', f1_findClasses_L9 kk N cs.1 cs.2.1 cs.2.2.1 cs.2.2.2.1 cs.2.2.2.2 n (nI j) (mS, mK, mI, mC, nI nM, mA) fo tr = kk (mS, mK, mI, mC', nI nM, mA) fo' tr' ∧ CT tr' D' cnt' ∧ ∀ i, i ≤ nM → ∃ k, FLK T i k ∧ mC' i = nI k := by
  intro r
  induction r with
  | zero =>
    intro n j mC fo tr D cnt h1 h2 h3 h4 h5 h6
    obtain ⟨n, rfl⟩ : ∃ m, n = m + 1 := ⟨n - 1, by omega⟩
    refine ⟨mC, fo, tr, D, cnt, ?_, h3, fun i hi => h6 i (by omega)⟩
    obtain ⟨R, S, hh, b⟩ := fo
    obtain ⟨tK, tF, tS, tT, tO, tN, tc⟩ := tr
    rw [f1_findClasses_L9, if_pos ((nI_ltI (by omega) (by omega)).mpr (by omega))]
  | succ r ih =>
    intro n j mC fo tr D cnt h1 h2 h3 h4 h5 h6
    obtain ⟨n, rfl⟩ : ∃ m, n = m + 1 := ⟨n - 1, by omega⟩
    obtain ⟨z, fo1, tr1, D1, cnt1, a1, a2, a3, a4, a5, a6, a7⟩ := c_fold (u := (mS j, mI j)) (fo := fo) hR hc hz (ho j (by omega)) hw h3 (by omega)
    rw [← hT j] at a6
    have hroots : ∀ i, i ≤ j → TM D1 cnt1 (upd fo1.1 j z i) (lstT (T i)) := by
      intro i hi
      by_cases q : i = j
      · subst q
        rw [z_upd_e]
        exact a6
      · rw [z_upd_n q, a7]
        exact (h5 i (by omega)).ext a5 a3
    have E : ∀ i, i ≤ j → (upd fo1.1 j z i = upd fo1.1 j z j ↔ T i = T j) := by
      intro i hi
      rw [c_eq a2 (hroots i hi) (hroots j (Nat.le_refl _))]
      exact ⟨lstT_inj, fun e => by rw [e]⟩
    obtain ⟨R1, S1, h1', b1⟩ := fo1
    obtain ⟨i', f1, f2⟩ := z_fl (N := N) (kk := fun x => some x) (S := S1) (hh := h1') (b := b1) E (by omega) j N 0 (by omega) (by have := hR.2.2; omega) (fun k hk => by omega)
    obtain ⟨mC', fo', tr', D', cnt', g1, g2, g3⟩ := ih n (j + 1) (upd mC j (nI i')) (upd R1 j z, S1, h1', b1) tr1 D1 cnt1 (by omega) (by omega) a2 (by omega) (fun i hi => hroots i (by omega)) (fun i hi => by
      by_cases q : i = j
      · subst q
        exact ⟨i', f1, z_upd_e⟩
      · rw [z_upd_n q]
        exact h6 i (by omega))
    refine ⟨mC', fo', tr', D', cnt', ?_, g2, g3⟩
    rw [← g1]
    have hgj := z_gd (n := j) (N := 121) (by omega) (by omega)
    have hnj := z_nat (n := j) (by omega)
    obtain ⟨R, S, hh, b⟩ := fo
    obtain ⟨cw, ce, cn, cj, cz⟩ := cs
    obtain ⟨tK, tF, tS, tT, tO, tN, tc⟩ := tr
    obtain ⟨tK1, tF1, tS1, tT1, tO1, tN1, tc1⟩ := tr1
    have a1' : f1_fold N (mS j) (mI j) (cw, ce, cn, cj, cz) (R, S, hh, b) (tK, tF, tS, tT, tO, tN, tc) = some (z, (R1, S1, h1', b1), tK1, tF1, tS1, tT1, tO1, tN1, tc1) := a1
    have f2' : f1_firstLike N (nI j) (upd R1 j z, S1, h1', b1) = some (nI i') := by
      rw [f1_firstLike]
      exact f2
    dsimp only
    rw [f1_findClasses_L9, if_neg (fun q => absurd ((nI_ltI (by omega) (by omega)).mp q) (by omega)), if_neg hgj, if_neg hgj, hnj, a1', ob_s]
    dsimp only
    have hgj' : ¬ (nI j < 0 ∨ 121 ≤ j) := by rw [hnj] at hgj; exact hgj
    rw [if_neg hgj', f2', ob_s]
    dsimp only [nm_v]
    rw [if_neg hgj', nI_1]
/-- all classes -/
theorem z_fclass {x : RoT 4} {mu : MuS} {fo : FoS} {tr : TrS} {nM : Nat} (hR : FRUN cs N sz) (hc : CSH cs 0 (jRo 4 0 x)) (hz : sz = (jRo 4 0 x).length) (hw : wRo 4 x ≤ 20) (hk : kRo 4 x + wRo 4 x ≤ 140) (hM : nM ≤ 120) (hm : mu.2.2.2.2.1 = nI nM) (ho : ∀ j, j ≤ nM → OKH (mtu mu j) (sRo 4 x)) (h0 : ∀ t, t < 4 → tr.1 t = 0) :
    ∃ mC' fo' tr', f1_findClasses N cs mu fo tr = some ((mu.1, mu.2.1, mu.2.2.1, mC', mu.2.2.2.2.1, mu.2.2.2.2.2), fo', tr') ∧ (∀ t, t < 4 → tr'.1 t = 0) ∧ ∀ i, i ≤ nM → ∃ k, FLK (fun j => fRo (mtu mu j) 4 x) i k ∧ mC' i = nI k := by
  obtain ⟨tr1, D1, c1, c2⟩ := c_clear h0
  obtain ⟨mS, mK, mI, mC, mc, mA⟩ := mu
  dsimp only at hm
  subst hm
  obtain ⟨mC', fo', tr', D', cnt', g1, g2, g3⟩ := z_fc (kk := fun a b c => some (a, b, c)) (mS := mS) (mK := mK) (mI := mI) (mA := mA) (T := fun j => fRo (mS j, mI j) 4 x) hR hc hz hw hk hM ho (fun j => rfl) (nM + 1) N 0 mC fo tr1 D1 4 (by omega) (by have := hR.2.2; omega) c2 (by omega) (fun i hi => by omega) (fun i hi => by omega)
  refine ⟨mC', fo', tr', ?_, g2.2.2.2.2.1, g3⟩
  obtain ⟨cw, ce, cn, cj, cz⟩ := cs
  obtain ⟨R, S, hh, b⟩ := fo
  obtain ⟨tK, tF, tS, tT, tO, tN, tc⟩ := tr
  obtain ⟨tK1, tF1, tS1, tT1, tO1, tN1, tc1⟩ := tr1
  rw [f1_findClasses, c1, ob_s]
  exact g1
end
