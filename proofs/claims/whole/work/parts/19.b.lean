/-! COMPILING in the reference: the classes -/
section
variable {N : Nat} {t1 : Int32} {t2 : Nat → Int32} {mQ : MdQ} {mK : MdK} {mN : MdN} {mP : MdP} {mH : MdH} {mG : MdG} {lm : Int32} {lp ls li lf : Nat → Int32}
theorem nI_pm {j : Nat} : nI (j + 1) - 1 = nI j := by rw [← nI_1, Int32.add_sub_cancel]
/-- the first that has the same thing -/
def FLN (f : Nat → Int32) (m k : Nat) : Prop := k ≤ m ∧ f k = f m ∧ ∀ i, i < k → f i ≠ f m
theorem z_l135 {kk : Int32 → MdQ → MdK → MdN → MdP → MdL → MdH → MdG → Option (Int32 × MdQ × MdK × MdN × MdP × MdL × MdH × MdG)} {m : Nat} (hm : m < 121) : ∀ j n (lk : Nat → Int32), j ≤ m → j < n → (∃ k, j ≤ k ∧ k ≤ m ∧ lf k = lf m ∧ (∀ i, j ≤ i → i < k → lf i ≠ lf m) ∧ lk m = nI k) →
    ∃ lk' k, FLN lf m k ∧ lk' m = nI k ∧ (∀ i, i ≠ m → lk' i = lk i) ∧ f8_compile_L135 kk N t1 t2 n (nI m) (nI j - 1) mQ mK mN mP (lm, lp, ls, li, lk, lf) mH mG = kk (nI m) mQ mK mN mP (lm, lp, ls, li, lk', lf) mH mG := by
  obtain ⟨qc, qb, qp, qr, qC⟩ := mQ
  obtain ⟨k1, k2, k3, k4⟩ := mK
  obtain ⟨n1, n2, n3, n4, n5, n6⟩ := mN
  obtain ⟨p1, p2, p3, p4, p5, p6, a1, a2, a3, a4, a5, a6, a7, a8⟩ := mP
  obtain ⟨ht, hK, hA, hB, hC, hNx, h1x, hT, hR⟩ := mH
  obtain ⟨g1, g2, g3, g4, g5, g6, g7, g8, g9⟩ := mG
  have hgm := z_gd (n := m) (N := 121) (by omega) (by omega)
  have hnm := z_nat (n := m) (by omega)
  intro j
  induction j with
  | zero =>
    intro n lk h1 h2 h3
    obtain ⟨n, rfl⟩ : ∃ a, n = a + 1 := ⟨n - 1, by omega⟩
    obtain ⟨k, _, f2, f3, f4, f5⟩ := h3
    refine ⟨lk, k, ⟨f2, f3, fun i hi => f4 i (Nat.zero_le _) hi⟩, f5, fun i _ => rfl, ?_⟩
    rw [f8_compile_L135, if_pos (show nI 0 - 1 < (0 : Int32) by decide)]
  | succ j ih =>
    intro n lk h1 h2 h3
    obtain ⟨n, rfl⟩ : ∃ a, n = a + 1 := ⟨n - 1, by omega⟩
    obtain ⟨k, f1, f2, f3, f4, f5⟩ := h3
    have hg := z_gd (n := j) (N := 121) (by omega) (by omega)
    have hn := z_nat (n := j) (by omega)
    have hlt : ¬ nI j < 0 := fun q => hg (.inl q)
    have em : nI j + (-1) = nI j - 1 := by rw [Int32.sub_eq_add_neg]
    rw [nI_pm, f8_compile_L135, if_neg hlt, if_neg hg, if_neg hgm, hn, hnm]
    by_cases w : lf j = lf m
    · obtain ⟨lk', k', i1, i2, i3, i4⟩ := ih n (upd lk m (nI j)) (by omega) (by omega) ⟨j, Nat.le_refl _, by omega, w, fun i q1 q2 => by omega, z_upd_e⟩
      refine ⟨lk', k', i1, i2, fun i hi => ?_, ?_⟩
      · rw [i3 i hi, z_upd_n hi]
      · rw [if_pos w, if_neg (by rw [hnm] at hgm; exact hgm), ← i4, ← em]
        rfl
    · obtain ⟨lk', k', i1, i2, i3, i4⟩ := ih n lk (by omega) (by omega) ⟨k, by omega, f2, f3, fun i q1 q2 => by
        by_cases q : i = j
        · subst q; exact w
        · exact f4 i (by omega) q2, f5⟩
      refine ⟨lk', k', i1, i2, i3, ?_⟩
      rw [if_neg w, ← i4, ← em]
      rfl
/-- one mutant is folded, its class is found -/
theorem z_105s {kk : MdQ → MdK → MdN → MdP → MdL → MdH → MdG → Option (Int32 × MdQ × MdK × MdN × MdP × MdL × MdH × MdG)} {m nM n : Nat} {lk : Nat → Int32} {r : Int32} {mH' : MdH} (hm : m ≤ nM) (hM : nM ≤ 120) (hN : 200 < N) (hf : f8_fold N (nI m) mQ mN (nI nM, lp, ls, li, lk, lf) mH = some (r, mH')) :
    ∃ lk' k, FLN (upd lf m r) m k ∧ lk' m = nI k ∧ (∀ i, i ≠ m → lk' i = lk i) ∧ f8_compile_L105 kk N t1 t2 (n + 1) (nI m) mQ mK mN mP (nI nM, lp, ls, li, lk, lf) mH mG = f8_compile_L105 kk N t1 t2 n (nI (m + 1)) mQ mK mN mP (nI nM, lp, ls, li, lk', upd lf m r) mH' mG := by
  obtain ⟨lk', k, i1, i2, i3, i4⟩ := z_l135 (N := N) (t1 := t1) (t2 := t2) (mQ := mQ) (mK := mK) (mN := mN) (mP := mP) (mH := mH') (mG := mG) (lm := nI nM) (lp := lp) (ls := ls) (li := li) (lf := upd lf m r) (m := m) (kk := fun x Q K N' P L H G => nm_v (x + 1) (fun v => f8_compile_L105 kk N t1 t2 n v Q K N' P L H G)) (by omega) m N (upd lk m (nI m)) (Nat.le_refl _) (by omega) ⟨m, Nat.le_refl _, Nat.le_refl _, rfl, fun i q1 q2 => by omega, z_upd_e⟩
  refine ⟨lk', k, i1, i2, fun i hi => by rw [i3 i hi, z_upd_n hi], ?_⟩
  have hgm := z_gd (n := m) (N := 121) (by omega) (by omega)
  have hnm := z_nat (n := m) (by omega)
  have hgm' : ¬ (nI m < 0 ∨ 121 ≤ m) := by rw [hnm] at hgm; exact hgm
  obtain ⟨qc, qb, qp, qr, qC⟩ := mQ
  obtain ⟨k1, k2, k3, k4⟩ := mK
  obtain ⟨n1, n2, n3, n4, n5, n6⟩ := mN
  obtain ⟨p1, p2, p3, p4, p5, p6, a1, a2, a3, a4, a5, a6, a7, a8⟩ := mP
  obtain ⟨ht, hK, hA, hB, hC, hNx, h1x, hT, hR⟩ := mH
  obtain ⟨ht', hK', hA', hB', hC', hNx', h1x', hT', hR'⟩ := mH'
  obtain ⟨g1, g2, g3, g4, g5, g6, g7, g8, g9⟩ := mG
  rw [f8_compile_L105, if_neg (fun q => absurd ((nI_ltI (by omega) (by omega)).mp q) (by omega)), hf, ob_s]
  dsimp only
  rw [if_neg hgm, hnm, if_neg hgm', nm_v]
  refine Eq.trans ?_ (i4.trans ?_)
  · rfl
  · rw [nm_v, nI_1]
theorem z_l83 {kk : MdQ → MdK → MdN → MdP → MdL → MdH → MdG → Option (Int32 × MdQ × MdK × MdN × MdP × MdL × MdH × MdG)} {mL : MdL} {ht : Int32} {hK hA hB hC hNx hT hR : Nat → Int32} : ∀ r n i (h1 : Nat → Int32), i + r = 256 → r < n → (∀ j, j < i → h1 j = -1) →
    ∃ h1', (∀ j, j < 256 → h1' j = -1) ∧ f8_compile_L83 kk N t1 t2 n (nI i) mQ mK mN mP mL (ht, hK, hA, hB, hC, hNx, h1, hT, hR) mG = kk mQ mK mN mP mL (ht, hK, hA, hB, hC, hNx, h1', hT, hR) mG := by
  obtain ⟨qc, qb, qp, qr, qC⟩ := mQ
  obtain ⟨k1, k2, k3, k4⟩ := mK
  obtain ⟨n1, n2, n3, n4, n5, n6⟩ := mN
  obtain ⟨p1, p2, p3, p4, p5, p6, a1, a2, a3, a4, a5, a6, a7, a8⟩ := mP
  obtain ⟨l1, l2, l3, l4, l5, l6⟩ := mL
  obtain ⟨g1, g2, g3, g4, g5, g6, g7, g8, g9⟩ := mG
  intro r
  induction r with
  | zero =>
    intro n i h1 e1 e2 e3
    obtain ⟨n, rfl⟩ : ∃ a, n = a + 1 := ⟨n - 1, by omega⟩
    have : i = 256 := by omega
    subst this
    refine ⟨h1, e3, ?_⟩
    rw [f8_compile_L83, if_pos (by decide)]
  | succ r ih =>
    intro n i h1 e1 e2 e3
    obtain ⟨n, rfl⟩ : ∃ a, n = a + 1 := ⟨n - 1, by omega⟩
    have hg := z_gd (n := i) (N := 256) (by omega) (by omega)
    have hn := z_nat (n := i) (by omega)
    obtain ⟨h1', i1, i2⟩ := ih n (i + 1) (upd h1 i (-1)) (by omega) (by omega) (fun j hj => by
      by_cases q : j = i
      · subst q; exact z_upd_e
      · rw [z_upd_n q]; exact e3 j (by omega))
    refine ⟨h1', i1, ?_⟩
    rw [f8_compile_L83, if_neg (show ¬ (256 : Int32) ≤ nI i from nl_nle 256 i (nI i) rfl (by omega) (by omega)), if_neg hg, hn, nm_v, nI_1]
    exact i2
/-- an empty table -/
theorem cm_zero {ht : Int32} {hK hA hB hC hNx h1 hT hR : Nat → Int32} (h0 : ht = 0) (h : ∀ j, j < 256 → h1 j = -1) : CM (ht, hK, hA, hB, hC, hNx, h1, hT, hR) (fun _ => nilT) 0 :=
  ⟨h0, by omega, fun t ht => by omega, fun t t' _ h1 => by omega, fun _ => [], fun j hj => ⟨h j hj, trivial⟩, fun t k a b c ht => by omega⟩
end
section
variable {N : Nat} {t1 : Int32} {t2 : Nat → Int32} {mQ : MdQ} {mK : MdK} {mN : MdN} {mP : MdP} {mG : MdG} {lp ls li : Nat → Int32} {B nM : Nat} {x : RoT 4}
/-- things that are equal are of equal rows -/
theorem tm_eq {mH : MdH} {D : Nat → FT} {cnt : Nat} {a b : Int32} {L M : List FT} (h : CM mH D cnt) (ha : TMm D cnt a (lstT L)) (hb : TMm D cnt b (lstT M)) : a = b ↔ L = M := by
  have hc := h.2.1
  constructor
  · intro e
    subst e
    exact lstT_inj (ha.2.symm.trans hb.2)
  · intro e
    subst e
    exact IDm.eq (D := D) (by omega) h.2.2.2.1 h.nn ha.1 hb.1 (ha.2.trans hb.2.symm)
theorem flk_of {mH : MdH} {D : Nat → FT} {cnt m k : Nat} {f : Nat → Int32} {T : Nat → List FT} (h : CM mH D cnt) (hf : ∀ i, i ≤ m → TMm D cnt (f i) (lstT (T i))) (hk : FLN f m k) : FLK T m k := by
  obtain ⟨k1, k2, k3⟩ := hk
  exact ⟨k1, (tm_eq h (hf k k1) (hf m (Nat.le_refl _))).mp k2, fun i hi e => k3 i hi ((tm_eq h (hf i (by omega)) (hf m (Nat.le_refl _))).mpr e)⟩
theorem z_105 {kk : MdQ → MdK → MdN → MdP → MdL → MdH → MdG → Option (Int32 × MdQ × MdK × MdN × MdP × MdL × MdH × MdG)} {M : List Mtn} (hN : 20000 < N) (hQ : mQ.2.1 = nI B) (hn : mN.1 = nI (nRo B 4 0 x).length) (hB : B + (nRo B 4 0 x).length ≤ 512) (h256 : (nRo B 4 0 x).length ≤ 256) (hB6 : B ≤ 256) (hq : mQ.2.2.2.1 = nRix B 0 x (nRo B 4 0 x)) (hsh : NSH B mN 0 (nRo B 4 0 x)) (hi : IW (iRo 4) x) (hw : wRo 4 x ≤ 60) (ho : ∀ j, OKN8 (mtm M j) (sRo 4 x))
    (hM : M.length = nM) (hM1 : nM ≤ 120) (hpl : ∀ a, a ∈ M → a.1 < 60) (hl : ∀ j e, M[j]? = some e → lp (j + 1) = nI e.1 ∧ li (j + 1) = e.2.2) :
    ∀ r n m (lk lf : Nat → Int32) (mH : MdH) (D : Nat → FT) (cnt : Nat), m + r = nM + 1 → r < n → CM mH D cnt → (0 < m → ∀ R, R ∈ rRo uZ 4 x → HAS D cnt R) → cnt + (if m = 0 then cRo uZ true 4 x else 0) + ((M.drop (m - 1)).map (fun a => cRo (pu a.1) false 4 x)).sum ≤ 4200 → (∀ i, i < m → TMm D cnt (lf i) (lstT (fRo (mtm M i) 4 x))) → (∀ i, i < m → ∃ k, FLK (fun j => fRo (mtm M j) 4 x) i k ∧ lk i = nI k) →
      ∃ lk' lf' mH', f8_compile_L105 kk N t1 t2 n (nI m) mQ mK mN mP (nI nM, lp, ls, li, lk, lf) mH mG = kk mQ mK mN mP (nI nM, lp, ls, li, lk', lf') mH' mG ∧ ∀ i, i ≤ nM → ∃ k, FLK (fun j => fRo (mtm M j) 4 x) i k ∧ lk' i = nI k := by
  intro r
  induction r with
  | zero =>
    intro n m lk lf mH D cnt h1 h2 h3 h4 h5 h6 h7
    obtain ⟨n, rfl⟩ : ∃ a, n = a + 1 := ⟨n - 1, by omega⟩
    refine ⟨lk, lf, mH, ?_, fun i hi => h7 i (by omega)⟩
    obtain ⟨qc, qb, qp, qr, qC⟩ := mQ
    obtain ⟨k1, k2, k3, k4⟩ := mK
    obtain ⟨n1, n2, n3, n4, n5, n6⟩ := mN
    obtain ⟨p1, p2, p3, p4, p5, p6, a1, a2, a3, a4, a5, a6, a7, a8⟩ := mP
    obtain ⟨ht, hK, hA, hB, hC, hNx, h1x, hT, hR⟩ := mH
    obtain ⟨g1, g2, g3, g4, g5, g6, g7, g8, g9⟩ := mG
    rw [f8_compile_L105, if_pos ((nI_ltI (by omega) (by omega)).mpr (by omega))]
  | succ r ih =>
    intro n m lk lf mH D cnt h1 h2 h3 h4 h5 h6 h7
    obtain ⟨n, rfl⟩ : ∃ a, n = a + 1 := ⟨n - 1, by omega⟩
    -- it folds
    have fold : ∃ r mH' D' cnt', f8_fold N (nI m) mQ mN (nI nM, lp, ls, li, lk, lf) mH = some (r, mH') ∧ CM mH' D' cnt' ∧ EXT D D' cnt ∧ cnt ≤ cnt' ∧ (∀ R, R ∈ rRo uZ 4 x → HAS D' cnt' R) ∧ cnt' + ((M.drop m).map (fun a => cRo (pu a.1) false 4 x)).sum ≤ 4200 ∧ TMm D' cnt' r (lstT (fRo (mtm M m) 4 x)) := by
      cases m with
      | zero =>
        rw [if_pos rfl, Nat.zero_sub] at h5
        have hE : EN8 N mQ mN (nI nM, lp, ls, li, lk, lf) 0 B (nRo B 4 0 x).length uZ := ⟨hQ, hn, hB, h256, hB6, ⟨by omega, .inl ⟨rfl, rfl⟩⟩, hN⟩
        obtain ⟨r, mH', D', cnt', g1, g2, g3, g4, g5, g6, g7⟩ := m_fold (b := true) hE hi (ho 0) hw hsh hq h3 (fun q => by cases q) (by omega)
        exact ⟨r, mH', D', cnt', g1, g2, g3, g4, g6, by omega, g7⟩
      | succ j =>
        have hj : j < M.length := by omega
        have ha : M[j]? = some M[j] := List.getElem?_eq_getElem hj
        have hp := hpl _ (List.mem_of_getElem? ha)
        have hu := mtm_s ha
        obtain ⟨l1, l2⟩ := hl j _ ha
        rw [if_neg (by omega), Nat.add_sub_cancel, List.drop_eq_getElem_cons hj, List.map_cons, List.sum_cons] at h5
        have hc : cRo (mtm M (j + 1)) false 4 x = cRo (pu (M[j]).1) false 4 x := congrFun (cu_ro (by rw [hu]; rfl) 4) x
        have hE : EN8 N mQ mN (nI nM, lp, ls, li, lk, lf) (j + 1) B (nRo B 4 0 x).length (mtm M (j + 1)) := ⟨hQ, hn, hB, h256, hB6, ⟨by omega, .inr ⟨by omega, by rw [hu]; exact l1, by rw [hu]; exact l2, by rw [hu]; exact nI_m1 (by omega)⟩⟩, hN⟩
        obtain ⟨r, mH', D', cnt', g1, g2, g3, g4, g5, g6, g7⟩ := m_fold (b := false) hE hi (ho (j + 1)) hw hsh hq h3 (fun _ => h4 (by omega)) (by rw [hc]; omega)
        rw [hc] at g5
        exact ⟨r, mH', D', cnt', g1, g2, g3, g4, fun R hR => (h4 (by omega) R hR).ext g3 g4, by omega, g7⟩
    obtain ⟨v, mH', D', cnt', f1, f2, f3, f4, f5, f6, f7⟩ := fold
    have hcc := h3.2.1
    obtain ⟨lk', k, s1, s2, s3, s4⟩ := z_105s (t1 := t1) (t2 := t2) (mK := mK) (mP := mP) (mG := mG) (kk := kk) (n := n) (by omega) hM1 (by omega) f1
    have hall : ∀ i, i ≤ m → TMm D' cnt' (upd lf m v i) (lstT (fRo (mtm M i) 4 x)) := by
      intro i hi
      by_cases q : i = m
      · subst q
        rw [z_upd_e]
        exact f7
      · rw [z_upd_n q]
        exact (h6 i (by omega)).ext (by omega) f3 f4
    have hkk := flk_of f2 hall s1
    obtain ⟨lk2, lf2, mH2, e1, e2⟩ := ih n (m + 1) lk' (upd lf m v) mH' D' cnt' (by omega) (by omega) f2 (fun _ => f5) (by rw [if_neg (by omega), Nat.add_sub_cancel]; omega) (fun i hi => hall i (by omega)) (fun i hi => by
      by_cases q : i = m
      · subst q
        exact ⟨k, hkk, s2⟩
      · rw [s3 i q]
        exact h7 i (by omega))
    exact ⟨lk2, lf2, mH2, s4.trans e1, e2⟩
end
