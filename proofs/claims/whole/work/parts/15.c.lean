theorem DSC.len4 {b : Nat} {L : List Nat} (h : DSC b L) (h4 : ∀ t, t ∈ L → 4 ≤ t) : L.length + 4 ≤ b ∨ L = [] := by
  induction L generalizing b with
  | nil => exact .inr rfl
  | cons t L ih =>
    left
    have ht := h4 t List.mem_cons_self
    have hb := h.1
    rw [List.length_cons]
    rcases ih h.2 (fun s hs => h4 s (List.mem_cons_of_mem _ hs)) with q | q
    · omega
    · rw [q]; simp only [List.length_nil]; omega
/-- a tree is found, or made -/
theorem c_of {N : Nat} {tr : TrS} {D : Nat → FT} {cnt k : Nat} {a b c : Int32} (hN : 20000 < N) (h : CT tr D cnt) (hv : VALc cnt k a b c) (hc : cnt < 18755) :
    ∃ t tr' D' cnt', f6_of N (nI k) a b c tr = some (nI t, tr') ∧ CT tr' D' cnt' ∧ cnt ≤ cnt' ∧ cnt' ≤ cnt + 1 ∧ (∀ i, i < cnt → D' i = D i) ∧ 4 ≤ t ∧ t < cnt' ∧ D' t = trm D k a b c := by
  obtain ⟨hz, h4, h5, hD, h0, hrow, hI, ch, hch, hin⟩ := h
  obtain ⟨hh, hh1, hh2⟩ := z_chain (nI k) a b c
  obtain ⟨l1, l2, l3⟩ := hch hh hh1
  have hgh := z_gd (n := hh) (N := 4096) hh1 (by omega)
  have hlen := l2.len
  have hlen4 : (ch hh).length < cnt := by
    rcases DSC.len4 l2 l3 with h | h
    · omega
    · rw [h]; simp only [List.length_nil]; omega
  have start : f6_of N (nI k) a b c tr = f6_of_L22 (fun x1_6 x2_6 x3_6 x4_6 x5_6 c_tr => f6_of_L99 N x1_6 x2_6 x3_6 x4_6 x5_6 c_tr) N N (nI k) a b c (nI hh) (tr.2.2.2.2.2.1 hh) (nI 0) tr := by
    obtain ⟨tK, tF, tS, tT, tO, tN, tc⟩ := tr
    rw [f6_of, hh2, ob_s, if_neg hgh, nm_v, z_nat (n := hh) (by omega)]
    rfl
  rcases z_walk (kk := fun x1_6 x2_6 x3_6 x4_6 x5_6 c_tr => f6_of_L99 N x1_6 x2_6 x3_6 x4_6 x5_6 c_tr) (N := N) (x1 := nI k) (x2 := a) (x3 := b) (x4 := c) (x5 := nI hh) hz h5 (ch hh) N 0 _ l1 (fun t ht => ⟨l3 t ht, l2.lt t ht⟩) (by omega) (by omega) with ⟨t, w1, w2, w3⟩ | ⟨w1, w2⟩
  · refine ⟨t, tr, D, cnt, start.trans w3, ⟨hz, h4, h5, hD, h0, hrow, hI, ch, hch, hin⟩, Nat.le_refl _, by omega, fun _ _ => rfl, l3 t w1, l2.lt t w1, ?_⟩
    obtain ⟨k', a', b', c', r1, r2, r3⟩ := hrow t (l3 t w1) (l2.lt t w1)
    obtain ⟨e1, e2, e3, e4⟩ := r1
    have hk : k' = k := by
      have := e1.symm.trans w2.1
      exact (nI_eq (by have := r2.k9; omega) (by have := hv.k9; omega)).mp this
    rw [r3, hk, ← e2, w2.2.1, ← e3, w2.2.2.1, ← e4, w2.2.2.2]
  · -- it is new
    have hnew : ∀ t, 1 ≤ t → t < cnt → D t ≠ trm D k a b c := by
      intro t ht1 ht2 he
      by_cases ht4 : 4 ≤ t
      · obtain ⟨k', a', b', c', r1, r2, r3⟩ := hrow t ht4 ht2
        obtain ⟨q1, q2, q3, q4⟩ := trm_inj (by omega) hI (r2.mono (by omega)) hv (r3.symm.trans he)
        subst q1 q2 q3 q4
        obtain ⟨h', p1, p2, p3⟩ := hin t _ _ _ _ ht4 ht2 r1
        rw [hh2] at p2
        have : hh = h' := (nI_eq (by omega) (by omega)).mp (Option.some.inj p2)
        subst this
        exact w1 t p3 r1
      · have hk := trm_knd (D := D) (a := a) (b := b) (c := c) hv.k9
        rw [← he] at hk
        have h9 := hv.k9
        have : t = 1 ∨ t = 2 ∨ t = 3 := by omega
        rcases this with rfl | rfl | rfl
        · rw [hD.1] at hk; rw [knd_nil] at hk; omega
        · rw [hD.2.1] at hk; have : knd truT = 10 := rfl; omega
        · rw [hD.2.2] at hk; have : knd flsT = 11 := rfl; omega
    obtain ⟨tK, tF, tS, tT, tO, tN, tc⟩ := tr
    dsimp only at hz h0 hrow hch hin w2 l1 start
    subst hz
    have hgc := z_gd (n := cnt) (N := 18755) hc (by omega)
    have hcn := z_nat (n := cnt) (by omega)
    have hhn := z_nat (n := hh) (by omega)
    refine ⟨cnt, (upd tK cnt (nI k), upd tF cnt a, upd tS cnt b, upd tT cnt c, upd tO cnt (tN hh), upd tN hh (nI cnt), nI (cnt + 1)), (fun i => if i = cnt then trm D k a b c else D i), cnt + 1, ?_, ?_, by omega, by omega, fun i hi => if_neg (by omega), h4, by omega, if_pos rfl⟩
    · rw [start, w2, f6_of_L99, f6_add, if_neg (nl_ne cnt 18755 18755 rfl (by omega) (by omega) (by omega)), if_neg hgc, if_neg hgc, if_neg hgc, if_neg hgc, if_neg hgh, if_neg hgc, if_neg hgh, ob_s, hcn, hhn, nI_1]
    · have hDn : ∀ i, i < cnt → (if i = cnt then trm D k a b c else D i) = D i := fun i hi => if_neg (by omega)
      have htrm : ∀ (X : FT) (k : Nat) (a b c : Int32), VALc cnt k a b c → trm (fun i => if i = cnt then X else D i) k a b c = trm D k a b c := by
        intro X k a b c hv
        have id : ∀ x, IDc cnt x → (if x.toNatClampNeg = cnt then X else D x.toNatClampNeg) = D x.toNatClampNeg := by
          intro x ⟨i, i1, i2, i3⟩
          rw [i3, z_nat (n := i) (by omega)]
          exact if_neg (by omega)
        unfold trm
        rcases hv with ⟨g1 | g1, g2, g3⟩ | ⟨g1, g2, g3⟩ | ⟨g1, g2, g3⟩ | ⟨g1 | g1, g2, g3, g4⟩ | ⟨g1, g2, g3, g4⟩ | ⟨g1 | g1, g2, g3, g4⟩ <;> subst g1
        · rfl
        · rfl
        · show opT a _ _ = opT a _ _; dsimp only; rw [id b g2, id c g3]
        · show asgT a _ = asgT a _; dsimp only; rw [id b g2]
        · show chkT _ = chkT _; dsimp only; rw [id a g2]
        · show retT _ = retT _; dsimp only; rw [id a g2]
        · show iteT _ _ _ = iteT _ _ _; dsimp only; rw [id a g2, id b g3, id c g4]
        · show whlT _ _ = whlT _ _; dsimp only; rw [id a g2, id b g3]
        · show lstC _ _ = lstC _ _; dsimp only; rw [id a g2, id b g3]
      refine ⟨rfl, by omega, by omega, ⟨(if_neg (by omega)).trans hD.1, (if_neg (by omega)).trans hD.2.1, (if_neg (by omega)).trans hD.2.2⟩, fun t ht => ?_, fun t ht1 ht2 => ?_, fun t t' g1 g2 g3 g4 ge => ?_, fun x => if x = hh then cnt :: ch hh else ch x, fun x hx => ?_, fun t k' a' b' c' g1 g2 gr => ?_⟩
      · dsimp only
        rw [z_upd_n (by omega)]
        exact h0 t ht
      · by_cases w : t = cnt
        · subst w
          exact ⟨k, a, b, c, ⟨z_upd_e, z_upd_e, z_upd_e, z_upd_e⟩, hv, (if_pos rfl).trans (htrm _ k a b c hv).symm⟩
        · obtain ⟨k', a', b', c', ⟨r1, r1', r1'', r1'''⟩, r2, r3⟩ := hrow t ht1 (by omega)
          exact ⟨k', a', b', c', ⟨(z_upd_n w).trans r1, (z_upd_n w).trans r1', (z_upd_n w).trans r1'', (z_upd_n w).trans r1'''⟩, r2, (if_neg w).trans (r3.trans (htrm _ k' a' b' c' (r2.mono (by omega))).symm)⟩
      · dsimp only at ge
        by_cases w : t = cnt
        · by_cases w' : t' = cnt
          · omega
          · rw [if_pos w, if_neg w'] at ge
            exact absurd ge.symm (hnew t' g3 (by omega))
        · by_cases w' : t' = cnt
          · rw [if_neg w, if_pos w'] at ge
            exact absurd ge (hnew t g1 (by omega))
          · rw [if_neg w, if_neg w'] at ge
            exact hI t t' g1 (by omega) g3 (by omega) ge
      · dsimp only
        obtain ⟨c1, c2, c3⟩ := hch x hx
        by_cases w : x = hh
        · subst w
          rw [if_pos rfl]
          refine ⟨⟨z_upd_e, ?_⟩, ⟨by omega, c2⟩, fun t ht => ?_⟩
          · rw [z_upd_e]
            exact LNK.same c1 c2 (fun t ht => (z_upd_n (by omega)).symm)
          · rcases List.mem_cons.mp ht with rfl | ht
            · exact h4
            · exact c3 t ht
        · rw [if_neg w, z_upd_n w]
          exact ⟨LNK.same c1 c2 (fun t ht => (z_upd_n (by omega)).symm), c2.mono (by omega), c3⟩
      · dsimp only
        obtain ⟨e1, e2, e3, e4⟩ := gr
        dsimp only at e1 e2 e3 e4
        by_cases w : t = cnt
        · subst w
          rw [z_upd_e] at e1 e2 e3 e4
          subst e2 e3 e4
          rw [← e1]
          exact ⟨hh, hh1, hh2, by rw [if_pos rfl]; exact List.mem_cons_self⟩
        · rw [z_upd_n w] at e1 e2 e3 e4
          obtain ⟨x, x1, x2, x3⟩ := hin t k' a' b' c' g1 (by omega) ⟨e1, e2, e3, e4⟩
          refine ⟨x, x1, x2, ?_⟩
          by_cases w2 : x = hh
          · rw [if_pos w2]
            exact List.mem_cons_of_mem _ (by rw [← w2]; exact x3)
          · rw [if_neg w2]; exact x3
