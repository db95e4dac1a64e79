/-! FOLDING in the reference: statements -/
section
variable {N : Nat} {mQ : MdQ} {mN : MdN} {mH : MdH} {D : Nat → FT} {cnt : Nat} {v x y z : Int32} {A B C E X T : FT}
theorem MF.none (h : CM mH D cnt) (hx : TMm D cnt x T) : MF mH D cnt [] T (some (x, mH)) :=
  ⟨x, mH, D, cnt, rfl, h, EXT.refl, Nat.le_refl _, Nat.le_refl _, fun _ => rfl, fun R hR => (by cases hR), hx, rfl⟩
/-- a statement and the row of it alone -/
theorem m_pair {k : Nat} {a b c : Int32} (hN : 20000 < N) (h : CM mH D cnt) (hv : VM cnt k a b c) (et : tM D k a b c = X) (hk : OKR D cnt [X, lstC X nilT]) :
    MF mH D cnt [X, lstC X nilT] (lstC X nilT) ((f8_number N (nI k) a b c mH).bind fun q => (f8_single N q.1 q.2).bind fun r => some (r.1, (r.2.1, r.2.2.1, r.2.2.2.1, r.2.2.2.2.1, r.2.2.2.2.2.1, r.2.2.2.2.2.2.1, r.2.2.2.2.2.2.2.1, r.2.2.2.2.2.2.2.2.1, r.2.2.2.2.2.2.2.2.2))) := by
  subst et
  refine MF.seq (Rq := [tM D k a b c]) (Rq' := [lstC (tM D k a b c) nilT]) (T := tM D k a b c) (f := fun x m => (f8_single N x m).bind fun r => some (r.1, (r.2.1, r.2.2.1, r.2.2.2.1, r.2.2.2.2.1, r.2.2.2.2.2.1, r.2.2.2.2.2.2.1, r.2.2.2.2.2.2.2.1, r.2.2.2.2.2.2.2.2.1, r.2.2.2.2.2.2.2.2.2))) hk (m_num hN h hv) (fun x mH' D' cnt' h1 h2 h3 h4 h5 => ?_)
  have hc := h1.2.1
  exact MF.of (m_single hN h1 (h4.te (by omega) (kofM_tM (D := D) hv).2) h5) (nb8 _)
theorem m_s6 {k : Nat} (hN : 20000 < N) (h : CM mH D cnt) (hg : ¬ (v < 0 ∨ 512 ≤ v.toNatClampNeg)) (h1 : mN.2.1 v.toNatClampNeg = 6) (h2 : mN.2.2.1 v.toNatClampNeg = nI k) (hk6 : k < 6) (h3 : f8_of (mN.2.2.2.1 v.toNatClampNeg) mQ mH = some y) (hy : TE D cnt y E)
    (hk : OKR D cnt (if knd E = 2 ∧ num E = nI k then [] else [asgT (nI k) E, lstC (asgT (nI k) E) nilT])) :
    MF mH D cnt (if knd E = 2 ∧ num E = nI k then [] else [asgT (nI k) E, lstC (asgT (nI k) E) nilT]) (lstT (if knd E = 2 ∧ num E = nI k then [] else [asgT (nI k) E])) (f8_foldStatement N v mQ mN mH) := by
  have hc := h.2.1
  have et : tM D 6 (nI k) y 0 = asgT (nI k) E := by
    show asgT (nI k) (denM D y) = _
    rw [hy.den (by omega)]
  have pr := m_pair (N := N) (k := 6) (a := nI k) (b := y) (c := 0) hN h ⟨hy.id, rfl⟩ et
  have no := MF.none h (TMm.nil (D := D) (cnt := cnt))
  obtain ⟨t, k', a, b, c, t1, rfl, ⟨r1, r2, r3, r4⟩, t4, t5, t6⟩ := m_row h hy
  have hk12 := t4.k12
  have hgt := z_gd (n := t) (N := 4200) (by omega) (by omega)
  obtain ⟨qc, qb, qp, qr, qC⟩ := mQ
  obtain ⟨nn, nk, na, nb, nc, ns⟩ := mN
  obtain ⟨ht, hK, hA, hB, hC, hNx, h1x, hT, hR⟩ := mH
  dsimp only at h1 h2 h3 r1 r2
  rw [f8_foldStatement, if_neg hg, if_pos h1, f8_foldStatement_L25, if_neg hg, h3, ob_s, if_neg hg, if_pos h1, if_neg hgt, if_neg hgt, if_neg hg, z_nat (n := t) (by omega), r1, r2, h2, f8_foldStatement_L99, if_neg hg, h2]
  by_cases w : knd E = 2 ∧ num E = nI k
  · rw [if_pos w, if_pos w]
    have hk2 : k' = 2 := t6.symm.trans (kof_2.mpr ⟨w.1, fun q => by
      rw [w.2] at q
      rcases q with q | q
      · exact absurd ((nI_eq (a := k) (b := 6) (by omega) (by omega)).mp q) (by omega)
      · exact absurd ((nI_eq (a := k) (b := 7) (by omega) (by omega)).mp q) (by omega)⟩)
    subst hk2
    have hn : num E = a := by rw [t5]; exact num_nde
    rw [if_pos (show nI 2 = (2 : Int32) from rfl), if_pos (hn.symm.trans w.2)]
    exact no
  · rw [if_neg w] at hk
    rw [if_neg w, if_neg w]
    by_cases w2 : k' = 2
    · subst w2
      have hn : num E = a := by rw [t5]; exact num_nde
      have hkd := (kof_2.mp t6).1
      rw [if_pos (show nI 2 = (2 : Int32) from rfl), if_neg (fun q => w ⟨hkd, hn.trans q⟩)]
      exact pr hk
    · rw [if_neg (nl_ne k' 2 2 rfl w2 (by omega) (by omega))]
      exact pr hk
theorem m_s7 {La Lb : List FT} {a : Int32} (hN : 20000 < N) (h : CM mH D cnt) (hg : ¬ (v < 0 ∨ 512 ≤ v.toNatClampNeg)) (h1 : mN.2.1 v.toNatClampNeg = 7) (h2 : f8_of (mN.2.2.1 v.toNatClampNeg) mQ mH = some x) (h3 : f8_of (mN.2.2.2.1 v.toNatClampNeg) mQ mH = some y) (h4 : f8_of (mN.2.2.2.2.1 v.toNatClampNeg) mQ mH = some z)
    (hx : TE D cnt x C) (hy : TMm D cnt y (lstT La)) (hz : TMm D cnt z (lstT Lb)) (hk : OKR D cnt (if knd C = 10 ∨ knd C = 11 then [] else [iteT C (lstT La) (lstT Lb), lstC (iteT C (lstT La) (lstT Lb)) nilT])) :
    MF mH D cnt (if knd C = 10 ∨ knd C = 11 then [] else [iteT C (lstT La) (lstT Lb), lstC (iteT C (lstT La) (lstT Lb)) nilT]) (lstT (if knd C = 10 then La else if knd C = 11 then Lb else [iteT C (lstT La) (lstT Lb)])) (f8_foldStatement N v mQ mN mH) := by
  have hc := h.2.1
  have et : tM D 7 x y z = iteT C (lstT La) (lstT Lb) := by
    show iteT (denM D x) (denM D y) (denM D z) = _
    rw [hx.den (by omega), hy.2, hz.2]
  have pr := m_pair (N := N) (k := 7) (a := x) (b := y) (c := z) hN h ⟨hx.id, hy.1, hz.1⟩ et
  have noy := MF.none h hy
  have noz := MF.none h hz
  obtain ⟨t, k', a, b, c, t1, rfl, ⟨r1, r2, r3, r4⟩, t4, t5, t6⟩ := m_row h hx
  have hk12 := t4.k12
  have hgt := z_gd (n := t) (N := 4200) (by omega) (by omega)
  obtain ⟨qc, qb, qp, qr, qC⟩ := mQ
  obtain ⟨nn, nk, na, nb, nc, ns⟩ := mN
  obtain ⟨ht, hK, hA, hB, hC, hNx, h1x, hT, hR⟩ := mH
  dsimp only at h1 h2 h3 h4 r1 r2
  have e76 : ¬ (7 : Int32) = 6 := by decide
  rw [f8_foldStatement, if_neg hg, h1, if_neg e76, if_neg hg, h2, ob_s, f8_foldStatement_L25, if_neg hg, h3, ob_s, if_neg hg, h1, if_neg e76, if_pos rfl, if_neg hgt, if_neg hgt, if_neg hg, if_neg hg, h4, ob_s, ob_s, z_nat (n := t) (by omega), r1, r2]
  by_cases w : k' = 12
  · subst w
    rw [if_pos (show nI 12 = (12 : Int32) from rfl)]
    rcases t4.1 with rfl | rfl
    · have hT : C = flsT := t5
      subst hT
      rw [if_neg (show ¬ (0 : Int32) = 1 by decide)]
      exact noz
    · have hT : C = truT := t5
      subst hT
      rw [if_pos rfl]
      exact noy
  · have hk0 : ¬ (knd C = 0 ∨ 10 ≤ knd C) := fun q => w (t6.symm.trans (kof_12.mpr q))
    have n1 : ¬ knd C = 10 := by omega
    have n2 : ¬ knd C = 11 := by omega
    rw [if_neg (fun q => q.elim n1 n2)] at hk
    rw [if_neg (nl_ne k' 12 12 rfl w (by omega) (by omega)), if_neg (fun q => q.elim n1 n2), if_neg n1, if_neg n2]
    exact pr hk
end
