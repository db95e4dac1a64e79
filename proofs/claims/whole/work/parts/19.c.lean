/-! COMPILING in the reference -/
theorem pi_len {T : List Nat} {top : TopS} {x : RoT 4} (hT : TXT top T) (h : pTop T = some x) : ∃ p', p' ≤ T.length ∧ iRo 4 0 p' x := by
  have h60 := hT.1
  have hr := z_rec (t0 := fun _ => 0) (rq := 0) (N := 100) hT (by omega) 3 8 (by omega) (by omega)
  have hw := (z_lev (d := 4) (rec := f5_rec 100 8) (t0 := fun _ => 0) (rq := 0) (N := 100) hT (by omega) (by omega) hr.1 hr.2.1 hr.2.2).2.2 0 (fun _ => 0, fun _ => 0, fun _ => 0, fun _ => 0, 0) [] (by omega) ⟨rfl, fun j p h => by cases h⟩ (by show 0 ≤ 0; omega)
  rw [List.drop_zero] at hw
  rw [pTop] at h
  obtain ⟨⟨y, p', s'⟩, h1, h⟩ := ob_el h
  dsimp only at h
  split at h
  · cases h
    rw [h1] at hw
    obtain ⟨e1, f1, f2, _⟩ := hw
    exact ⟨p', by omega, pi_row (pi_st 4 (pi_bsub 4)) _ _ _ _ _ _ h1⟩
  · cases h
section
variable {T : List Nat} {base B : Nat} {mT : MdT} {mQ : MdQ} {mK : MdK} {mN : MdN} {mP : MdP} {mL : MdL} {mH : MdH} {mG : MdG}
/-- what is known of a program that is compiled -/
def CPL (x : RoT 4) (mL : MdL) : Prop := (MU (sRo 4 x)).length ≤ 120 ∧ mL.1 = nI (MU (sRo 4 x)).length ∧ MuL mL (MU (sRo 4 x)) ∧ ∀ i, i ≤ (MU (sRo 4 x)).length → ∃ k, FLK (fun j => fRo (mtm (MU (sRo 4 x)) j) 4 x) i k ∧ mL.2.2.2.2.1 i = nI k
theorem z_cmpF (hT : TXM mT T) (hb : base = 0 ∧ B = 256 ∨ base = 256 ∧ B = 0) (hq : mQ.2.1 = nI base) (h : pTop T = none) :
    ∃ N qr mK' mN' mP', f8_compile N mT mQ mK mN mP mL mH mG = some (0, (mQ.1, nI base, nI B, qr, 1), mK', mN', mP', mL, mH, mG) ∧ OUK B mK mK' := by
  obtain ⟨q1, q2, q3, q4, q5⟩ := mQ
  dsimp only at hq
  subst hq
  have hr := z_readM (q1 := q1) (q3 := q3) (q4 := q4) (q5 := 0) (mK := mK) (mN := mN) (mP := mP) hT hb
  rw [h] at hr
  obtain ⟨N0, qr, mK', mN', mP', r1, r2, r3⟩ := hr
  refine ⟨N0, qr, mK', mN', mP', ?_, r2⟩
  have r1 := r1 N0 (Nat.le_refl _)
  obtain ⟨t1, t2⟩ := mT
  obtain ⟨k1, k2, k3, k4⟩ := mK
  obtain ⟨n1, n2, n3, n4, n5, n6⟩ := mN
  obtain ⟨p1, p2, p3, p4, p5, p6, a1, a2, a3, a4, a5, a6, a7, a8⟩ := mP
  obtain ⟨l1, l2, l3, l4, l5, l6⟩ := mL
  obtain ⟨ht, hK, hA, hB, hC, hNx, h1x, hT', hR⟩ := mH
  obtain ⟨g1, g2, g3, g4, g5, g6, g7, g8, g9⟩ := mG
  obtain ⟨k1', k2', k3', k4'⟩ := mK'
  obtain ⟨n1', n2', n3', n4', n5', n6'⟩ := mN'
  obtain ⟨p1', p2', p3', p4', p5', p6', a1', a2', a3', a4', a5', a6', a7', a8'⟩ := mP'
  rw [f8_compile, r1, ob_s]
  dsimp only
  rw [if_pos rfl]
  rfl
theorem z_cmpS {x : RoT 4} {p' : Nat} (hT : TXM mT T) (hb : base = 0 ∧ B = 256 ∨ base = 256 ∧ B = 0) (hq : mQ.2.1 = nI base) (h : pTop T = some x) (hp : p' ≤ T.length) (hi : iRo 4 0 p' x) :
    ((MU (sRo 4 x)).length ≤ 120 → ∃ N mK' mN' mP' mL' mH' qr, f8_compile N mT mQ mK mN mP mL mH mG = some (nI (MU (sRo 4 x)).length, (1, nI B, nI B, qr, 0), mK', mN', mP', mL', mH', (mG.1, 0, 0, 0, mG.2.2.2.2.1, mG.2.2.2.2.2.1, 0, mG.2.2.2.2.2.2.2.1, mG.2.2.2.2.2.2.2.2)) ∧ MKH mK' B (mRo 4 B x ++ [(14, 0, 0)]) ∧ (mRo 4 B x).length ≤ 120 ∧ CPL x mL') ∧
    (¬ (MU (sRo 4 x)).length ≤ 120 → ∃ N qr mK' mN' mP', f8_compile N mT mQ mK mN mP mL mH mG = some (0, (mQ.1, nI base, nI B, qr, 2), mK', mN', mP', mL, mH, mG) ∧ OUK B mK mK') := by
  have h60 := hT.2.1
  have hS := sin_ro 4 _ _ _ hi
  obtain ⟨q1, q2, q3, q4, q5⟩ := mQ
  dsimp only at hq
  subst hq
  have hr := z_readM (q1 := q1) (q3 := q3) (q4 := q4) (q5 := 0) (mK := mK) (mN := mN) (mP := mP) hT hb
  rw [h] at hr
  obtain ⟨N0, mK', mN', mP', r1, r2, r3, r4, r5⟩ := hr
  have hB : B ≤ 256 := by omega
  have hD : DSR (nRo B 4 0 x) (sRo 4 x) := dsr_of (pn_ro 4 0 x) (dk_ro 4 0 x) hS (by omega)
  have hvv : ∀ e, e ∈ sRo 4 x → SV e.2.1 e.2.2 := fun e he => (hS.2.2 e he).2.2
  have r1 := r1 (N0 + 20001) (by omega)
  obtain ⟨mL1, b1, b2⟩ := z_lmu (N := N0 + 20001) (x1 := 0) (mL := mL) (q1 := q1) (q2 := nI base) (q4 := nRix B 0 x (nRo B 4 0 x)) (q5 := 0) (tl := T.length) r3 hB (by omega) (by omega) hT.1 h60 (.inl rfl) hS hp hD (fun q => absurd q (by decide))
  have e1 : mL1 = mL := by
    rcases b2 with ⟨_, b2⟩ | ⟨b2, _⟩
    · exact b2
    · exact absurd b2 (by decide)
  subst e1
  have hlen : (MU (sRo 4 x)).length < 1000 := by
    rw [mu_len hvv]
    have k := (rb_row (d := 4) (by omega) (sin_st 4 (sin_bsub 4)) (fun u => cz_st (cz_bsub 4)) (sb_st (sb_bsub 4 (by omega))) x 0 p' (by rw [Nat.zero_add]; exact hi) (by omega)).1
    obtain ⟨a, A, Bb, z, k1, k2, k3, k4, _⟩ := k
    have : muS (sRo 4 x) = muS (sRow (sSt 4 (sBSub 4)) x) := rfl
    omega
  obtain ⟨t1, t2⟩ := mT
  obtain ⟨k1, k2, k3, k4⟩ := mK
  obtain ⟨n1, n2, n3, n4, n5, n6⟩ := mN
  obtain ⟨p1, p2, p3, p4, p5, p6, a1, a2, a3, a4, a5, a6, a7, a8⟩ := mP
  obtain ⟨l1, l2, l3, l4, l5, l6⟩ := mL1
  obtain ⟨ht, hK, hA, hB', hC, hNx, h1x, hT', hR⟩ := mH
  obtain ⟨g1, g2, g3, g4, g5, g6, g7, g8, g9⟩ := mG
  obtain ⟨k1', k2', k3', k4'⟩ := mK'
  obtain ⟨n1', n2', n3', n4', n5', n6'⟩ := mN'
  obtain ⟨p1', p2', p3', p4', p5', p6', a1', a2', a3', a4', a5', a6', a7', a8'⟩ := mP'
  constructor
  · intro hM
    obtain ⟨mL2, d1, d2⟩ := z_lmu (N := N0 + 20001) (x1 := 1) (mL := (l1, l2, l3, l4, l5, l6)) (q1 := q1) (q2 := nI base) (q4 := nRix B 0 x (nRo B 4 0 x)) (q5 := 0) (tl := T.length) r3 hB (by omega) (by omega) hT.1 h60 (.inr rfl) hS hp hD (fun _ => hM)
    obtain ⟨m1, m2, m3, m4, m5, m6⟩ := mL2
    have d2 : MuL (m1, m2, m3, m4, m5, m6) (MU (sRo 4 x)) := by
      rcases d2 with ⟨q, _⟩ | ⟨_, q, _⟩
      · exact absurd q (by decide)
      · exact q
    obtain ⟨h1', f1, f2⟩ := z_l83 (N := N0 + 20001) (t1 := t1) (t2 := t2) (mQ := (1, nI B, nI B, nRix B 0 x (nRo B 4 0 x), 0)) (mK := (k1', k2', k3', k4')) (mN := (n1', n2', n3', n4', n5', n6')) (mP := (p1', p2', p3', p4', p5', p6', a1', a2', a3', a4', a5', a6', a7', a8')) (mG := (g1, 0, 0, 0, g5, g6, 0, g8, g9)) (mL := (nI (MU (sRo 4 x)).length, m2, m3, m4, m5, m6)) (ht := 0) (hK := hK) (hA := hA) (hB := hB') (hC := hC) (hNx := hNx) (hT := hT') (hR := hR)
      (kk := fun Q K N' P L H G => f8_compile_L105 (fun Q K N' P L H G => some (L.1, Q, K, N', P, L, H, G)) (N0 + 20001) t1 t2 (N0 + 20001) 0 Q K N' P L H G) 256 (N0 + 20001) 0 h1x (by omega) (by omega) (fun j hj => by omega)
    have room := rb_top hi (by omega) (by rw [← mu_len hvv]; exact hM)
    have room : 0 + (if (0 : Nat) = 0 then cRo uZ true 4 x else 0) + (((MU (sRo 4 x)).drop (0 - 1)).map (fun a => cRo (pu a.1) false 4 x)).sum ≤ 4200 := by
      rw [if_pos rfl, Nat.zero_sub, List.drop_zero, sum_mu (f := fun s => cRo (pu s) false 4 x) _ hvv]
      omega
    have kn := kn_top hi (by omega)
    obtain ⟨lk', lf', mH2, s1, s2⟩ := z_105 (N := N0 + 20001) (t1 := t1) (t2 := t2) (mQ := (1, nI B, nI B, nRix B 0 x (nRo B 4 0 x), 0)) (mK := (k1', k2', k3', k4')) (mN := (n1', n2', n3', n4', n5', n6')) (mP := (p1', p2', p3', p4', p5', p6', a1', a2', a3', a4', a5', a6', a7', a8')) (mG := (g1, 0, 0, 0, g5, g6, 0, g8, g9)) (lp := m2) (ls := m3) (li := m4) (B := B) (nM := (MU (sRo 4 x)).length) (x := x) (kk := fun Q K N' P L H G => some (L.1, Q, K, N', P, L, H, G)) (M := MU (sRo 4 x)) (by omega) rfl r3.1 (by omega) (by omega) hB rfl (fun k q hk => by rw [Nat.zero_add]; exact r3.2.1 k q hk) ⟨0, p', hi⟩ (by omega) (okn_mtm hS (by omega)) rfl hM (fun a ha => by have := (mu_lt hS ha).2; omega) (fun j e he => by obtain ⟨c1, c2, c3⟩ := d2 j e he; exact ⟨c1, c3⟩)
      ((MU (sRo 4 x)).length + 1) (N0 + 20001) 0 m5 m6 (0, hK, hA, hB', hC, hNx, h1', hT', hR) (fun _ => nilT) 0 (by omega) (by omega) (cm_zero rfl f1) (fun q => by omega) room (fun i hi => by omega) (fun i hi => by omega)
    have s1 : f8_compile_L105 (fun Q K N' P L H G => some (L.1, Q, K, N', P, L, H, G)) (N0 + 20001) t1 t2 (N0 + 20001) 0 (1, nI B, nI B, nRix B 0 x (nRo B 4 0 x), 0) (k1', k2', k3', k4') (n1', n2', n3', n4', n5', n6') (p1', p2', p3', p4', p5', p6', a1', a2', a3', a4', a5', a6', a7', a8') (nI (MU (sRo 4 x)).length, m2, m3, m4, m5, m6) (0, hK, hA, hB', hC, hNx, h1', hT', hR) (g1, 0, 0, 0, g5, g6, 0, g8, g9) = _ := s1
    refine ⟨N0 + 20001, (k1', k2', k3', k4'), (n1', n2', n3', n4', n5', n6'), (p1', p2', p3', p4', p5', p6', a1', a2', a3', a4', a5', a6', a7', a8'), (nI (MU (sRo 4 x)).length, m2, m3, m4, lk', lf'), mH2, nRix B 0 x (nRo B 4 0 x), ?_, fun k q hk => r2.2.1 k q hk, by omega, hM, rfl, d2, s2⟩
    rw [f8_compile, r1, ob_s]
    dsimp only
    rw [if_neg (by decide), b1, ob_s]
    dsimp only
    rw [if_pos (show nI (MU (sRo 4 x)).length ≤ (120 : Int32) from nl_ge 120 (MU (sRo 4 x)).length _ rfl hM (by omega)), d1, ob_s]
    exact f2.trans s1
  · intro hM
    refine ⟨N0 + 20001, nRix B 0 x (nRo B 4 0 x), (k1', k2', k3', k4'), (n1', n2', n3', n4', n5', n6'), (p1', p2', p3', p4', p5', p6', a1', a2', a3', a4', a5', a6', a7', a8'), ?_, r2.2.2⟩
    rw [f8_compile, r1, ob_s]
    dsimp only
    rw [if_neg (by decide), b1, ob_s]
    dsimp only
    rw [if_neg (show ¬ nI (MU (sRo 4 x)).length ≤ (120 : Int32) from nl_nge 120 (MU (sRo 4 x)).length _ rfl (by omega) (by omega))]
    rfl
end
