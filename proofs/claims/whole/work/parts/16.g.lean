/-! FOLDING in the reference: a row is tied -/
section
variable {N : Nat} {mH : MdH} {D : Nat → FT} {cnt : Nat} {x y : Int32} {A B T : FT} {Rq Rq' : List FT}
theorem MF.seq2 {T' : FT} {f : Int32 → MdH → Option (Int32 × MdH)} {o : Option (Int32 × MdH)} (hk : OKR D cnt (Rq ++ Rq')) (h : OKR D cnt Rq → MF mH D cnt Rq T o)
    (hf : ∀ x mH' D' cnt', o = some (x, mH') → CM mH' D' cnt' → EXT D D' cnt → cnt ≤ cnt' → TMm D' cnt' x T → OKR D' cnt' Rq' → MF mH' D' cnt' Rq' T' (f x mH')) : MF mH D cnt (Rq ++ Rq') T' (o.bind fun q => f q.1 q.2) := by
  obtain ⟨x, mH1, D1, cnt1, e1, e2, e3, e4, e5, e6, e7, e8, e9⟩ := h hk.app1
  obtain ⟨y, mH2, D2, cnt2, g1, g2, g3, g4, g5, g6, g7, g8, g9⟩ := hf x mH1 D1 cnt1 e1 e2 e3 e4 e8 (hk.app2 e3 e4 e5)
  refine ⟨y, mH2, D2, cnt2, by rw [e1]; exact g1, g2, e3.trans g3 e4, by omega, by rw [List.length_append]; omega, fun q => ?_, fun R hR => ?_, g8, g9.trans e9⟩
  · have q1 := e6 (fun R hR => q R (List.mem_append_left _ hR))
    have q2 := g6 (fun R hR => (q R (List.mem_append_right _ hR)).ext e3 e4)
    omega
  · rcases List.mem_append.mp hR with hR | hR
    · exact (e7 R hR).ext g3 g4
    · exact g7 R hR
theorem m_keep {k : Nat} {a b c : Int32} {mH' : MdH} (hN : 20000 < N) (h : CM mH D cnt) (hv : VM cnt k a b c) (ho : OKR D cnt [tM D k a b c]) (he : f8_number N (nI k) a b c mH = some (x, mH')) : mH'.2.2.2.2.2.2.2 = mH.2.2.2.2.2.2.2 := by
  rcases m_of hN h hv with ⟨t, h1, h2, h3⟩ | ⟨h1, h2⟩
  · rw [h3] at he
    have := (Prod.mk.inj (Option.some.inj he)).2
    rw [← this]
  · have hlt : cnt < 4200 := by
      rcases ho with q | q
      · obtain ⟨t, t1, t2⟩ := q _ List.mem_cons_self
        exact absurd t2 (h1 t t1)
      · simp only [List.length_cons, List.length_nil] at q; omega
    obtain ⟨mH2, D', e1, e2, e3, e4, e5⟩ := h2 hlt
    rw [e1] at he
    have := (Prod.mk.inj (Option.some.inj he)).2
    rw [← this]
    exact e5
theorem m_tie (hN : 20000 < N) : ∀ (m n : Nat) (L M : List FT) (x : Int32) (mH : MdH) (D : Nat → FT) (cnt : Nat), L.length = m → m < n → m ≤ 64 → CM mH D cnt → (∀ i A, L[i]? = some A → TE D cnt (mH.2.2.2.2.2.2.2.2 i) A) → TMm D cnt x (lstT M) → OKR D cnt (jrq L M) →
    MF mH D cnt (jrq L M) (lstT (jn L M)) (f8_join_L47 (fun x m => some (x, m)) N n x (nI m - 1) mH) := by
  intro m
  induction m with
  | zero =>
    intro n L M x mH D cnt h1 h2 h3 h4 h5 h6 h7
    obtain ⟨n, rfl⟩ : ∃ m, n = m + 1 := ⟨n - 1, by omega⟩
    have hL : L = [] := List.length_eq_zero_iff.mp h1
    subst hL
    obtain ⟨ht, hK, hA, hB, hC, hNx, h1x, hT, hR⟩ := mH
    rw [f8_join_L47, if_pos (show nI 0 - 1 < 0 by decide)]
    exact ⟨x, _, D, cnt, rfl, h4, EXT.refl, Nat.le_refl _, Nat.le_add_right _ _, fun _ => rfl, fun R hR => (by cases hR), h6, rfl⟩
  | succ m ih =>
    intro n L M x mH D cnt h1 h2 h3 h4 h5 h6 h7
    obtain ⟨n, rfl⟩ : ∃ m, n = m + 1 := ⟨n - 1, by omega⟩
    obtain ⟨L', A, rfl⟩ : ∃ L' A, L = L' ++ [A] := by
      rcases List.eq_nil_or_concat L with q | ⟨L', A, q⟩
      · rw [q] at h1; simp only [List.length_nil] at h1; omega
      · exact ⟨L', A, by rw [q, List.concat_eq_append]⟩
    rw [List.length_append] at h1
    simp only [List.length_cons, List.length_nil] at h1
    have hl : L'.length = m := by omega
    rw [jrq_snoc] at h7 ⊢
    rw [jn_snoc]
    have hc := h4.2.1
    have hm : TE D cnt (mH.2.2.2.2.2.2.2.2 m) A := h5 m A (by rw [List.getElem?_append_right (by omega), hl, Nat.sub_self]; rfl)
    have hrow := m_row h4 hm
    have cell : ∀ (z : Int32) (B : List FT), TMm D cnt z (lstT B) → lstC A (lstT B) = lstT (jn1 A M) → MF mH D cnt (lstT (jn1 A M) :: jrq L' (jn1 A M)) (lstT (jn L' (jn1 A M))) ((f8_number N 11 (mH.2.2.2.2.2.2.2.2 m) z 0 mH).bind fun q => f8_join_L47 (fun x m => some (x, m)) N n q.1 (nI m + -1) q.2) := by
      intro z B hz hB
      refine MF.seq2 (Rq := [lstT (jn1 A M)]) (Rq' := jrq L' (jn1 A M)) (T := lstT (jn1 A M)) (f := fun r mH' => f8_join_L47 (fun x m => some (x, m)) N n r (nI m + -1) mH') h7 (fun hk => ?_) (fun r mH' D' cnt' q1 q2 q3 q4 q5 q6 => ?_)
      · rw [← hB] at hk ⊢
        exact m_cell hN h4 hm hz hk
      · have et : tM D 11 (mH.2.2.2.2.2.2.2.2 m) z 0 = lstT (jn1 A M) := by
          rw [← hB]
          show lstC (denM D _) (denM D z) = _
          rw [hm.den (by omega), hz.2]
        have kp := m_keep (k := 11) hN h4 ⟨hm.id, hz.1, rfl⟩ (by rw [et]; exact OKR.app1 (Rq := [lstT (jn1 A M)]) h7) q1
        have := ih n L' (jn1 A M) r mH' D' cnt' hl (by omega) (by omega) q2 (fun i C hC => by
          have hi : i < L'.length := (List.getElem?_eq_some_iff.mp hC).1
          have := h5 i C (by rw [List.getElem?_append_left hi]; exact hC)
          rw [show mH'.2.2.2.2.2.2.2.2 = mH.2.2.2.2.2.2.2.2 by rw [kp]]
          exact this.ext q3 q4) q5 q6
        rw [Int32.sub_eq_add_neg] at this
        exact this
    obtain ⟨t, k, a, b, c, t1, t2, ⟨r1, r2, r3, r4⟩, t4, t5, t6⟩ := hrow
    have hk12 := t4.k12
    have hgt := z_gd (n := t) (N := 4200) (by omega) (by omega)
    have hgm := z_gd (n := m) (N := 64) (by omega) (by omega)
    have c1 := cell (-1) [] TMm.nil
    have c2 := cell x M h6
    obtain ⟨ht, hK, hA, hB, hC, hNx, h1x, hT, hR⟩ := mH
    dsimp only at r1 t2 c1 c2
    have hnl : ¬ nI m < 0 := fun q => absurd (Or.inl q) hgm
    rw [← nI_1, Int32.add_sub_cancel, f8_join_L47, if_neg hnl, if_neg hgm, if_neg hgm, z_nat (n := m) (by omega), t2, if_neg hgt, z_nat (n := t) (by omega), r1]
    rw [t2] at c1 c2
    dsimp only [nm_v]
    by_cases w : knd A = 6
    · have hk : k = 10 := t6.symm.trans (kof_10.mpr w)
      subst hk
      rw [if_pos (show nI 10 = (10 : Int32) from rfl)]
      exact c1 (by rw [jn1, if_pos w]; rfl)
    · have hk : k ≠ 10 := fun q => w (kof_10.mp (t6.trans q))
      rw [if_neg (nl_ne k 10 10 rfl hk (by omega) (by omega))]
      exact c2 (by rw [jn1, if_neg w]; rfl)
/-- two rows behind one another -/
theorem m_join {L M : List FT} (hN : 20000 < N) (h : CM mH D cnt) (hx : TMm D cnt x (lstT L)) (hy : TMm D cnt y (lstT M)) (hL : L.length ≤ 60) (hn : ∀ A, A ∈ L → A ≠ nilT) (hk : OKR D cnt (jrq L M)) : MF mH D cnt (jrq L M) (lstT (jn L M)) (f8_join N x y mH) := by
  obtain ⟨ht, hK, hA, hB, hC, hNx, h1x, hT, hR⟩ := mH
  obtain ⟨hR', e1, e2, e3⟩ := m_lay (kk := fun x2 x3 m => f8_join_L47 (fun x m => some (x, m)) N N x2 (x3 - 1) m) (w := y) (fun _ => h) L N 0 x hR (by omega) (by omega) hn hx
  have := m_tie hN L.length N L M y (ht, hK, hA, hB, hC, hNx, h1x, hT, hR') D cnt rfl (by omega) (by omega) h (fun i A hA => by have := e3 i A hA; rw [Nat.zero_add] at this; exact this) hy hk
  rw [Nat.zero_add] at e1
  rw [← e1] at this
  exact this
end
