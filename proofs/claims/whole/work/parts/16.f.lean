/-! FOLDING in the reference: one request behind another; rows joined -/
section
variable {N : Nat} {mH : MdH} {D : Nat → FT} {cnt : Nat} {x y : Int32} {A B T : FT} {Rq Rq' : List FT}
theorem OKR.app1 (h : OKR D cnt (Rq ++ Rq')) : OKR D cnt Rq := by
  rcases h with h | h
  · exact .inl (fun R hR => h R (List.mem_append_left _ hR))
  · right; rw [List.length_append] at h; omega
theorem OKR.app2 {D' : Nat → FT} {cnt' : Nat} (h : OKR D cnt (Rq ++ Rq')) (he : EXT D D' cnt) (h1 : cnt ≤ cnt') (h2 : cnt' ≤ cnt + Rq.length) : OKR D' cnt' Rq' := by
  rcases h with h | h
  · exact .inl (fun R hR => (h R (List.mem_append_right _ hR)).ext he h1)
  · right; rw [List.length_append] at h; omega
theorem MF.seq {T' : FT} {f : Int32 → MdH → Option (Int32 × MdH)} {o : Option (Int32 × MdH)} (hk : OKR D cnt (Rq ++ Rq')) (h : OKR D cnt Rq → MF mH D cnt Rq T o)
    (hf : ∀ x mH' D' cnt', CM mH' D' cnt' → EXT D D' cnt → cnt ≤ cnt' → TMm D' cnt' x T → OKR D' cnt' Rq' → MF mH' D' cnt' Rq' T' (f x mH')) : MF mH D cnt (Rq ++ Rq') T' (o.bind fun q => f q.1 q.2) := by
  obtain ⟨x, mH1, D1, cnt1, e1, e2, e3, e4, e5, e6, e7, e8, e9⟩ := h hk.app1
  obtain ⟨y, mH2, D2, cnt2, g1, g2, g3, g4, g5, g6, g7, g8, g9⟩ := hf x mH1 D1 cnt1 e2 e3 e4 e8 (hk.app2 e3 e4 e5)
  refine ⟨y, mH2, D2, cnt2, by rw [e1]; exact g1, g2, e3.trans g3 e4, by omega, by rw [List.length_append]; omega, fun q => ?_, fun R hR => ?_, g8, g9.trans e9⟩
  · have q1 := e6 (fun R hR => q R (List.mem_append_left _ hR))
    have q2 := g6 (fun R hR => (q R (List.mem_append_right _ hR)).ext e3 e4)
    omega
  · rcases List.mem_append.mp hR with hR | hR
    · exact (e7 R hR).ext g3 g4
    · exact g7 R hR
theorem m_cell (hN : 20000 < N) (h : CM mH D cnt) (hx : TE D cnt x A) (hy : TMm D cnt y B) (hk : OKR D cnt [lstC A B]) : MF mH D cnt [lstC A B] (lstC A B) (f8_number N 11 x y 0 mH) := by
  have hc := h.2.1
  have et : tM D 11 x y 0 = lstC A B := by
    show lstC (denM D x) (denM D y) = _
    rw [hx.den (by omega), hy.2]
  have := m_num (N := N) (k := 11) (a := x) (b := y) (c := 0) hN h ⟨hx.id, hy.1, rfl⟩ (by rw [et]; exact hk)
  rw [et] at this
  exact this
theorem m_single (hN : 20000 < N) (h : CM mH D cnt) (hx : TE D cnt x A) (hk : OKR D cnt [lstC A nilT]) : MF mH D cnt [lstC A nilT] (lstC A nilT) (f8_single N x mH) := by
  refine MF.of (m_cell hN h hx TMm.nil hk) ?_
  obtain ⟨ht, hK, hA, hB, hC, hNx, h1x, hT, hR⟩ := mH
  rw [f8_single]
  exact nb8 _
/-- a list's head and its rest -/
theorem m_lst (h : CM mH D cnt) (hx : TMm D cnt x (lstC A B)) (hn : A ≠ nilT) : ∃ t, t < cnt ∧ x = nI t ∧ TE D cnt (mH.2.2.1 t) A ∧ TMm D cnt (mH.2.2.2.1 t) B := by
  have hc := h.2.1
  obtain ⟨t, k, a, b, c, h1, rfl, ⟨r1, r2, r3, r4⟩, h4, h5, h6⟩ := m_row h (hx.te (by omega) nde_nil)
  have hk : k = 11 := h6.symm
  subst hk
  obtain ⟨_, _, q1, q2, _⟩ := nde_inj h5
  refine ⟨t, h1, rfl, ?_, ?_⟩
  · rw [r2]
    exact TMm.te (by omega) ⟨h4.1.mono (by omega), q1.symm⟩ hn
  · rw [r3]
    exact ⟨h4.2.1.mono (by omega), q2.symm⟩
def jn1 (A : FT) (M : List FT) : List FT := if knd A = 6 then [A] else A :: M
def jn : List FT → List FT → List FT
  | [], M => M
  | A :: l, M => jn1 A (jn l M)
theorem jn_snoc {L : List FT} {A : FT} {M : List FT} : jn (L ++ [A]) M = jn L (jn1 A M) := by
  induction L with
  | nil => rfl
  | cons B L ih => rw [List.cons_append, jn, ih, jn]
theorem jn_cut {L M : List FT} : jn L (cutR M) = cutR (L ++ M) := by
  induction L with
  | nil => rfl
  | cons A L ih => rw [jn, ih, List.cons_append, cutR, jn1]
def jrq : List FT → List FT → List FT
  | [], _ => []
  | A :: l, M => jrq l M ++ [lstT (jn (A :: l) M)]
theorem jrq_snoc {L : List FT} {A : FT} {M : List FT} : jrq (L ++ [A]) M = lstT (jn1 A M) :: jrq L (jn1 A M) := by
  induction L with
  | nil => rfl
  | cons B L ih => rw [List.cons_append, jrq, ih, jrq, ← List.cons_append, jn_snoc, List.cons_append]
theorem jrq_len {L M : List FT} : (jrq L M).length = L.length := by
  induction L with
  | nil => rfl
  | cons B L ih => rw [jrq, List.length_append, ih]; rfl
/-- the items of the first list are laid out -/
theorem m_lay {kk : Int32 → Int32 → MdH → Option (Int32 × MdH)} {ht : Int32} {hK hA hB hC hNx h1x hT : Nat → Int32} {w : Int32} (hP : ∀ hR, CM (ht, hK, hA, hB, hC, hNx, h1x, hT, hR) D cnt) : ∀ (L : List FT) (n j : Nat) (x : Int32) (hR : Nat → Int32), L.length < n → j + L.length ≤ 64 → (∀ A, A ∈ L → A ≠ nilT) → TMm D cnt x (lstT L) →
    ∃ hR', f8_join_L5 kk N n w (nI j) x (ht, hK, hA, hB, hC, hNx, h1x, hT, hR) = kk w (nI (j + L.length)) (ht, hK, hA, hB, hC, hNx, h1x, hT, hR') ∧ (∀ i, i < j → hR' i = hR i) ∧ ∀ i A, L[i]? = some A → TE D cnt (hR' (j + i)) A := by
  intro L
  induction L with
  | nil =>
    intro n j x hR h1 h2 h3 h4
    obtain ⟨n, rfl⟩ : ∃ m, n = m + 1 := ⟨n - 1, by simp only [List.length_nil] at h1; omega⟩
    have hx : x = -1 := by
      obtain ⟨rfl | ⟨t, t1, rfl⟩, q⟩ := h4
      · rfl
      · have hc := (hP hR).2.1
        rw [denM_id (by omega)] at q
        exact absurd q ((hP hR).nn t t1)
    subst hx
    exact ⟨hR, by rw [f8_join_L5, if_pos rfl]; rfl, fun _ _ => rfl, fun i A hA => by cases hA⟩
  | cons A L ih =>
    intro n j x hR h1 h2 h3 h4
    rw [List.length_cons] at h1 h2
    obtain ⟨n, rfl⟩ : ∃ m, n = m + 1 := ⟨n - 1, by omega⟩
    have hc := (hP hR).2.1
    obtain ⟨t, t1, rfl, t2, t3⟩ := m_lst (hP hR) h4 (h3 A List.mem_cons_self)
    dsimp only at t2 t3
    obtain ⟨hR', e1, e2, e3⟩ := ih n (j + 1) (hB t) (upd hR j (hA t)) (by omega) (by omega) (fun B hB => h3 B (List.mem_cons_of_mem _ hB)) t3
    refine ⟨hR', ?_, fun i hi => (e2 i (by omega)).trans (z_upd_n (by omega)), ?_⟩
    · rw [f8_join_L5, if_neg (nI_m1 (by omega)), if_neg (z_gd (n := t) (N := 4200) (by omega) (by omega)), if_neg (z_gd (n := j) (N := 64) (by omega) (by omega))]
      dsimp only [nm_v]
      rw [if_neg (z_gd (n := t) (N := 4200) (by omega) (by omega)), z_nat (n := t) (by omega), z_nat (n := j) (by omega), nI_1, e1, List.length_cons, show j + 1 + L.length = j + (L.length + 1) by omega]
    · intro i B hB
      rcases i with _ | i
      · have : A = B := Option.some.inj hB
        subst this
        have := e2 j (by omega)
        rw [z_upd_e] at this
        rw [Nat.add_zero, this]
        exact t2
      · have := e3 i B hB
        rw [show j + 1 + i = j + (i + 1) by omega] at this
        exact this
end
