theorem nl_nle (c n : Nat) (x : Int32) (hx : x = nI n) (h : n < c) (hc : c < 2 ^ 31) : ¬ nI c ≤ x := by rw [hx]; exact fun q => absurd ((nI_leI hc (by omega)).mp q) (by omega)
theorem nl_le (c n : Nat) (x : Int32) (hx : x = nI n) (h : c ≤ n) (hn : n < 2 ^ 31) : nI c ≤ x := by rw [hx]; exact (nI_leI (by omega) hn).mpr h
theorem nl_nge (c n : Nat) (x : Int32) (hx : x = nI n) (h : c < n) (hn : n < 2 ^ 31) : ¬ x ≤ nI c := by rw [hx]; exact fun q => absurd ((nI_leI hn (by omega)).mp q) (by omega)
theorem nl_ge (c n : Nat) (x : Int32) (hx : x = nI n) (h : n ≤ c) (hc : c < 2 ^ 31) : x ≤ nI c := by rw [hx]; exact (nI_leI (by omega) hc).mpr h
/-! MUTANTS: place, kind, what stands there instead -/
abbrev Mtn : Type := Nat × Nat × Int32
def oth (s k : Nat) (L : List Nat) (v : Nat) : List Mtn := (L.filter (fun c => c != v)).map (fun c => (s, k, nI c))
def mutOf (e : Ste) : List Mtn :=
  if e.2.1 = 0 then oth e.1 0 arS e.2.2 else if e.2.1 = 1 then oth e.1 1 cmS e.2.2 else if e.2.1 = 2 then oth e.1 2 lgS e.2.2 else if e.2.1 = 3 then [(e.1, 3, nI e.2.2 + 1), (e.1, 3, nI e.2.2 - 1)] else [(e.1, 4, 0)]
def MU (S : List Ste) : List Mtn := S.flatMap mutOf
def ch (w : Nat) : Nat := if w = 0 then 4 else if w = 1 then 3 else if w = 2 then 1 else if w = 3 then 2 else if w = 4 then 1 else 0
theorem oth_len {s k v : Nat} {L : List Nat} : (oth s k L v).length = (L.filter (fun c => c != v)).length := by rw [oth, List.length_map]
theorem mutOf_len {e : Ste} (h : SV e.2.1 e.2.2) : (mutOf e).length = ch e.2.1 := by
  obtain ⟨s, k, v⟩ := e
  dsimp only at h
  have ha : ∀ v, v ∈ arS → (arS.filter (fun c => c != v)).length = 4 := by decide
  have hc : ∀ v, v ∈ cmS → (cmS.filter (fun c => c != v)).length = 3 := by decide
  have hl : ∀ v, v ∈ lgS → (lgS.filter (fun c => c != v)).length = 1 := by decide
  rcases h with ⟨rfl, h⟩ | ⟨rfl, h⟩ | ⟨rfl, h⟩ | ⟨rfl, h⟩ | ⟨rfl, h⟩
  · exact oth_len.trans (ha v h)
  · exact oth_len.trans (hc v h)
  · exact oth_len.trans (hl v h)
  · rfl
  · rfl
theorem z_cho : ∀ w, w < 15 → f7_choicesOf (nI w) = some (nI (ch w)) := by decide +kernel
def MuV (mu : MuS) (M : List Mtn) : Prop := mu.2.2.2.2.1 = nI M.length ∧ mu.1 0 = -1 ∧ ∀ j e, M[j]? = some e → mu.1 (j + 1) = nI e.1 ∧ mu.2.1 (j + 1) = nI e.2.1 ∧ mu.2.2.1 (j + 1) = e.2.2
def RS (mu mu' : MuS) : Prop := mu'.2.2.2.1 = mu.2.2.2.1 ∧ mu'.2.2.2.2.2 = mu.2.2.2.2.2
theorem RS.trans {a b c : MuS} (h1 : RS a b) (h2 : RS b c) : RS a c := ⟨h2.1.trans h1.1, h2.2.trans h1.2⟩
theorem z_madd {mu : MuS} {M : List Mtn} (h : MuV mu M) (hM : M.length < 120) (s k : Nat) {x1 x2 o : Int32} (h1 : x1 = nI s) (h2 : x2 = nI k) : ∃ mu', f4_add x1 x2 o mu = some mu' ∧ MuV mu' (M ++ [(s, k, o)]) ∧ RS mu mu' := by
  obtain ⟨a, b, c, d, z, e⟩ := mu
  obtain ⟨hz, h0, hp⟩ := h
  dsimp only at hz h0 hp
  subst hz h1 h2
  have hg := z_gd (n := M.length + 1) (N := 121) (by omega) (by omega)
  rw [f4_add, if_neg (show ¬ (120 : Int32) ≤ nI M.length from fun q => absurd ((nI_leI (a := 120) (by omega) (by omega)).mp q) (by omega)), nI_1, if_neg hg, if_neg hg, if_neg hg, z_nat (by omega)]
  refine ⟨_, rfl, ⟨by rw [List.length_append]; rfl, ?_, fun j q hj => ?_⟩, rfl, rfl⟩
  · dsimp only; rw [z_upd_n (by omega), h0]
  · by_cases w : j = M.length
    · subst w
      rw [List.getElem?_append_right (Nat.le_refl _), Nat.sub_self] at hj
      cases hj
      exact ⟨z_upd_e, z_upd_e, z_upd_e⟩
    · have hl : j < M.length := by
        have := (List.getElem?_eq_some_iff.mp hj).1
        rw [List.length_append] at this
        have h1 : ([(s, k, o)] : List Mtn).length = 1 := rfl
        omega
      rw [List.getElem?_append_left hl] at hj
      obtain ⟨u1, u2, u3⟩ := hp j q hj
      exact ⟨(z_upd_n (by omega)).trans u1, (z_upd_n (by omega)).trans u2, (z_upd_n (by omega)).trans u3⟩
def SJ (sj : Nat) : List Nat := if sj = 0 then arS else if sj = 1 then cmS else lgS
theorem z_sj : ∀ sj, sj < 3 → strLen sj = nI (SJ sj).length ∧ lenJ.getD sj 0 = (SJ sj).length ∧ (SJ sj).length < 6 ∧ ∀ i, i < (SJ sj).length → strAt sj (nI i) = nI ((SJ sj).getD i 0) ∧ (SJ sj).getD i 0 < 128 := by decide +kernel
theorem z_lo {kk : MuS → Option MuS} {N sj s k v : Nat} (hs : sj < 3) (hv : v < 128) : ∀ R i n mu M, (SJ sj).drop i = R → i ≤ (SJ sj).length → R.length < n → M.length + (R.filter (fun c => c != v)).length ≤ 120 → MuV mu M →
    ∃ mu', f4_listOthers_L3 kk N sj n (nI s) (nI k) (nI v) (nI i) mu = kk mu' ∧ MuV mu' (M ++ oth s k R v) ∧ RS mu mu' := by
  obtain ⟨e1, e2, e3, e4⟩ := z_sj sj hs
  intro R
  induction R with
  | nil =>
    intro i n mu M hd hi hn hM h
    obtain ⟨n, rfl⟩ : ∃ m, n = m + 1 := ⟨n - 1, by simp only [List.length_nil] at hn; omega⟩
    have hl := List.drop_eq_nil_iff.mp hd
    refine ⟨mu, ?_, by rw [show oth s k [] v = [] from rfl, List.append_nil]; exact h, rfl, rfl⟩
    obtain ⟨a, b, c, d, z, e⟩ := mu
    rw [f4_listOthers_L3, e1]
    exact if_pos ((nI_leI (by omega) (by omega)).mpr hl)
  | cons x R ih =>
    intro i n mu M hd hi hn hM h
    rw [List.length_cons] at hn
    obtain ⟨n, rfl⟩ : ∃ m, n = m + 1 := ⟨n - 1, by omega⟩
    obtain ⟨w1, w2, w3⟩ := z_dc hd
    obtain ⟨k1, k2⟩ := e4 i w1
    have k3 : (SJ sj).getD i 0 = x := by rw [List.getD_eq_getElem?_getD, w2]; rfl
    rw [k3] at k1 k2
    have hg := z_gd (n := i) (N := lenJ.getD sj 0) (by omega) (by omega)
    have hle : ¬ nI (SJ sj).length ≤ nI i := fun q => absurd ((nI_leI (by omega) (by omega)).mp q) (by omega)
    by_cases hx : x = v
    · subst hx
      have ef : (x :: R).filter (fun c => c != x) = R.filter (fun c => c != x) := List.filter_cons_of_neg (by simp)
      rw [ef] at hM
      obtain ⟨mu', u1, u2, u3⟩ := ih (i + 1) n mu M w3.symm w1 (by omega) hM h
      refine ⟨mu', ?_, by rw [oth, ef]; exact u2, u3⟩
      rw [← u1]
      obtain ⟨a, b, c, d, z, e⟩ := mu
      rw [f4_listOthers_L3, e1, if_neg hle, if_neg hg, k1, if_pos rfl, nm_v, nI_1]
    · have ef : (x :: R).filter (fun c => c != v) = x :: R.filter (fun c => c != v) := List.filter_cons_of_pos (by simp [hx])
      rw [ef, List.length_cons] at hM
      obtain ⟨mu1, a1, a2, a3⟩ := z_madd h (by omega) s k (o := nI x) rfl rfl
      obtain ⟨mu', u1, u2, u3⟩ := ih (i + 1) n mu1 _ w3.symm w1 (by omega) (by rw [List.length_append]; simp only [List.length_cons, List.length_nil]; omega) a2
      refine ⟨mu', ?_, ?_, a3.trans u3⟩
      · rw [← u1]
        obtain ⟨a, b, c, d, z, e⟩ := mu
        rw [f4_listOthers_L3, e1, if_neg hle, if_neg hg, k1, if_neg (fun q => hx ((nI_eq (by omega) (by omega)).mp q)), if_neg hg, a1, ob_s]
        dsimp only [nm_v]
        rw [nI_1]
      · rw [oth, ef]
        rw [List.append_assoc] at u2
        exact u2
theorem z_los {N sj s k v : Nat} {mu : MuS} {M : List Mtn} (hN : 6 < N) (hs : sj < 3) (hv : v < 128) (hM : M.length + (oth s k (SJ sj) v).length ≤ 120) (h : MuV mu M) : ∃ mu', f4_listOthers N (nI s) (nI k) sj (nI v) mu = some mu' ∧ MuV mu' (M ++ oth s k (SJ sj) v) ∧ RS mu mu' := by
  rw [oth_len] at hM
  obtain ⟨mu', h1, h2⟩ := z_lo (kk := fun mu => some mu) (N := N) (s := s) (k := k) hs hv (SJ sj) 0 N mu M rfl (by omega) (by have := (z_sj sj hs).2.2.1; omega) hM h
  refine ⟨mu', ?_, h2⟩
  obtain ⟨a, b, c, d, z, e⟩ := mu
  rw [f4_listOthers]
  exact h1
theorem z_ls {N s k v : Nat} {mu : MuS} {M : List Mtn} (hN : 6 < N) (hv : SV k v) (hM : M.length + (mutOf (s, k, v)).length ≤ 120) (h : MuV mu M) : ∃ mu', f4_listSite N (nI s) (nI k) (nI v) mu = some mu' ∧ MuV mu' (M ++ mutOf (s, k, v)) ∧ RS mu mu' := by
  have b0 : ∀ v, v ∈ arS → v < 128 := by decide
  have b1 : ∀ v, v ∈ cmS → v < 128 := by decide
  have b2 : ∀ v, v ∈ lgS → v < 128 := by decide
  rcases hv with ⟨rfl, hv⟩ | ⟨rfl, hv⟩ | ⟨rfl, hv⟩ | ⟨rfl, hv⟩ | ⟨rfl, hv⟩
  · obtain ⟨mu', h1, h2, h3⟩ := z_los (N := N) (sj := 0) (s := s) (k := 0) hN (by omega) (b0 v hv) hM h
    refine ⟨mu', ?_, h2, h3⟩
    obtain ⟨a, b, c, d, z, e⟩ := mu
    rw [f4_listSite, if_pos (nl_eq 0 0 0 rfl rfl), h1]; rfl
  · obtain ⟨mu', h1, h2, h3⟩ := z_los (N := N) (sj := 1) (s := s) (k := 1) hN (by omega) (b1 v hv) hM h
    refine ⟨mu', ?_, h2, h3⟩
    obtain ⟨a, b, c, d, z, e⟩ := mu
    rw [f4_listSite, if_neg (by decide), if_pos (nl_eq 1 1 1 rfl rfl), h1]; rfl
  · obtain ⟨mu', h1, h2, h3⟩ := z_los (N := N) (sj := 2) (s := s) (k := 2) hN (by omega) (b2 v hv) hM h
    refine ⟨mu', ?_, h2, h3⟩
    obtain ⟨a, b, c, d, z, e⟩ := mu
    rw [f4_listSite, if_neg (by decide), if_neg (by decide), if_pos (nl_eq 2 2 2 rfl rfl), h1]; rfl
  · have hM : M.length + 2 ≤ 120 := hM
    obtain ⟨mu1, h1, h2, h3⟩ := z_madd h (by omega) s 3 (x1 := nI s) (x2 := nI 3) (o := nI v + 1) rfl rfl
    obtain ⟨mu2, h4, h5, h6⟩ := z_madd h2 (by rw [List.length_append]; simp only [List.length_cons, List.length_nil]; omega) s 3 (x1 := nI s) (x2 := nI 3) (o := nI v - 1) rfl rfl
    refine ⟨mu2, ?_, by rw [List.append_assoc] at h5; exact h5, h3.trans h6⟩
    obtain ⟨a, b, c, d, z, e⟩ := mu
    obtain ⟨a', b', c', d', z', e'⟩ := mu1
    rw [f4_listSite, if_neg (by decide), if_neg (by decide), if_neg (by decide), if_pos (nl_eq 3 3 3 rfl rfl), h1, ob_s]
    dsimp only
    rw [h4]; rfl
  · have hM : M.length + 1 ≤ 120 := hM
    obtain ⟨mu1, h1, h2, h3⟩ := z_madd h (by omega) s 4 (x1 := nI s) (x2 := nI 4) (o := 0) rfl rfl
    refine ⟨mu1, ?_, h2, h3⟩
    obtain ⟨a, b, c, d, z, e⟩ := mu
    rw [f4_listSite, if_neg (by decide), if_neg (by decide), if_neg (by decide), if_neg (by decide), h1]; rfl
/-! which piece is at a place -/
def LK (J : List Pce) (i : Nat) (A : Nat → Int32) : Prop := ∀ p, p < 60 → (A p = -1 ∧ ∀ j q, j < i → J[j]? = some q → q.1 ≤ 4 → q.2.1 ≠ p) ∨ ∃ j q, j < i ∧ A p = nI j ∧ J[j]? = some q ∧ q.1 ≤ 4 ∧ q.2.1 = p
def JW (J : List Pce) : Prop := ∀ q, q ∈ J → q.1 < 15 ∧ (q.1 ≤ 4 → q.2.1 < 60)
theorem z_dcG {α : Type} {T : List α} {p : Nat} {c : α} {r : List α} (h : T.drop p = c :: r) : p < T.length ∧ T[p]? = some c ∧ r = T.drop (p + 1) := by
  have h1 : p < T.length := by
    by_cases q : p < T.length
    · exact q
    · rw [List.drop_eq_nil_of_le (by omega)] at h; cases h
  rw [List.drop_eq_getElem_cons h1] at h
  cases h
  exact ⟨h1, List.getElem?_eq_getElem h1, rfl⟩
theorem z_srt {kk : MuS → Option MuS} {N : Nat} {cs : CoS} {J : List Pce} (hc : CS cs J) (hJ : J.length ≤ 80) (hW : JW J) : ∀ R i n mu, J.drop i = R → i ≤ J.length → R.length < n → LK J i mu.2.2.2.2.2 →
    ∃ A', f4_sortSites_L10 kk N cs.1 cs.2.1 cs.2.2.1 cs.2.2.2.1 cs.2.2.2.2 n (nI i) mu = kk (mu.1, mu.2.1, mu.2.2.1, mu.2.2.2.1, mu.2.2.2.2.1, A') ∧ LK J J.length A' := by
  obtain ⟨cw, ce, cn, cj, cz⟩ := cs
  obtain ⟨hz, hp⟩ := hc
  dsimp only at hz
  subst hz
  intro R
  induction R with
  | nil =>
    intro i n mu hd hi hn h
    obtain ⟨n, rfl⟩ : ∃ m, n = m + 1 := ⟨n - 1, by simp only [List.length_nil] at hn; omega⟩
    have hl := List.drop_eq_nil_iff.mp hd
    obtain rfl : i = J.length := by omega
    obtain ⟨a, b, c, d, z, e⟩ := mu
    refine ⟨e, ?_, h⟩
    rw [f4_sortSites_L10]
    exact if_pos ((nI_leI (by omega) (by omega)).mpr (Nat.le_refl _))
  | cons q R ih =>
    intro i n mu hd hi hn h
    rw [List.length_cons] at hn
    obtain ⟨n, rfl⟩ : ∃ m, n = m + 1 := ⟨n - 1, by omega⟩
    obtain ⟨w1, w2, w3⟩ := z_dcG hd
    have hq := hW q (List.mem_of_getElem? w2)
    have hP := hp i q w2
    unfold PcAt at hP
    dsimp only at hP
    obtain ⟨p1, p2, p3, p4⟩ := hP
    have hg := z_gd (n := i) (N := 80) (by omega) (by omega)
    have hn := z_nat (n := i) (by omega)
    have hle : ¬ nI J.length ≤ nI i := fun q => absurd ((nI_leI (by omega) (by omega)).mp q) (by omega)
    obtain ⟨a, b, c, d, z, e⟩ := mu
    dsimp only at ih ⊢
    rw [f4_sortSites_L10, if_neg hle, if_neg hg, hn, p1, z_cho q.1 hq.1, ob_s]
    by_cases w : q.1 ≤ 4
    · have hch : 0 < ch q.1 ∧ ch q.1 < 5 := by
        unfold ch
        have : q.1 = 0 ∨ q.1 = 1 ∨ q.1 = 2 ∨ q.1 = 3 ∨ q.1 = 4 := by omega
        rcases this with h | h | h | h | h <;> rw [h] <;> decide
      have hpl := hq.2 w
      have hg2 := z_gd (n := q.2.1) (N := 60) hpl (by omega)
      have hi2 : LK J (i + 1) (upd e q.2.1 (nI i)) := by
        intro p hp60
        by_cases hpq : p = q.2.1
        · subst hpq
          exact .inr ⟨i, q, by omega, z_upd_e, w2, w, rfl⟩
        · rcases h p hp60 with ⟨h1, h2⟩ | ⟨j, q', h1, h2, h3, h4, h5⟩
          · refine .inl ⟨(z_upd_n hpq).trans h1, fun j q' hj hj2 hj3 => ?_⟩
            by_cases hji : j = i
            · subst hji
              rw [w2] at hj2
              cases hj2
              exact fun h => hpq h.symm
            · exact h2 j q' (by omega) hj2 hj3
          · exact .inr ⟨j, q', by omega, (z_upd_n hpq).trans h2, h3, h4, h5⟩
      obtain ⟨A', u1, u2⟩ := ih (i + 1) n (a, b, c, d, z, upd e q.2.1 (nI i)) w3.symm w1 (by omega) hi2
      refine ⟨A', ?_, u2⟩
      rw [if_neg (nl_nle (ch q.1) 0 0 rfl (by omega) (by omega)), if_neg (by rw [hn] at hg; exact hg), p3 (.inl w), if_neg hg2, nm_v, nI_1, z_nat (n := q.2.1) (by omega)]
      exact u1
    · have hch : ch q.1 = 0 := by
        unfold ch
        rw [if_neg (by omega), if_neg (by omega), if_neg (by omega), if_neg (by omega), if_neg (by omega)]
      have hi2 : LK J (i + 1) e := by
        intro p hp60
        rcases h p hp60 with ⟨h1, h2⟩ | ⟨j, q', h1, h2, h3, h4, h5⟩
        · refine .inl ⟨h1, fun j q' hj hj2 hj3 => ?_⟩
          by_cases hji : j = i
          · subst hji
            rw [w2] at hj2
            cases hj2
            omega
          · exact h2 j q' (by omega) hj2 hj3
        · exact .inr ⟨j, q', by omega, h2, h3, h4, h5⟩
      obtain ⟨A', u1, u2⟩ := ih (i + 1) n (a, b, c, d, z, e) w3.symm w1 (by omega) hi2
      refine ⟨A', ?_, u2⟩
      rw [hch, if_pos (by decide), nm_v, nI_1]
      exact u1
