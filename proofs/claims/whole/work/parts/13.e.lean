/-! the class's list of mutants -/
section
variable {p0 p' : Nat} {S : List Ste}
theorem ss_cut (p : Nat) (h : S.Pairwise (fun a b => a.1 < b.1)) : S.filter (fun e => decide (e.1 < p)) ++ S.filter (fun e => !decide (e.1 < p)) = S := by
  induction S with
  | nil => rfl
  | cons e S ih =>
    have h2 := List.pairwise_cons.mp h
    by_cases w : e.1 < p
    · rw [List.filter_cons_of_pos (by simpa using w), List.filter_cons_of_neg (by simpa using w), List.cons_append, ih h2.2]
    · rw [List.filter_cons_of_neg (by simpa using w), List.filter_cons_of_pos (by simpa using w)]
      have : S.filter (fun e => decide (e.1 < p)) = [] := List.filter_eq_nil_iff.mpr (fun a ha => by have := h2.1 a ha; simp; omega)
      have i2 := ih h2.2
      rw [this, List.nil_append] at i2
      rw [this, List.nil_append, i2]
theorem ss_no (p : Nat) (hn : ∀ e, e ∈ S → e.1 ≠ p) : S.filter (fun e => decide (e.1 < p + 1)) = S.filter (fun e => decide (e.1 < p)) := by
  refine List.filter_congr (fun e he => ?_)
  have := hn e he
  exact decide_eq_decide.mpr (by omega)
theorem ss_at (p : Nat) (h : S.Pairwise (fun a b => a.1 < b.1)) {e : Ste} (he : e ∈ S) (hp : e.1 = p) : S.filter (fun e => decide (e.1 < p + 1)) = S.filter (fun e => decide (e.1 < p)) ++ [e] := by
  induction S with
  | nil => cases he
  | cons a S ih =>
    have h2 := List.pairwise_cons.mp h
    rcases List.mem_cons.mp he with rfl | hm
    · rw [List.filter_cons_of_pos (by simp; omega), List.filter_cons_of_neg (by simp; omega)]
      have e1 : S.filter (fun e => decide (e.1 < p)) = [] := List.filter_eq_nil_iff.mpr (fun a ha => by have := h2.1 a ha; simp; omega)
      have e2 : S.filter (fun e => decide (e.1 < p + 1)) = [] := List.filter_eq_nil_iff.mpr (fun a ha => by have := h2.1 a ha; simp; omega)
      rw [e1, e2]; rfl
    · have := h2.1 e hm
      rw [List.filter_cons_of_pos (by simp; omega), List.filter_cons_of_pos (by simp; omega), ih h2.2 hm, List.cons_append]
theorem MU_app {A C : List Ste} : MU (A ++ C) = MU A ++ MU C := List.flatMap_append
theorem MU_one {e : Ste} : MU [e] = mutOf e := by rw [MU, List.flatMap_cons]; exact List.append_nil _
theorem MU_le (p : Nat) (h : S.Pairwise (fun a b => a.1 < b.1)) : (MU (S.filter (fun e => decide (e.1 < p)))).length ≤ (MU S).length := by
  have := congrArg (fun l => (MU l).length) (ss_cut p h)
  rw [MU_app, List.length_append] at this
  omega
/-- what stands in the code and what in the list of sites -/
def JSR (J : List Pce) (S : List Ste) : Prop := (∀ q, q ∈ J → q.1 ≤ 4 → (q.2.1, q.1, q.2.2.1) ∈ S) ∧ ∀ e, e ∈ S → ∃ q, q ∈ J ∧ q.1 ≤ 4 ∧ e = (q.2.1, q.1, q.2.2.1)
theorem jsr_of {J : List Pce} (h : (J.filterMap jS).Perm S) : JSR J S := by
  constructor
  · intro q hq hw
    exact h.mem_iff.mp (List.mem_filterMap.mpr ⟨q, hq, if_pos hw⟩)
  · intro e he
    obtain ⟨q, hq, h1⟩ := List.mem_filterMap.mp (h.mem_iff.mpr he)
    rw [jS] at h1
    split at h1
    · cases h1; exact ⟨q, hq, by assumption, rfl⟩
    · cases h1
theorem z_mls {kk : MuS → Option MuS} {N : Nat} {cs : CoS} {J : List Pce} (hN : 6 < N) (hc : CS cs J) (hJ : J.length ≤ 80) (hS : SIN p0 p' S) (h60 : p' ≤ 60) (hR : JSR J S) (hM : (MU S).length ≤ 120) :
    ∀ t p n mu, p + t = 60 → t < n → MuV mu (MU (S.filter (fun e => decide (e.1 < p)))) → LK J J.length mu.2.2.2.2.2 → ∃ mu', f4_list_L19 kk N cs.1 cs.2.1 cs.2.2.1 cs.2.2.2.1 cs.2.2.2.2 n (nI p) mu = kk mu' ∧ MuV mu' (MU S) ∧ mu'.2.2.2.1 = mu.2.2.2.1 := by
  obtain ⟨cw, ce, cn, cj, cz⟩ := cs
  obtain ⟨hz, hp⟩ := hc
  dsimp only at hz hp ⊢
  subst hz
  intro t
  induction t with
  | zero =>
    intro p n mu hpt hn h hk
    obtain rfl : p = 60 := by omega
    obtain ⟨n, rfl⟩ : ∃ m, n = m + 1 := ⟨n - 1, by omega⟩
    have e : S.filter (fun e => decide (e.1 < 60)) = S := List.filter_eq_self.mpr (fun a ha => by have := (hS.2.2 a ha).2.1; simp; omega)
    rw [e] at h
    refine ⟨mu, ?_, h, rfl⟩
    obtain ⟨a, b, c, d, z, e⟩ := mu
    rw [f4_list_L19]
    exact if_pos (show (60 : Int32) ≤ nI 60 by decide)
  | succ t ih =>
    intro p n mu hpt hn h hk
    obtain ⟨n, rfl⟩ : ∃ m, n = m + 1 := ⟨n - 1, by omega⟩
    have hg := z_gd (n := p) (N := 60) (by omega) (by omega)
    have hpn := z_nat (n := p) (by omega)
    have hg' : ¬ (nI p < 0 ∨ 60 ≤ p) := by rw [hpn] at hg; exact hg
    have h60' : ¬ (60 : Int32) ≤ nI p := fun q => absurd ((nI_leI (a := 60) (by omega) (by omega)).mp q) (by omega)
    rcases hk p (by omega) with ⟨k1, k2⟩ | ⟨j, q, k1, k2, k3, k4, k5⟩
    · have hno : ∀ e, e ∈ S → e.1 ≠ p := by
        intro e he hep
        obtain ⟨q, hq, hw, rfl⟩ := hR.2 e he
        obtain ⟨j, hj⟩ := List.getElem?_of_mem hq
        exact k2 j q (List.getElem?_eq_some_iff.mp hj).1 hj hw hep
      obtain ⟨mu', u1, u2, u3⟩ := ih (p + 1) n mu (by omega) (by omega) (by rw [ss_no p hno]; exact h) hk
      refine ⟨mu', ?_, u2, u3⟩
      rw [← u1]
      obtain ⟨a, b, c, d, z, e⟩ := mu
      dsimp only at k1
      rw [f4_list_L19, if_neg h60', if_neg hg, hpn, if_pos k1, nm_v, nI_1]
    · have hP := hp j q k3
      unfold PcAt at hP
      dsimp only at hP
      obtain ⟨p1, p2, p3, p4⟩ := hP
      have hin := hR.1 q (List.mem_of_getElem? k3) k4
      rw [k5] at hin
      have hsv : SV q.1 q.2.2.1 := (hS.2.2 _ hin).2.2
      have hgj := z_gd (n := j) (N := 80) (by omega) (by omega)
      have hjn := z_nat (n := j) (by omega)
      have eM : MU (S.filter (fun e => decide (e.1 < p + 1))) = MU (S.filter (fun e => decide (e.1 < p))) ++ mutOf (p, q.1, q.2.2.1) := by rw [ss_at p hS.2.1 hin rfl, MU_app, MU_one]
      have hlen := MU_le (S := S) (p + 1) hS.2.1
      rw [eM, List.length_append] at hlen
      obtain ⟨mu1, v1, v2, v3⟩ := z_ls (s := p) hN hsv (by omega) h
      obtain ⟨mu', u1, u2, u3⟩ := ih (p + 1) n mu1 (by omega) (by omega) (by rw [eM]; exact v2) (by rw [v3.2]; exact hk)
      refine ⟨mu', ?_, u2, u3.trans v3.1⟩
      rw [← u1]
      obtain ⟨a, b, c, d, z, e⟩ := mu
      obtain ⟨a', b', c', d', z', e'⟩ := mu1
      dsimp only at k2
      rw [f4_list_L19, if_neg h60', if_neg hg, hpn, k2, if_neg (z_m1 (by omega)), if_neg hg', if_neg hgj, if_neg hg', if_neg hgj, hjn, p1, p4 (by omega), v1, ob_s]
      dsimp only [nm_v]
      rw [nI_1]
theorem z_list {N : Nat} {cs : CoS} {J : List Pce} {mu : MuS} (hN : 80 < N) (hc : CS cs J) (hJ : J.length ≤ 80) (hW : JW J) (hS : SIN p0 p' S) (h60 : p' ≤ 60) (hR : JSR J S) (hM : (MU S).length ≤ 120) :
    ∃ mu', f4_list N cs mu = some mu' ∧ MuV mu' (MU S) ∧ mu'.2.2.2.1 = mu.2.2.2.1 := by
  obtain ⟨a, b, c, d, z, e⟩ := mu
  have hk0 : LK J 0 (fillF e 60 (-1)) := fun p hp => .inl ⟨if_pos hp, fun j q hj => by omega⟩
  obtain ⟨A', s1, s2⟩ := z_srt (kk := fun mu => some mu) (N := N) hc hJ hW J 0 N (upd a 0 (-1), b, c, d, 0, fillF e 60 (-1)) rfl (by omega) (by omega) hk0
  have e0 : S.filter (fun e => decide (e.1 < 0)) = [] := List.filter_eq_nil_iff.mpr (fun a ha => by simp)
  obtain ⟨mu', u1, u2, u3⟩ := z_mls (kk := fun mu => some mu) (N := N) (by omega) hc hJ hS h60 hR hM 60 0 N (upd a 0 (-1), b, c, d, 0, A') (by omega) (by omega) ⟨by rw [e0]; rfl, show upd a 0 (-1) 0 = -1 from z_upd_e, fun j e he => by rw [e0] at he; cases he⟩ s2
  refine ⟨mu', ?_, u2, u3⟩
  obtain ⟨cw, ce, cn, cj, cz⟩ := cs
  rw [f4_list, if_neg (by decide)]
  have s1' : f4_sortSites N (cw, ce, cn, cj, cz) (upd a (0 : Int32).toNatClampNeg (-1), b, c, d, 0, e) = some (upd a 0 (-1), b, c, d, 0, A') := by
    rw [f4_sortSites]
    exact s1
  rw [s1', ob_s]
  exact u1
/-- how many they are -/
theorem z_mof {kk : Int32 → Option Int32} {N : Nat} {cs : CoS} {J : List Pce} (hc : CS cs J) (hJ : J.length ≤ 80) (hW : JW J) : ∀ R i n m, J.drop i = R → i ≤ J.length → R.length < n → f7_mutantsOf_L4 kk N cs.1 cs.2.1 cs.2.2.1 cs.2.2.2.1 cs.2.2.2.2 n (nI m) (nI i) = kk (nI (m + (R.map (fun q => ch q.1)).sum)) := by
  obtain ⟨cw, ce, cn, cj, cz⟩ := cs
  obtain ⟨hz, hp⟩ := hc
  dsimp only at hz hp ⊢
  subst hz
  intro R
  induction R with
  | nil =>
    intro i n m hd hi hn
    obtain ⟨n, rfl⟩ : ∃ m, n = m + 1 := ⟨n - 1, by simp only [List.length_nil] at hn; omega⟩
    have hl := List.drop_eq_nil_iff.mp hd
    rw [f7_mutantsOf_L4, if_pos ((nI_leI (by omega) (by omega)).mpr hl)]
    rfl
  | cons q R ih =>
    intro i n m hd hi hn
    rw [List.length_cons] at hn
    obtain ⟨n, rfl⟩ : ∃ m, n = m + 1 := ⟨n - 1, by omega⟩
    obtain ⟨w1, w2, w3⟩ := z_dcG hd
    have hq := hW q (List.mem_of_getElem? w2)
    have hP := hp i q w2
    unfold PcAt at hP
    dsimp only at hP
    have hg := z_gd (n := i) (N := 80) (by omega) (by omega)
    have hle : ¬ nI J.length ≤ nI i := fun q => absurd ((nI_leI (by omega) (by omega)).mp q) (by omega)
    rw [f7_mutantsOf_L4, if_neg hle, if_neg hg, z_nat (n := i) (by omega), hP.1, z_cho q.1 hq.1, ob_s, nm_v, nm_v, nI_1, nI_add, ih (i + 1) n (m + ch q.1) w3.symm w1 (by omega), List.map_cons, List.sum_cons, Nat.add_assoc]
theorem sum_perm {A C : List Nat} (h : A.Perm C) : A.sum = C.sum := by
  induction h with
  | nil => rfl
  | cons x _ ih => rw [List.sum_cons, List.sum_cons, ih]
  | swap x y l => rw [List.sum_cons, List.sum_cons, List.sum_cons, List.sum_cons]; omega
  | trans _ _ h1 h2 => exact h1.trans h2
theorem ch_sum {J : List Pce} : (J.map (fun q => ch q.1)).sum = ((J.filterMap jS).map (fun e => ch e.2.1)).sum := by
  induction J with
  | nil => rfl
  | cons q J ih =>
    by_cases w : q.1 ≤ 4
    · rw [List.filterMap_cons_some (f := jS) (b := (q.2.1, q.1, q.2.2.1)) (if_pos w), List.map_cons, List.map_cons, List.sum_cons, List.sum_cons, ih]
    · have h0 : ch q.1 = 0 := by
        unfold ch
        rw [if_neg (by omega), if_neg (by omega), if_neg (by omega), if_neg (by omega), if_neg (by omega)]
      rw [List.filterMap_cons_none (f := jS) (if_neg w), List.map_cons, List.sum_cons, ih, h0, Nat.zero_add]
theorem mu_sum (h : ∀ e, e ∈ S → SV e.2.1 e.2.2) : (MU S).length = (S.map (fun e => ch e.2.1)).sum := by
  induction S with
  | nil => rfl
  | cons e S ih =>
    rw [List.map_cons, List.sum_cons, ← ih (fun a ha => h a (List.mem_cons_of_mem _ ha)), ← mutOf_len (h e List.mem_cons_self)]
    show (MU (e :: S)).length = _
    rw [MU, List.flatMap_cons, List.length_append]
    rfl
theorem z_many {N : Nat} {cs : CoS} {J : List Pce} (hN : 80 < N) (hc : CS cs J) (hJ : J.length ≤ 80) (hW : JW J) (hP : (J.filterMap jS).Perm S) (hS : SIN p0 p' S) : f7_mutantsOf N cs = some (nI (MU S).length) := by
  have h := z_mof (kk := fun x => some x) (N := N) hc hJ hW J 0 N 0 rfl (by omega) (by omega)
  obtain ⟨cw, ce, cn, cj, cz⟩ := cs
  rw [f7_mutantsOf]
  refine h.trans ?_
  rw [Nat.zero_add, ch_sum, sum_perm (hP.map (fun e => ch e.2.1)), mu_sum (fun e he => (hS.2.2 e he).2.2)]
end
