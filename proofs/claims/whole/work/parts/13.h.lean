section
variable {N : Nat} {t1 : Int32} {t2 : Nat → Int32} {q1 q2 q3 q4 q5 : Int32} {n1 : Int32} {n2 n3 n4 n5 n6 : Nat → Int32} {L0 mL : MdL} {M : List Mtn} {x1 x4 : Int32}
theorem z_l44c {kk : K146} {s v jn n m : Nat} (hn : 2 < n) (hj : jn < 512) (ha : n3 jn = nI v) (hm : m = M.length) (hM : x1 = 1 → M.length + 2 ≤ 120) (h : LisP x1 L0 mL M) :
    ∃ mL', f8_listMutants_L44 kk N t1 t2 q1 q2 q3 q4 q5 n1 n2 n3 n4 n5 n6 n x1 (nI m) (nI s) (nI jn) (nI 3) (nI 0) mL = kk x1 (nI (m + 2)) (nI s) mL' ∧ LisP x1 L0 mL' (M ++ [(s, 3, nI v + 1), (s, 3, nI v - 1)]) := by
  obtain ⟨n, rfl⟩ : ∃ a, n = a + 3 := ⟨n - 3, by omega⟩
  have hjn : ¬ nI jn = -1 := z_m1 (by omega)
  have hg := z_gd (n := jn) (N := 512) hj (by omega)
  have e1 : f8_waysOf (nI 3) = some (2 : Int32) := rfl
  obtain ⟨mL1, a1, a2⟩ := z_l123 (N := N) (t1 := t1) (t2 := t2) (q1 := q1) (q2 := q2) (q3 := q3) (q4 := q4) (q5 := q5) (n1 := n1) (n2 := n2) (n3 := n3) (n4 := n4) (n5 := n5) (n6 := n6) (x4 := nI jn) (s := s) (k := 3) (i := 0) (o := nI v + 1) (k44 := fun x1_ x2_ x3_ x4_ x5_ x6_ c_mL => f8_listMutants_L44 kk N t1 t2 q1 q2 q3 q4 q5 n1 n2 n3 n4 n5 n6 (n + 2) x1_ x2_ x3_ x4_ x5_ x6_ c_mL) h hm (fun q => by have := hM q; omega)
  obtain ⟨mL2, b1, b2⟩ := z_l123 (N := N) (t1 := t1) (t2 := t2) (q1 := q1) (q2 := q2) (q3 := q3) (q4 := q4) (q5 := q5) (n1 := n1) (n2 := n2) (n3 := n3) (n4 := n4) (n5 := n5) (n6 := n6) (x4 := nI jn) (s := s) (k := 3) (i := 1) (o := nI v - 1) (k44 := fun x1_ x2_ x3_ x4_ x5_ x6_ c_mL => f8_listMutants_L44 kk N t1 t2 q1 q2 q3 q4 q5 n1 n2 n3 n4 n5 n6 (n + 1) x1_ x2_ x3_ x4_ x5_ x6_ c_mL) a2 (m := m + 1) (by rw [List.length_append, hm]; rfl) (fun q => by have := hM q; rw [List.length_append]; simp only [List.length_cons, List.length_nil]; omega)
  refine ⟨mL2, ?_, by rw [List.append_assoc] at b2; exact b2⟩
  have c0 : nI v + 1 - 2 * nI 0 = nI v + 1 := by
    rw [show (2 : Int32) * nI 0 = 0 by decide]
    exact Int32.sub_zero _
  have c1 : nI v + 1 - 2 * nI 1 = nI v - 1 := by
    rw [show (2 : Int32) * nI 1 = 1 + 1 by decide, ← Int32.sub_sub, Int32.add_sub_cancel]
  have two : ∀ z : MdL, f8_listMutants_L44 kk N t1 t2 q1 q2 q3 q4 q5 n1 n2 n3 n4 n5 n6 (n + 1) x1 (nI (m + 1 + 1)) (nI s) (nI jn) (nI 3) (nI (1 + 1)) z = kk x1 (nI (m + 2)) (nI s) z := by
    intro z
    obtain ⟨l1, l2, l3, l4, l5, l6⟩ := z
    rw [f8_listMutants_L44, if_neg hjn, e1, ob_s]
    exact if_pos (by decide)
  have one : f8_listMutants_L44 kk N t1 t2 q1 q2 q3 q4 q5 n1 n2 n3 n4 n5 n6 (n + 2) x1 (nI (m + 1)) (nI s) (nI jn) (nI 3) (nI (0 + 1)) mL1 = kk x1 (nI (m + 2)) (nI s) mL2 := by
    rw [← two, ← b1]
    obtain ⟨l1, l2, l3, l4, l5, l6⟩ := mL1
    rw [f8_listMutants_L44, if_neg hjn, e1, ob_s, if_neg (by decide), if_pos (by decide), if_pos (nl_eq 3 3 3 rfl rfl), if_neg hg, z_nat (n := jn) (by omega), ha, show nI (0 + 1) = nI 1 from rfl, c1, f8_listMutants_L100, if_pos (by decide)]
  rw [← one, ← a1]
  obtain ⟨l1, l2, l3, l4, l5, l6⟩ := mL
  rw [f8_listMutants_L44, if_neg hjn, e1, ob_s, if_neg (by decide), if_pos (by decide), if_pos (nl_eq 3 3 3 rfl rfl), if_neg hg, z_nat (n := jn) (by omega), ha, c0, f8_listMutants_L100, if_pos (by decide)]
theorem z_l44s {kk : K146} {s jn n m : Nat} (hn : 1 < n) (hj : jn < 512) (hm : m = M.length) (hM : x1 = 1 → M.length + 1 ≤ 120) (h : LisP x1 L0 mL M) :
    ∃ mL', f8_listMutants_L44 kk N t1 t2 q1 q2 q3 q4 q5 n1 n2 n3 n4 n5 n6 n x1 (nI m) (nI s) (nI jn) (nI 4) (nI 0) mL = kk x1 (nI (m + 1)) (nI s) mL' ∧ LisP x1 L0 mL' (M ++ [(s, 4, 0)]) := by
  obtain ⟨n, rfl⟩ : ∃ a, n = a + 2 := ⟨n - 2, by omega⟩
  have hjn : ¬ nI jn = -1 := z_m1 (by omega)
  have e1 : f8_waysOf (nI 4) = some (1 : Int32) := rfl
  obtain ⟨mL1, a1, a2⟩ := z_l123 (N := N) (t1 := t1) (t2 := t2) (q1 := q1) (q2 := q2) (q3 := q3) (q4 := q4) (q5 := q5) (n1 := n1) (n2 := n2) (n3 := n3) (n4 := n4) (n5 := n5) (n6 := n6) (x4 := nI jn) (s := s) (k := 4) (i := 0) (o := 0) (k44 := fun x1_ x2_ x3_ x4_ x5_ x6_ c_mL => f8_listMutants_L44 kk N t1 t2 q1 q2 q3 q4 q5 n1 n2 n3 n4 n5 n6 (n + 1) x1_ x2_ x3_ x4_ x5_ x6_ c_mL) h hm (fun q => by have := hM q; omega)
  refine ⟨mL1, ?_, a2⟩
  have one : f8_listMutants_L44 kk N t1 t2 q1 q2 q3 q4 q5 n1 n2 n3 n4 n5 n6 (n + 1) x1 (nI (m + 1)) (nI s) (nI jn) (nI 4) (nI (0 + 1)) mL1 = kk x1 (nI (m + 1)) (nI s) mL1 := by
    obtain ⟨l1, l2, l3, l4, l5, l6⟩ := mL1
    rw [f8_listMutants_L44, if_neg hjn, e1, ob_s]
    exact if_pos (by decide)
  rw [← one, ← a1]
  obtain ⟨l1, l2, l3, l4, l5, l6⟩ := mL
  rw [f8_listMutants_L44, if_neg hjn, e1, ob_s, if_neg (by decide), if_pos (by decide), if_neg (by decide), f8_listMutants_L100, if_pos (by decide)]
theorem z_l44e {kk : K146} {s k v jn n m : Nat} (hn : 6 < n) (hv : SV k v) (hj : jn < 512) (ha : k ≠ 4 → n3 jn = nI v) (hm : m = M.length) (hM : x1 = 1 → M.length + (mutOf (s, k, v)).length ≤ 120) (h : LisP x1 L0 mL M) :
    ∃ mL', f8_listMutants_L44 kk N t1 t2 q1 q2 q3 q4 q5 n1 n2 n3 n4 n5 n6 n x1 (nI m) (nI s) (nI jn) (nI k) (nI 0) mL = kk x1 (nI (m + (mutOf (s, k, v)).length)) (nI s) mL' ∧ LisP x1 L0 mL' (M ++ mutOf (s, k, v)) := by
  have b0 : ∀ v, v ∈ arS → v < 128 := by decide
  have b1 : ∀ v, v ∈ cmS → v < 128 := by decide
  have b2 : ∀ v, v ∈ lgS → v < 128 := by decide
  rcases hv with ⟨rfl, hv⟩ | ⟨rfl, hv⟩ | ⟨rfl, hv⟩ | ⟨rfl, hv⟩ | ⟨rfl, hv⟩
  · exact z_l44 (k := 0) (by omega) (b0 v hv) hj (ha (by omega)) arS 0 n m mL M rfl (by omega) (by show 5 < n; omega) hm (fun q => by have := hM q; rw [show mutOf (s, 0, v) = oth s 0 arS v from rfl, oth_len] at this; exact this) h
  · exact z_l44 (k := 1) (by omega) (b1 v hv) hj (ha (by omega)) cmS 0 n m mL M rfl (by omega) (by show 4 < n; omega) hm (fun q => by have := hM q; rw [show mutOf (s, 1, v) = oth s 1 cmS v from rfl, oth_len] at this; exact this) h
  · exact z_l44 (k := 2) (by omega) (b2 v hv) hj (ha (by omega)) lgS 0 n m mL M rfl (by omega) (by show 2 < n; omega) hm (fun q => by have := hM q; rw [show mutOf (s, 2, v) = oth s 2 lgS v from rfl, oth_len] at this; exact this) h
  · exact z_l44c (by omega) hj (ha (by omega)) hm hM h
  · exact z_l44s (by omega) hj hm hM h
end
/-- what stands in the nodes and what in the list of sites -/
def DSR (D : List Nde) (S : List Ste) : Prop := (∀ q s, q ∈ D → s < 60 → q.2.2.2.2 = nI s → ∃ v, (s, kd q.1, v) ∈ S ∧ (kd q.1 ≠ 4 → q.2.1 = nI v) ∧ q.1 < 12) ∧ ∀ e, e ∈ S → ∃ q, q ∈ D ∧ q.2.2.2.2 = nI e.1
theorem dsr_of {D : List Nde} {S : List Ste} {p0 p' : Nat} (h : PD D S) (hk : DK D) (hS : SIN p0 p' S) (h60 : p' ≤ 60) : DSR D S := by
  constructor
  · intro q s hq hs e
    have hn : ¬ (q.1 = 11 ∨ q.1 = 1 ∨ q.1 = 2) := fun w => z_m1 (n := s) (by omega) (e.symm.trans ((hk q hq).1 w))
    have hm : (q.2.2.2.2, kd q.1, if kd q.1 = 4 then 0 else q.2.1) ∈ S.map up := h.mem_iff.mp (List.mem_filterMap.mpr ⟨q, hq, if_neg hn⟩)
    obtain ⟨e', he, hu⟩ := List.mem_map.mp hm
    obtain ⟨s', k', v'⟩ := e'
    have h3 := (hS.2.2 _ he).2.1
    dsimp only at h3
    have hu1 : nI s' = q.2.2.2.2 := congrArg Prod.fst hu
    have hu2 : k' = kd q.1 := congrArg (fun z => z.2.1) hu
    have hu3 : nI v' = if kd q.1 = 4 then 0 else q.2.1 := congrArg (fun z => z.2.2) hu
    have es : s' = s := (nI_eq (by omega) (by omega)).mp (hu1.trans e)
    subst es hu2
    refine ⟨v', he, fun w => ?_, (hk q hq).2⟩
    rw [hu3, if_neg w]
  · intro e he
    have hm := h.mem_iff.mpr (List.mem_map.mpr ⟨e, he, rfl⟩)
    obtain ⟨q, hq, h1⟩ := List.mem_filterMap.mp hm
    rw [dS] at h1
    split at h1
    · cases h1
    · exact ⟨q, hq, congrArg Prod.fst (Option.some.inj h1)⟩
section
variable {B : Nat} {O : MdK × MdN} {mN : MdN} {D : List Nde} {q1 q2 q4 q5 : Int32} {S : List Ste} {p0 p' : Nat}
theorem z_l4 {N : Nat} {kk : Int32 → MdL → Option (Int32 × MdL)} {t1 : Int32} {t2 : Nat → Int32} {tl : Nat} {x1 : Int32} {L0 : MdL} (hN : NV B O mN D) (hB : B ≤ 256) (hD : D.length < 256) (hF : 256 < N) (ht : t1 = nI tl) (htl : tl ≤ 60) (hS : SIN p0 p' S) (hp' : p' ≤ tl) (hR : DSR D S) (hM : x1 = 1 → (MU S).length ≤ 120) :
    ∀ t s n m mL, s + t = tl → t < n → m = (MU (S.filter (fun e => decide (e.1 < s)))).length → LisP x1 L0 mL (MU (S.filter (fun e => decide (e.1 < s)))) →
      ∃ mL', f8_listMutants_L4 kk N t1 t2 q1 q2 (nI B) q4 q5 mN.1 mN.2.1 mN.2.2.1 mN.2.2.2.1 mN.2.2.2.2.1 mN.2.2.2.2.2 n x1 (nI m) (nI s) mL = kk (nI (MU S).length) mL' ∧ LisP x1 L0 mL' (MU S) := by
  subst ht
  intro t
  induction t with
  | zero =>
    intro s n m mL hst hn hm h
    obtain ⟨n, rfl⟩ : ∃ a, n = a + 1 := ⟨n - 1, by omega⟩
    obtain rfl : s = tl := by omega
    have e : S.filter (fun e => decide (e.1 < s)) = S := List.filter_eq_self.mpr (fun a ha => by have := (hS.2.2 a ha).2.1; simp; omega)
    rw [e] at h hm
    refine ⟨mL, ?_, h⟩
    obtain ⟨l1, l2, l3, l4, l5, l6⟩ := mL
    rw [f8_listMutants_L4, if_pos ((nI_leI (by omega) (by omega)).mpr (Nat.le_refl _)), hm]
  | succ t ih =>
    intro s n m mL hst hn hm h
    obtain ⟨n, rfl⟩ : ∃ a, n = a + 1 := ⟨n - 1, by omega⟩
    have hle : ¬ nI tl ≤ nI s := fun q => absurd ((nI_leI (by omega) (by omega)).mp q) (by omega)
    obtain ⟨x, a1, a2⟩ := z_na (q1 := q1) (q2 := q2) (q4 := q4) (q5 := q5) hN hB hD hF s
    rcases a2 with ⟨rfl, a2⟩ | ⟨j, q, a2, rfl, a3, a4⟩
    · have hno : ∀ e, e ∈ S → e.1 ≠ s := by
        intro e he hes
        obtain ⟨q, hq, hw⟩ := hR.2 e he
        obtain ⟨j, hj⟩ := List.getElem?_of_mem hq
        exact a2 j q (List.getElem?_eq_some_iff.mp hj).1 hj (by rw [hw, hes])
      obtain ⟨mL', u1, u2⟩ := ih (s + 1) n m mL (by omega) (by omega) (by rw [ss_no s hno]; exact hm) (by rw [ss_no s hno]; exact h)
      refine ⟨mL', ?_, u2⟩
      rw [← u1]
      obtain ⟨n1, n2, n3, n4, n5, n6⟩ := mN
      obtain ⟨l1, l2, l3, l4, l5, l6⟩ := mL
      obtain ⟨N, rfl⟩ : ∃ a, N = a + 1 := ⟨N - 1, by omega⟩
      rw [f8_listMutants_L4, if_neg hle, a1, ob_s, if_pos rfl, f8_listMutants_L44, if_pos rfl]
      dsimp only [nm_v]
      rw [nI_1]
    · have hsB : s < 60 := by omega
      obtain ⟨v, b1, b2, b3⟩ := hR.1 q s (List.mem_of_getElem? a3) hsB a4
      have hsv : SV (kd q.1) v := (hS.2.2 _ b1).2.2
      have hP := hN.2.1 j q a3
      unfold NdAt at hP
      have eM : MU (S.filter (fun e => decide (e.1 < s + 1))) = MU (S.filter (fun e => decide (e.1 < s))) ++ mutOf (s, kd q.1, v) := by rw [ss_at s hS.2.1 b1 rfl, MU_app, MU_one]
      have hlen := MU_le (S := S) (s + 1) hS.2.1
      rw [eM, List.length_append] at hlen
      have hgj := z_gd (n := B + j) (N := 512) (by omega) (by omega)
      obtain ⟨mL1, v1, v2⟩ := z_l44e (N := N) (t1 := nI tl) (t2 := t2) (q1 := q1) (q2 := q2) (q3 := nI B) (q4 := q4) (q5 := q5) (n1 := mN.1) (n2 := mN.2.1) (n3 := mN.2.2.1) (n4 := mN.2.2.2.1) (n5 := mN.2.2.2.2.1) (n6 := mN.2.2.2.2.2) (s := s) (k := kd q.1) (v := v) (jn := B + j) (n := N) (L0 := L0) (mL := mL) (x1 := x1) (kk := fun x1_20 x2_20 x3_20 mL_20 => nm_v (x3_20 + (1 : Int32)) (fun v3_21 => f8_listMutants_L4 kk N (nI tl) t2 q1 q2 (nI B) q4 q5 mN.1 mN.2.1 mN.2.2.1 mN.2.2.2.1 mN.2.2.2.2.1 mN.2.2.2.2.2 n x1_20 x2_20 v3_21 mL_20)) (by omega) hsv (by omega) (fun w => hP.2.1.trans (b2 w)) hm (fun w => by have := hM w; omega) h
      obtain ⟨mL', u1, u2⟩ := ih (s + 1) n (m + (mutOf (s, kd q.1, v)).length) mL1 (by omega) (by omega) (by rw [eM, List.length_append, hm]) (by rw [eM]; exact v2)
      refine ⟨mL', ?_, u2⟩
      rw [← u1]
      have v1' := v1.trans (show _ = f8_listMutants_L4 kk N (nI tl) t2 q1 q2 (nI B) q4 q5 mN.1 mN.2.1 mN.2.2.1 mN.2.2.2.1 mN.2.2.2.2.1 mN.2.2.2.2.2 n x1 (nI (m + (mutOf (s, kd q.1, v)).length)) (nI (s + 1)) mL1 by rw [nm_v, nI_1])
      rw [← v1']
      have hk := hP.1
      obtain ⟨n1, n2, n3, n4, n5, n6⟩ := mN
      obtain ⟨l1, l2, l3, l4, l5, l6⟩ := mL
      dsimp only at hk ⊢
      rw [f8_listMutants_L4, if_neg hle, a1, ob_s, if_neg (z_m1 (by omega)), if_neg hgj, z_nat (n := B + j) (by omega), hk, z_ko q.1 b3, ob_s]
      rfl
/-- the model's list -/
theorem z_lmu {N tl : Nat} {mT : MdT} {x1 : Int32} {mL : MdL} (hN : NV B O mN D) (hB : B ≤ 256) (hD : D.length < 256) (hF : 256 < N) (ht : mT.1 = nI tl) (htl : tl ≤ 60) (hx : x1 = 0 ∨ x1 = 1) (hS : SIN p0 p' S) (hp' : p' ≤ tl) (hR : DSR D S) (hM : x1 = 1 → (MU S).length ≤ 120) :
    ∃ mL', f8_listMutants N x1 mT (q1, q2, nI B, q4, q5) mN mL = some (nI (MU S).length, mL') ∧ LisP x1 mL mL' (MU S) := by
  have e0 : S.filter (fun e => decide (e.1 < 0)) = [] := List.filter_eq_nil_iff.mpr (fun a ha => by simp)
  obtain ⟨mL', h1, h2⟩ := z_l4 (N := N) (kk := fun x mL => some (x, mL)) (t1 := mT.1) (t2 := mT.2) (q1 := q1) (q2 := q2) (q4 := q4) (q5 := q5) (L0 := mL) hN hB hD hF ht htl hS hp' hR hM tl 0 N 0 mL (by omega) (by omega) (by rw [e0]; rfl) (by
    rw [e0]
    rcases hx with rfl | rfl
    · exact .inl ⟨rfl, rfl⟩
    · exact .inr ⟨rfl, fun j e he => (by cases he), rfl, rfl⟩)
  refine ⟨mL', ?_, h2⟩
  obtain ⟨t1, t2⟩ := mT
  obtain ⟨n1, n2, n3, n4, n5, n6⟩ := mN
  obtain ⟨l1, l2, l3, l4, l5, l6⟩ := mL
  rw [f8_listMutants]
  exact h1
end
