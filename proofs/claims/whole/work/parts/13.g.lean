/-! the nodes: which have no site -/
def DK (D : List Nde) : Prop := ∀ q, q ∈ D → (q.1 = 11 ∨ q.1 = 1 ∨ q.1 = 2 → q.2.2.2.2 = -1) ∧ q.1 < 12
theorem DK.app {L M : List Nde} (h1 : DK L) (h2 : DK M) : DK (L ++ M) := fun q hq => (List.mem_append.mp hq).elim (h1 q) (h2 q)
theorem DK.cons {L : List Nde} {q : Nde} (hw : (q.1 = 11 ∨ q.1 = 1 ∨ q.1 = 2 → q.2.2.2.2 = -1) ∧ q.1 < 12) (h : DK L) : DK (q :: L) := fun q' hq => (List.mem_cons.mp hq).elim (fun e => by rw [e]; exact hw) (h q')
theorem DK.nil : DK [] := fun q hq => by cases hq
theorem DK.st {L M : List Nde} {k : Nat} {a b c s : Int32} (h1 : DK L) (hk : k = 0 ∨ 3 ≤ k ∧ k < 11) (h2 : DK M) : DK (L ++ (k, a, b, c, s) :: M) := h1.app (DK.cons ⟨fun h => by dsimp only at h; omega, by dsimp only; omega⟩ h2)
section
variable {α : Type} {g : Nat → α → List Nde} {B : Nat}
theorem dk_moE {K : Nat} (hK : K = 3 ∨ K = 5) (h : ∀ m x, DK (g m x)) : ∀ l v m, DK (nMoE K B g v m l) := by
  intro l
  induction l with
  | nil => intro v m; exact DK.nil
  | cons q l ih => intro v m; exact DK.st (h _ _) (by omega) (ih _ _)
theorem dk_chE {K : Nat} (hK : K = 3 ∨ K = 5) (h : ∀ m x, DK (g m x)) : ∀ m x, DK (nChE K B g m x) := fun m x => (h m x.1).app (dk_moE hK h x.2 _ _)
theorem dk_rowS (h : ∀ m x, DK (g m x)) : ∀ l m, DK (nRowS B g m l) := by
  intro l
  induction l with
  | nil => intro m; exact DK.nil
  | cons x l ih => intro m; exact (h _ _).app (ih _)
theorem dk_lst : ∀ R v m, DK (nLst B v m R) := by
  intro R
  induction R with
  | nil => intro v m; exact DK.nil
  | cons x R ih => intro v m; exact DK.cons ⟨fun _ => rfl, by dsimp only; omega⟩ (ih _ _)
theorem dk_row (h : ∀ m x, DK (g m x)) : ∀ m l, DK (nRow B g m l) := fun m l => (dk_rowS h l m).app (dk_lst _ _ _)
end
section
variable {B : Nat}
theorem dk_fa {S : Type} {g : Nat → S → List Nde} (h : ∀ m x, DK (g m x)) : ∀ m x, DK (nFa g m x) := by
  intro m x
  rcases x with (⟨s, v⟩ | ⟨s, k⟩) | y
  · exact DK.cons ⟨fun h => by dsimp only at h; omega, by dsimp only; omega⟩ DK.nil
  · show DK (nLeaf (.inr (s, k)))
    rw [nLeaf]
    split
    · exact DK.cons ⟨fun h => rfl, by dsimp only; omega⟩ DK.nil
    · exact DK.cons ⟨fun h => rfl, by dsimp only; omega⟩ DK.nil
  · exact h _ _
theorem dk_sub : ∀ d m x, DK (nSub B d m x) := by
  intro d
  induction d with
  | zero => intro m x; exact DK.nil
  | succ d ih => exact dk_chE (.inl rfl) (dk_chE (.inl rfl) (dk_fa ih))
theorem dk_ex (d : Nat) : ∀ m x, DK (nEx B d m x) := dk_chE (.inl rfl) (dk_chE (.inl rfl) (dk_fa (dk_sub d)))
theorem dk_at {S : Type} (d : Nat) {g : Nat → S → List Nde} (h : ∀ m x, DK (g m x)) : ∀ m x, DK (nAt B d g m x) := by
  intro m x
  rcases x with x | y
  · exact DK.st ((dk_ex d _ _).app (dk_ex d _ _)) (by omega) DK.nil
  · exact h m y
theorem dk_csub : ∀ d m x, DK (nCSub B d m x) := by
  intro d
  induction d with
  | zero => intro m x; exact DK.nil
  | succ d ih => exact dk_chE (.inr rfl) (dk_chE (.inr rfl) (dk_at d ih))
theorem dk_co (d : Nat) : ∀ m x, DK (nCo B d m x) := dk_chE (.inr rfl) (dk_chE (.inr rfl) (dk_at d (dk_csub d)))
theorem dk_st {S : Type} (d : Nat) {g : Nat → S → List Nde} (h : ∀ m x, DK (g m x)) : ∀ m x, DK (nSt B d g m x) := by
  intro m x
  rcases x with ⟨s, x⟩ | y
  · rcases x with ⟨k, e⟩ | e | c
    · exact DK.st (dk_ex d m e) (by omega) DK.nil
    · exact DK.st (dk_ex d m e) (by omega) DK.nil
    · exact DK.st (dk_co d m c) (by omega) DK.nil
  · exact h m y
theorem dk_bsub : ∀ d m x, DK (nBSub B d m x) := by
  intro d
  induction d with
  | zero => intro m x; exact DK.nil
  | succ d ih =>
    intro m x
    obtain ⟨s, c, x⟩ := x
    have hr := fun m l => dk_row (g := nSt B d (nBSub B d)) (B := B) (dk_st d ih) m l
    rcases x with ⟨r, _ | t⟩ | r
    · exact DK.st ((dk_co (d + 1) m c).app (hr _ _)) (by omega) DK.nil
    · exact DK.st (((dk_co (d + 1) m c).app (hr _ _)).app (hr _ _)) (by omega) DK.nil
    · exact DK.st ((dk_co (d + 1) m c).app (hr _ _)) (by omega) DK.nil
theorem dk_ro (d : Nat) : ∀ m x, DK (nRo B d m x) := fun m x => dk_row (dk_st d (dk_bsub d)) m x
end
/-! the model's list -/
section
variable {B : Nat} {O : MdK × MdN} {mN : MdN} {D : List Nde} {q1 q2 q4 q5 : Int32}
theorem z_nat2 {N : Nat} {kk : Int32 → Option Int32} (hN : NV B O mN D) (hB : B ≤ 256) (hD : D.length < 256) (s : Nat) : ∀ R i n x, D.drop i = R → i ≤ D.length → R.length < n → (x = -1 ∧ (∀ j q, j < i → D[j]? = some q → q.2.2.2.2 ≠ nI s) ∨ ∃ j q, j < i ∧ x = nI (B + j) ∧ D[j]? = some q ∧ q.2.2.2.2 = nI s) →
    ∃ x', f8_nodeAt_L7 kk N q1 q2 (nI B) q4 q5 mN.1 mN.2.1 mN.2.2.1 mN.2.2.2.1 mN.2.2.2.2.1 mN.2.2.2.2.2 n (nI s) x (nI (B + i)) = kk x' ∧ (x' = -1 ∧ (∀ j q, j < D.length → D[j]? = some q → q.2.2.2.2 ≠ nI s) ∨ ∃ j q, j < D.length ∧ x' = nI (B + j) ∧ D[j]? = some q ∧ q.2.2.2.2 = nI s) := by
  obtain ⟨n1, n2, n3, n4, n5, n6⟩ := mN
  obtain ⟨hz, hp, _⟩ := hN
  dsimp only at hz ⊢
  subst hz
  intro R
  induction R with
  | nil =>
    intro i n x hd hi hn h
    obtain ⟨n, rfl⟩ : ∃ m, n = m + 1 := ⟨n - 1, by simp only [List.length_nil] at hn; omega⟩
    have hl := List.drop_eq_nil_iff.mp hd
    obtain rfl : i = D.length := by omega
    refine ⟨x, ?_, h⟩
    rw [f8_nodeAt_L7, nI_add]
    exact if_pos ((nI_leI (by omega) (by omega)).mpr (Nat.le_refl _))
  | cons q R ih =>
    intro i n x hd hi hn h
    rw [List.length_cons] at hn
    obtain ⟨n, rfl⟩ : ∃ m, n = m + 1 := ⟨n - 1, by omega⟩
    obtain ⟨w1, w2, w3⟩ := z_dcG hd
    have hP := (hp i q w2).2.2.2.2
    dsimp only at hP
    have hg := z_gd (n := B + i) (N := 512) (by omega) (by omega)
    have hle : ¬ nI (B + D.length) ≤ nI (B + i) := fun q => absurd ((nI_leI (by omega) (by omega)).mp q) (by omega)
    by_cases w : q.2.2.2.2 = nI s
    · obtain ⟨x', u1, u2⟩ := ih (i + 1) n (nI (B + i)) w3.symm w1 (by omega) (.inr ⟨i, q, by omega, rfl, w2, w⟩)
      refine ⟨x', ?_, u2⟩
      rw [← u1, f8_nodeAt_L7, nI_add, if_neg hle, if_neg hg, z_nat (n := B + i) (by omega), if_pos (hP.trans w), nm_v, nI_1]
      rfl
    · obtain ⟨x', u1, u2⟩ := ih (i + 1) n x w3.symm w1 (by omega) (by
        rcases h with ⟨h1, h2⟩ | ⟨j, q', h1, h2⟩
        · refine .inl ⟨h1, fun j q' hj hj2 => ?_⟩
          by_cases e : j = i
          · subst e
            rw [w2] at hj2
            cases hj2
            exact w
          · exact h2 j q' (by omega) hj2
        · exact .inr ⟨j, q', by omega, h2⟩)
      refine ⟨x', ?_, u2⟩
      rw [← u1, f8_nodeAt_L7, nI_add, if_neg hle, if_neg hg, z_nat (n := B + i) (by omega), if_neg (fun e => w (hP.symm.trans e)), nm_v, nI_1]
      rfl
/-- the node of a place -/
theorem z_na {N : Nat} (hN : NV B O mN D) (hB : B ≤ 256) (hD : D.length < 256) (hF : 256 < N) (s : Nat) : ∃ x, f8_nodeAt N (nI s) (q1, q2, nI B, q4, q5) mN = some x ∧ (x = -1 ∧ (∀ j q, j < D.length → D[j]? = some q → q.2.2.2.2 ≠ nI s) ∨ ∃ j q, j < D.length ∧ x = nI (B + j) ∧ D[j]? = some q ∧ q.2.2.2.2 = nI s) := by
  obtain ⟨x, h1, h2⟩ := z_nat2 (N := N) (kk := fun x => some x) (q1 := q1) (q2 := q2) (q4 := q4) (q5 := q5) hN hB hD s D 0 N (-1) rfl (by omega) (by omega) (.inl ⟨rfl, fun j q hj => by omega⟩)
  refine ⟨x, ?_, h2⟩
  obtain ⟨n1, n2, n3, n4, n5, n6⟩ := mN
  rw [f8_nodeAt]
  exact h1
end
theorem z_ko : ∀ k, k < 12 → f8_kindOf (nI k) = some (nI (kd k)) := by decide +kernel
def MuL (mL : MdL) (M : List Mtn) : Prop := ∀ j e, M[j]? = some e → mL.2.1 (j + 1) = nI e.1 ∧ mL.2.2.1 (j + 1) = nI e.2.1 ∧ mL.2.2.2.1 (j + 1) = e.2.2
/-- noted, or counted alone -/
def LisP (x1 : Int32) (L0 mL : MdL) (M : List Mtn) : Prop := x1 = 0 ∧ mL = L0 ∨ x1 = 1 ∧ MuL mL M ∧ mL.1 = L0.1 ∧ mL.2.2.2.2 = L0.2.2.2.2
abbrev K44 : Type := Int32 → Int32 → Int32 → Int32 → Int32 → Int32 → MdL → Option (Int32 × MdL)
section
variable {N : Nat} {t1 : Int32} {t2 : Nat → Int32} {q1 q2 q3 q4 q5 : Int32} {n1 : Int32} {n2 n3 n4 n5 n6 : Nat → Int32} {L0 mL : MdL} {M : List Mtn} {x1 x4 : Int32}
theorem z_l123 {k44 : K44} {s k i m : Nat} {o : Int32} (h : LisP x1 L0 mL M) (hm : m = M.length) (hM : x1 = 1 → M.length < 120) : ∃ mL', f8_listMutants_L123 k44 N t1 t2 q1 q2 q3 q4 q5 n1 n2 n3 n4 n5 n6 x1 (nI m) (nI s) x4 (nI k) (nI i) o mL = k44 x1 (nI (m + 1)) (nI s) x4 (nI k) (nI (i + 1)) mL' ∧ LisP x1 L0 mL' (M ++ [(s, k, o)]) := by
  subst hm
  rcases h with ⟨rfl, rfl⟩ | ⟨rfl, h1, h2, h3⟩
  · refine ⟨mL, ?_, .inl ⟨rfl, rfl⟩⟩
    obtain ⟨l1, l2, l3, l4, l5, l6⟩ := mL
    rw [f8_listMutants_L123, nm_v, if_pos rfl, nm_v, nI_1, nI_1]
  · have hM := hM rfl
    have hg := z_gd (n := M.length + 1) (N := 121) (by omega) (by omega)
    obtain ⟨l1, l2, l3, l4, l5, l6⟩ := mL
    refine ⟨(l1, upd l2 (M.length + 1) (nI s), upd l3 (M.length + 1) (nI k), upd l4 (M.length + 1) o, l5, l6), ?_, .inr ⟨rfl, fun j q hj => ?_, h2, h3⟩⟩
    · rw [f8_listMutants_L123, nm_v, if_neg (by decide), nI_1, f8_note, if_neg hg, if_neg hg, if_neg hg, ob_s]
      dsimp only [nm_v]
      rw [nI_1, z_nat (n := M.length + 1) (by omega)]
    · by_cases w : j = M.length
      · subst w
        rw [List.getElem?_append_right (Nat.le_refl _), Nat.sub_self] at hj
        cases hj
        exact ⟨z_upd_e, z_upd_e, z_upd_e⟩
      · have hl : j < M.length := by
          have := (List.getElem?_eq_some_iff.mp hj).1
          rw [List.length_append] at this
          have h1 : ([(s, k, o)] : List Mtn).length = 1 := rfl
          omega
        rw [List.getElem?_append_left hl] at hj
        obtain ⟨u1, u2, u3⟩ := h1 j q hj
        exact ⟨(z_upd_n (by omega)).trans u1, (z_upd_n (by omega)).trans u2, (z_upd_n (by omega)).trans u3⟩
theorem z_sg : ∀ k, k < 3 → f8_waysOf (nI k) = some (nI (SJ k).length) ∧ (SJ k).length < 6 ∧ ∀ i, i < (SJ k).length → f8_signOf (nI k) (nI i) = some (nI ((SJ k).getD i 0)) ∧ (SJ k).getD i 0 < 128 := by decide +kernel
abbrev K146 : Type := Int32 → Int32 → Int32 → MdL → Option (Int32 × MdL)
theorem z_l44 {kk : K146} {s k v jn : Nat} (hk : k < 3) (hv : v < 128) (hj : jn < 512) (ha : n3 jn = nI v) : ∀ R i n m mL M, (SJ k).drop i = R → i ≤ (SJ k).length → R.length < n → m = M.length → (x1 = 1 → M.length + (R.filter (fun c => c != v)).length ≤ 120) → LisP x1 L0 mL M →
    ∃ mL', f8_listMutants_L44 kk N t1 t2 q1 q2 q3 q4 q5 n1 n2 n3 n4 n5 n6 n x1 (nI m) (nI s) (nI jn) (nI k) (nI i) mL = kk x1 (nI (m + (oth s k R v).length)) (nI s) mL' ∧ LisP x1 L0 mL' (M ++ oth s k R v) := by
  obtain ⟨e1, e3, e4⟩ := z_sg k hk
  have hjn : ¬ nI jn = -1 := z_m1 (by omega)
  have hg := z_gd (n := jn) (N := 512) hj (by omega)
  have h3 : ¬ (3 : Int32) ≤ nI k := nl_nge k 3 3 rfl hk (by omega)
  intro R
  induction R with
  | nil =>
    intro i n m mL M hd hi hn hm hM h
    obtain ⟨n, rfl⟩ : ∃ m, n = m + 1 := ⟨n - 1, by simp only [List.length_nil] at hn; omega⟩
    have hl := List.drop_eq_nil_iff.mp hd
    refine ⟨mL, ?_, by rw [show oth s k [] v = [] from rfl, List.append_nil]; exact h⟩
    obtain ⟨l1, l2, l3, l4, l5, l6⟩ := mL
    rw [f8_listMutants_L44, if_neg hjn, e1, ob_s]
    exact if_pos ((nI_leI (by omega) (by omega)).mpr hl)
  | cons c R ih =>
    intro i n m mL M hd hi hn hm hM h
    rw [List.length_cons] at hn
    obtain ⟨n, rfl⟩ : ∃ m, n = m + 1 := ⟨n - 1, by omega⟩
    obtain ⟨w1, w2, w3⟩ := z_dc hd
    obtain ⟨k1, k2⟩ := e4 i w1
    have k3 : (SJ k).getD i 0 = c := by rw [List.getD_eq_getElem?_getD, w2]; rfl
    rw [k3] at k1 k2
    have hle : ¬ nI (SJ k).length ≤ nI i := fun q => absurd ((nI_leI (by omega) (by omega)).mp q) (by omega)
    by_cases hx : c = v
    · subst hx
      have ef : (c :: R).filter (fun a => a != c) = R.filter (fun a => a != c) := List.filter_cons_of_neg (by simp)
      rw [ef] at hM
      obtain ⟨mL', u1, u2⟩ := ih (i + 1) n m mL M w3.symm w1 (by omega) hm hM h
      have eo : oth s k (c :: R) c = oth s k R c := by rw [oth, ef]; rfl
      refine ⟨mL', ?_, by rw [eo]; exact u2⟩
      rw [eo, ← u1]
      obtain ⟨l1, l2, l3, l4, l5, l6⟩ := mL
      rw [f8_listMutants_L44, if_neg hjn, e1, ob_s, if_neg hle, if_neg h3, k1, ob_s, f8_listMutants_L100, if_neg h3, if_neg hg, z_nat (n := jn) (by omega), ha, if_pos rfl, nm_v, nI_1]
    · have ef : (c :: R).filter (fun a => a != v) = c :: R.filter (fun a => a != v) := List.filter_cons_of_pos (by simp [hx])
      rw [ef, List.length_cons] at hM
      obtain ⟨mL1, a1, a2⟩ := z_l123 (N := N) (t1 := t1) (t2 := t2) (q1 := q1) (q2 := q2) (q3 := q3) (q4 := q4) (q5 := q5) (n1 := n1) (n2 := n2) (n3 := n3) (n4 := n4) (n5 := n5) (n6 := n6) (x4 := nI jn) (s := s) (k := k) (i := i) (o := nI c) (k44 := fun x1_ x2_ x3_ x4_ x5_ x6_ c_mL => f8_listMutants_L44 kk N t1 t2 q1 q2 q3 q4 q5 n1 n2 n3 n4 n5 n6 n x1_ x2_ x3_ x4_ x5_ x6_ c_mL) h hm (fun q => by have := hM q; omega)
      obtain ⟨mL', u1, u2⟩ := ih (i + 1) n (m + 1) mL1 (M ++ [(s, k, nI c)]) w3.symm w1 (by omega) (by rw [List.length_append, hm]; rfl) (fun q => by have := hM q; rw [List.length_append]; simp only [List.length_cons, List.length_nil]; omega) a2
      have eo : oth s k (c :: R) v = (s, k, nI c) :: oth s k R v := by rw [oth, ef]; rfl
      refine ⟨mL', ?_, ?_⟩
      · rw [eo, List.length_cons, show m + ((oth s k R v).length + 1) = m + 1 + (oth s k R v).length by omega, ← u1]
        rw [← a1]
        obtain ⟨l1, l2, l3, l4, l5, l6⟩ := mL
        rw [f8_listMutants_L44, if_neg hjn, e1, ob_s, if_neg hle, if_neg h3, k1, ob_s, f8_listMutants_L100, if_neg h3, if_neg hg, z_nat (n := jn) (by omega), ha, if_neg (fun q => hx ((nI_eq (by omega) (by omega)).mp q))]
      · rw [eo]
        rw [List.append_assoc] at u2
        exact u2
end
