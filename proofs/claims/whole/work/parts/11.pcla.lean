/-! READING in the class: tools -/
theorem z_nat {n : Nat} (h : n < 2 ^ 31) : (nI n).toNatClampNeg = n := by
  show (nI n).toInt.toNat = n
  rw [nI_toInt h]; rfl
theorem z_nn {n : Nat} (h : n < 2 ^ 31) : ¬ nI n < 0 := by
  rw [Int32.lt_iff_toInt_lt, nI_toInt h, show (0 : Int32).toInt = 0 by decide]; omega
theorem z_gd {n N : Nat} (h : n < N) (hN : N < 2 ^ 31) : ¬ (nI n < 0 ∨ N ≤ (nI n).toNatClampNeg) := by
  rintro (h1 | h1)
  · exact z_nn (by omega) h1
  · rw [z_nat (by omega)] at h1; omega
theorem z_m1 {n : Nat} (h : n < 2 ^ 31) : ¬ nI n = -1 := by
  rw [← Int32.toInt_inj, nI_toInt h, show (-1 : Int32).toInt = -1 by decide]; omega
abbrev IAE : String := "java/lang/IllegalArgumentException"
def PcAt (cs : CoS) (j : Nat) (p : Pce) : Prop :=
  cs.1 j = nI p.1 ∧ cs.2.2.2.1 j = nI p.2.2.2 ∧ (p.1 ≤ 4 ∨ p.1 = 6 → cs.2.1 j = nI p.2.1) ∧ (p.1 ≠ 11 → cs.2.2.1 j = nI p.2.2.1)
def CS (cs : CoS) (L : List Pce) : Prop := cs.2.2.2.2 = nI L.length ∧ ∀ j p, L[j]? = some p → PcAt cs j p
theorem z_upd_e {f : Nat → Int32} {k : Nat} {x : Int32} : upd f k x k = x := if_pos rfl
theorem z_upd_n {f : Nat → Int32} {k j : Nat} {x : Int32} (h : j ≠ k) : upd f k x j = f j := if_neg h
theorem z_add {cs : CoS} {L : List Pce} (h : CS cs L) (hL : L.length < 80) (w s n : Nat) {x1 x2 x3 : Int32} (h1 : x1 = nI w) (h2 : w ≤ 4 ∨ w = 6 → x2 = nI s) (h3 : w ≠ 11 → x3 = nI n) :
    ∃ cs', f0_add x1 x2 x3 cs = some (nI L.length, cs') ∧ CS cs' (L ++ [(w, s, n, 0)]) := by
  obtain ⟨a, b, c, d, z⟩ := cs
  obtain ⟨hz, hp⟩ := h
  dsimp only at hz
  subst hz
  have hg := z_gd hL (by omega)
  have h80 : ¬ nI L.length = (80 : Int32) := fun q => absurd ((nI_eq (a := L.length) (b := 80) (by omega) (by omega)).mp q) (by omega)
  rw [f0_add, if_neg h80, if_neg hg, if_neg hg, if_neg hg, if_neg hg]
  rw [Int32.add_sub_cancel, z_nat (by omega)]
  refine ⟨_, rfl, ?_⟩
  refine ⟨by dsimp only; rw [nI_1, List.length_append]; rfl, fun j p hj => ?_⟩
  by_cases e : j = L.length
  · subst e
    rw [List.getElem?_append_right (Nat.le_refl _), Nat.sub_self] at hj
    cases hj
    exact ⟨by dsimp only; rw [z_upd_e, h1], by dsimp only; rw [z_upd_e]; rfl, fun q => by dsimp only; rw [z_upd_e]; exact h2 q, fun q => by dsimp only; rw [z_upd_e]; exact h3 q⟩
  · have hl : j < L.length := by
      have := (List.getElem?_eq_some_iff.mp hj).1
      rw [List.length_append] at this
      have h1 : ([(w, s, n, 0)] : List Pce).length = 1 := rfl
      omega
    rw [List.getElem?_append_left hl] at hj
    have := hp j p hj
    unfold PcAt at this ⊢
    dsimp only at this ⊢
    rw [z_upd_n e, z_upd_n e, z_upd_n e, z_upd_n e]
    exact this
theorem z_setj {a b c d : Nat → Int32} {z : Int32} {A B : List Pce} {w s n t : Nat} (t' : Nat) (h : CS (a, b, c, d, z) (A ++ (w, s, n, t) :: B)) : CS (a, b, c, upd d A.length (nI t'), z) (A ++ (w, s, n, t') :: B) := by
  refine ⟨by have := h.1; simp only [List.length_append, List.length_cons] at this ⊢; exact this, fun j p hj => ?_⟩
  by_cases e : j = A.length
  · subst e
    have h2 := h.2 A.length (w, s, n, t) (by rw [List.getElem?_append_right (Nat.le_refl _), Nat.sub_self]; rfl)
    rw [List.getElem?_append_right (Nat.le_refl _), Nat.sub_self] at hj
    cases hj
    unfold PcAt at h2 ⊢
    dsimp only at h2 ⊢
    exact ⟨h2.1, z_upd_e, h2.2.2⟩
  · have h2 := h.2 j p (by
      by_cases hl : j < A.length
      · rw [List.getElem?_append_left hl] at hj ⊢; exact hj
      · rw [List.getElem?_append_right (by omega)] at hj ⊢
        obtain ⟨k, hk⟩ : ∃ k, j - A.length = k + 1 := ⟨j - A.length - 1, by omega⟩
        rw [hk] at hj ⊢
        exact hj)
    unfold PcAt at h2 ⊢
    dsimp only at h2 ⊢
    rw [z_upd_n e]
    exact h2
theorem z_jump {cs : CoS} {L : List Pce} (h : CS cs L) (hL : L.length ≤ 80) {A B : List Pce} {w s n t : Nat} (e : L = A ++ (w, s, n, t) :: B) {v : Int32} (hv : v = nI A.length) :
    ∃ cs', f0_jumpHere v cs = some cs' ∧ CS cs' (A ++ (w, s, n, L.length) :: B) := by
  subst e
  obtain ⟨a, b, c, d, z⟩ := cs
  have hz := h.1
  dsimp only at hz
  subst hz hv
  have hA : A.length < 80 := by rw [List.length_append, List.length_cons] at hL; omega
  rw [f0_jumpHere, if_neg (z_gd hA (by omega)), z_nat (by omega)]
  exact ⟨_, rfl, z_setj _ h⟩
/-- the text of a source -/
def TXT (top : TopS) (T : List Nat) : Prop := T.length ≤ 60 ∧ ∀ j c, T[j]? = some c → top.1 j = nI c ∧ c < 128
theorem z_dc {T : List Nat} {p c : Nat} {r : List Nat} (h : T.drop p = c :: r) : p < T.length ∧ T[p]? = some c ∧ r = T.drop (p + 1) := by
  have h1 : p < T.length := by
    by_cases q : p < T.length
    · exact q
    · rw [List.drop_eq_nil_of_le (by omega)] at h; cases h
  rw [List.drop_eq_getElem_cons h1] at h
  cases h
  exact ⟨h1, List.getElem?_eq_getElem h1, rfl⟩
section
variable {top : TopS} {T : List Nat} {t0 : Nat → Int32} {rq p c d : Nat} {r : List Nat}
theorem z_next0 (hT : TXT top T) (hp : p ≤ T.length) (h : T.drop p = []) : f5_next top (t0, 1, nI T.length, rq) (nI p) = some (-1) := by
  obtain ⟨a1, a2, a3, a4, a5, a6, a7, a8⟩ := top
  have hl := List.drop_eq_nil_iff.mp h
  have := hT.1
  rw [f5_next, if_pos ((nI_leI (by omega) (by omega)).mpr hl)]
theorem z_next1 (hT : TXT top T) (h : T.drop p = c :: r) : f5_next top (t0, 1, nI T.length, rq) (nI p) = some (nI c) := by
  obtain ⟨a1, a2, a3, a4, a5, a6, a7, a8⟩ := top
  obtain ⟨h1, h2, h3⟩ := z_dc h
  have := hT.1
  have h4 := (hT.2 p c h2).1
  dsimp only at h4
  have h60 : ¬ (60 : Int32) ≤ nI p := fun q => absurd ((nI_leI (a := 60) (b := p) (by omega) (by omega)).mp q) (by omega)
  rw [f5_next, if_neg (fun q => absurd ((nI_leI (by omega) (by omega)).mp q) (by omega)), if_neg h60, if_neg (z_gd (by omega) (by omega)), z_nat (by omega), h4]
theorem z_lt (hT : TXT top T) (h : T.drop p = c :: r) : c < 128 := (hT.2 p c (z_dc h).2.1).2
theorem z_is0 (sj : Nat) (hT : TXT top T) (hp : p ≤ T.length) (h : T.drop p = []) : f5_nextIsOneOf sj top (t0, 1, nI T.length, rq) (nI p) = some 0 := by
  have := z_next0 (t0 := t0) (rq := rq) hT hp h
  obtain ⟨a1, a2, a3, a4, a5, a6, a7, a8⟩ := top
  rw [f5_nextIsOneOf, this]
  rfl
theorem z_is1 (sj : Nat) (hT : TXT top T) (h : T.drop p = c :: r) : f5_nextIsOneOf sj top (t0, 1, nI T.length, rq) (nI p) = some (if (strIx sj ((nI c).toUInt32 % 65536).toInt32) < 0 then 0 else 1) := by
  have := z_next1 (t0 := t0) (rq := rq) hT h
  have hc := z_lt hT h
  obtain ⟨a1, a2, a3, a4, a5, a6, a7, a8⟩ := top
  rw [f5_nextIsOneOf, this]
  dsimp only [Option.bind]
  rw [if_neg (z_m1 (by omega))]
  split <;> rfl
theorem z_take (hT : TXT top T) (hp : p ≤ T.length) (x : Int32) (b : Nat) (hx : x = nI b) (hb : b < 128) :
    (pTok b p (T.drop p) = none ∧ f5_take x top (t0, 1, nI T.length, rq) (nI p) = some (.error IAE, nI p)) ∨
    (pTok b p (T.drop p) = some (p + 1, T.drop (p + 1)) ∧ p + 1 ≤ T.length ∧ f5_take x top (t0, 1, nI T.length, rq) (nI p) = some (.ok (), nI (p + 1))) := by
  subst hx
  rcases h : T.drop p with _ | ⟨c, r⟩
  · left
    have h1 := z_next0 (t0 := t0) (rq := rq) hT hp h
    obtain ⟨a1, a2, a3, a4, a5, a6, a7, a8⟩ := top
    refine ⟨rfl, ?_⟩
    rw [f5_take, h1]
    dsimp only [Option.bind]
    rw [if_neg (fun q => z_m1 (n := b) (by omega) q.symm)]
    rfl
  · have h1 := z_next1 (t0 := t0) (rq := rq) hT h
    have hc := z_lt hT h
    obtain ⟨a1, a2, a3, a4, a5, a6, a7, a8⟩ := top
    by_cases e : c = b
    · right
      subst e
      obtain ⟨q1, q2, q3⟩ := z_dc h
      refine ⟨by rw [pTok, if_pos rfl, q3], q1, ?_⟩
      rw [f5_take, h1]
      dsimp only [Option.bind]
      rw [if_pos rfl, nI_1]
    · left
      refine ⟨by rw [pTok, if_neg e], ?_⟩
      rw [f5_take, h1]
      dsimp only [Option.bind]
      rw [if_neg (fun q => e ((nI_eq (by omega) (by omega)).mp q))]
      rfl
theorem z_open0 {x : Int32} {ra : Int32} {rd : RdS} : f5_open x (nI (4 - 0)) top rd ra = some (.error IAE, ra) := by
  obtain ⟨a1, a2, a3, a4, a5, a6, a7, a8⟩ := top
  obtain ⟨b1, b2, b3, b4⟩ := rd
  rw [f5_open, if_neg (by decide)]
  rfl
theorem z_open1 (hT : TXT top T) (hp : p ≤ T.length) (x : Int32) (b : Nat) (hx : x = nI b) (hb : b < 128) (hd : d < 4) :
    (pTok b p (T.drop p) = none ∧ f5_open x (nI (4 - (d + 1))) top (t0, 1, nI T.length, rq) (nI p) = some (.error IAE, nI p)) ∨
    (pTok b p (T.drop p) = some (p + 1, T.drop (p + 1)) ∧ p + 1 ≤ T.length ∧ f5_open x (nI (4 - (d + 1))) top (t0, 1, nI T.length, rq) (nI p) = some (.ok (nI (4 - d)), nI (p + 1))) := by
  have h := z_take (t0 := t0) (rq := rq) hT hp x b hx hb
  have h4 : nI (4 - (d + 1)) < (4 : Int32) := (nI_ltI (b := 4) (by omega) (by omega)).mpr (by omega)
  have h5 : nI (4 - (d + 1)) + 1 = nI (4 - d) := by rw [nI_1]; congr 1; omega
  obtain ⟨a1, a2, a3, a4, a5, a6, a7, a8⟩ := top
  rcases h with ⟨h1, h2⟩ | ⟨h1, h2, h3⟩
  · exact .inl ⟨h1, by rw [f5_open, if_pos h4, h2]; rfl⟩
  · exact .inr ⟨h1, h2, by rw [f5_open, if_pos h4, h3]; dsimp only [Option.bind]; rw [h5]⟩
end
theorem z_c3 : ∀ c, c < 128 → ((strIx 3 ((nI c).toUInt32 % 65536).toInt32) < 0 ↔ isAdd c = false) := by decide +kernel
theorem z_c4 : ∀ c, c < 128 → ((strIx 4 ((nI c).toUInt32 % 65536).toInt32) < 0 ↔ isMul c = false) := by decide +kernel
theorem z_c1 : ∀ c, c < 128 → ((strIx 1 ((nI c).toUInt32 % 65536).toInt32) < 0 ↔ isCmp c = false) := by decide +kernel
theorem z_c5 : ∀ c, c < 128 → ((strIx 5 ((nI c).toUInt32 % 65536).toInt32) < 0 ↔ slotOf c = none) ∧ ∀ k, k < 8 → slotOf c = some k → (strIx 5 ((nI c).toUInt32 % 65536).toInt32) = nI k := by decide +kernel
theorem z_slt {c k : Nat} (h : slotOf c = some k) : k < 8 ∧ (k < 6 → 97 ≤ c ∧ c ≤ 102 ∧ k = c - 97) ∧ (97 ≤ c ∧ c ≤ 102 → k < 6) := by
  unfold slotOf at h
  split at h
  · cases h; omega
  · split at h
    · cases h; omega
    · split at h
      · cases h; omega
      · cases h
/-- what a reader answers -/
def RZ {α : Type} (T : List Nat) (o : Option (Except String Unit × Int32 × CoS)) (r : PR α) (p : Nat) (L : List Pce) (pc : α → List Pce) (sl : Nat) : Prop :=
  match r with
  | none => ∃ ra cs', o = some (.error IAE, ra, cs')
  | some (x, p', s') => s' = T.drop p' ∧ p' ≤ T.length ∧ 4 * (pc x).length + sl + 5 * p ≤ 5 * p' ∧ ∃ cs', o = some (.ok (), nI p', cs') ∧ CS cs' (L ++ pc x)
def OKX {α : Type} (T : List Nat) (f : Int32 → CoS → Option (Except String Unit × Int32 × CoS)) (sp : Nat → List Nat → PR α) (pc : Nat → α → List Pce) (sl : Nat) : Prop :=
  ∀ p cs L, p ≤ T.length → CS cs L → 4 * L.length ≤ 5 * p → RZ T (f (nI p) cs) (sp p (T.drop p)) p L (pc L.length) sl
theorem RZ_bind {α β : Type} {T : List Nat} {o : Option (Except String Unit × Int32 × CoS)} {r : PR α} {p q : Nat} {L M : List Pce} {pc : α → List Pce} {sl sl2 : Nat} {k : Except String Unit × Int32 × CoS → Option (Except String Unit × Int32 × CoS)} {g : α × Nat × List Nat → PR β} {pc2 : β → List Pce} (h : RZ T o r p L pc sl)
    (hk : ∀ x p' cs', p' ≤ T.length → 4 * (pc x).length + sl + 5 * p ≤ 5 * p' → CS cs' (L ++ pc x) → RZ T (k (.ok (), nI p', cs')) (g (x, p', T.drop p')) q M pc2 sl2)
    (he : ∀ ra cs', k (.error IAE, ra, cs') = some (.error IAE, ra, cs')) : RZ T (o.bind k) (r.bind g) q M pc2 sl2 := by
  rcases r with _ | ⟨x, p', s'⟩
  · obtain ⟨ra, cs', e⟩ := h
    exact ⟨ra, cs', by rw [e]; exact he ra cs'⟩
  · obtain ⟨e1, h1, h2, cs', e, h3⟩ := h
    subst e1
    rw [e]
    exact hk x p' cs' h1 h2 h3
theorem RZ_err {α : Type} {T : List Nat} {p : Nat} {L : List Pce} {pc : α → List Pce} {sl : Nat} {ra : Int32} {cs : CoS} : RZ T (some (.error IAE, ra, cs)) (none : PR α) p L pc sl := ⟨_, _, rfl⟩
