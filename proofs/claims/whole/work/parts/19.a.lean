/-! MUTANTS: what stands instead is as it may be -/
/-- the mutant of that number -/
def mtm (M : List Mtn) : Nat → MTN
  | 0 => uZ
  | j + 1 => match M[j]? with
    | some e => (nI e.1, e.2.2)
    | none => uZ
theorem mtm_s {M : List Mtn} {j : Nat} {e : Mtn} (h : M[j]? = some e) : mtm M (j + 1) = (nI e.1, e.2.2) := by
  rw [mtm, h]
theorem oth_mem {s k v : Nat} {L : List Nat} {a : Mtn} (h : a ∈ oth s k L v) : a.1 = s ∧ a.2.1 = k ∧ ∃ o, o ∈ L ∧ o ≠ v ∧ a.2.2 = nI o := by
  obtain ⟨c, h1, rfl⟩ := List.mem_map.mp h
  obtain ⟨h2, h3⟩ := List.mem_filter.mp h1
  exact ⟨rfl, rfl, c, h2, (by intro q; rw [q] at h3; simp at h3), rfl⟩
theorem mut_mem {e : Ste} {a : Mtn} (hv : SV e.2.1 e.2.2) (h : a ∈ mutOf e) : a.1 = e.1 ∧ a.2.1 = e.2.1 ∧ (e.2.1 < 3 → ∃ o, o ∈ SJ e.2.1 ∧ a.2.2 = nI o) ∧ (e.2.1 = 2 → a.2.2 = nI (162 - e.2.2)) := by
  obtain ⟨s, k, v⟩ := e
  unfold mutOf at h
  dsimp only at h hv ⊢
  rcases hv with ⟨rfl, hv⟩ | ⟨rfl, hv⟩ | ⟨rfl, hv⟩ | ⟨rfl, hv⟩ | ⟨rfl, hv⟩
  · obtain ⟨h1, h2, o, h3, h4, h5⟩ := oth_mem (show a ∈ oth s 0 arS v from h)
    exact ⟨h1, h2, fun _ => ⟨o, h3, h5⟩, fun q => absurd q (by decide)⟩
  · obtain ⟨h1, h2, o, h3, h4, h5⟩ := oth_mem (show a ∈ oth s 1 cmS v from h)
    exact ⟨h1, h2, fun _ => ⟨o, h3, h5⟩, fun q => absurd q (by decide)⟩
  · obtain ⟨h1, h2, o, h3, h4, h5⟩ := oth_mem (show a ∈ oth s 2 lgS v from h)
    refine ⟨h1, h2, fun _ => ⟨o, h3, h5⟩, fun _ => ?_⟩
    rw [h5]
    simp only [lgS, List.mem_cons, List.not_mem_nil, or_false] at h3 hv
    rcases h3 with rfl | rfl <;> rcases hv with rfl | rfl <;> first | exact absurd rfl h4 | rfl
  · have h : a ∈ [(s, 3, nI v + 1), (s, 3, nI v - 1)] := h
    simp only [List.mem_cons, List.not_mem_nil, or_false] at h
    rcases h with rfl | rfl
    · exact ⟨rfl, rfl, fun q => absurd q (by decide), fun q => absurd q (by decide)⟩
    · exact ⟨rfl, rfl, fun q => absurd q (by decide), fun q => absurd q (by decide)⟩
  · have h : a ∈ [(s, 4, (0 : Int32))] := h
    rw [List.mem_singleton.mp h]
    exact ⟨rfl, rfl, fun q => absurd q (by decide), fun q => absurd q (by decide)⟩
section
variable {S : List Ste} {p p' : Nat}
theorem MU_mem {a : Mtn} (h : a ∈ MU S) : ∃ e, e ∈ S ∧ a ∈ mutOf e := List.mem_flatMap.mp h
/-- a place in a list of places is of one kind -/
theorem sin_one (hS : SIN p p' S) {e f : Ste} (he : e ∈ S) (hf : f ∈ S) (h : e.1 = f.1) : e = f := by
  have hp := hS.2.1
  clear hS
  induction S with
  | nil => cases he
  | cons x S ih =>
    obtain ⟨h1, h2⟩ := List.pairwise_cons.mp hp
    rcases List.mem_cons.mp he with he | he <;> rcases List.mem_cons.mp hf with hf | hf
    · rw [he, hf]
    · have := h1 f hf
      rw [← he] at this
      omega
    · have := h1 e he
      rw [← hf] at this
      omega
    · exact ih he hf h2
theorem mut_ok (hS : SIN p p' S) (h60 : p' ≤ 60) {a : Mtn} (ha : a ∈ MU S) {f : Ste} (hf : f ∈ S) (h : nI f.1 = nI a.1) : (f.2.1 < 3 → ∃ o, o ∈ SJ f.2.1 ∧ a.2.2 = nI o) ∧ (f.2.1 = 2 → a.2.2 = nI (162 - f.2.2)) := by
  obtain ⟨e, he, hm⟩ := MU_mem ha
  obtain ⟨b1, b2, b3⟩ := hS.2.2 e he
  obtain ⟨c1, c2, c3⟩ := hS.2.2 f hf
  obtain ⟨m1, m2, m3, m4⟩ := mut_mem b3 hm
  have hef : e = f := sin_one hS he hf (by
    rw [m1] at h
    exact ((nI_eq (by omega) (by omega)).mp h).symm)
  subst hef
  exact ⟨m3, m4⟩
theorem mu_lt (hS : SIN p p' S) {a : Mtn} (ha : a ∈ MU S) : p ≤ a.1 ∧ a.1 < p' := by
  obtain ⟨e, he, hm⟩ := MU_mem ha
  obtain ⟨b1, b2, b3⟩ := hS.2.2 e he
  rw [(mut_mem b3 hm).1]
  exact ⟨b1, b2⟩
theorem uz_no {f : Ste} (h : f.1 < 60) : ¬ nI f.1 = (-1 : Int32) := nI_m1 (by omega)
theorem okn_mtm (hS : SIN p p' S) (h60 : p' ≤ 60) (j : Nat) : OKN8 (mtm (MU S) j) S := by
  intro f hf
  obtain ⟨c1, c2, c3⟩ := hS.2.2 f hf
  refine ⟨by omega, c3, ?_⟩
  cases j with
  | zero => exact fun q => absurd q (uz_no (by omega))
  | succ j =>
    cases h : (MU S)[j]? with
    | none =>
      have : mtm (MU S) (j + 1) = uZ := by rw [mtm, h]
      rw [this]
      exact fun q => absurd q (uz_no (by omega))
    | some a =>
      rw [mtm_s h]
      exact fun q => (mut_ok hS h60 (List.mem_of_getElem? h) hf q).1
/-- of the class's list -/
theorem okh_mtu {mu : MuS} (hS : SIN p p' S) (h60 : p' ≤ 60) (hM : MuV mu (MU S)) (j : Nat) (hj : j ≤ (MU S).length) : OKH (mtu mu j) S := by
  refine ⟨fun f hf => ?_, hS.2.1⟩
  obtain ⟨c1, c2, c3⟩ := hS.2.2 f hf
  refine ⟨by omega, c3, ?_⟩
  cases j with
  | zero =>
    intro q
    rw [mtu, hM.2.1] at q
    exact absurd q (uz_no (by omega))
  | succ j =>
    have h : (MU S)[j]? = some (MU S)[j] := List.getElem?_eq_getElem (by omega)
    obtain ⟨q1, q2, q3⟩ := hM.2.2 j _ h
    rw [mtu, q1, q3]
    intro q q0
    have := (mut_ok hS h60 (List.mem_of_getElem? h) hf q).1 (by omega)
    rw [q0] at this
    exact this
theorem mtu_mtm {mu : MuS} (hM : MuV mu (MU S)) (j : Nat) (hj : j < (MU S).length) : mtu mu (j + 1) = mtm (MU S) (j + 1) := by
  have h : (MU S)[j]? = some (MU S)[j] := List.getElem?_eq_getElem hj
  obtain ⟨q1, q2, q3⟩ := hM.2.2 j _ h
  rw [mtm_s h, mtu, q1, q3]
end
theorem clf_ro {u : MTN} (d : Nat) (x : RoT d) (h : CLN u (sRo d x)) : fRo u d x = fRo uZ d x := by
  have := clf_flat (ff := fun u => fSt u d (fBSub u d)) (clf_st (d := d) (ff := fun u => fBSub u d) (clf_bsub d)) x h
  rw [fRo, fRo]
  rw [this]
/-- both lists' mutants fold alike -/
theorem mt_alike {mu : MuS} {x : RoT 4} {p p' : Nat} (hS : SIN p p' (sRo 4 x)) (h60 : p' ≤ 60) (hM : MuV mu (MU (sRo 4 x))) (j : Nat) (hj : j ≤ (MU (sRo 4 x)).length) : fRo (mtu mu j) 4 x = fRo (mtm (MU (sRo 4 x)) j) 4 x := by
  cases j with
  | zero =>
    refine (clf_ro 4 x (fun e he => ?_)).trans rfl
    obtain ⟨c1, c2, c3⟩ := hS.2.2 e he
    rw [mtu, hM.2.1]
    exact ⟨by omega, uz_no (by omega)⟩
  | succ j => rw [mtu_mtm hM j (by omega)]
/-! the sum over all mutants is the sum over all places -/
section
variable {u v : MTN} {α : Type}
theorem dty_u (h : u.1 = v.1) {S : List Ste} : dty u S = dty v S := by
  unfold dty
  rw [h]
theorem cu_mo (h : u.1 = v.1) {sf : α → List Ste} {cf : α → Nat} : cMo u sf cf = cMo v sf cf := by
  funext dv l
  induction l generalizing dv with
  | nil => rfl
  | cons q l ih => rw [cMo, cMo, ih, dty_u h, h]
theorem cu_ch (h : u.1 = v.1) {b : Bool} {sf : α → List Ste} {cf : α → Nat} : cCh u b sf cf = cCh v b sf cf := by
  funext x
  rw [cCh, cCh, cu_mo h, dty_u h]
theorem cu_j (h : u.1 = v.1) {b : Bool} {sf : α → List Ste} {wj : α → Nat} : cJ u b sf wj = cJ v b sf wj := by
  funext l
  induction l with
  | nil => rfl
  | cons x l ih => rw [cJ, cJ, ih, dty_u h]
theorem cu_row (h : u.1 = v.1) {b : Bool} {sf : α → List Ste} {cf wj : α → Nat} : cRow u b sf cf wj = cRow v b sf cf wj := by
  funext l
  rw [cRow, cRow, cu_j h]
end
section
variable {u v : MTN} {b : Bool}
theorem cu_fa (h : u.1 = v.1) {S : Type} {cf : S → Nat} : cFa u b cf = cFa v b cf := by
  funext x
  rcases x with x | y
  · show (if b || dty u (sLeaf x) then 1 else 0) = (if b || dty v (sLeaf x) then 1 else 0)
    rw [dty_u h]
  · rfl
theorem cu_sub (h : u.1 = v.1) : ∀ d, cSub u b d = cSub v b d := by
  intro d
  induction d with
  | zero => rfl
  | succ d ih => rw [cSub, cSub, ih, cu_fa h, cu_ch h, cu_ch h]
theorem cu_ex (h : u.1 = v.1) (d : Nat) : cEx u b d = cEx v b d := by
  unfold cEx cTe
  rw [cu_sub h, cu_fa h, cu_ch h, cu_ch h]
theorem cu_at (h : u.1 = v.1) {S : Type} {d : Nat} {cf : S → Nat} : cAt u b d cf = cAt v b d cf := by
  funext x
  rcases x with x | y
  · show cEx u b d x.1 + cEx u b d x.2.2.2 + (if b || dty u (sCm d x) then 1 else 0) = cEx v b d x.1 + cEx v b d x.2.2.2 + (if b || dty v (sCm d x) then 1 else 0)
    rw [dty_u h, cu_ex h]
  · rfl
theorem cu_csub (h : u.1 = v.1) : ∀ d, cCSub u b d = cCSub v b d := by
  intro d
  induction d with
  | zero => rfl
  | succ d ih => rw [cCSub, cCSub, ih, cu_at h, cu_ch h, cu_ch h]
theorem cu_co (h : u.1 = v.1) (d : Nat) : cCo u b d = cCo v b d := by
  unfold cCo cPa
  rw [cu_csub h, cu_at h, cu_ch h, cu_ch h]
theorem cu_sm (h : u.1 = v.1) (d : Nat) : cSm u b d = cSm v b d := by
  funext x
  rw [cSm, cSm, dty_u h]
  have : cIn u b d x = cIn v b d x := by
    obtain ⟨s, x⟩ := x
    rcases x with ⟨k, e⟩ | e | c
    · exact congrFun (cu_ex h d) e
    · exact congrFun (cu_ex h d) e
    · exact congrFun (cu_co h d) c
  rw [this]
theorem cu_st (h : u.1 = v.1) {S : Type} {d : Nat} {cf : S → Nat} : cSt u b d cf = cSt v b d cf := by
  funext x
  rcases x with x | y
  · exact congrFun (cu_sm h d) x
  · rfl
theorem cu_bsub (h : u.1 = v.1) : ∀ d, cBSub u b d = cBSub v b d := by
  intro d
  induction d with
  | zero => rfl
  | succ d ih =>
    funext x
    have hd := dty_u h (S := (sBSub (d + 1) x).tail)
    rw [cBSub, cBSub, ih, cu_st h, cu_row h, cu_co h]
    dsimp only
    rw [hd]
theorem cu_ro (h : u.1 = v.1) (d : Nat) : cRo u b d = cRo v b d := by
  funext l
  rw [cRo, cRo, cu_bsub h, cu_st h, cu_row h]
end
theorem sum_cst {β : Type} {L : List β} {f : β → Nat} {c : Nat} (h : ∀ a, a ∈ L → f a = c) : (L.map f).sum = L.length * c := by
  induction L with
  | nil => rw [List.length_nil, Nat.zero_mul]; rfl
  | cons a L ih =>
    rw [List.map_cons, List.sum_cons, List.length_cons, h a List.mem_cons_self, ih (fun b hb => h b (List.mem_cons_of_mem _ hb)), Nat.add_mul, Nat.one_mul]
    omega
theorem sum_mu {f : Nat → Nat} : ∀ S : List Ste, (∀ e, e ∈ S → SV e.2.1 e.2.2) → ((MU S).map (fun a => f a.1)).sum = Sg S f := by
  intro S
  induction S with
  | nil => intro _; rfl
  | cons e S ih =>
    intro h
    have hv := h e List.mem_cons_self
    rw [MU, List.flatMap_cons, List.map_append, List.sum_append, Sg, ← mutOf_len hv, ← sum_cst (f := fun a : Mtn => f a.1) (fun a ha => by rw [(mut_mem hv ha).1])]
    rw [← ih (fun a ha => h a (List.mem_cons_of_mem _ ha))]
    rfl
theorem mu_len {S : List Ste} (h : ∀ e, e ∈ S → SV e.2.1 e.2.2) : (MU S).length = muS S := by
  have := sum_mu (f := fun _ => 1) S h
  rw [sum_cst (c := 1) (fun a _ => rfl), Nat.mul_one] at this
  exact this
