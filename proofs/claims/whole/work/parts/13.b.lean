/-! the sites, as the text goes: place, kind, what stands there -/
abbrev Ste : Type := Nat × Nat × Nat
def sLeaf : Leaf → List Ste
  | .inl (s, v) => [(s, 3, v)]
  | .inr _ => []
section
variable {α : Type}
def sMo (K : Nat) (f : α → List Ste) : List (Nat × Nat × α) → List Ste
  | [] => []
  | q :: l => (q.1, K, q.2.1) :: f q.2.2 ++ sMo K f l
def sCh (K : Nat) (f : α → List Ste) (x : Chn α) : List Ste := f x.1 ++ sMo K f x.2
def sRow (f : α → List Ste) : List α → List Ste
  | [] => []
  | x :: l => f x ++ sRow f l
end
def sFa {S : Type} (f : S → List Ste) : Leaf ⊕ S → List Ste
  | .inl x => sLeaf x
  | .inr y => f y
def sSub : (d : Nat) → SubT d → List Ste
  | 0 => fun _ => []
  | d + 1 => sCh 0 (sCh 0 (sFa (sSub d)))
def sTe (d : Nat) : TeT d → List Ste := sCh 0 (sFa (sSub d))
def sEx (d : Nat) : ExT d → List Ste := sCh 0 (sTe d)
def sCm (d : Nat) (x : CmT d) : List Ste := sEx d x.1 ++ (x.2.1, 1, x.2.2.1) :: sEx d x.2.2.2
def sAt {S : Type} (d : Nat) (f : S → List Ste) : CmT d ⊕ S → List Ste
  | .inl x => sCm d x
  | .inr y => f y
def sCSub : (d : Nat) → CSubT d → List Ste
  | 0 => fun _ => []
  | d + 1 => sCh 2 (sCh 2 (sAt d (sCSub d)))
def sPa (d : Nat) : PaT d → List Ste := sCh 2 (sAt d (sCSub d))
def sCo (d : Nat) : CoT d → List Ste := sCh 2 (sPa d)
def sSm (d : Nat) (x : SmT d) : List Ste := (x.1, 4, 0) :: (match x.2 with
  | .inl (_, e) => sEx d e
  | .inr (.inl e) => sEx d e
  | .inr (.inr c) => sCo d c)
def sSt {S : Type} (d : Nat) (f : S → List Ste) : SmT d ⊕ S → List Ste
  | .inl x => sSm d x
  | .inr y => f y
def sBSub : (d : Nat) → BSubT d → List Ste
  | 0 => fun _ => []
  | d + 1 => fun x => (x.1, 4, 0) :: (sCo (d + 1) x.2.1 ++ (match x.2.2 with
    | .inl (r1, r2) => sRow (sSt d (sBSub d)) r1 ++ sRow (sSt d (sBSub d)) (r2.getD [])
    | .inr r => sRow (sSt d (sBSub d)) r))
def sRo (d : Nat) : RoT d → List Ste := sRow (sSt d (sBSub d))
/-! they stand in order, between the ends -/
def arS : List Nat := [43, 45, 42, 47, 37]
def cmS : List Nat := [60, 62, 61, 35]
def lgS : List Nat := [38, 124]
def SV (k v : Nat) : Prop := k = 0 ∧ v ∈ arS ∨ k = 1 ∧ v ∈ cmS ∨ k = 2 ∧ v ∈ lgS ∨ k = 3 ∧ v ≤ 99 ∨ k = 4 ∧ v = 0
def SIN (p p' : Nat) (L : List Ste) : Prop := p ≤ p' ∧ L.Pairwise (fun a b => a.1 < b.1) ∧ ∀ e, e ∈ L → p ≤ e.1 ∧ e.1 < p' ∧ SV e.2.1 e.2.2
theorem SIN.nil {p p' : Nat} (h : p ≤ p') : SIN p p' [] := ⟨h, List.Pairwise.nil, fun e he => by cases he⟩
theorem SIN.app {p p1 p' : Nat} {L M : List Ste} (h1 : SIN p p1 L) (h2 : SIN p1 p' M) : SIN p p' (L ++ M) := by
  refine ⟨Nat.le_trans h1.1 h2.1, List.pairwise_append.mpr ⟨h1.2.1, h2.2.1, fun a ha b hb => ?_⟩, fun e he => ?_⟩
  · have := (h1.2.2 a ha).2.1
    have := (h2.2.2 b hb).1
    omega
  · rcases List.mem_append.mp he with h | h
    · obtain ⟨a, b, c⟩ := h1.2.2 e h
      have := h2.1
      exact ⟨a, by omega, c⟩
    · obtain ⟨a, b, c⟩ := h2.2.2 e h
      have := h1.1
      exact ⟨by omega, b, c⟩
theorem SIN.wid {p q p' q' : Nat} {L : List Ste} (h : SIN q q' L) (h1 : p ≤ q) (h2 : q' ≤ p') : SIN p p' L := ⟨by have := h.1; omega, h.2.1, fun e he => by obtain ⟨a, b, c⟩ := h.2.2 e he; exact ⟨by omega, by omega, c⟩⟩
theorem SIN.one {p : Nat} {k v : Nat} (hv : SV k v) : SIN p (p + 1) [(p, k, v)] := ⟨by omega, List.pairwise_singleton _ _, fun e he => by rw [List.mem_singleton] at he; subst he; exact ⟨Nat.le_refl _, Nat.lt_succ_self _, hv⟩⟩
theorem SIN.cons {p p' k v : Nat} {L : List Ste} (hv : SV k v) (h : SIN (p + 1) p' L) : SIN p p' ((p, k, v) :: L) := SIN.app (L := [(p, k, v)]) (SIN.one hv) h
theorem sv_add {c : Nat} (h : isAdd c = true) : SV 0 c := by
  refine .inl ⟨rfl, ?_⟩
  unfold isAdd at h
  simp only [Bool.or_eq_true, beq_iff_eq] at h
  rcases h with rfl | rfl <;> decide
theorem sv_mul {c : Nat} (h : isMul c = true) : SV 0 c := by
  refine .inl ⟨rfl, ?_⟩
  unfold isMul at h
  simp only [Bool.or_eq_true, beq_iff_eq] at h
  rcases h with (rfl | rfl) | rfl <;> decide
theorem sv_cmp {c : Nat} (h : isCmp c = true) : SV 1 c := by
  refine .inr (.inl ⟨rfl, ?_⟩)
  unfold isCmp at h
  simp only [Bool.or_eq_true, beq_iff_eq] at h
  rcases h with ((rfl | rfl) | rfl) | rfl <;> decide
theorem sv_and {c : Nat} (h : (c == 38) = true) : SV 2 c := by
  simp only [beq_iff_eq] at h
  subst h
  exact .inr (.inr (.inl ⟨rfl, by decide⟩))
theorem sv_or {c : Nat} (h : (c == 124) = true) : SV 2 c := by
  simp only [beq_iff_eq] at h
  subst h
  exact .inr (.inr (.inl ⟨rfl, by decide⟩))
theorem sv_st : SV 4 0 := .inr (.inr (.inr (.inr ⟨rfl, rfl⟩)))
section
variable {α : Type} {it : Nat → Nat → α → Prop} {f : α → List Ste}
theorem sin_mo {K : Nat} {op : Nat → Bool} (ho : ∀ {c}, op c = true → SV K c) (h : ∀ p p' x, it p p' x → SIN p p' (f x)) : ∀ l p p', iMo it op p p' l → SIN p p' (sMo K f l) := by
  intro l
  induction l with
  | nil => intro p p' hi; exact SIN.nil (Nat.le_of_eq hi)
  | cons q l ih =>
    intro p p' hi
    obtain ⟨h1, h2, p1, h3, h4⟩ := hi
    obtain ⟨s, c, x⟩ := q
    dsimp only at h1
    subst h1
    exact SIN.app (SIN.cons (ho h2) (h _ _ _ h3)) (ih _ _ h4)
theorem sin_ch {K : Nat} {op : Nat → Bool} (ho : ∀ {c}, op c = true → SV K c) (h : ∀ p p' x, it p p' x → SIN p p' (f x)) : ∀ p p' x, iCh it op p p' x → SIN p p' (sCh K f x) := by
  intro p p' x hi
  obtain ⟨p1, h1, h2⟩ := hi
  exact SIN.app (h _ _ _ h1) (sin_mo ho h _ _ _ h2)
theorem sin_row (h : ∀ p p' x, it p p' x → SIN p p' (f x)) : ∀ l p p', iRow it p p' l → SIN p p' (sRow f l) := by
  intro l
  induction l with
  | nil => intro p p' hi; exact SIN.nil (Nat.le_of_eq hi)
  | cons x l ih =>
    intro p p' hi
    obtain ⟨p1, h3, h4⟩ := hi
    exact SIN.app (h _ _ _ h3) (ih _ _ h4)
theorem sin_blk (h : ∀ p p' x, it p p' x → SIN p p' (f x)) : ∀ l p p', iBlk it p p' l → SIN p p' (sRow f l) := by
  intro l p p' hi
  obtain ⟨p1, h1, h2⟩ := hi
  exact (sin_row h _ _ _ h1).wid (by omega) (by omega)
end
theorem sin_leaf : ∀ p p' x, iLeaf p p' x → SIN p p' (sLeaf x) := by
  intro p p' x h
  rcases x with ⟨s, v⟩ | ⟨s, k⟩
  · obtain ⟨rfl, h1, h2, h3⟩ := h
    exact (SIN.one (.inr (.inr (.inr (.inl ⟨rfl, h1⟩))))).wid (by omega) (by omega)
  · obtain ⟨rfl, h1, h2⟩ := h
    exact SIN.nil (by omega)
theorem sin_fa {S : Type} {g : Nat → Nat → S → Prop} {f : S → List Ste} (h : ∀ p p' x, g p p' x → SIN p p' (f x)) : ∀ p p' x, iFa g p p' x → SIN p p' (sFa f x) := by
  intro p p' x hi
  rcases x with x | y
  · exact sin_leaf _ _ _ hi
  · obtain ⟨p1, h1, h2⟩ := hi
    exact (h _ _ _ h1).wid (by omega) (by omega)
theorem sin_sub : ∀ d p p' x, iSub d p p' x → SIN p p' (sSub d x) := by
  intro d
  induction d with
  | zero => intro p p' x h; exact h.elim
  | succ d ih => exact sin_ch sv_add (sin_ch sv_mul (sin_fa ih))
theorem sin_ex (d : Nat) : ∀ p p' x, iEx d p p' x → SIN p p' (sEx d x) := sin_ch sv_add (sin_ch sv_mul (sin_fa (sin_sub d)))
theorem sin_cm (d : Nat) : ∀ p p' x, iCm d p p' x → SIN p p' (sCm d x) := by
  intro p p' x h
  exact SIN.app (sin_ex d _ _ _ h.1) (SIN.cons (sv_cmp h.2.1) (sin_ex d _ _ _ h.2.2))
theorem sin_at {S : Type} (d : Nat) {g : Nat → Nat → S → Prop} {f : S → List Ste} (h : ∀ p p' x, g p p' x → SIN p p' (f x)) : ∀ p p' x, iAt d g p p' x → SIN p p' (sAt d f x) := by
  intro p p' x hi
  rcases x with x | y
  · exact sin_cm d _ _ _ hi
  · obtain ⟨p1, h1, h2⟩ := hi
    exact (h _ _ _ h1).wid (by omega) (by omega)
theorem sin_csub : ∀ d p p' x, iCSub d p p' x → SIN p p' (sCSub d x) := by
  intro d
  induction d with
  | zero => intro p p' x h; exact h.elim
  | succ d ih => exact sin_ch sv_or (sin_ch sv_and (sin_at d ih))
theorem sin_co (d : Nat) : ∀ p p' x, iCo d p p' x → SIN p p' (sCo d x) := sin_ch sv_or (sin_ch sv_and (sin_at d (sin_csub d)))
theorem sin_sm (d : Nat) : ∀ p p' x, iSm d p p' x → SIN p p' (sSm d x) := by
  intro p p' x h
  obtain ⟨s, x⟩ := x
  obtain ⟨h0, h⟩ := h
  dsimp only at h0 h
  subst h0
  rcases x with ⟨k, e⟩ | e | c
  · obtain ⟨_, p1, h1, h2⟩ := h
    exact SIN.cons sv_st ((sin_ex d _ _ _ h1).wid (by omega) (by omega))
  · obtain ⟨p1, h1, h2⟩ := h
    exact SIN.cons sv_st ((sin_ex d _ _ _ h1).wid (by omega) (by omega))
  · obtain ⟨p1, h1, h2⟩ := h
    exact SIN.cons sv_st ((sin_co d _ _ _ h1).wid (by omega) (by omega))
theorem sin_st {S : Type} (d : Nat) {g : Nat → Nat → S → Prop} {f : S → List Ste} (h : ∀ p p' x, g p p' x → SIN p p' (f x)) : ∀ p p' x, iSt d g p p' x → SIN p p' (sSt d f x) := by
  intro p p' x hi
  rcases x with x | y
  · exact sin_sm d _ _ _ hi
  · exact h _ _ _ hi
theorem sin_bsub : ∀ d p p' x, iBSub d p p' x → SIN p p' (sBSub d x) := by
  intro d
  induction d with
  | zero => intro p p' x h; exact h.elim
  | succ d ih =>
    intro p p' x h
    obtain ⟨s, c, x⟩ := x
    obtain ⟨h0, p1, h1, h⟩ := h
    dsimp only at h0 h1 h
    subst h0
    have k := sin_co (d + 1) _ _ _ h1
    rcases x with ⟨r, _ | t⟩ | r
    · have := SIN.cons (k := 4) (v := 0) sv_st (SIN.app k (sin_blk (sin_st d ih) _ _ _ h))
      show SIN _ _ (_ :: (sCo (d + 1) c ++ (sRow (sSt d (sBSub d)) r ++ [])))
      rw [List.append_nil]
      exact this
    · obtain ⟨p2, h2, h3⟩ := h
      exact SIN.cons (k := 4) (v := 0) sv_st (SIN.app k (SIN.app (sin_blk (sin_st d ih) _ _ _ h2) (sin_blk (sin_st d ih) _ _ _ h3)))
    · exact SIN.cons (k := 4) (v := 0) sv_st (SIN.app k (sin_blk (sin_st d ih) _ _ _ h))
theorem sin_ro (d : Nat) : ∀ p p' x, iRo d p p' x → SIN p p' (sRo d x) := fun p p' x h => sin_row (sin_st d (sin_bsub d)) _ _ _ h
/-! they are the class's pieces, and the model's nodes, in another order -/
def jS (q : Pce) : Option Ste := if q.1 ≤ 4 then some (q.2.1, q.1, q.2.2.1) else none
theorem jS_pl {L M : List Pce} {P Q : List Ste} (h1 : (L.filterMap jS).Perm P) (h2 : (M.filterMap jS).Perm Q) : ((L ++ M).filterMap jS).Perm (P ++ Q) := by
  rw [List.filterMap_append]
  exact h1.append h2
section
variable {α : Type}
theorem pj_moE {g : α → List Pce} {f : α → List Ste} (h : ∀ x, ((g x).filterMap jS).Perm (f x)) : ∀ l, ((jMoE g l).filterMap jS).Perm (sMo 0 f l) := by
  intro l
  induction l with
  | nil => exact List.Perm.refl _
  | cons q l ih =>
    rw [jMoE, sMo, List.filterMap_append, List.cons_append]
    refine (((h q.2.2).append (List.Perm.cons (q.1, 0, q.2.1) ih))).trans ?_
    exact List.perm_middle
theorem pj_chE {g : α → List Pce} {f : α → List Ste} (h : ∀ x, ((g x).filterMap jS).Perm (f x)) : ∀ x, ((jChE g x).filterMap jS).Perm (sCh 0 f x) := fun x => jS_pl (h x.1) (pj_moE h x.2)
theorem pj_moC {g : Nat → α → List Pce} {f : α → List Ste} (h : ∀ i x, ((g i x).filterMap jS).Perm (f x)) : ∀ l i, ((jMoC g i l).filterMap jS).Perm (sMo 2 f l) := by
  intro l
  induction l with
  | nil => intro i; exact List.Perm.refl _
  | cons q l ih =>
    intro i
    rw [jMoC, sMo, List.cons_append, List.cons_append]
    refine List.Perm.cons _ ?_
    exact jS_pl (M := (6, q.1, q.2.1, 0) :: _) (h _ _) (ih _)
theorem pj_chC {g : Nat → α → List Pce} {f : α → List Ste} (h : ∀ i x, ((g i x).filterMap jS).Perm (f x)) : ∀ i x, ((jChC g i x).filterMap jS).Perm (sCh 2 f x) := fun i x => jS_pl (h i x.1) (pj_moC h x.2 _)
theorem pj_row {g : Nat → α → List Pce} {f : α → List Ste} (h : ∀ i x, ((g i x).filterMap jS).Perm (f x)) : ∀ l i, ((jRow g i l).filterMap jS).Perm (sRow f l) := by
  intro l
  induction l with
  | nil => intro i; exact List.Perm.refl _
  | cons x l ih => intro i; exact jS_pl (h _ _) (ih _)
end
theorem pj_fa {S : Type} {g : S → List Pce} {f : S → List Ste} (h : ∀ x, ((g x).filterMap jS).Perm (f x)) : ∀ x, ((jFa g x).filterMap jS).Perm (sFa f x) := by
  intro x
  rcases x with ⟨s, v⟩ | y
  · exact List.Perm.refl _
  · rename_i y
    exact List.Perm.refl _
  · exact h _
theorem pj_sub : ∀ d x, ((jSub d x).filterMap jS).Perm (sSub d x) := by
  intro d
  induction d with
  | zero => intro x; exact List.Perm.refl _
  | succ d ih => exact pj_chE (pj_chE (pj_fa ih))
theorem pj_ex (d : Nat) : ∀ x, ((jEx d x).filterMap jS).Perm (sEx d x) := pj_chE (pj_chE (pj_fa (pj_sub d)))
theorem pj_cm (d : Nat) : ∀ x, ((jCm d x).filterMap jS).Perm (sCm d x) := by
  intro x
  rw [jCm, sCm, List.filterMap_append, List.filterMap_append, List.append_assoc]
  refine (pj_ex d x.1).append ?_
  refine ((pj_ex d x.2.2.2).append (List.Perm.refl [(x.2.1, 1, x.2.2.1)])).trans ?_
  exact List.perm_append_comm
theorem pj_at {S : Type} (d : Nat) {g : Nat → S → List Pce} {f : S → List Ste} (h : ∀ i x, ((g i x).filterMap jS).Perm (f x)) : ∀ i x, ((jAt d g i x).filterMap jS).Perm (sAt d f x) := by
  intro i x
  rcases x with x | y
  · exact pj_cm d x
  · exact h i y
theorem pj_csub : ∀ d i x, ((jCSub d i x).filterMap jS).Perm (sCSub d x) := by
  intro d
  induction d with
  | zero => intro i x; exact List.Perm.refl _
  | succ d ih => exact pj_chC (pj_chC (pj_at d ih))
theorem pj_co (d : Nat) : ∀ i x, ((jCo d i x).filterMap jS).Perm (sCo d x) := pj_chC (pj_chC (pj_at d (pj_csub d)))
theorem pj_nil {L : List Pce} {w s n j : Nat} {P : List Ste} (h : (L.filterMap jS).Perm P) (hw : 4 < w) : ((L ++ [(w, s, n, j)]).filterMap jS).Perm P := by
  rw [List.filterMap_append]
  have : List.filterMap jS [(w, s, n, j)] = [] := by
    rw [List.filterMap_cons_none]
    · rfl
    · exact if_neg (by dsimp only; omega)
  rw [this, List.append_nil]
  exact h
theorem pj_skip {L : List Pce} {w s n j : Nat} {P : List Ste} (h : (L.filterMap jS).Perm P) (hw : 4 < w) : (((w, s, n, j) :: L).filterMap jS).Perm P := by
  rw [List.filterMap_cons_none]
  · exact h
  · exact if_neg (by dsimp only; omega)
theorem pj_beg {L : List Pce} {s n j : Nat} {P : List Ste} (h : (L.filterMap jS).Perm P) : (((4, s, n, j) :: L).filterMap jS).Perm ((s, 4, n) :: P) := by
  rw [List.filterMap_cons_some (b := (s, 4, n))]
  · exact List.Perm.cons _ h
  · exact if_pos (Nat.le_refl 4)
theorem pj_sm (d : Nat) : ∀ i x, ((jSm d i x).filterMap jS).Perm (sSm d x) := by
  intro i x
  obtain ⟨s, x⟩ := x
  rcases x with ⟨k, e⟩ | e | c
  · exact pj_beg (pj_nil (pj_ex d e) (by omega))
  · exact pj_beg (pj_nil (pj_ex d e) (by omega))
  · exact pj_beg (pj_nil (pj_co d _ c) (by omega))
theorem pj_st {S : Type} (d : Nat) {g : Nat → S → List Pce} {f : S → List Ste} (h : ∀ i x, ((g i x).filterMap jS).Perm (f x)) : ∀ i x, ((jSt d g i x).filterMap jS).Perm (sSt d f x) := by
  intro i x
  rcases x with x | y
  · exact pj_sm d i x
  · exact h i y
theorem pj_bsub : ∀ d i x, ((jBSub d i x).filterMap jS).Perm (sBSub d x) := by
  intro d
  induction d with
  | zero => intro i x; exact List.Perm.refl _
  | succ d ih =>
    intro i x
    obtain ⟨s, c, x⟩ := x
    have hr := fun l i => pj_row (pj_st d ih) l i
    rcases x with ⟨r, t⟩ | r
    · rw [jBSub, sBSub]
      dsimp only
      simp only [List.cons_append, List.append_assoc]
      refine pj_beg (jS_pl (pj_co (d + 1) _ c) ?_)
      refine pj_skip (jS_pl (hr _ _) ?_) (by omega)
      exact pj_skip (pj_nil (hr _ _) (by omega)) (by omega)
    · rw [jBSub, sBSub]
      dsimp only
      simp only [List.cons_append, List.append_assoc]
      refine pj_beg (jS_pl (pj_co (d + 1) _ c) ?_)
      exact pj_skip (pj_nil (hr _ _) (by omega)) (by omega)
theorem pj_ro (d : Nat) : ∀ i x, ((jRo d i x).filterMap jS).Perm (sRo d x) := fun i x => pj_row (pj_st d (pj_bsub d)) x i
