/-! RUNNING: by the grammar -/
section
variable {cs : CoS} {mK : MdK} {c : RC} {sz : Nat}
abbrev TT : Int32 → Prop := fun _ => True
abbrev BB : Int32 → Prop := fun v => v = 0 ∨ v = 1
theorem sm_leaf (hR : RUN cs c sz) : ∀ x p p', iLeaf p p' x → OKL c (sLeaf x) → SIM cs mK c sz TT 1 (fun _ => jLeaf x) (fun _ => mLeaf x) := by
  obtain ⟨hz, hsz, hM, hfu⟩ := hR
  intro x p p' hi ho i m st bu a r h1 h2 h3 h4 h5 h6
  dsimp only at h1 h2 h3 h4 ⊢
  rcases x with ⟨s, v⟩ | ⟨s, k⟩
  · have h3 : i + 1 ≤ sz := h3
    have h4 : m + 1 < 512 := h4
    exact i_const hz hsz (by omega) (by omega) hM (ho.cons.1).1 h1.cons.1 h2.cons.1 (by omega) h6
  · have h3 : i + 1 ≤ sz := h3
    have hk : k < 8 := hi.2.1
    have hq : MA mK m (if k < 6 then (4, k, 0) else (3, k + 114, 0)) := by
      rw [mLeaf] at h2
      split at h2
      · rename_i w
        rw [if_pos w]
        exact h2.cons.1
      · rename_i w
        rw [if_neg w]
        exact h2.cons.1
    have hl : (mLeaf (.inr (s, k))).length = 1 := by rw [mLeaf]; split <;> rfl
    rw [hl] at h4 ⊢
    exact i_load hz hsz (by omega) (by omega) hM hk h1.cons.1 hq (by omega) h6
theorem sm_fa {S : Type} {g : Nat → Nat → S → Prop} {jg : S → List Pce} {mg : S → List Mce} {f : S → List Ste} {dep : Nat} (hR : RUN cs c sz) (hd : 1 ≤ dep) (h : ∀ x p p', g p p' x → OKL c (f x) → SIM cs mK c sz TT dep (fun _ => jg x) (fun _ => mg x)) :
    ∀ x p p', iFa g p p' x → OKL c (sFa f x) → SIM cs mK c sz TT dep (fun _ => jFa jg x) (fun _ => mFa mg x) := by
  intro x p p' hi ho
  rcases x with x | y
  · exact (sm_leaf hR x p p' hi ho).dep hd
  · obtain ⟨p1, h1, h2⟩ := hi
    exact h y _ _ h1 ho
theorem sm_sub (hR : RUN cs c sz) : ∀ d x p p', iSub d p p' x → OKL c (sSub d x) → SIM cs mK c sz TT (1 + 2 * d) (fun _ => jSub d x) (fun _ => mSub d x) := by
  intro d
  induction d with
  | zero => intro x p p' hi; exact hi.elim
  | succ d ih =>
    have h1 := sm_chE (dep := 1 + 2 * d) hR (by omega) (sm_fa (mK := mK) hR (by omega) ih) (op := isMul)
    rw [show 1 + 2 * d + 1 = 2 + 2 * d by omega] at h1
    have h2 := sm_chE (dep := 2 + 2 * d) hR (by omega) h1 (op := isAdd)
    rw [show 2 + 2 * d + 1 = 1 + 2 * (d + 1) by omega] at h2
    exact h2
theorem sm_te (hR : RUN cs c sz) (d : Nat) : ∀ x p p', iTe d p p' x → OKL c (sTe d x) → SIM cs mK c sz TT (2 + 2 * d) (fun _ => jTe d x) (fun _ => mTe d x) := by
  have := sm_chE (dep := 1 + 2 * d) hR (by omega) (sm_fa (mK := mK) hR (by omega) (sm_sub hR d)) (op := isMul)
  rw [show 1 + 2 * d + 1 = 2 + 2 * d by omega] at this
  exact this
theorem sm_ex (hR : RUN cs c sz) (d : Nat) : ∀ x p p', iEx d p p' x → OKL c (sEx d x) → SIM cs mK c sz TT (3 + 2 * d) (fun _ => jEx d x) (fun _ => mEx d x) := by
  have := sm_chE (dep := 2 + 2 * d) hR (by omega) (sm_te (mK := mK) hR d) (op := isAdd)
  rw [show 2 + 2 * d + 1 = 3 + 2 * d by omega] at this
  exact this
theorem sm_cm (hR : RUN cs c sz) (d : Nat) : ∀ x p p', iCm d p p' x → OKL c (sCm d x) → SIM cs mK c sz BB (4 + 2 * d) (fun _ => jCm d x) (fun _ => mCm d x) := by
  intro x p p' hi ho i m st bu a r h1 h2 h3 h4 h5 h6
  obtain ⟨l, s, n, x⟩ := x
  obtain ⟨hi1, hi2, hi3⟩ := hi
  dsimp only at h1 h2 h3 h4 hi1 hi3 ⊢
  rw [sCm] at ho
  dsimp only at ho
  obtain ⟨o1, o2⟩ := ho.app
  obtain ⟨o2, o3⟩ := o2.cons
  rw [jCm] at h1 h3 ⊢
  rw [mCm] at h2 h4 ⊢
  dsimp only at h1 h2 h3 h4 ⊢
  rw [List.append_assoc] at h1 h2
  obtain ⟨c1, c2⟩ := h1.app
  obtain ⟨c2, c3⟩ := c2.app
  obtain ⟨m1, m2⟩ := h2.app
  obtain ⟨m2, m3⟩ := m2.app
  simp only [List.length_append, List.length_cons, List.length_nil] at h3 h4 ⊢
  have hl := sm_ex (mK := mK) hR d l _ _ hi1 o1
  have hx := sm_ex (mK := mK) hR d x _ _ hi3 o3
  unfold SIM at hl hx
  dsimp only at hl hx
  obtain ⟨hz, hsz, hM, hfu⟩ := hR
  refine RES.wid (RES.bind (hl i m st bu a r c1 m1 (by omega) (by omega) (by omega) h6) (n2 := (jEx d x).length + 1) ?_) (by omega) (fun _ _ _ _ _ h => h)
  intro bu' a' pc' r' hb ⟨u, _, e1, e2⟩
  subst e1
  refine RES.bind (hx _ _ (u :: st) bu' a' r' c2 m2 (by omega) (by omega) (by rw [List.length_cons]; omega) e2) ?_
  intro bu2 a2 pc2 r2 hb2 ⟨w, _, e3, e4⟩
  subst e3
  exact RES.wid (i_cmp hz hsz (by omega) (by omega) hM o2.1 c3.cons.1 m3.cons.1 (by omega) e4) (Nat.le_refl _) (fun bu a pc r _ => PV.at (by omega) (by omega) bu a pc r)
theorem sm_at {S : Type} {g : Nat → Nat → S → Prop} {jg : Nat → S → List Pce} {mg : Nat → S → List Mce} {f : S → List Ste} (hR : RUN cs c sz) (d : Nat) (h : ∀ x p p', g p p' x → OKL c (f x) → SIM cs mK c sz BB (4 + 2 * d) (fun i => jg i x) (fun m => mg m x)) :
    ∀ x p p', iAt d g p p' x → OKL c (sAt d f x) → SIM cs mK c sz BB (4 + 2 * d) (fun i => jAt d jg i x) (fun m => mAt d mg m x) := by
  intro x p p' hi ho
  rcases x with x | y
  · exact sm_cm hR d x p p' hi ho
  · obtain ⟨p1, h1, h2⟩ := hi
    exact h y _ _ h1 ho
theorem sm_csub (hR : RUN cs c sz) : ∀ d x p p', iCSub d p p' x → OKL c (sCSub d x) → SIM cs mK c sz BB (4 + 2 * d) (fun i => jCSub d i x) (fun m => mCSub d m x) := by
  intro d
  induction d with
  | zero => intro x p p' hi; exact hi.elim
  | succ d ih =>
    intro x p p' hi ho
    exact SIM.dep (sm_chC (dep := 4 + 2 * d) hR (by omega) (sm_chC (dep := 4 + 2 * d) hR (by omega) (sm_at hR d ih)) x p p' hi ho) (by omega)
theorem sm_co (hR : RUN cs c sz) (d : Nat) : ∀ x p p', iCo d p p' x → OKL c (sCo d x) → SIM cs mK c sz BB (4 + 2 * d) (fun i => jCo d i x) (fun m => mCo d m x) :=
  sm_chC (dep := 4 + 2 * d) hR (by omega) (sm_chC (dep := 4 + 2 * d) hR (by omega) (sm_at hR d (sm_csub hR d)))
theorem sm_sm (hR : RUN cs c sz) (d : Nat) : ∀ x p p', iSm d p p' x → OKL c (sSm d x) → SIN1 cs mK c sz (4 + 2 * d) (fun i => jSm d i x) (fun m => mSm d m x) := by
  intro x p p' hi ho i m st bu a r h1 h2 h3 h4 h5 h6
  obtain ⟨s, x⟩ := x
  obtain ⟨_, hi⟩ := hi
  dsimp only at h1 h2 h3 h4 hi ⊢
  obtain ⟨o1, o2⟩ := ho.cons
  have hR' := hR
  obtain ⟨hz, hsz, hM, hfu⟩ := hR
  rcases x with ⟨k, e⟩ | e | e
  · obtain ⟨hk, p1, hi1, _⟩ := hi
    have hx := sm_ex (mK := mK) hR' d e _ _ hi1 o2
    unfold SIM at hx
    dsimp only at hx
    obtain ⟨c0, c1⟩ := h1.cons
    obtain ⟨c1, c2⟩ := c1.app
    obtain ⟨m0, m1⟩ := h2.cons
    obtain ⟨m1, m2⟩ := m1.app
    have lj : (jSm d i (s, .inl (k, e))).length = (jEx d e).length + 2 := by rw [jSm]; simp only [List.length_cons, List.length_append, List.length_nil]
    have lm : (mSm d m (s, .inl (k, e))).length = (mEx d e).length + 2 := by rw [mSm]; simp only [List.length_cons, List.length_append, List.length_nil]
    rw [lj] at h3 ⊢
    rw [lm] at h4 ⊢
    refine RES.wid (RES.bind (i_beg hz hsz (by omega) (by omega) hM o1.1 c0 m0 h6) (n2 := (jEx d e).length + 1) ?_) (by omega) (fun _ _ _ _ _ h => h)
    intro bu' a' pc' r' hb hp
    rcases hp with ⟨e1, e2⟩ | ⟨e1, e2⟩
    · subst e1
      exact RES.ret (PN.at (by omega) (by omega) _ _ _ _ ⟨rfl, e2⟩)
    · subst e1
      refine RES.bind (hx _ _ st bu' a' r' c1 m1 (by omega) (by omega) (by omega) e2) ?_
      intro bu2 a2 pc2 r2 hb2 ⟨w, _, e3, e4⟩
      subst e3
      exact RES.wid (i_store hz hsz (by omega) (by omega) hM hk c2.cons.1 m2.cons.1 (by omega) e4) (Nat.le_refl _) (fun bu a pc r _ => PN.at (by omega) (by omega) bu a pc r)
  · obtain ⟨p1, hi1, _⟩ := hi
    have hx := sm_ex (mK := mK) hR' d e _ _ hi1 o2
    unfold SIM at hx
    dsimp only at hx
    obtain ⟨c0, c1⟩ := h1.cons
    obtain ⟨c1, c2⟩ := c1.app
    obtain ⟨m0, m1⟩ := h2.cons
    obtain ⟨m1, m2⟩ := m1.app
    have lj : (jSm d i (s, .inr (.inl e))).length = (jEx d e).length + 2 := by rw [jSm]; simp only [List.length_cons, List.length_append, List.length_nil]
    have lm : (mSm d m (s, .inr (.inl e))).length = (mEx d e).length + 2 := by rw [mSm]; simp only [List.length_cons, List.length_append, List.length_nil]
    rw [lj] at h3 ⊢
    rw [lm] at h4 ⊢
    refine RES.wid (RES.bind (i_beg hz hsz (by omega) (by omega) hM o1.1 c0 m0 h6) (n2 := (jEx d e).length + 1) ?_) (by omega) (fun _ _ _ _ _ h => h)
    intro bu' a' pc' r' hb hp
    rcases hp with ⟨e1, e2⟩ | ⟨e1, e2⟩
    · subst e1
      exact RES.ret (PN.at (by omega) (by omega) _ _ _ _ ⟨rfl, e2⟩)
    · subst e1
      refine RES.bind (hx _ _ st bu' a' r' c1 m1 (by omega) (by omega) (by omega) e2) ?_
      intro bu2 a2 pc2 r2 hb2 ⟨w, _, e3, e4⟩
      subst e3
      exact i_ret hz hsz (by omega) (by omega) hM c2.cons.1 m2.cons.1 (by omega) e4
  · obtain ⟨p1, hi1, _⟩ := hi
    have hx := sm_co (mK := mK) hR' d e _ _ hi1 o2
    unfold SIM at hx
    dsimp only at hx
    obtain ⟨c0, c1⟩ := h1.cons
    obtain ⟨c1, c2⟩ := c1.app
    obtain ⟨m0, m1⟩ := h2.cons
    obtain ⟨m1, m2⟩ := m1.app
    have lj : (jSm d i (s, .inr (.inr e))).length = (jCo d (i + 1) e).length + 2 := by rw [jSm]; simp only [List.length_cons, List.length_append, List.length_nil]
    have lm : (mSm d m (s, .inr (.inr e))).length = (mCo d (m + 1) e).length + 2 := by rw [mSm]; simp only [List.length_cons, List.length_append, List.length_nil]
    rw [lj] at h3 ⊢
    rw [lm] at h4 ⊢
    refine RES.wid (RES.bind (i_beg hz hsz (by omega) (by omega) hM o1.1 c0 m0 h6) (n2 := (jCo d (i + 1) e).length + 1) ?_) (by omega) (fun _ _ _ _ _ h => h)
    intro bu' a' pc' r' hb hp
    rcases hp with ⟨e1, e2⟩ | ⟨e1, e2⟩
    · subst e1
      exact RES.ret (PN.at (by omega) (by omega) _ _ _ _ ⟨rfl, e2⟩)
    · subst e1
      refine RES.bind (hx _ _ st bu' a' r' c1 m1 (by omega) (by omega) (by omega) e2) ?_
      intro bu2 a2 pc2 r2 hb2 ⟨w, _, e3, e4⟩
      subst e3
      exact RES.wid (i_check hz hsz (by omega) (by omega) hM c2.cons.1 m2.cons.1 (by omega) e4) (Nat.le_refl _) (fun bu a pc r _ => PN.at (by omega) (by omega) bu a pc r)
theorem sm_st {S : Type} {g : Nat → Nat → S → Prop} {jg : Nat → S → List Pce} {mg : Nat → S → List Mce} {f : S → List Ste} (hR : RUN cs c sz) (d : Nat) (h : ∀ x p p', g p p' x → OKL c (f x) → SIN1 cs mK c sz (4 + 2 * d) (fun i => jg i x) (fun m => mg m x)) :
    ∀ x p p', iSt d g p p' x → OKL c (sSt d f x) → SIN1 cs mK c sz (4 + 2 * d) (fun i => jSt d jg i x) (fun m => mSt d mg m x) := by
  intro x p p' hi ho
  rcases x with x | y
  · exact sm_sm hR d x p p' hi ho
  · exact h y p p' hi ho
end
