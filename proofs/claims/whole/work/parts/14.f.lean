/-! RUNNING: whole trees -/
def CSH (cs : CoS) (i : Nat) (L : List Pce) : Prop := ∀ k p, L[k]? = some p → PcAt cs (i + k) p
def MKH (mK : MdK) (m : Nat) (L : List Mce) : Prop := ∀ k q, L[k]? = some q → MA mK (m + k) q
theorem CSH.app {cs : CoS} {i : Nat} {L M : List Pce} (h : CSH cs i (L ++ M)) : CSH cs i L ∧ CSH cs (i + L.length) M := by
  refine ⟨fun k p hk => h k p ?_, fun k p hk => ?_⟩
  · rw [List.getElem?_append_left (List.getElem?_eq_some_iff.mp hk).1]; exact hk
  · have := h (L.length + k) p (by rw [List.getElem?_append_right (Nat.le_add_right _ _), Nat.add_sub_cancel_left]; exact hk)
    rw [← Nat.add_assoc] at this
    exact this
theorem CSH.cons {cs : CoS} {i : Nat} {p : Pce} {L : List Pce} (h : CSH cs i (p :: L)) : PcAt cs i p ∧ CSH cs (i + 1) L := by
  refine ⟨h 0 p rfl, fun k q hk => ?_⟩
  have := h (k + 1) q hk
  rw [show i + (k + 1) = i + 1 + k by omega] at this
  exact this
theorem MKH.app {mK : MdK} {i : Nat} {L M : List Mce} (h : MKH mK i (L ++ M)) : MKH mK i L ∧ MKH mK (i + L.length) M := by
  refine ⟨fun k p hk => h k p ?_, fun k p hk => ?_⟩
  · rw [List.getElem?_append_left (List.getElem?_eq_some_iff.mp hk).1]; exact hk
  · have := h (L.length + k) p (by rw [List.getElem?_append_right (Nat.le_add_right _ _), Nat.add_sub_cancel_left]; exact hk)
    rw [← Nat.add_assoc] at this
    exact this
theorem MKH.cons {mK : MdK} {i : Nat} {p : Mce} {L : List Mce} (h : MKH mK i (p :: L)) : MA mK i p ∧ MKH mK (i + 1) L := by
  refine ⟨h 0 p rfl, fun k q hk => ?_⟩
  have := h (k + 1) q hk
  rw [show i + (k + 1) = i + 1 + k by omega] at this
  exact this
/-- the changed place is changed as it may be -/
def OKS (c : RC) (e : Ste) : Prop := e.1 < 60 ∧ SV e.2.1 e.2.2 ∧ (nI e.1 = c.2.1 → (e.2.1 = 0 → ∃ o, o ∈ arS ∧ c.2.2.1 = nI o) ∧ (e.2.1 = 2 → c.2.2.1 = nI (162 - e.2.2)))
def OKL (c : RC) (L : List Ste) : Prop := ∀ e, e ∈ L → OKS c e
theorem OKL.app {c : RC} {L M : List Ste} (h : OKL c (L ++ M)) : OKL c L ∧ OKL c M := ⟨fun e he => h e (List.mem_append_left _ he), fun e he => h e (List.mem_append_right _ he)⟩
theorem OKL.cons {c : RC} {e : Ste} {L : List Ste} (h : OKL c (e :: L)) : OKS c e ∧ OKL c L := ⟨h e List.mem_cons_self, fun a ha => h a (List.mem_cons_of_mem _ ha)⟩
theorem OKS.ar {c : RC} {s n : Nat} (h : OKS c (s, 0, n)) : ∃ o, o ∈ arS ∧ opv c s n = nI o := by
  unfold opv
  by_cases w : nI s = c.2.1
  · rw [if_pos w]
    exact (h.2.2 w).1 rfl
  · rw [if_neg w]
    rcases h.2.1 with ⟨_, h⟩ | ⟨h, _⟩ | ⟨h, _⟩ | ⟨h, _⟩ | ⟨h, _⟩
    · exact ⟨n, h, rfl⟩
    all_goals (dsimp only at h; omega)
theorem OKS.lg {c : RC} {s n : Nat} (h : OKS c (s, 2, n)) : (n = 38 ∨ n = 124) ∧ (nI s = c.2.1 → c.2.2.1 = nI (162 - n)) := by
  refine ⟨?_, fun w => (h.2.2 w).2 rfl⟩
  rcases h.2.1 with ⟨h, _⟩ | ⟨h, _⟩ | ⟨_, h⟩ | ⟨h, _⟩ | ⟨h, _⟩
  · dsimp only at h; omega
  · dsimp only at h; omega
  · unfold lgS at h
    simp only [List.mem_cons, List.not_mem_nil, or_false] at h
    exact h
  · dsimp only at h; omega
  · dsimp only at h; omega
/-- what stands around a run -/
def RUN (cs : CoS) (c : RC) (sz : Nat) : Prop := cs.2.2.2.2 = nI sz ∧ sz ≤ 80 ∧ MUR c ∧ c.1 ≤ 50
def SIM (cs : CoS) (mK : MdK) (c : RC) (sz : Nat) (val : Int32 → Prop) (dep : Nat) (jf : Nat → List Pce) (mf : Nat → List Mce) : Prop :=
  ∀ i m st bu a r, CSH cs i (jf i) → MKH mK m (mf m) → i + (jf i).length ≤ sz → m + (mf m).length < 512 → st.length + dep ≤ 32 → REL c i st bu a r → RES cs mK c (jf i).length bu a (nI m) r (PV c val (i + (jf i).length) (m + (mf m).length) st)
def SIN1 (cs : CoS) (mK : MdK) (c : RC) (sz : Nat) (dep : Nat) (jf : Nat → List Pce) (mf : Nat → List Mce) : Prop :=
  ∀ i m st bu a r, CSH cs i (jf i) → MKH mK m (mf m) → i + (jf i).length ≤ sz → m + (mf m).length < 512 → st.length + dep ≤ 32 → REL c i st bu a r → RES cs mK c (jf i).length bu a (nI m) r (PN c (i + (jf i).length) (m + (mf m).length) st)
theorem SIM.dep {cs : CoS} {mK : MdK} {c : RC} {sz : Nat} {val : Int32 → Prop} {d e : Nat} {jf : Nat → List Pce} {mf : Nat → List Mce} (h : SIM cs mK c sz val d jf mf) (he : d ≤ e) : SIM cs mK c sz val e jf mf := fun i m st bu a r h1 h2 h3 h4 h5 => h i m st bu a r h1 h2 h3 h4 (by omega)
theorem PV.at {c : RC} {val : Int32 → Prop} {i i' m m' : Nat} {st : List Int32} (hi : i = i') (hm : m = m') : ∀ bu a pc r, PV c val i m st bu a pc r → PV c val i' m' st bu a pc r := by subst hi hm; exact fun _ _ _ _ h => h
theorem PN.at {c : RC} {i i' m m' : Nat} {st : List Int32} (hi : i = i') (hm : m = m') : ∀ bu a pc r, PN c i m st bu a pc r → PN c i' m' st bu a pc r := by subst hi hm; exact fun _ _ _ _ h => h
theorem RES.burn {cs : CoS} {mK : MdK} {c : RC} {n n2 bu : Nat} {a a' : MaS} {pc pc' : Int32} {r r' : MdR} {post : Nat → MaS → Int32 → MdR → Prop} (h1 : CGO cs a a' 1) (h2 : MGO mK c pc r pc' r') (h : RES cs mK c n2 (bu + 1) a' pc' r' post) (hn : n2 + 1 ≤ n + 80) : RES cs mK c n bu a pc r post := by
  obtain ⟨k, a2, bu2, pc2, r2, e1, e2, e3, e4, e5⟩ := h
  exact ⟨1 + k, a2, bu2, pc2, r2, by omega, by omega, h1.trans e3, h2.trans e4, e5⟩
section
variable {cs : CoS} {mK : MdK} {c : RC} {sz : Nat} {α : Type}
theorem sm_moE {jg : α → List Pce} {mg : α → List Mce} {f : α → List Ste} {it : Nat → Nat → α → Prop} {op : Nat → Bool} {dep : Nat} (hR : RUN cs c sz) (hd : 1 ≤ dep) (h : ∀ x p p', it p p' x → OKL c (f x) → SIM cs mK c sz (fun _ => True) dep (fun _ => jg x) (fun _ => mg x)) :
    ∀ l p p', iMo it op p p' l → OKL c (sMo 0 f l) → ∀ i m v st bu a r, CSH cs i (jMoE jg l) → MKH mK m (mMoE mg l) → i + (jMoE jg l).length ≤ sz → m + (mMoE mg l).length < 512 → st.length + (dep + 1) ≤ 32 → REL c i (v :: st) bu a r → RES cs mK c (jMoE jg l).length bu a (nI m) r (PV c (fun _ => True) (i + (jMoE jg l).length) (m + (mMoE mg l).length) st) := by
  obtain ⟨hz, hsz, hM, hfu⟩ := hR
  intro l
  induction l with
  | nil => intro p p' hi ho i m v st bu a r h1 h2 h3 h4 h5 h6; exact RES.ret ⟨v, trivial, rfl, h6⟩
  | cons q l ih =>
    intro p p' hi ho i m v st bu a r h1 h2 h3 h4 h5 h6
    obtain ⟨_, _, pm, hi1, hi2⟩ := hi
    obtain ⟨s, n, x⟩ := q
    obtain ⟨o1, o2⟩ := ho.cons
    obtain ⟨o2, o3⟩ := o2.app
    rw [jMoE] at h1 h3 ⊢
    rw [mMoE] at h2 h4 ⊢
    dsimp only at h1 h2 h3 h4 o1 o2 ⊢
    obtain ⟨c1, c2⟩ := h1.app
    obtain ⟨c2, c3⟩ := c2.cons
    obtain ⟨m1, m2⟩ := h2.app
    obtain ⟨m2, m3⟩ := m2.cons
    simp only [List.length_append, List.length_cons] at h3 h4 ⊢
    obtain ⟨o, ho1, ho2⟩ := o1.ar
    have hx := h x _ _ hi1 o2
    unfold SIM at hx
    dsimp only at hx
    refine RES.wid (RES.bind (hx i m (v :: st) bu a r c1 m1 (by omega) (by omega) (by rw [List.length_cons]; omega) h6) (n2 := 1 + (jMoE jg l).length) ?_) (by omega) (fun _ _ _ _ _ h => h)
    intro bu' a' pc' r' hb ⟨u, _, e1, e2⟩
    subst e1
    refine RES.bind (i_apply hz hsz (by omega) (by omega) hM o1.1 ho1 ho2 c2 m2 (by omega) e2) ?_
    intro bu2 a2 pc2 r2 hb2 ⟨w, _, e3, e4⟩
    subst e3
    refine RES.wid (ih _ _ hi2 o3 _ _ w st bu2 a2 r2 c3 m3 (by omega) (by omega) h5 e4) (Nat.le_refl _) (fun bu a pc r _ => PV.at (by omega) (by omega) bu a pc r)
theorem sm_chE {jg : α → List Pce} {mg : α → List Mce} {f : α → List Ste} {it : Nat → Nat → α → Prop} {op : Nat → Bool} {dep : Nat} (hR : RUN cs c sz) (hd : 1 ≤ dep) (h : ∀ x p p', it p p' x → OKL c (f x) → SIM cs mK c sz (fun _ => True) dep (fun _ => jg x) (fun _ => mg x)) :
    ∀ x p p', iCh it op p p' x → OKL c (sCh 0 f x) → SIM cs mK c sz (fun _ => True) (dep + 1) (fun _ => jChE jg x) (fun _ => mChE mg x) := by
  intro x p p' hi ho i m st bu a r h1 h2 h3 h4 h5 h6
  obtain ⟨pm, hi1, hi2⟩ := hi
  obtain ⟨x, l⟩ := x
  obtain ⟨o1, o2⟩ := ho.app
  dsimp only at h1 h2 h3 h4 ⊢
  rw [jChE] at h1 h3 ⊢
  rw [mChE] at h2 h4 ⊢
  dsimp only at h1 h2 h3 h4 o1 o2 ⊢
  obtain ⟨c1, c2⟩ := h1.app
  obtain ⟨m1, m2⟩ := h2.app
  rw [List.length_append] at h3 h4 ⊢
  rw [List.length_append]
  have hx := h x _ _ hi1 o1
  unfold SIM at hx
  dsimp only at hx
  refine RES.bind (hx i m st bu a r c1 m1 (by omega) (by omega) (by omega) h6) ?_
  intro bu' a' pc' r' hb ⟨u, _, e1, e2⟩
  subst e1
  refine RES.wid (sm_moE hR hd h l _ _ hi2 o2 _ _ u st bu' a' r' c2 m2 (by omega) (by omega) h5 e2) (Nat.le_refl _) (fun bu a pc r _ => PV.at (by omega) (by omega) bu a pc r)
theorem sm_moC {jg : Nat → α → List Pce} {mg : Nat → α → List Mce} {f : α → List Ste} {it : Nat → Nat → α → Prop} {op : Nat → Bool} {dep : Nat} (hR : RUN cs c sz) (hd : 1 ≤ dep) (h : ∀ x p p', it p p' x → OKL c (f x) → SIM cs mK c sz (fun v => v = 0 ∨ v = 1) dep (fun i => jg i x) (fun m => mg m x)) :
    ∀ l p p', iMo it op p p' l → OKL c (sMo 2 f l) → ∀ i m v st bu a r, CSH cs i (jMoC jg i l) → MKH mK m (mMoC mg m l) → i + (jMoC jg i l).length ≤ sz → m + (mMoC mg m l).length < 512 → st.length + dep ≤ 32 → (v = 0 ∨ v = 1) → REL c i (v :: st) bu a r → RES cs mK c (jMoC jg i l).length bu a (nI m) r (PV c (fun v => v = 0 ∨ v = 1) (i + (jMoC jg i l).length) (m + (mMoC mg m l).length) st) := by
  obtain ⟨hz, hsz, hM, hfu⟩ := hR
  intro l
  induction l with
  | nil => intro p p' hi ho i m v st bu a r h1 h2 h3 h4 h5 hv h6; exact RES.ret ⟨v, hv, rfl, h6⟩
  | cons q l ih =>
    intro p p' hi ho i m v st bu a r h1 h2 h3 h4 h5 hv h6
    obtain ⟨_, _, pm, hi1, hi2⟩ := hi
    obtain ⟨s, n, x⟩ := q
    obtain ⟨o1, o2⟩ := ho.cons
    obtain ⟨o2, o3⟩ := o2.app
    rw [jMoC] at h1 h3 ⊢
    rw [mMoC] at h2 h4 ⊢
    dsimp only at h1 h2 h3 h4 o1 o2 ⊢
    rw [List.cons_append] at h1 h2 h3 h4 ⊢
    rw [List.cons_append]
    obtain ⟨c0, c1⟩ := h1.cons
    obtain ⟨c1, c2⟩ := c1.app
    obtain ⟨c2, c3⟩ := c2.cons
    obtain ⟨m0, m1⟩ := h2.cons
    obtain ⟨m1, m3⟩ := m1.app
    simp only [List.length_append, List.length_cons] at h3 h4 ⊢
    obtain ⟨ho1, ho2⟩ := o1.lg
    have rest : ∀ bu2 a2 r2 v, (v = 0 ∨ v = 1) → REL c (i + (jg (i + 1) x).length + 2) (v :: st) bu2 a2 r2 → RES cs mK c (jMoC jg (i + (jg (i + 1) x).length + 2) l).length bu2 a2 (nI (m + 1 + (mg (m + 1) x).length)) r2 (PV c (fun v => v = 0 ∨ v = 1) (i + ((jg (i + 1) x).length + ((jMoC jg (i + (jg (i + 1) x).length + 2) l).length + 1) + 1)) (m + ((mg (m + 1) x).length + (mMoC mg (m + 1 + (mg (m + 1) x).length) l).length + 1)) st) := by
      intro bu2 a2 r2 v hv hr
      have c3' : CSH cs (i + (jg (i + 1) x).length + 2) (jMoC jg (i + (jg (i + 1) x).length + 2) l) := by
        rw [show i + 1 + (jg (i + 1) x).length + 1 = i + (jg (i + 1) x).length + 2 by omega] at c3
        exact c3
      exact RES.wid (ih _ _ hi2 o3 _ _ v st bu2 a2 r2 c3' m3 (by omega) (by omega) h5 hv hr) (Nat.le_refl _) (fun bu a pc r _ => PV.at (by omega) (by omega) bu a pc r)
    refine RES.wid (RES.bind (i_dec hz hsz (by omega) (by omega) hM o1.1 ho1 ho2 c0 m0 (by omega) hv h6) (n2 := (jg (i + 1) x).length + (1 + (jMoC jg (i + (jg (i + 1) x).length + 2) l).length)) ?_) (by omega) (fun _ _ _ _ _ h => h)
    intro bu' a' pc' r' hb hp
    rcases hp with ⟨e1, e2⟩ | ⟨e1, e2⟩
    · subst e1
      exact RES.wid (rest bu' a' r' v hv e2) (by omega) (fun _ _ _ _ _ h => h)
    · subst e1
      have hx := h x _ _ hi1 o2
      unfold SIM at hx
      dsimp only at hx
      refine RES.bind (hx (i + 1) (m + 1) st bu' a' r' c1 m1 (by omega) (by omega) h5 e2) ?_
      intro bu2 a2 pc2 r2 hb2 ⟨w, hw, e3, e4⟩
      subst e3
      refine RES.bind (i_nop (.inl rfl) hz hsz (by omega) c2 e4) ?_
      intro bu3 a3 pc3 r3 hb3 ⟨e5, e6⟩
      subst e5
      refine rest bu3 a3 r3 w hw ?_
      rw [show i + 1 + (jg (i + 1) x).length + 1 = i + (jg (i + 1) x).length + 2 by omega] at e6
      exact e6
theorem sm_chC {jg : Nat → α → List Pce} {mg : Nat → α → List Mce} {f : α → List Ste} {it : Nat → Nat → α → Prop} {op : Nat → Bool} {dep : Nat} (hR : RUN cs c sz) (hd : 1 ≤ dep) (h : ∀ x p p', it p p' x → OKL c (f x) → SIM cs mK c sz (fun v => v = 0 ∨ v = 1) dep (fun i => jg i x) (fun m => mg m x)) :
    ∀ x p p', iCh it op p p' x → OKL c (sCh 2 f x) → SIM cs mK c sz (fun v => v = 0 ∨ v = 1) dep (fun i => jChC jg i x) (fun m => mChC mg m x) := by
  intro x p p' hi ho i m st bu a r h1 h2 h3 h4 h5 h6
  obtain ⟨pm, hi1, hi2⟩ := hi
  obtain ⟨x, l⟩ := x
  obtain ⟨o1, o2⟩ := ho.app
  dsimp only at h1 h2 h3 h4 ⊢
  rw [jChC] at h1 h3 ⊢
  rw [mChC] at h2 h4 ⊢
  dsimp only at h1 h2 h3 h4 o1 o2 ⊢
  obtain ⟨c1, c2⟩ := h1.app
  obtain ⟨m1, m2⟩ := h2.app
  rw [List.length_append] at h3 h4 ⊢
  rw [List.length_append]
  have hx := h x _ _ hi1 o1
  unfold SIM at hx
  dsimp only at hx
  refine RES.bind (hx i m st bu a r c1 m1 (by omega) (by omega) (by omega) h6) ?_
  intro bu' a' pc' r' hb ⟨u, hu, e1, e2⟩
  subst e1
  refine RES.wid (sm_moC hR hd h l _ _ hi2 o2 _ _ u st bu' a' r' c2 m2 (by omega) (by omega) h5 hu e2) (Nat.le_refl _) (fun bu a pc r _ => PV.at (by omega) (by omega) bu a pc r)
theorem sm_row {jg : Nat → α → List Pce} {mg : Nat → α → List Mce} {f : α → List Ste} {it : Nat → Nat → α → Prop} {dep : Nat} (h : ∀ x p p', it p p' x → OKL c (f x) → SIN1 cs mK c sz dep (fun i => jg i x) (fun m => mg m x)) :
    ∀ l p p', iRow it p p' l → OKL c (sRow f l) → SIN1 cs mK c sz dep (fun i => jRow jg i l) (fun m => mRow mg m l) := by
  intro l
  induction l with
  | nil => intro p p' hi ho i m st bu a r h1 h2 h3 h4 h5 h6; exact RES.ret ⟨rfl, h6⟩
  | cons x l ih =>
    intro p p' hi ho i m st bu a r h1 h2 h3 h4 h5 h6
    obtain ⟨pm, hi1, hi2⟩ := hi
    obtain ⟨o1, o2⟩ := ho.app
    dsimp only at h1 h2 h3 h4 ⊢
    rw [jRow] at h1 h3 ⊢
    rw [mRow] at h2 h4 ⊢
    obtain ⟨c1, c2⟩ := h1.app
    obtain ⟨m1, m2⟩ := h2.app
    rw [List.length_append] at h3 h4 ⊢
    rw [List.length_append]
    have hx := h x _ _ hi1 o1
    unfold SIN1 at hx
    dsimp only at hx
    refine RES.bind (hx i m st bu a r c1 m1 (by omega) (by omega) h5 h6) ?_
    intro bu' a' pc' r' hb ⟨e1, e2⟩
    subst e1
    have ih2 := ih _ _ hi2 o2
    unfold SIN1 at ih2
    dsimp only at ih2
    refine RES.wid (ih2 _ _ st bu' a' r' c2 m2 (by omega) (by omega) h5 e2) (Nat.le_refl _) (fun bu a pc r _ => PN.at (by omega) (by omega) bu a pc r)
end
