/-! FOLDING in the reference: rows -/
/-- the same of a row: the last node is its list's -/
def MGR (N : Nat) (mQ : MdQ) (mN : MdN) (mL : MdL) (mm B nn : Nat) (b : Bool) (nf : Nat → List Nde) (c : Nat) (rZ r : List FT) (e : Prop) (L : List FT) : Prop :=
  ∀ m mH D cnt, NSH B mN m (nf m) → m + (nf m).length ≤ nn → CM mH D cnt → (b = false → ∀ R, R ∈ rZ → HAS D cnt R) → cnt + c ≤ 4200 →
    ∃ mH' D' cnt', FGM N mQ mN mL mm B mH m mH' (nf m).length ∧ CM mH' D' cnt' ∧ EXT D D' cnt ∧ cnt ≤ cnt' ∧ cnt' ≤ cnt + c ∧ (∀ R, R ∈ r → HAS D' cnt' R) ∧ (∀ j, j < m → mH'.2.2.2.2.2.2.2.1 j = mH.2.2.2.2.2.2.2.1 j) ∧ (e → 1 ≤ (nf m).length ∧ TMm D' cnt' (mH'.2.2.2.2.2.2.2.1 (m + (nf m).length - 1)) (lstT L))
section
variable {B : Nat} {α : Type}
theorem nRowI_len {nf : Nat → α → List Nde} : ∀ l m, (nRowI B nf m l).length = l.length := by
  intro l
  induction l with
  | nil => intro m; rfl
  | cons y l ih => intro m; rw [nRowI, List.length_cons, List.length_cons, ih]
theorem nLst_snoc {x : Int32} : ∀ R v m, nLst B v m (R ++ [x]) = nLst B v m R ++ [(11, x, (if R.length = 0 then v else nI (B + (m + R.length - 1))), 0, -1)] := by
  intro R
  induction R with
  | nil => intro v m; rfl
  | cons y R ih =>
    intro v m
    rw [List.cons_append, nLst, ih, nLst, List.cons_append, List.length_cons, if_neg (show ¬ R.length + 1 = 0 by omega)]
    by_cases w : R.length = 0
    · rw [if_pos w, w, show m + (0 + 1) - 1 = m by omega]
    · rw [if_neg w, show m + 1 + R.length - 1 = m + (R.length + 1) - 1 by omega]
/-- the rows of the statements behind one another are there -/
def RT (D : Nat → FT) (cnt : Nat) (mH : MdH) (nf : Nat → α → List Nde) (ff : α → List FT) : Nat → List α → Prop
  | _, [] => True
  | m, x :: l => 1 ≤ (nf m x).length ∧ TMm D cnt (mH.2.2.2.2.2.2.2.1 (m + (nf m x).length - 1)) (lstT (ff x)) ∧ RT D cnt mH nf ff (m + (nf m x).length) l
end
/-! a row that ends with a return stays as it is -/
def sufs : List FT → List FT
  | [] => []
  | A :: l => lstT (A :: l) :: sufs l
theorem jrq_ret {M : List FT} : ∀ L, cutR L = L → ¬ NOR L → jn L M = L ∧ ∀ R, R ∈ jrq L M → R ∈ sufs L := by
  intro L
  induction L with
  | nil => intro _ h; exact absurd (fun A hA => by cases hA) h
  | cons A L ih =>
    intro hc hn
    rw [cutR] at hc
    by_cases w : knd A = 6
    · rw [if_pos w] at hc
      injection hc with _ hL
      subst hL
      have : jn [A] M = [A] := if_pos w
      refine ⟨this, fun R hR => ?_⟩
      rw [jrq, this] at hR
      rw [sufs]
      exact hR
    · rw [if_neg w] at hc
      injection hc with _ hL
      obtain ⟨i1, i2⟩ := ih hL (fun q => hn (fun C hC => by
        rcases List.mem_cons.mp hC with hC | hC
        · rw [hC]; exact w
        · exact q C hC))
      have : jn (A :: L) M = A :: L := by
        rw [jn, i1]
        exact if_neg w
      refine ⟨this, fun R hR => ?_⟩
      rw [jrq, this] at hR
      rw [sufs]
      rcases List.mem_append.mp hR with hR | hR
      · exact List.mem_cons_of_mem _ (i2 R hR)
      · rw [List.mem_singleton.mp hR]
        exact List.mem_cons_self
theorem has_suf {mH : MdH} {D : Nat → FT} {cnt : Nat} (h : CM mH D cnt) : ∀ L x, NNL L → TMm D cnt x (lstT L) → ∀ R, R ∈ sufs L → HAS D cnt R := by
  intro L
  induction L with
  | nil => intro x _ _ R hR; cases hR
  | cons A L ih =>
    intro x hn hx R hR
    have hc := h.2.1
    obtain ⟨t, t1, t2, t3, t4⟩ := m_lst h hx (hn A List.mem_cons_self)
    rw [sufs] at hR
    rcases List.mem_cons.mp hR with hR | hR
    · rw [hR]
      exact (hx.te (by omega) nde_nil).has
    · exact ih _ (fun C hC => hn C (List.mem_cons_of_mem _ hC)) t4 R hR
section
variable {N : Nat} {mQ : MdQ} {mN : MdN} {mL : MdL} {mm B nn : Nat} {u : MTN} {b : Bool} {α : Type}
theorem g_rowS {it : Nat → Nat → α → Prop} {nf : Nat → α → List Nde} {sf : α → List Ste} {cf wf : α → Nat} {ff rf : MTN → α → List FT}
    (h : ∀ x, IW it x → OKN8 u (sf x) → wf x ≤ 60 → MGS N mQ mN mL mm B nn b (fun m => nf m x) (cf x) (rf uZ x) (rf u x) (ff u x)) :
    ∀ l, IW (iRow it) l → OKN8 u (sRow sf l) → kRw wf l ≤ 60 → ∀ m mH D cnt, NSH B mN m (nRowS B nf m l) → m + (nRowS B nf m l).length ≤ nn → CM mH D cnt → (b = false → ∀ R, R ∈ fFlat (rf uZ) l → HAS D cnt R) → cnt + kRw cf l ≤ 4200 →
      ∃ mH' D' cnt', FGM N mQ mN mL mm B mH m mH' (nRowS B nf m l).length ∧ CM mH' D' cnt' ∧ EXT D D' cnt ∧ cnt ≤ cnt' ∧ cnt' ≤ cnt + kRw cf l ∧ (∀ R, R ∈ fFlat (rf u) l → HAS D' cnt' R) ∧ (∀ j, j < m → mH'.2.2.2.2.2.2.2.1 j = mH.2.2.2.2.2.2.2.1 j) ∧ RT D' cnt' mH' nf (ff u) m l := by
  intro l
  induction l with
  | nil =>
    intro _ _ _ m mH D cnt h1 h2 h3 h4 h5
    exact ⟨mH, D, cnt, FGM.refl, h3, EXT.refl, Nat.le_refl _, Nat.le_add_right _ _, fun R hR => (by cases hR), fun j hj => rfl, trivial⟩
  | cons x l ih =>
    intro hi ho hw m mH D cnt h1 h2 h3 h4 h5
    obtain ⟨p, p', p1, i1, i2⟩ := hi
    rw [sRow] at ho
    obtain ⟨o1, o2⟩ := ho.app
    rw [kRw] at hw h5 ⊢
    rw [nRowS] at h1 h2 ⊢
    obtain ⟨c1, c2⟩ := h1.app
    rw [List.length_append] at h2 ⊢
    obtain ⟨mH1, D1, cnt1, a1, a2, a3, a4, a5, a6, a7, a8, a9⟩ := h x ⟨p, p1, i1⟩ o1 (by omega) m mH D cnt c1 (by dsimp only; omega) h3 (fun w R hR => h4 w R (by rw [fFlat]; exact List.mem_append_left _ hR)) (by omega)
    dsimp only at a1 a2 a9
    obtain ⟨mH2, D2, cnt2, b1, b2, b3, b4, b5, b6, b7, b8⟩ := ih ⟨p1, p', i2⟩ o2 (by omega) (m + (nf m x).length) mH1 D1 cnt1 c2 (by omega) a3 (fun w R hR => (h4 w R (by rw [fFlat]; exact List.mem_append_right _ hR)).ext a4 a5) (by omega)
    have hc := a3.2.1
    refine ⟨mH2, D2, cnt2, a1.trans b1, b2, a4.trans b3 a5, by omega, by omega, ?_, ?_, a2, ?_, b8⟩
    · intro R hR
      rw [fFlat] at hR
      rcases List.mem_append.mp hR with hR | hR
      · exact (a7 R hR).ext b3 b4
      · exact b6 R hR
    · intro j hj
      rw [b7 j (by omega), a8 j hj]
    · rw [b7 _ (by omega)]
      exact a9.ext (by omega) b3 b4
theorem g_lst {nf : Nat → α → List Nde} {sf : α → List Ste} {wf wj : α → Nat} {ff : MTN → α → List FT} (hE : EN8 N mQ mN mL mm B nn u) (hcl : ∀ x, CLN u (sf x) → ff u x = ff uZ x) (hln : ∀ x, (ff u x).length ≤ wf x) (hwj : ∀ x, CRW (ff u x) (wj x)) (hnn : ∀ x, NNL (ff u x)) :
    ∀ l m, OKN8 u (sRow sf l) → kRw wf l ≤ 60 → ∀ m' mH D cnt, RT D cnt mH nf (ff u) m l → m + (nRowS B nf m l).length ≤ m' → NSH B mN m' (nLst B (-1) m' (nRowI B nf m l).reverse) → m' + l.length ≤ nn → CM mH D cnt → (b = false → ∀ R, R ∈ rJ (ff uZ) l → HAS D cnt R) → cnt + cJ u b sf wj l ≤ 4200 →
      ∃ mH' D' cnt', FGM N mQ mN mL mm B mH m' mH' l.length ∧ CM mH' D' cnt' ∧ EXT D D' cnt ∧ cnt ≤ cnt' ∧ cnt' ≤ cnt + cJ u b sf wj l ∧ (∀ R, R ∈ rJ (ff u) l → HAS D' cnt' R) ∧ (∀ j, j < m' → mH'.2.2.2.2.2.2.2.1 j = mH.2.2.2.2.2.2.2.1 j) ∧ (l ≠ [] → TMm D' cnt' (mH'.2.2.2.2.2.2.2.1 (m' + l.length - 1)) (lstT (cutR (fFlat (ff u) l)))) := by
  have hEE := hE
  obtain ⟨e1, e2, e3, e4, e5, e6, e7⟩ := hEE
  intro l
  induction l with
  | nil =>
    intro m _ _ m' mH D cnt h1 h2 h3 h4 h5 h6 h7
    exact ⟨mH, D, cnt, FGM.refl, h5, EXT.refl, Nat.le_refl _, Nat.le_add_right _ _, fun R hR => (by cases hR), fun j hj => rfl, fun q => absurd rfl q⟩
  | cons x l ih =>
    intro m ho hw m' mH D cnt h1 h2 h3 h4 h5 h6 h7
    have hoo := ho
    rw [sRow] at hoo
    obtain ⟨o1, o2⟩ := hoo.app
    rw [kRw] at hw
    rw [nRowS, List.length_append] at h2
    rw [nRowI, List.reverse_cons, nLst_snoc] at h3
    rw [cJ] at h7 ⊢
    rw [List.length_cons] at h4 ⊢
    obtain ⟨t1, t2, t3⟩ := h1
    obtain ⟨c1, c2⟩ := h3.app
    rw [nLst_len, List.length_reverse, nRowI_len] at c2
    obtain ⟨mH1, D1, cnt1, a1, a2, a3, a4, a5, a6, a7, a8⟩ := ih (m + (nf m x).length) o2 (by omega) m' mH D cnt t3 (by omega) c1 (by omega) h5 (fun w R hR => h6 w R (by rw [rJ]; exact List.mem_append_left _ hR)) (by omega)
    obtain ⟨r1, r2, r3, r4, r5⟩ := c2.one
    dsimp only at r1 r2 r3 r4 r5
    have hc0 := h5.2.1
    have hc1 := a2.2.1
    have hln1 := hln x
    have hbn := z_nat (n := B + (m' + l.length)) (by omega)
    have hx : TMm D1 cnt1 (mH1.2.2.2.2.2.2.2.1 (m + (nf m x).length - 1)) (lstT (ff u x)) := by
      rw [a7 _ (by omega)]
      exact t2.ext (by omega) a3 a4
    obtain ⟨y, hy1, hy2⟩ : ∃ y, f8_of (mN.2.2.2.1 (B + (m' + l.length))) mQ mH1 = some y ∧ TMm D1 cnt1 y (lstT (cutR (fFlat (ff u) l))) := by
      rw [r3]
      by_cases w : l.length = 0
      · rw [if_pos w]
        have : l = [] := List.length_eq_zero_iff.mp w
        subst this
        exact ⟨-1, m_of1, TMm.nil⟩
      · rw [if_neg w]
        exact ⟨_, m_ofn e1 (by omega) (by omega), a8 (fun q => w (by rw [q]; rfl))⟩
    have hbb : b = false → ∀ R, R ∈ rJ (ff uZ) (x :: l) → HAS D1 cnt1 R := fun w R hR => (h6 w R hR).ext a3 a4
    have hdd : dty u (sRow sf (x :: l)) = false → ∀ R, R ∈ jrq (ff u x) (cutR (fFlat (ff u) l)) → R ∈ rJ (ff uZ) (x :: l) := by
      intro w R hR
      have c := ho.cl w
      rw [sRow] at c
      obtain ⟨c3, c4⟩ := c.app
      rw [hcl x c3, clf_flat hcl l c4] at hR
      rw [rJ]
      exact List.mem_append_right _ hR
    have hdone : ∃ mH2 D2 cnt2, FGM N mQ mN mL mm B mH1 (m' + l.length) mH2 1 ∧ CM mH2 D2 cnt2 ∧ EXT D1 D2 cnt1 ∧ cnt1 ≤ cnt2 ∧ cnt2 ≤ cnt1 + (if (b || dty u (sRow sf (x :: l))) = true then wj x else 0) ∧ (∀ R, R ∈ jrq (ff u x) (cutR (fFlat (ff u) l)) → HAS D2 cnt2 R) ∧ (∀ i, i < m' + l.length → mH2.2.2.2.2.2.2.2.1 i = mH1.2.2.2.2.2.2.2.1 i) ∧ TMm D2 cnt2 (mH2.2.2.2.2.2.2.2.1 (m' + l.length)) (lstT (jn (ff u x) (cutR (fFlat (ff u) l)))) := by
      have mf := fun hok => m_n11 (w1 := 0) (w2 := mN.2.2.1 (B + (m' + l.length))) e7 a2 (v := nI (B + (m' + l.length))) (z_gd (by omega) (by omega)) (by rw [hbn]; exact r1) (x := mH1.2.2.2.2.2.2.2.1 (m + (nf m x).length - 1)) (by rw [hbn, r2, nid, show B + m + (nf m x).length - 1 = B + (m + (nf m x).length - 1) by omega]; exact m_ofn e1 (by omega) (by omega)) (by rw [hbn]; exact hy1) hx hy2 (by omega) (hnn x) hok
      by_cases w : NOR (ff u x)
      · have hlen : (if (b || dty u (sRow sf (x :: l))) = true then (jrq (ff u x) (cutR (fFlat (ff u) l))).length else 0) ≤ (if (b || dty u (sRow sf (x :: l))) = true then wj x else 0) := by
          rw [jrq_len]
          split
          · exact (hwj x).2 w
          · exact Nat.le_refl _
        obtain ⟨mH2, D2, cnt2, b1, b2, b3, b4, b5, b6, b7, b8, b9⟩ := m_go hE (by omega) (w_none r5) (mf (okr_of (Rq := jrq (ff u x) (cutR (fFlat (ff u) l))) hbb hdd (by omega)))
        have b5' := cnt_of hbb hdd b5 b6
        exact ⟨mH2, D2, cnt2, b1, b2, b3, b4, by omega, b7, b8, b9⟩
      · have hh : ∀ R, R ∈ jrq (ff u x) (cutR (fFlat (ff u) l)) → HAS D1 cnt1 R := fun R hR => has_suf a2 _ _ (hnn x) hx R ((jrq_ret (ff u x) (hwj x).1 w).2 R hR)
        obtain ⟨mH2, D2, cnt2, b1, b2, b3, b4, b5, b6, b7, b8, b9⟩ := m_go hE (by omega) (w_none r5) (mf (.inl hh))
        have b6 := b6 hh
        exact ⟨mH2, D2, cnt2, b1, b2, b3, b4, by omega, b7, b8, b9⟩
    obtain ⟨mH2, D2, cnt2, b1, b2, b3, b4, b5, b7, b8, b9⟩ := hdone
    refine ⟨mH2, D2, cnt2, a1.trans b1, b2, a3.trans b3 a4, by omega, by omega, ?_, ?_, fun _ => ?_⟩
    · intro R hR
      rw [rJ] at hR
      rcases List.mem_append.mp hR with hR | hR
      · exact (a6 R hR).ext b3 b4
      · exact b7 R hR
    · intro j hj
      rw [b8 j (by omega), a7 j hj]
    · rw [show m' + (l.length + 1) - 1 = m' + l.length by omega, fFlat, ← jn_cut]
      exact b9
theorem g_row {it : Nat → Nat → α → Prop} {nf : Nat → α → List Nde} {sf : α → List Ste} {cf wf wj : α → Nat} {ff rf : MTN → α → List FT} (hE : EN8 N mQ mN mL mm B nn u) (hcl : ∀ x, CLN u (sf x) → ff u x = ff uZ x) (hln : ∀ x, (ff u x).length ≤ wf x) (hwj : ∀ x, CRW (ff u x) (wj x)) (hnn : ∀ x, NNL (ff u x))
    (h : ∀ x, IW it x → OKN8 u (sf x) → wf x ≤ 60 → MGS N mQ mN mL mm B nn b (fun m => nf m x) (cf x) (rf uZ x) (rf u x) (ff u x)) :
    ∀ l, IW (iRow it) l → OKN8 u (sRow sf l) → kRw wf l ≤ 60 → MGR N mQ mN mL mm B nn b (fun m => nRow B nf m l) (cRow u b sf cf wj l) (rRow (ff uZ) (rf uZ) l) (rRow (ff u) (rf u) l) (l ≠ []) (cutR (fFlat (ff u) l)) := by
  intro l hi ho hw m mH D cnt h1 h2 h3 h4 h5
  dsimp only at h1 h2 ⊢
  rw [nRow] at h1 h2 ⊢
  rw [cRow] at h5 ⊢
  obtain ⟨c1, c2⟩ := h1.app
  rw [List.length_append, nLst_len, List.length_reverse, nRowI_len] at h2 ⊢
  obtain ⟨mH1, D1, cnt1, a1, a2, a3, a4, a5, a6, a7, a8⟩ := g_rowS h l hi ho hw m mH D cnt c1 (by omega) h3 (fun w R hR => h4 w R (List.mem_append_left _ hR)) (by omega)
  obtain ⟨mH2, D2, cnt2, b1, b2, b3, b4, b5, b6, b7, b8⟩ := g_lst (b := b) hE hcl hln hwj hnn l m ho hw (m + (nRowS B nf m l).length) mH1 D1 cnt1 a8 (Nat.le_refl _) c2 (by omega) a2 (fun w R hR => (h4 w R (List.mem_append_right _ hR)).ext a3 a4) (by omega)
  refine ⟨mH2, D2, cnt2, a1.trans b1, b2, a3.trans b3 a4, by omega, by omega, ?_, ?_, fun q => ?_⟩
  · intro R hR
    rcases List.mem_append.mp hR with hR | hR
    · exact (a6 R hR).ext b3 b4
    · exact b6 R hR
  · intro j hj
    rw [b7 j (by omega), a7 j hj]
  · have hl : 1 ≤ l.length := by
      rcases l with _ | ⟨y, l⟩
      · exact absurd rfl q
      · rw [List.length_cons]; omega
    refine ⟨by omega, ?_⟩
    rw [show m + ((nRowS B nf m l).length + l.length) - 1 = m + (nRowS B nf m l).length + l.length - 1 by omega]
    exact b8 q
end
