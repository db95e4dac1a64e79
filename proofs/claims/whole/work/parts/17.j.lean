/-! FOLDING in the reference: chains -/
def IW {α : Type} (it : Nat → Nat → α → Prop) (x : α) : Prop := ∃ p p', it p p' x
def IWM {α : Type} (it : Nat → Nat → α → Prop) (op : Nat → Bool) (l : List (Nat × Nat × α)) : Prop := ∃ p p', iMo it op p p' l
/-- the changed place is changed as it may be -/
def OKN (u : MTN) (e : Ste) : Prop := e.1 < 60 ∧ SV e.2.1 e.2.2 ∧ (nI e.1 = u.1 → e.2.1 < 3 → ∃ o, o ∈ SJ e.2.1 ∧ u.2 = nI o)
def OKN8 (u : MTN) (L : List Ste) : Prop := ∀ e, e ∈ L → OKN u e
section
variable {u : MTN}
theorem OKN8.app {L M : List Ste} (h : OKN8 u (L ++ M)) : OKN8 u L ∧ OKN8 u M := ⟨fun e he => h e (List.mem_append_left _ he), fun e he => h e (List.mem_append_right _ he)⟩
theorem OKN8.cons {e : Ste} {L : List Ste} (h : OKN8 u (e :: L)) : OKN u e ∧ OKN8 u L := ⟨h e List.mem_cons_self, fun a ha => h a (List.mem_cons_of_mem _ ha)⟩
theorem OKN.sg {s k n : Nat} (hk : k < 3) (h : OKN u (s, k, n)) : ∃ o, o ∈ SJ k ∧ ov u s n = nI o := by
  unfold ov
  by_cases w : nI s = u.1
  · rw [if_pos w]
    exact h.2.2 w hk
  · rw [if_neg w]
    refine ⟨n, ?_, rfl⟩
    rcases h.2.1 with ⟨h1, h2⟩ | ⟨h1, h2⟩ | ⟨h1, h2⟩ | ⟨h1, h2⟩ | ⟨h1, h2⟩
    · dsimp only at h1 h2; subst h1; exact h2
    · dsimp only at h1 h2; subst h1; exact h2
    · dsimp only at h1 h2; subst h1; exact h2
    all_goals (dsimp only at h1; omega)
theorem OKN8.cl {L : List Ste} (h : OKN8 u L) (hd : dty u L = false) : CLN u L := dty_cl (fun e he => (h e he).1) hd
end
theorem fSum_nn {o : Int32} {a b : FT} (ha : a ≠ nilT) (hb : b ≠ nilT) : fSum o a b ≠ nilT := by
  unfold fSum fSum2
  split
  · exact nde_nil
  · split
    · exact ha
    · split
      · exact hb
      · exact nde_nil
theorem fBth_nn {o : Int32} {a b : FT} (ha : a ≠ nilT) (hb : b ≠ nilT) : fBth o a b ≠ nilT := by
  unfold fBth
  split <;> split
  · exact hb
  · split
    · exact ha
    · exact nde_nil
  · exact hb
  · split
    · exact ha
    · exact nde_nil
theorem fCmp_nn {o : Int32} {a b : FT} : fCmp o a b ≠ nilT := by
  unfold fCmp
  split
  · split
    · exact nde_nil
    · exact nde_nil
  · exact nde_nil
theorem TE.nn {mH : MdH} {D : Nat → FT} {cnt : Nat} {x : Int32} {T : FT} (h : TE D cnt x T) (hc : CM mH D cnt) : T ≠ nilT := by
  obtain ⟨t, h1, _, h2⟩ := h
  rw [← h2]
  exact hc.nn t h1
/-- a node that joins two -/
def JNO (N : Nat) (mQ : MdQ) (mN : MdN) (K k : Nat) (cb : Int32 → FT → FT → FT) : Prop :=
  (∀ o A B, A ≠ nilT → B ≠ nilT → cb o A B ≠ nilT) ∧
  ∀ (mH : MdH) (D : Nat → FT) (cnt : Nat) (v w1 x y : Int32) (A B : FT) (o : Nat), o ∈ SJ k → CM mH D cnt → ¬ (v < 0 ∨ 512 ≤ v.toNatClampNeg) → mN.2.1 v.toNatClampNeg = nI K → f8_of (mN.2.2.2.1 v.toNatClampNeg) mQ mH = some x → f8_of (mN.2.2.2.2.1 v.toNatClampNeg) mQ mH = some y → TE D cnt x A → TE D cnt y B → OKR D cnt [cb (nI o) A B] → MF mH D cnt [cb (nI o) A B] (cb (nI o) A B) (f8_foldNode N v w1 (nI o) mQ mN mH)
section
variable {N : Nat} {mQ : MdQ} {mN : MdN} {mL : MdL} {mm B nn : Nat} {u : MTN} {b : Bool} {α : Type}
theorem jno3 (hN : 20000 < N) : JNO N mQ mN 3 0 fSum := ⟨fun _ _ _ => fSum_nn, fun _ _ _ _ _ _ _ _ _ _ h1 h2 h3 h4 h5 h6 h7 h8 h9 => m_n3 hN h1 h2 h3 h4 h5 h6 h7 h8 h9⟩
theorem jno5 (hN : 20000 < N) : JNO N mQ mN 5 2 fBth := ⟨fun _ _ _ => fBth_nn, fun _ _ _ _ _ _ _ _ _ _ h1 h2 h3 h4 h5 h6 h7 h8 h9 => m_n5 hN h1 h2 h3 h4 h5 h6 h7 h8 h9⟩
theorem g_mo {K k : Nat} {cb : Int32 → FT → FT → FT} {it : Nat → Nat → α → Prop} {op : Nat → Bool} {nf : Nat → α → List Nde} {sf : α → List Ste} {cf : α → Nat} {ff : MTN → α → FT} {rf : MTN → α → List FT} (hE : EN8 N mQ mN mL mm B nn u) (hJ : JNO N mQ mN K k cb) (hk : k < 3)
    (hcl : ∀ x, CLN u (sf x) → ff u x = ff uZ x) (h : ∀ x, IW it x → OKN8 u (sf x) → MGE N mQ mN mL mm B nn b (fun m => nf m x) (cf x) (rf uZ x) (rf u x) (ff u x)) :
    ∀ l, IWM it op l → OKN8 u (sMo k sf l) → ∀ (dv : Bool) V VZ m mH D cnt, (dv = false → b = false ∧ V = VZ) → NSH B mN (m + 1) (nMoE K B nf (nI (B + m)) (m + 1) l) → m + 1 + (nMoE K B nf (nI (B + m)) (m + 1) l).length ≤ nn → CM mH D cnt → (b = false → ∀ R, R ∈ rMo uZ cb (ff uZ) (rf uZ) VZ l → HAS D cnt R) → cnt + cMo u sf cf dv l ≤ 4200 → TE D cnt (mH.2.2.2.2.2.2.2.1 m) V →
      ∃ mH' D' cnt', FGM N mQ mN mL mm B mH (m + 1) mH' (nMoE K B nf (nI (B + m)) (m + 1) l).length ∧ CM mH' D' cnt' ∧ EXT D D' cnt ∧ cnt ≤ cnt' ∧ cnt' ≤ cnt + cMo u sf cf dv l ∧ (∀ R, R ∈ rMo u cb (ff u) (rf u) V l → HAS D' cnt' R) ∧ (∀ j, j < m + 1 → mH'.2.2.2.2.2.2.2.1 j = mH.2.2.2.2.2.2.2.1 j) ∧ TE D' cnt' (mH'.2.2.2.2.2.2.2.1 (m + (nMoE K B nf (nI (B + m)) (m + 1) l).length)) (fMo u cb (ff u) V l) := by
  intro l
  induction l with
  | nil =>
    intro _ _ dv V VZ m mH D cnt h1 h2 h3 h4 h5 h6 h7
    exact ⟨mH, D, cnt, FGM.refl, h4, EXT.refl, Nat.le_refl _, Nat.le_add_right _ _, fun R hR => (by cases hR), fun j hj => rfl, h7⟩
  | cons q l ih =>
    intro hi ho dv V VZ m mH D cnt h1 h2 h3 h4 h5 h6 h7
    obtain ⟨s, n, x⟩ := q
    obtain ⟨p, p', i1, i2, p1, i3, i4⟩ := hi
    dsimp only at i3
    obtain ⟨o1, o2⟩ := ho.cons
    obtain ⟨o2, o3⟩ := o2.app
    rw [nMoE] at h2 h3 ⊢
    rw [cMo] at h6 ⊢
    dsimp only at h2 h3 h6 o1 o2 ⊢
    rw [show B + (m + 1) + (nf (m + 1) x).length = B + (m + 1 + (nf (m + 1) x).length) by omega] at h2 h3 ⊢
    have hEE := hE
    obtain ⟨e1, e2, e3, e4, e5, e6, e7⟩ := hEE
    obtain ⟨c1, c2⟩ := h2.app
    obtain ⟨c2, c3⟩ := c2.cons
    simp only [List.length_append, List.length_cons] at h3 ⊢
    obtain ⟨mH1, D1, cnt1, a1, a2, a3, a4, a5, a6, a7, a8, a10⟩ := h x ⟨p + 1, p1, i3⟩ o2 (m + 1) mH D cnt c1 (by dsimp only; omega) h4 (fun w R hR => h5 w R (by rw [rMo]; exact List.mem_append_left _ hR)) (by omega)
    dsimp only at a1 a2 a10
    obtain ⟨r1, r2, r3, r4, r5⟩ := c2.one
    dsimp only at r1 r2 r3 r4 r5
    obtain ⟨o, ho1, ho2⟩ := o1.sg hk
    have hcc := a3.2.1
    -- the node
    have hdv : (dv || decide (nI s = u.1) || dty u (sf x)) = false → dv = false ∧ ¬ nI s = u.1 ∧ dty u (sf x) = false := by
      intro w
      rw [Bool.or_eq_false_iff, Bool.or_eq_false_iff] at w
      exact ⟨w.1.1, of_decide_eq_false w.1.2, w.2⟩
    have hT1 : TE D1 cnt1 (mH1.2.2.2.2.2.2.2.1 m) V := by
      rw [a8 m (by omega)]
      exact h7.ext a4 a5
    have hcb : (dv || decide (nI s = u.1) || dty u (sf x)) = false → cb (ov u s n) V (ff u x) = cb (ov uZ s n) VZ (ff uZ x) := by
      intro w
      obtain ⟨w1, w2, w3⟩ := hdv w
      rw [ov_cl ⟨o1.1, w2⟩, (h1 w1).2, hcl x (o2.cl w3)]
    have hbb : (dv || decide (nI s = u.1) || dty u (sf x)) = false → ∀ R, R ∈ rMo uZ cb (ff uZ) (rf uZ) VZ ((s, n, x) :: l) → HAS D1 cnt1 R := fun w R hR => (h5 (h1 (hdv w).1).1 R hR).ext a4 a5
    have hdd : (dv || decide (nI s = u.1) || dty u (sf x)) = false → ∀ R, R ∈ [cb (ov u s n) V (ff u x)] → R ∈ rMo uZ cb (ff uZ) (rf uZ) VZ ((s, n, x) :: l) := by
      intro w R hR
      rw [List.mem_singleton.mp hR, hcb w, rMo]
      exact List.mem_append_right _ List.mem_cons_self
    have hok := okr_of (Rq := [cb (ov u s n) V (ff u x)]) hbb hdd (by rw [Bool.or_self]; show cnt1 + (if _ then 1 else 0) ≤ 4200; omega)
    have hbn := z_nat (n := B + (m + 1 + (nf (m + 1) x).length)) (by omega)
    have mf : MF mH1 D1 cnt1 [cb (ov u s n) V (ff u x)] (cb (ov u s n) V (ff u x)) (f8_foldNode N (nI (B + (m + 1 + (nf (m + 1) x).length))) (if nI s = u.1 then (1 : Int32) else 0) (ov u s n) mQ mN mH1) := by
      rw [ho2] at hok ⊢
      refine hJ.2 mH1 D1 cnt1 _ _ (mH1.2.2.2.2.2.2.2.1 m) (mH1.2.2.2.2.2.2.2.1 (m + 1 + (nf (m + 1) x).length - 1)) V (ff u x) o ho1 a3 (z_gd (by omega) (by omega)) (by rw [hbn]; exact r1) (by rw [hbn, r3]; exact m_ofn e1 (by omega) (by omega)) ?_ hT1 a10 hok
      rw [hbn, r4, nid, show B + (m + 1) + (nf (m + 1) x).length - 1 = B + (m + 1 + (nf (m + 1) x).length - 1) by omega]
      exact m_ofn e1 (by omega) (by omega)
    obtain ⟨mH2, D2, cnt2, b1, b2, b3, b4, b5, b6, b7, b8, b9⟩ := m_go hE (by omega) (w_site o1.1 r2 r5) mf
    have b5' := cnt_of hbb hdd b5 b6
    rw [Bool.or_self] at b5'
    have b5' : cnt2 ≤ cnt1 + (if (dv || decide (nI s = u.1) || dty u (sf x)) = true then 1 else 0) := b5'
    have hc2 := b2.2.1
    obtain ⟨mH3, D3, cnt3, g1, g2, g3, g4, g5, g6, g7, g8⟩ := ih ⟨p1, p', i4⟩ o3 (dv || decide (nI s = u.1) || dty u (sf x)) (cb (ov u s n) V (ff u x)) (cb (ov uZ s n) VZ (ff uZ x)) (m + 1 + (nf (m + 1) x).length) mH2 D2 cnt2 (fun w => ⟨(h1 (hdv w).1).1, hcb w⟩) c3 (by omega) b2
      (fun w R hR => ((h5 w R (by rw [rMo]; exact List.mem_append_right _ (List.mem_cons_of_mem _ hR))).ext a4 a5).ext b3 b4) (by omega) (b9.te (by omega) (hJ.1 _ _ _ (hT1.nn a3) (a10.nn a3)))
    refine ⟨mH3, D3, cnt3, ?_, g2, (a4.trans b3 a5).trans g3 (by omega), by omega, by omega, ?_, ?_, ?_⟩
    · have := (a1.trans b1).trans (show FGM N mQ mN mL mm B mH2 (m + 1 + ((nf (m + 1) x).length + 1)) mH3 _ by rw [← Nat.add_assoc]; exact g1)
      rw [show (nf (m + 1) x).length + 1 + (nMoE K B nf (nI (B + (m + 1 + (nf (m + 1) x).length))) (m + 1 + (nf (m + 1) x).length + 1) l).length = (nf (m + 1) x).length + ((nMoE K B nf (nI (B + (m + 1 + (nf (m + 1) x).length))) (m + 1 + (nf (m + 1) x).length + 1) l).length + 1) by omega] at this
      exact this
    · intro R hR
      rw [rMo] at hR
      rcases List.mem_append.mp hR with hR | hR
      · exact ((a7 R hR).ext b3 b4).ext g3 g4
      · rcases List.mem_cons.mp hR with hR | hR
        · rw [hR]
          exact (b7 _ List.mem_cons_self).ext g3 g4
        · exact g6 R hR
    · intro j hj
      rw [g7 j (by omega), b8 j (by omega), a8 j hj]
    · rw [show m + ((nf (m + 1) x).length + ((nMoE K B nf (nI (B + (m + 1 + (nf (m + 1) x).length))) (m + 1 + (nf (m + 1) x).length + 1) l).length + 1)) = m + 1 + (nf (m + 1) x).length + (nMoE K B nf (nI (B + (m + 1 + (nf (m + 1) x).length))) (m + 1 + (nf (m + 1) x).length + 1) l).length by omega]
      exact g8
theorem g_ch {K k : Nat} {cb : Int32 → FT → FT → FT} {it : Nat → Nat → α → Prop} {op : Nat → Bool} {nf : Nat → α → List Nde} {sf : α → List Ste} {cf : α → Nat} {ff : MTN → α → FT} {rf : MTN → α → List FT} (hE : EN8 N mQ mN mL mm B nn u) (hJ : JNO N mQ mN K k cb) (hk : k < 3)
    (hcl : ∀ x, CLN u (sf x) → ff u x = ff uZ x) (h : ∀ x, IW it x → OKN8 u (sf x) → MGE N mQ mN mL mm B nn b (fun m => nf m x) (cf x) (rf uZ x) (rf u x) (ff u x)) :
    ∀ x, IW (iCh it op) x → OKN8 u (sCh k sf x) → MGE N mQ mN mL mm B nn b (fun m => nChE K B nf m x) (cCh u b sf cf x) (rCh uZ cb (ff uZ) (rf uZ) x) (rCh u cb (ff u) (rf u) x) (fCh u cb (ff u) x) := by
  intro x hi ho m mH D cnt h2 h3 h4 h5 h6
  obtain ⟨x, l⟩ := x
  obtain ⟨p, p', p1, i1, i2⟩ := hi
  dsimp only at i1 i2 h2 h3 ⊢
  obtain ⟨o1, o2⟩ := ho.app
  rw [nChE] at h2 h3 ⊢
  rw [cCh] at h6 ⊢
  dsimp only at h2 h3 h6 o1 o2 ⊢
  obtain ⟨c1, c2⟩ := h2.app
  rw [List.length_append] at h3 ⊢
  obtain ⟨mH1, D1, cnt1, a1, a2, a3, a4, a5, a6, a7, a8, a10⟩ := h x ⟨p, p1, i1⟩ o1 m mH D cnt c1 (by dsimp only; omega) h4 (fun w R hR => h5 w R (by rw [rCh]; exact List.mem_append_left _ hR)) (by omega)
  dsimp only at a1 a2 a10
  obtain ⟨t, ht⟩ : ∃ t, m + (nf m x).length = t + 1 := ⟨m + (nf m x).length - 1, by omega⟩
  have hnid : nid B m (nf m x) = nI (B + t) := by
    rw [nid, show B + m + (nf m x).length - 1 = B + t by omega]
  rw [hnid, ht] at c2 h3 ⊢
  rw [show m + (nf m x).length - 1 = t by omega] at a10
  have hbb : (b || dty u (sf x)) = false → b = false ∧ ff u x = ff uZ x := by
    intro w
    rw [Bool.or_eq_false_iff] at w
    exact ⟨w.1, hcl x (o1.cl w.2)⟩
  obtain ⟨mH3, D3, cnt3, g1, g2, g3, g4, g5, g6, g7, g8⟩ := g_mo hE hJ hk hcl h l ⟨p1, p', i2⟩ o2 (b || dty u (sf x)) (ff u x) (ff uZ x) t mH1 D1 cnt1 hbb c2 (by omega) a3 (fun w R hR => (h5 w R (by rw [rCh]; exact List.mem_append_right _ hR)).ext a4 a5) (by omega) a10
  refine ⟨mH3, D3, cnt3, a1.trans (by rw [ht]; exact g1), by omega, g2, a4.trans g3 a5, by omega, by omega, ?_, ?_, ?_⟩
  · intro R hR
    rw [rCh] at hR
    rcases List.mem_append.mp hR with hR | hR
    · exact (a7 R hR).ext g3 g4
    · exact g6 R hR
  · intro j hj
    rw [g7 j (by omega), a8 j hj]
  · rw [show m + ((nf m x).length + (nMoE K B nf (nI (B + t)) (t + 1) l).length) - 1 = t + (nMoE K B nf (nI (B + t)) (t + 1) l).length by omega]
    exact g8
end
