/-! FOLDING in the class: expressions and conditions -/
section
variable {N : Nat} {a b : Int32} {fo : FoS} {tr : TrS}
theorem s_0 : f1_step N (nI 0) a b fo tr = f1_apply N b fo tr := by
  obtain ⟨R, S, hh, b'⟩ := fo
  obtain ⟨tK, tF, tS, tT, tO, tN, tc⟩ := tr
  rw [f1_step, if_pos (by decide)]
  cases f1_apply N b (R, S, hh, b') (tK, tF, tS, tT, tO, tN, tc) <;> rfl
theorem s_1 : f1_step N (nI 1) a b fo tr = f1_compare N b fo tr := by
  obtain ⟨R, S, hh, b'⟩ := fo
  obtain ⟨tK, tF, tS, tT, tO, tN, tc⟩ := tr
  rw [f1_step, if_neg (by decide), if_pos (by decide)]
  cases f1_compare N b (R, S, hh, b') (tK, tF, tS, tT, tO, tN, tc) <;> rfl
theorem s_nop {w : Nat} (hw : w = 2 ∨ w = 4) : f1_step N (nI w) a b fo tr = some (fo, tr) := by
  obtain ⟨R, S, hh, b'⟩ := fo
  obtain ⟨tK, tF, tS, tT, tO, tN, tc⟩ := tr
  rcases hw with rfl | rfl <;> rw [f1_step, if_neg (by decide), if_neg (by decide), if_neg (by decide), if_neg (by decide), if_neg (by decide), if_neg (by decide), if_neg (by decide), if_neg (by decide), if_neg (by decide), if_neg (by decide), if_neg (by decide), if_neg (by decide), if_neg (by decide)]
theorem s_3 : f1_step N (nI 3) a b fo tr = (f6_of N (nI 1) b 0 0 tr).bind fun z => (f1_push z.1 fo).bind fun q => some (q, z.2) := by
  obtain ⟨R, S, hh, b'⟩ := fo
  obtain ⟨tK, tF, tS, tT, tO, tN, tc⟩ := tr
  rw [f1_step, if_neg (by decide), if_neg (by decide), if_pos (by decide), f6_constant]
  show (((f6_of N (nI 1) b 0 0 (tK, tF, tS, tT, tO, tN, tc)).bind _).bind _) = _
  cases f6_of N (nI 1) b 0 0 (tK, tF, tS, tT, tO, tN, tc) <;> rfl
theorem s_5 : f1_step N (nI 5) a b fo tr = (f6_of N (nI 2) a 0 0 tr).bind fun z => (f1_push z.1 fo).bind fun q => some (q, z.2) := by
  obtain ⟨R, S, hh, b'⟩ := fo
  obtain ⟨tK, tF, tS, tT, tO, tN, tc⟩ := tr
  rw [f1_step, if_neg (by decide), if_neg (by decide), if_neg (by decide), if_pos (by decide)]
  rfl
theorem s_6 : f1_step N (nI 6) a b fo tr = f1_join N b fo tr := by
  obtain ⟨R, S, hh, b'⟩ := fo
  obtain ⟨tK, tF, tS, tT, tO, tN, tc⟩ := tr
  rw [f1_step, if_neg (by decide), if_neg (by decide), if_neg (by decide), if_neg (by decide), if_pos (by decide)]
  cases f1_join N b (R, S, hh, b') (tK, tF, tS, tT, tO, tN, tc) <;> rfl
end
section
variable {cs : CoS} {N : Nat} {u : MTN} {sz : Nat}
theorem pc_ov {i w s n j : Nat} (hp : PcAt cs i (w, s, n, j)) (hw : w ≤ 4 ∨ w = 6) : (if cs.2.1 i = u.1 then u.2 else cs.2.2.1 i) = ov u s n := by
  obtain ⟨p1, p2, p3, p4⟩ := hp
  have p3 := p3 hw
  have p4 := p4 (by dsimp only; omega)
  dsimp only at p3 p4
  rw [p3, p4]
  rfl
/-- one piece -/
theorem fx_one {D : Nat → FT} {cnt rb K i w s n j lo : Nat} {fo : FoS} {tr : TrS} {st : List Int32} {T : FT} (hR : FRUN cs N sz) (hi : i < sz) (hlo : lo ≤ i) (hp : PcAt cs i (w, s, n, j)) (hw : w < 15) (hw4 : w ≠ 4) (h : FP D cnt fo st rb T K (f1_step N (nI w) (cs.2.2.1 i) (if cs.2.1 i = u.1 then u.2 else cs.2.2.1 i) fo tr)) :
    ∃ z fo' tr' D' cnt', FGO cs N u fo tr lo i fo' tr' lo 1 ∧ FS fo' (z :: st) rb ∧ CT tr' D' cnt' ∧ cnt ≤ cnt' ∧ cnt' ≤ cnt + K ∧ EXT D D' cnt ∧ TM D' cnt' z T ∧ fo'.1 = fo.1 := by
  obtain ⟨z, fo', tr', D', cnt', e1, e2⟩ := h
  exact ⟨z, fo', tr', D', cnt', FGO.step hR.1 hR.2.1 hi hlo hp hw (fun q => absurd q hw4) e1, e2⟩
theorem fx_const (hR : FRUN cs N sz) {s v : Nat} : FEX cs N sz u 1 1 (fun _ => [(3, s, v, 0)]) (cstT (ov u s v)) := by
  intro i st rb D cnt fo tr lo h1 h2 h3 h4 h5 h6 h7
  have h2 : i + 1 ≤ sz := h2
  refine fx_one hR (by omega) h3 h1.cons.1 (by omega) (by omega) ?_
  rw [pc_ov h1.cons.1 (.inl (by omega)), s_3]
  exact FP.make (k := 1) (a := ov u s v) (b := 0) (c := 0) hR.2.2 h6 (by omega) h5 (by omega) (.inl ⟨.inl rfl, rfl, rfl⟩)
theorem fx_load (hR : FRUN cs N sz) {k : Nat} : FEX cs N sz u 1 1 (fun _ => [(5, 0, k, 0)]) (varT (nI k)) := by
  intro i st rb D cnt fo tr lo h1 h2 h3 h4 h5 h6 h7
  have h2 : i + 1 ≤ sz := h2
  refine fx_one hR (by omega) h3 h1.cons.1 (by omega) (by omega) ?_
  have p4 := h1.cons.1.2.2.2 (by dsimp only; omega)
  dsimp only at p4
  rw [p4, s_5]
  exact FP.make (k := 2) (a := nI k) (b := 0) (c := 0) hR.2.2 h6 (by omega) h5 (by omega) (.inl ⟨.inr rfl, rfl, rfl⟩)
variable {α : Type}
theorem fx_moE {jg : α → List Pce} {sf : α → List Ste} {ff : α → FT} {kf : α → Nat} {dep : Nat} (hR : FRUN cs N sz) (h : ∀ x, OKG u (sf x) → FEX cs N sz u dep (kf x) (fun _ => jg x) (ff x)) :
    ∀ l, OKG u (sMo 0 sf l) → ∀ i st rb D cnt fo tr lo z V, CSH cs i (jMoE jg l) → i + (jMoE jg l).length ≤ sz → lo ≤ i → st.length + (dep + 1) ≤ 128 → 1 ≤ dep → FS fo (z :: st) rb → CT tr D cnt → cnt + kMo kf l ≤ 18755 → TM D cnt z V →
      ∃ z' fo' tr' D' cnt', FGO cs N u fo tr lo i fo' tr' lo (jMoE jg l).length ∧ FS fo' (z' :: st) rb ∧ CT tr' D' cnt' ∧ cnt ≤ cnt' ∧ cnt' ≤ cnt + kMo kf l ∧ EXT D D' cnt ∧ TM D' cnt' z' (fMo u fSum ff V l) ∧ fo'.1 = fo.1 := by
  intro l
  induction l with
  | nil => intro ho i st rb D cnt fo tr lo z V h1 h2 h3 h4 h4' h5 h6 h7 h8; exact ⟨z, fo, tr, D, cnt, FGO.refl, h5, h6, Nat.le_refl _, by omega, EXT.refl, h8, rfl⟩
  | cons q l ih =>
    intro ho i st rb D cnt fo tr lo z V h1 h2 h3 h4 h4' h5 h6 h7 h8
    obtain ⟨s, n, x⟩ := q
    obtain ⟨o1, o2⟩ := ho.cons
    obtain ⟨o2, o3⟩ := o2.app
    rw [jMoE] at h1 h2 ⊢
    rw [kMo] at h7 ⊢
    dsimp only at h1 h2 h7 o1 o2 ⊢
    obtain ⟨c1, c2⟩ := h1.app
    obtain ⟨c2, c3⟩ := c2.cons
    simp only [List.length_append, List.length_cons] at h2 ⊢
    obtain ⟨o, ho1, ho2⟩ := o1.ar
    have hx := h x o2
    unfold FEX at hx
    dsimp only at hx
    obtain ⟨y, fo1, tr1, D1, cnt1, a1, a2, a3, a4, a5, a6, a7, a8⟩ := hx i (z :: st) rb D cnt fo tr lo c1 (by omega) h3 (by rw [List.length_cons]; omega) h5 h6 (by omega)
    have ap := c_apply hR.2.2 ho1 a3 (by omega) a2 (by omega) (h8.ext a6 a4) a7
    have ap2 := fx_one (u := u) hR (i := i + (jg x).length) (by omega) (show lo ≤ i + (jg x).length by omega) c2 (by omega) (by omega) (by rw [pc_ov c2 (.inl (by omega)), s_0, ho2]; exact ap)
    obtain ⟨z2, fo2, tr2, D2, cnt2, b1, b2, b3, b4, b5, b6, b7, b8⟩ := ap2
    rw [← ho2] at b7
    obtain ⟨z3, fo3, tr3, D3, cnt3, g1, g2, g3, g4, g5, g6, g7, g8⟩ := ih o3 (i + (jg x).length + 1) st rb D2 cnt2 fo2 tr2 lo z2 _ c3 (by omega) (by omega) h4 h4' b2 b3 (by omega) b7
    refine ⟨z3, fo3, tr3, D3, cnt3, ?_, g2, g3, by omega, by omega, (a6.trans b6 a4).trans g6 (by omega), g7, g8.trans (b8.trans a8)⟩
    have := (a1.trans b1).trans (show FGO cs N u fo2 tr2 lo (i + ((jg x).length + 1)) fo3 tr3 lo (jMoE jg l).length by rw [← Nat.add_assoc]; exact g1)
    rw [show (jg x).length + 1 + (jMoE jg l).length = (jg x).length + ((jMoE jg l).length + 1) by omega] at this
    exact this
theorem fx_chE {jg : α → List Pce} {sf : α → List Ste} {ff : α → FT} {kf : α → Nat} {dep : Nat} (hR : FRUN cs N sz) (hd : 1 ≤ dep) (h : ∀ x, OKG u (sf x) → FEX cs N sz u dep (kf x) (fun _ => jg x) (ff x)) :
    ∀ x, OKG u (sCh 0 sf x) → FEX cs N sz u (dep + 1) (kCh kf x) (fun _ => jChE jg x) (fCh u fSum ff x) := by
  intro x ho i st rb D cnt fo tr lo h1 h2 h3 h4 h5 h6 h7
  obtain ⟨x, l⟩ := x
  obtain ⟨o1, o2⟩ := ho.app
  dsimp only at h1 h2 ⊢
  rw [jChE] at h1 h2 ⊢
  rw [kCh] at h7 ⊢
  dsimp only at h1 h2 h7 o1 o2 ⊢
  obtain ⟨c1, c2⟩ := h1.app
  rw [List.length_append] at h2 ⊢
  have hx := h x o1
  unfold FEX at hx
  dsimp only at hx
  obtain ⟨y, fo1, tr1, D1, cnt1, a1, a2, a3, a4, a5, a6, a7, a8⟩ := hx i st rb D cnt fo tr lo c1 (by omega) h3 (by omega) h5 h6 (by omega)
  obtain ⟨z3, fo3, tr3, D3, cnt3, g1, g2, g3, g4, g5, g6, g7, g8⟩ := fx_moE hR h l o2 (i + (jg x).length) st rb D1 cnt1 fo1 tr1 lo y _ c2 (by omega) (by omega) h4 hd a2 a3 (by omega) a7
  exact ⟨z3, fo3, tr3, D3, cnt3, a1.trans g1, g2, g3, by omega, by omega, a6.trans g6 a4, g7, g8.trans a8⟩
theorem fx_moC {jg : Nat → α → List Pce} {sf : α → List Ste} {ff : α → FT} {kf : α → Nat} {dep : Nat} (hR : FRUN cs N sz) (h : ∀ x, OKG u (sf x) → FEX cs N sz u dep (kf x) (fun i => jg i x) (ff x)) :
    ∀ l, OKG u (sMo 2 sf l) → ∀ i st rb D cnt fo tr lo z V, CSH cs i (jMoC jg i l) → i + (jMoC jg i l).length ≤ sz → lo ≤ i → st.length + (dep + 1) ≤ 128 → 1 ≤ dep → FS fo (z :: st) rb → CT tr D cnt → cnt + kMo kf l ≤ 18755 → TM D cnt z V →
      ∃ z' fo' tr' D' cnt', FGO cs N u fo tr lo i fo' tr' lo (jMoC jg i l).length ∧ FS fo' (z' :: st) rb ∧ CT tr' D' cnt' ∧ cnt ≤ cnt' ∧ cnt' ≤ cnt + kMo kf l ∧ EXT D D' cnt ∧ TM D' cnt' z' (fMo u fBth ff V l) ∧ fo'.1 = fo.1 := by
  intro l
  induction l with
  | nil => intro ho i st rb D cnt fo tr lo z V h1 h2 h3 h4 h4' h5 h6 h7 h8; exact ⟨z, fo, tr, D, cnt, FGO.refl, h5, h6, Nat.le_refl _, by omega, EXT.refl, h8, rfl⟩
  | cons q l ih =>
    intro ho i st rb D cnt fo tr lo z V h1 h2 h3 h4 h4' h5 h6 h7 h8
    obtain ⟨s, n, x⟩ := q
    obtain ⟨o1, o2⟩ := ho.cons
    obtain ⟨o2, o3⟩ := o2.app
    rw [jMoC] at h1 h2 ⊢
    rw [kMo] at h7 ⊢
    dsimp only at h1 h2 h7 o1 o2 ⊢
    rw [List.cons_append] at h1 h2 ⊢
    obtain ⟨c0, c1⟩ := h1.cons
    obtain ⟨c1, c2⟩ := c1.app
    obtain ⟨c2, c3⟩ := c2.cons
    simp only [List.length_append, List.length_cons] at h2 ⊢
    have hx := h x o2
    unfold FEX at hx
    dsimp only at hx
    have s0 : FGO cs N u fo tr lo i fo tr lo 1 := FGO.step hR.1 hR.2.1 (by omega) h3 c0 (by omega) (fun q => by omega) (s_nop (.inl rfl))
    obtain ⟨y, fo1, tr1, D1, cnt1, a1, a2, a3, a4, a5, a6, a7, a8⟩ := hx (i + 1) (z :: st) rb D cnt fo tr lo c1 (by omega) (by omega) (by rw [List.length_cons]; omega) h5 h6 (by omega)
    have ap := c_join (o := ov u s n) hR.2.2 a3 (by omega) a2 (by omega) (h8.ext a6 a4) a7
    have ap2 := fx_one (u := u) hR (i := i + 1 + (jg (i + 1) x).length) (by omega) (show lo ≤ i + 1 + (jg (i + 1) x).length by omega) c2 (by omega) (by omega) (by rw [pc_ov c2 (.inr rfl), s_6]; exact ap)
    obtain ⟨z2, fo2, tr2, D2, cnt2, b1, b2, b3, b4, b5, b6, b7, b8⟩ := ap2
    have c3' : CSH cs (i + (jg (i + 1) x).length + 2) (jMoC jg (i + (jg (i + 1) x).length + 2) l) := by
      rw [show i + 1 + (jg (i + 1) x).length + 1 = i + (jg (i + 1) x).length + 2 by omega] at c3
      exact c3
    obtain ⟨z3, fo3, tr3, D3, cnt3, g1, g2, g3, g4, g5, g6, g7, g8⟩ := ih o3 (i + (jg (i + 1) x).length + 2) st rb D2 cnt2 fo2 tr2 lo z2 _ c3' (by omega) (by omega) h4 h4' b2 b3 (by omega) b7
    refine ⟨z3, fo3, tr3, D3, cnt3, ?_, g2, g3, by omega, by omega, (a6.trans b6 a4).trans g6 (by omega), g7, g8.trans (b8.trans a8)⟩
    have t1 := (s0.trans a1).trans (show FGO cs N u fo1 tr1 lo (i + (1 + (jg (i + 1) x).length)) fo2 tr2 lo 1 by rw [← Nat.add_assoc]; exact b1)
    have t2 := t1.trans (show FGO cs N u fo2 tr2 lo (i + (1 + (jg (i + 1) x).length + 1)) fo3 tr3 lo (jMoC jg (i + (jg (i + 1) x).length + 2) l).length by
      rw [show i + (1 + (jg (i + 1) x).length + 1) = i + (jg (i + 1) x).length + 2 by omega]; exact g1)
    rw [show 1 + (jg (i + 1) x).length + 1 + (jMoC jg (i + (jg (i + 1) x).length + 2) l).length = (jg (i + 1) x).length + ((jMoC jg (i + (jg (i + 1) x).length + 2) l).length + 1) + 1 by omega] at t2
    exact t2
theorem fx_chC {jg : Nat → α → List Pce} {sf : α → List Ste} {ff : α → FT} {kf : α → Nat} {dep : Nat} (hR : FRUN cs N sz) (hd : 1 ≤ dep) (h : ∀ x, OKG u (sf x) → FEX cs N sz u dep (kf x) (fun i => jg i x) (ff x)) :
    ∀ x, OKG u (sCh 2 sf x) → FEX cs N sz u (dep + 1) (kCh kf x) (fun i => jChC jg i x) (fCh u fBth ff x) := by
  intro x ho i st rb D cnt fo tr lo h1 h2 h3 h4 h5 h6 h7
  obtain ⟨x, l⟩ := x
  obtain ⟨o1, o2⟩ := ho.app
  dsimp only at h1 h2 ⊢
  rw [jChC] at h1 h2 ⊢
  rw [kCh] at h7 ⊢
  dsimp only at h1 h2 h7 o1 o2 ⊢
  obtain ⟨c1, c2⟩ := h1.app
  rw [List.length_append] at h2 ⊢
  have hx := h x o1
  unfold FEX at hx
  dsimp only at hx
  obtain ⟨y, fo1, tr1, D1, cnt1, a1, a2, a3, a4, a5, a6, a7, a8⟩ := hx i st rb D cnt fo tr lo c1 (by omega) h3 (by omega) h5 h6 (by omega)
  obtain ⟨z3, fo3, tr3, D3, cnt3, g1, g2, g3, g4, g5, g6, g7, g8⟩ := fx_moC hR h l o2 (i + (jg i x).length) st rb D1 cnt1 fo1 tr1 lo y _ c2 (by omega) (by omega) h4 hd a2 a3 (by omega) a7
  exact ⟨z3, fo3, tr3, D3, cnt3, a1.trans g1, g2, g3, by omega, by omega, a6.trans g6 a4, g7, g8.trans a8⟩
end
section
variable {cs : CoS} {N : Nat} {u : MTN} {sz : Nat}
theorem fx_fa {S : Type} {jg : S → List Pce} {sf : S → List Ste} {ff : S → FT} {kf : S → Nat} {dep : Nat} (hR : FRUN cs N sz) (hd : 1 ≤ dep) (h : ∀ x, OKG u (sf x) → FEX cs N sz u dep (kf x) (fun _ => jg x) (ff x)) : ∀ x, OKG u (sFa sf x) → FEX cs N sz u dep (kFa kf x) (fun _ => jFa jg x) (fFa u ff x) := by
  intro x ho
  rcases x with (⟨s, v⟩ | ⟨s, k⟩) | y
  · exact (fx_const hR).dep hd
  · exact (fx_load hR).dep hd
  · exact h y ho
theorem fx_sub (hR : FRUN cs N sz) : ∀ d x, OKG u (sSub d x) → FEX cs N sz u (1 + 2 * d) (kSub d x) (fun _ => jSub d x) (fSub u d x) := by
  intro d
  induction d with
  | zero => intro x; exact x.elim
  | succ d ih =>
    have h1 := fx_chE (dep := 1 + 2 * d) hR (by omega) (fx_fa hR (by omega) ih)
    rw [show 1 + 2 * d + 1 = 2 + 2 * d by omega] at h1
    have h2 := fx_chE (dep := 2 + 2 * d) hR (by omega) h1
    rw [show 2 + 2 * d + 1 = 1 + 2 * (d + 1) by omega] at h2
    exact h2
theorem fx_te (hR : FRUN cs N sz) (d : Nat) : ∀ x, OKG u (sTe d x) → FEX cs N sz u (2 + 2 * d) (kTe d x) (fun _ => jTe d x) (fTe u d x) := by
  have h1 := fx_chE (dep := 1 + 2 * d) hR (by omega) (fx_fa (u := u) hR (by omega) (fx_sub hR d))
  rw [show 1 + 2 * d + 1 = 2 + 2 * d by omega] at h1
  exact h1
theorem fx_ex (hR : FRUN cs N sz) (d : Nat) : ∀ x, OKG u (sEx d x) → FEX cs N sz u (3 + 2 * d) (kEx d x) (fun _ => jEx d x) (fEx u d x) := by
  have h1 := fx_chE (dep := 2 + 2 * d) hR (by omega) (fx_te (u := u) hR d)
  rw [show 2 + 2 * d + 1 = 3 + 2 * d by omega] at h1
  exact h1
theorem fx_cm (hR : FRUN cs N sz) (d : Nat) : ∀ x, OKG u (sCm d x) → FEX cs N sz u (4 + 2 * d) (kCm d x) (fun _ => jCm d x) (fCm u d x) := by
  intro x ho i st rb D cnt fo tr lo h1 h2 h3 h4 h5 h6 h7
  obtain ⟨l, s, n, x⟩ := x
  rw [sCm] at ho
  dsimp only at ho h1 h2 ⊢
  obtain ⟨o1, o2⟩ := ho.app
  obtain ⟨o2, o3⟩ := o2.cons
  rw [jCm] at h1 h2 ⊢
  rw [kCm] at h7 ⊢
  dsimp only at h1 h2 h7 ⊢
  rw [List.append_assoc] at h1
  obtain ⟨c1, c2⟩ := h1.app
  obtain ⟨c2, c3⟩ := c2.app
  simp only [List.length_append, List.length_cons, List.length_nil] at h2 ⊢
  have hl := fx_ex (u := u) hR d l o1
  have hx := fx_ex (u := u) hR d x o3
  unfold FEX at hl hx
  dsimp only at hl hx
  obtain ⟨y, fo1, tr1, D1, cnt1, a1, a2, a3, a4, a5, a6, a7, a8⟩ := hl i st rb D cnt fo tr lo c1 (by omega) h3 (by omega) h5 h6 (by omega)
  obtain ⟨y2, fo2, tr2, D2, cnt2, b1, b2, b3, b4, b5, b6, b7, b8⟩ := hx (i + (jEx d l).length) (y :: st) rb D1 cnt1 fo1 tr1 lo c2 (by omega) (by omega) (by rw [List.length_cons]; omega) a2 a3 (by omega)
  have ap := c_compare (o := ov u s n) hR.2.2 b3 (by omega) b2 (by omega) (a7.ext b6 b4) b7
  obtain ⟨z3, fo3, tr3, D3, cnt3, g1, g2, g3, g4, g5, g6, g7, g8⟩ := fx_one (u := u) hR (i := i + (jEx d l).length + (jEx d x).length) (by omega) (show lo ≤ i + (jEx d l).length + (jEx d x).length by omega) c3.cons.1 (by omega) (by omega) (by rw [pc_ov c3.cons.1 (.inl (by omega)), s_1]; exact ap)
  refine ⟨z3, fo3, tr3, D3, cnt3, ?_, g2, g3, by omega, by omega, (a6.trans b6 a4).trans g6 (by omega), g7, g8.trans (b8.trans a8)⟩
  exact (a1.trans b1).trans (show FGO cs N u fo2 tr2 lo (i + ((jEx d l).length + (jEx d x).length)) fo3 tr3 lo 1 by rw [← Nat.add_assoc]; exact g1)
theorem fx_at {S : Type} {jg : Nat → S → List Pce} {sf : S → List Ste} {ff : S → FT} {kf : S → Nat} (hR : FRUN cs N sz) (d : Nat) (h : ∀ x, OKG u (sf x) → FEX cs N sz u (4 + 2 * d) (kf x) (fun i => jg i x) (ff x)) : ∀ x, OKG u (sAt d sf x) → FEX cs N sz u (4 + 2 * d) (kAt d kf x) (fun i => jAt d jg i x) (fAt u d ff x) := by
  intro x ho
  rcases x with x | y
  · exact fx_cm hR d x ho
  · exact h y ho
theorem fx_csub (hR : FRUN cs N sz) : ∀ d x, OKG u (sCSub d x) → FEX cs N sz u (4 + 2 * d) (kCSub d x) (fun i => jCSub d i x) (fCSub u d x) := by
  intro d
  induction d with
  | zero => intro x; exact x.elim
  | succ d ih =>
    have h1 := fx_chC (dep := 4 + 2 * d) hR (by omega) (fx_at hR d ih)
    have h2 := fx_chC (dep := 4 + 2 * d + 1) hR (by omega) h1
    rw [show 4 + 2 * d + 1 + 1 = 4 + 2 * (d + 1) by omega] at h2
    exact h2
theorem fx_co (hR : FRUN cs N sz) (d : Nat) : ∀ x, OKG u (sCo d x) → FEX cs N sz u (6 + 2 * d) (kCo d x) (fun i => jCo d i x) (fCo u d x) := by
  have h1 := fx_chC (dep := 4 + 2 * d) hR (by omega) (fx_at (u := u) hR d (fx_csub hR d))
  have h2 := fx_chC (dep := 4 + 2 * d + 1) hR (by omega) h1
  rw [show 4 + 2 * d + 1 + 1 = 6 + 2 * d by omega] at h2
  exact h2
end
