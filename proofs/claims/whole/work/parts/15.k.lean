/-! FOLDING in the class: if and while -/
section
variable {α : Type} {u : MTN}
theorem flat_len {f : α → List FT} {w : α → Nat} (h : ∀ x, (f x).length ≤ w x) : ∀ l, (fFlat f l).length ≤ kRw w l := by
  intro l
  induction l with
  | nil => exact Nat.le_refl _
  | cons x l ih =>
    rw [fFlat, kRw, List.length_append]
    have := h x
    omega
theorem sm_len {d : Nat} (x : SmT d) : (fSm u d x).length ≤ 1 := by
  obtain ⟨s, x⟩ := x
  rw [fSm]
  split
  · exact Nat.zero_le _
  · rcases x with ⟨k, e⟩ | e | c
    · dsimp only
      split <;> simp only [List.length_cons, List.length_nil] <;> omega
    · exact Nat.le_refl _
    · dsimp only
      split <;> simp only [List.length_cons, List.length_nil] <;> omega
theorem st_len {S : Type} {d : Nat} {f : S → List FT} {w : S → Nat} (h : ∀ x, (f x).length ≤ w x) : ∀ x, (fSt u d f x).length ≤ wSt d w x := by
  intro x
  rcases x with x | y
  · exact sm_len x
  · exact h y
theorem bsub_len : ∀ d x, (fBSub u d x).length ≤ wBSub d x := by
  intro d
  induction d with
  | zero => intro x; exact x.elim
  | succ d ih =>
    intro x
    obtain ⟨s, c, x⟩ := x
    have hl := flat_len (st_len (u := u) (d := d) ih)
    rw [fBSub, wBSub]
    dsimp only
    split
    · exact Nat.zero_le _
    · rcases x with ⟨r1, r2⟩ | r
      · dsimp only
        have h1 := hl r1
        have h2 := hl (r2.getD [])
        have h3 := cutR_len (L := fFlat (fSt u d (fBSub u d)) r1)
        have h4 := cutR_len (L := fFlat (fSt u d (fBSub u d)) (r2.getD []))
        split
        · omega
        · split
          · omega
          · simp only [List.length_cons, List.length_nil]; omega
      · dsimp only
        split <;> simp only [List.length_cons, List.length_nil] <;> omega
end
section
variable {cs : CoS} {N : Nat} {u : MTN} {sz : Nat} {α : Type}
theorem fsi_row {jg : Nat → α → List Pce} {sf : α → List Ste} {ff : α → List FT} {wf kf : α → Nat} {d : Nat} (hl : ∀ x, (ff x).length ≤ wf x) (h : ∀ x, OKH u (sf x) → ∀ i, FSI cs N sz u d (wf x) (kf x) i (jg i x) (ff x)) :
    ∀ l, OKH u (sRow sf l) → ∀ i, FSI cs N sz u d (kRw wf l) (kRw kf l) i (jRow jg i l) (fFlat ff l) := by
  intro l
  induction l with
  | nil =>
    intro ho i st rb P D cnt fo tr lo h1 h2 h3 h4 h5 h6 h7 h8
    exact ⟨fo, tr, D, cnt, lo, FGO.refl, by omega, by rw [show fFlat ff [] = [] from rfl, List.append_nil]; exact h6, h7, Nat.le_refl _, by omega, EXT.refl, rfl⟩
  | cons x l ih =>
    intro ho i st rb P D cnt fo tr lo h1 h2 h3 h4 h5 h6 h7 h8
    rw [sRow] at ho
    obtain ⟨o1, o2⟩ := ho.app
    rw [jRow] at h1 h2 ⊢
    rw [kRw] at h5 h8 ⊢
    obtain ⟨c1, c2⟩ := h1.app
    rw [List.length_append] at h2 ⊢
    have hx := hl x
    obtain ⟨fo1, tr1, D1, cnt1, lo1, a1, a2, a3, a4, a5, a6, a7, a8⟩ := h x o1 i st rb P D cnt fo tr lo c1 (by omega) h3 h4 (by omega) h6 h7 (by omega)
    obtain ⟨fo2, tr2, D2, cnt2, lo2, b1, b2, b3, b4, b5, b6, b7, b8⟩ := ih o2 (i + (jg i x).length) st rb (P ++ ff x) D1 cnt1 fo1 tr1 lo1 c2 (by omega) a2 h4 (by rw [List.length_append]; omega) a3 a4 (by omega)
    refine ⟨fo2, tr2, D2, cnt2, lo2, a1.trans b1, by omega, ?_, b4, by omega, by omega, a7.trans b7 a5, b8.trans a8⟩
    rw [fFlat, ← List.append_assoc]
    exact b3
theorem fsi_if {jx : Nat → List Pce} {sx S : List Ste} {T : FT} {La Lb : List FT} {A B : List Pce} {dep kx wa wb ka kb d i s j j2 j3 n : Nat} (hR : FRUN cs N sz) (hx : OKG u sx → FEX cs N sz u dep kx jx T) (hd : dep ≤ 14) (ho : OKH u ((s, 4, 0) :: (sx ++ S)))
    (hp : (((4, s, 0, j) :: (jx (i + 1) ++ ((10, 0, 0, j2) :: (A ++ ((11, 0, n, j3) :: (B ++ [(12, 0, 0, 0)])))))).filterMap jS).Perm ((s, 4, 0) :: (sx ++ S))) (h15 : J15 ((4, s, 0, j) :: (jx (i + 1) ++ ((10, 0, 0, j2) :: (A ++ ((11, 0, n, j3) :: (B ++ [(12, 0, 0, 0)]))))))) (hj : j = i + (jx (i + 1)).length + A.length + B.length + 4)
    (hA : nI s ≠ u.1 → FSI cs N sz u d wa ka (i + (jx (i + 1)).length + 2) A La) (hB : nI s ≠ u.1 → FSI cs N sz u d wb kb (i + (jx (i + 1)).length + A.length + 3) B Lb) (lA : La.length ≤ wa) (lB : Lb.length ≤ wb) :
    FSI cs N sz u (d + 1) (max 1 (wa + wb)) (kx + 1 + (ka + wa + (kb + wb))) i ((4, s, 0, j) :: (jx (i + 1) ++ ((10, 0, 0, j2) :: (A ++ ((11, 0, n, j3) :: (B ++ [(12, 0, 0, 0)])))))) (if nI s = u.1 then [] else if knd T = 10 then cutR La else if knd T = 11 then cutR Lb else [iteT T (lstT (cutR La)) (lstT (cutR Lb))]) := by
  by_cases w : nI s = u.1
  · rw [if_pos w]
    exact fsi_out hR hp h15 ho w (by rw [hj]; simp only [List.length_append, List.length_cons, List.length_nil]; omega)
  · rw [if_neg w]
    intro st rb P D cnt fo tr lo h1 h2 h3 h4 h5 h6 h7 h8
    simp only [List.length_cons, List.length_append, List.length_nil] at h2 ⊢
    obtain ⟨c1, c2⟩ := h1.cons
    obtain ⟨c2, c3⟩ := c2.app
    obtain ⟨c3, c4⟩ := c3.cons
    obtain ⟨c4, c5⟩ := c4.app
    obtain ⟨c5, c6⟩ := c5.cons
    obtain ⟨c6, c7⟩ := c6.app
    have c7 := c7.cons.1
    rw [show i + 1 + (jx (i + 1)).length + 1 = i + (jx (i + 1)).length + 2 by omega] at c4 c5 c6 c7
    rw [show i + (jx (i + 1)).length + 2 + A.length + 1 = i + (jx (i + 1)).length + A.length + 3 by omega] at c6 c7
    obtain ⟨its, hf, hq⟩ := h6
    have hlen := hq.len
    rw [List.length_reverse] at hlen
    have hcl : (cutR P).length ≤ P.length := cutR_len
    have s0 : FGO cs N u fo tr lo i fo tr lo 1 := FGO.step hR.1 hR.2.1 (by omega) h3 c1 (by omega) (fun _ => w) (s_nop (.inr rfl))
    have hx := hx ho.cons.2.app.1.1
    unfold FEX at hx
    have hll : (its ++ nI rb :: st).length = its.length + (st.length + 1) := by rw [List.length_append, List.length_cons]
    obtain ⟨y, fo1, tr1, D1, cnt1, a1, a2, a3, a4, a5, a6, a7, a8⟩ := hx (i + 1) (its ++ nI rb :: st) (st.length + 1) D cnt fo tr lo c2 (by omega) (by omega) (by omega) hf h7 (by omega)
    have hq1 := hq.ext a6 a4
    -- the first row is opened
    have hl1 : (y :: (its ++ nI rb :: st)).length = its.length + st.length + 2 := by rw [List.length_cons, hll]; omega
    obtain ⟨fo2, p1, p2, p3⟩ := fs_open a2 (by omega)
    have s2 : FGO cs N u fo1 tr1 lo (i + 1 + (jx (i + 1)).length) fo2 tr1 lo 1 := FGO.step hR.1 hR.2.1 (by omega) (by omega) c3 (by omega) (fun q => by omega) (by rw [s_10 (.inl rfl), p1, ob_s])
    obtain ⟨fo3, tr3, D3, cnt3, lo3, b1, b2, b3, b4, b5, b6, b7, b8⟩ := hA w (y :: (its ++ nI rb :: st)) (st.length + 1) [] D1 cnt1 fo2 tr1 lo c4 (by omega) (by omega) (by omega) (by simp only [List.length_nil]; omega) ⟨[], p2, trivial⟩ a3 (by omega)
    rw [List.nil_append] at b3
    have lA' := cutR_len (L := La)
    have lB' := cutR_len (L := Lb)
    -- and closed
    obtain ⟨za, fo4, tr4, D4, cnt4, q1, q2, q3, q4, q5, q6, q7, q8⟩ := fa_close hR.2.2 b4 b3 (by rw [List.length_reverse]; omega) (by rw [List.length_reverse]; omega)
    rw [List.reverse_reverse] at q7
    rw [List.length_reverse] at q5
    obtain ⟨fo5, r1, r2, r3⟩ := fs_open q2 (by rw [List.length_cons]; omega)
    have s3 : FGO cs N u fo3 tr3 lo3 (i + (jx (i + 1)).length + 2 + A.length) fo5 tr4 lo3 1 := FGO.step hR.1 hR.2.1 (by omega) (by omega) c5 (by omega) (fun q => by omega) (by rw [s_11, q1, ob_s]; dsimp only; rw [r1, ob_s])
    obtain ⟨fo6, tr6, D6, cnt6, lo6, e1, e2, e3, e4, e5, e6, e7, e8⟩ := hB w (za :: y :: (its ++ nI rb :: st)) (st.length + 1) [] D4 cnt4 fo5 tr4 lo3 c6 (by omega) (by omega) (by rw [List.length_cons]; omega) (by simp only [List.length_nil]; omega) ⟨[], r2, trivial⟩ q3 (by omega)
    rw [List.nil_append] at e3
    obtain ⟨zb, fo7, tr7, D7, cnt7, g1, g2, g3, g4, g5, g6, g7, g8⟩ := fa_close hR.2.2 e4 e3 (by rw [List.length_reverse]; omega) (by rw [List.length_reverse, List.length_cons]; omega)
    rw [List.reverse_reverse] at g7
    rw [List.length_reverse] at g5
    have x17 : EXT D1 D7 cnt1 := ((b7.trans q6 b5).trans e7 (by omega)).trans g6 (by omega)
    have x47 : EXT D4 D7 cnt4 := e7.trans g6 e5
    obtain ⟨fo8, tr8, D8, cnt8, k1, k2, k3, k4, k5, k6, k7⟩ := c_endIf (C := T) (rb0 := rb) hR.2.2 g3 (by omega) g2 (hq1.ext x17 (by omega)) (a7.ext x17 (by omega)) (q7.ext x47 (by omega)) g7 (by omega) (by omega) (by omega)
    have s4 : FGO cs N u fo6 tr6 lo6 (i + (jx (i + 1)).length + A.length + 3 + B.length) fo8 tr8 lo6 1 := FGO.step hR.1 hR.2.1 (by omega) (by omega) c7 (by omega) (fun q => by omega) (by rw [s_12, g1, ob_s]; exact k1)
    refine ⟨fo8, tr8, D8, cnt8, lo6, ?_, by omega, k2, k3, by omega, by omega, (a6.trans x17 (by omega)).trans k6 (by omega), k7.trans (g8.trans (e8.trans (r3.trans (q8.trans (b8.trans (p3.trans a8))))))⟩
    have t1 := s0.trans a1
    have t2 := t1.trans (show FGO cs N u fo1 tr1 lo (i + (1 + (jx (i + 1)).length)) fo2 tr1 lo 1 by rw [← Nat.add_assoc]; exact s2)
    have t3 := t2.trans (show FGO cs N u fo2 tr1 lo (i + (1 + (jx (i + 1)).length + 1)) fo3 tr3 lo3 A.length by rw [show i + (1 + (jx (i + 1)).length + 1) = i + (jx (i + 1)).length + 2 by omega]; exact b1)
    have t4 := t3.trans (show FGO cs N u fo3 tr3 lo3 (i + (1 + (jx (i + 1)).length + 1 + A.length)) fo5 tr4 lo3 1 by rw [show i + (1 + (jx (i + 1)).length + 1 + A.length) = i + (jx (i + 1)).length + 2 + A.length by omega]; exact s3)
    have t5 := t4.trans (show FGO cs N u fo5 tr4 lo3 (i + (1 + (jx (i + 1)).length + 1 + A.length + 1)) fo6 tr6 lo6 B.length by rw [show i + (1 + (jx (i + 1)).length + 1 + A.length + 1) = i + (jx (i + 1)).length + A.length + 3 by omega]; exact e1)
    have t6 := t5.trans (show FGO cs N u fo6 tr6 lo6 (i + (1 + (jx (i + 1)).length + 1 + A.length + 1 + B.length)) fo8 tr8 lo6 1 by rw [show i + (1 + (jx (i + 1)).length + 1 + A.length + 1 + B.length) = i + (jx (i + 1)).length + A.length + 3 + B.length by omega]; exact s4)
    rw [show 1 + (jx (i + 1)).length + 1 + A.length + 1 + B.length + 1 = (jx (i + 1)).length + (A.length + (B.length + 1 + 1) + 1) + 1 by omega] at t6
    exact t6
end
