/-! FOLDING in the class: while, and all rows -/
section
variable {cs : CoS} {N : Nat} {u : MTN} {sz : Nat} {α : Type}
theorem fsi_while {jx : Nat → List Pce} {sx S : List Ste} {T : FT} {La : List FT} {A : List Pce} {dep kx wa ka d i s j j2 j3 : Nat} (hR : FRUN cs N sz) (hx : OKG u sx → FEX cs N sz u dep kx jx T) (hd : dep ≤ 14) (ho : OKH u ((s, 4, 0) :: (sx ++ S)))
    (hp : (((4, s, 0, j) :: (jx (i + 1) ++ ((13, 0, 0, j2) :: (A ++ [(14, 0, 0, j3)])))).filterMap jS).Perm ((s, 4, 0) :: (sx ++ S))) (h15 : J15 ((4, s, 0, j) :: (jx (i + 1) ++ ((13, 0, 0, j2) :: (A ++ [(14, 0, 0, j3)]))))) (hj : j = i + (jx (i + 1)).length + A.length + 3)
    (hA : nI s ≠ u.1 → FSI cs N sz u d wa ka (i + (jx (i + 1)).length + 2) A La) (lA : La.length ≤ wa) :
    FSI cs N sz u (d + 1) (max 1 wa) (kx + 1 + (ka + wa)) i ((4, s, 0, j) :: (jx (i + 1) ++ ((13, 0, 0, j2) :: (A ++ [(14, 0, 0, j3)])))) (if nI s = u.1 then [] else if knd T = 11 then [] else [whlT T (lstT (cutR La))]) := by
  by_cases w : nI s = u.1
  · rw [if_pos w]
    exact fsi_out hR hp h15 ho w (by rw [hj]; simp only [List.length_append, List.length_cons, List.length_nil]; omega)
  · rw [if_neg w]
    intro st rb P D cnt fo tr lo h1 h2 h3 h4 h5 h6 h7 h8
    simp only [List.length_cons, List.length_append, List.length_nil] at h2 ⊢
    obtain ⟨c1, c2⟩ := h1.cons
    obtain ⟨c2, c3⟩ := c2.app
    obtain ⟨c3, c4⟩ := c3.cons
    obtain ⟨c4, c5⟩ := c4.app
    have c5 := c5.cons.1
    rw [show i + 1 + (jx (i + 1)).length + 1 = i + (jx (i + 1)).length + 2 by omega] at c4 c5
    obtain ⟨its, hf, hq⟩ := h6
    have hlen := hq.len
    rw [List.length_reverse] at hlen
    have hcl : (cutR P).length ≤ P.length := cutR_len
    have s0 : FGO cs N u fo tr lo i fo tr lo 1 := FGO.step hR.1 hR.2.1 (by omega) h3 c1 (by omega) (fun _ => w) (s_nop (.inr rfl))
    have hx := hx ho.cons.2.app.1.1
    unfold FEX at hx
    have hll : (its ++ nI rb :: st).length = its.length + (st.length + 1) := by rw [List.length_append, List.length_cons]
    obtain ⟨y, fo1, tr1, D1, cnt1, a1, a2, a3, a4, a5, a6, a7, a8⟩ := hx (i + 1) (its ++ nI rb :: st) (st.length + 1) D cnt fo tr lo c2 (by omega) (by omega) (by omega) hf h7 (by omega)
    have hq1 := hq.ext a6 a4
    have hl1 : (y :: (its ++ nI rb :: st)).length = its.length + st.length + 2 := by rw [List.length_cons, hll]; omega
    obtain ⟨fo2, p1, p2, p3⟩ := fs_open a2 (by omega)
    have s2 : FGO cs N u fo1 tr1 lo (i + 1 + (jx (i + 1)).length) fo2 tr1 lo 1 := FGO.step hR.1 hR.2.1 (by omega) (by omega) c3 (by omega) (fun q => by omega) (by rw [s_10 (.inr rfl), p1, ob_s])
    obtain ⟨fo3, tr3, D3, cnt3, lo3, b1, b2, b3, b4, b5, b6, b7, b8⟩ := hA w (y :: (its ++ nI rb :: st)) (st.length + 1) [] D1 cnt1 fo2 tr1 lo c4 (by omega) (by omega) (by omega) (by simp only [List.length_nil]; omega) ⟨[], p2, trivial⟩ a3 (by omega)
    rw [List.nil_append] at b3
    have lA' := cutR_len (L := La)
    obtain ⟨za, fo4, tr4, D4, cnt4, q1, q2, q3, q4, q5, q6, q7, q8⟩ := fa_close hR.2.2 b4 b3 (by rw [List.length_reverse]; omega) (by rw [List.length_reverse]; omega)
    rw [List.reverse_reverse] at q7
    rw [List.length_reverse] at q5
    have x14 : EXT D1 D4 cnt1 := b7.trans q6 b5
    obtain ⟨fo8, tr8, D8, cnt8, k1, k2, k3, k4, k5, k6, k7⟩ := c_endWhile (C := T) (rb0 := rb) hR.2.2 q3 (by omega) q2 (hq1.ext x14 (by omega)) (a7.ext x14 (by omega)) q7 (by omega)
    have s4 : FGO cs N u fo3 tr3 lo3 (i + (jx (i + 1)).length + 2 + A.length) fo8 tr8 lo3 1 := FGO.step hR.1 hR.2.1 (by omega) (by omega) c5 (by omega) (fun q => by omega) (by rw [s_14, q1, ob_s]; exact k1)
    refine ⟨fo8, tr8, D8, cnt8, lo3, ?_, by omega, k2, k3, by omega, by omega, (a6.trans x14 (by omega)).trans k6 (by omega), k7.trans (q8.trans (b8.trans (p3.trans a8)))⟩
    have t1 := s0.trans a1
    have t2 := t1.trans (show FGO cs N u fo1 tr1 lo (i + (1 + (jx (i + 1)).length)) fo2 tr1 lo 1 by rw [← Nat.add_assoc]; exact s2)
    have t3 := t2.trans (show FGO cs N u fo2 tr1 lo (i + (1 + (jx (i + 1)).length + 1)) fo3 tr3 lo3 A.length by rw [show i + (1 + (jx (i + 1)).length + 1) = i + (jx (i + 1)).length + 2 by omega]; exact b1)
    have t4 := t3.trans (show FGO cs N u fo3 tr3 lo3 (i + (1 + (jx (i + 1)).length + 1 + A.length)) fo8 tr8 lo3 1 by rw [show i + (1 + (jx (i + 1)).length + 1 + A.length) = i + (jx (i + 1)).length + 2 + A.length by omega]; exact s4)
    rw [show 1 + (jx (i + 1)).length + 1 + A.length + 1 = (jx (i + 1)).length + (A.length + 1 + 1) + 1 by omega] at t4
    exact t4
theorem fsi_st {S : Type} {d : Nat} {jg : Nat → S → List Pce} {sf : S → List Ste} {ff : S → List FT} {wf kf : S → Nat} (hR : FRUN cs N sz) (hd : d ≤ 4) (h : ∀ x, OKH u (sf x) → ∀ i, FSI cs N sz u d (wf x) (kf x) i (jg i x) (ff x)) : ∀ x, OKH u (sSt d sf x) → ∀ i, FSI cs N sz u d (wSt d wf x) (kSt d kf x) i (jSt d jg i x) (fSt u d ff x) := by
  intro x ho i
  rcases x with x | y
  · exact fsi_sm hR hd x ho i
  · exact h y ho i
theorem fsi_bsub (hR : FRUN cs N sz) : ∀ d, d ≤ 4 → ∀ x, OKH u (sBSub d x) → ∀ i, FSI cs N sz u d (wBSub d x) (kBSub d x) i (jBSub d i x) (fBSub u d x) := by
  intro d
  induction d with
  | zero => intro _ x; exact x.elim
  | succ d ih =>
    intro hd x ho i
    obtain ⟨s, c, x⟩ := x
    have hrow := fsi_row (cs := cs) (N := N) (sz := sz) (u := u) (d := d) (st_len (u := u) (d := d) (bsub_len (u := u) d)) (fsi_st hR (by omega) (ih (by omega)))
    have hlen := flat_len (st_len (u := u) (d := d) (bsub_len (u := u) d))
    have hp := pj_bsub (d + 1) i (s, c, x)
    have h15 := j15_bsub (d + 1) i (s, c, x)
    rcases x with ⟨r1, r2⟩ | r
    · have e : jBSub (d + 1) i (s, c, .inl (r1, r2)) = (4, s, 0, i + 1 + (jCo (d + 1) (i + 1) c).length + 1 + (jRow (jSt d (jBSub d)) (i + 1 + (jCo (d + 1) (i + 1) c).length + 1) r1).length + 1 + (jRow (jSt d (jBSub d)) (i + 1 + (jCo (d + 1) (i + 1) c).length + 1 + (jRow (jSt d (jBSub d)) (i + 1 + (jCo (d + 1) (i + 1) c).length + 1) r1).length + 1) (r2.getD [])).length + 1) :: (jCo (d + 1) (i + 1) c ++ ((10, 0, 0, i + 1 + (jCo (d + 1) (i + 1) c).length + 1 + (jRow (jSt d (jBSub d)) (i + 1 + (jCo (d + 1) (i + 1) c).length + 1) r1).length + 1) :: (jRow (jSt d (jBSub d)) (i + 1 + (jCo (d + 1) (i + 1) c).length + 1) r1 ++ ((11, 0, (if r2.isSome then 1 else 0), i + 1 + (jCo (d + 1) (i + 1) c).length + 1 + (jRow (jSt d (jBSub d)) (i + 1 + (jCo (d + 1) (i + 1) c).length + 1) r1).length + 1 + (jRow (jSt d (jBSub d)) (i + 1 + (jCo (d + 1) (i + 1) c).length + 1 + (jRow (jSt d (jBSub d)) (i + 1 + (jCo (d + 1) (i + 1) c).length + 1) r1).length + 1) (r2.getD [])).length + 1) :: (jRow (jSt d (jBSub d)) (i + 1 + (jCo (d + 1) (i + 1) c).length + 1 + (jRow (jSt d (jBSub d)) (i + 1 + (jCo (d + 1) (i + 1) c).length + 1) r1).length + 1) (r2.getD []) ++ [(12, 0, 0, 0)]))))) := by
        rw [jBSub]
        simp only [List.append_assoc, List.cons_append]
      rw [e] at hp h15 ⊢
      have ho' : OKH u ((s, 4, 0) :: (sCo (d + 1) c ++ (sRow (sSt d (sBSub d)) r1 ++ sRow (sSt d (sBSub d)) (r2.getD [])))) := ho
      refine fsi_if (jx := fun i => jCo (d + 1) i c) (sx := sCo (d + 1) c) hR (fx_co hR (d + 1) c) (by omega) ho' hp h15 (by omega) (fun _ => ?_) (fun _ => ?_) (hlen r1) (hlen (r2.getD []))
      · have := hrow r1 ho'.cons.2.app.2.app.1 (i + 1 + (jCo (d + 1) (i + 1) c).length + 1)
        rw [show i + (jCo (d + 1) (i + 1) c).length + 2 = i + 1 + (jCo (d + 1) (i + 1) c).length + 1 by omega]
        exact this
      · have := hrow (r2.getD []) ho'.cons.2.app.2.app.2 (i + 1 + (jCo (d + 1) (i + 1) c).length + 1 + (jRow (jSt d (jBSub d)) (i + 1 + (jCo (d + 1) (i + 1) c).length + 1) r1).length + 1)
        rw [show i + (jCo (d + 1) (i + 1) c).length + (jRow (jSt d (jBSub d)) (i + 1 + (jCo (d + 1) (i + 1) c).length + 1) r1).length + 3 = i + 1 + (jCo (d + 1) (i + 1) c).length + 1 + (jRow (jSt d (jBSub d)) (i + 1 + (jCo (d + 1) (i + 1) c).length + 1) r1).length + 1 by omega]
        exact this
    · have e : jBSub (d + 1) i (s, c, .inr r) = (4, s, 0, i + 1 + (jCo (d + 1) (i + 1) c).length + 1 + (jRow (jSt d (jBSub d)) (i + 1 + (jCo (d + 1) (i + 1) c).length + 1) r).length + 1) :: (jCo (d + 1) (i + 1) c ++ ((13, 0, 0, i + 1 + (jCo (d + 1) (i + 1) c).length + 1 + (jRow (jSt d (jBSub d)) (i + 1 + (jCo (d + 1) (i + 1) c).length + 1) r).length + 1) :: (jRow (jSt d (jBSub d)) (i + 1 + (jCo (d + 1) (i + 1) c).length + 1) r ++ [(14, 0, 0, i + 1)]))) := by
        rw [jBSub]
        simp only [List.append_assoc, List.cons_append]
      rw [e] at hp h15 ⊢
      have ho' : OKH u ((s, 4, 0) :: (sCo (d + 1) c ++ sRow (sSt d (sBSub d)) r)) := ho
      refine fsi_while (jx := fun i => jCo (d + 1) i c) (sx := sCo (d + 1) c) hR (fx_co hR (d + 1) c) (by omega) ho' hp h15 (by omega) (fun _ => ?_) (hlen r)
      have := hrow r ho'.cons.2.app.2 (i + 1 + (jCo (d + 1) (i + 1) c).length + 1)
      rw [show i + (jCo (d + 1) (i + 1) c).length + 2 = i + 1 + (jCo (d + 1) (i + 1) c).length + 1 by omega]
      exact this
theorem fsi_ro (hR : FRUN cs N sz) (d : Nat) (hd : d ≤ 4) : ∀ x, OKH u (sRo d x) → ∀ i, FSI cs N sz u d (wRo d x) (kRo d x) i (jRo d i x) (fFlat (fSt u d (fBSub u d)) x) := fsi_row (st_len (bsub_len (u := u) d)) (fsi_st hR hd (fsi_bsub hR d hd))
/-- the whole folding -/
theorem c_fold {D : Nat → FT} {cnt : Nat} {fo : FoS} {tr : TrS} {x : RoT 4} (hR : FRUN cs N sz) (hc : CSH cs 0 (jRo 4 0 x)) (hz : sz = (jRo 4 0 x).length) (ho : OKH u (sRo 4 x)) (hw : wRo 4 x ≤ 20) (h : CT tr D cnt) (hk : cnt + (kRo 4 x + wRo 4 x) ≤ 18755) :
    ∃ z fo' tr' D' cnt', f1_fold N u.1 u.2 cs fo tr = some (z, fo', tr') ∧ CT tr' D' cnt' ∧ cnt ≤ cnt' ∧ cnt' ≤ cnt + (kRo 4 x + wRo 4 x) ∧ EXT D D' cnt ∧ TM D' cnt' z (lstT (fRo u 4 x)) ∧ fo'.1 = fo.1 := by
  have hsz := hR.2.1
  obtain ⟨R, S, hh, b⟩ := fo
  have f0 : FS (R, S, 0, 0) [] 0 := ⟨rfl, rfl, trivial⟩
  obtain ⟨fo1, a1, a2, a3⟩ := fs_open f0 (by simp only [List.length_nil]; omega)
  obtain ⟨fo2, tr2, D2, cnt2, lo2, b1, b2, b3, b4, b5, b6, b7, b8⟩ := fsi_ro (u := u) hR 4 (by omega) x ho 0 [] 0 [] D cnt fo1 tr 0 hc (by omega) (by omega) (by simp only [List.length_nil]; omega) (by simp only [List.length_nil]; omega) ⟨[], a2, trivial⟩ h (by omega)
  rw [List.nil_append] at b3
  have l1 := cutR_len (L := fFlat (fSt u 4 (fBSub u 4)) x)
  have l2 := flat_len (st_len (u := u) (d := 4) (bsub_len (u := u) 4)) x
  have l3 : kRw (wSt 4 (wBSub 4)) x = wRo 4 x := rfl
  obtain ⟨z, fo3, tr3, D3, cnt3, g1, g2, g3, g4, g5, g6, g7, g8⟩ := fa_close hR.2.2 b4 b3 (by rw [List.length_reverse]; omega) (by rw [List.length_reverse]; simp only [List.length_nil]; omega)
  rw [List.reverse_reverse] at g7
  rw [List.length_reverse] at g5
  obtain ⟨fo4, k1, k2, k3⟩ := fs_pop g2 (by simp only [List.length_nil]; omega)
  refine ⟨z, fo4, tr3, D3, cnt3, ?_, g3, by omega, by omega, b7.trans g6 b5, g7, k3.trans (g8.trans (b8.trans a3))⟩
  rw [← hz] at b1
  have b1 := b1 (fun fo tr => (f1_closeRow N fo tr).bind fun q => (f1_pop q.1).bind fun w => some (w.1, w.2, q.2)) (N - sz)
  have hN := hR.2.2
  rw [show N - sz + sz = N by omega, Nat.zero_add] at b1
  obtain ⟨n, hn⟩ : ∃ n, N - sz = n + 1 := ⟨N - sz - 1, by omega⟩
  rw [hn, f1_fold_L20, hR.1, if_pos (Int32.le_refl _), g1, ob_s] at b1
  dsimp only at b1
  rw [k1, ob_s] at b1
  rw [← b1]
  obtain ⟨cw, ce, cn, cj, cz⟩ := cs
  obtain ⟨tK, tF, tS, tT, tO, tN, tc⟩ := tr
  obtain ⟨R1, S1, h1, bb1⟩ := fo1
  have hzz : cz = nI sz := hR.1
  subst hzz
  rw [f1_fold, a1, ob_s]
  rfl
end
