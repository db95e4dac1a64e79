/-! FOLDING in the class: statements and rows -/
section
variable {N : Nat} {a b : Int32} {fo : FoS} {tr : TrS}
theorem s_7 : f1_step N (nI 7) a b fo tr = f1_store N a fo tr := by
  obtain ⟨R, S, hh, b'⟩ := fo
  obtain ⟨tK, tF, tS, tT, tO, tN, tc⟩ := tr
  rw [f1_step, if_neg (by decide), if_neg (by decide), if_neg (by decide), if_neg (by decide), if_neg (by decide), if_pos (by decide)]
  cases f1_store N a (R, S, hh, b') (tK, tF, tS, tT, tO, tN, tc) <;> rfl
theorem s_8 : f1_step N (nI 8) a b fo tr = f1_check N fo tr := by
  obtain ⟨R, S, hh, b'⟩ := fo
  obtain ⟨tK, tF, tS, tT, tO, tN, tc⟩ := tr
  rw [f1_step, if_neg (by decide), if_neg (by decide), if_neg (by decide), if_neg (by decide), if_neg (by decide), if_neg (by decide), if_pos (by decide)]
  cases f1_check N (R, S, hh, b') (tK, tF, tS, tT, tO, tN, tc) <;> rfl
theorem s_9 : f1_step N (nI 9) a b fo tr = (f1_pop fo).bind fun q => (f6_of N 6 q.1 0 0 tr).bind fun z => (f1_append z.1 z.2 q.2).bind fun w => some (w, z.2) := by
  obtain ⟨R, S, hh, b'⟩ := fo
  obtain ⟨tK, tF, tS, tT, tO, tN, tc⟩ := tr
  rw [f1_step, if_neg (by decide), if_neg (by decide), if_neg (by decide), if_neg (by decide), if_neg (by decide), if_neg (by decide), if_neg (by decide), if_pos (by decide)]
theorem s_10 {w : Nat} (hw : w = 10 ∨ w = 13) : f1_step N (nI w) a b fo tr = (f1_openRow fo).bind fun q => some (q, tr) := by
  obtain ⟨R, S, hh, b'⟩ := fo
  obtain ⟨tK, tF, tS, tT, tO, tN, tc⟩ := tr
  rcases hw with rfl | rfl
  · rw [f1_step, if_neg (by decide), if_neg (by decide), if_neg (by decide), if_neg (by decide), if_neg (by decide), if_neg (by decide), if_neg (by decide), if_neg (by decide), if_pos (by decide)]
  · rw [f1_step, if_neg (by decide), if_neg (by decide), if_neg (by decide), if_neg (by decide), if_neg (by decide), if_neg (by decide), if_neg (by decide), if_neg (by decide), if_neg (by decide), if_neg (by decide), if_neg (by decide), if_pos (by decide)]
theorem s_11 : f1_step N (nI 11) a b fo tr = (f1_closeRow N fo tr).bind fun q => (f1_openRow q.1).bind fun w => some (w, q.2) := by
  obtain ⟨R, S, hh, b'⟩ := fo
  obtain ⟨tK, tF, tS, tT, tO, tN, tc⟩ := tr
  rw [f1_step, if_neg (by decide), if_neg (by decide), if_neg (by decide), if_neg (by decide), if_neg (by decide), if_neg (by decide), if_neg (by decide), if_neg (by decide), if_neg (by decide), if_pos (by decide)]
theorem s_12 : f1_step N (nI 12) a b fo tr = (f1_closeRow N fo tr).bind fun q => f1_endIf N q.1 q.2 := by
  obtain ⟨R, S, hh, b'⟩ := fo
  obtain ⟨tK, tF, tS, tT, tO, tN, tc⟩ := tr
  rw [f1_step, if_neg (by decide), if_neg (by decide), if_neg (by decide), if_neg (by decide), if_neg (by decide), if_neg (by decide), if_neg (by decide), if_neg (by decide), if_neg (by decide), if_neg (by decide), if_pos (by decide)]
  congr 1
  funext q
  obtain ⟨⟨f1, f2, f3, f4⟩, f5, f6, f7, f8, f9, f10, f11⟩ := q
  dsimp only
  cases f1_endIf N (f1, f2, f3, f4) (f5, f6, f7, f8, f9, f10, f11) <;> rfl
theorem s_14 : f1_step N (nI 14) a b fo tr = (f1_closeRow N fo tr).bind fun q => f1_endWhile N q.1 q.2 := by
  obtain ⟨R, S, hh, b'⟩ := fo
  obtain ⟨tK, tF, tS, tT, tO, tN, tc⟩ := tr
  rw [f1_step, if_neg (by decide), if_neg (by decide), if_neg (by decide), if_neg (by decide), if_neg (by decide), if_neg (by decide), if_neg (by decide), if_neg (by decide), if_neg (by decide), if_neg (by decide), if_neg (by decide), if_neg (by decide), if_pos (by decide)]
  congr 1
  funext q
  obtain ⟨⟨f1, f2, f3, f4⟩, f5, f6, f7, f8, f9, f10, f11⟩ := q
  dsimp only
  cases f1_endWhile N (f1, f2, f3, f4) (f5, f6, f7, f8, f9, f10, f11) <;> rfl
end
section
variable {cs : CoS} {N : Nat} {u : MTN} {sz : Nat}
def OKH (u : MTN) (L : List Ste) : Prop := OKG u L ∧ L.Pairwise (fun a b => a.1 < b.1)
theorem OKH.app {L M : List Ste} (h : OKH u (L ++ M)) : OKH u L ∧ OKH u M := ⟨⟨h.1.app.1, (List.pairwise_append.mp h.2).1⟩, ⟨h.1.app.2, (List.pairwise_append.mp h.2).2.1⟩⟩
theorem OKH.cons {e : Ste} {L : List Ste} (h : OKH u (e :: L)) : OKF u e ∧ OKH u L := ⟨h.1.cons.1, h.1.cons.2, (List.pairwise_cons.mp h.2).2⟩
theorem out_of {s n j : Nat} {M : List Pce} {S : List Ste} (hp : (((4, s, n, j) :: M).filterMap jS).Perm ((s, 4, n) :: S)) (h15 : J15 ((4, s, n, j) :: M)) (ho : OKH u ((s, 4, n) :: S)) (hs : nI s = u.1) : ∀ q, q ∈ M → q.1 < 15 ∧ (q.1 = 4 → nI q.2.1 ≠ u.1) := by
  intro q hq
  refine ⟨h15 q (List.mem_cons_of_mem _ hq), fun w he => ?_⟩
  have hf : List.filterMap jS ((4, s, n, j) :: M) = (s, 4, n) :: List.filterMap jS M := by
    rw [List.filterMap_cons_some (b := (s, 4, n))]
    exact if_pos (Nat.le_refl 4)
  rw [hf] at hp
  have hp := hp.cons_inv
  have hm : (q.2.1, q.1, q.2.2.1) ∈ S := hp.mem_iff.mp (List.mem_filterMap.mpr ⟨q, hq, if_pos (by omega)⟩)
  have h1 := (List.pairwise_cons.mp ho.2).1 _ hm
  have h2 := (ho.1 _ (List.mem_cons_of_mem _ hm)).1
  dsimp only at h1 h2
  have := (nI_eq (by omega) (by omega)).mp (he.trans hs.symm)
  omega
/-- code of statements, at its place -/
def FSI (cs : CoS) (N sz : Nat) (u : MTN) (d w K i : Nat) (J : List Pce) (L : List FT) : Prop :=
  ∀ st rb P D cnt fo tr lo, CSH cs i J → i + J.length ≤ sz → lo ≤ i → st.length + 23 * d ≤ 92 → P.length + w ≤ 20 → RW D cnt fo st rb (cutR P).reverse → CT tr D cnt → cnt + K ≤ 18755 →
    ∃ fo' tr' D' cnt' lo', FGO cs N u fo tr lo i fo' tr' lo' J.length ∧ lo' ≤ i + J.length ∧ RW D' cnt' fo' st rb (cutR (P ++ L)).reverse ∧ CT tr' D' cnt' ∧ cnt ≤ cnt' ∧ cnt' ≤ cnt + K ∧ EXT D D' cnt ∧ fo'.1 = fo.1
/-- one that is left out -/
theorem fsi_out {d w K i s j : Nat} {M : List Pce} {S : List Ste} (hR : FRUN cs N sz) (hp : (((4, s, 0, j) :: M).filterMap jS).Perm ((s, 4, 0) :: S)) (h15 : J15 ((4, s, 0, j) :: M)) (ho : OKH u ((s, 4, 0) :: S)) (hs : nI s = u.1) (hj : j = i + M.length + 1) : FSI cs N sz u d w K i ((4, s, 0, j) :: M) [] := by
  intro st rb P D cnt fo tr lo h1 h2 h3 h4 h5 h6 h7 h8
  rw [List.length_cons] at h2
  have hsz := hR.2.1
  obtain ⟨c1, c2⟩ := h1.cons
  have g1 := FGO.out (N := N) (fo := fo) (tr := tr) (lo := lo) hR.1 hR.2.1 (by omega) c1 hs (by omega) (by omega)
  have g2 := FGO.skip (N := N) (fo := fo) (tr := tr) (lo := j) (u := u) hR.1 hR.2.1 M (i + 1) c2 (by omega) (by omega) (by omega) (out_of hp h15 ho hs)
  refine ⟨fo, tr, D, cnt, j, ?_, by rw [List.length_cons]; omega, by rw [List.append_nil]; exact h6, h7, Nat.le_refl _, by omega, EXT.refl, rfl⟩
  have := g1.trans g2
  rw [Nat.add_comm 1] at this
  exact this
/-- a simple one -/
theorem fsi_one {jx : Nat → List Pce} {sx : List Ste} {T : FT} {L : List FT} {dep kx wq k s d i j : Nat} (hR : FRUN cs N sz) (hx : OKG u sx → FEX cs N sz u dep kx jx T) (hd : dep ≤ 14) (hw : 4 < wq) (hw2 : wq < 15) (hw3 : wq ≠ 6 ∧ wq ≠ 11) (hp : ((jx (i + 1)).filterMap jS).Perm sx) (h15 : J15 (jx (i + 1))) (ho : OKH u ((s, 4, 0) :: sx)) (hj : j = i + (jx (i + 1)).length + 2)
    (hs : ∀ (tr : TrS) (D : Nat → FT) (cnt : Nat) (fo : FoS) (st its : List Int32) (rb : Nat) (x b : Int32) (P : List FT), CT tr D cnt → cnt < 18755 → FS fo (x :: (its ++ nI rb :: st)) (st.length + 1) → TMS D cnt its (cutR P).reverse → TM D cnt x T → P.length + st.length + 1 < 128 → FQ D cnt fo st rb (P ++ L) 1 (f1_step N (nI wq) (nI k) b fo tr)) :
    FSI cs N sz u d 1 (kx + 1) i ((4, s, 0, j) :: (jx (i + 1) ++ [(wq, 0, k, 0)])) (if nI s = u.1 then [] else L) := by
  by_cases w : nI s = u.1
  · rw [if_pos w]
    exact fsi_out hR (pj_beg (pj_nil hp hw)) (J15.cons (by omega) (h15.app (J15.cons (by omega) J15.nil))) ho w (by rw [List.length_append, hj]; simp only [List.length_cons, List.length_nil]; omega)
  · rw [if_neg w]
    intro st rb P D cnt fo tr lo h1 h2 h3 h4 h5 h6 h7 h8
    simp only [List.length_cons, List.length_append, List.length_nil] at h2 ⊢
    obtain ⟨c1, c2⟩ := h1.cons
    obtain ⟨c2, c3⟩ := c2.app
    obtain ⟨its, hf, hq⟩ := h6
    have hlen := hq.len
    rw [List.length_reverse] at hlen
    have hcl : (cutR P).length ≤ P.length := cutR_len
    have s0 : FGO cs N u fo tr lo i fo tr lo 1 := FGO.step hR.1 hR.2.1 (by omega) h3 c1 (by omega) (fun _ => w) (s_nop (.inr rfl))
    have hx := hx ho.cons.2.1
    unfold FEX at hx
    obtain ⟨y, fo1, tr1, D1, cnt1, a1, a2, a3, a4, a5, a6, a7, a8⟩ := hx (i + 1) (its ++ nI rb :: st) (st.length + 1) D cnt fo tr lo c2 (by omega) (by omega) (by rw [List.length_append, List.length_cons]; omega) hf h7 (by omega)
    have c3 := c3.cons.1
    have hk : cs.2.2.1 (i + 1 + (jx (i + 1)).length) = nI k := c3.2.2.2 (by dsimp only; omega)
    obtain ⟨fo2, tr2, D2, cnt2, b1, b2, b3, b4, b5, b6, b7⟩ := hs tr1 D1 cnt1 fo1 st its rb y (if cs.2.1 (i + 1 + (jx (i + 1)).length) = u.1 then u.2 else cs.2.2.1 (i + 1 + (jx (i + 1)).length)) P a3 (by omega) a2 (hq.ext a6 a4) a7 (by omega)
    rw [← hk] at b1
    have s2 : FGO cs N u fo1 tr1 lo (i + 1 + (jx (i + 1)).length) fo2 tr2 lo 1 := FGO.step hR.1 hR.2.1 (by omega) (by omega) c3 hw2 (fun q => by omega) b1
    refine ⟨fo2, tr2, D2, cnt2, lo, ?_, by omega, b2, b3, by omega, by omega, a6.trans b6 a4, b7.trans a8⟩
    have := (s0.trans a1).trans (show FGO cs N u fo1 tr1 lo (i + (1 + (jx (i + 1)).length)) fo2 tr2 lo 1 by rw [← Nat.add_assoc]; exact s2)
    rw [show 1 + (jx (i + 1)).length + 1 = (jx (i + 1)).length + 1 + 1 by omega] at this
    exact this
theorem fsi_sm (hR : FRUN cs N sz) {d : Nat} (hd : d ≤ 4) (x : SmT d) (ho : OKH u (sSm d x)) (i : Nat) : FSI cs N sz u d 1 (kSm d x) i (jSm d i x) (fSm u d x) := by
  obtain ⟨s, x⟩ := x
  rcases x with ⟨k, e⟩ | e | c
  · exact fsi_one (jx := fun _ => jEx d e) (L := if knd (fEx u d e) = 2 ∧ num (fEx u d e) = nI k then [] else [asgT (nI k) (fEx u d e)]) hR (fx_ex hR d e) (by omega) (by omega) (by omega) (by omega) (pj_ex d e) (j15_ex d e) ho rfl (fun tr D cnt fo st its rb x b P g1 g2 g3 g4 g5 g6 => by rw [s_7]; exact c_store hR.2.2 g1 g2 g3 g4 g5 g6)
  · refine fsi_one (jx := fun _ => jEx d e) (L := [retT (fEx u d e)]) hR (fx_ex hR d e) (by omega) (by omega) (by omega) (by omega) (pj_ex d e) (j15_ex d e) ho rfl (fun tr D cnt fo st its rb x b P g1 g2 g3 g4 g5 g6 => ?_)
    have hcl : (cutR P).length ≤ P.length := cutR_len
    have hlen := g4.len
    rw [List.length_reverse] at hlen
    obtain ⟨fo1, e1, e2, e3⟩ := fs_pop g3 (by rw [List.length_append, List.length_cons]; omega)
    have pm := FQ.mk (fo := fo) (k := 6) (a := x) (b := 0) (c := 0) hR.2.2 g1 g2 (.inr (.inr (.inr (.inl ⟨.inr rfl, g5.id, rfl, rfl⟩)))) ⟨its, e2, g4⟩ e3 g6
    have hcc := g1.2.2.1
    have et : trm D 6 x 0 0 = retT (fEx u d e) := by
      show retT (D x.toNatClampNeg) = _
      rw [g5.den (by omega)]
    rw [et] at pm
    rw [s_9, e1, ob_s]
    exact pm
  · exact fsi_one (jx := fun i => jCo d i c) (L := if knd (fCo u d c) = 10 then [] else [chkT (fCo u d c)]) hR (fx_co hR d c) (by omega) (by omega) (by omega) (by omega) (pj_co d _ c) (j15_co d _ c) ho rfl (fun tr D cnt fo st its rb x b P g1 g2 g3 g4 g5 g6 => by rw [s_8]; exact c_check hR.2.2 g1 g2 g3 g4 g5 g6)
end
