/-! FOLDING in the class: rows -/
/-- the statements of a row, the last first -/
def TMS (D : Nat → FT) (cnt : Nat) : List Int32 → List FT → Prop
  | [], [] => True
  | x :: l, T :: Q => TM D cnt x T ∧ TMS D cnt l Q
  | _, _ => False
theorem TMS.ext {D D' : Nat → FT} {n m : Nat} (he : EXT D D' n) (hm : n ≤ m) : ∀ {l : List Int32} {Q : List FT}, TMS D n l Q → TMS D' m l Q := by
  intro l
  induction l with
  | nil => intro Q h; cases Q with
    | nil => trivial
    | cons T Q => exact h.elim
  | cons x l ih => intro Q h; cases Q with
    | nil => exact h.elim
    | cons T Q => exact ⟨h.1.ext he hm, ih h.2⟩
theorem TMS.len {D : Nat → FT} {n : Nat} : ∀ {l : List Int32} {Q : List FT}, TMS D n l Q → l.length = Q.length := by
  intro l
  induction l with
  | nil => intro Q h; cases Q with
    | nil => rfl
    | cons T Q => exact h.elim
  | cons x l ih => intro Q h; cases Q with
    | nil => exact h.elim
    | cons T Q => rw [List.length_cons, List.length_cons, ih h.2]
def end6 : List FT → Bool
  | [] => false
  | T :: _ => decide (knd T = 6)
theorem cut_snoc {L : List FT} {T : FT} : (end6 (cutR L).reverse = true → cutR (L ++ [T]) = cutR L) ∧ (¬ end6 (cutR L).reverse = true → cutR (L ++ [T]) = cutR L ++ [T]) := by
  induction L with
  | nil =>
    refine ⟨fun h => (by cases h), fun _ => ?_⟩
    show (if knd T = 6 then [T] else T :: cutR []) = [T]
    split <;> rfl
  | cons x L ih =>
    by_cases h : knd x = 6
    · have e : cutR (x :: L) = [x] := if_pos h
      have e2 : cutR ((x :: L) ++ [T]) = [x] := if_pos h
      rw [e, e2]
      exact ⟨fun _ => rfl, fun q => absurd (decide_eq_true h) q⟩
    · have e : cutR (x :: L) = x :: cutR L := if_neg h
      have e2 : cutR ((x :: L) ++ [T]) = x :: cutR (L ++ [T]) := if_neg h
      rw [e, e2, List.reverse_cons]
      have k : end6 ((cutR L).reverse ++ [x]) = end6 (cutR L).reverse := by
        rcases (cutR L).reverse with _ | ⟨y, M⟩
        · exact decide_eq_false h
        · rfl
      rw [k]
      exact ⟨fun q => by rw [ih.1 q], fun q => by rw [ih.2 q]; rfl⟩
section
variable {N : Nat} {tr : TrS} {D : Nat → FT} {cnt rb0 : Nat} {fo : FoS} {st its : List Int32} {Q : List FT} {x : Int32} {T : FT}
/-- a row that is open: its statements, where the row around it began -/
def RW (D : Nat → FT) (cnt : Nat) (fo : FoS) (st : List Int32) (rb0 : Nat) (Q : List FT) : Prop := ∃ its, FS fo (its ++ nI rb0 :: st) (st.length + 1) ∧ TMS D cnt its Q
theorem RW.ext {D' : Nat → FT} {m : Nat} (h : RW D cnt fo st rb0 Q) (he : EXT D D' cnt) (hm : cnt ≤ m) : RW D' m fo st rb0 Q := by
  obtain ⟨its, h1, h2⟩ := h
  exact ⟨its, h1, h2.ext he hm⟩
theorem fa_append (h : CT tr D cnt) (hf : RW D cnt fo st rb0 Q) (hx : TM D cnt x T) (hl : Q.length + st.length + 1 < 128) : ∃ fo', f1_append x tr fo = some fo' ∧ RW D cnt fo' st rb0 (if end6 Q = true then Q else T :: Q) ∧ fo'.1 = fo.1 := by
  obtain ⟨its, hf, hq⟩ := hf
  have hlen := hq.len
  have hll : (its ++ nI rb0 :: st).length = its.length + (st.length + 1) := by rw [List.length_append, List.length_cons]
  obtain ⟨fo', p1, p2, p3⟩ := fs_push (v := x) hf (by rw [hll]; omega)
  rcases its with _ | ⟨y, its⟩
  · rcases Q with _ | ⟨U, Q⟩
    · refine ⟨fo', ?_, ?_, p3⟩
      · obtain ⟨tK, tF, tS, tT, tO, tN, tc⟩ := tr
        obtain ⟨R, S, hh, b⟩ := fo
        obtain ⟨f1, f2, f3⟩ := hf
        dsimp only at f1 f2
        rw [f1_append, if_pos (by rw [f1, f2]; exact (nI_leI (by rw [hll]; simp only [List.length_nil]; omega) (by omega)).mpr (by rw [hll]; simp only [List.length_nil]; omega)), f1_append_L39, f1_append_L40, if_pos rfl, p1]
        rfl
      · rw [if_neg (show ¬ end6 [] = true from fun q => (by cases q))]
        exact ⟨[x], p2, hx, trivial⟩
    · exact hq.elim
  · rcases Q with _ | ⟨U, Q⟩
    · exact hq.elim
    · obtain ⟨hy, hq'⟩ := hq
      obtain ⟨g1, g2⟩ := c_knd h hy
      have g6 := g2 6 (by omega) (by omega)
      have hfo := hf
      obtain ⟨f1, f2, f3⟩ := hfo
      rw [List.cons_append] at f1 f3
      obtain ⟨t1, t2⟩ := f3.top
      have hlc : (y :: (its ++ nI rb0 :: st)).length = (its ++ nI rb0 :: st).length + 1 := List.length_cons
      have hl2 : (its ++ nI rb0 :: st).length = its.length + (st.length + 1) := by rw [List.length_append, List.length_cons]
      simp only [List.length_cons] at hl hlen
      have hgs := z_gd (n := (its ++ nI rb0 :: st).length) (N := 128) (by rw [hl2]; omega) (by omega)
      have core : f1_append x tr fo = if knd U = 6 then some fo else some fo' := by
        obtain ⟨tK, tF, tS, tT, tO, tN, tc⟩ := tr
        obtain ⟨R, S, hh, b⟩ := fo
        dsimp only at f1 f2 t1 g6
        rw [hlc] at f1
        subst f1 f2
        rw [f1_append, if_neg (fun q => absurd ((nI_leI (by rw [hl2]; omega) (by omega)).mp q) (by rw [hl2]; omega)), ← nI_1, Int32.add_sub_cancel, if_neg hgs, z_nat (n := (its ++ nI rb0 :: st).length) (by rw [hl2]; omega), t1, if_neg g1]
        by_cases w : knd U = 6
        · rw [if_pos w, if_pos (show tK y.toNatClampNeg = (6 : Int32) from g6.mpr w), f1_append_L40, if_neg (by decide), nI_1]
        · rw [if_neg w, if_neg (show ¬ tK y.toNatClampNeg = (6 : Int32) from fun q => w (g6.mp q)), f1_append_L39, f1_append_L40, if_pos rfl, nI_1]
          rw [p1]
          rfl
      by_cases w : knd U = 6
      · refine ⟨fo, by rw [core, if_pos w], ?_, rfl⟩
        rw [if_pos (show end6 (U :: Q) = true from decide_eq_true w)]
        exact ⟨y :: its, hf, hy, hq'⟩
      · refine ⟨fo', by rw [core, if_neg w], ?_, p3⟩
        rw [if_neg (show ¬ end6 (U :: Q) = true from fun q => w (of_decide_eq_true q))]
        exact ⟨x :: y :: its, p2, hx, hy, hq'⟩
/-- the same, told by what stands in the row -/
theorem fa_app {P : List FT} (h : CT tr D cnt) (hf : RW D cnt fo st rb0 (cutR P).reverse) (hx : TM D cnt x T) (hl : (cutR P).length + st.length + 1 < 128) : ∃ fo', f1_append x tr fo = some fo' ∧ RW D cnt fo' st rb0 (cutR (P ++ [T])).reverse ∧ fo'.1 = fo.1 := by
  obtain ⟨fo', e1, e2, e3⟩ := fa_append h hf hx (by rw [List.length_reverse]; exact hl)
  refine ⟨fo', e1, ?_, e3⟩
  by_cases w : end6 (cutR P).reverse = true
  · rw [if_pos w] at e2
    rw [cut_snoc.1 w]
    exact e2
  · rw [if_neg w] at e2
    rw [cut_snoc.2 w, List.reverse_append]
    exact e2
/-- a list's head and its rest -/
theorem c_lst {U V : FT} (h : CT tr D cnt) (hx : TM D cnt x (lstC U V)) : ¬ (x < 0 ∨ 18755 ≤ x.toNatClampNeg) ∧ tr.1 x.toNatClampNeg = 9 ∧ TM D cnt (tr.2.1 x.toNatClampNeg) U ∧ TM D cnt (tr.2.2.1 x.toNatClampNeg) V := by
  obtain ⟨g1, g2⟩ := c_knd h hx
  refine ⟨g1, (g2 9 (by omega) (by omega)).mpr rfl, ?_⟩
  obtain ⟨hz, h4, h5, hD, h0, hrow, hI, hch⟩ := h
  obtain ⟨t, t1, t2, rfl, t4⟩ := hx
  have ht : 4 ≤ t := by
    by_cases w : 4 ≤ t
    · exact w
    · have : t = 1 ∨ t = 2 ∨ t = 3 := by omega
      rcases this with rfl | rfl | rfl
      · rw [hD.1] at t4; exact absurd t4.symm nde_nil
      · rw [hD.2.1] at t4; have := (nde_inj t4).1; omega
      · rw [hD.2.2] at t4; have := (nde_inj t4).1; omega
  obtain ⟨k, a, b, c, ⟨r1, r2, r3, r4⟩, r5, r6⟩ := hrow t ht t2
  rw [z_nat (n := t) (by omega), r2, r3]
  have hk : k = 9 := by
    have := trm_knd (D := D) (a := a) (b := b) (c := c) r5.k9
    rw [← r6, t4] at this
    exact this.symm
  subst hk
  rcases r5 with ⟨q, _⟩ | ⟨q, _⟩ | ⟨q, _⟩ | ⟨q, _⟩ | ⟨q, _⟩ | ⟨_, qa, qb, _⟩
  · omega
  · omega
  · omega
  · omega
  · omega
  · have e : lstC (D a.toNatClampNeg) (D b.toNatClampNeg) = lstC U V := r6.symm.trans t4
    obtain ⟨_, _, e1, e2, _⟩ := nde_inj e
    obtain ⟨i, i1, i2, i3⟩ := qa
    obtain ⟨j, j1, j2, j3⟩ := qb
    subst i3 j3
    rw [z_nat (n := i) (by omega)] at e1
    rw [z_nat (n := j) (by omega)] at e2
    exact ⟨⟨i, i1, by omega, rfl, e1⟩, ⟨j, j1, by omega, rfl, e2⟩⟩
theorem cutR_len {L : List FT} : (cutR L).length ≤ L.length := by
  induction L with
  | nil => exact Nat.le_refl _
  | cons x L ih =>
    rw [cutR]
    split
    · simp only [List.length_cons, List.length_nil]; omega
    · rw [List.length_cons, List.length_cons]; omega
/-- all statements of a list -/
theorem fa_all {kk : FoS → Option FoS} (h : CT tr D cnt) : ∀ (L : List FT) (n j : Nat) (x : Int32) (fo : FoS) (P : List FT), L.length < n → j + L.length < 60 → TM D cnt x (lstT L) → RW D cnt fo st rb0 (cutR P).reverse → P.length + L.length + st.length + 1 < 128 →
    ∃ fo', f1_appendAll_L4 kk N tr.1 tr.2.1 tr.2.2.1 tr.2.2.2.1 tr.2.2.2.2.1 tr.2.2.2.2.2.1 tr.2.2.2.2.2.2 n x (nI j) fo = kk fo' ∧ RW D cnt fo' st rb0 (cutR (P ++ L)).reverse ∧ fo'.1 = fo.1 := by
  intro L
  induction L with
  | nil =>
    intro n j x fo P hn hj hx hf hl
    obtain ⟨n, rfl⟩ : ∃ m, n = m + 1 := ⟨n - 1, by simp only [List.length_nil] at hn; omega⟩
    obtain ⟨g1, g2⟩ := c_knd h hx
    have g9 := g2 9 (by omega) (by omega)
    simp only [List.length_nil] at hj
    refine ⟨fo, ?_, by rw [List.append_nil]; exact hf, rfl⟩
    obtain ⟨R, S, hh, b⟩ := fo
    rw [f1_appendAll_L4, if_neg (nl_nge j 60 60 rfl (by omega) (by omega)), if_neg g1, if_neg (show ¬ tr.1 x.toNatClampNeg = (9 : Int32) from fun q => absurd (g9.mp q) (by decide))]
  | cons U L ih =>
    intro n j x fo P hn hj hx hf hl
    rw [List.length_cons] at hn hj hl
    obtain ⟨n, rfl⟩ : ∃ m, n = m + 1 := ⟨n - 1, by omega⟩
    obtain ⟨g1, g9, ga, gb⟩ := c_lst h hx
    have hcl : (cutR P).length ≤ P.length := cutR_len
    obtain ⟨fo1, a1, a2, a3⟩ := fa_app h hf ga (by omega)
    obtain ⟨fo2, b1, b2, b3⟩ := ih n (j + 1) _ fo1 (P ++ [U]) (by omega) (by omega) gb a2 (by rw [List.length_append]; simp only [List.length_cons, List.length_nil]; omega)
    refine ⟨fo2, ?_, ?_, b3.trans a3⟩
    · rw [← b1]
      obtain ⟨tK, tF, tS, tT, tO, tN, tc⟩ := tr
      obtain ⟨R, S, hh, b⟩ := fo
      obtain ⟨R1, S1, h1, bb1⟩ := fo1
      dsimp only at g9 a1 ⊢
      rw [f1_appendAll_L4, if_neg (nl_nge j 60 60 rfl (by omega) (by omega)), if_neg g1, if_pos g9, if_neg g1, a1, ob_s]
      dsimp only [nm_v]
      rw [if_neg g1, nI_1]
    · rw [List.append_assoc] at b2
      exact b2
theorem fa_appAll {L P : List FT} (hN : 200 < N) (h : CT tr D cnt) (hf : RW D cnt fo st rb0 (cutR P).reverse) (hx : TM D cnt x (lstT L)) (hL : L.length < 60) (hl : P.length + L.length + st.length + 1 < 128) : ∃ fo', f1_appendAll N x tr fo = some fo' ∧ RW D cnt fo' st rb0 (cutR (P ++ L)).reverse ∧ fo'.1 = fo.1 := by
  obtain ⟨fo', e1, e2⟩ := fa_all (N := N) (kk := fun fo => some fo) h L N 0 x fo P (by omega) (by omega) hx hf hl
  refine ⟨fo', ?_, e2⟩
  obtain ⟨tK, tF, tS, tT, tO, tN, tc⟩ := tr
  obtain ⟨R, S, hh, b⟩ := fo
  rw [f1_appendAll]
  exact e1
end
