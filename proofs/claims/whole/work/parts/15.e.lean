/-! FOLDING in the class: operators -/
section
variable {N : Nat} {tr : TrS} {D : Nat → FT} {cnt rb : Nat} {fo : FoS} {st : List Int32} {x y : Int32} {A B : FT}
/-- what a step of the folding comes to: one number more on the stack -/
def FP (D : Nat → FT) (cnt : Nat) (fo : FoS) (st : List Int32) (rb : Nat) (T : FT) (K : Nat) (o : Option (FoS × TrS)) : Prop :=
  ∃ z fo' tr' D' cnt', o = some (fo', tr') ∧ FS fo' (z :: st) rb ∧ CT tr' D' cnt' ∧ cnt ≤ cnt' ∧ cnt' ≤ cnt + K ∧ EXT D D' cnt ∧ TM D' cnt' z T ∧ fo'.1 = fo.1
theorem FP.push (h : CT tr D cnt) (hf : FS fo st rb) (hl : st.length < 128) (hx : TM D cnt x A) : FP D cnt fo st rb A 1 ((f1_push x fo).bind fun fo' => some (fo', tr)) := by
  obtain ⟨fo', e1, e2, e3⟩ := fs_push (v := x) hf hl
  exact ⟨x, fo', tr, D, cnt, by rw [e1]; rfl, e2, h, Nat.le_refl _, by omega, EXT.refl, hx, e3⟩
theorem FP.make (hN : 20000 < N) (h : CT tr D cnt) (hc : cnt < 18755) (hf : FS fo st rb) (hl : st.length < 128) {k : Nat} {a b c : Int32} (hv : VALc cnt k a b c) : FP D cnt fo st rb (trm D k a b c) 1 ((f6_of N (nI k) a b c tr).bind fun z => (f1_push z.1 fo).bind fun fo' => some (fo', z.2)) := by
  obtain ⟨z, tr', D', cnt', e1, e2, e3, e4, e5, e6⟩ := c_mk hN h hc hv
  obtain ⟨fo', e7, e8, e9⟩ := fs_push (v := z) hf hl
  exact ⟨z, fo', tr', D', cnt', by rw [e1, ob_s, e7]; rfl, e8, e2, e3, e4, e5, e6, e9⟩
theorem c_cnr (h : CT tr D cnt) (hx : TM D cnt x A) (o : Int32) : f1_changesNothingOnTheRight o x tr = some (if (o = 43 ∨ o = 45) ∧ knd A = 1 ∧ num A = 0 ∨ (o = 42 ∨ o = 47) ∧ knd A = 1 ∧ num A = 1 then 1 else 0) := by
  have n0 := c_isN h hx 0
  have n1 := c_isN h hx 1
  obtain ⟨tK, tF, tS, tT, tO, tN, tc⟩ := tr
  rw [f1_changesNothingOnTheRight, f1_changesNothingOnTheRight_L34, n0, n1, ob_s, ob_s]
  by_cases w1 : o = 43
  · subst w1
    rw [if_pos rfl]
    by_cases q : knd A = 1 ∧ num A = 0
    · rw [if_pos q, if_pos (.inr rfl), if_pos (.inl ⟨.inl rfl, q⟩)]
    · rw [if_neg q, if_pos (.inl rfl), if_neg]
      rintro (⟨_, h⟩ | ⟨h, _⟩)
      · exact q h
      · exact absurd h (by decide)
  · rw [if_neg w1]
    by_cases w2 : o = 45
    · subst w2
      rw [if_pos rfl]
      by_cases q : knd A = 1 ∧ num A = 0
      · rw [if_pos q, if_pos (.inr rfl), if_pos (.inl ⟨.inr rfl, q⟩)]
      · rw [if_neg q, if_pos (.inl rfl), if_neg]
        rintro (⟨_, h⟩ | ⟨h, _⟩)
        · exact q h
        · exact absurd h (by decide)
    · rw [if_neg w2]
      by_cases w3 : o = 42
      · subst w3
        rw [if_pos rfl]
        by_cases q : knd A = 1 ∧ num A = 1
        · rw [if_pos q, if_neg (by decide), if_pos (.inr ⟨.inl rfl, q⟩)]
        · rw [if_neg q, if_pos rfl, if_neg]
          rintro (⟨h, _⟩ | ⟨_, h⟩)
          · exact absurd h (by decide)
          · exact q h
      · rw [if_neg w3]
        by_cases w4 : o = 47
        · subst w4
          rw [if_pos rfl]
          by_cases q : knd A = 1 ∧ num A = 1
          · rw [if_pos q, if_neg (by decide), if_pos (.inr ⟨.inr rfl, q⟩)]
          · rw [if_neg q, if_pos rfl, if_neg]
            rintro (⟨h, _⟩ | ⟨_, h⟩)
            · exact absurd h (by decide)
            · exact q h
        · rw [if_neg w4, if_neg]
          rintro (⟨h | h, _⟩ | ⟨h | h, _⟩)
          · exact w1 h
          · exact w2 h
          · exact w3 h
          · exact w4 h
theorem c_cnl (h : CT tr D cnt) (hx : TM D cnt x A) (o : Int32) : f1_changesNothingOnTheLeft o x tr = some (if o = 43 ∧ knd A = 1 ∧ num A = 0 ∨ o = 42 ∧ knd A = 1 ∧ num A = 1 then 1 else 0) := by
  have n0 := c_isN h hx 0
  have n1 := c_isN h hx 1
  obtain ⟨tK, tF, tS, tT, tO, tN, tc⟩ := tr
  rw [f1_changesNothingOnTheLeft, f1_changesNothingOnTheLeft_L18, n0, n1, ob_s, ob_s]
  by_cases w1 : o = 43
  · subst w1
    rw [if_pos rfl]
    by_cases q : knd A = 1 ∧ num A = 0
    · rw [if_pos q, if_neg (by decide), if_pos (.inl ⟨rfl, q⟩)]
    · rw [if_neg q, if_pos rfl, if_neg (by decide), if_neg]
      rintro (⟨_, h⟩ | ⟨h, _⟩)
      · exact q h
      · exact absurd h (by decide)
  · rw [if_neg w1]
    by_cases w3 : o = 42
    · subst w3
      rw [if_pos rfl]
      by_cases q : knd A = 1 ∧ num A = 1
      · rw [if_pos q, if_neg (by decide), if_pos (.inr ⟨rfl, q⟩)]
      · rw [if_neg q, if_pos rfl, if_neg]
        rintro (⟨h, _⟩ | ⟨_, h⟩)
        · exact absurd h (by decide)
        · exact q h
    · rw [if_neg w3, if_neg]
      rintro (⟨h, _⟩ | ⟨h, _⟩)
      · exact w1 h
      · exact w3 h
theorem c_apply {o : Nat} (hN : 20000 < N) (ho : o ∈ arS) (h : CT tr D cnt) (hc : cnt < 18755) (hf : FS fo (y :: x :: st) rb) (hl : st.length + 1 < 128) (hx : TM D cnt x A) (hy : TM D cnt y B) : FP D cnt fo st rb (fSum (nI o) A B) 1 (f1_apply N (nI o) fo tr) := by
  obtain ⟨fo1, e1, e2, e3⟩ := fs_pop hf (by rw [List.length_cons]; omega)
  obtain ⟨fo2, e4, e5, e6⟩ := fs_pop e2 (by omega)
  have eA := c_isC h hx
  have eB := c_isC h hy
  have cr := c_cnr h hy (nI o)
  have cl := c_cnl h hx (nI o)
  -- behind the constants
  have l96 : FP D cnt fo st rb (fSum2 (nI o) A B) 1 (f1_apply_L96 N (nI o) y x fo2 tr) := by
    have pa := FP.push (x := x) (A := A) h e5 (by omega) hx
    have pb := FP.push (x := y) (A := B) h e5 (by omega) hy
    have pm := FP.make (k := 3) (a := nI o) (b := x) (c := y) hN h hc e5 (by omega) (.inr (.inl ⟨rfl, hx.id, hy.id⟩))
    have hcc := h.2.2.1
    have et : trm D 3 (nI o) x y = opT (nI o) A B := by
      show opT (nI o) (D x.toNatClampNeg) (D y.toNatClampNeg) = _
      rw [hx.den (by omega), hy.den (by omega)]
    rw [et] at pm
    have lift : ∀ {T : FT} {r : Option (FoS × TrS)}, FP D cnt fo2 st rb T 1 r → FP D cnt fo st rb T 1 r := by
      intro T r ⟨z, fo', tr', D', cnt', g1, g2, g3, g4, g5, g6, g7, g8⟩
      exact ⟨z, fo', tr', D', cnt', g1, g2, g3, g4, g5, g6, g7, g8.trans (e6.trans e3)⟩
    obtain ⟨R, S, hh, b⟩ := fo2
    obtain ⟨tK, tF, tS, tT, tO, tN, tc⟩ := tr
    rw [f1_apply_L96, cr, ob_s, cl, fSum2]
    by_cases w1 : (nI o = 43 ∨ nI o = 45) ∧ knd B = 1 ∧ num B = 0 ∨ (nI o = 42 ∨ nI o = 47) ∧ knd B = 1 ∧ num B = 1
    · rw [if_pos w1, if_pos w1, if_neg (by decide)]
      exact lift pa
    · rw [if_neg w1, if_neg w1, if_pos rfl, ob_s]
      by_cases w2 : nI o = 43 ∧ knd A = 1 ∧ num A = 0 ∨ nI o = 42 ∧ knd A = 1 ∧ num A = 1
      · rw [if_pos w2, if_pos w2, if_neg (by decide)]
        exact lift pb
      · rw [if_neg w2, if_neg w2, if_pos rfl]
        exact lift pm
  obtain ⟨R, S, hh, b⟩ := fo
  obtain ⟨R2, S2, h2, b2⟩ := fo2
  have em : ∀ v : Int32, FP D cnt (R, S, hh, b) st rb (cstT v) 1 ((f6_constant N v tr).bind fun z => (f1_push z.1 (R2, S2, h2, b2)).bind fun fo' => some (fo', z.2)) := by
    intro v
    obtain ⟨z, tr', D', cnt', g1, g2, g3, g4, g5, g6⟩ := c_mk (k := 1) (a := v) (b := 0) (c := 0) hN h hc (.inl ⟨.inl rfl, rfl, rfl⟩)
    obtain ⟨fo', g7, g8, g9⟩ := fs_push (v := z) e5 (by omega)
    refine ⟨z, fo', tr', D', cnt', ?_, g8, g2, g3, g4, g5, g6, g9.trans (e6.trans e3)⟩
    have g1' : f6_of N 1 v 0 0 tr = some (z, tr') := g1
    obtain ⟨tK, tF, tS, tT, tO, tN, tc⟩ := tr
    rw [f6_constant, g1', ob_s]
    dsimp only
    rw [ob_s]
    dsimp only
    rw [g7]
    rfl
  have nums : knd A = 1 → knd B = 1 → tr.2.1 x.toNatClampNeg = num A ∧ ¬ (x < 0 ∨ 18755 ≤ x.toNatClampNeg) ∧ tr.2.1 y.toNatClampNeg = num B ∧ ¬ (y < 0 ∨ 18755 ≤ y.toNatClampNeg) := fun k1 k2 => ⟨(c_num h hx (.inl k1)).1, (c_num h hx (.inl k1)).2, (c_num h hy (.inl k2)).1, (c_num h hy (.inl k2)).2⟩
  obtain ⟨tK, tF, tS, tT, tO, tN, tc⟩ := tr
  obtain ⟨R1, S1, h1, b1⟩ := fo1
  rw [f1_apply, e1, ob_s]
  dsimp only
  rw [e4, ob_s]
  dsimp only
  rw [eA, ob_s, eB, ob_s, f1_apply_L36, fSum]
  have n10 : ¬ (1 : Int32) = 0 := by decide
  by_cases kA : knd A = 1
  · rw [if_pos kA, if_neg n10]
    by_cases kB : knd B = 1
    · obtain ⟨u1, u2, u3, u4⟩ := nums kA kB
      dsimp only at u1 u3
      rw [if_pos kB, if_neg n10, f1_apply_L37, if_neg n10, if_neg u4, u3]
      rcases z_trp ho (num A) (num B) with ⟨t1, _⟩ | ⟨t1, _, v, t2, _⟩
      · rw [t1, ob_s, if_neg n10, if_neg (show ¬ (knd A = 1 ∧ knd B = 1 ∧ some (1 : Int32) = some 0) from fun q => absurd q.2.2 (by decide))]
        exact l96
      · rw [t1, ob_s, if_pos (show (0 : Int32) = 0 from rfl), if_neg u2, if_neg u4, u1, t2, ob_s, if_pos (show knd A = 1 ∧ knd B = 1 ∧ some (0 : Int32) = some 0 from ⟨kA, kB, rfl⟩)]
        exact em v
    · rw [if_neg kB, if_pos (show (0 : Int32) = 0 from rfl), f1_apply_L37, if_pos (show (0 : Int32) = 0 from rfl), if_neg (show ¬ (knd A = 1 ∧ knd B = 1 ∧ f7_traps (nI o) (num B) = some 0) from fun q => kB q.2.1)]
      exact l96
  · rw [if_neg kA, if_pos (show (0 : Int32) = 0 from rfl), f1_apply_L37, if_pos (show (0 : Int32) = 0 from rfl), if_neg (show ¬ (knd A = 1 ∧ knd B = 1 ∧ f7_traps (nI o) (num B) = some 0) from fun q => kA q.1)]
    exact l96
/-- a comparison -/
theorem c_compare {o : Int32} (hN : 20000 < N) (h : CT tr D cnt) (hc : cnt < 18755) (hf : FS fo (y :: x :: st) rb) (hl : st.length + 1 < 128) (hx : TM D cnt x A) (hy : TM D cnt y B) : FP D cnt fo st rb (fCmp o A B) 1 (f1_compare N o fo tr) := by
  obtain ⟨fo1, e1, e2, e3⟩ := fs_pop hf (by rw [List.length_cons]; omega)
  obtain ⟨fo2, e4, e5, e6⟩ := fs_pop e2 (by omega)
  have eA := c_isC h hx
  have eB := c_isC h hy
  have lift : ∀ {T : FT} {r : Option (FoS × TrS)}, FP D cnt fo2 st rb T 1 r → FP D cnt fo st rb T 1 r := by
    intro T r ⟨z, fo', tr', D', cnt', g1, g2, g3, g4, g5, g6, g7, g8⟩
    exact ⟨z, fo', tr', D', cnt', g1, g2, g3, g4, g5, g6, g7, g8.trans (e6.trans e3)⟩
  have hsp := c_sp h
  have pt := lift (FP.push (x := 2) (A := truT) h e5 (by omega) hsp.2.1)
  have pf := lift (FP.push (x := 3) (A := flsT) h e5 (by omega) hsp.2.2)
  have pm := FP.make (k := 3) (a := o) (b := x) (c := y) hN h hc e5 (by omega) (.inr (.inl ⟨rfl, hx.id, hy.id⟩))
  have hcc := h.2.2.1
  have et : trm D 3 o x y = opT o A B := by
    show opT o (D x.toNatClampNeg) (D y.toNatClampNeg) = _
    rw [hx.den (by omega), hy.den (by omega)]
  rw [et] at pm
  have pm := lift pm
  have nums : knd A = 1 → knd B = 1 → tr.2.1 x.toNatClampNeg = num A ∧ ¬ (x < 0 ∨ 18755 ≤ x.toNatClampNeg) ∧ tr.2.1 y.toNatClampNeg = num B ∧ ¬ (y < 0 ∨ 18755 ≤ y.toNatClampNeg) := fun k1 k2 => ⟨(c_num h hx (.inl k1)).1, (c_num h hx (.inl k1)).2, (c_num h hy (.inl k2)).1, (c_num h hy (.inl k2)).2⟩
  obtain ⟨R, S, hh, b⟩ := fo
  obtain ⟨R2, S2, h2, b2⟩ := fo2
  obtain ⟨tK, tF, tS, tT, tO, tN, tc⟩ := tr
  obtain ⟨R1, S1, h1, b1⟩ := fo1
  have n10 : ¬ (1 : Int32) = 0 := by decide
  have z00 : (0 : Int32) = 0 := rfl
  have l73 : FP D cnt (R, S, hh, b) st rb (opT o A B) 1 (f1_compare_L73 N o y x (R2, S2, h2, b2) (tK, tF, tS, tT, tO, tN, tc)) := pm
  rw [f1_compare, e1, ob_s]
  dsimp only
  rw [e4, ob_s]
  dsimp only
  rw [eA, ob_s, eB, ob_s, fCmp]
  by_cases kA : knd A = 1
  · rw [if_pos kA, if_neg n10]
    by_cases kB : knd B = 1
    · obtain ⟨u1, u2, u3, u4⟩ := nums kA kB
      dsimp only at u1 u3
      rw [if_pos kB, if_neg n10, if_neg u2, if_neg u4, u1, u3, if_pos (show knd A = 1 ∧ knd B = 1 from ⟨kA, kB⟩)]
      obtain ⟨v, hv, q1, _⟩ := z_cmr o (num A) (num B)
      rw [q1, ob_s]
      rcases hv with rfl | rfl
      · rw [if_pos z00, if_pos (show some (0 : Int32) = some 0 from rfl)]
        exact pf
      · rw [if_neg n10, if_neg (show ¬ some (1 : Int32) = some 0 by decide)]
        exact pt
    · rw [if_neg kB, if_pos z00, if_neg (show ¬ (knd A = 1 ∧ knd B = 1) from fun q => kB q.2)]
      exact l73
  · rw [if_neg kA, if_pos z00, if_neg (show ¬ (knd A = 1 ∧ knd B = 1) from fun q => kA q.1)]
    exact l73
/-- & and | -/
theorem c_join {o : Int32} (hN : 20000 < N) (h : CT tr D cnt) (hc : cnt < 18755) (hf : FS fo (y :: x :: st) rb) (hl : st.length + 1 < 128) (hx : TM D cnt x A) (hy : TM D cnt y B) : FP D cnt fo st rb (fBth o A B) 1 (f1_join N o fo tr) := by
  obtain ⟨fo1, e1, e2, e3⟩ := fs_pop hf (by rw [List.length_cons]; omega)
  obtain ⟨fo2, e4, e5, e6⟩ := fs_pop e2 (by omega)
  have lift : ∀ {T : FT} {r : Option (FoS × TrS)}, FP D cnt fo2 st rb T 1 r → FP D cnt fo st rb T 1 r := by
    intro T r ⟨z, fo', tr', D', cnt', g1, g2, g3, g4, g5, g6, g7, g8⟩
    exact ⟨z, fo', tr', D', cnt', g1, g2, g3, g4, g5, g6, g7, g8.trans (e6.trans e3)⟩
  have hsp := c_sp h
  have pa := lift (FP.push (x := x) (A := A) h e5 (by omega) hx)
  have pb := lift (FP.push (x := y) (A := B) h e5 (by omega) hy)
  have pm := FP.make (k := 3) (a := o) (b := x) (c := y) hN h hc e5 (by omega) (.inr (.inl ⟨rfl, hx.id, hy.id⟩))
  have hcc := h.2.2.1
  have et : trm D 3 o x y = opT o A B := by
    show opT o (D x.toNatClampNeg) (D y.toNatClampNeg) = _
    rw [hx.den (by omega), hy.den (by omega)]
  rw [et] at pm
  have pm := lift pm
  have tk : ∀ {z : Int32} {T : FT}, TM D cnt z T → (z = 2 ↔ knd T = 10) ∧ (z = 3 ↔ knd T = 11) := by
    intro z T hz
    have hh := h
    obtain ⟨t, t1, t2, t3, t4⟩ := hz
    obtain ⟨hz', h4, h5, hD, h0, hrow, hI, hch⟩ := hh
    subst t3
    have low : t < 4 → t = 1 ∨ t = 2 ∨ t = 3 := by omega
    have high : 4 ≤ t → knd T ≤ 9 ∧ 1 ≤ knd T := by
      intro ht
      obtain ⟨k', a, b, c, r1, r2, r3⟩ := hrow t ht t2
      have hk := trm_knd (D := D) (a := a) (b := b) (c := c) r2.k9
      have h9 := r2.k9
      rw [← t4, r3, hk]; omega
    have e2' : nI t = 2 ↔ t = 2 := nI_eq (b := 2) (by omega) (by omega)
    have e3' : nI t = 3 ↔ t = 3 := nI_eq (b := 3) (by omega) (by omega)
    rw [e2', e3']
    by_cases ht : 4 ≤ t
    · have := high ht; omega
    · rcases low (by omega) with rfl | rfl | rfl
      · rw [← t4, hD.1]; exact ⟨by decide, by decide⟩
      · rw [← t4, hD.2.1]; exact ⟨by decide, by decide⟩
      · rw [← t4, hD.2.2]; exact ⟨by decide, by decide⟩
  obtain ⟨a2, a3⟩ := tk hx
  obtain ⟨b2', b3'⟩ := tk hy
  obtain ⟨R, S, hh, b⟩ := fo
  obtain ⟨R2, S2, h2, b2⟩ := fo2
  obtain ⟨tK, tF, tS, tT, tO, tN, tc⟩ := tr
  obtain ⟨R1, S1, h1, b1⟩ := fo1
  rw [f1_join, e1, ob_s]
  dsimp only
  rw [e4, ob_s]
  dsimp only
  rw [f1_join_L21, f1_join_L21, fBth]
  by_cases w : o = 38
  · rw [if_pos w, if_pos w, if_pos w, f1_join_L34]
    by_cases w1 : knd A = 10
    · rw [if_pos w1, if_pos (a2.mpr w1)]; exact pb
    · rw [if_neg w1, if_neg (fun q => w1 (a2.mp q))]
      by_cases w2 : knd A = 11
      · rw [if_pos (show knd A = 11 ∨ knd B = 10 from .inl w2), if_pos (a3.mpr w2)]; exact pa
      · rw [if_neg (fun q => w2 (a3.mp q))]
        by_cases w3 : knd B = 10
        · rw [if_pos (show knd A = 11 ∨ knd B = 10 from .inr w3), if_pos (b2'.mpr w3)]; exact pa
        · rw [if_neg (show ¬ (knd A = 11 ∨ knd B = 10) from fun q => q.elim w2 w3), if_neg (fun q => w3 (b2'.mp q))]; exact pm
  · rw [if_neg w, if_neg w, if_neg w, f1_join_L34]
    by_cases w1 : knd A = 11
    · rw [if_pos w1, if_pos (a3.mpr w1)]; exact pb
    · rw [if_neg w1, if_neg (fun q => w1 (a3.mp q))]
      by_cases w2 : knd A = 10
      · rw [if_pos (show knd A = 10 ∨ knd B = 11 from .inl w2), if_pos (a2.mpr w2)]; exact pa
      · rw [if_neg (fun q => w2 (a2.mp q))]
        by_cases w3 : knd B = 11
        · rw [if_pos (show knd A = 10 ∨ knd B = 11 from .inr w3), if_pos (b3'.mpr w3)]; exact pa
        · rw [if_neg (show ¬ (knd A = 10 ∨ knd B = 11) from fun q => q.elim w2 w3), if_neg (fun q => w3 (b3'.mp q))]; exact pm
end
