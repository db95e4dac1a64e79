/-! RUNNING: if and while -/
section
variable {cs : CoS} {mK : MdK} {c : RC} {sz : Nat}
theorem SIN1.dep {d e : Nat} {jf : Nat → List Pce} {mf : Nat → List Mce} (h : SIN1 cs mK c sz d jf mf) (he : d ≤ e) : SIN1 cs mK c sz e jf mf := fun i m st bu a r h1 h2 h3 h4 h5 => h i m st bu a r h1 h2 h3 h4 (by omega)
theorem sm_whl {i m W e1 e2 n1 n2 : Nat} {st : List Int32} (hz : cs.2.2.2.2 = nI sz) (hsz : sz ≤ 80) (hM : MUR c) (hfu : c.1 ≤ 50) (hst : st.length < 32) {s n j : Nat} {jm : Nat} (hi : i + 1 + n1 + 1 + n2 < sz) (hm : m + 1 + e1 + 2 + e2 + 1 ≤ 512)
    (hc : ∀ bu a r, REL c (i + 1) st bu a r → RES cs mK c n1 bu a (nI (m + 1)) r (PV c BB (i + 1 + n1) (m + 1 + e1) st))
    (ha : ∀ bu a r, REL c (i + 1 + n1 + 1) st bu a r → RES cs mK c n2 bu a (nI (m + 1 + e1 + 2)) r (PN c (i + 1 + n1 + 1 + n2) (m + 1 + e1 + 2 + e2) st))
    (p1 : PcAt cs (i + 1 + n1) (13, s, n, j)) (q1 : MA mK (m + 1 + e1) (9, jm, 0)) (q2 : MA mK (m + 1 + e1 + 1) (11, 0, 0)) {s2 n3 : Nat} (p2 : PcAt cs (i + 1 + n1 + 1 + n2) (14, s2, n3, i + 1)) (q3 : MA mK (m + 1 + e1 + 2 + e2) (10, m + 1, 0)) (hW : W = n1 + 1 + n2 + 1) :
    ∀ t bu a r, c.1 - bu ≤ t → REL c (i + 1) st bu a r → RES cs mK c W bu a (nI (m + 1)) r (PN c j jm st) := by
  intro t
  induction t with
  | zero =>
    intro bu a r ht h
    refine RES.wid (RES.bind (hc bu a r h) (n2 := 1) ?_) (by omega) (fun _ _ _ _ _ h => h)
    intro bu' a' pc' r' hb ⟨v, hv, f1, f2⟩
    subst f1
    rcases i_do hz hsz (by omega) (by omega) hM hfu p1 q1 q2 hst f2 with g | ⟨a2, r2, g1, g2, g3⟩
    · exact g
    · obtain ⟨aL, aS, aV, r4, rS, rV, rM, _, _, h1, _⟩ := g3
      omega
  | succ t ih =>
    intro bu a r ht h
    refine RES.wid (RES.bind (hc bu a r h) (n2 := 1 + n2 + 1) ?_) (by omega) (fun _ _ _ _ _ h => h)
    intro bu' a' pc' r' hb ⟨v, hv, f1, f2⟩
    subst f1
    rcases i_do hz hsz (by omega) (by omega) hM hfu p1 q1 q2 hst f2 with g | ⟨a2, r2, g1, g2, g3⟩
    · exact RES.wid g (by omega) (fun _ _ _ _ _ h => h)
    · refine RES.burn g1 g2 (n2 := n2 + (1 + W)) ?_ (by omega)
      refine RES.bind (ha _ a2 r2 g3) ?_
      intro bu3 a3 pc3 r3 hb3 ⟨f3, f4⟩
      subst f3
      refine RES.bind (i_jmp (.inr rfl) hz hsz (by omega) (by omega) hM p2 q3 f4) ?_
      intro bu4 a4 pc4 r4 hb4 ⟨f5, f6⟩
      subst f5
      exact ih bu4 a4 r4 (by omega) f6
theorem sm_bsub (hR : RUN cs c sz) : ∀ d x p p', iBSub d p p' x → OKL c (sBSub d x) → SIN1 cs mK c sz (4 + 2 * d) (fun i => jBSub d i x) (fun m => mBSub d m x) := by
  intro d
  induction d with
  | zero => intro x p p' hi; exact hi.elim
  | succ d ih =>
    intro x p p' hi ho i m st bu a r h1 h2 h3 h4 h5 h6
    obtain ⟨s, x, y⟩ := x
    obtain ⟨_, p1, hi1, hi⟩ := hi
    dsimp only at h1 h2 h3 h4 hi hi1 ⊢
    rw [sBSub] at ho
    dsimp only at ho
    obtain ⟨o1, o2⟩ := ho.cons
    obtain ⟨o2, o3⟩ := o2.app
    have hx := sm_co (mK := mK) hR (d + 1) x _ _ hi1 o2
    unfold SIM at hx
    dsimp only at hx
    have hrow := fun l q q' (hq : iRow (iSt d (iBSub d)) q q' l) (hok : OKL c (sRow (sSt d (sBSub d)) l)) => (sm_row (sm_st (mK := mK) hR d ih) l q q' hq hok).dep (show 4 + 2 * d ≤ 4 + 2 * (d + 1) by omega)
    unfold SIN1 at hrow
    dsimp only at hrow
    obtain ⟨hz, hsz, hM, hfu⟩ := hR
    rcases y with ⟨r1, r2⟩ | r1
    · obtain ⟨o3, o4⟩ := o3.app
      have hb1 : ∃ q q', iRow (iSt d (iBSub d)) q q' r1 := by
        rcases r2 with _ | t
        · obtain ⟨pp, hpp, _⟩ := hi
          exact ⟨_, _, hpp⟩
        · obtain ⟨p2, ⟨pp, hpp, _⟩, _⟩ := hi
          exact ⟨_, _, hpp⟩
      obtain ⟨qa, qb, hb1⟩ := hb1
      have hra := hrow r1 _ _ hb1 o3
      rw [jBSub] at h1 h3 ⊢
      dsimp only at h1 h3 ⊢
      generalize hJc : jCo (d + 1) (i + 1) x = Jc at *
      generalize hJa : jRow (jSt d (jBSub d)) (i + 1 + Jc.length + 1) r1 = Ja at *
      simp only [List.cons_append, List.append_assoc] at h1
      obtain ⟨c0, u1⟩ := h1.cons
      obtain ⟨c1, u2⟩ := u1.app
      obtain ⟨c2, u3⟩ := u2.cons
      obtain ⟨c3, u4⟩ := u3.app
      obtain ⟨c4, u5⟩ := u4.cons
      obtain ⟨c5, u6⟩ := u5.app
      have c6 := u6.cons.1
      clear u1 u2 u3 u4 u5 u6
      rcases r2 with _ | t
      · -- no else
        have e0 : jRow (jSt d (jBSub d)) (i + 1 + Jc.length + 1 + Ja.length + 1) ((none : Option (List (SmT d ⊕ BSubT d))).getD []) = [] := rfl
        rw [e0] at c0 c4 c6 h3 ⊢
        rw [mBSub] at h2 h4 ⊢
        dsimp only at h2 h4 ⊢
        generalize hMc : mCo (d + 1) (m + 1) x = Mc at *
        generalize hMa : mRow (mSt d (mBSub d)) (m + 1 + Mc.length + 1) r1 = Ma at *
        simp only [List.cons_append, List.append_assoc] at h2
        obtain ⟨m0, m1⟩ := h2.cons
        obtain ⟨m1, m2⟩ := m1.app
        obtain ⟨m2, m3⟩ := m2.cons
        simp only [List.length_cons, List.length_append, List.length_nil, Nat.add_zero, Nat.zero_add] at h3 h4 c0 c4 c6 ⊢
        have hxx := fun bu a r h => hx (i + 1) (m + 1) st bu a r (by rw [hJc]; exact c1) (by rw [hMc]; exact m1) (by rw [hJc]; omega) (by rw [hMc]; omega) h5 h
        have hrr := fun bu a r h => hra (i + 1 + Jc.length + 1) (m + 1 + Mc.length + 1) st bu a r (by rw [hJa]; exact c3) (by rw [hMa]; exact m3) (by rw [hJa]; omega) (by rw [hMa]; omega) h5 h
        rw [hJc, hMc] at hxx
        rw [hJa, hMa] at hrr
        refine RES.wid (RES.bind (i_beg hz hsz (by omega) (by omega) hM o1.1 c0 m0 h6) (n2 := Jc.length + (1 + (Ja.length + (1 + 1)))) ?_) (by omega) (fun _ _ _ _ _ h => h)
        intro bu' a' pc' r' hb hp
        rcases hp with ⟨e1, e2⟩ | ⟨e1, e2⟩
        · subst e1
          exact RES.ret (PN.at (by omega) (by omega) _ _ _ _ ⟨rfl, e2⟩)
        · subst e1
          refine RES.bind (hxx bu' a' r' e2) ?_
          intro bu2 a2 pc2 r2 hb2 ⟨v, hv, e3, e4⟩
          subst e3
          refine RES.bind (i_then hz hsz (by omega) (by omega) hM c2 m2 (by omega) e4) ?_
          intro bu3 a3 pc3 r3 hb3 hp
          rcases hp with ⟨e5, e6⟩ | ⟨e5, e6⟩
          · subst e5
            exact RES.wid (i_nop (.inr rfl) hz hsz (by omega) c6 e6) (by omega) (fun bu a pc r _ => PN.at (by omega) (by omega) bu a pc r)
          · subst e5
            refine RES.bind (hrr bu3 a3 r3 e6) ?_
            intro bu4 a4 pc4 r4 hb4 ⟨e7, e8⟩
            subst e7
            exact RES.wid (i_els0 hz hsz (by omega) c4 e8) (by omega) (fun bu a pc r _ => PN.at (by omega) (by omega) bu a pc r)
      · -- else
        have hb2 : ∃ q q', iRow (iSt d (iBSub d)) q q' t := by
          obtain ⟨p2, _, ⟨pp, hpp, _⟩⟩ := hi
          exact ⟨_, _, hpp⟩
        obtain ⟨qc, qd, hb2⟩ := hb2
        have hrb := hrow t _ _ hb2 o4
        rw [show ((some t : Option (List (SmT d ⊕ BSubT d))).getD []) = t from rfl] at c0 c4 c5 c6 h3 ⊢
        generalize hJb : jRow (jSt d (jBSub d)) (i + 1 + Jc.length + 1 + Ja.length + 1) t = Jb at *
        rw [mBSub] at h2 h4 ⊢
        dsimp only at h2 h4 ⊢
        generalize hMc : mCo (d + 1) (m + 1) x = Mc at *
        generalize hMa : mRow (mSt d (mBSub d)) (m + 1 + Mc.length + 1) r1 = Ma at *
        generalize hMb : mRow (mSt d (mBSub d)) (m + 1 + Mc.length + 1 + Ma.length + 1) t = Mb at *
        simp only [List.cons_append, List.append_assoc] at h2
        obtain ⟨m0, m1⟩ := h2.cons
        obtain ⟨m1, m2⟩ := m1.app
        obtain ⟨m2, m3⟩ := m2.cons
        obtain ⟨m3, m4⟩ := m3.app
        obtain ⟨m4, m5⟩ := m4.cons
        simp only [List.length_cons, List.length_append, List.length_nil, Nat.add_zero, Nat.zero_add] at h3 h4 c0 c4 c6 ⊢
        have hxx := fun bu a r h => hx (i + 1) (m + 1) st bu a r (by rw [hJc]; exact c1) (by rw [hMc]; exact m1) (by rw [hJc]; omega) (by rw [hMc]; omega) h5 h
        have hrr := fun bu a r h => hra (i + 1 + Jc.length + 1) (m + 1 + Mc.length + 1) st bu a r (by rw [hJa]; exact c3) (by rw [hMa]; exact m3) (by rw [hJa]; omega) (by rw [hMa]; omega) h5 h
        have hss := fun bu a r h => hrb (i + 1 + Jc.length + 1 + Ja.length + 1) (m + 1 + Mc.length + 1 + Ma.length + 1) st bu a r (by rw [hJb]; exact c5) (by rw [hMb]; exact m5) (by rw [hJb]; omega) (by rw [hMb]; omega) h5 h
        rw [hJc, hMc] at hxx
        rw [hJa, hMa] at hrr
        rw [hJb, hMb] at hss
        refine RES.wid (RES.bind (i_beg hz hsz (by omega) (by omega) hM o1.1 c0 m0 h6) (n2 := Jc.length + (1 + (Ja.length + (1 + (Jb.length + 1))))) ?_) (by omega) (fun _ _ _ _ _ h => h)
        intro bu' a' pc' r' hb hp
        rcases hp with ⟨e1, e2⟩ | ⟨e1, e2⟩
        · subst e1
          exact RES.ret (PN.at (by omega) (by omega) _ _ _ _ ⟨rfl, e2⟩)
        · subst e1
          refine RES.bind (hxx bu' a' r' e2) ?_
          intro bu2 a2 pc2 r2 hb2 ⟨v, hv, e3, e4⟩
          subst e3
          refine RES.bind (i_then hz hsz (by omega) (by omega) hM c2 m2 (by omega) e4) ?_
          intro bu3 a3 pc3 r3 hb3 hp
          rcases hp with ⟨e5, e6⟩ | ⟨e5, e6⟩
          · subst e5
            refine RES.wid (RES.bind (hss bu3 a3 r3 e6) (n2 := 1) ?_) (by omega) (fun _ _ _ _ _ h => h)
            intro bu4 a4 pc4 r4 hb4 ⟨e7, e8⟩
            subst e7
            exact RES.wid (i_nop (.inr rfl) hz hsz (by omega) c6 e8) (by omega) (fun bu a pc r _ => PN.at (by omega) (by omega) bu a pc r)
          · subst e5
            refine RES.bind (hrr bu3 a3 r3 e6) ?_
            intro bu4 a4 pc4 r4 hb4 ⟨e7, e8⟩
            subst e7
            exact RES.wid (i_jmp (.inl rfl) hz hsz (by omega) (by omega) hM c4 m4 e8) (by omega) (fun bu a pc r _ => PN.at (by omega) (by omega) bu a pc r)
    · -- while
      obtain ⟨pp, hpp, _⟩ := hi
      have hra := hrow r1 _ _ hpp o3
      rw [jBSub] at h1 h3 ⊢
      rw [mBSub] at h2 h4 ⊢
      dsimp only at h1 h2 h3 h4 ⊢
      generalize hJc : jCo (d + 1) (i + 1) x = Jc at *
      generalize hJa : jRow (jSt d (jBSub d)) (i + 1 + Jc.length + 1) r1 = Ja at *
      generalize hMc : mCo (d + 1) (m + 1) x = Mc at *
      generalize hMa : mRow (mSt d (mBSub d)) (m + 1 + Mc.length + 2) r1 = Ma at *
      simp only [List.cons_append, List.append_assoc] at h1 h2
      obtain ⟨c0, c1⟩ := h1.cons
      obtain ⟨c1, c2⟩ := c1.app
      obtain ⟨c2, c3⟩ := c2.cons
      obtain ⟨c3, c4⟩ := c3.app
      have c4 := c4.cons.1
      obtain ⟨m0, m1⟩ := h2.cons
      obtain ⟨m1, m2⟩ := m1.app
      obtain ⟨m2, m3⟩ := m2.cons
      obtain ⟨m3, m4⟩ := m3.cons
      obtain ⟨m4, m5⟩ := m4.app
      have m5 := m5.cons.1
      simp only [List.length_cons, List.length_append, List.length_nil, Nat.add_zero, Nat.zero_add] at h3 h4 ⊢
      have hxx := fun bu a r h => hx (i + 1) (m + 1) st bu a r (by rw [hJc]; exact c1) (by rw [hMc]; exact m1) (by rw [hJc]; omega) (by rw [hMc]; omega) h5 h
      have hrr := fun bu a r h => hra (i + 1 + Jc.length + 1) (m + 1 + Mc.length + 2) st bu a r (by rw [hJa]; exact c3) (by rw [hMa]; exact m4) (by rw [hJa]; omega) (by rw [hMa]; omega) h5 h
      rw [hJc, hMc] at hxx
      rw [hJa, hMa] at hrr
      have loop := sm_whl (mK := mK) (c := c) (st := st) (i := i) (m := m) (n1 := Jc.length) (n2 := Ja.length) (e1 := Mc.length) (e2 := Ma.length) (W := Jc.length + 1 + Ja.length + 1) hz hsz hM hfu (by omega) (by omega) (by omega) hxx hrr c2 m2 m3 c4 m5 rfl
      refine RES.wid (RES.bind (i_beg hz hsz (by omega) (by omega) hM o1.1 c0 m0 h6) (n2 := Jc.length + 1 + Ja.length + 1) ?_) (by omega) (fun _ _ _ _ _ h => h)
      intro bu' a' pc' r' hb hp
      rcases hp with ⟨e1, e2⟩ | ⟨e1, e2⟩
      · subst e1
        exact RES.ret (PN.at (by omega) (by omega) _ _ _ _ ⟨rfl, e2⟩)
      · subst e1
        exact RES.wid (loop (c.1 - bu') bu' a' r' (Nat.le_refl _) e2) (Nat.le_refl _) (fun bu a pc r _ => PN.at (by omega) (by omega) bu a pc r)
theorem sm_ro (hR : RUN cs c sz) (d : Nat) : ∀ x p p', iRo d p p' x → OKL c (sRo d x) → SIN1 cs mK c sz (4 + 2 * d) (fun i => jRo d i x) (fun m => mRo d m x) := sm_row (sm_st hR d (sm_bsub hR d))
end
