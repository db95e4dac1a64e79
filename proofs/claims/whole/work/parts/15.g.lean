/-! FOLDING in the class: statements -/
section
variable {N : Nat} {tr : TrS} {D : Nat → FT} {cnt rb0 : Nat} {fo : FoS} {st its : List Int32} {Q P : List FT} {x y z : Int32} {T : FT}
theorem fold_lst {M : List FT} : ∀ {Q : List FT}, Q.foldl (fun acc T => lstC T acc) (lstT M) = lstT (Q.reverse ++ M) := by
  intro Q
  induction Q generalizing M with
  | nil => rfl
  | cons T Q ih =>
    rw [List.foldl_cons]
    have : lstC T (lstT M) = lstT (T :: M) := rfl
    rw [this, ih, List.reverse_cons, List.append_assoc]
    rfl
theorem fa_cl {kk : Int32 → Int32 → FoS → TrS → Option (FoS × TrS)} (hN : 20000 < N) (hfo : FS fo st rb0) : ∀ (its : List Int32) (st0 : List Int32) (Q : List FT) (n : Nat) (x : Int32) (T : FT) (tr : TrS) (D : Nat → FT) (cnt : Nat), st0.length < 128 → its.length + st0.length ≤ 128 → its.length < n → IT fo.2.1 0 (its ++ st0) → TMS D cnt its Q → CT tr D cnt → cnt + its.length ≤ 18755 → TM D cnt x T →
    ∃ z tr' D' cnt', f1_closeRow_L14 kk N n x (nI st0.length) (nI (its.length + st0.length) - 1) fo tr = kk z (nI st0.length) fo tr' ∧ CT tr' D' cnt' ∧ cnt ≤ cnt' ∧ cnt' ≤ cnt + its.length ∧ EXT D D' cnt ∧ TM D' cnt' z (Q.foldl (fun acc T => lstC T acc) T) := by
  intro its
  induction its with
  | nil =>
    intro st0 Q n x T tr D cnt h1 h2 h3 h4 h5 h6 h7 h8
    obtain ⟨n, rfl⟩ : ∃ m, n = m + 1 := ⟨n - 1, by simp only [List.length_nil] at h3; omega⟩
    cases Q with
    | cons U Q => exact h5.elim
    | nil =>
      refine ⟨x, tr, D, cnt, ?_, h6, Nat.le_refl _, by omega, EXT.refl, h8⟩
      obtain ⟨R, S, hh, b⟩ := fo
      obtain ⟨tK, tF, tS, tT, tO, tN, tc⟩ := tr
      have e : nI (([] : List Int32).length + st0.length) - 1 < nI st0.length := by
        simp only [List.length_nil, Nat.zero_add]
        rcases st0 with _ | ⟨a, st0⟩
        · decide
        · rw [List.length_cons, ← nI_1, Int32.add_sub_cancel, nI_1]
          simp only [List.length_cons] at h1
          exact (nI_ltI (by omega) (by omega)).mpr (by omega)
      rw [f1_closeRow_L14, if_pos e]
  | cons y its ih =>
    intro st0 Q n x T tr D cnt h1 h2 h3 h4 h5 h6 h7 h8
    rw [List.length_cons] at h2 h3 h7
    obtain ⟨n, rfl⟩ : ∃ m, n = m + 1 := ⟨n - 1, by omega⟩
    cases Q with
    | nil => exact h5.elim
    | cons U Q =>
      rw [List.cons_append] at h4
      obtain ⟨t1, t2⟩ := h4.top
      rw [List.length_append] at t1
      obtain ⟨z, tr1, D1, cnt1, e1, e2, e3, e4, e5, e6⟩ := c_mk (k := 9) (a := y) (b := x) (c := 0) hN h6 (by omega) (.inr (.inr (.inr (.inr (.inr ⟨.inr rfl, h5.1.id, h8.id, rfl⟩)))))
      have hcc := h6.2.2.1
      have et : trm D 9 y x 0 = lstC U T := by
        show lstC (D y.toNatClampNeg) (D x.toNatClampNeg) = _
        rw [h5.1.den (by omega), h8.den (by omega)]
      rw [et] at e6
      obtain ⟨w, tr2, D2, cnt2, f1, f2, f3, f4, f5, f6⟩ := ih st0 Q n z (lstC U T) tr1 D1 cnt1 h1 (by omega) (by omega) t2 (h5.2.ext e5 e3) e2 (by omega) e6
      refine ⟨w, tr2, D2, cnt2, ?_, f2, by omega, by rw [List.length_cons]; omega, e5.trans f5 e3, f6⟩
      rw [← f1]
      have ei : nI ((y :: its).length + st0.length) - 1 = nI (its.length + st0.length) := by
        rw [List.length_cons, show its.length + 1 + st0.length = its.length + st0.length + 1 by omega, ← nI_1, Int32.add_sub_cancel]
      have e1' : f6_of N 9 y x 0 tr = some (z, tr1) := e1
      obtain ⟨R, S, hh, b⟩ := fo
      obtain ⟨tK, tF, tS, tT, tO, tN, tc⟩ := tr
      dsimp only at t1
      rw [ei, f1_closeRow_L14, if_neg (fun q => absurd ((nI_ltI (by omega) (by omega)).mp q) (by omega)), if_neg (z_gd (n := its.length + st0.length) (N := 128) (by omega) (by omega)), z_nat (n := its.length + st0.length) (by omega), t1, e1', ob_s]
      dsimp only [nm_v]
      rw [← Int32.sub_eq_add_neg]
/-- a row is closed -/
theorem fa_close (hN : 20000 < N) (h : CT tr D cnt) (hf : RW D cnt fo st rb0 Q) (hc : cnt + Q.length ≤ 18755) (hl : Q.length + st.length + 1 < 128) : FP D cnt fo st rb0 (lstT Q.reverse) Q.length (f1_closeRow N fo tr) := by
  obtain ⟨its, hfs, hq⟩ := hf
  have hlen := hq.len
  obtain ⟨z, tr', D', cnt', e1, e2, e3, e4, e5, e6⟩ := fa_cl (N := N) (kk := fun x1_12 x2_12 c_fo c_tr => (f1_pop (c_fo.1, c_fo.2.1, x2_12, c_fo.2.2.2)).bind fun r => (f1_push x1_12 (r.2.1, r.2.2.1, r.2.2.2.1, r.1)).bind fun q => some (q, c_tr)) hN hfs its (nI rb0 :: st) Q N 1 nilT tr D cnt (by rw [List.length_cons]; omega) (by rw [List.length_cons]; omega) (by omega) hfs.2.2 hq h (by omega) (c_sp h).1
  have e6' : TM D' cnt' z (lstT Q.reverse) := by
    have := fold_lst (M := []) (Q := Q)
    rw [List.append_nil] at this
    rw [← this]
    exact e6
  have hfs' := hfs
  obtain ⟨f1, f2, f3⟩ := hfs'
  obtain ⟨R, S, hh, b⟩ := fo
  dsimp only at f1 f2 f3
  have hit : IT S 0 (nI rb0 :: st) := by
    have gen : ∀ its : List Int32, IT S 0 (its ++ nI rb0 :: st) → IT S 0 (nI rb0 :: st) := by
      intro its
      induction its with
      | nil => exact fun h => h
      | cons y its ih => exact fun h => ih h.2
    exact gen its f3
  have hfs2 : FS (R, S, nI (st.length + 1), nI (st.length + 1)) (nI rb0 :: st) (st.length + 1) := ⟨rfl, rfl, hit⟩
  obtain ⟨⟨R2, S2, h2, b2⟩, g1, g2, g3⟩ := fs_pop hfs2 (by omega)
  have hfs3 : FS (R2, S2, h2, nI rb0) st rb0 := ⟨g2.1, rfl, g2.2.2⟩
  obtain ⟨fo4, g4, g5, g6⟩ := fs_push (v := z) hfs3 (by omega)
  refine ⟨z, fo4, tr', D', cnt', ?_, g5, e2, e3, by omega, e5, e6', g6.trans g3⟩
  have hll : (its ++ nI rb0 :: st).length = its.length + (nI rb0 :: st).length := List.length_append
  obtain ⟨tK, tF, tS, tT, tO, tN, tc⟩ := tr
  rw [f1_closeRow]
  have e1' : f1_closeRow_L14 (fun x1_12 x2_12 c_fo c_tr => (f1_pop (c_fo.1, c_fo.2.1, x2_12, c_fo.2.2.2)).bind fun r => (f1_push x1_12 (r.2.1, r.2.2.1, r.2.2.2.1, r.1)).bind fun q => some (q, c_tr)) N N 1 (nI (st.length + 1)) (nI (its.length + (nI rb0 :: st).length) - 1) (R, S, hh, b) (tK, tF, tS, tT, tO, tN, tc) = (f1_pop (R, S, nI (st.length + 1), b)).bind fun r => (f1_push z (r.2.1, r.2.2.1, r.2.2.2.1, r.1)).bind fun q => some (q, tr') := e1
  rw [← hll, ← f1, f2] at e1'
  rw [nm_v, f2]
  refine Eq.trans e1' ?_
  rw [g1, ob_s]
  dsimp only
  rw [g4]
  rfl
/-- what a statement comes to -/
def FQ (D : Nat → FT) (cnt : Nat) (fo : FoS) (st : List Int32) (rb0 : Nat) (P : List FT) (K : Nat) (o : Option (FoS × TrS)) : Prop :=
  ∃ fo' tr' D' cnt', o = some (fo', tr') ∧ RW D' cnt' fo' st rb0 (cutR P).reverse ∧ CT tr' D' cnt' ∧ cnt ≤ cnt' ∧ cnt' ≤ cnt + K ∧ EXT D D' cnt ∧ fo'.1 = fo.1
theorem FQ.mk {fo1 : FoS} {k : Nat} {a b c : Int32} (hN : 20000 < N) (h : CT tr D cnt) (hc : cnt < 18755) (hv : VALc cnt k a b c) (hf : RW D cnt fo1 st rb0 (cutR P).reverse) (h1 : fo1.1 = fo.1) (hl : P.length + st.length + 1 < 128) : FQ D cnt fo st rb0 (P ++ [trm D k a b c]) 1 ((f6_of N (nI k) a b c tr).bind fun z => (f1_append z.1 z.2 fo1).bind fun q => some (q, z.2)) := by
  obtain ⟨z, tr', D', cnt', e1, e2, e3, e4, e5, e6⟩ := c_mk hN h hc hv
  have hcl : (cutR P).length ≤ P.length := cutR_len
  obtain ⟨fo', g1, g2, g3⟩ := fa_app e2 (hf.ext e5 e3) e6 (by omega)
  exact ⟨fo', tr', D', cnt', by rw [e1, ob_s, g1]; rfl, g2, e2, e3, e4, e5, g3.trans h1⟩
theorem FQ.no {fo1 : FoS} (h : CT tr D cnt) (hf : RW D cnt fo1 st rb0 (cutR P).reverse) (h1 : fo1.1 = fo.1) {K : Nat} : FQ D cnt fo st rb0 (P ++ []) K (some (fo1, tr)) := ⟨fo1, tr, D, cnt, rfl, by rw [List.append_nil]; exact hf, h, Nat.le_refl _, by omega, EXT.refl, h1⟩
theorem c_store {k : Nat} (hN : 20000 < N) (h : CT tr D cnt) (hc : cnt < 18755) (hf : FS fo (x :: (its ++ nI rb0 :: st)) (st.length + 1)) (hq : TMS D cnt its (cutR P).reverse) (hx : TM D cnt x T) (hl : P.length + st.length + 1 < 128) : FQ D cnt fo st rb0 (P ++ if knd T = 2 ∧ num T = nI k then [] else [asgT (nI k) T]) 1 (f1_store N (nI k) fo tr) := by
  have hcl : (cutR P).length ≤ P.length := cutR_len
  have hlen := hq.len
  rw [List.length_reverse] at hlen
  obtain ⟨fo1, e1, e2, e3⟩ := fs_pop hf (by rw [List.length_append, List.length_cons]; omega)
  have hrw : RW D cnt fo1 st rb0 (cutR P).reverse := ⟨its, e2, hq⟩
  obtain ⟨g1, g2⟩ := c_knd h hx
  have k2 := g2 2 (by omega) (by omega)
  have hcc := h.2.2.1
  have pm := FQ.mk (fo := fo) (k := 4) (a := nI k) (b := x) (c := 0) hN h hc (.inr (.inr (.inl ⟨rfl, hx.id, rfl⟩))) hrw e3 hl
  have et : trm D 4 (nI k) x 0 = asgT (nI k) T := by
    show asgT (nI k) (D x.toNatClampNeg) = _
    rw [hx.den (by omega)]
  rw [et] at pm
  have pn := FQ.no (fo := fo) (K := 1) h hrw e3
  have nums : knd T = 2 → tr.2.1 x.toNatClampNeg = num T := fun w => (c_num h hx (.inr w)).1
  obtain ⟨R, S, hh, b⟩ := fo
  obtain ⟨R1, S1, h1, b1⟩ := fo1
  obtain ⟨tK, tF, tS, tT, tO, tN, tc⟩ := tr
  rw [f1_store, e1, ob_s]
  dsimp only
  rw [if_neg g1]
  have l36 : FQ D cnt (R, S, hh, b) st rb0 (P ++ [asgT (nI k) T]) 1 (f1_store_L36 N (nI k) x 0 (R1, S1, h1, b1) (tK, tF, tS, tT, tO, tN, tc)) := by
    rw [f1_store_L36, if_pos (show (0 : Int32) = 0 from rfl)]
    exact pm
  by_cases w : knd T = 2
  · rw [if_pos (show tK x.toNatClampNeg = (2 : Int32) from k2.mpr w), if_neg g1]
    have hnum := nums w
    dsimp only at hnum
    rw [hnum]
    by_cases w2 : num T = nI k
    · rw [if_pos w2, if_pos (show knd T = 2 ∧ num T = nI k from ⟨w, w2⟩), f1_store_L36, if_neg (show ¬ (1 : Int32) = 0 by decide)]
      exact pn
    · rw [if_neg w2, if_neg (show ¬ (knd T = 2 ∧ num T = nI k) from fun q => w2 q.2), f1_store_L35]
      exact l36
  · rw [if_neg (show ¬ tK x.toNatClampNeg = (2 : Int32) from fun q => w (k2.mp q)), if_neg (show ¬ (knd T = 2 ∧ num T = nI k) from fun q => w q.1), f1_store_L35]
    exact l36
theorem c_two (h : CT tr D cnt) (hx : TM D cnt x T) : (x = 2 ↔ knd T = 10) ∧ (x = 3 ↔ knd T = 11) := by
  obtain ⟨t, t1, t2, t3, t4⟩ := hx
  obtain ⟨hz', h4, h5, hD, h0, hrow, hI, hch⟩ := h
  subst t3
  have low : t < 4 → t = 1 ∨ t = 2 ∨ t = 3 := by omega
  have high : 4 ≤ t → knd T ≤ 9 ∧ 1 ≤ knd T := by
    intro ht
    obtain ⟨k', a, b, c, r1, r2, r3⟩ := hrow t ht t2
    have hk := trm_knd (D := D) (a := a) (b := b) (c := c) r2.k9
    have h9 := r2.k9
    rw [← t4, r3, hk]; omega
  have e2' : nI t = 2 ↔ t = 2 := nI_eq (b := 2) (by omega) (by omega)
  have e3' : nI t = 3 ↔ t = 3 := nI_eq (b := 3) (by omega) (by omega)
  rw [e2', e3']
  by_cases ht : 4 ≤ t
  · have := high ht; omega
  · rcases low (by omega) with rfl | rfl | rfl
    · rw [← t4, hD.1]; exact ⟨by decide, by decide⟩
    · rw [← t4, hD.2.1]; exact ⟨by decide, by decide⟩
    · rw [← t4, hD.2.2]; exact ⟨by decide, by decide⟩
theorem c_check (hN : 20000 < N) (h : CT tr D cnt) (hc : cnt < 18755) (hf : FS fo (x :: (its ++ nI rb0 :: st)) (st.length + 1)) (hq : TMS D cnt its (cutR P).reverse) (hx : TM D cnt x T) (hl : P.length + st.length + 1 < 128) : FQ D cnt fo st rb0 (P ++ if knd T = 10 then [] else [chkT T]) 1 (f1_check N fo tr) := by
  have hcl : (cutR P).length ≤ P.length := cutR_len
  have hlen := hq.len
  rw [List.length_reverse] at hlen
  obtain ⟨fo1, e1, e2, e3⟩ := fs_pop hf (by rw [List.length_append, List.length_cons]; omega)
  have hrw : RW D cnt fo1 st rb0 (cutR P).reverse := ⟨its, e2, hq⟩
  have hcc := h.2.2.1
  have pm := FQ.mk (fo := fo) (k := 5) (a := x) (b := 0) (c := 0) hN h hc (.inr (.inr (.inr (.inl ⟨.inl rfl, hx.id, rfl, rfl⟩)))) hrw e3 hl
  have et : trm D 5 x 0 0 = chkT T := by
    show chkT (D x.toNatClampNeg) = _
    rw [hx.den (by omega)]
  rw [et] at pm
  have pn := FQ.no (fo := fo) (K := 1) h hrw e3
  have k2 := (c_two h hx).1
  obtain ⟨R, S, hh, b⟩ := fo
  obtain ⟨R1, S1, h1, b1⟩ := fo1
  obtain ⟨tK, tF, tS, tT, tO, tN, tc⟩ := tr
  rw [f1_check, e1, ob_s]
  dsimp only
  by_cases w : knd T = 10
  · rw [if_pos w, if_pos (k2.mpr w)]
    exact pn
  · rw [if_neg w, if_neg (fun q => w (k2.mp q))]
    exact pm
theorem c_endIf {a b c : Int32} {C : FT} {La Lb : List FT} (hN : 20000 < N) (h : CT tr D cnt) (hc : cnt < 18755) (hf : FS fo (b :: a :: c :: (its ++ nI rb0 :: st)) (st.length + 1)) (hq : TMS D cnt its (cutR P).reverse) (hC : TM D cnt c C) (hA : TM D cnt a (lstT La)) (hB : TM D cnt b (lstT Lb)) (l1 : La.length < 60) (l2 : Lb.length < 60) (hl : P.length + La.length + Lb.length + st.length + 4 < 128) :
    FQ D cnt fo st rb0 (P ++ if knd C = 10 then La else if knd C = 11 then Lb else [iteT C (lstT La) (lstT Lb)]) 1 (f1_endIf N fo tr) := by
  have hcl : (cutR P).length ≤ P.length := cutR_len
  have hlen := hq.len
  rw [List.length_reverse] at hlen
  have hlb : (its ++ nI rb0 :: st).length < 125 := by rw [List.length_append, List.length_cons]; omega
  obtain ⟨fo1, e1, e2, e3⟩ := fs_pop hf (by rw [List.length_cons, List.length_cons]; omega)
  obtain ⟨fo2, e4, e5, e6⟩ := fs_pop e2 (by rw [List.length_cons]; omega)
  obtain ⟨fo3, e7, e8, e9⟩ := fs_pop e5 (by omega)
  have hrw : RW D cnt fo3 st rb0 (cutR P).reverse := ⟨its, e8, hq⟩
  have h31 : fo3.1 = fo.1 := e9.trans (e6.trans e3)
  have hcc := h.2.2.1
  have pm := FQ.mk (fo := fo) (k := 7) (a := c) (b := a) (c := b) hN h hc (.inr (.inr (.inr (.inr (.inl ⟨rfl, hC.id, hA.id, hB.id⟩))))) hrw h31 (by omega)
  have et : trm D 7 c a b = iteT C (lstT La) (lstT Lb) := by
    show iteT (D c.toNatClampNeg) (D a.toNatClampNeg) (D b.toNatClampNeg) = _
    rw [hC.den (by omega), hA.den (by omega), hB.den (by omega)]
  rw [et] at pm
  obtain ⟨foA, a1, a2, a3⟩ := fa_appAll (N := N) (by omega) h hrw hA l1 (by omega)
  obtain ⟨foB, b1, b2, b3⟩ := fa_appAll (N := N) (by omega) h hrw hB l2 (by omega)
  obtain ⟨k2, k3⟩ := c_two h hC
  obtain ⟨R, S, hh, b'⟩ := fo
  obtain ⟨R1, S1, h1, b1'⟩ := fo1
  obtain ⟨R2, S2, h2, b2'⟩ := fo2
  obtain ⟨R3, S3, h3, b3'⟩ := fo3
  obtain ⟨tK, tF, tS, tT, tO, tN, tc⟩ := tr
  rw [f1_endIf, e1, ob_s]
  dsimp only
  rw [e4, ob_s]
  dsimp only
  rw [e7, ob_s]
  dsimp only
  by_cases w : knd C = 10
  · rw [if_pos w, if_pos (k2.mpr w), a1]
    exact ⟨foA, _, D, cnt, rfl, a2, h, Nat.le_refl _, by omega, EXT.refl, a3.trans h31⟩
  · rw [if_neg w, if_neg (fun q => w (k2.mp q))]
    by_cases w2 : knd C = 11
    · rw [if_pos w2, if_pos (k3.mpr w2), b1]
      exact ⟨foB, _, D, cnt, rfl, b2, h, Nat.le_refl _, by omega, EXT.refl, b3.trans h31⟩
    · rw [if_neg w2, if_neg (fun q => w2 (k3.mp q))]
      exact pm
theorem c_endWhile {a c : Int32} {C : FT} {La : List FT} (hN : 20000 < N) (h : CT tr D cnt) (hc : cnt < 18755) (hf : FS fo (a :: c :: (its ++ nI rb0 :: st)) (st.length + 1)) (hq : TMS D cnt its (cutR P).reverse) (hC : TM D cnt c C) (hA : TM D cnt a (lstT La)) (hl : P.length + st.length + 4 < 128) :
    FQ D cnt fo st rb0 (P ++ if knd C = 11 then [] else [whlT C (lstT La)]) 1 (f1_endWhile N fo tr) := by
  have hcl : (cutR P).length ≤ P.length := cutR_len
  have hlen := hq.len
  rw [List.length_reverse] at hlen
  have hlb : (its ++ nI rb0 :: st).length < 125 := by rw [List.length_append, List.length_cons]; omega
  obtain ⟨fo2, e4, e5, e6⟩ := fs_pop hf (by rw [List.length_cons]; omega)
  obtain ⟨fo3, e7, e8, e9⟩ := fs_pop e5 (by omega)
  have hrw : RW D cnt fo3 st rb0 (cutR P).reverse := ⟨its, e8, hq⟩
  have h31 : fo3.1 = fo.1 := e9.trans e6
  have hcc := h.2.2.1
  have pm := FQ.mk (fo := fo) (k := 8) (a := c) (b := a) (c := 0) hN h hc (.inr (.inr (.inr (.inr (.inr ⟨.inl rfl, hC.id, hA.id, rfl⟩))))) hrw h31 (by omega)
  have et : trm D 8 c a 0 = whlT C (lstT La) := by
    show whlT (D c.toNatClampNeg) (D a.toNatClampNeg) = _
    rw [hC.den (by omega), hA.den (by omega)]
  rw [et] at pm
  have pn := FQ.no (fo := fo) (K := 1) h hrw h31
  have k3 := (c_two h hC).2
  obtain ⟨R, S, hh, b'⟩ := fo
  obtain ⟨R2, S2, h2, b2'⟩ := fo2
  obtain ⟨R3, S3, h3, b3'⟩ := fo3
  obtain ⟨tK, tF, tS, tT, tO, tN, tc⟩ := tr
  rw [f1_endWhile, e4, ob_s]
  dsimp only
  rw [e7, ob_s]
  dsimp only
  by_cases w2 : knd C = 11
  · rw [if_pos w2, if_pos (k3.mpr w2)]
    exact pn
  · rw [if_neg w2, if_neg (fun q => w2 (k3.mp q))]
    exact pm
end
