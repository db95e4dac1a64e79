/-! FOLDING in the class: the stack -/
def FS (fo : FoS) (st : List Int32) (rb : Nat) : Prop := fo.2.2.1 = nI st.length ∧ fo.2.2.2 = nI rb ∧ IT fo.2.1 0 st
def EXT (D D' : Nat → FT) (cnt : Nat) : Prop := ∀ i, i < cnt → D' i = D i
theorem EXT.refl {D : Nat → FT} {cnt : Nat} : EXT D D cnt := fun _ _ => rfl
theorem EXT.trans {D E F : Nat → FT} {n m : Nat} (h1 : EXT D E n) (h2 : EXT E F m) (h : n ≤ m) : EXT D F n := fun i hi => (h2 i (by omega)).trans (h1 i hi)
/-- a number that stands for a term -/
def TM (D : Nat → FT) (cnt : Nat) (x : Int32) (T : FT) : Prop := ∃ t, 1 ≤ t ∧ t < cnt ∧ x = nI t ∧ D t = T
theorem TM.ext {D D' : Nat → FT} {n m : Nat} {x : Int32} {T : FT} (h : TM D n x T) (he : EXT D D' n) (hm : n ≤ m) : TM D' m x T := by
  obtain ⟨t, h1, h2, h3, h4⟩ := h
  exact ⟨t, h1, by omega, h3, (he t h2).trans h4⟩
theorem TM.id {D : Nat → FT} {cnt : Nat} {x : Int32} {T : FT} (h : TM D cnt x T) : IDc cnt x := by
  obtain ⟨t, h1, h2, h3, h4⟩ := h
  exact ⟨t, h1, h2, h3⟩
theorem TM.den {D : Nat → FT} {cnt : Nat} {x : Int32} {T : FT} (h : TM D cnt x T) (hc : cnt ≤ 20000) : D x.toNatClampNeg = T := by
  obtain ⟨t, h1, h2, h3, h4⟩ := h
  rw [h3, z_nat (n := t) (by omega), h4]
theorem fs_push {fo : FoS} {st : List Int32} {rb : Nat} {v : Int32} (h : FS fo st rb) (hl : st.length < 128) : ∃ fo', f1_push v fo = some fo' ∧ FS fo' (v :: st) rb ∧ fo'.1 = fo.1 := by
  obtain ⟨R, S, hh, b⟩ := fo
  obtain ⟨h1, h2, h3⟩ := h
  dsimp only at h1 h2 h3
  subst h1 h2
  refine ⟨(R, upd S st.length v, nI (st.length + 1), nI rb), ?_, ⟨rfl, rfl, h3.push⟩, rfl⟩
  rw [f1_push, if_neg (nl_nge st.length 128 128 rfl hl (by omega)), if_neg (z_gd hl (by omega)), z_nat (n := st.length) (by omega), nI_1]
theorem fs_pop {fo : FoS} {st : List Int32} {rb : Nat} {v : Int32} (h : FS fo (v :: st) rb) (hl : st.length < 128) : ∃ fo', f1_pop fo = some (v, fo') ∧ FS fo' st rb ∧ fo'.1 = fo.1 := by
  obtain ⟨R, S, hh, b⟩ := fo
  obtain ⟨h1, h2, h3⟩ := h
  dsimp only at h1 h2 h3
  subst h1 h2
  obtain ⟨t1, t2⟩ := h3.top
  refine ⟨(R, S, nI st.length, nI rb), ?_, ⟨rfl, rfl, t2⟩, rfl⟩
  rw [List.length_cons, f1_pop, if_neg (nl_ne (st.length + 1) 0 0 rfl (by omega) (by omega) (by omega)), ← nI_1, Int32.add_sub_cancel, if_neg (z_gd hl (by omega)), z_nat (n := st.length) (by omega), t1]
theorem fs_open {fo : FoS} {st : List Int32} {rb : Nat} (h : FS fo st rb) (hl : st.length < 128) : ∃ fo', f1_openRow fo = some fo' ∧ FS fo' (nI rb :: st) (st.length + 1) ∧ fo'.1 = fo.1 := by
  obtain ⟨⟨R', S', h', b'⟩, e1, e2, e3⟩ := fs_push (v := nI rb) h hl
  obtain ⟨R, S, hh, b⟩ := fo
  obtain ⟨h1, h2, h3⟩ := h
  dsimp only at h1 h2 h3
  subst h2
  refine ⟨(R', S', h', h'), ?_, ⟨e2.1, e2.1, e2.2.2⟩, e3⟩
  rw [f1_openRow, e1]
  rfl
section
variable {N : Nat} {tr : TrS} {D : Nat → FT} {cnt : Nat}
theorem CT.kin (h : CT tr D cnt) {x : Int32} {T : FT} (hx : TM D cnt x T) : ∃ t, t < 18755 ∧ x = nI t ∧ (∀ k, k < 10 → (tr.1 t = nI k ↔ knd T = k ∧ 1 ≤ k ∨ k = 0 ∧ (knd T = 0 ∨ 10 ≤ knd T))) ∧ (knd T = 1 ∨ knd T = 2 → tr.2.1 t = num T) := by
  obtain ⟨hz, h4, h5, hD, h0, hrow, hI, hch⟩ := h
  obtain ⟨t, h1, h2, h3, hT⟩ := hx
  refine ⟨t, by omega, h3, ?_⟩
  by_cases ht : 4 ≤ t
  · obtain ⟨k', a, b, c, r1, r2, r3⟩ := hrow t ht h2
    have hk := trm_knd (D := D) (a := a) (b := b) (c := c) r2.k9
    have h9 := r2.k9
    rw [← r3, hT] at hk
    refine ⟨fun k hk10 => ?_, fun hkk => ?_⟩
    · rw [r1.1, hk]
      rw [nI_eq (by omega) (by omega)]
      omega
    · rw [r1.2.1]
      rw [hk] at hkk
      have e : T = trm D k' a b c := hT.symm.trans r3
      rcases hkk with rfl | rfl
      · rw [e]; exact num_nde.symm
      · rw [e]; exact num_nde.symm
  · have hk0 := h0 t (by omega)
    have : t = 1 ∨ t = 2 ∨ t = 3 := by omega
    have hT' : knd T = 0 ∨ knd T = 10 ∨ knd T = 11 := by
      rcases this with rfl | rfl | rfl
      · left; rw [← hT, hD.1]; rfl
      · right; left; rw [← hT, hD.2.1]; rfl
      · right; right; rw [← hT, hD.2.2]; rfl
    refine ⟨fun k hk10 => ?_, fun hkk => by omega⟩
    rw [hk0, show (0 : Int32) = nI 0 from rfl, nI_eq (by omega) (by omega)]
    omega
/-- is it a constant? -/
theorem c_isC (h : CT tr D cnt) {x : Int32} {T : FT} (hx : TM D cnt x T) : f6_isConstant x tr = some (if knd T = 1 then 1 else 0) := by
  obtain ⟨t, h1, rfl, h2, h3⟩ := h.kin hx
  have hg := z_gd (n := t) (N := 18755) h1 (by omega)
  have hk := h2 1 (by omega)
  obtain ⟨tK, tF, tS, tT, tO, tN, tc⟩ := tr
  dsimp only at hk
  rw [f6_isConstant, if_neg hg, z_nat (n := t) (by omega)]
  by_cases w : knd T = 1
  · rw [if_pos w, if_pos (show tK t = (1 : Int32) from hk.mpr (.inl ⟨w, by omega⟩))]
  · rw [if_neg w, if_neg (show ¬ tK t = (1 : Int32) from fun q => w (by have := hk.mp q; omega))]
theorem c_isN (h : CT tr D cnt) {x : Int32} {T : FT} (hx : TM D cnt x T) (v : Int32) : f6_isNumber x v tr = some (if knd T = 1 ∧ num T = v then 1 else 0) := by
  have e := c_isC h hx
  obtain ⟨t, h1, rfl, h2, h3⟩ := h.kin hx
  have hg := z_gd (n := t) (N := 18755) h1 (by omega)
  obtain ⟨tK, tF, tS, tT, tO, tN, tc⟩ := tr
  dsimp only at h3
  rw [f6_isNumber, e, ob_s]
  by_cases w : knd T = 1
  · rw [if_pos w, if_neg (by decide), if_neg hg, z_nat (n := t) (by omega), h3 (.inl w)]
    by_cases w2 : num T = v
    · rw [if_pos w2, if_pos ⟨w, w2⟩]
    · rw [if_neg w2, if_neg (fun q => w2 q.2)]
  · rw [if_neg w, if_pos rfl, if_neg (fun q => w q.1)]
theorem c_num (h : CT tr D cnt) {x : Int32} {T : FT} (hx : TM D cnt x T) (hk : knd T = 1 ∨ knd T = 2) : tr.2.1 x.toNatClampNeg = num T ∧ ¬ (x < 0 ∨ 18755 ≤ x.toNatClampNeg) := by
  obtain ⟨t, h1, rfl, h2, h3⟩ := h.kin hx
  refine ⟨?_, z_gd h1 (by omega)⟩
  rw [z_nat (n := t) (by omega)]
  exact h3 hk
theorem c_knd (h : CT tr D cnt) {x : Int32} {T : FT} (hx : TM D cnt x T) : ¬ (x < 0 ∨ 18755 ≤ x.toNatClampNeg) ∧ ∀ k : Nat, 1 ≤ k → k < 10 → (tr.1 x.toNatClampNeg = nI k ↔ knd T = k) := by
  obtain ⟨t, h1, rfl, h2, h3⟩ := h.kin hx
  refine ⟨z_gd h1 (by omega), fun k k1 k2 => ?_⟩
  rw [z_nat (n := t) (by omega), h2 k k2]
  omega
/-- one of the constants of the table -/
theorem c_sp (h : CT tr D cnt) : TM D cnt 1 nilT ∧ TM D cnt 2 truT ∧ TM D cnt 3 flsT := by
  obtain ⟨hz, h4, h5, hD, h0, hrow, hI, hch⟩ := h
  exact ⟨⟨1, by omega, by omega, rfl, hD.1⟩, ⟨2, by omega, by omega, rfl, hD.2.1⟩, ⟨3, by omega, by omega, rfl, hD.2.2⟩⟩
/-- two numbers are the same iff their terms are -/
theorem c_eq (h : CT tr D cnt) {x y : Int32} {T U : FT} (hx : TM D cnt x T) (hy : TM D cnt y U) : x = y ↔ T = U := by
  obtain ⟨hz, h4, h5, hD, h0, hrow, hI, hch⟩ := h
  constructor
  · intro e
    have h1 := hx.den (by omega)
    rw [e, hy.den (by omega)] at h1
    exact h1.symm
  · intro e
    exact IDc.eq (by omega) hI hx.id hy.id (by rw [hx.den (by omega), hy.den (by omega), e])
/-- making a tree -/
theorem c_mk (hN : 20000 < N) (h : CT tr D cnt) (hc : cnt < 18755) {k : Nat} {a b c : Int32} (hv : VALc cnt k a b c) : ∃ x tr' D' cnt', f6_of N (nI k) a b c tr = some (x, tr') ∧ CT tr' D' cnt' ∧ cnt ≤ cnt' ∧ cnt' ≤ cnt + 1 ∧ EXT D D' cnt ∧ TM D' cnt' x (trm D k a b c) := by
  obtain ⟨t, tr', D', cnt', e1, e2, e3, e4, e5, e6, e7, e8⟩ := c_of hN h hv hc
  exact ⟨_, tr', D', cnt', e1, e2, e3, e4, e5, t, by omega, e7, rfl, e8⟩
end
