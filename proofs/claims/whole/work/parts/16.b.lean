/-! FOLDING in the reference: a tree is found, or made -/
def chM (k a b c : Int32) : Int32 := (((k * 31 + a * 17) + b * 7) + c) &&& 255
theorem chM_256 (k a b c : Int32) : ∃ h, h < 256 ∧ chM k a b c = nI h := by
  obtain ⟨h, h1, h2⟩ := z_and (x := ((k * 31 + a * 17) + b * 7) + c) (m := 255) (by omega)
  exact ⟨h, by omega, h2⟩
def ROWm (mH : MdH) (t k : Nat) (a b c : Int32) : Prop := mH.2.1 t = nI k ∧ mH.2.2.1 t = a ∧ mH.2.2.2.1 t = b ∧ mH.2.2.2.2.1 t = c
def CM (mH : MdH) (D : Nat → FT) (cnt : Nat) : Prop :=
  mH.1 = nI cnt ∧ cnt ≤ 4200 ∧ (∀ t, t < cnt → ∃ k a b c, ROWm mH t k a b c ∧ VM t k a b c ∧ D t = tM D k a b c) ∧ INJ D 0 cnt ∧
  ∃ ch : Nat → List Nat, (∀ h, h < 256 → LNK mH.2.2.2.2.2.1 (-1) (mH.2.2.2.2.2.2.1 h) (ch h) ∧ DSC cnt (ch h)) ∧ ∀ t k a b c, t < cnt → ROWm mH t k a b c → ∃ h, h < 256 ∧ chM (nI k) a b c = nI h ∧ t ∈ ch h
theorem CM.nn {mH : MdH} {D : Nat → FT} {cnt : Nat} (h : CM mH D cnt) : ∀ t, t < cnt → D t ≠ nilT := by
  intro t ht
  obtain ⟨k, a, b, c, r1, r2, r3⟩ := h.2.2.1 t ht
  rw [r3]
  exact (kofM_tM (D := D) r2).2
theorem m_walk {kk : Int32 → Int32 → Int32 → Int32 → Int32 → Int32 → MdH → Option (Int32 × MdH)} {N : Nat} {mH : MdH} {x1 x2 x3 x4 x5 : Int32} : ∀ L n v, LNK mH.2.2.2.2.2.1 (-1) v L → (∀ t, t ∈ L → t < 4200) → L.length < n →
    (∃ t, t ∈ L ∧ (mH.2.1 t = x1 ∧ mH.2.2.1 t = x2 ∧ mH.2.2.2.1 t = x3 ∧ mH.2.2.2.2.1 t = x4) ∧ f8_number_L32 kk N n x1 x2 x3 x4 x5 v mH = kk x1 x2 x3 x4 x5 (nI t) mH) ∨
    ((∀ t, t ∈ L → ¬ (mH.2.1 t = x1 ∧ mH.2.2.1 t = x2 ∧ mH.2.2.2.1 t = x3 ∧ mH.2.2.2.2.1 t = x4)) ∧ f8_number_L32 kk N n x1 x2 x3 x4 x5 v mH = kk x1 x2 x3 x4 x5 (-1) mH) := by
  obtain ⟨ht, hK, hA, hB, hC, hN, h1, hT, hR⟩ := mH
  intro L
  induction L with
  | nil =>
    intro n v hl hm hn
    obtain ⟨n, rfl⟩ : ∃ m, n = m + 1 := ⟨n - 1, by simp only [List.length_nil] at hn; omega⟩
    have hl : v = -1 := hl
    subst hl
    refine .inr ⟨fun t ht => (by cases ht), ?_⟩
    rw [f8_number_L32, if_pos rfl]
  | cons t L ih =>
    intro n v hl hm hn
    rw [List.length_cons] at hn
    obtain ⟨n, rfl⟩ : ∃ m, n = m + 1 := ⟨n - 1, by omega⟩
    obtain ⟨hv, hl⟩ := hl
    dsimp only at hl
    subst hv
    have m2 := hm t List.mem_cons_self
    have hg := z_gd (n := t) (N := 4200) (by omega) (by omega)
    have hnn := z_nat (n := t) (by omega)
    have hg' : ¬ (nI t < 0 ∨ 4200 ≤ t) := by rw [hnn] at hg; exact hg
    rw [f8_number_L32, if_neg (nI_m1 (by omega)), if_neg hg, hnn]
    dsimp only [nm_v]
    by_cases w : hK t = x1 ∧ hA t = x2 ∧ hB t = x3 ∧ hC t = x4
    · left
      refine ⟨t, List.mem_cons_self, w, ?_⟩
      rw [if_pos w.1, if_neg hg', if_pos w.2.1, if_neg hg', if_pos w.2.2.1, if_neg hg', if_pos w.2.2.2]
    · have key : ∀ X Y : Option (Int32 × MdH), (if hK t = x1 then if nI t < 0 ∨ 4200 ≤ t then none else if hA t = x2 then if nI t < 0 ∨ 4200 ≤ t then none else if hB t = x3 then if nI t < 0 ∨ 4200 ≤ t then none else if hC t = x4 then X else if nI t < 0 ∨ 4200 ≤ t then none else Y else if nI t < 0 ∨ 4200 ≤ t then none else Y else if nI t < 0 ∨ 4200 ≤ t then none else Y else if nI t < 0 ∨ 4200 ≤ t then none else Y) = Y := by
        intro X Y
        simp only [if_neg hg']
        by_cases w1 : hK t = x1
        · rw [if_pos w1]
          by_cases w2 : hA t = x2
          · rw [if_pos w2]
            by_cases w3 : hB t = x3
            · rw [if_pos w3, if_neg (fun w4 => w ⟨w1, w2, w3, w4⟩)]
            · rw [if_neg w3]
          · rw [if_neg w2]
        · rw [if_neg w1]
      rw [key]
      rcases ih n (hN t) hl (fun s hs => hm s (List.mem_cons_of_mem _ hs)) (by omega) with ⟨s, h1, h2, h3⟩ | ⟨h1, h2⟩
      · exact .inl ⟨s, List.mem_cons_of_mem _ h1, h2, h3⟩
      · refine .inr ⟨fun s hs => ?_, h2⟩
        rcases List.mem_cons.mp hs with rfl | hs
        · exact w
        · exact h1 s hs
theorem m_of {N : Nat} {mH : MdH} {D : Nat → FT} {cnt k : Nat} {a b c : Int32} (hN : 20000 < N) (h : CM mH D cnt) (hv : VM cnt k a b c) :
    (∃ t, t < cnt ∧ D t = tM D k a b c ∧ f8_number N (nI k) a b c mH = some (nI t, mH)) ∨
    ((∀ t, t < cnt → D t ≠ tM D k a b c) ∧ (cnt < 4200 → ∃ mH' D', f8_number N (nI k) a b c mH = some (nI cnt, mH') ∧ CM mH' D' (cnt + 1) ∧ EXT D D' cnt ∧ D' cnt = tM D k a b c ∧ mH'.2.2.2.2.2.2.2 = mH.2.2.2.2.2.2.2)) := by
  have hnn := h.nn
  obtain ⟨hz, h5, hrow, hI, ch, hch, hin⟩ := h
  obtain ⟨hh, hh1, hh2⟩ := chM_256 (nI k) a b c
  obtain ⟨l1, l2⟩ := hch hh hh1
  have hgh := z_gd (n := hh) (N := 256) hh1 (by omega)
  have hlen := l2.len
  have start : f8_number N (nI k) a b c mH = f8_number_L32 (fun x1 x2 x3 x4 x5 x6 m => f8_number_L95 N x1 x2 x3 x4 x5 x6 m) N N (nI k) a b c (nI hh) (mH.2.2.2.2.2.2.1 hh) mH := by
    obtain ⟨ht, hK, hA, hB, hC, hNx, h1, hT, hR⟩ := mH
    have e : (((nI k * 31 + a * 17) + b * 7) + c) &&& 255 = nI hh := hh2
    rw [f8_number, e, nm_v, if_neg hgh, nm_v, z_nat (n := hh) (by omega)]
  have hk12 := hv.k12
  rcases m_walk (kk := fun x1 x2 x3 x4 x5 x6 m => f8_number_L95 N x1 x2 x3 x4 x5 x6 m) (N := N) (x1 := nI k) (x2 := a) (x3 := b) (x4 := c) (x5 := nI hh) (ch hh) N _ l1 (fun t ht => by have := l2.lt t ht; omega) (by omega) with ⟨t, w1, w2, w3⟩ | ⟨w1, w2⟩
  · left
    have ht := l2.lt t w1
    refine ⟨t, ht, ?_, ?_⟩
    · obtain ⟨k', a', b', c', r1, r2, r3⟩ := hrow t ht
      obtain ⟨e1, e2, e3, e4⟩ := r1
      have hk : k' = k := by
        have := e1.symm.trans w2.1
        exact (nI_eq (by have := r2.k12; omega) (by omega)).mp this
      rw [r3, hk, ← e2, w2.2.1, ← e3, w2.2.2.1, ← e4, w2.2.2.2]
    · rw [start, w3]
      obtain ⟨ht', hK, hA, hB, hC, hNx, h1, hT, hR⟩ := mH
      rw [f8_number_L95, if_neg (nI_m1 (by omega))]
  · right
    have hnew : ∀ t, t < cnt → D t ≠ tM D k a b c := by
      intro t ht2 he
      obtain ⟨k', a', b', c', r1, r2, r3⟩ := hrow t ht2
      obtain ⟨q1, q2, q3, q4⟩ := tM_inj (by omega) hI hnn (r2.mono (by omega)) hv (r3.symm.trans he)
      subst q1 q2 q3 q4
      obtain ⟨h', p1, p2, p3⟩ := hin t _ _ _ _ ht2 r1
      rw [hh2] at p2
      have : hh = h' := (nI_eq (by omega) (by omega)).mp p2
      subst this
      exact w1 t p3 r1
    refine ⟨hnew, fun hc => ?_⟩
    obtain ⟨ht, hK, hA, hB, hC, hNx, h1, hT, hR⟩ := mH
    dsimp only at hz hrow hch hin w2 l1 start
    subst hz
    have hgc := z_gd (n := cnt) (N := 4200) hc (by omega)
    have hcn := z_nat (n := cnt) (by omega)
    have hhn := z_nat (n := hh) (by omega)
    have hex : EXT D (fun i => if i = cnt then tM D k a b c else D i) cnt := fun i hi => if_neg (by omega)
    refine ⟨(nI (cnt + 1), upd hK cnt (nI k), upd hA cnt a, upd hB cnt b, upd hC cnt c, upd hNx cnt (h1 hh), upd h1 hh (nI cnt), hT, hR), (fun i => if i = cnt then tM D k a b c else D i), ?_, ⟨rfl, by omega, fun t ht2 => ?_, fun t t' g1 g2 g3 g4 ge => ?_, fun x => if x = hh then cnt :: ch hh else ch x, fun x hx => ?_, fun t k' a' b' c' g2 gr => ?_⟩, hex, if_pos rfl, rfl⟩
    · rw [start, w2, f8_number_L95, if_pos rfl, if_neg hgc, if_neg hgc, if_neg hgc, if_neg hgc, if_neg hgh, if_neg hgc, if_neg hgh, hcn, hhn, nI_1]
    · by_cases w : t = cnt
      · subst w
        exact ⟨k, a, b, c, ⟨z_upd_e, z_upd_e, z_upd_e, z_upd_e⟩, hv, (if_pos rfl).trans (tM_ext (by omega) hex hv).symm⟩
      · obtain ⟨k', a', b', c', ⟨r1, r1', r1'', r1'''⟩, r2, r3⟩ := hrow t (by omega)
        exact ⟨k', a', b', c', ⟨(z_upd_n w).trans r1, (z_upd_n w).trans r1', (z_upd_n w).trans r1'', (z_upd_n w).trans r1'''⟩, r2, (if_neg w).trans (r3.trans (tM_ext (by omega) hex (r2.mono (by omega))).symm)⟩
    · dsimp only at ge
      by_cases w : t = cnt
      · by_cases w' : t' = cnt
        · omega
        · rw [if_pos w, if_neg w'] at ge
          exact absurd ge.symm (hnew t' (by omega))
      · by_cases w' : t' = cnt
        · rw [if_neg w, if_pos w'] at ge
          exact absurd ge (hnew t (by omega))
        · rw [if_neg w, if_neg w'] at ge
          exact hI t t' g1 (by omega) g3 (by omega) ge
    · dsimp only
      obtain ⟨c1, c2⟩ := hch x hx
      by_cases w : x = hh
      · subst w
        rw [if_pos rfl]
        refine ⟨⟨z_upd_e, ?_⟩, ⟨by omega, c2⟩⟩
        rw [z_upd_e]
        exact LNK.same c1 c2 (fun t ht => (z_upd_n (by omega)).symm)
      · rw [if_neg w, z_upd_n w]
        exact ⟨LNK.same c1 c2 (fun t ht => (z_upd_n (by omega)).symm), c2.mono (by omega)⟩
    · dsimp only
      obtain ⟨e1, e2, e3, e4⟩ := gr
      dsimp only at e1 e2 e3 e4
      by_cases w : t = cnt
      · subst w
        rw [z_upd_e] at e1 e2 e3 e4
        subst e2 e3 e4
        rw [← e1]
        exact ⟨hh, hh1, hh2, by rw [if_pos rfl]; exact List.mem_cons_self⟩
      · rw [z_upd_n w] at e1 e2 e3 e4
        obtain ⟨x, x1, x2, x3⟩ := hin t k' a' b' c' (by omega) ⟨e1, e2, e3, e4⟩
        refine ⟨x, x1, x2, ?_⟩
        by_cases w2 : x = hh
        · rw [if_pos w2]
          exact List.mem_cons_of_mem _ (by rw [← w2]; exact x3)
        · rw [if_neg w2]; exact x3
