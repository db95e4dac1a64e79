/-! statements -/
section
variable {k : KT} {N : Nat} {mT : MdT} {T : List Nat} {B : Nat} {O : MdK × MdN} {q1 q2 q4 q5 : Int32} {dp d F : Nat}
theorem z_spS {mQ : MdQ} {mK : MdK} {mN : MdN} {p f i : Nat} {r b : Int32} {A : Arr} (hf : f < 80) (h : A.1 f = 1) : f8_step N (nI f) mT mQ mK mN (mkP p dp (f + 1) i r b A) = f8_stepStatement (nI f) mT mQ mK mN (mkP p dp (f + 1) i r b A) := (z_sp hf).1 h
/-- the end of a simple one -/
theorem z_sE {α : Type} {x : α} {p0 p f i : Nat} {A0 A : Arr} {mK : MdK} {mN : MdN} {C M : List Mce} {D D0 : List Nde} {mc : α → List Mce} {nd : α → List Nde} {st kk nk q : Nat} {xa xb xc r : Int32} {kv : Nat} (hs : st = 1 ∧ kk = 8 ∧ nk = 6 ∧ A.2.2.2.2.1 f = nI kv ∧ xa = nI kv ∧ xb = r ∧ xc = 0 ∨ st = 7 ∧ kk = 12 ∧ nk = 9 ∧ kv = 0 ∧ xa = r ∧ xb = -1 ∧ xc = -1 ∨ st = 8 ∧ kk = 13 ∧ nk = 10 ∧ kv = 0 ∧ xa = r ∧ xb = -1 ∧ xc = -1) (hT : TXM mT T) (hp : p ≤ T.length) (hB : B ≤ 256) (hf : f < 80) (hF : A.1 f = 1) (hS : A.2.1 f = nI st) (hq : A.2.2.2.1 f = nI (B + C.length)) (h1 : KV B O mK (C ++ (1, 0, q) :: M)) (h2 : NV B O mN (D ++ D0)) (hC : (C ++ (1, 0, q) :: M).length < 255) (hD : (D ++ D0).length < 256)
    (hA : AG f i A0 A) (hmc : mc x = (1, B + C.length + M.length + 2, q) :: M ++ [(kk, kv, 0)]) (hnd : nd x = D0 ++ [(nk, xa, xb, xc, nI q)]) (l1 : 2 * p0 + M.length + 2 ≤ 2 * p + 2) (l2 : 2 * p0 + D0.length + 2 ≤ 2 * p + 2) :
    BZ k N mT (q1, q2, nI B, q4, q5) T B O (mK, mN, mkP p dp (f + 1) i r 0 A) ((pTok 59 p (T.drop p)).bind fun y => some (x, y.1, y.2)) p0 dp f i A0 C D mc nd (fun x => nid B D.length (nd x)) 1 := by
  obtain ⟨b, mK', mN', hb, u, g1, g2⟩ := z_stE (q1 := q1) (q2 := q2) (q4 := q4) (q5 := q5) (dp := dp) (i := i) hs hT hp hB hf hS hq h1 h2 (by omega) hD
  refine BZ.tok hb (GOS.step hf ((z_spS hf hF).trans u)) g1 g2 ?_ ?_
  · simp only [List.length_append, List.length_cons, List.length_nil] at hC ⊢; omega
  · intro hl
    refine BZ.ret GOS_refl ?_ ?_ ?_ hA hl ?_ ?_
    · show nI (B + (D ++ D0).length) = nI (B + D.length + (nd x).length - 1)
      rw [hnd, List.length_append, List.length_append]; congr 1; simp only [List.length_cons, List.length_nil]; omega
    · rw [hmc]; rw [List.append_assoc] at g1; exact g1
    · rw [hnd, ← List.append_assoc]; exact g2
    · rw [hmc]; simp only [List.length_append, List.length_cons, List.length_nil]; omega
    · rw [hnd]; simp only [List.length_append, List.length_cons, List.length_nil]; omega
/-- set, return, check -/
theorem z_smp (hT : TXM mT T) (hB : B ≤ 256) (hF : F + 2 < 80) (hE : BS k N mT (q1, q2, nI B, q4, q5) T B O 5 (pEx d) dp (F + 1) (fun _ => mEx d) (nEx B d) (fun m x => nid B m (nEx B d m x)) 1) (hC : BS k N mT (q1, q2, nI B, q4, q5) T B O 2 (pCo d) dp (F + 1) (mCo d) (nCo B d) (fun m x => nid B m (nCo B d m x)) 1)
    {p f i : Nat} {r : Int32} {A : Arr} {mK : MdK} {mN : MdN} {C : List Mce} {D : List Nde} (h1 : p ≤ T.length) (h2 : f ≤ F) (h3 : i ≤ p) (a1 : A.1 f = 1) (a2 : A.2.1 f = 0) (hK : KV B O mK C) (hN : NV B O mN D) (lC : C.length ≤ 2 * p) (lD : D.length ≤ 2 * p) (hh : ∀ c s, T.drop p = c :: s → c ≠ 63 ∧ c ≠ 64) :
    BZ k N mT (q1, q2, nI B, q4, q5) T B O (mK, mN, mkP p dp (f + 1) i r 0 A) (pSm d p (T.drop p)) p dp f i A C D (mSm d (B + C.length)) (nSm B d D.length) (fun x => nid B D.length (nSm B d D.length x)) 1 := by
  have h60 := hT.2.1
  have bad : ∀ c, c < 128 → c < 97 ∨ 102 < c → ¬ (c = 63 ∨ c = 64 ∨ c = 33 ∨ c = 94) → f8_peek mT (mkP p dp (f + 1) i r 0 A) = some (nI c) → BZ k N mT (q1, q2, nI B, q4, q5) T B O (mK, mN, mkP p dp (f + 1) i r 0 A) (none : PR (SmT d)) p dp f i A C D (mSm d (B + C.length)) (nSm B d D.length) (fun x => nid B D.length (nSm B d D.length x)) 1 := by
    intro c hc hca hk pk
    obtain ⟨mK', u, g⟩ := z_bsO (q1 := q1) (q2 := q2) (q4 := q4) (q5 := q5) hc hca pk hB (by omega) hK (by omega)
    rw [if_neg hk] at u
    exact BZ.bad (GOS.step (by omega) ((z_spS (by omega) a1).trans (z_st0 (by omega) a2 u))) g hN (by rw [List.length_append]; simp only [List.length_cons, List.length_nil]; omega)
  rcases e : T.drop p with _ | ⟨c, s⟩
  · rw [pSm]
    exact bad 0 (by omega) (by omega) (by omega) (z_pk0 hT e (by omega))
  · obtain ⟨w1, w2, w3⟩ := z_dc e
    have hc128 := (hT.2.2 p c w2).2.1
    have hcc := hh c s e
    have pk := z_pk1 (dp := dp) (f := f + 1) (i := i) (r0 := r) (A := A) (b := 0) hT e
    have LC : ∀ q : Mce, (C ++ [q]).length = C.length + 1 := fun q => by rw [List.length_append]; rfl
    rw [pSm]
    by_cases c33 : c = 33
    · subst c33
      rw [if_pos rfl, w3]
      obtain ⟨mK1, u, g⟩ := z_bsO (q1 := q1) (q2 := q2) (q4 := q4) (q5 := q5) hc128 (by omega) pk hB (by omega) hK (by omega)
      rw [if_pos (by omega), if_neg (by omega)] at u
      refine BZ.go (GOS.step (by omega) ((z_spS (by omega) a1).trans (z_st0 (by omega) a2 u))) (BZ.sub (hC (p + 1) (f + 1) i r _ mK1 mN _ D (by omega) (by omega) (by omega) psh_at.1 psh_at.2.1 psh_at.2.2 g hN (by rw [LC]; omega) (by omega)) ?_)
      intro x p' A' mK' mN' g1 g2 g3 g4 g5 g6
      obtain ⟨⟨b1, b2, b3, b4, b5, b6, b7⟩, g7⟩ := g4.pop
      rw [LC] at g2 g5
      rw [List.append_assoc, List.cons_append, List.nil_append] at g5
      refine z_sE (st := 7) (kk := 12) (nk := 9) (kv := 0) (M := mCo d (B + (C.length + 1)) x) (D0 := nCo B d D.length x) (.inr (.inl ⟨rfl, rfl, rfl, rfl, rfl, rfl, rfl⟩)) hT g1 hB (by omega) (b1.trans a1) (b2.trans z_upd_e) (b4.trans z_upd_e) g5 g6 ?_ ?_ ?_ ?_ ?_ ?_ ?_
      · simp only [List.length_append, List.length_cons]; omega
      · simp only [List.length_append]; omega
      · exact (AG.s4 (AG.sS (AG.s1 AG.refl))).trans g7 (Nat.le_refl _) (Nat.le_refl _)
      · rfl
      · rfl
      · omega
      · omega
    · rw [if_neg c33]
      by_cases c94 : c = 94
      · subst c94
        rw [if_pos rfl, w3]
        obtain ⟨mK1, u, g⟩ := z_bsO (q1 := q1) (q2 := q2) (q4 := q4) (q5 := q5) hc128 (by omega) pk hB (by omega) hK (by omega)
        rw [if_pos (by omega), if_pos rfl] at u
        refine BZ.go (GOS.step (by omega) ((z_spS (by omega) a1).trans (z_st0 (by omega) a2 u))) (BZ.sub (hE (p + 1) (f + 1) i r _ mK1 mN _ D (by omega) (by omega) (by omega) psh_at.1 psh_at.2.1 psh_at.2.2 g hN (by rw [LC]; omega) (by omega)) ?_)
        intro x p' A' mK' mN' g1 g2 g3 g4 g5 g6
        have g2 : 2 * (p + 1) + (mEx d x).length ≤ 2 * p' := g2
        have g5 : KV B O mK' (C ++ [(1, 0, p)] ++ mEx d x) := g5
        obtain ⟨⟨b1, b2, b3, b4, b5, b6, b7⟩, g7⟩ := g4.pop
        rw [List.append_assoc, List.cons_append, List.nil_append] at g5
        refine z_sE (st := 8) (kk := 13) (nk := 10) (kv := 0) (M := mEx d x) (D0 := nEx B d D.length x) (.inr (.inr ⟨rfl, rfl, rfl, rfl, rfl, rfl, rfl⟩)) hT g1 hB (by omega) (b1.trans a1) (b2.trans z_upd_e) (b4.trans z_upd_e) g5 g6 ?_ ?_ ?_ ?_ ?_ ?_ ?_
        · simp only [List.length_append, List.length_cons]; omega
        · simp only [List.length_append]; omega
        · exact (AG.s4 (AG.sS (AG.s1 AG.refl))).trans g7 (Nat.le_refl _) (Nat.le_refl _)
        · rfl
        · rfl
        · omega
        · omega
      · rw [if_neg c94]
        by_cases hv : 97 ≤ c ∧ c ≤ 102
        · rw [if_pos hv, w3]
          obtain ⟨b, mK1, hb, u, g⟩ := z_bsS (q1 := q1) (q2 := q2) (q4 := q4) (q5 := q5) (dp := dp) (f := f) (i := i) (r := r) (A := A) hT e hv hB (by omega) hK (by omega)
          refine BZ.tok hb (GOS.step (by omega) ((z_spS (by omega) a1).trans (z_st0 (by omega) a2 u))) g hN (by rw [LC]; omega) ?_
          intro hl
          refine BZ.sub (hE (p + 1 + 1) (f + 1) i r _ mK1 mN _ D hl (by omega) (by omega) psh_at.1 psh_at.2.1 psh_at.2.2 g hN (by rw [LC]; omega) (by omega)) ?_
          intro x p' A' mK' mN' g1 g2 g3 g4 g5 g6
          have g2 : 2 * (p + 1 + 1) + (mEx d x).length ≤ 2 * p' := g2
          have g5 : KV B O mK' (C ++ [(1, 0, p)] ++ mEx d x) := g5
          obtain ⟨⟨b1, b2, b3, b4, b5, b6, b7⟩, g7⟩ := g4.pop
          rw [List.append_assoc, List.cons_append, List.nil_append] at g5
          refine z_sE (st := 1) (kk := 8) (nk := 6) (kv := c - 97) (M := mEx d x) (D0 := nEx B d D.length x) (.inl ⟨rfl, rfl, rfl, b5.trans z_upd_e, rfl, rfl, rfl⟩) hT g1 hB (by omega) (b1.trans a1) (b2.trans z_upd_e) (b4.trans z_upd_e) g5 g6 ?_ ?_ ?_ ?_ ?_ ?_ ?_
          · simp only [List.length_append, List.length_cons]; omega
          · simp only [List.length_append]; omega
          · exact (AG.sS (AG.s2 (AG.s1 AG.refl))).trans g7 (Nat.le_refl _) (Nat.le_refl _)
          · rfl
          · rfl
          · omega
          · omega
        · rw [if_neg hv]
          exact bad c hc128 (by omega) (by omega) pk
end
