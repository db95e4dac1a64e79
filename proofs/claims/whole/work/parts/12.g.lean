/-! sums, whole -/
def cid (B m : Nat) (v : Int32) (l : List Nde) : Int32 := match l with
  | [] => v
  | _ :: _ => nid B m l
theorem cid_app {B m : Nat} {L l : List Nde} : cid B (m + L.length) (nid B m L) l = nid B m (L ++ l) := by
  cases l with
  | nil => rw [List.append_nil]; rfl
  | cons x l =>
    show nI (B + (m + L.length) + (x :: l).length - 1) = nI (B + m + (L ++ x :: l).length - 1)
    rw [List.length_append]
    congr 1
    omega
theorem cid_cons {B m : Nat} {v : Int32} {x : Nde} {L l : List Nde} : cid B (m + L.length + 1) (nI (B + m + L.length)) l = cid B m v (L ++ x :: l) := by
  rw [show L ++ x :: l = (L ++ [x]) ++ l by simp]
  have h : cid B m v ((L ++ [x]) ++ l) = nid B m ((L ++ [x]) ++ l) := by
    cases L <;> rfl
  rw [h, ← cid_app]
  have h2 : nid B m (L ++ [x]) = nI (B + m + L.length) := by
    show nI (B + m + (L ++ [x]).length - 1) = _
    rw [List.length_append]; rfl
  rw [h2, List.length_append]
  rfl
theorem nid_ne {B m : Nat} {l : List Nde} (h : B + m + l.length < 2 ^ 31) : ¬ nid B m l = -1 := z_m1 (by omega)
def YX (Y X : Int32) : Prop := Y = 5 ∧ X = 6 ∨ Y = 6 ∧ X = 7
section
variable {k : KT} {N : Nat} {mT : MdT} {T : List Nat} {B : Nat} {O : MdK × MdN} {q1 q2 q4 q5 : Int32} {dp f i F : Nat} {X Y : Int32} {isop : Nat → Bool} {α : Type} {item : Nat → List Nat → PR α} {mc0 : α → List Mce} {nd0 : Nat → α → List Nde}
theorem z_spY {mQ : MdQ} {mK : MdK} {mN : MdN} {p : Nat} {r b : Int32} {A : Arr} (hY : YX Y X) (hf : f < 80) (h : A.1 f = Y) : f8_step N (nI f) mT mQ mK mN (mkP p dp (f + 1) i r b A) = f8_stepSum (nI f) X mT mQ mK mN (mkP p dp (f + 1) i r b A) := by
  rcases hY with ⟨rfl, rfl⟩ | ⟨rfl, rfl⟩
  · exact (z_sp hf).2.2.2.2.1 h
  · exact (z_sp hf).2.2.2.2.2.1 h
theorem z_smL (hT : TXM mT T) (hB : B ≤ 256) (hX : XO X isop) (hY : YX Y X) (hf : f + 2 < 80) (hF : f + 1 ≤ F) (hI : BS k N mT (q1, q2, nI B, q4, q5) T B O X item dp F (fun _ => mc0) nd0 (fun m x => nid B m (nd0 m x)) 1) :
    ∀ n p A mK mN C D v r st, T.length ≤ p + n → p ≤ T.length → i ≤ p → A.1 f = Y → A.2.1 f = 1 → A.2.2.1 f = v → ¬ v = -1 → KV B O mK C → NV B O mN D → C.length ≤ 2 * p → D.length + 1 ≤ 2 * p → (∀ st', f8_stepSum_L106 mT.1 mT.2 q1 q2 (nI B) q4 q5 (nI f) X mK mN (mkP p dp (f + 1) i r 0 A) = some st' → GOS k N mT (q1, q2, nI B, q4, q5) st st') →
      BZ k N mT (q1, q2, nI B, q4, q5) T B O st (pMore item isop n p (T.drop p)) p dp f i A C D (mMoE mc0) (nMoE 3 B nd0 v D.length) (fun y => cid B D.length v (nMoE 3 B nd0 v D.length y)) 0 := by
  have h60 := hT.2.1
  intro n
  induction n with
  | zero =>
    intro p A mK mN C D v r st h1 h2 h3 a1 a2 a3 hv hK hN hC hD hst
    have e : T.drop p = [] := List.drop_eq_nil_iff.mpr (by omega)
    have pk := z_pk0 (dp := dp) (f := f + 1) (i := i) (r0 := r) (A := A) (b := 0) hT e (by omega)
    have hs := hst _ ((z_s106 (c := 0) hX (by omega) (by omega) pk).trans (if_neg (by rcases hX with ⟨_, rfl⟩ | ⟨_, rfl⟩ <;> decide)))
    rw [pMore]
    refine BZ.ret hs a3 (by rw [mMoE, List.append_nil]; exact hK) (by rw [nMoE, List.append_nil]; exact hN) AG.refl h2 ?_ ?_
    · rw [mMoE]; simp only [List.length_nil]; omega
    · rw [nMoE]; simp only [List.length_nil]; omega
  | succ n ih =>
    intro p A mK mN C D v r st h1 h2 h3 a1 a2 a3 hv hK hN hC hD hst
    have stop : ∀ c, c < 128 → isop c = false → f8_peek mT (mkP p dp (f + 1) i r 0 A) = some (nI c) → BZ k N mT (q1, q2, nI B, q4, q5) T B O st (some ([], p, T.drop p)) p dp f i A C D (mMoE mc0) (nMoE 3 B nd0 v D.length) (fun y => cid B D.length v (nMoE 3 B nd0 v D.length y)) 0 := by
      intro c hc ho pk
      have hs := hst _ ((z_s106 hX (by omega) hc pk).trans (if_neg (by rw [ho]; decide)))
      refine BZ.ret hs a3 (by rw [mMoE, List.append_nil]; exact hK) (by rw [nMoE, List.append_nil]; exact hN) AG.refl h2 ?_ ?_
      · rw [mMoE]; simp only [List.length_nil]; omega
      · rw [nMoE]; simp only [List.length_nil]; omega
    rcases e : T.drop p with _ | ⟨c, s⟩
    · rw [pMore, ← e]
      exact stop 0 (by omega) (by rcases hX with ⟨_, rfl⟩ | ⟨_, rfl⟩ <;> decide) (z_pk0 hT e (by omega))
    · obtain ⟨w1, w2, w3⟩ := z_dc e
      have hc := (hT.2.2 p c w2).2.1
      have pk := z_pk1 (dp := dp) (f := f + 1) (i := i) (r0 := r) (A := A) (b := 0) hT e
      rw [pMore]
      rcases ho : isop c with _ | _
      · rw [if_neg (by decide), ← e]
        exact stop c hc ho pk
      · rw [if_pos rfl, w3]
        have hs := hst _ ((z_s106 hX (by omega) hc pk).trans (if_pos ho))
        refine BZ.go hs (BZ.sub (hI (p + 1) (f + 1) i r _ mK mN C D (by omega) (by omega) (by omega) psh_at.1 psh_at.2.1 psh_at.2.2 hK hN (by omega) (by omega)) ?_)
        intro x p' A' mK' mN' g1 g2 g3 g4 g5 g6
        have g2 : 2 * (p + 1) + (mc0 x).length ≤ 2 * p' := g2
        have g5 : KV B O mK' (C ++ mc0 x) := g5
        obtain ⟨⟨b1, b2, b3, b4, b5, b6, b7⟩, g7⟩ := g4.pop
        obtain ⟨mK2, mN2, u1, u2, u3⟩ := z_sm2 (q1 := q1) (q2 := q2) (q4 := q4) (q5 := q5) (X := X) (p := p') (dp := dp) (i := i) (r := nid B D.length (nd0 D.length x)) (b := 0) (c := c) (q := p) (v := v) (A := A') hT hB (f := f) (by omega) (b2.trans a2) (b3.trans a3) hv (b4.trans z_upd_e) w2 g5 g6 (by rw [List.length_append]; omega) (by rw [List.length_append]; omega)
        have hst2 : ∀ st', f8_stepSum_L106 mT.1 mT.2 q1 q2 (nI B) q4 q5 (nI f) X mK2 mN2 (mkP p' dp (f + 1) i (nid B D.length (nd0 D.length x)) 0 (s0 f (nI (B + (D ++ nd0 D.length x).length)) A')) = some st' → GOS k N mT (q1, q2, nI B, q4, q5) (mK', mN', mkP p' dp (f + 1) i (nid B D.length (nd0 D.length x)) 0 A') st' := by
          intro st' h
          exact GOS.step (by omega) ((z_spY hY (by omega) (b1.trans a1)).trans (u1.trans h))
        have L1 : (D ++ nd0 D.length x ++ [(3, nI c, v, nid B D.length (nd0 D.length x), nI p)]).length = D.length + (nd0 D.length x).length + 1 := by simp only [List.length_append, List.length_cons, List.length_nil]
        have L2 : (C ++ mc0 x ++ [(5, c, p)]).length = C.length + (mc0 x).length + 1 := by simp only [List.length_append, List.length_cons, List.length_nil]
        have := ih p' (s0 f (nI (B + (D ++ nd0 D.length x).length)) A') mK2 mN2 _ _ _ (nid B D.length (nd0 D.length x)) (mK', mN', mkP p' dp (f + 1) i (nid B D.length (nd0 D.length x)) 0 A') (by omega) g1 (by omega) (b1.trans a1) (b2.trans a2) z_upd_e (z_m1 (by rw [List.length_append]; omega)) u2 u3 (by omega) (by omega) hst2
        refine BZ.map (h := fun y => (p, c, x) :: y) this ?_ ?_ ?_ ?_ ?_ ?_
        · exact AG.s0 ((AG.s1 AG.refl).trans g7 (Nat.le_refl _) (Nat.le_refl _))
        · intro y; rw [mMoE]; simp only [List.append_assoc, List.cons_append, List.nil_append]
        · intro y; rw [nMoE, L1, List.length_append, ← Nat.add_assoc]; simp only [List.append_assoc, List.cons_append, List.nil_append]
        · intro y; (try dsimp only); rw [nMoE, L1, List.length_append, ← Nat.add_assoc]; exact cid_cons
        · intro y p2 h; rw [mMoE]; simp only [List.length_append, List.length_cons]; omega
        · intro y p2 h; rw [nMoE]; rw [L1, List.length_append, ← Nat.add_assoc] at h; simp only [List.length_append, List.length_cons]; omega
theorem z_sum (hT : TXM mT T) (hB : B ≤ 256) (hX : XO X isop) (hY : YX Y X) (hF : F + 2 < 80) (hI : BS k N mT (q1, q2, nI B, q4, q5) T B O X item dp (F + 1) (fun _ => mc0) nd0 (fun m x => nid B m (nd0 m x)) 1) :
    BS k N mT (q1, q2, nI B, q4, q5) T B O Y (pChn item isop) dp F (fun _ => mChE mc0) (nChE 3 B nd0) (fun m x => nid B m (nChE 3 B nd0 m x)) 1 := by
  intro p f i r A mK mN C D h1 h2 h3 a1 a2 a3 hK hN hC hD
  have h60 := hT.2.1
  rw [pChn]
  refine BZ.go (GOS.step (by omega) ((z_spY hY (by omega) a1).trans (z_sm0 (by omega) a2))) (BZ.sub (hI p (f + 1) i r _ mK mN C D h1 (by omega) h3 psh_at.1 psh_at.2.1 psh_at.2.2 hK hN hC hD) ?_)
  intro x p' A' mK' mN' g1 g2 g3 g4 g5 g6
  have g2 : 2 * p + (mc0 x).length ≤ 2 * p' := g2
  have g5 : KV B O mK' (C ++ mc0 x) := g5
  obtain ⟨⟨b1, b2, b3, b4, b5, b6, b7⟩, g7⟩ := g4.pop
  have hs1 := z_sm1 (X := X) (mT := mT) (q1 := q1) (q2 := q2) (B := B) (q4 := q4) (q5 := q5) (mK := mK') (mN := mN') (p := p') (dp := dp) (i := i) (r := nid B D.length (nd0 D.length x)) (b := 0) (f := f) (A := A') (by omega) (b2.trans z_upd_e) (b3.trans a3)
  have hst : ∀ st', f8_stepSum_L106 mT.1 mT.2 q1 q2 (nI B) q4 q5 (nI f) X mK' mN' (mkP p' dp (f + 1) i (nid B D.length (nd0 D.length x)) 0 (s0 f (nid B D.length (nd0 D.length x)) A')) = some st' → GOS k N mT (q1, q2, nI B, q4, q5) (mK', mN', mkP p' dp (f + 1) i (nid B D.length (nd0 D.length x)) 0 A') st' := by
    intro st' h
    exact GOS.step (by omega) ((z_spY hY (by omega) (b1.trans a1)).trans (hs1.trans h))
  have := z_smL (i := i) hT hB hX hY (f := f) (by omega) (by omega) hI 60 p' (s0 f (nid B D.length (nd0 D.length x)) A') mK' mN' (C ++ mc0 x) (D ++ nd0 D.length x) _ _ _ (by omega) g1 (by omega) (b1.trans a1) (b2.trans z_upd_e) z_upd_e (nid_ne (by omega)) g5 g6 (by rw [List.length_append]; omega) (by rw [List.length_append]; omega) hst
  refine BZ.map (h := fun y => (x, y)) this ?_ ?_ ?_ ?_ ?_ ?_
  · exact AG.s0 ((AG.sS AG.refl).trans g7 (Nat.le_refl _) (Nat.le_refl _))
  · intro y; show C ++ mc0 x ++ mMoE mc0 y = C ++ mChE mc0 (x, y); rw [mChE, List.append_assoc]
  · intro y; rw [nChE, List.length_append, List.append_assoc]
  · intro y; (try dsimp only); rw [nChE, List.length_append, cid_app]
  · intro y p2 h; show 2 * p + (mChE mc0 (x, y)).length ≤ 2 * p2; rw [mChE]; simp only [List.length_append]; omega
  · intro y p2 h; rw [nChE]; rw [List.length_append] at h; simp only [List.length_append]; omega
end
