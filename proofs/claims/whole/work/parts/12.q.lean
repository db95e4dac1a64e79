/-! what the model reads -/
theorem BS.mono {α : Type} {k : KT} {N : Nat} {mT : MdT} {mQ : MdQ} {T : List Nat} {B : Nat} {O : MdK × MdN} {X : Int32} {sp : Nat → List Nat → PR α} {dp F G : Nat} {mc : Nat → α → List Mce} {nd : Nat → α → List Nde} {id : Nat → α → Int32} {sl : Nat} (h : BS k N mT mQ T B O X sp dp F mc nd id sl) (hG : G ≤ F) : BS k N mT mQ T B O X sp dp G mc nd id sl :=
  fun p f i r A mK mN C D h1 h2 => h p f i r A mK mN C D h1 (Nat.le_trans h2 hG)
section
variable {k : KT} {N : Nat} {mT : MdT} {T : List Nat} {B : Nat} {O : MdK × MdN} {q1 q2 q4 q5 : Int32}
def LEV (k : KT) (N : Nat) (mT : MdT) (T : List Nat) (B : Nat) (O : MdK × MdN) (q1 q2 q4 q5 : Int32) (d dp : Nat) : Prop :=
  BS k N mT (q1, q2, nI B, q4, q5) T B O 5 (pEx d) dp (8 * dp + 5) (fun _ => mEx d) (nEx B d) (fun m x => nid B m (nEx B d m x)) 1 ∧
  BS k N mT (q1, q2, nI B, q4, q5) T B O 2 (pCo d) dp (8 * dp + 2) (mCo d) (nCo B d) (fun m x => nid B m (nCo B d m x)) 1 ∧
  BS k N mT (q1, q2, nI B, q4, q5) T B O 0 (pRowZ (decide (dp = 0)) (pSt d (pBSub d)) 60) dp (8 * dp) (mRow (mSt d (mBSub d))) (nRow B (nSt B d (nBSub B d))) (fun m l => nRix B m l (nRow B (nSt B d (nBSub B d)) m l)) 0
theorem z_lvM (hT : TXM mT T) (hB : B ≤ 256) (hN : 64 < N) : ∀ d dp, dp + d = 4 → LEV k N mT T B O q1 q2 q4 q5 d dp := by
  intro d
  induction d with
  | zero =>
    intro dp hd
    have a0 := z_fac (k := k) (N := N) (O := O) (q1 := q1) (q2 := q2) (q4 := q4) (q5 := q5) (F := 8 * dp + 7) (sub := pSub 0) (mc := mSub 0) (nd := nSub B 0) hT hB (show dp ≤ 4 by omega) (by omega) (.inl ⟨by omega, fun _ _ => rfl⟩)
    have a1 : BS k N mT (q1, q2, nI B, q4, q5) T B O 6 (pTe 0) dp (8 * dp + 6) (fun _ => mTe 0) (nTe B 0) (fun m x => nid B m (nTe B 0 m x)) 1 := z_sum hT hB (.inr ⟨rfl, rfl⟩) (.inr ⟨rfl, rfl⟩) (by omega) a0
    have a2 : BS k N mT (q1, q2, nI B, q4, q5) T B O 5 (pEx 0) dp (8 * dp + 5) (fun _ => mEx 0) (nEx B 0) (fun m x => nid B m (nEx B 0 m x)) 1 := z_sum hT hB (.inl ⟨rfl, rfl⟩) (.inl ⟨rfl, rfl⟩) (by omega) a1
    have a3 := z_atm (F := 8 * dp + 4) (sub := pCSub 0) (mc := mCSub 0) (nd := nCSub B 0) hT hB (show dp ≤ 4 by omega) (by omega) a2 (.inl ⟨by omega, fun _ _ => rfl⟩)
    have a4 : BS k N mT (q1, q2, nI B, q4, q5) T B O 3 (pPa 0) dp (8 * dp + 3) (mPa 0) (nPa B 0) (fun m x => nid B m (nPa B 0 m x)) 1 := z_chn (sg := 38) hT hB (.inr ⟨rfl, rfl, rfl⟩) (by omega) a3
    have a5 : BS k N mT (q1, q2, nI B, q4, q5) T B O 2 (pCo 0) dp (8 * dp + 2) (mCo 0) (nCo B 0) (fun m x => nid B m (nCo B 0 m x)) 1 := z_chn (sg := 124) hT hB (.inl ⟨rfl, rfl, rfl⟩) (by omega) a4
    have a6 := z_stt (F := 8 * dp + 1) hT hB hd (by omega) (a2.mono (by omega)) a5 (fun e he => by omega)
    exact ⟨a2, a5, z_row hT hB hN (by omega) decide_eq_true_iff (by omega) a6⟩
  | succ d ih =>
    intro dp hd
    obtain ⟨i1, i2, i3⟩ := ih (dp + 1) (by omega)
    have a0 := z_fac (F := 8 * dp + 7) (sub := pSub (d + 1)) (mc := mSub (d + 1)) (nd := nSub B (d + 1)) hT hB (show dp ≤ 4 by omega) (by omega) (.inr ⟨by omega, i1.mono (by omega)⟩)
    have a1 : BS k N mT (q1, q2, nI B, q4, q5) T B O 6 (pTe (d + 1)) dp (8 * dp + 6) (fun _ => mTe (d + 1)) (nTe B (d + 1)) (fun m x => nid B m (nTe B (d + 1) m x)) 1 := z_sum hT hB (.inr ⟨rfl, rfl⟩) (.inr ⟨rfl, rfl⟩) (by omega) a0
    have a2 : BS k N mT (q1, q2, nI B, q4, q5) T B O 5 (pEx (d + 1)) dp (8 * dp + 5) (fun _ => mEx (d + 1)) (nEx B (d + 1)) (fun m x => nid B m (nEx B (d + 1) m x)) 1 := z_sum hT hB (.inl ⟨rfl, rfl⟩) (.inl ⟨rfl, rfl⟩) (by omega) a1
    have a3 := z_atm (F := 8 * dp + 4) (sub := pCSub (d + 1)) (mc := mCSub (d + 1)) (nd := nCSub B (d + 1)) hT hB (show dp ≤ 4 by omega) (by omega) a2 (.inr ⟨by omega, i2.mono (by omega)⟩)
    have a4 : BS k N mT (q1, q2, nI B, q4, q5) T B O 3 (pPa (d + 1)) dp (8 * dp + 3) (mPa (d + 1)) (nPa B (d + 1)) (fun m x => nid B m (nPa B (d + 1) m x)) 1 := z_chn (sg := 38) hT hB (.inr ⟨rfl, rfl, rfl⟩) (by omega) a3
    have a5 : BS k N mT (q1, q2, nI B, q4, q5) T B O 2 (pCo (d + 1)) dp (8 * dp + 2) (mCo (d + 1)) (nCo B (d + 1)) (fun m x => nid B m (nCo B (d + 1) m x)) 1 := z_chn (sg := 124) hT hB (.inl ⟨rfl, rfl, rfl⟩) (by omega) a4
    have i3' : BS k N mT (q1, q2, nI B, q4, q5) T B O 0 (pRow (pSt d (pBSub d)) 60) (dp + 1) (8 * dp + 1 + 1) (mRow (mSt d (mBSub d))) (nRow B (nSt B d (nBSub B d))) (fun m l => nRix B m l (nRow B (nSt B d (nBSub B d)) m l)) 0 := by
      have e : pRowZ (decide (dp + 1 = 0)) (pSt d (pBSub d)) 60 = pRow (pSt d (pBSub d)) 60 := by
        funext p s
        rw [show decide (dp + 1 = 0) = false from decide_eq_false (by omega)]
        exact pRowZ_f 60 p s
      rw [e] at i3
      exact i3.mono (by omega)
    have a6 := z_stt (F := 8 * dp + 1) hT hB hd (by omega) (a2.mono (by omega)) a5 (fun e he => by cases he; exact i3')
    exact ⟨a2, a5, z_row hT hB hN (by omega) decide_eq_true_iff (by omega) a6⟩
end
theorem pTop_z {α : Type} {item : Nat → List Nat → PR α} (h : ∀ p s, item p (125 :: s) = none) : ∀ n p s, ((pRow item n p s).bind fun x => if x.2.2 = [] then some x.1 else none) = (pRowZ true item n p s).bind fun x => if x.2.2 = [] then some x.1 else none := by
  intro n
  induction n with
  | zero => intro p s; rfl
  | succ n ih =>
    intro p s
    rcases s with _ | ⟨c, s⟩
    · rfl
    · rw [pRow, pRowZ, if_neg (show ¬ (c = 125 ∧ true = false) from fun q => by cases q.2)]
      by_cases hc : c = 125
      · subst hc
        rw [if_pos rfl, h]
        rfl
      · rw [if_neg hc]
        rcases item p (c :: s) with _ | x
        · rfl
        · rw [ob_s, ob_s]
          have := ih x.2.1 x.2.2
          rcases hA : pRow item n x.2.1 x.2.2 with _ | a <;> rcases hZ : pRowZ true item n x.2.1 x.2.2 with _ | z
          · rfl
          · rw [hA, hZ] at this
            rw [ob_s] at this
            rw [ob_s, ob_s]
            dsimp only
            by_cases w : z.2.2 = []
            · rw [if_pos w] at this; cases this
            · rw [if_neg w]; rfl
          · rw [hA, hZ] at this
            rw [ob_s] at this
            rw [ob_s, ob_s]
            dsimp only
            by_cases w : a.2.2 = []
            · rw [if_pos w] at this; cases this
            · rw [if_neg w]; rfl
          · rw [hA, hZ, ob_s, ob_s] at this
            rw [ob_s, ob_s, ob_s, ob_s]
            dsimp only at this ⊢
            by_cases w : a.2.2 = [] <;> by_cases w2 : z.2.2 = []
            · rw [if_pos w, if_pos w2] at this ⊢
              rw [Option.some.inj this]
            · rw [if_pos w, if_neg w2] at this
              cases this
            · rw [if_neg w, if_pos w2] at this
              cases this
            · rw [if_neg w, if_neg w2]
section
variable {mT : MdT} {T : List Nat} {q1 q3 q4 q5 : Int32}
theorem z_l79 {B : Nat} {O : MdK × MdN} {mK : MdK} {mN : MdN} {C : List Mce} {p dp f i : Nat} {r b : Int32} {A : Arr} {q2 : Int32} (hT : TXM mT T) (hB : B ≤ 256) (h1 : KV B O mK C) (hC : C.length < 256) (hp : b = 0 → p < 2 ^ 20) :
    ∃ mK', (∀ N, f8_read_L79 N mT.1 mT.2 (q1, q2, nI B, q4, q5) mK mN (mkP p dp f i r b A) = some (if b = 0 ∧ p = T.length then 1 else 0, (q1, q2, nI B, r, q5), mK', mN, mkP p dp f i r b A)) ∧ KV B O mK' (C ++ [(14, 0, 0)]) := by
  have h60 := hT.2.1
  obtain ⟨mK', e1, g1⟩ := z_emit (mQ := (q1, q2, nI B, q4, q5)) rfl h1 hB hC 14 0 0 (x1 := 14) (x2 := 0) (x3 := -1) rfl rfl rfl
  refine ⟨mK', fun N => ?_, g1⟩
  have ht := hT.1
  obtain ⟨t1, t2⟩ := mT
  obtain ⟨a1, a2, a3, a4⟩ := mK
  obtain ⟨b1, b2, b3, b4, b5, b6⟩ := mN
  dsimp only at ht
  subst ht
  rw [mkP, f8_read_L79, e1, ob_s]
  dsimp only
  by_cases hb : b = 0
  · rw [if_pos hb]
    by_cases hl : p = T.length
    · rw [if_pos (by rw [hl]), if_pos ⟨hb, hl⟩]
    · rw [if_neg (fun q => hl ((nI_eq (by have := hp hb; omega) (by omega)).mp q)), if_neg (fun q => hl q.2)]
  · rw [if_neg hb, if_neg (fun q => hb q.1)]
/-- the model's reading -/
theorem z_readM {base B : Nat} {mK : MdK} {mN : MdN} {mP : MdP} (hT : TXM mT T) (hb : base = 0 ∧ B = 256 ∨ base = 256 ∧ B = 0) :
    match pTop T with
    | none => ∃ N0 qr mK' mN' mP', (∀ N, N0 ≤ N → f8_read N mT (q1, nI base, q3, q4, q5) mK mN mP = some (0, (q1, nI base, nI B, qr, q5), mK', mN', mP')) ∧ OUK B mK mK' ∧ OUN B mN mN'
    | some x => ∃ N0 mK' mN' mP', (∀ N, N0 ≤ N → f8_read N mT (q1, nI base, q3, q4, q5) mK mN mP = some (1, (q1, nI base, nI B, nRix B 0 x (nRo B 4 0 x), q5), mK', mN', mP')) ∧ KV B (mK, mN) mK' (mRo 4 B x ++ [(14, 0, 0)]) ∧ NV B (mK, mN) mN' (nRo B 4 0 x) ∧ (mRo 4 B x).length ≤ 2 * T.length ∧ (nRo B 4 0 x).length ≤ 2 * T.length := by
  have h60 := hT.2.1
  have hB : B ≤ 256 := by omega
  have eB : (256 : Int32) - nI base = nI B := by rcases hb with ⟨rfl, rfl⟩ | ⟨rfl, rfl⟩ <;> rfl
  obtain ⟨p1, p2, p3, p4, r, p6, A1, A2, A3, A4, A5, A6, A7, A8⟩ := mP
  obtain ⟨t1, t2⟩ := mT
  obtain ⟨k1, k2, k3, k4⟩ := mK
  obtain ⟨n1, n2, n3, n4, n5, n6⟩ := mN
  have hpu := z_pu (p := 0) (dp := 0) (f := 0) (i := 0) (r0 := r) (b := 0) (A := (A1, A2, A3, A4, A5, A6, A7, A8)) (k := 0) (by omega)
  -- the loop's start
  have start : ∀ N, f8_read N (t1, t2) (q1, nI base, q3, q4, q5) (k1, k2, k3, k4) (n1, n2, n3, n4, n5, n6) (p1, p2, p3, p4, r, p6, A1, A2, A3, A4, A5, A6, A7, A8) = LO (fun Q K M P => f8_read_L79 N t1 t2 Q K M P) N (t1, t2) (q1, nI base, nI B, q4, q5) N ((0, k2, k3, k4), (0, n2, n3, n4, n5, n6), mkP 0 0 1 0 r 0 (pshA 0 0 (A1, A2, A3, A4, A5, A6, A7, A8))) := by
    intro N
    rw [mkP] at hpu
    have hpu' : f8_push (0 : Int32) ((0 : Int32), (0 : Int32), (0 : Int32), (0 : Int32), r, (0 : Int32), A1, A2, A3, A4, A5, A6, A7, A8) = some (mkP 0 0 (0 + 1) 0 r 0 (pshA 0 0 (A1, A2, A3, A4, A5, A6, A7, A8))) := hpu
    rw [f8_read, hpu', ob_s, eB]
    rfl
  have lv := (z_lvM (k := fun _ _ _ _ => none) (N := 65) (O := ((k1, k2, k3, k4), (n1, n2, n3, n4, n5, n6))) (q1 := q1) (q2 := nI base) (q4 := q4) (q5 := q5) hT hB (by omega) 4 0 rfl).2.2 0 0 0 r (pshA 0 0 (A1, A2, A3, A4, A5, A6, A7, A8)) (0, k2, k3, k4) (0, n2, n3, n4, n5, n6) [] [] (by omega) (by omega) (by omega) psh_at.1 psh_at.2.1 psh_at.2.2 ⟨rfl, fun j q h => (by cases h), fun j _ => ⟨rfl, rfl, rfl⟩⟩ ⟨rfl, fun j q h => (by cases h), fun j _ => ⟨rfl, rfl, rfl, rfl, rfl⟩⟩ (by simp only [List.length_nil]; omega) (by simp only [List.length_nil]; omega)
  have et : pTop T = (pRowZ (decide (0 = 0)) (pSt 4 (pBSub 4)) 60 0 (T.drop 0)).bind fun x => if x.2.2 = [] then some x.1 else none := by
    rw [List.drop_zero]
    exact pTop_z (fun p s => by rw [pSt, if_neg (by omega), pSm]; rfl) 60 0 T
  rw [et]
  -- the end of the loop
  have fin : ∀ {st st' : MSt}, GOS (fun _ _ _ _ => none) 65 (t1, t2) (q1, nI base, nI B, q4, q5) st st' → (st'.2.2.2.2.1 ≤ 0 ∨ ¬ st'.2.2.2.2.2.2.2.1 = 0) → ∃ N0, ∀ N, N0 ≤ N → LO (fun Q K M P => f8_read_L79 N t1 t2 Q K M P) N (t1, t2) (q1, nI base, nI B, q4, q5) N st = f8_read_L79 N t1 t2 (q1, nI base, nI B, q4, q5) st'.1 st'.2.1 st'.2.2 := by
    intro st st' ⟨m, hm⟩ he
    refine ⟨65 + m + 1, fun N hN => ?_⟩
    obtain ⟨j, rfl⟩ : ∃ j, N = 65 + j := ⟨N - 65, by omega⟩
    obtain ⟨n, hn⟩ : ∃ n, 65 + j = n + 1 + m := ⟨65 + j - m - 1, by omega⟩
    have := hm (fun Q K M P => f8_read_L79 (65 + j) t1 t2 Q K M P) j (n + 1)
    rw [← hn] at this
    rw [this]
    obtain ⟨⟨x1, x2, x3, x4⟩, ⟨y1, y2, y3, y4, y5, y6⟩, z1, z2, z3, z4, z5, z6, z7, z8, z9, z10, z11, z12, z13, z14⟩ := st'
    dsimp only at he
    rw [LO, f8_read_L52]
    by_cases w : z3 ≤ 0
    · rw [if_pos w]
    · rw [if_neg w, if_neg (he.resolve_left w)]
  rcases hp : pRowZ (decide (0 = 0)) (pSt 4 (pBSub 4)) 60 0 (T.drop 0) with _ | ⟨x, p', s'⟩
  · rw [hp] at lv
    obtain ⟨mK', mN', p', dp', f', i', r', A', C', D', g1, g2, g3, g4⟩ := lv
    obtain ⟨N0, hN0⟩ := fin g1 (.inr (show ¬ (1 : Int32) = 0 by decide))
    obtain ⟨mK2, e1, g5⟩ := z_l79 (q1 := q1) (q4 := q4) (q5 := q5) (q2 := nI base) (mN := mN') (p := p') (dp := dp') (f := f') (i := i') (r := r') (b := 1) (A := A') hT hB g2 g4 (fun q => absurd q (by decide))
    refine ⟨N0, r', mK2, mN', mkP p' dp' f' i' r' 1 A', fun N hN => ?_, g5.2.2, g3.2.2⟩
    rw [start, hN0 N hN]
    exact e1 N
  · rw [hp] at lv
    obtain ⟨e1, l1, l2, l3, A', mK', mN', g1, g2, g3, g4⟩ := lv
    obtain ⟨N0, hN0⟩ := fin g1 (.inl (show nI 0 ≤ 0 by decide))
    have g3 : KV B ((k1, k2, k3, k4), (n1, n2, n3, n4, n5, n6)) mK' (mRo 4 B x) := g3
    have g4 : NV B ((k1, k2, k3, k4), (n1, n2, n3, n4, n5, n6)) mN' (nRo B 4 0 x) := g4
    have l2 : 2 * 0 + (mRo 4 B x).length ≤ 2 * p' := l2
    have l3 : 2 * 0 + (nRo B 4 0 x).length + 0 ≤ 2 * p' := l3
    obtain ⟨mK2, e2, g5⟩ := z_l79 (q1 := q1) (q4 := q4) (q5 := q5) (q2 := nI base) (mN := mN') (p := p') (dp := 0) (f := 0) (i := 0) (r := nRix B 0 x (nRo B 4 0 x)) (b := 0) (A := A') hT hB g3 (by omega) (fun q => by omega)
    rw [ob_s]
    dsimp only
    by_cases w : s' = []
    · rw [if_pos w]
      have hl : p' = T.length := by
        rw [w] at e1
        have := List.drop_eq_nil_iff.mp e1.symm
        omega
      refine ⟨N0, mK2, mN', mkP p' 0 0 0 (nRix B 0 x (nRo B 4 0 x)) 0 A', fun N hN => ?_, g5, g4, by omega, by omega⟩
      rw [start, hN0 N hN]
      refine (e2 N).trans ?_
      rw [if_pos ⟨rfl, hl⟩]
    · rw [if_neg w]
      have hl : ¬ p' = T.length := by
        intro q
        exact w (e1.trans (List.drop_eq_nil_iff.mpr (by omega)))
      refine ⟨N0, nRix B 0 x (nRo B 4 0 x), mK2, mN', mkP p' 0 0 0 (nRix B 0 x (nRo B 4 0 x)) 0 A', fun N hN => ?_, g5.2.2, g4.2.2⟩
      rw [start, hN0 N hN]
      refine (e2 N).trans ?_
      rw [if_neg (fun q => hl q.2)]
end
