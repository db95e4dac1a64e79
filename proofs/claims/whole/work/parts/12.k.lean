/-! statements: steps -/
section
variable {k : KT} {N : Nat} {mT : MdT} {T : List Nat} {B : Nat} {O : MdK × MdN} {q1 q2 q4 q5 : Int32} {mK : MdK} {mN : MdN} {p dp f i c F : Nat} {r b : Int32} {A : Arr} {C M : List Mce} {D : List Nde}
theorem z_tk1 {x : Int32} : f8_take x mT (mkP p dp f i r 1 A) = some (0, mkP (p + 1) dp f i r 1 A) := by
  obtain ⟨t1, t2⟩ := mT
  rw [mkP, f8_take, if_neg (by decide), f8_take_L16, f8_take_L21, if_pos (.inr rfl), if_neg (by decide), nI_1]
  rfl
theorem z_op1 {x : Int32} : f8_open x mT (mkP p dp f i r 1 A) = some (mkP (p + 1) (dp + 1) f i r 1 A) := by
  have h := z_tk1 (mT := mT) (p := p) (dp := dp) (f := f) (i := i) (r := r) (A := A) (x := x)
  obtain ⟨t1, t2⟩ := mT
  rw [mkP] at h ⊢
  rw [f8_open, h, ob_s, mkP]
  dsimp only
  rw [if_neg (by decide), f8_open_L22, f8_open_L27, if_pos (.inr rfl), nI_1, mkP]
theorem z_end {v q kk : Nat} {n : Int32} (hB : B ≤ 256) (hf : f < 80) (hq : A.2.2.2.1 f = nI (B + C.length)) (h1 : KV B O mK (C ++ (kk, v, q) :: M)) (hC : C.length < 256) :
    ∃ mK', f8_end (nI f) n (q1, q2, nI B, q4, q5) mK (mkP p dp (f + 1) i r b A) = some (mK', mkP p dp f i n b A) ∧ KV B O mK' (C ++ (kk, B + C.length + 1 + M.length, q) :: M) := by
  have hg := z_gd (n := f) (N := 80) (by omega) (by omega)
  obtain ⟨mK', e1, g1⟩ := z_land (mQ := (q1, q2, nI B, q4, q5)) rfl h1 hB hC (x := nI (B + C.length)) rfl
  refine ⟨mK', ?_, g1⟩
  have h3 := z_fi (p := p) (dp := dp) (f := f) (i := i) (r0 := r) (b := b) (A := A) (v := n)
  obtain ⟨a1, a2, a3, a4⟩ := mK
  rw [mkP] at h3 ⊢
  rw [f8_end, if_neg hg, z_nat (n := f) (by omega), hq, e1, ob_s]
  dsimp only
  rw [h3]
  rfl
/-- the statement's place -/
theorem z_ss {v q : Nat} (h1 : KV B O mK (C ++ (1, v, q) :: M)) : mK.2.2.2 (B + C.length) = nI q := by
  have h := (h1.2.1 C.length _ (by rw [List.getElem?_append_right (Nat.le_refl _), Nat.sub_self]; rfl)).2.2
  rw [if_pos (by rfl)] at h
  exact h
/-- v=E; !C; ^E; at their end -/
theorem z_stE {v q st kk nk : Nat} {xa xb xc : Int32} {kv : Nat} (hs : st = 1 ∧ kk = 8 ∧ nk = 6 ∧ A.2.2.2.2.1 f = nI kv ∧ xa = nI kv ∧ xb = r ∧ xc = 0 ∨ st = 7 ∧ kk = 12 ∧ nk = 9 ∧ kv = 0 ∧ xa = r ∧ xb = -1 ∧ xc = -1 ∨ st = 8 ∧ kk = 13 ∧ nk = 10 ∧ kv = 0 ∧ xa = r ∧ xb = -1 ∧ xc = -1) (hT : TXM mT T) (hp : p ≤ T.length) (hB : B ≤ 256) (hf : f < 80) (hS : A.2.1 f = nI st) (hq : A.2.2.2.1 f = nI (B + C.length)) (h1 : KV B O mK (C ++ (1, v, q) :: M)) (h2 : NV B O mN D) (hC : (C ++ (1, v, q) :: M).length < 256) (hD : D.length < 256) :
    ∃ b mK' mN', (b = 1 ∧ pTok 59 p (T.drop p) = none ∨ b = 0 ∧ pTok 59 p (T.drop p) = some (p + 1, T.drop (p + 1)) ∧ p + 1 ≤ T.length) ∧ f8_stepStatement (nI f) mT (q1, q2, nI B, q4, q5) mK mN (mkP p dp (f + 1) i r 0 A) = some (mK', mN', mkP (p + 1) dp f i (nI (B + D.length)) b A) ∧ KV B O mK' (C ++ (1, B + C.length + M.length + 2, q) :: M ++ [(kk, kv, 0)]) ∧ NV B O mN' (D ++ [(nk, xa, xb, xc, nI q)]) := by
  obtain ⟨b, r1, hb, e0⟩ := z_tkb (dp := dp) (f := f + 1) (i := i) (r0 := r) (A := A) hT hp 59 59 rfl (by omega) (by omega)
  have hCl : C.length < 256 := by rw [List.length_append] at hC; omega
  have hg := z_gd (n := f) (N := 80) (by omega) (by omega)
  have hn := z_nat (n := f) (by omega)
  have hq' : A.2.2.2.1 (nI f).toNatClampNeg = nI (B + C.length) := by rw [hn, hq]
  have hqg := z_gd (n := B + C.length) (N := 512) (by omega) (by omega)
  have hss := z_ss h1
  have hkk : hasSt kk = false := by rcases hs with ⟨_, rfl, _⟩ | ⟨_, rfl, _⟩ | ⟨_, rfl, _⟩ <;> rfl
  obtain ⟨mK1, e1, g1⟩ := z_emit (mQ := (q1, q2, nI B, q4, q5)) rfl h1 hB hC kk kv 0 (x1 := nI kk) (x2 := nI kv) (x3 := -1) rfl rfl (by rw [if_neg (by rw [hkk]; decide)])
  obtain ⟨mN', e2, g2⟩ := z_create (mQ := (q1, q2, nI B, q4, q5)) rfl h2 hB hD nk (nI nk) xa xb xc (nI q) rfl
  rw [List.append_assoc, List.cons_append] at g1
  obtain ⟨mK2, e3, g3⟩ := z_end (q1 := q1) (q2 := q2) (q4 := q4) (q5 := q5) (p := p + 1) (dp := dp) (i := i) (r := r) (b := b) (n := nI (B + D.length)) hB hf hq g1 hCl
  refine ⟨b, mK2, mN', hb, ?_, ?_, g2⟩
  · obtain ⟨t1, t2⟩ := mT
    obtain ⟨a1, a2, a3, a4⟩ := mK
    obtain ⟨b1, b2, b3, b4, b5, b6⟩ := mN
    dsimp only at hss
    rw [mkP] at e0 e3 ⊢
    have hx : (nI (B + C.length)).toNatClampNeg = B + C.length := z_nat (by omega)
    rw [f8_stepStatement, if_neg hg]
    rcases hs with ⟨rfl, rfl, rfl, hv, hxa, hxb, hxc⟩ | ⟨rfl, rfl, rfl, rfl, hxa, hxb, hxc⟩ | ⟨rfl, rfl, rfl, rfl, hxa, hxb, hxc⟩
    · have s1 : A.2.1 (nI f).toNatClampNeg = (1 : Int32) := by rw [hn, hS]; rfl
      have s0 : ¬ A.2.1 (nI f).toNatClampNeg = (0 : Int32) := by rw [s1]; decide
      have hv' : A.2.2.2.2.1 (nI f).toNatClampNeg = nI kv := by rw [hn, hv]
      rw [if_neg s0, if_neg hg, hq', if_neg hqg, hx, hss, nm_v, if_neg hg, if_pos s1, e0, ob_s, mkP]
      dsimp only
      rw [if_neg hg, hv']
      have e1' : f8_emit 8 (nI kv) (-1) (q1, q2, nI B, q4, q5) (a1, a2, a3, a4) = some (nI (B + (C ++ (1, v, q) :: M).length), mK1) := e1
      have e2' : f8_create 6 (nI kv) r 0 (nI q) (q1, q2, nI B, q4, q5) (b1, b2, b3, b4, b5, b6) = some (nI (B + D.length), mN') := by rw [hxa, hxb, hxc] at e2; exact e2
      rw [e1', ob_s]
      dsimp only
      rw [if_neg hg, e2', ob_s]
      dsimp only
      rw [e3]
      rfl
    · have s7 : A.2.1 (nI f).toNatClampNeg = (7 : Int32) := by rw [hn, hS]; rfl
      have s0 : ¬ A.2.1 (nI f).toNatClampNeg = (0 : Int32) := by rw [s7]; decide
      rw [if_neg s0, if_neg hg, hq', if_neg hqg, hx, hss, nm_v, if_neg hg, s7, if_neg (by decide), if_neg (by decide), if_neg (by decide), if_neg (by decide), if_neg (by decide), if_neg (by decide), if_pos rfl, e0, ob_s, mkP]
      dsimp only
      have e1' : f8_emit 12 0 (-1) (q1, q2, nI B, q4, q5) (a1, a2, a3, a4) = some (nI (B + (C ++ (1, v, q) :: M).length), mK1) := e1
      have e2' : f8_create 9 r (-1) (-1) (nI q) (q1, q2, nI B, q4, q5) (b1, b2, b3, b4, b5, b6) = some (nI (B + D.length), mN') := by rw [hxa, hxb, hxc] at e2; exact e2
      rw [e1', ob_s]
      dsimp only
      rw [e2', ob_s]
      dsimp only
      rw [e3]
      rfl
    · have s8 : A.2.1 (nI f).toNatClampNeg = (8 : Int32) := by rw [hn, hS]; rfl
      have s0 : ¬ A.2.1 (nI f).toNatClampNeg = (0 : Int32) := by rw [s8]; decide
      rw [if_neg s0, if_neg hg, hq', if_neg hqg, hx, hss, nm_v, if_neg hg, s8, if_neg (by decide), if_neg (by decide), if_neg (by decide), if_neg (by decide), if_neg (by decide), if_neg (by decide), if_neg (by decide), e0, ob_s, mkP]
      dsimp only
      have e1' : f8_emit 13 0 (-1) (q1, q2, nI B, q4, q5) (a1, a2, a3, a4) = some (nI (B + (C ++ (1, v, q) :: M).length), mK1) := e1
      have e2' : f8_create 10 r (-1) (-1) (nI q) (q1, q2, nI B, q4, q5) (b1, b2, b3, b4, b5, b6) = some (nI (B + D.length), mN') := by rw [hxa, hxb, hxc] at e2; exact e2
      rw [e1', ob_s]
      dsimp only
      rw [e2', ob_s]
      dsimp only
      rw [e3]
      rfl
  · have : B + C.length + 1 + (M ++ [(kk, kv, 0)]).length = B + C.length + M.length + 2 := by rw [List.length_append]; simp only [List.length_cons, List.length_nil]; omega
    rw [this] at g3
    rw [List.append_assoc, List.cons_append]
    exact g3
/-- the begin of a set -/
theorem z_bsS (hT : TXM mT T) {s : List Nat} (e : T.drop p = c :: s) (hc : 97 ≤ c ∧ c ≤ 102) (hB : B ≤ 256) (hf : f + 1 < 80) (h1 : KV B O mK C) (hC : C.length < 256) :
    ∃ b mK', (b = 1 ∧ pTok 61 (p + 1) (T.drop (p + 1)) = none ∨ b = 0 ∧ pTok 61 (p + 1) (T.drop (p + 1)) = some (p + 1 + 1, T.drop (p + 1 + 1)) ∧ p + 1 + 1 ≤ T.length) ∧ f8_beginStatement (nI f) mT (q1, q2, nI B, q4, q5) mK (mkP p dp (f + 1) i r 0 A) = some (mK', mkP (p + 1 + 1) dp (f + 2) i r b (pshA (f + 1) 5 (sS f 1 (s2 f (nI (c - 97)) (s1 f (nI (B + C.length)) A))))) ∧ KV B O mK' (C ++ [(1, 0, p)]) := by
  obtain ⟨w1, w2, w3⟩ := z_dc e
  have hc128 := (hT.2.2 p c w2).2.1
  have pk := z_pk1 (dp := dp) (f := f + 1) (i := i) (r0 := r) (A := A) (b := 0) hT e
  obtain ⟨b, r1, hb, e0⟩ := z_tkb (dp := dp) (f := f + 1) (i := i) (r0 := r) (A := s2 f (nI (c - 97)) (s1 f (nI (B + C.length)) A)) hT (show p + 1 ≤ T.length by omega) 61 61 rfl (by omega) (by omega)
  obtain ⟨mK', e1, g1⟩ := z_emit (mQ := (q1, q2, nI B, q4, q5)) rfl h1 hB hC 1 0 p (x1 := 1) (x2 := 0) (x3 := nI p) rfl rfl rfl
  have h3 := z_pu (p := p + 1 + 1) (dp := dp) (f := f + 1) (i := i) (r0 := r) (b := b) (A := sS f 1 (s2 f (nI (c - 97)) (s1 f (nI (B + C.length)) A))) (k := 5) hf
  have hg := z_gd (n := f) (N := 80) (by omega) (by omega)
  have hn := z_nat (n := f) (by omega)
  refine ⟨b, mK', hb, ?_, g1⟩
  obtain ⟨t1, t2⟩ := mT
  obtain ⟨a1, a2, a3, a4⟩ := mK
  rw [mkP] at e0 h3 pk ⊢
  rw [f8_beginStatement, pk, ob_s, e1, ob_s]
  dsimp only
  rw [if_neg hg, if_neg (nl_nlt c 97 97 rfl (by omega) (by omega)), if_neg (nl_ngt c 102 102 rfl (by omega) (by omega)), if_neg hg, show nI c - (97 : Int32) = nI (c - 97) from pk_sub (b := 97) hc.1, hn, nI_1, e0, ob_s, mkP]
  dsimp only
  rw [if_neg (by rw [hn] at hg; exact hg), h3]
  rfl
def ST (c : Nat) : Int32 := if c = 63 then 2 else if c = 64 then 5 else if c = 33 then 7 else 8
/-- the begin of another statement -/
theorem z_bsO (hc : c < 128) (hca : c < 97 ∨ 102 < c) (pk : f8_peek mT (mkP p dp (f + 1) i r 0 A) = some (nI c)) (hB : B ≤ 256) (hf : f + 1 < 80) (h1 : KV B O mK C) (hC : C.length < 256) :
    ∃ mK', f8_beginStatement (nI f) mT (q1, q2, nI B, q4, q5) mK (mkP p dp (f + 1) i r 0 A) = some (mK', mkP (p + 1) dp (f + 2) i r (if c = 63 ∨ c = 64 ∨ c = 33 ∨ c = 94 then 0 else 1) (pshA (f + 1) (if c = 94 then 5 else 2) (s4 f (nI (B + C.length + 1)) (sS f (ST c) (s1 f (nI (B + C.length)) A))))) ∧ KV B O mK' (C ++ [(1, 0, p)]) := by
  obtain ⟨mK', e1, g1⟩ := z_emit (mQ := (q1, q2, nI B, q4, q5)) rfl h1 hB hC 1 0 p (x1 := 1) (x2 := 0) (x3 := nI p) rfl rfl rfl
  have hg := z_gd (n := f) (N := 80) (by omega) (by omega)
  have hn := z_nat (n := f) (by omega)
  have hg' : ¬ (nI f < 0 ∨ 80 ≤ f) := by rw [hn] at hg; exact hg
  have hsz := g1.1
  refine ⟨mK', ?_, g1⟩
  have h3 := fun k b S => z_pu (p := p + 1) (dp := dp) (f := f + 1) (i := i) (r0 := r) (b := b) (A := s4 f (nI (B + C.length + 1)) (sS f S (s1 f (nI (B + C.length)) A))) (k := k) hf
  obtain ⟨t1, t2⟩ := mT
  obtain ⟨a1, a2, a3, a4⟩ := mK
  obtain ⟨c1, c2, c3, c4⟩ := mK'
  dsimp only at hsz
  have hsz' : nI B + c1 = nI (B + C.length + 1) := by rw [hsz, List.length_append, nI_add]; rfl
  have u142 : ∀ (y S : Int32) (k : Int32), (y = 0 ∨ y = 1) → (k = if c = 94 then 5 else 2) → f8_beginStatement_L142 t1 t2 q1 q2 (nI B) q4 q5 (nI f) (nI c) y (c1, c2, c3, c4) (nI (p + 1), nI dp, nI (f + 1), nI i, r, 0, A.1, upd A.2.1 f S, A.2.2.1, upd A.2.2.2.1 f (nI (B + C.length)), A.2.2.2.2.1, A.2.2.2.2.2.1, A.2.2.2.2.2.2.1, A.2.2.2.2.2.2.2) = some ((c1, c2, c3, c4), mkP (p + 1) dp (f + 2) i r y (pshA (f + 1) k (s4 f (nI (B + C.length + 1)) (sS f S (s1 f (nI (B + C.length)) A))))) := by
    intro y S k hy hk
    have h3 := h3 k y S
    rw [mkP] at h3
    rw [f8_beginStatement_L142, if_pos hy, if_neg hg, hn, hsz']
    by_cases w : c = 94
    · rw [if_pos w] at hk
      subst hk
      rw [if_pos (by rw [w]; rfl), h3]
      rfl
    · rw [if_neg w] at hk
      subst hk
      rw [if_neg (nl_ne c 94 94 rfl w (by omega) (by omega)), h3]
      rfl
  have u111 : ∀ S : Int32, S = 2 ∨ S = 5 ∨ S = 7 ∨ S = 8 → f8_beginStatement_L111 t1 t2 q1 q2 (nI B) q4 q5 (nI f) (nI c) S (nI f) (c1, c2, c3, c4) (nI (p + 1), nI dp, nI (f + 1), nI i, r, 0, A.1, A.2.1, A.2.2.1, upd A.2.2.2.1 f (nI (B + C.length)), A.2.2.2.2.1, A.2.2.2.2.2.1, A.2.2.2.2.2.2.1, A.2.2.2.2.2.2.2) = some ((c1, c2, c3, c4), mkP (p + 1) dp (f + 2) i r (if S = 8 ∧ c ≠ 94 then 1 else 0) (pshA (f + 1) (if c = 94 then 5 else 2) (s4 f (nI (B + C.length + 1)) (sS f S (s1 f (nI (B + C.length)) A))))) := by
    intro S hS
    rw [f8_beginStatement_L111, if_neg hg, if_pos rfl, if_neg hg, hn, z_upd_e]
    by_cases w8 : S = 8
    · rw [if_pos w8]
      by_cases w : c = 94
      · rw [if_pos (show nI c = (94 : Int32) by rw [w]; rfl), f8_beginStatement_L141, u142 0 S _ (.inl rfl) rfl, if_neg (show ¬ (S = 8 ∧ c ≠ 94) from fun q => q.2 w)]
      · rw [if_neg (nl_ne c 94 94 rfl w (by omega) (by omega)), f8_beginStatement_L137, u142 1 S _ (.inr rfl) rfl, if_pos (show S = 8 ∧ c ≠ 94 from ⟨w8, w⟩)]
    · rw [if_neg w8, f8_beginStatement_L141, u142 0 S _ (.inl rfl) rfl, if_neg (show ¬ (S = 8 ∧ c ≠ 94) from fun q => w8 q.1)]
  have u73 : f8_beginStatement_L73 t1 t2 q1 q2 (nI B) q4 q5 (nI f) (nI c) (c1, c2, c3, c4) (nI (p + 1), nI dp, nI (f + 1), nI i, r, 0, A.1, A.2.1, A.2.2.1, upd A.2.2.2.1 f (nI (B + C.length)), A.2.2.2.2.1, A.2.2.2.2.2.1, A.2.2.2.2.2.2.1, A.2.2.2.2.2.2.2) = some ((c1, c2, c3, c4), mkP (p + 1) dp (f + 2) i r (if c = 63 ∨ c = 64 ∨ c = 33 ∨ c = 94 then 0 else 1) (pshA (f + 1) (if c = 94 then 5 else 2) (s4 f (nI (B + C.length + 1)) (sS f (ST c) (s1 f (nI (B + C.length)) A))))) := by
    rw [f8_beginStatement_L73, ST]
    by_cases w1 : c = 63
    · rw [if_pos (show nI c = (63 : Int32) by rw [w1]; rfl), u111 2 (.inl rfl), if_neg (show ¬ ((2 : Int32) = 8 ∧ c ≠ 94) from fun q => absurd q.1 (by decide)), if_pos w1, if_pos (show (c = 63 ∨ c = 64 ∨ c = 33 ∨ c = 94) from .inl w1)]
    · rw [if_neg (nl_ne c 63 63 rfl w1 (by omega) (by omega)), if_neg w1]
      by_cases w2 : c = 64
      · rw [if_pos (show nI c = (64 : Int32) by rw [w2]; rfl), u111 5 (.inr (.inl rfl)), if_neg (show ¬ ((5 : Int32) = 8 ∧ c ≠ 94) from fun q => absurd q.1 (by decide)), if_pos w2, if_pos (show (c = 63 ∨ c = 64 ∨ c = 33 ∨ c = 94) from .inr (.inl w2))]
      · rw [if_neg (nl_ne c 64 64 rfl w2 (by omega) (by omega)), if_neg w2]
        by_cases w3 : c = 33
        · rw [if_pos (show nI c = (33 : Int32) by rw [w3]; rfl), u111 7 (.inr (.inr (.inl rfl))), if_neg (show ¬ ((7 : Int32) = 8 ∧ c ≠ 94) from fun q => absurd q.1 (by decide)), if_pos w3, if_pos (show (c = 63 ∨ c = 64 ∨ c = 33 ∨ c = 94) from .inr (.inr (.inl w3)))]
        · rw [if_neg (nl_ne c 33 33 rfl w3 (by omega) (by omega)), if_neg w3, u111 8 (.inr (.inr (.inr rfl)))]
          by_cases w4 : c = 94
          · rw [if_neg (show ¬ ((8 : Int32) = 8 ∧ c ≠ 94) from fun q => q.2 w4), if_pos (show (c = 63 ∨ c = 64 ∨ c = 33 ∨ c = 94) from .inr (.inr (.inr w4)))]
          · rw [if_pos (show (8 : Int32) = 8 ∧ c ≠ 94 from ⟨rfl, w4⟩), if_neg (show ¬ (c = 63 ∨ c = 64 ∨ c = 33 ∨ c = 94) from fun q => by rcases q with q | q | q | q <;> contradiction)]
  rw [mkP] at pk ⊢
  rw [f8_beginStatement, pk, ob_s, e1, ob_s]
  dsimp only
  rw [if_neg hg, hn, nI_1, u73]
  rcases hca with w | w
  · rw [if_pos (nl_lt c 97 97 rfl w (by omega)), mkP]
  · rw [if_neg (nl_nlt c 97 97 rfl (by omega) (by omega)), if_pos (nl_gt c 102 102 rfl w (by omega)), mkP]
/-- a statement is begun -/
theorem z_st0 {mQ : MdQ} (hf : f < 80) (hS : A.2.1 f = 0) {mK' : MdK} {P' : MdP} (h : f8_beginStatement (nI f) mT mQ mK (mkP p dp (f + 1) i r b A) = some (mK', P')) : f8_stepStatement (nI f) mT mQ mK mN (mkP p dp (f + 1) i r b A) = some (mK', mN, P') := by
  have hg := z_gd (n := f) (N := 80) (by omega) (by omega)
  have hS' : A.2.1 (nI f).toNatClampNeg = 0 := by rw [z_nat (by omega)]; exact hS
  obtain ⟨t1, t2⟩ := mT
  obtain ⟨q1, q2, q3, q4, q5⟩ := mQ
  obtain ⟨a1, a2, a3, a4⟩ := mK
  obtain ⟨b1, b2, b3, b4, b5, b6⟩ := mN
  rw [mkP] at h ⊢
  rw [f8_stepStatement, if_neg hg, if_pos hS', h]
  rfl
end
