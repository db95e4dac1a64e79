/-! the model's tools -/
theorem z_emit {B : Nat} {O : MdK × MdN} {mQ : MdQ} {mK : MdK} {C : List Mce} (hq : mQ.2.2.1 = nI B) (h : KV B O mK C) (hB : B ≤ 256) (hC : C.length < 256) (k v s : Nat) {x1 x2 x3 : Int32} (h1 : x1 = nI k) (h2 : x2 = nI v) (h3 : x3 = if hasSt k = true then nI s else -1) :
    ∃ mK', f8_emit x1 x2 x3 mQ mK = some (nI (B + C.length), mK') ∧ KV B O mK' (C ++ [(k, v, s)]) := by
  obtain ⟨q1, q2, q3, q4, q5⟩ := mQ
  obtain ⟨z, a, b, c⟩ := mK
  obtain ⟨hz, hp, ho⟩ := h
  dsimp only at hz hq
  subst hz hq
  have hg := z_gd (n := B + C.length) (N := 512) (by omega) (by omega)
  rw [f8_emit]
  dsimp only [nm_v]
  rw [nI_add, if_neg hg, if_neg hg, if_neg hg, z_nat (by omega)]
  refine ⟨_, rfl, by dsimp only; rw [nI_1, List.length_append]; rfl, fun j p hj => ?_, fun j hj => ?_⟩
  case refine_2 =>
    have := ho j hj
    dsimp only at this ⊢
    rw [z_upd_n (by omega), z_upd_n (by omega), z_upd_n (by omega)]
    exact this
  by_cases e : j = C.length
  · subst e
    rw [List.getElem?_append_right (Nat.le_refl _), Nat.sub_self] at hj
    cases hj
    exact ⟨by dsimp only; rw [z_upd_e, h1], by dsimp only; rw [z_upd_e, h2], by dsimp only; rw [z_upd_e]; exact h3⟩
  · have hl : j < C.length := by
      have := (List.getElem?_eq_some_iff.mp hj).1
      rw [List.length_append] at this
      have h1 : ([(k, v, s)] : List Mce).length = 1 := rfl
      omega
    rw [List.getElem?_append_left hl] at hj
    have := hp j p hj
    unfold MkAt at this ⊢
    dsimp only at this ⊢
    rw [z_upd_n (by omega), z_upd_n (by omega), z_upd_n (by omega)]
    exact this
theorem z_land {B : Nat} {O : MdK × MdN} {mQ : MdQ} {mK : MdK} {C E : List Mce} {k s v : Nat} (hq : mQ.2.2.1 = nI B) (h : KV B O mK (C ++ (k, v, s) :: E)) (hB : B ≤ 256) (hC : C.length < 256) {x : Int32} (hx : x = nI (B + C.length)) :
    ∃ mK', f8_land x mQ mK = some mK' ∧ KV B O mK' (C ++ (k, B + C.length + 1 + E.length, s) :: E) := by
  obtain ⟨q1, q2, q3, q4, q5⟩ := mQ
  obtain ⟨z, a, b, c⟩ := mK
  obtain ⟨hz, hp, ho⟩ := h
  dsimp only at hz hq
  subst hz hq hx
  rw [f8_land, if_neg (z_gd (n := B + C.length) (N := 512) (by omega) (by omega)), z_nat (by omega)]
  refine ⟨_, rfl, by simp only [List.length_append, List.length_cons], fun j p hj => ?_, fun j hj => ?_⟩
  case refine_2 =>
    have := ho j hj
    dsimp only at this ⊢
    rw [z_upd_n (by omega)]
    exact this
  by_cases e : j = C.length
  · subst e
    have h2 := hp C.length (k, v, s) (by rw [List.getElem?_append_right (Nat.le_refl _), Nat.sub_self]; rfl)
    rw [List.getElem?_append_right (Nat.le_refl _), Nat.sub_self] at hj
    cases hj
    unfold MkAt at h2 ⊢
    dsimp only at h2 ⊢
    refine ⟨h2.1, ?_, h2.2.2⟩
    rw [z_upd_e, nI_add, List.length_append, List.length_cons]
    congr 1
    omega
  · have h2 := hp j p (by
      by_cases hl : j < C.length
      · rw [List.getElem?_append_left hl] at hj ⊢; exact hj
      · rw [List.getElem?_append_right (by omega)] at hj ⊢
        obtain ⟨i, hi⟩ : ∃ i, j - C.length = i + 1 := ⟨j - C.length - 1, by omega⟩
        rw [hi] at hj ⊢
        exact hj)
    unfold MkAt at h2 ⊢
    dsimp only at h2 ⊢
    rw [z_upd_n (by omega)]
    exact h2
theorem z_create {B : Nat} {O : MdK × MdN} {mQ : MdQ} {mN : MdN} {D : List Nde} (hq : mQ.2.2.1 = nI B) (h : NV B O mN D) (hB : B ≤ 256) (hD : D.length < 256) (k : Nat) (x1 x2 x3 x4 x5 : Int32) (h1 : x1 = nI k) :
    ∃ mN', f8_create x1 x2 x3 x4 x5 mQ mN = some (nI (B + D.length), mN') ∧ NV B O mN' (D ++ [(k, x2, x3, x4, x5)]) := by
  obtain ⟨q1, q2, q3, q4, q5⟩ := mQ
  obtain ⟨z, a, b, c, d, e⟩ := mN
  obtain ⟨hz, hp, ho⟩ := h
  dsimp only at hz hq
  subst hz hq
  have hg := z_gd (n := B + D.length) (N := 512) (by omega) (by omega)
  rw [f8_create]
  dsimp only [nm_v]
  rw [nI_add, if_neg hg, if_neg hg, if_neg hg, if_neg hg, if_neg hg, z_nat (by omega)]
  refine ⟨_, rfl, by dsimp only; rw [nI_1, List.length_append]; rfl, fun j p hj => ?_, fun j hj => ?_⟩
  case refine_2 =>
    have := ho j hj
    dsimp only at this ⊢
    rw [z_upd_n (by omega), z_upd_n (by omega), z_upd_n (by omega), z_upd_n (by omega), z_upd_n (by omega)]
    exact this
  by_cases e : j = D.length
  · subst e
    rw [List.getElem?_append_right (Nat.le_refl _), Nat.sub_self] at hj
    cases hj
    exact ⟨by dsimp only; rw [z_upd_e, h1], z_upd_e, z_upd_e, z_upd_e, z_upd_e⟩
  · have hl : j < D.length := by
      have := (List.getElem?_eq_some_iff.mp hj).1
      rw [List.length_append] at this
      have h1 : ([(k, x2, x3, x4, x5)] : List Nde).length = 1 := rfl
      omega
    rw [List.getElem?_append_left hl] at hj
    have := hp j p hj
    unfold NdAt at this ⊢
    dsimp only at this ⊢
    rw [z_upd_n (by omega), z_upd_n (by omega), z_upd_n (by omega), z_upd_n (by omega), z_upd_n (by omega)]
    exact this
/-- the arrays of the frames, and the items -/
abbrev Arr : Type := (Nat → Int32) × (Nat → Int32) × (Nat → Int32) × (Nat → Int32) × (Nat → Int32) × (Nat → Int32) × (Nat → Int32) × (Nat → Int32)
def mkP (p dp f i : Nat) (r b : Int32) (A : Arr) : MdP := (nI p, nI dp, nI f, nI i, r, b, A.1, A.2.1, A.2.2.1, A.2.2.2.1, A.2.2.2.2.1, A.2.2.2.2.2.1, A.2.2.2.2.2.2.1, A.2.2.2.2.2.2.2)
/-- two hold the same below -/
def AG (f i : Nat) (A E : Arr) : Prop := (∀ j, j < f → A.1 j = E.1 j ∧ A.2.1 j = E.2.1 j ∧ A.2.2.1 j = E.2.2.1 j ∧ A.2.2.2.1 j = E.2.2.2.1 j ∧ A.2.2.2.2.1 j = E.2.2.2.2.1 j ∧ A.2.2.2.2.2.1 j = E.2.2.2.2.2.1 j ∧ A.2.2.2.2.2.2.1 j = E.2.2.2.2.2.2.1 j) ∧ ∀ j, j < i → A.2.2.2.2.2.2.2 j = E.2.2.2.2.2.2.2 j
theorem AG.refl {f i : Nat} {A : Arr} : AG f i A A := ⟨fun _ _ => ⟨rfl, rfl, rfl, rfl, rfl, rfl, rfl⟩, fun _ _ => rfl⟩
theorem AG.trans {f i f' i' : Nat} {A E G : Arr} (h1 : AG f i A E) (h2 : AG f' i' E G) (hf : f ≤ f') (hi : i ≤ i') : AG f i A G :=
  ⟨fun j hj => by
    obtain ⟨a1, a2, a3, a4, a5, a6, a7⟩ := h1.1 j hj
    obtain ⟨b1, b2, b3, b4, b5, b6, b7⟩ := h2.1 j (by omega)
    exact ⟨a1.trans b1, a2.trans b2, a3.trans b3, a4.trans b4, a5.trans b5, a6.trans b6, a7.trans b7⟩, fun j hj => (h1.2 j hj).trans (h2.2 j (by omega))⟩
/-- the text in the model -/
def TXM (mT : MdT) (T : List Nat) : Prop := mT.1 = nI T.length ∧ T.length ≤ 60 ∧ ∀ j c, T[j]? = some c → mT.2 j = nI c ∧ c < 128 ∧ c ≠ 0
section
variable {mT : MdT} {T : List Nat} {p dp f i c : Nat} {r0 : Int32} {A : Arr} {s : List Nat} {b : Int32}
theorem z_pk0 (hT : TXM mT T) (hp : T.drop p = []) (hl : p < 2 ^ 20) : f8_peek mT (mkP p dp f i r0 b A) = some 0 := by
  obtain ⟨t1, t2⟩ := mT
  have h1 := hT.1
  dsimp only at h1
  subst h1
  have h60 := hT.2.1
  have hl2 := List.drop_eq_nil_iff.mp hp
  rw [mkP, f8_peek, if_pos ((nI_leI (by omega) (by omega)).mpr hl2)]
theorem z_pk1 (hT : TXM mT T) (hp : T.drop p = c :: s) : f8_peek mT (mkP p dp f i r0 b A) = some (nI c) := by
  obtain ⟨t1, t2⟩ := mT
  have h1 := hT.1
  dsimp only at h1
  subst h1
  have h60 := hT.2.1
  obtain ⟨q1, q2, q3⟩ := z_dc hp
  have h3 := (hT.2.2 p c q2).1
  dsimp only at h3
  rw [mkP, f8_peek, if_neg (fun q => absurd ((nI_leI (by omega) (by omega)).mp q) (by omega)), if_neg (z_gd (by omega) (by omega)), z_nat (by omega), h3]
/-- one character, or it goes bad -/
theorem z_tk (hT : TXM mT T) (hp : p ≤ T.length) (x : Int32) (c : Nat) (hx : x = nI c) (hc : c < 128) (hc0 : c ≠ 0) :
    (pTok c p (T.drop p) = none ∧ f8_take x mT (mkP p dp f i r0 0 A) = some (0, mkP (p + 1) dp f i r0 1 A)) ∨
    (pTok c p (T.drop p) = some (p + 1, T.drop (p + 1)) ∧ p + 1 ≤ T.length ∧ f8_take x mT (mkP p dp f i r0 0 A) = some (1, mkP (p + 1) dp f i r0 0 A)) := by
  subst hx
  have h60 := hT.2.1
  rcases h : T.drop p with _ | ⟨b, s⟩
  · left
    have h1 := z_pk0 (dp := dp) (f := f) (i := i) (r0 := r0) (A := A) (b := 0) hT h (by omega)
    obtain ⟨t1, t2⟩ := mT
    refine ⟨rfl, ?_⟩
    rw [mkP] at h1 ⊢
    have h0 : ¬ (0 : Int32) = nI c := fun q => hc0 ((nI_eq (a := 0) (by omega) (by omega)).mp q).symm
    rw [f8_take, if_pos rfl, h1, ob_s, if_neg h0, f8_take_L16, f8_take_L21, if_pos (.inr rfl), if_neg (by decide), nI_1, mkP]
  · have h1 := z_pk1 (dp := dp) (f := f) (i := i) (r0 := r0) (A := A) (b := 0) hT h
    obtain ⟨q1, q2, q3⟩ := z_dc h
    have hb := (hT.2.2 p b q2).2.1
    obtain ⟨t1, t2⟩ := mT
    by_cases e : b = c
    · right
      subst e
      refine ⟨by rw [pTok, if_pos rfl, q3], q1, ?_⟩
      rw [mkP] at h1 ⊢
      rw [f8_take, if_pos rfl, h1, ob_s, if_pos rfl, f8_take_L21, if_pos (.inl rfl), if_pos rfl, nI_1, mkP]
    · left
      refine ⟨by rw [pTok, if_neg e], ?_⟩
      rw [mkP] at h1 ⊢
      rw [f8_take, if_pos rfl, h1, ob_s, if_neg (fun q => e ((nI_eq (by omega) (by omega)).mp q)), f8_take_L16, f8_take_L21, if_pos (.inr rfl), if_neg (by decide), nI_1, mkP]
theorem z_tkb (hT : TXM mT T) (hp : p ≤ T.length) (x : Int32) (c : Nat) (hx : x = nI c) (hc : c < 128) (hc0 : c ≠ 0) :
    ∃ b r1, (b = 1 ∧ pTok c p (T.drop p) = none ∨ b = 0 ∧ pTok c p (T.drop p) = some (p + 1, T.drop (p + 1)) ∧ p + 1 ≤ T.length) ∧ f8_take x mT (mkP p dp f i r0 0 A) = some (r1, mkP (p + 1) dp f i r0 b A) := by
  rcases z_tk (dp := dp) (f := f) (i := i) (r0 := r0) (A := A) hT hp x c hx hc hc0 with ⟨h1, h2⟩ | ⟨h1, h2, h3⟩
  · exact ⟨1, 0, .inl ⟨rfl, h1⟩, h2⟩
  · exact ⟨0, 1, .inr ⟨rfl, h1, h2⟩, h3⟩
theorem z_clb (hT : TXM mT T) (hp : p ≤ T.length) (x : Int32) (c : Nat) (hx : x = nI c) (hc : c < 128) (hc0 : c ≠ 0) :
    ∃ b, (b = 1 ∧ pTok c p (T.drop p) = none ∨ b = 0 ∧ pTok c p (T.drop p) = some (p + 1, T.drop (p + 1)) ∧ p + 1 ≤ T.length) ∧ f8_close x mT (mkP p (dp + 1) f i r0 0 A) = some (mkP (p + 1) dp f i r0 b A) := by
  obtain ⟨b, r1, h1, h2⟩ := z_tkb (dp := dp + 1) (f := f) (i := i) (r0 := r0) (A := A) hT hp x c hx hc hc0
  refine ⟨b, h1, ?_⟩
  obtain ⟨t1, t2⟩ := mT
  rw [mkP] at h2 ⊢
  rw [f8_close, h2, ob_s, mkP, ← nI_1 dp]
  dsimp only
  rw [Int32.add_sub_cancel, mkP]
theorem z_opb (hT : TXM mT T) (hp : p ≤ T.length) (x : Int32) (c : Nat) (hx : x = nI c) (hc : c < 128) (hc0 : c ≠ 0) (hd : dp ≤ 4) :
    ∃ b, (b = 1 ∧ (pTok c p (T.drop p) = none ∨ dp = 4) ∨ b = 0 ∧ dp < 4 ∧ pTok c p (T.drop p) = some (p + 1, T.drop (p + 1)) ∧ p + 1 ≤ T.length) ∧ f8_open x mT (mkP p dp f i r0 0 A) = some (mkP (p + 1) (dp + 1) f i r0 b A) := by
  have h := z_tk (dp := dp) (f := f) (i := i) (r0 := r0) (A := A) hT hp x c hx hc hc0
  obtain ⟨t1, t2⟩ := mT
  rcases h with ⟨h1, h2⟩ | ⟨h1, h2, h3⟩
  · refine ⟨1, .inl ⟨rfl, .inl h1⟩, ?_⟩
    rw [mkP] at h2 ⊢
    rw [f8_open, h2, ob_s, mkP]
    dsimp only
    rw [if_neg (by decide), f8_open_L22, f8_open_L27, if_pos (.inr rfl), nI_1, mkP]
  · rw [mkP] at h3
    by_cases e : dp = 4
    · subst e
      refine ⟨1, .inl ⟨rfl, .inr rfl⟩, ?_⟩
      rw [mkP, f8_open, h3, ob_s, mkP]
      dsimp only
      rw [if_pos rfl, if_pos (show nI 4 = (4 : Int32) from rfl), f8_open_L22, f8_open_L27, if_pos (.inr rfl), nI_1, mkP]
    · refine ⟨0, .inr ⟨rfl, by omega, h1, h2⟩, ?_⟩
      have e4 : ¬ nI dp = (4 : Int32) := fun q => e ((nI_eq (b := 4) (by omega) (by omega)).mp q)
      rw [mkP, f8_open, h3, ob_s, mkP]
      dsimp only
      rw [if_pos rfl, if_neg e4, f8_open_L27, if_pos (.inl rfl), nI_1, mkP]
theorem z_fi {v : Int32} : f8_finish v (mkP p dp (f + 1) i r0 b A) = some (mkP p dp f i v b A) := by
  rw [mkP, f8_finish, ← nI_1 f, Int32.add_sub_cancel, mkP]
/-- a new frame -/
abbrev sS (f : Nat) (v : Int32) (A : Arr) : Arr := (A.1, upd A.2.1 f v, A.2.2)
abbrev s0 (f : Nat) (v : Int32) (A : Arr) : Arr := (A.1, A.2.1, upd A.2.2.1 f v, A.2.2.2)
abbrev s1 (f : Nat) (v : Int32) (A : Arr) : Arr := (A.1, A.2.1, A.2.2.1, upd A.2.2.2.1 f v, A.2.2.2.2)
abbrev s2 (f : Nat) (v : Int32) (A : Arr) : Arr := (A.1, A.2.1, A.2.2.1, A.2.2.2.1, upd A.2.2.2.2.1 f v, A.2.2.2.2.2)
abbrev s3 (f : Nat) (v : Int32) (A : Arr) : Arr := (A.1, A.2.1, A.2.2.1, A.2.2.2.1, A.2.2.2.2.1, upd A.2.2.2.2.2.1 f v, A.2.2.2.2.2.2)
abbrev s4 (f : Nat) (v : Int32) (A : Arr) : Arr := (A.1, A.2.1, A.2.2.1, A.2.2.2.1, A.2.2.2.2.1, A.2.2.2.2.2.1, upd A.2.2.2.2.2.2.1 f v, A.2.2.2.2.2.2.2)
abbrev sI (i : Nat) (v : Int32) (A : Arr) : Arr := (A.1, A.2.1, A.2.2.1, A.2.2.2.1, A.2.2.2.2.1, A.2.2.2.2.2.1, A.2.2.2.2.2.2.1, upd A.2.2.2.2.2.2.2 i v)
abbrev pshA (f : Nat) (k : Int32) (A : Arr) : Arr := (upd A.1 f k, upd A.2.1 f 0, upd A.2.2.1 f (-1), A.2.2.2)
theorem z_pu {k : Int32} (hf : f < 80) : f8_push k (mkP p dp f i r0 b A) = some (mkP p dp (f + 1) i r0 b (pshA f k A)) := by
  have hg := z_gd hf (by omega)
  rw [mkP, f8_push, if_neg hg, if_neg hg, if_neg hg, z_nat (by omega), nI_1, mkP, pshA]
end
