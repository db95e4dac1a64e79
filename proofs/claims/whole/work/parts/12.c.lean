/-! the model's reading goes on -/
abbrev MSt : Type := MdK × MdN × MdP
abbrev KT : Type := MdQ → MdK → MdN → MdP → Option (Int32 × MdQ × MdK × MdN × MdP)
def LO (k : KT) (N : Nat) (mT : MdT) (mQ : MdQ) (n : Nat) (st : MSt) : Option (Int32 × MdQ × MdK × MdN × MdP) := f8_read_L52 k N mT.1 mT.2 n mQ st.1 st.2.1 st.2.2
def GOS (k : KT) (N : Nat) (mT : MdT) (mQ : MdQ) (st st' : MSt) : Prop := ∃ m, ∀ (kk : KT) (j n : Nat), LO kk (N + j) mT mQ (n + m) st = LO kk (N + j) mT mQ n st'
theorem GOS_refl {k : KT} {N : Nat} {mT : MdT} {mQ : MdQ} {a : MSt} : GOS k N mT mQ a a := ⟨0, fun kk j n => rfl⟩
theorem GOS.trans {k : KT} {N : Nat} {mT : MdT} {mQ : MdQ} {a b c : MSt} (h1 : GOS k N mT mQ a b) (h2 : GOS k N mT mQ b c) : GOS k N mT mQ a c := by
  obtain ⟨m1, h1⟩ := h1
  obtain ⟨m2, h2⟩ := h2
  exact ⟨m2 + m1, fun kk j n => by rw [← Nat.add_assoc, h1, h2]⟩
theorem GOS.step {k : KT} {N : Nat} {mT : MdT} {mQ : MdQ} {mK : MdK} {mN : MdN} {p dp f i : Nat} {r0 : Int32} {A : Arr} {st' : MSt} (hf : f < 80) (h : ∀ {j : Nat}, f8_step (N + j) (nI f) mT mQ mK mN (mkP p dp (f + 1) i r0 0 A) = some st') : GOS k N mT mQ (mK, mN, mkP p dp (f + 1) i r0 0 A) st' := by
  refine ⟨1, fun kk j n => ?_⟩
  have h := @h j
  obtain ⟨t1, t2⟩ := mT
  obtain ⟨q1, q2, q3, q4, q5⟩ := mQ
  obtain ⟨a1, a2, a3, a4⟩ := mK
  obtain ⟨b1, b2, b3, b4, b5, b6⟩ := mN
  rw [mkP] at h
  unfold LO
  dsimp only
  have h0 : ¬ nI (f + 1) ≤ (0 : Int32) := fun q => absurd ((nI_leI (a := f + 1) (b := 0) (by omega) (by omega)).mp q) (by omega)
  rw [mkP, f8_read_L52, if_neg h0, if_pos rfl, ← nI_1 f, Int32.add_sub_cancel, nI_1 f, h]
  rfl
/-- what a part of the reading comes to -/
def BZ {α : Type} (k : KT) (N : Nat) (mT : MdT) (mQ : MdQ) (T : List Nat) (B : Nat) (O : MdK × MdN) (st : MSt) (res : PR α) (p dp f i : Nat) (A : Arr) (C : List Mce) (D : List Nde) (mc : α → List Mce) (nd : α → List Nde) (id : α → Int32) (sl : Nat) : Prop :=
  match res with
  | none => ∃ mK' mN' p' dp' f' i' r' A' C' D', GOS k N mT mQ st (mK', mN', mkP p' dp' f' i' r' 1 A') ∧ KV B O mK' C' ∧ NV B O mN' D' ∧ C'.length < 256
  | some (x, p', s') => s' = T.drop p' ∧ p' ≤ T.length ∧ 2 * p + (mc x).length ≤ 2 * p' ∧ 2 * p + (nd x).length + sl ≤ 2 * p' ∧ ∃ A' mK' mN', GOS k N mT mQ st (mK', mN', mkP p' dp f i (id x) 0 A') ∧ AG f i A A' ∧ KV B O mK' (C ++ mc x) ∧ NV B O mN' (D ++ nd x)
section
variable {k : KT} {N : Nat} {mT : MdT} {mQ : MdQ} {T : List Nat} {B : Nat} {O : MdK × MdN}
theorem BZ.go {α : Type} {st st2 : MSt} {res : PR α} {p dp f i : Nat} {A : Arr} {C : List Mce} {D : List Nde} {mc : α → List Mce} {nd : α → List Nde} {id : α → Int32} {sl : Nat} (h1 : GOS k N mT mQ st st2) (h : BZ k N mT mQ T B O st2 res p dp f i A C D mc nd id sl) : BZ k N mT mQ T B O st res p dp f i A C D mc nd id sl := by
  rcases res with _ | ⟨x, p', s'⟩
  · obtain ⟨mK', mN', p', dp', f', i', r', A', C', D', h2, h3⟩ := h
    exact ⟨mK', mN', p', dp', f', i', r', A', C', D', h1.trans h2, h3⟩
  · obtain ⟨e1, e2, e3, e4, A', mK', mN', h2, h3⟩ := h
    exact ⟨e1, e2, e3, e4, A', mK', mN', h1.trans h2, h3⟩
theorem BZ.bad {α : Type} {st : MSt} {p dp f i : Nat} {A : Arr} {C : List Mce} {D : List Nde} {mc : α → List Mce} {nd : α → List Nde} {id : α → Int32} {sl : Nat} {mK' : MdK} {mN' : MdN} {p' dp' f' i' : Nat} {r' : Int32} {A' : Arr} {C' : List Mce} {D' : List Nde} (h1 : GOS k N mT mQ st (mK', mN', mkP p' dp' f' i' r' 1 A')) (hK : KV B O mK' C') (hN : NV B O mN' D') (hc : C'.length < 256) : BZ k N mT mQ T B O st (none : PR α) p dp f i A C D mc nd id sl :=
  ⟨mK', mN', p', dp', f', i', r', A', C', D', h1, hK, hN, hc⟩
theorem BZ.ret {α : Type} {st : MSt} {x : α} {p dp f i : Nat} {A : Arr} {C : List Mce} {D : List Nde} {mc : α → List Mce} {nd : α → List Nde} {id : α → Int32} {sl : Nat} {mK' : MdK} {mN' : MdN} {p' : Nat} {A' : Arr} {r : Int32} (h1 : GOS k N mT mQ st (mK', mN', mkP p' dp f i r 0 A')) (hr : r = id x) (hK : KV B O mK' (C ++ mc x)) (hN : NV B O mN' (D ++ nd x)) (hA : AG f i A A') (hp : p' ≤ T.length) (hc : 2 * p + (mc x).length ≤ 2 * p') (hn : 2 * p + (nd x).length + sl ≤ 2 * p') : BZ k N mT mQ T B O st (some (x, p', T.drop p')) p dp f i A C D mc nd id sl :=
  ⟨rfl, hp, hc, hn, A', mK', mN', hr ▸ h1, hA, hK, hN⟩
theorem BZ.tok {α : Type} {st : MSt} {c : Nat} {g : Nat × List Nat → PR α} {p dp f i : Nat} {A : Arr} {C : List Mce} {D : List Nde} {mc : α → List Mce} {nd : α → List Nde} {id : α → Int32} {sl : Nat} {mK' : MdK} {mN' : MdN} {p' dp' f' i' : Nat} {r' b : Int32} {A' : Arr} {C' : List Mce} {D' : List Nde} (hb : b = 1 ∧ pTok c p' (T.drop p') = none ∨ b = 0 ∧ pTok c p' (T.drop p') = some (p' + 1, T.drop (p' + 1)) ∧ p' + 1 ≤ T.length) (h1 : GOS k N mT mQ st (mK', mN', mkP (p' + 1) dp' f' i' r' b A')) (hK : KV B O mK' C') (hN : NV B O mN' D') (hc : C'.length < 256)
    (hk : p' + 1 ≤ T.length → BZ k N mT mQ T B O (mK', mN', mkP (p' + 1) dp' f' i' r' 0 A') (g (p' + 1, T.drop (p' + 1))) p dp f i A C D mc nd id sl) : BZ k N mT mQ T B O st ((pTok c p' (T.drop p')).bind g) p dp f i A C D mc nd id sl := by
  rcases hb with ⟨rfl, e⟩ | ⟨rfl, e, hl⟩
  · rw [e]
    exact BZ.bad h1 hK hN hc
  · rw [e]
    exact (hk hl).go h1
theorem BZ.sub {α β : Type} {st : MSt} {r : PR α} {g : α × Nat × List Nat → PR β} {p1 dp1 f1 i1 : Nat} {A1 : Arr} {C1 : List Mce} {D1 : List Nde} {mc1 : α → List Mce} {nd1 : α → List Nde} {id1 : α → Int32} {sl1 : Nat} {p dp f i : Nat} {A : Arr} {C : List Mce} {D : List Nde} {mc : β → List Mce} {nd : β → List Nde} {id : β → Int32} {sl : Nat}
    (h : BZ k N mT mQ T B O st r p1 dp1 f1 i1 A1 C1 D1 mc1 nd1 id1 sl1)
    (hk : ∀ x p' A' mK' mN', p' ≤ T.length → 2 * p1 + (mc1 x).length ≤ 2 * p' → 2 * p1 + (nd1 x).length + sl1 ≤ 2 * p' → AG f1 i1 A1 A' → KV B O mK' (C1 ++ mc1 x) → NV B O mN' (D1 ++ nd1 x) → BZ k N mT mQ T B O (mK', mN', mkP p' dp1 f1 i1 (id1 x) 0 A') (g (x, p', T.drop p')) p dp f i A C D mc nd id sl) :
    BZ k N mT mQ T B O st (r.bind g) p dp f i A C D mc nd id sl := by
  rcases r with _ | ⟨x, p', s'⟩
  · exact h
  · obtain ⟨e1, e2, e3, e4, A', mK', mN', h2, h3, h4, h5⟩ := h
    subst e1
    exact (hk x p' A' mK' mN' e2 e3 e4 h3 h4 h5).go h2
theorem BZ.map {α β : Type} {st : MSt} {r : PR α} {h : α → β} {p1 dp : Nat} {A1 : Arr} {C1 : List Mce} {D1 : List Nde} {mc1 : α → List Mce} {nd1 : α → List Nde} {id1 : α → Int32} {sl1 : Nat} {p f i : Nat} {A : Arr} {C : List Mce} {D : List Nde} {mc : β → List Mce} {nd : β → List Nde} {id : β → Int32} {sl : Nat}
    (hz : BZ k N mT mQ T B O st r p1 dp f i A1 C1 D1 mc1 nd1 id1 sl1) (hA : AG f i A A1) (hc : ∀ x, C1 ++ mc1 x = C ++ mc (h x)) (hd : ∀ x, D1 ++ nd1 x = D ++ nd (h x)) (hi : ∀ x, id1 x = id (h x)) (hm : ∀ x p', 2 * p1 + (mc1 x).length ≤ 2 * p' → 2 * p + (mc (h x)).length ≤ 2 * p') (hn : ∀ x p', 2 * p1 + (nd1 x).length + sl1 ≤ 2 * p' → 2 * p + (nd (h x)).length + sl ≤ 2 * p') :
    BZ k N mT mQ T B O st (r.bind fun y => some (h y.1, y.2.1, y.2.2)) p dp f i A C D mc nd id sl := by
  rcases r with _ | ⟨x, p', s'⟩
  · exact hz
  · obtain ⟨e1, e2, e3, e4, A', mK', mN', h2, h3, h4, h5⟩ := hz
    exact ⟨e1, e2, hm x p' e3, hn x p' e4, A', mK', mN', hi x ▸ h2, hA.trans h3 (Nat.le_refl _) (Nat.le_refl _), hc x ▸ h4, hd x ▸ h5⟩
/-- a kind of frame reads what is asked -/
def BS {α : Type} (k : KT) (N : Nat) (mT : MdT) (mQ : MdQ) (T : List Nat) (B : Nat) (O : MdK × MdN) (X : Int32) (sp : Nat → List Nat → PR α) (dp F : Nat) (mc : Nat → α → List Mce) (nd : Nat → α → List Nde) (id : Nat → α → Int32) (sl : Nat) : Prop :=
  ∀ p f i r A mK mN C D, p ≤ T.length → f ≤ F → i ≤ p → A.1 f = X → A.2.1 f = 0 → A.2.2.1 f = -1 → KV B O mK C → NV B O mN D → C.length ≤ 2 * p → D.length ≤ 2 * p → BZ k N mT mQ T B O (mK, mN, mkP p dp (f + 1) i r 0 A) (sp p (T.drop p)) p dp f i A C D (mc (B + C.length)) (nd D.length) (id D.length) sl
end
