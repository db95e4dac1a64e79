/-! rows, whole -/
def pRowZ {α : Type} (z : Bool) (item : Nat → List Nat → PR α) : Nat → Nat → List Nat → PR (List α)
  | 0, p, s => some ([], p, s)
  | _ + 1, p, [] => some ([], p, [])
  | n + 1, p, c :: r => if c = 125 ∧ z = false then some ([], p, c :: r) else (item p (c :: r)).bind fun x => (pRowZ z item n x.2.1 x.2.2).bind fun y => some (x.1 :: y.1, y.2.1, y.2.2)
theorem pRowZ_f {α : Type} {item : Nat → List Nat → PR α} : ∀ n p s, pRowZ false item n p s = pRow item n p s := by
  intro n
  induction n with
  | zero => intro p s; rfl
  | succ n ih =>
    intro p s
    rcases s with _ | ⟨c, s⟩
    · rfl
    · rw [pRowZ, pRow]
      by_cases h : c = 125
      · rw [if_pos ⟨h, rfl⟩, if_pos h]
      · rw [if_neg (fun q => h q.1), if_neg h]
        congr 1; funext x; rw [ih]
section
variable {k : KT} {N : Nat} {mT : MdT} {T : List Nat} {B : Nat} {O : MdK × MdN} {q1 q2 q4 q5 : Int32} {dp F : Nat} {α : Type} {item : Nat → List Nat → PR α} {mc0 : Nat → α → List Mce} {nd0 : Nat → α → List Nde}
def rND (B : Nat) (nd0 : Nat → α → List Nde) (m : Nat) (R : List Int32) (y : List α) : List Nde := nRowS B nd0 m y ++ nLst B (-1) (m + (nRowS B nd0 m y).length) ((nRowI B nd0 m y).reverse ++ R)
theorem nLst_len {v : Int32} {m : Nat} {R : List Int32} : (nLst B v m R).length = R.length := by
  induction R generalizing v m with
  | nil => rfl
  | cons x R ih => rw [nLst, List.length_cons, List.length_cons, ih]
theorem rND_cons {m : Nat} {R : List Int32} {x : α} {y : List α} : nd0 m x ++ rND B nd0 (m + (nd0 m x).length) (nid B m (nd0 m x) :: R) y = rND B nd0 m R (x :: y) := by
  rw [rND, rND, nRowS, nRowI]
  simp only [List.append_assoc, List.reverse_cons, List.length_append, List.cons_append, List.nil_append, Nat.add_assoc]
/-- the list's number -/
def rID (B : Nat) (nd0 : Nat → α → List Nde) (m : Nat) (R : List Int32) (y : List α) : Int32 := lid B (m + (nRowS B nd0 m y).length) (-1) ((nRowI B nd0 m y).reverse ++ R)
theorem rID_cons {m : Nat} {R : List Int32} {x : α} {y : List α} : rID B nd0 (m + (nd0 m x).length) (nid B m (nd0 m x) :: R) y = rID B nd0 m R (x :: y) := by
  rw [rID, rID, nRowS, nRowI]
  simp only [List.append_assoc, List.reverse_cons, List.length_append, List.cons_append, List.nil_append, Nat.add_assoc]
theorem z_rwL {z : Bool} (hT : TXM mT T) (hB : B ≤ 256) (hN : 64 < N) (hd : dp < 2 ^ 20) (hz : z = true ↔ dp = 0) {f : Nat} (hf : f + 2 < 80) (hF : f + 1 ≤ F) (hI : BS k N mT (q1, q2, nI B, q4, q5) T B O 1 item dp F mc0 nd0 (fun m x => nid B m (nd0 m x)) 1) {ps i0 : Nat} {A0 : Arr} {C : List Mce} {D : List Nde} :
    ∀ n p A mK mN M0 D0 R r st, T.length ≤ p + n → p ≤ T.length → i0 + R.length ≤ p → A.1 f = 0 → A.2.2.1 f = nI i0 → AG f i0 A0 A → IT A.2.2.2.2.2.2.2 i0 R → KV B O mK (C ++ M0) → NV B O mN (D ++ D0) → (C ++ M0).length ≤ 2 * p → (D ++ D0).length + R.length ≤ 2 * p → 2 * ps + M0.length ≤ 2 * p → 2 * ps + D0.length + R.length ≤ 2 * p →
      (∀ mN' P', (∀ j, f8_stepRow_L52 (N + j) mT.1 mT.2 q1 q2 (nI B) q4 q5 (nI f) mN (mkP p dp (f + 1) (i0 + R.length) r 0 A) = some (mN', P')) → GOS k N mT (q1, q2, nI B, q4, q5) st (mK, mN', P')) →
      BZ k N mT (q1, q2, nI B, q4, q5) T B O st (pRowZ z item n p (T.drop p)) ps dp f i0 A0 C D (fun y => M0 ++ mRow mc0 (B + C.length + M0.length) y) (fun y => D0 ++ rND B nd0 (D.length + D0.length) R y) (fun y => rID B nd0 (D.length + D0.length) R y) 0 := by
  have h60 := hT.2.1
  have stop : ∀ p A mK mN M0 D0 R r st, p ≤ T.length → i0 + R.length ≤ p → A.2.2.1 f = nI i0 → AG f i0 A0 A → IT A.2.2.2.2.2.2.2 i0 R → KV B O mK (C ++ M0) → NV B O mN (D ++ D0) → (D ++ D0).length + R.length ≤ 2 * p → 2 * ps + M0.length ≤ 2 * p → 2 * ps + D0.length + R.length ≤ 2 * p → (∀ mN' P', (∀ j, f8_stepRow_L52 (N + j) mT.1 mT.2 q1 q2 (nI B) q4 q5 (nI f) mN (mkP p dp (f + 1) (i0 + R.length) r 0 A) = some (mN', P')) → GOS k N mT (q1, q2, nI B, q4, q5) st (mK, mN', P')) → (T.drop p = [] ∨ ∃ s, T.drop p = 125 :: s ∧ dp ≠ 0) →
      BZ k N mT (q1, q2, nI B, q4, q5) T B O st (some ([], p, T.drop p)) ps dp f i0 A0 C D (fun y => M0 ++ mRow mc0 (B + C.length + M0.length) y) (fun y => D0 ++ rND B nd0 (D.length + D0.length) R y) (fun y => rID B nd0 (D.length + D0.length) R y) 0 := by
    intro p A mK mN M0 D0 R r st h1 h2 h3 h4 h5 h6 h7 h8 h9 h10 hst he
    obtain ⟨mN', e1, g1⟩ := z_l52e (R := R) (q1 := q1) (q2 := q2) (q4 := q4) (q5 := q5) (dp := dp) (r := r) hT hB (show f + 1 < 80 by omega) h1 hN he hd h3 (by omega) h5 h7 (by omega)
    have er : rND B nd0 (D.length + D0.length) R [] = nLst B (-1) (D ++ D0).length R := by rw [rND, List.length_append]; rfl
    refine BZ.ret (hst _ _ e1) ?_ ?_ ?_ (AG.sS h4) h1 ?_ ?_
    · show _ = rID B nd0 (D.length + D0.length) R []
      rw [rID, List.length_append]; rfl
    · show KV B O mK (C ++ (M0 ++ []))
      rw [List.append_nil]; exact h6
    · show NV B O mN' (D ++ (D0 ++ rND B nd0 (D.length + D0.length) R []))
      rw [er, ← List.append_assoc]; exact g1
    · show 2 * ps + (M0 ++ []).length ≤ 2 * p
      rw [List.append_nil]; omega
    · show 2 * ps + (D0 ++ rND B nd0 (D.length + D0.length) R []).length + 0 ≤ 2 * p
      rw [er, List.length_append, nLst_len]; omega
  intro n
  induction n with
  | zero =>
    intro p A mK mN M0 D0 R r st h1 h2 h3 a1 a3 hA hIt hK hNv lC lD l1 l2 hst
    exact stop p A mK mN M0 D0 R r st h2 h3 a3 hA hIt hK hNv lD l1 l2 hst (.inl (List.drop_eq_nil_iff.mpr (by omega)))
  | succ n ih =>
    intro p A mK mN M0 D0 R r st h1 h2 h3 a1 a3 hA hIt hK hNv lC lD l1 l2 hst
    rcases e : T.drop p with _ | ⟨c, s⟩
    · rw [pRowZ, ← e]
      exact stop p A mK mN M0 D0 R r st h2 h3 a3 hA hIt hK hNv lD l1 l2 hst (.inl e)
    · rw [pRowZ]
      by_cases hc : c = 125 ∧ z = false
      · rw [if_pos hc, ← e]
        refine stop p A mK mN M0 D0 R r st h2 h3 a3 hA hIt hK hNv lD l1 l2 hst (.inr ⟨s, by rw [e, hc.1], fun q => ?_⟩)
        have := hz.mpr q
        rw [hc.2] at this
        cases this
      · rw [if_neg hc, ← e]
        have hcc : c ≠ 125 ∨ dp = 0 := by
          by_cases w : c = 125
          · right
            rcases hzz : z with _ | _
            · exact absurd ⟨w, hzz⟩ hc
            · exact hz.mp hzz
          · exact .inl w
        have e1 := fun j => z_l52p (N := N + j) (mN := mN) (q1 := q1) (q2 := q2) (q4 := q4) (q5 := q5) (B := B) (i := i0 + R.length) (r := r) (A := A) hT (show f + 1 < 80 by omega) e hcc hd
        refine BZ.go (hst _ _ e1) (BZ.sub (hI p (f + 1) (i0 + R.length) r _ mK mN _ _ h2 (by omega) h3 psh_at.1 psh_at.2.1 psh_at.2.2 hK hNv lC (by omega)) ?_)
        intro x p' A' mK' mN' g1 g2 g3 g4 g5 g6
        dsimp only
        obtain ⟨⟨b1, b2, b3, b4, b5, b6, b7⟩, g7⟩ := g4.pop
        rw [List.length_append] at g2 g3 g5 g6
        rw [List.length_append] at lD lC
        generalize hM : mc0 (B + (C.length + M0.length)) x = M at g2 g5
        have hM' : mc0 (B + C.length + M0.length) x = M := by rw [Nat.add_assoc]; exact hM
        have e2 := fun j => z_r1 (N := N + j) (mT := mT) (mN := mN') (mQ := (q1, q2, nI B, q4, q5)) (p := p') (dp := dp) (i := i0 + R.length) (r := nid B (D ++ D0).length (nd0 (D ++ D0).length x)) (b := 0) (f := f) (A := A') (by omega) (by omega) (b2.trans z_upd_e)
        have hIt' : IT A'.2.2.2.2.2.2.2 i0 R := IT.same (fun j hj => g7.2 j hj) hIt
        have key := ih p' (sI (i0 + R.length) (nid B (D ++ D0).length (nd0 (D ++ D0).length x)) A') mK' mN' (M0 ++ M) (D0 ++ nd0 (D.length + D0.length) x) (nid B (D ++ D0).length (nd0 (D ++ D0).length x) :: R) (nid B (D ++ D0).length (nd0 (D ++ D0).length x)) (mK', mN', mkP p' dp (f + 1) (i0 + R.length) (nid B (D ++ D0).length (nd0 (D ++ D0).length x)) 0 A') (by omega) g1 (by rw [List.length_cons]; omega) (b1.trans a1) (b3.trans a3)
          (AG.sI (hA.trans ((AG.sS AG.refl).trans g7 (Nat.le_refl _) (Nat.le_add_right _ _)) (Nat.le_refl _) (Nat.le_refl _)) (by omega))
          ⟨z_upd_e, IT.same (fun j hj => (z_upd_n (by omega)).symm) hIt'⟩ (by rw [← List.append_assoc]; exact g5) (by rw [← List.append_assoc]; exact g6)
          (by simp only [List.length_append]; omega) (by simp only [List.length_append, List.length_cons]; omega) (by simp only [List.length_append]; omega) (by simp only [List.length_append, List.length_cons]; omega)
          (by
            intro mN2 P2 h
            rw [List.length_cons] at h
            exact GOS.step (by omega) (@fun j => z_sp0 (by omega) (b1.trans a1) ((e2 j).trans (h j))))
        refine BZ.map (h := fun y => x :: y) key AG.refl ?_ ?_ ?_ ?_ ?_
        · intro y
          try dsimp only
          rw [mRow, hM', List.length_append, ← Nat.add_assoc]
          simp only [List.append_assoc]
        · intro y
          try dsimp only
          rw [← rND_cons, List.length_append (as := D0), List.length_append (as := D), ← Nat.add_assoc]
          simp only [List.append_assoc]
        · intro y
          try dsimp only
          rw [← rID_cons, List.length_append (as := D0), List.length_append (as := D), ← Nat.add_assoc]
        · intro y p2 h
          try dsimp only at h ⊢
          rw [mRow, hM']
          rw [List.length_append (as := M0) (bs := M), ← Nat.add_assoc] at h
          simp only [List.length_append] at h ⊢
          omega
        · intro y p2 h
          try dsimp only at h ⊢
          rw [← rND_cons]
          rw [List.length_append (as := D0) (bs := nd0 (D.length + D0.length) x), List.length_append (as := D), ← Nat.add_assoc] at h
          simp only [List.length_append] at h ⊢
          omega
theorem rND_0 {m : Nat} {y : List α} : rND B nd0 m [] y = nRow B nd0 m y := by rw [rND, nRow, List.append_nil]
theorem rID_0 {m : Nat} {y : List α} : rID B nd0 m [] y = nRix B m y (nRow B nd0 m y) := by
  rw [rID, List.append_nil]
  rcases y with _ | ⟨x, y⟩
  · rfl
  · show _ = nid B m (nRow B nd0 m (x :: y))
    have hl : (nRow B nd0 m (x :: y)).length = (nRowS B nd0 m (x :: y)).length + (nRowI B nd0 m (x :: y)).reverse.length := by rw [nRow, List.length_append, nLst_len]
    generalize hR : (nRowI B nd0 m (x :: y)).reverse = R at *
    rcases R with _ | ⟨a, R⟩
    · rw [nRowI, List.reverse_cons] at hR
      simp at hR
    · show nI (B + (m + _) + R.length) = nI (B + m + _ - 1)
      rw [hl, List.length_cons]
      congr 1
      omega
theorem z_row {z : Bool} (hT : TXM mT T) (hB : B ≤ 256) (hN : 64 < N) (hd : dp < 2 ^ 20) (hz : z = true ↔ dp = 0) (hF : F + 2 < 80) (hI : BS k N mT (q1, q2, nI B, q4, q5) T B O 1 item dp (F + 1) mc0 nd0 (fun m x => nid B m (nd0 m x)) 1) :
    BS k N mT (q1, q2, nI B, q4, q5) T B O 0 (pRowZ z item 60) dp F (mRow mc0) (nRow B nd0) (fun m l => nRix B m l (nRow B nd0 m l)) 0 := by
  intro p f i r A mK mN C D h1 h2 h3 a1 a2 a3 hK hNv lC lD
  have h60 := hT.2.1
  have e2 := fun j => z_r0 (N := N + j) (mT := mT) (mN := mN) (mQ := (q1, q2, nI B, q4, q5)) (p := p) (dp := dp) (i := i) (r := r) (b := 0) (f := f) (A := A) (by omega) a2
  have key := z_rwL (z := z) (n := 60) (ps := p) (i0 := i) (A0 := A) (C := C) (D := D) (f := f) hT hB hN hd hz (by omega) (by omega) hI p (s0 f (nI i) A) mK mN [] [] [] r (mK, mN, mkP p dp (f + 1) i r 0 A) (by omega) h1 h3 a1 z_upd_e (AG.s0 AG.refl) trivial (by rw [List.append_nil]; exact hK) (by rw [List.append_nil]; exact hNv) (by rw [List.append_nil]; exact lC) (by rw [List.append_nil]; exact lD) (by simp only [List.length_nil]; omega) (by simp only [List.length_nil]; omega)
    (by
      intro mN' P' h
      exact GOS.step (by omega) (@fun j => z_sp0 (by omega) a1 ((e2 j).trans (h j))))
  have e1 : (fun y => ([] : List Nde) ++ rND B nd0 (D.length + ([] : List Nde).length) [] y) = nRow B nd0 D.length := by funext y; exact rND_0
  have e3 : (fun y => rID B nd0 (D.length + ([] : List Nde).length) [] y) = fun l => nRix B D.length l (nRow B nd0 D.length l) := by funext y; exact rID_0
  rw [e1, e3] at key
  exact key
end
