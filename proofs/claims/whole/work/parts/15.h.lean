/-! FOLDING in the class: the walk over the code -/
def FGO (cs : CoS) (N : Nat) (u : MTN) (fo : FoS) (tr : TrS) (lo i : Nat) (fo' : FoS) (tr' : TrS) (lo' k : Nat) : Prop := ∀ (kk : FoS → TrS → Option (Int32 × FoS × TrS)) (n : Nat), f1_fold_L20 kk N cs.1 cs.2.1 cs.2.2.1 cs.2.2.2.1 cs.2.2.2.2 (n + k) u.1 u.2 (nI lo) (nI i) fo tr = f1_fold_L20 kk N cs.1 cs.2.1 cs.2.2.1 cs.2.2.2.1 cs.2.2.2.2 n u.1 u.2 (nI lo') (nI (i + k)) fo' tr'
section
variable {cs : CoS} {N : Nat} {u : MTN} {fo fo' fo2 : FoS} {tr tr' tr2 : TrS} {lo lo' lo2 i k l sz w s n j : Nat}
theorem FGO.refl : FGO cs N u fo tr lo i fo tr lo 0 := fun kk n => rfl
theorem FGO.trans (h1 : FGO cs N u fo tr lo i fo' tr' lo' k) (h2 : FGO cs N u fo' tr' lo' (i + k) fo2 tr2 lo2 l) : FGO cs N u fo tr lo i fo2 tr2 lo2 (k + l) := fun kk n => by
  rw [show n + (k + l) = n + l + k by omega, h1 kk (n + l), h2 kk n, Nat.add_assoc]
/-- a piece that is folded -/
theorem FGO.step (hz : cs.2.2.2.2 = nI sz) (hsz : sz ≤ 80) (hi : i < sz) (hlo : lo ≤ i) (hp : PcAt cs i (w, s, n, j)) (hw : w < 15) (hb : w = 4 → nI s ≠ u.1) (h : f1_step N (nI w) (cs.2.2.1 i) (if cs.2.1 i = u.1 then u.2 else cs.2.2.1 i) fo tr = some (fo', tr')) : FGO cs N u fo tr lo i fo' tr' lo 1 := by
  intro kk m
  obtain ⟨p1, p2, p3, p4⟩ := hp
  have hp3 : w = 4 → cs.2.1 i = nI s := fun q => p3 (.inl (by dsimp only; omega))
  obtain ⟨cw, ce, cn, cj, cz⟩ := cs
  dsimp only at hz p1 p2 hp3 h ⊢
  subst hz
  have hg := z_gd (n := i) (N := 80) (by omega) (by omega)
  have hin := z_nat (n := i) (by omega)
  have hg' : ¬ (nI i < 0 ∨ 80 ≤ i) := by rw [hin] at hg; exact hg
  have hle : ¬ nI sz ≤ nI i := fun q => absurd ((nI_leI (by omega) (by omega)).mp q) (by omega)
  have hnl : ¬ nI i < nI lo := fun q => absurd ((nI_ltI (by omega) (by omega)).mp q) (by omega)
  have nub : f0_numberAt (nI i) u.1 u.2 (cw, ce, cn, cj, nI sz) = some (if ce i = u.1 then u.2 else cn i) := by
    rw [f0_numberAt, if_neg hg, hin]
    by_cases q : ce i = u.1
    · rw [if_pos q, if_pos q]
    · rw [if_neg q, if_neg q, if_neg hg']
  have l60 : ∀ k20, f1_fold_L60 k20 N cw ce cn cj (nI sz) u.1 u.2 (nI lo) (nI i) fo tr = k20 u.1 u.2 (nI lo) (nI (i + 1)) fo' tr' := by
    intro k20
    obtain ⟨R, S, hh, b⟩ := fo
    obtain ⟨tK, tF, tS, tT, tO, tN, tc⟩ := tr
    obtain ⟨R', S', hh', b'⟩ := fo'
    obtain ⟨tK', tF', tS', tT', tO', tN', tc'⟩ := tr'
    rw [f1_fold_L60, if_neg hnl, if_neg hg, if_neg hg, nub, ob_s, hin, p1, h, ob_s]
    dsimp only [nm_v]
    rw [nI_1]
  obtain ⟨R, S, hh, b⟩ := fo
  obtain ⟨tK, tF, tS, tT, tO, tN, tc⟩ := tr
  rw [f1_fold_L20, if_neg hle, if_neg hg, hin, p1]
  by_cases q4 : w = 4
  · rw [if_pos (nl_eq w 4 4 rfl q4), if_neg hg', hp3 q4, if_neg (hb q4), l60]
  · rw [if_neg (nl_ne w 4 4 rfl q4 (by omega) (by omega)), l60]
/-- a statement that is left out -/
theorem FGO.out (hz : cs.2.2.2.2 = nI sz) (hsz : sz ≤ 80) (hi : i < sz) (hp : PcAt cs i (4, s, n, j)) (hb : nI s = u.1) (hj : i < j) (hj2 : j ≤ 80) : FGO cs N u fo tr lo i fo tr j 1 := by
  intro kk m
  obtain ⟨p1, p2, p3, p4⟩ := hp
  have hp3 := p3 (.inl (by dsimp only; omega))
  obtain ⟨cw, ce, cn, cj, cz⟩ := cs
  dsimp only at hz p1 p2 hp3 ⊢
  subst hz
  have hg := z_gd (n := i) (N := 80) (by omega) (by omega)
  have hin := z_nat (n := i) (by omega)
  have hg' : ¬ (nI i < 0 ∨ 80 ≤ i) := by rw [hin] at hg; exact hg
  have hle : ¬ nI sz ≤ nI i := fun q => absurd ((nI_leI (by omega) (by omega)).mp q) (by omega)
  have hl : nI i < nI j := (nI_ltI (by omega) (by omega)).mpr hj
  obtain ⟨R, S, hh, b⟩ := fo
  obtain ⟨tK, tF, tS, tT, tO, tN, tc⟩ := tr
  rw [f1_fold_L20, if_neg hle, if_neg hg, hin, p1, if_pos (by decide), if_neg hg', hp3, if_pos hb, if_neg hg', nm_v, p2, f1_fold_L60, if_pos hl, nm_v, nI_1]
/-- what is left out with it -/
theorem FGO.skip (hz : cs.2.2.2.2 = nI sz) (hsz : sz ≤ 80) : ∀ (L : List Pce) (i : Nat), CSH cs i L → i + L.length ≤ sz → i + L.length ≤ lo → lo ≤ 80 → (∀ q, q ∈ L → q.1 < 15 ∧ (q.1 = 4 → nI q.2.1 ≠ u.1)) → FGO cs N u fo tr lo i fo tr lo L.length := by
  intro L
  induction L with
  | nil => intro i h1 h2 h3 h4 h5; exact FGO.refl
  | cons q L ih =>
    intro i h1 h2 h3 h4 h5
    rw [List.length_cons] at h2 h3 ⊢
    obtain ⟨c1, c2⟩ := h1.cons
    have one : FGO cs N u fo tr lo i fo tr lo 1 := by
      intro kk m
      obtain ⟨p1, p2, p3, p4⟩ := c1
      have hp3 : q.1 = 4 → cs.2.1 i = nI q.2.1 := fun w => p3 (.inl (by omega))
      have hq := h5 q List.mem_cons_self
      have hhz := hz
      obtain ⟨cw, ce, cn, cj, cz⟩ := cs
      dsimp only at hhz p1 p2 hp3 ⊢
      subst hhz
      have hg := z_gd (n := i) (N := 80) (by omega) (by omega)
      have hin := z_nat (n := i) (by omega)
      have hg' : ¬ (nI i < 0 ∨ 80 ≤ i) := by rw [hin] at hg; exact hg
      have hle : ¬ nI sz ≤ nI i := fun q => absurd ((nI_leI (by omega) (by omega)).mp q) (by omega)
      have hl : nI i < nI lo := (nI_ltI (by omega) (by omega)).mpr (by omega)
      have l60 : ∀ k20, f1_fold_L60 k20 N cw ce cn cj (nI sz) u.1 u.2 (nI lo) (nI i) fo tr = k20 u.1 u.2 (nI lo) (nI (i + 1)) fo tr := by
        intro k20
        obtain ⟨R, S, hh, b⟩ := fo
        obtain ⟨tK, tF, tS, tT, tO, tN, tc⟩ := tr
        rw [f1_fold_L60, if_pos hl, nm_v, nI_1]
      obtain ⟨R, S, hh, b⟩ := fo
      obtain ⟨tK, tF, tS, tT, tO, tN, tc⟩ := tr
      rw [f1_fold_L20, if_neg hle, if_neg hg, hin, p1]
      by_cases q4 : q.1 = 4
      · rw [if_pos (nl_eq q.1 4 4 rfl q4), if_neg hg', hp3 q4, if_neg (hq.2 q4), l60]
      · rw [if_neg (nl_ne q.1 4 4 rfl q4 (by omega) (by omega)), l60]
    have := FGO.trans one (ih (i + 1) c2 (by omega) (by omega) h4 (fun a ha => h5 a (List.mem_cons_of_mem _ ha)))
    rw [show 1 + L.length = L.length + 1 by omega] at this
    exact this
end
/-! how many trees -/
section
variable {α : Type}
def kMo (f : α → Nat) : List (Nat × Nat × α) → Nat
  | [] => 0
  | q :: l => f q.2.2 + 1 + kMo f l
def kCh (f : α → Nat) (x : Chn α) : Nat := f x.1 + kMo f x.2
def kRw (f : α → Nat) : List α → Nat
  | [] => 0
  | x :: l => f x + kRw f l
end
def kFa {S : Type} (f : S → Nat) : Leaf ⊕ S → Nat
  | .inl _ => 1
  | .inr y => f y
def kSub : (d : Nat) → SubT d → Nat
  | 0 => fun _ => 0
  | d + 1 => kCh (kCh (kFa (kSub d)))
def kTe (d : Nat) : TeT d → Nat := kCh (kFa (kSub d))
def kEx (d : Nat) : ExT d → Nat := kCh (kTe d)
def kCm (d : Nat) (x : CmT d) : Nat := kEx d x.1 + kEx d x.2.2.2 + 1
def kAt {S : Type} (d : Nat) (f : S → Nat) : CmT d ⊕ S → Nat
  | .inl x => kCm d x
  | .inr y => f y
def kCSub : (d : Nat) → CSubT d → Nat
  | 0 => fun _ => 0
  | d + 1 => kCh (kCh (kAt d (kCSub d)))
def kPa (d : Nat) : PaT d → Nat := kCh (kAt d (kCSub d))
def kCo (d : Nat) : CoT d → Nat := kCh (kPa d)
/-- the statements that a statement may become -/
def wSt {S : Type} (d : Nat) (f : S → Nat) : SmT d ⊕ S → Nat
  | .inl _ => 1
  | .inr y => f y
def wBSub : (d : Nat) → BSubT d → Nat
  | 0 => fun _ => 1
  | d + 1 => fun x => match x.2.2 with
    | .inl (r1, r2) => max 1 (kRw (wSt d (wBSub d)) r1 + kRw (wSt d (wBSub d)) (r2.getD []))
    | .inr r => max 1 (kRw (wSt d (wBSub d)) r)
def wRo (d : Nat) : RoT d → Nat := kRw (wSt d (wBSub d))
def kSm (d : Nat) (x : SmT d) : Nat := match x.2 with
  | .inl (_, e) => kEx d e + 1
  | .inr (.inl e) => kEx d e + 1
  | .inr (.inr c) => kCo d c + 1
def kSt {S : Type} (d : Nat) (f : S → Nat) : SmT d ⊕ S → Nat
  | .inl x => kSm d x
  | .inr y => f y
def kBSub : (d : Nat) → BSubT d → Nat
  | 0 => fun _ => 0
  | d + 1 => fun x => kCo (d + 1) x.2.1 + 1 + (match x.2.2 with
    | .inl (r1, r2) => kRw (kSt d (kBSub d)) r1 + kRw (wSt d (wBSub d)) r1 + (kRw (kSt d (kBSub d)) (r2.getD []) + kRw (wSt d (wBSub d)) (r2.getD []))
    | .inr r => kRw (kSt d (kBSub d)) r + kRw (wSt d (wBSub d)) r)
def kRo (d : Nat) : RoT d → Nat := kRw (kSt d (kBSub d))
section
variable {cs : CoS} {N : Nat} {u : MTN} {sz : Nat}
/-- what stands around a folding -/
def FRUN (cs : CoS) (N sz : Nat) : Prop := cs.2.2.2.2 = nI sz ∧ sz ≤ 80 ∧ 20000 < N
/-- the changed place is changed as it may be -/
def OKF (u : MTN) (e : Ste) : Prop := e.1 < 60 ∧ SV e.2.1 e.2.2 ∧ (nI e.1 = u.1 → e.2.1 = 0 → ∃ o, o ∈ arS ∧ u.2 = nI o)
def OKG (u : MTN) (L : List Ste) : Prop := ∀ e, e ∈ L → OKF u e
theorem OKG.app {L M : List Ste} (h : OKG u (L ++ M)) : OKG u L ∧ OKG u M := ⟨fun e he => h e (List.mem_append_left _ he), fun e he => h e (List.mem_append_right _ he)⟩
theorem OKG.cons {e : Ste} {L : List Ste} (h : OKG u (e :: L)) : OKF u e ∧ OKG u L := ⟨h e List.mem_cons_self, fun a ha => h a (List.mem_cons_of_mem _ ha)⟩
theorem OKF.ar {s n : Nat} (h : OKF u (s, 0, n)) : ∃ o, o ∈ arS ∧ ov u s n = nI o := by
  unfold ov
  by_cases w : nI s = u.1
  · rw [if_pos w]
    exact h.2.2 w rfl
  · rw [if_neg w]
    rcases h.2.1 with ⟨_, h⟩ | ⟨h, _⟩ | ⟨h, _⟩ | ⟨h, _⟩ | ⟨h, _⟩
    · exact ⟨n, h, rfl⟩
    all_goals (dsimp only at h; omega)
/-- code that puts a term on the stack -/
def FEX (cs : CoS) (N sz : Nat) (u : MTN) (dep K : Nat) (jf : Nat → List Pce) (T : FT) : Prop :=
  ∀ i st rb D cnt fo tr lo, CSH cs i (jf i) → i + (jf i).length ≤ sz → lo ≤ i → st.length + dep ≤ 128 → FS fo st rb → CT tr D cnt → cnt + K ≤ 18755 →
    ∃ z fo' tr' D' cnt', FGO cs N u fo tr lo i fo' tr' lo (jf i).length ∧ FS fo' (z :: st) rb ∧ CT tr' D' cnt' ∧ cnt ≤ cnt' ∧ cnt' ≤ cnt + K ∧ EXT D D' cnt ∧ TM D' cnt' z T ∧ fo'.1 = fo.1
theorem FEX.dep {d e K : Nat} {jf : Nat → List Pce} {T : FT} (h : FEX cs N sz u d K jf T) (he : d ≤ e) : FEX cs N sz u e K jf T := fun i st rb D cnt fo tr lo h1 h2 h3 h4 => h i st rb D cnt fo tr lo h1 h2 h3 (by omega)
end
