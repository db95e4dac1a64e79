/-! ROOM of the reference's table: sums over the places -/
def Sg : List Ste → (Nat → Nat) → Nat
  | [], _ => 0
  | e :: S, f => ch e.2.1 * f e.1 + Sg S f
def muS (S : List Ste) : Nat := Sg S (fun _ => 1)
theorem Sg_app {S L : List Ste} {f : Nat → Nat} : Sg (S ++ L) f = Sg S f + Sg L f := by
  induction S with
  | nil => rw [List.nil_append, Sg, Nat.zero_add]
  | cons e S ih => rw [List.cons_append, Sg, Sg, ih, Nat.add_assoc]
theorem Sg_cong {S : List Ste} {f g : Nat → Nat} (h : ∀ e, e ∈ S → f e.1 = g e.1) : Sg S f = Sg S g := by
  induction S with
  | nil => rfl
  | cons e S ih => rw [Sg, Sg, h e List.mem_cons_self, ih (fun a ha => h a (List.mem_cons_of_mem _ ha))]
theorem Sg_add {S : List Ste} {f g : Nat → Nat} : Sg S (fun p => f p + g p) = Sg S f + Sg S g := by
  induction S with
  | nil => rfl
  | cons e S ih =>
    rw [Sg, Sg, Sg, ih, Nat.mul_add]
    omega
theorem Sg_cst {S : List Ste} {c : Nat} : Sg S (fun _ => c) = muS S * c := by
  unfold muS
  induction S with
  | nil => rw [Sg, Sg, Nat.zero_mul]
  | cons e S ih => rw [Sg, Sg, ih, Nat.add_mul, Nat.mul_one]
theorem Sg_zero {S : List Ste} {f : Nat → Nat} (h : ∀ e, e ∈ S → f e.1 = 0) : Sg S f = 0 := by
  rw [Sg_cong (g := fun _ => 0) h, Sg_cst, Nat.mul_zero]
theorem muS_app {S L : List Ste} : muS (S ++ L) = muS S + muS L := Sg_app
theorem muS_cons {e : Ste} {S : List Ste} : muS (e :: S) = ch e.2.1 + muS S := by
  unfold muS
  rw [Sg, Nat.mul_one]
theorem muS_nil : muS [] = 0 := rfl
/-- a place that is changed -/
def pu (p : Nat) : MTN := (nI p, 0)
theorem cln_pu {p a b : Nat} {S : List Ste} (h : SIN a b S) (hb : b ≤ 60) (hp : p < 60) (hd : p < a ∨ b ≤ p) : CLN (pu p) S := by
  intro e he
  obtain ⟨h1, h2, _⟩ := h.2.2 e he
  exact ⟨by omega, fun q => absurd ((nI_eq (by omega) (by omega)).mp q) (by omega)⟩
theorem dty_pu {e : Ste} {S : List Ste} (h : e ∈ S) : dty (pu e.1) S = true := List.any_eq_true.mpr ⟨e, h, decide_eq_true rfl⟩
theorem dty_cln {u : MTN} {S : List Ste} (h : CLN u S) : dty u S = false := by
  cases hd : dty u S with
  | false => rfl
  | true =>
    obtain ⟨e, he, hq⟩ := List.any_eq_true.mp hd
    exact absurd (of_decide_eq_true hq) (h e he).2
/-! nothing is new in a tree without the changed place -/
section
variable {u : MTN} {α : Type}
theorem cz_mo {K : Nat} {sf : α → List Ste} {cf : α → Nat} (h : ∀ x, CLN u (sf x) → cf x = 0) : ∀ l dv, CLN u (sMo K sf l) → cMo u sf cf dv l = if dv = true then l.length else 0 := by
  intro l
  induction l with
  | nil =>
    intro dv _
    cases dv <;> rfl
  | cons q l ih =>
    intro dv hc
    obtain ⟨c1, c2⟩ := hc.cons
    obtain ⟨c2, c3⟩ := c2.app
    rw [cMo, h q.2.2 c2, dty_cln c2, decide_eq_false c1.2, Bool.or_false, Bool.or_false, ih dv c3, List.length_cons]
    cases dv
    · rfl
    · rw [if_pos rfl, if_pos rfl, if_pos rfl]
      omega
theorem cz_ch {K : Nat} {sf : α → List Ste} {cf : α → Nat} (h : ∀ x, CLN u (sf x) → cf x = 0) : ∀ x, CLN u (sCh K sf x) → cCh u false sf cf x = 0 := by
  intro x hc
  obtain ⟨c1, c2⟩ := hc.app
  rw [cCh, h x.1 c1, dty_cln c1, Bool.or_false, cz_mo h x.2 false c2]
  rfl
end
section
variable {u : MTN}
theorem cz_fa {S : Type} {sf : S → List Ste} {cf : S → Nat} (h : ∀ x, CLN u (sf x) → cf x = 0) : ∀ x, CLN u (sFa sf x) → cFa u false cf x = 0 := by
  intro x hc
  rcases x with x | y
  · have hd : dty u (sLeaf x) = false := dty_cln hc
    show (if false || dty u (sLeaf x) then 1 else 0) = 0
    rw [hd]
    rfl
  · exact h y hc
theorem cz_sub : ∀ d x, CLN u (sSub d x) → cSub u false d x = 0 := by
  intro d
  induction d with
  | zero => intro x; exact x.elim
  | succ d ih => exact cz_ch (cz_ch (cz_fa ih))
theorem cz_ex (d : Nat) : ∀ x, CLN u (sEx d x) → cEx u false d x = 0 := cz_ch (cz_ch (cz_fa (cz_sub d)))
theorem cz_at {S : Type} {d : Nat} {sf : S → List Ste} {cf : S → Nat} (h : ∀ x, CLN u (sf x) → cf x = 0) : ∀ x, CLN u (sAt d sf x) → cAt u false d cf x = 0 := by
  intro x hc
  rcases x with x | y
  · have hd : dty u (sCm d x) = false := dty_cln hc
    obtain ⟨c1, c2⟩ := CLN.app hc
    obtain ⟨c2, c3⟩ := c2.cons
    show cEx u false d x.1 + cEx u false d x.2.2.2 + (if false || dty u (sCm d x) then 1 else 0) = 0
    rw [hd, cz_ex d _ c1, cz_ex d _ c3]
    rfl
  · exact h y hc
theorem cz_csub : ∀ d x, CLN u (sCSub d x) → cCSub u false d x = 0 := by
  intro d
  induction d with
  | zero => intro x; exact x.elim
  | succ d ih => exact cz_ch (cz_ch (cz_at ih))
theorem cz_co (d : Nat) : ∀ x, CLN u (sCo d x) → cCo u false d x = 0 := cz_ch (cz_ch (cz_at (cz_csub d)))
end
/-! the bound of an expression: by its length -/
theorem sq_add (a b : Nat) : (a + b) * (a + b) = a * a + b * b + 2 * (a * b) := by
  rw [Nat.add_mul, Nat.mul_add, Nat.mul_add, Nat.mul_comm b a]
  omega
theorem eb_ar {k0 k m0 m t0 t w a : Nat} (h1 : 1 ≤ k0) (h2 : 1 ≤ k) (g1 : m0 + a ≤ 3 * k0) (g2 : m + a ≤ 3 * k) (hw : w ≤ 3 + a) (ha : 1 ≤ a) (e0 : 4 * t0 + 3 ≤ 3 * (k0 * k0) + 8 * k0) (e1 : 4 * t + 3 ≤ 3 * (k * k) + 8 * k) :
    m0 + w + m + a ≤ 3 * (k0 + (1 + k)) ∧ 4 * (t0 + t + (m0 + w + m)) + 3 ≤ 3 * ((k0 + (1 + k)) * (k0 + (1 + k))) + 8 * (k0 + (1 + k)) := by
  have p : k0 + k ≤ k0 * k + 1 := by
    obtain ⟨i, rfl⟩ : ∃ i, k0 = i + 1 := ⟨k0 - 1, by omega⟩
    rw [Nat.add_mul, Nat.one_mul]
    have := Nat.zero_le (i * k)
    have q : i ≤ i * k := by
      have := Nat.mul_le_mul_left i h2
      rw [Nat.mul_one] at this
      exact this
    omega
  have s1 := sq_add k0 (1 + k)
  have s2 := sq_add 1 k
  rw [Nat.mul_add k0, Nat.mul_one] at s1
  rw [Nat.one_mul] at s2
  generalize (k0 + (1 + k)) * (k0 + (1 + k)) = z at s1 ⊢
  generalize (1 + k) * (1 + k) = y at s1 s2
  generalize k0 * k = v at p s1
  generalize k0 * k0 = v1 at e0 s1
  generalize k * k = v2 at e1 s2
  omega
