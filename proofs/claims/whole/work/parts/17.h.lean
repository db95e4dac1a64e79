/-! FOLDING in the reference: the room of one node -/
section
variable {D : Nat → FT} {cnt cnt' c : Nat} {b d : Bool} {Rq rZ : List FT}
theorem okr_of (hb : b = false → ∀ R, R ∈ rZ → HAS D cnt R) (hd : d = false → ∀ R, R ∈ Rq → R ∈ rZ) (hc : cnt + (if b || d then Rq.length else 0) ≤ 4200) : OKR D cnt Rq := by
  cases b
  · cases d
    · exact .inl (fun R hR => hb rfl R (hd rfl R hR))
    · exact .inr hc
  · rw [Bool.true_or, if_pos rfl] at hc
    exact .inr hc
theorem cnt_of (hb : b = false → ∀ R, R ∈ rZ → HAS D cnt R) (hd : d = false → ∀ R, R ∈ Rq → R ∈ rZ) (h1 : cnt' ≤ cnt + Rq.length) (h2 : (∀ R, R ∈ Rq → HAS D cnt R) → cnt' = cnt) : cnt' ≤ cnt + (if b || d then Rq.length else 0) := by
  cases b
  · cases d
    · exact Nat.le_of_eq (h2 (fun R hR => hb rfl R (hd rfl R hR)))
    · exact h1
  · rw [Bool.true_or, if_pos rfl]
    exact h1
end
/-- a tree's nodes are walked, its term is made -/
def MGE (N : Nat) (mQ : MdQ) (mN : MdN) (mL : MdL) (mm B nn : Nat) (b : Bool) (nf : Nat → List Nde) (c : Nat) (rZ r : List FT) (T : FT) : Prop :=
  ∀ m mH D cnt, NSH B mN m (nf m) → m + (nf m).length ≤ nn → CM mH D cnt → (b = false → ∀ R, R ∈ rZ → HAS D cnt R) → cnt + c ≤ 4200 →
    ∃ mH' D' cnt', FGM N mQ mN mL mm B mH m mH' (nf m).length ∧ 1 ≤ (nf m).length ∧ CM mH' D' cnt' ∧ EXT D D' cnt ∧ cnt ≤ cnt' ∧ cnt' ≤ cnt + c ∧ (∀ R, R ∈ r → HAS D' cnt' R) ∧ (∀ j, j < m → mH'.2.2.2.2.2.2.2.1 j = mH.2.2.2.2.2.2.2.1 j) ∧ TE D' cnt' (mH'.2.2.2.2.2.2.2.1 (m + (nf m).length - 1)) T
