/-! ROOM of the reference's table: the arithmetic of rows -/
/-- n characters, m mutants, W cells, t what is new over all mutants; r = 1: a statement, 0: a row -/
def RBP (d n m W t r : Nat) : Prop :=
  ∃ h A B z, h ≤ d ∧ t ≤ A + B ∧ 4 * h ≤ m ∧ m + 7 * W + 10 * h ≤ 3 * n + min h 1 ∧ z + 4 * W + 6 * h = n + min h 1 ∧ 4 * A ≤ 3 * (z * z) + 26 * z + 24 * W + 48 * h ∧
    B + r * (W * m) + 2 * h * (h + 1) * (W + 2) ≤ (h + 1) * (W * m) + (h + 1) * (2 * m) ∧ (W = 0 → h = 0 ∧ 4 * A + 4 * n ≤ 3 * (n * n) ∧ (m = 0 ∨ m + 6 ≤ 3 * n))
theorem sq_mono {a b z : Nat} (h : a + b ≤ z) : a * a + b * b ≤ z * z := by
  have h1 := Nat.mul_le_mul h h
  have h2 := sq_add a b
  omega
theorem up4 {h : Nat} (hh : h ≤ 4) : h = 0 ∨ h = 1 ∨ h = 2 ∨ h = 3 ∨ h = 4 := by omega
/-- two rows, or a statement and a row -/
theorem rb_b {h1 h2 W1 W2 m1 m2 b1 b2 : Nat} (k1 : h1 ≤ 4) (k2 : h2 ≤ 4) (g1 : 4 * h1 ≤ m1) (g2 : 4 * h2 ≤ m2) (e1 : b1 + 2 * h1 * (h1 + 1) * (W1 + 2) ≤ (h1 + 1) * (W1 * m1) + (h1 + 1) * (2 * m1)) (e2 : b2 + 2 * h2 * (h2 + 1) * (W2 + 2) ≤ (h2 + 1) * (W2 * m2) + (h2 + 1) * (2 * m2)) (h : Nat) (hm : h = max h1 h2) :
    b1 + b2 + W1 * m2 + 2 * h * (h + 1) * (W1 + W2 + 2) ≤ (h + 1) * ((W1 + W2) * (m1 + m2)) + (h + 1) * (2 * (m1 + m2)) := by
  have f1 := Nat.mul_le_mul_left W2 g1
  have f2 := Nat.mul_le_mul_left W1 g2
  rw [Nat.add_mul W1 W2, Nat.mul_add W1, Nat.mul_add W2]
  generalize W1 * m1 = x11 at e1 ⊢
  generalize W2 * m2 = x22 at e2 ⊢
  generalize W1 * m2 = x12 at f2 ⊢
  generalize W2 * m1 = x21 at f1 ⊢
  rcases up4 k1 with rfl | rfl | rfl | rfl | rfl <;> rcases up4 k2 with rfl | rfl | rfl | rfl | rfl <;> subst hm <;> simp only [Nat.zero_max, Nat.max_zero, Nat.max_self, show max 1 2 = 2 from rfl, show max 1 3 = 3 from rfl, show max 1 4 = 4 from rfl, show max 2 1 = 2 from rfl, show max 2 3 = 3 from rfl, show max 2 4 = 4 from rfl, show max 3 1 = 3 from rfl, show max 3 2 = 3 from rfl, show max 3 4 = 4 from rfl, show max 4 1 = 4 from rfl, show max 4 2 = 4 from rfl, show max 4 3 = 4 from rfl] <;> omega
theorem rb_two {d n1 m1 W1 t1 n2 m2 W2 t2 r t : Nat} (hd : d ≤ 4) (h1 : RBP d n1 m1 W1 t1 r) (h2 : RBP d n2 m2 W2 t2 0) (hr : r ≤ 1) (ht : t = t1 + t2 + r * (W1 * (m1 + m2))) : RBP d (n1 + n2) (m1 + m2) (W1 + W2) t 0 := by
  obtain ⟨a, A1, B1, z1, p1, p2, p3, p4, p5, p6, p7, p8⟩ := h1
  obtain ⟨b, A2, B2, z2, q1, q2, q3, q4, q5, q6, q7, q8⟩ := h2
  rw [Nat.zero_mul, Nat.add_zero] at q7
  have bb := rb_b (b1 := B1 + r * (W1 * m1)) (Nat.le_trans p1 hd) (Nat.le_trans q1 hd) p3 q3 p7 q7 (max a b) rfl
  have hrr : r * (W1 * (m1 + m2)) = r * (W1 * m1) + r * (W1 * m2) := by rw [Nat.mul_add W1, Nat.mul_add r]
  have hle : r * (W1 * m2) ≤ W1 * m2 := by
    have := Nat.mul_le_mul_right (W1 * m2) hr
    rw [Nat.one_mul] at this
    exact this
  rw [hrr] at ht
  refine ⟨max a b, A1 + A2, B1 + B2 + r * (W1 * m1) + r * (W1 * m2), z1 + z2 + (6 * min a b - min a (min b 1)), by omega, by omega, by omega, by omega, by omega, ?_, ?_, ?_⟩
  · have sq := sq_mono (a := z1) (b := z2) (z := z1 + z2 + (6 * min a b - min a (min b 1))) (by omega)
    generalize (z1 + z2 + (6 * min a b - min a (min b 1))) * (z1 + z2 + (6 * min a b - min a (min b 1))) = zz at sq ⊢
    omega
  · rw [Nat.zero_mul, Nat.add_zero]
    generalize (max a b + 1) * ((W1 + W2) * (m1 + m2)) = x1 at bb ⊢
    generalize (max a b + 1) * (2 * (m1 + m2)) = x2 at bb ⊢
    generalize 2 * max a b * (max a b + 1) * (W1 + W2 + 2) = x3 at bb ⊢
    omega
  · intro hW
    obtain ⟨e1, e2, e3⟩ := p8 (by omega)
    obtain ⟨f1, f2, f3⟩ := q8 (by omega)
    have sq := sq_mono (a := n1) (b := n2) (z := n1 + n2) (Nat.le_refl _)
    exact ⟨by omega, by omega, by omega⟩
/-- one that is an if or a while -/
theorem rb_blk {d k e n m W t mc tc W' m' n' t' : Nat} (hd : d ≤ 3) (h : RBP d n m W t 0) (c1 : 3 ≤ k) (c2 : 3 ≤ mc) (c3 : mc + 2 ≤ 3 * k) (c4 : 4 * tc + 3 ≤ 3 * (k * k) + 8 * k) (hW : W' = max 1 W) (hm : m' = mc + m + 1) (hn : n' = k + n + 3 + e) (ht : t' = tc + t + (mc + m) * 2) : RBP (d + 1) n' m' W' t' 1 := by
  obtain ⟨a, A, B, z, p1, p2, p3, p4, p5, p6, p7, p8⟩ := h
  rw [Nat.zero_mul, Nat.add_zero] at p7
  subst hm hn ht
  by_cases w : W = 0
  · subst w
    obtain ⟨rfl, e2, e3⟩ := p8 rfl
    have hW : W' = 1 := by omega
    subst hW
    rw [Nat.zero_mul] at p7
    by_cases w2 : m = 0
    · subst w2
      refine ⟨0, A + tc, B + (mc + 0) * 2, k + n - 1 + e, by omega, by omega, by omega, by omega, by omega, ?_, by omega, by omega⟩
      have sq := sq_mono (a := k - 1) (b := n) (z := k + n - 1 + e) (by omega)
      obtain ⟨j, rfl⟩ : ∃ j, k = j + 1 := ⟨k - 1, by omega⟩
      have s2 := sq_add j 1
      rw [Nat.add_sub_cancel] at sq
      generalize (j + 1 + n - 1 + e) * (j + 1 + n - 1 + e) = zz at sq ⊢
      generalize (j + 1) * (j + 1) = jj at s2 c4
      omega
    · refine ⟨1, A + tc, B + (mc + m) * 2, k + n - 6 + e, by omega, by omega, by omega, by omega, by omega, ?_, by omega, by omega⟩
      have sq := sq_mono (a := k - 3) (b := n - 3) (z := k + n - 6 + e) (by omega)
      obtain ⟨j, rfl⟩ : ∃ j, k = j + 3 := ⟨k - 3, by omega⟩
      obtain ⟨i, rfl⟩ : ∃ i, n = i + 3 := ⟨n - 3, by omega⟩
      have s2 := sq_add j 3
      have s3 := sq_add i 3
      rw [Nat.add_sub_cancel, Nat.add_sub_cancel] at sq
      generalize (j + 3 + (i + 3) - 6 + e) * (j + 3 + (i + 3) - 6 + e) = zz at sq ⊢
      generalize (j + 3) * (j + 3) = jj at s2 c4
      generalize (i + 3) * (i + 3) = ii at s3 e2
      omega
  · have hW : W' = W := by omega
    subst hW
    refine ⟨a + 1, A + tc, B + (mc + m) * 2, z + (k - 3) + e + (1 - min a 1), by omega, by omega, by omega, by omega, by omega, ?_, ?_, by omega⟩
    · have sq := sq_mono (a := z) (b := k - 3) (z := z + (k - 3) + e + (1 - min a 1)) (by omega)
      obtain ⟨j, rfl⟩ : ∃ j, k = j + 3 := ⟨k - 3, by omega⟩
      have s2 := sq_add j 3
      rw [Nat.add_sub_cancel] at sq ⊢
      generalize (z + j + e + (1 - min a 1)) * (z + j + e + (1 - min a 1)) = zz at sq ⊢
      generalize (j + 3) * (j + 3) = jj at s2 c4
      omega
    · have f1 := Nat.mul_le_mul_left W' c2
      rw [Nat.one_mul, Nat.mul_add W', Nat.mul_add W', Nat.mul_one]
      generalize W' * mc = x1 at f1 ⊢
      generalize W' * m = x2 at p7 ⊢
      rcases up4 (h := a) (by omega) with rfl | rfl | rfl | rfl | rfl <;> omega
/-- simple ones -/
theorem rb_set {d k m t : Nat} (c1 : 1 ≤ k) (c3 : m + 1 ≤ 3 * k) (c4 : 4 * t + 3 ≤ 3 * (k * k) + 8 * k) : RBP d (k + 3) (1 + m) 1 (t + m * 2) 1 := by
  refine ⟨0, t, m * 2, k - 1, by omega, by omega, by omega, by omega, by omega, ?_, by omega, by omega⟩
  obtain ⟨j, rfl⟩ : ∃ j, k = j + 1 := ⟨k - 1, by omega⟩
  have s2 := sq_add j 1
  rw [Nat.add_sub_cancel]
  generalize (j + 1) * (j + 1) = jj at s2 c4
  omega
theorem rb_chk {d k m t : Nat} (c1 : 3 ≤ k) (c3 : m + 2 ≤ 3 * k) (c4 : 4 * t + 3 ≤ 3 * (k * k) + 8 * k) : RBP d (k + 2) (1 + m) 1 (t + m * 2) 1 := by
  refine ⟨0, t, m * 2, k - 2, by omega, by omega, by omega, by omega, by omega, ?_, by omega, by omega⟩
  obtain ⟨j, rfl⟩ : ∃ j, k = j + 2 := ⟨k - 2, by omega⟩
  have s2 := sq_add j 2
  rw [Nat.add_sub_cancel]
  generalize (j + 2) * (j + 2) = jj at s2 c4
  omega
theorem rb_ret {d k m t : Nat} (c1 : 1 ≤ k) (c3 : m + 1 ≤ 3 * k) (c4 : 4 * t + 3 ≤ 3 * (k * k) + 8 * k) : RBP d (k + 2) (1 + m) 0 (t + m * 2) 1 := by
  have s2 := sq_add k 2
  refine ⟨0, t, m * 2, k + 2, by omega, by omega, by omega, by omega, by omega, ?_, by omega, fun _ => ⟨rfl, ?_, by omega⟩⟩
  · generalize (k + 2) * (k + 2) = jj at s2 ⊢
    omega
  · generalize (k + 2) * (k + 2) = jj at s2 ⊢
    omega
theorem rb_nil {d : Nat} : RBP d 0 0 0 0 0 := ⟨0, 0, 0, 0, by omega, by omega, by omega, by omega, by omega, by omega, by omega, fun _ => ⟨rfl, by omega, .inl rfl⟩⟩
