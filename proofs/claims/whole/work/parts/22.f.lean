/-! THE LAW'S WALK: the rounds, and the beginning -/
theorem and15 (x : Int32) : ∃ k, k < 16 ∧ x &&& 15 = nI k := by
  refine ⟨(x &&& 15).toBitVec.toNat, ?_, ?_⟩
  · show (x.toBitVec &&& (15 : Int32).toBitVec).toNat < 16
    rw [BitVec.toNat_and]
    exact Nat.lt_of_le_of_lt Nat.and_le_right (by decide)
  · refine Int32.toBitVec_inj.mp ?_
    show (x &&& 15).toBitVec = BitVec.ofNat 32 _
    simp
theorem sub4 : ∀ n, n < 257 → (nI n - 4).toInt = (n : Int) - 4 := by decide +kernel
section
variable {V : EV} {p : Program} {l : Launch} {e : Env} {R : Room} {s : State} {m : MethodId} {args : Array Value} {below : List Frame} {meth : Method} {c : Code} {Q : State → Prop} {A : Nat → Prop} {kc ks : Nat} {wc wm : va_W} {a7 a8 : Nat → Nat} {o b n : Nat} {xs : Nat → Int32} {i : Int32} {f : Nat → Int64}
theorem q_disp (C : CX V p l R s m args c A kc ks RL cL_law 7 2048 84000) (hN : NCS s) (hk : kc + 1 ≤ R.cells ∧ ks + 6 ≤ R.slots) (hl0 : l.stackTraces = false) (hX : va_X b n xs s s.heap) (hbl : b < s.heap.size) (hbA : ¬ A b) (h0 : vp_in i n) (h1 : vp_in (i + 1) n) (h2 : vp_in (i + 2) n) (h3 : vp_in (i + 3) n) (h : LSt V a7 a8 wc wm) (K : LEND V p l e R s m args below meth c Q A kc ks a7 a8 o b i) : WC V p l e R s m args below meth c Q A kc ks 7 (lwd wc (outW V o f) wm) 32 (lL0 i o (a8 0) (a7 0) b) [] := by
  refine k_aload_n C dL_law_32 4 rfl ?_
  refine k_iload C dL_law_33 0 rfl ?_
  refine k_sld C hX hbl hbA h0 dL_law_35 ?_
  refine k_bipush C (v := 15) dL_law_36 (by decide) ?_
  refine k_iand C dL_law_38 ?_
  refine k_topi (fun t ht => ?_)
  obtain ⟨k, hk16, e⟩ := and15 (xs i.toNatClampNeg)
  have ht2 : t = nI k := ht.trans e
  subst ht2
  clear ht e
  rcases (show k = 0 ∨ k = 1 ∨ k = 2 ∨ k = 3 ∨ k = 4 ∨ k = 5 ∨ k = 6 ∨ k = 7 ∨ k = 8 ∨ k = 9 ∨ k = 10 ∨ k = 11 ∨ k = 12 ∨ k = 13 ∨ k = 14 ∨ k = 15 by omega) with rfl | rfl | rfl | rfl | rfl | rfl | rfl | rfl | rfl | rfl | rfl | rfl | rfl | rfl | rfl | rfl
  · exact k_tableIn C 104 dL_law_39 (by decide) (by decide) (off := 65) (by decide) (by decide) (q_type C hN hk hl0 hX hbl hbA h1 h2 h3 h K)
  · exact k_tableIn C 131 dL_law_39 (by decide) (by decide) (off := 92) (by decide) (by decide) (q_wipe C hN hk hl0 hX hbl hbA h1 h2 h3 h K)
  · exact k_tableIn C 142 dL_law_39 (by decide) (by decide) (off := 103) (by decide) (by decide) (q_compile C hN hk hl0 hX hbl hbA h1 h2 h3 h K)
  · exact k_tableIn C 186 dL_law_39 (by decide) (by decide) (off := 147) (by decide) (by decide) (q_mutant C hN hk hl0 hX hbl hbA h1 h2 h3 h K)
  · exact k_tableIn C 254 dL_law_39 (by decide) (by decide) (off := 215) (by decide) (by decide) (q_test C hN hk hl0 hX hbl hbA h1 h2 h3 h K)
  · exact k_tableIn C 322 dL_law_39 (by decide) (by decide) (off := 283) (by decide) (by decide) (q_fuel C hN hk hl0 hX hbl hbA h1 h2 h3 h K)
  · exact k_tableIn C 347 dL_law_39 (by decide) (by decide) (off := 308) (by decide) (by decide) (q_run C hN hk hl0 hX hbl hbA h1 h2 h3 h K)
  · exact k_tableIn C 427 dL_law_39 (by decide) (by decide) (off := 388) (by decide) (by decide) (q_value C hN hk hl0 hX hbl hbA h1 h2 h3 h K)
  · exact k_tableIn C 440 dL_law_39 (by decide) (by decide) (off := 401) (by decide) (by decide) (q_took C hN hk hl0 hX hbl hbA h1 h2 h3 h K)
  · exact k_tableIn C 453 dL_law_39 (by decide) (by decide) (off := 414) (by decide) (by decide) (q_matrix C hN hk hl0 hX hbl hbA h1 h2 h3 h K)
  · exact k_tableIn C 497 dL_law_39 (by decide) (by decide) (off := 458) (by decide) (by decide) (q_killed C hN hk hl0 hX hbl hbA h1 h2 h3 h K)
  · exact k_tableIn C 572 dL_law_39 (by decide) (by decide) (off := 533) (by decide) (by decide) (q_reached C hN hk hl0 hX hbl hbA h1 h2 h3 h K)
  · exact k_tableIn C 647 dL_law_39 (by decide) (by decide) (off := 608) (by decide) (by decide) (q_score C hN hk hl0 hX hbl hbA h1 h2 h3 h K)
  · exact k_tableOut C 703 dL_law_39 (.inr (by decide)) (by decide) (K _ _ f kc ks h (Nat.le_succ _) (Nat.le_add_right _ _))
  · exact k_tableOut C 703 dL_law_39 (.inr (by decide)) (by decide) (K _ _ f kc ks h (Nat.le_succ _) (Nat.le_add_right _ _))
  · exact k_tableOut C 703 dL_law_39 (.inr (by decide)) (by decide) (K _ _ f kc ks h (Nat.le_succ _) (Nat.le_add_right _ _))
/-- the rounds -/
theorem q_loop (hC : ∀ kc ks, kc ≤ 600128 → ks ≤ 7301098 → CX V p l R s m args c A kc ks RL cL_law 7 2048 84000) (hN : NCS s) (hR : 600128 ≤ R.cells ∧ 7301098 ≤ R.slots) (hl0 : l.stackTraces = false) (hX : va_X b n xs s s.heap) (hbl : b < s.heap.size) (hbA : ¬ A b) (hn : n ≤ 256) (hE : ∀ kc ks w L, kc ≤ 600128 → ks ≤ 7301098 → WC V p l e R s m args below meth c Q A kc ks 7 w 710 L [.int 1]) : ∀ (d j : Nat), j + d = 65 → ∀ (kc ks : Nat), kc ≤ 600000 + j → ks ≤ 7300000 + 6 * j → ∀ (wc wm : va_W) (f : Nat → Int64), LSt V a7 a8 wc wm → WC V p l e R s m args below meth c Q A kc ks 7 (lwd wc (outW V o f) wm) 23 (lL0 (nI (4 * j)) o (a8 0) (a7 0) b) [] := by
  intro d
  induction d with
  | zero =>
    intro j hj kc ks hkc hks wc wm f h
    have C := hC kc ks (by omega) (by omega)
    have hj : j = 65 := by omega
    subst hj
    refine k_iload C dL_law_23 0 rfl ?_
    refine k_aload_n C dL_law_25 4 rfl ?_
    refine k_slenX C hX hbl hbA dL_law_26 ?_
    refine k_iconst C (v := 4) dL_law_27 rfl ?_
    refine k_isub C dL_law_28 ?_
    refine k_icmp_gt C 709 dL_law_29 (by decide) (fun _ => ?_) (fun z => absurd ?_ z)
    · refine k_iconst C (v := 1) dL_law_709 rfl ?_
      exact hE _ _ _ _ (by omega) (by omega)
    · show nI n - 4 < nI 260
      rw [Int32.lt_iff_toInt_lt, sub4 n (by omega), nI_toInt (by decide)]
      omega
  | succ d ih =>
    intro j hj kc ks hkc hks wc wm f h
    have C := hC kc ks (by omega) (by omega)
    refine k_iload C dL_law_23 0 rfl ?_
    refine k_aload_n C dL_law_25 4 rfl ?_
    refine k_slenX C hX hbl hbA dL_law_26 ?_
    refine k_iconst C (v := 4) dL_law_27 rfl ?_
    refine k_isub C dL_law_28 ?_
    refine k_icmp_gt C 709 dL_law_29 (by decide) (fun _ => ?_) (fun z => ?_)
    · refine k_iconst C (v := 1) dL_law_709 rfl ?_
      exact hE _ _ _ _ (by omega) (by omega)
    · have z : ¬ nI n - 4 < nI (4 * j) := z
      have hj4 : 4 * j + 4 ≤ n := by
        rw [Int32.lt_iff_toInt_lt, sub4 n (by omega), nI_toInt (by omega)] at z
        omega
      have hin : ∀ r : Nat, r < 4 → vp_in (nI (4 * j) + nI r) n := fun r hr => by
        rw [show nI (4 * j) + nI r = nI (4 * j + r) from (Int32.ofNat_add _ _).symm]
        exact vp_in_nI (by omega) (by omega)
      refine q_disp C hN ⟨by omega, by omega⟩ hl0 hX hbl hbA (vp_in_nI (by omega) (by omega)) (hin 1 (by decide)) (hin 2 (by decide)) (hin 3 (by decide)) h (fun wc' wm' f' kc' ks' h' hk1 hk2 => ?_)
      have C := hC kc' ks' (by omega) (by omega)
      refine k_iinc C dL_law_703 0 rfl (v := nI (4 * (j + 1))) ((Int32.ofNat_add (4 * j) 4).symm) (lL0 (nI (4 * (j + 1))) o (a8 0) (a7 0) b) (by decide) rfl ?_
      refine k_goto C 23 dL_law_706 (by decide) ?_
      exact ih (j + 1) (by omega) kc' ks' (by omega) (by omega) wc' wm' f' h'
end
