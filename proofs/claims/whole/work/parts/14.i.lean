/-! RUNNING: from the start to the end -/
section
variable {x1 x2 x3 : Int32} {N : Nat} {q1 q2 q3 q4 q5 k0 : Int32} {k1 k2 k3 : Nat → Int32} {l1 : Int32} {l2 l3 l4 l5 l6 : Nat → Int32} {g1 g2 g3 g4 : Int32} {g5 g6 : Nat → Int32} {g7 : Int32} {g8 g9 : Nat → Int32} {r1 r2 r3 r4 r5 : Int32} {rS rV rM : Nat → Int32}
theorem z_go3 {kk : Int32 → Int32 → Int32 → MdR → Option MdR} : ∀ t i n rV, i + t = 6 → t < n → (∀ j, j < i → rV j = 0) → ∃ rV', (∀ j, j < 6 → rV' j = 0) ∧ f8_go_L3 kk N q1 q2 q3 q4 q5 k0 k1 k2 k3 l1 l2 l3 l4 l5 l6 g1 g2 g3 g4 g5 g6 g7 g8 g9 n x1 x2 x3 (nI i) (r1, r2, r3, r4, r5, rS, rV, rM) = kk x1 x2 x3 (r1, r2, r3, r4, r5, rS, rV', rM) := by
  intro t
  induction t with
  | zero =>
    intro i n rV hi hn h
    obtain ⟨n, rfl⟩ : ∃ a, n = a + 1 := ⟨n - 1, by omega⟩
    obtain rfl : i = 6 := by omega
    refine ⟨rV, h, ?_⟩
    rw [f8_go_L3]
    exact if_pos (show (6 : Int32) ≤ nI 6 by decide)
  | succ t ih =>
    intro i n rV hi hn h
    obtain ⟨n, rfl⟩ : ∃ a, n = a + 1 := ⟨n - 1, by omega⟩
    obtain ⟨rV', h1, h2⟩ := ih (i + 1) n (upd rV i 0) (by omega) (by omega) (fun j hj => by
      by_cases w : j = i
      · rw [w, z_upd_e]
      · rw [z_upd_n w, h j (by omega)])
    refine ⟨rV', h1, ?_⟩
    rw [← h2, f8_go_L3, if_neg (nl_nge i 6 6 rfl (by omega) (by omega)), if_neg (z_gd (n := i) (N := 6) (by omega) (by omega)), nm_v, nI_1, z_nat (n := i) (by omega)]
theorem z_go27 {kk : Int32 → Int32 → Int32 → MdR → Option MdR} : ∀ t i n rM, i + t = 60 → t < n → (∀ j, j < i → rM j = 0) → ∃ rM', (∀ j, j < 60 → rM' j = 0) ∧ f8_go_L27 kk N q1 q2 q3 q4 q5 k0 k1 k2 k3 l1 l2 l3 l4 l5 l6 g1 g2 g3 g4 g5 g6 g7 g8 g9 n x1 x2 x3 (nI i) (r1, r2, r3, r4, r5, rS, rV, rM) = kk x1 x2 x3 (r1, r2, r3, r4, r5, rS, rV, rM') := by
  intro t
  induction t with
  | zero =>
    intro i n rM hi hn h
    obtain ⟨n, rfl⟩ : ∃ a, n = a + 1 := ⟨n - 1, by omega⟩
    obtain rfl : i = 60 := by omega
    refine ⟨rM, h, ?_⟩
    rw [f8_go_L27]
    exact if_pos (show (60 : Int32) ≤ nI 60 by decide)
  | succ t ih =>
    intro i n rM hi hn h
    obtain ⟨n, rfl⟩ : ∃ a, n = a + 1 := ⟨n - 1, by omega⟩
    obtain ⟨rM', h1, h2⟩ := ih (i + 1) n (upd rM i (vp_nar .boolean 0)) (by omega) (by omega) (fun j hj => by
      by_cases w : j = i
      · rw [w, z_upd_e]; rfl
      · rw [z_upd_n w, h j (by omega)])
    refine ⟨rM', h1, ?_⟩
    rw [← h2, f8_go_L27, if_neg (nl_nge i 60 60 rfl (by omega) (by omega)), if_neg (z_gd (n := i) (N := 60) (by omega) (by omega)), nm_v, nI_1, z_nat (n := i) (by omega)]
end
/-- both run a mutant: the same comes of it -/
theorem z_exe {cs : CoS} {mK : MdK} {c : RC} {B : Nat} {x : RoT 4} {p p' : Nat} {ma : MaS} {mQ : MdQ} {mG : MdG} {mR : MdR} (hc : CS cs (jRo 4 0 x)) (hJ : (jRo 4 0 x).length ≤ 80) (hM : MUR c) (hfu : c.1 ≤ 50) (hK : MKH mK B (mRo 4 B x ++ [(14, 0, 0)])) (hB : B ≤ 256) (hml : (mRo 4 B x).length < 200) (hi : iRo 4 p p' x) (ho : OKL c (sRo 4 x)) (hq : mQ.2.1 = nI B) (hg : mG.1 = nI c.1) :
    ∃ N0 o bu a' r', o < 4 ∧ bu ≤ c.1 ∧ (∀ N, N0 ≤ N → f2_execute N c.2.1 c.2.2.1 c.2.2.2.2.2.1 c.2.2.2.2.2.2 (nI c.1) cs ma = some (nI o, a')) ∧ (∀ N, N0 ≤ N → f8_go N c.2.2.2.1 c.2.2.2.2.2.1 c.2.2.2.2.2.2 mQ mK c.2.2.2.2.1 mG mR = some r') ∧ r'.2.1 = nI o ∧ r'.2.2.1 = a'.1 ∧ a'.2.1 = nI bu ∧ r'.2.2.2.1 = nI bu ∧ STE a'.2.2.1 r'.2.2.2.2.2.2.2 := by
  obtain ⟨aR, aB, aL, aS, aV, aH, aP, aO, aT, aC, aI⟩ := ma
  obtain ⟨r1, r2, r3, r4, r5, rS, rV, rM⟩ := mR
  obtain ⟨q1, q2, q3, q4, q5⟩ := mQ
  obtain ⟨g1, g2, g3, g4, g5, g6, g7, g8, g9⟩ := mG
  dsimp only at hq hg
  subst hq hg
  have hR : RUN cs c (jRo 4 0 x).length := ⟨hc.1, hJ, hM, hfu⟩
  have hcs : CSH cs 0 (jRo 4 0 x) := fun k p hk => by rw [Nat.zero_add]; exact hc.2 k p hk
  have hmk : MKH mK B (mRo 4 B x ++ [(14, 0, 0)]) := hK
  obtain ⟨hm1, hm2⟩ := hmk.app
  have hm2 := hm2.cons.1
  -- the tables of the start
  obtain ⟨rV', v1, v2⟩ : ∃ rV', (∀ j, j < 6 → rV' j = 0) ∧ ∀ (kk : Int32 → Int32 → Int32 → MdR → Option MdR) (N : Nat), 6 < N → f8_go_L3 kk N q1 (nI B) q3 q4 q5 mK.1 mK.2.1 mK.2.2.1 mK.2.2.2 c.2.2.2.2.1.1 c.2.2.2.2.1.2.1 c.2.2.2.2.1.2.2.1 c.2.2.2.2.1.2.2.2.1 c.2.2.2.2.1.2.2.2.2.1 c.2.2.2.2.1.2.2.2.2.2 (nI c.1) g2 g3 g4 g5 g6 g7 g8 g9 N c.2.2.2.1 c.2.2.2.2.2.1 c.2.2.2.2.2.2 (nI 0) (r1, r2, r3, r4, r5, rS, rV, rM) = kk c.2.2.2.1 c.2.2.2.2.2.1 c.2.2.2.2.2.2 (r1, r2, r3, r4, r5, rS, rV', rM) := by
    refine ⟨upd (upd (upd (upd (upd (upd rV 0 0) 1 0) 2 0) 3 0) 4 0) 5 0, ?_, ?_⟩
    · intro j hj
      by_cases w5 : j = 5
      · rw [w5, z_upd_e]
      · rw [z_upd_n w5]
        by_cases w4 : j = 4
        · rw [w4, z_upd_e]
        · rw [z_upd_n w4]
          by_cases w3 : j = 3
          · rw [w3, z_upd_e]
          · rw [z_upd_n w3]
            by_cases w2 : j = 2
            · rw [w2, z_upd_e]
            · rw [z_upd_n w2]
              by_cases w1 : j = 1
              · rw [w1, z_upd_e]
              · rw [z_upd_n w1, show j = 0 by omega, z_upd_e]
    · intro kk N hN
      obtain ⟨n, hn⟩ : ∃ n, N = n + 7 := ⟨N - 7, by omega⟩
      have st : ∀ (M i n : Nat) (rV : Nat → Int32), i < 6 → f8_go_L3 kk M q1 (nI B) q3 q4 q5 mK.1 mK.2.1 mK.2.2.1 mK.2.2.2 c.2.2.2.2.1.1 c.2.2.2.2.1.2.1 c.2.2.2.2.1.2.2.1 c.2.2.2.2.1.2.2.2.1 c.2.2.2.2.1.2.2.2.2.1 c.2.2.2.2.1.2.2.2.2.2 (nI c.1) g2 g3 g4 g5 g6 g7 g8 g9 (n + 1) c.2.2.2.1 c.2.2.2.2.2.1 c.2.2.2.2.2.2 (nI i) (r1, r2, r3, r4, r5, rS, rV, rM) = f8_go_L3 kk M q1 (nI B) q3 q4 q5 mK.1 mK.2.1 mK.2.2.1 mK.2.2.2 c.2.2.2.2.1.1 c.2.2.2.2.1.2.1 c.2.2.2.2.1.2.2.1 c.2.2.2.2.1.2.2.2.1 c.2.2.2.2.1.2.2.2.2.1 c.2.2.2.2.1.2.2.2.2.2 (nI c.1) g2 g3 g4 g5 g6 g7 g8 g9 n c.2.2.2.1 c.2.2.2.2.2.1 c.2.2.2.2.2.2 (nI (i + 1)) (r1, r2, r3, r4, r5, rS, upd rV i 0, rM) := by
        intro M i n rV hi6
        rw [f8_go_L3, if_neg (nl_nge i 6 6 rfl (by omega) (by omega)), if_neg (z_gd (n := i) (N := 6) (by omega) (by omega)), nm_v, nI_1, z_nat (n := i) (by omega)]
      have en : ∀ (M n : Nat) (rV : Nat → Int32), f8_go_L3 kk M q1 (nI B) q3 q4 q5 mK.1 mK.2.1 mK.2.2.1 mK.2.2.2 c.2.2.2.2.1.1 c.2.2.2.2.1.2.1 c.2.2.2.2.1.2.2.1 c.2.2.2.2.1.2.2.2.1 c.2.2.2.2.1.2.2.2.2.1 c.2.2.2.2.1.2.2.2.2.2 (nI c.1) g2 g3 g4 g5 g6 g7 g8 g9 (n + 1) c.2.2.2.1 c.2.2.2.2.2.1 c.2.2.2.2.2.2 (nI 6) (r1, r2, r3, r4, r5, rS, rV, rM) = kk c.2.2.2.1 c.2.2.2.2.2.1 c.2.2.2.2.2.2 (r1, r2, r3, r4, r5, rS, rV, rM) := by
        intro M n rV
        rw [f8_go_L3]
        exact if_pos (show (6 : Int32) ≤ nI 6 by decide)
      generalize hM : N = M
      rw [← hM, hn]
      exact (st _ 0 (n + 6) rV (by omega)).trans ((st _ 1 (n + 5) _ (by omega)).trans ((st _ 2 (n + 4) _ (by omega)).trans ((st _ 3 (n + 3) _ (by omega)).trans ((st _ 4 (n + 2) _ (by omega)).trans ((st _ 5 (n + 1) _ (by omega)).trans (en _ n _))))))
  obtain ⟨rM', m1, m2⟩ : ∃ rM', (∀ j, j < 60 → rM' j = 0) ∧ ∀ (kk : Int32 → Int32 → Int32 → MdR → Option MdR) (N : Nat), 60 < N → f8_go_L27 kk N q1 (nI B) q3 q4 q5 mK.1 mK.2.1 mK.2.2.1 mK.2.2.2 c.2.2.2.2.1.1 c.2.2.2.2.1.2.1 c.2.2.2.2.1.2.2.1 c.2.2.2.2.1.2.2.2.1 c.2.2.2.2.1.2.2.2.2.1 c.2.2.2.2.1.2.2.2.2.2 (nI c.1) g2 g3 g4 g5 g6 g7 g8 g9 N c.2.2.2.1 c.2.2.2.2.2.1 c.2.2.2.2.2.2 (nI 0) (r1, r2, r3, r4, r5, rS, rV', rM) = kk c.2.2.2.1 c.2.2.2.2.2.1 c.2.2.2.2.2.2 (r1, r2, r3, r4, r5, rS, rV', rM') := by
    have gen : ∀ t i (rM : Nat → Int32), i + t = 60 → (∀ j, j < i → rM j = 0) → ∃ rM', (∀ j, j < 60 → rM' j = 0) ∧ ∀ (kk : Int32 → Int32 → Int32 → MdR → Option MdR) (M n : Nat), t < n → f8_go_L27 kk M q1 (nI B) q3 q4 q5 mK.1 mK.2.1 mK.2.2.1 mK.2.2.2 c.2.2.2.2.1.1 c.2.2.2.2.1.2.1 c.2.2.2.2.1.2.2.1 c.2.2.2.2.1.2.2.2.1 c.2.2.2.2.1.2.2.2.2.1 c.2.2.2.2.1.2.2.2.2.2 (nI c.1) g2 g3 g4 g5 g6 g7 g8 g9 n c.2.2.2.1 c.2.2.2.2.2.1 c.2.2.2.2.2.2 (nI i) (r1, r2, r3, r4, r5, rS, rV', rM) = kk c.2.2.2.1 c.2.2.2.2.2.1 c.2.2.2.2.2.2 (r1, r2, r3, r4, r5, rS, rV', rM') := by
      intro t
      induction t with
      | zero =>
        intro i rM hi60 h
        obtain rfl : i = 60 := by omega
        refine ⟨rM, h, fun kk M n hn => ?_⟩
        obtain ⟨n, rfl⟩ : ∃ a, n = a + 1 := ⟨n - 1, by omega⟩
        rw [f8_go_L27]
        exact if_pos (show (60 : Int32) ≤ nI 60 by decide)
      | succ t ih =>
        intro i rM hi60 h
        obtain ⟨rM', h1, h2⟩ := ih (i + 1) (upd rM i (vp_nar .boolean 0)) (by omega) (fun j hj => by
          by_cases w : j = i
          · rw [w, z_upd_e]; rfl
          · rw [z_upd_n w, h j (by omega)])
        refine ⟨rM', h1, fun kk M n hn => ?_⟩
        obtain ⟨n, rfl⟩ : ∃ a, n = a + 1 := ⟨n - 1, by omega⟩
        rw [← h2 kk M n (by omega), f8_go_L27, if_neg (nl_nge i 60 60 rfl (by omega) (by omega)), if_neg (z_gd (n := i) (N := 60) (by omega) (by omega)), nm_v, nI_1, z_nat (n := i) (by omega)]
    obtain ⟨rM', h1, h2⟩ := gen 60 0 rM (by omega) (fun j hj => by omega)
    exact ⟨rM', h1, fun kk N hN => h2 kk N N hN⟩
  have rel : REL c 0 [] 0 (0, 0, 0, aS, upd (upd (fillF aV 8 0) 6 c.2.2.2.2.2.1) 7 c.2.2.2.2.2.2, 0, 0, -1, nI c.1, c.2.1, c.2.2.1) (nI c.1, -1, 0, r4, 0, rS, rV', rM') := by
    refine ⟨_, _, _, _, _, _, _, rfl, rfl, Nat.zero_le _, fun s hs => ?_, trivial, trivial, fun j hj => ?_, ?_, z_upd_e⟩
    · rw [m1 s hs, lb_0]; rfl
    · rw [v1 j hj, z_upd_n (by omega), z_upd_n (by omega)]
      exact (if_pos (by omega)).symm
    · rw [z_upd_n (by omega), z_upd_e]
  have sim := sm_ro (mK := mK) hR 4 x p p' hi ho
  unfold SIN1 at sim
  dsimp only at sim
  obtain ⟨k, a', bu', pc', r', e1, e2, e3, e4, e5⟩ := sim 0 B [] 0 _ _ hcs hm1 (by omega) (by omega) (by simp only [List.length_nil]; omega) rel
  -- where the class ends
  have cend : ∀ a' : MaS, bu' ≤ c.1 → CGO cs (0, 0, 0, aS, upd (upd (fillF aV 8 0) 6 c.2.2.2.2.2.1) 7 c.2.2.2.2.2.2, 0, 0, -1, nI c.1, c.2.1, c.2.2.1) a' k → (a'.2.2.2.2.2.2.2.1 ≠ -1 ∨ a'.2.2.2.2.2.2.1 = nI (jRo 4 0 x).length) → ∀ N, k + 1 ≤ N → f2_execute N c.2.1 c.2.2.1 c.2.2.2.2.2.1 c.2.2.2.2.2.2 (nI c.1) cs (aR, aB, aL, aS, aV, aH, aP, aO, aT, aC, aI) = some (if a'.2.2.2.2.2.2.2.1 = -1 then 0 else a'.2.2.2.2.2.2.2.1, a') := by
    intro a' hbu hgo hend N hN
    obtain ⟨n, rfl⟩ : ∃ n, N = n + 1 + k := ⟨N - 1 - k, by omega⟩
    have hk : k ≤ 4080 := by omega
    have hcz := hc.1
    obtain ⟨cw, ce, cn, cj, cz⟩ := cs
    dsimp only at hcz
    rw [f2_execute, if_neg (by decide), if_neg (by decide)]
    have h1 := hgo (fun ma => f2_execute_L136 (n + 1 + k) cw ce cn cj cz ma) (n + 1 + k) (n + 1) 0 (by omega)
    rw [Nat.zero_add] at h1
    refine h1.trans ?_
    obtain ⟨b1, b2, b3, b4, b5, b6, b7, b8, b9, b10, b11⟩ := a'
    dsimp only at hend ⊢
    have fin : f2_execute_L136 (n + 1 + k) cw ce cn cj cz (b1, b2, b3, b4, b5, b6, b7, b8, b9, b10, b11) = some (if b8 = -1 then 0 else b8, (b1, b2, b3, b4, b5, b6, b7, b8, b9, b10, b11)) := by
      rw [f2_execute_L136]
      by_cases w : b8 = -1
      · rw [if_pos w, if_pos w]
      · rw [if_neg w, if_neg w]
    rw [f2_execute_L80]
    by_cases w0 : (4080 : Int32) ≤ nI k
    · rw [if_pos w0]; exact fin
    · rw [if_neg w0]
      by_cases w : b8 = -1
      · rw [if_pos w, if_pos (by rw [hend.resolve_left (fun q => q w), hcz]; exact (nI_leI (by omega) (by omega)).mpr (Nat.le_refl _))]
        exact fin
      · rw [if_neg w]; exact fin
  -- where the model ends
  have mend : ∀ pc' r', r'.2.1 ≠ -1 → MGO mK c (nI B) (nI c.1, -1, 0, r4, 0, rS, rV', rM') pc' r' → ∃ N0, ∀ N, N0 ≤ N → f8_go N c.2.2.2.1 c.2.2.2.2.2.1 c.2.2.2.2.2.2 (q1, nI B, q3, q4, q5) mK c.2.2.2.2.1 (nI c.1, g2, g3, g4, g5, g6, g7, g8, g9) (r1, r2, r3, r4, r5, rS, rV, rM) = some (r'.1, r'.2.1, (if r'.2.1 = 0 then r'.2.2.1 else 0), nI c.1 - r'.1, r'.2.2.2.2) := by
    intro pc' r' ho' ⟨kk, hgo⟩
    refine ⟨61 + kk + 1, fun N hN => ?_⟩
    obtain ⟨n, hn⟩ : ∃ n, N = n + 1 + kk := ⟨N - 1 - kk, by omega⟩
    have a1 := v2
    have a2 := m2
    obtain ⟨fu, cg, ins, mm, ⟨l1, l2, l3, l4, l5, l6⟩, x, y⟩ := c
    obtain ⟨k0, k1, k2, k3⟩ := mK
    dsimp only at a1 a2 hgo ⊢
    rw [f8_go]
    refine (a1 _ N (by omega)).trans ?_
    refine (a2 _ N (by omega)).trans ?_
    rw [hn]
    have h1 := hgo (fun (mR_rl_15, mR_ro_15, mR_rv_15, mR_rs_15, mR_rt_15, mR_rS_15, mR_rV_15, mR_rM_15) => if mR_ro_15 = 0 then some (mR_rl_15, mR_ro_15, mR_rv_15, (nI fu - mR_rl_15), mR_rt_15, mR_rS_15, mR_rV_15, mR_rM_15) else some (mR_rl_15, mR_ro_15, (0 : Int32), (nI fu - mR_rl_15), mR_rt_15, mR_rS_15, mR_rV_15, mR_rM_15)) (n + 1 + kk) (n + 1) q1 (nI B) q3 q4 q5 (nI fu) g2 g3 g4 g5 g6 g7 g8 g9
    refine h1.trans ?_
    obtain ⟨s1, s2, s3, s4, s5, s6, s7, s8⟩ := r'
    dsimp only at ho' ⊢
    rw [f8_go_L77, if_neg ho']
    by_cases w : s2 = 0
    · rw [if_pos w, if_pos w]
    · rw [if_neg w, if_neg w]
  have spent : ∀ bu, bu ≤ c.1 → nI c.1 - nI (c.1 - bu) = nI bu := by
    intro bu hbu
    have : nI c.1 = nI bu + nI (c.1 - bu) := by rw [nI_add]; congr 1; omega
    rw [this, Int32.add_sub_cancel]
  rcases e5 with ⟨f1, f2⟩ | ⟨o, o1, o2, o3, o4, o5, o6, o7, o8, o9⟩
  · -- the end of the code
    subst f1
    obtain ⟨bL, bS, bV, s4, sS, sV, sM, rfl, rfl, h1, h2, h3, h4, h5, h6, h7⟩ := f2
    have em : f8_execute (nI (B + (mRo 4 B x).length)) c.2.2.2.1 c.2.2.2.2.2.1 c.2.2.2.2.2.2 mK c.2.2.2.2.1 (nI (c.1 - bu'), -1, 0, s4, nI ([] : List Int32).length, sS, sV, sM) = some (0, (nI (c.1 - bu'), 0, 0, s4, nI ([] : List Int32).length, sS, sV, sM)) := by
      rw [z_exn (by omega) rfl hm2 hM]
      obtain ⟨q1', q2', q3'⟩ := hm2
      have hgm := z_gd (n := B + (mRo 4 B x).length) (N := 512) (by omega) (by omega)
      unfold X48
      obtain ⟨fu, cg, ins, mm, ⟨l1, l2, l3, l4, l5, l6⟩, x', y⟩ := c
      obtain ⟨k0, k1, k2, k3⟩ := mK
      dsimp only at q1' ⊢
      rw [f8_execute_L48, if_neg hgm, z_nat (n := B + (mRo 4 B x).length) (by omega), q1', if_neg (by decide), if_neg (by decide), if_neg (by decide), if_neg (by decide), if_neg (by decide), if_neg (by decide), if_neg (by decide), if_neg (by decide), if_neg (by decide), if_neg (by decide), if_neg (by decide), if_neg (by decide), if_neg (by decide), if_neg (by decide)]
      rfl
    obtain ⟨N0, hN0⟩ := mend _ _ (show (0 : Int32) ≠ -1 by decide) (e4.trans (MGO.step rfl em))
    refine ⟨N0 + k + 1, 0, bu', (0, nI bu', bL, bS, bV, nI ([] : List Int32).length, nI (0 + (jRo 4 0 x).length), -1, nI c.1, c.2.1, c.2.2.1), (nI (c.1 - bu'), 0, 0, nI c.1 - nI (c.1 - bu'), nI ([] : List Int32).length, sS, sV, sM), by omega, h1, fun N hN => ?_, fun N hN => (hN0 N (by omega)).trans (by rfl), rfl, ?_, rfl, spent bu' h1, h2⟩
    · rw [cend _ h1 e3 (.inr (by dsimp only; rw [Nat.zero_add])) N (by omega)]
      rfl
    · rfl
  · have hne : nI o ≠ -1 := z_m1 (by omega)
    obtain ⟨N0, hN0⟩ := mend _ _ (by rw [o5]; exact hne) e4
    refine ⟨N0 + k + 1, o, bu', _, _, o1, o6, fun N hN => ?_, fun N hN => hN0 N (by omega), o5, ?_, o2, ?_, o3⟩
    · rw [cend _ o6 e3 (.inl (by rw [o4]; exact hne)) N (by omega), o4, if_neg hne]
    · dsimp only
      rw [o5]
      by_cases w : o = 0
      · rw [w, if_pos (by decide)]; exact o8 w
      · rw [if_neg (nl_ne o 0 0 rfl w (by omega) (by omega)), o9 w]
    · dsimp only
      rw [o7]
      exact spent bu' o6
