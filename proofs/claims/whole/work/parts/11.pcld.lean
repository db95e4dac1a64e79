/-! READING in the class: conditions -/
section
variable {top : TopS} {T : List Nat} {t0 : Nat → Int32} {rq p c d : Nat} {r : List Nat}
theorem z_decide (hT : TXT top T) (h : T.drop p = c :: r) {cs : CoS} {L : List Pce} (hcs : CS cs L) (hL : 4 * L.length ≤ 5 * p) : ∃ cs', f5_decide top (t0, 1, nI T.length, rq) (nI p) cs = some (nI L.length, nI (p + 1), cs') ∧ CS cs' (L ++ [(2, p, c, 0)]) := by
  have h1 := z_next1 (t0 := t0) (rq := rq) hT h
  have h60 := hT.1
  have hp := (z_dc h).1
  obtain ⟨cs', f1, g1⟩ := z_add hcs (by omega) 2 p c (x1 := 2) (x2 := nI p) (x3 := nI c) rfl (fun _ => rfl) (fun _ => rfl)
  refine ⟨cs', ?_, g1⟩
  obtain ⟨a1, a2, a3, a4, a5, a6, a7, a8⟩ := top
  obtain ⟨b1, b2, b3, b4, b5⟩ := cs
  rw [f5_decide, h1, ob_s, f1, ob_s, nI_1]
theorem z_join {rd : RdS} {cs : CoS} {A B : List Pce} {v : Int32} (h : CS cs (A ++ (2, p, c, 0) :: B)) (hl : A.length + B.length < 79) (hv : v = nI A.length) : ∃ cs', f5_join v rd cs = some cs' ∧ CS cs' (A ++ (2, p, c, A.length + B.length + 2) :: B ++ [(6, p, c, 0)]) := by
  have hl1 : (A ++ (2, p, c, 0) :: B).length = A.length + B.length + 1 := by rw [List.length_append, List.length_cons]; omega
  have hA := h.2 A.length (2, p, c, 0) (by rw [List.getElem?_append_right (Nat.le_refl _), Nat.sub_self]; rfl)
  have hA1 := hA.2.2.1 (.inl (show 2 ≤ 4 by decide))
  have hA2 := hA.2.2.2 (show 2 ≠ 11 by decide)
  obtain ⟨cs1, f1, g1⟩ := z_add h (by omega) 6 p c (x1 := 6) (x2 := nI p) (x3 := nI c) rfl (fun _ => rfl) (fun _ => rfl)
  obtain ⟨cs2, f2, g2⟩ := z_jump g1 (by rw [List.length_append, hl1]; show _ + 1 ≤ 80; omega) (A := A) (B := B ++ [(6, p, c, 0)]) (w := 2) (s := p) (n := c) (t := 0) (by rw [List.append_assoc]; rfl) hv
  rw [List.length_append, hl1] at g2
  refine ⟨cs2, ?_, by rw [List.append_assoc]; exact g2⟩
  subst hv
  obtain ⟨b1, b2, b3, b4, b5⟩ := cs
  obtain ⟨d1, d2, d3, d4, d5⟩ := cs1
  obtain ⟨e1, e2, e3, e4, e5⟩ := cs2
  obtain ⟨r1, r2, r3, r4⟩ := rd
  dsimp only at hA1 hA2
  have hg := z_gd (n := A.length) (N := 80) (by omega) (by omega)
  rw [f5_join, if_neg hg, if_neg hg, z_nat (by omega), hA1, hA2, f1, ob_s]
  dsimp only
  rw [f2, ob_s]
theorem pEx_nil : pEx d p [] = none := rfl
def HR1 (T : List Nat) (top : TopS) (rd : RdS) (rec : RecT) : Nat → Prop
  | 0 => True
  | d + 1 => OKX T (rec 1 (nI (4 - d)) top rd) (pCo d) (jCo d) 3
theorem z_at {rec : RecT} {N : Nat} (hT : TXT top T) (hd : d ≤ 4) (hE : OKX T (f5_expression rec N (nI (4 - d)) top (t0, 1, nI T.length, rq)) (pEx d) (fun _ => jEx d) 1) (hR : HR1 T top (t0, 1, nI T.length, rq) rec d) : OKX T (f5_atom rec N (nI (4 - d)) top (t0, 1, nI T.length, rq)) (pAt d (pCSub d)) (jAt d (jCSub d)) 3 := by
  intro p cs L hp hcs hL
  have h60 := hT.1
  rcases h : T.drop p with _ | ⟨c, r⟩
  · have h1 := z_next0 (t0 := t0) (rq := rq) hT hp h
    have h2 := hE p cs L hp hcs hL
    rw [h, pEx_nil] at h2
    obtain ⟨ra, cs', h2⟩ := h2
    obtain ⟨a1, a2, a3, a4, a5, a6, a7, a8⟩ := top
    obtain ⟨b1, b2, b3, b4, b5⟩ := cs
    obtain ⟨d1, d2, d3, d4, d5⟩ := cs'
    rw [f5_atom, h1, ob_s, if_neg (by decide), h2, ob_s]
    exact RZ_err
  · have h1 := z_next1 (t0 := t0) (rq := rq) hT h
    have hc := z_lt hT h
    obtain ⟨hp1, _, hr⟩ := z_dc h
    by_cases q : c = 91
    · subst q
      rw [pAt, if_pos rfl]
      rcases d with _ | d
      · have ho := z_open0 (top := top) (x := 91) (ra := nI p) (rd := (t0, 1, nI T.length, rq))
        obtain ⟨a1, a2, a3, a4, a5, a6, a7, a8⟩ := top
        obtain ⟨b1, b2, b3, b4, b5⟩ := cs
        rw [f5_atom, h1, ob_s, if_pos (show nI 91 = (91 : Int32) from rfl), ho]
        exact RZ_err
      · rcases z_open1 (t0 := t0) (rq := rq) hT hp 91 91 rfl (by omega) (show d < 4 by omega) with ⟨o1, _⟩ | ⟨_, _, o3⟩
        · rw [h, pTok, if_pos rfl] at o1; cases o1
        · have hR' := hR (p + 1) cs L hp1 hcs (by omega)
          have hT' := hT
          obtain ⟨a1, a2, a3, a4, a5, a6, a7, a8⟩ := top
          obtain ⟨b1, b2, b3, b4, b5⟩ := cs
          rw [f5_atom, h1, hr, ob_s, if_pos (show nI 91 = (91 : Int32) from rfl), o3, ob_s]
          try dsimp only
          refine RZ_bind hR' (fun x p' cs' q1 q2 q3 => ?_) (fun _ _ => rfl)
          obtain ⟨b1, b2, b3, b4, b5⟩ := cs'
          dsimp only
          rcases z_take (t0 := t0) (rq := rq) hT' q1 93 93 rfl (by omega) with ⟨t1, t2⟩ | ⟨t1, t2, t3⟩
          · rw [t1, t2]; exact RZ_err
          · rw [t1, t3]
            exact ⟨rfl, t2, by show 4 * (jCSub (d + 1) L.length x).length + 3 + 5 * p ≤ _; have : 4 * (jCSub (d + 1) L.length x).length + 3 + 5 * (p + 1) ≤ 5 * p' := q2; omega, _, rfl, q3⟩
    · have q' : ¬ nI c = 91 := fun e => q ((nI_eq (b := 91) (by omega) (by omega)).mp e)
      have hE1 := hE p cs L hp hcs hL
      have hT' := hT
      obtain ⟨a1, a2, a3, a4, a5, a6, a7, a8⟩ := top
      obtain ⟨b1, b2, b3, b4, b5⟩ := cs
      rw [f5_atom, h1, ob_s, if_neg q', pAt, if_neg q, pCm, Option.bind_assoc, ← h]
      refine RZ_bind hE1 (fun x p' cs' q1 q2 q3 => ?_) (fun _ _ => rfl)
      dsimp only at q2 q3 ⊢
      rcases h' : T.drop p' with _ | ⟨c', r'⟩
      · obtain ⟨b1, b2, b3, b4, b5⟩ := cs'
        dsimp only
        rw [z_is0 1 hT' q1 h', ob_s, if_pos rfl]
        exact RZ_err
      · have hc' := z_lt hT' h'
        obtain ⟨hp1', _, hr'⟩ := z_dc h'
        have n1 := z_next1 (t0 := t0) (rq := rq) hT' h'
        have i1 := z_is1 (t0 := t0) (rq := rq) 1 hT' h'
        have hE2 := hE (p' + 1) cs' _ hp1' q3 (by rw [List.length_append]; omega)
        by_cases w : isCmp c' = true
        · obtain ⟨b1, b2, b3, b4, b5⟩ := cs'
          dsimp only
          rw [i1, ob_s, if_neg (show ¬ (if strIx 1 ((nI c').toUInt32 % 65536).toInt32 < 0 then (0 : Int32) else 1) = 0 by rw [if_neg (fun e => by rw [(z_c1 c' hc').mp e] at w; cases w)]; decide), if_pos w, f5_atom_L47, n1, ob_s, nI_1, hr', Option.bind_assoc]
          refine RZ_bind hE2 (fun y p'' cs'' q4 q5 q6 => ?_) (fun _ _ => rfl)
          dsimp only at q5 q6 ⊢
          obtain ⟨cs3, f3, g3⟩ := z_add q6 (by rw [List.length_append, List.length_append]; omega) 1 p' c' (x1 := 1) (x2 := nI p') (x3 := nI c') rfl (fun _ => rfl) (fun _ => rfl)
          obtain ⟨b1, b2, b3, b4, b5⟩ := cs''
          obtain ⟨d1, d2, d3, d4, d5⟩ := cs3
          dsimp only
          rw [f3]
          refine ⟨rfl, q4, ?_, _, rfl, ?_⟩
          · show 4 * (jEx d x ++ jEx d y ++ [(1, p', c', 0)]).length + 3 + 5 * p ≤ 5 * p''
            rw [List.length_append, List.length_append, List.length_singleton]; omega
          · show CS _ (L ++ (jEx d x ++ jEx d y ++ [(1, p', c', 0)]))
            rw [← List.append_assoc, ← List.append_assoc]; exact g3
        · obtain ⟨b1, b2, b3, b4, b5⟩ := cs'
          dsimp only
          rw [i1, ob_s, if_pos (show (if strIx 1 ((nI c').toUInt32 % 65536).toInt32 < 0 then (0 : Int32) else 1) = 0 by rw [if_pos ((z_c1 c' hc').mpr (Bool.not_eq_true _ ▸ w))]), if_neg w]
          exact RZ_err
theorem z_paL {rec : RecT} {N : Nat} {α : Type} {item : Nat → List Nat → PR α} {f : Nat → α → List Pce} (hT : TXT top T) (hF : OKX T (f5_atom rec N (nI (4 - d)) top (t0, 1, nI T.length, rq)) item f 3) {k : Int32 → CoS → Option (Except String Unit × Int32 × CoS)} (hk : ∀ ra cs, k ra cs = some (.ok (), ra, cs)) :
    ∀ n i p cs L, i ≤ 60 → 60 < n + i → p ≤ T.length → CS cs L → 4 * L.length ≤ 5 * p → RZ T (f5_part_L7 k N rec top.1 top.2.1 top.2.2.1 top.2.2.2.1 top.2.2.2.2.1 top.2.2.2.2.2.1 top.2.2.2.2.2.2.1 top.2.2.2.2.2.2.2 t0 1 (nI T.length) rq n (nI (4 - d)) (nI i) (nI p) cs) (pMore item (fun c => c == 38) (60 - i) p (T.drop p)) p L (jMoC f L.length) 0 := by
  obtain ⟨a1, a2, a3, a4, a5, a6, a7, a8⟩ := top
  intro n
  have h60 := hT.1
  induction n with
  | zero => intro i p cs L h1 h2; omega
  | succ n ih =>
    intro i p cs L hi hn hp hcs hL
    by_cases hi6 : i = 60
    · subst hi6
      obtain ⟨b1, b2, b3, b4, b5⟩ := cs
      rw [f5_part_L7]
      dsimp only
      rw [if_pos (by decide), hk, Nat.sub_self, pMore]
      exact ⟨rfl, hp, by show 4 * 0 + 0 + 5 * p ≤ 5 * p; omega, _, rfl, by rw [jMoC, List.append_nil]; exact hcs⟩
    · have hlt : ¬ (60 : Int32) ≤ nI i := fun q => absurd ((nI_leI (a := 60) (b := i) (by omega) (by omega)).mp q) (by omega)
      rw [show 60 - i = (60 - (i + 1)) + 1 by omega]
      rcases h : T.drop p with _ | ⟨c, r⟩
      · obtain ⟨b1, b2, b3, b4, b5⟩ := cs
        rw [f5_part_L7]
        dsimp only
        rw [if_neg hlt, z_next0 hT hp h, ob_s, if_neg (by decide), hk, pMore]
        exact ⟨h.symm, hp, by show 4 * 0 + 0 + 5 * p ≤ 5 * p; omega, _, rfl, by rw [jMoC, List.append_nil]; exact hcs⟩
      · have hc := z_lt hT h
        obtain ⟨hp1, _, hr⟩ := z_dc h
        by_cases q : c = 38
        · obtain ⟨cs1, f1, g1⟩ := z_decide (t0 := t0) (rq := rq) hT h hcs hL
          have hF' := hF (p + 1) cs1 _ hp1 g1 (by rw [List.length_append, List.length_singleton]; omega)
          rw [show (L ++ [((2, p, c, 0) : Pce)]).length = L.length + 1 by rw [List.length_append]; rfl] at hF'
          obtain ⟨b1, b2, b3, b4, b5⟩ := cs
          rw [f5_part_L7]
          dsimp only
          rw [if_neg hlt, z_next1 hT h, ob_s, if_pos (by rw [q]; rfl), f1, ob_s, pMore, if_pos (by rw [q]; rfl), hr]
          obtain ⟨b1, b2, b3, b4, b5⟩ := cs1
          refine RZ_bind hF' (fun x p' cs' q1 q2 q3 => ?_) (fun _ _ => rfl)
          obtain ⟨cs2, f2, g2⟩ := z_join (rd := (t0, 1, nI T.length, rq)) (A := L) (B := f (L.length + 1) x) (p := p) (c := c) (v := nI L.length) (by rw [List.append_assoc] at q3; exact q3) (by omega) rfl
          obtain ⟨b1, b2, b3, b4, b5⟩ := cs'
          obtain ⟨d1, d2, d3, d4, d5⟩ := cs2
          dsimp only
          rw [f2, ob_s]
          dsimp only [nm_v]
          rw [nI_1]
          have hl : (L ++ (2, p, c, L.length + (f (L.length + 1) x).length + 2) :: f (L.length + 1) x ++ [(6, p, c, 0)]).length = L.length + (f (L.length + 1) x).length + 2 := by
            rw [List.length_append, List.length_append, List.length_cons, List.length_singleton]; omega
          refine RZ_map (g := fun y => (p, c, x) :: y) (ih (i + 1) p' _ _ (by omega) (by omega) q1 g2 (by rw [hl]; omega)) (fun y => ?_) (fun y p'' e => ?_)
          · rw [hl, jMoC]; simp only [List.append_assoc, List.cons_append, List.nil_append]
          · rw [hl] at e; rw [jMoC, List.length_append, List.length_cons, List.length_cons]; dsimp only; omega
        · obtain ⟨b1, b2, b3, b4, b5⟩ := cs
          rw [f5_part_L7]
          dsimp only
          rw [if_neg hlt, z_next1 hT h, ob_s, if_neg (show ¬ nI c = (38 : Int32) from fun e => q ((nI_eq (b := 38) (by omega) (by omega)).mp e)), hk, pMore, if_neg (fun e => q (eq_of_beq e))]
          exact ⟨h.symm, hp, by show 4 * 0 + 0 + 5 * p ≤ 5 * p; omega, _, rfl, by rw [jMoC, List.append_nil]; exact hcs⟩
theorem z_pa {rec : RecT} {N : Nat} {α : Type} {item : Nat → List Nat → PR α} {f : Nat → α → List Pce} (hT : TXT top T) (hN : 60 < N) (hF : OKX T (f5_atom rec N (nI (4 - d)) top (t0, 1, nI T.length, rq)) item f 3) : OKX T (f5_part rec N (nI (4 - d)) top (t0, 1, nI T.length, rq)) (pChn item (fun c => c == 38)) (jChC f) 3 := by
  intro p cs L hp hcs hL
  have hL7 := z_paL (rec := rec) (N := N) hT hF (k := fun ra cs => some (.ok (), ra, cs)) (fun _ _ => rfl) N 0
  obtain ⟨a1, a2, a3, a4, a5, a6, a7, a8⟩ := top
  obtain ⟨b1, b2, b3, b4, b5⟩ := cs
  rw [f5_part, pChn]
  refine RZ_bind (hF p _ L hp hcs hL) (fun x p' cs' q1 q2 q3 => ?_) (fun _ _ => rfl)
  refine RZ_map (g := fun y => (x, y)) (hL7 p' cs' _ (by omega) (by omega) q1 q3 (by rw [List.length_append]; omega)) (fun y => ?_) (fun y p'' e => ?_)
  · rw [jChC, List.append_assoc, List.length_append]
  · rw [List.length_append] at e; rw [jChC, List.length_append]; dsimp only at *; omega
theorem z_cdL {rec : RecT} {N : Nat} {α : Type} {item : Nat → List Nat → PR α} {f : Nat → α → List Pce} (hT : TXT top T) (hF : OKX T (f5_part rec N (nI (4 - d)) top (t0, 1, nI T.length, rq)) item f 3) {k : Int32 → CoS → Option (Except String Unit × Int32 × CoS)} (hk : ∀ ra cs, k ra cs = some (.ok (), ra, cs)) :
    ∀ n i p cs L, i ≤ 60 → 60 < n + i → p ≤ T.length → CS cs L → 4 * L.length ≤ 5 * p → RZ T (f5_condition_L7 k N rec top.1 top.2.1 top.2.2.1 top.2.2.2.1 top.2.2.2.2.1 top.2.2.2.2.2.1 top.2.2.2.2.2.2.1 top.2.2.2.2.2.2.2 t0 1 (nI T.length) rq n (nI (4 - d)) (nI i) (nI p) cs) (pMore item (fun c => c == 124) (60 - i) p (T.drop p)) p L (jMoC f L.length) 0 := by
  obtain ⟨a1, a2, a3, a4, a5, a6, a7, a8⟩ := top
  intro n
  have h60 := hT.1
  induction n with
  | zero => intro i p cs L h1 h2; omega
  | succ n ih =>
    intro i p cs L hi hn hp hcs hL
    by_cases hi6 : i = 60
    · subst hi6
      obtain ⟨b1, b2, b3, b4, b5⟩ := cs
      rw [f5_condition_L7]
      dsimp only
      rw [if_pos (by decide), hk, Nat.sub_self, pMore]
      exact ⟨rfl, hp, by show 4 * 0 + 0 + 5 * p ≤ 5 * p; omega, _, rfl, by rw [jMoC, List.append_nil]; exact hcs⟩
    · have hlt : ¬ (60 : Int32) ≤ nI i := fun q => absurd ((nI_leI (a := 60) (b := i) (by omega) (by omega)).mp q) (by omega)
      rw [show 60 - i = (60 - (i + 1)) + 1 by omega]
      rcases h : T.drop p with _ | ⟨c, r⟩
      · obtain ⟨b1, b2, b3, b4, b5⟩ := cs
        rw [f5_condition_L7]
        dsimp only
        rw [if_neg hlt, z_next0 hT hp h, ob_s, if_neg (by decide), hk, pMore]
        exact ⟨h.symm, hp, by show 4 * 0 + 0 + 5 * p ≤ 5 * p; omega, _, rfl, by rw [jMoC, List.append_nil]; exact hcs⟩
      · have hc := z_lt hT h
        obtain ⟨hp1, _, hr⟩ := z_dc h
        by_cases q : c = 124
        · obtain ⟨cs1, f1, g1⟩ := z_decide (t0 := t0) (rq := rq) hT h hcs hL
          have hF' := hF (p + 1) cs1 _ hp1 g1 (by rw [List.length_append, List.length_singleton]; omega)
          rw [show (L ++ [((2, p, c, 0) : Pce)]).length = L.length + 1 by rw [List.length_append]; rfl] at hF'
          obtain ⟨b1, b2, b3, b4, b5⟩ := cs
          rw [f5_condition_L7]
          dsimp only
          rw [if_neg hlt, z_next1 hT h, ob_s, if_pos (by rw [q]; rfl), f1, ob_s, pMore, if_pos (by rw [q]; rfl), hr]
          obtain ⟨b1, b2, b3, b4, b5⟩ := cs1
          refine RZ_bind hF' (fun x p' cs' q1 q2 q3 => ?_) (fun _ _ => rfl)
          obtain ⟨cs2, f2, g2⟩ := z_join (rd := (t0, 1, nI T.length, rq)) (A := L) (B := f (L.length + 1) x) (p := p) (c := c) (v := nI L.length) (by rw [List.append_assoc] at q3; exact q3) (by omega) rfl
          obtain ⟨b1, b2, b3, b4, b5⟩ := cs'
          obtain ⟨d1, d2, d3, d4, d5⟩ := cs2
          dsimp only
          rw [f2, ob_s]
          dsimp only [nm_v]
          rw [nI_1]
          have hl : (L ++ (2, p, c, L.length + (f (L.length + 1) x).length + 2) :: f (L.length + 1) x ++ [(6, p, c, 0)]).length = L.length + (f (L.length + 1) x).length + 2 := by
            rw [List.length_append, List.length_append, List.length_cons, List.length_singleton]; omega
          refine RZ_map (g := fun y => (p, c, x) :: y) (ih (i + 1) p' _ _ (by omega) (by omega) q1 g2 (by rw [hl]; omega)) (fun y => ?_) (fun y p'' e => ?_)
          · rw [hl, jMoC]; simp only [List.append_assoc, List.cons_append, List.nil_append]
          · rw [hl] at e; rw [jMoC, List.length_append, List.length_cons, List.length_cons]; dsimp only; omega
        · obtain ⟨b1, b2, b3, b4, b5⟩ := cs
          rw [f5_condition_L7]
          dsimp only
          rw [if_neg hlt, z_next1 hT h, ob_s, if_neg (show ¬ nI c = (124 : Int32) from fun e => q ((nI_eq (b := 124) (by omega) (by omega)).mp e)), hk, pMore, if_neg (fun e => q (eq_of_beq e))]
          exact ⟨h.symm, hp, by show 4 * 0 + 0 + 5 * p ≤ 5 * p; omega, _, rfl, by rw [jMoC, List.append_nil]; exact hcs⟩
theorem z_cd {rec : RecT} {N : Nat} {α : Type} {item : Nat → List Nat → PR α} {f : Nat → α → List Pce} (hT : TXT top T) (hN : 60 < N) (hF : OKX T (f5_part rec N (nI (4 - d)) top (t0, 1, nI T.length, rq)) item f 3) : OKX T (f5_condition rec N (nI (4 - d)) top (t0, 1, nI T.length, rq)) (pChn item (fun c => c == 124)) (jChC f) 3 := by
  intro p cs L hp hcs hL
  have hL7 := z_cdL (rec := rec) (N := N) hT hF (k := fun ra cs => some (.ok (), ra, cs)) (fun _ _ => rfl) N 0
  obtain ⟨a1, a2, a3, a4, a5, a6, a7, a8⟩ := top
  obtain ⟨b1, b2, b3, b4, b5⟩ := cs
  rw [f5_condition, pChn]
  refine RZ_bind (hF p _ L hp hcs hL) (fun x p' cs' q1 q2 q3 => ?_) (fun _ _ => rfl)
  refine RZ_map (g := fun y => (x, y)) (hL7 p' cs' _ (by omega) (by omega) q1 q3 (by rw [List.length_append]; omega)) (fun y => ?_) (fun y p'' e => ?_)
  · rw [jChC, List.append_assoc, List.length_append]
  · rw [List.length_append] at e; rw [jChC, List.length_append]; dsimp only at *; omega
end
