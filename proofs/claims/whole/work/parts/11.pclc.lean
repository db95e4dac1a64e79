/-! READING in the class: chains -/
theorem RZ_map {α β : Type} {T : List Nat} {o : Option (Except String Unit × Int32 × CoS)} {r : PR α} {p q : Nat} {L M : List Pce} {pc : α → List Pce} {sl sl2 : Nat} {g : α → β} {pc2 : β → List Pce} (h : RZ T o r p L pc sl)
    (he : ∀ y, L ++ pc y = M ++ pc2 (g y)) (hb : ∀ y p', 4 * (pc y).length + sl + 5 * p ≤ 5 * p' → 4 * (pc2 (g y)).length + sl2 + 5 * q ≤ 5 * p') : RZ T o (r.bind fun y => some (g y.1, y.2.1, y.2.2)) q M pc2 sl2 := by
  rcases r with _ | ⟨x, p', s'⟩
  · exact h
  · obtain ⟨e1, h1, h2, cs', e, h3⟩ := h
    exact ⟨e1, h1, hb x p' h2, cs', e, he x ▸ h3⟩
section
variable {top : TopS} {T : List Nat} {t0 : Nat → Int32} {rq d : Nat}
theorem z_teL {rec : RecT} {N : Nat} {α : Type} {item : Nat → List Nat → PR α} {f : α → List Pce} (hT : TXT top T) (hF : OKX T (f5_factor rec (nI (4 - d)) top (t0, 1, nI T.length, rq)) item (fun _ => f) 1) {k : Int32 → CoS → Option (Except String Unit × Int32 × CoS)} (hk : ∀ ra cs, k ra cs = some (.ok (), ra, cs)) :
    ∀ n i p cs L, i ≤ 60 → 60 < n + i → p ≤ T.length → CS cs L → 4 * L.length ≤ 5 * p → RZ T (f5_term_L7 k N rec top.1 top.2.1 top.2.2.1 top.2.2.2.1 top.2.2.2.2.1 top.2.2.2.2.2.1 top.2.2.2.2.2.2.1 top.2.2.2.2.2.2.2 t0 1 (nI T.length) rq n (nI (4 - d)) (nI i) (nI p) cs) (pMore item isMul (60 - i) p (T.drop p)) p L (jMoE f) 0 := by
  obtain ⟨a1, a2, a3, a4, a5, a6, a7, a8⟩ := top
  intro n
  have h60 := hT.1
  induction n with
  | zero => intro i p cs L h1 h2; omega
  | succ n ih =>
    intro i p cs L hi hn hp hcs hL
    obtain ⟨b1, b2, b3, b4, b5⟩ := cs
    rw [f5_term_L7]
    dsimp only
    by_cases hi6 : i = 60
    · subst hi6
      rw [if_pos (by decide), hk, Nat.sub_self, pMore]
      exact ⟨rfl, hp, by show 4 * 0 + 0 + 5 * p ≤ 5 * p; omega, _, rfl, by rw [jMoE, List.append_nil]; exact hcs⟩
    · have hlt : ¬ (60 : Int32) ≤ nI i := fun q => absurd ((nI_leI (a := 60) (b := i) (by omega) (by omega)).mp q) (by omega)
      rw [if_neg hlt, show 60 - i = (60 - (i + 1)) + 1 by omega]
      rcases h : T.drop p with _ | ⟨c, r⟩
      · rw [z_is0 4 hT hp h, ob_s, if_pos rfl, hk, pMore]
        exact ⟨h.symm, hp, by show 4 * 0 + 0 + 5 * p ≤ 5 * p; omega, _, rfl, by rw [jMoE, List.append_nil]; exact hcs⟩
      · have hc := z_lt hT h
        obtain ⟨hp1, _, hr⟩ := z_dc h
        rw [z_is1 4 hT h, ob_s, z_next1 hT h, ob_s, pMore]
        by_cases q : isMul c = true
        · rw [if_neg (show ¬ (if strIx 4 ((nI c).toUInt32 % 65536).toInt32 < 0 then (0 : Int32) else 1) = 0 by rw [if_neg (fun e => by rw [(z_c4 c hc).mp e] at q; cases q)]; decide), if_pos q, hr, nI_1]
          refine RZ_bind (hF (p + 1) _ L hp1 hcs (by omega)) (fun x p' cs' q1 q2 q3 => ?_) (fun _ _ => rfl)
          obtain ⟨cs2, f1, g1⟩ := z_add q3 (by rw [List.length_append]; omega) 0 p c (x1 := 0) (x2 := nI p) (x3 := nI c) rfl (fun _ => rfl) (fun _ => rfl)
          obtain ⟨b1, b2, b3, b4, b5⟩ := cs'
          obtain ⟨d1, d2, d3, d4, d5⟩ := cs2
          dsimp only
          rw [f1, ob_s]
          dsimp only [nm_v]
          rw [nI_1]
          refine RZ_map (g := fun y => (p, c, x) :: y) (ih (i + 1) p' _ _ (by omega) (by omega) q1 g1 (by rw [List.length_append, List.length_append]; show 4 * (_ + _ + 1) ≤ _; omega)) (fun y => ?_) (fun y p'' e => ?_)
          · rw [jMoE, List.append_assoc, List.append_assoc]; rfl
          · dsimp only at q2 e ⊢; rw [jMoE, List.length_append, List.length_cons]; dsimp only; omega
        · rw [if_pos (show (if strIx 4 ((nI c).toUInt32 % 65536).toInt32 < 0 then (0 : Int32) else 1) = 0 by rw [if_pos ((z_c4 c hc).mpr (Bool.not_eq_true _ ▸ q))]), if_neg q, hk]
          exact ⟨h.symm, hp, by show 4 * 0 + 0 + 5 * p ≤ 5 * p; omega, _, rfl, by rw [jMoE, List.append_nil]; exact hcs⟩
theorem z_te {rec : RecT} {N : Nat} {α : Type} {item : Nat → List Nat → PR α} {f : α → List Pce} (hT : TXT top T) (hN : 60 < N) (hF : OKX T (f5_factor rec (nI (4 - d)) top (t0, 1, nI T.length, rq)) item (fun _ => f) 1) : OKX T (f5_term rec N (nI (4 - d)) top (t0, 1, nI T.length, rq)) (pChn item isMul) (fun _ => jChE f) 1 := by
  intro p cs L hp hcs hL
  have hL7 := z_teL (rec := rec) (N := N) hT hF (k := fun ra cs => some (.ok (), ra, cs)) (fun _ _ => rfl) N 0
  obtain ⟨a1, a2, a3, a4, a5, a6, a7, a8⟩ := top
  obtain ⟨b1, b2, b3, b4, b5⟩ := cs
  rw [f5_term, pChn]
  refine RZ_bind (hF p _ L hp hcs hL) (fun x p' cs' q1 q2 q3 => ?_) (fun _ _ => rfl)
  refine RZ_map (g := fun y => (x, y)) (hL7 p' cs' _ (by omega) (by omega) q1 q3 (by rw [List.length_append]; omega)) (fun y => ?_) (fun y p'' e => ?_)
  · dsimp only; rw [jChE, List.append_assoc]
  · dsimp only at q2 e ⊢; rw [jChE, List.length_append]; dsimp only; omega
theorem z_exL {rec : RecT} {N : Nat} {α : Type} {item : Nat → List Nat → PR α} {f : α → List Pce} (hT : TXT top T) (hF : OKX T (f5_term rec N (nI (4 - d)) top (t0, 1, nI T.length, rq)) item (fun _ => f) 1) {k : Int32 → CoS → Option (Except String Unit × Int32 × CoS)} (hk : ∀ ra cs, k ra cs = some (.ok (), ra, cs)) :
    ∀ n i p cs L, i ≤ 60 → 60 < n + i → p ≤ T.length → CS cs L → 4 * L.length ≤ 5 * p → RZ T (f5_expression_L7 k N rec top.1 top.2.1 top.2.2.1 top.2.2.2.1 top.2.2.2.2.1 top.2.2.2.2.2.1 top.2.2.2.2.2.2.1 top.2.2.2.2.2.2.2 t0 1 (nI T.length) rq n (nI (4 - d)) (nI i) (nI p) cs) (pMore item isAdd (60 - i) p (T.drop p)) p L (jMoE f) 0 := by
  obtain ⟨a1, a2, a3, a4, a5, a6, a7, a8⟩ := top
  intro n
  have h60 := hT.1
  induction n with
  | zero => intro i p cs L h1 h2; omega
  | succ n ih =>
    intro i p cs L hi hn hp hcs hL
    obtain ⟨b1, b2, b3, b4, b5⟩ := cs
    rw [f5_expression_L7]
    dsimp only
    by_cases hi6 : i = 60
    · subst hi6
      rw [if_pos (by decide), hk, Nat.sub_self, pMore]
      exact ⟨rfl, hp, by show 4 * 0 + 0 + 5 * p ≤ 5 * p; omega, _, rfl, by rw [jMoE, List.append_nil]; exact hcs⟩
    · have hlt : ¬ (60 : Int32) ≤ nI i := fun q => absurd ((nI_leI (a := 60) (b := i) (by omega) (by omega)).mp q) (by omega)
      rw [if_neg hlt, show 60 - i = (60 - (i + 1)) + 1 by omega]
      rcases h : T.drop p with _ | ⟨c, r⟩
      · rw [z_is0 3 hT hp h, ob_s, if_pos rfl, hk, pMore]
        exact ⟨h.symm, hp, by show 4 * 0 + 0 + 5 * p ≤ 5 * p; omega, _, rfl, by rw [jMoE, List.append_nil]; exact hcs⟩
      · have hc := z_lt hT h
        obtain ⟨hp1, _, hr⟩ := z_dc h
        rw [z_is1 3 hT h, ob_s, z_next1 hT h, ob_s, pMore]
        by_cases q : isAdd c = true
        · rw [if_neg (show ¬ (if strIx 3 ((nI c).toUInt32 % 65536).toInt32 < 0 then (0 : Int32) else 1) = 0 by rw [if_neg (fun e => by rw [(z_c3 c hc).mp e] at q; cases q)]; decide), if_pos q, hr, nI_1]
          refine RZ_bind (hF (p + 1) _ L hp1 hcs (by omega)) (fun x p' cs' q1 q2 q3 => ?_) (fun _ _ => rfl)
          obtain ⟨cs2, f1, g1⟩ := z_add q3 (by rw [List.length_append]; omega) 0 p c (x1 := 0) (x2 := nI p) (x3 := nI c) rfl (fun _ => rfl) (fun _ => rfl)
          obtain ⟨b1, b2, b3, b4, b5⟩ := cs'
          obtain ⟨d1, d2, d3, d4, d5⟩ := cs2
          dsimp only
          rw [f1, ob_s]
          dsimp only [nm_v]
          rw [nI_1]
          refine RZ_map (g := fun y => (p, c, x) :: y) (ih (i + 1) p' _ _ (by omega) (by omega) q1 g1 (by rw [List.length_append, List.length_append]; show 4 * (_ + _ + 1) ≤ _; omega)) (fun y => ?_) (fun y p'' e => ?_)
          · rw [jMoE, List.append_assoc, List.append_assoc]; rfl
          · dsimp only at q2 e ⊢; rw [jMoE, List.length_append, List.length_cons]; dsimp only; omega
        · rw [if_pos (show (if strIx 3 ((nI c).toUInt32 % 65536).toInt32 < 0 then (0 : Int32) else 1) = 0 by rw [if_pos ((z_c3 c hc).mpr (Bool.not_eq_true _ ▸ q))]), if_neg q, hk]
          exact ⟨h.symm, hp, by show 4 * 0 + 0 + 5 * p ≤ 5 * p; omega, _, rfl, by rw [jMoE, List.append_nil]; exact hcs⟩
theorem z_ex {rec : RecT} {N : Nat} {α : Type} {item : Nat → List Nat → PR α} {f : α → List Pce} (hT : TXT top T) (hN : 60 < N) (hF : OKX T (f5_term rec N (nI (4 - d)) top (t0, 1, nI T.length, rq)) item (fun _ => f) 1) : OKX T (f5_expression rec N (nI (4 - d)) top (t0, 1, nI T.length, rq)) (pChn item isAdd) (fun _ => jChE f) 1 := by
  intro p cs L hp hcs hL
  have hL7 := z_exL (rec := rec) (N := N) hT hF (k := fun ra cs => some (.ok (), ra, cs)) (fun _ _ => rfl) N 0
  obtain ⟨a1, a2, a3, a4, a5, a6, a7, a8⟩ := top
  obtain ⟨b1, b2, b3, b4, b5⟩ := cs
  rw [f5_expression, pChn]
  refine RZ_bind (hF p _ L hp hcs hL) (fun x p' cs' q1 q2 q3 => ?_) (fun _ _ => rfl)
  refine RZ_map (g := fun y => (x, y)) (hL7 p' cs' _ (by omega) (by omega) q1 q3 (by rw [List.length_append]; omega)) (fun y => ?_) (fun y p'' e => ?_)
  · dsimp only; rw [jChE, List.append_assoc]
  · dsimp only at q2 e ⊢; rw [jChE, List.length_append]; dsimp only; omega
end
