section
variable {top : TopS} {T : List Nat} {t0 : Nat → Int32} {rq p c d : Nat} {r : List Nat}
theorem pSt_c {S : Type} {bs : Nat → List Nat → PR S} : pSt d bs p (c :: r) = if c = 63 ∨ c = 64 then (bs p (c :: r)).bind fun x => some (.inr x.1, x.2.1, x.2.2) else (pSm d p (c :: r)).bind fun x => some (.inl x.1, x.2.1, x.2.2) := rfl
theorem pSt_if (hr : r = T.drop (p + 1)) : pSt (d + 1) (pBSub (d + 1)) p (63 :: r) = ((pCo (d + 1) (p + 1) (T.drop (p + 1))).bind fun x => (pBlk (pSt d (pBSub d)) x.2.1 x.2.2).bind fun y => if y.2.2.head? = some 123 then (pBlk (pSt d (pBSub d)) y.2.1 y.2.2).bind fun z => some ((x.1, y.1, some z.1), z.2.1, z.2.2) else some ((x.1, y.1, none), y.2.1, y.2.2)).bind fun y => some ((.inr (p, y.1.1, .inl (y.1.2.1, y.1.2.2)) : StT (d + 1)), y.2.1, y.2.2) := by
  rw [pSt_c, if_pos (.inl rfl), pBSub, ← hr]
  dsimp only
  rw [Option.bind_assoc, Option.bind_assoc]
  refine congrArg _ (funext fun x => ?_)
  rw [Option.bind_assoc, Option.bind_assoc]
  refine congrArg _ (funext fun y => ?_)
  rw [if_pos rfl]
  split
  · rw [Option.bind_assoc, Option.bind_assoc]; rfl
  · rfl
theorem pSt_wh (hr : r = T.drop (p + 1)) : pSt (d + 1) (pBSub (d + 1)) p (64 :: r) = ((pCo (d + 1) (p + 1) (T.drop (p + 1))).bind fun x => (pBlk (pSt d (pBSub d)) x.2.1 x.2.2).bind fun y => some ((x.1, y.1), y.2.1, y.2.2)).bind fun y => some ((.inr (p, y.1.1, .inr y.1.2) : StT (d + 1)), y.2.1, y.2.2) := by
  rw [pSt_c, if_pos (.inr rfl), pBSub, ← hr]
  dsimp only
  rw [Option.bind_assoc, Option.bind_assoc]
  refine congrArg _ (funext fun x => ?_)
  rw [Option.bind_assoc, Option.bind_assoc]
  rfl
theorem pSt_as {S : Type} {bs : Nat → List Nat → PR S} (h1 : ¬ c = 33) (h2 : ¬ c = 63) (h3 : ¬ c = 64) (h4 : ¬ c = 94) : pSt d bs p (c :: r) = (if 97 ≤ c ∧ c ≤ 102 then (pTok 61 (p + 1) r).bind fun z => (pEx d z.1 z.2).bind fun x => (pTok 59 x.2.1 x.2.2).bind fun y => some ((c - 97, x.1), y.1, y.2) else none).bind fun y => some ((.inl (p, .inl y.1) : SmT d ⊕ S), y.2.1, y.2.2) := by
  rw [pSt_c, if_neg (fun q => q.elim h2 h3), pSm, if_neg h1, if_neg h4]
  split
  · simp only [Option.bind_assoc, Option.bind_some]
  · rfl
theorem z_st {rec : RecT} {N : Nat} (hT : TXT top T) (hd : d ≤ 4) (hC : OKX T (f5_condition rec N (nI (4 - d)) top (t0, 1, nI T.length, rq)) (pCo d) (jCo d) 3) (hE : OKX T (f5_expression rec N (nI (4 - d)) top (t0, 1, nI T.length, rq)) (pEx d) (fun _ => jEx d) 1) (hR : HR2 T top (t0, 1, nI T.length, rq) rec d) : OKX T (f5_statement rec N (nI (4 - d)) top (t0, 1, nI T.length, rq)) (pSt d (pBSub d)) (jSt d (jBSub d)) 0 := by
  intro p cs L hp hcs hL
  have h60 := hT.1
  have hT' := hT
  obtain ⟨cs1, f1, g1⟩ := z_add hcs (by omega) 4 p 0 (x1 := 4) (x2 := nI p) (x3 := 0) rfl (fun _ => rfl) (fun _ => rfl)
  have hL1 : 4 * (L ++ [((4, p, 0, 0) : Pce)]).length ≤ 5 * p + 4 := by rw [List.length_append, List.length_singleton]; omega
  have hl1 : (L ++ [((4, p, 0, 0) : Pce)]).length = L.length + 1 := by rw [List.length_append, List.length_singleton]
  rcases h : T.drop p with _ | ⟨c, r⟩
  · have h1 := z_next0 (t0 := t0) (rq := rq) hT hp h
    have h2 := z_as0 (t0 := t0) (rq := rq) (rec := rec) (N := N) (v := nI (4 - d)) (cs := cs1) hT hp h
    obtain ⟨a1, a2, a3, a4, a5, a6, a7, a8⟩ := top
    obtain ⟨b1, b2, b3, b4, b5⟩ := cs
    obtain ⟨d1, d2, d3, d4, d5⟩ := cs1
    rw [f5_statement, f1, ob_s]
    dsimp only
    rw [h1, ob_s, if_neg (by decide), if_neg (by decide), if_neg (by decide), if_neg (by decide), h2, ob_s]
    exact RZ_err
  · have h1 := z_next1 (t0 := t0) (rq := rq) hT h
    have hc := z_lt hT h
    obtain ⟨hp1, _, hr⟩ := z_dc h
    have ne : ∀ b, b < 128 → c ≠ b → ¬ nI c = nI b := fun b hb q e => q ((nI_eq (by omega) (by omega)).mp e)
    by_cases c33 : c = 33
    · subst c33
      have hC1 := hC (p + 1) cs1 _ hp1 g1 (by omega)
      obtain ⟨a1, a2, a3, a4, a5, a6, a7, a8⟩ := top
      obtain ⟨b1, b2, b3, b4, b5⟩ := cs
      obtain ⟨d1, d2, d3, d4, d5⟩ := cs1
      rw [f5_statement, f1, ob_s]
      dsimp only
      rw [h1, ob_s, if_pos (show nI 33 = (33 : Int32) from rfl), pSt_c, if_neg (by decide), pSm, if_pos rfl, Option.bind_assoc, hr, nI_1]
      refine RZ_bind hC1 (fun x p' cs' q1 q2 q3 => ?_) (fun _ _ => rfl)
      rw [hl1] at q2 q3
      dsimp only
      rcases z_endP (t0 := t0) (rq := rq) hT' q1 q3 (by rw [List.length_append, hl1]; omega) 8 0 (by omega) (x1 := 8) (x2 := 0) rfl rfl with ⟨u1, u2⟩ | ⟨u1, u2, cs2, f2, g2⟩
      · obtain ⟨b1, b2, b3, b4, b5⟩ := cs'
        dsimp only
        rw [u2, u1]; exact RZ_err
      · rw [List.append_assoc (L ++ [_])] at g2
        obtain ⟨cs3, f3, g3⟩ := z_fin g2 (by rw [List.length_append, List.length_singleton]; omega)
        obtain ⟨b1, b2, b3, b4, b5⟩ := cs'
        obtain ⟨d1, d2, d3, d4, d5⟩ := cs2
        dsimp only
        rw [f2, u1, ob_s]
        dsimp only
        rw [f3]
        have e : jSt d (jBSub d) L.length (.inl (p, .inr (.inr x))) = (4, p, 0, L.length + 1 + (jCo d (L.length + 1) x ++ [(8, 0, 0, 0)]).length) :: (jCo d (L.length + 1) x ++ [(8, 0, 0, 0)]) := by
          rw [List.length_append, List.length_singleton, show L.length + 1 + ((jCo d (L.length + 1) x).length + 1) = L.length + (jCo d (L.length + 1) x).length + 2 by omega]; rfl
        refine ⟨rfl, u2, ?_, _, rfl, ?_⟩
        · dsimp only; rw [e, List.length_cons, List.length_append, List.length_singleton]; omega
        · dsimp only; rw [e]; exact g3
    · by_cases c63 : c = 63
      · subst c63
        rcases d with _ | d
        · obtain ⟨ra, cs', hb⟩ := z_if0 (t0 := t0) (rq := rq) hT hC hp1 g1 hL1
          obtain ⟨a1, a2, a3, a4, a5, a6, a7, a8⟩ := top
          obtain ⟨b1, b2, b3, b4, b5⟩ := cs
          obtain ⟨d1, d2, d3, d4, d5⟩ := cs1
          obtain ⟨e1, e2, e3, e4, e5⟩ := cs'
          rw [f5_statement, f1, ob_s]
          dsimp only
          rw [h1, ob_s, if_neg (by decide), if_pos (show nI 63 = (63 : Int32) from rfl), hb, ob_s]
          exact RZ_err
        · have hb := z_if (t0 := t0) (rq := rq) hT (show d < 4 by omega) hC hR hp1 g1 hL1
          obtain ⟨a1, a2, a3, a4, a5, a6, a7, a8⟩ := top
          obtain ⟨b1, b2, b3, b4, b5⟩ := cs
          obtain ⟨d1, d2, d3, d4, d5⟩ := cs1
          rw [f5_statement, f1, ob_s]
          dsimp only
          rw [h1, ob_s, if_neg (by decide), if_pos (show nI 63 = (63 : Int32) from rfl)]
          rw [pSt_if hr]
          refine z_wrap (g := fun y => (.inr (p, y.1, .inl (y.2.1, y.2.2)) : StT (d + 1))) (pc2 := jSt (d + 1) (jBSub (d + 1)) L.length) h60 hb hL (fun ra cs cs' hj => ?_) (fun ra cs' => ?_) (fun y => ?_)
          · obtain ⟨b1, b2, b3, b4, b5⟩ := cs
            try dsimp only
            rw [hj]; rfl
          · rfl
          · show jBSub (d + 1) L.length (p, y.1, .inl (y.2.1, y.2.2)) = _
            rw [jBSub, hl1, bIF]
            dsimp only
            simp only [List.cons_append, List.append_assoc, List.length_append, List.length_cons, List.length_nil, List.cons.injEq, Prod.mk.injEq, and_true, true_and]
            omega
      · by_cases c64 : c = 64
        · subst c64
          rcases d with _ | d
          · obtain ⟨ra, cs', hb⟩ := z_wh0 (t0 := t0) (rq := rq) hT hC hp1 g1 hL1
            obtain ⟨a1, a2, a3, a4, a5, a6, a7, a8⟩ := top
            obtain ⟨b1, b2, b3, b4, b5⟩ := cs
            obtain ⟨d1, d2, d3, d4, d5⟩ := cs1
            obtain ⟨e1, e2, e3, e4, e5⟩ := cs'
            rw [f5_statement, f1, ob_s]
            dsimp only
            rw [h1, ob_s, if_neg (by decide), if_neg (by decide), if_pos (show nI 64 = (64 : Int32) from rfl), hb, ob_s]
            exact RZ_err
          · have hb := z_wh (t0 := t0) (rq := rq) hT (show d < 4 by omega) hC hR hp1 g1 hL1
            obtain ⟨a1, a2, a3, a4, a5, a6, a7, a8⟩ := top
            obtain ⟨b1, b2, b3, b4, b5⟩ := cs
            obtain ⟨d1, d2, d3, d4, d5⟩ := cs1
            rw [f5_statement, f1, ob_s]
            dsimp only
            rw [h1, ob_s, if_neg (by decide), if_neg (by decide), if_pos (show nI 64 = (64 : Int32) from rfl)]
            rw [pSt_wh hr]
            refine z_wrap (g := fun y => (.inr (p, y.1, .inr y.2) : StT (d + 1))) (pc2 := jSt (d + 1) (jBSub (d + 1)) L.length) h60 hb hL (fun ra cs cs' hj => ?_) (fun ra cs' => ?_) (fun y => ?_)
            · obtain ⟨b1, b2, b3, b4, b5⟩ := cs
              try dsimp only
              rw [hj]; rfl
            · rfl
            · show jBSub (d + 1) L.length (p, y.1, .inr y.2) = _
              rw [jBSub, hl1, bwh]
              dsimp only
              simp only [List.cons_append, List.append_assoc, List.length_append, List.length_cons, List.length_nil, List.cons.injEq, Prod.mk.injEq, and_true, true_and]
              omega
        · by_cases c94 : c = 94
          · subst c94
            have hC1 := hE (p + 1) cs1 _ hp1 g1 (by omega)
            obtain ⟨a1, a2, a3, a4, a5, a6, a7, a8⟩ := top
            obtain ⟨b1, b2, b3, b4, b5⟩ := cs
            obtain ⟨d1, d2, d3, d4, d5⟩ := cs1
            rw [f5_statement, f1, ob_s]
            dsimp only
            rw [h1, ob_s, if_neg (by decide), if_neg (by decide), if_neg (by decide), if_pos (show nI 94 = (94 : Int32) from rfl), pSt_c, if_neg (by decide), pSm, if_neg (by decide), if_pos rfl, Option.bind_assoc, hr, nI_1]
            refine RZ_bind hC1 (fun x p' cs' q1 q2 q3 => ?_) (fun _ _ => rfl)
            dsimp only at q2 q3 ⊢
            rcases z_endP (t0 := t0) (rq := rq) hT' q1 q3 (by rw [List.length_append, hl1]; omega) 9 0 (by omega) (x1 := 9) (x2 := 0) rfl rfl with ⟨u1, u2⟩ | ⟨u1, u2, cs2, f2, g2⟩
            · obtain ⟨b1, b2, b3, b4, b5⟩ := cs'
              dsimp only
              rw [u2, u1]; exact RZ_err
            · rw [List.append_assoc (L ++ [_])] at g2
              obtain ⟨cs3, f3, g3⟩ := z_fin g2 (by rw [List.length_append, List.length_singleton]; omega)
              obtain ⟨b1, b2, b3, b4, b5⟩ := cs'
              obtain ⟨d1, d2, d3, d4, d5⟩ := cs2
              dsimp only
              rw [f2, u1, ob_s]
              dsimp only
              rw [f3]
              have e : jSt d (jBSub d) L.length (.inl (p, .inr (.inl x))) = (4, p, 0, L.length + 1 + (jEx d x ++ [(9, 0, 0, 0)]).length) :: (jEx d x ++ [(9, 0, 0, 0)]) := by
                rw [List.length_append, List.length_singleton, show L.length + 1 + ((jEx d x).length + 1) = L.length + (jEx d x).length + 2 by omega]; rfl
              refine ⟨rfl, u2, ?_, _, rfl, ?_⟩
              · dsimp only; rw [e, List.length_cons, List.length_append, List.length_singleton]; omega
              · dsimp only; rw [e]; exact g3
          · have hb := z_as (t0 := t0) (rq := rq) hT hE h g1 hL1
            have n1 := ne 33 (by omega) c33
            have n2 := ne 63 (by omega) c63
            have n3 := ne 64 (by omega) c64
            have n4 := ne 94 (by omega) c94
            obtain ⟨a1, a2, a3, a4, a5, a6, a7, a8⟩ := top
            obtain ⟨b1, b2, b3, b4, b5⟩ := cs
            obtain ⟨d1, d2, d3, d4, d5⟩ := cs1
            rw [f5_statement, f1, ob_s]
            dsimp only
            rw [h1, ob_s, if_neg (show ¬ nI c = (33 : Int32) from n1), if_neg (show ¬ nI c = (63 : Int32) from n2), if_neg (show ¬ nI c = (64 : Int32) from n3), if_neg (show ¬ nI c = (94 : Int32) from n4)]
            rw [pSt_as c33 c63 c64 c94]
            refine z_wrap (g := fun y => (.inl (p, .inl y) : StT d)) (pc2 := jSt d (jBSub d) L.length) h60 hb hL (fun ra cs cs' hj => ?_) (fun ra cs' => ?_) (fun y => ?_)
            · obtain ⟨b1, b2, b3, b4, b5⟩ := cs
              try dsimp only
              rw [hj]; rfl
            · rfl
            · show jSm d L.length (p, .inl y) = _
              rw [jSm]
              dsimp only
              simp only [List.cons_append, List.length_append, List.length_cons, List.length_nil, List.cons.injEq, Prod.mk.injEq, and_true, true_and]
              omega
end
