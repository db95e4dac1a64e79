/-! READING in the class: if and while -/
def bIF (d i : Nat) (q : CoT (d + 1) × List (StT d) × Option (List (StT d))) : List Pce :=
  let c := jCo (d + 1) i q.1
  let k := i + c.length
  let a := jRow (jSt d (jBSub d)) (k + 1) q.2.1
  let m := k + 1 + a.length
  let b := jRow (jSt d (jBSub d)) (m + 1) (q.2.2.getD [])
  c ++ (10, 0, 0, m + 1) :: a ++ (11, 0, if q.2.2.isSome then 1 else 0, m + 1 + b.length + 1) :: b ++ [(12, 0, 0, 0)]
def bwh (d i : Nat) (q : CoT (d + 1) × List (StT d)) : List Pce :=
  let c := jCo (d + 1) i q.1
  let k := i + c.length
  let a := jRow (jSt d (jBSub d)) (k + 1) q.2
  c ++ (13, 0, 0, k + 1 + a.length + 1) :: a ++ [(14, 0, 0, i)]
theorem z_if1 {cs : CoS} {L C A : List Pce} (e : Nat) {x : Int32} (h : CS cs (L ++ C ++ [(10, 0, 0, 0)] ++ A)) (hl : L.length + C.length + A.length < 78) :
    ∃ cs1, f0_add 11 x 0 cs = some (nI (L.length + C.length + 1 + A.length), cs1) ∧ ∃ cs2, f0_jumpHere (nI (L.length + C.length)) cs1 = some cs2 ∧ CS cs2 (L ++ C ++ (10, 0, 0, L.length + C.length + 1 + A.length + 1) :: A ++ [(11, 0, e, 0)]) := by
  have e1 : (L ++ C ++ [((10, 0, 0, 0) : Pce)] ++ A).length = L.length + C.length + 1 + A.length := by simp only [List.length_append, List.length_singleton]
  obtain ⟨cs1, f1, g1⟩ := z_add h (by omega) 11 0 e (x1 := 11) (x2 := x) (x3 := 0) rfl (fun q => by omega) (fun q => absurd rfl q)
  rw [e1] at f1
  refine ⟨cs1, f1, ?_⟩
  rw [List.append_assoc (L ++ C ++ [((10, 0, 0, 0) : Pce)])] at g1
  obtain ⟨cs2, f2, g2⟩ := z_fin (L := L ++ C) g1 (by simp only [List.length_append, List.length_singleton]; omega)
  simp only [List.length_append, List.length_singleton] at f2 g2
  refine ⟨cs2, f2, ?_⟩
  rw [show L.length + C.length + 1 + A.length + 1 = L.length + C.length + 1 + (A.length + 1) by omega]
  simp only [List.append_assoc, List.cons_append, List.nil_append] at g2 ⊢
  exact g2
theorem z_if2 {rec : RecT} {N : Nat} {a1 : Nat → Int32} {a2 a3 : Int32} {a4 a5 : Nat} {a6 a7 a8 : Int32} {r1 : Nat → Int32} {r2 : Nat} {r3 : Int32} {r4 : Nat} {cs : CoS} {L C A B : List Pce} {e : Nat} {ra : Int32} (h : CS cs (L ++ C ++ (10, 0, 0, L.length + C.length + 1 + A.length + 1) :: A ++ [(11, 0, e, 0)] ++ B)) (hl : L.length + C.length + A.length + B.length < 77) :
    ∃ cs', f5_branch_L72 N rec a1 a2 a3 a4 a5 a6 a7 a8 r1 r2 r3 r4 (nI (L.length + C.length + 1 + A.length)) ra cs = some (.ok (), ra, cs') ∧ CS cs' (L ++ (C ++ (10, 0, 0, L.length + C.length + 1 + A.length + 1) :: A ++ (11, 0, e, L.length + C.length + 1 + A.length + 1 + B.length + 1) :: B ++ [(12, 0, 0, 0)])) := by
  have e1 : (L ++ C ++ (10, 0, 0, L.length + C.length + 1 + A.length + 1) :: A ++ [((11, 0, e, 0) : Pce)] ++ B).length = L.length + C.length + 1 + A.length + 1 + B.length := by simp only [List.length_append, List.length_singleton, List.length_cons, List.length_nil]; omega
  obtain ⟨cs1, f1, g1⟩ := z_add h (by omega) 12 0 0 (x1 := 12) (x2 := ra) (x3 := 0) rfl (fun q => by omega) (fun _ => rfl)
  rw [List.append_assoc (L ++ C ++ (10, 0, 0, L.length + C.length + 1 + A.length + 1) :: A ++ [((11, 0, e, 0) : Pce)])] at g1
  obtain ⟨cs2, f2, g2⟩ := z_fin (L := L ++ C ++ (10, 0, 0, L.length + C.length + 1 + A.length + 1) :: A) g1 (by simp only [List.length_append, List.length_singleton, List.length_cons, List.length_nil]; omega)
  have e2 : (L ++ C ++ ((10, 0, 0, L.length + C.length + 1 + A.length + 1) : Pce) :: A).length = L.length + C.length + 1 + A.length := by simp only [List.length_append, List.length_cons, List.length_nil]; omega
  rw [e2] at f2 g2
  refine ⟨cs2, ?_, ?_⟩
  · obtain ⟨b1, b2, b3, b4, b5⟩ := cs
    obtain ⟨d1, d2, d3, d4, d5⟩ := cs1
    rw [f5_branch_L72, f1, ob_s]
    dsimp only
    rw [f2]; rfl
  · rw [List.length_append, List.length_singleton] at g2
    rw [show L.length + C.length + 1 + A.length + 1 + B.length + 1 = L.length + C.length + 1 + A.length + 1 + (B.length + 1) by omega]
    simp only [List.append_assoc, List.cons_append, List.nil_append] at g2 ⊢
    exact g2
section
variable {top : TopS} {T : List Nat} {t0 : Nat → Int32} {rq p c d : Nat} {r : List Nat}
theorem z_if {rec : RecT} {N : Nat} (hT : TXT top T) (hd : d < 4) (hC : OKX T (f5_condition rec N (nI (4 - (d + 1))) top (t0, 1, nI T.length, rq)) (pCo (d + 1)) (jCo (d + 1)) 3) (hR : HR2 T top (t0, 1, nI T.length, rq) rec (d + 1)) {cs : CoS} {L : List Pce} (hp : p + 1 ≤ T.length) (hcs : CS cs L) (hL : 4 * L.length ≤ 5 * p + 4) :
    RZ T (f5_branch rec N (nI (4 - (d + 1))) top (t0, 1, nI T.length, rq) (nI p) cs) ((pCo (d + 1) (p + 1) (T.drop (p + 1))).bind fun x => (pBlk (pSt d (pBSub d)) x.2.1 x.2.2).bind fun y => if y.2.2.head? = some 123 then (pBlk (pSt d (pBSub d)) y.2.1 y.2.2).bind fun z => some ((x.1, y.1, some z.1), z.2.1, z.2.2) else some ((x.1, y.1, none), y.2.1, y.2.2)) p L (bIF d L.length) 4 := by
  have h60 := hT.1
  have hB := z_bl hT hd hR
  have hT' := hT
  have h1 := hC (p + 1) cs L hp hcs (by omega)
  obtain ⟨a1, a2, a3, a4, a5, a6, a7, a8⟩ := top
  obtain ⟨b1, b2, b3, b4, b5⟩ := cs
  rw [f5_branch, nI_1]
  refine RZ_bind h1 (fun x p1 cs1 q1 q2 q3 => ?_) (fun _ _ => rfl)
  generalize hCC : jCo (d + 1) L.length x = C at q2 q3
  obtain ⟨cs2, f2, g2⟩ := z_add q3 (by rw [List.length_append]; omega) 10 0 0 (x1 := 10) (x2 := nI p1) (x3 := 0) rfl (fun q => by omega) (fun _ => rfl)
  have h2 := hB p1 cs2 _ q1 g2 (by simp only [List.length_append, List.length_singleton]; omega)
  rw [show (L ++ C ++ [((10, 0, 0, 0) : Pce)]).length = L.length + C.length + 1 by simp only [List.length_append, List.length_singleton]] at h2
  obtain ⟨b1, b2, b3, b4, b5⟩ := cs1
  obtain ⟨d1, d2, d3, d4, d5⟩ := cs2
  dsimp only
  rw [f2, ob_s]
  dsimp only
  refine RZ_bind h2 (fun y p2 cs3 q4 q5 q6 => ?_) (fun _ _ => rfl)
  generalize hAA : jRow (jSt d (jBSub d)) (L.length + C.length + 1) y = A at q5 q6
  rw [List.length_append] at f2
  by_cases w : (T.drop p2).head? = some 123
  · obtain ⟨c', r', hcr⟩ : ∃ c' r', T.drop p2 = c' :: r' := by
      rcases hh : T.drop p2 with _ | ⟨c', r'⟩
      · rw [hh] at w; cases w
      · exact ⟨_, _, rfl⟩
    have hc1 : c' = 123 := by rw [hcr] at w; exact Option.some.inj w
    have n1 := z_next1 (t0 := t0) (rq := rq) hT' hcr
    obtain ⟨cs4, f4, cs5, f5, g5⟩ := z_if1 1 (x := nI p2) q6 (by omega)
    have h3 := hB p2 cs5 _ q4 g5 (by simp only [List.length_append, List.length_singleton, List.length_cons, List.length_nil]; omega)
    rw [show (L ++ C ++ (10, 0, 0, L.length + C.length + 1 + A.length + 1) :: A ++ [((11, 0, 1, 0) : Pce)]).length = L.length + C.length + 1 + A.length + 1 by simp only [List.length_append, List.length_singleton, List.length_cons, List.length_nil]; omega] at h3
    obtain ⟨b1, b2, b3, b4, b5⟩ := cs3
    obtain ⟨d1, d2, d3, d4, d5⟩ := cs4
    obtain ⟨e1, e2, e3, e4, e5⟩ := cs5
    dsimp only
    rw [f4, ob_s]
    dsimp only
    rw [show (L ++ C).length = L.length + C.length from List.length_append, f5, ob_s]
    dsimp only
    rw [n1, ob_s, if_pos (by rw [hc1]; rfl), if_pos w]
    refine RZ_bind h3 (fun z p3 cs6 q7 q8 q9 => ?_) (fun _ _ => rfl)
    generalize hBB : jRow (jSt d (jBSub d)) (L.length + C.length + 1 + A.length + 1) z = B at q8 q9
    obtain ⟨cs7, f7, g7⟩ := z_if2 (rec := rec) (N := N) (a1 := a1) (a2 := a2) (a3 := a3) (a4 := a4) (a5 := a5) (a6 := a6) (a7 := a7) (a8 := a8) (r1 := t0) (r2 := 1) (r3 := nI T.length) (r4 := rq) (ra := nI p3) q9 (by omega)
    obtain ⟨b1, b2, b3, b4, b5⟩ := cs6
    dsimp only
    rw [f7]
    have hbif : bIF d L.length (x, y, some z) = C ++ (10, 0, 0, L.length + C.length + 1 + A.length + 1) :: A ++ (11, 0, 1, L.length + C.length + 1 + A.length + 1 + B.length + 1) :: B ++ [(12, 0, 0, 0)] := by
      rw [bIF]; dsimp only; rw [hCC, hAA, Option.getD_some, hBB]; rfl
    refine ⟨rfl, q7, ?_, _, rfl, ?_⟩
    · rw [hbif]; simp only [List.length_append, List.length_singleton, List.length_cons, List.length_nil]; omega
    · rw [hbif]; exact g7
  · have n1 : ∃ v, f5_next (a1, a2, a3, a4, a5, a6, a7, a8) (t0, 1, nI T.length, rq) (nI p2) = some v ∧ ¬ v = 123 := by
      rcases hh : T.drop p2 with _ | ⟨c', r'⟩
      · exact ⟨_, z_next0 hT' q4 hh, by decide⟩
      · refine ⟨_, z_next1 hT' hh, fun e => w ?_⟩
        have hc := z_lt hT' hh
        rw [hh, show c' = 123 from (nI_eq (b := 123) (by omega) (by omega)).mp e]; rfl
    obtain ⟨v, n1, n2⟩ := n1
    obtain ⟨cs4, f4, cs5, f5, g5⟩ := z_if1 0 (x := nI p2) q6 (by omega)
    obtain ⟨cs7, f7, g7⟩ := z_if2 (rec := rec) (N := N) (a1 := a1) (a2 := a2) (a3 := a3) (a4 := a4) (a5 := a5) (a6 := a6) (a7 := a7) (a8 := a8) (r1 := t0) (r2 := 1) (r3 := nI T.length) (r4 := rq) (ra := nI p2) (B := []) (by rw [List.append_nil]; exact g5) (by show _ + 0 < 77; omega)
    obtain ⟨b1, b2, b3, b4, b5⟩ := cs3
    obtain ⟨d1, d2, d3, d4, d5⟩ := cs4
    obtain ⟨e1, e2, e3, e4, e5⟩ := cs5
    dsimp only
    rw [f4, ob_s]
    dsimp only
    rw [show (L ++ C).length = L.length + C.length from List.length_append, f5, ob_s]
    dsimp only
    rw [n1, ob_s, if_neg n2, if_neg w, f7]
    have hbif : bIF d L.length (x, y, none) = C ++ (10, 0, 0, L.length + C.length + 1 + A.length + 1) :: A ++ (11, 0, 0, L.length + C.length + 1 + A.length + 1 + 0 + 1) :: [] ++ [(12, 0, 0, 0)] := by
      rw [bIF]; dsimp only; rw [hCC, hAA, Option.getD_none, jRow]; rfl
    refine ⟨rfl, q4, ?_, _, rfl, ?_⟩
    · rw [hbif]; simp only [List.length_append, List.length_singleton, List.length_cons, List.length_nil]; omega
    · rw [hbif]; exact g7
theorem z_wh {rec : RecT} {N : Nat} (hT : TXT top T) (hd : d < 4) (hC : OKX T (f5_condition rec N (nI (4 - (d + 1))) top (t0, 1, nI T.length, rq)) (pCo (d + 1)) (jCo (d + 1)) 3) (hR : HR2 T top (t0, 1, nI T.length, rq) rec (d + 1)) {cs : CoS} {L : List Pce} (hp : p + 1 ≤ T.length) (hcs : CS cs L) (hL : 4 * L.length ≤ 5 * p + 4) :
    RZ T (f5_loop rec N (nI (4 - (d + 1))) top (t0, 1, nI T.length, rq) (nI p) cs) ((pCo (d + 1) (p + 1) (T.drop (p + 1))).bind fun x => (pBlk (pSt d (pBSub d)) x.2.1 x.2.2).bind fun y => some ((x.1, y.1), y.2.1, y.2.2)) p L (bwh d L.length) 4 := by
  have h60 := hT.1
  have hB := z_bl hT hd hR
  have hT' := hT
  have h1 := hC (p + 1) cs L hp hcs (by omega)
  have hcz := hcs.1
  obtain ⟨a1, a2, a3, a4, a5, a6, a7, a8⟩ := top
  obtain ⟨b1, b2, b3, b4, b5⟩ := cs
  rw [f5_loop, nI_1]
  dsimp only at hcz
  subst hcz
  refine RZ_bind h1 (fun x p1 cs1 q1 q2 q3 => ?_) (fun _ _ => rfl)
  generalize hCC : jCo (d + 1) L.length x = C at q2 q3
  obtain ⟨cs2, f2, g2⟩ := z_add q3 (by rw [List.length_append]; omega) 13 0 0 (x1 := 13) (x2 := nI p1) (x3 := 0) rfl (fun q => by omega) (fun _ => rfl)
  have h2 := hB p1 cs2 _ q1 g2 (by simp only [List.length_append, List.length_singleton]; omega)
  rw [show (L ++ C ++ [((13, 0, 0, 0) : Pce)]).length = L.length + C.length + 1 by simp only [List.length_append, List.length_singleton]] at h2
  obtain ⟨b1, b2, b3, b4, b5⟩ := cs1
  obtain ⟨d1, d2, d3, d4, d5⟩ := cs2
  dsimp only
  rw [f2, ob_s]
  dsimp only
  refine RZ_bind h2 (fun y p2 cs3 q4 q5 q6 => ?_) (fun _ _ => rfl)
  generalize hAA : jRow (jSt d (jBSub d)) (L.length + C.length + 1) y = A at q5 q6
  have e1 : (L ++ C ++ [((13, 0, 0, 0) : Pce)] ++ A).length = L.length + C.length + 1 + A.length := by simp only [List.length_append, List.length_singleton]
  obtain ⟨cs4, f4, g4⟩ := z_add q6 (by omega) 14 0 0 (x1 := 14) (x2 := nI p2) (x3 := 0) rfl (fun q => by omega) (fun _ => rfl)
  rw [e1] at f4
  obtain ⟨b1, b2, b3, b4, b5⟩ := cs3
  obtain ⟨d1, d2, d3, d4, d5⟩ := cs4
  have g5 := z_setj L.length g4
  rw [e1, List.append_assoc (L ++ C ++ [((13, 0, 0, 0) : Pce)])] at g5
  obtain ⟨cs6, f6, g6⟩ := z_fin (L := L ++ C) g5 (by simp only [List.length_append, List.length_singleton]; omega)
  dsimp only
  rw [f4, ob_s]
  dsimp only
  rw [if_neg (z_gd (by omega) (by omega)), z_nat (by omega), f6, ob_s]
  have hb : bwh d L.length (x, y) = C ++ (13, 0, 0, L.length + C.length + 1 + A.length + 1) :: A ++ [(14, 0, 0, L.length)] := by
    rw [bwh]; dsimp only; rw [hCC, hAA]
  refine ⟨rfl, q4, ?_, _, rfl, ?_⟩
  · rw [hb]; simp only [List.length_append, List.length_singleton, List.length_cons, List.length_nil]; omega
  · rw [hb]
    simp only [List.length_append, List.length_singleton] at g6
    rw [show L.length + C.length + 1 + A.length + 1 = L.length + C.length + 1 + (A.length + 1) by omega]
    simp only [List.append_assoc, List.cons_append, List.nil_append] at g6 ⊢
    exact g6
end
