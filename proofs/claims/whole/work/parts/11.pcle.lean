/-! READING in the class: rows -/
section
variable {top : TopS} {T : List Nat} {t0 : Nat → Int32} {rq p c d : Nat} {r : List Nat}
theorem z_roL {rec : RecT} {N : Nat} {α : Type} {item : Nat → List Nat → PR α} {f : Nat → α → List Pce} (hT : TXT top T) (hF : OKX T (f5_statement rec N (nI (4 - d)) top (t0, 1, nI T.length, rq)) item f 0) {k : Int32 → CoS → Option (Except String Unit × Int32 × CoS)} (hk : ∀ ra cs, k ra cs = some (.ok (), ra, cs)) :
    ∀ n i p cs L, i ≤ 60 → 60 < n + i → p ≤ T.length → CS cs L → 4 * L.length ≤ 5 * p → RZ T (f5_row_L2 k N rec top.1 top.2.1 top.2.2.1 top.2.2.2.1 top.2.2.2.2.1 top.2.2.2.2.2.1 top.2.2.2.2.2.2.1 top.2.2.2.2.2.2.2 t0 1 (nI T.length) rq n (nI (4 - d)) (nI i) (nI p) cs) (pRow item (60 - i) p (T.drop p)) p L (jRow f L.length) 0 := by
  obtain ⟨a1, a2, a3, a4, a5, a6, a7, a8⟩ := top
  intro n
  have h60 := hT.1
  induction n with
  | zero => intro i p cs L h1 h2; omega
  | succ n ih =>
    intro i p cs L hi hn hp hcs hL
    have hF' := hF p cs L hp hcs hL
    obtain ⟨b1, b2, b3, b4, b5⟩ := cs
    rw [f5_row_L2]
    dsimp only
    by_cases hi6 : i = 60
    · subst hi6
      rw [if_pos (by decide), hk, Nat.sub_self, pRow]
      exact ⟨rfl, hp, by show 4 * 0 + 0 + 5 * p ≤ 5 * p; omega, _, rfl, by rw [jRow, List.append_nil]; exact hcs⟩
    · have hlt : ¬ (60 : Int32) ≤ nI i := fun q => absurd ((nI_leI (a := 60) (b := i) (by omega) (by omega)).mp q) (by omega)
      rw [if_neg hlt, show 60 - i = (60 - (i + 1)) + 1 by omega]
      rcases h : T.drop p with _ | ⟨c, r⟩
      · rw [if_pos ((nI_leI (by omega) (by omega)).mpr (List.drop_eq_nil_iff.mp h)), hk, pRow]
        exact ⟨h.symm, hp, by show 4 * 0 + 0 + 5 * p ≤ 5 * p; omega, _, rfl, by rw [jRow, List.append_nil]; exact hcs⟩
      · have hc := z_lt hT h
        obtain ⟨hp1, _, hr⟩ := z_dc h
        rw [if_neg (fun q => absurd ((nI_leI (by omega) (by omega)).mp q) (by omega)), z_next1 hT h, ob_s, pRow]
        by_cases q : c = 125
        · rw [if_pos (by rw [q]; rfl), if_pos q, hk]
          exact ⟨h.symm, hp, by show 4 * 0 + 0 + 5 * p ≤ 5 * p; omega, _, rfl, by rw [jRow, List.append_nil]; exact hcs⟩
        · rw [if_neg (show ¬ nI c = (125 : Int32) from fun e => q ((nI_eq (b := 125) (by omega) (by omega)).mp e)), if_neg q, ← h]
          refine RZ_bind hF' (fun x p' cs' q1 q2 q3 => ?_) (fun _ _ => rfl)
          obtain ⟨b1, b2, b3, b4, b5⟩ := cs'
          dsimp only [nm_v]
          rw [nI_1]
          refine RZ_map (g := fun y => x :: y) (ih (i + 1) p' _ _ (by omega) (by omega) q1 q3 (by rw [List.length_append]; omega)) (fun y => ?_) (fun y p'' e => ?_)
          · rw [jRow, List.append_assoc, List.length_append]
          · rw [List.length_append] at e; rw [jRow, List.length_append]; omega
theorem z_ro {rec : RecT} {N : Nat} {α : Type} {item : Nat → List Nat → PR α} {f : Nat → α → List Pce} (hT : TXT top T) (hN : 60 < N) (hF : OKX T (f5_statement rec N (nI (4 - d)) top (t0, 1, nI T.length, rq)) item f 0) : OKX T (f5_row rec N (nI (4 - d)) top (t0, 1, nI T.length, rq)) (pRow item 60) (jRow f) 0 := by
  intro p cs L hp hcs hL
  have hL7 := z_roL (rec := rec) (N := N) hT hF (k := fun ra cs => some (.ok (), ra, cs)) (fun _ _ => rfl) N 0
  obtain ⟨a1, a2, a3, a4, a5, a6, a7, a8⟩ := top
  obtain ⟨b1, b2, b3, b4, b5⟩ := cs
  rw [f5_row]
  exact hL7 p _ _ (by omega) (by omega) hp hcs hL
def HR2 (T : List Nat) (top : TopS) (rd : RdS) (rec : RecT) : Nat → Prop
  | 0 => True
  | d + 1 => OKX T (rec 2 (nI (4 - d)) top rd) (pRo d) (jRo d) 0
theorem z_bl0 {rec : RecT} {ra : Int32} {cs : CoS} : f5_block rec (nI (4 - 0)) top (t0, 1, nI T.length, rq) ra cs = some (.error IAE, ra, cs) := by
  have ho := z_open0 (top := top) (x := 123) (ra := ra) (rd := (t0, 1, nI T.length, rq))
  obtain ⟨a1, a2, a3, a4, a5, a6, a7, a8⟩ := top
  obtain ⟨b1, b2, b3, b4, b5⟩ := cs
  rw [f5_block, ho]
  rfl
theorem z_bl {rec : RecT} (hT : TXT top T) (hd : d < 4) (hR : HR2 T top (t0, 1, nI T.length, rq) rec (d + 1)) : OKX T (f5_block rec (nI (4 - (d + 1))) top (t0, 1, nI T.length, rq)) (pBlk (pSt d (pBSub d))) (jRow (jSt d (jBSub d))) 10 := by
  intro p cs L hp hcs hL
  have h60 := hT.1
  rw [pBlk]
  have hR1 := hR (p + 1) cs L
  rcases z_open1 (t0 := t0) (rq := rq) hT hp 123 123 rfl (by omega) hd with ⟨o1, o2⟩ | ⟨o1, o2, o3⟩
  · obtain ⟨a1, a2, a3, a4, a5, a6, a7, a8⟩ := top
    obtain ⟨b1, b2, b3, b4, b5⟩ := cs
    rw [o1, f5_block, o2]
    exact RZ_err
  · have hR' := hR1 o2 hcs (by omega)
    have hT' := hT
    obtain ⟨a1, a2, a3, a4, a5, a6, a7, a8⟩ := top
    obtain ⟨b1, b2, b3, b4, b5⟩ := cs
    rw [o1, f5_block, o3, ob_s, ob_s]
    try dsimp only
    refine RZ_bind hR' (fun x p' cs' q1 q2 q3 => ?_) (fun _ _ => rfl)
    obtain ⟨b1, b2, b3, b4, b5⟩ := cs'
    dsimp only
    rcases z_take (t0 := t0) (rq := rq) hT' q1 125 125 rfl (by omega) with ⟨t1, t2⟩ | ⟨t1, t2, t3⟩
    · rw [t1, t2]; exact RZ_err
    · rw [t1, t3]
      exact ⟨rfl, t2, by show 4 * (jRow (jSt d (jBSub d)) L.length x).length + 10 + 5 * p ≤ 5 * (p' + 1); have : 4 * (jRow (jSt d (jBSub d)) L.length x).length + 0 + 5 * (p + 1) ≤ 5 * p' := q2; omega, _, rfl, q3⟩
theorem z_endP (hT : TXT top T) (hp : p ≤ T.length) {cs : CoS} {L : List Pce} (hcs : CS cs L) (hL : L.length < 80) (w n : Nat) (hw : 6 < w ∧ w < 10) {x1 x2 : Int32} (h1 : x1 = nI w) (h2 : x2 = nI n) :
    (pTok 59 p (T.drop p) = none ∧ f5_endPlain x1 x2 top (t0, 1, nI T.length, rq) (nI p) cs = some (.error IAE, nI p, cs)) ∨
    (pTok 59 p (T.drop p) = some (p + 1, T.drop (p + 1)) ∧ p + 1 ≤ T.length ∧ ∃ cs', f5_endPlain x1 x2 top (t0, 1, nI T.length, rq) (nI p) cs = some (.ok (), nI (p + 1), cs') ∧ CS cs' (L ++ [(w, 0, n, 0)])) := by
  obtain ⟨cs', f1, g1⟩ := z_add hcs hL w 0 n (x1 := x1) (x2 := nI (p + 1)) (x3 := x2) h1 (fun q => by omega) (fun _ => h2)
  rcases z_take (t0 := t0) (rq := rq) hT hp 59 59 rfl (by omega) with ⟨t1, t2⟩ | ⟨t1, t2, t3⟩
  · refine .inl ⟨t1, ?_⟩
    obtain ⟨a1, a2, a3, a4, a5, a6, a7, a8⟩ := top
    obtain ⟨b1, b2, b3, b4, b5⟩ := cs
    rw [f5_endPlain, t2]; rfl
  · refine .inr ⟨t1, t2, cs', ?_, g1⟩
    obtain ⟨a1, a2, a3, a4, a5, a6, a7, a8⟩ := top
    obtain ⟨b1, b2, b3, b4, b5⟩ := cs
    rw [f5_endPlain, t3, ob_s]
    dsimp only
    rw [f1]; rfl
theorem z_fin {cs : CoS} {L B : List Pce} {w s n : Nat} (h : CS cs (L ++ [(w, s, n, 0)] ++ B)) (hl : L.length + B.length < 80) : ∃ cs', f0_jumpHere (nI L.length) cs = some cs' ∧ CS cs' (L ++ (w, s, n, L.length + 1 + B.length) :: B) := by
  have e : (L ++ [(w, s, n, 0)] ++ B).length = L.length + 1 + B.length := by rw [List.length_append, List.length_append]; rfl
  obtain ⟨cs', f1, g1⟩ := z_jump h (by omega) (A := L) (B := B) (w := w) (s := s) (n := n) (t := 0) (by rw [List.append_assoc]; rfl) rfl
  rw [e] at g1
  exact ⟨cs', f1, g1⟩
end
