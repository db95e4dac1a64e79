/-! READING in the class: statements, and the whole -/
theorem z_wrap {α β : Type} {T : List Nat} {o : Option (Except String Unit × Int32 × CoS)} {r : PR α} {p : Nat} {L : List Pce} {pc : α → List Pce} {k : Except String Unit × Int32 × CoS → Option (Except String Unit × Int32 × CoS)} {g : α → β} {pc2 : β → List Pce} (hT : T.length ≤ 60) (h : RZ T o r p (L ++ [(4, p, 0, 0)]) pc 4) (hL : 4 * L.length ≤ 5 * p)
    (hk : ∀ ra cs cs', f0_jumpHere (nI L.length) cs = some cs' → k (.ok (), ra, cs) = some (.ok (), ra, cs')) (he : ∀ ra cs', k (.error IAE, ra, cs') = some (.error IAE, ra, cs')) (hg : ∀ y, pc2 (g y) = (4, p, 0, L.length + 1 + (pc y).length) :: pc y) :
    RZ T (o.bind k) (r.bind fun y => some (g y.1, y.2.1, y.2.2)) p L pc2 0 := by
  refine RZ_bind h (fun x p' cs' q1 q2 q3 => ?_) he
  obtain ⟨cs2, f2, g2⟩ := z_fin q3 (by omega)
  refine ⟨rfl, q1, ?_, cs2, hk _ _ _ f2, ?_⟩
  · dsimp only; rw [hg, List.length_cons]; omega
  · dsimp only; rw [hg]; exact g2
section
variable {top : TopS} {T : List Nat} {t0 : Nat → Int32} {rq p c d : Nat} {r : List Nat}
theorem bind_none {α β : Type} {o : Option α} : (o.bind fun _ => (none : Option β)) = none := by cases o <;> rfl
theorem z_if0 {rec : RecT} {N : Nat} (hT : TXT top T) (hC : OKX T (f5_condition rec N (nI (4 - 0)) top (t0, 1, nI T.length, rq)) (pCo 0) (jCo 0) 3) {cs : CoS} {L : List Pce} (hp : p + 1 ≤ T.length) (hcs : CS cs L) (hL : 4 * L.length ≤ 5 * p + 4) :
    ∃ ra cs', f5_branch rec N (nI (4 - 0)) top (t0, 1, nI T.length, rq) (nI p) cs = some (.error IAE, ra, cs') := by
  have h60 := hT.1
  have h1 := hC (p + 1) cs L hp hcs (by omega)
  have hb := @z_bl0 top T t0 rq rec
  have : RZ T (f5_branch rec N (nI (4 - 0)) top (t0, 1, nI T.length, rq) (nI p) cs) ((pCo 0 (p + 1) (T.drop (p + 1))).bind fun _ => (none : PR Unit)) p L (fun _ => []) 0 := by
    obtain ⟨a1, a2, a3, a4, a5, a6, a7, a8⟩ := top
    obtain ⟨b1, b2, b3, b4, b5⟩ := cs
    rw [f5_branch, nI_1]
    refine RZ_bind h1 (fun x p1 cs1 q1 q2 q3 => ?_) (fun _ _ => rfl)
    obtain ⟨cs2, f2, g2⟩ := z_add q3 (by rw [List.length_append]; omega) 10 0 0 (x1 := 10) (x2 := nI p1) (x3 := 0) rfl (fun q => by omega) (fun _ => rfl)
    obtain ⟨b1, b2, b3, b4, b5⟩ := cs1
    obtain ⟨d1, d2, d3, d4, d5⟩ := cs2
    dsimp only
    rw [f2, ob_s]
    dsimp only
    rw [hb]
    exact RZ_err
  rw [bind_none] at this
  exact this
theorem z_wh0 {rec : RecT} {N : Nat} (hT : TXT top T) (hC : OKX T (f5_condition rec N (nI (4 - 0)) top (t0, 1, nI T.length, rq)) (pCo 0) (jCo 0) 3) {cs : CoS} {L : List Pce} (hp : p + 1 ≤ T.length) (hcs : CS cs L) (hL : 4 * L.length ≤ 5 * p + 4) :
    ∃ ra cs', f5_loop rec N (nI (4 - 0)) top (t0, 1, nI T.length, rq) (nI p) cs = some (.error IAE, ra, cs') := by
  have h60 := hT.1
  have h1 := hC (p + 1) cs L hp hcs (by omega)
  have hb := @z_bl0 top T t0 rq rec
  have : RZ T (f5_loop rec N (nI (4 - 0)) top (t0, 1, nI T.length, rq) (nI p) cs) ((pCo 0 (p + 1) (T.drop (p + 1))).bind fun _ => (none : PR Unit)) p L (fun _ => []) 0 := by
    obtain ⟨a1, a2, a3, a4, a5, a6, a7, a8⟩ := top
    obtain ⟨b1, b2, b3, b4, b5⟩ := cs
    rw [f5_loop, nI_1]
    refine RZ_bind h1 (fun x p1 cs1 q1 q2 q3 => ?_) (fun _ _ => rfl)
    obtain ⟨cs2, f2, g2⟩ := z_add q3 (by rw [List.length_append]; omega) 13 0 0 (x1 := 13) (x2 := nI p1) (x3 := 0) rfl (fun q => by omega) (fun _ => rfl)
    obtain ⟨b1, b2, b3, b4, b5⟩ := cs1
    obtain ⟨d1, d2, d3, d4, d5⟩ := cs2
    dsimp only
    rw [f2, ob_s]
    dsimp only
    rw [hb]
    exact RZ_err
  rw [bind_none] at this
  exact this
theorem z_as0 {rec : RecT} {N : Nat} {v : Int32} {cs : CoS} (hT : TXT top T) (hp : p ≤ T.length) (h : T.drop p = []) : f5_assignment rec N v top (t0, 1, nI T.length, rq) (nI p) cs = some (.error IAE, nI p, cs) := by
  have h1 := z_slot0 (t0 := t0) (rq := rq) hT hp h
  obtain ⟨a1, a2, a3, a4, a5, a6, a7, a8⟩ := top
  obtain ⟨b1, b2, b3, b4, b5⟩ := cs
  rw [f5_assignment, h1]
  rfl
theorem z_as {rec : RecT} {N : Nat} (hT : TXT top T) (hE : OKX T (f5_expression rec N (nI (4 - d)) top (t0, 1, nI T.length, rq)) (pEx d) (fun _ => jEx d) 1) (h : T.drop p = c :: r) {cs : CoS} {L : List Pce} (hcs : CS cs L) (hL : 4 * L.length ≤ 5 * p + 4) :
    RZ T (f5_assignment rec N (nI (4 - d)) top (t0, 1, nI T.length, rq) (nI p) cs) (if 97 ≤ c ∧ c ≤ 102 then (pTok 61 (p + 1) r).bind fun z => (pEx d z.1 z.2).bind fun x => (pTok 59 x.2.1 x.2.2).bind fun y => some ((c - 97, x.1), y.1, y.2) else none) p L (fun q => jEx d q.2 ++ [(7, 0, q.1, 0)]) 4 := by
  have h60 := hT.1
  have hT' := hT
  obtain ⟨hp1, _, hr⟩ := z_dc h
  have hc := z_lt hT h
  rcases z_slot1 (t0 := t0) (rq := rq) hT h with ⟨s1, s2⟩ | ⟨k, s1, s2⟩
  · have : ¬ (97 ≤ c ∧ c ≤ 102) := fun q => by unfold slotOf at s1; rw [if_pos q] at s1; cases s1
    obtain ⟨a1, a2, a3, a4, a5, a6, a7, a8⟩ := top
    obtain ⟨b1, b2, b3, b4, b5⟩ := cs
    rw [if_neg this, f5_assignment, s2]
    exact RZ_err
  · have hk := z_slt s1
    by_cases w : 97 ≤ c ∧ c ≤ 102
    · have hk6 := hk.2.2 w
      have hkc := (hk.2.1 hk6).2.2
      have e6 : nI k < (6 : Int32) := (nI_ltI (b := 6) (by omega) (by omega)).mpr hk6
      have tk := z_take (t0 := t0) (rq := rq) hT (p := p + 1) (by omega) 61 61 rfl (by omega)
      rw [← hr] at tk
      have hE2 := hE (p + 1 + 1) cs L
      rw [if_pos w]
      obtain ⟨a1, a2, a3, a4, a5, a6, a7, a8⟩ := top
      obtain ⟨b1, b2, b3, b4, b5⟩ := cs
      rw [f5_assignment, s2, ob_s]
      dsimp only
      rw [if_pos e6, f5_assignment_L15]
      rcases tk with ⟨t1, t2⟩ | ⟨t1, t2, t3⟩
      · rw [t2, t1]; exact RZ_err
      · rw [t3, t1, ob_s, ob_s]
        try dsimp only
        refine RZ_bind (hE2 t2 hcs (by omega)) (fun x p' cs' q1 q2 q3 => ?_) (fun _ _ => rfl)
        dsimp only at q2 q3 ⊢
        rcases z_endP (t0 := t0) (rq := rq) hT' q1 q3 (by rw [List.length_append]; omega) 7 k (by omega) (x1 := 7) (x2 := nI k) rfl rfl with ⟨u1, u2⟩ | ⟨u1, u2, cs2, f2, g2⟩
        · obtain ⟨b1, b2, b3, b4, b5⟩ := cs'
          dsimp only
          rw [u2, u1]; exact RZ_err
        · obtain ⟨b1, b2, b3, b4, b5⟩ := cs'
          dsimp only
          rw [f2, u1]
          refine ⟨rfl, u2, ?_, _, rfl, ?_⟩
          · dsimp only; rw [List.length_append, List.length_singleton]; omega
          · dsimp only; rw [← hkc, ← List.append_assoc]; exact g2
    · have hk6 : ¬ k < 6 := fun q => w ⟨(hk.2.1 q).1, (hk.2.1 q).2.1⟩
      have e6 : ¬ nI k < (6 : Int32) := fun q => hk6 ((nI_ltI (b := 6) (by omega) (by omega)).mp q)
      obtain ⟨a1, a2, a3, a4, a5, a6, a7, a8⟩ := top
      obtain ⟨b1, b2, b3, b4, b5⟩ := cs
      rw [if_neg w, f5_assignment, s2, ob_s]
      dsimp only
      rw [if_neg e6]
      exact RZ_err
end
