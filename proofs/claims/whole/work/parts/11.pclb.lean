/-! READING in the class: expressions -/
def HR0 (T : List Nat) (top : TopS) (rd : RdS) (rec : RecT) : Nat → Prop
  | 0 => True
  | d + 1 => OKX T (rec 0 (nI (4 - d)) top rd) (pEx d) (fun _ => jEx d) 1
theorem ob_s {α β : Type} {a : α} {k : α → Option β} : (some a).bind k = k a := rfl
section
variable {top : TopS} {T : List Nat} {t0 : Nat → Int32} {rq p c d : Nat} {r : List Nat}
theorem z_dig0 (hT : TXT top T) (hp : p ≤ T.length) (h : T.drop p = []) : f5_nextIsDigit top (t0, 1, nI T.length, rq) (nI p) = some 0 := by
  have := z_next0 (t0 := t0) (rq := rq) hT hp h
  obtain ⟨a1, a2, a3, a4, a5, a6, a7, a8⟩ := top
  rw [f5_nextIsDigit, this]
  rfl
theorem z_dig1 (hT : TXT top T) (h : T.drop p = c :: r) : f5_nextIsDigit top (t0, 1, nI T.length, rq) (nI p) = some (if isDig c then 1 else 0) := by
  have h1 := z_next1 (t0 := t0) (rq := rq) hT h
  have hc := z_lt hT h
  obtain ⟨a1, a2, a3, a4, a5, a6, a7, a8⟩ := top
  rw [f5_nextIsDigit, h1]
  dsimp only [Option.bind]
  have e1 : nI c < (48 : Int32) ↔ c < 48 := nI_ltI (b := 48) (by omega) (by omega)
  have e2 : (57 : Int32) < nI c ↔ 57 < c := nI_ltI (a := 57) (by omega) (by omega)
  unfold isDig
  by_cases q1 : c < 48
  · rw [if_pos (e1.mpr q1), decide_eq_false (by omega)]; rfl
  · rw [if_neg (fun q => q1 (e1.mp q)), decide_eq_true (by omega)]
    by_cases q2 : 57 < c
    · rw [if_pos (e2.mpr q2), decide_eq_false (by omega)]; rfl
    · rw [if_neg (fun q => q2 (e2.mp q)), decide_eq_true (by omega)]; rfl
theorem z_con (hT : TXT top T) (h : T.drop p = c :: r) (hd : isDig c = true) {cs : CoS} {L : List Pce} (hcs : CS cs L) (hL : 4 * L.length ≤ 5 * p) :
    ∃ v p', pLeaf p (c :: r) = some (.inl (p, v), p', T.drop p') ∧ p < p' ∧ p' ≤ T.length ∧ ∃ cs', f5_constant top (t0, 1, nI T.length, rq) (nI p) cs = some (nI p', cs') ∧ CS cs' (L ++ [(3, p, v, 0)]) := by
  have h1 := z_next1 (t0 := t0) (rq := rq) hT h
  have hc := z_lt hT h
  obtain ⟨hp, hpc, hr⟩ := z_dc h
  have h60 := hT.1
  have hdd : 48 ≤ c ∧ c ≤ 57 := by
    unfold isDig at hd; simp only [Bool.and_eq_true, decide_eq_true_eq] at hd; exact hd
  have hz0 := @z_dig0 top T t0 rq (p + 1) hT (by omega)
  have e48 : nI c - (48 : Int32) = nI (c - 48) := pk_sub (a := c) (b := 48) hdd.1
  obtain ⟨cs1, f1, g1⟩ := z_add hcs (by omega) 3 p (c - 48) (x1 := 3) (x2 := nI p) (x3 := nI (c - 48)) rfl (fun _ => rfl) (fun _ => rfl)
  have K1 : ∀ a1 a2 a3 a4 a5 a6 a7 a8, f5_constant_L57 a1 a2 a3 a4 a5 a6 a7 a8 t0 1 (nI T.length) rq (nI p) (nI (c - 48)) (nI (p + 1)) cs = some (nI (p + 1), cs1) := by
    intro a1 a2 a3 a4 a5 a6 a7 a8
    obtain ⟨b1, b2, b3, b4, b5⟩ := cs
    rw [f5_constant_L57, f1]; rfl
  rw [pLeaf.eq_def]
  dsimp only
  rw [if_pos hd]
  rcases r with _ | ⟨b, r'⟩
  · refine ⟨c - 48, p + 1, by rw [← hr], by omega, by omega, cs1, ?_, g1⟩
    have z0 := hz0 hr.symm
    obtain ⟨a1, a2, a3, a4, a5, a6, a7, a8⟩ := top
    obtain ⟨b1, b2, b3, b4, b5⟩ := cs
    rw [f5_constant, h1]
    dsimp only [Option.bind, nm_v]
    rw [e48, nI_1, z0]
    try dsimp only
    rw [if_pos rfl, K1]
    exact ite_self _
  · have z1 := z_dig1 (t0 := t0) (rq := rq) hT hr.symm
    have n1 := z_next1 (t0 := t0) (rq := rq) hT hr.symm
    have hb := z_lt hT hr.symm
    obtain ⟨hp2, _, hr2⟩ := z_dc hr.symm
    have e0 : nI (c - 48) = 0 ↔ c = 48 := (nI_eq (b := 0) (by omega) (by omega)).trans (by omega)
    by_cases q : c ≠ 48 ∧ isDig b = true
    · have hbb : 48 ≤ b ∧ b ≤ 57 := by
        have := q.2
        unfold isDig at this; simp only [Bool.and_eq_true, decide_eq_true_eq] at this; exact this
      obtain ⟨cs2, f2, g2⟩ := z_add hcs (by omega) 3 p ((c - 48) * 10 + (b - 48)) (x1 := 3) (x2 := nI p) (x3 := nI ((c - 48) * 10 + (b - 48))) rfl (fun _ => rfl) (fun _ => rfl)
      have e10 : nI (c - 48) * (10 : Int32) + nI b - (48 : Int32) = nI ((c - 48) * 10 + (b - 48)) := by
        have : nI (c - 48) * (10 : Int32) = nI ((c - 48) * 10) := pk_mul _ 10
        rw [this, nI_add]
        exact (pk_sub (b := 48) (by omega)).trans (by congr 1; omega)
      dsimp only
      rw [if_pos q]
      refine ⟨(c - 48) * 10 + (b - 48), p + 2, by rw [hr2], by omega, by omega, cs2, ?_, g2⟩
      obtain ⟨a1, a2, a3, a4, a5, a6, a7, a8⟩ := top
      obtain ⟨b1, b2, b3, b4, b5⟩ := cs
      rw [f5_constant, h1]
      dsimp only [Option.bind, nm_v]
      rw [e48, nI_1, if_neg (fun h => q.1 (e0.mp h)), z1, q.2]
      try dsimp only
      rw [if_pos rfl, if_neg (by decide), n1]
      try dsimp only
      rw [e10, nI_1, f5_constant_L57, f2]; rfl
    · dsimp only
      rw [if_neg q]
      refine ⟨c - 48, p + 1, by rw [← hr], by omega, by omega, cs1, ?_, g1⟩
      obtain ⟨a1, a2, a3, a4, a5, a6, a7, a8⟩ := top
      obtain ⟨b1, b2, b3, b4, b5⟩ := cs
      rw [f5_constant, h1]
      dsimp only [Option.bind, nm_v]
      rw [e48, nI_1, z1]
      try dsimp only
      by_cases q1 : c = 48
      · rw [if_pos (e0.mpr q1), K1]
      · have q2 : isDig b = false := by
          cases hq : isDig b
          · rfl
          · exact absurd ⟨q1, hq⟩ q
        rw [if_neg (fun h => q1 (e0.mp h)), q2]
        try dsimp only
        rw [if_pos (show (if false = true then (1 : Int32) else 0) = 0 by decide), K1]
theorem z_slot0 (hT : TXT top T) (hp : p ≤ T.length) (h : T.drop p = []) : f5_slot top (t0, 1, nI T.length, rq) (nI p) = some (.error IAE, nI p) := by
  have h1 := z_is0 (t0 := t0) (rq := rq) 5 hT hp h
  obtain ⟨a1, a2, a3, a4, a5, a6, a7, a8⟩ := top
  rw [f5_slot, h1]
  rfl
theorem z_slot1 (hT : TXT top T) (h : T.drop p = c :: r) : (slotOf c = none ∧ f5_slot top (t0, 1, nI T.length, rq) (nI p) = some (.error IAE, nI p)) ∨ ∃ k, slotOf c = some k ∧ f5_slot top (t0, 1, nI T.length, rq) (nI p) = some (.ok (nI k), nI (p + 1)) := by
  have h1 := z_is1 (t0 := t0) (rq := rq) 5 hT h
  have h2 := z_next1 (t0 := t0) (rq := rq) hT h
  have hc := z_lt hT h
  have h5 := z_c5 c hc
  obtain ⟨a1, a2, a3, a4, a5, a6, a7, a8⟩ := top
  rcases hs : slotOf c with _ | k
  · refine .inl ⟨rfl, ?_⟩
    rw [f5_slot, h1, if_pos (h5.1.mpr hs)]
    rfl
  · refine .inr ⟨k, rfl, ?_⟩
    rw [f5_slot, h1, if_neg (fun q => by rw [h5.1.mp q] at hs; cases hs)]
    dsimp only [Option.bind]
    rw [if_neg (by decide), f5_slot_L13, h2]
    dsimp only [Option.bind, nm_v]
    rw [h5.2 k (z_slt hs).1 hs, nI_1]
theorem z_fa {rec : RecT} (hT : TXT top T) (hd : d ≤ 4) (hR : HR0 T top (t0, 1, nI T.length, rq) rec d) : OKX T (f5_factor rec (nI (4 - d)) top (t0, 1, nI T.length, rq)) (pFa (pSub d)) (fun _ => jFa (jSub d)) 1 := by
  intro p cs L hp hcs hL
  have h60 := hT.1
  rcases h : T.drop p with _ | ⟨c, r⟩
  · have h1 := z_next0 (t0 := t0) (rq := rq) hT hp h
    have h2 := z_dig0 (t0 := t0) (rq := rq) hT hp h
    have h3 := z_slot0 (t0 := t0) (rq := rq) hT hp h
    obtain ⟨a1, a2, a3, a4, a5, a6, a7, a8⟩ := top
    obtain ⟨b1, b2, b3, b4, b5⟩ := cs
    rw [f5_factor, h1, ob_s]
    try dsimp only
    rw [if_neg (by decide), h2, ob_s]
    try dsimp only
    rw [if_pos rfl, h3]
    exact RZ_err
  · have h1 := z_next1 (t0 := t0) (rq := rq) hT h
    have hc := z_lt hT h
    obtain ⟨hp1, _, hr⟩ := z_dc h
    by_cases q : c = 40
    · subst q
      rw [pFa, if_pos rfl]
      rcases d with _ | d
      · have ho := z_open0 (top := top) (x := 40) (ra := nI p) (rd := (t0, 1, nI T.length, rq))
        obtain ⟨a1, a2, a3, a4, a5, a6, a7, a8⟩ := top
        obtain ⟨b1, b2, b3, b4, b5⟩ := cs
        rw [f5_factor, h1, ob_s]
        try dsimp only
        rw [if_pos (show nI 40 = (40 : Int32) from rfl), ho]
        exact RZ_err
      · rcases z_open1 (t0 := t0) (rq := rq) hT hp 40 40 rfl (by omega) (show d < 4 by omega) with ⟨o1, _⟩ | ⟨_, _, o3⟩
        · rw [h, pTok, if_pos rfl] at o1; cases o1
        · have hR' := hR (p + 1) cs L hp1 hcs (by omega)
          have hT' := hT
          obtain ⟨a1, a2, a3, a4, a5, a6, a7, a8⟩ := top
          obtain ⟨b1, b2, b3, b4, b5⟩ := cs
          rw [f5_factor, h1, hr, ob_s]
          try dsimp only
          rw [if_pos (show nI 40 = (40 : Int32) from rfl), o3, ob_s]
          try dsimp only
          refine RZ_bind hR' (fun x p' cs' q1 q2 q3 => ?_) (fun _ _ => rfl)
          obtain ⟨b1, b2, b3, b4, b5⟩ := cs'
          try dsimp only
          rcases z_take (t0 := t0) (rq := rq) hT' q1 41 41 rfl (by omega) with ⟨t1, t2⟩ | ⟨t1, t2, t3⟩
          · rw [t1, t2]; exact RZ_err
          · rw [t1, t3]
            exact ⟨rfl, t2, by show 4 * (jSub (d + 1) x).length + 1 + 5 * p ≤ _; have : 4 * (jSub (d + 1) x).length + 1 + 5 * (p + 1) ≤ 5 * p' := q2; omega, _, rfl, q3⟩
    · have q' : ¬ nI c = 40 := fun e => q ((nI_eq (b := 40) (by omega) (by omega)).mp e)
      rw [pFa, if_neg q]
      have h2 := z_dig1 (t0 := t0) (rq := rq) hT h
      by_cases hd : isDig c = true
      · obtain ⟨v, p', e1, e2, e3, cs', e4, e5⟩ := z_con (t0 := t0) (rq := rq) hT h hd hcs hL
        rw [e1]
        obtain ⟨a1, a2, a3, a4, a5, a6, a7, a8⟩ := top
        obtain ⟨b1, b2, b3, b4, b5⟩ := cs
        rw [f5_factor, h1, ob_s]
        try dsimp only
        rw [if_neg q', h2, hd, ob_s]
        try dsimp only
        rw [if_pos rfl, if_neg (by decide), e4]
        exact ⟨rfl, e3, by show 4 * 1 + 1 + 5 * p ≤ 5 * p'; omega, _, rfl, e5⟩
      · rw [Bool.not_eq_true] at hd
        rw [show pLeaf p (c :: r) = (slotOf c).bind fun k => some (.inr (p, k), p + 1, r) by rw [pLeaf.eq_def]; dsimp only; rw [if_neg (by rw [hd]; exact Bool.false_ne_true)]]
        rcases z_slot1 (t0 := t0) (rq := rq) hT h with ⟨s1, s2⟩ | ⟨k, s1, s2⟩
        · rw [s1]
          obtain ⟨a1, a2, a3, a4, a5, a6, a7, a8⟩ := top
          obtain ⟨b1, b2, b3, b4, b5⟩ := cs
          rw [f5_factor, h1, ob_s]
          try dsimp only
          rw [if_neg q', h2, hd, ob_s]
          try dsimp only
          rw [if_pos (show (if false = true then (1 : Int32) else 0) = 0 by decide), s2]
          exact RZ_err
        · rw [s1]
          obtain ⟨cs', f1, g1⟩ := z_add hcs (by omega) 5 0 k (x1 := 5) (x2 := nI p) (x3 := nI k) rfl (fun q => by omega) (fun _ => rfl)
          obtain ⟨a1, a2, a3, a4, a5, a6, a7, a8⟩ := top
          obtain ⟨b1, b2, b3, b4, b5⟩ := cs
          rw [f5_factor, h1, ob_s]
          try dsimp only
          rw [if_neg q', h2, hd, ob_s]
          try dsimp only
          rw [if_pos (show (if false = true then (1 : Int32) else 0) = 0 by decide), s2, ob_s]
          try dsimp only
          rw [f1]
          exact ⟨hr, hp1, by show 4 * 1 + 1 + 5 * p ≤ 5 * (p + 1); omega, _, rfl, g1⟩
end
