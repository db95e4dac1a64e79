section
variable {top : TopS} {T : List Nat} {t0 : Nat → Int32} {rq : Nat}
theorem z_lev {rec : RecT} {N d : Nat} (hT : TXT top T) (hN : 60 < N) (hd : d ≤ 4) (h0 : HR0 T top (t0, 1, nI T.length, rq) rec d) (h1 : HR1 T top (t0, 1, nI T.length, rq) rec d) (h2 : HR2 T top (t0, 1, nI T.length, rq) rec d) :
    OKX T (f5_expression rec N (nI (4 - d)) top (t0, 1, nI T.length, rq)) (pEx d) (fun _ => jEx d) 1 ∧ OKX T (f5_condition rec N (nI (4 - d)) top (t0, 1, nI T.length, rq)) (pCo d) (jCo d) 3 ∧ OKX T (f5_row rec N (nI (4 - d)) top (t0, 1, nI T.length, rq)) (pRo d) (jRo d) 0 := by
  have a1 := z_fa hT hd h0
  have a2 := z_te (N := N) (rec := rec) hT hN a1
  have a3 : OKX T (f5_expression rec N (nI (4 - d)) top (t0, 1, nI T.length, rq)) (pEx d) (fun _ => jEx d) 1 := z_ex (N := N) (rec := rec) hT hN a2
  have a4 := z_at (N := N) (rec := rec) hT hd a3 h1
  have a5 := z_pa (N := N) (rec := rec) hT hN a4
  have a6 : OKX T (f5_condition rec N (nI (4 - d)) top (t0, 1, nI T.length, rq)) (pCo d) (jCo d) 3 := z_cd (N := N) (rec := rec) hT hN a5
  have a7 := z_st (N := N) (rec := rec) hT hd a6 a3 h2
  exact ⟨a3, a6, z_ro (N := N) (rec := rec) hT hN a7⟩
theorem z_rec {N : Nat} (hT : TXT top T) (hN : 60 < N) : ∀ d D, d ≤ 4 → d < D → HR0 T top (t0, 1, nI T.length, rq) (f5_rec N D) (d + 1) ∧ HR1 T top (t0, 1, nI T.length, rq) (f5_rec N D) (d + 1) ∧ HR2 T top (t0, 1, nI T.length, rq) (f5_rec N D) (d + 1) := by
  intro d
  induction d with
  | zero =>
    intro D _ hD
    obtain ⟨D, rfl⟩ : ∃ E, D = E + 1 := ⟨D - 1, by omega⟩
    have := z_lev (d := 0) (rec := f5_rec N D) (t0 := t0) (rq := rq) hT hN (by omega) trivial trivial trivial
    exact ⟨fun p cs L a b c => by rw [f5_rec_0]; exact this.1 p cs L a b c, fun p cs L a b c => by rw [f5_rec_1]; exact this.2.1 p cs L a b c, fun p cs L a b c => by rw [f5_rec_2]; exact this.2.2 p cs L a b c⟩
  | succ d ih =>
    intro D hd hD
    obtain ⟨D, rfl⟩ : ∃ E, D = E + 1 := ⟨D - 1, by omega⟩
    have h := ih D (by omega) (by omega)
    have := z_lev (d := d + 1) (rec := f5_rec N D) (t0 := t0) (rq := rq) hT hN hd h.1 h.2.1 h.2.2
    exact ⟨fun p cs L a b c => by rw [f5_rec_0]; exact this.1 p cs L a b c, fun p cs L a b c => by rw [f5_rec_1]; exact this.2.1 p cs L a b c, fun p cs L a b c => by rw [f5_rec_2]; exact this.2.2 p cs L a b c⟩
/-- what the class reads -/
theorem z_read {N q : Nat} {rd : RdS} {ra : Int32} {cs : CoS} (hT : TXT top T) (hN : 60 < N) :
    match pTop T with
    | none => ∃ ra' cs', f5_read N (nI T.length) q top rd ra cs = some (.error IAE, (rd.1, 1, nI T.length, q), ra', cs')
    | some x => ∃ cs', f5_read N (nI T.length) q top rd ra cs = some (.ok (), (rd.1, 1, nI T.length, q), nI T.length, cs') ∧ CS cs' (jRo 4 0 x) ∧ 4 * (jRo 4 0 x).length ≤ 5 * T.length := by
  obtain ⟨b1, b2, b3, b4, b5⟩ := cs
  obtain ⟨t0, r2, r3, r4⟩ := rd
  have h60 := hT.1
  have hr := z_rec (t0 := t0) (rq := q) hT hN 3 8 (by omega) (by omega)
  have hw := (z_lev (d := 4) (rec := f5_rec N 8) (t0 := t0) (rq := q) hT hN (by omega) hr.1 hr.2.1 hr.2.2).2.2 0 (b1, b2, b3, b4, 0) [] (by omega) ⟨rfl, fun j p h => by cases h⟩ (by show 0 ≤ 0; omega)
  rw [List.drop_zero] at hw
  obtain ⟨a1, a2, a3, a4, a5, a6, a7, a8⟩ := top
  rw [pTop]
  rcases hp : pRo 4 0 T with _ | ⟨x, p', s'⟩
  · rw [hp] at hw
    obtain ⟨ra', cs', h⟩ := hw
    obtain ⟨d1, d2, d3, d4, d5⟩ := cs'
    refine ⟨ra', (d1, d2, d3, d4, d5), ?_⟩
    rw [f5_read]
    exact (congrArg (fun o => Option.bind o _) h).trans rfl
  · rw [hp] at hw
    obtain ⟨e1, h1, h2, cs', h3, h4⟩ := hw
    obtain ⟨d1, d2, d3, d4, d5⟩ := cs'
    subst e1
    rw [ob_s]
    dsimp only
    by_cases e : T.drop p' = []
    · have hl := List.drop_eq_nil_iff.mp e
      obtain rfl : p' = T.length := by omega
      rw [if_pos e]
      refine ⟨_, ?_, h4, by dsimp only [List.length_nil] at h2; omega⟩
      rw [f5_read]
      refine (congrArg (fun o => Option.bind o _) h3).trans ?_
      rw [ob_s]
      dsimp only
      rw [if_pos ((nI_leI (by omega) (by omega)).mpr (Nat.le_refl _))]
    · have hl : p' < T.length := by
        by_cases q : p' < T.length
        · exact q
        · exact absurd (List.drop_eq_nil_iff.mpr (by omega)) e
      rw [if_neg e]
      refine ⟨nI p', (d1, d2, d3, d4, d5), ?_⟩
      rw [f5_read]
      refine (congrArg (fun o => Option.bind o _) h3).trans ?_
      rw [ob_s]
      dsimp only
      rw [if_neg (fun q => absurd ((nI_leI (by omega) (by omega)).mp q) (by omega))]
      rfl
end
