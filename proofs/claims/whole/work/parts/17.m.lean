/-! FOLDING in the reference: simple statements -/
/-- a statement's nodes are walked, its row is made -/
def MGS (N : Nat) (mQ : MdQ) (mN : MdN) (mL : MdL) (mm B nn : Nat) (b : Bool) (nf : Nat → List Nde) (c : Nat) (rZ r : List FT) (L : List FT) : Prop :=
  ∀ m mH D cnt, NSH B mN m (nf m) → m + (nf m).length ≤ nn → CM mH D cnt → (b = false → ∀ R, R ∈ rZ → HAS D cnt R) → cnt + c ≤ 4200 →
    ∃ mH' D' cnt', FGM N mQ mN mL mm B mH m mH' (nf m).length ∧ 1 ≤ (nf m).length ∧ CM mH' D' cnt' ∧ EXT D D' cnt ∧ cnt ≤ cnt' ∧ cnt' ≤ cnt + c ∧ (∀ R, R ∈ r → HAS D' cnt' R) ∧ (∀ j, j < m → mH'.2.2.2.2.2.2.2.1 j = mH.2.2.2.2.2.2.2.1 j) ∧ TMm D' cnt' (mH'.2.2.2.2.2.2.2.1 (m + (nf m).length - 1)) (lstT L)
theorem own2_len {L : List FT} : (own2 L).length ≤ 2 := by
  rcases L with _ | ⟨X, _ | ⟨Y, L⟩⟩
  · exact Nat.zero_le _
  · exact Nat.le_refl _
  · exact Nat.zero_le _
theorem own2_if {p : Prop} [Decidable p] {X : FT} : own2 (if p then [] else [X]) = if p then [] else [X, lstC X nilT] := by
  by_cases w : p
  · rw [if_pos w, if_pos w]; rfl
  · rw [if_neg w, if_neg w]; rfl
theorem own2_ch {p : Prop} [Decidable p] {L : List FT} : own2 (if p then [] else L) = if p then [] else own2 L := by
  by_cases w : p
  · rw [if_pos w, if_pos w]; rfl
  · rw [if_neg w, if_neg w]
section
variable {N : Nat} {mQ : MdQ} {mN : MdN} {mL : MdL} {mm B nn : Nat} {u : MTN} {b : Bool}
theorem w_gen {m s : Nat} (hs : s < 60) (ht : mN.2.2.2.2.2 (B + m) = nI s) : if u.1 ≠ -1 ∧ mN.2.2.2.2.2 (B + m) = u.1 then (if nI s = u.1 then (1 : Int32) else 0) = 1 ∧ (if nI s = u.1 then u.2 else mN.2.2.1 (B + m)) = u.2 else (if nI s = u.1 then (1 : Int32) else 0) = 0 ∧ (if nI s = u.1 then u.2 else mN.2.2.1 (B + m)) = mN.2.2.1 (B + m) := by
  rw [ht]
  by_cases w : nI s = u.1
  · have h1 : u.1 ≠ -1 := by rw [← w]; exact nI_m1 (by omega)
    rw [if_pos ⟨h1, w⟩, if_pos w, if_pos w]
    exact ⟨rfl, rfl⟩
  · rw [if_neg (fun q => w q.2), if_neg w, if_neg w]
    exact ⟨rfl, rfl⟩
/-- the node of a statement -/
theorem g_stn {mH : MdH} {D : Nat → FT} {cnt j s k : Nat} {own L rZ : List FT} {d : Bool} (hE : EN8 N mQ mN mL mm B nn u) (hj : j < nn) (hs : s < 60) (hk : 6 ≤ k ∧ k ≤ 10) (h1 : mN.2.1 (B + j) = nI k) (ht : mN.2.2.2.2.2 (B + j) = nI s) (hc : CM mH D cnt)
    (hst : nI s ≠ u.1 → OKR D cnt own → MF mH D cnt own (lstT L) (f8_foldStatement N (nI (B + j)) mQ mN mH)) (hb : b = false → ∀ R, R ∈ rZ → HAS D cnt R) (hd : d = false → nI s ≠ u.1 → ∀ R, R ∈ own → R ∈ rZ) (hl : own.length ≤ 2) (hcnt : cnt + (if b || d then 2 else 0) ≤ 4200) :
    ∃ mH' D' cnt', FGM N mQ mN mL mm B mH j mH' 1 ∧ CM mH' D' cnt' ∧ EXT D D' cnt ∧ cnt ≤ cnt' ∧ cnt' ≤ cnt + (if b || d then 2 else 0) ∧ (∀ R, R ∈ (if nI s = u.1 then [] else own) → HAS D' cnt' R) ∧ (∀ i, i < j → mH'.2.2.2.2.2.2.2.1 i = mH.2.2.2.2.2.2.2.1 i) ∧ TMm D' cnt' (mH'.2.2.2.2.2.2.2.1 j) (lstT (if nI s = u.1 then [] else L)) := by
  have hEE := hE
  obtain ⟨e1, e2, e3, e4, e5, e6, e7⟩ := hEE
  have hg := z_gd (n := B + j) (N := 512) (by omega) (by omega)
  have hbn := z_nat (n := B + j) (by omega)
  have hno := fun w1 w2 => m_nst (N := N) (mQ := mQ) (mH := mH) (w1 := w1) (w2 := w2) hg (by rw [hbn]; exact h1) hk.1 hk.2
  have wg := w_gen (u := u) hs ht
  by_cases w : nI s = u.1
  · rw [if_pos w, if_pos w]
    rw [if_pos w, if_pos w] at wg
    obtain ⟨mH', D', cnt', g1, g2, g3, g4, g5, g6, g7, g8, g9⟩ := m_go hE hj wg (MF.of (MF.none hc (TMm.nil (D := D) (cnt := cnt))) ((hno 1 u.2).trans (if_neg (by decide))))
    have g5 : cnt' ≤ cnt + 0 := g5
    exact ⟨mH', D', cnt', g1, g2, g3, g4, by omega, g7, g8, g9⟩
  · rw [if_neg w, if_neg w]
    rw [if_neg w, if_neg w] at wg
    have hlen : (if (b || d) = true then own.length else 0) ≤ (if (b || d) = true then 2 else 0) := by
      split
      · exact hl
      · exact Nat.le_refl _
    have hok := okr_of (Rq := own) hb (fun q => hd q w) (by omega)
    obtain ⟨mH', D', cnt', g1, g2, g3, g4, g5, g6, g7, g8, g9⟩ := m_go hE hj wg (MF.of (hst w hok) ((hno 0 (mN.2.2.1 (B + j))).trans (if_pos rfl)))
    have g5' := cnt_of hb (fun q => hd q w) g5 g6
    exact ⟨mH', D', cnt', g1, g2, g3, g4, by omega, g7, g8, g9⟩
theorem g_sm1 {gx : Nat → List Nde} {cx s k : Nat} {rxZ rx : List FT} {T : FT} {fa fb fc : Nat → Int32} {L LZ : List FT} {S : List Ste} (hE : EN8 N mQ mN mL mm B nn u) (hs : s < 60) (hk : 6 ≤ k ∧ k ≤ 10) (hx : MGE N mQ mN mL mm B nn b gx cx rxZ rx T) (hcl : dty u S = false → nI s ≠ u.1 → L = LZ)
    (hst : ∀ m mH D cnt, m + (gx m).length < nn → 1 ≤ (gx m).length → NSH B mN (m + (gx m).length) [(k, fa m, fb m, fc m, nI s)] → CM mH D cnt → TE D cnt (mH.2.2.2.2.2.2.2.1 (m + (gx m).length - 1)) T → OKR D cnt (own2 L) → MF mH D cnt (own2 L) (lstT L) (f8_foldStatement N (nI (B + (m + (gx m).length))) mQ mN mH)) :
    MGS N mQ mN mL mm B nn b (fun m => gx m ++ [(k, fa m, fb m, fc m, nI s)]) (cx + (if b || dty u S then 2 else 0)) (rxZ ++ own2 LZ) (rx ++ own2 (if nI s = u.1 then [] else L)) (if nI s = u.1 then [] else L) := by
  intro m mH D cnt h1 h2 h3 h4 h5
  dsimp only at h1 h2 ⊢
  obtain ⟨c1, c2⟩ := h1.app
  simp only [List.length_append, List.length_cons, List.length_nil] at h2 ⊢
  obtain ⟨mH1, D1, cnt1, a1, a2, a3, a4, a5, a6, a7, a8, a9⟩ := hx m mH D cnt c1 (by omega) h3 (fun w R hR => h4 w R (List.mem_append_left _ hR)) (by omega)
  obtain ⟨r1, r2, r3, r4, r5⟩ := c2.one
  obtain ⟨mH2, D2, cnt2, b1, b2, b3, b4, b5, b6, b7, b8⟩ := g_stn (L := L) (own := own2 L) (d := dty u S) (rZ := rxZ ++ own2 LZ) hE (by omega) hs hk r1 r5 a3 (fun w ok => hst m mH1 D1 cnt1 (by omega) a2 c2 a3 a9 ok) (fun w R hR => (h4 w R hR).ext a4 a5) (fun w w2 R hR => List.mem_append_right _ (by rw [← hcl w w2]; exact hR)) own2_len (by omega)
  refine ⟨mH2, D2, cnt2, a1.trans b1, by omega, b2, a4.trans b3 a5, by omega, by omega, ?_, ?_, ?_⟩
  · intro R hR
    rcases List.mem_append.mp hR with hR | hR
    · exact (a7 R hR).ext b3 b4
    · rw [own2_ch] at hR
      exact b6 R hR
  · intro j hj
    rw [b7 j (by omega), a8 j hj]
  · rw [show m + ((gx m).length + (0 + 1)) - 1 = m + (gx m).length by omega]
    exact b8
theorem g_sm (hE : EN8 N mQ mN mL mm B nn u) (d : Nat) : ∀ x, IW (iSm d) x → OKN8 u (sSm d x) → MGS N mQ mN mL mm B nn b (fun m => nSm B d m x) (cSm u b d x) (rSm uZ d x) (rSm u d x) (fSm u d x) := by
  intro x hi ho
  have hEE := hE
  obtain ⟨e1, e2, e3, e4, e5, e6, e7⟩ := hEE
  obtain ⟨s, x⟩ := x
  obtain ⟨p, p', hs, hi⟩ := hi
  have hoo := ho
  rw [sSm] at hoo
  obtain ⟨o1, o2⟩ := hoo.cons
  have hs60 : s < 60 := o1.1
  have hz : ¬ nI s = (-1 : Int32) := nI_m1 (by omega)
  have hcn : dty u (sSm d (s, x)).tail = false → nI s ≠ u.1 → CLN u (sSm d (s, x)) := by
    intro w w2 e he
    rw [sSm] at he w
    rcases List.mem_cons.mp he with he | he
    · rw [he]; exact ⟨hs60, w2⟩
    · exact o2.cl w e he
  have ofn : ∀ (m : Nat) (L : List Nde) (mH : MdH), m + L.length < nn → 1 ≤ L.length → f8_of (nid B m L) mQ mH = some (mH.2.2.2.2.2.2.2.1 (m + L.length - 1)) := by
    intro m L mH q1 q2
    rw [nid, show B + m + L.length - 1 = B + (m + L.length - 1) by omega]
    exact m_ofn e1 (by omega) (by omega)
  rcases x with ⟨k, e⟩ | e | c
  · obtain ⟨hk, p1, hi, _⟩ := hi
    have hfz : fSm uZ d (s, .inl (k, e)) = if knd (fEx uZ d e) = 2 ∧ num (fEx uZ d e) = nI k then [] else [asgT (nI k) (fEx uZ d e)] := by
      rw [fSm, if_neg hz]
    rw [rSm, rSm, cSm, hfz]
    refine g_sm1 (T := fEx u d e) (L := if knd (fEx u d e) = 2 ∧ num (fEx u d e) = nI k then [] else [asgT (nI k) (fEx u d e)]) (S := (sSm d (s, .inl (k, e))).tail) hE hs60 (by omega) (g_ex hE d e ⟨_, _, hi⟩ o2) (fun w w2 => ?_) (fun m mH D cnt q1 q2 q3 q4 q5 q6 => ?_)
    · have := clf_sm d _ (hcn w w2)
      rw [hfz, fSm, if_neg w2] at this
      exact this
    · obtain ⟨r1, r2, r3, r4, r5⟩ := q3.one
      have hbn := z_nat (n := B + (m + (nEx B d m e).length)) (by omega)
      rw [own2_if] at q6 ⊢
      exact m_s6 e7 q4 (z_gd (by omega) (by omega)) (by rw [hbn]; exact r1) (by rw [hbn]; exact r2) hk (by rw [hbn, r3]; exact ofn m _ mH q1 q2) q5 q6
  · obtain ⟨p1, hi, _⟩ := hi
    have hfz : fSm uZ d (s, .inr (.inl e)) = [retT (fEx uZ d e)] := by
      rw [fSm, if_neg hz]
    rw [rSm, rSm, cSm, hfz]
    refine g_sm1 (T := fEx u d e) (L := [retT (fEx u d e)]) (S := (sSm d (s, .inr (.inl e))).tail) hE hs60 (by omega) (g_ex hE d e ⟨_, _, hi⟩ o2) (fun w w2 => ?_) (fun m mH D cnt q1 q2 q3 q4 q5 q6 => ?_)
    · have := clf_sm d _ (hcn w w2)
      rw [hfz, fSm, if_neg w2] at this
      exact this
    · obtain ⟨r1, r2, r3, r4, r5⟩ := q3.one
      have hbn := z_nat (n := B + (m + (nEx B d m e).length)) (by omega)
      exact m_s10 e7 q4 (z_gd (by omega) (by omega)) (by rw [hbn]; exact r1) (by rw [hbn, r2]; exact ofn m _ mH q1 q2) (by rw [hbn, r3]; exact m_of1) q5 q6
  · obtain ⟨p1, hi, _⟩ := hi
    have hfz : fSm uZ d (s, .inr (.inr c)) = if knd (fCo uZ d c) = 10 then [] else [chkT (fCo uZ d c)] := by
      rw [fSm, if_neg hz]
    rw [rSm, rSm, cSm, hfz]
    refine g_sm1 (T := fCo u d c) (L := if knd (fCo u d c) = 10 then [] else [chkT (fCo u d c)]) (S := (sSm d (s, .inr (.inr c))).tail) hE hs60 (by omega) (g_co hE d c ⟨_, _, hi⟩ o2) (fun w w2 => ?_) (fun m mH D cnt q1 q2 q3 q4 q5 q6 => ?_)
    · have := clf_sm d _ (hcn w w2)
      rw [hfz, fSm, if_neg w2] at this
      exact this
    · obtain ⟨r1, r2, r3, r4, r5⟩ := q3.one
      have hbn := z_nat (n := B + (m + (nCo B d m c).length)) (by omega)
      rw [own2_if] at q6 ⊢
      exact m_s9 e7 q4 (z_gd (by omega) (by omega)) (by rw [hbn]; exact r1) (by rw [hbn, r2]; exact ofn m _ mH q1 q2) (by rw [hbn, r3]; exact m_of1) q5 q6
end
