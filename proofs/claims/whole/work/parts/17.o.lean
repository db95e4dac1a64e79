/-! FOLDING in the reference: if and while, and the whole program -/
section
variable {N : Nat} {mQ : MdQ} {mN : MdN} {mL : MdL} {mm B nn : Nat} {u : MTN} {b : Bool} {α : Type}
theorem rix_of {m : Nat} {l : List α} {L : List Nde} {mH : MdH} {D : Nat → FT} {cnt : Nat} {T : FT} (hb : mQ.2.1 = nI B) (hB : B ≤ 256) (hm : m + L.length ≤ 256) (h : l ≠ [] → 1 ≤ L.length ∧ TMm D cnt (mH.2.2.2.2.2.2.2.1 (m + L.length - 1)) T) (h0 : l = [] → T = nilT) :
    ∃ y, f8_of (nRix B m l L) mQ mH = some y ∧ TMm D cnt y T := by
  rcases l with _ | ⟨x, l⟩
  · rw [h0 rfl]
    exact ⟨-1, m_of1, TMm.nil⟩
  · obtain ⟨h1, h2⟩ := h (by intro q; cases q)
    refine ⟨_, ?_, h2⟩
    show f8_of (nid B m L) mQ mH = _
    rw [nid, show B + m + L.length - 1 = B + (m + L.length - 1) by omega]
    exact m_ofn hb hB (by omega)
theorem g_if {gc ga gb : Nat → List Nde} {cc ca cb s : Nat} {rcZ rc raZ ra rbZ rb La Lb LaZ LbZ : List FT} {T TZ : FT} {l1 l2 : List α} {S : List Ste} (hE : EN8 N mQ mN mL mm B nn u) (hs : s < 60) (hc : MGE N mQ mN mL mm B nn b gc cc rcZ rc T) (ha : MGR N mQ mN mL mm B nn b ga ca raZ ra (l1 ≠ []) La) (hb : MGR N mQ mN mL mm B nn b gb cb rbZ rb (l2 ≠ []) Lb)
    (h1 : l1 = [] → La = []) (h2 : l2 = [] → Lb = []) (hcl : dty u S = false → nI s ≠ u.1 → T = TZ ∧ La = LaZ ∧ Lb = LbZ) :
    MGS N mQ mN mL mm B nn b (fun m => gc m ++ (ga (m + (gc m).length) ++ (gb (m + (gc m).length + (ga (m + (gc m).length)).length) ++ [(7, nid B m (gc m), nRix B (m + (gc m).length) l1 (ga (m + (gc m).length)), nRix B (m + (gc m).length + (ga (m + (gc m).length)).length) l2 (gb (m + (gc m).length + (ga (m + (gc m).length)).length)), nI s)])))
      (cc + (ca + cb) + (if b || dty u S then 2 else 0)) (rcZ ++ (raZ ++ rbZ ++ ownI TZ LaZ LbZ)) (rc ++ (ra ++ rb ++ (if nI s = u.1 then [] else ownI T La Lb))) (if nI s = u.1 then [] else if knd T = 10 then La else if knd T = 11 then Lb else [iteT T (lstT La) (lstT Lb)]) := by
  intro m mH D cnt q1 q2 q3 q4 q5
  have hEE := hE
  obtain ⟨e1, e2, e3, e4, e5, e6, e7⟩ := hEE
  dsimp only at q1 q2 ⊢
  have kc := hc m mH D cnt
  have ka := ha (m + (gc m).length)
  have kb := hb (m + (gc m).length + (ga (m + (gc m).length)).length)
  generalize gc m = C at q1 q2 kc ka kb ⊢
  generalize ga (m + C.length) = A at q1 q2 ka kb ⊢
  generalize gb (m + C.length + A.length) = E at q1 q2 kb ⊢
  obtain ⟨c1, c2⟩ := q1.app
  obtain ⟨c2, c3⟩ := c2.app
  obtain ⟨c3, c4⟩ := c3.app
  simp only [List.length_append, List.length_cons, List.length_nil] at q2 ⊢
  obtain ⟨mH1, D1, cnt1, a1, a2, a3, a4, a5, a6, a7, a8, a9⟩ := kc c1 (by omega) q3 (fun w R hR => q4 w R (List.mem_append_left _ hR)) (by omega)
  obtain ⟨mH2, D2, cnt2, b1, b3, b4, b5, b6, b7, b8, b9⟩ := ka mH1 D1 cnt1 c2 (by omega) a3 (fun w R hR => (q4 w R (List.mem_append_right _ (List.mem_append_left _ (List.mem_append_left _ hR)))).ext a4 a5) (by omega)
  obtain ⟨mH3, D3, cnt3, g1, g3, g4, g5, g6, g7, g8, g9⟩ := kb mH2 D2 cnt2 c3 (by omega) b3 (fun w R hR => ((q4 w R (List.mem_append_right _ (List.mem_append_left _ (List.mem_append_right _ hR)))).ext a4 a5).ext b4 b5) (by omega)
  obtain ⟨r1, r2, r3, r4, r5⟩ := c4.one
  dsimp only at r1 r2 r3 r4 r5
  have hc2 := b3.2.1
  have hc3 := g3.2.1
  have hbn := z_nat (n := B + (m + C.length + A.length + E.length)) (by omega)
  have tc : TE D3 cnt3 (mH3.2.2.2.2.2.2.2.1 (m + C.length - 1)) T := by
    rw [g8 _ (by omega), b8 _ (by omega)]
    exact (a9.ext b4 b5).ext g4 g5
  obtain ⟨y, y1, y2⟩ := rix_of (mQ := mQ) (mH := mH3) (D := D3) (cnt := cnt3) (m := m + C.length) (l := l1) (L := A) (T := lstT La) e1 (by omega) (by omega) (fun w => by
    obtain ⟨w1, w2⟩ := b9 w
    refine ⟨w1, ?_⟩
    rw [g8 _ (by omega)]
    exact w2.ext (by omega) g4 g5) (fun w => by rw [h1 w]; rfl)
  obtain ⟨z, z1, z2⟩ := rix_of (mQ := mQ) (mH := mH3) (D := D3) (cnt := cnt3) (m := m + C.length + A.length) (l := l2) (L := E) (T := lstT Lb) e1 (by omega) (by omega) g9 (fun w => by rw [h2 w]; rfl)
  have hst : nI s ≠ u.1 → OKR D3 cnt3 (ownI T La Lb) → MF mH3 D3 cnt3 (ownI T La Lb) (lstT (if knd T = 10 then La else if knd T = 11 then Lb else [iteT T (lstT La) (lstT Lb)])) (f8_foldStatement N (nI (B + (m + C.length + A.length + E.length))) mQ mN mH3) := by
    intro _ ok
    refine m_s7 (x := mH3.2.2.2.2.2.2.2.1 (m + C.length - 1)) (y := y) (z := z) (a := 0) e7 g3 (z_gd (by omega) (by omega)) (by rw [hbn]; exact r1) ?_ (by rw [hbn, r3]; exact y1) (by rw [hbn, r4]; exact z1) tc y2 z2 ok
    rw [hbn, r2, nid, show B + m + C.length - 1 = B + (m + C.length - 1) by omega]
    exact m_ofn e1 (by omega) (by omega)
  have hol : (ownI T La Lb).length ≤ 2 := by
    unfold ownI
    split
    · exact Nat.zero_le _
    · exact Nat.le_refl _
  obtain ⟨mH4, D4, cnt4, k1, k2, k3, k4, k5, k6, k7, k8⟩ := g_stn (d := dty u S) (rZ := rcZ ++ (raZ ++ rbZ ++ ownI TZ LaZ LbZ)) hE (by omega) hs (k := 7) (by omega) r1 r5 g3 hst (fun w R hR => (((q4 w R hR).ext a4 a5).ext b4 b5).ext g4 g5) (fun w w2 R hR => by
    obtain ⟨t1, t2, t3⟩ := hcl w w2
    rw [t1, t2, t3] at hR
    exact List.mem_append_right _ (List.mem_append_right _ hR)) hol (by omega)
  refine ⟨mH4, D4, cnt4, ?_, by omega, k2, ((a4.trans b4 a5).trans g4 (by omega)).trans k3 (by omega), by omega, by omega, ?_, ?_, ?_⟩
  · have := ((a1.trans b1).trans (show FGM N mQ mN mL mm B mH2 (m + (C.length + A.length)) mH3 E.length by rw [← Nat.add_assoc]; exact g1)).trans (show FGM N mQ mN mL mm B mH3 (m + (C.length + A.length + E.length)) mH4 1 by rw [show m + (C.length + A.length + E.length) = m + C.length + A.length + E.length by omega]; exact k1)
    rw [show C.length + A.length + E.length + 1 = C.length + (A.length + (E.length + (0 + 1))) by omega] at this
    exact this
  · intro R hR
    rcases List.mem_append.mp hR with hR | hR
    · exact (((a7 R hR).ext b4 b5).ext g4 g5).ext k3 k4
    · rcases List.mem_append.mp hR with hR | hR
      · rcases List.mem_append.mp hR with hR | hR
        · exact ((b7 R hR).ext g4 g5).ext k3 k4
        · exact (g7 R hR).ext k3 k4
      · exact k6 R hR
  · intro j hj
    rw [k7 j (by omega), g8 j (by omega), b8 j (by omega), a8 j hj]
  · rw [show m + (C.length + (A.length + (E.length + (0 + 1)))) - 1 = m + C.length + A.length + E.length by omega]
    exact k8
theorem g_while {gc ga : Nat → List Nde} {cc ca s : Nat} {rcZ rc raZ ra La LaZ : List FT} {T TZ : FT} {l1 : List α} {S : List Ste} (hE : EN8 N mQ mN mL mm B nn u) (hs : s < 60) (hc : MGE N mQ mN mL mm B nn b gc cc rcZ rc T) (ha : MGR N mQ mN mL mm B nn b ga ca raZ ra (l1 ≠ []) La)
    (h1 : l1 = [] → La = []) (hcl : dty u S = false → nI s ≠ u.1 → T = TZ ∧ La = LaZ) :
    MGS N mQ mN mL mm B nn b (fun m => gc m ++ (ga (m + (gc m).length) ++ [(8, nid B m (gc m), nRix B (m + (gc m).length) l1 (ga (m + (gc m).length)), 0, nI s)]))
      (cc + ca + (if b || dty u S then 2 else 0)) (rcZ ++ (raZ ++ ownW TZ LaZ)) (rc ++ (ra ++ (if nI s = u.1 then [] else ownW T La))) (if nI s = u.1 then [] else if knd T = 11 then [] else [whlT T (lstT La)]) := by
  intro m mH D cnt q1 q2 q3 q4 q5
  have hEE := hE
  obtain ⟨e1, e2, e3, e4, e5, e6, e7⟩ := hEE
  dsimp only at q1 q2 ⊢
  have kc := hc m mH D cnt
  have ka := ha (m + (gc m).length)
  generalize gc m = C at q1 q2 kc ka ⊢
  generalize ga (m + C.length) = A at q1 q2 ka ⊢
  obtain ⟨c1, c2⟩ := q1.app
  obtain ⟨c2, c4⟩ := c2.app
  simp only [List.length_append, List.length_cons, List.length_nil] at q2 ⊢
  obtain ⟨mH1, D1, cnt1, a1, a2, a3, a4, a5, a6, a7, a8, a9⟩ := kc c1 (by omega) q3 (fun w R hR => q4 w R (List.mem_append_left _ hR)) (by omega)
  obtain ⟨mH2, D2, cnt2, b1, b3, b4, b5, b6, b7, b8, b9⟩ := ka mH1 D1 cnt1 c2 (by omega) a3 (fun w R hR => (q4 w R (List.mem_append_right _ (List.mem_append_left _ hR))).ext a4 a5) (by omega)
  obtain ⟨r1, r2, r3, r4, r5⟩ := c4.one
  dsimp only at r1 r2 r3 r4 r5
  have hc2 := b3.2.1
  have hbn := z_nat (n := B + (m + C.length + A.length)) (by omega)
  have tc : TE D2 cnt2 (mH2.2.2.2.2.2.2.2.1 (m + C.length - 1)) T := by
    rw [b8 _ (by omega)]
    exact a9.ext b4 b5
  obtain ⟨y, y1, y2⟩ := rix_of (mQ := mQ) (mH := mH2) (D := D2) (cnt := cnt2) (m := m + C.length) (l := l1) (L := A) (T := lstT La) e1 (by omega) (by omega) b9 (fun w => by rw [h1 w]; rfl)
  have hst : nI s ≠ u.1 → OKR D2 cnt2 (ownW T La) → MF mH2 D2 cnt2 (ownW T La) (lstT (if knd T = 11 then [] else [whlT T (lstT La)])) (f8_foldStatement N (nI (B + (m + C.length + A.length))) mQ mN mH2) := by
    intro _ ok
    refine m_s8 (x := mH2.2.2.2.2.2.2.2.1 (m + C.length - 1)) (y := y) e7 b3 (z_gd (by omega) (by omega)) (by rw [hbn]; exact r1) ?_ (by rw [hbn, r3]; exact y1) tc y2 ok
    rw [hbn, r2, nid, show B + m + C.length - 1 = B + (m + C.length - 1) by omega]
    exact m_ofn e1 (by omega) (by omega)
  have hol : (ownW T La).length ≤ 2 := by
    unfold ownW
    split
    · exact Nat.zero_le _
    · exact Nat.le_refl _
  obtain ⟨mH4, D4, cnt4, k1, k2, k3, k4, k5, k6, k7, k8⟩ := g_stn (d := dty u S) (rZ := rcZ ++ (raZ ++ ownW TZ LaZ)) hE (by omega) hs (k := 8) (by omega) r1 r5 b3 hst (fun w R hR => ((q4 w R hR).ext a4 a5).ext b4 b5) (fun w w2 R hR => by
    obtain ⟨t1, t2⟩ := hcl w w2
    rw [t1, t2] at hR
    exact List.mem_append_right _ (List.mem_append_right _ hR)) hol (by omega)
  refine ⟨mH4, D4, cnt4, ?_, by omega, k2, (a4.trans b4 a5).trans k3 (by omega), by omega, by omega, ?_, ?_, ?_⟩
  · have := (a1.trans b1).trans (show FGM N mQ mN mL mm B mH2 (m + (C.length + A.length)) mH4 1 by rw [← Nat.add_assoc]; exact k1)
    rw [show C.length + A.length + 1 = C.length + (A.length + (0 + 1)) by omega] at this
    exact this
  · intro R hR
    rcases List.mem_append.mp hR with hR | hR
    · exact ((a7 R hR).ext b4 b5).ext k3 k4
    · rcases List.mem_append.mp hR with hR | hR
      · exact (b7 R hR).ext k3 k4
      · exact k6 R hR
  · intro j hj
    rw [k7 j (by omega), b8 j (by omega), a8 j hj]
  · rw [show m + (C.length + (A.length + (0 + 1))) - 1 = m + C.length + A.length by omega]
    exact k8
end
