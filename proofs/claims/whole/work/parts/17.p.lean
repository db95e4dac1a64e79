/-! FOLDING in the reference: the walk over all nodes -/
section
variable {N : Nat} {mQ : MdQ} {mN : MdN} {mL : MdL} {mm B nn : Nat} {u : MTN} {b : Bool}
theorem g_st {S : Type} {d : Nat} {it : Nat → Nat → S → Prop} {nf : Nat → S → List Nde} {sf : S → List Ste} {cf wf : S → Nat} {ff rf : MTN → S → List FT} (hE : EN8 N mQ mN mL mm B nn u)
    (h : ∀ x, IW it x → OKN8 u (sf x) → wf x ≤ 60 → MGS N mQ mN mL mm B nn b (fun m => nf m x) (cf x) (rf uZ x) (rf u x) (ff u x)) :
    ∀ x, IW (iSt d it) x → OKN8 u (sSt d sf x) → wSt d wf x ≤ 60 → MGS N mQ mN mL mm B nn b (fun m => nSt B d nf m x) (cSt u b d cf x) (rSt uZ d (rf uZ) x) (rSt u d (rf u) x) (fSt u d (ff u) x) := by
  intro x hi ho hw
  rcases x with x | y
  · exact g_sm hE d x hi ho
  · exact h y hi ho hw
theorem g_bsub (hE : EN8 N mQ mN mL mm B nn u) : ∀ d x, IW (iBSub d) x → OKN8 u (sBSub d x) → wBSub d x ≤ 60 → MGS N mQ mN mL mm B nn b (fun m => nBSub B d m x) (cBSub u b d x) (rBSub uZ d x) (rBSub u d x) (fBSub u d x) := by
  intro d
  induction d with
  | zero => intro x; exact x.elim
  | succ d ih =>
    intro x hi ho hw
    obtain ⟨s, c, x⟩ := x
    have hrow := g_row (b := b) (B := B) (it := iSt d (iBSub d)) (nf := nSt B d (nBSub B d)) (sf := sSt d (sBSub d)) (cf := cSt u b d (cBSub u b d)) (wf := wSt d (wBSub d)) (wj := wjS d (wjB d)) (ff := fun u => fSt u d (fBSub u d)) (rf := fun u => rSt u d (rBSub u d)) hE (clf_st (ff := fun u => fBSub u d) (clf_bsub d)) (st_len (bsub_len d)) (wj_st (wj_bsub d)) (nn_st (nn_bsub d)) (g_st (ff := fun u => fBSub u d) (rf := fun u => rBSub u d) hE ih)
    have hf := clf_flat (u := u) (ff := fun u => fSt u d (fBSub u d)) (clf_st (d := d) (ff := fun u => fBSub u d) (clf_bsub d))
    obtain ⟨p, p', hs, p1, i1, i2⟩ := hi
    have hoo := ho
    rw [sBSub] at hoo
    obtain ⟨o1, o2⟩ := hoo.cons
    have hs60 : s < 60 := o1.1
    have hz : ¬ nI s = uZ.1 := nI_m1 (by omega)
    have hco := g_co (b := b) hE (d + 1) c ⟨_, _, i1⟩ o2.app.1
    rcases x with ⟨r1, r2⟩ | r
    · have ew : wBSub (d + 1) (s, c, .inl (r1, r2)) = max 1 (kRw (wSt d (wBSub d)) r1 + kRw (wSt d (wBSub d)) (r2.getD [])) := rfl
      have iw : IW (iRow (iSt d (iBSub d))) r1 ∧ IW (iRow (iSt d (iBSub d))) (r2.getD []) := by
        rcases r2 with _ | t
        · obtain ⟨p2, i3, _⟩ := i2
          exact ⟨⟨_, _, i3⟩, ⟨0, 0, rfl⟩⟩
        · obtain ⟨p2, ⟨p3, i3, _⟩, ⟨p4, i4, _⟩⟩ := i2
          exact ⟨⟨_, _, i3⟩, ⟨_, _, i4⟩⟩
      have o3 := o2.app.2
      dsimp only at o3
      have g := g_if (l1 := r1) (l2 := r2.getD []) (S := (sBSub (d + 1) (s, c, .inl (r1, r2))).tail) (TZ := fCo uZ (d + 1) c) (LaZ := cutR (fFlat (fSt uZ d (fBSub uZ d)) r1)) (LbZ := cutR (fFlat (fSt uZ d (fBSub uZ d)) (r2.getD []))) hE hs60 hco (hrow r1 iw.1 o3.app.1 (by omega)) (hrow (r2.getD []) iw.2 o3.app.2 (by omega)) (fun w => by rw [w]; rfl) (fun w => by rw [w]; rfl) (fun w w2 => by
        have c2 := o2.cl w
        have c3 := c2.app.2
        dsimp only at c3
        exact ⟨cl_co (d + 1) c c2.app.1, by rw [hf r1 c3.app.1], by rw [hf _ c3.app.2]⟩)
      have en : (fun m => nBSub B (d + 1) m (s, c, .inl (r1, r2))) = (fun m => nCo B (d + 1) m c ++ (nRow B (nSt B d (nBSub B d)) (m + (nCo B (d + 1) m c).length) r1 ++ (nRow B (nSt B d (nBSub B d)) (m + (nCo B (d + 1) m c).length + (nRow B (nSt B d (nBSub B d)) (m + (nCo B (d + 1) m c).length) r1).length) (r2.getD []) ++ [(7, nid B m (nCo B (d + 1) m c), nRix B (m + (nCo B (d + 1) m c).length) r1 (nRow B (nSt B d (nBSub B d)) (m + (nCo B (d + 1) m c).length) r1), nRix B (m + (nCo B (d + 1) m c).length + (nRow B (nSt B d (nBSub B d)) (m + (nCo B (d + 1) m c).length) r1).length) (r2.getD []) (nRow B (nSt B d (nBSub B d)) (m + (nCo B (d + 1) m c).length + (nRow B (nSt B d (nBSub B d)) (m + (nCo B (d + 1) m c).length) r1).length) (r2.getD [])), nI s)]))) := by
        funext m
        rcases r2 with _ | t
        · rw [nBSub]
          dsimp only
          rw [List.append_assoc]
          rfl
        · rw [nBSub]
          dsimp only
          rw [List.append_assoc, List.append_assoc]
          rfl
      have er : rBSub uZ (d + 1) (s, c, .inl (r1, r2)) = rCo uZ (d + 1) c ++ (rRow (fSt uZ d (fBSub uZ d)) (rSt uZ d (rBSub uZ d)) r1 ++ rRow (fSt uZ d (fBSub uZ d)) (rSt uZ d (rBSub uZ d)) (r2.getD []) ++ ownI (fCo uZ (d + 1) c) (cutR (fFlat (fSt uZ d (fBSub uZ d)) r1)) (cutR (fFlat (fSt uZ d (fBSub uZ d)) (r2.getD [])))) := by
        rw [rBSub]
        dsimp only
        rw [if_neg hz]
      rw [en, er]
      exact g
    · have ew : wBSub (d + 1) (s, c, .inr r) = max 1 (kRw (wSt d (wBSub d)) r) := rfl
      obtain ⟨p2, i3, _⟩ := i2
      have g := g_while (l1 := r) (S := (sBSub (d + 1) (s, c, .inr r)).tail) (TZ := fCo uZ (d + 1) c) (LaZ := cutR (fFlat (fSt uZ d (fBSub uZ d)) r)) hE hs60 hco (hrow r ⟨_, _, i3⟩ o2.app.2 (by omega)) (fun w => by rw [w]; rfl) (fun w w2 => by
        have c2 := o2.cl w
        exact ⟨cl_co (d + 1) c c2.app.1, by rw [hf r c2.app.2]⟩)
      have en : (fun m => nBSub B (d + 1) m (s, c, .inr r)) = (fun m => nCo B (d + 1) m c ++ (nRow B (nSt B d (nBSub B d)) (m + (nCo B (d + 1) m c).length) r ++ [(8, nid B m (nCo B (d + 1) m c), nRix B (m + (nCo B (d + 1) m c).length) r (nRow B (nSt B d (nBSub B d)) (m + (nCo B (d + 1) m c).length) r), 0, nI s)])) := by
        funext m
        rw [nBSub]
        dsimp only
        rw [List.append_assoc]
      have er : rBSub uZ (d + 1) (s, c, .inr r) = rCo uZ (d + 1) c ++ (rRow (fSt uZ d (fBSub uZ d)) (rSt uZ d (rBSub uZ d)) r ++ ownW (fCo uZ (d + 1) c) (cutR (fFlat (fSt uZ d (fBSub uZ d)) r))) := by
        rw [rBSub]
        dsimp only
        rw [if_neg hz]
      rw [en, er]
      exact g
theorem g_ro (hE : EN8 N mQ mN mL mm B nn u) (d : Nat) : ∀ x, IW (iRo d) x → OKN8 u (sRo d x) → wRo d x ≤ 60 → MGR N mQ mN mL mm B nn b (fun m => nRo B d m x) (cRo u b d x) (rRo uZ d x) (rRo u d x) (x ≠ []) (fRo u d x) :=
  g_row (b := b) (B := B) (it := iSt d (iBSub d)) (nf := nSt B d (nBSub B d)) (sf := sSt d (sBSub d)) (cf := cSt u b d (cBSub u b d)) (wf := wSt d (wBSub d)) (wj := wjS d (wjB d)) (ff := fun u => fSt u d (fBSub u d)) (rf := fun u => rSt u d (rBSub u d)) hE (clf_st (ff := fun u => fBSub u d) (clf_bsub d)) (st_len (bsub_len d)) (wj_st (wj_bsub d)) (nn_st (nn_bsub d)) (g_st (ff := fun u => fBSub u d) (rf := fun u => rBSub u d) hE (g_bsub hE d))
end
