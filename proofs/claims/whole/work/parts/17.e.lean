/-! FOLDING in the reference: a clean tree asks for what the unchanged one asks -/
section
variable {u : MTN}
theorem rl_fa {S : Type} {sf : S → List Ste} {rf : MTN → S → List FT} (h : ∀ x, CLN u (sf x) → rf u x = rf uZ x) : ∀ x, CLN u (sFa sf x) → rFa u (rf u) x = rFa uZ (rf uZ) x := by
  intro x hc
  rcases x with (⟨s, v⟩ | ⟨s, k⟩) | y
  · have := (CLN.cons hc).1
    show [cstT (ov u s v)] = [cstT (ov uZ s v)]
    rw [ov_cl this]
  · rfl
  · exact h y hc
theorem rl_sub : ∀ d x, CLN u (sSub d x) → rSub u d x = rSub uZ d x := by
  intro d
  induction d with
  | zero => intro x _; rfl
  | succ d ih =>
    have f1 := cl_fa (u := u) (ff := fun u => fSub u d) (cl_sub d)
    have r1 := rl_fa (u := u) (rf := fun u => rSub u d) ih
    have f2 := cl_ch (u := u) (K := 0) (cb := fSum) (ff := fun u => fFa u (fSub u d)) f1
    have r2 := rl_ch (u := u) (K := 0) (cb := fSum) (ff := fun u => fFa u (fSub u d)) (rf := fun u => rFa u (rSub u d)) f1 r1
    exact rl_ch (u := u) (K := 0) (cb := fSum) (ff := fun u => fCh u fSum (fFa u (fSub u d))) (rf := fun u => rCh u fSum (fFa u (fSub u d)) (rFa u (rSub u d))) f2 r2
theorem rl_ex (d : Nat) : ∀ x, CLN u (sEx d x) → rEx u d x = rEx uZ d x := by
  have f1 := cl_fa (u := u) (ff := fun u => fSub u d) (cl_sub d)
  have r1 := rl_fa (u := u) (rf := fun u => rSub u d) (rl_sub d)
  have f2 := cl_ch (u := u) (K := 0) (cb := fSum) (ff := fun u => fFa u (fSub u d)) f1
  have r2 := rl_ch (u := u) (K := 0) (cb := fSum) (ff := fun u => fFa u (fSub u d)) (rf := fun u => rFa u (rSub u d)) f1 r1
  exact rl_ch (u := u) (K := 0) (cb := fSum) (ff := fun u => fTe u d) (rf := fun u => rTe u d) f2 r2
theorem rl_at {S : Type} {d : Nat} {sf : S → List Ste} {rf : MTN → S → List FT} (h : ∀ x, CLN u (sf x) → rf u x = rf uZ x) : ∀ x, CLN u (sAt d sf x) → rAt u d (rf u) x = rAt uZ d (rf uZ) x := by
  intro x hc
  rcases x with x | y
  · have hf : fCm u d x = fCm uZ d x := cl_at (u := u) (S := S) (d := d) (sf := sf) (ff := fun _ _ => nilT) (fun _ _ => rfl) (.inl x) hc
    obtain ⟨c1, c2⟩ := CLN.app hc
    obtain ⟨c2, c3⟩ := c2.cons
    show rEx u d x.1 ++ rEx u d x.2.2.2 ++ [fCm u d x] = rEx uZ d x.1 ++ rEx uZ d x.2.2.2 ++ [fCm uZ d x]
    rw [hf, rl_ex d _ c1, rl_ex d _ c3]
  · exact h y hc
theorem rl_csub : ∀ d x, CLN u (sCSub d x) → rCSub u d x = rCSub uZ d x := by
  intro d
  induction d with
  | zero => intro x _; rfl
  | succ d ih =>
    have f1 := cl_at (u := u) (d := d) (ff := fun u => fCSub u d) (cl_csub d)
    have r1 := rl_at (u := u) (d := d) (rf := fun u => rCSub u d) ih
    have f2 := cl_ch (u := u) (K := 2) (cb := fBth) (ff := fun u => fAt u d (fCSub u d)) f1
    have r2 := rl_ch (u := u) (K := 2) (cb := fBth) (ff := fun u => fAt u d (fCSub u d)) (rf := fun u => rAt u d (rCSub u d)) f1 r1
    exact rl_ch (u := u) (K := 2) (cb := fBth) (ff := fun u => fCh u fBth (fAt u d (fCSub u d))) (rf := fun u => rCh u fBth (fAt u d (fCSub u d)) (rAt u d (rCSub u d))) f2 r2
theorem rl_co (d : Nat) : ∀ x, CLN u (sCo d x) → rCo u d x = rCo uZ d x := by
  have f1 := cl_at (u := u) (d := d) (ff := fun u => fCSub u d) (cl_csub d)
  have r1 := rl_at (u := u) (d := d) (rf := fun u => rCSub u d) (rl_csub d)
  have f2 := cl_ch (u := u) (K := 2) (cb := fBth) (ff := fun u => fAt u d (fCSub u d)) f1
  have r2 := rl_ch (u := u) (K := 2) (cb := fBth) (ff := fun u => fAt u d (fCSub u d)) (rf := fun u => rAt u d (rCSub u d)) f1 r1
  exact rl_ch (u := u) (K := 2) (cb := fBth) (ff := fun u => fPa u d) (rf := fun u => rPa u d) f2 r2
end
