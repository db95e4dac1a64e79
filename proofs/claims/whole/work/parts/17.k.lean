/-! FOLDING in the reference: expressions and conditions -/
section
variable {N : Nat} {mQ : MdQ} {mN : MdN} {mL : MdL} {mm B nn : Nat} {u : MTN} {b : Bool}
theorem g_fa {S : Type} {it : Nat → Nat → S → Prop} {nf : Nat → S → List Nde} {sf : S → List Ste} {cf : S → Nat} {ff : MTN → S → FT} {rf : MTN → S → List FT} (hE : EN8 N mQ mN mL mm B nn u)
    (h : ∀ x, IW it x → OKN8 u (sf x) → MGE N mQ mN mL mm B nn b (fun m => nf m x) (cf x) (rf uZ x) (rf u x) (ff u x)) :
    ∀ x, IW (iFa it) x → OKN8 u (sFa sf x) → MGE N mQ mN mL mm B nn b (fun m => nFa nf m x) (cFa u b cf x) (rFa uZ (rf uZ) x) (rFa u (rf u) x) (fFa u (ff u) x) := by
  intro x hi ho
  obtain ⟨p, p', hi⟩ := hi
  rcases x with x | y
  · refine g_leaf hE x (fun s v e => ?_) (fun s k e => ?_)
    · subst e
      exact (ho _ List.mem_cons_self).1
    · subst e
      exact hi.2.1
  · obtain ⟨p1, h1, _⟩ := hi
    exact h y ⟨_, _, h1⟩ ho
theorem g_sub (hE : EN8 N mQ mN mL mm B nn u) : ∀ d x, IW (iSub d) x → OKN8 u (sSub d x) → MGE N mQ mN mL mm B nn b (fun m => nSub B d m x) (cSub u b d x) (rSub uZ d x) (rSub u d x) (fSub u d x) := by
  intro d
  induction d with
  | zero => intro x; exact x.elim
  | succ d ih =>
    have hJ := jno3 (mQ := mQ) (mN := mN) hE.2.2.2.2.2.2
    have h1 := g_fa (ff := fun u => fSub u d) (rf := fun u => rSub u d) hE ih
    have h2 := g_ch (op := isMul) (ff := fun u => fFa u (fSub u d)) (rf := fun u => rFa u (rSub u d)) hE hJ (by omega) (cl_fa (ff := fun u => fSub u d) (cl_sub d)) h1
    exact g_ch (op := isAdd) (ff := fun u => fCh u fSum (fFa u (fSub u d))) (rf := fun u => rCh u fSum (fFa u (fSub u d)) (rFa u (rSub u d))) hE hJ (by omega) (cl_ch (ff := fun u => fFa u (fSub u d)) (cl_fa (ff := fun u => fSub u d) (cl_sub d))) h2
theorem g_ex (hE : EN8 N mQ mN mL mm B nn u) (d : Nat) : ∀ x, IW (iEx d) x → OKN8 u (sEx d x) → MGE N mQ mN mL mm B nn b (fun m => nEx B d m x) (cEx u b d x) (rEx uZ d x) (rEx u d x) (fEx u d x) := by
  have hJ := jno3 (mQ := mQ) (mN := mN) hE.2.2.2.2.2.2
  have h1 := g_fa (b := b) (ff := fun u => fSub u d) (rf := fun u => rSub u d) hE (g_sub hE d)
  have h2 := g_ch (op := isMul) (ff := fun u => fFa u (fSub u d)) (rf := fun u => rFa u (rSub u d)) hE hJ (by omega) (cl_fa (ff := fun u => fSub u d) (cl_sub d)) h1
  exact g_ch (op := isAdd) (ff := fun u => fTe u d) (rf := fun u => rTe u d) hE hJ (by omega) (cl_ch (ff := fun u => fFa u (fSub u d)) (cl_fa (ff := fun u => fSub u d) (cl_sub d))) h2
theorem g_cm (hE : EN8 N mQ mN mL mm B nn u) (d : Nat) : ∀ x, IW (iCm d) x → OKN8 u (sCm d x) → MGE N mQ mN mL mm B nn b (fun m => nCm B d m x) (cEx u b d x.1 + cEx u b d x.2.2.2 + (if b || dty u (sCm d x) then 1 else 0)) (rEx uZ d x.1 ++ rEx uZ d x.2.2.2 ++ [fCm uZ d x]) (rEx u d x.1 ++ rEx u d x.2.2.2 ++ [fCm u d x]) (fCm u d x) := by
  intro x hi ho m mH D cnt h2 h3 h4 h5 h6
  obtain ⟨l, s, n, x⟩ := x
  obtain ⟨p, p', i1, i2, i3⟩ := hi
  dsimp only at i1 i2 i3 h2 h3 h5 h6 ⊢
  have hEE := hE
  obtain ⟨e1, e2, e3, e4, e5, e6, e7⟩ := hEE
  have hcl : dty u (sCm d (l, s, n, x)) = false → fCm u d (l, s, n, x) = fCm uZ d (l, s, n, x) := by
    intro w
    have c := ho.cl w
    rw [sCm] at c
    dsimp only at c
    obtain ⟨c1, c2⟩ := c.app
    obtain ⟨c2, c3⟩ := c2.cons
    show fCmp (ov u s n) (fEx u d l) (fEx u d x) = fCmp (ov uZ s n) (fEx uZ d l) (fEx uZ d x)
    rw [ov_cl c2, cl_ex d _ c1, cl_ex d _ c3]
  have hoo := ho
  rw [sCm] at hoo
  dsimp only at hoo
  obtain ⟨o1, o2⟩ := hoo.app
  obtain ⟨o2, o3⟩ := o2.cons
  rw [nCm] at h2 h3 ⊢
  dsimp only at h2 h3 ⊢
  obtain ⟨c1, c3⟩ := h2.app
  obtain ⟨c1, c2⟩ := c1.app
  simp only [List.length_append, List.length_cons, List.length_nil] at h3 c3 ⊢
  obtain ⟨mH1, D1, cnt1, a1, a2, a3, a4, a5, a6, a7, a8, a10⟩ := g_ex (b := b) hE d l ⟨_, _, i1⟩ o1 m mH D cnt c1 (by dsimp only; omega) h4 (fun w R hR => h5 w R (by rw [List.append_assoc]; exact List.mem_append_left _ hR)) (by omega)
  dsimp only at a1 a2 a10
  obtain ⟨mH2, D2, cnt2, b1, b2, b3, b4, b5, b6, b7, b8, b10⟩ := g_ex (b := b) hE d x ⟨_, _, i3⟩ o3 (m + (nEx B d m l).length) mH1 D1 cnt1 c2 (by dsimp only; omega) a3 (fun w R hR => (h5 w R (by rw [List.append_assoc]; exact List.mem_append_right _ (List.mem_append_left _ hR))).ext a4 a5) (by omega)
  dsimp only at b1 b2 b10
  obtain ⟨o, ho1, ho2⟩ := o2.sg (by omega)
  obtain ⟨r1, r2, r3, r4, r5⟩ := c3.one
  dsimp only at r1 r2 r3 r4 r5
  have hT1 : TE D2 cnt2 (mH2.2.2.2.2.2.2.2.1 (m + (nEx B d m l).length - 1)) (fEx u d l) := by
    rw [b8 _ (by omega)]
    exact a10.ext b4 b5
  have hbb : b = false → ∀ R, R ∈ rEx uZ d l ++ rEx uZ d x ++ [fCm uZ d (l, s, n, x)] → HAS D2 cnt2 R := fun w R hR => ((h5 w R hR).ext a4 a5).ext b4 b5
  have hdd : dty u (sCm d (l, s, n, x)) = false → ∀ R, R ∈ [fCm u d (l, s, n, x)] → R ∈ rEx uZ d l ++ rEx uZ d x ++ [fCm uZ d (l, s, n, x)] := by
    intro w R hR
    rw [List.mem_singleton.mp hR, hcl w]
    exact List.mem_append_right _ List.mem_cons_self
  have hok := okr_of (Rq := [fCm u d (l, s, n, x)]) hbb hdd (by show cnt2 + (if _ then 1 else 0) ≤ 4200; omega)
  have hbn := z_nat (n := B + (m + ((nEx B d m l).length + (nEx B d (m + (nEx B d m l).length) x).length))) (by omega)
  have mf : MF mH2 D2 cnt2 [fCm u d (l, s, n, x)] (fCm u d (l, s, n, x)) (f8_foldNode N (nI (B + (m + ((nEx B d m l).length + (nEx B d (m + (nEx B d m l).length) x).length)))) (if nI s = u.1 then (1 : Int32) else 0) (ov u s n) mQ mN mH2) := by
    have hh : fCm u d (l, s, n, x) = fCmp (nI o) (fEx u d l) (fEx u d x) := by rw [← ho2]; rfl
    rw [hh] at hok ⊢
    rw [ho2]
    refine m_n4 e7 ho1 b3 (x := mH2.2.2.2.2.2.2.2.1 (m + (nEx B d m l).length - 1)) (y := mH2.2.2.2.2.2.2.2.1 (m + (nEx B d m l).length + (nEx B d (m + (nEx B d m l).length) x).length - 1)) (z_gd (by omega) (by omega)) (by rw [hbn]; exact r1) ?_ ?_ hT1 b10 hok
    · rw [hbn, r3, nid, show B + m + (nEx B d m l).length - 1 = B + (m + (nEx B d m l).length - 1) by omega]
      exact m_ofn e1 (by omega) (by omega)
    · rw [hbn, r4, nid, show B + (m + (nEx B d m l).length) + (nEx B d (m + (nEx B d m l).length) x).length - 1 = B + (m + (nEx B d m l).length + (nEx B d (m + (nEx B d m l).length) x).length - 1) by omega]
      exact m_ofn e1 (by omega) (by omega)
  obtain ⟨mH3, D3, cnt3, k1, k2, k3, k4, k5, k6, k7, k8, k9⟩ := m_go hE (by omega) (w_site o2.1 r2 r5) mf
  have k5' := cnt_of hbb hdd k5 k6
  have k5' : cnt3 ≤ cnt2 + (if (b || dty u (sCm d (l, s, n, x))) = true then 1 else 0) := k5'
  have hc3 := k2.2.1
  refine ⟨mH3, D3, cnt3, ?_, by omega, k2, (a4.trans b4 a5).trans k3 (by omega), by omega, by omega, ?_, ?_, ?_⟩
  · exact (a1.trans b1).trans k1
  · intro R hR
    rcases List.mem_append.mp hR with hR | hR
    · rcases List.mem_append.mp hR with hR | hR
      · exact ((a7 R hR).ext b4 b5).ext k3 k4
      · exact (b7 R hR).ext k3 k4
    · exact k7 R hR
  · intro j hj
    rw [k8 j (by omega), b8 j (by omega), a8 j hj]
  · rw [show m + ((nEx B d m l).length + (nEx B d (m + (nEx B d m l).length) x).length + (0 + 1)) - 1 = m + ((nEx B d m l).length + (nEx B d (m + (nEx B d m l).length) x).length) by omega]
    exact k9.te (by omega) fCmp_nn
theorem g_at {S : Type} {d : Nat} {it : Nat → Nat → S → Prop} {nf : Nat → S → List Nde} {sf : S → List Ste} {cf : S → Nat} {ff : MTN → S → FT} {rf : MTN → S → List FT} (hE : EN8 N mQ mN mL mm B nn u)
    (h : ∀ x, IW it x → OKN8 u (sf x) → MGE N mQ mN mL mm B nn b (fun m => nf m x) (cf x) (rf uZ x) (rf u x) (ff u x)) :
    ∀ x, IW (iAt d it) x → OKN8 u (sAt d sf x) → MGE N mQ mN mL mm B nn b (fun m => nAt B d nf m x) (cAt u b d cf x) (rAt uZ d (rf uZ) x) (rAt u d (rf u) x) (fAt u d (ff u) x) := by
  intro x hi ho
  rcases x with x | y
  · exact g_cm hE d x hi ho
  · obtain ⟨p, p', p1, h1, _⟩ := hi
    exact h y ⟨_, _, h1⟩ ho
theorem g_csub (hE : EN8 N mQ mN mL mm B nn u) : ∀ d x, IW (iCSub d) x → OKN8 u (sCSub d x) → MGE N mQ mN mL mm B nn b (fun m => nCSub B d m x) (cCSub u b d x) (rCSub uZ d x) (rCSub u d x) (fCSub u d x) := by
  intro d
  induction d with
  | zero => intro x; exact x.elim
  | succ d ih =>
    have hJ := jno5 (mQ := mQ) (mN := mN) hE.2.2.2.2.2.2
    have h1 := g_at (d := d) (ff := fun u => fCSub u d) (rf := fun u => rCSub u d) hE ih
    have h2 := g_ch (op := fun c => c == 38) (ff := fun u => fAt u d (fCSub u d)) (rf := fun u => rAt u d (rCSub u d)) hE hJ (by omega) (cl_at (ff := fun u => fCSub u d) (cl_csub d)) h1
    exact g_ch (op := fun c => c == 124) (ff := fun u => fCh u fBth (fAt u d (fCSub u d))) (rf := fun u => rCh u fBth (fAt u d (fCSub u d)) (rAt u d (rCSub u d))) hE hJ (by omega) (cl_ch (ff := fun u => fAt u d (fCSub u d)) (cl_at (ff := fun u => fCSub u d) (cl_csub d))) h2
theorem g_co (hE : EN8 N mQ mN mL mm B nn u) (d : Nat) : ∀ x, IW (iCo d) x → OKN8 u (sCo d x) → MGE N mQ mN mL mm B nn b (fun m => nCo B d m x) (cCo u b d x) (rCo uZ d x) (rCo u d x) (fCo u d x) := by
  have hJ := jno5 (mQ := mQ) (mN := mN) hE.2.2.2.2.2.2
  have h1 := g_at (b := b) (d := d) (ff := fun u => fCSub u d) (rf := fun u => rCSub u d) hE (g_csub hE d)
  have h2 := g_ch (op := fun c => c == 38) (ff := fun u => fAt u d (fCSub u d)) (rf := fun u => rAt u d (rCSub u d)) hE hJ (by omega) (cl_at (ff := fun u => fCSub u d) (cl_csub d)) h1
  exact g_ch (op := fun c => c == 124) (ff := fun u => fPa u d) (rf := fun u => rPa u d) hE hJ (by omega) (cl_ch (ff := fun u => fAt u d (fCSub u d)) (cl_at (ff := fun u => fCSub u d) (cl_csub d))) h2
end
