/-! THE LAW'S HELPERS: static methods that catch -/
def NCS (U : State) : Prop := va_Nc ISE IAE U ∧ va_Nc IOB ISE U ∧ va_Nc IAE ISE U ∧ va_Nc IAE IOB U
theorem NCS.moved {s U : State} (hvm : s.vm.Alike U.vm) (h : NCS s) : NCS U := ⟨h.1.moved hvm, h.2.1.moved hvm, h.2.2.1.moved hvm, h.2.2.2.moved hvm⟩
def PRW (V : EV) (w : va_W) (sz : Nat) (U : State) : Prop := PRE V w sz U ∧ NCS U
theorem PRW.blind {V : EV} {w : va_W} {sz : Nat} {As : List Value} : FrameBlind (va_Pc As (PRW V w sz)) := fun a U g mk h => ⟨h.1, ⟨h.2.1.1, h.2.1.2.1, ENV.same (s := U) rfl h.2.1.2.2.1, h.2.1.2.2.2⟩, h.2.2⟩
/-- it returns, and may make one cell -/
def MW (V : EV) (l : Launch) (y : MethodName) (cc : ByteArray) (nL : Nat) (hh : List (Nat × Nat × Nat × Nat)) (fr lo : Nat) (As : List Value) (w : va_W) (r : Int32) (w1 : va_W) : Prop :=
  ∀ sz, Met l y (.codeWith y cc nL (some .int) hh :: GW) (rmX fr lo) (va_Pc As (PRW V w sz)) (va_Qi (fun r' (_ : Unit) => r' = r) (fun _ t => va_P V.1 vwCl w1 t.heap ∧ va_D (va_A w sz) w1) (va_A w sz)) 1 6 (va_A w sz)
theorem mw_fr {V : EV} {l : Launch} {y : MethodName} {cc : ByteArray} {nL fr lo : Nat} {hh : List (Nat × Nat × Nat × Nat)} {As : List Value} {w w1 rest : va_W} {r : Int32} (h : MW V l y cc nL hh fr lo As w r w1) : MW V l y cc nL hh fr lo As (w ++ rest) r (w1 ++ rest) := by
  intro sz
  refine MetFree.mono (h sz) (fun a s hp => ⟨hp.1, pre_fr hp.2.1, hp.2.2⟩) (fun _ _ _ _ _ h => h) (fun a s o t hp hq => ?_)
  obtain ⟨⟨⟨r', u, ho, hr, hP, hD⟩, hF⟩, L, hL, hL2⟩ := hq
  obtain ⟨k1, k2⟩ := rest_fr hp.2.1 hF hP hD
  exact ⟨⟨⟨r', u, ho, hr, k1⟩, k2⟩, L, hL, fun q hq => va_sub (hL2 q hq)⟩
theorem mw_of {V : EV} {l : Launch} {y : MethodName} {cc : ByteArray} {nL fr lo : Nat} {hh : List (Nat × Nat × Nat × Nat)} {As : List Value} {w w1 : va_W} {r : Int32} (hl0 : l.stackTraces = false) (hy : plainName y.cls = true) (hA : (lg_sl As).length ≤ nL)
    (hb : ∀ (p : Program) (e : Env) (R : Room) (s : State) (m : MethodId) (args : Array Value) (below : List Frame) (meth : Method) (c : Code) (Q : State → Prop) (A : Nat → Prop), CX V p l R s m args c A 0 0 y.cls cc nL fr lo → (0 + 1 ≤ R.cells ∧ 0 + 6 ≤ R.slots) → NCS s → c.exceptionTable.toList = tableOf hh → (∀ kc ks, kc ≤ 1 → ks ≤ 6 → RI V p l e R s m args below meth c Q A kc ks nL cc .int r w1) → WC V p l e R s m args below meth c Q A 0 0 nL w 0 (lv_args 0 As) []) : MW V l y cc nL hh fr lo As w r w1 := by
  intro sz
  refine va_MetW (cc := cc) (maxL := nL) (ret := some .int) (hh := hh) hy rfl ?_
  intro p e s m args below meth c s₁ B hml hv
  obtain ⟨rfl, ⟨hsz, hP, hE, hD0⟩, hN⟩ := hv
  have hx := B.exec
  have hb0 := B.bytes
  have hr := B.returns
  have hts := atoms_spec (ws := .codeWith y cc nL (some .int) hh :: GW) B.pre
  have hown : s.vm.findClass y.cls = some m.cls := findClass_of_methodNamed B.named
  have hlocks := B.notSynchronized
  have htab := vx_table (x := y) B (hts _ List.mem_cons_self)
  subst hsz
  have hS : va_S (va_A w s.heap.size) s.heap s.heap [] := va_S.rf
  have hl := lv_entry As (n := nL) hA
  rw [lg_entry_eq]
  generalize (lg_sl As ++ List.replicate (nL - (lg_sl As).length) Slot.unset).toArray = ls at hl ⊢
  refine hb p e (rmX fr lo) s m As.toArray below meth c _ (va_A w s.heap.size) ⟨hx, hb0, hml, hown, fun x h => hts x (List.mem_cons_of_mem _ h), hE, fun q h => Or.inr h, Nat.le_refl _, Nat.le_refl _, hl0, Nat.zero_le _, Nat.zero_le _⟩ ⟨Nat.le_refl 1, Nat.le_refl 6⟩ hN htab (fun kc ks hkc hks pc L hdg hn H locs ls hP1 hD1 hS1 hl1 => ?_) s.heap [] ls hP hD0.self hS hl
  exact W.widen hkc hks (W.zret hx hb0 hr hn (fun t ht hW => ⟨⟨r, (), rfl, rfl, ⟨by rw [ht]; exact hP1, hD1⟩⟩, hS1.F ht⟩) hS1.2.2 hdg)
section
variable {V : EV} {p : Program} {l : Launch} {e : Env} {R : Room} {s : State} {m : MethodId} {args : Array Value} {below : List Frame} {meth : Method} {c : Code} {Q : State → Prop} {A : Nat → Prop} {own : String} {cc : ByteArray} {kc ks nL fr lo : Nat}
variable {w w1 : va_W} {pc : Nat} {L : List (Nat × Value)} {st st0 : List Value}
theorem CX.up {k n : Nat} (C : CX V p l R s m args c A kc ks own cc nL fr lo) (hk : k ≤ R.cells ∧ n ≤ R.slots) : CX V p l R s m args c A k n own cc nL fr lo :=
  ⟨C.1, C.2.1, C.2.2.1, C.2.2.2.1, C.2.2.2.2.1, C.2.2.2.2.2.1, C.2.2.2.2.2.2.1, C.2.2.2.2.2.2.2.1, C.2.2.2.2.2.2.2.2.1, C.2.2.2.2.2.2.2.2.2.1, hk.1, hk.2⟩
theorem k_astore (C : CX V p l R s m args c A kc ks own cc nL fr lo) {i : Nat} {x : Nat} (hdg : decode cc pc = .ok (.astore i, 2)) (L' : List (Nat × Value)) (hn : i < nL) (hl : (i, Value.ref x) :: L.filter (fun q => !(q.1 == i) && !(q.1 + 1 == i && q.2.category == 2)) = L') (kk : WC V p l e R s m args below meth c Q A kc ks nL w (pc + 2) L' st) : WC V p l e R s m args below meth c Q A kc ks nL w pc L (.ref x :: st) :=
  fun H locs ls hP hD hS h => lv_astore C.1 C.2.1 hdg h hn hl (fun ls' h' => kk H locs ls' hP hD hS h')
/-- a call that throws, and is caught here -/
theorem k_callVic (C : CX V p l R s m args c A kc ks own cc nL fr lo) {Cn E : String} {T : u_T} {N ci idx n maxL f2 l2 b : Nat} {fs : List Value} {y : MethodName} {bytes : ByteArray} {ty : FieldType} {As : List Value} (hM : TI V l y bytes maxL ty f2 l2 (.ref b :: As) w E w1) (hm : ∀ x ∈ wsCV own idx Cn y bytes maxL (some ty), x ∈ GW) (hok : okCV Cn y n) (hR : f2 + 1 ≤ fr ∧ 8 + (maxL + 11) + l2 ≤ lo) (k0 : Nat) (he : w[k0]? = some (b, .inr (ci, fs))) (hc : vwCl[ci]? = some (Cn, T, N)) (hn : As.length = n) (hst : st0 = As.reverse ++ .ref b :: st) (hW : (st.map fun v => v.category).sum ≤ 8) (hdg : decode cc pc = .ok (.invokevirtual idx, 3)) (hk : kc + 1 ≤ R.cells ∧ ks + 6 ≤ R.slots)
    (pre : List ExceptionTableEntry) (x : ExceptionTableEntry) (suf : List ExceptionTableEntry) (hsplit : c.exceptionTable.toList = pre ++ x :: suf) (hpass : ∀ z ∈ pre, covers z pc = false ∨ (z.catchType ≠ 0 ∧ ∃ nm : String, (Cond.classLink own z.catchType nm).before args s = true ∧ va_Nc E nm s)) (hx : covers x pc = true) (h0 : x.catchType ≠ 0) (hlink : Cond.classLink own x.catchType E ∈ GW) (hcast : Cond.castable E E ∈ badX)
    (kk : ∀ q9, WC V p l e R s m args below meth c Q A (kc + 1) (ks + 6) nL w1 x.handlerPc L [.ref q9]) : WC V p l e R s m args below meth c Q A kc ks nL w pc L st0 := by
  intro H locs ls hP hD hS hl
  have hF := free_in C hD hS
  refine vx_calli (vx_runV (As := As) (rest := st) ⟨C.1, C.2.1, C.2.2.1, C.2.2.2.1, C.2.2.2.2.1⟩ (hM H.size) (cw_V C hm hok hR) ⟨PRE.blind, va_recv C.2.2.2.2.2.1.1 hP hc he, fun U hU hW => ⟨rfl, pre_at C hP hD hS U hU hW⟩⟩ rfl hn hl.1 hst (lv_room hW) hdg hk) hS (fun q _ h => hF q h) hF (fun q _ h => hF q h) (fun E' ce q9 u t H1 locs1 ht hvm _ hB hz1 hk1 hS1 hce hcv hcl => ?_) (fun r' u t H1 locs1 ht hvm hw => hw.elim)
  obtain ⟨rfl, hP1, hD1⟩ := hB
  rw [ht] at hP1
  exact vx_catch C.2.2.2.1 pre x suf hsplit hpass hx h0 (C.2.2.2.2.1 _ hlink) (bad_of C.2.2.2.2.2.1 hcast) hce hcv hcl (kk q9 H1 locs1 ls hP1 (hD1.weaken fun _ _ _ h => hF _ h) hS1 hl)
/-- a call of such a helper -/
def wsCW (own : String) (idx : Nat) (y : MethodName) (bytes : ByteArray) (maxL : Nat) (hh : List (Nat × Nat × Nat × Nat)) : List Cond := [.methodLink own idx y, .static y, .initialized y.cls, .codeWith y bytes maxL (some .int) hh]
theorem k_callSW (C : CX V p l R s m args c A kc ks own cc nL fr lo) {idx n maxL f2 l2 : Nat} {hh : List (Nat × Nat × Nat × Nat)} {y : MethodName} {bytes : ByteArray} {r : Int32} {As : List Value} (hM : MW V l y bytes maxL hh f2 l2 As w r w1) (hN : NCS s) (hm : ∀ x ∈ wsCW own idx y bytes maxL hh, x ∈ GW) (hok : okCV y.cls y n) (hR : f2 + 1 ≤ fr ∧ 8 + (maxL + 11) + l2 ≤ lo) (hk : kc + 1 ≤ R.cells ∧ ks + 6 ≤ R.slots) (hn : As.length = n) (hst : st0 = As.reverse ++ st) (hW : (st.map fun v => v.category).sum ≤ 8) (hdg : decode cc pc = .ok (.invokestatic idx, 3))
    (kk : WC V p l e R s m args below meth c Q A (kc + 1) (ks + 6) nL w1 (pc + 3) L (.int r :: st)) : WC V p l e R s m args below meth c Q A kc ks nL w pc L st0 := by
  intro H locs ls hP hD hS hl
  have hF := free_in C hD hS
  have cw : vx_CSW R s args own idx y bytes maxL (some .int) hh (.codeWith y bytes maxL (some .int) hh :: GW) (rmX f2 l2) 1 6 n := by
    refine vx_cwSW (ws' := GW) n C.2.2.2.2.1 (goodL fun x hx => ?_) rfl rfl rfl hok.2 ⟨Nat.le_trans hR.1 C.2.2.2.2.2.2.2.1, Nat.le_trans hR.2 C.2.2.2.2.2.2.2.2.1⟩
    unfold va_wsS at hx
    simp only [List.cons_append, List.nil_append, List.mem_cons] at hx
    rcases hx with rfl | rfl | rfl | rfl | hx
    · exact hm _ (by simp [wsCW])
    · exact hm _ (by simp [wsCW])
    · exact hm _ (by simp [wsCW])
    · exact hm _ (by simp [wsCW])
    · exact hx
  refine va_calli (vx_runSW (As := As) (rest := st) ⟨C.1, C.2.1, C.2.2.1, C.2.2.2.1, C.2.2.2.2.1⟩ (hM H.size) cw ⟨PRW.blind, fun U hU hW => ⟨rfl, pre_at C hP hD hS U hU hW, hN.moved hW.alike⟩⟩ rfl hn hl.1 hst (lv_room hW) hdg hk) hS (fun q _ h => hF q h) hF (fun r' u t H1 locs1 ht hvm hw hB hz1 hk1 hS1 => ?_)
  subst hw
  rw [ht] at hB
  exact kk H1 locs1 ls hB.1 (hB.2.weaken fun _ _ _ h => hF _ h) hS1 hl
end
