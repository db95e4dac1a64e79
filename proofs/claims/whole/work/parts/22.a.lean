/-! CONSTRUCTORS: methods that make cells -/
def MC (V : EV) (l : Launch) (y : MethodName) (cc : ByteArray) (nL fr lo mc ms : Nat) (As : List Value) (w : va_W) (wf : (Nat → Nat) → va_W) : Prop :=
  ∀ sz, Met l y (.code y cc nL none :: GW) { frames := fr, cells := mc, slots := ms, locals := lo } (va_Pc As (PRE V w sz)) (va_Qv (fun (_ : Nat → Nat) => True) (fun u t => va_P V.1 vwCl (wf u) t.heap ∧ va_D (va_A w sz) (wf u)) (va_A w sz)) mc ms (va_A w sz)
theorem mc_fr {V : EV} {l : Launch} {y : MethodName} {cc : ByteArray} {nL fr lo mc ms : Nat} {As : List Value} {w rest : va_W} {wf : (Nat → Nat) → va_W} (h : MC V l y cc nL fr lo mc ms As w wf) : MC V l y cc nL fr lo mc ms As (w ++ rest) (fun u => wf u ++ rest) := by
  intro sz
  refine MetFree.mono (h sz) (fun a s hp => ⟨hp.1, pre_fr hp.2⟩) (fun _ _ _ _ _ h => h) (fun a s o t hp hq => ?_)
  obtain ⟨⟨⟨u, ho, hr, hP, hD⟩, hF⟩, L, hL, hL2⟩ := hq
  obtain ⟨k1, k2⟩ := rest_fr hp.2 hF hP hD
  exact ⟨⟨⟨u, ho, hr, k1⟩, k2⟩, L, hL, fun q hq => va_sub (hL2 q hq)⟩
theorem mc_of {V : EV} {l : Launch} {y : MethodName} {cc : ByteArray} {nL fr lo mc ms : Nat} {As : List Value} {w : va_W} {wf : (Nat → Nat) → va_W} (hl0 : l.stackTraces = false) (hy : plainName y.cls = true) (hyn : y.name = "<init>") (hA : (lg_sl As).length ≤ nL)
    (hb : ∀ (p : Program) (e : Env) (R : Room) (s : State) (m : MethodId) (args : Array Value) (below : List Frame) (meth : Method) (c : Code) (Q : State → Prop) (A : Nat → Prop), CX V p l R s m args c A 0 0 y.cls cc nL fr lo → (mc ≤ R.cells ∧ ms ≤ R.slots) → meth.name = "<init>" → (∀ kc ks, kc ≤ mc → ks ≤ ms → ∀ (u : Nat → Nat) (pc : Nat) (L : List (Nat × Value)), decode cc pc = .ok (.return_, 1) → WC V p l e R s m args below meth c Q A kc ks nL (wf u) pc L []) → WC V p l e R s m args below meth c Q A 0 0 nL w 0 (lv_args 0 As) []) : MC V l y cc nL fr lo mc ms As w wf := by
  intro sz
  refine Met.ofW (cc := cc) (maxL := nL) (ret := none) hy rfl ?_
  intro p e s m args below meth c s₁ B hml hv
  obtain ⟨rfl, hsz, hP, hE, hD0⟩ := hv
  have hx := B.exec
  have hb0 := B.bytes
  have hr := B.returns
  have hts := atoms_spec (ws := .code y cc nL none :: GW) B.pre
  have hown : s.vm.findClass y.cls = some m.cls := findClass_of_methodNamed B.named
  have hlocks := B.notSynchronized
  have hin : meth.name = "<init>" := (name_of_methodNamed B.named B.method).1.trans hyn
  subst hsz
  have hS : va_S (va_A w s.heap.size) s.heap s.heap [] := va_S.rf
  have hl := lv_entry As (n := nL) hA
  rw [lg_entry_eq]
  generalize (lg_sl As ++ List.replicate (nL - (lg_sl As).length) Slot.unset).toArray = ls at hl ⊢
  refine hb p e { frames := fr, cells := mc, slots := ms, locals := lo } s m As.toArray below meth c _ (va_A w s.heap.size) ⟨hx, hb0, hml, hown, fun x h => hts x (List.mem_cons_of_mem _ h), hE, fun q h => Or.inr h, Nat.le_refl _, Nat.le_refl _, hl0, Nat.zero_le _, Nat.zero_le _⟩ ⟨Nat.le_refl _, Nat.le_refl _⟩ hin (fun kc ks hkc hks u pc L hdg H locs ls hP1 hD1 hS1 hl1 => ?_) s.heap [] ls hP hD0.self hS hl
  exact W.widen hkc hks (W.vret hx hb0 hr (fun t ht hW => ⟨⟨u, rfl, trivial, ⟨by rw [ht]; exact hP1, hD1⟩⟩, hS1.F ht⟩) hS1.2.2 hdg)
section
variable {V : EV} {p : Program} {l : Launch} {e : Env} {R : Room} {s : State} {m : MethodId} {args : Array Value} {below : List Frame} {meth : Method} {c : Code} {Q : State → Prop} {A : Nat → Prop} {own : String} {cc : ByteArray} {kc ks nL fr lo : Nat}
variable {w w1 : va_W} {pc : Nat} {L : List (Nat × Value)} {st st0 : List Value}
theorem k_objInit (C : CX V p l R s m args c A kc ks own cc nL fr lo) {idx a : Nat} (hlink : Cond.methodLink own idx Lib.objectInit ∈ GW) (hfr : 1 ≤ fr) (hlo : 12 ≤ lo) (hdg : decode cc pc = .ok (.invokespecial idx, 3)) (kk : WC V p l e R s m args below meth c Q A kc ks nL w (pc + 3) L []) : WC V p l e R s m args below meth c Q A kc ks nL w pc L [.ref a] := by
  intro H locs ls hP hD hS hl
  exact W.objInit C.1 C.2.1 C.2.2.2.1 (C.2.2.2.2.1 _ hlink) (C.2.2.2.2.1 _ (gw_1 (i := 29) (by decide +kernel) rfl)) (C.2.2.2.2.1 _ (gw_1 (i := 30) (by decide +kernel) rfl)) rfl (hl.1.trans C.2.2.1.symm) rfl hdg (Nat.le_trans hfr C.2.2.2.2.2.2.2.1) (Nat.le_trans hlo C.2.2.2.2.2.2.2.2.1) (kk H locs ls hP hD hS hl)
theorem k_putF (C : CX V p l R s m args c A kc ks own cc nL fr lo) (hin2 : meth.name = "<init>") {Cn : String} {T : u_T} {N ci index a : Nat} {fs : List Value} {v : Value} {ty : FieldType} {w' : va_W} (ty0 : Nat → FieldType) (hty : ∀ k, k < N → parseFieldDescriptor (T k).2.2.1 = some (ty0 k)) (hnm : ∀ a, a < N → ∀ b, b < N → a ≠ b → (T a).2.1 ≠ (T b).2.1) (k0 : Nat) (he : w[k0]? = some (a, .inr (ci, fs))) (hc : vwCl[ci]? = some (Cn, T, N)) (k : Nat) (hk : k < N) (hin : ∀ x ∈ u_ws Cn T N, x ∈ GW) (hlink : Cond.fieldLink own index own (T k).2.1 (T k).2.2.1 ∈ GW) (hsame : (T k).1 = own) (hfin : (T k).2.2.2 = true) (hd : parseFieldDescriptor (T k).2.2.1 = some ty) (hn : narrow ty v = v) (hfit : fits ty v = true) (hl : k < fs.length) (hw : w.set k0 (a, .inr (ci, fs.set k v)) = w') (hdg : decode cc pc = .ok (.putfield index, 3))
    (kk : WC V p l e R s m args below meth c Q A kc ks nL w' (pc + 3) L st) : WC V p l e R s m args below meth c Q A kc ks nL w pc L (v :: .ref a :: st) :=
  fun H locs ls hP hD hS hL => va_putF (D := V.1) (ci := ci) (C := Cn) (T := T) (N := N) C.1 C.2.1 C.2.2.2.2.1 hin ty0 hty hnm C.2.2.2.1 C.2.2.2.2.2.1.1 hP hD hS k0 he hc k hk (C.2.2.2.2.1 _ hlink) (fun x h => by rw [← hsame]; exact h) hfin hin2 hsame hd hn hfit hl hdg (fun H1 locs1 hP hD hS => kk H1 locs1 ls (hw ▸ hP) (hw ▸ hD) hS hL)
theorem k_newa (C : CX V p l R s m args c A kc ks own cc nL fr lo) {atype : ArrayType} {ty : FieldType} {cA : ClassId} (t0 : Nat) {n : Int32} (N' : Nat) (a0 : vp_A) (ht : (tysG V.2.1)[t0]? = some (cA, ty)) (harr : Cond.arrayClass ty ∈ GW) (hty : newarray.typeOf atype = ty) (hprim : ∀ U cX, va_RA U cX ty → U.vm.findClass ("[" ++ ty.toString) = some cX) (ha : ∀ cA : ClassId, vp_cell cA a0 = arrV cA N' (fun _ => defaultValue ty)) (hn : ¬ n < 0) (hN : n.toNatClampNeg = N') (hbytes : N' * componentBytes ty ≤ 536870912) (hk : kc + 1 ≤ R.cells ∧ ks + N' ≤ R.slots) (hdg : decode cc pc = .ok (.newarray atype, 2))
    (kk : ∀ q : Nat, CX V p l R s m args c A (kc + 1) (ks + N') own cc nL fr lo → WC V p l e R s m args below meth c Q A (kc + 1) (ks + N') nL (w ++ [(q, .inl (cA, a0))]) (pc + 2) L (.ref q :: st)) : WC V p l e R s m args below meth c Q A kc ks nL w pc L (.int n :: st) := by
  intro H locs ls hP hD hS hl
  refine va_newa (D := V.1) (cl := vwCl) (tys := tysG V.2.1) C.1 C.2.1 (by rw [hty]; exact C.2.2.2.2.1 _ harr) hty C.2.2.2.2.2.1.1 hP hD hS C.2.2.2.2.2.2.1 ha hn hN hbytes hk.1 hk.2 hdg (fun q cX H1 hK hP hD hS => ?_)
  have e1 := hprim s cA (C.2.2.2.2.2.1.1.2 t0 _ ht).2
  have e2 := hprim s cX (hK.2 4 (cX, ty) rfl).2
  have e3 : cX = cA := Option.some.inj (e2.symm.trans e1)
  subst e3
  exact kk q (C.up hk) H1 locs ls hP hD hS hl
theorem k_newI (C : CX V p l R s m args c A kc ks own cc nL fr lo) {n : Int32} (N' : Nat) (hn : ¬ n < 0) (hN : n.toNatClampNeg = N') (hbytes : N' * 4 ≤ 536870912) (hk : kc + 1 ≤ R.cells ∧ ks + N' ≤ R.slots) (hdg : decode cc pc = .ok (.newarray .int, 2))
    (kk : ∀ q : Nat, CX V p l R s m args c A (kc + 1) (ks + N') own cc nL fr lo → WC V p l e R s m args below meth c Q A (kc + 1) (ks + N') nL (w ++ [(q, .inl (V.2.1 0, N', .inl (fun _ => 0)))]) (pc + 2) L (.ref q :: st)) : WC V p l e R s m args below meth c Q A kc ks nL w pc L (.int n :: st) :=
  k_newa C 0 N' (N', .inl (fun _ => 0)) rfl (gw_1 (i := 80) (by decide +kernel) rfl) rfl (fun _ _ h => h) (fun _ => rfl) hn hN hbytes hk hdg kk
theorem k_newC (C : CX V p l R s m args c A kc ks own cc nL fr lo) {n : Int32} (N' : Nat) (hn : ¬ n < 0) (hN : n.toNatClampNeg = N') (hbytes : N' * 2 ≤ 536870912) (hk : kc + 1 ≤ R.cells ∧ ks + N' ≤ R.slots) (hdg : decode cc pc = .ok (.newarray .char, 2))
    (kk : ∀ q : Nat, CX V p l R s m args c A (kc + 1) (ks + N') own cc nL fr lo → WC V p l e R s m args below meth c Q A (kc + 1) (ks + N') nL (w ++ [(q, .inl (V.2.1 1, N', .inl (fun _ => 0)))]) (pc + 2) L (.ref q :: st)) : WC V p l e R s m args below meth c Q A kc ks nL w pc L (.int n :: st) :=
  k_newa C 1 N' (N', .inl (fun _ => 0)) rfl (gw_1 (i := 79) (by decide +kernel) rfl) rfl (fun _ _ h => h) (fun _ => rfl) hn hN hbytes hk hdg kk
theorem k_newJ (C : CX V p l R s m args c A kc ks own cc nL fr lo) {n : Int32} (N' : Nat) (hn : ¬ n < 0) (hN : n.toNatClampNeg = N') (hbytes : N' * 8 ≤ 536870912) (hk : kc + 1 ≤ R.cells ∧ ks + N' ≤ R.slots) (hdg : decode cc pc = .ok (.newarray .long, 2))
    (kk : ∀ q : Nat, CX V p l R s m args c A (kc + 1) (ks + N') own cc nL fr lo → WC V p l e R s m args below meth c Q A (kc + 1) (ks + N') nL (w ++ [(q, .inl (V.2.1 2, N', .inr (.inl (fun _ => 0))))]) (pc + 2) L (.ref q :: st)) : WC V p l e R s m args below meth c Q A kc ks nL w pc L (.int n :: st) :=
  k_newa C 2 N' (N', .inr (.inl (fun _ => 0))) rfl (gw_2 (i := 24) (by decide +kernel) rfl) rfl (fun _ _ h => h) (fun _ => rfl) hn hN hbytes hk hdg kk
theorem k_newZ (C : CX V p l R s m args c A kc ks own cc nL fr lo) {n : Int32} (N' : Nat) (hn : ¬ n < 0) (hN : n.toNatClampNeg = N') (hbytes : N' * 1 ≤ 536870912) (hk : kc + 1 ≤ R.cells ∧ ks + N' ≤ R.slots) (hdg : decode cc pc = .ok (.newarray .boolean, 2))
    (kk : ∀ q : Nat, CX V p l R s m args c A (kc + 1) (ks + N') own cc nL fr lo → WC V p l e R s m args below meth c Q A (kc + 1) (ks + N') nL (w ++ [(q, .inl (V.2.1 3, N', .inl (fun _ => 0)))]) (pc + 2) L (.ref q :: st)) : WC V p l e R s m args below meth c Q A kc ks nL w pc L (.int n :: st) :=
  k_newa C 3 N' (N', .inl (fun _ => 0)) rfl (gw_5 (i := 190) (by decide +kernel) rfl) rfl (fun _ _ h => h) (fun _ => rfl) hn hN hbytes hk hdg kk
theorem k_newO (C : CX V p l R s m args c A kc ks own cc nL fr lo) {Cn : String} {T : u_T} {N ci idx : Nat} {fs : List Value} (ty : Nat → FieldType) (hty : ∀ k, k < N → parseFieldDescriptor (T k).2.2.1 = some (ty k)) (hin : ∀ x ∈ u_ws Cn T N, x ∈ GW) (hcl : Cond.classLink own idx Cn ∈ GW) (hinst : Cond.instantiable Cn N ∈ GW) (hini : Cond.initialized Cn ∈ GW) (hc : vwCl[ci]? = some (Cn, T, N)) (hfs : ∀ j, j < N → defaultValue (ty j) = vp_V fs j) (hk : kc + 1 ≤ R.cells ∧ ks + N ≤ R.slots) (hdg : decode cc pc = .ok (.new idx, 3))
    (kk : ∀ q : Nat, CX V p l R s m args c A (kc + 1) (ks + N) own cc nL fr lo → WC V p l e R s m args below meth c Q A (kc + 1) (ks + N) nL (w ++ [(q, .inr (ci, fs))]) (pc + 3) L (.ref q :: st)) : WC V p l e R s m args below meth c Q A kc ks nL w pc L st := by
  intro H locs ls hP hD hS hl
  refine va_new (D := V.1) (cl := vwCl) (tys := tysG V.2.1) (ci := ci) (fs := fs) (C := Cn) (T := T) (N := N) C.1 C.2.1 C.2.2.2.2.1 hin ty hty C.2.2.2.1 (C.2.2.2.2.1 _ hcl) (C.2.2.2.2.1 _ hinst) (C.2.2.2.2.1 _ hini) C.2.2.2.2.2.1.1 hP hD hS C.2.2.2.2.2.2.1 hc hfs hk.1 hk.2 hdg (fun q H1 hP hD hS => ?_)
  exact kk q (C.up hk) H1 locs ls hP hD hS hl
/-- the words of a nest mate's constructor, and of an open one -/
def wsCI (y : MethodName) (bytes : ByteArray) (maxL : Nat) : List Cond := [.instanceMethod y, .initialized y.cls, .code y bytes maxL none]
theorem k_ctorN (C : CX V p l R s m args c A kc ks own cc nL fr lo) {idx maxL f2 l2 mc ms b : Nat} {y : MethodName} {bytes : ByteArray} {w0 wr : va_W} {wf : (Nat → Nat) → va_W} (hM : MC V l y bytes maxL f2 l2 mc ms [.ref b] w0 wf) (hw : w = wr ++ w0) (hnw : (own, idx, y) ∈ nwl) (hm : ∀ x ∈ wsCI y bytes maxL, x ∈ GW) (hok : okCV y.cls y 0) (hyn : y.name = "<init>") (hR : f2 + 1 ≤ fr ∧ 8 + (maxL + 11) + l2 ≤ lo) (hk : kc + mc ≤ R.cells ∧ ks + ms ≤ R.slots) (hW : (st.map fun v => v.category).sum ≤ 8) (hdg : decode cc pc = .ok (.invokespecial idx, 3))
    (kk : ∀ u : Nat → Nat, CX V p l R s m args c A (kc + mc) (ks + ms) own cc nL fr lo → WC V p l e R s m args below meth c Q A (kc + mc) (ks + ms) nL (wr ++ wf u) (pc + 3) L st) : WC V p l e R s m args below meth c Q A kc ks nL w pc L (.ref b :: st) := by
  subst hw
  refine k_perm (List.perm_append_comm) ?_
  intro H locs ls hP hD hS hl
  have hF := free_in C hD hS
  have hg : ∀ x ∈ (.code y bytes maxL none :: GW : List Cond), x ∈ GW := fun x hx => by
    rcases List.mem_cons.mp hx with rfl | hx
    · exact hm _ (by simp [wsCI])
    · exact hx
  refine va_callv (va_runIN (As := []) (rest := st) ⟨C.1, C.2.1, C.2.2.1, C.2.2.2.1, C.2.2.2.2.1⟩ (mc_fr (rest := wr) hM H.size) ⟨va_cnB (ws' := GW) 0 C.2.2.2.2.1 (goodL hg) rfl rfl rfl (C.2.2.2.2.2.1.2.2.2.2.2.2.2.2.2 _ hnw) (C.2.2.2.2.1 _ (hm _ (by simp [wsCI]))) hok.2 ⟨Nat.le_trans hR.1 C.2.2.2.2.2.2.2.1, Nat.le_trans hR.2 C.2.2.2.2.2.2.2.2.1⟩, hyn, C.2.2.2.2.1 _ (hm _ (by simp [wsCI]))⟩ ⟨PRE.blind, fun U hU hW => ⟨rfl, pre_at C hP hD hS U hU hW⟩⟩ rfl rfl hl.1 rfl (lv_room hW) hdg hk) hS (fun q _ h => hF q h) hF (fun u t H1 locs1 ht hvm _ hB hz1 hk1 hS1 => ?_)
  rw [ht] at hB
  exact k_perm (List.perm_append_comm) (kk u (C.up hk)) H1 locs1 ls hB.1 (hB.2.weaken fun _ _ _ h => hF _ h) hS1 hl
theorem k_ctorI (C : CX V p l R s m args c A kc ks own cc nL fr lo) {idx maxL f2 l2 mc ms b : Nat} {y : MethodName} {bytes : ByteArray} {w0 wr : va_W} {wf : (Nat → Nat) → va_W} (hM : MC V l y bytes maxL f2 l2 mc ms [.ref b] w0 wf) (hw : w = wr ++ w0) (hlk : Cond.methodLink own idx y ∈ GW) (hm : ∀ x ∈ wsCI y bytes maxL, x ∈ GW) (hok : okCV y.cls y 0) (hyn : y.name = "<init>") (hR : f2 + 1 ≤ fr ∧ 8 + (maxL + 11) + l2 ≤ lo) (hk : kc + mc ≤ R.cells ∧ ks + ms ≤ R.slots) (hW : (st.map fun v => v.category).sum ≤ 8) (hdg : decode cc pc = .ok (.invokespecial idx, 3))
    (kk : ∀ u : Nat → Nat, CX V p l R s m args c A (kc + mc) (ks + ms) own cc nL fr lo → WC V p l e R s m args below meth c Q A (kc + mc) (ks + ms) nL (wr ++ wf u) (pc + 3) L st) : WC V p l e R s m args below meth c Q A kc ks nL w pc L (.ref b :: st) := by
  subst hw
  refine k_perm (List.perm_append_comm) ?_
  intro H locs ls hP hD hS hl
  have hF := free_in C hD hS
  have hg : ∀ x ∈ (.code y bytes maxL none :: GW : List Cond), x ∈ GW := fun x hx => by
    rcases List.mem_cons.mp hx with rfl | hx
    · exact hm _ (by simp [wsCI])
    · exact hx
  refine va_callv (va_runI (As := []) (rest := st) ⟨C.1, C.2.1, C.2.2.1, C.2.2.2.1, C.2.2.2.2.1⟩ (mc_fr (rest := wr) hM H.size) (cwI (ws' := GW) 0 C.2.2.2.2.1 (goodL hg) rfl rfl rfl (C.2.2.2.2.1 _ (hm _ (by simp [wsCI]))) (C.2.2.2.2.1 _ hlk) (C.2.2.2.2.1 _ (hm _ (by simp [wsCI]))) hyn hok.2 ⟨Nat.le_trans hR.1 C.2.2.2.2.2.2.2.1, Nat.le_trans hR.2 C.2.2.2.2.2.2.2.2.1⟩) ⟨PRE.blind, fun U hU hW => ⟨rfl, pre_at C hP hD hS U hU hW⟩⟩ rfl rfl hl.1 rfl (lv_room hW) hdg hk) hS (fun q _ h => hF q h) hF (fun u t H1 locs1 ht hvm _ hB hz1 hk1 hS1 => ?_)
  rw [ht] at hB
  exact k_perm (List.perm_append_comm) (kk u (C.up hk)) H1 locs1 ls hB.1 (hB.2.weaken fun _ _ _ h => hF _ h) hS1 hl
end
