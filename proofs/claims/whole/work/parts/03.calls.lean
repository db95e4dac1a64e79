section CALLS
variable {V : EV} {p : Program} {l : Launch} {e : Env} {R : Room} {s : State} {m : MethodId} {args : Array Value} {below : List Frame} {meth : Method} {c : Code} {Q : State → Prop} {A : Nat → Prop} {own : String} {cc : ByteArray} {kc ks nL fr lo : Nat}
variable {w w1 : va_W} {pc : Nat} {L : List (Nat × Value)} {st st0 : List Value}
theorem pre_at (C : CX V p l R s m args c A kc ks own cc nL fr lo) {H : Heap} {locs : List Loc} (hP : va_P V.1 vwCl w H) (hD : va_D A w) (hS : va_S A s.heap H locs) : ∀ U : State, U.heap = H → s.WarmedH U.vm → PRE V w H.size U := by
  intro U hU hW
  have hE : ENV V A s H := C.2.2.2.2.2.1.kept hS.2.1
  exact ⟨by rw [hU], by rw [hU]; exact hP, by rw [hU]; exact (hE.narrow (free_in C hD hS)).warm hW, hD.1, fun _ _ _ => trivial⟩
/-- the words of a call on an object, of a call of an own static method, of a nest mate's static method -/
def wsCV (own : String) (idx : Nat) (Cn : String) (y : MethodName) (bytes : ByteArray) (maxL : Nat) (ret : Option FieldType) : List Cond := [.methodLink own idx y, .instanceMethod y, .selects Cn y y, .initialized Cn, .code y bytes maxL ret]
def okCV (Cn : String) (y : MethodName) (n : Nat) : Prop := y.cls = Cn ∧ y.cls ≠ "java/lang/invoke/MethodHandle" ∧ y.cls ≠ "java/lang/invoke/VarHandle" ∧ (parseMethodDescriptor y.desc).map (fun d => d.parameters.length) = some n
theorem cw_V (C : CX V p l R s m args c A kc ks own cc nL fr lo) {Cn : String} {idx n maxL f2 l2 mc ms : Nat} {y : MethodName} {bytes : ByteArray} {ret : Option FieldType} (hm : ∀ x ∈ wsCV own idx Cn y bytes maxL ret, x ∈ GW) (hok : okCV Cn y n) (hR : f2 + 1 ≤ fr ∧ 8 + (maxL + 11) + l2 ≤ lo) : CallW R s args own Cn idx y bytes maxL ret (.code y bytes maxL ret :: GW) { frames := f2, cells := mc, slots := ms, locals := l2 } mc ms n := by
  refine cwV (ws' := GW) n C.2.2.2.2.1 (goodL fun x hx => ?_) rfl rfl rfl hok ⟨Nat.le_trans hR.1 C.2.2.2.2.2.2.2.1, Nat.le_trans hR.2 C.2.2.2.2.2.2.2.2.1⟩
  simp only [wsV, List.cons_append, List.nil_append, List.mem_cons] at hx
  rcases hx with rfl | rfl | rfl | rfl | rfl | hx
  · exact hm _ (by simp [wsCV])
  · exact hm _ (by simp [wsCV])
  · exact hm _ (by simp [wsCV])
  · exact hm _ (by simp [wsCV])
  · exact hm _ (by simp [wsCV])
  · exact hx
theorem k_callVi (C : CX V p l R s m args c A kc ks own cc nL fr lo) {Cn : String} {T : u_T} {N ci idx n maxL f2 l2 b : Nat} {fs : List Value} {y : MethodName} {bytes : ByteArray} {ty : FieldType} {r : Int32} {As : List Value} (hM : MI V l y bytes maxL ty f2 l2 (.ref b :: As) w r w1) (hm : ∀ x ∈ wsCV own idx Cn y bytes maxL (some ty), x ∈ GW) (hok : okCV Cn y n) (hR : f2 + 1 ≤ fr ∧ 8 + (maxL + 11) + l2 ≤ lo) (k0 : Nat) (he : w[k0]? = some (b, .inr (ci, fs))) (hc : vwCl[ci]? = some (Cn, T, N)) (hn : As.length = n) (hst : st0 = As.reverse ++ .ref b :: st) (hW : (st.map fun v => v.category).sum ≤ 8) (hdg : decode cc pc = .ok (.invokevirtual idx, 3))
    (kk : WC V p l e R s m args below meth c Q A kc ks nL w1 (pc + 3) L (.int r :: st)) : WC V p l e R s m args below meth c Q A kc ks nL w pc L st0 := by
  intro H locs ls hP hD hS hl
  have hF := free_in C hD hS
  refine va_calli (va_runV (As := As) (rest := st) ⟨C.1, C.2.1, C.2.2.1, C.2.2.2.1, C.2.2.2.2.1⟩ (hM H.size) (cw_V C hm hok hR) ⟨PRE.blind, va_recv C.2.2.2.2.2.1.1 hP hc he, fun U hU hW => ⟨rfl, pre_at C hP hD hS U hU hW⟩⟩ rfl hn hl.1 hst (lv_room hW) hdg C.2.2.2.2.2.2.2.2.2.2) hS (fun q _ h => hF q h) hF (fun r' u t H1 locs1 ht hvm hw hB hz1 hk1 hS1 => ?_)
  subst hw
  rw [ht] at hB
  exact kk H1 locs1 ls hB.1 (hB.2.weaken fun _ _ _ h => hF _ h) hS1 hl
theorem k_callVv (C : CX V p l R s m args c A kc ks own cc nL fr lo) {Cn : String} {T : u_T} {N ci idx n maxL f2 l2 b : Nat} {fs : List Value} {y : MethodName} {bytes : ByteArray} {As : List Value} (hM : MV V l y bytes maxL f2 l2 (.ref b :: As) w w1) (hm : ∀ x ∈ wsCV own idx Cn y bytes maxL none, x ∈ GW) (hok : okCV Cn y n) (hR : f2 + 1 ≤ fr ∧ 8 + (maxL + 11) + l2 ≤ lo) (k0 : Nat) (he : w[k0]? = some (b, .inr (ci, fs))) (hc : vwCl[ci]? = some (Cn, T, N)) (hn : As.length = n) (hst : st0 = As.reverse ++ .ref b :: st) (hW : (st.map fun v => v.category).sum ≤ 8) (hdg : decode cc pc = .ok (.invokevirtual idx, 3))
    (kk : WC V p l e R s m args below meth c Q A kc ks nL w1 (pc + 3) L st) : WC V p l e R s m args below meth c Q A kc ks nL w pc L st0 := by
  intro H locs ls hP hD hS hl
  have hF := free_in C hD hS
  refine va_callv (va_runV (As := As) (rest := st) ⟨C.1, C.2.1, C.2.2.1, C.2.2.2.1, C.2.2.2.2.1⟩ (hM H.size) (cw_V C hm hok hR) ⟨PRE.blind, va_recv C.2.2.2.2.2.1.1 hP hc he, fun U hU hW => ⟨rfl, pre_at C hP hD hS U hU hW⟩⟩ rfl hn hl.1 hst (lv_room hW) hdg C.2.2.2.2.2.2.2.2.2.2) hS (fun q _ h => hF q h) hF (fun u t H1 locs1 ht hvm hw hB hz1 hk1 hS1 => ?_)
  rw [ht] at hB
  exact kk H1 locs1 ls hB.1 (hB.2.weaken fun _ _ _ h => hF _ h) hS1 hl
/-- static: own (or another class's, that is open to all) -/
def wsCS (own : String) (idx : Nat) (y : MethodName) (bytes : ByteArray) (maxL : Nat) (ret : Option FieldType) : List Cond := [.methodLink own idx y, .static y, .initialized y.cls, .code y bytes maxL ret]
theorem cw_S (C : CX V p l R s m args c A kc ks own cc nL fr lo) {idx n maxL f2 l2 mc ms : Nat} {y : MethodName} {bytes : ByteArray} {ret : Option FieldType} (hm : ∀ x ∈ wsCS own idx y bytes maxL ret, x ∈ GW) (hok : okCV y.cls y n) (hR : f2 + 1 ≤ fr ∧ 8 + (maxL + 11) + l2 ≤ lo) : CallB R s args own idx y bytes maxL ret (.code y bytes maxL ret :: GW) { frames := f2, cells := mc, slots := ms, locals := l2 } mc ms n ∧ (Cond.static y).before args s = true := by
  refine ⟨callB_of (ws' := GW) n C.2.2.2.2.1 (goodL fun x hx => ?_) rfl rfl rfl (C.2.2.2.2.1 _ (hm _ (by simp [wsCS]))) (C.2.2.2.2.1 _ (hm _ (by simp [wsCS]))) hok.2 ⟨Nat.le_trans hR.1 C.2.2.2.2.2.2.2.1, Nat.le_trans hR.2 C.2.2.2.2.2.2.2.2.1⟩, C.2.2.2.2.1 _ (hm _ (by simp [wsCS]))⟩
  rcases List.mem_cons.mp hx with rfl | hx
  · exact hm _ (by simp [wsCS])
  · exact hx
theorem k_callSi (C : CX V p l R s m args c A kc ks own cc nL fr lo) {idx n maxL f2 l2 : Nat} {y : MethodName} {bytes : ByteArray} {ty : FieldType} {r : Int32} {As : List Value} (hM : MI V l y bytes maxL ty f2 l2 As w r w1) (hm : ∀ x ∈ wsCS own idx y bytes maxL (some ty), x ∈ GW) (hok : okCV y.cls y n) (hR : f2 + 1 ≤ fr ∧ 8 + (maxL + 11) + l2 ≤ lo) (hn : As.length = n) (hst : st0 = As.reverse ++ st) (hW : (st.map fun v => v.category).sum ≤ 8) (hdg : decode cc pc = .ok (.invokestatic idx, 3))
    (kk : WC V p l e R s m args below meth c Q A kc ks nL w1 (pc + 3) L (.int r :: st)) : WC V p l e R s m args below meth c Q A kc ks nL w pc L st0 := by
  intro H locs ls hP hD hS hl
  have hF := free_in C hD hS
  refine va_calli (va_runS (As := As) (rest := st) ⟨C.1, C.2.1, C.2.2.1, C.2.2.2.1, C.2.2.2.2.1⟩ (hM H.size) (cw_S C hm hok hR) ⟨PRE.blind, fun U hU hW => ⟨rfl, pre_at C hP hD hS U hU hW⟩⟩ rfl hn hl.1 hst (lv_room hW) hdg C.2.2.2.2.2.2.2.2.2.2) hS (fun q _ h => hF q h) hF (fun r' u t H1 locs1 ht hvm hw hB hz1 hk1 hS1 => ?_)
  subst hw
  rw [ht] at hB
  exact kk H1 locs1 ls hB.1 (hB.2.weaken fun _ _ _ h => hF _ h) hS1 hl
theorem k_callSv (C : CX V p l R s m args c A kc ks own cc nL fr lo) {idx n maxL f2 l2 : Nat} {y : MethodName} {bytes : ByteArray} {As : List Value} (hM : MV V l y bytes maxL f2 l2 As w w1) (hm : ∀ x ∈ wsCS own idx y bytes maxL none, x ∈ GW) (hok : okCV y.cls y n) (hR : f2 + 1 ≤ fr ∧ 8 + (maxL + 11) + l2 ≤ lo) (hn : As.length = n) (hst : st0 = As.reverse ++ st) (hW : (st.map fun v => v.category).sum ≤ 8) (hdg : decode cc pc = .ok (.invokestatic idx, 3))
    (kk : WC V p l e R s m args below meth c Q A kc ks nL w1 (pc + 3) L st) : WC V p l e R s m args below meth c Q A kc ks nL w pc L st0 := by
  intro H locs ls hP hD hS hl
  have hF := free_in C hD hS
  refine va_callv (va_runS (As := As) (rest := st) ⟨C.1, C.2.1, C.2.2.1, C.2.2.2.1, C.2.2.2.2.1⟩ (hM H.size) (cw_S C hm hok hR) ⟨PRE.blind, fun U hU hW => ⟨rfl, pre_at C hP hD hS U hU hW⟩⟩ rfl hn hl.1 hst (lv_room hW) hdg C.2.2.2.2.2.2.2.2.2.2) hS (fun q _ h => hF q h) hF (fun u t H1 locs1 ht hvm hw hB hz1 hk1 hS1 => ?_)
  rw [ht] at hB
  exact kk H1 locs1 ls hB.1 (hB.2.weaken fun _ _ _ h => hF _ h) hS1 hl
/-- static, a nest mate's -/
def wsCN (y : MethodName) (bytes : ByteArray) (maxL : Nat) (ret : Option FieldType) : List Cond := [.static y, .initialized y.cls, .code y bytes maxL ret]
theorem cw_N (C : CX V p l R s m args c A kc ks own cc nL fr lo) {idx n maxL f2 l2 mc ms : Nat} {y : MethodName} {bytes : ByteArray} {ret : Option FieldType} (hnw : (own, idx, y) ∈ nwl) (hm : ∀ x ∈ wsCN y bytes maxL ret, x ∈ GW) (hok : okCV y.cls y n) (hR : f2 + 1 ≤ fr ∧ 8 + (maxL + 11) + l2 ≤ lo) : va_CN R s args own idx y "MutantTester" bytes maxL ret (.code y bytes maxL ret :: GW) { frames := f2, cells := mc, slots := ms, locals := l2 } mc ms n ∧ (Cond.static y).before args s = true ∧ True := by
  refine ⟨va_cnB (ws' := GW) n C.2.2.2.2.1 (goodL fun x hx => ?_) rfl rfl rfl (C.2.2.2.2.2.1.2.2.2.2.2.2.2.2.2 _ hnw) (C.2.2.2.2.1 _ (hm _ (by simp [wsCN]))) hok.2 ⟨Nat.le_trans hR.1 C.2.2.2.2.2.2.2.1, Nat.le_trans hR.2 C.2.2.2.2.2.2.2.2.1⟩, C.2.2.2.2.1 _ (hm _ (by simp [wsCN])), trivial⟩
  rcases List.mem_cons.mp hx with rfl | hx
  · exact hm _ (by simp [wsCN])
  · exact hx
theorem k_callNi (C : CX V p l R s m args c A kc ks own cc nL fr lo) {idx n maxL f2 l2 : Nat} {y : MethodName} {bytes : ByteArray} {ty : FieldType} {r : Int32} {As : List Value} (hM : MI V l y bytes maxL ty f2 l2 As w r w1) (hnw : (own, idx, y) ∈ nwl) (hm : ∀ x ∈ wsCN y bytes maxL (some ty), x ∈ GW) (hok : okCV y.cls y n) (hR : f2 + 1 ≤ fr ∧ 8 + (maxL + 11) + l2 ≤ lo) (hn : As.length = n) (hst : st0 = As.reverse ++ st) (hW : (st.map fun v => v.category).sum ≤ 8) (hdg : decode cc pc = .ok (.invokestatic idx, 3))
    (kk : WC V p l e R s m args below meth c Q A kc ks nL w1 (pc + 3) L (.int r :: st)) : WC V p l e R s m args below meth c Q A kc ks nL w pc L st0 := by
  intro H locs ls hP hD hS hl
  have hF := free_in C hD hS
  refine va_calli (va_runSN (As := As) (rest := st) ⟨C.1, C.2.1, C.2.2.1, C.2.2.2.1, C.2.2.2.2.1⟩ (hM H.size) (cw_N C hnw hm hok hR) ⟨PRE.blind, fun U hU hW => ⟨rfl, pre_at C hP hD hS U hU hW⟩⟩ rfl hn hl.1 hst (lv_room hW) hdg C.2.2.2.2.2.2.2.2.2.2) hS (fun q _ h => hF q h) hF (fun r' u t H1 locs1 ht hvm hw hB hz1 hk1 hS1 => ?_)
  subst hw
  rw [ht] at hB
  exact kk H1 locs1 ls hB.1 (hB.2.weaken fun _ _ _ h => hF _ h) hS1 hl
/-- a method's ends -/
def RI (V : EV) (p : Program) (l : Launch) (e : Env) (R : Room) (s : State) (m : MethodId) (args : Array Value) (below : List Frame) (meth : Method) (c : Code) (Q : State → Prop) (A : Nat → Prop) (kc ks nL : Nat) (cc : ByteArray) (ty : FieldType) (r : Int32) (w1 : va_W) : Prop :=
  ∀ (pc : Nat) (L : List (Nat × Value)), decode cc pc = .ok (.ireturn, 1) → narrow ty (.int r) = .int r → WC V p l e R s m args below meth c Q A kc ks nL w1 pc L [.int r]
def RV (V : EV) (p : Program) (l : Launch) (e : Env) (R : Room) (s : State) (m : MethodId) (args : Array Value) (below : List Frame) (meth : Method) (c : Code) (Q : State → Prop) (A : Nat → Prop) (kc ks nL : Nat) (cc : ByteArray) (w1 : va_W) : Prop :=
  ∀ (pc : Nat) (L : List (Nat × Value)), decode cc pc = .ok (.return_, 1) → WC V p l e R s m args below meth c Q A kc ks nL w1 pc L []
end CALLS
/-- out of a walk, the contract -/
theorem mi_of {V : EV} {l : Launch} {y : MethodName} {cc : ByteArray} {nL fr lo : Nat} {ty : FieldType} {As : List Value} {w w1 : va_W} {r : Int32} (hl0 : l.stackTraces = false) (hy : plainName y.cls = true) (hA : (lg_sl As).length ≤ nL)
    (hb : ∀ (p : Program) (e : Env) (R : Room) (s : State) (m : MethodId) (args : Array Value) (below : List Frame) (meth : Method) (c : Code) (Q : State → Prop) (A : Nat → Prop), CX V p l R s m args c A 0 0 y.cls cc nL fr lo → RI V p l e R s m args below meth c Q A 0 0 nL cc ty r w1 → WC V p l e R s m args below meth c Q A 0 0 nL w 0 (lv_args 0 As) []) : MI V l y cc nL ty fr lo As w r w1 := by
  intro sz
  refine Met.ofW (cc := cc) (maxL := nL) (ret := some ty) hy rfl ?_
  intro p e s m args below meth c s₁ B hml hv
  obtain ⟨rfl, hsz, hP, hE, hD0⟩ := hv
  have hx := B.exec
  have hb0 := B.bytes
  have hr := B.returns
  have hts := atoms_spec (ws := .code y cc nL (some ty) :: GW) B.pre
  have hown : s.vm.findClass y.cls = some m.cls := findClass_of_methodNamed B.named
  have hlocks := B.notSynchronized
  subst hsz
  have hS : va_S (va_A w s.heap.size) s.heap s.heap [] := va_S.rf
  have hl := lv_entry As (n := nL) hA
  rw [lg_entry_eq]
  generalize (lg_sl As ++ List.replicate (nL - (lg_sl As).length) Slot.unset).toArray = ls at hl ⊢
  refine hb p e (rmG fr lo) s m As.toArray below meth c _ (va_A w s.heap.size) ⟨hx, hb0, hml, hown, fun x h => hts x (List.mem_cons_of_mem _ h), hE, fun q h => Or.inr h, Nat.le_refl _, Nat.le_refl _, hl0, Nat.zero_le _, Nat.zero_le _⟩ (fun pc L hdg hn H locs ls hP1 hD1 hS1 hl1 => ?_) s.heap [] ls hP hD0.self hS hl
  exact W.zret hx hb0 hr hn (fun t ht hW => ⟨⟨r, (), rfl, rfl, ⟨by rw [ht]; exact hP1, hD1⟩⟩, hS1.F ht⟩) hS1.2.2 hdg
theorem mv_of {V : EV} {l : Launch} {y : MethodName} {cc : ByteArray} {nL fr lo : Nat} {As : List Value} {w w1 : va_W} (hl0 : l.stackTraces = false) (hy : plainName y.cls = true) (hA : (lg_sl As).length ≤ nL)
    (hb : ∀ (p : Program) (e : Env) (R : Room) (s : State) (m : MethodId) (args : Array Value) (below : List Frame) (meth : Method) (c : Code) (Q : State → Prop) (A : Nat → Prop), CX V p l R s m args c A 0 0 y.cls cc nL fr lo → RV V p l e R s m args below meth c Q A 0 0 nL cc w1 → WC V p l e R s m args below meth c Q A 0 0 nL w 0 (lv_args 0 As) []) : MV V l y cc nL fr lo As w w1 := by
  intro sz
  refine Met.ofW (cc := cc) (maxL := nL) (ret := none) hy rfl ?_
  intro p e s m args below meth c s₁ B hml hv
  obtain ⟨rfl, hsz, hP, hE, hD0⟩ := hv
  have hx := B.exec
  have hb0 := B.bytes
  have hr := B.returns
  have hts := atoms_spec (ws := .code y cc nL none :: GW) B.pre
  have hown : s.vm.findClass y.cls = some m.cls := findClass_of_methodNamed B.named
  have hlocks := B.notSynchronized
  subst hsz
  have hS : va_S (va_A w s.heap.size) s.heap s.heap [] := va_S.rf
  have hl := lv_entry As (n := nL) hA
  rw [lg_entry_eq]
  generalize (lg_sl As ++ List.replicate (nL - (lg_sl As).length) Slot.unset).toArray = ls at hl ⊢
  refine hb p e (rmG fr lo) s m As.toArray below meth c _ (va_A w s.heap.size) ⟨hx, hb0, hml, hown, fun x h => hts x (List.mem_cons_of_mem _ h), hE, fun q h => Or.inr h, Nat.le_refl _, Nat.le_refl _, hl0, Nat.zero_le _, Nat.zero_le _⟩ (fun pc L hdg H locs ls hP1 hD1 hS1 hl1 => ?_) s.heap [] ls hP hD0.self hS hl
  exact W.vret hx hb0 hr (fun t ht hW => ⟨⟨(), rfl, trivial, ⟨by rw [ht]; exact hP1, hD1⟩⟩, hS1.F ht⟩) hS1.2.2 hdg
/-- small words of the walks' functions -/
def nm_v {α β : Type} (a : α) (k : α → Option β) : Option β := k a
theorem nm_el {α β : Type} {a x : α} {k : α → Option β} {r : Option β} (h : nm_v a k = r) (e : x = a) : k x = r := by rw [e]; exact h
theorem ob_el {α β : Type} {o : Option α} {k : α → Option β} {b : β} (h : o.bind k = some b) : ∃ a, o = some a ∧ k a = some b := Option.bind_eq_some_iff.mp h
theorem gd_no {α : Type} {P : Prop} [Decidable P] {k : Option α} {y : α} (h : (if P then none else k) = some y) : ¬ P ∧ k = some y := by
  by_cases hp : P
  · rw [if_pos hp] at h; cases h
  · rw [if_neg hp] at h; exact ⟨hp, h⟩
theorem gd_ok {α : Type} {P : Prop} [Decidable P] {k : Option α} {y : α} (h : (if P then k else none) = some y) : P ∧ k = some y := by
  by_cases hp : P
  · rw [if_pos hp] at h; exact ⟨hp, h⟩
  · rw [if_neg hp] at h; cases h
theorem nar_b {x : Int32} (h : x = 0 ∨ x = 1) : narrow .boolean (.int x) = .int x := by
  rcases h with rfl | rfl <;> decide
theorem fit_b {x : Int32} (h : x = 0 ∨ x = 1) : fits .boolean (.int x) = true := by
  rcases h with rfl | rfl <;> decide
theorem sw_ne {x n : Int32} (h : ¬ x = n) : ∀ k : Int, n.toInt = k → ¬ x.toInt = k := fun k e q => h (Int32.toInt_inj.mp (q.trans e.symm))
