/-! THE BASE: a method's walk over a world that is one list of cells; the surroundings (tables, texts, statics) in one word. -/
def tysG (cA : Nat → ClassId) : List (ClassId × FieldType) := [(cA 0, .int), (cA 1, .char), (cA 2, .long), (cA 3, .boolean)]
/-- all good words of the tables -/
def GW : List Cond := lw_tbl.filter goodWord
theorem gw_of {w : Cond} (h : w ∈ lw_tbl) (g : goodWord w = true) : w ∈ GW := List.mem_filter.mpr ⟨h, g⟩
theorem gw_1 {i : Nat} {w : Cond} (h : tables_1_1[i]? = some w) (g : goodWord w = true) : w ∈ GW := gw_of (List.mem_append_right _ (List.mem_append_left _ (List.mem_of_getElem? h))) g
theorem gw_2 {i : Nat} {w : Cond} (h : tables_1_2[i]? = some w) (g : goodWord w = true) : w ∈ GW := gw_of (List.mem_append_right _ (List.mem_append_right _ (List.mem_append_left _ (List.mem_of_getElem? h)))) g
theorem gw_3 {i : Nat} {w : Cond} (h : tables_1_3[i]? = some w) (g : goodWord w = true) : w ∈ GW := gw_of (List.mem_append_right _ (List.mem_append_right _ (List.mem_append_right _ (List.mem_append_left _ (List.mem_of_getElem? h))))) g
theorem gw_4 {i : Nat} {w : Cond} (h : tables_1_4[i]? = some w) (g : goodWord w = true) : w ∈ GW := gw_of (List.mem_append_right _ (List.mem_append_right _ (List.mem_append_right _ (List.mem_append_right _ (List.mem_append_left _ (List.mem_of_getElem? h)))))) g
theorem gw_5 {i : Nat} {w : Cond} (h : tables_1_5[i]? = some w) (g : goodWord w = true) : w ∈ GW := gw_of (List.mem_append_right _ (List.mem_append_right _ (List.mem_append_right _ (List.mem_append_right _ (List.mem_append_right _ (List.mem_append_left _ (List.mem_of_getElem? h))))))) g
theorem gw_6 {i : Nat} {w : Cond} (h : tables_1_6[i]? = some w) (g : goodWord w = true) : w ∈ GW := gw_of (List.mem_append_right _ (List.mem_append_right _ (List.mem_append_right _ (List.mem_append_right _ (List.mem_append_right _ (List.mem_append_right _ (List.mem_of_getElem? h))))))) g
theorem gw_p {q : MethodName × Nat} (h : q ∈ lw_privs) (g : goodWord (Cond.selects q.1.cls q.1 q.1) = true) : Cond.selects q.1.cls q.1 q.1 ∈ GW := gw_of (List.mem_append_left _ (List.mem_map.mpr ⟨q, h, rfl⟩)) g
abbrev EV : Type := va_G × (Nat → ClassId) × (Nat → Nat) × (Nat → Nat)
/-- the constant texts: class, entry, text, which address -/
def sJ : List (String × Nat × String × Nat) := [
  ("MutantTester", 198, "+-*/%", 0), ("MutantTester$Mutants", 63, "+-*/%", 0),
  ("MutantTester", 205, "<>=#", 1), ("MutantTester$Mutants", 69, "<>=#", 1), ("MutantTester$Reader", 121, "<>=#", 1),
  ("MutantTester", 207, "&|", 2), ("MutantTester$Mutants", 71, "&|", 2),
  ("MutantTester$Reader", 130, "+-", 3), ("MutantTester$Reader", 135, "*/%", 4), ("MutantTester$Reader", 144, "abcdefxy", 5),
  ("MutantTester", 126, "no such what", 6), ("MutantTester", 132, "there are eight tests", 7), ("MutantTester", 177, "nothing is compiled", 8),
  ("MutantTester", 179, "there is no matrix", 9), ("MutantTester", 183, "no such mutant", 10), ("MutantTester", 186, "no such test", 11),
  ("MutantTester", 85, "more than 120 mutants", 12), ("MutantTester$Reader", 41, "no program", 13)]
def lenJ : List Nat := [5, 4, 2, 2, 3, 8]
def bytJ : List (List Int32) := [[43, 45, 42, 47, 37], [60, 62, 61, 35], [38, 124], [43, 45], [42, 47, 37], [97, 98, 99, 100, 101, 102, 120, 121]]
/-- private methods called by classes of the same nest -/
def nwl : List (String × Nat × MethodName) := [
  (RX7, 19, yX5_init), (RX7, 30, yX0_init), (RX7, 40, yX4_init), (RX7, 47, yX1_init), (RX7, 54, yX2_init), (RX7, 61, yX3_init), (RX1, 11, yX6_init), (RX2, 49, yX0_init), (RX5, 24, yX0_init),
  (RX1, 140, yX7_traps), (RX1, 144, yX7_arithmetic), (RX1, 156, yX7_comparison), (RX2, 111, yX7_traps), (RX2, 115, yX7_arithmetic), (RX2, 118, yX7_comparison), (RX3, 67, yX7_holds), (RX4, 56, yX7_choicesOf)]
/-- words of the throws that are not good ones -/
def dcl : List MethodName := [⟨"java/lang/RuntimeException", "<init>", "(Ljava/lang/String;)V"⟩, ⟨"java/lang/Exception", "<init>", "(Ljava/lang/String;)V"⟩, ⟨"java/lang/Throwable", "<init>", "(Ljava/lang/String;)V"⟩]
def exl : List String := ["java/lang/IllegalArgumentException", "java/lang/IllegalStateException", "java/lang/IndexOutOfBoundsException"]
def badX : List Cond := dcl.map Cond.declares ++ exl.map (fun X => Cond.castable X X)
theorem declares_moved {y : MethodName} {u U : State} (hvm : u.vm.Alike U.vm) (h : va_Nw (.declares y) u) : va_Nw (.declares y) U := va_tabs rfl (rfl : (u.setVm U.vm).vm = U.vm) (by rw [Cond.declares_setVm hvm]; exact h)
theorem castable_moved {C T : String} {u U : State} (hvm : u.vm.Alike U.vm) (h : va_Nw (.castable C T) u) : va_Nw (.castable C T) U := va_tabs rfl (rfl : (u.setVm U.vm).vm = U.vm) (by rw [Cond.castable_setVm hvm]; exact h)
def ENV (V : EV) (A : Nat → Prop) (U : State) (H : Heap) : Prop :=
  va_K V.1 vwCl (tysG V.2.1) U ∧ vk_S 6 lenJ bytJ V.2.2.1 V.2.2.2 A U H ∧ (∀ q ∈ sJ, vk_R q.1 q.2.1 q.2.2.1 (V.2.2.1 q.2.2.2) U) ∧
  vx_Zq Bundle.tN "UNASSIGNED_STACK" Bundle.steD A U H ∧ vx_Zq Bundle.tN "SUPPRESSED_SENTINEL" Bundle.listD A U H ∧
  va_Z "java/lang/String" "COMPACT_STRINGS" "Z" (.int 1) A U H ∧ va_Zq "jdk/internal/util/Preconditions" "SIOOBE_FORMATTER" "Ljava/util/function/BiFunction;" A U H ∧ (∀ q ∈ dcl, va_Nw (.declares q) U) ∧ (∀ q ∈ exl, va_Nw (.castable q q) U) ∧ ∀ q ∈ nwl, va_Nw (.methodLinkNest q.1 q.2.1 q.2.2 "MutantTester") U
theorem ENV.warm {V : EV} {A : Nat → Prop} {s U : State} {H : Heap} (hW : s.WarmedH U.vm) (h : ENV V A s H) : ENV V A U H := by
  obtain ⟨h1, h2, h3, h4, h5, h6, h8, h9, h10, h7⟩ := h
  exact ⟨va_K.moved hW.alike h1, vk_S.moved hW.alike h2, fun q hq => vk_R.warm hW (h3 q hq), vx_Zq.moved hW.alike h4, vx_Zq.moved hW.alike h5, va_Z.moved hW.alike h6, va_Zq.moved hW.alike h8, fun q hq => declares_moved hW.alike (h9 q hq), fun q hq => castable_moved hW.alike (h10 q hq), fun q hq => va_Nw.warmM hW (h7 q hq)⟩
theorem ENV.same {V : EV} {A : Nat → Prop} {s U : State} {H : Heap} (hW : U.vm = s.vm) (h : ENV V A s H) : ENV V A U H := by
  obtain ⟨h1, h2, h3, h4, h5, h6, h8, h9, h10, h7⟩ := h
  have ha : s.vm.Alike U.vm := by rw [hW]; exact Vm.Alike.refl s.vm
  exact ⟨va_K.moved ha h1, vk_S.moved ha h2, fun q hq => vk_R.same hW (h3 q hq), vx_Zq.moved ha h4, vx_Zq.moved ha h5, va_Z.moved ha h6, va_Zq.moved ha h8, fun q hq => declares_moved ha (h9 q hq), fun q hq => castable_moved ha (h10 q hq), fun q hq => va_Nw.same rfl hW.symm (h7 q hq)⟩
theorem ENV.kept {V : EV} {A : Nat → Prop} {U : State} {H H1 : Heap} (h : ENV V A U H) (hq : ∀ a : Nat, a < H.size → ¬ A a → H1[a]? = H[a]?) : ENV V A U H1 := by
  obtain ⟨h1, h2, h3, h4, h5, h6, h8, h9, h10, h7⟩ := h
  exact ⟨h1, vk_S.kept h2 hq, h3, vx_Zq.kept h4 hq, vx_Zq.kept h5 hq, va_Z.kept h6 hq, va_Zq.kept h8 hq, h9, h10, h7⟩
theorem ENV.narrow {V : EV} {A B : Nat → Prop} {U : State} {H : Heap} (h : ENV V A U H) (hAB : ∀ q, B q → A q) : ENV V B U H := by
  obtain ⟨h1, h2, h3, h4, h5, h6, h8, h9, h10, h7⟩ := h
  exact ⟨h1, vk_S.narrow h2 hAB, h3, vx_Zq.narrow h4 hAB, vx_Zq.narrow h5 hAB, va_Z.narrow h6 hAB, va_Zq.narrow h8 hAB, h9, h10, h7⟩
/-- what stands around a walk -/
def CX (V : EV) (p : Program) (l : Launch) (R : Room) (s : State) (m : MethodId) (args : Array Value) (c : Code) (A : Nat → Prop) (kc ks : Nat) (own : String) (cc : ByteArray) (nL fr lo : Nat) : Prop :=
  p.tables.exec = Jvm.exec ∧ c.code = cc ∧ c.maxLocals = nL ∧ s.vm.findClass own = some m.cls ∧ (∀ w ∈ GW, w.before args s = true) ∧ ENV V A s s.heap ∧
  (∀ q, s.heap.size ≤ q → A q) ∧ fr ≤ R.frames ∧ lo ≤ R.locals ∧ l.stackTraces = false ∧ kc ≤ R.cells ∧ ks ≤ R.slots
def WC (V : EV) (p : Program) (l : Launch) (e : Env) (R : Room) (s : State) (m : MethodId) (args : Array Value) (below : List Frame) (meth : Method) (c : Code) (Q : State → Prop) (A : Nat → Prop) (kc ks nL : Nat) (w : va_W) (pc : Nat) (L : List (Nat × Value)) (st : List Value) : Prop :=
  ∀ (H : Heap) (locs : List Loc) (ls : Array Slot), va_P V.1 vwCl w H → va_D A w → va_S A s.heap H locs → lv_has ls nL L → W p l e R s m args below meth c H locs kc ks Q (F0 m pc ls st)
section BASE
variable {V : EV} {p : Program} {l : Launch} {e : Env} {R : Room} {s : State} {m : MethodId} {args : Array Value} {below : List Frame} {meth : Method} {c : Code} {Q : State → Prop} {A : Nat → Prop} {own : String} {cc : ByteArray} {kc ks nL fr lo : Nat}
variable {w : va_W} {pc : Nat} {L : List (Nat × Value)} {st : List Value}
theorem k_sub (is : List Nat) {L' : List (Nat × Value)} (hl : lv_pick L is = L') (n : WC V p l e R s m args below meth c Q A kc ks nL w pc L' st) : WC V p l e R s m args below meth c Q A kc ks nL w pc L st :=
  fun H locs ls hP hD hS h => n H locs ls hP hD hS (lv_sub h is hl)
theorem k_w {w' : va_W} (hw : w' = w) (n : WC V p l e R s m args below meth c Q A kc ks nL w' pc L st) : WC V p l e R s m args below meth c Q A kc ks nL w pc L st := hw ▸ n
theorem k_iconst (C : CX V p l R s m args c A kc ks own cc nL fr lo) {n : Int} {v : Int32} (hdg : decode cc pc = .ok (.iconst n, 1)) (hv : Int32.ofInt n = v) (k : WC V p l e R s m args below meth c Q A kc ks nL w (pc + 1) L (.int v :: st)) : WC V p l e R s m args below meth c Q A kc ks nL w pc L st :=
  fun H locs ls hP hD hS h => lv_iconst C.1 C.2.1 hdg hv (k H locs ls hP hD hS h)
theorem k_bipush (C : CX V p l R s m args c A kc ks own cc nL fr lo) {n : Int} {v : Int32} (hdg : decode cc pc = .ok (.bipush n, 2)) (hv : (Int8.ofInt n).toInt32 = v) (k : WC V p l e R s m args below meth c Q A kc ks nL w (pc + 2) L (.int v :: st)) : WC V p l e R s m args below meth c Q A kc ks nL w pc L st :=
  fun H locs ls hP hD hS h => lv_bipush C.1 C.2.1 hdg hv (k H locs ls hP hD hS h)
theorem k_sipush (C : CX V p l R s m args c A kc ks own cc nL fr lo) {n : Int} {v : Int32} (hdg : decode cc pc = .ok (.sipush n, 3)) (hv : (Int16.ofInt n).toInt32 = v) (k : WC V p l e R s m args below meth c Q A kc ks nL w (pc + 3) L (.int v :: st)) : WC V p l e R s m args below meth c Q A kc ks nL w pc L st :=
  fun H locs ls hP hD hS h => lv_sipush C.1 C.2.1 hdg hv (k H locs ls hP hD hS h)
theorem k_lconst (C : CX V p l R s m args c A kc ks own cc nL fr lo) {n : Fin 2} {v : Int64} (hdg : decode cc pc = .ok (.lconst n, 1)) (hv : Int64.ofNat (n : Nat) = v) (k : WC V p l e R s m args below meth c Q A kc ks nL w (pc + 1) L (.long v :: st)) : WC V p l e R s m args below meth c Q A kc ks nL w pc L st :=
  fun H locs ls hP hD hS h => lv_lconst C.1 C.2.1 hdg hv (k H locs ls hP hD hS h)
theorem k_iload_n (C : CX V p l R s m args c A kc ks own cc nL fr lo) {k : Fin 4} {x : Int32} (hdg : decode cc pc = .ok (.iload_n k, 1)) (j : Nat) (hl : L[j]? = some ((k : Nat), .int x)) (kk : WC V p l e R s m args below meth c Q A kc ks nL w (pc + 1) L (.int x :: st)) : WC V p l e R s m args below meth c Q A kc ks nL w pc L st :=
  fun H locs ls hP hD hS h => lv_iload_n C.1 C.2.1 hdg rfl (lv_at h j hl) (kk H locs ls hP hD hS h)
theorem k_iload (C : CX V p l R s m args c A kc ks own cc nL fr lo) {i : Nat} {x : Int32} (hdg : decode cc pc = .ok (.iload i, 2)) (j : Nat) (hl : L[j]? = some (i, .int x)) (kk : WC V p l e R s m args below meth c Q A kc ks nL w (pc + 2) L (.int x :: st)) : WC V p l e R s m args below meth c Q A kc ks nL w pc L st :=
  fun H locs ls hP hD hS h => lv_iload C.1 C.2.1 hdg (lv_at h j hl) (kk H locs ls hP hD hS h)
theorem k_lload_n (C : CX V p l R s m args c A kc ks own cc nL fr lo) {k : Fin 4} {x : Int64} (hdg : decode cc pc = .ok (.lload_n k, 1)) (j : Nat) (hl : L[j]? = some ((k : Nat), .long x)) (kk : WC V p l e R s m args below meth c Q A kc ks nL w (pc + 1) L (.long x :: st)) : WC V p l e R s m args below meth c Q A kc ks nL w pc L st :=
  fun H locs ls hP hD hS h => lv_lload_n C.1 C.2.1 hdg rfl (lv_at h j hl) (kk H locs ls hP hD hS h)
theorem k_aload_n (C : CX V p l R s m args c A kc ks own cc nL fr lo) {k : Fin 4} {x : Nat} (hdg : decode cc pc = .ok (.aload_n k, 1)) (j : Nat) (hl : L[j]? = some ((k : Nat), .ref x)) (kk : WC V p l e R s m args below meth c Q A kc ks nL w (pc + 1) L (.ref x :: st)) : WC V p l e R s m args below meth c Q A kc ks nL w pc L st :=
  fun H locs ls hP hD hS h => lv_aload_n C.1 C.2.1 hdg rfl (lv_at h j hl) (kk H locs ls hP hD hS h)
theorem k_aload (C : CX V p l R s m args c A kc ks own cc nL fr lo) {i : Nat} {x : Nat} (hdg : decode cc pc = .ok (.aload i, 2)) (j : Nat) (hl : L[j]? = some (i, .ref x)) (kk : WC V p l e R s m args below meth c Q A kc ks nL w (pc + 2) L (.ref x :: st)) : WC V p l e R s m args below meth c Q A kc ks nL w pc L st :=
  fun H locs ls hP hD hS h => lv_aload C.1 C.2.1 hdg (lv_at h j hl) (kk H locs ls hP hD hS h)
theorem k_istore_n (C : CX V p l R s m args c A kc ks own cc nL fr lo) {k : Fin 4} {x : Int32} (hdg : decode cc pc = .ok (.istore_n k, 1)) (L' : List (Nat × Value)) (hn : (k : Nat) < nL) (hl : ((k : Nat), Value.int x) :: L.filter (fun q => !(q.1 == (k : Nat)) && !(q.1 + 1 == (k : Nat) && q.2.category == 2)) = L') (kk : WC V p l e R s m args below meth c Q A kc ks nL w (pc + 1) L' st) : WC V p l e R s m args below meth c Q A kc ks nL w pc L (.int x :: st) :=
  fun H locs ls hP hD hS h => lv_istore_n C.1 C.2.1 hdg rfl h hn hl (fun ls' h' => kk H locs ls' hP hD hS h')
theorem k_istore (C : CX V p l R s m args c A kc ks own cc nL fr lo) {i : Nat} {x : Int32} (hdg : decode cc pc = .ok (.istore i, 2)) (L' : List (Nat × Value)) (hn : i < nL) (hl : (i, Value.int x) :: L.filter (fun q => !(q.1 == i) && !(q.1 + 1 == i && q.2.category == 2)) = L') (kk : WC V p l e R s m args below meth c Q A kc ks nL w (pc + 2) L' st) : WC V p l e R s m args below meth c Q A kc ks nL w pc L (.int x :: st) :=
  fun H locs ls hP hD hS h => lv_istore C.1 C.2.1 hdg h hn hl (fun ls' h' => kk H locs ls' hP hD hS h')
theorem k_astore_n (C : CX V p l R s m args c A kc ks own cc nL fr lo) {k : Fin 4} {x : Nat} (hdg : decode cc pc = .ok (.astore_n k, 1)) (L' : List (Nat × Value)) (hn : (k : Nat) < nL) (hl : ((k : Nat), Value.ref x) :: L.filter (fun q => !(q.1 == (k : Nat)) && !(q.1 + 1 == (k : Nat) && q.2.category == 2)) = L') (kk : WC V p l e R s m args below meth c Q A kc ks nL w (pc + 1) L' st) : WC V p l e R s m args below meth c Q A kc ks nL w pc L (.ref x :: st) :=
  fun H locs ls hP hD hS h => lv_astore_n C.1 C.2.1 hdg rfl h hn hl (fun ls' h' => kk H locs ls' hP hD hS h')
theorem k_iinc (C : CX V p l R s m args c A kc ks own cc nL fr lo) {i : Nat} {n : Int} {x v : Int32} (hdg : decode cc pc = .ok (.iinc i n, 3)) (j : Nat) (hj : L[j]? = some (i, .int x)) (hv : x + Int32.ofInt n = v) (L' : List (Nat × Value)) (hn : i < nL) (hl : (i, Value.int v) :: L.filter (fun q => !(q.1 == i) && !(q.1 + 1 == i && q.2.category == 2)) = L') (kk : WC V p l e R s m args below meth c Q A kc ks nL w (pc + 3) L' st) : WC V p l e R s m args below meth c Q A kc ks nL w pc L st :=
  fun H locs ls hP hD hS h => lv_iinc C.1 C.2.1 hdg h hj hv hn hl (fun ls' h' => kk H locs ls' hP hD hS h')
theorem k_topi {x : Int32} (k : ∀ y : Int32, y = x → WC V p l e R s m args below meth c Q A kc ks nL w pc L (.int y :: st)) : WC V p l e R s m args below meth c Q A kc ks nL w pc L (.int x :: st) := k x rfl
theorem k_iadd (C : CX V p l R s m args c A kc ks own cc nL fr lo) {x y : Int32} (hdg : decode cc pc = .ok (.iadd, 1)) (k : WC V p l e R s m args below meth c Q A kc ks nL w (pc + 1) L (.int (x + y) :: st)) : WC V p l e R s m args below meth c Q A kc ks nL w pc L (.int y :: .int x :: st) :=
  fun H locs ls hP hD hS h => lv_iadd C.1 C.2.1 hdg (k H locs ls hP hD hS h)
theorem k_isub (C : CX V p l R s m args c A kc ks own cc nL fr lo) {x y : Int32} (hdg : decode cc pc = .ok (.isub, 1)) (k : WC V p l e R s m args below meth c Q A kc ks nL w (pc + 1) L (.int (x - y) :: st)) : WC V p l e R s m args below meth c Q A kc ks nL w pc L (.int y :: .int x :: st) :=
  fun H locs ls hP hD hS h => lv_isub C.1 C.2.1 hdg (k H locs ls hP hD hS h)
theorem k_imul (C : CX V p l R s m args c A kc ks own cc nL fr lo) {x y : Int32} (hdg : decode cc pc = .ok (.imul, 1)) (k : WC V p l e R s m args below meth c Q A kc ks nL w (pc + 1) L (.int (x * y) :: st)) : WC V p l e R s m args below meth c Q A kc ks nL w pc L (.int y :: .int x :: st) :=
  fun H locs ls hP hD hS h => lv_imul C.1 C.2.1 hdg (k H locs ls hP hD hS h)
theorem k_idiv (C : CX V p l R s m args c A kc ks own cc nL fr lo) {x y : Int32} (hdg : decode cc pc = .ok (.idiv, 1)) (hne : ¬ y = 0) (k : WC V p l e R s m args below meth c Q A kc ks nL w (pc + 1) L (.int (x / y) :: st)) : WC V p l e R s m args below meth c Q A kc ks nL w pc L (.int y :: .int x :: st) :=
  fun H locs ls hP hD hS h => lv_idiv C.1 C.2.1 hdg hne (k H locs ls hP hD hS h)
theorem k_irem (C : CX V p l R s m args c A kc ks own cc nL fr lo) {x y : Int32} (hdg : decode cc pc = .ok (.irem, 1)) (hne : ¬ y = 0) (k : WC V p l e R s m args below meth c Q A kc ks nL w (pc + 1) L (.int (x - x / y * y) :: st)) : WC V p l e R s m args below meth c Q A kc ks nL w pc L (.int y :: .int x :: st) :=
  fun H locs ls hP hD hS h => lv_irem C.1 C.2.1 hdg hne (k H locs ls hP hD hS h)
theorem k_iand (C : CX V p l R s m args c A kc ks own cc nL fr lo) {x y : Int32} (hdg : decode cc pc = .ok (.iand, 1)) (k : WC V p l e R s m args below meth c Q A kc ks nL w (pc + 1) L (.int (x &&& y) :: st)) : WC V p l e R s m args below meth c Q A kc ks nL w pc L (.int y :: .int x :: st) :=
  fun H locs ls hP hD hS h => lv_iand C.1 C.2.1 hdg (k H locs ls hP hD hS h)
theorem k_ior (C : CX V p l R s m args c A kc ks own cc nL fr lo) {x y : Int32} (hdg : decode cc pc = .ok (.ior, 1)) (k : WC V p l e R s m args below meth c Q A kc ks nL w (pc + 1) L (.int (x ||| y) :: st)) : WC V p l e R s m args below meth c Q A kc ks nL w pc L (.int y :: .int x :: st) :=
  fun H locs ls hP hD hS h => lv_ior C.1 C.2.1 hdg (k H locs ls hP hD hS h)
theorem k_ixor (C : CX V p l R s m args c A kc ks own cc nL fr lo) {x y : Int32} (hdg : decode cc pc = .ok (.ixor, 1)) (k : WC V p l e R s m args below meth c Q A kc ks nL w (pc + 1) L (.int (x ^^^ y) :: st)) : WC V p l e R s m args below meth c Q A kc ks nL w pc L (.int y :: .int x :: st) :=
  fun H locs ls hP hD hS h => lv_ixor C.1 C.2.1 hdg (k H locs ls hP hD hS h)
theorem k_ishl (C : CX V p l R s m args c A kc ks own cc nL fr lo) {x y : Int32} (hdg : decode cc pc = .ok (.ishl, 1)) (k : WC V p l e R s m args below meth c Q A kc ks nL w (pc + 1) L (.int (x <<< (y &&& 31)) :: st)) : WC V p l e R s m args below meth c Q A kc ks nL w pc L (.int y :: .int x :: st) :=
  fun H locs ls hP hD hS h => lv_ishl C.1 C.2.1 hdg (k H locs ls hP hD hS h)
theorem k_ishr (C : CX V p l R s m args c A kc ks own cc nL fr lo) {x y : Int32} (hdg : decode cc pc = .ok (.ishr, 1)) (k : WC V p l e R s m args below meth c Q A kc ks nL w (pc + 1) L (.int (x >>> (y &&& 31)) :: st)) : WC V p l e R s m args below meth c Q A kc ks nL w pc L (.int y :: .int x :: st) :=
  fun H locs ls hP hD hS h => lv_ishr C.1 C.2.1 hdg (k H locs ls hP hD hS h)
theorem k_iushr (C : CX V p l R s m args c A kc ks own cc nL fr lo) {x y : Int32} (hdg : decode cc pc = .ok (.iushr, 1)) (k : WC V p l e R s m args below meth c Q A kc ks nL w (pc + 1) L (.int (x.toUInt32 >>> (y.toUInt32 &&& Int32.toUInt32 31)).toInt32 :: st)) : WC V p l e R s m args below meth c Q A kc ks nL w pc L (.int y :: .int x :: st) :=
  fun H locs ls hP hD hS h => lv_iushr C.1 C.2.1 hdg rfl (k H locs ls hP hD hS h)
theorem k_i2l (C : CX V p l R s m args c A kc ks own cc nL fr lo) {x : Int32} (hdg : decode cc pc = .ok (.i2l, 1)) (k : WC V p l e R s m args below meth c Q A kc ks nL w (pc + 1) L (.long x.toInt64 :: st)) : WC V p l e R s m args below meth c Q A kc ks nL w pc L (.int x :: st) :=
  fun H locs ls hP hD hS h => lv_i2l C.1 C.2.1 hdg rfl (k H locs ls hP hD hS h)
theorem k_i2c (C : CX V p l R s m args c A kc ks own cc nL fr lo) {x : Int32} (hdg : decode cc pc = .ok (.i2c, 1)) (k : WC V p l e R s m args below meth c Q A kc ks nL w (pc + 1) L (.int (x.toUInt32 % 65536).toInt32 :: st)) : WC V p l e R s m args below meth c Q A kc ks nL w pc L (.int x :: st) :=
  fun H locs ls hP hD hS h => lv_i2c C.1 C.2.1 hdg rfl (k H locs ls hP hD hS h)
theorem k_land (C : CX V p l R s m args c A kc ks own cc nL fr lo) {x y : Int64} (hdg : decode cc pc = .ok (.land, 1)) (k : WC V p l e R s m args below meth c Q A kc ks nL w (pc + 1) L (.long (x &&& y) :: st)) : WC V p l e R s m args below meth c Q A kc ks nL w pc L (.long y :: .long x :: st) :=
  fun H locs ls hP hD hS h => lv_land C.1 C.2.1 hdg (k H locs ls hP hD hS h)
theorem k_lor (C : CX V p l R s m args c A kc ks own cc nL fr lo) {x y : Int64} (hdg : decode cc pc = .ok (.lor, 1)) (k : WC V p l e R s m args below meth c Q A kc ks nL w (pc + 1) L (.long (x ||| y) :: st)) : WC V p l e R s m args below meth c Q A kc ks nL w pc L (.long y :: .long x :: st) :=
  fun H locs ls hP hD hS h => lv_lor C.1 C.2.1 hdg (k H locs ls hP hD hS h)
theorem k_lushr (C : CX V p l R s m args c A kc ks own cc nL fr lo) {x : Int64} {y : Int32} (hdg : decode cc pc = .ok (.lushr, 1)) (k : WC V p l e R s m args below meth c Q A kc ks nL w (pc + 1) L (.long (x.toUInt64 >>> (y.toInt64.toUInt64 &&& Int64.toUInt64 63)).toInt64 :: st)) : WC V p l e R s m args below meth c Q A kc ks nL w pc L (.int y :: .long x :: st) :=
  fun H locs ls hP hD hS h => lv_lushr C.1 C.2.1 hdg rfl (k H locs ls hP hD hS h)
theorem k_lshl (C : CX V p l R s m args c A kc ks own cc nL fr lo) {x : Int64} {y : Int32} (hdg : decode cc pc = .ok (.lshl, 1)) (k : WC V p l e R s m args below meth c Q A kc ks nL w (pc + 1) L (.long (x <<< (y.toInt64 &&& 63)) :: st)) : WC V p l e R s m args below meth c Q A kc ks nL w pc L (.int y :: .long x :: st) :=
  fun H locs ls hP hD hS h => lv_lshl C.1 C.2.1 hdg rfl (k H locs ls hP hD hS h)
theorem k_dup (C : CX V p l R s m args c A kc ks own cc nL fr lo) {v : Value} (hdg : decode cc pc = .ok (.dup, 1)) (hv : v.category = 1) (k : WC V p l e R s m args below meth c Q A kc ks nL w (pc + 1) L (v :: v :: st)) : WC V p l e R s m args below meth c Q A kc ks nL w pc L (v :: st) :=
  fun H locs ls hP hD hS h => lv_dup C.1 C.2.1 hdg hv (k H locs ls hP hD hS h)
theorem k_dup2 (C : CX V p l R s m args c A kc ks own cc nL fr lo) {v u : Value} (hdg : decode cc pc = .ok (.dup2, 1)) (hv : v.category = 1) (hu : u.category = 1) (k : WC V p l e R s m args below meth c Q A kc ks nL w (pc + 1) L (v :: u :: v :: u :: st)) : WC V p l e R s m args below meth c Q A kc ks nL w pc L (v :: u :: st) :=
  fun H locs ls hP hD hS h => lv_dup2_11 C.1 C.2.1 hdg hv hu (k H locs ls hP hD hS h)
theorem k_pop (C : CX V p l R s m args c A kc ks own cc nL fr lo) {v : Value} (hdg : decode cc pc = .ok (.pop, 1)) (hv : v.category = 1) (k : WC V p l e R s m args below meth c Q A kc ks nL w (pc + 1) L st) : WC V p l e R s m args below meth c Q A kc ks nL w pc L (v :: st) :=
  fun H locs ls hP hD hS h => lv_pop C.1 C.2.1 hdg hv (k H locs ls hP hD hS h)
theorem k_goto (C : CX V p l R s m args c A kc ks own cc nL fr lo) {off : Int} (tgt : Nat) (hdg : decode cc pc = .ok (.goto off, 3)) (ht : (pc : Int) + off = (tgt : Int)) (k : WC V p l e R s m args below meth c Q A kc ks nL w tgt L st) : WC V p l e R s m args below meth c Q A kc ks nL w pc L st :=
  fun H locs ls hP hD hS h => lv_goto C.1 C.2.1 hdg ht (k H locs ls hP hD hS h)
theorem k_if_eq (C : CX V p l R s m args c A kc ks own cc nL fr lo) {x : Int32} {off : Int} (tgt : Nat) (hdg : decode cc pc = .ok (.ifCond .eq off, 3)) (ht : (pc : Int) + off = (tgt : Int)) (kt : x = 0 → WC V p l e R s m args below meth c Q A kc ks nL w tgt L st) (kf : ¬ x = 0 → WC V p l e R s m args below meth c Q A kc ks nL w (pc + 3) L st) : WC V p l e R s m args below meth c Q A kc ks nL w pc L (.int x :: st) :=
  fun H locs ls hP hD hS h => lv_if_eq C.1 C.2.1 hdg ht (fun z => kt z H locs ls hP hD hS h) (fun z => kf z H locs ls hP hD hS h)
theorem k_if_ne (C : CX V p l R s m args c A kc ks own cc nL fr lo) {x : Int32} {off : Int} (tgt : Nat) (hdg : decode cc pc = .ok (.ifCond .ne off, 3)) (ht : (pc : Int) + off = (tgt : Int)) (kt : ¬ x = 0 → WC V p l e R s m args below meth c Q A kc ks nL w tgt L st) (kf : x = 0 → WC V p l e R s m args below meth c Q A kc ks nL w (pc + 3) L st) : WC V p l e R s m args below meth c Q A kc ks nL w pc L (.int x :: st) :=
  fun H locs ls hP hD hS h => lv_if_ne C.1 C.2.1 hdg ht (fun z => kt z H locs ls hP hD hS h) (fun z => kf z H locs ls hP hD hS h)
theorem k_if_lt (C : CX V p l R s m args c A kc ks own cc nL fr lo) {x : Int32} {off : Int} (tgt : Nat) (hdg : decode cc pc = .ok (.ifCond .lt off, 3)) (ht : (pc : Int) + off = (tgt : Int)) (kt : x < 0 → WC V p l e R s m args below meth c Q A kc ks nL w tgt L st) (kf : ¬ x < 0 → WC V p l e R s m args below meth c Q A kc ks nL w (pc + 3) L st) : WC V p l e R s m args below meth c Q A kc ks nL w pc L (.int x :: st) :=
  fun H locs ls hP hD hS h => lv_if_lt C.1 C.2.1 hdg ht (fun z => kt z H locs ls hP hD hS h) (fun z => kf z H locs ls hP hD hS h)
theorem k_if_ge (C : CX V p l R s m args c A kc ks own cc nL fr lo) {x : Int32} {off : Int} (tgt : Nat) (hdg : decode cc pc = .ok (.ifCond .ge off, 3)) (ht : (pc : Int) + off = (tgt : Int)) (kt : 0 ≤ x → WC V p l e R s m args below meth c Q A kc ks nL w tgt L st) (kf : ¬ 0 ≤ x → WC V p l e R s m args below meth c Q A kc ks nL w (pc + 3) L st) : WC V p l e R s m args below meth c Q A kc ks nL w pc L (.int x :: st) :=
  fun H locs ls hP hD hS h => lv_if_ge C.1 C.2.1 hdg ht (fun z => kt z H locs ls hP hD hS h) (fun z => kf z H locs ls hP hD hS h)
theorem k_if_gt (C : CX V p l R s m args c A kc ks own cc nL fr lo) {x : Int32} {off : Int} (tgt : Nat) (hdg : decode cc pc = .ok (.ifCond .gt off, 3)) (ht : (pc : Int) + off = (tgt : Int)) (kt : 0 < x → WC V p l e R s m args below meth c Q A kc ks nL w tgt L st) (kf : ¬ 0 < x → WC V p l e R s m args below meth c Q A kc ks nL w (pc + 3) L st) : WC V p l e R s m args below meth c Q A kc ks nL w pc L (.int x :: st) :=
  fun H locs ls hP hD hS h => lv_if_gt C.1 C.2.1 hdg ht (fun z => kt z H locs ls hP hD hS h) (fun z => kf z H locs ls hP hD hS h)
theorem k_if_le (C : CX V p l R s m args c A kc ks own cc nL fr lo) {x : Int32} {off : Int} (tgt : Nat) (hdg : decode cc pc = .ok (.ifCond .le off, 3)) (ht : (pc : Int) + off = (tgt : Int)) (kt : x ≤ 0 → WC V p l e R s m args below meth c Q A kc ks nL w tgt L st) (kf : ¬ x ≤ 0 → WC V p l e R s m args below meth c Q A kc ks nL w (pc + 3) L st) : WC V p l e R s m args below meth c Q A kc ks nL w pc L (.int x :: st) :=
  fun H locs ls hP hD hS h => lv_if_le C.1 C.2.1 hdg ht (fun z => kt z H locs ls hP hD hS h) (fun z => kf z H locs ls hP hD hS h)
theorem k_icmp_eq (C : CX V p l R s m args c A kc ks own cc nL fr lo) {x y : Int32} {off : Int} (tgt : Nat) (hdg : decode cc pc = .ok (.if_icmp .eq off, 3)) (ht : (pc : Int) + off = (tgt : Int)) (kt : x = y → WC V p l e R s m args below meth c Q A kc ks nL w tgt L st) (kf : ¬ x = y → WC V p l e R s m args below meth c Q A kc ks nL w (pc + 3) L st) : WC V p l e R s m args below meth c Q A kc ks nL w pc L (.int y :: .int x :: st) :=
  fun H locs ls hP hD hS h => lv_icmp_eq C.1 C.2.1 hdg ht (fun z => kt z H locs ls hP hD hS h) (fun z => kf z H locs ls hP hD hS h)
theorem k_icmp_ne (C : CX V p l R s m args c A kc ks own cc nL fr lo) {x y : Int32} {off : Int} (tgt : Nat) (hdg : decode cc pc = .ok (.if_icmp .ne off, 3)) (ht : (pc : Int) + off = (tgt : Int)) (kt : ¬ x = y → WC V p l e R s m args below meth c Q A kc ks nL w tgt L st) (kf : x = y → WC V p l e R s m args below meth c Q A kc ks nL w (pc + 3) L st) : WC V p l e R s m args below meth c Q A kc ks nL w pc L (.int y :: .int x :: st) :=
  fun H locs ls hP hD hS h => lv_icmp_ne C.1 C.2.1 hdg ht (fun z => kt z H locs ls hP hD hS h) (fun z => kf z H locs ls hP hD hS h)
theorem k_icmp_lt (C : CX V p l R s m args c A kc ks own cc nL fr lo) {x y : Int32} {off : Int} (tgt : Nat) (hdg : decode cc pc = .ok (.if_icmp .lt off, 3)) (ht : (pc : Int) + off = (tgt : Int)) (kt : x < y → WC V p l e R s m args below meth c Q A kc ks nL w tgt L st) (kf : ¬ x < y → WC V p l e R s m args below meth c Q A kc ks nL w (pc + 3) L st) : WC V p l e R s m args below meth c Q A kc ks nL w pc L (.int y :: .int x :: st) :=
  fun H locs ls hP hD hS h => lv_icmp_lt C.1 C.2.1 hdg ht (fun z => kt z H locs ls hP hD hS h) (fun z => kf z H locs ls hP hD hS h)
theorem k_icmp_ge (C : CX V p l R s m args c A kc ks own cc nL fr lo) {x y : Int32} {off : Int} (tgt : Nat) (hdg : decode cc pc = .ok (.if_icmp .ge off, 3)) (ht : (pc : Int) + off = (tgt : Int)) (kt : y ≤ x → WC V p l e R s m args below meth c Q A kc ks nL w tgt L st) (kf : ¬ y ≤ x → WC V p l e R s m args below meth c Q A kc ks nL w (pc + 3) L st) : WC V p l e R s m args below meth c Q A kc ks nL w pc L (.int y :: .int x :: st) :=
  fun H locs ls hP hD hS h => lv_icmp_ge C.1 C.2.1 hdg ht (fun z => kt z H locs ls hP hD hS h) (fun z => kf z H locs ls hP hD hS h)
theorem k_icmp_gt (C : CX V p l R s m args c A kc ks own cc nL fr lo) {x y : Int32} {off : Int} (tgt : Nat) (hdg : decode cc pc = .ok (.if_icmp .gt off, 3)) (ht : (pc : Int) + off = (tgt : Int)) (kt : y < x → WC V p l e R s m args below meth c Q A kc ks nL w tgt L st) (kf : ¬ y < x → WC V p l e R s m args below meth c Q A kc ks nL w (pc + 3) L st) : WC V p l e R s m args below meth c Q A kc ks nL w pc L (.int y :: .int x :: st) :=
  fun H locs ls hP hD hS h => lv_icmp_gt C.1 C.2.1 hdg ht (fun z => kt z H locs ls hP hD hS h) (fun z => kf z H locs ls hP hD hS h)
theorem k_icmp_le (C : CX V p l R s m args c A kc ks own cc nL fr lo) {x y : Int32} {off : Int} (tgt : Nat) (hdg : decode cc pc = .ok (.if_icmp .le off, 3)) (ht : (pc : Int) + off = (tgt : Int)) (kt : x ≤ y → WC V p l e R s m args below meth c Q A kc ks nL w tgt L st) (kf : ¬ x ≤ y → WC V p l e R s m args below meth c Q A kc ks nL w (pc + 3) L st) : WC V p l e R s m args below meth c Q A kc ks nL w pc L (.int y :: .int x :: st) :=
  fun H locs ls hP hD hS h => lv_icmp_le C.1 C.2.1 hdg ht (fun z => kt z H locs ls hP hD hS h) (fun z => kf z H locs ls hP hD hS h)
theorem k_lcmp (C : CX V p l R s m args c A kc ks own cc nL fr lo) {x y : Int64} (hdg : decode cc pc = .ok (.lcmp, 1)) (k : WC V p l e R s m args below meth c Q A kc ks nL w (pc + 1) L (.int (lg_cmp x y) :: st)) : WC V p l e R s m args below meth c Q A kc ks nL w pc L (.long y :: .long x :: st) :=
  fun H locs ls hP hD hS h => W.lcmp C.1 C.2.1 hdg (k H locs ls hP hD hS h)
theorem k_tableOut (C : CX V p l R s m args c A kc ks own cc nL fr lo) {dflt lo1 hi1 : Int} {offs : Array Int} {len : Nat} {x : Int32} (tgt : Nat) (hdg : decode cc pc = .ok (.tableswitch dflt lo1 hi1 offs, len)) (h : x.toInt < lo1 ∨ hi1 < x.toInt) (ht : (pc : Int) + dflt = (tgt : Int)) (k : WC V p l e R s m args below meth c Q A kc ks nL w tgt L st) : WC V p l e R s m args below meth c Q A kc ks nL w pc L (.int x :: st) :=
  fun H locs ls hP hD hS hl => lv_tableOut C.1 C.2.1 hdg h ht (k H locs ls hP hD hS hl)
theorem k_tableIn (C : CX V p l R s m args c A kc ks own cc nL fr lo) {dflt lo1 hi1 : Int} {offs : Array Int} {len : Nat} {x : Int32} {off : Int} (tgt : Nat) (hdg : decode cc pc = .ok (.tableswitch dflt lo1 hi1 offs, len)) (h1 : ¬ x.toInt < lo1) (h2 : ¬ hi1 < x.toInt) (ho : offs[(x.toInt - lo1).toNat]? = some off) (ht : (pc : Int) + off = (tgt : Int)) (k : WC V p l e R s m args below meth c Q A kc ks nL w tgt L st) : WC V p l e R s m args below meth c Q A kc ks nL w pc L (.int x :: st) :=
  fun H locs ls hP hD hS hl => lv_tableIn C.1 C.2.1 hdg h1 h2 ho ht (k H locs ls hP hD hS hl)
theorem k_lookup (C : CX V p l R s m args c A kc ks own cc nL fr lo) {dflt : Int} {ps : Array (Int × Int)} {len : Nat} {x : Int32} {off : Int} (tgt : Nat) (hdg : decode cc pc = .ok (.lookupswitch dflt ps, len)) (hp : (ps.toList.zip (ps.toList.drop 1)).all (fun (a, next) => a.1 < next.1) = true) (ho : Op.lookupswitch.offset ps.toList dflt x.toInt = off) (ht : (pc : Int) + off = (tgt : Int)) (k : WC V p l e R s m args below meth c Q A kc ks nL w tgt L st) : WC V p l e R s m args below meth c Q A kc ks nL w pc L (.int x :: st) :=
  fun H locs ls hP hD hS hl => lv_lookup C.1 C.2.1 hdg hp ho ht (k H locs ls hP hD hS hl)
theorem k_get (C : CX V p l R s m args c A kc ks own cc nL fr lo) {ref Cn : String} {T : u_T} {N ci index a : Nat} {fs : List Value} {v : Value} (k0 : Nat) (he : w[k0]? = some (a, .inr (ci, fs))) (hc : vwCl[ci]? = some (Cn, T, N)) (k : Nat) (hk : k < N) (hin : ∀ x ∈ u_ws Cn T N, x ∈ GW) (hlink : Cond.fieldLink own index ref (T k).2.1 (T k).2.2.1 ∈ GW) (hsame : (T k).1 = ref) (hv : fs[k]? = some v) (hdg : decode cc pc = .ok (.getfield index, 3))
    (kk : WC V p l e R s m args below meth c Q A kc ks nL w (pc + 3) L (v :: st)) : WC V p l e R s m args below meth c Q A kc ks nL w pc L (.ref a :: st) :=
  fun H locs ls hP hD hS hl => va_get (D := V.1) (ci := ci) (C := Cn) (T := T) (N := N) C.1 C.2.1 C.2.2.2.2.1 hin C.2.2.2.1 C.2.2.2.2.2.1.1 hP k0 he hc k hk (C.2.2.2.2.1 _ hlink) (fun x h => by rw [← hsame]; exact h) hv hdg (kk H locs ls hP hD hS hl)
theorem k_put (C : CX V p l R s m args c A kc ks own cc nL fr lo) {ref Cn : String} {T : u_T} {N ci index a : Nat} {fs : List Value} {v : Value} {ty : FieldType} {w' : va_W} (ty0 : Nat → FieldType) (hty : ∀ k, k < N → parseFieldDescriptor (T k).2.2.1 = some (ty0 k)) (hnm : ∀ a, a < N → ∀ b, b < N → a ≠ b → (T a).2.1 ≠ (T b).2.1) (k0 : Nat) (he : w[k0]? = some (a, .inr (ci, fs))) (hc : vwCl[ci]? = some (Cn, T, N)) (k : Nat) (hk : k < N) (hin : ∀ x ∈ u_ws Cn T N, x ∈ GW) (hlink : Cond.fieldLink own index ref (T k).2.1 (T k).2.2.1 ∈ GW) (hsame : (T k).1 = ref) (hfin : (T k).2.2.2 = false) (hd : parseFieldDescriptor (T k).2.2.1 = some ty) (hn : narrow ty v = v) (hfit : fits ty v = true) (hl : k < fs.length) (hw : w.set k0 (a, .inr (ci, fs.set k v)) = w') (hdg : decode cc pc = .ok (.putfield index, 3))
    (kk : WC V p l e R s m args below meth c Q A kc ks nL w' (pc + 3) L st) : WC V p l e R s m args below meth c Q A kc ks nL w pc L (v :: .ref a :: st) :=
  fun H locs ls hP hD hS hL => va_put (D := V.1) (ci := ci) (C := Cn) (T := T) (N := N) C.1 C.2.1 C.2.2.2.2.1 hin ty0 hty hnm C.2.2.2.1 C.2.2.2.2.2.1.1 hP hD hS k0 he hc k hk (C.2.2.2.2.1 _ hlink) (fun x h => by rw [← hsame]; exact h) hfin hd hn hfit hl hdg (fun H1 locs1 hP hD hS => kk H1 locs1 ls (hw ▸ hP) (hw ▸ hD) hS hL)
theorem k_iald (C : CX V p l R s m args c A kc ks own cc nL fr lo) {a n : Nat} {f : Nat → Int32} {i : Int32} (k0 : Nat) (he : w[k0]? = some (a, .inl (V.2.1 0, n, .inl f))) (hi : vp_in i n) (hdg : decode cc pc = .ok (.iaload, 1)) (kk : WC V p l e R s m args below meth c Q A kc ks nL w (pc + 1) L (.int (f i.toNatClampNeg) :: st)) : WC V p l e R s m args below meth c Q A kc ks nL w pc L (.int i :: .ref a :: st) :=
  fun H locs ls hP hD hS hl => va_iald C.1 C.2.1 C.2.2.2.2.2.1.1 hP k0 0 he rfl hi hdg (kk H locs ls hP hD hS hl)
theorem k_cald (C : CX V p l R s m args c A kc ks own cc nL fr lo) {a n : Nat} {f : Nat → Int32} {i : Int32} (k0 : Nat) (he : w[k0]? = some (a, .inl (V.2.1 1, n, .inl f))) (hi : vp_in i n) (hdg : decode cc pc = .ok (.caload, 1)) (kk : WC V p l e R s m args below meth c Q A kc ks nL w (pc + 1) L (.int (f i.toNatClampNeg) :: st)) : WC V p l e R s m args below meth c Q A kc ks nL w pc L (.int i :: .ref a :: st) :=
  fun H locs ls hP hD hS hl => va_cald C.1 C.2.1 C.2.2.2.2.2.1.1 hP k0 1 he rfl hi hdg (kk H locs ls hP hD hS hl)
theorem k_zald (C : CX V p l R s m args c A kc ks own cc nL fr lo) {a n : Nat} {f : Nat → Int32} {i : Int32} (k0 : Nat) (he : w[k0]? = some (a, .inl (V.2.1 3, n, .inl f))) (hi : vp_in i n) (hdg : decode cc pc = .ok (.baload, 1)) (kk : WC V p l e R s m args below meth c Q A kc ks nL w (pc + 1) L (.int (f i.toNatClampNeg) :: st)) : WC V p l e R s m args below meth c Q A kc ks nL w pc L (.int i :: .ref a :: st) :=
  fun H locs ls hP hD hS hl => va_zald C.1 C.2.1 C.2.2.2.2.2.1.1 hP k0 3 he rfl hi hdg (kk H locs ls hP hD hS hl)
theorem k_lald (C : CX V p l R s m args c A kc ks own cc nL fr lo) {a n : Nat} {f : Nat → Int64} {i : Int32} (k0 : Nat) (he : w[k0]? = some (a, .inl (V.2.1 2, n, .inr (.inl f)))) (hi : vp_in i n) (hdg : decode cc pc = .ok (.laload, 1)) (kk : WC V p l e R s m args below meth c Q A kc ks nL w (pc + 1) L (.long (f i.toNatClampNeg) :: st)) : WC V p l e R s m args below meth c Q A kc ks nL w pc L (.int i :: .ref a :: st) :=
  fun H locs ls hP hD hS hl => va_lald C.1 C.2.1 C.2.2.2.2.2.1.1 hP k0 2 he rfl hi hdg (kk H locs ls hP hD hS hl)
theorem k_iast (C : CX V p l R s m args c A kc ks own cc nL fr lo) {a n : Nat} {f : Nat → Int32} {i : Int32} {x : Int32} {w' : va_W} (k0 : Nat) (he : w[k0]? = some (a, .inl (V.2.1 0, n, .inl f))) (hi : vp_in i n) (hw : w.set k0 (a, .inl (V.2.1 0, n, .inl (upd f i.toNatClampNeg x))) = w') (hdg : decode cc pc = .ok (.iastore, 1)) (kk : WC V p l e R s m args below meth c Q A kc ks nL w' (pc + 1) L st) : WC V p l e R s m args below meth c Q A kc ks nL w pc L (.int x :: .int i :: .ref a :: st) :=
  fun H locs ls hP hD hS hl => va_iast C.1 C.2.1 C.2.2.2.2.2.1.1 hP hD hS k0 0 he rfl hi hdg (fun H1 locs1 hP hD hS => kk H1 locs1 ls (hw ▸ hP) (hw ▸ hD) hS hl)
theorem k_cast (C : CX V p l R s m args c A kc ks own cc nL fr lo) {a n : Nat} {f : Nat → Int32} {i : Int32} {x : Int32} {w' : va_W} (k0 : Nat) (he : w[k0]? = some (a, .inl (V.2.1 1, n, .inl f))) (hi : vp_in i n) (hw : w.set k0 (a, .inl (V.2.1 1, n, .inl (upd f i.toNatClampNeg (vp_nar .char x)))) = w') (hdg : decode cc pc = .ok (.castore, 1)) (kk : WC V p l e R s m args below meth c Q A kc ks nL w' (pc + 1) L st) : WC V p l e R s m args below meth c Q A kc ks nL w pc L (.int x :: .int i :: .ref a :: st) :=
  fun H locs ls hP hD hS hl => va_cast C.1 C.2.1 C.2.2.2.2.2.1.1 hP hD hS k0 1 he rfl hi hdg (fun H1 locs1 hP hD hS => kk H1 locs1 ls (hw ▸ hP) (hw ▸ hD) hS hl)
theorem k_zast (C : CX V p l R s m args c A kc ks own cc nL fr lo) {a n : Nat} {f : Nat → Int32} {i : Int32} {x : Int32} {w' : va_W} (k0 : Nat) (he : w[k0]? = some (a, .inl (V.2.1 3, n, .inl f))) (hi : vp_in i n) (hw : w.set k0 (a, .inl (V.2.1 3, n, .inl (upd f i.toNatClampNeg (vp_nar .boolean x)))) = w') (hdg : decode cc pc = .ok (.bastore, 1)) (kk : WC V p l e R s m args below meth c Q A kc ks nL w' (pc + 1) L st) : WC V p l e R s m args below meth c Q A kc ks nL w pc L (.int x :: .int i :: .ref a :: st) :=
  fun H locs ls hP hD hS hl => va_zast C.1 C.2.1 C.2.2.2.2.2.1.1 hP hD hS k0 3 he rfl hi hdg (fun H1 locs1 hP hD hS => kk H1 locs1 ls (hw ▸ hP) (hw ▸ hD) hS hl)
theorem k_last (C : CX V p l R s m args c A kc ks own cc nL fr lo) {a n : Nat} {f : Nat → Int64} {i : Int32} {x : Int64} {w' : va_W} (k0 : Nat) (he : w[k0]? = some (a, .inl (V.2.1 2, n, .inr (.inl f)))) (hi : vp_in i n) (hw : w.set k0 (a, .inl (V.2.1 2, n, .inr (.inl (vp_updL f i.toNatClampNeg x)))) = w') (hdg : decode cc pc = .ok (.lastore, 1)) (kk : WC V p l e R s m args below meth c Q A kc ks nL w' (pc + 1) L st) : WC V p l e R s m args below meth c Q A kc ks nL w pc L (.long x :: .int i :: .ref a :: st) :=
  fun H locs ls hP hD hS hl => va_last C.1 C.2.1 C.2.2.2.2.2.1.1 hP hD hS k0 2 he rfl hi hdg (fun H1 locs1 hP hD hS => kk H1 locs1 ls (hw ▸ hP) (hw ▸ hD) hS hl)
theorem k_alen (C : CX V p l R s m args c A kc ks own cc nL fr lo) {a : Nat} {cc0 : ClassId} {x : vp_A} {ty : FieldType} (k0 t0 : Nat) (he : w[k0]? = some (a, .inl (cc0, x))) (ht : (tysG V.2.1)[t0]? = some (cc0, ty)) (hdg : decode cc pc = .ok (.arraylength, 1)) (kk : WC V p l e R s m args below meth c Q A kc ks nL w (pc + 1) L (.int (Int32.ofNat x.1) :: st)) : WC V p l e R s m args below meth c Q A kc ks nL w pc L (.ref a :: st) :=
  fun H locs ls hP hD hS hl => va_alen C.1 C.2.1 C.2.2.2.2.2.1.1 hP k0 t0 he ht rfl hdg (kk H locs ls hP hD hS hl)
theorem free_in (C : CX V p l R s m args c A kc ks own cc nL fr lo) {H : Heap} {locs : List Loc} (hD : va_D A w) (hS : va_S A s.heap H locs) : ∀ q, va_A w H.size q → A q := by
  intro q h
  rcases h with ⟨k, e, h⟩ | h
  · exact hD.2 k (q, e) h
  · exact C.2.2.2.2.2.2.1 q (Nat.le_trans hS.1 h)
end BASE
/-- what a callee is given -/
def PRE (V : EV) (w : va_W) (sz : Nat) (U : State) : Prop := U.heap.size = sz ∧ va_P V.1 vwCl w U.heap ∧ ENV V (va_A w sz) U U.heap ∧ va_D (fun _ => True) w
theorem PRE.blind {V : EV} {w : va_W} {sz : Nat} {As : List Value} : FrameBlind (va_Pc As (PRE V w sz)) := fun a U g mk h => ⟨h.1, h.2.1, h.2.2.1, ENV.same (s := U) rfl h.2.2.2.1, h.2.2.2.2⟩
def rmG (fr lo : Nat) : Room := { frames := fr, cells := 0, slots := 0, locals := lo }
def rmX (fr lo : Nat) : Room := { frames := fr, cells := 1, slots := 6, locals := lo }
def MI (V : EV) (l : Launch) (y : MethodName) (cc : ByteArray) (nL : Nat) (ty : FieldType) (fr lo : Nat) (As : List Value) (w : va_W) (r : Int32) (w1 : va_W) : Prop :=
  ∀ sz, Met l y (.code y cc nL (some ty) :: GW) (rmG fr lo) (va_Pc As (PRE V w sz)) (va_Qi (fun r' (_ : Unit) => r' = r) (fun _ t => va_P V.1 vwCl w1 t.heap ∧ va_D (va_A w sz) w1) (va_A w sz)) 0 0 (va_A w sz)
def MV (V : EV) (l : Launch) (y : MethodName) (cc : ByteArray) (nL : Nat) (fr lo : Nat) (As : List Value) (w : va_W) (w1 : va_W) : Prop :=
  ∀ sz, Met l y (.code y cc nL none :: GW) (rmG fr lo) (va_Pc As (PRE V w sz)) (va_Qv (fun (_ : Unit) => True) (fun _ t => va_P V.1 vwCl w1 t.heap ∧ va_D (va_A w sz) w1) (va_A w sz)) 0 0 (va_A w sz)
/-- it throws -/
def XQ (V : EV) (w : va_W) (sz : Nat) (E : String) (w1 : va_W) : String → State → State → Prop := vx_X (fun (_ : Unit) => True) (fun E' _ t => E' = E ∧ va_P V.1 vwCl w1 t.heap ∧ va_D (va_A w sz) w1) (va_A w sz)
def TI (V : EV) (l : Launch) (y : MethodName) (cc : ByteArray) (nL : Nat) (ty : FieldType) (fr lo : Nat) (As : List Value) (w : va_W) (E : String) (w1 : va_W) : Prop :=
  ∀ sz, vx_Met l y (.code y cc nL (some ty) :: GW) (rmX fr lo) (va_Pc As (PRE V w sz)) (va_Qi (fun _ (_ : Unit) => False) (fun _ _ => True) (va_A w sz)) (XQ V w sz E w1) 1 6 (va_A w sz)
def TV (V : EV) (l : Launch) (y : MethodName) (cc : ByteArray) (nL : Nat) (fr lo : Nat) (As : List Value) (w : va_W) (E : String) (w1 : va_W) : Prop :=
  ∀ sz, vx_Met l y (.code y cc nL none :: GW) (rmX fr lo) (va_Pc As (PRE V w sz)) (va_Qv (fun (_ : Unit) => False) (fun _ _ => True) (va_A w sz)) (XQ V w sz E w1) 1 6 (va_A w sz)
theorem GW_good : ∀ w ∈ GW, goodWord w = true := fun w h => (List.mem_filter.mp h).2
theorem goodL {ws : List Cond} (h : ∀ w ∈ ws, w ∈ GW) : GoodIn GW ws := fun w hw => ⟨h w hw, good_of_word (GW_good w (h w hw))⟩
