/-! methods that throw: two contracts, by what the walk's function says: it returns (MI, MV), or it throws E (TI, TV) -/
def nmsX : List String := ["java/lang/RuntimeException", "java/lang/Exception"]
section THR
variable {V : EV} {p : Program} {l : Launch} {e : Env} {R : Room} {s : State} {m : MethodId} {args : Array Value} {below : List Frame} {meth : Method} {c : Code} {Q : State → Prop} {A : Nat → Prop} {own : String} {cc : ByteArray} {kc ks nL fr lo : Nat}
variable {w w1 : va_W} {pc : Nat} {L : List (Nat × Value)} {st st0 : List Value}
/-- a method's end by a throw: one thrown in a callee, one thrown here -/
def XE (V : EV) (p : Program) (l : Launch) (e : Env) (R : Room) (s : State) (m : MethodId) (args : Array Value) (below : List Frame) (meth : Method) (c : Code) (Q : State → Prop) (A : Nat → Prop) (kc ks nL : Nat) (own : String) (cc : ByteArray) (E : String) (w1 : va_W) : Prop :=
  (kc + 1 ≤ R.cells ∧ ks + 6 ≤ R.slots) ∧
  (∀ (H1 : Heap) (locs1 : List Loc) (ls : Array Slot) (pc : Nat) (rest : List Value) (q9 : Addr) (ce : Cell), va_P V.1 vwCl w1 H1 → va_D A w1 → va_S A s.heap H1 locs1 → H1[q9]? = some ce → ce.vm = .none → s.vm.findClass E = some ce.cls → vx_W p l e R s m args below meth c H1 locs1 (kc + 1) (ks + 6) Q (F0 m pc ls rest) q9) ∧
  (∀ (pc : Nat) (L : List (Nat × Value)) (st : List Value) (ik is ic j : Nat) (text : String), Bundle.fit E = true → Cond.classLink own ik E ∈ GW → Cond.initialized E ∈ GW → (own, is, text, j) ∈ sJ → (∀ x ∈ vx_atS own ic E nmsX, x ∈ GW ∨ x ∈ badX) →
    decode cc pc = .ok (.new ik, 3) → decode cc (pc + 3) = .ok (.dup, 1) → decode cc (pc + 4) = .ok (.ldc is, 2) → decode cc (pc + 6) = .ok (.invokespecial ic, 3) → decode cc (pc + 9) = .ok (.athrow, 1) → (st.map fun v => v.category).sum ≤ 8 → 5 < R.frames → 8 + 82 ≤ R.locals → WC V p l e R s m args below meth c Q A kc ks nL w1 pc L st)
theorem k_callVix (C : CX V p l R s m args c A kc ks own cc nL fr lo) {Cn E : String} {T : u_T} {N ci idx n maxL f2 l2 b : Nat} {fs : List Value} {y : MethodName} {bytes : ByteArray} {ty : FieldType} {As : List Value} (hM : TI V l y bytes maxL ty f2 l2 (.ref b :: As) w E w1) (hm : ∀ x ∈ wsCV own idx Cn y bytes maxL (some ty), x ∈ GW) (hok : okCV Cn y n) (hR : f2 + 1 ≤ fr ∧ 8 + (maxL + 11) + l2 ≤ lo) (k0 : Nat) (he : w[k0]? = some (b, .inr (ci, fs))) (hc : vwCl[ci]? = some (Cn, T, N)) (hn : As.length = n) (hst : st0 = As.reverse ++ .ref b :: st) (hW : (st.map fun v => v.category).sum ≤ 8) (hdg : decode cc pc = .ok (.invokevirtual idx, 3))
    (hX : XE V p l e R s m args below meth c Q A kc ks nL own cc E w1) : WC V p l e R s m args below meth c Q A kc ks nL w pc L st0 := by
  intro H locs ls hP hD hS hl
  have hF := free_in C hD hS
  refine vx_calli (vx_runV (As := As) (rest := st) ⟨C.1, C.2.1, C.2.2.1, C.2.2.2.1, C.2.2.2.2.1⟩ (hM H.size) (cw_V C hm hok hR) ⟨PRE.blind, va_recv C.2.2.2.2.2.1.1 hP hc he, fun U hU hW => ⟨rfl, pre_at C hP hD hS U hU hW⟩⟩ rfl hn hl.1 hst (lv_room hW) hdg hX.1) hS (fun q _ h => hF q h) hF (fun q _ h => hF q h) (fun E' ce q9 u t H1 locs1 ht hvm _ hB hz1 hk1 hS1 hce hcv hcl => ?_) (fun r' u t H1 locs1 ht hvm hw => hw.elim)
  obtain ⟨rfl, hP1, hD1⟩ := hB
  rw [ht] at hP1
  exact hX.2.1 H1 locs1 ls pc st q9 ce hP1 (hD1.weaken fun _ _ _ h => hF _ h) hS1 hce hcv hcl
theorem k_callVvx (C : CX V p l R s m args c A kc ks own cc nL fr lo) {Cn E : String} {T : u_T} {N ci idx n maxL f2 l2 b : Nat} {fs : List Value} {y : MethodName} {bytes : ByteArray} {As : List Value} (hM : TV V l y bytes maxL f2 l2 (.ref b :: As) w E w1) (hm : ∀ x ∈ wsCV own idx Cn y bytes maxL none, x ∈ GW) (hok : okCV Cn y n) (hR : f2 + 1 ≤ fr ∧ 8 + (maxL + 11) + l2 ≤ lo) (k0 : Nat) (he : w[k0]? = some (b, .inr (ci, fs))) (hc : vwCl[ci]? = some (Cn, T, N)) (hn : As.length = n) (hst : st0 = As.reverse ++ .ref b :: st) (hW : (st.map fun v => v.category).sum ≤ 8) (hdg : decode cc pc = .ok (.invokevirtual idx, 3))
    (hX : XE V p l e R s m args below meth c Q A kc ks nL own cc E w1) : WC V p l e R s m args below meth c Q A kc ks nL w pc L st0 := by
  intro H locs ls hP hD hS hl
  have hF := free_in C hD hS
  refine vx_callv (vx_runV (As := As) (rest := st) ⟨C.1, C.2.1, C.2.2.1, C.2.2.2.1, C.2.2.2.2.1⟩ (hM H.size) (cw_V C hm hok hR) ⟨PRE.blind, va_recv C.2.2.2.2.2.1.1 hP hc he, fun U hU hW => ⟨rfl, pre_at C hP hD hS U hU hW⟩⟩ rfl hn hl.1 hst (lv_room hW) hdg hX.1) hS (fun q _ h => hF q h) hF (fun q _ h => hF q h) (fun E' ce q9 u t H1 locs1 ht hvm _ hB hz1 hk1 hS1 hce hcv hcl => ?_) (fun u t H1 locs1 ht hvm hw => hw.elim)
  obtain ⟨rfl, hP1, hD1⟩ := hB
  rw [ht] at hP1
  exact hX.2.1 H1 locs1 ls pc st q9 ce hP1 (hD1.weaken fun _ _ _ h => hF _ h) hS1 hce hcv hcl
end THR
theorem bad_of {V : EV} {A : Nat → Prop} {s : State} {H : Heap} {args : Array Value} (hE : ENV V A s H) {x : Cond} (hx : x ∈ badX) : x.before args s = true := by
  rcases List.mem_append.mp hx with h | h
  · obtain ⟨q, hq, rfl⟩ := List.mem_map.mp h
    exact va_Nw.use rfl (hE.2.2.2.2.2.2.2.1 q hq)
  · obtain ⟨q, hq, rfl⟩ := List.mem_map.mp h
    exact va_Nw.use rfl (hE.2.2.2.2.2.2.2.2.1 q hq)
/-- the surroundings of a walk that throws -/
theorem xe_of {V : EV} {p : Program} {l : Launch} {e : Env} {s : State} {m : MethodId} {args : Array Value} {below : List Frame} {meth : Method} {c : Code} {own : String} {cc : ByteArray} {nL fr lo : Nat} {w w1 : va_W} {E : String} {Qc : Array Value → State → Outcome → State → Prop}
    (hx : p.tables.exec = Jvm.exec) (hb : c.code = cc) (hl : l.stackTraces = false) (hown : s.vm.findClass own = some m.cls) (hlocks : meth.locks = false) (hml : c.maxLocals = nL) (hts : ∀ x ∈ GW, x.before args s = true) (hE : ENV V (va_A w s.heap.size) s s.heap) (hout : ∀ x ∈ c.exceptionTable.toList, False) :
    XE V p l e (rmX fr lo) s m args below meth c (vx_MQ below Qc (XQ V w s.heap.size E w1) args s 1 6 (va_A w s.heap.size)) (va_A w s.heap.size) 0 0 nL own cc E w1 := by
  refine ⟨⟨Nat.le_refl 1, Nat.le_refl 6⟩, ?_, ?_⟩
  · intro H1 locs1 ls pc rest q9 ce hP1 hD1 hS1 hce hcv hcl
    exact vx_out (fun x hx => (hout x hx).elim) hlocks hce hcv hcl (fun t ht hvm => ⟨(), trivial, ⟨rfl, by rw [ht]; exact hP1, hD1⟩, hS1.F ht⟩) hS1.2.2 (Nat.le_refl 1) (Nat.le_refl 6)
  · intro pc L st ik is ic j text hfit hk hini hj hat d0 d3 d4 d6 d9 hst hfr hlo H locs ls hP hD hS hL
    refine vx_throwS (names := nmsX) (A := va_A w s.heap.size) hx hb hl hown hfit (by decide +kernel) (hts _ hk) (hts _ hini) (hE.2.2.1 _ hj) (fun x h => (hat x h).elim (hts x) (fun hx9 => bad_of hE hx9)) (fun x h => ?_) hE.2.2.2.1 hE.2.2.2.2.1 hS (hL.1.trans hml.symm) d0 d3 d4 d6 d9 (fun x hx => (hout x hx).elim) hfr ?_ (Nat.le_refl 1) (Nat.le_refl 6) hlocks (fun t hvm hsz hq => ?_) hS.2.2 (Nat.le_refl 1) (Nat.le_refl 6)
    · show (x.onTables || goodWord x) = true
      rcases List.mem_cons.mp h with rfl | h
      · rw [GW_good _ hk, Bool.or_true]
      · rcases List.mem_cons.mp h with rfl | h
        · rw [GW_good _ hini, Bool.or_true]
        · rcases hat x h with h | h
          · rw [GW_good _ h, Bool.or_true]
          · rw [show x.onTables = true from (List.all_eq_true.mp (show badX.all Cond.onTables = true by decide +kernel) x h), Bool.true_or]
    · have : (st.map fun v => v.category).sum + (13 * (nmsX.length + 1) + 43) ≤ 8 + 82 := Nat.add_le_add hst (Nat.le_of_ble_eq_true rfl)
      exact Nat.le_trans this hlo
    · refine ⟨(), trivial, ⟨rfl, hP.kept fun k q hk => hq q.1 (hP k q hk).lt, hD⟩, ⟨Nat.le_trans hS.1 hsz, fun q h1 h2 => by rw [hq q (Nat.lt_of_lt_of_le h1 hS.1)]; exact hS.2.1 q h1 h2⟩⟩
theorem ti_of {V : EV} {l : Launch} {y : MethodName} {cc : ByteArray} {nL fr lo : Nat} {ty : FieldType} {As : List Value} {w w1 : va_W} {E : String} (hl0 : l.stackTraces = false) (hy : plainName y.cls = true) (hA : (lg_sl As).length ≤ nL)
    (hb : ∀ (p : Program) (e : Env) (R : Room) (s : State) (m : MethodId) (args : Array Value) (below : List Frame) (meth : Method) (c : Code) (Q : State → Prop) (A : Nat → Prop), CX V p l R s m args c A 0 0 y.cls cc nL fr lo → XE V p l e R s m args below meth c Q A 0 0 nL y.cls cc E w1 → WC V p l e R s m args below meth c Q A 0 0 nL w 0 (lv_args 0 As) []) : TI V l y cc nL ty fr lo As w E w1 := by
  intro sz
  refine vx_ofW (cc := cc) (maxL := nL) (ret := some ty) hy rfl ?_
  intro p e s m args below meth c s₁ B hml hout hv
  obtain ⟨rfl, hsz, hP, hE, hD0⟩ := hv
  have hx := B.exec
  have hb0 := B.bytes
  have hts := atoms_spec (ws := .code y cc nL (some ty) :: GW) B.pre
  have hown : s.vm.findClass y.cls = some m.cls := findClass_of_methodNamed B.named
  have hlocks := B.notSynchronized
  subst hsz
  have hS : va_S (va_A w s.heap.size) s.heap s.heap [] := va_S.rf
  have hl := lv_entry As (n := nL) hA
  rw [lg_entry_eq]
  generalize (lg_sl As ++ List.replicate (nL - (lg_sl As).length) Slot.unset).toArray = ls at hl ⊢
  exact hb p e (rmX fr lo) s m As.toArray below meth c _ (va_A w s.heap.size) ⟨hx, hb0, hml, hown, fun x h => hts x (List.mem_cons_of_mem _ h), hE, fun q h => Or.inr h, Nat.le_refl _, Nat.le_refl _, hl0, Nat.zero_le _, Nat.zero_le _⟩ (xe_of hx hb0 hl0 hown hlocks hml (fun x h => hts x (List.mem_cons_of_mem _ h)) hE hout) s.heap [] ls hP hD0.self hS hl
theorem tv_of {V : EV} {l : Launch} {y : MethodName} {cc : ByteArray} {nL fr lo : Nat} {As : List Value} {w w1 : va_W} {E : String} (hl0 : l.stackTraces = false) (hy : plainName y.cls = true) (hA : (lg_sl As).length ≤ nL)
    (hb : ∀ (p : Program) (e : Env) (R : Room) (s : State) (m : MethodId) (args : Array Value) (below : List Frame) (meth : Method) (c : Code) (Q : State → Prop) (A : Nat → Prop), CX V p l R s m args c A 0 0 y.cls cc nL fr lo → XE V p l e R s m args below meth c Q A 0 0 nL y.cls cc E w1 → WC V p l e R s m args below meth c Q A 0 0 nL w 0 (lv_args 0 As) []) : TV V l y cc nL fr lo As w E w1 := by
  intro sz
  refine vx_ofW (cc := cc) (maxL := nL) (ret := none) hy rfl ?_
  intro p e s m args below meth c s₁ B hml hout hv
  obtain ⟨rfl, hsz, hP, hE, hD0⟩ := hv
  have hx := B.exec
  have hb0 := B.bytes
  have hts := atoms_spec (ws := .code y cc nL none :: GW) B.pre
  have hown : s.vm.findClass y.cls = some m.cls := findClass_of_methodNamed B.named
  have hlocks := B.notSynchronized
  subst hsz
  have hS : va_S (va_A w s.heap.size) s.heap s.heap [] := va_S.rf
  have hl := lv_entry As (n := nL) hA
  rw [lg_entry_eq]
  generalize (lg_sl As ++ List.replicate (nL - (lg_sl As).length) Slot.unset).toArray = ls at hl ⊢
  exact hb p e (rmX fr lo) s m As.toArray below meth c _ (va_A w s.heap.size) ⟨hx, hb0, hml, hown, fun x h => hts x (List.mem_cons_of_mem _ h), hE, fun q h => Or.inr h, Nat.le_refl _, Nat.le_refl _, hl0, Nat.zero_le _, Nat.zero_le _⟩ (xe_of hx hb0 hl0 hown hlocks hml (fun x h => hts x (List.mem_cons_of_mem _ h)) hE hout) s.heap [] ls hP hD0.self hS hl
/-! the readers that call one another: by a function that stands for the next depth -/
abbrev RecT : Type := Nat → Int32 → TopS → RdS → Int32 → CoS → Option (Except String Unit × Int32 × CoS)
def yK (k : Nat) : MethodName := if k = 0 then yX5_expression else if k = 1 then yX5_condition else yX5_row
def cK (k : Nat) : ByteArray := if k = 0 then cX5_expression else if k = 1 then cX5_condition else cX5_row
def nK (k : Nat) : Nat := if k = 0 then 5 else if k = 1 then 4 else 3
theorem nK_v : nK 0 = 5 ∧ nK 1 = 4 ∧ nK 2 = 3 := ⟨rfl, rfl, rfl⟩
theorem ok5_expression : okCV RX5 yX5_expression 1 := by unfold okCV; decide +kernel
theorem ok5_condition : okCV RX5 yX5_condition 1 := by unfold okCV; decide +kernel
theorem ok5_row : okCV RX5 yX5_row 1 := by unfold okCV; decide +kernel
def RECOK (V : EV) (l : Launch) (F G : Nat) (rec : RecT) : Prop := ∀ (k : Nat), k < 3 → ∀ {ad : Nat → Nat} {top : TopS} {t0 : Nat → Int32} {rl : Int32} {rq : Nat} {ra ra' : Int32} {cs cs' : CoS} {co : Nat → CoS} {mu : MuS} {fo : FoS} {tr : TrS} {ma : MaS} {mq : Nat} {mx : MxS} {v : Int32}, rq < 4 →
  (rec k v top (t0, 1, rl, rq) ra cs = some (.ok (), ra', cs') → MV V l (yK k) (cK k) (nK k) F G [.ref (ad 2), .int v] (wC V ad top (t0, 1, rl, rq) ra (updC co rq cs) mu fo tr ma mq mx) (wC V ad top (t0, 1, rl, rq) ra' (updC co rq cs') mu fo tr ma mq mx)) ∧
  (∀ E, rec k v top (t0, 1, rl, rq) ra cs = some (.error E, ra', cs') → TV V l (yK k) (cK k) (nK k) F G [.ref (ad 2), .int v] (wC V ad top (t0, 1, rl, rq) ra (updC co rq cs) mu fo tr ma mq mx) E (wC V ad top (t0, 1, rl, rq) ra' (updC co rq cs') mu fo tr ma mq mx))
