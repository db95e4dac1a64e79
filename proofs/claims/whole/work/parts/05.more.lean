theorem cell_code {V : EV} {ad : Nat → Nat} {top : TopS} {rd : RdS} {ra : Int32} {co : Nat → CoS} {mu : MuS} {fo : FoS} {tr : TrS} {ma : MaS} {mq : Nat} {mx : MxS} {q : Nat} (hq : q < 4) : ∃ fs, (wC V ad top rd ra co mu fo tr ma mq mx)[cpo q]? = some (ad (cpo q), .inr (0, fs)) := by
  rcases (show q = 0 ∨ q = 1 ∨ q = 2 ∨ q = 3 by omega) with rfl | rfl | rfl | rfl <;> exact ⟨_, rfl⟩
section CALLC
variable {V : EV} {p : Program} {l : Launch} {e : Env} {R : Room} {s : State} {m : MethodId} {args : Array Value} {below : List Frame} {meth : Method} {c : Code} {Q : State → Prop} {A : Nat → Prop} {own : String} {cc : ByteArray} {kc ks nL fr lo : Nat}
variable {ad : Nat → Nat} {top : TopS} {rd : RdS} {ra : Int32} {co : Nat → CoS} {mu : MuS} {fo : FoS} {tr : TrS} {ma : MaS} {mq : Nat} {mx : MxS} {w1 : va_W} {pc q : Nat} {L : List (Nat × Value)} {st st0 : List Value}
theorem k_callCi (C : CX V p l R s m args c A kc ks own cc nL fr lo) (hq : q < 4) {idx n maxL f2 l2 : Nat} {y : MethodName} {bytes : ByteArray} {ty : FieldType} {r : Int32} {As : List Value} (hM : MI V l y bytes maxL ty f2 l2 (.ref (ad (cpo q)) :: As) (wC V ad top rd ra co mu fo tr ma mq mx) r w1) (hm : ∀ x ∈ wsCV own idx RX0 y bytes maxL (some ty), x ∈ GW) (hok : okCV RX0 y n) (hR : f2 + 1 ≤ fr ∧ 8 + (maxL + 11) + l2 ≤ lo) (hn : As.length = n) (hst : st0 = As.reverse ++ .ref (ad (cpo q)) :: st) (hW : (st.map fun v => v.category).sum ≤ 8) (hdg : decode cc pc = .ok (.invokevirtual idx, 3))
    (kk : WC V p l e R s m args below meth c Q A kc ks nL w1 (pc + 3) L (.int r :: st)) : WC V p l e R s m args below meth c Q A kc ks nL (wC V ad top rd ra co mu fo tr ma mq mx) pc L st0 := by
  obtain ⟨fs, he⟩ := cell_code (V := V) (ad := ad) (top := top) (rd := rd) (ra := ra) (co := co) (mu := mu) (fo := fo) (tr := tr) (ma := ma) (mq := mq) (mx := mx) hq
  exact k_callVi C hM hm hok hR _ he rfl hn hst hW hdg kk
theorem k_callCv (C : CX V p l R s m args c A kc ks own cc nL fr lo) (hq : q < 4) {idx n maxL f2 l2 : Nat} {y : MethodName} {bytes : ByteArray} {As : List Value} (hM : MV V l y bytes maxL f2 l2 (.ref (ad (cpo q)) :: As) (wC V ad top rd ra co mu fo tr ma mq mx) w1) (hm : ∀ x ∈ wsCV own idx RX0 y bytes maxL none, x ∈ GW) (hok : okCV RX0 y n) (hR : f2 + 1 ≤ fr ∧ 8 + (maxL + 11) + l2 ≤ lo) (hn : As.length = n) (hst : st0 = As.reverse ++ .ref (ad (cpo q)) :: st) (hW : (st.map fun v => v.category).sum ≤ 8) (hdg : decode cc pc = .ok (.invokevirtual idx, 3))
    (kk : WC V p l e R s m args below meth c Q A kc ks nL w1 (pc + 3) L st) : WC V p l e R s m args below meth c Q A kc ks nL (wC V ad top rd ra co mu fo tr ma mq mx) pc L st0 := by
  obtain ⟨fs, he⟩ := cell_code (V := V) (ad := ad) (top := top) (rd := rd) (ra := ra) (co := co) (mu := mu) (fo := fo) (tr := tr) (ma := ma) (mq := mq) (mx := mx) hq
  exact k_callVv C hM hm hok hR _ he rfl hn hst hW hdg kk
end CALLC
/-! the library's own members -/
def fillF (f : Nat → Int32) (n : Nat) (v : Int32) : Nat → Int32 := fun j => if j < n then v else f j
def strLen (j : Nat) : Int32 := nI (lenJ.getD j 0)
def strAt (j : Nat) (i : Int32) : Int32 := (bytJ.getD j []).getD i.toNatClampNeg 0
def ixF (c : Int32) : List Int32 → Nat → Int32
  | [], _ => -1
  | b :: l, k => if b = c then nI k else ixF c l (k + 1)
def strIx (j : Nat) (c : Int32) : Int32 := ixF c (bytJ.getD j []) 0
theorem cJ_fill {V : EV} {l : Launch} (hl0 : l.stackTraces = false) {w : va_W} {k a n : Nat} {f : Nat → Int32} {v : Int32} (hn : n < 2 ^ 31) (he : w[k]? = some (a, .inl (V.2.1 0, n, .inl f))) : MV V l yJ7_fill_53178 cJ7_fill_53178 4 0 0 [.ref a, .int v] w (w.set k (a, .inl (V.2.1 0, n, .inl (fillF f n v)))) := by
  sorry
theorem cJ_indexOf {V : EV} {l : Launch} (hl0 : l.stackTraces = false) {w : va_W} {j : Nat} {x : Int32} (hj : j < 6) : MI V l yJ0_indexOf_0f7a4 cJ0_indexOf_0f7a4 2 .int 4 130 [.ref (V.2.2.1 j), .int x] w (strIx j x) w := by
  sorry
theorem cJ_length {V : EV} {l : Launch} (hl0 : l.stackTraces = false) {w : va_W} {j : Nat} (hj : j < 6) : MI V l yJ0_length_8abf5 cJ0_length_8abf5 1 .int 1 40 [.ref (V.2.2.1 j)] w (strLen j) w := by
  sorry
theorem cJ_charAt {V : EV} {l : Launch} (hl0 : l.stackTraces = false) {w : va_W} {j : Nat} {i : Int32} (hj : j < 6) (hi : ¬ (i < 0 ∨ lenJ.getD j 0 ≤ i.toNatClampNeg)) : MI V l yJ0_charAt_5068e cJ0_charAt_5068e 2 .char 4 130 [.ref (V.2.2.1 j), .int i] w (strAt j i) w := by
  sorry
section CALLJ
variable {V : EV} {p : Program} {l : Launch} {e : Env} {R : Room} {s : State} {m : MethodId} {args : Array Value} {below : List Frame} {meth : Method} {c : Code} {Q : State → Prop} {A : Nat → Prop} {own : String} {cc : ByteArray} {kc ks nL fr lo : Nat}
variable {w w' w1 : va_W} {pc : Nat} {L : List (Nat × Value)} {st st0 : List Value}
theorem k_ldcS (C : CX V p l R s m args c A kc ks own cc nL fr lo) {idx j : Nat} {tx : String} (hq : (own, idx, tx, j) ∈ sJ) (hdg : decode cc pc = .ok (.ldc idx, 2)) (kk : WC V p l e R s m args below meth c Q A kc ks nL w (pc + 2) L (.ref (V.2.2.1 j) :: st)) : WC V p l e R s m args below meth c Q A kc ks nL w pc L st :=
  fun H locs ls hP hD hS hl => va_ldcS C.1 C.2.1 C.2.2.2.1 (C.2.2.2.2.2.1.2.2.1 _ hq) hdg (kk H locs ls hP hD hS hl)
theorem k_fill (C : CX V p l R s m args c A kc ks own cc nL fr lo) {a n idx : Nat} {f : Nat → Int32} {v : Int32} (k0 : Nat) (hn : n < 2 ^ 31) (he : w[k0]? = some (a, .inl (V.2.1 0, n, .inl f))) (hw : w.set k0 (a, .inl (V.2.1 0, n, .inl (fillF f n v))) = w') (hm : ∀ x ∈ wsCS own idx yJ7_fill_53178 cJ7_fill_53178 4 none, x ∈ GW) (hR : 0 + 1 ≤ fr ∧ 8 + (4 + 11) + 0 ≤ lo) (hW : (st.map fun v => v.category).sum ≤ 8) (hdg : decode cc pc = .ok (.invokestatic idx, 3))
    (kk : WC V p l e R s m args below meth c Q A kc ks nL w' (pc + 3) L st) : WC V p l e R s m args below meth c Q A kc ks nL w pc L (.int v :: .ref a :: st) :=
  k_callSv (n := 2) C (cJ_fill C.2.2.2.2.2.2.2.2.2.1 hn he) hm (by unfold okCV; decide +kernel) hR rfl rfl hW hdg (hw ▸ kk)
theorem k_callTi (C : CX V p l R s m args c A kc ks own cc nL fr lo) {idx n maxL f2 l2 j : Nat} {y : MethodName} {bytes : ByteArray} {ty : FieldType} {r : Int32} {As : List Value} (hj : j < 6) (hM : MI V l y bytes maxL ty f2 l2 (.ref (V.2.2.1 j) :: As) w r w1) (hm : ∀ x ∈ wsCV own idx "java/lang/String" y bytes maxL (some ty), x ∈ GW) (hok : okCV "java/lang/String" y n) (hR : f2 + 1 ≤ fr ∧ 8 + (maxL + 11) + l2 ≤ lo) (hn : As.length = n) (hst : st0 = As.reverse ++ .ref (V.2.2.1 j) :: st) (hW : (st.map fun v => v.category).sum ≤ 8) (hdg : decode cc pc = .ok (.invokevirtual idx, 3))
    (kk : WC V p l e R s m args below meth c Q A kc ks nL w1 (pc + 3) L (.int r :: st)) : WC V p l e R s m args below meth c Q A kc ks nL w pc L st0 := by
  intro H locs ls hP hD hS hl
  have hF := free_in C hD hS
  refine va_calli (va_runV (As := As) (rest := st) ⟨C.1, C.2.1, C.2.2.1, C.2.2.2.1, C.2.2.2.2.1⟩ (hM H.size) (cw_V C hm hok hR) ⟨PRE.blind, vk_recv C.2.2.2.2.2.1.2.1 hj hS, fun U hU hW => ⟨rfl, pre_at C hP hD hS U hU hW⟩⟩ rfl hn hl.1 hst (lv_room hW) hdg C.2.2.2.2.2.2.2.2.2.2) hS (fun q _ h => hF q h) hF (fun r' u t H1 locs1 ht hvm hw hB hz1 hk1 hS1 => ?_)
  subst hw
  rw [ht] at hB
  exact kk H1 locs1 ls hB.1 (hB.2.weaken fun _ _ _ h => hF _ h) hS1 hl
theorem k_strIx (C : CX V p l R s m args c A kc ks own cc nL fr lo) {idx j : Nat} {x : Int32} (hj : j < 6) (hm : ∀ x ∈ wsCV own idx "java/lang/String" yJ0_indexOf_0f7a4 cJ0_indexOf_0f7a4 2 (some .int), x ∈ GW) (hR : 4 + 1 ≤ fr ∧ 8 + (2 + 11) + 130 ≤ lo) (hW : (st.map fun v => v.category).sum ≤ 8) (hdg : decode cc pc = .ok (.invokevirtual idx, 3))
    (kk : WC V p l e R s m args below meth c Q A kc ks nL w (pc + 3) L (.int (strIx j x) :: st)) : WC V p l e R s m args below meth c Q A kc ks nL w pc L (.int x :: .ref (V.2.2.1 j) :: st) :=
  k_callTi (n := 1) C hj (cJ_indexOf C.2.2.2.2.2.2.2.2.2.1 hj) hm (by unfold okCV; decide +kernel) hR rfl rfl hW hdg kk
theorem k_strLen (C : CX V p l R s m args c A kc ks own cc nL fr lo) {idx j : Nat} (hj : j < 6) (hm : ∀ x ∈ wsCV own idx "java/lang/String" yJ0_length_8abf5 cJ0_length_8abf5 1 (some .int), x ∈ GW) (hR : 1 + 1 ≤ fr ∧ 8 + (1 + 11) + 40 ≤ lo) (hW : (st.map fun v => v.category).sum ≤ 8) (hdg : decode cc pc = .ok (.invokevirtual idx, 3))
    (kk : WC V p l e R s m args below meth c Q A kc ks nL w (pc + 3) L (.int (strLen j) :: st)) : WC V p l e R s m args below meth c Q A kc ks nL w pc L (.ref (V.2.2.1 j) :: st) :=
  k_callTi (n := 0) C hj (cJ_length C.2.2.2.2.2.2.2.2.2.1 hj) hm (by unfold okCV; decide +kernel) hR rfl rfl hW hdg kk
theorem k_strAt (C : CX V p l R s m args c A kc ks own cc nL fr lo) {idx j : Nat} {i : Int32} (hj : j < 6) (hi : ¬ (i < 0 ∨ lenJ.getD j 0 ≤ i.toNatClampNeg)) (hm : ∀ x ∈ wsCV own idx "java/lang/String" yJ0_charAt_5068e cJ0_charAt_5068e 2 (some .char), x ∈ GW) (hR : 4 + 1 ≤ fr ∧ 8 + (2 + 11) + 130 ≤ lo) (hW : (st.map fun v => v.category).sum ≤ 8) (hdg : decode cc pc = .ok (.invokevirtual idx, 3))
    (kk : WC V p l e R s m args below meth c Q A kc ks nL w (pc + 3) L (.int (strAt j i) :: st)) : WC V p l e R s m args below meth c Q A kc ks nL w pc L (.int i :: .ref (V.2.2.1 j) :: st) :=
  k_callTi (n := 1) C hj (cJ_charAt C.2.2.2.2.2.2.2.2.2.1 hj hi) hm (by unfold okCV; decide +kernel) hR rfl rfl hW hdg kk
end CALLJ
