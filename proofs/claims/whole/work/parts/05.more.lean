theorem cell_code {V : EV} {ad : Nat → Nat} {top : TopS} {rd : RdS} {co : Nat → CoS} {mu : MuS} {fo : FoS} {tr : TrS} {ma : MaS} {mx : MxS} {q : Nat} (hq : q < 4) : ∃ fs, (wC V ad top rd co mu fo tr ma mx)[cpo q]? = some (ad (cpo q), .inr (0, fs)) := by
  rcases (show q = 0 ∨ q = 1 ∨ q = 2 ∨ q = 3 by omega) with rfl | rfl | rfl | rfl <;> exact ⟨_, rfl⟩
section CALLC
variable {V : EV} {p : Program} {l : Launch} {e : Env} {R : Room} {s : State} {m : MethodId} {args : Array Value} {below : List Frame} {meth : Method} {c : Code} {Q : State → Prop} {A : Nat → Prop} {own : String} {cc : ByteArray} {nL fr lo : Nat}
variable {ad : Nat → Nat} {top : TopS} {rd : RdS} {co : Nat → CoS} {mu : MuS} {fo : FoS} {tr : TrS} {ma : MaS} {mx : MxS} {w1 : va_W} {pc q : Nat} {L : List (Nat × Value)} {st st0 : List Value}
theorem k_callCi (C : CX V p l R s m args c A own cc nL fr lo) (hq : q < 4) {idx n maxL f2 l2 : Nat} {y : MethodName} {bytes : ByteArray} {ty : FieldType} {r : Int32} {As : List Value} (hM : MI V l y bytes maxL ty f2 l2 (.ref (ad (cpo q)) :: As) (wC V ad top rd co mu fo tr ma mx) r w1) (hm : ∀ x ∈ wsCV own idx RX0 y bytes maxL (some ty), x ∈ GW) (hok : okCV RX0 y n) (hR : f2 + 1 ≤ fr ∧ 8 + (maxL + 11) + l2 ≤ lo) (hn : As.length = n) (hst : st0 = As.reverse ++ .ref (ad (cpo q)) :: st) (hW : (st.map fun v => v.category).sum ≤ 8) (hdg : decode cc pc = .ok (.invokevirtual idx, 3))
    (kk : WC V p l e R s m args below meth c Q A nL w1 (pc + 3) L (.int r :: st)) : WC V p l e R s m args below meth c Q A nL (wC V ad top rd co mu fo tr ma mx) pc L st0 := by
  obtain ⟨fs, he⟩ := cell_code (V := V) (ad := ad) (top := top) (rd := rd) (co := co) (mu := mu) (fo := fo) (tr := tr) (ma := ma) (mx := mx) hq
  exact k_callVi C hM hm hok hR _ he rfl hn hst hW hdg kk
theorem k_callCv (C : CX V p l R s m args c A own cc nL fr lo) (hq : q < 4) {idx n maxL f2 l2 : Nat} {y : MethodName} {bytes : ByteArray} {As : List Value} (hM : MV V l y bytes maxL f2 l2 (.ref (ad (cpo q)) :: As) (wC V ad top rd co mu fo tr ma mx) w1) (hm : ∀ x ∈ wsCV own idx RX0 y bytes maxL none, x ∈ GW) (hok : okCV RX0 y n) (hR : f2 + 1 ≤ fr ∧ 8 + (maxL + 11) + l2 ≤ lo) (hn : As.length = n) (hst : st0 = As.reverse ++ .ref (ad (cpo q)) :: st) (hW : (st.map fun v => v.category).sum ≤ 8) (hdg : decode cc pc = .ok (.invokevirtual idx, 3))
    (kk : WC V p l e R s m args below meth c Q A nL w1 (pc + 3) L st) : WC V p l e R s m args below meth c Q A nL (wC V ad top rd co mu fo tr ma mx) pc L st0 := by
  obtain ⟨fs, he⟩ := cell_code (V := V) (ad := ad) (top := top) (rd := rd) (co := co) (mu := mu) (fo := fo) (tr := tr) (ma := ma) (mx := mx) hq
  exact k_callVv C hM hm hok hR _ he rfl hn hst hW hdg kk
end CALLC
