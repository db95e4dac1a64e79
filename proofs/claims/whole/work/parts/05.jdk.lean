/-! the library's own members -/
def fillF (f : Nat → Int32) (n : Nat) (v : Int32) : Nat → Int32 := fun j => if j < n then v else f j
def strLen (j : Nat) : Int32 := nI (lenJ.getD j 0)
def strAt (j : Nat) (i : Int32) : Int32 := (bytJ.getD j []).getD i.toNatClampNeg 0
def ixF (c : Int32) : List Int32 → Nat → Int32
  | [], _ => -1
  | b :: l, k => if b = c then nI k else ixF c l (k + 1)
def strIx (j : Nat) (c : Int32) : Int32 := ixF c (bytJ.getD j []) 0
section JDK
variable {V : EV} {p : Program} {l : Launch} {e : Env} {R : Room} {s : State} {m : MethodId} {args : Array Value} {below : List Frame} {meth : Method} {c : Code} {Q : State → Prop} {A : Nat → Prop} {own : String} {cc : ByteArray} {kc ks nL fr lo : Nat}
variable {w w' w1 : va_W} {pc : Nat} {L : List (Nat × Value)} {st st0 : List Value}
theorem k_gcs (C : CX V p l R s m args c A kc ks "java/lang/String" cc nL fr lo) (hdg : decode cc pc = .ok (.getstatic 38, 3)) (kk : WC V p l e R s m args below meth c Q A kc ks nL w (pc + 3) L (.int 1 :: st)) : WC V p l e R s m args below meth c Q A kc ks nL w pc L st :=
  fun H locs ls hP hD hS hl => va_gets C.1 C.2.1 C.2.2.2.2.2.1.2.2.2.2.2.1 hS C.2.2.2.1 (C.2.2.2.2.1 (.fieldLink "java/lang/String" 38 "java/lang/String" "COMPACT_STRINGS" "Z") (gw_3 (i := 11) (by decide +kernel) rfl)) (fun _ h => h) hdg (kk H locs ls hP hD hS hl)
theorem k_gsio (C : CX V p l R s m args c A kc ks "java/lang/String" cc nL fr lo) (hdg : decode cc pc = .ok (.getstatic 1053, 3)) (kk : ∀ v : Value, (v = .null ∨ ∃ t : Nat, v = .ref t) → WC V p l e R s m args below meth c Q A kc ks nL w (pc + 3) L (v :: st)) : WC V p l e R s m args below meth c Q A kc ks nL w pc L st := by
  intro H locs ls hP hD hS hl
  have hk := C.2.2.2.2.1 (.fieldLink "java/lang/String" 1053 "jdk/internal/util/Preconditions" "SIOOBE_FORMATTER" "Ljava/util/function/BiFunction;") (gw_3 (i := 54) (by decide +kernel) rfl)
  rcases C.2.2.2.2.2.1.2.2.2.2.2.2.1 with h | ⟨t, h⟩
  · exact va_gets C.1 C.2.1 h hS C.2.2.2.1 hk (fun _ h => h) hdg (kk _ (Or.inl rfl) H locs ls hP hD hS hl)
  · exact va_gets C.1 C.2.1 h hS C.2.2.2.1 hk (fun _ h => h) hdg (kk _ (Or.inr ⟨t, rfl⟩) H locs ls hP hD hS hl)
theorem k_sval (C : CX V p l R s m args c A kc ks "java/lang/String" cc nL fr lo) {j : Nat} (hj : j < 6) (hdg : decode cc pc = .ok (.getfield 9, 3)) (kk : WC V p l e R s m args below meth c Q A kc ks nL w (pc + 3) L (.ref (V.2.2.2 j) :: st)) : WC V p l e R s m args below meth c Q A kc ks nL w pc L (.ref (V.2.2.1 j) :: st) :=
  fun H locs ls hP hD hS hl => vk_getf C.1 C.2.1 ((C.2.2.2.2.2.1.2.1).1 j hj).2.2.1 hS C.2.2.2.1 (C.2.2.2.2.1 (.fieldLink "java/lang/String" 9 "java/lang/String" "value" "[B") (gw_6 (i := 219) (by decide +kernel) rfl)) (fun _ h => h) hdg (kk H locs ls hP hD hS hl)
theorem k_scod (C : CX V p l R s m args c A kc ks "java/lang/String" cc nL fr lo) {j : Nat} (hj : j < 6) (hdg : decode cc pc = .ok (.getfield 15, 3)) (kk : WC V p l e R s m args below meth c Q A kc ks nL w (pc + 3) L (.int 0 :: st)) : WC V p l e R s m args below meth c Q A kc ks nL w pc L (.ref (V.2.2.1 j) :: st) :=
  fun H locs ls hP hD hS hl => vk_getf C.1 C.2.1 ((C.2.2.2.2.2.1.2.1).1 j hj).2.1 hS C.2.2.2.1 (C.2.2.2.2.1 (.fieldLink "java/lang/String" 15 "java/lang/String" "coder" "B") (gw_6 (i := 218) (by decide +kernel) rfl)) (fun _ h => h) hdg (kk H locs ls hP hD hS hl)
theorem k_slen (C : CX V p l R s m args c A kc ks own cc nL fr lo) {j : Nat} (hj : j < 6) (hdg : decode cc pc = .ok (.arraylength, 1)) (kk : WC V p l e R s m args below meth c Q A kc ks nL w (pc + 1) L (.int (nI (lenJ.getD j 0)) :: st)) : WC V p l e R s m args below meth c Q A kc ks nL w pc L (.ref (V.2.2.2 j) :: st) :=
  fun H locs ls hP hD hS hl => va_tlen C.1 C.2.1 ((C.2.2.2.2.2.1.2.1).1 j hj).2.2.2 hS rfl hdg (kk H locs ls hP hD hS hl)
theorem k_sbyt (C : CX V p l R s m args c A kc ks own cc nL fr lo) {j : Nat} {i : Int32} (hj : j < 6) (hi : vp_in i (lenJ.getD j 0)) (hdg : decode cc pc = .ok (.baload, 1)) (kk : WC V p l e R s m args below meth c Q A kc ks nL w (pc + 1) L (.int ((bytJ.getD j []).getD i.toNatClampNeg 0) :: st)) : WC V p l e R s m args below meth c Q A kc ks nL w pc L (.int i :: .ref (V.2.2.2 j) :: st) :=
  fun H locs ls hP hD hS hl => va_tb C.1 C.2.1 ((C.2.2.2.2.2.1.2.1).1 j hj).2.2.2 hS hi rfl hdg (kk H locs ls hP hD hS hl)
theorem k_i2b (C : CX V p l R s m args c A kc ks own cc nL fr lo) {x : Int32} (hdg : decode cc pc = .ok (.i2b, 1)) (k : WC V p l e R s m args below meth c Q A kc ks nL w (pc + 1) L (.int x.toInt8.toInt32 :: st)) : WC V p l e R s m args below meth c Q A kc ks nL w pc L (.int x :: st) :=
  fun H locs ls hP hD hS h => lv_i2b C.1 C.2.1 hdg rfl (k H locs ls hP hD hS h)
theorem k_mmax (C : CX V p l R s m args c A kc ks own cc nL fr lo) {idx : Nat} {x y : Int32} (hm : ∀ a ∈ wsCS own idx Lib.Math.max.name Lib.Math.max.code 2 (some .int), a ∈ GW) (hR : 1 ≤ fr ∧ (st.map fun v => v.category).sum + 13 ≤ lo) (hdg : decode cc pc = .ok (.invokestatic idx, 3)) (kk : WC V p l e R s m args below meth c Q A kc ks nL w (pc + 3) L (.int (if x < y then y else x) :: st)) : WC V p l e R s m args below meth c Q A kc ks nL w pc L (.int y :: .int x :: st) :=
  fun H locs ls hP hD hS hl => va_mmax C.1 C.2.1 (C.2.2.1.trans hl.1.symm) C.2.2.2.1 (C.2.2.2.2.1 _ (hm _ (by simp [wsCS]))) (C.2.2.2.2.1 _ (hm _ (by simp [wsCS]))) (C.2.2.2.2.1 (.initialized "java/lang/Math") (hm _ (by simp [wsCS, Lib.Math.max.name]))) (C.2.2.2.2.1 _ (hm _ (by simp [wsCS]))) (Nat.le_trans hR.1 C.2.2.2.2.2.2.2.1) (Nat.le_trans hR.2 C.2.2.2.2.2.2.2.2.1) C.2.2.2.2.2.2.2.2.2.2.1 C.2.2.2.2.2.2.2.2.2.2.2 hdg (kk H locs ls hP hD hS hl)
theorem k_mmin (C : CX V p l R s m args c A kc ks own cc nL fr lo) {idx : Nat} {x y : Int32} (hm : ∀ a ∈ wsCS own idx Lib.Math.min.name Lib.Math.min.code 2 (some .int), a ∈ GW) (hR : 1 ≤ fr ∧ (st.map fun v => v.category).sum + 13 ≤ lo) (hdg : decode cc pc = .ok (.invokestatic idx, 3)) (kk : WC V p l e R s m args below meth c Q A kc ks nL w (pc + 3) L (.int (if y < x then y else x) :: st)) : WC V p l e R s m args below meth c Q A kc ks nL w pc L (.int y :: .int x :: st) :=
  fun H locs ls hP hD hS hl => va_mmin C.1 C.2.1 (C.2.2.1.trans hl.1.symm) C.2.2.2.1 (C.2.2.2.2.1 _ (hm _ (by simp [wsCS]))) (C.2.2.2.2.1 _ (hm _ (by simp [wsCS]))) (C.2.2.2.2.1 (.initialized "java/lang/Math") (hm _ (by simp [wsCS, Lib.Math.min.name]))) (C.2.2.2.2.1 _ (hm _ (by simp [wsCS]))) (Nat.le_trans hR.1 C.2.2.2.2.2.2.2.1) (Nat.le_trans hR.2 C.2.2.2.2.2.2.2.2.1) C.2.2.2.2.2.2.2.2.2.2.1 C.2.2.2.2.2.2.2.2.2.2.2 hdg (kk H locs ls hP hD hS hl)
theorem k_callTi (C : CX V p l R s m args c A kc ks own cc nL fr lo) {idx n maxL f2 l2 j : Nat} {y : MethodName} {bytes : ByteArray} {ty : FieldType} {r : Int32} {As : List Value} (hj : j < 6) (hM : MI V l y bytes maxL ty f2 l2 (.ref (V.2.2.1 j) :: As) w r w1) (hm : ∀ x ∈ wsCV own idx "java/lang/String" y bytes maxL (some ty), x ∈ GW) (hok : okCV "java/lang/String" y n) (hR : f2 + 1 ≤ fr ∧ 8 + (maxL + 11) + l2 ≤ lo) (hn : As.length = n) (hst : st0 = As.reverse ++ .ref (V.2.2.1 j) :: st) (hW : (st.map fun v => v.category).sum ≤ 8) (hdg : decode cc pc = .ok (.invokevirtual idx, 3))
    (kk : WC V p l e R s m args below meth c Q A kc ks nL w1 (pc + 3) L (.int r :: st)) : WC V p l e R s m args below meth c Q A kc ks nL w pc L st0 := by
  intro H locs ls hP hD hS hl
  have hF := free_in C hD hS
  refine va_calli (va_runV (As := As) (rest := st) ⟨C.1, C.2.1, C.2.2.1, C.2.2.2.1, C.2.2.2.2.1⟩ (hM H.size) (cw_V C hm hok hR) ⟨PRE.blind, vk_recv C.2.2.2.2.2.1.2.1 hj hS, fun U hU hW => ⟨rfl, pre_at C hP hD hS U hU hW⟩⟩ rfl hn hl.1 hst (lv_room hW) hdg C.2.2.2.2.2.2.2.2.2.2) hS (fun q _ h => hF q h) hF (fun r' u t H1 locs1 ht hvm hw hB hz1 hk1 hS1 => ?_)
  subst hw
  rw [ht] at hB
  exact kk H1 locs1 ls hB.1 (hB.2.weaken fun _ _ _ h => hF _ h) hS1 hl
end JDK
theorem cmS_492 : ∀ a ∈ wsCV "java/lang/String" 492 "java/lang/String" yJ0_isLatin1_aae02 cJ0_isLatin1_aae02 1 (some .boolean), a ∈ GW := by
  unfold wsCV
  exact (List.forall_mem_cons.mpr ⟨(gw_3 (i := 7) (by decide +kernel) rfl), (List.forall_mem_cons.mpr ⟨(gw_3 (i := 8) (by decide +kernel) rfl), (List.forall_mem_cons.mpr ⟨(gw_3 (i := 9) (by decide +kernel) rfl), (List.forall_mem_cons.mpr ⟨(gw_1 (i := 14) (by decide +kernel) rfl), (List.forall_mem_cons.mpr ⟨(gw_3 (i := 10) (by decide +kernel) rfl), (List.forall_mem_nil _)⟩)⟩)⟩)⟩)⟩)
theorem cmS_335 : ∀ a ∈ wsCV "java/lang/String" 335 "java/lang/String" yJ0_coder_7d493 cJ0_coder_7d493 1 (some .byte), a ∈ GW := by
  unfold wsCV
  exact (List.forall_mem_cons.mpr ⟨(gw_3 (i := 17) (by decide +kernel) rfl), (List.forall_mem_cons.mpr ⟨(gw_3 (i := 18) (by decide +kernel) rfl), (List.forall_mem_cons.mpr ⟨(gw_3 (i := 19) (by decide +kernel) rfl), (List.forall_mem_cons.mpr ⟨(gw_1 (i := 14) (by decide +kernel) rfl), (List.forall_mem_cons.mpr ⟨(gw_3 (i := 20) (by decide +kernel) rfl), (List.forall_mem_nil _)⟩)⟩)⟩)⟩)⟩)
theorem cmS_505 : ∀ a ∈ wsCV "java/lang/String" 505 "java/lang/String" yJ0_length_8abf5 cJ0_length_8abf5 1 (some .int), a ∈ GW := by
  unfold wsCV
  exact (List.forall_mem_cons.mpr ⟨(gw_3 (i := 13) (by decide +kernel) rfl), (List.forall_mem_cons.mpr ⟨(gw_3 (i := 14) (by decide +kernel) rfl), (List.forall_mem_cons.mpr ⟨(gw_3 (i := 15) (by decide +kernel) rfl), (List.forall_mem_cons.mpr ⟨(gw_1 (i := 14) (by decide +kernel) rfl), (List.forall_mem_cons.mpr ⟨(gw_3 (i := 16) (by decide +kernel) rfl), (List.forall_mem_nil _)⟩)⟩)⟩)⟩)⟩)
theorem cmS_633 : ∀ a ∈ wsCV "java/lang/String" 633 "java/lang/String" yJ0_indexOf_7cf53 cJ0_indexOf_7cf53 3 (some .int), a ∈ GW := by
  unfold wsCV
  exact (List.forall_mem_cons.mpr ⟨(gw_3 (i := 3) (by decide +kernel) rfl), (List.forall_mem_cons.mpr ⟨(gw_3 (i := 4) (by decide +kernel) rfl), (List.forall_mem_cons.mpr ⟨(gw_3 (i := 5) (by decide +kernel) rfl), (List.forall_mem_cons.mpr ⟨(gw_1 (i := 14) (by decide +kernel) rfl), (List.forall_mem_cons.mpr ⟨(gw_3 (i := 6) (by decide +kernel) rfl), (List.forall_mem_nil _)⟩)⟩)⟩)⟩)⟩)
theorem cmS_637 : ∀ a ∈ wsCS "java/lang/String" 637 yJ1_indexOf_4cfef cJ1_indexOf_4cfef 4 (some .int), a ∈ GW := by
  unfold wsCS
  exact (List.forall_mem_cons.mpr ⟨(gw_3 (i := 21) (by decide +kernel) rfl), (List.forall_mem_cons.mpr ⟨(gw_3 (i := 22) (by decide +kernel) rfl), (List.forall_mem_cons.mpr ⟨(gw_1 (i := 15) (by decide +kernel) rfl), (List.forall_mem_cons.mpr ⟨(gw_3 (i := 23) (by decide +kernel) rfl), (List.forall_mem_nil _)⟩)⟩)⟩)⟩)
theorem cmS_495 : ∀ a ∈ wsCS "java/lang/String" 495 yJ1_charAt_3b067 cJ1_charAt_3b067 2 (some .char), a ∈ GW := by
  unfold wsCS
  exact (List.forall_mem_cons.mpr ⟨(gw_3 (i := 168) (by decide +kernel) rfl), (List.forall_mem_cons.mpr ⟨(gw_3 (i := 169) (by decide +kernel) rfl), (List.forall_mem_cons.mpr ⟨(gw_1 (i := 15) (by decide +kernel) rfl), (List.forall_mem_cons.mpr ⟨(gw_3 (i := 170) (by decide +kernel) rfl), (List.forall_mem_nil _)⟩)⟩)⟩)⟩)
theorem cmS_1059 : ∀ a ∈ wsCS "java/lang/String" 1059 yJ3_checkIndex_8e157 cJ3_checkIndex_8e157 3 (some .int), a ∈ GW := by
  unfold wsCS
  exact (List.forall_mem_cons.mpr ⟨(gw_3 (i := 174) (by decide +kernel) rfl), (List.forall_mem_cons.mpr ⟨(gw_3 (i := 175) (by decide +kernel) rfl), (List.forall_mem_cons.mpr ⟨(gw_1 (i := 18) (by decide +kernel) rfl), (List.forall_mem_cons.mpr ⟨(gw_3 (i := 176) (by decide +kernel) rfl), (List.forall_mem_nil _)⟩)⟩)⟩)⟩)
theorem cmT_88 : ∀ a ∈ wsCS "java/lang/StringLatin1" 88 yJ1_canEncode_9a6ad cJ1_canEncode_9a6ad 1 (some .boolean), a ∈ GW := by
  unfold wsCS
  exact (List.forall_mem_cons.mpr ⟨(gw_3 (i := 24) (by decide +kernel) rfl), (List.forall_mem_cons.mpr ⟨(gw_3 (i := 25) (by decide +kernel) rfl), (List.forall_mem_cons.mpr ⟨(gw_1 (i := 15) (by decide +kernel) rfl), (List.forall_mem_cons.mpr ⟨(gw_3 (i := 26) (by decide +kernel) rfl), (List.forall_mem_nil _)⟩)⟩)⟩)⟩)
theorem cmT_95 : ∀ a ∈ wsCS "java/lang/StringLatin1" 95 yJ1_indexOfChar_4cfef cJ1_indexOfChar_4cfef 6 (some .int), a ∈ GW := by
  unfold wsCS
  exact (List.forall_mem_cons.mpr ⟨(gw_3 (i := 33) (by decide +kernel) rfl), (List.forall_mem_cons.mpr ⟨(gw_3 (i := 34) (by decide +kernel) rfl), (List.forall_mem_cons.mpr ⟨(gw_1 (i := 15) (by decide +kernel) rfl), (List.forall_mem_cons.mpr ⟨(gw_3 (i := 35) (by decide +kernel) rfl), (List.forall_mem_nil _)⟩)⟩)⟩)⟩)
theorem cmT_9 : ∀ a ∈ wsCS "java/lang/StringLatin1" 9 yJ0_checkIndex_df160 cJ0_checkIndex_df160 2 none, a ∈ GW := by
  unfold wsCS
  exact (List.forall_mem_cons.mpr ⟨(gw_3 (i := 171) (by decide +kernel) rfl), (List.forall_mem_cons.mpr ⟨(gw_3 (i := 172) (by decide +kernel) rfl), (List.forall_mem_cons.mpr ⟨(gw_1 (i := 14) (by decide +kernel) rfl), (List.forall_mem_cons.mpr ⟨(gw_3 (i := 173) (by decide +kernel) rfl), (List.forall_mem_nil _)⟩)⟩)⟩)⟩)
theorem cmT_92 : ∀ a ∈ wsCS "java/lang/StringLatin1" 92 Lib.Math.max.name Lib.Math.max.code 2 (some .int), a ∈ GW := by
  unfold wsCS
  exact (List.forall_mem_cons.mpr ⟨(gw_3 (i := 27) (by decide +kernel) rfl), (List.forall_mem_cons.mpr ⟨(gw_3 (i := 28) (by decide +kernel) rfl), (List.forall_mem_cons.mpr ⟨(gw_1 (i := 16) (by decide +kernel) rfl), (List.forall_mem_cons.mpr ⟨(gw_3 (i := 29) (by decide +kernel) rfl), (List.forall_mem_nil _)⟩)⟩)⟩)⟩)
theorem cmT_38 : ∀ a ∈ wsCS "java/lang/StringLatin1" 38 Lib.Math.min.name Lib.Math.min.code 2 (some .int), a ∈ GW := by
  unfold wsCS
  exact (List.forall_mem_cons.mpr ⟨(gw_3 (i := 30) (by decide +kernel) rfl), (List.forall_mem_cons.mpr ⟨(gw_3 (i := 31) (by decide +kernel) rfl), (List.forall_mem_cons.mpr ⟨(gw_1 (i := 16) (by decide +kernel) rfl), (List.forall_mem_cons.mpr ⟨(gw_3 (i := 32) (by decide +kernel) rfl), (List.forall_mem_nil _)⟩)⟩)⟩)⟩)
theorem getD_mem {l : List Int32} {k : Nat} (h : k < l.length) : l.getD k 0 ∈ l := by
  rw [List.getD_eq_getElem?_getD, List.getElem?_eq_getElem h]
  exact List.getElem_mem _
theorem strJ_all : ∀ j, j < 6 → (lenJ.getD j 0 = (bytJ.getD j []).length ∧ (bytJ.getD j []).length < 10 ∧ ∀ b ∈ bytJ.getD j [], ∃ n, n < 128 ∧ b = nI n) := by
  have h : ∀ j, j < 6 → (lenJ.getD j 0 = (bytJ.getD j []).length ∧ (bytJ.getD j []).length < 10 ∧ ∀ b ∈ bytJ.getD j [], b.toNatClampNeg < 128 ∧ b = nI b.toNatClampNeg) := by decide +kernel
  exact fun j hj => ⟨(h j hj).1, (h j hj).2.1, fun b hb => ⟨_, ((h j hj).2.2 b hb).1, ((h j hj).2.2 b hb).2⟩⟩
theorem cJ_isLatin1 {V : EV} {l : Launch} (hl0 : l.stackTraces = false) {w : va_W} {j : Nat} (hj : j < 6) : MI V l yJ0_isLatin1_aae02 cJ0_isLatin1_aae02 1 .boolean 0 0 [.ref (V.2.2.1 j)] w 1 w := by
  refine mi_of hl0 (by decide +kernel) (Nat.le_of_ble_eq_true rfl) (fun p e R s m args below meth c Q A C K => ?_)
  refine k_gcs C dJ0_isLatin1_aae02_0 ?_
  refine k_if_eq C 17 dJ0_isLatin1_aae02_3 (by decide) (fun h => absurd h (by decide)) (fun _ => ?_)
  refine k_aload_n C dJ0_isLatin1_aae02_6 0 rfl ?_
  refine k_scod C hj dJ0_isLatin1_aae02_7 ?_
  refine k_if_ne C 17 dJ0_isLatin1_aae02_10 (by decide) (fun h => absurd rfl h) (fun _ => ?_)
  refine k_iconst (v := (1 : Int32)) C dJ0_isLatin1_aae02_13 (by decide) ?_
  refine k_goto C 18 dJ0_isLatin1_aae02_14 (by decide) ?_
  exact K _ _ dJ0_isLatin1_aae02_18 (nar_b (Or.inr rfl))
theorem cJ_coder {V : EV} {l : Launch} (hl0 : l.stackTraces = false) {w : va_W} {j : Nat} (hj : j < 6) : MI V l yJ0_coder_7d493 cJ0_coder_7d493 1 .byte 0 0 [.ref (V.2.2.1 j)] w 0 w := by
  refine mi_of hl0 (by decide +kernel) (Nat.le_of_ble_eq_true rfl) (fun p e R s m args below meth c Q A C K => ?_)
  refine k_gcs C dJ0_coder_7d493_0 ?_
  refine k_if_eq C 13 dJ0_coder_7d493_3 (by decide) (fun h => absurd h (by decide)) (fun _ => ?_)
  refine k_aload_n C dJ0_coder_7d493_6 0 rfl ?_
  refine k_scod C hj dJ0_coder_7d493_7 ?_
  refine k_goto C 14 dJ0_coder_7d493_10 (by decide) ?_
  exact K _ _ dJ0_coder_7d493_14 (by decide)
theorem cJ_length {V : EV} {l : Launch} (hl0 : l.stackTraces = false) {w : va_W} {j : Nat} (hj : j < 6) : MI V l yJ0_length_8abf5 cJ0_length_8abf5 1 .int 1 40 [.ref (V.2.2.1 j)] w (strLen j) w := by
  refine mi_of hl0 (by decide +kernel) (Nat.le_of_ble_eq_true rfl) (fun p e R s m args below meth c Q A C K => ?_)
  refine k_aload_n C dJ0_length_8abf5_0 0 rfl ?_
  refine k_sval C hj dJ0_length_8abf5_1 ?_
  refine k_slen C hj dJ0_length_8abf5_4 ?_
  refine k_aload_n C dJ0_length_8abf5_5 0 rfl ?_
  refine k_callTi (n := 0) C hj (cJ_coder hl0 hj) cmS_335 (by unfold okCV; decide +kernel) (by decide) rfl rfl (Nat.le_of_ble_eq_true rfl) dJ0_length_8abf5_6 ?_
  refine k_ishr C dJ0_length_8abf5_9 ?_
  rw [sc_shr0 (by have := strJ_all j hj; omega)]
  exact K _ _ dJ0_length_8abf5_10 rfl
theorem cJ_canEncode {V : EV} {l : Launch} (hl0 : l.stackTraces = false) {w : va_W} {x r : Int32} (hr : r = if 0 ≤ x ∧ x ≤ 255 then 1 else 0) : MI V l yJ1_canEncode_9a6ad cJ1_canEncode_9a6ad 1 .boolean 0 0 [.int x] w r w := by
  refine mi_of hl0 (by decide +kernel) (Nat.le_of_ble_eq_true rfl) (fun p e R s m args below meth c Q A C K => ?_)
  refine k_iload_n C dJ1_canEncode_9a6ad_0 0 rfl ?_
  refine k_if_lt C 15 dJ1_canEncode_9a6ad_1 (by decide) (fun h => ?_) (fun h => ?_)
  · refine k_iconst (v := (0 : Int32)) C dJ1_canEncode_9a6ad_15 (by decide) ?_
    rw [if_neg (show ¬ (0 ≤ x ∧ x ≤ 255) from fun z => Int32.lt_irrefl (Int32.lt_of_lt_of_le h z.1))] at hr
    subst hr
    exact K _ _ dJ1_canEncode_9a6ad_16 (nar_b (Or.inl rfl))
  refine k_iload_n C dJ1_canEncode_9a6ad_4 0 rfl ?_
  refine k_sipush (v := (255 : Int32)) C dJ1_canEncode_9a6ad_5 (by decide) ?_
  refine k_icmp_gt C 15 dJ1_canEncode_9a6ad_8 (by decide) (fun h2 => ?_) (fun h2 => ?_)
  · refine k_iconst (v := (0 : Int32)) C dJ1_canEncode_9a6ad_15 (by decide) ?_
    rw [if_neg (show ¬ (0 ≤ x ∧ x ≤ 255) from fun z => Int32.lt_irrefl (Int32.lt_of_lt_of_le h2 z.2))] at hr
    subst hr
    exact K _ _ dJ1_canEncode_9a6ad_16 (nar_b (Or.inl rfl))
  rw [if_pos ⟨Int32.not_lt.mp h, Int32.not_lt.mp h2⟩] at hr
  subst hr
  refine k_iconst (v := (1 : Int32)) C dJ1_canEncode_9a6ad_11 (by decide) ?_
  refine k_goto C 16 dJ1_canEncode_9a6ad_12 (by decide) ?_
  exact K _ _ dJ1_canEncode_9a6ad_16 (nar_b (Or.inr rfl))
theorem byteJ {n b : Nat} (hn : n < 256) (hb : b < 128) : nI b = (nI n).toInt8.toInt32 ↔ nI b = nI n := by
  have h1 : ∀ n, n < 128 → (nI n).toInt8.toInt32 = nI n := by decide +kernel
  have h2 : ∀ n, n < 256 → 128 ≤ n → (nI n).toInt8.toInt32 < 0 := by decide +kernel
  by_cases h : n < 128
  · rw [h1 n h]
  · have h3 := h2 n hn (by omega)
    constructor
    · intro q
      rw [← q] at h3
      exact absurd h3 (nI_pos (by omega))
    · intro q
      exact absurd ((nI_eq (by omega) (by omega)).mp q) (by omega)
theorem ixF_out {c : Int32} (hc : ¬ (0 ≤ c ∧ c ≤ 255)) : ∀ (l : List Int32) (k : Nat), (∀ b ∈ l, ∃ n, n < 128 ∧ b = nI n) → ixF c l k = -1 := by
  intro l
  induction l with
  | nil => intro k _; rfl
  | cons b l ih =>
    intro k h
    obtain ⟨n, hn, rfl⟩ := h b List.mem_cons_self
    rw [ixF, if_neg, ih (k + 1) fun b hb => h b (List.mem_cons_of_mem _ hb)]
    intro z
    subst z
    exact hc ⟨nI_pos' (by omega), (nI_leI (b := 255) (by omega) (by omega)).mpr (by omega)⟩
theorem cJ_ixLoop {V : EV} {p : Program} {l : Launch} {e : Env} {R : Room} {s : State} {m : MethodId} {args : Array Value} {below : List Frame} {meth : Method} {c : Code} {Q : State → Prop} {A : Nat → Prop} {w : va_W} {j n : Nat} {x4 : Int32} (hj : j < 6) (hn : n < 256) (C : CX V p l R s m args c A 0 0 RJ1 cJ1_indexOfChar_4cfef 6 0 0) (K : RI V p l e R s m args below meth c Q A 0 0 6 cJ1_indexOfChar_4cfef .int (strIx j (nI n)) w) :
    ∀ (lst : List Int32) (k : Nat), k ≤ lenJ.getD j 0 → (bytJ.getD j []).drop k = lst → ixF (nI n) lst k = strIx j (nI n) → WC V p l e R s m args below meth c Q A 0 0 6 w 7 [(5, .int (nI k)), (4, .int ((nI n).toInt8.toInt32)), (0, .ref (V.2.2.2 j)), (1, .int (nI n)), (2, .int x4), (3, .int (nI (lenJ.getD j 0)))] [] := by
  obtain ⟨hl, hL, hb⟩ := strJ_all j hj
  intro lst
  induction lst with
  | nil =>
    intro k hk e1 h
    have q : (bytJ.getD j []).length ≤ k := List.drop_eq_nil_iff.mp e1
    refine k_iload C dJ1_indexOfChar_4cfef_7 0 rfl ?_
    refine k_iload_n C dJ1_indexOfChar_4cfef_9 5 rfl ?_
    refine k_icmp_ge C 31 dJ1_indexOfChar_4cfef_10 (by decide) (fun _ => ?_) (fun z => absurd (nI_le (by omega) (by omega)) z)
    refine k_iconst (v := (-1 : Int32)) C dJ1_indexOfChar_4cfef_31 (by decide) ?_
    rw [show (-1 : Int32) = strIx j (nI n) from h]
    exact K _ _ dJ1_indexOfChar_4cfef_32 rfl
  | cons b lst ih =>
    intro k hk e1 h
    obtain ⟨h1, h2, h3, h4⟩ := sc_dropC e1
    obtain ⟨nb, hnb, rfl⟩ := hb b h4
    refine k_iload C dJ1_indexOfChar_4cfef_7 0 rfl ?_
    refine k_iload_n C dJ1_indexOfChar_4cfef_9 5 rfl ?_
    refine k_icmp_ge C 31 dJ1_indexOfChar_4cfef_10 (by decide) (fun z => absurd z (nI_ge (by omega) (by omega))) (fun _ => ?_)
    refine k_aload_n C dJ1_indexOfChar_4cfef_13 2 rfl ?_
    refine k_iload C dJ1_indexOfChar_4cfef_14 0 rfl ?_
    refine k_sbyt C hj (vp_in_nI (by omega) (by omega)) dJ1_indexOfChar_4cfef_16 ?_
    rw [nI_clamp (by omega), h2]
    refine k_iload C dJ1_indexOfChar_4cfef_17 1 rfl ?_
    rw [ixF] at h
    refine k_icmp_ne C 25 dJ1_indexOfChar_4cfef_19 (by decide) (fun z => ?_) (fun z => ?_)
    · rw [if_neg (fun q => z ((byteJ hn hnb).mpr q))] at h
      obtain ⟨x5, ex5⟩ : ∃ y : Int32, y = nI k + 1 := ⟨_, rfl⟩
      refine k_iinc (v := x5) C dJ1_indexOfChar_4cfef_25 0 rfl (by rw [ex5]; rfl) [(5, .int x5), (4, .int ((nI n).toInt8.toInt32)), (0, .ref (V.2.2.2 j)), (1, .int (nI n)), (2, .int x4), (3, .int (nI (lenJ.getD j 0)))] (by decide) rfl ?_
      refine k_goto C 7 dJ1_indexOfChar_4cfef_28 (by decide) ?_
      rw [ex5, ← nI_succ]
      exact ih (k + 1) (by omega) h3 h
    · rw [if_pos ((byteJ hn hnb).mp z)] at h
      refine k_iload C dJ1_indexOfChar_4cfef_22 0 rfl ?_
      rw [h]
      exact K _ _ dJ1_indexOfChar_4cfef_24 rfl
theorem cJ_indexOfChar {V : EV} {l : Launch} (hl0 : l.stackTraces = false) {w : va_W} {j n : Nat} (hj : j < 6) (hn : n < 256) : MI V l yJ1_indexOfChar_4cfef cJ1_indexOfChar_4cfef 6 .int 0 0 [.ref (V.2.2.2 j), .int (nI n), .int 0, .int (nI (lenJ.getD j 0))] w (strIx j (nI n)) w := by
  refine mi_of hl0 (by decide +kernel) (Nat.le_of_ble_eq_true rfl) (fun p e R s m args below meth c Q A C K => ?_)
  refine k_iload_n C dJ1_indexOfChar_4cfef_0 1 rfl ?_
  refine k_i2b C dJ1_indexOfChar_4cfef_1 ?_
  refine k_istore C dJ1_indexOfChar_4cfef_2 [(4, .int ((nI n).toInt8.toInt32)), (0, .ref (V.2.2.2 j)), (1, .int (nI n)), (2, .int 0), (3, .int (nI (lenJ.getD j 0)))] (by decide) rfl ?_
  refine k_iload_n C dJ1_indexOfChar_4cfef_4 3 rfl ?_
  refine k_istore C dJ1_indexOfChar_4cfef_5 [(5, .int 0), (4, .int ((nI n).toInt8.toInt32)), (0, .ref (V.2.2.2 j)), (1, .int (nI n)), (2, .int 0), (3, .int (nI (lenJ.getD j 0)))] (by decide) rfl ?_
  exact cJ_ixLoop hj hn C K _ 0 (Nat.zero_le _) rfl rfl
theorem cJ_indexOf1 {V : EV} {l : Launch} (hl0 : l.stackTraces = false) {w : va_W} {j : Nat} {x : Int32} (hj : j < 6) : MI V l yJ1_indexOf_4cfef cJ1_indexOf_4cfef 4 .int 1 40 [.ref (V.2.2.2 j), .int x, .int 0, .int (nI (lenJ.getD j 0))] w (strIx j x) w := by
  obtain ⟨hl, hL, hb⟩ := strJ_all j hj
  refine mi_of hl0 (by decide +kernel) (Nat.le_of_ble_eq_true rfl) (fun p e R s m args below meth c Q A C K => ?_)
  refine k_iload_n C dJ1_indexOf_4cfef_0 1 rfl ?_
  refine k_callSi (n := 1) (As := [.int x]) C (cJ_canEncode hl0 rfl) cmT_88 (by unfold okCV; decide +kernel) (by decide) rfl rfl (Nat.le_of_ble_eq_true rfl) dJ1_indexOf_4cfef_1 ?_
  by_cases hx : 0 ≤ x ∧ x ≤ 255
  · rw [if_pos hx]
    obtain ⟨n, hn, rfl⟩ := nI_of2 (M := 255) (n := 255) (by decide) (Int32.not_lt.mpr hx.1) hx.2
    refine k_if_ne C 9 dJ1_indexOf_4cfef_4 (by decide) (fun _ => ?_) (fun h => absurd h (by decide))
    refine k_iload_n C dJ1_indexOf_4cfef_9 2 rfl ?_
    refine k_iconst (v := (0 : Int32)) C dJ1_indexOf_4cfef_10 (by decide) ?_
    refine k_mmax C cmT_92 ⟨by decide, Nat.le_of_ble_eq_true rfl⟩ dJ1_indexOf_4cfef_11 ?_
    rw [ite_self]
    refine k_istore_n C dJ1_indexOf_4cfef_14 [(2, .int 0), (0, .ref (V.2.2.2 j)), (1, .int (nI n)), (3, .int (nI (lenJ.getD j 0)))] (by decide) rfl ?_
    refine k_iload_n C dJ1_indexOf_4cfef_15 3 rfl ?_
    refine k_aload_n C dJ1_indexOf_4cfef_16 1 rfl ?_
    refine k_slen C hj dJ1_indexOf_4cfef_17 ?_
    refine k_mmin C cmT_38 ⟨by decide, Nat.le_of_ble_eq_true rfl⟩ dJ1_indexOf_4cfef_18 ?_
    rw [ite_self]
    refine k_istore_n C dJ1_indexOf_4cfef_21 [(3, .int (nI (lenJ.getD j 0))), (2, .int 0), (0, .ref (V.2.2.2 j)), (1, .int (nI n))] (by decide) rfl ?_
    refine k_iload_n C dJ1_indexOf_4cfef_22 1 rfl ?_
    refine k_iload_n C dJ1_indexOf_4cfef_23 0 rfl ?_
    have h0 : ∀ j, j < 6 → 0 < lenJ.getD j 0 := by decide +kernel
    have h0' := h0 j hj
    refine k_icmp_lt C 29 dJ1_indexOf_4cfef_24 (by decide) (fun _ => ?_) (fun h => absurd (nI_lt (a := 0) h0' (by omega)) h)
    refine k_aload_n C dJ1_indexOf_4cfef_29 2 rfl ?_
    refine k_iload_n C dJ1_indexOf_4cfef_30 3 rfl ?_
    refine k_iload_n C dJ1_indexOf_4cfef_31 1 rfl ?_
    refine k_iload_n C dJ1_indexOf_4cfef_32 0 rfl ?_
    refine k_callSi (n := 4) (As := [.ref (V.2.2.2 j), .int (nI n), .int 0, .int (nI (lenJ.getD j 0))]) C (cJ_indexOfChar hl0 hj (by omega)) cmT_95 (by unfold okCV; decide +kernel) (by decide) rfl rfl (Nat.le_of_ble_eq_true rfl) dJ1_indexOf_4cfef_33 ?_
    exact K _ _ dJ1_indexOf_4cfef_36 rfl
  · rw [if_neg hx]
    refine k_if_ne C 9 dJ1_indexOf_4cfef_4 (by decide) (fun h => absurd rfl h) (fun _ => ?_)
    refine k_iconst (v := (-1 : Int32)) C dJ1_indexOf_4cfef_7 (by decide) ?_
    rw [show (-1 : Int32) = strIx j x from (ixF_out hx _ 0 hb).symm]
    exact K _ _ dJ1_indexOf_4cfef_8 rfl
theorem cJ_indexOf2 {V : EV} {l : Launch} (hl0 : l.stackTraces = false) {w : va_W} {j : Nat} {x : Int32} (hj : j < 6) : MI V l yJ0_indexOf_7cf53 cJ0_indexOf_7cf53 3 .int 2 70 [.ref (V.2.2.1 j), .int x, .int 0] w (strIx j x) w := by
  refine mi_of hl0 (by decide +kernel) (Nat.le_of_ble_eq_true rfl) (fun p e R s m args below meth c Q A C K => ?_)
  refine k_aload_n C dJ0_indexOf_7cf53_0 0 rfl ?_
  refine k_callTi (n := 0) C hj (cJ_isLatin1 hl0 hj) cmS_492 (by unfold okCV; decide +kernel) (by decide) rfl rfl (Nat.le_of_ble_eq_true rfl) dJ0_indexOf_7cf53_1 ?_
  refine k_if_eq C 23 dJ0_indexOf_7cf53_4 (by decide) (fun h => absurd h (by decide)) (fun _ => ?_)
  refine k_aload_n C dJ0_indexOf_7cf53_7 0 rfl ?_
  refine k_sval C hj dJ0_indexOf_7cf53_8 ?_
  refine k_iload_n C dJ0_indexOf_7cf53_11 1 rfl ?_
  refine k_iload_n C dJ0_indexOf_7cf53_12 2 rfl ?_
  refine k_aload_n C dJ0_indexOf_7cf53_13 0 rfl ?_
  refine k_callTi (n := 0) C hj (cJ_length hl0 hj) cmS_505 (by unfold okCV; decide +kernel) (by decide) rfl rfl (Nat.le_of_ble_eq_true rfl) dJ0_indexOf_7cf53_14 ?_
  refine k_callSi (n := 4) (As := [.ref (V.2.2.2 j), .int x, .int 0, .int (nI (lenJ.getD j 0))]) C (cJ_indexOf1 hl0 hj) cmS_637 (by unfold okCV; decide +kernel) (by decide) rfl rfl (Nat.le_of_ble_eq_true rfl) dJ0_indexOf_7cf53_17 ?_
  refine k_goto C 36 dJ0_indexOf_7cf53_20 (by decide) ?_
  exact K _ _ dJ0_indexOf_7cf53_36 rfl
theorem cJ_indexOf {V : EV} {l : Launch} (hl0 : l.stackTraces = false) {w : va_W} {j : Nat} {x : Int32} (hj : j < 6) : MI V l yJ0_indexOf_0f7a4 cJ0_indexOf_0f7a4 2 .int 4 130 [.ref (V.2.2.1 j), .int x] w (strIx j x) w := by
  refine mi_of hl0 (by decide +kernel) (Nat.le_of_ble_eq_true rfl) (fun p e R s m args below meth c Q A C K => ?_)
  refine k_aload_n C dJ0_indexOf_0f7a4_0 0 rfl ?_
  refine k_iload_n C dJ0_indexOf_0f7a4_1 1 rfl ?_
  refine k_iconst (v := (0 : Int32)) C dJ0_indexOf_0f7a4_2 (by decide) ?_
  refine k_callTi (n := 2) (As := [.int x, .int 0]) C hj (cJ_indexOf2 hl0 hj) cmS_633 (by unfold okCV; decide +kernel) (by decide) rfl rfl (Nat.le_of_ble_eq_true rfl) dJ0_indexOf_0f7a4_3 ?_
  exact K _ _ dJ0_indexOf_0f7a4_6 rfl
theorem cJ_pcheck {V : EV} {l : Launch} (hl0 : l.stackTraces = false) {w : va_W} {i n : Nat} {v : Value} (hin : i < n) (hn : n < 2 ^ 31) (hv : v = .null ∨ ∃ t : Nat, v = .ref t) : MI V l yJ3_checkIndex_8e157 cJ3_checkIndex_8e157 3 .int 0 0 [.int (nI i), .int (nI n), v] w (nI i) w := by
  have key : ∀ v : Value, v.category = 1 → lv_args 0 [.int (nI i), .int (nI n), v] = [(0, .int (nI i)), (1, .int (nI n)), (2, v)] := fun v hv => rfl
  have hc : v.category = 1 := by rcases hv with rfl | ⟨t, rfl⟩ <;> rfl
  refine mi_of hl0 (by decide +kernel) (by rcases hv with rfl | ⟨t, rfl⟩ <;> exact Nat.le_of_ble_eq_true rfl) (fun p e R s m args below meth c Q A C K => ?_)
  rw [key v hc]
  refine k_iload_n C dJ3_checkIndex_8e157_0 0 rfl ?_
  refine k_if_lt C 9 dJ3_checkIndex_8e157_1 (by decide) (fun h => absurd h (nI_pos (by omega))) (fun _ => ?_)
  refine k_iload_n C dJ3_checkIndex_8e157_4 0 rfl ?_
  refine k_iload_n C dJ3_checkIndex_8e157_5 1 rfl ?_
  refine k_icmp_lt C 16 dJ3_checkIndex_8e157_6 (by decide) (fun _ => ?_) (fun h => absurd (nI_lt hin hn) h)
  refine k_iload_n C dJ3_checkIndex_8e157_16 0 rfl ?_
  exact K _ _ dJ3_checkIndex_8e157_17 rfl
theorem cJ_scheck {V : EV} {l : Launch} (hl0 : l.stackTraces = false) {w : va_W} {i n : Nat} (hin : i < n) (hn : n < 2 ^ 31) : MV V l yJ0_checkIndex_df160 cJ0_checkIndex_df160 2 1 40 [.int (nI i), .int (nI n)] w w := by
  refine mv_of hl0 (by decide +kernel) (Nat.le_of_ble_eq_true rfl) (fun p e R s m args below meth c Q A C K => ?_)
  refine k_iload_n C dJ0_checkIndex_df160_0 0 rfl ?_
  refine k_iload_n C dJ0_checkIndex_df160_1 1 rfl ?_
  refine k_gsio C dJ0_checkIndex_df160_2 (fun v hv => ?_)
  refine k_callSi (n := 3) (As := [.int (nI i), .int (nI n), v]) (st := []) C (cJ_pcheck hl0 hin hn hv) cmS_1059 (by unfold okCV; decide +kernel) (by decide) rfl rfl (Nat.le_of_ble_eq_true rfl) dJ0_checkIndex_df160_5 ?_
  refine k_pop C dJ0_checkIndex_df160_8 rfl ?_
  exact K _ _ dJ0_checkIndex_df160_9
theorem cJ_charAt1 {V : EV} {l : Launch} (hl0 : l.stackTraces = false) {w : va_W} {j i : Nat} (hj : j < 6) (hi : i < lenJ.getD j 0) : MI V l yJ1_charAt_3b067 cJ1_charAt_3b067 2 .char 2 70 [.ref (V.2.2.2 j), .int (nI i)] w (strAt j (nI i)) w := by
  obtain ⟨hl, hL, hb⟩ := strJ_all j hj
  have hb2 : ∀ n, n < 128 → ((nI n &&& 255).toUInt32 % 65536).toInt32 = nI n ∧ narrow .char (.int (nI n)) = .int (nI n) := by decide +kernel
  refine mi_of hl0 (by decide +kernel) (Nat.le_of_ble_eq_true rfl) (fun p e R s m args below meth c Q A C K => ?_)
  refine k_iload_n C dJ1_charAt_3b067_0 1 rfl ?_
  refine k_aload_n C dJ1_charAt_3b067_1 0 rfl ?_
  refine k_slen C hj dJ1_charAt_3b067_2 ?_
  refine k_callSv (n := 2) (As := [.int (nI i), .int (nI (lenJ.getD j 0))]) C (cJ_scheck hl0 hi (by omega)) cmT_9 (by unfold okCV; decide +kernel) (by decide) rfl rfl (Nat.le_of_ble_eq_true rfl) dJ1_charAt_3b067_3 ?_
  refine k_aload_n C dJ1_charAt_3b067_6 0 rfl ?_
  refine k_iload_n C dJ1_charAt_3b067_7 1 rfl ?_
  refine k_sbyt C hj (vp_in_nI hi (by omega)) dJ1_charAt_3b067_8 ?_
  refine k_sipush (v := (255 : Int32)) C dJ1_charAt_3b067_9 (by decide) ?_
  refine k_iand C dJ1_charAt_3b067_12 ?_
  refine k_i2c C dJ1_charAt_3b067_13 ?_
  have hm : (bytJ.getD j []).getD (nI i).toNatClampNeg 0 ∈ bytJ.getD j [] := by
    rw [nI_clamp (by omega)]
    exact getD_mem (by omega)
  obtain ⟨n, hn, e1⟩ := hb _ hm
  have e2 : strAt j (nI i) = nI n := e1
  rw [e1, (hb2 n hn).1, ← e2]
  exact K _ _ dJ1_charAt_3b067_14 (by rw [e2]; exact (hb2 n hn).2)
theorem cJ_charAt {V : EV} {l : Launch} (hl0 : l.stackTraces = false) {w : va_W} {j : Nat} {i : Int32} (hj : j < 6) (hi : ¬ (i < 0 ∨ lenJ.getD j 0 ≤ i.toNatClampNeg)) : MI V l yJ0_charAt_5068e cJ0_charAt_5068e 2 .char 4 130 [.ref (V.2.2.1 j), .int i] w (strAt j i) w := by
  obtain ⟨hl, hL, hb⟩ := strJ_all j hj
  obtain ⟨k, hk, rfl⟩ := vp_in_of (x := i) hi (by omega)
  have hb2 : ∀ n, n < 128 → narrow .char (.int (nI n)) = .int (nI n) := by decide +kernel
  refine mi_of hl0 (by decide +kernel) (Nat.le_of_ble_eq_true rfl) (fun p e R s m args below meth c Q A C K => ?_)
  refine k_aload_n C dJ0_charAt_5068e_0 0 rfl ?_
  refine k_callTi (n := 0) C hj (cJ_isLatin1 hl0 hj) cmS_492 (by unfold okCV; decide +kernel) (by decide) rfl rfl (Nat.le_of_ble_eq_true rfl) dJ0_charAt_5068e_1 ?_
  refine k_if_eq C 16 dJ0_charAt_5068e_4 (by decide) (fun h => absurd h (by decide)) (fun _ => ?_)
  refine k_aload_n C dJ0_charAt_5068e_7 0 rfl ?_
  refine k_sval C hj dJ0_charAt_5068e_8 ?_
  refine k_iload_n C dJ0_charAt_5068e_11 1 rfl ?_
  refine k_callSi (n := 2) (As := [.ref (V.2.2.2 j), .int (nI k)]) C (cJ_charAt1 hl0 hj hk) cmS_495 (by unfold okCV; decide +kernel) (by decide) rfl rfl (Nat.le_of_ble_eq_true rfl) dJ0_charAt_5068e_12 ?_
  have hm : (bytJ.getD j []).getD (nI k).toNatClampNeg 0 ∈ bytJ.getD j [] := by
    rw [nI_clamp (by omega)]
    exact getD_mem (by omega)
  obtain ⟨n, hn, e1⟩ := hb _ hm
  exact K _ _ dJ0_charAt_5068e_15 (by rw [show strAt j (nI k) = nI n from e1]; exact hb2 n hn)
theorem cJ_fillLoop {V : EV} {p : Program} {l : Launch} {e : Env} {R : Room} {s : State} {m : MethodId} {args : Array Value} {below : List Frame} {meth : Method} {c : Code} {Q : State → Prop} {A : Nat → Prop} {w0 : va_W} {k0 a n : Nat} {f0 : Nat → Int32} {v : Int32} (hn : n < 2 ^ 31) (hk0 : k0 < w0.length) (C : CX V p l R s m args c A 0 0 RJ7 cJ7_fill_53178 4 0 0) (K : RV V p l e R s m args below meth c Q A 0 0 4 cJ7_fill_53178 (w0.set k0 (a, .inl (V.2.1 0, n, .inl (fillF f0 n v))))) :
    ∀ (d i : Nat) (f : Nat → Int32), d + i = n → f = fillF f0 i v → WC V p l e R s m args below meth c Q A 0 0 4 (w0.set k0 (a, .inl (V.2.1 0, n, .inl f))) 5 [(2, .int (nI i)), (3, .int (nI n)), (0, .ref a), (1, .int v)] [] := by
  intro d
  induction d with
  | zero =>
    intro i f hd hf
    refine k_iload_n C dJ7_fill_53178_5 0 rfl ?_
    refine k_iload_n C dJ7_fill_53178_6 1 rfl ?_
    refine k_icmp_ge C 20 dJ7_fill_53178_7 (by decide) (fun _ => ?_) (fun z => absurd (nI_le (by omega) (by omega)) z)
    rw [hf, show i = n by omega]
    exact K _ _ dJ7_fill_53178_20
  | succ d ih =>
    intro i f hd hf
    have hg : (w0.set k0 (a, Sum.inl (V.2.1 0, n, Sum.inl f)))[k0]? = some (a, Sum.inl (V.2.1 0, n, Sum.inl f)) := List.getElem?_set_self hk0
    refine k_iload_n C dJ7_fill_53178_5 0 rfl ?_
    refine k_iload_n C dJ7_fill_53178_6 1 rfl ?_
    refine k_icmp_ge C 20 dJ7_fill_53178_7 (by decide) (fun z => absurd z (nI_ge (by omega) (by omega))) (fun _ => ?_)
    refine k_aload_n C dJ7_fill_53178_10 2 rfl ?_
    refine k_iload_n C dJ7_fill_53178_11 0 rfl ?_
    refine k_iload_n C dJ7_fill_53178_12 3 rfl ?_
    refine k_iast (w' := w0.set k0 (a, .inl (V.2.1 0, n, .inl (upd f i v)))) C k0 hg (vp_in_nI (by omega) (by omega)) (by rw [List.set_set, nI_clamp (by omega)]) dJ7_fill_53178_13 ?_
    obtain ⟨x2, ex2⟩ : ∃ y : Int32, y = nI i + 1 := ⟨_, rfl⟩
    refine k_iinc (v := x2) C dJ7_fill_53178_14 0 rfl (by rw [ex2]; rfl) [(2, .int x2), (3, .int (nI n)), (0, .ref a), (1, .int v)] (by decide) rfl ?_
    refine k_goto C 5 dJ7_fill_53178_17 (by decide) ?_
    rw [ex2, ← nI_succ]
    refine ih (i + 1) _ (by omega) ?_
    funext j
    rw [hf]
    simp only [upd, fillF]
    by_cases h1 : j = i
    · subst h1; simp
    · by_cases h2 : j < i
      · rw [if_neg h1, if_pos h2, if_pos (by omega)]
      · rw [if_neg h1, if_neg h2, if_neg (by omega)]
theorem cJ_fill {V : EV} {l : Launch} (hl0 : l.stackTraces = false) {w : va_W} {k a n : Nat} {f : Nat → Int32} {v : Int32} (hn : n < 2 ^ 31) (he : w[k]? = some (a, .inl (V.2.1 0, n, .inl f))) : MV V l yJ7_fill_53178 cJ7_fill_53178 4 0 0 [.ref a, .int v] w (w.set k (a, .inl (V.2.1 0, n, .inl (fillF f n v)))) := by
  have hk0 : k < w.length := (List.getElem?_eq_some_iff.mp he).1
  refine mv_of hl0 (by decide +kernel) (Nat.le_of_ble_eq_true rfl) (fun p e R s m args below meth c Q A C K => ?_)
  refine k_iconst (v := (0 : Int32)) C dJ7_fill_53178_0 (by decide) ?_
  refine k_istore_n C dJ7_fill_53178_1 [(2, .int 0), (0, .ref a), (1, .int v)] (by decide) rfl ?_
  refine k_aload_n C dJ7_fill_53178_2 1 rfl ?_
  refine k_alen C k 0 he rfl dJ7_fill_53178_3 ?_
  refine k_istore_n C dJ7_fill_53178_4 [(3, .int (Int32.ofNat n)), (2, .int 0), (0, .ref a), (1, .int v)] (by decide) rfl ?_
  refine k_sub [1, 0, 2, 3] (L' := [(2, .int (nI 0)), (3, .int (nI n)), (0, .ref a), (1, .int v)]) rfl ?_
  have hw : w = w.set k (a, .inl (V.2.1 0, n, .inl f)) := by
    refine List.ext_getElem? fun j => ?_
    by_cases hj : k = j
    · subst hj; rw [List.getElem?_set_self hk0]; exact he
    · rw [List.getElem?_set_ne hj]
  have hf : f = fillF f 0 v := by funext j; simp [fillF]
  have key := cJ_fillLoop (f0 := f) hn hk0 C K n 0 f (by omega) hf
  rw [← hw] at key
  exact key
