/-! a contract holds in a larger room too -/
theorem hasRoom_less {s : State} {pl : Platform} {r r' : Room} (h1 : r.frames ≤ r'.frames) (h2 : r.cells ≤ r'.cells) (h3 : r.slots ≤ r'.slots) (h4 : r.locals ≤ r'.locals) (hr : s.hasRoom pl r' = true) : s.hasRoom pl r = true := by
  simp only [State.hasRoom, Bool.and_eq_true, decide_eq_true_eq] at hr ⊢
  generalize stackMargin = a1 at hr ⊢
  generalize realStackBytes / 8 = a2 at hr ⊢
  refine ⟨⟨⟨⟨?_, ?_⟩, ?_⟩, ?_⟩, ?_⟩ <;> (try first | omega | (refine ⟨?_, ?_, ?_, ?_, ?_⟩ <;> first | omega | exact hr.1.1.1.2.2.2.2.2)) <;> first | exact hr.2 | omega
theorem applies_less {s : State} {pl : Platform} {ws : List Cond} {y : MethodName} {r r' : Room} (h1 : r.frames ≤ r'.frames) (h2 : r.cells ≤ r'.cells) (h3 : r.slots ≤ r'.slots) (h4 : r.locals ≤ r'.locals) (hr : (headSpec ws r').appliesLoose y pl s = true) : (headSpec ws r).appliesLoose y pl s = true := by
  unfold Spec.appliesLoose at hr ⊢
  split at hr
  · simp only [Bool.and_eq_true] at hr ⊢
    exact ⟨⟨hr.1.1, hasRoom_less h1 h2 h3 h4 hr.1.2⟩, hr.2⟩
  · cases hr
theorem MV.room {V : EV} {l : Launch} {y : MethodName} {cc : ByteArray} {nL fr lo fr' lo' : Nat} {As : List Value} {w w1 : va_W} (hf : fr ≤ fr') (hl : lo ≤ lo') (h : MV V l y cc nL fr lo As w w1) : MV V l y cc nL fr' lo' As w w1 :=
  fun sz p e a b c s m args below hfr happ => h sz p e a b c s m args below hfr (applies_less (r := rmG fr lo) (r' := rmG fr' lo') hf (Nat.le_refl _) (Nat.le_refl _) hl happ)
theorem MI.room {V : EV} {l : Launch} {y : MethodName} {cc : ByteArray} {nL fr lo fr' lo' : Nat} {ty : FieldType} {As : List Value} {w w1 : va_W} {r : Int32} (hf : fr ≤ fr') (hl : lo ≤ lo') (h : MI V l y cc nL ty fr lo As w r w1) : MI V l y cc nL ty fr' lo' As w r w1 :=
  fun sz p e a b c s m args below hfr happ => h sz p e a b c s m args below hfr (applies_less (r := rmG fr lo) (r' := rmG fr' lo') hf (Nat.le_refl _) (Nat.le_refl _) hl happ)
theorem TV.room {V : EV} {l : Launch} {y : MethodName} {cc : ByteArray} {nL fr lo fr' lo' : Nat} {As : List Value} {w w1 : va_W} {E : String} (hf : fr ≤ fr') (hl : lo ≤ lo') (h : TV V l y cc nL fr lo As w E w1) : TV V l y cc nL fr' lo' As w E w1 :=
  fun sz p e a b c s m args below hfr happ => h sz p e a b c s m args below hfr (applies_less (r := rmX fr lo) (r' := rmX fr' lo') hf (Nat.le_refl _) (Nat.le_refl _) hl happ)
def f5_rec (N : Nat) : Nat → RecT
  | 0 => fun _ _ _ _ _ _ => none
  | d + 1 => fun k v top rd ra cs => if k = 0 then f5_expression (f5_rec N d) N v top rd ra cs else if k = 1 then f5_condition (f5_rec N d) N v top rd ra cs else f5_row (f5_rec N d) N v top rd ra cs
theorem f5_rec_0 {N d : Nat} {v : Int32} {top : TopS} {rd : RdS} {ra : Int32} {cs : CoS} : f5_rec N (d + 1) 0 v top rd ra cs = f5_expression (f5_rec N d) N v top rd ra cs := by simp only [f5_rec, if_true]
theorem f5_rec_1 {N d : Nat} {v : Int32} {top : TopS} {rd : RdS} {ra : Int32} {cs : CoS} : f5_rec N (d + 1) 1 v top rd ra cs = f5_condition (f5_rec N d) N v top rd ra cs := by simp [f5_rec]
theorem f5_rec_2 {N d : Nat} {v : Int32} {top : TopS} {rd : RdS} {ra : Int32} {cs : CoS} : f5_rec N (d + 1) 2 v top rd ra cs = f5_row (f5_rec N d) N v top rd ra cs := by simp [f5_rec]
theorem yK_0 : yK 0 = yX5_expression := if_pos rfl
theorem yK_1 : yK 1 = yX5_condition := (if_neg (by decide)).trans (if_pos rfl)
theorem yK_2 : yK 2 = yX5_row := (if_neg (by decide)).trans (if_neg (by decide))
theorem cK_0 : cK 0 = cX5_expression := if_pos rfl
theorem cK_1 : cK 1 = cX5_condition := (if_neg (by decide)).trans (if_pos rfl)
theorem cK_2 : cK 2 = cX5_row := (if_neg (by decide)).trans (if_neg (by decide))
set_option maxHeartbeats 4000000 in
set_option maxRecDepth 100000 in
theorem rec_ok {V : EV} {l : Launch} {N : Nat} : ∀ d, l.stackTraces = false → RECOK V l (22 * d) (640 * d) (f5_rec N d) := by
  intro d hl0
  induction d with
  | zero => intro k hk ad top t0 rl rq ra ra' cs cs' co mu fo tr ma mq mx v hq; exact ⟨fun h => (nomatch (show none = some _ from h)), fun E h => (nomatch (show none = some _ from h))⟩
  | succ d ih =>
    intro k hk ad top t0 rl rq ra ra' cs cs' co mu fo tr ma mq mx v hq
    obtain ⟨a1, a2, a3, a4, a5, a6, a7, a8⟩ := top
    obtain ⟨b1, b2, b3, b4, b5⟩ := cs
    rw [Nat.mul_succ, Nat.mul_succ]
    rcases (show k = 0 ∨ k = 1 ∨ k = 2 by omega) with rfl | rfl | rfl
    · rw [yK_0, cK_0, nK_v.1, f5_rec_0]
      exact ⟨fun h => (c5_expression (res := (.ok (), ra', cs')) (F := 22 * d) (G := 640 * d) hl0 ih hq h rfl).room (by omega) (by omega), fun E h => (x5_expression (res := (.error E, ra', cs')) (F := 22 * d) (G := 640 * d) hl0 ih hq h rfl).room (by omega) (by omega)⟩
    · rw [yK_1, cK_1, nK_v.2.1, f5_rec_1]
      exact ⟨fun h => (c5_condition (res := (.ok (), ra', cs')) (F := 22 * d) (G := 640 * d) hl0 ih hq h rfl).room (by omega) (by omega), fun E h => (x5_condition (res := (.error E, ra', cs')) (F := 22 * d) (G := 640 * d) hl0 ih hq h rfl).room (by omega) (by omega)⟩
    · rw [yK_2, cK_2, nK_v.2.2, f5_rec_2]
      exact ⟨fun h => (c5_row (res := (.ok (), ra', cs')) (F := 22 * d) (G := 640 * d) hl0 ih hq h rfl).room (by omega) (by omega), fun E h => (x5_row (res := (.error E, ra', cs')) (F := 22 * d) (G := 640 * d) hl0 ih hq h rfl).room (by omega) (by omega)⟩
