/-! THE FRAME: a contract holds beside other cells, in any order -/
section
variable {D : va_G} {cl : List vw_C} {a b w w' : va_W} {H H1 : Heap} {A : Nat → Prop}
theorem vp_app (h1 : va_P D cl a H) (h2 : va_P D cl b H) : va_P D cl (a ++ b) H := by
  intro k q hk
  by_cases h : k < a.length
  · rw [List.getElem?_append_left h] at hk
    exact h1 k q hk
  · rw [List.getElem?_append_right (by omega)] at hk
    exact h2 _ q hk
theorem vp_spl (h : va_P D cl (a ++ b) H) : va_P D cl a H ∧ va_P D cl b H := by
  refine ⟨fun k q hk => h k q ?_, fun k q hk => h (a.length + k) q ?_⟩
  · rw [List.getElem?_append_left (List.getElem?_eq_some_iff.mp hk).1]; exact hk
  · rw [List.getElem?_append_right (Nat.le_add_right _ _), Nat.add_sub_cancel_left]; exact hk
theorem vd_spl (h : va_D A (a ++ b)) : va_D A a ∧ va_D A b ∧ ∀ (i j : Nat) (p q : Nat × va_E), a[i]? = some p → b[j]? = some q → p.1 ≠ q.1 := by
  have ha : ∀ (k : Nat) (q : Nat × va_E), a[k]? = some q → (a ++ b)[k]? = some q := fun k q hk => by
    rw [List.getElem?_append_left (List.getElem?_eq_some_iff.mp hk).1]; exact hk
  have hb : ∀ (k : Nat) (q : Nat × va_E), b[k]? = some q → (a ++ b)[a.length + k]? = some q := fun k q hk => by
    rw [List.getElem?_append_right (Nat.le_add_right _ _), Nat.add_sub_cancel_left]; exact hk
  refine ⟨⟨fun i j p q h1 h2 e => h.1 i j p q (ha i p h1) (ha j q h2) e, fun k q hk => h.2 k q (ha k q hk)⟩, ⟨fun i j p q h1 h2 e => ?_, fun k q hk => h.2 _ q (hb k q hk)⟩, fun i j p q h1 h2 e => ?_⟩
  · have := h.1 _ _ p q (hb i p h1) (hb j q h2) e
    omega
  · have := h.1 _ _ p q (ha i p h1) (hb j q h2) e
    have := (List.getElem?_eq_some_iff.mp h1).1
    omega
theorem vp_mem : va_P D cl w H ↔ ∀ q, q ∈ w → va_at D cl q H := by
  constructor
  · intro h q hq
    obtain ⟨k, hk⟩ := List.getElem?_of_mem hq
    exact h k q hk
  · intro h k q hk
    exact h q (List.mem_of_getElem? hk)
theorem vd_nod : va_D A w ↔ (w.map (fun q => q.1)).Nodup ∧ ∀ q, q ∈ w → A q.1 := by
  constructor
  · intro h
    refine ⟨?_, fun q hq => ?_⟩
    · rw [List.nodup_iff_pairwise_ne, List.pairwise_iff_getElem]
      intro i j hi hj hij e
      rw [List.length_map] at hi hj
      rw [List.getElem_map, List.getElem_map] at e
      have := h.1 i j _ _ (List.getElem?_eq_getElem hi) (List.getElem?_eq_getElem hj) e
      omega
    · obtain ⟨k, hk⟩ := List.getElem?_of_mem hq
      exact h.2 k q hk
  · intro h
    refine ⟨fun i j p q h1 h2 e => ?_, fun k q hk => h.2 q (List.mem_of_getElem? hk)⟩
    obtain ⟨l1, rfl⟩ := List.getElem?_eq_some_iff.mp h1
    obtain ⟨l2, rfl⟩ := List.getElem?_eq_some_iff.mp h2
    have hn := h.1
    rw [List.nodup_iff_pairwise_ne, List.pairwise_iff_getElem] at hn
    by_cases w1 : i < j
    · have := hn i j (by rw [List.length_map]; exact l1) (by rw [List.length_map]; exact l2) w1
      rw [List.getElem_map, List.getElem_map] at this
      exact absurd e this
    · by_cases w2 : j < i
      · have := hn j i (by rw [List.length_map]; exact l2) (by rw [List.length_map]; exact l1) w2
        rw [List.getElem_map, List.getElem_map] at this
        exact absurd e.symm this
      · omega
theorem vp_perm (hp : w.Perm w') (h : va_P D cl w H) : va_P D cl w' H := vp_mem.mpr fun q hq => vp_mem.mp h q (hp.mem_iff.mpr hq)
theorem vd_perm (hp : w.Perm w') (h : va_D A w) : va_D A w' := by
  obtain ⟨h1, h2⟩ := vd_nod.mp h
  exact vd_nod.mpr ⟨(hp.map _).nodup_iff.mp h1, fun q hq => h2 q (hp.mem_iff.mpr hq)⟩
end
section
variable {V : EV} {l : Launch} {y : MethodName} {cc : ByteArray} {nL fr lo : Nat} {ty : FieldType} {As : List Value} {w w1 rest : va_W} {r : Int32} {E : String}
theorem va_sub {sz : Nat} {q : Nat} (h : va_A w sz q) : va_A (w ++ rest) sz q := by
  rcases h with ⟨k, e, h⟩ | h
  · exact .inl ⟨k, e, by rw [List.getElem?_append_left (List.getElem?_eq_some_iff.mp h).1]; exact h⟩
  · exact .inr h
theorem pre_fr {sz : Nat} {U : State} (h : PRE V (w ++ rest) sz U) : PRE V w sz U := ⟨h.1, (vp_spl h.2.1).1, h.2.2.1.narrow fun q hq => va_sub hq, (vd_spl h.2.2.2).1⟩
/-- what stands beside stays -/
theorem rest_fr {sz : Nat} {U t : State} (h : PRE V (w ++ rest) sz U) (hF : va_F (va_A w sz) U t) (hP : va_P V.1 vwCl w1 t.heap) (hD : va_D (va_A w sz) w1) : (va_P V.1 vwCl (w1 ++ rest) t.heap ∧ va_D (va_A (w ++ rest) sz) (w1 ++ rest)) ∧ va_F (va_A (w ++ rest) sz) U t := by
  obtain ⟨h1, h2, h3, h4⟩ := h
  obtain ⟨p1, p2⟩ := vp_spl h2
  obtain ⟨d1, d2, d3⟩ := vd_spl h4
  have out : ∀ (j : Nat) (q : Nat × va_E), rest[j]? = some q → ¬ va_A w sz q.1 := by
    intro j q hj hA
    rcases hA with ⟨k, e, hk⟩ | hA
    · exact d3 k j _ q hk hj rfl
    · have := (p2 j q hj).lt
      omega
  refine ⟨⟨vp_app hP (p2.kept fun k q hk => hF.2 q.1 (p2 k q hk).lt (out k q hk)), va_D.app (hD.weaken fun _ _ _ h => va_sub h) ⟨d2.1, fun k q hk => ?_⟩ (fun i j p q hi hj e => ?_)⟩, hF.1, fun q h1 h2 => hF.2 q h1 (fun h => h2 (va_sub h))⟩
  · exact .inl ⟨w.length + k, q.2, by rw [List.getElem?_append_right (Nat.le_add_right _ _), Nat.add_sub_cancel_left]; exact hk⟩
  · have := hD.2 i p hi
    rw [e] at this
    exact out j q hj this
theorem mi_fr (h : MI V l y cc nL ty fr lo As w r w1) : MI V l y cc nL ty fr lo As (w ++ rest) r (w1 ++ rest) := by
  intro sz
  refine MetFree.mono (h sz) (fun a s hp => ⟨hp.1, pre_fr hp.2⟩) (fun _ _ _ _ _ h => h) (fun a s o t hp hq => ?_)
  obtain ⟨⟨⟨r', u, ho, hr, hP, hD⟩, hF⟩, L, hL, hL2⟩ := hq
  obtain ⟨k1, k2⟩ := rest_fr hp.2 hF hP hD
  exact ⟨⟨⟨r', u, ho, hr, k1⟩, k2⟩, L, hL, fun q hq => va_sub (hL2 q hq)⟩
theorem mv_fr (h : MV V l y cc nL fr lo As w w1) : MV V l y cc nL fr lo As (w ++ rest) (w1 ++ rest) := by
  intro sz
  refine MetFree.mono (h sz) (fun a s hp => ⟨hp.1, pre_fr hp.2⟩) (fun _ _ _ _ _ h => h) (fun a s o t hp hq => ?_)
  obtain ⟨⟨⟨u, ho, hr, hP, hD⟩, hF⟩, L, hL, hL2⟩ := hq
  obtain ⟨k1, k2⟩ := rest_fr hp.2 hF hP hD
  exact ⟨⟨⟨u, ho, hr, k1⟩, k2⟩, L, hL, fun q hq => va_sub (hL2 q hq)⟩
theorem ti_fr (h : TI V l y cc nL ty fr lo As w E w1) : TI V l y cc nL ty fr lo As (w ++ rest) E (w1 ++ rest) := by
  intro sz
  refine MetFree.mono (h sz) (fun a s hp => ⟨hp.1, pre_fr hp.2⟩) (fun _ _ _ _ _ h => h) (fun a s o t hp hq => ?_)
  rcases hq with ⟨⟨⟨r', u, ho, hr, _⟩, _⟩, _⟩ | ⟨q, ho, E', ce, L, ⟨u, hu, ⟨hE, hP, hD⟩, hF⟩, h1, h2, h3, h4, h5, h6⟩
  · exact hr.elim
  · obtain ⟨k1, k2⟩ := rest_fr hp.2 hF hP hD
    exact .inr ⟨q, ho, E', ce, L, ⟨u, hu, ⟨hE, k1⟩, k2⟩, h1, h2, h3, h4, h5, fun z hz => va_sub (h6 z hz)⟩
end
section
variable {V : EV} {p : Program} {l : Launch} {e : Env} {R : Room} {s : State} {m : MethodId} {args : Array Value} {below : List Frame} {meth : Method} {c : Code} {Q : State → Prop} {A : Nat → Prop} {kc ks nL pc : Nat} {w w' : va_W} {L : List (Nat × Value)} {st : List Value}
theorem k_perm (hp : w.Perm w') (k : WC V p l e R s m args below meth c Q A kc ks nL w' pc L st) : WC V p l e R s m args below meth c Q A kc ks nL w pc L st :=
  fun H locs ls hP hD hS h => k H locs ls (vp_perm hp hP) (vd_perm hp hD) hS h
end
