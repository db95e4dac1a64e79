theorem cm1_32 : ∀ a ∈ wsCV RX1 32 RX6 yX6_clear cX6_clear 1 none, a ∈ GW := by
  unfold wsCV
  exact (List.forall_mem_cons.mpr ⟨(gw_3 (i := 194) (by decide +kernel) rfl), (List.forall_mem_cons.mpr ⟨(gw_3 (i := 195) (by decide +kernel) rfl), (List.forall_mem_cons.mpr ⟨(gw_3 (i := 196) (by decide +kernel) rfl), (List.forall_mem_cons.mpr ⟨(gw_1 (i := 6) (by decide +kernel) rfl), (List.forall_mem_cons.mpr ⟨(gw_3 (i := 197) (by decide +kernel) rfl), (List.forall_mem_nil _)⟩)⟩)⟩)⟩)⟩)
theorem cm1_46 : ∀ a ∈ wsCV RX1 46 RX1 yX1_fold cX1_fold 6 (some .int), a ∈ GW := by
  unfold wsCV
  exact (List.forall_mem_cons.mpr ⟨(gw_3 (i := 199) (by decide +kernel) rfl), (List.forall_mem_cons.mpr ⟨(gw_3 (i := 201) (by decide +kernel) rfl), (List.forall_mem_cons.mpr ⟨(gw_p (q := ((yX1_fold, 5) : MethodName × Nat)) (List.mem_append_right _ (List.mem_append_left _ (List.mem_of_getElem? (i := 12) (by decide +kernel)))) rfl), (List.forall_mem_cons.mpr ⟨(gw_1 (i := 5) (by decide +kernel) rfl), (List.forall_mem_cons.mpr ⟨(gw_3 (i := 202) (by decide +kernel) rfl), (List.forall_mem_nil _)⟩)⟩)⟩)⟩)⟩)
theorem cm1_53 : ∀ a ∈ wsCV RX1 53 RX1 yX1_firstLike cX1_firstLike 3 (some .int), a ∈ GW := by
  unfold wsCV
  exact (List.forall_mem_cons.mpr ⟨(gw_4 (i := 65) (by decide +kernel) rfl), (List.forall_mem_cons.mpr ⟨(gw_4 (i := 67) (by decide +kernel) rfl), (List.forall_mem_cons.mpr ⟨(gw_p (q := ((yX1_firstLike, 5) : MethodName × Nat)) (List.mem_append_right _ (List.mem_append_right _ (List.mem_append_left _ (List.mem_of_getElem? (i := 14) (by decide +kernel))))) rfl), (List.forall_mem_cons.mpr ⟨(gw_1 (i := 5) (by decide +kernel) rfl), (List.forall_mem_cons.mpr ⟨(gw_4 (i := 68) (by decide +kernel) rfl), (List.forall_mem_nil _)⟩)⟩)⟩)⟩)⟩)
theorem ok1_findClasses : okCV RX1 yX1_findClasses 2 := by unfold okCV; decide +kernel
def f1_findClasses_L9 (k57 : MuS → FoS → TrS → Option (MuS × FoS × TrS)) (N : Nat) (cs_cw : Nat → Int32) (cs_ce : Nat → Int32) (cs_cn : Nat → Int32) (cs_cj : Nat → Int32) (cs_cz : Int32) : Nat → Int32 → MuS → FoS → TrS → Option (MuS × FoS × TrS)
  | 0, _, _, _, _ => none
  | n + 1, x3, (mu_mS, mu_mK, mu_mI, mu_mC, mu_mc, mu_mA), (fo_fR, fo_fS, fo_fh, fo_fb), (tr_tK, tr_tF, tr_tS, tr_tT, tr_tO, tr_tN, tr_tc) =>
    if mu_mc < x3 then k57 (mu_mS, mu_mK, mu_mI, mu_mC, mu_mc, mu_mA) (fo_fR, fo_fS, fo_fh, fo_fb) (tr_tK, tr_tF, tr_tS, tr_tT, tr_tO, tr_tN, tr_tc) else if x3 < 0 ∨ 121 ≤ x3.toNatClampNeg then none else if x3 < 0 ∨ 121 ≤ x3.toNatClampNeg then none else (f1_fold N (mu_mS x3.toNatClampNeg) (mu_mI x3.toNatClampNeg) (cs_cw, cs_ce, cs_cn, cs_cj, cs_cz) (fo_fR, fo_fS, fo_fh, fo_fb) (tr_tK, tr_tF, tr_tS, tr_tT, tr_tO, tr_tN, tr_tc)).bind fun (r_10, (fo_fR_11, fo_fS_12, fo_fh_13, fo_fb_14), (tr_tK_15, tr_tF_16, tr_tS_17, tr_tT_18, tr_tO_19, tr_tN_20, tr_tc_21)) => if x3 < 0 ∨ 121 ≤ x3.toNatClampNeg then none else (f1_firstLike N x3 ((upd fo_fR_11 x3.toNatClampNeg r_10), fo_fS_12, fo_fh_13, fo_fb_14)).bind fun r_23 => if x3 < 0 ∨ 121 ≤ x3.toNatClampNeg then none else nm_v (x3 + (1 : Int32)) (fun v3_24 => f1_findClasses_L9 k57 N cs_cw cs_ce cs_cn cs_cj cs_cz n v3_24 (mu_mS, mu_mK, mu_mI, (upd mu_mC x3.toNatClampNeg r_23), mu_mc, mu_mA) ((upd fo_fR_11 x3.toNatClampNeg r_10), fo_fS_12, fo_fh_13, fo_fb_14) (tr_tK_15, tr_tF_16, tr_tS_17, tr_tT_18, tr_tO_19, tr_tN_20, tr_tc_21))
def f1_findClasses (N : Nat)  : CoS → MuS → FoS → TrS → Option (MuS × FoS × TrS)
  | (cs_cw, cs_ce, cs_cn, cs_cj, cs_cz), (mu_mS, mu_mK, mu_mI, mu_mC, mu_mc, mu_mA), (fo_fR, fo_fS, fo_fh, fo_fb), (tr_tK, tr_tF, tr_tS, tr_tT, tr_tO, tr_tN, tr_tc) =>
    (f6_clear (tr_tK, tr_tF, tr_tS, tr_tT, tr_tO, tr_tN, tr_tc)).bind fun (tr_tK_2, tr_tF_3, tr_tS_4, tr_tT_5, tr_tO_6, tr_tN_7, tr_tc_8) => f1_findClasses_L9 (fun (mu_mS_25, mu_mK_25, mu_mI_25, mu_mC_25, mu_mc_25, mu_mA_25) (fo_fR_25, fo_fS_25, fo_fh_25, fo_fb_25) (tr_tK_25, tr_tF_25, tr_tS_25, tr_tT_25, tr_tO_25, tr_tN_25, tr_tc_25) => some ((mu_mS_25, mu_mK_25, mu_mI_25, mu_mC_25, mu_mc_25, mu_mA_25), (fo_fR_25, fo_fS_25, fo_fh_25, fo_fb_25), (tr_tK_25, tr_tF_25, tr_tS_25, tr_tT_25, tr_tO_25, tr_tN_25, tr_tc_25))) N cs_cw cs_ce cs_cn cs_cj cs_cz N (0 : Int32) (mu_mS, mu_mK, mu_mI, mu_mC, mu_mc, mu_mA) (fo_fR, fo_fS, fo_fh, fo_fb) (tr_tK_2, tr_tF_3, tr_tS_4, tr_tT_5, tr_tO_6, tr_tN_7, tr_tc_8)
set_option maxHeartbeats 4000000 in
set_option maxRecDepth 100000 in
theorem w1_findClasses_L9 {V : EV} {p : Program} {l : Launch} {e : Env} {R : Room} {s : State} {m : MethodId} {args : Array Value} {below : List Frame} {meth : Method} {c : Code} {Q : State → Prop} {A : Nat → Prop} {kc ks : Nat} {ad : Nat → Nat} {top : TopS} {rd : RdS} {ra : Int32} {co : Nat → CoS} {ma : MaS} {mq : Nat} {mx : MxS} {cs_cw : Nat → Int32} {cs_ce : Nat → Int32} {cs_cn : Nat → Int32} {cs_cj : Nat → Int32} {cs_cz : Int32} {q : Nat} {k57 : MuS → FoS → TrS → Option (MuS × FoS × TrS)} {N : Nat} {res : MuS × FoS × TrS} (C : CX V p l R s m args c A kc ks RX1 cX1_findClasses 4 6 146) (hq : q < 4) (K : RV V p l e R s m args below meth c Q A kc ks 4 cX1_findClasses (wC V ad top rd ra (updC co q (cs_cw, cs_ce, cs_cn, cs_cj, cs_cz)) res.1 res.2.1 res.2.2 ma mq mx)) (hk57 : ∀  (mu_mS : Nat → Int32) (mu_mK : Nat → Int32) (mu_mI : Nat → Int32) (mu_mC : Nat → Int32) (mu_mc : Int32) (mu_mA : Nat → Int32) (fo_fR : Nat → Int32) (fo_fS : Nat → Int32) (fo_fh : Int32) (fo_fb : Int32) (tr_tK : Nat → Int32) (tr_tF : Nat → Int32) (tr_tS : Nat → Int32) (tr_tT : Nat → Int32) (tr_tO : Nat → Int32) (tr_tN : Nat → Int32) (tr_tc : Int32), k57 (mu_mS, mu_mK, mu_mI, mu_mC, mu_mc, mu_mA) (fo_fR, fo_fS, fo_fh, fo_fb) (tr_tK, tr_tF, tr_tS, tr_tT, tr_tO, tr_tN, tr_tc) = some res → WC V p l e R s m args below meth c Q A kc ks 4 (wC V ad top rd ra (updC co q (cs_cw, cs_ce, cs_cn, cs_cj, cs_cz)) (mu_mS, mu_mK, mu_mI, mu_mC, mu_mc, mu_mA) (fo_fR, fo_fS, fo_fh, fo_fb) (tr_tK, tr_tF, tr_tS, tr_tT, tr_tO, tr_tN, tr_tc) ma mq mx) 57 [] []) : ∀ (n : Nat) (x3 : Int32) (mu_mS : Nat → Int32) (mu_mK : Nat → Int32) (mu_mI : Nat → Int32) (mu_mC : Nat → Int32) (mu_mc : Int32) (mu_mA : Nat → Int32) (fo_fR : Nat → Int32) (fo_fS : Nat → Int32) (fo_fh : Int32) (fo_fb : Int32) (tr_tK : Nat → Int32) (tr_tF : Nat → Int32) (tr_tS : Nat → Int32) (tr_tT : Nat → Int32) (tr_tO : Nat → Int32) (tr_tN : Nat → Int32) (tr_tc : Int32), f1_findClasses_L9 k57 N cs_cw cs_ce cs_cn cs_cj cs_cz n x3 (mu_mS, mu_mK, mu_mI, mu_mC, mu_mc, mu_mA) (fo_fR, fo_fS, fo_fh, fo_fb) (tr_tK, tr_tF, tr_tS, tr_tT, tr_tO, tr_tN, tr_tc) = some res → WC V p l e R s m args below meth c Q A kc ks 4 (wC V ad top rd ra (updC co q (cs_cw, cs_ce, cs_cn, cs_cj, cs_cz)) (mu_mS, mu_mK, mu_mI, mu_mC, mu_mc, mu_mA) (fo_fR, fo_fS, fo_fh, fo_fb) (tr_tK, tr_tF, tr_tS, tr_tT, tr_tO, tr_tN, tr_tc) ma mq mx) 9 [(0, .ref (ad 25)), (1, .ref (ad (cpo q))), (2, .ref (ad 19)), (3, .int x3)] [] := by
  intro n
  induction n with
  | zero => intro _ _ _ _ _ _ _ _ _ _ _ _ _ _ _ _ _ _ hf; exact nomatch (show none = some res from hf)
  | succ n ih =>
    intro x3 mu_mS mu_mK mu_mI mu_mC mu_mc mu_mA fo_fR fo_fS fo_fh fo_fb tr_tK tr_tF tr_tS tr_tT tr_tO tr_tN tr_tc hf
    rw [f1_findClasses_L9] at hf
    refine k_iload_n C dX1_findClasses_9 3 rfl ?_
    refine k_aload_n C dX1_findClasses_10 2 rfl ?_
    refine g1_35 C dX1_findClasses_11 ?_
    refine k_icmp_gt C 57 dX1_findClasses_14 (by decide) (fun hc => ?_) (fun hc => ?_)
    · replace hf := (if_pos hc).symm.trans hf
      refine k_sub [] (L' := []) rfl ?_
      exact hk57 _ _ _ _ _ _ _ _ _ _ _ _ _ _ _ _ _ hf
    · replace hf := (if_neg hc).symm.trans hf
      refine k_aload_n C dX1_findClasses_17 0 rfl ?_
      refine g1_18 C dX1_findClasses_18 ?_
      refine k_iload_n C dX1_findClasses_21 3 rfl ?_
      refine k_aload_n C dX1_findClasses_22 0 rfl ?_
      refine k_aload_n C dX1_findClasses_23 1 rfl ?_
      refine k_aload_n C dX1_findClasses_24 2 rfl ?_
      refine g1_40 C dX1_findClasses_25 ?_
      refine k_iload_n C dX1_findClasses_28 3 rfl ?_
      obtain ⟨hi, hf⟩ := gd_no hf
      refine lc20 C hi dX1_findClasses_29 ?_
      refine k_aload_n C dX1_findClasses_30 2 rfl ?_
      refine g1_43 C dX1_findClasses_31 ?_
      refine k_iload_n C dX1_findClasses_34 3 rfl ?_
      obtain ⟨hi, hf⟩ := gd_no hf
      refine lc22 C hi dX1_findClasses_35 ?_
      obtain ⟨⟨r_10, ⟨fo_fR_11, fo_fS_12, fo_fh_13, fo_fb_14⟩, ⟨tr_tK_15, tr_tF_16, tr_tS_17, tr_tT_18, tr_tO_19, tr_tN_20, tr_tc_21⟩⟩, hq_9, hf⟩ := ob_el hf
      dsimp only at hf
      refine k_callVi C (c1_fold C.2.2.2.2.2.2.2.2.2.1 hq hq_9) cm1_46 ok1_fold (by decide) 25 rfl rfl rfl rfl (Nat.le_of_ble_eq_true rfl) dX1_findClasses_36 ?_
      obtain ⟨hi, hf⟩ := gd_no hf
      refine sc33 C hi dX1_findClasses_39 ?_
      refine k_aload_n C dX1_findClasses_40 2 rfl ?_
      refine g1_50 C dX1_findClasses_41 ?_
      refine k_iload_n C dX1_findClasses_44 3 rfl ?_
      refine k_aload_n C dX1_findClasses_45 0 rfl ?_
      refine k_iload_n C dX1_findClasses_46 3 rfl ?_
      obtain ⟨r_23, hq_22, hf⟩ := ob_el hf
      refine k_callVi C (c1_firstLike C.2.2.2.2.2.2.2.2.2.1 hq_22) cm1_53 ok1_firstLike (by decide) 25 rfl rfl rfl rfl (Nat.le_of_ble_eq_true rfl) dX1_findClasses_47 ?_
      obtain ⟨hi, hf⟩ := gd_no hf
      refine sc23 C hi dX1_findClasses_50 ?_
      obtain ⟨v3_24, ev3_24⟩ : ∃ y : Int32, y = x3 + (1 : Int32) := ⟨_, rfl⟩
      replace hf := nm_el hf ev3_24
      refine k_iinc (v := v3_24) C dX1_findClasses_51 3 rfl (by rw [ev3_24]; rfl) [(3, .int v3_24), (0, .ref (ad 25)), (1, .ref (ad (cpo q))), (2, .ref (ad 19))] (by decide) rfl ?_
      refine k_goto C 9 dX1_findClasses_54 (by decide) ?_
      refine k_sub [1, 2, 3, 0] (L' := [(0, .ref (ad 25)), (1, .ref (ad (cpo q))), (2, .ref (ad 19)), (3, .int v3_24)]) rfl ?_
      exact ih _ _ _ _ _ _ _ _ _ _ _ _ _ _ _ _ _ _ hf
set_option maxHeartbeats 4000000 in
set_option maxRecDepth 100000 in
theorem b1_findClasses {V : EV} {p : Program} {l : Launch} {e : Env} {R : Room} {s : State} {m : MethodId} {args : Array Value} {below : List Frame} {meth : Method} {c : Code} {Q : State → Prop} {A : Nat → Prop} {kc ks : Nat} {ad : Nat → Nat} {top : TopS} {rd : RdS} {ra : Int32} {co : Nat → CoS} {ma : MaS} {mq : Nat} {mx : MxS} {cs_cw : Nat → Int32} {cs_ce : Nat → Int32} {cs_cn : Nat → Int32} {cs_cj : Nat → Int32} {cs_cz : Int32} {q : Nat} {mu_mS : Nat → Int32} {mu_mK : Nat → Int32} {mu_mI : Nat → Int32} {mu_mC : Nat → Int32} {mu_mc : Int32} {mu_mA : Nat → Int32} {fo_fR : Nat → Int32} {fo_fS : Nat → Int32} {fo_fh : Int32} {fo_fb : Int32} {tr_tK : Nat → Int32} {tr_tF : Nat → Int32} {tr_tS : Nat → Int32} {tr_tT : Nat → Int32} {tr_tO : Nat → Int32} {tr_tN : Nat → Int32} {tr_tc : Int32} {N : Nat} {res : MuS × FoS × TrS} (C : CX V p l R s m args c A kc ks RX1 cX1_findClasses 4 6 146) (hq : q < 4) (hf : f1_findClasses N (cs_cw, cs_ce, cs_cn, cs_cj, cs_cz) (mu_mS, mu_mK, mu_mI, mu_mC, mu_mc, mu_mA) (fo_fR, fo_fS, fo_fh, fo_fb) (tr_tK, tr_tF, tr_tS, tr_tT, tr_tO, tr_tN, tr_tc) = some res) (K : RV V p l e R s m args below meth c Q A kc ks 4 cX1_findClasses (wC V ad top rd ra (updC co q (cs_cw, cs_ce, cs_cn, cs_cj, cs_cz)) res.1 res.2.1 res.2.2 ma mq mx)) : WC V p l e R s m args below meth c Q A kc ks 4 (wC V ad top rd ra (updC co q (cs_cw, cs_ce, cs_cn, cs_cj, cs_cz)) (mu_mS, mu_mK, mu_mI, mu_mC, mu_mc, mu_mA) (fo_fR, fo_fS, fo_fh, fo_fb) (tr_tK, tr_tF, tr_tS, tr_tT, tr_tO, tr_tN, tr_tc) ma mq mx) 0 [(0, .ref (ad 25)), (1, .ref (ad (cpo q))), (2, .ref (ad 19))] [] := by
  rw [f1_findClasses] at hf
  refine k_aload_n C dX1_findClasses_0 0 rfl ?_
  refine g1_12 C dX1_findClasses_1 ?_
  obtain ⟨⟨tr_tK_2, tr_tF_3, tr_tS_4, tr_tT_5, tr_tO_6, tr_tN_7, tr_tc_8⟩, hq_1, hf⟩ := ob_el hf
  dsimp only at hf
  refine k_callVv C (c6_clear C.2.2.2.2.2.2.2.2.2.1 hq_1) cm1_32 ok6_clear (by decide) 26 rfl rfl rfl rfl (Nat.le_of_ble_eq_true rfl) dX1_findClasses_4 ?_
  refine k_iconst (v := (0 : Int32)) C dX1_findClasses_7 (by decide) ?_
  refine k_istore_n C dX1_findClasses_8 [(3, .int (0 : Int32)), (0, .ref (ad 25)), (1, .ref (ad (cpo q))), (2, .ref (ad 19))] (by decide) rfl ?_
  refine k_sub [1, 2, 3, 0] (L' := [(0, .ref (ad 25)), (1, .ref (ad (cpo q))), (2, .ref (ad 19)), (3, .int (0 : Int32))]) rfl ?_
  refine w1_findClasses_L9 C hq K ?_ _ _ _ _ _ _ _ _ _ _ _ _ _ _ _ _ _ _ _ hf
  · intro mu_mS_25 mu_mK_25 mu_mI_25 mu_mC_25 mu_mc_25 mu_mA_25 fo_fR_25 fo_fS_25 fo_fh_25 fo_fb_25 tr_tK_25 tr_tF_25 tr_tS_25 tr_tT_25 tr_tO_25 tr_tN_25 tr_tc_25 hf
    try dsimp only at hf
    cases hf
    exact K _ _ dX1_findClasses_57
theorem c1_findClasses {V : EV} {l : Launch} (hl0 : l.stackTraces = false) {ad : Nat → Nat} {top : TopS} {rd : RdS} {ra : Int32} {co : Nat → CoS} {ma : MaS} {mq : Nat} {mx : MxS} {cs_cw : Nat → Int32} {cs_ce : Nat → Int32} {cs_cn : Nat → Int32} {cs_cj : Nat → Int32} {cs_cz : Int32} {q : Nat} {mu_mS : Nat → Int32} {mu_mK : Nat → Int32} {mu_mI : Nat → Int32} {mu_mC : Nat → Int32} {mu_mc : Int32} {mu_mA : Nat → Int32} {fo_fR : Nat → Int32} {fo_fS : Nat → Int32} {fo_fh : Int32} {fo_fb : Int32} {tr_tK : Nat → Int32} {tr_tF : Nat → Int32} {tr_tS : Nat → Int32} {tr_tT : Nat → Int32} {tr_tO : Nat → Int32} {tr_tN : Nat → Int32} {tr_tc : Int32} {N : Nat} {res : MuS × FoS × TrS} (hq : q < 4) (hf : f1_findClasses N (cs_cw, cs_ce, cs_cn, cs_cj, cs_cz) (mu_mS, mu_mK, mu_mI, mu_mC, mu_mc, mu_mA) (fo_fR, fo_fS, fo_fh, fo_fb) (tr_tK, tr_tF, tr_tS, tr_tT, tr_tO, tr_tN, tr_tc) = some res) : MV V l yX1_findClasses cX1_findClasses 4 6 146 [.ref (ad 25), .ref (ad (cpo q)), .ref (ad 19)] (wC V ad top rd ra (updC co q (cs_cw, cs_ce, cs_cn, cs_cj, cs_cz)) (mu_mS, mu_mK, mu_mI, mu_mC, mu_mc, mu_mA) (fo_fR, fo_fS, fo_fh, fo_fb) (tr_tK, tr_tF, tr_tS, tr_tT, tr_tO, tr_tN, tr_tc) ma mq mx) (wC V ad top rd ra (updC co q (cs_cw, cs_ce, cs_cn, cs_cj, cs_cz)) res.1 res.2.1 res.2.2 ma mq mx) :=
  mv_of hl0 (by decide +kernel) (Nat.le_of_ble_eq_true rfl) (fun p e R s m args below meth c Q A C K => b1_findClasses C hq hf K)

theorem ok3_forgetTests : okCV RX3 yX3_forgetTests 0 := by unfold okCV; decide +kernel
def f3_forgetTests  : MxS → Option (MxS)
  | (mx_xN, mx_xM, mx_xS, mx_xK, mx_xX, mx_xY) =>
    some ((0 : Int32), (0 : Int32), mx_xS, mx_xK, mx_xX, mx_xY)
set_option maxHeartbeats 4000000 in
set_option maxRecDepth 100000 in
theorem b3_forgetTests {V : EV} {p : Program} {l : Launch} {e : Env} {R : Room} {s : State} {m : MethodId} {args : Array Value} {below : List Frame} {meth : Method} {c : Code} {Q : State → Prop} {A : Nat → Prop} {kc ks : Nat} {ad : Nat → Nat} {top : TopS} {rd : RdS} {ra : Int32} {co : Nat → CoS} {mu : MuS} {fo : FoS} {tr : TrS} {ma : MaS} {mq : Nat} {mx_xN : Int32} {mx_xM : Int32} {mx_xS : Nat → Int64} {mx_xK : Nat → Int32} {mx_xX : Nat → Int32} {mx_xY : Nat → Int32} {res : MxS} (C : CX V p l R s m args c A kc ks RX3 cX3_forgetTests 1 0 0) (hf : f3_forgetTests (mx_xN, mx_xM, mx_xS, mx_xK, mx_xX, mx_xY) = some res) (K : RV V p l e R s m args below meth c Q A kc ks 1 cX3_forgetTests (wC V ad top rd ra co mu fo tr ma mq res)) : WC V p l e R s m args below meth c Q A kc ks 1 (wC V ad top rd ra co mu fo tr ma mq (mx_xN, mx_xM, mx_xS, mx_xK, mx_xX, mx_xY)) 0 [(0, .ref (ad 43))] [] := by
  rw [f3_forgetTests] at hf
  refine k_aload_n C dX3_forgetTests_0 0 rfl ?_
  refine k_iconst (v := (0 : Int32)) C dX3_forgetTests_1 (by decide) ?_
  refine p3_9 C dX3_forgetTests_2 ?_
  refine k_aload_n C dX3_forgetTests_5 0 rfl ?_
  refine k_iconst (v := (0 : Int32)) C dX3_forgetTests_6 (by decide) ?_
  refine p3_15 C (Or.inl rfl) dX3_forgetTests_7 ?_
  cases hf
  exact K _ _ dX3_forgetTests_10
theorem c3_forgetTests {V : EV} {l : Launch} (hl0 : l.stackTraces = false) {ad : Nat → Nat} {top : TopS} {rd : RdS} {ra : Int32} {co : Nat → CoS} {mu : MuS} {fo : FoS} {tr : TrS} {ma : MaS} {mq : Nat} {mx_xN : Int32} {mx_xM : Int32} {mx_xS : Nat → Int64} {mx_xK : Nat → Int32} {mx_xX : Nat → Int32} {mx_xY : Nat → Int32} {res : MxS} (hf : f3_forgetTests (mx_xN, mx_xM, mx_xS, mx_xK, mx_xX, mx_xY) = some res) : MV V l yX3_forgetTests cX3_forgetTests 1 0 0 [.ref (ad 43)] (wC V ad top rd ra co mu fo tr ma mq (mx_xN, mx_xM, mx_xS, mx_xK, mx_xX, mx_xY)) (wC V ad top rd ra co mu fo tr ma mq res) :=
  mv_of hl0 (by decide +kernel) (Nat.le_of_ble_eq_true rfl) (fun p e R s m args below meth c Q A C K => b3_forgetTests C hf K)

theorem ok3_addTest : okCV RX3 yX3_addTest 2 := by unfold okCV; decide +kernel
def f3_addTest (v1 : Int32) (v2 : Int32) : MxS → Option (Int32 × MxS)
  | (mx_xN, mx_xM, mx_xS, mx_xK, mx_xX, mx_xY) =>
    if mx_xN < 0 ∨ 8 ≤ mx_xN.toNatClampNeg then none else if mx_xN < 0 ∨ 8 ≤ mx_xN.toNatClampNeg then none else some (((mx_xN + (1 : Int32)) - (1 : Int32)), ((mx_xN + (1 : Int32)), (0 : Int32), mx_xS, mx_xK, (upd mx_xX mx_xN.toNatClampNeg v1), (upd mx_xY mx_xN.toNatClampNeg v2)))
set_option maxHeartbeats 4000000 in
set_option maxRecDepth 100000 in
theorem b3_addTest {V : EV} {p : Program} {l : Launch} {e : Env} {R : Room} {s : State} {m : MethodId} {args : Array Value} {below : List Frame} {meth : Method} {c : Code} {Q : State → Prop} {A : Nat → Prop} {kc ks : Nat} {ad : Nat → Nat} {top : TopS} {rd : RdS} {ra : Int32} {co : Nat → CoS} {mu : MuS} {fo : FoS} {tr : TrS} {ma : MaS} {mq : Nat} {v1 : Int32} {v2 : Int32} {mx_xN : Int32} {mx_xM : Int32} {mx_xS : Nat → Int64} {mx_xK : Nat → Int32} {mx_xX : Nat → Int32} {mx_xY : Nat → Int32} {res : Int32 × MxS} (C : CX V p l R s m args c A kc ks RX3 cX3_addTest 3 0 0) (hf : f3_addTest v1 v2 (mx_xN, mx_xM, mx_xS, mx_xK, mx_xX, mx_xY) = some res) (K : RI V p l e R s m args below meth c Q A kc ks 3 cX3_addTest .int res.1 (wC V ad top rd ra co mu fo tr ma mq res.2)) : WC V p l e R s m args below meth c Q A kc ks 3 (wC V ad top rd ra co mu fo tr ma mq (mx_xN, mx_xM, mx_xS, mx_xK, mx_xX, mx_xY)) 0 [(0, .ref (ad 43)), (1, .int v1), (2, .int v2)] [] := by
  rw [f3_addTest] at hf
  refine k_aload_n C dX3_addTest_0 0 rfl ?_
  refine g3_27 C dX3_addTest_1 ?_
  refine k_aload_n C dX3_addTest_4 0 rfl ?_
  refine g3_9 C dX3_addTest_5 ?_
  refine k_iload_n C dX3_addTest_8 1 rfl ?_
  obtain ⟨hi, hf⟩ := gd_no hf
  refine sc46 C hi dX3_addTest_9 ?_
  refine k_aload_n C dX3_addTest_10 0 rfl ?_
  refine g3_30 C dX3_addTest_11 ?_
  refine k_aload_n C dX3_addTest_14 0 rfl ?_
  refine g3_9 C dX3_addTest_15 ?_
  refine k_iload_n C dX3_addTest_18 2 rfl ?_
  obtain ⟨hi, hf⟩ := gd_no hf
  refine sc47 C hi dX3_addTest_19 ?_
  refine k_aload_n C dX3_addTest_20 0 rfl ?_
  refine k_dup C dX3_addTest_21 rfl ?_
  refine g3_9 C dX3_addTest_22 ?_
  refine k_iconst (v := (1 : Int32)) C dX3_addTest_25 (by decide) ?_
  refine k_iadd C dX3_addTest_26 ?_
  refine p3_9 C dX3_addTest_27 ?_
  refine k_aload_n C dX3_addTest_30 0 rfl ?_
  refine k_iconst (v := (0 : Int32)) C dX3_addTest_31 (by decide) ?_
  refine p3_15 C (Or.inl rfl) dX3_addTest_32 ?_
  refine k_aload_n C dX3_addTest_35 0 rfl ?_
  refine g3_9 C dX3_addTest_36 ?_
  refine k_iconst (v := (1 : Int32)) C dX3_addTest_39 (by decide) ?_
  refine k_isub C dX3_addTest_40 ?_
  cases hf
  exact K _ _ dX3_addTest_41 rfl
theorem c3_addTest {V : EV} {l : Launch} (hl0 : l.stackTraces = false) {ad : Nat → Nat} {top : TopS} {rd : RdS} {ra : Int32} {co : Nat → CoS} {mu : MuS} {fo : FoS} {tr : TrS} {ma : MaS} {mq : Nat} {v1 : Int32} {v2 : Int32} {mx_xN : Int32} {mx_xM : Int32} {mx_xS : Nat → Int64} {mx_xK : Nat → Int32} {mx_xX : Nat → Int32} {mx_xY : Nat → Int32} {res : Int32 × MxS} (hf : f3_addTest v1 v2 (mx_xN, mx_xM, mx_xS, mx_xK, mx_xX, mx_xY) = some res) : MI V l yX3_addTest cX3_addTest 3 .int 0 0 [.ref (ad 43), .int v1, .int v2] (wC V ad top rd ra co mu fo tr ma mq (mx_xN, mx_xM, mx_xS, mx_xK, mx_xX, mx_xY)) res.1 (wC V ad top rd ra co mu fo tr ma mq res.2) :=
  mi_of hl0 (by decide +kernel) (Nat.le_of_ble_eq_true rfl) (fun p e R s m args below meth c Q A C K => b3_addTest C hf K)

theorem nw3_67 : (RX3, 67, yX7_holds) ∈ nwl := by decide +kernel
theorem cn7_holds : ∀ a ∈ wsCN yX7_holds cX7_holds 3 (some .boolean), a ∈ GW := by
  unfold wsCN
  exact (List.forall_mem_cons.mpr ⟨(gw_4 (i := 199) (by decide +kernel) rfl), (List.forall_mem_cons.mpr ⟨(gw_1 (i := 1) (by decide +kernel) rfl), (List.forall_mem_cons.mpr ⟨(gw_4 (i := 200) (by decide +kernel) rfl), (List.forall_mem_nil _)⟩)⟩)⟩)
theorem cm3_43 : ∀ a ∈ wsCV RX3 43 RX2 yX2_execute cX2_execute 8 (some .int), a ∈ GW := by
  unfold wsCV
  exact (List.forall_mem_cons.mpr ⟨(gw_4 (i := 193) (by decide +kernel) rfl), (List.forall_mem_cons.mpr ⟨(gw_4 (i := 129) (by decide +kernel) rfl), (List.forall_mem_cons.mpr ⟨(gw_4 (i := 130) (by decide +kernel) rfl), (List.forall_mem_cons.mpr ⟨(gw_1 (i := 7) (by decide +kernel) rfl), (List.forall_mem_cons.mpr ⟨(gw_4 (i := 131) (by decide +kernel) rfl), (List.forall_mem_nil _)⟩)⟩)⟩)⟩)⟩)
theorem cm3_60 : ∀ a ∈ wsCV RX3 60 RX4 yX4_isNamesake cX4_isNamesake 2 (some .boolean), a ∈ GW := by
  unfold wsCV
  exact (List.forall_mem_cons.mpr ⟨(gw_4 (i := 194) (by decide +kernel) rfl), (List.forall_mem_cons.mpr ⟨(gw_4 (i := 195) (by decide +kernel) rfl), (List.forall_mem_cons.mpr ⟨(gw_4 (i := 196) (by decide +kernel) rfl), (List.forall_mem_cons.mpr ⟨(gw_1 (i := 4) (by decide +kernel) rfl), (List.forall_mem_cons.mpr ⟨(gw_4 (i := 197) (by decide +kernel) rfl), (List.forall_mem_nil _)⟩)⟩)⟩)⟩)⟩)
theorem ok3_runMutants : okCV RX3 yX3_runMutants 5 := by unfold okCV; decide +kernel
def f3_runMutants_L138 (k48 : Int32 → Int32 → Int32 → Int32 → Int32 → Int32 → MaS → MxS → Option (Int32 × MaS × MxS)) (N : Nat) (cs_cw : Nat → Int32) (cs_ce : Nat → Int32) (cs_cn : Nat → Int32) (cs_cj : Nat → Int32) (cs_cz : Int32) (mu_mS : Nat → Int32) (mu_mK : Nat → Int32) (mu_mI : Nat → Int32) (mu_mC : Nat → Int32) (mu_mc : Int32) (mu_mA : Nat → Int32) : Int32 → Int32 → Int32 → Int32 → Int32 → Int32 → MaS → MxS → Option (Int32 × MaS × MxS)
  | x1, x5, x6, x7, x8, x9, (ma_aR, ma_aB, ma_aL, ma_aS, ma_aV, ma_aH, ma_aP, ma_aO, ma_aT, ma_aC, ma_aI), (mx_xN, mx_xM, mx_xS, mx_xK, mx_xX, mx_xY) =>
    if x9 < 0 ∨ 121 ≤ x9.toNatClampNeg then none else if x9 < 0 ∨ 121 ≤ x9.toNatClampNeg then none else nm_v (x8 + (1 : Int32)) (fun v8_33 => nm_v (x9 + (1 : Int32)) (fun v9_34 => k48 x1 x5 x6 x7 v8_33 v9_34 (ma_aR, ma_aB, ma_aL, ma_aS, ma_aV, ma_aH, ma_aP, ma_aO, ma_aT, ma_aC, ma_aI) (mx_xN, mx_xM, mx_xS, (upd mx_xK x9.toNatClampNeg ((mx_xK x9.toNatClampNeg) ||| ((1 : Int32) <<< (x1 &&& 31)))), mx_xX, mx_xY)))

def f3_runMutants_L48 (k160 : Int32 → MaS → MxS → Option (Int32 × MaS × MxS)) (N : Nat) (cs_cw : Nat → Int32) (cs_ce : Nat → Int32) (cs_cn : Nat → Int32) (cs_cj : Nat → Int32) (cs_cz : Int32) (mu_mS : Nat → Int32) (mu_mK : Nat → Int32) (mu_mI : Nat → Int32) (mu_mC : Nat → Int32) (mu_mc : Int32) (mu_mA : Nat → Int32) : Nat → Int32 → Int32 → Int32 → Int32 → Int32 → Int32 → MaS → MxS → Option (Int32 × MaS × MxS)
  | 0, _, _, _, _, _, _, _, _ => none
  | n + 1, x1, x5, x6, x7, x8, x9, (ma_aR, ma_aB, ma_aL, ma_aS, ma_aV, ma_aH, ma_aP, ma_aO, ma_aT, ma_aC, ma_aI), (mx_xN, mx_xM, mx_xS, mx_xK, mx_xX, mx_xY) =>
    if mu_mc < x9 then k160 x8 (ma_aR, ma_aB, ma_aL, ma_aS, ma_aV, ma_aH, ma_aP, ma_aO, ma_aT, ma_aC, ma_aI) (mx_xN, mx_xM, mx_xS, mx_xK, mx_xX, mx_xY) else (f4_isNamesake x9 (mu_mS, mu_mK, mu_mI, mu_mC, mu_mc, mu_mA)).bind fun r_15 => if r_15 = 0 then nm_v (x9 + (1 : Int32)) (fun v9_16 => f3_runMutants_L48 k160 N cs_cw cs_ce cs_cn cs_cj cs_cz mu_mS mu_mK mu_mI mu_mC mu_mc mu_mA n x1 x5 x6 x7 x8 v9_16 (ma_aR, ma_aB, ma_aL, ma_aS, ma_aV, ma_aH, ma_aP, ma_aO, ma_aT, ma_aC, ma_aI) (mx_xN, mx_xM, mx_xS, mx_xK, mx_xX, mx_xY)) else if x1 < 0 ∨ 8 ≤ x1.toNatClampNeg then none else if x9 < 0 ∨ 121 ≤ x9.toNatClampNeg then none else (f7_holds (mx_xS x1.toNatClampNeg) (mu_mS x9.toNatClampNeg)).bind fun r_18 => if r_18 = 0 then nm_v (x9 + (1 : Int32)) (fun v9_19 => f3_runMutants_L48 k160 N cs_cw cs_ce cs_cn cs_cj cs_cz mu_mS mu_mK mu_mI mu_mC mu_mc mu_mA n x1 x5 x6 x7 x8 v9_19 (ma_aR, ma_aB, ma_aL, ma_aS, ma_aV, ma_aH, ma_aP, ma_aO, ma_aT, ma_aC, ma_aI) (mx_xN, mx_xM, mx_xS, mx_xK, mx_xX, mx_xY)) else if x9 < 0 ∨ 121 ≤ x9.toNatClampNeg then none else if x9 < 0 ∨ 121 ≤ x9.toNatClampNeg then none else if x1 < 0 ∨ 8 ≤ x1.toNatClampNeg then none else if x1 < 0 ∨ 8 ≤ x1.toNatClampNeg then none else (f2_execute N (mu_mS x9.toNatClampNeg) (mu_mI x9.toNatClampNeg) (mx_xX x1.toNatClampNeg) (mx_xY x1.toNatClampNeg) x5 (cs_cw, cs_ce, cs_cn, cs_cj, cs_cz) (ma_aR, ma_aB, ma_aL, ma_aS, ma_aV, ma_aH, ma_aP, ma_aO, ma_aT, ma_aC, ma_aI)).bind fun (r_21, (ma_aR_22, ma_aB_23, ma_aL_24, ma_aS_25, ma_aV_26, ma_aH_27, ma_aP_28, ma_aO_29, ma_aT_30, ma_aC_31, ma_aI_32)) => if r_21 = x6 then if ma_aR_22 = x7 then nm_v (x8 + (1 : Int32)) (fun v8_35 => nm_v (x9 + (1 : Int32)) (fun v9_36 => f3_runMutants_L48 k160 N cs_cw cs_ce cs_cn cs_cj cs_cz mu_mS mu_mK mu_mI mu_mC mu_mc mu_mA n x1 x5 x6 x7 v8_35 v9_36 (ma_aR_22, ma_aB_23, ma_aL_24, ma_aS_25, ma_aV_26, ma_aH_27, ma_aP_28, ma_aO_29, ma_aT_30, ma_aC_31, ma_aI_32) (mx_xN, mx_xM, mx_xS, mx_xK, mx_xX, mx_xY))) else f3_runMutants_L138 (fun x1_ x5_ x6_ x7_ x8_ x9_ c_ma c_mx => f3_runMutants_L48 k160 N cs_cw cs_ce cs_cn cs_cj cs_cz mu_mS mu_mK mu_mI mu_mC mu_mc mu_mA n x1_ x5_ x6_ x7_ x8_ x9_ c_ma c_mx) N cs_cw cs_ce cs_cn cs_cj cs_cz mu_mS mu_mK mu_mI mu_mC mu_mc mu_mA x1 x5 x6 x7 x8 x9 (ma_aR_22, ma_aB_23, ma_aL_24, ma_aS_25, ma_aV_26, ma_aH_27, ma_aP_28, ma_aO_29, ma_aT_30, ma_aC_31, ma_aI_32) (mx_xN, mx_xM, mx_xS, mx_xK, mx_xX, mx_xY) else f3_runMutants_L138 (fun x1_ x5_ x6_ x7_ x8_ x9_ c_ma c_mx => f3_runMutants_L48 k160 N cs_cw cs_ce cs_cn cs_cj cs_cz mu_mS mu_mK mu_mI mu_mC mu_mc mu_mA n x1_ x5_ x6_ x7_ x8_ x9_ c_ma c_mx) N cs_cw cs_ce cs_cn cs_cj cs_cz mu_mS mu_mK mu_mI mu_mC mu_mc mu_mA x1 x5 x6 x7 x8 x9 (ma_aR_22, ma_aB_23, ma_aL_24, ma_aS_25, ma_aV_26, ma_aH_27, ma_aP_28, ma_aO_29, ma_aT_30, ma_aC_31, ma_aI_32) (mx_xN, mx_xM, mx_xS, mx_xK, mx_xX, mx_xY)
def f3_runMutants (N : Nat) (v1 : Int32) (v5 : Int32) : CoS → MuS → MaS → MxS → Option (Int32 × MaS × MxS)
  | (cs_cw, cs_ce, cs_cn, cs_cj, cs_cz), (mu_mS, mu_mK, mu_mI, mu_mC, mu_mc, mu_mA), (ma_aR, ma_aB, ma_aL, ma_aS, ma_aV, ma_aH, ma_aP, ma_aO, ma_aT, ma_aC, ma_aI), (mx_xN, mx_xM, mx_xS, mx_xK, mx_xX, mx_xY) =>
    if v1 < 0 ∨ 8 ≤ v1.toNatClampNeg then none else if v1 < 0 ∨ 8 ≤ v1.toNatClampNeg then none else (f2_execute N (-1 : Int32) (0 : Int32) (mx_xX v1.toNatClampNeg) (mx_xY v1.toNatClampNeg) v5 (cs_cw, cs_ce, cs_cn, cs_cj, cs_cz) (ma_aR, ma_aB, ma_aL, ma_aS, ma_aV, ma_aH, ma_aP, ma_aO, ma_aT, ma_aC, ma_aI)).bind fun (r_2, (ma_aR_3, ma_aB_4, ma_aL_5, ma_aS_6, ma_aV_7, ma_aH_8, ma_aP_9, ma_aO_10, ma_aT_11, ma_aC_12, ma_aI_13)) => if v1 < 0 ∨ 8 ≤ v1.toNatClampNeg then none else f3_runMutants_L48 (fun x8_37 (ma_aR_37, ma_aB_37, ma_aL_37, ma_aS_37, ma_aV_37, ma_aH_37, ma_aP_37, ma_aO_37, ma_aT_37, ma_aC_37, ma_aI_37) (mx_xN_37, mx_xM_37, mx_xS_37, mx_xK_37, mx_xX_37, mx_xY_37) => some (x8_37, (ma_aR_37, ma_aB_37, ma_aL_37, ma_aS_37, ma_aV_37, ma_aH_37, ma_aP_37, ma_aO_37, ma_aT_37, ma_aC_37, ma_aI_37), (mx_xN_37, mx_xM_37, mx_xS_37, mx_xK_37, mx_xX_37, mx_xY_37))) N cs_cw cs_ce cs_cn cs_cj cs_cz mu_mS mu_mK mu_mI mu_mC mu_mc mu_mA N v1 v5 r_2 ma_aR_3 (0 : Int32) (1 : Int32) (ma_aR_3, ma_aB_4, ma_aL_5, ma_aS_6, ma_aV_7, ma_aH_8, ma_aP_9, ma_aO_10, ma_aT_11, ma_aC_12, ma_aI_13) (mx_xN, mx_xM, (vp_updL mx_xS v1.toNatClampNeg ma_aL_5), mx_xK, mx_xX, mx_xY)
set_option maxHeartbeats 4000000 in
set_option maxRecDepth 100000 in
theorem w3_runMutants_L138 {V : EV} {p : Program} {l : Launch} {e : Env} {R : Room} {s : State} {m : MethodId} {args : Array Value} {below : List Frame} {meth : Method} {c : Code} {Q : State → Prop} {A : Nat → Prop} {kc ks : Nat} {ad : Nat → Nat} {top : TopS} {rd : RdS} {ra : Int32} {co : Nat → CoS} {fo : FoS} {tr : TrS} {cs_cw : Nat → Int32} {cs_ce : Nat → Int32} {cs_cn : Nat → Int32} {cs_cj : Nat → Int32} {cs_cz : Int32} {mu_mS : Nat → Int32} {mu_mK : Nat → Int32} {mu_mI : Nat → Int32} {mu_mC : Nat → Int32} {mu_mc : Int32} {mu_mA : Nat → Int32} {q : Nat} {k48 : Int32 → Int32 → Int32 → Int32 → Int32 → Int32 → MaS → MxS → Option (Int32 × MaS × MxS)} {N : Nat} {res : Int32 × MaS × MxS} (C : CX V p l R s m args c A kc ks RX3 cX3_runMutants 11 4 95) (hq : q < 4) (K : RI V p l e R s m args below meth c Q A kc ks 11 cX3_runMutants .int res.1 (wC V ad top rd ra (updC co q (cs_cw, cs_ce, cs_cn, cs_cj, cs_cz)) (mu_mS, mu_mK, mu_mI, mu_mC, mu_mc, mu_mA) fo tr res.2.1 q res.2.2)) (hk48 : ∀ (x1 : Int32) (x5 : Int32) (x6 : Int32) (x7 : Int32) (x8 : Int32) (x9 : Int32) (ma_aR : Int32) (ma_aB : Int32) (ma_aL : Int64) (ma_aS : Nat → Int32) (ma_aV : Nat → Int32) (ma_aH : Int32) (ma_aP : Int32) (ma_aO : Int32) (ma_aT : Int32) (ma_aC : Int32) (ma_aI : Int32) (mx_xN : Int32) (mx_xM : Int32) (mx_xS : Nat → Int64) (mx_xK : Nat → Int32) (mx_xX : Nat → Int32) (mx_xY : Nat → Int32), k48 x1 x5 x6 x7 x8 x9 (ma_aR, ma_aB, ma_aL, ma_aS, ma_aV, ma_aH, ma_aP, ma_aO, ma_aT, ma_aC, ma_aI) (mx_xN, mx_xM, mx_xS, mx_xK, mx_xX, mx_xY) = some res → WC V p l e R s m args below meth c Q A kc ks 11 (wC V ad top rd ra (updC co q (cs_cw, cs_ce, cs_cn, cs_cj, cs_cz)) (mu_mS, mu_mK, mu_mI, mu_mC, mu_mc, mu_mA) fo tr (ma_aR, ma_aB, ma_aL, ma_aS, ma_aV, ma_aH, ma_aP, ma_aO, ma_aT, ma_aC, ma_aI) q (mx_xN, mx_xM, mx_xS, mx_xK, mx_xX, mx_xY)) 48 [(0, .ref (ad 43)), (1, .int x1), (2, .ref (ad (cpo q))), (3, .ref (ad 19)), (4, .ref (ad 35)), (5, .int x5), (6, .int x6), (7, .int x7), (8, .int x8), (9, .int x9)] []) : ∀ (x1 : Int32) (x5 : Int32) (x6 : Int32) (x7 : Int32) (x8 : Int32) (x9 : Int32) (ma_aR : Int32) (ma_aB : Int32) (ma_aL : Int64) (ma_aS : Nat → Int32) (ma_aV : Nat → Int32) (ma_aH : Int32) (ma_aP : Int32) (ma_aO : Int32) (ma_aT : Int32) (ma_aC : Int32) (ma_aI : Int32) (mx_xN : Int32) (mx_xM : Int32) (mx_xS : Nat → Int64) (mx_xK : Nat → Int32) (mx_xX : Nat → Int32) (mx_xY : Nat → Int32), f3_runMutants_L138 k48 N cs_cw cs_ce cs_cn cs_cj cs_cz mu_mS mu_mK mu_mI mu_mC mu_mc mu_mA x1 x5 x6 x7 x8 x9 (ma_aR, ma_aB, ma_aL, ma_aS, ma_aV, ma_aH, ma_aP, ma_aO, ma_aT, ma_aC, ma_aI) (mx_xN, mx_xM, mx_xS, mx_xK, mx_xX, mx_xY) = some res → WC V p l e R s m args below meth c Q A kc ks 11 (wC V ad top rd ra (updC co q (cs_cw, cs_ce, cs_cn, cs_cj, cs_cz)) (mu_mS, mu_mK, mu_mI, mu_mC, mu_mc, mu_mA) fo tr (ma_aR, ma_aB, ma_aL, ma_aS, ma_aV, ma_aH, ma_aP, ma_aO, ma_aT, ma_aC, ma_aI) q (mx_xN, mx_xM, mx_xS, mx_xK, mx_xX, mx_xY)) 138 [(0, .ref (ad 43)), (1, .int x1), (2, .ref (ad (cpo q))), (3, .ref (ad 19)), (4, .ref (ad 35)), (5, .int x5), (6, .int x6), (7, .int x7), (8, .int x8), (9, .int x9)] [] := by
  intro x1 x5 x6 x7 x8 x9 ma_aR ma_aB ma_aL ma_aS ma_aV ma_aH ma_aP ma_aO ma_aT ma_aC ma_aI mx_xN mx_xM mx_xS mx_xK mx_xX mx_xY hf
  rw [f3_runMutants_L138] at hf
  refine k_aload_n C dX3_runMutants_138 0 rfl ?_
  refine g3_23 C dX3_runMutants_139 ?_
  refine k_iload C dX3_runMutants_142 9 rfl ?_
  refine k_dup2 C dX3_runMutants_144 rfl rfl ?_
  obtain ⟨hi, hf⟩ := gd_no hf
  refine lc45 C hi dX3_runMutants_145 ?_
  refine k_iconst (v := (1 : Int32)) C dX3_runMutants_146 (by decide) ?_
  refine k_iload_n C dX3_runMutants_147 1 rfl ?_
  refine k_ishl C dX3_runMutants_148 ?_
  refine k_ior C dX3_runMutants_149 ?_
  obtain ⟨hi, hf⟩ := gd_no hf
  refine sc45 C hi dX3_runMutants_150 ?_
  obtain ⟨v8_33, ev8_33⟩ : ∃ y : Int32, y = x8 + (1 : Int32) := ⟨_, rfl⟩
  replace hf := nm_el hf ev8_33
  refine k_iinc (v := v8_33) C dX3_runMutants_151 8 rfl (by rw [ev8_33]; rfl) [(8, .int v8_33), (0, .ref (ad 43)), (1, .int x1), (2, .ref (ad (cpo q))), (3, .ref (ad 19)), (4, .ref (ad 35)), (5, .int x5), (6, .int x6), (7, .int x7), (9, .int x9)] (by decide) rfl ?_
  obtain ⟨v9_34, ev9_34⟩ : ∃ y : Int32, y = x9 + (1 : Int32) := ⟨_, rfl⟩
  replace hf := nm_el hf ev9_34
  refine k_iinc (v := v9_34) C dX3_runMutants_154 9 rfl (by rw [ev9_34]; rfl) [(9, .int v9_34), (8, .int v8_33), (0, .ref (ad 43)), (1, .int x1), (2, .ref (ad (cpo q))), (3, .ref (ad 19)), (4, .ref (ad 35)), (5, .int x5), (6, .int x6), (7, .int x7)] (by decide) rfl ?_
  refine k_goto C 48 dX3_runMutants_157 (by decide) ?_
  refine k_sub [2, 3, 4, 5, 6, 7, 8, 9, 1, 0] (L' := [(0, .ref (ad 43)), (1, .int x1), (2, .ref (ad (cpo q))), (3, .ref (ad 19)), (4, .ref (ad 35)), (5, .int x5), (6, .int x6), (7, .int x7), (8, .int v8_33), (9, .int v9_34)]) rfl ?_
  exact hk48 _ _ _ _ _ _ _ _ _ _ _ _ _ _ _ _ _ _ _ _ _ _ _ hf

set_option maxHeartbeats 4000000 in
set_option maxRecDepth 100000 in
theorem w3_runMutants_L48 {V : EV} {p : Program} {l : Launch} {e : Env} {R : Room} {s : State} {m : MethodId} {args : Array Value} {below : List Frame} {meth : Method} {c : Code} {Q : State → Prop} {A : Nat → Prop} {kc ks : Nat} {ad : Nat → Nat} {top : TopS} {rd : RdS} {ra : Int32} {co : Nat → CoS} {fo : FoS} {tr : TrS} {cs_cw : Nat → Int32} {cs_ce : Nat → Int32} {cs_cn : Nat → Int32} {cs_cj : Nat → Int32} {cs_cz : Int32} {mu_mS : Nat → Int32} {mu_mK : Nat → Int32} {mu_mI : Nat → Int32} {mu_mC : Nat → Int32} {mu_mc : Int32} {mu_mA : Nat → Int32} {q : Nat} {k160 : Int32 → MaS → MxS → Option (Int32 × MaS × MxS)} {N : Nat} {res : Int32 × MaS × MxS} (C : CX V p l R s m args c A kc ks RX3 cX3_runMutants 11 4 95) (hq : q < 4) (K : RI V p l e R s m args below meth c Q A kc ks 11 cX3_runMutants .int res.1 (wC V ad top rd ra (updC co q (cs_cw, cs_ce, cs_cn, cs_cj, cs_cz)) (mu_mS, mu_mK, mu_mI, mu_mC, mu_mc, mu_mA) fo tr res.2.1 q res.2.2)) (hk160 : ∀ (x8 : Int32) (ma_aR : Int32) (ma_aB : Int32) (ma_aL : Int64) (ma_aS : Nat → Int32) (ma_aV : Nat → Int32) (ma_aH : Int32) (ma_aP : Int32) (ma_aO : Int32) (ma_aT : Int32) (ma_aC : Int32) (ma_aI : Int32) (mx_xN : Int32) (mx_xM : Int32) (mx_xS : Nat → Int64) (mx_xK : Nat → Int32) (mx_xX : Nat → Int32) (mx_xY : Nat → Int32), k160 x8 (ma_aR, ma_aB, ma_aL, ma_aS, ma_aV, ma_aH, ma_aP, ma_aO, ma_aT, ma_aC, ma_aI) (mx_xN, mx_xM, mx_xS, mx_xK, mx_xX, mx_xY) = some res → WC V p l e R s m args below meth c Q A kc ks 11 (wC V ad top rd ra (updC co q (cs_cw, cs_ce, cs_cn, cs_cj, cs_cz)) (mu_mS, mu_mK, mu_mI, mu_mC, mu_mc, mu_mA) fo tr (ma_aR, ma_aB, ma_aL, ma_aS, ma_aV, ma_aH, ma_aP, ma_aO, ma_aT, ma_aC, ma_aI) q (mx_xN, mx_xM, mx_xS, mx_xK, mx_xX, mx_xY)) 160 [(8, .int x8)] []) : ∀ (n : Nat) (x1 : Int32) (x5 : Int32) (x6 : Int32) (x7 : Int32) (x8 : Int32) (x9 : Int32) (ma_aR : Int32) (ma_aB : Int32) (ma_aL : Int64) (ma_aS : Nat → Int32) (ma_aV : Nat → Int32) (ma_aH : Int32) (ma_aP : Int32) (ma_aO : Int32) (ma_aT : Int32) (ma_aC : Int32) (ma_aI : Int32) (mx_xN : Int32) (mx_xM : Int32) (mx_xS : Nat → Int64) (mx_xK : Nat → Int32) (mx_xX : Nat → Int32) (mx_xY : Nat → Int32), f3_runMutants_L48 k160 N cs_cw cs_ce cs_cn cs_cj cs_cz mu_mS mu_mK mu_mI mu_mC mu_mc mu_mA n x1 x5 x6 x7 x8 x9 (ma_aR, ma_aB, ma_aL, ma_aS, ma_aV, ma_aH, ma_aP, ma_aO, ma_aT, ma_aC, ma_aI) (mx_xN, mx_xM, mx_xS, mx_xK, mx_xX, mx_xY) = some res → WC V p l e R s m args below meth c Q A kc ks 11 (wC V ad top rd ra (updC co q (cs_cw, cs_ce, cs_cn, cs_cj, cs_cz)) (mu_mS, mu_mK, mu_mI, mu_mC, mu_mc, mu_mA) fo tr (ma_aR, ma_aB, ma_aL, ma_aS, ma_aV, ma_aH, ma_aP, ma_aO, ma_aT, ma_aC, ma_aI) q (mx_xN, mx_xM, mx_xS, mx_xK, mx_xX, mx_xY)) 48 [(0, .ref (ad 43)), (1, .int x1), (2, .ref (ad (cpo q))), (3, .ref (ad 19)), (4, .ref (ad 35)), (5, .int x5), (6, .int x6), (7, .int x7), (8, .int x8), (9, .int x9)] [] := by
  intro n
  induction n with
  | zero => intro _ _ _ _ _ _ _ _ _ _ _ _ _ _ _ _ _ _ _ _ _ _ _ hf; exact nomatch (show none = some res from hf)
  | succ n ih =>
    intro x1 x5 x6 x7 x8 x9 ma_aR ma_aB ma_aL ma_aS ma_aV ma_aH ma_aP ma_aO ma_aT ma_aC ma_aI mx_xN mx_xM mx_xS mx_xK mx_xX mx_xY hf
    rw [f3_runMutants_L48] at hf
    refine k_iload C dX3_runMutants_48 9 rfl ?_
    refine k_aload_n C dX3_runMutants_50 3 rfl ?_
    refine g3_55 C dX3_runMutants_51 ?_
    refine k_icmp_gt C 160 dX3_runMutants_54 (by decide) (fun hc => ?_) (fun hc => ?_)
    · replace hf := (if_pos hc).symm.trans hf
      refine k_sub [8] (L' := [(8, .int x8)]) rfl ?_
      exact hk160 _ _ _ _ _ _ _ _ _ _ _ _ _ _ _ _ _ _ hf
    · replace hf := (if_neg hc).symm.trans hf
      refine k_aload_n C dX3_runMutants_57 3 rfl ?_
      refine k_iload C dX3_runMutants_58 9 rfl ?_
      obtain ⟨r_15, hq_14, hf⟩ := ob_el hf
      refine k_callVi C (c4_isNamesake C.2.2.2.2.2.2.2.2.2.1 hq_14) cm3_60 ok4_isNamesake (by decide) 19 rfl rfl rfl rfl (Nat.le_of_ble_eq_true rfl) dX3_runMutants_60 ?_
      refine k_if_eq C 154 dX3_runMutants_63 (by decide) (fun hc => ?_) (fun hc => ?_)
      · replace hf := (if_pos hc).symm.trans hf
        obtain ⟨v9_16, ev9_16⟩ : ∃ y : Int32, y = x9 + (1 : Int32) := ⟨_, rfl⟩
        replace hf := nm_el hf ev9_16
        refine k_iinc (v := v9_16) C dX3_runMutants_154 9 rfl (by rw [ev9_16]; rfl) [(9, .int v9_16), (0, .ref (ad 43)), (1, .int x1), (2, .ref (ad (cpo q))), (3, .ref (ad 19)), (4, .ref (ad 35)), (5, .int x5), (6, .int x6), (7, .int x7), (8, .int x8)] (by decide) rfl ?_
        refine k_goto C 48 dX3_runMutants_157 (by decide) ?_
        refine k_sub [1, 2, 3, 4, 5, 6, 7, 8, 9, 0] (L' := [(0, .ref (ad 43)), (1, .int x1), (2, .ref (ad (cpo q))), (3, .ref (ad 19)), (4, .ref (ad 35)), (5, .int x5), (6, .int x6), (7, .int x7), (8, .int x8), (9, .int v9_16)]) rfl ?_
        exact ih _ _ _ _ _ _ _ _ _ _ _ _ _ _ _ _ _ _ _ _ _ _ _ hf
      · replace hf := (if_neg hc).symm.trans hf
        refine k_aload_n C dX3_runMutants_66 0 rfl ?_
        refine g3_19 C dX3_runMutants_67 ?_
        refine k_iload_n C dX3_runMutants_70 1 rfl ?_
        obtain ⟨hi, hf⟩ := gd_no hf
        refine lc44 C hi dX3_runMutants_71 ?_
        refine k_aload_n C dX3_runMutants_72 3 rfl ?_
        refine g3_64 C dX3_runMutants_73 ?_
        refine k_iload C dX3_runMutants_76 9 rfl ?_
        obtain ⟨hi, hf⟩ := gd_no hf
        refine lc20 C hi dX3_runMutants_78 ?_
        obtain ⟨r_18, hq_17, hf⟩ := ob_el hf
        refine k_callNi C (c7_holds C.2.2.2.2.2.2.2.2.2.1 hq_17) nw3_67 cn7_holds ok7_holds (by decide) rfl rfl (Nat.le_of_ble_eq_true rfl) dX3_runMutants_79 ?_
        refine k_if_eq C 154 dX3_runMutants_82 (by decide) (fun hc => ?_) (fun hc => ?_)
        · replace hf := (if_pos hc).symm.trans hf
          obtain ⟨v9_19, ev9_19⟩ : ∃ y : Int32, y = x9 + (1 : Int32) := ⟨_, rfl⟩
          replace hf := nm_el hf ev9_19
          refine k_iinc (v := v9_19) C dX3_runMutants_154 9 rfl (by rw [ev9_19]; rfl) [(9, .int v9_19), (0, .ref (ad 43)), (1, .int x1), (2, .ref (ad (cpo q))), (3, .ref (ad 19)), (4, .ref (ad 35)), (5, .int x5), (6, .int x6), (7, .int x7), (8, .int x8)] (by decide) rfl ?_
          refine k_goto C 48 dX3_runMutants_157 (by decide) ?_
          refine k_sub [1, 2, 3, 4, 5, 6, 7, 8, 9, 0] (L' := [(0, .ref (ad 43)), (1, .int x1), (2, .ref (ad (cpo q))), (3, .ref (ad 19)), (4, .ref (ad 35)), (5, .int x5), (6, .int x6), (7, .int x7), (8, .int x8), (9, .int v9_19)]) rfl ?_
          exact ih _ _ _ _ _ _ _ _ _ _ _ _ _ _ _ _ _ _ _ _ _ _ _ hf
        · replace hf := (if_neg hc).symm.trans hf
          refine k_aload C dX3_runMutants_85 4 rfl ?_
          refine k_aload_n C dX3_runMutants_87 2 rfl ?_
          refine k_aload_n C dX3_runMutants_88 3 rfl ?_
          refine g3_64 C dX3_runMutants_89 ?_
          refine k_iload C dX3_runMutants_92 9 rfl ?_
          obtain ⟨hi, hf⟩ := gd_no hf
          refine lc20 C hi dX3_runMutants_94 ?_
          refine k_aload_n C dX3_runMutants_95 3 rfl ?_
          refine g3_71 C dX3_runMutants_96 ?_
          refine k_iload C dX3_runMutants_99 9 rfl ?_
          obtain ⟨hi, hf⟩ := gd_no hf
          refine lc22 C hi dX3_runMutants_101 ?_
          refine k_aload_n C dX3_runMutants_102 0 rfl ?_
          refine g3_27 C dX3_runMutants_103 ?_
          refine k_iload_n C dX3_runMutants_106 1 rfl ?_
          obtain ⟨hi, hf⟩ := gd_no hf
          refine lc46 C hi dX3_runMutants_107 ?_
          refine k_aload_n C dX3_runMutants_108 0 rfl ?_
          refine g3_30 C dX3_runMutants_109 ?_
          refine k_iload_n C dX3_runMutants_112 1 rfl ?_
          obtain ⟨hi, hf⟩ := gd_no hf
          refine lc47 C hi dX3_runMutants_113 ?_
          refine k_iload C dX3_runMutants_114 5 rfl ?_
          obtain ⟨⟨r_21, ⟨ma_aR_22, ma_aB_23, ma_aL_24, ma_aS_25, ma_aV_26, ma_aH_27, ma_aP_28, ma_aO_29, ma_aT_30, ma_aC_31, ma_aI_32⟩⟩, hq_20, hf⟩ := ob_el hf
          dsimp only at hf
          refine k_callVi C (c2_execute C.2.2.2.2.2.2.2.2.2.1 hq hq_20) cm3_43 ok2_execute (by decide) 35 rfl rfl rfl rfl (Nat.le_of_ble_eq_true rfl) dX3_runMutants_116 ?_
          refine k_istore C dX3_runMutants_119 [(10, .int r_21), (0, .ref (ad 43)), (1, .int x1), (2, .ref (ad (cpo q))), (3, .ref (ad 19)), (4, .ref (ad 35)), (5, .int x5), (6, .int x6), (7, .int x7), (8, .int x8), (9, .int x9)] (by decide) rfl ?_
          refine k_iload C dX3_runMutants_121 0 rfl ?_
          refine k_iload C dX3_runMutants_123 7 rfl ?_
          refine k_icmp_ne C 138 dX3_runMutants_125 (by decide) (fun hc => ?_) (fun hc => ?_)
          · replace hf := (if_neg hc).symm.trans hf
            refine k_sub [1, 2, 3, 4, 5, 6, 7, 8, 9, 10] (L' := [(0, .ref (ad 43)), (1, .int x1), (2, .ref (ad (cpo q))), (3, .ref (ad 19)), (4, .ref (ad 35)), (5, .int x5), (6, .int x6), (7, .int x7), (8, .int x8), (9, .int x9)]) rfl ?_
            exact w3_runMutants_L138 C hq K ih _ _ _ _ _ _ _ _ _ _ _ _ _ _ _ _ _ _ _ _ _ _ _ hf
          · replace hf := (if_pos hc).symm.trans hf
            refine k_aload C dX3_runMutants_128 5 rfl ?_
            refine g3_49 C dX3_runMutants_130 ?_
            refine k_iload C dX3_runMutants_133 8 rfl ?_
            refine k_icmp_eq C 151 dX3_runMutants_135 (by decide) (fun hc => ?_) (fun hc => ?_)
            · replace hf := (if_pos hc).symm.trans hf
              obtain ⟨v8_35, ev8_35⟩ : ∃ y : Int32, y = x8 + (1 : Int32) := ⟨_, rfl⟩
              replace hf := nm_el hf ev8_35
              refine k_iinc (v := v8_35) C dX3_runMutants_151 9 rfl (by rw [ev8_35]; rfl) [(8, .int v8_35), (10, .int r_21), (0, .ref (ad 43)), (1, .int x1), (2, .ref (ad (cpo q))), (3, .ref (ad 19)), (4, .ref (ad 35)), (5, .int x5), (6, .int x6), (7, .int x7), (9, .int x9)] (by decide) rfl ?_
              obtain ⟨v9_36, ev9_36⟩ : ∃ y : Int32, y = x9 + (1 : Int32) := ⟨_, rfl⟩
              replace hf := nm_el hf ev9_36
              refine k_iinc (v := v9_36) C dX3_runMutants_154 10 rfl (by rw [ev9_36]; rfl) [(9, .int v9_36), (8, .int v8_35), (10, .int r_21), (0, .ref (ad 43)), (1, .int x1), (2, .ref (ad (cpo q))), (3, .ref (ad 19)), (4, .ref (ad 35)), (5, .int x5), (6, .int x6), (7, .int x7)] (by decide) rfl ?_
              refine k_goto C 48 dX3_runMutants_157 (by decide) ?_
              refine k_sub [3, 4, 5, 6, 7, 8, 9, 10, 1, 0] (L' := [(0, .ref (ad 43)), (1, .int x1), (2, .ref (ad (cpo q))), (3, .ref (ad 19)), (4, .ref (ad 35)), (5, .int x5), (6, .int x6), (7, .int x7), (8, .int v8_35), (9, .int v9_36)]) rfl ?_
              exact ih _ _ _ _ _ _ _ _ _ _ _ _ _ _ _ _ _ _ _ _ _ _ _ hf
            · replace hf := (if_neg hc).symm.trans hf
              refine k_sub [1, 2, 3, 4, 5, 6, 7, 8, 9, 10] (L' := [(0, .ref (ad 43)), (1, .int x1), (2, .ref (ad (cpo q))), (3, .ref (ad 19)), (4, .ref (ad 35)), (5, .int x5), (6, .int x6), (7, .int x7), (8, .int x8), (9, .int x9)]) rfl ?_
              exact w3_runMutants_L138 C hq K ih _ _ _ _ _ _ _ _ _ _ _ _ _ _ _ _ _ _ _ _ _ _ _ hf
set_option maxHeartbeats 4000000 in
set_option maxRecDepth 100000 in
theorem b3_runMutants {V : EV} {p : Program} {l : Launch} {e : Env} {R : Room} {s : State} {m : MethodId} {args : Array Value} {below : List Frame} {meth : Method} {c : Code} {Q : State → Prop} {A : Nat → Prop} {kc ks : Nat} {ad : Nat → Nat} {top : TopS} {rd : RdS} {ra : Int32} {co : Nat → CoS} {fo : FoS} {tr : TrS} {cs_cw : Nat → Int32} {cs_ce : Nat → Int32} {cs_cn : Nat → Int32} {cs_cj : Nat → Int32} {cs_cz : Int32} {mu_mS : Nat → Int32} {mu_mK : Nat → Int32} {mu_mI : Nat → Int32} {mu_mC : Nat → Int32} {mu_mc : Int32} {mu_mA : Nat → Int32} {mq_aq : Nat} {q : Nat} {v1 : Int32} {v5 : Int32} {ma_aR : Int32} {ma_aB : Int32} {ma_aL : Int64} {ma_aS : Nat → Int32} {ma_aV : Nat → Int32} {ma_aH : Int32} {ma_aP : Int32} {ma_aO : Int32} {ma_aT : Int32} {ma_aC : Int32} {ma_aI : Int32} {mx_xN : Int32} {mx_xM : Int32} {mx_xS : Nat → Int64} {mx_xK : Nat → Int32} {mx_xX : Nat → Int32} {mx_xY : Nat → Int32} {N : Nat} {res : Int32 × MaS × MxS} (C : CX V p l R s m args c A kc ks RX3 cX3_runMutants 11 4 95) (hq : q < 4) (hf : f3_runMutants N v1 v5 (cs_cw, cs_ce, cs_cn, cs_cj, cs_cz) (mu_mS, mu_mK, mu_mI, mu_mC, mu_mc, mu_mA) (ma_aR, ma_aB, ma_aL, ma_aS, ma_aV, ma_aH, ma_aP, ma_aO, ma_aT, ma_aC, ma_aI) (mx_xN, mx_xM, mx_xS, mx_xK, mx_xX, mx_xY) = some res) (K : RI V p l e R s m args below meth c Q A kc ks 11 cX3_runMutants .int res.1 (wC V ad top rd ra (updC co q (cs_cw, cs_ce, cs_cn, cs_cj, cs_cz)) (mu_mS, mu_mK, mu_mI, mu_mC, mu_mc, mu_mA) fo tr res.2.1 q res.2.2)) : WC V p l e R s m args below meth c Q A kc ks 11 (wC V ad top rd ra (updC co q (cs_cw, cs_ce, cs_cn, cs_cj, cs_cz)) (mu_mS, mu_mK, mu_mI, mu_mC, mu_mc, mu_mA) fo tr (ma_aR, ma_aB, ma_aL, ma_aS, ma_aV, ma_aH, ma_aP, ma_aO, ma_aT, ma_aC, ma_aI) mq_aq (mx_xN, mx_xM, mx_xS, mx_xK, mx_xX, mx_xY)) 0 [(0, .ref (ad 43)), (1, .int v1), (2, .ref (ad (cpo q))), (3, .ref (ad 19)), (4, .ref (ad 35)), (5, .int v5)] [] := by
  rw [f3_runMutants] at hf
  refine k_aload C dX3_runMutants_0 4 rfl ?_
  refine k_aload_n C dX3_runMutants_2 2 rfl ?_
  refine k_iconst (v := (-1 : Int32)) C dX3_runMutants_3 (by decide) ?_
  refine k_iconst (v := (0 : Int32)) C dX3_runMutants_4 (by decide) ?_
  refine k_aload_n C dX3_runMutants_5 0 rfl ?_
  refine g3_27 C dX3_runMutants_6 ?_
  refine k_iload_n C dX3_runMutants_9 1 rfl ?_
  obtain ⟨hi, hf⟩ := gd_no hf
  refine lc46 C hi dX3_runMutants_10 ?_
  refine k_aload_n C dX3_runMutants_11 0 rfl ?_
  refine g3_30 C dX3_runMutants_12 ?_
  refine k_iload_n C dX3_runMutants_15 1 rfl ?_
  obtain ⟨hi, hf⟩ := gd_no hf
  refine lc47 C hi dX3_runMutants_16 ?_
  refine k_iload C dX3_runMutants_17 5 rfl ?_
  obtain ⟨⟨r_2, ⟨ma_aR_3, ma_aB_4, ma_aL_5, ma_aS_6, ma_aV_7, ma_aH_8, ma_aP_9, ma_aO_10, ma_aT_11, ma_aC_12, ma_aI_13⟩⟩, hq_1, hf⟩ := ob_el hf
  dsimp only at hf
  refine k_callVi C (c2_execute C.2.2.2.2.2.2.2.2.2.1 hq hq_1) cm3_43 ok2_execute (by decide) 35 rfl rfl rfl rfl (Nat.le_of_ble_eq_true rfl) dX3_runMutants_19 ?_
  refine k_istore C dX3_runMutants_22 [(6, .int r_2), (0, .ref (ad 43)), (1, .int v1), (2, .ref (ad (cpo q))), (3, .ref (ad 19)), (4, .ref (ad 35)), (5, .int v5)] (by decide) rfl ?_
  refine k_aload C dX3_runMutants_24 5 rfl ?_
  refine g3_49 C dX3_runMutants_26 ?_
  refine k_istore C dX3_runMutants_29 [(7, .int ma_aR_3), (6, .int r_2), (0, .ref (ad 43)), (1, .int v1), (2, .ref (ad (cpo q))), (3, .ref (ad 19)), (4, .ref (ad 35)), (5, .int v5)] (by decide) rfl ?_
  refine k_aload_n C dX3_runMutants_31 2 rfl ?_
  refine g3_19 C dX3_runMutants_32 ?_
  refine k_iload_n C dX3_runMutants_35 3 rfl ?_
  refine k_aload C dX3_runMutants_36 6 rfl ?_
  refine g3_52 C dX3_runMutants_38 ?_
  obtain ⟨hi, hf⟩ := gd_no hf
  refine sc44 C hi dX3_runMutants_41 ?_
  refine k_iconst (v := (0 : Int32)) C dX3_runMutants_42 (by decide) ?_
  refine k_istore C dX3_runMutants_43 [(8, .int (0 : Int32)), (7, .int ma_aR_3), (6, .int r_2), (0, .ref (ad 43)), (1, .int v1), (2, .ref (ad (cpo q))), (3, .ref (ad 19)), (4, .ref (ad 35)), (5, .int v5)] (by decide) rfl ?_
  refine k_iconst (v := (1 : Int32)) C dX3_runMutants_45 (by decide) ?_
  refine k_istore C dX3_runMutants_46 [(9, .int (1 : Int32)), (8, .int (0 : Int32)), (7, .int ma_aR_3), (6, .int r_2), (0, .ref (ad 43)), (1, .int v1), (2, .ref (ad (cpo q))), (3, .ref (ad 19)), (4, .ref (ad 35)), (5, .int v5)] (by decide) rfl ?_
  refine k_sub [4, 5, 6, 7, 8, 9, 3, 2, 1, 0] (L' := [(0, .ref (ad 43)), (1, .int v1), (2, .ref (ad (cpo q))), (3, .ref (ad 19)), (4, .ref (ad 35)), (5, .int v5), (6, .int r_2), (7, .int ma_aR_3), (8, .int (0 : Int32)), (9, .int (1 : Int32))]) rfl ?_
  refine w3_runMutants_L48 C hq K ?_ _ _ _ _ _ _ _ _ _ _ _ _ _ _ _ _ _ _ _ _ _ _ _ _ hf
  · intro x8_37 ma_aR_37 ma_aB_37 ma_aL_37 ma_aS_37 ma_aV_37 ma_aH_37 ma_aP_37 ma_aO_37 ma_aT_37 ma_aC_37 ma_aI_37 mx_xN_37 mx_xM_37 mx_xS_37 mx_xK_37 mx_xX_37 mx_xY_37 hf
    try dsimp only at hf
    refine k_iload C dX3_runMutants_160 0 rfl ?_
    cases hf
    exact K _ _ dX3_runMutants_162 rfl
theorem c3_runMutants {V : EV} {l : Launch} (hl0 : l.stackTraces = false) {ad : Nat → Nat} {top : TopS} {rd : RdS} {ra : Int32} {co : Nat → CoS} {fo : FoS} {tr : TrS} {cs_cw : Nat → Int32} {cs_ce : Nat → Int32} {cs_cn : Nat → Int32} {cs_cj : Nat → Int32} {cs_cz : Int32} {mu_mS : Nat → Int32} {mu_mK : Nat → Int32} {mu_mI : Nat → Int32} {mu_mC : Nat → Int32} {mu_mc : Int32} {mu_mA : Nat → Int32} {mq_aq : Nat} {q : Nat} {v1 : Int32} {v5 : Int32} {ma_aR : Int32} {ma_aB : Int32} {ma_aL : Int64} {ma_aS : Nat → Int32} {ma_aV : Nat → Int32} {ma_aH : Int32} {ma_aP : Int32} {ma_aO : Int32} {ma_aT : Int32} {ma_aC : Int32} {ma_aI : Int32} {mx_xN : Int32} {mx_xM : Int32} {mx_xS : Nat → Int64} {mx_xK : Nat → Int32} {mx_xX : Nat → Int32} {mx_xY : Nat → Int32} {N : Nat} {res : Int32 × MaS × MxS} (hq : q < 4) (hf : f3_runMutants N v1 v5 (cs_cw, cs_ce, cs_cn, cs_cj, cs_cz) (mu_mS, mu_mK, mu_mI, mu_mC, mu_mc, mu_mA) (ma_aR, ma_aB, ma_aL, ma_aS, ma_aV, ma_aH, ma_aP, ma_aO, ma_aT, ma_aC, ma_aI) (mx_xN, mx_xM, mx_xS, mx_xK, mx_xX, mx_xY) = some res) : MI V l yX3_runMutants cX3_runMutants 11 .int 4 95 [.ref (ad 43), .int v1, .ref (ad (cpo q)), .ref (ad 19), .ref (ad 35), .int v5] (wC V ad top rd ra (updC co q (cs_cw, cs_ce, cs_cn, cs_cj, cs_cz)) (mu_mS, mu_mK, mu_mI, mu_mC, mu_mc, mu_mA) fo tr (ma_aR, ma_aB, ma_aL, ma_aS, ma_aV, ma_aH, ma_aP, ma_aO, ma_aT, ma_aC, ma_aI) mq_aq (mx_xN, mx_xM, mx_xS, mx_xK, mx_xX, mx_xY)) res.1 (wC V ad top rd ra (updC co q (cs_cw, cs_ce, cs_cn, cs_cj, cs_cz)) (mu_mS, mu_mK, mu_mI, mu_mC, mu_mc, mu_mA) fo tr res.2.1 q res.2.2) :=
  mi_of hl0 (by decide +kernel) (Nat.le_of_ble_eq_true rfl) (fun p e R s m args below meth c Q A C K => b3_runMutants C hq hf K)

theorem cm3_39 : ∀ a ∈ wsCV RX3 39 RX3 yX3_runMutants cX3_runMutants 11 (some .int), a ∈ GW := by
  unfold wsCV
  exact (List.forall_mem_cons.mpr ⟨(gw_4 (i := 189) (by decide +kernel) rfl), (List.forall_mem_cons.mpr ⟨(gw_4 (i := 191) (by decide +kernel) rfl), (List.forall_mem_cons.mpr ⟨(gw_p (q := ((yX3_runMutants, 6) : MethodName × Nat)) (List.mem_append_right _ (List.mem_append_right _ (List.mem_append_right _ (List.mem_append_left _ (List.mem_of_getElem? (i := 11) (by decide +kernel)))))) rfl), (List.forall_mem_cons.mpr ⟨(gw_1 (i := 8) (by decide +kernel) rfl), (List.forall_mem_cons.mpr ⟨(gw_4 (i := 192) (by decide +kernel) rfl), (List.forall_mem_nil _)⟩)⟩)⟩)⟩)⟩)
theorem cm3_33 : ∀ a ∈ wsCS RX3 33 yJ7_fill_53178 cJ7_fill_53178 4 none, a ∈ GW := by
  unfold wsCS
  exact (List.forall_mem_cons.mpr ⟨(gw_4 (i := 188) (by decide +kernel) rfl), (List.forall_mem_cons.mpr ⟨(gw_3 (i := 151) (by decide +kernel) rfl), (List.forall_mem_cons.mpr ⟨(gw_1 (i := 21) (by decide +kernel) rfl), (List.forall_mem_cons.mpr ⟨(gw_3 (i := 152) (by decide +kernel) rfl), (List.forall_mem_nil _)⟩)⟩)⟩)⟩)
theorem ok3_make : okCV RX3 yX3_make 4 := by unfold okCV; decide +kernel
def f3_make_L14 (k45 : Int32 → MaS → Nat → MxS → Option (Int32 × MaS × Nat × MxS)) (N : Nat) (q : Nat) (cs_cw : Nat → Int32) (cs_ce : Nat → Int32) (cs_cn : Nat → Int32) (cs_cj : Nat → Int32) (cs_cz : Int32) (mu_mS : Nat → Int32) (mu_mK : Nat → Int32) (mu_mI : Nat → Int32) (mu_mC : Nat → Int32) (mu_mc : Int32) (mu_mA : Nat → Int32) : Nat → Int32 → Int32 → Int32 → MaS → Nat → MxS → Option (Int32 × MaS × Nat × MxS)
  | 0, _, _, _, _, _, _ => none
  | n + 1, x4, x5, x6, (ma_aR, ma_aB, ma_aL, ma_aS, ma_aV, ma_aH, ma_aP, ma_aO, ma_aT, ma_aC, ma_aI), mq_aq, (mx_xN, mx_xM, mx_xS, mx_xK, mx_xX, mx_xY) =>
    if mx_xN ≤ x6 then k45 x5 (ma_aR, ma_aB, ma_aL, ma_aS, ma_aV, ma_aH, ma_aP, ma_aO, ma_aT, ma_aC, ma_aI) mq_aq (mx_xN, mx_xM, mx_xS, mx_xK, mx_xX, mx_xY) else (f3_runMutants N x6 x4 (cs_cw, cs_ce, cs_cn, cs_cj, cs_cz) (mu_mS, mu_mK, mu_mI, mu_mC, mu_mc, mu_mA) (ma_aR, ma_aB, ma_aL, ma_aS, ma_aV, ma_aH, ma_aP, ma_aO, ma_aT, ma_aC, ma_aI) (mx_xN, mx_xM, mx_xS, mx_xK, mx_xX, mx_xY)).bind fun (r_2, (ma_aR_3, ma_aB_4, ma_aL_5, ma_aS_6, ma_aV_7, ma_aH_8, ma_aP_9, ma_aO_10, ma_aT_11, ma_aC_12, ma_aI_13), (mx_xN_14, mx_xM_15, mx_xS_16, mx_xK_17, mx_xX_18, mx_xY_19)) => nm_v (x5 + r_2) (fun v5_20 => nm_v (x6 + (1 : Int32)) (fun v6_21 => f3_make_L14 k45 N q cs_cw cs_ce cs_cn cs_cj cs_cz mu_mS mu_mK mu_mI mu_mC mu_mc mu_mA n x4 v5_20 v6_21 (ma_aR_3, ma_aB_4, ma_aL_5, ma_aS_6, ma_aV_7, ma_aH_8, ma_aP_9, ma_aO_10, ma_aT_11, ma_aC_12, ma_aI_13) q (mx_xN_14, mx_xM_15, mx_xS_16, mx_xK_17, mx_xX_18, mx_xY_19)))
def f3_make (N : Nat) (q : Nat) (v4 : Int32) : CoS → MuS → MaS → Nat → MxS → Option (Int32 × MaS × Nat × MxS)
  | (cs_cw, cs_ce, cs_cn, cs_cj, cs_cz), (mu_mS, mu_mK, mu_mI, mu_mC, mu_mc, mu_mA), (ma_aR, ma_aB, ma_aL, ma_aS, ma_aV, ma_aH, ma_aP, ma_aO, ma_aT, ma_aC, ma_aI), mq_aq, (mx_xN, mx_xM, mx_xS, mx_xK, mx_xX, mx_xY) =>
    f3_make_L14 (fun x5_22 (ma_aR_22, ma_aB_22, ma_aL_22, ma_aS_22, ma_aV_22, ma_aH_22, ma_aP_22, ma_aO_22, ma_aT_22, ma_aC_22, ma_aI_22) mq_aq_22 (mx_xN_22, mx_xM_22, mx_xS_22, mx_xK_22, mx_xX_22, mx_xY_22) => some (x5_22, (ma_aR_22, ma_aB_22, ma_aL_22, ma_aS_22, ma_aV_22, ma_aH_22, ma_aP_22, ma_aO_22, ma_aT_22, ma_aC_22, ma_aI_22), mq_aq_22, (mx_xN_22, (1 : Int32), mx_xS_22, mx_xK_22, mx_xX_22, mx_xY_22))) N q cs_cw cs_ce cs_cn cs_cj cs_cz mu_mS mu_mK mu_mI mu_mC mu_mc mu_mA N v4 (0 : Int32) (0 : Int32) (ma_aR, ma_aB, ma_aL, ma_aS, ma_aV, ma_aH, ma_aP, ma_aO, ma_aT, ma_aC, ma_aI) mq_aq (mx_xN, mx_xM, mx_xS, (fillF mx_xK 121 (0 : Int32)), mx_xX, mx_xY)
set_option maxHeartbeats 4000000 in
set_option maxRecDepth 100000 in
theorem w3_make_L14 {V : EV} {p : Program} {l : Launch} {e : Env} {R : Room} {s : State} {m : MethodId} {args : Array Value} {below : List Frame} {meth : Method} {c : Code} {Q : State → Prop} {A : Nat → Prop} {kc ks : Nat} {ad : Nat → Nat} {top : TopS} {rd : RdS} {ra : Int32} {co : Nat → CoS} {fo : FoS} {tr : TrS} {cs_cw : Nat → Int32} {cs_ce : Nat → Int32} {cs_cn : Nat → Int32} {cs_cj : Nat → Int32} {cs_cz : Int32} {mu_mS : Nat → Int32} {mu_mK : Nat → Int32} {mu_mI : Nat → Int32} {mu_mC : Nat → Int32} {mu_mc : Int32} {mu_mA : Nat → Int32} {q : Nat} {k45 : Int32 → MaS → Nat → MxS → Option (Int32 × MaS × Nat × MxS)} {N : Nat} {res : Int32 × MaS × Nat × MxS} (C : CX V p l R s m args c A kc ks RX3 cX3_make 7 5 125) (hq : q < 4) (K : RI V p l e R s m args below meth c Q A kc ks 7 cX3_make .int res.1 (wC V ad top rd ra (updC co q (cs_cw, cs_ce, cs_cn, cs_cj, cs_cz)) (mu_mS, mu_mK, mu_mI, mu_mC, mu_mc, mu_mA) fo tr res.2.1 res.2.2.1 res.2.2.2)) (hk45 : ∀ (x5 : Int32) (ma_aR : Int32) (ma_aB : Int32) (ma_aL : Int64) (ma_aS : Nat → Int32) (ma_aV : Nat → Int32) (ma_aH : Int32) (ma_aP : Int32) (ma_aO : Int32) (ma_aT : Int32) (ma_aC : Int32) (ma_aI : Int32) (mq_aq : Nat) (mx_xN : Int32) (mx_xM : Int32) (mx_xS : Nat → Int64) (mx_xK : Nat → Int32) (mx_xX : Nat → Int32) (mx_xY : Nat → Int32), k45 x5 (ma_aR, ma_aB, ma_aL, ma_aS, ma_aV, ma_aH, ma_aP, ma_aO, ma_aT, ma_aC, ma_aI) mq_aq (mx_xN, mx_xM, mx_xS, mx_xK, mx_xX, mx_xY) = some res → WC V p l e R s m args below meth c Q A kc ks 7 (wC V ad top rd ra (updC co q (cs_cw, cs_ce, cs_cn, cs_cj, cs_cz)) (mu_mS, mu_mK, mu_mI, mu_mC, mu_mc, mu_mA) fo tr (ma_aR, ma_aB, ma_aL, ma_aS, ma_aV, ma_aH, ma_aP, ma_aO, ma_aT, ma_aC, ma_aI) mq_aq (mx_xN, mx_xM, mx_xS, mx_xK, mx_xX, mx_xY)) 45 [(0, .ref (ad 43)), (5, .int x5)] []) : ∀ (n : Nat) (x4 : Int32) (x5 : Int32) (x6 : Int32) (ma_aR : Int32) (ma_aB : Int32) (ma_aL : Int64) (ma_aS : Nat → Int32) (ma_aV : Nat → Int32) (ma_aH : Int32) (ma_aP : Int32) (ma_aO : Int32) (ma_aT : Int32) (ma_aC : Int32) (ma_aI : Int32) (mq_aq : Nat) (mx_xN : Int32) (mx_xM : Int32) (mx_xS : Nat → Int64) (mx_xK : Nat → Int32) (mx_xX : Nat → Int32) (mx_xY : Nat → Int32), f3_make_L14 k45 N q cs_cw cs_ce cs_cn cs_cj cs_cz mu_mS mu_mK mu_mI mu_mC mu_mc mu_mA n x4 x5 x6 (ma_aR, ma_aB, ma_aL, ma_aS, ma_aV, ma_aH, ma_aP, ma_aO, ma_aT, ma_aC, ma_aI) mq_aq (mx_xN, mx_xM, mx_xS, mx_xK, mx_xX, mx_xY) = some res → WC V p l e R s m args below meth c Q A kc ks 7 (wC V ad top rd ra (updC co q (cs_cw, cs_ce, cs_cn, cs_cj, cs_cz)) (mu_mS, mu_mK, mu_mI, mu_mC, mu_mc, mu_mA) fo tr (ma_aR, ma_aB, ma_aL, ma_aS, ma_aV, ma_aH, ma_aP, ma_aO, ma_aT, ma_aC, ma_aI) mq_aq (mx_xN, mx_xM, mx_xS, mx_xK, mx_xX, mx_xY)) 14 [(0, .ref (ad 43)), (1, .ref (ad (cpo q))), (2, .ref (ad 19)), (3, .ref (ad 35)), (4, .int x4), (5, .int x5), (6, .int x6)] [] := by
  intro n
  induction n with
  | zero => intro _ _ _ _ _ _ _ _ _ _ _ _ _ _ _ _ _ _ _ _ _ hf; exact nomatch (show none = some res from hf)
  | succ n ih =>
    intro x4 x5 x6 ma_aR ma_aB ma_aL ma_aS ma_aV ma_aH ma_aP ma_aO ma_aT ma_aC ma_aI mq_aq mx_xN mx_xM mx_xS mx_xK mx_xX mx_xY hf
    rw [f3_make_L14] at hf
    refine k_iload C dX3_make_14 6 rfl ?_
    refine k_aload_n C dX3_make_16 0 rfl ?_
    refine g3_9 C dX3_make_17 ?_
    refine k_icmp_ge C 45 dX3_make_20 (by decide) (fun hc => ?_) (fun hc => ?_)
    · replace hf := (if_pos hc).symm.trans hf
      refine k_sub [0, 5] (L' := [(0, .ref (ad 43)), (5, .int x5)]) rfl ?_
      exact hk45 _ _ _ _ _ _ _ _ _ _ _ _ _ _ _ _ _ _ _ hf
    · replace hf := (if_neg hc).symm.trans hf
      refine k_iload C dX3_make_23 5 rfl ?_
      refine k_aload_n C dX3_make_25 0 rfl ?_
      refine k_iload C dX3_make_26 6 rfl ?_
      refine k_aload_n C dX3_make_28 1 rfl ?_
      refine k_aload_n C dX3_make_29 2 rfl ?_
      refine k_aload_n C dX3_make_30 3 rfl ?_
      refine k_iload C dX3_make_31 4 rfl ?_
      obtain ⟨⟨r_2, ⟨ma_aR_3, ma_aB_4, ma_aL_5, ma_aS_6, ma_aV_7, ma_aH_8, ma_aP_9, ma_aO_10, ma_aT_11, ma_aC_12, ma_aI_13⟩, ⟨mx_xN_14, mx_xM_15, mx_xS_16, mx_xK_17, mx_xX_18, mx_xY_19⟩⟩, hq_1, hf⟩ := ob_el hf
      dsimp only at hf
      refine k_callVi C (c3_runMutants C.2.2.2.2.2.2.2.2.2.1 hq hq_1) cm3_39 ok3_runMutants (by decide) 43 rfl rfl rfl rfl (Nat.le_of_ble_eq_true rfl) dX3_make_33 ?_
      refine k_iadd C dX3_make_36 ?_
      refine k_topi (fun v5_20 ev5_20 => ?_)
      replace hf := nm_el hf ev5_20
      refine k_istore C dX3_make_37 [(5, .int v5_20), (0, .ref (ad 43)), (1, .ref (ad (cpo q))), (2, .ref (ad 19)), (3, .ref (ad 35)), (4, .int x4), (6, .int x6)] (by decide) rfl ?_
      obtain ⟨v6_21, ev6_21⟩ : ∃ y : Int32, y = x6 + (1 : Int32) := ⟨_, rfl⟩
      replace hf := nm_el hf ev6_21
      refine k_iinc (v := v6_21) C dX3_make_39 6 rfl (by rw [ev6_21]; rfl) [(6, .int v6_21), (5, .int v5_20), (0, .ref (ad 43)), (1, .ref (ad (cpo q))), (2, .ref (ad 19)), (3, .ref (ad 35)), (4, .int x4)] (by decide) rfl ?_
      refine k_goto C 14 dX3_make_42 (by decide) ?_
      refine k_sub [2, 3, 4, 5, 6, 1, 0] (L' := [(0, .ref (ad 43)), (1, .ref (ad (cpo q))), (2, .ref (ad 19)), (3, .ref (ad 35)), (4, .int x4), (5, .int v5_20), (6, .int v6_21)]) rfl ?_
      exact ih _ _ _ _ _ _ _ _ _ _ _ _ _ _ _ _ _ _ _ _ _ hf
set_option maxHeartbeats 4000000 in
set_option maxRecDepth 100000 in
theorem b3_make {V : EV} {p : Program} {l : Launch} {e : Env} {R : Room} {s : State} {m : MethodId} {args : Array Value} {below : List Frame} {meth : Method} {c : Code} {Q : State → Prop} {A : Nat → Prop} {kc ks : Nat} {ad : Nat → Nat} {top : TopS} {rd : RdS} {ra : Int32} {co : Nat → CoS} {fo : FoS} {tr : TrS} {cs_cw : Nat → Int32} {cs_ce : Nat → Int32} {cs_cn : Nat → Int32} {cs_cj : Nat → Int32} {cs_cz : Int32} {mu_mS : Nat → Int32} {mu_mK : Nat → Int32} {mu_mI : Nat → Int32} {mu_mC : Nat → Int32} {mu_mc : Int32} {mu_mA : Nat → Int32} {q : Nat} {v4 : Int32} {ma_aR : Int32} {ma_aB : Int32} {ma_aL : Int64} {ma_aS : Nat → Int32} {ma_aV : Nat → Int32} {ma_aH : Int32} {ma_aP : Int32} {ma_aO : Int32} {ma_aT : Int32} {ma_aC : Int32} {ma_aI : Int32} {mq_aq : Nat} {mx_xN : Int32} {mx_xM : Int32} {mx_xS : Nat → Int64} {mx_xK : Nat → Int32} {mx_xX : Nat → Int32} {mx_xY : Nat → Int32} {N : Nat} {res : Int32 × MaS × Nat × MxS} (C : CX V p l R s m args c A kc ks RX3 cX3_make 7 5 125) (hq : q < 4) (hf : f3_make N q v4 (cs_cw, cs_ce, cs_cn, cs_cj, cs_cz) (mu_mS, mu_mK, mu_mI, mu_mC, mu_mc, mu_mA) (ma_aR, ma_aB, ma_aL, ma_aS, ma_aV, ma_aH, ma_aP, ma_aO, ma_aT, ma_aC, ma_aI) mq_aq (mx_xN, mx_xM, mx_xS, mx_xK, mx_xX, mx_xY) = some res) (K : RI V p l e R s m args below meth c Q A kc ks 7 cX3_make .int res.1 (wC V ad top rd ra (updC co q (cs_cw, cs_ce, cs_cn, cs_cj, cs_cz)) (mu_mS, mu_mK, mu_mI, mu_mC, mu_mc, mu_mA) fo tr res.2.1 res.2.2.1 res.2.2.2)) : WC V p l e R s m args below meth c Q A kc ks 7 (wC V ad top rd ra (updC co q (cs_cw, cs_ce, cs_cn, cs_cj, cs_cz)) (mu_mS, mu_mK, mu_mI, mu_mC, mu_mc, mu_mA) fo tr (ma_aR, ma_aB, ma_aL, ma_aS, ma_aV, ma_aH, ma_aP, ma_aO, ma_aT, ma_aC, ma_aI) mq_aq (mx_xN, mx_xM, mx_xS, mx_xK, mx_xX, mx_xY)) 0 [(0, .ref (ad 43)), (1, .ref (ad (cpo q))), (2, .ref (ad 19)), (3, .ref (ad 35)), (4, .int v4)] [] := by
  rw [f3_make] at hf
  refine k_aload_n C dX3_make_0 0 rfl ?_
  refine g3_23 C dX3_make_1 ?_
  refine k_iconst (v := (0 : Int32)) C dX3_make_4 (by decide) ?_
  refine k_fill (w' := (wC V ad top rd ra (updC co q (cs_cw, cs_ce, cs_cn, cs_cj, cs_cz)) (mu_mS, mu_mK, mu_mI, mu_mC, mu_mc, mu_mA) fo tr (ma_aR, ma_aB, ma_aL, ma_aS, ma_aV, ma_aH, ma_aP, ma_aO, ma_aT, ma_aC, ma_aI) mq_aq (mx_xN, mx_xM, mx_xS, (fillF mx_xK 121 (0 : Int32)), mx_xX, mx_xY))) C 45 (by decide) rfl rfl cm3_33 (by decide) (Nat.le_of_ble_eq_true rfl) dX3_make_5 ?_
  refine k_iconst (v := (0 : Int32)) C dX3_make_8 (by decide) ?_
  refine k_istore C dX3_make_9 [(5, .int (0 : Int32)), (0, .ref (ad 43)), (1, .ref (ad (cpo q))), (2, .ref (ad 19)), (3, .ref (ad 35)), (4, .int v4)] (by decide) rfl ?_
  refine k_iconst (v := (0 : Int32)) C dX3_make_11 (by decide) ?_
  refine k_istore C dX3_make_12 [(6, .int (0 : Int32)), (5, .int (0 : Int32)), (0, .ref (ad 43)), (1, .ref (ad (cpo q))), (2, .ref (ad 19)), (3, .ref (ad 35)), (4, .int v4)] (by decide) rfl ?_
  refine k_sub [2, 3, 4, 5, 6, 1, 0] (L' := [(0, .ref (ad 43)), (1, .ref (ad (cpo q))), (2, .ref (ad 19)), (3, .ref (ad 35)), (4, .int v4), (5, .int (0 : Int32)), (6, .int (0 : Int32))]) rfl ?_
  refine w3_make_L14 C hq K ?_ _ _ _ _ _ _ _ _ _ _ _ _ _ _ _ _ _ _ _ _ _ _ hf
  · intro x5_22 ma_aR_22 ma_aB_22 ma_aL_22 ma_aS_22 ma_aV_22 ma_aH_22 ma_aP_22 ma_aO_22 ma_aT_22 ma_aC_22 ma_aI_22 mq_aq_22 mx_xN_22 mx_xM_22 mx_xS_22 mx_xK_22 mx_xX_22 mx_xY_22 hf
    try dsimp only at hf
    refine k_aload_n C dX3_make_45 0 rfl ?_
    refine k_iconst (v := (1 : Int32)) C dX3_make_46 (by decide) ?_
    refine p3_15 C (Or.inr rfl) dX3_make_47 ?_
    refine k_iload C dX3_make_50 1 rfl ?_
    cases hf
    exact K _ _ dX3_make_52 rfl
theorem c3_make {V : EV} {l : Launch} (hl0 : l.stackTraces = false) {ad : Nat → Nat} {top : TopS} {rd : RdS} {ra : Int32} {co : Nat → CoS} {fo : FoS} {tr : TrS} {cs_cw : Nat → Int32} {cs_ce : Nat → Int32} {cs_cn : Nat → Int32} {cs_cj : Nat → Int32} {cs_cz : Int32} {mu_mS : Nat → Int32} {mu_mK : Nat → Int32} {mu_mI : Nat → Int32} {mu_mC : Nat → Int32} {mu_mc : Int32} {mu_mA : Nat → Int32} {q : Nat} {v4 : Int32} {ma_aR : Int32} {ma_aB : Int32} {ma_aL : Int64} {ma_aS : Nat → Int32} {ma_aV : Nat → Int32} {ma_aH : Int32} {ma_aP : Int32} {ma_aO : Int32} {ma_aT : Int32} {ma_aC : Int32} {ma_aI : Int32} {mq_aq : Nat} {mx_xN : Int32} {mx_xM : Int32} {mx_xS : Nat → Int64} {mx_xK : Nat → Int32} {mx_xX : Nat → Int32} {mx_xY : Nat → Int32} {N : Nat} {res : Int32 × MaS × Nat × MxS} (hq : q < 4) (hf : f3_make N q v4 (cs_cw, cs_ce, cs_cn, cs_cj, cs_cz) (mu_mS, mu_mK, mu_mI, mu_mC, mu_mc, mu_mA) (ma_aR, ma_aB, ma_aL, ma_aS, ma_aV, ma_aH, ma_aP, ma_aO, ma_aT, ma_aC, ma_aI) mq_aq (mx_xN, mx_xM, mx_xS, mx_xK, mx_xX, mx_xY) = some res) : MI V l yX3_make cX3_make 7 .int 5 125 [.ref (ad 43), .ref (ad (cpo q)), .ref (ad 19), .ref (ad 35), .int v4] (wC V ad top rd ra (updC co q (cs_cw, cs_ce, cs_cn, cs_cj, cs_cz)) (mu_mS, mu_mK, mu_mI, mu_mC, mu_mc, mu_mA) fo tr (ma_aR, ma_aB, ma_aL, ma_aS, ma_aV, ma_aH, ma_aP, ma_aO, ma_aT, ma_aC, ma_aI) mq_aq (mx_xN, mx_xM, mx_xS, mx_xK, mx_xX, mx_xY)) res.1 (wC V ad top rd ra (updC co q (cs_cw, cs_ce, cs_cn, cs_cj, cs_cz)) (mu_mS, mu_mK, mu_mI, mu_mC, mu_mc, mu_mA) fo tr res.2.1 res.2.2.1 res.2.2.2) :=
  mi_of hl0 (by decide +kernel) (Nat.le_of_ble_eq_true rfl) (fun p e R s m args below meth c Q A C K => b3_make C hq hf K)

