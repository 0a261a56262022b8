/-! THE MACHINE: the methods meet their models (printed by wip/whole/gen/decomp.py) -/
set_option maxRecDepth 20000 in
theorem c_X9_refused {l : Launch} {G : qe_G} {v1 : Int32} {v2 : Int32} {v3 : Int32} {v4 : Int32} {s0 : qe_S} {o : Int32 × qe_S} (h : g_X9_refused v1 v2 v3 v4 s0 = some o) : qe_C l G MX9_refused [.ref 0, .int v1, .int v2, .int v3, .int v4] (qs_w s0 (qs_TM G)) (some (.int o.1)) (qs_w o.2 (qs_TM G)) := by
  refine qe_C.of (by decide +kernel) (Nat.le_of_ble_eq_true rfl) ?_
  show qe_J l G MX9_refused 0 [(0, .ref 0), (1, .int v1), (2, .int v2), (3, .int v3), (4, .int v4)] [] (qs_w s0 (qs_TM G)) (some (.int o.1)) (qs_w o.2 (qs_TM G))
  unfold g_X9_refused at h
  refine qe_aload_n dX9_refused_0 0 rfl rfl trivial ?_
  refine qs_getR (j := 4) tM_0 rfl fl_RX9_19 dX9_refused_1 ?_
  refine qe_iconst (v := (0 : Int32)) dX9_refused_4 rfl ?_
  refine qe_iload_n dX9_refused_5 1 rfl rfl ?_
  refine qs_ist tM_4 dX9_refused_6 h (fun s1 h => ?_)
  refine qe_aload_n dX9_refused_7 0 rfl rfl trivial ?_
  refine qs_getR (j := 4) tM_0 rfl fl_RX9_19 dX9_refused_8 ?_
  refine qe_iconst (v := (1 : Int32)) dX9_refused_11 rfl ?_
  refine qe_iload_n dX9_refused_12 2 rfl rfl ?_
  refine qs_ist tM_4 dX9_refused_13 h (fun s2 h => ?_)
  refine qe_aload_n dX9_refused_14 0 rfl rfl trivial ?_
  refine qs_getR (j := 4) tM_0 rfl fl_RX9_19 dX9_refused_15 ?_
  refine qe_iconst (v := (nI 2)) dX9_refused_18 rfl ?_
  refine qe_iload_n dX9_refused_19 3 rfl rfl ?_
  refine qs_ist tM_4 dX9_refused_20 h (fun s3 h => ?_)
  refine qe_aload_n dX9_refused_21 0 rfl rfl trivial ?_
  refine qs_getR (j := 4) tM_0 rfl fl_RX9_19 dX9_refused_22 ?_
  refine qe_iconst (v := (nI 3)) dX9_refused_25 rfl ?_
  refine qe_iload dX9_refused_26 4 rfl ?_
  refine qs_ist tM_4 dX9_refused_28 h (fun s4 h => ?_)
  refine qe_iload_n dX9_refused_29 1 rfl rfl ?_
  have e : (v1, s4) = o := Option.some.inj h
  subst e
  exact qe_iret dX9_refused_30 rfl

set_option maxRecDepth 20000 in
theorem c_X9_no {l : Launch} {G : qe_G} {v1 : Int32} {s0 : qe_S} {o : Int32 × qe_S} (h : g_X9_no v1 s0 = some o) : qe_C l G MX9_no [.ref 0, .int v1] (qs_w s0 (qs_TM G)) (some (.int o.1)) (qs_w o.2 (qs_TM G)) := by
  refine qe_C.of (by decide +kernel) (Nat.le_of_ble_eq_true rfl) ?_
  show qe_J l G MX9_no 0 [(0, .ref 0), (1, .int v1)] [] (qs_w s0 (qs_TM G)) (some (.int o.1)) (qs_w o.2 (qs_TM G))
  unfold g_X9_no at h
  refine qe_iload_n dX9_no_0 1 rfl rfl ?_
  refine qe_bipush (v := (-7 : Int32)) dX9_no_1 rfl ?_
  refine qe_icmp_ne (tgt := 19) dX9_no_3 rfl h (fun _ h => ?_) (fun _ h => ?_)
  · refine qe_aload_n dX9_no_19 0 rfl rfl trivial ?_
    refine qe_iload_n dX9_no_20 1 rfl rfl ?_
    refine qe_iconst (v := (0 : Int32)) dX9_no_21 rfl ?_
    refine qe_iconst (v := (0 : Int32)) dX9_no_22 rfl ?_
    refine qe_iconst (v := (0 : Int32)) dX9_no_23 rfl ?_
    refine qm_b_elim h (fun a2 s1 hc h => ?_)
    refine qe_callV1 (st := []) kk_X9_no_X9_refused (c_X9_refused hc) (qs_at tM_0) rfl rfl rfl (Nat.le_of_ble_eq_true rfl) dX9_no_24 ?_
    have e : (a2, s1) = o := Option.some.inj h
    subst e
    exact qe_iret dX9_no_27 rfl
  · refine qe_aload_n dX9_no_6 0 rfl rfl trivial ?_
    refine qe_iload_n dX9_no_7 1 rfl rfl ?_
    refine qe_iconst (v := (1 : Int32)) dX9_no_8 rfl ?_
    refine qe_bipush (v := (-9 : Int32)) dX9_no_9 rfl ?_
    refine qe_bipush (v := (-9 : Int32)) dX9_no_11 rfl ?_
    refine qm_b_elim h (fun a4 s3 hc h => ?_)
    refine qe_callV1 (st := []) kk_X9_no_X9_refused (c_X9_refused hc) (qs_at tM_0) rfl rfl rfl (Nat.le_of_ble_eq_true rfl) dX9_no_13 ?_
    refine qe_goto (tgt := 27) dX9_no_16 rfl ?_
    have e : (a4, s3) = o := Option.some.inj h
    subst e
    exact qe_iret dX9_no_27 rfl

set_option maxRecDepth 20000 in
theorem c_X9_unit {l : Launch} {G : qe_G} {v1 : Int32} {v2 : Int32} {v3 : Int32} {v4 : Int32} {s0 : qe_S} {o : Int32 × qe_S} (h : g_X9_unit v1 v2 v3 v4 s0 = some o) : qe_C l G MX9_unit [.ref 0, .int v1, .int v2, .int v3, .int v4] (qs_w s0 (qs_TM G)) (some (.int o.1)) (qs_w o.2 (qs_TM G)) := by
  refine qe_C.of (by decide +kernel) (Nat.le_of_ble_eq_true rfl) ?_
  show qe_J l G MX9_unit 0 [(0, .ref 0), (1, .int v1), (2, .int v2), (3, .int v3), (4, .int v4)] [] (qs_w s0 (qs_TM G)) (some (.int o.1)) (qs_w o.2 (qs_TM G))
  unfold g_X9_unit at h
  refine qe_aload_n dX9_unit_0 0 rfl rfl trivial ?_
  refine qe_iload_n dX9_unit_1 1 rfl rfl ?_
  refine qe_iload_n dX9_unit_2 2 rfl rfl ?_
  refine qe_iload_n dX9_unit_3 3 rfl rfl ?_
  refine qe_iload dX9_unit_4 4 rfl ?_
  refine qm_b_elim h (fun a2 s1 hc h => ?_)
  refine qe_callV1 (st := []) kk_X9_unit_X9_comes (c_X9_comes hc) (qs_at tM_0) rfl rfl rfl (Nat.le_of_ble_eq_true rfl) dX9_unit_6 ?_
  refine qe_istore (lv' := [(5, .int a2), (0, .ref 0), (1, .int v1), (2, .int v2), (3, .int v3), (4, .int v4)]) dX9_unit_9 rfl (Nat.le_of_ble_eq_true rfl) ?_
  refine qe_iload dX9_unit_11 0 rfl ?_
  refine qe_if_ge (tgt := 25) dX9_unit_13 rfl h (fun _ h => ?_) (fun _ h => ?_)
  · refine qe_iload dX9_unit_25 0 rfl ?_
    have e : (a2, s1) = o := Option.some.inj h
    subst e
    exact qe_iret dX9_unit_27 rfl
  · refine qe_aload_n dX9_unit_16 1 rfl rfl trivial ?_
    refine qe_iload dX9_unit_17 0 rfl ?_
    refine qm_b_elim h (fun a4 s3 hc h => ?_)
    refine qe_callV1 (st := []) kk_X9_unit_X9_no (c_X9_no hc) (qs_at tM_0) rfl rfl rfl (Nat.le_of_ble_eq_true rfl) dX9_unit_19 ?_
    refine qe_goto (tgt := 27) dX9_unit_22 rfl ?_
    have e : (a4, s3) = o := Option.some.inj h
    subst e
    exact qe_iret dX9_unit_27 rfl

set_option maxRecDepth 20000 in
theorem c_X9_isUnit {l : Launch} {G : qe_G} {v1 : Int32} {s0 : qe_S} {o : Int32 × qe_S} (h : g_X9_isUnit v1 s0 = some o) : qe_C l G MX9_isUnit [.ref 0, .int v1] (qs_w s0 (qs_TM G)) (some (.int o.1)) (qs_w o.2 (qs_TM G)) := by
  refine qe_C.of (by decide +kernel) (Nat.le_of_ble_eq_true rfl) ?_
  show qe_J l G MX9_isUnit 0 [(0, .ref 0), (1, .int v1)] [] (qs_w s0 (qs_TM G)) (some (.int o.1)) (qs_w o.2 (qs_TM G))
  unfold g_X9_isUnit at h
  refine qe_iload_n dX9_isUnit_0 1 rfl rfl ?_
  refine qe_iconst (v := (0 : Int32)) dX9_isUnit_1 rfl ?_
  refine qe_aload_n dX9_isUnit_2 0 rfl rfl trivial ?_
  refine qs_getR (j := 0) tM_0 rfl fl_RX9_7 dX9_isUnit_3 ?_
  refine qe_iconst (v := (0 : Int32)) dX9_isUnit_6 rfl ?_
  refine qs_ild tM_1 dX9_isUnit_7 h (fun a1 h => ?_)
  refine qe_iconst (v := (1 : Int32)) dX9_isUnit_8 rfl ?_
  refine qe_isub dX9_isUnit_9 ?_
  refine qm_b_elim h (fun a3 s2 hc h => ?_)
  refine qe_callS1 (st := []) kk_X9_isUnit_X9_within (c_X9_within hc) rfl rfl (Nat.le_of_ble_eq_true rfl) dX9_isUnit_10 ?_
  exact qe_zret dX9_isUnit_13 rfl h (fun h => by have e : (a3, s2) = o := Option.some.inj h; subst e; exact ⟨rfl, rfl⟩)

set_option maxRecDepth 20000 in
theorem c_X9_becomes {l : Launch} {G : qe_G} {v1 : Int32} {v2 : Int32} {v3 : Int32} {v4 : Int32} {s0 : qe_S} {o : Int32 × qe_S} (h : g_X9_becomes v1 v2 v3 v4 s0 = some o) : qe_C l G MX9_becomes [.ref 0, .int v1, .int v2, .int v3, .int v4] (qs_w s0 (qs_TM G)) (some (.int o.1)) (qs_w o.2 (qs_TM G)) := by
  refine qe_C.of (by decide +kernel) (Nat.le_of_ble_eq_true rfl) ?_
  show qe_J l G MX9_becomes 0 [(0, .ref 0), (1, .int v1), (2, .int v2), (3, .int v3), (4, .int v4)] [] (qs_w s0 (qs_TM G)) (some (.int o.1)) (qs_w o.2 (qs_TM G))
  unfold g_X9_becomes at h
  refine qe_aload_n dX9_becomes_0 0 rfl rfl trivial ?_
  refine qe_iload_n dX9_becomes_1 1 rfl rfl ?_
  refine qm_b_elim h (fun a2 s1 hc h => ?_)
  refine qe_callV1 (st := []) kk_X9_becomes_X9_isUnit (c_X9_isUnit hc) (qs_at tM_0) rfl rfl rfl (Nat.le_of_ble_eq_true rfl) dX9_becomes_2 ?_
  refine qe_if_eq (tgt := 17) dX9_becomes_5 rfl h (fun _ h => ?_) (fun _ h => ?_)
  · refine qe_iconst (v := (-1 : Int32)) dX9_becomes_17 rfl ?_
    have e : ((-1 : Int32), s1) = o := Option.some.inj h
    subst e
    exact qe_iret dX9_becomes_18 rfl
  · refine qe_iload_n dX9_becomes_8 2 rfl rfl ?_
    refine qe_iconst (v := (0 : Int32)) dX9_becomes_9 rfl ?_
    refine qe_iconst (v := (nI 2)) dX9_becomes_10 rfl ?_
    refine qm_b_elim h (fun a4 s3 hc h => ?_)
    refine qe_callS1 (st := []) kk_X9_becomes_X9_within (c_X9_within hc) rfl rfl (Nat.le_of_ble_eq_true rfl) dX9_becomes_11 ?_
    refine qe_if_ne (tgt := 19) dX9_becomes_14 rfl h (fun _ h => ?_) (fun _ h => ?_)
    · refine qe_iload_n dX9_becomes_19 2 rfl rfl ?_
      refine qe_iload_n dX9_becomes_20 3 rfl rfl ?_
      refine qe_iload dX9_becomes_21 4 rfl ?_
      refine qm_b_elim h (fun a6 s5 hc h => ?_)
      refine qe_callS1 (st := []) kk_X9_becomes_X9_isOdds (c_X9_isOdds hc) rfl rfl (Nat.le_of_ble_eq_true rfl) dX9_becomes_23 ?_
      refine qe_if_ne (tgt := 32) dX9_becomes_26 rfl h (fun _ h => ?_) (fun _ h => ?_)
      · refine qe_bipush (v := (nI 12)) dX9_becomes_32 rfl ?_
        refine qe_iload_n dX9_becomes_34 2 rfl rfl ?_
        refine qe_imul dX9_becomes_35 ?_
        refine qe_iload_n dX9_becomes_36 1 rfl rfl ?_
        refine qe_iadd dX9_becomes_37 ?_
        refine qe_let_i h (fun a7 h => ?_)
        refine qe_istore (lv' := [(5, .int a7), (0, .ref 0), (1, .int v1), (2, .int v2), (3, .int v3), (4, .int v4)]) dX9_becomes_38 rfl (Nat.le_of_ble_eq_true rfl) ?_
        refine qe_bipush (v := (nI 100)) dX9_becomes_40 rfl ?_
        refine qe_aload_n dX9_becomes_42 1 rfl rfl trivial ?_
        refine qs_getR (j := 0) tM_0 rfl fl_RX9_7 dX9_becomes_43 ?_
        refine qe_bipush (v := (nI 50)) dX9_becomes_46 rfl ?_
        refine qe_iload dX9_becomes_48 0 rfl ?_
        refine qe_iadd dX9_becomes_50 ?_
        refine qs_ild tM_1 dX9_becomes_51 h (fun a8 h => ?_)
        refine qe_imul dX9_becomes_52 ?_
        refine qe_aload_n dX9_becomes_53 1 rfl rfl trivial ?_
        refine qs_getR (j := 0) tM_0 rfl fl_RX9_7 dX9_becomes_54 ?_
        refine qe_bipush (v := (nI 86)) dX9_becomes_57 rfl ?_
        refine qe_iload dX9_becomes_59 0 rfl ?_
        refine qe_iadd dX9_becomes_61 ?_
        refine qs_ild tM_1 dX9_becomes_62 h (fun a9 h => ?_)
        refine qe_iadd dX9_becomes_63 ?_
        refine qe_let_i h (fun a10 h => ?_)
        refine qe_istore (lv' := [(6, .int a10), (5, .int a7), (0, .ref 0), (1, .int v1), (2, .int v2), (3, .int v3), (4, .int v4)]) dX9_becomes_64 rfl (Nat.le_of_ble_eq_true rfl) ?_
        refine qe_aload_n dX9_becomes_66 2 rfl rfl trivial ?_
        refine qs_getR (j := 0) tM_0 rfl fl_RX9_7 dX9_becomes_67 ?_
        refine qe_bipush (v := (nI 50)) dX9_becomes_70 rfl ?_
        refine qe_iload dX9_becomes_72 1 rfl ?_
        refine qe_iadd dX9_becomes_74 ?_
        refine qe_iload_n dX9_becomes_75 5 rfl rfl ?_
        refine qs_ist tM_1 dX9_becomes_76 h (fun s11 h => ?_)
        refine qe_aload_n dX9_becomes_77 2 rfl rfl trivial ?_
        refine qs_getR (j := 0) tM_0 rfl fl_RX9_7 dX9_becomes_78 ?_
        refine qe_bipush (v := (nI 86)) dX9_becomes_81 rfl ?_
        refine qe_iload dX9_becomes_83 1 rfl ?_
        refine qe_iadd dX9_becomes_85 ?_
        refine qe_iload dX9_becomes_86 6 rfl ?_
        refine qs_ist tM_1 dX9_becomes_88 h (fun s12 h => ?_)
        refine qe_iload dX9_becomes_89 0 rfl ?_
        have e : (a10, s12) = o := Option.some.inj h
        subst e
        exact qe_iret dX9_becomes_91 rfl
      · refine qe_bipush (v := (-2 : Int32)) dX9_becomes_29 rfl ?_
        have e : ((-2 : Int32), s5) = o := Option.some.inj h
        subst e
        exact qe_iret dX9_becomes_31 rfl
    · refine qe_iconst (v := (-1 : Int32)) dX9_becomes_17 rfl ?_
      have e : ((-1 : Int32), s3) = o := Option.some.inj h
      subst e
      exact qe_iret dX9_becomes_18 rfl

set_option maxRecDepth 20000 in
theorem c_X9_odds {l : Launch} {G : qe_G} {v1 : Int32} {v2 : Int32} {v3 : Int32} {v4 : Int32} {s0 : qe_S} {o : Int32 × qe_S} (h : g_X9_odds v1 v2 v3 v4 s0 = some o) : qe_C l G MX9_odds [.ref 0, .int v1, .int v2, .int v3, .int v4] (qs_w s0 (qs_TM G)) (some (.int o.1)) (qs_w o.2 (qs_TM G)) := by
  refine qe_C.of (by decide +kernel) (Nat.le_of_ble_eq_true rfl) ?_
  show qe_J l G MX9_odds 0 [(0, .ref 0), (1, .int v1), (2, .int v2), (3, .int v3), (4, .int v4)] [] (qs_w s0 (qs_TM G)) (some (.int o.1)) (qs_w o.2 (qs_TM G))
  unfold g_X9_odds at h
  refine qe_aload_n dX9_odds_0 0 rfl rfl trivial ?_
  refine qe_iload_n dX9_odds_1 1 rfl rfl ?_
  refine qe_iload_n dX9_odds_2 2 rfl rfl ?_
  refine qe_iload_n dX9_odds_3 3 rfl rfl ?_
  refine qe_iload dX9_odds_4 4 rfl ?_
  refine qm_b_elim h (fun a2 s1 hc h => ?_)
  refine qe_callV1 (st := []) kk_X9_odds_X9_becomes (c_X9_becomes hc) (qs_at tM_0) rfl rfl rfl (Nat.le_of_ble_eq_true rfl) dX9_odds_6 ?_
  refine qe_istore (lv' := [(5, .int a2), (0, .ref 0), (1, .int v1), (2, .int v2), (3, .int v3), (4, .int v4)]) dX9_odds_9 rfl (Nat.le_of_ble_eq_true rfl) ?_
  refine qe_iload dX9_odds_11 0 rfl ?_
  refine qe_if_ge (tgt := 25) dX9_odds_13 rfl h (fun _ h => ?_) (fun _ h => ?_)
  · refine qe_iload dX9_odds_25 0 rfl ?_
    have e : (a2, s1) = o := Option.some.inj h
    subst e
    exact qe_iret dX9_odds_27 rfl
  · refine qe_aload_n dX9_odds_16 1 rfl rfl trivial ?_
    refine qe_iload dX9_odds_17 0 rfl ?_
    refine qm_b_elim h (fun a4 s3 hc h => ?_)
    refine qe_callV1 (st := []) kk_X9_odds_X9_no (c_X9_no hc) (qs_at tM_0) rfl rfl rfl (Nat.le_of_ble_eq_true rfl) dX9_odds_19 ?_
    refine qe_goto (tgt := 27) dX9_odds_22 rfl ?_
    have e : (a4, s3) = o := Option.some.inj h
    subst e
    exact qe_iret dX9_odds_27 rfl

set_option maxRecDepth 20000 in
theorem c_X9_set {l : Launch} {G : qe_G} {v1 : Int32} {v2 : Int32} {v3 : Int32} {s0 : qe_S} {o : Int32 × qe_S} (h : g_X9_set v1 v2 v3 s0 = some o) : qe_C l G MX9_set [.ref 0, .int v1, .int v2, .int v3] (qs_w s0 (qs_TM G)) (some (.int o.1)) (qs_w o.2 (qs_TM G)) := by
  refine qe_C.of (by decide +kernel) (Nat.le_of_ble_eq_true rfl) ?_
  show qe_J l G MX9_set 0 [(0, .ref 0), (1, .int v1), (2, .int v2), (3, .int v3)] [] (qs_w s0 (qs_TM G)) (some (.int o.1)) (qs_w o.2 (qs_TM G))
  unfold g_X9_set at h
  refine qe_aload_n dX9_set_0 0 rfl rfl trivial ?_
  refine qe_iload_n dX9_set_1 1 rfl rfl ?_
  refine qm_b_elim h (fun a2 s1 hc h => ?_)
  refine qe_callV1 (st := []) kk_X9_set_X9_isUnit (c_X9_isUnit hc) (qs_at tM_0) rfl rfl rfl (Nat.le_of_ble_eq_true rfl) dX9_set_2 ?_
  refine qe_if_eq (tgt := 17) dX9_set_5 rfl h (fun _ h => ?_) (fun _ h => ?_)
  · refine qe_aload_n dX9_set_17 0 rfl rfl trivial ?_
    refine qe_iconst (v := (-1 : Int32)) dX9_set_18 rfl ?_
    refine qm_b_elim h (fun a4 s3 hc h => ?_)
    refine qe_callV1 (st := []) kk_X9_set_X9_no (c_X9_no hc) (qs_at tM_0) rfl rfl rfl (Nat.le_of_ble_eq_true rfl) dX9_set_19 ?_
    have e : (a4, s3) = o := Option.some.inj h
    subst e
    exact qe_iret dX9_set_22 rfl
  · refine qe_iload_n dX9_set_8 2 rfl rfl ?_
    refine qe_iconst (v := (0 : Int32)) dX9_set_9 rfl ?_
    refine qe_iconst (v := (1 : Int32)) dX9_set_10 rfl ?_
    refine qm_b_elim h (fun a6 s5 hc h => ?_)
    refine qe_callS1 (st := []) kk_X9_set_X9_within (c_X9_within hc) rfl rfl (Nat.le_of_ble_eq_true rfl) dX9_set_11 ?_
    refine qe_if_ne (tgt := 23) dX9_set_14 rfl h (fun _ h => ?_) (fun _ h => ?_)
    · refine qm_j_elim h (fun j34 ej34 h => ?_)
      have hj34 : ∀ (q7 : Int32) (q8 : Int32) (q9 : Int32) (s10 : qe_S) (o : Int32 × qe_S), j34 q7 q8 q9 s10 = some o → qe_J l G MX9_set 34 [(0, .ref 0), (1, .int v1), (2, .int v2), (3, .int v3)] [.int q7, .int q8, .int q9] (qs_w s10 (qs_TM G)) (some (.int o.1)) (qs_w o.2 (qs_TM G)) := by
        intro q7 q8 q9 s10 o h
        subst ej34
        refine qm_b_elim h (fun a12 s11 hc h => ?_)
        refine qe_callS1 (st := []) kk_X9_set_X9_within (c_X9_within hc) rfl rfl (Nat.le_of_ble_eq_true rfl) dX9_set_34 ?_
        refine qe_if_ne (tgt := 47) dX9_set_37 rfl h (fun _ h => ?_) (fun _ h => ?_)
        · refine qm_j_elim h (fun j58 ej58 h => ?_)
          have hj58 : ∀ (q13 : Int32) (s14 : qe_S) (o : Int32 × qe_S), j58 q13 s14 = some o → qe_J l G MX9_set 58 [(0, .ref 0), (1, .int v1), (3, .int v3)] [.int q13] (qs_w s14 (qs_TM G)) (some (.int o.1)) (qs_w o.2 (qs_TM G)) := by
            intro q13 s14 o h
            subst ej58
            refine qe_iload_n dX9_set_58 1 rfl rfl ?_
            refine qe_iadd dX9_set_59 ?_
            refine qe_let_i h (fun a15 h => ?_)
            refine qe_istore (lv' := [(4, .int a15), (0, .ref 0), (1, .int v1), (3, .int v3)]) dX9_set_60 rfl (Nat.le_of_ble_eq_true rfl) ?_
            refine qe_aload_n dX9_set_62 1 rfl rfl trivial ?_
            refine qs_getR (j := 0) tM_0 rfl fl_RX9_7 dX9_set_63 ?_
            refine qe_iload dX9_set_66 0 rfl ?_
            refine qs_ild tM_1 dX9_set_68 h (fun a16 h => ?_)
            refine qe_istore (lv' := [(5, .int a16), (4, .int a15), (0, .ref 0), (1, .int v1), (3, .int v3)]) dX9_set_69 rfl (Nat.le_of_ble_eq_true rfl) ?_
            refine qe_aload_n dX9_set_71 2 rfl rfl trivial ?_
            refine qs_getR (j := 0) tM_0 rfl fl_RX9_7 dX9_set_72 ?_
            refine qe_iload dX9_set_75 1 rfl ?_
            refine qe_iload_n dX9_set_77 4 rfl rfl ?_
            refine qs_ist tM_1 dX9_set_78 h (fun s17 h => ?_)
            refine qe_iload dX9_set_79 0 rfl ?_
            have e : (a16, s17) = o := Option.some.inj h
            subst e
            exact qe_iret dX9_set_81 rfl
          refine qe_iload_n dX9_set_47 2 rfl rfl ?_
          refine qe_if_ne (tgt := 56) dX9_set_48 rfl h (fun _ h => ?_) (fun _ h => ?_)
          · refine qe_bipush (v := (nI 38)) dX9_set_56 rfl ?_
            refine qe_sub [0, 1, 3] rfl ?_
            exact hj58 _ _ _ h
          · refine qe_bipush (v := (nI 14)) dX9_set_51 rfl ?_
            refine qe_goto (tgt := 58) dX9_set_53 rfl ?_
            refine qe_sub [0, 1, 3] rfl ?_
            exact hj58 _ _ _ h
        · refine qe_aload_n dX9_set_40 0 rfl rfl trivial ?_
          refine qe_bipush (v := (-2 : Int32)) dX9_set_41 rfl ?_
          refine qm_b_elim h (fun a19 s18 hc h => ?_)
          refine qe_callV1 (st := []) kk_X9_set_X9_no (c_X9_no hc) (qs_at tM_0) rfl rfl rfl (Nat.le_of_ble_eq_true rfl) dX9_set_43 ?_
          have e : (a19, s18) = o := Option.some.inj h
          subst e
          exact qe_iret dX9_set_46 rfl
      refine qe_iload_n dX9_set_23 3 rfl rfl ?_
      refine qe_iconst (v := (0 : Int32)) dX9_set_24 rfl ?_
      refine qe_iload_n dX9_set_25 2 rfl rfl ?_
      refine qe_if_ne (tgt := 33) dX9_set_26 rfl h (fun _ h => ?_) (fun _ h => ?_)
      · refine qe_iconst (v := (1 : Int32)) dX9_set_33 rfl ?_
        exact hj34 _ _ _ _ _ h
      · refine qe_iconst (v := (nI 3)) dX9_set_29 rfl ?_
        refine qe_goto (tgt := 34) dX9_set_30 rfl ?_
        exact hj34 _ _ _ _ _ h
    · refine qe_aload_n dX9_set_17 0 rfl rfl trivial ?_
      refine qe_iconst (v := (-1 : Int32)) dX9_set_18 rfl ?_
      refine qm_b_elim h (fun a21 s20 hc h => ?_)
      refine qe_callV1 (st := []) kk_X9_set_X9_no (c_X9_no hc) (qs_at tM_0) rfl rfl rfl (Nat.le_of_ble_eq_true rfl) dX9_set_19 ?_
      have e : (a21, s20) = o := Option.some.inj h
      subst e
      exact qe_iret dX9_set_22 rfl

set_option maxRecDepth 20000 in
theorem c_X9_mark {l : Launch} {G : qe_G} {v1 : Int32} {v2 : Int32} {s0 : qe_S} {o : Int32 × qe_S} (h : g_X9_mark v1 v2 s0 = some o) : qe_C l G MX9_mark [.ref 0, .int v1, .int v2] (qs_w s0 (qs_TM G)) (some (.int o.1)) (qs_w o.2 (qs_TM G)) := by
  refine qe_C.of (by decide +kernel) (Nat.le_of_ble_eq_true rfl) ?_
  show qe_J l G MX9_mark 0 [(0, .ref 0), (1, .int v1), (2, .int v2)] [] (qs_w s0 (qs_TM G)) (some (.int o.1)) (qs_w o.2 (qs_TM G))
  unfold g_X9_mark at h
  refine qe_aload_n dX9_mark_0 0 rfl rfl trivial ?_
  refine qe_iload_n dX9_mark_1 1 rfl rfl ?_
  refine qm_b_elim h (fun a2 s1 hc h => ?_)
  refine qe_callV1 (st := []) kk_X9_mark_X9_isUnit (c_X9_isUnit hc) (qs_at tM_0) rfl rfl rfl (Nat.le_of_ble_eq_true rfl) dX9_mark_2 ?_
  refine qe_if_ne (tgt := 14) dX9_mark_5 rfl h (fun _ h => ?_) (fun _ h => ?_)
  · refine qe_iload_n dX9_mark_14 2 rfl rfl ?_
    refine qe_bipush (v := (-99 : Int32)) dX9_mark_15 rfl ?_
    refine qe_bipush (v := (nI 99)) dX9_mark_17 rfl ?_
    refine qm_b_elim h (fun a4 s3 hc h => ?_)
    refine qe_callS1 (st := []) kk_X9_mark_X9_within (c_X9_within hc) rfl rfl (Nat.le_of_ble_eq_true rfl) dX9_mark_19 ?_
    refine qe_if_ne (tgt := 32) dX9_mark_22 rfl h (fun _ h => ?_) (fun _ h => ?_)
    · refine qe_aload_n dX9_mark_32 0 rfl rfl trivial ?_
      refine qs_getR (j := 0) tM_0 rfl fl_RX9_7 dX9_mark_33 ?_
      refine qe_bipush (v := (nI 26)) dX9_mark_36 rfl ?_
      refine qe_iload_n dX9_mark_38 1 rfl rfl ?_
      refine qe_iadd dX9_mark_39 ?_
      refine qe_iload_n dX9_mark_40 2 rfl rfl ?_
      refine qs_ist tM_1 dX9_mark_41 h (fun s5 h => ?_)
      refine qe_iconst (v := (1 : Int32)) dX9_mark_42 rfl ?_
      have e : ((1 : Int32), s5) = o := Option.some.inj h
      subst e
      exact qe_iret dX9_mark_43 rfl
    · refine qe_aload_n dX9_mark_25 0 rfl rfl trivial ?_
      refine qe_bipush (v := (-2 : Int32)) dX9_mark_26 rfl ?_
      refine qm_b_elim h (fun a7 s6 hc h => ?_)
      refine qe_callV1 (st := []) kk_X9_mark_X9_no (c_X9_no hc) (qs_at tM_0) rfl rfl rfl (Nat.le_of_ble_eq_true rfl) dX9_mark_28 ?_
      have e : (a7, s6) = o := Option.some.inj h
      subst e
      exact qe_iret dX9_mark_31 rfl
  · refine qe_aload_n dX9_mark_8 0 rfl rfl trivial ?_
    refine qe_iconst (v := (-1 : Int32)) dX9_mark_9 rfl ?_
    refine qm_b_elim h (fun a9 s8 hc h => ?_)
    refine qe_callV1 (st := []) kk_X9_mark_X9_no (c_X9_no hc) (qs_at tM_0) rfl rfl rfl (Nat.le_of_ble_eq_true rfl) dX9_mark_10 ?_
    have e : (a9, s8) = o := Option.some.inj h
    subst e
    exact qe_iret dX9_mark_13 rfl

set_option maxRecDepth 20000 in
theorem c_X9_noLong {l : Launch} {G : qe_G} {v1 : Int32} {s0 : qe_S} {o : Int64 × qe_S} (h : g_X9_noLong v1 s0 = some o) : qe_C l G MX9_noLong [.ref 0, .int v1] (qs_w s0 (qs_TM G)) (some (.long o.1)) (qs_w o.2 (qs_TM G)) := by
  refine qe_C.of (by decide +kernel) (Nat.le_of_ble_eq_true rfl) ?_
  show qe_J l G MX9_noLong 0 [(0, .ref 0), (1, .int v1)] [] (qs_w s0 (qs_TM G)) (some (.long o.1)) (qs_w o.2 (qs_TM G))
  unfold g_X9_noLong at h
  refine qe_ldc2 kc_RX9_69 dX9_noLong_0 ?_
  refine qe_aload_n dX9_noLong_3 0 rfl rfl trivial ?_
  refine qe_iload_n dX9_noLong_4 1 rfl rfl ?_
  refine qm_b_elim h (fun a2 s1 hc h => ?_)
  refine qe_callV1 (st := [.long (lN 4000000000000000000)]) kk_X9_noLong_X9_no (c_X9_no hc) (qs_at tM_0) rfl rfl rfl (Nat.le_of_ble_eq_true rfl) dX9_noLong_5 ?_
  refine qe_i2l dX9_noLong_8 ?_
  refine qe_lsub dX9_noLong_9 ?_
  have e : (((lN 4000000000000000000) - a2.toInt64), s1) = o := Option.some.inj h
  subst e
  exact qe_lret dX9_noLong_10 rfl

set_option maxRecDepth 20000 in
theorem c_X9_more {l : Launch} {G : qe_G} {v1 : Int32} {v2 : Int32} {s0 : qe_S} {o : Int32 × qe_S} (h : g_X9_more v1 v2 s0 = some o) : qe_C l G MX9_more [.ref 0, .int v1, .int v2] (qs_w s0 (qs_TM G)) (some (.int o.1)) (qs_w o.2 (qs_TM G)) := by
  refine qe_C.of (by decide +kernel) (Nat.le_of_ble_eq_true rfl) ?_
  show qe_J l G MX9_more 0 [(0, .ref 0), (1, .int v1), (2, .int v2)] [] (qs_w s0 (qs_TM G)) (some (.int o.1)) (qs_w o.2 (qs_TM G))
  unfold g_X9_more at h
  refine qe_aload_n dX9_more_0 0 rfl rfl trivial ?_
  refine qs_getR (j := 0) tM_0 rfl fl_RX9_7 dX9_more_1 ?_
  refine qe_iload_n dX9_more_4 1 rfl rfl ?_
  refine qs_ild tM_1 dX9_more_5 h (fun a1 h => ?_)
  refine qe_aload_n dX9_more_6 0 rfl rfl trivial ?_
  refine qs_getR (j := 0) tM_0 rfl fl_RX9_7 dX9_more_7 ?_
  refine qe_iload_n dX9_more_10 2 rfl rfl ?_
  refine qs_ild tM_1 dX9_more_11 h (fun a2 h => ?_)
  refine qe_isub dX9_more_12 ?_
  have e : ((a1 - a2), s0) = o := Option.some.inj h
  subst e
  exact qe_iret dX9_more_13 rfl

set_option maxRecDepth 20000 in
theorem c_X9_isAhead {l : Launch} {G : qe_G} {v1 : Int32} {v2 : Int32} {s0 : qe_S} {o : Int32 × qe_S} (h : g_X9_isAhead v1 v2 s0 = some o) : qe_C l G MX9_isAhead [.ref 0, .int v1, .int v2] (qs_w s0 (qs_TM G)) (some (.int o.1)) (qs_w o.2 (qs_TM G)) := by
  refine qe_C.of (by decide +kernel) (Nat.le_of_ble_eq_true rfl) ?_
  show qe_J l G MX9_isAhead 0 [(0, .ref 0), (1, .int v1), (2, .int v2)] [] (qs_w s0 (qs_TM G)) (some (.int o.1)) (qs_w o.2 (qs_TM G))
  unfold g_X9_isAhead at h
  refine qe_aload_n dX9_isAhead_0 0 rfl rfl trivial ?_
  refine qs_getR (j := 0) tM_0 rfl fl_RX9_7 dX9_isAhead_1 ?_
  refine qe_iconst (v := (1 : Int32)) dX9_isAhead_4 rfl ?_
  refine qs_ild tM_1 dX9_isAhead_5 h (fun a1 h => ?_)
  refine qe_tsw_in (v := (1 : Int32)) (tgt := 36) dX9_isAhead_6 (by decide) (by decide) rfl rfl h (fun h => ?_) (fun c0 h => ?_)
  · refine qe_aload_n dX9_isAhead_36 0 rfl rfl trivial ?_
    refine qs_getR (j := 0) tM_0 rfl fl_RX9_7 dX9_isAhead_37 ?_
    refine qe_bipush (v := (nI 50)) dX9_isAhead_40 rfl ?_
    refine qe_iload_n dX9_isAhead_42 1 rfl rfl ?_
    refine qe_iadd dX9_isAhead_43 ?_
    refine qs_ild tM_1 dX9_isAhead_44 h (fun a2 h => ?_)
    refine qe_aload_n dX9_isAhead_45 0 rfl rfl trivial ?_
    refine qs_getR (j := 0) tM_0 rfl fl_RX9_7 dX9_isAhead_46 ?_
    refine qe_bipush (v := (nI 86)) dX9_isAhead_49 rfl ?_
    refine qe_iload_n dX9_isAhead_51 2 rfl rfl ?_
    refine qe_iadd dX9_isAhead_52 ?_
    refine qs_ild tM_1 dX9_isAhead_53 h (fun a3 h => ?_)
    refine qe_imul dX9_isAhead_54 ?_
    refine qe_aload_n dX9_isAhead_55 0 rfl rfl trivial ?_
    refine qs_getR (j := 0) tM_0 rfl fl_RX9_7 dX9_isAhead_56 ?_
    refine qe_bipush (v := (nI 50)) dX9_isAhead_59 rfl ?_
    refine qe_iload_n dX9_isAhead_61 2 rfl rfl ?_
    refine qe_iadd dX9_isAhead_62 ?_
    refine qs_ild tM_1 dX9_isAhead_63 h (fun a4 h => ?_)
    refine qe_aload_n dX9_isAhead_64 0 rfl rfl trivial ?_
    refine qs_getR (j := 0) tM_0 rfl fl_RX9_7 dX9_isAhead_65 ?_
    refine qe_bipush (v := (nI 86)) dX9_isAhead_68 rfl ?_
    refine qe_iload_n dX9_isAhead_70 1 rfl rfl ?_
    refine qe_iadd dX9_isAhead_71 ?_
    refine qs_ild tM_1 dX9_isAhead_72 h (fun a5 h => ?_)
    refine qe_imul dX9_isAhead_73 ?_
    refine qe_icmp_le (tgt := 81) dX9_isAhead_74 rfl h (fun _ h => ?_) (fun _ h => ?_)
    · refine qe_iconst (v := (0 : Int32)) dX9_isAhead_81 rfl ?_
      have e : ((0 : Int32), s0) = o := Option.some.inj h
      subst e
      exact qe_nret dX9_isAhead_82 rfl rfl
    · refine qe_iconst (v := (1 : Int32)) dX9_isAhead_77 rfl ?_
      refine qe_goto (tgt := 82) dX9_isAhead_78 rfl ?_
      have e : ((1 : Int32), s0) = o := Option.some.inj h
      subst e
      exact qe_nret dX9_isAhead_82 rfl rfl
  refine qe_tsw_in (v := (nI 2)) (tgt := 83) dX9_isAhead_6 (by decide) (by decide) rfl rfl h (fun h => ?_) (fun c1 h => ?_)
  · refine qe_aload_n dX9_isAhead_83 0 rfl rfl trivial ?_
    refine qe_bipush (v := (nI 14)) dX9_isAhead_84 rfl ?_
    refine qe_iload_n dX9_isAhead_86 1 rfl rfl ?_
    refine qe_iadd dX9_isAhead_87 ?_
    refine qe_bipush (v := (nI 14)) dX9_isAhead_88 rfl ?_
    refine qe_iload_n dX9_isAhead_90 2 rfl rfl ?_
    refine qe_iadd dX9_isAhead_91 ?_
    refine qm_b_elim h (fun a7 s6 hc h => ?_)
    refine qe_callV1 (st := []) kk_X9_isAhead_X9_more (c_X9_more hc) (qs_at tM_0) rfl rfl rfl (Nat.le_of_ble_eq_true rfl) dX9_isAhead_92 ?_
    refine qe_if_ge (tgt := 102) dX9_isAhead_95 rfl h (fun _ h => ?_) (fun _ h => ?_)
    · refine qe_iconst (v := (0 : Int32)) dX9_isAhead_102 rfl ?_
      have e : ((0 : Int32), s6) = o := Option.some.inj h
      subst e
      exact qe_nret dX9_isAhead_103 rfl rfl
    · refine qe_iconst (v := (1 : Int32)) dX9_isAhead_98 rfl ?_
      refine qe_goto (tgt := 103) dX9_isAhead_99 rfl ?_
      have e : ((1 : Int32), s6) = o := Option.some.inj h
      subst e
      exact qe_nret dX9_isAhead_103 rfl rfl
  refine qe_tsw_in (v := (nI 3)) (tgt := 104) dX9_isAhead_6 (by decide) (by decide) rfl rfl h (fun h => ?_) (fun c2 h => ?_)
  · refine qe_aload_n dX9_isAhead_104 0 rfl rfl trivial ?_
    refine qe_bipush (v := (nI 26)) dX9_isAhead_105 rfl ?_
    refine qe_iload_n dX9_isAhead_107 1 rfl rfl ?_
    refine qe_iadd dX9_isAhead_108 ?_
    refine qe_bipush (v := (nI 26)) dX9_isAhead_109 rfl ?_
    refine qe_iload_n dX9_isAhead_111 2 rfl rfl ?_
    refine qe_iadd dX9_isAhead_112 ?_
    refine qm_b_elim h (fun a9 s8 hc h => ?_)
    refine qe_callV1 (st := []) kk_X9_isAhead_X9_more (c_X9_more hc) (qs_at tM_0) rfl rfl rfl (Nat.le_of_ble_eq_true rfl) dX9_isAhead_113 ?_
    refine qe_if_ge (tgt := 123) dX9_isAhead_116 rfl h (fun _ h => ?_) (fun _ h => ?_)
    · refine qe_iconst (v := (0 : Int32)) dX9_isAhead_123 rfl ?_
      have e : ((0 : Int32), s8) = o := Option.some.inj h
      subst e
      exact qe_nret dX9_isAhead_124 rfl rfl
    · refine qe_iconst (v := (1 : Int32)) dX9_isAhead_119 rfl ?_
      refine qe_goto (tgt := 124) dX9_isAhead_120 rfl ?_
      have e : ((1 : Int32), s8) = o := Option.some.inj h
      subst e
      exact qe_nret dX9_isAhead_124 rfl rfl
  refine qe_tsw_in (v := (nI 4)) (tgt := 125) dX9_isAhead_6 (by decide) (by decide) rfl rfl h (fun h => ?_) (fun c3 h => ?_)
  · refine qe_aload_n dX9_isAhead_125 0 rfl rfl trivial ?_
    refine qe_bipush (v := (nI 14)) dX9_isAhead_126 rfl ?_
    refine qe_iload_n dX9_isAhead_128 1 rfl rfl ?_
    refine qe_iadd dX9_isAhead_129 ?_
    refine qe_bipush (v := (nI 14)) dX9_isAhead_130 rfl ?_
    refine qe_iload_n dX9_isAhead_132 2 rfl rfl ?_
    refine qe_iadd dX9_isAhead_133 ?_
    refine qm_b_elim h (fun a11 s10 hc h => ?_)
    refine qe_callV1 (st := []) kk_X9_isAhead_X9_more (c_X9_more hc) (qs_at tM_0) rfl rfl rfl (Nat.le_of_ble_eq_true rfl) dX9_isAhead_134 ?_
    refine qe_istore_n (lv' := [(3, .int a11), (0, .ref 0), (1, .int v1), (2, .int v2)]) dX9_isAhead_137 rfl rfl (Nat.le_of_ble_eq_true rfl) ?_
    refine qe_iload_n dX9_isAhead_138 0 rfl rfl ?_
    refine qe_if_eq (tgt := 152) dX9_isAhead_139 rfl h (fun _ h => ?_) (fun _ h => ?_)
    · refine qe_aload_n dX9_isAhead_152 1 rfl rfl trivial ?_
      refine qe_bipush (v := (nI 26)) dX9_isAhead_153 rfl ?_
      refine qe_iload_n dX9_isAhead_155 2 rfl rfl ?_
      refine qe_iadd dX9_isAhead_156 ?_
      refine qe_bipush (v := (nI 26)) dX9_isAhead_157 rfl ?_
      refine qe_iload_n dX9_isAhead_159 3 rfl rfl ?_
      refine qe_iadd dX9_isAhead_160 ?_
      refine qm_b_elim h (fun a13 s12 hc h => ?_)
      refine qe_callV1 (st := []) kk_X9_isAhead_X9_more (c_X9_more hc) (qs_at tM_0) rfl rfl rfl (Nat.le_of_ble_eq_true rfl) dX9_isAhead_161 ?_
      refine qe_istore (lv' := [(4, .int a13), (3, .int a11), (0, .ref 0), (1, .int v1), (2, .int v2)]) dX9_isAhead_164 rfl (Nat.le_of_ble_eq_true rfl) ?_
      refine qe_aload_n dX9_isAhead_166 2 rfl rfl trivial ?_
      refine qs_getR (j := 0) tM_0 rfl fl_RX9_7 dX9_isAhead_167 ?_
      refine qe_bipush (v := (nI 14)) dX9_isAhead_170 rfl ?_
      refine qe_iload_n dX9_isAhead_172 3 rfl rfl ?_
      refine qe_iadd dX9_isAhead_173 ?_
      refine qs_ild tM_1 dX9_isAhead_174 h (fun a14 h => ?_)
      refine qe_iconst (v := (nI 2)) dX9_isAhead_175 rfl ?_
      refine qe_irem dX9_isAhead_176 h (fun h => ?_)
      refine qe_if_ne (tgt := 193) dX9_isAhead_177 rfl h (fun _ h => ?_) (fun _ h => ?_)
      · refine qe_iload dX9_isAhead_193 0 rfl ?_
        refine qe_if_le (tgt := 202) dX9_isAhead_195 rfl h (fun _ h => ?_) (fun _ h => ?_)
        · refine qe_iconst (v := (0 : Int32)) dX9_isAhead_202 rfl ?_
          have e : ((0 : Int32), s12) = o := Option.some.inj h
          subst e
          exact qe_nret dX9_isAhead_203 rfl rfl
        · refine qe_iconst (v := (1 : Int32)) dX9_isAhead_198 rfl ?_
          refine qe_goto (tgt := 203) dX9_isAhead_199 rfl ?_
          have e : ((1 : Int32), s12) = o := Option.some.inj h
          subst e
          exact qe_nret dX9_isAhead_203 rfl rfl
      · refine qe_iload dX9_isAhead_180 0 rfl ?_
        refine qe_if_ge (tgt := 189) dX9_isAhead_182 rfl h (fun _ h => ?_) (fun _ h => ?_)
        · refine qe_iconst (v := (0 : Int32)) dX9_isAhead_189 rfl ?_
          refine qe_goto (tgt := 203) dX9_isAhead_190 rfl ?_
          have e : ((0 : Int32), s12) = o := Option.some.inj h
          subst e
          exact qe_nret dX9_isAhead_203 rfl rfl
        · refine qe_iconst (v := (1 : Int32)) dX9_isAhead_185 rfl ?_
          refine qe_goto (tgt := 203) dX9_isAhead_186 rfl ?_
          have e : ((1 : Int32), s12) = o := Option.some.inj h
          subst e
          exact qe_nret dX9_isAhead_203 rfl rfl
    · refine qe_iload_n dX9_isAhead_142 0 rfl rfl ?_
      refine qe_if_ge (tgt := 150) dX9_isAhead_143 rfl h (fun _ h => ?_) (fun _ h => ?_)
      · refine qe_iconst (v := (0 : Int32)) dX9_isAhead_150 rfl ?_
        have e : ((0 : Int32), s10) = o := Option.some.inj h
        subst e
        exact qe_nret dX9_isAhead_151 rfl rfl
      · refine qe_iconst (v := (1 : Int32)) dX9_isAhead_146 rfl ?_
        refine qe_goto (tgt := 151) dX9_isAhead_147 rfl ?_
        have e : ((1 : Int32), s10) = o := Option.some.inj h
        subst e
        exact qe_nret dX9_isAhead_151 rfl rfl
  refine qe_tsw_rest (tgt := 204) 4 dX9_isAhead_6 (by decide) (by decide) (by decide) (fun i hi => match i, hi with | 0, _ => Or.inr c0 | 1, _ => Or.inr c1 | 2, _ => Or.inr c2 | 3, _ => Or.inr c3 | i + 4, hi => absurd hi (by omega)) rfl ?_
  refine qe_iconst (v := (0 : Int32)) dX9_isAhead_204 rfl ?_
  have e : ((0 : Int32), s0) = o := Option.some.inj h
  subst e
  exact qe_nret dX9_isAhead_205 rfl rfl

set_option maxRecDepth 20000 in
theorem c_X9_inOrder_L14 {l : Launch} {G : qe_G} {k64 : Int32 → qe_S → Option (qe_S)} {v1 : Int32} (hk64 : ∀ (a3 : Int32) (s : qe_S) (o : qe_S), k64 a3 s = some o → qe_J l G MX9_inOrder 64 [(0, .ref 0), (1, .int v1), (2, .int a3)] [] (qs_w s (qs_TM G)) none (qs_w o (qs_TM G))) : ∀ (n : Nat) (v2 : Int32) (s0 : qe_S) (o : qe_S), g_X9_inOrder_L14 k64 v1 n v2 s0 = some o → qe_J l G MX9_inOrder 14 [(0, .ref 0), (1, .int v1), (2, .int v2)] [] (qs_w s0 (qs_TM G)) none (qs_w o (qs_TM G)) := by
  intro n
  induction n with
  | zero =>
    intro v2 s0 o h
    rw [g_X9_inOrder_L14] at h
    cases h
  | succ n ih =>
    intro v2 s0 o h
    rw [g_X9_inOrder_L14] at h
    refine qe_aload_n dX9_inOrder_14 0 rfl rfl trivial ?_
    refine qs_getR (j := 0) tM_0 rfl fl_RX9_7 dX9_inOrder_15 ?_
    refine qe_iconst (v := (1 : Int32)) dX9_inOrder_18 rfl ?_
    refine qs_ild tM_1 dX9_inOrder_19 h (fun a4 h => ?_)
    refine qe_iconst (v := (nI 5)) dX9_inOrder_20 rfl ?_
    refine qe_icmp_eq (tgt := 64) dX9_inOrder_21 rfl h (fun _ h => ?_) (fun _ h => ?_)
    · exact hk64 _ _ _ h
    · refine qe_iload_n dX9_inOrder_24 2 rfl rfl ?_
      refine qe_if_le (tgt := 64) dX9_inOrder_25 rfl h (fun _ h => ?_) (fun _ h => ?_)
      · exact hk64 _ _ _ h
      · refine qe_aload_n dX9_inOrder_28 0 rfl rfl trivial ?_
        refine qe_iload_n dX9_inOrder_29 1 rfl rfl ?_
        refine qe_aload_n dX9_inOrder_30 0 rfl rfl trivial ?_
        refine qs_getR (j := 5) tM_0 rfl fl_RX9_22 dX9_inOrder_31 ?_
        refine qe_iload_n dX9_inOrder_34 2 rfl rfl ?_
        refine qe_iconst (v := (1 : Int32)) dX9_inOrder_35 rfl ?_
        refine qe_isub dX9_inOrder_36 ?_
        refine qs_ild tM_5 dX9_inOrder_37 h (fun a5 h => ?_)
        refine qm_b_elim h (fun a7 s6 hc h => ?_)
        refine qe_callV1 (st := []) kk_X9_inOrder_X9_isAhead (c_X9_isAhead hc) (qs_at tM_0) rfl rfl rfl (Nat.le_of_ble_eq_true rfl) dX9_inOrder_38 ?_
        refine qe_if_eq (tgt := 64) dX9_inOrder_41 rfl h (fun _ h => ?_) (fun _ h => ?_)
        · exact hk64 _ _ _ h
        · refine qe_aload_n dX9_inOrder_44 0 rfl rfl trivial ?_
          refine qs_getR (j := 5) tM_0 rfl fl_RX9_22 dX9_inOrder_45 ?_
          refine qe_iload_n dX9_inOrder_48 2 rfl rfl ?_
          refine qe_aload_n dX9_inOrder_49 0 rfl rfl trivial ?_
          refine qs_getR (j := 5) tM_0 rfl fl_RX9_22 dX9_inOrder_50 ?_
          refine qe_iload_n dX9_inOrder_53 2 rfl rfl ?_
          refine qe_iconst (v := (1 : Int32)) dX9_inOrder_54 rfl ?_
          refine qe_isub dX9_inOrder_55 ?_
          refine qs_ild tM_5 dX9_inOrder_56 h (fun a8 h => ?_)
          refine qs_ist tM_5 dX9_inOrder_57 h (fun s9 h => ?_)
          refine qe_iincl (lv' := fun a10 => [(2, .int a10), (0, .ref 0), (1, .int v1)]) dX9_inOrder_58 2 rfl rfl (fun _ => rfl) (Nat.le_of_ble_eq_true rfl) h (fun a10 h => ?_)
          refine qe_goto (tgt := 14) dX9_inOrder_61 rfl ?_
          refine qe_sub [1, 2, 0] rfl ?_
          exact ih _ _ _ h

set_option maxRecDepth 20000 in
theorem c_X9_inOrder_L2 {l : Launch} {G : qe_G} : ∀ (n : Nat) (v1 : Int32) (s0 : qe_S) (o : qe_S), g_X9_inOrder_L2 n v1 s0 = some o → qe_J l G MX9_inOrder 2 [(0, .ref 0), (1, .int v1)] [] (qs_w s0 (qs_TM G)) none (qs_w o (qs_TM G)) := by
  intro n
  induction n with
  | zero =>
    intro v1 s0 o h
    rw [g_X9_inOrder_L2] at h
    cases h
  | succ n ih =>
    intro v1 s0 o h
    rw [g_X9_inOrder_L2] at h
    refine qe_iload_n dX9_inOrder_2 1 rfl rfl ?_
    refine qe_aload_n dX9_inOrder_3 0 rfl rfl trivial ?_
    refine qs_getR (j := 0) tM_0 rfl fl_RX9_7 dX9_inOrder_4 ?_
    refine qe_iconst (v := (0 : Int32)) dX9_inOrder_7 rfl ?_
    refine qs_ild tM_1 dX9_inOrder_8 h (fun a2 h => ?_)
    refine qe_icmp_ge (tgt := 98) dX9_inOrder_9 rfl h (fun _ h => ?_) (fun _ h => ?_)
    · have e : s0 = o := Option.some.inj h
      subst e
      exact qe_vret dX9_inOrder_98 rfl
    · refine qe_iload_n dX9_inOrder_12 1 rfl rfl ?_
      refine qe_istore_n (lv' := [(2, .int v1), (0, .ref 0), (1, .int v1)]) dX9_inOrder_13 rfl rfl (Nat.le_of_ble_eq_true rfl) ?_
      refine qe_sub [1, 2, 0] rfl ?_
      refine c_X9_inOrder_L14
        (fun a11 s12 o h => ?_) _ _ _ _ h
      refine qm_j_elim h (fun j91 ej91 h => ?_)
      have hj91 : ∀ (q13 : Int32) (q14 : Int32) (s15 : qe_S) (o : qe_S), j91 q13 q14 s15 = some o → qe_J l G MX9_inOrder 91 [(0, .ref 0), (1, .int v1)] [.int q13, .int q14, .ref 5] (qs_w s15 (qs_TM G)) none (qs_w o (qs_TM G)) := by
        intro q13 q14 s15 o h
        subst ej91
        refine qs_ist tM_5 dX9_inOrder_91 h (fun s16 h => ?_)
        refine qe_iincl (lv' := fun a17 => [(1, .int a17), (0, .ref 0)]) dX9_inOrder_92 1 rfl rfl (fun _ => rfl) (Nat.le_of_ble_eq_true rfl) h (fun a17 h => ?_)
        refine qe_goto (tgt := 2) dX9_inOrder_95 rfl ?_
        refine qe_sub [1, 0] rfl ?_
        exact ih _ _ _ h
      refine qe_aload_n dX9_inOrder_64 0 rfl rfl trivial ?_
      refine qs_getR (j := 5) tM_0 rfl fl_RX9_22 dX9_inOrder_65 ?_
      refine qe_iload_n dX9_inOrder_68 2 rfl rfl ?_
      refine qe_aload_n dX9_inOrder_69 0 rfl rfl trivial ?_
      refine qs_getR (j := 0) tM_0 rfl fl_RX9_7 dX9_inOrder_70 ?_
      refine qe_iconst (v := (1 : Int32)) dX9_inOrder_73 rfl ?_
      refine qs_ild tM_1 dX9_inOrder_74 h (fun a18 h => ?_)
      refine qe_iconst (v := (nI 5)) dX9_inOrder_75 rfl ?_
      refine qe_icmp_ne (tgt := 90) dX9_inOrder_76 rfl h (fun _ h => ?_) (fun _ h => ?_)
      · refine qe_iload_n dX9_inOrder_90 1 rfl rfl ?_
        refine qe_sub [0, 1] rfl ?_
        exact hj91 _ _ _ _ h
      · refine qe_aload_n dX9_inOrder_79 0 rfl rfl trivial ?_
        refine qs_getR (j := 0) tM_0 rfl fl_RX9_7 dX9_inOrder_80 ?_
        refine qe_iconst (v := (nI 2)) dX9_inOrder_83 rfl ?_
        refine qe_iload_n dX9_inOrder_84 1 rfl rfl ?_
        refine qe_iadd dX9_inOrder_85 ?_
        refine qs_ild tM_1 dX9_inOrder_86 h (fun a19 h => ?_)
        refine qe_goto (tgt := 91) dX9_inOrder_87 rfl ?_
        refine qe_sub [0, 1] rfl ?_
        exact hj91 _ _ _ _ h

set_option maxRecDepth 20000 in
theorem c_X9_inOrder {l : Launch} {G : qe_G}  {s0 : qe_S} {o : qe_S} (h : g_X9_inOrder  s0 = some o) : qe_C l G MX9_inOrder [.ref 0] (qs_w s0 (qs_TM G)) none (qs_w o (qs_TM G)) := by
  refine qe_C.of (by decide +kernel) (Nat.le_of_ble_eq_true rfl) ?_
  show qe_J l G MX9_inOrder 0 [(0, .ref 0)] [] (qs_w s0 (qs_TM G)) none (qs_w o (qs_TM G))
  unfold g_X9_inOrder at h
  refine qe_iconst (v := (0 : Int32)) dX9_inOrder_0 rfl ?_
  refine qe_let_i h (fun a1 h => ?_)
  refine qe_istore_n (lv' := [(1, .int a1), (0, .ref 0)]) dX9_inOrder_1 rfl rfl (Nat.le_of_ble_eq_true rfl) ?_
  refine qe_sub [1, 0] rfl ?_
  refine c_X9_inOrder_L2 _ _ _ _ h

set_option maxRecDepth 20000 in
theorem c_X9_place_L2 {l : Launch} {G : qe_G} {v1 : Int32} : ∀ (n : Nat) (v2 : Int32) (s0 : qe_S) (o : Int32 × qe_S), g_X9_place_L2 v1 n v2 s0 = some o → qe_J l G MX9_place 2 [(0, .ref 0), (1, .int v1), (2, .int v2)] [] (qs_w s0 (qs_TM G)) (some (.int o.1)) (qs_w o.2 (qs_TM G)) := by
  intro n
  induction n with
  | zero =>
    intro v2 s0 o h
    rw [g_X9_place_L2] at h
    cases h
  | succ n ih =>
    intro v2 s0 o h
    rw [g_X9_place_L2] at h
    refine qe_aload_n dX9_place_2 0 rfl rfl trivial ?_
    refine qs_getR (j := 5) tM_0 rfl fl_RX9_22 dX9_place_3 ?_
    refine qe_iload_n dX9_place_6 2 rfl rfl ?_
    refine qs_ild tM_5 dX9_place_7 h (fun a2 h => ?_)
    refine qe_iload_n dX9_place_8 1 rfl rfl ?_
    refine qe_icmp_eq (tgt := 18) dX9_place_9 rfl h (fun _ h => ?_) (fun _ h => ?_)
    · refine qe_iload_n dX9_place_18 2 rfl rfl ?_
      have e : (v2, s0) = o := Option.some.inj h
      subst e
      exact qe_iret dX9_place_19 rfl
    · refine qe_iincl (lv' := fun a3 => [(2, .int a3), (0, .ref 0), (1, .int v1)]) dX9_place_12 2 rfl rfl (fun _ => rfl) (Nat.le_of_ble_eq_true rfl) h (fun a3 h => ?_)
      refine qe_goto (tgt := 2) dX9_place_15 rfl ?_
      refine qe_sub [1, 2, 0] rfl ?_
      exact ih _ _ _ h

set_option maxRecDepth 20000 in
theorem c_X9_place {l : Launch} {G : qe_G} {v1 : Int32} {s0 : qe_S} {o : Int32 × qe_S} (h : g_X9_place v1 s0 = some o) : qe_C l G MX9_place [.ref 0, .int v1] (qs_w s0 (qs_TM G)) (some (.int o.1)) (qs_w o.2 (qs_TM G)) := by
  refine qe_C.of (by decide +kernel) (Nat.le_of_ble_eq_true rfl) ?_
  show qe_J l G MX9_place 0 [(0, .ref 0), (1, .int v1)] [] (qs_w s0 (qs_TM G)) (some (.int o.1)) (qs_w o.2 (qs_TM G))
  unfold g_X9_place at h
  refine qe_iconst (v := (0 : Int32)) dX9_place_0 rfl ?_
  refine qe_let_i h (fun a1 h => ?_)
  refine qe_istore_n (lv' := [(2, .int a1), (0, .ref 0), (1, .int v1)]) dX9_place_1 rfl rfl (Nat.le_of_ble_eq_true rfl) ?_
  refine qe_sub [1, 2, 0] rfl ?_
  refine c_X9_place_L2 _ _ _ _ h

set_option maxRecDepth 20000 in
theorem c_X9_of {l : Launch} {G : qe_G} {v1 : Int32} {v2 : Int32} {s0 : qe_S} {o : Int64 × qe_S} (h : g_X9_of v1 v2 s0 = some o) : qe_C l G MX9_of [.ref 0, .int v1, .int v2] (qs_w s0 (qs_TM G)) (some (.long o.1)) (qs_w o.2 (qs_TM G)) := by
  refine qe_C.of (by decide +kernel) (Nat.le_of_ble_eq_true rfl) ?_
  show qe_J l G MX9_of 0 [(0, .ref 0), (1, .int v1), (2, .int v2)] [] (qs_w s0 (qs_TM G)) (some (.long o.1)) (qs_w o.2 (qs_TM G))
  unfold g_X9_of at h
  refine qe_aload_n dX9_of_0 0 rfl rfl trivial ?_
  refine qe_iload_n dX9_of_1 1 rfl rfl ?_
  refine qm_b_elim h (fun a2 s1 hc h => ?_)
  refine qe_callV1 (st := []) kk_X9_of_X9_isUnit (c_X9_isUnit hc) (qs_at tM_0) rfl rfl rfl (Nat.le_of_ble_eq_true rfl) dX9_of_2 ?_
  refine qe_if_eq (tgt := 17) dX9_of_5 rfl h (fun _ h => ?_) (fun _ h => ?_)
  · refine qe_aload_n dX9_of_17 0 rfl rfl trivial ?_
    refine qe_iconst (v := (-1 : Int32)) dX9_of_18 rfl ?_
    refine qm_b_elim h (fun b4 s3 hc h => ?_)
    refine qe_callV1 (st := []) kk_X9_of_X9_noLong (c_X9_noLong hc) (qs_at tM_0) rfl rfl rfl (Nat.le_of_ble_eq_true rfl) dX9_of_19 ?_
    have e : (b4, s3) = o := Option.some.inj h
    subst e
    exact qe_lret dX9_of_22 rfl
  · refine qe_iload_n dX9_of_8 2 rfl rfl ?_
    refine qe_iconst (v := (0 : Int32)) dX9_of_9 rfl ?_
    refine qe_iconst (v := (nI 3)) dX9_of_10 rfl ?_
    refine qm_b_elim h (fun a6 s5 hc h => ?_)
    refine qe_callS1 (st := []) kk_X9_of_X9_within (c_X9_within hc) rfl rfl (Nat.le_of_ble_eq_true rfl) dX9_of_11 ?_
    refine qe_if_ne (tgt := 23) dX9_of_14 rfl h (fun _ h => ?_) (fun _ h => ?_)
    · refine qe_iload_n dX9_of_23 2 rfl rfl ?_
      refine qe_iconst (v := (nI 3)) dX9_of_24 rfl ?_
      refine qe_icmp_ge (tgt := 58) dX9_of_25 rfl h (fun _ h => ?_) (fun _ h => ?_)
      · refine qe_aload_n dX9_of_58 0 rfl rfl trivial ?_
        refine qm_o_elim h (fun s7 hc h => ?_)
        refine qe_callV0 (st := []) kk_X9_of_X9_inOrder (c_X9_inOrder hc) (qs_at tM_0) rfl rfl rfl (Nat.le_of_ble_eq_true rfl) dX9_of_59 ?_
        refine qe_aload_n dX9_of_62 0 rfl rfl trivial ?_
        refine qe_iload_n dX9_of_63 1 rfl rfl ?_
        refine qm_b_elim h (fun a9 s8 hc h => ?_)
        refine qe_callV1 (st := []) kk_X9_of_X9_place (c_X9_place hc) (qs_at tM_0) rfl rfl rfl (Nat.le_of_ble_eq_true rfl) dX9_of_64 ?_
        refine qe_i2l dX9_of_67 ?_
        have e : (a9.toInt64, s8) = o := Option.some.inj h
        subst e
        exact qe_lret dX9_of_68 rfl
      · refine qm_j_elim h (fun j53 ej53 h => ?_)
        have hj53 : ∀ (q10 : Int32) (s11 : qe_S) (o : Int64 × qe_S), j53 q10 s11 = some o → qe_J l G MX9_of 53 [(1, .int v1)] [.int q10, .ref 1] (qs_w s11 (qs_TM G)) (some (.long o.1)) (qs_w o.2 (qs_TM G)) := by
          intro q10 s11 o h
          subst ej53
          refine qe_iload_n dX9_of_53 0 rfl rfl ?_
          refine qe_iadd dX9_of_54 ?_
          refine qs_ild tM_1 dX9_of_55 h (fun a12 h => ?_)
          refine qe_i2l dX9_of_56 ?_
          have e : (a12.toInt64, s11) = o := Option.some.inj h
          subst e
          exact qe_lret dX9_of_57 rfl
        refine qe_aload_n dX9_of_28 0 rfl rfl trivial ?_
        refine qs_getR (j := 0) tM_0 rfl fl_RX9_7 dX9_of_29 ?_
        refine qe_iload_n dX9_of_32 2 rfl rfl ?_
        refine qe_if_ne (tgt := 41) dX9_of_33 rfl h (fun _ h => ?_) (fun _ h => ?_)
        · refine qe_iload_n dX9_of_41 2 rfl rfl ?_
          refine qe_iconst (v := (1 : Int32)) dX9_of_42 rfl ?_
          refine qe_icmp_ne (tgt := 51) dX9_of_43 rfl h (fun _ h => ?_) (fun _ h => ?_)
          · refine qe_bipush (v := (nI 26)) dX9_of_51 rfl ?_
            refine qe_sub [1] rfl ?_
            exact hj53 _ _ _ h
          · refine qe_bipush (v := (nI 38)) dX9_of_46 rfl ?_
            refine qe_goto (tgt := 53) dX9_of_48 rfl ?_
            refine qe_sub [1] rfl ?_
            exact hj53 _ _ _ h
        · refine qe_bipush (v := (nI 14)) dX9_of_36 rfl ?_
          refine qe_goto (tgt := 53) dX9_of_38 rfl ?_
          refine qe_sub [1] rfl ?_
          exact hj53 _ _ _ h
    · refine qe_aload_n dX9_of_17 0 rfl rfl trivial ?_
      refine qe_iconst (v := (-1 : Int32)) dX9_of_18 rfl ?_
      refine qm_b_elim h (fun b14 s13 hc h => ?_)
      refine qe_callV1 (st := []) kk_X9_of_X9_noLong (c_X9_noLong hc) (qs_at tM_0) rfl rfl rfl (Nat.le_of_ble_eq_true rfl) dX9_of_19 ?_
      have e : (b14, s13) = o := Option.some.inj h
      subst e
      exact qe_lret dX9_of_22 rfl

set_option maxRecDepth 20000 in
theorem c_X9_isPart {l : Launch} {G : qe_G} {v0 : Int32} {s0 : qe_S} {o : Int32 × qe_S} (h : g_X9_isPart v0 s0 = some o) : qe_C l G MX9_isPart [.int v0] (qs_w s0 (qs_TM G)) (some (.int o.1)) (qs_w o.2 (qs_TM G)) := by
  refine qe_C.of (by decide +kernel) (Nat.le_of_ble_eq_true rfl) ?_
  show qe_J l G MX9_isPart 0 [(0, .int v0)] [] (qs_w s0 (qs_TM G)) (some (.int o.1)) (qs_w o.2 (qs_TM G))
  unfold g_X9_isPart at h
  refine qe_iload_n dX9_isPart_0 0 rfl rfl ?_
  refine qe_iconst (v := (0 : Int32)) dX9_isPart_1 rfl ?_
  refine qe_iconst (v := (1 : Int32)) dX9_isPart_2 rfl ?_
  refine qm_b_elim h (fun a2 s1 hc h => ?_)
  refine qe_callS1 (st := []) kk_X9_isPart_X9_within (c_X9_within hc) rfl rfl (Nat.le_of_ble_eq_true rfl) dX9_isPart_3 ?_
  exact qe_zret dX9_isPart_6 rfl h (fun h => by have e : (a2, s1) = o := Option.some.inj h; subst e; exact ⟨rfl, rfl⟩)

set_option maxRecDepth 20000 in
theorem c_X9_divisor_L6 {l : Launch} {G : qe_G} {k31 : Int64 → qe_S → Option (Int64 × qe_S)} (hk31 : ∀ (b1 : Int64) (s : qe_S) (o : Int64 × qe_S), k31 b1 s = some o → qe_J l G MX9_divisor 31 [(4, .long b1)] [] (qs_w s (qs_TM G)) (some (.long o.1)) (qs_w o.2 (qs_TM G))) : ∀ (n : Nat) (v4 : Int64) (v6 : Int64) (s0 : qe_S) (o : Int64 × qe_S), g_X9_divisor_L6 k31 n v4 v6 s0 = some o → qe_J l G MX9_divisor 6 [(4, .long v4), (6, .long v6)] [] (qs_w s0 (qs_TM G)) (some (.long o.1)) (qs_w o.2 (qs_TM G)) := by
  intro n
  induction n with
  | zero =>
    intro v4 v6 s0 o h
    rw [g_X9_divisor_L6] at h
    cases h
  | succ n ih =>
    intro v4 v6 s0 o h
    rw [g_X9_divisor_L6] at h
    refine qe_lload dX9_divisor_6 1 rfl ?_
    refine qe_lconst (v := 0) dX9_divisor_8 rfl ?_
    refine qe_lcmp_eq (tgt := 31) dX9_divisor_9 dX9_divisor_10 rfl h (fun _ h => ?_) (fun _ h => ?_)
    · refine qe_sub [0] rfl ?_
      exact hk31 _ _ _ h
    · refine qe_lload dX9_divisor_13 0 rfl ?_
      refine qe_lload dX9_divisor_15 1 rfl ?_
      refine qe_lrem dX9_divisor_17 h (fun h => ?_)
      refine qe_let_l h (fun b2 h => ?_)
      refine qe_lstore (lv' := [(8, .long b2), (4, .long v4), (6, .long v6)]) dX9_divisor_18 rfl (Nat.le_of_ble_eq_true rfl) ?_
      refine qe_lload dX9_divisor_20 2 rfl ?_
      refine qe_lstore (lv' := [(4, .long v6), (8, .long b2), (6, .long v6)]) dX9_divisor_22 rfl (Nat.le_of_ble_eq_true rfl) ?_
      refine qe_lload dX9_divisor_24 1 rfl ?_
      refine qe_lstore (lv' := [(6, .long b2), (4, .long v6), (8, .long b2)]) dX9_divisor_26 rfl (Nat.le_of_ble_eq_true rfl) ?_
      refine qe_goto (tgt := 6) dX9_divisor_28 rfl ?_
      refine qe_sub [1, 0] rfl ?_
      exact ih _ _ _ _ h

set_option maxRecDepth 20000 in
theorem c_X9_divisor {l : Launch} {G : qe_G} {v0 : Int64} {v2 : Int64} {s0 : qe_S} {o : Int64 × qe_S} (h : g_X9_divisor v0 v2 s0 = some o) : qe_C l G MX9_divisor [.long v0, .long v2] (qs_w s0 (qs_TM G)) (some (.long o.1)) (qs_w o.2 (qs_TM G)) := by
  refine qe_C.of (by decide +kernel) (Nat.le_of_ble_eq_true rfl) ?_
  show qe_J l G MX9_divisor 0 [(0, .long v0), (2, .long v2)] [] (qs_w s0 (qs_TM G)) (some (.long o.1)) (qs_w o.2 (qs_TM G))
  unfold g_X9_divisor at h
  refine qe_lload_n dX9_divisor_0 0 rfl rfl ?_
  refine qe_lstore (lv' := [(4, .long v0), (0, .long v0), (2, .long v2)]) dX9_divisor_1 rfl (Nat.le_of_ble_eq_true rfl) ?_
  refine qe_lload_n dX9_divisor_3 2 rfl rfl ?_
  refine qe_lstore (lv' := [(6, .long v2), (4, .long v0), (0, .long v0), (2, .long v2)]) dX9_divisor_4 rfl (Nat.le_of_ble_eq_true rfl) ?_
  refine qe_sub [1, 0] rfl ?_
  refine c_X9_divisor_L6
    (fun b3 s4 o h => ?_) _ _ _ _ _ h
  refine qe_lload dX9_divisor_31 0 rfl ?_
  refine qe_lconst (v := 0) dX9_divisor_33 rfl ?_
  refine qe_lcmp_ge (tgt := 44) dX9_divisor_34 dX9_divisor_35 rfl h (fun _ h => ?_) (fun _ h => ?_)
  · refine qe_lload dX9_divisor_44 0 rfl ?_
    have e : (b3, s4) = o := Option.some.inj h
    subst e
    exact qe_lret dX9_divisor_46 rfl
  · refine qe_lload dX9_divisor_38 0 rfl ?_
    refine qe_lneg dX9_divisor_40 ?_
    refine qe_goto (tgt := 46) dX9_divisor_41 rfl ?_
    have e : ((-b3), s4) = o := Option.some.inj h
    subst e
    exact qe_lret dX9_divisor_46 rfl

set_option maxRecDepth 20000 in
theorem c_X9_lowest {l : Launch} {G : qe_G} {v0 : Int64} {v2 : Int64} {v4 : Int32} {s0 : qe_S} {o : Int64 × qe_S} (h : g_X9_lowest v0 v2 v4 s0 = some o) : qe_C l G MX9_lowest [.long v0, .long v2, .int v4] (qs_w s0 (qs_TM G)) (some (.long o.1)) (qs_w o.2 (qs_TM G)) := by
  refine qe_C.of (by decide +kernel) (Nat.le_of_ble_eq_true rfl) ?_
  show qe_J l G MX9_lowest 0 [(0, .long v0), (2, .long v2), (4, .int v4)] [] (qs_w s0 (qs_TM G)) (some (.long o.1)) (qs_w o.2 (qs_TM G))
  unfold g_X9_lowest at h
  refine qm_j_elim h (fun j10 ej10 h => ?_)
  have hj10 : ∀ (q1 : Int64) (s2 : qe_S) (o : Int64 × qe_S), j10 q1 s2 = some o → qe_J l G MX9_lowest 10 [(0, .long v0), (2, .long v2)] [.long q1] (qs_w s2 (qs_TM G)) (some (.long o.1)) (qs_w o.2 (qs_TM G)) := by
    intro q1 s2 o h
    subst ej10
    refine qe_lload_n dX9_lowest_10 0 rfl rfl ?_
    refine qe_lload_n dX9_lowest_11 1 rfl rfl ?_
    refine qm_b_elim h (fun b4 s3 hc h => ?_)
    refine qe_callS1 (st := [.long q1]) kk_X9_lowest_X9_divisor (c_X9_divisor hc) rfl rfl (Nat.le_of_ble_eq_true rfl) dX9_lowest_12 ?_
    refine qe_ldiv dX9_lowest_15 h (fun h => ?_)
    have e : ((q1 / b4), s3) = o := Option.some.inj h
    subst e
    exact qe_lret dX9_lowest_16 rfl
  refine qe_iload dX9_lowest_0 2 rfl ?_
  refine qe_if_ne (tgt := 9) dX9_lowest_2 rfl h (fun _ h => ?_) (fun _ h => ?_)
  · refine qe_lload_n dX9_lowest_9 1 rfl rfl ?_
    refine qe_sub [0, 1] rfl ?_
    exact hj10 _ _ _ h
  · refine qe_lload_n dX9_lowest_5 0 rfl rfl ?_
    refine qe_goto (tgt := 10) dX9_lowest_6 rfl ?_
    refine qe_sub [0, 1] rfl ?_
    exact hj10 _ _ _ h

set_option maxRecDepth 20000 in
theorem c_X9_fraction {l : Launch} {G : qe_G} {v1 : Int32} {v2 : Int32} {v3 : Int32} {s0 : qe_S} {o : Int64 × qe_S} (h : g_X9_fraction v1 v2 v3 s0 = some o) : qe_C l G MX9_fraction [.ref 0, .int v1, .int v2, .int v3] (qs_w s0 (qs_TM G)) (some (.long o.1)) (qs_w o.2 (qs_TM G)) := by
  refine qe_C.of (by decide +kernel) (Nat.le_of_ble_eq_true rfl) ?_
  show qe_J l G MX9_fraction 0 [(0, .ref 0), (1, .int v1), (2, .int v2), (3, .int v3)] [] (qs_w s0 (qs_TM G)) (some (.long o.1)) (qs_w o.2 (qs_TM G))
  unfold g_X9_fraction at h
  refine qe_aload_n dX9_fraction_0 0 rfl rfl trivial ?_
  refine qe_iload_n dX9_fraction_1 1 rfl rfl ?_
  refine qm_b_elim h (fun a2 s1 hc h => ?_)
  refine qe_callV1 (st := []) kk_X9_fraction_X9_isUnit (c_X9_isUnit hc) (qs_at tM_0) rfl rfl rfl (Nat.le_of_ble_eq_true rfl) dX9_fraction_2 ?_
  refine qe_if_eq (tgt := 17) dX9_fraction_5 rfl h (fun _ h => ?_) (fun _ h => ?_)
  · refine qe_aload_n dX9_fraction_17 0 rfl rfl trivial ?_
    refine qe_iconst (v := (-1 : Int32)) dX9_fraction_18 rfl ?_
    refine qm_b_elim h (fun b4 s3 hc h => ?_)
    refine qe_callV1 (st := []) kk_X9_fraction_X9_noLong (c_X9_noLong hc) (qs_at tM_0) rfl rfl rfl (Nat.le_of_ble_eq_true rfl) dX9_fraction_19 ?_
    have e : (b4, s3) = o := Option.some.inj h
    subst e
    exact qe_lret dX9_fraction_22 rfl
  · refine qe_iload_n dX9_fraction_8 2 rfl rfl ?_
    refine qe_iconst (v := (0 : Int32)) dX9_fraction_9 rfl ?_
    refine qe_iconst (v := (nI 2)) dX9_fraction_10 rfl ?_
    refine qm_b_elim h (fun a6 s5 hc h => ?_)
    refine qe_callS1 (st := []) kk_X9_fraction_X9_within (c_X9_within hc) rfl rfl (Nat.le_of_ble_eq_true rfl) dX9_fraction_11 ?_
    refine qe_if_ne (tgt := 23) dX9_fraction_14 rfl h (fun _ h => ?_) (fun _ h => ?_)
    · refine qe_iload_n dX9_fraction_23 3 rfl rfl ?_
      refine qm_b_elim h (fun a8 s7 hc h => ?_)
      refine qe_callS1 (st := []) kk_X9_fraction_X9_isPart (c_X9_isPart hc) rfl rfl (Nat.le_of_ble_eq_true rfl) dX9_fraction_24 ?_
      refine qe_if_eq (tgt := 67) dX9_fraction_27 rfl h (fun _ h => ?_) (fun _ h => ?_)
      · refine qe_aload_n dX9_fraction_67 0 rfl rfl trivial ?_
        refine qe_bipush (v := (-2 : Int32)) dX9_fraction_68 rfl ?_
        refine qm_b_elim h (fun b10 s9 hc h => ?_)
        refine qe_callV1 (st := []) kk_X9_fraction_X9_noLong (c_X9_noLong hc) (qs_at tM_0) rfl rfl rfl (Nat.le_of_ble_eq_true rfl) dX9_fraction_70 ?_
        have e : (b10, s9) = o := Option.some.inj h
        subst e
        exact qe_lret dX9_fraction_73 rfl
      · refine qe_aload_n dX9_fraction_30 0 rfl rfl trivial ?_
        refine qs_getR (j := 0) tM_0 rfl fl_RX9_7 dX9_fraction_31 ?_
        refine qe_bipush (v := (nI 50)) dX9_fraction_34 rfl ?_
        refine qe_bipush (v := (nI 12)) dX9_fraction_36 rfl ?_
        refine qe_iload_n dX9_fraction_38 2 rfl rfl ?_
        refine qe_imul dX9_fraction_39 ?_
        refine qe_iadd dX9_fraction_40 ?_
        refine qe_iload_n dX9_fraction_41 1 rfl rfl ?_
        refine qe_iadd dX9_fraction_42 ?_
        refine qs_ild tM_1 dX9_fraction_43 h (fun a11 h => ?_)
        refine qe_i2l dX9_fraction_44 ?_
        refine qe_aload_n dX9_fraction_45 0 rfl rfl trivial ?_
        refine qs_getR (j := 0) tM_0 rfl fl_RX9_7 dX9_fraction_46 ?_
        refine qe_bipush (v := (nI 86)) dX9_fraction_49 rfl ?_
        refine qe_bipush (v := (nI 12)) dX9_fraction_51 rfl ?_
        refine qe_iload_n dX9_fraction_53 2 rfl rfl ?_
        refine qe_imul dX9_fraction_54 ?_
        refine qe_iadd dX9_fraction_55 ?_
        refine qe_iload_n dX9_fraction_56 1 rfl rfl ?_
        refine qe_iadd dX9_fraction_57 ?_
        refine qs_ild tM_1 dX9_fraction_58 h (fun a12 h => ?_)
        refine qe_i2l dX9_fraction_59 ?_
        refine qe_iload_n dX9_fraction_60 3 rfl rfl ?_
        refine qm_b_elim h (fun b14 s13 hc h => ?_)
        refine qe_callS1 (st := []) kk_X9_fraction_X9_lowest (c_X9_lowest hc) rfl rfl (Nat.le_of_ble_eq_true rfl) dX9_fraction_61 ?_
        refine qe_goto (tgt := 73) dX9_fraction_64 rfl ?_
        have e : (b14, s13) = o := Option.some.inj h
        subst e
        exact qe_lret dX9_fraction_73 rfl
    · refine qe_aload_n dX9_fraction_17 0 rfl rfl trivial ?_
      refine qe_iconst (v := (-1 : Int32)) dX9_fraction_18 rfl ?_
      refine qm_b_elim h (fun b16 s15 hc h => ?_)
      refine qe_callV1 (st := []) kk_X9_fraction_X9_noLong (c_X9_noLong hc) (qs_at tM_0) rfl rfl rfl (Nat.le_of_ble_eq_true rfl) dX9_fraction_19 ?_
      have e : (b16, s15) = o := Option.some.inj h
      subst e
      exact qe_lret dX9_fraction_22 rfl

set_option maxRecDepth 20000 in
theorem c_X9_order {l : Launch} {G : qe_G} {v1 : Int32} {s0 : qe_S} {o : Int32 × qe_S} (h : g_X9_order v1 s0 = some o) : qe_C l G MX9_order [.ref 0, .int v1] (qs_w s0 (qs_TM G)) (some (.int o.1)) (qs_w o.2 (qs_TM G)) := by
  refine qe_C.of (by decide +kernel) (Nat.le_of_ble_eq_true rfl) ?_
  show qe_J l G MX9_order 0 [(0, .ref 0), (1, .int v1)] [] (qs_w s0 (qs_TM G)) (some (.int o.1)) (qs_w o.2 (qs_TM G))
  unfold g_X9_order at h
  refine qe_iload_n dX9_order_0 1 rfl rfl ?_
  refine qe_iconst (v := (0 : Int32)) dX9_order_1 rfl ?_
  refine qe_iconst (v := (nI 5)) dX9_order_2 rfl ?_
  refine qm_b_elim h (fun a2 s1 hc h => ?_)
  refine qe_callS1 (st := []) kk_X9_order_X9_within (c_X9_within hc) rfl rfl (Nat.le_of_ble_eq_true rfl) dX9_order_3 ?_
  refine qe_if_ne (tgt := 16) dX9_order_6 rfl h (fun _ h => ?_) (fun _ h => ?_)
  · refine qe_aload_n dX9_order_16 0 rfl rfl trivial ?_
    refine qs_getR (j := 0) tM_0 rfl fl_RX9_7 dX9_order_17 ?_
    refine qe_iconst (v := (1 : Int32)) dX9_order_20 rfl ?_
    refine qs_ild tM_1 dX9_order_21 h (fun a3 h => ?_)
    refine qe_istore_n (lv' := [(2, .int a3), (0, .ref 0), (1, .int v1)]) dX9_order_22 rfl rfl (Nat.le_of_ble_eq_true rfl) ?_
    refine qe_aload_n dX9_order_23 1 rfl rfl trivial ?_
    refine qs_getR (j := 0) tM_0 rfl fl_RX9_7 dX9_order_24 ?_
    refine qe_iconst (v := (1 : Int32)) dX9_order_27 rfl ?_
    refine qe_iload_n dX9_order_28 2 rfl rfl ?_
    refine qs_ist tM_1 dX9_order_29 h (fun s4 h => ?_)
    refine qe_iload_n dX9_order_30 0 rfl rfl ?_
    have e : (a3, s4) = o := Option.some.inj h
    subst e
    exact qe_iret dX9_order_31 rfl
  · refine qe_aload_n dX9_order_9 0 rfl rfl trivial ?_
    refine qe_bipush (v := (-2 : Int32)) dX9_order_10 rfl ?_
    refine qm_b_elim h (fun a6 s5 hc h => ?_)
    refine qe_callV1 (st := []) kk_X9_order_X9_no (c_X9_no hc) (qs_at tM_0) rfl rfl rfl (Nat.le_of_ble_eq_true rfl) dX9_order_12 ?_
    have e : (a6, s5) = o := Option.some.inj h
    subst e
    exact qe_iret dX9_order_15 rfl

set_option maxRecDepth 20000 in
theorem c_X9_at {l : Launch} {G : qe_G} {v1 : Int32} {s0 : qe_S} {o : Int32 × qe_S} (h : g_X9_at v1 s0 = some o) : qe_C l G MX9_at [.ref 0, .int v1] (qs_w s0 (qs_TM G)) (some (.int o.1)) (qs_w o.2 (qs_TM G)) := by
  refine qe_C.of (by decide +kernel) (Nat.le_of_ble_eq_true rfl) ?_
  show qe_J l G MX9_at 0 [(0, .ref 0), (1, .int v1)] [] (qs_w s0 (qs_TM G)) (some (.int o.1)) (qs_w o.2 (qs_TM G))
  unfold g_X9_at at h
  refine qe_aload_n dX9_at_0 0 rfl rfl trivial ?_
  refine qe_iload_n dX9_at_1 1 rfl rfl ?_
  refine qm_b_elim h (fun a2 s1 hc h => ?_)
  refine qe_callV1 (st := []) kk_X9_at_X9_isUnit (c_X9_isUnit hc) (qs_at tM_0) rfl rfl rfl (Nat.le_of_ble_eq_true rfl) dX9_at_2 ?_
  refine qe_if_ne (tgt := 14) dX9_at_5 rfl h (fun _ h => ?_) (fun _ h => ?_)
  · refine qe_aload_n dX9_at_14 0 rfl rfl trivial ?_
    refine qm_o_elim h (fun s3 hc h => ?_)
    refine qe_callV0 (st := []) kk_X9_at_X9_inOrder (c_X9_inOrder hc) (qs_at tM_0) rfl rfl rfl (Nat.le_of_ble_eq_true rfl) dX9_at_15 ?_
    refine qe_aload_n dX9_at_18 0 rfl rfl trivial ?_
    refine qs_getR (j := 5) tM_0 rfl fl_RX9_22 dX9_at_19 ?_
    refine qe_iload_n dX9_at_22 1 rfl rfl ?_
    refine qs_ild tM_5 dX9_at_23 h (fun a4 h => ?_)
    have e : (a4, s3) = o := Option.some.inj h
    subst e
    exact qe_iret dX9_at_24 rfl
  · refine qe_aload_n dX9_at_8 0 rfl rfl trivial ?_
    refine qe_iconst (v := (-1 : Int32)) dX9_at_9 rfl ?_
    refine qm_b_elim h (fun a6 s5 hc h => ?_)
    refine qe_callV1 (st := []) kk_X9_at_X9_no (c_X9_no hc) (qs_at tM_0) rfl rfl rfl (Nat.le_of_ble_eq_true rfl) dX9_at_10 ?_
    have e : (a6, s5) = o := Option.some.inj h
    subst e
    exact qe_iret dX9_at_13 rfl

set_option maxRecDepth 20000 in
theorem c_X9_swaps {l : Launch} {G : qe_G} {v1 : Int32} {v2 : Int32} {s0 : qe_S} {o : Int32 × qe_S} (h : g_X9_swaps v1 v2 s0 = some o) : qe_C l G MX9_swaps [.ref 0, .int v1, .int v2] (qs_w s0 (qs_TM G)) (some (.int o.1)) (qs_w o.2 (qs_TM G)) := by
  refine qe_C.of (by decide +kernel) (Nat.le_of_ble_eq_true rfl) ?_
  show qe_J l G MX9_swaps 0 [(0, .ref 0), (1, .int v1), (2, .int v2)] [] (qs_w s0 (qs_TM G)) (some (.int o.1)) (qs_w o.2 (qs_TM G))
  unfold g_X9_swaps at h
  refine qe_aload_n dX9_swaps_0 0 rfl rfl trivial ?_
  refine qe_iload_n dX9_swaps_1 1 rfl rfl ?_
  refine qm_b_elim h (fun a2 s1 hc h => ?_)
  refine qe_callV1 (st := []) kk_X9_swaps_X9_isUnit (c_X9_isUnit hc) (qs_at tM_0) rfl rfl rfl (Nat.le_of_ble_eq_true rfl) dX9_swaps_2 ?_
  refine qe_if_eq (tgt := 16) dX9_swaps_5 rfl h (fun _ h => ?_) (fun _ h => ?_)
  · refine qe_iconst (v := (-1 : Int32)) dX9_swaps_16 rfl ?_
    have e : ((-1 : Int32), s1) = o := Option.some.inj h
    subst e
    exact qe_iret dX9_swaps_17 rfl
  · refine qe_aload_n dX9_swaps_8 0 rfl rfl trivial ?_
    refine qe_iload_n dX9_swaps_9 2 rfl rfl ?_
    refine qm_b_elim h (fun a4 s3 hc h => ?_)
    refine qe_callV1 (st := []) kk_X9_swaps_X9_isUnit (c_X9_isUnit hc) (qs_at tM_0) rfl rfl rfl (Nat.le_of_ble_eq_true rfl) dX9_swaps_10 ?_
    refine qe_if_ne (tgt := 18) dX9_swaps_13 rfl h (fun _ h => ?_) (fun _ h => ?_)
    · refine qe_iload_n dX9_swaps_18 1 rfl rfl ?_
      refine qe_iload_n dX9_swaps_19 2 rfl rfl ?_
      refine qe_icmp_ne (tgt := 26) dX9_swaps_20 rfl h (fun _ h => ?_) (fun _ h => ?_)
      · refine qe_aload_n dX9_swaps_26 0 rfl rfl trivial ?_
        refine qs_getR (j := 0) tM_0 rfl fl_RX9_7 dX9_swaps_27 ?_
        refine qe_iconst (v := (nI 2)) dX9_swaps_30 rfl ?_
        refine qe_iload_n dX9_swaps_31 1 rfl rfl ?_
        refine qe_iadd dX9_swaps_32 ?_
        refine qs_ild tM_1 dX9_swaps_33 h (fun a5 h => ?_)
        refine qe_istore_n (lv' := [(3, .int a5), (0, .ref 0), (1, .int v1), (2, .int v2)]) dX9_swaps_34 rfl rfl (Nat.le_of_ble_eq_true rfl) ?_
        refine qe_aload_n dX9_swaps_35 1 rfl rfl trivial ?_
        refine qs_getR (j := 0) tM_0 rfl fl_RX9_7 dX9_swaps_36 ?_
        refine qe_iconst (v := (nI 2)) dX9_swaps_39 rfl ?_
        refine qe_iload_n dX9_swaps_40 2 rfl rfl ?_
        refine qe_iadd dX9_swaps_41 ?_
        refine qe_aload_n dX9_swaps_42 1 rfl rfl trivial ?_
        refine qs_getR (j := 0) tM_0 rfl fl_RX9_7 dX9_swaps_43 ?_
        refine qe_iconst (v := (nI 2)) dX9_swaps_46 rfl ?_
        refine qe_iload_n dX9_swaps_47 3 rfl rfl ?_
        refine qe_iadd dX9_swaps_48 ?_
        refine qs_ild tM_1 dX9_swaps_49 h (fun a6 h => ?_)
        refine qs_ist tM_1 dX9_swaps_50 h (fun s7 h => ?_)
        refine qe_aload_n dX9_swaps_51 1 rfl rfl trivial ?_
        refine qs_getR (j := 0) tM_0 rfl fl_RX9_7 dX9_swaps_52 ?_
        refine qe_iconst (v := (nI 2)) dX9_swaps_55 rfl ?_
        refine qe_iload_n dX9_swaps_56 3 rfl rfl ?_
        refine qe_iadd dX9_swaps_57 ?_
        refine qe_iload_n dX9_swaps_58 0 rfl rfl ?_
        refine qs_ist tM_1 dX9_swaps_59 h (fun s8 h => ?_)
        refine qe_aload_n dX9_swaps_60 1 rfl rfl trivial ?_
        refine qs_getR (j := 0) tM_0 rfl fl_RX9_7 dX9_swaps_61 ?_
        refine qe_iconst (v := (nI 2)) dX9_swaps_64 rfl ?_
        refine qe_iload_n dX9_swaps_65 2 rfl rfl ?_
        refine qe_iadd dX9_swaps_66 ?_
        refine qs_ild tM_1 dX9_swaps_67 h (fun a9 h => ?_)
        have e : (a9, s8) = o := Option.some.inj h
        subst e
        exact qe_iret dX9_swaps_68 rfl
      · refine qe_bipush (v := (-5 : Int32)) dX9_swaps_23 rfl ?_
        have e : ((-5 : Int32), s3) = o := Option.some.inj h
        subst e
        exact qe_iret dX9_swaps_25 rfl
    · refine qe_iconst (v := (-1 : Int32)) dX9_swaps_16 rfl ?_
      have e : ((-1 : Int32), s3) = o := Option.some.inj h
      subst e
      exact qe_iret dX9_swaps_17 rfl

set_option maxRecDepth 20000 in
theorem c_X9_swap {l : Launch} {G : qe_G} {v1 : Int32} {v2 : Int32} {s0 : qe_S} {o : Int32 × qe_S} (h : g_X9_swap v1 v2 s0 = some o) : qe_C l G MX9_swap [.ref 0, .int v1, .int v2] (qs_w s0 (qs_TM G)) (some (.int o.1)) (qs_w o.2 (qs_TM G)) := by
  refine qe_C.of (by decide +kernel) (Nat.le_of_ble_eq_true rfl) ?_
  show qe_J l G MX9_swap 0 [(0, .ref 0), (1, .int v1), (2, .int v2)] [] (qs_w s0 (qs_TM G)) (some (.int o.1)) (qs_w o.2 (qs_TM G))
  unfold g_X9_swap at h
  refine qe_aload_n dX9_swap_0 0 rfl rfl trivial ?_
  refine qe_iload_n dX9_swap_1 1 rfl rfl ?_
  refine qe_iload_n dX9_swap_2 2 rfl rfl ?_
  refine qm_b_elim h (fun a2 s1 hc h => ?_)
  refine qe_callV1 (st := []) kk_X9_swap_X9_swaps (c_X9_swaps hc) (qs_at tM_0) rfl rfl rfl (Nat.le_of_ble_eq_true rfl) dX9_swap_3 ?_
  refine qe_istore_n (lv' := [(3, .int a2), (0, .ref 0), (1, .int v1), (2, .int v2)]) dX9_swap_6 rfl rfl (Nat.le_of_ble_eq_true rfl) ?_
  refine qe_iload_n dX9_swap_7 0 rfl rfl ?_
  refine qe_if_ge (tgt := 19) dX9_swap_8 rfl h (fun _ h => ?_) (fun _ h => ?_)
  · refine qe_iload_n dX9_swap_19 0 rfl rfl ?_
    have e : (a2, s1) = o := Option.some.inj h
    subst e
    exact qe_iret dX9_swap_20 rfl
  · refine qe_aload_n dX9_swap_11 1 rfl rfl trivial ?_
    refine qe_iload_n dX9_swap_12 0 rfl rfl ?_
    refine qm_b_elim h (fun a4 s3 hc h => ?_)
    refine qe_callV1 (st := []) kk_X9_swap_X9_no (c_X9_no hc) (qs_at tM_0) rfl rfl rfl (Nat.le_of_ble_eq_true rfl) dX9_swap_13 ?_
    refine qe_goto (tgt := 20) dX9_swap_16 rfl ?_
    have e : (a4, s3) = o := Option.some.inj h
    subst e
    exact qe_iret dX9_swap_20 rfl

set_option maxRecDepth 20000 in
theorem c_X9_meets_L2 {l : Launch} {G : qe_G} {k64 : qe_S → Option (Int32 × qe_S)} {v1 : Int32} (hk64 : ∀  (s : qe_S) (o : Int32 × qe_S), k64  s = some o → qe_J l G MX9_meets 64 [(0, .ref 0)] [] (qs_w s (qs_TM G)) (some (.int o.1)) (qs_w o.2 (qs_TM G))) : ∀ (n : Nat) (v2 : Int32) (s0 : qe_S) (o : Int32 × qe_S), g_X9_meets_L2 k64 v1 n v2 s0 = some o → qe_J l G MX9_meets 2 [(0, .ref 0), (1, .int v1), (2, .int v2)] [] (qs_w s0 (qs_TM G)) (some (.int o.1)) (qs_w o.2 (qs_TM G)) := by
  intro n
  induction n with
  | zero =>
    intro v2 s0 o h
    rw [g_X9_meets_L2] at h
    cases h
  | succ n ih =>
    intro v2 s0 o h
    rw [g_X9_meets_L2] at h
    refine qe_iload_n dX9_meets_2 2 rfl rfl ?_
    refine qe_aload_n dX9_meets_3 0 rfl rfl trivial ?_
    refine qs_getR (j := 0) tM_0 rfl fl_RX9_7 dX9_meets_4 ?_
    refine qe_iconst (v := (0 : Int32)) dX9_meets_7 rfl ?_
    refine qs_ild tM_1 dX9_meets_8 h (fun a2 h => ?_)
    refine qe_icmp_ge (tgt := 64) dX9_meets_9 rfl h (fun _ h => ?_) (fun _ h => ?_)
    · refine qe_sub [0] rfl ?_
      exact hk64  _ _ h
    · refine qe_aload_n dX9_meets_12 0 rfl rfl trivial ?_
      refine qs_getL (j := 6) tM_0 rfl fl_RX9_124 dX9_meets_13 ?_
      refine qe_ldc2 kc_RX9_128 dX9_meets_16 ?_
      refine qe_lcmp_gt (tgt := 64) dX9_meets_19 dX9_meets_20 rfl h (fun _ h => ?_) (fun _ h => ?_)
      · refine qe_sub [0] rfl ?_
        exact hk64  _ _ h
      · refine qe_aload_n dX9_meets_23 0 rfl rfl trivial ?_
        refine qs_getR (j := 0) tM_0 rfl fl_RX9_7 dX9_meets_24 ?_
        refine qe_bipush (v := (nI 86)) dX9_meets_27 rfl ?_
        refine qe_bipush (v := (nI 12)) dX9_meets_29 rfl ?_
        refine qe_iload_n dX9_meets_31 1 rfl rfl ?_
        refine qe_imul dX9_meets_32 ?_
        refine qe_iadd dX9_meets_33 ?_
        refine qe_iload_n dX9_meets_34 2 rfl rfl ?_
        refine qe_iadd dX9_meets_35 ?_
        refine qs_ild tM_1 dX9_meets_36 h (fun a3 h => ?_)
        refine qe_i2l dX9_meets_37 ?_
        refine qe_let_l h (fun b4 h => ?_)
        refine qe_lstore_n (lv' := [(3, .long b4), (0, .ref 0), (1, .int v1), (2, .int v2)]) dX9_meets_38 rfl rfl (Nat.le_of_ble_eq_true rfl) ?_
        refine qe_aload_n dX9_meets_39 1 rfl rfl trivial ?_
        refine qe_aload_n dX9_meets_40 1 rfl rfl trivial ?_
        refine qs_getL (j := 6) tM_0 rfl fl_RX9_124 dX9_meets_41 ?_
        refine qe_aload_n dX9_meets_44 1 rfl rfl trivial ?_
        refine qs_getL (j := 6) tM_0 rfl fl_RX9_124 dX9_meets_45 ?_
        refine qe_lload_n dX9_meets_48 0 rfl rfl ?_
        refine qm_b_elim h (fun b6 s5 hc h => ?_)
        refine qe_callS1 (st := [.long (s0.2 0 6), .ref 0]) kk_X9_meets_X9_divisor (c_X9_divisor hc) rfl rfl (Nat.le_of_ble_eq_true rfl) dX9_meets_49 ?_
        refine qe_ldiv dX9_meets_52 h (fun h => ?_)
        refine qe_lload_n dX9_meets_53 0 rfl rfl ?_
        refine qe_lmul dX9_meets_54 ?_
        refine qs_putL (j := 6) tM_0 rfl fp_RX9_124 dX9_meets_55 h (fun s7 h => ?_)
        refine qe_iincl (lv' := fun a8 => [(2, .int a8), (3, .long b4), (0, .ref 0), (1, .int v1)]) dX9_meets_58 3 rfl rfl (fun _ => rfl) (Nat.le_of_ble_eq_true rfl) h (fun a8 h => ?_)
        refine qe_goto (tgt := 2) dX9_meets_61 rfl ?_
        refine qe_sub [2, 3, 0] rfl ?_
        exact ih _ _ _ h

set_option maxRecDepth 20000 in
theorem c_X9_meets {l : Launch} {G : qe_G} {v1 : Int32} {s0 : qe_S} {o : Int32 × qe_S} (h : g_X9_meets v1 s0 = some o) : qe_C l G MX9_meets [.ref 0, .int v1] (qs_w s0 (qs_TM G)) (some (.int o.1)) (qs_w o.2 (qs_TM G)) := by
  refine qe_C.of (by decide +kernel) (Nat.le_of_ble_eq_true rfl) ?_
  show qe_J l G MX9_meets 0 [(0, .ref 0), (1, .int v1)] [] (qs_w s0 (qs_TM G)) (some (.int o.1)) (qs_w o.2 (qs_TM G))
  unfold g_X9_meets at h
  refine qe_iconst (v := (0 : Int32)) dX9_meets_0 rfl ?_
  refine qe_let_i h (fun a1 h => ?_)
  refine qe_istore_n (lv' := [(2, .int a1), (0, .ref 0), (1, .int v1)]) dX9_meets_1 rfl rfl (Nat.le_of_ble_eq_true rfl) ?_
  refine qe_sub [1, 2, 0] rfl ?_
  refine c_X9_meets_L2
    (fun  s9 o h => ?_) _ _ _ _ h
  refine qe_aload_n dX9_meets_64 0 rfl rfl trivial ?_
  refine qs_getL (j := 6) tM_0 rfl fl_RX9_124 dX9_meets_65 ?_
  refine qe_ldc2 kc_RX9_128 dX9_meets_68 ?_
  refine qe_lcmp_gt (tgt := 79) dX9_meets_71 dX9_meets_72 rfl h (fun _ h => ?_) (fun _ h => ?_)
  · refine qe_iconst (v := (0 : Int32)) dX9_meets_79 rfl ?_
    have e : ((0 : Int32), s9) = o := Option.some.inj h
    subst e
    exact qe_nret dX9_meets_80 rfl rfl
  · refine qe_iconst (v := (1 : Int32)) dX9_meets_75 rfl ?_
    refine qe_goto (tgt := 80) dX9_meets_76 rfl ?_
    have e : ((1 : Int32), s9) = o := Option.some.inj h
    subst e
    exact qe_nret dX9_meets_80 rfl rfl

set_option maxRecDepth 20000 in
theorem c_X9_everyone {l : Launch} {G : qe_G}  {s0 : qe_S} {o : Int32 × qe_S} (h : g_X9_everyone  s0 = some o) : qe_C l G MX9_everyone [.ref 0] (qs_w s0 (qs_TM G)) (some (.int o.1)) (qs_w o.2 (qs_TM G)) := by
  refine qe_C.of (by decide +kernel) (Nat.le_of_ble_eq_true rfl) ?_
  show qe_J l G MX9_everyone 0 [(0, .ref 0)] [] (qs_w s0 (qs_TM G)) (some (.int o.1)) (qs_w o.2 (qs_TM G))
  unfold g_X9_everyone at h
  refine qe_iconst (v := (1 : Int32)) dX9_everyone_0 rfl ?_
  refine qe_aload_n dX9_everyone_1 0 rfl rfl trivial ?_
  refine qs_getR (j := 0) tM_0 rfl fl_RX9_7 dX9_everyone_2 ?_
  refine qe_iconst (v := (0 : Int32)) dX9_everyone_5 rfl ?_
  refine qs_ild tM_1 dX9_everyone_6 h (fun a1 h => ?_)
  refine qe_ishl dX9_everyone_7 ?_
  refine qe_iconst (v := (1 : Int32)) dX9_everyone_8 rfl ?_
  refine qe_isub dX9_everyone_9 ?_
  have e : ((((1 : Int32) <<< (a1 &&& 31)) - (1 : Int32)), s0) = o := Option.some.inj h
  subst e
  exact qe_iret dX9_everyone_10 rfl

set_option maxRecDepth 20000 in
theorem c_X9_arcs_L8_0_6_7 {l : Launch} {G : qe_G} {k125 : qe_S → Option (Int32 × qe_S)} {v1 : Int32} {v4 : Int32} (hk125 : ∀  (s : qe_S) (o : Int32 × qe_S), k125  s = some o → qe_J l G MX9_arcs 125 [(0, .ref 0)] [] (qs_w s (qs_TM G)) (some (.int o.1)) (qs_w o.2 (qs_TM G))) : ∀ (n : Nat) (v5 : Int32) (s0 : qe_S) (o : Int32 × qe_S), g_X9_arcs_L8 k125 v1 6 7 v4 n v5 s0 = some o → qe_J l G MX9_arcs 8 [(0, .ref 0), (1, .int v1), (2, .ref 6), (3, .ref 7), (4, .int v4), (5, .int v5)] [] (qs_w s0 (qs_TM G)) (some (.int o.1)) (qs_w o.2 (qs_TM G)) := by
  intro n
  induction n with
  | zero =>
    intro v5 s0 o h
    rw [g_X9_arcs_L8] at h
    cases h
  | succ n ih =>
    intro v5 s0 o h
    rw [g_X9_arcs_L8] at h
    refine qe_iload dX9_arcs_8 5 rfl ?_
    refine qe_aload_n dX9_arcs_10 0 rfl rfl trivial ?_
    refine qs_getR (j := 0) tM_0 rfl fl_RX9_7 dX9_arcs_11 ?_
    refine qe_iconst (v := (0 : Int32)) dX9_arcs_14 rfl ?_
    refine qs_ild tM_1 dX9_arcs_15 h (fun a3 h => ?_)
    refine qe_icmp_ge (tgt := 125) dX9_arcs_16 rfl h (fun _ h => ?_) (fun _ h => ?_)
    · refine qe_sub [0] rfl ?_
      exact hk125  _ _ h
    · refine qm_j_elim h (fun j119 ej119 h => ?_)
      have hj119 : ∀  (s4 : qe_S) (o : Int32 × qe_S), j119  s4 = some o → qe_J l G MX9_arcs 119 [(0, .ref 0), (1, .int v1), (2, .ref 6), (3, .ref 7), (4, .int v4), (5, .int v5)] [] (qs_w s4 (qs_TM G)) (some (.int o.1)) (qs_w o.2 (qs_TM G)) := by
        intro  s4 o h
        subst ej119
        refine qe_iincl (lv' := fun a5 => [(5, .int a5), (0, .ref 0), (1, .int v1), (2, .ref 6), (3, .ref 7), (4, .int v4)]) dX9_arcs_119 5 rfl rfl (fun _ => rfl) (Nat.le_of_ble_eq_true rfl) h (fun a5 h => ?_)
        refine qe_goto (tgt := 8) dX9_arcs_122 rfl ?_
        refine qe_sub [1, 2, 3, 4, 5, 0] rfl ?_
        exact ih _ _ _ h
      refine qe_aload_n dX9_arcs_19 0 rfl rfl trivial ?_
      refine qs_getR (j := 5) tM_0 rfl fl_RX9_22 dX9_arcs_20 ?_
      refine qe_iload dX9_arcs_23 5 rfl ?_
      refine qs_ild tM_5 dX9_arcs_25 h (fun a6 h => ?_)
      refine qe_istore (lv' := [(6, .int a6), (0, .ref 0), (1, .int v1), (2, .ref 6), (3, .ref 7), (4, .int v4), (5, .int v5)]) dX9_arcs_26 rfl (Nat.le_of_ble_eq_true rfl) ?_
      refine qe_aload_n dX9_arcs_28 3 rfl rfl trivial ?_
      refine qe_iload dX9_arcs_29 0 rfl ?_
      refine qe_lconst (v := 0) dX9_arcs_31 rfl ?_
      refine qs_lst tM_6 dX9_arcs_32 h (fun s7 h => ?_)
      refine qe_aload_n dX9_arcs_33 4 rfl rfl trivial ?_
      refine qe_iload dX9_arcs_34 0 rfl ?_
      refine qe_lconst (v := 0) dX9_arcs_36 rfl ?_
      refine qs_lst tM_7 dX9_arcs_37 h (fun s8 h => ?_)
      refine qe_iload dX9_arcs_38 5 rfl ?_
      refine qe_iload dX9_arcs_40 0 rfl ?_
      refine qe_ishr dX9_arcs_42 ?_
      refine qe_iconst (v := (1 : Int32)) dX9_arcs_43 rfl ?_
      refine qe_iand dX9_arcs_44 ?_
      refine qe_if_ne (tgt := 51) dX9_arcs_45 rfl h (fun _ h => ?_) (fun _ h => ?_)
      · refine qe_aload_n dX9_arcs_51 3 rfl rfl trivial ?_
        refine qe_iload dX9_arcs_52 0 rfl ?_
        refine qe_aload_n dX9_arcs_54 1 rfl rfl trivial ?_
        refine qs_getL (j := 11) tM_0 rfl fl_RX9_130 dX9_arcs_55 ?_
        refine qe_aload_n dX9_arcs_58 1 rfl rfl trivial ?_
        refine qs_getL (j := 6) tM_0 rfl fl_RX9_124 dX9_arcs_59 ?_
        refine qe_lrem dX9_arcs_62 h (fun h => ?_)
        refine qs_lst tM_6 dX9_arcs_63 h (fun s9 h => ?_)
        refine qe_aload_n dX9_arcs_64 4 rfl rfl trivial ?_
        refine qe_iload dX9_arcs_65 0 rfl ?_
        refine qe_aload_n dX9_arcs_67 1 rfl rfl trivial ?_
        refine qs_getR (j := 0) tM_0 rfl fl_RX9_7 dX9_arcs_68 ?_
        refine qe_bipush (v := (nI 50)) dX9_arcs_71 rfl ?_
        refine qe_bipush (v := (nI 12)) dX9_arcs_73 rfl ?_
        refine qe_iload_n dX9_arcs_75 2 rfl rfl ?_
        refine qe_imul dX9_arcs_76 ?_
        refine qe_iadd dX9_arcs_77 ?_
        refine qe_iload dX9_arcs_78 0 rfl ?_
        refine qe_iadd dX9_arcs_80 ?_
        refine qs_ild tM_1 dX9_arcs_81 h (fun a10 h => ?_)
        refine qe_i2l dX9_arcs_82 ?_
        refine qe_aload_n dX9_arcs_83 1 rfl rfl trivial ?_
        refine qs_getL (j := 6) tM_0 rfl fl_RX9_124 dX9_arcs_84 ?_
        refine qe_aload_n dX9_arcs_87 1 rfl rfl trivial ?_
        refine qs_getR (j := 0) tM_0 rfl fl_RX9_7 dX9_arcs_88 ?_
        refine qe_bipush (v := (nI 86)) dX9_arcs_91 rfl ?_
        refine qe_bipush (v := (nI 12)) dX9_arcs_93 rfl ?_
        refine qe_iload_n dX9_arcs_95 2 rfl rfl ?_
        refine qe_imul dX9_arcs_96 ?_
        refine qe_iadd dX9_arcs_97 ?_
        refine qe_iload dX9_arcs_98 0 rfl ?_
        refine qe_iadd dX9_arcs_100 ?_
        refine qs_ild tM_1 dX9_arcs_101 h (fun a11 h => ?_)
        refine qe_i2l dX9_arcs_102 ?_
        refine qe_ldiv dX9_arcs_103 h (fun h => ?_)
        refine qe_lmul dX9_arcs_104 ?_
        refine qs_lst tM_7 dX9_arcs_105 h (fun s12 h => ?_)
        refine qe_aload_n dX9_arcs_106 1 rfl rfl trivial ?_
        refine qe_dup dX9_arcs_107 rfl ?_
        refine qs_getL (j := 11) tM_0 rfl fl_RX9_130 dX9_arcs_108 ?_
        refine qe_aload_n dX9_arcs_111 4 rfl rfl trivial ?_
        refine qe_iload dX9_arcs_112 0 rfl ?_
        refine qs_lld tM_7 dX9_arcs_114 h (fun b13 h => ?_)
        refine qe_ladd dX9_arcs_115 ?_
        refine qs_putL (j := 11) tM_0 rfl fp_RX9_130 dX9_arcs_116 h (fun s14 h => ?_)
        refine qe_sub [1, 2, 3, 4, 5, 6] rfl ?_
        exact hj119  _ _ h
      · refine qe_goto (tgt := 119) dX9_arcs_48 rfl ?_
        refine qe_sub [1, 2, 3, 4, 5, 6] rfl ?_
        exact hj119  _ _ h

set_option maxRecDepth 20000 in
theorem c_X9_arcs_0_6_7 {l : Launch} {G : qe_G} {v1 : Int32} {v4 : Int32} {s0 : qe_S} {o : Int32 × qe_S} (h : g_X9_arcs v1 6 7 v4 s0 = some o) : qe_C l G MX9_arcs [.ref 0, .int v1, .ref 6, .ref 7, .int v4] (qs_w s0 (qs_TM G)) (some (.int o.1)) (qs_w o.2 (qs_TM G)) := by
  refine qe_C.of (by decide +kernel) (Nat.le_of_ble_eq_true rfl) ?_
  show qe_J l G MX9_arcs 0 [(0, .ref 0), (1, .int v1), (2, .ref 6), (3, .ref 7), (4, .int v4)] [] (qs_w s0 (qs_TM G)) (some (.int o.1)) (qs_w o.2 (qs_TM G))
  unfold g_X9_arcs at h
  refine qe_aload_n dX9_arcs_0 0 rfl rfl trivial ?_
  refine qe_lconst (v := 0) dX9_arcs_1 rfl ?_
  refine qs_putL (j := 11) tM_0 rfl fp_RX9_130 dX9_arcs_2 h (fun s1 h => ?_)
  refine qe_iconst (v := (0 : Int32)) dX9_arcs_5 rfl ?_
  refine qe_let_i h (fun a2 h => ?_)
  refine qe_istore (lv' := [(5, .int a2), (0, .ref 0), (1, .int v1), (2, .ref 6), (3, .ref 7), (4, .int v4)]) dX9_arcs_6 rfl (Nat.le_of_ble_eq_true rfl) ?_
  refine qe_sub [1, 2, 3, 4, 5, 0] rfl ?_
  refine c_X9_arcs_L8_0_6_7
    (fun  s15 o h => ?_) _ _ _ _ h
  refine qe_aload_n dX9_arcs_125 0 rfl rfl trivial ?_
  refine qs_getL (j := 11) tM_0 rfl fl_RX9_130 dX9_arcs_126 ?_
  refine qe_ldc2 kc_RX9_128 dX9_arcs_129 ?_
  refine qe_lcmp_gt (tgt := 140) dX9_arcs_132 dX9_arcs_133 rfl h (fun _ h => ?_) (fun _ h => ?_)
  · refine qe_iconst (v := (0 : Int32)) dX9_arcs_140 rfl ?_
    have e : ((0 : Int32), s15) = o := Option.some.inj h
    subst e
    exact qe_nret dX9_arcs_141 rfl rfl
  · refine qe_iconst (v := (1 : Int32)) dX9_arcs_136 rfl ?_
    refine qe_goto (tgt := 141) dX9_arcs_137 rfl ?_
    have e : ((1 : Int32), s15) = o := Option.some.inj h
    subst e
    exact qe_nret dX9_arcs_141 rfl rfl

set_option maxRecDepth 20000 in
theorem c_X9_arcs_L8_0_8_9 {l : Launch} {G : qe_G} {k125 : qe_S → Option (Int32 × qe_S)} {v1 : Int32} {v4 : Int32} (hk125 : ∀  (s : qe_S) (o : Int32 × qe_S), k125  s = some o → qe_J l G MX9_arcs 125 [(0, .ref 0)] [] (qs_w s (qs_TM G)) (some (.int o.1)) (qs_w o.2 (qs_TM G))) : ∀ (n : Nat) (v5 : Int32) (s0 : qe_S) (o : Int32 × qe_S), g_X9_arcs_L8 k125 v1 8 9 v4 n v5 s0 = some o → qe_J l G MX9_arcs 8 [(0, .ref 0), (1, .int v1), (2, .ref 8), (3, .ref 9), (4, .int v4), (5, .int v5)] [] (qs_w s0 (qs_TM G)) (some (.int o.1)) (qs_w o.2 (qs_TM G)) := by
  intro n
  induction n with
  | zero =>
    intro v5 s0 o h
    rw [g_X9_arcs_L8] at h
    cases h
  | succ n ih =>
    intro v5 s0 o h
    rw [g_X9_arcs_L8] at h
    refine qe_iload dX9_arcs_8 5 rfl ?_
    refine qe_aload_n dX9_arcs_10 0 rfl rfl trivial ?_
    refine qs_getR (j := 0) tM_0 rfl fl_RX9_7 dX9_arcs_11 ?_
    refine qe_iconst (v := (0 : Int32)) dX9_arcs_14 rfl ?_
    refine qs_ild tM_1 dX9_arcs_15 h (fun a3 h => ?_)
    refine qe_icmp_ge (tgt := 125) dX9_arcs_16 rfl h (fun _ h => ?_) (fun _ h => ?_)
    · refine qe_sub [0] rfl ?_
      exact hk125  _ _ h
    · refine qm_j_elim h (fun j119 ej119 h => ?_)
      have hj119 : ∀  (s4 : qe_S) (o : Int32 × qe_S), j119  s4 = some o → qe_J l G MX9_arcs 119 [(0, .ref 0), (1, .int v1), (2, .ref 8), (3, .ref 9), (4, .int v4), (5, .int v5)] [] (qs_w s4 (qs_TM G)) (some (.int o.1)) (qs_w o.2 (qs_TM G)) := by
        intro  s4 o h
        subst ej119
        refine qe_iincl (lv' := fun a5 => [(5, .int a5), (0, .ref 0), (1, .int v1), (2, .ref 8), (3, .ref 9), (4, .int v4)]) dX9_arcs_119 5 rfl rfl (fun _ => rfl) (Nat.le_of_ble_eq_true rfl) h (fun a5 h => ?_)
        refine qe_goto (tgt := 8) dX9_arcs_122 rfl ?_
        refine qe_sub [1, 2, 3, 4, 5, 0] rfl ?_
        exact ih _ _ _ h
      refine qe_aload_n dX9_arcs_19 0 rfl rfl trivial ?_
      refine qs_getR (j := 5) tM_0 rfl fl_RX9_22 dX9_arcs_20 ?_
      refine qe_iload dX9_arcs_23 5 rfl ?_
      refine qs_ild tM_5 dX9_arcs_25 h (fun a6 h => ?_)
      refine qe_istore (lv' := [(6, .int a6), (0, .ref 0), (1, .int v1), (2, .ref 8), (3, .ref 9), (4, .int v4), (5, .int v5)]) dX9_arcs_26 rfl (Nat.le_of_ble_eq_true rfl) ?_
      refine qe_aload_n dX9_arcs_28 3 rfl rfl trivial ?_
      refine qe_iload dX9_arcs_29 0 rfl ?_
      refine qe_lconst (v := 0) dX9_arcs_31 rfl ?_
      refine qs_lst tM_8 dX9_arcs_32 h (fun s7 h => ?_)
      refine qe_aload_n dX9_arcs_33 4 rfl rfl trivial ?_
      refine qe_iload dX9_arcs_34 0 rfl ?_
      refine qe_lconst (v := 0) dX9_arcs_36 rfl ?_
      refine qs_lst tM_9 dX9_arcs_37 h (fun s8 h => ?_)
      refine qe_iload dX9_arcs_38 5 rfl ?_
      refine qe_iload dX9_arcs_40 0 rfl ?_
      refine qe_ishr dX9_arcs_42 ?_
      refine qe_iconst (v := (1 : Int32)) dX9_arcs_43 rfl ?_
      refine qe_iand dX9_arcs_44 ?_
      refine qe_if_ne (tgt := 51) dX9_arcs_45 rfl h (fun _ h => ?_) (fun _ h => ?_)
      · refine qe_aload_n dX9_arcs_51 3 rfl rfl trivial ?_
        refine qe_iload dX9_arcs_52 0 rfl ?_
        refine qe_aload_n dX9_arcs_54 1 rfl rfl trivial ?_
        refine qs_getL (j := 11) tM_0 rfl fl_RX9_130 dX9_arcs_55 ?_
        refine qe_aload_n dX9_arcs_58 1 rfl rfl trivial ?_
        refine qs_getL (j := 6) tM_0 rfl fl_RX9_124 dX9_arcs_59 ?_
        refine qe_lrem dX9_arcs_62 h (fun h => ?_)
        refine qs_lst tM_8 dX9_arcs_63 h (fun s9 h => ?_)
        refine qe_aload_n dX9_arcs_64 4 rfl rfl trivial ?_
        refine qe_iload dX9_arcs_65 0 rfl ?_
        refine qe_aload_n dX9_arcs_67 1 rfl rfl trivial ?_
        refine qs_getR (j := 0) tM_0 rfl fl_RX9_7 dX9_arcs_68 ?_
        refine qe_bipush (v := (nI 50)) dX9_arcs_71 rfl ?_
        refine qe_bipush (v := (nI 12)) dX9_arcs_73 rfl ?_
        refine qe_iload_n dX9_arcs_75 2 rfl rfl ?_
        refine qe_imul dX9_arcs_76 ?_
        refine qe_iadd dX9_arcs_77 ?_
        refine qe_iload dX9_arcs_78 0 rfl ?_
        refine qe_iadd dX9_arcs_80 ?_
        refine qs_ild tM_1 dX9_arcs_81 h (fun a10 h => ?_)
        refine qe_i2l dX9_arcs_82 ?_
        refine qe_aload_n dX9_arcs_83 1 rfl rfl trivial ?_
        refine qs_getL (j := 6) tM_0 rfl fl_RX9_124 dX9_arcs_84 ?_
        refine qe_aload_n dX9_arcs_87 1 rfl rfl trivial ?_
        refine qs_getR (j := 0) tM_0 rfl fl_RX9_7 dX9_arcs_88 ?_
        refine qe_bipush (v := (nI 86)) dX9_arcs_91 rfl ?_
        refine qe_bipush (v := (nI 12)) dX9_arcs_93 rfl ?_
        refine qe_iload_n dX9_arcs_95 2 rfl rfl ?_
        refine qe_imul dX9_arcs_96 ?_
        refine qe_iadd dX9_arcs_97 ?_
        refine qe_iload dX9_arcs_98 0 rfl ?_
        refine qe_iadd dX9_arcs_100 ?_
        refine qs_ild tM_1 dX9_arcs_101 h (fun a11 h => ?_)
        refine qe_i2l dX9_arcs_102 ?_
        refine qe_ldiv dX9_arcs_103 h (fun h => ?_)
        refine qe_lmul dX9_arcs_104 ?_
        refine qs_lst tM_9 dX9_arcs_105 h (fun s12 h => ?_)
        refine qe_aload_n dX9_arcs_106 1 rfl rfl trivial ?_
        refine qe_dup dX9_arcs_107 rfl ?_
        refine qs_getL (j := 11) tM_0 rfl fl_RX9_130 dX9_arcs_108 ?_
        refine qe_aload_n dX9_arcs_111 4 rfl rfl trivial ?_
        refine qe_iload dX9_arcs_112 0 rfl ?_
        refine qs_lld tM_9 dX9_arcs_114 h (fun b13 h => ?_)
        refine qe_ladd dX9_arcs_115 ?_
        refine qs_putL (j := 11) tM_0 rfl fp_RX9_130 dX9_arcs_116 h (fun s14 h => ?_)
        refine qe_sub [1, 2, 3, 4, 5, 6] rfl ?_
        exact hj119  _ _ h
      · refine qe_goto (tgt := 119) dX9_arcs_48 rfl ?_
        refine qe_sub [1, 2, 3, 4, 5, 6] rfl ?_
        exact hj119  _ _ h

set_option maxRecDepth 20000 in
theorem c_X9_arcs_0_8_9 {l : Launch} {G : qe_G} {v1 : Int32} {v4 : Int32} {s0 : qe_S} {o : Int32 × qe_S} (h : g_X9_arcs v1 8 9 v4 s0 = some o) : qe_C l G MX9_arcs [.ref 0, .int v1, .ref 8, .ref 9, .int v4] (qs_w s0 (qs_TM G)) (some (.int o.1)) (qs_w o.2 (qs_TM G)) := by
  refine qe_C.of (by decide +kernel) (Nat.le_of_ble_eq_true rfl) ?_
  show qe_J l G MX9_arcs 0 [(0, .ref 0), (1, .int v1), (2, .ref 8), (3, .ref 9), (4, .int v4)] [] (qs_w s0 (qs_TM G)) (some (.int o.1)) (qs_w o.2 (qs_TM G))
  unfold g_X9_arcs at h
  refine qe_aload_n dX9_arcs_0 0 rfl rfl trivial ?_
  refine qe_lconst (v := 0) dX9_arcs_1 rfl ?_
  refine qs_putL (j := 11) tM_0 rfl fp_RX9_130 dX9_arcs_2 h (fun s1 h => ?_)
  refine qe_iconst (v := (0 : Int32)) dX9_arcs_5 rfl ?_
  refine qe_let_i h (fun a2 h => ?_)
  refine qe_istore (lv' := [(5, .int a2), (0, .ref 0), (1, .int v1), (2, .ref 8), (3, .ref 9), (4, .int v4)]) dX9_arcs_6 rfl (Nat.le_of_ble_eq_true rfl) ?_
  refine qe_sub [1, 2, 3, 4, 5, 0] rfl ?_
  refine c_X9_arcs_L8_0_8_9
    (fun  s15 o h => ?_) _ _ _ _ h
  refine qe_aload_n dX9_arcs_125 0 rfl rfl trivial ?_
  refine qs_getL (j := 11) tM_0 rfl fl_RX9_130 dX9_arcs_126 ?_
  refine qe_ldc2 kc_RX9_128 dX9_arcs_129 ?_
  refine qe_lcmp_gt (tgt := 140) dX9_arcs_132 dX9_arcs_133 rfl h (fun _ h => ?_) (fun _ h => ?_)
  · refine qe_iconst (v := (0 : Int32)) dX9_arcs_140 rfl ?_
    have e : ((0 : Int32), s15) = o := Option.some.inj h
    subst e
    exact qe_nret dX9_arcs_141 rfl rfl
  · refine qe_iconst (v := (1 : Int32)) dX9_arcs_136 rfl ?_
    refine qe_goto (tgt := 141) dX9_arcs_137 rfl ?_
    have e : ((1 : Int32), s15) = o := Option.some.inj h
    subst e
    exact qe_nret dX9_arcs_141 rfl rfl

set_option maxRecDepth 20000 in
theorem c_X9_lays {l : Launch} {G : qe_G} {v1 : Int32} {s0 : qe_S} {o : Int32 × qe_S} (h : g_X9_lays v1 s0 = some o) : qe_C l G MX9_lays [.ref 0, .int v1] (qs_w s0 (qs_TM G)) (some (.int o.1)) (qs_w o.2 (qs_TM G)) := by
  refine qe_C.of (by decide +kernel) (Nat.le_of_ble_eq_true rfl) ?_
  show qe_J l G MX9_lays 0 [(0, .ref 0), (1, .int v1)] [] (qs_w s0 (qs_TM G)) (some (.int o.1)) (qs_w o.2 (qs_TM G))
  unfold g_X9_lays at h
  refine qm_j_elim h (fun j20 ej20 h => ?_)
  have hj20 : ∀ (q1 : Int32) (s2 : qe_S) (o : Int32 × qe_S), j20 q1 s2 = some o → qe_J l G MX9_lays 20 [(0, .ref 0), (1, .int v1)] [.int q1, .ref 0] (qs_w s2 (qs_TM G)) (some (.int o.1)) (qs_w o.2 (qs_TM G)) := by
    intro q1 s2 o h
    subst ej20
    refine qm_b_elim h (fun a4 s3 hc h => ?_)
    refine qe_callV1 (st := []) kk_X9_lays_X9_meets (c_X9_meets hc) (qs_at tM_0) rfl rfl rfl (Nat.le_of_ble_eq_true rfl) dX9_lays_20 ?_
    refine qe_if_eq (tgt := 39) dX9_lays_23 rfl h (fun _ h => ?_) (fun _ h => ?_)
    · refine qe_iconst (v := (0 : Int32)) dX9_lays_39 rfl ?_
      have e : ((0 : Int32), s3) = o := Option.some.inj h
      subst e
      exact qe_nret dX9_lays_40 rfl rfl
    · refine qm_j_elim h (fun j41 ej41 h => ?_)
      have hj41 : ∀  (s5 : qe_S) (o : Int32 × qe_S), j41  s5 = some o → qe_J l G MX9_lays 41 [(0, .ref 0), (1, .int v1)] [] (qs_w s5 (qs_TM G)) (some (.int o.1)) (qs_w o.2 (qs_TM G)) := by
        intro  s5 o h
        subst ej41
        refine qm_j_elim h (fun j68 ej68 h => ?_)
        have hj68 : ∀  (s6 : qe_S) (o : Int32 × qe_S), j68  s6 = some o → qe_J l G MX9_lays 68 [(0, .ref 0), (1, .int v1)] [] (qs_w s6 (qs_TM G)) (some (.int o.1)) (qs_w o.2 (qs_TM G)) := by
          intro  s6 o h
          subst ej68
          refine qm_j_elim h (fun j79 ej79 h => ?_)
          have hj79 : ∀ (q7 : Int32) (s8 : qe_S) (o : Int32 × qe_S), j79 q7 s8 = some o → qe_J l G MX9_lays 79 [(0, .ref 0)] [.int q7, .ref 0] (qs_w s8 (qs_TM G)) (some (.int o.1)) (qs_w o.2 (qs_TM G)) := by
            intro q7 s8 o h
            subst ej79
            refine qe_aload_n dX9_lays_79 0 rfl rfl trivial ?_
            refine qs_getR (j := 7) tM_0 rfl fl_RX9_25 dX9_lays_80 ?_
            refine qe_aload_n dX9_lays_83 0 rfl rfl trivial ?_
            refine qs_getR (j := 8) tM_0 rfl fl_RX9_29 dX9_lays_84 ?_
            refine qe_aload_n dX9_lays_87 0 rfl rfl trivial ?_
            refine qm_b_elim h (fun a10 s9 hc h => ?_)
            refine qe_callV1 (st := [.ref 7, .ref 6, .int q7, .ref 0]) kk_X9_lays_X9_everyone (c_X9_everyone hc) (qs_at tM_0) rfl rfl rfl (Nat.le_of_ble_eq_true rfl) dX9_lays_88 ?_
            refine qm_b_elim h (fun a12 s11 hc h => ?_)
            refine qe_callV1 (st := []) kk_X9_lays_X9_arcs (c_X9_arcs_0_6_7 hc) (qs_at tM_0) rfl rfl rfl (Nat.le_of_ble_eq_true rfl) dX9_lays_91 ?_
            exact qe_zret dX9_lays_94 rfl h (fun h => by have e : (a12, s11) = o := Option.some.inj h; subst e; exact ⟨rfl, rfl⟩)
          refine qe_aload_n dX9_lays_68 0 rfl rfl trivial ?_
          refine qe_iload_n dX9_lays_69 1 rfl rfl ?_
          refine qe_iconst (v := (nI 2)) dX9_lays_70 rfl ?_
          refine qe_icmp_ne (tgt := 78) dX9_lays_71 rfl h (fun _ h => ?_) (fun _ h => ?_)
          · refine qe_iload_n dX9_lays_78 1 rfl rfl ?_
            refine qe_sub [0] rfl ?_
            exact hj79 _ _ _ h
          · refine qe_iconst (v := (0 : Int32)) dX9_lays_74 rfl ?_
            refine qe_goto (tgt := 79) dX9_lays_75 rfl ?_
            refine qe_sub [0] rfl ?_
            exact hj79 _ _ _ h
        refine qe_iload_n dX9_lays_41 1 rfl rfl ?_
        refine qe_iconst (v := (nI 2)) dX9_lays_42 rfl ?_
        refine qe_icmp_ne (tgt := 68) dX9_lays_43 rfl h (fun _ h => ?_) (fun _ h => ?_)
        · exact hj68  _ _ h
        · refine qe_aload_n dX9_lays_46 0 rfl rfl trivial ?_
          refine qe_iconst (v := (nI 2)) dX9_lays_47 rfl ?_
          refine qe_aload_n dX9_lays_48 0 rfl rfl trivial ?_
          refine qs_getR (j := 9) tM_0 rfl fl_RX9_32 dX9_lays_49 ?_
          refine qe_aload_n dX9_lays_52 0 rfl rfl trivial ?_
          refine qs_getR (j := 10) tM_0 rfl fl_RX9_35 dX9_lays_53 ?_
          refine qe_aload_n dX9_lays_56 0 rfl rfl trivial ?_
          refine qm_b_elim h (fun a14 s13 hc h => ?_)
          refine qe_callV1 (st := [.ref 9, .ref 8, .int (nI 2), .ref 0]) kk_X9_lays_X9_everyone (c_X9_everyone hc) (qs_at tM_0) rfl rfl rfl (Nat.le_of_ble_eq_true rfl) dX9_lays_57 ?_
          refine qm_b_elim h (fun a16 s15 hc h => ?_)
          refine qe_callV1 (st := []) kk_X9_lays_X9_arcs (c_X9_arcs_0_8_9 hc) (qs_at tM_0) rfl rfl rfl (Nat.le_of_ble_eq_true rfl) dX9_lays_60 ?_
          refine qe_if_ne (tgt := 68) dX9_lays_63 rfl h (fun _ h => ?_) (fun _ h => ?_)
          · exact hj68  _ _ h
          · refine qe_iconst (v := (0 : Int32)) dX9_lays_66 rfl ?_
            have e : ((0 : Int32), s15) = o := Option.some.inj h
            subst e
            exact qe_nret dX9_lays_67 rfl rfl
      refine qe_iload_n dX9_lays_26 1 rfl rfl ?_
      refine qe_iconst (v := (nI 2)) dX9_lays_27 rfl ?_
      refine qe_icmp_ne (tgt := 41) dX9_lays_28 rfl h (fun _ h => ?_) (fun _ h => ?_)
      · exact hj41  _ _ h
      · refine qe_aload_n dX9_lays_31 0 rfl rfl trivial ?_
        refine qe_iconst (v := (nI 2)) dX9_lays_32 rfl ?_
        refine qm_b_elim h (fun a18 s17 hc h => ?_)
        refine qe_callV1 (st := []) kk_X9_lays_X9_meets (c_X9_meets hc) (qs_at tM_0) rfl rfl rfl (Nat.le_of_ble_eq_true rfl) dX9_lays_33 ?_
        refine qe_if_ne (tgt := 41) dX9_lays_36 rfl h (fun _ h => ?_) (fun _ h => ?_)
        · exact hj41  _ _ h
        · refine qe_iconst (v := (0 : Int32)) dX9_lays_39 rfl ?_
          have e : ((0 : Int32), s17) = o := Option.some.inj h
          subst e
          exact qe_nret dX9_lays_40 rfl rfl
  refine qe_aload_n dX9_lays_0 0 rfl rfl trivial ?_
  refine qm_o_elim h (fun s19 hc h => ?_)
  refine qe_callV0 (st := []) kk_X9_lays_X9_inOrder (c_X9_inOrder hc) (qs_at tM_0) rfl rfl rfl (Nat.le_of_ble_eq_true rfl) dX9_lays_1 ?_
  refine qe_aload_n dX9_lays_4 0 rfl rfl trivial ?_
  refine qe_lconst (v := 1) dX9_lays_5 rfl ?_
  refine qs_putL (j := 6) tM_0 rfl fp_RX9_124 dX9_lays_6 h (fun s20 h => ?_)
  refine qe_aload_n dX9_lays_9 0 rfl rfl trivial ?_
  refine qe_iload_n dX9_lays_10 1 rfl rfl ?_
  refine qe_iconst (v := (nI 2)) dX9_lays_11 rfl ?_
  refine qe_icmp_ne (tgt := 19) dX9_lays_12 rfl h (fun _ h => ?_) (fun _ h => ?_)
  · refine qe_iload_n dX9_lays_19 1 rfl rfl ?_
    exact hj20 _ _ _ h
  · refine qe_iconst (v := (0 : Int32)) dX9_lays_15 rfl ?_
    refine qe_goto (tgt := 20) dX9_lays_16 rfl ?_
    exact hj20 _ _ _ h

set_option maxRecDepth 20000 in
theorem c_X9_common {l : Launch} {G : qe_G} {v1 : Int32} {s0 : qe_S} {o : Int32 × qe_S} (h : g_X9_common v1 s0 = some o) : qe_C l G MX9_common [.ref 0, .int v1] (qs_w s0 (qs_TM G)) (some (.int o.1)) (qs_w o.2 (qs_TM G)) := by
  refine qe_C.of (by decide +kernel) (Nat.le_of_ble_eq_true rfl) ?_
  show qe_J l G MX9_common 0 [(0, .ref 0), (1, .int v1)] [] (qs_w s0 (qs_TM G)) (some (.int o.1)) (qs_w o.2 (qs_TM G))
  unfold g_X9_common at h
  refine qe_iload_n dX9_common_0 1 rfl rfl ?_
  refine qe_iconst (v := (0 : Int32)) dX9_common_1 rfl ?_
  refine qe_iconst (v := (nI 2)) dX9_common_2 rfl ?_
  refine qm_b_elim h (fun a2 s1 hc h => ?_)
  refine qe_callS1 (st := []) kk_X9_common_X9_within (c_X9_within hc) rfl rfl (Nat.le_of_ble_eq_true rfl) dX9_common_3 ?_
  refine qe_if_ne (tgt := 15) dX9_common_6 rfl h (fun _ h => ?_) (fun _ h => ?_)
  · refine qe_aload_n dX9_common_15 0 rfl rfl trivial ?_
    refine qe_iload_n dX9_common_16 1 rfl rfl ?_
    refine qm_b_elim h (fun a4 s3 hc h => ?_)
    refine qe_callV1 (st := []) kk_X9_common_X9_lays (c_X9_lays hc) (qs_at tM_0) rfl rfl rfl (Nat.le_of_ble_eq_true rfl) dX9_common_17 ?_
    refine qe_if_eq (tgt := 31) dX9_common_20 rfl h (fun _ h => ?_) (fun _ h => ?_)
    · refine qe_aload_n dX9_common_31 0 rfl rfl trivial ?_
      refine qe_bipush (v := (-7 : Int32)) dX9_common_32 rfl ?_
      refine qm_b_elim h (fun a6 s5 hc h => ?_)
      refine qe_callV1 (st := []) kk_X9_common_X9_no (c_X9_no hc) (qs_at tM_0) rfl rfl rfl (Nat.le_of_ble_eq_true rfl) dX9_common_34 ?_
      have e : (a6, s5) = o := Option.some.inj h
      subst e
      exact qe_iret dX9_common_37 rfl
    · refine qe_aload_n dX9_common_23 0 rfl rfl trivial ?_
      refine qs_getL (j := 6) tM_0 rfl fl_RX9_124 dX9_common_24 ?_
      refine qe_l2i dX9_common_27 ?_
      refine qe_goto (tgt := 37) dX9_common_28 rfl ?_
      have e : ((s3.2 0 6).toInt32, s3) = o := Option.some.inj h
      subst e
      exact qe_iret dX9_common_37 rfl
  · refine qe_aload_n dX9_common_9 0 rfl rfl trivial ?_
    refine qe_iconst (v := (-1 : Int32)) dX9_common_10 rfl ?_
    refine qm_b_elim h (fun a8 s7 hc h => ?_)
    refine qe_callV1 (st := []) kk_X9_common_X9_no (c_X9_no hc) (qs_at tM_0) rfl rfl rfl (Nat.le_of_ble_eq_true rfl) dX9_common_11 ?_
    have e : (a8, s7) = o := Option.some.inj h
    subst e
    exact qe_iret dX9_common_14 rfl

set_option maxRecDepth 20000 in
theorem c_X9_parts {l : Launch} {G : qe_G} {v1 : Int32} {s0 : qe_S} {o : Int32 × qe_S} (h : g_X9_parts v1 s0 = some o) : qe_C l G MX9_parts [.ref 0, .int v1] (qs_w s0 (qs_TM G)) (some (.int o.1)) (qs_w o.2 (qs_TM G)) := by
  refine qe_C.of (by decide +kernel) (Nat.le_of_ble_eq_true rfl) ?_
  show qe_J l G MX9_parts 0 [(0, .ref 0), (1, .int v1)] [] (qs_w s0 (qs_TM G)) (some (.int o.1)) (qs_w o.2 (qs_TM G))
  unfold g_X9_parts at h
  refine qe_aload_n dX9_parts_0 0 rfl rfl trivial ?_
  refine qe_iload_n dX9_parts_1 1 rfl rfl ?_
  refine qm_b_elim h (fun a2 s1 hc h => ?_)
  refine qe_callV1 (st := []) kk_X9_parts_X9_isUnit (c_X9_isUnit hc) (qs_at tM_0) rfl rfl rfl (Nat.le_of_ble_eq_true rfl) dX9_parts_2 ?_
  refine qe_if_ne (tgt := 14) dX9_parts_5 rfl h (fun _ h => ?_) (fun _ h => ?_)
  · refine qe_aload_n dX9_parts_14 0 rfl rfl trivial ?_
    refine qe_iconst (v := (0 : Int32)) dX9_parts_15 rfl ?_
    refine qm_b_elim h (fun a4 s3 hc h => ?_)
    refine qe_callV1 (st := []) kk_X9_parts_X9_lays (c_X9_lays hc) (qs_at tM_0) rfl rfl rfl (Nat.le_of_ble_eq_true rfl) dX9_parts_16 ?_
    refine qe_if_eq (tgt := 32) dX9_parts_19 rfl h (fun _ h => ?_) (fun _ h => ?_)
    · refine qe_aload_n dX9_parts_32 0 rfl rfl trivial ?_
      refine qe_bipush (v := (-7 : Int32)) dX9_parts_33 rfl ?_
      refine qm_b_elim h (fun a6 s5 hc h => ?_)
      refine qe_callV1 (st := []) kk_X9_parts_X9_no (c_X9_no hc) (qs_at tM_0) rfl rfl rfl (Nat.le_of_ble_eq_true rfl) dX9_parts_35 ?_
      have e : (a6, s5) = o := Option.some.inj h
      subst e
      exact qe_iret dX9_parts_38 rfl
    · refine qe_aload_n dX9_parts_22 0 rfl rfl trivial ?_
      refine qs_getR (j := 8) tM_0 rfl fl_RX9_29 dX9_parts_23 ?_
      refine qe_iload_n dX9_parts_26 1 rfl rfl ?_
      refine qs_lld tM_7 dX9_parts_27 h (fun b7 h => ?_)
      refine qe_l2i dX9_parts_28 ?_
      refine qe_goto (tgt := 38) dX9_parts_29 rfl ?_
      have e : (b7.toInt32, s3) = o := Option.some.inj h
      subst e
      exact qe_iret dX9_parts_38 rfl
  · refine qe_aload_n dX9_parts_8 0 rfl rfl trivial ?_
    refine qe_iconst (v := (-1 : Int32)) dX9_parts_9 rfl ?_
    refine qm_b_elim h (fun a9 s8 hc h => ?_)
    refine qe_callV1 (st := []) kk_X9_parts_X9_no (c_X9_no hc) (qs_at tM_0) rfl rfl rfl (Nat.le_of_ble_eq_true rfl) dX9_parts_10 ?_
    have e : (a9, s8) = o := Option.some.inj h
    subst e
    exact qe_iret dX9_parts_13 rfl

set_option maxRecDepth 20000 in
theorem c_X9_size {l : Launch} {G : qe_G} {v1 : Int32} {s0 : qe_S} {o : Int32 × qe_S} (h : g_X9_size v1 s0 = some o) : qe_C l G MX9_size [.ref 0, .int v1] (qs_w s0 (qs_TM G)) (some (.int o.1)) (qs_w o.2 (qs_TM G)) := by
  refine qe_C.of (by decide +kernel) (Nat.le_of_ble_eq_true rfl) ?_
  show qe_J l G MX9_size 0 [(0, .ref 0), (1, .int v1)] [] (qs_w s0 (qs_TM G)) (some (.int o.1)) (qs_w o.2 (qs_TM G))
  unfold g_X9_size at h
  refine qe_iload_n dX9_size_0 1 rfl rfl ?_
  refine qe_iconst (v := (0 : Int32)) dX9_size_1 rfl ?_
  refine qe_iconst (v := (1 : Int32)) dX9_size_2 rfl ?_
  refine qm_b_elim h (fun a2 s1 hc h => ?_)
  refine qe_callS1 (st := []) kk_X9_size_X9_within (c_X9_within hc) rfl rfl (Nat.le_of_ble_eq_true rfl) dX9_size_3 ?_
  refine qe_if_ne (tgt := 15) dX9_size_6 rfl h (fun _ h => ?_) (fun _ h => ?_)
  · refine qe_aload_n dX9_size_15 0 rfl rfl trivial ?_
    refine qe_iconst (v := (0 : Int32)) dX9_size_16 rfl ?_
    refine qm_b_elim h (fun a4 s3 hc h => ?_)
    refine qe_callV1 (st := []) kk_X9_size_X9_lays (c_X9_lays hc) (qs_at tM_0) rfl rfl rfl (Nat.le_of_ble_eq_true rfl) dX9_size_17 ?_
    refine qe_if_ne (tgt := 30) dX9_size_20 rfl h (fun _ h => ?_) (fun _ h => ?_)
    · refine qm_j_elim h (fun j52 ej52 h => ?_)
      have hj52 : ∀ (q5 : Int64) (s6 : qe_S) (o : Int32 × qe_S), j52 q5 s6 = some o → qe_J l G MX9_size 52 [(0, .ref 0)] [.long q5] (qs_w s6 (qs_TM G)) (some (.int o.1)) (qs_w o.2 (qs_TM G)) := by
        intro q5 s6 o h
        subst ej52
        refine qe_aload_n dX9_size_52 0 rfl rfl trivial ?_
        refine qs_getL (j := 6) tM_0 rfl fl_RX9_124 dX9_size_53 ?_
        refine qe_ldiv dX9_size_56 h (fun h => ?_)
        refine qe_l2i dX9_size_57 ?_
        have e : ((q5 / (s6.2 0 6)).toInt32, s6) = o := Option.some.inj h
        subst e
        exact qe_iret dX9_size_58 rfl
      refine qe_iload_n dX9_size_30 1 rfl rfl ?_
      refine qe_if_ne (tgt := 41) dX9_size_31 rfl h (fun _ h => ?_) (fun _ h => ?_)
      · refine qe_aload_n dX9_size_41 0 rfl rfl trivial ?_
        refine qs_getL (j := 11) tM_0 rfl fl_RX9_130 dX9_size_42 ?_
        refine qe_aload_n dX9_size_45 0 rfl rfl trivial ?_
        refine qs_getL (j := 6) tM_0 rfl fl_RX9_124 dX9_size_46 ?_
        refine qe_ladd dX9_size_49 ?_
        refine qe_lconst (v := 1) dX9_size_50 rfl ?_
        refine qe_lsub dX9_size_51 ?_
        refine qe_sub [0] rfl ?_
        exact hj52 _ _ _ h
      · refine qe_aload_n dX9_size_34 0 rfl rfl trivial ?_
        refine qs_getL (j := 11) tM_0 rfl fl_RX9_130 dX9_size_35 ?_
        refine qe_goto (tgt := 52) dX9_size_38 rfl ?_
        refine qe_sub [0] rfl ?_
        exact hj52 _ _ _ h
    · refine qe_aload_n dX9_size_23 0 rfl rfl trivial ?_
      refine qe_bipush (v := (-7 : Int32)) dX9_size_24 rfl ?_
      refine qm_b_elim h (fun a8 s7 hc h => ?_)
      refine qe_callV1 (st := []) kk_X9_size_X9_no (c_X9_no hc) (qs_at tM_0) rfl rfl rfl (Nat.le_of_ble_eq_true rfl) dX9_size_26 ?_
      have e : (a8, s7) = o := Option.some.inj h
      subst e
      exact qe_iret dX9_size_29 rfl
  · refine qe_aload_n dX9_size_9 0 rfl rfl trivial ?_
    refine qe_iconst (v := (-1 : Int32)) dX9_size_10 rfl ?_
    refine qm_b_elim h (fun a10 s9 hc h => ?_)
    refine qe_callV1 (st := []) kk_X9_size_X9_no (c_X9_no hc) (qs_at tM_0) rfl rfl rfl (Nat.le_of_ble_eq_true rfl) dX9_size_11 ?_
    have e : (a10, s9) = o := Option.some.inj h
    subst e
    exact qe_iret dX9_size_14 rfl

set_option maxRecDepth 20000 in
theorem c_X9_isPlace {l : Launch} {G : qe_G} {v1 : Int32} {s0 : qe_S} {o : Int32 × qe_S} (h : g_X9_isPlace v1 s0 = some o) : qe_C l G MX9_isPlace [.ref 0, .int v1] (qs_w s0 (qs_TM G)) (some (.int o.1)) (qs_w o.2 (qs_TM G)) := by
  refine qe_C.of (by decide +kernel) (Nat.le_of_ble_eq_true rfl) ?_
  show qe_J l G MX9_isPlace 0 [(0, .ref 0), (1, .int v1)] [] (qs_w s0 (qs_TM G)) (some (.int o.1)) (qs_w o.2 (qs_TM G))
  unfold g_X9_isPlace at h
  refine qm_j_elim h (fun j18 ej18 h => ?_)
  have hj18 : ∀  (s1 : qe_S) (o : Int32 × qe_S), j18  s1 = some o → qe_J l G MX9_isPlace 18 [] [] (qs_w s1 (qs_TM G)) (some (.int o.1)) (qs_w o.2 (qs_TM G)) := by
    intro  s1 o h
    subst ej18
    refine qe_iconst (v := (0 : Int32)) dX9_isPlace_18 rfl ?_
    have e : ((0 : Int32), s1) = o := Option.some.inj h
    subst e
    exact qe_nret dX9_isPlace_19 rfl rfl
  refine qe_iload_n dX9_isPlace_0 1 rfl rfl ?_
  refine qe_if_lt (tgt := 18) dX9_isPlace_1 rfl h (fun _ h => ?_) (fun _ h => ?_)
  · refine qe_sub [] rfl ?_
    exact hj18  _ _ h
  · refine qe_iload_n dX9_isPlace_4 1 rfl rfl ?_
    refine qe_i2l dX9_isPlace_5 ?_
    refine qe_aload_n dX9_isPlace_6 0 rfl rfl trivial ?_
    refine qs_getL (j := 6) tM_0 rfl fl_RX9_124 dX9_isPlace_7 ?_
    refine qe_lcmp_ge (tgt := 18) dX9_isPlace_10 dX9_isPlace_11 rfl h (fun _ h => ?_) (fun _ h => ?_)
    · refine qe_sub [] rfl ?_
      exact hj18  _ _ h
    · refine qe_iconst (v := (1 : Int32)) dX9_isPlace_14 rfl ?_
      refine qe_goto (tgt := 19) dX9_isPlace_15 rfl ?_
      have e : ((1 : Int32), s0) = o := Option.some.inj h
      subst e
      exact qe_nret dX9_isPlace_19 rfl rfl

set_option maxRecDepth 20000 in
theorem c_X9_isOn {l : Launch} {G : qe_G} {v0 : Int64} {v2 : Int64} {v4 : Int64} {v6 : Int64} {s0 : qe_S} {o : Int32 × qe_S} (h : g_X9_isOn v0 v2 v4 v6 s0 = some o) : qe_C l G MX9_isOn [.long v0, .long v2, .long v4, .long v6] (qs_w s0 (qs_TM G)) (some (.int o.1)) (qs_w o.2 (qs_TM G)) := by
  refine qe_C.of (by decide +kernel) (Nat.le_of_ble_eq_true rfl) ?_
  show qe_J l G MX9_isOn 0 [(0, .long v0), (2, .long v2), (4, .long v4), (6, .long v6)] [] (qs_w s0 (qs_TM G)) (some (.int o.1)) (qs_w o.2 (qs_TM G))
  unfold g_X9_isOn at h
  refine qe_lload_n dX9_isOn_0 0 rfl rfl ?_
  refine qe_lload dX9_isOn_1 3 rfl ?_
  refine qe_ladd dX9_isOn_3 ?_
  refine qe_lload_n dX9_isOn_4 1 rfl rfl ?_
  refine qe_lsub dX9_isOn_5 ?_
  refine qe_lload dX9_isOn_6 3 rfl ?_
  refine qe_lrem dX9_isOn_8 h (fun h => ?_)
  refine qe_lload dX9_isOn_9 2 rfl ?_
  refine qe_lcmp_ge (tgt := 19) dX9_isOn_11 dX9_isOn_12 rfl h (fun _ h => ?_) (fun _ h => ?_)
  · refine qe_iconst (v := (0 : Int32)) dX9_isOn_19 rfl ?_
    have e : ((0 : Int32), s0) = o := Option.some.inj h
    subst e
    exact qe_nret dX9_isOn_20 rfl rfl
  · refine qe_iconst (v := (1 : Int32)) dX9_isOn_15 rfl ?_
    refine qe_goto (tgt := 20) dX9_isOn_16 rfl ?_
    have e : ((1 : Int32), s0) = o := Option.some.inj h
    subst e
    exact qe_nret dX9_isOn_20 rfl rfl

set_option maxRecDepth 20000 in
theorem c_X9_chosenBy_L5 {l : Launch} {G : qe_G} {v1 : Int64} : ∀ (n : Nat) (v3 : Int32) (v4 : Int32) (s0 : qe_S) (o : Int32 × qe_S), g_X9_chosenBy_L5 v1 n v3 v4 s0 = some o → qe_J l G MX9_chosenBy 5 [(0, .ref 0), (1, .long v1), (3, .int v3), (4, .int v4)] [] (qs_w s0 (qs_TM G)) (some (.int o.1)) (qs_w o.2 (qs_TM G)) := by
  intro n
  induction n with
  | zero =>
    intro v3 v4 s0 o h
    rw [g_X9_chosenBy_L5] at h
    cases h
  | succ n ih =>
    intro v3 v4 s0 o h
    rw [g_X9_chosenBy_L5] at h
    refine qe_iload dX9_chosenBy_5 3 rfl ?_
    refine qe_aload_n dX9_chosenBy_7 0 rfl rfl trivial ?_
    refine qs_getR (j := 0) tM_0 rfl fl_RX9_7 dX9_chosenBy_8 ?_
    refine qe_iconst (v := (0 : Int32)) dX9_chosenBy_11 rfl ?_
    refine qs_ild tM_1 dX9_chosenBy_12 h (fun a3 h => ?_)
    refine qe_icmp_ge (tgt := 54) dX9_chosenBy_13 rfl h (fun _ h => ?_) (fun _ h => ?_)
    · refine qe_iload_n dX9_chosenBy_54 2 rfl rfl ?_
      have e : (v3, s0) = o := Option.some.inj h
      subst e
      exact qe_iret dX9_chosenBy_55 rfl
    · refine qm_j_elim h (fun j48 ej48 h => ?_)
      have hj48 : ∀ (a4 : Int32) (s5 : qe_S) (o : Int32 × qe_S), j48 a4 s5 = some o → qe_J l G MX9_chosenBy 48 [(0, .ref 0), (1, .long v1), (3, .int a4), (4, .int v4)] [] (qs_w s5 (qs_TM G)) (some (.int o.1)) (qs_w o.2 (qs_TM G)) := by
        intro a4 s5 o h
        subst ej48
        refine qe_iincl (lv' := fun a6 => [(4, .int a6), (0, .ref 0), (1, .long v1), (3, .int a4)]) dX9_chosenBy_48 3 rfl rfl (fun _ => rfl) (Nat.le_of_ble_eq_true rfl) h (fun a6 h => ?_)
        refine qe_goto (tgt := 5) dX9_chosenBy_51 rfl ?_
        refine qe_sub [1, 2, 3, 0] rfl ?_
        exact ih _ _ _ _ h
      refine qe_lload_n dX9_chosenBy_16 1 rfl rfl ?_
      refine qe_aload_n dX9_chosenBy_17 0 rfl rfl trivial ?_
      refine qs_getR (j := 7) tM_0 rfl fl_RX9_25 dX9_chosenBy_18 ?_
      refine qe_iload dX9_chosenBy_21 3 rfl ?_
      refine qs_lld tM_6 dX9_chosenBy_23 h (fun b7 h => ?_)
      refine qe_aload_n dX9_chosenBy_24 0 rfl rfl trivial ?_
      refine qs_getR (j := 8) tM_0 rfl fl_RX9_29 dX9_chosenBy_25 ?_
      refine qe_iload dX9_chosenBy_28 3 rfl ?_
      refine qs_lld tM_7 dX9_chosenBy_30 h (fun b8 h => ?_)
      refine qe_aload_n dX9_chosenBy_31 0 rfl rfl trivial ?_
      refine qs_getL (j := 6) tM_0 rfl fl_RX9_124 dX9_chosenBy_32 ?_
      refine qm_b_elim h (fun a10 s9 hc h => ?_)
      refine qe_callS1 (st := []) kk_X9_chosenBy_X9_isOn (c_X9_isOn hc) rfl rfl (Nat.le_of_ble_eq_true rfl) dX9_chosenBy_35 ?_
      refine qe_if_eq (tgt := 48) dX9_chosenBy_38 rfl h (fun _ h => ?_) (fun _ h => ?_)
      · exact hj48 _ _ _ h
      · refine qe_iload_n dX9_chosenBy_41 2 rfl rfl ?_
        refine qe_iconst (v := (1 : Int32)) dX9_chosenBy_42 rfl ?_
        refine qe_iload dX9_chosenBy_43 3 rfl ?_
        refine qe_ishl dX9_chosenBy_45 ?_
        refine qe_ior dX9_chosenBy_46 ?_
        refine qe_let_i h (fun a11 h => ?_)
        refine qe_istore_n (lv' := [(3, .int a11), (0, .ref 0), (1, .long v1), (4, .int v4)]) dX9_chosenBy_47 rfl rfl (Nat.le_of_ble_eq_true rfl) ?_
        refine qe_sub [1, 2, 0, 3] rfl ?_
        exact hj48 _ _ _ h

set_option maxRecDepth 20000 in
theorem c_X9_chosenBy {l : Launch} {G : qe_G} {v1 : Int64} {s0 : qe_S} {o : Int32 × qe_S} (h : g_X9_chosenBy v1 s0 = some o) : qe_C l G MX9_chosenBy [.ref 0, .long v1] (qs_w s0 (qs_TM G)) (some (.int o.1)) (qs_w o.2 (qs_TM G)) := by
  refine qe_C.of (by decide +kernel) (Nat.le_of_ble_eq_true rfl) ?_
  show qe_J l G MX9_chosenBy 0 [(0, .ref 0), (1, .long v1)] [] (qs_w s0 (qs_TM G)) (some (.int o.1)) (qs_w o.2 (qs_TM G))
  unfold g_X9_chosenBy at h
  refine qe_iconst (v := (0 : Int32)) dX9_chosenBy_0 rfl ?_
  refine qe_let_i h (fun a1 h => ?_)
  refine qe_istore_n (lv' := [(3, .int a1), (0, .ref 0), (1, .long v1)]) dX9_chosenBy_1 rfl rfl (Nat.le_of_ble_eq_true rfl) ?_
  refine qe_iconst (v := (0 : Int32)) dX9_chosenBy_2 rfl ?_
  refine qe_let_i h (fun a2 h => ?_)
  refine qe_istore (lv' := [(4, .int a2), (3, .int a1), (0, .ref 0), (1, .long v1)]) dX9_chosenBy_3 rfl (Nat.le_of_ble_eq_true rfl) ?_
  refine qe_sub [2, 3, 1, 0] rfl ?_
  refine c_X9_chosenBy_L5 _ _ _ _ _ h

set_option maxRecDepth 20000 in
theorem c_X9_chosen {l : Launch} {G : qe_G} {v1 : Int32} {s0 : qe_S} {o : Int32 × qe_S} (h : g_X9_chosen v1 s0 = some o) : qe_C l G MX9_chosen [.ref 0, .int v1] (qs_w s0 (qs_TM G)) (some (.int o.1)) (qs_w o.2 (qs_TM G)) := by
  refine qe_C.of (by decide +kernel) (Nat.le_of_ble_eq_true rfl) ?_
  show qe_J l G MX9_chosen 0 [(0, .ref 0), (1, .int v1)] [] (qs_w s0 (qs_TM G)) (some (.int o.1)) (qs_w o.2 (qs_TM G))
  unfold g_X9_chosen at h
  refine qe_aload_n dX9_chosen_0 0 rfl rfl trivial ?_
  refine qe_iconst (v := (0 : Int32)) dX9_chosen_1 rfl ?_
  refine qm_b_elim h (fun a2 s1 hc h => ?_)
  refine qe_callV1 (st := []) kk_X9_chosen_X9_lays (c_X9_lays hc) (qs_at tM_0) rfl rfl rfl (Nat.le_of_ble_eq_true rfl) dX9_chosen_2 ?_
  refine qe_if_ne (tgt := 15) dX9_chosen_5 rfl h (fun _ h => ?_) (fun _ h => ?_)
  · refine qe_aload_n dX9_chosen_15 0 rfl rfl trivial ?_
    refine qe_iload_n dX9_chosen_16 1 rfl rfl ?_
    refine qm_b_elim h (fun a4 s3 hc h => ?_)
    refine qe_callV1 (st := []) kk_X9_chosen_X9_isPlace (c_X9_isPlace hc) (qs_at tM_0) rfl rfl rfl (Nat.le_of_ble_eq_true rfl) dX9_chosen_17 ?_
    refine qe_if_eq (tgt := 32) dX9_chosen_20 rfl h (fun _ h => ?_) (fun _ h => ?_)
    · refine qe_aload_n dX9_chosen_32 0 rfl rfl trivial ?_
      refine qe_bipush (v := (-2 : Int32)) dX9_chosen_33 rfl ?_
      refine qm_b_elim h (fun a6 s5 hc h => ?_)
      refine qe_callV1 (st := []) kk_X9_chosen_X9_no (c_X9_no hc) (qs_at tM_0) rfl rfl rfl (Nat.le_of_ble_eq_true rfl) dX9_chosen_35 ?_
      have e : (a6, s5) = o := Option.some.inj h
      subst e
      exact qe_iret dX9_chosen_38 rfl
    · refine qe_aload_n dX9_chosen_23 0 rfl rfl trivial ?_
      refine qe_iload_n dX9_chosen_24 1 rfl rfl ?_
      refine qe_i2l dX9_chosen_25 ?_
      refine qm_b_elim h (fun a8 s7 hc h => ?_)
      refine qe_callV1 (st := []) kk_X9_chosen_X9_chosenBy (c_X9_chosenBy hc) (qs_at tM_0) rfl rfl rfl (Nat.le_of_ble_eq_true rfl) dX9_chosen_26 ?_
      refine qe_goto (tgt := 38) dX9_chosen_29 rfl ?_
      have e : (a8, s7) = o := Option.some.inj h
      subst e
      exact qe_iret dX9_chosen_38 rfl
  · refine qe_aload_n dX9_chosen_8 0 rfl rfl trivial ?_
    refine qe_bipush (v := (-7 : Int32)) dX9_chosen_9 rfl ?_
    refine qm_b_elim h (fun a10 s9 hc h => ?_)
    refine qe_callV1 (st := []) kk_X9_chosen_X9_no (c_X9_no hc) (qs_at tM_0) rfl rfl rfl (Nat.le_of_ble_eq_true rfl) dX9_chosen_11 ?_
    have e : (a10, s9) = o := Option.some.inj h
    subst e
    exact qe_iret dX9_chosen_14 rfl

set_option maxRecDepth 20000 in
theorem c_X9_cutsAt_L3 {l : Launch} {G : qe_G} {k44 : Int32 → qe_S → Option (Int32 × qe_S)} {v1 : Int32} {v2 : Int64} (hk44 : ∀ (a1 : Int32) (s : qe_S) (o : Int32 × qe_S), k44 a1 s = some o → qe_J l G MX9_cutsAt 44 [(0, .ref 0), (1, .int v1), (2, .long v2), (4, .int a1)] [] (qs_w s (qs_TM G)) (some (.int o.1)) (qs_w o.2 (qs_TM G))) : ∀ (n : Nat) (v4 : Int32) (s0 : qe_S) (o : Int32 × qe_S), g_X9_cutsAt_L3 k44 v1 v2 n v4 s0 = some o → qe_J l G MX9_cutsAt 3 [(0, .ref 0), (1, .int v1), (2, .long v2), (4, .int v4)] [] (qs_w s0 (qs_TM G)) (some (.int o.1)) (qs_w o.2 (qs_TM G)) := by
  intro n
  induction n with
  | zero =>
    intro v4 s0 o h
    rw [g_X9_cutsAt_L3] at h
    cases h
  | succ n ih =>
    intro v4 s0 o h
    rw [g_X9_cutsAt_L3] at h
    refine qe_iload dX9_cutsAt_3 3 rfl ?_
    refine qe_if_le (tgt := 44) dX9_cutsAt_5 rfl h (fun _ h => ?_) (fun _ h => ?_)
    · exact hk44 _ _ _ h
    · refine qe_aload_n dX9_cutsAt_8 0 rfl rfl trivial ?_
      refine qs_getR (j := 16) tM_0 rfl fl_RX9_47 dX9_cutsAt_9 ?_
      refine qe_iload dX9_cutsAt_12 3 rfl ?_
      refine qe_iconst (v := (1 : Int32)) dX9_cutsAt_14 rfl ?_
      refine qe_isub dX9_cutsAt_15 ?_
      refine qs_lld tM_13 dX9_cutsAt_16 h (fun b2 h => ?_)
      refine qe_lload_n dX9_cutsAt_17 2 rfl rfl ?_
      refine qe_lcmp_le (tgt := 44) dX9_cutsAt_18 dX9_cutsAt_19 rfl h (fun _ h => ?_) (fun _ h => ?_)
      · exact hk44 _ _ _ h
      · refine qe_aload_n dX9_cutsAt_22 0 rfl rfl trivial ?_
        refine qs_getR (j := 16) tM_0 rfl fl_RX9_47 dX9_cutsAt_23 ?_
        refine qe_iload dX9_cutsAt_26 3 rfl ?_
        refine qe_aload_n dX9_cutsAt_28 0 rfl rfl trivial ?_
        refine qs_getR (j := 16) tM_0 rfl fl_RX9_47 dX9_cutsAt_29 ?_
        refine qe_iload dX9_cutsAt_32 3 rfl ?_
        refine qe_iconst (v := (1 : Int32)) dX9_cutsAt_34 rfl ?_
        refine qe_isub dX9_cutsAt_35 ?_
        refine qs_lld tM_13 dX9_cutsAt_36 h (fun b3 h => ?_)
        refine qs_lst tM_13 dX9_cutsAt_37 h (fun s4 h => ?_)
        refine qe_iincl (lv' := fun a5 => [(4, .int a5), (0, .ref 0), (1, .int v1), (2, .long v2)]) dX9_cutsAt_38 3 rfl rfl (fun _ => rfl) (Nat.le_of_ble_eq_true rfl) h (fun a5 h => ?_)
        refine qe_goto (tgt := 3) dX9_cutsAt_41 rfl ?_
        refine qe_sub [1, 2, 3, 0] rfl ?_
        exact ih _ _ _ h

set_option maxRecDepth 20000 in
theorem c_X9_cutsAt {l : Launch} {G : qe_G} {v1 : Int32} {v2 : Int64} {s0 : qe_S} {o : Int32 × qe_S} (h : g_X9_cutsAt v1 v2 s0 = some o) : qe_C l G MX9_cutsAt [.ref 0, .int v1, .long v2] (qs_w s0 (qs_TM G)) (some (.int o.1)) (qs_w o.2 (qs_TM G)) := by
  refine qe_C.of (by decide +kernel) (Nat.le_of_ble_eq_true rfl) ?_
  show qe_J l G MX9_cutsAt 0 [(0, .ref 0), (1, .int v1), (2, .long v2)] [] (qs_w s0 (qs_TM G)) (some (.int o.1)) (qs_w o.2 (qs_TM G))
  unfold g_X9_cutsAt at h
  refine qe_iload_n dX9_cutsAt_0 1 rfl rfl ?_
  refine qe_istore (lv' := [(4, .int v1), (0, .ref 0), (1, .int v1), (2, .long v2)]) dX9_cutsAt_1 rfl (Nat.le_of_ble_eq_true rfl) ?_
  refine qe_sub [1, 2, 3, 0] rfl ?_
  refine c_X9_cutsAt_L3
    (fun a6 s7 o h => ?_) _ _ _ _ h
  refine qe_aload_n dX9_cutsAt_44 0 rfl rfl trivial ?_
  refine qs_getR (j := 16) tM_0 rfl fl_RX9_47 dX9_cutsAt_45 ?_
  refine qe_iload dX9_cutsAt_48 3 rfl ?_
  refine qe_lload_n dX9_cutsAt_50 2 rfl rfl ?_
  refine qs_lst tM_13 dX9_cutsAt_51 h (fun s8 h => ?_)
  refine qe_iload_n dX9_cutsAt_52 1 rfl rfl ?_
  refine qe_iconst (v := (1 : Int32)) dX9_cutsAt_53 rfl ?_
  refine qe_iadd dX9_cutsAt_54 ?_
  have e : ((v1 + (1 : Int32)), s8) = o := Option.some.inj h
  subst e
  exact qe_iret dX9_cutsAt_55 rfl

set_option maxRecDepth 20000 in
theorem c_X9_goesRound_L9 {l : Launch} {G : qe_G} {k61 : Int32 → qe_S → Option (qe_S)} (hk61 : ∀ (a4 : Int32) (s : qe_S) (o : qe_S), k61 a4 s = some o → qe_J l G MX9_goesRound 61 [(0, .ref 0), (1, .int a4)] [] (qs_w s (qs_TM G)) none (qs_w o (qs_TM G))) : ∀ (n : Nat) (v1 : Int32) (v2 : Int32) (s0 : qe_S) (o : qe_S), g_X9_goesRound_L9 k61 n v1 v2 s0 = some o → qe_J l G MX9_goesRound 9 [(0, .ref 0), (1, .int v1), (2, .int v2)] [] (qs_w s0 (qs_TM G)) none (qs_w o (qs_TM G)) := by
  intro n
  induction n with
  | zero =>
    intro v1 v2 s0 o h
    rw [g_X9_goesRound_L9] at h
    cases h
  | succ n ih =>
    intro v1 v2 s0 o h
    rw [g_X9_goesRound_L9] at h
    refine qe_iload_n dX9_goesRound_9 2 rfl rfl ?_
    refine qe_aload_n dX9_goesRound_10 0 rfl rfl trivial ?_
    refine qs_getR (j := 0) tM_0 rfl fl_RX9_7 dX9_goesRound_11 ?_
    refine qe_iconst (v := (0 : Int32)) dX9_goesRound_14 rfl ?_
    refine qs_ild tM_1 dX9_goesRound_15 h (fun a5 h => ?_)
    refine qe_icmp_ge (tgt := 61) dX9_goesRound_16 rfl h (fun _ h => ?_) (fun _ h => ?_)
    · refine qe_sub [0, 1] rfl ?_
      exact hk61 _ _ _ h
    · refine qe_aload_n dX9_goesRound_19 0 rfl rfl trivial ?_
      refine qe_iload_n dX9_goesRound_20 1 rfl rfl ?_
      refine qe_aload_n dX9_goesRound_21 0 rfl rfl trivial ?_
      refine qs_getR (j := 7) tM_0 rfl fl_RX9_25 dX9_goesRound_22 ?_
      refine qe_iload_n dX9_goesRound_25 2 rfl rfl ?_
      refine qs_lld tM_6 dX9_goesRound_26 h (fun b6 h => ?_)
      refine qm_b_elim h (fun a8 s7 hc h => ?_)
      refine qe_callV1 (st := []) kk_X9_goesRound_X9_cutsAt (c_X9_cutsAt hc) (qs_at tM_0) rfl rfl rfl (Nat.le_of_ble_eq_true rfl) dX9_goesRound_27 ?_
      refine qe_istore_n (lv' := [(1, .int a8), (0, .ref 0), (2, .int v2)]) dX9_goesRound_30 rfl rfl (Nat.le_of_ble_eq_true rfl) ?_
      refine qe_aload_n dX9_goesRound_31 1 rfl rfl trivial ?_
      refine qe_iload_n dX9_goesRound_32 0 rfl rfl ?_
      refine qe_aload_n dX9_goesRound_33 1 rfl rfl trivial ?_
      refine qs_getR (j := 7) tM_0 rfl fl_RX9_25 dX9_goesRound_34 ?_
      refine qe_iload_n dX9_goesRound_37 2 rfl rfl ?_
      refine qs_lld tM_6 dX9_goesRound_38 h (fun b9 h => ?_)
      refine qe_aload_n dX9_goesRound_39 1 rfl rfl trivial ?_
      refine qs_getR (j := 8) tM_0 rfl fl_RX9_29 dX9_goesRound_40 ?_
      refine qe_iload_n dX9_goesRound_43 2 rfl rfl ?_
      refine qs_lld tM_7 dX9_goesRound_44 h (fun b10 h => ?_)
      refine qe_ladd dX9_goesRound_45 ?_
      refine qe_aload_n dX9_goesRound_46 1 rfl rfl trivial ?_
      refine qs_getL (j := 6) tM_0 rfl fl_RX9_124 dX9_goesRound_47 ?_
      refine qe_lrem dX9_goesRound_50 h (fun h => ?_)
      refine qm_b_elim h (fun a12 s11 hc h => ?_)
      refine qe_callV1 (st := []) kk_X9_goesRound_X9_cutsAt (c_X9_cutsAt hc) (qs_at tM_0) rfl rfl rfl (Nat.le_of_ble_eq_true rfl) dX9_goesRound_51 ?_
      refine qe_istore_n (lv' := [(1, .int a12), (0, .ref 0), (2, .int v2)]) dX9_goesRound_54 rfl rfl (Nat.le_of_ble_eq_true rfl) ?_
      refine qe_iincl (lv' := fun a13 => [(2, .int a13), (1, .int a12), (0, .ref 0)]) dX9_goesRound_55 2 rfl rfl (fun _ => rfl) (Nat.le_of_ble_eq_true rfl) h (fun a13 h => ?_)
      refine qe_goto (tgt := 9) dX9_goesRound_58 rfl ?_
      refine qe_sub [2, 1, 0] rfl ?_
      exact ih _ _ _ _ h

set_option maxRecDepth 20000 in
theorem c_X9_goesRound_L68 {l : Launch} {G : qe_G} {v1 : Int32} : ∀ (n : Nat) (v2 : Int32) (s0 : qe_S) (o : qe_S), g_X9_goesRound_L68 v1 n v2 s0 = some o → qe_J l G MX9_goesRound 68 [(0, .ref 0), (1, .int v1), (2, .int v2)] [] (qs_w s0 (qs_TM G)) none (qs_w o (qs_TM G)) := by
  intro n
  induction n with
  | zero =>
    intro v2 s0 o h
    rw [g_X9_goesRound_L68] at h
    cases h
  | succ n ih =>
    intro v2 s0 o h
    rw [g_X9_goesRound_L68] at h
    refine qe_iload_n dX9_goesRound_68 2 rfl rfl ?_
    refine qe_iload_n dX9_goesRound_69 1 rfl rfl ?_
    refine qe_icmp_ge (tgt := 229) dX9_goesRound_70 rfl h (fun _ h => ?_) (fun _ h => ?_)
    · have e : s0 = o := Option.some.inj h
      subst e
      exact qe_vret dX9_goesRound_229 rfl
    · refine qm_j_elim h (fun j95 ej95 h => ?_)
      have hj95 : ∀ (q18 : Int64) (s19 : qe_S) (o : qe_S), j95 q18 s19 = some o → qe_J l G MX9_goesRound 95 [(0, .ref 0), (1, .int v1), (2, .int v2)] [.long q18] (qs_w s19 (qs_TM G)) none (qs_w o (qs_TM G)) := by
        intro q18 s19 o h
        subst ej95
        refine qm_j_elim h (fun j223 ej223 h => ?_)
        have hj223 : ∀  (s20 : qe_S) (o : qe_S), j223  s20 = some o → qe_J l G MX9_goesRound 223 [(0, .ref 0), (1, .int v1), (2, .int v2)] [] (qs_w s20 (qs_TM G)) none (qs_w o (qs_TM G)) := by
          intro  s20 o h
          subst ej223
          refine qe_iincl (lv' := fun a21 => [(2, .int a21), (0, .ref 0), (1, .int v1)]) dX9_goesRound_223 2 rfl rfl (fun _ => rfl) (Nat.le_of_ble_eq_true rfl) h (fun a21 h => ?_)
          refine qe_goto (tgt := 68) dX9_goesRound_226 rfl ?_
          refine qe_sub [1, 2, 0] rfl ?_
          exact ih _ _ _ h
        refine qe_lstore_n (lv' := [(3, .long q18), (0, .ref 0), (1, .int v1), (2, .int v2)]) dX9_goesRound_95 rfl rfl (Nat.le_of_ble_eq_true rfl) ?_
        refine qe_lload_n dX9_goesRound_96 0 rfl rfl ?_
        refine qe_aload_n dX9_goesRound_97 1 rfl rfl trivial ?_
        refine qs_getR (j := 16) tM_0 rfl fl_RX9_47 dX9_goesRound_98 ?_
        refine qe_iload_n dX9_goesRound_101 3 rfl rfl ?_
        refine qs_lld tM_13 dX9_goesRound_102 h (fun b22 h => ?_)
        refine qe_lcmp_ne (tgt := 110) dX9_goesRound_103 dX9_goesRound_104 rfl h (fun _ h => ?_) (fun _ h => ?_)
        · refine qm_j_elim h (fun j170 ej170 h => ?_)
          have hj170 : ∀ (a23 : Int32) (s24 : qe_S) (o : qe_S), j170 a23 s24 = some o → qe_J l G MX9_goesRound 170 [(0, .ref 0), (1, .int v1), (2, .int v2), (3, .long q18), (5, .int a23)] [] (qs_w s24 (qs_TM G)) none (qs_w o (qs_TM G)) := by
            intro a23 s24 o h
            subst ej170
            refine qe_aload_n dX9_goesRound_170 0 rfl rfl trivial ?_
            refine qs_getR (j := 13) tM_0 rfl fl_RX9_38 dX9_goesRound_171 ?_
            refine qe_aload_n dX9_goesRound_174 0 rfl rfl trivial ?_
            refine qs_getI (j := 12) tM_0 rfl fl_RX9_162 dX9_goesRound_175 ?_
            refine qe_aload_n dX9_goesRound_178 0 rfl rfl trivial ?_
            refine qs_getR (j := 16) tM_0 rfl fl_RX9_47 dX9_goesRound_179 ?_
            refine qe_iload_n dX9_goesRound_182 2 rfl rfl ?_
            refine qs_lld tM_13 dX9_goesRound_183 h (fun b25 h => ?_)
            refine qs_lst tM_10 dX9_goesRound_184 h (fun s26 h => ?_)
            refine qe_aload_n dX9_goesRound_185 0 rfl rfl trivial ?_
            refine qs_getR (j := 14) tM_0 rfl fl_RX9_41 dX9_goesRound_186 ?_
            refine qe_aload_n dX9_goesRound_189 0 rfl rfl trivial ?_
            refine qs_getI (j := 12) tM_0 rfl fl_RX9_162 dX9_goesRound_190 ?_
            refine qe_lload_n dX9_goesRound_193 3 rfl rfl ?_
            refine qe_aload_n dX9_goesRound_194 0 rfl rfl trivial ?_
            refine qs_getR (j := 16) tM_0 rfl fl_RX9_47 dX9_goesRound_195 ?_
            refine qe_iload_n dX9_goesRound_198 2 rfl rfl ?_
            refine qs_lld tM_13 dX9_goesRound_199 h (fun b27 h => ?_)
            refine qe_lsub dX9_goesRound_200 ?_
            refine qs_lst tM_11 dX9_goesRound_201 h (fun s28 h => ?_)
            refine qe_aload_n dX9_goesRound_202 0 rfl rfl trivial ?_
            refine qs_getR (j := 15) tM_0 rfl fl_RX9_44 dX9_goesRound_203 ?_
            refine qe_aload_n dX9_goesRound_206 0 rfl rfl trivial ?_
            refine qs_getI (j := 12) tM_0 rfl fl_RX9_162 dX9_goesRound_207 ?_
            refine qe_iload dX9_goesRound_210 4 rfl ?_
            refine qs_ist tM_12 dX9_goesRound_212 h (fun s29 h => ?_)
            refine qe_aload_n dX9_goesRound_213 0 rfl rfl trivial ?_
            refine qe_dup dX9_goesRound_214 rfl ?_
            refine qs_getI (j := 12) tM_0 rfl fl_RX9_162 dX9_goesRound_215 ?_
            refine qe_iconst (v := (1 : Int32)) dX9_goesRound_218 rfl ?_
            refine qe_iadd dX9_goesRound_219 ?_
            refine qs_putI (j := 12) tM_0 rfl fp_RX9_162 dX9_goesRound_220 h (fun s30 h => ?_)
            refine qe_sub [0, 1, 2] rfl ?_
            exact hj223  _ _ h
          refine qe_aload_n dX9_goesRound_110 1 rfl rfl trivial ?_
          refine qe_aload_n dX9_goesRound_111 1 rfl rfl trivial ?_
          refine qs_getR (j := 16) tM_0 rfl fl_RX9_47 dX9_goesRound_112 ?_
          refine qe_iload_n dX9_goesRound_115 3 rfl rfl ?_
          refine qs_lld tM_13 dX9_goesRound_116 h (fun b31 h => ?_)
          refine qm_b_elim h (fun a33 s32 hc h => ?_)
          refine qe_callV1 (st := []) kk_X9_goesRound_X9_chosenBy (c_X9_chosenBy hc) (qs_at tM_0) rfl rfl rfl (Nat.le_of_ble_eq_true rfl) dX9_goesRound_117 ?_
          refine qe_istore (lv' := [(5, .int a33), (3, .long q18), (0, .ref 0), (1, .int v1), (2, .int v2)]) dX9_goesRound_120 rfl (Nat.le_of_ble_eq_true rfl) ?_
          refine qe_aload_n dX9_goesRound_122 2 rfl rfl trivial ?_
          refine qs_getI (j := 12) tM_0 rfl fl_RX9_162 dX9_goesRound_123 ?_
          refine qe_if_le (tgt := 170) dX9_goesRound_126 rfl h (fun _ h => ?_) (fun _ h => ?_)
          · refine qe_sub [2, 3, 4, 1, 0] rfl ?_
            exact hj170 _ _ _ h
          · refine qe_aload_n dX9_goesRound_129 2 rfl rfl trivial ?_
            refine qs_getR (j := 15) tM_0 rfl fl_RX9_44 dX9_goesRound_130 ?_
            refine qe_aload_n dX9_goesRound_133 2 rfl rfl trivial ?_
            refine qs_getI (j := 12) tM_0 rfl fl_RX9_162 dX9_goesRound_134 ?_
            refine qe_iconst (v := (1 : Int32)) dX9_goesRound_137 rfl ?_
            refine qe_isub dX9_goesRound_138 ?_
            refine qs_ild tM_12 dX9_goesRound_139 h (fun a34 h => ?_)
            refine qe_iload dX9_goesRound_140 0 rfl ?_
            refine qe_icmp_ne (tgt := 170) dX9_goesRound_142 rfl h (fun _ h => ?_) (fun _ h => ?_)
            · refine qe_sub [2, 3, 4, 1, 0] rfl ?_
              exact hj170 _ _ _ h
            · refine qe_aload_n dX9_goesRound_145 2 rfl rfl trivial ?_
              refine qs_getR (j := 14) tM_0 rfl fl_RX9_41 dX9_goesRound_146 ?_
              refine qe_aload_n dX9_goesRound_149 2 rfl rfl trivial ?_
              refine qs_getI (j := 12) tM_0 rfl fl_RX9_162 dX9_goesRound_150 ?_
              refine qe_iconst (v := (1 : Int32)) dX9_goesRound_153 rfl ?_
              refine qe_isub dX9_goesRound_154 ?_
              refine qe_dup2 dX9_goesRound_155 rfl rfl ?_
              refine qs_lld tM_11 dX9_goesRound_156 h (fun b35 h => ?_)
              refine qe_lload_n dX9_goesRound_157 1 rfl rfl ?_
              refine qe_aload_n dX9_goesRound_158 2 rfl rfl trivial ?_
              refine qs_getR (j := 16) tM_0 rfl fl_RX9_47 dX9_goesRound_159 ?_
              refine qe_iload_n dX9_goesRound_162 4 rfl rfl ?_
              refine qs_lld tM_13 dX9_goesRound_163 h (fun b36 h => ?_)
              refine qe_lsub dX9_goesRound_164 ?_
              refine qe_ladd dX9_goesRound_165 ?_
              refine qs_lst tM_11 dX9_goesRound_166 h (fun s37 h => ?_)
              refine qe_goto (tgt := 223) dX9_goesRound_167 rfl ?_
              refine qe_sub [2, 3, 4] rfl ?_
              exact hj223  _ _ h
        · refine qe_goto (tgt := 223) dX9_goesRound_107 rfl ?_
          refine qe_sub [1, 2, 3] rfl ?_
          exact hj223  _ _ h
      refine qe_iload_n dX9_goesRound_73 2 rfl rfl ?_
      refine qe_iconst (v := (1 : Int32)) dX9_goesRound_74 rfl ?_
      refine qe_iadd dX9_goesRound_75 ?_
      refine qe_iload_n dX9_goesRound_76 1 rfl rfl ?_
      refine qe_icmp_ge (tgt := 91) dX9_goesRound_77 rfl h (fun _ h => ?_) (fun _ h => ?_)
      · refine qe_aload_n dX9_goesRound_91 0 rfl rfl trivial ?_
        refine qs_getL (j := 6) tM_0 rfl fl_RX9_124 dX9_goesRound_92 ?_
        exact hj95 _ _ _ h
      · refine qe_aload_n dX9_goesRound_80 0 rfl rfl trivial ?_
        refine qs_getR (j := 16) tM_0 rfl fl_RX9_47 dX9_goesRound_81 ?_
        refine qe_iload_n dX9_goesRound_84 2 rfl rfl ?_
        refine qe_iconst (v := (1 : Int32)) dX9_goesRound_85 rfl ?_
        refine qe_iadd dX9_goesRound_86 ?_
        refine qs_lld tM_13 dX9_goesRound_87 h (fun b38 h => ?_)
        refine qe_goto (tgt := 95) dX9_goesRound_88 rfl ?_
        exact hj95 _ _ _ h

set_option maxRecDepth 20000 in
theorem c_X9_goesRound {l : Launch} {G : qe_G}  {s0 : qe_S} {o : qe_S} (h : g_X9_goesRound  s0 = some o) : qe_C l G MX9_goesRound [.ref 0] (qs_w s0 (qs_TM G)) none (qs_w o (qs_TM G)) := by
  refine qe_C.of (by decide +kernel) (Nat.le_of_ble_eq_true rfl) ?_
  show qe_J l G MX9_goesRound 0 [(0, .ref 0)] [] (qs_w s0 (qs_TM G)) none (qs_w o (qs_TM G))
  unfold g_X9_goesRound at h
  refine qe_aload_n dX9_goesRound_0 0 rfl rfl trivial ?_
  refine qe_iconst (v := (0 : Int32)) dX9_goesRound_1 rfl ?_
  refine qe_lconst (v := 0) dX9_goesRound_2 rfl ?_
  refine qm_b_elim h (fun a2 s1 hc h => ?_)
  refine qe_callV1 (st := []) kk_X9_goesRound_X9_cutsAt (c_X9_cutsAt hc) (qs_at tM_0) rfl rfl rfl (Nat.le_of_ble_eq_true rfl) dX9_goesRound_3 ?_
  refine qe_istore_n (lv' := [(1, .int a2), (0, .ref 0)]) dX9_goesRound_6 rfl rfl (Nat.le_of_ble_eq_true rfl) ?_
  refine qe_iconst (v := (0 : Int32)) dX9_goesRound_7 rfl ?_
  refine qe_let_i h (fun a3 h => ?_)
  refine qe_istore_n (lv' := [(2, .int a3), (1, .int a2), (0, .ref 0)]) dX9_goesRound_8 rfl rfl (Nat.le_of_ble_eq_true rfl) ?_
  refine qe_sub [2, 1, 0] rfl ?_
  refine c_X9_goesRound_L9
    (fun a14 s15 o h => ?_) _ _ _ _ _ h
  refine qe_aload_n dX9_goesRound_61 0 rfl rfl trivial ?_
  refine qe_iconst (v := (0 : Int32)) dX9_goesRound_62 rfl ?_
  refine qs_putI (j := 12) tM_0 rfl fp_RX9_162 dX9_goesRound_63 h (fun s16 h => ?_)
  refine qe_iconst (v := (0 : Int32)) dX9_goesRound_66 rfl ?_
  refine qe_let_i h (fun a17 h => ?_)
  refine qe_istore_n (lv' := [(2, .int a17), (0, .ref 0), (1, .int a14)]) dX9_goesRound_67 rfl rfl (Nat.le_of_ble_eq_true rfl) ?_
  refine qe_sub [1, 2, 0] rfl ?_
  refine c_X9_goesRound_L68 _ _ _ _ h

