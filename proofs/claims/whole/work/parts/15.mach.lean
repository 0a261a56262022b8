/-! THE MACHINE: the methods meet their models (printed by wip/whole/gen/decomp.py) -/
set_option maxRecDepth 20000 in
theorem c_X9_laysRuns {l : Launch} {G : qe_G}  {s0 : qe_S} {o : Int32 × qe_S} (h : g_X9_laysRuns  s0 = some o) : qe_C l G MX9_laysRuns [.ref 0] (qs_w s0 (qs_TM G)) (some (.int o.1)) (qs_w o.2 (qs_TM G)) := by
  refine qe_C.of (by decide +kernel) (Nat.le_of_ble_eq_true rfl) ?_
  show qe_J l G MX9_laysRuns 0 [(0, .ref 0)] [] (qs_w s0 (qs_TM G)) (some (.int o.1)) (qs_w o.2 (qs_TM G))
  unfold g_X9_laysRuns at h
  refine qe_aload_n dX9_laysRuns_0 0 rfl rfl trivial ?_
  refine qe_iconst (v := (0 : Int32)) dX9_laysRuns_1 rfl ?_
  refine qm_b_elim h (fun a2 s1 hc h => ?_)
  refine qe_callV1 (st := []) kk_X9_laysRuns_X9_lays (c_X9_lays hc) (qs_at tM_0) rfl rfl rfl (Nat.le_of_ble_eq_true rfl) dX9_laysRuns_2 ?_
  refine qe_if_ne (tgt := 10) dX9_laysRuns_5 rfl h (fun _ h => ?_) (fun _ h => ?_)
  · refine qe_aload_n dX9_laysRuns_10 0 rfl rfl trivial ?_
    refine qm_o_elim h (fun s3 hc h => ?_)
    refine qe_callV0 (st := []) kk_X9_laysRuns_X9_goesRound (c_X9_goesRound hc) (qs_at tM_0) rfl rfl rfl (Nat.le_of_ble_eq_true rfl) dX9_laysRuns_11 ?_
    refine qe_iconst (v := (1 : Int32)) dX9_laysRuns_14 rfl ?_
    have e : ((1 : Int32), s3) = o := Option.some.inj h
    subst e
    exact qe_nret dX9_laysRuns_15 rfl rfl
  · refine qe_iconst (v := (0 : Int32)) dX9_laysRuns_8 rfl ?_
    have e : ((0 : Int32), s1) = o := Option.some.inj h
    subst e
    exact qe_nret dX9_laysRuns_9 rfl rfl

set_option maxRecDepth 20000 in
theorem c_X9_run {l : Launch} {G : qe_G} {v1 : Int32} {v2 : Int32} {s0 : qe_S} {o : Int32 × qe_S} (h : g_X9_run v1 v2 s0 = some o) : qe_C l G MX9_run [.ref 0, .int v1, .int v2] (qs_w s0 (qs_TM G)) (some (.int o.1)) (qs_w o.2 (qs_TM G)) := by
  refine qe_C.of (by decide +kernel) (Nat.le_of_ble_eq_true rfl) ?_
  show qe_J l G MX9_run 0 [(0, .ref 0), (1, .int v1), (2, .int v2)] [] (qs_w s0 (qs_TM G)) (some (.int o.1)) (qs_w o.2 (qs_TM G))
  unfold g_X9_run at h
  refine qe_iload_n dX9_run_0 1 rfl rfl ?_
  refine qe_iconst (v := (-1 : Int32)) dX9_run_1 rfl ?_
  refine qe_icmp_lt (tgt := 14) dX9_run_2 rfl h (fun _ h => ?_) (fun _ h => ?_)
  · refine qe_aload_n dX9_run_14 0 rfl rfl trivial ?_
    refine qe_iconst (v := (-1 : Int32)) dX9_run_15 rfl ?_
    refine qm_b_elim h (fun a2 s1 hc h => ?_)
    refine qe_callV1 (st := []) kk_X9_run_X9_no (c_X9_no hc) (qs_at tM_0) rfl rfl rfl (Nat.le_of_ble_eq_true rfl) dX9_run_16 ?_
    have e : (a2, s1) = o := Option.some.inj h
    subst e
    exact qe_iret dX9_run_19 rfl
  · refine qe_iload_n dX9_run_5 2 rfl rfl ?_
    refine qe_iconst (v := (0 : Int32)) dX9_run_6 rfl ?_
    refine qe_iconst (v := (nI 2)) dX9_run_7 rfl ?_
    refine qm_b_elim h (fun a4 s3 hc h => ?_)
    refine qe_callS1 (st := []) kk_X9_run_X9_within (c_X9_within hc) rfl rfl (Nat.le_of_ble_eq_true rfl) dX9_run_8 ?_
    refine qe_if_ne (tgt := 20) dX9_run_11 rfl h (fun _ h => ?_) (fun _ h => ?_)
    · refine qe_aload_n dX9_run_20 0 rfl rfl trivial ?_
      refine qm_b_elim h (fun a6 s5 hc h => ?_)
      refine qe_callV1 (st := []) kk_X9_run_X9_laysRuns (c_X9_laysRuns hc) (qs_at tM_0) rfl rfl rfl (Nat.le_of_ble_eq_true rfl) dX9_run_21 ?_
      refine qe_if_ne (tgt := 34) dX9_run_24 rfl h (fun _ h => ?_) (fun _ h => ?_)
      · refine qe_iload_n dX9_run_34 1 rfl rfl ?_
        refine qe_iconst (v := (-1 : Int32)) dX9_run_35 rfl ?_
        refine qe_icmp_ne (tgt := 44) dX9_run_36 rfl h (fun _ h => ?_) (fun _ h => ?_)
        · refine qe_iload_n dX9_run_44 1 rfl rfl ?_
          refine qe_aload_n dX9_run_45 0 rfl rfl trivial ?_
          refine qs_getI (j := 12) tM_0 rfl fl_RX9_162 dX9_run_46 ?_
          refine qe_icmp_lt (tgt := 59) dX9_run_49 rfl h (fun _ h => ?_) (fun _ h => ?_)
          · refine qe_iload_n dX9_run_59 2 rfl rfl ?_
            refine qe_if_ne (tgt := 73) dX9_run_60 rfl h (fun _ h => ?_) (fun _ h => ?_)
            · refine qe_iload_n dX9_run_73 2 rfl rfl ?_
              refine qe_iconst (v := (1 : Int32)) dX9_run_74 rfl ?_
              refine qe_icmp_ne (tgt := 88) dX9_run_75 rfl h (fun _ h => ?_) (fun _ h => ?_)
              · refine qe_aload_n dX9_run_88 0 rfl rfl trivial ?_
                refine qs_getR (j := 15) tM_0 rfl fl_RX9_44 dX9_run_89 ?_
                refine qe_iload_n dX9_run_92 1 rfl rfl ?_
                refine qs_ild tM_12 dX9_run_93 h (fun a7 h => ?_)
                have e : (a7, s5) = o := Option.some.inj h
                subst e
                exact qe_iret dX9_run_94 rfl
              · refine qe_aload_n dX9_run_78 0 rfl rfl trivial ?_
                refine qs_getR (j := 14) tM_0 rfl fl_RX9_41 dX9_run_79 ?_
                refine qe_iload_n dX9_run_82 1 rfl rfl ?_
                refine qs_lld tM_11 dX9_run_83 h (fun b8 h => ?_)
                refine qe_l2i dX9_run_84 ?_
                refine qe_goto (tgt := 94) dX9_run_85 rfl ?_
                have e : (b8.toInt32, s5) = o := Option.some.inj h
                subst e
                exact qe_iret dX9_run_94 rfl
            · refine qe_aload_n dX9_run_63 0 rfl rfl trivial ?_
              refine qs_getR (j := 13) tM_0 rfl fl_RX9_38 dX9_run_64 ?_
              refine qe_iload_n dX9_run_67 1 rfl rfl ?_
              refine qs_lld tM_10 dX9_run_68 h (fun b9 h => ?_)
              refine qe_l2i dX9_run_69 ?_
              refine qe_goto (tgt := 94) dX9_run_70 rfl ?_
              have e : (b9.toInt32, s5) = o := Option.some.inj h
              subst e
              exact qe_iret dX9_run_94 rfl
          · refine qe_aload_n dX9_run_52 0 rfl rfl trivial ?_
            refine qe_bipush (v := (-5 : Int32)) dX9_run_53 rfl ?_
            refine qm_b_elim h (fun a11 s10 hc h => ?_)
            refine qe_callV1 (st := []) kk_X9_run_X9_no (c_X9_no hc) (qs_at tM_0) rfl rfl rfl (Nat.le_of_ble_eq_true rfl) dX9_run_55 ?_
            have e : (a11, s10) = o := Option.some.inj h
            subst e
            exact qe_iret dX9_run_58 rfl
        · refine qe_aload_n dX9_run_39 0 rfl rfl trivial ?_
          refine qs_getI (j := 12) tM_0 rfl fl_RX9_162 dX9_run_40 ?_
          have e : ((s5.1 0 12), s5) = o := Option.some.inj h
          subst e
          exact qe_iret dX9_run_43 rfl
      · refine qe_aload_n dX9_run_27 0 rfl rfl trivial ?_
        refine qe_bipush (v := (-7 : Int32)) dX9_run_28 rfl ?_
        refine qm_b_elim h (fun a13 s12 hc h => ?_)
        refine qe_callV1 (st := []) kk_X9_run_X9_no (c_X9_no hc) (qs_at tM_0) rfl rfl rfl (Nat.le_of_ble_eq_true rfl) dX9_run_30 ?_
        have e : (a13, s12) = o := Option.some.inj h
        subst e
        exact qe_iret dX9_run_33 rfl
    · refine qe_aload_n dX9_run_14 0 rfl rfl trivial ?_
      refine qe_iconst (v := (-1 : Int32)) dX9_run_15 rfl ?_
      refine qm_b_elim h (fun a15 s14 hc h => ?_)
      refine qe_callV1 (st := []) kk_X9_run_X9_no (c_X9_no hc) (qs_at tM_0) rfl rfl rfl (Nat.le_of_ble_eq_true rfl) dX9_run_16 ?_
      have e : (a15, s14) = o := Option.some.inj h
      subst e
      exact qe_iret dX9_run_19 rfl

set_option maxRecDepth 20000 in
theorem c_X9_has {l : Launch} {G : qe_G} {v1 : Int32} {v2 : Int32} {s0 : qe_S} {o : Int32 × qe_S} (h : g_X9_has v1 v2 s0 = some o) : qe_C l G MX9_has [.ref 0, .int v1, .int v2] (qs_w s0 (qs_TM G)) (some (.int o.1)) (qs_w o.2 (qs_TM G)) := by
  refine qe_C.of (by decide +kernel) (Nat.le_of_ble_eq_true rfl) ?_
  show qe_J l G MX9_has 0 [(0, .ref 0), (1, .int v1), (2, .int v2)] [] (qs_w s0 (qs_TM G)) (some (.int o.1)) (qs_w o.2 (qs_TM G))
  unfold g_X9_has at h
  refine qe_iload_n dX9_has_0 1 rfl rfl ?_
  refine qe_iload_n dX9_has_1 2 rfl rfl ?_
  refine qe_ishr dX9_has_2 ?_
  refine qe_iconst (v := (1 : Int32)) dX9_has_3 rfl ?_
  refine qe_iand dX9_has_4 ?_
  refine qe_iconst (v := (1 : Int32)) dX9_has_5 rfl ?_
  refine qe_icmp_ne (tgt := 13) dX9_has_6 rfl h (fun _ h => ?_) (fun _ h => ?_)
  · refine qe_iconst (v := (0 : Int32)) dX9_has_13 rfl ?_
    have e : ((0 : Int32), s0) = o := Option.some.inj h
    subst e
    exact qe_nret dX9_has_14 rfl rfl
  · refine qe_iconst (v := (1 : Int32)) dX9_has_9 rfl ?_
    refine qe_goto (tgt := 14) dX9_has_10 rfl ?_
    have e : ((1 : Int32), s0) = o := Option.some.inj h
    subst e
    exact qe_nret dX9_has_14 rfl rfl

set_option maxRecDepth 20000 in
theorem c_X9_joint_L56 {l : Launch} {G : qe_G} {k113 : Int64 → qe_S → Option (Int64 × qe_S)} {v1 : Int32} {v2 : Int32} {v3 : Int32} (hk113 : ∀ (b13 : Int64) (s : qe_S) (o : Int64 × qe_S), k113 b13 s = some o → qe_J l G MX9_joint 113 [(0, .ref 0), (3, .int v3), (4, .long b13)] [] (qs_w s (qs_TM G)) (some (.long o.1)) (qs_w o.2 (qs_TM G))) : ∀ (n : Nat) (v4 : Int64) (v6 : Int32) (s0 : qe_S) (o : Int64 × qe_S), g_X9_joint_L56 k113 v1 v2 v3 n v4 v6 s0 = some o → qe_J l G MX9_joint 56 [(0, .ref 0), (1, .int v1), (2, .int v2), (3, .int v3), (4, .long v4), (6, .int v6)] [] (qs_w s0 (qs_TM G)) (some (.long o.1)) (qs_w o.2 (qs_TM G)) := by
  intro n
  induction n with
  | zero =>
    intro v4 v6 s0 o h
    rw [g_X9_joint_L56] at h
    cases h
  | succ n ih =>
    intro v4 v6 s0 o h
    rw [g_X9_joint_L56] at h
    refine qe_iload dX9_joint_56 5 rfl ?_
    refine qe_aload_n dX9_joint_58 0 rfl rfl trivial ?_
    refine qs_getI (j := 12) tM_0 rfl fl_RX9_162 dX9_joint_59 ?_
    refine qe_icmp_ge (tgt := 113) dX9_joint_62 rfl h (fun _ h => ?_) (fun _ h => ?_)
    · refine qe_sub [0, 3, 4] rfl ?_
      exact hk113 _ _ _ h
    · refine qm_j_elim h (fun j107 ej107 h => ?_)
      have hj107 : ∀ (b14 : Int64) (s15 : qe_S) (o : Int64 × qe_S), j107 b14 s15 = some o → qe_J l G MX9_joint 107 [(0, .ref 0), (1, .int v1), (2, .int v2), (3, .int v3), (4, .long b14), (6, .int v6)] [] (qs_w s15 (qs_TM G)) (some (.long o.1)) (qs_w o.2 (qs_TM G)) := by
        intro b14 s15 o h
        subst ej107
        refine qe_iincl (lv' := fun a16 => [(6, .int a16), (0, .ref 0), (1, .int v1), (2, .int v2), (3, .int v3), (4, .long b14)]) dX9_joint_107 5 rfl rfl (fun _ => rfl) (Nat.le_of_ble_eq_true rfl) h (fun a16 h => ?_)
        refine qe_goto (tgt := 56) dX9_joint_110 rfl ?_
        refine qe_sub [1, 2, 3, 4, 5, 0] rfl ?_
        exact ih _ _ _ _ h
      refine qe_aload_n dX9_joint_65 0 rfl rfl trivial ?_
      refine qe_aload_n dX9_joint_66 0 rfl rfl trivial ?_
      refine qs_getR (j := 15) tM_0 rfl fl_RX9_44 dX9_joint_67 ?_
      refine qe_iload dX9_joint_70 5 rfl ?_
      refine qs_ild tM_12 dX9_joint_72 h (fun a17 h => ?_)
      refine qe_iload_n dX9_joint_73 1 rfl rfl ?_
      refine qm_b_elim h (fun a19 s18 hc h => ?_)
      refine qe_callV1 (st := []) kk_X9_joint_X9_has (c_X9_has hc) (qs_at tM_0) rfl rfl rfl (Nat.le_of_ble_eq_true rfl) dX9_joint_74 ?_
      refine qe_if_eq (tgt := 107) dX9_joint_77 rfl h (fun _ h => ?_) (fun _ h => ?_)
      · exact hj107 _ _ _ h
      · refine qe_aload_n dX9_joint_80 0 rfl rfl trivial ?_
        refine qe_aload_n dX9_joint_81 0 rfl rfl trivial ?_
        refine qs_getR (j := 15) tM_0 rfl fl_RX9_44 dX9_joint_82 ?_
        refine qe_iload dX9_joint_85 5 rfl ?_
        refine qs_ild tM_12 dX9_joint_87 h (fun a20 h => ?_)
        refine qe_iload_n dX9_joint_88 2 rfl rfl ?_
        refine qm_b_elim h (fun a22 s21 hc h => ?_)
        refine qe_callV1 (st := []) kk_X9_joint_X9_has (c_X9_has hc) (qs_at tM_0) rfl rfl rfl (Nat.le_of_ble_eq_true rfl) dX9_joint_89 ?_
        refine qe_if_eq (tgt := 107) dX9_joint_92 rfl h (fun _ h => ?_) (fun _ h => ?_)
        · exact hj107 _ _ _ h
        · refine qe_lload dX9_joint_95 4 rfl ?_
          refine qe_aload_n dX9_joint_97 0 rfl rfl trivial ?_
          refine qs_getR (j := 14) tM_0 rfl fl_RX9_41 dX9_joint_98 ?_
          refine qe_iload dX9_joint_101 5 rfl ?_
          refine qs_lld tM_11 dX9_joint_103 h (fun b23 h => ?_)
          refine qe_ladd dX9_joint_104 ?_
          refine qe_let_l h (fun b24 h => ?_)
          refine qe_lstore (lv' := [(4, .long b24), (0, .ref 0), (1, .int v1), (2, .int v2), (3, .int v3), (6, .int v6)]) dX9_joint_105 rfl (Nat.le_of_ble_eq_true rfl) ?_
          refine qe_sub [1, 2, 3, 4, 0, 5] rfl ?_
          exact hj107 _ _ _ h

set_option maxRecDepth 20000 in
theorem c_X9_joint {l : Launch} {G : qe_G} {v1 : Int32} {v2 : Int32} {v3 : Int32} {s0 : qe_S} {o : Int64 × qe_S} (h : g_X9_joint v1 v2 v3 s0 = some o) : qe_C l G MX9_joint [.ref 0, .int v1, .int v2, .int v3] (qs_w s0 (qs_TM G)) (some (.long o.1)) (qs_w o.2 (qs_TM G)) := by
  refine qe_C.of (by decide +kernel) (Nat.le_of_ble_eq_true rfl) ?_
  show qe_J l G MX9_joint 0 [(0, .ref 0), (1, .int v1), (2, .int v2), (3, .int v3)] [] (qs_w s0 (qs_TM G)) (some (.long o.1)) (qs_w o.2 (qs_TM G))
  unfold g_X9_joint at h
  refine qe_aload_n dX9_joint_0 0 rfl rfl trivial ?_
  refine qe_iload_n dX9_joint_1 1 rfl rfl ?_
  refine qm_b_elim h (fun a2 s1 hc h => ?_)
  refine qe_callV1 (st := []) kk_X9_joint_X9_isUnit (c_X9_isUnit hc) (qs_at tM_0) rfl rfl rfl (Nat.le_of_ble_eq_true rfl) dX9_joint_2 ?_
  refine qe_if_eq (tgt := 16) dX9_joint_5 rfl h (fun _ h => ?_) (fun _ h => ?_)
  · refine qe_aload_n dX9_joint_16 0 rfl rfl trivial ?_
    refine qe_iconst (v := (-1 : Int32)) dX9_joint_17 rfl ?_
    refine qm_b_elim h (fun b4 s3 hc h => ?_)
    refine qe_callV1 (st := []) kk_X9_joint_X9_noLong (c_X9_noLong hc) (qs_at tM_0) rfl rfl rfl (Nat.le_of_ble_eq_true rfl) dX9_joint_18 ?_
    have e : (b4, s3) = o := Option.some.inj h
    subst e
    exact qe_lret dX9_joint_21 rfl
  · refine qe_aload_n dX9_joint_8 0 rfl rfl trivial ?_
    refine qe_iload_n dX9_joint_9 2 rfl rfl ?_
    refine qm_b_elim h (fun a6 s5 hc h => ?_)
    refine qe_callV1 (st := []) kk_X9_joint_X9_isUnit (c_X9_isUnit hc) (qs_at tM_0) rfl rfl rfl (Nat.le_of_ble_eq_true rfl) dX9_joint_10 ?_
    refine qe_if_ne (tgt := 22) dX9_joint_13 rfl h (fun _ h => ?_) (fun _ h => ?_)
    · refine qe_iload_n dX9_joint_22 3 rfl rfl ?_
      refine qm_b_elim h (fun a8 s7 hc h => ?_)
      refine qe_callS1 (st := []) kk_X9_joint_X9_isPart (c_X9_isPart hc) rfl rfl (Nat.le_of_ble_eq_true rfl) dX9_joint_23 ?_
      refine qe_if_ne (tgt := 36) dX9_joint_26 rfl h (fun _ h => ?_) (fun _ h => ?_)
      · refine qe_aload_n dX9_joint_36 0 rfl rfl trivial ?_
        refine qm_b_elim h (fun a10 s9 hc h => ?_)
        refine qe_callV1 (st := []) kk_X9_joint_X9_laysRuns (c_X9_laysRuns hc) (qs_at tM_0) rfl rfl rfl (Nat.le_of_ble_eq_true rfl) dX9_joint_37 ?_
        refine qe_if_ne (tgt := 50) dX9_joint_40 rfl h (fun _ h => ?_) (fun _ h => ?_)
        · refine qe_lconst (v := 0) dX9_joint_50 rfl ?_
          refine qe_let_l h (fun b11 h => ?_)
          refine qe_lstore (lv' := [(4, .long b11), (0, .ref 0), (1, .int v1), (2, .int v2), (3, .int v3)]) dX9_joint_51 rfl (Nat.le_of_ble_eq_true rfl) ?_
          refine qe_iconst (v := (0 : Int32)) dX9_joint_53 rfl ?_
          refine qe_let_i h (fun a12 h => ?_)
          refine qe_istore (lv' := [(6, .int a12), (4, .long b11), (0, .ref 0), (1, .int v1), (2, .int v2), (3, .int v3)]) dX9_joint_54 rfl (Nat.le_of_ble_eq_true rfl) ?_
          refine qe_sub [2, 3, 4, 5, 1, 0] rfl ?_
          refine c_X9_joint_L56
            (fun b25 s26 o h => ?_) _ _ _ _ _ h
          refine qe_lload dX9_joint_113 2 rfl ?_
          refine qe_aload_n dX9_joint_115 0 rfl rfl trivial ?_
          refine qs_getL (j := 6) tM_0 rfl fl_RX9_124 dX9_joint_116 ?_
          refine qe_iload_n dX9_joint_119 1 rfl rfl ?_
          refine qm_b_elim h (fun b28 s27 hc h => ?_)
          refine qe_callS1 (st := []) kk_X9_joint_X9_lowest (c_X9_lowest hc) rfl rfl (Nat.le_of_ble_eq_true rfl) dX9_joint_120 ?_
          have e : (b28, s27) = o := Option.some.inj h
          subst e
          exact qe_lret dX9_joint_123 rfl
        · refine qe_aload_n dX9_joint_43 0 rfl rfl trivial ?_
          refine qe_bipush (v := (-7 : Int32)) dX9_joint_44 rfl ?_
          refine qm_b_elim h (fun b30 s29 hc h => ?_)
          refine qe_callV1 (st := []) kk_X9_joint_X9_noLong (c_X9_noLong hc) (qs_at tM_0) rfl rfl rfl (Nat.le_of_ble_eq_true rfl) dX9_joint_46 ?_
          have e : (b30, s29) = o := Option.some.inj h
          subst e
          exact qe_lret dX9_joint_49 rfl
      · refine qe_aload_n dX9_joint_29 0 rfl rfl trivial ?_
        refine qe_bipush (v := (-2 : Int32)) dX9_joint_30 rfl ?_
        refine qm_b_elim h (fun b32 s31 hc h => ?_)
        refine qe_callV1 (st := []) kk_X9_joint_X9_noLong (c_X9_noLong hc) (qs_at tM_0) rfl rfl rfl (Nat.le_of_ble_eq_true rfl) dX9_joint_32 ?_
        have e : (b32, s31) = o := Option.some.inj h
        subst e
        exact qe_lret dX9_joint_35 rfl
    · refine qe_aload_n dX9_joint_16 0 rfl rfl trivial ?_
      refine qe_iconst (v := (-1 : Int32)) dX9_joint_17 rfl ?_
      refine qm_b_elim h (fun b34 s33 hc h => ?_)
      refine qe_callV1 (st := []) kk_X9_joint_X9_noLong (c_X9_noLong hc) (qs_at tM_0) rfl rfl rfl (Nat.le_of_ble_eq_true rfl) dX9_joint_18 ?_
      have e : (b34, s33) = o := Option.some.inj h
      subst e
      exact qe_lret dX9_joint_21 rfl

set_option maxRecDepth 20000 in
theorem c_X9_joints_L47 {l : Launch} {G : qe_G} {k99 : Int64 → qe_S → Option (Int64 × qe_S)} {v1 : Int32} {v2 : Int32} (hk99 : ∀ (b9 : Int64) (s : qe_S) (o : Int64 × qe_S), k99 b9 s = some o → qe_J l G MX9_joints 99 [(0, .ref 0), (2, .int v2), (3, .long b9)] [] (qs_w s (qs_TM G)) (some (.long o.1)) (qs_w o.2 (qs_TM G))) : ∀ (n : Nat) (v3 : Int64) (v5 : Int32) (s0 : qe_S) (o : Int64 × qe_S), g_X9_joints_L47 k99 v1 v2 n v3 v5 s0 = some o → qe_J l G MX9_joints 47 [(0, .ref 0), (1, .int v1), (2, .int v2), (3, .long v3), (5, .int v5)] [] (qs_w s0 (qs_TM G)) (some (.long o.1)) (qs_w o.2 (qs_TM G)) := by
  intro n
  induction n with
  | zero =>
    intro v3 v5 s0 o h
    rw [g_X9_joints_L47] at h
    cases h
  | succ n ih =>
    intro v3 v5 s0 o h
    rw [g_X9_joints_L47] at h
    refine qe_iload dX9_joints_47 4 rfl ?_
    refine qe_aload_n dX9_joints_49 0 rfl rfl trivial ?_
    refine qs_getI (j := 12) tM_0 rfl fl_RX9_162 dX9_joints_50 ?_
    refine qe_icmp_ge (tgt := 99) dX9_joints_53 rfl h (fun _ h => ?_) (fun _ h => ?_)
    · refine qe_sub [0, 2, 3] rfl ?_
      exact hk99 _ _ _ h
    · refine qm_j_elim h (fun j93 ej93 h => ?_)
      have hj93 : ∀ (b10 : Int64) (s11 : qe_S) (o : Int64 × qe_S), j93 b10 s11 = some o → qe_J l G MX9_joints 93 [(0, .ref 0), (1, .int v1), (2, .int v2), (3, .long b10), (5, .int v5)] [] (qs_w s11 (qs_TM G)) (some (.long o.1)) (qs_w o.2 (qs_TM G)) := by
        intro b10 s11 o h
        subst ej93
        refine qe_iincl (lv' := fun a12 => [(5, .int a12), (0, .ref 0), (1, .int v1), (2, .int v2), (3, .long b10)]) dX9_joints_93 4 rfl rfl (fun _ => rfl) (Nat.le_of_ble_eq_true rfl) h (fun a12 h => ?_)
        refine qe_goto (tgt := 47) dX9_joints_96 rfl ?_
        refine qe_sub [1, 2, 3, 4, 0] rfl ?_
        exact ih _ _ _ _ h
      refine qe_aload_n dX9_joints_56 0 rfl rfl trivial ?_
      refine qe_aload_n dX9_joints_57 0 rfl rfl trivial ?_
      refine qs_getR (j := 15) tM_0 rfl fl_RX9_44 dX9_joints_58 ?_
      refine qe_iload dX9_joints_61 4 rfl ?_
      refine qs_ild tM_12 dX9_joints_63 h (fun a13 h => ?_)
      refine qe_iload_n dX9_joints_64 1 rfl rfl ?_
      refine qm_b_elim h (fun a15 s14 hc h => ?_)
      refine qe_callV1 (st := []) kk_X9_joints_X9_has (c_X9_has hc) (qs_at tM_0) rfl rfl rfl (Nat.le_of_ble_eq_true rfl) dX9_joints_65 ?_
      refine qe_if_eq (tgt := 93) dX9_joints_68 rfl h (fun _ h => ?_) (fun _ h => ?_)
      · exact hj93 _ _ _ h
      · refine qe_lload_n dX9_joints_71 3 rfl rfl ?_
        refine qe_aload_n dX9_joints_72 0 rfl rfl trivial ?_
        refine qs_getR (j := 14) tM_0 rfl fl_RX9_41 dX9_joints_73 ?_
        refine qe_iload dX9_joints_76 4 rfl ?_
        refine qs_lld tM_11 dX9_joints_78 h (fun b16 h => ?_)
        refine qe_aload_n dX9_joints_79 0 rfl rfl trivial ?_
        refine qs_getR (j := 15) tM_0 rfl fl_RX9_44 dX9_joints_80 ?_
        refine qe_iload dX9_joints_83 4 rfl ?_
        refine qs_ild tM_12 dX9_joints_85 h (fun a17 h => ?_)
        refine qm_b_elim h (fun a19 s18 hc h => ?_)
        refine qe_callS1 (st := [.long b16, .long v3]) kk_X9_joints_J6_bitCount_0f7a4 (c_J6_bitCount_0f7a4 hc) rfl rfl (Nat.le_of_ble_eq_true rfl) dX9_joints_86 ?_
        refine qe_i2l dX9_joints_89 ?_
        refine qe_lmul dX9_joints_90 ?_
        refine qe_ladd dX9_joints_91 ?_
        refine qe_let_l h (fun b20 h => ?_)
        refine qe_lstore_n (lv' := [(3, .long b20), (0, .ref 0), (1, .int v1), (2, .int v2), (5, .int v5)]) dX9_joints_92 rfl rfl (Nat.le_of_ble_eq_true rfl) ?_
        refine qe_sub [1, 2, 3, 0, 4] rfl ?_
        exact hj93 _ _ _ h

set_option maxRecDepth 20000 in
theorem c_X9_joints {l : Launch} {G : qe_G} {v1 : Int32} {v2 : Int32} {s0 : qe_S} {o : Int64 × qe_S} (h : g_X9_joints v1 v2 s0 = some o) : qe_C l G MX9_joints [.ref 0, .int v1, .int v2] (qs_w s0 (qs_TM G)) (some (.long o.1)) (qs_w o.2 (qs_TM G)) := by
  refine qe_C.of (by decide +kernel) (Nat.le_of_ble_eq_true rfl) ?_
  show qe_J l G MX9_joints 0 [(0, .ref 0), (1, .int v1), (2, .int v2)] [] (qs_w s0 (qs_TM G)) (some (.long o.1)) (qs_w o.2 (qs_TM G))
  unfold g_X9_joints at h
  refine qe_aload_n dX9_joints_0 0 rfl rfl trivial ?_
  refine qe_iload_n dX9_joints_1 1 rfl rfl ?_
  refine qm_b_elim h (fun a2 s1 hc h => ?_)
  refine qe_callV1 (st := []) kk_X9_joints_X9_isUnit (c_X9_isUnit hc) (qs_at tM_0) rfl rfl rfl (Nat.le_of_ble_eq_true rfl) dX9_joints_2 ?_
  refine qe_if_ne (tgt := 14) dX9_joints_5 rfl h (fun _ h => ?_) (fun _ h => ?_)
  · refine qe_iload_n dX9_joints_14 2 rfl rfl ?_
    refine qm_b_elim h (fun a4 s3 hc h => ?_)
    refine qe_callS1 (st := []) kk_X9_joints_X9_isPart (c_X9_isPart hc) rfl rfl (Nat.le_of_ble_eq_true rfl) dX9_joints_15 ?_
    refine qe_if_ne (tgt := 28) dX9_joints_18 rfl h (fun _ h => ?_) (fun _ h => ?_)
    · refine qe_aload_n dX9_joints_28 0 rfl rfl trivial ?_
      refine qm_b_elim h (fun a6 s5 hc h => ?_)
      refine qe_callV1 (st := []) kk_X9_joints_X9_laysRuns (c_X9_laysRuns hc) (qs_at tM_0) rfl rfl rfl (Nat.le_of_ble_eq_true rfl) dX9_joints_29 ?_
      refine qe_if_ne (tgt := 42) dX9_joints_32 rfl h (fun _ h => ?_) (fun _ h => ?_)
      · refine qe_lconst (v := 0) dX9_joints_42 rfl ?_
        refine qe_let_l h (fun b7 h => ?_)
        refine qe_lstore_n (lv' := [(3, .long b7), (0, .ref 0), (1, .int v1), (2, .int v2)]) dX9_joints_43 rfl rfl (Nat.le_of_ble_eq_true rfl) ?_
        refine qe_iconst (v := (0 : Int32)) dX9_joints_44 rfl ?_
        refine qe_let_i h (fun a8 h => ?_)
        refine qe_istore (lv' := [(5, .int a8), (3, .long b7), (0, .ref 0), (1, .int v1), (2, .int v2)]) dX9_joints_45 rfl (Nat.le_of_ble_eq_true rfl) ?_
        refine qe_sub [2, 3, 4, 1, 0] rfl ?_
        refine c_X9_joints_L47
          (fun b21 s22 o h => ?_) _ _ _ _ _ h
        refine qe_lload_n dX9_joints_99 2 rfl rfl ?_
        refine qe_aload_n dX9_joints_100 0 rfl rfl trivial ?_
        refine qs_getL (j := 6) tM_0 rfl fl_RX9_124 dX9_joints_101 ?_
        refine qe_iload_n dX9_joints_104 1 rfl rfl ?_
        refine qm_b_elim h (fun b24 s23 hc h => ?_)
        refine qe_callS1 (st := []) kk_X9_joints_X9_lowest (c_X9_lowest hc) rfl rfl (Nat.le_of_ble_eq_true rfl) dX9_joints_105 ?_
        have e : (b24, s23) = o := Option.some.inj h
        subst e
        exact qe_lret dX9_joints_108 rfl
      · refine qe_aload_n dX9_joints_35 0 rfl rfl trivial ?_
        refine qe_bipush (v := (-7 : Int32)) dX9_joints_36 rfl ?_
        refine qm_b_elim h (fun b26 s25 hc h => ?_)
        refine qe_callV1 (st := []) kk_X9_joints_X9_noLong (c_X9_noLong hc) (qs_at tM_0) rfl rfl rfl (Nat.le_of_ble_eq_true rfl) dX9_joints_38 ?_
        have e : (b26, s25) = o := Option.some.inj h
        subst e
        exact qe_lret dX9_joints_41 rfl
    · refine qe_aload_n dX9_joints_21 0 rfl rfl trivial ?_
      refine qe_bipush (v := (-2 : Int32)) dX9_joints_22 rfl ?_
      refine qm_b_elim h (fun b28 s27 hc h => ?_)
      refine qe_callV1 (st := []) kk_X9_joints_X9_noLong (c_X9_noLong hc) (qs_at tM_0) rfl rfl rfl (Nat.le_of_ble_eq_true rfl) dX9_joints_24 ?_
      have e : (b28, s27) = o := Option.some.inj h
      subst e
      exact qe_lret dX9_joints_27 rfl
  · refine qe_aload_n dX9_joints_8 0 rfl rfl trivial ?_
    refine qe_iconst (v := (-1 : Int32)) dX9_joints_9 rfl ?_
    refine qm_b_elim h (fun b30 s29 hc h => ?_)
    refine qe_callV1 (st := []) kk_X9_joints_X9_noLong (c_X9_noLong hc) (qs_at tM_0) rfl rfl rfl (Nat.le_of_ble_eq_true rfl) dX9_joints_10 ?_
    have e : (b30, s29) = o := Option.some.inj h
    subst e
    exact qe_lret dX9_joints_13 rfl

set_option maxRecDepth 20000 in
theorem c_X9_fair_L36 {l : Launch} {G : qe_G} {k87 : Int32 → Int64 → qe_S → Option (Int32 × qe_S)} {v1 : Int32} (hk87 : ∀ (a8 : Int32) (b9 : Int64) (s : qe_S) (o : Int32 × qe_S), k87 a8 b9 s = some o → qe_J l G MX9_fair 87 [(0, .ref 0), (2, .int a8), (3, .long b9)] [] (qs_w s (qs_TM G)) (some (.int o.1)) (qs_w o.2 (qs_TM G))) : ∀ (n : Nat) (v2 : Int32) (v3 : Int64) (v5 : Int32) (s0 : qe_S) (o : Int32 × qe_S), g_X9_fair_L36 k87 v1 n v2 v3 v5 s0 = some o → qe_J l G MX9_fair 36 [(0, .ref 0), (1, .int v1), (2, .int v2), (3, .long v3), (5, .int v5)] [] (qs_w s0 (qs_TM G)) (some (.int o.1)) (qs_w o.2 (qs_TM G)) := by
  intro n
  induction n with
  | zero =>
    intro v2 v3 v5 s0 o h
    rw [g_X9_fair_L36] at h
    cases h
  | succ n ih =>
    intro v2 v3 v5 s0 o h
    rw [g_X9_fair_L36] at h
    refine qe_iload dX9_fair_36 4 rfl ?_
    refine qe_aload_n dX9_fair_38 0 rfl rfl trivial ?_
    refine qs_getR (j := 0) tM_0 rfl fl_RX9_7 dX9_fair_39 ?_
    refine qe_iconst (v := (0 : Int32)) dX9_fair_42 rfl ?_
    refine qs_ild tM_1 dX9_fair_43 h (fun a10 h => ?_)
    refine qe_icmp_ge (tgt := 87) dX9_fair_44 rfl h (fun _ h => ?_) (fun _ h => ?_)
    · refine qe_sub [0, 2, 3] rfl ?_
      exact hk87 _ _ _ _ h
    · refine qm_j_elim h (fun j81 ej81 h => ?_)
      have hj81 : ∀ (a11 : Int32) (b12 : Int64) (s13 : qe_S) (o : Int32 × qe_S), j81 a11 b12 s13 = some o → qe_J l G MX9_fair 81 [(0, .ref 0), (1, .int v1), (2, .int a11), (3, .long b12), (5, .int v5)] [] (qs_w s13 (qs_TM G)) (some (.int o.1)) (qs_w o.2 (qs_TM G)) := by
        intro a11 b12 s13 o h
        subst ej81
        refine qe_iincl (lv' := fun a14 => [(5, .int a14), (0, .ref 0), (1, .int v1), (2, .int a11), (3, .long b12)]) dX9_fair_81 4 rfl rfl (fun _ => rfl) (Nat.le_of_ble_eq_true rfl) h (fun a14 h => ?_)
        refine qe_goto (tgt := 36) dX9_fair_84 rfl ?_
        refine qe_sub [1, 2, 3, 4, 0] rfl ?_
        exact ih _ _ _ _ _ h
      refine qe_aload_n dX9_fair_47 0 rfl rfl trivial ?_
      refine qs_getR (j := 0) tM_0 rfl fl_RX9_7 dX9_fair_48 ?_
      refine qe_bipush (v := (nI 14)) dX9_fair_51 rfl ?_
      refine qe_iload dX9_fair_53 4 rfl ?_
      refine qe_iadd dX9_fair_55 ?_
      refine qs_ild tM_1 dX9_fair_56 h (fun a15 h => ?_)
      refine qe_iload_n dX9_fair_57 1 rfl rfl ?_
      refine qe_icmp_eq (tgt := 64) dX9_fair_58 rfl h (fun _ h => ?_) (fun _ h => ?_)
      · refine qe_iload_n dX9_fair_64 2 rfl rfl ?_
        refine qe_iconst (v := (1 : Int32)) dX9_fair_65 rfl ?_
        refine qe_iload dX9_fair_66 4 rfl ?_
        refine qe_ishl dX9_fair_68 ?_
        refine qe_ior dX9_fair_69 ?_
        refine qe_let_i h (fun a16 h => ?_)
        refine qe_istore_n (lv' := [(2, .int a16), (0, .ref 0), (1, .int v1), (3, .long v3), (5, .int v5)]) dX9_fair_70 rfl rfl (Nat.le_of_ble_eq_true rfl) ?_
        refine qe_lload_n dX9_fair_71 3 rfl rfl ?_
        refine qe_aload_n dX9_fair_72 1 rfl rfl trivial ?_
        refine qs_getR (j := 8) tM_0 rfl fl_RX9_29 dX9_fair_73 ?_
        refine qe_iload dX9_fair_76 4 rfl ?_
        refine qs_lld tM_7 dX9_fair_78 h (fun b17 h => ?_)
        refine qe_ladd dX9_fair_79 ?_
        refine qe_let_l h (fun b18 h => ?_)
        refine qe_lstore_n (lv' := [(3, .long b18), (2, .int a16), (0, .ref 0), (1, .int v1), (5, .int v5)]) dX9_fair_80 rfl rfl (Nat.le_of_ble_eq_true rfl) ?_
        refine qe_sub [2, 3, 1, 0, 4] rfl ?_
        exact hj81 _ _ _ _ h
      · refine qe_goto (tgt := 81) dX9_fair_61 rfl ?_
        exact hj81 _ _ _ _ h

set_option maxRecDepth 20000 in
theorem c_X9_fair_L90 {l : Launch} {G : qe_G} {v2 : Int32} {v3 : Int64} : ∀ (n : Nat) (v5 : Int32) (s0 : qe_S) (o : Int32 × qe_S), g_X9_fair_L90 v2 v3 n v5 s0 = some o → qe_J l G MX9_fair 90 [(0, .ref 0), (2, .int v2), (3, .long v3), (5, .int v5)] [] (qs_w s0 (qs_TM G)) (some (.int o.1)) (qs_w o.2 (qs_TM G)) := by
  intro n
  induction n with
  | zero =>
    intro v5 s0 o h
    rw [g_X9_fair_L90] at h
    cases h
  | succ n ih =>
    intro v5 s0 o h
    rw [g_X9_fair_L90] at h
    refine qe_iload dX9_fair_90 3 rfl ?_
    refine qe_aload_n dX9_fair_92 0 rfl rfl trivial ?_
    refine qs_getI (j := 12) tM_0 rfl fl_RX9_162 dX9_fair_93 ?_
    refine qe_icmp_ge (tgt := 154) dX9_fair_96 rfl h (fun _ h => ?_) (fun _ h => ?_)
    · refine qe_iconst (v := (1 : Int32)) dX9_fair_154 rfl ?_
      have e : ((1 : Int32), s0) = o := Option.some.inj h
      subst e
      exact qe_iret dX9_fair_155 rfl
    · refine qe_aload_n dX9_fair_99 0 rfl rfl trivial ?_
      refine qs_getR (j := 15) tM_0 rfl fl_RX9_44 dX9_fair_100 ?_
      refine qe_iload dX9_fair_103 3 rfl ?_
      refine qs_ild tM_12 dX9_fair_105 h (fun a23 h => ?_)
      refine qe_iload_n dX9_fair_106 1 rfl rfl ?_
      refine qe_iand dX9_fair_107 ?_
      refine qm_b_elim h (fun a25 s24 hc h => ?_)
      refine qe_callS1 (st := []) kk_X9_fair_J6_bitCount_0f7a4 (c_J6_bitCount_0f7a4 hc) rfl rfl (Nat.le_of_ble_eq_true rfl) dX9_fair_108 ?_
      refine qe_istore (lv' := [(6, .int a25), (0, .ref 0), (2, .int v2), (3, .long v3), (5, .int v5)]) dX9_fair_111 rfl (Nat.le_of_ble_eq_true rfl) ?_
      refine qe_iload dX9_fair_113 0 rfl ?_
      refine qe_i2l dX9_fair_115 ?_
      refine qe_lload_n dX9_fair_116 3 rfl rfl ?_
      refine qe_aload_n dX9_fair_117 1 rfl rfl trivial ?_
      refine qs_getL (j := 6) tM_0 rfl fl_RX9_124 dX9_fair_118 ?_
      refine qe_ldiv dX9_fair_121 h (fun h => ?_)
      refine qe_lcmp_lt (tgt := 146) dX9_fair_122 dX9_fair_123 rfl h (fun _ h => ?_) (fun _ h => ?_)
      · refine qe_iconst (v := (0 : Int32)) dX9_fair_146 rfl ?_
        have e : ((0 : Int32), s24) = o := Option.some.inj h
        subst e
        exact qe_iret dX9_fair_147 rfl
      · refine qe_iload dX9_fair_126 0 rfl ?_
        refine qe_i2l dX9_fair_128 ?_
        refine qe_lload_n dX9_fair_129 3 rfl rfl ?_
        refine qe_aload_n dX9_fair_130 1 rfl rfl trivial ?_
        refine qs_getL (j := 6) tM_0 rfl fl_RX9_124 dX9_fair_131 ?_
        refine qe_ladd dX9_fair_134 ?_
        refine qe_lconst (v := 1) dX9_fair_135 rfl ?_
        refine qe_lsub dX9_fair_136 ?_
        refine qe_aload_n dX9_fair_137 1 rfl rfl trivial ?_
        refine qs_getL (j := 6) tM_0 rfl fl_RX9_124 dX9_fair_138 ?_
        refine qe_ldiv dX9_fair_141 h (fun h => ?_)
        refine qe_lcmp_le (tgt := 148) dX9_fair_142 dX9_fair_143 rfl h (fun _ h => ?_) (fun _ h => ?_)
        · refine qe_iincl (lv' := fun a26 => [(5, .int a26), (6, .int a25), (0, .ref 0), (2, .int v2), (3, .long v3)]) dX9_fair_148 4 rfl rfl (fun _ => rfl) (Nat.le_of_ble_eq_true rfl) h (fun a26 h => ?_)
          refine qe_goto (tgt := 90) dX9_fair_151 rfl ?_
          refine qe_sub [2, 3, 4, 0] rfl ?_
          exact ih _ _ _ h
        · refine qe_iconst (v := (0 : Int32)) dX9_fair_146 rfl ?_
          have e : ((0 : Int32), s24) = o := Option.some.inj h
          subst e
          exact qe_iret dX9_fair_147 rfl

set_option maxRecDepth 20000 in
theorem c_X9_fair {l : Launch} {G : qe_G} {v1 : Int32} {s0 : qe_S} {o : Int32 × qe_S} (h : g_X9_fair v1 s0 = some o) : qe_C l G MX9_fair [.ref 0, .int v1] (qs_w s0 (qs_TM G)) (some (.int o.1)) (qs_w o.2 (qs_TM G)) := by
  refine qe_C.of (by decide +kernel) (Nat.le_of_ble_eq_true rfl) ?_
  show qe_J l G MX9_fair 0 [(0, .ref 0), (1, .int v1)] [] (qs_w s0 (qs_TM G)) (some (.int o.1)) (qs_w o.2 (qs_TM G))
  unfold g_X9_fair at h
  refine qe_iload_n dX9_fair_0 1 rfl rfl ?_
  refine qe_iconst (v := (0 : Int32)) dX9_fair_1 rfl ?_
  refine qe_iconst (v := (nI 3)) dX9_fair_2 rfl ?_
  refine qm_b_elim h (fun a2 s1 hc h => ?_)
  refine qe_callS1 (st := []) kk_X9_fair_X9_within (c_X9_within hc) rfl rfl (Nat.le_of_ble_eq_true rfl) dX9_fair_3 ?_
  refine qe_if_ne (tgt := 15) dX9_fair_6 rfl h (fun _ h => ?_) (fun _ h => ?_)
  · refine qe_aload_n dX9_fair_15 0 rfl rfl trivial ?_
    refine qm_b_elim h (fun a4 s3 hc h => ?_)
    refine qe_callV1 (st := []) kk_X9_fair_X9_laysRuns (c_X9_laysRuns hc) (qs_at tM_0) rfl rfl rfl (Nat.le_of_ble_eq_true rfl) dX9_fair_16 ?_
    refine qe_if_ne (tgt := 29) dX9_fair_19 rfl h (fun _ h => ?_) (fun _ h => ?_)
    · refine qe_iconst (v := (0 : Int32)) dX9_fair_29 rfl ?_
      refine qe_let_i h (fun a5 h => ?_)
      refine qe_istore_n (lv' := [(2, .int a5), (0, .ref 0), (1, .int v1)]) dX9_fair_30 rfl rfl (Nat.le_of_ble_eq_true rfl) ?_
      refine qe_lconst (v := 0) dX9_fair_31 rfl ?_
      refine qe_let_l h (fun b6 h => ?_)
      refine qe_lstore_n (lv' := [(3, .long b6), (2, .int a5), (0, .ref 0), (1, .int v1)]) dX9_fair_32 rfl rfl (Nat.le_of_ble_eq_true rfl) ?_
      refine qe_iconst (v := (0 : Int32)) dX9_fair_33 rfl ?_
      refine qe_let_i h (fun a7 h => ?_)
      refine qe_istore (lv' := [(5, .int a7), (3, .long b6), (2, .int a5), (0, .ref 0), (1, .int v1)]) dX9_fair_34 rfl (Nat.le_of_ble_eq_true rfl) ?_
      refine qe_sub [3, 4, 2, 1, 0] rfl ?_
      refine c_X9_fair_L36
        (fun a19 b20 s21 o h => ?_) _ _ _ _ _ _ h
      refine qe_iconst (v := (0 : Int32)) dX9_fair_87 rfl ?_
      refine qe_let_i h (fun a22 h => ?_)
      refine qe_istore (lv' := [(5, .int a22), (0, .ref 0), (2, .int a19), (3, .long b20)]) dX9_fair_88 rfl (Nat.le_of_ble_eq_true rfl) ?_
      refine qe_sub [1, 2, 3, 0] rfl ?_
      refine c_X9_fair_L90 _ _ _ _ h
    · refine qe_aload_n dX9_fair_22 0 rfl rfl trivial ?_
      refine qe_bipush (v := (-7 : Int32)) dX9_fair_23 rfl ?_
      refine qm_b_elim h (fun a28 s27 hc h => ?_)
      refine qe_callV1 (st := []) kk_X9_fair_X9_no (c_X9_no hc) (qs_at tM_0) rfl rfl rfl (Nat.le_of_ble_eq_true rfl) dX9_fair_25 ?_
      have e : (a28, s27) = o := Option.some.inj h
      subst e
      exact qe_iret dX9_fair_28 rfl
  · refine qe_aload_n dX9_fair_9 0 rfl rfl trivial ?_
    refine qe_iconst (v := (-1 : Int32)) dX9_fair_10 rfl ?_
    refine qm_b_elim h (fun a30 s29 hc h => ?_)
    refine qe_callV1 (st := []) kk_X9_fair_X9_no (c_X9_no hc) (qs_at tM_0) rfl rfl rfl (Nat.le_of_ble_eq_true rfl) dX9_fair_11 ?_
    have e : (a30, s29) = o := Option.some.inj h
    subst e
    exact qe_iret dX9_fair_14 rfl

set_option maxRecDepth 20000 in
theorem c_X9_product {l : Launch} {G : qe_G} {v1 : Int64} {v3 : Int64} {s0 : qe_S} {o : Int64 × qe_S} (h : g_X9_product v1 v3 s0 = some o) : qe_C l G MX9_product [.ref 0, .long v1, .long v3] (qs_w s0 (qs_TM G)) (some (.long o.1)) (qs_w o.2 (qs_TM G)) := by
  refine qe_C.of (by decide +kernel) (Nat.le_of_ble_eq_true rfl) ?_
  show qe_J l G MX9_product 0 [(0, .ref 0), (1, .long v1), (3, .long v3)] [] (qs_w s0 (qs_TM G)) (some (.long o.1)) (qs_w o.2 (qs_TM G))
  unfold g_X9_product at h
  refine qe_lload_n dX9_product_0 1 rfl rfl ?_
  refine qe_lload_n dX9_product_1 2 rfl rfl ?_
  refine qe_lmul dX9_product_2 ?_
  refine qe_let_l h (fun b1 h => ?_)
  refine qe_lstore (lv' := [(5, .long b1), (0, .ref 0), (1, .long v1), (3, .long v3)]) dX9_product_3 rfl (Nat.le_of_ble_eq_true rfl) ?_
  refine qe_lload_n dX9_product_5 2 rfl rfl ?_
  refine qe_lconst (v := 0) dX9_product_6 rfl ?_
  refine qe_lcmp_eq (tgt := 41) dX9_product_7 dX9_product_8 rfl h (fun _ h => ?_) (fun _ h => ?_)
  · refine qe_lload dX9_product_41 0 rfl ?_
    have e : (b1, s0) = o := Option.some.inj h
    subst e
    exact qe_lret dX9_product_43 rfl
  · refine qm_j_elim h (fun j36 ej36 h => ?_)
    have hj36 : ∀  (s2 : qe_S) (o : Int64 × qe_S), j36  s2 = some o → qe_J l G MX9_product 36 [(0, .ref 0), (5, .long b1)] [] (qs_w s2 (qs_TM G)) (some (.long o.1)) (qs_w o.2 (qs_TM G)) := by
      intro  s2 o h
      subst ej36
      refine qe_aload_n dX9_product_36 0 rfl rfl trivial ?_
      refine qe_iconst (v := (1 : Int32)) dX9_product_37 rfl ?_
      refine qs_putZ (j := 19) tM_0 rfl fp_RX9_187 ⟨rfl, rfl⟩ dX9_product_38 h (fun s3 h => ?_)
      refine qe_lload dX9_product_41 1 rfl ?_
      have e : (b1, s3) = o := Option.some.inj h
      subst e
      exact qe_lret dX9_product_43 rfl
    refine qe_lload dX9_product_11 0 rfl ?_
    refine qe_lload_n dX9_product_13 2 rfl rfl ?_
    refine qe_ldiv dX9_product_14 h (fun h => ?_)
    refine qe_lload_n dX9_product_15 3 rfl rfl ?_
    refine qe_lcmp_ne (tgt := 36) dX9_product_16 dX9_product_17 rfl h (fun _ h => ?_) (fun _ h => ?_)
    · refine qe_sub [1, 0] rfl ?_
      exact hj36  _ _ h
    · refine qe_lload_n dX9_product_20 2 rfl rfl ?_
      refine qe_ldc2 kc_RX9_181 dX9_product_21 ?_
      refine qe_lcmp_ne (tgt := 41) dX9_product_24 dX9_product_25 rfl h (fun _ h => ?_) (fun _ h => ?_)
      · refine qe_lload dX9_product_41 0 rfl ?_
        have e : (b1, s0) = o := Option.some.inj h
        subst e
        exact qe_lret dX9_product_43 rfl
      · refine qe_lload_n dX9_product_28 3 rfl rfl ?_
        refine qe_ldc2 kc_RX9_185 dX9_product_29 ?_
        refine qe_lcmp_ne (tgt := 41) dX9_product_32 dX9_product_33 rfl h (fun _ h => ?_) (fun _ h => ?_)
        · refine qe_lload dX9_product_41 0 rfl ?_
          have e : (b1, s0) = o := Option.some.inj h
          subst e
          exact qe_lret dX9_product_43 rfl
        · refine qe_sub [1, 0] rfl ?_
          exact hj36  _ _ h

set_option maxRecDepth 20000 in
theorem c_X9_sum {l : Launch} {G : qe_G} {v1 : Int64} {v3 : Int64} {s0 : qe_S} {o : Int64 × qe_S} (h : g_X9_sum v1 v3 s0 = some o) : qe_C l G MX9_sum [.ref 0, .long v1, .long v3] (qs_w s0 (qs_TM G)) (some (.long o.1)) (qs_w o.2 (qs_TM G)) := by
  refine qe_C.of (by decide +kernel) (Nat.le_of_ble_eq_true rfl) ?_
  show qe_J l G MX9_sum 0 [(0, .ref 0), (1, .long v1), (3, .long v3)] [] (qs_w s0 (qs_TM G)) (some (.long o.1)) (qs_w o.2 (qs_TM G))
  unfold g_X9_sum at h
  refine qm_j_elim h (fun j16 ej16 h => ?_)
  have hj16 : ∀ (b1 : Int64) (q2 : Int32) (s3 : qe_S) (o : Int64 × qe_S), j16 b1 q2 s3 = some o → qe_J l G MX9_sum 16 [(0, .ref 0), (1, .long v1), (3, .long v3), (5, .long b1)] [.int q2] (qs_w s3 (qs_TM G)) (some (.long o.1)) (qs_w o.2 (qs_TM G)) := by
    intro b1 q2 s3 o h
    subst ej16
    refine qm_j_elim h (fun j27 ej27 h => ?_)
    have hj27 : ∀ (q4 : Int32) (q5 : Int32) (s6 : qe_S) (o : Int64 × qe_S), j27 q4 q5 s6 = some o → qe_J l G MX9_sum 27 [(0, .ref 0), (1, .long v1), (5, .long b1)] [.int q4, .int q5] (qs_w s6 (qs_TM G)) (some (.long o.1)) (qs_w o.2 (qs_TM G)) := by
      intro q4 q5 s6 o h
      subst ej27
      refine qe_icmp_ne (tgt := 61) dX9_sum_27 rfl h (fun _ h => ?_) (fun _ h => ?_)
      · refine qe_lload dX9_sum_61 2 rfl ?_
        have e : (b1, s6) = o := Option.some.inj h
        subst e
        exact qe_lret dX9_sum_63 rfl
      · refine qm_j_elim h (fun j42 ej42 h => ?_)
        have hj42 : ∀ (q7 : Int32) (s8 : qe_S) (o : Int64 × qe_S), j42 q7 s8 = some o → qe_J l G MX9_sum 42 [(0, .ref 0), (1, .long v1), (5, .long b1)] [.int q7] (qs_w s8 (qs_TM G)) (some (.long o.1)) (qs_w o.2 (qs_TM G)) := by
          intro q7 s8 o h
          subst ej42
          refine qm_j_elim h (fun j53 ej53 h => ?_)
          have hj53 : ∀ (q9 : Int32) (q10 : Int32) (s11 : qe_S) (o : Int64 × qe_S), j53 q9 q10 s11 = some o → qe_J l G MX9_sum 53 [(0, .ref 0), (5, .long b1)] [.int q9, .int q10] (qs_w s11 (qs_TM G)) (some (.long o.1)) (qs_w o.2 (qs_TM G)) := by
            intro q9 q10 s11 o h
            subst ej53
            refine qe_icmp_eq (tgt := 61) dX9_sum_53 rfl h (fun _ h => ?_) (fun _ h => ?_)
            · refine qe_lload dX9_sum_61 1 rfl ?_
              have e : (b1, s11) = o := Option.some.inj h
              subst e
              exact qe_lret dX9_sum_63 rfl
            · refine qe_aload_n dX9_sum_56 0 rfl rfl trivial ?_
              refine qe_iconst (v := (1 : Int32)) dX9_sum_57 rfl ?_
              refine qs_putZ (j := 19) tM_0 rfl fp_RX9_187 ⟨rfl, rfl⟩ dX9_sum_58 h (fun s12 h => ?_)
              refine qe_lload dX9_sum_61 1 rfl ?_
              have e : (b1, s12) = o := Option.some.inj h
              subst e
              exact qe_lret dX9_sum_63 rfl
          refine qe_lload_n dX9_sum_42 1 rfl rfl ?_
          refine qe_lconst (v := 0) dX9_sum_43 rfl ?_
          refine qe_lcmp_ge (tgt := 52) dX9_sum_44 dX9_sum_45 rfl h (fun _ h => ?_) (fun _ h => ?_)
          · refine qe_iconst (v := (0 : Int32)) dX9_sum_52 rfl ?_
            refine qe_sub [0, 2] rfl ?_
            exact hj53 _ _ _ _ h
          · refine qe_iconst (v := (1 : Int32)) dX9_sum_48 rfl ?_
            refine qe_goto (tgt := 53) dX9_sum_49 rfl ?_
            refine qe_sub [0, 2] rfl ?_
            exact hj53 _ _ _ _ h
        refine qe_lload dX9_sum_30 2 rfl ?_
        refine qe_lconst (v := 0) dX9_sum_32 rfl ?_
        refine qe_lcmp_ge (tgt := 41) dX9_sum_33 dX9_sum_34 rfl h (fun _ h => ?_) (fun _ h => ?_)
        · refine qe_iconst (v := (0 : Int32)) dX9_sum_41 rfl ?_
          exact hj42 _ _ _ h
        · refine qe_iconst (v := (1 : Int32)) dX9_sum_37 rfl ?_
          refine qe_goto (tgt := 42) dX9_sum_38 rfl ?_
          exact hj42 _ _ _ h
    refine qe_lload_n dX9_sum_16 2 rfl rfl ?_
    refine qe_lconst (v := 0) dX9_sum_17 rfl ?_
    refine qe_lcmp_ge (tgt := 26) dX9_sum_18 dX9_sum_19 rfl h (fun _ h => ?_) (fun _ h => ?_)
    · refine qe_iconst (v := (0 : Int32)) dX9_sum_26 rfl ?_
      refine qe_sub [0, 1, 3] rfl ?_
      exact hj27 _ _ _ _ h
    · refine qe_iconst (v := (1 : Int32)) dX9_sum_22 rfl ?_
      refine qe_goto (tgt := 27) dX9_sum_23 rfl ?_
      refine qe_sub [0, 1, 3] rfl ?_
      exact hj27 _ _ _ _ h
  refine qe_lload_n dX9_sum_0 1 rfl rfl ?_
  refine qe_lload_n dX9_sum_1 2 rfl rfl ?_
  refine qe_ladd dX9_sum_2 ?_
  refine qe_let_l h (fun b13 h => ?_)
  refine qe_lstore (lv' := [(5, .long b13), (0, .ref 0), (1, .long v1), (3, .long v3)]) dX9_sum_3 rfl (Nat.le_of_ble_eq_true rfl) ?_
  refine qe_lload_n dX9_sum_5 2 rfl rfl ?_
  refine qe_lconst (v := 0) dX9_sum_6 rfl ?_
  refine qe_lcmp_ge (tgt := 15) dX9_sum_7 dX9_sum_8 rfl h (fun _ h => ?_) (fun _ h => ?_)
  · refine qe_iconst (v := (0 : Int32)) dX9_sum_15 rfl ?_
    refine qe_sub [1, 2, 3, 0] rfl ?_
    exact hj16 _ _ _ _ h
  · refine qe_iconst (v := (1 : Int32)) dX9_sum_11 rfl ?_
    refine qe_goto (tgt := 16) dX9_sum_12 rfl ?_
    refine qe_sub [1, 2, 3, 0] rfl ?_
    exact hj16 _ _ _ _ h

set_option maxRecDepth 20000 in
theorem c_X9_is {l : Launch} {G : qe_G} {v1 : Int64} {v3 : Int64} {s0 : qe_S} {o : qe_S} (h : g_X9_is v1 v3 s0 = some o) : qe_C l G MX9_is [.ref 0, .long v1, .long v3] (qs_w s0 (qs_TM G)) none (qs_w o (qs_TM G)) := by
  refine qe_C.of (by decide +kernel) (Nat.le_of_ble_eq_true rfl) ?_
  show qe_J l G MX9_is 0 [(0, .ref 0), (1, .long v1), (3, .long v3)] [] (qs_w s0 (qs_TM G)) none (qs_w o (qs_TM G))
  unfold g_X9_is at h
  refine qe_aload_n dX9_is_0 0 rfl rfl trivial ?_
  refine qs_getI (j := 19) tM_0 rfl fl_RX9_187 dX9_is_1 ?_
  refine qe_if_eq (tgt := 8) dX9_is_4 rfl h (fun _ h => ?_) (fun _ h => ?_)
  · refine qe_lload_n dX9_is_8 1 rfl rfl ?_
    refine qe_lload_n dX9_is_9 2 rfl rfl ?_
    refine qm_b_elim h (fun b2 s1 hc h => ?_)
    refine qe_callS1 (st := []) kk_X9_is_X9_divisor (c_X9_divisor hc) rfl rfl (Nat.le_of_ble_eq_true rfl) dX9_is_10 ?_
    refine qe_lstore (lv' := [(5, .long b2), (0, .ref 0), (1, .long v1), (3, .long v3)]) dX9_is_13 rfl (Nat.le_of_ble_eq_true rfl) ?_
    refine qe_aload_n dX9_is_15 1 rfl rfl trivial ?_
    refine qe_lload_n dX9_is_16 2 rfl rfl ?_
    refine qe_lload dX9_is_17 0 rfl ?_
    refine qe_ldiv dX9_is_19 h (fun h => ?_)
    refine qs_putL (j := 17) tM_0 rfl fp_RX9_191 dX9_is_20 h (fun s3 h => ?_)
    refine qe_aload_n dX9_is_23 1 rfl rfl trivial ?_
    refine qe_lload_n dX9_is_24 3 rfl rfl ?_
    refine qe_lload dX9_is_25 0 rfl ?_
    refine qe_ldiv dX9_is_27 h (fun h => ?_)
    refine qs_putL (j := 18) tM_0 rfl fp_RX9_194 dX9_is_28 h (fun s4 h => ?_)
    have e : s4 = o := Option.some.inj h
    subst e
    exact qe_vret dX9_is_31 rfl
  · have e : s0 = o := Option.some.inj h
    subst e
    exact qe_vret dX9_is_7 rfl

set_option maxRecDepth 20000 in
theorem c_X9_adds {l : Launch} {G : qe_G} {v1 : Int64} {v3 : Int64} {v5 : Int64} {v7 : Int64} {s0 : qe_S} {o : qe_S} (h : g_X9_adds v1 v3 v5 v7 s0 = some o) : qe_C l G MX9_adds [.ref 0, .long v1, .long v3, .long v5, .long v7] (qs_w s0 (qs_TM G)) none (qs_w o (qs_TM G)) := by
  refine qe_C.of (by decide +kernel) (Nat.le_of_ble_eq_true rfl) ?_
  show qe_J l G MX9_adds 0 [(0, .ref 0), (1, .long v1), (3, .long v3), (5, .long v5), (7, .long v7)] [] (qs_w s0 (qs_TM G)) none (qs_w o (qs_TM G))
  unfold g_X9_adds at h
  refine qe_aload_n dX9_adds_0 0 rfl rfl trivial ?_
  refine qe_lload_n dX9_adds_1 1 rfl rfl ?_
  refine qe_lload dX9_adds_2 4 rfl ?_
  refine qm_b_elim h (fun b2 s1 hc h => ?_)
  refine qe_callV1 (st := []) kk_X9_adds_X9_product (c_X9_product hc) (qs_at tM_0) rfl rfl rfl (Nat.le_of_ble_eq_true rfl) dX9_adds_4 ?_
  refine qe_lstore (lv' := [(9, .long b2), (0, .ref 0), (1, .long v1), (3, .long v3), (5, .long v5), (7, .long v7)]) dX9_adds_7 rfl (Nat.le_of_ble_eq_true rfl) ?_
  refine qe_aload_n dX9_adds_9 1 rfl rfl trivial ?_
  refine qe_lload dX9_adds_10 4 rfl ?_
  refine qe_lload_n dX9_adds_12 3 rfl rfl ?_
  refine qm_b_elim h (fun b4 s3 hc h => ?_)
  refine qe_callV1 (st := []) kk_X9_adds_X9_product (c_X9_product hc) (qs_at tM_0) rfl rfl rfl (Nat.le_of_ble_eq_true rfl) dX9_adds_13 ?_
  refine qe_lstore (lv' := [(11, .long b4), (9, .long b2), (0, .ref 0), (1, .long v1), (3, .long v3), (5, .long v5), (7, .long v7)]) dX9_adds_16 rfl (Nat.le_of_ble_eq_true rfl) ?_
  refine qe_aload_n dX9_adds_18 2 rfl rfl trivial ?_
  refine qe_lload_n dX9_adds_19 4 rfl rfl ?_
  refine qe_lload dX9_adds_20 6 rfl ?_
  refine qm_b_elim h (fun b6 s5 hc h => ?_)
  refine qe_callV1 (st := []) kk_X9_adds_X9_product (c_X9_product hc) (qs_at tM_0) rfl rfl rfl (Nat.le_of_ble_eq_true rfl) dX9_adds_22 ?_
  refine qe_lstore (lv' := [(13, .long b6), (11, .long b4), (9, .long b2), (0, .ref 0), (1, .long v1), (3, .long v3), (5, .long v5), (7, .long v7)]) dX9_adds_25 rfl (Nat.le_of_ble_eq_true rfl) ?_
  refine qe_aload_n dX9_adds_27 3 rfl rfl trivial ?_
  refine qe_aload_n dX9_adds_28 3 rfl rfl trivial ?_
  refine qe_lload dX9_adds_29 2 rfl ?_
  refine qe_lload dX9_adds_31 1 rfl ?_
  refine qm_b_elim h (fun b8 s7 hc h => ?_)
  refine qe_callV1 (st := [.ref 0]) kk_X9_adds_X9_sum (c_X9_sum hc) (qs_at tM_0) rfl rfl rfl (Nat.le_of_ble_eq_true rfl) dX9_adds_33 ?_
  refine qe_lload dX9_adds_36 0 rfl ?_
  refine qm_o_elim h (fun s9 hc h => ?_)
  refine qe_callV0 (st := []) kk_X9_adds_X9_is (c_X9_is hc) (qs_at tM_0) rfl rfl rfl (Nat.le_of_ble_eq_true rfl) dX9_adds_38 ?_
  have e : s9 = o := Option.some.inj h
  subst e
  exact qe_vret dX9_adds_41 rfl

set_option maxRecDepth 20000 in
theorem c_X9_estimates_L12 {l : Launch} {G : qe_G} {v1 : Int32} : ∀ (n : Nat) (v2 : Int32) (s0 : qe_S) (o : qe_S), g_X9_estimates_L12 v1 n v2 s0 = some o → qe_J l G MX9_estimates 12 [(0, .ref 0), (1, .int v1), (2, .int v2)] [] (qs_w s0 (qs_TM G)) none (qs_w o (qs_TM G)) := by
  intro n
  induction n with
  | zero =>
    intro v2 s0 o h
    rw [g_X9_estimates_L12] at h
    cases h
  | succ n ih =>
    intro v2 s0 o h
    rw [g_X9_estimates_L12] at h
    refine qe_iload_n dX9_estimates_12 2 rfl rfl ?_
    refine qe_aload_n dX9_estimates_13 0 rfl rfl trivial ?_
    refine qs_getR (j := 0) tM_0 rfl fl_RX9_7 dX9_estimates_14 ?_
    refine qe_iconst (v := (0 : Int32)) dX9_estimates_17 rfl ?_
    refine qs_ild tM_1 dX9_estimates_18 h (fun a4 h => ?_)
    refine qe_icmp_ge (tgt := 107) dX9_estimates_19 rfl h (fun _ h => ?_) (fun _ h => ?_)
    · have e : s0 = o := Option.some.inj h
      subst e
      exact qe_vret dX9_estimates_107 rfl
    · refine qe_aload_n dX9_estimates_22 0 rfl rfl trivial ?_
      refine qs_getI (j := 19) tM_0 rfl fl_RX9_187 dX9_estimates_23 ?_
      refine qe_if_ne (tgt := 107) dX9_estimates_26 rfl h (fun _ h => ?_) (fun _ h => ?_)
      · have e : s0 = o := Option.some.inj h
        subst e
        exact qe_vret dX9_estimates_107 rfl
      · refine qm_j_elim h (fun j101 ej101 h => ?_)
        have hj101 : ∀  (s5 : qe_S) (o : qe_S), j101  s5 = some o → qe_J l G MX9_estimates 101 [(0, .ref 0), (1, .int v1), (2, .int v2)] [] (qs_w s5 (qs_TM G)) none (qs_w o (qs_TM G)) := by
          intro  s5 o h
          subst ej101
          refine qe_iincl (lv' := fun a6 => [(2, .int a6), (0, .ref 0), (1, .int v1)]) dX9_estimates_101 2 rfl rfl (fun _ => rfl) (Nat.le_of_ble_eq_true rfl) h (fun a6 h => ?_)
          refine qe_goto (tgt := 12) dX9_estimates_104 rfl ?_
          refine qe_sub [1, 2, 0] rfl ?_
          exact ih _ _ _ h
        refine qe_aload_n dX9_estimates_29 0 rfl rfl trivial ?_
        refine qe_iload_n dX9_estimates_30 1 rfl rfl ?_
        refine qe_iload_n dX9_estimates_31 2 rfl rfl ?_
        refine qm_b_elim h (fun a8 s7 hc h => ?_)
        refine qe_callV1 (st := []) kk_X9_estimates_X9_has (c_X9_has hc) (qs_at tM_0) rfl rfl rfl (Nat.le_of_ble_eq_true rfl) dX9_estimates_32 ?_
        refine qe_if_ne (tgt := 41) dX9_estimates_35 rfl h (fun _ h => ?_) (fun _ h => ?_)
        · refine qe_aload_n dX9_estimates_41 0 rfl rfl trivial ?_
          refine qs_getR (j := 0) tM_0 rfl fl_RX9_7 dX9_estimates_42 ?_
          refine qe_bipush (v := (nI 26)) dX9_estimates_45 rfl ?_
          refine qe_iload_n dX9_estimates_47 2 rfl rfl ?_
          refine qe_iadd dX9_estimates_48 ?_
          refine qs_ild tM_1 dX9_estimates_49 h (fun a9 h => ?_)
          refine qe_i2l dX9_estimates_50 ?_
          refine qe_aload_n dX9_estimates_51 0 rfl rfl trivial ?_
          refine qs_getR (j := 0) tM_0 rfl fl_RX9_7 dX9_estimates_52 ?_
          refine qe_bipush (v := (nI 86)) dX9_estimates_55 rfl ?_
          refine qe_iload_n dX9_estimates_57 2 rfl rfl ?_
          refine qe_iadd dX9_estimates_58 ?_
          refine qs_ild tM_1 dX9_estimates_59 h (fun a10 h => ?_)
          refine qe_i2l dX9_estimates_60 ?_
          refine qe_lmul dX9_estimates_61 ?_
          refine qe_let_l h (fun b11 h => ?_)
          refine qe_lstore_n (lv' := [(3, .long b11), (0, .ref 0), (1, .int v1), (2, .int v2)]) dX9_estimates_62 rfl rfl (Nat.le_of_ble_eq_true rfl) ?_
          refine qe_aload_n dX9_estimates_63 1 rfl rfl trivial ?_
          refine qs_getR (j := 0) tM_0 rfl fl_RX9_7 dX9_estimates_64 ?_
          refine qe_bipush (v := (nI 50)) dX9_estimates_67 rfl ?_
          refine qe_iload_n dX9_estimates_69 3 rfl rfl ?_
          refine qe_iadd dX9_estimates_70 ?_
          refine qs_ild tM_1 dX9_estimates_71 h (fun a12 h => ?_)
          refine qe_i2l dX9_estimates_72 ?_
          refine qe_let_l h (fun b13 h => ?_)
          refine qe_lstore (lv' := [(5, .long b13), (3, .long b11), (0, .ref 0), (1, .int v1), (2, .int v2)]) dX9_estimates_73 rfl (Nat.le_of_ble_eq_true rfl) ?_
          refine qe_aload_n dX9_estimates_75 2 rfl rfl trivial ?_
          refine qe_aload_n dX9_estimates_76 2 rfl rfl trivial ?_
          refine qs_getL (j := 17) tM_0 rfl fl_RX9_191 dX9_estimates_77 ?_
          refine qe_aload_n dX9_estimates_80 2 rfl rfl trivial ?_
          refine qs_getL (j := 18) tM_0 rfl fl_RX9_194 dX9_estimates_81 ?_
          refine qe_lload_n dX9_estimates_84 1 rfl rfl ?_
          refine qe_lload dX9_estimates_85 0 rfl ?_
          refine qe_iconst (v := (0 : Int32)) dX9_estimates_87 rfl ?_
          refine qm_b_elim h (fun b15 s14 hc h => ?_)
          refine qe_callS1 (st := [.long (s7.2 0 18), .long (s7.2 0 17), .ref 0]) kk_X9_estimates_X9_lowest (c_X9_lowest hc) rfl rfl (Nat.le_of_ble_eq_true rfl) dX9_estimates_88 ?_
          refine qe_lload_n dX9_estimates_91 1 rfl rfl ?_
          refine qe_lload dX9_estimates_92 0 rfl ?_
          refine qe_iconst (v := (1 : Int32)) dX9_estimates_94 rfl ?_
          refine qm_b_elim h (fun b17 s16 hc h => ?_)
          refine qe_callS1 (st := [.long b15, .long (s7.2 0 18), .long (s7.2 0 17), .ref 0]) kk_X9_estimates_X9_lowest (c_X9_lowest hc) rfl rfl (Nat.le_of_ble_eq_true rfl) dX9_estimates_95 ?_
          refine qm_o_elim h (fun s18 hc h => ?_)
          refine qe_callV0 (st := []) kk_X9_estimates_X9_adds (c_X9_adds hc) (qs_at tM_0) rfl rfl rfl (Nat.le_of_ble_eq_true rfl) dX9_estimates_98 ?_
          refine qe_sub [2, 3, 4] rfl ?_
          exact hj101  _ _ h
        · refine qe_goto (tgt := 101) dX9_estimates_38 rfl ?_
          exact hj101  _ _ h

set_option maxRecDepth 20000 in
theorem c_X9_estimates {l : Launch} {G : qe_G} {v1 : Int32} {s0 : qe_S} {o : qe_S} (h : g_X9_estimates v1 s0 = some o) : qe_C l G MX9_estimates [.ref 0, .int v1] (qs_w s0 (qs_TM G)) none (qs_w o (qs_TM G)) := by
  refine qe_C.of (by decide +kernel) (Nat.le_of_ble_eq_true rfl) ?_
  show qe_J l G MX9_estimates 0 [(0, .ref 0), (1, .int v1)] [] (qs_w s0 (qs_TM G)) none (qs_w o (qs_TM G))
  unfold g_X9_estimates at h
  refine qe_aload_n dX9_estimates_0 0 rfl rfl trivial ?_
  refine qe_lconst (v := 0) dX9_estimates_1 rfl ?_
  refine qs_putL (j := 17) tM_0 rfl fp_RX9_191 dX9_estimates_2 h (fun s1 h => ?_)
  refine qe_aload_n dX9_estimates_5 0 rfl rfl trivial ?_
  refine qe_lconst (v := 1) dX9_estimates_6 rfl ?_
  refine qs_putL (j := 18) tM_0 rfl fp_RX9_194 dX9_estimates_7 h (fun s2 h => ?_)
  refine qe_iconst (v := (0 : Int32)) dX9_estimates_10 rfl ?_
  refine qe_let_i h (fun a3 h => ?_)
  refine qe_istore_n (lv' := [(2, .int a3), (0, .ref 0), (1, .int v1)]) dX9_estimates_11 rfl rfl (Nat.le_of_ble_eq_true rfl) ?_
  refine qe_sub [1, 2, 0] rfl ?_
  refine c_X9_estimates_L12 _ _ _ _ h

set_option maxRecDepth 20000 in
theorem c_X9_estimate {l : Launch} {G : qe_G} {v1 : Int32} {v2 : Int32} {s0 : qe_S} {o : Int64 × qe_S} (h : g_X9_estimate v1 v2 s0 = some o) : qe_C l G MX9_estimate [.ref 0, .int v1, .int v2] (qs_w s0 (qs_TM G)) (some (.long o.1)) (qs_w o.2 (qs_TM G)) := by
  refine qe_C.of (by decide +kernel) (Nat.le_of_ble_eq_true rfl) ?_
  show qe_J l G MX9_estimate 0 [(0, .ref 0), (1, .int v1), (2, .int v2)] [] (qs_w s0 (qs_TM G)) (some (.long o.1)) (qs_w o.2 (qs_TM G))
  unfold g_X9_estimate at h
  refine qe_iload_n dX9_estimate_0 2 rfl rfl ?_
  refine qm_b_elim h (fun a2 s1 hc h => ?_)
  refine qe_callS1 (st := []) kk_X9_estimate_X9_isPart (c_X9_isPart hc) rfl rfl (Nat.le_of_ble_eq_true rfl) dX9_estimate_1 ?_
  refine qe_if_ne (tgt := 14) dX9_estimate_4 rfl h (fun _ h => ?_) (fun _ h => ?_)
  · refine qe_aload_n dX9_estimate_14 0 rfl rfl trivial ?_
    refine qe_iconst (v := (0 : Int32)) dX9_estimate_15 rfl ?_
    refine qm_b_elim h (fun a4 s3 hc h => ?_)
    refine qe_callV1 (st := []) kk_X9_estimate_X9_lays (c_X9_lays hc) (qs_at tM_0) rfl rfl rfl (Nat.le_of_ble_eq_true rfl) dX9_estimate_16 ?_
    refine qe_if_ne (tgt := 29) dX9_estimate_19 rfl h (fun _ h => ?_) (fun _ h => ?_)
    · refine qe_aload_n dX9_estimate_29 0 rfl rfl trivial ?_
      refine qe_iload_n dX9_estimate_30 1 rfl rfl ?_
      refine qm_b_elim h (fun a6 s5 hc h => ?_)
      refine qe_callV1 (st := []) kk_X9_estimate_X9_isPlace (c_X9_isPlace hc) (qs_at tM_0) rfl rfl rfl (Nat.le_of_ble_eq_true rfl) dX9_estimate_31 ?_
      refine qe_if_ne (tgt := 44) dX9_estimate_34 rfl h (fun _ h => ?_) (fun _ h => ?_)
      · refine qe_aload_n dX9_estimate_44 0 rfl rfl trivial ?_
        refine qe_iconst (v := (0 : Int32)) dX9_estimate_45 rfl ?_
        refine qs_putZ (j := 19) tM_0 rfl fp_RX9_187 ⟨rfl, rfl⟩ dX9_estimate_46 h (fun s7 h => ?_)
        refine qe_aload_n dX9_estimate_49 0 rfl rfl trivial ?_
        refine qe_aload_n dX9_estimate_50 0 rfl rfl trivial ?_
        refine qe_iload_n dX9_estimate_51 1 rfl rfl ?_
        refine qe_i2l dX9_estimate_52 ?_
        refine qm_b_elim h (fun a9 s8 hc h => ?_)
        refine qe_callV1 (st := [.ref 0]) kk_X9_estimate_X9_chosenBy (c_X9_chosenBy hc) (qs_at tM_0) rfl rfl rfl (Nat.le_of_ble_eq_true rfl) dX9_estimate_53 ?_
        refine qm_o_elim h (fun s10 hc h => ?_)
        refine qe_callV0 (st := []) kk_X9_estimate_X9_estimates (c_X9_estimates hc) (qs_at tM_0) rfl rfl rfl (Nat.le_of_ble_eq_true rfl) dX9_estimate_56 ?_
        refine qe_aload_n dX9_estimate_59 0 rfl rfl trivial ?_
        refine qs_getI (j := 19) tM_0 rfl fl_RX9_187 dX9_estimate_60 ?_
        refine qe_if_eq (tgt := 73) dX9_estimate_63 rfl h (fun _ h => ?_) (fun _ h => ?_)
        · refine qe_iload_n dX9_estimate_73 2 rfl rfl ?_
          refine qe_if_ne (tgt := 84) dX9_estimate_74 rfl h (fun _ h => ?_) (fun _ h => ?_)
          · refine qe_aload_n dX9_estimate_84 0 rfl rfl trivial ?_
            refine qs_getL (j := 18) tM_0 rfl fl_RX9_194 dX9_estimate_85 ?_
            have e : ((s10.2 0 18), s10) = o := Option.some.inj h
            subst e
            exact qe_lret dX9_estimate_88 rfl
          · refine qe_aload_n dX9_estimate_77 0 rfl rfl trivial ?_
            refine qs_getL (j := 17) tM_0 rfl fl_RX9_191 dX9_estimate_78 ?_
            refine qe_goto (tgt := 88) dX9_estimate_81 rfl ?_
            have e : ((s10.2 0 17), s10) = o := Option.some.inj h
            subst e
            exact qe_lret dX9_estimate_88 rfl
        · refine qe_aload_n dX9_estimate_66 0 rfl rfl trivial ?_
          refine qe_bipush (v := (-7 : Int32)) dX9_estimate_67 rfl ?_
          refine qm_b_elim h (fun b12 s11 hc h => ?_)
          refine qe_callV1 (st := []) kk_X9_estimate_X9_noLong (c_X9_noLong hc) (qs_at tM_0) rfl rfl rfl (Nat.le_of_ble_eq_true rfl) dX9_estimate_69 ?_
          have e : (b12, s11) = o := Option.some.inj h
          subst e
          exact qe_lret dX9_estimate_72 rfl
      · refine qe_aload_n dX9_estimate_37 0 rfl rfl trivial ?_
        refine qe_bipush (v := (-2 : Int32)) dX9_estimate_38 rfl ?_
        refine qm_b_elim h (fun b14 s13 hc h => ?_)
        refine qe_callV1 (st := []) kk_X9_estimate_X9_noLong (c_X9_noLong hc) (qs_at tM_0) rfl rfl rfl (Nat.le_of_ble_eq_true rfl) dX9_estimate_40 ?_
        have e : (b14, s13) = o := Option.some.inj h
        subst e
        exact qe_lret dX9_estimate_43 rfl
    · refine qe_aload_n dX9_estimate_22 0 rfl rfl trivial ?_
      refine qe_bipush (v := (-7 : Int32)) dX9_estimate_23 rfl ?_
      refine qm_b_elim h (fun b16 s15 hc h => ?_)
      refine qe_callV1 (st := []) kk_X9_estimate_X9_noLong (c_X9_noLong hc) (qs_at tM_0) rfl rfl rfl (Nat.le_of_ble_eq_true rfl) dX9_estimate_25 ?_
      have e : (b16, s15) = o := Option.some.inj h
      subst e
      exact qe_lret dX9_estimate_28 rfl
  · refine qe_aload_n dX9_estimate_7 0 rfl rfl trivial ?_
    refine qe_bipush (v := (-2 : Int32)) dX9_estimate_8 rfl ?_
    refine qm_b_elim h (fun b18 s17 hc h => ?_)
    refine qe_callV1 (st := []) kk_X9_estimate_X9_noLong (c_X9_noLong hc) (qs_at tM_0) rfl rfl rfl (Nat.le_of_ble_eq_true rfl) dX9_estimate_10 ?_
    have e : (b18, s17) = o := Option.some.inj h
    subst e
    exact qe_lret dX9_estimate_13 rfl

set_option maxRecDepth 20000 in
theorem c_X9_times {l : Launch} {G : qe_G} {v1 : Int64} {v3 : Int64} {v5 : Int64} {v7 : Int64} {s0 : qe_S} {o : qe_S} (h : g_X9_times v1 v3 v5 v7 s0 = some o) : qe_C l G MX9_times [.ref 0, .long v1, .long v3, .long v5, .long v7] (qs_w s0 (qs_TM G)) none (qs_w o (qs_TM G)) := by
  refine qe_C.of (by decide +kernel) (Nat.le_of_ble_eq_true rfl) ?_
  show qe_J l G MX9_times 0 [(0, .ref 0), (1, .long v1), (3, .long v3), (5, .long v5), (7, .long v7)] [] (qs_w s0 (qs_TM G)) none (qs_w o (qs_TM G))
  unfold g_X9_times at h
  refine qe_aload_n dX9_times_0 0 rfl rfl trivial ?_
  refine qe_lload_n dX9_times_1 1 rfl rfl ?_
  refine qe_lload dX9_times_2 3 rfl ?_
  refine qm_b_elim h (fun b2 s1 hc h => ?_)
  refine qe_callV1 (st := []) kk_X9_times_X9_product (c_X9_product hc) (qs_at tM_0) rfl rfl rfl (Nat.le_of_ble_eq_true rfl) dX9_times_4 ?_
  refine qe_lstore (lv' := [(9, .long b2), (0, .ref 0), (1, .long v1), (3, .long v3), (5, .long v5), (7, .long v7)]) dX9_times_7 rfl (Nat.le_of_ble_eq_true rfl) ?_
  refine qe_aload_n dX9_times_9 1 rfl rfl trivial ?_
  refine qe_lload dX9_times_10 0 rfl ?_
  refine qe_aload_n dX9_times_12 1 rfl rfl trivial ?_
  refine qe_lload_n dX9_times_13 3 rfl rfl ?_
  refine qe_lload dX9_times_14 5 rfl ?_
  refine qm_b_elim h (fun b4 s3 hc h => ?_)
  refine qe_callV1 (st := [.long b2, .ref 0]) kk_X9_times_X9_product (c_X9_product hc) (qs_at tM_0) rfl rfl rfl (Nat.le_of_ble_eq_true rfl) dX9_times_16 ?_
  refine qm_o_elim h (fun s5 hc h => ?_)
  refine qe_callV0 (st := []) kk_X9_times_X9_is (c_X9_is hc) (qs_at tM_0) rfl rfl rfl (Nat.le_of_ble_eq_true rfl) dX9_times_19 ?_
  have e : s5 = o := Option.some.inj h
  subst e
  exact qe_vret dX9_times_22 rfl

set_option maxRecDepth 20000 in
theorem c_X9_meansOf_L16 {l : Launch} {G : qe_G} {k49 : Int64 → qe_S → Option (Int32 × qe_S)} {v1 : Int32} {v2 : Int64} {v4 : Int64} (hk49 : ∀ (b6 : Int64) (s : qe_S) (o : Int32 × qe_S), k49 b6 s = some o → qe_J l G MX9_meansOf 49 [(0, .ref 0), (1, .int v1), (2, .long v2), (4, .long v4), (6, .long b6)] [] (qs_w s (qs_TM G)) (some (.int o.1)) (qs_w o.2 (qs_TM G))) : ∀ (n : Nat) (v6 : Int64) (v8 : Int32) (s0 : qe_S) (o : Int32 × qe_S), g_X9_meansOf_L16 k49 v1 v2 v4 n v6 v8 s0 = some o → qe_J l G MX9_meansOf 16 [(0, .ref 0), (1, .int v1), (2, .long v2), (4, .long v4), (6, .long v6), (8, .int v8)] [] (qs_w s0 (qs_TM G)) (some (.int o.1)) (qs_w o.2 (qs_TM G)) := by
  intro n
  induction n with
  | zero =>
    intro v6 v8 s0 o h
    rw [g_X9_meansOf_L16] at h
    cases h
  | succ n ih =>
    intro v6 v8 s0 o h
    rw [g_X9_meansOf_L16] at h
    refine qe_iload dX9_meansOf_16 5 rfl ?_
    refine qe_aload_n dX9_meansOf_18 0 rfl rfl trivial ?_
    refine qs_getR (j := 0) tM_0 rfl fl_RX9_7 dX9_meansOf_19 ?_
    refine qe_iconst (v := (0 : Int32)) dX9_meansOf_22 rfl ?_
    refine qs_ild tM_1 dX9_meansOf_23 h (fun a7 h => ?_)
    refine qe_icmp_ge (tgt := 49) dX9_meansOf_24 rfl h (fun _ h => ?_) (fun _ h => ?_)
    · refine qe_sub [0, 1, 2, 3, 4] rfl ?_
      exact hk49 _ _ _ h
    · refine qe_lload dX9_meansOf_27 4 rfl ?_
      refine qe_aload_n dX9_meansOf_29 0 rfl rfl trivial ?_
      refine qs_getR (j := 0) tM_0 rfl fl_RX9_7 dX9_meansOf_30 ?_
      refine qe_bipush (v := (nI 26)) dX9_meansOf_33 rfl ?_
      refine qe_iload dX9_meansOf_35 5 rfl ?_
      refine qe_iadd dX9_meansOf_37 ?_
      refine qs_ild tM_1 dX9_meansOf_38 h (fun a8 h => ?_)
      refine qe_i2l dX9_meansOf_39 ?_
      refine qe_ladd dX9_meansOf_40 ?_
      refine qe_let_l h (fun b9 h => ?_)
      refine qe_lstore (lv' := [(6, .long b9), (0, .ref 0), (1, .int v1), (2, .long v2), (4, .long v4), (8, .int v8)]) dX9_meansOf_41 rfl (Nat.le_of_ble_eq_true rfl) ?_
      refine qe_iincl (lv' := fun a10 => [(8, .int a10), (6, .long b9), (0, .ref 0), (1, .int v1), (2, .long v2), (4, .long v4)]) dX9_meansOf_43 5 rfl rfl (fun _ => rfl) (Nat.le_of_ble_eq_true rfl) h (fun a10 h => ?_)
      refine qe_goto (tgt := 16) dX9_meansOf_46 rfl ?_
      refine qe_sub [2, 3, 4, 5, 1, 0] rfl ?_
      exact ih _ _ _ _ h

set_option maxRecDepth 20000 in
theorem c_X9_meansOf_L52 {l : Launch} {G : qe_G} {k193 : Int64 → Int64 → qe_S → Option (Int32 × qe_S)} {v1 : Int32} {v6 : Int64} (hk193 : ∀ (b14 : Int64) (b15 : Int64) (s : qe_S) (o : Int32 × qe_S), k193 b14 b15 s = some o → qe_J l G MX9_meansOf 193 [(0, .ref 0), (2, .long b14), (4, .long b15)] [] (qs_w s (qs_TM G)) (some (.int o.1)) (qs_w o.2 (qs_TM G))) : ∀ (n : Nat) (v2 : Int64) (v4 : Int64) (v8 : Int32) (s0 : qe_S) (o : Int32 × qe_S), g_X9_meansOf_L52 k193 v1 v6 n v2 v4 v8 s0 = some o → qe_J l G MX9_meansOf 52 [(0, .ref 0), (1, .int v1), (2, .long v2), (4, .long v4), (6, .long v6), (8, .int v8)] [] (qs_w s0 (qs_TM G)) (some (.int o.1)) (qs_w o.2 (qs_TM G)) := by
  intro n
  induction n with
  | zero =>
    intro v2 v4 v8 s0 o h
    rw [g_X9_meansOf_L52] at h
    cases h
  | succ n ih =>
    intro v2 v4 v8 s0 o h
    rw [g_X9_meansOf_L52] at h
    refine qe_iload dX9_meansOf_52 5 rfl ?_
    refine qe_aload_n dX9_meansOf_54 0 rfl rfl trivial ?_
    refine qs_getI (j := 12) tM_0 rfl fl_RX9_162 dX9_meansOf_55 ?_
    refine qe_icmp_ge (tgt := 193) dX9_meansOf_58 rfl h (fun _ h => ?_) (fun _ h => ?_)
    · refine qe_sub [0, 2, 3] rfl ?_
      exact hk193 _ _ _ _ h
    · refine qe_aload_n dX9_meansOf_61 0 rfl rfl trivial ?_
      refine qs_getI (j := 19) tM_0 rfl fl_RX9_187 dX9_meansOf_62 ?_
      refine qe_if_ne (tgt := 193) dX9_meansOf_65 rfl h (fun _ h => ?_) (fun _ h => ?_)
      · refine qe_sub [0, 2, 3] rfl ?_
        exact hk193 _ _ _ _ h
      · refine qm_j_elim h (fun j119 ej119 h => ?_)
        have hj119 : ∀  (s16 : qe_S) (o : Int32 × qe_S), j119  s16 = some o → qe_J l G MX9_meansOf 119 [(0, .ref 0), (1, .int v1), (2, .long v2), (4, .long v4), (6, .long v6), (8, .int v8)] [] (qs_w s16 (qs_TM G)) (some (.int o.1)) (qs_w o.2 (qs_TM G)) := by
          intro  s16 o h
          subst ej119
          refine qe_aload_n dX9_meansOf_119 0 rfl rfl trivial ?_
          refine qe_aload_n dX9_meansOf_120 0 rfl rfl trivial ?_
          refine qs_getL (j := 17) tM_0 rfl fl_RX9_191 dX9_meansOf_121 ?_
          refine qe_aload_n dX9_meansOf_124 0 rfl rfl trivial ?_
          refine qs_getL (j := 18) tM_0 rfl fl_RX9_194 dX9_meansOf_125 ?_
          refine qe_aload_n dX9_meansOf_128 0 rfl rfl trivial ?_
          refine qs_getR (j := 14) tM_0 rfl fl_RX9_41 dX9_meansOf_129 ?_
          refine qe_iload dX9_meansOf_132 5 rfl ?_
          refine qs_lld tM_11 dX9_meansOf_134 h (fun b17 h => ?_)
          refine qe_aload_n dX9_meansOf_135 0 rfl rfl trivial ?_
          refine qs_getL (j := 6) tM_0 rfl fl_RX9_124 dX9_meansOf_136 ?_
          refine qe_iconst (v := (0 : Int32)) dX9_meansOf_139 rfl ?_
          refine qm_b_elim h (fun b19 s18 hc h => ?_)
          refine qe_callS1 (st := [.long (s16.2 0 18), .long (s16.2 0 17), .ref 0]) kk_X9_meansOf_X9_lowest (c_X9_lowest hc) rfl rfl (Nat.le_of_ble_eq_true rfl) dX9_meansOf_140 ?_
          refine qe_aload_n dX9_meansOf_143 0 rfl rfl trivial ?_
          refine qs_getR (j := 14) tM_0 rfl fl_RX9_41 dX9_meansOf_144 ?_
          refine qe_iload dX9_meansOf_147 5 rfl ?_
          refine qs_lld tM_11 dX9_meansOf_149 h (fun b20 h => ?_)
          refine qe_aload_n dX9_meansOf_150 0 rfl rfl trivial ?_
          refine qs_getL (j := 6) tM_0 rfl fl_RX9_124 dX9_meansOf_151 ?_
          refine qe_iconst (v := (1 : Int32)) dX9_meansOf_154 rfl ?_
          refine qm_b_elim h (fun b22 s21 hc h => ?_)
          refine qe_callS1 (st := [.long b19, .long (s16.2 0 18), .long (s16.2 0 17), .ref 0]) kk_X9_meansOf_X9_lowest (c_X9_lowest hc) rfl rfl (Nat.le_of_ble_eq_true rfl) dX9_meansOf_155 ?_
          refine qm_o_elim h (fun s23 hc h => ?_)
          refine qe_callV0 (st := []) kk_X9_meansOf_X9_times (c_X9_times hc) (qs_at tM_0) rfl rfl rfl (Nat.le_of_ble_eq_true rfl) dX9_meansOf_158 ?_
          refine qe_aload_n dX9_meansOf_161 0 rfl rfl trivial ?_
          refine qe_lload_n dX9_meansOf_162 2 rfl rfl ?_
          refine qe_lload dX9_meansOf_163 3 rfl ?_
          refine qe_aload_n dX9_meansOf_165 0 rfl rfl trivial ?_
          refine qs_getL (j := 17) tM_0 rfl fl_RX9_191 dX9_meansOf_166 ?_
          refine qe_aload_n dX9_meansOf_169 0 rfl rfl trivial ?_
          refine qs_getL (j := 18) tM_0 rfl fl_RX9_194 dX9_meansOf_170 ?_
          refine qm_o_elim h (fun s24 hc h => ?_)
          refine qe_callV0 (st := []) kk_X9_meansOf_X9_adds (c_X9_adds hc) (qs_at tM_0) rfl rfl rfl (Nat.le_of_ble_eq_true rfl) dX9_meansOf_173 ?_
          refine qe_aload_n dX9_meansOf_176 0 rfl rfl trivial ?_
          refine qs_getL (j := 17) tM_0 rfl fl_RX9_191 dX9_meansOf_177 ?_
          refine qe_let_l h (fun b25 h => ?_)
          refine qe_lstore_n (lv' := [(2, .long b25), (0, .ref 0), (1, .int v1), (4, .long v4), (6, .long v6), (8, .int v8)]) dX9_meansOf_180 rfl rfl (Nat.le_of_ble_eq_true rfl) ?_
          refine qe_aload_n dX9_meansOf_181 1 rfl rfl trivial ?_
          refine qs_getL (j := 18) tM_0 rfl fl_RX9_194 dX9_meansOf_182 ?_
          refine qe_let_l h (fun b26 h => ?_)
          refine qe_lstore (lv' := [(4, .long b26), (2, .long b25), (0, .ref 0), (1, .int v1), (6, .long v6), (8, .int v8)]) dX9_meansOf_185 rfl (Nat.le_of_ble_eq_true rfl) ?_
          refine qe_iincl (lv' := fun a27 => [(8, .int a27), (4, .long b26), (2, .long b25), (0, .ref 0), (1, .int v1), (6, .long v6)]) dX9_meansOf_187 5 rfl rfl (fun _ => rfl) (Nat.le_of_ble_eq_true rfl) h (fun a27 h => ?_)
          refine qe_goto (tgt := 52) dX9_meansOf_190 rfl ?_
          refine qe_sub [3, 4, 2, 1, 5, 0] rfl ?_
          exact ih _ _ _ _ _ h
        refine qe_aload_n dX9_meansOf_68 0 rfl rfl trivial ?_
        refine qe_aload_n dX9_meansOf_69 0 rfl rfl trivial ?_
        refine qs_getR (j := 15) tM_0 rfl fl_RX9_44 dX9_meansOf_70 ?_
        refine qe_iload dX9_meansOf_73 5 rfl ?_
        refine qs_ild tM_12 dX9_meansOf_75 h (fun a28 h => ?_)
        refine qm_o_elim h (fun s29 hc h => ?_)
        refine qe_callV0 (st := []) kk_X9_meansOf_X9_estimates (c_X9_estimates hc) (qs_at tM_0) rfl rfl rfl (Nat.le_of_ble_eq_true rfl) dX9_meansOf_76 ?_
        refine qe_iload_n dX9_meansOf_79 1 rfl rfl ?_
        refine qe_if_eq (tgt := 119) dX9_meansOf_80 rfl h (fun _ h => ?_) (fun _ h => ?_)
        · exact hj119  _ _ h
        · refine qe_aload_n dX9_meansOf_83 0 rfl rfl trivial ?_
          refine qe_aload_n dX9_meansOf_84 0 rfl rfl trivial ?_
          refine qs_getL (j := 17) tM_0 rfl fl_RX9_191 dX9_meansOf_85 ?_
          refine qe_aload_n dX9_meansOf_88 0 rfl rfl trivial ?_
          refine qs_getL (j := 18) tM_0 rfl fl_RX9_194 dX9_meansOf_89 ?_
          refine qe_lload dX9_meansOf_92 4 rfl ?_
          refine qe_lneg dX9_meansOf_94 ?_
          refine qe_lconst (v := 1) dX9_meansOf_95 rfl ?_
          refine qm_o_elim h (fun s30 hc h => ?_)
          refine qe_callV0 (st := []) kk_X9_meansOf_X9_adds (c_X9_adds hc) (qs_at tM_0) rfl rfl rfl (Nat.le_of_ble_eq_true rfl) dX9_meansOf_96 ?_
          refine qe_aload_n dX9_meansOf_99 0 rfl rfl trivial ?_
          refine qe_aload_n dX9_meansOf_100 0 rfl rfl trivial ?_
          refine qs_getL (j := 17) tM_0 rfl fl_RX9_191 dX9_meansOf_101 ?_
          refine qe_aload_n dX9_meansOf_104 0 rfl rfl trivial ?_
          refine qs_getL (j := 18) tM_0 rfl fl_RX9_194 dX9_meansOf_105 ?_
          refine qe_aload_n dX9_meansOf_108 0 rfl rfl trivial ?_
          refine qs_getL (j := 17) tM_0 rfl fl_RX9_191 dX9_meansOf_109 ?_
          refine qe_aload_n dX9_meansOf_112 0 rfl rfl trivial ?_
          refine qs_getL (j := 18) tM_0 rfl fl_RX9_194 dX9_meansOf_113 ?_
          refine qm_o_elim h (fun s31 hc h => ?_)
          refine qe_callV0 (st := []) kk_X9_meansOf_X9_times (c_X9_times hc) (qs_at tM_0) rfl rfl rfl (Nat.le_of_ble_eq_true rfl) dX9_meansOf_116 ?_
          exact hj119  _ _ h

set_option maxRecDepth 20000 in
theorem c_X9_meansOf {l : Launch} {G : qe_G} {v1 : Int32} {s0 : qe_S} {o : Int32 × qe_S} (h : g_X9_meansOf v1 s0 = some o) : qe_C l G MX9_meansOf [.ref 0, .int v1] (qs_w s0 (qs_TM G)) (some (.int o.1)) (qs_w o.2 (qs_TM G)) := by
  refine qe_C.of (by decide +kernel) (Nat.le_of_ble_eq_true rfl) ?_
  show qe_J l G MX9_meansOf 0 [(0, .ref 0), (1, .int v1)] [] (qs_w s0 (qs_TM G)) (some (.int o.1)) (qs_w o.2 (qs_TM G))
  unfold g_X9_meansOf at h
  refine qe_aload_n dX9_meansOf_0 0 rfl rfl trivial ?_
  refine qe_iconst (v := (0 : Int32)) dX9_meansOf_1 rfl ?_
  refine qs_putZ (j := 19) tM_0 rfl fp_RX9_187 ⟨rfl, rfl⟩ dX9_meansOf_2 h (fun s1 h => ?_)
  refine qe_lconst (v := 0) dX9_meansOf_5 rfl ?_
  refine qe_let_l h (fun b2 h => ?_)
  refine qe_lstore_n (lv' := [(2, .long b2), (0, .ref 0), (1, .int v1)]) dX9_meansOf_6 rfl rfl (Nat.le_of_ble_eq_true rfl) ?_
  refine qe_lconst (v := 1) dX9_meansOf_7 rfl ?_
  refine qe_let_l h (fun b3 h => ?_)
  refine qe_lstore (lv' := [(4, .long b3), (2, .long b2), (0, .ref 0), (1, .int v1)]) dX9_meansOf_8 rfl (Nat.le_of_ble_eq_true rfl) ?_
  refine qe_lconst (v := 0) dX9_meansOf_10 rfl ?_
  refine qe_let_l h (fun b4 h => ?_)
  refine qe_lstore (lv' := [(6, .long b4), (4, .long b3), (2, .long b2), (0, .ref 0), (1, .int v1)]) dX9_meansOf_11 rfl (Nat.le_of_ble_eq_true rfl) ?_
  refine qe_iconst (v := (0 : Int32)) dX9_meansOf_13 rfl ?_
  refine qe_let_i h (fun a5 h => ?_)
  refine qe_istore (lv' := [(8, .int a5), (6, .long b4), (4, .long b3), (2, .long b2), (0, .ref 0), (1, .int v1)]) dX9_meansOf_14 rfl (Nat.le_of_ble_eq_true rfl) ?_
  refine qe_sub [4, 5, 3, 2, 1, 0] rfl ?_
  refine c_X9_meansOf_L16
    (fun b11 s12 o h => ?_) _ _ _ _ _ h
  refine qe_iconst (v := (0 : Int32)) dX9_meansOf_49 rfl ?_
  refine qe_let_i h (fun a13 h => ?_)
  refine qe_istore (lv' := [(8, .int a13), (0, .ref 0), (1, .int v1), (2, .long b2), (4, .long b3), (6, .long b11)]) dX9_meansOf_50 rfl (Nat.le_of_ble_eq_true rfl) ?_
  refine qe_sub [1, 2, 3, 4, 5, 0] rfl ?_
  refine c_X9_meansOf_L52
    (fun b32 b33 s34 o h => ?_) _ _ _ _ _ _ h
  refine qe_aload_n dX9_meansOf_193 0 rfl rfl trivial ?_
  refine qe_lload_n dX9_meansOf_194 1 rfl rfl ?_
  refine qs_putL (j := 17) tM_0 rfl fp_RX9_191 dX9_meansOf_195 h (fun s35 h => ?_)
  refine qe_aload_n dX9_meansOf_198 0 rfl rfl trivial ?_
  refine qe_lload dX9_meansOf_199 2 rfl ?_
  refine qs_putL (j := 18) tM_0 rfl fp_RX9_194 dX9_meansOf_201 h (fun s36 h => ?_)
  refine qe_aload_n dX9_meansOf_204 0 rfl rfl trivial ?_
  refine qs_getI (j := 19) tM_0 rfl fl_RX9_187 dX9_meansOf_205 ?_
  refine qe_if_ne (tgt := 215) dX9_meansOf_208 rfl h (fun _ h => ?_) (fun _ h => ?_)
  · refine qe_iconst (v := (0 : Int32)) dX9_meansOf_215 rfl ?_
    have e : ((0 : Int32), s36) = o := Option.some.inj h
    subst e
    exact qe_nret dX9_meansOf_216 rfl rfl
  · refine qe_iconst (v := (1 : Int32)) dX9_meansOf_211 rfl ?_
    refine qe_goto (tgt := 216) dX9_meansOf_212 rfl ?_
    have e : ((1 : Int32), s36) = o := Option.some.inj h
    subst e
    exact qe_nret dX9_meansOf_216 rfl rfl

set_option maxRecDepth 20000 in
theorem c_X9_meant {l : Launch} {G : qe_G} {v1 : Int32} {v2 : Int32} {s0 : qe_S} {o : Int64 × qe_S} (h : g_X9_meant v1 v2 s0 = some o) : qe_C l G MX9_meant [.ref 0, .int v1, .int v2] (qs_w s0 (qs_TM G)) (some (.long o.1)) (qs_w o.2 (qs_TM G)) := by
  refine qe_C.of (by decide +kernel) (Nat.le_of_ble_eq_true rfl) ?_
  show qe_J l G MX9_meant 0 [(0, .ref 0), (1, .int v1), (2, .int v2)] [] (qs_w s0 (qs_TM G)) (some (.long o.1)) (qs_w o.2 (qs_TM G))
  unfold g_X9_meant at h
  refine qe_iload_n dX9_meant_0 1 rfl rfl ?_
  refine qm_b_elim h (fun a2 s1 hc h => ?_)
  refine qe_callS1 (st := []) kk_X9_meant_X9_isPart (c_X9_isPart hc) rfl rfl (Nat.le_of_ble_eq_true rfl) dX9_meant_1 ?_
  refine qe_if_ne (tgt := 14) dX9_meant_4 rfl h (fun _ h => ?_) (fun _ h => ?_)
  · refine qe_aload_n dX9_meant_14 0 rfl rfl trivial ?_
    refine qm_b_elim h (fun a4 s3 hc h => ?_)
    refine qe_callV1 (st := []) kk_X9_meant_X9_laysRuns (c_X9_laysRuns hc) (qs_at tM_0) rfl rfl rfl (Nat.le_of_ble_eq_true rfl) dX9_meant_15 ?_
    refine qe_if_eq (tgt := 29) dX9_meant_18 rfl h (fun _ h => ?_) (fun _ h => ?_)
    · refine qe_aload_n dX9_meant_29 0 rfl rfl trivial ?_
      refine qe_bipush (v := (-7 : Int32)) dX9_meant_30 rfl ?_
      refine qm_b_elim h (fun b6 s5 hc h => ?_)
      refine qe_callV1 (st := []) kk_X9_meant_X9_noLong (c_X9_noLong hc) (qs_at tM_0) rfl rfl rfl (Nat.le_of_ble_eq_true rfl) dX9_meant_32 ?_
      have e : (b6, s5) = o := Option.some.inj h
      subst e
      exact qe_lret dX9_meant_35 rfl
    · refine qe_aload_n dX9_meant_21 0 rfl rfl trivial ?_
      refine qe_iload_n dX9_meant_22 2 rfl rfl ?_
      refine qm_b_elim h (fun a8 s7 hc h => ?_)
      refine qe_callV1 (st := []) kk_X9_meant_X9_meansOf (c_X9_meansOf hc) (qs_at tM_0) rfl rfl rfl (Nat.le_of_ble_eq_true rfl) dX9_meant_23 ?_
      refine qe_if_ne (tgt := 36) dX9_meant_26 rfl h (fun _ h => ?_) (fun _ h => ?_)
      · refine qe_iload_n dX9_meant_36 1 rfl rfl ?_
        refine qe_if_ne (tgt := 47) dX9_meant_37 rfl h (fun _ h => ?_) (fun _ h => ?_)
        · refine qe_aload_n dX9_meant_47 0 rfl rfl trivial ?_
          refine qs_getL (j := 18) tM_0 rfl fl_RX9_194 dX9_meant_48 ?_
          have e : ((s7.2 0 18), s7) = o := Option.some.inj h
          subst e
          exact qe_lret dX9_meant_51 rfl
        · refine qe_aload_n dX9_meant_40 0 rfl rfl trivial ?_
          refine qs_getL (j := 17) tM_0 rfl fl_RX9_191 dX9_meant_41 ?_
          refine qe_goto (tgt := 51) dX9_meant_44 rfl ?_
          have e : ((s7.2 0 17), s7) = o := Option.some.inj h
          subst e
          exact qe_lret dX9_meant_51 rfl
      · refine qe_aload_n dX9_meant_29 0 rfl rfl trivial ?_
        refine qe_bipush (v := (-7 : Int32)) dX9_meant_30 rfl ?_
        refine qm_b_elim h (fun b10 s9 hc h => ?_)
        refine qe_callV1 (st := []) kk_X9_meant_X9_noLong (c_X9_noLong hc) (qs_at tM_0) rfl rfl rfl (Nat.le_of_ble_eq_true rfl) dX9_meant_32 ?_
        have e : (b10, s9) = o := Option.some.inj h
        subst e
        exact qe_lret dX9_meant_35 rfl
  · refine qe_aload_n dX9_meant_7 0 rfl rfl trivial ?_
    refine qe_bipush (v := (-2 : Int32)) dX9_meant_8 rfl ?_
    refine qm_b_elim h (fun b12 s11 hc h => ?_)
    refine qe_callV1 (st := []) kk_X9_meant_X9_noLong (c_X9_noLong hc) (qs_at tM_0) rfl rfl rfl (Nat.le_of_ble_eq_true rfl) dX9_meant_10 ?_
    have e : (b12, s11) = o := Option.some.inj h
    subst e
    exact qe_lret dX9_meant_13 rfl

set_option maxRecDepth 20000 in
theorem c_X9_mean {l : Launch} {G : qe_G} {v1 : Int32} {s0 : qe_S} {o : Int64 × qe_S} (h : g_X9_mean v1 s0 = some o) : qe_C l G MX9_mean [.ref 0, .int v1] (qs_w s0 (qs_TM G)) (some (.long o.1)) (qs_w o.2 (qs_TM G)) := by
  refine qe_C.of (by decide +kernel) (Nat.le_of_ble_eq_true rfl) ?_
  show qe_J l G MX9_mean 0 [(0, .ref 0), (1, .int v1)] [] (qs_w s0 (qs_TM G)) (some (.long o.1)) (qs_w o.2 (qs_TM G))
  unfold g_X9_mean at h
  refine qe_aload_n dX9_mean_0 0 rfl rfl trivial ?_
  refine qe_iload_n dX9_mean_1 1 rfl rfl ?_
  refine qe_iconst (v := (0 : Int32)) dX9_mean_2 rfl ?_
  refine qm_b_elim h (fun b2 s1 hc h => ?_)
  refine qe_callV1 (st := []) kk_X9_mean_X9_meant (c_X9_meant hc) (qs_at tM_0) rfl rfl rfl (Nat.le_of_ble_eq_true rfl) dX9_mean_3 ?_
  have e : (b2, s1) = o := Option.some.inj h
  subst e
  exact qe_lret dX9_mean_6 rfl

set_option maxRecDepth 20000 in
theorem c_X9_spread {l : Launch} {G : qe_G} {v1 : Int32} {s0 : qe_S} {o : Int64 × qe_S} (h : g_X9_spread v1 s0 = some o) : qe_C l G MX9_spread [.ref 0, .int v1] (qs_w s0 (qs_TM G)) (some (.long o.1)) (qs_w o.2 (qs_TM G)) := by
  refine qe_C.of (by decide +kernel) (Nat.le_of_ble_eq_true rfl) ?_
  show qe_J l G MX9_spread 0 [(0, .ref 0), (1, .int v1)] [] (qs_w s0 (qs_TM G)) (some (.long o.1)) (qs_w o.2 (qs_TM G))
  unfold g_X9_spread at h
  refine qe_aload_n dX9_spread_0 0 rfl rfl trivial ?_
  refine qe_iload_n dX9_spread_1 1 rfl rfl ?_
  refine qe_iconst (v := (1 : Int32)) dX9_spread_2 rfl ?_
  refine qm_b_elim h (fun b2 s1 hc h => ?_)
  refine qe_callV1 (st := []) kk_X9_spread_X9_meant (c_X9_meant hc) (qs_at tM_0) rfl rfl rfl (Nat.le_of_ble_eq_true rfl) dX9_spread_3 ?_
  have e : (b2, s1) = o := Option.some.inj h
  subst e
  exact qe_lret dX9_spread_6 rfl

set_option maxRecDepth 20000 in
theorem c_X9_twice {l : Launch} {G : qe_G} {v1 : Int32} {v2 : Int32} {s0 : qe_S} {o : Int32 × qe_S} (h : g_X9_twice v1 v2 s0 = some o) : qe_C l G MX9_twice [.ref 0, .int v1, .int v2] (qs_w s0 (qs_TM G)) (some (.int o.1)) (qs_w o.2 (qs_TM G)) := by
  refine qe_C.of (by decide +kernel) (Nat.le_of_ble_eq_true rfl) ?_
  show qe_J l G MX9_twice 0 [(0, .ref 0), (1, .int v1), (2, .int v2)] [] (qs_w s0 (qs_TM G)) (some (.int o.1)) (qs_w o.2 (qs_TM G))
  unfold g_X9_twice at h
  refine qe_aload_n dX9_twice_0 0 rfl rfl trivial ?_
  refine qe_iconst (v := (1 : Int32)) dX9_twice_1 rfl ?_
  refine qm_b_elim h (fun a2 s1 hc h => ?_)
  refine qe_callV1 (st := []) kk_X9_twice_X9_lays (c_X9_lays hc) (qs_at tM_0) rfl rfl rfl (Nat.le_of_ble_eq_true rfl) dX9_twice_2 ?_
  refine qe_if_eq (tgt := 16) dX9_twice_5 rfl h (fun _ h => ?_) (fun _ h => ?_)
  · refine qe_aload_n dX9_twice_16 0 rfl rfl trivial ?_
    refine qe_bipush (v := (-7 : Int32)) dX9_twice_17 rfl ?_
    refine qm_b_elim h (fun a4 s3 hc h => ?_)
    refine qe_callV1 (st := []) kk_X9_twice_X9_no (c_X9_no hc) (qs_at tM_0) rfl rfl rfl (Nat.le_of_ble_eq_true rfl) dX9_twice_19 ?_
    have e : (a4, s3) = o := Option.some.inj h
    subst e
    exact qe_iret dX9_twice_22 rfl
  · refine qe_aload_n dX9_twice_8 0 rfl rfl trivial ?_
    refine qe_iconst (v := (0 : Int32)) dX9_twice_9 rfl ?_
    refine qm_b_elim h (fun a6 s5 hc h => ?_)
    refine qe_callV1 (st := []) kk_X9_twice_X9_lays (c_X9_lays hc) (qs_at tM_0) rfl rfl rfl (Nat.le_of_ble_eq_true rfl) dX9_twice_10 ?_
    refine qe_if_ne (tgt := 23) dX9_twice_13 rfl h (fun _ h => ?_) (fun _ h => ?_)
    · refine qe_aload_n dX9_twice_23 0 rfl rfl trivial ?_
      refine qe_iload_n dX9_twice_24 1 rfl rfl ?_
      refine qm_b_elim h (fun a8 s7 hc h => ?_)
      refine qe_callV1 (st := []) kk_X9_twice_X9_isPlace (c_X9_isPlace hc) (qs_at tM_0) rfl rfl rfl (Nat.le_of_ble_eq_true rfl) dX9_twice_25 ?_
      refine qe_if_ne (tgt := 38) dX9_twice_28 rfl h (fun _ h => ?_) (fun _ h => ?_)
      · refine qe_aload_n dX9_twice_38 0 rfl rfl trivial ?_
        refine qe_iload_n dX9_twice_39 1 rfl rfl ?_
        refine qe_i2l dX9_twice_40 ?_
        refine qm_b_elim h (fun a10 s9 hc h => ?_)
        refine qe_callV1 (st := []) kk_X9_twice_X9_chosenBy (c_X9_chosenBy hc) (qs_at tM_0) rfl rfl rfl (Nat.le_of_ble_eq_true rfl) dX9_twice_41 ?_
        refine qe_istore_n (lv' := [(3, .int a10), (0, .ref 0), (1, .int v1), (2, .int v2)]) dX9_twice_44 rfl rfl (Nat.le_of_ble_eq_true rfl) ?_
        refine qe_aload_n dX9_twice_45 1 rfl rfl trivial ?_
        refine qe_iconst (v := (1 : Int32)) dX9_twice_46 rfl ?_
        refine qm_b_elim h (fun a12 s11 hc h => ?_)
        refine qe_callV1 (st := []) kk_X9_twice_X9_lays (c_X9_lays hc) (qs_at tM_0) rfl rfl rfl (Nat.le_of_ble_eq_true rfl) dX9_twice_47 ?_
        refine qe_pop dX9_twice_50 rfl ?_
        refine qe_aload_n dX9_twice_51 1 rfl rfl trivial ?_
        refine qe_iload_n dX9_twice_52 3 rfl rfl ?_
        refine qm_b_elim h (fun a14 s13 hc h => ?_)
        refine qe_callV1 (st := []) kk_X9_twice_X9_isPlace (c_X9_isPlace hc) (qs_at tM_0) rfl rfl rfl (Nat.le_of_ble_eq_true rfl) dX9_twice_53 ?_
        refine qe_if_ne (tgt := 66) dX9_twice_56 rfl h (fun _ h => ?_) (fun _ h => ?_)
        · refine qe_aload_n dX9_twice_66 1 rfl rfl trivial ?_
          refine qe_iconst (v := (1 : Int32)) dX9_twice_67 rfl ?_
          refine qe_aload_n dX9_twice_68 1 rfl rfl trivial ?_
          refine qs_getR (j := 7) tM_0 rfl fl_RX9_25 dX9_twice_69 ?_
          refine qe_aload_n dX9_twice_72 1 rfl rfl trivial ?_
          refine qs_getR (j := 8) tM_0 rfl fl_RX9_29 dX9_twice_73 ?_
          refine qe_iload_n dX9_twice_76 0 rfl rfl ?_
          refine qm_b_elim h (fun a16 s15 hc h => ?_)
          refine qe_callV1 (st := []) kk_X9_twice_X9_arcs (c_X9_arcs_0_6_7 hc) (qs_at tM_0) rfl rfl rfl (Nat.le_of_ble_eq_true rfl) dX9_twice_77 ?_
          refine qe_pop dX9_twice_80 rfl ?_
          refine qe_aload_n dX9_twice_81 1 rfl rfl trivial ?_
          refine qe_iload_n dX9_twice_82 3 rfl rfl ?_
          refine qe_i2l dX9_twice_83 ?_
          refine qm_b_elim h (fun a18 s17 hc h => ?_)
          refine qe_callV1 (st := []) kk_X9_twice_X9_chosenBy (c_X9_chosenBy hc) (qs_at tM_0) rfl rfl rfl (Nat.le_of_ble_eq_true rfl) dX9_twice_84 ?_
          have e : (a18, s17) = o := Option.some.inj h
          subst e
          exact qe_iret dX9_twice_87 rfl
        · refine qe_aload_n dX9_twice_59 1 rfl rfl trivial ?_
          refine qe_bipush (v := (-2 : Int32)) dX9_twice_60 rfl ?_
          refine qm_b_elim h (fun a20 s19 hc h => ?_)
          refine qe_callV1 (st := []) kk_X9_twice_X9_no (c_X9_no hc) (qs_at tM_0) rfl rfl rfl (Nat.le_of_ble_eq_true rfl) dX9_twice_62 ?_
          have e : (a20, s19) = o := Option.some.inj h
          subst e
          exact qe_iret dX9_twice_65 rfl
      · refine qe_aload_n dX9_twice_31 0 rfl rfl trivial ?_
        refine qe_bipush (v := (-2 : Int32)) dX9_twice_32 rfl ?_
        refine qm_b_elim h (fun a22 s21 hc h => ?_)
        refine qe_callV1 (st := []) kk_X9_twice_X9_no (c_X9_no hc) (qs_at tM_0) rfl rfl rfl (Nat.le_of_ble_eq_true rfl) dX9_twice_34 ?_
        have e : (a22, s21) = o := Option.some.inj h
        subst e
        exact qe_iret dX9_twice_37 rfl
    · refine qe_aload_n dX9_twice_16 0 rfl rfl trivial ?_
      refine qe_bipush (v := (-7 : Int32)) dX9_twice_17 rfl ?_
      refine qm_b_elim h (fun a24 s23 hc h => ?_)
      refine qe_callV1 (st := []) kk_X9_twice_X9_no (c_X9_no hc) (qs_at tM_0) rfl rfl rfl (Nat.le_of_ble_eq_true rfl) dX9_twice_19 ?_
      have e : (a24, s23) = o := Option.some.inj h
      subst e
      exact qe_iret dX9_twice_22 rfl

set_option maxRecDepth 20000 in
theorem c_X9_overlaps_L10 {l : Launch} {G : qe_G} {v0 : Int64} {v2 : Int64} {v4 : Int64} {v6 : Int64} {v8 : Int64} : ∀ (n : Nat) (v10 : Int64) (v12 : Int64) (s0 : qe_S) (o : Int64 × qe_S), g_X9_overlaps_L10 v0 v2 v4 v6 v8 n v10 v12 s0 = some o → qe_J l G MX9_overlaps 10 [(0, .long v0), (2, .long v2), (4, .long v4), (6, .long v6), (8, .long v8), (10, .long v10), (12, .long v12)] [] (qs_w s0 (qs_TM G)) (some (.long o.1)) (qs_w o.2 (qs_TM G)) := by
  intro n
  induction n with
  | zero =>
    intro v10 v12 s0 o h
    rw [g_X9_overlaps_L10] at h
    cases h
  | succ n ih =>
    intro v10 v12 s0 o h
    rw [g_X9_overlaps_L10] at h
    refine qe_lload dX9_overlaps_10 6 rfl ?_
    refine qe_lload dX9_overlaps_12 2 rfl ?_
    refine qe_lload dX9_overlaps_14 4 rfl ?_
    refine qe_ladd dX9_overlaps_16 ?_
    refine qe_lcmp_gt (tgt := 58) dX9_overlaps_17 dX9_overlaps_18 rfl h (fun _ h => ?_) (fun _ h => ?_)
    · refine qe_lload dX9_overlaps_58 5 rfl ?_
      have e : (v10, s0) = o := Option.some.inj h
      subst e
      exact qe_lret dX9_overlaps_60 rfl
    · refine qe_lload dX9_overlaps_21 5 rfl ?_
      refine qe_lconst (v := 0) dX9_overlaps_23 rfl ?_
      refine qe_lload_n dX9_overlaps_24 0 rfl rfl ?_
      refine qe_lload_n dX9_overlaps_25 1 rfl rfl ?_
      refine qe_ladd dX9_overlaps_26 ?_
      refine qe_lload dX9_overlaps_27 6 rfl ?_
      refine qe_lload dX9_overlaps_29 3 rfl ?_
      refine qe_ladd dX9_overlaps_31 ?_
      refine qm_b_elim h (fun b4 s3 hc h => ?_)
      refine qe_callS1 (st := [.long (0 : Int64), .long v10]) kk_X9_overlaps_J9_min_f86c9 (c_J9_min_f86c9 hc) rfl rfl (Nat.le_of_ble_eq_true rfl) dX9_overlaps_32 ?_
      refine qe_lload_n dX9_overlaps_35 0 rfl rfl ?_
      refine qe_lload dX9_overlaps_36 6 rfl ?_
      refine qm_b_elim h (fun b6 s5 hc h => ?_)
      refine qe_callS1 (st := [.long b4, .long (0 : Int64), .long v10]) kk_X9_overlaps_J9_max_f86c9 (c_J9_max_f86c9 hc) rfl rfl (Nat.le_of_ble_eq_true rfl) dX9_overlaps_38 ?_
      refine qe_lsub dX9_overlaps_41 ?_
      refine qm_b_elim h (fun b8 s7 hc h => ?_)
      refine qe_callS1 (st := [.long v10]) kk_X9_overlaps_J9_max_f86c9 (c_J9_max_f86c9 hc) rfl rfl (Nat.le_of_ble_eq_true rfl) dX9_overlaps_42 ?_
      refine qe_ladd dX9_overlaps_45 ?_
      refine qe_let_l h (fun b9 h => ?_)
      refine qe_lstore (lv' := [(10, .long b9), (0, .long v0), (2, .long v2), (4, .long v4), (6, .long v6), (8, .long v8), (12, .long v12)]) dX9_overlaps_46 rfl (Nat.le_of_ble_eq_true rfl) ?_
      refine qe_lload dX9_overlaps_48 6 rfl ?_
      refine qe_lload dX9_overlaps_50 5 rfl ?_
      refine qe_ladd dX9_overlaps_52 ?_
      refine qe_let_l h (fun b10 h => ?_)
      refine qe_lstore (lv' := [(12, .long b10), (10, .long b9), (0, .long v0), (2, .long v2), (4, .long v4), (6, .long v6), (8, .long v8)]) dX9_overlaps_53 rfl (Nat.le_of_ble_eq_true rfl) ?_
      refine qe_goto (tgt := 10) dX9_overlaps_55 rfl ?_
      refine qe_sub [2, 3, 4, 5, 6, 1, 0] rfl ?_
      exact ih _ _ _ _ h

set_option maxRecDepth 20000 in
theorem c_X9_overlaps {l : Launch} {G : qe_G} {v0 : Int64} {v2 : Int64} {v4 : Int64} {v6 : Int64} {v8 : Int64} {s0 : qe_S} {o : Int64 × qe_S} (h : g_X9_overlaps v0 v2 v4 v6 v8 s0 = some o) : qe_C l G MX9_overlaps [.long v0, .long v2, .long v4, .long v6, .long v8] (qs_w s0 (qs_TM G)) (some (.long o.1)) (qs_w o.2 (qs_TM G)) := by
  refine qe_C.of (by decide +kernel) (Nat.le_of_ble_eq_true rfl) ?_
  show qe_J l G MX9_overlaps 0 [(0, .long v0), (2, .long v2), (4, .long v4), (6, .long v6), (8, .long v8)] [] (qs_w s0 (qs_TM G)) (some (.long o.1)) (qs_w o.2 (qs_TM G))
  unfold g_X9_overlaps at h
  refine qe_lconst (v := 0) dX9_overlaps_0 rfl ?_
  refine qe_let_l h (fun b1 h => ?_)
  refine qe_lstore (lv' := [(10, .long b1), (0, .long v0), (2, .long v2), (4, .long v4), (6, .long v6), (8, .long v8)]) dX9_overlaps_1 rfl (Nat.le_of_ble_eq_true rfl) ?_
  refine qe_lload dX9_overlaps_3 3 rfl ?_
  refine qe_lload dX9_overlaps_5 5 rfl ?_
  refine qe_lsub dX9_overlaps_7 ?_
  refine qe_let_l h (fun b2 h => ?_)
  refine qe_lstore (lv' := [(12, .long b2), (10, .long b1), (0, .long v0), (2, .long v2), (4, .long v4), (6, .long v6), (8, .long v8)]) dX9_overlaps_8 rfl (Nat.le_of_ble_eq_true rfl) ?_
  refine qe_sub [2, 3, 4, 5, 6, 1, 0] rfl ?_
  refine c_X9_overlaps_L10 _ _ _ _ _ h

set_option maxRecDepth 20000 in
theorem c_X9_both_L76 {l : Launch} {G : qe_G} {k189 : Int64 → qe_S → Option (Int64 × qe_S)} {v1 : Int32} {v2 : Int32} {v3 : Int32} {v4 : Int64} (hk189 : ∀ (b20 : Int64) (s : qe_S) (o : Int64 × qe_S), k189 b20 s = some o → qe_J l G MX9_both 189 [(0, .ref 0), (3, .int v3), (4, .long v4), (6, .long b20)] [] (qs_w s (qs_TM G)) (some (.long o.1)) (qs_w o.2 (qs_TM G))) : ∀ (n : Nat) (v6 : Int64) (v8 : Int32) (s0 : qe_S) (o : Int64 × qe_S), g_X9_both_L76 k189 v1 v2 v3 v4 n v6 v8 s0 = some o → qe_J l G MX9_both 76 [(0, .ref 0), (1, .int v1), (2, .int v2), (3, .int v3), (4, .long v4), (6, .long v6), (8, .int v8)] [] (qs_w s0 (qs_TM G)) (some (.long o.1)) (qs_w o.2 (qs_TM G)) := by
  intro n
  induction n with
  | zero =>
    intro v6 v8 s0 o h
    rw [g_X9_both_L76] at h
    cases h
  | succ n ih =>
    intro v6 v8 s0 o h
    rw [g_X9_both_L76] at h
    refine qe_iload dX9_both_76 6 rfl ?_
    refine qe_aload_n dX9_both_78 0 rfl rfl trivial ?_
    refine qs_getI (j := 12) tM_0 rfl fl_RX9_162 dX9_both_79 ?_
    refine qe_icmp_ge (tgt := 189) dX9_both_82 rfl h (fun _ h => ?_) (fun _ h => ?_)
    · refine qe_sub [0, 3, 4, 5] rfl ?_
      exact hk189 _ _ _ h
    · refine qm_j_elim h (fun j183 ej183 h => ?_)
      have hj183 : ∀ (b21 : Int64) (s22 : qe_S) (o : Int64 × qe_S), j183 b21 s22 = some o → qe_J l G MX9_both 183 [(0, .ref 0), (1, .int v1), (2, .int v2), (3, .int v3), (4, .long v4), (6, .long b21), (8, .int v8)] [] (qs_w s22 (qs_TM G)) (some (.long o.1)) (qs_w o.2 (qs_TM G)) := by
        intro b21 s22 o h
        subst ej183
        refine qe_iincl (lv' := fun a23 => [(8, .int a23), (0, .ref 0), (1, .int v1), (2, .int v2), (3, .int v3), (4, .long v4), (6, .long b21)]) dX9_both_183 6 rfl rfl (fun _ => rfl) (Nat.le_of_ble_eq_true rfl) h (fun a23 h => ?_)
        refine qe_goto (tgt := 76) dX9_both_186 rfl ?_
        refine qe_sub [1, 2, 3, 4, 5, 6, 0] rfl ?_
        exact ih _ _ _ _ h
      refine qe_aload_n dX9_both_85 0 rfl rfl trivial ?_
      refine qe_aload_n dX9_both_86 0 rfl rfl trivial ?_
      refine qs_getR (j := 15) tM_0 rfl fl_RX9_44 dX9_both_87 ?_
      refine qe_iload dX9_both_90 6 rfl ?_
      refine qs_ild tM_12 dX9_both_92 h (fun a24 h => ?_)
      refine qe_iload_n dX9_both_93 1 rfl rfl ?_
      refine qm_b_elim h (fun a26 s25 hc h => ?_)
      refine qe_callV1 (st := []) kk_X9_both_X9_has (c_X9_has hc) (qs_at tM_0) rfl rfl rfl (Nat.le_of_ble_eq_true rfl) dX9_both_94 ?_
      refine qe_if_eq (tgt := 183) dX9_both_97 rfl h (fun _ h => ?_) (fun _ h => ?_)
      · exact hj183 _ _ _ h
      · refine qe_aload_n dX9_both_100 0 rfl rfl trivial ?_
        refine qe_aload_n dX9_both_101 0 rfl rfl trivial ?_
        refine qs_getR (j := 15) tM_0 rfl fl_RX9_44 dX9_both_102 ?_
        refine qe_iload dX9_both_105 6 rfl ?_
        refine qs_ild tM_12 dX9_both_107 h (fun a27 h => ?_)
        refine qe_iload_n dX9_both_108 2 rfl rfl ?_
        refine qm_b_elim h (fun a29 s28 hc h => ?_)
        refine qe_callV1 (st := []) kk_X9_both_X9_has (c_X9_has hc) (qs_at tM_0) rfl rfl rfl (Nat.le_of_ble_eq_true rfl) dX9_both_109 ?_
        refine qe_if_ne (tgt := 118) dX9_both_112 rfl h (fun _ h => ?_) (fun _ h => ?_)
        · refine qe_aload_n dX9_both_118 0 rfl rfl trivial ?_
          refine qe_iconst (v := (1 : Int32)) dX9_both_119 rfl ?_
          refine qe_aload_n dX9_both_120 0 rfl rfl trivial ?_
          refine qs_getR (j := 7) tM_0 rfl fl_RX9_25 dX9_both_121 ?_
          refine qe_aload_n dX9_both_124 0 rfl rfl trivial ?_
          refine qs_getR (j := 8) tM_0 rfl fl_RX9_29 dX9_both_125 ?_
          refine qe_aload_n dX9_both_128 0 rfl rfl trivial ?_
          refine qs_getR (j := 15) tM_0 rfl fl_RX9_44 dX9_both_129 ?_
          refine qe_iload dX9_both_132 6 rfl ?_
          refine qs_ild tM_12 dX9_both_134 h (fun a30 h => ?_)
          refine qm_b_elim h (fun a32 s31 hc h => ?_)
          refine qe_callV1 (st := []) kk_X9_both_X9_arcs (c_X9_arcs_0_6_7 hc) (qs_at tM_0) rfl rfl rfl (Nat.le_of_ble_eq_true rfl) dX9_both_135 ?_
          refine qe_pop dX9_both_138 rfl ?_
          refine qe_lload dX9_both_139 5 rfl ?_
          refine qe_aload_n dX9_both_141 0 rfl rfl trivial ?_
          refine qs_getR (j := 14) tM_0 rfl fl_RX9_41 dX9_both_142 ?_
          refine qe_iload dX9_both_145 6 rfl ?_
          refine qs_lld tM_11 dX9_both_147 h (fun b33 h => ?_)
          refine qe_aload_n dX9_both_148 0 rfl rfl trivial ?_
          refine qs_getR (j := 7) tM_0 rfl fl_RX9_25 dX9_both_149 ?_
          refine qe_iload_n dX9_both_152 1 rfl rfl ?_
          refine qs_lld tM_6 dX9_both_153 h (fun b34 h => ?_)
          refine qe_aload_n dX9_both_154 0 rfl rfl trivial ?_
          refine qs_getR (j := 8) tM_0 rfl fl_RX9_29 dX9_both_155 ?_
          refine qe_iload_n dX9_both_158 1 rfl rfl ?_
          refine qs_lld tM_7 dX9_both_159 h (fun b35 h => ?_)
          refine qe_aload_n dX9_both_160 0 rfl rfl trivial ?_
          refine qs_getR (j := 7) tM_0 rfl fl_RX9_25 dX9_both_161 ?_
          refine qe_iload_n dX9_both_164 2 rfl rfl ?_
          refine qs_lld tM_6 dX9_both_165 h (fun b36 h => ?_)
          refine qe_aload_n dX9_both_166 0 rfl rfl trivial ?_
          refine qs_getR (j := 8) tM_0 rfl fl_RX9_29 dX9_both_167 ?_
          refine qe_iload_n dX9_both_170 2 rfl rfl ?_
          refine qs_lld tM_7 dX9_both_171 h (fun b37 h => ?_)
          refine qe_aload_n dX9_both_172 0 rfl rfl trivial ?_
          refine qs_getL (j := 6) tM_0 rfl fl_RX9_124 dX9_both_173 ?_
          refine qm_b_elim h (fun b39 s38 hc h => ?_)
          refine qe_callS1 (st := [.long b33, .long v6]) kk_X9_both_X9_overlaps (c_X9_overlaps hc) rfl rfl (Nat.le_of_ble_eq_true rfl) dX9_both_176 ?_
          refine qe_lmul dX9_both_179 ?_
          refine qe_ladd dX9_both_180 ?_
          refine qe_let_l h (fun b40 h => ?_)
          refine qe_lstore (lv' := [(6, .long b40), (0, .ref 0), (1, .int v1), (2, .int v2), (3, .int v3), (4, .long v4), (8, .int v8)]) dX9_both_181 rfl (Nat.le_of_ble_eq_true rfl) ?_
          refine qe_sub [1, 2, 3, 4, 5, 0, 6] rfl ?_
          exact hj183 _ _ _ h
        · refine qe_goto (tgt := 183) dX9_both_115 rfl ?_
          exact hj183 _ _ _ h

set_option maxRecDepth 20000 in
theorem c_X9_both {l : Launch} {G : qe_G} {v1 : Int32} {v2 : Int32} {v3 : Int32} {s0 : qe_S} {o : Int64 × qe_S} (h : g_X9_both v1 v2 v3 s0 = some o) : qe_C l G MX9_both [.ref 0, .int v1, .int v2, .int v3] (qs_w s0 (qs_TM G)) (some (.long o.1)) (qs_w o.2 (qs_TM G)) := by
  refine qe_C.of (by decide +kernel) (Nat.le_of_ble_eq_true rfl) ?_
  show qe_J l G MX9_both 0 [(0, .ref 0), (1, .int v1), (2, .int v2), (3, .int v3)] [] (qs_w s0 (qs_TM G)) (some (.long o.1)) (qs_w o.2 (qs_TM G))
  unfold g_X9_both at h
  refine qe_aload_n dX9_both_0 0 rfl rfl trivial ?_
  refine qe_iload_n dX9_both_1 1 rfl rfl ?_
  refine qm_b_elim h (fun a2 s1 hc h => ?_)
  refine qe_callV1 (st := []) kk_X9_both_X9_isUnit (c_X9_isUnit hc) (qs_at tM_0) rfl rfl rfl (Nat.le_of_ble_eq_true rfl) dX9_both_2 ?_
  refine qe_if_eq (tgt := 16) dX9_both_5 rfl h (fun _ h => ?_) (fun _ h => ?_)
  · refine qe_aload_n dX9_both_16 0 rfl rfl trivial ?_
    refine qe_iconst (v := (-1 : Int32)) dX9_both_17 rfl ?_
    refine qm_b_elim h (fun b4 s3 hc h => ?_)
    refine qe_callV1 (st := []) kk_X9_both_X9_noLong (c_X9_noLong hc) (qs_at tM_0) rfl rfl rfl (Nat.le_of_ble_eq_true rfl) dX9_both_18 ?_
    have e : (b4, s3) = o := Option.some.inj h
    subst e
    exact qe_lret dX9_both_21 rfl
  · refine qe_aload_n dX9_both_8 0 rfl rfl trivial ?_
    refine qe_iload_n dX9_both_9 2 rfl rfl ?_
    refine qm_b_elim h (fun a6 s5 hc h => ?_)
    refine qe_callV1 (st := []) kk_X9_both_X9_isUnit (c_X9_isUnit hc) (qs_at tM_0) rfl rfl rfl (Nat.le_of_ble_eq_true rfl) dX9_both_10 ?_
    refine qe_if_ne (tgt := 22) dX9_both_13 rfl h (fun _ h => ?_) (fun _ h => ?_)
    · refine qe_iload_n dX9_both_22 3 rfl rfl ?_
      refine qm_b_elim h (fun a8 s7 hc h => ?_)
      refine qe_callS1 (st := []) kk_X9_both_X9_isPart (c_X9_isPart hc) rfl rfl (Nat.le_of_ble_eq_true rfl) dX9_both_23 ?_
      refine qe_if_ne (tgt := 36) dX9_both_26 rfl h (fun _ h => ?_) (fun _ h => ?_)
      · refine qe_aload_n dX9_both_36 0 rfl rfl trivial ?_
        refine qe_iconst (v := (1 : Int32)) dX9_both_37 rfl ?_
        refine qm_b_elim h (fun a10 s9 hc h => ?_)
        refine qe_callV1 (st := []) kk_X9_both_X9_lays (c_X9_lays hc) (qs_at tM_0) rfl rfl rfl (Nat.le_of_ble_eq_true rfl) dX9_both_38 ?_
        refine qe_if_eq (tgt := 51) dX9_both_41 rfl h (fun _ h => ?_) (fun _ h => ?_)
        · refine qe_aload_n dX9_both_51 0 rfl rfl trivial ?_
          refine qe_bipush (v := (-7 : Int32)) dX9_both_52 rfl ?_
          refine qm_b_elim h (fun b12 s11 hc h => ?_)
          refine qe_callV1 (st := []) kk_X9_both_X9_noLong (c_X9_noLong hc) (qs_at tM_0) rfl rfl rfl (Nat.le_of_ble_eq_true rfl) dX9_both_54 ?_
          have e : (b12, s11) = o := Option.some.inj h
          subst e
          exact qe_lret dX9_both_57 rfl
        · refine qe_aload_n dX9_both_44 0 rfl rfl trivial ?_
          refine qm_b_elim h (fun a14 s13 hc h => ?_)
          refine qe_callV1 (st := []) kk_X9_both_X9_laysRuns (c_X9_laysRuns hc) (qs_at tM_0) rfl rfl rfl (Nat.le_of_ble_eq_true rfl) dX9_both_45 ?_
          refine qe_if_ne (tgt := 58) dX9_both_48 rfl h (fun _ h => ?_) (fun _ h => ?_)
          · refine qe_aload_n dX9_both_58 0 rfl rfl trivial ?_
            refine qs_getL (j := 6) tM_0 rfl fl_RX9_124 dX9_both_59 ?_
            refine qe_let_l h (fun b15 h => ?_)
            refine qe_lstore (lv' := [(4, .long b15), (0, .ref 0), (1, .int v1), (2, .int v2), (3, .int v3)]) dX9_both_62 rfl (Nat.le_of_ble_eq_true rfl) ?_
            refine qe_aload_n dX9_both_64 1 rfl rfl trivial ?_
            refine qe_iconst (v := (1 : Int32)) dX9_both_65 rfl ?_
            refine qm_b_elim h (fun a17 s16 hc h => ?_)
            refine qe_callV1 (st := []) kk_X9_both_X9_lays (c_X9_lays hc) (qs_at tM_0) rfl rfl rfl (Nat.le_of_ble_eq_true rfl) dX9_both_66 ?_
            refine qe_pop dX9_both_69 rfl ?_
            refine qe_lconst (v := 0) dX9_both_70 rfl ?_
            refine qe_let_l h (fun b18 h => ?_)
            refine qe_lstore (lv' := [(6, .long b18), (4, .long b15), (0, .ref 0), (1, .int v1), (2, .int v2), (3, .int v3)]) dX9_both_71 rfl (Nat.le_of_ble_eq_true rfl) ?_
            refine qe_iconst (v := (0 : Int32)) dX9_both_73 rfl ?_
            refine qe_let_i h (fun a19 h => ?_)
            refine qe_istore (lv' := [(8, .int a19), (6, .long b18), (4, .long b15), (0, .ref 0), (1, .int v1), (2, .int v2), (3, .int v3)]) dX9_both_74 rfl (Nat.le_of_ble_eq_true rfl) ?_
            refine qe_sub [3, 4, 5, 6, 2, 1, 0] rfl ?_
            refine c_X9_both_L76
              (fun b41 s42 o h => ?_) _ _ _ _ _ h
            refine qe_lload dX9_both_189 3 rfl ?_
            refine qe_lload dX9_both_191 2 rfl ?_
            refine qe_aload_n dX9_both_193 0 rfl rfl trivial ?_
            refine qs_getL (j := 6) tM_0 rfl fl_RX9_124 dX9_both_194 ?_
            refine qe_lmul dX9_both_197 ?_
            refine qe_iload_n dX9_both_198 1 rfl rfl ?_
            refine qm_b_elim h (fun b44 s43 hc h => ?_)
            refine qe_callS1 (st := []) kk_X9_both_X9_lowest (c_X9_lowest hc) rfl rfl (Nat.le_of_ble_eq_true rfl) dX9_both_199 ?_
            have e : (b44, s43) = o := Option.some.inj h
            subst e
            exact qe_lret dX9_both_202 rfl
          · refine qe_aload_n dX9_both_51 0 rfl rfl trivial ?_
            refine qe_bipush (v := (-7 : Int32)) dX9_both_52 rfl ?_
            refine qm_b_elim h (fun b46 s45 hc h => ?_)
            refine qe_callV1 (st := []) kk_X9_both_X9_noLong (c_X9_noLong hc) (qs_at tM_0) rfl rfl rfl (Nat.le_of_ble_eq_true rfl) dX9_both_54 ?_
            have e : (b46, s45) = o := Option.some.inj h
            subst e
            exact qe_lret dX9_both_57 rfl
      · refine qe_aload_n dX9_both_29 0 rfl rfl trivial ?_
        refine qe_bipush (v := (-2 : Int32)) dX9_both_30 rfl ?_
        refine qm_b_elim h (fun b48 s47 hc h => ?_)
        refine qe_callV1 (st := []) kk_X9_both_X9_noLong (c_X9_noLong hc) (qs_at tM_0) rfl rfl rfl (Nat.le_of_ble_eq_true rfl) dX9_both_32 ?_
        have e : (b48, s47) = o := Option.some.inj h
        subst e
        exact qe_lret dX9_both_35 rfl
    · refine qe_aload_n dX9_both_16 0 rfl rfl trivial ?_
      refine qe_iconst (v := (-1 : Int32)) dX9_both_17 rfl ?_
      refine qm_b_elim h (fun b50 s49 hc h => ?_)
      refine qe_callV1 (st := []) kk_X9_both_X9_noLong (c_X9_noLong hc) (qs_at tM_0) rfl rfl rfl (Nat.le_of_ble_eq_true rfl) dX9_both_18 ?_
      have e : (b50, s49) = o := Option.some.inj h
      subst e
      exact qe_lret dX9_both_21 rfl

set_option maxRecDepth 20000 in
theorem c_X9_keptOf {l : Launch} {G : qe_G} {v1 : Int32} {v2 : Int64} {s0 : qe_S} {o : Int64 × qe_S} (h : g_X9_keptOf v1 v2 s0 = some o) : qe_C l G MX9_keptOf [.ref 0, .int v1, .long v2] (qs_w s0 (qs_TM G)) (some (.long o.1)) (qs_w o.2 (qs_TM G)) := by
  refine qe_C.of (by decide +kernel) (Nat.le_of_ble_eq_true rfl) ?_
  show qe_J l G MX9_keptOf 0 [(0, .ref 0), (1, .int v1), (2, .long v2)] [] (qs_w s0 (qs_TM G)) (some (.long o.1)) (qs_w o.2 (qs_TM G))
  unfold g_X9_keptOf at h
  refine qe_aload_n dX9_keptOf_0 0 rfl rfl trivial ?_
  refine qs_getR (j := 7) tM_0 rfl fl_RX9_25 dX9_keptOf_1 ?_
  refine qe_iload_n dX9_keptOf_4 1 rfl rfl ?_
  refine qs_lld tM_6 dX9_keptOf_5 h (fun b1 h => ?_)
  refine qe_aload_n dX9_keptOf_6 0 rfl rfl trivial ?_
  refine qs_getR (j := 8) tM_0 rfl fl_RX9_29 dX9_keptOf_7 ?_
  refine qe_iload_n dX9_keptOf_10 1 rfl rfl ?_
  refine qs_lld tM_7 dX9_keptOf_11 h (fun b2 h => ?_)
  refine qe_aload_n dX9_keptOf_12 0 rfl rfl trivial ?_
  refine qs_getR (j := 9) tM_0 rfl fl_RX9_32 dX9_keptOf_13 ?_
  refine qe_iload_n dX9_keptOf_16 1 rfl rfl ?_
  refine qs_lld tM_8 dX9_keptOf_17 h (fun b3 h => ?_)
  refine qe_lload_n dX9_keptOf_18 2 rfl rfl ?_
  refine qe_ladd dX9_keptOf_19 ?_
  refine qe_aload_n dX9_keptOf_20 0 rfl rfl trivial ?_
  refine qs_getL (j := 6) tM_0 rfl fl_RX9_124 dX9_keptOf_21 ?_
  refine qe_lrem dX9_keptOf_24 h (fun h => ?_)
  refine qe_aload_n dX9_keptOf_25 0 rfl rfl trivial ?_
  refine qs_getR (j := 10) tM_0 rfl fl_RX9_35 dX9_keptOf_26 ?_
  refine qe_iload_n dX9_keptOf_29 1 rfl rfl ?_
  refine qs_lld tM_9 dX9_keptOf_30 h (fun b4 h => ?_)
  refine qe_aload_n dX9_keptOf_31 0 rfl rfl trivial ?_
  refine qs_getL (j := 6) tM_0 rfl fl_RX9_124 dX9_keptOf_32 ?_
  refine qm_b_elim h (fun b6 s5 hc h => ?_)
  refine qe_callS1 (st := []) kk_X9_keptOf_X9_overlaps (c_X9_overlaps hc) rfl rfl (Nat.le_of_ble_eq_true rfl) dX9_keptOf_35 ?_
  have e : (b6, s5) = o := Option.some.inj h
  subst e
  exact qe_lret dX9_keptOf_38 rfl

set_option maxRecDepth 20000 in
theorem c_X9_kept {l : Launch} {G : qe_G} {v1 : Int32} {v2 : Int32} {v3 : Int32} {s0 : qe_S} {o : Int64 × qe_S} (h : g_X9_kept v1 v2 v3 s0 = some o) : qe_C l G MX9_kept [.ref 0, .int v1, .int v2, .int v3] (qs_w s0 (qs_TM G)) (some (.long o.1)) (qs_w o.2 (qs_TM G)) := by
  refine qe_C.of (by decide +kernel) (Nat.le_of_ble_eq_true rfl) ?_
  show qe_J l G MX9_kept 0 [(0, .ref 0), (1, .int v1), (2, .int v2), (3, .int v3)] [] (qs_w s0 (qs_TM G)) (some (.long o.1)) (qs_w o.2 (qs_TM G))
  unfold g_X9_kept at h
  refine qe_aload_n dX9_kept_0 0 rfl rfl trivial ?_
  refine qe_iload_n dX9_kept_1 1 rfl rfl ?_
  refine qm_b_elim h (fun a2 s1 hc h => ?_)
  refine qe_callV1 (st := []) kk_X9_kept_X9_isUnit (c_X9_isUnit hc) (qs_at tM_0) rfl rfl rfl (Nat.le_of_ble_eq_true rfl) dX9_kept_2 ?_
  refine qe_if_ne (tgt := 14) dX9_kept_5 rfl h (fun _ h => ?_) (fun _ h => ?_)
  · refine qe_iload_n dX9_kept_14 3 rfl rfl ?_
    refine qm_b_elim h (fun a4 s3 hc h => ?_)
    refine qe_callS1 (st := []) kk_X9_kept_X9_isPart (c_X9_isPart hc) rfl rfl (Nat.le_of_ble_eq_true rfl) dX9_kept_15 ?_
    refine qe_if_ne (tgt := 28) dX9_kept_18 rfl h (fun _ h => ?_) (fun _ h => ?_)
    · refine qe_aload_n dX9_kept_28 0 rfl rfl trivial ?_
      refine qe_iconst (v := (nI 2)) dX9_kept_29 rfl ?_
      refine qm_b_elim h (fun a6 s5 hc h => ?_)
      refine qe_callV1 (st := []) kk_X9_kept_X9_lays (c_X9_lays hc) (qs_at tM_0) rfl rfl rfl (Nat.le_of_ble_eq_true rfl) dX9_kept_30 ?_
      refine qe_if_ne (tgt := 43) dX9_kept_33 rfl h (fun _ h => ?_) (fun _ h => ?_)
      · refine qe_aload_n dX9_kept_43 0 rfl rfl trivial ?_
        refine qe_iload_n dX9_kept_44 2 rfl rfl ?_
        refine qm_b_elim h (fun a8 s7 hc h => ?_)
        refine qe_callV1 (st := []) kk_X9_kept_X9_isPlace (c_X9_isPlace hc) (qs_at tM_0) rfl rfl rfl (Nat.le_of_ble_eq_true rfl) dX9_kept_45 ?_
        refine qe_if_eq (tgt := 69) dX9_kept_48 rfl h (fun _ h => ?_) (fun _ h => ?_)
        · refine qe_aload_n dX9_kept_69 0 rfl rfl trivial ?_
          refine qe_bipush (v := (-2 : Int32)) dX9_kept_70 rfl ?_
          refine qm_b_elim h (fun b10 s9 hc h => ?_)
          refine qe_callV1 (st := []) kk_X9_kept_X9_noLong (c_X9_noLong hc) (qs_at tM_0) rfl rfl rfl (Nat.le_of_ble_eq_true rfl) dX9_kept_72 ?_
          have e : (b10, s9) = o := Option.some.inj h
          subst e
          exact qe_lret dX9_kept_75 rfl
        · refine qe_aload_n dX9_kept_51 0 rfl rfl trivial ?_
          refine qe_iload_n dX9_kept_52 1 rfl rfl ?_
          refine qe_iload_n dX9_kept_53 2 rfl rfl ?_
          refine qe_i2l dX9_kept_54 ?_
          refine qm_b_elim h (fun b12 s11 hc h => ?_)
          refine qe_callV1 (st := []) kk_X9_kept_X9_keptOf (c_X9_keptOf hc) (qs_at tM_0) rfl rfl rfl (Nat.le_of_ble_eq_true rfl) dX9_kept_55 ?_
          refine qe_aload_n dX9_kept_58 0 rfl rfl trivial ?_
          refine qs_getL (j := 6) tM_0 rfl fl_RX9_124 dX9_kept_59 ?_
          refine qe_iload_n dX9_kept_62 3 rfl rfl ?_
          refine qm_b_elim h (fun b14 s13 hc h => ?_)
          refine qe_callS1 (st := []) kk_X9_kept_X9_lowest (c_X9_lowest hc) rfl rfl (Nat.le_of_ble_eq_true rfl) dX9_kept_63 ?_
          refine qe_goto (tgt := 75) dX9_kept_66 rfl ?_
          have e : (b14, s13) = o := Option.some.inj h
          subst e
          exact qe_lret dX9_kept_75 rfl
      · refine qe_aload_n dX9_kept_36 0 rfl rfl trivial ?_
        refine qe_bipush (v := (-7 : Int32)) dX9_kept_37 rfl ?_
        refine qm_b_elim h (fun b16 s15 hc h => ?_)
        refine qe_callV1 (st := []) kk_X9_kept_X9_noLong (c_X9_noLong hc) (qs_at tM_0) rfl rfl rfl (Nat.le_of_ble_eq_true rfl) dX9_kept_39 ?_
        have e : (b16, s15) = o := Option.some.inj h
        subst e
        exact qe_lret dX9_kept_42 rfl
    · refine qe_aload_n dX9_kept_21 0 rfl rfl trivial ?_
      refine qe_bipush (v := (-2 : Int32)) dX9_kept_22 rfl ?_
      refine qm_b_elim h (fun b18 s17 hc h => ?_)
      refine qe_callV1 (st := []) kk_X9_kept_X9_noLong (c_X9_noLong hc) (qs_at tM_0) rfl rfl rfl (Nat.le_of_ble_eq_true rfl) dX9_kept_24 ?_
      have e : (b18, s17) = o := Option.some.inj h
      subst e
      exact qe_lret dX9_kept_27 rfl
  · refine qe_aload_n dX9_kept_8 0 rfl rfl trivial ?_
    refine qe_iconst (v := (-1 : Int32)) dX9_kept_9 rfl ?_
    refine qm_b_elim h (fun b20 s19 hc h => ?_)
    refine qe_callV1 (st := []) kk_X9_kept_X9_noLong (c_X9_noLong hc) (qs_at tM_0) rfl rfl rfl (Nat.le_of_ble_eq_true rfl) dX9_kept_10 ?_
    have e : (b20, s19) = o := Option.some.inj h
    subst e
    exact qe_lret dX9_kept_13 rfl

set_option maxRecDepth 20000 in
theorem c_X9_overlapOf_L5 {l : Launch} {G : qe_G} {v1 : Int64} : ∀ (n : Nat) (v3 : Int64) (v5 : Int32) (s0 : qe_S) (o : Int64 × qe_S), g_X9_overlapOf_L5 v1 n v3 v5 s0 = some o → qe_J l G MX9_overlapOf 5 [(0, .ref 0), (1, .long v1), (3, .long v3), (5, .int v5)] [] (qs_w s0 (qs_TM G)) (some (.long o.1)) (qs_w o.2 (qs_TM G)) := by
  intro n
  induction n with
  | zero =>
    intro v3 v5 s0 o h
    rw [g_X9_overlapOf_L5] at h
    cases h
  | succ n ih =>
    intro v3 v5 s0 o h
    rw [g_X9_overlapOf_L5] at h
    refine qe_iload dX9_overlapOf_5 3 rfl ?_
    refine qe_aload_n dX9_overlapOf_7 0 rfl rfl trivial ?_
    refine qs_getR (j := 0) tM_0 rfl fl_RX9_7 dX9_overlapOf_8 ?_
    refine qe_iconst (v := (0 : Int32)) dX9_overlapOf_11 rfl ?_
    refine qs_ild tM_1 dX9_overlapOf_12 h (fun a3 h => ?_)
    refine qe_icmp_ge (tgt := 32) dX9_overlapOf_13 rfl h (fun _ h => ?_) (fun _ h => ?_)
    · refine qe_lload_n dX9_overlapOf_32 2 rfl rfl ?_
      have e : (v3, s0) = o := Option.some.inj h
      subst e
      exact qe_lret dX9_overlapOf_33 rfl
    · refine qe_lload_n dX9_overlapOf_16 2 rfl rfl ?_
      refine qe_aload_n dX9_overlapOf_17 0 rfl rfl trivial ?_
      refine qe_iload dX9_overlapOf_18 3 rfl ?_
      refine qe_lload_n dX9_overlapOf_20 1 rfl rfl ?_
      refine qm_b_elim h (fun b5 s4 hc h => ?_)
      refine qe_callV1 (st := [.long v3]) kk_X9_overlapOf_X9_keptOf (c_X9_keptOf hc) (qs_at tM_0) rfl rfl rfl (Nat.le_of_ble_eq_true rfl) dX9_overlapOf_21 ?_
      refine qe_ladd dX9_overlapOf_24 ?_
      refine qe_let_l h (fun b6 h => ?_)
      refine qe_lstore_n (lv' := [(3, .long b6), (0, .ref 0), (1, .long v1), (5, .int v5)]) dX9_overlapOf_25 rfl rfl (Nat.le_of_ble_eq_true rfl) ?_
      refine qe_iincl (lv' := fun a7 => [(5, .int a7), (3, .long b6), (0, .ref 0), (1, .long v1)]) dX9_overlapOf_26 3 rfl rfl (fun _ => rfl) (Nat.le_of_ble_eq_true rfl) h (fun a7 h => ?_)
      refine qe_goto (tgt := 5) dX9_overlapOf_29 rfl ?_
      refine qe_sub [2, 3, 1, 0] rfl ?_
      exact ih _ _ _ _ h

set_option maxRecDepth 20000 in
theorem c_X9_overlapOf {l : Launch} {G : qe_G} {v1 : Int64} {s0 : qe_S} {o : Int64 × qe_S} (h : g_X9_overlapOf v1 s0 = some o) : qe_C l G MX9_overlapOf [.ref 0, .long v1] (qs_w s0 (qs_TM G)) (some (.long o.1)) (qs_w o.2 (qs_TM G)) := by
  refine qe_C.of (by decide +kernel) (Nat.le_of_ble_eq_true rfl) ?_
  show qe_J l G MX9_overlapOf 0 [(0, .ref 0), (1, .long v1)] [] (qs_w s0 (qs_TM G)) (some (.long o.1)) (qs_w o.2 (qs_TM G))
  unfold g_X9_overlapOf at h
  refine qe_lconst (v := 0) dX9_overlapOf_0 rfl ?_
  refine qe_let_l h (fun b1 h => ?_)
  refine qe_lstore_n (lv' := [(3, .long b1), (0, .ref 0), (1, .long v1)]) dX9_overlapOf_1 rfl rfl (Nat.le_of_ble_eq_true rfl) ?_
  refine qe_iconst (v := (0 : Int32)) dX9_overlapOf_2 rfl ?_
  refine qe_let_i h (fun a2 h => ?_)
  refine qe_istore (lv' := [(5, .int a2), (3, .long b1), (0, .ref 0), (1, .long v1)]) dX9_overlapOf_3 rfl (Nat.le_of_ble_eq_true rfl) ?_
  refine qe_sub [2, 3, 1, 0] rfl ?_
  refine c_X9_overlapOf_L5 _ _ _ _ _ h

set_option maxRecDepth 20000 in
theorem c_X9_overlap {l : Launch} {G : qe_G} {v1 : Int32} {v2 : Int32} {s0 : qe_S} {o : Int64 × qe_S} (h : g_X9_overlap v1 v2 s0 = some o) : qe_C l G MX9_overlap [.ref 0, .int v1, .int v2] (qs_w s0 (qs_TM G)) (some (.long o.1)) (qs_w o.2 (qs_TM G)) := by
  refine qe_C.of (by decide +kernel) (Nat.le_of_ble_eq_true rfl) ?_
  show qe_J l G MX9_overlap 0 [(0, .ref 0), (1, .int v1), (2, .int v2)] [] (qs_w s0 (qs_TM G)) (some (.long o.1)) (qs_w o.2 (qs_TM G))
  unfold g_X9_overlap at h
  refine qe_iload_n dX9_overlap_0 2 rfl rfl ?_
  refine qm_b_elim h (fun a2 s1 hc h => ?_)
  refine qe_callS1 (st := []) kk_X9_overlap_X9_isPart (c_X9_isPart hc) rfl rfl (Nat.le_of_ble_eq_true rfl) dX9_overlap_1 ?_
  refine qe_if_ne (tgt := 14) dX9_overlap_4 rfl h (fun _ h => ?_) (fun _ h => ?_)
  · refine qe_aload_n dX9_overlap_14 0 rfl rfl trivial ?_
    refine qe_iconst (v := (nI 2)) dX9_overlap_15 rfl ?_
    refine qm_b_elim h (fun a4 s3 hc h => ?_)
    refine qe_callV1 (st := []) kk_X9_overlap_X9_lays (c_X9_lays hc) (qs_at tM_0) rfl rfl rfl (Nat.le_of_ble_eq_true rfl) dX9_overlap_16 ?_
    refine qe_if_ne (tgt := 29) dX9_overlap_19 rfl h (fun _ h => ?_) (fun _ h => ?_)
    · refine qe_aload_n dX9_overlap_29 0 rfl rfl trivial ?_
      refine qe_iload_n dX9_overlap_30 1 rfl rfl ?_
      refine qm_b_elim h (fun a6 s5 hc h => ?_)
      refine qe_callV1 (st := []) kk_X9_overlap_X9_isPlace (c_X9_isPlace hc) (qs_at tM_0) rfl rfl rfl (Nat.le_of_ble_eq_true rfl) dX9_overlap_31 ?_
      refine qe_if_eq (tgt := 54) dX9_overlap_34 rfl h (fun _ h => ?_) (fun _ h => ?_)
      · refine qe_aload_n dX9_overlap_54 0 rfl rfl trivial ?_
        refine qe_bipush (v := (-2 : Int32)) dX9_overlap_55 rfl ?_
        refine qm_b_elim h (fun b8 s7 hc h => ?_)
        refine qe_callV1 (st := []) kk_X9_overlap_X9_noLong (c_X9_noLong hc) (qs_at tM_0) rfl rfl rfl (Nat.le_of_ble_eq_true rfl) dX9_overlap_57 ?_
        have e : (b8, s7) = o := Option.some.inj h
        subst e
        exact qe_lret dX9_overlap_60 rfl
      · refine qe_aload_n dX9_overlap_37 0 rfl rfl trivial ?_
        refine qe_iload_n dX9_overlap_38 1 rfl rfl ?_
        refine qe_i2l dX9_overlap_39 ?_
        refine qm_b_elim h (fun b10 s9 hc h => ?_)
        refine qe_callV1 (st := []) kk_X9_overlap_X9_overlapOf (c_X9_overlapOf hc) (qs_at tM_0) rfl rfl rfl (Nat.le_of_ble_eq_true rfl) dX9_overlap_40 ?_
        refine qe_aload_n dX9_overlap_43 0 rfl rfl trivial ?_
        refine qs_getL (j := 6) tM_0 rfl fl_RX9_124 dX9_overlap_44 ?_
        refine qe_iload_n dX9_overlap_47 2 rfl rfl ?_
        refine qm_b_elim h (fun b12 s11 hc h => ?_)
        refine qe_callS1 (st := []) kk_X9_overlap_X9_lowest (c_X9_lowest hc) rfl rfl (Nat.le_of_ble_eq_true rfl) dX9_overlap_48 ?_
        refine qe_goto (tgt := 60) dX9_overlap_51 rfl ?_
        have e : (b12, s11) = o := Option.some.inj h
        subst e
        exact qe_lret dX9_overlap_60 rfl
    · refine qe_aload_n dX9_overlap_22 0 rfl rfl trivial ?_
      refine qe_bipush (v := (-7 : Int32)) dX9_overlap_23 rfl ?_
      refine qm_b_elim h (fun b14 s13 hc h => ?_)
      refine qe_callV1 (st := []) kk_X9_overlap_X9_noLong (c_X9_noLong hc) (qs_at tM_0) rfl rfl rfl (Nat.le_of_ble_eq_true rfl) dX9_overlap_25 ?_
      have e : (b14, s13) = o := Option.some.inj h
      subst e
      exact qe_lret dX9_overlap_28 rfl
  · refine qe_aload_n dX9_overlap_7 0 rfl rfl trivial ?_
    refine qe_bipush (v := (-2 : Int32)) dX9_overlap_8 rfl ?_
    refine qm_b_elim h (fun b16 s15 hc h => ?_)
    refine qe_callV1 (st := []) kk_X9_overlap_X9_noLong (c_X9_noLong hc) (qs_at tM_0) rfl rfl rfl (Nat.le_of_ble_eq_true rfl) dX9_overlap_10 ?_
    have e : (b16, s15) = o := Option.some.inj h
    subst e
    exact qe_lret dX9_overlap_13 rfl

set_option maxRecDepth 20000 in
theorem c_X9_shift_L56 {l : Launch} {G : qe_G} {k217 : Int64 → Int64 → qe_S → Option (Int32 × qe_S)} {v1 : Int32} {v6 : Int32} (hk217 : ∀ (b11 : Int64) (b12 : Int64) (s : qe_S) (o : Int32 × qe_S), k217 b11 b12 s = some o → qe_J l G MX9_shift 217 [(0, .ref 0), (1, .int v1), (2, .long b11), (4, .long b12), (6, .int v6)] [] (qs_w s (qs_TM G)) (some (.int o.1)) (qs_w o.2 (qs_TM G))) : ∀ (n : Nat) (v2 : Int64) (v4 : Int64) (v7 : Int32) (s0 : qe_S) (o : Int32 × qe_S), g_X9_shift_L56 k217 v1 v6 n v2 v4 v7 s0 = some o → qe_J l G MX9_shift 56 [(0, .ref 0), (1, .int v1), (2, .long v2), (4, .long v4), (6, .int v6), (7, .int v7)] [] (qs_w s0 (qs_TM G)) (some (.int o.1)) (qs_w o.2 (qs_TM G)) := by
  intro n
  induction n with
  | zero =>
    intro v2 v4 v7 s0 o h
    rw [g_X9_shift_L56] at h
    cases h
  | succ n ih =>
    intro v2 v4 v7 s0 o h
    rw [g_X9_shift_L56] at h
    refine qe_iload dX9_shift_56 5 rfl ?_
    refine qe_iconst (v := (nI 4)) dX9_shift_58 rfl ?_
    refine qe_icmp_ge (tgt := 217) dX9_shift_59 rfl h (fun _ h => ?_) (fun _ h => ?_)
    · refine qe_sub [0, 1, 2, 3, 4] rfl ?_
      exact hk217 _ _ _ _ h
    · refine qm_j_elim h (fun j87 ej87 h => ?_)
      have hj87 : ∀ (q13 : Int64) (q14 : Int64) (s15 : qe_S) (o : Int32 × qe_S), j87 q13 q14 s15 = some o → qe_J l G MX9_shift 87 [(0, .ref 0), (1, .int v1), (2, .long v2), (4, .long v4), (6, .int v6), (7, .int v7)] [.long q13, .long q14] (qs_w s15 (qs_TM G)) (some (.int o.1)) (qs_w o.2 (qs_TM G)) := by
        intro q13 q14 s15 o h
        subst ej87
        refine qm_j_elim h (fun j114 ej114 h => ?_)
        have hj114 : ∀ (b16 : Int64) (q17 : Int64) (q18 : Int64) (s19 : qe_S) (o : Int32 × qe_S), j114 b16 q17 q18 s19 = some o → qe_J l G MX9_shift 114 [(0, .ref 0), (1, .int v1), (2, .long v2), (4, .long v4), (6, .int v6), (7, .int v7), (8, .long b16)] [.long q17, .long q18] (qs_w s19 (qs_TM G)) (some (.int o.1)) (qs_w o.2 (qs_TM G)) := by
          intro b16 q17 q18 s19 o h
          subst ej114
          refine qm_j_elim h (fun j179 ej179 h => ?_)
          have hj179 : ∀ (b20 : Int64) (b21 : Int64) (q22 : Int32) (s23 : qe_S) (o : Int32 × qe_S), j179 b20 b21 q22 s23 = some o → qe_J l G MX9_shift 179 [(0, .ref 0), (1, .int v1), (2, .long v2), (4, .long v4), (6, .int v6), (7, .int v7), (12, .long b20), (14, .long b21)] [.int q22] (qs_w s23 (qs_TM G)) (some (.int o.1)) (qs_w o.2 (qs_TM G)) := by
            intro b20 b21 q22 s23 o h
            subst ej179
            refine qm_j_elim h (fun j211 ej211 h => ?_)
            have hj211 : ∀ (b24 : Int64) (b25 : Int64) (s26 : qe_S) (o : Int32 × qe_S), j211 b24 b25 s26 = some o → qe_J l G MX9_shift 211 [(0, .ref 0), (1, .int v1), (2, .long b24), (4, .long b25), (6, .int v6), (7, .int v7)] [] (qs_w s26 (qs_TM G)) (some (.int o.1)) (qs_w o.2 (qs_TM G)) := by
              intro b24 b25 s26 o h
              subst ej211
              refine qe_iincl (lv' := fun a27 => [(7, .int a27), (0, .ref 0), (1, .int v1), (2, .long b24), (4, .long b25), (6, .int v6)]) dX9_shift_211 5 rfl rfl (fun _ => rfl) (Nat.le_of_ble_eq_true rfl) h (fun a27 h => ?_)
              refine qe_goto (tgt := 56) dX9_shift_214 rfl ?_
              refine qe_sub [1, 2, 3, 4, 5, 0] rfl ?_
              exact ih _ _ _ _ _ h
            refine qm_j_elim h (fun j204 ej204 h => ?_)
            have hj204 : ∀  (s28 : qe_S) (o : Int32 × qe_S), j204  s28 = some o → qe_J l G MX9_shift 204 [(0, .ref 0), (1, .int v1), (6, .int v6), (7, .int v7), (12, .long b20), (14, .long b21)] [] (qs_w s28 (qs_TM G)) (some (.int o.1)) (qs_w o.2 (qs_TM G)) := by
              intro  s28 o h
              subst ej204
              refine qe_lload dX9_shift_204 5 rfl ?_
              refine qe_lstore (lv' := [(4, .long b21), (0, .ref 0), (1, .int v1), (6, .int v6), (7, .int v7), (12, .long b20), (14, .long b21)]) dX9_shift_206 rfl (Nat.le_of_ble_eq_true rfl) ?_
              refine qe_lload dX9_shift_208 5 rfl ?_
              refine qe_lstore_n (lv' := [(2, .long b20), (4, .long b21), (0, .ref 0), (1, .int v1), (6, .int v6), (7, .int v7), (12, .long b20), (14, .long b21)]) dX9_shift_210 rfl rfl (Nat.le_of_ble_eq_true rfl) ?_
              refine qe_sub [2, 3, 0, 1, 4, 5] rfl ?_
              exact hj211 _ _ _ _ h
            refine qe_istore (lv' := [(16, .int q22), (0, .ref 0), (1, .int v1), (2, .long v2), (4, .long v4), (6, .int v6), (7, .int v7), (12, .long b20), (14, .long b21)]) dX9_shift_179 rfl (Nat.le_of_ble_eq_true rfl) ?_
            refine qe_iload dX9_shift_181 0 rfl ?_
            refine qe_if_ne (tgt := 204) dX9_shift_183 rfl h (fun _ h => ?_) (fun _ h => ?_)
            · refine qe_sub [1, 2, 5, 6, 7, 8] rfl ?_
              exact hj204  _ _ h
            · refine qe_lload dX9_shift_186 8 rfl ?_
              refine qe_lload dX9_shift_188 4 rfl ?_
              refine qe_lcmp_ne (tgt := 211) dX9_shift_190 dX9_shift_191 rfl h (fun _ h => ?_) (fun _ h => ?_)
              · refine qe_sub [1, 2, 3, 4, 5, 6] rfl ?_
                exact hj211 _ _ _ _ h
              · refine qe_lload dX9_shift_194 7 rfl ?_
                refine qe_lload_n dX9_shift_196 3 rfl rfl ?_
                refine qe_lcmp_lt (tgt := 204) dX9_shift_197 dX9_shift_198 rfl h (fun _ h => ?_) (fun _ h => ?_)
                · refine qe_sub [1, 2, 5, 6, 7, 8] rfl ?_
                  exact hj204  _ _ h
                · refine qe_goto (tgt := 211) dX9_shift_201 rfl ?_
                  refine qe_sub [1, 2, 3, 4, 5, 6] rfl ?_
                  exact hj211 _ _ _ _ h
          refine qe_ladd dX9_shift_114 ?_
          refine qe_let_l h (fun b29 h => ?_)
          refine qe_lstore (lv' := [(10, .long b29), (0, .ref 0), (1, .int v1), (2, .long v2), (4, .long v4), (6, .int v6), (7, .int v7), (8, .long b16)]) dX9_shift_115 rfl (Nat.le_of_ble_eq_true rfl) ?_
          refine qe_lload dX9_shift_117 7 rfl ?_
          refine qe_lload dX9_shift_119 0 rfl ?_
          refine qe_lsub dX9_shift_121 ?_
          refine qe_ldc2 kc_RX9_246 dX9_shift_122 ?_
          refine qe_aload_n dX9_shift_125 1 rfl rfl trivial ?_
          refine qs_getL (j := 6) tM_0 rfl fl_RX9_124 dX9_shift_126 ?_
          refine qe_lmul dX9_shift_129 ?_
          refine qe_ladd dX9_shift_130 ?_
          refine qe_aload_n dX9_shift_131 1 rfl rfl trivial ?_
          refine qs_getL (j := 6) tM_0 rfl fl_RX9_124 dX9_shift_132 ?_
          refine qe_lrem dX9_shift_135 h (fun h => ?_)
          refine qe_let_l h (fun b30 h => ?_)
          refine qe_lstore (lv' := [(12, .long b30), (10, .long b29), (0, .ref 0), (1, .int v1), (2, .long v2), (4, .long v4), (6, .int v6), (7, .int v7), (8, .long b16)]) dX9_shift_136 rfl (Nat.le_of_ble_eq_true rfl) ?_
          refine qe_aload_n dX9_shift_138 2 rfl rfl trivial ?_
          refine qe_lload dX9_shift_139 0 rfl ?_
          refine qm_b_elim h (fun b32 s31 hc h => ?_)
          refine qe_callV1 (st := []) kk_X9_shift_X9_overlapOf (c_X9_overlapOf hc) (qs_at tM_0) rfl rfl rfl (Nat.le_of_ble_eq_true rfl) dX9_shift_141 ?_
          refine qe_lstore (lv' := [(14, .long b32), (12, .long b30), (10, .long b29), (0, .ref 0), (1, .int v1), (2, .long v2), (4, .long v4), (6, .int v6), (7, .int v7), (8, .long b16)]) dX9_shift_144 rfl (Nat.le_of_ble_eq_true rfl) ?_
          refine qe_iload_n dX9_shift_146 4 rfl rfl ?_
          refine qe_if_ne (tgt := 166) dX9_shift_147 rfl h (fun _ h => ?_) (fun _ h => ?_)
          · refine qe_lload dX9_shift_166 0 rfl ?_
            refine qe_lload dX9_shift_168 6 rfl ?_
            refine qe_lcmp_ge (tgt := 178) dX9_shift_170 dX9_shift_171 rfl h (fun _ h => ?_) (fun _ h => ?_)
            · refine qe_iconst (v := (0 : Int32)) dX9_shift_178 rfl ?_
              refine qe_sub [3, 4, 5, 6, 7, 8, 1, 0] rfl ?_
              exact hj179 _ _ _ _ _ h
            · refine qe_iconst (v := (1 : Int32)) dX9_shift_174 rfl ?_
              refine qe_goto (tgt := 179) dX9_shift_175 rfl ?_
              refine qe_sub [3, 4, 5, 6, 7, 8, 1, 0] rfl ?_
              exact hj179 _ _ _ _ _ h
          · refine qe_lload dX9_shift_150 0 rfl ?_
            refine qe_lload dX9_shift_152 6 rfl ?_
            refine qe_lcmp_le (tgt := 162) dX9_shift_154 dX9_shift_155 rfl h (fun _ h => ?_) (fun _ h => ?_)
            · refine qe_iconst (v := (0 : Int32)) dX9_shift_162 rfl ?_
              refine qe_goto (tgt := 179) dX9_shift_163 rfl ?_
              refine qe_sub [3, 4, 5, 6, 7, 8, 1, 0] rfl ?_
              exact hj179 _ _ _ _ _ h
            · refine qe_iconst (v := (1 : Int32)) dX9_shift_158 rfl ?_
              refine qe_goto (tgt := 179) dX9_shift_159 rfl ?_
              refine qe_sub [3, 4, 5, 6, 7, 8, 1, 0] rfl ?_
              exact hj179 _ _ _ _ _ h
        refine qe_ladd dX9_shift_87 ?_
        refine qe_let_l h (fun b33 h => ?_)
        refine qe_lstore (lv' := [(8, .long b33), (0, .ref 0), (1, .int v1), (2, .long v2), (4, .long v4), (6, .int v6), (7, .int v7)]) dX9_shift_88 rfl (Nat.le_of_ble_eq_true rfl) ?_
        refine qe_aload_n dX9_shift_90 1 rfl rfl trivial ?_
        refine qs_getR (j := 9) tM_0 rfl fl_RX9_32 dX9_shift_91 ?_
        refine qe_iload dX9_shift_94 5 rfl ?_
        refine qs_lld tM_8 dX9_shift_96 h (fun b34 h => ?_)
        refine qe_iload dX9_shift_97 6 rfl ?_
        refine qe_iconst (v := (nI 2)) dX9_shift_99 rfl ?_
        refine qe_icmp_ge (tgt := 107) dX9_shift_100 rfl h (fun _ h => ?_) (fun _ h => ?_)
        · refine qe_aload_n dX9_shift_107 1 rfl rfl trivial ?_
          refine qs_getR (j := 10) tM_0 rfl fl_RX9_35 dX9_shift_108 ?_
          refine qe_iload dX9_shift_111 5 rfl ?_
          refine qs_lld tM_9 dX9_shift_113 h (fun b35 h => ?_)
          refine qe_sub [1, 2, 3, 4, 5, 6, 0] rfl ?_
          exact hj114 _ _ _ _ _ h
        · refine qe_lconst (v := 0) dX9_shift_103 rfl ?_
          refine qe_goto (tgt := 114) dX9_shift_104 rfl ?_
          refine qe_sub [1, 2, 3, 4, 5, 6, 0] rfl ?_
          exact hj114 _ _ _ _ _ h
      refine qe_aload_n dX9_shift_62 0 rfl rfl trivial ?_
      refine qs_getR (j := 7) tM_0 rfl fl_RX9_25 dX9_shift_63 ?_
      refine qe_iload dX9_shift_66 4 rfl ?_
      refine qs_lld tM_6 dX9_shift_68 h (fun b36 h => ?_)
      refine qe_iload dX9_shift_69 5 rfl ?_
      refine qe_iconst (v := (nI 2)) dX9_shift_71 rfl ?_
      refine qe_irem dX9_shift_72 h (fun h => ?_)
      refine qe_if_ne (tgt := 80) dX9_shift_73 rfl h (fun _ h => ?_) (fun _ h => ?_)
      · refine qe_aload_n dX9_shift_80 0 rfl rfl trivial ?_
        refine qs_getR (j := 8) tM_0 rfl fl_RX9_29 dX9_shift_81 ?_
        refine qe_iload dX9_shift_84 4 rfl ?_
        refine qs_lld tM_7 dX9_shift_86 h (fun b37 h => ?_)
        exact hj87 _ _ _ _ h
      · refine qe_lconst (v := 0) dX9_shift_76 rfl ?_
        refine qe_goto (tgt := 87) dX9_shift_77 rfl ?_
        exact hj87 _ _ _ _ h

set_option maxRecDepth 20000 in
theorem c_X9_shift_L42 {l : Launch} {G : qe_G} {v1 : Int32} : ∀ (n : Nat) (v2 : Int64) (v4 : Int64) (v6 : Int32) (s0 : qe_S) (o : Int32 × qe_S), g_X9_shift_L42 v1 n v2 v4 v6 s0 = some o → qe_J l G MX9_shift 42 [(0, .ref 0), (1, .int v1), (2, .long v2), (4, .long v4), (6, .int v6)] [] (qs_w s0 (qs_TM G)) (some (.int o.1)) (qs_w o.2 (qs_TM G)) := by
  intro n
  induction n with
  | zero =>
    intro v2 v4 v6 s0 o h
    rw [g_X9_shift_L42] at h
    cases h
  | succ n ih =>
    intro v2 v4 v6 s0 o h
    rw [g_X9_shift_L42] at h
    refine qe_iload dX9_shift_42 4 rfl ?_
    refine qe_aload_n dX9_shift_44 0 rfl rfl trivial ?_
    refine qs_getR (j := 0) tM_0 rfl fl_RX9_7 dX9_shift_45 ?_
    refine qe_iconst (v := (0 : Int32)) dX9_shift_48 rfl ?_
    refine qs_ild tM_1 dX9_shift_49 h (fun a9 h => ?_)
    refine qe_icmp_ge (tgt := 223) dX9_shift_50 rfl h (fun _ h => ?_) (fun _ h => ?_)
    · refine qe_lload_n dX9_shift_223 2 rfl rfl ?_
      refine qe_l2i dX9_shift_224 ?_
      have e : (v2.toInt32, s0) = o := Option.some.inj h
      subst e
      exact qe_iret dX9_shift_225 rfl
    · refine qe_iconst (v := (0 : Int32)) dX9_shift_53 rfl ?_
      refine qe_let_i h (fun a10 h => ?_)
      refine qe_istore (lv' := [(7, .int a10), (0, .ref 0), (1, .int v1), (2, .long v2), (4, .long v4), (6, .int v6)]) dX9_shift_54 rfl (Nat.le_of_ble_eq_true rfl) ?_
      refine qe_sub [1, 2, 3, 4, 5, 0] rfl ?_
      refine c_X9_shift_L56
        (fun b38 b39 s40 o h => ?_) _ _ _ _ _ _ h
      refine qe_iincl (lv' := fun a41 => [(6, .int a41), (0, .ref 0), (1, .int v1), (2, .long b38), (4, .long b39)]) dX9_shift_217 4 rfl rfl (fun _ => rfl) (Nat.le_of_ble_eq_true rfl) h (fun a41 h => ?_)
      refine qe_goto (tgt := 42) dX9_shift_220 rfl ?_
      refine qe_sub [1, 2, 3, 4, 0] rfl ?_
      exact ih _ _ _ _ _ h

set_option maxRecDepth 20000 in
theorem c_X9_shift {l : Launch} {G : qe_G} {v1 : Int32} {s0 : qe_S} {o : Int32 × qe_S} (h : g_X9_shift v1 s0 = some o) : qe_C l G MX9_shift [.ref 0, .int v1] (qs_w s0 (qs_TM G)) (some (.int o.1)) (qs_w o.2 (qs_TM G)) := by
  refine qe_C.of (by decide +kernel) (Nat.le_of_ble_eq_true rfl) ?_
  show qe_J l G MX9_shift 0 [(0, .ref 0), (1, .int v1)] [] (qs_w s0 (qs_TM G)) (some (.int o.1)) (qs_w o.2 (qs_TM G))
  unfold g_X9_shift at h
  refine qe_iload_n dX9_shift_0 1 rfl rfl ?_
  refine qe_iconst (v := (0 : Int32)) dX9_shift_1 rfl ?_
  refine qe_iconst (v := (1 : Int32)) dX9_shift_2 rfl ?_
  refine qm_b_elim h (fun a2 s1 hc h => ?_)
  refine qe_callS1 (st := []) kk_X9_shift_X9_within (c_X9_within hc) rfl rfl (Nat.le_of_ble_eq_true rfl) dX9_shift_3 ?_
  refine qe_if_ne (tgt := 15) dX9_shift_6 rfl h (fun _ h => ?_) (fun _ h => ?_)
  · refine qe_aload_n dX9_shift_15 0 rfl rfl trivial ?_
    refine qe_iconst (v := (nI 2)) dX9_shift_16 rfl ?_
    refine qm_b_elim h (fun a4 s3 hc h => ?_)
    refine qe_callV1 (st := []) kk_X9_shift_X9_lays (c_X9_lays hc) (qs_at tM_0) rfl rfl rfl (Nat.le_of_ble_eq_true rfl) dX9_shift_17 ?_
    refine qe_if_ne (tgt := 30) dX9_shift_20 rfl h (fun _ h => ?_) (fun _ h => ?_)
    · refine qe_lconst (v := 0) dX9_shift_30 rfl ?_
      refine qe_let_l h (fun b5 h => ?_)
      refine qe_lstore_n (lv' := [(2, .long b5), (0, .ref 0), (1, .int v1)]) dX9_shift_31 rfl rfl (Nat.le_of_ble_eq_true rfl) ?_
      refine qe_aload_n dX9_shift_32 1 rfl rfl trivial ?_
      refine qe_lconst (v := 0) dX9_shift_33 rfl ?_
      refine qm_b_elim h (fun b7 s6 hc h => ?_)
      refine qe_callV1 (st := []) kk_X9_shift_X9_overlapOf (c_X9_overlapOf hc) (qs_at tM_0) rfl rfl rfl (Nat.le_of_ble_eq_true rfl) dX9_shift_34 ?_
      refine qe_lstore (lv' := [(4, .long b7), (2, .long b5), (0, .ref 0), (1, .int v1)]) dX9_shift_37 rfl (Nat.le_of_ble_eq_true rfl) ?_
      refine qe_iconst (v := (0 : Int32)) dX9_shift_39 rfl ?_
      refine qe_let_i h (fun a8 h => ?_)
      refine qe_istore (lv' := [(6, .int a8), (4, .long b7), (2, .long b5), (0, .ref 0), (1, .int v1)]) dX9_shift_40 rfl (Nat.le_of_ble_eq_true rfl) ?_
      refine qe_sub [3, 4, 2, 1, 0] rfl ?_
      refine c_X9_shift_L42 _ _ _ _ _ _ h
    · refine qe_aload_n dX9_shift_23 0 rfl rfl trivial ?_
      refine qe_bipush (v := (-7 : Int32)) dX9_shift_24 rfl ?_
      refine qm_b_elim h (fun a43 s42 hc h => ?_)
      refine qe_callV1 (st := []) kk_X9_shift_X9_no (c_X9_no hc) (qs_at tM_0) rfl rfl rfl (Nat.le_of_ble_eq_true rfl) dX9_shift_26 ?_
      have e : (a43, s42) = o := Option.some.inj h
      subst e
      exact qe_iret dX9_shift_29 rfl
  · refine qe_aload_n dX9_shift_9 0 rfl rfl trivial ?_
    refine qe_iconst (v := (-1 : Int32)) dX9_shift_10 rfl ?_
    refine qm_b_elim h (fun a45 s44 hc h => ?_)
    refine qe_callV1 (st := []) kk_X9_shift_X9_no (c_X9_no hc) (qs_at tM_0) rfl rfl rfl (Nat.le_of_ble_eq_true rfl) dX9_shift_11 ?_
    have e : (a45, s44) = o := Option.some.inj h
    subst e
    exact qe_iret dX9_shift_14 rfl

set_option maxRecDepth 20000 in
theorem c_X9_isManner {l : Launch} {G : qe_G} {v0 : Int32} {s0 : qe_S} {o : Int32 × qe_S} (h : g_X9_isManner v0 s0 = some o) : qe_C l G MX9_isManner [.int v0] (qs_w s0 (qs_TM G)) (some (.int o.1)) (qs_w o.2 (qs_TM G)) := by
  refine qe_C.of (by decide +kernel) (Nat.le_of_ble_eq_true rfl) ?_
  show qe_J l G MX9_isManner 0 [(0, .int v0)] [] (qs_w s0 (qs_TM G)) (some (.int o.1)) (qs_w o.2 (qs_TM G))
  unfold g_X9_isManner at h
  refine qe_iload_n dX9_isManner_0 0 rfl rfl ?_
  refine qe_iconst (v := (0 : Int32)) dX9_isManner_1 rfl ?_
  refine qe_iconst (v := (1 : Int32)) dX9_isManner_2 rfl ?_
  refine qm_b_elim h (fun a2 s1 hc h => ?_)
  refine qe_callS1 (st := []) kk_X9_isManner_X9_within (c_X9_within hc) rfl rfl (Nat.le_of_ble_eq_true rfl) dX9_isManner_3 ?_
  exact qe_zret dX9_isManner_6 rfl h (fun h => by have e : (a2, s1) = o := Option.some.inj h; subst e; exact ⟨rfl, rfl⟩)

set_option maxRecDepth 20000 in
theorem c_X9_finalOf_L80 {l : Launch} {G : qe_G} {k194 : Int32 → qe_S → Option (Int32 × qe_S)} {v1 : Int32} {v2 : Int32} {v3 : Int32} {v4 : Int32} {v6 : Int32} {v7 : Int32} (hk194 : ∀ (a15 : Int32) (s : qe_S) (o : Int32 × qe_S), k194 a15 s = some o → qe_J l G MX9_finalOf 194 [(0, .ref 0), (1, .int v1), (2, .int v2), (3, .int v3), (4, .int v4), (5, .int a15), (6, .int v6)] [] (qs_w s (qs_TM G)) (some (.int o.1)) (qs_w o.2 (qs_TM G))) : ∀ (n : Nat) (v5 : Int32) (v8 : Int32) (s0 : qe_S) (o : Int32 × qe_S), g_X9_finalOf_L80 k194 v1 v2 v3 v4 v6 v7 n v5 v8 s0 = some o → qe_J l G MX9_finalOf 80 [(0, .ref 0), (1, .int v1), (2, .int v2), (3, .int v3), (4, .int v4), (5, .int v5), (6, .int v6), (7, .int v7), (8, .int v8)] [] (qs_w s0 (qs_TM G)) (some (.int o.1)) (qs_w o.2 (qs_TM G)) := by
  intro n
  induction n with
  | zero =>
    intro v5 v8 s0 o h
    rw [g_X9_finalOf_L80] at h
    cases h
  | succ n ih =>
    intro v5 v8 s0 o h
    rw [g_X9_finalOf_L80] at h
    refine qe_iload dX9_finalOf_80 8 rfl ?_
    refine qe_iload_n dX9_finalOf_82 3 rfl rfl ?_
    refine qe_icmp_ge (tgt := 194) dX9_finalOf_83 rfl h (fun _ h => ?_) (fun _ h => ?_)
    · refine qe_sub [0, 1, 2, 3, 4, 5, 6] rfl ?_
      exact hk194 _ _ _ h
    · refine qe_aload_n dX9_finalOf_86 0 rfl rfl trivial ?_
      refine qs_getR (j := 20) tM_0 rfl fl_RX9_50 dX9_finalOf_87 ?_
      refine qe_iload dX9_finalOf_90 7 rfl ?_
      refine qs_ild tM_14 dX9_finalOf_92 h (fun a16 h => ?_)
      refine qe_bipush (v := (-5 : Int32)) dX9_finalOf_93 rfl ?_
      refine qe_icmp_ne (tgt := 194) dX9_finalOf_95 rfl h (fun _ h => ?_) (fun _ h => ?_)
      · refine qe_sub [0, 1, 2, 3, 4, 5, 6] rfl ?_
        exact hk194 _ _ _ h
      · refine qm_j_elim h (fun j188 ej188 h => ?_)
        have hj188 : ∀ (a17 : Int32) (s18 : qe_S) (o : Int32 × qe_S), j188 a17 s18 = some o → qe_J l G MX9_finalOf 188 [(0, .ref 0), (1, .int v1), (2, .int v2), (3, .int v3), (4, .int v4), (5, .int a17), (6, .int v6), (7, .int v7), (8, .int v8)] [] (qs_w s18 (qs_TM G)) (some (.int o.1)) (qs_w o.2 (qs_TM G)) := by
          intro a17 s18 o h
          subst ej188
          refine qe_iincl (lv' := fun a19 => [(8, .int a19), (0, .ref 0), (1, .int v1), (2, .int v2), (3, .int v3), (4, .int v4), (5, .int a17), (6, .int v6), (7, .int v7)]) dX9_finalOf_188 8 rfl rfl (fun _ => rfl) (Nat.le_of_ble_eq_true rfl) h (fun a19 h => ?_)
          refine qe_goto (tgt := 80) dX9_finalOf_191 rfl ?_
          refine qe_sub [1, 2, 3, 4, 5, 6, 7, 8, 0] rfl ?_
          exact ih _ _ _ _ h
        refine qe_aload_n dX9_finalOf_98 0 rfl rfl trivial ?_
        refine qs_getR (j := 5) tM_0 rfl fl_RX9_22 dX9_finalOf_99 ?_
        refine qe_iload dX9_finalOf_102 6 rfl ?_
        refine qe_iload dX9_finalOf_104 8 rfl ?_
        refine qe_iadd dX9_finalOf_106 ?_
        refine qe_iload_n dX9_finalOf_107 3 rfl rfl ?_
        refine qe_irem dX9_finalOf_108 h (fun h => ?_)
        refine qs_ild tM_5 dX9_finalOf_109 h (fun a20 h => ?_)
        refine qe_istore (lv' := [(9, .int a20), (0, .ref 0), (1, .int v1), (2, .int v2), (3, .int v3), (4, .int v4), (5, .int v5), (6, .int v6), (7, .int v7), (8, .int v8)]) dX9_finalOf_110 rfl (Nat.le_of_ble_eq_true rfl) ?_
        refine qe_aload_n dX9_finalOf_112 1 rfl rfl trivial ?_
        refine qe_iload_n dX9_finalOf_113 2 rfl rfl ?_
        refine qe_iload dX9_finalOf_114 6 rfl ?_
        refine qe_ior dX9_finalOf_116 ?_
        refine qe_iload dX9_finalOf_117 0 rfl ?_
        refine qm_b_elim h (fun a22 s21 hc h => ?_)
        refine qe_callV1 (st := []) kk_X9_finalOf_X9_has (c_X9_has hc) (qs_at tM_0) rfl rfl rfl (Nat.le_of_ble_eq_true rfl) dX9_finalOf_119 ?_
        refine qe_if_ne (tgt := 188) dX9_finalOf_122 rfl h (fun _ h => ?_) (fun _ h => ?_)
        · refine qe_sub [1, 2, 3, 4, 5, 6, 7, 8, 9] rfl ?_
          exact hj188 _ _ _ h
        · refine qe_aload_n dX9_finalOf_125 1 rfl rfl trivial ?_
          refine qs_getR (j := 0) tM_0 rfl fl_RX9_7 dX9_finalOf_126 ?_
          refine qe_bipush (v := (nI 38)) dX9_finalOf_129 rfl ?_
          refine qe_iload dX9_finalOf_131 0 rfl ?_
          refine qe_iadd dX9_finalOf_133 ?_
          refine qs_ild tM_1 dX9_finalOf_134 h (fun a23 h => ?_)
          refine qe_iconst (v := (1 : Int32)) dX9_finalOf_135 rfl ?_
          refine qe_icmp_eq (tgt := 188) dX9_finalOf_136 rfl h (fun _ h => ?_) (fun _ h => ?_)
          · refine qe_sub [1, 2, 3, 4, 5, 6, 7, 8, 9] rfl ?_
            exact hj188 _ _ _ h
          · refine qm_j_elim h (fun j170 ej170 h => ?_)
            have hj170 : ∀  (s24 : qe_S) (o : Int32 × qe_S), j170  s24 = some o → qe_J l G MX9_finalOf 170 [(0, .ref 0), (1, .int v1), (2, .int v2), (3, .int v3), (4, .int v4), (5, .int v5), (6, .int v6), (7, .int v7), (8, .int v8), (9, .int a20)] [] (qs_w s24 (qs_TM G)) (some (.int o.1)) (qs_w o.2 (qs_TM G)) := by
              intro  s24 o h
              subst ej170
              refine qe_aload_n dX9_finalOf_170 0 rfl rfl trivial ?_
              refine qs_getR (j := 20) tM_0 rfl fl_RX9_50 dX9_finalOf_171 ?_
              refine qe_iload dX9_finalOf_174 7 rfl ?_
              refine qe_iload dX9_finalOf_176 9 rfl ?_
              refine qs_ist tM_14 dX9_finalOf_178 h (fun s25 h => ?_)
              refine qe_iload dX9_finalOf_179 5 rfl ?_
              refine qe_iconst (v := (1 : Int32)) dX9_finalOf_181 rfl ?_
              refine qe_iload dX9_finalOf_182 9 rfl ?_
              refine qe_ishl dX9_finalOf_184 ?_
              refine qe_ior dX9_finalOf_185 ?_
              refine qe_let_i h (fun a26 h => ?_)
              refine qe_istore (lv' := [(5, .int a26), (0, .ref 0), (1, .int v1), (2, .int v2), (3, .int v3), (4, .int v4), (6, .int v6), (7, .int v7), (8, .int v8), (9, .int a20)]) dX9_finalOf_186 rfl (Nat.le_of_ble_eq_true rfl) ?_
              refine qe_sub [1, 2, 3, 4, 5, 0, 6, 7, 8] rfl ?_
              exact hj188 _ _ _ h
            refine qe_iload_n dX9_finalOf_139 3 rfl rfl ?_
            refine qe_iconst (v := (1 : Int32)) dX9_finalOf_140 rfl ?_
            refine qe_icmp_ne (tgt := 170) dX9_finalOf_141 rfl h (fun _ h => ?_) (fun _ h => ?_)
            · refine qe_sub [1, 2, 3, 4, 5, 6, 7, 8, 9, 0] rfl ?_
              exact hj170  _ _ h
            · refine qe_aload_n dX9_finalOf_144 1 rfl rfl trivial ?_
              refine qs_getR (j := 0) tM_0 rfl fl_RX9_7 dX9_finalOf_145 ?_
              refine qe_bipush (v := (nI 14)) dX9_finalOf_148 rfl ?_
              refine qe_iload dX9_finalOf_150 0 rfl ?_
              refine qe_iadd dX9_finalOf_152 ?_
              refine qs_ild tM_1 dX9_finalOf_153 h (fun a27 h => ?_)
              refine qe_aload_n dX9_finalOf_154 1 rfl rfl trivial ?_
              refine qs_getR (j := 0) tM_0 rfl fl_RX9_7 dX9_finalOf_155 ?_
              refine qe_bipush (v := (nI 14)) dX9_finalOf_158 rfl ?_
              refine qe_iload dX9_finalOf_160 8 rfl ?_
              refine qe_iadd dX9_finalOf_162 ?_
              refine qs_ild tM_1 dX9_finalOf_163 h (fun a28 h => ?_)
              refine qe_icmp_eq (tgt := 170) dX9_finalOf_164 rfl h (fun _ h => ?_) (fun _ h => ?_)
              · refine qe_sub [1, 2, 3, 4, 5, 6, 7, 8, 9, 0] rfl ?_
                exact hj170  _ _ h
              · refine qe_goto (tgt := 188) dX9_finalOf_167 rfl ?_
                refine qe_sub [1, 2, 3, 4, 5, 6, 7, 8, 9] rfl ?_
                exact hj188 _ _ _ h

set_option maxRecDepth 20000 in
theorem c_X9_finalOf_L16 {l : Launch} {G : qe_G} {v1 : Int32} {v2 : Int32} {v3 : Int32} : ∀ (n : Nat) (v4 : Int32) (v5 : Int32) (v6 : Int32) (s0 : qe_S) (o : Int32 × qe_S), g_X9_finalOf_L16 v1 v2 v3 n v4 v5 v6 s0 = some o → qe_J l G MX9_finalOf 16 [(0, .ref 0), (1, .int v1), (2, .int v2), (3, .int v3), (4, .int v4), (5, .int v5), (6, .int v6)] [] (qs_w s0 (qs_TM G)) (some (.int o.1)) (qs_w o.2 (qs_TM G)) := by
  intro n
  induction n with
  | zero =>
    intro v4 v5 v6 s0 o h
    rw [g_X9_finalOf_L16] at h
    cases h
  | succ n ih =>
    intro v4 v5 v6 s0 o h
    rw [g_X9_finalOf_L16] at h
    refine qe_iload dX9_finalOf_16 6 rfl ?_
    refine qe_iload_n dX9_finalOf_18 3 rfl rfl ?_
    refine qe_icmp_ge (tgt := 200) dX9_finalOf_19 rfl h (fun _ h => ?_) (fun _ h => ?_)
    · refine qe_iload dX9_finalOf_200 4 rfl ?_
      refine qe_iload dX9_finalOf_202 5 rfl ?_
      refine qe_ior dX9_finalOf_204 ?_
      have e : ((v4 ||| v5), s0) = o := Option.some.inj h
      subst e
      exact qe_iret dX9_finalOf_205 rfl
    · refine qm_j_elim h (fun j194 ej194 h => ?_)
      have hj194 : ∀ (a4 : Int32) (a5 : Int32) (s6 : qe_S) (o : Int32 × qe_S), j194 a4 a5 s6 = some o → qe_J l G MX9_finalOf 194 [(0, .ref 0), (1, .int v1), (2, .int v2), (3, .int v3), (4, .int a4), (5, .int a5), (6, .int v6)] [] (qs_w s6 (qs_TM G)) (some (.int o.1)) (qs_w o.2 (qs_TM G)) := by
        intro a4 a5 s6 o h
        subst ej194
        refine qe_iincl (lv' := fun a7 => [(6, .int a7), (0, .ref 0), (1, .int v1), (2, .int v2), (3, .int v3), (4, .int a4), (5, .int a5)]) dX9_finalOf_194 6 rfl rfl (fun _ => rfl) (Nat.le_of_ble_eq_true rfl) h (fun a7 h => ?_)
        refine qe_goto (tgt := 16) dX9_finalOf_197 rfl ?_
        refine qe_sub [1, 2, 3, 4, 5, 6, 0] rfl ?_
        exact ih _ _ _ _ _ h
      refine qe_aload_n dX9_finalOf_22 0 rfl rfl trivial ?_
      refine qs_getR (j := 5) tM_0 rfl fl_RX9_22 dX9_finalOf_23 ?_
      refine qe_iload dX9_finalOf_26 6 rfl ?_
      refine qs_ild tM_5 dX9_finalOf_28 h (fun a8 h => ?_)
      refine qe_istore (lv' := [(7, .int a8), (0, .ref 0), (1, .int v1), (2, .int v2), (3, .int v3), (4, .int v4), (5, .int v5), (6, .int v6)]) dX9_finalOf_29 rfl (Nat.le_of_ble_eq_true rfl) ?_
      refine qe_aload_n dX9_finalOf_31 1 rfl rfl trivial ?_
      refine qe_iload_n dX9_finalOf_32 2 rfl rfl ?_
      refine qe_iload dX9_finalOf_33 0 rfl ?_
      refine qm_b_elim h (fun a10 s9 hc h => ?_)
      refine qe_callV1 (st := []) kk_X9_finalOf_X9_has (c_X9_has hc) (qs_at tM_0) rfl rfl rfl (Nat.le_of_ble_eq_true rfl) dX9_finalOf_35 ?_
      refine qe_if_eq (tgt := 194) dX9_finalOf_38 rfl h (fun _ h => ?_) (fun _ h => ?_)
      · refine qe_sub [1, 2, 3, 4, 5, 6, 7] rfl ?_
        exact hj194 _ _ _ _ h
      · refine qe_aload_n dX9_finalOf_41 1 rfl rfl trivial ?_
        refine qs_getR (j := 0) tM_0 rfl fl_RX9_7 dX9_finalOf_42 ?_
        refine qe_bipush (v := (nI 38)) dX9_finalOf_45 rfl ?_
        refine qe_iload dX9_finalOf_47 0 rfl ?_
        refine qe_iadd dX9_finalOf_49 ?_
        refine qs_ild tM_1 dX9_finalOf_50 h (fun a11 h => ?_)
        refine qe_if_ne (tgt := 57) dX9_finalOf_51 rfl h (fun _ h => ?_) (fun _ h => ?_)
        · refine qe_iload dX9_finalOf_57 5 rfl ?_
          refine qe_iconst (v := (1 : Int32)) dX9_finalOf_59 rfl ?_
          refine qe_iload dX9_finalOf_60 0 rfl ?_
          refine qe_ishl dX9_finalOf_62 ?_
          refine qe_iconst (v := (-1 : Int32)) dX9_finalOf_63 rfl ?_
          refine qe_ixor dX9_finalOf_64 ?_
          refine qe_iand dX9_finalOf_65 ?_
          refine qe_let_i h (fun a12 h => ?_)
          refine qe_istore (lv' := [(4, .int a12), (7, .int a8), (0, .ref 0), (1, .int v1), (2, .int v2), (3, .int v3), (5, .int v5), (6, .int v6)]) dX9_finalOf_66 rfl (Nat.le_of_ble_eq_true rfl) ?_
          refine qe_aload_n dX9_finalOf_68 2 rfl rfl trivial ?_
          refine qs_getR (j := 20) tM_0 rfl fl_RX9_50 dX9_finalOf_69 ?_
          refine qe_iload dX9_finalOf_72 1 rfl ?_
          refine qe_bipush (v := (-5 : Int32)) dX9_finalOf_74 rfl ?_
          refine qs_ist tM_14 dX9_finalOf_76 h (fun s13 h => ?_)
          refine qe_iconst (v := (1 : Int32)) dX9_finalOf_77 rfl ?_
          refine qe_let_i h (fun a14 h => ?_)
          refine qe_istore (lv' := [(8, .int a14), (4, .int a12), (7, .int a8), (0, .ref 0), (1, .int v1), (2, .int v2), (3, .int v3), (5, .int v5), (6, .int v6)]) dX9_finalOf_78 rfl (Nat.le_of_ble_eq_true rfl) ?_
          refine qe_sub [3, 4, 5, 6, 1, 7, 8, 2, 0] rfl ?_
          refine c_X9_finalOf_L80
            (fun a29 s30 o h => ?_) _ _ _ _ _ h
          exact hj194 _ _ _ _ h
        · refine qe_goto (tgt := 194) dX9_finalOf_54 rfl ?_
          refine qe_sub [1, 2, 3, 4, 5, 6, 7] rfl ?_
          exact hj194 _ _ _ _ h

set_option maxRecDepth 20000 in
theorem c_X9_finalOf {l : Launch} {G : qe_G} {v1 : Int32} {v2 : Int32} {s0 : qe_S} {o : Int32 × qe_S} (h : g_X9_finalOf v1 v2 s0 = some o) : qe_C l G MX9_finalOf [.ref 0, .int v1, .int v2] (qs_w s0 (qs_TM G)) (some (.int o.1)) (qs_w o.2 (qs_TM G)) := by
  refine qe_C.of (by decide +kernel) (Nat.le_of_ble_eq_true rfl) ?_
  show qe_J l G MX9_finalOf 0 [(0, .ref 0), (1, .int v1), (2, .int v2)] [] (qs_w s0 (qs_TM G)) (some (.int o.1)) (qs_w o.2 (qs_TM G))
  unfold g_X9_finalOf at h
  refine qe_aload_n dX9_finalOf_0 0 rfl rfl trivial ?_
  refine qs_getR (j := 0) tM_0 rfl fl_RX9_7 dX9_finalOf_1 ?_
  refine qe_iconst (v := (0 : Int32)) dX9_finalOf_4 rfl ?_
  refine qs_ild tM_1 dX9_finalOf_5 h (fun a1 h => ?_)
  refine qe_istore_n (lv' := [(3, .int a1), (0, .ref 0), (1, .int v1), (2, .int v2)]) dX9_finalOf_6 rfl rfl (Nat.le_of_ble_eq_true rfl) ?_
  refine qe_iload_n dX9_finalOf_7 2 rfl rfl ?_
  refine qe_istore (lv' := [(4, .int v1), (3, .int a1), (0, .ref 0), (1, .int v1), (2, .int v2)]) dX9_finalOf_8 rfl (Nat.le_of_ble_eq_true rfl) ?_
  refine qe_iconst (v := (0 : Int32)) dX9_finalOf_10 rfl ?_
  refine qe_let_i h (fun a2 h => ?_)
  refine qe_istore (lv' := [(5, .int a2), (4, .int v1), (3, .int a1), (0, .ref 0), (1, .int v1), (2, .int v2)]) dX9_finalOf_11 rfl (Nat.le_of_ble_eq_true rfl) ?_
  refine qe_iconst (v := (0 : Int32)) dX9_finalOf_13 rfl ?_
  refine qe_let_i h (fun a3 h => ?_)
  refine qe_istore (lv' := [(6, .int a3), (5, .int a2), (4, .int v1), (3, .int a1), (0, .ref 0), (1, .int v1), (2, .int v2)]) dX9_finalOf_14 rfl (Nat.le_of_ble_eq_true rfl) ?_
  refine qe_sub [4, 5, 6, 3, 2, 1, 0] rfl ?_
  refine c_X9_finalOf_L16 _ _ _ _ _ _ h

