/-! THE MACHINE: the methods meet their models (printed by wip/whole/gen/decomp.py) -/
set_option maxRecDepth 20000 in
theorem c_X3_oddsFit {l : Launch} {G : qe_G} {v0 : Int32} {v1 : Int32} {v2 : Int32} {s0 : qe_S} {o : Int32 × qe_S} (h : g_X3_oddsFit v0 v1 v2 s0 = some o) : qe_C l G MX3_oddsFit [.int v0, .int v1, .int v2] (qs_w s0 (qs_TC G)) (some (.int o.1)) (qs_w o.2 (qs_TC G)) := by
  refine qe_C.of (by decide +kernel) (Nat.le_of_ble_eq_true rfl) ?_
  show qe_J l G MX3_oddsFit 0 [(0, .int v0), (1, .int v1), (2, .int v2)] [] (qs_w s0 (qs_TC G)) (some (.int o.1)) (qs_w o.2 (qs_TC G))
  unfold g_X3_oddsFit at h
  refine qm_j_elim h (fun j33 ej33 h => ?_)
  have hj33 : ∀  (s1 : qe_S) (o : Int32 × qe_S), j33  s1 = some o → qe_J l G MX3_oddsFit 33 [] [] (qs_w s1 (qs_TC G)) (some (.int o.1)) (qs_w o.2 (qs_TC G)) := by
    intro  s1 o h
    subst ej33
    refine qe_iconst (v := (0 : Int32)) dX3_oddsFit_33 rfl ?_
    have e : ((0 : Int32), s1) = o := Option.some.inj h
    subst e
    exact qe_nret dX3_oddsFit_34 rfl rfl
  refine qe_iload_n dX3_oddsFit_0 2 rfl rfl ?_
  refine qe_iconst (v := (1 : Int32)) dX3_oddsFit_1 rfl ?_
  refine qe_icmp_lt (tgt := 33) dX3_oddsFit_2 rfl h (fun _ h => ?_) (fun _ h => ?_)
  · refine qe_sub [] rfl ?_
    exact hj33  _ _ h
  · refine qe_iload_n dX3_oddsFit_5 2 rfl rfl ?_
    refine qe_bipush (v := (nI 60)) dX3_oddsFit_6 rfl ?_
    refine qe_icmp_gt (tgt := 33) dX3_oddsFit_8 rfl h (fun _ h => ?_) (fun _ h => ?_)
    · refine qe_sub [] rfl ?_
      exact hj33  _ _ h
    · refine qm_j_elim h (fun j21 ej21 h => ?_)
      have hj21 : ∀ (q2 : Int32) (q3 : Int32) (s4 : qe_S) (o : Int32 × qe_S), j21 q2 q3 s4 = some o → qe_J l G MX3_oddsFit 21 [(1, .int v1), (2, .int v2)] [.int q2, .int q3] (qs_w s4 (qs_TC G)) (some (.int o.1)) (qs_w o.2 (qs_TC G)) := by
        intro q2 q3 s4 o h
        subst ej21
        refine qe_icmp_lt (tgt := 33) dX3_oddsFit_21 rfl h (fun _ h => ?_) (fun _ h => ?_)
        · refine qe_sub [] rfl ?_
          exact hj33  _ _ h
        · refine qe_iload_n dX3_oddsFit_24 0 rfl rfl ?_
          refine qe_iload_n dX3_oddsFit_25 1 rfl rfl ?_
          refine qe_icmp_gt (tgt := 33) dX3_oddsFit_26 rfl h (fun _ h => ?_) (fun _ h => ?_)
          · refine qe_sub [] rfl ?_
            exact hj33  _ _ h
          · refine qe_iconst (v := (1 : Int32)) dX3_oddsFit_29 rfl ?_
            refine qe_goto (tgt := 34) dX3_oddsFit_30 rfl ?_
            have e : ((1 : Int32), s4) = o := Option.some.inj h
            subst e
            exact qe_nret dX3_oddsFit_34 rfl rfl
      refine qe_iload_n dX3_oddsFit_11 1 rfl rfl ?_
      refine qe_iload_n dX3_oddsFit_12 0 rfl rfl ?_
      refine qe_if_ne (tgt := 20) dX3_oddsFit_13 rfl h (fun _ h => ?_) (fun _ h => ?_)
      · refine qe_iconst (v := (0 : Int32)) dX3_oddsFit_20 rfl ?_
        refine qe_sub [1, 2] rfl ?_
        exact hj21 _ _ _ _ h
      · refine qe_iconst (v := (1 : Int32)) dX3_oddsFit_16 rfl ?_
        refine qe_goto (tgt := 21) dX3_oddsFit_17 rfl ?_
        refine qe_sub [1, 2] rfl ?_
        exact hj21 _ _ _ _ h

set_option maxRecDepth 20000 in
theorem c_X3_stratumFits {l : Launch} {G : qe_G} {v0 : Int32} {s0 : qe_S} {o : Int32 × qe_S} (h : g_X3_stratumFits v0 s0 = some o) : qe_C l G MX3_stratumFits [.int v0] (qs_w s0 (qs_TC G)) (some (.int o.1)) (qs_w o.2 (qs_TC G)) := by
  refine qe_C.of (by decide +kernel) (Nat.le_of_ble_eq_true rfl) ?_
  show qe_J l G MX3_stratumFits 0 [(0, .int v0)] [] (qs_w s0 (qs_TC G)) (some (.int o.1)) (qs_w o.2 (qs_TC G))
  unfold g_X3_stratumFits at h
  refine qm_j_elim h (fun j13 ej13 h => ?_)
  have hj13 : ∀  (s1 : qe_S) (o : Int32 × qe_S), j13  s1 = some o → qe_J l G MX3_stratumFits 13 [] [] (qs_w s1 (qs_TC G)) (some (.int o.1)) (qs_w o.2 (qs_TC G)) := by
    intro  s1 o h
    subst ej13
    refine qe_iconst (v := (0 : Int32)) dX3_stratumFits_13 rfl ?_
    have e : ((0 : Int32), s1) = o := Option.some.inj h
    subst e
    exact qe_nret dX3_stratumFits_14 rfl rfl
  refine qe_iload_n dX3_stratumFits_0 0 rfl rfl ?_
  refine qe_if_lt (tgt := 13) dX3_stratumFits_1 rfl h (fun _ h => ?_) (fun _ h => ?_)
  · refine qe_sub [] rfl ?_
    exact hj13  _ _ h
  · refine qe_iload_n dX3_stratumFits_4 0 rfl rfl ?_
    refine qe_iconst (v := (nI 3)) dX3_stratumFits_5 rfl ?_
    refine qe_icmp_gt (tgt := 13) dX3_stratumFits_6 rfl h (fun _ h => ?_) (fun _ h => ?_)
    · refine qe_sub [] rfl ?_
      exact hj13  _ _ h
    · refine qe_iconst (v := (1 : Int32)) dX3_stratumFits_9 rfl ?_
      refine qe_goto (tgt := 14) dX3_stratumFits_10 rfl ?_
      have e : ((1 : Int32), s0) = o := Option.some.inj h
      subst e
      exact qe_nret dX3_stratumFits_14 rfl rfl

set_option maxRecDepth 20000 in
theorem c_X3_markFits {l : Launch} {G : qe_G} {v0 : Int32} {s0 : qe_S} {o : Int32 × qe_S} (h : g_X3_markFits v0 s0 = some o) : qe_C l G MX3_markFits [.int v0] (qs_w s0 (qs_TC G)) (some (.int o.1)) (qs_w o.2 (qs_TC G)) := by
  refine qe_C.of (by decide +kernel) (Nat.le_of_ble_eq_true rfl) ?_
  show qe_J l G MX3_markFits 0 [(0, .int v0)] [] (qs_w s0 (qs_TC G)) (some (.int o.1)) (qs_w o.2 (qs_TC G))
  unfold g_X3_markFits at h
  refine qm_j_elim h (fun j16 ej16 h => ?_)
  have hj16 : ∀  (s1 : qe_S) (o : Int32 × qe_S), j16  s1 = some o → qe_J l G MX3_markFits 16 [] [] (qs_w s1 (qs_TC G)) (some (.int o.1)) (qs_w o.2 (qs_TC G)) := by
    intro  s1 o h
    subst ej16
    refine qe_iconst (v := (0 : Int32)) dX3_markFits_16 rfl ?_
    have e : ((0 : Int32), s1) = o := Option.some.inj h
    subst e
    exact qe_nret dX3_markFits_17 rfl rfl
  refine qe_iload_n dX3_markFits_0 0 rfl rfl ?_
  refine qe_bipush (v := (-99 : Int32)) dX3_markFits_1 rfl ?_
  refine qe_icmp_lt (tgt := 16) dX3_markFits_3 rfl h (fun _ h => ?_) (fun _ h => ?_)
  · refine qe_sub [] rfl ?_
    exact hj16  _ _ h
  · refine qe_iload_n dX3_markFits_6 0 rfl rfl ?_
    refine qe_bipush (v := (nI 99)) dX3_markFits_7 rfl ?_
    refine qe_icmp_gt (tgt := 16) dX3_markFits_9 rfl h (fun _ h => ?_) (fun _ h => ?_)
    · refine qe_sub [] rfl ?_
      exact hj16  _ _ h
    · refine qe_iconst (v := (1 : Int32)) dX3_markFits_12 rfl ?_
      refine qe_goto (tgt := 17) dX3_markFits_13 rfl ?_
      have e : ((1 : Int32), s0) = o := Option.some.inj h
      subst e
      exact qe_nret dX3_markFits_17 rfl rfl

set_option maxRecDepth 20000 in
theorem c_X3_has {l : Launch} {G : qe_G} {v1 : Int32} {s0 : qe_S} {o : Int32 × qe_S} (h : g_X3_has v1 s0 = some o) : qe_C l G MX3_has [.ref 1, .int v1] (qs_w s0 (qs_TC G)) (some (.int o.1)) (qs_w o.2 (qs_TC G)) := by
  refine qe_C.of (by decide +kernel) (Nat.le_of_ble_eq_true rfl) ?_
  show qe_J l G MX3_has 0 [(0, .ref 1), (1, .int v1)] [] (qs_w s0 (qs_TC G)) (some (.int o.1)) (qs_w o.2 (qs_TC G))
  unfold g_X3_has at h
  refine qm_j_elim h (fun j16 ej16 h => ?_)
  have hj16 : ∀  (s1 : qe_S) (o : Int32 × qe_S), j16  s1 = some o → qe_J l G MX3_has 16 [] [] (qs_w s1 (qs_TC G)) (some (.int o.1)) (qs_w o.2 (qs_TC G)) := by
    intro  s1 o h
    subst ej16
    refine qe_iconst (v := (0 : Int32)) dX3_has_16 rfl ?_
    have e : ((0 : Int32), s1) = o := Option.some.inj h
    subst e
    exact qe_nret dX3_has_17 rfl rfl
  refine qe_iload_n dX3_has_0 1 rfl rfl ?_
  refine qe_if_lt (tgt := 16) dX3_has_1 rfl h (fun _ h => ?_) (fun _ h => ?_)
  · refine qe_sub [] rfl ?_
    exact hj16  _ _ h
  · refine qe_iload_n dX3_has_4 1 rfl rfl ?_
    refine qe_aload_n dX3_has_5 0 rfl rfl trivial ?_
    refine qs_getI (j := 0) tC_1 rfl fl_RX3_9 dX3_has_6 ?_
    refine qe_icmp_ge (tgt := 16) dX3_has_9 rfl h (fun _ h => ?_) (fun _ h => ?_)
    · refine qe_sub [] rfl ?_
      exact hj16  _ _ h
    · refine qe_iconst (v := (1 : Int32)) dX3_has_12 rfl ?_
      refine qe_goto (tgt := 17) dX3_has_13 rfl ?_
      have e : ((1 : Int32), s0) = o := Option.some.inj h
      subst e
      exact qe_nret dX3_has_17 rfl rfl

set_option maxRecDepth 20000 in
theorem c_X8_isRow {l : Launch} {G : qe_G} {v0 : Int32} {s0 : qe_S} {o : Int32 × qe_S} (h : g_X8_isRow v0 s0 = some o) : qe_C l G MX8_isRow [.int v0] (qs_w s0 (qs_TC G)) (some (.int o.1)) (qs_w o.2 (qs_TC G)) := by
  refine qe_C.of (by decide +kernel) (Nat.le_of_ble_eq_true rfl) ?_
  show qe_J l G MX8_isRow 0 [(0, .int v0)] [] (qs_w s0 (qs_TC G)) (some (.int o.1)) (qs_w o.2 (qs_TC G))
  unfold g_X8_isRow at h
  refine qm_j_elim h (fun j13 ej13 h => ?_)
  have hj13 : ∀  (s1 : qe_S) (o : Int32 × qe_S), j13  s1 = some o → qe_J l G MX8_isRow 13 [] [] (qs_w s1 (qs_TC G)) (some (.int o.1)) (qs_w o.2 (qs_TC G)) := by
    intro  s1 o h
    subst ej13
    refine qe_iconst (v := (0 : Int32)) dX8_isRow_13 rfl ?_
    have e : ((0 : Int32), s1) = o := Option.some.inj h
    subst e
    exact qe_nret dX8_isRow_14 rfl rfl
  refine qe_iload_n dX8_isRow_0 0 rfl rfl ?_
  refine qe_if_lt (tgt := 13) dX8_isRow_1 rfl h (fun _ h => ?_) (fun _ h => ?_)
  · refine qe_sub [] rfl ?_
    exact hj13  _ _ h
  · refine qe_iload_n dX8_isRow_4 0 rfl rfl ?_
    refine qe_iconst (v := (nI 3)) dX8_isRow_5 rfl ?_
    refine qe_icmp_ge (tgt := 13) dX8_isRow_6 rfl h (fun _ h => ?_) (fun _ h => ?_)
    · refine qe_sub [] rfl ?_
      exact hj13  _ _ h
    · refine qe_iconst (v := (1 : Int32)) dX8_isRow_9 rfl ?_
      refine qe_goto (tgt := 14) dX8_isRow_10 rfl ?_
      have e : ((1 : Int32), s0) = o := Option.some.inj h
      subst e
      exact qe_nret dX8_isRow_14 rfl rfl

set_option maxRecDepth 20000 in
theorem c_X3_putOdds {l : Launch} {G : qe_G} {v1 : Int32} {v2 : Int32} {v3 : Int32} {v4 : Int32} {s0 : qe_S} {o : qe_S} (h : g_X3_putOdds v1 v2 v3 v4 s0 = some o) : qe_C l G MX3_putOdds [.ref 1, .int v1, .int v2, .int v3, .int v4] (qs_w s0 (qs_TC G)) none (qs_w o (qs_TC G)) := by
  refine qe_C.of (by decide +kernel) (Nat.le_of_ble_eq_true rfl) ?_
  show qe_J l G MX3_putOdds 0 [(0, .ref 1), (1, .int v1), (2, .int v2), (3, .int v3), (4, .int v4)] [] (qs_w s0 (qs_TC G)) none (qs_w o (qs_TC G))
  unfold g_X3_putOdds at h
  refine qe_aload_n dX3_putOdds_0 0 rfl rfl trivial ?_
  refine qe_iload_n dX3_putOdds_1 1 rfl rfl ?_
  refine qm_b_elim h (fun a2 s1 hc h => ?_)
  refine qe_callV1 (st := []) kk_X3_putOdds_X3_has (c_X3_has hc) (qs_at tC_1) rfl rfl rfl (Nat.le_of_ble_eq_true rfl) dX3_putOdds_2 ?_
  refine qe_if_eq (tgt := 40) dX3_putOdds_5 rfl h (fun _ h => ?_) (fun _ h => ?_)
  · have e : s1 = o := Option.some.inj h
    subst e
    exact qe_vret dX3_putOdds_40 rfl
  · refine qe_iload_n dX3_putOdds_8 2 rfl rfl ?_
    refine qm_b_elim h (fun a4 s3 hc h => ?_)
    refine qe_callN1 (st := []) kk_X3_putOdds_X8_isRow (c_X8_isRow hc) rfl rfl (Nat.le_of_ble_eq_true rfl) dX3_putOdds_9 ?_
    refine qe_if_eq (tgt := 40) dX3_putOdds_12 rfl h (fun _ h => ?_) (fun _ h => ?_)
    · have e : s3 = o := Option.some.inj h
      subst e
      exact qe_vret dX3_putOdds_40 rfl
    · refine qe_aload_n dX3_putOdds_15 0 rfl rfl trivial ?_
      refine qs_getR (j := 7) tC_1 rfl fl_RX3_34 dX3_putOdds_16 ?_
      refine qe_iload_n dX3_putOdds_19 2 rfl rfl ?_
      refine qe_bipush (v := (nI 12)) dX3_putOdds_20 rfl ?_
      refine qe_imul dX3_putOdds_22 ?_
      refine qe_iload_n dX3_putOdds_23 1 rfl rfl ?_
      refine qe_iadd dX3_putOdds_24 ?_
      refine qe_iload_n dX3_putOdds_25 3 rfl rfl ?_
      refine qs_ist tC_6 dX3_putOdds_26 h (fun s5 h => ?_)
      refine qe_aload_n dX3_putOdds_27 0 rfl rfl trivial ?_
      refine qs_getR (j := 8) tC_1 rfl fl_RX3_37 dX3_putOdds_28 ?_
      refine qe_iload_n dX3_putOdds_31 2 rfl rfl ?_
      refine qe_bipush (v := (nI 12)) dX3_putOdds_32 rfl ?_
      refine qe_imul dX3_putOdds_34 ?_
      refine qe_iload_n dX3_putOdds_35 1 rfl rfl ?_
      refine qe_iadd dX3_putOdds_36 ?_
      refine qe_iload dX3_putOdds_37 4 rfl ?_
      refine qs_ist tC_7 dX3_putOdds_39 h (fun s6 h => ?_)
      have e : s6 = o := Option.some.inj h
      subst e
      exact qe_vret dX3_putOdds_40 rfl

set_option maxRecDepth 20000 in
theorem c_X3_above {l : Launch} {G : qe_G} {v1 : Int32} {v2 : Int32} {s0 : qe_S} {o : Int32 × qe_S} (h : g_X3_above v1 v2 s0 = some o) : qe_C l G MX3_above [.ref 1, .int v1, .int v2] (qs_w s0 (qs_TC G)) (some (.int o.1)) (qs_w o.2 (qs_TC G)) := by
  refine qe_C.of (by decide +kernel) (Nat.le_of_ble_eq_true rfl) ?_
  show qe_J l G MX3_above 0 [(0, .ref 1), (1, .int v1), (2, .int v2)] [] (qs_w s0 (qs_TC G)) (some (.int o.1)) (qs_w o.2 (qs_TC G))
  unfold g_X3_above at h
  refine qm_j_elim h (fun j26 ej26 h => ?_)
  have hj26 : ∀ (q1 : Int32) (s2 : qe_S) (o : Int32 × qe_S), j26 q1 s2 = some o → qe_J l G MX3_above 26 [(0, .ref 1), (1, .int v1), (2, .int v2)] [.int q1] (qs_w s2 (qs_TC G)) (some (.int o.1)) (qs_w o.2 (qs_TC G)) := by
    intro q1 s2 o h
    subst ej26
    refine qe_istore_n (lv' := [(3, .int q1), (0, .ref 1), (1, .int v1), (2, .int v2)]) dX3_above_26 rfl rfl (Nat.le_of_ble_eq_true rfl) ?_
    refine qe_iload_n dX3_above_27 0 rfl rfl ?_
    refine qe_if_eq (tgt := 45) dX3_above_28 rfl h (fun _ h => ?_) (fun _ h => ?_)
    · refine qe_iconst (v := (0 : Int32)) dX3_above_45 rfl ?_
      have e : ((0 : Int32), s2) = o := Option.some.inj h
      subst e
      exact qe_iret dX3_above_46 rfl
    · refine qe_aload_n dX3_above_31 1 rfl rfl trivial ?_
      refine qs_getR (j := 7) tC_1 rfl fl_RX3_34 dX3_above_32 ?_
      refine qe_iload_n dX3_above_35 3 rfl rfl ?_
      refine qe_bipush (v := (nI 12)) dX3_above_36 rfl ?_
      refine qe_imul dX3_above_38 ?_
      refine qe_iload_n dX3_above_39 2 rfl rfl ?_
      refine qe_iadd dX3_above_40 ?_
      refine qs_ild tC_6 dX3_above_41 h (fun a3 h => ?_)
      refine qe_goto (tgt := 46) dX3_above_42 rfl ?_
      have e : (a3, s2) = o := Option.some.inj h
      subst e
      exact qe_iret dX3_above_46 rfl
  refine qm_j_elim h (fun j25 ej25 h => ?_)
  have hj25 : ∀  (s4 : qe_S) (o : Int32 × qe_S), j25  s4 = some o → qe_J l G MX3_above 25 [(0, .ref 1), (1, .int v1), (2, .int v2)] [] (qs_w s4 (qs_TC G)) (some (.int o.1)) (qs_w o.2 (qs_TC G)) := by
    intro  s4 o h
    subst ej25
    refine qe_iconst (v := (0 : Int32)) dX3_above_25 rfl ?_
    exact hj26 _ _ _ h
  refine qe_iload_n dX3_above_0 1 rfl rfl ?_
  refine qe_if_lt (tgt := 25) dX3_above_1 rfl h (fun _ h => ?_) (fun _ h => ?_)
  · exact hj25  _ _ h
  · refine qe_iload_n dX3_above_4 1 rfl rfl ?_
    refine qe_aload_n dX3_above_5 0 rfl rfl trivial ?_
    refine qs_getI (j := 0) tC_1 rfl fl_RX3_9 dX3_above_6 ?_
    refine qe_icmp_ge (tgt := 25) dX3_above_9 rfl h (fun _ h => ?_) (fun _ h => ?_)
    · exact hj25  _ _ h
    · refine qe_iload_n dX3_above_12 2 rfl rfl ?_
      refine qe_if_lt (tgt := 25) dX3_above_13 rfl h (fun _ h => ?_) (fun _ h => ?_)
      · exact hj25  _ _ h
      · refine qe_iload_n dX3_above_16 2 rfl rfl ?_
        refine qe_iconst (v := (nI 3)) dX3_above_17 rfl ?_
        refine qe_icmp_ge (tgt := 25) dX3_above_18 rfl h (fun _ h => ?_) (fun _ h => ?_)
        · exact hj25  _ _ h
        · refine qe_iconst (v := (1 : Int32)) dX3_above_21 rfl ?_
          refine qe_goto (tgt := 26) dX3_above_22 rfl ?_
          exact hj26 _ _ _ h

set_option maxRecDepth 20000 in
theorem c_X3_below {l : Launch} {G : qe_G} {v1 : Int32} {v2 : Int32} {s0 : qe_S} {o : Int32 × qe_S} (h : g_X3_below v1 v2 s0 = some o) : qe_C l G MX3_below [.ref 1, .int v1, .int v2] (qs_w s0 (qs_TC G)) (some (.int o.1)) (qs_w o.2 (qs_TC G)) := by
  refine qe_C.of (by decide +kernel) (Nat.le_of_ble_eq_true rfl) ?_
  show qe_J l G MX3_below 0 [(0, .ref 1), (1, .int v1), (2, .int v2)] [] (qs_w s0 (qs_TC G)) (some (.int o.1)) (qs_w o.2 (qs_TC G))
  unfold g_X3_below at h
  refine qm_j_elim h (fun j26 ej26 h => ?_)
  have hj26 : ∀ (q1 : Int32) (s2 : qe_S) (o : Int32 × qe_S), j26 q1 s2 = some o → qe_J l G MX3_below 26 [(0, .ref 1), (1, .int v1), (2, .int v2)] [.int q1] (qs_w s2 (qs_TC G)) (some (.int o.1)) (qs_w o.2 (qs_TC G)) := by
    intro q1 s2 o h
    subst ej26
    refine qe_istore_n (lv' := [(3, .int q1), (0, .ref 1), (1, .int v1), (2, .int v2)]) dX3_below_26 rfl rfl (Nat.le_of_ble_eq_true rfl) ?_
    refine qe_iload_n dX3_below_27 0 rfl rfl ?_
    refine qe_if_eq (tgt := 45) dX3_below_28 rfl h (fun _ h => ?_) (fun _ h => ?_)
    · refine qe_iconst (v := (1 : Int32)) dX3_below_45 rfl ?_
      have e : ((1 : Int32), s2) = o := Option.some.inj h
      subst e
      exact qe_iret dX3_below_46 rfl
    · refine qe_aload_n dX3_below_31 1 rfl rfl trivial ?_
      refine qs_getR (j := 8) tC_1 rfl fl_RX3_37 dX3_below_32 ?_
      refine qe_iload_n dX3_below_35 3 rfl rfl ?_
      refine qe_bipush (v := (nI 12)) dX3_below_36 rfl ?_
      refine qe_imul dX3_below_38 ?_
      refine qe_iload_n dX3_below_39 2 rfl rfl ?_
      refine qe_iadd dX3_below_40 ?_
      refine qs_ild tC_7 dX3_below_41 h (fun a3 h => ?_)
      refine qe_goto (tgt := 46) dX3_below_42 rfl ?_
      have e : (a3, s2) = o := Option.some.inj h
      subst e
      exact qe_iret dX3_below_46 rfl
  refine qm_j_elim h (fun j25 ej25 h => ?_)
  have hj25 : ∀  (s4 : qe_S) (o : Int32 × qe_S), j25  s4 = some o → qe_J l G MX3_below 25 [(0, .ref 1), (1, .int v1), (2, .int v2)] [] (qs_w s4 (qs_TC G)) (some (.int o.1)) (qs_w o.2 (qs_TC G)) := by
    intro  s4 o h
    subst ej25
    refine qe_iconst (v := (0 : Int32)) dX3_below_25 rfl ?_
    exact hj26 _ _ _ h
  refine qe_iload_n dX3_below_0 1 rfl rfl ?_
  refine qe_if_lt (tgt := 25) dX3_below_1 rfl h (fun _ h => ?_) (fun _ h => ?_)
  · exact hj25  _ _ h
  · refine qe_iload_n dX3_below_4 1 rfl rfl ?_
    refine qe_aload_n dX3_below_5 0 rfl rfl trivial ?_
    refine qs_getI (j := 0) tC_1 rfl fl_RX3_9 dX3_below_6 ?_
    refine qe_icmp_ge (tgt := 25) dX3_below_9 rfl h (fun _ h => ?_) (fun _ h => ?_)
    · exact hj25  _ _ h
    · refine qe_iload_n dX3_below_12 2 rfl rfl ?_
      refine qe_if_lt (tgt := 25) dX3_below_13 rfl h (fun _ h => ?_) (fun _ h => ?_)
      · exact hj25  _ _ h
      · refine qe_iload_n dX3_below_16 2 rfl rfl ?_
        refine qe_iconst (v := (nI 3)) dX3_below_17 rfl ?_
        refine qe_icmp_ge (tgt := 25) dX3_below_18 rfl h (fun _ h => ?_) (fun _ h => ?_)
        · exact hj25  _ _ h
        · refine qe_iconst (v := (1 : Int32)) dX3_below_21 rfl ?_
          refine qe_goto (tgt := 26) dX3_below_22 rfl ?_
          exact hj26 _ _ _ h

set_option maxRecDepth 20000 in
theorem c_X3_standsAhead {l : Launch} {G : qe_G} {v1 : Int32} {v2 : Int32} {s0 : qe_S} {o : Int32 × qe_S} (h : g_X3_standsAhead v1 v2 s0 = some o) : qe_C l G MX3_standsAhead [.ref 1, .int v1, .int v2] (qs_w s0 (qs_TC G)) (some (.int o.1)) (qs_w o.2 (qs_TC G)) := by
  refine qe_C.of (by decide +kernel) (Nat.le_of_ble_eq_true rfl) ?_
  show qe_J l G MX3_standsAhead 0 [(0, .ref 1), (1, .int v1), (2, .int v2)] [] (qs_w s0 (qs_TC G)) (some (.int o.1)) (qs_w o.2 (qs_TC G))
  unfold g_X3_standsAhead at h
  refine qe_aload_n dX3_standsAhead_0 0 rfl rfl trivial ?_
  refine qe_iload_n dX3_standsAhead_1 1 rfl rfl ?_
  refine qm_b_elim h (fun a2 s1 hc h => ?_)
  refine qe_callV1 (st := []) kk_X3_standsAhead_X3_has (c_X3_has hc) (qs_at tC_1) rfl rfl rfl (Nat.le_of_ble_eq_true rfl) dX3_standsAhead_2 ?_
  refine qe_if_eq (tgt := 16) dX3_standsAhead_5 rfl h (fun _ h => ?_) (fun _ h => ?_)
  · refine qe_iconst (v := (0 : Int32)) dX3_standsAhead_16 rfl ?_
    have e : ((0 : Int32), s1) = o := Option.some.inj h
    subst e
    exact qe_nret dX3_standsAhead_17 rfl rfl
  · refine qe_aload_n dX3_standsAhead_8 0 rfl rfl trivial ?_
    refine qe_iload_n dX3_standsAhead_9 2 rfl rfl ?_
    refine qm_b_elim h (fun a4 s3 hc h => ?_)
    refine qe_callV1 (st := []) kk_X3_standsAhead_X3_has (c_X3_has hc) (qs_at tC_1) rfl rfl rfl (Nat.le_of_ble_eq_true rfl) dX3_standsAhead_10 ?_
    refine qe_if_ne (tgt := 18) dX3_standsAhead_13 rfl h (fun _ h => ?_) (fun _ h => ?_)
    · refine qe_aload_n dX3_standsAhead_18 0 rfl rfl trivial ?_
      refine qs_getR (j := 3) tC_1 rfl fl_RX3_21 dX3_standsAhead_19 ?_
      refine qe_iload_n dX3_standsAhead_22 1 rfl rfl ?_
      refine qs_ild tC_2 dX3_standsAhead_23 h (fun a5 h => ?_)
      refine qe_aload_n dX3_standsAhead_24 0 rfl rfl trivial ?_
      refine qs_getR (j := 3) tC_1 rfl fl_RX3_21 dX3_standsAhead_25 ?_
      refine qe_iload_n dX3_standsAhead_28 2 rfl rfl ?_
      refine qs_ild tC_2 dX3_standsAhead_29 h (fun a6 h => ?_)
      refine qe_isub dX3_standsAhead_30 ?_
      refine qe_let_i h (fun a7 h => ?_)
      refine qe_istore_n (lv' := [(3, .int a7), (0, .ref 1), (1, .int v1), (2, .int v2)]) dX3_standsAhead_31 rfl rfl (Nat.le_of_ble_eq_true rfl) ?_
      refine qe_aload_n dX3_standsAhead_32 1 rfl rfl trivial ?_
      refine qs_getR (j := 4) tC_1 rfl fl_RX3_25 dX3_standsAhead_33 ?_
      refine qe_iload_n dX3_standsAhead_36 2 rfl rfl ?_
      refine qs_ild tC_3 dX3_standsAhead_37 h (fun a8 h => ?_)
      refine qe_aload_n dX3_standsAhead_38 1 rfl rfl trivial ?_
      refine qs_getR (j := 4) tC_1 rfl fl_RX3_25 dX3_standsAhead_39 ?_
      refine qe_iload_n dX3_standsAhead_42 3 rfl rfl ?_
      refine qs_ild tC_3 dX3_standsAhead_43 h (fun a9 h => ?_)
      refine qe_isub dX3_standsAhead_44 ?_
      refine qe_let_i h (fun a10 h => ?_)
      refine qe_istore (lv' := [(4, .int a10), (3, .int a7), (0, .ref 1), (1, .int v1), (2, .int v2)]) dX3_standsAhead_45 rfl (Nat.le_of_ble_eq_true rfl) ?_
      refine qe_aload_n dX3_standsAhead_47 2 rfl rfl trivial ?_
      refine qs_getI (j := 2) tC_1 rfl fl_RX3_18 dX3_standsAhead_48 ?_
      refine qe_tsw_in (v := (1 : Int32)) (tgt := 80) dX3_standsAhead_51 (by decide) (by decide) rfl rfl h (fun h => ?_) (fun c0 h => ?_)
      · refine qe_aload_n dX3_standsAhead_80 2 rfl rfl trivial ?_
        refine qe_iload_n dX3_standsAhead_81 3 rfl rfl ?_
        refine qe_iconst (v := (0 : Int32)) dX3_standsAhead_82 rfl ?_
        refine qm_b_elim h (fun a12 s11 hc h => ?_)
        refine qe_callV1 (st := []) kk_X3_standsAhead_X3_above (c_X3_above hc) (qs_at tC_1) rfl rfl rfl (Nat.le_of_ble_eq_true rfl) dX3_standsAhead_83 ?_
        refine qe_aload_n dX3_standsAhead_86 2 rfl rfl trivial ?_
        refine qe_iload_n dX3_standsAhead_87 4 rfl rfl ?_
        refine qe_iconst (v := (0 : Int32)) dX3_standsAhead_88 rfl ?_
        refine qm_b_elim h (fun a14 s13 hc h => ?_)
        refine qe_callV1 (st := [.int a12]) kk_X3_standsAhead_X3_below (c_X3_below hc) (qs_at tC_1) rfl rfl rfl (Nat.le_of_ble_eq_true rfl) dX3_standsAhead_89 ?_
        refine qe_imul dX3_standsAhead_92 ?_
        refine qe_aload_n dX3_standsAhead_93 2 rfl rfl trivial ?_
        refine qe_iload_n dX3_standsAhead_94 4 rfl rfl ?_
        refine qe_iconst (v := (0 : Int32)) dX3_standsAhead_95 rfl ?_
        refine qm_b_elim h (fun a16 s15 hc h => ?_)
        refine qe_callV1 (st := [.int (a12 * a14)]) kk_X3_standsAhead_X3_above (c_X3_above hc) (qs_at tC_1) rfl rfl rfl (Nat.le_of_ble_eq_true rfl) dX3_standsAhead_96 ?_
        refine qe_aload_n dX3_standsAhead_99 2 rfl rfl trivial ?_
        refine qe_iload_n dX3_standsAhead_100 3 rfl rfl ?_
        refine qe_iconst (v := (0 : Int32)) dX3_standsAhead_101 rfl ?_
        refine qm_b_elim h (fun a18 s17 hc h => ?_)
        refine qe_callV1 (st := [.int a16, .int (a12 * a14)]) kk_X3_standsAhead_X3_below (c_X3_below hc) (qs_at tC_1) rfl rfl rfl (Nat.le_of_ble_eq_true rfl) dX3_standsAhead_102 ?_
        refine qe_imul dX3_standsAhead_105 ?_
        refine qe_icmp_le (tgt := 113) dX3_standsAhead_106 rfl h (fun _ h => ?_) (fun _ h => ?_)
        · refine qe_iconst (v := (0 : Int32)) dX3_standsAhead_113 rfl ?_
          have e : ((0 : Int32), s17) = o := Option.some.inj h
          subst e
          exact qe_nret dX3_standsAhead_114 rfl rfl
        · refine qe_iconst (v := (1 : Int32)) dX3_standsAhead_109 rfl ?_
          refine qe_goto (tgt := 114) dX3_standsAhead_110 rfl ?_
          have e : ((1 : Int32), s17) = o := Option.some.inj h
          subst e
          exact qe_nret dX3_standsAhead_114 rfl rfl
      refine qe_tsw_in (v := (nI 2)) (tgt := 115) dX3_standsAhead_51 (by decide) (by decide) rfl rfl h (fun h => ?_) (fun c1 h => ?_)
      · refine qe_iload_n dX3_standsAhead_115 1 rfl rfl ?_
        refine qe_if_ge (tgt := 123) dX3_standsAhead_116 rfl h (fun _ h => ?_) (fun _ h => ?_)
        · refine qe_iconst (v := (0 : Int32)) dX3_standsAhead_123 rfl ?_
          have e : ((0 : Int32), s3) = o := Option.some.inj h
          subst e
          exact qe_nret dX3_standsAhead_124 rfl rfl
        · refine qe_iconst (v := (1 : Int32)) dX3_standsAhead_119 rfl ?_
          refine qe_goto (tgt := 124) dX3_standsAhead_120 rfl ?_
          have e : ((1 : Int32), s3) = o := Option.some.inj h
          subst e
          exact qe_nret dX3_standsAhead_124 rfl rfl
      refine qe_tsw_in (v := (nI 3)) (tgt := 125) dX3_standsAhead_51 (by decide) (by decide) rfl rfl h (fun h => ?_) (fun c2 h => ?_)
      · refine qe_iload dX3_standsAhead_125 0 rfl ?_
        refine qe_if_ge (tgt := 134) dX3_standsAhead_127 rfl h (fun _ h => ?_) (fun _ h => ?_)
        · refine qe_iconst (v := (0 : Int32)) dX3_standsAhead_134 rfl ?_
          have e : ((0 : Int32), s3) = o := Option.some.inj h
          subst e
          exact qe_nret dX3_standsAhead_135 rfl rfl
        · refine qe_iconst (v := (1 : Int32)) dX3_standsAhead_130 rfl ?_
          refine qe_goto (tgt := 135) dX3_standsAhead_131 rfl ?_
          have e : ((1 : Int32), s3) = o := Option.some.inj h
          subst e
          exact qe_nret dX3_standsAhead_135 rfl rfl
      refine qe_tsw_in (v := (nI 4)) (tgt := 136) dX3_standsAhead_51 (by decide) (by decide) rfl rfl h (fun h => ?_) (fun c3 h => ?_)
      · refine qm_j_elim h (fun j168 ej168 h => ?_)
        have hj168 : ∀  (s19 : qe_S) (o : Int32 × qe_S), j168  s19 = some o → qe_J l G MX3_standsAhead 168 [] [] (qs_w s19 (qs_TC G)) (some (.int o.1)) (qs_w o.2 (qs_TC G)) := by
          intro  s19 o h
          subst ej168
          refine qe_iconst (v := (1 : Int32)) dX3_standsAhead_168 rfl ?_
          refine qe_goto (tgt := 173) dX3_standsAhead_169 rfl ?_
          have e : ((1 : Int32), s19) = o := Option.some.inj h
          subst e
          exact qe_nret dX3_standsAhead_173 rfl rfl
        refine qe_iload_n dX3_standsAhead_136 1 rfl rfl ?_
        refine qe_if_lt (tgt := 168) dX3_standsAhead_137 rfl h (fun _ h => ?_) (fun _ h => ?_)
        · refine qe_sub [] rfl ?_
          exact hj168  _ _ h
        · refine qm_j_elim h (fun j172 ej172 h => ?_)
          have hj172 : ∀  (s20 : qe_S) (o : Int32 × qe_S), j172  s20 = some o → qe_J l G MX3_standsAhead 172 [] [] (qs_w s20 (qs_TC G)) (some (.int o.1)) (qs_w o.2 (qs_TC G)) := by
            intro  s20 o h
            subst ej172
            refine qe_iconst (v := (0 : Int32)) dX3_standsAhead_172 rfl ?_
            have e : ((0 : Int32), s20) = o := Option.some.inj h
            subst e
            exact qe_nret dX3_standsAhead_173 rfl rfl
          refine qe_iload_n dX3_standsAhead_140 1 rfl rfl ?_
          refine qe_if_ne (tgt := 172) dX3_standsAhead_141 rfl h (fun _ h => ?_) (fun _ h => ?_)
          · refine qe_sub [] rfl ?_
            exact hj172  _ _ h
          · refine qe_aload_n dX3_standsAhead_144 2 rfl rfl trivial ?_
            refine qs_getR (j := 3) tC_1 rfl fl_RX3_21 dX3_standsAhead_145 ?_
            refine qe_iload_n dX3_standsAhead_148 3 rfl rfl ?_
            refine qs_ild tC_2 dX3_standsAhead_149 h (fun a21 h => ?_)
            refine qe_iconst (v := (nI 2)) dX3_standsAhead_150 rfl ?_
            refine qe_irem dX3_standsAhead_151 h (fun h => ?_)
            refine qe_if_ne (tgt := 163) dX3_standsAhead_152 rfl h (fun _ h => ?_) (fun _ h => ?_)
            · refine qe_iload dX3_standsAhead_163 0 rfl ?_
              refine qe_if_le (tgt := 172) dX3_standsAhead_165 rfl h (fun _ h => ?_) (fun _ h => ?_)
              · refine qe_sub [] rfl ?_
                exact hj172  _ _ h
              · refine qe_sub [] rfl ?_
                exact hj168  _ _ h
            · refine qe_iload dX3_standsAhead_155 0 rfl ?_
              refine qe_if_ge (tgt := 172) dX3_standsAhead_157 rfl h (fun _ h => ?_) (fun _ h => ?_)
              · refine qe_sub [] rfl ?_
                exact hj172  _ _ h
              · refine qe_goto (tgt := 168) dX3_standsAhead_160 rfl ?_
                refine qe_sub [] rfl ?_
                exact hj168  _ _ h
      refine qe_tsw_rest (tgt := 174) 4 dX3_standsAhead_51 (by decide) (by decide) (by decide) (fun i hi => match i, hi with | 0, _ => Or.inr c0 | 1, _ => Or.inr c1 | 2, _ => Or.inr c2 | 3, _ => Or.inr c3 | i + 4, hi => absurd hi (by omega)) rfl ?_
      refine qe_iconst (v := (0 : Int32)) dX3_standsAhead_174 rfl ?_
      have e : ((0 : Int32), s3) = o := Option.some.inj h
      subst e
      exact qe_nret dX3_standsAhead_175 rfl rfl
    · refine qe_iconst (v := (0 : Int32)) dX3_standsAhead_16 rfl ?_
      have e : ((0 : Int32), s3) = o := Option.some.inj h
      subst e
      exact qe_nret dX3_standsAhead_17 rfl rfl

set_option maxRecDepth 20000 in
theorem c_X3_arrange_L31 {l : Launch} {G : qe_G} {k71 : Int32 → qe_S → Option (qe_S)} {v1 : Int32} {v2 : Int32} (hk71 : ∀ (a4 : Int32) (s : qe_S) (o : qe_S), k71 a4 s = some o → qe_J l G MX3_arrange 71 [(0, .ref 1), (1, .int v1), (2, .int v2), (3, .int a4)] [] (qs_w s (qs_TC G)) none (qs_w o (qs_TC G))) : ∀ (n : Nat) (v3 : Int32) (s0 : qe_S) (o : qe_S), g_X3_arrange_L31 k71 v1 v2 n v3 s0 = some o → qe_J l G MX3_arrange 31 [(0, .ref 1), (1, .int v1), (2, .int v2), (3, .int v3)] [] (qs_w s0 (qs_TC G)) none (qs_w o (qs_TC G)) := by
  intro n
  induction n with
  | zero =>
    intro v3 s0 o h
    rw [g_X3_arrange_L31] at h
    cases h
  | succ n ih =>
    intro v3 s0 o h
    rw [g_X3_arrange_L31] at h
    refine qe_iload_n dX3_arrange_31 3 rfl rfl ?_
    refine qe_if_le (tgt := 71) dX3_arrange_32 rfl h (fun _ h => ?_) (fun _ h => ?_)
    · exact hk71 _ _ _ h
    · refine qe_aload_n dX3_arrange_35 0 rfl rfl trivial ?_
      refine qe_iload_n dX3_arrange_36 2 rfl rfl ?_
      refine qe_aload_n dX3_arrange_37 0 rfl rfl trivial ?_
      refine qs_getR (j := 6) tC_1 rfl fl_RX3_31 dX3_arrange_38 ?_
      refine qe_iload_n dX3_arrange_41 3 rfl rfl ?_
      refine qe_iconst (v := (1 : Int32)) dX3_arrange_42 rfl ?_
      refine qe_isub dX3_arrange_43 ?_
      refine qs_ild tC_5 dX3_arrange_44 h (fun a5 h => ?_)
      refine qm_b_elim h (fun a7 s6 hc h => ?_)
      refine qe_callV1 (st := []) kk_X3_arrange_X3_standsAhead (c_X3_standsAhead hc) (qs_at tC_1) rfl rfl rfl (Nat.le_of_ble_eq_true rfl) dX3_arrange_45 ?_
      refine qe_if_eq (tgt := 71) dX3_arrange_48 rfl h (fun _ h => ?_) (fun _ h => ?_)
      · exact hk71 _ _ _ h
      · refine qe_aload_n dX3_arrange_51 0 rfl rfl trivial ?_
        refine qs_getR (j := 6) tC_1 rfl fl_RX3_31 dX3_arrange_52 ?_
        refine qe_iload_n dX3_arrange_55 3 rfl rfl ?_
        refine qe_aload_n dX3_arrange_56 0 rfl rfl trivial ?_
        refine qs_getR (j := 6) tC_1 rfl fl_RX3_31 dX3_arrange_57 ?_
        refine qe_iload_n dX3_arrange_60 3 rfl rfl ?_
        refine qe_iconst (v := (1 : Int32)) dX3_arrange_61 rfl ?_
        refine qe_isub dX3_arrange_62 ?_
        refine qs_ild tC_5 dX3_arrange_63 h (fun a8 h => ?_)
        refine qs_ist tC_5 dX3_arrange_64 h (fun s9 h => ?_)
        refine qe_iincl (lv' := fun a10 => [(3, .int a10), (0, .ref 1), (1, .int v1), (2, .int v2)]) dX3_arrange_65 3 rfl rfl (fun _ => rfl) (Nat.le_of_ble_eq_true rfl) h (fun a10 h => ?_)
        refine qe_goto (tgt := 31) dX3_arrange_68 rfl ?_
        refine qe_sub [1, 2, 3, 0] rfl ?_
        exact ih _ _ _ h

set_option maxRecDepth 20000 in
theorem c_X3_arrange_L2 {l : Launch} {G : qe_G} : ∀ (n : Nat) (v1 : Int32) (s0 : qe_S) (o : qe_S), g_X3_arrange_L2 n v1 s0 = some o → qe_J l G MX3_arrange 2 [(0, .ref 1), (1, .int v1)] [] (qs_w s0 (qs_TC G)) none (qs_w o (qs_TC G)) := by
  intro n
  induction n with
  | zero =>
    intro v1 s0 o h
    rw [g_X3_arrange_L2] at h
    cases h
  | succ n ih =>
    intro v1 s0 o h
    rw [g_X3_arrange_L2] at h
    refine qe_iload_n dX3_arrange_2 1 rfl rfl ?_
    refine qe_aload_n dX3_arrange_3 0 rfl rfl trivial ?_
    refine qs_getI (j := 0) tC_1 rfl fl_RX3_9 dX3_arrange_4 ?_
    refine qe_icmp_ge (tgt := 84) dX3_arrange_7 rfl h (fun _ h => ?_) (fun _ h => ?_)
    · have e : s0 = o := Option.some.inj h
      subst e
      exact qe_vret dX3_arrange_84 rfl
    · refine qm_j_elim h (fun j28 ej28 h => ?_)
      have hj28 : ∀ (q2 : Int32) (s3 : qe_S) (o : qe_S), j28 q2 s3 = some o → qe_J l G MX3_arrange 28 [(0, .ref 1), (1, .int v1)] [.int q2] (qs_w s3 (qs_TC G)) none (qs_w o (qs_TC G)) := by
        intro q2 s3 o h
        subst ej28
        refine qe_istore_n (lv' := [(2, .int q2), (0, .ref 1), (1, .int v1)]) dX3_arrange_28 rfl rfl (Nat.le_of_ble_eq_true rfl) ?_
        refine qe_iload_n dX3_arrange_29 2 rfl rfl ?_
        refine qe_istore_n (lv' := [(3, .int v1), (2, .int q2), (0, .ref 1), (1, .int v1)]) dX3_arrange_30 rfl rfl (Nat.le_of_ble_eq_true rfl) ?_
        refine qe_sub [2, 3, 1, 0] rfl ?_
        refine c_X3_arrange_L31
          (fun a11 s12 o h => ?_) _ _ _ _ h
        refine qe_aload_n dX3_arrange_71 0 rfl rfl trivial ?_
        refine qs_getR (j := 6) tC_1 rfl fl_RX3_31 dX3_arrange_72 ?_
        refine qe_iload_n dX3_arrange_75 3 rfl rfl ?_
        refine qe_iload_n dX3_arrange_76 2 rfl rfl ?_
        refine qs_ist tC_5 dX3_arrange_77 h (fun s13 h => ?_)
        refine qe_iincl (lv' := fun a14 => [(1, .int a14), (0, .ref 1), (2, .int q2), (3, .int a11)]) dX3_arrange_78 1 rfl rfl (fun _ => rfl) (Nat.le_of_ble_eq_true rfl) h (fun a14 h => ?_)
        refine qe_goto (tgt := 2) dX3_arrange_81 rfl ?_
        refine qe_sub [1, 0] rfl ?_
        exact ih _ _ _ h
      refine qe_aload_n dX3_arrange_10 0 rfl rfl trivial ?_
      refine qs_getI (j := 2) tC_1 rfl fl_RX3_18 dX3_arrange_11 ?_
      refine qe_iconst (v := (nI 5)) dX3_arrange_14 rfl ?_
      refine qe_icmp_ne (tgt := 27) dX3_arrange_15 rfl h (fun _ h => ?_) (fun _ h => ?_)
      · refine qe_iload_n dX3_arrange_27 1 rfl rfl ?_
        exact hj28 _ _ _ h
      · refine qe_aload_n dX3_arrange_18 0 rfl rfl trivial ?_
        refine qs_getR (j := 5) tC_1 rfl fl_RX3_28 dX3_arrange_19 ?_
        refine qe_iload_n dX3_arrange_22 1 rfl rfl ?_
        refine qs_ild tC_4 dX3_arrange_23 h (fun a15 h => ?_)
        refine qe_goto (tgt := 28) dX3_arrange_24 rfl ?_
        exact hj28 _ _ _ h

set_option maxRecDepth 20000 in
theorem c_X3_arrange {l : Launch} {G : qe_G}  {s0 : qe_S} {o : qe_S} (h : g_X3_arrange  s0 = some o) : qe_C l G MX3_arrange [.ref 1] (qs_w s0 (qs_TC G)) none (qs_w o (qs_TC G)) := by
  refine qe_C.of (by decide +kernel) (Nat.le_of_ble_eq_true rfl) ?_
  show qe_J l G MX3_arrange 0 [(0, .ref 1)] [] (qs_w s0 (qs_TC G)) none (qs_w o (qs_TC G))
  unfold g_X3_arrange at h
  refine qe_iconst (v := (0 : Int32)) dX3_arrange_0 rfl ?_
  refine qe_let_i h (fun a1 h => ?_)
  refine qe_istore_n (lv' := [(1, .int a1), (0, .ref 1)]) dX3_arrange_1 rfl rfl (Nat.le_of_ble_eq_true rfl) ?_
  refine qe_sub [1, 0] rfl ?_
  refine c_X3_arrange_L2 _ _ _ _ h

set_option maxRecDepth 20000 in
theorem c_X3_admit {l : Launch} {G : qe_G} {v1 : Int32} {v2 : Int32} {v3 : Int32} {v4 : Int32} {s0 : qe_S} {o : Int32 × qe_S} (h : g_X3_admit v1 v2 v3 v4 s0 = some o) : qe_C l G MX3_admit [.ref 1, .int v1, .int v2, .int v3, .int v4] (qs_w s0 (qs_TC G)) (some (.int o.1)) (qs_w o.2 (qs_TC G)) := by
  refine qe_C.of (by decide +kernel) (Nat.le_of_ble_eq_true rfl) ?_
  show qe_J l G MX3_admit 0 [(0, .ref 1), (1, .int v1), (2, .int v2), (3, .int v3), (4, .int v4)] [] (qs_w s0 (qs_TC G)) (some (.int o.1)) (qs_w o.2 (qs_TC G))
  unfold g_X3_admit at h
  refine qe_iconst (v := (0 : Int32)) dX3_admit_0 rfl ?_
  refine qe_iload_n dX3_admit_1 1 rfl rfl ?_
  refine qe_iload_n dX3_admit_2 2 rfl rfl ?_
  refine qm_b_elim h (fun a2 s1 hc h => ?_)
  refine qe_callS1 (st := []) kk_X3_admit_X3_oddsFit (c_X3_oddsFit hc) rfl rfl (Nat.le_of_ble_eq_true rfl) dX3_admit_3 ?_
  refine qe_if_eq (tgt := 24) dX3_admit_6 rfl h (fun _ h => ?_) (fun _ h => ?_)
  · refine qe_bipush (v := (-2 : Int32)) dX3_admit_24 rfl ?_
    have e : ((-2 : Int32), s1) = o := Option.some.inj h
    subst e
    exact qe_iret dX3_admit_26 rfl
  · refine qe_iload_n dX3_admit_9 3 rfl rfl ?_
    refine qm_b_elim h (fun a4 s3 hc h => ?_)
    refine qe_callS1 (st := []) kk_X3_admit_X3_stratumFits (c_X3_stratumFits hc) rfl rfl (Nat.le_of_ble_eq_true rfl) dX3_admit_10 ?_
    refine qe_if_eq (tgt := 24) dX3_admit_13 rfl h (fun _ h => ?_) (fun _ h => ?_)
    · refine qe_bipush (v := (-2 : Int32)) dX3_admit_24 rfl ?_
      have e : ((-2 : Int32), s3) = o := Option.some.inj h
      subst e
      exact qe_iret dX3_admit_26 rfl
    · refine qe_iload dX3_admit_16 4 rfl ?_
      refine qm_b_elim h (fun a6 s5 hc h => ?_)
      refine qe_callS1 (st := []) kk_X3_admit_X3_markFits (c_X3_markFits hc) rfl rfl (Nat.le_of_ble_eq_true rfl) dX3_admit_18 ?_
      refine qe_if_ne (tgt := 27) dX3_admit_21 rfl h (fun _ h => ?_) (fun _ h => ?_)
      · refine qe_aload_n dX3_admit_27 0 rfl rfl trivial ?_
        refine qs_getI (j := 0) tC_1 rfl fl_RX3_9 dX3_admit_28 ?_
        refine qe_bipush (v := (nI 12)) dX3_admit_31 rfl ?_
        refine qe_icmp_lt (tgt := 39) dX3_admit_33 rfl h (fun _ h => ?_) (fun _ h => ?_)
        · refine qe_aload_n dX3_admit_39 0 rfl rfl trivial ?_
          refine qs_getI (j := 0) tC_1 rfl fl_RX3_9 dX3_admit_40 ?_
          refine qe_let_i h (fun a7 h => ?_)
          refine qe_istore (lv' := [(5, .int a7), (0, .ref 1), (1, .int v1), (2, .int v2), (3, .int v3), (4, .int v4)]) dX3_admit_43 rfl (Nat.le_of_ble_eq_true rfl) ?_
          refine qe_aload_n dX3_admit_45 1 rfl rfl trivial ?_
          refine qe_dup dX3_admit_46 rfl ?_
          refine qs_getI (j := 0) tC_1 rfl fl_RX3_9 dX3_admit_47 ?_
          refine qe_iconst (v := (1 : Int32)) dX3_admit_50 rfl ?_
          refine qe_iadd dX3_admit_51 ?_
          refine qs_putI (j := 0) tC_1 rfl fp_RX3_9 dX3_admit_52 h (fun s8 h => ?_)
          refine qe_aload_n dX3_admit_55 1 rfl rfl trivial ?_
          refine qe_iload dX3_admit_56 0 rfl ?_
          refine qe_iconst (v := (0 : Int32)) dX3_admit_58 rfl ?_
          refine qe_iload_n dX3_admit_59 2 rfl rfl ?_
          refine qe_iload_n dX3_admit_60 3 rfl rfl ?_
          refine qm_o_elim h (fun s9 hc h => ?_)
          refine qe_callV0 (st := []) kk_X3_admit_X3_putOdds (c_X3_putOdds hc) (qs_at tC_1) rfl rfl rfl (Nat.le_of_ble_eq_true rfl) dX3_admit_61 ?_
          refine qe_aload_n dX3_admit_64 1 rfl rfl trivial ?_
          refine qe_iload dX3_admit_65 0 rfl ?_
          refine qe_iconst (v := (1 : Int32)) dX3_admit_67 rfl ?_
          refine qe_iconst (v := (1 : Int32)) dX3_admit_68 rfl ?_
          refine qe_iconst (v := (1 : Int32)) dX3_admit_69 rfl ?_
          refine qm_o_elim h (fun s10 hc h => ?_)
          refine qe_callV0 (st := []) kk_X3_admit_X3_putOdds (c_X3_putOdds hc) (qs_at tC_1) rfl rfl rfl (Nat.le_of_ble_eq_true rfl) dX3_admit_70 ?_
          refine qe_aload_n dX3_admit_73 1 rfl rfl trivial ?_
          refine qe_iload dX3_admit_74 0 rfl ?_
          refine qe_iconst (v := (nI 2)) dX3_admit_76 rfl ?_
          refine qe_iconst (v := (1 : Int32)) dX3_admit_77 rfl ?_
          refine qe_iconst (v := (1 : Int32)) dX3_admit_78 rfl ?_
          refine qm_o_elim h (fun s11 hc h => ?_)
          refine qe_callV0 (st := []) kk_X3_admit_X3_putOdds (c_X3_putOdds hc) (qs_at tC_1) rfl rfl rfl (Nat.le_of_ble_eq_true rfl) dX3_admit_79 ?_
          refine qe_aload_n dX3_admit_82 1 rfl rfl trivial ?_
          refine qs_getR (j := 3) tC_1 rfl fl_RX3_21 dX3_admit_83 ?_
          refine qe_iload dX3_admit_86 0 rfl ?_
          refine qe_iload_n dX3_admit_88 4 rfl rfl ?_
          refine qs_ist tC_2 dX3_admit_89 h (fun s12 h => ?_)
          refine qe_aload_n dX3_admit_90 1 rfl rfl trivial ?_
          refine qs_getR (j := 4) tC_1 rfl fl_RX3_25 dX3_admit_91 ?_
          refine qe_iload dX3_admit_94 0 rfl ?_
          refine qe_iload dX3_admit_96 5 rfl ?_
          refine qs_ist tC_3 dX3_admit_98 h (fun s13 h => ?_)
          refine qe_aload_n dX3_admit_99 1 rfl rfl trivial ?_
          refine qs_getR (j := 5) tC_1 rfl fl_RX3_28 dX3_admit_100 ?_
          refine qe_iload dX3_admit_103 0 rfl ?_
          refine qe_iload dX3_admit_105 0 rfl ?_
          refine qs_ist tC_4 dX3_admit_107 h (fun s14 h => ?_)
          refine qe_aload_n dX3_admit_108 1 rfl rfl trivial ?_
          refine qm_o_elim h (fun s15 hc h => ?_)
          refine qe_callV0 (st := []) kk_X3_admit_X3_arrange (c_X3_arrange hc) (qs_at tC_1) rfl rfl rfl (Nat.le_of_ble_eq_true rfl) dX3_admit_109 ?_
          refine qe_iload dX3_admit_112 0 rfl ?_
          have e : (a7, s15) = o := Option.some.inj h
          subst e
          exact qe_iret dX3_admit_114 rfl
        · refine qe_bipush (v := (-4 : Int32)) dX3_admit_36 rfl ?_
          have e : ((-4 : Int32), s5) = o := Option.some.inj h
          subst e
          exact qe_iret dX3_admit_38 rfl
      · refine qe_bipush (v := (-2 : Int32)) dX3_admit_24 rfl ?_
        have e : ((-2 : Int32), s5) = o := Option.some.inj h
        subst e
        exact qe_iret dX3_admit_26 rfl

set_option maxRecDepth 20000 in
theorem c_X1_note {l : Launch} {G : qe_G} {v1 : Int32} {v2 : Int32} {v3 : Int32} {v4 : Int32} {s0 : qe_S} {o : qe_S} (h : g_X1_note v1 v2 v3 v4 s0 = some o) : qe_C l G MX1_note [.ref 40, .int v1, .int v2, .int v3, .int v4] (qs_w s0 (qs_TC G)) none (qs_w o (qs_TC G)) := by
  refine qe_C.of (by decide +kernel) (Nat.le_of_ble_eq_true rfl) ?_
  show qe_J l G MX1_note 0 [(0, .ref 40), (1, .int v1), (2, .int v2), (3, .int v3), (4, .int v4)] [] (qs_w s0 (qs_TC G)) none (qs_w o (qs_TC G))
  unfold g_X1_note at h
  refine qe_aload_n dX1_note_0 0 rfl rfl trivial ?_
  refine qe_iload_n dX1_note_1 1 rfl rfl ?_
  refine qs_putI (j := 0) tC_40 rfl fp_RX1_7 dX1_note_2 h (fun s1 h => ?_)
  refine qe_aload_n dX1_note_5 0 rfl rfl trivial ?_
  refine qe_iload_n dX1_note_6 2 rfl rfl ?_
  refine qs_putI (j := 1) tC_40 rfl fp_RX1_13 dX1_note_7 h (fun s2 h => ?_)
  refine qe_aload_n dX1_note_10 0 rfl rfl trivial ?_
  refine qe_iload_n dX1_note_11 3 rfl rfl ?_
  refine qs_putI (j := 2) tC_40 rfl fp_RX1_16 dX1_note_12 h (fun s3 h => ?_)
  refine qe_aload_n dX1_note_15 0 rfl rfl trivial ?_
  refine qe_iload dX1_note_16 4 rfl ?_
  refine qs_putI (j := 3) tC_40 rfl fp_RX1_19 dX1_note_18 h (fun s4 h => ?_)
  have e : s4 = o := Option.some.inj h
  subst e
  exact qe_vret dX1_note_21 rfl

set_option maxRecDepth 20000 in
theorem c_X8_refuse {l : Launch} {G : qe_G} {v1 : Int32} {s0 : qe_S} {o : Int32 × qe_S} (h : g_X8_refuse v1 s0 = some o) : qe_C l G MX8_refuse [.ref 0, .int v1] (qs_w s0 (qs_TC G)) (some (.int o.1)) (qs_w o.2 (qs_TC G)) := by
  refine qe_C.of (by decide +kernel) (Nat.le_of_ble_eq_true rfl) ?_
  show qe_J l G MX8_refuse 0 [(0, .ref 0), (1, .int v1)] [] (qs_w s0 (qs_TC G)) (some (.int o.1)) (qs_w o.2 (qs_TC G))
  unfold g_X8_refuse at h
  refine qe_iload_n dX8_refuse_0 1 rfl rfl ?_
  refine qe_bipush (v := (-7 : Int32)) dX8_refuse_1 rfl ?_
  refine qe_icmp_ne (tgt := 22) dX8_refuse_3 rfl h (fun _ h => ?_) (fun _ h => ?_)
  · refine qe_aload_n dX8_refuse_22 0 rfl rfl trivial ?_
    refine qs_getR (j := 12) tC_0 rfl fl_RX8_73 dX8_refuse_23 ?_
    refine qe_iload_n dX8_refuse_26 1 rfl rfl ?_
    refine qe_iconst (v := (0 : Int32)) dX8_refuse_27 rfl ?_
    refine qe_iconst (v := (0 : Int32)) dX8_refuse_28 rfl ?_
    refine qe_iconst (v := (0 : Int32)) dX8_refuse_29 rfl ?_
    refine qm_o_elim h (fun s1 hc h => ?_)
    refine qe_callV0 (st := []) kk_X8_refuse_X1_note (c_X1_note hc) (qs_at tC_40) rfl rfl rfl (Nat.le_of_ble_eq_true rfl) dX8_refuse_30 ?_
    refine qe_iload_n dX8_refuse_33 1 rfl rfl ?_
    have e : (v1, s1) = o := Option.some.inj h
    subst e
    exact qe_iret dX8_refuse_34 rfl
  · refine qe_aload_n dX8_refuse_6 0 rfl rfl trivial ?_
    refine qs_getR (j := 12) tC_0 rfl fl_RX8_73 dX8_refuse_7 ?_
    refine qe_iload_n dX8_refuse_10 1 rfl rfl ?_
    refine qe_iconst (v := (1 : Int32)) dX8_refuse_11 rfl ?_
    refine qe_bipush (v := (-9 : Int32)) dX8_refuse_12 rfl ?_
    refine qe_bipush (v := (-9 : Int32)) dX8_refuse_14 rfl ?_
    refine qm_o_elim h (fun s2 hc h => ?_)
    refine qe_callV0 (st := []) kk_X8_refuse_X1_note (c_X1_note hc) (qs_at tC_40) rfl rfl rfl (Nat.le_of_ble_eq_true rfl) dX8_refuse_16 ?_
    refine qe_goto (tgt := 33) dX8_refuse_19 rfl ?_
    refine qe_iload_n dX8_refuse_33 1 rfl rfl ?_
    have e : (v1, s2) = o := Option.some.inj h
    subst e
    exact qe_iret dX8_refuse_34 rfl

set_option maxRecDepth 20000 in
theorem c_X8_answered {l : Launch} {G : qe_G} {v1 : Int32} {s0 : qe_S} {o : Int32 × qe_S} (h : g_X8_answered v1 s0 = some o) : qe_C l G MX8_answered [.ref 0, .int v1] (qs_w s0 (qs_TC G)) (some (.int o.1)) (qs_w o.2 (qs_TC G)) := by
  refine qe_C.of (by decide +kernel) (Nat.le_of_ble_eq_true rfl) ?_
  show qe_J l G MX8_answered 0 [(0, .ref 0), (1, .int v1)] [] (qs_w s0 (qs_TC G)) (some (.int o.1)) (qs_w o.2 (qs_TC G))
  unfold g_X8_answered at h
  refine qe_iload_n dX8_answered_0 1 rfl rfl ?_
  refine qe_if_ge (tgt := 12) dX8_answered_1 rfl h (fun _ h => ?_) (fun _ h => ?_)
  · refine qe_iload_n dX8_answered_12 1 rfl rfl ?_
    have e : (v1, s0) = o := Option.some.inj h
    subst e
    exact qe_iret dX8_answered_13 rfl
  · refine qe_aload_n dX8_answered_4 0 rfl rfl trivial ?_
    refine qe_iload_n dX8_answered_5 1 rfl rfl ?_
    refine qm_b_elim h (fun a2 s1 hc h => ?_)
    refine qe_callV1 (st := []) kk_X8_answered_X8_refuse (c_X8_refuse hc) (qs_at tC_0) rfl rfl rfl (Nat.le_of_ble_eq_true rfl) dX8_answered_6 ?_
    refine qe_goto (tgt := 13) dX8_answered_9 rfl ?_
    have e : (a2, s1) = o := Option.some.inj h
    subst e
    exact qe_iret dX8_answered_13 rfl

set_option maxRecDepth 20000 in
theorem c_X8_unit {l : Launch} {G : qe_G} {v1 : Int32} {v2 : Int32} {v3 : Int32} {v4 : Int32} {s0 : qe_S} {o : Int32 × qe_S} (h : g_X8_unit v1 v2 v3 v4 s0 = some o) : qe_C l G MX8_unit [.ref 0, .int v1, .int v2, .int v3, .int v4] (qs_w s0 (qs_TC G)) (some (.int o.1)) (qs_w o.2 (qs_TC G)) := by
  refine qe_C.of (by decide +kernel) (Nat.le_of_ble_eq_true rfl) ?_
  show qe_J l G MX8_unit 0 [(0, .ref 0), (1, .int v1), (2, .int v2), (3, .int v3), (4, .int v4)] [] (qs_w s0 (qs_TC G)) (some (.int o.1)) (qs_w o.2 (qs_TC G))
  unfold g_X8_unit at h
  refine qe_aload_n dX8_unit_0 0 rfl rfl trivial ?_
  refine qe_aload_n dX8_unit_1 0 rfl rfl trivial ?_
  refine qs_getR (j := 0) tC_0 rfl fl_RX8_12 dX8_unit_2 ?_
  refine qe_iload_n dX8_unit_5 1 rfl rfl ?_
  refine qe_iload_n dX8_unit_6 2 rfl rfl ?_
  refine qe_iload_n dX8_unit_7 3 rfl rfl ?_
  refine qe_iload dX8_unit_8 4 rfl ?_
  refine qm_b_elim h (fun a2 s1 hc h => ?_)
  refine qe_callV1 (st := [.ref 0]) kk_X8_unit_X3_admit (c_X3_admit hc) (qs_at tC_1) rfl rfl rfl (Nat.le_of_ble_eq_true rfl) dX8_unit_10 ?_
  refine qm_b_elim h (fun a4 s3 hc h => ?_)
  refine qe_callV1 (st := []) kk_X8_unit_X8_answered (c_X8_answered hc) (qs_at tC_0) rfl rfl rfl (Nat.le_of_ble_eq_true rfl) dX8_unit_13 ?_
  have e : (a4, s3) = o := Option.some.inj h
  subst e
  exact qe_iret dX8_unit_16 rfl

set_option maxRecDepth 20000 in
theorem c_X3_changeOdds {l : Launch} {G : qe_G} {v1 : Int32} {v2 : Int32} {v3 : Int32} {v4 : Int32} {s0 : qe_S} {o : Int32 × qe_S} (h : g_X3_changeOdds v1 v2 v3 v4 s0 = some o) : qe_C l G MX3_changeOdds [.ref 1, .int v1, .int v2, .int v3, .int v4] (qs_w s0 (qs_TC G)) (some (.int o.1)) (qs_w o.2 (qs_TC G)) := by
  refine qe_C.of (by decide +kernel) (Nat.le_of_ble_eq_true rfl) ?_
  show qe_J l G MX3_changeOdds 0 [(0, .ref 1), (1, .int v1), (2, .int v2), (3, .int v3), (4, .int v4)] [] (qs_w s0 (qs_TC G)) (some (.int o.1)) (qs_w o.2 (qs_TC G))
  unfold g_X3_changeOdds at h
  refine qe_aload_n dX3_changeOdds_0 0 rfl rfl trivial ?_
  refine qe_iload_n dX3_changeOdds_1 1 rfl rfl ?_
  refine qm_b_elim h (fun a2 s1 hc h => ?_)
  refine qe_callV1 (st := []) kk_X3_changeOdds_X3_has (c_X3_has hc) (qs_at tC_1) rfl rfl rfl (Nat.le_of_ble_eq_true rfl) dX3_changeOdds_2 ?_
  refine qe_if_eq (tgt := 15) dX3_changeOdds_5 rfl h (fun _ h => ?_) (fun _ h => ?_)
  · refine qe_iconst (v := (-1 : Int32)) dX3_changeOdds_15 rfl ?_
    have e : ((-1 : Int32), s1) = o := Option.some.inj h
    subst e
    exact qe_iret dX3_changeOdds_16 rfl
  · refine qe_iload_n dX3_changeOdds_8 2 rfl rfl ?_
    refine qm_b_elim h (fun a4 s3 hc h => ?_)
    refine qe_callN1 (st := []) kk_X3_changeOdds_X8_isRow (c_X8_isRow hc) rfl rfl (Nat.le_of_ble_eq_true rfl) dX3_changeOdds_9 ?_
    refine qe_if_ne (tgt := 17) dX3_changeOdds_12 rfl h (fun _ h => ?_) (fun _ h => ?_)
    · refine qe_iload_n dX3_changeOdds_17 2 rfl rfl ?_
      refine qe_iload_n dX3_changeOdds_18 3 rfl rfl ?_
      refine qe_iload dX3_changeOdds_19 4 rfl ?_
      refine qm_b_elim h (fun a6 s5 hc h => ?_)
      refine qe_callS1 (st := []) kk_X3_changeOdds_X3_oddsFit (c_X3_oddsFit hc) rfl rfl (Nat.le_of_ble_eq_true rfl) dX3_changeOdds_21 ?_
      refine qe_if_ne (tgt := 30) dX3_changeOdds_24 rfl h (fun _ h => ?_) (fun _ h => ?_)
      · refine qe_bipush (v := (nI 100)) dX3_changeOdds_30 rfl ?_
        refine qe_aload_n dX3_changeOdds_32 0 rfl rfl trivial ?_
        refine qe_iload_n dX3_changeOdds_33 1 rfl rfl ?_
        refine qe_iload_n dX3_changeOdds_34 2 rfl rfl ?_
        refine qm_b_elim h (fun a8 s7 hc h => ?_)
        refine qe_callV1 (st := [.int (nI 100)]) kk_X3_changeOdds_X3_above (c_X3_above hc) (qs_at tC_1) rfl rfl rfl (Nat.le_of_ble_eq_true rfl) dX3_changeOdds_35 ?_
        refine qe_imul dX3_changeOdds_38 ?_
        refine qe_aload_n dX3_changeOdds_39 0 rfl rfl trivial ?_
        refine qe_iload_n dX3_changeOdds_40 1 rfl rfl ?_
        refine qe_iload_n dX3_changeOdds_41 2 rfl rfl ?_
        refine qm_b_elim h (fun a10 s9 hc h => ?_)
        refine qe_callV1 (st := [.int ((nI 100) * a8)]) kk_X3_changeOdds_X3_below (c_X3_below hc) (qs_at tC_1) rfl rfl rfl (Nat.le_of_ble_eq_true rfl) dX3_changeOdds_42 ?_
        refine qe_iadd dX3_changeOdds_45 ?_
        refine qe_let_i h (fun a11 h => ?_)
        refine qe_istore (lv' := [(5, .int a11), (0, .ref 1), (1, .int v1), (2, .int v2), (3, .int v3), (4, .int v4)]) dX3_changeOdds_46 rfl (Nat.le_of_ble_eq_true rfl) ?_
        refine qe_aload_n dX3_changeOdds_48 1 rfl rfl trivial ?_
        refine qe_iload_n dX3_changeOdds_49 2 rfl rfl ?_
        refine qe_iload_n dX3_changeOdds_50 3 rfl rfl ?_
        refine qe_iload_n dX3_changeOdds_51 4 rfl rfl ?_
        refine qe_iload dX3_changeOdds_52 5 rfl ?_
        refine qm_o_elim h (fun s12 hc h => ?_)
        refine qe_callV0 (st := []) kk_X3_changeOdds_X3_putOdds (c_X3_putOdds hc) (qs_at tC_1) rfl rfl rfl (Nat.le_of_ble_eq_true rfl) dX3_changeOdds_54 ?_
        refine qe_aload_n dX3_changeOdds_57 1 rfl rfl trivial ?_
        refine qm_o_elim h (fun s13 hc h => ?_)
        refine qe_callV0 (st := []) kk_X3_changeOdds_X3_arrange (c_X3_arrange hc) (qs_at tC_1) rfl rfl rfl (Nat.le_of_ble_eq_true rfl) dX3_changeOdds_58 ?_
        refine qe_iload dX3_changeOdds_61 0 rfl ?_
        have e : (a11, s13) = o := Option.some.inj h
        subst e
        exact qe_iret dX3_changeOdds_63 rfl
      · refine qe_bipush (v := (-2 : Int32)) dX3_changeOdds_27 rfl ?_
        have e : ((-2 : Int32), s5) = o := Option.some.inj h
        subst e
        exact qe_iret dX3_changeOdds_29 rfl
    · refine qe_iconst (v := (-1 : Int32)) dX3_changeOdds_15 rfl ?_
      have e : ((-1 : Int32), s3) = o := Option.some.inj h
      subst e
      exact qe_iret dX3_changeOdds_16 rfl

set_option maxRecDepth 20000 in
theorem c_X8_odds {l : Launch} {G : qe_G} {v1 : Int32} {v2 : Int32} {v3 : Int32} {v4 : Int32} {s0 : qe_S} {o : Int32 × qe_S} (h : g_X8_odds v1 v2 v3 v4 s0 = some o) : qe_C l G MX8_odds [.ref 0, .int v1, .int v2, .int v3, .int v4] (qs_w s0 (qs_TC G)) (some (.int o.1)) (qs_w o.2 (qs_TC G)) := by
  refine qe_C.of (by decide +kernel) (Nat.le_of_ble_eq_true rfl) ?_
  show qe_J l G MX8_odds 0 [(0, .ref 0), (1, .int v1), (2, .int v2), (3, .int v3), (4, .int v4)] [] (qs_w s0 (qs_TC G)) (some (.int o.1)) (qs_w o.2 (qs_TC G))
  unfold g_X8_odds at h
  refine qe_aload_n dX8_odds_0 0 rfl rfl trivial ?_
  refine qe_aload_n dX8_odds_1 0 rfl rfl trivial ?_
  refine qs_getR (j := 0) tC_0 rfl fl_RX8_12 dX8_odds_2 ?_
  refine qe_iload_n dX8_odds_5 1 rfl rfl ?_
  refine qe_iload_n dX8_odds_6 2 rfl rfl ?_
  refine qe_iload_n dX8_odds_7 3 rfl rfl ?_
  refine qe_iload dX8_odds_8 4 rfl ?_
  refine qm_b_elim h (fun a2 s1 hc h => ?_)
  refine qe_callV1 (st := [.ref 0]) kk_X8_odds_X3_changeOdds (c_X3_changeOdds hc) (qs_at tC_1) rfl rfl rfl (Nat.le_of_ble_eq_true rfl) dX8_odds_10 ?_
  refine qm_b_elim h (fun a4 s3 hc h => ?_)
  refine qe_callV1 (st := []) kk_X8_odds_X8_answered (c_X8_answered hc) (qs_at tC_0) rfl rfl rfl (Nat.le_of_ble_eq_true rfl) dX8_odds_13 ?_
  have e : (a4, s3) = o := Option.some.inj h
  subst e
  exact qe_iret dX8_odds_16 rfl

set_option maxRecDepth 20000 in
theorem c_X3_changeStratum {l : Launch} {G : qe_G} {v1 : Int32} {v2 : Int32} {s0 : qe_S} {o : Int32 × qe_S} (h : g_X3_changeStratum v1 v2 s0 = some o) : qe_C l G MX3_changeStratum [.ref 1, .int v1, .int v2] (qs_w s0 (qs_TC G)) (some (.int o.1)) (qs_w o.2 (qs_TC G)) := by
  refine qe_C.of (by decide +kernel) (Nat.le_of_ble_eq_true rfl) ?_
  show qe_J l G MX3_changeStratum 0 [(0, .ref 1), (1, .int v1), (2, .int v2)] [] (qs_w s0 (qs_TC G)) (some (.int o.1)) (qs_w o.2 (qs_TC G))
  unfold g_X3_changeStratum at h
  refine qe_aload_n dX3_changeStratum_0 0 rfl rfl trivial ?_
  refine qe_iload_n dX3_changeStratum_1 1 rfl rfl ?_
  refine qm_b_elim h (fun a2 s1 hc h => ?_)
  refine qe_callV1 (st := []) kk_X3_changeStratum_X3_has (c_X3_has hc) (qs_at tC_1) rfl rfl rfl (Nat.le_of_ble_eq_true rfl) dX3_changeStratum_2 ?_
  refine qe_if_ne (tgt := 10) dX3_changeStratum_5 rfl h (fun _ h => ?_) (fun _ h => ?_)
  · refine qe_iload_n dX3_changeStratum_10 2 rfl rfl ?_
    refine qm_b_elim h (fun a4 s3 hc h => ?_)
    refine qe_callS1 (st := []) kk_X3_changeStratum_X3_stratumFits (c_X3_stratumFits hc) rfl rfl (Nat.le_of_ble_eq_true rfl) dX3_changeStratum_11 ?_
    refine qe_if_ne (tgt := 20) dX3_changeStratum_14 rfl h (fun _ h => ?_) (fun _ h => ?_)
    · refine qe_aload_n dX3_changeStratum_20 0 rfl rfl trivial ?_
      refine qs_getR (j := 3) tC_1 rfl fl_RX3_21 dX3_changeStratum_21 ?_
      refine qe_iload_n dX3_changeStratum_24 1 rfl rfl ?_
      refine qs_ild tC_2 dX3_changeStratum_25 h (fun a5 h => ?_)
      refine qe_istore_n (lv' := [(3, .int a5), (0, .ref 1), (1, .int v1), (2, .int v2)]) dX3_changeStratum_26 rfl rfl (Nat.le_of_ble_eq_true rfl) ?_
      refine qe_aload_n dX3_changeStratum_27 1 rfl rfl trivial ?_
      refine qs_getR (j := 3) tC_1 rfl fl_RX3_21 dX3_changeStratum_28 ?_
      refine qe_iload_n dX3_changeStratum_31 2 rfl rfl ?_
      refine qe_iload_n dX3_changeStratum_32 3 rfl rfl ?_
      refine qs_ist tC_2 dX3_changeStratum_33 h (fun s6 h => ?_)
      refine qe_aload_n dX3_changeStratum_34 1 rfl rfl trivial ?_
      refine qm_o_elim h (fun s7 hc h => ?_)
      refine qe_callV0 (st := []) kk_X3_changeStratum_X3_arrange (c_X3_arrange hc) (qs_at tC_1) rfl rfl rfl (Nat.le_of_ble_eq_true rfl) dX3_changeStratum_35 ?_
      refine qe_iload_n dX3_changeStratum_38 0 rfl rfl ?_
      have e : (a5, s7) = o := Option.some.inj h
      subst e
      exact qe_iret dX3_changeStratum_39 rfl
    · refine qe_bipush (v := (-2 : Int32)) dX3_changeStratum_17 rfl ?_
      have e : ((-2 : Int32), s3) = o := Option.some.inj h
      subst e
      exact qe_iret dX3_changeStratum_19 rfl
  · refine qe_iconst (v := (-1 : Int32)) dX3_changeStratum_8 rfl ?_
    have e : ((-1 : Int32), s1) = o := Option.some.inj h
    subst e
    exact qe_iret dX3_changeStratum_9 rfl

set_option maxRecDepth 20000 in
theorem c_X8_isIn {l : Launch} {G : qe_G} {v0 : Int32} {v1 : Int32} {s0 : qe_S} {o : Int32 × qe_S} (h : g_X8_isIn v0 v1 s0 = some o) : qe_C l G MX8_isIn [.int v0, .int v1] (qs_w s0 (qs_TC G)) (some (.int o.1)) (qs_w o.2 (qs_TC G)) := by
  refine qe_C.of (by decide +kernel) (Nat.le_of_ble_eq_true rfl) ?_
  show qe_J l G MX8_isIn 0 [(0, .int v0), (1, .int v1)] [] (qs_w s0 (qs_TC G)) (some (.int o.1)) (qs_w o.2 (qs_TC G))
  unfold g_X8_isIn at h
  refine qe_iload_n dX8_isIn_0 0 rfl rfl ?_
  refine qe_iload_n dX8_isIn_1 1 rfl rfl ?_
  refine qe_ishr dX8_isIn_2 ?_
  refine qe_iconst (v := (1 : Int32)) dX8_isIn_3 rfl ?_
  refine qe_iand dX8_isIn_4 ?_
  refine qe_if_eq (tgt := 12) dX8_isIn_5 rfl h (fun _ h => ?_) (fun _ h => ?_)
  · refine qe_iconst (v := (0 : Int32)) dX8_isIn_12 rfl ?_
    have e : ((0 : Int32), s0) = o := Option.some.inj h
    subst e
    exact qe_nret dX8_isIn_13 rfl rfl
  · refine qe_iconst (v := (1 : Int32)) dX8_isIn_8 rfl ?_
    refine qe_goto (tgt := 13) dX8_isIn_9 rfl ?_
    have e : ((1 : Int32), s0) = o := Option.some.inj h
    subst e
    exact qe_nret dX8_isIn_13 rfl rfl

set_option maxRecDepth 20000 in
theorem c_X3_isRefusing {l : Launch} {G : qe_G} {v1 : Int32} {s0 : qe_S} {o : Int32 × qe_S} (h : g_X3_isRefusing v1 s0 = some o) : qe_C l G MX3_isRefusing [.ref 1, .int v1] (qs_w s0 (qs_TC G)) (some (.int o.1)) (qs_w o.2 (qs_TC G)) := by
  refine qe_C.of (by decide +kernel) (Nat.le_of_ble_eq_true rfl) ?_
  show qe_J l G MX3_isRefusing 0 [(0, .ref 1), (1, .int v1)] [] (qs_w s0 (qs_TC G)) (some (.int o.1)) (qs_w o.2 (qs_TC G))
  unfold g_X3_isRefusing at h
  refine qm_j_elim h (fun j23 ej23 h => ?_)
  have hj23 : ∀  (s1 : qe_S) (o : Int32 × qe_S), j23  s1 = some o → qe_J l G MX3_isRefusing 23 [] [] (qs_w s1 (qs_TC G)) (some (.int o.1)) (qs_w o.2 (qs_TC G)) := by
    intro  s1 o h
    subst ej23
    refine qe_iconst (v := (0 : Int32)) dX3_isRefusing_23 rfl ?_
    have e : ((0 : Int32), s1) = o := Option.some.inj h
    subst e
    exact qe_nret dX3_isRefusing_24 rfl rfl
  refine qe_aload_n dX3_isRefusing_0 0 rfl rfl trivial ?_
  refine qe_iload_n dX3_isRefusing_1 1 rfl rfl ?_
  refine qm_b_elim h (fun a3 s2 hc h => ?_)
  refine qe_callV1 (st := []) kk_X3_isRefusing_X3_has (c_X3_has hc) (qs_at tC_1) rfl rfl rfl (Nat.le_of_ble_eq_true rfl) dX3_isRefusing_2 ?_
  refine qe_if_eq (tgt := 23) dX3_isRefusing_5 rfl h (fun _ h => ?_) (fun _ h => ?_)
  · refine qe_sub [] rfl ?_
    exact hj23  _ _ h
  · refine qe_aload_n dX3_isRefusing_8 0 rfl rfl trivial ?_
    refine qs_getI (j := 1) tC_1 rfl fl_RX3_15 dX3_isRefusing_9 ?_
    refine qe_iload_n dX3_isRefusing_12 1 rfl rfl ?_
    refine qm_b_elim h (fun a5 s4 hc h => ?_)
    refine qe_callN1 (st := []) kk_X3_isRefusing_X8_isIn (c_X8_isIn hc) rfl rfl (Nat.le_of_ble_eq_true rfl) dX3_isRefusing_13 ?_
    refine qe_if_eq (tgt := 23) dX3_isRefusing_16 rfl h (fun _ h => ?_) (fun _ h => ?_)
    · refine qe_sub [] rfl ?_
      exact hj23  _ _ h
    · refine qe_iconst (v := (1 : Int32)) dX3_isRefusing_19 rfl ?_
      refine qe_goto (tgt := 24) dX3_isRefusing_20 rfl ?_
      have e : ((1 : Int32), s4) = o := Option.some.inj h
      subst e
      exact qe_nret dX3_isRefusing_24 rfl rfl

set_option maxRecDepth 20000 in
theorem c_X3_changeRefusing {l : Launch} {G : qe_G} {v1 : Int32} {v2 : Int32} {s0 : qe_S} {o : Int32 × qe_S} (h : g_X3_changeRefusing v1 v2 s0 = some o) : qe_C l G MX3_changeRefusing [.ref 1, .int v1, .int v2] (qs_w s0 (qs_TC G)) (some (.int o.1)) (qs_w o.2 (qs_TC G)) := by
  refine qe_C.of (by decide +kernel) (Nat.le_of_ble_eq_true rfl) ?_
  show qe_J l G MX3_changeRefusing 0 [(0, .ref 1), (1, .int v1), (2, .int v2)] [] (qs_w s0 (qs_TC G)) (some (.int o.1)) (qs_w o.2 (qs_TC G))
  unfold g_X3_changeRefusing at h
  refine qe_aload_n dX3_changeRefusing_0 0 rfl rfl trivial ?_
  refine qe_iload_n dX3_changeRefusing_1 1 rfl rfl ?_
  refine qm_b_elim h (fun a2 s1 hc h => ?_)
  refine qe_callV1 (st := []) kk_X3_changeRefusing_X3_has (c_X3_has hc) (qs_at tC_1) rfl rfl rfl (Nat.le_of_ble_eq_true rfl) dX3_changeRefusing_2 ?_
  refine qe_if_ne (tgt := 10) dX3_changeRefusing_5 rfl h (fun _ h => ?_) (fun _ h => ?_)
  · refine qe_iload_n dX3_changeRefusing_10 2 rfl rfl ?_
    refine qe_if_lt (tgt := 19) dX3_changeRefusing_11 rfl h (fun _ h => ?_) (fun _ h => ?_)
    · refine qe_bipush (v := (-2 : Int32)) dX3_changeRefusing_19 rfl ?_
      have e : ((-2 : Int32), s1) = o := Option.some.inj h
      subst e
      exact qe_iret dX3_changeRefusing_21 rfl
    · refine qe_iload_n dX3_changeRefusing_14 2 rfl rfl ?_
      refine qe_iconst (v := (1 : Int32)) dX3_changeRefusing_15 rfl ?_
      refine qe_icmp_le (tgt := 22) dX3_changeRefusing_16 rfl h (fun _ h => ?_) (fun _ h => ?_)
      · refine qm_j_elim h (fun j35 ej35 h => ?_)
        have hj35 : ∀ (q3 : Int32) (s4 : qe_S) (o : Int32 × qe_S), j35 q3 s4 = some o → qe_J l G MX3_changeRefusing 35 [(0, .ref 1), (1, .int v1), (2, .int v2)] [.int q3] (qs_w s4 (qs_TC G)) (some (.int o.1)) (qs_w o.2 (qs_TC G)) := by
          intro q3 s4 o h
          subst ej35
          refine qe_istore_n (lv' := [(3, .int q3), (0, .ref 1), (1, .int v1), (2, .int v2)]) dX3_changeRefusing_35 rfl rfl (Nat.le_of_ble_eq_true rfl) ?_
          refine qe_aload_n dX3_changeRefusing_36 1 rfl rfl trivial ?_
          refine qe_aload_n dX3_changeRefusing_37 1 rfl rfl trivial ?_
          refine qs_getI (j := 1) tC_1 rfl fl_RX3_15 dX3_changeRefusing_38 ?_
          refine qe_iconst (v := (1 : Int32)) dX3_changeRefusing_41 rfl ?_
          refine qe_iload_n dX3_changeRefusing_42 2 rfl rfl ?_
          refine qe_ishl dX3_changeRefusing_43 ?_
          refine qe_iconst (v := (-1 : Int32)) dX3_changeRefusing_44 rfl ?_
          refine qe_ixor dX3_changeRefusing_45 ?_
          refine qe_iand dX3_changeRefusing_46 ?_
          refine qe_iload_n dX3_changeRefusing_47 3 rfl rfl ?_
          refine qe_iload_n dX3_changeRefusing_48 2 rfl rfl ?_
          refine qe_ishl dX3_changeRefusing_49 ?_
          refine qe_ior dX3_changeRefusing_50 ?_
          refine qs_putI (j := 1) tC_1 rfl fp_RX3_15 dX3_changeRefusing_51 h (fun s5 h => ?_)
          refine qe_iload_n dX3_changeRefusing_54 0 rfl rfl ?_
          have e : (q3, s5) = o := Option.some.inj h
          subst e
          exact qe_iret dX3_changeRefusing_55 rfl
        refine qe_aload_n dX3_changeRefusing_22 0 rfl rfl trivial ?_
        refine qe_iload_n dX3_changeRefusing_23 1 rfl rfl ?_
        refine qm_b_elim h (fun a7 s6 hc h => ?_)
        refine qe_callV1 (st := []) kk_X3_changeRefusing_X3_isRefusing (c_X3_isRefusing hc) (qs_at tC_1) rfl rfl rfl (Nat.le_of_ble_eq_true rfl) dX3_changeRefusing_24 ?_
        refine qe_if_eq (tgt := 34) dX3_changeRefusing_27 rfl h (fun _ h => ?_) (fun _ h => ?_)
        · refine qe_iconst (v := (0 : Int32)) dX3_changeRefusing_34 rfl ?_
          exact hj35 _ _ _ h
        · refine qe_iconst (v := (1 : Int32)) dX3_changeRefusing_30 rfl ?_
          refine qe_goto (tgt := 35) dX3_changeRefusing_31 rfl ?_
          exact hj35 _ _ _ h
      · refine qe_bipush (v := (-2 : Int32)) dX3_changeRefusing_19 rfl ?_
        have e : ((-2 : Int32), s1) = o := Option.some.inj h
        subst e
        exact qe_iret dX3_changeRefusing_21 rfl
  · refine qe_iconst (v := (-1 : Int32)) dX3_changeRefusing_8 rfl ?_
    have e : ((-1 : Int32), s1) = o := Option.some.inj h
    subst e
    exact qe_iret dX3_changeRefusing_9 rfl

set_option maxRecDepth 20000 in
theorem c_X8_set {l : Launch} {G : qe_G} {v1 : Int32} {v2 : Int32} {v3 : Int32} {s0 : qe_S} {o : Int32 × qe_S} (h : g_X8_set v1 v2 v3 s0 = some o) : qe_C l G MX8_set [.ref 0, .int v1, .int v2, .int v3] (qs_w s0 (qs_TC G)) (some (.int o.1)) (qs_w o.2 (qs_TC G)) := by
  refine qe_C.of (by decide +kernel) (Nat.le_of_ble_eq_true rfl) ?_
  show qe_J l G MX8_set 0 [(0, .ref 0), (1, .int v1), (2, .int v2), (3, .int v3)] [] (qs_w s0 (qs_TC G)) (some (.int o.1)) (qs_w o.2 (qs_TC G))
  unfold g_X8_set at h
  refine qe_aload_n dX8_set_0 0 rfl rfl trivial ?_
  refine qs_getR (j := 0) tC_0 rfl fl_RX8_12 dX8_set_1 ?_
  refine qe_iload_n dX8_set_4 1 rfl rfl ?_
  refine qm_b_elim h (fun a2 s1 hc h => ?_)
  refine qe_callV1 (st := []) kk_X8_set_X3_has (c_X3_has hc) (qs_at tC_1) rfl rfl rfl (Nat.le_of_ble_eq_true rfl) dX8_set_5 ?_
  refine qe_if_eq (tgt := 20) dX8_set_8 rfl h (fun _ h => ?_) (fun _ h => ?_)
  · refine qe_aload_n dX8_set_20 0 rfl rfl trivial ?_
    refine qe_iconst (v := (-1 : Int32)) dX8_set_21 rfl ?_
    refine qm_b_elim h (fun a4 s3 hc h => ?_)
    refine qe_callV1 (st := []) kk_X8_set_X8_refuse (c_X8_refuse hc) (qs_at tC_0) rfl rfl rfl (Nat.le_of_ble_eq_true rfl) dX8_set_22 ?_
    have e : (a4, s3) = o := Option.some.inj h
    subst e
    exact qe_iret dX8_set_25 rfl
  · refine qe_iload_n dX8_set_11 2 rfl rfl ?_
    refine qe_if_lt (tgt := 20) dX8_set_12 rfl h (fun _ h => ?_) (fun _ h => ?_)
    · refine qe_aload_n dX8_set_20 0 rfl rfl trivial ?_
      refine qe_iconst (v := (-1 : Int32)) dX8_set_21 rfl ?_
      refine qm_b_elim h (fun a6 s5 hc h => ?_)
      refine qe_callV1 (st := []) kk_X8_set_X8_refuse (c_X8_refuse hc) (qs_at tC_0) rfl rfl rfl (Nat.le_of_ble_eq_true rfl) dX8_set_22 ?_
      have e : (a6, s5) = o := Option.some.inj h
      subst e
      exact qe_iret dX8_set_25 rfl
    · refine qe_iload_n dX8_set_15 2 rfl rfl ?_
      refine qe_iconst (v := (1 : Int32)) dX8_set_16 rfl ?_
      refine qe_icmp_le (tgt := 26) dX8_set_17 rfl h (fun _ h => ?_) (fun _ h => ?_)
      · refine qe_aload_n dX8_set_26 0 rfl rfl trivial ?_
        refine qe_iload_n dX8_set_27 2 rfl rfl ?_
        refine qe_if_ne (tgt := 43) dX8_set_28 rfl h (fun _ h => ?_) (fun _ h => ?_)
        · refine qe_aload_n dX8_set_43 0 rfl rfl trivial ?_
          refine qs_getR (j := 0) tC_0 rfl fl_RX8_12 dX8_set_44 ?_
          refine qe_iload_n dX8_set_47 1 rfl rfl ?_
          refine qe_iload_n dX8_set_48 3 rfl rfl ?_
          refine qm_b_elim h (fun a8 s7 hc h => ?_)
          refine qe_callV1 (st := [.ref 0]) kk_X8_set_X3_changeRefusing (c_X3_changeRefusing hc) (qs_at tC_1) rfl rfl rfl (Nat.le_of_ble_eq_true rfl) dX8_set_49 ?_
          refine qm_b_elim h (fun a10 s9 hc h => ?_)
          refine qe_callV1 (st := []) kk_X8_set_X8_answered (c_X8_answered hc) (qs_at tC_0) rfl rfl rfl (Nat.le_of_ble_eq_true rfl) dX8_set_52 ?_
          have e : (a10, s9) = o := Option.some.inj h
          subst e
          exact qe_iret dX8_set_55 rfl
        · refine qe_aload_n dX8_set_31 0 rfl rfl trivial ?_
          refine qs_getR (j := 0) tC_0 rfl fl_RX8_12 dX8_set_32 ?_
          refine qe_iload_n dX8_set_35 1 rfl rfl ?_
          refine qe_iload_n dX8_set_36 3 rfl rfl ?_
          refine qm_b_elim h (fun a12 s11 hc h => ?_)
          refine qe_callV1 (st := [.ref 0]) kk_X8_set_X3_changeStratum (c_X3_changeStratum hc) (qs_at tC_1) rfl rfl rfl (Nat.le_of_ble_eq_true rfl) dX8_set_37 ?_
          refine qe_goto (tgt := 52) dX8_set_40 rfl ?_
          refine qm_b_elim h (fun a14 s13 hc h => ?_)
          refine qe_callV1 (st := []) kk_X8_set_X8_answered (c_X8_answered hc) (qs_at tC_0) rfl rfl rfl (Nat.le_of_ble_eq_true rfl) dX8_set_52 ?_
          have e : (a14, s13) = o := Option.some.inj h
          subst e
          exact qe_iret dX8_set_55 rfl
      · refine qe_aload_n dX8_set_20 0 rfl rfl trivial ?_
        refine qe_iconst (v := (-1 : Int32)) dX8_set_21 rfl ?_
        refine qm_b_elim h (fun a16 s15 hc h => ?_)
        refine qe_callV1 (st := []) kk_X8_set_X8_refuse (c_X8_refuse hc) (qs_at tC_0) rfl rfl rfl (Nat.le_of_ble_eq_true rfl) dX8_set_22 ?_
        have e : (a16, s15) = o := Option.some.inj h
        subst e
        exact qe_iret dX8_set_25 rfl

set_option maxRecDepth 20000 in
theorem c_X3_changeMark {l : Launch} {G : qe_G} {v1 : Int32} {v2 : Int32} {s0 : qe_S} {o : Int32 × qe_S} (h : g_X3_changeMark v1 v2 s0 = some o) : qe_C l G MX3_changeMark [.ref 1, .int v1, .int v2] (qs_w s0 (qs_TC G)) (some (.int o.1)) (qs_w o.2 (qs_TC G)) := by
  refine qe_C.of (by decide +kernel) (Nat.le_of_ble_eq_true rfl) ?_
  show qe_J l G MX3_changeMark 0 [(0, .ref 1), (1, .int v1), (2, .int v2)] [] (qs_w s0 (qs_TC G)) (some (.int o.1)) (qs_w o.2 (qs_TC G))
  unfold g_X3_changeMark at h
  refine qe_aload_n dX3_changeMark_0 0 rfl rfl trivial ?_
  refine qe_iload_n dX3_changeMark_1 1 rfl rfl ?_
  refine qm_b_elim h (fun a2 s1 hc h => ?_)
  refine qe_callV1 (st := []) kk_X3_changeMark_X3_has (c_X3_has hc) (qs_at tC_1) rfl rfl rfl (Nat.le_of_ble_eq_true rfl) dX3_changeMark_2 ?_
  refine qe_if_ne (tgt := 10) dX3_changeMark_5 rfl h (fun _ h => ?_) (fun _ h => ?_)
  · refine qe_iload_n dX3_changeMark_10 2 rfl rfl ?_
    refine qm_b_elim h (fun a4 s3 hc h => ?_)
    refine qe_callS1 (st := []) kk_X3_changeMark_X3_markFits (c_X3_markFits hc) rfl rfl (Nat.le_of_ble_eq_true rfl) dX3_changeMark_11 ?_
    refine qe_if_ne (tgt := 20) dX3_changeMark_14 rfl h (fun _ h => ?_) (fun _ h => ?_)
    · refine qe_aload_n dX3_changeMark_20 0 rfl rfl trivial ?_
      refine qs_getR (j := 4) tC_1 rfl fl_RX3_25 dX3_changeMark_21 ?_
      refine qe_iload_n dX3_changeMark_24 1 rfl rfl ?_
      refine qe_iload_n dX3_changeMark_25 2 rfl rfl ?_
      refine qs_ist tC_3 dX3_changeMark_26 h (fun s5 h => ?_)
      refine qe_aload_n dX3_changeMark_27 0 rfl rfl trivial ?_
      refine qm_o_elim h (fun s6 hc h => ?_)
      refine qe_callV0 (st := []) kk_X3_changeMark_X3_arrange (c_X3_arrange hc) (qs_at tC_1) rfl rfl rfl (Nat.le_of_ble_eq_true rfl) dX3_changeMark_28 ?_
      refine qe_iconst (v := (1 : Int32)) dX3_changeMark_31 rfl ?_
      have e : ((1 : Int32), s6) = o := Option.some.inj h
      subst e
      exact qe_iret dX3_changeMark_32 rfl
    · refine qe_bipush (v := (-2 : Int32)) dX3_changeMark_17 rfl ?_
      have e : ((-2 : Int32), s3) = o := Option.some.inj h
      subst e
      exact qe_iret dX3_changeMark_19 rfl
  · refine qe_iconst (v := (-1 : Int32)) dX3_changeMark_8 rfl ?_
    have e : ((-1 : Int32), s1) = o := Option.some.inj h
    subst e
    exact qe_iret dX3_changeMark_9 rfl

set_option maxRecDepth 20000 in
theorem c_X8_mark {l : Launch} {G : qe_G} {v1 : Int32} {v2 : Int32} {s0 : qe_S} {o : Int32 × qe_S} (h : g_X8_mark v1 v2 s0 = some o) : qe_C l G MX8_mark [.ref 0, .int v1, .int v2] (qs_w s0 (qs_TC G)) (some (.int o.1)) (qs_w o.2 (qs_TC G)) := by
  refine qe_C.of (by decide +kernel) (Nat.le_of_ble_eq_true rfl) ?_
  show qe_J l G MX8_mark 0 [(0, .ref 0), (1, .int v1), (2, .int v2)] [] (qs_w s0 (qs_TC G)) (some (.int o.1)) (qs_w o.2 (qs_TC G))
  unfold g_X8_mark at h
  refine qe_aload_n dX8_mark_0 0 rfl rfl trivial ?_
  refine qe_aload_n dX8_mark_1 0 rfl rfl trivial ?_
  refine qs_getR (j := 0) tC_0 rfl fl_RX8_12 dX8_mark_2 ?_
  refine qe_iload_n dX8_mark_5 1 rfl rfl ?_
  refine qe_iload_n dX8_mark_6 2 rfl rfl ?_
  refine qm_b_elim h (fun a2 s1 hc h => ?_)
  refine qe_callV1 (st := [.ref 0]) kk_X8_mark_X3_changeMark (c_X3_changeMark hc) (qs_at tC_1) rfl rfl rfl (Nat.le_of_ble_eq_true rfl) dX8_mark_7 ?_
  refine qm_b_elim h (fun a4 s3 hc h => ?_)
  refine qe_callV1 (st := []) kk_X8_mark_X8_answered (c_X8_answered hc) (qs_at tC_0) rfl rfl rfl (Nat.le_of_ble_eq_true rfl) dX8_mark_10 ?_
  have e : (a4, s3) = o := Option.some.inj h
  subst e
  exact qe_iret dX8_mark_13 rfl

set_option maxRecDepth 20000 in
theorem c_X8_refuseLong {l : Launch} {G : qe_G} {v1 : Int32} {s0 : qe_S} {o : Int64 × qe_S} (h : g_X8_refuseLong v1 s0 = some o) : qe_C l G MX8_refuseLong [.ref 0, .int v1] (qs_w s0 (qs_TC G)) (some (.long o.1)) (qs_w o.2 (qs_TC G)) := by
  refine qe_C.of (by decide +kernel) (Nat.le_of_ble_eq_true rfl) ?_
  show qe_J l G MX8_refuseLong 0 [(0, .ref 0), (1, .int v1)] [] (qs_w s0 (qs_TC G)) (some (.long o.1)) (qs_w o.2 (qs_TC G))
  unfold g_X8_refuseLong at h
  refine qe_ldc2 kc_RX8_322 dX8_refuseLong_0 ?_
  refine qe_aload_n dX8_refuseLong_3 0 rfl rfl trivial ?_
  refine qe_iload_n dX8_refuseLong_4 1 rfl rfl ?_
  refine qm_b_elim h (fun a2 s1 hc h => ?_)
  refine qe_callV1 (st := [.long (lN 4000000000000000000)]) kk_X8_refuseLong_X8_refuse (c_X8_refuse hc) (qs_at tC_0) rfl rfl rfl (Nat.le_of_ble_eq_true rfl) dX8_refuseLong_5 ?_
  refine qe_i2l dX8_refuseLong_8 ?_
  refine qe_lsub dX8_refuseLong_9 ?_
  have e : (((lN 4000000000000000000) - a2.toInt64), s1) = o := Option.some.inj h
  subst e
  exact qe_lret dX8_refuseLong_10 rfl

set_option maxRecDepth 20000 in
theorem c_X3_placeOf_L2 {l : Launch} {G : qe_G} {v1 : Int32} : ∀ (n : Nat) (v2 : Int32) (s0 : qe_S) (o : Int32 × qe_S), g_X3_placeOf_L2 v1 n v2 s0 = some o → qe_J l G MX3_placeOf 2 [(0, .ref 1), (1, .int v1), (2, .int v2)] [] (qs_w s0 (qs_TC G)) (some (.int o.1)) (qs_w o.2 (qs_TC G)) := by
  intro n
  induction n with
  | zero =>
    intro v2 s0 o h
    rw [g_X3_placeOf_L2] at h
    cases h
  | succ n ih =>
    intro v2 s0 o h
    rw [g_X3_placeOf_L2] at h
    refine qe_iload_n dX3_placeOf_2 2 rfl rfl ?_
    refine qe_aload_n dX3_placeOf_3 0 rfl rfl trivial ?_
    refine qs_getI (j := 0) tC_1 rfl fl_RX3_9 dX3_placeOf_4 ?_
    refine qe_icmp_ge (tgt := 28) dX3_placeOf_7 rfl h (fun _ h => ?_) (fun _ h => ?_)
    · refine qe_iconst (v := (-1 : Int32)) dX3_placeOf_28 rfl ?_
      have e : ((-1 : Int32), s0) = o := Option.some.inj h
      subst e
      exact qe_iret dX3_placeOf_29 rfl
    · refine qe_aload_n dX3_placeOf_10 0 rfl rfl trivial ?_
      refine qs_getR (j := 6) tC_1 rfl fl_RX3_31 dX3_placeOf_11 ?_
      refine qe_iload_n dX3_placeOf_14 2 rfl rfl ?_
      refine qs_ild tC_5 dX3_placeOf_15 h (fun a2 h => ?_)
      refine qe_iload_n dX3_placeOf_16 1 rfl rfl ?_
      refine qe_icmp_ne (tgt := 22) dX3_placeOf_17 rfl h (fun _ h => ?_) (fun _ h => ?_)
      · refine qe_iincl (lv' := fun a3 => [(2, .int a3), (0, .ref 1), (1, .int v1)]) dX3_placeOf_22 2 rfl rfl (fun _ => rfl) (Nat.le_of_ble_eq_true rfl) h (fun a3 h => ?_)
        refine qe_goto (tgt := 2) dX3_placeOf_25 rfl ?_
        refine qe_sub [1, 2, 0] rfl ?_
        exact ih _ _ _ h
      · refine qe_iload_n dX3_placeOf_20 2 rfl rfl ?_
        have e : (v2, s0) = o := Option.some.inj h
        subst e
        exact qe_iret dX3_placeOf_21 rfl

set_option maxRecDepth 20000 in
theorem c_X3_placeOf {l : Launch} {G : qe_G} {v1 : Int32} {s0 : qe_S} {o : Int32 × qe_S} (h : g_X3_placeOf v1 s0 = some o) : qe_C l G MX3_placeOf [.ref 1, .int v1] (qs_w s0 (qs_TC G)) (some (.int o.1)) (qs_w o.2 (qs_TC G)) := by
  refine qe_C.of (by decide +kernel) (Nat.le_of_ble_eq_true rfl) ?_
  show qe_J l G MX3_placeOf 0 [(0, .ref 1), (1, .int v1)] [] (qs_w s0 (qs_TC G)) (some (.int o.1)) (qs_w o.2 (qs_TC G))
  unfold g_X3_placeOf at h
  refine qe_iconst (v := (0 : Int32)) dX3_placeOf_0 rfl ?_
  refine qe_let_i h (fun a1 h => ?_)
  refine qe_istore_n (lv' := [(2, .int a1), (0, .ref 1), (1, .int v1)]) dX3_placeOf_1 rfl rfl (Nat.le_of_ble_eq_true rfl) ?_
  refine qe_sub [1, 2, 0] rfl ?_
  refine c_X3_placeOf_L2 _ _ _ _ h

set_option maxRecDepth 20000 in
theorem c_X8_of {l : Launch} {G : qe_G} {v1 : Int32} {v2 : Int32} {s0 : qe_S} {o : Int64 × qe_S} (h : g_X8_of v1 v2 s0 = some o) : qe_C l G MX8_of [.ref 0, .int v1, .int v2] (qs_w s0 (qs_TC G)) (some (.long o.1)) (qs_w o.2 (qs_TC G)) := by
  refine qe_C.of (by decide +kernel) (Nat.le_of_ble_eq_true rfl) ?_
  show qe_J l G MX8_of 0 [(0, .ref 0), (1, .int v1), (2, .int v2)] [] (qs_w s0 (qs_TC G)) (some (.long o.1)) (qs_w o.2 (qs_TC G))
  unfold g_X8_of at h
  refine qe_aload_n dX8_of_0 0 rfl rfl trivial ?_
  refine qs_getR (j := 0) tC_0 rfl fl_RX8_12 dX8_of_1 ?_
  refine qe_iload_n dX8_of_4 1 rfl rfl ?_
  refine qm_b_elim h (fun a2 s1 hc h => ?_)
  refine qe_callV1 (st := []) kk_X8_of_X3_has (c_X3_has hc) (qs_at tC_1) rfl rfl rfl (Nat.le_of_ble_eq_true rfl) dX8_of_5 ?_
  refine qe_if_eq (tgt := 20) dX8_of_8 rfl h (fun _ h => ?_) (fun _ h => ?_)
  · refine qe_aload_n dX8_of_20 0 rfl rfl trivial ?_
    refine qe_iconst (v := (-1 : Int32)) dX8_of_21 rfl ?_
    refine qm_b_elim h (fun b4 s3 hc h => ?_)
    refine qe_callV1 (st := []) kk_X8_of_X8_refuseLong (c_X8_refuseLong hc) (qs_at tC_0) rfl rfl rfl (Nat.le_of_ble_eq_true rfl) dX8_of_22 ?_
    have e : (b4, s3) = o := Option.some.inj h
    subst e
    exact qe_lret dX8_of_25 rfl
  · refine qe_iload_n dX8_of_11 2 rfl rfl ?_
    refine qe_if_lt (tgt := 20) dX8_of_12 rfl h (fun _ h => ?_) (fun _ h => ?_)
    · refine qe_aload_n dX8_of_20 0 rfl rfl trivial ?_
      refine qe_iconst (v := (-1 : Int32)) dX8_of_21 rfl ?_
      refine qm_b_elim h (fun b6 s5 hc h => ?_)
      refine qe_callV1 (st := []) kk_X8_of_X8_refuseLong (c_X8_refuseLong hc) (qs_at tC_0) rfl rfl rfl (Nat.le_of_ble_eq_true rfl) dX8_of_22 ?_
      have e : (b6, s5) = o := Option.some.inj h
      subst e
      exact qe_lret dX8_of_25 rfl
    · refine qe_iload_n dX8_of_15 2 rfl rfl ?_
      refine qe_iconst (v := (nI 3)) dX8_of_16 rfl ?_
      refine qe_icmp_le (tgt := 26) dX8_of_17 rfl h (fun _ h => ?_) (fun _ h => ?_)
      · refine qe_iload_n dX8_of_26 2 rfl rfl ?_
        refine qe_tsw_in (v := (0 : Int32)) (tgt := 52) dX8_of_27 (by decide) (by decide) rfl rfl h (fun h => ?_) (fun c0 h => ?_)
        · refine qe_aload_n dX8_of_52 0 rfl rfl trivial ?_
          refine qs_getR (j := 0) tC_0 rfl fl_RX8_12 dX8_of_53 ?_
          refine qs_getR (j := 3) tC_1 rfl fl_RX8_116 dX8_of_56 ?_
          refine qe_iload_n dX8_of_59 1 rfl rfl ?_
          refine qs_ild tC_2 dX8_of_60 h (fun a7 h => ?_)
          refine qe_i2l dX8_of_61 ?_
          have e : (a7.toInt64, s1) = o := Option.some.inj h
          subst e
          exact qe_lret dX8_of_62 rfl
        refine qe_tsw_in (v := (1 : Int32)) (tgt := 63) dX8_of_27 (by decide) (by decide) rfl rfl h (fun h => ?_) (fun c1 h => ?_)
        · refine qe_aload_n dX8_of_63 0 rfl rfl trivial ?_
          refine qs_getR (j := 0) tC_0 rfl fl_RX8_12 dX8_of_64 ?_
          refine qe_iload_n dX8_of_67 1 rfl rfl ?_
          refine qm_b_elim h (fun a9 s8 hc h => ?_)
          refine qe_callV1 (st := []) kk_X8_of_X3_isRefusing (c_X3_isRefusing hc) (qs_at tC_1) rfl rfl rfl (Nat.le_of_ble_eq_true rfl) dX8_of_68 ?_
          refine qe_if_eq (tgt := 78) dX8_of_71 rfl h (fun _ h => ?_) (fun _ h => ?_)
          · refine qe_lconst (v := 0) dX8_of_78 rfl ?_
            have e : ((0 : Int64), s8) = o := Option.some.inj h
            subst e
            exact qe_lret dX8_of_79 rfl
          · refine qe_lconst (v := 1) dX8_of_74 rfl ?_
            refine qe_goto (tgt := 79) dX8_of_75 rfl ?_
            have e : ((1 : Int64), s8) = o := Option.some.inj h
            subst e
            exact qe_lret dX8_of_79 rfl
        refine qe_tsw_in (v := (nI 2)) (tgt := 80) dX8_of_27 (by decide) (by decide) rfl rfl h (fun h => ?_) (fun c2 h => ?_)
        · refine qe_aload_n dX8_of_80 0 rfl rfl trivial ?_
          refine qs_getR (j := 0) tC_0 rfl fl_RX8_12 dX8_of_81 ?_
          refine qs_getR (j := 4) tC_1 rfl fl_RX8_123 dX8_of_84 ?_
          refine qe_iload_n dX8_of_87 1 rfl rfl ?_
          refine qs_ild tC_3 dX8_of_88 h (fun a10 h => ?_)
          refine qe_i2l dX8_of_89 ?_
          have e : (a10.toInt64, s1) = o := Option.some.inj h
          subst e
          exact qe_lret dX8_of_90 rfl
        refine qe_tsw_rest (tgt := 91) 3 dX8_of_27 (by decide) (by decide) (by decide) (fun i hi => match i, hi with | 0, _ => Or.inr c0 | 1, _ => Or.inr c1 | 2, _ => Or.inr c2 | i + 3, hi => absurd hi (by omega)) rfl ?_
        refine qe_aload_n dX8_of_91 0 rfl rfl trivial ?_
        refine qs_getR (j := 0) tC_0 rfl fl_RX8_12 dX8_of_92 ?_
        refine qe_iload_n dX8_of_95 1 rfl rfl ?_
        refine qm_b_elim h (fun a12 s11 hc h => ?_)
        refine qe_callV1 (st := []) kk_X8_of_X3_placeOf (c_X3_placeOf hc) (qs_at tC_1) rfl rfl rfl (Nat.le_of_ble_eq_true rfl) dX8_of_96 ?_
        refine qe_i2l dX8_of_99 ?_
        have e : (a12.toInt64, s11) = o := Option.some.inj h
        subst e
        exact qe_lret dX8_of_100 rfl
      · refine qe_aload_n dX8_of_20 0 rfl rfl trivial ?_
        refine qe_iconst (v := (-1 : Int32)) dX8_of_21 rfl ?_
        refine qm_b_elim h (fun b14 s13 hc h => ?_)
        refine qe_callV1 (st := []) kk_X8_of_X8_refuseLong (c_X8_refuseLong hc) (qs_at tC_0) rfl rfl rfl (Nat.le_of_ble_eq_true rfl) dX8_of_22 ?_
        have e : (b14, s13) = o := Option.some.inj h
        subst e
        exact qe_lret dX8_of_25 rfl

set_option maxRecDepth 20000 in
theorem c_X8_isPart {l : Launch} {G : qe_G} {v0 : Int32} {s0 : qe_S} {o : Int32 × qe_S} (h : g_X8_isPart v0 s0 = some o) : qe_C l G MX8_isPart [.int v0] (qs_w s0 (qs_TC G)) (some (.int o.1)) (qs_w o.2 (qs_TC G)) := by
  refine qe_C.of (by decide +kernel) (Nat.le_of_ble_eq_true rfl) ?_
  show qe_J l G MX8_isPart 0 [(0, .int v0)] [] (qs_w s0 (qs_TC G)) (some (.int o.1)) (qs_w o.2 (qs_TC G))
  unfold g_X8_isPart at h
  refine qm_j_elim h (fun j9 ej9 h => ?_)
  have hj9 : ∀  (s1 : qe_S) (o : Int32 × qe_S), j9  s1 = some o → qe_J l G MX8_isPart 9 [] [] (qs_w s1 (qs_TC G)) (some (.int o.1)) (qs_w o.2 (qs_TC G)) := by
    intro  s1 o h
    subst ej9
    refine qe_iconst (v := (1 : Int32)) dX8_isPart_9 rfl ?_
    refine qe_goto (tgt := 14) dX8_isPart_10 rfl ?_
    have e : ((1 : Int32), s1) = o := Option.some.inj h
    subst e
    exact qe_nret dX8_isPart_14 rfl rfl
  refine qe_iload_n dX8_isPart_0 0 rfl rfl ?_
  refine qe_if_eq (tgt := 9) dX8_isPart_1 rfl h (fun _ h => ?_) (fun _ h => ?_)
  · refine qe_sub [] rfl ?_
    exact hj9  _ _ h
  · refine qe_iload_n dX8_isPart_4 0 rfl rfl ?_
    refine qe_iconst (v := (1 : Int32)) dX8_isPart_5 rfl ?_
    refine qe_icmp_ne (tgt := 13) dX8_isPart_6 rfl h (fun _ h => ?_) (fun _ h => ?_)
    · refine qe_iconst (v := (0 : Int32)) dX8_isPart_13 rfl ?_
      have e : ((0 : Int32), s0) = o := Option.some.inj h
      subst e
      exact qe_nret dX8_isPart_14 rfl rfl
    · refine qe_sub [] rfl ?_
      exact hj9  _ _ h

set_option maxRecDepth 20000 in
theorem c_X8_gcd_L9 {l : Launch} {G : qe_G} {k45 : Int64 → qe_S → Option (Int64 × qe_S)} (hk45 : ∀ (b2 : Int64) (s : qe_S) (o : Int64 × qe_S), k45 b2 s = some o → qe_J l G MX8_gcd 45 [(4, .long b2)] [] (qs_w s (qs_TC G)) (some (.long o.1)) (qs_w o.2 (qs_TC G))) : ∀ (n : Nat) (v4 : Int64) (v6 : Int64) (v8 : Int32) (s0 : qe_S) (o : Int64 × qe_S), g_X8_gcd_L9 k45 n v4 v6 v8 s0 = some o → qe_J l G MX8_gcd 9 [(4, .long v4), (6, .long v6), (8, .int v8)] [] (qs_w s0 (qs_TC G)) (some (.long o.1)) (qs_w o.2 (qs_TC G)) := by
  intro n
  induction n with
  | zero =>
    intro v4 v6 v8 s0 o h
    rw [g_X8_gcd_L9] at h
    cases h
  | succ n ih =>
    intro v4 v6 v8 s0 o h
    rw [g_X8_gcd_L9] at h
    refine qe_iload dX8_gcd_9 2 rfl ?_
    refine qe_sipush (v := (nI 1000)) dX8_gcd_11 rfl ?_
    refine qe_icmp_ge (tgt := 45) dX8_gcd_14 rfl h (fun _ h => ?_) (fun _ h => ?_)
    · refine qe_sub [0] rfl ?_
      exact hk45 _ _ _ h
    · refine qe_lload dX8_gcd_17 1 rfl ?_
      refine qe_lconst (v := 0) dX8_gcd_19 rfl ?_
      refine qe_lcmp_eq (tgt := 45) dX8_gcd_20 dX8_gcd_21 rfl h (fun _ h => ?_) (fun _ h => ?_)
      · refine qe_sub [0] rfl ?_
        exact hk45 _ _ _ h
      · refine qe_lload dX8_gcd_24 0 rfl ?_
        refine qe_lload dX8_gcd_26 1 rfl ?_
        refine qe_lrem dX8_gcd_28 h (fun h => ?_)
        refine qe_let_l h (fun b3 h => ?_)
        refine qe_lstore (lv' := [(9, .long b3), (4, .long v4), (6, .long v6), (8, .int v8)]) dX8_gcd_29 rfl (Nat.le_of_ble_eq_true rfl) ?_
        refine qe_lload dX8_gcd_31 2 rfl ?_
        refine qe_lstore (lv' := [(4, .long v6), (9, .long b3), (6, .long v6), (8, .int v8)]) dX8_gcd_33 rfl (Nat.le_of_ble_eq_true rfl) ?_
        refine qe_lload dX8_gcd_35 1 rfl ?_
        refine qe_lstore (lv' := [(6, .long b3), (4, .long v6), (9, .long b3), (8, .int v8)]) dX8_gcd_37 rfl (Nat.le_of_ble_eq_true rfl) ?_
        refine qe_iincl (lv' := fun a4 => [(8, .int a4), (6, .long b3), (4, .long v6), (9, .long b3)]) dX8_gcd_39 3 rfl rfl (fun _ => rfl) (Nat.le_of_ble_eq_true rfl) h (fun a4 h => ?_)
        refine qe_goto (tgt := 9) dX8_gcd_42 rfl ?_
        refine qe_sub [2, 1, 0] rfl ?_
        exact ih _ _ _ _ _ h

set_option maxRecDepth 20000 in
theorem c_X8_gcd {l : Launch} {G : qe_G} {v0 : Int64} {v2 : Int64} {s0 : qe_S} {o : Int64 × qe_S} (h : g_X8_gcd v0 v2 s0 = some o) : qe_C l G MX8_gcd [.long v0, .long v2] (qs_w s0 (qs_TC G)) (some (.long o.1)) (qs_w o.2 (qs_TC G)) := by
  refine qe_C.of (by decide +kernel) (Nat.le_of_ble_eq_true rfl) ?_
  show qe_J l G MX8_gcd 0 [(0, .long v0), (2, .long v2)] [] (qs_w s0 (qs_TC G)) (some (.long o.1)) (qs_w o.2 (qs_TC G))
  unfold g_X8_gcd at h
  refine qe_lload_n dX8_gcd_0 0 rfl rfl ?_
  refine qe_lstore (lv' := [(4, .long v0), (0, .long v0), (2, .long v2)]) dX8_gcd_1 rfl (Nat.le_of_ble_eq_true rfl) ?_
  refine qe_lload_n dX8_gcd_3 2 rfl rfl ?_
  refine qe_lstore (lv' := [(6, .long v2), (4, .long v0), (0, .long v0), (2, .long v2)]) dX8_gcd_4 rfl (Nat.le_of_ble_eq_true rfl) ?_
  refine qe_iconst (v := (0 : Int32)) dX8_gcd_6 rfl ?_
  refine qe_let_i h (fun a1 h => ?_)
  refine qe_istore (lv' := [(8, .int a1), (6, .long v2), (4, .long v0), (0, .long v0), (2, .long v2)]) dX8_gcd_7 rfl (Nat.le_of_ble_eq_true rfl) ?_
  refine qe_sub [2, 1, 0] rfl ?_
  refine c_X8_gcd_L9
    (fun b5 s6 o h => ?_) _ _ _ _ _ _ h
  refine qe_lload dX8_gcd_45 0 rfl ?_
  refine qe_lconst (v := 0) dX8_gcd_47 rfl ?_
  refine qe_lcmp_ge (tgt := 58) dX8_gcd_48 dX8_gcd_49 rfl h (fun _ h => ?_) (fun _ h => ?_)
  · refine qe_lload dX8_gcd_58 0 rfl ?_
    have e : (b5, s6) = o := Option.some.inj h
    subst e
    exact qe_lret dX8_gcd_60 rfl
  · refine qe_lload dX8_gcd_52 0 rfl ?_
    refine qe_lneg dX8_gcd_54 ?_
    refine qe_goto (tgt := 60) dX8_gcd_55 rfl ?_
    have e : ((-b5), s6) = o := Option.some.inj h
    subst e
    exact qe_lret dX8_gcd_60 rfl

set_option maxRecDepth 20000 in
theorem c_X0_reduce_32 {l : Launch} {G : qe_G} {v1 : Int64} {v3 : Int64} {s0 : qe_S} {o : qe_S} (h : g_X0_reduce 32 v1 v3 s0 = some o) : qe_C l G MX0_reduce [.ref 32, .long v1, .long v3] (qs_w s0 (qs_TC G)) none (qs_w o (qs_TC G)) := by
  refine qe_C.of (by decide +kernel) (Nat.le_of_ble_eq_true rfl) ?_
  show qe_J l G MX0_reduce 0 [(0, .ref 32), (1, .long v1), (3, .long v3)] [] (qs_w s0 (qs_TC G)) none (qs_w o (qs_TC G))
  unfold g_X0_reduce at h
  refine qm_j_elim h (fun j23 ej23 h => ?_)
  have hj23 : ∀ (b1 : Int64) (q2 : Int64) (s3 : qe_S) (o : qe_S), j23 b1 q2 s3 = some o → qe_J l G MX0_reduce 23 [(0, .ref 32), (3, .long v3), (5, .long b1)] [.long q2, .ref 32] (qs_w s3 (qs_TC G)) none (qs_w o (qs_TC G)) := by
    intro b1 q2 s3 o h
    subst ej23
    refine qm_j_elim h (fun j42 ej42 h => ?_)
    have hj42 : ∀ (q4 : Int64) (s5 : qe_S) (o : qe_S), j42 q4 s5 = some o → qe_J l G MX0_reduce 42 [] [.long q4, .ref 32] (qs_w s5 (qs_TC G)) none (qs_w o (qs_TC G)) := by
      intro q4 s5 o h
      subst ej42
      refine qs_putL (j := 1) tC_32 rfl fp_RX0_15 dX0_reduce_42 h (fun s6 h => ?_)
      have e : s6 = o := Option.some.inj h
      subst e
      exact qe_vret dX0_reduce_45 rfl
    refine qs_putL (j := 0) tC_32 rfl fp_RX0_9 dX0_reduce_23 h (fun s7 h => ?_)
    refine qe_aload_n dX0_reduce_26 0 rfl rfl trivial ?_
    refine qe_lload dX0_reduce_27 2 rfl ?_
    refine qe_lconst (v := 1) dX0_reduce_29 rfl ?_
    refine qe_lcmp_le (tgt := 41) dX0_reduce_30 dX0_reduce_31 rfl h (fun _ h => ?_) (fun _ h => ?_)
    · refine qe_lload_n dX0_reduce_41 1 rfl rfl ?_
      refine qe_sub [] rfl ?_
      exact hj42 _ _ _ h
    · refine qe_lload_n dX0_reduce_34 1 rfl rfl ?_
      refine qe_lload dX0_reduce_35 2 rfl ?_
      refine qe_ldiv dX0_reduce_37 h (fun h => ?_)
      refine qe_goto (tgt := 42) dX0_reduce_38 rfl ?_
      refine qe_sub [] rfl ?_
      exact hj42 _ _ _ h
  refine qe_lload_n dX0_reduce_0 1 rfl rfl ?_
  refine qe_lload_n dX0_reduce_1 2 rfl rfl ?_
  refine qm_b_elim h (fun b9 s8 hc h => ?_)
  refine qe_callN1 (st := []) kk_X0_reduce_X8_gcd (c_X8_gcd hc) rfl rfl (Nat.le_of_ble_eq_true rfl) dX0_reduce_2 ?_
  refine qe_lstore (lv' := [(5, .long b9), (0, .ref 32), (1, .long v1), (3, .long v3)]) dX0_reduce_5 rfl (Nat.le_of_ble_eq_true rfl) ?_
  refine qe_aload_n dX0_reduce_7 1 rfl rfl trivial ?_
  refine qe_lload dX0_reduce_8 0 rfl ?_
  refine qe_lconst (v := 1) dX0_reduce_10 rfl ?_
  refine qe_lcmp_le (tgt := 22) dX0_reduce_11 dX0_reduce_12 rfl h (fun _ h => ?_) (fun _ h => ?_)
  · refine qe_lload_n dX0_reduce_22 2 rfl rfl ?_
    refine qe_sub [1, 3, 0] rfl ?_
    exact hj23 _ _ _ _ h
  · refine qe_lload_n dX0_reduce_15 2 rfl rfl ?_
    refine qe_lload dX0_reduce_16 0 rfl ?_
    refine qe_ldiv dX0_reduce_18 h (fun h => ?_)
    refine qe_goto (tgt := 23) dX0_reduce_19 rfl ?_
    refine qe_sub [1, 3, 0] rfl ?_
    exact hj23 _ _ _ _ h

set_option maxRecDepth 20000 in
theorem c_X0_reduce_34 {l : Launch} {G : qe_G} {v1 : Int64} {v3 : Int64} {s0 : qe_S} {o : qe_S} (h : g_X0_reduce 34 v1 v3 s0 = some o) : qe_C l G MX0_reduce [.ref 34, .long v1, .long v3] (qs_w s0 (qs_TC G)) none (qs_w o (qs_TC G)) := by
  refine qe_C.of (by decide +kernel) (Nat.le_of_ble_eq_true rfl) ?_
  show qe_J l G MX0_reduce 0 [(0, .ref 34), (1, .long v1), (3, .long v3)] [] (qs_w s0 (qs_TC G)) none (qs_w o (qs_TC G))
  unfold g_X0_reduce at h
  refine qm_j_elim h (fun j23 ej23 h => ?_)
  have hj23 : ∀ (b1 : Int64) (q2 : Int64) (s3 : qe_S) (o : qe_S), j23 b1 q2 s3 = some o → qe_J l G MX0_reduce 23 [(0, .ref 34), (3, .long v3), (5, .long b1)] [.long q2, .ref 34] (qs_w s3 (qs_TC G)) none (qs_w o (qs_TC G)) := by
    intro b1 q2 s3 o h
    subst ej23
    refine qm_j_elim h (fun j42 ej42 h => ?_)
    have hj42 : ∀ (q4 : Int64) (s5 : qe_S) (o : qe_S), j42 q4 s5 = some o → qe_J l G MX0_reduce 42 [] [.long q4, .ref 34] (qs_w s5 (qs_TC G)) none (qs_w o (qs_TC G)) := by
      intro q4 s5 o h
      subst ej42
      refine qs_putL (j := 1) tC_34 rfl fp_RX0_15 dX0_reduce_42 h (fun s6 h => ?_)
      have e : s6 = o := Option.some.inj h
      subst e
      exact qe_vret dX0_reduce_45 rfl
    refine qs_putL (j := 0) tC_34 rfl fp_RX0_9 dX0_reduce_23 h (fun s7 h => ?_)
    refine qe_aload_n dX0_reduce_26 0 rfl rfl trivial ?_
    refine qe_lload dX0_reduce_27 2 rfl ?_
    refine qe_lconst (v := 1) dX0_reduce_29 rfl ?_
    refine qe_lcmp_le (tgt := 41) dX0_reduce_30 dX0_reduce_31 rfl h (fun _ h => ?_) (fun _ h => ?_)
    · refine qe_lload_n dX0_reduce_41 1 rfl rfl ?_
      refine qe_sub [] rfl ?_
      exact hj42 _ _ _ h
    · refine qe_lload_n dX0_reduce_34 1 rfl rfl ?_
      refine qe_lload dX0_reduce_35 2 rfl ?_
      refine qe_ldiv dX0_reduce_37 h (fun h => ?_)
      refine qe_goto (tgt := 42) dX0_reduce_38 rfl ?_
      refine qe_sub [] rfl ?_
      exact hj42 _ _ _ h
  refine qe_lload_n dX0_reduce_0 1 rfl rfl ?_
  refine qe_lload_n dX0_reduce_1 2 rfl rfl ?_
  refine qm_b_elim h (fun b9 s8 hc h => ?_)
  refine qe_callN1 (st := []) kk_X0_reduce_X8_gcd (c_X8_gcd hc) rfl rfl (Nat.le_of_ble_eq_true rfl) dX0_reduce_2 ?_
  refine qe_lstore (lv' := [(5, .long b9), (0, .ref 34), (1, .long v1), (3, .long v3)]) dX0_reduce_5 rfl (Nat.le_of_ble_eq_true rfl) ?_
  refine qe_aload_n dX0_reduce_7 1 rfl rfl trivial ?_
  refine qe_lload dX0_reduce_8 0 rfl ?_
  refine qe_lconst (v := 1) dX0_reduce_10 rfl ?_
  refine qe_lcmp_le (tgt := 22) dX0_reduce_11 dX0_reduce_12 rfl h (fun _ h => ?_) (fun _ h => ?_)
  · refine qe_lload_n dX0_reduce_22 2 rfl rfl ?_
    refine qe_sub [1, 3, 0] rfl ?_
    exact hj23 _ _ _ _ h
  · refine qe_lload_n dX0_reduce_15 2 rfl rfl ?_
    refine qe_lload dX0_reduce_16 0 rfl ?_
    refine qe_ldiv dX0_reduce_18 h (fun h => ?_)
    refine qe_goto (tgt := 23) dX0_reduce_19 rfl ?_
    refine qe_sub [1, 3, 0] rfl ?_
    exact hj23 _ _ _ _ h

set_option maxRecDepth 20000 in
theorem c_X0_reduce_33 {l : Launch} {G : qe_G} {v1 : Int64} {v3 : Int64} {s0 : qe_S} {o : qe_S} (h : g_X0_reduce 33 v1 v3 s0 = some o) : qe_C l G MX0_reduce [.ref 33, .long v1, .long v3] (qs_w s0 (qs_TC G)) none (qs_w o (qs_TC G)) := by
  refine qe_C.of (by decide +kernel) (Nat.le_of_ble_eq_true rfl) ?_
  show qe_J l G MX0_reduce 0 [(0, .ref 33), (1, .long v1), (3, .long v3)] [] (qs_w s0 (qs_TC G)) none (qs_w o (qs_TC G))
  unfold g_X0_reduce at h
  refine qm_j_elim h (fun j23 ej23 h => ?_)
  have hj23 : ∀ (b1 : Int64) (q2 : Int64) (s3 : qe_S) (o : qe_S), j23 b1 q2 s3 = some o → qe_J l G MX0_reduce 23 [(0, .ref 33), (3, .long v3), (5, .long b1)] [.long q2, .ref 33] (qs_w s3 (qs_TC G)) none (qs_w o (qs_TC G)) := by
    intro b1 q2 s3 o h
    subst ej23
    refine qm_j_elim h (fun j42 ej42 h => ?_)
    have hj42 : ∀ (q4 : Int64) (s5 : qe_S) (o : qe_S), j42 q4 s5 = some o → qe_J l G MX0_reduce 42 [] [.long q4, .ref 33] (qs_w s5 (qs_TC G)) none (qs_w o (qs_TC G)) := by
      intro q4 s5 o h
      subst ej42
      refine qs_putL (j := 1) tC_33 rfl fp_RX0_15 dX0_reduce_42 h (fun s6 h => ?_)
      have e : s6 = o := Option.some.inj h
      subst e
      exact qe_vret dX0_reduce_45 rfl
    refine qs_putL (j := 0) tC_33 rfl fp_RX0_9 dX0_reduce_23 h (fun s7 h => ?_)
    refine qe_aload_n dX0_reduce_26 0 rfl rfl trivial ?_
    refine qe_lload dX0_reduce_27 2 rfl ?_
    refine qe_lconst (v := 1) dX0_reduce_29 rfl ?_
    refine qe_lcmp_le (tgt := 41) dX0_reduce_30 dX0_reduce_31 rfl h (fun _ h => ?_) (fun _ h => ?_)
    · refine qe_lload_n dX0_reduce_41 1 rfl rfl ?_
      refine qe_sub [] rfl ?_
      exact hj42 _ _ _ h
    · refine qe_lload_n dX0_reduce_34 1 rfl rfl ?_
      refine qe_lload dX0_reduce_35 2 rfl ?_
      refine qe_ldiv dX0_reduce_37 h (fun h => ?_)
      refine qe_goto (tgt := 42) dX0_reduce_38 rfl ?_
      refine qe_sub [] rfl ?_
      exact hj42 _ _ _ h
  refine qe_lload_n dX0_reduce_0 1 rfl rfl ?_
  refine qe_lload_n dX0_reduce_1 2 rfl rfl ?_
  refine qm_b_elim h (fun b9 s8 hc h => ?_)
  refine qe_callN1 (st := []) kk_X0_reduce_X8_gcd (c_X8_gcd hc) rfl rfl (Nat.le_of_ble_eq_true rfl) dX0_reduce_2 ?_
  refine qe_lstore (lv' := [(5, .long b9), (0, .ref 33), (1, .long v1), (3, .long v3)]) dX0_reduce_5 rfl (Nat.le_of_ble_eq_true rfl) ?_
  refine qe_aload_n dX0_reduce_7 1 rfl rfl trivial ?_
  refine qe_lload dX0_reduce_8 0 rfl ?_
  refine qe_lconst (v := 1) dX0_reduce_10 rfl ?_
  refine qe_lcmp_le (tgt := 22) dX0_reduce_11 dX0_reduce_12 rfl h (fun _ h => ?_) (fun _ h => ?_)
  · refine qe_lload_n dX0_reduce_22 2 rfl rfl ?_
    refine qe_sub [1, 3, 0] rfl ?_
    exact hj23 _ _ _ _ h
  · refine qe_lload_n dX0_reduce_15 2 rfl rfl ?_
    refine qe_lload dX0_reduce_16 0 rfl ?_
    refine qe_ldiv dX0_reduce_18 h (fun h => ?_)
    refine qe_goto (tgt := 23) dX0_reduce_19 rfl ?_
    refine qe_sub [1, 3, 0] rfl ?_
    exact hj23 _ _ _ _ h

set_option maxRecDepth 20000 in
theorem c_X0_begin_32 {l : Launch} {G : qe_G} {v1 : Int64} {v3 : Int64} {s0 : qe_S} {o : qe_S} (h : g_X0_begin 32 v1 v3 s0 = some o) : qe_C l G MX0_begin [.ref 32, .long v1, .long v3] (qs_w s0 (qs_TC G)) none (qs_w o (qs_TC G)) := by
  refine qe_C.of (by decide +kernel) (Nat.le_of_ble_eq_true rfl) ?_
  show qe_J l G MX0_begin 0 [(0, .ref 32), (1, .long v1), (3, .long v3)] [] (qs_w s0 (qs_TC G)) none (qs_w o (qs_TC G))
  unfold g_X0_begin at h
  refine qe_aload_n dX0_begin_0 0 rfl rfl trivial ?_
  refine qe_iconst (v := (0 : Int32)) dX0_begin_1 rfl ?_
  refine qs_putZ (j := 2) tC_32 rfl fp_RX0_18 ⟨rfl, rfl⟩ dX0_begin_2 h (fun s1 h => ?_)
  refine qe_aload_n dX0_begin_5 0 rfl rfl trivial ?_
  refine qe_lload_n dX0_begin_6 1 rfl rfl ?_
  refine qe_lload_n dX0_begin_7 2 rfl rfl ?_
  refine qm_o_elim h (fun s2 hc h => ?_)
  refine qe_callV0 (st := []) kk_X0_begin_X0_reduce (c_X0_reduce_32 hc) (qs_at tC_32) rfl rfl rfl (Nat.le_of_ble_eq_true rfl) dX0_begin_8 ?_
  have e : s2 = o := Option.some.inj h
  subst e
  exact qe_vret dX0_begin_11 rfl

set_option maxRecDepth 20000 in
theorem c_X0_begin_34 {l : Launch} {G : qe_G} {v1 : Int64} {v3 : Int64} {s0 : qe_S} {o : qe_S} (h : g_X0_begin 34 v1 v3 s0 = some o) : qe_C l G MX0_begin [.ref 34, .long v1, .long v3] (qs_w s0 (qs_TC G)) none (qs_w o (qs_TC G)) := by
  refine qe_C.of (by decide +kernel) (Nat.le_of_ble_eq_true rfl) ?_
  show qe_J l G MX0_begin 0 [(0, .ref 34), (1, .long v1), (3, .long v3)] [] (qs_w s0 (qs_TC G)) none (qs_w o (qs_TC G))
  unfold g_X0_begin at h
  refine qe_aload_n dX0_begin_0 0 rfl rfl trivial ?_
  refine qe_iconst (v := (0 : Int32)) dX0_begin_1 rfl ?_
  refine qs_putZ (j := 2) tC_34 rfl fp_RX0_18 ⟨rfl, rfl⟩ dX0_begin_2 h (fun s1 h => ?_)
  refine qe_aload_n dX0_begin_5 0 rfl rfl trivial ?_
  refine qe_lload_n dX0_begin_6 1 rfl rfl ?_
  refine qe_lload_n dX0_begin_7 2 rfl rfl ?_
  refine qm_o_elim h (fun s2 hc h => ?_)
  refine qe_callV0 (st := []) kk_X0_begin_X0_reduce (c_X0_reduce_34 hc) (qs_at tC_34) rfl rfl rfl (Nat.le_of_ble_eq_true rfl) dX0_begin_8 ?_
  have e : s2 = o := Option.some.inj h
  subst e
  exact qe_vret dX0_begin_11 rfl

set_option maxRecDepth 20000 in
theorem c_X0_begin_33 {l : Launch} {G : qe_G} {v1 : Int64} {v3 : Int64} {s0 : qe_S} {o : qe_S} (h : g_X0_begin 33 v1 v3 s0 = some o) : qe_C l G MX0_begin [.ref 33, .long v1, .long v3] (qs_w s0 (qs_TC G)) none (qs_w o (qs_TC G)) := by
  refine qe_C.of (by decide +kernel) (Nat.le_of_ble_eq_true rfl) ?_
  show qe_J l G MX0_begin 0 [(0, .ref 33), (1, .long v1), (3, .long v3)] [] (qs_w s0 (qs_TC G)) none (qs_w o (qs_TC G))
  unfold g_X0_begin at h
  refine qe_aload_n dX0_begin_0 0 rfl rfl trivial ?_
  refine qe_iconst (v := (0 : Int32)) dX0_begin_1 rfl ?_
  refine qs_putZ (j := 2) tC_33 rfl fp_RX0_18 ⟨rfl, rfl⟩ dX0_begin_2 h (fun s1 h => ?_)
  refine qe_aload_n dX0_begin_5 0 rfl rfl trivial ?_
  refine qe_lload_n dX0_begin_6 1 rfl rfl ?_
  refine qe_lload_n dX0_begin_7 2 rfl rfl ?_
  refine qm_o_elim h (fun s2 hc h => ?_)
  refine qe_callV0 (st := []) kk_X0_begin_X0_reduce (c_X0_reduce_33 hc) (qs_at tC_33) rfl rfl rfl (Nat.le_of_ble_eq_true rfl) dX0_begin_8 ?_
  have e : s2 = o := Option.some.inj h
  subst e
  exact qe_vret dX0_begin_11 rfl

set_option maxRecDepth 20000 in
theorem c_X8_lowest {l : Launch} {G : qe_G} {v1 : Int64} {v3 : Int64} {v5 : Int32} {s0 : qe_S} {o : Int64 × qe_S} (h : g_X8_lowest v1 v3 v5 s0 = some o) : qe_C l G MX8_lowest [.ref 0, .long v1, .long v3, .int v5] (qs_w s0 (qs_TC G)) (some (.long o.1)) (qs_w o.2 (qs_TC G)) := by
  refine qe_C.of (by decide +kernel) (Nat.le_of_ble_eq_true rfl) ?_
  show qe_J l G MX8_lowest 0 [(0, .ref 0), (1, .long v1), (3, .long v3), (5, .int v5)] [] (qs_w s0 (qs_TC G)) (some (.long o.1)) (qs_w o.2 (qs_TC G))
  unfold g_X8_lowest at h
  refine qe_aload_n dX8_lowest_0 0 rfl rfl trivial ?_
  refine qs_getR (j := 9) tC_0 rfl fl_RX8_53 dX8_lowest_1 ?_
  refine qe_lload_n dX8_lowest_4 1 rfl rfl ?_
  refine qe_lload_n dX8_lowest_5 2 rfl rfl ?_
  refine qm_o_elim h (fun s1 hc h => ?_)
  refine qe_callV0 (st := []) kk_X8_lowest_X0_begin (c_X0_begin_34 hc) (qs_at tC_34) rfl rfl rfl (Nat.le_of_ble_eq_true rfl) dX8_lowest_6 ?_
  refine qe_iload dX8_lowest_9 3 rfl ?_
  refine qe_if_ne (tgt := 24) dX8_lowest_11 rfl h (fun _ h => ?_) (fun _ h => ?_)
  · refine qe_aload_n dX8_lowest_24 0 rfl rfl trivial ?_
    refine qs_getR (j := 9) tC_0 rfl fl_RX8_53 dX8_lowest_25 ?_
    refine qs_getL (j := 1) tC_34 rfl fl_RX8_329 dX8_lowest_28 ?_
    have e : ((s1.2 34 1), s1) = o := Option.some.inj h
    subst e
    exact qe_lret dX8_lowest_31 rfl
  · refine qe_aload_n dX8_lowest_14 0 rfl rfl trivial ?_
    refine qs_getR (j := 9) tC_0 rfl fl_RX8_53 dX8_lowest_15 ?_
    refine qs_getL (j := 0) tC_34 rfl fl_RX8_327 dX8_lowest_18 ?_
    refine qe_goto (tgt := 31) dX8_lowest_21 rfl ?_
    have e : ((s1.2 34 0), s1) = o := Option.some.inj h
    subst e
    exact qe_lret dX8_lowest_31 rfl

set_option maxRecDepth 20000 in
theorem c_X8_fraction {l : Launch} {G : qe_G} {v1 : Int32} {v2 : Int32} {v3 : Int32} {s0 : qe_S} {o : Int64 × qe_S} (h : g_X8_fraction v1 v2 v3 s0 = some o) : qe_C l G MX8_fraction [.ref 0, .int v1, .int v2, .int v3] (qs_w s0 (qs_TC G)) (some (.long o.1)) (qs_w o.2 (qs_TC G)) := by
  refine qe_C.of (by decide +kernel) (Nat.le_of_ble_eq_true rfl) ?_
  show qe_J l G MX8_fraction 0 [(0, .ref 0), (1, .int v1), (2, .int v2), (3, .int v3)] [] (qs_w s0 (qs_TC G)) (some (.long o.1)) (qs_w o.2 (qs_TC G))
  unfold g_X8_fraction at h
  refine qe_aload_n dX8_fraction_0 0 rfl rfl trivial ?_
  refine qs_getR (j := 0) tC_0 rfl fl_RX8_12 dX8_fraction_1 ?_
  refine qe_iload_n dX8_fraction_4 1 rfl rfl ?_
  refine qm_b_elim h (fun a2 s1 hc h => ?_)
  refine qe_callV1 (st := []) kk_X8_fraction_X3_has (c_X3_has hc) (qs_at tC_1) rfl rfl rfl (Nat.le_of_ble_eq_true rfl) dX8_fraction_5 ?_
  refine qe_if_eq (tgt := 18) dX8_fraction_8 rfl h (fun _ h => ?_) (fun _ h => ?_)
  · refine qe_aload_n dX8_fraction_18 0 rfl rfl trivial ?_
    refine qe_iconst (v := (-1 : Int32)) dX8_fraction_19 rfl ?_
    refine qm_b_elim h (fun b4 s3 hc h => ?_)
    refine qe_callV1 (st := []) kk_X8_fraction_X8_refuseLong (c_X8_refuseLong hc) (qs_at tC_0) rfl rfl rfl (Nat.le_of_ble_eq_true rfl) dX8_fraction_20 ?_
    have e : (b4, s3) = o := Option.some.inj h
    subst e
    exact qe_lret dX8_fraction_23 rfl
  · refine qe_iload_n dX8_fraction_11 2 rfl rfl ?_
    refine qm_b_elim h (fun a6 s5 hc h => ?_)
    refine qe_callS1 (st := []) kk_X8_fraction_X8_isRow (c_X8_isRow hc) rfl rfl (Nat.le_of_ble_eq_true rfl) dX8_fraction_12 ?_
    refine qe_if_ne (tgt := 24) dX8_fraction_15 rfl h (fun _ h => ?_) (fun _ h => ?_)
    · refine qe_iload_n dX8_fraction_24 3 rfl rfl ?_
      refine qm_b_elim h (fun a8 s7 hc h => ?_)
      refine qe_callS1 (st := []) kk_X8_fraction_X8_isPart (c_X8_isPart hc) rfl rfl (Nat.le_of_ble_eq_true rfl) dX8_fraction_25 ?_
      refine qe_if_ne (tgt := 38) dX8_fraction_28 rfl h (fun _ h => ?_) (fun _ h => ?_)
      · refine qe_aload_n dX8_fraction_38 0 rfl rfl trivial ?_
        refine qe_aload_n dX8_fraction_39 0 rfl rfl trivial ?_
        refine qs_getR (j := 0) tC_0 rfl fl_RX8_12 dX8_fraction_40 ?_
        refine qe_iload_n dX8_fraction_43 1 rfl rfl ?_
        refine qe_iload_n dX8_fraction_44 2 rfl rfl ?_
        refine qm_b_elim h (fun a10 s9 hc h => ?_)
        refine qe_callV1 (st := [.ref 0]) kk_X8_fraction_X3_above (c_X3_above hc) (qs_at tC_1) rfl rfl rfl (Nat.le_of_ble_eq_true rfl) dX8_fraction_45 ?_
        refine qe_i2l dX8_fraction_48 ?_
        refine qe_aload_n dX8_fraction_49 0 rfl rfl trivial ?_
        refine qs_getR (j := 0) tC_0 rfl fl_RX8_12 dX8_fraction_50 ?_
        refine qe_iload_n dX8_fraction_53 1 rfl rfl ?_
        refine qe_iload_n dX8_fraction_54 2 rfl rfl ?_
        refine qm_b_elim h (fun a12 s11 hc h => ?_)
        refine qe_callV1 (st := [.long a10.toInt64, .ref 0]) kk_X8_fraction_X3_below (c_X3_below hc) (qs_at tC_1) rfl rfl rfl (Nat.le_of_ble_eq_true rfl) dX8_fraction_55 ?_
        refine qe_i2l dX8_fraction_58 ?_
        refine qe_iload_n dX8_fraction_59 3 rfl rfl ?_
        refine qm_b_elim h (fun b14 s13 hc h => ?_)
        refine qe_callV1 (st := []) kk_X8_fraction_X8_lowest (c_X8_lowest hc) (qs_at tC_0) rfl rfl rfl (Nat.le_of_ble_eq_true rfl) dX8_fraction_60 ?_
        have e : (b14, s13) = o := Option.some.inj h
        subst e
        exact qe_lret dX8_fraction_63 rfl
      · refine qe_aload_n dX8_fraction_31 0 rfl rfl trivial ?_
        refine qe_bipush (v := (-2 : Int32)) dX8_fraction_32 rfl ?_
        refine qm_b_elim h (fun b16 s15 hc h => ?_)
        refine qe_callV1 (st := []) kk_X8_fraction_X8_refuseLong (c_X8_refuseLong hc) (qs_at tC_0) rfl rfl rfl (Nat.le_of_ble_eq_true rfl) dX8_fraction_34 ?_
        have e : (b16, s15) = o := Option.some.inj h
        subst e
        exact qe_lret dX8_fraction_37 rfl
    · refine qe_aload_n dX8_fraction_18 0 rfl rfl trivial ?_
      refine qe_iconst (v := (-1 : Int32)) dX8_fraction_19 rfl ?_
      refine qm_b_elim h (fun b18 s17 hc h => ?_)
      refine qe_callV1 (st := []) kk_X8_fraction_X8_refuseLong (c_X8_refuseLong hc) (qs_at tC_0) rfl rfl rfl (Nat.le_of_ble_eq_true rfl) dX8_fraction_20 ?_
      have e : (b18, s17) = o := Option.some.inj h
      subst e
      exact qe_lret dX8_fraction_23 rfl

set_option maxRecDepth 20000 in
theorem c_X3_changeOrder {l : Launch} {G : qe_G} {v1 : Int32} {s0 : qe_S} {o : Int32 × qe_S} (h : g_X3_changeOrder v1 s0 = some o) : qe_C l G MX3_changeOrder [.ref 1, .int v1] (qs_w s0 (qs_TC G)) (some (.int o.1)) (qs_w o.2 (qs_TC G)) := by
  refine qe_C.of (by decide +kernel) (Nat.le_of_ble_eq_true rfl) ?_
  show qe_J l G MX3_changeOrder 0 [(0, .ref 1), (1, .int v1)] [] (qs_w s0 (qs_TC G)) (some (.int o.1)) (qs_w o.2 (qs_TC G))
  unfold g_X3_changeOrder at h
  refine qe_iload_n dX3_changeOrder_0 1 rfl rfl ?_
  refine qe_if_lt (tgt := 9) dX3_changeOrder_1 rfl h (fun _ h => ?_) (fun _ h => ?_)
  · refine qe_bipush (v := (-2 : Int32)) dX3_changeOrder_9 rfl ?_
    have e : ((-2 : Int32), s0) = o := Option.some.inj h
    subst e
    exact qe_iret dX3_changeOrder_11 rfl
  · refine qe_iload_n dX3_changeOrder_4 1 rfl rfl ?_
    refine qe_iconst (v := (nI 5)) dX3_changeOrder_5 rfl ?_
    refine qe_icmp_le (tgt := 12) dX3_changeOrder_6 rfl h (fun _ h => ?_) (fun _ h => ?_)
    · refine qe_aload_n dX3_changeOrder_12 0 rfl rfl trivial ?_
      refine qs_getI (j := 2) tC_1 rfl fl_RX3_18 dX3_changeOrder_13 ?_
      refine qe_let_i h (fun a1 h => ?_)
      refine qe_istore_n (lv' := [(2, .int a1), (0, .ref 1), (1, .int v1)]) dX3_changeOrder_16 rfl rfl (Nat.le_of_ble_eq_true rfl) ?_
      refine qe_aload_n dX3_changeOrder_17 1 rfl rfl trivial ?_
      refine qe_iload_n dX3_changeOrder_18 2 rfl rfl ?_
      refine qs_putI (j := 2) tC_1 rfl fp_RX3_18 dX3_changeOrder_19 h (fun s2 h => ?_)
      refine qe_aload_n dX3_changeOrder_22 1 rfl rfl trivial ?_
      refine qm_o_elim h (fun s3 hc h => ?_)
      refine qe_callV0 (st := []) kk_X3_changeOrder_X3_arrange (c_X3_arrange hc) (qs_at tC_1) rfl rfl rfl (Nat.le_of_ble_eq_true rfl) dX3_changeOrder_23 ?_
      refine qe_iload_n dX3_changeOrder_26 0 rfl rfl ?_
      have e : (a1, s3) = o := Option.some.inj h
      subst e
      exact qe_iret dX3_changeOrder_27 rfl
    · refine qe_bipush (v := (-2 : Int32)) dX3_changeOrder_9 rfl ?_
      have e : ((-2 : Int32), s0) = o := Option.some.inj h
      subst e
      exact qe_iret dX3_changeOrder_11 rfl

set_option maxRecDepth 20000 in
theorem c_X8_order {l : Launch} {G : qe_G} {v1 : Int32} {s0 : qe_S} {o : Int32 × qe_S} (h : g_X8_order v1 s0 = some o) : qe_C l G MX8_order [.ref 0, .int v1] (qs_w s0 (qs_TC G)) (some (.int o.1)) (qs_w o.2 (qs_TC G)) := by
  refine qe_C.of (by decide +kernel) (Nat.le_of_ble_eq_true rfl) ?_
  show qe_J l G MX8_order 0 [(0, .ref 0), (1, .int v1)] [] (qs_w s0 (qs_TC G)) (some (.int o.1)) (qs_w o.2 (qs_TC G))
  unfold g_X8_order at h
  refine qe_aload_n dX8_order_0 0 rfl rfl trivial ?_
  refine qe_aload_n dX8_order_1 0 rfl rfl trivial ?_
  refine qs_getR (j := 0) tC_0 rfl fl_RX8_12 dX8_order_2 ?_
  refine qe_iload_n dX8_order_5 1 rfl rfl ?_
  refine qm_b_elim h (fun a2 s1 hc h => ?_)
  refine qe_callV1 (st := [.ref 0]) kk_X8_order_X3_changeOrder (c_X3_changeOrder hc) (qs_at tC_1) rfl rfl rfl (Nat.le_of_ble_eq_true rfl) dX8_order_6 ?_
  refine qm_b_elim h (fun a4 s3 hc h => ?_)
  refine qe_callV1 (st := []) kk_X8_order_X8_answered (c_X8_answered hc) (qs_at tC_0) rfl rfl rfl (Nat.le_of_ble_eq_true rfl) dX8_order_9 ?_
  have e : (a4, s3) = o := Option.some.inj h
  subst e
  exact qe_iret dX8_order_12 rfl

set_option maxRecDepth 20000 in
theorem c_X3_unitAt {l : Launch} {G : qe_G} {v1 : Int32} {s0 : qe_S} {o : Int32 × qe_S} (h : g_X3_unitAt v1 s0 = some o) : qe_C l G MX3_unitAt [.ref 1, .int v1] (qs_w s0 (qs_TC G)) (some (.int o.1)) (qs_w o.2 (qs_TC G)) := by
  refine qe_C.of (by decide +kernel) (Nat.le_of_ble_eq_true rfl) ?_
  show qe_J l G MX3_unitAt 0 [(0, .ref 1), (1, .int v1)] [] (qs_w s0 (qs_TC G)) (some (.int o.1)) (qs_w o.2 (qs_TC G))
  unfold g_X3_unitAt at h
  refine qm_j_elim h (fun j21 ej21 h => ?_)
  have hj21 : ∀  (s1 : qe_S) (o : Int32 × qe_S), j21  s1 = some o → qe_J l G MX3_unitAt 21 [] [] (qs_w s1 (qs_TC G)) (some (.int o.1)) (qs_w o.2 (qs_TC G)) := by
    intro  s1 o h
    subst ej21
    refine qe_iconst (v := (-1 : Int32)) dX3_unitAt_21 rfl ?_
    have e : ((-1 : Int32), s1) = o := Option.some.inj h
    subst e
    exact qe_iret dX3_unitAt_22 rfl
  refine qe_iload_n dX3_unitAt_0 1 rfl rfl ?_
  refine qe_if_lt (tgt := 21) dX3_unitAt_1 rfl h (fun _ h => ?_) (fun _ h => ?_)
  · refine qe_sub [] rfl ?_
    exact hj21  _ _ h
  · refine qe_iload_n dX3_unitAt_4 1 rfl rfl ?_
    refine qe_aload_n dX3_unitAt_5 0 rfl rfl trivial ?_
    refine qs_getI (j := 0) tC_1 rfl fl_RX3_9 dX3_unitAt_6 ?_
    refine qe_icmp_ge (tgt := 21) dX3_unitAt_9 rfl h (fun _ h => ?_) (fun _ h => ?_)
    · refine qe_sub [] rfl ?_
      exact hj21  _ _ h
    · refine qe_aload_n dX3_unitAt_12 0 rfl rfl trivial ?_
      refine qs_getR (j := 6) tC_1 rfl fl_RX3_31 dX3_unitAt_13 ?_
      refine qe_iload_n dX3_unitAt_16 1 rfl rfl ?_
      refine qs_ild tC_5 dX3_unitAt_17 h (fun a2 h => ?_)
      refine qe_goto (tgt := 22) dX3_unitAt_18 rfl ?_
      have e : (a2, s0) = o := Option.some.inj h
      subst e
      exact qe_iret dX3_unitAt_22 rfl

set_option maxRecDepth 20000 in
theorem c_X8_at {l : Launch} {G : qe_G} {v1 : Int32} {s0 : qe_S} {o : Int32 × qe_S} (h : g_X8_at v1 s0 = some o) : qe_C l G MX8_at [.ref 0, .int v1] (qs_w s0 (qs_TC G)) (some (.int o.1)) (qs_w o.2 (qs_TC G)) := by
  refine qe_C.of (by decide +kernel) (Nat.le_of_ble_eq_true rfl) ?_
  show qe_J l G MX8_at 0 [(0, .ref 0), (1, .int v1)] [] (qs_w s0 (qs_TC G)) (some (.int o.1)) (qs_w o.2 (qs_TC G))
  unfold g_X8_at at h
  refine qe_aload_n dX8_at_0 0 rfl rfl trivial ?_
  refine qe_aload_n dX8_at_1 0 rfl rfl trivial ?_
  refine qs_getR (j := 0) tC_0 rfl fl_RX8_12 dX8_at_2 ?_
  refine qe_iload_n dX8_at_5 1 rfl rfl ?_
  refine qm_b_elim h (fun a2 s1 hc h => ?_)
  refine qe_callV1 (st := [.ref 0]) kk_X8_at_X3_unitAt (c_X3_unitAt hc) (qs_at tC_1) rfl rfl rfl (Nat.le_of_ble_eq_true rfl) dX8_at_6 ?_
  refine qm_b_elim h (fun a4 s3 hc h => ?_)
  refine qe_callV1 (st := []) kk_X8_at_X8_answered (c_X8_answered hc) (qs_at tC_0) rfl rfl rfl (Nat.le_of_ble_eq_true rfl) dX8_at_9 ?_
  have e : (a4, s3) = o := Option.some.inj h
  subst e
  exact qe_iret dX8_at_12 rfl

set_option maxRecDepth 20000 in
theorem c_X3_exchange {l : Launch} {G : qe_G} {v1 : Int32} {v2 : Int32} {s0 : qe_S} {o : Int32 × qe_S} (h : g_X3_exchange v1 v2 s0 = some o) : qe_C l G MX3_exchange [.ref 1, .int v1, .int v2] (qs_w s0 (qs_TC G)) (some (.int o.1)) (qs_w o.2 (qs_TC G)) := by
  refine qe_C.of (by decide +kernel) (Nat.le_of_ble_eq_true rfl) ?_
  show qe_J l G MX3_exchange 0 [(0, .ref 1), (1, .int v1), (2, .int v2)] [] (qs_w s0 (qs_TC G)) (some (.int o.1)) (qs_w o.2 (qs_TC G))
  unfold g_X3_exchange at h
  refine qe_aload_n dX3_exchange_0 0 rfl rfl trivial ?_
  refine qe_iload_n dX3_exchange_1 1 rfl rfl ?_
  refine qm_b_elim h (fun a2 s1 hc h => ?_)
  refine qe_callV1 (st := []) kk_X3_exchange_X3_has (c_X3_has hc) (qs_at tC_1) rfl rfl rfl (Nat.le_of_ble_eq_true rfl) dX3_exchange_2 ?_
  refine qe_if_eq (tgt := 16) dX3_exchange_5 rfl h (fun _ h => ?_) (fun _ h => ?_)
  · refine qe_iconst (v := (-1 : Int32)) dX3_exchange_16 rfl ?_
    have e : ((-1 : Int32), s1) = o := Option.some.inj h
    subst e
    exact qe_iret dX3_exchange_17 rfl
  · refine qe_aload_n dX3_exchange_8 0 rfl rfl trivial ?_
    refine qe_iload_n dX3_exchange_9 2 rfl rfl ?_
    refine qm_b_elim h (fun a4 s3 hc h => ?_)
    refine qe_callV1 (st := []) kk_X3_exchange_X3_has (c_X3_has hc) (qs_at tC_1) rfl rfl rfl (Nat.le_of_ble_eq_true rfl) dX3_exchange_10 ?_
    refine qe_if_ne (tgt := 18) dX3_exchange_13 rfl h (fun _ h => ?_) (fun _ h => ?_)
    · refine qe_iload_n dX3_exchange_18 1 rfl rfl ?_
      refine qe_iload_n dX3_exchange_19 2 rfl rfl ?_
      refine qe_icmp_ne (tgt := 26) dX3_exchange_20 rfl h (fun _ h => ?_) (fun _ h => ?_)
      · refine qe_aload_n dX3_exchange_26 0 rfl rfl trivial ?_
        refine qs_getR (j := 5) tC_1 rfl fl_RX3_28 dX3_exchange_27 ?_
        refine qe_iload_n dX3_exchange_30 1 rfl rfl ?_
        refine qs_ild tC_4 dX3_exchange_31 h (fun a5 h => ?_)
        refine qe_istore_n (lv' := [(3, .int a5), (0, .ref 1), (1, .int v1), (2, .int v2)]) dX3_exchange_32 rfl rfl (Nat.le_of_ble_eq_true rfl) ?_
        refine qe_aload_n dX3_exchange_33 1 rfl rfl trivial ?_
        refine qs_getR (j := 5) tC_1 rfl fl_RX3_28 dX3_exchange_34 ?_
        refine qe_iload_n dX3_exchange_37 2 rfl rfl ?_
        refine qe_aload_n dX3_exchange_38 1 rfl rfl trivial ?_
        refine qs_getR (j := 5) tC_1 rfl fl_RX3_28 dX3_exchange_39 ?_
        refine qe_iload_n dX3_exchange_42 3 rfl rfl ?_
        refine qs_ild tC_4 dX3_exchange_43 h (fun a6 h => ?_)
        refine qs_ist tC_4 dX3_exchange_44 h (fun s7 h => ?_)
        refine qe_aload_n dX3_exchange_45 1 rfl rfl trivial ?_
        refine qs_getR (j := 5) tC_1 rfl fl_RX3_28 dX3_exchange_46 ?_
        refine qe_iload_n dX3_exchange_49 3 rfl rfl ?_
        refine qe_iload_n dX3_exchange_50 0 rfl rfl ?_
        refine qs_ist tC_4 dX3_exchange_51 h (fun s8 h => ?_)
        refine qe_aload_n dX3_exchange_52 1 rfl rfl trivial ?_
        refine qm_o_elim h (fun s9 hc h => ?_)
        refine qe_callV0 (st := []) kk_X3_exchange_X3_arrange (c_X3_arrange hc) (qs_at tC_1) rfl rfl rfl (Nat.le_of_ble_eq_true rfl) dX3_exchange_53 ?_
        refine qe_aload_n dX3_exchange_56 1 rfl rfl trivial ?_
        refine qs_getR (j := 5) tC_1 rfl fl_RX3_28 dX3_exchange_57 ?_
        refine qe_iload_n dX3_exchange_60 2 rfl rfl ?_
        refine qs_ild tC_4 dX3_exchange_61 h (fun a10 h => ?_)
        have e : (a10, s9) = o := Option.some.inj h
        subst e
        exact qe_iret dX3_exchange_62 rfl
      · refine qe_bipush (v := (-5 : Int32)) dX3_exchange_23 rfl ?_
        have e : ((-5 : Int32), s3) = o := Option.some.inj h
        subst e
        exact qe_iret dX3_exchange_25 rfl
    · refine qe_iconst (v := (-1 : Int32)) dX3_exchange_16 rfl ?_
      have e : ((-1 : Int32), s3) = o := Option.some.inj h
      subst e
      exact qe_iret dX3_exchange_17 rfl

set_option maxRecDepth 20000 in
theorem c_X8_swap {l : Launch} {G : qe_G} {v1 : Int32} {v2 : Int32} {s0 : qe_S} {o : Int32 × qe_S} (h : g_X8_swap v1 v2 s0 = some o) : qe_C l G MX8_swap [.ref 0, .int v1, .int v2] (qs_w s0 (qs_TC G)) (some (.int o.1)) (qs_w o.2 (qs_TC G)) := by
  refine qe_C.of (by decide +kernel) (Nat.le_of_ble_eq_true rfl) ?_
  show qe_J l G MX8_swap 0 [(0, .ref 0), (1, .int v1), (2, .int v2)] [] (qs_w s0 (qs_TC G)) (some (.int o.1)) (qs_w o.2 (qs_TC G))
  unfold g_X8_swap at h
  refine qe_aload_n dX8_swap_0 0 rfl rfl trivial ?_
  refine qe_aload_n dX8_swap_1 0 rfl rfl trivial ?_
  refine qs_getR (j := 0) tC_0 rfl fl_RX8_12 dX8_swap_2 ?_
  refine qe_iload_n dX8_swap_5 1 rfl rfl ?_
  refine qe_iload_n dX8_swap_6 2 rfl rfl ?_
  refine qm_b_elim h (fun a2 s1 hc h => ?_)
  refine qe_callV1 (st := [.ref 0]) kk_X8_swap_X3_exchange (c_X3_exchange hc) (qs_at tC_1) rfl rfl rfl (Nat.le_of_ble_eq_true rfl) dX8_swap_7 ?_
  refine qm_b_elim h (fun a4 s3 hc h => ?_)
  refine qe_callV1 (st := []) kk_X8_swap_X8_answered (c_X8_answered hc) (qs_at tC_0) rfl rfl rfl (Nat.le_of_ble_eq_true rfl) dX8_swap_10 ?_
  have e : (a4, s3) = o := Option.some.inj h
  subst e
  exact qe_iret dX8_swap_13 rfl

set_option maxRecDepth 20000 in
theorem c_X3_commonMultiple {l : Launch} {G : qe_G} {v0 : Int64} {v2 : Int64} {s0 : qe_S} {o : Int64 × qe_S} (h : g_X3_commonMultiple v0 v2 s0 = some o) : qe_C l G MX3_commonMultiple [.long v0, .long v2] (qs_w s0 (qs_TC G)) (some (.long o.1)) (qs_w o.2 (qs_TC G)) := by
  refine qe_C.of (by decide +kernel) (Nat.le_of_ble_eq_true rfl) ?_
  show qe_J l G MX3_commonMultiple 0 [(0, .long v0), (2, .long v2)] [] (qs_w s0 (qs_TC G)) (some (.long o.1)) (qs_w o.2 (qs_TC G))
  unfold g_X3_commonMultiple at h
  refine qe_lload_n dX3_commonMultiple_0 0 rfl rfl ?_
  refine qe_lload_n dX3_commonMultiple_1 1 rfl rfl ?_
  refine qm_b_elim h (fun b2 s1 hc h => ?_)
  refine qe_callN1 (st := []) kk_X3_commonMultiple_X8_gcd (c_X8_gcd hc) rfl rfl (Nat.le_of_ble_eq_true rfl) dX3_commonMultiple_2 ?_
  refine qe_lstore (lv' := [(4, .long b2), (0, .long v0), (2, .long v2)]) dX3_commonMultiple_5 rfl (Nat.le_of_ble_eq_true rfl) ?_
  refine qe_lload dX3_commonMultiple_7 0 rfl ?_
  refine qe_lconst (v := 1) dX3_commonMultiple_9 rfl ?_
  refine qe_lcmp_ge (tgt := 18) dX3_commonMultiple_10 dX3_commonMultiple_11 rfl h (fun _ h => ?_) (fun _ h => ?_)
  · refine qe_lload_n dX3_commonMultiple_18 1 rfl rfl ?_
    refine qe_lload dX3_commonMultiple_19 0 rfl ?_
    refine qe_ldiv dX3_commonMultiple_21 h (fun h => ?_)
    refine qe_lload_n dX3_commonMultiple_22 2 rfl rfl ?_
    refine qe_lmul dX3_commonMultiple_23 ?_
    have e : (((v0 / b2) * v2), s1) = o := Option.some.inj h
    subst e
    exact qe_lret dX3_commonMultiple_24 rfl
  · refine qe_lconst (v := 0) dX3_commonMultiple_14 rfl ?_
    refine qe_goto (tgt := 24) dX3_commonMultiple_15 rfl ?_
    have e : ((0 : Int64), s1) = o := Option.some.inj h
    subst e
    exact qe_lret dX3_commonMultiple_24 rfl

set_option maxRecDepth 20000 in
theorem c_X3_partsOf {l : Launch} {G : qe_G} {v1 : Int32} {v2 : Int32} {v3 : Int64} {s0 : qe_S} {o : Int64 × qe_S} (h : g_X3_partsOf v1 v2 v3 s0 = some o) : qe_C l G MX3_partsOf [.ref 1, .int v1, .int v2, .long v3] (qs_w s0 (qs_TC G)) (some (.long o.1)) (qs_w o.2 (qs_TC G)) := by
  refine qe_C.of (by decide +kernel) (Nat.le_of_ble_eq_true rfl) ?_
  show qe_J l G MX3_partsOf 0 [(0, .ref 1), (1, .int v1), (2, .int v2), (3, .long v3)] [] (qs_w s0 (qs_TC G)) (some (.long o.1)) (qs_w o.2 (qs_TC G))
  unfold g_X3_partsOf at h
  refine qe_aload_n dX3_partsOf_0 0 rfl rfl trivial ?_
  refine qe_iload_n dX3_partsOf_1 1 rfl rfl ?_
  refine qe_iload_n dX3_partsOf_2 2 rfl rfl ?_
  refine qm_b_elim h (fun a2 s1 hc h => ?_)
  refine qe_callV1 (st := []) kk_X3_partsOf_X3_below (c_X3_below hc) (qs_at tC_1) rfl rfl rfl (Nat.le_of_ble_eq_true rfl) dX3_partsOf_3 ?_
  refine qe_istore (lv' := [(5, .int a2), (0, .ref 1), (1, .int v1), (2, .int v2), (3, .long v3)]) dX3_partsOf_6 rfl (Nat.le_of_ble_eq_true rfl) ?_
  refine qe_iload dX3_partsOf_8 0 rfl ?_
  refine qe_iconst (v := (1 : Int32)) dX3_partsOf_10 rfl ?_
  refine qe_icmp_ge (tgt := 18) dX3_partsOf_11 rfl h (fun _ h => ?_) (fun _ h => ?_)
  · refine qe_aload_n dX3_partsOf_18 1 rfl rfl trivial ?_
    refine qe_iload_n dX3_partsOf_19 2 rfl rfl ?_
    refine qe_iload_n dX3_partsOf_20 3 rfl rfl ?_
    refine qm_b_elim h (fun a4 s3 hc h => ?_)
    refine qe_callV1 (st := []) kk_X3_partsOf_X3_above (c_X3_above hc) (qs_at tC_1) rfl rfl rfl (Nat.le_of_ble_eq_true rfl) dX3_partsOf_21 ?_
    refine qe_i2l dX3_partsOf_24 ?_
    refine qe_lload_n dX3_partsOf_25 4 rfl rfl ?_
    refine qe_iload dX3_partsOf_26 0 rfl ?_
    refine qe_i2l dX3_partsOf_28 ?_
    refine qe_ldiv dX3_partsOf_29 h (fun h => ?_)
    refine qe_lmul dX3_partsOf_30 ?_
    have e : ((a4.toInt64 * (v3 / a2.toInt64)), s3) = o := Option.some.inj h
    subst e
    exact qe_lret dX3_partsOf_31 rfl
  · refine qe_lconst (v := 0) dX3_partsOf_14 rfl ?_
    refine qe_goto (tgt := 31) dX3_partsOf_15 rfl ?_
    have e : ((0 : Int64), s1) = o := Option.some.inj h
    subst e
    exact qe_lret dX3_partsOf_31 rfl

set_option maxRecDepth 20000 in
theorem c_X3_partsOfAll_L6 {l : Launch} {G : qe_G} {v1 : Int32} {v2 : Int64} : ∀ (n : Nat) (v4 : Int64) (v6 : Int32) (s0 : qe_S) (o : Int64 × qe_S), g_X3_partsOfAll_L6 v1 v2 n v4 v6 s0 = some o → qe_J l G MX3_partsOfAll 6 [(0, .ref 1), (1, .int v1), (2, .long v2), (4, .long v4), (6, .int v6)] [] (qs_w s0 (qs_TC G)) (some (.long o.1)) (qs_w o.2 (qs_TC G)) := by
  intro n
  induction n with
  | zero =>
    intro v4 v6 s0 o h
    rw [g_X3_partsOfAll_L6] at h
    cases h
  | succ n ih =>
    intro v4 v6 s0 o h
    rw [g_X3_partsOfAll_L6] at h
    refine qe_iload dX3_partsOfAll_6 4 rfl ?_
    refine qe_aload_n dX3_partsOfAll_8 0 rfl rfl trivial ?_
    refine qs_getI (j := 0) tC_1 rfl fl_RX3_9 dX3_partsOfAll_9 ?_
    refine qe_icmp_ge (tgt := 34) dX3_partsOfAll_12 rfl h (fun _ h => ?_) (fun _ h => ?_)
    · refine qe_lload dX3_partsOfAll_34 3 rfl ?_
      have e : (v4, s0) = o := Option.some.inj h
      subst e
      exact qe_lret dX3_partsOfAll_36 rfl
    · refine qe_lload dX3_partsOfAll_15 3 rfl ?_
      refine qe_aload_n dX3_partsOfAll_17 0 rfl rfl trivial ?_
      refine qe_iload dX3_partsOfAll_18 4 rfl ?_
      refine qe_iload_n dX3_partsOfAll_20 1 rfl rfl ?_
      refine qe_lload_n dX3_partsOfAll_21 2 rfl rfl ?_
      refine qm_b_elim h (fun b4 s3 hc h => ?_)
      refine qe_callV1 (st := [.long v4]) kk_X3_partsOfAll_X3_partsOf (c_X3_partsOf hc) (qs_at tC_1) rfl rfl rfl (Nat.le_of_ble_eq_true rfl) dX3_partsOfAll_22 ?_
      refine qe_ladd dX3_partsOfAll_25 ?_
      refine qe_let_l h (fun b5 h => ?_)
      refine qe_lstore (lv' := [(4, .long b5), (0, .ref 1), (1, .int v1), (2, .long v2), (6, .int v6)]) dX3_partsOfAll_26 rfl (Nat.le_of_ble_eq_true rfl) ?_
      refine qe_iincl (lv' := fun a6 => [(6, .int a6), (4, .long b5), (0, .ref 1), (1, .int v1), (2, .long v2)]) dX3_partsOfAll_28 4 rfl rfl (fun _ => rfl) (Nat.le_of_ble_eq_true rfl) h (fun a6 h => ?_)
      refine qe_goto (tgt := 6) dX3_partsOfAll_31 rfl ?_
      refine qe_sub [2, 3, 4, 1, 0] rfl ?_
      exact ih _ _ _ _ h

set_option maxRecDepth 20000 in
theorem c_X3_partsOfAll {l : Launch} {G : qe_G} {v1 : Int32} {v2 : Int64} {s0 : qe_S} {o : Int64 × qe_S} (h : g_X3_partsOfAll v1 v2 s0 = some o) : qe_C l G MX3_partsOfAll [.ref 1, .int v1, .long v2] (qs_w s0 (qs_TC G)) (some (.long o.1)) (qs_w o.2 (qs_TC G)) := by
  refine qe_C.of (by decide +kernel) (Nat.le_of_ble_eq_true rfl) ?_
  show qe_J l G MX3_partsOfAll 0 [(0, .ref 1), (1, .int v1), (2, .long v2)] [] (qs_w s0 (qs_TC G)) (some (.long o.1)) (qs_w o.2 (qs_TC G))
  unfold g_X3_partsOfAll at h
  refine qe_lconst (v := 0) dX3_partsOfAll_0 rfl ?_
  refine qe_let_l h (fun b1 h => ?_)
  refine qe_lstore (lv' := [(4, .long b1), (0, .ref 1), (1, .int v1), (2, .long v2)]) dX3_partsOfAll_1 rfl (Nat.le_of_ble_eq_true rfl) ?_
  refine qe_iconst (v := (0 : Int32)) dX3_partsOfAll_3 rfl ?_
  refine qe_let_i h (fun a2 h => ?_)
  refine qe_istore (lv' := [(6, .int a2), (4, .long b1), (0, .ref 1), (1, .int v1), (2, .long v2)]) dX3_partsOfAll_4 rfl (Nat.le_of_ble_eq_true rfl) ?_
  refine qe_sub [2, 3, 4, 1, 0] rfl ?_
  refine c_X3_partsOfAll_L6 _ _ _ _ _ h

set_option maxRecDepth 20000 in
theorem c_X3_places_L5 {l : Launch} {G : qe_G} {k74 : Int64 → qe_S → Option (Int64 × qe_S)} {v1 : Int32} (hk74 : ∀ (b3 : Int64) (s : qe_S) (o : Int64 × qe_S), k74 b3 s = some o → qe_J l G MX3_places 74 [(0, .ref 1), (1, .int v1), (2, .long b3)] [] (qs_w s (qs_TC G)) (some (.long o.1)) (qs_w o.2 (qs_TC G))) : ∀ (n : Nat) (v2 : Int64) (v4 : Int32) (s0 : qe_S) (o : Int64 × qe_S), g_X3_places_L5 k74 v1 n v2 v4 s0 = some o → qe_J l G MX3_places 5 [(0, .ref 1), (1, .int v1), (2, .long v2), (4, .int v4)] [] (qs_w s0 (qs_TC G)) (some (.long o.1)) (qs_w o.2 (qs_TC G)) := by
  intro n
  induction n with
  | zero =>
    intro v2 v4 s0 o h
    rw [g_X3_places_L5] at h
    cases h
  | succ n ih =>
    intro v2 v4 s0 o h
    rw [g_X3_places_L5] at h
    refine qe_iload dX3_places_5 3 rfl ?_
    refine qe_aload_n dX3_places_7 0 rfl rfl trivial ?_
    refine qs_getI (j := 0) tC_1 rfl fl_RX3_9 dX3_places_8 ?_
    refine qe_icmp_ge (tgt := 74) dX3_places_11 rfl h (fun _ h => ?_) (fun _ h => ?_)
    · refine qe_sub [0, 1, 2] rfl ?_
      exact hk74 _ _ _ h
    · refine qm_j_elim h (fun j28 ej28 h => ?_)
      have hj28 : ∀ (q4 : Int32) (q5 : Int32) (q6 : Int64) (s7 : qe_S) (o : Int64 × qe_S), j28 q4 q5 q6 s7 = some o → qe_J l G MX3_places 28 [(0, .ref 1), (1, .int v1), (4, .int v4)] [.int q4, .int q5, .ref 1, .long q6] (qs_w s7 (qs_TC G)) (some (.long o.1)) (qs_w o.2 (qs_TC G)) := by
        intro q4 q5 q6 s7 o h
        subst ej28
        refine qm_j_elim h (fun j57 ej57 h => ?_)
        have hj57 : ∀ (q8 : Int64) (s9 : qe_S) (o : Int64 × qe_S), j57 q8 s9 = some o → qe_J l G MX3_places 57 [(0, .ref 1), (1, .int v1), (4, .int v4)] [.long q8] (qs_w s9 (qs_TC G)) (some (.long o.1)) (qs_w o.2 (qs_TC G)) := by
          intro q8 s9 o h
          subst ej57
          refine qe_lstore_n (lv' := [(2, .long q8), (0, .ref 1), (1, .int v1), (4, .int v4)]) dX3_places_57 rfl rfl (Nat.le_of_ble_eq_true rfl) ?_
          refine qe_lload_n dX3_places_58 0 rfl rfl ?_
          refine qe_ldc2 kc_RX3_92 dX3_places_59 ?_
          refine qe_lcmp_le (tgt := 68) dX3_places_62 dX3_places_63 rfl h (fun _ h => ?_) (fun _ h => ?_)
          · refine qe_iincl (lv' := fun a10 => [(4, .int a10), (2, .long q8), (0, .ref 1), (1, .int v1)]) dX3_places_68 3 rfl rfl (fun _ => rfl) (Nat.le_of_ble_eq_true rfl) h (fun a10 h => ?_)
            refine qe_goto (tgt := 5) dX3_places_71 rfl ?_
            refine qe_sub [2, 3, 1, 0] rfl ?_
            exact ih _ _ _ _ h
          · refine qe_lconst (v := 0) dX3_places_66 rfl ?_
            have e : ((0 : Int64), s9) = o := Option.some.inj h
            subst e
            exact qe_lret dX3_places_67 rfl
        refine qm_b_elim h (fun a12 s11 hc h => ?_)
        refine qe_callV1 (st := [.long q6]) kk_X3_places_X3_below (c_X3_below hc) (qs_at tC_1) rfl rfl rfl (Nat.le_of_ble_eq_true rfl) dX3_places_28 ?_
        refine qe_i2l dX3_places_31 ?_
        refine qm_b_elim h (fun b14 s13 hc h => ?_)
        refine qe_callS1 (st := []) kk_X3_places_X3_commonMultiple (c_X3_commonMultiple hc) rfl rfl (Nat.le_of_ble_eq_true rfl) dX3_places_32 ?_
        refine qe_lstore_n (lv' := [(2, .long b14), (0, .ref 1), (1, .int v1), (4, .int v4)]) dX3_places_35 rfl rfl (Nat.le_of_ble_eq_true rfl) ?_
        refine qe_iload_n dX3_places_36 2 rfl rfl ?_
        refine qe_iconst (v := (nI 2)) dX3_places_37 rfl ?_
        refine qe_icmp_ne (tgt := 56) dX3_places_38 rfl h (fun _ h => ?_) (fun _ h => ?_)
        · refine qe_lload_n dX3_places_56 0 rfl rfl ?_
          refine qe_sub [1, 2, 3] rfl ?_
          exact hj57 _ _ _ h
        · refine qe_lload_n dX3_places_41 0 rfl rfl ?_
          refine qe_aload_n dX3_places_42 1 rfl rfl trivial ?_
          refine qe_iload dX3_places_43 3 rfl ?_
          refine qe_iconst (v := (nI 2)) dX3_places_45 rfl ?_
          refine qm_b_elim h (fun a16 s15 hc h => ?_)
          refine qe_callV1 (st := [.long b14]) kk_X3_places_X3_below (c_X3_below hc) (qs_at tC_1) rfl rfl rfl (Nat.le_of_ble_eq_true rfl) dX3_places_46 ?_
          refine qe_i2l dX3_places_49 ?_
          refine qm_b_elim h (fun b18 s17 hc h => ?_)
          refine qe_callS1 (st := []) kk_X3_places_X3_commonMultiple (c_X3_commonMultiple hc) rfl rfl (Nat.le_of_ble_eq_true rfl) dX3_places_50 ?_
          refine qe_goto (tgt := 57) dX3_places_53 rfl ?_
          refine qe_sub [1, 2, 3] rfl ?_
          exact hj57 _ _ _ h
      refine qe_lload_n dX3_places_14 2 rfl rfl ?_
      refine qe_aload_n dX3_places_15 0 rfl rfl trivial ?_
      refine qe_iload dX3_places_16 3 rfl ?_
      refine qe_iload_n dX3_places_18 1 rfl rfl ?_
      refine qe_iconst (v := (1 : Int32)) dX3_places_19 rfl ?_
      refine qe_icmp_ne (tgt := 27) dX3_places_20 rfl h (fun _ h => ?_) (fun _ h => ?_)
      · refine qe_iconst (v := (0 : Int32)) dX3_places_27 rfl ?_
        refine qe_sub [0, 1, 3] rfl ?_
        exact hj28 _ _ _ _ _ h
      · refine qe_iconst (v := (1 : Int32)) dX3_places_23 rfl ?_
        refine qe_goto (tgt := 28) dX3_places_24 rfl ?_
        refine qe_sub [0, 1, 3] rfl ?_
        exact hj28 _ _ _ _ _ h

set_option maxRecDepth 20000 in
theorem c_X3_places {l : Launch} {G : qe_G} {v1 : Int32} {s0 : qe_S} {o : Int64 × qe_S} (h : g_X3_places v1 s0 = some o) : qe_C l G MX3_places [.ref 1, .int v1] (qs_w s0 (qs_TC G)) (some (.long o.1)) (qs_w o.2 (qs_TC G)) := by
  refine qe_C.of (by decide +kernel) (Nat.le_of_ble_eq_true rfl) ?_
  show qe_J l G MX3_places 0 [(0, .ref 1), (1, .int v1)] [] (qs_w s0 (qs_TC G)) (some (.long o.1)) (qs_w o.2 (qs_TC G))
  unfold g_X3_places at h
  refine qe_lconst (v := 1) dX3_places_0 rfl ?_
  refine qe_let_l h (fun b1 h => ?_)
  refine qe_lstore_n (lv' := [(2, .long b1), (0, .ref 1), (1, .int v1)]) dX3_places_1 rfl rfl (Nat.le_of_ble_eq_true rfl) ?_
  refine qe_iconst (v := (0 : Int32)) dX3_places_2 rfl ?_
  refine qe_let_i h (fun a2 h => ?_)
  refine qe_istore (lv' := [(4, .int a2), (2, .long b1), (0, .ref 1), (1, .int v1)]) dX3_places_3 rfl (Nat.le_of_ble_eq_true rfl) ?_
  refine qe_sub [2, 3, 1, 0] rfl ?_
  refine c_X3_places_L5
    (fun b19 s20 o h => ?_) _ _ _ _ _ h
  refine qm_j_elim h (fun j110 ej110 h => ?_)
  have hj110 : ∀ (q21 : Int32) (s22 : qe_S) (o : Int64 × qe_S), j110 q21 s22 = some o → qe_J l G MX3_places 110 [(2, .long b19)] [.int q21] (qs_w s22 (qs_TC G)) (some (.long o.1)) (qs_w o.2 (qs_TC G)) := by
    intro q21 s22 o h
    subst ej110
    refine qe_istore (lv' := [(4, .int q21), (2, .long b19)]) dX3_places_110 rfl (Nat.le_of_ble_eq_true rfl) ?_
    refine qe_iload dX3_places_112 0 rfl ?_
    refine qe_if_eq (tgt := 121) dX3_places_114 rfl h (fun _ h => ?_) (fun _ h => ?_)
    · refine qe_lload_n dX3_places_121 1 rfl rfl ?_
      have e : (b19, s22) = o := Option.some.inj h
      subst e
      exact qe_lret dX3_places_122 rfl
    · refine qe_lconst (v := 0) dX3_places_117 rfl ?_
      refine qe_goto (tgt := 122) dX3_places_118 rfl ?_
      have e : ((0 : Int64), s22) = o := Option.some.inj h
      subst e
      exact qe_lret dX3_places_122 rfl
  refine qm_j_elim h (fun j105 ej105 h => ?_)
  have hj105 : ∀  (s23 : qe_S) (o : Int64 × qe_S), j105  s23 = some o → qe_J l G MX3_places 105 [(2, .long b19)] [] (qs_w s23 (qs_TC G)) (some (.long o.1)) (qs_w o.2 (qs_TC G)) := by
    intro  s23 o h
    subst ej105
    refine qe_iconst (v := (1 : Int32)) dX3_places_105 rfl ?_
    refine qe_goto (tgt := 110) dX3_places_106 rfl ?_
    exact hj110 _ _ _ h
  refine qe_aload_n dX3_places_74 0 rfl rfl trivial ?_
  refine qe_iload_n dX3_places_75 1 rfl rfl ?_
  refine qe_lload_n dX3_places_76 2 rfl rfl ?_
  refine qm_b_elim h (fun b25 s24 hc h => ?_)
  refine qe_callV1 (st := []) kk_X3_places_X3_partsOfAll (c_X3_partsOfAll hc) (qs_at tC_1) rfl rfl rfl (Nat.le_of_ble_eq_true rfl) dX3_places_77 ?_
  refine qe_ldc2 kc_RX3_92 dX3_places_80 ?_
  refine qe_lcmp_gt (tgt := 105) dX3_places_83 dX3_places_84 rfl h (fun _ h => ?_) (fun _ h => ?_)
  · refine qe_sub [2] rfl ?_
    exact hj105  _ _ h
  · refine qm_j_elim h (fun j109 ej109 h => ?_)
    have hj109 : ∀  (s26 : qe_S) (o : Int64 × qe_S), j109  s26 = some o → qe_J l G MX3_places 109 [(2, .long b19)] [] (qs_w s26 (qs_TC G)) (some (.long o.1)) (qs_w o.2 (qs_TC G)) := by
      intro  s26 o h
      subst ej109
      refine qe_iconst (v := (0 : Int32)) dX3_places_109 rfl ?_
      exact hj110 _ _ _ h
    refine qe_iload_n dX3_places_87 1 rfl rfl ?_
    refine qe_iconst (v := (nI 2)) dX3_places_88 rfl ?_
    refine qe_icmp_ne (tgt := 109) dX3_places_89 rfl h (fun _ h => ?_) (fun _ h => ?_)
    · refine qe_sub [2] rfl ?_
      exact hj109  _ _ h
    · refine qe_aload_n dX3_places_92 0 rfl rfl trivial ?_
      refine qe_iconst (v := (0 : Int32)) dX3_places_93 rfl ?_
      refine qe_lload_n dX3_places_94 2 rfl rfl ?_
      refine qm_b_elim h (fun b28 s27 hc h => ?_)
      refine qe_callV1 (st := []) kk_X3_places_X3_partsOfAll (c_X3_partsOfAll hc) (qs_at tC_1) rfl rfl rfl (Nat.le_of_ble_eq_true rfl) dX3_places_95 ?_
      refine qe_ldc2 kc_RX3_92 dX3_places_98 ?_
      refine qe_lcmp_le (tgt := 109) dX3_places_101 dX3_places_102 rfl h (fun _ h => ?_) (fun _ h => ?_)
      · refine qe_sub [2] rfl ?_
        exact hj109  _ _ h
      · refine qe_sub [2] rfl ?_
        exact hj105  _ _ h

