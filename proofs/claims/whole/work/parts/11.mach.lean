/-! THE MACHINE: the methods meet their models (printed by wip/whole/gen/decomp.py) -/
set_option maxRecDepth 20000 in
theorem c_X8_common {l : Launch} {G : qe_G} {v1 : Int32} {s0 : qe_S} {o : Int32 × qe_S} (h : g_X8_common v1 s0 = some o) : qe_C l G MX8_common [.ref 0, .int v1] (qs_w s0 (qs_TC G)) (some (.int o.1)) (qs_w o.2 (qs_TC G)) := by
  refine qe_C.of (by decide +kernel) (Nat.le_of_ble_eq_true rfl) ?_
  show qe_J l G MX8_common 0 [(0, .ref 0), (1, .int v1)] [] (qs_w s0 (qs_TC G)) (some (.int o.1)) (qs_w o.2 (qs_TC G))
  unfold g_X8_common at h
  refine qe_iload_n dX8_common_0 1 rfl rfl ?_
  refine qm_b_elim h (fun a2 s1 hc h => ?_)
  refine qe_callS1 (st := []) kk_X8_common_X8_isRow (c_X8_isRow hc) rfl rfl (Nat.le_of_ble_eq_true rfl) dX8_common_1 ?_
  refine qe_if_ne (tgt := 13) dX8_common_4 rfl h (fun _ h => ?_) (fun _ h => ?_)
  · refine qe_aload_n dX8_common_13 0 rfl rfl trivial ?_
    refine qs_getR (j := 0) tC_0 rfl fl_RX8_12 dX8_common_14 ?_
    refine qe_iload_n dX8_common_17 1 rfl rfl ?_
    refine qm_b_elim h (fun b4 s3 hc h => ?_)
    refine qe_callV1 (st := []) kk_X8_common_X3_places (c_X3_places hc) (qs_at tC_1) rfl rfl rfl (Nat.le_of_ble_eq_true rfl) dX8_common_18 ?_
    refine qe_lstore_n (lv' := [(2, .long b4), (0, .ref 0), (1, .int v1)]) dX8_common_21 rfl rfl (Nat.le_of_ble_eq_true rfl) ?_
    refine qe_lload_n dX8_common_22 0 rfl rfl ?_
    refine qe_lconst (v := 0) dX8_common_23 rfl ?_
    refine qe_lcmp_le (tgt := 33) dX8_common_24 dX8_common_25 rfl h (fun _ h => ?_) (fun _ h => ?_)
    · refine qe_aload_n dX8_common_33 1 rfl rfl trivial ?_
      refine qe_bipush (v := (-7 : Int32)) dX8_common_34 rfl ?_
      refine qm_b_elim h (fun a6 s5 hc h => ?_)
      refine qe_callV1 (st := []) kk_X8_common_X8_refuse (c_X8_refuse hc) (qs_at tC_0) rfl rfl rfl (Nat.le_of_ble_eq_true rfl) dX8_common_36 ?_
      have e : (a6, s5) = o := Option.some.inj h
      subst e
      exact qe_iret dX8_common_39 rfl
    · refine qe_lload_n dX8_common_28 0 rfl rfl ?_
      refine qe_l2i dX8_common_29 ?_
      refine qe_goto (tgt := 39) dX8_common_30 rfl ?_
      have e : (b4.toInt32, s3) = o := Option.some.inj h
      subst e
      exact qe_iret dX8_common_39 rfl
  · refine qe_aload_n dX8_common_7 0 rfl rfl trivial ?_
    refine qe_iconst (v := (-1 : Int32)) dX8_common_8 rfl ?_
    refine qm_b_elim h (fun a8 s7 hc h => ?_)
    refine qe_callV1 (st := []) kk_X8_common_X8_refuse (c_X8_refuse hc) (qs_at tC_0) rfl rfl rfl (Nat.le_of_ble_eq_true rfl) dX8_common_9 ?_
    have e : (a8, s7) = o := Option.some.inj h
    subst e
    exact qe_iret dX8_common_12 rfl

set_option maxRecDepth 20000 in
theorem c_X8_parts {l : Launch} {G : qe_G} {v1 : Int32} {s0 : qe_S} {o : Int32 × qe_S} (h : g_X8_parts v1 s0 = some o) : qe_C l G MX8_parts [.ref 0, .int v1] (qs_w s0 (qs_TC G)) (some (.int o.1)) (qs_w o.2 (qs_TC G)) := by
  refine qe_C.of (by decide +kernel) (Nat.le_of_ble_eq_true rfl) ?_
  show qe_J l G MX8_parts 0 [(0, .ref 0), (1, .int v1)] [] (qs_w s0 (qs_TC G)) (some (.int o.1)) (qs_w o.2 (qs_TC G))
  unfold g_X8_parts at h
  refine qe_aload_n dX8_parts_0 0 rfl rfl trivial ?_
  refine qs_getR (j := 0) tC_0 rfl fl_RX8_12 dX8_parts_1 ?_
  refine qe_iload_n dX8_parts_4 1 rfl rfl ?_
  refine qm_b_elim h (fun a2 s1 hc h => ?_)
  refine qe_callV1 (st := []) kk_X8_parts_X3_has (c_X3_has hc) (qs_at tC_1) rfl rfl rfl (Nat.le_of_ble_eq_true rfl) dX8_parts_5 ?_
  refine qe_if_ne (tgt := 17) dX8_parts_8 rfl h (fun _ h => ?_) (fun _ h => ?_)
  · refine qe_aload_n dX8_parts_17 0 rfl rfl trivial ?_
    refine qs_getR (j := 0) tC_0 rfl fl_RX8_12 dX8_parts_18 ?_
    refine qe_iconst (v := (0 : Int32)) dX8_parts_21 rfl ?_
    refine qm_b_elim h (fun b4 s3 hc h => ?_)
    refine qe_callV1 (st := []) kk_X8_parts_X3_places (c_X3_places hc) (qs_at tC_1) rfl rfl rfl (Nat.le_of_ble_eq_true rfl) dX8_parts_22 ?_
    refine qe_lstore_n (lv' := [(2, .long b4), (0, .ref 0), (1, .int v1)]) dX8_parts_25 rfl rfl (Nat.le_of_ble_eq_true rfl) ?_
    refine qe_lload_n dX8_parts_26 0 rfl rfl ?_
    refine qe_lconst (v := 0) dX8_parts_27 rfl ?_
    refine qe_lcmp_le (tgt := 46) dX8_parts_28 dX8_parts_29 rfl h (fun _ h => ?_) (fun _ h => ?_)
    · refine qe_aload_n dX8_parts_46 1 rfl rfl trivial ?_
      refine qe_bipush (v := (-7 : Int32)) dX8_parts_47 rfl ?_
      refine qm_b_elim h (fun a6 s5 hc h => ?_)
      refine qe_callV1 (st := []) kk_X8_parts_X8_refuse (c_X8_refuse hc) (qs_at tC_0) rfl rfl rfl (Nat.le_of_ble_eq_true rfl) dX8_parts_49 ?_
      have e : (a6, s5) = o := Option.some.inj h
      subst e
      exact qe_iret dX8_parts_52 rfl
    · refine qe_aload_n dX8_parts_32 1 rfl rfl trivial ?_
      refine qs_getR (j := 0) tC_0 rfl fl_RX8_12 dX8_parts_33 ?_
      refine qe_iload_n dX8_parts_36 2 rfl rfl ?_
      refine qe_iconst (v := (0 : Int32)) dX8_parts_37 rfl ?_
      refine qe_lload_n dX8_parts_38 0 rfl rfl ?_
      refine qm_b_elim h (fun b8 s7 hc h => ?_)
      refine qe_callV1 (st := []) kk_X8_parts_X3_partsOf (c_X3_partsOf hc) (qs_at tC_1) rfl rfl rfl (Nat.le_of_ble_eq_true rfl) dX8_parts_39 ?_
      refine qe_l2i dX8_parts_42 ?_
      refine qe_goto (tgt := 52) dX8_parts_43 rfl ?_
      have e : (b8.toInt32, s7) = o := Option.some.inj h
      subst e
      exact qe_iret dX8_parts_52 rfl
  · refine qe_aload_n dX8_parts_11 0 rfl rfl trivial ?_
    refine qe_iconst (v := (-1 : Int32)) dX8_parts_12 rfl ?_
    refine qm_b_elim h (fun a10 s9 hc h => ?_)
    refine qe_callV1 (st := []) kk_X8_parts_X8_refuse (c_X8_refuse hc) (qs_at tC_0) rfl rfl rfl (Nat.le_of_ble_eq_true rfl) dX8_parts_13 ?_
    have e : (a10, s9) = o := Option.some.inj h
    subst e
    exact qe_iret dX8_parts_16 rfl

set_option maxRecDepth 20000 in
theorem c_X8_size {l : Launch} {G : qe_G} {v1 : Int32} {s0 : qe_S} {o : Int32 × qe_S} (h : g_X8_size v1 s0 = some o) : qe_C l G MX8_size [.ref 0, .int v1] (qs_w s0 (qs_TC G)) (some (.int o.1)) (qs_w o.2 (qs_TC G)) := by
  refine qe_C.of (by decide +kernel) (Nat.le_of_ble_eq_true rfl) ?_
  show qe_J l G MX8_size 0 [(0, .ref 0), (1, .int v1)] [] (qs_w s0 (qs_TC G)) (some (.int o.1)) (qs_w o.2 (qs_TC G))
  unfold g_X8_size at h
  refine qe_iload_n dX8_size_0 1 rfl rfl ?_
  refine qe_if_lt (tgt := 9) dX8_size_1 rfl h (fun _ h => ?_) (fun _ h => ?_)
  · refine qe_aload_n dX8_size_9 0 rfl rfl trivial ?_
    refine qe_iconst (v := (-1 : Int32)) dX8_size_10 rfl ?_
    refine qm_b_elim h (fun a2 s1 hc h => ?_)
    refine qe_callV1 (st := []) kk_X8_size_X8_refuse (c_X8_refuse hc) (qs_at tC_0) rfl rfl rfl (Nat.le_of_ble_eq_true rfl) dX8_size_11 ?_
    have e : (a2, s1) = o := Option.some.inj h
    subst e
    exact qe_iret dX8_size_14 rfl
  · refine qe_iload_n dX8_size_4 1 rfl rfl ?_
    refine qe_iconst (v := (1 : Int32)) dX8_size_5 rfl ?_
    refine qe_icmp_le (tgt := 15) dX8_size_6 rfl h (fun _ h => ?_) (fun _ h => ?_)
    · refine qe_aload_n dX8_size_15 0 rfl rfl trivial ?_
      refine qs_getR (j := 0) tC_0 rfl fl_RX8_12 dX8_size_16 ?_
      refine qe_iconst (v := (0 : Int32)) dX8_size_19 rfl ?_
      refine qm_b_elim h (fun b4 s3 hc h => ?_)
      refine qe_callV1 (st := []) kk_X8_size_X3_places (c_X3_places hc) (qs_at tC_1) rfl rfl rfl (Nat.le_of_ble_eq_true rfl) dX8_size_20 ?_
      refine qe_lstore_n (lv' := [(2, .long b4), (0, .ref 0), (1, .int v1)]) dX8_size_23 rfl rfl (Nat.le_of_ble_eq_true rfl) ?_
      refine qe_lload_n dX8_size_24 0 rfl rfl ?_
      refine qe_lconst (v := 1) dX8_size_25 rfl ?_
      refine qe_lcmp_ge (tgt := 37) dX8_size_26 dX8_size_27 rfl h (fun _ h => ?_) (fun _ h => ?_)
      · refine qm_j_elim h (fun j63 ej63 h => ?_)
        have hj63 : ∀ (q5 : Int64) (s6 : qe_S) (o : Int32 × qe_S), j63 q5 s6 = some o → qe_J l G MX8_size 63 [(2, .long b4)] [.long q5] (qs_w s6 (qs_TC G)) (some (.int o.1)) (qs_w o.2 (qs_TC G)) := by
          intro q5 s6 o h
          subst ej63
          refine qe_lload_n dX8_size_63 0 rfl rfl ?_
          refine qe_ldiv dX8_size_64 h (fun h => ?_)
          refine qe_l2i dX8_size_65 ?_
          have e : ((q5 / b4).toInt32, s6) = o := Option.some.inj h
          subst e
          exact qe_iret dX8_size_66 rfl
        refine qe_aload_n dX8_size_37 1 rfl rfl trivial ?_
        refine qs_getR (j := 0) tC_0 rfl fl_RX8_12 dX8_size_38 ?_
        refine qe_iconst (v := (0 : Int32)) dX8_size_41 rfl ?_
        refine qe_lload_n dX8_size_42 0 rfl rfl ?_
        refine qm_b_elim h (fun b8 s7 hc h => ?_)
        refine qe_callV1 (st := []) kk_X8_size_X3_partsOfAll (c_X3_partsOfAll hc) (qs_at tC_1) rfl rfl rfl (Nat.le_of_ble_eq_true rfl) dX8_size_43 ?_
        refine qe_lstore (lv' := [(4, .long b8), (2, .long b4), (0, .ref 0), (1, .int v1)]) dX8_size_46 rfl (Nat.le_of_ble_eq_true rfl) ?_
        refine qe_iload_n dX8_size_48 3 rfl rfl ?_
        refine qe_if_ne (tgt := 57) dX8_size_49 rfl h (fun _ h => ?_) (fun _ h => ?_)
        · refine qe_lload dX8_size_57 0 rfl ?_
          refine qe_lload_n dX8_size_59 1 rfl rfl ?_
          refine qe_ladd dX8_size_60 ?_
          refine qe_lconst (v := 1) dX8_size_61 rfl ?_
          refine qe_lsub dX8_size_62 ?_
          refine qe_sub [1] rfl ?_
          exact hj63 _ _ _ h
        · refine qe_lload dX8_size_52 0 rfl ?_
          refine qe_goto (tgt := 63) dX8_size_54 rfl ?_
          refine qe_sub [1] rfl ?_
          exact hj63 _ _ _ h
      · refine qe_aload_n dX8_size_30 1 rfl rfl trivial ?_
        refine qe_bipush (v := (-7 : Int32)) dX8_size_31 rfl ?_
        refine qm_b_elim h (fun a10 s9 hc h => ?_)
        refine qe_callV1 (st := []) kk_X8_size_X8_refuse (c_X8_refuse hc) (qs_at tC_0) rfl rfl rfl (Nat.le_of_ble_eq_true rfl) dX8_size_33 ?_
        have e : (a10, s9) = o := Option.some.inj h
        subst e
        exact qe_iret dX8_size_36 rfl
    · refine qe_aload_n dX8_size_9 0 rfl rfl trivial ?_
      refine qe_iconst (v := (-1 : Int32)) dX8_size_10 rfl ?_
      refine qm_b_elim h (fun a12 s11 hc h => ?_)
      refine qe_callV1 (st := []) kk_X8_size_X8_refuse (c_X8_refuse hc) (qs_at tC_0) rfl rfl rfl (Nat.le_of_ble_eq_true rfl) dX8_size_11 ?_
      have e : (a12, s11) = o := Option.some.inj h
      subst e
      exact qe_iret dX8_size_14 rfl

set_option maxRecDepth 20000 in
theorem c_X3_everyone {l : Launch} {G : qe_G}  {s0 : qe_S} {o : Int32 × qe_S} (h : g_X3_everyone  s0 = some o) : qe_C l G MX3_everyone [.ref 1] (qs_w s0 (qs_TC G)) (some (.int o.1)) (qs_w o.2 (qs_TC G)) := by
  refine qe_C.of (by decide +kernel) (Nat.le_of_ble_eq_true rfl) ?_
  show qe_J l G MX3_everyone 0 [(0, .ref 1)] [] (qs_w s0 (qs_TC G)) (some (.int o.1)) (qs_w o.2 (qs_TC G))
  unfold g_X3_everyone at h
  refine qe_iconst (v := (1 : Int32)) dX3_everyone_0 rfl ?_
  refine qe_aload_n dX3_everyone_1 0 rfl rfl trivial ?_
  refine qs_getI (j := 0) tC_1 rfl fl_RX3_9 dX3_everyone_2 ?_
  refine qe_ishl dX3_everyone_5 ?_
  refine qe_iconst (v := (1 : Int32)) dX3_everyone_6 rfl ?_
  refine qe_isub dX3_everyone_7 ?_
  have e : ((((1 : Int32) <<< ((s0.1 1 0) &&& 31)) - (1 : Int32)), s0) = o := Option.some.inj h
  subst e
  exact qe_iret dX3_everyone_8 rfl

set_option maxRecDepth 20000 in
theorem c_X7_lay_L8_25_1 {l : Launch} {G : qe_G} {k37 : qe_S → Option (qe_S)} {v2 : Int32} {v3 : Int64} {v5 : Int32} (hk37 : ∀  (s : qe_S) (o : qe_S), k37  s = some o → qe_J l G MX7_lay 37 [(0, .ref 25), (1, .ref 1), (2, .int v2), (3, .long v3), (5, .int v5)] [] (qs_w s (qs_TC G)) none (qs_w o (qs_TC G))) : ∀ (n : Nat) (v6 : Int32) (s0 : qe_S) (o : qe_S), g_X7_lay_L8 k37 25 v2 v3 v5 n v6 s0 = some o → qe_J l G MX7_lay 8 [(0, .ref 25), (1, .ref 1), (2, .int v2), (3, .long v3), (5, .int v5), (6, .int v6)] [] (qs_w s0 (qs_TC G)) none (qs_w o (qs_TC G)) := by
  intro n
  induction n with
  | zero =>
    intro v6 s0 o h
    rw [g_X7_lay_L8] at h
    cases h
  | succ n ih =>
    intro v6 s0 o h
    rw [g_X7_lay_L8] at h
    refine qe_iload dX7_lay_8 5 rfl ?_
    refine qe_bipush (v := (nI 12)) dX7_lay_10 rfl ?_
    refine qe_icmp_ge (tgt := 37) dX7_lay_12 rfl h (fun _ h => ?_) (fun _ h => ?_)
    · refine qe_sub [0, 1, 2, 3, 4] rfl ?_
      exact hk37  _ _ h
    · refine qe_aload_n dX7_lay_15 0 rfl rfl trivial ?_
      refine qs_getR (j := 1) tC_25 rfl fl_RX7_15 dX7_lay_16 ?_
      refine qe_iload dX7_lay_19 5 rfl ?_
      refine qe_lconst (v := 0) dX7_lay_21 rfl ?_
      refine qs_lst tC_26 dX7_lay_22 h (fun s3 h => ?_)
      refine qe_aload_n dX7_lay_23 0 rfl rfl trivial ?_
      refine qs_getR (j := 2) tC_25 rfl fl_RX7_19 dX7_lay_24 ?_
      refine qe_iload dX7_lay_27 5 rfl ?_
      refine qe_lconst (v := 0) dX7_lay_29 rfl ?_
      refine qs_lst tC_27 dX7_lay_30 h (fun s4 h => ?_)
      refine qe_iincl (lv' := fun a5 => [(6, .int a5), (0, .ref 25), (1, .ref 1), (2, .int v2), (3, .long v3), (5, .int v5)]) dX7_lay_31 5 rfl rfl (fun _ => rfl) (Nat.le_of_ble_eq_true rfl) h (fun a5 h => ?_)
      refine qe_goto (tgt := 8) dX7_lay_34 rfl ?_
      refine qe_sub [1, 2, 3, 4, 5, 0] rfl ?_
      exact ih _ _ _ h

set_option maxRecDepth 20000 in
theorem c_X7_lay_L43_25_1 {l : Launch} {G : qe_G} {v2 : Int32} {v3 : Int64} {v5 : Int32} : ∀ (n : Nat) (v6 : Int64) (v8 : Int32) (s0 : qe_S) (o : qe_S), g_X7_lay_L43 25 v2 v3 v5 n v6 v8 s0 = some o → qe_J l G MX7_lay 43 [(0, .ref 25), (1, .ref 1), (2, .int v2), (3, .long v3), (5, .int v5), (6, .long v6), (8, .int v8)] [] (qs_w s0 (qs_TC G)) none (qs_w o (qs_TC G)) := by
  intro n
  induction n with
  | zero =>
    intro v6 v8 s0 o h
    rw [g_X7_lay_L43] at h
    cases h
  | succ n ih =>
    intro v6 v8 s0 o h
    rw [g_X7_lay_L43] at h
    refine qe_iload dX7_lay_43 6 rfl ?_
    refine qe_aload_n dX7_lay_45 1 rfl rfl trivial ?_
    refine qs_getI (j := 0) tC_1 rfl fl_RX7_22 dX7_lay_46 ?_
    refine qe_icmp_ge (tgt := 129) dX7_lay_49 rfl h (fun _ h => ?_) (fun _ h => ?_)
    · have e : s0 = o := Option.some.inj h
      subst e
      exact qe_vret dX7_lay_129 rfl
    · refine qe_lload_n dX7_lay_52 3 rfl rfl ?_
      refine qe_lconst (v := 0) dX7_lay_53 rfl ?_
      refine qe_lcmp_le (tgt := 129) dX7_lay_54 dX7_lay_55 rfl h (fun _ h => ?_) (fun _ h => ?_)
      · have e : s0 = o := Option.some.inj h
        subst e
        exact qe_vret dX7_lay_129 rfl
      · refine qm_j_elim h (fun j123 ej123 h => ?_)
        have hj123 : ∀ (b9 : Int64) (s10 : qe_S) (o : qe_S), j123 b9 s10 = some o → qe_J l G MX7_lay 123 [(0, .ref 25), (1, .ref 1), (2, .int v2), (3, .long v3), (5, .int v5), (6, .long b9), (8, .int v8)] [] (qs_w s10 (qs_TC G)) none (qs_w o (qs_TC G)) := by
          intro b9 s10 o h
          subst ej123
          refine qe_iincl (lv' := fun a11 => [(8, .int a11), (0, .ref 25), (1, .ref 1), (2, .int v2), (3, .long v3), (5, .int v5), (6, .long b9)]) dX7_lay_123 6 rfl rfl (fun _ => rfl) (Nat.le_of_ble_eq_true rfl) h (fun a11 h => ?_)
          refine qe_goto (tgt := 43) dX7_lay_126 rfl ?_
          refine qe_sub [1, 2, 3, 4, 5, 6, 0] rfl ?_
          exact ih _ _ _ _ h
        refine qe_aload_n dX7_lay_58 1 rfl rfl trivial ?_
        refine qe_iload dX7_lay_59 6 rfl ?_
        refine qm_b_elim h (fun a13 s12 hc h => ?_)
        refine qe_callV1 (st := []) kk_X7_lay_X3_unitAt (c_X3_unitAt hc) (qs_at tC_1) rfl rfl rfl (Nat.le_of_ble_eq_true rfl) dX7_lay_61 ?_
        refine qe_istore (lv' := [(9, .int a13), (0, .ref 25), (1, .ref 1), (2, .int v2), (3, .long v3), (5, .int v5), (6, .long v6), (8, .int v8)]) dX7_lay_64 rfl (Nat.le_of_ble_eq_true rfl) ?_
        refine qe_aload_n dX7_lay_66 2 rfl rfl trivial ?_
        refine qe_iload dX7_lay_67 0 rfl ?_
        refine qm_b_elim h (fun a15 s14 hc h => ?_)
        refine qe_callV1 (st := []) kk_X7_lay_X3_has (c_X3_has hc) (qs_at tC_1) rfl rfl rfl (Nat.le_of_ble_eq_true rfl) dX7_lay_69 ?_
        refine qe_if_eq (tgt := 123) dX7_lay_72 rfl h (fun _ h => ?_) (fun _ h => ?_)
        · refine qe_sub [1, 2, 3, 4, 5, 6, 7] rfl ?_
          exact hj123 _ _ _ h
        · refine qe_iload dX7_lay_75 5 rfl ?_
          refine qe_iload dX7_lay_77 0 rfl ?_
          refine qm_b_elim h (fun a17 s16 hc h => ?_)
          refine qe_callN1 (st := []) kk_X7_lay_X8_isIn (c_X8_isIn hc) rfl rfl (Nat.le_of_ble_eq_true rfl) dX7_lay_79 ?_
          refine qe_if_eq (tgt := 123) dX7_lay_82 rfl h (fun _ h => ?_) (fun _ h => ?_)
          · refine qe_sub [1, 2, 3, 4, 5, 6, 7] rfl ?_
            exact hj123 _ _ _ h
          · refine qe_aload_n dX7_lay_85 1 rfl rfl trivial ?_
            refine qs_getR (j := 1) tC_25 rfl fl_RX7_15 dX7_lay_86 ?_
            refine qe_iload dX7_lay_89 0 rfl ?_
            refine qe_lload dX7_lay_91 6 rfl ?_
            refine qs_lst tC_26 dX7_lay_93 h (fun s18 h => ?_)
            refine qe_aload_n dX7_lay_94 1 rfl rfl trivial ?_
            refine qs_getR (j := 2) tC_25 rfl fl_RX7_19 dX7_lay_95 ?_
            refine qe_iload dX7_lay_98 0 rfl ?_
            refine qe_aload_n dX7_lay_100 2 rfl rfl trivial ?_
            refine qe_iload dX7_lay_101 0 rfl ?_
            refine qe_iload_n dX7_lay_103 3 rfl rfl ?_
            refine qe_lload_n dX7_lay_104 4 rfl rfl ?_
            refine qm_b_elim h (fun b20 s19 hc h => ?_)
            refine qe_callV1 (st := [.int a13, .ref 27]) kk_X7_lay_X3_partsOf (c_X3_partsOf hc) (qs_at tC_1) rfl rfl rfl (Nat.le_of_ble_eq_true rfl) dX7_lay_105 ?_
            refine qs_lst tC_27 dX7_lay_108 h (fun s21 h => ?_)
            refine qe_lload dX7_lay_109 6 rfl ?_
            refine qe_aload_n dX7_lay_111 1 rfl rfl trivial ?_
            refine qs_getR (j := 2) tC_25 rfl fl_RX7_19 dX7_lay_112 ?_
            refine qe_iload dX7_lay_115 0 rfl ?_
            refine qs_lld tC_27 dX7_lay_117 h (fun b22 h => ?_)
            refine qe_ladd dX7_lay_118 ?_
            refine qe_lload_n dX7_lay_119 4 rfl rfl ?_
            refine qe_lrem dX7_lay_120 h (fun h => ?_)
            refine qe_let_l h (fun b23 h => ?_)
            refine qe_lstore (lv' := [(6, .long b23), (9, .int a13), (0, .ref 25), (1, .ref 1), (2, .int v2), (3, .long v3), (5, .int v5), (8, .int v8)]) dX7_lay_121 rfl (Nat.le_of_ble_eq_true rfl) ?_
            refine qe_sub [2, 3, 4, 5, 6, 0, 7] rfl ?_
            exact hj123 _ _ _ h

set_option maxRecDepth 20000 in
theorem c_X7_lay_25_1 {l : Launch} {G : qe_G} {v2 : Int32} {v3 : Int64} {v5 : Int32} {s0 : qe_S} {o : qe_S} (h : g_X7_lay 25 v2 v3 v5 s0 = some o) : qe_C l G MX7_lay [.ref 25, .ref 1, .int v2, .long v3, .int v5] (qs_w s0 (qs_TC G)) none (qs_w o (qs_TC G)) := by
  refine qe_C.of (by decide +kernel) (Nat.le_of_ble_eq_true rfl) ?_
  show qe_J l G MX7_lay 0 [(0, .ref 25), (1, .ref 1), (2, .int v2), (3, .long v3), (5, .int v5)] [] (qs_w s0 (qs_TC G)) none (qs_w o (qs_TC G))
  unfold g_X7_lay at h
  refine qe_aload_n dX7_lay_0 0 rfl rfl trivial ?_
  refine qe_lload_n dX7_lay_1 3 rfl rfl ?_
  refine qs_putL (j := 0) tC_25 rfl fp_RX7_9 dX7_lay_2 h (fun s1 h => ?_)
  refine qe_iconst (v := (0 : Int32)) dX7_lay_5 rfl ?_
  refine qe_let_i h (fun a2 h => ?_)
  refine qe_istore (lv' := [(6, .int a2), (0, .ref 25), (1, .ref 1), (2, .int v2), (3, .long v3), (5, .int v5)]) dX7_lay_6 rfl (Nat.le_of_ble_eq_true rfl) ?_
  refine qe_sub [1, 2, 3, 4, 5, 0] rfl ?_
  refine c_X7_lay_L8_25_1
    (fun  s6 o h => ?_) _ _ _ _ h
  refine qe_lconst (v := 0) dX7_lay_37 rfl ?_
  refine qe_let_l h (fun b7 h => ?_)
  refine qe_lstore (lv' := [(6, .long b7), (0, .ref 25), (1, .ref 1), (2, .int v2), (3, .long v3), (5, .int v5)]) dX7_lay_38 rfl (Nat.le_of_ble_eq_true rfl) ?_
  refine qe_iconst (v := (0 : Int32)) dX7_lay_40 rfl ?_
  refine qe_let_i h (fun a8 h => ?_)
  refine qe_istore (lv' := [(8, .int a8), (6, .long b7), (0, .ref 25), (1, .ref 1), (2, .int v2), (3, .long v3), (5, .int v5)]) dX7_lay_41 rfl (Nat.le_of_ble_eq_true rfl) ?_
  refine qe_sub [2, 3, 4, 5, 6, 1, 0] rfl ?_
  refine c_X7_lay_L43_25_1 _ _ _ _ _ h

set_option maxRecDepth 20000 in
theorem c_X7_lay_L8_22_1 {l : Launch} {G : qe_G} {k37 : qe_S → Option (qe_S)} {v2 : Int32} {v3 : Int64} {v5 : Int32} (hk37 : ∀  (s : qe_S) (o : qe_S), k37  s = some o → qe_J l G MX7_lay 37 [(0, .ref 22), (1, .ref 1), (2, .int v2), (3, .long v3), (5, .int v5)] [] (qs_w s (qs_TC G)) none (qs_w o (qs_TC G))) : ∀ (n : Nat) (v6 : Int32) (s0 : qe_S) (o : qe_S), g_X7_lay_L8 k37 22 v2 v3 v5 n v6 s0 = some o → qe_J l G MX7_lay 8 [(0, .ref 22), (1, .ref 1), (2, .int v2), (3, .long v3), (5, .int v5), (6, .int v6)] [] (qs_w s0 (qs_TC G)) none (qs_w o (qs_TC G)) := by
  intro n
  induction n with
  | zero =>
    intro v6 s0 o h
    rw [g_X7_lay_L8] at h
    cases h
  | succ n ih =>
    intro v6 s0 o h
    rw [g_X7_lay_L8] at h
    refine qe_iload dX7_lay_8 5 rfl ?_
    refine qe_bipush (v := (nI 12)) dX7_lay_10 rfl ?_
    refine qe_icmp_ge (tgt := 37) dX7_lay_12 rfl h (fun _ h => ?_) (fun _ h => ?_)
    · refine qe_sub [0, 1, 2, 3, 4] rfl ?_
      exact hk37  _ _ h
    · refine qe_aload_n dX7_lay_15 0 rfl rfl trivial ?_
      refine qs_getR (j := 1) tC_22 rfl fl_RX7_15 dX7_lay_16 ?_
      refine qe_iload dX7_lay_19 5 rfl ?_
      refine qe_lconst (v := 0) dX7_lay_21 rfl ?_
      refine qs_lst tC_23 dX7_lay_22 h (fun s3 h => ?_)
      refine qe_aload_n dX7_lay_23 0 rfl rfl trivial ?_
      refine qs_getR (j := 2) tC_22 rfl fl_RX7_19 dX7_lay_24 ?_
      refine qe_iload dX7_lay_27 5 rfl ?_
      refine qe_lconst (v := 0) dX7_lay_29 rfl ?_
      refine qs_lst tC_24 dX7_lay_30 h (fun s4 h => ?_)
      refine qe_iincl (lv' := fun a5 => [(6, .int a5), (0, .ref 22), (1, .ref 1), (2, .int v2), (3, .long v3), (5, .int v5)]) dX7_lay_31 5 rfl rfl (fun _ => rfl) (Nat.le_of_ble_eq_true rfl) h (fun a5 h => ?_)
      refine qe_goto (tgt := 8) dX7_lay_34 rfl ?_
      refine qe_sub [1, 2, 3, 4, 5, 0] rfl ?_
      exact ih _ _ _ h

set_option maxRecDepth 20000 in
theorem c_X7_lay_L43_22_1 {l : Launch} {G : qe_G} {v2 : Int32} {v3 : Int64} {v5 : Int32} : ∀ (n : Nat) (v6 : Int64) (v8 : Int32) (s0 : qe_S) (o : qe_S), g_X7_lay_L43 22 v2 v3 v5 n v6 v8 s0 = some o → qe_J l G MX7_lay 43 [(0, .ref 22), (1, .ref 1), (2, .int v2), (3, .long v3), (5, .int v5), (6, .long v6), (8, .int v8)] [] (qs_w s0 (qs_TC G)) none (qs_w o (qs_TC G)) := by
  intro n
  induction n with
  | zero =>
    intro v6 v8 s0 o h
    rw [g_X7_lay_L43] at h
    cases h
  | succ n ih =>
    intro v6 v8 s0 o h
    rw [g_X7_lay_L43] at h
    refine qe_iload dX7_lay_43 6 rfl ?_
    refine qe_aload_n dX7_lay_45 1 rfl rfl trivial ?_
    refine qs_getI (j := 0) tC_1 rfl fl_RX7_22 dX7_lay_46 ?_
    refine qe_icmp_ge (tgt := 129) dX7_lay_49 rfl h (fun _ h => ?_) (fun _ h => ?_)
    · have e : s0 = o := Option.some.inj h
      subst e
      exact qe_vret dX7_lay_129 rfl
    · refine qe_lload_n dX7_lay_52 3 rfl rfl ?_
      refine qe_lconst (v := 0) dX7_lay_53 rfl ?_
      refine qe_lcmp_le (tgt := 129) dX7_lay_54 dX7_lay_55 rfl h (fun _ h => ?_) (fun _ h => ?_)
      · have e : s0 = o := Option.some.inj h
        subst e
        exact qe_vret dX7_lay_129 rfl
      · refine qm_j_elim h (fun j123 ej123 h => ?_)
        have hj123 : ∀ (b9 : Int64) (s10 : qe_S) (o : qe_S), j123 b9 s10 = some o → qe_J l G MX7_lay 123 [(0, .ref 22), (1, .ref 1), (2, .int v2), (3, .long v3), (5, .int v5), (6, .long b9), (8, .int v8)] [] (qs_w s10 (qs_TC G)) none (qs_w o (qs_TC G)) := by
          intro b9 s10 o h
          subst ej123
          refine qe_iincl (lv' := fun a11 => [(8, .int a11), (0, .ref 22), (1, .ref 1), (2, .int v2), (3, .long v3), (5, .int v5), (6, .long b9)]) dX7_lay_123 6 rfl rfl (fun _ => rfl) (Nat.le_of_ble_eq_true rfl) h (fun a11 h => ?_)
          refine qe_goto (tgt := 43) dX7_lay_126 rfl ?_
          refine qe_sub [1, 2, 3, 4, 5, 6, 0] rfl ?_
          exact ih _ _ _ _ h
        refine qe_aload_n dX7_lay_58 1 rfl rfl trivial ?_
        refine qe_iload dX7_lay_59 6 rfl ?_
        refine qm_b_elim h (fun a13 s12 hc h => ?_)
        refine qe_callV1 (st := []) kk_X7_lay_X3_unitAt (c_X3_unitAt hc) (qs_at tC_1) rfl rfl rfl (Nat.le_of_ble_eq_true rfl) dX7_lay_61 ?_
        refine qe_istore (lv' := [(9, .int a13), (0, .ref 22), (1, .ref 1), (2, .int v2), (3, .long v3), (5, .int v5), (6, .long v6), (8, .int v8)]) dX7_lay_64 rfl (Nat.le_of_ble_eq_true rfl) ?_
        refine qe_aload_n dX7_lay_66 2 rfl rfl trivial ?_
        refine qe_iload dX7_lay_67 0 rfl ?_
        refine qm_b_elim h (fun a15 s14 hc h => ?_)
        refine qe_callV1 (st := []) kk_X7_lay_X3_has (c_X3_has hc) (qs_at tC_1) rfl rfl rfl (Nat.le_of_ble_eq_true rfl) dX7_lay_69 ?_
        refine qe_if_eq (tgt := 123) dX7_lay_72 rfl h (fun _ h => ?_) (fun _ h => ?_)
        · refine qe_sub [1, 2, 3, 4, 5, 6, 7] rfl ?_
          exact hj123 _ _ _ h
        · refine qe_iload dX7_lay_75 5 rfl ?_
          refine qe_iload dX7_lay_77 0 rfl ?_
          refine qm_b_elim h (fun a17 s16 hc h => ?_)
          refine qe_callN1 (st := []) kk_X7_lay_X8_isIn (c_X8_isIn hc) rfl rfl (Nat.le_of_ble_eq_true rfl) dX7_lay_79 ?_
          refine qe_if_eq (tgt := 123) dX7_lay_82 rfl h (fun _ h => ?_) (fun _ h => ?_)
          · refine qe_sub [1, 2, 3, 4, 5, 6, 7] rfl ?_
            exact hj123 _ _ _ h
          · refine qe_aload_n dX7_lay_85 1 rfl rfl trivial ?_
            refine qs_getR (j := 1) tC_22 rfl fl_RX7_15 dX7_lay_86 ?_
            refine qe_iload dX7_lay_89 0 rfl ?_
            refine qe_lload dX7_lay_91 6 rfl ?_
            refine qs_lst tC_23 dX7_lay_93 h (fun s18 h => ?_)
            refine qe_aload_n dX7_lay_94 1 rfl rfl trivial ?_
            refine qs_getR (j := 2) tC_22 rfl fl_RX7_19 dX7_lay_95 ?_
            refine qe_iload dX7_lay_98 0 rfl ?_
            refine qe_aload_n dX7_lay_100 2 rfl rfl trivial ?_
            refine qe_iload dX7_lay_101 0 rfl ?_
            refine qe_iload_n dX7_lay_103 3 rfl rfl ?_
            refine qe_lload_n dX7_lay_104 4 rfl rfl ?_
            refine qm_b_elim h (fun b20 s19 hc h => ?_)
            refine qe_callV1 (st := [.int a13, .ref 24]) kk_X7_lay_X3_partsOf (c_X3_partsOf hc) (qs_at tC_1) rfl rfl rfl (Nat.le_of_ble_eq_true rfl) dX7_lay_105 ?_
            refine qs_lst tC_24 dX7_lay_108 h (fun s21 h => ?_)
            refine qe_lload dX7_lay_109 6 rfl ?_
            refine qe_aload_n dX7_lay_111 1 rfl rfl trivial ?_
            refine qs_getR (j := 2) tC_22 rfl fl_RX7_19 dX7_lay_112 ?_
            refine qe_iload dX7_lay_115 0 rfl ?_
            refine qs_lld tC_24 dX7_lay_117 h (fun b22 h => ?_)
            refine qe_ladd dX7_lay_118 ?_
            refine qe_lload_n dX7_lay_119 4 rfl rfl ?_
            refine qe_lrem dX7_lay_120 h (fun h => ?_)
            refine qe_let_l h (fun b23 h => ?_)
            refine qe_lstore (lv' := [(6, .long b23), (9, .int a13), (0, .ref 22), (1, .ref 1), (2, .int v2), (3, .long v3), (5, .int v5), (8, .int v8)]) dX7_lay_121 rfl (Nat.le_of_ble_eq_true rfl) ?_
            refine qe_sub [2, 3, 4, 5, 6, 0, 7] rfl ?_
            exact hj123 _ _ _ h

set_option maxRecDepth 20000 in
theorem c_X7_lay_22_1 {l : Launch} {G : qe_G} {v2 : Int32} {v3 : Int64} {v5 : Int32} {s0 : qe_S} {o : qe_S} (h : g_X7_lay 22 v2 v3 v5 s0 = some o) : qe_C l G MX7_lay [.ref 22, .ref 1, .int v2, .long v3, .int v5] (qs_w s0 (qs_TC G)) none (qs_w o (qs_TC G)) := by
  refine qe_C.of (by decide +kernel) (Nat.le_of_ble_eq_true rfl) ?_
  show qe_J l G MX7_lay 0 [(0, .ref 22), (1, .ref 1), (2, .int v2), (3, .long v3), (5, .int v5)] [] (qs_w s0 (qs_TC G)) none (qs_w o (qs_TC G))
  unfold g_X7_lay at h
  refine qe_aload_n dX7_lay_0 0 rfl rfl trivial ?_
  refine qe_lload_n dX7_lay_1 3 rfl rfl ?_
  refine qs_putL (j := 0) tC_22 rfl fp_RX7_9 dX7_lay_2 h (fun s1 h => ?_)
  refine qe_iconst (v := (0 : Int32)) dX7_lay_5 rfl ?_
  refine qe_let_i h (fun a2 h => ?_)
  refine qe_istore (lv' := [(6, .int a2), (0, .ref 22), (1, .ref 1), (2, .int v2), (3, .long v3), (5, .int v5)]) dX7_lay_6 rfl (Nat.le_of_ble_eq_true rfl) ?_
  refine qe_sub [1, 2, 3, 4, 5, 0] rfl ?_
  refine c_X7_lay_L8_22_1
    (fun  s6 o h => ?_) _ _ _ _ h
  refine qe_lconst (v := 0) dX7_lay_37 rfl ?_
  refine qe_let_l h (fun b7 h => ?_)
  refine qe_lstore (lv' := [(6, .long b7), (0, .ref 22), (1, .ref 1), (2, .int v2), (3, .long v3), (5, .int v5)]) dX7_lay_38 rfl (Nat.le_of_ble_eq_true rfl) ?_
  refine qe_iconst (v := (0 : Int32)) dX7_lay_40 rfl ?_
  refine qe_let_i h (fun a8 h => ?_)
  refine qe_istore (lv' := [(8, .int a8), (6, .long b7), (0, .ref 22), (1, .ref 1), (2, .int v2), (3, .long v3), (5, .int v5)]) dX7_lay_41 rfl (Nat.le_of_ble_eq_true rfl) ?_
  refine qe_sub [2, 3, 4, 5, 6, 1, 0] rfl ?_
  refine c_X7_lay_L43_22_1 _ _ _ _ _ h

set_option maxRecDepth 20000 in
theorem c_X8_layWheel {l : Launch} {G : qe_G}  {s0 : qe_S} {o : Int32 × qe_S} (h : g_X8_layWheel  s0 = some o) : qe_C l G MX8_layWheel [.ref 0] (qs_w s0 (qs_TC G)) (some (.int o.1)) (qs_w o.2 (qs_TC G)) := by
  refine qe_C.of (by decide +kernel) (Nat.le_of_ble_eq_true rfl) ?_
  show qe_J l G MX8_layWheel 0 [(0, .ref 0)] [] (qs_w s0 (qs_TC G)) (some (.int o.1)) (qs_w o.2 (qs_TC G))
  unfold g_X8_layWheel at h
  refine qe_aload_n dX8_layWheel_0 0 rfl rfl trivial ?_
  refine qs_getR (j := 0) tC_0 rfl fl_RX8_12 dX8_layWheel_1 ?_
  refine qe_iconst (v := (0 : Int32)) dX8_layWheel_4 rfl ?_
  refine qm_b_elim h (fun b2 s1 hc h => ?_)
  refine qe_callV1 (st := []) kk_X8_layWheel_X3_places (c_X3_places hc) (qs_at tC_1) rfl rfl rfl (Nat.le_of_ble_eq_true rfl) dX8_layWheel_5 ?_
  refine qe_lstore_n (lv' := [(1, .long b2), (0, .ref 0)]) dX8_layWheel_8 rfl rfl (Nat.le_of_ble_eq_true rfl) ?_
  refine qe_lload_n dX8_layWheel_9 0 rfl rfl ?_
  refine qe_lconst (v := 1) dX8_layWheel_10 rfl ?_
  refine qe_lcmp_ge (tgt := 17) dX8_layWheel_11 dX8_layWheel_12 rfl h (fun _ h => ?_) (fun _ h => ?_)
  · refine qe_aload_n dX8_layWheel_17 1 rfl rfl trivial ?_
    refine qs_getR (j := 4) tC_0 rfl fl_RX8_29 dX8_layWheel_18 ?_
    refine qe_aload_n dX8_layWheel_21 1 rfl rfl trivial ?_
    refine qs_getR (j := 0) tC_0 rfl fl_RX8_12 dX8_layWheel_22 ?_
    refine qe_iconst (v := (0 : Int32)) dX8_layWheel_25 rfl ?_
    refine qe_lload_n dX8_layWheel_26 0 rfl rfl ?_
    refine qe_aload_n dX8_layWheel_27 1 rfl rfl trivial ?_
    refine qs_getR (j := 0) tC_0 rfl fl_RX8_12 dX8_layWheel_28 ?_
    refine qm_b_elim h (fun a4 s3 hc h => ?_)
    refine qe_callV1 (st := [.long b2, .int (0 : Int32), .ref 1, .ref 22]) kk_X8_layWheel_X3_everyone (c_X3_everyone hc) (qs_at tC_1) rfl rfl rfl (Nat.le_of_ble_eq_true rfl) dX8_layWheel_31 ?_
    refine qm_o_elim h (fun s5 hc h => ?_)
    refine qe_callV0 (st := []) kk_X8_layWheel_X7_lay (c_X7_lay_22_1 hc) (qs_at tC_22) rfl rfl rfl (Nat.le_of_ble_eq_true rfl) dX8_layWheel_34 ?_
    refine qe_iconst (v := (1 : Int32)) dX8_layWheel_37 rfl ?_
    have e : ((1 : Int32), s5) = o := Option.some.inj h
    subst e
    exact qe_nret dX8_layWheel_38 rfl rfl
  · refine qe_iconst (v := (0 : Int32)) dX8_layWheel_15 rfl ?_
    have e : ((0 : Int32), s1) = o := Option.some.inj h
    subst e
    exact qe_nret dX8_layWheel_16 rfl rfl

set_option maxRecDepth 20000 in
theorem c_X7_hasPlace {l : Launch} {G : qe_G} {v1 : Int32} {s0 : qe_S} {o : Int32 × qe_S} (h : g_X7_hasPlace v1 s0 = some o) : qe_C l G MX7_hasPlace [.ref 22, .int v1] (qs_w s0 (qs_TC G)) (some (.int o.1)) (qs_w o.2 (qs_TC G)) := by
  refine qe_C.of (by decide +kernel) (Nat.le_of_ble_eq_true rfl) ?_
  show qe_J l G MX7_hasPlace 0 [(0, .ref 22), (1, .int v1)] [] (qs_w s0 (qs_TC G)) (some (.int o.1)) (qs_w o.2 (qs_TC G))
  unfold g_X7_hasPlace at h
  refine qm_j_elim h (fun j18 ej18 h => ?_)
  have hj18 : ∀  (s1 : qe_S) (o : Int32 × qe_S), j18  s1 = some o → qe_J l G MX7_hasPlace 18 [] [] (qs_w s1 (qs_TC G)) (some (.int o.1)) (qs_w o.2 (qs_TC G)) := by
    intro  s1 o h
    subst ej18
    refine qe_iconst (v := (0 : Int32)) dX7_hasPlace_18 rfl ?_
    have e : ((0 : Int32), s1) = o := Option.some.inj h
    subst e
    exact qe_nret dX7_hasPlace_19 rfl rfl
  refine qe_iload_n dX7_hasPlace_0 1 rfl rfl ?_
  refine qe_if_lt (tgt := 18) dX7_hasPlace_1 rfl h (fun _ h => ?_) (fun _ h => ?_)
  · refine qe_sub [] rfl ?_
    exact hj18  _ _ h
  · refine qe_iload_n dX7_hasPlace_4 1 rfl rfl ?_
    refine qe_i2l dX7_hasPlace_5 ?_
    refine qe_aload_n dX7_hasPlace_6 0 rfl rfl trivial ?_
    refine qs_getL (j := 0) tC_22 rfl fl_RX7_9 dX7_hasPlace_7 ?_
    refine qe_lcmp_ge (tgt := 18) dX7_hasPlace_10 dX7_hasPlace_11 rfl h (fun _ h => ?_) (fun _ h => ?_)
    · refine qe_sub [] rfl ?_
      exact hj18  _ _ h
    · refine qe_iconst (v := (1 : Int32)) dX7_hasPlace_14 rfl ?_
      refine qe_goto (tgt := 19) dX7_hasPlace_15 rfl ?_
      have e : ((1 : Int32), s0) = o := Option.some.inj h
      subst e
      exact qe_nret dX7_hasPlace_19 rfl rfl

set_option maxRecDepth 20000 in
theorem c_J9_floorMod_f86c9 {l : Launch} {G : qe_G} {T : List va_E} {v0 : Int64} {v2 : Int64} {s0 : qe_S} {o : Int64 × qe_S} (h : g_J9_floorMod_f86c9 v0 v2 s0 = some o) : qe_C l G MJ9_floorMod_f86c9 [.long v0, .long v2] (qs_w s0 T) (some (.long o.1)) (qs_w o.2 T) := by
  refine qe_C.ofF (by decide +kernel) (Nat.le_of_ble_eq_true rfl) ?_
  show qe_J l G MJ9_floorMod_f86c9 0 [(0, .long v0), (2, .long v2)] [] (qs_w s0 T) (some (.long o.1)) (qs_w o.2 T)
  unfold g_J9_floorMod_f86c9 at h
  refine qe_lload_n dJ9_floorMod_f86c9_0 0 rfl rfl ?_
  refine qe_lload_n dJ9_floorMod_f86c9_1 1 rfl rfl ?_
  refine qe_lrem dJ9_floorMod_f86c9_2 h (fun h => ?_)
  refine qe_let_l h (fun b1 h => ?_)
  refine qe_lstore (lv' := [(4, .long b1), (0, .long v0), (2, .long v2)]) dJ9_floorMod_f86c9_3 rfl (Nat.le_of_ble_eq_true rfl) ?_
  refine qe_lload_n dJ9_floorMod_f86c9_5 1 rfl rfl ?_
  refine qe_lload_n dJ9_floorMod_f86c9_6 2 rfl rfl ?_
  refine qe_lxor dJ9_floorMod_f86c9_7 ?_
  refine qe_lconst (v := 0) dJ9_floorMod_f86c9_8 rfl ?_
  refine qe_lcmp_ge (tgt := 25) dJ9_floorMod_f86c9_9 dJ9_floorMod_f86c9_10 rfl h (fun _ h => ?_) (fun _ h => ?_)
  · refine qe_lload dJ9_floorMod_f86c9_25 0 rfl ?_
    have e : (b1, s0) = o := Option.some.inj h
    subst e
    exact qe_lret dJ9_floorMod_f86c9_27 rfl
  · refine qe_lload dJ9_floorMod_f86c9_13 0 rfl ?_
    refine qe_lconst (v := 0) dJ9_floorMod_f86c9_15 rfl ?_
    refine qe_lcmp_eq (tgt := 25) dJ9_floorMod_f86c9_16 dJ9_floorMod_f86c9_17 rfl h (fun _ h => ?_) (fun _ h => ?_)
    · refine qe_lload dJ9_floorMod_f86c9_25 0 rfl ?_
      have e : (b1, s0) = o := Option.some.inj h
      subst e
      exact qe_lret dJ9_floorMod_f86c9_27 rfl
    · refine qe_lload dJ9_floorMod_f86c9_20 0 rfl ?_
      refine qe_lload_n dJ9_floorMod_f86c9_22 2 rfl rfl ?_
      refine qe_ladd dJ9_floorMod_f86c9_23 ?_
      have e : ((b1 + v2), s0) = o := Option.some.inj h
      subst e
      exact qe_lret dJ9_floorMod_f86c9_24 rfl

set_option maxRecDepth 20000 in
theorem c_X7_chooses_22 {l : Launch} {G : qe_G} {v1 : Int32} {v2 : Int64} {s0 : qe_S} {o : Int32 × qe_S} (h : g_X7_chooses 22 v1 v2 s0 = some o) : qe_C l G MX7_chooses [.ref 22, .int v1, .long v2] (qs_w s0 (qs_TC G)) (some (.int o.1)) (qs_w o.2 (qs_TC G)) := by
  refine qe_C.of (by decide +kernel) (Nat.le_of_ble_eq_true rfl) ?_
  show qe_J l G MX7_chooses 0 [(0, .ref 22), (1, .int v1), (2, .long v2)] [] (qs_w s0 (qs_TC G)) (some (.int o.1)) (qs_w o.2 (qs_TC G))
  unfold g_X7_chooses at h
  refine qe_iload_n dX7_chooses_0 1 rfl rfl ?_
  refine qe_if_lt (tgt := 19) dX7_chooses_1 rfl h (fun _ h => ?_) (fun _ h => ?_)
  · refine qe_iconst (v := (0 : Int32)) dX7_chooses_19 rfl ?_
    have e : ((0 : Int32), s0) = o := Option.some.inj h
    subst e
    exact qe_nret dX7_chooses_20 rfl rfl
  · refine qe_iload_n dX7_chooses_4 1 rfl rfl ?_
    refine qe_bipush (v := (nI 12)) dX7_chooses_5 rfl ?_
    refine qe_icmp_ge (tgt := 19) dX7_chooses_7 rfl h (fun _ h => ?_) (fun _ h => ?_)
    · refine qe_iconst (v := (0 : Int32)) dX7_chooses_19 rfl ?_
      have e : ((0 : Int32), s0) = o := Option.some.inj h
      subst e
      exact qe_nret dX7_chooses_20 rfl rfl
    · refine qe_aload_n dX7_chooses_10 0 rfl rfl trivial ?_
      refine qs_getL (j := 0) tC_22 rfl fl_RX7_9 dX7_chooses_11 ?_
      refine qe_lconst (v := 1) dX7_chooses_14 rfl ?_
      refine qe_lcmp_ge (tgt := 21) dX7_chooses_15 dX7_chooses_16 rfl h (fun _ h => ?_) (fun _ h => ?_)
      · refine qe_lload_n dX7_chooses_21 2 rfl rfl ?_
        refine qe_aload_n dX7_chooses_22 0 rfl rfl trivial ?_
        refine qs_getR (j := 1) tC_22 rfl fl_RX7_15 dX7_chooses_23 ?_
        refine qe_iload_n dX7_chooses_26 1 rfl rfl ?_
        refine qs_lld tC_23 dX7_chooses_27 h (fun b1 h => ?_)
        refine qe_lsub dX7_chooses_28 ?_
        refine qe_aload_n dX7_chooses_29 0 rfl rfl trivial ?_
        refine qs_getL (j := 0) tC_22 rfl fl_RX7_9 dX7_chooses_30 ?_
        refine qm_b_elim h (fun b3 s2 hc h => ?_)
        refine qe_callS1 (st := []) kk_X7_chooses_J9_floorMod_f86c9 (c_J9_floorMod_f86c9 hc) rfl rfl (Nat.le_of_ble_eq_true rfl) dX7_chooses_33 ?_
        refine qe_aload_n dX7_chooses_36 0 rfl rfl trivial ?_
        refine qs_getR (j := 2) tC_22 rfl fl_RX7_19 dX7_chooses_37 ?_
        refine qe_iload_n dX7_chooses_40 1 rfl rfl ?_
        refine qs_lld tC_24 dX7_chooses_41 h (fun b4 h => ?_)
        refine qe_lcmp_ge (tgt := 50) dX7_chooses_42 dX7_chooses_43 rfl h (fun _ h => ?_) (fun _ h => ?_)
        · refine qe_iconst (v := (0 : Int32)) dX7_chooses_50 rfl ?_
          have e : ((0 : Int32), s2) = o := Option.some.inj h
          subst e
          exact qe_nret dX7_chooses_51 rfl rfl
        · refine qe_iconst (v := (1 : Int32)) dX7_chooses_46 rfl ?_
          refine qe_goto (tgt := 51) dX7_chooses_47 rfl ?_
          have e : ((1 : Int32), s2) = o := Option.some.inj h
          subst e
          exact qe_nret dX7_chooses_51 rfl rfl
      · refine qe_iconst (v := (0 : Int32)) dX7_chooses_19 rfl ?_
        have e : ((0 : Int32), s0) = o := Option.some.inj h
        subst e
        exact qe_nret dX7_chooses_20 rfl rfl

set_option maxRecDepth 20000 in
theorem c_X7_chooses_25 {l : Launch} {G : qe_G} {v1 : Int32} {v2 : Int64} {s0 : qe_S} {o : Int32 × qe_S} (h : g_X7_chooses 25 v1 v2 s0 = some o) : qe_C l G MX7_chooses [.ref 25, .int v1, .long v2] (qs_w s0 (qs_TC G)) (some (.int o.1)) (qs_w o.2 (qs_TC G)) := by
  refine qe_C.of (by decide +kernel) (Nat.le_of_ble_eq_true rfl) ?_
  show qe_J l G MX7_chooses 0 [(0, .ref 25), (1, .int v1), (2, .long v2)] [] (qs_w s0 (qs_TC G)) (some (.int o.1)) (qs_w o.2 (qs_TC G))
  unfold g_X7_chooses at h
  refine qe_iload_n dX7_chooses_0 1 rfl rfl ?_
  refine qe_if_lt (tgt := 19) dX7_chooses_1 rfl h (fun _ h => ?_) (fun _ h => ?_)
  · refine qe_iconst (v := (0 : Int32)) dX7_chooses_19 rfl ?_
    have e : ((0 : Int32), s0) = o := Option.some.inj h
    subst e
    exact qe_nret dX7_chooses_20 rfl rfl
  · refine qe_iload_n dX7_chooses_4 1 rfl rfl ?_
    refine qe_bipush (v := (nI 12)) dX7_chooses_5 rfl ?_
    refine qe_icmp_ge (tgt := 19) dX7_chooses_7 rfl h (fun _ h => ?_) (fun _ h => ?_)
    · refine qe_iconst (v := (0 : Int32)) dX7_chooses_19 rfl ?_
      have e : ((0 : Int32), s0) = o := Option.some.inj h
      subst e
      exact qe_nret dX7_chooses_20 rfl rfl
    · refine qe_aload_n dX7_chooses_10 0 rfl rfl trivial ?_
      refine qs_getL (j := 0) tC_25 rfl fl_RX7_9 dX7_chooses_11 ?_
      refine qe_lconst (v := 1) dX7_chooses_14 rfl ?_
      refine qe_lcmp_ge (tgt := 21) dX7_chooses_15 dX7_chooses_16 rfl h (fun _ h => ?_) (fun _ h => ?_)
      · refine qe_lload_n dX7_chooses_21 2 rfl rfl ?_
        refine qe_aload_n dX7_chooses_22 0 rfl rfl trivial ?_
        refine qs_getR (j := 1) tC_25 rfl fl_RX7_15 dX7_chooses_23 ?_
        refine qe_iload_n dX7_chooses_26 1 rfl rfl ?_
        refine qs_lld tC_26 dX7_chooses_27 h (fun b1 h => ?_)
        refine qe_lsub dX7_chooses_28 ?_
        refine qe_aload_n dX7_chooses_29 0 rfl rfl trivial ?_
        refine qs_getL (j := 0) tC_25 rfl fl_RX7_9 dX7_chooses_30 ?_
        refine qm_b_elim h (fun b3 s2 hc h => ?_)
        refine qe_callS1 (st := []) kk_X7_chooses_J9_floorMod_f86c9 (c_J9_floorMod_f86c9 hc) rfl rfl (Nat.le_of_ble_eq_true rfl) dX7_chooses_33 ?_
        refine qe_aload_n dX7_chooses_36 0 rfl rfl trivial ?_
        refine qs_getR (j := 2) tC_25 rfl fl_RX7_19 dX7_chooses_37 ?_
        refine qe_iload_n dX7_chooses_40 1 rfl rfl ?_
        refine qs_lld tC_27 dX7_chooses_41 h (fun b4 h => ?_)
        refine qe_lcmp_ge (tgt := 50) dX7_chooses_42 dX7_chooses_43 rfl h (fun _ h => ?_) (fun _ h => ?_)
        · refine qe_iconst (v := (0 : Int32)) dX7_chooses_50 rfl ?_
          have e : ((0 : Int32), s2) = o := Option.some.inj h
          subst e
          exact qe_nret dX7_chooses_51 rfl rfl
        · refine qe_iconst (v := (1 : Int32)) dX7_chooses_46 rfl ?_
          refine qe_goto (tgt := 51) dX7_chooses_47 rfl ?_
          have e : ((1 : Int32), s2) = o := Option.some.inj h
          subst e
          exact qe_nret dX7_chooses_51 rfl rfl
      · refine qe_iconst (v := (0 : Int32)) dX7_chooses_19 rfl ?_
        have e : ((0 : Int32), s0) = o := Option.some.inj h
        subst e
        exact qe_nret dX7_chooses_20 rfl rfl

set_option maxRecDepth 20000 in
theorem c_X7_chosenBy_L5_22 {l : Launch} {G : qe_G} {v1 : Int64} : ∀ (n : Nat) (v3 : Int32) (v4 : Int32) (s0 : qe_S) (o : Int32 × qe_S), g_X7_chosenBy_L5 22 v1 n v3 v4 s0 = some o → qe_J l G MX7_chosenBy 5 [(0, .ref 22), (1, .long v1), (3, .int v3), (4, .int v4)] [] (qs_w s0 (qs_TC G)) (some (.int o.1)) (qs_w o.2 (qs_TC G)) := by
  intro n
  induction n with
  | zero =>
    intro v3 v4 s0 o h
    rw [g_X7_chosenBy_L5] at h
    cases h
  | succ n ih =>
    intro v3 v4 s0 o h
    rw [g_X7_chosenBy_L5] at h
    refine qe_iload dX7_chosenBy_5 3 rfl ?_
    refine qe_bipush (v := (nI 12)) dX7_chosenBy_7 rfl ?_
    refine qe_icmp_ge (tgt := 39) dX7_chosenBy_9 rfl h (fun _ h => ?_) (fun _ h => ?_)
    · refine qe_iload_n dX7_chosenBy_39 2 rfl rfl ?_
      have e : (v3, s0) = o := Option.some.inj h
      subst e
      exact qe_iret dX7_chosenBy_40 rfl
    · refine qm_j_elim h (fun j31 ej31 h => ?_)
      have hj31 : ∀ (q3 : Int32) (q4 : Int32) (s5 : qe_S) (o : Int32 × qe_S), j31 q3 q4 s5 = some o → qe_J l G MX7_chosenBy 31 [(0, .ref 22), (1, .long v1), (4, .int v4)] [.int q3, .int q4] (qs_w s5 (qs_TC G)) (some (.int o.1)) (qs_w o.2 (qs_TC G)) := by
        intro q3 q4 s5 o h
        subst ej31
        refine qe_ior dX7_chosenBy_31 ?_
        refine qe_let_i h (fun a6 h => ?_)
        refine qe_istore_n (lv' := [(3, .int a6), (0, .ref 22), (1, .long v1), (4, .int v4)]) dX7_chosenBy_32 rfl rfl (Nat.le_of_ble_eq_true rfl) ?_
        refine qe_iincl (lv' := fun a7 => [(4, .int a7), (3, .int a6), (0, .ref 22), (1, .long v1)]) dX7_chosenBy_33 3 rfl rfl (fun _ => rfl) (Nat.le_of_ble_eq_true rfl) h (fun a7 h => ?_)
        refine qe_goto (tgt := 5) dX7_chosenBy_36 rfl ?_
        refine qe_sub [2, 3, 1, 0] rfl ?_
        exact ih _ _ _ _ h
      refine qe_iload_n dX7_chosenBy_12 2 rfl rfl ?_
      refine qe_aload_n dX7_chosenBy_13 0 rfl rfl trivial ?_
      refine qe_iload dX7_chosenBy_14 3 rfl ?_
      refine qe_lload_n dX7_chosenBy_16 1 rfl rfl ?_
      refine qm_b_elim h (fun a9 s8 hc h => ?_)
      refine qe_callV1 (st := [.int v3]) kk_X7_chosenBy_X7_chooses (c_X7_chooses_22 hc) (qs_at tC_22) rfl rfl rfl (Nat.le_of_ble_eq_true rfl) dX7_chosenBy_17 ?_
      refine qe_if_eq (tgt := 30) dX7_chosenBy_20 rfl h (fun _ h => ?_) (fun _ h => ?_)
      · refine qe_iconst (v := (0 : Int32)) dX7_chosenBy_30 rfl ?_
        refine qe_sub [0, 1, 3] rfl ?_
        exact hj31 _ _ _ _ h
      · refine qe_iconst (v := (1 : Int32)) dX7_chosenBy_23 rfl ?_
        refine qe_iload dX7_chosenBy_24 3 rfl ?_
        refine qe_ishl dX7_chosenBy_26 ?_
        refine qe_goto (tgt := 31) dX7_chosenBy_27 rfl ?_
        refine qe_sub [0, 1, 3] rfl ?_
        exact hj31 _ _ _ _ h

set_option maxRecDepth 20000 in
theorem c_X7_chosenBy_22 {l : Launch} {G : qe_G} {v1 : Int64} {s0 : qe_S} {o : Int32 × qe_S} (h : g_X7_chosenBy 22 v1 s0 = some o) : qe_C l G MX7_chosenBy [.ref 22, .long v1] (qs_w s0 (qs_TC G)) (some (.int o.1)) (qs_w o.2 (qs_TC G)) := by
  refine qe_C.of (by decide +kernel) (Nat.le_of_ble_eq_true rfl) ?_
  show qe_J l G MX7_chosenBy 0 [(0, .ref 22), (1, .long v1)] [] (qs_w s0 (qs_TC G)) (some (.int o.1)) (qs_w o.2 (qs_TC G))
  unfold g_X7_chosenBy at h
  refine qe_iconst (v := (0 : Int32)) dX7_chosenBy_0 rfl ?_
  refine qe_let_i h (fun a1 h => ?_)
  refine qe_istore_n (lv' := [(3, .int a1), (0, .ref 22), (1, .long v1)]) dX7_chosenBy_1 rfl rfl (Nat.le_of_ble_eq_true rfl) ?_
  refine qe_iconst (v := (0 : Int32)) dX7_chosenBy_2 rfl ?_
  refine qe_let_i h (fun a2 h => ?_)
  refine qe_istore (lv' := [(4, .int a2), (3, .int a1), (0, .ref 22), (1, .long v1)]) dX7_chosenBy_3 rfl (Nat.le_of_ble_eq_true rfl) ?_
  refine qe_sub [2, 3, 1, 0] rfl ?_
  refine c_X7_chosenBy_L5_22 _ _ _ _ _ h

set_option maxRecDepth 20000 in
theorem c_X7_chosenBy_L5_25 {l : Launch} {G : qe_G} {v1 : Int64} : ∀ (n : Nat) (v3 : Int32) (v4 : Int32) (s0 : qe_S) (o : Int32 × qe_S), g_X7_chosenBy_L5 25 v1 n v3 v4 s0 = some o → qe_J l G MX7_chosenBy 5 [(0, .ref 25), (1, .long v1), (3, .int v3), (4, .int v4)] [] (qs_w s0 (qs_TC G)) (some (.int o.1)) (qs_w o.2 (qs_TC G)) := by
  intro n
  induction n with
  | zero =>
    intro v3 v4 s0 o h
    rw [g_X7_chosenBy_L5] at h
    cases h
  | succ n ih =>
    intro v3 v4 s0 o h
    rw [g_X7_chosenBy_L5] at h
    refine qe_iload dX7_chosenBy_5 3 rfl ?_
    refine qe_bipush (v := (nI 12)) dX7_chosenBy_7 rfl ?_
    refine qe_icmp_ge (tgt := 39) dX7_chosenBy_9 rfl h (fun _ h => ?_) (fun _ h => ?_)
    · refine qe_iload_n dX7_chosenBy_39 2 rfl rfl ?_
      have e : (v3, s0) = o := Option.some.inj h
      subst e
      exact qe_iret dX7_chosenBy_40 rfl
    · refine qm_j_elim h (fun j31 ej31 h => ?_)
      have hj31 : ∀ (q3 : Int32) (q4 : Int32) (s5 : qe_S) (o : Int32 × qe_S), j31 q3 q4 s5 = some o → qe_J l G MX7_chosenBy 31 [(0, .ref 25), (1, .long v1), (4, .int v4)] [.int q3, .int q4] (qs_w s5 (qs_TC G)) (some (.int o.1)) (qs_w o.2 (qs_TC G)) := by
        intro q3 q4 s5 o h
        subst ej31
        refine qe_ior dX7_chosenBy_31 ?_
        refine qe_let_i h (fun a6 h => ?_)
        refine qe_istore_n (lv' := [(3, .int a6), (0, .ref 25), (1, .long v1), (4, .int v4)]) dX7_chosenBy_32 rfl rfl (Nat.le_of_ble_eq_true rfl) ?_
        refine qe_iincl (lv' := fun a7 => [(4, .int a7), (3, .int a6), (0, .ref 25), (1, .long v1)]) dX7_chosenBy_33 3 rfl rfl (fun _ => rfl) (Nat.le_of_ble_eq_true rfl) h (fun a7 h => ?_)
        refine qe_goto (tgt := 5) dX7_chosenBy_36 rfl ?_
        refine qe_sub [2, 3, 1, 0] rfl ?_
        exact ih _ _ _ _ h
      refine qe_iload_n dX7_chosenBy_12 2 rfl rfl ?_
      refine qe_aload_n dX7_chosenBy_13 0 rfl rfl trivial ?_
      refine qe_iload dX7_chosenBy_14 3 rfl ?_
      refine qe_lload_n dX7_chosenBy_16 1 rfl rfl ?_
      refine qm_b_elim h (fun a9 s8 hc h => ?_)
      refine qe_callV1 (st := [.int v3]) kk_X7_chosenBy_X7_chooses (c_X7_chooses_25 hc) (qs_at tC_25) rfl rfl rfl (Nat.le_of_ble_eq_true rfl) dX7_chosenBy_17 ?_
      refine qe_if_eq (tgt := 30) dX7_chosenBy_20 rfl h (fun _ h => ?_) (fun _ h => ?_)
      · refine qe_iconst (v := (0 : Int32)) dX7_chosenBy_30 rfl ?_
        refine qe_sub [0, 1, 3] rfl ?_
        exact hj31 _ _ _ _ h
      · refine qe_iconst (v := (1 : Int32)) dX7_chosenBy_23 rfl ?_
        refine qe_iload dX7_chosenBy_24 3 rfl ?_
        refine qe_ishl dX7_chosenBy_26 ?_
        refine qe_goto (tgt := 31) dX7_chosenBy_27 rfl ?_
        refine qe_sub [0, 1, 3] rfl ?_
        exact hj31 _ _ _ _ h

set_option maxRecDepth 20000 in
theorem c_X7_chosenBy_25 {l : Launch} {G : qe_G} {v1 : Int64} {s0 : qe_S} {o : Int32 × qe_S} (h : g_X7_chosenBy 25 v1 s0 = some o) : qe_C l G MX7_chosenBy [.ref 25, .long v1] (qs_w s0 (qs_TC G)) (some (.int o.1)) (qs_w o.2 (qs_TC G)) := by
  refine qe_C.of (by decide +kernel) (Nat.le_of_ble_eq_true rfl) ?_
  show qe_J l G MX7_chosenBy 0 [(0, .ref 25), (1, .long v1)] [] (qs_w s0 (qs_TC G)) (some (.int o.1)) (qs_w o.2 (qs_TC G))
  unfold g_X7_chosenBy at h
  refine qe_iconst (v := (0 : Int32)) dX7_chosenBy_0 rfl ?_
  refine qe_let_i h (fun a1 h => ?_)
  refine qe_istore_n (lv' := [(3, .int a1), (0, .ref 25), (1, .long v1)]) dX7_chosenBy_1 rfl rfl (Nat.le_of_ble_eq_true rfl) ?_
  refine qe_iconst (v := (0 : Int32)) dX7_chosenBy_2 rfl ?_
  refine qe_let_i h (fun a2 h => ?_)
  refine qe_istore (lv' := [(4, .int a2), (3, .int a1), (0, .ref 25), (1, .long v1)]) dX7_chosenBy_3 rfl (Nat.le_of_ble_eq_true rfl) ?_
  refine qe_sub [2, 3, 1, 0] rfl ?_
  refine c_X7_chosenBy_L5_25 _ _ _ _ _ h

set_option maxRecDepth 20000 in
theorem c_X8_chosen {l : Launch} {G : qe_G} {v1 : Int32} {s0 : qe_S} {o : Int32 × qe_S} (h : g_X8_chosen v1 s0 = some o) : qe_C l G MX8_chosen [.ref 0, .int v1] (qs_w s0 (qs_TC G)) (some (.int o.1)) (qs_w o.2 (qs_TC G)) := by
  refine qe_C.of (by decide +kernel) (Nat.le_of_ble_eq_true rfl) ?_
  show qe_J l G MX8_chosen 0 [(0, .ref 0), (1, .int v1)] [] (qs_w s0 (qs_TC G)) (some (.int o.1)) (qs_w o.2 (qs_TC G))
  unfold g_X8_chosen at h
  refine qe_aload_n dX8_chosen_0 0 rfl rfl trivial ?_
  refine qm_b_elim h (fun a2 s1 hc h => ?_)
  refine qe_callV1 (st := []) kk_X8_chosen_X8_layWheel (c_X8_layWheel hc) (qs_at tC_0) rfl rfl rfl (Nat.le_of_ble_eq_true rfl) dX8_chosen_1 ?_
  refine qe_if_ne (tgt := 14) dX8_chosen_4 rfl h (fun _ h => ?_) (fun _ h => ?_)
  · refine qe_aload_n dX8_chosen_14 0 rfl rfl trivial ?_
    refine qs_getR (j := 4) tC_0 rfl fl_RX8_29 dX8_chosen_15 ?_
    refine qe_iload_n dX8_chosen_18 1 rfl rfl ?_
    refine qm_b_elim h (fun a4 s3 hc h => ?_)
    refine qe_callV1 (st := []) kk_X8_chosen_X7_hasPlace (c_X7_hasPlace hc) (qs_at tC_22) rfl rfl rfl (Nat.le_of_ble_eq_true rfl) dX8_chosen_19 ?_
    refine qe_if_eq (tgt := 37) dX8_chosen_22 rfl h (fun _ h => ?_) (fun _ h => ?_)
    · refine qe_aload_n dX8_chosen_37 0 rfl rfl trivial ?_
      refine qe_bipush (v := (-2 : Int32)) dX8_chosen_38 rfl ?_
      refine qm_b_elim h (fun a6 s5 hc h => ?_)
      refine qe_callV1 (st := []) kk_X8_chosen_X8_refuse (c_X8_refuse hc) (qs_at tC_0) rfl rfl rfl (Nat.le_of_ble_eq_true rfl) dX8_chosen_40 ?_
      have e : (a6, s5) = o := Option.some.inj h
      subst e
      exact qe_iret dX8_chosen_43 rfl
    · refine qe_aload_n dX8_chosen_25 0 rfl rfl trivial ?_
      refine qs_getR (j := 4) tC_0 rfl fl_RX8_29 dX8_chosen_26 ?_
      refine qe_iload_n dX8_chosen_29 1 rfl rfl ?_
      refine qe_i2l dX8_chosen_30 ?_
      refine qm_b_elim h (fun a8 s7 hc h => ?_)
      refine qe_callV1 (st := []) kk_X8_chosen_X7_chosenBy (c_X7_chosenBy_22 hc) (qs_at tC_22) rfl rfl rfl (Nat.le_of_ble_eq_true rfl) dX8_chosen_31 ?_
      refine qe_goto (tgt := 43) dX8_chosen_34 rfl ?_
      have e : (a8, s7) = o := Option.some.inj h
      subst e
      exact qe_iret dX8_chosen_43 rfl
  · refine qe_aload_n dX8_chosen_7 0 rfl rfl trivial ?_
    refine qe_bipush (v := (-7 : Int32)) dX8_chosen_8 rfl ?_
    refine qm_b_elim h (fun a10 s9 hc h => ?_)
    refine qe_callV1 (st := []) kk_X8_chosen_X8_refuse (c_X8_refuse hc) (qs_at tC_0) rfl rfl rfl (Nat.le_of_ble_eq_true rfl) dX8_chosen_10 ?_
    have e : (a10, s9) = o := Option.some.inj h
    subst e
    exact qe_iret dX8_chosen_13 rfl

set_option maxRecDepth 20000 in
theorem c_J9_min_f86c9 {l : Launch} {G : qe_G} {T : List va_E} {v0 : Int64} {v2 : Int64} {s0 : qe_S} {o : Int64 × qe_S} (h : g_J9_min_f86c9 v0 v2 s0 = some o) : qe_C l G MJ9_min_f86c9 [.long v0, .long v2] (qs_w s0 T) (some (.long o.1)) (qs_w o.2 T) := by
  refine qe_C.ofF (by decide +kernel) (Nat.le_of_ble_eq_true rfl) ?_
  show qe_J l G MJ9_min_f86c9 0 [(0, .long v0), (2, .long v2)] [] (qs_w s0 T) (some (.long o.1)) (qs_w o.2 T)
  unfold g_J9_min_f86c9 at h
  refine qe_lload_n dJ9_min_f86c9_0 0 rfl rfl ?_
  refine qe_lload_n dJ9_min_f86c9_1 1 rfl rfl ?_
  refine qe_lcmp_gt (tgt := 10) dJ9_min_f86c9_2 dJ9_min_f86c9_3 rfl h (fun _ h => ?_) (fun _ h => ?_)
  · refine qe_lload_n dJ9_min_f86c9_10 1 rfl rfl ?_
    have e : (v2, s0) = o := Option.some.inj h
    subst e
    exact qe_lret dJ9_min_f86c9_11 rfl
  · refine qe_lload_n dJ9_min_f86c9_6 0 rfl rfl ?_
    refine qe_goto (tgt := 11) dJ9_min_f86c9_7 rfl ?_
    have e : (v0, s0) = o := Option.some.inj h
    subst e
    exact qe_lret dJ9_min_f86c9_11 rfl

set_option maxRecDepth 20000 in
theorem c_X7_nextEnd_L8 {l : Launch} {G : qe_G} {v1 : Int64} : ∀ (n : Nat) (v3 : Int64) (v5 : Int32) (s0 : qe_S) (o : Int64 × qe_S), g_X7_nextEnd_L8 v1 n v3 v5 s0 = some o → qe_J l G MX7_nextEnd 8 [(0, .ref 22), (1, .long v1), (3, .long v3), (5, .int v5)] [] (qs_w s0 (qs_TC G)) (some (.long o.1)) (qs_w o.2 (qs_TC G)) := by
  intro n
  induction n with
  | zero =>
    intro v3 v5 s0 o h
    rw [g_X7_nextEnd_L8] at h
    cases h
  | succ n ih =>
    intro v3 v5 s0 o h
    rw [g_X7_nextEnd_L8] at h
    refine qe_iload dX7_nextEnd_8 3 rfl ?_
    refine qe_bipush (v := (nI 12)) dX7_nextEnd_10 rfl ?_
    refine qe_icmp_ge (tgt := 70) dX7_nextEnd_12 rfl h (fun _ h => ?_) (fun _ h => ?_)
    · refine qe_lload_n dX7_nextEnd_70 2 rfl rfl ?_
      have e : (v3, s0) = o := Option.some.inj h
      subst e
      exact qe_lret dX7_nextEnd_71 rfl
    · refine qe_aload_n dX7_nextEnd_15 0 rfl rfl trivial ?_
      refine qs_getL (j := 0) tC_22 rfl fl_RX7_9 dX7_nextEnd_16 ?_
      refine qe_lconst (v := 0) dX7_nextEnd_19 rfl ?_
      refine qe_lcmp_le (tgt := 70) dX7_nextEnd_20 dX7_nextEnd_21 rfl h (fun _ h => ?_) (fun _ h => ?_)
      · refine qe_lload_n dX7_nextEnd_70 2 rfl rfl ?_
        have e : (v3, s0) = o := Option.some.inj h
        subst e
        exact qe_lret dX7_nextEnd_71 rfl
      · refine qm_j_elim h (fun j63 ej63 h => ?_)
        have hj63 : ∀ (q3 : Int64) (s4 : qe_S) (o : Int64 × qe_S), j63 q3 s4 = some o → qe_J l G MX7_nextEnd 63 [(0, .ref 22), (1, .long v1), (5, .int v5)] [.long q3] (qs_w s4 (qs_TC G)) (some (.long o.1)) (qs_w o.2 (qs_TC G)) := by
          intro q3 s4 o h
          subst ej63
          refine qe_lstore_n (lv' := [(3, .long q3), (0, .ref 22), (1, .long v1), (5, .int v5)]) dX7_nextEnd_63 rfl rfl (Nat.le_of_ble_eq_true rfl) ?_
          refine qe_iincl (lv' := fun a5 => [(5, .int a5), (3, .long q3), (0, .ref 22), (1, .long v1)]) dX7_nextEnd_64 3 rfl rfl (fun _ => rfl) (Nat.le_of_ble_eq_true rfl) h (fun a5 h => ?_)
          refine qe_goto (tgt := 8) dX7_nextEnd_67 rfl ?_
          refine qe_sub [2, 3, 1, 0] rfl ?_
          exact ih _ _ _ _ h
        refine qe_aload_n dX7_nextEnd_24 0 rfl rfl trivial ?_
        refine qs_getR (j := 1) tC_22 rfl fl_RX7_15 dX7_nextEnd_25 ?_
        refine qe_iload dX7_nextEnd_28 3 rfl ?_
        refine qs_lld tC_23 dX7_nextEnd_30 h (fun b6 h => ?_)
        refine qe_aload_n dX7_nextEnd_31 0 rfl rfl trivial ?_
        refine qs_getR (j := 2) tC_22 rfl fl_RX7_19 dX7_nextEnd_32 ?_
        refine qe_iload dX7_nextEnd_35 3 rfl ?_
        refine qs_lld tC_24 dX7_nextEnd_37 h (fun b7 h => ?_)
        refine qe_ladd dX7_nextEnd_38 ?_
        refine qe_aload_n dX7_nextEnd_39 0 rfl rfl trivial ?_
        refine qs_getL (j := 0) tC_22 rfl fl_RX7_9 dX7_nextEnd_40 ?_
        refine qe_lrem dX7_nextEnd_43 h (fun h => ?_)
        refine qe_let_l h (fun b8 h => ?_)
        refine qe_lstore (lv' := [(6, .long b8), (0, .ref 22), (1, .long v1), (3, .long v3), (5, .int v5)]) dX7_nextEnd_44 rfl (Nat.le_of_ble_eq_true rfl) ?_
        refine qe_lload dX7_nextEnd_46 0 rfl ?_
        refine qe_lload_n dX7_nextEnd_48 2 rfl rfl ?_
        refine qe_lcmp_le (tgt := 62) dX7_nextEnd_49 dX7_nextEnd_50 rfl h (fun _ h => ?_) (fun _ h => ?_)
        · refine qe_lload_n dX7_nextEnd_62 3 rfl rfl ?_
          refine qe_sub [1, 2, 4] rfl ?_
          exact hj63 _ _ _ h
        · refine qe_lload_n dX7_nextEnd_53 3 rfl rfl ?_
          refine qe_lload dX7_nextEnd_54 0 rfl ?_
          refine qm_b_elim h (fun b10 s9 hc h => ?_)
          refine qe_callS1 (st := []) kk_X7_nextEnd_J9_min_f86c9 (c_J9_min_f86c9 hc) rfl rfl (Nat.le_of_ble_eq_true rfl) dX7_nextEnd_56 ?_
          refine qe_goto (tgt := 63) dX7_nextEnd_59 rfl ?_
          refine qe_sub [1, 2, 4] rfl ?_
          exact hj63 _ _ _ h

set_option maxRecDepth 20000 in
theorem c_X7_nextEnd {l : Launch} {G : qe_G} {v1 : Int64} {s0 : qe_S} {o : Int64 × qe_S} (h : g_X7_nextEnd v1 s0 = some o) : qe_C l G MX7_nextEnd [.ref 22, .long v1] (qs_w s0 (qs_TC G)) (some (.long o.1)) (qs_w o.2 (qs_TC G)) := by
  refine qe_C.of (by decide +kernel) (Nat.le_of_ble_eq_true rfl) ?_
  show qe_J l G MX7_nextEnd 0 [(0, .ref 22), (1, .long v1)] [] (qs_w s0 (qs_TC G)) (some (.long o.1)) (qs_w o.2 (qs_TC G))
  unfold g_X7_nextEnd at h
  refine qe_aload_n dX7_nextEnd_0 0 rfl rfl trivial ?_
  refine qs_getL (j := 0) tC_22 rfl fl_RX7_9 dX7_nextEnd_1 ?_
  refine qe_let_l h (fun b1 h => ?_)
  refine qe_lstore_n (lv' := [(3, .long b1), (0, .ref 22), (1, .long v1)]) dX7_nextEnd_4 rfl rfl (Nat.le_of_ble_eq_true rfl) ?_
  refine qe_iconst (v := (0 : Int32)) dX7_nextEnd_5 rfl ?_
  refine qe_let_i h (fun a2 h => ?_)
  refine qe_istore (lv' := [(5, .int a2), (3, .long b1), (0, .ref 22), (1, .long v1)]) dX7_nextEnd_6 rfl (Nat.le_of_ble_eq_true rfl) ?_
  refine qe_sub [2, 3, 1, 0] rfl ?_
  refine c_X7_nextEnd_L8 _ _ _ _ _ h

set_option maxRecDepth 20000 in
theorem c_X5_trace_L7 {l : Launch} {G : qe_G} : ∀ (n : Nat) (v2 : Int64) (s0 : qe_S) (o : qe_S), g_X5_trace_L7 n v2 s0 = some o → qe_J l G MX5_trace 7 [(0, .ref 28), (1, .ref 22), (2, .long v2)] [] (qs_w s0 (qs_TC G)) none (qs_w o (qs_TC G)) := by
  intro n
  induction n with
  | zero =>
    intro v2 s0 o h
    rw [g_X5_trace_L7] at h
    cases h
  | succ n ih =>
    intro v2 s0 o h
    rw [g_X5_trace_L7] at h
    refine qe_aload_n dX5_trace_7 0 rfl rfl trivial ?_
    refine qs_getI (j := 0) tC_28 rfl fl_RX5_9 dX5_trace_8 ?_
    refine qe_bipush (v := (nI 13)) dX5_trace_11 rfl ?_
    refine qe_icmp_ge (tgt := 85) dX5_trace_13 rfl h (fun _ h => ?_) (fun _ h => ?_)
    · have e : s0 = o := Option.some.inj h
      subst e
      exact qe_vret dX5_trace_85 rfl
    · refine qe_lload_n dX5_trace_16 2 rfl rfl ?_
      refine qe_aload_n dX5_trace_17 1 rfl rfl trivial ?_
      refine qs_getL (j := 0) tC_22 rfl fl_RX5_26 dX5_trace_18 ?_
      refine qe_lcmp_ge (tgt := 85) dX5_trace_21 dX5_trace_22 rfl h (fun _ h => ?_) (fun _ h => ?_)
      · have e : s0 = o := Option.some.inj h
        subst e
        exact qe_vret dX5_trace_85 rfl
      · refine qe_aload_n dX5_trace_25 1 rfl rfl trivial ?_
        refine qe_lload_n dX5_trace_26 2 rfl rfl ?_
        refine qm_b_elim h (fun b4 s3 hc h => ?_)
        refine qe_callV1 (st := []) kk_X5_trace_X7_nextEnd (c_X7_nextEnd hc) (qs_at tC_22) rfl rfl rfl (Nat.le_of_ble_eq_true rfl) dX5_trace_27 ?_
        refine qe_lstore (lv' := [(4, .long b4), (0, .ref 28), (1, .ref 22), (2, .long v2)]) dX5_trace_30 rfl (Nat.le_of_ble_eq_true rfl) ?_
        refine qe_aload_n dX5_trace_32 1 rfl rfl trivial ?_
        refine qs_getR (j := 1) tC_28 rfl fl_RX5_15 dX5_trace_33 ?_
        refine qe_aload_n dX5_trace_36 1 rfl rfl trivial ?_
        refine qs_getI (j := 0) tC_28 rfl fl_RX5_9 dX5_trace_37 ?_
        refine qe_lload_n dX5_trace_40 3 rfl rfl ?_
        refine qs_lst tC_29 dX5_trace_41 h (fun s5 h => ?_)
        refine qe_aload_n dX5_trace_42 1 rfl rfl trivial ?_
        refine qs_getR (j := 2) tC_28 rfl fl_RX5_19 dX5_trace_43 ?_
        refine qe_aload_n dX5_trace_46 1 rfl rfl trivial ?_
        refine qs_getI (j := 0) tC_28 rfl fl_RX5_9 dX5_trace_47 ?_
        refine qe_lload dX5_trace_50 0 rfl ?_
        refine qe_lload_n dX5_trace_52 3 rfl rfl ?_
        refine qe_lsub dX5_trace_53 ?_
        refine qs_lst tC_30 dX5_trace_54 h (fun s6 h => ?_)
        refine qe_aload_n dX5_trace_55 1 rfl rfl trivial ?_
        refine qs_getR (j := 3) tC_28 rfl fl_RX5_22 dX5_trace_56 ?_
        refine qe_aload_n dX5_trace_59 1 rfl rfl trivial ?_
        refine qs_getI (j := 0) tC_28 rfl fl_RX5_9 dX5_trace_60 ?_
        refine qe_aload_n dX5_trace_63 2 rfl rfl trivial ?_
        refine qe_lload_n dX5_trace_64 3 rfl rfl ?_
        refine qm_b_elim h (fun a8 s7 hc h => ?_)
        refine qe_callV1 (st := [.int (s6.1 28 0), .ref 31]) kk_X5_trace_X7_chosenBy (c_X7_chosenBy_22 hc) (qs_at tC_22) rfl rfl rfl (Nat.le_of_ble_eq_true rfl) dX5_trace_65 ?_
        refine qs_ist tC_31 dX5_trace_68 h (fun s9 h => ?_)
        refine qe_lload dX5_trace_69 0 rfl ?_
        refine qe_lstore_n (lv' := [(2, .long b4), (4, .long b4), (0, .ref 28), (1, .ref 22)]) dX5_trace_71 rfl rfl (Nat.le_of_ble_eq_true rfl) ?_
        refine qe_aload_n dX5_trace_72 2 rfl rfl trivial ?_
        refine qe_dup dX5_trace_73 rfl ?_
        refine qs_getI (j := 0) tC_28 rfl fl_RX5_9 dX5_trace_74 ?_
        refine qe_iconst (v := (1 : Int32)) dX5_trace_77 rfl ?_
        refine qe_iadd dX5_trace_78 ?_
        refine qs_putI (j := 0) tC_28 rfl fp_RX5_9 dX5_trace_79 h (fun s10 h => ?_)
        refine qe_goto (tgt := 7) dX5_trace_82 rfl ?_
        refine qe_sub [2, 3, 0] rfl ?_
        exact ih _ _ _ h

set_option maxRecDepth 20000 in
theorem c_X5_trace {l : Launch} {G : qe_G}  {s0 : qe_S} {o : qe_S} (h : g_X5_trace  s0 = some o) : qe_C l G MX5_trace [.ref 28, .ref 22] (qs_w s0 (qs_TC G)) none (qs_w o (qs_TC G)) := by
  refine qe_C.of (by decide +kernel) (Nat.le_of_ble_eq_true rfl) ?_
  show qe_J l G MX5_trace 0 [(0, .ref 28), (1, .ref 22)] [] (qs_w s0 (qs_TC G)) none (qs_w o (qs_TC G))
  unfold g_X5_trace at h
  refine qe_aload_n dX5_trace_0 0 rfl rfl trivial ?_
  refine qe_iconst (v := (0 : Int32)) dX5_trace_1 rfl ?_
  refine qs_putI (j := 0) tC_28 rfl fp_RX5_9 dX5_trace_2 h (fun s1 h => ?_)
  refine qe_lconst (v := 0) dX5_trace_5 rfl ?_
  refine qe_let_l h (fun b2 h => ?_)
  refine qe_lstore_n (lv' := [(2, .long b2), (0, .ref 28), (1, .ref 22)]) dX5_trace_6 rfl rfl (Nat.le_of_ble_eq_true rfl) ?_
  refine qe_sub [1, 2, 0] rfl ?_
  refine c_X5_trace_L7 _ _ _ _ h

set_option maxRecDepth 20000 in
theorem c_X8_run {l : Launch} {G : qe_G} {v1 : Int32} {v2 : Int32} {s0 : qe_S} {o : Int32 × qe_S} (h : g_X8_run v1 v2 s0 = some o) : qe_C l G MX8_run [.ref 0, .int v1, .int v2] (qs_w s0 (qs_TC G)) (some (.int o.1)) (qs_w o.2 (qs_TC G)) := by
  refine qe_C.of (by decide +kernel) (Nat.le_of_ble_eq_true rfl) ?_
  show qe_J l G MX8_run 0 [(0, .ref 0), (1, .int v1), (2, .int v2)] [] (qs_w s0 (qs_TC G)) (some (.int o.1)) (qs_w o.2 (qs_TC G))
  unfold g_X8_run at h
  refine qe_iload_n dX8_run_0 1 rfl rfl ?_
  refine qe_iconst (v := (-1 : Int32)) dX8_run_1 rfl ?_
  refine qe_icmp_lt (tgt := 14) dX8_run_2 rfl h (fun _ h => ?_) (fun _ h => ?_)
  · refine qe_aload_n dX8_run_14 0 rfl rfl trivial ?_
    refine qe_iconst (v := (-1 : Int32)) dX8_run_15 rfl ?_
    refine qm_b_elim h (fun a2 s1 hc h => ?_)
    refine qe_callV1 (st := []) kk_X8_run_X8_refuse (c_X8_refuse hc) (qs_at tC_0) rfl rfl rfl (Nat.le_of_ble_eq_true rfl) dX8_run_16 ?_
    have e : (a2, s1) = o := Option.some.inj h
    subst e
    exact qe_iret dX8_run_19 rfl
  · refine qe_iload_n dX8_run_5 2 rfl rfl ?_
    refine qe_if_lt (tgt := 14) dX8_run_6 rfl h (fun _ h => ?_) (fun _ h => ?_)
    · refine qe_aload_n dX8_run_14 0 rfl rfl trivial ?_
      refine qe_iconst (v := (-1 : Int32)) dX8_run_15 rfl ?_
      refine qm_b_elim h (fun a4 s3 hc h => ?_)
      refine qe_callV1 (st := []) kk_X8_run_X8_refuse (c_X8_refuse hc) (qs_at tC_0) rfl rfl rfl (Nat.le_of_ble_eq_true rfl) dX8_run_16 ?_
      have e : (a4, s3) = o := Option.some.inj h
      subst e
      exact qe_iret dX8_run_19 rfl
    · refine qe_iload_n dX8_run_9 2 rfl rfl ?_
      refine qe_iconst (v := (nI 2)) dX8_run_10 rfl ?_
      refine qe_icmp_le (tgt := 20) dX8_run_11 rfl h (fun _ h => ?_) (fun _ h => ?_)
      · refine qe_aload_n dX8_run_20 0 rfl rfl trivial ?_
        refine qm_b_elim h (fun a6 s5 hc h => ?_)
        refine qe_callV1 (st := []) kk_X8_run_X8_layWheel (c_X8_layWheel hc) (qs_at tC_0) rfl rfl rfl (Nat.le_of_ble_eq_true rfl) dX8_run_21 ?_
        refine qe_if_ne (tgt := 34) dX8_run_24 rfl h (fun _ h => ?_) (fun _ h => ?_)
        · refine qe_aload_n dX8_run_34 0 rfl rfl trivial ?_
          refine qs_getR (j := 6) tC_0 rfl fl_RX8_39 dX8_run_35 ?_
          refine qe_aload_n dX8_run_38 0 rfl rfl trivial ?_
          refine qs_getR (j := 4) tC_0 rfl fl_RX8_29 dX8_run_39 ?_
          refine qm_o_elim h (fun s7 hc h => ?_)
          refine qe_callV0 (st := []) kk_X8_run_X5_trace (c_X5_trace hc) (qs_at tC_28) rfl rfl rfl (Nat.le_of_ble_eq_true rfl) dX8_run_42 ?_
          refine qe_iload_n dX8_run_45 1 rfl rfl ?_
          refine qe_iconst (v := (-1 : Int32)) dX8_run_46 rfl ?_
          refine qe_icmp_ne (tgt := 58) dX8_run_47 rfl h (fun _ h => ?_) (fun _ h => ?_)
          · refine qe_iload_n dX8_run_58 1 rfl rfl ?_
            refine qe_aload_n dX8_run_59 0 rfl rfl trivial ?_
            refine qs_getR (j := 6) tC_0 rfl fl_RX8_39 dX8_run_60 ?_
            refine qs_getI (j := 0) tC_28 rfl fl_RX8_180 dX8_run_63 ?_
            refine qe_icmp_lt (tgt := 76) dX8_run_66 rfl h (fun _ h => ?_) (fun _ h => ?_)
            · refine qe_iload_n dX8_run_76 2 rfl rfl ?_
              refine qe_lsw_in (v := (0 : Int32)) (tgt := 104) dX8_run_77 (by decide) rfl rfl h (fun h => ?_) (fun c0 h => ?_)
              · refine qe_aload_n dX8_run_104 0 rfl rfl trivial ?_
                refine qs_getR (j := 6) tC_0 rfl fl_RX8_39 dX8_run_105 ?_
                refine qs_getR (j := 1) tC_28 rfl fl_RX8_184 dX8_run_108 ?_
                refine qe_iload_n dX8_run_111 1 rfl rfl ?_
                refine qs_lld tC_29 dX8_run_112 h (fun b8 h => ?_)
                refine qe_l2i dX8_run_113 ?_
                have e : (b8.toInt32, s7) = o := Option.some.inj h
                subst e
                exact qe_iret dX8_run_114 rfl
              refine qe_lsw_in (v := (1 : Int32)) (tgt := 115) dX8_run_77 (by decide) rfl rfl h (fun h => ?_) (fun c1 h => ?_)
              · refine qe_aload_n dX8_run_115 0 rfl rfl trivial ?_
                refine qs_getR (j := 6) tC_0 rfl fl_RX8_39 dX8_run_116 ?_
                refine qs_getR (j := 2) tC_28 rfl fl_RX8_188 dX8_run_119 ?_
                refine qe_iload_n dX8_run_122 1 rfl rfl ?_
                refine qs_lld tC_30 dX8_run_123 h (fun b9 h => ?_)
                refine qe_l2i dX8_run_124 ?_
                have e : (b9.toInt32, s7) = o := Option.some.inj h
                subst e
                exact qe_iret dX8_run_125 rfl
              refine qe_lsw_out (tgt := 126) dX8_run_77 (by decide) ((lv_osw c0 rfl).trans ((lv_osw c1 rfl).trans rfl)) rfl ?_
              refine qe_aload_n dX8_run_126 0 rfl rfl trivial ?_
              refine qs_getR (j := 6) tC_0 rfl fl_RX8_39 dX8_run_127 ?_
              refine qs_getR (j := 3) tC_28 rfl fl_RX8_191 dX8_run_130 ?_
              refine qe_iload_n dX8_run_133 1 rfl rfl ?_
              refine qs_ild tC_31 dX8_run_134 h (fun a10 h => ?_)
              have e : (a10, s7) = o := Option.some.inj h
              subst e
              exact qe_iret dX8_run_135 rfl
            · refine qe_aload_n dX8_run_69 0 rfl rfl trivial ?_
              refine qe_bipush (v := (-5 : Int32)) dX8_run_70 rfl ?_
              refine qm_b_elim h (fun a12 s11 hc h => ?_)
              refine qe_callV1 (st := []) kk_X8_run_X8_refuse (c_X8_refuse hc) (qs_at tC_0) rfl rfl rfl (Nat.le_of_ble_eq_true rfl) dX8_run_72 ?_
              have e : (a12, s11) = o := Option.some.inj h
              subst e
              exact qe_iret dX8_run_75 rfl
          · refine qe_aload_n dX8_run_50 0 rfl rfl trivial ?_
            refine qs_getR (j := 6) tC_0 rfl fl_RX8_39 dX8_run_51 ?_
            refine qs_getI (j := 0) tC_28 rfl fl_RX8_180 dX8_run_54 ?_
            have e : ((s7.1 28 0), s7) = o := Option.some.inj h
            subst e
            exact qe_iret dX8_run_57 rfl
        · refine qe_aload_n dX8_run_27 0 rfl rfl trivial ?_
          refine qe_bipush (v := (-7 : Int32)) dX8_run_28 rfl ?_
          refine qm_b_elim h (fun a14 s13 hc h => ?_)
          refine qe_callV1 (st := []) kk_X8_run_X8_refuse (c_X8_refuse hc) (qs_at tC_0) rfl rfl rfl (Nat.le_of_ble_eq_true rfl) dX8_run_30 ?_
          have e : (a14, s13) = o := Option.some.inj h
          subst e
          exact qe_iret dX8_run_33 rfl
      · refine qe_aload_n dX8_run_14 0 rfl rfl trivial ?_
        refine qe_iconst (v := (-1 : Int32)) dX8_run_15 rfl ?_
        refine qm_b_elim h (fun a16 s15 hc h => ?_)
        refine qe_callV1 (st := []) kk_X8_run_X8_refuse (c_X8_refuse hc) (qs_at tC_0) rfl rfl rfl (Nat.le_of_ble_eq_true rfl) dX8_run_16 ?_
        have e : (a16, s15) = o := Option.some.inj h
        subst e
        exact qe_iret dX8_run_19 rfl

set_option maxRecDepth 20000 in
theorem c_J9_max_f86c9 {l : Launch} {G : qe_G} {T : List va_E} {v0 : Int64} {v2 : Int64} {s0 : qe_S} {o : Int64 × qe_S} (h : g_J9_max_f86c9 v0 v2 s0 = some o) : qe_C l G MJ9_max_f86c9 [.long v0, .long v2] (qs_w s0 T) (some (.long o.1)) (qs_w o.2 T) := by
  refine qe_C.ofF (by decide +kernel) (Nat.le_of_ble_eq_true rfl) ?_
  show qe_J l G MJ9_max_f86c9 0 [(0, .long v0), (2, .long v2)] [] (qs_w s0 T) (some (.long o.1)) (qs_w o.2 T)
  unfold g_J9_max_f86c9 at h
  refine qe_lload_n dJ9_max_f86c9_0 0 rfl rfl ?_
  refine qe_lload_n dJ9_max_f86c9_1 1 rfl rfl ?_
  refine qe_lcmp_lt (tgt := 10) dJ9_max_f86c9_2 dJ9_max_f86c9_3 rfl h (fun _ h => ?_) (fun _ h => ?_)
  · refine qe_lload_n dJ9_max_f86c9_10 1 rfl rfl ?_
    have e : (v2, s0) = o := Option.some.inj h
    subst e
    exact qe_lret dJ9_max_f86c9_11 rfl
  · refine qe_lload_n dJ9_max_f86c9_6 0 rfl rfl ?_
    refine qe_goto (tgt := 11) dJ9_max_f86c9_7 rfl ?_
    have e : (v0, s0) = o := Option.some.inj h
    subst e
    exact qe_lret dJ9_max_f86c9_11 rfl

set_option maxRecDepth 20000 in
theorem c_X8_meeting_L6 {l : Launch} {G : qe_G} {v0 : Int64} {v2 : Int64} {v4 : Int64} {v6 : Int64} {v8 : Int64} : ∀ (n : Nat) (v10 : Int64) (v12 : Int32) (s0 : qe_S) (o : Int64 × qe_S), g_X8_meeting_L6 v0 v2 v4 v6 v8 n v10 v12 s0 = some o → qe_J l G MX8_meeting 6 [(0, .long v0), (2, .long v2), (4, .long v4), (6, .long v6), (8, .long v8), (10, .long v10), (12, .int v12)] [] (qs_w s0 (qs_TC G)) (some (.long o.1)) (qs_w o.2 (qs_TC G)) := by
  intro n
  induction n with
  | zero =>
    intro v10 v12 s0 o h
    rw [g_X8_meeting_L6] at h
    cases h
  | succ n ih =>
    intro v10 v12 s0 o h
    rw [g_X8_meeting_L6] at h
    refine qe_iload dX8_meeting_6 6 rfl ?_
    refine qe_iconst (v := (1 : Int32)) dX8_meeting_8 rfl ?_
    refine qe_icmp_gt (tgt := 60) dX8_meeting_9 rfl h (fun _ h => ?_) (fun _ h => ?_)
    · refine qe_lload dX8_meeting_60 5 rfl ?_
      have e : (v10, s0) = o := Option.some.inj h
      subst e
      exact qe_lret dX8_meeting_62 rfl
    · refine qe_lload dX8_meeting_12 2 rfl ?_
      refine qe_iload dX8_meeting_14 6 rfl ?_
      refine qe_i2l dX8_meeting_16 ?_
      refine qe_lload dX8_meeting_17 4 rfl ?_
      refine qe_lmul dX8_meeting_19 ?_
      refine qe_ladd dX8_meeting_20 ?_
      refine qe_let_l h (fun b3 h => ?_)
      refine qe_lstore (lv' := [(13, .long b3), (0, .long v0), (2, .long v2), (4, .long v4), (6, .long v6), (8, .long v8), (10, .long v10), (12, .int v12)]) dX8_meeting_21 rfl (Nat.le_of_ble_eq_true rfl) ?_
      refine qe_lload_n dX8_meeting_23 1 rfl rfl ?_
      refine qe_lload_n dX8_meeting_24 2 rfl rfl ?_
      refine qe_ladd dX8_meeting_25 ?_
      refine qe_lload dX8_meeting_26 0 rfl ?_
      refine qe_lload dX8_meeting_28 4 rfl ?_
      refine qe_ladd dX8_meeting_30 ?_
      refine qm_b_elim h (fun b5 s4 hc h => ?_)
      refine qe_callS1 (st := []) kk_X8_meeting_J9_min_f86c9 (c_J9_min_f86c9 hc) rfl rfl (Nat.le_of_ble_eq_true rfl) dX8_meeting_31 ?_
      refine qe_lload_n dX8_meeting_34 1 rfl rfl ?_
      refine qe_lload dX8_meeting_35 0 rfl ?_
      refine qm_b_elim h (fun b7 s6 hc h => ?_)
      refine qe_callS1 (st := [.long b5]) kk_X8_meeting_J9_max_f86c9 (c_J9_max_f86c9 hc) rfl rfl (Nat.le_of_ble_eq_true rfl) dX8_meeting_37 ?_
      refine qe_lsub dX8_meeting_40 ?_
      refine qe_let_l h (fun b8 h => ?_)
      refine qe_lstore (lv' := [(15, .long b8), (13, .long b3), (0, .long v0), (2, .long v2), (4, .long v4), (6, .long v6), (8, .long v8), (10, .long v10), (12, .int v12)]) dX8_meeting_41 rfl (Nat.le_of_ble_eq_true rfl) ?_
      refine qe_lload dX8_meeting_43 7 rfl ?_
      refine qe_lconst (v := 0) dX8_meeting_45 rfl ?_
      refine qe_lload dX8_meeting_46 0 rfl ?_
      refine qm_b_elim h (fun b10 s9 hc h => ?_)
      refine qe_callS1 (st := [.long v10]) kk_X8_meeting_J9_max_f86c9 (c_J9_max_f86c9 hc) rfl rfl (Nat.le_of_ble_eq_true rfl) dX8_meeting_48 ?_
      refine qe_ladd dX8_meeting_51 ?_
      refine qe_let_l h (fun b11 h => ?_)
      refine qe_lstore (lv' := [(10, .long b11), (15, .long b8), (13, .long b3), (0, .long v0), (2, .long v2), (4, .long v4), (6, .long v6), (8, .long v8), (12, .int v12)]) dX8_meeting_52 rfl (Nat.le_of_ble_eq_true rfl) ?_
      refine qe_iincl (lv' := fun a12 => [(12, .int a12), (10, .long b11), (15, .long b8), (13, .long b3), (0, .long v0), (2, .long v2), (4, .long v4), (6, .long v6), (8, .long v8)]) dX8_meeting_54 8 rfl rfl (fun _ => rfl) (Nat.le_of_ble_eq_true rfl) h (fun a12 h => ?_)
      refine qe_goto (tgt := 6) dX8_meeting_57 rfl ?_
      refine qe_sub [4, 5, 6, 7, 8, 1, 0] rfl ?_
      exact ih _ _ _ _ h

set_option maxRecDepth 20000 in
theorem c_X8_meeting {l : Launch} {G : qe_G} {v0 : Int64} {v2 : Int64} {v4 : Int64} {v6 : Int64} {v8 : Int64} {s0 : qe_S} {o : Int64 × qe_S} (h : g_X8_meeting v0 v2 v4 v6 v8 s0 = some o) : qe_C l G MX8_meeting [.long v0, .long v2, .long v4, .long v6, .long v8] (qs_w s0 (qs_TC G)) (some (.long o.1)) (qs_w o.2 (qs_TC G)) := by
  refine qe_C.of (by decide +kernel) (Nat.le_of_ble_eq_true rfl) ?_
  show qe_J l G MX8_meeting 0 [(0, .long v0), (2, .long v2), (4, .long v4), (6, .long v6), (8, .long v8)] [] (qs_w s0 (qs_TC G)) (some (.long o.1)) (qs_w o.2 (qs_TC G))
  unfold g_X8_meeting at h
  refine qe_lconst (v := 0) dX8_meeting_0 rfl ?_
  refine qe_let_l h (fun b1 h => ?_)
  refine qe_lstore (lv' := [(10, .long b1), (0, .long v0), (2, .long v2), (4, .long v4), (6, .long v6), (8, .long v8)]) dX8_meeting_1 rfl (Nat.le_of_ble_eq_true rfl) ?_
  refine qe_iconst (v := (-1 : Int32)) dX8_meeting_3 rfl ?_
  refine qe_let_i h (fun a2 h => ?_)
  refine qe_istore (lv' := [(12, .int a2), (10, .long b1), (0, .long v0), (2, .long v2), (4, .long v4), (6, .long v6), (8, .long v8)]) dX8_meeting_4 rfl (Nat.le_of_ble_eq_true rfl) ?_
  refine qe_sub [2, 3, 4, 5, 6, 1, 0] rfl ?_
  refine c_X8_meeting_L6 _ _ _ _ _ h

set_option maxRecDepth 20000 in
theorem c_X7_together_22 {l : Launch} {G : qe_G} {v1 : Int32} {v2 : Int32} {s0 : qe_S} {o : Int64 × qe_S} (h : g_X7_together 22 v1 v2 s0 = some o) : qe_C l G MX7_together [.ref 22, .int v1, .int v2] (qs_w s0 (qs_TC G)) (some (.long o.1)) (qs_w o.2 (qs_TC G)) := by
  refine qe_C.of (by decide +kernel) (Nat.le_of_ble_eq_true rfl) ?_
  show qe_J l G MX7_together 0 [(0, .ref 22), (1, .int v1), (2, .int v2)] [] (qs_w s0 (qs_TC G)) (some (.long o.1)) (qs_w o.2 (qs_TC G))
  unfold g_X7_together at h
  refine qe_aload_n dX7_together_0 0 rfl rfl trivial ?_
  refine qs_getR (j := 1) tC_22 rfl fl_RX7_15 dX7_together_1 ?_
  refine qe_iload_n dX7_together_4 1 rfl rfl ?_
  refine qs_lld tC_23 dX7_together_5 h (fun b1 h => ?_)
  refine qe_aload_n dX7_together_6 0 rfl rfl trivial ?_
  refine qs_getR (j := 2) tC_22 rfl fl_RX7_19 dX7_together_7 ?_
  refine qe_iload_n dX7_together_10 1 rfl rfl ?_
  refine qs_lld tC_24 dX7_together_11 h (fun b2 h => ?_)
  refine qe_aload_n dX7_together_12 0 rfl rfl trivial ?_
  refine qs_getR (j := 1) tC_22 rfl fl_RX7_15 dX7_together_13 ?_
  refine qe_iload_n dX7_together_16 2 rfl rfl ?_
  refine qs_lld tC_23 dX7_together_17 h (fun b3 h => ?_)
  refine qe_aload_n dX7_together_18 0 rfl rfl trivial ?_
  refine qs_getR (j := 2) tC_22 rfl fl_RX7_19 dX7_together_19 ?_
  refine qe_iload_n dX7_together_22 2 rfl rfl ?_
  refine qs_lld tC_24 dX7_together_23 h (fun b4 h => ?_)
  refine qe_aload_n dX7_together_24 0 rfl rfl trivial ?_
  refine qs_getL (j := 0) tC_22 rfl fl_RX7_9 dX7_together_25 ?_
  refine qm_b_elim h (fun b6 s5 hc h => ?_)
  refine qe_callN1 (st := []) kk_X7_together_X8_meeting (c_X8_meeting hc) rfl rfl (Nat.le_of_ble_eq_true rfl) dX7_together_28 ?_
  have e : (b6, s5) = o := Option.some.inj h
  subst e
  exact qe_lret dX7_together_31 rfl

set_option maxRecDepth 20000 in
theorem c_X7_together_25 {l : Launch} {G : qe_G} {v1 : Int32} {v2 : Int32} {s0 : qe_S} {o : Int64 × qe_S} (h : g_X7_together 25 v1 v2 s0 = some o) : qe_C l G MX7_together [.ref 25, .int v1, .int v2] (qs_w s0 (qs_TC G)) (some (.long o.1)) (qs_w o.2 (qs_TC G)) := by
  refine qe_C.of (by decide +kernel) (Nat.le_of_ble_eq_true rfl) ?_
  show qe_J l G MX7_together 0 [(0, .ref 25), (1, .int v1), (2, .int v2)] [] (qs_w s0 (qs_TC G)) (some (.long o.1)) (qs_w o.2 (qs_TC G))
  unfold g_X7_together at h
  refine qe_aload_n dX7_together_0 0 rfl rfl trivial ?_
  refine qs_getR (j := 1) tC_25 rfl fl_RX7_15 dX7_together_1 ?_
  refine qe_iload_n dX7_together_4 1 rfl rfl ?_
  refine qs_lld tC_26 dX7_together_5 h (fun b1 h => ?_)
  refine qe_aload_n dX7_together_6 0 rfl rfl trivial ?_
  refine qs_getR (j := 2) tC_25 rfl fl_RX7_19 dX7_together_7 ?_
  refine qe_iload_n dX7_together_10 1 rfl rfl ?_
  refine qs_lld tC_27 dX7_together_11 h (fun b2 h => ?_)
  refine qe_aload_n dX7_together_12 0 rfl rfl trivial ?_
  refine qs_getR (j := 1) tC_25 rfl fl_RX7_15 dX7_together_13 ?_
  refine qe_iload_n dX7_together_16 2 rfl rfl ?_
  refine qs_lld tC_26 dX7_together_17 h (fun b3 h => ?_)
  refine qe_aload_n dX7_together_18 0 rfl rfl trivial ?_
  refine qs_getR (j := 2) tC_25 rfl fl_RX7_19 dX7_together_19 ?_
  refine qe_iload_n dX7_together_22 2 rfl rfl ?_
  refine qs_lld tC_27 dX7_together_23 h (fun b4 h => ?_)
  refine qe_aload_n dX7_together_24 0 rfl rfl trivial ?_
  refine qs_getL (j := 0) tC_25 rfl fl_RX7_9 dX7_together_25 ?_
  refine qm_b_elim h (fun b6 s5 hc h => ?_)
  refine qe_callN1 (st := []) kk_X7_together_X8_meeting (c_X8_meeting hc) rfl rfl (Nat.le_of_ble_eq_true rfl) dX7_together_28 ?_
  have e : (b6, s5) = o := Option.some.inj h
  subst e
  exact qe_lret dX7_together_31 rfl

set_option maxRecDepth 20000 in
theorem c_X8_joint {l : Launch} {G : qe_G} {v1 : Int32} {v2 : Int32} {v3 : Int32} {s0 : qe_S} {o : Int64 × qe_S} (h : g_X8_joint v1 v2 v3 s0 = some o) : qe_C l G MX8_joint [.ref 0, .int v1, .int v2, .int v3] (qs_w s0 (qs_TC G)) (some (.long o.1)) (qs_w o.2 (qs_TC G)) := by
  refine qe_C.of (by decide +kernel) (Nat.le_of_ble_eq_true rfl) ?_
  show qe_J l G MX8_joint 0 [(0, .ref 0), (1, .int v1), (2, .int v2), (3, .int v3)] [] (qs_w s0 (qs_TC G)) (some (.long o.1)) (qs_w o.2 (qs_TC G))
  unfold g_X8_joint at h
  refine qe_aload_n dX8_joint_0 0 rfl rfl trivial ?_
  refine qs_getR (j := 0) tC_0 rfl fl_RX8_12 dX8_joint_1 ?_
  refine qe_iload_n dX8_joint_4 1 rfl rfl ?_
  refine qm_b_elim h (fun a2 s1 hc h => ?_)
  refine qe_callV1 (st := []) kk_X8_joint_X3_has (c_X3_has hc) (qs_at tC_1) rfl rfl rfl (Nat.le_of_ble_eq_true rfl) dX8_joint_5 ?_
  refine qe_if_eq (tgt := 22) dX8_joint_8 rfl h (fun _ h => ?_) (fun _ h => ?_)
  · refine qe_aload_n dX8_joint_22 0 rfl rfl trivial ?_
    refine qe_iconst (v := (-1 : Int32)) dX8_joint_23 rfl ?_
    refine qm_b_elim h (fun b4 s3 hc h => ?_)
    refine qe_callV1 (st := []) kk_X8_joint_X8_refuseLong (c_X8_refuseLong hc) (qs_at tC_0) rfl rfl rfl (Nat.le_of_ble_eq_true rfl) dX8_joint_24 ?_
    have e : (b4, s3) = o := Option.some.inj h
    subst e
    exact qe_lret dX8_joint_27 rfl
  · refine qe_aload_n dX8_joint_11 0 rfl rfl trivial ?_
    refine qs_getR (j := 0) tC_0 rfl fl_RX8_12 dX8_joint_12 ?_
    refine qe_iload_n dX8_joint_15 2 rfl rfl ?_
    refine qm_b_elim h (fun a6 s5 hc h => ?_)
    refine qe_callV1 (st := []) kk_X8_joint_X3_has (c_X3_has hc) (qs_at tC_1) rfl rfl rfl (Nat.le_of_ble_eq_true rfl) dX8_joint_16 ?_
    refine qe_if_ne (tgt := 28) dX8_joint_19 rfl h (fun _ h => ?_) (fun _ h => ?_)
    · refine qe_iload_n dX8_joint_28 3 rfl rfl ?_
      refine qm_b_elim h (fun a8 s7 hc h => ?_)
      refine qe_callS1 (st := []) kk_X8_joint_X8_isPart (c_X8_isPart hc) rfl rfl (Nat.le_of_ble_eq_true rfl) dX8_joint_29 ?_
      refine qe_if_ne (tgt := 42) dX8_joint_32 rfl h (fun _ h => ?_) (fun _ h => ?_)
      · refine qe_aload_n dX8_joint_42 0 rfl rfl trivial ?_
        refine qm_b_elim h (fun a10 s9 hc h => ?_)
        refine qe_callV1 (st := []) kk_X8_joint_X8_layWheel (c_X8_layWheel hc) (qs_at tC_0) rfl rfl rfl (Nat.le_of_ble_eq_true rfl) dX8_joint_43 ?_
        refine qe_if_ne (tgt := 56) dX8_joint_46 rfl h (fun _ h => ?_) (fun _ h => ?_)
        · refine qe_aload_n dX8_joint_56 0 rfl rfl trivial ?_
          refine qe_aload_n dX8_joint_57 0 rfl rfl trivial ?_
          refine qs_getR (j := 4) tC_0 rfl fl_RX8_29 dX8_joint_58 ?_
          refine qe_iload_n dX8_joint_61 1 rfl rfl ?_
          refine qe_iload_n dX8_joint_62 2 rfl rfl ?_
          refine qm_b_elim h (fun b12 s11 hc h => ?_)
          refine qe_callV1 (st := [.ref 0]) kk_X8_joint_X7_together (c_X7_together_22 hc) (qs_at tC_22) rfl rfl rfl (Nat.le_of_ble_eq_true rfl) dX8_joint_63 ?_
          refine qe_aload_n dX8_joint_66 0 rfl rfl trivial ?_
          refine qs_getR (j := 4) tC_0 rfl fl_RX8_29 dX8_joint_67 ?_
          refine qs_getL (j := 0) tC_22 rfl fl_RX8_198 dX8_joint_70 ?_
          refine qe_iload_n dX8_joint_73 3 rfl rfl ?_
          refine qm_b_elim h (fun b14 s13 hc h => ?_)
          refine qe_callV1 (st := []) kk_X8_joint_X8_lowest (c_X8_lowest hc) (qs_at tC_0) rfl rfl rfl (Nat.le_of_ble_eq_true rfl) dX8_joint_74 ?_
          have e : (b14, s13) = o := Option.some.inj h
          subst e
          exact qe_lret dX8_joint_77 rfl
        · refine qe_aload_n dX8_joint_49 0 rfl rfl trivial ?_
          refine qe_bipush (v := (-7 : Int32)) dX8_joint_50 rfl ?_
          refine qm_b_elim h (fun b16 s15 hc h => ?_)
          refine qe_callV1 (st := []) kk_X8_joint_X8_refuseLong (c_X8_refuseLong hc) (qs_at tC_0) rfl rfl rfl (Nat.le_of_ble_eq_true rfl) dX8_joint_52 ?_
          have e : (b16, s15) = o := Option.some.inj h
          subst e
          exact qe_lret dX8_joint_55 rfl
      · refine qe_aload_n dX8_joint_35 0 rfl rfl trivial ?_
        refine qe_bipush (v := (-2 : Int32)) dX8_joint_36 rfl ?_
        refine qm_b_elim h (fun b18 s17 hc h => ?_)
        refine qe_callV1 (st := []) kk_X8_joint_X8_refuseLong (c_X8_refuseLong hc) (qs_at tC_0) rfl rfl rfl (Nat.le_of_ble_eq_true rfl) dX8_joint_38 ?_
        have e : (b18, s17) = o := Option.some.inj h
        subst e
        exact qe_lret dX8_joint_41 rfl
    · refine qe_aload_n dX8_joint_22 0 rfl rfl trivial ?_
      refine qe_iconst (v := (-1 : Int32)) dX8_joint_23 rfl ?_
      refine qm_b_elim h (fun b20 s19 hc h => ?_)
      refine qe_callV1 (st := []) kk_X8_joint_X8_refuseLong (c_X8_refuseLong hc) (qs_at tC_0) rfl rfl rfl (Nat.le_of_ble_eq_true rfl) dX8_joint_24 ?_
      have e : (b20, s19) = o := Option.some.inj h
      subst e
      exact qe_lret dX8_joint_27 rfl

set_option maxRecDepth 20000 in
theorem c_X8_joints_L50 {l : Launch} {G : qe_G} {k81 : Int64 → qe_S → Option (Int64 × qe_S)} {v1 : Int32} {v2 : Int32} (hk81 : ∀ (b9 : Int64) (s : qe_S) (o : Int64 × qe_S), k81 b9 s = some o → qe_J l G MX8_joints 81 [(0, .ref 0), (2, .int v2), (3, .long b9)] [] (qs_w s (qs_TC G)) (some (.long o.1)) (qs_w o.2 (qs_TC G))) : ∀ (n : Nat) (v3 : Int64) (v5 : Int32) (s0 : qe_S) (o : Int64 × qe_S), g_X8_joints_L50 k81 v1 v2 n v3 v5 s0 = some o → qe_J l G MX8_joints 50 [(0, .ref 0), (1, .int v1), (2, .int v2), (3, .long v3), (5, .int v5)] [] (qs_w s0 (qs_TC G)) (some (.long o.1)) (qs_w o.2 (qs_TC G)) := by
  intro n
  induction n with
  | zero =>
    intro v3 v5 s0 o h
    rw [g_X8_joints_L50] at h
    cases h
  | succ n ih =>
    intro v3 v5 s0 o h
    rw [g_X8_joints_L50] at h
    refine qe_iload dX8_joints_50 4 rfl ?_
    refine qe_aload_n dX8_joints_52 0 rfl rfl trivial ?_
    refine qs_getR (j := 0) tC_0 rfl fl_RX8_12 dX8_joints_53 ?_
    refine qs_getI (j := 0) tC_1 rfl fl_RX8_201 dX8_joints_56 ?_
    refine qe_icmp_ge (tgt := 81) dX8_joints_59 rfl h (fun _ h => ?_) (fun _ h => ?_)
    · refine qe_sub [0, 2, 3] rfl ?_
      exact hk81 _ _ _ h
    · refine qe_lload_n dX8_joints_62 3 rfl rfl ?_
      refine qe_aload_n dX8_joints_63 0 rfl rfl trivial ?_
      refine qs_getR (j := 4) tC_0 rfl fl_RX8_29 dX8_joints_64 ?_
      refine qe_iload_n dX8_joints_67 1 rfl rfl ?_
      refine qe_iload dX8_joints_68 4 rfl ?_
      refine qm_b_elim h (fun b11 s10 hc h => ?_)
      refine qe_callV1 (st := [.long v3]) kk_X8_joints_X7_together (c_X7_together_22 hc) (qs_at tC_22) rfl rfl rfl (Nat.le_of_ble_eq_true rfl) dX8_joints_70 ?_
      refine qe_ladd dX8_joints_73 ?_
      refine qe_let_l h (fun b12 h => ?_)
      refine qe_lstore_n (lv' := [(3, .long b12), (0, .ref 0), (1, .int v1), (2, .int v2), (5, .int v5)]) dX8_joints_74 rfl rfl (Nat.le_of_ble_eq_true rfl) ?_
      refine qe_iincl (lv' := fun a13 => [(5, .int a13), (3, .long b12), (0, .ref 0), (1, .int v1), (2, .int v2)]) dX8_joints_75 4 rfl rfl (fun _ => rfl) (Nat.le_of_ble_eq_true rfl) h (fun a13 h => ?_)
      refine qe_goto (tgt := 50) dX8_joints_78 rfl ?_
      refine qe_sub [2, 3, 4, 1, 0] rfl ?_
      exact ih _ _ _ _ h

set_option maxRecDepth 20000 in
theorem c_X8_joints {l : Launch} {G : qe_G} {v1 : Int32} {v2 : Int32} {s0 : qe_S} {o : Int64 × qe_S} (h : g_X8_joints v1 v2 s0 = some o) : qe_C l G MX8_joints [.ref 0, .int v1, .int v2] (qs_w s0 (qs_TC G)) (some (.long o.1)) (qs_w o.2 (qs_TC G)) := by
  refine qe_C.of (by decide +kernel) (Nat.le_of_ble_eq_true rfl) ?_
  show qe_J l G MX8_joints 0 [(0, .ref 0), (1, .int v1), (2, .int v2)] [] (qs_w s0 (qs_TC G)) (some (.long o.1)) (qs_w o.2 (qs_TC G))
  unfold g_X8_joints at h
  refine qe_aload_n dX8_joints_0 0 rfl rfl trivial ?_
  refine qs_getR (j := 0) tC_0 rfl fl_RX8_12 dX8_joints_1 ?_
  refine qe_iload_n dX8_joints_4 1 rfl rfl ?_
  refine qm_b_elim h (fun a2 s1 hc h => ?_)
  refine qe_callV1 (st := []) kk_X8_joints_X3_has (c_X3_has hc) (qs_at tC_1) rfl rfl rfl (Nat.le_of_ble_eq_true rfl) dX8_joints_5 ?_
  refine qe_if_ne (tgt := 17) dX8_joints_8 rfl h (fun _ h => ?_) (fun _ h => ?_)
  · refine qe_iload_n dX8_joints_17 2 rfl rfl ?_
    refine qm_b_elim h (fun a4 s3 hc h => ?_)
    refine qe_callS1 (st := []) kk_X8_joints_X8_isPart (c_X8_isPart hc) rfl rfl (Nat.le_of_ble_eq_true rfl) dX8_joints_18 ?_
    refine qe_if_ne (tgt := 31) dX8_joints_21 rfl h (fun _ h => ?_) (fun _ h => ?_)
    · refine qe_aload_n dX8_joints_31 0 rfl rfl trivial ?_
      refine qm_b_elim h (fun a6 s5 hc h => ?_)
      refine qe_callV1 (st := []) kk_X8_joints_X8_layWheel (c_X8_layWheel hc) (qs_at tC_0) rfl rfl rfl (Nat.le_of_ble_eq_true rfl) dX8_joints_32 ?_
      refine qe_if_ne (tgt := 45) dX8_joints_35 rfl h (fun _ h => ?_) (fun _ h => ?_)
      · refine qe_lconst (v := 0) dX8_joints_45 rfl ?_
        refine qe_let_l h (fun b7 h => ?_)
        refine qe_lstore_n (lv' := [(3, .long b7), (0, .ref 0), (1, .int v1), (2, .int v2)]) dX8_joints_46 rfl rfl (Nat.le_of_ble_eq_true rfl) ?_
        refine qe_iconst (v := (0 : Int32)) dX8_joints_47 rfl ?_
        refine qe_let_i h (fun a8 h => ?_)
        refine qe_istore (lv' := [(5, .int a8), (3, .long b7), (0, .ref 0), (1, .int v1), (2, .int v2)]) dX8_joints_48 rfl (Nat.le_of_ble_eq_true rfl) ?_
        refine qe_sub [2, 3, 4, 1, 0] rfl ?_
        refine c_X8_joints_L50
          (fun b14 s15 o h => ?_) _ _ _ _ _ h
        refine qe_aload_n dX8_joints_81 0 rfl rfl trivial ?_
        refine qe_lload_n dX8_joints_82 2 rfl rfl ?_
        refine qe_aload_n dX8_joints_83 0 rfl rfl trivial ?_
        refine qs_getR (j := 4) tC_0 rfl fl_RX8_29 dX8_joints_84 ?_
        refine qs_getL (j := 0) tC_22 rfl fl_RX8_198 dX8_joints_87 ?_
        refine qe_iload_n dX8_joints_90 1 rfl rfl ?_
        refine qm_b_elim h (fun b17 s16 hc h => ?_)
        refine qe_callV1 (st := []) kk_X8_joints_X8_lowest (c_X8_lowest hc) (qs_at tC_0) rfl rfl rfl (Nat.le_of_ble_eq_true rfl) dX8_joints_91 ?_
        have e : (b17, s16) = o := Option.some.inj h
        subst e
        exact qe_lret dX8_joints_94 rfl
      · refine qe_aload_n dX8_joints_38 0 rfl rfl trivial ?_
        refine qe_bipush (v := (-7 : Int32)) dX8_joints_39 rfl ?_
        refine qm_b_elim h (fun b19 s18 hc h => ?_)
        refine qe_callV1 (st := []) kk_X8_joints_X8_refuseLong (c_X8_refuseLong hc) (qs_at tC_0) rfl rfl rfl (Nat.le_of_ble_eq_true rfl) dX8_joints_41 ?_
        have e : (b19, s18) = o := Option.some.inj h
        subst e
        exact qe_lret dX8_joints_44 rfl
    · refine qe_aload_n dX8_joints_24 0 rfl rfl trivial ?_
      refine qe_bipush (v := (-2 : Int32)) dX8_joints_25 rfl ?_
      refine qm_b_elim h (fun b21 s20 hc h => ?_)
      refine qe_callV1 (st := []) kk_X8_joints_X8_refuseLong (c_X8_refuseLong hc) (qs_at tC_0) rfl rfl rfl (Nat.le_of_ble_eq_true rfl) dX8_joints_27 ?_
      have e : (b21, s20) = o := Option.some.inj h
      subst e
      exact qe_lret dX8_joints_30 rfl
  · refine qe_aload_n dX8_joints_11 0 rfl rfl trivial ?_
    refine qe_iconst (v := (-1 : Int32)) dX8_joints_12 rfl ?_
    refine qm_b_elim h (fun b23 s22 hc h => ?_)
    refine qe_callV1 (st := []) kk_X8_joints_X8_refuseLong (c_X8_refuseLong hc) (qs_at tC_0) rfl rfl rfl (Nat.le_of_ble_eq_true rfl) dX8_joints_13 ?_
    have e : (b23, s22) = o := Option.some.inj h
    subst e
    exact qe_lret dX8_joints_16 rfl

set_option maxRecDepth 20000 in
theorem c_J6_bitCount_0f7a4 {l : Launch} {G : qe_G} {T : List va_E} {v0 : Int32} {s0 : qe_S} {o : Int32 × qe_S} (h : g_J6_bitCount_0f7a4 v0 s0 = some o) : qe_C l G MJ6_bitCount_0f7a4 [.int v0] (qs_w s0 T) (some (.int o.1)) (qs_w o.2 T) := by
  refine qe_C.of (by decide +kernel) (Nat.le_of_ble_eq_true rfl) ?_
  show qe_J l G MJ6_bitCount_0f7a4 0 [(0, .int v0)] [] (qs_w s0 T) (some (.int o.1)) (qs_w o.2 T)
  unfold g_J6_bitCount_0f7a4 at h
  refine qe_iload_n dJ6_bitCount_0f7a4_0 0 rfl rfl ?_
  refine qe_iload_n dJ6_bitCount_0f7a4_1 0 rfl rfl ?_
  refine qe_iconst (v := (1 : Int32)) dJ6_bitCount_0f7a4_2 rfl ?_
  refine qe_iushr dJ6_bitCount_0f7a4_3 ?_
  refine qe_ldcw kc_RJ6_265 dJ6_bitCount_0f7a4_4 ?_
  refine qe_iand dJ6_bitCount_0f7a4_7 ?_
  refine qe_isub dJ6_bitCount_0f7a4_8 ?_
  refine qe_let_i h (fun a1 h => ?_)
  refine qe_istore_n (lv' := [(0, .int a1)]) dJ6_bitCount_0f7a4_9 rfl rfl (Nat.le_of_ble_eq_true rfl) ?_
  refine qe_iload_n dJ6_bitCount_0f7a4_10 0 rfl rfl ?_
  refine qe_ldcw kc_RJ6_266 dJ6_bitCount_0f7a4_11 ?_
  refine qe_iand dJ6_bitCount_0f7a4_14 ?_
  refine qe_iload_n dJ6_bitCount_0f7a4_15 0 rfl rfl ?_
  refine qe_iconst (v := (nI 2)) dJ6_bitCount_0f7a4_16 rfl ?_
  refine qe_iushr dJ6_bitCount_0f7a4_17 ?_
  refine qe_ldcw kc_RJ6_266 dJ6_bitCount_0f7a4_18 ?_
  refine qe_iand dJ6_bitCount_0f7a4_21 ?_
  refine qe_iadd dJ6_bitCount_0f7a4_22 ?_
  refine qe_let_i h (fun a2 h => ?_)
  refine qe_istore_n (lv' := [(0, .int a2)]) dJ6_bitCount_0f7a4_23 rfl rfl (Nat.le_of_ble_eq_true rfl) ?_
  refine qe_iload_n dJ6_bitCount_0f7a4_24 0 rfl rfl ?_
  refine qe_iload_n dJ6_bitCount_0f7a4_25 0 rfl rfl ?_
  refine qe_iconst (v := (nI 4)) dJ6_bitCount_0f7a4_26 rfl ?_
  refine qe_iushr dJ6_bitCount_0f7a4_27 ?_
  refine qe_iadd dJ6_bitCount_0f7a4_28 ?_
  refine qe_ldcw kc_RJ6_267 dJ6_bitCount_0f7a4_29 ?_
  refine qe_iand dJ6_bitCount_0f7a4_32 ?_
  refine qe_let_i h (fun a3 h => ?_)
  refine qe_istore_n (lv' := [(0, .int a3)]) dJ6_bitCount_0f7a4_33 rfl rfl (Nat.le_of_ble_eq_true rfl) ?_
  refine qe_iload_n dJ6_bitCount_0f7a4_34 0 rfl rfl ?_
  refine qe_iload_n dJ6_bitCount_0f7a4_35 0 rfl rfl ?_
  refine qe_bipush (v := (nI 8)) dJ6_bitCount_0f7a4_36 rfl ?_
  refine qe_iushr dJ6_bitCount_0f7a4_38 ?_
  refine qe_iadd dJ6_bitCount_0f7a4_39 ?_
  refine qe_let_i h (fun a4 h => ?_)
  refine qe_istore_n (lv' := [(0, .int a4)]) dJ6_bitCount_0f7a4_40 rfl rfl (Nat.le_of_ble_eq_true rfl) ?_
  refine qe_iload_n dJ6_bitCount_0f7a4_41 0 rfl rfl ?_
  refine qe_iload_n dJ6_bitCount_0f7a4_42 0 rfl rfl ?_
  refine qe_bipush (v := (nI 16)) dJ6_bitCount_0f7a4_43 rfl ?_
  refine qe_iushr dJ6_bitCount_0f7a4_45 ?_
  refine qe_iadd dJ6_bitCount_0f7a4_46 ?_
  refine qe_let_i h (fun a5 h => ?_)
  refine qe_istore_n (lv' := [(0, .int a5)]) dJ6_bitCount_0f7a4_47 rfl rfl (Nat.le_of_ble_eq_true rfl) ?_
  refine qe_iload_n dJ6_bitCount_0f7a4_48 0 rfl rfl ?_
  refine qe_bipush (v := (nI 63)) dJ6_bitCount_0f7a4_49 rfl ?_
  refine qe_iand dJ6_bitCount_0f7a4_51 ?_
  have e : ((a5 &&& (nI 63)), s0) = o := Option.some.inj h
  subst e
  exact qe_iret dJ6_bitCount_0f7a4_52 rfl

set_option maxRecDepth 20000 in
theorem c_X8_isFair_L8 {l : Launch} {G : qe_G} {k69 : Int64 → Int32 → qe_S → Option (Int32 × qe_S)} {v1 : Int32} (hk69 : ∀ (b4 : Int64) (a5 : Int32) (s : qe_S) (o : Int32 × qe_S), k69 b4 a5 s = some o → qe_J l G MX8_isFair 69 [(0, .ref 0), (2, .long b4), (4, .int a5)] [] (qs_w s (qs_TC G)) (some (.int o.1)) (qs_w o.2 (qs_TC G))) : ∀ (n : Nat) (v2 : Int64) (v4 : Int32) (v5 : Int32) (s0 : qe_S) (o : Int32 × qe_S), g_X8_isFair_L8 k69 v1 n v2 v4 v5 s0 = some o → qe_J l G MX8_isFair 8 [(0, .ref 0), (1, .int v1), (2, .long v2), (4, .int v4), (5, .int v5)] [] (qs_w s0 (qs_TC G)) (some (.int o.1)) (qs_w o.2 (qs_TC G)) := by
  intro n
  induction n with
  | zero =>
    intro v2 v4 v5 s0 o h
    rw [g_X8_isFair_L8] at h
    cases h
  | succ n ih =>
    intro v2 v4 v5 s0 o h
    rw [g_X8_isFair_L8] at h
    refine qe_iload dX8_isFair_8 4 rfl ?_
    refine qe_aload_n dX8_isFair_10 0 rfl rfl trivial ?_
    refine qs_getR (j := 0) tC_0 rfl fl_RX8_12 dX8_isFair_11 ?_
    refine qs_getI (j := 0) tC_1 rfl fl_RX8_201 dX8_isFair_14 ?_
    refine qe_icmp_ge (tgt := 69) dX8_isFair_17 rfl h (fun _ h => ?_) (fun _ h => ?_)
    · refine qe_sub [0, 2, 3] rfl ?_
      exact hk69 _ _ _ _ h
    · refine qm_j_elim h (fun j63 ej63 h => ?_)
      have hj63 : ∀ (b6 : Int64) (a7 : Int32) (s8 : qe_S) (o : Int32 × qe_S), j63 b6 a7 s8 = some o → qe_J l G MX8_isFair 63 [(0, .ref 0), (1, .int v1), (2, .long b6), (4, .int a7), (5, .int v5)] [] (qs_w s8 (qs_TC G)) (some (.int o.1)) (qs_w o.2 (qs_TC G)) := by
        intro b6 a7 s8 o h
        subst ej63
        refine qe_iincl (lv' := fun a9 => [(5, .int a9), (0, .ref 0), (1, .int v1), (2, .long b6), (4, .int a7)]) dX8_isFair_63 4 rfl rfl (fun _ => rfl) (Nat.le_of_ble_eq_true rfl) h (fun a9 h => ?_)
        refine qe_goto (tgt := 8) dX8_isFair_66 rfl ?_
        refine qe_sub [1, 2, 3, 4, 0] rfl ?_
        exact ih _ _ _ _ _ h
      refine qe_aload_n dX8_isFair_20 0 rfl rfl trivial ?_
      refine qs_getR (j := 0) tC_0 rfl fl_RX8_12 dX8_isFair_21 ?_
      refine qs_getR (j := 3) tC_1 rfl fl_RX8_116 dX8_isFair_24 ?_
      refine qe_iload dX8_isFair_27 4 rfl ?_
      refine qs_ild tC_2 dX8_isFair_29 h (fun a10 h => ?_)
      refine qe_iload_n dX8_isFair_30 1 rfl rfl ?_
      refine qe_icmp_ne (tgt := 63) dX8_isFair_31 rfl h (fun _ h => ?_) (fun _ h => ?_)
      · exact hj63 _ _ _ _ h
      · refine qe_lload_n dX8_isFair_34 2 rfl rfl ?_
        refine qe_aload_n dX8_isFair_35 0 rfl rfl trivial ?_
        refine qs_getR (j := 0) tC_0 rfl fl_RX8_12 dX8_isFair_36 ?_
        refine qe_iload dX8_isFair_39 4 rfl ?_
        refine qe_iconst (v := (0 : Int32)) dX8_isFair_41 rfl ?_
        refine qe_aload_n dX8_isFair_42 0 rfl rfl trivial ?_
        refine qs_getR (j := 4) tC_0 rfl fl_RX8_29 dX8_isFair_43 ?_
        refine qs_getL (j := 0) tC_22 rfl fl_RX8_198 dX8_isFair_46 ?_
        refine qm_b_elim h (fun b12 s11 hc h => ?_)
        refine qe_callV1 (st := [.long v2]) kk_X8_isFair_X3_partsOf (c_X3_partsOf hc) (qs_at tC_1) rfl rfl rfl (Nat.le_of_ble_eq_true rfl) dX8_isFair_49 ?_
        refine qe_ladd dX8_isFair_52 ?_
        refine qe_let_l h (fun b13 h => ?_)
        refine qe_lstore_n (lv' := [(2, .long b13), (0, .ref 0), (1, .int v1), (4, .int v4), (5, .int v5)]) dX8_isFair_53 rfl rfl (Nat.le_of_ble_eq_true rfl) ?_
        refine qe_iload dX8_isFair_54 3 rfl ?_
        refine qe_iconst (v := (1 : Int32)) dX8_isFair_56 rfl ?_
        refine qe_iload dX8_isFair_57 4 rfl ?_
        refine qe_ishl dX8_isFair_59 ?_
        refine qe_ior dX8_isFair_60 ?_
        refine qe_let_i h (fun a14 h => ?_)
        refine qe_istore (lv' := [(4, .int a14), (2, .long b13), (0, .ref 0), (1, .int v1), (5, .int v5)]) dX8_isFair_61 rfl (Nat.le_of_ble_eq_true rfl) ?_
        refine qe_sub [2, 3, 1, 0, 4] rfl ?_
        exact hj63 _ _ _ _ h

set_option maxRecDepth 20000 in
theorem c_X8_isFair_L72 {l : Launch} {G : qe_G} {v2 : Int64} {v4 : Int32} : ∀ (n : Nat) (v5 : Int32) (s0 : qe_S) (o : Int32 × qe_S), g_X8_isFair_L72 v2 v4 n v5 s0 = some o → qe_J l G MX8_isFair 72 [(0, .ref 0), (2, .long v2), (4, .int v4), (5, .int v5)] [] (qs_w s0 (qs_TC G)) (some (.int o.1)) (qs_w o.2 (qs_TC G)) := by
  intro n
  induction n with
  | zero =>
    intro v5 s0 o h
    rw [g_X8_isFair_L72] at h
    cases h
  | succ n ih =>
    intro v5 s0 o h
    rw [g_X8_isFair_L72] at h
    refine qe_iload dX8_isFair_72 3 rfl ?_
    refine qe_aload_n dX8_isFair_74 0 rfl rfl trivial ?_
    refine qs_getR (j := 6) tC_0 rfl fl_RX8_39 dX8_isFair_75 ?_
    refine qs_getI (j := 0) tC_28 rfl fl_RX8_180 dX8_isFair_78 ?_
    refine qe_icmp_ge (tgt := 148) dX8_isFair_81 rfl h (fun _ h => ?_) (fun _ h => ?_)
    · refine qe_iconst (v := (1 : Int32)) dX8_isFair_148 rfl ?_
      have e : ((1 : Int32), s0) = o := Option.some.inj h
      subst e
      exact qe_nret dX8_isFair_149 rfl rfl
    · refine qe_aload_n dX8_isFair_84 0 rfl rfl trivial ?_
      refine qs_getR (j := 6) tC_0 rfl fl_RX8_39 dX8_isFair_85 ?_
      refine qs_getR (j := 3) tC_28 rfl fl_RX8_191 dX8_isFair_88 ?_
      refine qe_iload dX8_isFair_91 3 rfl ?_
      refine qs_ild tC_31 dX8_isFair_93 h (fun a19 h => ?_)
      refine qe_iload dX8_isFair_94 2 rfl ?_
      refine qe_iand dX8_isFair_96 ?_
      refine qm_b_elim h (fun a21 s20 hc h => ?_)
      refine qe_callS1 (st := []) kk_X8_isFair_J6_bitCount_0f7a4 (c_J6_bitCount_0f7a4 hc) rfl rfl (Nat.le_of_ble_eq_true rfl) dX8_isFair_97 ?_
      refine qe_i2l dX8_isFair_100 ?_
      refine qe_aload_n dX8_isFair_101 0 rfl rfl trivial ?_
      refine qs_getR (j := 4) tC_0 rfl fl_RX8_29 dX8_isFair_102 ?_
      refine qs_getL (j := 0) tC_22 rfl fl_RX8_198 dX8_isFair_105 ?_
      refine qe_lmul dX8_isFair_108 ?_
      refine qe_lload_n dX8_isFair_109 1 rfl rfl ?_
      refine qe_lsub dX8_isFair_110 ?_
      refine qe_let_l h (fun b22 h => ?_)
      refine qe_lstore (lv' := [(6, .long b22), (0, .ref 0), (2, .long v2), (4, .int v4), (5, .int v5)]) dX8_isFair_111 rfl (Nat.le_of_ble_eq_true rfl) ?_
      refine qe_lload dX8_isFair_113 0 rfl ?_
      refine qe_aload_n dX8_isFair_115 1 rfl rfl trivial ?_
      refine qs_getR (j := 4) tC_0 rfl fl_RX8_29 dX8_isFair_116 ?_
      refine qs_getL (j := 0) tC_22 rfl fl_RX8_198 dX8_isFair_119 ?_
      refine qe_lneg dX8_isFair_122 ?_
      refine qe_lcmp_le (tgt := 140) dX8_isFair_123 dX8_isFair_124 rfl h (fun _ h => ?_) (fun _ h => ?_)
      · refine qe_iconst (v := (0 : Int32)) dX8_isFair_140 rfl ?_
        have e : ((0 : Int32), s20) = o := Option.some.inj h
        subst e
        exact qe_nret dX8_isFair_141 rfl rfl
      · refine qe_lload dX8_isFair_127 0 rfl ?_
        refine qe_aload_n dX8_isFair_129 1 rfl rfl trivial ?_
        refine qs_getR (j := 4) tC_0 rfl fl_RX8_29 dX8_isFair_130 ?_
        refine qs_getL (j := 0) tC_22 rfl fl_RX8_198 dX8_isFair_133 ?_
        refine qe_lcmp_lt (tgt := 142) dX8_isFair_136 dX8_isFair_137 rfl h (fun _ h => ?_) (fun _ h => ?_)
        · refine qe_iincl (lv' := fun a23 => [(5, .int a23), (6, .long b22), (0, .ref 0), (2, .long v2), (4, .int v4)]) dX8_isFair_142 4 rfl rfl (fun _ => rfl) (Nat.le_of_ble_eq_true rfl) h (fun a23 h => ?_)
          refine qe_goto (tgt := 72) dX8_isFair_145 rfl ?_
          refine qe_sub [2, 3, 4, 0] rfl ?_
          exact ih _ _ _ h
        · refine qe_iconst (v := (0 : Int32)) dX8_isFair_140 rfl ?_
          have e : ((0 : Int32), s20) = o := Option.some.inj h
          subst e
          exact qe_nret dX8_isFair_141 rfl rfl

set_option maxRecDepth 20000 in
theorem c_X8_isFair {l : Launch} {G : qe_G} {v1 : Int32} {s0 : qe_S} {o : Int32 × qe_S} (h : g_X8_isFair v1 s0 = some o) : qe_C l G MX8_isFair [.ref 0, .int v1] (qs_w s0 (qs_TC G)) (some (.int o.1)) (qs_w o.2 (qs_TC G)) := by
  refine qe_C.of (by decide +kernel) (Nat.le_of_ble_eq_true rfl) ?_
  show qe_J l G MX8_isFair 0 [(0, .ref 0), (1, .int v1)] [] (qs_w s0 (qs_TC G)) (some (.int o.1)) (qs_w o.2 (qs_TC G))
  unfold g_X8_isFair at h
  refine qe_lconst (v := 0) dX8_isFair_0 rfl ?_
  refine qe_let_l h (fun b1 h => ?_)
  refine qe_lstore_n (lv' := [(2, .long b1), (0, .ref 0), (1, .int v1)]) dX8_isFair_1 rfl rfl (Nat.le_of_ble_eq_true rfl) ?_
  refine qe_iconst (v := (0 : Int32)) dX8_isFair_2 rfl ?_
  refine qe_let_i h (fun a2 h => ?_)
  refine qe_istore (lv' := [(4, .int a2), (2, .long b1), (0, .ref 0), (1, .int v1)]) dX8_isFair_3 rfl (Nat.le_of_ble_eq_true rfl) ?_
  refine qe_iconst (v := (0 : Int32)) dX8_isFair_5 rfl ?_
  refine qe_let_i h (fun a3 h => ?_)
  refine qe_istore (lv' := [(5, .int a3), (4, .int a2), (2, .long b1), (0, .ref 0), (1, .int v1)]) dX8_isFair_6 rfl (Nat.le_of_ble_eq_true rfl) ?_
  refine qe_sub [3, 4, 2, 1, 0] rfl ?_
  refine c_X8_isFair_L8
    (fun b15 a16 s17 o h => ?_) _ _ _ _ _ _ h
  refine qe_iconst (v := (0 : Int32)) dX8_isFair_69 rfl ?_
  refine qe_let_i h (fun a18 h => ?_)
  refine qe_istore (lv' := [(5, .int a18), (0, .ref 0), (2, .long b15), (4, .int a16)]) dX8_isFair_70 rfl (Nat.le_of_ble_eq_true rfl) ?_
  refine qe_sub [1, 2, 3, 0] rfl ?_
  refine c_X8_isFair_L72 _ _ _ _ h

set_option maxRecDepth 20000 in
theorem c_X8_fair {l : Launch} {G : qe_G} {v1 : Int32} {s0 : qe_S} {o : Int32 × qe_S} (h : g_X8_fair v1 s0 = some o) : qe_C l G MX8_fair [.ref 0, .int v1] (qs_w s0 (qs_TC G)) (some (.int o.1)) (qs_w o.2 (qs_TC G)) := by
  refine qe_C.of (by decide +kernel) (Nat.le_of_ble_eq_true rfl) ?_
  show qe_J l G MX8_fair 0 [(0, .ref 0), (1, .int v1)] [] (qs_w s0 (qs_TC G)) (some (.int o.1)) (qs_w o.2 (qs_TC G))
  unfold g_X8_fair at h
  refine qe_iload_n dX8_fair_0 1 rfl rfl ?_
  refine qe_if_lt (tgt := 9) dX8_fair_1 rfl h (fun _ h => ?_) (fun _ h => ?_)
  · refine qe_aload_n dX8_fair_9 0 rfl rfl trivial ?_
    refine qe_iconst (v := (-1 : Int32)) dX8_fair_10 rfl ?_
    refine qm_b_elim h (fun a2 s1 hc h => ?_)
    refine qe_callV1 (st := []) kk_X8_fair_X8_refuse (c_X8_refuse hc) (qs_at tC_0) rfl rfl rfl (Nat.le_of_ble_eq_true rfl) dX8_fair_11 ?_
    have e : (a2, s1) = o := Option.some.inj h
    subst e
    exact qe_iret dX8_fair_14 rfl
  · refine qe_iload_n dX8_fair_4 1 rfl rfl ?_
    refine qe_iconst (v := (nI 3)) dX8_fair_5 rfl ?_
    refine qe_icmp_le (tgt := 15) dX8_fair_6 rfl h (fun _ h => ?_) (fun _ h => ?_)
    · refine qe_aload_n dX8_fair_15 0 rfl rfl trivial ?_
      refine qm_b_elim h (fun a4 s3 hc h => ?_)
      refine qe_callV1 (st := []) kk_X8_fair_X8_layWheel (c_X8_layWheel hc) (qs_at tC_0) rfl rfl rfl (Nat.le_of_ble_eq_true rfl) dX8_fair_16 ?_
      refine qe_if_ne (tgt := 29) dX8_fair_19 rfl h (fun _ h => ?_) (fun _ h => ?_)
      · refine qe_aload_n dX8_fair_29 0 rfl rfl trivial ?_
        refine qs_getR (j := 6) tC_0 rfl fl_RX8_39 dX8_fair_30 ?_
        refine qe_aload_n dX8_fair_33 0 rfl rfl trivial ?_
        refine qs_getR (j := 4) tC_0 rfl fl_RX8_29 dX8_fair_34 ?_
        refine qm_o_elim h (fun s5 hc h => ?_)
        refine qe_callV0 (st := []) kk_X8_fair_X5_trace (c_X5_trace hc) (qs_at tC_28) rfl rfl rfl (Nat.le_of_ble_eq_true rfl) dX8_fair_37 ?_
        refine qe_aload_n dX8_fair_40 0 rfl rfl trivial ?_
        refine qe_iload_n dX8_fair_41 1 rfl rfl ?_
        refine qm_b_elim h (fun a7 s6 hc h => ?_)
        refine qe_callV1 (st := []) kk_X8_fair_X8_isFair (c_X8_isFair hc) (qs_at tC_0) rfl rfl rfl (Nat.le_of_ble_eq_true rfl) dX8_fair_42 ?_
        refine qe_if_eq (tgt := 52) dX8_fair_45 rfl h (fun _ h => ?_) (fun _ h => ?_)
        · refine qe_iconst (v := (0 : Int32)) dX8_fair_52 rfl ?_
          have e : ((0 : Int32), s6) = o := Option.some.inj h
          subst e
          exact qe_iret dX8_fair_53 rfl
        · refine qe_iconst (v := (1 : Int32)) dX8_fair_48 rfl ?_
          refine qe_goto (tgt := 53) dX8_fair_49 rfl ?_
          have e : ((1 : Int32), s6) = o := Option.some.inj h
          subst e
          exact qe_iret dX8_fair_53 rfl
      · refine qe_aload_n dX8_fair_22 0 rfl rfl trivial ?_
        refine qe_bipush (v := (-7 : Int32)) dX8_fair_23 rfl ?_
        refine qm_b_elim h (fun a9 s8 hc h => ?_)
        refine qe_callV1 (st := []) kk_X8_fair_X8_refuse (c_X8_refuse hc) (qs_at tC_0) rfl rfl rfl (Nat.le_of_ble_eq_true rfl) dX8_fair_25 ?_
        have e : (a9, s8) = o := Option.some.inj h
        subst e
        exact qe_iret dX8_fair_28 rfl
    · refine qe_aload_n dX8_fair_9 0 rfl rfl trivial ?_
      refine qe_iconst (v := (-1 : Int32)) dX8_fair_10 rfl ?_
      refine qm_b_elim h (fun a11 s10 hc h => ?_)
      refine qe_callV1 (st := []) kk_X8_fair_X8_refuse (c_X8_refuse hc) (qs_at tC_0) rfl rfl rfl (Nat.le_of_ble_eq_true rfl) dX8_fair_11 ?_
      have e : (a11, s10) = o := Option.some.inj h
      subst e
      exact qe_iret dX8_fair_14 rfl

set_option maxRecDepth 20000 in
theorem c_X0_productFits {l : Launch} {G : qe_G} {v0 : Int64} {v2 : Int64} {s0 : qe_S} {o : Int32 × qe_S} (h : g_X0_productFits v0 v2 s0 = some o) : qe_C l G MX0_productFits [.long v0, .long v2] (qs_w s0 (qs_TC G)) (some (.int o.1)) (qs_w o.2 (qs_TC G)) := by
  refine qe_C.of (by decide +kernel) (Nat.le_of_ble_eq_true rfl) ?_
  show qe_J l G MX0_productFits 0 [(0, .long v0), (2, .long v2)] [] (qs_w s0 (qs_TC G)) (some (.int o.1)) (qs_w o.2 (qs_TC G))
  unfold g_X0_productFits at h
  refine qm_j_elim h (fun j14 ej14 h => ?_)
  have hj14 : ∀  (s1 : qe_S) (o : Int32 × qe_S), j14  s1 = some o → qe_J l G MX0_productFits 14 [(0, .long v0), (2, .long v2)] [] (qs_w s1 (qs_TC G)) (some (.int o.1)) (qs_w o.2 (qs_TC G)) := by
    intro  s1 o h
    subst ej14
    refine qm_j_elim h (fun j28 ej28 h => ?_)
    have hj28 : ∀  (s2 : qe_S) (o : Int32 × qe_S), j28  s2 = some o → qe_J l G MX0_productFits 28 [] [] (qs_w s2 (qs_TC G)) (some (.int o.1)) (qs_w o.2 (qs_TC G)) := by
      intro  s2 o h
      subst ej28
      refine qe_iconst (v := (1 : Int32)) dX0_productFits_28 rfl ?_
      refine qe_goto (tgt := 33) dX0_productFits_29 rfl ?_
      have e : ((1 : Int32), s2) = o := Option.some.inj h
      subst e
      exact qe_nret dX0_productFits_33 rfl rfl
    refine qe_lload_n dX0_productFits_14 0 rfl rfl ?_
    refine qe_lconst (v := 0) dX0_productFits_15 rfl ?_
    refine qe_lcmp_eq (tgt := 28) dX0_productFits_16 dX0_productFits_17 rfl h (fun _ h => ?_) (fun _ h => ?_)
    · refine qe_sub [] rfl ?_
      exact hj28  _ _ h
    · refine qe_lload_n dX0_productFits_20 1 rfl rfl ?_
      refine qe_ldc2 kc_RX0_36 dX0_productFits_21 ?_
      refine qe_lcmp_eq (tgt := 32) dX0_productFits_24 dX0_productFits_25 rfl h (fun _ h => ?_) (fun _ h => ?_)
      · refine qe_iconst (v := (0 : Int32)) dX0_productFits_32 rfl ?_
        have e : ((0 : Int32), s1) = o := Option.some.inj h
        subst e
        exact qe_nret dX0_productFits_33 rfl rfl
      · refine qe_sub [] rfl ?_
        exact hj28  _ _ h
  refine qe_lload_n dX0_productFits_0 0 rfl rfl ?_
  refine qe_lconst (v := 0) dX0_productFits_1 rfl ?_
  refine qe_lcmp_eq (tgt := 14) dX0_productFits_2 dX0_productFits_3 rfl h (fun _ h => ?_) (fun _ h => ?_)
  · exact hj14  _ _ h
  · refine qe_lload_n dX0_productFits_6 0 rfl rfl ?_
    refine qe_ldc2 kc_RX0_34 dX0_productFits_7 ?_
    refine qe_lcmp_ne (tgt := 34) dX0_productFits_10 dX0_productFits_11 rfl h (fun _ h => ?_) (fun _ h => ?_)
    · refine qe_lload_n dX0_productFits_34 0 rfl rfl ?_
      refine qe_lload_n dX0_productFits_35 1 rfl rfl ?_
      refine qe_lmul dX0_productFits_36 ?_
      refine qe_lload_n dX0_productFits_37 0 rfl rfl ?_
      refine qe_ldiv dX0_productFits_38 h (fun h => ?_)
      refine qe_lload_n dX0_productFits_39 1 rfl rfl ?_
      refine qe_lcmp_ne (tgt := 48) dX0_productFits_40 dX0_productFits_41 rfl h (fun _ h => ?_) (fun _ h => ?_)
      · refine qe_iconst (v := (0 : Int32)) dX0_productFits_48 rfl ?_
        have e : ((0 : Int32), s0) = o := Option.some.inj h
        subst e
        exact qe_nret dX0_productFits_49 rfl rfl
      · refine qe_iconst (v := (1 : Int32)) dX0_productFits_44 rfl ?_
        refine qe_goto (tgt := 49) dX0_productFits_45 rfl ?_
        have e : ((1 : Int32), s0) = o := Option.some.inj h
        subst e
        exact qe_nret dX0_productFits_49 rfl rfl
    · exact hj14  _ _ h

set_option maxRecDepth 20000 in
theorem c_X0_add_32 {l : Launch} {G : qe_G} {v1 : Int64} {v3 : Int64} {s0 : qe_S} {o : qe_S} (h : g_X0_add 32 v1 v3 s0 = some o) : qe_C l G MX0_add [.ref 32, .long v1, .long v3] (qs_w s0 (qs_TC G)) none (qs_w o (qs_TC G)) := by
  refine qe_C.of (by decide +kernel) (Nat.le_of_ble_eq_true rfl) ?_
  show qe_J l G MX0_add 0 [(0, .ref 32), (1, .long v1), (3, .long v3)] [] (qs_w s0 (qs_TC G)) none (qs_w o (qs_TC G))
  unfold g_X0_add at h
  refine qm_j_elim h (fun j44 ej44 h => ?_)
  have hj44 : ∀ (b1 : Int64) (q2 : Int32) (s3 : qe_S) (o : qe_S), j44 b1 q2 s3 = some o → qe_J l G MX0_add 44 [(0, .ref 32), (1, .long v1), (3, .long v3), (9, .long b1)] [.int q2] (qs_w s3 (qs_TC G)) none (qs_w o (qs_TC G)) := by
    intro b1 q2 s3 o h
    subst ej44
    refine qm_j_elim h (fun j84 ej84 h => ?_)
    have hj84 : ∀  (s4 : qe_S) (o : qe_S), j84  s4 = some o → qe_J l G MX0_add 84 [(0, .ref 32)] [] (qs_w s4 (qs_TC G)) none (qs_w o (qs_TC G)) := by
      intro  s4 o h
      subst ej84
      refine qe_aload_n dX0_add_84 0 rfl rfl trivial ?_
      refine qe_iconst (v := (1 : Int32)) dX0_add_85 rfl ?_
      refine qs_putZ (j := 2) tC_32 rfl fp_RX0_18 ⟨rfl, rfl⟩ dX0_add_86 h (fun s5 h => ?_)
      have e : s5 = o := Option.some.inj h
      subst e
      exact qe_vret dX0_add_89 rfl
    refine qe_istore (lv' := [(11, .int q2), (0, .ref 32), (1, .long v1), (3, .long v3), (9, .long b1)]) dX0_add_44 rfl (Nat.le_of_ble_eq_true rfl) ?_
    refine qe_aload_n dX0_add_46 1 rfl rfl trivial ?_
    refine qs_getL (j := 0) tC_32 rfl fl_RX0_9 dX0_add_47 ?_
    refine qe_lload_n dX0_add_50 3 rfl rfl ?_
    refine qm_b_elim h (fun a7 s6 hc h => ?_)
    refine qe_callS1 (st := []) kk_X0_add_X0_productFits (c_X0_productFits hc) rfl rfl (Nat.le_of_ble_eq_true rfl) dX0_add_51 ?_
    refine qe_if_eq (tgt := 84) dX0_add_54 rfl h (fun _ h => ?_) (fun _ h => ?_)
    · refine qe_sub [1] rfl ?_
      exact hj84  _ _ h
    · refine qe_lload_n dX0_add_57 2 rfl rfl ?_
      refine qe_aload_n dX0_add_58 1 rfl rfl trivial ?_
      refine qs_getL (j := 1) tC_32 rfl fl_RX0_15 dX0_add_59 ?_
      refine qm_b_elim h (fun a9 s8 hc h => ?_)
      refine qe_callS1 (st := []) kk_X0_add_X0_productFits (c_X0_productFits hc) rfl rfl (Nat.le_of_ble_eq_true rfl) dX0_add_62 ?_
      refine qe_if_eq (tgt := 84) dX0_add_65 rfl h (fun _ h => ?_) (fun _ h => ?_)
      · refine qe_sub [1] rfl ?_
        exact hj84  _ _ h
      · refine qe_aload_n dX0_add_68 1 rfl rfl trivial ?_
        refine qs_getL (j := 1) tC_32 rfl fl_RX0_15 dX0_add_69 ?_
        refine qe_lload_n dX0_add_72 3 rfl rfl ?_
        refine qm_b_elim h (fun a11 s10 hc h => ?_)
        refine qe_callS1 (st := []) kk_X0_add_X0_productFits (c_X0_productFits hc) rfl rfl (Nat.le_of_ble_eq_true rfl) dX0_add_73 ?_
        refine qe_if_eq (tgt := 84) dX0_add_76 rfl h (fun _ h => ?_) (fun _ h => ?_)
        · refine qe_sub [1] rfl ?_
          exact hj84  _ _ h
        · refine qe_iload dX0_add_79 0 rfl ?_
          refine qe_if_ne (tgt := 90) dX0_add_81 rfl h (fun _ h => ?_) (fun _ h => ?_)
          · refine qe_aload_n dX0_add_90 1 rfl rfl trivial ?_
            refine qe_lload dX0_add_91 4 rfl ?_
            refine qe_aload_n dX0_add_93 1 rfl rfl trivial ?_
            refine qs_getL (j := 1) tC_32 rfl fl_RX0_15 dX0_add_94 ?_
            refine qe_lload_n dX0_add_97 3 rfl rfl ?_
            refine qe_lmul dX0_add_98 ?_
            refine qm_o_elim h (fun s12 hc h => ?_)
            refine qe_callV0 (st := []) kk_X0_add_X0_reduce (c_X0_reduce_32 hc) (qs_at tC_32) rfl rfl rfl (Nat.le_of_ble_eq_true rfl) dX0_add_99 ?_
            have e : s12 = o := Option.some.inj h
            subst e
            exact qe_vret dX0_add_102 rfl
          · refine qe_sub [1] rfl ?_
            exact hj84  _ _ h
  refine qe_aload_n dX0_add_0 0 rfl rfl trivial ?_
  refine qs_getL (j := 0) tC_32 rfl fl_RX0_9 dX0_add_1 ?_
  refine qe_lload_n dX0_add_4 2 rfl rfl ?_
  refine qe_lmul dX0_add_5 ?_
  refine qe_let_l h (fun b13 h => ?_)
  refine qe_lstore (lv' := [(5, .long b13), (0, .ref 32), (1, .long v1), (3, .long v3)]) dX0_add_6 rfl (Nat.le_of_ble_eq_true rfl) ?_
  refine qe_lload_n dX0_add_8 2 rfl rfl ?_
  refine qe_aload_n dX0_add_9 1 rfl rfl trivial ?_
  refine qs_getL (j := 1) tC_32 rfl fl_RX0_15 dX0_add_10 ?_
  refine qe_lmul dX0_add_13 ?_
  refine qe_let_l h (fun b14 h => ?_)
  refine qe_lstore (lv' := [(7, .long b14), (5, .long b13), (0, .ref 32), (1, .long v1), (3, .long v3)]) dX0_add_14 rfl (Nat.le_of_ble_eq_true rfl) ?_
  refine qe_lload dX0_add_16 1 rfl ?_
  refine qe_lload dX0_add_18 0 rfl ?_
  refine qe_ladd dX0_add_20 ?_
  refine qe_let_l h (fun b15 h => ?_)
  refine qe_lstore (lv' := [(9, .long b15), (7, .long b14), (5, .long b13), (0, .ref 32), (1, .long v1), (3, .long v3)]) dX0_add_21 rfl (Nat.le_of_ble_eq_true rfl) ?_
  refine qe_lload dX0_add_23 2 rfl ?_
  refine qe_lload dX0_add_25 0 rfl ?_
  refine qe_lxor dX0_add_27 ?_
  refine qe_lload dX0_add_28 1 rfl ?_
  refine qe_lload dX0_add_30 0 rfl ?_
  refine qe_lxor dX0_add_32 ?_
  refine qe_land dX0_add_33 ?_
  refine qe_lconst (v := 0) dX0_add_34 rfl ?_
  refine qe_lcmp_lt (tgt := 43) dX0_add_35 dX0_add_36 rfl h (fun _ h => ?_) (fun _ h => ?_)
  · refine qe_iconst (v := (0 : Int32)) dX0_add_43 rfl ?_
    refine qe_sub [3, 4, 5, 0] rfl ?_
    exact hj44 _ _ _ _ h
  · refine qe_iconst (v := (1 : Int32)) dX0_add_39 rfl ?_
    refine qe_goto (tgt := 44) dX0_add_40 rfl ?_
    refine qe_sub [3, 4, 5, 0] rfl ?_
    exact hj44 _ _ _ _ h

set_option maxRecDepth 20000 in
theorem c_X0_add_33 {l : Launch} {G : qe_G} {v1 : Int64} {v3 : Int64} {s0 : qe_S} {o : qe_S} (h : g_X0_add 33 v1 v3 s0 = some o) : qe_C l G MX0_add [.ref 33, .long v1, .long v3] (qs_w s0 (qs_TC G)) none (qs_w o (qs_TC G)) := by
  refine qe_C.of (by decide +kernel) (Nat.le_of_ble_eq_true rfl) ?_
  show qe_J l G MX0_add 0 [(0, .ref 33), (1, .long v1), (3, .long v3)] [] (qs_w s0 (qs_TC G)) none (qs_w o (qs_TC G))
  unfold g_X0_add at h
  refine qm_j_elim h (fun j44 ej44 h => ?_)
  have hj44 : ∀ (b1 : Int64) (q2 : Int32) (s3 : qe_S) (o : qe_S), j44 b1 q2 s3 = some o → qe_J l G MX0_add 44 [(0, .ref 33), (1, .long v1), (3, .long v3), (9, .long b1)] [.int q2] (qs_w s3 (qs_TC G)) none (qs_w o (qs_TC G)) := by
    intro b1 q2 s3 o h
    subst ej44
    refine qm_j_elim h (fun j84 ej84 h => ?_)
    have hj84 : ∀  (s4 : qe_S) (o : qe_S), j84  s4 = some o → qe_J l G MX0_add 84 [(0, .ref 33)] [] (qs_w s4 (qs_TC G)) none (qs_w o (qs_TC G)) := by
      intro  s4 o h
      subst ej84
      refine qe_aload_n dX0_add_84 0 rfl rfl trivial ?_
      refine qe_iconst (v := (1 : Int32)) dX0_add_85 rfl ?_
      refine qs_putZ (j := 2) tC_33 rfl fp_RX0_18 ⟨rfl, rfl⟩ dX0_add_86 h (fun s5 h => ?_)
      have e : s5 = o := Option.some.inj h
      subst e
      exact qe_vret dX0_add_89 rfl
    refine qe_istore (lv' := [(11, .int q2), (0, .ref 33), (1, .long v1), (3, .long v3), (9, .long b1)]) dX0_add_44 rfl (Nat.le_of_ble_eq_true rfl) ?_
    refine qe_aload_n dX0_add_46 1 rfl rfl trivial ?_
    refine qs_getL (j := 0) tC_33 rfl fl_RX0_9 dX0_add_47 ?_
    refine qe_lload_n dX0_add_50 3 rfl rfl ?_
    refine qm_b_elim h (fun a7 s6 hc h => ?_)
    refine qe_callS1 (st := []) kk_X0_add_X0_productFits (c_X0_productFits hc) rfl rfl (Nat.le_of_ble_eq_true rfl) dX0_add_51 ?_
    refine qe_if_eq (tgt := 84) dX0_add_54 rfl h (fun _ h => ?_) (fun _ h => ?_)
    · refine qe_sub [1] rfl ?_
      exact hj84  _ _ h
    · refine qe_lload_n dX0_add_57 2 rfl rfl ?_
      refine qe_aload_n dX0_add_58 1 rfl rfl trivial ?_
      refine qs_getL (j := 1) tC_33 rfl fl_RX0_15 dX0_add_59 ?_
      refine qm_b_elim h (fun a9 s8 hc h => ?_)
      refine qe_callS1 (st := []) kk_X0_add_X0_productFits (c_X0_productFits hc) rfl rfl (Nat.le_of_ble_eq_true rfl) dX0_add_62 ?_
      refine qe_if_eq (tgt := 84) dX0_add_65 rfl h (fun _ h => ?_) (fun _ h => ?_)
      · refine qe_sub [1] rfl ?_
        exact hj84  _ _ h
      · refine qe_aload_n dX0_add_68 1 rfl rfl trivial ?_
        refine qs_getL (j := 1) tC_33 rfl fl_RX0_15 dX0_add_69 ?_
        refine qe_lload_n dX0_add_72 3 rfl rfl ?_
        refine qm_b_elim h (fun a11 s10 hc h => ?_)
        refine qe_callS1 (st := []) kk_X0_add_X0_productFits (c_X0_productFits hc) rfl rfl (Nat.le_of_ble_eq_true rfl) dX0_add_73 ?_
        refine qe_if_eq (tgt := 84) dX0_add_76 rfl h (fun _ h => ?_) (fun _ h => ?_)
        · refine qe_sub [1] rfl ?_
          exact hj84  _ _ h
        · refine qe_iload dX0_add_79 0 rfl ?_
          refine qe_if_ne (tgt := 90) dX0_add_81 rfl h (fun _ h => ?_) (fun _ h => ?_)
          · refine qe_aload_n dX0_add_90 1 rfl rfl trivial ?_
            refine qe_lload dX0_add_91 4 rfl ?_
            refine qe_aload_n dX0_add_93 1 rfl rfl trivial ?_
            refine qs_getL (j := 1) tC_33 rfl fl_RX0_15 dX0_add_94 ?_
            refine qe_lload_n dX0_add_97 3 rfl rfl ?_
            refine qe_lmul dX0_add_98 ?_
            refine qm_o_elim h (fun s12 hc h => ?_)
            refine qe_callV0 (st := []) kk_X0_add_X0_reduce (c_X0_reduce_33 hc) (qs_at tC_33) rfl rfl rfl (Nat.le_of_ble_eq_true rfl) dX0_add_99 ?_
            have e : s12 = o := Option.some.inj h
            subst e
            exact qe_vret dX0_add_102 rfl
          · refine qe_sub [1] rfl ?_
            exact hj84  _ _ h
  refine qe_aload_n dX0_add_0 0 rfl rfl trivial ?_
  refine qs_getL (j := 0) tC_33 rfl fl_RX0_9 dX0_add_1 ?_
  refine qe_lload_n dX0_add_4 2 rfl rfl ?_
  refine qe_lmul dX0_add_5 ?_
  refine qe_let_l h (fun b13 h => ?_)
  refine qe_lstore (lv' := [(5, .long b13), (0, .ref 33), (1, .long v1), (3, .long v3)]) dX0_add_6 rfl (Nat.le_of_ble_eq_true rfl) ?_
  refine qe_lload_n dX0_add_8 2 rfl rfl ?_
  refine qe_aload_n dX0_add_9 1 rfl rfl trivial ?_
  refine qs_getL (j := 1) tC_33 rfl fl_RX0_15 dX0_add_10 ?_
  refine qe_lmul dX0_add_13 ?_
  refine qe_let_l h (fun b14 h => ?_)
  refine qe_lstore (lv' := [(7, .long b14), (5, .long b13), (0, .ref 33), (1, .long v1), (3, .long v3)]) dX0_add_14 rfl (Nat.le_of_ble_eq_true rfl) ?_
  refine qe_lload dX0_add_16 1 rfl ?_
  refine qe_lload dX0_add_18 0 rfl ?_
  refine qe_ladd dX0_add_20 ?_
  refine qe_let_l h (fun b15 h => ?_)
  refine qe_lstore (lv' := [(9, .long b15), (7, .long b14), (5, .long b13), (0, .ref 33), (1, .long v1), (3, .long v3)]) dX0_add_21 rfl (Nat.le_of_ble_eq_true rfl) ?_
  refine qe_lload dX0_add_23 2 rfl ?_
  refine qe_lload dX0_add_25 0 rfl ?_
  refine qe_lxor dX0_add_27 ?_
  refine qe_lload dX0_add_28 1 rfl ?_
  refine qe_lload dX0_add_30 0 rfl ?_
  refine qe_lxor dX0_add_32 ?_
  refine qe_land dX0_add_33 ?_
  refine qe_lconst (v := 0) dX0_add_34 rfl ?_
  refine qe_lcmp_lt (tgt := 43) dX0_add_35 dX0_add_36 rfl h (fun _ h => ?_) (fun _ h => ?_)
  · refine qe_iconst (v := (0 : Int32)) dX0_add_43 rfl ?_
    refine qe_sub [3, 4, 5, 0] rfl ?_
    exact hj44 _ _ _ _ h
  · refine qe_iconst (v := (1 : Int32)) dX0_add_39 rfl ?_
    refine qe_goto (tgt := 44) dX0_add_40 rfl ?_
    refine qe_sub [3, 4, 5, 0] rfl ?_
    exact hj44 _ _ _ _ h

set_option maxRecDepth 20000 in
theorem c_X8_addEstimate_L2_0_32 {l : Launch} {G : qe_G} {v2 : Int32} : ∀ (n : Nat) (v3 : Int32) (s0 : qe_S) (o : qe_S), g_X8_addEstimate_L2 32 v2 n v3 s0 = some o → qe_J l G MX8_addEstimate 2 [(0, .ref 0), (1, .ref 32), (2, .int v2), (3, .int v3)] [] (qs_w s0 (qs_TC G)) none (qs_w o (qs_TC G)) := by
  intro n
  induction n with
  | zero =>
    intro v3 s0 o h
    rw [g_X8_addEstimate_L2] at h
    cases h
  | succ n ih =>
    intro v3 s0 o h
    rw [g_X8_addEstimate_L2] at h
    refine qe_iload_n dX8_addEstimate_2 3 rfl rfl ?_
    refine qe_aload_n dX8_addEstimate_3 0 rfl rfl trivial ?_
    refine qs_getR (j := 0) tC_0 rfl fl_RX8_12 dX8_addEstimate_4 ?_
    refine qs_getI (j := 0) tC_1 rfl fl_RX8_201 dX8_addEstimate_7 ?_
    refine qe_icmp_ge (tgt := 83) dX8_addEstimate_10 rfl h (fun _ h => ?_) (fun _ h => ?_)
    · have e : s0 = o := Option.some.inj h
      subst e
      exact qe_vret dX8_addEstimate_83 rfl
    · refine qm_j_elim h (fun j77 ej77 h => ?_)
      have hj77 : ∀  (s2 : qe_S) (o : qe_S), j77  s2 = some o → qe_J l G MX8_addEstimate 77 [(0, .ref 0), (1, .ref 32), (2, .int v2), (3, .int v3)] [] (qs_w s2 (qs_TC G)) none (qs_w o (qs_TC G)) := by
        intro  s2 o h
        subst ej77
        refine qe_iincl (lv' := fun a3 => [(3, .int a3), (0, .ref 0), (1, .ref 32), (2, .int v2)]) dX8_addEstimate_77 3 rfl rfl (fun _ => rfl) (Nat.le_of_ble_eq_true rfl) h (fun a3 h => ?_)
        refine qe_goto (tgt := 2) dX8_addEstimate_80 rfl ?_
        refine qe_sub [1, 2, 3, 0] rfl ?_
        exact ih _ _ _ h
      refine qe_iload_n dX8_addEstimate_13 2 rfl rfl ?_
      refine qe_iload_n dX8_addEstimate_14 3 rfl rfl ?_
      refine qm_b_elim h (fun a5 s4 hc h => ?_)
      refine qe_callS1 (st := []) kk_X8_addEstimate_X8_isIn (c_X8_isIn hc) rfl rfl (Nat.le_of_ble_eq_true rfl) dX8_addEstimate_15 ?_
      refine qe_if_eq (tgt := 77) dX8_addEstimate_18 rfl h (fun _ h => ?_) (fun _ h => ?_)
      · exact hj77  _ _ h
      · refine qe_aload_n dX8_addEstimate_21 0 rfl rfl trivial ?_
        refine qs_getR (j := 9) tC_0 rfl fl_RX8_53 dX8_addEstimate_22 ?_
        refine qe_aload_n dX8_addEstimate_25 0 rfl rfl trivial ?_
        refine qs_getR (j := 0) tC_0 rfl fl_RX8_12 dX8_addEstimate_26 ?_
        refine qs_getR (j := 4) tC_1 rfl fl_RX8_123 dX8_addEstimate_29 ?_
        refine qe_iload_n dX8_addEstimate_32 3 rfl rfl ?_
        refine qs_ild tC_3 dX8_addEstimate_33 h (fun a6 h => ?_)
        refine qe_i2l dX8_addEstimate_34 ?_
        refine qe_aload_n dX8_addEstimate_35 0 rfl rfl trivial ?_
        refine qs_getR (j := 0) tC_0 rfl fl_RX8_12 dX8_addEstimate_36 ?_
        refine qe_iload_n dX8_addEstimate_39 3 rfl rfl ?_
        refine qe_iconst (v := (0 : Int32)) dX8_addEstimate_40 rfl ?_
        refine qm_b_elim h (fun a8 s7 hc h => ?_)
        refine qe_callV1 (st := [.long a6.toInt64, .ref 34]) kk_X8_addEstimate_X3_below (c_X3_below hc) (qs_at tC_1) rfl rfl rfl (Nat.le_of_ble_eq_true rfl) dX8_addEstimate_41 ?_
        refine qe_i2l dX8_addEstimate_44 ?_
        refine qe_lmul dX8_addEstimate_45 ?_
        refine qe_aload_n dX8_addEstimate_46 0 rfl rfl trivial ?_
        refine qs_getR (j := 0) tC_0 rfl fl_RX8_12 dX8_addEstimate_47 ?_
        refine qe_iload_n dX8_addEstimate_50 3 rfl rfl ?_
        refine qe_iconst (v := (0 : Int32)) dX8_addEstimate_51 rfl ?_
        refine qm_b_elim h (fun a10 s9 hc h => ?_)
        refine qe_callV1 (st := [.long (a6.toInt64 * a8.toInt64), .ref 34]) kk_X8_addEstimate_X3_above (c_X3_above hc) (qs_at tC_1) rfl rfl rfl (Nat.le_of_ble_eq_true rfl) dX8_addEstimate_52 ?_
        refine qe_i2l dX8_addEstimate_55 ?_
        refine qm_o_elim h (fun s11 hc h => ?_)
        refine qe_callV0 (st := []) kk_X8_addEstimate_X0_begin (c_X0_begin_34 hc) (qs_at tC_34) rfl rfl rfl (Nat.le_of_ble_eq_true rfl) dX8_addEstimate_56 ?_
        refine qe_aload_n dX8_addEstimate_59 1 rfl rfl trivial ?_
        refine qe_aload_n dX8_addEstimate_60 0 rfl rfl trivial ?_
        refine qs_getR (j := 9) tC_0 rfl fl_RX8_53 dX8_addEstimate_61 ?_
        refine qs_getL (j := 0) tC_34 rfl fl_RX8_327 dX8_addEstimate_64 ?_
        refine qe_aload_n dX8_addEstimate_67 0 rfl rfl trivial ?_
        refine qs_getR (j := 9) tC_0 rfl fl_RX8_53 dX8_addEstimate_68 ?_
        refine qs_getL (j := 1) tC_34 rfl fl_RX8_329 dX8_addEstimate_71 ?_
        refine qm_o_elim h (fun s12 hc h => ?_)
        refine qe_callV0 (st := []) kk_X8_addEstimate_X0_add (c_X0_add_32 hc) (qs_at tC_32) rfl rfl rfl (Nat.le_of_ble_eq_true rfl) dX8_addEstimate_74 ?_
        exact hj77  _ _ h

set_option maxRecDepth 20000 in
theorem c_X8_addEstimate_0_32 {l : Launch} {G : qe_G} {v2 : Int32} {s0 : qe_S} {o : qe_S} (h : g_X8_addEstimate 32 v2 s0 = some o) : qe_C l G MX8_addEstimate [.ref 0, .ref 32, .int v2] (qs_w s0 (qs_TC G)) none (qs_w o (qs_TC G)) := by
  refine qe_C.of (by decide +kernel) (Nat.le_of_ble_eq_true rfl) ?_
  show qe_J l G MX8_addEstimate 0 [(0, .ref 0), (1, .ref 32), (2, .int v2)] [] (qs_w s0 (qs_TC G)) none (qs_w o (qs_TC G))
  unfold g_X8_addEstimate at h
  refine qe_iconst (v := (0 : Int32)) dX8_addEstimate_0 rfl ?_
  refine qe_let_i h (fun a1 h => ?_)
  refine qe_istore_n (lv' := [(3, .int a1), (0, .ref 0), (1, .ref 32), (2, .int v2)]) dX8_addEstimate_1 rfl rfl (Nat.le_of_ble_eq_true rfl) ?_
  refine qe_sub [1, 2, 3, 0] rfl ?_
  refine c_X8_addEstimate_L2_0_32 _ _ _ _ h

set_option maxRecDepth 20000 in
theorem c_X8_addEstimate_L2_0_33 {l : Launch} {G : qe_G} {v2 : Int32} : ∀ (n : Nat) (v3 : Int32) (s0 : qe_S) (o : qe_S), g_X8_addEstimate_L2 33 v2 n v3 s0 = some o → qe_J l G MX8_addEstimate 2 [(0, .ref 0), (1, .ref 33), (2, .int v2), (3, .int v3)] [] (qs_w s0 (qs_TC G)) none (qs_w o (qs_TC G)) := by
  intro n
  induction n with
  | zero =>
    intro v3 s0 o h
    rw [g_X8_addEstimate_L2] at h
    cases h
  | succ n ih =>
    intro v3 s0 o h
    rw [g_X8_addEstimate_L2] at h
    refine qe_iload_n dX8_addEstimate_2 3 rfl rfl ?_
    refine qe_aload_n dX8_addEstimate_3 0 rfl rfl trivial ?_
    refine qs_getR (j := 0) tC_0 rfl fl_RX8_12 dX8_addEstimate_4 ?_
    refine qs_getI (j := 0) tC_1 rfl fl_RX8_201 dX8_addEstimate_7 ?_
    refine qe_icmp_ge (tgt := 83) dX8_addEstimate_10 rfl h (fun _ h => ?_) (fun _ h => ?_)
    · have e : s0 = o := Option.some.inj h
      subst e
      exact qe_vret dX8_addEstimate_83 rfl
    · refine qm_j_elim h (fun j77 ej77 h => ?_)
      have hj77 : ∀  (s2 : qe_S) (o : qe_S), j77  s2 = some o → qe_J l G MX8_addEstimate 77 [(0, .ref 0), (1, .ref 33), (2, .int v2), (3, .int v3)] [] (qs_w s2 (qs_TC G)) none (qs_w o (qs_TC G)) := by
        intro  s2 o h
        subst ej77
        refine qe_iincl (lv' := fun a3 => [(3, .int a3), (0, .ref 0), (1, .ref 33), (2, .int v2)]) dX8_addEstimate_77 3 rfl rfl (fun _ => rfl) (Nat.le_of_ble_eq_true rfl) h (fun a3 h => ?_)
        refine qe_goto (tgt := 2) dX8_addEstimate_80 rfl ?_
        refine qe_sub [1, 2, 3, 0] rfl ?_
        exact ih _ _ _ h
      refine qe_iload_n dX8_addEstimate_13 2 rfl rfl ?_
      refine qe_iload_n dX8_addEstimate_14 3 rfl rfl ?_
      refine qm_b_elim h (fun a5 s4 hc h => ?_)
      refine qe_callS1 (st := []) kk_X8_addEstimate_X8_isIn (c_X8_isIn hc) rfl rfl (Nat.le_of_ble_eq_true rfl) dX8_addEstimate_15 ?_
      refine qe_if_eq (tgt := 77) dX8_addEstimate_18 rfl h (fun _ h => ?_) (fun _ h => ?_)
      · exact hj77  _ _ h
      · refine qe_aload_n dX8_addEstimate_21 0 rfl rfl trivial ?_
        refine qs_getR (j := 9) tC_0 rfl fl_RX8_53 dX8_addEstimate_22 ?_
        refine qe_aload_n dX8_addEstimate_25 0 rfl rfl trivial ?_
        refine qs_getR (j := 0) tC_0 rfl fl_RX8_12 dX8_addEstimate_26 ?_
        refine qs_getR (j := 4) tC_1 rfl fl_RX8_123 dX8_addEstimate_29 ?_
        refine qe_iload_n dX8_addEstimate_32 3 rfl rfl ?_
        refine qs_ild tC_3 dX8_addEstimate_33 h (fun a6 h => ?_)
        refine qe_i2l dX8_addEstimate_34 ?_
        refine qe_aload_n dX8_addEstimate_35 0 rfl rfl trivial ?_
        refine qs_getR (j := 0) tC_0 rfl fl_RX8_12 dX8_addEstimate_36 ?_
        refine qe_iload_n dX8_addEstimate_39 3 rfl rfl ?_
        refine qe_iconst (v := (0 : Int32)) dX8_addEstimate_40 rfl ?_
        refine qm_b_elim h (fun a8 s7 hc h => ?_)
        refine qe_callV1 (st := [.long a6.toInt64, .ref 34]) kk_X8_addEstimate_X3_below (c_X3_below hc) (qs_at tC_1) rfl rfl rfl (Nat.le_of_ble_eq_true rfl) dX8_addEstimate_41 ?_
        refine qe_i2l dX8_addEstimate_44 ?_
        refine qe_lmul dX8_addEstimate_45 ?_
        refine qe_aload_n dX8_addEstimate_46 0 rfl rfl trivial ?_
        refine qs_getR (j := 0) tC_0 rfl fl_RX8_12 dX8_addEstimate_47 ?_
        refine qe_iload_n dX8_addEstimate_50 3 rfl rfl ?_
        refine qe_iconst (v := (0 : Int32)) dX8_addEstimate_51 rfl ?_
        refine qm_b_elim h (fun a10 s9 hc h => ?_)
        refine qe_callV1 (st := [.long (a6.toInt64 * a8.toInt64), .ref 34]) kk_X8_addEstimate_X3_above (c_X3_above hc) (qs_at tC_1) rfl rfl rfl (Nat.le_of_ble_eq_true rfl) dX8_addEstimate_52 ?_
        refine qe_i2l dX8_addEstimate_55 ?_
        refine qm_o_elim h (fun s11 hc h => ?_)
        refine qe_callV0 (st := []) kk_X8_addEstimate_X0_begin (c_X0_begin_34 hc) (qs_at tC_34) rfl rfl rfl (Nat.le_of_ble_eq_true rfl) dX8_addEstimate_56 ?_
        refine qe_aload_n dX8_addEstimate_59 1 rfl rfl trivial ?_
        refine qe_aload_n dX8_addEstimate_60 0 rfl rfl trivial ?_
        refine qs_getR (j := 9) tC_0 rfl fl_RX8_53 dX8_addEstimate_61 ?_
        refine qs_getL (j := 0) tC_34 rfl fl_RX8_327 dX8_addEstimate_64 ?_
        refine qe_aload_n dX8_addEstimate_67 0 rfl rfl trivial ?_
        refine qs_getR (j := 9) tC_0 rfl fl_RX8_53 dX8_addEstimate_68 ?_
        refine qs_getL (j := 1) tC_34 rfl fl_RX8_329 dX8_addEstimate_71 ?_
        refine qm_o_elim h (fun s12 hc h => ?_)
        refine qe_callV0 (st := []) kk_X8_addEstimate_X0_add (c_X0_add_33 hc) (qs_at tC_33) rfl rfl rfl (Nat.le_of_ble_eq_true rfl) dX8_addEstimate_74 ?_
        exact hj77  _ _ h

set_option maxRecDepth 20000 in
theorem c_X8_addEstimate_0_33 {l : Launch} {G : qe_G} {v2 : Int32} {s0 : qe_S} {o : qe_S} (h : g_X8_addEstimate 33 v2 s0 = some o) : qe_C l G MX8_addEstimate [.ref 0, .ref 33, .int v2] (qs_w s0 (qs_TC G)) none (qs_w o (qs_TC G)) := by
  refine qe_C.of (by decide +kernel) (Nat.le_of_ble_eq_true rfl) ?_
  show qe_J l G MX8_addEstimate 0 [(0, .ref 0), (1, .ref 33), (2, .int v2)] [] (qs_w s0 (qs_TC G)) none (qs_w o (qs_TC G))
  unfold g_X8_addEstimate at h
  refine qe_iconst (v := (0 : Int32)) dX8_addEstimate_0 rfl ?_
  refine qe_let_i h (fun a1 h => ?_)
  refine qe_istore_n (lv' := [(3, .int a1), (0, .ref 0), (1, .ref 33), (2, .int v2)]) dX8_addEstimate_1 rfl rfl (Nat.le_of_ble_eq_true rfl) ?_
  refine qe_sub [1, 2, 3, 0] rfl ?_
  refine c_X8_addEstimate_L2_0_33 _ _ _ _ h

set_option maxRecDepth 20000 in
theorem c_X8_partOf {l : Launch} {G : qe_G} {v2 : Int32} {s0 : qe_S} {o : Int64 × qe_S} (h : g_X8_partOf v2 s0 = some o) : qe_C l G MX8_partOf [.ref 0, .ref 32, .int v2] (qs_w s0 (qs_TC G)) (some (.long o.1)) (qs_w o.2 (qs_TC G)) := by
  refine qe_C.of (by decide +kernel) (Nat.le_of_ble_eq_true rfl) ?_
  show qe_J l G MX8_partOf 0 [(0, .ref 0), (1, .ref 32), (2, .int v2)] [] (qs_w s0 (qs_TC G)) (some (.long o.1)) (qs_w o.2 (qs_TC G))
  unfold g_X8_partOf at h
  refine qe_aload_n dX8_partOf_0 1 rfl rfl trivial ?_
  refine qs_getI (j := 2) tC_32 rfl fl_RX8_324 dX8_partOf_1 ?_
  refine qe_if_eq (tgt := 14) dX8_partOf_4 rfl h (fun _ h => ?_) (fun _ h => ?_)
  · refine qe_iload_n dX8_partOf_14 2 rfl rfl ?_
    refine qe_if_ne (tgt := 25) dX8_partOf_15 rfl h (fun _ h => ?_) (fun _ h => ?_)
    · refine qe_aload_n dX8_partOf_25 1 rfl rfl trivial ?_
      refine qs_getL (j := 1) tC_32 rfl fl_RX8_329 dX8_partOf_26 ?_
      have e : ((s0.2 32 1), s0) = o := Option.some.inj h
      subst e
      exact qe_lret dX8_partOf_29 rfl
    · refine qe_aload_n dX8_partOf_18 1 rfl rfl trivial ?_
      refine qs_getL (j := 0) tC_32 rfl fl_RX8_327 dX8_partOf_19 ?_
      refine qe_goto (tgt := 29) dX8_partOf_22 rfl ?_
      have e : ((s0.2 32 0), s0) = o := Option.some.inj h
      subst e
      exact qe_lret dX8_partOf_29 rfl
  · refine qe_aload_n dX8_partOf_7 0 rfl rfl trivial ?_
    refine qe_bipush (v := (-7 : Int32)) dX8_partOf_8 rfl ?_
    refine qm_b_elim h (fun b2 s1 hc h => ?_)
    refine qe_callV1 (st := []) kk_X8_partOf_X8_refuseLong (c_X8_refuseLong hc) (qs_at tC_0) rfl rfl rfl (Nat.le_of_ble_eq_true rfl) dX8_partOf_10 ?_
    have e : (b2, s1) = o := Option.some.inj h
    subst e
    exact qe_lret dX8_partOf_13 rfl

