/-! THE MACHINE: the methods meet their models (printed by wip/whole/gen/decomp.py) -/
set_option maxRecDepth 20000 in
theorem c_X9_replaced {l : Launch} {G : qe_G} {v1 : Int32} {v2 : Int32} {s0 : qe_S} {o : Int32 × qe_S} (h : g_X9_replaced v1 v2 s0 = some o) : qe_C l G MX9_replaced [.ref 0, .int v1, .int v2] (qs_w s0 (qs_TM G)) (some (.int o.1)) (qs_w o.2 (qs_TM G)) := by
  refine qe_C.of (by decide +kernel) (Nat.le_of_ble_eq_true rfl) ?_
  show qe_J l G MX9_replaced 0 [(0, .ref 0), (1, .int v1), (2, .int v2)] [] (qs_w s0 (qs_TM G)) (some (.int o.1)) (qs_w o.2 (qs_TM G))
  unfold g_X9_replaced at h
  refine qe_iload_n dX9_replaced_0 2 rfl rfl ?_
  refine qm_b_elim h (fun a2 s1 hc h => ?_)
  refine qe_callS1 (st := []) kk_X9_replaced_X9_isManner (c_X9_isManner hc) rfl rfl (Nat.le_of_ble_eq_true rfl) dX9_replaced_1 ?_
  refine qe_if_ne (tgt := 13) dX9_replaced_4 rfl h (fun _ h => ?_) (fun _ h => ?_)
  · refine qe_aload_n dX9_replaced_13 0 rfl rfl trivial ?_
    refine qe_iconst (v := (0 : Int32)) dX9_replaced_14 rfl ?_
    refine qm_b_elim h (fun a4 s3 hc h => ?_)
    refine qe_callV1 (st := []) kk_X9_replaced_X9_lays (c_X9_lays hc) (qs_at tM_0) rfl rfl rfl (Nat.le_of_ble_eq_true rfl) dX9_replaced_15 ?_
    refine qe_if_ne (tgt := 28) dX9_replaced_18 rfl h (fun _ h => ?_) (fun _ h => ?_)
    · refine qe_aload_n dX9_replaced_28 0 rfl rfl trivial ?_
      refine qe_iload_n dX9_replaced_29 1 rfl rfl ?_
      refine qm_b_elim h (fun a6 s5 hc h => ?_)
      refine qe_callV1 (st := []) kk_X9_replaced_X9_isPlace (c_X9_isPlace hc) (qs_at tM_0) rfl rfl rfl (Nat.le_of_ble_eq_true rfl) dX9_replaced_30 ?_
      refine qe_if_eq (tgt := 50) dX9_replaced_33 rfl h (fun _ h => ?_) (fun _ h => ?_)
      · refine qe_aload_n dX9_replaced_50 0 rfl rfl trivial ?_
        refine qe_bipush (v := (-2 : Int32)) dX9_replaced_51 rfl ?_
        refine qm_b_elim h (fun a8 s7 hc h => ?_)
        refine qe_callV1 (st := []) kk_X9_replaced_X9_no (c_X9_no hc) (qs_at tM_0) rfl rfl rfl (Nat.le_of_ble_eq_true rfl) dX9_replaced_53 ?_
        have e : (a8, s7) = o := Option.some.inj h
        subst e
        exact qe_iret dX9_replaced_56 rfl
      · refine qe_aload_n dX9_replaced_36 0 rfl rfl trivial ?_
        refine qe_aload_n dX9_replaced_37 0 rfl rfl trivial ?_
        refine qe_iload_n dX9_replaced_38 1 rfl rfl ?_
        refine qe_i2l dX9_replaced_39 ?_
        refine qm_b_elim h (fun a10 s9 hc h => ?_)
        refine qe_callV1 (st := [.ref 0]) kk_X9_replaced_X9_chosenBy (c_X9_chosenBy hc) (qs_at tM_0) rfl rfl rfl (Nat.le_of_ble_eq_true rfl) dX9_replaced_40 ?_
        refine qe_iload_n dX9_replaced_43 2 rfl rfl ?_
        refine qm_b_elim h (fun a12 s11 hc h => ?_)
        refine qe_callV1 (st := []) kk_X9_replaced_X9_finalOf (c_X9_finalOf hc) (qs_at tM_0) rfl rfl rfl (Nat.le_of_ble_eq_true rfl) dX9_replaced_44 ?_
        refine qe_goto (tgt := 56) dX9_replaced_47 rfl ?_
        have e : (a12, s11) = o := Option.some.inj h
        subst e
        exact qe_iret dX9_replaced_56 rfl
    · refine qe_aload_n dX9_replaced_21 0 rfl rfl trivial ?_
      refine qe_bipush (v := (-7 : Int32)) dX9_replaced_22 rfl ?_
      refine qm_b_elim h (fun a14 s13 hc h => ?_)
      refine qe_callV1 (st := []) kk_X9_replaced_X9_no (c_X9_no hc) (qs_at tM_0) rfl rfl rfl (Nat.le_of_ble_eq_true rfl) dX9_replaced_24 ?_
      have e : (a14, s13) = o := Option.some.inj h
      subst e
      exact qe_iret dX9_replaced_27 rfl
  · refine qe_aload_n dX9_replaced_7 0 rfl rfl trivial ?_
    refine qe_iconst (v := (-1 : Int32)) dX9_replaced_8 rfl ?_
    refine qm_b_elim h (fun a16 s15 hc h => ?_)
    refine qe_callV1 (st := []) kk_X9_replaced_X9_no (c_X9_no hc) (qs_at tM_0) rfl rfl rfl (Nat.le_of_ble_eq_true rfl) dX9_replaced_9 ?_
    have e : (a16, s15) = o := Option.some.inj h
    subst e
    exact qe_iret dX9_replaced_12 rfl

set_option maxRecDepth 20000 in
theorem c_X9_substitute {l : Launch} {G : qe_G} {v1 : Int32} {v2 : Int32} {v3 : Int32} {s0 : qe_S} {o : Int32 × qe_S} (h : g_X9_substitute v1 v2 v3 s0 = some o) : qe_C l G MX9_substitute [.ref 0, .int v1, .int v2, .int v3] (qs_w s0 (qs_TM G)) (some (.int o.1)) (qs_w o.2 (qs_TM G)) := by
  refine qe_C.of (by decide +kernel) (Nat.le_of_ble_eq_true rfl) ?_
  show qe_J l G MX9_substitute 0 [(0, .ref 0), (1, .int v1), (2, .int v2), (3, .int v3)] [] (qs_w s0 (qs_TM G)) (some (.int o.1)) (qs_w o.2 (qs_TM G))
  unfold g_X9_substitute at h
  refine qe_aload_n dX9_substitute_0 0 rfl rfl trivial ?_
  refine qe_iload_n dX9_substitute_1 1 rfl rfl ?_
  refine qm_b_elim h (fun a2 s1 hc h => ?_)
  refine qe_callV1 (st := []) kk_X9_substitute_X9_isUnit (c_X9_isUnit hc) (qs_at tM_0) rfl rfl rfl (Nat.le_of_ble_eq_true rfl) dX9_substitute_2 ?_
  refine qe_if_eq (tgt := 15) dX9_substitute_5 rfl h (fun _ h => ?_) (fun _ h => ?_)
  · refine qe_aload_n dX9_substitute_15 0 rfl rfl trivial ?_
    refine qe_iconst (v := (-1 : Int32)) dX9_substitute_16 rfl ?_
    refine qm_b_elim h (fun a4 s3 hc h => ?_)
    refine qe_callV1 (st := []) kk_X9_substitute_X9_no (c_X9_no hc) (qs_at tM_0) rfl rfl rfl (Nat.le_of_ble_eq_true rfl) dX9_substitute_17 ?_
    have e : (a4, s3) = o := Option.some.inj h
    subst e
    exact qe_iret dX9_substitute_20 rfl
  · refine qe_iload_n dX9_substitute_8 3 rfl rfl ?_
    refine qm_b_elim h (fun a6 s5 hc h => ?_)
    refine qe_callS1 (st := []) kk_X9_substitute_X9_isManner (c_X9_isManner hc) rfl rfl (Nat.le_of_ble_eq_true rfl) dX9_substitute_9 ?_
    refine qe_if_ne (tgt := 21) dX9_substitute_12 rfl h (fun _ h => ?_) (fun _ h => ?_)
    · refine qe_aload_n dX9_substitute_21 0 rfl rfl trivial ?_
      refine qe_iconst (v := (0 : Int32)) dX9_substitute_22 rfl ?_
      refine qm_b_elim h (fun a8 s7 hc h => ?_)
      refine qe_callV1 (st := []) kk_X9_substitute_X9_lays (c_X9_lays hc) (qs_at tM_0) rfl rfl rfl (Nat.le_of_ble_eq_true rfl) dX9_substitute_23 ?_
      refine qe_if_ne (tgt := 36) dX9_substitute_26 rfl h (fun _ h => ?_) (fun _ h => ?_)
      · refine qe_aload_n dX9_substitute_36 0 rfl rfl trivial ?_
        refine qe_iload_n dX9_substitute_37 2 rfl rfl ?_
        refine qm_b_elim h (fun a10 s9 hc h => ?_)
        refine qe_callV1 (st := []) kk_X9_substitute_X9_isPlace (c_X9_isPlace hc) (qs_at tM_0) rfl rfl rfl (Nat.le_of_ble_eq_true rfl) dX9_substitute_38 ?_
        refine qe_if_ne (tgt := 51) dX9_substitute_41 rfl h (fun _ h => ?_) (fun _ h => ?_)
        · refine qe_aload_n dX9_substitute_51 0 rfl rfl trivial ?_
          refine qe_iload_n dX9_substitute_52 2 rfl rfl ?_
          refine qe_i2l dX9_substitute_53 ?_
          refine qm_b_elim h (fun a12 s11 hc h => ?_)
          refine qe_callV1 (st := []) kk_X9_substitute_X9_chosenBy (c_X9_chosenBy hc) (qs_at tM_0) rfl rfl rfl (Nat.le_of_ble_eq_true rfl) dX9_substitute_54 ?_
          refine qe_istore (lv' := [(4, .int a12), (0, .ref 0), (1, .int v1), (2, .int v2), (3, .int v3)]) dX9_substitute_57 rfl (Nat.le_of_ble_eq_true rfl) ?_
          refine qe_aload_n dX9_substitute_59 1 rfl rfl trivial ?_
          refine qe_iload dX9_substitute_60 0 rfl ?_
          refine qe_iload_n dX9_substitute_62 2 rfl rfl ?_
          refine qm_b_elim h (fun a14 s13 hc h => ?_)
          refine qe_callV1 (st := []) kk_X9_substitute_X9_has (c_X9_has hc) (qs_at tM_0) rfl rfl rfl (Nat.le_of_ble_eq_true rfl) dX9_substitute_63 ?_
          refine qe_if_eq (tgt := 81) dX9_substitute_66 rfl h (fun _ h => ?_) (fun _ h => ?_)
          · refine qe_aload_n dX9_substitute_81 1 rfl rfl trivial ?_
            refine qe_bipush (v := (-3 : Int32)) dX9_substitute_82 rfl ?_
            refine qm_b_elim h (fun a16 s15 hc h => ?_)
            refine qe_callV1 (st := []) kk_X9_substitute_X9_no (c_X9_no hc) (qs_at tM_0) rfl rfl rfl (Nat.le_of_ble_eq_true rfl) dX9_substitute_84 ?_
            have e : (a16, s15) = o := Option.some.inj h
            subst e
            exact qe_iret dX9_substitute_87 rfl
          · refine qe_aload_n dX9_substitute_69 1 rfl rfl trivial ?_
            refine qs_getR (j := 0) tM_0 rfl fl_RX9_7 dX9_substitute_70 ?_
            refine qe_bipush (v := (nI 38)) dX9_substitute_73 rfl ?_
            refine qe_iload_n dX9_substitute_75 2 rfl rfl ?_
            refine qe_iadd dX9_substitute_76 ?_
            refine qs_ild tM_1 dX9_substitute_77 h (fun a17 h => ?_)
            refine qe_if_ne (tgt := 88) dX9_substitute_78 rfl h (fun _ h => ?_) (fun _ h => ?_)
            · refine qe_aload_n dX9_substitute_88 1 rfl rfl trivial ?_
              refine qe_iload dX9_substitute_89 0 rfl ?_
              refine qe_iload_n dX9_substitute_91 4 rfl rfl ?_
              refine qm_b_elim h (fun a19 s18 hc h => ?_)
              refine qe_callV1 (st := []) kk_X9_substitute_X9_finalOf (c_X9_finalOf hc) (qs_at tM_0) rfl rfl rfl (Nat.le_of_ble_eq_true rfl) dX9_substitute_92 ?_
              refine qe_pop dX9_substitute_95 rfl ?_
              refine qe_aload_n dX9_substitute_96 1 rfl rfl trivial ?_
              refine qs_getR (j := 20) tM_0 rfl fl_RX9_50 dX9_substitute_97 ?_
              refine qe_iload_n dX9_substitute_100 2 rfl rfl ?_
              refine qs_ild tM_14 dX9_substitute_101 h (fun a20 h => ?_)
              refine qe_bipush (v := (-5 : Int32)) dX9_substitute_102 rfl ?_
              refine qe_icmp_ne (tgt := 116) dX9_substitute_104 rfl h (fun _ h => ?_) (fun _ h => ?_)
              · refine qe_aload_n dX9_substitute_116 1 rfl rfl trivial ?_
                refine qs_getR (j := 20) tM_0 rfl fl_RX9_50 dX9_substitute_117 ?_
                refine qe_iload_n dX9_substitute_120 2 rfl rfl ?_
                refine qs_ild tM_14 dX9_substitute_121 h (fun a21 h => ?_)
                have e : (a21, s18) = o := Option.some.inj h
                subst e
                exact qe_iret dX9_substitute_122 rfl
              · refine qe_aload_n dX9_substitute_107 1 rfl rfl trivial ?_
                refine qe_bipush (v := (-5 : Int32)) dX9_substitute_108 rfl ?_
                refine qm_b_elim h (fun a23 s22 hc h => ?_)
                refine qe_callV1 (st := []) kk_X9_substitute_X9_no (c_X9_no hc) (qs_at tM_0) rfl rfl rfl (Nat.le_of_ble_eq_true rfl) dX9_substitute_110 ?_
                refine qe_goto (tgt := 122) dX9_substitute_113 rfl ?_
                have e : (a23, s22) = o := Option.some.inj h
                subst e
                exact qe_iret dX9_substitute_122 rfl
            · refine qe_aload_n dX9_substitute_81 1 rfl rfl trivial ?_
              refine qe_bipush (v := (-3 : Int32)) dX9_substitute_82 rfl ?_
              refine qm_b_elim h (fun a25 s24 hc h => ?_)
              refine qe_callV1 (st := []) kk_X9_substitute_X9_no (c_X9_no hc) (qs_at tM_0) rfl rfl rfl (Nat.le_of_ble_eq_true rfl) dX9_substitute_84 ?_
              have e : (a25, s24) = o := Option.some.inj h
              subst e
              exact qe_iret dX9_substitute_87 rfl
        · refine qe_aload_n dX9_substitute_44 0 rfl rfl trivial ?_
          refine qe_bipush (v := (-2 : Int32)) dX9_substitute_45 rfl ?_
          refine qm_b_elim h (fun a27 s26 hc h => ?_)
          refine qe_callV1 (st := []) kk_X9_substitute_X9_no (c_X9_no hc) (qs_at tM_0) rfl rfl rfl (Nat.le_of_ble_eq_true rfl) dX9_substitute_47 ?_
          have e : (a27, s26) = o := Option.some.inj h
          subst e
          exact qe_iret dX9_substitute_50 rfl
      · refine qe_aload_n dX9_substitute_29 0 rfl rfl trivial ?_
        refine qe_bipush (v := (-7 : Int32)) dX9_substitute_30 rfl ?_
        refine qm_b_elim h (fun a29 s28 hc h => ?_)
        refine qe_callV1 (st := []) kk_X9_substitute_X9_no (c_X9_no hc) (qs_at tM_0) rfl rfl rfl (Nat.le_of_ble_eq_true rfl) dX9_substitute_32 ?_
        have e : (a29, s28) = o := Option.some.inj h
        subst e
        exact qe_iret dX9_substitute_35 rfl
    · refine qe_aload_n dX9_substitute_15 0 rfl rfl trivial ?_
      refine qe_iconst (v := (-1 : Int32)) dX9_substitute_16 rfl ?_
      refine qm_b_elim h (fun a31 s30 hc h => ?_)
      refine qe_callV1 (st := []) kk_X9_substitute_X9_no (c_X9_no hc) (qs_at tM_0) rfl rfl rfl (Nat.le_of_ble_eq_true rfl) dX9_substitute_17 ?_
      have e : (a31, s30) = o := Option.some.inj h
      subst e
      exact qe_iret dX9_substitute_20 rfl

set_option maxRecDepth 20000 in
theorem c_X9_finals_L55 {l : Launch} {G : qe_G} {k102 : Int64 → qe_S → Option (Int64 × qe_S)} {v1 : Int32} {v2 : Int32} {v3 : Int32} (hk102 : ∀ (b13 : Int64) (s : qe_S) (o : Int64 × qe_S), k102 b13 s = some o → qe_J l G MX9_finals 102 [(0, .ref 0), (3, .int v3), (4, .long b13)] [] (qs_w s (qs_TM G)) (some (.long o.1)) (qs_w o.2 (qs_TM G))) : ∀ (n : Nat) (v4 : Int64) (v6 : Int32) (s0 : qe_S) (o : Int64 × qe_S), g_X9_finals_L55 k102 v1 v2 v3 n v4 v6 s0 = some o → qe_J l G MX9_finals 55 [(0, .ref 0), (1, .int v1), (2, .int v2), (3, .int v3), (4, .long v4), (6, .int v6)] [] (qs_w s0 (qs_TM G)) (some (.long o.1)) (qs_w o.2 (qs_TM G)) := by
  intro n
  induction n with
  | zero =>
    intro v4 v6 s0 o h
    rw [g_X9_finals_L55] at h
    cases h
  | succ n ih =>
    intro v4 v6 s0 o h
    rw [g_X9_finals_L55] at h
    refine qe_iload dX9_finals_55 5 rfl ?_
    refine qe_aload_n dX9_finals_57 0 rfl rfl trivial ?_
    refine qs_getI (j := 12) tM_0 rfl fl_RX9_162 dX9_finals_58 ?_
    refine qe_icmp_ge (tgt := 102) dX9_finals_61 rfl h (fun _ h => ?_) (fun _ h => ?_)
    · refine qe_sub [0, 3, 4] rfl ?_
      exact hk102 _ _ _ h
    · refine qm_j_elim h (fun j96 ej96 h => ?_)
      have hj96 : ∀ (b14 : Int64) (s15 : qe_S) (o : Int64 × qe_S), j96 b14 s15 = some o → qe_J l G MX9_finals 96 [(0, .ref 0), (1, .int v1), (2, .int v2), (3, .int v3), (4, .long b14), (6, .int v6)] [] (qs_w s15 (qs_TM G)) (some (.long o.1)) (qs_w o.2 (qs_TM G)) := by
        intro b14 s15 o h
        subst ej96
        refine qe_iincl (lv' := fun a16 => [(6, .int a16), (0, .ref 0), (1, .int v1), (2, .int v2), (3, .int v3), (4, .long b14)]) dX9_finals_96 5 rfl rfl (fun _ => rfl) (Nat.le_of_ble_eq_true rfl) h (fun a16 h => ?_)
        refine qe_goto (tgt := 55) dX9_finals_99 rfl ?_
        refine qe_sub [1, 2, 3, 4, 5, 0] rfl ?_
        exact ih _ _ _ _ h
      refine qe_aload_n dX9_finals_64 0 rfl rfl trivial ?_
      refine qe_aload_n dX9_finals_65 0 rfl rfl trivial ?_
      refine qe_aload_n dX9_finals_66 0 rfl rfl trivial ?_
      refine qs_getR (j := 15) tM_0 rfl fl_RX9_44 dX9_finals_67 ?_
      refine qe_iload dX9_finals_70 5 rfl ?_
      refine qs_ild tM_12 dX9_finals_72 h (fun a17 h => ?_)
      refine qe_iload_n dX9_finals_73 2 rfl rfl ?_
      refine qm_b_elim h (fun a19 s18 hc h => ?_)
      refine qe_callV1 (st := [.ref 0]) kk_X9_finals_X9_finalOf (c_X9_finalOf hc) (qs_at tM_0) rfl rfl rfl (Nat.le_of_ble_eq_true rfl) dX9_finals_74 ?_
      refine qe_iload_n dX9_finals_77 1 rfl rfl ?_
      refine qm_b_elim h (fun a21 s20 hc h => ?_)
      refine qe_callV1 (st := []) kk_X9_finals_X9_has (c_X9_has hc) (qs_at tM_0) rfl rfl rfl (Nat.le_of_ble_eq_true rfl) dX9_finals_78 ?_
      refine qe_if_eq (tgt := 96) dX9_finals_81 rfl h (fun _ h => ?_) (fun _ h => ?_)
      · exact hj96 _ _ _ h
      · refine qe_lload dX9_finals_84 4 rfl ?_
        refine qe_aload_n dX9_finals_86 0 rfl rfl trivial ?_
        refine qs_getR (j := 14) tM_0 rfl fl_RX9_41 dX9_finals_87 ?_
        refine qe_iload dX9_finals_90 5 rfl ?_
        refine qs_lld tM_11 dX9_finals_92 h (fun b22 h => ?_)
        refine qe_ladd dX9_finals_93 ?_
        refine qe_let_l h (fun b23 h => ?_)
        refine qe_lstore (lv' := [(4, .long b23), (0, .ref 0), (1, .int v1), (2, .int v2), (3, .int v3), (6, .int v6)]) dX9_finals_94 rfl (Nat.le_of_ble_eq_true rfl) ?_
        refine qe_sub [1, 2, 3, 4, 0, 5] rfl ?_
        exact hj96 _ _ _ h

set_option maxRecDepth 20000 in
theorem c_X9_finals {l : Launch} {G : qe_G} {v1 : Int32} {v2 : Int32} {v3 : Int32} {s0 : qe_S} {o : Int64 × qe_S} (h : g_X9_finals v1 v2 v3 s0 = some o) : qe_C l G MX9_finals [.ref 0, .int v1, .int v2, .int v3] (qs_w s0 (qs_TM G)) (some (.long o.1)) (qs_w o.2 (qs_TM G)) := by
  refine qe_C.of (by decide +kernel) (Nat.le_of_ble_eq_true rfl) ?_
  show qe_J l G MX9_finals 0 [(0, .ref 0), (1, .int v1), (2, .int v2), (3, .int v3)] [] (qs_w s0 (qs_TM G)) (some (.long o.1)) (qs_w o.2 (qs_TM G))
  unfold g_X9_finals at h
  refine qe_aload_n dX9_finals_0 0 rfl rfl trivial ?_
  refine qe_iload_n dX9_finals_1 1 rfl rfl ?_
  refine qm_b_elim h (fun a2 s1 hc h => ?_)
  refine qe_callV1 (st := []) kk_X9_finals_X9_isUnit (c_X9_isUnit hc) (qs_at tM_0) rfl rfl rfl (Nat.le_of_ble_eq_true rfl) dX9_finals_2 ?_
  refine qe_if_eq (tgt := 15) dX9_finals_5 rfl h (fun _ h => ?_) (fun _ h => ?_)
  · refine qe_aload_n dX9_finals_15 0 rfl rfl trivial ?_
    refine qe_iconst (v := (-1 : Int32)) dX9_finals_16 rfl ?_
    refine qm_b_elim h (fun b4 s3 hc h => ?_)
    refine qe_callV1 (st := []) kk_X9_finals_X9_noLong (c_X9_noLong hc) (qs_at tM_0) rfl rfl rfl (Nat.le_of_ble_eq_true rfl) dX9_finals_17 ?_
    have e : (b4, s3) = o := Option.some.inj h
    subst e
    exact qe_lret dX9_finals_20 rfl
  · refine qe_iload_n dX9_finals_8 2 rfl rfl ?_
    refine qm_b_elim h (fun a6 s5 hc h => ?_)
    refine qe_callS1 (st := []) kk_X9_finals_X9_isManner (c_X9_isManner hc) rfl rfl (Nat.le_of_ble_eq_true rfl) dX9_finals_9 ?_
    refine qe_if_ne (tgt := 21) dX9_finals_12 rfl h (fun _ h => ?_) (fun _ h => ?_)
    · refine qe_iload_n dX9_finals_21 3 rfl rfl ?_
      refine qm_b_elim h (fun a8 s7 hc h => ?_)
      refine qe_callS1 (st := []) kk_X9_finals_X9_isPart (c_X9_isPart hc) rfl rfl (Nat.le_of_ble_eq_true rfl) dX9_finals_22 ?_
      refine qe_if_ne (tgt := 35) dX9_finals_25 rfl h (fun _ h => ?_) (fun _ h => ?_)
      · refine qe_aload_n dX9_finals_35 0 rfl rfl trivial ?_
        refine qm_b_elim h (fun a10 s9 hc h => ?_)
        refine qe_callV1 (st := []) kk_X9_finals_X9_laysRuns (c_X9_laysRuns hc) (qs_at tM_0) rfl rfl rfl (Nat.le_of_ble_eq_true rfl) dX9_finals_36 ?_
        refine qe_if_ne (tgt := 49) dX9_finals_39 rfl h (fun _ h => ?_) (fun _ h => ?_)
        · refine qe_lconst (v := 0) dX9_finals_49 rfl ?_
          refine qe_let_l h (fun b11 h => ?_)
          refine qe_lstore (lv' := [(4, .long b11), (0, .ref 0), (1, .int v1), (2, .int v2), (3, .int v3)]) dX9_finals_50 rfl (Nat.le_of_ble_eq_true rfl) ?_
          refine qe_iconst (v := (0 : Int32)) dX9_finals_52 rfl ?_
          refine qe_let_i h (fun a12 h => ?_)
          refine qe_istore (lv' := [(6, .int a12), (4, .long b11), (0, .ref 0), (1, .int v1), (2, .int v2), (3, .int v3)]) dX9_finals_53 rfl (Nat.le_of_ble_eq_true rfl) ?_
          refine qe_sub [2, 3, 4, 5, 1, 0] rfl ?_
          refine c_X9_finals_L55
            (fun b24 s25 o h => ?_) _ _ _ _ _ h
          refine qe_lload dX9_finals_102 2 rfl ?_
          refine qe_aload_n dX9_finals_104 0 rfl rfl trivial ?_
          refine qs_getL (j := 6) tM_0 rfl fl_RX9_124 dX9_finals_105 ?_
          refine qe_iload_n dX9_finals_108 1 rfl rfl ?_
          refine qm_b_elim h (fun b27 s26 hc h => ?_)
          refine qe_callS1 (st := []) kk_X9_finals_X9_lowest (c_X9_lowest hc) rfl rfl (Nat.le_of_ble_eq_true rfl) dX9_finals_109 ?_
          have e : (b27, s26) = o := Option.some.inj h
          subst e
          exact qe_lret dX9_finals_112 rfl
        · refine qe_aload_n dX9_finals_42 0 rfl rfl trivial ?_
          refine qe_bipush (v := (-7 : Int32)) dX9_finals_43 rfl ?_
          refine qm_b_elim h (fun b29 s28 hc h => ?_)
          refine qe_callV1 (st := []) kk_X9_finals_X9_noLong (c_X9_noLong hc) (qs_at tM_0) rfl rfl rfl (Nat.le_of_ble_eq_true rfl) dX9_finals_45 ?_
          have e : (b29, s28) = o := Option.some.inj h
          subst e
          exact qe_lret dX9_finals_48 rfl
      · refine qe_aload_n dX9_finals_28 0 rfl rfl trivial ?_
        refine qe_bipush (v := (-2 : Int32)) dX9_finals_29 rfl ?_
        refine qm_b_elim h (fun b31 s30 hc h => ?_)
        refine qe_callV1 (st := []) kk_X9_finals_X9_noLong (c_X9_noLong hc) (qs_at tM_0) rfl rfl rfl (Nat.le_of_ble_eq_true rfl) dX9_finals_31 ?_
        have e : (b31, s30) = o := Option.some.inj h
        subst e
        exact qe_lret dX9_finals_34 rfl
    · refine qe_aload_n dX9_finals_15 0 rfl rfl trivial ?_
      refine qe_iconst (v := (-1 : Int32)) dX9_finals_16 rfl ?_
      refine qm_b_elim h (fun b33 s32 hc h => ?_)
      refine qe_callV1 (st := []) kk_X9_finals_X9_noLong (c_X9_noLong hc) (qs_at tM_0) rfl rfl rfl (Nat.le_of_ble_eq_true rfl) dX9_finals_17 ?_
      have e : (b33, s32) = o := Option.some.inj h
      subst e
      exact qe_lret dX9_finals_20 rfl

set_option maxRecDepth 20000 in
theorem c_X9_drawn_L55 {l : Launch} {G : qe_G} {v1 : Int32} {v2 : Int32} : ∀ (n : Nat) (v5 : Int64) (v7 : Int32) (v8 : Int32) (s0 : qe_S) (o : Int32 × qe_S), g_X9_drawn_L55 v1 v2 n v5 v7 v8 s0 = some o → qe_J l G MX9_drawn 55 [(0, .ref 0), (1, .int v1), (2, .int v2), (5, .long v5), (7, .int v7), (8, .int v8)] [] (qs_w s0 (qs_TM G)) (some (.int o.1)) (qs_w o.2 (qs_TM G)) := by
  intro n
  induction n with
  | zero =>
    intro v5 v7 v8 s0 o h
    rw [g_X9_drawn_L55] at h
    cases h
  | succ n ih =>
    intro v5 v7 v8 s0 o h
    rw [g_X9_drawn_L55] at h
    refine qe_iload dX9_drawn_55 5 rfl ?_
    refine qe_iload_n dX9_drawn_57 2 rfl rfl ?_
    refine qe_icmp_ge (tgt := 114) dX9_drawn_58 rfl h (fun _ h => ?_) (fun _ h => ?_)
    · refine qe_iload dX9_drawn_114 4 rfl ?_
      have e : (v7, s0) = o := Option.some.inj h
      subst e
      exact qe_iret dX9_drawn_116 rfl
    · refine qm_j_elim h (fun j108 ej108 h => ?_)
      have hj108 : ∀ (b9 : Int64) (a10 : Int32) (s11 : qe_S) (o : Int32 × qe_S), j108 b9 a10 s11 = some o → qe_J l G MX9_drawn 108 [(0, .ref 0), (1, .int v1), (2, .int v2), (5, .long b9), (7, .int a10), (8, .int v8)] [] (qs_w s11 (qs_TM G)) (some (.int o.1)) (qs_w o.2 (qs_TM G)) := by
        intro b9 a10 s11 o h
        subst ej108
        refine qe_iincl (lv' := fun a12 => [(8, .int a12), (0, .ref 0), (1, .int v1), (2, .int v2), (5, .long b9), (7, .int a10)]) dX9_drawn_108 5 rfl rfl (fun _ => rfl) (Nat.le_of_ble_eq_true rfl) h (fun a12 h => ?_)
        refine qe_goto (tgt := 55) dX9_drawn_111 rfl ?_
        refine qe_sub [1, 2, 3, 4, 5, 0] rfl ?_
        exact ih _ _ _ _ _ h
      refine qe_lload dX9_drawn_61 3 rfl ?_
      refine qe_ldc2 kc_RX9_254 dX9_drawn_63 ?_
      refine qe_lmul dX9_drawn_66 ?_
      refine qe_ldc2 kc_RX9_256 dX9_drawn_67 ?_
      refine qe_ladd dX9_drawn_70 ?_
      refine qe_let_l h (fun b13 h => ?_)
      refine qe_lstore (lv' := [(5, .long b13), (0, .ref 0), (1, .int v1), (2, .int v2), (7, .int v7), (8, .int v8)]) dX9_drawn_71 rfl (Nat.le_of_ble_eq_true rfl) ?_
      refine qe_lload dX9_drawn_73 0 rfl ?_
      refine qe_bipush (v := (nI 33)) dX9_drawn_75 rfl ?_
      refine qe_lushr dX9_drawn_77 ?_
      refine qe_aload_n dX9_drawn_78 1 rfl rfl trivial ?_
      refine qs_getL (j := 6) tM_0 rfl fl_RX9_124 dX9_drawn_79 ?_
      refine qe_lrem dX9_drawn_82 h (fun h => ?_)
      refine qe_aload_n dX9_drawn_83 1 rfl rfl trivial ?_
      refine qs_getR (j := 7) tM_0 rfl fl_RX9_25 dX9_drawn_84 ?_
      refine qe_iload_n dX9_drawn_87 2 rfl rfl ?_
      refine qs_lld tM_6 dX9_drawn_88 h (fun b14 h => ?_)
      refine qe_aload_n dX9_drawn_89 1 rfl rfl trivial ?_
      refine qs_getR (j := 8) tM_0 rfl fl_RX9_29 dX9_drawn_90 ?_
      refine qe_iload_n dX9_drawn_93 2 rfl rfl ?_
      refine qs_lld tM_7 dX9_drawn_94 h (fun b15 h => ?_)
      refine qe_aload_n dX9_drawn_95 1 rfl rfl trivial ?_
      refine qs_getL (j := 6) tM_0 rfl fl_RX9_124 dX9_drawn_96 ?_
      refine qm_b_elim h (fun a17 s16 hc h => ?_)
      refine qe_callS1 (st := []) kk_X9_drawn_X9_isOn (c_X9_isOn hc) rfl rfl (Nat.le_of_ble_eq_true rfl) dX9_drawn_99 ?_
      refine qe_if_eq (tgt := 108) dX9_drawn_102 rfl h (fun _ h => ?_) (fun _ h => ?_)
      · refine qe_sub [1, 2, 3, 0, 4, 5] rfl ?_
        exact hj108 _ _ _ _ h
      · refine qe_iincl (lv' := fun a18 => [(7, .int a18), (5, .long b13), (0, .ref 0), (1, .int v1), (2, .int v2), (8, .int v8)]) dX9_drawn_105 4 rfl rfl (fun _ => rfl) (Nat.le_of_ble_eq_true rfl) h (fun a18 h => ?_)
        refine qe_sub [2, 3, 4, 1, 0, 5] rfl ?_
        exact hj108 _ _ _ _ h

set_option maxRecDepth 20000 in
theorem c_X9_drawn {l : Launch} {G : qe_G} {v1 : Int32} {v2 : Int32} {v3 : Int64} {s0 : qe_S} {o : Int32 × qe_S} (h : g_X9_drawn v1 v2 v3 s0 = some o) : qe_C l G MX9_drawn [.ref 0, .int v1, .int v2, .long v3] (qs_w s0 (qs_TM G)) (some (.int o.1)) (qs_w o.2 (qs_TM G)) := by
  refine qe_C.of (by decide +kernel) (Nat.le_of_ble_eq_true rfl) ?_
  show qe_J l G MX9_drawn 0 [(0, .ref 0), (1, .int v1), (2, .int v2), (3, .long v3)] [] (qs_w s0 (qs_TM G)) (some (.int o.1)) (qs_w o.2 (qs_TM G))
  unfold g_X9_drawn at h
  refine qe_aload_n dX9_drawn_0 0 rfl rfl trivial ?_
  refine qe_iload_n dX9_drawn_1 1 rfl rfl ?_
  refine qm_b_elim h (fun a2 s1 hc h => ?_)
  refine qe_callV1 (st := []) kk_X9_drawn_X9_isUnit (c_X9_isUnit hc) (qs_at tM_0) rfl rfl rfl (Nat.le_of_ble_eq_true rfl) dX9_drawn_2 ?_
  refine qe_if_ne (tgt := 14) dX9_drawn_5 rfl h (fun _ h => ?_) (fun _ h => ?_)
  · refine qe_iload_n dX9_drawn_14 2 rfl rfl ?_
    refine qe_iconst (v := (1 : Int32)) dX9_drawn_15 rfl ?_
    refine qe_bipush (v := (nI 60)) dX9_drawn_16 rfl ?_
    refine qm_b_elim h (fun a4 s3 hc h => ?_)
    refine qe_callS1 (st := []) kk_X9_drawn_X9_within (c_X9_within hc) rfl rfl (Nat.le_of_ble_eq_true rfl) dX9_drawn_18 ?_
    refine qe_if_ne (tgt := 31) dX9_drawn_21 rfl h (fun _ h => ?_) (fun _ h => ?_)
    · refine qe_aload_n dX9_drawn_31 0 rfl rfl trivial ?_
      refine qe_iconst (v := (0 : Int32)) dX9_drawn_32 rfl ?_
      refine qm_b_elim h (fun a6 s5 hc h => ?_)
      refine qe_callV1 (st := []) kk_X9_drawn_X9_lays (c_X9_lays hc) (qs_at tM_0) rfl rfl rfl (Nat.le_of_ble_eq_true rfl) dX9_drawn_33 ?_
      refine qe_if_ne (tgt := 46) dX9_drawn_36 rfl h (fun _ h => ?_) (fun _ h => ?_)
      · refine qe_lload_n dX9_drawn_46 3 rfl rfl ?_
        refine qe_lstore (lv' := [(5, .long v3), (0, .ref 0), (1, .int v1), (2, .int v2), (3, .long v3)]) dX9_drawn_47 rfl (Nat.le_of_ble_eq_true rfl) ?_
        refine qe_iconst (v := (0 : Int32)) dX9_drawn_49 rfl ?_
        refine qe_let_i h (fun a7 h => ?_)
        refine qe_istore (lv' := [(7, .int a7), (5, .long v3), (0, .ref 0), (1, .int v1), (2, .int v2), (3, .long v3)]) dX9_drawn_50 rfl (Nat.le_of_ble_eq_true rfl) ?_
        refine qe_iconst (v := (0 : Int32)) dX9_drawn_52 rfl ?_
        refine qe_let_i h (fun a8 h => ?_)
        refine qe_istore (lv' := [(8, .int a8), (7, .int a7), (5, .long v3), (0, .ref 0), (1, .int v1), (2, .int v2), (3, .long v3)]) dX9_drawn_53 rfl (Nat.le_of_ble_eq_true rfl) ?_
        refine qe_sub [3, 4, 5, 2, 1, 0] rfl ?_
        refine c_X9_drawn_L55 _ _ _ _ _ _ h
      · refine qe_aload_n dX9_drawn_39 0 rfl rfl trivial ?_
        refine qe_bipush (v := (-7 : Int32)) dX9_drawn_40 rfl ?_
        refine qm_b_elim h (fun a20 s19 hc h => ?_)
        refine qe_callV1 (st := []) kk_X9_drawn_X9_no (c_X9_no hc) (qs_at tM_0) rfl rfl rfl (Nat.le_of_ble_eq_true rfl) dX9_drawn_42 ?_
        have e : (a20, s19) = o := Option.some.inj h
        subst e
        exact qe_iret dX9_drawn_45 rfl
    · refine qe_aload_n dX9_drawn_24 0 rfl rfl trivial ?_
      refine qe_bipush (v := (-2 : Int32)) dX9_drawn_25 rfl ?_
      refine qm_b_elim h (fun a22 s21 hc h => ?_)
      refine qe_callV1 (st := []) kk_X9_drawn_X9_no (c_X9_no hc) (qs_at tM_0) rfl rfl rfl (Nat.le_of_ble_eq_true rfl) dX9_drawn_27 ?_
      have e : (a22, s21) = o := Option.some.inj h
      subst e
      exact qe_iret dX9_drawn_30 rfl
  · refine qe_aload_n dX9_drawn_8 0 rfl rfl trivial ?_
    refine qe_iconst (v := (-1 : Int32)) dX9_drawn_9 rfl ?_
    refine qm_b_elim h (fun a24 s23 hc h => ?_)
    refine qe_callV1 (st := []) kk_X9_drawn_X9_no (c_X9_no hc) (qs_at tM_0) rfl rfl rfl (Nat.le_of_ble_eq_true rfl) dX9_drawn_10 ?_
    have e : (a24, s23) = o := Option.some.inj h
    subst e
    exact qe_iret dX9_drawn_13 rfl

set_option maxRecDepth 20000 in
theorem c_X9_feed {l : Launch} {G : qe_G} {v1 : Int32} {s0 : qe_S} {o : Int32 × qe_S} (h : g_X9_feed v1 s0 = some o) : qe_C l G MX9_feed [.ref 0, .int v1] (qs_w s0 (qs_TM G)) (some (.int o.1)) (qs_w o.2 (qs_TM G)) := by
  refine qe_C.of (by decide +kernel) (Nat.le_of_ble_eq_true rfl) ?_
  show qe_J l G MX9_feed 0 [(0, .ref 0), (1, .int v1)] [] (qs_w s0 (qs_TM G)) (some (.int o.1)) (qs_w o.2 (qs_TM G))
  unfold g_X9_feed at h
  refine qe_iload_n dX9_feed_0 1 rfl rfl ?_
  refine qe_iconst (v := (1 : Int32)) dX9_feed_1 rfl ?_
  refine qe_bipush (v := (nI 127)) dX9_feed_2 rfl ?_
  refine qm_b_elim h (fun a2 s1 hc h => ?_)
  refine qe_callS1 (st := []) kk_X9_feed_X9_within (c_X9_within hc) rfl rfl (Nat.le_of_ble_eq_true rfl) dX9_feed_4 ?_
  refine qe_if_ne (tgt := 17) dX9_feed_7 rfl h (fun _ h => ?_) (fun _ h => ?_)
  · refine qe_aload_n dX9_feed_17 0 rfl rfl trivial ?_
    refine qs_getI (j := 21) tM_0 rfl fl_RX9_258 dX9_feed_18 ?_
    refine qe_bipush (v := (nI 120)) dX9_feed_21 rfl ?_
    refine qe_icmp_ne (tgt := 33) dX9_feed_23 rfl h (fun _ h => ?_) (fun _ h => ?_)
    · refine qe_aload_n dX9_feed_33 0 rfl rfl trivial ?_
      refine qs_getR (j := 22) tM_0 rfl fl_RX9_53 dX9_feed_34 ?_
      refine qe_aload_n dX9_feed_37 0 rfl rfl trivial ?_
      refine qe_dup dX9_feed_38 rfl ?_
      refine qs_getI (j := 21) tM_0 rfl fl_RX9_258 dX9_feed_39 ?_
      refine qe_dup_x1 dX9_feed_42 rfl rfl ?_
      refine qe_iconst (v := (1 : Int32)) dX9_feed_43 rfl ?_
      refine qe_iadd dX9_feed_44 ?_
      refine qs_putI (j := 21) tM_0 rfl fp_RX9_258 dX9_feed_45 h (fun s3 h => ?_)
      refine qe_iload_n dX9_feed_48 1 rfl rfl ?_
      refine qs_ist tM_15 dX9_feed_49 h (fun s4 h => ?_)
      refine qe_aload_n dX9_feed_50 0 rfl rfl trivial ?_
      refine qs_getI (j := 21) tM_0 rfl fl_RX9_258 dX9_feed_51 ?_
      have e : ((s4.1 0 21), s4) = o := Option.some.inj h
      subst e
      exact qe_iret dX9_feed_54 rfl
    · refine qe_aload_n dX9_feed_26 0 rfl rfl trivial ?_
      refine qe_bipush (v := (-4 : Int32)) dX9_feed_27 rfl ?_
      refine qm_b_elim h (fun a6 s5 hc h => ?_)
      refine qe_callV1 (st := []) kk_X9_feed_X9_no (c_X9_no hc) (qs_at tM_0) rfl rfl rfl (Nat.le_of_ble_eq_true rfl) dX9_feed_29 ?_
      have e : (a6, s5) = o := Option.some.inj h
      subst e
      exact qe_iret dX9_feed_32 rfl
  · refine qe_aload_n dX9_feed_10 0 rfl rfl trivial ?_
    refine qe_bipush (v := (-2 : Int32)) dX9_feed_11 rfl ?_
    refine qm_b_elim h (fun a8 s7 hc h => ?_)
    refine qe_callV1 (st := []) kk_X9_feed_X9_no (c_X9_no hc) (qs_at tM_0) rfl rfl rfl (Nat.le_of_ble_eq_true rfl) dX9_feed_13 ?_
    have e : (a8, s7) = o := Option.some.inj h
    subst e
    exact qe_iret dX9_feed_16 rfl

set_option maxRecDepth 20000 in
theorem c_X9_wrong {l : Launch} {G : qe_G}  {s0 : qe_S} {o : qe_S} (h : g_X9_wrong  s0 = some o) : qe_C l G MX9_wrong [.ref 0] (qs_w s0 (qs_TM G)) none (qs_w o (qs_TM G)) := by
  refine qe_C.of (by decide +kernel) (Nat.le_of_ble_eq_true rfl) ?_
  show qe_J l G MX9_wrong 0 [(0, .ref 0)] [] (qs_w s0 (qs_TM G)) none (qs_w o (qs_TM G))
  unfold g_X9_wrong at h
  refine qe_aload_n dX9_wrong_0 0 rfl rfl trivial ?_
  refine qs_getI (j := 24) tM_0 rfl fl_RX9_261 dX9_wrong_1 ?_
  refine qe_if_ge (tgt := 15) dX9_wrong_4 rfl h (fun _ h => ?_) (fun _ h => ?_)
  · have e : s0 = o := Option.some.inj h
    subst e
    exact qe_vret dX9_wrong_15 rfl
  · refine qe_aload_n dX9_wrong_7 0 rfl rfl trivial ?_
    refine qe_aload_n dX9_wrong_8 0 rfl rfl trivial ?_
    refine qs_getI (j := 23) tM_0 rfl fl_RX9_264 dX9_wrong_9 ?_
    refine qs_putI (j := 24) tM_0 rfl fp_RX9_261 dX9_wrong_12 h (fun s1 h => ?_)
    have e : s1 = o := Option.some.inj h
    subst e
    exact qe_vret dX9_wrong_15 rfl

set_option maxRecDepth 20000 in
theorem c_X9_isFrom {l : Launch} {G : qe_G} {v1 : Int32} {v2 : Int32} {s0 : qe_S} {o : Int32 × qe_S} (h : g_X9_isFrom v1 v2 s0 = some o) : qe_C l G MX9_isFrom [.ref 0, .int v1, .int v2] (qs_w s0 (qs_TM G)) (some (.int o.1)) (qs_w o.2 (qs_TM G)) := by
  refine qe_C.of (by decide +kernel) (Nat.le_of_ble_eq_true rfl) ?_
  show qe_J l G MX9_isFrom 0 [(0, .ref 0), (1, .int v1), (2, .int v2)] [] (qs_w s0 (qs_TM G)) (some (.int o.1)) (qs_w o.2 (qs_TM G))
  unfold g_X9_isFrom at h
  refine qm_j_elim h (fun j39 ej39 h => ?_)
  have hj39 : ∀  (s1 : qe_S) (o : Int32 × qe_S), j39  s1 = some o → qe_J l G MX9_isFrom 39 [] [] (qs_w s1 (qs_TM G)) (some (.int o.1)) (qs_w o.2 (qs_TM G)) := by
    intro  s1 o h
    subst ej39
    refine qe_iconst (v := (0 : Int32)) dX9_isFrom_39 rfl ?_
    have e : ((0 : Int32), s1) = o := Option.some.inj h
    subst e
    exact qe_nret dX9_isFrom_40 rfl rfl
  refine qe_aload_n dX9_isFrom_0 0 rfl rfl trivial ?_
  refine qs_getI (j := 24) tM_0 rfl fl_RX9_261 dX9_isFrom_1 ?_
  refine qe_if_ge (tgt := 39) dX9_isFrom_4 rfl h (fun _ h => ?_) (fun _ h => ?_)
  · refine qe_sub [] rfl ?_
    exact hj39  _ _ h
  · refine qe_aload_n dX9_isFrom_7 0 rfl rfl trivial ?_
    refine qs_getI (j := 23) tM_0 rfl fl_RX9_264 dX9_isFrom_8 ?_
    refine qe_aload_n dX9_isFrom_11 0 rfl rfl trivial ?_
    refine qs_getI (j := 21) tM_0 rfl fl_RX9_258 dX9_isFrom_12 ?_
    refine qe_icmp_ge (tgt := 39) dX9_isFrom_15 rfl h (fun _ h => ?_) (fun _ h => ?_)
    · refine qe_sub [] rfl ?_
      exact hj39  _ _ h
    · refine qe_aload_n dX9_isFrom_18 0 rfl rfl trivial ?_
      refine qs_getR (j := 22) tM_0 rfl fl_RX9_53 dX9_isFrom_19 ?_
      refine qe_aload_n dX9_isFrom_22 0 rfl rfl trivial ?_
      refine qs_getI (j := 23) tM_0 rfl fl_RX9_264 dX9_isFrom_23 ?_
      refine qs_ild tM_15 dX9_isFrom_26 h (fun a2 h => ?_)
      refine qe_iload_n dX9_isFrom_27 1 rfl rfl ?_
      refine qe_iload_n dX9_isFrom_28 2 rfl rfl ?_
      refine qm_b_elim h (fun a4 s3 hc h => ?_)
      refine qe_callS1 (st := []) kk_X9_isFrom_X9_within (c_X9_within hc) rfl rfl (Nat.le_of_ble_eq_true rfl) dX9_isFrom_29 ?_
      refine qe_if_eq (tgt := 39) dX9_isFrom_32 rfl h (fun _ h => ?_) (fun _ h => ?_)
      · refine qe_sub [] rfl ?_
        exact hj39  _ _ h
      · refine qe_iconst (v := (1 : Int32)) dX9_isFrom_35 rfl ?_
        refine qe_goto (tgt := 40) dX9_isFrom_36 rfl ?_
        have e : ((1 : Int32), s3) = o := Option.some.inj h
        subst e
        exact qe_nret dX9_isFrom_40 rfl rfl

set_option maxRecDepth 20000 in
theorem c_X9_number_L4 {l : Launch} {G : qe_G} {k54 : Int32 → Int32 → qe_S → Option (Int32 × qe_S)} {v1 : Int32} (hk54 : ∀ (a3 : Int32) (a4 : Int32) (s : qe_S) (o : Int32 × qe_S), k54 a3 a4 s = some o → qe_J l G MX9_number 54 [(0, .ref 0), (2, .int a3), (3, .int a4)] [] (qs_w s (qs_TM G)) (some (.int o.1)) (qs_w o.2 (qs_TM G))) : ∀ (n : Nat) (v2 : Int32) (v3 : Int32) (s0 : qe_S) (o : Int32 × qe_S), g_X9_number_L4 k54 v1 n v2 v3 s0 = some o → qe_J l G MX9_number 4 [(0, .ref 0), (1, .int v1), (2, .int v2), (3, .int v3)] [] (qs_w s0 (qs_TM G)) (some (.int o.1)) (qs_w o.2 (qs_TM G)) := by
  intro n
  induction n with
  | zero =>
    intro v2 v3 s0 o h
    rw [g_X9_number_L4] at h
    cases h
  | succ n ih =>
    intro v2 v3 s0 o h
    rw [g_X9_number_L4] at h
    refine qe_iload_n dX9_number_4 3 rfl rfl ?_
    refine qe_iload_n dX9_number_5 1 rfl rfl ?_
    refine qe_icmp_ge (tgt := 54) dX9_number_6 rfl h (fun _ h => ?_) (fun _ h => ?_)
    · refine qe_sub [0, 2, 3] rfl ?_
      exact hk54 _ _ _ _ h
    · refine qe_aload_n dX9_number_9 0 rfl rfl trivial ?_
      refine qe_bipush (v := (nI 48)) dX9_number_10 rfl ?_
      refine qe_bipush (v := (nI 57)) dX9_number_12 rfl ?_
      refine qm_b_elim h (fun a6 s5 hc h => ?_)
      refine qe_callV1 (st := []) kk_X9_number_X9_isFrom (c_X9_isFrom hc) (qs_at tM_0) rfl rfl rfl (Nat.le_of_ble_eq_true rfl) dX9_number_14 ?_
      refine qe_if_eq (tgt := 54) dX9_number_17 rfl h (fun _ h => ?_) (fun _ h => ?_)
      · refine qe_sub [0, 2, 3] rfl ?_
        exact hk54 _ _ _ _ h
      · refine qe_bipush (v := (nI 10)) dX9_number_20 rfl ?_
        refine qe_iload_n dX9_number_22 2 rfl rfl ?_
        refine qe_imul dX9_number_23 ?_
        refine qe_aload_n dX9_number_24 0 rfl rfl trivial ?_
        refine qs_getR (j := 22) tM_0 rfl fl_RX9_53 dX9_number_25 ?_
        refine qe_aload_n dX9_number_28 0 rfl rfl trivial ?_
        refine qs_getI (j := 23) tM_0 rfl fl_RX9_264 dX9_number_29 ?_
        refine qs_ild tM_15 dX9_number_32 h (fun a7 h => ?_)
        refine qe_iadd dX9_number_33 ?_
        refine qe_bipush (v := (nI 48)) dX9_number_34 rfl ?_
        refine qe_isub dX9_number_36 ?_
        refine qe_let_i h (fun a8 h => ?_)
        refine qe_istore_n (lv' := [(2, .int a8), (0, .ref 0), (1, .int v1), (3, .int v3)]) dX9_number_37 rfl rfl (Nat.le_of_ble_eq_true rfl) ?_
        refine qe_aload_n dX9_number_38 1 rfl rfl trivial ?_
        refine qe_dup dX9_number_39 rfl ?_
        refine qs_getI (j := 23) tM_0 rfl fl_RX9_264 dX9_number_40 ?_
        refine qe_iconst (v := (1 : Int32)) dX9_number_43 rfl ?_
        refine qe_iadd dX9_number_44 ?_
        refine qs_putI (j := 23) tM_0 rfl fp_RX9_264 dX9_number_45 h (fun s9 h => ?_)
        refine qe_iincl (lv' := fun a10 => [(3, .int a10), (2, .int a8), (0, .ref 0), (1, .int v1)]) dX9_number_48 3 rfl rfl (fun _ => rfl) (Nat.le_of_ble_eq_true rfl) h (fun a10 h => ?_)
        refine qe_goto (tgt := 4) dX9_number_51 rfl ?_
        refine qe_sub [2, 3, 1, 0] rfl ?_
        exact ih _ _ _ _ h

set_option maxRecDepth 20000 in
theorem c_X9_number {l : Launch} {G : qe_G} {v1 : Int32} {s0 : qe_S} {o : Int32 × qe_S} (h : g_X9_number v1 s0 = some o) : qe_C l G MX9_number [.ref 0, .int v1] (qs_w s0 (qs_TM G)) (some (.int o.1)) (qs_w o.2 (qs_TM G)) := by
  refine qe_C.of (by decide +kernel) (Nat.le_of_ble_eq_true rfl) ?_
  show qe_J l G MX9_number 0 [(0, .ref 0), (1, .int v1)] [] (qs_w s0 (qs_TM G)) (some (.int o.1)) (qs_w o.2 (qs_TM G))
  unfold g_X9_number at h
  refine qe_iconst (v := (0 : Int32)) dX9_number_0 rfl ?_
  refine qe_let_i h (fun a1 h => ?_)
  refine qe_istore_n (lv' := [(2, .int a1), (0, .ref 0), (1, .int v1)]) dX9_number_1 rfl rfl (Nat.le_of_ble_eq_true rfl) ?_
  refine qe_iconst (v := (0 : Int32)) dX9_number_2 rfl ?_
  refine qe_let_i h (fun a2 h => ?_)
  refine qe_istore_n (lv' := [(3, .int a2), (2, .int a1), (0, .ref 0), (1, .int v1)]) dX9_number_3 rfl rfl (Nat.le_of_ble_eq_true rfl) ?_
  refine qe_sub [2, 3, 1, 0] rfl ?_
  refine c_X9_number_L4
    (fun a11 a12 s13 o h => ?_) _ _ _ _ _ h
  refine qe_iload_n dX9_number_54 2 rfl rfl ?_
  refine qe_if_ne (tgt := 62) dX9_number_55 rfl h (fun _ h => ?_) (fun _ h => ?_)
  · refine qe_iload_n dX9_number_62 1 rfl rfl ?_
    have e : (a11, s13) = o := Option.some.inj h
    subst e
    exact qe_iret dX9_number_63 rfl
  · refine qe_aload_n dX9_number_58 0 rfl rfl trivial ?_
    refine qm_o_elim h (fun s14 hc h => ?_)
    refine qe_callV0 (st := []) kk_X9_number_X9_wrong (c_X9_wrong hc) (qs_at tM_0) rfl rfl rfl (Nat.le_of_ble_eq_true rfl) dX9_number_59 ?_
    refine qe_iload_n dX9_number_62 1 rfl rfl ?_
    have e : (a11, s14) = o := Option.some.inj h
    subst e
    exact qe_iret dX9_number_63 rfl

set_option maxRecDepth 20000 in
theorem c_X9_needs {l : Launch} {G : qe_G} {v1 : Int32} {s0 : qe_S} {o : qe_S} (h : g_X9_needs v1 s0 = some o) : qe_C l G MX9_needs [.ref 0, .int v1] (qs_w s0 (qs_TM G)) none (qs_w o (qs_TM G)) := by
  refine qe_C.of (by decide +kernel) (Nat.le_of_ble_eq_true rfl) ?_
  show qe_J l G MX9_needs 0 [(0, .ref 0), (1, .int v1)] [] (qs_w s0 (qs_TM G)) none (qs_w o (qs_TM G))
  unfold g_X9_needs at h
  refine qe_aload_n dX9_needs_0 0 rfl rfl trivial ?_
  refine qe_iload_n dX9_needs_1 1 rfl rfl ?_
  refine qe_iload_n dX9_needs_2 1 rfl rfl ?_
  refine qm_b_elim h (fun a2 s1 hc h => ?_)
  refine qe_callV1 (st := []) kk_X9_needs_X9_isFrom (c_X9_isFrom hc) (qs_at tM_0) rfl rfl rfl (Nat.le_of_ble_eq_true rfl) dX9_needs_3 ?_
  refine qe_if_eq (tgt := 22) dX9_needs_6 rfl h (fun _ h => ?_) (fun _ h => ?_)
  · refine qe_aload_n dX9_needs_22 0 rfl rfl trivial ?_
    refine qm_o_elim h (fun s3 hc h => ?_)
    refine qe_callV0 (st := []) kk_X9_needs_X9_wrong (c_X9_wrong hc) (qs_at tM_0) rfl rfl rfl (Nat.le_of_ble_eq_true rfl) dX9_needs_23 ?_
    have e : s3 = o := Option.some.inj h
    subst e
    exact qe_vret dX9_needs_26 rfl
  · refine qe_aload_n dX9_needs_9 0 rfl rfl trivial ?_
    refine qe_dup dX9_needs_10 rfl ?_
    refine qs_getI (j := 23) tM_0 rfl fl_RX9_264 dX9_needs_11 ?_
    refine qe_iconst (v := (1 : Int32)) dX9_needs_14 rfl ?_
    refine qe_iadd dX9_needs_15 ?_
    refine qs_putI (j := 23) tM_0 rfl fp_RX9_264 dX9_needs_16 h (fun s4 h => ?_)
    refine qe_goto (tgt := 26) dX9_needs_19 rfl ?_
    have e : s4 = o := Option.some.inj h
    subst e
    exact qe_vret dX9_needs_26 rfl

set_option maxRecDepth 20000 in
theorem c_X9_reads {l : Launch} {G : qe_G}  {s0 : qe_S} {o : qe_S} (h : g_X9_reads  s0 = some o) : qe_C l G MX9_reads [.ref 0] (qs_w s0 (qs_TM G)) none (qs_w o (qs_TM G)) := by
  refine qe_C.of (by decide +kernel) (Nat.le_of_ble_eq_true rfl) ?_
  show qe_J l G MX9_reads 0 [(0, .ref 0)] [] (qs_w s0 (qs_TM G)) none (qs_w o (qs_TM G))
  unfold g_X9_reads at h
  refine qm_j_elim h (fun j31 ej31 h => ?_)
  have hj31 : ∀ (a1 : Int32) (q2 : Int32) (s3 : qe_S) (o : qe_S), j31 a1 q2 s3 = some o → qe_J l G MX9_reads 31 [(0, .ref 0), (1, .int a1)] [.int q2] (qs_w s3 (qs_TM G)) none (qs_w o (qs_TM G)) := by
    intro a1 q2 s3 o h
    subst ej31
    refine qm_j_elim h (fun j83 ej83 h => ?_)
    have hj83 : ∀ (a4 : Int32) (s5 : qe_S) (o : qe_S), j83 a4 s5 = some o → qe_J l G MX9_reads 83 [(0, .ref 0), (1, .int a1), (2, .int a4)] [] (qs_w s5 (qs_TM G)) none (qs_w o (qs_TM G)) := by
      intro a4 s5 o h
      subst ej83
      refine qm_j_elim h (fun j112 ej112 h => ?_)
      have hj112 : ∀ (q6 : Int32) (q7 : Int32) (s8 : qe_S) (o : qe_S), j112 q6 q7 s8 = some o → qe_J l G MX9_reads 112 [(0, .ref 0), (1, .int a1), (2, .int a4)] [.int q6, .ref 0, .int q7, .ref 16] (qs_w s8 (qs_TM G)) none (qs_w o (qs_TM G)) := by
        intro q6 q7 s8 o h
        subst ej112
        refine qm_b_elim h (fun a10 s9 hc h => ?_)
        refine qe_callV1 (st := [.int q7, .ref 16]) kk_X9_reads_X9_number (c_X9_number hc) (qs_at tM_0) rfl rfl rfl (Nat.le_of_ble_eq_true rfl) dX9_reads_112 ?_
        refine qs_ist tM_16 dX9_reads_115 h (fun s11 h => ?_)
        refine qe_iload_n dX9_reads_116 2 rfl rfl ?_
        refine qe_bipush (v := (nI 111)) dX9_reads_117 rfl ?_
        refine qe_icmp_eq (tgt := 128) dX9_reads_119 rfl h (fun _ h => ?_) (fun _ h => ?_)
        · have e : s11 = o := Option.some.inj h
          subst e
          exact qe_vret dX9_reads_128 rfl
        · refine qe_iload_n dX9_reads_122 2 rfl rfl ?_
          refine qe_bipush (v := (nI 114)) dX9_reads_123 rfl ?_
          refine qe_icmp_ne (tgt := 129) dX9_reads_125 rfl h (fun _ h => ?_) (fun _ h => ?_)
          · refine qm_j_elim h (fun j143 ej143 h => ?_)
            have hj143 : ∀ (q12 : Int32) (s13 : qe_S) (o : qe_S), j143 q12 s13 = some o → qe_J l G MX9_reads 143 [(0, .ref 0), (1, .int a1), (2, .int a4)] [.int q12, .ref 0] (qs_w s13 (qs_TM G)) none (qs_w o (qs_TM G)) := by
              intro q12 s13 o h
              subst ej143
              refine qm_o_elim h (fun s14 hc h => ?_)
              refine qe_callV0 (st := []) kk_X9_reads_X9_needs (c_X9_needs hc) (qs_at tM_0) rfl rfl rfl (Nat.le_of_ble_eq_true rfl) dX9_reads_143 ?_
              refine qe_aload_n dX9_reads_146 0 rfl rfl trivial ?_
              refine qs_getR (j := 26) tM_0 rfl fl_RX9_56 dX9_reads_147 ?_
              refine qe_iload_n dX9_reads_150 1 rfl rfl ?_
              refine qe_iconst (v := (nI 2)) dX9_reads_151 rfl ?_
              refine qe_iadd dX9_reads_152 ?_
              refine qe_aload_n dX9_reads_153 0 rfl rfl trivial ?_
              refine qe_iconst (v := (nI 2)) dX9_reads_154 rfl ?_
              refine qm_b_elim h (fun a16 s15 hc h => ?_)
              refine qe_callV1 (st := [.int (a1 + (nI 2)), .ref 16]) kk_X9_reads_X9_number (c_X9_number hc) (qs_at tM_0) rfl rfl rfl (Nat.le_of_ble_eq_true rfl) dX9_reads_155 ?_
              refine qs_ist tM_16 dX9_reads_158 h (fun s17 h => ?_)
              refine qe_iload_n dX9_reads_159 2 rfl rfl ?_
              refine qe_bipush (v := (nI 120)) dX9_reads_160 rfl ?_
              refine qe_icmp_ne (tgt := 166) dX9_reads_162 rfl h (fun _ h => ?_) (fun _ h => ?_)
              · refine qm_j_elim h (fun j180 ej180 h => ?_)
                have hj180 : ∀ (q18 : Int32) (s19 : qe_S) (o : qe_S), j180 q18 s19 = some o → qe_J l G MX9_reads 180 [(0, .ref 0), (1, .int a1), (2, .int a4)] [.int q18, .ref 0] (qs_w s19 (qs_TM G)) none (qs_w o (qs_TM G)) := by
                  intro q18 s19 o h
                  subst ej180
                  refine qm_j_elim h (fun j202 ej202 h => ?_)
                  have hj202 : ∀ (q20 : Int32) (q21 : Int32) (s22 : qe_S) (o : qe_S), j202 q20 q21 s22 = some o → qe_J l G MX9_reads 202 [(0, .ref 0), (1, .int a1), (2, .int a4)] [.int q20, .ref 0, .int q21, .ref 16] (qs_w s22 (qs_TM G)) none (qs_w o (qs_TM G)) := by
                    intro q20 q21 s22 o h
                    subst ej202
                    refine qm_b_elim h (fun a24 s23 hc h => ?_)
                    refine qe_callV1 (st := [.int q21, .ref 16]) kk_X9_reads_X9_number (c_X9_number hc) (qs_at tM_0) rfl rfl rfl (Nat.le_of_ble_eq_true rfl) dX9_reads_202 ?_
                    refine qs_ist tM_16 dX9_reads_205 h (fun s25 h => ?_)
                    refine qe_iload_n dX9_reads_206 2 rfl rfl ?_
                    refine qe_bipush (v := (nI 117)) dX9_reads_207 rfl ?_
                    refine qe_icmp_eq (tgt := 213) dX9_reads_209 rfl h (fun _ h => ?_) (fun _ h => ?_)
                    · refine qm_j_elim h (fun j242 ej242 h => ?_)
                      have hj242 : ∀ (a26 : Int32) (s27 : qe_S) (o : qe_S), j242 a26 s27 = some o → qe_J l G MX9_reads 242 [(0, .ref 0), (1, .int a1), (3, .int a26)] [] (qs_w s27 (qs_TM G)) none (qs_w o (qs_TM G)) := by
                        intro a26 s27 o h
                        subst ej242
                        refine qe_aload_n dX9_reads_242 0 rfl rfl trivial ?_
                        refine qe_iconst (v := (nI 2)) dX9_reads_243 rfl ?_
                        refine qm_b_elim h (fun a29 s28 hc h => ?_)
                        refine qe_callV1 (st := []) kk_X9_reads_X9_number (c_X9_number hc) (qs_at tM_0) rfl rfl rfl (Nat.le_of_ble_eq_true rfl) dX9_reads_244 ?_
                        refine qe_istore (lv' := [(4, .int a29), (0, .ref 0), (1, .int a1), (3, .int a26)]) dX9_reads_247 rfl (Nat.le_of_ble_eq_true rfl) ?_
                        refine qe_aload_n dX9_reads_249 1 rfl rfl trivial ?_
                        refine qs_getR (j := 26) tM_0 rfl fl_RX9_56 dX9_reads_250 ?_
                        refine qe_iload_n dX9_reads_253 2 rfl rfl ?_
                        refine qe_iconst (v := (nI 4)) dX9_reads_254 rfl ?_
                        refine qe_iadd dX9_reads_255 ?_
                        refine qe_iload_n dX9_reads_256 3 rfl rfl ?_
                        refine qe_if_eq (tgt := 266) dX9_reads_257 rfl h (fun _ h => ?_) (fun _ h => ?_)
                        · refine qe_iload dX9_reads_266 0 rfl ?_
                          refine qs_ist tM_16 dX9_reads_268 h (fun s30 h => ?_)
                          have e : s30 = o := Option.some.inj h
                          subst e
                          exact qe_vret dX9_reads_269 rfl
                        · refine qe_iload dX9_reads_260 0 rfl ?_
                          refine qe_ineg dX9_reads_262 ?_
                          refine qe_goto (tgt := 268) dX9_reads_263 rfl ?_
                          refine qs_ist tM_16 dX9_reads_268 h (fun s31 h => ?_)
                          have e : s31 = o := Option.some.inj h
                          subst e
                          exact qe_vret dX9_reads_269 rfl
                      refine qe_aload_n dX9_reads_213 0 rfl rfl trivial ?_
                      refine qe_bipush (v := (nI 44)) dX9_reads_214 rfl ?_
                      refine qm_o_elim h (fun s32 hc h => ?_)
                      refine qe_callV0 (st := []) kk_X9_reads_X9_needs (c_X9_needs hc) (qs_at tM_0) rfl rfl rfl (Nat.le_of_ble_eq_true rfl) dX9_reads_216 ?_
                      refine qe_aload_n dX9_reads_219 0 rfl rfl trivial ?_
                      refine qe_bipush (v := (nI 45)) dX9_reads_220 rfl ?_
                      refine qe_bipush (v := (nI 45)) dX9_reads_222 rfl ?_
                      refine qm_b_elim h (fun a34 s33 hc h => ?_)
                      refine qe_callV1 (st := []) kk_X9_reads_X9_isFrom (c_X9_isFrom hc) (qs_at tM_0) rfl rfl rfl (Nat.le_of_ble_eq_true rfl) dX9_reads_224 ?_
                      refine qe_istore_n (lv' := [(3, .int a34), (0, .ref 0), (1, .int a1), (2, .int a4)]) dX9_reads_227 rfl rfl (Nat.le_of_ble_eq_true rfl) ?_
                      refine qe_iload_n dX9_reads_228 0 rfl rfl ?_
                      refine qe_if_eq (tgt := 242) dX9_reads_229 rfl h (fun _ h => ?_) (fun _ h => ?_)
                      · refine qe_sub [1, 2, 0] rfl ?_
                        exact hj242 _ _ _ h
                      · refine qe_aload_n dX9_reads_232 1 rfl rfl trivial ?_
                        refine qe_dup dX9_reads_233 rfl ?_
                        refine qs_getI (j := 23) tM_0 rfl fl_RX9_264 dX9_reads_234 ?_
                        refine qe_iconst (v := (1 : Int32)) dX9_reads_237 rfl ?_
                        refine qe_iadd dX9_reads_238 ?_
                        refine qs_putI (j := 23) tM_0 rfl fp_RX9_264 dX9_reads_239 h (fun s35 h => ?_)
                        refine qe_sub [1, 2, 0] rfl ?_
                        exact hj242 _ _ _ h
                    · have e : s25 = o := Option.some.inj h
                      subst e
                      exact qe_vret dX9_reads_212 rfl
                  refine qm_o_elim h (fun s36 hc h => ?_)
                  refine qe_callV0 (st := []) kk_X9_reads_X9_needs (c_X9_needs hc) (qs_at tM_0) rfl rfl rfl (Nat.le_of_ble_eq_true rfl) dX9_reads_180 ?_
                  refine qe_aload_n dX9_reads_183 0 rfl rfl trivial ?_
                  refine qs_getR (j := 26) tM_0 rfl fl_RX9_56 dX9_reads_184 ?_
                  refine qe_iload_n dX9_reads_187 1 rfl rfl ?_
                  refine qe_iconst (v := (nI 3)) dX9_reads_188 rfl ?_
                  refine qe_iadd dX9_reads_189 ?_
                  refine qe_aload_n dX9_reads_190 0 rfl rfl trivial ?_
                  refine qe_iload_n dX9_reads_191 2 rfl rfl ?_
                  refine qe_bipush (v := (nI 117)) dX9_reads_192 rfl ?_
                  refine qe_icmp_ne (tgt := 201) dX9_reads_194 rfl h (fun _ h => ?_) (fun _ h => ?_)
                  · refine qe_iconst (v := (nI 2)) dX9_reads_201 rfl ?_
                    exact hj202 _ _ _ _ h
                  · refine qe_iconst (v := (1 : Int32)) dX9_reads_197 rfl ?_
                    refine qe_goto (tgt := 202) dX9_reads_198 rfl ?_
                    exact hj202 _ _ _ _ h
                refine qe_aload_n dX9_reads_166 0 rfl rfl trivial ?_
                refine qe_iload_n dX9_reads_167 2 rfl rfl ?_
                refine qe_bipush (v := (nI 117)) dX9_reads_168 rfl ?_
                refine qe_icmp_ne (tgt := 178) dX9_reads_170 rfl h (fun _ h => ?_) (fun _ h => ?_)
                · refine qe_bipush (v := (nI 47)) dX9_reads_178 rfl ?_
                  exact hj180 _ _ _ h
                · refine qe_bipush (v := (nI 44)) dX9_reads_173 rfl ?_
                  refine qe_goto (tgt := 180) dX9_reads_175 rfl ?_
                  exact hj180 _ _ _ h
              · have e : s17 = o := Option.some.inj h
                subst e
                exact qe_vret dX9_reads_165 rfl
            refine qe_aload_n dX9_reads_129 0 rfl rfl trivial ?_
            refine qe_iload_n dX9_reads_130 2 rfl rfl ?_
            refine qe_bipush (v := (nI 117)) dX9_reads_131 rfl ?_
            refine qe_icmp_ne (tgt := 141) dX9_reads_133 rfl h (fun _ h => ?_) (fun _ h => ?_)
            · refine qe_bipush (v := (nI 44)) dX9_reads_141 rfl ?_
              exact hj143 _ _ _ h
            · refine qe_bipush (v := (nI 47)) dX9_reads_136 rfl ?_
              refine qe_goto (tgt := 143) dX9_reads_138 rfl ?_
              exact hj143 _ _ _ h
          · have e : s11 = o := Option.some.inj h
            subst e
            exact qe_vret dX9_reads_128 rfl
      refine qe_aload_n dX9_reads_83 0 rfl rfl trivial ?_
      refine qe_dup dX9_reads_84 rfl ?_
      refine qs_getI (j := 23) tM_0 rfl fl_RX9_264 dX9_reads_85 ?_
      refine qe_iconst (v := (1 : Int32)) dX9_reads_88 rfl ?_
      refine qe_iadd dX9_reads_89 ?_
      refine qs_putI (j := 23) tM_0 rfl fp_RX9_264 dX9_reads_90 h (fun s37 h => ?_)
      refine qe_aload_n dX9_reads_93 0 rfl rfl trivial ?_
      refine qs_getR (j := 26) tM_0 rfl fl_RX9_56 dX9_reads_94 ?_
      refine qe_iload_n dX9_reads_97 1 rfl rfl ?_
      refine qe_iconst (v := (1 : Int32)) dX9_reads_98 rfl ?_
      refine qe_iadd dX9_reads_99 ?_
      refine qe_aload_n dX9_reads_100 0 rfl rfl trivial ?_
      refine qe_iload_n dX9_reads_101 2 rfl rfl ?_
      refine qe_bipush (v := (nI 111)) dX9_reads_102 rfl ?_
      refine qe_icmp_ne (tgt := 111) dX9_reads_104 rfl h (fun _ h => ?_) (fun _ h => ?_)
      · refine qe_iconst (v := (nI 2)) dX9_reads_111 rfl ?_
        exact hj112 _ _ _ _ h
      · refine qe_iconst (v := (1 : Int32)) dX9_reads_107 rfl ?_
        refine qe_goto (tgt := 112) dX9_reads_108 rfl ?_
        exact hj112 _ _ _ _ h
    refine qe_istore_n (lv' := [(2, .int q2), (0, .ref 0), (1, .int a1)]) dX9_reads_31 rfl rfl (Nat.le_of_ble_eq_true rfl) ?_
    refine qe_aload_n dX9_reads_32 1 rfl rfl trivial ?_
    refine qs_getR (j := 26) tM_0 rfl fl_RX9_56 dX9_reads_33 ?_
    refine qe_iload_n dX9_reads_36 2 rfl rfl ?_
    refine qe_aload_n dX9_reads_37 1 rfl rfl trivial ?_
    refine qs_getI (j := 23) tM_0 rfl fl_RX9_264 dX9_reads_38 ?_
    refine qs_ist tM_16 dX9_reads_41 h (fun s38 h => ?_)
    refine qe_iload_n dX9_reads_42 0 rfl rfl ?_
    refine qe_bipush (v := (nI 117)) dX9_reads_43 rfl ?_
    refine qe_icmp_eq (tgt := 83) dX9_reads_45 rfl h (fun _ h => ?_) (fun _ h => ?_)
    · refine qe_sub [1, 2, 0] rfl ?_
      exact hj83 _ _ _ h
    · refine qe_iload_n dX9_reads_48 0 rfl rfl ?_
      refine qe_bipush (v := (nI 115)) dX9_reads_49 rfl ?_
      refine qe_icmp_eq (tgt := 83) dX9_reads_51 rfl h (fun _ h => ?_) (fun _ h => ?_)
      · refine qe_sub [1, 2, 0] rfl ?_
        exact hj83 _ _ _ h
      · refine qe_iload_n dX9_reads_54 0 rfl rfl ?_
        refine qe_bipush (v := (nI 110)) dX9_reads_55 rfl ?_
        refine qe_icmp_eq (tgt := 83) dX9_reads_57 rfl h (fun _ h => ?_) (fun _ h => ?_)
        · refine qe_sub [1, 2, 0] rfl ?_
          exact hj83 _ _ _ h
        · refine qe_iload_n dX9_reads_60 0 rfl rfl ?_
          refine qe_bipush (v := (nI 111)) dX9_reads_61 rfl ?_
          refine qe_icmp_eq (tgt := 83) dX9_reads_63 rfl h (fun _ h => ?_) (fun _ h => ?_)
          · refine qe_sub [1, 2, 0] rfl ?_
            exact hj83 _ _ _ h
          · refine qe_iload_n dX9_reads_66 0 rfl rfl ?_
            refine qe_bipush (v := (nI 114)) dX9_reads_67 rfl ?_
            refine qe_icmp_eq (tgt := 83) dX9_reads_69 rfl h (fun _ h => ?_) (fun _ h => ?_)
            · refine qe_sub [1, 2, 0] rfl ?_
              exact hj83 _ _ _ h
            · refine qe_iload_n dX9_reads_72 0 rfl rfl ?_
              refine qe_bipush (v := (nI 120)) dX9_reads_73 rfl ?_
              refine qe_icmp_eq (tgt := 83) dX9_reads_75 rfl h (fun _ h => ?_) (fun _ h => ?_)
              · refine qe_sub [1, 2, 0] rfl ?_
                exact hj83 _ _ _ h
              · refine qe_aload_n dX9_reads_78 1 rfl rfl trivial ?_
                refine qm_o_elim h (fun s39 hc h => ?_)
                refine qe_callV0 (st := []) kk_X9_reads_X9_wrong (c_X9_wrong hc) (qs_at tM_0) rfl rfl rfl (Nat.le_of_ble_eq_true rfl) dX9_reads_79 ?_
                have e : s39 = o := Option.some.inj h
                subst e
                exact qe_vret dX9_reads_82 rfl
  refine qe_iconst (v := (nI 5)) dX9_reads_0 rfl ?_
  refine qe_aload_n dX9_reads_1 0 rfl rfl trivial ?_
  refine qs_getI (j := 25) tM_0 rfl fl_RX9_273 dX9_reads_2 ?_
  refine qe_imul dX9_reads_5 ?_
  refine qe_let_i h (fun a40 h => ?_)
  refine qe_istore_n (lv' := [(1, .int a40), (0, .ref 0)]) dX9_reads_6 rfl rfl (Nat.le_of_ble_eq_true rfl) ?_
  refine qe_aload_n dX9_reads_7 1 rfl rfl trivial ?_
  refine qs_getI (j := 23) tM_0 rfl fl_RX9_264 dX9_reads_8 ?_
  refine qe_aload_n dX9_reads_11 1 rfl rfl trivial ?_
  refine qs_getI (j := 21) tM_0 rfl fl_RX9_258 dX9_reads_12 ?_
  refine qe_icmp_ge (tgt := 30) dX9_reads_15 rfl h (fun _ h => ?_) (fun _ h => ?_)
  · refine qe_iconst (v := (0 : Int32)) dX9_reads_30 rfl ?_
    refine qe_sub [1, 0] rfl ?_
    exact hj31 _ _ _ _ h
  · refine qe_aload_n dX9_reads_18 1 rfl rfl trivial ?_
    refine qs_getR (j := 22) tM_0 rfl fl_RX9_53 dX9_reads_19 ?_
    refine qe_aload_n dX9_reads_22 1 rfl rfl trivial ?_
    refine qs_getI (j := 23) tM_0 rfl fl_RX9_264 dX9_reads_23 ?_
    refine qs_ild tM_15 dX9_reads_26 h (fun a41 h => ?_)
    refine qe_goto (tgt := 31) dX9_reads_27 rfl ?_
    refine qe_sub [1, 0] rfl ?_
    exact hj31 _ _ _ _ h

set_option maxRecDepth 20000 in
theorem c_X9_pours_L2_1_3 {l : Launch} {G : qe_G} : ∀ (n : Nat) (v2 : Int32) (s0 : qe_S) (o : qe_S), g_X9_pours_L2 1 3 n v2 s0 = some o → qe_J l G MX9_pours 2 [(0, .ref 1), (1, .ref 3), (2, .int v2)] [] (qs_w s0 (qs_TM G)) none (qs_w o (qs_TM G)) := by
  intro n
  induction n with
  | zero =>
    intro v2 s0 o h
    rw [g_X9_pours_L2] at h
    cases h
  | succ n ih =>
    intro v2 s0 o h
    rw [g_X9_pours_L2] at h
    refine qe_iload_n dX9_pours_2 2 rfl rfl ?_
    refine qe_bipush (v := (nI 122)) dX9_pours_3 rfl ?_
    refine qe_icmp_ge (tgt := 20) dX9_pours_5 rfl h (fun _ h => ?_) (fun _ h => ?_)
    · have e : s0 = o := Option.some.inj h
      subst e
      exact qe_vret dX9_pours_20 rfl
    · refine qe_aload_n dX9_pours_8 1 rfl rfl trivial ?_
      refine qe_iload_n dX9_pours_9 2 rfl rfl ?_
      refine qe_aload_n dX9_pours_10 0 rfl rfl trivial ?_
      refine qe_iload_n dX9_pours_11 2 rfl rfl ?_
      refine qs_ild tM_1 dX9_pours_12 h (fun a2 h => ?_)
      refine qs_ist tM_3 dX9_pours_13 h (fun s3 h => ?_)
      refine qe_iincl (lv' := fun a4 => [(2, .int a4), (0, .ref 1), (1, .ref 3)]) dX9_pours_14 2 rfl rfl (fun _ => rfl) (Nat.le_of_ble_eq_true rfl) h (fun a4 h => ?_)
      refine qe_goto (tgt := 2) dX9_pours_17 rfl ?_
      refine qe_sub [1, 2, 0] rfl ?_
      exact ih _ _ _ h

set_option maxRecDepth 20000 in
theorem c_X9_pours_1_3 {l : Launch} {G : qe_G}  {s0 : qe_S} {o : qe_S} (h : g_X9_pours 1 3 s0 = some o) : qe_C l G MX9_pours [.ref 1, .ref 3] (qs_w s0 (qs_TM G)) none (qs_w o (qs_TM G)) := by
  refine qe_C.of (by decide +kernel) (Nat.le_of_ble_eq_true rfl) ?_
  show qe_J l G MX9_pours 0 [(0, .ref 1), (1, .ref 3)] [] (qs_w s0 (qs_TM G)) none (qs_w o (qs_TM G))
  unfold g_X9_pours at h
  refine qe_iconst (v := (0 : Int32)) dX9_pours_0 rfl ?_
  refine qe_let_i h (fun a1 h => ?_)
  refine qe_istore_n (lv' := [(2, .int a1), (0, .ref 1), (1, .ref 3)]) dX9_pours_1 rfl rfl (Nat.le_of_ble_eq_true rfl) ?_
  refine qe_sub [1, 2, 0] rfl ?_
  refine c_X9_pours_L2_1_3 _ _ _ _ h

set_option maxRecDepth 20000 in
theorem c_X9_pours_L2_3_1 {l : Launch} {G : qe_G} : ∀ (n : Nat) (v2 : Int32) (s0 : qe_S) (o : qe_S), g_X9_pours_L2 3 1 n v2 s0 = some o → qe_J l G MX9_pours 2 [(0, .ref 3), (1, .ref 1), (2, .int v2)] [] (qs_w s0 (qs_TM G)) none (qs_w o (qs_TM G)) := by
  intro n
  induction n with
  | zero =>
    intro v2 s0 o h
    rw [g_X9_pours_L2] at h
    cases h
  | succ n ih =>
    intro v2 s0 o h
    rw [g_X9_pours_L2] at h
    refine qe_iload_n dX9_pours_2 2 rfl rfl ?_
    refine qe_bipush (v := (nI 122)) dX9_pours_3 rfl ?_
    refine qe_icmp_ge (tgt := 20) dX9_pours_5 rfl h (fun _ h => ?_) (fun _ h => ?_)
    · have e : s0 = o := Option.some.inj h
      subst e
      exact qe_vret dX9_pours_20 rfl
    · refine qe_aload_n dX9_pours_8 1 rfl rfl trivial ?_
      refine qe_iload_n dX9_pours_9 2 rfl rfl ?_
      refine qe_aload_n dX9_pours_10 0 rfl rfl trivial ?_
      refine qe_iload_n dX9_pours_11 2 rfl rfl ?_
      refine qs_ild tM_3 dX9_pours_12 h (fun a2 h => ?_)
      refine qs_ist tM_1 dX9_pours_13 h (fun s3 h => ?_)
      refine qe_iincl (lv' := fun a4 => [(2, .int a4), (0, .ref 3), (1, .ref 1)]) dX9_pours_14 2 rfl rfl (fun _ => rfl) (Nat.le_of_ble_eq_true rfl) h (fun a4 h => ?_)
      refine qe_goto (tgt := 2) dX9_pours_17 rfl ?_
      refine qe_sub [1, 2, 0] rfl ?_
      exact ih _ _ _ h

set_option maxRecDepth 20000 in
theorem c_X9_pours_3_1 {l : Launch} {G : qe_G}  {s0 : qe_S} {o : qe_S} (h : g_X9_pours 3 1 s0 = some o) : qe_C l G MX9_pours [.ref 3, .ref 1] (qs_w s0 (qs_TM G)) none (qs_w o (qs_TM G)) := by
  refine qe_C.of (by decide +kernel) (Nat.le_of_ble_eq_true rfl) ?_
  show qe_J l G MX9_pours 0 [(0, .ref 3), (1, .ref 1)] [] (qs_w s0 (qs_TM G)) none (qs_w o (qs_TM G))
  unfold g_X9_pours at h
  refine qe_iconst (v := (0 : Int32)) dX9_pours_0 rfl ?_
  refine qe_let_i h (fun a1 h => ?_)
  refine qe_istore_n (lv' := [(2, .int a1), (0, .ref 3), (1, .ref 1)]) dX9_pours_1 rfl rfl (Nat.le_of_ble_eq_true rfl) ?_
  refine qe_sub [1, 2, 0] rfl ?_
  refine c_X9_pours_L2_3_1 _ _ _ _ h

set_option maxRecDepth 20000 in
theorem c_X9_pours_L2_1_2 {l : Launch} {G : qe_G} : ∀ (n : Nat) (v2 : Int32) (s0 : qe_S) (o : qe_S), g_X9_pours_L2 1 2 n v2 s0 = some o → qe_J l G MX9_pours 2 [(0, .ref 1), (1, .ref 2), (2, .int v2)] [] (qs_w s0 (qs_TM G)) none (qs_w o (qs_TM G)) := by
  intro n
  induction n with
  | zero =>
    intro v2 s0 o h
    rw [g_X9_pours_L2] at h
    cases h
  | succ n ih =>
    intro v2 s0 o h
    rw [g_X9_pours_L2] at h
    refine qe_iload_n dX9_pours_2 2 rfl rfl ?_
    refine qe_bipush (v := (nI 122)) dX9_pours_3 rfl ?_
    refine qe_icmp_ge (tgt := 20) dX9_pours_5 rfl h (fun _ h => ?_) (fun _ h => ?_)
    · have e : s0 = o := Option.some.inj h
      subst e
      exact qe_vret dX9_pours_20 rfl
    · refine qe_aload_n dX9_pours_8 1 rfl rfl trivial ?_
      refine qe_iload_n dX9_pours_9 2 rfl rfl ?_
      refine qe_aload_n dX9_pours_10 0 rfl rfl trivial ?_
      refine qe_iload_n dX9_pours_11 2 rfl rfl ?_
      refine qs_ild tM_1 dX9_pours_12 h (fun a2 h => ?_)
      refine qs_ist tM_2 dX9_pours_13 h (fun s3 h => ?_)
      refine qe_iincl (lv' := fun a4 => [(2, .int a4), (0, .ref 1), (1, .ref 2)]) dX9_pours_14 2 rfl rfl (fun _ => rfl) (Nat.le_of_ble_eq_true rfl) h (fun a4 h => ?_)
      refine qe_goto (tgt := 2) dX9_pours_17 rfl ?_
      refine qe_sub [1, 2, 0] rfl ?_
      exact ih _ _ _ h

set_option maxRecDepth 20000 in
theorem c_X9_pours_1_2 {l : Launch} {G : qe_G}  {s0 : qe_S} {o : qe_S} (h : g_X9_pours 1 2 s0 = some o) : qe_C l G MX9_pours [.ref 1, .ref 2] (qs_w s0 (qs_TM G)) none (qs_w o (qs_TM G)) := by
  refine qe_C.of (by decide +kernel) (Nat.le_of_ble_eq_true rfl) ?_
  show qe_J l G MX9_pours 0 [(0, .ref 1), (1, .ref 2)] [] (qs_w s0 (qs_TM G)) none (qs_w o (qs_TM G))
  unfold g_X9_pours at h
  refine qe_iconst (v := (0 : Int32)) dX9_pours_0 rfl ?_
  refine qe_let_i h (fun a1 h => ?_)
  refine qe_istore_n (lv' := [(2, .int a1), (0, .ref 1), (1, .ref 2)]) dX9_pours_1 rfl rfl (Nat.le_of_ble_eq_true rfl) ?_
  refine qe_sub [1, 2, 0] rfl ?_
  refine c_X9_pours_L2_1_2 _ _ _ _ h

set_option maxRecDepth 20000 in
theorem c_X9_pours_L2_2_1 {l : Launch} {G : qe_G} : ∀ (n : Nat) (v2 : Int32) (s0 : qe_S) (o : qe_S), g_X9_pours_L2 2 1 n v2 s0 = some o → qe_J l G MX9_pours 2 [(0, .ref 2), (1, .ref 1), (2, .int v2)] [] (qs_w s0 (qs_TM G)) none (qs_w o (qs_TM G)) := by
  intro n
  induction n with
  | zero =>
    intro v2 s0 o h
    rw [g_X9_pours_L2] at h
    cases h
  | succ n ih =>
    intro v2 s0 o h
    rw [g_X9_pours_L2] at h
    refine qe_iload_n dX9_pours_2 2 rfl rfl ?_
    refine qe_bipush (v := (nI 122)) dX9_pours_3 rfl ?_
    refine qe_icmp_ge (tgt := 20) dX9_pours_5 rfl h (fun _ h => ?_) (fun _ h => ?_)
    · have e : s0 = o := Option.some.inj h
      subst e
      exact qe_vret dX9_pours_20 rfl
    · refine qe_aload_n dX9_pours_8 1 rfl rfl trivial ?_
      refine qe_iload_n dX9_pours_9 2 rfl rfl ?_
      refine qe_aload_n dX9_pours_10 0 rfl rfl trivial ?_
      refine qe_iload_n dX9_pours_11 2 rfl rfl ?_
      refine qs_ild tM_2 dX9_pours_12 h (fun a2 h => ?_)
      refine qs_ist tM_1 dX9_pours_13 h (fun s3 h => ?_)
      refine qe_iincl (lv' := fun a4 => [(2, .int a4), (0, .ref 2), (1, .ref 1)]) dX9_pours_14 2 rfl rfl (fun _ => rfl) (Nat.le_of_ble_eq_true rfl) h (fun a4 h => ?_)
      refine qe_goto (tgt := 2) dX9_pours_17 rfl ?_
      refine qe_sub [1, 2, 0] rfl ?_
      exact ih _ _ _ h

set_option maxRecDepth 20000 in
theorem c_X9_pours_2_1 {l : Launch} {G : qe_G}  {s0 : qe_S} {o : qe_S} (h : g_X9_pours 2 1 s0 = some o) : qe_C l G MX9_pours [.ref 2, .ref 1] (qs_w s0 (qs_TM G)) none (qs_w o (qs_TM G)) := by
  refine qe_C.of (by decide +kernel) (Nat.le_of_ble_eq_true rfl) ?_
  show qe_J l G MX9_pours 0 [(0, .ref 2), (1, .ref 1)] [] (qs_w s0 (qs_TM G)) none (qs_w o (qs_TM G))
  unfold g_X9_pours at h
  refine qe_iconst (v := (0 : Int32)) dX9_pours_0 rfl ?_
  refine qe_let_i h (fun a1 h => ?_)
  refine qe_istore_n (lv' := [(2, .int a1), (0, .ref 2), (1, .ref 1)]) dX9_pours_1 rfl rfl (Nat.le_of_ble_eq_true rfl) ?_
  refine qe_sub [1, 2, 0] rfl ?_
  refine c_X9_pours_L2_2_1 _ _ _ _ h

set_option maxRecDepth 20000 in
theorem c_X9_does {l : Launch} {G : qe_G} {v1 : Int32} {s0 : qe_S} {o : Int32 × qe_S} (h : g_X9_does v1 s0 = some o) : qe_C l G MX9_does [.ref 0, .int v1] (qs_w s0 (qs_TM G)) (some (.int o.1)) (qs_w o.2 (qs_TM G)) := by
  refine qe_C.of (by decide +kernel) (Nat.le_of_ble_eq_true rfl) ?_
  show qe_J l G MX9_does 0 [(0, .ref 0), (1, .int v1)] [] (qs_w s0 (qs_TM G)) (some (.int o.1)) (qs_w o.2 (qs_TM G))
  unfold g_X9_does at h
  refine qm_j_elim h (fun j190 ej190 h => ?_)
  have hj190 : ∀ (a1 : Int32) (s2 : qe_S) (o : Int32 × qe_S), j190 a1 s2 = some o → qe_J l G MX9_does 190 [(0, .ref 0), (3, .int a1)] [] (qs_w s2 (qs_TM G)) (some (.int o.1)) (qs_w o.2 (qs_TM G)) := by
    intro a1 s2 o h
    subst ej190
    refine qe_iload_n dX9_does_190 1 rfl rfl ?_
    refine qe_iconst (v := (nI 5)) dX9_does_191 rfl ?_
    refine qe_icmp_le (tgt := 198) dX9_does_192 rfl h (fun _ h => ?_) (fun _ h => ?_)
    · refine qe_aload_n dX9_does_198 0 rfl rfl trivial ?_
      refine qs_getR (j := 0) tM_0 rfl fl_RX9_7 dX9_does_199 ?_
      refine qe_iconst (v := (1 : Int32)) dX9_does_202 rfl ?_
      refine qe_iload_n dX9_does_203 1 rfl rfl ?_
      refine qs_ist tM_1 dX9_does_204 h (fun s3 h => ?_)
      refine qe_iconst (v := (1 : Int32)) dX9_does_205 rfl ?_
      have e : ((1 : Int32), s3) = o := Option.some.inj h
      subst e
      exact qe_iret dX9_does_206 rfl
    · refine qe_bipush (v := (-2 : Int32)) dX9_does_195 rfl ?_
      have e : ((-2 : Int32), s2) = o := Option.some.inj h
      subst e
      exact qe_iret dX9_does_197 rfl
  refine qe_iconst (v := (nI 5)) dX9_does_0 rfl ?_
  refine qe_iload_n dX9_does_1 1 rfl rfl ?_
  refine qe_imul dX9_does_2 ?_
  refine qe_let_i h (fun a4 h => ?_)
  refine qe_istore_n (lv' := [(2, .int a4), (0, .ref 0), (1, .int v1)]) dX9_does_3 rfl rfl (Nat.le_of_ble_eq_true rfl) ?_
  refine qe_aload_n dX9_does_4 1 rfl rfl trivial ?_
  refine qs_getR (j := 26) tM_0 rfl fl_RX9_56 dX9_does_5 ?_
  refine qe_iload_n dX9_does_8 0 rfl rfl ?_
  refine qe_iconst (v := (1 : Int32)) dX9_does_9 rfl ?_
  refine qe_iadd dX9_does_10 ?_
  refine qs_ild tM_16 dX9_does_11 h (fun a5 h => ?_)
  refine qe_istore_n (lv' := [(3, .int a5), (2, .int a4), (0, .ref 0), (1, .int v1)]) dX9_does_12 rfl rfl (Nat.le_of_ble_eq_true rfl) ?_
  refine qe_aload_n dX9_does_13 2 rfl rfl trivial ?_
  refine qs_getR (j := 26) tM_0 rfl fl_RX9_56 dX9_does_14 ?_
  refine qe_iload_n dX9_does_17 1 rfl rfl ?_
  refine qe_iconst (v := (nI 2)) dX9_does_18 rfl ?_
  refine qe_iadd dX9_does_19 ?_
  refine qs_ild tM_16 dX9_does_20 h (fun a6 h => ?_)
  refine qe_istore (lv' := [(4, .int a6), (3, .int a5), (2, .int a4), (0, .ref 0), (1, .int v1)]) dX9_does_21 rfl (Nat.le_of_ble_eq_true rfl) ?_
  refine qe_aload_n dX9_does_23 3 rfl rfl trivial ?_
  refine qs_getR (j := 22) tM_0 rfl fl_RX9_53 dX9_does_24 ?_
  refine qe_aload_n dX9_does_27 3 rfl rfl trivial ?_
  refine qs_getR (j := 26) tM_0 rfl fl_RX9_56 dX9_does_28 ?_
  refine qe_iload_n dX9_does_31 2 rfl rfl ?_
  refine qs_ild tM_16 dX9_does_32 h (fun a7 h => ?_)
  refine qs_ild tM_15 dX9_does_33 h (fun a8 h => ?_)
  refine qe_tsw_in (v := (nI 110)) (tgt := 133) dX9_does_34 (by decide) (by decide) rfl rfl h (fun h => ?_) (fun c0 h => ?_)
  · refine qe_aload_n dX9_does_133 3 rfl rfl trivial ?_
    refine qe_iload_n dX9_does_134 1 rfl rfl ?_
    refine qe_iconst (v := (nI 2)) dX9_does_135 rfl ?_
    refine qe_iload dX9_does_136 0 rfl ?_
    refine qe_aload_n dX9_does_138 3 rfl rfl trivial ?_
    refine qs_getR (j := 26) tM_0 rfl fl_RX9_56 dX9_does_139 ?_
    refine qe_iload_n dX9_does_142 2 rfl rfl ?_
    refine qe_iconst (v := (nI 3)) dX9_does_143 rfl ?_
    refine qe_iadd dX9_does_144 ?_
    refine qs_ild tM_16 dX9_does_145 h (fun a9 h => ?_)
    refine qm_b_elim h (fun a11 s10 hc h => ?_)
    refine qe_callV1 (st := []) kk_X9_does_X9_becomes (c_X9_becomes hc) (qs_at tM_0) rfl rfl rfl (Nat.le_of_ble_eq_true rfl) dX9_does_146 ?_
    have e : (a11, s10) = o := Option.some.inj h
    subst e
    exact qe_iret dX9_does_149 rfl
  refine qe_tsw_in (v := (nI 114)) (tgt := 158) dX9_does_34 (by decide) (by decide) rfl rfl h (fun h => ?_) (fun c1 h => ?_)
  · refine qe_aload_n dX9_does_158 3 rfl rfl trivial ?_
    refine qe_iload_n dX9_does_159 1 rfl rfl ?_
    refine qm_b_elim h (fun a13 s12 hc h => ?_)
    refine qe_callV1 (st := []) kk_X9_does_X9_isUnit (c_X9_isUnit hc) (qs_at tM_0) rfl rfl rfl (Nat.le_of_ble_eq_true rfl) dX9_does_160 ?_
    refine qe_if_ne (tgt := 168) dX9_does_163 rfl h (fun _ h => ?_) (fun _ h => ?_)
    · refine qe_aload_n dX9_does_168 3 rfl rfl trivial ?_
      refine qs_getR (j := 0) tM_0 rfl fl_RX9_7 dX9_does_169 ?_
      refine qe_bipush (v := (nI 38)) dX9_does_172 rfl ?_
      refine qe_iload_n dX9_does_174 1 rfl rfl ?_
      refine qe_iadd dX9_does_175 ?_
      refine qe_iconst (v := (1 : Int32)) dX9_does_176 rfl ?_
      refine qe_aload_n dX9_does_177 3 rfl rfl trivial ?_
      refine qs_getR (j := 0) tM_0 rfl fl_RX9_7 dX9_does_178 ?_
      refine qe_bipush (v := (nI 38)) dX9_does_181 rfl ?_
      refine qe_iload_n dX9_does_183 1 rfl rfl ?_
      refine qe_iadd dX9_does_184 ?_
      refine qs_ild tM_1 dX9_does_185 h (fun a14 h => ?_)
      refine qe_isub dX9_does_186 ?_
      refine qs_ist tM_1 dX9_does_187 h (fun s15 h => ?_)
      refine qe_iconst (v := (1 : Int32)) dX9_does_188 rfl ?_
      have e : ((1 : Int32), s15) = o := Option.some.inj h
      subst e
      exact qe_iret dX9_does_189 rfl
    · refine qe_iconst (v := (-1 : Int32)) dX9_does_166 rfl ?_
      have e : ((-1 : Int32), s12) = o := Option.some.inj h
      subst e
      exact qe_iret dX9_does_167 rfl
  refine qe_tsw_in (v := (nI 115)) (tgt := 116) dX9_does_34 (by decide) (by decide) rfl rfl h (fun h => ?_) (fun c2 h => ?_)
  · refine qe_aload_n dX9_does_116 3 rfl rfl trivial ?_
    refine qe_iload_n dX9_does_117 1 rfl rfl ?_
    refine qe_iconst (v := (1 : Int32)) dX9_does_118 rfl ?_
    refine qe_iload dX9_does_119 0 rfl ?_
    refine qe_aload_n dX9_does_121 3 rfl rfl trivial ?_
    refine qs_getR (j := 26) tM_0 rfl fl_RX9_56 dX9_does_122 ?_
    refine qe_iload_n dX9_does_125 2 rfl rfl ?_
    refine qe_iconst (v := (nI 3)) dX9_does_126 rfl ?_
    refine qe_iadd dX9_does_127 ?_
    refine qs_ild tM_16 dX9_does_128 h (fun a16 h => ?_)
    refine qm_b_elim h (fun a18 s17 hc h => ?_)
    refine qe_callV1 (st := []) kk_X9_does_X9_becomes (c_X9_becomes hc) (qs_at tM_0) rfl rfl rfl (Nat.le_of_ble_eq_true rfl) dX9_does_129 ?_
    have e : (a18, s17) = o := Option.some.inj h
    subst e
    exact qe_iret dX9_does_132 rfl
  refine qe_tsw_in (v := (nI 117)) (tgt := 92) dX9_does_34 (by decide) (by decide) rfl rfl h (fun h => ?_) (fun c3 h => ?_)
  · refine qe_aload_n dX9_does_92 3 rfl rfl trivial ?_
    refine qe_iload_n dX9_does_93 1 rfl rfl ?_
    refine qe_iload dX9_does_94 0 rfl ?_
    refine qe_aload_n dX9_does_96 3 rfl rfl trivial ?_
    refine qs_getR (j := 26) tM_0 rfl fl_RX9_56 dX9_does_97 ?_
    refine qe_iload_n dX9_does_100 2 rfl rfl ?_
    refine qe_iconst (v := (nI 3)) dX9_does_101 rfl ?_
    refine qe_iadd dX9_does_102 ?_
    refine qs_ild tM_16 dX9_does_103 h (fun a19 h => ?_)
    refine qe_aload_n dX9_does_104 3 rfl rfl trivial ?_
    refine qs_getR (j := 26) tM_0 rfl fl_RX9_56 dX9_does_105 ?_
    refine qe_iload_n dX9_does_108 2 rfl rfl ?_
    refine qe_iconst (v := (nI 4)) dX9_does_109 rfl ?_
    refine qe_iadd dX9_does_110 ?_
    refine qs_ild tM_16 dX9_does_111 h (fun a20 h => ?_)
    refine qm_b_elim h (fun a22 s21 hc h => ?_)
    refine qe_callV1 (st := []) kk_X9_does_X9_comes (c_X9_comes hc) (qs_at tM_0) rfl rfl rfl (Nat.le_of_ble_eq_true rfl) dX9_does_112 ?_
    have e : (a22, s21) = o := Option.some.inj h
    subst e
    exact qe_iret dX9_does_115 rfl
  refine qe_tsw_in (v := (nI 120)) (tgt := 150) dX9_does_34 (by decide) (by decide) rfl rfl h (fun h => ?_) (fun c4 h => ?_)
  · refine qe_aload_n dX9_does_150 3 rfl rfl trivial ?_
    refine qe_iload_n dX9_does_151 1 rfl rfl ?_
    refine qe_iload dX9_does_152 0 rfl ?_
    refine qm_b_elim h (fun a24 s23 hc h => ?_)
    refine qe_callV1 (st := []) kk_X9_does_X9_swaps (c_X9_swaps hc) (qs_at tM_0) rfl rfl rfl (Nat.le_of_ble_eq_true rfl) dX9_does_154 ?_
    have e : (a24, s23) = o := Option.some.inj h
    subst e
    exact qe_iret dX9_does_157 rfl
  refine qe_tsw_rest (tgt := 190) 11 dX9_does_34 (by decide) (by decide) (by decide) (fun i hi => match i, hi with | 0, _ => Or.inr c0 | 1, _ => Or.inl rfl | 2, _ => Or.inl rfl | 3, _ => Or.inl rfl | 4, _ => Or.inr c1 | 5, _ => Or.inr c2 | 6, _ => Or.inl rfl | 7, _ => Or.inr c3 | 8, _ => Or.inl rfl | 9, _ => Or.inl rfl | 10, _ => Or.inr c4 | i + 11, hi => absurd hi (by omega)) rfl ?_
  refine qe_sub [3, 1] rfl ?_
  exact hj190 _ _ _ h

set_option maxRecDepth 20000 in
theorem c_X9_tells_L19 {l : Launch} {G : qe_G} {k57 : qe_S → Option (Int32 × qe_S)} (hk57 : ∀  (s : qe_S) (o : Int32 × qe_S), k57  s = some o → qe_J l G MX9_tells 57 [(0, .ref 0)] [] (qs_w s (qs_TM G)) (some (.int o.1)) (qs_w o.2 (qs_TM G))) : ∀ (n : Nat)  (s0 : qe_S) (o : Int32 × qe_S), g_X9_tells_L19 k57 n  s0 = some o → qe_J l G MX9_tells 19 [(0, .ref 0)] [] (qs_w s0 (qs_TM G)) (some (.int o.1)) (qs_w o.2 (qs_TM G)) := by
  intro n
  induction n with
  | zero =>
    intro  s0 o h
    rw [g_X9_tells_L19] at h
    cases h
  | succ n ih =>
    intro  s0 o h
    rw [g_X9_tells_L19] at h
    refine qe_aload_n dX9_tells_19 0 rfl rfl trivial ?_
    refine qe_bipush (v := (nI 59)) dX9_tells_20 rfl ?_
    refine qe_bipush (v := (nI 59)) dX9_tells_22 rfl ?_
    refine qm_b_elim h (fun a6 s5 hc h => ?_)
    refine qe_callV1 (st := []) kk_X9_tells_X9_isFrom (c_X9_isFrom hc) (qs_at tM_0) rfl rfl rfl (Nat.le_of_ble_eq_true rfl) dX9_tells_24 ?_
    refine qe_if_eq (tgt := 57) dX9_tells_27 rfl h (fun _ h => ?_) (fun _ h => ?_)
    · exact hk57  _ _ h
    · refine qe_aload_n dX9_tells_30 0 rfl rfl trivial ?_
      refine qe_dup dX9_tells_31 rfl ?_
      refine qs_getI (j := 25) tM_0 rfl fl_RX9_273 dX9_tells_32 ?_
      refine qe_iconst (v := (1 : Int32)) dX9_tells_35 rfl ?_
      refine qe_iadd dX9_tells_36 ?_
      refine qs_putI (j := 25) tM_0 rfl fp_RX9_273 dX9_tells_37 h (fun s7 h => ?_)
      refine qe_aload_n dX9_tells_40 0 rfl rfl trivial ?_
      refine qe_dup dX9_tells_41 rfl ?_
      refine qs_getI (j := 23) tM_0 rfl fl_RX9_264 dX9_tells_42 ?_
      refine qe_iconst (v := (1 : Int32)) dX9_tells_45 rfl ?_
      refine qe_iadd dX9_tells_46 ?_
      refine qs_putI (j := 23) tM_0 rfl fp_RX9_264 dX9_tells_47 h (fun s8 h => ?_)
      refine qe_aload_n dX9_tells_50 0 rfl rfl trivial ?_
      refine qm_o_elim h (fun s9 hc h => ?_)
      refine qe_callV0 (st := []) kk_X9_tells_X9_reads (c_X9_reads hc) (qs_at tM_0) rfl rfl rfl (Nat.le_of_ble_eq_true rfl) dX9_tells_51 ?_
      refine qe_goto (tgt := 19) dX9_tells_54 rfl ?_
      exact ih  _ _ h

set_option maxRecDepth 20000 in
theorem c_X9_tells_L126 {l : Launch} {G : qe_G} {k184 : qe_S → Option (Int32 × qe_S)} {k147 : Int32 → Int32 → qe_S → Option (Int32 × qe_S)} (hk184 : ∀  (s : qe_S) (o : Int32 × qe_S), k184  s = some o → qe_J l G MX9_tells 184 [(0, .ref 0)] [] (qs_w s (qs_TM G)) (some (.int o.1)) (qs_w o.2 (qs_TM G))) (hk147 : ∀ (a16 : Int32) (a17 : Int32) (s : qe_S) (o : Int32 × qe_S), k147 a16 a17 s = some o → qe_J l G MX9_tells 147 [(0, .ref 0), (1, .int a16), (2, .int a17)] [] (qs_w s (qs_TM G)) (some (.int o.1)) (qs_w o.2 (qs_TM G))) : ∀ (n : Nat) (v1 : Int32) (s0 : qe_S) (o : Int32 × qe_S), g_X9_tells_L126 k184 k147 n v1 s0 = some o → qe_J l G MX9_tells 126 [(0, .ref 0), (1, .int v1)] [] (qs_w s0 (qs_TM G)) (some (.int o.1)) (qs_w o.2 (qs_TM G)) := by
  intro n
  induction n with
  | zero =>
    intro v1 s0 o h
    rw [g_X9_tells_L126] at h
    cases h
  | succ n ih =>
    intro v1 s0 o h
    rw [g_X9_tells_L126] at h
    refine qe_iload_n dX9_tells_126 1 rfl rfl ?_
    refine qe_aload_n dX9_tells_127 0 rfl rfl trivial ?_
    refine qs_getI (j := 25) tM_0 rfl fl_RX9_273 dX9_tells_128 ?_
    refine qe_icmp_ge (tgt := 184) dX9_tells_131 rfl h (fun _ h => ?_) (fun _ h => ?_)
    · refine qe_sub [0] rfl ?_
      exact hk184  _ _ h
    · refine qe_aload_n dX9_tells_134 0 rfl rfl trivial ?_
      refine qe_iload_n dX9_tells_135 1 rfl rfl ?_
      refine qm_b_elim h (fun a19 s18 hc h => ?_)
      refine qe_callV1 (st := []) kk_X9_tells_X9_does (c_X9_does hc) (qs_at tM_0) rfl rfl rfl (Nat.le_of_ble_eq_true rfl) dX9_tells_136 ?_
      refine qe_istore_n (lv' := [(2, .int a19), (0, .ref 0), (1, .int v1)]) dX9_tells_139 rfl rfl (Nat.le_of_ble_eq_true rfl) ?_
      refine qe_iload_n dX9_tells_140 0 rfl rfl ?_
      refine qe_if_lt (tgt := 147) dX9_tells_141 rfl h (fun _ h => ?_) (fun _ h => ?_)
      · refine qe_sub [1, 2, 0] rfl ?_
        exact hk147 _ _ _ _ h
      · refine qe_goto (tgt := 178) dX9_tells_144 rfl ?_
        refine qe_iincl (lv' := fun a20 => [(1, .int a20), (2, .int a19), (0, .ref 0)]) dX9_tells_178 2 rfl rfl (fun _ => rfl) (Nat.le_of_ble_eq_true rfl) h (fun a20 h => ?_)
        refine qe_goto (tgt := 126) dX9_tells_181 rfl ?_
        refine qe_sub [2, 0] rfl ?_
        exact ih _ _ _ h

set_option maxRecDepth 20000 in
theorem c_X9_tells {l : Launch} {G : qe_G}  {s0 : qe_S} {o : Int32 × qe_S} (h : g_X9_tells  s0 = some o) : qe_C l G MX9_tells [.ref 0] (qs_w s0 (qs_TM G)) (some (.int o.1)) (qs_w o.2 (qs_TM G)) := by
  refine qe_C.of (by decide +kernel) (Nat.le_of_ble_eq_true rfl) ?_
  show qe_J l G MX9_tells 0 [(0, .ref 0)] [] (qs_w s0 (qs_TM G)) (some (.int o.1)) (qs_w o.2 (qs_TM G))
  unfold g_X9_tells at h
  refine qe_aload_n dX9_tells_0 0 rfl rfl trivial ?_
  refine qe_iconst (v := (0 : Int32)) dX9_tells_1 rfl ?_
  refine qs_putI (j := 23) tM_0 rfl fp_RX9_264 dX9_tells_2 h (fun s1 h => ?_)
  refine qe_aload_n dX9_tells_5 0 rfl rfl trivial ?_
  refine qe_iconst (v := (-1 : Int32)) dX9_tells_6 rfl ?_
  refine qs_putI (j := 24) tM_0 rfl fp_RX9_261 dX9_tells_7 h (fun s2 h => ?_)
  refine qe_aload_n dX9_tells_10 0 rfl rfl trivial ?_
  refine qe_iconst (v := (0 : Int32)) dX9_tells_11 rfl ?_
  refine qs_putI (j := 25) tM_0 rfl fp_RX9_273 dX9_tells_12 h (fun s3 h => ?_)
  refine qe_aload_n dX9_tells_15 0 rfl rfl trivial ?_
  refine qm_o_elim h (fun s4 hc h => ?_)
  refine qe_callV0 (st := []) kk_X9_tells_X9_reads (c_X9_reads hc) (qs_at tM_0) rfl rfl rfl (Nat.le_of_ble_eq_true rfl) dX9_tells_16 ?_
  refine c_X9_tells_L19
    (fun  s10 o h => ?_) _ _ _ h
  refine qm_j_elim h (fun j79 ej79 h => ?_)
  have hj79 : ∀  (s11 : qe_S) (o : Int32 × qe_S), j79  s11 = some o → qe_J l G MX9_tells 79 [(0, .ref 0)] [] (qs_w s11 (qs_TM G)) (some (.int o.1)) (qs_w o.2 (qs_TM G)) := by
    intro  s11 o h
    subst ej79
    refine qe_aload_n dX9_tells_79 0 rfl rfl trivial ?_
    refine qe_dup dX9_tells_80 rfl ?_
    refine qs_getI (j := 25) tM_0 rfl fl_RX9_273 dX9_tells_81 ?_
    refine qe_iconst (v := (1 : Int32)) dX9_tells_84 rfl ?_
    refine qe_iadd dX9_tells_85 ?_
    refine qs_putI (j := 25) tM_0 rfl fp_RX9_273 dX9_tells_86 h (fun s12 h => ?_)
    refine qe_aload_n dX9_tells_89 0 rfl rfl trivial ?_
    refine qe_iconst (v := (0 : Int32)) dX9_tells_90 rfl ?_
    refine qs_putI (j := 21) tM_0 rfl fp_RX9_258 dX9_tells_91 h (fun s13 h => ?_)
    refine qe_aload_n dX9_tells_94 0 rfl rfl trivial ?_
    refine qs_getI (j := 24) tM_0 rfl fl_RX9_261 dX9_tells_95 ?_
    refine qe_if_lt (tgt := 113) dX9_tells_98 rfl h (fun _ h => ?_) (fun _ h => ?_)
    · refine qe_aload_n dX9_tells_113 0 rfl rfl trivial ?_
      refine qs_getR (j := 0) tM_0 rfl fl_RX9_7 dX9_tells_114 ?_
      refine qe_aload_n dX9_tells_117 0 rfl rfl trivial ?_
      refine qs_getR (j := 2) tM_0 rfl fl_RX9_16 dX9_tells_118 ?_
      refine qm_o_elim h (fun s14 hc h => ?_)
      refine qe_callS0 (st := []) kk_X9_tells_X9_pours (c_X9_pours_1_3 hc) rfl rfl (Nat.le_of_ble_eq_true rfl) dX9_tells_121 ?_
      refine qe_iconst (v := (0 : Int32)) dX9_tells_124 rfl ?_
      refine qe_let_i h (fun a15 h => ?_)
      refine qe_istore_n (lv' := [(1, .int a15), (0, .ref 0)]) dX9_tells_125 rfl rfl (Nat.le_of_ble_eq_true rfl) ?_
      refine qe_sub [1, 0] rfl ?_
      refine c_X9_tells_L126
        (fun  s21 o h => ?_)
        (fun a27 a28 s29 o h => ?_) _ _ _ _ h
      · refine qe_aload_n dX9_tells_184 0 rfl rfl trivial ?_
        refine qe_iconst (v := (0 : Int32)) dX9_tells_185 rfl ?_
        refine qm_b_elim h (fun a23 s22 hc h => ?_)
        refine qe_callV1 (st := []) kk_X9_tells_X9_lays (c_X9_lays hc) (qs_at tM_0) rfl rfl rfl (Nat.le_of_ble_eq_true rfl) dX9_tells_186 ?_
        refine qe_if_eq (tgt := 197) dX9_tells_189 rfl h (fun _ h => ?_) (fun _ h => ?_)
        · refine qe_aload_n dX9_tells_197 0 rfl rfl trivial ?_
          refine qs_getR (j := 2) tM_0 rfl fl_RX9_16 dX9_tells_198 ?_
          refine qe_aload_n dX9_tells_201 0 rfl rfl trivial ?_
          refine qs_getR (j := 0) tM_0 rfl fl_RX9_7 dX9_tells_202 ?_
          refine qm_o_elim h (fun s24 hc h => ?_)
          refine qe_callS0 (st := []) kk_X9_tells_X9_pours (c_X9_pours_3_1 hc) rfl rfl (Nat.le_of_ble_eq_true rfl) dX9_tells_205 ?_
          refine qe_aload_n dX9_tells_208 0 rfl rfl trivial ?_
          refine qe_bipush (v := (-7 : Int32)) dX9_tells_209 rfl ?_
          refine qe_iconst (v := (nI 2)) dX9_tells_211 rfl ?_
          refine qe_bipush (v := (-7 : Int32)) dX9_tells_212 rfl ?_
          refine qe_bipush (v := (-9 : Int32)) dX9_tells_214 rfl ?_
          refine qm_b_elim h (fun a26 s25 hc h => ?_)
          refine qe_callV1 (st := []) kk_X9_tells_X9_refused (c_X9_refused hc) (qs_at tM_0) rfl rfl rfl (Nat.le_of_ble_eq_true rfl) dX9_tells_216 ?_
          have e : (a26, s25) = o := Option.some.inj h
          subst e
          exact qe_iret dX9_tells_219 rfl
        · refine qe_aload_n dX9_tells_192 0 rfl rfl trivial ?_
          refine qs_getI (j := 25) tM_0 rfl fl_RX9_273 dX9_tells_193 ?_
          have e : ((s22.1 0 25), s22) = o := Option.some.inj h
          subst e
          exact qe_iret dX9_tells_196 rfl
      · refine qe_aload_n dX9_tells_147 0 rfl rfl trivial ?_
        refine qs_getR (j := 2) tM_0 rfl fl_RX9_16 dX9_tells_148 ?_
        refine qe_aload_n dX9_tells_151 0 rfl rfl trivial ?_
        refine qs_getR (j := 0) tM_0 rfl fl_RX9_7 dX9_tells_152 ?_
        refine qm_o_elim h (fun s30 hc h => ?_)
        refine qe_callS0 (st := []) kk_X9_tells_X9_pours (c_X9_pours_3_1 hc) rfl rfl (Nat.le_of_ble_eq_true rfl) dX9_tells_155 ?_
        refine qe_aload_n dX9_tells_158 0 rfl rfl trivial ?_
        refine qe_sipush (v := (-300 : Int32)) dX9_tells_159 rfl ?_
        refine qe_aload_n dX9_tells_162 0 rfl rfl trivial ?_
        refine qs_getR (j := 26) tM_0 rfl fl_RX9_56 dX9_tells_163 ?_
        refine qe_iconst (v := (nI 5)) dX9_tells_166 rfl ?_
        refine qe_iload_n dX9_tells_167 1 rfl rfl ?_
        refine qe_imul dX9_tells_168 ?_
        refine qs_ild tM_16 dX9_tells_169 h (fun a31 h => ?_)
        refine qe_isub dX9_tells_170 ?_
        refine qe_iconst (v := (1 : Int32)) dX9_tells_171 rfl ?_
        refine qe_iload_n dX9_tells_172 2 rfl rfl ?_
        refine qe_iload_n dX9_tells_173 2 rfl rfl ?_
        refine qm_b_elim h (fun a33 s32 hc h => ?_)
        refine qe_callV1 (st := []) kk_X9_tells_X9_refused (c_X9_refused hc) (qs_at tM_0) rfl rfl rfl (Nat.le_of_ble_eq_true rfl) dX9_tells_174 ?_
        have e : (a33, s32) = o := Option.some.inj h
        subst e
        exact qe_iret dX9_tells_177 rfl
    · refine qe_aload_n dX9_tells_101 0 rfl rfl trivial ?_
      refine qe_bipush (v := (-100 : Int32)) dX9_tells_102 rfl ?_
      refine qe_aload_n dX9_tells_104 0 rfl rfl trivial ?_
      refine qs_getI (j := 24) tM_0 rfl fl_RX9_261 dX9_tells_105 ?_
      refine qe_isub dX9_tells_108 ?_
      refine qm_b_elim h (fun a35 s34 hc h => ?_)
      refine qe_callV1 (st := []) kk_X9_tells_X9_no (c_X9_no hc) (qs_at tM_0) rfl rfl rfl (Nat.le_of_ble_eq_true rfl) dX9_tells_109 ?_
      have e : (a35, s34) = o := Option.some.inj h
      subst e
      exact qe_iret dX9_tells_112 rfl
  refine qe_aload_n dX9_tells_57 0 rfl rfl trivial ?_
  refine qs_getI (j := 24) tM_0 rfl fl_RX9_261 dX9_tells_58 ?_
  refine qe_if_ge (tgt := 79) dX9_tells_61 rfl h (fun _ h => ?_) (fun _ h => ?_)
  · exact hj79  _ _ h
  · refine qe_aload_n dX9_tells_64 0 rfl rfl trivial ?_
    refine qs_getI (j := 23) tM_0 rfl fl_RX9_264 dX9_tells_65 ?_
    refine qe_aload_n dX9_tells_68 0 rfl rfl trivial ?_
    refine qs_getI (j := 21) tM_0 rfl fl_RX9_258 dX9_tells_69 ?_
    refine qe_icmp_ge (tgt := 79) dX9_tells_72 rfl h (fun _ h => ?_) (fun _ h => ?_)
    · exact hj79  _ _ h
    · refine qe_aload_n dX9_tells_75 0 rfl rfl trivial ?_
      refine qm_o_elim h (fun s36 hc h => ?_)
      refine qe_callV0 (st := []) kk_X9_tells_X9_wrong (c_X9_wrong hc) (qs_at tM_0) rfl rfl rfl (Nat.le_of_ble_eq_true rfl) dX9_tells_76 ?_
      exact hj79  _ _ h

set_option maxRecDepth 20000 in
theorem c_X9_reason {l : Launch} {G : qe_G} {v1 : Int32} {s0 : qe_S} {o : Int32 × qe_S} (h : g_X9_reason v1 s0 = some o) : qe_C l G MX9_reason [.ref 0, .int v1] (qs_w s0 (qs_TM G)) (some (.int o.1)) (qs_w o.2 (qs_TM G)) := by
  refine qe_C.of (by decide +kernel) (Nat.le_of_ble_eq_true rfl) ?_
  show qe_J l G MX9_reason 0 [(0, .ref 0), (1, .int v1)] [] (qs_w s0 (qs_TM G)) (some (.int o.1)) (qs_w o.2 (qs_TM G))
  unfold g_X9_reason at h
  refine qe_iload_n dX9_reason_0 1 rfl rfl ?_
  refine qe_iconst (v := (0 : Int32)) dX9_reason_1 rfl ?_
  refine qe_iconst (v := (nI 3)) dX9_reason_2 rfl ?_
  refine qm_b_elim h (fun a2 s1 hc h => ?_)
  refine qe_callS1 (st := []) kk_X9_reason_X9_within (c_X9_within hc) rfl rfl (Nat.le_of_ble_eq_true rfl) dX9_reason_3 ?_
  refine qe_if_eq (tgt := 18) dX9_reason_6 rfl h (fun _ h => ?_) (fun _ h => ?_)
  · refine qe_iconst (v := (0 : Int32)) dX9_reason_18 rfl ?_
    have e : ((0 : Int32), s1) = o := Option.some.inj h
    subst e
    exact qe_iret dX9_reason_19 rfl
  · refine qe_aload_n dX9_reason_9 0 rfl rfl trivial ?_
    refine qs_getR (j := 4) tM_0 rfl fl_RX9_19 dX9_reason_10 ?_
    refine qe_iload_n dX9_reason_13 1 rfl rfl ?_
    refine qs_ild tM_4 dX9_reason_14 h (fun a3 h => ?_)
    refine qe_goto (tgt := 19) dX9_reason_15 rfl ?_
    have e : (a3, s1) = o := Option.some.inj h
    subst e
    exact qe_iret dX9_reason_19 rfl

set_option maxRecDepth 20000 in
theorem c_X9_isList {l : Launch} {G : qe_G} {v0 : Int32} {s0 : qe_S} {o : Int32 × qe_S} (h : g_X9_isList v0 s0 = some o) : qe_C l G MX9_isList [.int v0] (qs_w s0 (qs_TM G)) (some (.int o.1)) (qs_w o.2 (qs_TM G)) := by
  refine qe_C.of (by decide +kernel) (Nat.le_of_ble_eq_true rfl) ?_
  show qe_J l G MX9_isList 0 [(0, .int v0)] [] (qs_w s0 (qs_TM G)) (some (.int o.1)) (qs_w o.2 (qs_TM G))
  unfold g_X9_isList at h
  refine qe_iload_n dX9_isList_0 0 rfl rfl ?_
  refine qe_iconst (v := (0 : Int32)) dX9_isList_1 rfl ?_
  refine qe_iconst (v := (nI 2)) dX9_isList_2 rfl ?_
  refine qm_b_elim h (fun a2 s1 hc h => ?_)
  refine qe_callS1 (st := []) kk_X9_isList_X9_within (c_X9_within hc) rfl rfl (Nat.le_of_ble_eq_true rfl) dX9_isList_3 ?_
  exact qe_zret dX9_isList_6 rfl h (fun h => by have e : (a2, s1) = o := Option.some.inj h; subst e; exact ⟨rfl, rfl⟩)

set_option maxRecDepth 20000 in
theorem c_X9_list_L48 {l : Launch} {G : qe_G} {v1 : Int32} : ∀ (n : Nat) (v3 : Int32) (s0 : qe_S) (o : Int32 × qe_S), g_X9_list_L48 v1 n v3 s0 = some o → qe_J l G MX9_list 48 [(0, .ref 0), (1, .int v1), (3, .int v3)] [] (qs_w s0 (qs_TM G)) (some (.int o.1)) (qs_w o.2 (qs_TM G)) := by
  intro n
  induction n with
  | zero =>
    intro v3 s0 o h
    rw [g_X9_list_L48] at h
    cases h
  | succ n ih =>
    intro v3 s0 o h
    rw [g_X9_list_L48] at h
    refine qe_iload_n dX9_list_48 2 rfl rfl ?_
    refine qe_bipush (v := (nI 15)) dX9_list_49 rfl ?_
    refine qe_icmp_ge (tgt := 72) dX9_list_51 rfl h (fun _ h => ?_) (fun _ h => ?_)
    · refine qe_iconst (v := (1 : Int32)) dX9_list_72 rfl ?_
      have e : ((1 : Int32), s0) = o := Option.some.inj h
      subst e
      exact qe_iret dX9_list_73 rfl
    · refine qe_aload_n dX9_list_54 0 rfl rfl trivial ?_
      refine qs_getR (j := 28) tM_0 rfl fl_RX9_62 dX9_list_55 ?_
      refine qe_bipush (v := (nI 15)) dX9_list_58 rfl ?_
      refine qe_iload_n dX9_list_60 1 rfl rfl ?_
      refine qe_imul dX9_list_61 ?_
      refine qe_iload_n dX9_list_62 2 rfl rfl ?_
      refine qe_iadd dX9_list_63 ?_
      refine qe_lconst (v := 0) dX9_list_64 rfl ?_
      refine qs_lst tM_18 dX9_list_65 h (fun s5 h => ?_)
      refine qe_iincl (lv' := fun a6 => [(3, .int a6), (0, .ref 0), (1, .int v1)]) dX9_list_66 2 rfl rfl (fun _ => rfl) (Nat.le_of_ble_eq_true rfl) h (fun a6 h => ?_)
      refine qe_goto (tgt := 48) dX9_list_69 rfl ?_
      refine qe_sub [1, 2, 0] rfl ?_
      exact ih _ _ _ h

set_option maxRecDepth 20000 in
theorem c_X9_list {l : Launch} {G : qe_G} {v1 : Int32} {v2 : Int32} {s0 : qe_S} {o : Int32 × qe_S} (h : g_X9_list v1 v2 s0 = some o) : qe_C l G MX9_list [.ref 0, .int v1, .int v2] (qs_w s0 (qs_TM G)) (some (.int o.1)) (qs_w o.2 (qs_TM G)) := by
  refine qe_C.of (by decide +kernel) (Nat.le_of_ble_eq_true rfl) ?_
  show qe_J l G MX9_list 0 [(0, .ref 0), (1, .int v1), (2, .int v2)] [] (qs_w s0 (qs_TM G)) (some (.int o.1)) (qs_w o.2 (qs_TM G))
  unfold g_X9_list at h
  refine qe_iload_n dX9_list_0 1 rfl rfl ?_
  refine qm_b_elim h (fun a2 s1 hc h => ?_)
  refine qe_callS1 (st := []) kk_X9_list_X9_isList (c_X9_isList hc) rfl rfl (Nat.le_of_ble_eq_true rfl) dX9_list_1 ?_
  refine qe_if_ne (tgt := 13) dX9_list_4 rfl h (fun _ h => ?_) (fun _ h => ?_)
  · refine qe_iload_n dX9_list_13 2 rfl rfl ?_
    refine qe_bipush (v := (nI 15)) dX9_list_14 rfl ?_
    refine qe_icmp_le (tgt := 26) dX9_list_16 rfl h (fun _ h => ?_) (fun _ h => ?_)
    · refine qe_iload_n dX9_list_26 2 rfl rfl ?_
      refine qe_if_ge (tgt := 37) dX9_list_27 rfl h (fun _ h => ?_) (fun _ h => ?_)
      · refine qe_aload_n dX9_list_37 0 rfl rfl trivial ?_
        refine qs_getR (j := 27) tM_0 rfl fl_RX9_59 dX9_list_38 ?_
        refine qe_iload_n dX9_list_41 1 rfl rfl ?_
        refine qe_iload_n dX9_list_42 2 rfl rfl ?_
        refine qe_iconst (v := (1 : Int32)) dX9_list_43 rfl ?_
        refine qe_iadd dX9_list_44 ?_
        refine qs_ist tM_17 dX9_list_45 h (fun s3 h => ?_)
        refine qe_iconst (v := (0 : Int32)) dX9_list_46 rfl ?_
        refine qe_let_i h (fun a4 h => ?_)
        refine qe_istore_n (lv' := [(3, .int a4), (0, .ref 0), (1, .int v1), (2, .int v2)]) dX9_list_47 rfl rfl (Nat.le_of_ble_eq_true rfl) ?_
        refine qe_sub [1, 2, 0] rfl ?_
        refine c_X9_list_L48 _ _ _ _ h
      · refine qe_aload_n dX9_list_30 0 rfl rfl trivial ?_
        refine qe_bipush (v := (-14 : Int32)) dX9_list_31 rfl ?_
        refine qm_b_elim h (fun a8 s7 hc h => ?_)
        refine qe_callV1 (st := []) kk_X9_list_X9_no (c_X9_no hc) (qs_at tM_0) rfl rfl rfl (Nat.le_of_ble_eq_true rfl) dX9_list_33 ?_
        have e : (a8, s7) = o := Option.some.inj h
        subst e
        exact qe_iret dX9_list_36 rfl
    · refine qe_aload_n dX9_list_19 0 rfl rfl trivial ?_
      refine qe_bipush (v := (-2 : Int32)) dX9_list_20 rfl ?_
      refine qm_b_elim h (fun a10 s9 hc h => ?_)
      refine qe_callV1 (st := []) kk_X9_list_X9_no (c_X9_no hc) (qs_at tM_0) rfl rfl rfl (Nat.le_of_ble_eq_true rfl) dX9_list_22 ?_
      have e : (a10, s9) = o := Option.some.inj h
      subst e
      exact qe_iret dX9_list_25 rfl
  · refine qe_aload_n dX9_list_7 0 rfl rfl trivial ?_
    refine qe_iconst (v := (-1 : Int32)) dX9_list_8 rfl ?_
    refine qm_b_elim h (fun a12 s11 hc h => ?_)
    refine qe_callV1 (st := []) kk_X9_list_X9_no (c_X9_no hc) (qs_at tM_0) rfl rfl rfl (Nat.le_of_ble_eq_true rfl) dX9_list_9 ?_
    have e : (a12, s11) = o := Option.some.inj h
    subst e
    exact qe_iret dX9_list_12 rfl

set_option maxRecDepth 20000 in
theorem c_X9_put {l : Launch} {G : qe_G} {v1 : Int32} {v2 : Int32} {v3 : Int64} {s0 : qe_S} {o : Int32 × qe_S} (h : g_X9_put v1 v2 v3 s0 = some o) : qe_C l G MX9_put [.ref 0, .int v1, .int v2, .long v3] (qs_w s0 (qs_TM G)) (some (.int o.1)) (qs_w o.2 (qs_TM G)) := by
  refine qe_C.of (by decide +kernel) (Nat.le_of_ble_eq_true rfl) ?_
  show qe_J l G MX9_put 0 [(0, .ref 0), (1, .int v1), (2, .int v2), (3, .long v3)] [] (qs_w s0 (qs_TM G)) (some (.int o.1)) (qs_w o.2 (qs_TM G))
  unfold g_X9_put at h
  refine qe_iload_n dX9_put_0 1 rfl rfl ?_
  refine qm_b_elim h (fun a2 s1 hc h => ?_)
  refine qe_callS1 (st := []) kk_X9_put_X9_isList (c_X9_isList hc) rfl rfl (Nat.le_of_ble_eq_true rfl) dX9_put_1 ?_
  refine qe_if_ne (tgt := 13) dX9_put_4 rfl h (fun _ h => ?_) (fun _ h => ?_)
  · refine qe_aload_n dX9_put_13 0 rfl rfl trivial ?_
    refine qs_getR (j := 27) tM_0 rfl fl_RX9_59 dX9_put_14 ?_
    refine qe_iload_n dX9_put_17 1 rfl rfl ?_
    refine qs_ild tM_17 dX9_put_18 h (fun a3 h => ?_)
    refine qe_if_ne (tgt := 29) dX9_put_19 rfl h (fun _ h => ?_) (fun _ h => ?_)
    · refine qe_iload_n dX9_put_29 2 rfl rfl ?_
      refine qe_iconst (v := (0 : Int32)) dX9_put_30 rfl ?_
      refine qe_aload_n dX9_put_31 0 rfl rfl trivial ?_
      refine qs_getR (j := 27) tM_0 rfl fl_RX9_59 dX9_put_32 ?_
      refine qe_iload_n dX9_put_35 1 rfl rfl ?_
      refine qs_ild tM_17 dX9_put_36 h (fun a4 h => ?_)
      refine qe_iconst (v := (nI 2)) dX9_put_37 rfl ?_
      refine qe_isub dX9_put_38 ?_
      refine qm_b_elim h (fun a6 s5 hc h => ?_)
      refine qe_callS1 (st := []) kk_X9_put_X9_within (c_X9_within hc) rfl rfl (Nat.le_of_ble_eq_true rfl) dX9_put_39 ?_
      refine qe_if_ne (tgt := 52) dX9_put_42 rfl h (fun _ h => ?_) (fun _ h => ?_)
      · refine qe_aload_n dX9_put_52 0 rfl rfl trivial ?_
        refine qs_getR (j := 28) tM_0 rfl fl_RX9_62 dX9_put_53 ?_
        refine qe_bipush (v := (nI 15)) dX9_put_56 rfl ?_
        refine qe_iload_n dX9_put_58 1 rfl rfl ?_
        refine qe_imul dX9_put_59 ?_
        refine qe_iload_n dX9_put_60 2 rfl rfl ?_
        refine qe_iadd dX9_put_61 ?_
        refine qe_lload_n dX9_put_62 3 rfl rfl ?_
        refine qs_lst tM_18 dX9_put_63 h (fun s7 h => ?_)
        refine qe_iconst (v := (1 : Int32)) dX9_put_64 rfl ?_
        have e : ((1 : Int32), s7) = o := Option.some.inj h
        subst e
        exact qe_iret dX9_put_65 rfl
      · refine qe_aload_n dX9_put_45 0 rfl rfl trivial ?_
        refine qe_bipush (v := (-13 : Int32)) dX9_put_46 rfl ?_
        refine qm_b_elim h (fun a9 s8 hc h => ?_)
        refine qe_callV1 (st := []) kk_X9_put_X9_no (c_X9_no hc) (qs_at tM_0) rfl rfl rfl (Nat.le_of_ble_eq_true rfl) dX9_put_48 ?_
        have e : (a9, s8) = o := Option.some.inj h
        subst e
        exact qe_iret dX9_put_51 rfl
    · refine qe_aload_n dX9_put_22 0 rfl rfl trivial ?_
      refine qe_bipush (v := (-11 : Int32)) dX9_put_23 rfl ?_
      refine qm_b_elim h (fun a11 s10 hc h => ?_)
      refine qe_callV1 (st := []) kk_X9_put_X9_no (c_X9_no hc) (qs_at tM_0) rfl rfl rfl (Nat.le_of_ble_eq_true rfl) dX9_put_25 ?_
      have e : (a11, s10) = o := Option.some.inj h
      subst e
      exact qe_iret dX9_put_28 rfl
  · refine qe_aload_n dX9_put_7 0 rfl rfl trivial ?_
    refine qe_iconst (v := (-1 : Int32)) dX9_put_8 rfl ?_
    refine qm_b_elim h (fun a13 s12 hc h => ?_)
    refine qe_callV1 (st := []) kk_X9_put_X9_no (c_X9_no hc) (qs_at tM_0) rfl rfl rfl (Nat.le_of_ble_eq_true rfl) dX9_put_9 ?_
    have e : (a13, s12) = o := Option.some.inj h
    subst e
    exact qe_iret dX9_put_12 rfl

set_option maxRecDepth 20000 in
theorem c_X9_look {l : Launch} {G : qe_G} {v1 : Int32} {v2 : Int32} {s0 : qe_S} {o : Int64 × qe_S} (h : g_X9_look v1 v2 s0 = some o) : qe_C l G MX9_look [.ref 0, .int v1, .int v2] (qs_w s0 (qs_TM G)) (some (.long o.1)) (qs_w o.2 (qs_TM G)) := by
  refine qe_C.of (by decide +kernel) (Nat.le_of_ble_eq_true rfl) ?_
  show qe_J l G MX9_look 0 [(0, .ref 0), (1, .int v1), (2, .int v2)] [] (qs_w s0 (qs_TM G)) (some (.long o.1)) (qs_w o.2 (qs_TM G))
  unfold g_X9_look at h
  refine qe_iload_n dX9_look_0 1 rfl rfl ?_
  refine qm_b_elim h (fun a2 s1 hc h => ?_)
  refine qe_callS1 (st := []) kk_X9_look_X9_isList (c_X9_isList hc) rfl rfl (Nat.le_of_ble_eq_true rfl) dX9_look_1 ?_
  refine qe_if_ne (tgt := 13) dX9_look_4 rfl h (fun _ h => ?_) (fun _ h => ?_)
  · refine qe_aload_n dX9_look_13 0 rfl rfl trivial ?_
    refine qs_getR (j := 27) tM_0 rfl fl_RX9_59 dX9_look_14 ?_
    refine qe_iload_n dX9_look_17 1 rfl rfl ?_
    refine qs_ild tM_17 dX9_look_18 h (fun a3 h => ?_)
    refine qe_if_ne (tgt := 29) dX9_look_19 rfl h (fun _ h => ?_) (fun _ h => ?_)
    · refine qe_iload_n dX9_look_29 2 rfl rfl ?_
      refine qe_iconst (v := (0 : Int32)) dX9_look_30 rfl ?_
      refine qe_aload_n dX9_look_31 0 rfl rfl trivial ?_
      refine qs_getR (j := 27) tM_0 rfl fl_RX9_59 dX9_look_32 ?_
      refine qe_iload_n dX9_look_35 1 rfl rfl ?_
      refine qs_ild tM_17 dX9_look_36 h (fun a4 h => ?_)
      refine qe_iconst (v := (nI 2)) dX9_look_37 rfl ?_
      refine qe_isub dX9_look_38 ?_
      refine qm_b_elim h (fun a6 s5 hc h => ?_)
      refine qe_callS1 (st := []) kk_X9_look_X9_within (c_X9_within hc) rfl rfl (Nat.le_of_ble_eq_true rfl) dX9_look_39 ?_
      refine qe_if_eq (tgt := 59) dX9_look_42 rfl h (fun _ h => ?_) (fun _ h => ?_)
      · refine qe_aload_n dX9_look_59 0 rfl rfl trivial ?_
        refine qe_bipush (v := (-13 : Int32)) dX9_look_60 rfl ?_
        refine qm_b_elim h (fun b8 s7 hc h => ?_)
        refine qe_callV1 (st := []) kk_X9_look_X9_noLong (c_X9_noLong hc) (qs_at tM_0) rfl rfl rfl (Nat.le_of_ble_eq_true rfl) dX9_look_62 ?_
        have e : (b8, s7) = o := Option.some.inj h
        subst e
        exact qe_lret dX9_look_65 rfl
      · refine qe_aload_n dX9_look_45 0 rfl rfl trivial ?_
        refine qs_getR (j := 28) tM_0 rfl fl_RX9_62 dX9_look_46 ?_
        refine qe_bipush (v := (nI 15)) dX9_look_49 rfl ?_
        refine qe_iload_n dX9_look_51 1 rfl rfl ?_
        refine qe_imul dX9_look_52 ?_
        refine qe_iload_n dX9_look_53 2 rfl rfl ?_
        refine qe_iadd dX9_look_54 ?_
        refine qs_lld tM_18 dX9_look_55 h (fun b9 h => ?_)
        refine qe_goto (tgt := 65) dX9_look_56 rfl ?_
        have e : (b9, s5) = o := Option.some.inj h
        subst e
        exact qe_lret dX9_look_65 rfl
    · refine qe_aload_n dX9_look_22 0 rfl rfl trivial ?_
      refine qe_bipush (v := (-11 : Int32)) dX9_look_23 rfl ?_
      refine qm_b_elim h (fun b11 s10 hc h => ?_)
      refine qe_callV1 (st := []) kk_X9_look_X9_noLong (c_X9_noLong hc) (qs_at tM_0) rfl rfl rfl (Nat.le_of_ble_eq_true rfl) dX9_look_25 ?_
      have e : (b11, s10) = o := Option.some.inj h
      subst e
      exact qe_lret dX9_look_28 rfl
  · refine qe_aload_n dX9_look_7 0 rfl rfl trivial ?_
    refine qe_iconst (v := (-1 : Int32)) dX9_look_8 rfl ?_
    refine qm_b_elim h (fun b13 s12 hc h => ?_)
    refine qe_callV1 (st := []) kk_X9_look_X9_noLong (c_X9_noLong hc) (qs_at tM_0) rfl rfl rfl (Nat.le_of_ble_eq_true rfl) dX9_look_9 ?_
    have e : (b13, s12) = o := Option.some.inj h
    subst e
    exact qe_lret dX9_look_12 rfl

set_option maxRecDepth 20000 in
theorem c_X9_judge_L50 {l : Launch} {G : qe_G} {v1 : Int32} {v2 : Int32} : ∀ (n : Nat) (v3 : Int32) (s0 : qe_S) (o : Int32 × qe_S), g_X9_judge_L50 v1 v2 n v3 s0 = some o → qe_J l G MX9_judge 50 [(0, .ref 0), (1, .int v1), (2, .int v2), (3, .int v3)] [] (qs_w s0 (qs_TM G)) (some (.int o.1)) (qs_w o.2 (qs_TM G)) := by
  intro n
  induction n with
  | zero =>
    intro v3 s0 o h
    rw [g_X9_judge_L50] at h
    cases h
  | succ n ih =>
    intro v3 s0 o h
    rw [g_X9_judge_L50] at h
    refine qe_iload_n dX9_judge_50 3 rfl rfl ?_
    refine qe_aload_n dX9_judge_51 0 rfl rfl trivial ?_
    refine qs_getR (j := 0) tM_0 rfl fl_RX9_7 dX9_judge_52 ?_
    refine qe_iconst (v := (0 : Int32)) dX9_judge_55 rfl ?_
    refine qs_ild tM_1 dX9_judge_56 h (fun a9 h => ?_)
    refine qe_icmp_ge (tgt := 114) dX9_judge_57 rfl h (fun _ h => ?_) (fun _ h => ?_)
    · refine qe_bipush (v := (-5 : Int32)) dX9_judge_114 rfl ?_
      have e : ((-5 : Int32), s0) = o := Option.some.inj h
      subst e
      exact qe_iret dX9_judge_116 rfl
    · refine qe_iload_n dX9_judge_60 2 rfl rfl ?_
      refine qe_i2l dX9_judge_61 ?_
      refine qe_iload_n dX9_judge_62 3 rfl rfl ?_
      refine qe_i2l dX9_judge_63 ?_
      refine qe_ladd dX9_judge_64 ?_
      refine qe_aload_n dX9_judge_65 0 rfl rfl trivial ?_
      refine qs_getR (j := 27) tM_0 rfl fl_RX9_59 dX9_judge_66 ?_
      refine qe_iload_n dX9_judge_69 1 rfl rfl ?_
      refine qs_ild tM_17 dX9_judge_70 h (fun a10 h => ?_)
      refine qe_iconst (v := (1 : Int32)) dX9_judge_71 rfl ?_
      refine qe_isub dX9_judge_72 ?_
      refine qe_i2l dX9_judge_73 ?_
      refine qe_lcmp_lt (tgt := 83) dX9_judge_74 dX9_judge_75 rfl h (fun _ h => ?_) (fun _ h => ?_)
      · refine qe_aload_n dX9_judge_83 0 rfl rfl trivial ?_
        refine qs_getR (j := 28) tM_0 rfl fl_RX9_62 dX9_judge_84 ?_
        refine qe_bipush (v := (nI 15)) dX9_judge_87 rfl ?_
        refine qe_iload_n dX9_judge_89 1 rfl rfl ?_
        refine qe_imul dX9_judge_90 ?_
        refine qe_iload_n dX9_judge_91 2 rfl rfl ?_
        refine qe_iadd dX9_judge_92 ?_
        refine qe_iload_n dX9_judge_93 3 rfl rfl ?_
        refine qe_iadd dX9_judge_94 ?_
        refine qs_lld tM_18 dX9_judge_95 h (fun b11 h => ?_)
        refine qe_aload_n dX9_judge_96 0 rfl rfl trivial ?_
        refine qs_getR (j := 8) tM_0 rfl fl_RX9_29 dX9_judge_97 ?_
        refine qe_iload_n dX9_judge_100 3 rfl rfl ?_
        refine qs_lld tM_7 dX9_judge_101 h (fun b12 h => ?_)
        refine qe_lcmp_eq (tgt := 108) dX9_judge_102 dX9_judge_103 rfl h (fun _ h => ?_) (fun _ h => ?_)
        · refine qe_iincl (lv' := fun a13 => [(3, .int a13), (0, .ref 0), (1, .int v1), (2, .int v2)]) dX9_judge_108 3 rfl rfl (fun _ => rfl) (Nat.le_of_ble_eq_true rfl) h (fun a13 h => ?_)
          refine qe_goto (tgt := 50) dX9_judge_111 rfl ?_
          refine qe_sub [1, 2, 3, 0] rfl ?_
          exact ih _ _ _ h
        · refine qe_iload_n dX9_judge_106 3 rfl rfl ?_
          have e : (v3, s0) = o := Option.some.inj h
          subst e
          exact qe_iret dX9_judge_107 rfl
      · refine qe_bipush (v := (nI 100)) dX9_judge_78 rfl ?_
        refine qe_iload_n dX9_judge_80 3 rfl rfl ?_
        refine qe_iadd dX9_judge_81 ?_
        have e : (((nI 100) + v3), s0) = o := Option.some.inj h
        subst e
        exact qe_iret dX9_judge_82 rfl

set_option maxRecDepth 20000 in
theorem c_X9_judge {l : Launch} {G : qe_G} {v1 : Int32} {v2 : Int32} {s0 : qe_S} {o : Int32 × qe_S} (h : g_X9_judge v1 v2 s0 = some o) : qe_C l G MX9_judge [.ref 0, .int v1, .int v2] (qs_w s0 (qs_TM G)) (some (.int o.1)) (qs_w o.2 (qs_TM G)) := by
  refine qe_C.of (by decide +kernel) (Nat.le_of_ble_eq_true rfl) ?_
  show qe_J l G MX9_judge 0 [(0, .ref 0), (1, .int v1), (2, .int v2)] [] (qs_w s0 (qs_TM G)) (some (.int o.1)) (qs_w o.2 (qs_TM G))
  unfold g_X9_judge at h
  refine qe_iload_n dX9_judge_0 1 rfl rfl ?_
  refine qm_b_elim h (fun a2 s1 hc h => ?_)
  refine qe_callS1 (st := []) kk_X9_judge_X9_isList (c_X9_isList hc) rfl rfl (Nat.le_of_ble_eq_true rfl) dX9_judge_1 ?_
  refine qe_if_eq (tgt := 11) dX9_judge_4 rfl h (fun _ h => ?_) (fun _ h => ?_)
  · refine qe_aload_n dX9_judge_11 0 rfl rfl trivial ?_
    refine qe_iconst (v := (-1 : Int32)) dX9_judge_12 rfl ?_
    refine qm_b_elim h (fun a4 s3 hc h => ?_)
    refine qe_callV1 (st := []) kk_X9_judge_X9_no (c_X9_no hc) (qs_at tM_0) rfl rfl rfl (Nat.le_of_ble_eq_true rfl) dX9_judge_13 ?_
    have e : (a4, s3) = o := Option.some.inj h
    subst e
    exact qe_iret dX9_judge_16 rfl
  · refine qe_iload_n dX9_judge_7 2 rfl rfl ?_
    refine qe_if_ge (tgt := 17) dX9_judge_8 rfl h (fun _ h => ?_) (fun _ h => ?_)
    · refine qe_aload_n dX9_judge_17 0 rfl rfl trivial ?_
      refine qs_getR (j := 27) tM_0 rfl fl_RX9_59 dX9_judge_18 ?_
      refine qe_iload_n dX9_judge_21 1 rfl rfl ?_
      refine qs_ild tM_17 dX9_judge_22 h (fun a5 h => ?_)
      refine qe_if_ne (tgt := 33) dX9_judge_23 rfl h (fun _ h => ?_) (fun _ h => ?_)
      · refine qe_aload_n dX9_judge_33 0 rfl rfl trivial ?_
        refine qe_iconst (v := (0 : Int32)) dX9_judge_34 rfl ?_
        refine qm_b_elim h (fun a7 s6 hc h => ?_)
        refine qe_callV1 (st := []) kk_X9_judge_X9_lays (c_X9_lays hc) (qs_at tM_0) rfl rfl rfl (Nat.le_of_ble_eq_true rfl) dX9_judge_35 ?_
        refine qe_if_ne (tgt := 48) dX9_judge_38 rfl h (fun _ h => ?_) (fun _ h => ?_)
        · refine qe_iconst (v := (0 : Int32)) dX9_judge_48 rfl ?_
          refine qe_let_i h (fun a8 h => ?_)
          refine qe_istore_n (lv' := [(3, .int a8), (0, .ref 0), (1, .int v1), (2, .int v2)]) dX9_judge_49 rfl rfl (Nat.le_of_ble_eq_true rfl) ?_
          refine qe_sub [1, 2, 3, 0] rfl ?_
          refine c_X9_judge_L50 _ _ _ _ h
        · refine qe_aload_n dX9_judge_41 0 rfl rfl trivial ?_
          refine qe_bipush (v := (-7 : Int32)) dX9_judge_42 rfl ?_
          refine qm_b_elim h (fun a15 s14 hc h => ?_)
          refine qe_callV1 (st := []) kk_X9_judge_X9_no (c_X9_no hc) (qs_at tM_0) rfl rfl rfl (Nat.le_of_ble_eq_true rfl) dX9_judge_44 ?_
          have e : (a15, s14) = o := Option.some.inj h
          subst e
          exact qe_iret dX9_judge_47 rfl
      · refine qe_aload_n dX9_judge_26 0 rfl rfl trivial ?_
        refine qe_bipush (v := (-11 : Int32)) dX9_judge_27 rfl ?_
        refine qm_b_elim h (fun a17 s16 hc h => ?_)
        refine qe_callV1 (st := []) kk_X9_judge_X9_no (c_X9_no hc) (qs_at tM_0) rfl rfl rfl (Nat.le_of_ble_eq_true rfl) dX9_judge_29 ?_
        have e : (a17, s16) = o := Option.some.inj h
        subst e
        exact qe_iret dX9_judge_32 rfl
    · refine qe_aload_n dX9_judge_11 0 rfl rfl trivial ?_
      refine qe_iconst (v := (-1 : Int32)) dX9_judge_12 rfl ?_
      refine qm_b_elim h (fun a19 s18 hc h => ?_)
      refine qe_callV1 (st := []) kk_X9_judge_X9_no (c_X9_no hc) (qs_at tM_0) rfl rfl rfl (Nat.le_of_ble_eq_true rfl) dX9_judge_13 ?_
      have e : (a19, s18) = o := Option.some.inj h
      subst e
      exact qe_iret dX9_judge_16 rfl

set_option maxRecDepth 20000 in
theorem c_X9_image {l : Launch} {G : qe_G}  {s0 : qe_S} {o : Int32 × qe_S} (h : g_X9_image  s0 = some o) : qe_C l G MX9_image [.ref 0] (qs_w s0 (qs_TM G)) (some (.int o.1)) (qs_w o.2 (qs_TM G)) := by
  refine qe_C.of (by decide +kernel) (Nat.le_of_ble_eq_true rfl) ?_
  show qe_J l G MX9_image 0 [(0, .ref 0)] [] (qs_w s0 (qs_TM G)) (some (.int o.1)) (qs_w o.2 (qs_TM G))
  unfold g_X9_image at h
  refine qe_aload_n dX9_image_0 0 rfl rfl trivial ?_
  refine qe_iconst (v := (1 : Int32)) dX9_image_1 rfl ?_
  refine qs_putZ (j := 3) tM_0 rfl fp_RX9_295 ⟨rfl, rfl⟩ dX9_image_2 h (fun s1 h => ?_)
  refine qe_aload_n dX9_image_5 0 rfl rfl trivial ?_
  refine qs_getR (j := 0) tM_0 rfl fl_RX9_7 dX9_image_6 ?_
  refine qe_aload_n dX9_image_9 0 rfl rfl trivial ?_
  refine qs_getR (j := 1) tM_0 rfl fl_RX9_13 dX9_image_10 ?_
  refine qm_o_elim h (fun s2 hc h => ?_)
  refine qe_callS0 (st := []) kk_X9_image_X9_pours (c_X9_pours_1_2 hc) rfl rfl (Nat.le_of_ble_eq_true rfl) dX9_image_13 ?_
  refine qe_aload_n dX9_image_16 0 rfl rfl trivial ?_
  refine qs_getR (j := 0) tM_0 rfl fl_RX9_7 dX9_image_17 ?_
  refine qe_iconst (v := (0 : Int32)) dX9_image_20 rfl ?_
  refine qs_ild tM_1 dX9_image_21 h (fun a3 h => ?_)
  have e : (a3, s2) = o := Option.some.inj h
  subst e
  exact qe_iret dX9_image_22 rfl

set_option maxRecDepth 20000 in
theorem c_X9_undo {l : Launch} {G : qe_G}  {s0 : qe_S} {o : Int32 × qe_S} (h : g_X9_undo  s0 = some o) : qe_C l G MX9_undo [.ref 0] (qs_w s0 (qs_TM G)) (some (.int o.1)) (qs_w o.2 (qs_TM G)) := by
  refine qe_C.of (by decide +kernel) (Nat.le_of_ble_eq_true rfl) ?_
  show qe_J l G MX9_undo 0 [(0, .ref 0)] [] (qs_w s0 (qs_TM G)) (some (.int o.1)) (qs_w o.2 (qs_TM G))
  unfold g_X9_undo at h
  refine qe_aload_n dX9_undo_0 0 rfl rfl trivial ?_
  refine qs_getI (j := 3) tM_0 rfl fl_RX9_295 dX9_undo_1 ?_
  refine qe_if_ne (tgt := 14) dX9_undo_4 rfl h (fun _ h => ?_) (fun _ h => ?_)
  · refine qe_aload_n dX9_undo_14 0 rfl rfl trivial ?_
    refine qs_getR (j := 1) tM_0 rfl fl_RX9_13 dX9_undo_15 ?_
    refine qe_aload_n dX9_undo_18 0 rfl rfl trivial ?_
    refine qs_getR (j := 0) tM_0 rfl fl_RX9_7 dX9_undo_19 ?_
    refine qm_o_elim h (fun s1 hc h => ?_)
    refine qe_callS0 (st := []) kk_X9_undo_X9_pours (c_X9_pours_2_1 hc) rfl rfl (Nat.le_of_ble_eq_true rfl) dX9_undo_22 ?_
    refine qe_aload_n dX9_undo_25 0 rfl rfl trivial ?_
    refine qs_getR (j := 0) tM_0 rfl fl_RX9_7 dX9_undo_26 ?_
    refine qe_iconst (v := (0 : Int32)) dX9_undo_29 rfl ?_
    refine qs_ild tM_1 dX9_undo_30 h (fun a2 h => ?_)
    have e : (a2, s1) = o := Option.some.inj h
    subst e
    exact qe_iret dX9_undo_31 rfl
  · refine qe_aload_n dX9_undo_7 0 rfl rfl trivial ?_
    refine qe_bipush (v := (-3 : Int32)) dX9_undo_8 rfl ?_
    refine qm_b_elim h (fun a4 s3 hc h => ?_)
    refine qe_callV1 (st := []) kk_X9_undo_X9_no (c_X9_no hc) (qs_at tM_0) rfl rfl rfl (Nat.le_of_ble_eq_true rfl) dX9_undo_10 ?_
    have e : (a4, s3) = o := Option.some.inj h
    subst e
    exact qe_iret dX9_undo_13 rfl

set_option maxRecDepth 20000 in
theorem c_X9_count_L41 {l : Launch} {G : qe_G} : ∀ (n : Nat) (v2 : Int32) (v3 : Int32) (s0 : qe_S) (o : Int32 × qe_S), g_X9_count_L41 n v2 v3 s0 = some o → qe_J l G MX9_count 41 [(0, .ref 0), (2, .int v2), (3, .int v3)] [] (qs_w s0 (qs_TM G)) (some (.int o.1)) (qs_w o.2 (qs_TM G)) := by
  intro n
  induction n with
  | zero =>
    intro v2 v3 s0 o h
    rw [g_X9_count_L41] at h
    cases h
  | succ n ih =>
    intro v2 v3 s0 o h
    rw [g_X9_count_L41] at h
    refine qe_iload_n dX9_count_41 2 rfl rfl ?_
    refine qe_aload_n dX9_count_42 0 rfl rfl trivial ?_
    refine qs_getR (j := 0) tM_0 rfl fl_RX9_7 dX9_count_43 ?_
    refine qe_iconst (v := (0 : Int32)) dX9_count_46 rfl ?_
    refine qs_ild tM_1 dX9_count_47 h (fun a5 h => ?_)
    refine qe_icmp_ge (tgt := 71) dX9_count_48 rfl h (fun _ h => ?_) (fun _ h => ?_)
    · refine qe_iload_n dX9_count_71 1 rfl rfl ?_
      have e : (v2, s0) = o := Option.some.inj h
      subst e
      exact qe_iret dX9_count_72 rfl
    · refine qe_iload_n dX9_count_51 1 rfl rfl ?_
      refine qe_aload_n dX9_count_52 0 rfl rfl trivial ?_
      refine qs_getR (j := 0) tM_0 rfl fl_RX9_7 dX9_count_53 ?_
      refine qe_bipush (v := (nI 38)) dX9_count_56 rfl ?_
      refine qe_iload_n dX9_count_58 2 rfl rfl ?_
      refine qe_iadd dX9_count_59 ?_
      refine qs_ild tM_1 dX9_count_60 h (fun a6 h => ?_)
      refine qe_iload_n dX9_count_61 2 rfl rfl ?_
      refine qe_ishl dX9_count_62 ?_
      refine qe_ior dX9_count_63 ?_
      refine qe_let_i h (fun a7 h => ?_)
      refine qe_istore_n (lv' := [(2, .int a7), (0, .ref 0), (3, .int v3)]) dX9_count_64 rfl rfl (Nat.le_of_ble_eq_true rfl) ?_
      refine qe_iincl (lv' := fun a8 => [(3, .int a8), (2, .int a7), (0, .ref 0)]) dX9_count_65 2 rfl rfl (fun _ => rfl) (Nat.le_of_ble_eq_true rfl) h (fun a8 h => ?_)
      refine qe_goto (tgt := 41) dX9_count_68 rfl ?_
      refine qe_sub [2, 1, 0] rfl ?_
      exact ih _ _ _ _ h

set_option maxRecDepth 20000 in
theorem c_X9_count {l : Launch} {G : qe_G} {v1 : Int32} {s0 : qe_S} {o : Int32 × qe_S} (h : g_X9_count v1 s0 = some o) : qe_C l G MX9_count [.ref 0, .int v1] (qs_w s0 (qs_TM G)) (some (.int o.1)) (qs_w o.2 (qs_TM G)) := by
  refine qe_C.of (by decide +kernel) (Nat.le_of_ble_eq_true rfl) ?_
  show qe_J l G MX9_count 0 [(0, .ref 0), (1, .int v1)] [] (qs_w s0 (qs_TM G)) (some (.int o.1)) (qs_w o.2 (qs_TM G))
  unfold g_X9_count at h
  refine qe_iload_n dX9_count_0 1 rfl rfl ?_
  refine qe_iconst (v := (0 : Int32)) dX9_count_1 rfl ?_
  refine qe_iconst (v := (nI 3)) dX9_count_2 rfl ?_
  refine qm_b_elim h (fun a2 s1 hc h => ?_)
  refine qe_callS1 (st := []) kk_X9_count_X9_within (c_X9_within hc) rfl rfl (Nat.le_of_ble_eq_true rfl) dX9_count_3 ?_
  refine qe_if_ne (tgt := 15) dX9_count_6 rfl h (fun _ h => ?_) (fun _ h => ?_)
  · refine qe_iload_n dX9_count_15 1 rfl rfl ?_
    refine qe_iconst (v := (nI 2)) dX9_count_16 rfl ?_
    refine qe_icmp_ge (tgt := 27) dX9_count_17 rfl h (fun _ h => ?_) (fun _ h => ?_)
    · refine qe_iload_n dX9_count_27 1 rfl rfl ?_
      refine qe_iconst (v := (nI 2)) dX9_count_28 rfl ?_
      refine qe_icmp_ne (tgt := 37) dX9_count_29 rfl h (fun _ h => ?_) (fun _ h => ?_)
      · refine qe_iconst (v := (0 : Int32)) dX9_count_37 rfl ?_
        refine qe_let_i h (fun a3 h => ?_)
        refine qe_istore_n (lv' := [(2, .int a3), (0, .ref 0), (1, .int v1)]) dX9_count_38 rfl rfl (Nat.le_of_ble_eq_true rfl) ?_
        refine qe_iconst (v := (0 : Int32)) dX9_count_39 rfl ?_
        refine qe_let_i h (fun a4 h => ?_)
        refine qe_istore_n (lv' := [(3, .int a4), (2, .int a3), (0, .ref 0), (1, .int v1)]) dX9_count_40 rfl rfl (Nat.le_of_ble_eq_true rfl) ?_
        refine qe_sub [2, 1, 0] rfl ?_
        refine c_X9_count_L41 _ _ _ _ _ h
      · refine qe_aload_n dX9_count_32 0 rfl rfl trivial ?_
        refine qs_getI (j := 21) tM_0 rfl fl_RX9_258 dX9_count_33 ?_
        have e : ((s1.1 0 21), s1) = o := Option.some.inj h
        subst e
        exact qe_iret dX9_count_36 rfl
    · refine qe_aload_n dX9_count_20 0 rfl rfl trivial ?_
      refine qs_getR (j := 0) tM_0 rfl fl_RX9_7 dX9_count_21 ?_
      refine qe_iload_n dX9_count_24 1 rfl rfl ?_
      refine qs_ild tM_1 dX9_count_25 h (fun a9 h => ?_)
      have e : (a9, s1) = o := Option.some.inj h
      subst e
      exact qe_iret dX9_count_26 rfl
  · refine qe_aload_n dX9_count_9 0 rfl rfl trivial ?_
    refine qe_iconst (v := (-1 : Int32)) dX9_count_10 rfl ?_
    refine qm_b_elim h (fun a11 s10 hc h => ?_)
    refine qe_callV1 (st := []) kk_X9_count_X9_no (c_X9_no hc) (qs_at tM_0) rfl rfl rfl (Nat.le_of_ble_eq_true rfl) dX9_count_11 ?_
    have e : (a11, s10) = o := Option.some.inj h
    subst e
    exact qe_iret dX9_count_14 rfl

