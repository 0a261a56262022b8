/-! THE MACHINE: the methods meet their models (printed by wip/whole/gen/decomp.py) -/
set_option maxRecDepth 20000 in
theorem c_X8_estimate {l : Launch} {G : qe_G} {v1 : Int32} {v2 : Int32} {s0 : qe_S} {o : Int64 × qe_S} (h : g_X8_estimate v1 v2 s0 = some o) : qe_C l G MX8_estimate [.ref 0, .int v1, .int v2] (qs_w s0 (qs_TC G)) (some (.long o.1)) (qs_w o.2 (qs_TC G)) := by
  refine qe_C.of (by decide +kernel) (Nat.le_of_ble_eq_true rfl) ?_
  show qe_J l G MX8_estimate 0 [(0, .ref 0), (1, .int v1), (2, .int v2)] [] (qs_w s0 (qs_TC G)) (some (.long o.1)) (qs_w o.2 (qs_TC G))
  unfold g_X8_estimate at h
  refine qe_iload_n dX8_estimate_0 2 rfl rfl ?_
  refine qm_b_elim h (fun a2 s1 hc h => ?_)
  refine qe_callS1 (st := []) kk_X8_estimate_X8_isPart (c_X8_isPart hc) rfl rfl (Nat.le_of_ble_eq_true rfl) dX8_estimate_1 ?_
  refine qe_if_ne (tgt := 14) dX8_estimate_4 rfl h (fun _ h => ?_) (fun _ h => ?_)
  · refine qe_aload_n dX8_estimate_14 0 rfl rfl trivial ?_
    refine qm_b_elim h (fun a4 s3 hc h => ?_)
    refine qe_callV1 (st := []) kk_X8_estimate_X8_layWheel (c_X8_layWheel hc) (qs_at tC_0) rfl rfl rfl (Nat.le_of_ble_eq_true rfl) dX8_estimate_15 ?_
    refine qe_if_ne (tgt := 28) dX8_estimate_18 rfl h (fun _ h => ?_) (fun _ h => ?_)
    · refine qe_aload_n dX8_estimate_28 0 rfl rfl trivial ?_
      refine qs_getR (j := 4) tC_0 rfl fl_RX8_29 dX8_estimate_29 ?_
      refine qe_iload_n dX8_estimate_32 1 rfl rfl ?_
      refine qm_b_elim h (fun a6 s5 hc h => ?_)
      refine qe_callV1 (st := []) kk_X8_estimate_X7_hasPlace (c_X7_hasPlace hc) (qs_at tC_22) rfl rfl rfl (Nat.le_of_ble_eq_true rfl) dX8_estimate_33 ?_
      refine qe_if_ne (tgt := 46) dX8_estimate_36 rfl h (fun _ h => ?_) (fun _ h => ?_)
      · refine qe_aload_n dX8_estimate_46 0 rfl rfl trivial ?_
        refine qs_getR (j := 7) tC_0 rfl fl_RX8_46 dX8_estimate_47 ?_
        refine qe_lconst (v := 0) dX8_estimate_50 rfl ?_
        refine qe_lconst (v := 1) dX8_estimate_51 rfl ?_
        refine qm_o_elim h (fun s7 hc h => ?_)
        refine qe_callV0 (st := []) kk_X8_estimate_X0_begin (c_X0_begin_32 hc) (qs_at tC_32) rfl rfl rfl (Nat.le_of_ble_eq_true rfl) dX8_estimate_52 ?_
        refine qe_aload_n dX8_estimate_55 0 rfl rfl trivial ?_
        refine qe_aload_n dX8_estimate_56 0 rfl rfl trivial ?_
        refine qs_getR (j := 7) tC_0 rfl fl_RX8_46 dX8_estimate_57 ?_
        refine qe_aload_n dX8_estimate_60 0 rfl rfl trivial ?_
        refine qs_getR (j := 4) tC_0 rfl fl_RX8_29 dX8_estimate_61 ?_
        refine qe_iload_n dX8_estimate_64 1 rfl rfl ?_
        refine qe_i2l dX8_estimate_65 ?_
        refine qm_b_elim h (fun a9 s8 hc h => ?_)
        refine qe_callV1 (st := [.ref 32, .ref 0]) kk_X8_estimate_X7_chosenBy (c_X7_chosenBy_22 hc) (qs_at tC_22) rfl rfl rfl (Nat.le_of_ble_eq_true rfl) dX8_estimate_66 ?_
        refine qm_o_elim h (fun s10 hc h => ?_)
        refine qe_callV0 (st := []) kk_X8_estimate_X8_addEstimate (c_X8_addEstimate_0_32 hc) (qs_at tC_0) rfl rfl rfl (Nat.le_of_ble_eq_true rfl) dX8_estimate_69 ?_
        refine qe_aload_n dX8_estimate_72 0 rfl rfl trivial ?_
        refine qe_aload_n dX8_estimate_73 0 rfl rfl trivial ?_
        refine qs_getR (j := 7) tC_0 rfl fl_RX8_46 dX8_estimate_74 ?_
        refine qe_iload_n dX8_estimate_77 2 rfl rfl ?_
        refine qm_b_elim h (fun b12 s11 hc h => ?_)
        refine qe_callV1 (st := []) kk_X8_estimate_X8_partOf (c_X8_partOf hc) (qs_at tC_0) rfl rfl rfl (Nat.le_of_ble_eq_true rfl) dX8_estimate_78 ?_
        have e : (b12, s11) = o := Option.some.inj h
        subst e
        exact qe_lret dX8_estimate_81 rfl
      · refine qe_aload_n dX8_estimate_39 0 rfl rfl trivial ?_
        refine qe_bipush (v := (-2 : Int32)) dX8_estimate_40 rfl ?_
        refine qm_b_elim h (fun b14 s13 hc h => ?_)
        refine qe_callV1 (st := []) kk_X8_estimate_X8_refuseLong (c_X8_refuseLong hc) (qs_at tC_0) rfl rfl rfl (Nat.le_of_ble_eq_true rfl) dX8_estimate_42 ?_
        have e : (b14, s13) = o := Option.some.inj h
        subst e
        exact qe_lret dX8_estimate_45 rfl
    · refine qe_aload_n dX8_estimate_21 0 rfl rfl trivial ?_
      refine qe_bipush (v := (-7 : Int32)) dX8_estimate_22 rfl ?_
      refine qm_b_elim h (fun b16 s15 hc h => ?_)
      refine qe_callV1 (st := []) kk_X8_estimate_X8_refuseLong (c_X8_refuseLong hc) (qs_at tC_0) rfl rfl rfl (Nat.le_of_ble_eq_true rfl) dX8_estimate_24 ?_
      have e : (b16, s15) = o := Option.some.inj h
      subst e
      exact qe_lret dX8_estimate_27 rfl
  · refine qe_aload_n dX8_estimate_7 0 rfl rfl trivial ?_
    refine qe_bipush (v := (-2 : Int32)) dX8_estimate_8 rfl ?_
    refine qm_b_elim h (fun b18 s17 hc h => ?_)
    refine qe_callV1 (st := []) kk_X8_estimate_X8_refuseLong (c_X8_refuseLong hc) (qs_at tC_0) rfl rfl rfl (Nat.le_of_ble_eq_true rfl) dX8_estimate_10 ?_
    have e : (b18, s17) = o := Option.some.inj h
    subst e
    exact qe_lret dX8_estimate_13 rfl

set_option maxRecDepth 20000 in
theorem c_X3_marksTogether_L4 {l : Launch} {G : qe_G} : ∀ (n : Nat) (v1 : Int64) (v3 : Int32) (s0 : qe_S) (o : Int64 × qe_S), g_X3_marksTogether_L4 n v1 v3 s0 = some o → qe_J l G MX3_marksTogether 4 [(0, .ref 1), (1, .long v1), (3, .int v3)] [] (qs_w s0 (qs_TC G)) (some (.long o.1)) (qs_w o.2 (qs_TC G)) := by
  intro n
  induction n with
  | zero =>
    intro v1 v3 s0 o h
    rw [g_X3_marksTogether_L4] at h
    cases h
  | succ n ih =>
    intro v1 v3 s0 o h
    rw [g_X3_marksTogether_L4] at h
    refine qe_iload_n dX3_marksTogether_4 2 rfl rfl ?_
    refine qe_aload_n dX3_marksTogether_5 0 rfl rfl trivial ?_
    refine qs_getI (j := 0) tC_1 rfl fl_RX3_9 dX3_marksTogether_6 ?_
    refine qe_icmp_ge (tgt := 28) dX3_marksTogether_9 rfl h (fun _ h => ?_) (fun _ h => ?_)
    · refine qe_lload_n dX3_marksTogether_28 1 rfl rfl ?_
      have e : (v1, s0) = o := Option.some.inj h
      subst e
      exact qe_lret dX3_marksTogether_29 rfl
    · refine qe_lload_n dX3_marksTogether_12 1 rfl rfl ?_
      refine qe_aload_n dX3_marksTogether_13 0 rfl rfl trivial ?_
      refine qs_getR (j := 4) tC_1 rfl fl_RX3_25 dX3_marksTogether_14 ?_
      refine qe_iload_n dX3_marksTogether_17 2 rfl rfl ?_
      refine qs_ild tC_3 dX3_marksTogether_18 h (fun a3 h => ?_)
      refine qe_i2l dX3_marksTogether_19 ?_
      refine qe_ladd dX3_marksTogether_20 ?_
      refine qe_let_l h (fun b4 h => ?_)
      refine qe_lstore_n (lv' := [(1, .long b4), (0, .ref 1), (3, .int v3)]) dX3_marksTogether_21 rfl rfl (Nat.le_of_ble_eq_true rfl) ?_
      refine qe_iincl (lv' := fun a5 => [(3, .int a5), (1, .long b4), (0, .ref 1)]) dX3_marksTogether_22 2 rfl rfl (fun _ => rfl) (Nat.le_of_ble_eq_true rfl) h (fun a5 h => ?_)
      refine qe_goto (tgt := 4) dX3_marksTogether_25 rfl ?_
      refine qe_sub [2, 1, 0] rfl ?_
      exact ih _ _ _ _ h

set_option maxRecDepth 20000 in
theorem c_X3_marksTogether {l : Launch} {G : qe_G}  {s0 : qe_S} {o : Int64 × qe_S} (h : g_X3_marksTogether  s0 = some o) : qe_C l G MX3_marksTogether [.ref 1] (qs_w s0 (qs_TC G)) (some (.long o.1)) (qs_w o.2 (qs_TC G)) := by
  refine qe_C.of (by decide +kernel) (Nat.le_of_ble_eq_true rfl) ?_
  show qe_J l G MX3_marksTogether 0 [(0, .ref 1)] [] (qs_w s0 (qs_TC G)) (some (.long o.1)) (qs_w o.2 (qs_TC G))
  unfold g_X3_marksTogether at h
  refine qe_lconst (v := 0) dX3_marksTogether_0 rfl ?_
  refine qe_let_l h (fun b1 h => ?_)
  refine qe_lstore_n (lv' := [(1, .long b1), (0, .ref 1)]) dX3_marksTogether_1 rfl rfl (Nat.le_of_ble_eq_true rfl) ?_
  refine qe_iconst (v := (0 : Int32)) dX3_marksTogether_2 rfl ?_
  refine qe_let_i h (fun a2 h => ?_)
  refine qe_istore_n (lv' := [(3, .int a2), (1, .long b1), (0, .ref 1)]) dX3_marksTogether_3 rfl rfl (Nat.le_of_ble_eq_true rfl) ?_
  refine qe_sub [2, 1, 0] rfl ?_
  refine c_X3_marksTogether_L4 _ _ _ _ _ h

set_option maxRecDepth 20000 in
theorem c_X0_times {l : Launch} {G : qe_G} {v1 : Int64} {v3 : Int64} {s0 : qe_S} {o : qe_S} (h : g_X0_times v1 v3 s0 = some o) : qe_C l G MX0_times [.ref 33, .long v1, .long v3] (qs_w s0 (qs_TC G)) none (qs_w o (qs_TC G)) := by
  refine qe_C.of (by decide +kernel) (Nat.le_of_ble_eq_true rfl) ?_
  show qe_J l G MX0_times 0 [(0, .ref 33), (1, .long v1), (3, .long v3)] [] (qs_w s0 (qs_TC G)) none (qs_w o (qs_TC G))
  unfold g_X0_times at h
  refine qm_j_elim h (fun j22 ej22 h => ?_)
  have hj22 : ∀  (s1 : qe_S) (o : qe_S), j22  s1 = some o → qe_J l G MX0_times 22 [(0, .ref 33)] [] (qs_w s1 (qs_TC G)) none (qs_w o (qs_TC G)) := by
    intro  s1 o h
    subst ej22
    refine qe_aload_n dX0_times_22 0 rfl rfl trivial ?_
    refine qe_iconst (v := (1 : Int32)) dX0_times_23 rfl ?_
    refine qs_putZ (j := 2) tC_33 rfl fp_RX0_18 ⟨rfl, rfl⟩ dX0_times_24 h (fun s2 h => ?_)
    have e : s2 = o := Option.some.inj h
    subst e
    exact qe_vret dX0_times_27 rfl
  refine qe_aload_n dX0_times_0 0 rfl rfl trivial ?_
  refine qs_getL (j := 0) tC_33 rfl fl_RX0_9 dX0_times_1 ?_
  refine qe_lload_n dX0_times_4 1 rfl rfl ?_
  refine qm_b_elim h (fun a4 s3 hc h => ?_)
  refine qe_callS1 (st := []) kk_X0_times_X0_productFits (c_X0_productFits hc) rfl rfl (Nat.le_of_ble_eq_true rfl) dX0_times_5 ?_
  refine qe_if_eq (tgt := 22) dX0_times_8 rfl h (fun _ h => ?_) (fun _ h => ?_)
  · refine qe_sub [0] rfl ?_
    exact hj22  _ _ h
  · refine qe_aload_n dX0_times_11 0 rfl rfl trivial ?_
    refine qs_getL (j := 1) tC_33 rfl fl_RX0_15 dX0_times_12 ?_
    refine qe_lload_n dX0_times_15 2 rfl rfl ?_
    refine qm_b_elim h (fun a6 s5 hc h => ?_)
    refine qe_callS1 (st := []) kk_X0_times_X0_productFits (c_X0_productFits hc) rfl rfl (Nat.le_of_ble_eq_true rfl) dX0_times_16 ?_
    refine qe_if_ne (tgt := 28) dX0_times_19 rfl h (fun _ h => ?_) (fun _ h => ?_)
    · refine qe_aload_n dX0_times_28 0 rfl rfl trivial ?_
      refine qe_aload_n dX0_times_29 0 rfl rfl trivial ?_
      refine qs_getL (j := 0) tC_33 rfl fl_RX0_9 dX0_times_30 ?_
      refine qe_lload_n dX0_times_33 1 rfl rfl ?_
      refine qe_lmul dX0_times_34 ?_
      refine qe_aload_n dX0_times_35 0 rfl rfl trivial ?_
      refine qs_getL (j := 1) tC_33 rfl fl_RX0_15 dX0_times_36 ?_
      refine qe_lload_n dX0_times_39 2 rfl rfl ?_
      refine qe_lmul dX0_times_40 ?_
      refine qm_o_elim h (fun s7 hc h => ?_)
      refine qe_callV0 (st := []) kk_X0_times_X0_reduce (c_X0_reduce_33 hc) (qs_at tC_33) rfl rfl rfl (Nat.le_of_ble_eq_true rfl) dX0_times_41 ?_
      have e : s7 = o := Option.some.inj h
      subst e
      exact qe_vret dX0_times_44 rfl
    · refine qe_sub [0] rfl ?_
      exact hj22  _ _ h

set_option maxRecDepth 20000 in
theorem c_X8_overAllRuns_L50 {l : Launch} {G : qe_G} {k216 : qe_S → Option (Int64 × qe_S)} {v1 : Int32} {v2 : Int32} (hk216 : ∀  (s : qe_S) (o : Int64 × qe_S), k216  s = some o → qe_J l G MX8_overAllRuns 216 [(0, .ref 0), (1, .int v1)] [] (qs_w s (qs_TC G)) (some (.long o.1)) (qs_w o.2 (qs_TC G))) : ∀ (n : Nat) (v3 : Int32) (s0 : qe_S) (o : Int64 × qe_S), g_X8_overAllRuns_L50 k216 v1 v2 n v3 s0 = some o → qe_J l G MX8_overAllRuns 50 [(0, .ref 0), (1, .int v1), (2, .int v2), (3, .int v3)] [] (qs_w s0 (qs_TC G)) (some (.long o.1)) (qs_w o.2 (qs_TC G)) := by
  intro n
  induction n with
  | zero =>
    intro v3 s0 o h
    rw [g_X8_overAllRuns_L50] at h
    cases h
  | succ n ih =>
    intro v3 s0 o h
    rw [g_X8_overAllRuns_L50] at h
    refine qe_iload_n dX8_overAllRuns_50 3 rfl rfl ?_
    refine qe_aload_n dX8_overAllRuns_51 0 rfl rfl trivial ?_
    refine qs_getR (j := 6) tC_0 rfl fl_RX8_39 dX8_overAllRuns_52 ?_
    refine qs_getI (j := 0) tC_28 rfl fl_RX8_180 dX8_overAllRuns_55 ?_
    refine qe_icmp_ge (tgt := 216) dX8_overAllRuns_58 rfl h (fun _ h => ?_) (fun _ h => ?_)
    · refine qe_sub [0, 1] rfl ?_
      exact hk216  _ _ h
    · refine qm_j_elim h (fun j128 ej128 h => ?_)
      have hj128 : ∀  (s8 : qe_S) (o : Int64 × qe_S), j128  s8 = some o → qe_J l G MX8_overAllRuns 128 [(0, .ref 0), (1, .int v1), (2, .int v2), (3, .int v3)] [] (qs_w s8 (qs_TC G)) (some (.long o.1)) (qs_w o.2 (qs_TC G)) := by
        intro  s8 o h
        subst ej128
        refine qe_aload_n dX8_overAllRuns_128 0 rfl rfl trivial ?_
        refine qs_getR (j := 9) tC_0 rfl fl_RX8_53 dX8_overAllRuns_129 ?_
        refine qe_aload_n dX8_overAllRuns_132 0 rfl rfl trivial ?_
        refine qs_getR (j := 6) tC_0 rfl fl_RX8_39 dX8_overAllRuns_133 ?_
        refine qs_getR (j := 2) tC_28 rfl fl_RX8_188 dX8_overAllRuns_136 ?_
        refine qe_iload_n dX8_overAllRuns_139 3 rfl rfl ?_
        refine qs_lld tC_30 dX8_overAllRuns_140 h (fun b9 h => ?_)
        refine qe_aload_n dX8_overAllRuns_141 0 rfl rfl trivial ?_
        refine qs_getR (j := 4) tC_0 rfl fl_RX8_29 dX8_overAllRuns_142 ?_
        refine qs_getL (j := 0) tC_22 rfl fl_RX8_198 dX8_overAllRuns_145 ?_
        refine qm_o_elim h (fun s10 hc h => ?_)
        refine qe_callV0 (st := []) kk_X8_overAllRuns_X0_begin (c_X0_begin_34 hc) (qs_at tC_34) rfl rfl rfl (Nat.le_of_ble_eq_true rfl) dX8_overAllRuns_148 ?_
        refine qe_aload_n dX8_overAllRuns_151 0 rfl rfl trivial ?_
        refine qs_getR (j := 8) tC_0 rfl fl_RX8_50 dX8_overAllRuns_152 ?_
        refine qe_aload_n dX8_overAllRuns_155 0 rfl rfl trivial ?_
        refine qs_getR (j := 9) tC_0 rfl fl_RX8_53 dX8_overAllRuns_156 ?_
        refine qs_getL (j := 0) tC_34 rfl fl_RX8_327 dX8_overAllRuns_159 ?_
        refine qe_aload_n dX8_overAllRuns_162 0 rfl rfl trivial ?_
        refine qs_getR (j := 9) tC_0 rfl fl_RX8_53 dX8_overAllRuns_163 ?_
        refine qs_getL (j := 1) tC_34 rfl fl_RX8_329 dX8_overAllRuns_166 ?_
        refine qm_o_elim h (fun s11 hc h => ?_)
        refine qe_callV0 (st := []) kk_X8_overAllRuns_X0_times (c_X0_times hc) (qs_at tC_33) rfl rfl rfl (Nat.le_of_ble_eq_true rfl) dX8_overAllRuns_169 ?_
        refine qe_aload_n dX8_overAllRuns_172 0 rfl rfl trivial ?_
        refine qs_getR (j := 8) tC_0 rfl fl_RX8_50 dX8_overAllRuns_173 ?_
        refine qs_getI (j := 2) tC_33 rfl fl_RX8_324 dX8_overAllRuns_176 ?_
        refine qe_if_eq (tgt := 189) dX8_overAllRuns_179 rfl h (fun _ h => ?_) (fun _ h => ?_)
        · refine qe_aload_n dX8_overAllRuns_189 0 rfl rfl trivial ?_
          refine qs_getR (j := 7) tC_0 rfl fl_RX8_46 dX8_overAllRuns_190 ?_
          refine qe_aload_n dX8_overAllRuns_193 0 rfl rfl trivial ?_
          refine qs_getR (j := 8) tC_0 rfl fl_RX8_50 dX8_overAllRuns_194 ?_
          refine qs_getL (j := 0) tC_33 rfl fl_RX8_327 dX8_overAllRuns_197 ?_
          refine qe_aload_n dX8_overAllRuns_200 0 rfl rfl trivial ?_
          refine qs_getR (j := 8) tC_0 rfl fl_RX8_50 dX8_overAllRuns_201 ?_
          refine qs_getL (j := 1) tC_33 rfl fl_RX8_329 dX8_overAllRuns_204 ?_
          refine qm_o_elim h (fun s12 hc h => ?_)
          refine qe_callV0 (st := []) kk_X8_overAllRuns_X0_add (c_X0_add_32 hc) (qs_at tC_32) rfl rfl rfl (Nat.le_of_ble_eq_true rfl) dX8_overAllRuns_207 ?_
          refine qe_iincl (lv' := fun a13 => [(3, .int a13), (0, .ref 0), (1, .int v1), (2, .int v2)]) dX8_overAllRuns_210 3 rfl rfl (fun _ => rfl) (Nat.le_of_ble_eq_true rfl) h (fun a13 h => ?_)
          refine qe_goto (tgt := 50) dX8_overAllRuns_213 rfl ?_
          refine qe_sub [1, 2, 3, 0] rfl ?_
          exact ih _ _ _ h
        · refine qe_aload_n dX8_overAllRuns_182 0 rfl rfl trivial ?_
          refine qe_bipush (v := (-7 : Int32)) dX8_overAllRuns_183 rfl ?_
          refine qm_b_elim h (fun b15 s14 hc h => ?_)
          refine qe_callV1 (st := []) kk_X8_overAllRuns_X8_refuseLong (c_X8_refuseLong hc) (qs_at tC_0) rfl rfl rfl (Nat.le_of_ble_eq_true rfl) dX8_overAllRuns_185 ?_
          have e : (b15, s14) = o := Option.some.inj h
          subst e
          exact qe_lret dX8_overAllRuns_188 rfl
      refine qe_aload_n dX8_overAllRuns_61 0 rfl rfl trivial ?_
      refine qs_getR (j := 8) tC_0 rfl fl_RX8_50 dX8_overAllRuns_62 ?_
      refine qe_lconst (v := 0) dX8_overAllRuns_65 rfl ?_
      refine qe_lconst (v := 1) dX8_overAllRuns_66 rfl ?_
      refine qm_o_elim h (fun s16 hc h => ?_)
      refine qe_callV0 (st := []) kk_X8_overAllRuns_X0_begin (c_X0_begin_33 hc) (qs_at tC_33) rfl rfl rfl (Nat.le_of_ble_eq_true rfl) dX8_overAllRuns_67 ?_
      refine qe_aload_n dX8_overAllRuns_70 0 rfl rfl trivial ?_
      refine qe_aload_n dX8_overAllRuns_71 0 rfl rfl trivial ?_
      refine qs_getR (j := 8) tC_0 rfl fl_RX8_50 dX8_overAllRuns_72 ?_
      refine qe_aload_n dX8_overAllRuns_75 0 rfl rfl trivial ?_
      refine qs_getR (j := 6) tC_0 rfl fl_RX8_39 dX8_overAllRuns_76 ?_
      refine qs_getR (j := 3) tC_28 rfl fl_RX8_191 dX8_overAllRuns_79 ?_
      refine qe_iload_n dX8_overAllRuns_82 3 rfl rfl ?_
      refine qs_ild tC_31 dX8_overAllRuns_83 h (fun a17 h => ?_)
      refine qm_o_elim h (fun s18 hc h => ?_)
      refine qe_callV0 (st := []) kk_X8_overAllRuns_X8_addEstimate (c_X8_addEstimate_0_33 hc) (qs_at tC_0) rfl rfl rfl (Nat.le_of_ble_eq_true rfl) dX8_overAllRuns_84 ?_
      refine qe_iload_n dX8_overAllRuns_87 2 rfl rfl ?_
      refine qe_if_eq (tgt := 128) dX8_overAllRuns_88 rfl h (fun _ h => ?_) (fun _ h => ?_)
      · exact hj128  _ _ h
      · refine qe_aload_n dX8_overAllRuns_91 0 rfl rfl trivial ?_
        refine qs_getR (j := 8) tC_0 rfl fl_RX8_50 dX8_overAllRuns_92 ?_
        refine qe_aload_n dX8_overAllRuns_95 0 rfl rfl trivial ?_
        refine qs_getR (j := 0) tC_0 rfl fl_RX8_12 dX8_overAllRuns_96 ?_
        refine qm_b_elim h (fun b20 s19 hc h => ?_)
        refine qe_callV1 (st := [.ref 33]) kk_X8_overAllRuns_X3_marksTogether (c_X3_marksTogether hc) (qs_at tC_1) rfl rfl rfl (Nat.le_of_ble_eq_true rfl) dX8_overAllRuns_99 ?_
        refine qe_lneg dX8_overAllRuns_102 ?_
        refine qe_lconst (v := 1) dX8_overAllRuns_103 rfl ?_
        refine qm_o_elim h (fun s21 hc h => ?_)
        refine qe_callV0 (st := []) kk_X8_overAllRuns_X0_add (c_X0_add_33 hc) (qs_at tC_33) rfl rfl rfl (Nat.le_of_ble_eq_true rfl) dX8_overAllRuns_104 ?_
        refine qe_aload_n dX8_overAllRuns_107 0 rfl rfl trivial ?_
        refine qs_getR (j := 8) tC_0 rfl fl_RX8_50 dX8_overAllRuns_108 ?_
        refine qe_aload_n dX8_overAllRuns_111 0 rfl rfl trivial ?_
        refine qs_getR (j := 8) tC_0 rfl fl_RX8_50 dX8_overAllRuns_112 ?_
        refine qs_getL (j := 0) tC_33 rfl fl_RX8_327 dX8_overAllRuns_115 ?_
        refine qe_aload_n dX8_overAllRuns_118 0 rfl rfl trivial ?_
        refine qs_getR (j := 8) tC_0 rfl fl_RX8_50 dX8_overAllRuns_119 ?_
        refine qs_getL (j := 1) tC_33 rfl fl_RX8_329 dX8_overAllRuns_122 ?_
        refine qm_o_elim h (fun s22 hc h => ?_)
        refine qe_callV0 (st := []) kk_X8_overAllRuns_X0_times (c_X0_times hc) (qs_at tC_33) rfl rfl rfl (Nat.le_of_ble_eq_true rfl) dX8_overAllRuns_125 ?_
        exact hj128  _ _ h

set_option maxRecDepth 20000 in
theorem c_X8_overAllRuns {l : Launch} {G : qe_G} {v1 : Int32} {v2 : Int32} {s0 : qe_S} {o : Int64 × qe_S} (h : g_X8_overAllRuns v1 v2 s0 = some o) : qe_C l G MX8_overAllRuns [.ref 0, .int v1, .int v2] (qs_w s0 (qs_TC G)) (some (.long o.1)) (qs_w o.2 (qs_TC G)) := by
  refine qe_C.of (by decide +kernel) (Nat.le_of_ble_eq_true rfl) ?_
  show qe_J l G MX8_overAllRuns 0 [(0, .ref 0), (1, .int v1), (2, .int v2)] [] (qs_w s0 (qs_TC G)) (some (.long o.1)) (qs_w o.2 (qs_TC G))
  unfold g_X8_overAllRuns at h
  refine qe_iload_n dX8_overAllRuns_0 1 rfl rfl ?_
  refine qm_b_elim h (fun a2 s1 hc h => ?_)
  refine qe_callS1 (st := []) kk_X8_overAllRuns_X8_isPart (c_X8_isPart hc) rfl rfl (Nat.le_of_ble_eq_true rfl) dX8_overAllRuns_1 ?_
  refine qe_if_ne (tgt := 14) dX8_overAllRuns_4 rfl h (fun _ h => ?_) (fun _ h => ?_)
  · refine qe_aload_n dX8_overAllRuns_14 0 rfl rfl trivial ?_
    refine qm_b_elim h (fun a4 s3 hc h => ?_)
    refine qe_callV1 (st := []) kk_X8_overAllRuns_X8_layWheel (c_X8_layWheel hc) (qs_at tC_0) rfl rfl rfl (Nat.le_of_ble_eq_true rfl) dX8_overAllRuns_15 ?_
    refine qe_if_ne (tgt := 28) dX8_overAllRuns_18 rfl h (fun _ h => ?_) (fun _ h => ?_)
    · refine qe_aload_n dX8_overAllRuns_28 0 rfl rfl trivial ?_
      refine qs_getR (j := 6) tC_0 rfl fl_RX8_39 dX8_overAllRuns_29 ?_
      refine qe_aload_n dX8_overAllRuns_32 0 rfl rfl trivial ?_
      refine qs_getR (j := 4) tC_0 rfl fl_RX8_29 dX8_overAllRuns_33 ?_
      refine qm_o_elim h (fun s5 hc h => ?_)
      refine qe_callV0 (st := []) kk_X8_overAllRuns_X5_trace (c_X5_trace hc) (qs_at tC_28) rfl rfl rfl (Nat.le_of_ble_eq_true rfl) dX8_overAllRuns_36 ?_
      refine qe_aload_n dX8_overAllRuns_39 0 rfl rfl trivial ?_
      refine qs_getR (j := 7) tC_0 rfl fl_RX8_46 dX8_overAllRuns_40 ?_
      refine qe_lconst (v := 0) dX8_overAllRuns_43 rfl ?_
      refine qe_lconst (v := 1) dX8_overAllRuns_44 rfl ?_
      refine qm_o_elim h (fun s6 hc h => ?_)
      refine qe_callV0 (st := []) kk_X8_overAllRuns_X0_begin (c_X0_begin_32 hc) (qs_at tC_32) rfl rfl rfl (Nat.le_of_ble_eq_true rfl) dX8_overAllRuns_45 ?_
      refine qe_iconst (v := (0 : Int32)) dX8_overAllRuns_48 rfl ?_
      refine qe_let_i h (fun a7 h => ?_)
      refine qe_istore_n (lv' := [(3, .int a7), (0, .ref 0), (1, .int v1), (2, .int v2)]) dX8_overAllRuns_49 rfl rfl (Nat.le_of_ble_eq_true rfl) ?_
      refine qe_sub [1, 2, 3, 0] rfl ?_
      refine c_X8_overAllRuns_L50
        (fun  s23 o h => ?_) _ _ _ _ h
      refine qe_aload_n dX8_overAllRuns_216 0 rfl rfl trivial ?_
      refine qe_aload_n dX8_overAllRuns_217 0 rfl rfl trivial ?_
      refine qs_getR (j := 7) tC_0 rfl fl_RX8_46 dX8_overAllRuns_218 ?_
      refine qe_iload_n dX8_overAllRuns_221 1 rfl rfl ?_
      refine qm_b_elim h (fun b25 s24 hc h => ?_)
      refine qe_callV1 (st := []) kk_X8_overAllRuns_X8_partOf (c_X8_partOf hc) (qs_at tC_0) rfl rfl rfl (Nat.le_of_ble_eq_true rfl) dX8_overAllRuns_222 ?_
      have e : (b25, s24) = o := Option.some.inj h
      subst e
      exact qe_lret dX8_overAllRuns_225 rfl
    · refine qe_aload_n dX8_overAllRuns_21 0 rfl rfl trivial ?_
      refine qe_bipush (v := (-7 : Int32)) dX8_overAllRuns_22 rfl ?_
      refine qm_b_elim h (fun b27 s26 hc h => ?_)
      refine qe_callV1 (st := []) kk_X8_overAllRuns_X8_refuseLong (c_X8_refuseLong hc) (qs_at tC_0) rfl rfl rfl (Nat.le_of_ble_eq_true rfl) dX8_overAllRuns_24 ?_
      have e : (b27, s26) = o := Option.some.inj h
      subst e
      exact qe_lret dX8_overAllRuns_27 rfl
  · refine qe_aload_n dX8_overAllRuns_7 0 rfl rfl trivial ?_
    refine qe_bipush (v := (-2 : Int32)) dX8_overAllRuns_8 rfl ?_
    refine qm_b_elim h (fun b29 s28 hc h => ?_)
    refine qe_callV1 (st := []) kk_X8_overAllRuns_X8_refuseLong (c_X8_refuseLong hc) (qs_at tC_0) rfl rfl rfl (Nat.le_of_ble_eq_true rfl) dX8_overAllRuns_10 ?_
    have e : (b29, s28) = o := Option.some.inj h
    subst e
    exact qe_lret dX8_overAllRuns_13 rfl

set_option maxRecDepth 20000 in
theorem c_X8_mean {l : Launch} {G : qe_G} {v1 : Int32} {s0 : qe_S} {o : Int64 × qe_S} (h : g_X8_mean v1 s0 = some o) : qe_C l G MX8_mean [.ref 0, .int v1] (qs_w s0 (qs_TC G)) (some (.long o.1)) (qs_w o.2 (qs_TC G)) := by
  refine qe_C.of (by decide +kernel) (Nat.le_of_ble_eq_true rfl) ?_
  show qe_J l G MX8_mean 0 [(0, .ref 0), (1, .int v1)] [] (qs_w s0 (qs_TC G)) (some (.long o.1)) (qs_w o.2 (qs_TC G))
  unfold g_X8_mean at h
  refine qe_aload_n dX8_mean_0 0 rfl rfl trivial ?_
  refine qe_iload_n dX8_mean_1 1 rfl rfl ?_
  refine qe_iconst (v := (0 : Int32)) dX8_mean_2 rfl ?_
  refine qm_b_elim h (fun b2 s1 hc h => ?_)
  refine qe_callV1 (st := []) kk_X8_mean_X8_overAllRuns (c_X8_overAllRuns hc) (qs_at tC_0) rfl rfl rfl (Nat.le_of_ble_eq_true rfl) dX8_mean_3 ?_
  have e : (b2, s1) = o := Option.some.inj h
  subst e
  exact qe_lret dX8_mean_6 rfl

set_option maxRecDepth 20000 in
theorem c_X8_spread {l : Launch} {G : qe_G} {v1 : Int32} {s0 : qe_S} {o : Int64 × qe_S} (h : g_X8_spread v1 s0 = some o) : qe_C l G MX8_spread [.ref 0, .int v1] (qs_w s0 (qs_TC G)) (some (.long o.1)) (qs_w o.2 (qs_TC G)) := by
  refine qe_C.of (by decide +kernel) (Nat.le_of_ble_eq_true rfl) ?_
  show qe_J l G MX8_spread 0 [(0, .ref 0), (1, .int v1)] [] (qs_w s0 (qs_TC G)) (some (.long o.1)) (qs_w o.2 (qs_TC G))
  unfold g_X8_spread at h
  refine qe_aload_n dX8_spread_0 0 rfl rfl trivial ?_
  refine qe_iload_n dX8_spread_1 1 rfl rfl ?_
  refine qe_iconst (v := (1 : Int32)) dX8_spread_2 rfl ?_
  refine qm_b_elim h (fun b2 s1 hc h => ?_)
  refine qe_callV1 (st := []) kk_X8_spread_X8_overAllRuns (c_X8_overAllRuns hc) (qs_at tC_0) rfl rfl rfl (Nat.le_of_ble_eq_true rfl) dX8_spread_3 ?_
  have e : (b2, s1) = o := Option.some.inj h
  subst e
  exact qe_lret dX8_spread_6 rfl

set_option maxRecDepth 20000 in
theorem c_X8_twice {l : Launch} {G : qe_G} {v1 : Int32} {v2 : Int32} {s0 : qe_S} {o : Int32 × qe_S} (h : g_X8_twice v1 v2 s0 = some o) : qe_C l G MX8_twice [.ref 0, .int v1, .int v2] (qs_w s0 (qs_TC G)) (some (.int o.1)) (qs_w o.2 (qs_TC G)) := by
  refine qe_C.of (by decide +kernel) (Nat.le_of_ble_eq_true rfl) ?_
  show qe_J l G MX8_twice 0 [(0, .ref 0), (1, .int v1), (2, .int v2)] [] (qs_w s0 (qs_TC G)) (some (.int o.1)) (qs_w o.2 (qs_TC G))
  unfold g_X8_twice at h
  refine qe_aload_n dX8_twice_0 0 rfl rfl trivial ?_
  refine qm_b_elim h (fun a2 s1 hc h => ?_)
  refine qe_callV1 (st := []) kk_X8_twice_X8_layWheel (c_X8_layWheel hc) (qs_at tC_0) rfl rfl rfl (Nat.le_of_ble_eq_true rfl) dX8_twice_1 ?_
  refine qe_if_ne (tgt := 14) dX8_twice_4 rfl h (fun _ h => ?_) (fun _ h => ?_)
  · refine qe_aload_n dX8_twice_14 0 rfl rfl trivial ?_
    refine qs_getR (j := 0) tC_0 rfl fl_RX8_12 dX8_twice_15 ?_
    refine qe_iconst (v := (1 : Int32)) dX8_twice_18 rfl ?_
    refine qm_b_elim h (fun b4 s3 hc h => ?_)
    refine qe_callV1 (st := []) kk_X8_twice_X3_places (c_X3_places hc) (qs_at tC_1) rfl rfl rfl (Nat.le_of_ble_eq_true rfl) dX8_twice_19 ?_
    refine qe_lstore_n (lv' := [(3, .long b4), (0, .ref 0), (1, .int v1), (2, .int v2)]) dX8_twice_22 rfl rfl (Nat.le_of_ble_eq_true rfl) ?_
    refine qe_lload_n dX8_twice_23 0 rfl rfl ?_
    refine qe_lconst (v := 1) dX8_twice_24 rfl ?_
    refine qe_lcmp_ge (tgt := 36) dX8_twice_25 dX8_twice_26 rfl h (fun _ h => ?_) (fun _ h => ?_)
    · refine qe_aload_n dX8_twice_36 1 rfl rfl trivial ?_
      refine qs_getR (j := 4) tC_0 rfl fl_RX8_29 dX8_twice_37 ?_
      refine qe_iload_n dX8_twice_40 2 rfl rfl ?_
      refine qm_b_elim h (fun a6 s5 hc h => ?_)
      refine qe_callV1 (st := []) kk_X8_twice_X7_hasPlace (c_X7_hasPlace hc) (qs_at tC_22) rfl rfl rfl (Nat.le_of_ble_eq_true rfl) dX8_twice_41 ?_
      refine qe_if_eq (tgt := 58) dX8_twice_44 rfl h (fun _ h => ?_) (fun _ h => ?_)
      · refine qe_aload_n dX8_twice_58 1 rfl rfl trivial ?_
        refine qe_bipush (v := (-2 : Int32)) dX8_twice_59 rfl ?_
        refine qm_b_elim h (fun a8 s7 hc h => ?_)
        refine qe_callV1 (st := []) kk_X8_twice_X8_refuse (c_X8_refuse hc) (qs_at tC_0) rfl rfl rfl (Nat.le_of_ble_eq_true rfl) dX8_twice_61 ?_
        have e : (a8, s7) = o := Option.some.inj h
        subst e
        exact qe_iret dX8_twice_64 rfl
      · refine qe_iload_n dX8_twice_47 3 rfl rfl ?_
        refine qe_if_lt (tgt := 58) dX8_twice_48 rfl h (fun _ h => ?_) (fun _ h => ?_)
        · refine qe_aload_n dX8_twice_58 1 rfl rfl trivial ?_
          refine qe_bipush (v := (-2 : Int32)) dX8_twice_59 rfl ?_
          refine qm_b_elim h (fun a10 s9 hc h => ?_)
          refine qe_callV1 (st := []) kk_X8_twice_X8_refuse (c_X8_refuse hc) (qs_at tC_0) rfl rfl rfl (Nat.le_of_ble_eq_true rfl) dX8_twice_61 ?_
          have e : (a10, s9) = o := Option.some.inj h
          subst e
          exact qe_iret dX8_twice_64 rfl
        · refine qe_iload_n dX8_twice_51 3 rfl rfl ?_
          refine qe_i2l dX8_twice_52 ?_
          refine qe_lload_n dX8_twice_53 0 rfl rfl ?_
          refine qe_lcmp_lt (tgt := 65) dX8_twice_54 dX8_twice_55 rfl h (fun _ h => ?_) (fun _ h => ?_)
          · refine qe_aload_n dX8_twice_65 1 rfl rfl trivial ?_
            refine qs_getR (j := 5) tC_0 rfl fl_RX8_33 dX8_twice_66 ?_
            refine qe_aload_n dX8_twice_69 1 rfl rfl trivial ?_
            refine qs_getR (j := 0) tC_0 rfl fl_RX8_12 dX8_twice_70 ?_
            refine qe_iconst (v := (1 : Int32)) dX8_twice_73 rfl ?_
            refine qe_lload_n dX8_twice_74 0 rfl rfl ?_
            refine qe_aload_n dX8_twice_75 1 rfl rfl trivial ?_
            refine qs_getR (j := 4) tC_0 rfl fl_RX8_29 dX8_twice_76 ?_
            refine qe_iload_n dX8_twice_79 2 rfl rfl ?_
            refine qe_i2l dX8_twice_80 ?_
            refine qm_b_elim h (fun a12 s11 hc h => ?_)
            refine qe_callV1 (st := [.long b4, .int (1 : Int32), .ref 1, .ref 25]) kk_X8_twice_X7_chosenBy (c_X7_chosenBy_22 hc) (qs_at tC_22) rfl rfl rfl (Nat.le_of_ble_eq_true rfl) dX8_twice_81 ?_
            refine qm_o_elim h (fun s13 hc h => ?_)
            refine qe_callV0 (st := []) kk_X8_twice_X7_lay (c_X7_lay_25_1 hc) (qs_at tC_25) rfl rfl rfl (Nat.le_of_ble_eq_true rfl) dX8_twice_84 ?_
            refine qe_aload_n dX8_twice_87 1 rfl rfl trivial ?_
            refine qs_getR (j := 5) tC_0 rfl fl_RX8_33 dX8_twice_88 ?_
            refine qe_iload_n dX8_twice_91 3 rfl rfl ?_
            refine qe_i2l dX8_twice_92 ?_
            refine qm_b_elim h (fun a15 s14 hc h => ?_)
            refine qe_callV1 (st := []) kk_X8_twice_X7_chosenBy (c_X7_chosenBy_25 hc) (qs_at tC_25) rfl rfl rfl (Nat.le_of_ble_eq_true rfl) dX8_twice_93 ?_
            have e : (a15, s14) = o := Option.some.inj h
            subst e
            exact qe_iret dX8_twice_96 rfl
          · refine qe_aload_n dX8_twice_58 1 rfl rfl trivial ?_
            refine qe_bipush (v := (-2 : Int32)) dX8_twice_59 rfl ?_
            refine qm_b_elim h (fun a17 s16 hc h => ?_)
            refine qe_callV1 (st := []) kk_X8_twice_X8_refuse (c_X8_refuse hc) (qs_at tC_0) rfl rfl rfl (Nat.le_of_ble_eq_true rfl) dX8_twice_61 ?_
            have e : (a17, s16) = o := Option.some.inj h
            subst e
            exact qe_iret dX8_twice_64 rfl
    · refine qe_aload_n dX8_twice_29 1 rfl rfl trivial ?_
      refine qe_bipush (v := (-7 : Int32)) dX8_twice_30 rfl ?_
      refine qm_b_elim h (fun a19 s18 hc h => ?_)
      refine qe_callV1 (st := []) kk_X8_twice_X8_refuse (c_X8_refuse hc) (qs_at tC_0) rfl rfl rfl (Nat.le_of_ble_eq_true rfl) dX8_twice_32 ?_
      have e : (a19, s18) = o := Option.some.inj h
      subst e
      exact qe_iret dX8_twice_35 rfl
  · refine qe_aload_n dX8_twice_7 0 rfl rfl trivial ?_
    refine qe_bipush (v := (-7 : Int32)) dX8_twice_8 rfl ?_
    refine qm_b_elim h (fun a21 s20 hc h => ?_)
    refine qe_callV1 (st := []) kk_X8_twice_X8_refuse (c_X8_refuse hc) (qs_at tC_0) rfl rfl rfl (Nat.le_of_ble_eq_true rfl) dX8_twice_10 ?_
    have e : (a21, s20) = o := Option.some.inj h
    subst e
    exact qe_iret dX8_twice_13 rfl

set_option maxRecDepth 20000 in
theorem c_X8_pairsOfBoth_L17 {l : Launch} {G : qe_G} {v1 : Int32} {v2 : Int32} {v3 : Int64} : ∀ (n : Nat) (v5 : Int64) (v7 : Int32) (s0 : qe_S) (o : Int64 × qe_S), g_X8_pairsOfBoth_L17 v1 v2 v3 n v5 v7 s0 = some o → qe_J l G MX8_pairsOfBoth 17 [(0, .ref 0), (1, .int v1), (2, .int v2), (3, .long v3), (5, .long v5), (7, .int v7)] [] (qs_w s0 (qs_TC G)) (some (.long o.1)) (qs_w o.2 (qs_TC G)) := by
  intro n
  induction n with
  | zero =>
    intro v5 v7 s0 o h
    rw [g_X8_pairsOfBoth_L17] at h
    cases h
  | succ n ih =>
    intro v5 v7 s0 o h
    rw [g_X8_pairsOfBoth_L17] at h
    refine qe_iload dX8_pairsOfBoth_17 5 rfl ?_
    refine qe_aload_n dX8_pairsOfBoth_19 0 rfl rfl trivial ?_
    refine qs_getR (j := 6) tC_0 rfl fl_RX8_39 dX8_pairsOfBoth_20 ?_
    refine qs_getI (j := 0) tC_28 rfl fl_RX8_180 dX8_pairsOfBoth_23 ?_
    refine qe_icmp_ge (tgt := 83) dX8_pairsOfBoth_26 rfl h (fun _ h => ?_) (fun _ h => ?_)
    · refine qe_lload dX8_pairsOfBoth_83 4 rfl ?_
      have e : (v5, s0) = o := Option.some.inj h
      subst e
      exact qe_lret dX8_pairsOfBoth_85 rfl
    · refine qe_aload_n dX8_pairsOfBoth_29 0 rfl rfl trivial ?_
      refine qs_getR (j := 5) tC_0 rfl fl_RX8_33 dX8_pairsOfBoth_30 ?_
      refine qe_aload_n dX8_pairsOfBoth_33 0 rfl rfl trivial ?_
      refine qs_getR (j := 0) tC_0 rfl fl_RX8_12 dX8_pairsOfBoth_34 ?_
      refine qe_iconst (v := (1 : Int32)) dX8_pairsOfBoth_37 rfl ?_
      refine qe_lload_n dX8_pairsOfBoth_38 3 rfl rfl ?_
      refine qe_aload_n dX8_pairsOfBoth_39 0 rfl rfl trivial ?_
      refine qs_getR (j := 6) tC_0 rfl fl_RX8_39 dX8_pairsOfBoth_40 ?_
      refine qs_getR (j := 3) tC_28 rfl fl_RX8_191 dX8_pairsOfBoth_43 ?_
      refine qe_iload dX8_pairsOfBoth_46 5 rfl ?_
      refine qs_ild tC_31 dX8_pairsOfBoth_48 h (fun a4 h => ?_)
      refine qm_o_elim h (fun s5 hc h => ?_)
      refine qe_callV0 (st := []) kk_X8_pairsOfBoth_X7_lay (c_X7_lay_25_1 hc) (qs_at tC_25) rfl rfl rfl (Nat.le_of_ble_eq_true rfl) dX8_pairsOfBoth_49 ?_
      refine qe_lload dX8_pairsOfBoth_52 4 rfl ?_
      refine qe_aload_n dX8_pairsOfBoth_54 0 rfl rfl trivial ?_
      refine qs_getR (j := 6) tC_0 rfl fl_RX8_39 dX8_pairsOfBoth_55 ?_
      refine qs_getR (j := 2) tC_28 rfl fl_RX8_188 dX8_pairsOfBoth_58 ?_
      refine qe_iload dX8_pairsOfBoth_61 5 rfl ?_
      refine qs_lld tC_30 dX8_pairsOfBoth_63 h (fun b6 h => ?_)
      refine qe_aload_n dX8_pairsOfBoth_64 0 rfl rfl trivial ?_
      refine qs_getR (j := 5) tC_0 rfl fl_RX8_33 dX8_pairsOfBoth_65 ?_
      refine qe_iload_n dX8_pairsOfBoth_68 1 rfl rfl ?_
      refine qe_iload_n dX8_pairsOfBoth_69 2 rfl rfl ?_
      refine qm_b_elim h (fun b8 s7 hc h => ?_)
      refine qe_callV1 (st := [.long b6, .long v5]) kk_X8_pairsOfBoth_X7_together (c_X7_together_25 hc) (qs_at tC_25) rfl rfl rfl (Nat.le_of_ble_eq_true rfl) dX8_pairsOfBoth_70 ?_
      refine qe_lmul dX8_pairsOfBoth_73 ?_
      refine qe_ladd dX8_pairsOfBoth_74 ?_
      refine qe_let_l h (fun b9 h => ?_)
      refine qe_lstore (lv' := [(5, .long b9), (0, .ref 0), (1, .int v1), (2, .int v2), (3, .long v3), (7, .int v7)]) dX8_pairsOfBoth_75 rfl (Nat.le_of_ble_eq_true rfl) ?_
      refine qe_iincl (lv' := fun a10 => [(7, .int a10), (5, .long b9), (0, .ref 0), (1, .int v1), (2, .int v2), (3, .long v3)]) dX8_pairsOfBoth_77 5 rfl rfl (fun _ => rfl) (Nat.le_of_ble_eq_true rfl) h (fun a10 h => ?_)
      refine qe_goto (tgt := 17) dX8_pairsOfBoth_80 rfl ?_
      refine qe_sub [2, 3, 4, 5, 1, 0] rfl ?_
      exact ih _ _ _ _ h

set_option maxRecDepth 20000 in
theorem c_X8_pairsOfBoth {l : Launch} {G : qe_G} {v1 : Int32} {v2 : Int32} {v3 : Int64} {s0 : qe_S} {o : Int64 × qe_S} (h : g_X8_pairsOfBoth v1 v2 v3 s0 = some o) : qe_C l G MX8_pairsOfBoth [.ref 0, .int v1, .int v2, .long v3] (qs_w s0 (qs_TC G)) (some (.long o.1)) (qs_w o.2 (qs_TC G)) := by
  refine qe_C.of (by decide +kernel) (Nat.le_of_ble_eq_true rfl) ?_
  show qe_J l G MX8_pairsOfBoth 0 [(0, .ref 0), (1, .int v1), (2, .int v2), (3, .long v3)] [] (qs_w s0 (qs_TC G)) (some (.long o.1)) (qs_w o.2 (qs_TC G))
  unfold g_X8_pairsOfBoth at h
  refine qe_aload_n dX8_pairsOfBoth_0 0 rfl rfl trivial ?_
  refine qs_getR (j := 6) tC_0 rfl fl_RX8_39 dX8_pairsOfBoth_1 ?_
  refine qe_aload_n dX8_pairsOfBoth_4 0 rfl rfl trivial ?_
  refine qs_getR (j := 4) tC_0 rfl fl_RX8_29 dX8_pairsOfBoth_5 ?_
  refine qm_o_elim h (fun s1 hc h => ?_)
  refine qe_callV0 (st := []) kk_X8_pairsOfBoth_X5_trace (c_X5_trace hc) (qs_at tC_28) rfl rfl rfl (Nat.le_of_ble_eq_true rfl) dX8_pairsOfBoth_8 ?_
  refine qe_lconst (v := 0) dX8_pairsOfBoth_11 rfl ?_
  refine qe_let_l h (fun b2 h => ?_)
  refine qe_lstore (lv' := [(5, .long b2), (0, .ref 0), (1, .int v1), (2, .int v2), (3, .long v3)]) dX8_pairsOfBoth_12 rfl (Nat.le_of_ble_eq_true rfl) ?_
  refine qe_iconst (v := (0 : Int32)) dX8_pairsOfBoth_14 rfl ?_
  refine qe_let_i h (fun a3 h => ?_)
  refine qe_istore (lv' := [(7, .int a3), (5, .long b2), (0, .ref 0), (1, .int v1), (2, .int v2), (3, .long v3)]) dX8_pairsOfBoth_15 rfl (Nat.le_of_ble_eq_true rfl) ?_
  refine qe_sub [2, 3, 4, 5, 1, 0] rfl ?_
  refine c_X8_pairsOfBoth_L17 _ _ _ _ _ h

set_option maxRecDepth 20000 in
theorem c_X8_both {l : Launch} {G : qe_G} {v1 : Int32} {v2 : Int32} {v3 : Int32} {s0 : qe_S} {o : Int64 × qe_S} (h : g_X8_both v1 v2 v3 s0 = some o) : qe_C l G MX8_both [.ref 0, .int v1, .int v2, .int v3] (qs_w s0 (qs_TC G)) (some (.long o.1)) (qs_w o.2 (qs_TC G)) := by
  refine qe_C.of (by decide +kernel) (Nat.le_of_ble_eq_true rfl) ?_
  show qe_J l G MX8_both 0 [(0, .ref 0), (1, .int v1), (2, .int v2), (3, .int v3)] [] (qs_w s0 (qs_TC G)) (some (.long o.1)) (qs_w o.2 (qs_TC G))
  unfold g_X8_both at h
  refine qe_aload_n dX8_both_0 0 rfl rfl trivial ?_
  refine qs_getR (j := 0) tC_0 rfl fl_RX8_12 dX8_both_1 ?_
  refine qe_iload_n dX8_both_4 1 rfl rfl ?_
  refine qm_b_elim h (fun a2 s1 hc h => ?_)
  refine qe_callV1 (st := []) kk_X8_both_X3_has (c_X3_has hc) (qs_at tC_1) rfl rfl rfl (Nat.le_of_ble_eq_true rfl) dX8_both_5 ?_
  refine qe_if_eq (tgt := 22) dX8_both_8 rfl h (fun _ h => ?_) (fun _ h => ?_)
  · refine qe_aload_n dX8_both_22 0 rfl rfl trivial ?_
    refine qe_iconst (v := (-1 : Int32)) dX8_both_23 rfl ?_
    refine qm_b_elim h (fun b4 s3 hc h => ?_)
    refine qe_callV1 (st := []) kk_X8_both_X8_refuseLong (c_X8_refuseLong hc) (qs_at tC_0) rfl rfl rfl (Nat.le_of_ble_eq_true rfl) dX8_both_24 ?_
    have e : (b4, s3) = o := Option.some.inj h
    subst e
    exact qe_lret dX8_both_27 rfl
  · refine qe_aload_n dX8_both_11 0 rfl rfl trivial ?_
    refine qs_getR (j := 0) tC_0 rfl fl_RX8_12 dX8_both_12 ?_
    refine qe_iload_n dX8_both_15 2 rfl rfl ?_
    refine qm_b_elim h (fun a6 s5 hc h => ?_)
    refine qe_callV1 (st := []) kk_X8_both_X3_has (c_X3_has hc) (qs_at tC_1) rfl rfl rfl (Nat.le_of_ble_eq_true rfl) dX8_both_16 ?_
    refine qe_if_ne (tgt := 28) dX8_both_19 rfl h (fun _ h => ?_) (fun _ h => ?_)
    · refine qe_iload_n dX8_both_28 3 rfl rfl ?_
      refine qm_b_elim h (fun a8 s7 hc h => ?_)
      refine qe_callS1 (st := []) kk_X8_both_X8_isPart (c_X8_isPart hc) rfl rfl (Nat.le_of_ble_eq_true rfl) dX8_both_29 ?_
      refine qe_if_ne (tgt := 42) dX8_both_32 rfl h (fun _ h => ?_) (fun _ h => ?_)
      · refine qe_aload_n dX8_both_42 0 rfl rfl trivial ?_
        refine qs_getR (j := 0) tC_0 rfl fl_RX8_12 dX8_both_43 ?_
        refine qe_iconst (v := (1 : Int32)) dX8_both_46 rfl ?_
        refine qm_b_elim h (fun b10 s9 hc h => ?_)
        refine qe_callV1 (st := []) kk_X8_both_X3_places (c_X3_places hc) (qs_at tC_1) rfl rfl rfl (Nat.le_of_ble_eq_true rfl) dX8_both_47 ?_
        refine qe_lstore (lv' := [(4, .long b10), (0, .ref 0), (1, .int v1), (2, .int v2), (3, .int v3)]) dX8_both_50 rfl (Nat.le_of_ble_eq_true rfl) ?_
        refine qe_aload_n dX8_both_52 1 rfl rfl trivial ?_
        refine qm_b_elim h (fun a12 s11 hc h => ?_)
        refine qe_callV1 (st := []) kk_X8_both_X8_layWheel (c_X8_layWheel hc) (qs_at tC_0) rfl rfl rfl (Nat.le_of_ble_eq_true rfl) dX8_both_53 ?_
        refine qe_if_eq (tgt := 66) dX8_both_56 rfl h (fun _ h => ?_) (fun _ h => ?_)
        · refine qe_aload_n dX8_both_66 1 rfl rfl trivial ?_
          refine qe_bipush (v := (-7 : Int32)) dX8_both_67 rfl ?_
          refine qm_b_elim h (fun b14 s13 hc h => ?_)
          refine qe_callV1 (st := []) kk_X8_both_X8_refuseLong (c_X8_refuseLong hc) (qs_at tC_0) rfl rfl rfl (Nat.le_of_ble_eq_true rfl) dX8_both_69 ?_
          have e : (b14, s13) = o := Option.some.inj h
          subst e
          exact qe_lret dX8_both_72 rfl
        · refine qe_lload dX8_both_59 0 rfl ?_
          refine qe_lconst (v := 1) dX8_both_61 rfl ?_
          refine qe_lcmp_ge (tgt := 73) dX8_both_62 dX8_both_63 rfl h (fun _ h => ?_) (fun _ h => ?_)
          · refine qe_aload_n dX8_both_73 1 rfl rfl trivial ?_
            refine qe_aload_n dX8_both_74 1 rfl rfl trivial ?_
            refine qe_iload_n dX8_both_75 2 rfl rfl ?_
            refine qe_iload_n dX8_both_76 3 rfl rfl ?_
            refine qe_lload dX8_both_77 0 rfl ?_
            refine qm_b_elim h (fun b16 s15 hc h => ?_)
            refine qe_callV1 (st := [.ref 0]) kk_X8_both_X8_pairsOfBoth (c_X8_pairsOfBoth hc) (qs_at tC_0) rfl rfl rfl (Nat.le_of_ble_eq_true rfl) dX8_both_79 ?_
            refine qe_aload_n dX8_both_82 1 rfl rfl trivial ?_
            refine qs_getR (j := 4) tC_0 rfl fl_RX8_29 dX8_both_83 ?_
            refine qs_getL (j := 0) tC_22 rfl fl_RX8_198 dX8_both_86 ?_
            refine qe_lload dX8_both_89 0 rfl ?_
            refine qe_lmul dX8_both_91 ?_
            refine qe_iload_n dX8_both_92 4 rfl rfl ?_
            refine qm_b_elim h (fun b18 s17 hc h => ?_)
            refine qe_callV1 (st := []) kk_X8_both_X8_lowest (c_X8_lowest hc) (qs_at tC_0) rfl rfl rfl (Nat.le_of_ble_eq_true rfl) dX8_both_93 ?_
            have e : (b18, s17) = o := Option.some.inj h
            subst e
            exact qe_lret dX8_both_96 rfl
          · refine qe_aload_n dX8_both_66 1 rfl rfl trivial ?_
            refine qe_bipush (v := (-7 : Int32)) dX8_both_67 rfl ?_
            refine qm_b_elim h (fun b20 s19 hc h => ?_)
            refine qe_callV1 (st := []) kk_X8_both_X8_refuseLong (c_X8_refuseLong hc) (qs_at tC_0) rfl rfl rfl (Nat.le_of_ble_eq_true rfl) dX8_both_69 ?_
            have e : (b20, s19) = o := Option.some.inj h
            subst e
            exact qe_lret dX8_both_72 rfl
      · refine qe_aload_n dX8_both_35 0 rfl rfl trivial ?_
        refine qe_bipush (v := (-2 : Int32)) dX8_both_36 rfl ?_
        refine qm_b_elim h (fun b22 s21 hc h => ?_)
        refine qe_callV1 (st := []) kk_X8_both_X8_refuseLong (c_X8_refuseLong hc) (qs_at tC_0) rfl rfl rfl (Nat.le_of_ble_eq_true rfl) dX8_both_38 ?_
        have e : (b22, s21) = o := Option.some.inj h
        subst e
        exact qe_lret dX8_both_41 rfl
    · refine qe_aload_n dX8_both_22 0 rfl rfl trivial ?_
      refine qe_iconst (v := (-1 : Int32)) dX8_both_23 rfl ?_
      refine qm_b_elim h (fun b24 s23 hc h => ?_)
      refine qe_callV1 (st := []) kk_X8_both_X8_refuseLong (c_X8_refuseLong hc) (qs_at tC_0) rfl rfl rfl (Nat.le_of_ble_eq_true rfl) dX8_both_24 ?_
      have e : (b24, s23) = o := Option.some.inj h
      subst e
      exact qe_lret dX8_both_27 rfl

set_option maxRecDepth 20000 in
theorem c_X8_layBothTimes {l : Launch} {G : qe_G}  {s0 : qe_S} {o : Int32 × qe_S} (h : g_X8_layBothTimes  s0 = some o) : qe_C l G MX8_layBothTimes [.ref 0] (qs_w s0 (qs_TC G)) (some (.int o.1)) (qs_w o.2 (qs_TC G)) := by
  refine qe_C.of (by decide +kernel) (Nat.le_of_ble_eq_true rfl) ?_
  show qe_J l G MX8_layBothTimes 0 [(0, .ref 0)] [] (qs_w s0 (qs_TC G)) (some (.int o.1)) (qs_w o.2 (qs_TC G))
  unfold g_X8_layBothTimes at h
  refine qe_aload_n dX8_layBothTimes_0 0 rfl rfl trivial ?_
  refine qs_getR (j := 0) tC_0 rfl fl_RX8_12 dX8_layBothTimes_1 ?_
  refine qe_iconst (v := (nI 2)) dX8_layBothTimes_4 rfl ?_
  refine qm_b_elim h (fun b2 s1 hc h => ?_)
  refine qe_callV1 (st := []) kk_X8_layBothTimes_X3_places (c_X3_places hc) (qs_at tC_1) rfl rfl rfl (Nat.le_of_ble_eq_true rfl) dX8_layBothTimes_5 ?_
  refine qe_lstore_n (lv' := [(1, .long b2), (0, .ref 0)]) dX8_layBothTimes_8 rfl rfl (Nat.le_of_ble_eq_true rfl) ?_
  refine qe_lload_n dX8_layBothTimes_9 0 rfl rfl ?_
  refine qe_lconst (v := 1) dX8_layBothTimes_10 rfl ?_
  refine qe_lcmp_ge (tgt := 17) dX8_layBothTimes_11 dX8_layBothTimes_12 rfl h (fun _ h => ?_) (fun _ h => ?_)
  · refine qe_aload_n dX8_layBothTimes_17 1 rfl rfl trivial ?_
    refine qs_getR (j := 4) tC_0 rfl fl_RX8_29 dX8_layBothTimes_18 ?_
    refine qe_aload_n dX8_layBothTimes_21 1 rfl rfl trivial ?_
    refine qs_getR (j := 0) tC_0 rfl fl_RX8_12 dX8_layBothTimes_22 ?_
    refine qe_iconst (v := (0 : Int32)) dX8_layBothTimes_25 rfl ?_
    refine qe_lload_n dX8_layBothTimes_26 0 rfl rfl ?_
    refine qe_aload_n dX8_layBothTimes_27 1 rfl rfl trivial ?_
    refine qs_getR (j := 0) tC_0 rfl fl_RX8_12 dX8_layBothTimes_28 ?_
    refine qm_b_elim h (fun a4 s3 hc h => ?_)
    refine qe_callV1 (st := [.long b2, .int (0 : Int32), .ref 1, .ref 22]) kk_X8_layBothTimes_X3_everyone (c_X3_everyone hc) (qs_at tC_1) rfl rfl rfl (Nat.le_of_ble_eq_true rfl) dX8_layBothTimes_31 ?_
    refine qm_o_elim h (fun s5 hc h => ?_)
    refine qe_callV0 (st := []) kk_X8_layBothTimes_X7_lay (c_X7_lay_22_1 hc) (qs_at tC_22) rfl rfl rfl (Nat.le_of_ble_eq_true rfl) dX8_layBothTimes_34 ?_
    refine qe_aload_n dX8_layBothTimes_37 1 rfl rfl trivial ?_
    refine qs_getR (j := 5) tC_0 rfl fl_RX8_33 dX8_layBothTimes_38 ?_
    refine qe_aload_n dX8_layBothTimes_41 1 rfl rfl trivial ?_
    refine qs_getR (j := 0) tC_0 rfl fl_RX8_12 dX8_layBothTimes_42 ?_
    refine qe_iconst (v := (nI 2)) dX8_layBothTimes_45 rfl ?_
    refine qe_lload_n dX8_layBothTimes_46 0 rfl rfl ?_
    refine qe_aload_n dX8_layBothTimes_47 1 rfl rfl trivial ?_
    refine qs_getR (j := 0) tC_0 rfl fl_RX8_12 dX8_layBothTimes_48 ?_
    refine qm_b_elim h (fun a7 s6 hc h => ?_)
    refine qe_callV1 (st := [.long b2, .int (nI 2), .ref 1, .ref 25]) kk_X8_layBothTimes_X3_everyone (c_X3_everyone hc) (qs_at tC_1) rfl rfl rfl (Nat.le_of_ble_eq_true rfl) dX8_layBothTimes_51 ?_
    refine qm_o_elim h (fun s8 hc h => ?_)
    refine qe_callV0 (st := []) kk_X8_layBothTimes_X7_lay (c_X7_lay_25_1 hc) (qs_at tC_25) rfl rfl rfl (Nat.le_of_ble_eq_true rfl) dX8_layBothTimes_54 ?_
    refine qe_iconst (v := (1 : Int32)) dX8_layBothTimes_57 rfl ?_
    have e : ((1 : Int32), s8) = o := Option.some.inj h
    subst e
    exact qe_nret dX8_layBothTimes_58 rfl rfl
  · refine qe_iconst (v := (0 : Int32)) dX8_layBothTimes_15 rfl ?_
    have e : ((0 : Int32), s1) = o := Option.some.inj h
    subst e
    exact qe_nret dX8_layBothTimes_16 rfl rfl

set_option maxRecDepth 20000 in
theorem c_X8_keptBy {l : Launch} {G : qe_G} {v1 : Int32} {v2 : Int64} {s0 : qe_S} {o : Int64 × qe_S} (h : g_X8_keptBy v1 v2 s0 = some o) : qe_C l G MX8_keptBy [.ref 0, .int v1, .long v2] (qs_w s0 (qs_TC G)) (some (.long o.1)) (qs_w o.2 (qs_TC G)) := by
  refine qe_C.of (by decide +kernel) (Nat.le_of_ble_eq_true rfl) ?_
  show qe_J l G MX8_keptBy 0 [(0, .ref 0), (1, .int v1), (2, .long v2)] [] (qs_w s0 (qs_TC G)) (some (.long o.1)) (qs_w o.2 (qs_TC G))
  unfold g_X8_keptBy at h
  refine qe_aload_n dX8_keptBy_0 0 rfl rfl trivial ?_
  refine qs_getR (j := 4) tC_0 rfl fl_RX8_29 dX8_keptBy_1 ?_
  refine qs_getL (j := 0) tC_22 rfl fl_RX8_198 dX8_keptBy_4 ?_
  refine qe_let_l h (fun b1 h => ?_)
  refine qe_lstore (lv' := [(4, .long b1), (0, .ref 0), (1, .int v1), (2, .long v2)]) dX8_keptBy_7 rfl (Nat.le_of_ble_eq_true rfl) ?_
  refine qe_lload dX8_keptBy_9 0 rfl ?_
  refine qe_lconst (v := 1) dX8_keptBy_11 rfl ?_
  refine qe_lcmp_ge (tgt := 18) dX8_keptBy_12 dX8_keptBy_13 rfl h (fun _ h => ?_) (fun _ h => ?_)
  · refine qe_aload_n dX8_keptBy_18 1 rfl rfl trivial ?_
    refine qs_getR (j := 5) tC_0 rfl fl_RX8_33 dX8_keptBy_19 ?_
    refine qs_getR (j := 1) tC_25 rfl fl_RX8_349 dX8_keptBy_22 ?_
    refine qe_iload_n dX8_keptBy_25 2 rfl rfl ?_
    refine qs_lld tC_26 dX8_keptBy_26 h (fun b2 h => ?_)
    refine qe_lload_n dX8_keptBy_27 3 rfl rfl ?_
    refine qe_ladd dX8_keptBy_28 ?_
    refine qe_lload dX8_keptBy_29 0 rfl ?_
    refine qe_lrem dX8_keptBy_31 h (fun h => ?_)
    refine qe_let_l h (fun b3 h => ?_)
    refine qe_lstore (lv' := [(6, .long b3), (4, .long b1), (0, .ref 0), (1, .int v1), (2, .long v2)]) dX8_keptBy_32 rfl (Nat.le_of_ble_eq_true rfl) ?_
    refine qe_aload_n dX8_keptBy_34 2 rfl rfl trivial ?_
    refine qs_getR (j := 4) tC_0 rfl fl_RX8_29 dX8_keptBy_35 ?_
    refine qs_getR (j := 1) tC_22 rfl fl_RX8_349 dX8_keptBy_38 ?_
    refine qe_iload_n dX8_keptBy_41 3 rfl rfl ?_
    refine qs_lld tC_23 dX8_keptBy_42 h (fun b4 h => ?_)
    refine qe_aload_n dX8_keptBy_43 2 rfl rfl trivial ?_
    refine qs_getR (j := 4) tC_0 rfl fl_RX8_29 dX8_keptBy_44 ?_
    refine qs_getR (j := 2) tC_22 rfl fl_RX8_352 dX8_keptBy_47 ?_
    refine qe_iload_n dX8_keptBy_50 3 rfl rfl ?_
    refine qs_lld tC_24 dX8_keptBy_51 h (fun b5 h => ?_)
    refine qe_lload dX8_keptBy_52 0 rfl ?_
    refine qe_aload_n dX8_keptBy_54 2 rfl rfl trivial ?_
    refine qs_getR (j := 5) tC_0 rfl fl_RX8_33 dX8_keptBy_55 ?_
    refine qs_getR (j := 2) tC_25 rfl fl_RX8_352 dX8_keptBy_58 ?_
    refine qe_iload_n dX8_keptBy_61 3 rfl rfl ?_
    refine qs_lld tC_27 dX8_keptBy_62 h (fun b6 h => ?_)
    refine qe_lload dX8_keptBy_63 1 rfl ?_
    refine qm_b_elim h (fun b8 s7 hc h => ?_)
    refine qe_callS1 (st := []) kk_X8_keptBy_X8_meeting (c_X8_meeting hc) rfl rfl (Nat.le_of_ble_eq_true rfl) dX8_keptBy_65 ?_
    have e : (b8, s7) = o := Option.some.inj h
    subst e
    exact qe_lret dX8_keptBy_68 rfl
  · refine qe_lconst (v := 0) dX8_keptBy_16 rfl ?_
    have e : ((0 : Int64), s0) = o := Option.some.inj h
    subst e
    exact qe_lret dX8_keptBy_17 rfl

set_option maxRecDepth 20000 in
theorem c_X8_kept {l : Launch} {G : qe_G} {v1 : Int32} {v2 : Int32} {v3 : Int32} {s0 : qe_S} {o : Int64 × qe_S} (h : g_X8_kept v1 v2 v3 s0 = some o) : qe_C l G MX8_kept [.ref 0, .int v1, .int v2, .int v3] (qs_w s0 (qs_TC G)) (some (.long o.1)) (qs_w o.2 (qs_TC G)) := by
  refine qe_C.of (by decide +kernel) (Nat.le_of_ble_eq_true rfl) ?_
  show qe_J l G MX8_kept 0 [(0, .ref 0), (1, .int v1), (2, .int v2), (3, .int v3)] [] (qs_w s0 (qs_TC G)) (some (.long o.1)) (qs_w o.2 (qs_TC G))
  unfold g_X8_kept at h
  refine qe_aload_n dX8_kept_0 0 rfl rfl trivial ?_
  refine qs_getR (j := 0) tC_0 rfl fl_RX8_12 dX8_kept_1 ?_
  refine qe_iload_n dX8_kept_4 1 rfl rfl ?_
  refine qm_b_elim h (fun a2 s1 hc h => ?_)
  refine qe_callV1 (st := []) kk_X8_kept_X3_has (c_X3_has hc) (qs_at tC_1) rfl rfl rfl (Nat.le_of_ble_eq_true rfl) dX8_kept_5 ?_
  refine qe_if_ne (tgt := 17) dX8_kept_8 rfl h (fun _ h => ?_) (fun _ h => ?_)
  · refine qe_iload_n dX8_kept_17 3 rfl rfl ?_
    refine qm_b_elim h (fun a4 s3 hc h => ?_)
    refine qe_callS1 (st := []) kk_X8_kept_X8_isPart (c_X8_isPart hc) rfl rfl (Nat.le_of_ble_eq_true rfl) dX8_kept_18 ?_
    refine qe_if_ne (tgt := 31) dX8_kept_21 rfl h (fun _ h => ?_) (fun _ h => ?_)
    · refine qe_aload_n dX8_kept_31 0 rfl rfl trivial ?_
      refine qm_b_elim h (fun a6 s5 hc h => ?_)
      refine qe_callV1 (st := []) kk_X8_kept_X8_layBothTimes (c_X8_layBothTimes hc) (qs_at tC_0) rfl rfl rfl (Nat.le_of_ble_eq_true rfl) dX8_kept_32 ?_
      refine qe_if_ne (tgt := 45) dX8_kept_35 rfl h (fun _ h => ?_) (fun _ h => ?_)
      · refine qe_aload_n dX8_kept_45 0 rfl rfl trivial ?_
        refine qs_getR (j := 4) tC_0 rfl fl_RX8_29 dX8_kept_46 ?_
        refine qe_iload_n dX8_kept_49 2 rfl rfl ?_
        refine qm_b_elim h (fun a8 s7 hc h => ?_)
        refine qe_callV1 (st := []) kk_X8_kept_X7_hasPlace (c_X7_hasPlace hc) (qs_at tC_22) rfl rfl rfl (Nat.le_of_ble_eq_true rfl) dX8_kept_50 ?_
        refine qe_if_ne (tgt := 63) dX8_kept_53 rfl h (fun _ h => ?_) (fun _ h => ?_)
        · refine qe_aload_n dX8_kept_63 0 rfl rfl trivial ?_
          refine qe_aload_n dX8_kept_64 0 rfl rfl trivial ?_
          refine qe_iload_n dX8_kept_65 1 rfl rfl ?_
          refine qe_iload_n dX8_kept_66 2 rfl rfl ?_
          refine qe_i2l dX8_kept_67 ?_
          refine qm_b_elim h (fun b10 s9 hc h => ?_)
          refine qe_callV1 (st := [.ref 0]) kk_X8_kept_X8_keptBy (c_X8_keptBy hc) (qs_at tC_0) rfl rfl rfl (Nat.le_of_ble_eq_true rfl) dX8_kept_68 ?_
          refine qe_aload_n dX8_kept_71 0 rfl rfl trivial ?_
          refine qs_getR (j := 4) tC_0 rfl fl_RX8_29 dX8_kept_72 ?_
          refine qs_getL (j := 0) tC_22 rfl fl_RX8_198 dX8_kept_75 ?_
          refine qe_iload_n dX8_kept_78 3 rfl rfl ?_
          refine qm_b_elim h (fun b12 s11 hc h => ?_)
          refine qe_callV1 (st := []) kk_X8_kept_X8_lowest (c_X8_lowest hc) (qs_at tC_0) rfl rfl rfl (Nat.le_of_ble_eq_true rfl) dX8_kept_79 ?_
          have e : (b12, s11) = o := Option.some.inj h
          subst e
          exact qe_lret dX8_kept_82 rfl
        · refine qe_aload_n dX8_kept_56 0 rfl rfl trivial ?_
          refine qe_bipush (v := (-2 : Int32)) dX8_kept_57 rfl ?_
          refine qm_b_elim h (fun b14 s13 hc h => ?_)
          refine qe_callV1 (st := []) kk_X8_kept_X8_refuseLong (c_X8_refuseLong hc) (qs_at tC_0) rfl rfl rfl (Nat.le_of_ble_eq_true rfl) dX8_kept_59 ?_
          have e : (b14, s13) = o := Option.some.inj h
          subst e
          exact qe_lret dX8_kept_62 rfl
      · refine qe_aload_n dX8_kept_38 0 rfl rfl trivial ?_
        refine qe_bipush (v := (-7 : Int32)) dX8_kept_39 rfl ?_
        refine qm_b_elim h (fun b16 s15 hc h => ?_)
        refine qe_callV1 (st := []) kk_X8_kept_X8_refuseLong (c_X8_refuseLong hc) (qs_at tC_0) rfl rfl rfl (Nat.le_of_ble_eq_true rfl) dX8_kept_41 ?_
        have e : (b16, s15) = o := Option.some.inj h
        subst e
        exact qe_lret dX8_kept_44 rfl
    · refine qe_aload_n dX8_kept_24 0 rfl rfl trivial ?_
      refine qe_bipush (v := (-2 : Int32)) dX8_kept_25 rfl ?_
      refine qm_b_elim h (fun b18 s17 hc h => ?_)
      refine qe_callV1 (st := []) kk_X8_kept_X8_refuseLong (c_X8_refuseLong hc) (qs_at tC_0) rfl rfl rfl (Nat.le_of_ble_eq_true rfl) dX8_kept_27 ?_
      have e : (b18, s17) = o := Option.some.inj h
      subst e
      exact qe_lret dX8_kept_30 rfl
  · refine qe_aload_n dX8_kept_11 0 rfl rfl trivial ?_
    refine qe_iconst (v := (-1 : Int32)) dX8_kept_12 rfl ?_
    refine qm_b_elim h (fun b20 s19 hc h => ?_)
    refine qe_callV1 (st := []) kk_X8_kept_X8_refuseLong (c_X8_refuseLong hc) (qs_at tC_0) rfl rfl rfl (Nat.le_of_ble_eq_true rfl) dX8_kept_13 ?_
    have e : (b20, s19) = o := Option.some.inj h
    subst e
    exact qe_lret dX8_kept_16 rfl

set_option maxRecDepth 20000 in
theorem c_X8_allKeptBy_L5 {l : Launch} {G : qe_G} {v1 : Int64} : ∀ (n : Nat) (v3 : Int64) (v5 : Int32) (s0 : qe_S) (o : Int64 × qe_S), g_X8_allKeptBy_L5 v1 n v3 v5 s0 = some o → qe_J l G MX8_allKeptBy 5 [(0, .ref 0), (1, .long v1), (3, .long v3), (5, .int v5)] [] (qs_w s0 (qs_TC G)) (some (.long o.1)) (qs_w o.2 (qs_TC G)) := by
  intro n
  induction n with
  | zero =>
    intro v3 v5 s0 o h
    rw [g_X8_allKeptBy_L5] at h
    cases h
  | succ n ih =>
    intro v3 v5 s0 o h
    rw [g_X8_allKeptBy_L5] at h
    refine qe_iload dX8_allKeptBy_5 3 rfl ?_
    refine qe_aload_n dX8_allKeptBy_7 0 rfl rfl trivial ?_
    refine qs_getR (j := 0) tC_0 rfl fl_RX8_12 dX8_allKeptBy_8 ?_
    refine qs_getI (j := 0) tC_1 rfl fl_RX8_201 dX8_allKeptBy_11 ?_
    refine qe_icmp_ge (tgt := 33) dX8_allKeptBy_14 rfl h (fun _ h => ?_) (fun _ h => ?_)
    · refine qe_lload_n dX8_allKeptBy_33 2 rfl rfl ?_
      have e : (v3, s0) = o := Option.some.inj h
      subst e
      exact qe_lret dX8_allKeptBy_34 rfl
    · refine qe_lload_n dX8_allKeptBy_17 2 rfl rfl ?_
      refine qe_aload_n dX8_allKeptBy_18 0 rfl rfl trivial ?_
      refine qe_iload dX8_allKeptBy_19 3 rfl ?_
      refine qe_lload_n dX8_allKeptBy_21 1 rfl rfl ?_
      refine qm_b_elim h (fun b4 s3 hc h => ?_)
      refine qe_callV1 (st := [.long v3]) kk_X8_allKeptBy_X8_keptBy (c_X8_keptBy hc) (qs_at tC_0) rfl rfl rfl (Nat.le_of_ble_eq_true rfl) dX8_allKeptBy_22 ?_
      refine qe_ladd dX8_allKeptBy_25 ?_
      refine qe_let_l h (fun b5 h => ?_)
      refine qe_lstore_n (lv' := [(3, .long b5), (0, .ref 0), (1, .long v1), (5, .int v5)]) dX8_allKeptBy_26 rfl rfl (Nat.le_of_ble_eq_true rfl) ?_
      refine qe_iincl (lv' := fun a6 => [(5, .int a6), (3, .long b5), (0, .ref 0), (1, .long v1)]) dX8_allKeptBy_27 3 rfl rfl (fun _ => rfl) (Nat.le_of_ble_eq_true rfl) h (fun a6 h => ?_)
      refine qe_goto (tgt := 5) dX8_allKeptBy_30 rfl ?_
      refine qe_sub [2, 3, 1, 0] rfl ?_
      exact ih _ _ _ _ h

set_option maxRecDepth 20000 in
theorem c_X8_allKeptBy {l : Launch} {G : qe_G} {v1 : Int64} {s0 : qe_S} {o : Int64 × qe_S} (h : g_X8_allKeptBy v1 s0 = some o) : qe_C l G MX8_allKeptBy [.ref 0, .long v1] (qs_w s0 (qs_TC G)) (some (.long o.1)) (qs_w o.2 (qs_TC G)) := by
  refine qe_C.of (by decide +kernel) (Nat.le_of_ble_eq_true rfl) ?_
  show qe_J l G MX8_allKeptBy 0 [(0, .ref 0), (1, .long v1)] [] (qs_w s0 (qs_TC G)) (some (.long o.1)) (qs_w o.2 (qs_TC G))
  unfold g_X8_allKeptBy at h
  refine qe_lconst (v := 0) dX8_allKeptBy_0 rfl ?_
  refine qe_let_l h (fun b1 h => ?_)
  refine qe_lstore_n (lv' := [(3, .long b1), (0, .ref 0), (1, .long v1)]) dX8_allKeptBy_1 rfl rfl (Nat.le_of_ble_eq_true rfl) ?_
  refine qe_iconst (v := (0 : Int32)) dX8_allKeptBy_2 rfl ?_
  refine qe_let_i h (fun a2 h => ?_)
  refine qe_istore (lv' := [(5, .int a2), (3, .long b1), (0, .ref 0), (1, .long v1)]) dX8_allKeptBy_3 rfl (Nat.le_of_ble_eq_true rfl) ?_
  refine qe_sub [2, 3, 1, 0] rfl ?_
  refine c_X8_allKeptBy_L5 _ _ _ _ _ h

set_option maxRecDepth 20000 in
theorem c_X8_overlap {l : Launch} {G : qe_G} {v1 : Int32} {v2 : Int32} {s0 : qe_S} {o : Int64 × qe_S} (h : g_X8_overlap v1 v2 s0 = some o) : qe_C l G MX8_overlap [.ref 0, .int v1, .int v2] (qs_w s0 (qs_TC G)) (some (.long o.1)) (qs_w o.2 (qs_TC G)) := by
  refine qe_C.of (by decide +kernel) (Nat.le_of_ble_eq_true rfl) ?_
  show qe_J l G MX8_overlap 0 [(0, .ref 0), (1, .int v1), (2, .int v2)] [] (qs_w s0 (qs_TC G)) (some (.long o.1)) (qs_w o.2 (qs_TC G))
  unfold g_X8_overlap at h
  refine qe_iload_n dX8_overlap_0 2 rfl rfl ?_
  refine qm_b_elim h (fun a2 s1 hc h => ?_)
  refine qe_callS1 (st := []) kk_X8_overlap_X8_isPart (c_X8_isPart hc) rfl rfl (Nat.le_of_ble_eq_true rfl) dX8_overlap_1 ?_
  refine qe_if_ne (tgt := 14) dX8_overlap_4 rfl h (fun _ h => ?_) (fun _ h => ?_)
  · refine qe_aload_n dX8_overlap_14 0 rfl rfl trivial ?_
    refine qm_b_elim h (fun a4 s3 hc h => ?_)
    refine qe_callV1 (st := []) kk_X8_overlap_X8_layBothTimes (c_X8_layBothTimes hc) (qs_at tC_0) rfl rfl rfl (Nat.le_of_ble_eq_true rfl) dX8_overlap_15 ?_
    refine qe_if_ne (tgt := 28) dX8_overlap_18 rfl h (fun _ h => ?_) (fun _ h => ?_)
    · refine qe_aload_n dX8_overlap_28 0 rfl rfl trivial ?_
      refine qs_getR (j := 4) tC_0 rfl fl_RX8_29 dX8_overlap_29 ?_
      refine qe_iload_n dX8_overlap_32 1 rfl rfl ?_
      refine qm_b_elim h (fun a6 s5 hc h => ?_)
      refine qe_callV1 (st := []) kk_X8_overlap_X7_hasPlace (c_X7_hasPlace hc) (qs_at tC_22) rfl rfl rfl (Nat.le_of_ble_eq_true rfl) dX8_overlap_33 ?_
      refine qe_if_ne (tgt := 46) dX8_overlap_36 rfl h (fun _ h => ?_) (fun _ h => ?_)
      · refine qe_aload_n dX8_overlap_46 0 rfl rfl trivial ?_
        refine qe_aload_n dX8_overlap_47 0 rfl rfl trivial ?_
        refine qe_iload_n dX8_overlap_48 1 rfl rfl ?_
        refine qe_i2l dX8_overlap_49 ?_
        refine qm_b_elim h (fun b8 s7 hc h => ?_)
        refine qe_callV1 (st := [.ref 0]) kk_X8_overlap_X8_allKeptBy (c_X8_allKeptBy hc) (qs_at tC_0) rfl rfl rfl (Nat.le_of_ble_eq_true rfl) dX8_overlap_50 ?_
        refine qe_aload_n dX8_overlap_53 0 rfl rfl trivial ?_
        refine qs_getR (j := 4) tC_0 rfl fl_RX8_29 dX8_overlap_54 ?_
        refine qs_getL (j := 0) tC_22 rfl fl_RX8_198 dX8_overlap_57 ?_
        refine qe_iload_n dX8_overlap_60 2 rfl rfl ?_
        refine qm_b_elim h (fun b10 s9 hc h => ?_)
        refine qe_callV1 (st := []) kk_X8_overlap_X8_lowest (c_X8_lowest hc) (qs_at tC_0) rfl rfl rfl (Nat.le_of_ble_eq_true rfl) dX8_overlap_61 ?_
        have e : (b10, s9) = o := Option.some.inj h
        subst e
        exact qe_lret dX8_overlap_64 rfl
      · refine qe_aload_n dX8_overlap_39 0 rfl rfl trivial ?_
        refine qe_bipush (v := (-2 : Int32)) dX8_overlap_40 rfl ?_
        refine qm_b_elim h (fun b12 s11 hc h => ?_)
        refine qe_callV1 (st := []) kk_X8_overlap_X8_refuseLong (c_X8_refuseLong hc) (qs_at tC_0) rfl rfl rfl (Nat.le_of_ble_eq_true rfl) dX8_overlap_42 ?_
        have e : (b12, s11) = o := Option.some.inj h
        subst e
        exact qe_lret dX8_overlap_45 rfl
    · refine qe_aload_n dX8_overlap_21 0 rfl rfl trivial ?_
      refine qe_bipush (v := (-7 : Int32)) dX8_overlap_22 rfl ?_
      refine qm_b_elim h (fun b14 s13 hc h => ?_)
      refine qe_callV1 (st := []) kk_X8_overlap_X8_refuseLong (c_X8_refuseLong hc) (qs_at tC_0) rfl rfl rfl (Nat.le_of_ble_eq_true rfl) dX8_overlap_24 ?_
      have e : (b14, s13) = o := Option.some.inj h
      subst e
      exact qe_lret dX8_overlap_27 rfl
  · refine qe_aload_n dX8_overlap_7 0 rfl rfl trivial ?_
    refine qe_bipush (v := (-2 : Int32)) dX8_overlap_8 rfl ?_
    refine qm_b_elim h (fun b16 s15 hc h => ?_)
    refine qe_callV1 (st := []) kk_X8_overlap_X8_refuseLong (c_X8_refuseLong hc) (qs_at tC_0) rfl rfl rfl (Nat.le_of_ble_eq_true rfl) dX8_overlap_10 ?_
    have e : (b16, s15) = o := Option.some.inj h
    subst e
    exact qe_lret dX8_overlap_13 rfl

set_option maxRecDepth 20000 in
theorem c_X8_extremeShift_L24 {l : Launch} {G : qe_G} {v1 : Int32} {v2 : Int64} : ∀ (n : Nat) (v4 : Int64) (v6 : Int64) (v8 : Int32) (s0 : qe_S) (o : Int64 × qe_S), g_X8_extremeShift_L24 v1 v2 n v4 v6 v8 s0 = some o → qe_J l G MX8_extremeShift 24 [(0, .ref 0), (1, .int v1), (2, .long v2), (4, .long v4), (6, .long v6), (8, .int v8)] [] (qs_w s0 (qs_TC G)) (some (.long o.1)) (qs_w o.2 (qs_TC G)) := by
  intro n
  induction n with
  | zero =>
    intro v4 v6 v8 s0 o h
    rw [g_X8_extremeShift_L24] at h
    cases h
  | succ n ih =>
    intro v4 v6 v8 s0 o h
    rw [g_X8_extremeShift_L24] at h
    refine qe_iload dX8_extremeShift_24 5 rfl ?_
    refine qe_iconst (v := (nI 4)) dX8_extremeShift_26 rfl ?_
    refine qe_aload_n dX8_extremeShift_27 0 rfl rfl trivial ?_
    refine qs_getR (j := 0) tC_0 rfl fl_RX8_12 dX8_extremeShift_28 ?_
    refine qs_getI (j := 0) tC_1 rfl fl_RX8_201 dX8_extremeShift_31 ?_
    refine qe_imul dX8_extremeShift_34 ?_
    refine qe_icmp_ge (tgt := 179) dX8_extremeShift_35 rfl h (fun _ h => ?_) (fun _ h => ?_)
    · refine qe_lload dX8_extremeShift_179 3 rfl ?_
      have e : (v4, s0) = o := Option.some.inj h
      subst e
      exact qe_lret dX8_extremeShift_181 rfl
    · refine qe_lload_n dX8_extremeShift_38 2 rfl rfl ?_
      refine qe_lconst (v := 0) dX8_extremeShift_39 rfl ?_
      refine qe_lcmp_le (tgt := 179) dX8_extremeShift_40 dX8_extremeShift_41 rfl h (fun _ h => ?_) (fun _ h => ?_)
      · refine qe_lload dX8_extremeShift_179 3 rfl ?_
        have e : (v4, s0) = o := Option.some.inj h
        subst e
        exact qe_lret dX8_extremeShift_181 rfl
      · refine qm_j_elim h (fun j81 ej81 h => ?_)
        have hj81 : ∀ (a7 : Int32) (q8 : Int64) (q9 : Int64) (s10 : qe_S) (o : Int64 × qe_S), j81 a7 q8 q9 s10 = some o → qe_J l G MX8_extremeShift 81 [(0, .ref 0), (1, .int v1), (2, .long v2), (4, .long v4), (6, .long v6), (8, .int v8), (9, .int a7)] [.long q8, .long q9] (qs_w s10 (qs_TC G)) (some (.long o.1)) (qs_w o.2 (qs_TC G)) := by
          intro a7 q8 q9 s10 o h
          subst ej81
          refine qm_j_elim h (fun j116 ej116 h => ?_)
          have hj116 : ∀ (b11 : Int64) (q12 : Int64) (q13 : Int64) (s14 : qe_S) (o : Int64 × qe_S), j116 b11 q12 q13 s14 = some o → qe_J l G MX8_extremeShift 116 [(0, .ref 0), (1, .int v1), (2, .long v2), (4, .long v4), (6, .long v6), (8, .int v8), (10, .long b11)] [.long q12, .long q13] (qs_w s14 (qs_TC G)) (some (.long o.1)) (qs_w o.2 (qs_TC G)) := by
            intro b11 q12 q13 s14 o h
            subst ej116
            refine qm_j_elim h (fun j173 ej173 h => ?_)
            have hj173 : ∀ (b15 : Int64) (b16 : Int64) (s17 : qe_S) (o : Int64 × qe_S), j173 b15 b16 s17 = some o → qe_J l G MX8_extremeShift 173 [(0, .ref 0), (1, .int v1), (2, .long v2), (4, .long b15), (6, .long b16), (8, .int v8)] [] (qs_w s17 (qs_TC G)) (some (.long o.1)) (qs_w o.2 (qs_TC G)) := by
              intro b15 b16 s17 o h
              subst ej173
              refine qe_iincl (lv' := fun a18 => [(8, .int a18), (0, .ref 0), (1, .int v1), (2, .long v2), (4, .long b15), (6, .long b16)]) dX8_extremeShift_173 5 rfl rfl (fun _ => rfl) (Nat.le_of_ble_eq_true rfl) h (fun a18 h => ?_)
              refine qe_goto (tgt := 24) dX8_extremeShift_176 rfl ?_
              refine qe_sub [1, 2, 3, 4, 5, 0] rfl ?_
              exact ih _ _ _ _ _ h
            refine qm_j_elim h (fun j165 ej165 h => ?_)
            have hj165 : ∀ (b19 : Int64) (b20 : Int64) (s21 : qe_S) (o : Int64 × qe_S), j165 b19 b20 s21 = some o → qe_J l G MX8_extremeShift 165 [(0, .ref 0), (1, .int v1), (2, .long v2), (8, .int v8), (14, .long b19), (16, .long b20)] [] (qs_w s21 (qs_TC G)) (some (.long o.1)) (qs_w o.2 (qs_TC G)) := by
              intro b19 b20 s21 o h
              subst ej165
              refine qe_lload dX8_extremeShift_165 5 rfl ?_
              refine qe_lstore (lv' := [(6, .long b20), (0, .ref 0), (1, .int v1), (2, .long v2), (8, .int v8), (14, .long b19), (16, .long b20)]) dX8_extremeShift_167 rfl (Nat.le_of_ble_eq_true rfl) ?_
              refine qe_lload dX8_extremeShift_169 5 rfl ?_
              refine qe_lstore (lv' := [(4, .long b19), (6, .long b20), (0, .ref 0), (1, .int v1), (2, .long v2), (8, .int v8), (14, .long b19), (16, .long b20)]) dX8_extremeShift_171 rfl (Nat.le_of_ble_eq_true rfl) ?_
              refine qe_sub [2, 3, 4, 0, 1, 5] rfl ?_
              exact hj173 _ _ _ _ h
            refine qe_ladd dX8_extremeShift_116 ?_
            refine qe_let_l h (fun b22 h => ?_)
            refine qe_lstore (lv' := [(12, .long b22), (0, .ref 0), (1, .int v1), (2, .long v2), (4, .long v4), (6, .long v6), (8, .int v8), (10, .long b11)]) dX8_extremeShift_117 rfl (Nat.le_of_ble_eq_true rfl) ?_
            refine qe_lload dX8_extremeShift_119 7 rfl ?_
            refine qe_lload dX8_extremeShift_121 0 rfl ?_
            refine qe_lsub dX8_extremeShift_123 ?_
            refine qe_lload_n dX8_extremeShift_124 3 rfl rfl ?_
            refine qm_b_elim h (fun b24 s23 hc h => ?_)
            refine qe_callS1 (st := []) kk_X8_extremeShift_J9_floorMod_f86c9 (c_J9_floorMod_f86c9 hc) rfl rfl (Nat.le_of_ble_eq_true rfl) dX8_extremeShift_125 ?_
            refine qe_lstore (lv' := [(14, .long b24), (12, .long b22), (0, .ref 0), (1, .int v1), (2, .long v2), (4, .long v4), (6, .long v6), (8, .int v8), (10, .long b11)]) dX8_extremeShift_128 rfl (Nat.le_of_ble_eq_true rfl) ?_
            refine qe_iload_n dX8_extremeShift_130 3 rfl rfl ?_
            refine qe_i2l dX8_extremeShift_131 ?_
            refine qe_aload_n dX8_extremeShift_132 2 rfl rfl trivial ?_
            refine qe_lload dX8_extremeShift_133 0 rfl ?_
            refine qm_b_elim h (fun b26 s25 hc h => ?_)
            refine qe_callV1 (st := [.long v1.toInt64]) kk_X8_extremeShift_X8_allKeptBy (c_X8_allKeptBy hc) (qs_at tC_0) rfl rfl rfl (Nat.le_of_ble_eq_true rfl) dX8_extremeShift_135 ?_
            refine qe_lmul dX8_extremeShift_138 ?_
            refine qe_let_l h (fun b27 h => ?_)
            refine qe_lstore (lv' := [(16, .long b27), (14, .long b24), (12, .long b22), (0, .ref 0), (1, .int v1), (2, .long v2), (4, .long v4), (6, .long v6), (8, .int v8), (10, .long b11)]) dX8_extremeShift_139 rfl (Nat.le_of_ble_eq_true rfl) ?_
            refine qe_lload dX8_extremeShift_141 0 rfl ?_
            refine qe_lload dX8_extremeShift_143 7 rfl ?_
            refine qe_lcmp_gt (tgt := 165) dX8_extremeShift_145 dX8_extremeShift_146 rfl h (fun _ h => ?_) (fun _ h => ?_)
            · refine qe_sub [3, 4, 5, 8, 1, 0] rfl ?_
              exact hj165 _ _ _ _ h
            · refine qe_lload dX8_extremeShift_149 0 rfl ?_
              refine qe_lload dX8_extremeShift_151 7 rfl ?_
              refine qe_lcmp_ne (tgt := 173) dX8_extremeShift_153 dX8_extremeShift_154 rfl h (fun _ h => ?_) (fun _ h => ?_)
              · refine qe_sub [3, 4, 5, 6, 7, 8] rfl ?_
                exact hj173 _ _ _ _ h
              · refine qe_lload dX8_extremeShift_157 1 rfl ?_
                refine qe_lload dX8_extremeShift_159 6 rfl ?_
                refine qe_lcmp_ge (tgt := 173) dX8_extremeShift_161 dX8_extremeShift_162 rfl h (fun _ h => ?_) (fun _ h => ?_)
                · refine qe_sub [3, 4, 5, 6, 7, 8] rfl ?_
                  exact hj173 _ _ _ _ h
                · refine qe_sub [3, 4, 5, 8, 1, 0] rfl ?_
                  exact hj165 _ _ _ _ h
          refine qe_ladd dX8_extremeShift_81 ?_
          refine qe_let_l h (fun b28 h => ?_)
          refine qe_lstore (lv' := [(10, .long b28), (0, .ref 0), (1, .int v1), (2, .long v2), (4, .long v4), (6, .long v6), (8, .int v8), (9, .int a7)]) dX8_extremeShift_82 rfl (Nat.le_of_ble_eq_true rfl) ?_
          refine qe_aload_n dX8_extremeShift_84 1 rfl rfl trivial ?_
          refine qs_getR (j := 5) tC_0 rfl fl_RX8_33 dX8_extremeShift_85 ?_
          refine qs_getR (j := 1) tC_25 rfl fl_RX8_349 dX8_extremeShift_88 ?_
          refine qe_iload dX8_extremeShift_91 7 rfl ?_
          refine qs_lld tC_26 dX8_extremeShift_93 h (fun b29 h => ?_)
          refine qe_iload dX8_extremeShift_94 6 rfl ?_
          refine qe_iconst (v := (nI 4)) dX8_extremeShift_96 rfl ?_
          refine qe_irem dX8_extremeShift_97 h (fun h => ?_)
          refine qe_iconst (v := (nI 2)) dX8_extremeShift_98 rfl ?_
          refine qe_icmp_ge (tgt := 106) dX8_extremeShift_99 rfl h (fun _ h => ?_) (fun _ h => ?_)
          · refine qe_aload_n dX8_extremeShift_106 1 rfl rfl trivial ?_
            refine qs_getR (j := 5) tC_0 rfl fl_RX8_33 dX8_extremeShift_107 ?_
            refine qs_getR (j := 2) tC_25 rfl fl_RX8_352 dX8_extremeShift_110 ?_
            refine qe_iload dX8_extremeShift_113 7 rfl ?_
            refine qs_lld tC_27 dX8_extremeShift_115 h (fun b30 h => ?_)
            refine qe_sub [1, 2, 3, 4, 5, 6, 0] rfl ?_
            exact hj116 _ _ _ _ _ h
          · refine qe_lconst (v := 0) dX8_extremeShift_102 rfl ?_
            refine qe_goto (tgt := 116) dX8_extremeShift_103 rfl ?_
            refine qe_sub [1, 2, 3, 4, 5, 6, 0] rfl ?_
            exact hj116 _ _ _ _ _ h
        refine qe_iload dX8_extremeShift_44 5 rfl ?_
        refine qe_iconst (v := (nI 4)) dX8_extremeShift_46 rfl ?_
        refine qe_idiv dX8_extremeShift_47 h (fun h => ?_)
        refine qe_let_i h (fun a31 h => ?_)
        refine qe_istore (lv' := [(9, .int a31), (0, .ref 0), (1, .int v1), (2, .long v2), (4, .long v4), (6, .long v6), (8, .int v8)]) dX8_extremeShift_48 rfl (Nat.le_of_ble_eq_true rfl) ?_
        refine qe_aload_n dX8_extremeShift_50 1 rfl rfl trivial ?_
        refine qs_getR (j := 4) tC_0 rfl fl_RX8_29 dX8_extremeShift_51 ?_
        refine qs_getR (j := 1) tC_22 rfl fl_RX8_349 dX8_extremeShift_54 ?_
        refine qe_iload dX8_extremeShift_57 0 rfl ?_
        refine qs_lld tC_23 dX8_extremeShift_59 h (fun b32 h => ?_)
        refine qe_iload dX8_extremeShift_60 6 rfl ?_
        refine qe_iconst (v := (nI 2)) dX8_extremeShift_62 rfl ?_
        refine qe_irem dX8_extremeShift_63 h (fun h => ?_)
        refine qe_if_ne (tgt := 71) dX8_extremeShift_64 rfl h (fun _ h => ?_) (fun _ h => ?_)
        · refine qe_aload_n dX8_extremeShift_71 1 rfl rfl trivial ?_
          refine qs_getR (j := 4) tC_0 rfl fl_RX8_29 dX8_extremeShift_72 ?_
          refine qs_getR (j := 2) tC_22 rfl fl_RX8_352 dX8_extremeShift_75 ?_
          refine qe_iload dX8_extremeShift_78 0 rfl ?_
          refine qs_lld tC_24 dX8_extremeShift_80 h (fun b33 h => ?_)
          refine qe_sub [1, 2, 3, 4, 5, 6, 0] rfl ?_
          exact hj81 _ _ _ _ _ h
        · refine qe_lconst (v := 0) dX8_extremeShift_67 rfl ?_
          refine qe_goto (tgt := 81) dX8_extremeShift_68 rfl ?_
          refine qe_sub [1, 2, 3, 4, 5, 6, 0] rfl ?_
          exact hj81 _ _ _ _ _ h

set_option maxRecDepth 20000 in
theorem c_X8_extremeShift {l : Launch} {G : qe_G} {v1 : Int32} {s0 : qe_S} {o : Int64 × qe_S} (h : g_X8_extremeShift v1 s0 = some o) : qe_C l G MX8_extremeShift [.ref 0, .int v1] (qs_w s0 (qs_TC G)) (some (.long o.1)) (qs_w o.2 (qs_TC G)) := by
  refine qe_C.of (by decide +kernel) (Nat.le_of_ble_eq_true rfl) ?_
  show qe_J l G MX8_extremeShift 0 [(0, .ref 0), (1, .int v1)] [] (qs_w s0 (qs_TC G)) (some (.long o.1)) (qs_w o.2 (qs_TC G))
  unfold g_X8_extremeShift at h
  refine qe_aload_n dX8_extremeShift_0 0 rfl rfl trivial ?_
  refine qs_getR (j := 4) tC_0 rfl fl_RX8_29 dX8_extremeShift_1 ?_
  refine qs_getL (j := 0) tC_22 rfl fl_RX8_198 dX8_extremeShift_4 ?_
  refine qe_let_l h (fun b1 h => ?_)
  refine qe_lstore_n (lv' := [(2, .long b1), (0, .ref 0), (1, .int v1)]) dX8_extremeShift_7 rfl rfl (Nat.le_of_ble_eq_true rfl) ?_
  refine qe_lconst (v := 0) dX8_extremeShift_8 rfl ?_
  refine qe_let_l h (fun b2 h => ?_)
  refine qe_lstore (lv' := [(4, .long b2), (2, .long b1), (0, .ref 0), (1, .int v1)]) dX8_extremeShift_9 rfl (Nat.le_of_ble_eq_true rfl) ?_
  refine qe_iload_n dX8_extremeShift_11 3 rfl rfl ?_
  refine qe_i2l dX8_extremeShift_12 ?_
  refine qe_aload_n dX8_extremeShift_13 2 rfl rfl trivial ?_
  refine qe_lconst (v := 0) dX8_extremeShift_14 rfl ?_
  refine qm_b_elim h (fun b4 s3 hc h => ?_)
  refine qe_callV1 (st := [.long v1.toInt64]) kk_X8_extremeShift_X8_allKeptBy (c_X8_allKeptBy hc) (qs_at tC_0) rfl rfl rfl (Nat.le_of_ble_eq_true rfl) dX8_extremeShift_15 ?_
  refine qe_lmul dX8_extremeShift_18 ?_
  refine qe_let_l h (fun b5 h => ?_)
  refine qe_lstore (lv' := [(6, .long b5), (4, .long b2), (2, .long b1), (0, .ref 0), (1, .int v1)]) dX8_extremeShift_19 rfl (Nat.le_of_ble_eq_true rfl) ?_
  refine qe_iconst (v := (0 : Int32)) dX8_extremeShift_21 rfl ?_
  refine qe_let_i h (fun a6 h => ?_)
  refine qe_istore (lv' := [(8, .int a6), (6, .long b5), (4, .long b2), (2, .long b1), (0, .ref 0), (1, .int v1)]) dX8_extremeShift_22 rfl (Nat.le_of_ble_eq_true rfl) ?_
  refine qe_sub [4, 5, 3, 2, 1, 0] rfl ?_
  refine c_X8_extremeShift_L24 _ _ _ _ _ _ h

set_option maxRecDepth 20000 in
theorem c_X8_shift {l : Launch} {G : qe_G} {v1 : Int32} {s0 : qe_S} {o : Int32 × qe_S} (h : g_X8_shift v1 s0 = some o) : qe_C l G MX8_shift [.ref 0, .int v1] (qs_w s0 (qs_TC G)) (some (.int o.1)) (qs_w o.2 (qs_TC G)) := by
  refine qe_C.of (by decide +kernel) (Nat.le_of_ble_eq_true rfl) ?_
  show qe_J l G MX8_shift 0 [(0, .ref 0), (1, .int v1)] [] (qs_w s0 (qs_TC G)) (some (.int o.1)) (qs_w o.2 (qs_TC G))
  unfold g_X8_shift at h
  refine qe_iload_n dX8_shift_0 1 rfl rfl ?_
  refine qe_if_lt (tgt := 9) dX8_shift_1 rfl h (fun _ h => ?_) (fun _ h => ?_)
  · refine qe_aload_n dX8_shift_9 0 rfl rfl trivial ?_
    refine qe_iconst (v := (-1 : Int32)) dX8_shift_10 rfl ?_
    refine qm_b_elim h (fun a2 s1 hc h => ?_)
    refine qe_callV1 (st := []) kk_X8_shift_X8_refuse (c_X8_refuse hc) (qs_at tC_0) rfl rfl rfl (Nat.le_of_ble_eq_true rfl) dX8_shift_11 ?_
    have e : (a2, s1) = o := Option.some.inj h
    subst e
    exact qe_iret dX8_shift_14 rfl
  · refine qe_iload_n dX8_shift_4 1 rfl rfl ?_
    refine qe_iconst (v := (1 : Int32)) dX8_shift_5 rfl ?_
    refine qe_icmp_le (tgt := 15) dX8_shift_6 rfl h (fun _ h => ?_) (fun _ h => ?_)
    · refine qe_aload_n dX8_shift_15 0 rfl rfl trivial ?_
      refine qm_b_elim h (fun a4 s3 hc h => ?_)
      refine qe_callV1 (st := []) kk_X8_shift_X8_layBothTimes (c_X8_layBothTimes hc) (qs_at tC_0) rfl rfl rfl (Nat.le_of_ble_eq_true rfl) dX8_shift_16 ?_
      refine qe_if_ne (tgt := 29) dX8_shift_19 rfl h (fun _ h => ?_) (fun _ h => ?_)
      · refine qe_aload_n dX8_shift_29 0 rfl rfl trivial ?_
        refine qe_iload_n dX8_shift_30 1 rfl rfl ?_
        refine qe_if_ne (tgt := 38) dX8_shift_31 rfl h (fun _ h => ?_) (fun _ h => ?_)
        · refine qe_iconst (v := (-1 : Int32)) dX8_shift_38 rfl ?_
          refine qm_b_elim h (fun b6 s5 hc h => ?_)
          refine qe_callV1 (st := []) kk_X8_shift_X8_extremeShift (c_X8_extremeShift hc) (qs_at tC_0) rfl rfl rfl (Nat.le_of_ble_eq_true rfl) dX8_shift_39 ?_
          refine qe_l2i dX8_shift_42 ?_
          have e : (b6.toInt32, s5) = o := Option.some.inj h
          subst e
          exact qe_iret dX8_shift_43 rfl
        · refine qe_iconst (v := (1 : Int32)) dX8_shift_34 rfl ?_
          refine qe_goto (tgt := 39) dX8_shift_35 rfl ?_
          refine qm_b_elim h (fun b8 s7 hc h => ?_)
          refine qe_callV1 (st := []) kk_X8_shift_X8_extremeShift (c_X8_extremeShift hc) (qs_at tC_0) rfl rfl rfl (Nat.le_of_ble_eq_true rfl) dX8_shift_39 ?_
          refine qe_l2i dX8_shift_42 ?_
          have e : (b8.toInt32, s7) = o := Option.some.inj h
          subst e
          exact qe_iret dX8_shift_43 rfl
      · refine qe_aload_n dX8_shift_22 0 rfl rfl trivial ?_
        refine qe_bipush (v := (-7 : Int32)) dX8_shift_23 rfl ?_
        refine qm_b_elim h (fun a10 s9 hc h => ?_)
        refine qe_callV1 (st := []) kk_X8_shift_X8_refuse (c_X8_refuse hc) (qs_at tC_0) rfl rfl rfl (Nat.le_of_ble_eq_true rfl) dX8_shift_25 ?_
        have e : (a10, s9) = o := Option.some.inj h
        subst e
        exact qe_iret dX8_shift_28 rfl
    · refine qe_aload_n dX8_shift_9 0 rfl rfl trivial ?_
      refine qe_iconst (v := (-1 : Int32)) dX8_shift_10 rfl ?_
      refine qm_b_elim h (fun a12 s11 hc h => ?_)
      refine qe_callV1 (st := []) kk_X8_shift_X8_refuse (c_X8_refuse hc) (qs_at tC_0) rfl rfl rfl (Nat.le_of_ble_eq_true rfl) dX8_shift_11 ?_
      have e : (a12, s11) = o := Option.some.inj h
      subst e
      exact qe_iret dX8_shift_14 rfl

set_option maxRecDepth 20000 in
theorem c_X8_isManner {l : Launch} {G : qe_G} {v0 : Int32} {s0 : qe_S} {o : Int32 × qe_S} (h : g_X8_isManner v0 s0 = some o) : qe_C l G MX8_isManner [.int v0] (qs_w s0 (qs_TC G)) (some (.int o.1)) (qs_w o.2 (qs_TC G)) := by
  refine qe_C.of (by decide +kernel) (Nat.le_of_ble_eq_true rfl) ?_
  show qe_J l G MX8_isManner 0 [(0, .int v0)] [] (qs_w s0 (qs_TC G)) (some (.int o.1)) (qs_w o.2 (qs_TC G))
  unfold g_X8_isManner at h
  refine qm_j_elim h (fun j9 ej9 h => ?_)
  have hj9 : ∀  (s1 : qe_S) (o : Int32 × qe_S), j9  s1 = some o → qe_J l G MX8_isManner 9 [] [] (qs_w s1 (qs_TC G)) (some (.int o.1)) (qs_w o.2 (qs_TC G)) := by
    intro  s1 o h
    subst ej9
    refine qe_iconst (v := (1 : Int32)) dX8_isManner_9 rfl ?_
    refine qe_goto (tgt := 14) dX8_isManner_10 rfl ?_
    have e : ((1 : Int32), s1) = o := Option.some.inj h
    subst e
    exact qe_nret dX8_isManner_14 rfl rfl
  refine qe_iload_n dX8_isManner_0 0 rfl rfl ?_
  refine qe_if_eq (tgt := 9) dX8_isManner_1 rfl h (fun _ h => ?_) (fun _ h => ?_)
  · refine qe_sub [] rfl ?_
    exact hj9  _ _ h
  · refine qe_iload_n dX8_isManner_4 0 rfl rfl ?_
    refine qe_iconst (v := (1 : Int32)) dX8_isManner_5 rfl ?_
    refine qe_icmp_ne (tgt := 13) dX8_isManner_6 rfl h (fun _ h => ?_) (fun _ h => ?_)
    · refine qe_iconst (v := (0 : Int32)) dX8_isManner_13 rfl ?_
      have e : ((0 : Int32), s0) = o := Option.some.inj h
      subst e
      exact qe_nret dX8_isManner_14 rfl rfl
    · refine qe_sub [] rfl ?_
      exact hj9  _ _ h

set_option maxRecDepth 20000 in
theorem c_X3_stratumAt {l : Launch} {G : qe_G} {v1 : Int32} {s0 : qe_S} {o : Int32 × qe_S} (h : g_X3_stratumAt v1 s0 = some o) : qe_C l G MX3_stratumAt [.ref 1, .int v1] (qs_w s0 (qs_TC G)) (some (.int o.1)) (qs_w o.2 (qs_TC G)) := by
  refine qe_C.of (by decide +kernel) (Nat.le_of_ble_eq_true rfl) ?_
  show qe_J l G MX3_stratumAt 0 [(0, .ref 1), (1, .int v1)] [] (qs_w s0 (qs_TC G)) (some (.int o.1)) (qs_w o.2 (qs_TC G))
  unfold g_X3_stratumAt at h
  refine qe_aload_n dX3_stratumAt_0 0 rfl rfl trivial ?_
  refine qe_iload_n dX3_stratumAt_1 1 rfl rfl ?_
  refine qm_b_elim h (fun a2 s1 hc h => ?_)
  refine qe_callV1 (st := []) kk_X3_stratumAt_X3_unitAt (c_X3_unitAt hc) (qs_at tC_1) rfl rfl rfl (Nat.le_of_ble_eq_true rfl) dX3_stratumAt_2 ?_
  refine qe_istore_n (lv' := [(2, .int a2), (0, .ref 1), (1, .int v1)]) dX3_stratumAt_5 rfl rfl (Nat.le_of_ble_eq_true rfl) ?_
  refine qe_aload_n dX3_stratumAt_6 1 rfl rfl trivial ?_
  refine qe_iload_n dX3_stratumAt_7 0 rfl rfl ?_
  refine qm_b_elim h (fun a4 s3 hc h => ?_)
  refine qe_callV1 (st := []) kk_X3_stratumAt_X3_has (c_X3_has hc) (qs_at tC_1) rfl rfl rfl (Nat.le_of_ble_eq_true rfl) dX3_stratumAt_8 ?_
  refine qe_if_eq (tgt := 23) dX3_stratumAt_11 rfl h (fun _ h => ?_) (fun _ h => ?_)
  · refine qe_iconst (v := (-1 : Int32)) dX3_stratumAt_23 rfl ?_
    have e : ((-1 : Int32), s3) = o := Option.some.inj h
    subst e
    exact qe_iret dX3_stratumAt_24 rfl
  · refine qe_aload_n dX3_stratumAt_14 1 rfl rfl trivial ?_
    refine qs_getR (j := 3) tC_1 rfl fl_RX3_21 dX3_stratumAt_15 ?_
    refine qe_iload_n dX3_stratumAt_18 0 rfl rfl ?_
    refine qs_ild tC_2 dX3_stratumAt_19 h (fun a5 h => ?_)
    refine qe_goto (tgt := 24) dX3_stratumAt_20 rfl ?_
    have e : (a5, s3) = o := Option.some.inj h
    subst e
    exact qe_iret dX3_stratumAt_24 rfl

set_option maxRecDepth 20000 in
theorem c_X2_firstBehind_L10 {l : Launch} {G : qe_G} {v1 : Int32} {v2 : Int32} {v3 : Int32} {v4 : Int32} : ∀ (n : Nat) (v5 : Int32) (s0 : qe_S) (o : Int32 × qe_S), g_X2_firstBehind_L10 v1 v2 v3 v4 n v5 s0 = some o → qe_J l G MX2_firstBehind 10 [(0, .ref 1), (1, .int v1), (2, .int v2), (3, .int v3), (4, .int v4), (5, .int v5)] [] (qs_w s0 (qs_TC G)) (some (.int o.1)) (qs_w o.2 (qs_TC G)) := by
  intro n
  induction n with
  | zero =>
    intro v5 s0 o h
    rw [g_X2_firstBehind_L10] at h
    cases h
  | succ n ih =>
    intro v5 s0 o h
    rw [g_X2_firstBehind_L10] at h
    refine qe_iload dX2_firstBehind_10 5 rfl ?_
    refine qe_aload_n dX2_firstBehind_12 0 rfl rfl trivial ?_
    refine qs_getI (j := 0) tC_1 rfl fl_RX2_19 dX2_firstBehind_13 ?_
    refine qe_icmp_ge (tgt := 71) dX2_firstBehind_16 rfl h (fun _ h => ?_) (fun _ h => ?_)
    · refine qe_iconst (v := (-1 : Int32)) dX2_firstBehind_71 rfl ?_
      have e : ((-1 : Int32), s0) = o := Option.some.inj h
      subst e
      exact qe_iret dX2_firstBehind_72 rfl
    · refine qm_j_elim h (fun j65 ej65 h => ?_)
      have hj65 : ∀  (s4 : qe_S) (o : Int32 × qe_S), j65  s4 = some o → qe_J l G MX2_firstBehind 65 [(0, .ref 1), (1, .int v1), (2, .int v2), (3, .int v3), (4, .int v4), (5, .int v5)] [] (qs_w s4 (qs_TC G)) (some (.int o.1)) (qs_w o.2 (qs_TC G)) := by
        intro  s4 o h
        subst ej65
        refine qe_iincl (lv' := fun a5 => [(5, .int a5), (0, .ref 1), (1, .int v1), (2, .int v2), (3, .int v3), (4, .int v4)]) dX2_firstBehind_65 5 rfl rfl (fun _ => rfl) (Nat.le_of_ble_eq_true rfl) h (fun a5 h => ?_)
        refine qe_goto (tgt := 10) dX2_firstBehind_68 rfl ?_
        refine qe_sub [1, 2, 3, 4, 5, 0] rfl ?_
        exact ih _ _ _ h
      refine qe_iload_n dX2_firstBehind_19 1 rfl rfl ?_
      refine qe_iload dX2_firstBehind_20 5 rfl ?_
      refine qe_iadd dX2_firstBehind_22 ?_
      refine qe_aload_n dX2_firstBehind_23 0 rfl rfl trivial ?_
      refine qs_getI (j := 0) tC_1 rfl fl_RX2_19 dX2_firstBehind_24 ?_
      refine qe_irem dX2_firstBehind_27 h (fun h => ?_)
      refine qe_let_i h (fun a6 h => ?_)
      refine qe_istore (lv' := [(6, .int a6), (0, .ref 1), (1, .int v1), (2, .int v2), (3, .int v3), (4, .int v4), (5, .int v5)]) dX2_firstBehind_28 rfl (Nat.le_of_ble_eq_true rfl) ?_
      refine qe_aload_n dX2_firstBehind_30 1 rfl rfl trivial ?_
      refine qe_iload dX2_firstBehind_31 0 rfl ?_
      refine qm_b_elim h (fun a8 s7 hc h => ?_)
      refine qe_callV1 (st := []) kk_X2_firstBehind_X3_unitAt (c_X3_unitAt hc) (qs_at tC_1) rfl rfl rfl (Nat.le_of_ble_eq_true rfl) dX2_firstBehind_33 ?_
      refine qe_istore (lv' := [(7, .int a8), (6, .int a6), (0, .ref 1), (1, .int v1), (2, .int v2), (3, .int v3), (4, .int v4), (5, .int v5)]) dX2_firstBehind_36 rfl (Nat.le_of_ble_eq_true rfl) ?_
      refine qe_iload_n dX2_firstBehind_38 4 rfl rfl ?_
      refine qe_iload dX2_firstBehind_39 0 rfl ?_
      refine qm_b_elim h (fun a10 s9 hc h => ?_)
      refine qe_callN1 (st := []) kk_X2_firstBehind_X8_isIn (c_X8_isIn hc) rfl rfl (Nat.le_of_ble_eq_true rfl) dX2_firstBehind_41 ?_
      refine qe_if_ne (tgt := 65) dX2_firstBehind_44 rfl h (fun _ h => ?_) (fun _ h => ?_)
      · refine qe_sub [2, 3, 4, 5, 6, 7] rfl ?_
        exact hj65  _ _ h
      · refine qe_iload_n dX2_firstBehind_47 5 rfl rfl ?_
        refine qe_if_eq (tgt := 62) dX2_firstBehind_48 rfl h (fun _ h => ?_) (fun _ h => ?_)
        · refine qe_iload dX2_firstBehind_62 0 rfl ?_
          have e : (a8, s9) = o := Option.some.inj h
          subst e
          exact qe_iret dX2_firstBehind_64 rfl
        · refine qe_aload_n dX2_firstBehind_51 2 rfl rfl trivial ?_
          refine qe_iload dX2_firstBehind_52 1 rfl ?_
          refine qm_b_elim h (fun a12 s11 hc h => ?_)
          refine qe_callV1 (st := []) kk_X2_firstBehind_X3_stratumAt (c_X3_stratumAt hc) (qs_at tC_1) rfl rfl rfl (Nat.le_of_ble_eq_true rfl) dX2_firstBehind_54 ?_
          refine qe_iload dX2_firstBehind_57 6 rfl ?_
          refine qe_icmp_ne (tgt := 65) dX2_firstBehind_59 rfl h (fun _ h => ?_) (fun _ h => ?_)
          · refine qe_sub [2, 3, 4, 5, 6, 7] rfl ?_
            exact hj65  _ _ h
          · refine qe_iload dX2_firstBehind_62 0 rfl ?_
            have e : (a8, s11) = o := Option.some.inj h
            subst e
            exact qe_iret dX2_firstBehind_64 rfl

set_option maxRecDepth 20000 in
theorem c_X2_firstBehind {l : Launch} {G : qe_G} {v1 : Int32} {v2 : Int32} {v3 : Int32} {s0 : qe_S} {o : Int32 × qe_S} (h : g_X2_firstBehind v1 v2 v3 s0 = some o) : qe_C l G MX2_firstBehind [.ref 1, .int v1, .int v2, .int v3] (qs_w s0 (qs_TC G)) (some (.int o.1)) (qs_w o.2 (qs_TC G)) := by
  refine qe_C.of (by decide +kernel) (Nat.le_of_ble_eq_true rfl) ?_
  show qe_J l G MX2_firstBehind 0 [(0, .ref 1), (1, .int v1), (2, .int v2), (3, .int v3)] [] (qs_w s0 (qs_TC G)) (some (.int o.1)) (qs_w o.2 (qs_TC G))
  unfold g_X2_firstBehind at h
  refine qe_aload_n dX2_firstBehind_0 0 rfl rfl trivial ?_
  refine qe_iload_n dX2_firstBehind_1 1 rfl rfl ?_
  refine qm_b_elim h (fun a2 s1 hc h => ?_)
  refine qe_callV1 (st := []) kk_X2_firstBehind_X3_stratumAt (c_X3_stratumAt hc) (qs_at tC_1) rfl rfl rfl (Nat.le_of_ble_eq_true rfl) dX2_firstBehind_2 ?_
  refine qe_istore (lv' := [(4, .int a2), (0, .ref 1), (1, .int v1), (2, .int v2), (3, .int v3)]) dX2_firstBehind_5 rfl (Nat.le_of_ble_eq_true rfl) ?_
  refine qe_iconst (v := (1 : Int32)) dX2_firstBehind_7 rfl ?_
  refine qe_let_i h (fun a3 h => ?_)
  refine qe_istore (lv' := [(5, .int a3), (4, .int a2), (0, .ref 1), (1, .int v1), (2, .int v2), (3, .int v3)]) dX2_firstBehind_8 rfl (Nat.le_of_ble_eq_true rfl) ?_
  refine qe_sub [2, 3, 4, 5, 1, 0] rfl ?_
  refine c_X2_firstBehind_L10 _ _ _ _ h

set_option maxRecDepth 20000 in
theorem c_X2_settle_L6 {l : Launch} {G : qe_G} {k92 : Int32 → qe_S → Option (qe_S)} {v2 : Int32} {v3 : Int32} (hk92 : ∀ (a3 : Int32) (s : qe_S) (o : qe_S), k92 a3 s = some o → qe_J l G MX2_settle 92 [(0, .ref 35), (1, .ref 1), (2, .int v2), (4, .int a3)] [] (qs_w s (qs_TC G)) none (qs_w o (qs_TC G))) : ∀ (n : Nat) (v4 : Int32) (v5 : Int32) (s0 : qe_S) (o : qe_S), g_X2_settle_L6 k92 v2 v3 n v4 v5 s0 = some o → qe_J l G MX2_settle 6 [(0, .ref 35), (1, .ref 1), (2, .int v2), (3, .int v3), (4, .int v4), (5, .int v5)] [] (qs_w s0 (qs_TC G)) none (qs_w o (qs_TC G)) := by
  intro n
  induction n with
  | zero =>
    intro v4 v5 s0 o h
    rw [g_X2_settle_L6] at h
    cases h
  | succ n ih =>
    intro v4 v5 s0 o h
    rw [g_X2_settle_L6] at h
    refine qe_iload dX2_settle_6 5 rfl ?_
    refine qe_aload_n dX2_settle_8 1 rfl rfl trivial ?_
    refine qs_getI (j := 0) tC_1 rfl fl_RX2_19 dX2_settle_9 ?_
    refine qe_icmp_ge (tgt := 92) dX2_settle_12 rfl h (fun _ h => ?_) (fun _ h => ?_)
    · refine qe_sub [0, 1, 2, 4] rfl ?_
      exact hk92 _ _ _ h
    · refine qm_j_elim h (fun j86 ej86 h => ?_)
      have hj86 : ∀ (a4 : Int32) (s5 : qe_S) (o : qe_S), j86 a4 s5 = some o → qe_J l G MX2_settle 86 [(0, .ref 35), (1, .ref 1), (2, .int v2), (3, .int v3), (4, .int a4), (5, .int v5)] [] (qs_w s5 (qs_TC G)) none (qs_w o (qs_TC G)) := by
        intro a4 s5 o h
        subst ej86
        refine qe_iincl (lv' := fun a6 => [(5, .int a6), (0, .ref 35), (1, .ref 1), (2, .int v2), (3, .int v3), (4, .int a4)]) dX2_settle_86 5 rfl rfl (fun _ => rfl) (Nat.le_of_ble_eq_true rfl) h (fun a6 h => ?_)
        refine qe_goto (tgt := 6) dX2_settle_89 rfl ?_
        refine qe_sub [1, 2, 3, 4, 5, 0] rfl ?_
        exact ih _ _ _ _ h
      refine qe_aload_n dX2_settle_15 1 rfl rfl trivial ?_
      refine qe_iload dX2_settle_16 5 rfl ?_
      refine qm_b_elim h (fun a8 s7 hc h => ?_)
      refine qe_callV1 (st := []) kk_X2_settle_X3_unitAt (c_X3_unitAt hc) (qs_at tC_1) rfl rfl rfl (Nat.le_of_ble_eq_true rfl) dX2_settle_18 ?_
      refine qe_istore (lv' := [(6, .int a8), (0, .ref 35), (1, .ref 1), (2, .int v2), (3, .int v3), (4, .int v4), (5, .int v5)]) dX2_settle_21 rfl (Nat.le_of_ble_eq_true rfl) ?_
      refine qe_aload_n dX2_settle_23 2 rfl rfl trivial ?_
      refine qe_iload dX2_settle_24 0 rfl ?_
      refine qm_b_elim h (fun a10 s9 hc h => ?_)
      refine qe_callV1 (st := []) kk_X2_settle_X3_isRefusing (c_X3_isRefusing hc) (qs_at tC_1) rfl rfl rfl (Nat.le_of_ble_eq_true rfl) dX2_settle_26 ?_
      refine qe_if_eq (tgt := 86) dX2_settle_29 rfl h (fun _ h => ?_) (fun _ h => ?_)
      · refine qe_sub [1, 2, 3, 4, 5, 6] rfl ?_
        exact hj86 _ _ _ h
      · refine qe_iload_n dX2_settle_32 3 rfl rfl ?_
        refine qe_iload dX2_settle_33 0 rfl ?_
        refine qm_b_elim h (fun a12 s11 hc h => ?_)
        refine qe_callN1 (st := []) kk_X2_settle_X8_isIn (c_X8_isIn hc) rfl rfl (Nat.le_of_ble_eq_true rfl) dX2_settle_35 ?_
        refine qe_if_eq (tgt := 86) dX2_settle_38 rfl h (fun _ h => ?_) (fun _ h => ?_)
        · refine qe_sub [1, 2, 3, 4, 5, 6] rfl ?_
          exact hj86 _ _ _ h
        · refine qm_j_elim h (fun j83 ej83 h => ?_)
          have hj83 : ∀ (q13 : Int32) (q14 : Int32) (s15 : qe_S) (o : qe_S), j83 q13 q14 s15 = some o → qe_J l G MX2_settle 83 [(0, .ref 35), (1, .ref 1), (2, .int v2), (3, .int v3), (5, .int v5)] [.int q13, .int q14] (qs_w s15 (qs_TC G)) none (qs_w o (qs_TC G)) := by
            intro q13 q14 s15 o h
            subst ej83
            refine qe_ior dX2_settle_83 ?_
            refine qe_let_i h (fun a16 h => ?_)
            refine qe_istore (lv' := [(4, .int a16), (0, .ref 35), (1, .ref 1), (2, .int v2), (3, .int v3), (5, .int v5)]) dX2_settle_84 rfl (Nat.le_of_ble_eq_true rfl) ?_
            refine qe_sub [1, 2, 3, 4, 0, 5] rfl ?_
            exact hj86 _ _ _ h
          refine qe_aload_n dX2_settle_41 2 rfl rfl trivial ?_
          refine qe_iload dX2_settle_42 6 rfl ?_
          refine qe_iload_n dX2_settle_44 3 rfl rfl ?_
          refine qe_aload_n dX2_settle_45 2 rfl rfl trivial ?_
          refine qs_getI (j := 1) tC_1 rfl fl_RX2_36 dX2_settle_46 ?_
          refine qe_ior dX2_settle_49 ?_
          refine qe_iload dX2_settle_50 5 rfl ?_
          refine qe_ior dX2_settle_52 ?_
          refine qe_iload_n dX2_settle_53 4 rfl rfl ?_
          refine qm_b_elim h (fun a18 s17 hc h => ?_)
          refine qe_callS1 (st := []) kk_X2_settle_X2_firstBehind (c_X2_firstBehind hc) rfl rfl (Nat.le_of_ble_eq_true rfl) dX2_settle_54 ?_
          refine qe_istore (lv' := [(7, .int a18), (6, .int a8), (0, .ref 35), (1, .ref 1), (2, .int v2), (3, .int v3), (4, .int v4), (5, .int v5)]) dX2_settle_57 rfl (Nat.le_of_ble_eq_true rfl) ?_
          refine qe_aload_n dX2_settle_59 2 rfl rfl trivial ?_
          refine qs_getR (j := 1) tC_35 rfl fl_RX2_15 dX2_settle_60 ?_
          refine qe_iload dX2_settle_63 1 rfl ?_
          refine qe_iload dX2_settle_65 0 rfl ?_
          refine qs_ist tC_36 dX2_settle_67 h (fun s19 h => ?_)
          refine qe_iload dX2_settle_68 6 rfl ?_
          refine qe_iload dX2_settle_70 0 rfl ?_
          refine qe_if_lt (tgt := 82) dX2_settle_72 rfl h (fun _ h => ?_) (fun _ h => ?_)
          · refine qe_iconst (v := (0 : Int32)) dX2_settle_82 rfl ?_
            refine qe_sub [2, 3, 4, 5, 7] rfl ?_
            exact hj83 _ _ _ _ h
          · refine qe_iconst (v := (1 : Int32)) dX2_settle_75 rfl ?_
            refine qe_iload dX2_settle_76 0 rfl ?_
            refine qe_ishl dX2_settle_78 ?_
            refine qe_goto (tgt := 83) dX2_settle_79 rfl ?_
            refine qe_sub [2, 3, 4, 5, 7] rfl ?_
            exact hj83 _ _ _ _ h

set_option maxRecDepth 20000 in
theorem c_X2_settle {l : Launch} {G : qe_G} {v2 : Int32} {v3 : Int32} {s0 : qe_S} {o : qe_S} (h : g_X2_settle v2 v3 s0 = some o) : qe_C l G MX2_settle [.ref 35, .ref 1, .int v2, .int v3] (qs_w s0 (qs_TC G)) none (qs_w o (qs_TC G)) := by
  refine qe_C.of (by decide +kernel) (Nat.le_of_ble_eq_true rfl) ?_
  show qe_J l G MX2_settle 0 [(0, .ref 35), (1, .ref 1), (2, .int v2), (3, .int v3)] [] (qs_w s0 (qs_TC G)) none (qs_w o (qs_TC G))
  unfold g_X2_settle at h
  refine qe_iconst (v := (0 : Int32)) dX2_settle_0 rfl ?_
  refine qe_let_i h (fun a1 h => ?_)
  refine qe_istore (lv' := [(4, .int a1), (0, .ref 35), (1, .ref 1), (2, .int v2), (3, .int v3)]) dX2_settle_1 rfl (Nat.le_of_ble_eq_true rfl) ?_
  refine qe_iconst (v := (0 : Int32)) dX2_settle_3 rfl ?_
  refine qe_let_i h (fun a2 h => ?_)
  refine qe_istore (lv' := [(5, .int a2), (4, .int a1), (0, .ref 35), (1, .ref 1), (2, .int v2), (3, .int v3)]) dX2_settle_4 rfl (Nat.le_of_ble_eq_true rfl) ?_
  refine qe_sub [2, 3, 4, 5, 1, 0] rfl ?_
  refine c_X2_settle_L6
    (fun a20 s21 o h => ?_) _ _ _ _ _ h
  refine qe_aload_n dX2_settle_92 0 rfl rfl trivial ?_
  refine qe_iload_n dX2_settle_93 2 rfl rfl ?_
  refine qe_aload_n dX2_settle_94 1 rfl rfl trivial ?_
  refine qs_getI (j := 1) tC_1 rfl fl_RX2_36 dX2_settle_95 ?_
  refine qe_iconst (v := (-1 : Int32)) dX2_settle_98 rfl ?_
  refine qe_ixor dX2_settle_99 ?_
  refine qe_iand dX2_settle_100 ?_
  refine qe_iload dX2_settle_101 3 rfl ?_
  refine qe_ior dX2_settle_103 ?_
  refine qs_putI (j := 0) tC_35 rfl fp_RX2_9 dX2_settle_104 h (fun s22 h => ?_)
  have e : s22 = o := Option.some.inj h
  subst e
  exact qe_vret dX2_settle_107 rfl

set_option maxRecDepth 20000 in
theorem c_X8_replaced {l : Launch} {G : qe_G} {v1 : Int32} {v2 : Int32} {s0 : qe_S} {o : Int32 × qe_S} (h : g_X8_replaced v1 v2 s0 = some o) : qe_C l G MX8_replaced [.ref 0, .int v1, .int v2] (qs_w s0 (qs_TC G)) (some (.int o.1)) (qs_w o.2 (qs_TC G)) := by
  refine qe_C.of (by decide +kernel) (Nat.le_of_ble_eq_true rfl) ?_
  show qe_J l G MX8_replaced 0 [(0, .ref 0), (1, .int v1), (2, .int v2)] [] (qs_w s0 (qs_TC G)) (some (.int o.1)) (qs_w o.2 (qs_TC G))
  unfold g_X8_replaced at h
  refine qe_iload_n dX8_replaced_0 2 rfl rfl ?_
  refine qm_b_elim h (fun a2 s1 hc h => ?_)
  refine qe_callS1 (st := []) kk_X8_replaced_X8_isManner (c_X8_isManner hc) rfl rfl (Nat.le_of_ble_eq_true rfl) dX8_replaced_1 ?_
  refine qe_if_ne (tgt := 13) dX8_replaced_4 rfl h (fun _ h => ?_) (fun _ h => ?_)
  · refine qe_aload_n dX8_replaced_13 0 rfl rfl trivial ?_
    refine qm_b_elim h (fun a4 s3 hc h => ?_)
    refine qe_callV1 (st := []) kk_X8_replaced_X8_layWheel (c_X8_layWheel hc) (qs_at tC_0) rfl rfl rfl (Nat.le_of_ble_eq_true rfl) dX8_replaced_14 ?_
    refine qe_if_ne (tgt := 27) dX8_replaced_17 rfl h (fun _ h => ?_) (fun _ h => ?_)
    · refine qe_aload_n dX8_replaced_27 0 rfl rfl trivial ?_
      refine qs_getR (j := 4) tC_0 rfl fl_RX8_29 dX8_replaced_28 ?_
      refine qe_iload_n dX8_replaced_31 1 rfl rfl ?_
      refine qm_b_elim h (fun a6 s5 hc h => ?_)
      refine qe_callV1 (st := []) kk_X8_replaced_X7_hasPlace (c_X7_hasPlace hc) (qs_at tC_22) rfl rfl rfl (Nat.le_of_ble_eq_true rfl) dX8_replaced_32 ?_
      refine qe_if_ne (tgt := 45) dX8_replaced_35 rfl h (fun _ h => ?_) (fun _ h => ?_)
      · refine qe_aload_n dX8_replaced_45 0 rfl rfl trivial ?_
        refine qs_getR (j := 10) tC_0 rfl fl_RX8_59 dX8_replaced_46 ?_
        refine qe_aload_n dX8_replaced_49 0 rfl rfl trivial ?_
        refine qs_getR (j := 0) tC_0 rfl fl_RX8_12 dX8_replaced_50 ?_
        refine qe_aload_n dX8_replaced_53 0 rfl rfl trivial ?_
        refine qs_getR (j := 4) tC_0 rfl fl_RX8_29 dX8_replaced_54 ?_
        refine qe_iload_n dX8_replaced_57 1 rfl rfl ?_
        refine qe_i2l dX8_replaced_58 ?_
        refine qm_b_elim h (fun a8 s7 hc h => ?_)
        refine qe_callV1 (st := [.ref 1, .ref 35]) kk_X8_replaced_X7_chosenBy (c_X7_chosenBy_22 hc) (qs_at tC_22) rfl rfl rfl (Nat.le_of_ble_eq_true rfl) dX8_replaced_59 ?_
        refine qe_iload_n dX8_replaced_62 2 rfl rfl ?_
        refine qm_o_elim h (fun s9 hc h => ?_)
        refine qe_callV0 (st := []) kk_X8_replaced_X2_settle (c_X2_settle hc) (qs_at tC_35) rfl rfl rfl (Nat.le_of_ble_eq_true rfl) dX8_replaced_63 ?_
        refine qe_aload_n dX8_replaced_66 0 rfl rfl trivial ?_
        refine qs_getR (j := 10) tC_0 rfl fl_RX8_59 dX8_replaced_67 ?_
        refine qs_getI (j := 0) tC_35 rfl fl_RX8_250 dX8_replaced_70 ?_
        have e : ((s9.1 35 0), s9) = o := Option.some.inj h
        subst e
        exact qe_iret dX8_replaced_73 rfl
      · refine qe_aload_n dX8_replaced_38 0 rfl rfl trivial ?_
        refine qe_bipush (v := (-2 : Int32)) dX8_replaced_39 rfl ?_
        refine qm_b_elim h (fun a11 s10 hc h => ?_)
        refine qe_callV1 (st := []) kk_X8_replaced_X8_refuse (c_X8_refuse hc) (qs_at tC_0) rfl rfl rfl (Nat.le_of_ble_eq_true rfl) dX8_replaced_41 ?_
        have e : (a11, s10) = o := Option.some.inj h
        subst e
        exact qe_iret dX8_replaced_44 rfl
    · refine qe_aload_n dX8_replaced_20 0 rfl rfl trivial ?_
      refine qe_bipush (v := (-7 : Int32)) dX8_replaced_21 rfl ?_
      refine qm_b_elim h (fun a13 s12 hc h => ?_)
      refine qe_callV1 (st := []) kk_X8_replaced_X8_refuse (c_X8_refuse hc) (qs_at tC_0) rfl rfl rfl (Nat.le_of_ble_eq_true rfl) dX8_replaced_23 ?_
      have e : (a13, s12) = o := Option.some.inj h
      subst e
      exact qe_iret dX8_replaced_26 rfl
  · refine qe_aload_n dX8_replaced_7 0 rfl rfl trivial ?_
    refine qe_iconst (v := (-1 : Int32)) dX8_replaced_8 rfl ?_
    refine qm_b_elim h (fun a15 s14 hc h => ?_)
    refine qe_callV1 (st := []) kk_X8_replaced_X8_refuse (c_X8_refuse hc) (qs_at tC_0) rfl rfl rfl (Nat.le_of_ble_eq_true rfl) dX8_replaced_9 ?_
    have e : (a15, s14) = o := Option.some.inj h
    subst e
    exact qe_iret dX8_replaced_12 rfl

set_option maxRecDepth 20000 in
theorem c_X8_substitute {l : Launch} {G : qe_G} {v1 : Int32} {v2 : Int32} {v3 : Int32} {s0 : qe_S} {o : Int32 × qe_S} (h : g_X8_substitute v1 v2 v3 s0 = some o) : qe_C l G MX8_substitute [.ref 0, .int v1, .int v2, .int v3] (qs_w s0 (qs_TC G)) (some (.int o.1)) (qs_w o.2 (qs_TC G)) := by
  refine qe_C.of (by decide +kernel) (Nat.le_of_ble_eq_true rfl) ?_
  show qe_J l G MX8_substitute 0 [(0, .ref 0), (1, .int v1), (2, .int v2), (3, .int v3)] [] (qs_w s0 (qs_TC G)) (some (.int o.1)) (qs_w o.2 (qs_TC G))
  unfold g_X8_substitute at h
  refine qe_aload_n dX8_substitute_0 0 rfl rfl trivial ?_
  refine qs_getR (j := 0) tC_0 rfl fl_RX8_12 dX8_substitute_1 ?_
  refine qe_iload_n dX8_substitute_4 1 rfl rfl ?_
  refine qm_b_elim h (fun a2 s1 hc h => ?_)
  refine qe_callV1 (st := []) kk_X8_substitute_X3_has (c_X3_has hc) (qs_at tC_1) rfl rfl rfl (Nat.le_of_ble_eq_true rfl) dX8_substitute_5 ?_
  refine qe_if_eq (tgt := 18) dX8_substitute_8 rfl h (fun _ h => ?_) (fun _ h => ?_)
  · refine qe_aload_n dX8_substitute_18 0 rfl rfl trivial ?_
    refine qe_iconst (v := (-1 : Int32)) dX8_substitute_19 rfl ?_
    refine qm_b_elim h (fun a4 s3 hc h => ?_)
    refine qe_callV1 (st := []) kk_X8_substitute_X8_refuse (c_X8_refuse hc) (qs_at tC_0) rfl rfl rfl (Nat.le_of_ble_eq_true rfl) dX8_substitute_20 ?_
    have e : (a4, s3) = o := Option.some.inj h
    subst e
    exact qe_iret dX8_substitute_23 rfl
  · refine qe_iload_n dX8_substitute_11 3 rfl rfl ?_
    refine qm_b_elim h (fun a6 s5 hc h => ?_)
    refine qe_callS1 (st := []) kk_X8_substitute_X8_isManner (c_X8_isManner hc) rfl rfl (Nat.le_of_ble_eq_true rfl) dX8_substitute_12 ?_
    refine qe_if_ne (tgt := 24) dX8_substitute_15 rfl h (fun _ h => ?_) (fun _ h => ?_)
    · refine qe_aload_n dX8_substitute_24 0 rfl rfl trivial ?_
      refine qm_b_elim h (fun a8 s7 hc h => ?_)
      refine qe_callV1 (st := []) kk_X8_substitute_X8_layWheel (c_X8_layWheel hc) (qs_at tC_0) rfl rfl rfl (Nat.le_of_ble_eq_true rfl) dX8_substitute_25 ?_
      refine qe_if_ne (tgt := 38) dX8_substitute_28 rfl h (fun _ h => ?_) (fun _ h => ?_)
      · refine qe_aload_n dX8_substitute_38 0 rfl rfl trivial ?_
        refine qs_getR (j := 4) tC_0 rfl fl_RX8_29 dX8_substitute_39 ?_
        refine qe_iload_n dX8_substitute_42 2 rfl rfl ?_
        refine qm_b_elim h (fun a10 s9 hc h => ?_)
        refine qe_callV1 (st := []) kk_X8_substitute_X7_hasPlace (c_X7_hasPlace hc) (qs_at tC_22) rfl rfl rfl (Nat.le_of_ble_eq_true rfl) dX8_substitute_43 ?_
        refine qe_if_ne (tgt := 56) dX8_substitute_46 rfl h (fun _ h => ?_) (fun _ h => ?_)
        · refine qe_aload_n dX8_substitute_56 0 rfl rfl trivial ?_
          refine qs_getR (j := 4) tC_0 rfl fl_RX8_29 dX8_substitute_57 ?_
          refine qe_iload_n dX8_substitute_60 2 rfl rfl ?_
          refine qe_i2l dX8_substitute_61 ?_
          refine qm_b_elim h (fun a12 s11 hc h => ?_)
          refine qe_callV1 (st := []) kk_X8_substitute_X7_chosenBy (c_X7_chosenBy_22 hc) (qs_at tC_22) rfl rfl rfl (Nat.le_of_ble_eq_true rfl) dX8_substitute_62 ?_
          refine qe_istore (lv' := [(4, .int a12), (0, .ref 0), (1, .int v1), (2, .int v2), (3, .int v3)]) dX8_substitute_65 rfl (Nat.le_of_ble_eq_true rfl) ?_
          refine qe_iload dX8_substitute_67 0 rfl ?_
          refine qe_iload_n dX8_substitute_69 2 rfl rfl ?_
          refine qm_b_elim h (fun a14 s13 hc h => ?_)
          refine qe_callS1 (st := []) kk_X8_substitute_X8_isIn (c_X8_isIn hc) rfl rfl (Nat.le_of_ble_eq_true rfl) dX8_substitute_70 ?_
          refine qe_if_eq (tgt := 87) dX8_substitute_73 rfl h (fun _ h => ?_) (fun _ h => ?_)
          · refine qe_aload_n dX8_substitute_87 1 rfl rfl trivial ?_
            refine qe_bipush (v := (-3 : Int32)) dX8_substitute_88 rfl ?_
            refine qm_b_elim h (fun a16 s15 hc h => ?_)
            refine qe_callV1 (st := []) kk_X8_substitute_X8_refuse (c_X8_refuse hc) (qs_at tC_0) rfl rfl rfl (Nat.le_of_ble_eq_true rfl) dX8_substitute_90 ?_
            have e : (a16, s15) = o := Option.some.inj h
            subst e
            exact qe_iret dX8_substitute_93 rfl
          · refine qe_aload_n dX8_substitute_76 1 rfl rfl trivial ?_
            refine qs_getR (j := 0) tC_0 rfl fl_RX8_12 dX8_substitute_77 ?_
            refine qe_iload_n dX8_substitute_80 2 rfl rfl ?_
            refine qm_b_elim h (fun a18 s17 hc h => ?_)
            refine qe_callV1 (st := []) kk_X8_substitute_X3_isRefusing (c_X3_isRefusing hc) (qs_at tC_1) rfl rfl rfl (Nat.le_of_ble_eq_true rfl) dX8_substitute_81 ?_
            refine qe_if_ne (tgt := 94) dX8_substitute_84 rfl h (fun _ h => ?_) (fun _ h => ?_)
            · refine qe_aload_n dX8_substitute_94 1 rfl rfl trivial ?_
              refine qs_getR (j := 10) tC_0 rfl fl_RX8_59 dX8_substitute_95 ?_
              refine qe_aload_n dX8_substitute_98 1 rfl rfl trivial ?_
              refine qs_getR (j := 0) tC_0 rfl fl_RX8_12 dX8_substitute_99 ?_
              refine qe_iload dX8_substitute_102 0 rfl ?_
              refine qe_iload_n dX8_substitute_104 4 rfl rfl ?_
              refine qm_o_elim h (fun s19 hc h => ?_)
              refine qe_callV0 (st := []) kk_X8_substitute_X2_settle (c_X2_settle hc) (qs_at tC_35) rfl rfl rfl (Nat.le_of_ble_eq_true rfl) dX8_substitute_105 ?_
              refine qe_aload_n dX8_substitute_108 1 rfl rfl trivial ?_
              refine qs_getR (j := 10) tC_0 rfl fl_RX8_59 dX8_substitute_109 ?_
              refine qs_getR (j := 1) tC_35 rfl fl_RX8_257 dX8_substitute_112 ?_
              refine qe_iload_n dX8_substitute_115 2 rfl rfl ?_
              refine qs_ild tC_36 dX8_substitute_116 h (fun a20 h => ?_)
              refine qe_istore (lv' := [(5, .int a20), (4, .int a12), (0, .ref 0), (1, .int v1), (2, .int v2), (3, .int v3)]) dX8_substitute_117 rfl (Nat.le_of_ble_eq_true rfl) ?_
              refine qe_iload dX8_substitute_119 0 rfl ?_
              refine qe_if_lt (tgt := 129) dX8_substitute_121 rfl h (fun _ h => ?_) (fun _ h => ?_)
              · refine qe_aload_n dX8_substitute_129 2 rfl rfl trivial ?_
                refine qe_bipush (v := (-5 : Int32)) dX8_substitute_130 rfl ?_
                refine qm_b_elim h (fun a22 s21 hc h => ?_)
                refine qe_callV1 (st := []) kk_X8_substitute_X8_refuse (c_X8_refuse hc) (qs_at tC_0) rfl rfl rfl (Nat.le_of_ble_eq_true rfl) dX8_substitute_132 ?_
                have e : (a22, s21) = o := Option.some.inj h
                subst e
                exact qe_iret dX8_substitute_135 rfl
              · refine qe_iload dX8_substitute_124 0 rfl ?_
                refine qe_goto (tgt := 135) dX8_substitute_126 rfl ?_
                have e : (a20, s19) = o := Option.some.inj h
                subst e
                exact qe_iret dX8_substitute_135 rfl
            · refine qe_aload_n dX8_substitute_87 1 rfl rfl trivial ?_
              refine qe_bipush (v := (-3 : Int32)) dX8_substitute_88 rfl ?_
              refine qm_b_elim h (fun a24 s23 hc h => ?_)
              refine qe_callV1 (st := []) kk_X8_substitute_X8_refuse (c_X8_refuse hc) (qs_at tC_0) rfl rfl rfl (Nat.le_of_ble_eq_true rfl) dX8_substitute_90 ?_
              have e : (a24, s23) = o := Option.some.inj h
              subst e
              exact qe_iret dX8_substitute_93 rfl
        · refine qe_aload_n dX8_substitute_49 0 rfl rfl trivial ?_
          refine qe_bipush (v := (-2 : Int32)) dX8_substitute_50 rfl ?_
          refine qm_b_elim h (fun a26 s25 hc h => ?_)
          refine qe_callV1 (st := []) kk_X8_substitute_X8_refuse (c_X8_refuse hc) (qs_at tC_0) rfl rfl rfl (Nat.le_of_ble_eq_true rfl) dX8_substitute_52 ?_
          have e : (a26, s25) = o := Option.some.inj h
          subst e
          exact qe_iret dX8_substitute_55 rfl
      · refine qe_aload_n dX8_substitute_31 0 rfl rfl trivial ?_
        refine qe_bipush (v := (-7 : Int32)) dX8_substitute_32 rfl ?_
        refine qm_b_elim h (fun a28 s27 hc h => ?_)
        refine qe_callV1 (st := []) kk_X8_substitute_X8_refuse (c_X8_refuse hc) (qs_at tC_0) rfl rfl rfl (Nat.le_of_ble_eq_true rfl) dX8_substitute_34 ?_
        have e : (a28, s27) = o := Option.some.inj h
        subst e
        exact qe_iret dX8_substitute_37 rfl
    · refine qe_aload_n dX8_substitute_18 0 rfl rfl trivial ?_
      refine qe_iconst (v := (-1 : Int32)) dX8_substitute_19 rfl ?_
      refine qm_b_elim h (fun a30 s29 hc h => ?_)
      refine qe_callV1 (st := []) kk_X8_substitute_X8_refuse (c_X8_refuse hc) (qs_at tC_0) rfl rfl rfl (Nat.le_of_ble_eq_true rfl) dX8_substitute_20 ?_
      have e : (a30, s29) = o := Option.some.inj h
      subst e
      exact qe_iret dX8_substitute_23 rfl

set_option maxRecDepth 20000 in
theorem c_X8_finals_L69 {l : Launch} {G : qe_G} {k138 : Int64 → qe_S → Option (Int64 × qe_S)} {v1 : Int32} {v2 : Int32} {v3 : Int32} (hk138 : ∀ (b14 : Int64) (s : qe_S) (o : Int64 × qe_S), k138 b14 s = some o → qe_J l G MX8_finals 138 [(0, .ref 0), (3, .int v3), (4, .long b14)] [] (qs_w s (qs_TC G)) (some (.long o.1)) (qs_w o.2 (qs_TC G))) : ∀ (n : Nat) (v4 : Int64) (v6 : Int32) (s0 : qe_S) (o : Int64 × qe_S), g_X8_finals_L69 k138 v1 v2 v3 n v4 v6 s0 = some o → qe_J l G MX8_finals 69 [(0, .ref 0), (1, .int v1), (2, .int v2), (3, .int v3), (4, .long v4), (6, .int v6)] [] (qs_w s0 (qs_TC G)) (some (.long o.1)) (qs_w o.2 (qs_TC G)) := by
  intro n
  induction n with
  | zero =>
    intro v4 v6 s0 o h
    rw [g_X8_finals_L69] at h
    cases h
  | succ n ih =>
    intro v4 v6 s0 o h
    rw [g_X8_finals_L69] at h
    refine qe_iload dX8_finals_69 5 rfl ?_
    refine qe_aload_n dX8_finals_71 0 rfl rfl trivial ?_
    refine qs_getR (j := 6) tC_0 rfl fl_RX8_39 dX8_finals_72 ?_
    refine qs_getI (j := 0) tC_28 rfl fl_RX8_180 dX8_finals_75 ?_
    refine qe_icmp_ge (tgt := 138) dX8_finals_78 rfl h (fun _ h => ?_) (fun _ h => ?_)
    · refine qe_sub [0, 3, 4] rfl ?_
      exact hk138 _ _ _ h
    · refine qm_j_elim h (fun j132 ej132 h => ?_)
      have hj132 : ∀ (b15 : Int64) (s16 : qe_S) (o : Int64 × qe_S), j132 b15 s16 = some o → qe_J l G MX8_finals 132 [(0, .ref 0), (1, .int v1), (2, .int v2), (3, .int v3), (4, .long b15), (6, .int v6)] [] (qs_w s16 (qs_TC G)) (some (.long o.1)) (qs_w o.2 (qs_TC G)) := by
        intro b15 s16 o h
        subst ej132
        refine qe_iincl (lv' := fun a17 => [(6, .int a17), (0, .ref 0), (1, .int v1), (2, .int v2), (3, .int v3), (4, .long b15)]) dX8_finals_132 5 rfl rfl (fun _ => rfl) (Nat.le_of_ble_eq_true rfl) h (fun a17 h => ?_)
        refine qe_goto (tgt := 69) dX8_finals_135 rfl ?_
        refine qe_sub [1, 2, 3, 4, 5, 0] rfl ?_
        exact ih _ _ _ _ h
      refine qe_aload_n dX8_finals_81 0 rfl rfl trivial ?_
      refine qs_getR (j := 10) tC_0 rfl fl_RX8_59 dX8_finals_82 ?_
      refine qe_aload_n dX8_finals_85 0 rfl rfl trivial ?_
      refine qs_getR (j := 0) tC_0 rfl fl_RX8_12 dX8_finals_86 ?_
      refine qe_aload_n dX8_finals_89 0 rfl rfl trivial ?_
      refine qs_getR (j := 6) tC_0 rfl fl_RX8_39 dX8_finals_90 ?_
      refine qs_getR (j := 3) tC_28 rfl fl_RX8_191 dX8_finals_93 ?_
      refine qe_iload dX8_finals_96 5 rfl ?_
      refine qs_ild tC_31 dX8_finals_98 h (fun a18 h => ?_)
      refine qe_iload_n dX8_finals_99 2 rfl rfl ?_
      refine qm_o_elim h (fun s19 hc h => ?_)
      refine qe_callV0 (st := []) kk_X8_finals_X2_settle (c_X2_settle hc) (qs_at tC_35) rfl rfl rfl (Nat.le_of_ble_eq_true rfl) dX8_finals_100 ?_
      refine qe_aload_n dX8_finals_103 0 rfl rfl trivial ?_
      refine qs_getR (j := 10) tC_0 rfl fl_RX8_59 dX8_finals_104 ?_
      refine qs_getI (j := 0) tC_35 rfl fl_RX8_250 dX8_finals_107 ?_
      refine qe_iload_n dX8_finals_110 1 rfl rfl ?_
      refine qm_b_elim h (fun a21 s20 hc h => ?_)
      refine qe_callS1 (st := []) kk_X8_finals_X8_isIn (c_X8_isIn hc) rfl rfl (Nat.le_of_ble_eq_true rfl) dX8_finals_111 ?_
      refine qe_if_eq (tgt := 132) dX8_finals_114 rfl h (fun _ h => ?_) (fun _ h => ?_)
      · exact hj132 _ _ _ h
      · refine qe_lload dX8_finals_117 4 rfl ?_
        refine qe_aload_n dX8_finals_119 0 rfl rfl trivial ?_
        refine qs_getR (j := 6) tC_0 rfl fl_RX8_39 dX8_finals_120 ?_
        refine qs_getR (j := 2) tC_28 rfl fl_RX8_188 dX8_finals_123 ?_
        refine qe_iload dX8_finals_126 5 rfl ?_
        refine qs_lld tC_30 dX8_finals_128 h (fun b22 h => ?_)
        refine qe_ladd dX8_finals_129 ?_
        refine qe_let_l h (fun b23 h => ?_)
        refine qe_lstore (lv' := [(4, .long b23), (0, .ref 0), (1, .int v1), (2, .int v2), (3, .int v3), (6, .int v6)]) dX8_finals_130 rfl (Nat.le_of_ble_eq_true rfl) ?_
        refine qe_sub [1, 2, 3, 4, 0, 5] rfl ?_
        exact hj132 _ _ _ h

set_option maxRecDepth 20000 in
theorem c_X8_finals {l : Launch} {G : qe_G} {v1 : Int32} {v2 : Int32} {v3 : Int32} {s0 : qe_S} {o : Int64 × qe_S} (h : g_X8_finals v1 v2 v3 s0 = some o) : qe_C l G MX8_finals [.ref 0, .int v1, .int v2, .int v3] (qs_w s0 (qs_TC G)) (some (.long o.1)) (qs_w o.2 (qs_TC G)) := by
  refine qe_C.of (by decide +kernel) (Nat.le_of_ble_eq_true rfl) ?_
  show qe_J l G MX8_finals 0 [(0, .ref 0), (1, .int v1), (2, .int v2), (3, .int v3)] [] (qs_w s0 (qs_TC G)) (some (.long o.1)) (qs_w o.2 (qs_TC G))
  unfold g_X8_finals at h
  refine qe_aload_n dX8_finals_0 0 rfl rfl trivial ?_
  refine qs_getR (j := 0) tC_0 rfl fl_RX8_12 dX8_finals_1 ?_
  refine qe_iload_n dX8_finals_4 1 rfl rfl ?_
  refine qm_b_elim h (fun a2 s1 hc h => ?_)
  refine qe_callV1 (st := []) kk_X8_finals_X3_has (c_X3_has hc) (qs_at tC_1) rfl rfl rfl (Nat.le_of_ble_eq_true rfl) dX8_finals_5 ?_
  refine qe_if_eq (tgt := 18) dX8_finals_8 rfl h (fun _ h => ?_) (fun _ h => ?_)
  · refine qe_aload_n dX8_finals_18 0 rfl rfl trivial ?_
    refine qe_iconst (v := (-1 : Int32)) dX8_finals_19 rfl ?_
    refine qm_b_elim h (fun b4 s3 hc h => ?_)
    refine qe_callV1 (st := []) kk_X8_finals_X8_refuseLong (c_X8_refuseLong hc) (qs_at tC_0) rfl rfl rfl (Nat.le_of_ble_eq_true rfl) dX8_finals_20 ?_
    have e : (b4, s3) = o := Option.some.inj h
    subst e
    exact qe_lret dX8_finals_23 rfl
  · refine qe_iload_n dX8_finals_11 2 rfl rfl ?_
    refine qm_b_elim h (fun a6 s5 hc h => ?_)
    refine qe_callS1 (st := []) kk_X8_finals_X8_isManner (c_X8_isManner hc) rfl rfl (Nat.le_of_ble_eq_true rfl) dX8_finals_12 ?_
    refine qe_if_ne (tgt := 24) dX8_finals_15 rfl h (fun _ h => ?_) (fun _ h => ?_)
    · refine qe_iload_n dX8_finals_24 3 rfl rfl ?_
      refine qm_b_elim h (fun a8 s7 hc h => ?_)
      refine qe_callS1 (st := []) kk_X8_finals_X8_isPart (c_X8_isPart hc) rfl rfl (Nat.le_of_ble_eq_true rfl) dX8_finals_25 ?_
      refine qe_if_ne (tgt := 38) dX8_finals_28 rfl h (fun _ h => ?_) (fun _ h => ?_)
      · refine qe_aload_n dX8_finals_38 0 rfl rfl trivial ?_
        refine qm_b_elim h (fun a10 s9 hc h => ?_)
        refine qe_callV1 (st := []) kk_X8_finals_X8_layWheel (c_X8_layWheel hc) (qs_at tC_0) rfl rfl rfl (Nat.le_of_ble_eq_true rfl) dX8_finals_39 ?_
        refine qe_if_ne (tgt := 52) dX8_finals_42 rfl h (fun _ h => ?_) (fun _ h => ?_)
        · refine qe_aload_n dX8_finals_52 0 rfl rfl trivial ?_
          refine qs_getR (j := 6) tC_0 rfl fl_RX8_39 dX8_finals_53 ?_
          refine qe_aload_n dX8_finals_56 0 rfl rfl trivial ?_
          refine qs_getR (j := 4) tC_0 rfl fl_RX8_29 dX8_finals_57 ?_
          refine qm_o_elim h (fun s11 hc h => ?_)
          refine qe_callV0 (st := []) kk_X8_finals_X5_trace (c_X5_trace hc) (qs_at tC_28) rfl rfl rfl (Nat.le_of_ble_eq_true rfl) dX8_finals_60 ?_
          refine qe_lconst (v := 0) dX8_finals_63 rfl ?_
          refine qe_let_l h (fun b12 h => ?_)
          refine qe_lstore (lv' := [(4, .long b12), (0, .ref 0), (1, .int v1), (2, .int v2), (3, .int v3)]) dX8_finals_64 rfl (Nat.le_of_ble_eq_true rfl) ?_
          refine qe_iconst (v := (0 : Int32)) dX8_finals_66 rfl ?_
          refine qe_let_i h (fun a13 h => ?_)
          refine qe_istore (lv' := [(6, .int a13), (4, .long b12), (0, .ref 0), (1, .int v1), (2, .int v2), (3, .int v3)]) dX8_finals_67 rfl (Nat.le_of_ble_eq_true rfl) ?_
          refine qe_sub [2, 3, 4, 5, 1, 0] rfl ?_
          refine c_X8_finals_L69
            (fun b24 s25 o h => ?_) _ _ _ _ _ h
          refine qe_aload_n dX8_finals_138 0 rfl rfl trivial ?_
          refine qe_lload dX8_finals_139 2 rfl ?_
          refine qe_aload_n dX8_finals_141 0 rfl rfl trivial ?_
          refine qs_getR (j := 4) tC_0 rfl fl_RX8_29 dX8_finals_142 ?_
          refine qs_getL (j := 0) tC_22 rfl fl_RX8_198 dX8_finals_145 ?_
          refine qe_iload_n dX8_finals_148 1 rfl rfl ?_
          refine qm_b_elim h (fun b27 s26 hc h => ?_)
          refine qe_callV1 (st := []) kk_X8_finals_X8_lowest (c_X8_lowest hc) (qs_at tC_0) rfl rfl rfl (Nat.le_of_ble_eq_true rfl) dX8_finals_149 ?_
          have e : (b27, s26) = o := Option.some.inj h
          subst e
          exact qe_lret dX8_finals_152 rfl
        · refine qe_aload_n dX8_finals_45 0 rfl rfl trivial ?_
          refine qe_bipush (v := (-7 : Int32)) dX8_finals_46 rfl ?_
          refine qm_b_elim h (fun b29 s28 hc h => ?_)
          refine qe_callV1 (st := []) kk_X8_finals_X8_refuseLong (c_X8_refuseLong hc) (qs_at tC_0) rfl rfl rfl (Nat.le_of_ble_eq_true rfl) dX8_finals_48 ?_
          have e : (b29, s28) = o := Option.some.inj h
          subst e
          exact qe_lret dX8_finals_51 rfl
      · refine qe_aload_n dX8_finals_31 0 rfl rfl trivial ?_
        refine qe_bipush (v := (-2 : Int32)) dX8_finals_32 rfl ?_
        refine qm_b_elim h (fun b31 s30 hc h => ?_)
        refine qe_callV1 (st := []) kk_X8_finals_X8_refuseLong (c_X8_refuseLong hc) (qs_at tC_0) rfl rfl rfl (Nat.le_of_ble_eq_true rfl) dX8_finals_34 ?_
        have e : (b31, s30) = o := Option.some.inj h
        subst e
        exact qe_lret dX8_finals_37 rfl
    · refine qe_aload_n dX8_finals_18 0 rfl rfl trivial ?_
      refine qe_iconst (v := (-1 : Int32)) dX8_finals_19 rfl ?_
      refine qm_b_elim h (fun b33 s32 hc h => ?_)
      refine qe_callV1 (st := []) kk_X8_finals_X8_refuseLong (c_X8_refuseLong hc) (qs_at tC_0) rfl rfl rfl (Nat.le_of_ble_eq_true rfl) dX8_finals_20 ?_
      have e : (b33, s32) = o := Option.some.inj h
      subst e
      exact qe_lret dX8_finals_23 rfl

set_option maxRecDepth 20000 in
theorem c_X8_drawn_L70 {l : Launch} {G : qe_G} {v1 : Int32} {v2 : Int32} : ∀ (n : Nat) (v5 : Int32) (v6 : Int64) (v8 : Int32) (s0 : qe_S) (o : Int32 × qe_S), g_X8_drawn_L70 v1 v2 n v5 v6 v8 s0 = some o → qe_J l G MX8_drawn 70 [(0, .ref 0), (1, .int v1), (2, .int v2), (5, .int v5), (6, .long v6), (8, .int v8)] [] (qs_w s0 (qs_TC G)) (some (.int o.1)) (qs_w o.2 (qs_TC G)) := by
  intro n
  induction n with
  | zero =>
    intro v5 v6 v8 s0 o h
    rw [g_X8_drawn_L70] at h
    cases h
  | succ n ih =>
    intro v5 v6 v8 s0 o h
    rw [g_X8_drawn_L70] at h
    refine qe_iload dX8_drawn_70 5 rfl ?_
    refine qe_iload_n dX8_drawn_72 2 rfl rfl ?_
    refine qe_icmp_ge (tgt := 121) dX8_drawn_73 rfl h (fun _ h => ?_) (fun _ h => ?_)
    · refine qe_iload dX8_drawn_121 3 rfl ?_
      have e : (v5, s0) = o := Option.some.inj h
      subst e
      exact qe_iret dX8_drawn_123 rfl
    · refine qm_j_elim h (fun j115 ej115 h => ?_)
      have hj115 : ∀ (a11 : Int32) (b12 : Int64) (s13 : qe_S) (o : Int32 × qe_S), j115 a11 b12 s13 = some o → qe_J l G MX8_drawn 115 [(0, .ref 0), (1, .int v1), (2, .int v2), (5, .int a11), (6, .long b12), (8, .int v8)] [] (qs_w s13 (qs_TC G)) (some (.int o.1)) (qs_w o.2 (qs_TC G)) := by
        intro a11 b12 s13 o h
        subst ej115
        refine qe_iincl (lv' := fun a14 => [(8, .int a14), (0, .ref 0), (1, .int v1), (2, .int v2), (5, .int a11), (6, .long b12)]) dX8_drawn_115 5 rfl rfl (fun _ => rfl) (Nat.le_of_ble_eq_true rfl) h (fun a14 h => ?_)
        refine qe_goto (tgt := 70) dX8_drawn_118 rfl ?_
        refine qe_sub [1, 2, 3, 4, 5, 0] rfl ?_
        exact ih _ _ _ _ _ h
      refine qe_lload dX8_drawn_76 4 rfl ?_
      refine qe_ldc2 kc_RX8_260 dX8_drawn_78 ?_
      refine qe_lmul dX8_drawn_81 ?_
      refine qe_ldc2 kc_RX8_262 dX8_drawn_82 ?_
      refine qe_ladd dX8_drawn_85 ?_
      refine qe_let_l h (fun b15 h => ?_)
      refine qe_lstore (lv' := [(6, .long b15), (0, .ref 0), (1, .int v1), (2, .int v2), (5, .int v5), (8, .int v8)]) dX8_drawn_86 rfl (Nat.le_of_ble_eq_true rfl) ?_
      refine qe_aload_n dX8_drawn_88 1 rfl rfl trivial ?_
      refine qs_getR (j := 4) tC_0 rfl fl_RX8_29 dX8_drawn_89 ?_
      refine qe_iload_n dX8_drawn_92 2 rfl rfl ?_
      refine qe_lload dX8_drawn_93 0 rfl ?_
      refine qe_bipush (v := (nI 33)) dX8_drawn_95 rfl ?_
      refine qe_lushr dX8_drawn_97 ?_
      refine qe_aload_n dX8_drawn_98 1 rfl rfl trivial ?_
      refine qs_getR (j := 4) tC_0 rfl fl_RX8_29 dX8_drawn_99 ?_
      refine qs_getL (j := 0) tC_22 rfl fl_RX8_198 dX8_drawn_102 ?_
      refine qe_lrem dX8_drawn_105 h (fun h => ?_)
      refine qm_b_elim h (fun a17 s16 hc h => ?_)
      refine qe_callV1 (st := []) kk_X8_drawn_X7_chooses (c_X7_chooses_22 hc) (qs_at tC_22) rfl rfl rfl (Nat.le_of_ble_eq_true rfl) dX8_drawn_106 ?_
      refine qe_if_eq (tgt := 115) dX8_drawn_109 rfl h (fun _ h => ?_) (fun _ h => ?_)
      · refine qe_sub [1, 2, 3, 4, 0, 5] rfl ?_
        exact hj115 _ _ _ _ h
      · refine qe_iincl (lv' := fun a18 => [(5, .int a18), (6, .long b15), (0, .ref 0), (1, .int v1), (2, .int v2), (8, .int v8)]) dX8_drawn_112 4 rfl rfl (fun _ => rfl) (Nat.le_of_ble_eq_true rfl) h (fun a18 h => ?_)
        refine qe_sub [2, 3, 4, 0, 1, 5] rfl ?_
        exact hj115 _ _ _ _ h

set_option maxRecDepth 20000 in
theorem c_X8_drawn {l : Launch} {G : qe_G} {v1 : Int32} {v2 : Int32} {v3 : Int64} {s0 : qe_S} {o : Int32 × qe_S} (h : g_X8_drawn v1 v2 v3 s0 = some o) : qe_C l G MX8_drawn [.ref 0, .int v1, .int v2, .long v3] (qs_w s0 (qs_TC G)) (some (.int o.1)) (qs_w o.2 (qs_TC G)) := by
  refine qe_C.of (by decide +kernel) (Nat.le_of_ble_eq_true rfl) ?_
  show qe_J l G MX8_drawn 0 [(0, .ref 0), (1, .int v1), (2, .int v2), (3, .long v3)] [] (qs_w s0 (qs_TC G)) (some (.int o.1)) (qs_w o.2 (qs_TC G))
  unfold g_X8_drawn at h
  refine qe_aload_n dX8_drawn_0 0 rfl rfl trivial ?_
  refine qs_getR (j := 0) tC_0 rfl fl_RX8_12 dX8_drawn_1 ?_
  refine qe_iload_n dX8_drawn_4 1 rfl rfl ?_
  refine qm_b_elim h (fun a2 s1 hc h => ?_)
  refine qe_callV1 (st := []) kk_X8_drawn_X3_has (c_X3_has hc) (qs_at tC_1) rfl rfl rfl (Nat.le_of_ble_eq_true rfl) dX8_drawn_5 ?_
  refine qe_if_ne (tgt := 17) dX8_drawn_8 rfl h (fun _ h => ?_) (fun _ h => ?_)
  · refine qe_iload_n dX8_drawn_17 2 rfl rfl ?_
    refine qe_iconst (v := (1 : Int32)) dX8_drawn_18 rfl ?_
    refine qe_icmp_lt (tgt := 28) dX8_drawn_19 rfl h (fun _ h => ?_) (fun _ h => ?_)
    · refine qe_aload_n dX8_drawn_28 0 rfl rfl trivial ?_
      refine qe_bipush (v := (-2 : Int32)) dX8_drawn_29 rfl ?_
      refine qm_b_elim h (fun a4 s3 hc h => ?_)
      refine qe_callV1 (st := []) kk_X8_drawn_X8_refuse (c_X8_refuse hc) (qs_at tC_0) rfl rfl rfl (Nat.le_of_ble_eq_true rfl) dX8_drawn_31 ?_
      have e : (a4, s3) = o := Option.some.inj h
      subst e
      exact qe_iret dX8_drawn_34 rfl
    · refine qe_iload_n dX8_drawn_22 2 rfl rfl ?_
      refine qe_bipush (v := (nI 60)) dX8_drawn_23 rfl ?_
      refine qe_icmp_le (tgt := 35) dX8_drawn_25 rfl h (fun _ h => ?_) (fun _ h => ?_)
      · refine qe_aload_n dX8_drawn_35 0 rfl rfl trivial ?_
        refine qm_b_elim h (fun a6 s5 hc h => ?_)
        refine qe_callV1 (st := []) kk_X8_drawn_X8_layWheel (c_X8_layWheel hc) (qs_at tC_0) rfl rfl rfl (Nat.le_of_ble_eq_true rfl) dX8_drawn_36 ?_
        refine qe_if_eq (tgt := 54) dX8_drawn_39 rfl h (fun _ h => ?_) (fun _ h => ?_)
        · refine qe_aload_n dX8_drawn_54 0 rfl rfl trivial ?_
          refine qe_bipush (v := (-7 : Int32)) dX8_drawn_55 rfl ?_
          refine qm_b_elim h (fun a8 s7 hc h => ?_)
          refine qe_callV1 (st := []) kk_X8_drawn_X8_refuse (c_X8_refuse hc) (qs_at tC_0) rfl rfl rfl (Nat.le_of_ble_eq_true rfl) dX8_drawn_57 ?_
          have e : (a8, s7) = o := Option.some.inj h
          subst e
          exact qe_iret dX8_drawn_60 rfl
        · refine qe_aload_n dX8_drawn_42 0 rfl rfl trivial ?_
          refine qs_getR (j := 4) tC_0 rfl fl_RX8_29 dX8_drawn_43 ?_
          refine qs_getL (j := 0) tC_22 rfl fl_RX8_198 dX8_drawn_46 ?_
          refine qe_lconst (v := 1) dX8_drawn_49 rfl ?_
          refine qe_lcmp_ge (tgt := 61) dX8_drawn_50 dX8_drawn_51 rfl h (fun _ h => ?_) (fun _ h => ?_)
          · refine qe_iconst (v := (0 : Int32)) dX8_drawn_61 rfl ?_
            refine qe_let_i h (fun a9 h => ?_)
            refine qe_istore (lv' := [(5, .int a9), (0, .ref 0), (1, .int v1), (2, .int v2), (3, .long v3)]) dX8_drawn_62 rfl (Nat.le_of_ble_eq_true rfl) ?_
            refine qe_lload_n dX8_drawn_64 4 rfl rfl ?_
            refine qe_lstore (lv' := [(6, .long v3), (5, .int a9), (0, .ref 0), (1, .int v1), (2, .int v2), (3, .long v3)]) dX8_drawn_65 rfl (Nat.le_of_ble_eq_true rfl) ?_
            refine qe_iconst (v := (0 : Int32)) dX8_drawn_67 rfl ?_
            refine qe_let_i h (fun a10 h => ?_)
            refine qe_istore (lv' := [(8, .int a10), (6, .long v3), (5, .int a9), (0, .ref 0), (1, .int v1), (2, .int v2), (3, .long v3)]) dX8_drawn_68 rfl (Nat.le_of_ble_eq_true rfl) ?_
            refine qe_sub [3, 4, 5, 2, 1, 0] rfl ?_
            refine c_X8_drawn_L70 _ _ _ _ _ _ h
          · refine qe_aload_n dX8_drawn_54 0 rfl rfl trivial ?_
            refine qe_bipush (v := (-7 : Int32)) dX8_drawn_55 rfl ?_
            refine qm_b_elim h (fun a20 s19 hc h => ?_)
            refine qe_callV1 (st := []) kk_X8_drawn_X8_refuse (c_X8_refuse hc) (qs_at tC_0) rfl rfl rfl (Nat.le_of_ble_eq_true rfl) dX8_drawn_57 ?_
            have e : (a20, s19) = o := Option.some.inj h
            subst e
            exact qe_iret dX8_drawn_60 rfl
      · refine qe_aload_n dX8_drawn_28 0 rfl rfl trivial ?_
        refine qe_bipush (v := (-2 : Int32)) dX8_drawn_29 rfl ?_
        refine qm_b_elim h (fun a22 s21 hc h => ?_)
        refine qe_callV1 (st := []) kk_X8_drawn_X8_refuse (c_X8_refuse hc) (qs_at tC_0) rfl rfl rfl (Nat.le_of_ble_eq_true rfl) dX8_drawn_31 ?_
        have e : (a22, s21) = o := Option.some.inj h
        subst e
        exact qe_iret dX8_drawn_34 rfl
  · refine qe_aload_n dX8_drawn_11 0 rfl rfl trivial ?_
    refine qe_iconst (v := (-1 : Int32)) dX8_drawn_12 rfl ?_
    refine qm_b_elim h (fun a24 s23 hc h => ?_)
    refine qe_callV1 (st := []) kk_X8_drawn_X8_refuse (c_X8_refuse hc) (qs_at tC_0) rfl rfl rfl (Nat.le_of_ble_eq_true rfl) dX8_drawn_13 ?_
    have e : (a24, s23) = o := Option.some.inj h
    subst e
    exact qe_iret dX8_drawn_16 rfl

set_option maxRecDepth 20000 in
theorem c_X6_take {l : Launch} {G : qe_G} {v1 : Int32} {s0 : qe_S} {o : Int32 × qe_S} (h : g_X6_take v1 s0 = some o) : qe_C l G MX6_take [.ref 37, .int v1] (qs_w s0 (qs_TC G)) (some (.int o.1)) (qs_w o.2 (qs_TC G)) := by
  refine qe_C.of (by decide +kernel) (Nat.le_of_ble_eq_true rfl) ?_
  show qe_J l G MX6_take 0 [(0, .ref 37), (1, .int v1)] [] (qs_w s0 (qs_TC G)) (some (.int o.1)) (qs_w o.2 (qs_TC G))
  unfold g_X6_take at h
  refine qe_iload_n dX6_take_0 1 rfl rfl ?_
  refine qe_iconst (v := (1 : Int32)) dX6_take_1 rfl ?_
  refine qe_icmp_lt (tgt := 11) dX6_take_2 rfl h (fun _ h => ?_) (fun _ h => ?_)
  · refine qe_bipush (v := (-2 : Int32)) dX6_take_11 rfl ?_
    have e : ((-2 : Int32), s0) = o := Option.some.inj h
    subst e
    exact qe_iret dX6_take_13 rfl
  · refine qe_iload_n dX6_take_5 1 rfl rfl ?_
    refine qe_bipush (v := (nI 127)) dX6_take_6 rfl ?_
    refine qe_icmp_le (tgt := 14) dX6_take_8 rfl h (fun _ h => ?_) (fun _ h => ?_)
    · refine qe_aload_n dX6_take_14 0 rfl rfl trivial ?_
      refine qs_getI (j := 0) tC_37 rfl fl_RX6_9 dX6_take_15 ?_
      refine qe_bipush (v := (nI 120)) dX6_take_18 rfl ?_
      refine qe_icmp_lt (tgt := 26) dX6_take_20 rfl h (fun _ h => ?_) (fun _ h => ?_)
      · refine qe_aload_n dX6_take_26 0 rfl rfl trivial ?_
        refine qs_getR (j := 5) tC_37 rfl fl_RX6_28 dX6_take_27 ?_
        refine qe_aload_n dX6_take_30 0 rfl rfl trivial ?_
        refine qs_getI (j := 0) tC_37 rfl fl_RX6_9 dX6_take_31 ?_
        refine qe_iload_n dX6_take_34 1 rfl rfl ?_
        refine qs_ist tC_39 dX6_take_35 h (fun s1 h => ?_)
        refine qe_aload_n dX6_take_36 0 rfl rfl trivial ?_
        refine qe_dup dX6_take_37 rfl ?_
        refine qs_getI (j := 0) tC_37 rfl fl_RX6_9 dX6_take_38 ?_
        refine qe_iconst (v := (1 : Int32)) dX6_take_41 rfl ?_
        refine qe_iadd dX6_take_42 ?_
        refine qs_putI (j := 0) tC_37 rfl fp_RX6_9 dX6_take_43 h (fun s2 h => ?_)
        refine qe_aload_n dX6_take_46 0 rfl rfl trivial ?_
        refine qs_getI (j := 0) tC_37 rfl fl_RX6_9 dX6_take_47 ?_
        have e : ((s2.1 37 0), s2) = o := Option.some.inj h
        subst e
        exact qe_iret dX6_take_50 rfl
      · refine qe_bipush (v := (-4 : Int32)) dX6_take_23 rfl ?_
        have e : ((-4 : Int32), s0) = o := Option.some.inj h
        subst e
        exact qe_iret dX6_take_25 rfl
    · refine qe_bipush (v := (-2 : Int32)) dX6_take_11 rfl ?_
      have e : ((-2 : Int32), s0) = o := Option.some.inj h
      subst e
      exact qe_iret dX6_take_13 rfl

set_option maxRecDepth 20000 in
theorem c_X8_feed {l : Launch} {G : qe_G} {v1 : Int32} {s0 : qe_S} {o : Int32 × qe_S} (h : g_X8_feed v1 s0 = some o) : qe_C l G MX8_feed [.ref 0, .int v1] (qs_w s0 (qs_TC G)) (some (.int o.1)) (qs_w o.2 (qs_TC G)) := by
  refine qe_C.of (by decide +kernel) (Nat.le_of_ble_eq_true rfl) ?_
  show qe_J l G MX8_feed 0 [(0, .ref 0), (1, .int v1)] [] (qs_w s0 (qs_TC G)) (some (.int o.1)) (qs_w o.2 (qs_TC G))
  unfold g_X8_feed at h
  refine qe_aload_n dX8_feed_0 0 rfl rfl trivial ?_
  refine qe_aload_n dX8_feed_1 0 rfl rfl trivial ?_
  refine qs_getR (j := 11) tC_0 rfl fl_RX8_66 dX8_feed_2 ?_
  refine qe_iload_n dX8_feed_5 1 rfl rfl ?_
  refine qm_b_elim h (fun a2 s1 hc h => ?_)
  refine qe_callV1 (st := [.ref 0]) kk_X8_feed_X6_take (c_X6_take hc) (qs_at tC_37) rfl rfl rfl (Nat.le_of_ble_eq_true rfl) dX8_feed_6 ?_
  refine qm_b_elim h (fun a4 s3 hc h => ?_)
  refine qe_callV1 (st := []) kk_X8_feed_X8_answered (c_X8_answered hc) (qs_at tC_0) rfl rfl rfl (Nat.le_of_ble_eq_true rfl) dX8_feed_9 ?_
  have e : (a4, s3) = o := Option.some.inj h
  subst e
  exact qe_iret dX8_feed_12 rfl

set_option maxRecDepth 20000 in
theorem c_X6_byteAt {l : Launch} {G : qe_G} {v1 : Int32} {s0 : qe_S} {o : Int32 × qe_S} (h : g_X6_byteAt v1 s0 = some o) : qe_C l G MX6_byteAt [.ref 37, .int v1] (qs_w s0 (qs_TC G)) (some (.int o.1)) (qs_w o.2 (qs_TC G)) := by
  refine qe_C.of (by decide +kernel) (Nat.le_of_ble_eq_true rfl) ?_
  show qe_J l G MX6_byteAt 0 [(0, .ref 37), (1, .int v1)] [] (qs_w s0 (qs_TC G)) (some (.int o.1)) (qs_w o.2 (qs_TC G))
  unfold g_X6_byteAt at h
  refine qm_j_elim h (fun j21 ej21 h => ?_)
  have hj21 : ∀  (s1 : qe_S) (o : Int32 × qe_S), j21  s1 = some o → qe_J l G MX6_byteAt 21 [] [] (qs_w s1 (qs_TC G)) (some (.int o.1)) (qs_w o.2 (qs_TC G)) := by
    intro  s1 o h
    subst ej21
    refine qe_iconst (v := (0 : Int32)) dX6_byteAt_21 rfl ?_
    have e : ((0 : Int32), s1) = o := Option.some.inj h
    subst e
    exact qe_iret dX6_byteAt_22 rfl
  refine qe_iload_n dX6_byteAt_0 1 rfl rfl ?_
  refine qe_if_lt (tgt := 21) dX6_byteAt_1 rfl h (fun _ h => ?_) (fun _ h => ?_)
  · refine qe_sub [] rfl ?_
    exact hj21  _ _ h
  · refine qe_iload_n dX6_byteAt_4 1 rfl rfl ?_
    refine qe_aload_n dX6_byteAt_5 0 rfl rfl trivial ?_
    refine qs_getI (j := 0) tC_37 rfl fl_RX6_9 dX6_byteAt_6 ?_
    refine qe_icmp_ge (tgt := 21) dX6_byteAt_9 rfl h (fun _ h => ?_) (fun _ h => ?_)
    · refine qe_sub [] rfl ?_
      exact hj21  _ _ h
    · refine qe_aload_n dX6_byteAt_12 0 rfl rfl trivial ?_
      refine qs_getR (j := 5) tC_37 rfl fl_RX6_28 dX6_byteAt_13 ?_
      refine qe_iload_n dX6_byteAt_16 1 rfl rfl ?_
      refine qs_ild tC_39 dX6_byteAt_17 h (fun a2 h => ?_)
      refine qe_goto (tgt := 22) dX6_byteAt_18 rfl ?_
      have e : (a2, s0) = o := Option.some.inj h
      subst e
      exact qe_iret dX6_byteAt_22 rfl

set_option maxRecDepth 20000 in
theorem c_X6_shapeOf {l : Launch} {G : qe_G} {v0 : Int32} {s0 : qe_S} {o : Value × qe_S} (h : g_X6_shapeOf v0 s0 = some o) : qe_C l G MX6_shapeOf [.int v0] (qs_w s0 (qs_TC G)) (some o.1) (qs_w o.2 (qs_TC G)) := by
  refine qe_C.of (by decide +kernel) (Nat.le_of_ble_eq_true rfl) ?_
  show qe_J l G MX6_shapeOf 0 [(0, .int v0)] [] (qs_w s0 (qs_TC G)) (some o.1) (qs_w o.2 (qs_TC G))
  unfold g_X6_shapeOf at h
  refine qe_iload_n dX6_shapeOf_0 0 rfl rfl ?_
  refine qe_tsw_in (v := (nI 110)) (tgt := 63) dX6_shapeOf_1 (by decide) (by decide) rfl rfl h (fun h => ?_) (fun c0 h => ?_)
  · refine qt_ldc (n := 1) (tx := "N,N/N") rfl (by decide) rfl (by decide +kernel) dX6_shapeOf_63 ?_
    have e : ((.float (1 : UInt32) : Value), s0) = o := Option.some.inj h
    subst e
    exact qe_aret dX6_shapeOf_65 rfl trivial
  refine qe_tsw_in (v := (nI 111)) (tgt := 66) dX6_shapeOf_1 (by decide) (by decide) rfl rfl h (fun h => ?_) (fun c1 h => ?_)
  · refine qt_ldc (n := 2) (tx := "D") rfl (by decide) rfl (by decide +kernel) dX6_shapeOf_66 ?_
    have e : ((.float (2 : UInt32) : Value), s0) = o := Option.some.inj h
    subst e
    exact qe_aret dX6_shapeOf_68 rfl trivial
  refine qe_tsw_in (v := (nI 114)) (tgt := 69) dX6_shapeOf_1 (by decide) (by decide) rfl rfl h (fun h => ?_) (fun c2 h => ?_)
  · refine qt_ldc (n := 3) (tx := "N") rfl (by decide) rfl (by decide +kernel) dX6_shapeOf_69 ?_
    have e : ((.float (3 : UInt32) : Value), s0) = o := Option.some.inj h
    subst e
    exact qe_aret dX6_shapeOf_71 rfl trivial
  refine qe_tsw_in (v := (nI 115)) (tgt := 63) dX6_shapeOf_1 (by decide) (by decide) rfl rfl h (fun h => ?_) (fun c3 h => ?_)
  · refine qt_ldc (n := 1) (tx := "N,N/N") rfl (by decide) rfl (by decide +kernel) dX6_shapeOf_63 ?_
    have e : ((.float (1 : UInt32) : Value), s0) = o := Option.some.inj h
    subst e
    exact qe_aret dX6_shapeOf_65 rfl trivial
  refine qe_tsw_in (v := (nI 117)) (tgt := 60) dX6_shapeOf_1 (by decide) (by decide) rfl rfl h (fun h => ?_) (fun c4 h => ?_)
  · refine qt_ldc (n := 0) (tx := "N/N,D,M") rfl (by decide) rfl (by decide +kernel) dX6_shapeOf_60 ?_
    have e : ((.float (0 : UInt32) : Value), s0) = o := Option.some.inj h
    subst e
    exact qe_aret dX6_shapeOf_62 rfl trivial
  refine qe_tsw_in (v := (nI 120)) (tgt := 72) dX6_shapeOf_1 (by decide) (by decide) rfl rfl h (fun h => ?_) (fun c5 h => ?_)
  · refine qt_ldc (n := 4) (tx := "N,N") rfl (by decide) rfl (by decide +kernel) dX6_shapeOf_72 ?_
    have e : ((.float (4 : UInt32) : Value), s0) = o := Option.some.inj h
    subst e
    exact qe_aret dX6_shapeOf_74 rfl trivial
  refine qe_tsw_rest (tgt := 75) 11 dX6_shapeOf_1 (by decide) (by decide) (by decide) (fun i hi => match i, hi with | 0, _ => Or.inr c0 | 1, _ => Or.inr c1 | 2, _ => Or.inl rfl | 3, _ => Or.inl rfl | 4, _ => Or.inr c2 | 5, _ => Or.inr c3 | 6, _ => Or.inl rfl | 7, _ => Or.inr c4 | 8, _ => Or.inl rfl | 9, _ => Or.inl rfl | 10, _ => Or.inr c5 | i + 11, hi => absurd hi (by omega)) rfl ?_
  refine qt_ldc (n := 5) (tx := "") rfl (by decide) rfl (by decide +kernel) dX6_shapeOf_75 ?_
  have e : ((.float (5 : UInt32) : Value), s0) = o := Option.some.inj h
  subst e
  exact qe_aret dX6_shapeOf_77 rfl trivial

set_option maxRecDepth 20000 in
theorem c_X6_isDigit {l : Launch} {G : qe_G} {v0 : Int32} {s0 : qe_S} {o : Int32 × qe_S} (h : g_X6_isDigit v0 s0 = some o) : qe_C l G MX6_isDigit [.int v0] (qs_w s0 (qs_TC G)) (some (.int o.1)) (qs_w o.2 (qs_TC G)) := by
  refine qe_C.of (by decide +kernel) (Nat.le_of_ble_eq_true rfl) ?_
  show qe_J l G MX6_isDigit 0 [(0, .int v0)] [] (qs_w s0 (qs_TC G)) (some (.int o.1)) (qs_w o.2 (qs_TC G))
  unfold g_X6_isDigit at h
  refine qm_j_elim h (fun j16 ej16 h => ?_)
  have hj16 : ∀  (s1 : qe_S) (o : Int32 × qe_S), j16  s1 = some o → qe_J l G MX6_isDigit 16 [] [] (qs_w s1 (qs_TC G)) (some (.int o.1)) (qs_w o.2 (qs_TC G)) := by
    intro  s1 o h
    subst ej16
    refine qe_iconst (v := (0 : Int32)) dX6_isDigit_16 rfl ?_
    have e : ((0 : Int32), s1) = o := Option.some.inj h
    subst e
    exact qe_nret dX6_isDigit_17 rfl rfl
  refine qe_iload_n dX6_isDigit_0 0 rfl rfl ?_
  refine qe_bipush (v := (nI 48)) dX6_isDigit_1 rfl ?_
  refine qe_icmp_lt (tgt := 16) dX6_isDigit_3 rfl h (fun _ h => ?_) (fun _ h => ?_)
  · refine qe_sub [] rfl ?_
    exact hj16  _ _ h
  · refine qe_iload_n dX6_isDigit_6 0 rfl rfl ?_
    refine qe_bipush (v := (nI 57)) dX6_isDigit_7 rfl ?_
    refine qe_icmp_gt (tgt := 16) dX6_isDigit_9 rfl h (fun _ h => ?_) (fun _ h => ?_)
    · refine qe_sub [] rfl ?_
      exact hj16  _ _ h
    · refine qe_iconst (v := (1 : Int32)) dX6_isDigit_12 rfl ?_
      refine qe_goto (tgt := 17) dX6_isDigit_13 rfl ?_
      have e : ((1 : Int32), s0) = o := Option.some.inj h
      subst e
      exact qe_nret dX6_isDigit_17 rfl rfl

set_option maxRecDepth 20000 in
theorem c_X6_readNumber_L5 {l : Launch} {G : qe_G} {k59 : Int32 → Int32 → qe_S → Option (Int32 × qe_S)} {v1 : Int32} {v2 : Int32} (hk59 : ∀ (a3 : Int32) (a4 : Int32) (s : qe_S) (o : Int32 × qe_S), k59 a3 a4 s = some o → qe_J l G MX6_readNumber 59 [(0, .ref 37), (2, .int v2), (3, .int a3), (4, .int a4)] [] (qs_w s (qs_TC G)) (some (.int o.1)) (qs_w o.2 (qs_TC G))) : ∀ (n : Nat) (v3 : Int32) (v4 : Int32) (s0 : qe_S) (o : Int32 × qe_S), g_X6_readNumber_L5 k59 v1 v2 n v3 v4 s0 = some o → qe_J l G MX6_readNumber 5 [(0, .ref 37), (1, .int v1), (2, .int v2), (3, .int v3), (4, .int v4)] [] (qs_w s0 (qs_TC G)) (some (.int o.1)) (qs_w o.2 (qs_TC G)) := by
  intro n
  induction n with
  | zero =>
    intro v3 v4 s0 o h
    rw [g_X6_readNumber_L5] at h
    cases h
  | succ n ih =>
    intro v3 v4 s0 o h
    rw [g_X6_readNumber_L5] at h
    refine qe_iload_n dX6_readNumber_5 3 rfl rfl ?_
    refine qe_iload_n dX6_readNumber_6 1 rfl rfl ?_
    refine qe_icmp_ge (tgt := 59) dX6_readNumber_7 rfl h (fun _ h => ?_) (fun _ h => ?_)
    · refine qe_sub [0, 2, 3, 4] rfl ?_
      exact hk59 _ _ _ _ h
    · refine qe_aload_n dX6_readNumber_10 0 rfl rfl trivial ?_
      refine qe_aload_n dX6_readNumber_11 0 rfl rfl trivial ?_
      refine qs_getI (j := 2) tC_37 rfl fl_RX6_18 dX6_readNumber_12 ?_
      refine qm_b_elim h (fun a6 s5 hc h => ?_)
      refine qe_callV1 (st := []) kk_X6_readNumber_X6_byteAt (c_X6_byteAt hc) (qs_at tC_37) rfl rfl rfl (Nat.le_of_ble_eq_true rfl) dX6_readNumber_15 ?_
      refine qm_b_elim h (fun a8 s7 hc h => ?_)
      refine qe_callS1 (st := []) kk_X6_readNumber_X6_isDigit (c_X6_isDigit hc) rfl rfl (Nat.le_of_ble_eq_true rfl) dX6_readNumber_18 ?_
      refine qe_if_eq (tgt := 59) dX6_readNumber_21 rfl h (fun _ h => ?_) (fun _ h => ?_)
      · refine qe_sub [0, 2, 3, 4] rfl ?_
        exact hk59 _ _ _ _ h
      · refine qe_bipush (v := (nI 10)) dX6_readNumber_24 rfl ?_
        refine qe_iload dX6_readNumber_26 4 rfl ?_
        refine qe_imul dX6_readNumber_28 ?_
        refine qe_aload_n dX6_readNumber_29 0 rfl rfl trivial ?_
        refine qe_aload_n dX6_readNumber_30 0 rfl rfl trivial ?_
        refine qs_getI (j := 2) tC_37 rfl fl_RX6_18 dX6_readNumber_31 ?_
        refine qm_b_elim h (fun a10 s9 hc h => ?_)
        refine qe_callV1 (st := [.int ((nI 10) * v4)]) kk_X6_readNumber_X6_byteAt (c_X6_byteAt hc) (qs_at tC_37) rfl rfl rfl (Nat.le_of_ble_eq_true rfl) dX6_readNumber_34 ?_
        refine qe_iadd dX6_readNumber_37 ?_
        refine qe_bipush (v := (nI 48)) dX6_readNumber_38 rfl ?_
        refine qe_isub dX6_readNumber_40 ?_
        refine qe_let_i h (fun a11 h => ?_)
        refine qe_istore (lv' := [(4, .int a11), (0, .ref 37), (1, .int v1), (2, .int v2), (3, .int v3)]) dX6_readNumber_41 rfl (Nat.le_of_ble_eq_true rfl) ?_
        refine qe_aload_n dX6_readNumber_43 1 rfl rfl trivial ?_
        refine qe_dup dX6_readNumber_44 rfl ?_
        refine qs_getI (j := 2) tC_37 rfl fl_RX6_18 dX6_readNumber_45 ?_
        refine qe_iconst (v := (1 : Int32)) dX6_readNumber_48 rfl ?_
        refine qe_iadd dX6_readNumber_49 ?_
        refine qs_putI (j := 2) tC_37 rfl fp_RX6_18 dX6_readNumber_50 h (fun s12 h => ?_)
        refine qe_iincl (lv' := fun a13 => [(3, .int a13), (4, .int a11), (0, .ref 37), (1, .int v1), (2, .int v2)]) dX6_readNumber_53 4 rfl rfl (fun _ => rfl) (Nat.le_of_ble_eq_true rfl) h (fun a13 h => ?_)
        refine qe_goto (tgt := 5) dX6_readNumber_56 rfl ?_
        refine qe_sub [2, 3, 4, 0, 1] rfl ?_
        exact ih _ _ _ _ h

set_option maxRecDepth 20000 in
theorem c_X6_readNumber {l : Launch} {G : qe_G} {v1 : Int32} {v2 : Int32} {s0 : qe_S} {o : Int32 × qe_S} (h : g_X6_readNumber v1 v2 s0 = some o) : qe_C l G MX6_readNumber [.ref 37, .int v1, .int v2] (qs_w s0 (qs_TC G)) (some (.int o.1)) (qs_w o.2 (qs_TC G)) := by
  refine qe_C.of (by decide +kernel) (Nat.le_of_ble_eq_true rfl) ?_
  show qe_J l G MX6_readNumber 0 [(0, .ref 37), (1, .int v1), (2, .int v2)] [] (qs_w s0 (qs_TC G)) (some (.int o.1)) (qs_w o.2 (qs_TC G))
  unfold g_X6_readNumber at h
  refine qe_iconst (v := (0 : Int32)) dX6_readNumber_0 rfl ?_
  refine qe_let_i h (fun a1 h => ?_)
  refine qe_istore_n (lv' := [(3, .int a1), (0, .ref 37), (1, .int v1), (2, .int v2)]) dX6_readNumber_1 rfl rfl (Nat.le_of_ble_eq_true rfl) ?_
  refine qe_iconst (v := (0 : Int32)) dX6_readNumber_2 rfl ?_
  refine qe_let_i h (fun a2 h => ?_)
  refine qe_istore (lv' := [(4, .int a2), (3, .int a1), (0, .ref 37), (1, .int v1), (2, .int v2)]) dX6_readNumber_3 rfl (Nat.le_of_ble_eq_true rfl) ?_
  refine qe_sub [2, 3, 4, 1, 0] rfl ?_
  refine c_X6_readNumber_L5
    (fun a14 a15 s16 o h => ?_) _ _ _ _ _ h
  refine qm_j_elim h (fun j94 ej94 h => ?_)
  have hj94 : ∀  (s17 : qe_S) (o : Int32 × qe_S), j94  s17 = some o → qe_J l G MX6_readNumber 94 [(3, .int a14)] [] (qs_w s17 (qs_TC G)) (some (.int o.1)) (qs_w o.2 (qs_TC G)) := by
    intro  s17 o h
    subst ej94
    refine qe_iload_n dX6_readNumber_94 0 rfl rfl ?_
    refine qe_if_le (tgt := 102) dX6_readNumber_95 rfl h (fun _ h => ?_) (fun _ h => ?_)
    · refine qe_iconst (v := (0 : Int32)) dX6_readNumber_102 rfl ?_
      have e : ((0 : Int32), s17) = o := Option.some.inj h
      subst e
      exact qe_nret dX6_readNumber_103 rfl rfl
    · refine qe_iconst (v := (1 : Int32)) dX6_readNumber_98 rfl ?_
      refine qe_goto (tgt := 103) dX6_readNumber_99 rfl ?_
      have e : ((1 : Int32), s17) = o := Option.some.inj h
      subst e
      exact qe_nret dX6_readNumber_103 rfl rfl
  refine qe_iload_n dX6_readNumber_59 2 rfl rfl ?_
  refine qe_if_le (tgt := 94) dX6_readNumber_60 rfl h (fun _ h => ?_) (fun _ h => ?_)
  · refine qe_sub [2] rfl ?_
    exact hj94  _ _ h
  · refine qe_aload_n dX6_readNumber_63 0 rfl rfl trivial ?_
    refine qs_getI (j := 4) tC_37 rfl fl_RX6_25 dX6_readNumber_64 ?_
    refine qe_iconst (v := (nI 4)) dX6_readNumber_67 rfl ?_
    refine qe_icmp_ge (tgt := 94) dX6_readNumber_68 rfl h (fun _ h => ?_) (fun _ h => ?_)
    · refine qe_sub [2] rfl ?_
      exact hj94  _ _ h
    · refine qe_aload_n dX6_readNumber_71 0 rfl rfl trivial ?_
      refine qs_getR (j := 3) tC_37 rfl fl_RX6_21 dX6_readNumber_72 ?_
      refine qe_aload_n dX6_readNumber_75 0 rfl rfl trivial ?_
      refine qs_getI (j := 4) tC_37 rfl fl_RX6_25 dX6_readNumber_76 ?_
      refine qe_iload_n dX6_readNumber_79 1 rfl rfl ?_
      refine qe_iload dX6_readNumber_80 3 rfl ?_
      refine qe_imul dX6_readNumber_82 ?_
      refine qs_ist tC_38 dX6_readNumber_83 h (fun s18 h => ?_)
      refine qe_aload_n dX6_readNumber_84 0 rfl rfl trivial ?_
      refine qe_dup dX6_readNumber_85 rfl ?_
      refine qs_getI (j := 4) tC_37 rfl fl_RX6_25 dX6_readNumber_86 ?_
      refine qe_iconst (v := (1 : Int32)) dX6_readNumber_89 rfl ?_
      refine qe_iadd dX6_readNumber_90 ?_
      refine qs_putI (j := 4) tC_37 rfl fp_RX6_25 dX6_readNumber_91 h (fun s19 h => ?_)
      refine qe_sub [2] rfl ?_
      exact hj94  _ _ h

