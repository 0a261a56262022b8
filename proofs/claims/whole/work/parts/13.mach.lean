/-! THE MACHINE: the methods meet their models (printed by wip/whole/gen/decomp.py) -/
set_option maxRecDepth 20000 in
theorem c_X6_readsByte {l : Launch} {G : qe_G} {v1 : Int32} {s0 : qe_S} {o : Int32 × qe_S} (h : g_X6_readsByte v1 s0 = some o) : qe_C l G MX6_readsByte [.ref 37, .int v1] (qs_w s0 (qs_TC G)) (some (.int o.1)) (qs_w o.2 (qs_TC G)) := by
  refine qe_C.of (by decide +kernel) (Nat.le_of_ble_eq_true rfl) ?_
  show qe_J l G MX6_readsByte 0 [(0, .ref 37), (1, .int v1)] [] (qs_w s0 (qs_TC G)) (some (.int o.1)) (qs_w o.2 (qs_TC G))
  unfold g_X6_readsByte at h
  refine qm_j_elim h (fun j17 ej17 h => ?_)
  have hj17 : ∀ (q1 : Int32) (s2 : qe_S) (o : Int32 × qe_S), j17 q1 s2 = some o → qe_J l G MX6_readsByte 17 [(0, .ref 37)] [.int q1] (qs_w s2 (qs_TC G)) (some (.int o.1)) (qs_w o.2 (qs_TC G)) := by
    intro q1 s2 o h
    subst ej17
    refine qm_j_elim h (fun j32 ej32 h => ?_)
    have hj32 : ∀ (a3 : Int32) (q4 : Int32) (q5 : Int32) (s6 : qe_S) (o : Int32 × qe_S), j32 a3 q4 q5 s6 = some o → qe_J l G MX6_readsByte 32 [(2, .int a3)] [.int q4, .int q5, .ref 37] (qs_w s6 (qs_TC G)) (some (.int o.1)) (qs_w o.2 (qs_TC G)) := by
      intro a3 q4 q5 s6 o h
      subst ej32
      refine qe_iadd dX6_readsByte_32 ?_
      refine qs_putI (j := 2) tC_37 rfl fp_RX6_18 dX6_readsByte_33 h (fun s7 h => ?_)
      refine qe_iload_n dX6_readsByte_36 0 rfl rfl ?_
      exact qe_zret dX6_readsByte_37 rfl h (fun h => by have e : (a3, s7) = o := Option.some.inj h; subst e; exact ⟨rfl, rfl⟩)
    refine qe_istore_n (lv' := [(2, .int q1), (0, .ref 37)]) dX6_readsByte_17 rfl rfl (Nat.le_of_ble_eq_true rfl) ?_
    refine qe_aload_n dX6_readsByte_18 1 rfl rfl trivial ?_
    refine qe_dup dX6_readsByte_19 rfl ?_
    refine qs_getI (j := 2) tC_37 rfl fl_RX6_18 dX6_readsByte_20 ?_
    refine qe_iload_n dX6_readsByte_23 0 rfl rfl ?_
    refine qe_if_eq (tgt := 31) dX6_readsByte_24 rfl h (fun _ h => ?_) (fun _ h => ?_)
    · refine qe_iconst (v := (0 : Int32)) dX6_readsByte_31 rfl ?_
      refine qe_sub [0] rfl ?_
      exact hj32 _ _ _ _ _ h
    · refine qe_iconst (v := (1 : Int32)) dX6_readsByte_27 rfl ?_
      refine qe_goto (tgt := 32) dX6_readsByte_28 rfl ?_
      refine qe_sub [0] rfl ?_
      exact hj32 _ _ _ _ _ h
  refine qe_aload_n dX6_readsByte_0 0 rfl rfl trivial ?_
  refine qe_aload_n dX6_readsByte_1 0 rfl rfl trivial ?_
  refine qs_getI (j := 2) tC_37 rfl fl_RX6_18 dX6_readsByte_2 ?_
  refine qm_b_elim h (fun a9 s8 hc h => ?_)
  refine qe_callV1 (st := []) kk_X6_readsByte_X6_byteAt (c_X6_byteAt hc) (qs_at tC_37) rfl rfl rfl (Nat.le_of_ble_eq_true rfl) dX6_readsByte_5 ?_
  refine qe_iload_n dX6_readsByte_8 1 rfl rfl ?_
  refine qe_icmp_ne (tgt := 16) dX6_readsByte_9 rfl h (fun _ h => ?_) (fun _ h => ?_)
  · refine qe_iconst (v := (0 : Int32)) dX6_readsByte_16 rfl ?_
    refine qe_sub [0] rfl ?_
    exact hj17 _ _ _ h
  · refine qe_iconst (v := (1 : Int32)) dX6_readsByte_12 rfl ?_
    refine qe_goto (tgt := 17) dX6_readsByte_13 rfl ?_
    refine qe_sub [0] rfl ?_
    exact hj17 _ _ _ h

set_option maxRecDepth 20000 in
theorem c_X6_readSign {l : Launch} {G : qe_G} {v1 : Int32} {s0 : qe_S} {o : Int32 × qe_S} (h : g_X6_readSign v1 s0 = some o) : qe_C l G MX6_readSign [.ref 37, .int v1] (qs_w s0 (qs_TC G)) (some (.int o.1)) (qs_w o.2 (qs_TC G)) := by
  refine qe_C.of (by decide +kernel) (Nat.le_of_ble_eq_true rfl) ?_
  show qe_J l G MX6_readSign 0 [(0, .ref 37), (1, .int v1)] [] (qs_w s0 (qs_TC G)) (some (.int o.1)) (qs_w o.2 (qs_TC G))
  unfold g_X6_readSign at h
  refine qe_iload_n dX6_readSign_0 1 rfl rfl ?_
  refine qe_lsw_in (v := (nI 68)) (tgt := 36) dX6_readSign_1 (by decide) rfl rfl h (fun h => ?_) (fun c0 h => ?_)
  · refine qe_aload_n dX6_readSign_36 0 rfl rfl trivial ?_
    refine qe_iconst (v := (1 : Int32)) dX6_readSign_37 rfl ?_
    refine qe_iconst (v := (1 : Int32)) dX6_readSign_38 rfl ?_
    refine qm_b_elim h (fun a2 s1 hc h => ?_)
    refine qe_callV1 (st := []) kk_X6_readSign_X6_readNumber (c_X6_readNumber hc) (qs_at tC_37) rfl rfl rfl (Nat.le_of_ble_eq_true rfl) dX6_readSign_39 ?_
    exact qe_zret dX6_readSign_42 rfl h (fun h => by have e : (a2, s1) = o := Option.some.inj h; subst e; exact ⟨rfl, rfl⟩)
  refine qe_lsw_in (v := (nI 77)) (tgt := 50) dX6_readSign_1 (by decide) rfl rfl h (fun h => ?_) (fun c1 h => ?_)
  · refine qe_aload_n dX6_readSign_50 0 rfl rfl trivial ?_
    refine qe_iconst (v := (nI 2)) dX6_readSign_51 rfl ?_
    refine qe_aload_n dX6_readSign_52 0 rfl rfl trivial ?_
    refine qe_bipush (v := (nI 45)) dX6_readSign_53 rfl ?_
    refine qm_b_elim h (fun a4 s3 hc h => ?_)
    refine qe_callV1 (st := [.int (nI 2), .ref 37]) kk_X6_readSign_X6_readsByte (c_X6_readsByte hc) (qs_at tC_37) rfl rfl rfl (Nat.le_of_ble_eq_true rfl) dX6_readSign_55 ?_
    refine qe_if_eq (tgt := 65) dX6_readSign_58 rfl h (fun _ h => ?_) (fun _ h => ?_)
    · refine qe_iconst (v := (1 : Int32)) dX6_readSign_65 rfl ?_
      refine qm_b_elim h (fun a6 s5 hc h => ?_)
      refine qe_callV1 (st := []) kk_X6_readSign_X6_readNumber (c_X6_readNumber hc) (qs_at tC_37) rfl rfl rfl (Nat.le_of_ble_eq_true rfl) dX6_readSign_66 ?_
      exact qe_zret dX6_readSign_69 rfl h (fun h => by have e : (a6, s5) = o := Option.some.inj h; subst e; exact ⟨rfl, rfl⟩)
    · refine qe_iconst (v := (-1 : Int32)) dX6_readSign_61 rfl ?_
      refine qe_goto (tgt := 66) dX6_readSign_62 rfl ?_
      refine qm_b_elim h (fun a8 s7 hc h => ?_)
      refine qe_callV1 (st := []) kk_X6_readSign_X6_readNumber (c_X6_readNumber hc) (qs_at tC_37) rfl rfl rfl (Nat.le_of_ble_eq_true rfl) dX6_readSign_66 ?_
      exact qe_zret dX6_readSign_69 rfl h (fun h => by have e : (a8, s7) = o := Option.some.inj h; subst e; exact ⟨rfl, rfl⟩)
  refine qe_lsw_in (v := (nI 78)) (tgt := 43) dX6_readSign_1 (by decide) rfl rfl h (fun h => ?_) (fun c2 h => ?_)
  · refine qe_aload_n dX6_readSign_43 0 rfl rfl trivial ?_
    refine qe_iconst (v := (nI 2)) dX6_readSign_44 rfl ?_
    refine qe_iconst (v := (1 : Int32)) dX6_readSign_45 rfl ?_
    refine qm_b_elim h (fun a10 s9 hc h => ?_)
    refine qe_callV1 (st := []) kk_X6_readSign_X6_readNumber (c_X6_readNumber hc) (qs_at tC_37) rfl rfl rfl (Nat.le_of_ble_eq_true rfl) dX6_readSign_46 ?_
    exact qe_zret dX6_readSign_49 rfl h (fun h => by have e : (a10, s9) = o := Option.some.inj h; subst e; exact ⟨rfl, rfl⟩)
  refine qe_lsw_out (tgt := 70) dX6_readSign_1 (by decide) ((lv_osw c0 rfl).trans ((lv_osw c1 rfl).trans ((lv_osw c2 rfl).trans rfl))) rfl ?_
  refine qe_aload_n dX6_readSign_70 0 rfl rfl trivial ?_
  refine qe_iload_n dX6_readSign_71 1 rfl rfl ?_
  refine qm_b_elim h (fun a12 s11 hc h => ?_)
  refine qe_callV1 (st := []) kk_X6_readSign_X6_readsByte (c_X6_readsByte hc) (qs_at tC_37) rfl rfl rfl (Nat.le_of_ble_eq_true rfl) dX6_readSign_72 ?_
  exact qe_zret dX6_readSign_75 rfl h (fun h => by have e : (a12, s11) = o := Option.some.inj h; subst e; exact ⟨rfl, rfl⟩)

set_option maxRecDepth 20000 in
theorem c_X6_readClause_L48 {l : Launch} {G : qe_G} {x2 : UInt32} (hi : x2.toNat < 6) : ∀ (n : Nat) (v3 : Int32) (s0 : qe_S) (o : Int32 × qe_S), g_X6_readClause_L48 x2 n v3 s0 = some o → qe_J l G MX6_readClause 48 [(0, .ref 37), (2, .float x2), (3, .int v3)] [] (qs_w s0 (qs_TC G)) (some (.int o.1)) (qs_w o.2 (qs_TC G)) := by
  intro n
  induction n with
  | zero =>
    intro v3 s0 o h
    rw [g_X6_readClause_L48] at h
    cases h
  | succ n ih =>
    intro v3 s0 o h
    rw [g_X6_readClause_L48] at h
    refine qe_iload_n dX6_readClause_48 2 rfl rfl ?_
    refine qe_aload_n dX6_readClause_49 1 rfl rfl trivial ?_
    refine qm_b_elim h (fun a14 s13 hc h => ?_)
    refine qt_callV1 (st := [.int v3]) rfl hi rfl kk_X6_readClause_J0_length_8abf5 (c_J0_length_8abf5 hi hc) rfl rfl (Nat.le_of_ble_eq_true rfl) dX6_readClause_50 ?_
    refine qe_icmp_ge (tgt := 76) dX6_readClause_53 rfl h (fun _ h => ?_) (fun _ h => ?_)
    · refine qe_iconst (v := (1 : Int32)) dX6_readClause_76 rfl ?_
      have e : ((1 : Int32), s13) = o := Option.some.inj h
      subst e
      exact qe_nret dX6_readClause_77 rfl rfl
    · refine qe_aload_n dX6_readClause_56 0 rfl rfl trivial ?_
      refine qe_aload_n dX6_readClause_57 1 rfl rfl trivial ?_
      refine qe_iload_n dX6_readClause_58 2 rfl rfl ?_
      refine qm_b_elim h (fun a16 s15 hc h => ?_)
      refine qt_callV1 (st := [.ref 37]) rfl hi rfl kk_X6_readClause_J0_charAt_5068e (c_J0_charAt_5068e hi hc) rfl rfl (Nat.le_of_ble_eq_true rfl) dX6_readClause_59 ?_
      refine qm_b_elim h (fun a18 s17 hc h => ?_)
      refine qe_callV1 (st := []) kk_X6_readClause_X6_readSign (c_X6_readSign hc) (qs_at tC_37) rfl rfl rfl (Nat.le_of_ble_eq_true rfl) dX6_readClause_62 ?_
      refine qe_if_ne (tgt := 70) dX6_readClause_65 rfl h (fun _ h => ?_) (fun _ h => ?_)
      · refine qe_iincl (lv' := fun a19 => [(3, .int a19), (0, .ref 37), (2, .float x2)]) dX6_readClause_70 2 rfl rfl (fun _ => rfl) (Nat.le_of_ble_eq_true rfl) h (fun a19 h => ?_)
        refine qe_goto (tgt := 48) dX6_readClause_73 rfl ?_
        refine qe_sub [1, 2, 0] rfl ?_
        exact ih _ _ _ h
      · refine qe_iconst (v := (0 : Int32)) dX6_readClause_68 rfl ?_
        have e : ((0 : Int32), s17) = o := Option.some.inj h
        subst e
        exact qe_nret dX6_readClause_69 rfl rfl

set_option maxRecDepth 20000 in
theorem c_X6_readClause {l : Launch} {G : qe_G} {v1 : Int32} {s0 : qe_S} {o : Int32 × qe_S} (h : g_X6_readClause v1 s0 = some o) : qe_C l G MX6_readClause [.ref 37, .int v1] (qs_w s0 (qs_TC G)) (some (.int o.1)) (qs_w o.2 (qs_TC G)) := by
  refine qe_C.of (by decide +kernel) (Nat.le_of_ble_eq_true rfl) ?_
  show qe_J l G MX6_readClause 0 [(0, .ref 37), (1, .int v1)] [] (qs_w s0 (qs_TC G)) (some (.int o.1)) (qs_w o.2 (qs_TC G))
  unfold g_X6_readClause at h
  refine qe_aload_n dX6_readClause_0 0 rfl rfl trivial ?_
  refine qe_aload_n dX6_readClause_1 0 rfl rfl trivial ?_
  refine qe_iload_n dX6_readClause_2 1 rfl rfl ?_
  refine qm_b_elim h (fun a2 s1 hc h => ?_)
  refine qe_callV1 (st := [.ref 37]) kk_X6_readClause_X6_byteAt (c_X6_byteAt hc) (qs_at tC_37) rfl rfl rfl (Nat.le_of_ble_eq_true rfl) dX6_readClause_3 ?_
  refine qs_putI (j := 1) tC_37 rfl fp_RX6_15 dX6_readClause_6 h (fun s3 h => ?_)
  refine qe_aload_n dX6_readClause_9 0 rfl rfl trivial ?_
  refine qe_iload_n dX6_readClause_10 1 rfl rfl ?_
  refine qs_putI (j := 2) tC_37 rfl fp_RX6_18 dX6_readClause_11 h (fun s4 h => ?_)
  refine qe_aload_n dX6_readClause_14 0 rfl rfl trivial ?_
  refine qe_iconst (v := (0 : Int32)) dX6_readClause_15 rfl ?_
  refine qs_putI (j := 4) tC_37 rfl fp_RX6_25 dX6_readClause_16 h (fun s5 h => ?_)
  refine qe_aload_n dX6_readClause_19 0 rfl rfl trivial ?_
  refine qs_getI (j := 1) tC_37 rfl fl_RX6_15 dX6_readClause_20 ?_
  refine qm_b_elim h (fun q7 s6 hc h => ?_)
  refine qe_callS1 (st := []) kk_X6_readClause_X6_shapeOf (c_X6_shapeOf hc) rfl rfl (Nat.le_of_ble_eq_true rfl) dX6_readClause_23 ?_
  refine qm_s_elim h (fun x8 e hi hh => ?_)
  clear h
  subst e
  have h := hh
  refine qe_astore_n (lv' := [(2, .float x8), (0, .ref 37), (1, .int v1)]) dX6_readClause_26 rfl rfl (Nat.le_of_ble_eq_true rfl) trivial ?_
  refine qe_aload_n dX6_readClause_27 0 rfl rfl trivial ?_
  refine qm_b_elim h (fun a10 s9 hc h => ?_)
  refine qt_callV1 (st := []) rfl hi rfl kk_X6_readClause_J0_isEmpty_aae02 (c_J0_isEmpty_aae02 hi hc) rfl rfl (Nat.le_of_ble_eq_true rfl) dX6_readClause_28 ?_
  refine qe_if_eq (tgt := 36) dX6_readClause_31 rfl h (fun _ h => ?_) (fun _ h => ?_)
  · refine qe_aload_n dX6_readClause_36 1 rfl rfl trivial ?_
    refine qe_dup dX6_readClause_37 rfl ?_
    refine qs_getI (j := 2) tC_37 rfl fl_RX6_18 dX6_readClause_38 ?_
    refine qe_iconst (v := (1 : Int32)) dX6_readClause_41 rfl ?_
    refine qe_iadd dX6_readClause_42 ?_
    refine qs_putI (j := 2) tC_37 rfl fp_RX6_18 dX6_readClause_43 h (fun s11 h => ?_)
    refine qe_iconst (v := (0 : Int32)) dX6_readClause_46 rfl ?_
    refine qe_let_i h (fun a12 h => ?_)
    refine qe_istore_n (lv' := [(3, .int a12), (2, .float x8), (0, .ref 37), (1, .int v1)]) dX6_readClause_47 rfl rfl (Nat.le_of_ble_eq_true rfl) ?_
    refine qe_sub [2, 1, 0] rfl ?_
    refine c_X6_readClause_L48 hi _ _ _ _ h
  · refine qe_iconst (v := (0 : Int32)) dX6_readClause_34 rfl ?_
    have e : ((0 : Int32), s9) = o := Option.some.inj h
    subst e
    exact qe_nret dX6_readClause_35 rfl rfl

set_option maxRecDepth 20000 in
theorem c_X6_fault_L4 {l : Launch} {G : qe_G} : ∀ (n : Nat) (v1 : Int32) (v2 : Int32) (s0 : qe_S) (o : Int32 × qe_S), g_X6_fault_L4 n v1 v2 s0 = some o → qe_J l G MX6_fault 4 [(0, .ref 37), (1, .int v1), (2, .int v2)] [] (qs_w s0 (qs_TC G)) (some (.int o.1)) (qs_w o.2 (qs_TC G)) := by
  intro n
  induction n with
  | zero =>
    intro v1 v2 s0 o h
    rw [g_X6_fault_L4] at h
    cases h
  | succ n ih =>
    intro v1 v2 s0 o h
    rw [g_X6_fault_L4] at h
    refine qe_iload_n dX6_fault_4 2 rfl rfl ?_
    refine qe_bipush (v := (nI 120)) dX6_fault_5 rfl ?_
    refine qe_icmp_gt (tgt := 67) dX6_fault_7 rfl h (fun _ h => ?_) (fun _ h => ?_)
    · refine qe_aload_n dX6_fault_67 0 rfl rfl trivial ?_
      refine qs_getI (j := 2) tC_37 rfl fl_RX6_18 dX6_fault_68 ?_
      have e : ((s0.1 37 2), s0) = o := Option.some.inj h
      subst e
      exact qe_iret dX6_fault_71 rfl
    · refine qe_aload_n dX6_fault_10 0 rfl rfl trivial ?_
      refine qe_iload_n dX6_fault_11 1 rfl rfl ?_
      refine qm_b_elim h (fun a4 s3 hc h => ?_)
      refine qe_callV1 (st := []) kk_X6_fault_X6_readClause (c_X6_readClause hc) (qs_at tC_37) rfl rfl rfl (Nat.le_of_ble_eq_true rfl) dX6_fault_12 ?_
      refine qe_if_ne (tgt := 23) dX6_fault_15 rfl h (fun _ h => ?_) (fun _ h => ?_)
      · refine qe_aload_n dX6_fault_23 0 rfl rfl trivial ?_
        refine qs_getI (j := 2) tC_37 rfl fl_RX6_18 dX6_fault_24 ?_
        refine qe_aload_n dX6_fault_27 0 rfl rfl trivial ?_
        refine qs_getI (j := 0) tC_37 rfl fl_RX6_9 dX6_fault_28 ?_
        refine qe_icmp_lt (tgt := 36) dX6_fault_31 rfl h (fun _ h => ?_) (fun _ h => ?_)
        · refine qe_aload_n dX6_fault_36 0 rfl rfl trivial ?_
          refine qe_aload_n dX6_fault_37 0 rfl rfl trivial ?_
          refine qs_getI (j := 2) tC_37 rfl fl_RX6_18 dX6_fault_38 ?_
          refine qm_b_elim h (fun a6 s5 hc h => ?_)
          refine qe_callV1 (st := []) kk_X6_fault_X6_byteAt (c_X6_byteAt hc) (qs_at tC_37) rfl rfl rfl (Nat.le_of_ble_eq_true rfl) dX6_fault_41 ?_
          refine qe_bipush (v := (nI 59)) dX6_fault_44 rfl ?_
          refine qe_icmp_eq (tgt := 54) dX6_fault_46 rfl h (fun _ h => ?_) (fun _ h => ?_)
          · refine qe_aload_n dX6_fault_54 0 rfl rfl trivial ?_
            refine qs_getI (j := 2) tC_37 rfl fl_RX6_18 dX6_fault_55 ?_
            refine qe_iconst (v := (1 : Int32)) dX6_fault_58 rfl ?_
            refine qe_iadd dX6_fault_59 ?_
            refine qe_let_i h (fun a7 h => ?_)
            refine qe_istore_n (lv' := [(1, .int a7), (0, .ref 37), (2, .int v2)]) dX6_fault_60 rfl rfl (Nat.le_of_ble_eq_true rfl) ?_
            refine qe_iincl (lv' := fun a8 => [(2, .int a8), (1, .int a7), (0, .ref 37)]) dX6_fault_61 2 rfl rfl (fun _ => rfl) (Nat.le_of_ble_eq_true rfl) h (fun a8 h => ?_)
            refine qe_goto (tgt := 4) dX6_fault_64 rfl ?_
            refine qe_sub [2, 1, 0] rfl ?_
            exact ih _ _ _ _ h
          · refine qe_aload_n dX6_fault_49 0 rfl rfl trivial ?_
            refine qs_getI (j := 2) tC_37 rfl fl_RX6_18 dX6_fault_50 ?_
            have e : ((s5.1 37 2), s5) = o := Option.some.inj h
            subst e
            exact qe_iret dX6_fault_53 rfl
        · refine qe_iconst (v := (-1 : Int32)) dX6_fault_34 rfl ?_
          have e : ((-1 : Int32), s3) = o := Option.some.inj h
          subst e
          exact qe_iret dX6_fault_35 rfl
      · refine qe_aload_n dX6_fault_18 0 rfl rfl trivial ?_
        refine qs_getI (j := 2) tC_37 rfl fl_RX6_18 dX6_fault_19 ?_
        have e : ((s3.1 37 2), s3) = o := Option.some.inj h
        subst e
        exact qe_iret dX6_fault_22 rfl

set_option maxRecDepth 20000 in
theorem c_X6_fault {l : Launch} {G : qe_G}  {s0 : qe_S} {o : Int32 × qe_S} (h : g_X6_fault  s0 = some o) : qe_C l G MX6_fault [.ref 37] (qs_w s0 (qs_TC G)) (some (.int o.1)) (qs_w o.2 (qs_TC G)) := by
  refine qe_C.of (by decide +kernel) (Nat.le_of_ble_eq_true rfl) ?_
  show qe_J l G MX6_fault 0 [(0, .ref 37)] [] (qs_w s0 (qs_TC G)) (some (.int o.1)) (qs_w o.2 (qs_TC G))
  unfold g_X6_fault at h
  refine qe_iconst (v := (0 : Int32)) dX6_fault_0 rfl ?_
  refine qe_let_i h (fun a1 h => ?_)
  refine qe_istore_n (lv' := [(1, .int a1), (0, .ref 37)]) dX6_fault_1 rfl rfl (Nat.le_of_ble_eq_true rfl) ?_
  refine qe_iconst (v := (0 : Int32)) dX6_fault_2 rfl ?_
  refine qe_let_i h (fun a2 h => ?_)
  refine qe_istore_n (lv' := [(2, .int a2), (1, .int a1), (0, .ref 37)]) dX6_fault_3 rfl rfl (Nat.le_of_ble_eq_true rfl) ?_
  refine qe_sub [2, 1, 0] rfl ?_
  refine c_X6_fault_L4 _ _ _ _ _ h

set_option maxRecDepth 20000 in
theorem c_X3_copyOf_8_1 {l : Launch} {G : qe_G}  {s0 : qe_S} {o : qe_S} (h : g_X3_copyOf 8 1 s0 = some o) : qe_C l G MX3_copyOf [.ref 8, .ref 1] (qs_w s0 (qs_TC G)) none (qs_w o (qs_TC G)) := by
  refine qe_C.of (by decide +kernel) (Nat.le_of_ble_eq_true rfl) ?_
  show qe_J l G MX3_copyOf 0 [(0, .ref 8), (1, .ref 1)] [] (qs_w s0 (qs_TC G)) none (qs_w o (qs_TC G))
  unfold g_X3_copyOf at h
  refine qe_aload_n dX3_copyOf_0 0 rfl rfl trivial ?_
  refine qe_aload_n dX3_copyOf_1 1 rfl rfl trivial ?_
  refine qs_getI (j := 0) tC_1 rfl fl_RX3_9 dX3_copyOf_2 ?_
  refine qs_putI (j := 0) tC_8 rfl fp_RX3_9 dX3_copyOf_5 h (fun s1 h => ?_)
  refine qe_aload_n dX3_copyOf_8 0 rfl rfl trivial ?_
  refine qe_aload_n dX3_copyOf_9 1 rfl rfl trivial ?_
  refine qs_getI (j := 1) tC_1 rfl fl_RX3_15 dX3_copyOf_10 ?_
  refine qs_putI (j := 1) tC_8 rfl fp_RX3_15 dX3_copyOf_13 h (fun s2 h => ?_)
  refine qe_aload_n dX3_copyOf_16 0 rfl rfl trivial ?_
  refine qe_aload_n dX3_copyOf_17 1 rfl rfl trivial ?_
  refine qs_getI (j := 2) tC_1 rfl fl_RX3_18 dX3_copyOf_18 ?_
  refine qs_putI (j := 2) tC_8 rfl fp_RX3_18 dX3_copyOf_21 h (fun s3 h => ?_)
  refine qe_aload_n dX3_copyOf_24 1 rfl rfl trivial ?_
  refine qs_getR (j := 3) tC_1 rfl fl_RX3_21 dX3_copyOf_25 ?_
  refine qe_iconst (v := (0 : Int32)) dX3_copyOf_28 rfl ?_
  refine qe_aload_n dX3_copyOf_29 0 rfl rfl trivial ?_
  refine qs_getR (j := 3) tC_8 rfl fl_RX3_21 dX3_copyOf_30 ?_
  refine qe_iconst (v := (0 : Int32)) dX3_copyOf_33 rfl ?_
  refine qe_bipush (v := (nI 12)) dX3_copyOf_34 rfl ?_
  refine qs_copy tC_2 tC_9 (by decide) (by decide) (by decide) ka_RX3_82 (by decide) (by decide) dX3_copyOf_36 h (fun s4 h => ?_)
  refine qe_aload_n dX3_copyOf_39 1 rfl rfl trivial ?_
  refine qs_getR (j := 4) tC_1 rfl fl_RX3_25 dX3_copyOf_40 ?_
  refine qe_iconst (v := (0 : Int32)) dX3_copyOf_43 rfl ?_
  refine qe_aload_n dX3_copyOf_44 0 rfl rfl trivial ?_
  refine qs_getR (j := 4) tC_8 rfl fl_RX3_25 dX3_copyOf_45 ?_
  refine qe_iconst (v := (0 : Int32)) dX3_copyOf_48 rfl ?_
  refine qe_bipush (v := (nI 12)) dX3_copyOf_49 rfl ?_
  refine qs_copy tC_3 tC_10 (by decide) (by decide) (by decide) ka_RX3_82 (by decide) (by decide) dX3_copyOf_51 h (fun s5 h => ?_)
  refine qe_aload_n dX3_copyOf_54 1 rfl rfl trivial ?_
  refine qs_getR (j := 5) tC_1 rfl fl_RX3_28 dX3_copyOf_55 ?_
  refine qe_iconst (v := (0 : Int32)) dX3_copyOf_58 rfl ?_
  refine qe_aload_n dX3_copyOf_59 0 rfl rfl trivial ?_
  refine qs_getR (j := 5) tC_8 rfl fl_RX3_28 dX3_copyOf_60 ?_
  refine qe_iconst (v := (0 : Int32)) dX3_copyOf_63 rfl ?_
  refine qe_bipush (v := (nI 12)) dX3_copyOf_64 rfl ?_
  refine qs_copy tC_4 tC_11 (by decide) (by decide) (by decide) ka_RX3_82 (by decide) (by decide) dX3_copyOf_66 h (fun s6 h => ?_)
  refine qe_aload_n dX3_copyOf_69 1 rfl rfl trivial ?_
  refine qs_getR (j := 6) tC_1 rfl fl_RX3_31 dX3_copyOf_70 ?_
  refine qe_iconst (v := (0 : Int32)) dX3_copyOf_73 rfl ?_
  refine qe_aload_n dX3_copyOf_74 0 rfl rfl trivial ?_
  refine qs_getR (j := 6) tC_8 rfl fl_RX3_31 dX3_copyOf_75 ?_
  refine qe_iconst (v := (0 : Int32)) dX3_copyOf_78 rfl ?_
  refine qe_bipush (v := (nI 12)) dX3_copyOf_79 rfl ?_
  refine qs_copy tC_5 tC_12 (by decide) (by decide) (by decide) ka_RX3_82 (by decide) (by decide) dX3_copyOf_81 h (fun s7 h => ?_)
  refine qe_aload_n dX3_copyOf_84 1 rfl rfl trivial ?_
  refine qs_getR (j := 7) tC_1 rfl fl_RX3_34 dX3_copyOf_85 ?_
  refine qe_iconst (v := (0 : Int32)) dX3_copyOf_88 rfl ?_
  refine qe_aload_n dX3_copyOf_89 0 rfl rfl trivial ?_
  refine qs_getR (j := 7) tC_8 rfl fl_RX3_34 dX3_copyOf_90 ?_
  refine qe_iconst (v := (0 : Int32)) dX3_copyOf_93 rfl ?_
  refine qe_bipush (v := (nI 36)) dX3_copyOf_94 rfl ?_
  refine qs_copy tC_6 tC_13 (by decide) (by decide) (by decide) ka_RX3_82 (by decide) (by decide) dX3_copyOf_96 h (fun s8 h => ?_)
  refine qe_aload_n dX3_copyOf_99 1 rfl rfl trivial ?_
  refine qs_getR (j := 8) tC_1 rfl fl_RX3_37 dX3_copyOf_100 ?_
  refine qe_iconst (v := (0 : Int32)) dX3_copyOf_103 rfl ?_
  refine qe_aload_n dX3_copyOf_104 0 rfl rfl trivial ?_
  refine qs_getR (j := 8) tC_8 rfl fl_RX3_37 dX3_copyOf_105 ?_
  refine qe_iconst (v := (0 : Int32)) dX3_copyOf_108 rfl ?_
  refine qe_bipush (v := (nI 36)) dX3_copyOf_109 rfl ?_
  refine qs_copy tC_7 tC_14 (by decide) (by decide) (by decide) ka_RX3_82 (by decide) (by decide) dX3_copyOf_111 h (fun s9 h => ?_)
  have e : s9 = o := Option.some.inj h
  subst e
  exact qe_vret dX3_copyOf_114 rfl

set_option maxRecDepth 20000 in
theorem c_X3_copyOf_1_8 {l : Launch} {G : qe_G}  {s0 : qe_S} {o : qe_S} (h : g_X3_copyOf 1 8 s0 = some o) : qe_C l G MX3_copyOf [.ref 1, .ref 8] (qs_w s0 (qs_TC G)) none (qs_w o (qs_TC G)) := by
  refine qe_C.of (by decide +kernel) (Nat.le_of_ble_eq_true rfl) ?_
  show qe_J l G MX3_copyOf 0 [(0, .ref 1), (1, .ref 8)] [] (qs_w s0 (qs_TC G)) none (qs_w o (qs_TC G))
  unfold g_X3_copyOf at h
  refine qe_aload_n dX3_copyOf_0 0 rfl rfl trivial ?_
  refine qe_aload_n dX3_copyOf_1 1 rfl rfl trivial ?_
  refine qs_getI (j := 0) tC_8 rfl fl_RX3_9 dX3_copyOf_2 ?_
  refine qs_putI (j := 0) tC_1 rfl fp_RX3_9 dX3_copyOf_5 h (fun s1 h => ?_)
  refine qe_aload_n dX3_copyOf_8 0 rfl rfl trivial ?_
  refine qe_aload_n dX3_copyOf_9 1 rfl rfl trivial ?_
  refine qs_getI (j := 1) tC_8 rfl fl_RX3_15 dX3_copyOf_10 ?_
  refine qs_putI (j := 1) tC_1 rfl fp_RX3_15 dX3_copyOf_13 h (fun s2 h => ?_)
  refine qe_aload_n dX3_copyOf_16 0 rfl rfl trivial ?_
  refine qe_aload_n dX3_copyOf_17 1 rfl rfl trivial ?_
  refine qs_getI (j := 2) tC_8 rfl fl_RX3_18 dX3_copyOf_18 ?_
  refine qs_putI (j := 2) tC_1 rfl fp_RX3_18 dX3_copyOf_21 h (fun s3 h => ?_)
  refine qe_aload_n dX3_copyOf_24 1 rfl rfl trivial ?_
  refine qs_getR (j := 3) tC_8 rfl fl_RX3_21 dX3_copyOf_25 ?_
  refine qe_iconst (v := (0 : Int32)) dX3_copyOf_28 rfl ?_
  refine qe_aload_n dX3_copyOf_29 0 rfl rfl trivial ?_
  refine qs_getR (j := 3) tC_1 rfl fl_RX3_21 dX3_copyOf_30 ?_
  refine qe_iconst (v := (0 : Int32)) dX3_copyOf_33 rfl ?_
  refine qe_bipush (v := (nI 12)) dX3_copyOf_34 rfl ?_
  refine qs_copy tC_9 tC_2 (by decide) (by decide) (by decide) ka_RX3_82 (by decide) (by decide) dX3_copyOf_36 h (fun s4 h => ?_)
  refine qe_aload_n dX3_copyOf_39 1 rfl rfl trivial ?_
  refine qs_getR (j := 4) tC_8 rfl fl_RX3_25 dX3_copyOf_40 ?_
  refine qe_iconst (v := (0 : Int32)) dX3_copyOf_43 rfl ?_
  refine qe_aload_n dX3_copyOf_44 0 rfl rfl trivial ?_
  refine qs_getR (j := 4) tC_1 rfl fl_RX3_25 dX3_copyOf_45 ?_
  refine qe_iconst (v := (0 : Int32)) dX3_copyOf_48 rfl ?_
  refine qe_bipush (v := (nI 12)) dX3_copyOf_49 rfl ?_
  refine qs_copy tC_10 tC_3 (by decide) (by decide) (by decide) ka_RX3_82 (by decide) (by decide) dX3_copyOf_51 h (fun s5 h => ?_)
  refine qe_aload_n dX3_copyOf_54 1 rfl rfl trivial ?_
  refine qs_getR (j := 5) tC_8 rfl fl_RX3_28 dX3_copyOf_55 ?_
  refine qe_iconst (v := (0 : Int32)) dX3_copyOf_58 rfl ?_
  refine qe_aload_n dX3_copyOf_59 0 rfl rfl trivial ?_
  refine qs_getR (j := 5) tC_1 rfl fl_RX3_28 dX3_copyOf_60 ?_
  refine qe_iconst (v := (0 : Int32)) dX3_copyOf_63 rfl ?_
  refine qe_bipush (v := (nI 12)) dX3_copyOf_64 rfl ?_
  refine qs_copy tC_11 tC_4 (by decide) (by decide) (by decide) ka_RX3_82 (by decide) (by decide) dX3_copyOf_66 h (fun s6 h => ?_)
  refine qe_aload_n dX3_copyOf_69 1 rfl rfl trivial ?_
  refine qs_getR (j := 6) tC_8 rfl fl_RX3_31 dX3_copyOf_70 ?_
  refine qe_iconst (v := (0 : Int32)) dX3_copyOf_73 rfl ?_
  refine qe_aload_n dX3_copyOf_74 0 rfl rfl trivial ?_
  refine qs_getR (j := 6) tC_1 rfl fl_RX3_31 dX3_copyOf_75 ?_
  refine qe_iconst (v := (0 : Int32)) dX3_copyOf_78 rfl ?_
  refine qe_bipush (v := (nI 12)) dX3_copyOf_79 rfl ?_
  refine qs_copy tC_12 tC_5 (by decide) (by decide) (by decide) ka_RX3_82 (by decide) (by decide) dX3_copyOf_81 h (fun s7 h => ?_)
  refine qe_aload_n dX3_copyOf_84 1 rfl rfl trivial ?_
  refine qs_getR (j := 7) tC_8 rfl fl_RX3_34 dX3_copyOf_85 ?_
  refine qe_iconst (v := (0 : Int32)) dX3_copyOf_88 rfl ?_
  refine qe_aload_n dX3_copyOf_89 0 rfl rfl trivial ?_
  refine qs_getR (j := 7) tC_1 rfl fl_RX3_34 dX3_copyOf_90 ?_
  refine qe_iconst (v := (0 : Int32)) dX3_copyOf_93 rfl ?_
  refine qe_bipush (v := (nI 36)) dX3_copyOf_94 rfl ?_
  refine qs_copy tC_13 tC_6 (by decide) (by decide) (by decide) ka_RX3_82 (by decide) (by decide) dX3_copyOf_96 h (fun s8 h => ?_)
  refine qe_aload_n dX3_copyOf_99 1 rfl rfl trivial ?_
  refine qs_getR (j := 8) tC_8 rfl fl_RX3_37 dX3_copyOf_100 ?_
  refine qe_iconst (v := (0 : Int32)) dX3_copyOf_103 rfl ?_
  refine qe_aload_n dX3_copyOf_104 0 rfl rfl trivial ?_
  refine qs_getR (j := 8) tC_1 rfl fl_RX3_37 dX3_copyOf_105 ?_
  refine qe_iconst (v := (0 : Int32)) dX3_copyOf_108 rfl ?_
  refine qe_bipush (v := (nI 36)) dX3_copyOf_109 rfl ?_
  refine qs_copy tC_14 tC_7 (by decide) (by decide) (by decide) ka_RX3_82 (by decide) (by decide) dX3_copyOf_111 h (fun s9 h => ?_)
  have e : s9 = o := Option.some.inj h
  subst e
  exact qe_vret dX3_copyOf_114 rfl

set_option maxRecDepth 20000 in
theorem c_X3_copyOf_15_1 {l : Launch} {G : qe_G}  {s0 : qe_S} {o : qe_S} (h : g_X3_copyOf 15 1 s0 = some o) : qe_C l G MX3_copyOf [.ref 15, .ref 1] (qs_w s0 (qs_TC G)) none (qs_w o (qs_TC G)) := by
  refine qe_C.of (by decide +kernel) (Nat.le_of_ble_eq_true rfl) ?_
  show qe_J l G MX3_copyOf 0 [(0, .ref 15), (1, .ref 1)] [] (qs_w s0 (qs_TC G)) none (qs_w o (qs_TC G))
  unfold g_X3_copyOf at h
  refine qe_aload_n dX3_copyOf_0 0 rfl rfl trivial ?_
  refine qe_aload_n dX3_copyOf_1 1 rfl rfl trivial ?_
  refine qs_getI (j := 0) tC_1 rfl fl_RX3_9 dX3_copyOf_2 ?_
  refine qs_putI (j := 0) tC_15 rfl fp_RX3_9 dX3_copyOf_5 h (fun s1 h => ?_)
  refine qe_aload_n dX3_copyOf_8 0 rfl rfl trivial ?_
  refine qe_aload_n dX3_copyOf_9 1 rfl rfl trivial ?_
  refine qs_getI (j := 1) tC_1 rfl fl_RX3_15 dX3_copyOf_10 ?_
  refine qs_putI (j := 1) tC_15 rfl fp_RX3_15 dX3_copyOf_13 h (fun s2 h => ?_)
  refine qe_aload_n dX3_copyOf_16 0 rfl rfl trivial ?_
  refine qe_aload_n dX3_copyOf_17 1 rfl rfl trivial ?_
  refine qs_getI (j := 2) tC_1 rfl fl_RX3_18 dX3_copyOf_18 ?_
  refine qs_putI (j := 2) tC_15 rfl fp_RX3_18 dX3_copyOf_21 h (fun s3 h => ?_)
  refine qe_aload_n dX3_copyOf_24 1 rfl rfl trivial ?_
  refine qs_getR (j := 3) tC_1 rfl fl_RX3_21 dX3_copyOf_25 ?_
  refine qe_iconst (v := (0 : Int32)) dX3_copyOf_28 rfl ?_
  refine qe_aload_n dX3_copyOf_29 0 rfl rfl trivial ?_
  refine qs_getR (j := 3) tC_15 rfl fl_RX3_21 dX3_copyOf_30 ?_
  refine qe_iconst (v := (0 : Int32)) dX3_copyOf_33 rfl ?_
  refine qe_bipush (v := (nI 12)) dX3_copyOf_34 rfl ?_
  refine qs_copy tC_2 tC_16 (by decide) (by decide) (by decide) ka_RX3_82 (by decide) (by decide) dX3_copyOf_36 h (fun s4 h => ?_)
  refine qe_aload_n dX3_copyOf_39 1 rfl rfl trivial ?_
  refine qs_getR (j := 4) tC_1 rfl fl_RX3_25 dX3_copyOf_40 ?_
  refine qe_iconst (v := (0 : Int32)) dX3_copyOf_43 rfl ?_
  refine qe_aload_n dX3_copyOf_44 0 rfl rfl trivial ?_
  refine qs_getR (j := 4) tC_15 rfl fl_RX3_25 dX3_copyOf_45 ?_
  refine qe_iconst (v := (0 : Int32)) dX3_copyOf_48 rfl ?_
  refine qe_bipush (v := (nI 12)) dX3_copyOf_49 rfl ?_
  refine qs_copy tC_3 tC_17 (by decide) (by decide) (by decide) ka_RX3_82 (by decide) (by decide) dX3_copyOf_51 h (fun s5 h => ?_)
  refine qe_aload_n dX3_copyOf_54 1 rfl rfl trivial ?_
  refine qs_getR (j := 5) tC_1 rfl fl_RX3_28 dX3_copyOf_55 ?_
  refine qe_iconst (v := (0 : Int32)) dX3_copyOf_58 rfl ?_
  refine qe_aload_n dX3_copyOf_59 0 rfl rfl trivial ?_
  refine qs_getR (j := 5) tC_15 rfl fl_RX3_28 dX3_copyOf_60 ?_
  refine qe_iconst (v := (0 : Int32)) dX3_copyOf_63 rfl ?_
  refine qe_bipush (v := (nI 12)) dX3_copyOf_64 rfl ?_
  refine qs_copy tC_4 tC_18 (by decide) (by decide) (by decide) ka_RX3_82 (by decide) (by decide) dX3_copyOf_66 h (fun s6 h => ?_)
  refine qe_aload_n dX3_copyOf_69 1 rfl rfl trivial ?_
  refine qs_getR (j := 6) tC_1 rfl fl_RX3_31 dX3_copyOf_70 ?_
  refine qe_iconst (v := (0 : Int32)) dX3_copyOf_73 rfl ?_
  refine qe_aload_n dX3_copyOf_74 0 rfl rfl trivial ?_
  refine qs_getR (j := 6) tC_15 rfl fl_RX3_31 dX3_copyOf_75 ?_
  refine qe_iconst (v := (0 : Int32)) dX3_copyOf_78 rfl ?_
  refine qe_bipush (v := (nI 12)) dX3_copyOf_79 rfl ?_
  refine qs_copy tC_5 tC_19 (by decide) (by decide) (by decide) ka_RX3_82 (by decide) (by decide) dX3_copyOf_81 h (fun s7 h => ?_)
  refine qe_aload_n dX3_copyOf_84 1 rfl rfl trivial ?_
  refine qs_getR (j := 7) tC_1 rfl fl_RX3_34 dX3_copyOf_85 ?_
  refine qe_iconst (v := (0 : Int32)) dX3_copyOf_88 rfl ?_
  refine qe_aload_n dX3_copyOf_89 0 rfl rfl trivial ?_
  refine qs_getR (j := 7) tC_15 rfl fl_RX3_34 dX3_copyOf_90 ?_
  refine qe_iconst (v := (0 : Int32)) dX3_copyOf_93 rfl ?_
  refine qe_bipush (v := (nI 36)) dX3_copyOf_94 rfl ?_
  refine qs_copy tC_6 tC_20 (by decide) (by decide) (by decide) ka_RX3_82 (by decide) (by decide) dX3_copyOf_96 h (fun s8 h => ?_)
  refine qe_aload_n dX3_copyOf_99 1 rfl rfl trivial ?_
  refine qs_getR (j := 8) tC_1 rfl fl_RX3_37 dX3_copyOf_100 ?_
  refine qe_iconst (v := (0 : Int32)) dX3_copyOf_103 rfl ?_
  refine qe_aload_n dX3_copyOf_104 0 rfl rfl trivial ?_
  refine qs_getR (j := 8) tC_15 rfl fl_RX3_37 dX3_copyOf_105 ?_
  refine qe_iconst (v := (0 : Int32)) dX3_copyOf_108 rfl ?_
  refine qe_bipush (v := (nI 36)) dX3_copyOf_109 rfl ?_
  refine qs_copy tC_7 tC_21 (by decide) (by decide) (by decide) ka_RX3_82 (by decide) (by decide) dX3_copyOf_111 h (fun s9 h => ?_)
  have e : s9 = o := Option.some.inj h
  subst e
  exact qe_vret dX3_copyOf_114 rfl

set_option maxRecDepth 20000 in
theorem c_X3_copyOf_1_15 {l : Launch} {G : qe_G}  {s0 : qe_S} {o : qe_S} (h : g_X3_copyOf 1 15 s0 = some o) : qe_C l G MX3_copyOf [.ref 1, .ref 15] (qs_w s0 (qs_TC G)) none (qs_w o (qs_TC G)) := by
  refine qe_C.of (by decide +kernel) (Nat.le_of_ble_eq_true rfl) ?_
  show qe_J l G MX3_copyOf 0 [(0, .ref 1), (1, .ref 15)] [] (qs_w s0 (qs_TC G)) none (qs_w o (qs_TC G))
  unfold g_X3_copyOf at h
  refine qe_aload_n dX3_copyOf_0 0 rfl rfl trivial ?_
  refine qe_aload_n dX3_copyOf_1 1 rfl rfl trivial ?_
  refine qs_getI (j := 0) tC_15 rfl fl_RX3_9 dX3_copyOf_2 ?_
  refine qs_putI (j := 0) tC_1 rfl fp_RX3_9 dX3_copyOf_5 h (fun s1 h => ?_)
  refine qe_aload_n dX3_copyOf_8 0 rfl rfl trivial ?_
  refine qe_aload_n dX3_copyOf_9 1 rfl rfl trivial ?_
  refine qs_getI (j := 1) tC_15 rfl fl_RX3_15 dX3_copyOf_10 ?_
  refine qs_putI (j := 1) tC_1 rfl fp_RX3_15 dX3_copyOf_13 h (fun s2 h => ?_)
  refine qe_aload_n dX3_copyOf_16 0 rfl rfl trivial ?_
  refine qe_aload_n dX3_copyOf_17 1 rfl rfl trivial ?_
  refine qs_getI (j := 2) tC_15 rfl fl_RX3_18 dX3_copyOf_18 ?_
  refine qs_putI (j := 2) tC_1 rfl fp_RX3_18 dX3_copyOf_21 h (fun s3 h => ?_)
  refine qe_aload_n dX3_copyOf_24 1 rfl rfl trivial ?_
  refine qs_getR (j := 3) tC_15 rfl fl_RX3_21 dX3_copyOf_25 ?_
  refine qe_iconst (v := (0 : Int32)) dX3_copyOf_28 rfl ?_
  refine qe_aload_n dX3_copyOf_29 0 rfl rfl trivial ?_
  refine qs_getR (j := 3) tC_1 rfl fl_RX3_21 dX3_copyOf_30 ?_
  refine qe_iconst (v := (0 : Int32)) dX3_copyOf_33 rfl ?_
  refine qe_bipush (v := (nI 12)) dX3_copyOf_34 rfl ?_
  refine qs_copy tC_16 tC_2 (by decide) (by decide) (by decide) ka_RX3_82 (by decide) (by decide) dX3_copyOf_36 h (fun s4 h => ?_)
  refine qe_aload_n dX3_copyOf_39 1 rfl rfl trivial ?_
  refine qs_getR (j := 4) tC_15 rfl fl_RX3_25 dX3_copyOf_40 ?_
  refine qe_iconst (v := (0 : Int32)) dX3_copyOf_43 rfl ?_
  refine qe_aload_n dX3_copyOf_44 0 rfl rfl trivial ?_
  refine qs_getR (j := 4) tC_1 rfl fl_RX3_25 dX3_copyOf_45 ?_
  refine qe_iconst (v := (0 : Int32)) dX3_copyOf_48 rfl ?_
  refine qe_bipush (v := (nI 12)) dX3_copyOf_49 rfl ?_
  refine qs_copy tC_17 tC_3 (by decide) (by decide) (by decide) ka_RX3_82 (by decide) (by decide) dX3_copyOf_51 h (fun s5 h => ?_)
  refine qe_aload_n dX3_copyOf_54 1 rfl rfl trivial ?_
  refine qs_getR (j := 5) tC_15 rfl fl_RX3_28 dX3_copyOf_55 ?_
  refine qe_iconst (v := (0 : Int32)) dX3_copyOf_58 rfl ?_
  refine qe_aload_n dX3_copyOf_59 0 rfl rfl trivial ?_
  refine qs_getR (j := 5) tC_1 rfl fl_RX3_28 dX3_copyOf_60 ?_
  refine qe_iconst (v := (0 : Int32)) dX3_copyOf_63 rfl ?_
  refine qe_bipush (v := (nI 12)) dX3_copyOf_64 rfl ?_
  refine qs_copy tC_18 tC_4 (by decide) (by decide) (by decide) ka_RX3_82 (by decide) (by decide) dX3_copyOf_66 h (fun s6 h => ?_)
  refine qe_aload_n dX3_copyOf_69 1 rfl rfl trivial ?_
  refine qs_getR (j := 6) tC_15 rfl fl_RX3_31 dX3_copyOf_70 ?_
  refine qe_iconst (v := (0 : Int32)) dX3_copyOf_73 rfl ?_
  refine qe_aload_n dX3_copyOf_74 0 rfl rfl trivial ?_
  refine qs_getR (j := 6) tC_1 rfl fl_RX3_31 dX3_copyOf_75 ?_
  refine qe_iconst (v := (0 : Int32)) dX3_copyOf_78 rfl ?_
  refine qe_bipush (v := (nI 12)) dX3_copyOf_79 rfl ?_
  refine qs_copy tC_19 tC_5 (by decide) (by decide) (by decide) ka_RX3_82 (by decide) (by decide) dX3_copyOf_81 h (fun s7 h => ?_)
  refine qe_aload_n dX3_copyOf_84 1 rfl rfl trivial ?_
  refine qs_getR (j := 7) tC_15 rfl fl_RX3_34 dX3_copyOf_85 ?_
  refine qe_iconst (v := (0 : Int32)) dX3_copyOf_88 rfl ?_
  refine qe_aload_n dX3_copyOf_89 0 rfl rfl trivial ?_
  refine qs_getR (j := 7) tC_1 rfl fl_RX3_34 dX3_copyOf_90 ?_
  refine qe_iconst (v := (0 : Int32)) dX3_copyOf_93 rfl ?_
  refine qe_bipush (v := (nI 36)) dX3_copyOf_94 rfl ?_
  refine qs_copy tC_20 tC_6 (by decide) (by decide) (by decide) ka_RX3_82 (by decide) (by decide) dX3_copyOf_96 h (fun s8 h => ?_)
  refine qe_aload_n dX3_copyOf_99 1 rfl rfl trivial ?_
  refine qs_getR (j := 8) tC_15 rfl fl_RX3_37 dX3_copyOf_100 ?_
  refine qe_iconst (v := (0 : Int32)) dX3_copyOf_103 rfl ?_
  refine qe_aload_n dX3_copyOf_104 0 rfl rfl trivial ?_
  refine qs_getR (j := 8) tC_1 rfl fl_RX3_37 dX3_copyOf_105 ?_
  refine qe_iconst (v := (0 : Int32)) dX3_copyOf_108 rfl ?_
  refine qe_bipush (v := (nI 36)) dX3_copyOf_109 rfl ?_
  refine qs_copy tC_21 tC_7 (by decide) (by decide) (by decide) ka_RX3_82 (by decide) (by decide) dX3_copyOf_111 h (fun s9 h => ?_)
  have e : s9 = o := Option.some.inj h
  subst e
  exact qe_vret dX3_copyOf_114 rfl

set_option maxRecDepth 20000 in
theorem c_X8_doClause {l : Launch} {G : qe_G}  {s0 : qe_S} {o : Int32 × qe_S} (h : g_X8_doClause  s0 = some o) : qe_C l G MX8_doClause [.ref 0] (qs_w s0 (qs_TC G)) (some (.int o.1)) (qs_w o.2 (qs_TC G)) := by
  refine qe_C.of (by decide +kernel) (Nat.le_of_ble_eq_true rfl) ?_
  show qe_J l G MX8_doClause 0 [(0, .ref 0)] [] (qs_w s0 (qs_TC G)) (some (.int o.1)) (qs_w o.2 (qs_TC G))
  unfold g_X8_doClause at h
  refine qm_j_elim h (fun j156 ej156 h => ?_)
  have hj156 : ∀  (s1 : qe_S) (o : Int32 × qe_S), j156  s1 = some o → qe_J l G MX8_doClause 156 [(0, .ref 0), (1, .ref 38)] [] (qs_w s1 (qs_TC G)) (some (.int o.1)) (qs_w o.2 (qs_TC G)) := by
    intro  s1 o h
    subst ej156
    refine qe_aload_n dX8_doClause_156 0 rfl rfl trivial ?_
    refine qs_getR (j := 0) tC_0 rfl fl_RX8_12 dX8_doClause_157 ?_
    refine qe_aload_n dX8_doClause_160 1 rfl rfl trivial ?_
    refine qe_iconst (v := (0 : Int32)) dX8_doClause_161 rfl ?_
    refine qs_ild tC_38 dX8_doClause_162 h (fun a2 h => ?_)
    refine qe_aload_n dX8_doClause_163 1 rfl rfl trivial ?_
    refine qe_iconst (v := (1 : Int32)) dX8_doClause_164 rfl ?_
    refine qs_ild tC_38 dX8_doClause_165 h (fun a3 h => ?_)
    refine qm_b_elim h (fun a5 s4 hc h => ?_)
    refine qe_callV1 (st := []) kk_X8_doClause_X3_exchange (c_X3_exchange hc) (qs_at tC_1) rfl rfl rfl (Nat.le_of_ble_eq_true rfl) dX8_doClause_166 ?_
    have e : (a5, s4) = o := Option.some.inj h
    subst e
    exact qe_iret dX8_doClause_169 rfl
  refine qe_aload_n dX8_doClause_0 0 rfl rfl trivial ?_
  refine qs_getR (j := 11) tC_0 rfl fl_RX8_66 dX8_doClause_1 ?_
  refine qs_getR (j := 3) tC_37 rfl fl_RX8_379 dX8_doClause_4 ?_
  refine qe_astore_n (lv' := [(1, .ref 38), (0, .ref 0)]) dX8_doClause_7 rfl rfl (Nat.le_of_ble_eq_true rfl) trivial ?_
  refine qe_aload_n dX8_doClause_8 1 rfl rfl trivial ?_
  refine qs_getR (j := 11) tC_0 rfl fl_RX8_66 dX8_doClause_9 ?_
  refine qs_getI (j := 1) tC_37 rfl fl_RX8_382 dX8_doClause_12 ?_
  refine qe_tsw_in (v := (nI 110)) (tgt := 98) dX8_doClause_15 (by decide) (by decide) rfl rfl h (fun h => ?_) (fun c0 h => ?_)
  · refine qe_aload_n dX8_doClause_98 1 rfl rfl trivial ?_
    refine qs_getR (j := 0) tC_0 rfl fl_RX8_12 dX8_doClause_99 ?_
    refine qe_aload_n dX8_doClause_102 0 rfl rfl trivial ?_
    refine qe_iconst (v := (0 : Int32)) dX8_doClause_103 rfl ?_
    refine qs_ild tC_38 dX8_doClause_104 h (fun a6 h => ?_)
    refine qe_iconst (v := (nI 2)) dX8_doClause_105 rfl ?_
    refine qe_aload_n dX8_doClause_106 0 rfl rfl trivial ?_
    refine qe_iconst (v := (1 : Int32)) dX8_doClause_107 rfl ?_
    refine qs_ild tC_38 dX8_doClause_108 h (fun a7 h => ?_)
    refine qe_aload_n dX8_doClause_109 0 rfl rfl trivial ?_
    refine qe_iconst (v := (nI 2)) dX8_doClause_110 rfl ?_
    refine qs_ild tC_38 dX8_doClause_111 h (fun a8 h => ?_)
    refine qm_b_elim h (fun a10 s9 hc h => ?_)
    refine qe_callV1 (st := []) kk_X8_doClause_X3_changeOdds (c_X3_changeOdds hc) (qs_at tC_1) rfl rfl rfl (Nat.le_of_ble_eq_true rfl) dX8_doClause_112 ?_
    have e : (a10, s9) = o := Option.some.inj h
    subst e
    exact qe_iret dX8_doClause_115 rfl
  refine qe_tsw_in (v := (nI 111)) (tgt := 116) dX8_doClause_15 (by decide) (by decide) rfl rfl h (fun h => ?_) (fun c1 h => ?_)
  · refine qe_aload_n dX8_doClause_116 1 rfl rfl trivial ?_
    refine qs_getR (j := 0) tC_0 rfl fl_RX8_12 dX8_doClause_117 ?_
    refine qe_aload_n dX8_doClause_120 0 rfl rfl trivial ?_
    refine qe_iconst (v := (0 : Int32)) dX8_doClause_121 rfl ?_
    refine qs_ild tC_38 dX8_doClause_122 h (fun a11 h => ?_)
    refine qm_b_elim h (fun a13 s12 hc h => ?_)
    refine qe_callV1 (st := []) kk_X8_doClause_X3_changeOrder (c_X3_changeOrder hc) (qs_at tC_1) rfl rfl rfl (Nat.le_of_ble_eq_true rfl) dX8_doClause_123 ?_
    have e : (a13, s12) = o := Option.some.inj h
    subst e
    exact qe_iret dX8_doClause_126 rfl
  refine qe_tsw_in (v := (nI 114)) (tgt := 127) dX8_doClause_15 (by decide) (by decide) rfl rfl h (fun h => ?_) (fun c2 h => ?_)
  · refine qe_aload_n dX8_doClause_127 1 rfl rfl trivial ?_
    refine qs_getR (j := 0) tC_0 rfl fl_RX8_12 dX8_doClause_128 ?_
    refine qe_aload_n dX8_doClause_131 0 rfl rfl trivial ?_
    refine qe_iconst (v := (0 : Int32)) dX8_doClause_132 rfl ?_
    refine qs_ild tC_38 dX8_doClause_133 h (fun a14 h => ?_)
    refine qe_aload_n dX8_doClause_134 1 rfl rfl trivial ?_
    refine qs_getR (j := 0) tC_0 rfl fl_RX8_12 dX8_doClause_135 ?_
    refine qe_aload_n dX8_doClause_138 0 rfl rfl trivial ?_
    refine qe_iconst (v := (0 : Int32)) dX8_doClause_139 rfl ?_
    refine qs_ild tC_38 dX8_doClause_140 h (fun a15 h => ?_)
    refine qm_b_elim h (fun a17 s16 hc h => ?_)
    refine qe_callV1 (st := [.int a14, .ref 1]) kk_X8_doClause_X3_isRefusing (c_X3_isRefusing hc) (qs_at tC_1) rfl rfl rfl (Nat.le_of_ble_eq_true rfl) dX8_doClause_141 ?_
    refine qe_if_eq (tgt := 151) dX8_doClause_144 rfl h (fun _ h => ?_) (fun _ h => ?_)
    · refine qe_iconst (v := (1 : Int32)) dX8_doClause_151 rfl ?_
      refine qm_b_elim h (fun a19 s18 hc h => ?_)
      refine qe_callV1 (st := []) kk_X8_doClause_X3_changeRefusing (c_X3_changeRefusing hc) (qs_at tC_1) rfl rfl rfl (Nat.le_of_ble_eq_true rfl) dX8_doClause_152 ?_
      have e : (a19, s18) = o := Option.some.inj h
      subst e
      exact qe_iret dX8_doClause_155 rfl
    · refine qe_iconst (v := (0 : Int32)) dX8_doClause_147 rfl ?_
      refine qe_goto (tgt := 152) dX8_doClause_148 rfl ?_
      refine qm_b_elim h (fun a21 s20 hc h => ?_)
      refine qe_callV1 (st := []) kk_X8_doClause_X3_changeRefusing (c_X3_changeRefusing hc) (qs_at tC_1) rfl rfl rfl (Nat.le_of_ble_eq_true rfl) dX8_doClause_152 ?_
      have e : (a21, s20) = o := Option.some.inj h
      subst e
      exact qe_iret dX8_doClause_155 rfl
  refine qe_tsw_in (v := (nI 115)) (tgt := 80) dX8_doClause_15 (by decide) (by decide) rfl rfl h (fun h => ?_) (fun c3 h => ?_)
  · refine qe_aload_n dX8_doClause_80 1 rfl rfl trivial ?_
    refine qs_getR (j := 0) tC_0 rfl fl_RX8_12 dX8_doClause_81 ?_
    refine qe_aload_n dX8_doClause_84 0 rfl rfl trivial ?_
    refine qe_iconst (v := (0 : Int32)) dX8_doClause_85 rfl ?_
    refine qs_ild tC_38 dX8_doClause_86 h (fun a22 h => ?_)
    refine qe_iconst (v := (1 : Int32)) dX8_doClause_87 rfl ?_
    refine qe_aload_n dX8_doClause_88 0 rfl rfl trivial ?_
    refine qe_iconst (v := (1 : Int32)) dX8_doClause_89 rfl ?_
    refine qs_ild tC_38 dX8_doClause_90 h (fun a23 h => ?_)
    refine qe_aload_n dX8_doClause_91 0 rfl rfl trivial ?_
    refine qe_iconst (v := (nI 2)) dX8_doClause_92 rfl ?_
    refine qs_ild tC_38 dX8_doClause_93 h (fun a24 h => ?_)
    refine qm_b_elim h (fun a26 s25 hc h => ?_)
    refine qe_callV1 (st := []) kk_X8_doClause_X3_changeOdds (c_X3_changeOdds hc) (qs_at tC_1) rfl rfl rfl (Nat.le_of_ble_eq_true rfl) dX8_doClause_94 ?_
    have e : (a26, s25) = o := Option.some.inj h
    subst e
    exact qe_iret dX8_doClause_97 rfl
  refine qe_tsw_in (v := (nI 117)) (tgt := 60) dX8_doClause_15 (by decide) (by decide) rfl rfl h (fun h => ?_) (fun c4 h => ?_)
  · refine qe_aload_n dX8_doClause_60 1 rfl rfl trivial ?_
    refine qs_getR (j := 0) tC_0 rfl fl_RX8_12 dX8_doClause_61 ?_
    refine qe_aload_n dX8_doClause_64 0 rfl rfl trivial ?_
    refine qe_iconst (v := (0 : Int32)) dX8_doClause_65 rfl ?_
    refine qs_ild tC_38 dX8_doClause_66 h (fun a27 h => ?_)
    refine qe_aload_n dX8_doClause_67 0 rfl rfl trivial ?_
    refine qe_iconst (v := (1 : Int32)) dX8_doClause_68 rfl ?_
    refine qs_ild tC_38 dX8_doClause_69 h (fun a28 h => ?_)
    refine qe_aload_n dX8_doClause_70 0 rfl rfl trivial ?_
    refine qe_iconst (v := (nI 2)) dX8_doClause_71 rfl ?_
    refine qs_ild tC_38 dX8_doClause_72 h (fun a29 h => ?_)
    refine qe_aload_n dX8_doClause_73 0 rfl rfl trivial ?_
    refine qe_iconst (v := (nI 3)) dX8_doClause_74 rfl ?_
    refine qs_ild tC_38 dX8_doClause_75 h (fun a30 h => ?_)
    refine qm_b_elim h (fun a32 s31 hc h => ?_)
    refine qe_callV1 (st := []) kk_X8_doClause_X3_admit (c_X3_admit hc) (qs_at tC_1) rfl rfl rfl (Nat.le_of_ble_eq_true rfl) dX8_doClause_76 ?_
    have e : (a32, s31) = o := Option.some.inj h
    subst e
    exact qe_iret dX8_doClause_79 rfl
  refine qe_tsw_rest (tgt := 156) 8 dX8_doClause_15 (by decide) (by decide) (by decide) (fun i hi => match i, hi with | 0, _ => Or.inr c0 | 1, _ => Or.inr c1 | 2, _ => Or.inl rfl | 3, _ => Or.inl rfl | 4, _ => Or.inr c2 | 5, _ => Or.inr c3 | 6, _ => Or.inl rfl | 7, _ => Or.inr c4 | i + 8, hi => absurd hi (by omega)) rfl ?_
  refine qe_sub [1, 0] rfl ?_
  exact hj156  _ _ h

set_option maxRecDepth 20000 in
theorem c_X8_doClauses_L15 {l : Launch} {G : qe_G} {k98 : Int32 → qe_S → Option (Int32 × qe_S)} {k50 : Int32 → Int32 → qe_S → Option (Int32 × qe_S)} (hk98 : ∀ (a4 : Int32) (s : qe_S) (o : Int32 × qe_S), k98 a4 s = some o → qe_J l G MX8_doClauses 98 [(0, .ref 0), (1, .int a4)] [] (qs_w s (qs_TC G)) (some (.int o.1)) (qs_w o.2 (qs_TC G))) (hk50 : ∀ (a5 : Int32) (a6 : Int32) (s : qe_S) (o : Int32 × qe_S), k50 a5 a6 s = some o → qe_J l G MX8_doClauses 50 [(0, .ref 0), (2, .int a5), (3, .int a6)] [] (qs_w s (qs_TC G)) (some (.int o.1)) (qs_w o.2 (qs_TC G))) : ∀ (n : Nat) (v1 : Int32) (v2 : Int32) (s0 : qe_S) (o : Int32 × qe_S), g_X8_doClauses_L15 k98 k50 n v1 v2 s0 = some o → qe_J l G MX8_doClauses 15 [(0, .ref 0), (1, .int v1), (2, .int v2)] [] (qs_w s0 (qs_TC G)) (some (.int o.1)) (qs_w o.2 (qs_TC G)) := by
  intro n
  induction n with
  | zero =>
    intro v1 v2 s0 o h
    rw [g_X8_doClauses_L15] at h
    cases h
  | succ n ih =>
    intro v1 v2 s0 o h
    rw [g_X8_doClauses_L15] at h
    refine qe_iload_n dX8_doClauses_15 1 rfl rfl ?_
    refine qe_bipush (v := (nI 120)) dX8_doClauses_16 rfl ?_
    refine qe_icmp_ge (tgt := 98) dX8_doClauses_18 rfl h (fun _ h => ?_) (fun _ h => ?_)
    · refine qe_sub [0, 1] rfl ?_
      exact hk98 _ _ _ h
    · refine qe_iload_n dX8_doClauses_21 2 rfl rfl ?_
      refine qe_aload_n dX8_doClauses_22 0 rfl rfl trivial ?_
      refine qs_getR (j := 11) tC_0 rfl fl_RX8_66 dX8_doClauses_23 ?_
      refine qs_getI (j := 0) tC_37 rfl fl_RX8_278 dX8_doClauses_26 ?_
      refine qe_icmp_ge (tgt := 98) dX8_doClauses_29 rfl h (fun _ h => ?_) (fun _ h => ?_)
      · refine qe_sub [0, 1] rfl ?_
        exact hk98 _ _ _ h
      · refine qe_aload_n dX8_doClauses_32 0 rfl rfl trivial ?_
        refine qs_getR (j := 11) tC_0 rfl fl_RX8_66 dX8_doClauses_33 ?_
        refine qe_iload_n dX8_doClauses_36 2 rfl rfl ?_
        refine qm_b_elim h (fun a8 s7 hc h => ?_)
        refine qe_callV1 (st := []) kk_X8_doClauses_X6_readClause (c_X6_readClause hc) (qs_at tC_37) rfl rfl rfl (Nat.le_of_ble_eq_true rfl) dX8_doClauses_37 ?_
        refine qe_pop dX8_doClauses_40 rfl ?_
        refine qe_aload_n dX8_doClauses_41 0 rfl rfl trivial ?_
        refine qm_b_elim h (fun a10 s9 hc h => ?_)
        refine qe_callV1 (st := []) kk_X8_doClauses_X8_doClause (c_X8_doClause hc) (qs_at tC_0) rfl rfl rfl (Nat.le_of_ble_eq_true rfl) dX8_doClauses_42 ?_
        refine qe_istore_n (lv' := [(3, .int a10), (0, .ref 0), (1, .int v1), (2, .int v2)]) dX8_doClauses_45 rfl rfl (Nat.le_of_ble_eq_true rfl) ?_
        refine qe_iload_n dX8_doClauses_46 0 rfl rfl ?_
        refine qe_if_ge (tgt := 82) dX8_doClauses_47 rfl h (fun _ h => ?_) (fun _ h => ?_)
        · refine qe_aload_n dX8_doClauses_82 1 rfl rfl trivial ?_
          refine qs_getR (j := 11) tC_0 rfl fl_RX8_66 dX8_doClauses_83 ?_
          refine qs_getI (j := 2) tC_37 rfl fl_RX8_376 dX8_doClauses_86 ?_
          refine qe_iconst (v := (1 : Int32)) dX8_doClauses_89 rfl ?_
          refine qe_iadd dX8_doClauses_90 ?_
          refine qe_let_i h (fun a11 h => ?_)
          refine qe_istore_n (lv' := [(2, .int a11), (3, .int a10), (0, .ref 0), (1, .int v1)]) dX8_doClauses_91 rfl rfl (Nat.le_of_ble_eq_true rfl) ?_
          refine qe_iincl (lv' := fun a12 => [(1, .int a12), (2, .int a11), (3, .int a10), (0, .ref 0)]) dX8_doClauses_92 3 rfl rfl (fun _ => rfl) (Nat.le_of_ble_eq_true rfl) h (fun a12 h => ?_)
          refine qe_goto (tgt := 15) dX8_doClauses_95 rfl ?_
          refine qe_sub [3, 0, 1] rfl ?_
          exact ih _ _ _ _ h
        · refine qe_sub [1, 3, 0] rfl ?_
          exact hk50 _ _ _ _ h

set_option maxRecDepth 20000 in
theorem c_X8_doClauses {l : Launch} {G : qe_G}  {s0 : qe_S} {o : Int32 × qe_S} (h : g_X8_doClauses  s0 = some o) : qe_C l G MX8_doClauses [.ref 0] (qs_w s0 (qs_TC G)) (some (.int o.1)) (qs_w o.2 (qs_TC G)) := by
  refine qe_C.of (by decide +kernel) (Nat.le_of_ble_eq_true rfl) ?_
  show qe_J l G MX8_doClauses 0 [(0, .ref 0)] [] (qs_w s0 (qs_TC G)) (some (.int o.1)) (qs_w o.2 (qs_TC G))
  unfold g_X8_doClauses at h
  refine qe_aload_n dX8_doClauses_0 0 rfl rfl trivial ?_
  refine qs_getR (j := 2) tC_0 rfl fl_RX8_19 dX8_doClauses_1 ?_
  refine qe_aload_n dX8_doClauses_4 0 rfl rfl trivial ?_
  refine qs_getR (j := 0) tC_0 rfl fl_RX8_12 dX8_doClauses_5 ?_
  refine qm_o_elim h (fun s1 hc h => ?_)
  refine qe_callV0 (st := []) kk_X8_doClauses_X3_copyOf (c_X3_copyOf_15_1 hc) (qs_at tC_15) rfl rfl rfl (Nat.le_of_ble_eq_true rfl) dX8_doClauses_8 ?_
  refine qe_iconst (v := (0 : Int32)) dX8_doClauses_11 rfl ?_
  refine qe_let_i h (fun a2 h => ?_)
  refine qe_istore_n (lv' := [(1, .int a2), (0, .ref 0)]) dX8_doClauses_12 rfl rfl (Nat.le_of_ble_eq_true rfl) ?_
  refine qe_iconst (v := (0 : Int32)) dX8_doClauses_13 rfl ?_
  refine qe_let_i h (fun a3 h => ?_)
  refine qe_istore_n (lv' := [(2, .int a3), (1, .int a2), (0, .ref 0)]) dX8_doClauses_14 rfl rfl (Nat.le_of_ble_eq_true rfl) ?_
  refine qe_sub [2, 1, 0] rfl ?_
  refine c_X8_doClauses_L15
    (fun a13 s14 o h => ?_)
    (fun a19 a20 s21 o h => ?_) _ _ _ _ _ h
  · refine qe_aload_n dX8_doClauses_98 0 rfl rfl trivial ?_
    refine qs_getR (j := 0) tC_0 rfl fl_RX8_12 dX8_doClauses_99 ?_
    refine qe_iconst (v := (0 : Int32)) dX8_doClauses_102 rfl ?_
    refine qm_b_elim h (fun b16 s15 hc h => ?_)
    refine qe_callV1 (st := []) kk_X8_doClauses_X3_places (c_X3_places hc) (qs_at tC_1) rfl rfl rfl (Nat.le_of_ble_eq_true rfl) dX8_doClauses_103 ?_
    refine qe_lconst (v := 1) dX8_doClauses_106 rfl ?_
    refine qe_lcmp_ge (tgt := 139) dX8_doClauses_107 dX8_doClauses_108 rfl h (fun _ h => ?_) (fun _ h => ?_)
    · refine qe_iload_n dX8_doClauses_139 1 rfl rfl ?_
      have e : (a13, s15) = o := Option.some.inj h
      subst e
      exact qe_iret dX8_doClauses_140 rfl
    · refine qe_aload_n dX8_doClauses_111 0 rfl rfl trivial ?_
      refine qs_getR (j := 0) tC_0 rfl fl_RX8_12 dX8_doClauses_112 ?_
      refine qe_aload_n dX8_doClauses_115 0 rfl rfl trivial ?_
      refine qs_getR (j := 2) tC_0 rfl fl_RX8_19 dX8_doClauses_116 ?_
      refine qm_o_elim h (fun s17 hc h => ?_)
      refine qe_callV0 (st := []) kk_X8_doClauses_X3_copyOf (c_X3_copyOf_1_15 hc) (qs_at tC_1) rfl rfl rfl (Nat.le_of_ble_eq_true rfl) dX8_doClauses_119 ?_
      refine qe_aload_n dX8_doClauses_122 0 rfl rfl trivial ?_
      refine qs_getR (j := 12) tC_0 rfl fl_RX8_73 dX8_doClauses_123 ?_
      refine qe_bipush (v := (-7 : Int32)) dX8_doClauses_126 rfl ?_
      refine qe_iconst (v := (nI 2)) dX8_doClauses_128 rfl ?_
      refine qe_bipush (v := (-7 : Int32)) dX8_doClauses_129 rfl ?_
      refine qe_bipush (v := (-9 : Int32)) dX8_doClauses_131 rfl ?_
      refine qm_o_elim h (fun s18 hc h => ?_)
      refine qe_callV0 (st := []) kk_X8_doClauses_X1_note (c_X1_note hc) (qs_at tC_40) rfl rfl rfl (Nat.le_of_ble_eq_true rfl) dX8_doClauses_133 ?_
      refine qe_bipush (v := (-7 : Int32)) dX8_doClauses_136 rfl ?_
      have e : ((-7 : Int32), s18) = o := Option.some.inj h
      subst e
      exact qe_iret dX8_doClauses_138 rfl
  · refine qe_aload_n dX8_doClauses_50 0 rfl rfl trivial ?_
    refine qs_getR (j := 0) tC_0 rfl fl_RX8_12 dX8_doClauses_51 ?_
    refine qe_aload_n dX8_doClauses_54 0 rfl rfl trivial ?_
    refine qs_getR (j := 2) tC_0 rfl fl_RX8_19 dX8_doClauses_55 ?_
    refine qm_o_elim h (fun s22 hc h => ?_)
    refine qe_callV0 (st := []) kk_X8_doClauses_X3_copyOf (c_X3_copyOf_1_15 hc) (qs_at tC_1) rfl rfl rfl (Nat.le_of_ble_eq_true rfl) dX8_doClauses_58 ?_
    refine qe_aload_n dX8_doClauses_61 0 rfl rfl trivial ?_
    refine qs_getR (j := 12) tC_0 rfl fl_RX8_73 dX8_doClauses_62 ?_
    refine qe_sipush (v := (-300 : Int32)) dX8_doClauses_65 rfl ?_
    refine qe_iload_n dX8_doClauses_68 1 rfl rfl ?_
    refine qe_isub dX8_doClauses_69 ?_
    refine qe_iconst (v := (1 : Int32)) dX8_doClauses_70 rfl ?_
    refine qe_iload_n dX8_doClauses_71 2 rfl rfl ?_
    refine qe_iload_n dX8_doClauses_72 2 rfl rfl ?_
    refine qm_o_elim h (fun s23 hc h => ?_)
    refine qe_callV0 (st := []) kk_X8_doClauses_X1_note (c_X1_note hc) (qs_at tC_40) rfl rfl rfl (Nat.le_of_ble_eq_true rfl) dX8_doClauses_73 ?_
    refine qe_sipush (v := (-300 : Int32)) dX8_doClauses_76 rfl ?_
    refine qe_iload_n dX8_doClauses_79 1 rfl rfl ?_
    refine qe_isub dX8_doClauses_80 ?_
    have e : (((-300 : Int32) - a19), s23) = o := Option.some.inj h
    subst e
    exact qe_iret dX8_doClauses_81 rfl

set_option maxRecDepth 20000 in
theorem c_X8_tells {l : Launch} {G : qe_G}  {s0 : qe_S} {o : Int32 × qe_S} (h : g_X8_tells  s0 = some o) : qe_C l G MX8_tells [.ref 0] (qs_w s0 (qs_TC G)) (some (.int o.1)) (qs_w o.2 (qs_TC G)) := by
  refine qe_C.of (by decide +kernel) (Nat.le_of_ble_eq_true rfl) ?_
  show qe_J l G MX8_tells 0 [(0, .ref 0)] [] (qs_w s0 (qs_TC G)) (some (.int o.1)) (qs_w o.2 (qs_TC G))
  unfold g_X8_tells at h
  refine qm_j_elim h (fun j27 ej27 h => ?_)
  have hj27 : ∀ (q1 : Int32) (s2 : qe_S) (o : Int32 × qe_S), j27 q1 s2 = some o → qe_J l G MX8_tells 27 [(0, .ref 0)] [.int q1] (qs_w s2 (qs_TC G)) (some (.int o.1)) (qs_w o.2 (qs_TC G)) := by
    intro q1 s2 o h
    subst ej27
    refine qe_istore_n (lv' := [(2, .int q1), (0, .ref 0)]) dX8_tells_27 rfl rfl (Nat.le_of_ble_eq_true rfl) ?_
    refine qe_aload_n dX8_tells_28 1 rfl rfl trivial ?_
    refine qs_getR (j := 11) tC_0 rfl fl_RX8_66 dX8_tells_29 ?_
    refine qe_iconst (v := (0 : Int32)) dX8_tells_32 rfl ?_
    refine qs_putI (j := 0) tC_37 rfl fp_RX8_278 dX8_tells_33 h (fun s3 h => ?_)
    refine qe_iload_n dX8_tells_36 0 rfl rfl ?_
    have e : (q1, s3) = o := Option.some.inj h
    subst e
    exact qe_iret dX8_tells_37 rfl
  refine qe_aload_n dX8_tells_0 0 rfl rfl trivial ?_
  refine qs_getR (j := 11) tC_0 rfl fl_RX8_66 dX8_tells_1 ?_
  refine qm_b_elim h (fun a5 s4 hc h => ?_)
  refine qe_callV1 (st := []) kk_X8_tells_X6_fault (c_X6_fault hc) (qs_at tC_37) rfl rfl rfl (Nat.le_of_ble_eq_true rfl) dX8_tells_4 ?_
  refine qe_istore_n (lv' := [(1, .int a5), (0, .ref 0)]) dX8_tells_7 rfl rfl (Nat.le_of_ble_eq_true rfl) ?_
  refine qe_iload_n dX8_tells_8 0 rfl rfl ?_
  refine qe_if_lt (tgt := 23) dX8_tells_9 rfl h (fun _ h => ?_) (fun _ h => ?_)
  · refine qe_aload_n dX8_tells_23 1 rfl rfl trivial ?_
    refine qm_b_elim h (fun a7 s6 hc h => ?_)
    refine qe_callV1 (st := []) kk_X8_tells_X8_doClauses (c_X8_doClauses hc) (qs_at tC_0) rfl rfl rfl (Nat.le_of_ble_eq_true rfl) dX8_tells_24 ?_
    refine qe_sub [1] rfl ?_
    exact hj27 _ _ _ h
  · refine qe_aload_n dX8_tells_12 1 rfl rfl trivial ?_
    refine qe_bipush (v := (-100 : Int32)) dX8_tells_13 rfl ?_
    refine qe_iload_n dX8_tells_15 0 rfl rfl ?_
    refine qe_isub dX8_tells_16 ?_
    refine qm_b_elim h (fun a9 s8 hc h => ?_)
    refine qe_callV1 (st := []) kk_X8_tells_X8_refuse (c_X8_refuse hc) (qs_at tC_0) rfl rfl rfl (Nat.le_of_ble_eq_true rfl) dX8_tells_17 ?_
    refine qe_goto (tgt := 27) dX8_tells_20 rfl ?_
    refine qe_sub [1] rfl ?_
    exact hj27 _ _ _ h

set_option maxRecDepth 20000 in
theorem c_X8_reason {l : Launch} {G : qe_G} {v1 : Int32} {s0 : qe_S} {o : Int32 × qe_S} (h : g_X8_reason v1 s0 = some o) : qe_C l G MX8_reason [.ref 0, .int v1] (qs_w s0 (qs_TC G)) (some (.int o.1)) (qs_w o.2 (qs_TC G)) := by
  refine qe_C.of (by decide +kernel) (Nat.le_of_ble_eq_true rfl) ?_
  show qe_J l G MX8_reason 0 [(0, .ref 0), (1, .int v1)] [] (qs_w s0 (qs_TC G)) (some (.int o.1)) (qs_w o.2 (qs_TC G))
  unfold g_X8_reason at h
  refine qe_iload_n dX8_reason_0 1 rfl rfl ?_
  refine qe_tsw_in (v := (0 : Int32)) (tgt := 32) dX8_reason_1 (by decide) (by decide) rfl rfl h (fun h => ?_) (fun c0 h => ?_)
  · refine qe_aload_n dX8_reason_32 0 rfl rfl trivial ?_
    refine qs_getR (j := 12) tC_0 rfl fl_RX8_73 dX8_reason_33 ?_
    refine qs_getI (j := 0) tC_40 rfl fl_RX8_281 dX8_reason_36 ?_
    have e : ((s0.1 40 0), s0) = o := Option.some.inj h
    subst e
    exact qe_iret dX8_reason_39 rfl
  refine qe_tsw_in (v := (1 : Int32)) (tgt := 40) dX8_reason_1 (by decide) (by decide) rfl rfl h (fun h => ?_) (fun c1 h => ?_)
  · refine qe_aload_n dX8_reason_40 0 rfl rfl trivial ?_
    refine qs_getR (j := 12) tC_0 rfl fl_RX8_73 dX8_reason_41 ?_
    refine qs_getI (j := 1) tC_40 rfl fl_RX8_284 dX8_reason_44 ?_
    have e : ((s0.1 40 1), s0) = o := Option.some.inj h
    subst e
    exact qe_iret dX8_reason_47 rfl
  refine qe_tsw_in (v := (nI 2)) (tgt := 48) dX8_reason_1 (by decide) (by decide) rfl rfl h (fun h => ?_) (fun c2 h => ?_)
  · refine qe_aload_n dX8_reason_48 0 rfl rfl trivial ?_
    refine qs_getR (j := 12) tC_0 rfl fl_RX8_73 dX8_reason_49 ?_
    refine qs_getI (j := 2) tC_40 rfl fl_RX8_287 dX8_reason_52 ?_
    have e : ((s0.1 40 2), s0) = o := Option.some.inj h
    subst e
    exact qe_iret dX8_reason_55 rfl
  refine qe_tsw_in (v := (nI 3)) (tgt := 56) dX8_reason_1 (by decide) (by decide) rfl rfl h (fun h => ?_) (fun c3 h => ?_)
  · refine qe_aload_n dX8_reason_56 0 rfl rfl trivial ?_
    refine qs_getR (j := 12) tC_0 rfl fl_RX8_73 dX8_reason_57 ?_
    refine qs_getI (j := 3) tC_40 rfl fl_RX8_290 dX8_reason_60 ?_
    have e : ((s0.1 40 3), s0) = o := Option.some.inj h
    subst e
    exact qe_iret dX8_reason_63 rfl
  refine qe_tsw_rest (tgt := 64) 4 dX8_reason_1 (by decide) (by decide) (by decide) (fun i hi => match i, hi with | 0, _ => Or.inr c0 | 1, _ => Or.inr c1 | 2, _ => Or.inr c2 | 3, _ => Or.inr c3 | i + 4, hi => absurd hi (by omega)) rfl ?_
  refine qe_iconst (v := (0 : Int32)) dX8_reason_64 rfl ?_
  have e : ((0 : Int32), s0) = o := Option.some.inj h
  subst e
  exact qe_iret dX8_reason_65 rfl

set_option maxRecDepth 20000 in
theorem c_X8_rowOf {l : Launch} {G : qe_G} {v1 : Int32} {s0 : qe_S} {o : Value × qe_S} (h : g_X8_rowOf v1 s0 = some o) : qe_C l G MX8_rowOf [.ref 0, .int v1] (qs_w s0 (qs_TC G)) (some o.1) (qs_w o.2 (qs_TC G)) := by
  refine qe_C.of (by decide +kernel) (Nat.le_of_ble_eq_true rfl) ?_
  show qe_J l G MX8_rowOf 0 [(0, .ref 0), (1, .int v1)] [] (qs_w s0 (qs_TC G)) (some o.1) (qs_w o.2 (qs_TC G))
  unfold g_X8_rowOf at h
  refine qm_j_elim h (fun j22 ej22 h => ?_)
  have hj22 : ∀  (s1 : qe_S) (o : Value × qe_S), j22  s1 = some o → qe_J l G MX8_rowOf 22 [] [] (qs_w s1 (qs_TC G)) (some o.1) (qs_w o.2 (qs_TC G)) := by
    intro  s1 o h
    subst ej22
    refine qe_null dX8_rowOf_22 ?_
    have e : ((.null : Value), s1) = o := Option.some.inj h
    subst e
    exact qe_aret dX8_rowOf_23 rfl trivial
  refine qe_iload_n dX8_rowOf_0 1 rfl rfl ?_
  refine qe_if_lt (tgt := 22) dX8_rowOf_1 rfl h (fun _ h => ?_) (fun _ h => ?_)
  · refine qe_sub [] rfl ?_
    exact hj22  _ _ h
  · refine qe_iload_n dX8_rowOf_4 1 rfl rfl ?_
    refine qe_aload_n dX8_rowOf_5 0 rfl rfl trivial ?_
    refine qs_getR (j := 13) tC_0 rfl fl_RX8_79 dX8_rowOf_6 ?_
    refine qs_alenR tC_41 (v := 3) rfl dX8_rowOf_9 ?_
    refine qe_icmp_ge (tgt := 22) dX8_rowOf_10 rfl h (fun _ h => ?_) (fun _ h => ?_)
    · refine qe_sub [] rfl ?_
      exact hj22  _ _ h
    · refine qe_aload_n dX8_rowOf_13 0 rfl rfl trivial ?_
      refine qs_getR (j := 13) tC_0 rfl fl_RX8_79 dX8_rowOf_14 ?_
      refine qe_iload_n dX8_rowOf_17 1 rfl rfl ?_
      refine qs_ald tC_41 dX8_rowOf_18 h (fun h => ?_)
      refine qe_goto (tgt := 23) dX8_rowOf_19 rfl ?_
      have e : ((va_rf (qe_rows v1.toNatClampNeg)), s0) = o := Option.some.inj h
      subst e
      exact qe_aret dX8_rowOf_23 rfl (qe_isr_rf _)

set_option maxRecDepth 20000 in
theorem c_X4_become_L23_42 {l : Launch} {G : qe_G} : ∀ (n : Nat) (v2 : Int32) (s0 : qe_S) (o : Int32 × qe_S), g_X4_become_L23 42 n v2 s0 = some o → qe_J l G MX4_become 23 [(0, .ref 42), (2, .int v2)] [] (qs_w s0 (qs_TC G)) (some (.int o.1)) (qs_w o.2 (qs_TC G)) := by
  intro n
  induction n with
  | zero =>
    intro v2 s0 o h
    rw [g_X4_become_L23] at h
    cases h
  | succ n ih =>
    intro v2 s0 o h
    rw [g_X4_become_L23] at h
    refine qe_iload_n dX4_become_23 1 rfl rfl ?_
    refine qe_bipush (v := (nI 15)) dX4_become_24 rfl ?_
    refine qe_icmp_ge (tgt := 42) dX4_become_26 rfl h (fun _ h => ?_) (fun _ h => ?_)
    · refine qe_iconst (v := (1 : Int32)) dX4_become_42 rfl ?_
      have e : ((1 : Int32), s0) = o := Option.some.inj h
      subst e
      exact qe_iret dX4_become_43 rfl
    · refine qe_aload_n dX4_become_29 0 rfl rfl trivial ?_
      refine qs_getR (j := 1) tC_42 rfl fl_RX4_15 dX4_become_30 ?_
      refine qe_iload_n dX4_become_33 1 rfl rfl ?_
      refine qe_lconst (v := 0) dX4_become_34 rfl ?_
      refine qs_lst tC_43 dX4_become_35 h (fun s3 h => ?_)
      refine qe_iincl (lv' := fun a4 => [(2, .int a4), (0, .ref 42)]) dX4_become_36 1 rfl rfl (fun _ => rfl) (Nat.le_of_ble_eq_true rfl) h (fun a4 h => ?_)
      refine qe_goto (tgt := 23) dX4_become_39 rfl ?_
      refine qe_sub [1, 0] rfl ?_
      exact ih _ _ _ h

set_option maxRecDepth 20000 in
theorem c_X4_become_42 {l : Launch} {G : qe_G} {v1 : Int32} {s0 : qe_S} {o : Int32 × qe_S} (h : g_X4_become 42 v1 s0 = some o) : qe_C l G MX4_become [.ref 42, .int v1] (qs_w s0 (qs_TC G)) (some (.int o.1)) (qs_w o.2 (qs_TC G)) := by
  refine qe_C.of (by decide +kernel) (Nat.le_of_ble_eq_true rfl) ?_
  show qe_J l G MX4_become 0 [(0, .ref 42), (1, .int v1)] [] (qs_w s0 (qs_TC G)) (some (.int o.1)) (qs_w o.2 (qs_TC G))
  unfold g_X4_become at h
  refine qe_iload_n dX4_become_0 1 rfl rfl ?_
  refine qe_bipush (v := (nI 15)) dX4_become_1 rfl ?_
  refine qe_icmp_le (tgt := 9) dX4_become_3 rfl h (fun _ h => ?_) (fun _ h => ?_)
  · refine qe_iload_n dX4_become_9 1 rfl rfl ?_
    refine qe_if_ge (tgt := 16) dX4_become_10 rfl h (fun _ h => ?_) (fun _ h => ?_)
    · refine qe_aload_n dX4_become_16 0 rfl rfl trivial ?_
      refine qe_iload_n dX4_become_17 1 rfl rfl ?_
      refine qs_putI (j := 0) tC_42 rfl fp_RX4_9 dX4_become_18 h (fun s1 h => ?_)
      refine qe_iconst (v := (0 : Int32)) dX4_become_21 rfl ?_
      refine qe_let_i h (fun a2 h => ?_)
      refine qe_istore_n (lv' := [(2, .int a2), (0, .ref 42), (1, .int v1)]) dX4_become_22 rfl rfl (Nat.le_of_ble_eq_true rfl) ?_
      refine qe_sub [1, 0] rfl ?_
      refine c_X4_become_L23_42 _ _ _ _ h
    · refine qe_bipush (v := (-14 : Int32)) dX4_become_13 rfl ?_
      have e : ((-14 : Int32), s0) = o := Option.some.inj h
      subst e
      exact qe_iret dX4_become_15 rfl
  · refine qe_bipush (v := (-2 : Int32)) dX4_become_6 rfl ?_
    have e : ((-2 : Int32), s0) = o := Option.some.inj h
    subst e
    exact qe_iret dX4_become_8 rfl

set_option maxRecDepth 20000 in
theorem c_X4_become_L23_44 {l : Launch} {G : qe_G} : ∀ (n : Nat) (v2 : Int32) (s0 : qe_S) (o : Int32 × qe_S), g_X4_become_L23 44 n v2 s0 = some o → qe_J l G MX4_become 23 [(0, .ref 44), (2, .int v2)] [] (qs_w s0 (qs_TC G)) (some (.int o.1)) (qs_w o.2 (qs_TC G)) := by
  intro n
  induction n with
  | zero =>
    intro v2 s0 o h
    rw [g_X4_become_L23] at h
    cases h
  | succ n ih =>
    intro v2 s0 o h
    rw [g_X4_become_L23] at h
    refine qe_iload_n dX4_become_23 1 rfl rfl ?_
    refine qe_bipush (v := (nI 15)) dX4_become_24 rfl ?_
    refine qe_icmp_ge (tgt := 42) dX4_become_26 rfl h (fun _ h => ?_) (fun _ h => ?_)
    · refine qe_iconst (v := (1 : Int32)) dX4_become_42 rfl ?_
      have e : ((1 : Int32), s0) = o := Option.some.inj h
      subst e
      exact qe_iret dX4_become_43 rfl
    · refine qe_aload_n dX4_become_29 0 rfl rfl trivial ?_
      refine qs_getR (j := 1) tC_44 rfl fl_RX4_15 dX4_become_30 ?_
      refine qe_iload_n dX4_become_33 1 rfl rfl ?_
      refine qe_lconst (v := 0) dX4_become_34 rfl ?_
      refine qs_lst tC_45 dX4_become_35 h (fun s3 h => ?_)
      refine qe_iincl (lv' := fun a4 => [(2, .int a4), (0, .ref 44)]) dX4_become_36 1 rfl rfl (fun _ => rfl) (Nat.le_of_ble_eq_true rfl) h (fun a4 h => ?_)
      refine qe_goto (tgt := 23) dX4_become_39 rfl ?_
      refine qe_sub [1, 0] rfl ?_
      exact ih _ _ _ h

set_option maxRecDepth 20000 in
theorem c_X4_become_44 {l : Launch} {G : qe_G} {v1 : Int32} {s0 : qe_S} {o : Int32 × qe_S} (h : g_X4_become 44 v1 s0 = some o) : qe_C l G MX4_become [.ref 44, .int v1] (qs_w s0 (qs_TC G)) (some (.int o.1)) (qs_w o.2 (qs_TC G)) := by
  refine qe_C.of (by decide +kernel) (Nat.le_of_ble_eq_true rfl) ?_
  show qe_J l G MX4_become 0 [(0, .ref 44), (1, .int v1)] [] (qs_w s0 (qs_TC G)) (some (.int o.1)) (qs_w o.2 (qs_TC G))
  unfold g_X4_become at h
  refine qe_iload_n dX4_become_0 1 rfl rfl ?_
  refine qe_bipush (v := (nI 15)) dX4_become_1 rfl ?_
  refine qe_icmp_le (tgt := 9) dX4_become_3 rfl h (fun _ h => ?_) (fun _ h => ?_)
  · refine qe_iload_n dX4_become_9 1 rfl rfl ?_
    refine qe_if_ge (tgt := 16) dX4_become_10 rfl h (fun _ h => ?_) (fun _ h => ?_)
    · refine qe_aload_n dX4_become_16 0 rfl rfl trivial ?_
      refine qe_iload_n dX4_become_17 1 rfl rfl ?_
      refine qs_putI (j := 0) tC_44 rfl fp_RX4_9 dX4_become_18 h (fun s1 h => ?_)
      refine qe_iconst (v := (0 : Int32)) dX4_become_21 rfl ?_
      refine qe_let_i h (fun a2 h => ?_)
      refine qe_istore_n (lv' := [(2, .int a2), (0, .ref 44), (1, .int v1)]) dX4_become_22 rfl rfl (Nat.le_of_ble_eq_true rfl) ?_
      refine qe_sub [1, 0] rfl ?_
      refine c_X4_become_L23_44 _ _ _ _ h
    · refine qe_bipush (v := (-14 : Int32)) dX4_become_13 rfl ?_
      have e : ((-14 : Int32), s0) = o := Option.some.inj h
      subst e
      exact qe_iret dX4_become_15 rfl
  · refine qe_bipush (v := (-2 : Int32)) dX4_become_6 rfl ?_
    have e : ((-2 : Int32), s0) = o := Option.some.inj h
    subst e
    exact qe_iret dX4_become_8 rfl

set_option maxRecDepth 20000 in
theorem c_X4_become_L23_46 {l : Launch} {G : qe_G} : ∀ (n : Nat) (v2 : Int32) (s0 : qe_S) (o : Int32 × qe_S), g_X4_become_L23 46 n v2 s0 = some o → qe_J l G MX4_become 23 [(0, .ref 46), (2, .int v2)] [] (qs_w s0 (qs_TC G)) (some (.int o.1)) (qs_w o.2 (qs_TC G)) := by
  intro n
  induction n with
  | zero =>
    intro v2 s0 o h
    rw [g_X4_become_L23] at h
    cases h
  | succ n ih =>
    intro v2 s0 o h
    rw [g_X4_become_L23] at h
    refine qe_iload_n dX4_become_23 1 rfl rfl ?_
    refine qe_bipush (v := (nI 15)) dX4_become_24 rfl ?_
    refine qe_icmp_ge (tgt := 42) dX4_become_26 rfl h (fun _ h => ?_) (fun _ h => ?_)
    · refine qe_iconst (v := (1 : Int32)) dX4_become_42 rfl ?_
      have e : ((1 : Int32), s0) = o := Option.some.inj h
      subst e
      exact qe_iret dX4_become_43 rfl
    · refine qe_aload_n dX4_become_29 0 rfl rfl trivial ?_
      refine qs_getR (j := 1) tC_46 rfl fl_RX4_15 dX4_become_30 ?_
      refine qe_iload_n dX4_become_33 1 rfl rfl ?_
      refine qe_lconst (v := 0) dX4_become_34 rfl ?_
      refine qs_lst tC_47 dX4_become_35 h (fun s3 h => ?_)
      refine qe_iincl (lv' := fun a4 => [(2, .int a4), (0, .ref 46)]) dX4_become_36 1 rfl rfl (fun _ => rfl) (Nat.le_of_ble_eq_true rfl) h (fun a4 h => ?_)
      refine qe_goto (tgt := 23) dX4_become_39 rfl ?_
      refine qe_sub [1, 0] rfl ?_
      exact ih _ _ _ h

set_option maxRecDepth 20000 in
theorem c_X4_become_46 {l : Launch} {G : qe_G} {v1 : Int32} {s0 : qe_S} {o : Int32 × qe_S} (h : g_X4_become 46 v1 s0 = some o) : qe_C l G MX4_become [.ref 46, .int v1] (qs_w s0 (qs_TC G)) (some (.int o.1)) (qs_w o.2 (qs_TC G)) := by
  refine qe_C.of (by decide +kernel) (Nat.le_of_ble_eq_true rfl) ?_
  show qe_J l G MX4_become 0 [(0, .ref 46), (1, .int v1)] [] (qs_w s0 (qs_TC G)) (some (.int o.1)) (qs_w o.2 (qs_TC G))
  unfold g_X4_become at h
  refine qe_iload_n dX4_become_0 1 rfl rfl ?_
  refine qe_bipush (v := (nI 15)) dX4_become_1 rfl ?_
  refine qe_icmp_le (tgt := 9) dX4_become_3 rfl h (fun _ h => ?_) (fun _ h => ?_)
  · refine qe_iload_n dX4_become_9 1 rfl rfl ?_
    refine qe_if_ge (tgt := 16) dX4_become_10 rfl h (fun _ h => ?_) (fun _ h => ?_)
    · refine qe_aload_n dX4_become_16 0 rfl rfl trivial ?_
      refine qe_iload_n dX4_become_17 1 rfl rfl ?_
      refine qs_putI (j := 0) tC_46 rfl fp_RX4_9 dX4_become_18 h (fun s1 h => ?_)
      refine qe_iconst (v := (0 : Int32)) dX4_become_21 rfl ?_
      refine qe_let_i h (fun a2 h => ?_)
      refine qe_istore_n (lv' := [(2, .int a2), (0, .ref 46), (1, .int v1)]) dX4_become_22 rfl rfl (Nat.le_of_ble_eq_true rfl) ?_
      refine qe_sub [1, 0] rfl ?_
      refine c_X4_become_L23_46 _ _ _ _ h
    · refine qe_bipush (v := (-14 : Int32)) dX4_become_13 rfl ?_
      have e : ((-14 : Int32), s0) = o := Option.some.inj h
      subst e
      exact qe_iret dX4_become_15 rfl
  · refine qe_bipush (v := (-2 : Int32)) dX4_become_6 rfl ?_
    have e : ((-2 : Int32), s0) = o := Option.some.inj h
    subst e
    exact qe_iret dX4_become_8 rfl

set_option maxRecDepth 20000 in
theorem c_X8_list {l : Launch} {G : qe_G} {v1 : Int32} {v2 : Int32} {s0 : qe_S} {o : Int32 × qe_S} (h : g_X8_list v1 v2 s0 = some o) : qe_C l G MX8_list [.ref 0, .int v1, .int v2] (qs_w s0 (qs_TC G)) (some (.int o.1)) (qs_w o.2 (qs_TC G)) := by
  refine qe_C.of (by decide +kernel) (Nat.le_of_ble_eq_true rfl) ?_
  show qe_J l G MX8_list 0 [(0, .ref 0), (1, .int v1), (2, .int v2)] [] (qs_w s0 (qs_TC G)) (some (.int o.1)) (qs_w o.2 (qs_TC G))
  unfold g_X8_list at h
  refine qe_aload_n dX8_list_0 0 rfl rfl trivial ?_
  refine qe_iload_n dX8_list_1 1 rfl rfl ?_
  refine qm_b_elim h (fun q2 s1 hc h => ?_)
  refine qe_callV1 (st := []) kk_X8_list_X8_rowOf (c_X8_rowOf hc) (qs_at tC_0) rfl rfl rfl (Nat.le_of_ble_eq_true rfl) dX8_list_2 ?_
  refine qm_r_elim h (fun e hh => ?_) (fun o5 e hh => ?_)
  · clear h
    subst e
    have h := hh
    refine qe_astore_n (lv' := [(3, .null), (0, .ref 0), (1, .int v1), (2, .int v2)]) dX8_list_5 rfl rfl (Nat.le_of_ble_eq_true rfl) trivial ?_
    refine qe_aload_n dX8_list_6 0 rfl rfl trivial ?_
    refine qe_ifnonnull_n dX8_list_7 ?_
    refine qe_aload_n dX8_list_10 1 rfl rfl trivial ?_
    refine qe_iconst (v := (-1 : Int32)) dX8_list_11 rfl ?_
    refine qm_b_elim h (fun a4 s3 hc h => ?_)
    refine qe_callV1 (st := []) kk_X8_list_X8_refuse (c_X8_refuse hc) (qs_at tC_0) rfl rfl rfl (Nat.le_of_ble_eq_true rfl) dX8_list_12 ?_
    refine qe_goto (tgt := 27) dX8_list_15 rfl ?_
    have e : (a4, s3) = o := Option.some.inj h
    subst e
    exact qe_iret dX8_list_27 rfl
  · clear h
    subst e
    refine qm_w_elim hh (fun e h1 => ?_) (fun e h1 => ?_) (fun e h1 => ?_)
    · clear hh
      subst e
      have h := h1
      refine qe_astore_n (lv' := [(3, .ref 42), (0, .ref 0), (1, .int v1), (2, .int v2)]) dX8_list_5 rfl rfl (Nat.le_of_ble_eq_true rfl) trivial ?_
      refine qe_aload_n dX8_list_6 0 rfl rfl trivial ?_
      refine qe_ifnonnull_r (tgt := 18) dX8_list_7 rfl ?_
      refine qe_aload_n dX8_list_18 1 rfl rfl trivial ?_
      refine qe_aload_n dX8_list_19 0 rfl rfl trivial ?_
      refine qe_iload_n dX8_list_20 3 rfl rfl ?_
      refine qm_b_elim h (fun a7 s6 hc h => ?_)
      refine qe_callV1 (st := [.ref 0]) kk_X8_list_X4_become (c_X4_become_42 hc) (qs_at tC_42) rfl rfl rfl (Nat.le_of_ble_eq_true rfl) dX8_list_21 ?_
      refine qm_b_elim h (fun a9 s8 hc h => ?_)
      refine qe_callV1 (st := []) kk_X8_list_X8_answered (c_X8_answered hc) (qs_at tC_0) rfl rfl rfl (Nat.le_of_ble_eq_true rfl) dX8_list_24 ?_
      have e : (a9, s8) = o := Option.some.inj h
      subst e
      exact qe_iret dX8_list_27 rfl
    · clear hh
      subst e
      have h := h1
      refine qe_astore_n (lv' := [(3, .ref 44), (0, .ref 0), (1, .int v1), (2, .int v2)]) dX8_list_5 rfl rfl (Nat.le_of_ble_eq_true rfl) trivial ?_
      refine qe_aload_n dX8_list_6 0 rfl rfl trivial ?_
      refine qe_ifnonnull_r (tgt := 18) dX8_list_7 rfl ?_
      refine qe_aload_n dX8_list_18 1 rfl rfl trivial ?_
      refine qe_aload_n dX8_list_19 0 rfl rfl trivial ?_
      refine qe_iload_n dX8_list_20 3 rfl rfl ?_
      refine qm_b_elim h (fun a7 s6 hc h => ?_)
      refine qe_callV1 (st := [.ref 0]) kk_X8_list_X4_become (c_X4_become_44 hc) (qs_at tC_44) rfl rfl rfl (Nat.le_of_ble_eq_true rfl) dX8_list_21 ?_
      refine qm_b_elim h (fun a9 s8 hc h => ?_)
      refine qe_callV1 (st := []) kk_X8_list_X8_answered (c_X8_answered hc) (qs_at tC_0) rfl rfl rfl (Nat.le_of_ble_eq_true rfl) dX8_list_24 ?_
      have e : (a9, s8) = o := Option.some.inj h
      subst e
      exact qe_iret dX8_list_27 rfl
    · clear hh
      subst e
      have h := h1
      refine qe_astore_n (lv' := [(3, .ref 46), (0, .ref 0), (1, .int v1), (2, .int v2)]) dX8_list_5 rfl rfl (Nat.le_of_ble_eq_true rfl) trivial ?_
      refine qe_aload_n dX8_list_6 0 rfl rfl trivial ?_
      refine qe_ifnonnull_r (tgt := 18) dX8_list_7 rfl ?_
      refine qe_aload_n dX8_list_18 1 rfl rfl trivial ?_
      refine qe_aload_n dX8_list_19 0 rfl rfl trivial ?_
      refine qe_iload_n dX8_list_20 3 rfl rfl ?_
      refine qm_b_elim h (fun a7 s6 hc h => ?_)
      refine qe_callV1 (st := [.ref 0]) kk_X8_list_X4_become (c_X4_become_46 hc) (qs_at tC_46) rfl rfl rfl (Nat.le_of_ble_eq_true rfl) dX8_list_21 ?_
      refine qm_b_elim h (fun a9 s8 hc h => ?_)
      refine qe_callV1 (st := []) kk_X8_list_X8_answered (c_X8_answered hc) (qs_at tC_0) rfl rfl rfl (Nat.le_of_ble_eq_true rfl) dX8_list_24 ?_
      have e : (a9, s8) = o := Option.some.inj h
      subst e
      exact qe_iret dX8_list_27 rfl

set_option maxRecDepth 20000 in
theorem c_X8_refusalAt_n {l : Launch} {G : qe_G} {v1 : Int32} {s0 : qe_S} {o : Int32 × qe_S} (h : g_X8_refusalAt_n v1 s0 = some o) : qe_C l G MX8_refusalAt [.null, .int v1] (qs_w s0 (qs_TC G)) (some (.int o.1)) (qs_w o.2 (qs_TC G)) := by
  refine qe_C.of (by decide +kernel) (Nat.le_of_ble_eq_true rfl) ?_
  show qe_J l G MX8_refusalAt 0 [(0, .null), (1, .int v1)] [] (qs_w s0 (qs_TC G)) (some (.int o.1)) (qs_w o.2 (qs_TC G))
  unfold g_X8_refusalAt_n at h
  refine qe_aload_n dX8_refusalAt_0 0 rfl rfl trivial ?_
  refine qe_ifnonnull_n dX8_refusalAt_1 ?_
  refine qe_iconst (v := (-1 : Int32)) dX8_refusalAt_4 rfl ?_
  have e : ((-1 : Int32), s0) = o := Option.some.inj h
  subst e
  exact qe_iret dX8_refusalAt_5 rfl

set_option maxRecDepth 20000 in
theorem c_X8_refusalAt_42 {l : Launch} {G : qe_G} {v1 : Int32} {s0 : qe_S} {o : Int32 × qe_S} (h : g_X8_refusalAt 42 v1 s0 = some o) : qe_C l G MX8_refusalAt [.ref 42, .int v1] (qs_w s0 (qs_TC G)) (some (.int o.1)) (qs_w o.2 (qs_TC G)) := by
  refine qe_C.of (by decide +kernel) (Nat.le_of_ble_eq_true rfl) ?_
  show qe_J l G MX8_refusalAt 0 [(0, .ref 42), (1, .int v1)] [] (qs_w s0 (qs_TC G)) (some (.int o.1)) (qs_w o.2 (qs_TC G))
  unfold g_X8_refusalAt at h
  refine qe_aload_n dX8_refusalAt_0 0 rfl rfl trivial ?_
  refine qe_ifnonnull_r (tgt := 6) dX8_refusalAt_1 rfl ?_
  refine qe_aload_n dX8_refusalAt_6 0 rfl rfl trivial ?_
  refine qs_getI (j := 0) tC_42 rfl fl_RX8_307 dX8_refusalAt_7 ?_
  refine qe_if_ge (tgt := 16) dX8_refusalAt_10 rfl h (fun _ h => ?_) (fun _ h => ?_)
  · refine qm_j_elim h (fun j28 ej28 h => ?_)
    have hj28 : ∀  (s1 : qe_S) (o : Int32 × qe_S), j28  s1 = some o → qe_J l G MX8_refusalAt 28 [] [] (qs_w s1 (qs_TC G)) (some (.int o.1)) (qs_w o.2 (qs_TC G)) := by
      intro  s1 o h
      subst ej28
      refine qe_bipush (v := (-13 : Int32)) dX8_refusalAt_28 rfl ?_
      refine qe_goto (tgt := 34) dX8_refusalAt_30 rfl ?_
      have e : ((-13 : Int32), s1) = o := Option.some.inj h
      subst e
      exact qe_iret dX8_refusalAt_34 rfl
    refine qe_iload_n dX8_refusalAt_16 1 rfl rfl ?_
    refine qe_if_lt (tgt := 28) dX8_refusalAt_17 rfl h (fun _ h => ?_) (fun _ h => ?_)
    · refine qe_sub [] rfl ?_
      exact hj28  _ _ h
    · refine qe_iload_n dX8_refusalAt_20 1 rfl rfl ?_
      refine qe_aload_n dX8_refusalAt_21 0 rfl rfl trivial ?_
      refine qs_getI (j := 0) tC_42 rfl fl_RX8_307 dX8_refusalAt_22 ?_
      refine qe_icmp_lt (tgt := 33) dX8_refusalAt_25 rfl h (fun _ h => ?_) (fun _ h => ?_)
      · refine qe_iconst (v := (0 : Int32)) dX8_refusalAt_33 rfl ?_
        have e : ((0 : Int32), s0) = o := Option.some.inj h
        subst e
        exact qe_iret dX8_refusalAt_34 rfl
      · refine qe_sub [] rfl ?_
        exact hj28  _ _ h
  · refine qe_bipush (v := (-11 : Int32)) dX8_refusalAt_13 rfl ?_
    have e : ((-11 : Int32), s0) = o := Option.some.inj h
    subst e
    exact qe_iret dX8_refusalAt_15 rfl

set_option maxRecDepth 20000 in
theorem c_X8_refusalAt_44 {l : Launch} {G : qe_G} {v1 : Int32} {s0 : qe_S} {o : Int32 × qe_S} (h : g_X8_refusalAt 44 v1 s0 = some o) : qe_C l G MX8_refusalAt [.ref 44, .int v1] (qs_w s0 (qs_TC G)) (some (.int o.1)) (qs_w o.2 (qs_TC G)) := by
  refine qe_C.of (by decide +kernel) (Nat.le_of_ble_eq_true rfl) ?_
  show qe_J l G MX8_refusalAt 0 [(0, .ref 44), (1, .int v1)] [] (qs_w s0 (qs_TC G)) (some (.int o.1)) (qs_w o.2 (qs_TC G))
  unfold g_X8_refusalAt at h
  refine qe_aload_n dX8_refusalAt_0 0 rfl rfl trivial ?_
  refine qe_ifnonnull_r (tgt := 6) dX8_refusalAt_1 rfl ?_
  refine qe_aload_n dX8_refusalAt_6 0 rfl rfl trivial ?_
  refine qs_getI (j := 0) tC_44 rfl fl_RX8_307 dX8_refusalAt_7 ?_
  refine qe_if_ge (tgt := 16) dX8_refusalAt_10 rfl h (fun _ h => ?_) (fun _ h => ?_)
  · refine qm_j_elim h (fun j28 ej28 h => ?_)
    have hj28 : ∀  (s1 : qe_S) (o : Int32 × qe_S), j28  s1 = some o → qe_J l G MX8_refusalAt 28 [] [] (qs_w s1 (qs_TC G)) (some (.int o.1)) (qs_w o.2 (qs_TC G)) := by
      intro  s1 o h
      subst ej28
      refine qe_bipush (v := (-13 : Int32)) dX8_refusalAt_28 rfl ?_
      refine qe_goto (tgt := 34) dX8_refusalAt_30 rfl ?_
      have e : ((-13 : Int32), s1) = o := Option.some.inj h
      subst e
      exact qe_iret dX8_refusalAt_34 rfl
    refine qe_iload_n dX8_refusalAt_16 1 rfl rfl ?_
    refine qe_if_lt (tgt := 28) dX8_refusalAt_17 rfl h (fun _ h => ?_) (fun _ h => ?_)
    · refine qe_sub [] rfl ?_
      exact hj28  _ _ h
    · refine qe_iload_n dX8_refusalAt_20 1 rfl rfl ?_
      refine qe_aload_n dX8_refusalAt_21 0 rfl rfl trivial ?_
      refine qs_getI (j := 0) tC_44 rfl fl_RX8_307 dX8_refusalAt_22 ?_
      refine qe_icmp_lt (tgt := 33) dX8_refusalAt_25 rfl h (fun _ h => ?_) (fun _ h => ?_)
      · refine qe_iconst (v := (0 : Int32)) dX8_refusalAt_33 rfl ?_
        have e : ((0 : Int32), s0) = o := Option.some.inj h
        subst e
        exact qe_iret dX8_refusalAt_34 rfl
      · refine qe_sub [] rfl ?_
        exact hj28  _ _ h
  · refine qe_bipush (v := (-11 : Int32)) dX8_refusalAt_13 rfl ?_
    have e : ((-11 : Int32), s0) = o := Option.some.inj h
    subst e
    exact qe_iret dX8_refusalAt_15 rfl

set_option maxRecDepth 20000 in
theorem c_X8_refusalAt_46 {l : Launch} {G : qe_G} {v1 : Int32} {s0 : qe_S} {o : Int32 × qe_S} (h : g_X8_refusalAt 46 v1 s0 = some o) : qe_C l G MX8_refusalAt [.ref 46, .int v1] (qs_w s0 (qs_TC G)) (some (.int o.1)) (qs_w o.2 (qs_TC G)) := by
  refine qe_C.of (by decide +kernel) (Nat.le_of_ble_eq_true rfl) ?_
  show qe_J l G MX8_refusalAt 0 [(0, .ref 46), (1, .int v1)] [] (qs_w s0 (qs_TC G)) (some (.int o.1)) (qs_w o.2 (qs_TC G))
  unfold g_X8_refusalAt at h
  refine qe_aload_n dX8_refusalAt_0 0 rfl rfl trivial ?_
  refine qe_ifnonnull_r (tgt := 6) dX8_refusalAt_1 rfl ?_
  refine qe_aload_n dX8_refusalAt_6 0 rfl rfl trivial ?_
  refine qs_getI (j := 0) tC_46 rfl fl_RX8_307 dX8_refusalAt_7 ?_
  refine qe_if_ge (tgt := 16) dX8_refusalAt_10 rfl h (fun _ h => ?_) (fun _ h => ?_)
  · refine qm_j_elim h (fun j28 ej28 h => ?_)
    have hj28 : ∀  (s1 : qe_S) (o : Int32 × qe_S), j28  s1 = some o → qe_J l G MX8_refusalAt 28 [] [] (qs_w s1 (qs_TC G)) (some (.int o.1)) (qs_w o.2 (qs_TC G)) := by
      intro  s1 o h
      subst ej28
      refine qe_bipush (v := (-13 : Int32)) dX8_refusalAt_28 rfl ?_
      refine qe_goto (tgt := 34) dX8_refusalAt_30 rfl ?_
      have e : ((-13 : Int32), s1) = o := Option.some.inj h
      subst e
      exact qe_iret dX8_refusalAt_34 rfl
    refine qe_iload_n dX8_refusalAt_16 1 rfl rfl ?_
    refine qe_if_lt (tgt := 28) dX8_refusalAt_17 rfl h (fun _ h => ?_) (fun _ h => ?_)
    · refine qe_sub [] rfl ?_
      exact hj28  _ _ h
    · refine qe_iload_n dX8_refusalAt_20 1 rfl rfl ?_
      refine qe_aload_n dX8_refusalAt_21 0 rfl rfl trivial ?_
      refine qs_getI (j := 0) tC_46 rfl fl_RX8_307 dX8_refusalAt_22 ?_
      refine qe_icmp_lt (tgt := 33) dX8_refusalAt_25 rfl h (fun _ h => ?_) (fun _ h => ?_)
      · refine qe_iconst (v := (0 : Int32)) dX8_refusalAt_33 rfl ?_
        have e : ((0 : Int32), s0) = o := Option.some.inj h
        subst e
        exact qe_iret dX8_refusalAt_34 rfl
      · refine qe_sub [] rfl ?_
        exact hj28  _ _ h
  · refine qe_bipush (v := (-11 : Int32)) dX8_refusalAt_13 rfl ?_
    have e : ((-11 : Int32), s0) = o := Option.some.inj h
    subst e
    exact qe_iret dX8_refusalAt_15 rfl

set_option maxRecDepth 20000 in
theorem c_X8_put {l : Launch} {G : qe_G} {v1 : Int32} {v2 : Int32} {v3 : Int64} {s0 : qe_S} {o : Int32 × qe_S} (h : g_X8_put v1 v2 v3 s0 = some o) : qe_C l G MX8_put [.ref 0, .int v1, .int v2, .long v3] (qs_w s0 (qs_TC G)) (some (.int o.1)) (qs_w o.2 (qs_TC G)) := by
  refine qe_C.of (by decide +kernel) (Nat.le_of_ble_eq_true rfl) ?_
  show qe_J l G MX8_put 0 [(0, .ref 0), (1, .int v1), (2, .int v2), (3, .long v3)] [] (qs_w s0 (qs_TC G)) (some (.int o.1)) (qs_w o.2 (qs_TC G))
  unfold g_X8_put at h
  refine qe_aload_n dX8_put_0 0 rfl rfl trivial ?_
  refine qe_iload_n dX8_put_1 1 rfl rfl ?_
  refine qm_b_elim h (fun q2 s1 hc h => ?_)
  refine qe_callV1 (st := []) kk_X8_put_X8_rowOf (c_X8_rowOf hc) (qs_at tC_0) rfl rfl rfl (Nat.le_of_ble_eq_true rfl) dX8_put_2 ?_
  refine qm_r_elim h (fun e hh => ?_) (fun o7 e hh => ?_)
  · clear h
    subst e
    have h := hh
    refine qe_astore (lv' := [(5, .null), (0, .ref 0), (1, .int v1), (2, .int v2), (3, .long v3)]) dX8_put_5 rfl (Nat.le_of_ble_eq_true rfl) trivial ?_
    refine qe_aload dX8_put_7 0 rfl trivial ?_
    refine qe_iload_n dX8_put_9 3 rfl rfl ?_
    refine qm_b_elim h (fun a4 s3 hc h => ?_)
    refine qe_callS1 (st := []) kk_X8_put_X8_refusalAt (c_X8_refusalAt_n hc) rfl rfl (Nat.le_of_ble_eq_true rfl) dX8_put_10 ?_
    refine qe_istore (lv' := [(6, .int a4), (5, .null), (0, .ref 0), (1, .int v1), (2, .int v2), (3, .long v3)]) dX8_put_13 rfl (Nat.le_of_ble_eq_true rfl) ?_
    refine qe_aload dX8_put_15 1 rfl trivial ?_
    refine qe_ifnull_n (tgt := 25) dX8_put_17 rfl ?_
    refine qe_aload_n dX8_put_25 2 rfl rfl trivial ?_
    refine qe_iload dX8_put_26 0 rfl ?_
    refine qm_b_elim h (fun a6 s5 hc h => ?_)
    refine qe_callV1 (st := []) kk_X8_put_X8_refuse (c_X8_refuse hc) (qs_at tC_0) rfl rfl rfl (Nat.le_of_ble_eq_true rfl) dX8_put_28 ?_
    have e : (a6, s5) = o := Option.some.inj h
    subst e
    exact qe_iret dX8_put_31 rfl
  · clear h
    subst e
    refine qm_w_elim hh (fun e h1 => ?_) (fun e h1 => ?_) (fun e h1 => ?_)
    · clear hh
      subst e
      have h := h1
      refine qe_astore (lv' := [(5, .ref 42), (0, .ref 0), (1, .int v1), (2, .int v2), (3, .long v3)]) dX8_put_5 rfl (Nat.le_of_ble_eq_true rfl) trivial ?_
      refine qe_aload dX8_put_7 0 rfl trivial ?_
      refine qe_iload_n dX8_put_9 3 rfl rfl ?_
      refine qm_b_elim h (fun a9 s8 hc h => ?_)
      refine qe_callS1 (st := []) kk_X8_put_X8_refusalAt (c_X8_refusalAt_42 hc) rfl rfl (Nat.le_of_ble_eq_true rfl) dX8_put_10 ?_
      refine qe_istore (lv' := [(6, .int a9), (5, .ref 42), (0, .ref 0), (1, .int v1), (2, .int v2), (3, .long v3)]) dX8_put_13 rfl (Nat.le_of_ble_eq_true rfl) ?_
      refine qe_aload dX8_put_15 1 rfl trivial ?_
      refine qe_ifnull_r dX8_put_17 ?_
      refine qe_iload dX8_put_20 0 rfl ?_
      refine qe_if_ge (tgt := 32) dX8_put_22 rfl h (fun _ h => ?_) (fun _ h => ?_)
      · refine qe_aload dX8_put_32 1 rfl trivial ?_
        refine qs_getR (j := 1) tC_42 rfl fl_RX8_304 dX8_put_34 ?_
        refine qe_iload_n dX8_put_37 4 rfl rfl ?_
        refine qe_lload_n dX8_put_38 5 rfl rfl ?_
        refine qs_lst tC_43 dX8_put_39 h (fun s10 h => ?_)
        refine qe_iconst (v := (1 : Int32)) dX8_put_40 rfl ?_
        have e : ((1 : Int32), s10) = o := Option.some.inj h
        subst e
        exact qe_iret dX8_put_41 rfl
      · refine qe_aload_n dX8_put_25 2 rfl rfl trivial ?_
        refine qe_iload dX8_put_26 0 rfl ?_
        refine qm_b_elim h (fun a12 s11 hc h => ?_)
        refine qe_callV1 (st := []) kk_X8_put_X8_refuse (c_X8_refuse hc) (qs_at tC_0) rfl rfl rfl (Nat.le_of_ble_eq_true rfl) dX8_put_28 ?_
        have e : (a12, s11) = o := Option.some.inj h
        subst e
        exact qe_iret dX8_put_31 rfl
    · clear hh
      subst e
      have h := h1
      refine qe_astore (lv' := [(5, .ref 44), (0, .ref 0), (1, .int v1), (2, .int v2), (3, .long v3)]) dX8_put_5 rfl (Nat.le_of_ble_eq_true rfl) trivial ?_
      refine qe_aload dX8_put_7 0 rfl trivial ?_
      refine qe_iload_n dX8_put_9 3 rfl rfl ?_
      refine qm_b_elim h (fun a9 s8 hc h => ?_)
      refine qe_callS1 (st := []) kk_X8_put_X8_refusalAt (c_X8_refusalAt_44 hc) rfl rfl (Nat.le_of_ble_eq_true rfl) dX8_put_10 ?_
      refine qe_istore (lv' := [(6, .int a9), (5, .ref 44), (0, .ref 0), (1, .int v1), (2, .int v2), (3, .long v3)]) dX8_put_13 rfl (Nat.le_of_ble_eq_true rfl) ?_
      refine qe_aload dX8_put_15 1 rfl trivial ?_
      refine qe_ifnull_r dX8_put_17 ?_
      refine qe_iload dX8_put_20 0 rfl ?_
      refine qe_if_ge (tgt := 32) dX8_put_22 rfl h (fun _ h => ?_) (fun _ h => ?_)
      · refine qe_aload dX8_put_32 1 rfl trivial ?_
        refine qs_getR (j := 1) tC_44 rfl fl_RX8_304 dX8_put_34 ?_
        refine qe_iload_n dX8_put_37 4 rfl rfl ?_
        refine qe_lload_n dX8_put_38 5 rfl rfl ?_
        refine qs_lst tC_45 dX8_put_39 h (fun s10 h => ?_)
        refine qe_iconst (v := (1 : Int32)) dX8_put_40 rfl ?_
        have e : ((1 : Int32), s10) = o := Option.some.inj h
        subst e
        exact qe_iret dX8_put_41 rfl
      · refine qe_aload_n dX8_put_25 2 rfl rfl trivial ?_
        refine qe_iload dX8_put_26 0 rfl ?_
        refine qm_b_elim h (fun a12 s11 hc h => ?_)
        refine qe_callV1 (st := []) kk_X8_put_X8_refuse (c_X8_refuse hc) (qs_at tC_0) rfl rfl rfl (Nat.le_of_ble_eq_true rfl) dX8_put_28 ?_
        have e : (a12, s11) = o := Option.some.inj h
        subst e
        exact qe_iret dX8_put_31 rfl
    · clear hh
      subst e
      have h := h1
      refine qe_astore (lv' := [(5, .ref 46), (0, .ref 0), (1, .int v1), (2, .int v2), (3, .long v3)]) dX8_put_5 rfl (Nat.le_of_ble_eq_true rfl) trivial ?_
      refine qe_aload dX8_put_7 0 rfl trivial ?_
      refine qe_iload_n dX8_put_9 3 rfl rfl ?_
      refine qm_b_elim h (fun a9 s8 hc h => ?_)
      refine qe_callS1 (st := []) kk_X8_put_X8_refusalAt (c_X8_refusalAt_46 hc) rfl rfl (Nat.le_of_ble_eq_true rfl) dX8_put_10 ?_
      refine qe_istore (lv' := [(6, .int a9), (5, .ref 46), (0, .ref 0), (1, .int v1), (2, .int v2), (3, .long v3)]) dX8_put_13 rfl (Nat.le_of_ble_eq_true rfl) ?_
      refine qe_aload dX8_put_15 1 rfl trivial ?_
      refine qe_ifnull_r dX8_put_17 ?_
      refine qe_iload dX8_put_20 0 rfl ?_
      refine qe_if_ge (tgt := 32) dX8_put_22 rfl h (fun _ h => ?_) (fun _ h => ?_)
      · refine qe_aload dX8_put_32 1 rfl trivial ?_
        refine qs_getR (j := 1) tC_46 rfl fl_RX8_304 dX8_put_34 ?_
        refine qe_iload_n dX8_put_37 4 rfl rfl ?_
        refine qe_lload_n dX8_put_38 5 rfl rfl ?_
        refine qs_lst tC_47 dX8_put_39 h (fun s10 h => ?_)
        refine qe_iconst (v := (1 : Int32)) dX8_put_40 rfl ?_
        have e : ((1 : Int32), s10) = o := Option.some.inj h
        subst e
        exact qe_iret dX8_put_41 rfl
      · refine qe_aload_n dX8_put_25 2 rfl rfl trivial ?_
        refine qe_iload dX8_put_26 0 rfl ?_
        refine qm_b_elim h (fun a12 s11 hc h => ?_)
        refine qe_callV1 (st := []) kk_X8_put_X8_refuse (c_X8_refuse hc) (qs_at tC_0) rfl rfl rfl (Nat.le_of_ble_eq_true rfl) dX8_put_28 ?_
        have e : (a12, s11) = o := Option.some.inj h
        subst e
        exact qe_iret dX8_put_31 rfl

set_option maxRecDepth 20000 in
theorem c_X8_look {l : Launch} {G : qe_G} {v1 : Int32} {v2 : Int32} {s0 : qe_S} {o : Int64 × qe_S} (h : g_X8_look v1 v2 s0 = some o) : qe_C l G MX8_look [.ref 0, .int v1, .int v2] (qs_w s0 (qs_TC G)) (some (.long o.1)) (qs_w o.2 (qs_TC G)) := by
  refine qe_C.of (by decide +kernel) (Nat.le_of_ble_eq_true rfl) ?_
  show qe_J l G MX8_look 0 [(0, .ref 0), (1, .int v1), (2, .int v2)] [] (qs_w s0 (qs_TC G)) (some (.long o.1)) (qs_w o.2 (qs_TC G))
  unfold g_X8_look at h
  refine qm_j_elim h (fun j22 ej22 h => ?_)
  have hj22 : ∀ (a1 : Int32) (s2 : qe_S) (o : Int64 × qe_S), j22 a1 s2 = some o → qe_J l G MX8_look 22 [(0, .ref 0), (4, .int a1)] [] (qs_w s2 (qs_TC G)) (some (.long o.1)) (qs_w o.2 (qs_TC G)) := by
    intro a1 s2 o h
    subst ej22
    refine qe_aload_n dX8_look_22 0 rfl rfl trivial ?_
    refine qe_iload dX8_look_23 1 rfl ?_
    refine qm_b_elim h (fun b4 s3 hc h => ?_)
    refine qe_callV1 (st := []) kk_X8_look_X8_refuseLong (c_X8_refuseLong hc) (qs_at tC_0) rfl rfl rfl (Nat.le_of_ble_eq_true rfl) dX8_look_25 ?_
    refine qe_goto (tgt := 37) dX8_look_28 rfl ?_
    have e : (b4, s3) = o := Option.some.inj h
    subst e
    exact qe_lret dX8_look_37 rfl
  refine qe_aload_n dX8_look_0 0 rfl rfl trivial ?_
  refine qe_iload_n dX8_look_1 1 rfl rfl ?_
  refine qm_b_elim h (fun q6 s5 hc h => ?_)
  refine qe_callV1 (st := []) kk_X8_look_X8_rowOf (c_X8_rowOf hc) (qs_at tC_0) rfl rfl rfl (Nat.le_of_ble_eq_true rfl) dX8_look_2 ?_
  refine qm_r_elim h (fun e hh => ?_) (fun o9 e hh => ?_)
  · clear h
    subst e
    have h := hh
    refine qe_astore_n (lv' := [(3, .null), (0, .ref 0), (1, .int v1), (2, .int v2)]) dX8_look_5 rfl rfl (Nat.le_of_ble_eq_true rfl) trivial ?_
    refine qe_aload_n dX8_look_6 0 rfl rfl trivial ?_
    refine qe_iload_n dX8_look_7 3 rfl rfl ?_
    refine qm_b_elim h (fun a8 s7 hc h => ?_)
    refine qe_callS1 (st := []) kk_X8_look_X8_refusalAt (c_X8_refusalAt_n hc) rfl rfl (Nat.le_of_ble_eq_true rfl) dX8_look_8 ?_
    refine qe_istore (lv' := [(4, .int a8), (3, .null), (0, .ref 0), (1, .int v1), (2, .int v2)]) dX8_look_11 rfl (Nat.le_of_ble_eq_true rfl) ?_
    refine qe_aload_n dX8_look_13 1 rfl rfl trivial ?_
    refine qe_ifnull_n (tgt := 22) dX8_look_14 rfl ?_
    refine qe_sub [2, 0] rfl ?_
    exact hj22 _ _ _ h
  · clear h
    subst e
    refine qm_w_elim hh (fun e h1 => ?_) (fun e h1 => ?_) (fun e h1 => ?_)
    · clear hh
      subst e
      have h := h1
      refine qe_astore_n (lv' := [(3, .ref 42), (0, .ref 0), (1, .int v1), (2, .int v2)]) dX8_look_5 rfl rfl (Nat.le_of_ble_eq_true rfl) trivial ?_
      refine qe_aload_n dX8_look_6 0 rfl rfl trivial ?_
      refine qe_iload_n dX8_look_7 3 rfl rfl ?_
      refine qm_b_elim h (fun a11 s10 hc h => ?_)
      refine qe_callS1 (st := []) kk_X8_look_X8_refusalAt (c_X8_refusalAt_42 hc) rfl rfl (Nat.le_of_ble_eq_true rfl) dX8_look_8 ?_
      refine qe_istore (lv' := [(4, .int a11), (3, .ref 42), (0, .ref 0), (1, .int v1), (2, .int v2)]) dX8_look_11 rfl (Nat.le_of_ble_eq_true rfl) ?_
      refine qe_aload_n dX8_look_13 1 rfl rfl trivial ?_
      refine qe_ifnull_r dX8_look_14 ?_
      refine qe_iload dX8_look_17 0 rfl ?_
      refine qe_if_ge (tgt := 31) dX8_look_19 rfl h (fun _ h => ?_) (fun _ h => ?_)
      · refine qe_aload_n dX8_look_31 1 rfl rfl trivial ?_
        refine qs_getR (j := 1) tC_42 rfl fl_RX8_304 dX8_look_32 ?_
        refine qe_iload_n dX8_look_35 4 rfl rfl ?_
        refine qs_lld tC_43 dX8_look_36 h (fun b12 h => ?_)
        have e : (b12, s10) = o := Option.some.inj h
        subst e
        exact qe_lret dX8_look_37 rfl
      · refine qe_sub [2, 0] rfl ?_
        exact hj22 _ _ _ h
    · clear hh
      subst e
      have h := h1
      refine qe_astore_n (lv' := [(3, .ref 44), (0, .ref 0), (1, .int v1), (2, .int v2)]) dX8_look_5 rfl rfl (Nat.le_of_ble_eq_true rfl) trivial ?_
      refine qe_aload_n dX8_look_6 0 rfl rfl trivial ?_
      refine qe_iload_n dX8_look_7 3 rfl rfl ?_
      refine qm_b_elim h (fun a11 s10 hc h => ?_)
      refine qe_callS1 (st := []) kk_X8_look_X8_refusalAt (c_X8_refusalAt_44 hc) rfl rfl (Nat.le_of_ble_eq_true rfl) dX8_look_8 ?_
      refine qe_istore (lv' := [(4, .int a11), (3, .ref 44), (0, .ref 0), (1, .int v1), (2, .int v2)]) dX8_look_11 rfl (Nat.le_of_ble_eq_true rfl) ?_
      refine qe_aload_n dX8_look_13 1 rfl rfl trivial ?_
      refine qe_ifnull_r dX8_look_14 ?_
      refine qe_iload dX8_look_17 0 rfl ?_
      refine qe_if_ge (tgt := 31) dX8_look_19 rfl h (fun _ h => ?_) (fun _ h => ?_)
      · refine qe_aload_n dX8_look_31 1 rfl rfl trivial ?_
        refine qs_getR (j := 1) tC_44 rfl fl_RX8_304 dX8_look_32 ?_
        refine qe_iload_n dX8_look_35 4 rfl rfl ?_
        refine qs_lld tC_45 dX8_look_36 h (fun b12 h => ?_)
        have e : (b12, s10) = o := Option.some.inj h
        subst e
        exact qe_lret dX8_look_37 rfl
      · refine qe_sub [2, 0] rfl ?_
        exact hj22 _ _ _ h
    · clear hh
      subst e
      have h := h1
      refine qe_astore_n (lv' := [(3, .ref 46), (0, .ref 0), (1, .int v1), (2, .int v2)]) dX8_look_5 rfl rfl (Nat.le_of_ble_eq_true rfl) trivial ?_
      refine qe_aload_n dX8_look_6 0 rfl rfl trivial ?_
      refine qe_iload_n dX8_look_7 3 rfl rfl ?_
      refine qm_b_elim h (fun a11 s10 hc h => ?_)
      refine qe_callS1 (st := []) kk_X8_look_X8_refusalAt (c_X8_refusalAt_46 hc) rfl rfl (Nat.le_of_ble_eq_true rfl) dX8_look_8 ?_
      refine qe_istore (lv' := [(4, .int a11), (3, .ref 46), (0, .ref 0), (1, .int v1), (2, .int v2)]) dX8_look_11 rfl (Nat.le_of_ble_eq_true rfl) ?_
      refine qe_aload_n dX8_look_13 1 rfl rfl trivial ?_
      refine qe_ifnull_r dX8_look_14 ?_
      refine qe_iload dX8_look_17 0 rfl ?_
      refine qe_if_ge (tgt := 31) dX8_look_19 rfl h (fun _ h => ?_) (fun _ h => ?_)
      · refine qe_aload_n dX8_look_31 1 rfl rfl trivial ?_
        refine qs_getR (j := 1) tC_46 rfl fl_RX8_304 dX8_look_32 ?_
        refine qe_iload_n dX8_look_35 4 rfl rfl ?_
        refine qs_lld tC_47 dX8_look_36 h (fun b12 h => ?_)
        have e : (b12, s10) = o := Option.some.inj h
        subst e
        exact qe_lret dX8_look_37 rfl
      · refine qe_sub [2, 0] rfl ?_
        exact hj22 _ _ _ h

set_option maxRecDepth 20000 in
theorem c_X8_judge_L61_r42 {l : Launch} {G : qe_G} {v2 : Int32} {v4 : Int64} : ∀ (n : Nat) (v6 : Int32) (s0 : qe_S) (o : Int32 × qe_S), g_X8_judge_L61 v2 42 v4 n v6 s0 = some o → qe_J l G MX8_judge 61 [(0, .ref 0), (2, .int v2), (3, .ref 42), (4, .long v4), (6, .int v6)] [] (qs_w s0 (qs_TC G)) (some (.int o.1)) (qs_w o.2 (qs_TC G)) := by
  intro n
  induction n with
  | zero =>
    intro v6 s0 o h
    rw [g_X8_judge_L61] at h
    cases h
  | succ n ih =>
    intro v6 s0 o h
    rw [g_X8_judge_L61] at h
    refine qe_iload dX8_judge_61 4 rfl ?_
    refine qe_aload_n dX8_judge_63 0 rfl rfl trivial ?_
    refine qs_getR (j := 0) tC_0 rfl fl_RX8_12 dX8_judge_64 ?_
    refine qs_getI (j := 0) tC_1 rfl fl_RX8_201 dX8_judge_67 ?_
    refine qe_icmp_ge (tgt := 124) dX8_judge_70 rfl h (fun _ h => ?_) (fun _ h => ?_)
    · refine qe_bipush (v := (-5 : Int32)) dX8_judge_124 rfl ?_
      have e : ((-5 : Int32), s0) = o := Option.some.inj h
      subst e
      exact qe_iret dX8_judge_126 rfl
    · refine qe_iload_n dX8_judge_73 1 rfl rfl ?_
      refine qe_aload_n dX8_judge_74 2 rfl rfl trivial ?_
      refine qs_getI (j := 0) tC_42 rfl fl_RX8_307 dX8_judge_75 ?_
      refine qe_iload dX8_judge_78 4 rfl ?_
      refine qe_isub dX8_judge_80 ?_
      refine qe_icmp_lt (tgt := 90) dX8_judge_81 rfl h (fun _ h => ?_) (fun _ h => ?_)
      · refine qe_aload_n dX8_judge_90 2 rfl rfl trivial ?_
        refine qs_getR (j := 1) tC_42 rfl fl_RX8_304 dX8_judge_91 ?_
        refine qe_iload_n dX8_judge_94 1 rfl rfl ?_
        refine qe_iload dX8_judge_95 4 rfl ?_
        refine qe_iadd dX8_judge_97 ?_
        refine qs_lld tC_43 dX8_judge_98 h (fun b9 h => ?_)
        refine qe_aload_n dX8_judge_99 0 rfl rfl trivial ?_
        refine qs_getR (j := 0) tC_0 rfl fl_RX8_12 dX8_judge_100 ?_
        refine qe_iload dX8_judge_103 4 rfl ?_
        refine qe_iconst (v := (0 : Int32)) dX8_judge_105 rfl ?_
        refine qe_lload dX8_judge_106 3 rfl ?_
        refine qm_b_elim h (fun b11 s10 hc h => ?_)
        refine qe_callV1 (st := [.long b9]) kk_X8_judge_X3_partsOf (c_X3_partsOf hc) (qs_at tC_1) rfl rfl rfl (Nat.le_of_ble_eq_true rfl) dX8_judge_108 ?_
        refine qe_lcmp_eq (tgt := 118) dX8_judge_111 dX8_judge_112 rfl h (fun _ h => ?_) (fun _ h => ?_)
        · refine qe_iincl (lv' := fun a12 => [(6, .int a12), (0, .ref 0), (2, .int v2), (3, .ref 42), (4, .long v4)]) dX8_judge_118 4 rfl rfl (fun _ => rfl) (Nat.le_of_ble_eq_true rfl) h (fun a12 h => ?_)
          refine qe_goto (tgt := 61) dX8_judge_121 rfl ?_
          refine qe_sub [1, 2, 3, 4, 0] rfl ?_
          exact ih _ _ _ h
        · refine qe_iload dX8_judge_115 4 rfl ?_
          have e : (v6, s10) = o := Option.some.inj h
          subst e
          exact qe_iret dX8_judge_117 rfl
      · refine qe_bipush (v := (nI 100)) dX8_judge_84 rfl ?_
        refine qe_iload dX8_judge_86 4 rfl ?_
        refine qe_iadd dX8_judge_88 ?_
        have e : (((nI 100) + v6), s0) = o := Option.some.inj h
        subst e
        exact qe_iret dX8_judge_89 rfl

set_option maxRecDepth 20000 in
theorem c_X8_judge_L61_r44 {l : Launch} {G : qe_G} {v2 : Int32} {v4 : Int64} : ∀ (n : Nat) (v6 : Int32) (s0 : qe_S) (o : Int32 × qe_S), g_X8_judge_L61 v2 44 v4 n v6 s0 = some o → qe_J l G MX8_judge 61 [(0, .ref 0), (2, .int v2), (3, .ref 44), (4, .long v4), (6, .int v6)] [] (qs_w s0 (qs_TC G)) (some (.int o.1)) (qs_w o.2 (qs_TC G)) := by
  intro n
  induction n with
  | zero =>
    intro v6 s0 o h
    rw [g_X8_judge_L61] at h
    cases h
  | succ n ih =>
    intro v6 s0 o h
    rw [g_X8_judge_L61] at h
    refine qe_iload dX8_judge_61 4 rfl ?_
    refine qe_aload_n dX8_judge_63 0 rfl rfl trivial ?_
    refine qs_getR (j := 0) tC_0 rfl fl_RX8_12 dX8_judge_64 ?_
    refine qs_getI (j := 0) tC_1 rfl fl_RX8_201 dX8_judge_67 ?_
    refine qe_icmp_ge (tgt := 124) dX8_judge_70 rfl h (fun _ h => ?_) (fun _ h => ?_)
    · refine qe_bipush (v := (-5 : Int32)) dX8_judge_124 rfl ?_
      have e : ((-5 : Int32), s0) = o := Option.some.inj h
      subst e
      exact qe_iret dX8_judge_126 rfl
    · refine qe_iload_n dX8_judge_73 1 rfl rfl ?_
      refine qe_aload_n dX8_judge_74 2 rfl rfl trivial ?_
      refine qs_getI (j := 0) tC_44 rfl fl_RX8_307 dX8_judge_75 ?_
      refine qe_iload dX8_judge_78 4 rfl ?_
      refine qe_isub dX8_judge_80 ?_
      refine qe_icmp_lt (tgt := 90) dX8_judge_81 rfl h (fun _ h => ?_) (fun _ h => ?_)
      · refine qe_aload_n dX8_judge_90 2 rfl rfl trivial ?_
        refine qs_getR (j := 1) tC_44 rfl fl_RX8_304 dX8_judge_91 ?_
        refine qe_iload_n dX8_judge_94 1 rfl rfl ?_
        refine qe_iload dX8_judge_95 4 rfl ?_
        refine qe_iadd dX8_judge_97 ?_
        refine qs_lld tC_45 dX8_judge_98 h (fun b9 h => ?_)
        refine qe_aload_n dX8_judge_99 0 rfl rfl trivial ?_
        refine qs_getR (j := 0) tC_0 rfl fl_RX8_12 dX8_judge_100 ?_
        refine qe_iload dX8_judge_103 4 rfl ?_
        refine qe_iconst (v := (0 : Int32)) dX8_judge_105 rfl ?_
        refine qe_lload dX8_judge_106 3 rfl ?_
        refine qm_b_elim h (fun b11 s10 hc h => ?_)
        refine qe_callV1 (st := [.long b9]) kk_X8_judge_X3_partsOf (c_X3_partsOf hc) (qs_at tC_1) rfl rfl rfl (Nat.le_of_ble_eq_true rfl) dX8_judge_108 ?_
        refine qe_lcmp_eq (tgt := 118) dX8_judge_111 dX8_judge_112 rfl h (fun _ h => ?_) (fun _ h => ?_)
        · refine qe_iincl (lv' := fun a12 => [(6, .int a12), (0, .ref 0), (2, .int v2), (3, .ref 44), (4, .long v4)]) dX8_judge_118 4 rfl rfl (fun _ => rfl) (Nat.le_of_ble_eq_true rfl) h (fun a12 h => ?_)
          refine qe_goto (tgt := 61) dX8_judge_121 rfl ?_
          refine qe_sub [1, 2, 3, 4, 0] rfl ?_
          exact ih _ _ _ h
        · refine qe_iload dX8_judge_115 4 rfl ?_
          have e : (v6, s10) = o := Option.some.inj h
          subst e
          exact qe_iret dX8_judge_117 rfl
      · refine qe_bipush (v := (nI 100)) dX8_judge_84 rfl ?_
        refine qe_iload dX8_judge_86 4 rfl ?_
        refine qe_iadd dX8_judge_88 ?_
        have e : (((nI 100) + v6), s0) = o := Option.some.inj h
        subst e
        exact qe_iret dX8_judge_89 rfl

set_option maxRecDepth 20000 in
theorem c_X8_judge_L61_r46 {l : Launch} {G : qe_G} {v2 : Int32} {v4 : Int64} : ∀ (n : Nat) (v6 : Int32) (s0 : qe_S) (o : Int32 × qe_S), g_X8_judge_L61 v2 46 v4 n v6 s0 = some o → qe_J l G MX8_judge 61 [(0, .ref 0), (2, .int v2), (3, .ref 46), (4, .long v4), (6, .int v6)] [] (qs_w s0 (qs_TC G)) (some (.int o.1)) (qs_w o.2 (qs_TC G)) := by
  intro n
  induction n with
  | zero =>
    intro v6 s0 o h
    rw [g_X8_judge_L61] at h
    cases h
  | succ n ih =>
    intro v6 s0 o h
    rw [g_X8_judge_L61] at h
    refine qe_iload dX8_judge_61 4 rfl ?_
    refine qe_aload_n dX8_judge_63 0 rfl rfl trivial ?_
    refine qs_getR (j := 0) tC_0 rfl fl_RX8_12 dX8_judge_64 ?_
    refine qs_getI (j := 0) tC_1 rfl fl_RX8_201 dX8_judge_67 ?_
    refine qe_icmp_ge (tgt := 124) dX8_judge_70 rfl h (fun _ h => ?_) (fun _ h => ?_)
    · refine qe_bipush (v := (-5 : Int32)) dX8_judge_124 rfl ?_
      have e : ((-5 : Int32), s0) = o := Option.some.inj h
      subst e
      exact qe_iret dX8_judge_126 rfl
    · refine qe_iload_n dX8_judge_73 1 rfl rfl ?_
      refine qe_aload_n dX8_judge_74 2 rfl rfl trivial ?_
      refine qs_getI (j := 0) tC_46 rfl fl_RX8_307 dX8_judge_75 ?_
      refine qe_iload dX8_judge_78 4 rfl ?_
      refine qe_isub dX8_judge_80 ?_
      refine qe_icmp_lt (tgt := 90) dX8_judge_81 rfl h (fun _ h => ?_) (fun _ h => ?_)
      · refine qe_aload_n dX8_judge_90 2 rfl rfl trivial ?_
        refine qs_getR (j := 1) tC_46 rfl fl_RX8_304 dX8_judge_91 ?_
        refine qe_iload_n dX8_judge_94 1 rfl rfl ?_
        refine qe_iload dX8_judge_95 4 rfl ?_
        refine qe_iadd dX8_judge_97 ?_
        refine qs_lld tC_47 dX8_judge_98 h (fun b9 h => ?_)
        refine qe_aload_n dX8_judge_99 0 rfl rfl trivial ?_
        refine qs_getR (j := 0) tC_0 rfl fl_RX8_12 dX8_judge_100 ?_
        refine qe_iload dX8_judge_103 4 rfl ?_
        refine qe_iconst (v := (0 : Int32)) dX8_judge_105 rfl ?_
        refine qe_lload dX8_judge_106 3 rfl ?_
        refine qm_b_elim h (fun b11 s10 hc h => ?_)
        refine qe_callV1 (st := [.long b9]) kk_X8_judge_X3_partsOf (c_X3_partsOf hc) (qs_at tC_1) rfl rfl rfl (Nat.le_of_ble_eq_true rfl) dX8_judge_108 ?_
        refine qe_lcmp_eq (tgt := 118) dX8_judge_111 dX8_judge_112 rfl h (fun _ h => ?_) (fun _ h => ?_)
        · refine qe_iincl (lv' := fun a12 => [(6, .int a12), (0, .ref 0), (2, .int v2), (3, .ref 46), (4, .long v4)]) dX8_judge_118 4 rfl rfl (fun _ => rfl) (Nat.le_of_ble_eq_true rfl) h (fun a12 h => ?_)
          refine qe_goto (tgt := 61) dX8_judge_121 rfl ?_
          refine qe_sub [1, 2, 3, 4, 0] rfl ?_
          exact ih _ _ _ h
        · refine qe_iload dX8_judge_115 4 rfl ?_
          have e : (v6, s10) = o := Option.some.inj h
          subst e
          exact qe_iret dX8_judge_117 rfl
      · refine qe_bipush (v := (nI 100)) dX8_judge_84 rfl ?_
        refine qe_iload dX8_judge_86 4 rfl ?_
        refine qe_iadd dX8_judge_88 ?_
        have e : (((nI 100) + v6), s0) = o := Option.some.inj h
        subst e
        exact qe_iret dX8_judge_89 rfl

set_option maxRecDepth 20000 in
theorem c_X8_judge {l : Launch} {G : qe_G} {v1 : Int32} {v2 : Int32} {s0 : qe_S} {o : Int32 × qe_S} (h : g_X8_judge v1 v2 s0 = some o) : qe_C l G MX8_judge [.ref 0, .int v1, .int v2] (qs_w s0 (qs_TC G)) (some (.int o.1)) (qs_w o.2 (qs_TC G)) := by
  refine qe_C.of (by decide +kernel) (Nat.le_of_ble_eq_true rfl) ?_
  show qe_J l G MX8_judge 0 [(0, .ref 0), (1, .int v1), (2, .int v2)] [] (qs_w s0 (qs_TC G)) (some (.int o.1)) (qs_w o.2 (qs_TC G))
  unfold g_X8_judge at h
  refine qe_aload_n dX8_judge_0 0 rfl rfl trivial ?_
  refine qe_iload_n dX8_judge_1 1 rfl rfl ?_
  refine qm_b_elim h (fun q2 s1 hc h => ?_)
  refine qe_callV1 (st := []) kk_X8_judge_X8_rowOf (c_X8_rowOf hc) (qs_at tC_0) rfl rfl rfl (Nat.le_of_ble_eq_true rfl) dX8_judge_2 ?_
  refine qm_r_elim h (fun e hh => ?_) (fun o5 e hh => ?_)
  · clear h
    subst e
    have h := hh
    refine qe_astore_n (lv' := [(3, .null), (0, .ref 0), (1, .int v1), (2, .int v2)]) dX8_judge_5 rfl rfl (Nat.le_of_ble_eq_true rfl) trivial ?_
    refine qe_aload_n dX8_judge_6 0 rfl rfl trivial ?_
    refine qe_ifnull_n (tgt := 14) dX8_judge_7 rfl ?_
    refine qe_aload_n dX8_judge_14 1 rfl rfl trivial ?_
    refine qe_iconst (v := (-1 : Int32)) dX8_judge_15 rfl ?_
    refine qm_b_elim h (fun a4 s3 hc h => ?_)
    refine qe_callV1 (st := []) kk_X8_judge_X8_refuse (c_X8_refuse hc) (qs_at tC_0) rfl rfl rfl (Nat.le_of_ble_eq_true rfl) dX8_judge_16 ?_
    have e : (a4, s3) = o := Option.some.inj h
    subst e
    exact qe_iret dX8_judge_19 rfl
  · clear h
    subst e
    refine qm_w_elim hh (fun e h1 => ?_) (fun e h1 => ?_) (fun e h1 => ?_)
    · clear hh
      subst e
      have h := h1
      refine qe_astore_n (lv' := [(3, .ref 42), (0, .ref 0), (1, .int v1), (2, .int v2)]) dX8_judge_5 rfl rfl (Nat.le_of_ble_eq_true rfl) trivial ?_
      refine qe_aload_n dX8_judge_6 0 rfl rfl trivial ?_
      refine qe_ifnull_r dX8_judge_7 ?_
      refine qe_iload_n dX8_judge_10 3 rfl rfl ?_
      refine qe_if_ge (tgt := 20) dX8_judge_11 rfl h (fun _ h => ?_) (fun _ h => ?_)
      · refine qe_aload_n dX8_judge_20 0 rfl rfl trivial ?_
        refine qs_getI (j := 0) tC_42 rfl fl_RX8_307 dX8_judge_21 ?_
        refine qe_if_ge (tgt := 34) dX8_judge_24 rfl h (fun _ h => ?_) (fun _ h => ?_)
        · refine qe_aload_n dX8_judge_34 1 rfl rfl trivial ?_
          refine qs_getR (j := 0) tC_0 rfl fl_RX8_12 dX8_judge_35 ?_
          refine qe_iconst (v := (0 : Int32)) dX8_judge_38 rfl ?_
          refine qm_b_elim h (fun b7 s6 hc h => ?_)
          refine qe_callV1 (st := []) kk_X8_judge_X3_places (c_X3_places hc) (qs_at tC_1) rfl rfl rfl (Nat.le_of_ble_eq_true rfl) dX8_judge_39 ?_
          refine qe_lstore (lv' := [(4, .long b7), (3, .ref 42), (0, .ref 0), (1, .int v1), (2, .int v2)]) dX8_judge_42 rfl (Nat.le_of_ble_eq_true rfl) ?_
          refine qe_lload dX8_judge_44 0 rfl ?_
          refine qe_lconst (v := 1) dX8_judge_46 rfl ?_
          refine qe_lcmp_ge (tgt := 58) dX8_judge_47 dX8_judge_48 rfl h (fun _ h => ?_) (fun _ h => ?_)
          · refine qe_iconst (v := (0 : Int32)) dX8_judge_58 rfl ?_
            refine qe_let_i h (fun a8 h => ?_)
            refine qe_istore (lv' := [(6, .int a8), (4, .long b7), (3, .ref 42), (0, .ref 0), (1, .int v1), (2, .int v2)]) dX8_judge_59 rfl (Nat.le_of_ble_eq_true rfl) ?_
            refine qe_sub [3, 5, 2, 1, 0] rfl ?_
            refine c_X8_judge_L61_r42 _ _ _ _ h
          · refine qe_aload_n dX8_judge_51 2 rfl rfl trivial ?_
            refine qe_bipush (v := (-7 : Int32)) dX8_judge_52 rfl ?_
            refine qm_b_elim h (fun a14 s13 hc h => ?_)
            refine qe_callV1 (st := []) kk_X8_judge_X8_refuse (c_X8_refuse hc) (qs_at tC_0) rfl rfl rfl (Nat.le_of_ble_eq_true rfl) dX8_judge_54 ?_
            have e : (a14, s13) = o := Option.some.inj h
            subst e
            exact qe_iret dX8_judge_57 rfl
        · refine qe_aload_n dX8_judge_27 1 rfl rfl trivial ?_
          refine qe_bipush (v := (-11 : Int32)) dX8_judge_28 rfl ?_
          refine qm_b_elim h (fun a16 s15 hc h => ?_)
          refine qe_callV1 (st := []) kk_X8_judge_X8_refuse (c_X8_refuse hc) (qs_at tC_0) rfl rfl rfl (Nat.le_of_ble_eq_true rfl) dX8_judge_30 ?_
          have e : (a16, s15) = o := Option.some.inj h
          subst e
          exact qe_iret dX8_judge_33 rfl
      · refine qe_aload_n dX8_judge_14 1 rfl rfl trivial ?_
        refine qe_iconst (v := (-1 : Int32)) dX8_judge_15 rfl ?_
        refine qm_b_elim h (fun a18 s17 hc h => ?_)
        refine qe_callV1 (st := []) kk_X8_judge_X8_refuse (c_X8_refuse hc) (qs_at tC_0) rfl rfl rfl (Nat.le_of_ble_eq_true rfl) dX8_judge_16 ?_
        have e : (a18, s17) = o := Option.some.inj h
        subst e
        exact qe_iret dX8_judge_19 rfl
    · clear hh
      subst e
      have h := h1
      refine qe_astore_n (lv' := [(3, .ref 44), (0, .ref 0), (1, .int v1), (2, .int v2)]) dX8_judge_5 rfl rfl (Nat.le_of_ble_eq_true rfl) trivial ?_
      refine qe_aload_n dX8_judge_6 0 rfl rfl trivial ?_
      refine qe_ifnull_r dX8_judge_7 ?_
      refine qe_iload_n dX8_judge_10 3 rfl rfl ?_
      refine qe_if_ge (tgt := 20) dX8_judge_11 rfl h (fun _ h => ?_) (fun _ h => ?_)
      · refine qe_aload_n dX8_judge_20 0 rfl rfl trivial ?_
        refine qs_getI (j := 0) tC_44 rfl fl_RX8_307 dX8_judge_21 ?_
        refine qe_if_ge (tgt := 34) dX8_judge_24 rfl h (fun _ h => ?_) (fun _ h => ?_)
        · refine qe_aload_n dX8_judge_34 1 rfl rfl trivial ?_
          refine qs_getR (j := 0) tC_0 rfl fl_RX8_12 dX8_judge_35 ?_
          refine qe_iconst (v := (0 : Int32)) dX8_judge_38 rfl ?_
          refine qm_b_elim h (fun b7 s6 hc h => ?_)
          refine qe_callV1 (st := []) kk_X8_judge_X3_places (c_X3_places hc) (qs_at tC_1) rfl rfl rfl (Nat.le_of_ble_eq_true rfl) dX8_judge_39 ?_
          refine qe_lstore (lv' := [(4, .long b7), (3, .ref 44), (0, .ref 0), (1, .int v1), (2, .int v2)]) dX8_judge_42 rfl (Nat.le_of_ble_eq_true rfl) ?_
          refine qe_lload dX8_judge_44 0 rfl ?_
          refine qe_lconst (v := 1) dX8_judge_46 rfl ?_
          refine qe_lcmp_ge (tgt := 58) dX8_judge_47 dX8_judge_48 rfl h (fun _ h => ?_) (fun _ h => ?_)
          · refine qe_iconst (v := (0 : Int32)) dX8_judge_58 rfl ?_
            refine qe_let_i h (fun a8 h => ?_)
            refine qe_istore (lv' := [(6, .int a8), (4, .long b7), (3, .ref 44), (0, .ref 0), (1, .int v1), (2, .int v2)]) dX8_judge_59 rfl (Nat.le_of_ble_eq_true rfl) ?_
            refine qe_sub [3, 5, 2, 1, 0] rfl ?_
            refine c_X8_judge_L61_r44 _ _ _ _ h
          · refine qe_aload_n dX8_judge_51 2 rfl rfl trivial ?_
            refine qe_bipush (v := (-7 : Int32)) dX8_judge_52 rfl ?_
            refine qm_b_elim h (fun a14 s13 hc h => ?_)
            refine qe_callV1 (st := []) kk_X8_judge_X8_refuse (c_X8_refuse hc) (qs_at tC_0) rfl rfl rfl (Nat.le_of_ble_eq_true rfl) dX8_judge_54 ?_
            have e : (a14, s13) = o := Option.some.inj h
            subst e
            exact qe_iret dX8_judge_57 rfl
        · refine qe_aload_n dX8_judge_27 1 rfl rfl trivial ?_
          refine qe_bipush (v := (-11 : Int32)) dX8_judge_28 rfl ?_
          refine qm_b_elim h (fun a16 s15 hc h => ?_)
          refine qe_callV1 (st := []) kk_X8_judge_X8_refuse (c_X8_refuse hc) (qs_at tC_0) rfl rfl rfl (Nat.le_of_ble_eq_true rfl) dX8_judge_30 ?_
          have e : (a16, s15) = o := Option.some.inj h
          subst e
          exact qe_iret dX8_judge_33 rfl
      · refine qe_aload_n dX8_judge_14 1 rfl rfl trivial ?_
        refine qe_iconst (v := (-1 : Int32)) dX8_judge_15 rfl ?_
        refine qm_b_elim h (fun a18 s17 hc h => ?_)
        refine qe_callV1 (st := []) kk_X8_judge_X8_refuse (c_X8_refuse hc) (qs_at tC_0) rfl rfl rfl (Nat.le_of_ble_eq_true rfl) dX8_judge_16 ?_
        have e : (a18, s17) = o := Option.some.inj h
        subst e
        exact qe_iret dX8_judge_19 rfl
    · clear hh
      subst e
      have h := h1
      refine qe_astore_n (lv' := [(3, .ref 46), (0, .ref 0), (1, .int v1), (2, .int v2)]) dX8_judge_5 rfl rfl (Nat.le_of_ble_eq_true rfl) trivial ?_
      refine qe_aload_n dX8_judge_6 0 rfl rfl trivial ?_
      refine qe_ifnull_r dX8_judge_7 ?_
      refine qe_iload_n dX8_judge_10 3 rfl rfl ?_
      refine qe_if_ge (tgt := 20) dX8_judge_11 rfl h (fun _ h => ?_) (fun _ h => ?_)
      · refine qe_aload_n dX8_judge_20 0 rfl rfl trivial ?_
        refine qs_getI (j := 0) tC_46 rfl fl_RX8_307 dX8_judge_21 ?_
        refine qe_if_ge (tgt := 34) dX8_judge_24 rfl h (fun _ h => ?_) (fun _ h => ?_)
        · refine qe_aload_n dX8_judge_34 1 rfl rfl trivial ?_
          refine qs_getR (j := 0) tC_0 rfl fl_RX8_12 dX8_judge_35 ?_
          refine qe_iconst (v := (0 : Int32)) dX8_judge_38 rfl ?_
          refine qm_b_elim h (fun b7 s6 hc h => ?_)
          refine qe_callV1 (st := []) kk_X8_judge_X3_places (c_X3_places hc) (qs_at tC_1) rfl rfl rfl (Nat.le_of_ble_eq_true rfl) dX8_judge_39 ?_
          refine qe_lstore (lv' := [(4, .long b7), (3, .ref 46), (0, .ref 0), (1, .int v1), (2, .int v2)]) dX8_judge_42 rfl (Nat.le_of_ble_eq_true rfl) ?_
          refine qe_lload dX8_judge_44 0 rfl ?_
          refine qe_lconst (v := 1) dX8_judge_46 rfl ?_
          refine qe_lcmp_ge (tgt := 58) dX8_judge_47 dX8_judge_48 rfl h (fun _ h => ?_) (fun _ h => ?_)
          · refine qe_iconst (v := (0 : Int32)) dX8_judge_58 rfl ?_
            refine qe_let_i h (fun a8 h => ?_)
            refine qe_istore (lv' := [(6, .int a8), (4, .long b7), (3, .ref 46), (0, .ref 0), (1, .int v1), (2, .int v2)]) dX8_judge_59 rfl (Nat.le_of_ble_eq_true rfl) ?_
            refine qe_sub [3, 5, 2, 1, 0] rfl ?_
            refine c_X8_judge_L61_r46 _ _ _ _ h
          · refine qe_aload_n dX8_judge_51 2 rfl rfl trivial ?_
            refine qe_bipush (v := (-7 : Int32)) dX8_judge_52 rfl ?_
            refine qm_b_elim h (fun a14 s13 hc h => ?_)
            refine qe_callV1 (st := []) kk_X8_judge_X8_refuse (c_X8_refuse hc) (qs_at tC_0) rfl rfl rfl (Nat.le_of_ble_eq_true rfl) dX8_judge_54 ?_
            have e : (a14, s13) = o := Option.some.inj h
            subst e
            exact qe_iret dX8_judge_57 rfl
        · refine qe_aload_n dX8_judge_27 1 rfl rfl trivial ?_
          refine qe_bipush (v := (-11 : Int32)) dX8_judge_28 rfl ?_
          refine qm_b_elim h (fun a16 s15 hc h => ?_)
          refine qe_callV1 (st := []) kk_X8_judge_X8_refuse (c_X8_refuse hc) (qs_at tC_0) rfl rfl rfl (Nat.le_of_ble_eq_true rfl) dX8_judge_30 ?_
          have e : (a16, s15) = o := Option.some.inj h
          subst e
          exact qe_iret dX8_judge_33 rfl
      · refine qe_aload_n dX8_judge_14 1 rfl rfl trivial ?_
        refine qe_iconst (v := (-1 : Int32)) dX8_judge_15 rfl ?_
        refine qm_b_elim h (fun a18 s17 hc h => ?_)
        refine qe_callV1 (st := []) kk_X8_judge_X8_refuse (c_X8_refuse hc) (qs_at tC_0) rfl rfl rfl (Nat.le_of_ble_eq_true rfl) dX8_judge_16 ?_
        have e : (a18, s17) = o := Option.some.inj h
        subst e
        exact qe_iret dX8_judge_19 rfl

set_option maxRecDepth 20000 in
theorem c_X8_image {l : Launch} {G : qe_G}  {s0 : qe_S} {o : Int32 × qe_S} (h : g_X8_image  s0 = some o) : qe_C l G MX8_image [.ref 0] (qs_w s0 (qs_TC G)) (some (.int o.1)) (qs_w o.2 (qs_TC G)) := by
  refine qe_C.of (by decide +kernel) (Nat.le_of_ble_eq_true rfl) ?_
  show qe_J l G MX8_image 0 [(0, .ref 0)] [] (qs_w s0 (qs_TC G)) (some (.int o.1)) (qs_w o.2 (qs_TC G))
  unfold g_X8_image at h
  refine qe_aload_n dX8_image_0 0 rfl rfl trivial ?_
  refine qs_getR (j := 1) tC_0 rfl fl_RX8_16 dX8_image_1 ?_
  refine qe_aload_n dX8_image_4 0 rfl rfl trivial ?_
  refine qs_getR (j := 0) tC_0 rfl fl_RX8_12 dX8_image_5 ?_
  refine qm_o_elim h (fun s1 hc h => ?_)
  refine qe_callV0 (st := []) kk_X8_image_X3_copyOf (c_X3_copyOf_8_1 hc) (qs_at tC_8) rfl rfl rfl (Nat.le_of_ble_eq_true rfl) dX8_image_8 ?_
  refine qe_aload_n dX8_image_11 0 rfl rfl trivial ?_
  refine qe_iconst (v := (1 : Int32)) dX8_image_12 rfl ?_
  refine qs_putZ (j := 3) tC_0 rfl fp_RX8_22 ⟨rfl, rfl⟩ dX8_image_13 h (fun s2 h => ?_)
  refine qe_aload_n dX8_image_16 0 rfl rfl trivial ?_
  refine qs_getR (j := 1) tC_0 rfl fl_RX8_16 dX8_image_17 ?_
  refine qs_getI (j := 0) tC_8 rfl fl_RX8_201 dX8_image_20 ?_
  have e : ((s2.1 8 0), s2) = o := Option.some.inj h
  subst e
  exact qe_iret dX8_image_23 rfl

set_option maxRecDepth 20000 in
theorem c_X8_undo {l : Launch} {G : qe_G}  {s0 : qe_S} {o : Int32 × qe_S} (h : g_X8_undo  s0 = some o) : qe_C l G MX8_undo [.ref 0] (qs_w s0 (qs_TC G)) (some (.int o.1)) (qs_w o.2 (qs_TC G)) := by
  refine qe_C.of (by decide +kernel) (Nat.le_of_ble_eq_true rfl) ?_
  show qe_J l G MX8_undo 0 [(0, .ref 0)] [] (qs_w s0 (qs_TC G)) (some (.int o.1)) (qs_w o.2 (qs_TC G))
  unfold g_X8_undo at h
  refine qe_aload_n dX8_undo_0 0 rfl rfl trivial ?_
  refine qs_getI (j := 3) tC_0 rfl fl_RX8_22 dX8_undo_1 ?_
  refine qe_if_ne (tgt := 14) dX8_undo_4 rfl h (fun _ h => ?_) (fun _ h => ?_)
  · refine qe_aload_n dX8_undo_14 0 rfl rfl trivial ?_
    refine qs_getR (j := 0) tC_0 rfl fl_RX8_12 dX8_undo_15 ?_
    refine qe_aload_n dX8_undo_18 0 rfl rfl trivial ?_
    refine qs_getR (j := 1) tC_0 rfl fl_RX8_16 dX8_undo_19 ?_
    refine qm_o_elim h (fun s1 hc h => ?_)
    refine qe_callV0 (st := []) kk_X8_undo_X3_copyOf (c_X3_copyOf_1_8 hc) (qs_at tC_1) rfl rfl rfl (Nat.le_of_ble_eq_true rfl) dX8_undo_22 ?_
    refine qe_aload_n dX8_undo_25 0 rfl rfl trivial ?_
    refine qs_getR (j := 0) tC_0 rfl fl_RX8_12 dX8_undo_26 ?_
    refine qs_getI (j := 0) tC_1 rfl fl_RX8_201 dX8_undo_29 ?_
    have e : ((s1.1 1 0), s1) = o := Option.some.inj h
    subst e
    exact qe_iret dX8_undo_32 rfl
  · refine qe_aload_n dX8_undo_7 0 rfl rfl trivial ?_
    refine qe_bipush (v := (-3 : Int32)) dX8_undo_8 rfl ?_
    refine qm_b_elim h (fun a3 s2 hc h => ?_)
    refine qe_callV1 (st := []) kk_X8_undo_X8_refuse (c_X8_refuse hc) (qs_at tC_0) rfl rfl rfl (Nat.le_of_ble_eq_true rfl) dX8_undo_10 ?_
    have e : (a3, s2) = o := Option.some.inj h
    subst e
    exact qe_iret dX8_undo_13 rfl

set_option maxRecDepth 20000 in
theorem c_X8_count {l : Launch} {G : qe_G} {v1 : Int32} {s0 : qe_S} {o : Int32 × qe_S} (h : g_X8_count v1 s0 = some o) : qe_C l G MX8_count [.ref 0, .int v1] (qs_w s0 (qs_TC G)) (some (.int o.1)) (qs_w o.2 (qs_TC G)) := by
  refine qe_C.of (by decide +kernel) (Nat.le_of_ble_eq_true rfl) ?_
  show qe_J l G MX8_count 0 [(0, .ref 0), (1, .int v1)] [] (qs_w s0 (qs_TC G)) (some (.int o.1)) (qs_w o.2 (qs_TC G))
  unfold g_X8_count at h
  refine qe_iload_n dX8_count_0 1 rfl rfl ?_
  refine qe_tsw_in (v := (0 : Int32)) (tgt := 32) dX8_count_1 (by decide) (by decide) rfl rfl h (fun h => ?_) (fun c0 h => ?_)
  · refine qe_aload_n dX8_count_32 0 rfl rfl trivial ?_
    refine qs_getR (j := 0) tC_0 rfl fl_RX8_12 dX8_count_33 ?_
    refine qs_getI (j := 0) tC_1 rfl fl_RX8_201 dX8_count_36 ?_
    have e : ((s0.1 1 0), s0) = o := Option.some.inj h
    subst e
    exact qe_iret dX8_count_39 rfl
  refine qe_tsw_in (v := (1 : Int32)) (tgt := 40) dX8_count_1 (by decide) (by decide) rfl rfl h (fun h => ?_) (fun c1 h => ?_)
  · refine qe_aload_n dX8_count_40 0 rfl rfl trivial ?_
    refine qs_getR (j := 0) tC_0 rfl fl_RX8_12 dX8_count_41 ?_
    refine qs_getI (j := 2) tC_1 rfl fl_RX8_312 dX8_count_44 ?_
    have e : ((s0.1 1 2), s0) = o := Option.some.inj h
    subst e
    exact qe_iret dX8_count_47 rfl
  refine qe_tsw_in (v := (nI 2)) (tgt := 48) dX8_count_1 (by decide) (by decide) rfl rfl h (fun h => ?_) (fun c2 h => ?_)
  · refine qe_aload_n dX8_count_48 0 rfl rfl trivial ?_
    refine qs_getR (j := 11) tC_0 rfl fl_RX8_66 dX8_count_49 ?_
    refine qs_getI (j := 0) tC_37 rfl fl_RX8_278 dX8_count_52 ?_
    have e : ((s0.1 37 0), s0) = o := Option.some.inj h
    subst e
    exact qe_iret dX8_count_55 rfl
  refine qe_tsw_in (v := (nI 3)) (tgt := 56) dX8_count_1 (by decide) (by decide) rfl rfl h (fun h => ?_) (fun c3 h => ?_)
  · refine qe_aload_n dX8_count_56 0 rfl rfl trivial ?_
    refine qs_getR (j := 0) tC_0 rfl fl_RX8_12 dX8_count_57 ?_
    refine qs_getI (j := 1) tC_1 rfl fl_RX8_315 dX8_count_60 ?_
    have e : ((s0.1 1 1), s0) = o := Option.some.inj h
    subst e
    exact qe_iret dX8_count_63 rfl
  refine qe_tsw_rest (tgt := 64) 4 dX8_count_1 (by decide) (by decide) (by decide) (fun i hi => match i, hi with | 0, _ => Or.inr c0 | 1, _ => Or.inr c1 | 2, _ => Or.inr c2 | 3, _ => Or.inr c3 | i + 4, hi => absurd hi (by omega)) rfl ?_
  refine qe_aload_n dX8_count_64 0 rfl rfl trivial ?_
  refine qe_iconst (v := (-1 : Int32)) dX8_count_65 rfl ?_
  refine qm_b_elim h (fun a2 s1 hc h => ?_)
  refine qe_callV1 (st := []) kk_X8_count_X8_refuse (c_X8_refuse hc) (qs_at tC_0) rfl rfl rfl (Nat.le_of_ble_eq_true rfl) dX8_count_66 ?_
  have e : (a2, s1) = o := Option.some.inj h
  subst e
  exact qe_iret dX8_count_69 rfl

set_option maxRecDepth 20000 in
theorem c_X9_within {l : Launch} {G : qe_G} {v0 : Int32} {v1 : Int32} {v2 : Int32} {s0 : qe_S} {o : Int32 × qe_S} (h : g_X9_within v0 v1 v2 s0 = some o) : qe_C l G MX9_within [.int v0, .int v1, .int v2] (qs_w s0 (qs_TM G)) (some (.int o.1)) (qs_w o.2 (qs_TM G)) := by
  refine qe_C.of (by decide +kernel) (Nat.le_of_ble_eq_true rfl) ?_
  show qe_J l G MX9_within 0 [(0, .int v0), (1, .int v1), (2, .int v2)] [] (qs_w s0 (qs_TM G)) (some (.int o.1)) (qs_w o.2 (qs_TM G))
  unfold g_X9_within at h
  refine qm_j_elim h (fun j14 ej14 h => ?_)
  have hj14 : ∀  (s1 : qe_S) (o : Int32 × qe_S), j14  s1 = some o → qe_J l G MX9_within 14 [] [] (qs_w s1 (qs_TM G)) (some (.int o.1)) (qs_w o.2 (qs_TM G)) := by
    intro  s1 o h
    subst ej14
    refine qe_iconst (v := (0 : Int32)) dX9_within_14 rfl ?_
    have e : ((0 : Int32), s1) = o := Option.some.inj h
    subst e
    exact qe_nret dX9_within_15 rfl rfl
  refine qe_iload_n dX9_within_0 0 rfl rfl ?_
  refine qe_iload_n dX9_within_1 1 rfl rfl ?_
  refine qe_icmp_lt (tgt := 14) dX9_within_2 rfl h (fun _ h => ?_) (fun _ h => ?_)
  · refine qe_sub [] rfl ?_
    exact hj14  _ _ h
  · refine qe_iload_n dX9_within_5 0 rfl rfl ?_
    refine qe_iload_n dX9_within_6 2 rfl rfl ?_
    refine qe_icmp_gt (tgt := 14) dX9_within_7 rfl h (fun _ h => ?_) (fun _ h => ?_)
    · refine qe_sub [] rfl ?_
      exact hj14  _ _ h
    · refine qe_iconst (v := (1 : Int32)) dX9_within_10 rfl ?_
      refine qe_goto (tgt := 15) dX9_within_11 rfl ?_
      have e : ((1 : Int32), s0) = o := Option.some.inj h
      subst e
      exact qe_nret dX9_within_15 rfl rfl

set_option maxRecDepth 20000 in
theorem c_X9_isOdds {l : Launch} {G : qe_G} {v0 : Int32} {v1 : Int32} {v2 : Int32} {s0 : qe_S} {o : Int32 × qe_S} (h : g_X9_isOdds v0 v1 v2 s0 = some o) : qe_C l G MX9_isOdds [.int v0, .int v1, .int v2] (qs_w s0 (qs_TM G)) (some (.int o.1)) (qs_w o.2 (qs_TM G)) := by
  refine qe_C.of (by decide +kernel) (Nat.le_of_ble_eq_true rfl) ?_
  show qe_J l G MX9_isOdds 0 [(0, .int v0), (1, .int v1), (2, .int v2)] [] (qs_w s0 (qs_TM G)) (some (.int o.1)) (qs_w o.2 (qs_TM G))
  unfold g_X9_isOdds at h
  refine qm_j_elim h (fun j31 ej31 h => ?_)
  have hj31 : ∀  (s1 : qe_S) (o : Int32 × qe_S), j31  s1 = some o → qe_J l G MX9_isOdds 31 [] [] (qs_w s1 (qs_TM G)) (some (.int o.1)) (qs_w o.2 (qs_TM G)) := by
    intro  s1 o h
    subst ej31
    refine qe_iconst (v := (0 : Int32)) dX9_isOdds_31 rfl ?_
    have e : ((0 : Int32), s1) = o := Option.some.inj h
    subst e
    exact qe_nret dX9_isOdds_32 rfl rfl
  refine qe_iload_n dX9_isOdds_0 2 rfl rfl ?_
  refine qe_iconst (v := (1 : Int32)) dX9_isOdds_1 rfl ?_
  refine qe_bipush (v := (nI 60)) dX9_isOdds_2 rfl ?_
  refine qm_b_elim h (fun a3 s2 hc h => ?_)
  refine qe_callS1 (st := []) kk_X9_isOdds_X9_within (c_X9_within hc) rfl rfl (Nat.le_of_ble_eq_true rfl) dX9_isOdds_4 ?_
  refine qe_if_eq (tgt := 31) dX9_isOdds_7 rfl h (fun _ h => ?_) (fun _ h => ?_)
  · refine qe_sub [] rfl ?_
    exact hj31  _ _ h
  · refine qm_j_elim h (fun j20 ej20 h => ?_)
    have hj20 : ∀ (q4 : Int32) (q5 : Int32) (s6 : qe_S) (o : Int32 × qe_S), j20 q4 q5 s6 = some o → qe_J l G MX9_isOdds 20 [(2, .int v2)] [.int q4, .int q5] (qs_w s6 (qs_TM G)) (some (.int o.1)) (qs_w o.2 (qs_TM G)) := by
      intro q4 q5 s6 o h
      subst ej20
      refine qe_iload_n dX9_isOdds_20 0 rfl rfl ?_
      refine qm_b_elim h (fun a8 s7 hc h => ?_)
      refine qe_callS1 (st := []) kk_X9_isOdds_X9_within (c_X9_within hc) rfl rfl (Nat.le_of_ble_eq_true rfl) dX9_isOdds_21 ?_
      refine qe_if_eq (tgt := 31) dX9_isOdds_24 rfl h (fun _ h => ?_) (fun _ h => ?_)
      · refine qe_sub [] rfl ?_
        exact hj31  _ _ h
      · refine qe_iconst (v := (1 : Int32)) dX9_isOdds_27 rfl ?_
        refine qe_goto (tgt := 32) dX9_isOdds_28 rfl ?_
        have e : ((1 : Int32), s7) = o := Option.some.inj h
        subst e
        exact qe_nret dX9_isOdds_32 rfl rfl
    refine qe_iload_n dX9_isOdds_10 1 rfl rfl ?_
    refine qe_iload_n dX9_isOdds_11 0 rfl rfl ?_
    refine qe_if_ne (tgt := 19) dX9_isOdds_12 rfl h (fun _ h => ?_) (fun _ h => ?_)
    · refine qe_iconst (v := (0 : Int32)) dX9_isOdds_19 rfl ?_
      refine qe_sub [2] rfl ?_
      exact hj20 _ _ _ _ h
    · refine qe_iconst (v := (1 : Int32)) dX9_isOdds_15 rfl ?_
      refine qe_goto (tgt := 20) dX9_isOdds_16 rfl ?_
      refine qe_sub [2] rfl ?_
      exact hj20 _ _ _ _ h

set_option maxRecDepth 20000 in
theorem c_X9_comes_L108 {l : Launch} {G : qe_G} {v1 : Int32} {v2 : Int32} {v5 : Int32} : ∀ (n : Nat) (v6 : Int32) (s0 : qe_S) (o : Int32 × qe_S), g_X9_comes_L108 v1 v2 v5 n v6 s0 = some o → qe_J l G MX9_comes 108 [(0, .ref 0), (1, .int v1), (2, .int v2), (5, .int v5), (6, .int v6)] [] (qs_w s0 (qs_TM G)) (some (.int o.1)) (qs_w o.2 (qs_TM G)) := by
  intro n
  induction n with
  | zero =>
    intro v6 s0 o h
    rw [g_X9_comes_L108] at h
    cases h
  | succ n ih =>
    intro v6 s0 o h
    rw [g_X9_comes_L108] at h
    refine qe_iload dX9_comes_108 4 rfl ?_
    refine qe_iconst (v := (nI 3)) dX9_comes_110 rfl ?_
    refine qe_icmp_ge (tgt := 172) dX9_comes_111 rfl h (fun _ h => ?_) (fun _ h => ?_)
    · refine qe_iload dX9_comes_172 3 rfl ?_
      have e : (v5, s0) = o := Option.some.inj h
      subst e
      exact qe_iret dX9_comes_174 rfl
    · refine qm_j_elim h (fun j139 ej139 h => ?_)
      have hj139 : ∀ (q15 : Int32) (q16 : Int32) (s17 : qe_S) (o : Int32 × qe_S), j139 q15 q16 s17 = some o → qe_J l G MX9_comes 139 [(0, .ref 0), (1, .int v1), (2, .int v2), (5, .int v5), (6, .int v6)] [.int q15, .int q16, .ref 1] (qs_w s17 (qs_TM G)) (some (.int o.1)) (qs_w o.2 (qs_TM G)) := by
        intro q15 q16 s17 o h
        subst ej139
        refine qm_j_elim h (fun j165 ej165 h => ?_)
        have hj165 : ∀ (q18 : Int32) (q19 : Int32) (s20 : qe_S) (o : Int32 × qe_S), j165 q18 q19 s20 = some o → qe_J l G MX9_comes 165 [(0, .ref 0), (1, .int v1), (2, .int v2), (5, .int v5), (6, .int v6)] [.int q18, .int q19, .ref 1] (qs_w s20 (qs_TM G)) (some (.int o.1)) (qs_w o.2 (qs_TM G)) := by
          intro q18 q19 s20 o h
          subst ej165
          refine qs_ist tM_1 dX9_comes_165 h (fun s21 h => ?_)
          refine qe_iincl (lv' := fun a22 => [(6, .int a22), (0, .ref 0), (1, .int v1), (2, .int v2), (5, .int v5)]) dX9_comes_166 4 rfl rfl (fun _ => rfl) (Nat.le_of_ble_eq_true rfl) h (fun a22 h => ?_)
          refine qe_goto (tgt := 108) dX9_comes_169 rfl ?_
          refine qe_sub [1, 2, 3, 4, 0] rfl ?_
          exact ih _ _ _ h
        refine qs_ist tM_1 dX9_comes_139 h (fun s23 h => ?_)
        refine qe_aload_n dX9_comes_140 0 rfl rfl trivial ?_
        refine qs_getR (j := 0) tM_0 rfl fl_RX9_7 dX9_comes_141 ?_
        refine qe_bipush (v := (nI 86)) dX9_comes_144 rfl ?_
        refine qe_bipush (v := (nI 12)) dX9_comes_146 rfl ?_
        refine qe_iload dX9_comes_148 4 rfl ?_
        refine qe_imul dX9_comes_150 ?_
        refine qe_iadd dX9_comes_151 ?_
        refine qe_iload dX9_comes_152 3 rfl ?_
        refine qe_iadd dX9_comes_154 ?_
        refine qe_iload dX9_comes_155 4 rfl ?_
        refine qe_if_ne (tgt := 164) dX9_comes_157 rfl h (fun _ h => ?_) (fun _ h => ?_)
        · refine qe_iconst (v := (1 : Int32)) dX9_comes_164 rfl ?_
          exact hj165 _ _ _ _ h
        · refine qe_iload_n dX9_comes_160 2 rfl rfl ?_
          refine qe_goto (tgt := 165) dX9_comes_161 rfl ?_
          exact hj165 _ _ _ _ h
      refine qe_aload_n dX9_comes_114 0 rfl rfl trivial ?_
      refine qs_getR (j := 0) tM_0 rfl fl_RX9_7 dX9_comes_115 ?_
      refine qe_bipush (v := (nI 50)) dX9_comes_118 rfl ?_
      refine qe_bipush (v := (nI 12)) dX9_comes_120 rfl ?_
      refine qe_iload dX9_comes_122 4 rfl ?_
      refine qe_imul dX9_comes_124 ?_
      refine qe_iadd dX9_comes_125 ?_
      refine qe_iload dX9_comes_126 3 rfl ?_
      refine qe_iadd dX9_comes_128 ?_
      refine qe_iload dX9_comes_129 4 rfl ?_
      refine qe_if_ne (tgt := 138) dX9_comes_131 rfl h (fun _ h => ?_) (fun _ h => ?_)
      · refine qe_iconst (v := (1 : Int32)) dX9_comes_138 rfl ?_
        exact hj139 _ _ _ _ h
      · refine qe_iload_n dX9_comes_134 1 rfl rfl ?_
        refine qe_goto (tgt := 139) dX9_comes_135 rfl ?_
        exact hj139 _ _ _ _ h

set_option maxRecDepth 20000 in
theorem c_X9_comes {l : Launch} {G : qe_G} {v1 : Int32} {v2 : Int32} {v3 : Int32} {v4 : Int32} {s0 : qe_S} {o : Int32 × qe_S} (h : g_X9_comes v1 v2 v3 v4 s0 = some o) : qe_C l G MX9_comes [.ref 0, .int v1, .int v2, .int v3, .int v4] (qs_w s0 (qs_TM G)) (some (.int o.1)) (qs_w o.2 (qs_TM G)) := by
  refine qe_C.of (by decide +kernel) (Nat.le_of_ble_eq_true rfl) ?_
  show qe_J l G MX9_comes 0 [(0, .ref 0), (1, .int v1), (2, .int v2), (3, .int v3), (4, .int v4)] [] (qs_w s0 (qs_TM G)) (some (.int o.1)) (qs_w o.2 (qs_TM G))
  unfold g_X9_comes at h
  refine qe_iconst (v := (0 : Int32)) dX9_comes_0 rfl ?_
  refine qe_iload_n dX9_comes_1 1 rfl rfl ?_
  refine qe_iload_n dX9_comes_2 2 rfl rfl ?_
  refine qm_b_elim h (fun a2 s1 hc h => ?_)
  refine qe_callS1 (st := []) kk_X9_comes_X9_isOdds (c_X9_isOdds hc) rfl rfl (Nat.le_of_ble_eq_true rfl) dX9_comes_3 ?_
  refine qe_if_eq (tgt := 30) dX9_comes_6 rfl h (fun _ h => ?_) (fun _ h => ?_)
  · refine qe_bipush (v := (-2 : Int32)) dX9_comes_30 rfl ?_
    have e : ((-2 : Int32), s1) = o := Option.some.inj h
    subst e
    exact qe_iret dX9_comes_32 rfl
  · refine qe_iload_n dX9_comes_9 3 rfl rfl ?_
    refine qe_iconst (v := (0 : Int32)) dX9_comes_10 rfl ?_
    refine qe_iconst (v := (nI 3)) dX9_comes_11 rfl ?_
    refine qm_b_elim h (fun a4 s3 hc h => ?_)
    refine qe_callS1 (st := []) kk_X9_comes_X9_within (c_X9_within hc) rfl rfl (Nat.le_of_ble_eq_true rfl) dX9_comes_12 ?_
    refine qe_if_eq (tgt := 30) dX9_comes_15 rfl h (fun _ h => ?_) (fun _ h => ?_)
    · refine qe_bipush (v := (-2 : Int32)) dX9_comes_30 rfl ?_
      have e : ((-2 : Int32), s3) = o := Option.some.inj h
      subst e
      exact qe_iret dX9_comes_32 rfl
    · refine qe_iload dX9_comes_18 4 rfl ?_
      refine qe_bipush (v := (-99 : Int32)) dX9_comes_20 rfl ?_
      refine qe_bipush (v := (nI 99)) dX9_comes_22 rfl ?_
      refine qm_b_elim h (fun a6 s5 hc h => ?_)
      refine qe_callS1 (st := []) kk_X9_comes_X9_within (c_X9_within hc) rfl rfl (Nat.le_of_ble_eq_true rfl) dX9_comes_24 ?_
      refine qe_if_ne (tgt := 33) dX9_comes_27 rfl h (fun _ h => ?_) (fun _ h => ?_)
      · refine qe_aload_n dX9_comes_33 0 rfl rfl trivial ?_
        refine qs_getR (j := 0) tM_0 rfl fl_RX9_7 dX9_comes_34 ?_
        refine qe_iconst (v := (0 : Int32)) dX9_comes_37 rfl ?_
        refine qs_ild tM_1 dX9_comes_38 h (fun a7 h => ?_)
        refine qe_bipush (v := (nI 12)) dX9_comes_39 rfl ?_
        refine qe_icmp_ne (tgt := 47) dX9_comes_41 rfl h (fun _ h => ?_) (fun _ h => ?_)
        · refine qe_aload_n dX9_comes_47 0 rfl rfl trivial ?_
          refine qs_getR (j := 0) tM_0 rfl fl_RX9_7 dX9_comes_48 ?_
          refine qe_iconst (v := (0 : Int32)) dX9_comes_51 rfl ?_
          refine qe_dup2 dX9_comes_52 rfl rfl ?_
          refine qs_ild tM_1 dX9_comes_53 h (fun a8 h => ?_)
          refine qe_dup_x2 dX9_comes_54 rfl rfl rfl ?_
          refine qe_iconst (v := (1 : Int32)) dX9_comes_55 rfl ?_
          refine qe_iadd dX9_comes_56 ?_
          refine qs_ist tM_1 dX9_comes_57 h (fun s9 h => ?_)
          refine qe_istore (lv' := [(5, .int a8), (0, .ref 0), (1, .int v1), (2, .int v2), (3, .int v3), (4, .int v4)]) dX9_comes_58 rfl (Nat.le_of_ble_eq_true rfl) ?_
          refine qe_aload_n dX9_comes_60 1 rfl rfl trivial ?_
          refine qs_getR (j := 0) tM_0 rfl fl_RX9_7 dX9_comes_61 ?_
          refine qe_iconst (v := (nI 2)) dX9_comes_64 rfl ?_
          refine qe_iload dX9_comes_65 0 rfl ?_
          refine qe_iadd dX9_comes_67 ?_
          refine qe_iload dX9_comes_68 0 rfl ?_
          refine qs_ist tM_1 dX9_comes_70 h (fun s10 h => ?_)
          refine qe_aload_n dX9_comes_71 1 rfl rfl trivial ?_
          refine qs_getR (j := 0) tM_0 rfl fl_RX9_7 dX9_comes_72 ?_
          refine qe_bipush (v := (nI 14)) dX9_comes_75 rfl ?_
          refine qe_iload dX9_comes_77 0 rfl ?_
          refine qe_iadd dX9_comes_79 ?_
          refine qe_iload_n dX9_comes_80 4 rfl rfl ?_
          refine qs_ist tM_1 dX9_comes_81 h (fun s11 h => ?_)
          refine qe_aload_n dX9_comes_82 1 rfl rfl trivial ?_
          refine qs_getR (j := 0) tM_0 rfl fl_RX9_7 dX9_comes_83 ?_
          refine qe_bipush (v := (nI 26)) dX9_comes_86 rfl ?_
          refine qe_iload dX9_comes_88 0 rfl ?_
          refine qe_iadd dX9_comes_90 ?_
          refine qe_iload dX9_comes_91 5 rfl ?_
          refine qs_ist tM_1 dX9_comes_93 h (fun s12 h => ?_)
          refine qe_aload_n dX9_comes_94 1 rfl rfl trivial ?_
          refine qs_getR (j := 0) tM_0 rfl fl_RX9_7 dX9_comes_95 ?_
          refine qe_bipush (v := (nI 38)) dX9_comes_98 rfl ?_
          refine qe_iload dX9_comes_100 0 rfl ?_
          refine qe_iadd dX9_comes_102 ?_
          refine qe_iconst (v := (0 : Int32)) dX9_comes_103 rfl ?_
          refine qs_ist tM_1 dX9_comes_104 h (fun s13 h => ?_)
          refine qe_iconst (v := (0 : Int32)) dX9_comes_105 rfl ?_
          refine qe_let_i h (fun a14 h => ?_)
          refine qe_istore (lv' := [(6, .int a14), (5, .int a8), (0, .ref 0), (1, .int v1), (2, .int v2), (3, .int v3), (4, .int v4)]) dX9_comes_106 rfl (Nat.le_of_ble_eq_true rfl) ?_
          refine qe_sub [2, 3, 4, 1, 0] rfl ?_
          refine c_X9_comes_L108 _ _ _ _ h
        · refine qe_bipush (v := (-4 : Int32)) dX9_comes_44 rfl ?_
          have e : ((-4 : Int32), s5) = o := Option.some.inj h
          subst e
          exact qe_iret dX9_comes_46 rfl
      · refine qe_bipush (v := (-2 : Int32)) dX9_comes_30 rfl ?_
        have e : ((-2 : Int32), s5) = o := Option.some.inj h
        subst e
        exact qe_iret dX9_comes_32 rfl

