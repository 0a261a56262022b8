/-! STRING CONSTANTS: the JDK's own methods over them -/
theorem kk_J0_length_8abf5_J0_coder_7d493 : qe_kV MJ0_length_8abf5 MJ0_coder_7d493 335 0 := ⟨⟨qe_in 756 (by decide +kernel) (by decide +kernel), by decide, by decide, by decide +kernel, by decide, by decide, qe_in 76 (by decide +kernel) (by decide +kernel)⟩, qe_in 753 (by decide +kernel) (by decide +kernel), qe_in 754 (by decide +kernel) (by decide +kernel), qe_in 755 (by decide +kernel) (by decide +kernel)⟩
theorem kk_J0_charAt_5068e_J0_isLatin1_aae02 : qe_kV MJ0_charAt_5068e MJ0_isLatin1_aae02 492 0 := ⟨⟨qe_in 766 (by decide +kernel) (by decide +kernel), by decide, by decide, by decide +kernel, by decide, by decide, qe_in 76 (by decide +kernel) (by decide +kernel)⟩, qe_in 763 (by decide +kernel) (by decide +kernel), qe_in 764 (by decide +kernel) (by decide +kernel), qe_in 765 (by decide +kernel) (by decide +kernel)⟩
theorem kk_J0_charAt_5068e_J1_charAt_3b067 : qe_kS MJ0_charAt_5068e MJ1_charAt_3b067 495 2 := ⟨⟨qe_in 769 (by decide +kernel) (by decide +kernel), by decide, by decide, by decide +kernel, by decide, by decide, qe_in 77 (by decide +kernel) (by decide +kernel)⟩, qe_in 767 (by decide +kernel) (by decide +kernel), qe_in 768 (by decide +kernel) (by decide +kernel)⟩
theorem kk_J1_charAt_3b067_J0_checkIndex_df160 : qe_kS MJ1_charAt_3b067 MJ0_checkIndex_df160 9 2 := ⟨⟨qe_in 772 (by decide +kernel) (by decide +kernel), by decide, by decide, by decide +kernel, by decide, by decide, qe_in 76 (by decide +kernel) (by decide +kernel)⟩, qe_in 770 (by decide +kernel) (by decide +kernel), qe_in 771 (by decide +kernel) (by decide +kernel)⟩
theorem kk_J0_checkIndex_df160_J3_checkIndex_8e157 : qe_kS MJ0_checkIndex_df160 MJ3_checkIndex_8e157 1059 3 := ⟨⟨qe_in 777 (by decide +kernel) (by decide +kernel), by decide, by decide, by decide +kernel, by decide, by decide, qe_in 78 (by decide +kernel) (by decide +kernel)⟩, qe_in 775 (by decide +kernel) (by decide +kernel), qe_in 776 (by decide +kernel) (by decide +kernel)⟩
theorem kw_value : Cond.fieldLink RJ0 9 "java/lang/String" "value" "[B" ∈ qe_bg := qe_in 1315 (by decide +kernel) (by decide +kernel)
theorem kw_coder : Cond.fieldLink RJ0 15 "java/lang/String" "coder" "B" ∈ qe_bg := qe_in 1316 (by decide +kernel) (by decide +kernel)
theorem kw_compact : Cond.fieldLink RJ0 38 "java/lang/String" "COMPACT_STRINGS" "Z" ∈ qe_bg := qe_in 757 (by decide +kernel) (by decide +kernel)
theorem kw_format : Cond.fieldLink RJ0 1053 "jdk/internal/util/Preconditions" "SIOOBE_FORMATTER" "Ljava/util/function/BiFunction;" ∈ qe_bg := qe_in 773 (by decide +kernel) (by decide +kernel)
def qt_n (n : UInt32) : UInt32 := UInt32.ofNat (1000 + n.toNat)
theorem qt_n_val {n : UInt32} (hi : n.toNat < 6) : (qt_n n).toNat = 1000 + n.toNat := by
  rw [qt_n, UInt32.toNat_ofNat']
  omega
section QV
variable {l : Launch} {G : qe_G} {X : List va_E} {n : UInt32}
theorem qt_c_coder (hi : n.toNat < 6) : qe_C l G MJ0_coder_7d493 [.float n] X (some (.int 0)) X := by
  refine qe_C.of (by decide +kernel) (Nat.le_of_ble_eq_true rfl) ?_
  show qe_J l G MJ0_coder_7d493 0 [(0, .float n)] [] X (some (.int 0)) X
  refine qt_compact kw_compact dJ0_coder_7d493_0 ?_
  refine qe_if_eq (tgt := 13) (P := some ()) (Q := some ()) (o := ()) dJ0_coder_7d493_3 rfl (by split <;> rfl) (fun z _ => absurd z (by decide)) (fun _ _ => ?_)
  refine qe_aload_n dJ0_coder_7d493_6 0 rfl rfl trivial ?_
  refine qt_coder rfl hi kw_coder dJ0_coder_7d493_7 ?_
  refine qe_goto (tgt := 14) dJ0_coder_7d493_10 rfl ?_
  exact qe_nret dJ0_coder_7d493_14 rfl rfl
theorem qt_c_isLatin1 (hi : n.toNat < 6) : qe_C l G MJ0_isLatin1_aae02 [.float n] X (some (.int 1)) X := by
  refine qe_C.of (by decide +kernel) (Nat.le_of_ble_eq_true rfl) ?_
  show qe_J l G MJ0_isLatin1_aae02 0 [(0, .float n)] [] X (some (.int 1)) X
  refine qt_compact kw_compact dJ0_isLatin1_aae02_0 ?_
  refine qe_if_eq (tgt := 17) (P := some ()) (Q := some ()) (o := ()) dJ0_isLatin1_aae02_3 rfl (by split <;> rfl) (fun z _ => absurd z (by decide)) (fun _ _ => ?_)
  refine qe_aload_n dJ0_isLatin1_aae02_6 0 rfl rfl trivial ?_
  refine qt_coder rfl hi kw_coder dJ0_isLatin1_aae02_7 ?_
  refine qe_if_ne (tgt := 17) (P := some ()) (Q := some ()) (o := ()) dJ0_isLatin1_aae02_10 rfl (by split <;> rfl) (fun z _ => absurd rfl z) (fun _ _ => ?_)
  refine qe_iconst (v := 1) dJ0_isLatin1_aae02_13 rfl ?_
  refine qe_goto (tgt := 18) dJ0_isLatin1_aae02_14 rfl ?_
  exact qe_nret dJ0_isLatin1_aae02_18 rfl rfl
theorem c_J0_isEmpty_aae02 {T : List va_E} {s0 : qe_S} {o : Int32 × qe_S} (hi : n.toNat < 6) (h : qt_isEmpty n.toNat s0 = some o) : qe_C l G MJ0_isEmpty_aae02 [.float n] (qs_w s0 T) (some (.int o.1)) (qs_w o.2 T) := by
  have e : (if Int32.ofNat (qe_len.getD n.toNat 0) = 0 then (1 : Int32) else 0, s0) = o := Option.some.inj h
  subst e
  refine qe_C.of (by decide +kernel) (Nat.le_of_ble_eq_true rfl) ?_
  show qe_J l G MJ0_isEmpty_aae02 0 [(0, .float n)] [] (qs_w s0 T) (some (.int (if Int32.ofNat (qe_len.getD n.toNat 0) = 0 then (1 : Int32) else 0))) (qs_w s0 T)
  refine qe_aload_n dJ0_isEmpty_aae02_0 0 rfl rfl trivial ?_
  refine qt_value (n' := qt_n n) rfl (qt_n_val hi) hi kw_value dJ0_isEmpty_aae02_1 ?_
  refine qt_alen (qt_n_val hi) hi rfl dJ0_isEmpty_aae02_4 ?_
  refine qe_if_ne (tgt := 12) (P := some ()) (Q := some ()) (o := ()) dJ0_isEmpty_aae02_5 rfl (by split <;> rfl) (fun z _ => ?_) (fun z _ => ?_)
  · rw [if_neg z]
    refine qe_iconst (v := 0) dJ0_isEmpty_aae02_12 rfl ?_
    exact qe_nret dJ0_isEmpty_aae02_13 rfl rfl
  · rw [if_pos z]
    refine qe_iconst (v := 1) dJ0_isEmpty_aae02_8 rfl ?_
    refine qe_goto (tgt := 13) dJ0_isEmpty_aae02_9 rfl ?_
    exact qe_nret dJ0_isEmpty_aae02_13 rfl rfl
theorem c_J0_length_8abf5 {T : List va_E} {s0 : qe_S} {o : Int32 × qe_S} (hi : n.toNat < 6) (h : qt_length n.toNat s0 = some o) : qe_C l G MJ0_length_8abf5 [.float n] (qs_w s0 T) (some (.int o.1)) (qs_w o.2 T) := by
  have e : (Int32.ofNat (qe_len.getD n.toNat 0), s0) = o := Option.some.inj h
  subst e
  refine qe_C.of (by decide +kernel) (Nat.le_of_ble_eq_true rfl) ?_
  have e2 : ∀ x : Int32, x >>> ((0 : Int32) &&& 31) = x := sb_shr0
  have e3 : Int32.ofNat (qe_len.getD n.toNat 0) = Int32.ofNat (qe_len.getD n.toNat 0) >>> ((0 : Int32) &&& 31) := (e2 _).symm
  show qe_J l G MJ0_length_8abf5 0 [(0, .float n)] [] (qs_w s0 T) (some (.int (Int32.ofNat (qe_len.getD n.toNat 0)))) (qs_w s0 T)
  refine qe_aload_n dJ0_length_8abf5_0 0 rfl rfl trivial ?_
  refine qt_value (n' := qt_n n) rfl (qt_n_val hi) hi kw_value dJ0_length_8abf5_1 ?_
  refine qt_alen (qt_n_val hi) hi rfl dJ0_length_8abf5_4 ?_
  refine qe_aload_n dJ0_length_8abf5_5 0 rfl rfl trivial ?_
  refine qt_callV1 (st := [.int (Int32.ofNat (qe_len.getD n.toNat 0))]) rfl hi rfl kk_J0_length_8abf5_J0_coder_7d493 (qt_c_coder hi) rfl rfl (Nat.le_of_ble_eq_true rfl) dJ0_length_8abf5_6 ?_
  refine qe_ishr dJ0_length_8abf5_9 ?_
  rw [e2]
  exact qe_iret dJ0_length_8abf5_10 rfl
theorem qt_c_pcheck {v0 v1 : Int32} {v : Value} (h : ¬ v0 < 0) (h1 : v0 < v1) : qe_C l G MJ3_checkIndex_8e157 [.int v0, .int v1, .float n] X (some (.int v0)) X := by
  refine qe_C.of (by decide +kernel) (Nat.le_of_ble_eq_true rfl) ?_
  show qe_J l G MJ3_checkIndex_8e157 0 [(0, .int v0), (1, .int v1), (2, .float n)] [] X (some (.int v0)) X
  refine qe_iload_n dJ3_checkIndex_8e157_0 0 rfl rfl ?_
  refine qe_if_lt (tgt := 9) (P := some ()) (Q := some ()) (o := ()) dJ3_checkIndex_8e157_1 rfl (by split <;> rfl) (fun z _ => absurd z h) (fun _ _ => ?_)
  refine qe_iload_n dJ3_checkIndex_8e157_4 0 rfl rfl ?_
  refine qe_iload_n dJ3_checkIndex_8e157_5 1 rfl rfl ?_
  refine qe_icmp_lt (tgt := 16) (P := some ()) (Q := some ()) (o := ()) dJ3_checkIndex_8e157_6 rfl (by split <;> rfl) (fun _ _ => ?_) (fun z _ => absurd h1 z)
  refine qe_iload_n dJ3_checkIndex_8e157_16 0 rfl rfl ?_
  exact qe_iret dJ3_checkIndex_8e157_17 rfl
theorem qt_c_check {v0 v1 : Int32} (h : ¬ v0 < 0) (h1 : v0 < v1) : qe_C l G MJ0_checkIndex_df160 [.int v0, .int v1] X none X := by
  refine qe_C.of (by decide +kernel) (Nat.le_of_ble_eq_true rfl) ?_
  show qe_J l G MJ0_checkIndex_df160 0 [(0, .int v0), (1, .int v1)] [] X none X
  refine qe_iload_n dJ0_checkIndex_df160_0 0 rfl rfl ?_
  refine qe_iload_n dJ0_checkIndex_df160_1 1 rfl rfl ?_
  refine qt_format (n := 2000) rfl kw_format dJ0_checkIndex_df160_2 ?_
  refine qe_callS1 (st := []) kk_J0_checkIndex_df160_J3_checkIndex_8e157 (qt_c_pcheck (v := .null) h h1) rfl rfl (Nat.le_of_ble_eq_true rfl) dJ0_checkIndex_df160_5 ?_
  refine qe_pop dJ0_checkIndex_df160_8 rfl ?_
  exact qe_vret dJ0_checkIndex_df160_9 rfl
theorem qt_len_lt (i : Nat) (j : Int32) (h : ¬ (j < 0 ∨ qe_len.getD i 0 ≤ j.toNatClampNeg)) : ¬ j < 0 ∧ j < Int32.ofNat (qe_len.getD i 0) := by
  have h0 : ¬ j < 0 := fun q => h (Or.inl q)
  have h1 : j.toNatClampNeg < qe_len.getD i 0 := Nat.not_le.mp fun q => h (Or.inr q)
  refine ⟨h0, ?_⟩
  obtain ⟨k, hk, rfl⟩ := nI_of h0
  rw [nI_clamp hk] at h1
  have hb : qe_len.getD i 0 < 2 ^ 31 := by
    have : ∀ i, qe_len.getD i 0 ≤ 7 := by
      intro i
      match i with
      | 0 => decide
      | 1 => decide
      | 2 => decide
      | 3 => decide
      | 4 => decide
      | 5 => decide
      | i + 6 => simp [qe_len]
    have := this i
    omega
  exact nI_lt h1 hb
theorem qt_c_l1char {T : List va_E} {s0 : qe_S} {n' : UInt32} {i : Nat} {j : Int32} (hn : n'.toNat = 1000 + i) (hi : i < 6) (hj : ¬ (j < 0 ∨ qe_len.getD i 0 ≤ j.toNatClampNeg)) : qe_C l G MJ1_charAt_3b067 [.float n', .int j] (qs_w s0 T) (some (.int (qt_ch i j))) (qs_w s0 T) := by
  obtain ⟨h0, h1⟩ := qt_len_lt i j hj
  refine qe_C.of (by decide +kernel) (Nat.le_of_ble_eq_true rfl) ?_
  show qe_J l G MJ1_charAt_3b067 0 [(0, .float n'), (1, .int j)] [] (qs_w s0 T) (some (.int (qt_ch i j))) (qs_w s0 T)
  refine qe_iload_n dJ1_charAt_3b067_0 1 rfl rfl ?_
  refine qe_aload_n dJ1_charAt_3b067_1 0 rfl rfl trivial ?_
  refine qt_alen hn hi rfl dJ1_charAt_3b067_2 ?_
  refine qe_callS0 (st := []) kk_J1_charAt_3b067_J0_checkIndex_df160 (qt_c_check h0 h1) rfl rfl (Nat.le_of_ble_eq_true rfl) dJ1_charAt_3b067_3 ?_
  refine qe_aload_n dJ1_charAt_3b067_6 0 rfl rfl trivial ?_
  refine qe_iload_n dJ1_charAt_3b067_7 1 rfl rfl ?_
  refine qt_bld (P := some ()) (o := ()) hn hi dJ1_charAt_3b067_8 (by unfold qm_g; rw [if_neg hj]) (fun _ => ?_)
  refine qe_sipush (v := 255) dJ1_charAt_3b067_9 rfl ?_
  refine qe_iand dJ1_charAt_3b067_12 ?_
  refine qe_i2c dJ1_charAt_3b067_13 ?_
  rw [sc_c2]
  exact qe_nret dJ1_charAt_3b067_14 rfl (sc_nar _)
theorem c_J0_charAt_5068e {T : List va_E} {s0 : qe_S} {j : Int32} {o : Int32 × qe_S} (hi : n.toNat < 6) (h : qt_charAt n.toNat j s0 = some o) : qe_C l G MJ0_charAt_5068e [.float n, .int j] (qs_w s0 T) (some (.int o.1)) (qs_w o.2 T) := by
  unfold qt_charAt qm_g at h
  split at h
  · cases h
  · rename_i hj
    have e : (qt_ch n.toNat j, s0) = o := Option.some.inj h
    subst e
    refine qe_C.of (by decide +kernel) (Nat.le_of_ble_eq_true rfl) ?_
    show qe_J l G MJ0_charAt_5068e 0 [(0, .float n), (1, .int j)] [] (qs_w s0 T) (some (.int (qt_ch n.toNat j))) (qs_w s0 T)
    refine qe_aload_n dJ0_charAt_5068e_0 0 rfl rfl trivial ?_
    refine qt_callV1 (st := []) rfl hi rfl kk_J0_charAt_5068e_J0_isLatin1_aae02 (qt_c_isLatin1 hi) rfl rfl (Nat.le_of_ble_eq_true rfl) dJ0_charAt_5068e_1 ?_
    refine qe_if_eq (tgt := 16) (P := some ()) (Q := some ()) (o := ()) dJ0_charAt_5068e_4 rfl (by split <;> rfl) (fun z _ => absurd z (by decide)) (fun _ _ => ?_)
    refine qe_aload_n dJ0_charAt_5068e_7 0 rfl rfl trivial ?_
    refine qt_value (n' := qt_n n) rfl (qt_n_val hi) hi kw_value dJ0_charAt_5068e_8 ?_
    refine qe_iload_n dJ0_charAt_5068e_11 1 rfl rfl ?_
    refine qe_callS1 (st := []) kk_J0_charAt_5068e_J1_charAt_3b067 (qt_c_l1char (qt_n_val hi) hi hj) rfl rfl (Nat.le_of_ble_eq_true rfl) dJ0_charAt_5068e_12 ?_
    exact qe_nret dJ0_charAt_5068e_15 rfl (sc_nar _)
end QV
