/-! THE START: what the Statement gives, the two objects made, then the loop -/
theorem il_RX0 : ∀ w ∈ u_ws RX0 TX0 3, w ∈ lw_tbl := fun w hw => (List.mem_filter.mp (uw_RX0 w hw)).1
theorem il_RX1 : ∀ w ∈ u_ws RX1 TX1 4, w ∈ lw_tbl := fun w hw => (List.mem_filter.mp (uw_RX1 w hw)).1
theorem il_RX2 : ∀ w ∈ u_ws RX2 TX2 2, w ∈ lw_tbl := fun w hw => (List.mem_filter.mp (uw_RX2 w hw)).1
theorem il_RX3 : ∀ w ∈ u_ws RX3 TX3 9, w ∈ lw_tbl := fun w hw => (List.mem_filter.mp (uw_RX3 w hw)).1
theorem il_RX4 : ∀ w ∈ u_ws RX4 TX4 2, w ∈ lw_tbl := fun w hw => (List.mem_filter.mp (uw_RX4 w hw)).1
theorem il_RX5 : ∀ w ∈ u_ws RX5 TX5 4, w ∈ lw_tbl := fun w hw => (List.mem_filter.mp (uw_RX5 w hw)).1
theorem il_RX6 : ∀ w ∈ u_ws RX6 TX6 6, w ∈ lw_tbl := fun w hw => (List.mem_filter.mp (uw_RX6 w hw)).1
theorem il_RX7 : ∀ w ∈ u_ws RX7 TX7 3, w ∈ lw_tbl := fun w hw => (List.mem_filter.mp (uw_RX7 w hw)).1
theorem il_RX8 : ∀ w ∈ u_ws RX8 TX8 14, w ∈ lw_tbl := fun w hw => (List.mem_filter.mp (uw_RX8 w hw)).1
theorem il_RX9 : ∀ w ∈ u_ws RX9 TX9 29, w ∈ lw_tbl := fun w hw => (List.mem_filter.mp (uw_RX9 w hw)).1
theorem ii_RX0 : Cond.instantiable RX0 3 ∈ lw_tbl := List.mem_of_getElem? (i := 177) (by decide +kernel)
theorem ii_RX1 : Cond.instantiable RX1 4 ∈ lw_tbl := List.mem_of_getElem? (i := 240) (by decide +kernel)
theorem ii_RX2 : Cond.instantiable RX2 2 ∈ lw_tbl := List.mem_of_getElem? (i := 196) (by decide +kernel)
theorem ii_RX3 : Cond.instantiable RX3 9 ∈ lw_tbl := List.mem_of_getElem? (i := 90) (by decide +kernel)
theorem ii_RX4 : Cond.instantiable RX4 2 ∈ lw_tbl := List.mem_of_getElem? (i := 264) (by decide +kernel)
theorem ii_RX5 : Cond.instantiable RX5 4 ∈ lw_tbl := List.mem_of_getElem? (i := 154) (by decide +kernel)
theorem ii_RX6 : Cond.instantiable RX6 6 ∈ lw_tbl := List.mem_of_getElem? (i := 211) (by decide +kernel)
theorem ii_RX7 : Cond.instantiable RX7 3 ∈ lw_tbl := List.mem_of_getElem? (i := 133) (by decide +kernel)
theorem ii_RX8 : Cond.instantiable RX8 14 ∈ lw_tbl := List.mem_of_getElem? (i := 82) (by decide +kernel)
theorem ii_RX9 : Cond.instantiable RX9 29 ∈ lw_tbl := List.mem_of_getElem? (i := 873) (by decide +kernel)
theorem iw_ai : Cond.arrayClass .int ∈ lw_tbl := List.mem_of_getElem? (i := 131) (by decide +kernel)
theorem iw_al : Cond.arrayClass .long ∈ lw_tbl := List.mem_of_getElem? (i := 152) (by decide +kernel)
theorem iw_ao : Cond.arrayOver (.object RX4) ∈ lw_tbl := List.mem_of_getElem? (i := 263) (by decide +kernel)
theorem iw_cs : Cond.laysStatic "java/lang/String" "COMPACT_STRINGS" "Z" ∈ lw_tbl := List.mem_of_getElem? (i := 758) (by decide +kernel)
theorem iw_si : Cond.laysStatic "jdk/internal/util/Preconditions" "SIOOBE_FORMATTER" "Ljava/util/function/BiFunction;" ∈ lw_tbl := List.mem_of_getElem? (i := 774) (by decide +kernel)
theorem iw_in1 : Cond.initialized "java/lang/String" ∈ lw_tbl := List.mem_of_getElem? (i := 76) (by decide +kernel)
theorem iw_in2 : Cond.initialized "jdk/internal/util/Preconditions" ∈ lw_tbl := List.mem_of_getElem? (i := 78) (by decide +kernel)
theorem iw_nl : ∀ q ∈ qe_nl, Cond.methodLinkNest q.1 q.2.1 q.2.2.1 q.2.2.2 ∈ lw_tbl := by decide +kernel
theorem iw_st : ∀ q ∈ qe_st, Cond.stringRef RX6 q.1 q.2.1 ∈ lw_tbl := by decide +kernel
def ql_ix : List Nat := [60, 62, 64, 66, 68, 70]
def ql_tm (i : Nat) : Term := .string RX6 (ql_ix.getD i 0)
abbrev ql_con : List Cond := flatC (Jvm.Cond.and given_1 narrow_1)
theorem ql_f1 : ∀ i, i < 6 → Cond.exactly (ql_tm i) "java/lang/String" ∈ ql_con := by decide +kernel
theorem ql_f2 : ∀ i, i < 6 → Cond.eq (.field (ql_tm i) "java/lang/String" "coder" "B") (.int 0) ∈ ql_con := by decide +kernel
theorem ql_f3 : ∀ i, i < 6 → Cond.arrayOf (.field (ql_tm i) "java/lang/String" "value" "[B") .byte ∈ ql_con := by decide +kernel
theorem ql_f4 : ∀ i, i < 6 → Cond.eq (.length (.field (ql_tm i) "java/lang/String" "value" "[B")) (.int (Int32.ofNat (qe_len.getD i 0))) ∈ ql_con := by decide +kernel
theorem ql_f5 : ∀ i, i < 6 → ∀ j, j < qe_len.getD i 0 → Cond.eq (.elem (.field (ql_tm i) "java/lang/String" "value" "[B") (.int (Int32.ofNat j))) (.int ((qe_byt.getD i []).getD j 0)) ∈ ql_con := by decide +kernel
theorem ql_f6 : ∀ i, i < 6 → ∀ j, j < 6 → i ≠ j → Cond.not (Cond.eq (ql_tm i) (ql_tm j)) ∈ ql_con ∨ Cond.not (Cond.eq (ql_tm j) (ql_tm i)) ∈ ql_con := by decide +kernel
theorem ql_f7 : Cond.eq (.static "java/lang/String" "COMPACT_STRINGS" "Z") (.int 1) ∈ ql_con := by decide +kernel
theorem ql_f8 : Cond.isRef (.static "jdk/internal/util/Preconditions" "SIOOBE_FORMATTER" "Ljava/util/function/BiFunction;") ∈ ql_con := by decide +kernel
set_option maxHeartbeats 4000000 in
theorem ql_G {s : State} {b : Nat} (hts : ∀ w ∈ lw_tbl, w.before #[Value.ref b] s = true) (hgv : (Jvm.Cond.and given_1 narrow_1).before #[Value.ref b] s = true) : ∃ G : qe_G, qe_K G s ∧ qe_Z G (ql_A s) s s.heap ∧ qc_Nw s := by
  have hF := flat_of_before _ hgv
  have hA : ∀ a : Nat, a < s.heap.size → ¬ ql_A s a := fun a h => Nat.not_le.mpr h
  obtain ⟨c0, i0, k0⟩ := u_known (C := RX0) (T := TX0) (N := 3) (n := 3) hts il_RX0 (hts _ ii_RX0)
  obtain ⟨c1, i1, k1⟩ := u_known (C := RX1) (T := TX1) (N := 4) (n := 4) hts il_RX1 (hts _ ii_RX1)
  obtain ⟨c2, i2, k2⟩ := u_known (C := RX2) (T := TX2) (N := 2) (n := 2) hts il_RX2 (hts _ ii_RX2)
  obtain ⟨c3, i3, k3⟩ := u_known (C := RX3) (T := TX3) (N := 9) (n := 9) hts il_RX3 (hts _ ii_RX3)
  obtain ⟨c4, i4, k4⟩ := u_known (C := RX4) (T := TX4) (N := 2) (n := 2) hts il_RX4 (hts _ ii_RX4)
  obtain ⟨c5, i5, k5⟩ := u_known (C := RX5) (T := TX5) (N := 4) (n := 4) hts il_RX5 (hts _ ii_RX5)
  obtain ⟨c6, i6, k6⟩ := u_known (C := RX6) (T := TX6) (N := 6) (n := 6) hts il_RX6 (hts _ ii_RX6)
  obtain ⟨c7, i7, k7⟩ := u_known (C := RX7) (T := TX7) (N := 3) (n := 3) hts il_RX7 (hts _ ii_RX7)
  obtain ⟨c8, i8, k8⟩ := u_known (C := RX8) (T := TX8) (N := 14) (n := 14) hts il_RX8 (hts _ ii_RX8)
  obtain ⟨c9, i9, k9⟩ := u_known (C := RX9) (T := TX9) (N := 29) (n := 29) hts il_RX9 (hts _ ii_RX9)
  obtain ⟨cI, kI, pI, e1, e2, e3⟩ := Cond.arrayClass_spec (hts _ iw_ai)
  obtain ⟨cL, kL, pL, f1, f2, f3⟩ := Cond.arrayClass_spec (hts _ iw_al)
  obtain ⟨pR, cR, kR, g1, -, g3, g4, g5⟩ := Cond.arrayOver_spec (hts _ iw_ao)
  obtain ⟨adK, adV, hS, hE⟩ := vk_Sof (args := #[Value.ref b]) (s := s) (N := 6) (tm := ql_tm) (len := qe_len) (byt := qe_byt) (A := ql_A s) (by decide) (fun i hi => hF _ (ql_f1 i hi)) (fun i hi => hF _ (ql_f2 i hi)) (fun i hi => hF _ (ql_f3 i hi)) (fun i hi => hF _ (ql_f4 i hi)) (fun i hi j hj => hF _ (ql_f5 i hi j hj)) (fun i j hi hj hij => (ql_f6 i hi j hj hij).imp (hF _) (hF _)) hA
  have hC : va_Z "java/lang/String" "COMPACT_STRINGS" "Z" (.int 1) (ql_A s) s s.heap := va_Zof (hts _ iw_cs) (hts _ iw_in1) (va_eqi (hF _ ql_f7)) hA
  have hq : va_Zq "jdk/internal/util/Preconditions" "SIOOBE_FORMATTER" "Ljava/util/function/BiFunction;" (ql_A s) s s.heap := va_Zqof (hts _ iw_si) (hts _ iw_in2) (hF _ ql_f8) hA
  obtain ⟨sf, hsf⟩ : ∃ sf : Option Nat, va_Z "jdk/internal/util/Preconditions" "SIOOBE_FORMATTER" "Ljava/util/function/BiFunction;" (va_rf sf) (ql_A s) s s.heap := by
    rcases hq with h | ⟨t, h⟩
    · exact ⟨none, h⟩
    · exact ⟨some t, h⟩
  refine ⟨(fun k => match k with | 0 => c0 | 1 => c1 | 2 => c2 | 3 => c3 | 4 => c4 | 5 => c5 | 6 => c6 | 7 => c7 | 8 => c8 | _ => c9, fun k => match k with | 0 => i0 | 1 => i1 | 2 => i2 | 3 => i3 | 4 => i4 | 5 => i5 | 6 => i6 | 7 => i7 | 8 => i8 | _ => i9, (cI, cL, cR), adK, adV, sf), ⟨fun k q hq => ?_, fun k q hk => ?_⟩, ⟨fun q hq => va_Nw.of rfl (hts _ (iw_nl q hq)), fun q hq => ?_, hS, hC, hsf⟩, fun q hq => va_Nw.of rfl (hts _ (iw_nl q hq)), va_AO.of (hts _ iw_ao)⟩
  · match k, hq with
    | 0, hq => cases hq; exact k0
    | 1, hq => cases hq; exact k1
    | 2, hq => cases hq; exact k2
    | 3, hq => cases hq; exact k3
    | 4, hq => cases hq; exact k4
    | 5, hq => cases hq; exact k5
    | 6, hq => cases hq; exact k6
    | 7, hq => cases hq; exact k7
    | 8, hq => cases hq; exact k8
    | 9, hq => cases hq; exact k9
    | k + 10, hq => simp [vwCl] at hq
  · match k, hk with
    | 0, hk => cases hk; exact ⟨fun n z => ⟨fun k h => (by cases h), kI, e2, pI, e3⟩, e1⟩
    | 1, hk => cases hk; exact ⟨fun n z => ⟨fun k h => (by cases h), kL, f2, pL, f3⟩, f1⟩
    | 2, hk => cases hk; exact ⟨fun n z => ⟨fun k h => (by cases h), kR, g3, pR, g4⟩, kR, pR, g3, g4, g1, g5⟩
    | k + 3, hk => simp at hk
  · refine vk_R.of (hts _ (iw_st q hq)) ?_
    simp only [qe_st, List.mem_cons, List.not_mem_nil, or_false] at hq
    rcases hq with rfl | rfl | rfl | rfl | rfl | rfl
    · exact hE 0 (by decide)
    · exact hE 1 (by decide)
    · exact hE 2 (by decide)
    · exact hE 3 (by decide)
    · exact hE 4 (by decide)
    · exact hE 5 (by decide)
def ql_kI (M' : qc_M) (idx : Nat) : Prop := Cond.code (qc_y M') (qc_c M') (qc_n M') none ∈ qe_bg ∧ (qc_y M').cls ≠ "java/lang/invoke/MethodHandle" ∧ (qc_y M').cls ≠ "java/lang/invoke/VarHandle" ∧ (parseMethodDescriptor (qc_y M').desc).map (fun d => d.parameters.length) = some 0 ∧ (qc_R M').frames + 1 ≤ room_1.frames ∧ 8 + (qc_n M' + 11) + (qc_R M').locals ≤ room_1.locals ∧ Cond.initialized (qc_y M').cls ∈ qe_bg ∧ Cond.methodLink R_law idx (qc_y M') ∈ qe_bg ∧ (qc_y M').name = "<init>" ∧ Cond.instanceMethod (qc_y M') ∈ qe_bg
theorem ql_ctor {p : Program} {l : Launch} {G : qe_G} {e : Env} {s : State} {m : MethodId} {below : List Frame} {meth : Method} {c : Code} {b L : Nat} {xs : Nat → Int32} {M' : qc_M} {idx h pc cs sl : Nat} {e0 : va_E} {wr : va_W} {Po1 : va_W → Prop} {H : Heap} {locs : List Loc} {ls : Array Slot} {st : List Value} {Qe : State → Prop} (hk : ql_kI M' idx) (hC : qc_C l G M' h [(h, e0)] Po1) (C0 : lw_At p s m meth c b L xs) (hK : qe_K G s) (hNw : qc_Nw s) (hP : va_P (qe_D G) vwCl (wr ++ [(h, e0)]) H) (hD : va_D (ql_A s) (wr ++ [(h, e0)])) (hS : va_S (ql_A s) s.heap H locs) (hls : ls.size = 4) (hcat : (st.map fun v => v.category).sum ≤ 8) (hc : cs + (qc_R M').cells ≤ room_1.cells) (hs : sl + (qc_R M').slots ≤ room_1.slots) (hd : decode code pc = .ok (.invokespecial idx, 3))
    (kk : ∀ (w1 : va_W) (H1 : Heap) (locs1 : List Loc), Po1 w1 → va_P (qe_D G) vwCl wr H1 → va_P (qe_D G) vwCl w1 H1 → va_D (ql_A s) (wr ++ w1) → va_S (ql_A s) s.heap H1 locs1 → W p l e room_1 s m #[Value.ref b] below meth c H1 locs1 (cs + (qc_R M').cells) (sl + (qc_R M').slots) Qe (F0 m (pc + 3) ls st)) : W p l e room_1 s m #[Value.ref b] below meth c H locs cs sl Qe (F0 m pc ls (.ref h :: st)) := by
  obtain ⟨hx, hb, hr, hml, hown, hts, hX0, hbl, hlocks, hgv⟩ := C0
  have hbg := ql_bg hts
  have hPc : va_P (qe_D G) vwCl [(h, e0)] H := by
    intro k q hk
    have hz : k < 1 := (List.getElem?_eq_some_iff.mp hk).1
    rw [show k = 0 by omega] at hk
    cases hk
    exact hP wr.length _ (by simp)
  have hPr : va_P (qe_D G) vwCl wr H := fun k q hk => hP k q (by rw [List.getElem?_append_left (List.getElem?_eq_some_iff.mp hk).1]; exact hk)
  have hDc : va_D (fun _ => True) [(h, e0)] := (ql_D_r hD).weaken (fun _ _ _ _ => trivial)
  have hFc : ∀ q, va_A [(h, e0)] H.size q → ql_A s q := by
    intro q hq
    rcases hq with ⟨k, e, hq⟩ | hq
    · exact (ql_D_r hD).2 k (q, e) hq
    · exact Nat.le_trans hS.1 hq
  have hgw : GoodIn qe_bg (qc_ws M') := by
    intro w hw
    rcases List.mem_cons.mp hw with rfl | hw
    · exact ⟨hk.1, qe_bg_good _ hk.1⟩
    · exact ⟨hw, qe_bg_good _ hw⟩
  have hbl2 : FrameBlind (va_Pc [.ref h] (fun U => U.heap.size = H.size ∧ va_P (qe_D G) vwCl [(h, e0)] U.heap ∧ qe_K G U ∧ va_D (fun _ => True) [(h, e0)] ∧ qc_Nw U)) := by
    intro a U g mk q
    obtain ⟨z0, z1, z2, z3, z4, z5⟩ := q
    exact ⟨z0, z1, z2, va_K.moved (u := U) (U := U.calling g mk a) (Vm.Alike.refl U.vm) z3, z4, fun w hw => va_Nw.same (u := U) rfl rfl (z5.1 w hw), va_AO.moved (u := U) (U := U.calling g mk a) (Vm.Alike.refl U.vm) z5.2⟩
  have hcw := cwI (R := room_1) (s := s) (args := #[Value.ref b]) (own := R_law) (index := idx) (y := qc_y M') (bytes := qc_c M') (maxL := qc_n M') (ws := qc_ws M') (rm := qc_R M') (mc := (qc_R M').cells) (ms := (qc_R M').slots) 0 hbg hgw rfl rfl rfl (hbg _ hk.2.2.2.2.2.2.1) (hbg _ hk.2.2.2.2.2.2.2.1) (hbg _ hk.2.2.2.2.2.2.2.2.2) hk.2.2.2.2.2.2.2.2.1 ⟨hk.2.1, hk.2.2.1, hk.2.2.2.1⟩ ⟨hk.2.2.2.2.1, hk.2.2.2.2.2.1⟩
  have hrun := va_runI (p := p) (l := l) (e := e) (R := room_1) (s := s) (m := m) (args := #[Value.ref b]) (below := below) (meth := meth) (c := c) (cc := code) (H := H) (locs := locs) (cells := cs) (slots := sl) (g := F0 m pc ls (.ref h :: st)) (As := []) (rest := st) (b := h) (Ts := qe_bg) (own := R_law) (nL := 4) ⟨hx, hb, hml, hown, hbg⟩ (hC H.size) hcw ⟨hbl2, fun U hU hW => ⟨rfl, by rw [hU], by rw [hU]; exact hPc, va_K.moved hW.alike hK, hDc, fun w hw => va_Nw.warmM hW (hNw.1 w hw), va_AO.moved hW.alike hNw.2⟩⟩ rfl rfl hls rfl (lv_room hcat) hd ⟨hc, hs⟩
  intro T hT X
  obtain ⟨v, st₀, t, T', Lc, h0, X', hL, e1, e2, ⟨⟨hv, w1, hp, hP1, hD1⟩, hz, hkq⟩, stp⟩ := hrun T hT X
  have hv : v = none := Outcome.returned.inj hv
  subst hv
  rw [h0] at hz hkq
  have hPr1 : va_P (qe_D G) vwCl wr t.heap := by
    intro k q hq
    refine (hPr k q hq).kept (hkq q.1 (hPr k q hq).lt (fun hz => ?_))
    rcases hz with ⟨k2, e, hz⟩ | hz
    · exact ql_D_x hD hq hz rfl
    · have := (hPr k q hq).lt
      omega
  have hDn : va_D (ql_A s) (wr ++ w1) := va_D.app (ql_D_l hD) (hD1.weaken (fun _ q _ h => hFc q.1 h)) (fun i j x y hx hy hxy => by
    have hyA := hD1.2 j y hy
    rw [← hxy] at hyA
    rcases hyA with ⟨k2, e, hz⟩ | hz
    · exact ql_D_x hD hx hz rfl
    · have := (hPr i x hx).lt
      omega)
  have hS1 : va_S (ql_A s) s.heap t.heap (locs ++ Lc) := ⟨Nat.le_trans hS.1 hz, fun q h1 h2 => by rw [hkq q (Nat.lt_of_lt_of_le h1 hS.1) (fun z => h2 (hFc q z))]; exact hS.2.1 q h1 h2, fun q hq => by
      rcases List.mem_append.mp hq with h | h
      · exact hS.2.2 q h
      · exact hFc _ (hL q h)⟩
  obtain ⟨t2, a1, b1⟩ := kk w1 t.heap (locs ++ Lc) hp hPr1 hP1 hDn hS1 T' e1 X'
  exact ⟨t2, stp t2 a1, b1⟩
theorem kI_RX8 : ql_kI NX8_init 9 := ⟨qe_in 85 (by decide +kernel) (by decide +kernel), by decide, by decide, by decide +kernel, by decide, by decide, qe_in 64 (by decide +kernel) (by decide +kernel), qe_in 83 (by decide +kernel) (by decide +kernel), rfl, qe_in 84 (by decide +kernel) (by decide +kernel)⟩
theorem kL_RX8 : Cond.classLink R_law 7 RX8 ∈ lw_tbl := List.mem_of_getElem? (i := 81) (by decide +kernel)
theorem kT_RX8 : Cond.initialized RX8 ∈ lw_tbl := List.mem_of_getElem? (i := 64) (by decide +kernel)
theorem kI_RX9 : ql_kI NX9_init 12 := ⟨qe_in 876 (by decide +kernel) (by decide +kernel), by decide, by decide, by decide +kernel, by decide, by decide, qe_in 73 (by decide +kernel) (by decide +kernel), qe_in 874 (by decide +kernel) (by decide +kernel), rfl, qe_in 875 (by decide +kernel) (by decide +kernel)⟩
theorem kL_RX9 : Cond.classLink R_law 10 RX9 ∈ lw_tbl := List.mem_of_getElem? (i := 872) (by decide +kernel)
theorem kT_RX9 : Cond.initialized RX9 ∈ lw_tbl := List.mem_of_getElem? (i := 73) (by decide +kernel)
set_option maxHeartbeats 4000000 in
set_option maxRecDepth 100000 in
theorem ql_start {p : Program} {e : Env} {s : State} {m : MethodId} {below : List Frame} {meth : Method} {c : Code} (l : Launch) {b L : Nat} {xs : Nat → Int32} {R : qe_S → qe_S → Prop} (hL : L ≤ 2560) (h_unit : ql_op_unit R) (h_odds : ql_op_odds R) (h_set : ql_op_set R) (h_mark : ql_op_mark R) (h_of : ql_op_of R) (h_fraction : ql_op_fraction R) (h_order : ql_op_order R) (h_at : ql_op_at R) (h_swap : ql_op_swap R) (h_common : ql_op_common R) (h_parts : ql_op_parts R) (h_size : ql_op_size R) (h_chosen : ql_op_chosen R) (h_run : ql_op_run R) (h_joint : ql_op_joint R) (h_joints : ql_op_joints R) (h_fair : ql_op_fair R) (h_estimate : ql_op_estimate R) (h_mean : ql_op_mean R) (h_spread : ql_op_spread R) (h_twice : ql_op_twice R) (h_both : ql_op_both R) (h_kept : ql_op_kept R) (h_overlap : ql_op_overlap R) (h_shift : ql_op_shift R) (h_replaced : ql_op_replaced R) (h_substitute : ql_op_substitute R) (h_finals : ql_op_finals R) (h_drawn : ql_op_drawn R) (h_feed : ql_op_feed R) (h_tells : ql_op_tells R) (h_reason : ql_op_reason R) (h_list : ql_op_list R) (h_put : ql_op_put R) (h_look : ql_op_look R) (h_judge : ql_op_judge R) (h_image : ql_op_image R) (h_undo : ql_op_undo R) (h_count : ql_op_count R) (hR : R qc_s0 qc_m0) (C0 : lw_At p s m meth c b L xs) : W p l e room_1 s m #[Value.ref b] below meth c s.heap [] 0 0 (lw_Z below #[Value.ref b] s) (entryFrame m ([Value.ref b] : List Value).toArray 4) := by
  obtain ⟨hx, hb, hr, hml, hown, hts, hX, hbl, hlocks, hgv⟩ := id C0
  obtain ⟨G, hK, hZ, hNw⟩ := ql_G hts hgv
  have hA : ∀ q : Nat, s.heap.size ≤ q → ql_A s q := fun _ h => h
  have hS : va_S (ql_A s) s.heap s.heap [] := va_S.rf
  have hP : va_P (qe_D G) vwCl [] s.heap := fun k q h => by simp at h
  have hD : va_D (ql_A s) [] := ⟨fun i j p q h => by simp at h, fun k q h => by simp at h⟩
  have hl := lv_entry [Value.ref b] (n := 4) (Nat.le_of_ble_eq_true rfl)
  rw [lg_entry_eq]
  generalize (lg_sl [Value.ref b] ++ List.replicate (4 - (lg_sl [Value.ref b]).length) Slot.unset).toArray = ls at hl ⊢
  have hl : lv_has ls 4 [(0, .ref b)] := hl
  refine va_new (D := qe_D G) (cl := vwCl) (ci := 8) (fs := [.null, .null, .null, .int 0, .null, .null, .null, .null, .null, .null, .null, .null, .null, .null]) (C := RX8) (T := TX8) (N := 14) hx hb hts il_RX8 tyX8 tyX8_ok hown (hts _ kL_RX8) (hts _ ii_RX8) (hts _ kT_RX8) hK hP hD hS hA rfl (fun j hj => by rcases (show j = 0 ∨ j = 1 ∨ j = 2 ∨ j = 3 ∨ j = 4 ∨ j = 5 ∨ j = 6 ∨ j = 7 ∨ j = 8 ∨ j = 9 ∨ j = 10 ∨ j = 11 ∨ j = 12 ∨ j = 13 by omega) with rfl | rfl | rfl | rfl | rfl | rfl | rfl | rfl | rfl | rfl | rfl | rfl | rfl | rfl <;> rfl) (by decide) (by decide) dL_law_0 (fun q0 H hP hD hS => ?_)
  refine lv_dup hx hb dL_law_3 rfl ?_
  refine ql_ctor (wr := []) kI_RX8 (v_X8_init q0) C0 hK hNw hP hD hS hl.1 (Nat.le_of_ble_eq_true rfl) (by decide) (by decide) dL_law_4 (fun w1 H locs hp _ hP hD hS => ?_)
  obtain ⟨adc, rfl, rfl⟩ := hp
  have hD : va_D (ql_A s) (qe_w G adc (qs_w qc_s0 (qs_TC G))) := hD
  refine lv_astore_n (lv' := [(1, .ref (adc 0)), (0, .ref b)]) hx hb dL_law_7 rfl hl (by decide) rfl (fun ls hl => ?_)
  refine va_new (D := qe_D G) (cl := vwCl) (ci := 9) (fs := [.null, .null, .null, .int 0, .null, .null, .long 0, .null, .null, .null, .null, .long 0, .int 0, .null, .null, .null, .null, .long 0, .long 0, .int 0, .null, .int 0, .null, .int 0, .int 0, .int 0, .null, .null, .null]) (C := RX9) (T := TX9) (N := 29) hx hb hts il_RX9 tyX9 tyX9_ok hown (hts _ kL_RX9) (hts _ ii_RX9) (hts _ kT_RX9) hK hP hD hS hA rfl (fun j hj => by rcases (show j = 0 ∨ j = 1 ∨ j = 2 ∨ j = 3 ∨ j = 4 ∨ j = 5 ∨ j = 6 ∨ j = 7 ∨ j = 8 ∨ j = 9 ∨ j = 10 ∨ j = 11 ∨ j = 12 ∨ j = 13 ∨ j = 14 ∨ j = 15 ∨ j = 16 ∨ j = 17 ∨ j = 18 ∨ j = 19 ∨ j = 20 ∨ j = 21 ∨ j = 22 ∨ j = 23 ∨ j = 24 ∨ j = 25 ∨ j = 26 ∨ j = 27 ∨ j = 28 by omega) with rfl | rfl | rfl | rfl | rfl | rfl | rfl | rfl | rfl | rfl | rfl | rfl | rfl | rfl | rfl | rfl | rfl | rfl | rfl | rfl | rfl | rfl | rfl | rfl | rfl | rfl | rfl | rfl | rfl <;> rfl) (by decide) (by decide) dL_law_8 (fun q1 H hP hD hS => ?_)
  refine lv_dup hx hb dL_law_11 rfl ?_
  refine ql_ctor (wr := qe_w G adc (qs_w qc_s0 (qs_TC G))) kI_RX9 (v_X9_init q1) C0 hK hNw hP hD hS hl.1 (Nat.le_of_ble_eq_true rfl) (by decide) (by decide) dL_law_12 (fun w1 H locs hp hPc hPm hD hS => ?_)
  obtain ⟨adm, rfl, rfl⟩ := hp
  refine lv_astore_n (lv' := [(2, .ref (adm 0)), (1, .ref (adc 0)), (0, .ref b)]) hx hb dL_law_15 rfl hl (by decide) rfl (fun ls hl => ?_)
  refine lv_iconst (v := 0) hx hb dL_law_16 rfl ?_
  refine lv_istore_n (lv' := [(3, .int 0), (2, .ref (adm 0)), (1, .ref (adc 0)), (0, .ref b)]) hx hb dL_law_17 rfl hl (by decide) rfl (fun ls hl => ?_)
  exact ql_loop hL h_unit h_odds h_set h_mark h_of h_fraction h_order h_at h_swap h_common h_parts h_size h_chosen h_run h_joint h_joints h_fair h_estimate h_mean h_spread h_twice h_both h_kept h_overlap h_shift h_replaced h_substitute h_finals h_drawn h_feed h_tells h_reason h_list h_put h_look h_judge h_image h_undo h_count (L + 1) 0 qc_s0 qc_m0 (Nat.zero_le L) (by omega) hR p e s m below meth c H locs ls ⟨C0, hK, hZ⟩ hPc hPm hD hS (lv_sub hl [3, 2, 1, 0] rfl)
