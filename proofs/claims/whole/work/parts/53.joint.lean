/-! JOINT, JOINTS, FAIR -/
theorem qj_bit {ρ : qr_R} {s u : Nat} (hu : u < qr_N ρ) : (qx_f ρ s).testBit u = qx_o ρ s u := by
  show (qb_s (qw_on ρ 0 (qw_P ρ 0) (qw_E ρ) s) (qr_N ρ)).testBit u = _
  rw [qb_bit, decide_eq_true hu, Bool.true_and]
theorem qj_f12 {ρ : qr_R} (w : qr_wf ρ) (s : Nat) : qx_f ρ s < 4096 := qz_12 w.1
def qj_2 (ρ : qr_R) (u v s : Nat) : Nat := if (qx_f ρ s).testBit u = true ∧ (qx_f ρ s).testBit v = true then 1 else 0
theorem qj_meet {ρ : qr_R} (w : qr_wf ρ) (hP : qx_P ρ ≠ 0) {u v : Nat} (hu : u < qr_N ρ) (hv : v < qr_N ρ) : qv_m (qx_F ρ u) (qx_L ρ u) (qx_F ρ v) (qx_L ρ v) (qx_P ρ) = qp_S (qj_2 ρ u v) (qx_P ρ) := by
  rw [qc_meet (qx_F_lt hP u) (qx_L1 w hP hu).2 (qx_F_lt hP v) (qx_L1 w hP hv).2]
  refine qp_congr (fun s hs => ?_)
  unfold qj_2
  rw [qj_bit hu, qj_bit hv]
  show _ = if decide ((s + qw_P ρ 0 - qw_f ρ 0 (qw_P ρ 0) (qw_E ρ) u) % qw_P ρ 0 < qw_l ρ 0 (qw_P ρ 0) (qw_E ρ) u) = true ∧ decide ((s + qw_P ρ 0 - qw_f ρ 0 (qw_P ρ 0) (qw_E ρ) v) % qw_P ρ 0 < qw_l ρ 0 (qw_P ρ 0) (qw_E ρ) v) = true then 1 else 0
  simp only [decide_eq_true_eq]
theorem qj_2_runs {ρ : qr_R} (w : qr_wf ρ) (hP : qx_P ρ ≠ 0) (u v : Nat) : qp_S (fun k => qj_2 ρ u v (qx_c ρ k) * (qx_c ρ (k + 1) - qx_c ρ k)) (qx_M ρ) = qp_S (qj_2 ρ u v) (qx_P ρ) := by
  obtain ⟨M1, M2, M3, M4⟩ := qx_M_ok w hP
  have h := qc_sum w hP (g := qj_2 ρ u v) (fun s t e => by unfold qj_2; rw [e]) (qx_M ρ) (Nat.le_refl _)
  rw [M3] at h
  exact h
theorem qj_tog {ρ : qr_R} (w : qr_wf ρ) (hP : qx_P ρ ≠ 0) {σ : qe_S} (hC : qw_C 22 σ ρ 0 (qw_P ρ 0) (qw_E ρ)) {u v : Nat} (hu : u < qr_N ρ) (hv : v < qr_N ρ) : g_X7_together 22 (nI u) (nI v) σ = some (lN (qp_S (qj_2 ρ u v) (qx_P ρ)), σ) := by
  have hN := w.1
  have Pb : qx_P ρ < 2 ^ 31 := qw_P_lt ρ 0
  have a1 := hC.2 u (by omega)
  have a2 := hC.2 v (by omega)
  have e1 : σ.2 (22 + 1) u = lN (qx_F ρ u) := a1.1
  have e2 : σ.2 (22 + 2) u = lN (qx_L ρ u) := a1.2
  have e3 : σ.2 (22 + 1) v = lN (qx_F ρ v) := a2.1
  have e4 : σ.2 (22 + 2) v = lN (qx_L ρ v) := a2.2
  have e5 : σ.2 22 0 = lN (qx_P ρ) := hC.1
  have f1 := qx_F_lt hP u
  have f2 := qx_F_lt hP v
  have l1 := qx_L1 w hP hu
  have l2 := qx_L1 w hP hv
  unfold g_X7_together
  simp only [qn_l]
  rw [qn_g (by omega) (by omega), qn_g (by omega) (by omega), qn_g (by omega) (by omega), qn_g (by omega) (by omega), nI_clamp (by omega), nI_clamp (by omega), e1, e2, e3, e4, e5, qv_meet (by omega) (by omega) (by omega) (by omega) (by omega), qn_b, qj_meet w hP hu hv]
theorem qz_joint : ql_op_joint qz_R := by
  intro a0 a1 a2 σ τ hR
  have hR0 := hR
  obtain ⟨⟨ρ, w, d, o, m⟩, hI, hW, hT, hL⟩ := hR
  have hN := w.1
  have Pb : qx_P ρ < 2 ^ 31 := qw_P_lt ρ 0
  show qz_ok (g_X8_joint a0 a1 a2 σ) (g_X9_joint a0 a1 a2 τ)
  unfold g_X8_joint g_X9_joint
  refine qz_gUnit w d m (fun _ => qz_ok_noL hR0 (-1)) ?_
  rintro u hu rfl
  refine qz_gUnit w d m (fun _ => qz_ok_noL hR0 (-1)) ?_
  rintro v hv rfl
  refine qz_gPart (qz_ok_noL hR0 (-2)) (fun _ => ?_)
  refine qy_gRef hR0 w d o m (fun τ' h => qz_ok_noL h (-7)) (fun σ' τ' hP B M h => ?_)
  obtain ⟨M1, M2, M3, M4⟩ := qx_M_ok w hP
  have h6 : τ'.2 0 6 = lN (qx_P ρ) := B.2.2.2.2.2.1
  have hC := B.2.2.2.2.1
  have h22 : σ'.2 22 0 = lN (qx_P ρ) := hC.1
  have L : ∀ K : Int64 → qe_S → Option (Int64 × qe_S), ∀ q k n, k + q = qx_M ρ → q < n → g_X9_joint_L56 K (nI u) (nI v) a2 n (lN (qp_S (fun k => qj_2 ρ u v (qx_c ρ k) * (qx_c ρ (k + 1) - qx_c ρ k)) k)) (nI k) τ' = K (lN (qp_S (fun k => qj_2 ρ u v (qx_c ρ k) * (qx_c ρ (k + 1) - qx_c ρ k)) (qx_M ρ))) τ' := by
    intro K q
    induction q with
    | zero =>
      intro k n hk hn
      obtain ⟨q, rfl⟩ : ∃ q, n = q + 1 := ⟨n - 1, by omega⟩
      have hkM : k = qx_M ρ := by omega
      simp only [g_X9_joint_L56]
      rw [M.1, if_pos (nI_le (by omega) (by omega)), hkM]
    | succ q ih =>
      intro k n hk hn
      obtain ⟨n, rfl⟩ : ∃ q, n = q + 1 := ⟨n - 1, by omega⟩
      obtain ⟨y1, y2, y3⟩ := M.2 k (by omega)
      have e : g_X9_joint_L56 K (nI u) (nI v) a2 (n + 1) (lN (qp_S (fun k => qj_2 ρ u v (qx_c ρ k) * (qx_c ρ (k + 1) - qx_c ρ k)) k)) (nI k) τ' = g_X9_joint_L56 K (nI u) (nI v) a2 n (lN (qp_S (fun k => qj_2 ρ u v (qx_c ρ k) * (qx_c ρ (k + 1) - qx_c ρ k)) (k + 1))) (nI (k + 1)) τ' := by
        simp only [g_X9_joint_L56, qn_j, qn_l]
        rw [M.1, if_neg (nI_ge (by omega) (by omega)), qn_g (by omega) (by omega), nI_clamp (by omega), y3, qz_has9 (qj_f12 w _) (by omega), qn_b, qn_if0, nI_1]
        have sm : qp_S (fun k => qj_2 ρ u v (qx_c ρ k) * (qx_c ρ (k + 1) - qx_c ρ k)) (k + 1) = qp_S (fun k => qj_2 ρ u v (qx_c ρ k) * (qx_c ρ (k + 1) - qx_c ρ k)) k + qj_2 ρ u v (qx_c ρ k) * (qx_c ρ (k + 1) - qx_c ρ k) := rfl
        rw [sm]
        unfold qj_2
        by_cases c1 : (qx_f ρ (qx_c ρ k)).testBit u = true
        · rw [if_pos c1, qn_g (by omega) (by omega), y3, qz_has9 (qj_f12 w _) (by omega), qn_b, qn_if0]
          by_cases c2 : (qx_f ρ (qx_c ρ k)).testBit v = true
          · rw [if_pos c2, if_pos ⟨c1, c2⟩, qn_g (by omega) (by omega), y2, lN_add, Nat.one_mul]
          · rw [if_neg c2, if_neg (fun z => c2 z.2), Nat.zero_mul]; simp only [Nat.add_zero]
        · rw [if_neg c1, if_neg (fun z => c1 z.1), Nat.zero_mul]; simp only [Nat.add_zero]
      rw [e]
      exact ih (k + 1) n (by omega) (by omega)
  have l0 := L (fun (b25 : Int64) (s26 : qe_S) => qm_b (g_X9_lowest b25 (s26.2 0 6) a2 s26) fun b28 s27 => some (b28, s27)) (qx_M ρ) 0 qm_F (by omega) (by rw [qn_F]; omega)
  rw [qj_2_runs w hP] at l0
  have l0' : g_X9_joint_L56 (fun (b25 : Int64) (s26 : qe_S) => qm_b (g_X9_lowest b25 (s26.2 0 6) a2 s26) fun b28 s27 => some (b28, s27)) (nI u) (nI v) a2 qm_F 0 0 τ' = _ := l0
  rw [qj_tog w hP hC hu hv, qn_b, qn_l, qn_l, l0', h6, h22]
  exact qz_ok_low h (qw_lpos hP (by omega))
def qj_bc (v0 : Int32) : Int32 :=
  let a1 := (v0 - ((qm_us v0 (1 : Int32)) &&& (nI 1431655765)))
  let a2 := ((a1 &&& (nI 858993459)) + ((qm_us a1 (nI 2)) &&& (nI 858993459)))
  let a3 := ((a2 + (qm_us a2 (nI 4))) &&& (nI 252645135))
  let a4 := (a3 + (qm_us a3 (nI 8)))
  let a5 := (a4 + (qm_us a4 (nI 16)))
  (a5 &&& (nI 63))
def qj_pc (a : Nat) : Nat := qp_S (fun i => if a.testBit i = true then 1 else 0) 12
set_option maxRecDepth 100000 in
theorem qj_tab : ∀ h, h < 64 → ∀ l, l < 64 → qj_bc (nI (64 * h + l)) = nI (qj_pc (64 * h + l)) := by decide +kernel
theorem qj_pop {a : Nat} {s : qe_S} (h : a < 4096) : g_J6_bitCount_0f7a4 (nI a) s = some (nI (qj_pc a), s) := by
  have e := qj_tab (a / 64) (by omega) (a % 64) (by omega)
  rw [show 64 * (a / 64) + a % 64 = a by omega] at e
  rw [← e]
  rfl
theorem qj_pc12 (a : Nat) : qj_pc a ≤ 12 := by
  have h := qp_bound (f := fun i => if a.testBit i = true then 1 else 0) (c := 1) (n := 12) (fun i _ => by show (if a.testBit i = true then 1 else 0) ≤ 1; split <;> omega)
  unfold qj_pc
  omega
theorem qj_pcN {ρ : qr_R} (w : qr_wf ρ) {a : Nat} (h : a < 2 ^ qr_N ρ) : qj_pc a = qp_S (fun i => if a.testBit i = true then 1 else 0) (qr_N ρ) := by
  have hN := w.1
  have t := qc_tail (g := fun i => if a.testBit i = true then 1 else 0) (a := qr_N ρ) (d := 12 - qr_N ρ) (fun i _ => by
    show (if a.testBit (qr_N ρ + i) = true then 1 else 0) = 0
    rw [Nat.testBit_lt_two_pow (Nat.lt_of_lt_of_le h (Nat.pow_le_pow_right (show 0 < 2 by omega) (by omega)))]
    rfl)
  rw [show qr_N ρ + (12 - qr_N ρ) = 12 by omega] at t
  exact t
def qj_1 (ρ : qr_R) (u s : Nat) : Nat := if (qx_f ρ s).testBit u = true then qj_pc (qx_f ρ s) else 0
theorem qj_1_sum {ρ : qr_R} (w : qr_wf ρ) (hP : qx_P ρ ≠ 0) (u : Nat) : qp_S (fun i => qp_S (qj_2 ρ u i) (qx_P ρ)) (qr_N ρ) = qp_S (fun k => qj_1 ρ u (qx_c ρ k) * (qx_c ρ (k + 1) - qx_c ρ k)) (qx_M ρ) := by
  obtain ⟨M1, M2, M3, M4⟩ := qx_M_ok w hP
  have h := qc_sum w hP (g := qj_1 ρ u) (fun s t e => by unfold qj_1; rw [e]) (qx_M ρ) (Nat.le_refl _)
  rw [h, M3, qc_swap (fun i s => qj_2 ρ u i s)]
  refine qp_congr (fun s hs => ?_)
  unfold qj_1
  by_cases c : (qx_f ρ s).testBit u = true
  · rw [if_pos c, qj_pcN w (qw_ch_lt ρ 0 (qw_P ρ 0) (qw_E ρ) s)]
    refine qp_congr (fun i hi => ?_)
    unfold qj_2
    by_cases c2 : (qx_f ρ s).testBit i = true
    · rw [if_pos ⟨c, c2⟩, if_pos c2]
    · rw [if_neg (fun z => c2 z.2), if_neg c2]
  · rw [if_neg c]
    exact qp_zero (fun i hi => if_neg (fun z => c z.1))
theorem qz_joints : ql_op_joints qz_R := by
  intro a0 a1 σ τ hR
  have hR0 := hR
  obtain ⟨⟨ρ, w, d, o, m⟩, hI, hW, hT, hL⟩ := hR
  have hN := w.1
  have Pb : qx_P ρ < 2 ^ 31 := qw_P_lt ρ 0
  show qz_ok (g_X8_joints a0 a1 σ) (g_X9_joints a0 a1 τ)
  unfold g_X8_joints g_X9_joints
  refine qz_gUnit w d m (fun _ => qz_ok_noL hR0 (-1)) ?_
  rintro u hu rfl
  refine qz_gPart (qz_ok_noL hR0 (-2)) (fun _ => ?_)
  refine qy_gRef hR0 w d o m (fun τ' h => qz_ok_noL h (-7)) (fun σ' τ' hP B M h => ?_)
  obtain ⟨M1, M2, M3, M4⟩ := qx_M_ok w hP
  have h6 : τ'.2 0 6 = lN (qx_P ρ) := B.2.2.2.2.2.1
  have hC := B.2.2.2.2.1
  have h22 : σ'.2 22 0 = lN (qx_P ρ) := hC.1
  have LC : ∀ K : Int64 → qe_S → Option (Int64 × qe_S), ∀ q k n, k + q = qr_N ρ → q < n → g_X8_joints_L50 K (nI u) a1 n (lN (qp_S (fun i => qp_S (qj_2 ρ u i) (qx_P ρ)) k)) (nI k) σ' = K (lN (qp_S (fun i => qp_S (qj_2 ρ u i) (qx_P ρ)) (qr_N ρ))) σ' := by
    intro K q
    induction q with
    | zero =>
      intro k n hk hn
      obtain ⟨q, rfl⟩ : ∃ q, n = q + 1 := ⟨n - 1, by omega⟩
      obtain rfl : k = qr_N ρ := by omega
      simp only [g_X8_joints_L50]
      rw [B.1.1, if_pos (nI_le (by omega) (by omega))]
    | succ q ih =>
      intro k n hk hn
      obtain ⟨n, rfl⟩ : ∃ q, n = q + 1 := ⟨n - 1, by omega⟩
      simp only [g_X8_joints_L50]
      rw [B.1.1, if_neg (nI_ge (show k < qr_N ρ by omega) (by omega)), qj_tog w hP hC hu (by omega), qn_b, qn_l, qn_l, nI_1, lN_add]
      exact ih (k + 1) n (by omega) (by omega)
  have L : ∀ K : Int64 → qe_S → Option (Int64 × qe_S), ∀ q k n, k + q = qx_M ρ → q < n → g_X9_joints_L47 K (nI u) a1 n (lN (qp_S (fun k => qj_1 ρ u (qx_c ρ k) * (qx_c ρ (k + 1) - qx_c ρ k)) k)) (nI k) τ' = K (lN (qp_S (fun k => qj_1 ρ u (qx_c ρ k) * (qx_c ρ (k + 1) - qx_c ρ k)) (qx_M ρ))) τ' := by
    intro K q
    induction q with
    | zero =>
      intro k n hk hn
      obtain ⟨q, rfl⟩ : ∃ q, n = q + 1 := ⟨n - 1, by omega⟩
      have hkM : k = qx_M ρ := by omega
      simp only [g_X9_joints_L47]
      rw [M.1, if_pos (nI_le (by omega) (by omega)), hkM]
    | succ q ih =>
      intro k n hk hn
      obtain ⟨n, rfl⟩ : ∃ q, n = q + 1 := ⟨n - 1, by omega⟩
      obtain ⟨y1, y2, y3⟩ := M.2 k (by omega)
      have e : g_X9_joints_L47 K (nI u) a1 (n + 1) (lN (qp_S (fun k => qj_1 ρ u (qx_c ρ k) * (qx_c ρ (k + 1) - qx_c ρ k)) k)) (nI k) τ' = g_X9_joints_L47 K (nI u) a1 n (lN (qp_S (fun k => qj_1 ρ u (qx_c ρ k) * (qx_c ρ (k + 1) - qx_c ρ k)) (k + 1))) (nI (k + 1)) τ' := by
        have pcb := qj_pc12 (qx_f ρ (qx_c ρ k))
        simp only [g_X9_joints_L47, qn_j, qn_l]
        rw [M.1, if_neg (nI_ge (by omega) (by omega)), qn_g (by omega) (by omega), nI_clamp (by omega), y3, qz_has9 (qj_f12 w _) (by omega), qn_b, qn_if0, nI_1]
        have sm : qp_S (fun k => qj_1 ρ u (qx_c ρ k) * (qx_c ρ (k + 1) - qx_c ρ k)) (k + 1) = qp_S (fun k => qj_1 ρ u (qx_c ρ k) * (qx_c ρ (k + 1) - qx_c ρ k)) k + qj_1 ρ u (qx_c ρ k) * (qx_c ρ (k + 1) - qx_c ρ k) := rfl
        rw [sm]
        unfold qj_1
        by_cases c1 : (qx_f ρ (qx_c ρ k)).testBit u = true
        · rw [if_pos c1, if_pos c1, qn_g (by omega) (by omega), qn_g (by omega) (by omega), y3, qj_pop (qj_f12 w _), qn_b, y2, nI_l (by omega), lN_mul, lN_add, Nat.mul_comm (qx_c ρ (k + 1) - qx_c ρ k)]
        · rw [if_neg c1, if_neg c1, Nat.zero_mul]; simp only [Nat.add_zero]
      rw [e]
      exact ih (k + 1) n (by omega) (by omega)
  have l0 := L (fun (b21 : Int64) (s22 : qe_S) => qm_b (g_X9_lowest b21 (s22.2 0 6) a1 s22) fun b24 s23 => some (b24, s23)) (qx_M ρ) 0 qm_F (by omega) (by rw [qn_F]; omega)
  have lc := LC (fun (b14 : Int64) (s15 : qe_S) => qm_b (g_X8_lowest b14 (s15.2 22 0) a1 s15) fun b17 s16 => some (b17, s16)) (qr_N ρ) 0 qm_F (by omega) (by rw [qn_F]; omega)
  rw [qj_1_sum w hP] at lc
  have l0' : g_X9_joints_L47 (fun (b21 : Int64) (s22 : qe_S) => qm_b (g_X9_lowest b21 (s22.2 0 6) a1 s22) fun b24 s23 => some (b24, s23)) (nI u) a1 qm_F 0 0 τ' = _ := l0
  have lc' : g_X8_joints_L50 (fun (b14 : Int64) (s15 : qe_S) => qm_b (g_X8_lowest b14 (s15.2 22 0) a1 s15) fun b17 s16 => some (b17, s16)) (nI u) a1 qm_F 0 0 σ' = _ := lc
  rw [qn_l, qn_l, qn_l, qn_l, lc', l0', h6, h22]
  exact qz_ok_low h (qw_lpos hP (by omega))
-- fair
def qj_s (ρ : qr_R) (v : Int32) (i : Nat) : Bool := decide (qr_s ρ i = v)
def qj_t (ρ : qr_R) (v : Int32) : Nat → Nat := qp_S (fun i => if qj_s ρ v i = true then qw_p ρ 0 (qx_P ρ) i else 0)
theorem qj_fit {n P T : Nat} (hP : 0 < P) (hP2 : P < 2 ^ 31) (hn : n ≤ 12) (hT : T < 2 ^ 40) : ((lN n * lN P - lN T ≤ -(lN P)) ∨ ¬ (lN n * lN P - lN T < lN P)) ↔ ((lN n < lN T / lN P) ∨ ¬ (lN n ≤ (lN T + lN P - 1) / lN P)) := by
  have np : n * P ≤ 12 * P := Nat.mul_le_mul_right P hn
  have t1 : (lN n * lN P - lN T).toInt = ((n * P : Nat) : Int) - T := by rw [lN_mul]; exact qg_sub (by omega) (by omega)
  have t2 : (-(lN P)).toInt = -(P : Int) := by rw [qg_neg (by rw [pk_lT (by omega)]; omega), pk_lT (by omega)]
  have t3 : (lN P).toInt = (P : Int) := pk_lT (by omega)
  have e4 : lN T + lN P - 1 = lN (T + P - 1) := by rw [lN_add]; exact lN_sub (b := 1) (by omega)
  rw [e4, pk_lDiv (by omega) hP (by omega), pk_lDiv (by omega) hP (by omega), Int64.le_iff_toInt_le, Int64.lt_iff_toInt_lt, t1, t2, t3]
  have d1 : T / P ≤ T := Nat.div_le_self _ _
  have d2 : (T + P - 1) / P ≤ T + P - 1 := Nat.div_le_self _ _
  rw [pk_lLT (by omega) (by omega), pk_lLE (by omega) (by omega)]
  have c1 : n < T / P ↔ (n + 1) * P ≤ T := Nat.le_div_iff_mul_le hP
  have c2 : n ≤ (T + P - 1) / P ↔ n * P ≤ T + P - 1 := Nat.le_div_iff_mul_le hP
  rw [c1, c2, Nat.succ_mul]
  omega
theorem qz_fair : ql_op_fair qz_R := by
  intro a0 σ τ hR
  have hR0 := hR
  obtain ⟨⟨ρ, w, d, o, m⟩, hI, hW, hT, hL⟩ := hR
  have hN := w.1
  have Pb : qx_P ρ < 2 ^ 31 := qw_P_lt ρ 0
  show qz_ok (g_X8_fair a0 σ) (g_X9_fair a0 τ)
  unfold g_X8_fair g_X9_fair
  refine qz_gIn (n := 3) (by omega) (fun _ => ⟨qz_ok_no hR0 (-1), qz_ok_no hR0 (-1)⟩) ?_
  rintro v hv rfl
  refine qy_gRef hR0 w d o m (fun τ' h => qz_ok_no h (-7)) (fun σ1 τ' hP B1 M h1 => ?_)
  obtain ⟨σ', e1, B, C, h, _⟩ := qy_tr w hP B1 h1
  obtain ⟨M1, M2, M3, M4⟩ := qx_M_ok w hP
  have h6 : τ'.2 0 6 = lN (qx_P ρ) := B.2.2.2.2.2.1
  have hC := B.2.2.2.2.1
  have h22 : σ'.2 22 0 = lN (qx_P ρ) := hC.1
  have dB := B.1
  have mB := B.2.2.1
  have LC : ∀ K : Int64 → Int32 → qe_S → Option (Int32 × qe_S), ∀ q k n, k + q = qr_N ρ → q < n → g_X8_isFair_L8 K (nI v) n (lN (qj_t ρ (nI v) k)) (nI (qb_s (qj_s ρ (nI v)) k)) (nI k) σ' = K (lN (qj_t ρ (nI v) (qr_N ρ))) (nI (qb_s (qj_s ρ (nI v)) (qr_N ρ))) σ' := by
    intro K q
    induction q with
    | zero =>
      intro k n hk hn
      obtain ⟨q, rfl⟩ : ∃ q, n = q + 1 := ⟨n - 1, by omega⟩
      obtain rfl : k = qr_N ρ := by omega
      simp only [g_X8_isFair_L8]
      rw [dB.1, if_pos (nI_le (by omega) (by omega))]
    | succ q ih =>
      intro k n hk hn
      obtain ⟨n, rfl⟩ : ∃ q, n = q + 1 := ⟨n - 1, by omega⟩
      have hu : k < qr_N ρ := by omega
      have e : g_X8_isFair_L8 K (nI v) (n + 1) (lN (qj_t ρ (nI v) k)) (nI (qb_s (qj_s ρ (nI v)) k)) (nI k) σ' = g_X8_isFair_L8 K (nI v) n (lN (qj_t ρ (nI v) (k + 1))) (nI (qb_s (qj_s ρ (nI v)) (k + 1))) (nI (k + 1)) σ' := by
        have sv : σ'.1 2 k = qr_s ρ k := (dB.2.2.2.1 k hu).1
        have pC : g_X3_partsOf (nI k) 0 (lN (qx_P ρ)) σ' = some (lN (qw_p ρ 0 (qx_P ρ) k), σ') := qw_partsC w dB (r := 0) (by omega) hu Pb
        have sm : qj_t ρ (nI v) (k + 1) = qj_t ρ (nI v) k + if qj_s ρ (nI v) k = true then qw_p ρ 0 (qx_P ρ) k else 0 := rfl
        simp only [g_X8_isFair_L8, qn_j, qn_l]
        rw [dB.1, if_neg (nI_ge hu (by omega)), qn_g (by omega) (by omega), nI_clamp (by omega), sv, h22, pC, qn_b, nI_1, sm, ← qb_or]
        unfold qj_s
        by_cases c : qr_s ρ k = nI v
        · rw [if_pos c, if_pos (decide_eq_true c), if_pos (decide_eq_true c), lN_add, qb_shl (by omega), qb_nor]
        · rw [if_neg c, if_neg (by simp [c]), if_neg (by simp [c]), Nat.or_zero]; simp only [Nat.add_zero]
      rw [e]
      exact ih (k + 1) n (by omega) (by omega)
  have LM : ∀ K : Int32 → Int64 → qe_S → Option (Int32 × qe_S), ∀ q k n, k + q = qr_N ρ → q < n → g_X9_fair_L36 K (nI v) n (nI (qb_s (qj_s ρ (nI v)) k)) (lN (qj_t ρ (nI v) k)) (nI k) τ' = K (nI (qb_s (qj_s ρ (nI v)) (qr_N ρ))) (lN (qj_t ρ (nI v) (qr_N ρ))) τ' := by
    intro K q
    induction q with
    | zero =>
      intro k n hk hn
      obtain ⟨q, rfl⟩ : ∃ q, n = q + 1 := ⟨n - 1, by omega⟩
      obtain rfl : k = qr_N ρ := by omega
      simp only [g_X9_fair_L36]
      rw [qn_g0 (by omega) (by omega), qn_l, qr_clamp0, mB.1, if_pos (nI_le (by omega) (by omega))]
    | succ q ih =>
      intro k n hk hn
      obtain ⟨n, rfl⟩ : ∃ q, n = q + 1 := ⟨n - 1, by omega⟩
      have hu : k < qr_N ρ := by omega
      have e : g_X9_fair_L36 K (nI v) (n + 1) (nI (qb_s (qj_s ρ (nI v)) k)) (lN (qj_t ρ (nI v) k)) (nI k) τ' = g_X9_fair_L36 K (nI v) n (nI (qb_s (qj_s ρ (nI v)) (k + 1))) (lN (qj_t ρ (nI v) (k + 1))) (nI (k + 1)) τ' := by
        have sv : τ'.1 1 (14 + k) = qr_s ρ k := (mB.2.2.1 k hu).2.1
        have v7 : τ'.2 7 k = lN (qw_p ρ 0 (qx_P ρ) k) := by
          have := (B.2.2.2.2.2.2.2 k hu).2
          rw [qw_l_E hu] at this
          exact this
        have sm : qj_t ρ (nI v) (k + 1) = qj_t ρ (nI v) k + if qj_s ρ (nI v) k = true then qw_p ρ 0 (qx_P ρ) k else 0 := rfl
        simp only [g_X9_fair_L36, qn_j, qn_l, qr_clamp0]
        rw [qn_g0 (by omega) (by omega), mB.1, if_neg (nI_ge hu (by omega)), nI_add, qn_g (by omega) (by omega), nI_clamp (by omega), sv, qn_g (by omega) (by omega), nI_clamp (by omega), v7, nI_1, sm, ← qb_or]
        unfold qj_s
        by_cases c : qr_s ρ k = nI v
        · rw [if_pos c, if_pos (decide_eq_true c), if_pos (decide_eq_true c), lN_add, qb_shl (by omega), qb_nor]
        · rw [if_neg c, if_neg (by simp [c]), if_neg (by simp [c]), Nat.or_zero]; simp only [Nat.add_zero]
      rw [e]
      exact ih (k + 1) n (by omega) (by omega)
  have Tb : qj_t ρ (nI v) (qr_N ρ) < 2 ^ 40 := by
    have b := qp_bound (f := fun i => if qj_s ρ (nI v) i = true then qw_p ρ 0 (qx_P ρ) i else 0) (c := qx_P ρ) (n := qr_N ρ) (fun i hi => by
      show (if qj_s ρ (nI v) i = true then qw_p ρ 0 (qx_P ρ) i else 0) ≤ qx_P ρ
      split
      · exact qw_p_le w _ (by omega) hi
      · omega)
    have b2 : qr_N ρ * qx_P ρ ≤ 12 * qx_P ρ := Nat.mul_le_mul_right _ hN
    unfold qj_t
    omega
  generalize hTe : qj_t ρ (nI v) (qr_N ρ) = T at LC LM Tb
  have mb := qz_12 (f := qj_s ρ (nI v)) hN
  generalize hme : qb_s (qj_s ρ (nI v)) (qr_N ρ) = mm at LC LM mb
  have LR : ∀ q k n, k + q = qx_M ρ → q < n → ∃ r : Int32, (r = 0 ∨ r = 1) ∧ g_X8_isFair_L72 (lN T) (nI mm) n (nI k) σ' = some (r, σ') ∧ g_X9_fair_L90 (nI mm) (lN T) n (nI k) τ' = some (r, τ') := by
    intro q
    induction q with
    | zero =>
      intro k n hk hn
      obtain ⟨q, rfl⟩ : ∃ q, n = q + 1 := ⟨n - 1, by omega⟩
      refine ⟨1, Or.inr rfl, ?_, ?_⟩
      · simp only [g_X8_isFair_L72]
        rw [C.1, if_pos (nI_le (by omega) (by omega))]
      · simp only [g_X9_fair_L90]
        rw [M.1, if_pos (nI_le (by omega) (by omega))]
    | succ q ih =>
      intro k n hk hn
      obtain ⟨n, rfl⟩ : ∃ q, n = q + 1 := ⟨n - 1, by omega⟩
      obtain ⟨x1, x2, x3⟩ := C.2 k (by omega)
      obtain ⟨y1, y2, y3⟩ := M.2 k (by omega)
      have fb := qj_f12 w (qx_c ρ k)
      have ab : (qx_f ρ (qx_c ρ k) &&& mm) < 4096 := Nat.lt_of_le_of_lt Nat.and_le_left fb
      have pcb := qj_pc12 (qx_f ρ (qx_c ρ k) &&& mm)
      have fit := qj_fit (n := qj_pc (qx_f ρ (qx_c ρ k) &&& mm)) (P := qx_P ρ) (T := T) (Nat.pos_of_ne_zero hP) Pb pcb Tb
      simp only [g_X8_isFair_L72, g_X9_fair_L90, qn_l]
      rw [C.1, M.1, if_neg (nI_ge (by omega) (by omega)), if_neg (nI_ge (by omega) (by omega)), qn_g (by omega) (by omega), qn_g (by omega) (by omega), nI_clamp (by omega), x3, y3, qb_nand, qj_pop ab, qj_pop ab, qn_b, qn_b, h22, h6, nI_l (by omega), qn_zl (qw_lz (show 0 < qx_P ρ from Nat.pos_of_ne_zero hP) (by omega)), qn_zl (qw_lz (show 0 < qx_P ρ from Nat.pos_of_ne_zero hP) (by omega)), nI_1]
      by_cases g1 : lN (qj_pc (qx_f ρ (qx_c ρ k) &&& mm)) * lN (qx_P ρ) - lN T ≤ -(lN (qx_P ρ))
      · refine ⟨0, Or.inl rfl, by rw [if_pos g1], ?_⟩
        rcases fit.mp (Or.inl g1) with z | z
        · rw [if_pos z]
        · by_cases z2 : lN (qj_pc (qx_f ρ (qx_c ρ k) &&& mm)) < lN T / lN (qx_P ρ)
          · rw [if_pos z2]
          · rw [if_neg z2, if_neg z]
      · by_cases g2 : lN (qj_pc (qx_f ρ (qx_c ρ k) &&& mm)) * lN (qx_P ρ) - lN T < lN (qx_P ρ)
        · have no : ¬ ((lN (qj_pc (qx_f ρ (qx_c ρ k) &&& mm)) < lN T / lN (qx_P ρ)) ∨ ¬ (lN (qj_pc (qx_f ρ (qx_c ρ k) &&& mm)) ≤ (lN T + lN (qx_P ρ) - 1) / lN (qx_P ρ))) := fun z => (fit.mpr z).elim g1 (fun y => y g2)
          rw [if_neg g1, if_pos g2, if_neg (fun z => no (Or.inl z)), if_pos (Decidable.of_not_not (fun z => no (Or.inr z)))]
          exact ih (k + 1) n (by omega) (by omega)
        · refine ⟨0, Or.inl rfl, by rw [if_neg g1, if_neg g2], ?_⟩
          rcases fit.mp (Or.inr g2) with z | z
          · rw [if_pos z]
          · by_cases z2 : lN (qj_pc (qx_f ρ (qx_c ρ k) &&& mm)) < lN T / lN (qx_P ρ)
            · rw [if_pos z2]
            · rw [if_neg z2, if_neg z]
  obtain ⟨r, r01, r1, r2⟩ := LR (qx_M ρ) 0 qm_F (by omega) (by rw [qn_F]; omega)
  rw [nI_0] at r1 r2
  have lc := LC (fun (b15 : Int64) (a16 : Int32) (s17 : qe_S) => qm_l (0 : Int32) fun a18 => g_X8_isFair_L72 b15 a16 qm_F a18 s17) (qr_N ρ) 0 qm_F (by omega) (by rw [qn_F]; omega)
  have lm := LM (fun (a19 : Int32) (b20 : Int64) (s21 : qe_S) => qm_l (0 : Int32) fun a22 => g_X9_fair_L90 a19 b20 qm_F a22 s21) (qr_N ρ) 0 qm_F (by omega) (by rw [qn_F]; omega)
  have lc' : g_X8_isFair_L8 (fun (b15 : Int64) (a16 : Int32) (s17 : qe_S) => qm_l (0 : Int32) fun a18 => g_X8_isFair_L72 b15 a16 qm_F a18 s17) (nI v) qm_F 0 0 0 σ' = _ := lc
  have lm' : g_X9_fair_L36 (fun (a19 : Int32) (b20 : Int64) (s21 : qe_S) => qm_l (0 : Int32) fun a22 => g_X9_fair_L90 a19 b20 qm_F a22 s21) (nI v) qm_F 0 0 0 τ' = _ := lm
  unfold g_X8_isFair
  rw [e1, qn_o, qn_l, qn_l, qn_l, lc', qn_l, r1, qn_b, qn_l, qn_l, qn_l, lm', qn_l, r2]
  rcases r01 with rfl | rfl
  · rw [if_pos rfl]; exact qz_ok_some h
  · rw [if_neg qn_10]; exact qz_ok_some h
