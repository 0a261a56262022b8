/-! BOTH -/
def qb_t (ρ : qr_R) (B u v : Nat) : Nat := qv_m (qw_f ρ 1 (qw_P ρ 1) B u) (qw_l ρ 1 (qw_P ρ 1) B u) (qw_f ρ 1 (qw_P ρ 1) B v) (qw_l ρ 1 (qw_P ρ 1) B v) (qw_P ρ 1)
theorem qb_t0 {ρ : qr_R} {B u v : Nat} (h : ¬ (B.testBit u = true ∧ B.testBit v = true)) : qb_t ρ B u v = 0 := by
  unfold qb_t
  by_cases c : B.testBit u = true
  · have c2 : ¬ B.testBit v = true := fun z => h ⟨c, z⟩
    rw [show qw_f ρ 1 (qw_P ρ 1) B v = 0 from if_neg c2, show qw_l ρ 1 (qw_P ρ 1) B v = 0 from if_neg c2]
    unfold qv_m qv_t
    omega
  · have b := qv_m_le (qw_f ρ 1 (qw_P ρ 1) B u) (qw_l ρ 1 (qw_P ρ 1) B u) (qw_f ρ 1 (qw_P ρ 1) B v) (qw_l ρ 1 (qw_P ρ 1) B v) (qw_P ρ 1)
    rw [show qw_l ρ 1 (qw_P ρ 1) B u = 0 from if_neg c] at b ⊢
    omega
def qb_w (ρ : qr_R) (u v k : Nat) : Nat := (qx_c ρ (k + 1) - qx_c ρ k) * qb_t ρ (qx_f ρ (qx_c ρ k)) u v
theorem qz_both : ql_op_both qz_R := by
  intro a0 a1 a2 σ τ hR
  have hR0 := hR
  obtain ⟨⟨ρ, w, d, o, m⟩, hI, hW, hT, hL⟩ := hR
  have hN := w.1
  have Pb0 := qw_P_lt ρ 0
  have Pb1 := qw_P_lt ρ 1
  show qz_ok (g_X8_both a0 a1 a2 σ) (g_X9_both a0 a1 a2 τ)
  unfold g_X8_both g_X9_both
  refine qz_gUnit w d m (fun _ => qz_ok_noL hR0 (-1)) ?_
  rintro u hu rfl
  refine qz_gUnit w d m (fun _ => qz_ok_noL hR0 (-1)) ?_
  rintro v hv rfl
  refine qz_gPart (qz_ok_noL hR0 (-2)) (fun _ => ?_)
  have lay1 : ∀ t, qr_M 1 t ρ → ∃ τ', g_X9_lays 1 t = some (if qw_P ρ 1 = 0 then 0 else 1, τ') ∧ qw_fr t τ' ∧ (qw_P ρ 1 ≠ 0 → qw_X ρ 1 τ') := fun t mt => qw_lays w mt (r := 1) (by omega)
  obtain ⟨τ1, f1, f2, f3⟩ := lay1 τ m
  have p1 : g_X3_places 1 σ = some (lN (qw_P ρ 1), σ) := qw_places w d (r := 1) (by omega)
  have hR1 := qw_keepM hR0 f2
  rw [p1, qn_b, f1, qn_b]
  by_cases c1 : qw_P ρ 1 = 0
  · rw [if_pos c1, if_pos rfl]
    have n1 : ¬ (1 : Int64) ≤ lN (qw_P ρ 1) := fun z => (qw_1le (by omega)).mp z c1
    unfold g_X8_layWheel
    rw [qw_places0 w d, qn_b]
    by_cases c0 : qw_P ρ 0 = 0
    · rw [if_neg (fun z => (qw_1le (by omega)).mp z c0), qn_b, if_pos rfl]
      exact qz_ok_noL hR1 (-7)
    · obtain ⟨σ', g1, g2, g3⟩ := qw_lay w (r := 0) (P := qw_P ρ 0) (b := qw_E ρ) (k := 22) (by omega) (by omega) Pb0 (qw_E_lt2 ρ) d o
      have g1' : g_X7_lay 22 0 (lN (qw_P ρ 0)) (nI (qw_E ρ)) σ = some σ' := g1
      rw [if_pos ((qw_1le (by omega)).mpr c0), qw_evC w d, qn_b, g1', qn_o, qn_b, if_neg qn_10, if_neg n1]
      exact qz_ok_noL (qw_keepC hR1 (Or.inl rfl) g2) (-7)
  · rw [if_neg c1, if_neg qn_10]
    have m1 := qz_M (Or.inl rfl) (qw_m_of f2) m
    refine qy_gRef hR1 w d o m1 (fun τ' h => qz_ok_noL h (-7)) (fun σ1 τ' hP B1 M h1 => ?_)
    rw [if_pos ((qw_1le (by omega)).mpr c1)]
    obtain ⟨σ', e1, B, C, h, _⟩ := qy_tr w hP B1 h1
    obtain ⟨M1, M2, M3, M4⟩ := qx_M_ok w hP
    have h6 : τ'.2 0 6 = lN (qw_P ρ 0) := B.2.2.2.2.2.1
    have h22 : σ'.2 22 0 = lN (qw_P ρ 0) := B.2.2.2.2.1.1
    obtain ⟨τ3, k1, k2, k3⟩ := lay1 τ' B.2.2.1
    obtain ⟨x1, x2, x3, x4, x5, _⟩ := k3 c1
    have LC : ∀ q k n s, k + q = qx_M ρ → q < n → qw_cf 25 σ' s → ∃ s', qw_cf 25 σ' s' ∧ g_X8_pairsOfBoth_L17 (nI u) (nI v) (lN (qw_P ρ 1)) n (lN (qp_S (qb_w ρ u v) k)) (nI k) s = some (lN (qp_S (qb_w ρ u v) (qx_M ρ)), s') := by
      intro q
      induction q with
      | zero =>
        intro k n s hk hn hc
        obtain ⟨q, rfl⟩ : ∃ q, n = q + 1 := ⟨n - 1, by omega⟩
        have hkM : k = qx_M ρ := by omega
        refine ⟨s, hc, ?_⟩
        simp only [g_X8_pairsOfBoth_L17]
        rw [hc.1, C.1, if_pos (nI_le (by omega) (by omega)), hkM]
      | succ q ih =>
        intro k n s hk hn hc
        obtain ⟨n, rfl⟩ : ∃ q, n = q + 1 := ⟨n - 1, by omega⟩
        obtain ⟨y1, y2, y3⟩ := C.2 k (by omega)
        obtain ⟨s2, l1, l2, l3⟩ := qw_lay w (r := 1) (P := qw_P ρ 1) (k := 25) (by omega) (Nat.pos_of_ne_zero c1) Pb1 (qw_ch_lt ρ 0 (qw_P ρ 0) (qw_E ρ) (qx_c ρ k)) (qw_D1 hc.1 B.1) (qw_O1 hc.1 B.2.1)
        have hc2 := qw_cft hc l2
        obtain ⟨s', g1, g2⟩ := ih (k + 1) n s2 (by omega) (by omega) hc2
        refine ⟨s', g1, ?_⟩
        rw [← g2]
        have sm : qp_S (qb_w ρ u v) (k + 1) = qp_S (qb_w ρ u v) k + qb_w ρ u v k := rfl
        have l1' : g_X7_lay 25 1 (lN (qw_P ρ 1)) (nI (qx_f ρ (qx_c ρ k))) s = some s2 := l1
        have v1 := l3.2 u (by omega)
        have v2 := l3.2 v (by omega)
        have b1 := qw_f_lt (ρ := ρ) (r := 1) (b := qx_f ρ (qx_c ρ k)) (u := u) (Nat.pos_of_ne_zero c1)
        have b2 := qw_f_lt (ρ := ρ) (r := 1) (b := qx_f ρ (qx_c ρ k)) (u := v) (Nat.pos_of_ne_zero c1)
        have b3 := qw_l_le w (r := 1) (qw_P ρ 1) (qx_f ρ (qx_c ρ k)) (by omega) hu
        have b4 := qw_l_le w (r := 1) (qw_P ρ 1) (qx_f ρ (qx_c ρ k)) (by omega) hv
        have tg : g_X7_together 25 (nI u) (nI v) s2 = some (lN (qb_t ρ (qx_f ρ (qx_c ρ k)) u v), s2) := by
          have z1 : s2.2 (25 + 1) u = lN (qw_f ρ 1 (qw_P ρ 1) (qx_f ρ (qx_c ρ k)) u) := v1.1
          have z2 : s2.2 (25 + 2) u = lN (qw_l ρ 1 (qw_P ρ 1) (qx_f ρ (qx_c ρ k)) u) := v1.2
          have z3 : s2.2 (25 + 1) v = lN (qw_f ρ 1 (qw_P ρ 1) (qx_f ρ (qx_c ρ k)) v) := v2.1
          have z4 : s2.2 (25 + 2) v = lN (qw_l ρ 1 (qw_P ρ 1) (qx_f ρ (qx_c ρ k)) v) := v2.2
          have z5 : s2.2 25 0 = lN (qw_P ρ 1) := l3.1
          unfold g_X7_together
          simp only [qn_l2]
          rw [qn_g (by omega) (by omega), qn_g (by omega) (by omega), qn_g (by omega) (by omega), qn_g (by omega) (by omega), nI_clamp (by omega), nI_clamp (by omega), z1, z2, z3, z4, z5, qv_meet (by omega) (by omega) (by omega) (by omega) (by omega), qn_b]
          rfl
        simp only [g_X8_pairsOfBoth_L17, qn_l2]
        rw [hc.1, C.1, if_neg (nI_ge (by omega) (by omega)), qn_g (by omega) (by omega), nI_clamp (by omega), y3, l1', qn_o, qn_g (by omega) (by omega), hc2.2 30 (by omega), y2, tg, qn_b, nI_1, lN_mul, lN_add, sm]
        rfl
    have LM : ∀ K : Int64 → qe_S → Option (Int64 × qe_S), ∀ q k n s, k + q = qx_M ρ → q < n → qw_6 τ3 s → s.2 0 6 = lN (qw_P ρ 1) → ∃ s', qw_6 τ3 s' ∧ s'.2 0 6 = lN (qw_P ρ 1) ∧ g_X9_both_L76 K (nI u) (nI v) a2 (lN (qw_P ρ 0)) n (lN (qp_S (qb_w ρ u v) k)) (nI k) s = K (lN (qp_S (qb_w ρ u v) (qx_M ρ))) s' := by
      have r12 : τ3.1 0 12 = nI (qx_M ρ) := by rw [k2.1 0 (by omega)]; exact M.1
      intro K q
      induction q with
      | zero =>
        intro k n s hk hn hc hs
        obtain ⟨q, rfl⟩ : ∃ q, n = q + 1 := ⟨n - 1, by omega⟩
        have hkM : k = qx_M ρ := by omega
        refine ⟨s, hc, hs, ?_⟩
        simp only [g_X9_both_L76]
        rw [hc.1, r12, if_pos (nI_le (by omega) (by omega)), hkM]
      | succ q ih =>
        intro k n s hk hn hc hs
        obtain ⟨n, rfl⟩ : ∃ q, n = q + 1 := ⟨n - 1, by omega⟩
        obtain ⟨y1, y2, y3⟩ := M.2 k (by omega)
        have w12 : s.1 12 k = nI (qx_f ρ (qx_c ρ k)) := by rw [hc.1, k2.1 12 (by omega)]; exact y3
        have f12 := qj_f12 w (qx_c ρ k)
        have sm : qp_S (qb_w ρ u v) (k + 1) = qp_S (qb_w ρ u v) k + qb_w ρ u v k := rfl
        simp only [g_X9_both_L76, qn_j2, qn_l2]
        rw [hc.1, r12, if_neg (nI_ge (by omega) (by omega)), ← hc.1, qn_g (by omega) (by omega), nI_clamp (by omega), w12, qz_has9 f12 (by omega), qn_b, qn_if0, nI_1]
        by_cases p1 : (qx_f ρ (qx_c ρ k)).testBit u = true
        · rw [if_pos p1, qn_g (by omega) (by omega), w12, qz_has9 f12 (by omega), qn_b, qn_if0]
          by_cases p2 : (qx_f ρ (qx_c ρ k)).testBit v = true
          · obtain ⟨s2, l1, l2, l3, l4, l5, l6⟩ := qw_arcs w (r := 1) (P := qw_P ρ 1) (b := qx_f ρ (qx_c ρ k)) (by omega) (Nat.pos_of_ne_zero c1) Pb1 f12 (qw_M6 hc.1 x1) (qw_O6 hc.1 x2) hs (o2 := 6) (o3 := 7) (Or.inl ⟨rfl, rfl⟩)
            have l1' : g_X9_arcs 1 6 7 (nI (qx_f ρ (qx_c ρ k))) s = some (if 2147483647 < qw_S ρ 1 (qw_P ρ 1) (qx_f ρ (qx_c ρ k)) (qr_N ρ) then 0 else 1, s2) := l1
            have hc2 := qw_6t hc l2
            obtain ⟨s', g1, g2, g3⟩ := ih (k + 1) n s2 (by omega) (by omega) hc2 l3
            refine ⟨s', g1, g2, ?_⟩
            rw [← g3]
            have v1 := l5 u hu
            have v2 := l5 v hv
            have b1 := qw_f_lt (ρ := ρ) (r := 1) (b := qx_f ρ (qx_c ρ k)) (u := u) (Nat.pos_of_ne_zero c1)
            have b2 := qw_f_lt (ρ := ρ) (r := 1) (b := qx_f ρ (qx_c ρ k)) (u := v) (Nat.pos_of_ne_zero c1)
            have b3 := qw_l_le w (r := 1) (qw_P ρ 1) (qx_f ρ (qx_c ρ k)) (by omega) hu
            have b4 := qw_l_le w (r := 1) (qw_P ρ 1) (qx_f ρ (qx_c ρ k)) (by omega) hv
            have m11 : s2.2 11 k = lN (qx_c ρ (k + 1) - qx_c ρ k) := by rw [hc2.2 11 k (by omega) (by omega), k2.2 11 k (by omega) (by omega)]; exact y2
            rw [if_pos p2, qn_g (by omega) (by omega), w12, l1', qn_b, qn_g (by omega) (by omega), m11, qn_g (by omega) (by omega), qn_g (by omega) (by omega), qn_g (by omega) (by omega), qn_g (by omega) (by omega), nI_clamp (by omega), nI_clamp (by omega), v1.1, v1.2, v2.1, v2.2, l3, qv_over (by omega) (by omega) (by omega) (by omega) (Nat.pos_of_ne_zero c1) (by omega), qn_b, lN_mul, lN_add, sm]
            rfl
          · obtain ⟨s', g1, g2, g3⟩ := ih (k + 1) n s (by omega) (by omega) hc hs
            refine ⟨s', g1, g2, ?_⟩
            have z : qb_w ρ u v k = 0 := by unfold qb_w; rw [qb_t0 (fun z => p2 z.2), Nat.mul_zero]
            rw [sm, z] at g3
            rw [if_neg p2, ← g3]
            rfl
        · obtain ⟨s', g1, g2, g3⟩ := ih (k + 1) n s (by omega) (by omega) hc hs
          refine ⟨s', g1, g2, ?_⟩
          have z : qb_w ρ u v k = 0 := by unfold qb_w; rw [qb_t0 (fun z => p1 z.1), Nat.mul_zero]
          rw [sm, z] at g3
          rw [if_neg p1, ← g3]
          rfl
    obtain ⟨s1, p1, q1⟩ := LC (qx_M ρ) 0 qm_F σ' (by omega) (by rw [qn_F]; omega) ⟨rfl, fun _ _ => rfl⟩
    obtain ⟨s2, p2, r2, q2⟩ := LM (fun (b41 : Int64) (s42 : qe_S) => qm_b (g_X9_lowest b41 (lN (qw_P ρ 0) * (s42.2 0 6)) a2 s42) fun b44 s43 => some (b44, s43)) (qx_M ρ) 0 qm_F τ3 (by omega) (by rw [qn_F]; omega) (qw_6r τ3) x3
    have z0 : lN (qp_S (qb_w ρ u v) 0) = 0 := rfl
    rw [z0, nI_0] at q1 q2
    have mul : qw_P ρ 0 * qw_P ρ 1 ≤ 2147483647 * 2147483647 := Nat.mul_le_mul (by omega) (by omega)
    have mul2 : 0 < qw_P ρ 0 * qw_P ρ 1 := Nat.mul_pos (Nat.pos_of_ne_zero hP) (Nat.pos_of_ne_zero c1)
    have pos : 0 < (lN (qw_P ρ 0) * lN (qw_P ρ 1)).toInt := by
      rw [lN_mul]
      exact qw_lpos (by omega) (by omega)
    unfold g_X8_pairsOfBoth
    rw [e1, qn_o, qn_l, qn_l, q1, qn_b, h6, qn_l, k1, qn_b, qn_l, qn_l, q2, r2, p1.2 22 (by omega), h22]
    exact qz_ok_low (qw_keepC (qw_keepM (qw_keepM h k2) ⟨fun a _ => by rw [p2.1], p2.2⟩) (Or.inr rfl) p1) pos
