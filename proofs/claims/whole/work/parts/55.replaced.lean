/-! REPLACED, SUBSTITUTE, FINALS -/
theorem qf_keep {σ σ' τ τ' : qe_S} (hR : qz_R σ τ) (h : qf_cf σ σ') (g : qf_mf τ τ') : qz_R σ' τ' :=
  qz_keep hR ⟨by rw [h.1 0 (by omega) (by omega)], fun k _ _ => h.1 k (by omega) (by omega), by rw [h.1 37 (by omega) (by omega)], h.1 39 (by omega) (by omega), fun k _ _ => ⟨h.1 k (by omega) (by omega), by rw [h.2]⟩⟩ ⟨by rw [g.1 0 (by omega)], by rw [g.1 0 (by omega)], g.1 1 (by omega), g.1 2 (by omega), g.1 15 (by omega), g.1 17 (by omega), by rw [g.2]⟩ (qz_W_of hR.2.2.1 (h.1 40 (by omega) (by omega)) (g.1 4 (by omega)))
theorem qf_mn {v : Int32} (h : v = 0 ∨ v = 1) : ∃ mn : Bool, v = if mn then 1 else 0 := by
  rcases h with h | h
  · exact ⟨false, h⟩
  · exact ⟨true, h⟩
theorem qz_replaced : ql_op_replaced qz_R := by
  intro a0 a1 σ τ hR
  have hR0 := hR
  obtain ⟨⟨ρ, w, d, o, m⟩, hI, hW, hT, hL⟩ := hR
  have Pb := qw_P_lt ρ 0
  show qz_ok (g_X8_replaced a0 a1 σ) (g_X9_replaced a0 a1 τ)
  unfold g_X8_replaced g_X9_replaced
  refine qz_gManner (qz_ok_no hR0 (-1)) (fun hv => ?_)
  obtain ⟨mn, hm⟩ := qf_mn hv
  refine qw_gLay hR0 w d o m (fun τ' h => qz_ok_no h (-7)) (fun σ' τ' hP B h => ?_)
  refine qw_gPlace B.2.2.2.2.1.1 B.2.2.2.2.2.1 Pb (qz_ok_no h (-2)) ?_
  rintro s hs rfl
  obtain ⟨c1, c2⟩ := qw_ch0 w (s := s) hP B (by omega)
  have cl := qw_ch_lt ρ 0 (qw_P ρ 0) (qw_E ρ) s
  obtain ⟨σ2, e1, e2, e3, e4⟩ := qf_C w (mn := mn) cl hm B.1 B.2.1
  obtain ⟨τ2, g1, g2, g3⟩ := qf_M w (mn := mn) cl hm B.2.2.1 B.2.2.2.1
  rw [nI_l (by omega), c1, c2, qn_b, qn_b, e1, qn_o, g1, qn_b, e3]
  exact qz_ok_some (qf_keep h e2 g2)
theorem qz_substitute : ql_op_substitute qz_R := by
  intro a0 a1 a2 σ τ hR
  have hR0 := hR
  obtain ⟨⟨ρ, w, d, o, m⟩, hI, hW, hT, hL⟩ := hR
  have hN := w.1
  have Pb := qw_P_lt ρ 0
  show qz_ok (g_X8_substitute a0 a1 a2 σ) (g_X9_substitute a0 a1 a2 τ)
  unfold g_X8_substitute g_X9_substitute
  refine qz_gUnit w d m (fun _ => qz_ok_no hR0 (-1)) ?_
  rintro u hu rfl
  refine qz_gManner (qz_ok_no hR0 (-1)) (fun hv => ?_)
  obtain ⟨mn, hm⟩ := qf_mn hv
  refine qw_gLay hR0 w d o m (fun τ' h => qz_ok_no h (-7)) (fun σ' τ' hP B h => ?_)
  refine qw_gPlace B.2.2.2.2.1.1 B.2.2.2.2.2.1 Pb (qz_ok_no h (-2)) ?_
  rintro s hs rfl
  obtain ⟨c1, c2⟩ := qw_ch0 w (s := s) hP B (by omega)
  have cl := qw_ch_lt ρ 0 (qw_P ρ 0) (qw_E ρ) s
  have c12 := qf_12 cl hN
  generalize qw_ch ρ 0 (qw_P ρ 0) (qw_E ρ) s = b at c1 c2 cl c12
  have df := (B.2.2.1.2.2.1 u hu).2.2.2
  rw [nI_l (by omega), c1, c2, qn_b, qn_b, qz_isIn c12 (by omega), qz_has9 c12 (by omega), qn_b, qn_b, qn_if0, qn_if0]
  by_cases b1 : b.testBit u = true
  · rw [if_pos b1, if_pos b1, qz_isRef w B.1 hu, qn_b, qn_if0, nI_add, qn_g (by omega) (by omega), qn_l, nI_clamp (n := 38 + u) (by omega), df, qn_if0]
    by_cases b2 : qr_f ρ u = true
    · obtain ⟨σ2, e1, e2, e3, e4⟩ := qf_C w (mn := mn) cl hm B.1 B.2.1
      obtain ⟨τ2, g1, g2, g3⟩ := qf_M w (mn := mn) cl hm B.2.2.1 B.2.2.2.1
      obtain ⟨hp, he⟩ := qr_pos_ex w hu
      have both : (qr_f ρ (qr_t ρ (qr_pos ρ u)) && b.testBit (qr_t ρ (qr_pos ρ u))) = true := by rw [he, b1, b2]; rfl
      have v1 := e4 _ hp both
      have v2 := g3 _ hp both
      rw [he] at v1 v2
      have h2 := qf_keep h e2 g2
      have fl := qf_find_lt w (bar := b ||| qf_R ρ ||| qf_T ρ b mn (qr_pos ρ u)) (k := qr_pos ρ u) (mn := mn) (show 0 < qr_N ρ by omega) (qr_N ρ - 1)
      rw [if_pos b2, if_pos b2, e1, qn_o, g1, qn_b, qn_g (by omega) (by omega), qn_l, qn_g (by omega) (by omega), qn_l, nI_clamp (by omega), v1, v2]
      cases hf : qf_u ρ b mn (qr_pos ρ u) with
      | none =>
        rw [if_pos (show (qf_o (-1) none : Int32) < 0 by decide), if_pos (show (qf_o (-5) none : Int32) = -5 from rfl)]
        exact qz_ok_no h2 (-5)
      | some v =>
        have vl := fl v hf
        rw [if_neg (show ¬ qf_o (-1) (some v) < 0 from nI_pos (by omega)), if_neg (show ¬ qf_o (-5) (some v) = -5 from qf_n5 (by omega)), qn_g (by omega) (by omega), qn_l]
        exact qz_ok_some h2
    · rw [if_neg b2, if_neg b2]
      exact qz_ok_no h (-3)
  · rw [if_neg b1, if_neg b1]
    exact qz_ok_no h (-3)
def qf_w (ρ : qr_R) (mn : Bool) (u k : Nat) : Nat := if (qf_E ρ (qx_f ρ (qx_c ρ k)) mn).testBit u = true then qx_c ρ (k + 1) - qx_c ρ k else 0
theorem qz_finals : ql_op_finals qz_R := by
  intro a0 a1 a2 σ τ hR
  have hR0 := hR
  obtain ⟨⟨ρ, w, d, o, m⟩, hI, hW, hT, hL⟩ := hR
  have hN := w.1
  have Pb : qx_P ρ < 2 ^ 31 := qw_P_lt ρ 0
  show qz_ok (g_X8_finals a0 a1 a2 σ) (g_X9_finals a0 a1 a2 τ)
  unfold g_X8_finals g_X9_finals
  refine qz_gUnit w d m (fun _ => qz_ok_noL hR0 (-1)) ?_
  rintro u hu rfl
  refine qz_gManner (qz_ok_noL hR0 (-1)) (fun hv => ?_)
  obtain ⟨mn, hm⟩ := qf_mn hv
  refine qz_gPart (qz_ok_noL hR0 (-2)) (fun _ => ?_)
  refine qy_gRef hR0 w d o m (fun τ' h => qz_ok_noL h (-7)) (fun σ1 τ' hP B1 M h1 => ?_)
  obtain ⟨σ', e1, B, C, h, _⟩ := qy_tr w hP B1 h1
  obtain ⟨M1, M2, M3, M4⟩ := qx_M_ok w hP
  have h6 : τ'.2 0 6 = lN (qx_P ρ) := B.2.2.2.2.2.1
  have h22 : σ'.2 22 0 = lN (qx_P ρ) := B.2.2.2.2.1.1
  have LC : ∀ K : Int64 → qe_S → Option (Int64 × qe_S), ∀ q k n s, k + q = qx_M ρ → q < n → qf_cf σ' s → ∃ s', qf_cf σ' s' ∧ g_X8_finals_L69 K (nI u) a1 a2 n (lN (qp_S (qf_w ρ mn u) k)) (nI k) s = K (lN (qp_S (qf_w ρ mn u) (qx_M ρ))) s' := by
    intro K q
    induction q with
    | zero =>
      intro k n s hk hn hc
      obtain ⟨q, rfl⟩ : ∃ q, n = q + 1 := ⟨n - 1, by omega⟩
      have hkM : k = qx_M ρ := by omega
      refine ⟨s, hc, ?_⟩
      simp only [g_X8_finals_L69]
      rw [hc.1 28 (by omega) (by omega), C.1, if_pos (nI_le (by omega) (by omega)), hkM]
    | succ q ih =>
      intro k n s hk hn hc
      obtain ⟨n, rfl⟩ : ∃ q, n = q + 1 := ⟨n - 1, by omega⟩
      obtain ⟨x1, x2, x3⟩ := C.2 k (by omega)
      obtain ⟨s2, f1, f2, f3, f4⟩ := qf_C w (mn := mn) (qw_ch_lt ρ 0 (qw_P ρ 0) (qw_E ρ) (qx_c ρ k)) hm (qf_D hc B.1) (qf_O hc B.2.1)
      have hc2 : qf_cf σ' s2 := ⟨fun a p1 p2 => (f2.1 a p1 p2).trans (hc.1 a p1 p2), f2.2.trans hc.2⟩
      obtain ⟨s', g1, g2⟩ := ih (k + 1) n s2 (by omega) (by omega) hc2
      refine ⟨s', g1, ?_⟩
      rw [← g2]
      have sm : qp_S (qf_w ρ mn u) (k + 1) = qp_S (qf_w ρ mn u) k + qf_w ρ mn u k := rfl
      have f1' : g_X2_settle (nI (qx_f ρ (qx_c ρ k))) a1 s = some s2 := f1
      have f3' : s2.1 35 0 = nI (qf_E ρ (qx_f ρ (qx_c ρ k)) mn) := f3
      simp only [g_X8_finals_L69, qn_j2, qn_l2]
      rw [hc.1 28 (by omega) (by omega), C.1, if_neg (nI_ge (by omega) (by omega)), qn_g (by omega) (by omega), nI_clamp (by omega), hc.1 31 (by omega) (by omega), x3, f1', qn_o, f3', qz_isIn (qf_E_lt w _ _) (by omega), qn_b, qn_if0, nI_1, sm]
      unfold qf_w
      by_cases c1 : (qf_E ρ (qx_f ρ (qx_c ρ k)) mn).testBit u = true
      · rw [if_pos c1, if_pos c1, qn_g (by omega) (by omega), hc2.2, x2, lN_add]
      · rw [if_neg c1, if_neg c1]; simp only [Nat.add_zero]
  have LM : ∀ K : Int64 → qe_S → Option (Int64 × qe_S), ∀ q k n s, k + q = qx_M ρ → q < n → qf_mf τ' s → ∃ s', qf_mf τ' s' ∧ g_X9_finals_L55 K (nI u) a1 a2 n (lN (qp_S (qf_w ρ mn u) k)) (nI k) s = K (lN (qp_S (qf_w ρ mn u) (qx_M ρ))) s' := by
    intro K q
    induction q with
    | zero =>
      intro k n s hk hn hc
      obtain ⟨q, rfl⟩ : ∃ q, n = q + 1 := ⟨n - 1, by omega⟩
      have hkM : k = qx_M ρ := by omega
      refine ⟨s, hc, ?_⟩
      simp only [g_X9_finals_L55]
      rw [hc.1 0 (by omega), M.1, if_pos (nI_le (by omega) (by omega)), hkM]
    | succ q ih =>
      intro k n s hk hn hc
      obtain ⟨n, rfl⟩ : ∃ q, n = q + 1 := ⟨n - 1, by omega⟩
      obtain ⟨y1, y2, y3⟩ := M.2 k (by omega)
      obtain ⟨s2, f1, f2, f3⟩ := qf_M w (mn := mn) (qw_ch_lt ρ 0 (qw_P ρ 0) (qw_E ρ) (qx_c ρ k)) hm (qf_Mm hc B.2.2.1) (qf_Om hc B.2.2.2.1)
      have hc2 : qf_mf τ' s2 := ⟨fun a p1 => (f2.1 a p1).trans (hc.1 a p1), f2.2.trans hc.2⟩
      obtain ⟨s', g1, g2⟩ := ih (k + 1) n s2 (by omega) (by omega) hc2
      refine ⟨s', g1, ?_⟩
      rw [← g2]
      have sm : qp_S (qf_w ρ mn u) (k + 1) = qp_S (qf_w ρ mn u) k + qf_w ρ mn u k := rfl
      have f1' : g_X9_finalOf (nI (qx_f ρ (qx_c ρ k))) a1 s = some (nI (qf_E ρ (qx_f ρ (qx_c ρ k)) mn), s2) := f1
      simp only [g_X9_finals_L55, qn_j2, qn_l2]
      rw [hc.1 0 (by omega), M.1, if_neg (nI_ge (by omega) (by omega)), qn_g (by omega) (by omega), nI_clamp (by omega), hc.1 12 (by omega), y3, f1', qn_b, qz_has9 (qf_E_lt w _ _) (by omega), qn_b, qn_if0, nI_1, sm]
      unfold qf_w
      by_cases c1 : (qf_E ρ (qx_f ρ (qx_c ρ k)) mn).testBit u = true
      · rw [if_pos c1, if_pos c1, qn_g (by omega) (by omega), hc2.2, y2, lN_add]
      · rw [if_neg c1, if_neg c1]; simp only [Nat.add_zero]
  obtain ⟨s1, p1, q1⟩ := LC (fun (b24 : Int64) (s25 : qe_S) => qm_b (g_X8_lowest b24 (s25.2 22 0) a2 s25) fun b27 s26 => some (b27, s26)) (qx_M ρ) 0 qm_F σ' (by omega) (by rw [qn_F]; omega) ⟨fun _ _ _ => rfl, rfl⟩
  obtain ⟨s2, p2, q2⟩ := LM (fun (b24 : Int64) (s25 : qe_S) => qm_b (g_X9_lowest b24 (s25.2 0 6) a2 s25) fun b27 s26 => some (b27, s26)) (qx_M ρ) 0 qm_F τ' (by omega) (by rw [qn_F]; omega) ⟨fun _ _ => rfl, rfl⟩
  have z0 : lN (qp_S (qf_w ρ mn u) 0) = 0 := rfl
  rw [z0, nI_0] at q1 q2
  rw [e1, qn_o, qn_l, qn_l, q1, qn_l, qn_l, q2, p1.2, p2.2, h22, h6]
  exact qz_ok_low (qf_keep h p1 p2) (qw_lpos hP (by omega))
