/-! DRAWN, TWICE, JUDGE -/
theorem qg_lu33 (x : Int64) : ∃ v, v < 2 ^ 31 ∧ qm_lu x (nI 33) = lN v := by
  refine ⟨(x.toUInt64 >>> ((nI 33).toInt64.toUInt64 &&& Int64.toUInt64 63)).toNat, ?_, ?_⟩
  · have hb : ((nI 33).toInt64.toUInt64 &&& Int64.toUInt64 63).toNat % 64 = 33 := by decide
    rw [UInt64.toNat_shiftRight, hb, Nat.shiftRight_eq_div_pow]
    have h := x.toUInt64.toNat_lt
    omega
  · unfold qm_lu lN
    apply Int64.toBitVec_inj.mp
    show (x.toUInt64 >>> ((nI 33).toInt64.toUInt64 &&& Int64.toUInt64 63)).toBitVec = BitVec.ofNat 64 (x.toUInt64 >>> ((nI 33).toInt64.toUInt64 &&& Int64.toUInt64 63)).toBitVec.toNat
    rw [BitVec.ofNat_toNat]
    simp
theorem qz_drawn : ql_op_drawn qz_R := by
  intro a0 a1 a2 σ τ hR
  have hR0 := hR
  obtain ⟨⟨ρ, w, d, o, m⟩, hI, hW, hT, hL⟩ := hR
  have hN := w.1
  show qz_ok (g_X8_drawn a0 a1 a2 σ) (g_X9_drawn a0 a1 a2 τ)
  unfold g_X8_drawn g_X9_drawn
  refine qz_gUnit w d m (fun _ => qz_ok_no hR0 (-1)) ?_
  rintro u hu rfl
  rw [qr_within]
  by_cases hv : 1 ≤ a1 ∧ a1 ≤ nI 60
  · rw [if_pos hv, qn_b, if_neg qn_10, if_neg (Int32.not_lt.mpr hv.1), if_pos hv.2]
    obtain ⟨K, k1, k2, rfl⟩ := qz_btw (l := 1) (n := 60) (by omega) (by omega) hv
    refine qw_gLay hR0 w d o m (fun τ' h => qz_ok_no h (-7)) (fun σ' τ' hP B h => ?_)
    have Pb := qw_P_lt ρ 0
    have hC := B.2.2.2.2.1
    have h6 := B.2.2.2.2.2.1
    have hV := B.2.2.2.2.2.2.2 u hu
    rw [hC.1, if_pos ((qw_1le (by omega)).mpr hP), qn_l, qn_l, qn_l, qn_l]
    have L : ∀ q i n (c : Int32) (z : Int64), i + q = K → q < n → ∃ r, g_X8_drawn_L70 (nI u) (nI K) n c z (nI i) σ' = some (r, σ') ∧ g_X9_drawn_L55 (nI u) (nI K) n z c (nI i) τ' = some (r, τ') := by
      intro q
      induction q with
      | zero =>
        intro i n c z hi hn
        obtain ⟨q, rfl⟩ : ∃ q, n = q + 1 := ⟨n - 1, by omega⟩
        refine ⟨c, ?_, ?_⟩
        · simp only [g_X8_drawn_L70]
          rw [if_pos (nI_le (by omega) (by omega))]
        · simp only [g_X9_drawn_L55]
          rw [if_pos (nI_le (by omega) (by omega))]
      | succ q ih =>
        intro i n c z hi hn
        obtain ⟨n, rfl⟩ : ∃ q, n = q + 1 := ⟨n - 1, by omega⟩
        obtain ⟨v, v1, v2⟩ := qg_lu33 (z * lN 6364136223846793005 + lN 1442695040888963407)
        have ml := Nat.mod_lt v (show 0 < qw_P ρ 0 by omega)
        have on := qw_choosesC w (s := v % qw_P ρ 0) (u := u) (by omega) (by omega) Pb (qw_E_lt2 ρ) hC (by omega) (by omega)
        have onM := qw_isOn w (b := qw_E ρ) (s := v % qw_P ρ 0) (τ := τ') (r := 0) (by omega) (by omega) Pb hu (by omega)
        simp only [g_X8_drawn_L70, g_X9_drawn_L55, qn_j, qn_l]
        rw [if_neg (nI_ge (by omega) (by omega)), if_neg (nI_ge (by omega) (by omega)), v2, hC.1, h6, qn_zl (qw_lz (by omega) (by omega)), qn_zl (qw_lz (by omega) (by omega)), qw_lr (by omega) (by omega) (by omega), on, qn_b, qn_g (by omega) (by omega), qn_g (by omega) (by omega), nI_clamp (by omega), hV.1, hV.2, onM, qn_b, qn_if0, qn_if0, nI_1]
        by_cases c1 : qw_on ρ 0 (qw_P ρ 0) (qw_E ρ) (v % qw_P ρ 0) u = true
        · rw [if_pos c1, if_pos c1]
          exact ih (i + 1) n (c + 1) _ (by omega) (by omega)
        · rw [if_neg c1, if_neg c1]
          exact ih (i + 1) n c _ (by omega) (by omega)
    obtain ⟨r, e1, e2⟩ := L K 0 qm_F 0 a2 (by omega) (by rw [qn_F]; omega)
    rw [nI_0] at e1 e2
    exact ⟨r, σ', τ', e1, e2, h⟩
  · rw [if_neg hv, qn_b, if_pos rfl]
    by_cases c : a1 < 1
    · rw [if_pos c]; exact qz_ok_no hR0 (-2)
    · rw [if_neg c, if_neg (fun z => hv ⟨Int32.not_lt.mp c, z⟩)]; exact qz_ok_no hR0 (-2)
theorem qw_ch_lt (ρ : qr_R) (r P b s : Nat) : qw_ch ρ r P b s < 2 ^ qr_N ρ := qb_lt _ _
theorem qw_ltC {P j : Nat} (hj : j < 2 ^ 31) (hP : P < 2 ^ 31) : (nI j).toInt64 < lN P ↔ j < P := by
  rw [nI_l hj]
  exact pk_lLT (by omega) (by omega)
theorem qz_twice : ql_op_twice qz_R := by
  intro a0 a1 σ τ hR
  have hR0 := hR
  obtain ⟨⟨ρ, w, d, o, m⟩, hI, hW, hT, hL⟩ := hR
  have hN := w.1
  have Pb := qw_P_lt ρ 0
  have Pb1 := qw_P_lt ρ 1
  show qz_ok (g_X8_twice a0 a1 σ) (g_X9_twice a0 a1 τ)
  have lay1 : ∀ t, qr_M 1 t ρ → ∃ τ', g_X9_lays 1 t = some (if qw_P ρ 1 = 0 then 0 else 1, τ') ∧ qw_fr t τ' ∧ (qw_P ρ 1 ≠ 0 → qw_X ρ 1 τ') := fun t mt => qw_lays w mt (r := 1) (by omega)
  obtain ⟨τ1, e1, e2, e3⟩ := lay1 τ m
  have hR1 := qw_keepM hR0 e2
  have m1 := qz_M (Or.inl rfl) (qw_m_of e2) m
  obtain ⟨τ2, f1, f2, f3⟩ := qw_lays0 w m1
  have hR2 := qw_keepM hR1 f2
  unfold g_X8_twice g_X9_twice g_X8_layWheel
  rw [qw_places0 w d, qn_b, e1, qn_b]
  by_cases c0 : qw_P ρ 0 = 0
  · rw [if_neg (fun z => (qw_1le (by omega)).mp z c0), qn_b, if_pos rfl]
    by_cases c1 : qw_P ρ 1 = 0
    · rw [if_pos c1, if_pos rfl]
      exact qz_ok_no hR1 (-7)
    · rw [if_neg c1, if_neg qn_10, f1, qn_b, if_pos c0, if_pos rfl]
      exact qz_ok_no hR2 (-7)
  · obtain ⟨σ', g1, g2, g3⟩ := qw_lay w (r := 0) (P := qw_P ρ 0) (b := qw_E ρ) (k := 22) (by omega) (by omega) Pb (qw_E_lt2 ρ) d o
    have g1' : g_X7_lay 22 0 (lN (qw_P ρ 0)) (nI (qw_E ρ)) σ = some σ' := g1
    have d' := qw_D1 g2.1 d
    have o' := qw_O1 g2.1 o
    have p1 : g_X3_places 1 σ' = some (lN (qw_P ρ 1), σ') := qw_places w d' (r := 1) (by omega)
    rw [if_pos ((qw_1le (by omega)).mpr c0), qw_evC w d, qn_b, g1', qn_o, qn_b, if_neg qn_10, p1, qn_b]
    by_cases c1 : qw_P ρ 1 = 0
    · rw [if_neg (fun z => (qw_1le (by omega)).mp z c1), if_pos c1, if_pos rfl]
      exact qz_ok_no (qw_keepC hR1 (Or.inl rfl) g2) (-7)
    · obtain ⟨x1, x2, x3, x4, x5, _⟩ := f3 c0
      rw [if_pos ((qw_1le (by omega)).mpr c1), if_neg c1, if_neg qn_10, f1, qn_b, if_neg c0, if_neg qn_10]
      have hR3 := qw_keepC hR2 (Or.inl rfl) g2
      refine qw_gPlace g3.1 x3 Pb (qz_ok_no hR3 (-2)) ?_
      rintro s hs rfl
      have B : qw_B ρ σ' τ2 := ⟨d', o', x1, x2, g3, x3, x4, x5⟩
      obtain ⟨ch1, ch2⟩ := qw_ch0 w (s := s) c0 B (by omega)
      obtain ⟨τ3, h1, h2, h3⟩ := lay1 τ2 x1
      have hR4 := qw_keepM hR3 h2
      obtain ⟨y1, y2, y3, y4, y5, _⟩ := h3 c1
      have cl := qw_ch_lt ρ 0 (qw_P ρ 0) (qw_E ρ) s
      have cl2 : qw_ch ρ 0 (qw_P ρ 0) (qw_E ρ) s < 4096 := Nat.lt_of_lt_of_le cl (Nat.pow_le_pow_right (show 0 < 2 by omega) hN)
      rw [nI_l (by omega), ch2, qn_b, h1, qn_b]
      rcases qn_in_cases a1 (n := qw_P ρ 1) Pb1 with hv | ⟨t, ht, rfl⟩
      · rw [qw_placeM0 y3 hv Pb1, qn_b, if_pos rfl]
        by_cases c2 : a1 < 0
        · rw [if_pos c2]; exact qz_ok_no hR4 (-2)
        · obtain ⟨j, hj, rfl⟩ := nI_of c2
          rw [if_neg c2, if_neg (fun z => hv (vp_in_nI ((qw_ltC hj Pb1).mp z) Pb1))]
          exact qz_ok_no hR4 (-2)
      · obtain ⟨τ4, k1, k2, k3, k4, k5, k6⟩ := qw_arcs w (r := 1) (P := qw_P ρ 1) (by omega) (by omega) Pb1 cl2 y1 y2 y3 (o2 := 6) (o3 := 7) (Or.inl ⟨rfl, rfl⟩)
        have k1' : g_X9_arcs 1 6 7 (nI (qw_ch ρ 0 (qw_P ρ 0) (qw_E ρ) s)) τ3 = some (if 2147483647 < qw_S ρ 1 (qw_P ρ 1) (qw_ch ρ 0 (qw_P ρ 0) (qw_E ρ) s) (qr_N ρ) then 0 else 1, τ4) := k1
        obtain ⟨σ5, l1, l2, l3⟩ := qw_lay w (r := 1) (P := qw_P ρ 1) (k := 25) (by omega) (by omega) Pb1 cl d' o'
        have l1' : g_X7_lay 25 1 (lN (qw_P ρ 1)) (nI (qw_ch ρ 0 (qw_P ρ 0) (qw_E ρ) s)) σ' = some σ5 := l1
        rw [qw_placeM1 y3 ht Pb1, qn_b, if_neg qn_10, k1', qn_b, if_neg (nI_pos (by omega)), if_pos ((qw_ltC (by omega) Pb1).mpr ht), ch1, qn_b, l1', qn_o, nI_l (by omega), qw_chC w (r := 1) (k := 25) (by omega) (by omega) Pb1 cl l3 (by omega), qn_b, qw_chM w (r := 1) (by omega) (by omega) Pb1 (qw_M6 k2.1 y1) k3 k5 (by omega), qn_b]
        refine qz_ok_some (qw_keepC (qw_keepM hR4 ⟨fun a _ => by rw [k2.1], k2.2⟩) (Or.inr rfl) l2)
theorem qz_judge : ql_op_judge qz_R := by
  intro a0 a1 σ τ hR
  have hR0 := hR
  obtain ⟨⟨ρ, w, d, o, m⟩, hI, hW, hT, hL⟩ := hR
  have hN := w.1
  have Pb := qw_P_lt ρ 0
  show qz_ok (g_X8_judge a0 a1 σ) (g_X9_judge a0 a1 τ)
  unfold g_X8_judge g_X9_judge
  rcases qn_in_cases a0 (n := 3) (by omega) with hv | ⟨l, hl, rfl⟩
  · rw [qz_row0 hv, qz_isList0 hv, qn_b, qn_b, if_pos rfl]
    exact qz_ok_no hR0 (-1)
  · obtain ⟨n, n1, n2, n3, n4⟩ := hL l hl
    rw [qz_row1 hl, qz_isList1 hl, qn_b, qn_b, if_neg qn_10]
    show qz_ok (qm_w (42 + 2 * l) (if (0 : Int32) ≤ a1 then _ else _)) _
    unfold qm_w
    rw [if_pos (show 42 + 2 * l = 42 ∨ 42 + 2 * l = 44 ∨ 42 + 2 * l = 46 by omega)]
    by_cases c1 : (0 : Int32) ≤ a1
    · obtain ⟨t, ht, rfl⟩ := nI_of (Int32.not_lt.mpr c1)
      rw [if_pos c1, if_pos c1, qn_g hl (by omega), qn_l, nI_clamp (by omega), n3, n2]
      by_cases c2 : n = 0
      · subst c2
        rw [if_neg (by decide), if_pos nI_0]
        exact qz_ok_no hR0 (-11)
      · obtain ⟨k, rfl⟩ : ∃ k, n = k + 1 := ⟨n - 1, by omega⟩
        obtain ⟨τ', e1, e2, e3⟩ := qw_lays0 w m
        have hR2 := qw_keepM hR0 e2
        rw [nI_pred, if_pos (nI_pos' (by omega)), if_neg (nI_ne0 (by omega) (by omega)), qw_places0 w d, qn_b, e1, qn_b]
        by_cases c : qw_P ρ 0 = 0
        · rw [if_neg (fun z => (qw_1le (by omega)).mp z c), if_pos c, if_pos rfl]
          exact qz_ok_no hR2 (-7)
        · obtain ⟨x1, x2, x3, x4, x5, _⟩ := e3 c
          rw [if_pos ((qw_1le (by omega)).mpr c), if_neg c, if_neg qn_10, qn_l, qn_l]
          have t17 : τ'.1 17 l = nI (k + 1) := by rw [e2.1 17 (by omega)]; exact n3
          have t18 : ∀ j, τ'.2 18 j = τ.2 18 j := fun j => e2.2 18 j (by omega) (by omega)
          rw [nI_pred] at n2
          have L : ∀ q i n, i + q = qr_N ρ → q < n → ∃ r, g_X8_judge_L61 (nI t) (42 + 2 * l) (lN (qw_P ρ 0)) n (nI i) σ = some (r, σ) ∧ g_X9_judge_L50 (nI l) (nI t) n (nI i) τ' = some (r, τ') := by
            intro q
            induction q with
            | zero =>
              intro i n hi hn
              obtain ⟨q, rfl⟩ : ∃ q, n = q + 1 := ⟨n - 1, by omega⟩
              refine ⟨-5, ?_, ?_⟩
              · simp only [g_X8_judge_L61]
                rw [d.1, if_pos (nI_le (by omega) (by omega))]
              · simp only [g_X9_judge_L50]
                rw [qn_g0 (by omega) (by omega), qn_l, qr_clamp0, x1.1, if_pos (nI_le (by omega) (by omega))]
            | succ q ih =>
              intro i n hi hn
              obtain ⟨n, rfl⟩ : ∃ q, n = q + 1 := ⟨n - 1, by omega⟩
              have hu : i < qr_N ρ := by omega
              have s1 : (nI k - nI i).toInt = (k : Int) - i := pk_sub_toInt (by omega) (by omega)
              have cC : nI t < nI k - nI i ↔ t + i < k := by
                rw [Int32.lt_iff_toInt_lt, s1, nI_toInt ht]
                omega
              have cM : (nI t).toInt64 + (nI i).toInt64 < (nI (k + 1) - 1).toInt64 ↔ t + i < k := by
                rw [nI_pred, nI_l ht, nI_l (by omega), nI_l (by omega), lN_add]
                exact pk_lLT (by omega) (by omega)
              have pC : g_X3_partsOf (nI i) 0 (lN (qw_P ρ 0)) σ = some (lN (qw_p ρ 0 (qw_P ρ 0) i), σ) := qw_partsC w d (r := 0) (by omega) hu Pb
              have v7 : τ'.2 7 i = lN (qw_p ρ 0 (qw_P ρ 0) i) := by
                have := (x5 i hu).2
                rw [qw_l_E hu] at this
                exact this
              simp only [g_X8_judge_L61, g_X9_judge_L50, qn_l, qr_clamp0]
              rw [d.1, if_neg (nI_ge hu (by omega)), qn_g0 (by omega) (by omega), x1.1, if_neg (nI_ge hu (by omega)), qn_g hl (by omega), nI_clamp (by omega), t17, n2]
              by_cases c3 : t + i < k
              · have v18 : σ.2 (42 + 2 * l + 1) (t + i) = τ.2 18 (15 * l + (t + i)) := by
                  rw [show 42 + 2 * l + 1 = 43 + 2 * l by omega]
                  exact n4 (t + i) (by omega)
                rw [if_pos (cC.mpr c3), if_pos (cM.mpr c3), nI_add, qn_g (by omega) (by omega), nI_clamp (by omega), pC, qn_b, pk_mul, nI_add, nI_add, qn_g (by omega) (by omega), qn_g (by omega) (by omega), nI_clamp (by omega), nI_clamp (by omega), v7, t18, v18, show 15 * l + t + i = 15 * l + (t + i) by omega]
                by_cases c4 : τ.2 18 (15 * l + (t + i)) = lN (qw_p ρ 0 (qw_P ρ 0) i)
                · rw [if_pos c4, if_pos c4, nI_1]
                  exact ih (i + 1) n (by omega) (by omega)
                · rw [if_neg c4, if_neg c4]
                  exact ⟨nI i, rfl, rfl⟩
              · rw [if_neg (fun z => c3 (cC.mp z)), if_neg (fun z => c3 (cM.mp z))]
                exact ⟨_, rfl, rfl⟩
          obtain ⟨r, r1, r2⟩ := L (qr_N ρ) 0 qm_F (by omega) (by rw [qn_F]; omega)
          rw [nI_0] at r1 r2
          exact ⟨r, σ, τ', r1, r2, hR2⟩
    · rw [if_neg c1, if_neg c1]
      exact qz_ok_no hR0 (-1)
