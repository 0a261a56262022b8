/-! COUNT, AT, ORDER; a new roster -/
theorem qz_new {σ σ' τ τ' : qe_S} (hR : qz_R σ τ) (hc : ∀ k, (k < 1 ∨ 7 < k) → σ'.1 k = σ.1 k) (hs : σ'.2 = σ.2) (hm : ∀ k, k ≠ 1 → k ≠ 5 → τ'.1 k = τ.1 k) (ht : τ'.2 = τ.2) (hV : qz_V σ' τ') : qz_R σ' τ' := by
  obtain ⟨_, hI, hW, hT, hL⟩ := hR
  refine ⟨hV, ?_, ?_, ?_, ?_⟩
  · unfold qz_I qr_D qr_O qr_M
    rw [hc 0 (by omega), hm 0 (by omega) (by omega), hc 8 (by omega), hc (8 + 1) (by omega), hc (8 + 2) (by omega), hc (8 + 3) (by omega), hc (8 + 4) (by omega), hc (8 + 5) (by omega), hc (8 + 6) (by omega), hm 2 (by omega) (by omega)]
    exact hI
  · unfold qz_W
    rw [hc 40 (by omega), hm 4 (by omega) (by omega)]
    exact hW
  · unfold qz_T
    rw [hc 37 (by omega), hc 39 (by omega), hm 0 (by omega) (by omega), hm 15 (by omega) (by omega)]
    exact hT
  · intro l hl
    rw [hc (42 + 2 * l) (by omega), hm 17 (by omega) (by omega), hs, ht]
    exact hL l hl
theorem qz_shl0 : ∀ u, u < 12 → (0 : Int32) <<< (nI u &&& 31) = 0 := by decide +kernel
theorem qz_count_L {ρ : qr_R} (hw : qr_wf ρ) {τ : qe_S} (hM : qr_M 1 τ ρ) : ∀ (r i n : Nat), r + i = qr_N ρ → r < n → g_X9_count_L41 n (nI (qb_s (qr_f ρ) i)) (nI i) τ = some (nI (qb_s (qr_f ρ) (qr_N ρ)), τ) := by
  intro r
  have hN := hw.1
  induction r with
  | zero =>
    intro i n hr hn
    obtain ⟨m, rfl⟩ : ∃ m, n = m + 1 := ⟨n - 1, by omega⟩
    have e : i = qr_N ρ := by omega
    simp only [g_X9_count_L41]
    rw [qn_g0 (by omega) (by omega), qn_l, qr_clamp0, hM.1, if_pos (nI_le (by omega) (by omega)), e]
  | succ r ih =>
    intro i n hr hn
    obtain ⟨m, rfl⟩ : ∃ m, n = m + 1 := ⟨n - 1, by omega⟩
    have hi : i < qr_N ρ := by omega
    simp only [g_X9_count_L41]
    rw [qn_g0 (by omega) (by omega), qn_l, qr_clamp0, hM.1, if_neg (nI_ge hi (by omega)), nI_add, qn_g (by omega) (by omega), qn_l, nI_clamp (by omega), (hM.2.2.1 i hi).2.2.2, qn_l, qn_l, nI_1]
    have e : ((if qr_f ρ i then 1 else 0 : Int32) <<< (nI i &&& 31)) = nI (if qr_f ρ i then 2 ^ i else 0) := by
      by_cases h : qr_f ρ i = true
      · rw [if_pos h, if_pos h, qb_shl (by omega)]
      · rw [if_neg h, if_neg h, qz_shl0 i (by omega)]; rfl
    rw [e, qb_nor, qb_or]
    exact ih (i + 1) m (by omega) (by omega)
theorem qz_count : ql_op_count qz_R := by
  intro a0 σ τ hR
  have hR0 := hR
  obtain ⟨⟨ρ, w, d, o, m⟩, hI, hW, ⟨n, hn, t1, t2, t3⟩, hL⟩ := hR
  have hN := w.1
  by_cases h : 0 ≤ a0 ∧ a0 ≤ nI 3
  · obtain ⟨j, hj, rfl⟩ : ∃ j, j ≤ 3 ∧ a0 = nI j := nI_of2 (M := nI 3) (by decide) (Int32.not_lt.mpr h.1) h.2
    obtain rfl | rfl | rfl | rfl : j = 0 ∨ j = 1 ∨ j = 2 ∨ j = 3 := by omega
    · refine ⟨σ.1 1 0, σ, τ, rfl, ?_, hR0⟩
      unfold g_X9_count
      rw [qr_within, if_pos h, qn_b, if_neg qn_10, if_neg (nI_ge (by omega) (by omega)), qn_g (by omega) (by omega), qn_l, nI_clamp (by omega), m.1, d.1]
    · refine ⟨σ.1 1 2, σ, τ, rfl, ?_, hR0⟩
      unfold g_X9_count
      rw [qr_within, if_pos h, qn_b, if_neg qn_10, if_neg (nI_ge (by omega) (by omega)), qn_g (by omega) (by omega), qn_l, nI_clamp (by omega), m.2.1, d.2.2.1]
    · refine ⟨σ.1 37 0, σ, τ, rfl, ?_, hR0⟩
      unfold g_X9_count
      rw [qr_within, if_pos h, qn_b, if_neg qn_10, if_pos (nI_le (by omega) (by omega)), if_pos rfl, t2, t1]
    · refine ⟨σ.1 1 1, σ, τ, rfl, ?_, hR0⟩
      have c := qz_count_L w m (qr_N ρ) 0 qm_F (by omega) (by rw [qn_F]; omega)
      rw [nI_0, show nI (qb_s (qr_f ρ) 0) = 0 from rfl] at c
      unfold g_X9_count
      rw [qr_within, if_pos h, qn_b, if_neg qn_10, if_pos (nI_le (by omega) (by omega)), if_neg (by decide), qn_l, qn_l, c, d.2.1]
  · obtain ⟨σ', τ', e1, e2, hR'⟩ := qz_no hR0 (-1)
    refine ⟨-1, σ', τ', ?_, ?_, hR'⟩
    · unfold g_X8_count
      have n0 : ∀ j, j ≤ 3 → ¬ a0 = nI j := fun j hj e => h (by rw [e]; exact ⟨nI_pos' (by omega), nI_le hj (by omega)⟩)
      rw [if_neg (show ¬ a0 = 0 from n0 0 (by omega)), if_neg (show ¬ a0 = 1 from n0 1 (by omega)), if_neg (n0 2 (by omega)), if_neg (n0 3 (by omega)), e1, qn_b]
    · unfold g_X9_count
      rw [qr_within, if_neg h, qn_b, if_pos rfl, e2, qn_b]
theorem qz_at : ql_op_at qz_R := by
  intro a0 σ τ hR
  have hR0 := hR
  obtain ⟨⟨ρ, w, d, o, m⟩, hI, hW, hT, hL⟩ := hR
  have hN := w.1
  rcases qn_in_cases a0 (n := qr_N ρ) (by omega) with h | ⟨i, hi, rfl⟩
  · obtain ⟨σ', τ', e1, e2, hR'⟩ := qz_no hR0 (-1)
    refine ⟨-1, σ', τ', ?_, ?_, hR'⟩
    · have c : g_X3_unitAt a0 σ = some (-1, σ) := by
        unfold g_X3_unitAt
        rw [qn_j, d.1]
        rw [qn_in_iff (by omega)] at h
        by_cases h1 : a0 < 0
        · rw [if_pos h1]
        · rw [if_neg h1, if_pos (Int32.not_lt.mp fun z => h ⟨h1, z⟩)]
      unfold g_X8_at g_X8_answered
      rw [c, qn_b, if_neg (by decide), e1, qn_b, qn_b]
    · unfold g_X9_at
      rw [qr_isUnit0 m.1 hN h, qn_b, if_pos rfl, e2, qn_b]
  · obtain ⟨τ', f1, f2, f3⟩ := qr_inorder w m
    refine ⟨nI (qr_ord ρ (qr_N ρ) i), σ, τ', ?_, ?_, ?_⟩
    · have lt := qr_ord_lt w (Nat.le_refl (qr_N ρ)) hi
      unfold g_X8_at g_X3_unitAt g_X8_answered
      rw [qn_j, d.1, if_neg (nI_pos (by omega)), if_neg (nI_ge hi (by omega)), qn_g (by omega) (by omega), qn_l, nI_clamp (by omega), o i hi, qn_b, if_pos (nI_pos' (by omega)), qn_b]
    · unfold g_X9_at
      rw [qr_isUnit1 m.1 hN hi, qn_b, if_neg qn_10, f1, qn_o, qn_g (by omega) (by omega), qn_l, nI_clamp (by omega), f3 i hi]
    · exact qz_new hR0 (fun _ _ => rfl) rfl (fun k _ h5 => f2.2 k h5) f2.1 ⟨ρ, w, d, o, qr_M_on f2 m (by omega)⟩
theorem qz_order : ql_op_order qz_R := by
  intro a0 σ τ hR
  have hR0 := hR
  obtain ⟨⟨ρ, w, d, o, m⟩, hI, hW, hT, hL⟩ := hR
  have hN := w.1
  by_cases h : 0 ≤ a0 ∧ a0 ≤ nI 5
  · have hin : vp_in a0 6 := by
      obtain ⟨j, hj, rfl⟩ : ∃ j, j ≤ 5 ∧ a0 = nI j := nI_of2 (M := nI 5) (by decide) (Int32.not_lt.mpr h.1) h.2
      exact qz_in (by omega) (by omega)
    have hw2 : qr_wf (qr_N ρ, a0, ρ.2.2) := ⟨w.1, hin, w.2.2⟩
    have d2 : qr_D 1 (qe_si σ 1 2 a0) (qr_N ρ, a0, ρ.2.2) := ⟨d.1, d.2.1, rfl, d.2.2.2⟩
    have m2 : qr_M 1 (qe_si τ 1 1 a0) (qr_N ρ, a0, ρ.2.2) := by
      refine ⟨m.1, rfl, fun u hu => ?_, fun r u hr hu => ?_⟩
      · rw [qn_si_j (by omega), qn_si_j (by omega), qn_si_j (by omega), qn_si_j (by omega)]
        exact m.2.2.1 u hu
      · rw [qn_si_j (by omega), qn_si_j (by omega)]
        exact m.2.2.2 r u hr hu
    obtain ⟨σ', e1, e2, e3⟩ := qr_arrange hw2 d2
    obtain ⟨j, hj, hj2⟩ : ∃ j, j < 6 ∧ qr_o ρ = nI j := by
      rcases qn_in_cases (qr_o ρ) (n := 6) (by omega) with z | z
      · exact absurd w.2.1 z
      · exact z
    refine ⟨qr_o ρ, σ', qe_si τ 1 1 a0, ?_, ?_, ?_⟩
    · unfold g_X8_order g_X3_changeOrder g_X8_answered
      rw [if_neg (Int32.not_lt.mpr h.1), if_pos h.2, qn_l, qn_l, e1, qn_o, qn_b, d.2.2.1, if_pos (by rw [hj2]; exact nI_pos' (by omega)), qn_b]
    · unfold g_X9_order
      rw [qr_within, if_pos h, qn_b, if_neg qn_10, qn_g1 (by omega) (by omega), qn_l, qn_g1 (by omega) (by omega), qn_l, qr_clamp1, m.2.1]
    · exact qz_new hR0 (fun k hk => by rw [e2.2 k (by omega)]; funext x; exact qn_si_k (by omega)) (e2.1.trans rfl) (fun k h1 _ => by funext x; exact qn_si_k h1) rfl ⟨_, hw2, qr_D_on e2 d2 (by omega), e3, m2⟩
  · obtain ⟨σ', τ', e1, e2, hR'⟩ := qz_no hR0 (-2)
    refine ⟨-2, σ', τ', ?_, ?_, hR'⟩
    · have c : g_X3_changeOrder a0 σ = some (-2, σ) := by
        unfold g_X3_changeOrder
        by_cases h1 : a0 < 0
        · rw [if_pos h1]
        · rw [if_neg h1, if_neg (fun z => h ⟨Int32.not_lt.mp h1, z⟩)]
      unfold g_X8_order g_X8_answered
      rw [c, qn_b, if_neg (by decide), e1, qn_b, qn_b]
    · unfold g_X9_order
      rw [qr_within, if_neg h, qn_b, if_pos rfl, e2, qn_b]
