/-! FEED, LIST, PUT, LOOK -/
theorem qz_lists {σ σ' τ τ' : qe_S} (hR : qz_R σ τ) (hc : ∀ k, k < 42 → σ'.1 k = σ.1 k) (hm : ∀ k, k ≠ 17 → τ'.1 k = τ.1 k) (hL : qz_L σ' τ') : qz_R σ' τ' := by
  obtain ⟨⟨ρ, w, d, o, m⟩, hI, hW, hT, _⟩ := hR
  refine ⟨⟨ρ, w, ?_, ?_, ?_⟩, ?_, ?_, ?_, hL⟩
  · unfold qr_D
    rw [hc 1 (by omega), hc (1 + 1) (by omega), hc (1 + 2) (by omega), hc (1 + 3) (by omega), hc (1 + 5) (by omega), hc (1 + 6) (by omega)]
    exact d
  · unfold qr_O
    rw [hc (1 + 4) (by omega)]
    exact o
  · unfold qr_M
    rw [hm 1 (by omega)]
    exact m
  · unfold qz_I qr_D qr_O qr_M
    rw [hc 0 (by omega), hm 0 (by omega), hc 8 (by omega), hc (8 + 1) (by omega), hc (8 + 2) (by omega), hc (8 + 3) (by omega), hc (8 + 4) (by omega), hc (8 + 5) (by omega), hc (8 + 6) (by omega), hm 2 (by omega)]
    exact hI
  · unfold qz_W
    rw [hc 40 (by omega), hm 4 (by omega)]
    exact hW
  · unfold qz_T
    rw [hc 37 (by omega), hc 39 (by omega), hm 0 (by omega), hm 15 (by omega)]
    exact hT
theorem qz_row1 {j : Nat} (h : j < 3) (σ : qe_S) : g_X8_rowOf (nI j) σ = some (.ref (42 + 2 * j), σ) := by
  unfold g_X8_rowOf
  rw [qn_j, if_neg (nI_pos (by omega)), if_neg (nI_ge h (by omega)), qn_g h (by omega), nI_clamp (by omega)]
  obtain rfl | rfl | rfl : j = 0 ∨ j = 1 ∨ j = 2 := by omega
  · rfl
  · rfl
  · rfl
theorem qz_row0 {v : Int32} (h : ¬ vp_in v 3) (σ : qe_S) : g_X8_rowOf v σ = some (.null, σ) := by
  rw [qn_in_iff (by omega)] at h
  unfold g_X8_rowOf
  rw [qn_j]
  by_cases h1 : v < 0
  · rw [if_pos h1]
  · rw [if_neg h1, if_pos (Int32.not_lt.mp fun z => h ⟨h1, z⟩)]
theorem qz_le2 (v : Int32) {n : Nat} (hn : n < 1000) : (0 ≤ v ∧ v ≤ nI (n + 1) - nI 2) ↔ vp_in v n := by
  rw [qn_in_iff (by omega)]
  have hs : (nI (n + 1) - nI 2).toInt = ((n + 1 : Nat) : Int) - (2 : Nat) := pk_sub_toInt (by omega) (by omega)
  rw [Int32.le_iff_toInt_le, Int32.le_iff_toInt_le, Int32.lt_iff_toInt_lt, Int32.lt_iff_toInt_lt, hs, nI_toInt (by omega), Int32.toInt_zero]
  omega
theorem qz_isList_e (v : Int32) : (0 ≤ v ∧ v ≤ nI 2) ↔ vp_in v 3 := by
  rw [qn_in_iff (by omega), Int32.le_iff_toInt_le, Int32.le_iff_toInt_le, Int32.lt_iff_toInt_lt, Int32.lt_iff_toInt_lt, nI_toInt (by omega), nI_toInt (by omega), Int32.toInt_zero]
  omega
theorem qz_isList0 {v : Int32} (h : ¬ vp_in v 3) (τ : qe_S) : g_X9_isList v τ = some (0, τ) := by
  unfold g_X9_isList
  rw [qr_within, qn_b, qn_bif, if_neg (fun z => h ((qz_isList_e v).mp z))]
theorem qz_in {j n : Nat} (h : j < n) (hn : n < 2 ^ 31) : vp_in (nI j) n := (qn_in_iff hn).mpr ⟨nI_pos (by omega), nI_lt h hn⟩
theorem qz_isList1 {j : Nat} (h : j < 3) (τ : qe_S) : g_X9_isList (nI j) τ = some (1, τ) := by
  unfold g_X9_isList
  rw [qr_within, qn_b, qn_bif, if_pos ((qz_isList_e _).mpr (qz_in h (by omega)))]
theorem qz_look : ql_op_look qz_R := by
  intro a0 a1 σ τ hR
  have hL := hR.2.2.2.2
  rcases qn_in_cases a0 (n := 3) (by omega) with h | ⟨l, hl, rfl⟩
  · obtain ⟨σ', τ', e1, e2, hR'⟩ := qz_noL hR (-1)
    refine ⟨lN 4000000000000000000 - (-1 : Int32).toInt64, σ', τ', ?_, ?_, hR'⟩
    · unfold g_X8_look
      rw [qn_j, qz_row0 h, qn_b]
      simp only [qm_r, g_X8_refusalAt_n, qn_b, e1]
    · unfold g_X9_look
      rw [qz_isList0 h, qn_b, if_pos rfl, e2, qn_b]
  · obtain ⟨n, hn, x1, x2, x3⟩ := hL l hl
    have hw : ∀ P : Option (Int64 × qe_S), qm_w (42 + 2 * l) P = P := fun P => if_pos (by omega)
    have b1 : g_X9_look (nI l) a1 τ = qm_g (nI l) 3 (qm_l (τ.1 17 (nI l).toNatClampNeg) fun a3 => if a3 = (0 : Int32) then (qm_b (g_X9_noLong (-11 : Int32) τ) fun b11 s10 => some (b11, s10)) else qm_g (nI l) 3 <| qm_l (τ.1 17 (nI l).toNatClampNeg) fun a4 => qm_b (g_X9_within a1 (0 : Int32) (a4 - (nI 2)) τ) fun a6 s5 => if a6 = (0 : Int32) then (qm_b (g_X9_noLong (-13 : Int32) s5) fun b8 s7 => some (b8, s7)) else qm_g (((nI 15) * nI l) + a1) 45 <| qm_l (s5.2 18 (((nI 15) * nI l) + a1).toNatClampNeg) fun b9 => some (b9, s5)) := by
      unfold g_X9_look
      rw [qz_isList1 hl, qn_b, if_neg qn_10]
    rw [qn_g hl (by omega), qn_l, nI_clamp (by omega), x2, qn_g hl (by omega), qn_l] at b1
    have c1 : g_X8_look (nI l) a1 σ = qm_b (g_X8_refusalAt (42 + 2 * l) a1 σ) fun a11 s10 => if (0 : Int32) ≤ a11 then (qm_g a1 15 <| qm_l (s10.2 (42 + 2 * l + 1) a1.toNatClampNeg) fun b12 => some (b12, s10)) else qm_b (g_X8_refuseLong a11 s10) fun b4 s3 => some (b4, s3) := by
      unfold g_X8_look
      rw [qn_j, qz_row1 hl, qn_b]
      simp only [qm_r, hw]
    unfold g_X8_refusalAt at c1
    rw [x1, qn_j] at c1
    by_cases hn0 : n = 0
    · subst hn0
      obtain ⟨σ', τ', e1, e2, hR'⟩ := qz_noL hR (-11)
      refine ⟨lN 4000000000000000000 - (-11 : Int32).toInt64, σ', τ', ?_, ?_, hR'⟩
      · rw [c1, if_neg (by decide), qn_b, if_neg (by decide), e1, qn_b]
      · rw [b1, if_pos (by decide), e2, qn_b]
    · obtain ⟨c, rfl⟩ : ∃ c, n = c + 1 := ⟨n - 1, by omega⟩
      rw [nI_pred, if_pos (nI_pos' (by omega))] at c1
      rw [if_neg (nI_ne0 (by omega) (by omega)), qr_within, qn_b] at b1
      rcases qn_in_cases a1 (n := c) (by omega) with h | ⟨i, hi, rfl⟩
      · obtain ⟨σ', τ', e1, e2, hR'⟩ := qz_noL hR (-13)
        have c2 : (if a1 < 0 then some ((-13 : Int32), σ) else if a1 < nI c then some ((0 : Int32), σ) else some ((-13 : Int32), σ)) = some (-13, σ) := by
          have h' := h
          rw [qn_in_iff (by omega)] at h'
          by_cases z : a1 < 0
          · rw [if_pos z]
          · rw [if_neg z, if_neg (fun y => h' ⟨z, y⟩)]
        refine ⟨lN 4000000000000000000 - (-13 : Int32).toInt64, σ', τ', ?_, ?_, hR'⟩
        · rw [c1, c2, qn_b, if_neg (by decide), e1, qn_b]
        · rw [b1, if_neg (fun z => h ((qz_le2 a1 (by omega)).mp z)), if_pos rfl, e2, qn_b]
      · refine ⟨σ.2 (42 + 2 * l + 1) i, σ, τ, ?_, ?_, hR⟩
        · rw [c1, if_neg (nI_pos (by omega)), if_pos (nI_lt hi (by omega)), qn_b, if_pos (by decide), qn_g (by omega) (by omega), qn_l, nI_clamp (by omega)]
        · rw [b1, if_pos ((qz_le2 _ (by omega)).mpr (qz_in hi (by omega))), if_neg qn_10, pk_mul, nI_add, qn_g (by omega) (by omega), qn_l, nI_clamp (by omega), ← x3 i (by omega), show 43 + 2 * l = 42 + 2 * l + 1 by omega]
