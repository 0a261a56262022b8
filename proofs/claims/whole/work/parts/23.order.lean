/-! ORDER: both keep the units as qr_ord says -/
theorem qr_lt60 {a b : Nat} (ha : a ≤ 60) (hb : b ≤ 60) : a * b < 2 ^ 31 := by
  have := Nat.mul_le_mul ha hb
  omega
theorem qr_stands {σ : qe_S} {ρ : qr_R} (hw : qr_wf ρ) (hD : qr_D 1 σ ρ) {u v : Nat} (hu : u < qr_N ρ) (hv : v < qr_N ρ) : g_X3_standsAhead (nI u) (nI v) σ = some (if qr_ah ρ u v = true then 1 else 0, σ) := by
  have hN := hw.1
  have gu : ∀ P : Option (Int32 × qe_S), qm_g (nI u) 12 P = P := fun P => qn_g (by omega) (by omega)
  have gv : ∀ P : Option (Int32 × qe_S), qm_g (nI v) 12 P = P := fun P => qn_g (by omega) (by omega)
  have cu : (nI u).toNatClampNeg = u := nI_clamp (by omega)
  have cv : (nI v).toNatClampNeg = v := nI_clamp (by omega)
  have su := (hD.2.2.2.1 u hu).1
  have sv := (hD.2.2.2.1 v hv).1
  have mu := (hD.2.2.2.1 u hu).2.1
  have mv := (hD.2.2.2.1 v hv).2.1
  have hA : ∀ w, w < qr_N ρ → g_X3_above (nI w) 0 σ = some (nI (qr_a ρ 0 w), σ) := fun w h => qr_above hw hD (r := 0) (by omega) h
  have hB : ∀ w, w < qr_N ρ → g_X3_below (nI w) 0 σ = some (nI (qr_b ρ 0 w), σ) := fun w h => qr_below hw hD (r := 0) (by omega) h
  have bu := hw.2.2.2.2.2.2.1 0 u (by omega) hu
  have bv := hw.2.2.2.2.2.2.1 0 v (by omega) hv
  simp only [g_X3_standsAhead, qr_has1 hD.1 hN hu, qr_has1 hD.1 hN hv, qn_b, qn_10, if_false, gu, gv, cu, cv, qn_l, qn_j, hD.2.2.1, su, sv, mu, mv]
  unfold qr_ah
  by_cases h1 : qr_o ρ = 1
  · simp only [h1, if_true, hA u hu, hA v hv, hB u hu, hB v hv, qn_b, pk_mul]
    by_cases h : qr_a ρ 0 v * qr_b ρ 0 u < qr_a ρ 0 u * qr_b ρ 0 v
    · rw [if_neg (fun z => absurd ((nI_leI (qr_lt60 (by omega) (by omega)) (qr_lt60 (by omega) (by omega))).mp z) (by omega))]; simp [h]
    · rw [if_pos ((nI_leI (qr_lt60 (by omega) (by omega)) (qr_lt60 (by omega) (by omega))).mpr (by omega))]; simp [h]
  · rw [if_neg h1, if_neg h1]
    by_cases h2 : qr_o ρ = nI 2
    · rw [if_pos h2, if_pos h2]
      by_cases h : qr_s ρ u - qr_s ρ v < 0
      · rw [if_neg (Int32.not_le.mpr h)]; simp [h]
      · rw [if_pos (Int32.not_lt.mp h)]; simp [h]
    · rw [if_neg h2, if_neg h2]
      by_cases h3 : qr_o ρ = nI 3
      · rw [if_pos h3, if_pos h3]
        by_cases h : qr_m ρ u - qr_m ρ v < 0
        · rw [if_neg (Int32.not_le.mpr h)]; simp [h]
        · rw [if_pos (Int32.not_lt.mp h)]; simp [h]
      · rw [if_neg h3, if_neg h3]
        by_cases h4 : qr_o ρ = nI 4
        · rw [if_pos h4, if_pos h4]
          by_cases h : qr_s ρ u - qr_s ρ v < 0
          · have hz : ¬ qr_s ρ u - qr_s ρ v = 0 := fun z => by rw [z] at h; exact absurd h (by decide)
            rw [if_pos h, if_neg hz]; simp [h]
          · rw [if_neg h]
            by_cases hz : qr_s ρ u - qr_s ρ v = 0
            · rw [if_pos hz, if_pos hz, qn_z (by decide)]
              by_cases hr : qm_ir (qr_s ρ u) (nI 2) = 0
              · rw [if_pos hr, if_pos hr]
                by_cases h5 : qr_m ρ u - qr_m ρ v < 0
                · rw [if_neg (Int32.not_le.mpr h5)]; simp [h5]
                · rw [if_pos (Int32.not_lt.mp h5)]; simp [h5]
              · rw [if_neg hr, if_neg hr]
                by_cases h5 : 0 < qr_m ρ u - qr_m ρ v
                · rw [if_neg (Int32.not_le.mpr h5)]; simp [h5]
                · rw [if_pos (Int32.not_lt.mp h5)]; simp [h5]
            · rw [if_neg hz, if_neg hz]; simp [h]
        · rw [if_neg h4, if_neg h4]; rfl
theorem qr_ahead {τ : qe_S} {ρ : qr_R} (hw : qr_wf ρ) (hM : qr_M 1 τ ρ) {u v : Nat} (hu : u < qr_N ρ) (hv : v < qr_N ρ) : g_X9_isAhead (nI u) (nI v) τ = some (if qr_ah ρ u v = true then 1 else 0, τ) := by
  have hN := hw.1
  have g1 : ∀ P : Option (Int32 × qe_S), qm_g 1 122 P = P := fun P => qn_g1 (by omega) (by omega)
  have gk : ∀ (k w : Nat) (P : Option (Int32 × qe_S)), w < qr_N ρ → k ≤ 86 → qm_g (nI (k + w)) 122 P = P := fun k w P h1 h2 => qn_g (by omega) (by omega)
  have ck : ∀ (k w : Nat), w < qr_N ρ → k ≤ 86 → (nI (k + w)).toNatClampNeg = k + w := fun k w h1 h2 => nI_clamp (by omega)
  have ou := hM.2.2.2 0 u (by omega) hu
  have ov := hM.2.2.2 0 v (by omega) hv
  rw [show 50 + (12 * 0 + u) = 50 + u by omega, show 86 + (12 * 0 + u) = 86 + u by omega] at ou
  rw [show 50 + (12 * 0 + v) = 50 + v by omega, show 86 + (12 * 0 + v) = 86 + v by omega] at ov
  have du := hM.2.2.1 u hu
  have dv := hM.2.2.1 v hv
  have bu := hw.2.2.2.2.2.2.1 0 u (by omega) hu
  have bv := hw.2.2.2.2.2.2.1 0 v (by omega) hv
  simp only [g_X9_isAhead, g_X9_more, nI_add, g1, qr_clamp1, qn_l, hM.2.1, gk 50 u _ hu (by omega), gk 50 v _ hv (by omega), gk 86 u _ hu (by omega), gk 86 v _ hv (by omega), gk 14 u _ hu (by omega), gk 14 v _ hv (by omega), gk 26 u _ hu (by omega), gk 26 v _ hv (by omega), ck 50 u hu (by omega), ck 50 v hv (by omega), ck 86 u hu (by omega), ck 86 v hv (by omega), ck 14 u hu (by omega), ck 14 v hv (by omega), ck 26 u hu (by omega), ck 26 v hv (by omega), ou.1, ou.2, ov.1, ov.2, du.2.1, dv.2.1, du.2.2.1, dv.2.2.1, qn_b, pk_mul]
  unfold qr_ah
  by_cases h1 : qr_o ρ = 1
  · rw [if_pos h1, if_pos h1]
    by_cases h : qr_a ρ 0 v * qr_b ρ 0 u < qr_a ρ 0 u * qr_b ρ 0 v
    · rw [if_neg (fun z => absurd ((nI_leI (qr_lt60 (by omega) (by omega)) (qr_lt60 (by omega) (by omega))).mp z) (by omega))]; simp [h]
    · rw [if_pos ((nI_leI (qr_lt60 (by omega) (by omega)) (qr_lt60 (by omega) (by omega))).mpr (by omega))]; simp [h]
  · rw [if_neg h1, if_neg h1]
    by_cases h2 : qr_o ρ = nI 2
    · rw [if_pos h2, if_pos h2]
      by_cases h : qr_s ρ u - qr_s ρ v < 0
      · rw [if_neg (Int32.not_le.mpr h)]; simp [h]
      · rw [if_pos (Int32.not_lt.mp h)]; simp [h]
    · rw [if_neg h2, if_neg h2]
      by_cases h3 : qr_o ρ = nI 3
      · rw [if_pos h3, if_pos h3]
        by_cases h : qr_m ρ u - qr_m ρ v < 0
        · rw [if_neg (Int32.not_le.mpr h)]; simp [h]
        · rw [if_pos (Int32.not_lt.mp h)]; simp [h]
      · rw [if_neg h3, if_neg h3]
        by_cases h4 : qr_o ρ = nI 4
        · rw [if_pos h4, if_pos h4]
          by_cases hz : qr_s ρ u - qr_s ρ v = 0
          · rw [if_pos hz, if_pos hz, qn_z (by decide)]
            by_cases hr : qm_ir (qr_s ρ u) (nI 2) = 0
            · rw [if_pos hr, if_pos hr]
              by_cases h5 : qr_m ρ u - qr_m ρ v < 0
              · rw [if_neg (Int32.not_le.mpr h5)]; simp [h5]
              · rw [if_pos (Int32.not_lt.mp h5)]; simp [h5]
            · rw [if_neg hr, if_neg hr]
              by_cases h5 : 0 < qr_m ρ u - qr_m ρ v
              · rw [if_neg (Int32.not_le.mpr h5)]; simp [h5]
              · rw [if_pos (Int32.not_lt.mp h5)]; simp [h5]
          · rw [if_neg hz, if_neg hz]
            by_cases h : qr_s ρ u - qr_s ρ v < 0
            · rw [if_neg (Int32.not_le.mpr h)]; simp [h]
            · rw [if_pos (Int32.not_lt.mp h)]; simp [h]
        · rw [if_neg h4, if_neg h4]; rfl
-- the order is a permutation
theorem qr_ins_le (ρ : qr_R) (x : Nat) (g : Nat → Nat) : ∀ p, qr_ins ρ x g p ≤ p := by
  intro p
  induction p with
  | zero => exact Nat.le_refl 0
  | succ p ih =>
    simp only [qr_ins]
    split <;> omega
theorem qr_x_lt {ρ : qr_R} (hw : qr_wf ρ) {i : Nat} (hi : i < qr_N ρ) : qr_x ρ i < qr_N ρ := by
  unfold qr_x
  split
  · exact hw.2.2.1 i hi
  · exact hi
theorem qr_x_inj {ρ : qr_R} (hw : qr_wf ρ) {i j : Nat} (hi : i < qr_N ρ) (hj : j < qr_N ρ) (h : qr_x ρ i = qr_x ρ j) : i = j := by
  unfold qr_x at h
  split at h
  · exact hw.2.2.2.1 i j hi hj h
  · exact h
/-- the first i: each is one of the first i to be put, once -/
theorem qr_ord_in {ρ : qr_R} (hw : qr_wf ρ) : ∀ i, i ≤ qr_N ρ → (∀ j, j < i → ∃ k, k < i ∧ qr_ord ρ i j = qr_x ρ k) ∧ (∀ j k, j < i → k < i → qr_ord ρ i j = qr_ord ρ i k → j = k) := by
  intro i
  induction i with
  | zero => intro _; exact ⟨fun j h => absurd h (by omega), fun j k h => absurd h (by omega)⟩
  | succ i ih =>
    intro hi
    obtain ⟨h1, h2⟩ := ih (by omega)
    have hq := qr_ins_le ρ (qr_x ρ i) (qr_ord ρ i) i
    generalize hqe : qr_ins ρ (qr_x ρ i) (qr_ord ρ i) i = q at hq
    have hne : ∀ j, j < i → qr_ord ρ i j ≠ qr_x ρ i := by
      intro j hj e
      obtain ⟨k, hk, e2⟩ := h1 j hj
      have := qr_x_inj hw (by omega) (by omega) (e2.symm.trans e)
      omega
    have val : ∀ j, j < i + 1 → qr_ord ρ (i + 1) j = if j < q then qr_ord ρ i j else if j = q then qr_x ρ i else qr_ord ρ i (j - 1) := by
      intro j hj
      simp only [qr_ord, qr_put, hqe]
      by_cases a : j < q
      · rw [if_pos a, if_pos a]
      · rw [if_neg a, if_neg a]
        by_cases b : j = q
        · rw [if_pos b, if_pos b]
        · rw [if_neg b, if_neg b, if_pos (by omega)]
    refine ⟨fun j hj => ?_, fun j k hj hk e => ?_⟩
    · rw [val j hj]
      split
      · obtain ⟨k, hk, e⟩ := h1 j (by omega); exact ⟨k, by omega, e⟩
      · split
        · exact ⟨i, by omega, rfl⟩
        · obtain ⟨k, hk, e⟩ := h1 (j - 1) (by omega); exact ⟨k, by omega, e⟩
    · rw [val j hj, val k hk] at e
      by_cases a : j < q
      · rw [if_pos a] at e
        by_cases b : k < q
        · rw [if_pos b] at e; exact h2 j k (by omega) (by omega) e
        · rw [if_neg b] at e
          by_cases c : k = q
          · rw [if_pos c] at e; exact absurd e (hne j (by omega))
          · rw [if_neg c] at e
            have := h2 j (k - 1) (by omega) (by omega) e
            omega
      · rw [if_neg a] at e
        by_cases a2 : j = q
        · rw [if_pos a2] at e
          by_cases b : k < q
          · rw [if_pos b] at e; exact absurd e.symm (hne k (by omega))
          · rw [if_neg b] at e
            by_cases c : k = q
            · omega
            · rw [if_neg c] at e
              exact absurd e.symm (hne (k - 1) (by omega))
        · rw [if_neg a2] at e
          by_cases b : k < q
          · rw [if_pos b] at e
            have := h2 (j - 1) k (by omega) (by omega) e
            omega
          · rw [if_neg b] at e
            by_cases c : k = q
            · rw [if_pos c] at e; exact absurd e (hne (j - 1) (by omega))
            · rw [if_neg c] at e
              have := h2 (j - 1) (k - 1) (by omega) (by omega) e
              omega
theorem qr_ord_lt {ρ : qr_R} (hw : qr_wf ρ) {i j : Nat} (hi : i ≤ qr_N ρ) (hj : j < i) : qr_ord ρ i j < qr_N ρ := by
  obtain ⟨k, hk, e⟩ := (qr_ord_in hw i hi).1 j hj
  rw [e]
  exact qr_x_lt hw (by omega)
