/-! PUT, LIST, FEED -/
theorem qz_put : ql_op_put qz_R := by
  intro a0 a1 a2 σ τ hR
  have hL := hR.2.2.2.2
  rcases qn_in_cases a0 (n := 3) (by omega) with h | ⟨l, hl, rfl⟩
  · obtain ⟨σ', τ', e1, e2, hR'⟩ := qz_no hR (-1)
    refine ⟨-1, σ', τ', ?_, ?_, hR'⟩
    · unfold g_X8_put
      rw [qz_row0 h, qn_b]
      simp only [qm_r, g_X8_refusalAt_n, qn_b, e1]
    · unfold g_X9_put
      rw [qz_isList0 h, qn_b, if_pos rfl, e2, qn_b]
  · obtain ⟨n, hn, x1, x2, x3⟩ := hL l hl
    have hw : ∀ P : Option (Int32 × qe_S), qm_w (42 + 2 * l) P = P := fun P => if_pos (by omega)
    have b1 : g_X9_put (nI l) a1 a2 τ = qm_g (nI l) 3 (qm_l (τ.1 17 (nI l).toNatClampNeg) fun a3 => if a3 = (0 : Int32) then (qm_b (g_X9_no (-11 : Int32) τ) fun a11 s10 => some (a11, s10)) else qm_g (nI l) 3 <| qm_l (τ.1 17 (nI l).toNatClampNeg) fun a4 => qm_b (g_X9_within a1 (0 : Int32) (a4 - (nI 2)) τ) fun a6 s5 => if a6 = (0 : Int32) then (qm_b (g_X9_no (-13 : Int32) s5) fun a9 s8 => some (a9, s8)) else qm_g (((nI 15) * nI l) + a1) 45 <| qm_l (qe_sl s5 18 (((nI 15) * nI l) + a1).toNatClampNeg a2) fun s7 => some ((1 : Int32), s7)) := by
      unfold g_X9_put
      rw [qz_isList1 hl, qn_b, if_neg qn_10]
    rw [qn_g hl (by omega), qn_l, nI_clamp (by omega), x2, qn_g hl (by omega), qn_l] at b1
    have c1 : g_X8_put (nI l) a1 a2 σ = qm_b (g_X8_refusalAt (42 + 2 * l) a1 σ) fun a9 s8 => if (0 : Int32) ≤ a9 then (qm_g a1 15 <| qm_l (qe_sl s8 (42 + 2 * l + 1) a1.toNatClampNeg a2) fun s10 => some ((1 : Int32), s10)) else qm_b (g_X8_refuse a9 s8) fun a12 s11 => some (a12, s11) := by
      unfold g_X8_put
      rw [qz_row1 hl, qn_b]
      simp only [qm_r, hw]
    unfold g_X8_refusalAt at c1
    rw [x1, qn_j] at c1
    by_cases hn0 : n = 0
    · subst hn0
      obtain ⟨σ', τ', e1, e2, hR'⟩ := qz_no hR (-11)
      refine ⟨-11, σ', τ', ?_, ?_, hR'⟩
      · rw [c1, if_neg (by decide), qn_b, if_neg (by decide), e1, qn_b]
      · rw [b1, if_pos (by decide), e2, qn_b]
    · obtain ⟨c, rfl⟩ : ∃ c, n = c + 1 := ⟨n - 1, by omega⟩
      have x1' := x1
      rw [nI_pred, if_pos (nI_pos' (by omega))] at c1
      rw [if_neg (nI_ne0 (by omega) (by omega)), qr_within, qn_b] at b1
      rcases qn_in_cases a1 (n := c) (by omega) with h | ⟨i, hi, rfl⟩
      · obtain ⟨σ', τ', e1, e2, hR'⟩ := qz_no hR (-13)
        have c2 : (if a1 < 0 then some ((-13 : Int32), σ) else if a1 < nI c then some ((0 : Int32), σ) else some ((-13 : Int32), σ)) = some (-13, σ) := by
          have h' := h
          rw [qn_in_iff (by omega)] at h'
          by_cases z : a1 < 0
          · rw [if_pos z]
          · rw [if_neg z, if_neg (fun y => h' ⟨z, y⟩)]
        refine ⟨-13, σ', τ', ?_, ?_, hR'⟩
        · rw [c1, c2, qn_b, if_neg (by decide), e1, qn_b]
        · rw [b1, if_neg (fun z => h ((qz_le2 a1 (by omega)).mp z)), if_pos rfl, e2, qn_b]
      · refine ⟨1, qe_sl σ (42 + 2 * l + 1) i a2, qe_sl τ 18 (15 * l + i) a2, ?_, ?_, qz_lists hR (fun k _ => rfl) (fun k _ => rfl) (fun m hm => ?_)⟩
        · rw [c1, if_neg (nI_pos (by omega)), if_pos (nI_lt hi (by omega)), qn_b, if_pos (by decide), qn_g (by omega) (by omega), qn_l, nI_clamp (by omega)]
        · rw [b1, if_pos ((qz_le2 _ (by omega)).mpr (qz_in hi (by omega))), if_neg qn_10, pk_mul, nI_add, qn_g (by omega) (by omega), qn_l, nI_clamp (by omega)]
        · obtain ⟨n', hn', y1, y2, y3⟩ := hL m hm
          refine ⟨n', hn', y1, y2, fun j hj => ?_⟩
          rw [qn_sl, qn_sl]
          by_cases hz : m = l ∧ j = i
          · rw [if_pos (by omega), if_pos (by omega)]
          · rw [if_neg (by omega), if_neg (by omega)]
            exact y3 j hj
theorem qz_clr_c {o : Nat} (σ : qe_S) : ∀ (r i n : Nat) (s : qe_S), r + i = 15 → r < n → s.1 = σ.1 → (∀ k, k ≠ o + 1 → s.2 k = σ.2 k) → (∀ j, j < i → s.2 (o + 1) j = 0) → ∃ s', g_X4_become_L23 o n (nI i) s = some (1, s') ∧ s'.1 = σ.1 ∧ (∀ k, k ≠ o + 1 → s'.2 k = σ.2 k) ∧ (∀ j, j < 15 → s'.2 (o + 1) j = 0) := by
  intro r
  induction r with
  | zero =>
    intro i n s hr hn h1 hk hj
    obtain ⟨m, rfl⟩ : ∃ m, n = m + 1 := ⟨n - 1, by omega⟩
    refine ⟨s, ?_, h1, hk, fun j h => hj j (by omega)⟩
    simp only [g_X4_become_L23]
    rw [if_pos (nI_le (by omega) (by omega))]
  | succ r ih =>
    intro i n s hr hn h1 hk hj
    obtain ⟨m, rfl⟩ : ∃ m, n = m + 1 := ⟨n - 1, by omega⟩
    have hi : i < 15 := by omega
    have e : g_X4_become_L23 o (m + 1) (nI i) s = g_X4_become_L23 o m (nI (i + 1)) (qe_sl s (o + 1) i 0) := by
      simp only [g_X4_become_L23]
      rw [if_neg (nI_ge hi (by omega)), qn_g hi (by omega), qn_l, qn_l, nI_clamp (by omega), nI_1]
    rw [e]
    refine ih (i + 1) m _ (by omega) (by omega) h1 (fun k h => ?_) (fun j h => ?_)
    · funext x; rw [qn_sl_k h, hk k h]
    · by_cases hx : j = i
      · subst hx; rw [qn_sl_eq]
      · rw [qn_sl_j hx, hj j (by omega)]
theorem qz_clr_m {l : Nat} (hl : l < 3) (σ : qe_S) : ∀ (r i n : Nat) (s : qe_S), r + i = 15 → r < n → s.1 = σ.1 → (∀ j, (j < 15 * l ∨ 15 * l + 15 ≤ j) → s.2 18 j = σ.2 18 j) → (∀ j, j < i → s.2 18 (15 * l + j) = 0) → ∃ s', g_X9_list_L48 (nI l) n (nI i) s = some (1, s') ∧ s'.1 = σ.1 ∧ (∀ j, (j < 15 * l ∨ 15 * l + 15 ≤ j) → s'.2 18 j = σ.2 18 j) ∧ (∀ j, j < 15 → s'.2 18 (15 * l + j) = 0) := by
  intro r
  induction r with
  | zero =>
    intro i n s hr hn h1 hk hj
    obtain ⟨m, rfl⟩ : ∃ m, n = m + 1 := ⟨n - 1, by omega⟩
    refine ⟨s, ?_, h1, hk, fun j h => hj j (by omega)⟩
    simp only [g_X9_list_L48]
    rw [if_pos (nI_le (by omega) (by omega))]
  | succ r ih =>
    intro i n s hr hn h1 hk hj
    obtain ⟨m, rfl⟩ : ∃ m, n = m + 1 := ⟨n - 1, by omega⟩
    have hi : i < 15 := by omega
    have e : g_X9_list_L48 (nI l) (m + 1) (nI i) s = g_X9_list_L48 (nI l) m (nI (i + 1)) (qe_sl s 18 (15 * l + i) 0) := by
      simp only [g_X9_list_L48]
      rw [if_neg (nI_ge hi (by omega)), pk_mul, nI_add, qn_g (by omega) (by omega), qn_l, qn_l, nI_clamp (by omega), nI_1]
    rw [e]
    refine ih (i + 1) m _ (by omega) (by omega) h1 (fun j h => ?_) (fun j h => ?_)
    · rw [qn_sl_j (by omega), hk j h]
    · by_cases hx : j = i
      · subst hx; rw [qn_sl_eq]
      · rw [qn_sl_j (by omega), hj j (by omega)]
theorem qz_list : ql_op_list qz_R := by
  intro a0 a1 σ τ hR
  have hL := hR.2.2.2.2
  rcases qn_in_cases a0 (n := 3) (by omega) with h | ⟨l, hl, rfl⟩
  · obtain ⟨σ', τ', e1, e2, hR'⟩ := qz_no hR (-1)
    refine ⟨-1, σ', τ', ?_, ?_, hR'⟩
    · unfold g_X8_list
      rw [qz_row0 h, qn_b]
      simp only [qm_r, e1, qn_b]
    · unfold g_X9_list
      rw [qz_isList0 h, qn_b, if_pos rfl, e2, qn_b]
  · have hw : ∀ P : Option (Int32 × qe_S), qm_w (42 + 2 * l) P = P := fun P => if_pos (by omega)
    have c1 : g_X8_list (nI l) a1 σ = qm_b (g_X4_become (42 + 2 * l) a1 σ) fun a7 s6 => qm_b (g_X8_answered a7 s6) fun a9 s8 => some (a9, s8) := by
      unfold g_X8_list
      rw [qz_row1 hl, qn_b]
      simp only [qm_r, hw]
    unfold g_X4_become at c1
    have b1 : g_X9_list (nI l) a1 τ = if a1 ≤ (nI 15) then (if (0 : Int32) ≤ a1 then (qm_g (nI l) 3 <| qm_l (qe_si τ 17 (nI l).toNatClampNeg (a1 + (1 : Int32))) fun s3 => qm_l (0 : Int32) fun a4 => g_X9_list_L48 (nI l) qm_F a4 s3) else qm_b (g_X9_no (-14 : Int32) τ) fun a8 s7 => some (a8, s7)) else qm_b (g_X9_no (-2 : Int32) τ) fun a10 s9 => some (a10, s9) := by
      unfold g_X9_list
      rw [qz_isList1 hl, qn_b, if_neg qn_10]
    by_cases h15 : a1 ≤ nI 15
    · rw [if_pos h15] at c1 b1
      by_cases h0 : (0 : Int32) ≤ a1
      · rw [if_pos h0] at c1 b1
        obtain ⟨c, hc, rfl⟩ : ∃ c, c ≤ 15 ∧ a1 = nI c := nI_of2 (M := nI 15) (by decide) (Int32.not_lt.mpr h0) h15
        rw [qn_g hl (by omega), nI_clamp (by omega), nI_1, qn_l, qn_l] at b1
        rw [qn_l, qn_l] at c1
        obtain ⟨s', e1, p1, p2, p3⟩ := qz_clr_c (o := 42 + 2 * l) (qe_si σ (42 + 2 * l) 0 (nI c)) 15 0 qm_F _ rfl (by rw [qn_F]; omega) rfl (fun _ _ => rfl) (fun j h => absurd h (by omega))
        obtain ⟨t', e2, t1, t2, t3⟩ := qz_clr_m hl (qe_si τ 17 l (nI (c + 1))) 15 0 qm_F _ rfl (by rw [qn_F]; omega) rfl (fun _ _ => rfl) (fun j h => absurd h (by omega))
        rw [nI_0] at e1 e2
        refine ⟨1, s', t', ?_, ?_, qz_lists hR (fun k hk => ?_) (fun k hk => ?_) (fun m hm => ?_)⟩
        · rw [c1, e1, qn_b]
          unfold g_X8_answered
          rw [if_pos (by decide), qn_b]
        · rw [b1, e2]
        · rw [p1]; funext x; exact qn_si_k (by omega)
        · rw [t1]; funext x; exact qn_si_k hk
        · by_cases hml : m = l
          · subst hml
            refine ⟨c + 1, by omega, ?_, ?_, fun j hj => ?_⟩
            · rw [p1, qn_si_eq, nI_pred]
            · rw [t1, qn_si_eq]
            · rw [show 43 + 2 * m = 42 + 2 * m + 1 by omega, p3 j hj, t3 j hj]
          · obtain ⟨n', hn', y1, y2, y3⟩ := hL m hm
            refine ⟨n', hn', ?_, ?_, fun j hj => ?_⟩
            · rw [p1, qn_si_k (by omega)]; exact y1
            · rw [t1, qn_si_j (by omega)]; exact y2
            · rw [p2 _ (by omega), t2 _ (by omega), qn_si_2, qn_si_2]; exact y3 j hj
      · rw [if_neg h0, qn_b] at c1
        rw [if_neg h0] at b1
        obtain ⟨σ', τ', e1, e2, hR'⟩ := qz_ans hR (-14)
        rw [if_neg (by decide)] at e2
        exact ⟨-14, σ', τ', by rw [c1, e1, qn_b], by rw [b1, e2], hR'⟩
    · rw [if_neg h15, qn_b] at c1
      rw [if_neg h15] at b1
      obtain ⟨σ', τ', e1, e2, hR'⟩ := qz_ans hR (-2)
      rw [if_neg (by decide)] at e2
      exact ⟨-2, σ', τ', by rw [c1, e1, qn_b], by rw [b1, e2], hR'⟩
