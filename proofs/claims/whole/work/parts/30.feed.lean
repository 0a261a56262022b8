/-! FEED; the relation at the start -/
theorem qz_feed : ql_op_feed qz_R := by
  intro a0 σ τ hR
  have hR0 := hR
  obtain ⟨⟨ρ, w, d, o, m⟩, hI, hW, hT, hL⟩ := hR
  obtain ⟨n, hn, t1, t2, t3⟩ := hT
  have out : ∀ v : Int32, ¬ (0 ≤ v) → g_X6_take a0 σ = some (v, σ) → (∀ s t : qe_S, g_X9_no v τ = some (v, t) → g_X9_feed a0 τ = some (v, t)) → ∃ (r : Int32) (σ' τ' : qe_S), g_X8_feed a0 σ = some (r, σ') ∧ g_X9_feed a0 τ = some (r, τ') ∧ qz_R σ' τ' := by
    intro v hv h1 h2
    obtain ⟨σ', τ', e1, e2, hR'⟩ := qz_no hR0 v
    refine ⟨v, σ', τ', ?_, h2 σ τ' e2, hR'⟩
    unfold g_X8_feed g_X8_answered
    rw [h1, qn_b, if_neg hv, e1, qn_b, qn_b]
  by_cases h : 1 ≤ a0 ∧ a0 ≤ nI 127
  · obtain ⟨c, hc, rfl⟩ : ∃ c, c ≤ 127 ∧ a0 = nI c := nI_of2 (M := nI 127) (by decide) (fun z => absurd (Int32.lt_of_lt_of_le z (Int32.le_trans (show (0 : Int32) ≤ 1 by decide) h.1)) (Int32.lt_irrefl)) h.2
    have c1 : 1 ≤ c := (nI_leI (a := 1) (b := c) (by omega) (by omega)).mp h.1
    have b1 : g_X9_feed (nI c) τ = if (τ.1 0 21) = (nI 120) then (qm_b (g_X9_no (-4 : Int32) τ) fun a6 s5 => some (a6, s5)) else qm_l (qe_si τ 0 21 ((τ.1 0 21) + (1 : Int32))) fun s3 => qm_g (τ.1 0 21) 120 <| qm_l (qe_si s3 15 (τ.1 0 21).toNatClampNeg (nI c)) fun s4 => some ((s4.1 0 21), s4) := by
      unfold g_X9_feed
      rw [qr_within, if_pos h, qn_b, if_neg qn_10]
    have c2 : g_X6_take (nI c) σ = if (σ.1 37 0) < (nI 120) then (qm_g (σ.1 37 0) 120 <| qm_l (qe_si σ 39 (σ.1 37 0).toNatClampNeg (nI c)) fun s1 => qm_l (qe_si s1 37 0 ((s1.1 37 0) + (1 : Int32))) fun s2 => some ((s2.1 37 0), s2)) else some ((-4 : Int32), σ) := by
      unfold g_X6_take
      rw [if_neg (Int32.not_lt.mpr h.1), if_pos h.2]
    rw [t1] at c2
    rw [t2] at b1
    by_cases hf : n = 120
    · subst hf
      refine out (-4) (by decide) ?_ (fun s t e => ?_)
      · rw [c2, if_neg (nI_nlt (by omega) (by omega))]
      · rw [b1, if_pos rfl, e, qn_b]
    · have q : (qe_si σ 39 n (nI c)).1 37 0 = nI n := (qn_si_k (by omega)).trans t1
      rw [if_pos (nI_lt (by omega) (by omega)), qn_g (by omega) (by omega), qn_l, nI_clamp (by omega), qn_l, q, nI_1, qn_si_eq] at c2
      rw [if_neg (fun z => hf ((nI_eq (by omega) (by omega)).mp z)), qn_l, qn_g (by omega) (by omega), qn_l, nI_clamp (by omega), nI_1, qn_si_k (by omega), qn_si_eq] at b1
      refine ⟨nI (n + 1), qe_si (qe_si σ 39 n (nI c)) 37 0 (nI (n + 1)), qe_si (qe_si τ 0 21 (nI (n + 1))) 15 n (nI c), ?_, b1, ?_⟩
      · unfold g_X8_feed g_X8_answered
        rw [c2, qn_b, if_pos (nI_pos' (by omega)), qn_b]
      · have sk : ∀ k, k ≠ 37 → k ≠ 39 → (qe_si (qe_si σ 39 n (nI c)) 37 0 (nI (n + 1))).1 k = σ.1 k := fun k h1 h2 => by funext x; rw [qn_si_k h1, qn_si_k h2]
        have tk : ∀ k, k ≠ 0 → k ≠ 15 → (qe_si (qe_si τ 0 21 (nI (n + 1))) 15 n (nI c)).1 k = τ.1 k := fun k h1 h2 => by funext x; rw [qn_si_k h2, qn_si_k h1]
        refine ⟨⟨ρ, w, ?_, ?_, ?_⟩, ?_, ?_, ⟨n + 1, by omega, ?_, ?_, fun i hi => ?_⟩, ?_⟩
        · unfold qr_D
          rw [sk 1 (by omega) (by omega), sk (1 + 1) (by omega) (by omega), sk (1 + 2) (by omega) (by omega), sk (1 + 3) (by omega) (by omega), sk (1 + 5) (by omega) (by omega), sk (1 + 6) (by omega) (by omega)]
          exact d
        · unfold qr_O
          rw [sk (1 + 4) (by omega) (by omega)]
          exact o
        · unfold qr_M
          rw [tk 1 (by omega) (by omega)]
          exact m
        · have z : (qe_si (qe_si τ 0 21 (nI (n + 1))) 15 n (nI c)).1 0 3 = τ.1 0 3 := by rw [qn_si_k (by omega), qn_si_j (by omega)]
          unfold qz_I qr_D qr_O qr_M
          rw [z, sk 0 (by omega) (by omega), sk 8 (by omega) (by omega), sk (8 + 1) (by omega) (by omega), sk (8 + 2) (by omega) (by omega), sk (8 + 3) (by omega) (by omega), sk (8 + 4) (by omega) (by omega), sk (8 + 5) (by omega) (by omega), sk (8 + 6) (by omega) (by omega), tk 2 (by omega) (by omega)]
          exact hI
        · intro i hi
          rw [sk 40 (by omega) (by omega), tk 4 (by omega) (by omega)]
          exact hW i hi
        · rw [qn_si_eq]
        · rw [qn_si_k (by omega), qn_si_eq]
        · by_cases hx : i = n
          · subst hx
            exact ⟨c, c1, hc, by rw [qn_si_k (by omega), qn_si_eq], by rw [qn_si_eq]⟩
          · obtain ⟨e, e1, e2, e3, e4⟩ := t3 i (by omega)
            exact ⟨e, e1, e2, by rw [qn_si_k (by omega), qn_si_j hx]; exact e3, by rw [qn_si_j hx, qn_si_k (by omega)]; exact e4⟩
        · intro l hl
          rw [sk (42 + 2 * l) (by omega) (by omega), tk 17 (by omega) (by omega)]
          exact hL l hl
  · refine out (-2) (by decide) ?_ (fun s t e => ?_)
    · unfold g_X6_take
      by_cases h1 : a0 < 1
      · rw [if_pos h1]
      · rw [if_neg h1, if_neg (fun z => h ⟨Int32.not_lt.mp h1, z⟩)]
    · unfold g_X9_feed
      rw [qr_within, if_neg h, qn_b, if_pos rfl, e, qn_b]
theorem qz_start : qz_R qc_s0 qc_m0 := by
  have w : qr_wf (0, 0, fun _ => 0, fun _ => 0, fun _ => 0, fun _ => false, fun _ _ => 0, fun _ _ => 0) := by
    refine ⟨Nat.zero_le _, ?_, fun i h => absurd h (Nat.not_lt_zero _), fun i j h => absurd h (Nat.not_lt_zero _), fun i h => absurd h (Nat.not_lt_zero _), fun i h => absurd h (Nat.not_lt_zero _), fun r u _ h => absurd h (Nat.not_lt_zero _), fun u h => absurd h (Nat.not_lt_zero _)⟩
    exact qz_in (j := 0) (by omega) (by omega)
  refine ⟨⟨(0, 0, fun _ => 0, fun _ => 0, fun _ => 0, fun _ => false, fun _ _ => 0, fun _ _ => 0), w, ?_, ?_, ?_⟩, Or.inl ⟨rfl, rfl⟩, fun i _ => ?_, ⟨0, by omega, rfl, rfl, fun i h => absurd h (by omega)⟩, fun l hl => ⟨0, by omega, ?_, ?_, fun j hj => ?_⟩⟩
  · exact ⟨rfl, rfl, rfl, fun i h => absurd h (Nat.not_lt_zero _), fun r u _ h => absurd h (Nat.not_lt_zero _)⟩
  · exact fun i h => absurd h (Nat.not_lt_zero _)
  · exact ⟨rfl, rfl, fun i h => absurd h (Nat.not_lt_zero _), fun r u _ h => absurd h (Nat.not_lt_zero _)⟩
  · rfl
  · obtain rfl | rfl | rfl : l = 0 ∨ l = 1 ∨ l = 2 := by omega
    · rfl
    · rfl
    · rfl
  · rfl
  · obtain rfl | rfl | rfl : l = 0 ∨ l = 1 ∨ l = 2 := by omega
    · rfl
    · rfl
    · rfl
