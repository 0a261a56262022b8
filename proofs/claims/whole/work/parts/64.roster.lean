/-! THE ROSTER'S CHANGES, without their tales: by the class and by the reference -/
def qj_e (σ τ σ' τ' : qe_S) : Prop := (∀ k, (k < 1 ∨ 7 < k) → σ'.1 k = σ.1 k) ∧ σ'.2 = σ.2 ∧ (∀ k, k ≠ 1 → τ'.1 k = τ.1 k) ∧ τ'.2 = τ.2
def qj_ok (C M : Option (Int32 × qe_S)) (σ τ : qe_S) : Prop := ∃ (r r' : Int32) (σ' τ' : qe_S), C = some (r, σ') ∧ M = some (r', τ') ∧ ((¬ (0 : Int32) ≤ r ∧ r' < 0 ∧ r' = r) ∨ ((0 : Int32) ≤ r ∧ ¬ r' < 0)) ∧ qj_e σ τ σ' τ' ∧ qz_V σ' τ'
theorem qj_no {C M : Option (Int32 × qe_S)} {σ τ : qe_S} (hV : qz_V σ τ) {v : Int32} (hv : ¬ (0 : Int32) ≤ v) (h1 : C = some (v, σ)) (h2 : M = some (v, τ)) : qj_ok C M σ τ := ⟨v, v, σ, τ, h1, h2, Or.inl ⟨hv, Int32.not_le.mp hv, rfl⟩, ⟨fun _ _ => rfl, rfl, fun _ _ => rfl, rfl⟩, hV⟩
theorem qj_new {C M : Option (Int32 × qe_S)} {σ τ σ' τ' : qe_S} {r r' : Int32} (h1 : C = some (r, σ')) (h2 : M = some (r', τ')) (p1 : (0 : Int32) ≤ r) (p2 : (0 : Int32) ≤ r') (hc : ∀ k, (k < 1 ∨ 7 < k) → σ'.1 k = σ.1 k) (hs : σ'.2 = σ.2) (hm : ∀ k, k ≠ 1 → τ'.1 k = τ.1 k) (ht : τ'.2 = τ.2) (hV : qz_V σ' τ') : qj_ok C M σ τ := ⟨r, r', σ', τ', h1, h2, Or.inr ⟨p1, Int32.not_lt.mpr p2⟩, ⟨hc, hs, hm, ht⟩, hV⟩
theorem qj_admit {σ τ : qe_S} (hV : qz_V σ τ) (a0 a1 a2 a3 : Int32) : qj_ok (g_X3_admit a0 a1 a2 a3 σ) (g_X9_comes a0 a1 a2 a3 τ) σ τ := by
  have hV0 := hV
  obtain ⟨ρ, w, d, o, m⟩ := hV
  have hN := w.1
  have out : ∀ v : Int32, ¬ (0 ≤ v) → g_X3_admit a0 a1 a2 a3 σ = some (v, σ) → g_X9_comes a0 a1 a2 a3 τ = some (v, τ) → qj_ok (g_X3_admit a0 a1 a2 a3 σ) (g_X9_comes a0 a1 a2 a3 τ) σ τ := fun v hv h1 h2 => qj_no hV0 hv h1 h2
  by_cases hv : (1 ≤ a1 ∧ a1 ≤ nI 60) ∧ ((if (0 : Int32) = 0 then 1 else 0) ≤ a0 ∧ a0 ≤ a1)
  · by_cases hs : 0 ≤ a2 ∧ a2 ≤ nI 3
    · by_cases hk : -99 ≤ a3 ∧ a3 ≤ nI 99
      · by_cases hf : qr_N ρ = 12
        · refine out (-4) (by decide) ?_ ?_
          · unfold g_X3_admit
            rw [qz_oddsC, if_pos hv, qn_b, if_neg qn_10, qz_stratumFits, if_pos hs, qn_b, if_neg qn_10, qz_markFits, if_pos hk, qn_b, if_neg qn_10, d.1, hf, if_neg (by decide)]
          · unfold g_X9_comes
            rw [qz_oddsM, if_pos hv, qn_b, if_neg qn_10, qr_within, if_pos hs, qn_b, if_neg qn_10, qr_within, if_pos hk, qn_b, if_neg qn_10, qn_g0 (by omega) (by omega), qn_l, qr_clamp0, m.1, hf, if_pos rfl]
        · obtain ⟨A, B, rfl, rfl, h1, h2, h3, h4⟩ := qz_oddsN (r := 0) (by omega) hv
          have hN2 : qr_N ρ < 12 := by omega
          have hk2 : -99 ≤ a3.toInt ∧ a3.toInt ≤ 99 := by
            have k1 := Int32.le_iff_toInt_le.mp hk.1
            have k2 := Int32.le_iff_toInt_le.mp hk.2
            rw [nI_toInt (by omega)] at k2
            exact ⟨k1, k2⟩
          obtain ⟨ρ', w2, n2, d2, m2⟩ := qz_newu w d m hN2 h1 h2 h3 (h4 rfl) ((qz_within_iff (n := 3) (by omega)).mp hs) hk2
          obtain ⟨σ', e1, e2, e3⟩ := qr_arrange w2 d2
          refine qj_new (r := nI (qr_N ρ)) (r' := nI (qr_N ρ)) (σ' := σ') (τ' := qz_mu τ (qr_N ρ) (nI A) (nI B) a2 a3) ?_ ?_ (nI_pos' (by omega)) (nI_pos' (by omega)) (fun k hk => ?_) (e2.1.trans rfl) (fun k h1 => ?_) rfl ⟨ρ', w2, qr_D_on e2 d2 (by omega), e3, m2⟩
          · have p1 : ∀ (s : qe_S) (r : Nat) (x y : Int32), s.1 1 0 = nI (qr_N ρ + 1) → r < 3 → g_X3_putOdds (nI (qr_N ρ)) (nI r) x y s = some (qe_si (qe_si s 6 (12 * r + qr_N ρ) x) 7 (12 * r + qr_N ρ) y) := fun s r x y h hr => qz_putOdds h (by omega) hr (by omega)
            unfold g_X3_admit
            rw [qz_oddsC, if_pos hv, qn_b, if_neg qn_10, qz_stratumFits, if_pos hs, qn_b, if_neg qn_10, qz_markFits, if_pos hk, qn_b, if_neg qn_10, d.1, if_pos (nI_lt hN2 (by omega)), qn_l, nI_1, qn_l]
            have g0 : g_X3_putOdds (nI (qr_N ρ)) 0 (nI A) (nI B) (qe_si σ 1 0 (nI (qr_N ρ + 1))) = some (qe_si (qe_si (qe_si σ 1 0 (nI (qr_N ρ + 1))) 6 (12 * 0 + qr_N ρ) (nI A)) 7 (12 * 0 + qr_N ρ) (nI B)) := p1 _ 0 _ _ qn_si_eq (by omega)
            rw [g0, qn_o]
            have f1 : (qe_si (qe_si (qe_si σ 1 0 (nI (qr_N ρ + 1))) 6 (12 * 0 + qr_N ρ) (nI A)) 7 (12 * 0 + qr_N ρ) (nI B)).1 1 0 = nI (qr_N ρ + 1) := by
              rw [qn_si_k (by omega), qn_si_k (by omega), qn_si_eq]
            have g1 : g_X3_putOdds (nI (qr_N ρ)) 1 1 1 (qe_si (qe_si (qe_si σ 1 0 (nI (qr_N ρ + 1))) 6 (12 * 0 + qr_N ρ) (nI A)) 7 (12 * 0 + qr_N ρ) (nI B)) = some (qe_si (qe_si (qe_si (qe_si (qe_si σ 1 0 (nI (qr_N ρ + 1))) 6 (12 * 0 + qr_N ρ) (nI A)) 7 (12 * 0 + qr_N ρ) (nI B)) 6 (12 * 1 + qr_N ρ) 1) 7 (12 * 1 + qr_N ρ) 1) := p1 _ 1 1 1 f1 (by omega)
            rw [g1, qn_o]
            have f2 : (qe_si (qe_si (qe_si (qe_si (qe_si σ 1 0 (nI (qr_N ρ + 1))) 6 (12 * 0 + qr_N ρ) (nI A)) 7 (12 * 0 + qr_N ρ) (nI B)) 6 (12 * 1 + qr_N ρ) 1) 7 (12 * 1 + qr_N ρ) 1).1 1 0 = nI (qr_N ρ + 1) := by
              rw [qn_si_k (by omega), qn_si_k (by omega)]; exact f1
            rw [p1 _ 2 1 1 f2 (by omega), qn_o]
            rw [qn_g (by omega) (by omega), qn_l, nI_clamp (by omega), qn_g (by omega) (by omega), qn_l, qn_g (by omega) (by omega), qn_l]
            have e1' : g_X3_arrange (qe_si (qe_si (qe_si (qe_si (qe_si (qe_si (qe_si (qe_si (qe_si (qe_si σ 1 0 (nI (qr_N ρ + 1))) 6 (12 * 0 + qr_N ρ) (nI A)) 7 (12 * 0 + qr_N ρ) (nI B)) 6 (12 * 1 + qr_N ρ) 1) 7 (12 * 1 + qr_N ρ) 1) 6 (12 * 2 + qr_N ρ) 1) 7 (12 * 2 + qr_N ρ) 1) 2 (qr_N ρ) a2) 3 (qr_N ρ) a3) 4 (qr_N ρ) (nI (qr_N ρ))) = some σ' := e1
            rw [e1', qn_o]
          · have hne : ¬ nI (qr_N ρ) = nI 12 := fun z => hf ((nI_eq (by omega) (by omega)).mp z)
            obtain ⟨F, hF⟩ : ∃ F, qm_F = F + 1 + 1 + 1 + 1 := ⟨4996, qn_F⟩
            unfold g_X9_comes
            rw [qz_oddsM, if_pos hv, qn_b, if_neg qn_10, qr_within, if_pos hs, qn_b, if_neg qn_10, qr_within, if_pos hk, qn_b, if_neg qn_10, qn_g0 (by omega) (by omega), qn_l, qr_clamp0, m.1, if_neg hne, qn_g0 (by omega) (by omega), qn_l, qn_g0 (by omega) (by omega), qn_l, nI_1, nI_add, nI_add, nI_add, nI_add, qn_g (by omega) (by omega), qn_l, qn_g (by omega) (by omega), qn_l, qn_g (by omega) (by omega), qn_l, qn_g (by omega) (by omega), qn_l, qn_l, nI_clamp (by omega), nI_clamp (by omega), nI_clamp (by omega), nI_clamp (by omega), hF, ← nI_0, qz_comesL hN2 (by omega), qz_comesL hN2 (by omega), qz_comesL hN2 (by omega)]
            simp only [g_X9_comes_L108]
            rw [if_pos (nI_le (by omega) (by omega))]
            rfl
          · rw [e2.2 k (by omega)]
            funext x
            unfold qz_cu
            iterate 10 rw [qn_si_k (by omega)]
          · funext x
            unfold qz_mu
            iterate 11 rw [qn_si_k h1]
      · refine out (-2) (by decide) ?_ ?_
        · unfold g_X3_admit
          rw [qz_oddsC, if_pos hv, qn_b, if_neg qn_10, qz_stratumFits, if_pos hs, qn_b, if_neg qn_10, qz_markFits, if_neg hk, qn_b, if_pos rfl]
        · unfold g_X9_comes
          rw [qz_oddsM, if_pos hv, qn_b, if_neg qn_10, qr_within, if_pos hs, qn_b, if_neg qn_10, qr_within, if_neg hk, qn_b, if_pos rfl]
    · refine out (-2) (by decide) ?_ ?_
      · unfold g_X3_admit
        rw [qz_oddsC, if_pos hv, qn_b, if_neg qn_10, qz_stratumFits, if_neg hs, qn_b, if_pos rfl]
      · unfold g_X9_comes
        rw [qz_oddsM, if_pos hv, qn_b, if_neg qn_10, qr_within, if_neg hs, qn_b, if_pos rfl]
  · refine out (-2) (by decide) ?_ ?_
    · unfold g_X3_admit
      rw [qz_oddsC, if_neg hv, qn_b, if_pos rfl]
    · unfold g_X9_comes
      rw [qz_oddsM, if_neg hv, qn_b, if_pos rfl]

theorem qj_odds {σ τ : qe_S} (hV : qz_V σ τ) (a0 a1 a2 a3 : Int32) : qj_ok (g_X3_changeOdds a0 a1 a2 a3 σ) (g_X9_becomes a0 a1 a2 a3 τ) σ τ := by
  have hV0 := hV
  obtain ⟨ρ, w, d, o, m⟩ := hV
  have hN := w.1
  have out : ∀ v : Int32, ¬ (0 ≤ v) → g_X3_changeOdds a0 a1 a2 a3 σ = some (v, σ) → g_X9_becomes a0 a1 a2 a3 τ = some (v, τ) → qj_ok (g_X3_changeOdds a0 a1 a2 a3 σ) (g_X9_becomes a0 a1 a2 a3 τ) σ τ := fun v hv h1 h2 => qj_no hV0 hv h1 h2
  rcases qn_in_cases a0 (n := qr_N ρ) (by omega) with h | ⟨u, hu, rfl⟩
  · refine out (-1) (by decide) ?_ ?_
    · unfold g_X3_changeOdds
      rw [qr_has0 d.1 hN h, qn_b, if_pos rfl]
    · unfold g_X9_becomes
      rw [qr_isUnit0 m.1 hN h, qn_b, if_pos rfl]
  · rcases qn_in_cases a1 (n := 3) (by omega) with h | ⟨r, hr, rfl⟩
    · refine out (-1) (by decide) ?_ ?_
      · unfold g_X3_changeOdds
        rw [qr_has1 d.1 hN hu, qn_b, if_neg qn_10, qz_isRow0 h, qn_b, if_pos rfl]
      · unfold g_X9_becomes
        rw [qr_isUnit1 m.1 hN hu, qn_b, if_neg qn_10, qz_within0 (n := 2) h (by omega), qn_b, if_pos rfl]
    · by_cases hv : (1 ≤ a3 ∧ a3 ≤ nI 60) ∧ ((if nI r = 0 then 1 else 0) ≤ a2 ∧ a2 ≤ a3)
      · obtain ⟨A, B, rfl, rfl, h1, h2, h3, h4⟩ := qz_oddsN hr hv
        obtain ⟨ρ', w2, d2, m2⟩ := qz_seta w d m hr hu h1 h2 h3 h4
        obtain ⟨σ', e1, e2, e3⟩ := qr_arrange w2 d2
        have bb := w.2.2.2.2.2.2.1 r u hr hu
        have ma := (m.2.2.2 r u hr hu).1
        have mb := (m.2.2.2 r u hr hu).2
        refine qj_new (r := nI (100 * qr_a ρ r u + qr_b ρ r u)) (r' := nI (100 * qr_a ρ r u + qr_b ρ r u)) (σ' := σ') (τ' := qe_si (qe_si τ 1 (50 + (12 * r + u)) (nI A)) 1 (86 + (12 * r + u)) (nI B)) ?_ ?_ (nI_pos' (by omega)) (nI_pos' (by omega)) (fun k hk => by rw [e2.2 k (by omega)]; funext x; exact (qn_si_k (by omega)).trans (qn_si_k (by omega))) (e2.1.trans rfl) (fun k h1 => by funext x; exact (qn_si_k h1).trans (qn_si_k h1)) rfl ⟨ρ', w2, qr_D_on e2 d2 (by omega), e3, m2⟩
        · unfold g_X3_changeOdds
          rw [qr_has1 d.1 hN hu, qn_b, if_neg qn_10, qz_isRow1 hr, qn_b, if_neg qn_10, qz_oddsC, if_pos hv, qn_b, if_neg qn_10, qr_above w d hr hu, qn_b, qr_below w d hr hu, qn_b, qn_l, qz_putOdds d.1 hN hr hu, qn_o, e1, qn_o, pk_mul, nI_add]
        · unfold g_X9_becomes
          rw [qr_isUnit1 m.1 hN hu, qn_b, if_neg qn_10, qz_within1 (n := 2) (by omega) (by omega), qn_b, if_neg qn_10, qz_oddsM, if_pos hv, qn_b, if_neg qn_10, pk_mul, nI_add, qn_l, nI_add, nI_add, nI_clamp (by omega), nI_clamp (by omega), qn_g (by omega) (by omega), qn_l, qn_g (by omega) (by omega), qn_l, qn_l, qn_g (by omega) (by omega), qn_l, qn_g (by omega) (by omega), qn_l, ma, mb, pk_mul, nI_add]
      · refine out (-2) (by decide) ?_ ?_
        · unfold g_X3_changeOdds
          rw [qr_has1 d.1 hN hu, qn_b, if_neg qn_10, qz_isRow1 hr, qn_b, if_neg qn_10, qz_oddsC, if_neg hv, qn_b, if_pos rfl]
        · unfold g_X9_becomes
          rw [qr_isUnit1 m.1 hN hu, qn_b, if_neg qn_10, qz_within1 (n := 2) (by omega) (by omega), qn_b, if_neg qn_10, qz_oddsM, if_neg hv, qn_b, if_pos rfl]

theorem qj_swap {σ τ : qe_S} (hV : qz_V σ τ) (a0 a1 : Int32) : qj_ok (g_X3_exchange a0 a1 σ) (g_X9_swaps a0 a1 τ) σ τ := by
  have hV0 := hV
  obtain ⟨ρ, w, d, o, m⟩ := hV
  have hN := w.1
  have out : ∀ v : Int32, ¬ (0 ≤ v) → g_X3_exchange a0 a1 σ = some (v, σ) → g_X9_swaps a0 a1 τ = some (v, τ) → qj_ok (g_X3_exchange a0 a1 σ) (g_X9_swaps a0 a1 τ) σ τ := fun v hv h1 h2 => qj_no hV0 hv h1 h2
  rcases qn_in_cases a0 (n := qr_N ρ) (by omega) with h | ⟨u, hu, rfl⟩
  · refine out (-1) (by decide) ?_ ?_
    · unfold g_X3_exchange
      rw [qr_has0 d.1 hN h, qn_b, if_pos rfl]
    · unfold g_X9_swaps
      rw [qr_isUnit0 m.1 hN h, qn_b, if_pos rfl]
  · rcases qn_in_cases a1 (n := qr_N ρ) (by omega) with h | ⟨v, hv, rfl⟩
    · refine out (-1) (by decide) ?_ ?_
      · unfold g_X3_exchange
        rw [qr_has1 d.1 hN hu, qn_b, if_neg qn_10, qr_has0 d.1 hN h, qn_b, if_pos rfl]
      · unfold g_X9_swaps
        rw [qr_isUnit1 m.1 hN hu, qn_b, if_neg qn_10, qr_isUnit0 m.1 hN h, qn_b, if_pos rfl]
    · by_cases huv : u = v
      · subst huv
        refine out (-5) (by decide) ?_ ?_
        · unfold g_X3_exchange
          rw [qr_has1 d.1 hN hu, qn_b, if_neg qn_10, qr_has1 d.1 hN hu, qn_b, if_neg qn_10, if_pos rfl]
        · unfold g_X9_swaps
          rw [qr_isUnit1 m.1 hN hu, qn_b, if_neg qn_10, qr_isUnit1 m.1 hN hu, qn_b, if_neg qn_10, if_pos rfl]
      · have hne : ¬ nI u = nI v := fun z => huv ((nI_eq (by omega) (by omega)).mp z)
        obtain ⟨ρ', w2, x1, x2, d2, m2⟩ := qz_seth w d m hu hv huv
        obtain ⟨σ', e1, e2, e3⟩ := qr_arrange w2 d2
        have hl := w2.2.2.1 u (by omega)
        have d3 := qr_D_on e2 d2 (by omega)
        have mu := (m.2.2.1 u hu).1
        have mv := (m.2.2.1 v hv).1
        have du : σ.1 4 u = nI (qr_h ρ u) := (d.2.2.2.1 u hu).2.2
        have dv : σ.1 4 v = nI (qr_h ρ v) := (d.2.2.2.1 v hv).2.2
        have ru : σ'.1 4 u = nI (qr_h ρ v) := by rw [← x1]; exact (d3.2.2.2.1 u (by omega)).2.2
        have tu := (m2.2.2.1 u (by omega)).1
        rw [x1] at tu
        have pos : (0 : Int32) ≤ nI (qr_h ρ v) := nI_pos' (by have := w.2.2.1 v hv; omega)
        refine qj_new (r := nI (qr_h ρ v)) (r' := nI (qr_h ρ v)) (σ' := σ') (τ' := qe_si (qe_si τ 1 (2 + u) (nI (qr_h ρ v))) 1 (2 + v) (nI (qr_h ρ u))) ?_ ?_ pos pos (fun k hk => by rw [e2.2 k (by omega)]; funext x; exact (qn_si_k (by omega)).trans (qn_si_k (by omega))) (e2.1.trans rfl) (fun k h1 => by funext x; exact (qn_si_k h1).trans (qn_si_k h1)) rfl ⟨ρ', w2, d3, e3, m2⟩
        · unfold g_X3_exchange
          rw [qr_has1 d.1 hN hu, qn_b, if_neg qn_10, qr_has1 d.1 hN hv, qn_b, if_neg qn_10, if_neg hne, qn_g (by omega) (by omega), qn_l, nI_clamp (by omega), qn_g (by omega) (by omega), qn_l, nI_clamp (by omega), qn_g (by omega) (by omega), qn_l, qn_g (by omega) (by omega), qn_l, du, dv, e1, qn_o, qn_g (by omega) (by omega), qn_l, ru]
        · unfold g_X9_swaps
          rw [qr_isUnit1 m.1 hN hu, qn_b, if_neg qn_10, qr_isUnit1 m.1 hN hv, qn_b, if_neg qn_10, if_neg hne, nI_add, nI_add, qn_g (by omega) (by omega), qn_l, nI_clamp (by omega), qn_g (by omega) (by omega), qn_l, nI_clamp (by omega), qn_g (by omega) (by omega), qn_l, qn_g (by omega) (by omega), qn_l, qn_g (by omega) (by omega), qn_l, mu, mv, tu]

theorem qj_order {σ τ : qe_S} (hV : qz_V σ τ) {v : Nat} (hv9 : v < 1000) : qj_ok (g_X3_changeOrder (nI v) σ) (if nI v ≤ nI 5 then (qm_g (1 : Int32) 122 <| qm_l (qe_si τ 1 (1 : Int32).toNatClampNeg (nI v)) fun s3 => some ((1 : Int32), s3)) else some ((-2 : Int32), τ)) σ τ := by
  have hV0 := hV
  obtain ⟨ρ, w, d, o, m⟩ := hV
  have hN := w.1
  by_cases h : v ≤ 5
  · have hin : vp_in (nI v) 6 := vp_in_nI (by omega) (by omega)
    have hw2 : qr_wf (qr_N ρ, nI v, ρ.2.2) := ⟨w.1, hin, w.2.2⟩
    have d2 : qr_D 1 (qe_si σ 1 2 (nI v)) (qr_N ρ, nI v, ρ.2.2) := ⟨d.1, d.2.1, rfl, d.2.2.2⟩
    have m2 : qr_M 1 (qe_si τ 1 1 (nI v)) (qr_N ρ, nI v, ρ.2.2) := by
      refine ⟨m.1, rfl, fun u hu => ?_, fun r u hr hu => ?_⟩
      · rw [qn_si_j (by omega), qn_si_j (by omega), qn_si_j (by omega), qn_si_j (by omega)]
        exact m.2.2.1 u hu
      · rw [qn_si_j (by omega), qn_si_j (by omega)]
        exact m.2.2.2 r u hr hu
    obtain ⟨σ', e1, e2, e3⟩ := qr_arrange hw2 d2
    obtain ⟨j, hj, hj2⟩ : ∃ j, j < 6 ∧ qr_o ρ = nI j := by
      rcases qn_in_cases (qr_o ρ) (n := 6) (by omega) with z | z
      · exact absurd w.2.1 z
      · exact z
    refine qj_new (r := qr_o ρ) (r' := 1) (σ' := σ') (τ' := qe_si τ 1 1 (nI v)) ?_ ?_ (by rw [hj2]; exact nI_pos' (by omega)) (by decide) (fun k hk => by rw [e2.2 k (by omega)]; funext x; exact qn_si_k (by omega)) (e2.1.trans rfl) (fun k h1 => by funext x; exact qn_si_k h1) rfl ⟨_, hw2, qr_D_on e2 d2 (by omega), e3, m2⟩
    · unfold g_X3_changeOrder
      rw [if_neg (nI_pos (by omega)), if_pos (nI_le (by omega) (by omega)), qn_l, qn_l, e1, qn_o, d.2.2.1]
    · rw [if_pos (nI_le (by omega) (by omega)), qn_g1 (by omega) (by omega), qn_l, qr_clamp1]
  · refine qj_no hV0 (v := -2) (by decide) ?_ ?_
    · unfold g_X3_changeOrder
      rw [if_neg (nI_pos (by omega)), if_neg (nI_ge (show 5 < v by omega) (by omega))]
    · rw [if_neg (nI_ge (show 5 < v by omega) (by omega))]
theorem qj_ref {σ τ : qe_S} (hV : qz_V σ τ) (a0 : Int32) : qj_ok (qm_b (g_X3_isRefusing a0 σ) fun a17 s16 => if a17 = (0 : Int32) then (qm_b (g_X3_changeRefusing a0 (1 : Int32) s16) fun a19 s18 => some (a19, s18)) else qm_b (g_X3_changeRefusing a0 (0 : Int32) s16) fun a21 s20 => some (a21, s20)) (qm_b (g_X9_isUnit a0 τ) fun a13 s12 => if a13 = (0 : Int32) then (some ((-1 : Int32), s12)) else qm_g ((nI 38) + a0) 122 <| qm_l (s12.1 1 ((nI 38) + a0).toNatClampNeg) fun a14 => qm_g ((nI 38) + a0) 122 <| qm_l (qe_si s12 1 ((nI 38) + a0).toNatClampNeg ((1 : Int32) - a14)) fun s15 => some ((1 : Int32), s15)) σ τ := by
  have hV0 := hV
  obtain ⟨ρ, w, d, o, m⟩ := hV
  have hN := w.1
  rcases qn_in_cases a0 (n := qr_N ρ) (by omega) with h | ⟨u, hu, rfl⟩
  · refine qj_no hV0 (v := -1) (by decide) ?_ ?_
    · unfold g_X3_isRefusing
      rw [qn_j, qr_has0 d.1 hN h, qn_b, if_pos rfl, qn_b, if_pos rfl]
      unfold g_X3_changeRefusing
      rw [qr_has0 d.1 hN h, qn_b, if_pos rfl, qn_b]
    · rw [qr_isUnit0 m.1 hN h, qn_b, if_pos rfl]
  · obtain ⟨ρ', w2, d2, m2, o2⟩ := qz_setf (b := !(qr_f ρ u)) w d m hu
    have mf : τ.1 1 (38 + u) = if qr_f ρ u then 1 else 0 := (m.2.2.1 u hu).2.2.2
    have pos : (0 : Int32) ≤ (if qr_f ρ u then 1 else 0) := by cases qr_f ρ u <;> decide
    refine qj_new (r := if qr_f ρ u then 1 else 0) (r' := 1) (σ' := qe_si σ 1 1 (nI (qb_s (qz_up (qr_f ρ) u (!(qr_f ρ u))) (qr_N ρ)))) (τ' := qe_si τ 1 (38 + u) (if !(qr_f ρ u) then 1 else 0)) ?_ ?_ pos (by decide) (fun k hk => by funext x; exact qn_si_k (by omega)) rfl (fun k h1 => by funext x; exact qn_si_k h1) rfl ⟨ρ', w2, d2, o2 o, m2⟩
    · rw [qz_isRef w d hu, qn_b]
      have c := qz_chRef (b := !(qr_f ρ u)) w d hu
      by_cases f : qr_f ρ u = true
      · rw [f] at c ⊢
        rw [if_pos rfl, if_neg qn_10]
        rw [show (if (!true) = true then (1 : Int32) else 0) = 0 from rfl] at c
        rw [c, qn_b, if_pos rfl]
      · rw [Bool.not_eq_true] at f
        rw [f] at c ⊢
        rw [if_neg Bool.false_ne_true, if_pos rfl]
        rw [show (if (!false) = true then (1 : Int32) else 0) = 1 from rfl] at c
        rw [c, qn_b, if_neg Bool.false_ne_true]
    · rw [qr_isUnit1 m.1 hN hu, qn_b, if_neg qn_10, nI_add, qn_g (by omega) (by omega), qn_l, nI_clamp (by omega), qn_g (by omega) (by omega), qn_l, mf]
      cases qr_f ρ u <;> rfl
