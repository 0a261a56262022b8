/-! SWAP: two places of the hand -/
def qz_sw (f : Nat → Nat) (u v : Nat) : Nat → Nat := fun w => if w = v then f u else if w = u then f v else f w
theorem qz_seth {ρ : qr_R} {σ τ : qe_S} (w : qr_wf ρ) (d : qr_D 1 σ ρ) (m : qr_M 1 τ ρ) {u v : Nat} (hu : u < qr_N ρ) (hv : v < qr_N ρ) (huv : u ≠ v) : ∃ ρ', qr_wf ρ' ∧ qr_h ρ' u = qr_h ρ v ∧ qr_N ρ' = qr_N ρ ∧ qr_D 1 (qe_si (qe_si σ 4 u (nI (qr_h ρ v))) 4 v (nI (qr_h ρ u))) ρ' ∧ qr_M 1 (qe_si (qe_si τ 1 (2 + u) (nI (qr_h ρ v))) 1 (2 + v) (nI (qr_h ρ u))) ρ' := by
  have hN := w.1
  refine ⟨(qr_N ρ, qr_o ρ, qz_sw (qr_h ρ) u v, ρ.2.2.2), ⟨w.1, w.2.1, fun x hx => ?_, fun x y hx hy e => ?_, w.2.2.2.2⟩, ?_, rfl, ⟨d.1, d.2.1, d.2.2.1, fun x hx => ?_, d.2.2.2.2⟩, ⟨?_, ?_, fun x hx => ?_, fun r x hr hx => ?_⟩⟩
  · show qz_sw (qr_h ρ) u v x < qr_N ρ
    unfold qz_sw
    by_cases a : x = v
    · rw [if_pos a]; exact w.2.2.1 u hu
    · rw [if_neg a]
      by_cases b : x = u
      · rw [if_pos b]; exact w.2.2.1 v hv
      · rw [if_neg b]; exact w.2.2.1 x hx
  · have inj := w.2.2.2.1
    have hx' : x < qr_N ρ := hx
    have hy' : y < qr_N ρ := hy
    have e' : qz_sw (qr_h ρ) u v x = qz_sw (qr_h ρ) u v y := e
    unfold qz_sw at e'
    by_cases a : x = v
    · rw [if_pos a] at e'
      by_cases b : y = v
      · omega
      · rw [if_neg b] at e'
        by_cases c : y = u
        · rw [if_pos c] at e'
          exact absurd (inj u v hu hv e') huv
        · rw [if_neg c] at e'
          exact absurd (inj u y hu hy' e').symm c
    · rw [if_neg a] at e'
      by_cases a2 : x = u
      · rw [if_pos a2] at e'
        by_cases b : y = v
        · rw [if_pos b] at e'
          exact absurd (inj v u hv hu e').symm huv
        · rw [if_neg b] at e'
          by_cases c : y = u
          · omega
          · rw [if_neg c] at e'
            exact absurd (inj v y hv hy' e').symm b
      · rw [if_neg a2] at e'
        by_cases b : y = v
        · rw [if_pos b] at e'
          exact absurd (inj x u hx' hu e') a2
        · rw [if_neg b] at e'
          by_cases c : y = u
          · rw [if_pos c] at e'
            exact absurd (inj x v hx' hv e') a
          · rw [if_neg c] at e'
            exact inj x y hx' hy' e'
  · show qz_sw (qr_h ρ) u v u = qr_h ρ v
    unfold qz_sw
    rw [if_neg huv, if_pos rfl]
  · have dx := d.2.2.2.1 x hx
    refine ⟨dx.1, dx.2.1, ?_⟩
    show (qe_si (qe_si σ 4 u (nI (qr_h ρ v))) 4 v (nI (qr_h ρ u))).1 4 x = nI (qz_sw (qr_h ρ) u v x)
    unfold qz_sw
    by_cases a : x = v
    · rw [if_pos a, a, qn_si_eq]
    · rw [if_neg a, qn_si_j a]
      by_cases b : x = u
      · rw [if_pos b, b, qn_si_eq]
      · rw [if_neg b, qn_si_j b]; exact dx.2.2
  · rw [qn_si_j (by omega), qn_si_j (by omega)]; exact m.1
  · rw [qn_si_j (by omega), qn_si_j (by omega)]; exact m.2.1
  · have hx' : x < qr_N ρ := hx
    have dx := m.2.2.1 x hx
    refine ⟨?_, ?_, ?_, ?_⟩
    · show (qe_si (qe_si τ 1 (2 + u) (nI (qr_h ρ v))) 1 (2 + v) (nI (qr_h ρ u))).1 1 (2 + x) = nI (qz_sw (qr_h ρ) u v x)
      unfold qz_sw
      by_cases a : x = v
      · rw [if_pos a, a, qn_si_eq]
      · rw [if_neg a, qn_si_j (by omega)]
        by_cases b : x = u
        · rw [if_pos b, b, qn_si_eq]
        · rw [if_neg b, qn_si_j (by omega)]; exact dx.1
    · rw [qn_si_j (by omega), qn_si_j (by omega)]; exact dx.2.1
    · rw [qn_si_j (by omega), qn_si_j (by omega)]; exact dx.2.2.1
    · rw [qn_si_j (by omega), qn_si_j (by omega)]; exact dx.2.2.2
  · have hx' : x < qr_N ρ := hx
    rw [qn_si_j (by omega), qn_si_j (by omega), qn_si_j (by omega), qn_si_j (by omega)]
    exact m.2.2.2 r x hr hx
theorem qz_swap : ql_op_swap qz_R := by
  intro a0 a1 σ τ hR
  have hR0 := hR
  obtain ⟨⟨ρ, w, d, o, m⟩, hI, hW, hT, hL⟩ := hR
  have hN := w.1
  have out : ∀ v : Int32, ¬ (0 ≤ v) → g_X3_exchange a0 a1 σ = some (v, σ) → g_X9_swaps a0 a1 τ = some (v, τ) → ∃ (r : Int32) (σ' τ' : qe_S), g_X8_swap a0 a1 σ = some (r, σ') ∧ g_X9_swap a0 a1 τ = some (r, τ') ∧ qz_R σ' τ' := by
    intro v hv h1 h2
    obtain ⟨σ', τ', e1, e2, hR'⟩ := qz_no hR0 v
    refine ⟨v, σ', τ', ?_, ?_, hR'⟩
    · unfold g_X8_swap g_X8_answered
      rw [h1, qn_b, if_neg hv, e1, qn_b, qn_b]
    · unfold g_X9_swap
      rw [h2, qn_b, if_neg hv, e2, qn_b]
  rcases qn_in_cases a0 (n := qr_N ρ) (by omega) with h | ⟨u, hu, rfl⟩
  · refine out (-1) (by decide) ?_ ?_
    · unfold g_X3_exchange
      rw [qr_has0 d.1 hN h, qn_b, if_pos rfl]
    · unfold g_X9_swaps
      rw [qr_isUnit0 m.1 hN h, qn_b, if_pos rfl]
  · rcases qn_in_cases a1 (n := qr_N ρ) (by omega) with h | ⟨v, hv, rfl⟩
    · refine out (-1) (by decide) ?_ ?_
      · unfold g_X3_exchange
        rw [qr_has1 d.1 hN hu, qn_b, if_neg qn_10, qr_has0 d.1 hN h, qn_b, if_pos rfl]
      · unfold g_X9_swaps
        rw [qr_isUnit1 m.1 hN hu, qn_b, if_neg qn_10, qr_isUnit0 m.1 hN h, qn_b, if_pos rfl]
    · by_cases huv : u = v
      · subst huv
        refine out (-5) (by decide) ?_ ?_
        · unfold g_X3_exchange
          rw [qr_has1 d.1 hN hu, qn_b, if_neg qn_10, qr_has1 d.1 hN hu, qn_b, if_neg qn_10, if_pos rfl]
        · unfold g_X9_swaps
          rw [qr_isUnit1 m.1 hN hu, qn_b, if_neg qn_10, qr_isUnit1 m.1 hN hu, qn_b, if_neg qn_10, if_pos rfl]
      · have hne : ¬ nI u = nI v := fun z => huv ((nI_eq (by omega) (by omega)).mp z)
        obtain ⟨ρ', w2, x1, x2, d2, m2⟩ := qz_seth w d m hu hv huv
        obtain ⟨σ', e1, e2, e3⟩ := qr_arrange w2 d2
        have hl := w2.2.2.1 u (by omega)
        have d3 := qr_D_on e2 d2 (by omega)
        have mu := (m.2.2.1 u hu).1
        have mv := (m.2.2.1 v hv).1
        have du : σ.1 4 u = nI (qr_h ρ u) := (d.2.2.2.1 u hu).2.2
        have dv : σ.1 4 v = nI (qr_h ρ v) := (d.2.2.2.1 v hv).2.2
        have ru : σ'.1 4 u = nI (qr_h ρ v) := by rw [← x1]; exact (d3.2.2.2.1 u (by omega)).2.2
        have tu := (m2.2.2.1 u (by omega)).1
        rw [x1] at tu
        have pos : (0 : Int32) ≤ nI (qr_h ρ v) := nI_pos' (by have := w.2.2.1 v hv; omega)
        refine ⟨nI (qr_h ρ v), σ', qe_si (qe_si τ 1 (2 + u) (nI (qr_h ρ v))) 1 (2 + v) (nI (qr_h ρ u)), ?_, ?_, qz_new hR0 (fun k hk => by rw [e2.2 k (by omega)]; funext x; exact (qn_si_k (by omega)).trans (qn_si_k (by omega))) (e2.1.trans rfl) (fun k h1 _ => by funext x; exact (qn_si_k h1).trans (qn_si_k h1)) rfl ⟨ρ', w2, d3, e3, m2⟩⟩
        · unfold g_X8_swap g_X3_exchange g_X8_answered
          rw [qr_has1 d.1 hN hu, qn_b, if_neg qn_10, qr_has1 d.1 hN hv, qn_b, if_neg qn_10, if_neg hne, qn_g (by omega) (by omega), qn_l, nI_clamp (by omega), qn_g (by omega) (by omega), qn_l, nI_clamp (by omega), qn_g (by omega) (by omega), qn_l, qn_g (by omega) (by omega), qn_l, du, dv, e1, qn_o, qn_g (by omega) (by omega), qn_l, ru, qn_b, if_pos pos, qn_b]
        · unfold g_X9_swap g_X9_swaps
          rw [qr_isUnit1 m.1 hN hu, qn_b, if_neg qn_10, qr_isUnit1 m.1 hN hv, qn_b, if_neg qn_10, if_neg hne, nI_add, nI_add, qn_g (by omega) (by omega), qn_l, nI_clamp (by omega), qn_g (by omega) (by omega), qn_l, nI_clamp (by omega), qn_g (by omega) (by omega), qn_l, qn_g (by omega) (by omega), qn_l, qn_g (by omega) (by omega), qn_l, mu, mv, tu, qn_b, if_pos pos]
