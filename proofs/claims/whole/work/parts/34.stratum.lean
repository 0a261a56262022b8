/-! STRATUM: one place of the strata changes -/
theorem qz_sets {ρ : qr_R} {σ τ : qe_S} (w : qr_wf ρ) (d : qr_D 1 σ ρ) (m : qr_M 1 τ ρ) {u : Nat} {v : Int32} (hu : u < qr_N ρ) (hv : vp_in v 4) : ∃ ρ', qr_wf ρ' ∧ qr_D 1 (qe_si σ 2 u v) ρ' ∧ qr_M 1 (qe_si τ 1 (14 + u) v) ρ' := by
  have hN := w.1
  refine ⟨(qr_N ρ, qr_o ρ, qr_h ρ, qz_up (qr_s ρ) u v, ρ.2.2.2.2), ⟨w.1, w.2.1, w.2.2.1, w.2.2.2.1, fun x hx => ?_, w.2.2.2.2.2⟩, ⟨d.1, d.2.1, d.2.2.1, fun x hx => ?_, d.2.2.2.2⟩, ⟨?_, ?_, fun x hx => ?_, fun r x hr hx => ?_⟩⟩
  · show vp_in (qz_up (qr_s ρ) u v x) 4
    unfold qz_up
    by_cases h : x = u
    · rw [if_pos h]; exact hv
    · rw [if_neg h]
      exact w.2.2.2.2.1 x hx
  · have dx := d.2.2.2.1 x hx
    refine ⟨?_, dx.2⟩
    show (qe_si σ 2 u v).1 2 x = qz_up (qr_s ρ) u v x
    unfold qz_up
    by_cases h : x = u
    · rw [if_pos h, h, qn_si_eq]
    · rw [if_neg h, qn_si_j h]; exact dx.1
  · rw [qn_si_j (by omega)]; exact m.1
  · rw [qn_si_j (by omega)]; exact m.2.1
  · have hx' : x < qr_N ρ := hx
    have dx := m.2.2.1 x hx
    refine ⟨?_, ?_, ?_, ?_⟩
    · rw [qn_si_j (by omega)]; exact dx.1
    · show (qe_si τ 1 (14 + u) v).1 1 (14 + x) = qz_up (qr_s ρ) u v x
      unfold qz_up
      by_cases h : x = u
      · rw [if_pos h, h, qn_si_eq]
      · rw [if_neg h, qn_si_j (by omega)]; exact dx.2.1
    · rw [qn_si_j (by omega)]; exact dx.2.2.1
    · rw [qn_si_j (by omega)]; exact dx.2.2.2
  · have hx' : x < qr_N ρ := hx
    rw [qn_si_j (by omega), qn_si_j (by omega)]
    exact m.2.2.2 r x hr hx
