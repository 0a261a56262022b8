/-! MARK: one place of the roster changes -/
theorem qz_markFits (v : Int32) (σ : qe_S) : g_X3_markFits v σ = some (if -99 ≤ v ∧ v ≤ nI 99 then 1 else 0, σ) := by
  unfold g_X3_markFits
  rw [qn_j]
  by_cases h1 : v < -99
  · rw [if_pos h1, if_neg (fun z => Int32.not_le.mpr h1 z.1)]
  · by_cases h2 : nI 99 < v
    · rw [if_neg h1, if_pos h2, if_neg (fun z => Int32.not_le.mpr h2 z.2)]
    · rw [if_neg h1, if_neg h2, if_pos ⟨Int32.not_lt.mp h1, Int32.not_lt.mp h2⟩]
theorem qz_stratumFits (v : Int32) (σ : qe_S) : g_X3_stratumFits v σ = some (if 0 ≤ v ∧ v ≤ nI 3 then 1 else 0, σ) := by
  unfold g_X3_stratumFits
  rw [qn_j]
  by_cases h1 : v < 0
  · rw [if_pos h1, if_neg (fun z => Int32.not_le.mpr h1 z.1)]
  · by_cases h2 : nI 3 < v
    · rw [if_neg h1, if_pos h2, if_neg (fun z => Int32.not_le.mpr h2 z.2)]
    · rw [if_neg h1, if_neg h2, if_pos ⟨Int32.not_lt.mp h1, Int32.not_lt.mp h2⟩]
def qz_up {α : Type} (f : Nat → α) (u : Nat) (v : α) : Nat → α := fun w => if w = u then v else f w
theorem qz_setm {ρ : qr_R} {σ τ : qe_S} (w : qr_wf ρ) (d : qr_D 1 σ ρ) (m : qr_M 1 τ ρ) {u : Nat} {v : Int32} (hu : u < qr_N ρ) (hv : -99 ≤ v ∧ v ≤ nI 99) : ∃ ρ', qr_wf ρ' ∧ qr_D 1 (qe_si σ 3 u v) ρ' ∧ qr_M 1 (qe_si τ 1 (26 + u) v) ρ' := by
  have hN := w.1
  refine ⟨(qr_N ρ, qr_o ρ, qr_h ρ, qr_s ρ, qz_up (qr_m ρ) u v, ρ.2.2.2.2.2), ⟨w.1, w.2.1, w.2.2.1, w.2.2.2.1, w.2.2.2.2.1, fun x hx => ?_, w.2.2.2.2.2.2⟩, ⟨d.1, d.2.1, d.2.2.1, fun x hx => ?_, d.2.2.2.2⟩, ⟨?_, ?_, fun x hx => ?_, fun r x hr hx => ?_⟩⟩
  · show -99 ≤ (qz_up (qr_m ρ) u v x).toInt ∧ (qz_up (qr_m ρ) u v x).toInt ≤ 99
    unfold qz_up
    by_cases h : x = u
    · rw [if_pos h]
      have h1 := Int32.le_iff_toInt_le.mp hv.1
      have h2 := Int32.le_iff_toInt_le.mp hv.2
      rw [nI_toInt (by omega)] at h2
      exact ⟨h1, h2⟩
    · rw [if_neg h]
      exact w.2.2.2.2.2.1 x hx
  · have dx := d.2.2.2.1 x hx
    refine ⟨dx.1, ?_, dx.2.2⟩
    show (qe_si σ 3 u v).1 3 x = qz_up (qr_m ρ) u v x
    unfold qz_up
    by_cases h : x = u
    · rw [if_pos h, h, qn_si_eq]
    · rw [if_neg h, qn_si_j h]; exact dx.2.1
  · rw [qn_si_j (by omega)]; exact m.1
  · rw [qn_si_j (by omega)]; exact m.2.1
  · have hx' : x < qr_N ρ := hx
    have dx := m.2.2.1 x hx
    refine ⟨?_, ?_, ?_, ?_⟩
    · rw [qn_si_j (by omega)]; exact dx.1
    · rw [qn_si_j (by omega)]; exact dx.2.1
    · show (qe_si τ 1 (26 + u) v).1 1 (26 + x) = qz_up (qr_m ρ) u v x
      unfold qz_up
      by_cases h : x = u
      · rw [if_pos h, h, qn_si_eq]
      · rw [if_neg h, qn_si_j (by omega)]; exact dx.2.2.1
    · rw [qn_si_j (by omega)]; exact dx.2.2.2
  · have hx' : x < qr_N ρ := hx
    rw [qn_si_j (by omega), qn_si_j (by omega)]
    exact m.2.2.2 r x hr hx
theorem qz_mark : ql_op_mark qz_R := by
  intro a0 a1 σ τ hR
  have hR0 := hR
  obtain ⟨⟨ρ, w, d, o, m⟩, hI, hW, hT, hL⟩ := hR
  have hN := w.1
  have out : ∀ v : Int32, ¬ (0 ≤ v) → g_X3_changeMark a0 a1 σ = some (v, σ) → (∀ t : qe_S, g_X9_no v τ = some (v, t) → g_X9_mark a0 a1 τ = some (v, t)) → ∃ (r : Int32) (σ' τ' : qe_S), g_X8_mark a0 a1 σ = some (r, σ') ∧ g_X9_mark a0 a1 τ = some (r, τ') ∧ qz_R σ' τ' := by
    intro v hv h1 h2
    obtain ⟨σ', τ', e1, e2, hR'⟩ := qz_no hR0 v
    refine ⟨v, σ', τ', ?_, h2 τ' e2, hR'⟩
    unfold g_X8_mark g_X8_answered
    rw [h1, qn_b, if_neg hv, e1, qn_b, qn_b]
  rcases qn_in_cases a0 (n := qr_N ρ) (by omega) with h | ⟨u, hu, rfl⟩
  · refine out (-1) (by decide) ?_ (fun t e => ?_)
    · unfold g_X3_changeMark
      rw [qr_has0 d.1 hN h, qn_b, if_pos rfl]
    · unfold g_X9_mark
      rw [qr_isUnit0 m.1 hN h, qn_b, if_pos rfl, e, qn_b]
  · by_cases hv : -99 ≤ a1 ∧ a1 ≤ nI 99
    · obtain ⟨ρ', w2, d2, m2⟩ := qz_setm w d m hu hv
      obtain ⟨σ', e1, e2, e3⟩ := qr_arrange w2 d2
      refine ⟨1, σ', qe_si τ 1 (26 + u) a1, ?_, ?_, qz_new hR0 (fun k hk => by rw [e2.2 k (by omega)]; funext x; exact qn_si_k (by omega)) (e2.1.trans rfl) (fun k h1 _ => by funext x; exact qn_si_k h1) rfl ⟨ρ', w2, qr_D_on e2 d2 (by omega), e3, m2⟩⟩
      · unfold g_X8_mark g_X3_changeMark g_X8_answered
        rw [qr_has1 d.1 hN hu, qn_b, if_neg qn_10, qz_markFits, if_pos hv, qn_b, if_neg qn_10, qn_g (by omega) (by omega), qn_l, nI_clamp (by omega), e1, qn_o, qn_b, if_pos (by decide), qn_b]
      · unfold g_X9_mark
        rw [qr_isUnit1 m.1 hN hu, qn_b, if_neg qn_10, qr_within, if_pos hv, qn_b, if_neg qn_10, nI_add, qn_g (by omega) (by omega), qn_l, nI_clamp (by omega)]
    · refine out (-2) (by decide) ?_ (fun t e => ?_)
      · unfold g_X3_changeMark
        rw [qr_has1 d.1 hN hu, qn_b, if_neg qn_10, qz_markFits, if_neg hv, qn_b, if_pos rfl]
      · unfold g_X9_mark
        rw [qr_isUnit1 m.1 hN hu, qn_b, if_neg qn_10, qr_within, if_neg hv, qn_b, if_pos rfl, e, qn_b]
