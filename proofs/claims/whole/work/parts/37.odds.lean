/-! ODDS: FIRST, SECOND, NEXT of a unit -/
def qz_up2 (f : Nat → Nat → Nat) (r u v : Nat) : Nat → Nat → Nat := fun x y => if x = r ∧ y = u then v else f x y
theorem qz_btw {a : Int32} {l n : Nat} (hl : l < 2 ^ 31) (hn : n < 2 ^ 31) (h : nI l ≤ a ∧ a ≤ nI n) : ∃ A, l ≤ A ∧ A ≤ n ∧ a = nI A := by
  have h1 := Int32.le_iff_toInt_le.mp h.1
  have h2 := Int32.le_iff_toInt_le.mp h.2
  rw [nI_toInt hl] at h1
  rw [nI_toInt hn] at h2
  obtain ⟨A, hA, rfl⟩ := nI_of (x := a) (fun z => by rw [Int32.lt_iff_toInt_lt, Int32.toInt_zero] at z; omega)
  rw [nI_toInt hA] at h1 h2
  exact ⟨A, by omega, by omega, rfl⟩
theorem qz_oddsC (v a b : Int32) (σ : qe_S) : g_X3_oddsFit v a b σ = some (if (1 ≤ b ∧ b ≤ nI 60) ∧ ((if v = 0 then 1 else 0) ≤ a ∧ a ≤ b) then 1 else 0, σ) := by
  unfold g_X3_oddsFit
  simp only [qn_j]
  by_cases h1 : b < 1
  · rw [if_pos h1, if_neg (fun z => Int32.not_le.mpr h1 z.1.1)]
  · rw [if_neg h1]
    by_cases h2 : nI 60 < b
    · rw [if_pos h2, if_neg (fun z => Int32.not_le.mpr h2 z.1.2)]
    · rw [if_neg h2]
      have h12 : 1 ≤ b ∧ b ≤ nI 60 := ⟨Int32.not_lt.mp h1, Int32.not_lt.mp h2⟩
      by_cases h0 : v = 0
      · rw [if_pos h0, if_pos h0]
        by_cases h3 : a < 1
        · rw [if_pos h3, if_neg (fun z => Int32.not_le.mpr h3 z.2.1)]
        · rw [if_neg h3]
          by_cases h4 : b < a
          · rw [if_pos h4, if_neg (fun z => Int32.not_le.mpr h4 z.2.2)]
          · rw [if_neg h4, if_pos ⟨h12, Int32.not_lt.mp h3, Int32.not_lt.mp h4⟩]
      · rw [if_neg h0, if_neg h0]
        by_cases h3 : a < 0
        · rw [if_pos h3, if_neg (fun z => Int32.not_le.mpr h3 z.2.1)]
        · rw [if_neg h3]
          by_cases h4 : b < a
          · rw [if_pos h4, if_neg (fun z => Int32.not_le.mpr h4 z.2.2)]
          · rw [if_neg h4, if_pos ⟨h12, Int32.not_lt.mp h3, Int32.not_lt.mp h4⟩]
theorem qz_oddsM (v a b : Int32) (τ : qe_S) : g_X9_isOdds v a b τ = some (if (1 ≤ b ∧ b ≤ nI 60) ∧ ((if v = 0 then 1 else 0) ≤ a ∧ a ≤ b) then 1 else 0, τ) := by
  unfold g_X9_isOdds
  simp only [qn_j, qr_within, qn_b]
  by_cases h1 : 1 ≤ b ∧ b ≤ nI 60
  · rw [if_pos h1, if_neg qn_10]
    by_cases h0 : v = 0
    · rw [if_pos h0, if_pos h0]
      by_cases h3 : 1 ≤ a ∧ a ≤ b
      · rw [if_pos h3, if_neg qn_10, if_pos ⟨h1, h3⟩]
      · rw [if_neg h3, if_pos rfl, if_neg (fun z => h3 z.2)]
    · rw [if_neg h0, if_neg h0]
      by_cases h3 : 0 ≤ a ∧ a ≤ b
      · rw [if_pos h3, if_neg qn_10, if_pos ⟨h1, h3⟩]
      · rw [if_neg h3, if_pos rfl, if_neg (fun z => h3 z.2)]
  · rw [if_neg h1, if_pos rfl, if_neg (fun z => h1 z.1)]
theorem qz_oddsN {r : Nat} {a b : Int32} (hr : r < 3) (h : (1 ≤ b ∧ b ≤ nI 60) ∧ ((if nI r = 0 then 1 else 0) ≤ a ∧ a ≤ b)) : ∃ A B, a = nI A ∧ b = nI B ∧ 1 ≤ B ∧ B ≤ 60 ∧ A ≤ B ∧ (r = 0 → 1 ≤ A) := by
  obtain ⟨B, h1, h2, rfl⟩ := qz_btw (l := 1) (n := 60) (by omega) (by omega) h.1
  by_cases h0 : r = 0
  · subst h0
    rw [if_pos nI_0] at h
    obtain ⟨A, h3, h4, rfl⟩ := qz_btw (l := 1) (n := B) (by omega) (by omega) h.2
    exact ⟨A, B, rfl, rfl, h1, h2, h4, fun _ => h3⟩
  · rw [if_neg (nI_ne0 (by omega) (by omega))] at h
    obtain ⟨A, h3, h4, rfl⟩ := qz_btw (l := 0) (n := B) (by omega) (by omega) h.2
    exact ⟨A, B, rfl, rfl, h1, h2, h4, fun z => absurd z h0⟩
theorem qz_put2 {N r u x y : Nat} (hN : N ≤ 12) (hu : u < N) (hy : y < N) : (12 * x + y = 12 * r + u) ↔ (x = r ∧ y = u) := by omega
theorem qz_seta {ρ : qr_R} {σ τ : qe_S} (w : qr_wf ρ) (d : qr_D 1 σ ρ) (m : qr_M 1 τ ρ) {r u A B : Nat} (hr : r < 3) (hu : u < qr_N ρ) (h1 : 1 ≤ B) (h2 : B ≤ 60) (h3 : A ≤ B) (h4 : r = 0 → 1 ≤ A) : ∃ ρ', qr_wf ρ' ∧ qr_D 1 (qe_si (qe_si σ 6 (12 * r + u) (nI A)) 7 (12 * r + u) (nI B)) ρ' ∧ qr_M 1 (qe_si (qe_si τ 1 (50 + (12 * r + u)) (nI A)) 1 (86 + (12 * r + u)) (nI B)) ρ' := by
  have hN := w.1
  refine ⟨(qr_N ρ, qr_o ρ, qr_h ρ, qr_s ρ, qr_m ρ, qr_f ρ, qz_up2 (qr_a ρ) r u A, qz_up2 (qr_b ρ) r u B), ⟨w.1, w.2.1, w.2.2.1, w.2.2.2.1, w.2.2.2.2.1, w.2.2.2.2.2.1, fun x y hx hy => ?_, fun y hy => ?_⟩, ⟨d.1, d.2.1, d.2.2.1, d.2.2.2.1, fun x y hx hy => ?_⟩, ⟨?_, ?_, fun x hx => ?_, fun x y hx hy => ?_⟩⟩
  · have wx := w.2.2.2.2.2.2.1 x y hx hy
    show 1 ≤ qz_up2 (qr_b ρ) r u B x y ∧ qz_up2 (qr_b ρ) r u B x y ≤ 60 ∧ qz_up2 (qr_a ρ) r u A x y ≤ qz_up2 (qr_b ρ) r u B x y
    unfold qz_up2
    by_cases h : x = r ∧ y = u
    · simp only [if_pos h]; exact ⟨h1, h2, h3⟩
    · simp only [if_neg h]; exact wx
  · have wy := w.2.2.2.2.2.2.2 y hy
    show 1 ≤ qz_up2 (qr_a ρ) r u A 0 y
    unfold qz_up2
    by_cases h : 0 = r ∧ y = u
    · rw [if_pos h]; exact h4 h.1.symm
    · rw [if_neg h]; exact wy
  · have hy' : y < qr_N ρ := hy
    have dx := d.2.2.2.2 x y hx hy
    show (qe_si (qe_si σ 6 (12 * r + u) (nI A)) 7 (12 * r + u) (nI B)).1 6 (12 * x + y) = nI (qz_up2 (qr_a ρ) r u A x y) ∧ (qe_si (qe_si σ 6 (12 * r + u) (nI A)) 7 (12 * r + u) (nI B)).1 7 (12 * x + y) = nI (qz_up2 (qr_b ρ) r u B x y)
    unfold qz_up2
    have e := qz_put2 (r := r) (x := x) hN hu hy'
    by_cases h : x = r ∧ y = u
    · obtain ⟨rfl, rfl⟩ := h
      refine ⟨?_, ?_⟩
      · rw [qn_si_k (by omega), qn_si_eq, if_pos ⟨rfl, rfl⟩]
      · rw [qn_si_eq, if_pos ⟨rfl, rfl⟩]
    · refine ⟨?_, ?_⟩
      · rw [if_neg h, qn_si_k (by omega), qn_si_j (fun z => h (e.mp z))]; exact dx.1
      · rw [if_neg h, qn_si_j (fun z => h (e.mp z)), qn_si_k (by omega)]; exact dx.2
  · rw [qn_si_j (by omega), qn_si_j (by omega)]; exact m.1
  · rw [qn_si_j (by omega), qn_si_j (by omega)]; exact m.2.1
  · have hx' : x < qr_N ρ := hx
    have dx := m.2.2.1 x hx
    rw [qn_si_j (by omega), qn_si_j (by omega), qn_si_j (by omega), qn_si_j (by omega), qn_si_j (by omega), qn_si_j (by omega), qn_si_j (by omega), qn_si_j (by omega)]
    exact dx
  · have hy' : y < qr_N ρ := hy
    have dx := m.2.2.2 x y hx hy
    show (qe_si (qe_si τ 1 (50 + (12 * r + u)) (nI A)) 1 (86 + (12 * r + u)) (nI B)).1 1 (50 + (12 * x + y)) = nI (qz_up2 (qr_a ρ) r u A x y) ∧ (qe_si (qe_si τ 1 (50 + (12 * r + u)) (nI A)) 1 (86 + (12 * r + u)) (nI B)).1 1 (86 + (12 * x + y)) = nI (qz_up2 (qr_b ρ) r u B x y)
    unfold qz_up2
    have e := qz_put2 (r := r) (x := x) hN hu hy'
    by_cases h : x = r ∧ y = u
    · obtain ⟨rfl, rfl⟩ := h
      refine ⟨?_, ?_⟩
      · rw [qn_si_j (by omega), qn_si_eq, if_pos ⟨rfl, rfl⟩]
      · rw [qn_si_eq, if_pos ⟨rfl, rfl⟩]
    · refine ⟨?_, ?_⟩
      · rw [if_neg h, qn_si_j (by omega), qn_si_j (fun z => h (e.mp (by omega)))]; exact dx.1
      · rw [if_neg h, qn_si_j (fun z => h (e.mp (by omega))), qn_si_j (by omega)]; exact dx.2
theorem qz_putOdds {σ : qe_S} {N r u : Nat} {a b : Int32} (hd : σ.1 1 0 = nI N) (hN : N ≤ 12) (hr : r < 3) (hu : u < N) : g_X3_putOdds (nI u) (nI r) a b σ = some (qe_si (qe_si σ 6 (12 * r + u) a) 7 (12 * r + u) b) := by
  unfold g_X3_putOdds
  rw [qr_has1 hd hN hu, qn_b, if_neg qn_10, qz_isRow1 hr, qn_b, if_neg qn_10]
  rw [pk_mul, nI_add, show r * 12 + u = 12 * r + u by omega, nI_clamp (by omega), qn_g (by omega) (by omega), qn_l, qn_g (by omega) (by omega), qn_l]
theorem qz_odds : ql_op_odds qz_R := by
  intro a0 a1 a2 a3 σ τ hR
  have hR0 := hR
  obtain ⟨⟨ρ, w, d, o, m⟩, hI, hW, hT, hL⟩ := hR
  have hN := w.1
  have out : ∀ v : Int32, ¬ (0 ≤ v) → g_X3_changeOdds a0 a1 a2 a3 σ = some (v, σ) → g_X9_becomes a0 a1 a2 a3 τ = some (v, τ) → ∃ (r : Int32) (σ' τ' : qe_S), g_X8_odds a0 a1 a2 a3 σ = some (r, σ') ∧ g_X9_odds a0 a1 a2 a3 τ = some (r, τ') ∧ qz_R σ' τ' := by
    intro v hv h1 h2
    obtain ⟨σ', τ', e1, e2, hR'⟩ := qz_no hR0 v
    refine ⟨v, σ', τ', ?_, ?_, hR'⟩
    · unfold g_X8_odds g_X8_answered
      rw [h1, qn_b, if_neg hv, e1, qn_b, qn_b]
    · unfold g_X9_odds
      rw [h2, qn_b, if_neg hv, e2, qn_b]
  rcases qn_in_cases a0 (n := qr_N ρ) (by omega) with h | ⟨u, hu, rfl⟩
  · refine out (-1) (by decide) ?_ ?_
    · unfold g_X3_changeOdds
      rw [qr_has0 d.1 hN h, qn_b, if_pos rfl]
    · unfold g_X9_becomes
      rw [qr_isUnit0 m.1 hN h, qn_b, if_pos rfl]
  · rcases qn_in_cases a1 (n := 3) (by omega) with h | ⟨r, hr, rfl⟩
    · refine out (-1) (by decide) ?_ ?_
      · unfold g_X3_changeOdds
        rw [qr_has1 d.1 hN hu, qn_b, if_neg qn_10, qz_isRow0 h, qn_b, if_pos rfl]
      · unfold g_X9_becomes
        rw [qr_isUnit1 m.1 hN hu, qn_b, if_neg qn_10, qz_within0 (n := 2) h (by omega), qn_b, if_pos rfl]
    · by_cases hv : (1 ≤ a3 ∧ a3 ≤ nI 60) ∧ ((if nI r = 0 then 1 else 0) ≤ a2 ∧ a2 ≤ a3)
      · obtain ⟨A, B, rfl, rfl, h1, h2, h3, h4⟩ := qz_oddsN hr hv
        obtain ⟨ρ', w2, d2, m2⟩ := qz_seta w d m hr hu h1 h2 h3 h4
        obtain ⟨σ', e1, e2, e3⟩ := qr_arrange w2 d2
        have bb := w.2.2.2.2.2.2.1 r u hr hu
        have ma := (m.2.2.2 r u hr hu).1
        have mb := (m.2.2.2 r u hr hu).2
        refine ⟨nI (100 * qr_a ρ r u + qr_b ρ r u), σ', qe_si (qe_si τ 1 (50 + (12 * r + u)) (nI A)) 1 (86 + (12 * r + u)) (nI B), ?_, ?_, qz_new hR0 (fun k hk => by rw [e2.2 k (by omega)]; funext x; exact (qn_si_k (by omega)).trans (qn_si_k (by omega))) (e2.1.trans rfl) (fun k h1 _ => by funext x; exact (qn_si_k h1).trans (qn_si_k h1)) rfl ⟨ρ', w2, qr_D_on e2 d2 (by omega), e3, m2⟩⟩
        · unfold g_X8_odds g_X3_changeOdds g_X8_answered
          rw [qr_has1 d.1 hN hu, qn_b, if_neg qn_10, qz_isRow1 hr, qn_b, if_neg qn_10, qz_oddsC, if_pos hv, qn_b, if_neg qn_10, qr_above w d hr hu, qn_b, qr_below w d hr hu, qn_b, qn_l, qz_putOdds d.1 hN hr hu, qn_o, e1, qn_o, qn_b, pk_mul, nI_add, if_pos (nI_pos' (by omega)), qn_b]
        · unfold g_X9_odds g_X9_becomes
          rw [qr_isUnit1 m.1 hN hu, qn_b, if_neg qn_10, qz_within1 (n := 2) (by omega) (by omega), qn_b, if_neg qn_10, qz_oddsM, if_pos hv, qn_b, if_neg qn_10, pk_mul, nI_add, qn_l, nI_add, nI_add, nI_clamp (by omega), nI_clamp (by omega), qn_g (by omega) (by omega), qn_l, qn_g (by omega) (by omega), qn_l, qn_l, qn_g (by omega) (by omega), qn_l, qn_g (by omega) (by omega), qn_l, ma, mb, pk_mul, nI_add, qn_b, if_pos (nI_pos' (by omega))]
      · refine out (-2) (by decide) ?_ ?_
        · unfold g_X3_changeOdds
          rw [qr_has1 d.1 hN hu, qn_b, if_neg qn_10, qz_isRow1 hr, qn_b, if_neg qn_10, qz_oddsC, if_neg hv, qn_b, if_pos rfl]
        · unfold g_X9_becomes
          rw [qr_isUnit1 m.1 hN hu, qn_b, if_neg qn_10, qz_within1 (n := 2) (by omega) (by omega), qn_b, if_neg qn_10, qz_oddsM, if_neg hv, qn_b, if_pos rfl]
