/-! IMAGE, UNDO: the two copies -/
theorem qz_copy {a b : Nat} (hab : (a = 8 ∧ b = 1) ∨ (a = 1 ∧ b = 8)) (σ : qe_S) : ∃ σ', g_X3_copyOf a b σ = some σ' ∧ σ'.2 = σ.2 ∧ (∀ k, (k < a ∨ a + 6 < k) → σ'.1 k = σ.1 k) ∧ (∀ i, i < 3 → σ'.1 a i = σ.1 b i) ∧ (∀ c j, 1 ≤ c → c ≤ 4 → j < 12 → σ'.1 (a + c) j = σ.1 (b + c) j) ∧ (∀ c j, 5 ≤ c → c ≤ 6 → j < 36 → σ'.1 (a + c) j = σ.1 (b + c) j) := by
  rcases hab with ⟨rfl, rfl⟩ | ⟨rfl, rfl⟩
  · refine ⟨_, rfl, rfl, fun k hk => ?_, fun i hi => ?_, fun c j h1 h2 hj => ?_, fun c j h1 h2 hj => ?_⟩
    · funext j
      simp only [qe_si, qe_cp]
      simp [show k ≠ 8 by omega, show k ≠ 9 by omega, show k ≠ 10 by omega, show k ≠ 11 by omega, show k ≠ 12 by omega, show k ≠ 13 by omega, show k ≠ 14 by omega]
    · obtain rfl | rfl | rfl : i = 0 ∨ i = 1 ∨ i = 2 := by omega
      · rfl
      · rfl
      · rfl
    · obtain rfl | rfl | rfl | rfl : c = 1 ∨ c = 2 ∨ c = 3 ∨ c = 4 := by omega
      · simp [qe_si, qe_cp, hj]
      · simp [qe_si, qe_cp, hj]
      · simp [qe_si, qe_cp, hj]
      · simp [qe_si, qe_cp, hj]
    · obtain rfl | rfl : c = 5 ∨ c = 6 := by omega
      · simp [qe_si, qe_cp, hj]
      · simp [qe_si, qe_cp, hj]
  · refine ⟨_, rfl, rfl, fun k hk => ?_, fun i hi => ?_, fun c j h1 h2 hj => ?_, fun c j h1 h2 hj => ?_⟩
    · funext j
      simp only [qe_si, qe_cp]
      simp [show k ≠ 1 by omega, show k ≠ 2 by omega, show k ≠ 3 by omega, show k ≠ 4 by omega, show k ≠ 5 by omega, show k ≠ 6 by omega, show k ≠ 7 by omega]
    · obtain rfl | rfl | rfl : i = 0 ∨ i = 1 ∨ i = 2 := by omega
      · rfl
      · rfl
      · rfl
    · obtain rfl | rfl | rfl | rfl : c = 1 ∨ c = 2 ∨ c = 3 ∨ c = 4 := by omega
      · simp [qe_si, qe_cp, hj]
      · simp [qe_si, qe_cp, hj]
      · simp [qe_si, qe_cp, hj]
      · simp [qe_si, qe_cp, hj]
    · obtain rfl | rfl : c = 5 ∨ c = 6 := by omega
      · simp [qe_si, qe_cp, hj]
      · simp [qe_si, qe_cp, hj]
theorem qz_pours_L {a b : Nat} (hab : a ≠ b) (σ : qe_S) : ∀ (r i n : Nat) (s : qe_S), r + i = 122 → r < n → s.2 = σ.2 → (∀ k, k ≠ b → s.1 k = σ.1 k) → (∀ j, j < i → s.1 b j = σ.1 a j) → ∃ s', g_X9_pours_L2 a b n (nI i) s = some s' ∧ s'.2 = σ.2 ∧ (∀ k, k ≠ b → s'.1 k = σ.1 k) ∧ (∀ j, j < 122 → s'.1 b j = σ.1 a j) := by
  intro r
  induction r with
  | zero =>
    intro i n s hr hn h2 hk hj
    obtain ⟨m, rfl⟩ : ∃ m, n = m + 1 := ⟨n - 1, by omega⟩
    refine ⟨s, ?_, h2, hk, fun j h => hj j (by omega)⟩
    simp only [g_X9_pours_L2]
    rw [if_pos (nI_le (by omega) (by omega))]
  | succ r ih =>
    intro i n s hr hn h2 hk hj
    obtain ⟨m, rfl⟩ : ∃ m, n = m + 1 := ⟨n - 1, by omega⟩
    have hi : i < 122 := by omega
    have e : g_X9_pours_L2 a b (m + 1) (nI i) s = g_X9_pours_L2 a b m (nI (i + 1)) (qe_si s b i (s.1 a i)) := by
      simp only [g_X9_pours_L2]
      rw [if_neg (nI_ge hi (by omega)), qn_g hi (by omega), qn_l, qn_g hi (by omega), qn_l, qn_l, nI_clamp (by omega), nI_1]
    rw [e]
    refine ih (i + 1) m _ (by omega) (by omega) h2 (fun k h => ?_) (fun j h => ?_)
    · funext x; rw [qn_si_k h, hk k h]
    · by_cases hx : j = i
      · subst hx; rw [qn_si_eq, hk a hab]
      · rw [qn_si_j hx, hj j (by omega)]
theorem qz_pours {a b : Nat} (hab : a ≠ b) (σ : qe_S) : ∃ s', g_X9_pours a b σ = some s' ∧ s'.2 = σ.2 ∧ (∀ k, k ≠ b → s'.1 k = σ.1 k) ∧ (∀ j, j < 122 → s'.1 b j = σ.1 a j) := by
  have h := qz_pours_L hab σ 122 0 qm_F σ rfl (by rw [qn_F]; omega) rfl (fun _ _ => rfl) (fun j h => absurd h (by omega))
  rw [nI_0] at h
  unfold g_X9_pours
  rw [qn_l]
  exact h
theorem qz_D_copy {a b : Nat} {σ σ' : qe_S} {ρ : qr_R} (hw : qr_wf ρ) (hD : qr_D b σ ρ) (h1 : ∀ i, i < 3 → σ'.1 a i = σ.1 b i) (h2 : ∀ c j, 1 ≤ c → c ≤ 4 → j < 12 → σ'.1 (a + c) j = σ.1 (b + c) j) (h3 : ∀ c j, 5 ≤ c → c ≤ 6 → j < 36 → σ'.1 (a + c) j = σ.1 (b + c) j) : qr_D a σ' ρ := by
  have hN := hw.1
  refine ⟨(h1 0 (by omega)).trans hD.1, (h1 1 (by omega)).trans hD.2.1, (h1 2 (by omega)).trans hD.2.2.1, fun u hu => ?_, fun r u hr hu => ?_⟩
  · have d := hD.2.2.2.1 u hu
    exact ⟨(h2 1 u (by omega) (by omega) (by omega)).trans d.1, (h2 2 u (by omega) (by omega) (by omega)).trans d.2.1, (h2 3 u (by omega) (by omega) (by omega)).trans d.2.2⟩
  · have d := hD.2.2.2.2 r u hr hu
    exact ⟨(h3 5 _ (by omega) (by omega) (by omega)).trans d.1, (h3 6 _ (by omega) (by omega) (by omega)).trans d.2⟩
theorem qz_O_copy {a b : Nat} {σ σ' : qe_S} {ρ : qr_R} (hw : qr_wf ρ) (hO : qr_O b σ ρ) (h2 : ∀ c j, 1 ≤ c → c ≤ 4 → j < 12 → σ'.1 (a + c) j = σ.1 (b + c) j) : qr_O a σ' ρ := by
  have hN := hw.1
  intro i hi
  exact (h2 4 i (by omega) (by omega) (by omega)).trans (hO i hi)
theorem qz_M_copy {a b : Nat} {τ τ' : qe_S} {ρ : qr_R} (hw : qr_wf ρ) (hM : qr_M a τ ρ) (h : ∀ j, j < 122 → τ'.1 b j = τ.1 a j) : qr_M b τ' ρ := by
  have hN := hw.1
  refine ⟨(h 0 (by omega)).trans hM.1, (h 1 (by omega)).trans hM.2.1, fun u hu => ?_, fun r u hr hu => ?_⟩
  · have d := hM.2.2.1 u hu
    exact ⟨(h _ (by omega)).trans d.1, (h _ (by omega)).trans d.2.1, (h _ (by omega)).trans d.2.2.1, (h _ (by omega)).trans d.2.2.2⟩
  · have d := hM.2.2.2 r u hr hu
    exact ⟨(h _ (by omega)).trans d.1, (h _ (by omega)).trans d.2⟩
theorem qz_image : ql_op_image qz_R := by
  intro σ τ hR
  obtain ⟨⟨ρ, w, d, o, m⟩, hI, hW, hT, hL⟩ := hR
  obtain ⟨σ', e1, p2, pk, c1, c2, c3⟩ := qz_copy (Or.inl ⟨rfl, rfl⟩) σ
  obtain ⟨τ', e2, t2, tk, t3⟩ := qz_pours (a := 1) (b := 2) (by omega) (qe_si τ 0 3 1)
  have t3' : ∀ j, j < 122 → τ'.1 2 j = τ.1 1 j := fun j h => by rw [t3 j h, qn_si_k (by omega)]
  have tk' : ∀ k, k ≠ 2 → k ≠ 0 → τ'.1 k = τ.1 k := fun k h h0 => by rw [tk k h]; funext x; exact qn_si_k h0
  have t0 : ∀ j, j ≠ 3 → τ'.1 0 j = τ.1 0 j := fun j h => by rw [tk 0 (by omega), qn_si_j h]
  have d8 := qz_D_copy w d c1 c2 c3
  have o8 := qz_O_copy w o c2
  have m2 := qz_M_copy w m t3'
  have sk : ∀ k, (k < 8 ∨ 14 < k) → k ≠ 0 → (qe_si σ' 0 3 1).1 k = σ.1 k := fun k h h0 => by rw [← pk k h]; funext x; exact qn_si_k h0
  have sk8 : ∀ k, k ≠ 0 → (qe_si σ' 0 3 1).1 k = σ'.1 k := fun k h0 => by funext x; exact qn_si_k h0
  refine ⟨nI (qr_N ρ), qe_si σ' 0 3 1, τ', ?_, ?_, ⟨ρ, w, ?_, ?_, ?_⟩, Or.inr ⟨qn_si_eq, ?_, ρ, w, ?_, ?_, m2⟩, ?_, ?_, ?_⟩
  · unfold g_X8_image
    rw [e1, qn_o, qn_l, qn_si_k (by omega), d8.1]
  · unfold g_X9_image
    rw [qn_l, e2, qn_o, qn_g0 (by omega) (by omega), qn_l, qr_clamp0, tk' 1 (by omega) (by omega), m.1]
  · unfold qr_D
    rw [sk 1 (by omega) (by omega), sk (1 + 1) (by omega) (by omega), sk (1 + 2) (by omega) (by omega), sk (1 + 3) (by omega) (by omega), sk (1 + 5) (by omega) (by omega), sk (1 + 6) (by omega) (by omega)]
    exact d
  · unfold qr_O
    rw [sk (1 + 4) (by omega) (by omega)]
    exact o
  · unfold qr_M
    rw [tk' 1 (by omega) (by omega)]
    exact m
  · rw [tk 0 (by omega), qn_si_eq]
  · unfold qr_D
    rw [sk8 8 (by omega), sk8 (8 + 1) (by omega), sk8 (8 + 2) (by omega), sk8 (8 + 3) (by omega), sk8 (8 + 5) (by omega), sk8 (8 + 6) (by omega)]
    exact d8
  · unfold qr_O
    rw [sk8 (8 + 4) (by omega)]
    exact o8
  · intro i hi
    rw [sk 40 (by omega) (by omega), tk' 4 (by omega) (by omega)]
    exact hW i hi
  · unfold qz_T
    rw [sk 37 (by omega) (by omega), sk 39 (by omega) (by omega), t0 21 (by omega), tk' 15 (by omega) (by omega)]
    exact hT
  · intro l hl
    rw [sk (42 + 2 * l) (by omega) (by omega), tk' 17 (by omega) (by omega), qn_si_2, p2, t2, qn_si_2]
    exact hL l hl
theorem qz_undo : ql_op_undo qz_R := by
  intro σ τ hR
  have hR0 := hR
  obtain ⟨⟨ρ, w, d, o, m⟩, hI, hW, hT, hL⟩ := hR
  rcases hI with ⟨z1, z2⟩ | ⟨z1, z2, ρ2, w2, d2, o2, m2⟩
  · obtain ⟨σ', τ', e1, e2, hR'⟩ := qz_no hR0 (-3)
    refine ⟨-3, σ', τ', ?_, ?_, hR'⟩
    · unfold g_X8_undo
      rw [if_pos z1, e1, qn_b]
    · unfold g_X9_undo
      rw [if_pos z2, e2, qn_b]
  · obtain ⟨σ', e1, p2, pk, c1, c2, c3⟩ := qz_copy (Or.inr ⟨rfl, rfl⟩) σ
    obtain ⟨τ', e2, t2, tk, t3⟩ := qz_pours (a := 2) (b := 1) (by omega) τ
    have d1 := qz_D_copy w2 d2 c1 c2 c3
    have o1 := qz_O_copy w2 o2 c2
    have m1 := qz_M_copy w2 m2 t3
    refine ⟨nI (qr_N ρ2), σ', τ', ?_, ?_, ⟨ρ2, w2, d1, o1, m1⟩, Or.inr ⟨?_, ?_, ρ2, w2, ?_, ?_, ?_⟩, ?_, ?_, ?_⟩
    · unfold g_X8_undo
      rw [if_neg (by rw [z1]; exact qn_10), e1, qn_o, d1.1]
    · unfold g_X9_undo
      rw [if_neg (by rw [z2]; exact qn_10), e2, qn_o, qn_g0 (by omega) (by omega), qn_l, qr_clamp0, m1.1]
    · rw [pk 0 (by omega)]; exact z1
    · rw [tk 0 (by omega)]; exact z2
    · unfold qr_D
      rw [pk 8 (by omega), pk (8 + 1) (by omega), pk (8 + 2) (by omega), pk (8 + 3) (by omega), pk (8 + 5) (by omega), pk (8 + 6) (by omega)]
      exact d2
    · unfold qr_O
      rw [pk (8 + 4) (by omega)]
      exact o2
    · unfold qr_M
      rw [tk 2 (by omega)]
      exact m2
    · intro i hi
      rw [pk 40 (by omega), tk 4 (by omega)]
      exact hW i hi
    · unfold qz_T
      rw [pk 37 (by omega), pk 39 (by omega), tk 0 (by omega), tk 15 (by omega)]
      exact hT
    · intro l hl
      rw [pk (42 + 2 * l) (by omega), tk 17 (by omega), p2, t2]
      exact hL l hl
