/-! THE RELATION: what the class and the reference hold alike between two calls -/
def qz_I (σ τ : qe_S) : Prop := (σ.1 0 3 = 0 ∧ τ.1 0 3 = 0) ∨ (σ.1 0 3 = 1 ∧ τ.1 0 3 = 1 ∧ ∃ ρ, qr_wf ρ ∧ qr_D 8 σ ρ ∧ qr_O 8 σ ρ ∧ qr_M 2 τ ρ)
def qz_W (σ τ : qe_S) : Prop := ∀ i, i < 4 → σ.1 40 i = τ.1 4 i
def qz_T (σ τ : qe_S) : Prop := ∃ n, n ≤ 120 ∧ σ.1 37 0 = nI n ∧ τ.1 0 21 = nI n ∧ ∀ i, i < n → ∃ c, 1 ≤ c ∧ c ≤ 127 ∧ σ.1 39 i = nI c ∧ τ.1 15 i = nI c
def qz_L (σ τ : qe_S) : Prop := ∀ l, l < 3 → ∃ n, n ≤ 16 ∧ σ.1 (42 + 2 * l) 0 = nI n - 1 ∧ τ.1 17 l = nI n ∧ ∀ j, j < 15 → σ.2 (43 + 2 * l) j = τ.2 18 (15 * l + j)
def qz_V (σ τ : qe_S) : Prop := ∃ ρ, qr_wf ρ ∧ qr_D 1 σ ρ ∧ qr_O 1 σ ρ ∧ qr_M 1 τ ρ
def qz_R (σ τ : qe_S) : Prop := qz_V σ τ ∧ qz_I σ τ ∧ qz_W σ τ ∧ qz_T σ τ ∧ qz_L σ τ
/-- the class kept what lasts, its reason apart -/
def qz_c (σ σ' : qe_S) : Prop := σ'.1 0 3 = σ.1 0 3 ∧ (∀ k, 1 ≤ k → k ≤ 14 → σ'.1 k = σ.1 k) ∧ σ'.1 37 0 = σ.1 37 0 ∧ σ'.1 39 = σ.1 39 ∧ (∀ k, 42 ≤ k → k ≤ 47 → σ'.1 k = σ.1 k ∧ σ'.2 k = σ.2 k)
def qz_m (τ τ' : qe_S) : Prop := τ'.1 0 3 = τ.1 0 3 ∧ τ'.1 0 21 = τ.1 0 21 ∧ τ'.1 1 = τ.1 1 ∧ τ'.1 2 = τ.1 2 ∧ τ'.1 15 = τ.1 15 ∧ τ'.1 17 = τ.1 17 ∧ τ'.2 18 = τ.2 18
theorem qz_c_refl (σ : qe_S) : qz_c σ σ := ⟨rfl, fun _ _ _ => rfl, rfl, rfl, fun _ _ _ => ⟨rfl, rfl⟩⟩
theorem qz_m_refl (σ : qe_S) : qz_m σ σ := ⟨rfl, rfl, rfl, rfl, rfl, rfl, rfl⟩
theorem qz_c_trans {a b c : qe_S} (h : qz_c a b) (g : qz_c b c) : qz_c a c := ⟨g.1.trans h.1, fun k x y => (g.2.1 k x y).trans (h.2.1 k x y), g.2.2.1.trans h.2.2.1, g.2.2.2.1.trans h.2.2.2.1, fun k x y => ⟨(g.2.2.2.2 k x y).1.trans (h.2.2.2.2 k x y).1, (g.2.2.2.2 k x y).2.trans (h.2.2.2.2 k x y).2⟩⟩
theorem qz_m_trans {a b c : qe_S} (h : qz_m a b) (g : qz_m b c) : qz_m a c := ⟨g.1.trans h.1, g.2.1.trans h.2.1, g.2.2.1.trans h.2.2.1, g.2.2.2.1.trans h.2.2.2.1, g.2.2.2.2.1.trans h.2.2.2.2.1, g.2.2.2.2.2.1.trans h.2.2.2.2.2.1, g.2.2.2.2.2.2.trans h.2.2.2.2.2.2⟩
theorem qz_D {b : Nat} {σ σ' : qe_S} {ρ : qr_R} (hb : b = 1 ∨ b = 8) (h : qz_c σ σ') (hD : qr_D b σ ρ) : qr_D b σ' ρ := by
  unfold qr_D
  rw [h.2.1 b (by omega) (by omega), h.2.1 (b + 1) (by omega) (by omega), h.2.1 (b + 2) (by omega) (by omega), h.2.1 (b + 3) (by omega) (by omega), h.2.1 (b + 5) (by omega) (by omega), h.2.1 (b + 6) (by omega) (by omega)]
  exact hD
theorem qz_O {b : Nat} {σ σ' : qe_S} {ρ : qr_R} (hb : b = 1 ∨ b = 8) (h : qz_c σ σ') (hO : qr_O b σ ρ) : qr_O b σ' ρ := by
  unfold qr_O
  rw [h.2.1 (b + 4) (by omega) (by omega)]
  exact hO
theorem qz_M {b : Nat} {τ τ' : qe_S} {ρ : qr_R} (hb : b = 1 ∨ b = 2) (h : qz_m τ τ') (hM : qr_M b τ ρ) : qr_M b τ' ρ := by
  unfold qr_M
  have e : τ'.1 b = τ.1 b := by rcases hb with rfl | rfl; exact h.2.2.1; exact h.2.2.2.1
  rw [e]
  exact hM
theorem qz_keep {σ σ' τ τ' : qe_S} (hR : qz_R σ τ) (hc : qz_c σ σ') (hm : qz_m τ τ') (hw : qz_W σ' τ') : qz_R σ' τ' := by
  obtain ⟨⟨ρ, w, d, o, m⟩, hI, _, hT, hL⟩ := hR
  refine ⟨⟨ρ, w, qz_D (Or.inl rfl) hc d, qz_O (Or.inl rfl) hc o, qz_M (Or.inl rfl) hm m⟩, ?_, hw, ?_, ?_⟩
  · rcases hI with ⟨a, b⟩ | ⟨a, b, ρ2, w2, d2, o2, m2⟩
    · exact Or.inl ⟨hc.1.trans a, hm.1.trans b⟩
    · exact Or.inr ⟨hc.1.trans a, hm.1.trans b, ρ2, w2, qz_D (Or.inr rfl) hc d2, qz_O (Or.inr rfl) hc o2, qz_M (Or.inr rfl) hm m2⟩
  · unfold qz_T
    rw [hc.2.2.1, hm.2.1, hc.2.2.2.1, hm.2.2.2.2.1]
    exact hT
  · intro l hl
    rw [(hc.2.2.2.2 (42 + 2 * l) (by omega) (by omega)).1, (hc.2.2.2.2 (43 + 2 * l) (by omega) (by omega)).2, hm.2.2.2.2.2.1, hm.2.2.2.2.2.2]
    exact hL l hl
theorem qz_note (σ : qe_S) (a b c d : Int32) : ∃ σ', g_X1_note a b c d σ = some σ' ∧ σ'.2 = σ.2 ∧ (∀ k, k ≠ 40 → σ'.1 k = σ.1 k) ∧ σ'.1 40 0 = a ∧ σ'.1 40 1 = b ∧ σ'.1 40 2 = c ∧ σ'.1 40 3 = d := by
  refine ⟨_, rfl, rfl, fun k hk => ?_, rfl, rfl, rfl, rfl⟩
  funext j
  simp only [qe_si]
  simp [hk]
theorem qz_refused (τ : qe_S) (a b c d : Int32) : ∃ τ', g_X9_refused a b c d τ = some (a, τ') ∧ τ'.2 = τ.2 ∧ (∀ k, k ≠ 4 → τ'.1 k = τ.1 k) ∧ τ'.1 4 0 = a ∧ τ'.1 4 1 = b ∧ τ'.1 4 2 = c ∧ τ'.1 4 3 = d := by
  refine ⟨_, rfl, rfl, fun k hk => ?_, rfl, rfl, rfl, rfl⟩
  funext j
  simp only [qe_si]
  simp [hk]
theorem qz_c_of {σ σ' : qe_S} (h2 : σ'.2 = σ.2) (h : ∀ k, k ≠ 40 → σ'.1 k = σ.1 k) : qz_c σ σ' :=
  ⟨by rw [h 0 (by omega)], fun k a b => h k (by omega), by rw [h 37 (by omega)], h 39 (by omega), fun k a b => ⟨h k (by omega), by rw [h2]⟩⟩
theorem qz_m_of {τ τ' : qe_S} (h2 : τ'.2 = τ.2) (h : ∀ k, k ≠ 4 → τ'.1 k = τ.1 k) : qz_m τ τ' :=
  ⟨by rw [h 0 (by omega)], by rw [h 0 (by omega)], h 1 (by omega), h 2 (by omega), h 15 (by omega), h 17 (by omega), by rw [h2]⟩
theorem qz_told {σ τ : qe_S} (hR : qz_R σ τ) (a b c d : Int32) : ∃ σ' τ', g_X1_note a b c d σ = some σ' ∧ g_X9_refused a b c d τ = some (a, τ') ∧ qz_R σ' τ' := by
  obtain ⟨σ', e1, p1, q1, x0, x1, x2, x3⟩ := qz_note σ a b c d
  obtain ⟨τ', e2, p2, q2, y0, y1, y2, y3⟩ := qz_refused τ a b c d
  refine ⟨σ', τ', e1, e2, qz_keep hR (qz_c_of p1 q1) (qz_m_of p2 q2) (fun i hi => ?_)⟩
  obtain rfl | rfl | rfl | rfl : i = 0 ∨ i = 1 ∨ i = 2 ∨ i = 3 := by omega
  · rw [x0, y0]
  · rw [x1, y1]
  · rw [x2, y2]
  · rw [x3, y3]
theorem qz_no {σ τ : qe_S} (hR : qz_R σ τ) (v : Int32) : ∃ σ' τ', g_X8_refuse v σ = some (v, σ') ∧ g_X9_no v τ = some (v, τ') ∧ qz_R σ' τ' := by
  by_cases h : v = -7
  · obtain ⟨σ', τ', e1, e2, hR'⟩ := qz_told hR v 1 (-9) (-9)
    refine ⟨σ', τ', ?_, ?_, hR'⟩
    · unfold g_X8_refuse; rw [if_pos h, e1, qn_o]
    · unfold g_X9_no; rw [if_pos h, e2, qn_b]
  · obtain ⟨σ', τ', e1, e2, hR'⟩ := qz_told hR v 0 0 0
    refine ⟨σ', τ', ?_, ?_, hR'⟩
    · unfold g_X8_refuse; rw [if_neg h, e1, qn_o]
    · unfold g_X9_no; rw [if_neg h, e2, qn_b]
theorem qz_noL {σ τ : qe_S} (hR : qz_R σ τ) (v : Int32) : ∃ σ' τ', g_X8_refuseLong v σ = some (lN 4000000000000000000 - v.toInt64, σ') ∧ g_X9_noLong v τ = some (lN 4000000000000000000 - v.toInt64, τ') ∧ qz_R σ' τ' := by
  obtain ⟨σ', τ', e1, e2, hR'⟩ := qz_no hR v
  refine ⟨σ', τ', ?_, ?_, hR'⟩
  · unfold g_X8_refuseLong; rw [e1, qn_b]
  · unfold g_X9_noLong; rw [e2, qn_b]
/-- an answer that may be a refusal -/
theorem qz_ans {σ τ : qe_S} (hR : qz_R σ τ) (v : Int32) : ∃ σ' τ', g_X8_answered v σ = some (v, σ') ∧ (if 0 ≤ v then some (v, τ) else qm_b (g_X9_no v τ) fun a4 s3 => some (a4, s3)) = some (v, τ') ∧ qz_R σ' τ' := by
  by_cases h : (0 : Int32) ≤ v
  · exact ⟨σ, τ, by unfold g_X8_answered; rw [if_pos h], by rw [if_pos h], hR⟩
  · obtain ⟨σ', τ', e1, e2, hR'⟩ := qz_no hR v
    exact ⟨σ', τ', by unfold g_X8_answered; rw [if_neg h, e1, qn_b], by rw [if_neg h, e2, qn_b], hR'⟩
theorem qz_reason : ql_op_reason qz_R := by
  intro a0 σ τ hR
  have hW := hR.2.2.1
  by_cases h : 0 ≤ a0 ∧ a0 ≤ nI 3
  · obtain ⟨j, hj, rfl⟩ : ∃ j, j ≤ 3 ∧ a0 = nI j := nI_of2 (M := nI 3) (by decide) (Int32.not_lt.mpr h.1) h.2
    refine ⟨σ.1 40 j, σ, τ, ?_, ?_, hR⟩
    · obtain rfl | rfl | rfl | rfl : j = 0 ∨ j = 1 ∨ j = 2 ∨ j = 3 := by omega
      · rfl
      · rfl
      · rfl
      · rfl
    · unfold g_X9_reason
      rw [qr_within, if_pos h, qn_b, if_neg qn_10, qn_g (by omega) (by omega), qn_l, nI_clamp (by omega), hW j (by omega)]
  · refine ⟨0, σ, τ, ?_, ?_, hR⟩
    · unfold g_X8_reason
      have n0 : ∀ j, j ≤ 3 → ¬ a0 = nI j := fun j hj e => h (by rw [e]; exact ⟨nI_pos' (by omega), nI_le hj (by omega)⟩)
      rw [if_neg (show ¬ a0 = 0 from n0 0 (by omega)), if_neg (show ¬ a0 = 1 from n0 1 (by omega)), if_neg (n0 2 (by omega)), if_neg (n0 3 (by omega))]
    · unfold g_X9_reason
      rw [qr_within, if_neg h, qn_b, if_pos rfl]
