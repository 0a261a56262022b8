/-! THE CLAUSES DONE ONE AFTER ANOTHER, in lockstep -/
theorem qj_V {σ σ' τ τ' : qe_S} (hc : ∀ k, 1 ≤ k → k ≤ 7 → σ'.1 k = σ.1 k) (hm : τ'.1 1 = τ.1 1) (h : qz_V σ τ) : qz_V σ' τ' := by
  obtain ⟨ρ, w, d, o, m⟩ := h
  refine ⟨ρ, w, ?_, ?_, ?_⟩
  · unfold qr_D
    rw [hc 1 (by omega) (by omega), hc (1 + 1) (by omega) (by omega), hc (1 + 2) (by omega) (by omega), hc (1 + 3) (by omega) (by omega), hc (1 + 5) (by omega) (by omega), hc (1 + 6) (by omega) (by omega)]
    exact d
  · unfold qr_O
    rw [hc (1 + 4) (by omega) (by omega)]
    exact o
  · unfold qr_M
    rw [hm]
    exact m
def qj_cf (σ σ' : qe_S) : Prop := σ'.2 = σ.2 ∧ (∀ k, (k < 1 ∨ 7 < k) → k ≠ 37 → k ≠ 38 → σ'.1 k = σ.1 k) ∧ σ'.1 37 0 = σ.1 37 0
def qj_mf (τ τ' : qe_S) : Prop := τ'.2 = τ.2 ∧ ∀ k, k ≠ 1 → τ'.1 k = τ.1 k
theorem qj_cf_t {a b c : qe_S} (h : qj_cf a b) (g : qj_cf b c) : qj_cf a c := ⟨g.1.trans h.1, fun k x y z => (g.2.1 k x y z).trans (h.2.1 k x y z), g.2.2.trans h.2.2⟩
theorem qj_mf_t {a b c : qe_S} (h : qj_mf a b) (g : qj_mf b c) : qj_mf a c := ⟨g.1.trans h.1, fun k x => (g.2 k x).trans (h.2 k x)⟩
theorem qj_loop {n : Nat} {T : Nat → Nat} (hn : n ≤ 120) (hb : ∀ i, qi_b n T i ≤ 127) {m : Nat} (hm : m ≤ 60) {σ0 τ0 : qe_S} (kc : Int32 → qe_S → Option (Int32 × qe_S)) (kf : Int32 → Int32 → qe_S → Option (Int32 × qe_S)) (km : qe_S → Option (Int32 × qe_S)) (kg : Int32 → Int32 → qe_S → Option (Int32 × qe_S)) (hok : ∀ j, j ≤ m → qi_P (qi_b n T) j ≤ n ∧ (qi_cs (qi_b n T) (qi_P (qi_b n T) j)).1 = true) (hend : (qi_cs (qi_b n T) (qi_P (qi_b n T) m)).2 = n) (h25 : τ0.1 0 25 = nI (m + 1)) (h16 : qi_V (qi_b n T) 0 m τ0) (h15 : ∀ i, i < n → τ0.1 15 i = nI (qi_b n T i)) (hC0 : qi_tC n T σ0) : ∀ (M j Fc Fm : Nat) (σ τ : qe_S), j + M = m + 1 → M < Fc → M < Fm → qz_V σ τ → qj_cf σ0 σ → qj_mf τ0 τ → ∃ σ' τ', qj_cf σ0 σ' ∧ qj_mf τ0 τ' ∧ ((g_X8_doClauses_L15 kc kf Fc (nI j) (nI (qi_P (qi_b n T) j)) σ = kc (nI (m + 1)) σ' ∧ g_X9_tells_L126 km kg Fm (nI j) τ = km τ' ∧ qz_V σ' τ') ∨ ∃ (i : Nat) (v : Int32), i ≤ m ∧ g_X8_doClauses_L15 kc kf Fc (nI j) (nI (qi_P (qi_b n T) j)) σ = kf (nI (qi_P (qi_b n T) i)) v σ' ∧ g_X9_tells_L126 km kg Fm (nI j) τ = kg (nI i) v τ') := by
  intro M
  induction M with
  | zero =>
    intro j Fc Fm σ τ hj hFc hFm hV hcf hmf
    obtain ⟨Fc, rfl⟩ : ∃ q, Fc = q + 1 := ⟨Fc - 1, by omega⟩
    obtain ⟨Fm, rfl⟩ : ∃ q, Fm = q + 1 := ⟨Fm - 1, by omega⟩
    have jm : j = m + 1 := by omega
    subst jm
    have pe : qi_P (qi_b n T) (m + 1) = n + 1 := by
      show (qi_cs (qi_b n T) (qi_P (qi_b n T) m)).2 + 1 = n + 1
      rw [hend]
    refine ⟨σ, τ, hcf, hmf, Or.inl ⟨?_, ?_, hV⟩⟩
    · simp only [g_X8_doClauses_L15]
      rw [if_neg (nI_ge (show m + 1 < 120 by omega) (by omega)), hcf.2.2, hC0.1, pe, if_pos (nI_le (by omega) (by omega))]
    · simp only [g_X9_tells_L126]
      rw [hmf.2 0 (by omega), h25, if_pos (nI_le (by omega) (by omega))]
  | succ M ih =>
    intro j Fc Fm σ τ hj hFc hFm hV hcf hmf
    obtain ⟨Fc, rfl⟩ : ∃ q, Fc = q + 1 := ⟨Fc - 1, by omega⟩
    obtain ⟨Fm, rfl⟩ : ∃ q, Fm = q + 1 := ⟨Fm - 1, by omega⟩
    obtain ⟨hp, ok⟩ := hok j (by omega)
    have kd := qj_kind ok
    have pn : qi_P (qi_b n T) j < n := by
      apply Nat.lt_of_not_le
      intro z
      have : qi_b n T (qi_P (qi_b n T) j) = 0 := if_neg (by omega)
      omega
    have csn := (qi_cs_n (T := T) hp).1
    have hC : qi_tC n T σ := ⟨hcf.2.2.trans hC0.1, fun i hi => by rw [hcf.2.1 39 (by omega) (by omega) (by omega)]; exact hC0.2 i hi⟩
    obtain ⟨s1, a1, a2, a3, a4, a5⟩ := qi_readC hn hb (p := qi_P (qi_b n T) j) (by omega) hC
    have V1 : qz_V s1 τ := qj_V (fun k x y => a4.2.1 k (by omega) (by omega)) rfl hV
    have v16 := h16 j (by omega) (by omega)
    obtain ⟨r, r', s2, t2, e1, e2, e3, e4, e5⟩ := qj_does V1 hn (k := j) (by omega) hp ok a3 (a5 ok) (by rw [hmf.2 16 (by omega)]; exact v16.1) (fun i hi => by rw [hmf.2 16 (by omega)]; exact v16.2 i hi) (fun i hi => by rw [hmf.2 15 (by omega)]; exact h15 i hi)
    have cf2 : qj_cf σ0 s2 := qj_cf_t hcf ⟨e4.2.1.trans a4.1, fun k x y z => (e4.1 k x).trans (a4.2.1 k y z), by rw [e4.1 37 (by omega)]; exact a4.2.2 0 (by omega) (by omega) (by omega)⟩
    have mf2 : qj_mf τ0 t2 := qj_mf_t hmf ⟨e4.2.2.2, e4.2.2.1⟩
    have s37 : s2.1 37 2 = nI (qi_cs (qi_b n T) (qi_P (qi_b n T) j)).2 := by rw [e4.1 37 (by omega)]; exact a2
    have cC : g_X8_doClauses_L15 kc kf (Fc + 1) (nI j) (nI (qi_P (qi_b n T) j)) σ = if (0 : Int32) ≤ r then g_X8_doClauses_L15 kc kf Fc (nI (j + 1)) (nI (qi_P (qi_b n T) (j + 1))) s2 else kf (nI (qi_P (qi_b n T) j)) r s2 := by
      have n1 : nI (qi_cs (qi_b n T) (qi_P (qi_b n T) j)).2 + (1 : Int32) = nI (qi_P (qi_b n T) (j + 1)) := nI_add _ 1
      have n2 : nI j + (1 : Int32) = nI (j + 1) := nI_add j 1
      simp only [g_X8_doClauses_L15]
      rw [if_neg (nI_ge (show j < 120 by omega) (by omega)), hC.1, if_neg (nI_ge pn (by omega)), a1, qn_b, e1, qn_b, s37, n1, n2, qn_l, qn_l]
    have cM : g_X9_tells_L126 km kg (Fm + 1) (nI j) τ = if r' < (0 : Int32) then kg (nI j) r' t2 else g_X9_tells_L126 km kg Fm (nI (j + 1)) t2 := by
      have n2 : nI j + (1 : Int32) = nI (j + 1) := nI_add j 1
      simp only [g_X9_tells_L126]
      rw [hmf.2 0 (by omega), h25, if_neg (nI_ge (show j < m + 1 by omega) (by omega)), e2, qn_b, n2, qn_l]
    rw [cC, cM]
    rcases e3 with ⟨x1, x2, x3⟩ | ⟨x1, x2⟩
    · rw [if_neg x1, if_pos x2, x3]
      exact ⟨s2, t2, cf2, mf2, Or.inr ⟨j, r, by omega, rfl, rfl⟩⟩
    · rw [if_pos x1, if_neg x2]
      exact ih (j + 1) Fc Fm s2 t2 (by omega) (by omega) (by omega) e5 cf2 mf2
