/-! TRACE: the class walks from end to end -/
theorem qy_next {σ : qe_S} {ρ : qr_R} (w : qr_wf ρ) (hP : qx_P ρ ≠ 0) (hC : qw_C 22 σ ρ 0 (qw_P ρ 0) (qw_E ρ)) {pl : Nat} (hpl : pl < qx_P ρ) : g_X7_nextEnd (lN pl) σ = some (lN (qx_n ρ pl 12), σ) := by
  have Pb : qx_P ρ < 2 ^ 31 := qw_P_lt ρ 0
  have L : ∀ k i n, i + k = 12 → k < n → g_X7_nextEnd_L8 (lN pl) n (lN (qx_n ρ pl i)) (nI i) σ = some (lN (qx_n ρ pl 12), σ) := by
    intro k
    induction k with
    | zero =>
      intro i n hi hn
      obtain ⟨q, rfl⟩ : ∃ q, n = q + 1 := ⟨n - 1, by omega⟩
      obtain rfl : i = 12 := by omega
      simp only [g_X7_nextEnd_L8]
      rw [if_pos (nI_le (by omega) (by omega))]
    | succ k ih =>
      intro i n hi hn
      obtain ⟨q, rfl⟩ : ∃ q, n = q + 1 := ⟨n - 1, by omega⟩
      have hv := hC.2 i (by omega)
      have e23 : σ.2 23 i = lN (qx_F ρ i) := hv.1
      have e24 : σ.2 24 i = lN (qx_L ρ i) := hv.2
      have fl := qx_F_lt hP i
      have ll : qx_L ρ i ≤ qx_P ρ := qw_l_lt w (by omega) Pb (qw_E_lt2 ρ)
      have el := qx_e_lt hP i
      have nb := qx_n_le hpl i
      have nle : ¬ lN (qx_P ρ) ≤ 0 := fun z => hP ((qw_le0 (by omega)).mp z)
      have hC1 : σ.2 22 0 = lN (qx_P ρ) := hC.1
      have ee : (qx_F ρ i + qx_L ρ i) % qx_P ρ = qx_e ρ i := rfl
      have e : g_X7_nextEnd_L8 (lN pl) (q + 1) (lN (qx_n ρ pl i)) (nI i) σ = g_X7_nextEnd_L8 (lN pl) q (lN (qx_n ρ pl (i + 1))) (nI (i + 1)) σ := by
        simp only [g_X7_nextEnd_L8, qn_j, qn_l]
        rw [if_neg (nI_ge (by omega) (by omega)), hC1, if_neg nle, qn_g (by omega) (by omega), qn_g (by omega) (by omega), nI_clamp (by omega), e23, e24, qn_zl (qw_lz (Nat.pos_of_ne_zero hP) (by omega)), lN_add, qw_lr (by omega) (Nat.pos_of_ne_zero hP) (by omega), ee, nI_1]
        simp only [qx_n]
        by_cases c : qx_e ρ i ≤ pl
        · rw [if_pos ((pk_lLE (by omega) (by omega)).mpr c), if_pos c]
        · rw [if_neg (fun z => c ((pk_lLE (by omega) (by omega)).mp z)), if_neg c]
          unfold g_J9_min_f86c9
          by_cases c2 : qx_e ρ i < qx_n ρ pl i
          · rw [if_pos ((pk_lLT (by omega) (by omega)).mpr c2), qn_b, Nat.min_eq_right (by omega)]
          · rw [if_neg (fun z => c2 ((pk_lLT (by omega) (by omega)).mp z)), qn_b, Nat.min_eq_left (by omega)]
      rw [e]
      exact ih (i + 1) q (by omega) (by omega)
  have h := L 12 0 qm_F (by omega) (by rw [qn_F]; omega)
  unfold g_X7_nextEnd
  rw [qn_l, qn_l, hC.1]
  exact h
def qy_c (σ σ' : qe_S) : Prop := (∀ a, a ≠ 28 → a ≠ 31 → σ'.1 a = σ.1 a) ∧ ∀ a, a ≠ 29 → a ≠ 30 → σ'.2 a = σ.2 a
def qy_C (ρ : qr_R) (σ : qe_S) : Prop := σ.1 28 0 = nI (qx_M ρ) ∧ ∀ k, k < qx_M ρ → σ.2 29 k = lN (qx_c ρ k) ∧ σ.2 30 k = lN (qx_c ρ (k + 1) - qx_c ρ k) ∧ σ.1 31 k = nI (qx_f ρ (qx_c ρ k))
theorem qy_wC {σ σ' : qe_S} {ρ : qr_R} {r P b : Nat} (h : qy_c σ σ') (c : qw_C 22 σ ρ r P b) : qw_C 22 σ' ρ r P b := by
  unfold qw_C qw_V
  rw [h.2 22 (by omega) (by omega), h.2 (22 + 1) (by omega) (by omega), h.2 (22 + 2) (by omega) (by omega)]
  exact c
theorem qy_D {σ σ' : qe_S} {ρ : qr_R} (h : qy_c σ σ') (d : qr_D 1 σ ρ) : qr_D 1 σ' ρ := by
  unfold qr_D
  rw [h.1 1 (by omega) (by omega), h.1 (1 + 1) (by omega) (by omega), h.1 (1 + 2) (by omega) (by omega), h.1 (1 + 3) (by omega) (by omega), h.1 (1 + 5) (by omega) (by omega), h.1 (1 + 6) (by omega) (by omega)]
  exact d
theorem qy_O {σ σ' : qe_S} {ρ : qr_R} (h : qy_c σ σ') (o : qr_O 1 σ ρ) : qr_O 1 σ' ρ := by
  unfold qr_O
  rw [h.1 (1 + 4) (by omega) (by omega)]
  exact o
theorem qy_traceL {ρ : qr_R} (w : qr_wf ρ) (hP : qx_P ρ ≠ 0) {σ : qe_S} (hC : qw_C 22 σ ρ 0 (qw_P ρ 0) (qw_E ρ)) : ∀ (q k n : Nat) (s : qe_S), k + q = qx_M ρ → q < n → qy_c σ s → s.1 28 0 = nI k → (∀ i, i < k → s.2 29 i = lN (qx_c ρ i) ∧ s.2 30 i = lN (qx_c ρ (i + 1) - qx_c ρ i) ∧ s.1 31 i = nI (qx_f ρ (qx_c ρ i))) → ∃ s', g_X5_trace_L7 n (lN (qx_c ρ k)) s = some s' ∧ qy_c σ s' ∧ qy_C ρ s' := by
  have Pb : qx_P ρ < 2 ^ 31 := qw_P_lt ρ 0
  obtain ⟨M1, M2, M3, M4⟩ := qx_M_ok w hP
  intro q
  induction q with
  | zero =>
    intro k n s hk hn hc hs hv
    obtain ⟨q, rfl⟩ : ∃ q, n = q + 1 := ⟨n - 1, by omega⟩
    have hkM : k = qx_M ρ := by omega
    subst hkM
    refine ⟨s, ?_, hc, hs, hv⟩
    simp only [g_X5_trace_L7]
    have hC1 : s.2 22 0 = lN (qx_P ρ) := (qy_wC hc hC).1
    rw [hs, hC1, M3]
    by_cases c : 13 ≤ qx_M ρ
    · rw [if_pos (nI_le c (by omega))]
    · rw [if_neg (nI_ge (by omega) (by omega)), if_pos ((pk_lLE (by omega) (by omega)).mpr (Nat.le_refl _))]
  | succ q ih =>
    intro k n s hk hn hc hs hv
    obtain ⟨n, rfl⟩ : ∃ q, n = q + 1 := ⟨n - 1, by omega⟩
    have lt := M4 k (by omega)
    have up := qx_c_up lt
    have le := qx_c_le (ρ := ρ) (k + 1)
    have hC' := qy_wC hc hC
    have nx := qy_next w hP hC' lt
    rw [← qx_c_s lt] at nx
    have hC1 : s.2 22 0 = lN (qx_P ρ) := hC'.1
    have nle : ¬ lN (qx_P ρ) ≤ lN (qx_c ρ k) := fun z => by have := (pk_lLE (by omega) (by omega)).mp z; omega
    have hC2 : qw_C 22 (qe_sl (qe_sl s 29 k (lN (qx_c ρ k))) 30 k (lN (qx_c ρ (k + 1) - qx_c ρ k))) ρ 0 (qw_P ρ 0) (qw_E ρ) := qy_wC (σ := s) ⟨fun _ _ _ => rfl, fun a p1 p2 => by funext j; exact (qn_sl_k p2).trans (qn_sl_k p1)⟩ hC'
    have ch := qw_chC w (r := 0) (P := qw_P ρ 0) (b := qw_E ρ) (k := 22) (s := qx_c ρ k) (by omega) (Nat.pos_of_ne_zero hP) Pb (qw_E_lt2 ρ) hC2 (by omega)
    have r28 : (qe_sl (qe_sl s 29 k (lN (qx_c ρ k))) 30 k (lN (qx_c ρ (k + 1) - qx_c ρ k))).1 28 0 = nI k := hs
    have e : g_X5_trace_L7 (n + 1) (lN (qx_c ρ k)) s = g_X5_trace_L7 n (lN (qx_c ρ (k + 1))) (qe_si (qe_si (qe_sl (qe_sl s 29 k (lN (qx_c ρ k))) 30 k (lN (qx_c ρ (k + 1) - qx_c ρ k))) 31 k (nI (qx_f ρ (qx_c ρ k)))) 28 0 (nI (k + 1))) := by
      have f1 : (qe_sl s 29 k (lN (qx_c ρ k))).1 28 0 = nI k := hs
      simp only [g_X5_trace_L7, qn_l]
      rw [hs, if_neg (nI_ge (by omega) (by omega)), hC1, if_neg nle, nx, qn_b, hs, qn_g (by omega) (by omega), nI_clamp (by omega), f1, qn_g (by omega) (by omega), nI_clamp (by omega), lN_sub (by omega), ch, qn_b, r28, qn_g (by omega) (by omega), nI_clamp (by omega), qn_si_k (by omega), r28, nI_1]
    rw [e]
    refine ih (k + 1) n _ (by omega) (by omega) ⟨fun a p1 p2 => ?_, fun a p1 p2 => ?_⟩ ?_ (fun i hi => ?_)
    · funext j
      rw [qn_si_k p1, qn_si_k p2]
      exact congrFun (hc.1 a p1 p2) j
    · funext j
      show (qe_sl (qe_sl s 29 k (lN (qx_c ρ k))) 30 k (lN (qx_c ρ (k + 1) - qx_c ρ k))).2 a j = σ.2 a j
      rw [qn_sl_k p2, qn_sl_k p1]
      exact congrFun (hc.2 a p1 p2) j
    · rw [qn_si_eq]
    · rw [qn_si_k (show 31 ≠ 28 by omega)]
      show (qe_sl (qe_sl s 29 k (lN (qx_c ρ k))) 30 k (lN (qx_c ρ (k + 1) - qx_c ρ k))).2 29 i = _ ∧ (qe_sl (qe_sl s 29 k (lN (qx_c ρ k))) 30 k (lN (qx_c ρ (k + 1) - qx_c ρ k))).2 30 i = _ ∧ (qe_si (qe_sl (qe_sl s 29 k (lN (qx_c ρ k))) 30 k (lN (qx_c ρ (k + 1) - qx_c ρ k))) 31 k (nI (qx_f ρ (qx_c ρ k)))).1 31 i = _
      by_cases ik : i = k
      · subst ik
        refine ⟨?_, ?_, ?_⟩
        · rw [qn_sl_k (by omega), qn_sl_eq]
        · rw [qn_sl_eq]
        · rw [qn_si_eq]
      · have h := hv i (by omega)
        refine ⟨?_, ?_, ?_⟩
        · rw [qn_sl_k (by omega), qn_sl_j ik]; exact h.1
        · rw [qn_sl_j ik, qn_sl_k (by omega)]; exact h.2.1
        · rw [qn_si_j ik]; exact h.2.2
theorem qy_trace {ρ : qr_R} (w : qr_wf ρ) (hP : qx_P ρ ≠ 0) {σ : qe_S} (hC : qw_C 22 σ ρ 0 (qw_P ρ 0) (qw_E ρ)) : ∃ σ', g_X5_trace σ = some σ' ∧ qy_c σ σ' ∧ qy_C ρ σ' := by
  obtain ⟨M1, M2, M3, M4⟩ := qx_M_ok w hP
  have q1 : qy_c σ (qe_si σ 28 0 0) := ⟨fun a p1 p2 => by funext j; exact qn_si_k p1, fun _ _ _ => rfl⟩
  have h := qy_traceL w hP hC (qx_M ρ) 0 qm_F (qe_si σ 28 0 0) (by omega) (by rw [qn_F]; omega) q1 (by rw [qn_si_eq]; rfl) (fun i hi => by omega)
  unfold g_X5_trace
  rw [qn_l, qn_l]
  exact h
