/-! RUN; sums over runs -/
theorem qy_lays {ρ : qr_R} (w : qr_wf ρ) {τ : qe_S} (m : qr_M 1 τ ρ) : (qw_P ρ 0 = 0 → ∃ τ', g_X9_laysRuns τ = some (0, τ') ∧ qw_fr τ τ') ∧ (qw_P ρ 0 ≠ 0 → ∃ τ1 τ', g_X9_laysRuns τ = some (1, τ') ∧ qw_fr τ τ1 ∧ qw_X ρ 0 τ1 ∧ qy_m τ1 τ' ∧ qy_M ρ τ') := by
  obtain ⟨τ1, e1, e2, e3⟩ := qw_lays0 w m
  refine ⟨fun h => ⟨τ1, ?_, e2⟩, fun h => ?_⟩
  · unfold g_X9_laysRuns
    rw [e1, qn_b, if_pos h, if_pos rfl]
  · obtain ⟨x1, x2, x3, x4, x5, x6⟩ := e3 h
    obtain ⟨τ2, g1, g2, g3⟩ := qy_goes w h ⟨x1, x3, x5⟩
    refine ⟨τ1, τ2, ?_, e2, ⟨x1, x2, x3, x4, x5, x6⟩, g2, g3⟩
    unfold g_X9_laysRuns
    rw [e1, qn_b, if_neg h, if_neg qn_10, g1, qn_o]
theorem qy_Xm {ρ : qr_R} {r : Nat} {τ τ' : qe_S} (h : qy_m τ τ') (x : qw_X ρ r τ) : qw_X ρ r τ' := by
  unfold qw_X qw_V qr_M qr_MO
  rw [h.1 1 (by omega) (by omega), h.1 5 (by omega) (by omega), h.2.2 0 (by omega) (by omega) (by omega), h.2.2 6 (by omega) (by omega) (by omega), h.2.2 7 (by omega) (by omega) (by omega), h.2.2 8 (by omega) (by omega) (by omega), h.2.2 9 (by omega) (by omega) (by omega)]
  exact x
theorem qy_keepM {σ τ τ' : qe_S} (hR : qz_R σ τ) (h : qy_m τ τ') : qz_R σ τ' :=
  qz_keep hR (qz_c_refl σ) ⟨h.2.1 3 (by omega), h.2.1 21 (by omega), h.1 1 (by omega) (by omega), h.1 2 (by omega) (by omega), h.1 15 (by omega) (by omega), h.1 17 (by omega) (by omega), h.2.2 18 (by omega) (by omega) (by omega)⟩ (qz_W_of hR.2.2.1 rfl (h.1 4 (by omega) (by omega)))
theorem qy_keepC {σ σ' τ : qe_S} (hR : qz_R σ τ) (h : qy_c σ σ') : qz_R σ' τ :=
  qz_keep hR ⟨by rw [h.1 0 (by omega) (by omega)], fun k _ _ => h.1 k (by omega) (by omega), by rw [h.1 37 (by omega) (by omega)], h.1 39 (by omega) (by omega), fun k _ _ => ⟨h.1 k (by omega) (by omega), h.2 k (by omega) (by omega)⟩⟩ (qz_m_refl τ) (qz_W_of hR.2.2.1 (h.1 40 (by omega) (by omega)) rfl)
theorem qy_gRef {α : Type} {σ τ : qe_S} {ρ : qr_R} (hR : qz_R σ τ) (w : qr_wf ρ) (d : qr_D 1 σ ρ) (o : qr_O 1 σ ρ) (m : qr_M 1 τ ρ) {A B A' B' : qe_S → Option (α × qe_S)} (h0 : ∀ τ', qz_R σ τ' → qz_ok (A σ) (A' τ')) (h1 : ∀ σ' τ', qw_P ρ 0 ≠ 0 → qw_B ρ σ' τ' → qy_M ρ τ' → qz_R σ' τ' → qz_ok (B σ') (B' τ')) : qz_ok (qm_b (g_X8_layWheel σ) fun a s => if a = 0 then A s else B s) (qm_b (g_X9_laysRuns τ) fun a s => if a = 0 then A' s else B' s) := by
  have Pb := qw_P_lt ρ 0
  obtain ⟨L0, L1⟩ := qy_lays w m
  unfold g_X8_layWheel
  rw [qw_places0 w d, qn_b]
  by_cases c : qw_P ρ 0 = 0
  · obtain ⟨τ', e1, e2⟩ := L0 c
    rw [if_neg (fun z => (qw_1le (by omega)).mp z c), qn_b, if_pos rfl, e1, qn_b, if_pos rfl]
    exact h0 τ' (qw_keepM hR e2)
  · obtain ⟨σ', g1, g2, g3⟩ := qw_lay w (r := 0) (P := qw_P ρ 0) (b := qw_E ρ) (k := 22) (by omega) (by omega) Pb (qw_E_lt2 ρ) d o
    have g1' : g_X7_lay 22 0 (lN (qw_P ρ 0)) (nI (qw_E ρ)) σ = some σ' := g1
    obtain ⟨τ1, τ', e1, e2, e3, e4, e5⟩ := L1 c
    obtain ⟨x1, x2, x3, x4, x5, _⟩ := qy_Xm e4 e3
    rw [if_pos ((qw_1le (by omega)).mpr c), qw_evC w d, qn_b, g1', qn_o, qn_b, if_neg qn_10, e1, qn_b, if_neg qn_10]
    exact h1 σ' τ' c ⟨qw_D1 g2.1 d, qw_O1 g2.1 o, x1, x2, g3, x3, x4, x5⟩ e5 (qw_keepC (qy_keepM (qw_keepM hR e2) e4) (Or.inl rfl) g2)
theorem qy_tr {ρ : qr_R} (w : qr_wf ρ) {σ τ : qe_S} (hP : qw_P ρ 0 ≠ 0) (B : qw_B ρ σ τ) (hR : qz_R σ τ) : ∃ σ', g_X5_trace σ = some σ' ∧ qw_B ρ σ' τ ∧ qy_C ρ σ' ∧ qz_R σ' τ ∧ qy_c σ σ' := by
  obtain ⟨b1, b2, b3, b4, b5, b6⟩ := B
  obtain ⟨σ', e1, e2, e3⟩ := qy_trace w hP b5
  exact ⟨σ', e1, ⟨qy_D e2 b1, qy_O e2 b2, b3, b4, qy_wC e2 b5, b6⟩, e3, qy_keepC hR e2, e2⟩
theorem qz_run : ql_op_run qz_R := by
  intro a0 a1 σ τ hR
  have hR0 := hR
  obtain ⟨⟨ρ, w, d, o, m⟩, hI, hW, hT, hL⟩ := hR
  show qz_ok (g_X8_run a0 a1 σ) (g_X9_run a0 a1 τ)
  unfold g_X8_run g_X9_run
  by_cases c0 : a0 < -1
  · rw [if_pos c0, if_pos c0]
    exact qz_ok_no hR0 (-1)
  rw [if_neg c0, if_neg c0]
  refine qz_gIn (n := 2) (by omega) (fun _ => ⟨qz_ok_no hR0 (-1), qz_ok_no hR0 (-1)⟩) ?_
  rintro r hr rfl
  refine qy_gRef hR0 w d o m (fun τ' h => qz_ok_no h (-7)) (fun σ1 τ' hP B1 M h1 => ?_)
  obtain ⟨σ', e1, B, C, h, _⟩ := qy_tr w hP B1 h1
  obtain ⟨M1, M2, M3, M4⟩ := qx_M_ok w hP
  rw [e1, qn_o, C.1, M.1]
  by_cases c1 : a0 = -1
  · rw [if_pos c1, if_pos c1]
    exact qz_ok_some h
  · rw [if_neg c1, if_neg c1]
    have n0 : ¬ a0 < 0 := fun z => by
      rw [Int32.lt_iff_toInt_lt] at z c0
      rw [← Int32.toInt_inj] at c1
      rw [show (0 : Int32).toInt = 0 from rfl] at z
      rw [show (-1 : Int32).toInt = -1 from rfl] at c0 c1
      omega
    obtain ⟨k, hk, rfl⟩ := nI_of n0
    by_cases c2 : k < qx_M ρ
    · obtain ⟨x1, x2, x3⟩ := C.2 k c2
      obtain ⟨y1, y2, y3⟩ := M.2 k c2
      rw [if_pos (nI_lt c2 (by omega)), if_pos (nI_lt c2 (by omega))]
      simp only [qn_g (show k < 13 by omega) (show 13 < 2 ^ 31 by omega), qn_g (show k < 26 by omega) (show 26 < 2 ^ 31 by omega), qn_l, nI_clamp hk, x1, x2, x3, y1, y2, y3]
      by_cases c3 : nI r = 0
      · rw [if_pos c3, if_pos c3]
        exact qz_ok_some h
      · rw [if_neg c3, if_neg c3]
        by_cases c4 : nI r = 1
        · rw [if_pos c4, if_pos c4]
          exact qz_ok_some h
        · rw [if_neg c4, if_neg c4]
          exact qz_ok_some h
    · rw [if_neg (nI_nlt (by omega) (by omega)), if_neg (nI_nlt (by omega) (by omega))]
      exact qz_ok_no h (-5)
-- sums
theorem qc_seg {g : Nat → Nat} {a v : Nat} : ∀ {d : Nat}, (∀ i, i < d → g (a + i) = v) → qp_S g (a + d) = qp_S g a + v * d := by
  intro d
  induction d with
  | zero => intro _; rfl
  | succ d ih =>
    intro h
    rw [show a + (d + 1) = a + d + 1 by omega]
    simp only [qp_S]
    rw [ih (fun i hi => h i (by omega)), h d (by omega), Nat.mul_succ]
    omega
theorem qc_sum {ρ : qr_R} (w : qr_wf ρ) (hP : qx_P ρ ≠ 0) {g : Nat → Nat} (hg : ∀ s t, qx_f ρ s = qx_f ρ t → g s = g t) : ∀ j, j ≤ qx_M ρ → qp_S (fun k => g (qx_c ρ k) * (qx_c ρ (k + 1) - qx_c ρ k)) j = qp_S g (qx_c ρ j) := by
  obtain ⟨M1, M2, M3, M4⟩ := qx_M_ok w hP
  intro j
  induction j with
  | zero => intro _; rfl
  | succ j ih =>
    intro hj
    have lt := M4 j (by omega)
    have up := qx_c_up lt
    simp only [qp_S]
    rw [ih (by omega)]
    have s := qc_seg (g := g) (a := qx_c ρ j) (v := g (qx_c ρ j)) (d := qx_c ρ (j + 1) - qx_c ρ j) (fun i hi => hg _ _ (qx_const w hP lt i (by omega)))
    rw [show qx_c ρ j + (qx_c ρ (j + 1) - qx_c ρ j) = qx_c ρ (j + 1) by omega] at s
    exact s.symm
theorem qc_swap (a : Nat → Nat → Nat) (P : Nat) : ∀ N, qp_S (fun i => qp_S (fun s => a i s) P) N = qp_S (fun s => qp_S (fun i => a i s) N) P := by
  intro N
  induction N with
  | zero => exact (qp_zero (fun i _ => rfl)).symm
  | succ N ih =>
    simp only [qp_S]
    rw [ih, ← qp_add]
theorem qc_tail {g : Nat → Nat} {a : Nat} : ∀ {d : Nat}, (∀ i, i < d → g (a + i) = 0) → qp_S g (a + d) = qp_S g a := by
  intro d h
  have := qc_seg h
  omega
theorem qc_int {a l : Nat} {c : Int} : ∀ n : Nat, qp_S (fun i => if c ≤ (a : Int) + i ∧ (a : Int) + i < c + l then 1 else 0) n = qv_t a n c l := by
  intro n
  induction n with
  | zero =>
    unfold qv_t
    simp only [qp_S]
    omega
  | succ n ih =>
    simp only [qp_S]
    rw [ih]
    unfold qv_t
    by_cases h : c ≤ (a : Int) + n ∧ (a : Int) + n < c + l
    · rw [if_pos h]; omega
    · rw [if_neg h]; omega
theorem qc_meet {F1 L1 F2 L2 P : Nat} (h1 : F1 < P) (h2 : L1 ≤ P) (h3 : F2 < P) (h4 : L2 ≤ P) : qv_m F1 L1 F2 L2 P = qp_S (fun s => if (s + P - F1) % P < L1 ∧ (s + P - F2) % P < L2 then 1 else 0) P := by
  have rot := qp_sum (fun s => if (s + P - F1) % P < L1 ∧ (s + P - F2) % P < L2 then 1 else 0) P (fun i => (F1 + i) % P) (fun i hi => Nat.mod_lt _ (by omega)) (fun i j hi hj e => by
    have e' : (F1 + i) % P = (F1 + j) % P := e
    rw [qx_md (by omega), qx_md (by omega)] at e'
    by_cases a : F1 + i < P
    · rw [if_pos a] at e'
      by_cases b : F1 + j < P
      · rw [if_pos b] at e'; omega
      · rw [if_neg b] at e'; omega
    · rw [if_neg a] at e'
      by_cases b : F1 + j < P
      · rw [if_pos b] at e'; omega
      · rw [if_neg b] at e'; omega)
  rw [← rot]
  have on1 : ∀ i, i < P → ((F1 + i) % P + P - F1) % P = i := fun i hi => by
    rw [qx_d (Nat.mod_lt _ (by omega)) h1, qx_md (by omega)]
    by_cases a : F1 + i < P
    · rw [if_pos a, if_pos (by omega)]; omega
    · rw [if_neg a, if_neg (by omega)]; omega
  have cut : qp_S (fun k => if ((F1 + k) % P + P - F1) % P < L1 ∧ ((F1 + k) % P + P - F2) % P < L2 then 1 else 0) P = qp_S (fun k => if ((F1 + k) % P + P - F1) % P < L1 ∧ ((F1 + k) % P + P - F2) % P < L2 then 1 else 0) L1 := by
    have t := qc_tail (g := fun k => if ((F1 + k) % P + P - F1) % P < L1 ∧ ((F1 + k) % P + P - F2) % P < L2 then 1 else 0) (a := L1) (d := P - L1) (fun i hi => by
      show (if ((F1 + (L1 + i)) % P + P - F1) % P < L1 ∧ _ then 1 else 0) = 0
      rw [on1 (L1 + i) (by omega), if_neg (by omega)])
    rw [show L1 + (P - L1) = P by omega] at t
    exact t
  have shape : ∀ i, i < L1 → (if ((F1 + i) % P + P - F1) % P < L1 ∧ ((F1 + i) % P + P - F2) % P < L2 then 1 else 0) = ((if ((F2 : Int) - P) ≤ (F1 : Int) + i ∧ (F1 : Int) + i < ((F2 : Int) - P) + L2 then 1 else 0) + (if (F2 : Int) ≤ (F1 : Int) + i ∧ (F1 : Int) + i < (F2 : Int) + L2 then 1 else 0) + (if ((F2 : Int) + P) ≤ (F1 : Int) + i ∧ (F1 : Int) + i < ((F2 : Int) + P) + L2 then 1 else 0) : Nat) := fun i hi => by
    rw [on1 i (by omega), qx_d (Nat.mod_lt _ (by omega)) h3, qx_md (by omega)]
    by_cases a : F1 + i < P
    · rw [if_pos a]
      by_cases b : F2 ≤ F1 + i
      · rw [if_pos b, if_neg (show ¬ (((F2 : Int) - P) ≤ (F1 : Int) + i ∧ (F1 : Int) + i < ((F2 : Int) - P) + L2) by omega), if_neg (show ¬ (((F2 : Int) + P) ≤ (F1 : Int) + i ∧ (F1 : Int) + i < ((F2 : Int) + P) + L2) by omega)]
        by_cases e : F1 + i - F2 < L2
        · rw [if_pos ⟨hi, e⟩, if_pos (by omega)]
        · rw [if_neg (fun z => e z.2), if_neg (by omega)]
      · rw [if_neg b, if_neg (show ¬ ((F2 : Int) ≤ (F1 : Int) + i ∧ (F1 : Int) + i < (F2 : Int) + L2) by omega), if_neg (show ¬ (((F2 : Int) + P) ≤ (F1 : Int) + i ∧ (F1 : Int) + i < ((F2 : Int) + P) + L2) by omega)]
        by_cases e : F1 + i + P - F2 < L2
        · rw [if_pos ⟨hi, e⟩, if_pos (by omega)]
        · rw [if_neg (fun z => e z.2), if_neg (by omega)]
    · rw [if_neg a]
      by_cases b : F2 ≤ F1 + i - P
      · rw [if_pos b, if_neg (show ¬ (((F2 : Int) - P) ≤ (F1 : Int) + i ∧ (F1 : Int) + i < ((F2 : Int) - P) + L2) by omega), if_neg (show ¬ ((F2 : Int) ≤ (F1 : Int) + i ∧ (F1 : Int) + i < (F2 : Int) + L2) by omega)]
        by_cases e : F1 + i - P - F2 < L2
        · rw [if_pos ⟨hi, e⟩, if_pos (by omega)]
        · rw [if_neg (fun z => e z.2), if_neg (by omega)]
      · rw [if_neg b, if_neg (show ¬ (((F2 : Int) - P) ≤ (F1 : Int) + i ∧ (F1 : Int) + i < ((F2 : Int) - P) + L2) by omega), if_neg (show ¬ (((F2 : Int) + P) ≤ (F1 : Int) + i ∧ (F1 : Int) + i < ((F2 : Int) + P) + L2) by omega)]
        by_cases e : F1 + i - P + P - F2 < L2
        · rw [if_pos ⟨hi, e⟩, if_pos (by omega)]
        · rw [if_neg (fun z => e z.2), if_neg (by omega)]
  rw [cut, qp_congr shape, qp_add, qp_add, qc_int, qc_int, qc_int]
  rfl
