/-! MEAN, SPREAD -/
def qh_sq (t : Int64 × Int64 × Bool) : Int64 × Int64 × Bool := qh_tim t t.1 t.2.1
def qh_mk (ρ : qr_R) : Nat → Int64
  | 0 => 0
  | u + 1 => qh_mk ρ u + (qr_m ρ u).toInt64
def qh_U (ρ : qr_R) (sp : Bool) (k : Nat) : Int64 × Int64 × Bool := if sp then qh_sq (qh_add (qh_est ρ (qx_f ρ (qx_c ρ k)) (qr_N ρ)) (-(qh_mk ρ (qr_N ρ))) 1) else qh_est ρ (qx_f ρ (qx_c ρ k)) (qr_N ρ)
def qh_w (ρ : qr_R) (k : Nat) : Int64 × Int64 := qh_r (lN (qx_c ρ (k + 1) - qx_c ρ k)) (lN (qx_P ρ))
def qh_T (ρ : qr_R) (sp : Bool) (k : Nat) : Int64 × Int64 × Bool := qh_tim (qh_U ρ sp k) (qh_w ρ k).1 (qh_w ρ k).2
def qh_tot (ρ : qr_R) (sp : Bool) : Nat → Int64 × Int64 × Bool
  | 0 => (0, 1, false)
  | k + 1 => if ((qh_tot ρ sp k).2.2 || (qh_T ρ sp k).2.2) = true then (0, 1, true) else qh_add (qh_tot ρ sp k) (qh_T ρ sp k).1 (qh_T ρ sp k).2.1
theorem qh_tot_ov {ρ : qr_R} {sp : Bool} {k : Nat} (h : (qh_tot ρ sp k).2.2 = true) : ∀ d, (qh_tot ρ sp (k + d)).2.2 = true := by
  intro d
  induction d with
  | zero => exact h
  | succ d ih =>
    show (qh_tot ρ sp (k + d + 1)).2.2 = true
    simp only [qh_tot]
    rw [if_pos (by simp [ih])]
theorem qh_tim_ov {t : Int64 × Int64 × Bool} {c d : Int64} (h : t.2.2 = true) : qh_tim t c d = (t.1, t.2.1, true) := by
  unfold qh_tim
  rw [if_pos (by simp [h])]
theorem qh_C_ov {o : Nat} {σ : qe_S} {t t' : Int64 × Int64 × Bool} (h : t.2.2 = true) (h' : t'.2.2 = true) (c : qh_C o σ t) : qh_C o σ t' := ⟨by rw [c.1, h, h'], fun z => by rw [h'] at z; cases z⟩
theorem qh_M_ov {τ : qe_S} {t t' : Int64 × Int64 × Bool} (h : t.2.2 = true) (h' : t'.2.2 = true) (c : qh_M τ t) : qh_M τ t' := ⟨by rw [c.1, h, h'], fun z => by rw [h'] at z; cases z⟩
theorem qh_C_k {o p : Nat} {σ σ' : qe_S} {t : Int64 × Int64 × Bool} (h : qh_on p σ σ') (hp : o ≠ p) (c : qh_C o σ t) : qh_C o σ' t := by
  unfold qh_C
  rw [(h o hp).1, (h o hp).2]
  exact c
theorem qh_marksC {σ : qe_S} {ρ : qr_R} (w : qr_wf ρ) (d : qr_D 1 σ ρ) : g_X3_marksTogether σ = some (qh_mk ρ (qr_N ρ), σ) := by
  have hN := w.1
  have L : ∀ q u n, u + q = qr_N ρ → q < n → g_X3_marksTogether_L4 n (qh_mk ρ u) (nI u) σ = some (qh_mk ρ (qr_N ρ), σ) := by
    intro q
    induction q with
    | zero =>
      intro u n hu hn
      obtain ⟨n, rfl⟩ : ∃ m, n = m + 1 := ⟨n - 1, by omega⟩
      obtain rfl : u = qr_N ρ := by omega
      simp only [g_X3_marksTogether_L4]
      rw [d.1, if_pos (nI_le (by omega) (by omega))]
    | succ q ih =>
      intro u n hu hn
      obtain ⟨n, rfl⟩ : ∃ m, n = m + 1 := ⟨n - 1, by omega⟩
      have mk : σ.1 3 u = qr_m ρ u := (d.2.2.2.1 u (by omega)).2.1
      simp only [g_X3_marksTogether_L4]
      rw [d.1, if_neg (nI_ge (show u < qr_N ρ by omega) (by omega)), qn_g (by omega) (by omega), qn_l, nI_clamp (by omega), mk, qn_l, qn_l, nI_1]
      exact ih (u + 1) n (by omega) (by omega)
  have h := L (qr_N ρ) 0 qm_F (by omega) (by rw [qn_F]; omega)
  rw [nI_0] at h
  unfold g_X3_marksTogether
  rw [qn_l, qn_l]
  exact h
def qh_cf (σ σ' : qe_S) : Prop := ∀ k, (k < 32 ∨ 34 < k) → σ'.1 k = σ.1 k ∧ σ'.2 k = σ.2 k
theorem qh_cf_t {a b c : qe_S} (h : qh_cf a b) (g : qh_cf b c) : qh_cf a c := fun k p => ⟨(g k p).1.trans (h k p).1, (g k p).2.trans (h k p).2⟩
theorem qh_cf_on {o : Nat} {a b : qe_S} (ho : 32 ≤ o ∧ o ≤ 34) (h : qh_on o a b) : qh_cf a b := fun k p => h k (by omega)
theorem qh_cf_o2 {a b : qe_S} (h : qh_o2 33 a b) : qh_cf a b := fun k p => h k (by omega) (by omega)
theorem qh_cf_D {σ σ' : qe_S} {ρ : qr_R} (h : qh_cf σ σ') (d : qr_D 1 σ ρ) : qr_D 1 σ' ρ := by
  unfold qr_D
  rw [(h 1 (by omega)).1, (h (1 + 1) (by omega)).1, (h (1 + 2) (by omega)).1, (h (1 + 3) (by omega)).1, (h (1 + 5) (by omega)).1, (h (1 + 6) (by omega)).1]
  exact d
def qh_JC (K : qe_S → Option (Int64 × qe_S)) (v1 v2 : Int32) (n : Nat) (v3 : Int32) (s8 : qe_S) : Option (Int64 × qe_S) :=
        qm_g v3 13 <| qm_l (s8.2 30 v3.toNatClampNeg) fun b9 =>
        qm_o (g_X0_begin 34 b9 (s8.2 22 0) s8) fun s10 =>
        qm_o (g_X0_times (s10.2 34 0) (s10.2 34 1) s10) fun s11 =>
        if (s11.1 33 2) = (0 : Int32) then (
          qm_o (g_X0_add 32 (s11.2 33 0) (s11.2 33 1) s11) fun s12 =>
          qm_l (v3 + (1 : Int32)) fun a13 =>
          g_X8_overAllRuns_L50 K v1 v2 n a13 s12)
        else
        qm_b (g_X8_refuseLong (-7 : Int32) s11) fun b15 s14 =>
        some (b15, s14)
theorem qh_L50 (K : qe_S → Option (Int64 × qe_S)) (v1 v2 : Int32) (n : Nat) (v3 : Int32) (s0 : qe_S) : g_X8_overAllRuns_L50 K v1 v2 (n + 1) v3 s0 = if (s0.1 28 0) ≤ v3 then K s0 else qm_o (g_X0_begin 33 (0 : Int64) (1 : Int64) s0) fun s16 => qm_g v3 13 <| qm_l (s16.1 31 v3.toNatClampNeg) fun a17 => qm_o (g_X8_addEstimate 33 a17 s16) fun s18 => if v2 = (0 : Int32) then qh_JC K v1 v2 n v3 s18 else qm_b (g_X3_marksTogether s18) fun b20 s19 => qm_o (g_X0_add 33 (-b20) (1 : Int64) s19) fun s21 => qm_o (g_X0_times (s21.2 33 0) (s21.2 33 1) s21) fun s22 => qh_JC K v1 v2 n v3 s22 := rfl
theorem qh_sqC {σ : qe_S} {t : Int64 × Int64 × Bool} (h : qh_C 33 σ t) : ∃ σ', g_X0_times (σ.2 33 0) (σ.2 33 1) σ = some σ' ∧ qh_on 33 σ σ' ∧ qh_C 33 σ' (qh_sq t) := by
  obtain ⟨σ', e1, e2, e3⟩ := qh_timC (c := σ.2 33 0) (d := σ.2 33 1) h (fun z => by rw [(h.2 z).2.1]; exact (h.2 z).2.2)
  refine ⟨σ', e1, e2, ?_⟩
  cases ht : t.2.2 with
  | true =>
    rw [qh_tim_ov ht] at e3
    unfold qh_sq
    rw [qh_tim_ov ht]
    exact e3
  | false =>
    obtain ⟨x1, x2, _⟩ := h.2 ht
    rw [x1, x2] at e3
    exact e3
theorem qh_JCs {ρ : qr_R} (w : qr_wf ρ) (hP : qx_P ρ ≠ 0) {sp : Bool} {σ : qe_S} (C : qy_C ρ σ) (h22 : σ.2 22 0 = lN (qx_P ρ)) (K : qe_S → Option (Int64 × qe_S)) (v1 v2 : Int32) {k n : Nat} (hk : k < qx_M ρ) {s : qe_S} (hf : qh_cf σ s) (c32 : qh_C 32 s (qh_tot ρ sp k)) (c33 : qh_C 33 s (qh_U ρ sp k)) : ∃ s', qh_cf σ s' ∧ ((qh_C 32 s' (qh_tot ρ sp (k + 1)) ∧ qh_JC K v1 v2 n (nI k) s = g_X8_overAllRuns_L50 K v1 v2 n (nI (k + 1)) s') ∨ ((qh_tot ρ sp (k + 1)).2.2 = true ∧ qh_JC K v1 v2 n (nI k) s = qm_b (g_X8_refuseLong (-7 : Int32) s') fun b15 s14 => some (b15, s14))) := by
  have Pb : qx_P ρ < 2 ^ 31 := qw_P_lt ρ 0
  obtain ⟨M1, M2, M3, M4⟩ := qx_M_ok w hP
  obtain ⟨y1, y2, y3⟩ := C.2 k hk
  have pp : 0 < (lN (qx_P ρ)).toInt := qw_lpos hP (by omega)
  have bg := qg_begin (o := 34) (a := lN (qx_c ρ (k + 1) - qx_c ρ k)) (b := lN (qx_P ρ)) (σ := s) pp
  generalize hs1 : qe_sl (qe_sl (qe_si s 34 2 0) 34 0 (lN (qx_c ρ (k + 1) - qx_c ρ k) / qg_d (lN (qx_c ρ (k + 1) - qx_c ρ k)) (lN (qx_P ρ)))) 34 1 (lN (qx_P ρ) / qg_d (lN (qx_c ρ (k + 1) - qx_c ρ k)) (lN (qx_P ρ))) = s1 at bg
  have f1 : qh_on 34 s s1 := by rw [← hs1]; exact qh_on_t (qh_on_t (qh_on_i s 2 0) (qh_on_l _ 0 _)) (qh_on_l _ 1 _)
  have v0 : s1.2 34 0 = (qh_w ρ k).1 := by rw [← hs1, qn_sl_j (by omega), qn_sl_eq]; rfl
  have v1' : s1.2 34 1 = (qh_w ρ k).2 := by rw [← hs1, qn_sl_eq]; rfl
  obtain ⟨s2, e1, e2, e3⟩ := qh_timC (c := (qh_w ρ k).1) (d := (qh_w ρ k).2) (qh_C_k f1 (by omega) c33) (fun _ => qh_r_pos pp)
  have e3' : qh_C 33 s2 (qh_T ρ sp k) := e3
  have c32' := qh_C_k e2 (by omega) (qh_C_k f1 (by omega) c32)
  have g2 := qh_cf_t (qh_cf_t hf (qh_cf_on (by omega) f1)) (qh_cf_on (by omega) e2)
  have start : qh_JC K v1 v2 n (nI k) s = if (s2.1 33 2) = (0 : Int32) then (qm_o (g_X0_add 32 (s2.2 33 0) (s2.2 33 1) s2) fun s12 => qm_l (nI k + (1 : Int32)) fun a13 => g_X8_overAllRuns_L50 K v1 v2 n a13 s12) else qm_b (g_X8_refuseLong (-7 : Int32) s2) fun b15 s14 => some (b15, s14) := by
    unfold qh_JC
    rw [qn_g (by omega) (by omega), qn_l, nI_clamp (by omega), (hf 30 (by omega)).2, y2, (hf 22 (by omega)).2, h22, bg, qn_o, v0, v1', e1, qn_o]
  cases hT : (qh_T ρ sp k).2.2 with
  | true =>
    have fl : s2.1 33 2 = 1 := by rw [e3'.1, hT]; rfl
    refine ⟨s2, g2, Or.inr ⟨?_, ?_⟩⟩
    · simp only [qh_tot]
      rw [if_pos (by simp [hT])]
    · rw [start, fl, if_neg qn_10]
  | false =>
    have fl : s2.1 33 2 = 0 := by rw [e3'.1, hT]; rfl
    obtain ⟨x1, x2, x3⟩ := e3'.2 hT
    obtain ⟨s3, a1, a2, a3⟩ := qh_addC (c := (qh_T ρ sp k).1) (d := (qh_T ρ sp k).2.1) c32' x3
    refine ⟨s3, qh_cf_t g2 (qh_cf_on (by omega) a2), Or.inl ⟨?_, ?_⟩⟩
    · cases ht : (qh_tot ρ sp k).2.2 with
      | true =>
        exact qh_C_ov (qh_add_ov ht) (by simp only [qh_tot]; rw [if_pos (by simp [ht])]) a3
      | false =>
        have tt : qh_tot ρ sp (k + 1) = qh_add (qh_tot ρ sp k) (qh_T ρ sp k).1 (qh_T ρ sp k).2.1 := if_neg (by simp [ht, hT])
        rw [tt]
        exact a3
    · rw [start, fl, if_pos rfl, x1, x2, a1, qn_o, qn_l, nI_1]
theorem qh_runsC {ρ : qr_R} (w : qr_wf ρ) (hP : qx_P ρ ≠ 0) {sp : Bool} {v2 : Int32} (hv : v2 = if sp then 1 else 0) {σ : qe_S} (d : qr_D 1 σ ρ) (C : qy_C ρ σ) (h22 : σ.2 22 0 = lN (qx_P ρ)) (K : qe_S → Option (Int64 × qe_S)) (v1 : Int32) : ∀ q k n s, k + q = qx_M ρ → q < n → qh_cf σ s → qh_C 32 s (qh_tot ρ sp k) → ∃ s', qh_cf σ s' ∧ ((qh_C 32 s' (qh_tot ρ sp (qx_M ρ)) ∧ g_X8_overAllRuns_L50 K v1 v2 n (nI k) s = K s') ∨ ((qh_tot ρ sp (qx_M ρ)).2.2 = true ∧ g_X8_overAllRuns_L50 K v1 v2 n (nI k) s = qm_b (g_X8_refuseLong (-7 : Int32) s') fun b15 s14 => some (b15, s14))) := by
  have hN := w.1
  obtain ⟨M1, M2, M3, M4⟩ := qx_M_ok w hP
  intro q
  induction q with
  | zero =>
    intro k n s hk hn hf hc
    obtain ⟨n, rfl⟩ : ∃ m, n = m + 1 := ⟨n - 1, by omega⟩
    have hkM : k = qx_M ρ := by omega
    rw [hkM] at hc
    refine ⟨s, hf, Or.inl ⟨hc, ?_⟩⟩
    rw [qh_L50, (hf 28 (by omega)).1, C.1, if_pos (nI_le (by omega) (by omega))]
  | succ q ih =>
    intro k n s hk hn hf hc
    obtain ⟨n, rfl⟩ : ∃ m, n = m + 1 := ⟨n - 1, by omega⟩
    obtain ⟨y1, y2, y3⟩ := C.2 k (by omega)
    have bb := qj_f12 w (qx_c ρ k)
    obtain ⟨s1, a1, a2, a3⟩ := qh_start (o := 33) (σ := s)
    have g1 := qh_cf_t hf (qh_cf_on (by omega) a2)
    obtain ⟨s2, b1, b2, b3⟩ := qh_estC w bb (Or.inr rfl) (qh_cf_D g1 d) a3
    have g2 := qh_cf_t g1 (qh_cf_o2 b2)
    have c32 : qh_C 32 s2 (qh_tot ρ sp k) := by
      unfold qh_C
      rw [(b2 32 (by omega) (by omega)).1, (b2 32 (by omega) (by omega)).2]
      exact qh_C_k a2 (by omega) hc
    have key : ∃ s3, qh_cf σ s3 ∧ qh_C 32 s3 (qh_tot ρ sp k) ∧ qh_C 33 s3 (qh_U ρ sp k) ∧ g_X8_overAllRuns_L50 K v1 v2 (n + 1) (nI k) s = qh_JC K v1 v2 n (nI k) s3 := by
      have pre : g_X8_overAllRuns_L50 K v1 v2 (n + 1) (nI k) s = if v2 = (0 : Int32) then qh_JC K v1 v2 n (nI k) s2 else qm_b (g_X3_marksTogether s2) fun b20 s19 => qm_o (g_X0_add 33 (-b20) (1 : Int64) s19) fun s21 => qm_o (g_X0_times (s21.2 33 0) (s21.2 33 1) s21) fun s22 => qh_JC K v1 v2 n (nI k) s22 := by
        rw [qh_L50, (hf 28 (by omega)).1, C.1, if_neg (nI_ge (by omega) (by omega)), a1, qn_o, qn_g (by omega) (by omega), qn_l, nI_clamp (by omega), (g1 31 (by omega)).1, y3, b1, qn_o]
      cases sp with
      | false =>
        have v0 : v2 = 0 := hv
        exact ⟨s2, g2, c32, b3, by rw [pre, if_pos v0]⟩
      | true =>
        have v0 : v2 = 1 := hv
        obtain ⟨s3, d1, d2, d3⟩ := qh_addC (c := -(qh_mk ρ (qr_N ρ))) (d := 1) b3 (by decide)
        obtain ⟨s4, e1, e2, e3⟩ := qh_sqC d3
        refine ⟨s4, qh_cf_t (qh_cf_t g2 (qh_cf_on (by omega) d2)) (qh_cf_on (by omega) e2), qh_C_k e2 (by omega) (qh_C_k d2 (by omega) c32), e3, ?_⟩
        rw [pre, if_neg (show ¬ v2 = 0 by rw [v0]; exact qn_10), qh_marksC w (qh_cf_D g2 d), qn_b, d1, qn_o, e1, qn_o]
    obtain ⟨s3, h1, h2, h3, h4⟩ := key
    obtain ⟨s4, i1, i2⟩ := qh_JCs w hP C h22 K v1 v2 (n := n) (by omega) h1 h2 h3
    rw [h4]
    rcases i2 with ⟨j1, j2⟩ | ⟨j1, j2⟩
    · rw [j2]
      exact ih (k + 1) n s4 (by omega) (by omega) i1 j1
    · have ov := qh_tot_ov j1 q
      rw [show k + 1 + q = qx_M ρ by omega] at ov
      exact ⟨s4, i1, Or.inr ⟨ov, j2⟩⟩
-- the reference's
def qh_JM (K : Int64 → Int64 → qe_S → Option (Int32 × qe_S)) (v1 : Int32) (v6 : Int64) (n : Nat) (v2 v4 : Int64) (v8 : Int32) (s16 : qe_S) : Option (Int32 × qe_S) :=
          qm_g v8 26 <| qm_l (s16.2 11 v8.toNatClampNeg) fun b17 =>
          qm_b (g_X9_lowest b17 (s16.2 0 6) (0 : Int32) s16) fun b19 s18 =>
          qm_g v8 26 <| qm_l (s18.2 11 v8.toNatClampNeg) fun b20 =>
          qm_b (g_X9_lowest b20 (s18.2 0 6) (1 : Int32) s18) fun b22 s21 =>
          qm_o (g_X9_times (s16.2 0 17) (s16.2 0 18) b19 b22 s21) fun s23 =>
          qm_o (g_X9_adds v2 v4 (s23.2 0 17) (s23.2 0 18) s23) fun s24 =>
          qm_l (s24.2 0 17) fun b25 =>
          qm_l (s24.2 0 18) fun b26 =>
          qm_l (v8 + (1 : Int32)) fun a27 =>
          g_X9_meansOf_L52 K v1 v6 n b25 b26 a27 s24
theorem qh_L52 (K : Int64 → Int64 → qe_S → Option (Int32 × qe_S)) (v1 : Int32) (v6 : Int64) (n : Nat) (v2 v4 : Int64) (v8 : Int32) (s0 : qe_S) : g_X9_meansOf_L52 K v1 v6 (n + 1) v2 v4 v8 s0 = if (s0.1 0 12) ≤ v8 then K v2 v4 s0 else if (s0.1 0 19) = (0 : Int32) then (qm_g v8 26 <| qm_l (s0.1 12 v8.toNatClampNeg) fun a28 => qm_o (g_X9_estimates a28 s0) fun s29 => if v1 = (0 : Int32) then qh_JM K v1 v6 n v2 v4 v8 s29 else qm_o (g_X9_adds (s29.2 0 17) (s29.2 0 18) (-v6) (1 : Int64) s29) fun s30 => qm_o (g_X9_times (s30.2 0 17) (s30.2 0 18) (s30.2 0 17) (s30.2 0 18) s30) fun s31 => qh_JM K v1 v6 n v2 v4 v8 s31) else K v2 v4 s0 := rfl
theorem qh_addMt {τ : qe_S} {t : Int64 × Int64 × Bool} {c d : Int64} (h : qh_M τ t) (hd : 0 < d.toInt) : ∃ τ', g_X9_adds (τ.2 0 17) (τ.2 0 18) c d τ = some τ' ∧ qh_mf τ τ' ∧ qh_M τ' (qh_add t c d) := by
  obtain ⟨τ', e1, e2, e3⟩ := qh_addM (a := τ.2 0 17) (b := τ.2 0 18) (c := c) (d := d) h.1 (fun z => ⟨by rw [(h.2 z).2.1]; exact (h.2 z).2.2, hd⟩)
  refine ⟨τ', e1, e2, ?_⟩
  cases ht : t.2.2 with
  | true => exact qh_M_ov (qh_add_ov (by exact ht)) (qh_add_ov ht) e3
  | false =>
    obtain ⟨x1, x2, _⟩ := h.2 ht
    rw [x1, x2] at e3
    exact e3
theorem qh_timMt {τ : qe_S} {t : Int64 × Int64 × Bool} {c d : Int64} (h : qh_M τ t) (hd : t.2.2 = false → 0 < d.toInt) : ∃ τ', g_X9_times (τ.2 0 17) (τ.2 0 18) c d τ = some τ' ∧ qh_mf τ τ' ∧ qh_M τ' (qh_tim t c d) := by
  obtain ⟨τ', e1, e2, e3⟩ := qh_timM (a := τ.2 0 17) (b := τ.2 0 18) (c := c) (d := d) h.1 (fun z => ⟨by rw [(h.2 z).2.1]; exact (h.2 z).2.2, hd z⟩)
  refine ⟨τ', e1, e2, ?_⟩
  cases ht : t.2.2 with
  | true => exact qh_M_ov (by rw [qh_tim_ov (by exact ht)]) (by rw [qh_tim_ov ht]) e3
  | false =>
    obtain ⟨x1, x2, _⟩ := h.2 ht
    rw [x1, x2] at e3
    exact e3
theorem qh_sqM {τ : qe_S} {t : Int64 × Int64 × Bool} (h : qh_M τ t) : ∃ τ', g_X9_times (τ.2 0 17) (τ.2 0 18) (τ.2 0 17) (τ.2 0 18) τ = some τ' ∧ qh_mf τ τ' ∧ qh_M τ' (qh_sq t) := by
  obtain ⟨τ', e1, e2, e3⟩ := qh_timMt (c := τ.2 0 17) (d := τ.2 0 18) h (fun z => by rw [(h.2 z).2.1]; exact (h.2 z).2.2)
  refine ⟨τ', e1, e2, ?_⟩
  cases ht : t.2.2 with
  | true =>
    rw [qh_tim_ov ht] at e3
    unfold qh_sq
    rw [qh_tim_ov ht]
    exact e3
  | false =>
    obtain ⟨x1, x2, _⟩ := h.2 ht
    rw [x1, x2] at e3
    exact e3
theorem qh_runsM {ρ : qr_R} (w : qr_wf ρ) (hP : qx_P ρ ≠ 0) {sp : Bool} {v1 : Int32} (hv : v1 = if sp then 1 else 0) {τ : qe_S} (m : qr_M 1 τ ρ) (M : qy_M ρ τ) (h6 : τ.2 0 6 = lN (qx_P ρ)) (K : Int64 → Int64 → qe_S → Option (Int32 × qe_S)) : ∀ q k n s x y, k + q = qx_M ρ → q < n → qh_mf τ s → s.1 0 19 = (if (qh_tot ρ sp k).2.2 then 1 else 0) → ((qh_tot ρ sp k).2.2 = false → x = (qh_tot ρ sp k).1 ∧ y = (qh_tot ρ sp k).2.1 ∧ 0 < (qh_tot ρ sp k).2.1.toInt) → ∃ s' x' y', qh_mf τ s' ∧ s'.1 0 19 = (if (qh_tot ρ sp (qx_M ρ)).2.2 then 1 else 0) ∧ ((qh_tot ρ sp (qx_M ρ)).2.2 = false → x' = (qh_tot ρ sp (qx_M ρ)).1 ∧ y' = (qh_tot ρ sp (qx_M ρ)).2.1 ∧ 0 < (qh_tot ρ sp (qx_M ρ)).2.1.toInt) ∧ g_X9_meansOf_L52 K v1 (qh_mk ρ (qr_N ρ)) n x y (nI k) s = K x' y' s' := by
  have hN := w.1
  have Pb : qx_P ρ < 2 ^ 31 := qw_P_lt ρ 0
  have pp : 0 < (lN (qx_P ρ)).toInt := qw_lpos hP (by omega)
  obtain ⟨M1, M2, M3, M4⟩ := qx_M_ok w hP
  intro q
  induction q with
  | zero =>
    intro k n s x y hk hn hf hfl hxy
    obtain ⟨n, rfl⟩ : ∃ m, n = m + 1 := ⟨n - 1, by omega⟩
    have hkM : k = qx_M ρ := by omega
    rw [hkM] at hfl hxy
    refine ⟨s, x, y, hf, hfl, hxy, ?_⟩
    rw [qh_L52, hf.2.1 12 (by omega), M.1, if_pos (nI_le (by omega) (by omega))]
  | succ q ih =>
    intro k n s x y hk hn hf hfl hxy
    obtain ⟨n, rfl⟩ : ∃ m, n = m + 1 := ⟨n - 1, by omega⟩
    obtain ⟨y1, y2, y3⟩ := M.2 k (by omega)
    cases hov : (qh_tot ρ sp k).2.2 with
    | true =>
      have ov := qh_tot_ov hov (q + 1)
      rw [show k + (q + 1) = qx_M ρ by omega] at ov
      rw [hov] at hfl
      refine ⟨s, x, y, hf, by rw [ov]; exact hfl, (fun z => by rw [ov] at z; cases z), ?_⟩
      rw [qh_L52, hf.2.1 12 (by omega), M.1, if_neg (nI_ge (by omega) (by omega)), hfl, if_neg (by decide)]
    | false =>
      have bb := qj_f12 w (qx_c ρ k)
      obtain ⟨t1, t2, t3⟩ := hxy hov
      have fl0 : s.1 0 19 = 0 := by rw [hfl, hov]; rfl
      obtain ⟨s2, b1, b2, b3⟩ := qh_estM w bb (qh_mf_M hf m) fl0
      have g2 := qh_mf_t hf b2
      have key : ∃ s3, qh_mf τ s3 ∧ qh_M s3 (qh_U ρ sp k) ∧ g_X9_meansOf_L52 K v1 (qh_mk ρ (qr_N ρ)) (n + 1) x y (nI k) s = qh_JM K v1 (qh_mk ρ (qr_N ρ)) n x y (nI k) s3 := by
        have pre : g_X9_meansOf_L52 K v1 (qh_mk ρ (qr_N ρ)) (n + 1) x y (nI k) s = if v1 = (0 : Int32) then qh_JM K v1 (qh_mk ρ (qr_N ρ)) n x y (nI k) s2 else qm_o (g_X9_adds (s2.2 0 17) (s2.2 0 18) (-(qh_mk ρ (qr_N ρ))) (1 : Int64) s2) fun s30 => qm_o (g_X9_times (s30.2 0 17) (s30.2 0 18) (s30.2 0 17) (s30.2 0 18) s30) fun s31 => qh_JM K v1 (qh_mk ρ (qr_N ρ)) n x y (nI k) s31 := by
          rw [qh_L52, hf.2.1 12 (by omega), M.1, if_neg (nI_ge (by omega) (by omega)), fl0, if_pos rfl, qn_g (by omega) (by omega), qn_l, nI_clamp (by omega), (hf.1 12 (by omega)).1, y3, b1, qn_o]
        cases sp with
        | false =>
          have v0 : v1 = 0 := hv
          exact ⟨s2, g2, b3, by rw [pre, if_pos v0]⟩
        | true =>
          have v0 : v1 = 1 := hv
          obtain ⟨s3, d1, d2, d3⟩ := qh_addMt (c := -(qh_mk ρ (qr_N ρ))) (d := 1) b3 (by decide)
          obtain ⟨s4, e1, e2, e3⟩ := qh_sqM d3
          refine ⟨s4, qh_mf_t (qh_mf_t g2 d2) e2, e3, ?_⟩
          rw [pre, if_neg (show ¬ v1 = 0 by rw [v0]; exact qn_10), d1, qn_o, e1, qn_o]
      obtain ⟨s3, h1, h2, h4⟩ := key
      have w6 : s3.2 0 6 = lN (qx_P ρ) := by rw [h1.2.2 6 (by omega) (by omega)]; exact h6
      have w11 : s3.2 11 k = lN (qx_c ρ (k + 1) - qx_c ρ k) := by rw [(h1.1 11 (by omega)).2]; exact y2
      obtain ⟨s4, e1, e2, e3⟩ := qh_timMt (c := (qh_w ρ k).1) (d := (qh_w ρ k).2) h2 (fun _ => qh_r_pos pp)
      have e3' : qh_M s4 (qh_T ρ sp k) := e3
      have lw0 : g_X9_lowest (lN (qx_c ρ (k + 1) - qx_c ρ k)) (lN (qx_P ρ)) 0 s3 = some ((qh_w ρ k).1, s3) := qg_lowM (v := 0) pp
      have lw1 : g_X9_lowest (lN (qx_c ρ (k + 1) - qx_c ρ k)) (lN (qx_P ρ)) 1 s3 = some ((qh_w ρ k).2, s3) := qg_lowM (v := 1) pp
      obtain ⟨s5, a1, a2, a3⟩ := qh_addM (a := x) (b := y) (c := s4.2 0 17) (d := s4.2 0 18) e3'.1 (fun z => ⟨by rw [t2]; exact t3, by rw [(e3'.2 z).2.1]; exact (e3'.2 z).2.2⟩)
      have g5 := qh_mf_t (qh_mf_t h1 e2) a2
      have M5 : qh_M s5 (qh_tot ρ sp (k + 1)) := by
        cases hT : (qh_T ρ sp k).2.2 with
        | true =>
          refine qh_M_ov (qh_add_ov (by exact hT)) ?_ a3
          simp only [qh_tot]
          rw [if_pos (by simp [hT])]
        | false =>
          have tt : qh_tot ρ sp (k + 1) = qh_add (qh_tot ρ sp k) (qh_T ρ sp k).1 (qh_T ρ sp k).2.1 := if_neg (by simp [hov, hT])
          obtain ⟨z1, z2, z3⟩ := e3'.2 hT
          rw [hT, z1, z2, t1, t2] at a3
          have te : ((qh_tot ρ sp k).1, (qh_tot ρ sp k).2.1, false) = qh_tot ρ sp k := by rw [← hov]
          rw [te] at a3
          rw [tt]
          exact a3
      have st : qh_JM K v1 (qh_mk ρ (qr_N ρ)) n x y (nI k) s3 = g_X9_meansOf_L52 K v1 (qh_mk ρ (qr_N ρ)) n (s5.2 0 17) (s5.2 0 18) (nI (k + 1)) s5 := by
        unfold qh_JM
        rw [qn_g (by omega) (by omega), qn_l, nI_clamp (by omega), w11, w6, lw0, qn_b, qn_g (by omega) (by omega), qn_l, w11, w6, lw1, qn_b, e1, qn_o, a1, qn_o, qn_l, qn_l, qn_l, nI_1]
      rw [h4, st]
      exact ih (k + 1) n s5 _ _ (by omega) (by omega) g5 M5.1 M5.2
theorem qh_marksM {τ : qe_S} {ρ : qr_R} (w : qr_wf ρ) (m : qr_M 1 τ ρ) (K : Int64 → qe_S → Option (Int32 × qe_S)) (v1 : Int32) (v2 v4 : Int64) : g_X9_meansOf_L16 K v1 v2 v4 qm_F 0 0 τ = K (qh_mk ρ (qr_N ρ)) τ := by
  have hN := w.1
  have L : ∀ q u n, u + q = qr_N ρ → q < n → g_X9_meansOf_L16 K v1 v2 v4 n (qh_mk ρ u) (nI u) τ = K (qh_mk ρ (qr_N ρ)) τ := by
    intro q
    induction q with
    | zero =>
      intro u n hu hn
      obtain ⟨n, rfl⟩ : ∃ m, n = m + 1 := ⟨n - 1, by omega⟩
      obtain rfl : u = qr_N ρ := by omega
      simp only [g_X9_meansOf_L16]
      rw [qn_g0 (by omega) (by omega), qn_l, qr_clamp0, m.1, if_pos (nI_le (by omega) (by omega))]
    | succ q ih =>
      intro u n hu hn
      obtain ⟨n, rfl⟩ : ∃ m, n = m + 1 := ⟨n - 1, by omega⟩
      have mk := (m.2.2.1 u (by omega)).2.2.1
      simp only [g_X9_meansOf_L16]
      rw [qn_g0 (by omega) (by omega), qn_l, qr_clamp0, m.1, if_neg (nI_ge (show u < qr_N ρ by omega) (by omega)), nI_add, qn_g (by omega) (by omega), qn_l, nI_clamp (by omega), mk, qn_l, qn_l, nI_1]
      exact ih (u + 1) n (by omega) (by omega)
  have h := L (qr_N ρ) 0 qm_F (by omega) (by rw [qn_F]; omega)
  rw [nI_0] at h
  exact h
theorem qh_over {sp : Bool} {v : Int32} (hv : v = if sp then 1 else 0) (a0 : Int32) {σ τ : qe_S} (hR0 : qz_R σ τ) : qz_ok (g_X8_overAllRuns a0 v σ) (g_X9_meant a0 v τ) := by
  obtain ⟨⟨ρ, w, d, o, m⟩, hI, hW, hT, hL⟩ := id hR0
  have hN := w.1
  unfold g_X8_overAllRuns g_X9_meant
  refine qz_gPart (qz_ok_noL hR0 (-2)) (fun _ => ?_)
  refine qy_gRef hR0 w d o m (fun τ' h => qz_ok_noL h (-7)) (fun σ1 τ' hP B1 M h1 => ?_)
  obtain ⟨σ', e1, B, C, h, _⟩ := qy_tr w hP B1 h1
  have h6 : τ'.2 0 6 = lN (qx_P ρ) := B.2.2.2.2.2.1
  have h22 : σ'.2 22 0 = lN (qx_P ρ) := B.2.2.2.2.1.1
  obtain ⟨s1, a1, a2, a3⟩ := qh_start (o := 32) (σ := σ')
  obtain ⟨M1, M2, M3, M4⟩ := qx_M_ok w hP
  obtain ⟨s2, b1, b2⟩ := qh_runsC w hP (sp := sp) hv B.1 C h22 (fun (s23 : qe_S) => qm_b (g_X8_partOf a0 s23) fun b25 s24 => some (b25, s24)) a0 (qx_M ρ) 0 qm_F s1 (by omega) (by rw [qn_F]; omega) (qh_cf_on (by omega) a2) a3
  have m0 : qh_mf τ' (qe_si τ' 0 19 0) := qh_mf_i τ' 0
  obtain ⟨t2, x, y, c1, c2, c3, c4⟩ := qh_runsM w hP (sp := sp) hv B.2.2.1 M h6 (fun (b32 : Int64) (b33 : Int64) (s34 : qe_S) => qm_l (qe_sl s34 0 17 b32) fun s35 => qm_l (qe_sl s35 0 18 b33) fun s36 => if (s36.1 0 19) = (0 : Int32) then some ((1 : Int32), s36) else some ((0 : Int32), s36)) (qx_M ρ) 0 qm_F (qe_si τ' 0 19 0) 0 1 (by omega) (by rw [qn_F]; omega) m0 qn_si_eq (fun _ => ⟨rfl, rfl, by show 0 < (1 : Int64).toInt; decide⟩)
  rw [nI_0] at b2 c4
  have mo : g_X9_meansOf v τ' = if (qe_sl (qe_sl t2 0 17 x) 0 18 y).1 0 19 = 0 then some ((1 : Int32), qe_sl (qe_sl t2 0 17 x) 0 18 y) else some ((0 : Int32), qe_sl (qe_sl t2 0 17 x) 0 18 y) := by
    unfold g_X9_meansOf
    rw [qn_l, qn_l, qn_l, qn_l, qn_l, qh_marksM w (qh_mf_M m0 B.2.2.1), qn_l, c4, qn_l, qn_l]
  have fr : qh_mf τ' (qe_sl (qe_sl t2 0 17 x) 0 18 y) := qh_mf_t c1 (qh_mf_t (qh_mf_l t2 17 x (Or.inl rfl)) (qh_mf_l _ 18 y (Or.inr rfl)))
  have hR3 := qh_keep h b1 fr
  have MM : qh_M (qe_sl (qe_sl t2 0 17 x) 0 18 y) (qh_tot ρ sp (qx_M ρ)) := by
    refine ⟨c2, fun z => ?_⟩
    obtain ⟨z1, z2, z3⟩ := c3 z
    refine ⟨?_, ?_, z3⟩
    · rw [qn_sl_j (by omega), qn_sl_eq]; exact z1
    · rw [qn_sl_eq]; exact z2
  rw [e1, qn_o, a1, qn_o, qn_l, mo]
  generalize qe_sl (qe_sl t2 0 17 x) 0 18 y = t3 at hR3 MM
  have ref : (qm_b (if t3.1 0 19 = 0 then some ((1 : Int32), t3) else some ((0 : Int32), t3)) fun a8 s7 => if a8 = (0 : Int32) then (qm_b (g_X9_noLong (-7 : Int32) s7) fun b10 s9 => some (b10, s9)) else if a0 = (0 : Int32) then (some ((s7.2 0 17), s7)) else some ((s7.2 0 18), s7)) = (if t3.1 0 19 = 0 then (if a0 = 0 then some (t3.2 0 17, t3) else some (t3.2 0 18, t3)) else qm_b (g_X9_noLong (-7) t3) fun b s => some (b, s)) := by
    by_cases z : t3.1 0 19 = 0
    · rw [if_pos z, if_pos z, qn_b, if_neg qn_10]
    · rw [if_neg z, if_neg z, qn_b, if_pos rfl]
  rw [ref]
  rcases b2 with ⟨j1, j2⟩ | ⟨j1, j2⟩
  · rw [j2]
    exact qh_part hR3 j1 MM a0
  · have f2 : t3.1 0 19 = 1 := by rw [MM.1, j1]; rfl
    rw [j2, f2, if_neg qn_10]
    exact qz_ok_noL hR3 (-7)
theorem qh_wrap {α : Type} {C M : Option (α × qe_S)} (h : qz_ok C M) : qz_ok (qm_b C fun b s => some (b, s)) (qm_b M fun b s => some (b, s)) := by
  obtain ⟨r, σ', τ', e1, e2, h'⟩ := h
  exact ⟨r, σ', τ', by rw [e1, qn_b], by rw [e2, qn_b], h'⟩
theorem qz_mean : ql_op_mean qz_R := by
  intro a0 σ τ hR
  exact qh_wrap (qh_over (sp := false) rfl a0 hR)
theorem qz_spread : ql_op_spread qz_R := by
  intro a0 σ τ hR
  exact qh_wrap (qh_over (sp := true) rfl a0 hR)
