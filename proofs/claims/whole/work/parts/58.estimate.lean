/-! ESTIMATE -/
def qh_m (ρ : qr_R) (u : Nat) : Int64 := (qr_m ρ u).toInt64 * (nI (qr_b ρ 0 u)).toInt64
def qh_a (ρ : qr_R) (u : Nat) : Int64 := (nI (qr_a ρ 0 u)).toInt64
def qh_est (ρ : qr_R) (B : Nat) : Nat → Int64 × Int64 × Bool
  | 0 => (0, 1, false)
  | u + 1 => if B.testBit u = true then qh_add (qh_est ρ B u) (qh_r (qh_m ρ u) (qh_a ρ u)).1 (qh_r (qh_m ρ u) (qh_a ρ u)).2 else qh_est ρ B u
theorem qh_a_pos {ρ : qr_R} (w : qr_wf ρ) {u : Nat} (hu : u < qr_N ρ) : 0 < (qh_a ρ u).toInt := by
  have h1 := w.2.2.2.2.2.2.2 u hu
  have h2 := w.2.2.2.2.2.2.1 0 u (by omega) hu
  unfold qh_a
  rw [nI_l (by omega), pk_lT (by omega)]
  omega
theorem qh_add_ov {t : Int64 × Int64 × Bool} {c d : Int64} (h : t.2.2 = true) : (qh_add t c d).2.2 = true := by
  unfold qh_add
  rw [if_pos (by simp [h])]
theorem qh_est_ov {ρ : qr_R} {B u : Nat} (h : (qh_est ρ B u).2.2 = true) : ∀ d, (qh_est ρ B (u + d)).2.2 = true := by
  intro d
  induction d with
  | zero => exact h
  | succ d ih =>
    show (qh_est ρ B (u + d + 1)).2.2 = true
    simp only [qh_est]
    split
    · exact qh_add_ov ih
    · exact ih
def qh_o2 (o : Nat) (σ σ' : qe_S) : Prop := ∀ k, k ≠ o → k ≠ 34 → σ'.1 k = σ.1 k ∧ σ'.2 k = σ.2 k
theorem qh_o2_t {o : Nat} {a b c : qe_S} (h : qh_o2 o a b) (g : qh_o2 o b c) : qh_o2 o a c := fun k p q => ⟨(g k p q).1.trans (h k p q).1, (g k p q).2.trans (h k p q).2⟩
theorem qh_o2_D {o : Nat} {σ σ' : qe_S} {ρ : qr_R} (ho : o = 32 ∨ o = 33) (h : qh_o2 o σ σ') (d : qr_D 1 σ ρ) : qr_D 1 σ' ρ := by
  unfold qr_D
  rw [(h 1 (by omega) (by omega)).1, (h (1 + 1) (by omega) (by omega)).1, (h (1 + 2) (by omega) (by omega)).1, (h (1 + 3) (by omega) (by omega)).1, (h (1 + 5) (by omega) (by omega)).1, (h (1 + 6) (by omega) (by omega)).1]
  exact d
theorem qh_one : qg_d 0 1 = 1 := by
  have h := qg_dN (a := 0) (b := 1) (by omega) (by omega)
  rw [Nat.gcd_zero_left] at h
  exact h
theorem qh_start {o : Nat} {σ : qe_S} : ∃ σ', g_X0_begin o 0 1 σ = some σ' ∧ qh_on o σ σ' ∧ qh_C o σ' (0, 1, false) := by
  refine ⟨_, qg_begin (by decide), qh_on_t (qh_on_t (qh_on_i σ 2 0) (qh_on_l _ 0 _)) (qh_on_l _ 1 _), ?_, fun _ => ⟨?_, ?_, by decide⟩⟩
  · exact qn_si_eq
  · rw [qn_sl_j (by omega), qn_sl_eq, qh_one, qg_div1]
  · rw [qn_sl_eq, qh_one, qg_div1]
theorem qh_estC {ρ : qr_R} (w : qr_wf ρ) {B o : Nat} (hB : B < 4096) (ho : o = 32 ∨ o = 33) {σ : qe_S} (d : qr_D 1 σ ρ) (hC : qh_C o σ (0, 1, false)) : ∃ σ', g_X8_addEstimate o (nI B) σ = some σ' ∧ qh_o2 o σ σ' ∧ qh_C o σ' (qh_est ρ B (qr_N ρ)) := by
  have hN := w.1
  have L : ∀ q u n s, u + q = qr_N ρ → q < n → qh_o2 o σ s → qh_C o s (qh_est ρ B u) → ∃ s', g_X8_addEstimate_L2 o (nI B) n (nI u) s = some s' ∧ qh_o2 o σ s' ∧ qh_C o s' (qh_est ρ B (qr_N ρ)) := by
    intro q
    induction q with
    | zero =>
      intro u n s hu hn hf hc
      obtain ⟨n, rfl⟩ : ∃ m, n = m + 1 := ⟨n - 1, by omega⟩
      obtain rfl : u = qr_N ρ := by omega
      refine ⟨s, ?_, hf, hc⟩
      simp only [g_X8_addEstimate_L2]
      rw [(qh_o2_D ho hf d).1, if_pos (nI_le (by omega) (by omega))]
    | succ q ih =>
      intro u n s hu hn hf hc
      obtain ⟨n, rfl⟩ : ∃ m, n = m + 1 := ⟨n - 1, by omega⟩
      have hu2 : u < qr_N ρ := by omega
      have d' := qh_o2_D ho hf d
      have mk : s.1 3 u = qr_m ρ u := (d'.2.2.2.1 u hu2).2.1
      have hb : g_X3_below (nI u) 0 s = some (nI (qr_b ρ 0 u), s) := qr_below w d' (r := 0) (by omega) hu2
      have ha : g_X3_above (nI u) 0 s = some (nI (qr_a ρ 0 u), s) := qr_above w d' (r := 0) (by omega) hu2
      have ap := qh_a_pos w hu2
      simp only [g_X8_addEstimate_L2, qn_j2, qn_l2]
      rw [d'.1, if_neg (nI_ge hu2 (by omega)), qz_isIn hB (by omega), qn_b, qn_if0, nI_1]
      by_cases c : B.testBit u = true
      · have bg := qg_begin (o := 34) (a := qh_m ρ u) (b := qh_a ρ u) (σ := s) ap
        have bg' : g_X0_begin 34 ((qr_m ρ u).toInt64 * (nI (qr_b ρ 0 u)).toInt64) (nI (qr_a ρ 0 u)).toInt64 s = _ := bg
        generalize hs1 : qe_sl (qe_sl (qe_si s 34 2 0) 34 0 (qh_m ρ u / qg_d (qh_m ρ u) (qh_a ρ u))) 34 1 (qh_a ρ u / qg_d (qh_m ρ u) (qh_a ρ u)) = s1 at bg'
        have f1 : qh_on 34 s s1 := by rw [← hs1]; exact qh_on_t (qh_on_t (qh_on_i s 2 0) (qh_on_l _ 0 _)) (qh_on_l _ 1 _)
        have v0 : s1.2 34 0 = (qh_r (qh_m ρ u) (qh_a ρ u)).1 := by rw [← hs1, qn_sl_j (by omega), qn_sl_eq]; rfl
        have v1 : s1.2 34 1 = (qh_r (qh_m ρ u) (qh_a ρ u)).2 := by rw [← hs1, qn_sl_eq]; rfl
        have c1 : qh_C o s1 (qh_est ρ B u) := by
          unfold qh_C
          rw [(f1 o (by omega)).1, (f1 o (by omega)).2]
          exact hc
        obtain ⟨s2, e1, e2, e3⟩ := qh_addC (c := (qh_r (qh_m ρ u) (qh_a ρ u)).1) (d := (qh_r (qh_m ρ u) (qh_a ρ u)).2) c1 (qh_r_pos ap)
        have es : qh_est ρ B (u + 1) = qh_add (qh_est ρ B u) (qh_r (qh_m ρ u) (qh_a ρ u)).1 (qh_r (qh_m ρ u) (qh_a ρ u)).2 := if_pos c
        rw [if_pos c, qn_g (by omega) (by omega), nI_clamp (by omega), mk, hb, qn_b, ha, qn_b, bg', qn_o, v0, v1, e1, qn_o]
        exact ih (u + 1) n s2 (by omega) (by omega) (qh_o2_t hf (fun k p q => ⟨((e2 k p).1).trans (f1 k q).1, ((e2 k p).2).trans (f1 k q).2⟩)) (by rw [es]; exact e3)
      · have es : qh_est ρ B (u + 1) = qh_est ρ B u := if_neg c
        rw [if_neg c]
        exact ih (u + 1) n s (by omega) (by omega) hf (by rw [es]; exact hc)
  have h := L (qr_N ρ) 0 qm_F σ (by omega) (by rw [qn_F]; omega) (fun _ _ _ => ⟨rfl, rfl⟩) hC
  rw [nI_0] at h
  unfold g_X8_addEstimate
  rw [qn_l]
  exact h
theorem qh_mf_M {τ τ' : qe_S} {ρ : qr_R} (h : qh_mf τ τ') (m : qr_M 1 τ ρ) : qr_M 1 τ' ρ := by
  unfold qr_M
  rw [(h.1 1 (by omega)).1]
  exact m
theorem qh_estM {ρ : qr_R} (w : qr_wf ρ) {B : Nat} (hB : B < 4096) {τ : qe_S} (m : qr_M 1 τ ρ) (h0 : τ.1 0 19 = 0) : ∃ τ', g_X9_estimates (nI B) τ = some τ' ∧ qh_mf τ τ' ∧ qh_M τ' (qh_est ρ B (qr_N ρ)) := by
  have hN := w.1
  have L : ∀ q u n s, u + q = qr_N ρ → q < n → qh_mf τ s → qh_M s (qh_est ρ B u) → ∃ s', g_X9_estimates_L12 (nI B) n (nI u) s = some s' ∧ qh_mf τ s' ∧ qh_M s' (qh_est ρ B (qr_N ρ)) := by
    intro q
    induction q with
    | zero =>
      intro u n s hu hn hf hc
      obtain ⟨n, rfl⟩ : ∃ m, n = m + 1 := ⟨n - 1, by omega⟩
      obtain rfl : u = qr_N ρ := by omega
      refine ⟨s, ?_, hf, hc⟩
      simp only [g_X9_estimates_L12]
      rw [qn_g0 (by omega) (by omega), qn_l, qr_clamp0, (qh_mf_M hf m).1, if_pos (nI_le (by omega) (by omega))]
    | succ q ih =>
      intro u n s hu hn hf hc
      obtain ⟨n, rfl⟩ : ∃ m, n = m + 1 := ⟨n - 1, by omega⟩
      have hu2 : u < qr_N ρ := by omega
      have m' := qh_mf_M hf m
      have ap := qh_a_pos w hu2
      cases hov : (qh_est ρ B u).2.2 with
      | true =>
        have fl : s.1 0 19 = 1 := by rw [hc.1, hov]; rfl
        have ov := qh_est_ov hov (q + 1)
        rw [show u + (q + 1) = qr_N ρ by omega] at ov
        refine ⟨s, ?_, hf, by rw [ov]; exact fl, fun z => by rw [ov] at z; cases z⟩
        simp only [g_X9_estimates_L12]
        rw [qn_g0 (by omega) (by omega), qn_l, qr_clamp0, m'.1, if_neg (nI_ge hu2 (by omega)), fl, if_neg qn_10]
      | false =>
        have fl : s.1 0 19 = 0 := by rw [hc.1, hov]; rfl
        obtain ⟨x1, x2, x3⟩ := hc.2 hov
        have mk := (m'.2.2.1 u hu2).2.2.1
        have oo := m'.2.2.2 0 u (by omega) hu2
        rw [show 50 + (12 * 0 + u) = 50 + u by omega, show 86 + (12 * 0 + u) = 86 + u by omega] at oo
        simp only [g_X9_estimates_L12, qn_j2, qn_l2, qr_clamp0]
        rw [qn_g0 (by omega) (by omega), m'.1, if_neg (nI_ge hu2 (by omega)), fl, if_pos rfl, qz_has9 hB (by omega), qn_b, qn_if0, nI_1]
        by_cases c : B.testBit u = true
        · have es : qh_est ρ B (u + 1) = qh_add (qh_est ρ B u) (qh_r (qh_m ρ u) (qh_a ρ u)).1 (qh_r (qh_m ρ u) (qh_a ρ u)).2 := if_pos c
          obtain ⟨s2, e1, e2, e3⟩ := qh_addM (a := (qh_est ρ B u).1) (b := (qh_est ρ B u).2.1) (c := (qh_r (qh_m ρ u) (qh_a ρ u)).1) (d := (qh_r (qh_m ρ u) (qh_a ρ u)).2) (ov := false) (τ := s) fl (fun _ => ⟨x3, qh_r_pos ap⟩)
          have est : ((qh_est ρ B u).1, (qh_est ρ B u).2.1, false) = qh_est ρ B u := by rw [← hov]
          rw [est, ← es] at e3
          have l1 : g_X9_lowest ((qr_m ρ u).toInt64 * (nI (qr_b ρ 0 u)).toInt64) (nI (qr_a ρ 0 u)).toInt64 0 s = some ((qh_r (qh_m ρ u) (qh_a ρ u)).1, s) := qg_lowM (v := 0) ap
          have l2 : g_X9_lowest ((qr_m ρ u).toInt64 * (nI (qr_b ρ 0 u)).toInt64) (nI (qr_a ρ 0 u)).toInt64 1 s = some ((qh_r (qh_m ρ u) (qh_a ρ u)).2, s) := qg_lowM (v := 1) ap
          rw [if_pos c, nI_add, nI_add, nI_add, qn_g (by omega) (by omega), qn_g (by omega) (by omega), qn_g (by omega) (by omega), nI_clamp (by omega), nI_clamp (by omega), nI_clamp (by omega), mk, oo.1, oo.2, l1, qn_b, l2, qn_b, x1, x2, e1, qn_o]
          exact ih (u + 1) n s2 (by omega) (by omega) (qh_mf_t hf e2) e3
        · have es : qh_est ρ B (u + 1) = qh_est ρ B u := if_neg c
          rw [if_neg c]
          exact ih (u + 1) n s (by omega) (by omega) hf (by rw [es]; exact hc)
  have i0 : qh_mf τ (qe_sl (qe_sl τ 0 17 0) 0 18 1) := qh_mf_t (qh_mf_l τ 17 0 (Or.inl rfl)) (qh_mf_l _ 18 1 (Or.inr rfl))
  have h := L (qr_N ρ) 0 qm_F (qe_sl (qe_sl τ 0 17 0) 0 18 1) (by omega) (by rw [qn_F]; omega) i0 ⟨h0, fun _ => ⟨by rw [qn_sl_j (by omega), qn_sl_eq]; rfl, by rw [qn_sl_eq]; rfl, by show 0 < (1 : Int64).toInt; decide⟩⟩
  rw [nI_0] at h
  unfold g_X9_estimates
  rw [qn_l, qn_l, qn_l]
  exact h
theorem qh_keep {σ σ' τ τ' : qe_S} (hR : qz_R σ τ) (h : ∀ k, (k < 32 ∨ 34 < k) → σ'.1 k = σ.1 k ∧ σ'.2 k = σ.2 k) (g : qh_mf τ τ') : qz_R σ' τ' :=
  qz_keep hR (qg_c34 (fun k hk => (h k hk).1) (fun k hk => (h k hk).2)) ⟨g.2.1 3 (by omega), g.2.1 21 (by omega), (g.1 1 (by omega)).1, (g.1 2 (by omega)).1, (g.1 15 (by omega)).1, (g.1 17 (by omega)).1, (g.1 18 (by omega)).2⟩ (qz_W_of hR.2.2.1 (h 40 (by omega)).1 (g.1 4 (by omega)).1)
theorem qh_part {σ τ : qe_S} (hR : qz_R σ τ) {t : Int64 × Int64 × Bool} (hC : qh_C 32 σ t) (hM : qh_M τ t) (v : Int32) : qz_ok (qm_b (g_X8_partOf v σ) fun b s => some (b, s)) (if τ.1 0 19 = 0 then (if v = 0 then some (τ.2 0 17, τ) else some (τ.2 0 18, τ)) else qm_b (g_X9_noLong (-7) τ) fun b s => some (b, s)) := by
  unfold g_X8_partOf
  cases ht : t.2.2 with
  | true =>
    have f1 : σ.1 32 2 = 1 := by rw [hC.1, ht]; rfl
    have f2 : τ.1 0 19 = 1 := by rw [hM.1, ht]; rfl
    obtain ⟨σ', τ', e1, e2, h'⟩ := qz_noL hR (-7)
    rw [f1, f2, if_neg qn_10, if_neg qn_10]
    exact ⟨_, σ', τ', by rw [e1, qn_b, qn_b], by rw [e2, qn_b], h'⟩
  | false =>
    have f1 : σ.1 32 2 = 0 := by rw [hC.1, ht]; rfl
    have f2 : τ.1 0 19 = 0 := by rw [hM.1, ht]; rfl
    obtain ⟨x1, x2, x3⟩ := hC.2 ht
    obtain ⟨y1, y2, y3⟩ := hM.2 ht
    rw [f1, f2, if_pos rfl, if_pos rfl, x1, x2, y1, y2]
    by_cases c : v = 0
    · rw [if_pos c, if_pos c, qn_b]
      exact qz_ok_some hR
    · rw [if_neg c, if_neg c, qn_b]
      exact qz_ok_some hR
theorem qh_on_C {o : Nat} {σ σ' : qe_S} {ρ : qr_R} {r P b : Nat} (ho : 24 < o) (h : qh_on o σ σ') (c : qw_C 22 σ ρ r P b) : qw_C 22 σ' ρ r P b := by
  unfold qw_C qw_V
  rw [(h 22 (by omega)).2, (h (22 + 1) (by omega)).2, (h (22 + 2) (by omega)).2]
  exact c
theorem qh_on_D {o : Nat} {σ σ' : qe_S} {ρ : qr_R} (ho : 7 < o) (h : qh_on o σ σ') (d : qr_D 1 σ ρ) : qr_D 1 σ' ρ := by
  unfold qr_D
  rw [(h 1 (by omega)).1, (h (1 + 1) (by omega)).1, (h (1 + 2) (by omega)).1, (h (1 + 3) (by omega)).1, (h (1 + 5) (by omega)).1, (h (1 + 6) (by omega)).1]
  exact d
theorem qz_estimate : ql_op_estimate qz_R := by
  intro a0 a1 σ τ hR
  have hR0 := hR
  obtain ⟨⟨ρ, w, d, o, m⟩, hI, hW, hT, hL⟩ := hR
  have hN := w.1
  have Pb := qw_P_lt ρ 0
  show qz_ok (g_X8_estimate a0 a1 σ) (g_X9_estimate a0 a1 τ)
  unfold g_X8_estimate g_X9_estimate
  refine qz_gPart (qz_ok_noL hR0 (-2)) (fun _ => ?_)
  refine qw_gLay hR0 w d o m (fun τ' h => qz_ok_noL h (-7)) (fun σ' τ' hP B h => ?_)
  refine qw_gPlace B.2.2.2.2.1.1 B.2.2.2.2.2.1 Pb (qz_ok_noL h (-2)) ?_
  rintro s hs rfl
  have bb := qf_12 (qw_ch_lt ρ 0 (qw_P ρ 0) (qw_E ρ) s) hN
  obtain ⟨σ1, a1, a2, a3⟩ := qh_start (o := 32) (σ := σ')
  have hC1 := qh_on_C (by omega) a2 B.2.2.2.2.1
  have ch1 := qw_chC w (r := 0) (P := qw_P ρ 0) (b := qw_E ρ) (k := 22) (s := s) (by omega) (Nat.pos_of_ne_zero hP) Pb (qw_E_lt2 ρ) hC1 (by omega)
  obtain ⟨σ2, b1, b2, b3⟩ := qh_estC w bb (Or.inl rfl) (qh_on_D (by omega) a2 B.1) a3
  have m0 : qh_mf τ' (qe_si τ' 0 19 0) := qh_mf_i τ' 0
  have h6 : (qe_si τ' 0 19 0).2 0 6 = lN (qw_P ρ 0) := B.2.2.2.2.2.1
  have ch2 := qw_chM w (r := 0) (P := qw_P ρ 0) (b := qw_E ρ) (s := s) (τ := qe_si τ' 0 19 0) (by omega) (Nat.pos_of_ne_zero hP) Pb (qh_mf_M m0 B.2.2.1) h6 B.2.2.2.2.2.2.2 (by omega)
  obtain ⟨τ2, c1, c2, c3⟩ := qh_estM w bb (τ := qe_si τ' 0 19 0) (qh_mf_M m0 B.2.2.1) qn_si_eq
  rw [nI_l (by omega), a1, qn_o, ch1, qn_b, b1, qn_o, qn_l, ch2, qn_b, c1, qn_o]
  exact qh_part (qh_keep h (fun k hk => ⟨((b2 k (by omega) (by omega)).1).trans (a2 k (by omega)).1, ((b2 k (by omega) (by omega)).2).trans (a2 k (by omega)).2⟩) (qh_mf_t m0 c2)) b3 c3 _
