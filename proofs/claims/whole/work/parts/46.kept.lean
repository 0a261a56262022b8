/-! KEPT, OVERLAP: how many places two arcs have in common -/
theorem qv_min (x y : Int64) : ∃ z : Int64, z.toInt = min x.toInt y.toInt ∧ ∀ s, g_J9_min_f86c9 x y s = some (z, s) := by
  by_cases c : y < x
  · have c' := Int64.lt_iff_toInt_lt.mp c
    exact ⟨y, by omega, fun s => by unfold g_J9_min_f86c9; rw [if_pos c]⟩
  · have c' : ¬ y.toInt < x.toInt := fun z => c (Int64.lt_iff_toInt_lt.mpr z)
    exact ⟨x, by omega, fun s => by unfold g_J9_min_f86c9; rw [if_neg c]⟩
theorem qv_max (x y : Int64) : ∃ z : Int64, z.toInt = max x.toInt y.toInt ∧ ∀ s, g_J9_max_f86c9 x y s = some (z, s) := by
  by_cases c : x < y
  · have c' := Int64.lt_iff_toInt_lt.mp c
    exact ⟨y, by omega, fun s => by unfold g_J9_max_f86c9; rw [if_pos c]⟩
  · have c' : ¬ x.toInt < y.toInt := fun z => c (Int64.lt_iff_toInt_lt.mpr z)
    exact ⟨x, by omega, fun s => by unfold g_J9_max_f86c9; rw [if_neg c]⟩
def qv_t (a la : Nat) (c : Int) (lb : Nat) : Nat := (min ((a : Int) + la) (c + lb) - max (a : Int) c).toNat
def qv_m (a la b lb P : Nat) : Nat := qv_t a la ((b : Int) - P) lb + qv_t a la b lb + qv_t a la ((b : Int) + P) lb
theorem qv_t_le (a la : Nat) (c : Int) (lb : Nat) : qv_t a la c lb ≤ la := by
  unfold qv_t
  omega
theorem qv_m_le (a la b lb P : Nat) : qv_m a la b lb P ≤ 3 * la := by
  have h1 := qv_t_le a la ((b : Int) - P) lb
  have h2 := qv_t_le a la (b : Int) lb
  have h3 := qv_t_le a la ((b : Int) + P) lb
  unfold qv_m
  omega
theorem qg_add {x y : Int64} (h1 : -9223372036854775808 ≤ x.toInt + y.toInt) (h2 : x.toInt + y.toInt < 9223372036854775808) : (x + y).toInt = x.toInt + y.toInt := by
  rw [Int64.toInt_add]
  exact qg_bm h1 h2
theorem qg_subI {x y : Int64} (h1 : -9223372036854775808 ≤ x.toInt - y.toInt) (h2 : x.toInt - y.toInt < 9223372036854775808) : (x - y).toInt = x.toInt - y.toInt := by
  rw [Int64.toInt_sub]
  exact qg_bm h1 h2
theorem qg_mul {x y : Int64} (h1 : -9223372036854775808 ≤ x.toInt * y.toInt) (h2 : x.toInt * y.toInt < 9223372036854775808) : (x * y).toInt = x.toInt * y.toInt := by
  rw [Int64.toInt_mul]
  exact qg_bm h1 h2
theorem qv_turn {α : Type} {a la lb : Nat} {x : Int64} (ha : a < 2 ^ 40) (hla : la < 2 ^ 40) (hlb : lb < 2 ^ 40) (hx1 : -1099511627776 ≤ x.toInt) (hx2 : x.toInt < 1099511627776) (K : Int64 → qe_S → Option α) (s : qe_S) : (qm_b (g_J9_min_f86c9 (lN a + lN la) (x + lN lb) s) fun b5 s4 => qm_b (g_J9_max_f86c9 (lN a) x s4) fun b7 s6 => qm_b (g_J9_max_f86c9 0 (b5 - b7) s6) fun b10 s9 => K b10 s9) = K (lN (qv_t a la x.toInt lb)) s := by
  have ta : (lN a).toInt = (a : Int) := pk_lT (by omega)
  have tla : (lN la).toInt = (la : Int) := pk_lT (by omega)
  have tlb : (lN lb).toInt = (lb : Int) := pk_lT (by omega)
  have t1 : (lN a + lN la).toInt = (a : Int) + la := by rw [qg_add (by omega) (by omega)]; omega
  have t2 : (x + lN lb).toInt = x.toInt + lb := by rw [qg_add (by omega) (by omega)]; omega
  obtain ⟨z1, p1, q1⟩ := qv_min (lN a + lN la) (x + lN lb)
  obtain ⟨z2, p2, q2⟩ := qv_max (lN a) x
  have t3 : (z1 - z2).toInt = z1.toInt - z2.toInt := qg_subI (by omega) (by omega)
  obtain ⟨z3, p3, q3⟩ := qv_max 0 (z1 - z2)
  rw [Int64.toInt_zero] at p3
  rw [q1, qn_b, q2, qn_b, q3, qn_b]
  have e : z3 = lN (qv_t a la x.toInt lb) := by
    apply Int64.toInt_inj.mp
    have b := qv_t_le a la x.toInt lb
    rw [pk_lT (by omega)]
    unfold qv_t
    omega
  rw [e]
theorem qv_mL {a la b lb P S n : Nat} {v : Int32} {x : Int64} {s : qe_S} (ha : a < 2 ^ 40) (hla : la < 2 ^ 40) (hlb : lb < 2 ^ 40) (hv : ¬ 1 < v) (hx : lN b + v.toInt64 * lN P = x) (hx1 : -1099511627776 ≤ x.toInt) (hx2 : x.toInt < 1099511627776) : g_X8_meeting_L6 (lN a) (lN la) (lN b) (lN lb) (lN P) (n + 1) (lN S) v s = g_X8_meeting_L6 (lN a) (lN la) (lN b) (lN lb) (lN P) n (lN (S + qv_t a la x.toInt lb)) (v + 1) s := by
  simp only [g_X8_meeting_L6, qn_l]
  rw [if_neg hv, hx, qv_turn ha hla hlb hx1 hx2, lN_add]
theorem qv_oL {a la b lb P S n : Nat} {x : Int64} {s : qe_S} (ha : a < 2 ^ 40) (hla : la < 2 ^ 40) (hlb : lb < 2 ^ 40) (hv : ¬ lN b + lN P < x) (hx1 : -1099511627776 ≤ x.toInt) (hx2 : x.toInt < 1099511627776) : g_X9_overlaps_L10 (lN a) (lN la) (lN b) (lN lb) (lN P) (n + 1) (lN S) x s = g_X9_overlaps_L10 (lN a) (lN la) (lN b) (lN lb) (lN P) n (lN (S + qv_t a la x.toInt lb)) (x + lN P) s := by
  simp only [g_X9_overlaps_L10, qn_l]
  rw [if_neg hv, qv_turn ha hla hlb hx1 hx2, lN_add]
theorem qv_meet {a la b lb P : Nat} {s : qe_S} (ha : a < 2 ^ 32) (hla : la < 2 ^ 32) (hb : b < 2 ^ 32) (hlb : lb < 2 ^ 32) (hP : P < 2 ^ 32) : g_X8_meeting (lN a) (lN la) (lN b) (lN lb) (lN P) s = some (lN (qv_m a la b lb P), s) := by
  obtain ⟨F, hF⟩ : ∃ F, qm_F = F + 1 + 1 + 1 + 1 := ⟨4996, qn_F⟩
  have tb : (lN b).toInt = (b : Int) := pk_lT (by omega)
  have tP : (lN P).toInt = (P : Int) := pk_lT (by omega)
  have m1 : ((-1 : Int32).toInt64 * lN P).toInt = -(P : Int) := by
    rw [qg_mul (by rw [tP, show ((-1 : Int32).toInt64).toInt = -1 by decide]; omega) (by rw [tP, show ((-1 : Int32).toInt64).toInt = -1 by decide]; omega), tP, show ((-1 : Int32).toInt64).toInt = -1 by decide]
    omega
  have x1 : (lN b + (-1 : Int32).toInt64 * lN P).toInt = (b : Int) - P := by
    rw [qg_add (by omega) (by omega)]; omega
  have x2 : (lN b + ((-1 : Int32) + 1).toInt64 * lN P).toInt = (b : Int) := by
    rw [show ((-1 : Int32) + 1).toInt64 = lN 0 by decide, lN_mul, lN_add, Nat.zero_mul]
    exact tb
  have x3 : (lN b + ((-1 : Int32) + 1 + 1).toInt64 * lN P).toInt = (b : Int) + P := by
    rw [show ((-1 : Int32) + 1 + 1).toInt64 = lN 1 by decide, lN_mul, lN_add, Nat.one_mul, pk_lT (by omega)]
    omega
  unfold g_X8_meeting
  rw [qn_l, qn_l, hF, show (0 : Int64) = lN 0 from rfl]
  rw [qv_mL (by omega) (by omega) (by omega) (by decide) rfl (by omega) (by omega), qv_mL (by omega) (by omega) (by omega) (by decide) rfl (by omega) (by omega), qv_mL (by omega) (by omega) (by omega) (by decide) rfl (by omega) (by omega), x1, x2, x3]
  simp only [g_X8_meeting_L6]
  rw [if_pos (by decide), Nat.zero_add]
  rfl
theorem qv_over {a la b lb P : Nat} {s : qe_S} (ha : a < 2 ^ 32) (hla : la < 2 ^ 32) (hb : b < 2 ^ 32) (hlb : lb < 2 ^ 32) (h0 : 0 < P) (hP : P < 2 ^ 32) : g_X9_overlaps (lN a) (lN la) (lN b) (lN lb) (lN P) s = some (lN (qv_m a la b lb P), s) := by
  obtain ⟨F, hF⟩ : ∃ F, qm_F = F + 1 + 1 + 1 + 1 := ⟨4996, qn_F⟩
  have tP : (lN P).toInt = (P : Int) := pk_lT (by omega)
  have x1 : (lN b - lN P).toInt = (b : Int) - P := qg_sub (by omega) (by omega)
  have x2 : (lN b - lN P + lN P).toInt = (b : Int) := by rw [qg_add (by omega) (by omega)]; omega
  have x3 : (lN b - lN P + lN P + lN P).toInt = (b : Int) + P := by rw [qg_add (by omega) (by omega)]; omega
  have x4 : (lN b - lN P + lN P + lN P + lN P).toInt = (b : Int) + P + P := by rw [qg_add (by omega) (by omega)]; omega
  have tt : (lN b + lN P).toInt = (b : Int) + P := by rw [lN_add, pk_lT (by omega)]; omega
  have n1 : ¬ lN b + lN P < lN b - lN P := fun z => by have := Int64.lt_iff_toInt_lt.mp z; omega
  have n2 : ¬ lN b + lN P < lN b - lN P + lN P := fun z => by have := Int64.lt_iff_toInt_lt.mp z; omega
  have n3 : ¬ lN b + lN P < lN b - lN P + lN P + lN P := fun z => by have := Int64.lt_iff_toInt_lt.mp z; omega
  have n4 : lN b + lN P < lN b - lN P + lN P + lN P + lN P := Int64.lt_iff_toInt_lt.mpr (by omega)
  unfold g_X9_overlaps
  rw [qn_l, qn_l, hF, show (0 : Int64) = lN 0 from rfl]
  rw [qv_oL (by omega) (by omega) (by omega) n1 (by omega) (by omega), qv_oL (by omega) (by omega) (by omega) n2 (by omega) (by omega), qv_oL (by omega) (by omega) (by omega) n3 (by omega) (by omega), x1, x2, x3]
  simp only [g_X9_overlaps_L10]
  rw [if_pos n4, Nat.zero_add]
  rfl
-- both wheels
def qw_B2 (ρ : qr_R) (σ τ : qe_S) : Prop := qr_D 1 σ ρ ∧ qr_M 1 τ ρ ∧ qw_C 22 σ ρ 0 (qw_P ρ 2) (qw_E ρ) ∧ qw_C 25 σ ρ 2 (qw_P ρ 2) (qw_E ρ) ∧ τ.2 0 6 = lN (qw_P ρ 2) ∧ (∀ u, u < qr_N ρ → qw_V 6 7 τ ρ 0 (qw_P ρ 2) (qw_E ρ) u) ∧ (∀ u, u < qr_N ρ → qw_V 8 9 τ ρ 2 (qw_P ρ 2) (qw_E ρ) u)
theorem qw_C_cf {σ σ' : qe_S} {ρ : qr_R} {r P b : Nat} (h : qw_cf 25 σ σ') (c : qw_C 22 σ ρ r P b) : qw_C 22 σ' ρ r P b := by
  unfold qw_C qw_V
  rw [h.2 22 (by omega), h.2 (22 + 1) (by omega), h.2 (22 + 2) (by omega)]
  exact c
theorem qw_gBoth {α : Type} {σ τ : qe_S} {ρ : qr_R} (hR : qz_R σ τ) (w : qr_wf ρ) (d : qr_D 1 σ ρ) (o : qr_O 1 σ ρ) (m : qr_M 1 τ ρ) {A B A' B' : qe_S → Option (α × qe_S)} (h0 : ∀ τ', qz_R σ τ' → qz_ok (A σ) (A' τ')) (h1 : ∀ σ' τ', qw_P ρ 2 ≠ 0 → qw_B2 ρ σ' τ' → qz_R σ' τ' → qz_ok (B σ') (B' τ')) : qz_ok (qm_b (g_X8_layBothTimes σ) fun a s => if a = 0 then A s else B s) (qm_b (g_X9_lays (nI 2) τ) fun a s => if a = 0 then A' s else B' s) := by
  have Pb := qw_P_lt ρ 2
  obtain ⟨τ', e1, e2, e3⟩ := qw_lays w m (r := 2) (by omega)
  have hR2 := qw_keepM hR e2
  unfold g_X8_layBothTimes
  rw [e1, qw_places w d (r := 2) (by omega), qn_b, qn_b]
  by_cases c : qw_P ρ 2 = 0
  · rw [if_neg (fun z => (qw_1le (by omega)).mp z c), qn_b, if_pos rfl, if_pos c, if_pos rfl]
    exact h0 τ' hR2
  · obtain ⟨σ', g1, g2, g3⟩ := qw_lay w (r := 0) (P := qw_P ρ 2) (b := qw_E ρ) (k := 22) (by omega) (by omega) Pb (qw_E_lt2 ρ) d o
    have g1' : g_X7_lay 22 0 (lN (qw_P ρ 2)) (nI (qw_E ρ)) σ = some σ' := g1
    have d1 := qw_D1 g2.1 d
    have o1 := qw_O1 g2.1 o
    obtain ⟨σ2, k1, k2, k3⟩ := qw_lay w (r := 2) (P := qw_P ρ 2) (b := qw_E ρ) (k := 25) (by omega) (by omega) Pb (qw_E_lt2 ρ) d1 o1
    obtain ⟨x1, x2, x3, x4, x5, x6⟩ := e3 c
    rw [if_pos ((qw_1le (by omega)).mpr c), qw_evC w d, qn_b, g1', qn_o, qw_evC w d1, qn_b, k1, qn_o, qn_b, if_neg qn_10, if_neg c, if_neg qn_10]
    exact h1 σ2 τ' c ⟨qw_D1 k2.1 d1, x1, qw_C_cf k2 g3, k3, x3, x5, x6 rfl⟩ (qw_keepC (qw_keepC hR2 (Or.inl rfl) g2) (Or.inr rfl) k2)
def qk_u (ρ : qr_R) (s u : Nat) : Nat := qv_m (qw_f ρ 0 (qw_P ρ 2) (qw_E ρ) u) (qw_l ρ 0 (qw_P ρ 2) (qw_E ρ) u) ((qw_f ρ 2 (qw_P ρ 2) (qw_E ρ) u + s) % qw_P ρ 2) (qw_l ρ 2 (qw_P ρ 2) (qw_E ρ) u) (qw_P ρ 2)
def qk_a (ρ : qr_R) (s : Nat) : Nat := qp_S (qk_u ρ s) (qr_N ρ)
theorem qk_u_le {ρ : qr_R} (w : qr_wf ρ) {s u : Nat} (hu : u < qr_N ρ) : qk_u ρ s u < 2 ^ 34 := by
  have Pb := qw_P_lt ρ 2
  have h := qv_m_le (qw_f ρ 0 (qw_P ρ 2) (qw_E ρ) u) (qw_l ρ 0 (qw_P ρ 2) (qw_E ρ) u) ((qw_f ρ 2 (qw_P ρ 2) (qw_E ρ) u + s) % qw_P ρ 2) (qw_l ρ 2 (qw_P ρ 2) (qw_E ρ) u) (qw_P ρ 2)
  have h2 := qw_l_le w (r := 0) (qw_P ρ 2) (qw_E ρ) (by omega) hu
  unfold qk_u
  omega
theorem qk_a_le {ρ : qr_R} (w : qr_wf ρ) {s : Nat} : qk_a ρ s < 2 ^ 40 := by
  have hN := w.1
  have h := qp_bound (f := qk_u ρ s) (c := 2 ^ 34) (n := qr_N ρ) (fun i hi => Nat.le_of_lt (qk_u_le w hi))
  have h2 : qr_N ρ * 2 ^ 34 ≤ 12 * 2 ^ 34 := Nat.mul_le_mul_right _ hN
  unfold qk_a
  omega
theorem qk_C {σ τ : qe_S} {ρ : qr_R} (w : qr_wf ρ) (hP : qw_P ρ 2 ≠ 0) (B : qw_B2 ρ σ τ) {s u : Nat} (hs : s < 2 ^ 33) (hu : u < qr_N ρ) : g_X8_keptBy (nI u) (lN s) σ = some (lN (qk_u ρ s u), σ) := by
  have hN := w.1
  have Pb := qw_P_lt ρ 2
  obtain ⟨d, m, c1, c2, h6, v1, v2⟩ := B
  have a1 := c1.2 u (by omega)
  have a2 := c2.2 u (by omega)
  have f0 := qw_f_lt (ρ := ρ) (r := 0) (b := qw_E ρ) (u := u) (show 0 < qw_P ρ 2 by omega)
  have f2 := qw_f_lt (ρ := ρ) (r := 2) (b := qw_E ρ) (u := u) (show 0 < qw_P ρ 2 by omega)
  have l0 := qw_l_le w (r := 0) (qw_P ρ 2) (qw_E ρ) (by omega) hu
  have l2 := qw_l_le w (r := 2) (qw_P ρ 2) (qw_E ρ) (by omega) hu
  have ml := Nat.mod_lt (qw_f ρ 2 (qw_P ρ 2) (qw_E ρ) u + s) (show 0 < qw_P ρ 2 by omega)
  have e23 : σ.2 23 u = lN (qw_f ρ 0 (qw_P ρ 2) (qw_E ρ) u) := a1.1
  have e24 : σ.2 24 u = lN (qw_l ρ 0 (qw_P ρ 2) (qw_E ρ) u) := a1.2
  have e26 : σ.2 26 u = lN (qw_f ρ 2 (qw_P ρ 2) (qw_E ρ) u) := a2.1
  have e27 : σ.2 27 u = lN (qw_l ρ 2 (qw_P ρ 2) (qw_E ρ) u) := a2.2
  unfold g_X8_keptBy
  simp only [qn_l]
  rw [c1.1, if_pos ((qw_1le (by omega)).mpr hP), qn_g (by omega) (by omega), nI_clamp (by omega), e26, e23, e24, e27, qn_zl (qw_lz (by omega) (by omega)), qn_g (by omega) (by omega), qn_g (by omega) (by omega), qn_g (by omega) (by omega), lN_add, qw_lr (by omega) (by omega) (by omega), qv_meet (by omega) (by omega) (by omega) (by omega) (by omega), qn_b]
  rfl
theorem qk_M {σ τ : qe_S} {ρ : qr_R} (w : qr_wf ρ) (hP : qw_P ρ 2 ≠ 0) (B : qw_B2 ρ σ τ) {s u : Nat} (hs : s < 2 ^ 33) (hu : u < qr_N ρ) : g_X9_keptOf (nI u) (lN s) τ = some (lN (qk_u ρ s u), τ) := by
  have hN := w.1
  have Pb := qw_P_lt ρ 2
  obtain ⟨d, m, c1, c2, h6, v1, v2⟩ := B
  have a1 := v1 u hu
  have a2 := v2 u hu
  have f0 := qw_f_lt (ρ := ρ) (r := 0) (b := qw_E ρ) (u := u) (show 0 < qw_P ρ 2 by omega)
  have f2 := qw_f_lt (ρ := ρ) (r := 2) (b := qw_E ρ) (u := u) (show 0 < qw_P ρ 2 by omega)
  have l0 := qw_l_le w (r := 0) (qw_P ρ 2) (qw_E ρ) (by omega) hu
  have l2 := qw_l_le w (r := 2) (qw_P ρ 2) (qw_E ρ) (by omega) hu
  have ml := Nat.mod_lt (qw_f ρ 2 (qw_P ρ 2) (qw_E ρ) u + s) (show 0 < qw_P ρ 2 by omega)
  unfold g_X9_keptOf
  simp only [qn_l]
  rw [qn_g (by omega) (by omega), qn_g (by omega) (by omega), qn_g (by omega) (by omega), h6, qn_zl (qw_lz (by omega) (by omega)), qn_g (by omega) (by omega), nI_clamp (by omega), a1.1, a1.2, a2.1, a2.2, lN_add, qw_lr (by omega) (by omega) (by omega), qv_over (by omega) (by omega) (by omega) (by omega) (by omega) (by omega), qn_b]
  rfl
theorem qk_aC {σ τ : qe_S} {ρ : qr_R} (w : qr_wf ρ) (hP : qw_P ρ 2 ≠ 0) (B : qw_B2 ρ σ τ) {s : Nat} (hs : s < 2 ^ 33) : g_X8_allKeptBy (lN s) σ = some (lN (qk_a ρ s), σ) := by
  have hN := w.1
  have L : ∀ k i n, i + k = qr_N ρ → k < n → g_X8_allKeptBy_L5 (lN s) n (lN (qp_S (qk_u ρ s) i)) (nI i) σ = some (lN (qk_a ρ s), σ) := by
    intro k
    induction k with
    | zero =>
      intro i n hi hn
      obtain ⟨q, rfl⟩ : ∃ q, n = q + 1 := ⟨n - 1, by omega⟩
      obtain rfl : i = qr_N ρ := by omega
      simp only [g_X8_allKeptBy_L5]
      rw [B.1.1, if_pos (nI_le (by omega) (by omega))]
      rfl
    | succ k ih =>
      intro i n hi hn
      obtain ⟨q, rfl⟩ : ∃ q, n = q + 1 := ⟨n - 1, by omega⟩
      simp only [g_X8_allKeptBy_L5]
      rw [B.1.1, if_neg (nI_ge (show i < qr_N ρ by omega) (by omega)), qk_C w hP B hs (by omega), qn_b, qn_l, qn_l, nI_1, lN_add]
      exact ih (i + 1) q (by omega) (by omega)
  have h := L (qr_N ρ) 0 qm_F (by omega) (by rw [qn_F]; omega)
  unfold g_X8_allKeptBy
  rw [qn_l, qn_l]
  exact h
theorem qk_aM {σ τ : qe_S} {ρ : qr_R} (w : qr_wf ρ) (hP : qw_P ρ 2 ≠ 0) (B : qw_B2 ρ σ τ) {s : Nat} (hs : s < 2 ^ 33) : g_X9_overlapOf (lN s) τ = some (lN (qk_a ρ s), τ) := by
  have hN := w.1
  have L : ∀ k i n, i + k = qr_N ρ → k < n → g_X9_overlapOf_L5 (lN s) n (lN (qp_S (qk_u ρ s) i)) (nI i) τ = some (lN (qk_a ρ s), τ) := by
    intro k
    induction k with
    | zero =>
      intro i n hi hn
      obtain ⟨q, rfl⟩ : ∃ q, n = q + 1 := ⟨n - 1, by omega⟩
      obtain rfl : i = qr_N ρ := by omega
      simp only [g_X9_overlapOf_L5]
      rw [qn_g0 (by omega) (by omega), qn_l, qr_clamp0, B.2.1.1, if_pos (nI_le (by omega) (by omega))]
      rfl
    | succ k ih =>
      intro i n hi hn
      obtain ⟨q, rfl⟩ : ∃ q, n = q + 1 := ⟨n - 1, by omega⟩
      simp only [g_X9_overlapOf_L5]
      rw [qn_g0 (by omega) (by omega), qn_l, qr_clamp0, B.2.1.1, if_neg (nI_ge (show i < qr_N ρ by omega) (by omega)), qk_M w hP B hs (by omega), qn_b, qn_l, qn_l, nI_1, lN_add]
      exact ih (i + 1) q (by omega) (by omega)
  have h := L (qr_N ρ) 0 qm_F (by omega) (by rw [qn_F]; omega)
  unfold g_X9_overlapOf
  rw [qn_l, qn_l]
  exact h
theorem qw_lpos {P : Nat} (h : P ≠ 0) (hP : P < 2 ^ 63) : 0 < (lN P).toInt := by
  rw [pk_lT hP]
  omega
theorem qz_kept : ql_op_kept qz_R := by
  intro a0 a1 a2 σ τ hR
  have hR0 := hR
  obtain ⟨⟨ρ, w, d, o, m⟩, hI, hW, hT, hL⟩ := hR
  have Pb := qw_P_lt ρ 2
  show qz_ok (g_X8_kept a0 a1 a2 σ) (g_X9_kept a0 a1 a2 τ)
  unfold g_X8_kept g_X9_kept
  refine qz_gUnit w d m (fun _ => qz_ok_noL hR0 (-1)) ?_
  rintro u hu rfl
  refine qz_gPart (qz_ok_noL hR0 (-2)) (fun _ => ?_)
  refine qw_gBoth hR0 w d o m (fun τ' h => qz_ok_noL h (-7)) (fun σ' τ' hP B h => ?_)
  refine qw_gPlace B.2.2.1.1 B.2.2.2.2.1 Pb (qz_ok_noL h (-2)) ?_
  rintro s hs rfl
  rw [nI_l (by omega), qk_C w hP B (by omega) hu, qn_b, qk_M w hP B (by omega) hu, qn_b, B.2.2.1.1, B.2.2.2.2.1]
  exact qz_ok_low h (qw_lpos hP (by omega))
theorem qz_overlap : ql_op_overlap qz_R := by
  intro a0 a1 σ τ hR
  have hR0 := hR
  obtain ⟨⟨ρ, w, d, o, m⟩, hI, hW, hT, hL⟩ := hR
  have Pb := qw_P_lt ρ 2
  show qz_ok (g_X8_overlap a0 a1 σ) (g_X9_overlap a0 a1 τ)
  unfold g_X8_overlap g_X9_overlap
  refine qz_gPart (qz_ok_noL hR0 (-2)) (fun _ => ?_)
  refine qw_gBoth hR0 w d o m (fun τ' h => qz_ok_noL h (-7)) (fun σ' τ' hP B h => ?_)
  refine qw_gPlace B.2.2.1.1 B.2.2.2.2.1 Pb (qz_ok_noL h (-2)) ?_
  rintro s hs rfl
  rw [nI_l (by omega), qk_aC w hP B (by omega), qn_b, qk_aM w hP B (by omega), qn_b, B.2.2.1.1, B.2.2.2.2.1]
  exact qz_ok_low h (qw_lpos hP (by omega))
