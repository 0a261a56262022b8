/-! ARCS: the reference lays them, the class lays them -/
def qw_6 (τ τ' : qe_S) : Prop := τ'.1 = τ.1 ∧ ∀ a j, ¬ (a = 0 ∧ (j = 6 ∨ j = 11)) → (a < 6 ∨ 9 < a) → τ'.2 a j = τ.2 a j
theorem qw_6r (τ : qe_S) : qw_6 τ τ := ⟨rfl, fun _ _ _ _ => rfl⟩
theorem qw_6t {a b c : qe_S} (h : qw_6 a b) (g : qw_6 b c) : qw_6 a c := ⟨g.1.trans h.1, fun x j p q => (g.2 x j p q).trans (h.2 x j p q)⟩
theorem qw_M6 {b : Nat} {τ τ' : qe_S} {ρ : qr_R} (h : τ'.1 = τ.1) (m : qr_M b τ ρ) : qr_M b τ' ρ := by
  unfold qr_M
  rw [h]
  exact m
theorem qw_O6 {τ τ' : qe_S} {ρ : qr_R} (h : τ'.1 = τ.1) (o : qr_MO τ ρ) : qr_MO τ' ρ := by
  unfold qr_MO
  rw [h]
  exact o
theorem qw_lr {a b : Nat} (ha : a < 2 ^ 63) (h0 : 0 < b) (hb : b < 2 ^ 63) : qm_lr (lN a) (lN b) = lN (a % b) := by
  unfold qm_lr
  exact pk_lRem ha h0 hb
theorem qw_lz {a : Nat} (h0 : 0 < a) (ha : a < 2 ^ 63) : ¬ lN a = 0 := fun z => by
  have := (pk_lEQ (b := 0) (by omega) (by omega)).mp z
  omega
theorem qw_meetsL {ρ : qr_R} (w : qr_wf ρ) {r c : Nat} (hr : r < 3) (hc : 0 < c) {τ : qe_S} (m : qr_M 1 τ ρ) (K : qe_S → Option (Int32 × qe_S)) : ∀ (k i n : Nat) (s : qe_S), i + k = qr_N ρ → k < n → qw_6 τ s → s.2 0 6 = lN (qw_lc (qr_b ρ r) c i) → qw_lc (qr_b ρ r) c i < 2 ^ 50 → ∃ s', g_X9_meets_L2 K (nI r) n (nI i) s = K s' ∧ qw_6 τ s' ∧ ((qw_lc (qr_b ρ r) c (qr_N ρ) ≤ 2147483647 ∧ s'.2 0 6 = lN (qw_lc (qr_b ρ r) c (qr_N ρ))) ∨ (2147483647 < qw_lc (qr_b ρ r) c (qr_N ρ) ∧ ∃ v, 2147483647 < v ∧ v < 2 ^ 62 ∧ s'.2 0 6 = lN v)) := by
  have hN := w.1
  intro k
  induction k with
  | zero =>
    intro i n s hi hn h6 hs hb
    obtain ⟨q, rfl⟩ : ∃ q, n = q + 1 := ⟨n - 1, by omega⟩
    obtain rfl : i = qr_N ρ := by omega
    refine ⟨s, ?_, h6, ?_⟩
    · simp only [g_X9_meets_L2]
      rw [qn_g0 (by omega) (by omega), qn_l, qr_clamp0, (qw_M6 h6.1 m).1, if_pos (nI_le (by omega) (by omega))]
    · by_cases c1 : qw_lc (qr_b ρ r) c (qr_N ρ) ≤ 2147483647
      · exact Or.inl ⟨c1, hs⟩
      · exact Or.inr ⟨by omega, _, by omega, by omega, hs⟩
  | succ k ih =>
    intro i n s hi hn h6 hs hb
    obtain ⟨q, rfl⟩ : ∃ q, n = q + 1 := ⟨n - 1, by omega⟩
    have hu : i < qr_N ρ := by omega
    have m' := qw_M6 h6.1 m
    have wb := w.2.2.2.2.2.2.1 r i hr hu
    have pos := qw_lc_pos (g := qr_b ρ r) (c := c) hc (i := i) (fun u hu => qw_b1 w hr (by omega))
    by_cases c1 : 2147483647 < qw_lc (qr_b ρ r) c i
    · have mono := qw_lc_le (g := qr_b ρ r) (c := c) hc (i := i) (d := k + 1) (fun u hu => qw_b1 w hr (by omega))
      rw [show i + (k + 1) = qr_N ρ by omega] at mono
      refine ⟨s, ?_, h6, Or.inr ⟨by omega, _, c1, by omega, hs⟩⟩
      simp only [g_X9_meets_L2]
      rw [qn_g0 (by omega) (by omega), qn_l, qr_clamp0, m'.1, if_neg (nI_ge hu (by omega)), hs, if_pos ((qw_lLT (by omega)).mpr c1)]
    · have g1 := Nat.gcd_pos_of_pos_left (qr_b ρ r i) pos
      have g2 : Nat.gcd (qw_lc (qr_b ρ r) c i) (qr_b ρ r i) ≤ qw_lc (qr_b ρ r) c i := Nat.le_of_dvd pos (Nat.gcd_dvd_left _ _)
      have le := qw_lcm_le (b := qr_b ρ r i) pos (by omega) (by omega)
      have e1 : g_X9_meets_L2 K (nI r) (q + 1) (nI i) s = g_X9_meets_L2 K (nI r) q (nI (i + 1)) (qe_sl s 0 6 (lN (qw_lc (qr_b ρ r) c (i + 1)))) := by
        simp only [g_X9_meets_L2]
        rw [qn_g0 (by omega) (by omega), qn_l, qr_clamp0, m'.1, if_neg (nI_ge hu (by omega)), hs, if_neg (fun z => c1 ((qw_lLT (by omega)).mp z)), pk_mul, nI_add, nI_add, qn_g (by omega) (by omega), qn_l, nI_clamp (by omega), show 86 + 12 * r + i = 86 + (12 * r + i) by omega, (m'.2.2.2 r i hr hu).2, nI_l (by omega), qn_l, qg_div, qn_b, qg_dN (by omega) (by omega), qn_zl (qw_lz g1 (by omega)), qn_l, qn_l, nI_1, pk_lDiv (by omega) g1 (by omega), lN_mul, qw_lcm pos]
        rfl
      rw [e1]
      refine ih (i + 1) q (qe_sl s 0 6 (lN (qw_lc (qr_b ρ r) c (i + 1)))) (by omega) (by omega) ⟨h6.1, fun a j p1 p2 => ?_⟩ qn_sl_eq ?_
      · rw [qn_sl, if_neg (fun z => p1 ⟨z.1, Or.inl z.2⟩)]
        exact h6.2 a j p1 p2
      · have : qw_lc (qr_b ρ r) c (i + 1) ≤ qw_lc (qr_b ρ r) c i * 60 := le
        omega
theorem qw_meets {ρ : qr_R} (w : qr_wf ρ) {r c : Nat} (hr : r < 3) (hc : 0 < c) (hc2 : c ≤ 2147483647) {τ : qe_S} (m : qr_M 1 τ ρ) (h6 : τ.2 0 6 = lN c) : ∃ τ', g_X9_meets (nI r) τ = some (if 2147483647 < qw_lc (qr_b ρ r) c (qr_N ρ) then 0 else 1, τ') ∧ qw_6 τ τ' ∧ (qw_lc (qr_b ρ r) c (qr_N ρ) ≤ 2147483647 → τ'.2 0 6 = lN (qw_lc (qr_b ρ r) c (qr_N ρ))) := by
  have hN := w.1
  have hc0 : qw_lc (qr_b ρ r) c 0 < 2 ^ 50 := by simp only [qw_lc]; omega
  obtain ⟨s', e1, e2, e3⟩ := qw_meetsL w hr hc m (fun (s9 : qe_S) => if (lN 2147483647) < (s9.2 0 6) then some ((0 : Int32), s9) else some ((1 : Int32), s9)) (qr_N ρ) 0 qm_F τ (by omega) (by rw [qn_F]; omega) (qw_6r τ) h6 hc0
  rw [nI_0] at e1
  refine ⟨s', ?_, e2, fun h => ?_⟩
  · unfold g_X9_meets
    rw [qn_l, e1]
    rcases e3 with ⟨a, b⟩ | ⟨a, v, v1, v2, b⟩
    · rw [b, if_neg (fun z => by have := (qw_lLT (by omega)).mp z; omega), if_neg (by omega)]
    · rw [b, if_pos ((qw_lLT v2).mpr v1), if_pos a]
  · rcases e3 with ⟨a, b⟩ | ⟨a, _⟩
    · exact b
    · omega
-- the arcs as numbers: b is the set of the units on the wheel
def qw_l (ρ : qr_R) (r P b u : Nat) : Nat := if b.testBit u then qw_p ρ r P u else 0
def qw_S (ρ : qr_R) (r P b : Nat) : Nat → Nat := qp_S (fun k => qw_l ρ r P b (qr_t ρ k))
def qw_f (ρ : qr_R) (r P b u : Nat) : Nat := if b.testBit u then qw_S ρ r P b (qr_pos ρ u) % P else 0
theorem qw_l_le {ρ : qr_R} (w : qr_wf ρ) {r u : Nat} (P b : Nat) (hr : r < 3) (hu : u < qr_N ρ) : qw_l ρ r P b u ≤ P := by
  unfold qw_l
  split
  · exact qw_p_le w P hr hu
  · exact Nat.zero_le _
theorem qw_S_le {ρ : qr_R} (w : qr_wf ρ) {r P b j : Nat} (hr : r < 3) (hP : P < 2 ^ 31) (hj : j ≤ qr_N ρ) : qw_S ρ r P b j < 2 ^ 36 := by
  have hN := w.1
  have h := qp_bound (f := fun k => qw_l ρ r P b (qr_t ρ k)) (c := P) (n := j) (fun i hi => qw_l_le w P b hr (qr_t_lt w (by omega)))
  have h2 : j * P ≤ 12 * P := Nat.mul_le_mul_right P (by omega)
  unfold qw_S
  omega
theorem qw_S_s (ρ : qr_R) (r P b j : Nat) : qw_S ρ r P b (j + 1) = qw_S ρ r P b j + qw_l ρ r P b (qr_t ρ j) := rfl
def qw_V (k l : Nat) (s : qe_S) (ρ : qr_R) (r P b : Nat) (u : Nat) : Prop := s.2 k u = lN (qw_f ρ r P b u) ∧ s.2 l u = lN (qw_l ρ r P b u)
theorem qw_arcsL {ρ : qr_R} (w : qr_wf ρ) {r P b : Nat} (hr : r < 3) (hP : 0 < P) (hP2 : P < 2 ^ 31) (hb : b < 4096) {τ : qe_S} (m : qr_M 1 τ ρ) (o : qr_MO τ ρ) (K : qe_S → Option (Int32 × qe_S)) {o2 o3 : Nat} (ho : (o2 = 6 ∧ o3 = 7) ∨ (o2 = 8 ∧ o3 = 9)) : ∀ (k j n : Nat) (s : qe_S), j + k = qr_N ρ → k < n → qw_6 τ s → s.2 0 6 = lN P → s.2 0 11 = lN (qw_S ρ r P b j) → (∀ i, i < j → qw_V o2 o3 s ρ r P b (qr_t ρ i)) → (∀ a, a ≠ 0 → a ≠ o2 → a ≠ o3 → s.2 a = τ.2 a) → ∃ s', g_X9_arcs_L8 K (nI r) o2 o3 (nI b) n (nI j) s = K s' ∧ qw_6 τ s' ∧ s'.2 0 6 = lN P ∧ s'.2 0 11 = lN (qw_S ρ r P b (qr_N ρ)) ∧ (∀ i, i < qr_N ρ → qw_V o2 o3 s' ρ r P b (qr_t ρ i)) ∧ (∀ a, a ≠ 0 → a ≠ o2 → a ≠ o3 → s'.2 a = τ.2 a) := by
  have hN := w.1
  intro k
  induction k with
  | zero =>
    intro j n s hj hn h6 hs h11 hv hf
    obtain ⟨q, rfl⟩ : ∃ q, n = q + 1 := ⟨n - 1, by omega⟩
    obtain rfl : j = qr_N ρ := by omega
    refine ⟨s, ?_, h6, hs, h11, hv, hf⟩
    simp only [g_X9_arcs_L8]
    rw [qn_g0 (by omega) (by omega), qn_l, qr_clamp0, (qw_M6 h6.1 m).1, if_pos (nI_le (by omega) (by omega))]
  | succ k ih =>
    intro j n s hj hn h6 hs h11 hv hf
    obtain ⟨q, rfl⟩ : ∃ q, n = q + 1 := ⟨n - 1, by omega⟩
    have hu : j < qr_N ρ := by omega
    have m' := qw_M6 h6.1 m
    have o' := qw_O6 h6.1 o
    have tl := qr_t_lt w hu
    generalize hte : qr_t ρ j = t at tl
    have oj : s.1 5 j = nI t := by rw [← hte]; exact o' j hu
    have ne : ∀ i, i < j → qr_t ρ i ≠ t := fun i hi e => by have := qr_t_inj w (by omega) hu (e.trans hte.symm); omega
    have wb := w.2.2.2.2.2.2.1 r t hr tl
    have pos : qr_pos ρ t = j := by rw [← hte]; exact qr_pos_of w hu
    have Sb := qw_S_le (b := b) w hr hP2 (Nat.le_of_lt hu)
    have pb := qw_p_le w P hr tl
    by_cases c : b.testBit t = true
    · have e1 : g_X9_arcs_L8 K (nI r) o2 o3 (nI b) (q + 1) (nI j) s = g_X9_arcs_L8 K (nI r) o2 o3 (nI b) q (nI (j + 1)) (qe_sl (qe_sl (qe_sl (qe_sl (qe_sl s o2 t 0) o3 t 0) o2 t (lN (qw_S ρ r P b j % P))) o3 t (lN (qw_p ρ r P t))) 0 11 (lN (qw_S ρ r P b j + qw_p ρ r P t))) := by
        simp only [g_X9_arcs_L8, qn_j]
        rw [qn_g0 (by omega) (by omega), qn_l, qr_clamp0, m'.1, if_neg (nI_ge hu (by omega)), qn_g (by omega) (by omega), qn_l, nI_clamp (by omega), oj, qn_g (by omega) (by omega), qn_l, nI_clamp (by omega), qn_g (by omega) (by omega), qn_l, qb_get (by omega) (by omega), if_pos c, if_neg qn_10]
        have r6 : (qe_sl (qe_sl s o2 t 0) o3 t 0).2 0 6 = lN P := by rw [qn_sl_k (by omega), qn_sl_k (by omega)]; exact hs
        have r11 : (qe_sl (qe_sl s o2 t 0) o3 t 0).2 0 11 = lN (qw_S ρ r P b j) := by rw [qn_sl_k (by omega), qn_sl_k (by omega)]; exact h11
        rw [r6, r11, qn_zl (qw_lz hP (by omega)), qw_lr (by omega) hP (by omega), qn_g (by omega) (by omega), qn_l, pk_mul, nI_add, nI_add, nI_add, nI_add, qn_g (by omega) (by omega), qn_l, qn_g (by omega) (by omega), qn_l, nI_clamp (by omega), nI_clamp (by omega), show 50 + 12 * r + t = 50 + (12 * r + t) by omega, show 86 + 12 * r + t = 86 + (12 * r + t) by omega]
        have ra : (qe_sl (qe_sl (qe_sl s o2 t 0) o3 t 0) o2 t (lN (qw_S ρ r P b j % P))).1 1 (50 + (12 * r + t)) = nI (qr_a ρ r t) := (m'.2.2.2 r t hr tl).1
        have rb : (qe_sl (qe_sl (qe_sl s o2 t 0) o3 t 0) o2 t (lN (qw_S ρ r P b j % P))).1 1 (86 + (12 * r + t)) = nI (qr_b ρ r t) := (m'.2.2.2 r t hr tl).2
        have r6' : (qe_sl (qe_sl (qe_sl s o2 t 0) o3 t 0) o2 t (lN (qw_S ρ r P b j % P))).2 0 6 = lN P := by rw [qn_sl_k (by omega)]; exact r6
        rw [ra, rb, r6', nI_l (by omega), nI_l (by omega), qn_zl (qw_lz (by omega) (by omega)), qn_g (by omega) (by omega), qn_l, qn_g (by omega) (by omega), qn_l, pk_lDiv (by omega) (by omega) (by omega), lN_mul, qn_sl_eq]
        have r11' : (qe_sl (qe_sl (qe_sl (qe_sl s o2 t 0) o3 t 0) o2 t (lN (qw_S ρ r P b j % P))) o3 t (lN (qr_a ρ r t * (P / qr_b ρ r t)))).2 0 11 = lN (qw_S ρ r P b j) := by rw [qn_sl_k (by omega), qn_sl_k (by omega)]; exact r11
        rw [r11', lN_add, qn_l, qn_l, nI_1]
        rfl
      have lt : qw_l ρ r P b t = qw_p ρ r P t := if_pos c
      have ft : qw_f ρ r P b t = qw_S ρ r P b j % P := by unfold qw_f; rw [if_pos c, pos]
      rw [e1]
      refine ih (j + 1) q _ (by omega) (by omega) ⟨h6.1, fun a i p1 p2 => ?_⟩ ?_ ?_ (fun i hi => ?_) (fun a p1 p2 p3 => ?_)
      · rw [qn_sl, if_neg (fun z => p1 ⟨z.1, Or.inr z.2⟩), qn_sl_k (by omega), qn_sl_k (by omega), qn_sl_k (by omega), qn_sl_k (by omega)]
        exact h6.2 a i p1 p2
      · rw [qn_sl_j (by omega), qn_sl_k (by omega), qn_sl_k (by omega), qn_sl_k (by omega), qn_sl_k (by omega)]
        exact hs
      · rw [qn_sl_eq, qw_S_s, hte, lt]
      · by_cases hij : i = j
        · subst hij
          rw [hte]
          refine ⟨?_, ?_⟩
          · rw [qn_sl_k (by omega), qn_sl_k (by omega), qn_sl_eq, ft]
          · rw [qn_sl_k (by omega), qn_sl_eq, lt]
        · have hne := ne i (by omega)
          have hvi := hv i (by omega)
          refine ⟨?_, ?_⟩
          · rw [qn_sl_k (by omega), qn_sl_j hne, qn_sl_j hne, qn_sl_j hne, qn_sl_j hne]; exact hvi.1
          · rw [qn_sl_k (by omega), qn_sl_j hne, qn_sl_j hne, qn_sl_j hne, qn_sl_j hne]; exact hvi.2
      · funext i
        rw [qn_sl_k p1, qn_sl_k p3, qn_sl_k p2, qn_sl_k p3, qn_sl_k p2, hf a p1 p2 p3]
    · have e1 : g_X9_arcs_L8 K (nI r) o2 o3 (nI b) (q + 1) (nI j) s = g_X9_arcs_L8 K (nI r) o2 o3 (nI b) q (nI (j + 1)) (qe_sl (qe_sl s o2 t 0) o3 t 0) := by
        simp only [g_X9_arcs_L8, qn_j]
        rw [qn_g0 (by omega) (by omega), qn_l, qr_clamp0, m'.1, if_neg (nI_ge hu (by omega)), qn_g (by omega) (by omega), qn_l, nI_clamp (by omega), oj, qn_g (by omega) (by omega), qn_l, nI_clamp (by omega), qn_g (by omega) (by omega), qn_l, qb_get (by omega) (by omega), if_neg c, if_pos rfl, qn_l, nI_1]
      have lt : qw_l ρ r P b t = 0 := if_neg c
      have ft : qw_f ρ r P b t = 0 := if_neg c
      rw [e1]
      refine ih (j + 1) q _ (by omega) (by omega) ⟨h6.1, fun a i p1 p2 => ?_⟩ ?_ ?_ (fun i hi => ?_) (fun a p1 p2 p3 => ?_)
      · rw [qn_sl_k (by omega), qn_sl_k (by omega)]
        exact h6.2 a i p1 p2
      · rw [qn_sl_k (by omega), qn_sl_k (by omega)]
        exact hs
      · rw [qn_sl_k (by omega), qn_sl_k (by omega), qw_S_s, hte, lt]
        exact h11
      · by_cases hij : i = j
        · subst hij
          rw [hte]
          refine ⟨?_, ?_⟩
          · rw [qn_sl_k (by omega), qn_sl_eq, ft]; rfl
          · rw [qn_sl_eq, lt]; rfl
        · have hne := ne i (by omega)
          have hvi := hv i (by omega)
          refine ⟨?_, ?_⟩
          · rw [qn_sl_j hne, qn_sl_j hne]; exact hvi.1
          · rw [qn_sl_j hne, qn_sl_j hne]; exact hvi.2
      · funext i
        rw [qn_sl_k p3, qn_sl_k p2, hf a p1 p2 p3]
theorem qw_arcs {ρ : qr_R} (w : qr_wf ρ) {r P b : Nat} (hr : r < 3) (hP : 0 < P) (hP2 : P < 2 ^ 31) (hb : b < 4096) {τ : qe_S} (m : qr_M 1 τ ρ) (o : qr_MO τ ρ) (h6 : τ.2 0 6 = lN P) {o2 o3 : Nat} (ho : (o2 = 6 ∧ o3 = 7) ∨ (o2 = 8 ∧ o3 = 9)) : ∃ τ', g_X9_arcs (nI r) o2 o3 (nI b) τ = some (if 2147483647 < qw_S ρ r P b (qr_N ρ) then 0 else 1, τ') ∧ qw_6 τ τ' ∧ τ'.2 0 6 = lN P ∧ τ'.2 0 11 = lN (qw_S ρ r P b (qr_N ρ)) ∧ (∀ u, u < qr_N ρ → qw_V o2 o3 τ' ρ r P b u) ∧ (∀ a, a ≠ 0 → a ≠ o2 → a ≠ o3 → τ'.2 a = τ.2 a) := by
  have hN := w.1
  have q6 : qw_6 τ (qe_sl τ 0 11 0) := ⟨rfl, fun a j p1 p2 => by rw [qn_sl, if_neg (fun z => p1 ⟨z.1, Or.inr z.2⟩)]⟩
  obtain ⟨s', e1, e2, e3, e4, e5, e6⟩ := qw_arcsL w hr hP hP2 hb m o (fun (s15 : qe_S) => if (lN 2147483647) < (s15.2 0 11) then some ((0 : Int32), s15) else some ((1 : Int32), s15)) ho (qr_N ρ) 0 qm_F (qe_sl τ 0 11 0) (by omega) (by rw [qn_F]; omega) q6 (by rw [qn_sl_j (by omega)]; exact h6) (by rw [qn_sl_eq]; rfl) (fun i hi => by omega) (fun a p1 _ _ => by funext i; exact qn_sl_k p1)
  rw [nI_0] at e1
  have Sb := qw_S_le (b := b) w hr hP2 (Nat.le_refl (qr_N ρ))
  refine ⟨s', ?_, e2, e3, e4, fun u hu => ?_, e6⟩
  · unfold g_X9_arcs
    rw [qn_l, qn_l, e1]
    by_cases c : 2147483647 < qw_S ρ r P b (qr_N ρ)
    · rw [e4, if_pos ((qw_lLT (by omega)).mpr c), if_pos c]
    · rw [e4, if_neg (fun z => c ((qw_lLT (by omega)).mp z)), if_neg c]
  · obtain ⟨hp, he⟩ := qr_pos_ex w hu
    rw [← he]
    exact e5 _ hp
-- everyone
def qw_E (ρ : qr_R) : Nat := 2 ^ qr_N ρ - 1
theorem qw_E_lt {ρ : qr_R} (w : qr_wf ρ) : qw_E ρ < 4096 := by
  have h : 2 ^ qr_N ρ ≤ 2 ^ 12 := Nat.pow_le_pow_right (by omega) w.1
  unfold qw_E
  omega
theorem qw_E_bit (ρ : qr_R) (u : Nat) : (qw_E ρ).testBit u = decide (u < qr_N ρ) := by
  unfold qw_E
  rw [Nat.testBit_two_pow_sub_one]
theorem qw_ev {N : Nat} (hN : N ≤ 12) : ((1 : Int32) <<< (nI N &&& 31)) - 1 = nI (2 ^ N - 1) := by
  have h : 1 ≤ 2 ^ N := Nat.one_le_two_pow
  rw [qb_shl (by omega)]
  exact pk_sub (b := 1) h
theorem qw_evM {τ : qe_S} {ρ : qr_R} (w : qr_wf ρ) (m : qr_M 1 τ ρ) : g_X9_everyone τ = some (nI (qw_E ρ), τ) := by
  unfold g_X9_everyone
  rw [qn_g0 (by omega) (by omega), qn_l, qr_clamp0, m.1, qw_ev w.1]
  rfl
theorem qw_evC {σ : qe_S} {ρ : qr_R} (w : qr_wf ρ) (d : qr_D 1 σ ρ) : g_X3_everyone σ = some (nI (qw_E ρ), σ) := by
  unfold g_X3_everyone
  rw [d.1, qw_ev w.1]
  rfl
theorem qw_l_E {ρ : qr_R} {r P u : Nat} (hu : u < qr_N ρ) : qw_l ρ r P (qw_E ρ) u = qw_p ρ r P u := by
  unfold qw_l
  rw [qw_E_bit, decide_eq_true hu, if_pos rfl]
theorem qw_S_E {ρ : qr_R} (w : qr_wf ρ) (r P : Nat) : qw_S ρ r P (qw_E ρ) (qr_N ρ) = qw_T ρ r P := by
  unfold qw_S qw_T
  rw [qr_t_sum w (fun u => qw_l ρ r P (qw_E ρ) u)]
  exact qp_congr (fun u hu => qw_l_E hu)
