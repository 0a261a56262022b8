/-! THE CUTS of the reference: sorted -/
def qy_13 (s s' : qe_S) : Prop := s'.1 = s.1 ∧ ∀ a, a ≠ 13 → s'.2 a = s.2 a
theorem qy_13t {a b c : qe_S} (h : qy_13 a b) (g : qy_13 b c) : qy_13 a c := ⟨g.1.trans h.1, fun x p => (g.2 x p).trans (h.2 x p)⟩
theorem qy_13s (s : qe_S) (j : Nat) (x : Int64) : qy_13 s (qe_sl s 13 j x) := ⟨rfl, fun a p => by funext i; exact qn_sl_k p⟩
theorem qy_insL {C : Nat → Nat} {x : Nat} (hx : x < 2 ^ 40) (v : Int32) (K : Int32 → qe_S → Option (Int32 × qe_S)) : ∀ (k n : Nat) (s : qe_S), k < n → k < 26 → (∀ i, i < k → C i < 2 ^ 40) → (∀ i, i < k → s.2 13 i = lN (C i)) → ∃ q s', q ≤ k ∧ g_X9_cutsAt_L3 K v (lN x) n (nI k) s = K (nI q) s' ∧ qy_13 s s' ∧ (∀ i, i < q → s'.2 13 i = lN (C i)) ∧ (∀ i, q < i → i ≤ k → s'.2 13 i = lN (C (i - 1))) ∧ (∀ i, k < i → s'.2 13 i = s.2 13 i) ∧ (∀ i, i + 1 = q → C i ≤ x) ∧ (∀ i, q ≤ i → i < k → x < C i) := by
  intro k
  induction k with
  | zero =>
    intro n s hn _ _ hs
    obtain ⟨m, rfl⟩ : ∃ m, n = m + 1 := ⟨n - 1, by omega⟩
    refine ⟨0, s, Nat.le_refl _, ?_, ⟨rfl, fun _ _ => rfl⟩, fun i hi => by omega, fun i h1 h2 => by omega, fun i _ => rfl, fun i hi => by omega, fun i h1 h2 => by omega⟩
    simp only [g_X9_cutsAt_L3]
    rw [if_pos (by decide)]
  | succ k ih =>
    intro n s hn hk hb hs
    obtain ⟨m, rfl⟩ : ∃ m, n = m + 1 := ⟨n - 1, by omega⟩
    have hbk := hb k (by omega)
    by_cases c : C k ≤ x
    · refine ⟨k + 1, s, Nat.le_refl _, ?_, ⟨rfl, fun _ _ => rfl⟩, fun i hi => hs i hi, fun i h1 h2 => by omega, fun i _ => rfl, fun i hi => ?_, fun i h1 h2 => by omega⟩
      · simp only [g_X9_cutsAt_L3]
        rw [if_neg (nI_nle (by omega) (by omega)), nI_pred, qn_g (by omega) (by omega), qn_l, nI_clamp (by omega), hs k (by omega), if_pos ((pk_lLE (by omega) (by omega)).mpr c)]
      · obtain rfl : i = k := by omega
        exact c
    · obtain ⟨q, s', q1, q2, q3, q4, q5, q8, q6, q7⟩ := ih m (qe_sl s 13 (k + 1) (lN (C k))) (by omega) (by omega) (fun i hi => hb i (by omega)) (fun i hi => by rw [qn_sl_j (by omega)]; exact hs i (by omega))
      refine ⟨q, s', by omega, ?_, qy_13t (qy_13s s _ _) q3, q4, fun i h1 h2 => ?_, fun i h1 => ?_, q6, fun i h1 h2 => ?_⟩
      · simp only [g_X9_cutsAt_L3]
        rw [if_neg (nI_nle (by omega) (by omega)), nI_pred, qn_g (by omega) (by omega), qn_l, nI_clamp (by omega), hs k (by omega), if_neg (fun z => c ((pk_lLE (by omega) (by omega)).mp z)), qn_g (by omega) (by omega), qn_l, qn_g (by omega) (by omega), qn_l, nI_clamp (by omega), pk_m1, qn_l]
        exact q2
      · by_cases e : i ≤ k
        · exact q5 i h1 e
        · obtain rfl : i = k + 1 := by omega
          rw [q8 (k + 1) (by omega), qn_sl_eq]
          rfl
      · rw [q8 i (by omega), qn_sl_j (by omega)]
      · by_cases e : i = k
        · subst e; omega
        · exact q7 i h1 (by omega)
theorem qy_ins {C : Nat → Nat} {n x : Nat} {s : qe_S} (hn : n < 26) (hx : x < 2 ^ 40) (hb : ∀ i, i < n → C i < 2 ^ 40) (so : ∀ i j, i < j → j < n → C i ≤ C j) (hs : ∀ i, i < n → s.2 13 i = lN (C i)) : ∃ (s' : qe_S) (C' : Nat → Nat), g_X9_cutsAt (nI n) (lN x) s = some (nI (n + 1), s') ∧ qy_13 s s' ∧ (∀ i, i < n + 1 → s'.2 13 i = lN (C' i)) ∧ (∀ i j, i < j → j < n + 1 → C' i ≤ C' j) ∧ (∀ i, i < n → ∃ j, j < n + 1 ∧ C' j = C i) ∧ (∃ j, j < n + 1 ∧ C' j = x) ∧ (∀ j, j < n + 1 → C' j = x ∨ ∃ i, i < n ∧ C' j = C i) := by
  obtain ⟨q, s', q1, q2, q3, q4, q5, q8, q6, q7⟩ := qy_insL hx (nI n) (fun (a6 : Int32) (s7 : qe_S) => qm_g a6 26 <| qm_l (qe_sl s7 13 a6.toNatClampNeg (lN x)) fun s8 => some ((nI n + (1 : Int32)), s8)) n qm_F s (by rw [qn_F]; omega) (by omega) hb hs
  have v1 : ∀ i, i < q → (fun i => if i < q then C i else if i = q then x else C (i - 1)) i = C i := fun i h => if_pos h
  have v2 : (fun i => if i < q then C i else if i = q then x else C (i - 1)) q = x := by
    show (if q < q then C q else if q = q then x else C (q - 1)) = x
    rw [if_neg (by omega), if_pos rfl]
  have v3 : ∀ i, q < i → (fun i => if i < q then C i else if i = q then x else C (i - 1)) i = C (i - 1) := fun i h => by
    show (if i < q then C i else if i = q then x else C (i - 1)) = C (i - 1)
    rw [if_neg (by omega), if_neg (by omega)]
  refine ⟨qe_sl s' 13 q (lN x), fun i => if i < q then C i else if i = q then x else C (i - 1), ?_, qy_13t q3 (qy_13s s' _ _), fun i hi => ?_, fun i j h1 h2 => ?_, fun i hi => ?_, ⟨q, by omega, v2⟩, fun j hj => ?_⟩
  · unfold g_X9_cutsAt
    rw [q2, qn_g (by omega) (by omega), qn_l, nI_clamp (by omega), nI_1]
  · rcases Nat.lt_trichotomy i q with h | h | h
    · rw [v1 i h, qn_sl_j (by omega)]; exact q4 i h
    · subst h; rw [v2, qn_sl_eq]
    · rw [v3 i h, qn_sl_j (by omega)]; exact q5 i h (by omega)
  · have low : ∀ i, i < q → C i ≤ x := fun i hi => by
      by_cases e : i + 1 = q
      · exact q6 i e
      · have a := so i (q - 1) (by omega) (by omega)
        have b := q6 (q - 1) (by omega)
        omega
    rcases Nat.lt_trichotomy j q with h | h | h
    · rw [v1 i (by omega), v1 j h]; exact so i j h1 (by omega)
    · subst h; rw [v2, v1 i h1]; exact low i h1
    · rw [v3 j h]
      rcases Nat.lt_trichotomy i q with g | g | g
      · rw [v1 i g]; exact so i (j - 1) (by omega) (by omega)
      · subst g; rw [v2]; exact Nat.le_of_lt (q7 (j - 1) (by omega) (by omega))
      · rw [v3 i g]; exact so (i - 1) (j - 1) (by omega) (by omega)
  · by_cases h : i < q
    · exact ⟨i, by omega, v1 i h⟩
    · exact ⟨i + 1, by omega, v3 (i + 1) (by omega)⟩
  · rcases Nat.lt_trichotomy j q with h | h | h
    · exact Or.inr ⟨j, by omega, v1 j h⟩
    · subst h; exact Or.inl v2
    · exact Or.inr ⟨j - 1, by omega, v3 j h⟩
/-- the cuts that stand after the first u units: n of them -/
def qy_K (ρ : qr_R) (u n : Nat) (C : Nat → Nat) (s : qe_S) : Prop := (∀ i, i < n → s.2 13 i = lN (C i)) ∧ (∀ i j, i < j → j < n → C i ≤ C j) ∧ (∀ i, i < n → C i < qx_P ρ) ∧ (∃ j, j < n ∧ C j = 0) ∧ (∀ v, v < u → ∃ j, j < n ∧ C j = qx_e ρ v)
def qy_G (ρ : qr_R) (s : qe_S) : Prop := qr_M 1 s ρ ∧ s.2 0 6 = lN (qx_P ρ) ∧ ∀ u, u < qr_N ρ → qw_V 6 7 s ρ 0 (qw_P ρ 0) (qw_E ρ) u
theorem qy_G13 {ρ : qr_R} {s s' : qe_S} (h : qy_13 s s') (g : qy_G ρ s) : qy_G ρ s' := by
  unfold qy_G qw_V
  rw [h.2 0 (by omega), h.2 6 (by omega), h.2 7 (by omega)]
  exact ⟨qw_M6 h.1 g.1, g.2⟩
theorem qy_cutsL {ρ : qr_R} (w : qr_wf ρ) (hP : qx_P ρ ≠ 0) (K : Int32 → qe_S → Option qe_S) : ∀ (q u n : Nat) (s : qe_S) (C : Nat → Nat), u + q = qr_N ρ → q < n → qy_G ρ s → qy_K ρ u (1 + 2 * u) C s → ∃ (s' : qe_S) (C' : Nat → Nat), g_X9_goesRound_L9 K n (nI (1 + 2 * u)) (nI u) s = K (nI (1 + 2 * qr_N ρ)) s' ∧ qy_13 s s' ∧ qy_K ρ (qr_N ρ) (1 + 2 * qr_N ρ) C' s' := by
  have hN := w.1
  have Pb : qx_P ρ < 2 ^ 31 := qw_P_lt ρ 0
  intro q
  induction q with
  | zero =>
    intro u n s C hu hn hG hK
    obtain ⟨m, rfl⟩ : ∃ m, n = m + 1 := ⟨n - 1, by omega⟩
    obtain rfl : u = qr_N ρ := by omega
    refine ⟨s, C, ?_, ⟨rfl, fun _ _ => rfl⟩, hK⟩
    simp only [g_X9_goesRound_L9]
    rw [qn_g0 (by omega) (by omega), qn_l, qr_clamp0, hG.1.1, if_pos (nI_le (by omega) (by omega))]
  | succ q ih =>
    intro u n s C hu hn hG hK
    obtain ⟨m, rfl⟩ : ∃ m, n = m + 1 := ⟨n - 1, by omega⟩
    have hu2 : u < qr_N ρ := by omega
    obtain ⟨k1, k2, k3, k4, k5⟩ := hK
    have fl := qx_F_lt hP u
    have el := qx_e_lt hP u
    have ll : qx_L ρ u ≤ qx_P ρ := qw_l_le w _ _ (by omega) hu2
    obtain ⟨s1, C1, a1, a2, a3, a4, a5, a6, a7⟩ := qy_ins (x := qx_F ρ u) (n := 1 + 2 * u) (by omega) (by omega) (fun i hi => by have := k3 i hi; omega) k2 k1
    have b1 : ∀ i, i < 1 + 2 * u + 1 → C1 i < qx_P ρ := fun i hi => by
      rcases a7 i hi with h | ⟨j, j1, j2⟩
      · omega
      · have := k3 j j1; omega
    obtain ⟨s2, C2, c1, c2, c3, c4, c5, c6, c7⟩ := qy_ins (x := qx_e ρ u) (n := 1 + 2 * u + 1) (by omega) (by omega) (fun i hi => by have := b1 i hi; omega) a4 a3
    have d1 : ∀ i, i < 1 + 2 * u + 1 + 1 → C2 i < qx_P ρ := fun i hi => by
      rcases c7 i hi with h | ⟨j, j1, j2⟩
      · omega
      · have := b1 j j1; omega
    have G1 := qy_G13 a2 hG
    have G2 := qy_G13 c2 G1
    have up : ∀ z, (∃ j, j < 1 + 2 * u ∧ C j = z) → ∃ j, j < 1 + 2 * u + 1 + 1 ∧ C2 j = z := by
      rintro z ⟨j, j1, j2⟩
      obtain ⟨i, i1, i2⟩ := a5 j j1
      obtain ⟨h, h1, h2⟩ := c5 i i1
      exact ⟨h, h1, by rw [h2, i2, j2]⟩
    have K2 : qy_K ρ (u + 1) (1 + 2 * (u + 1)) C2 s2 := by
      rw [show 1 + 2 * (u + 1) = 1 + 2 * u + 1 + 1 by omega]
      refine ⟨c3, c4, d1, up 0 k4, fun v hv => ?_⟩
      by_cases e : v = u
      · subst e; exact c6
      · exact up _ (k5 v (by omega))
    obtain ⟨s', C', e1, e2, e3⟩ := ih (u + 1) m s2 C2 (by omega) (by omega) G2 K2
    refine ⟨s', C', ?_, qy_13t (qy_13t a2 c2) e2, e3⟩
    have f1 : s.2 6 u = lN (qx_F ρ u) := (hG.2.2 u hu2).1
    have f2 : s1.2 6 u = lN (qx_F ρ u) := (G1.2.2 u hu2).1
    have f3 : s1.2 7 u = lN (qx_L ρ u) := (G1.2.2 u hu2).2
    have ee : (qx_F ρ u + qx_L ρ u) % qx_P ρ = qx_e ρ u := rfl
    simp only [g_X9_goesRound_L9]
    rw [qn_g0 (by omega) (by omega), qn_l, qr_clamp0, hG.1.1, if_neg (nI_ge hu2 (by omega)), qn_g (by omega) (by omega), qn_l, nI_clamp (by omega), f1, a1, qn_b, qn_g (by omega) (by omega), qn_l, qn_g (by omega) (by omega), qn_l, f2, f3, G1.2.1, qn_zl (qw_lz (Nat.pos_of_ne_zero hP) (by omega)), lN_add, qw_lr (by omega) (Nat.pos_of_ne_zero hP) (by omega), ee, c1, qn_b, qn_l, nI_1]
    rw [show 1 + 2 * u + 1 + 1 = 1 + 2 * (u + 1) by omega]
    exact e1
