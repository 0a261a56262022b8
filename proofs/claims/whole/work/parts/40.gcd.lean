/-! EUCLID over longs -/
theorem qg_bm {n : Int} (h1 : -9223372036854775808 ≤ n) (h2 : n < 9223372036854775808) : n.bmod (2 ^ 64) = n := by
  rw [Int.bmod_def]
  omega
theorem qg_rng (x : Int64) : -9223372036854775808 ≤ x.toInt ∧ x.toInt < 9223372036854775808 := by
  have a := x.toInt_lt
  have b := x.le_toInt
  omega
theorem qg_eq0 {y : Int64} : y = 0 ↔ y.toInt = 0 := by
  rw [← Int64.toInt_inj, Int64.toInt_zero]
theorem qg_rem (x y : Int64) : (qm_lr x y).toInt = x.toInt.tmod y.toInt := by
  unfold qm_lr
  have hx := qg_rng x
  have b : -9223372036854775808 ≤ x.toInt.tmod y.toInt ∧ x.toInt.tmod y.toInt < 9223372036854775808 := by
    have h1 := Int.natAbs_tmod x.toInt y.toInt
    have h2 : x.toInt.natAbs % y.toInt.natAbs ≤ x.toInt.natAbs := Nat.mod_le _ _
    have h3 : 0 ≤ x.toInt → 0 ≤ x.toInt.tmod y.toInt := fun h => Int.tmod_nonneg _ h
    have h4 : x.toInt ≤ 0 → x.toInt.tmod y.toInt ≤ 0 := fun h => by
      have := Int.tmod_nonneg (a := -x.toInt) y.toInt (by omega)
      rw [Int.neg_tmod] at this
      omega
    omega
  rw [Int64.toInt_sub, Int64.toInt_mul, Int64.toInt_div, Int.bmod_mul_bmod, Int.sub_bmod_bmod, Int.mul_comm, ← Int.tmod_def]
  exact qg_bm b.1 b.2
def qg_T : Nat → Int64 → Int64 → Prop
  | 0, _, y => y = 0
  | t + 1, x, y => y ≠ 0 ∧ qg_T t y (qm_lr x y)
def qg_eu : Nat → Int64 → Int64 → Int64
  | 0, x, _ => x
  | n + 1, x, y => if y = 0 then x else qg_eu n y (qm_lr x y)
def qg_abs (x : Int64) : Int64 := if (0 : Int64) ≤ x then x else -x
def qg_d (x y : Int64) : Int64 := qg_abs (qg_eu 200 x y)
theorem qg_half {a b : Nat} (h0 : 0 < b) (h : b < a) : 2 * (a % b) < a := by
  have h1 := Nat.mod_lt a h0
  have h2 : a % b ≤ a - b := by
    have h3 := Nat.mod_add_div a b
    have h4 : 1 ≤ a / b := (Nat.le_div_iff_mul_le h0).mpr (by omega)
    have h5 : b * 1 ≤ b * (a / b) := Nat.mul_le_mul_left b h4
    omega
  omega
theorem qg_T_ex : ∀ (k : Nat) (x y : Int64), y.toInt.natAbs < 2 ^ k → ∃ t, t ≤ 2 * k ∧ qg_T t x y := by
  intro k
  induction k with
  | zero =>
    intro x y h
    exact ⟨0, by omega, qg_eq0.mpr (by omega)⟩
  | succ k ih =>
    intro x y h
    by_cases hy : y = 0
    · exact ⟨0, by omega, hy⟩
    · have hy0 : y.toInt ≠ 0 := fun z => hy (qg_eq0.mpr z)
      by_cases hr : qm_lr x y = 0
      · exact ⟨1, by omega, hy, hr⟩
      · have hr0 : (qm_lr x y).toInt ≠ 0 := fun z => hr (qg_eq0.mpr z)
        have e1 : (qm_lr x y).toInt.natAbs = x.toInt.natAbs % y.toInt.natAbs := by rw [qg_rem, Int.natAbs_tmod]
        have e2 : (qm_lr y (qm_lr x y)).toInt.natAbs = y.toInt.natAbs % (qm_lr x y).toInt.natAbs := by rw [qg_rem, Int.natAbs_tmod]
        have l1 := Nat.mod_lt x.toInt.natAbs (show 0 < y.toInt.natAbs by omega)
        have l2 := qg_half (a := y.toInt.natAbs) (b := (qm_lr x y).toInt.natAbs) (by omega) (by omega)
        rw [Nat.pow_succ] at h
        obtain ⟨t, ht, hT⟩ := ih (qm_lr x y) (qm_lr y (qm_lr x y)) (by omega)
        exact ⟨t + 2, by omega, hy, hr, hT⟩
theorem qg_T_all (x y : Int64) : ∃ t, t ≤ 128 ∧ qg_T t x y := by
  have h := qg_rng y
  exact qg_T_ex 64 x y (by omega)
theorem qg_eu_T : ∀ (t m : Nat) (x y : Int64), qg_T t x y → t ≤ m → qg_eu m x y = qg_eu t x y := by
  intro t
  induction t with
  | zero =>
    intro m x y h _
    cases m with
    | zero => rfl
    | succ m => simp only [qg_eu]; rw [if_pos (show y = 0 from h)]
  | succ t ih =>
    intro m x y h hm
    obtain ⟨k, rfl⟩ : ∃ k, m = k + 1 := ⟨m - 1, by omega⟩
    simp only [qg_eu]
    rw [if_neg h.1, if_neg h.1]
    exact ih k y (qm_lr x y) h.2 (by omega)
theorem qg_loopC (K : Int64 → qe_S → Option (Int64 × qe_S)) (s : qe_S) : ∀ (t n c : Nat) (x y : Int64), qg_T t x y → t < n → c + t < 1000 → g_X8_gcd_L9 K n x y (nI c) s = K (qg_eu t x y) s := by
  intro t
  induction t with
  | zero =>
    intro n c x y h hn hc
    obtain ⟨m, rfl⟩ : ∃ m, n = m + 1 := ⟨n - 1, by omega⟩
    simp only [g_X8_gcd_L9]
    rw [if_neg (nI_ge (by omega) (by omega)), if_pos (show y = 0 from h)]
    rfl
  | succ t ih =>
    intro n c x y h hn hc
    obtain ⟨m, rfl⟩ : ∃ m, n = m + 1 := ⟨n - 1, by omega⟩
    simp only [g_X8_gcd_L9]
    rw [if_neg (nI_ge (by omega) (by omega)), if_neg h.1, qn_zl h.1, qn_l, qn_l, nI_1]
    have e : qg_eu (t + 1) x y = qg_eu t y (qm_lr x y) := by simp only [qg_eu]; rw [if_neg h.1]
    rw [e]
    exact ih m (c + 1) y (qm_lr x y) h.2 (by omega) (by omega)
theorem qg_loopM (K : Int64 → qe_S → Option (Int64 × qe_S)) (s : qe_S) : ∀ (t n : Nat) (x y : Int64), qg_T t x y → t < n → g_X9_divisor_L6 K n x y s = K (qg_eu t x y) s := by
  intro t
  induction t with
  | zero =>
    intro n x y h hn
    obtain ⟨m, rfl⟩ : ∃ m, n = m + 1 := ⟨n - 1, by omega⟩
    simp only [g_X9_divisor_L6]
    rw [if_pos (show y = 0 from h)]
    rfl
  | succ t ih =>
    intro n x y h hn
    obtain ⟨m, rfl⟩ : ∃ m, n = m + 1 := ⟨n - 1, by omega⟩
    simp only [g_X9_divisor_L6]
    rw [if_neg h.1, qn_zl h.1, qn_l]
    have e : qg_eu (t + 1) x y = qg_eu t y (qm_lr x y) := by simp only [qg_eu]; rw [if_neg h.1]
    rw [e]
    exact ih m y (qm_lr x y) h.2 (by omega)
theorem qg_gcd (x y : Int64) (s : qe_S) : g_X8_gcd x y s = some (qg_d x y, s) := by
  obtain ⟨t, ht, hT⟩ := qg_T_all x y
  have h := qg_loopC (fun (b5 : Int64) (s6 : qe_S) => if (0 : Int64) ≤ b5 then (some (b5, s6)) else some ((-b5), s6)) s t qm_F 0 x y hT (by rw [qn_F]; omega) (by omega)
  rw [nI_0] at h
  unfold g_X8_gcd
  rw [qn_l, h]
  unfold qg_d qg_abs
  rw [qg_eu_T t 200 x y hT (by omega)]
  by_cases c : (0 : Int64) ≤ qg_eu t x y
  · simp only [if_pos c]
  · simp only [if_neg c]
theorem qg_div (x y : Int64) (s : qe_S) : g_X9_divisor x y s = some (qg_d x y, s) := by
  obtain ⟨t, ht, hT⟩ := qg_T_all x y
  have h := qg_loopM (fun (b5 : Int64) (s6 : qe_S) => if (0 : Int64) ≤ b5 then (some (b5, s6)) else some ((-b5), s6)) s t qm_F x y hT (by rw [qn_F]; omega)
  unfold g_X9_divisor
  rw [h]
  unfold qg_d qg_abs
  rw [qg_eu_T t 200 x y hT (by omega)]
  by_cases c : (0 : Int64) ≤ qg_eu t x y
  · simp only [if_pos c]
  · simp only [if_neg c]
theorem qg_eu_b : ∀ (t : Nat) (x y : Int64), qg_T t x y → y ≠ 0 → qg_eu t x y ≠ 0 ∧ (qg_eu t x y).toInt.natAbs ≤ y.toInt.natAbs := by
  intro t
  induction t with
  | zero => intro x y h hy; exact absurd h hy
  | succ t ih =>
    intro x y h hy
    have e : qg_eu (t + 1) x y = qg_eu t y (qm_lr x y) := by simp only [qg_eu]; rw [if_neg h.1]
    rw [e]
    by_cases hr : qm_lr x y = 0
    · have e2 : qg_eu t y (qm_lr x y) = y := by
        rw [hr]
        cases t with
        | zero => rfl
        | succ t => simp only [qg_eu]; rw [if_pos trivial]
      rw [e2]
      exact ⟨hy, Nat.le_refl _⟩
    · obtain ⟨h1, h2⟩ := ih y (qm_lr x y) h.2 hr
      refine ⟨h1, ?_⟩
      have e1 : (qm_lr x y).toInt.natAbs = x.toInt.natAbs % y.toInt.natAbs := by rw [qg_rem, Int.natAbs_tmod]
      have hy0 : y.toInt ≠ 0 := fun z => hy (qg_eq0.mpr z)
      have l1 := Nat.mod_lt x.toInt.natAbs (show 0 < y.toInt.natAbs by omega)
      omega
theorem qg_neg {x : Int64} (h : x.toInt ≠ -9223372036854775808) : (-x).toInt = -x.toInt := by
  have b := qg_rng x
  rw [Int64.toInt_neg]
  exact qg_bm (by omega) (by omega)
theorem qg_d_pos {x y : Int64} (h : 0 < y.toInt) : 1 ≤ (qg_d x y).toInt ∧ (qg_d x y).toInt ≤ y.toInt := by
  obtain ⟨t, ht, hT⟩ := qg_T_all x y
  have hy : y ≠ 0 := fun z => by rw [qg_eq0] at z; omega
  obtain ⟨h1, h2⟩ := qg_eu_b t x y hT hy
  have h3 : (qg_eu t x y).toInt ≠ 0 := fun z => h1 (qg_eq0.mpr z)
  have hb := qg_rng y
  unfold qg_d qg_abs
  rw [qg_eu_T t 200 x y hT (by omega)]
  by_cases c : (0 : Int64) ≤ qg_eu t x y
  · rw [if_pos c]
    rw [Int64.le_iff_toInt_le, Int64.toInt_zero] at c
    omega
  · rw [if_neg c]
    rw [Int64.le_iff_toInt_le, Int64.toInt_zero] at c
    rw [qg_neg (by omega)]
    omega
theorem qg_d_ne {x y : Int64} (h : 0 < y.toInt) : ¬ qg_d x y = 0 := fun z => by
  have := (qg_d_pos (x := x) h).1
  rw [qg_eq0] at z
  omega
theorem qg_div1 (x : Int64) : x / 1 = x := by
  apply Int64.toInt_inj.mp
  have b := qg_rng x
  rw [Int64.toInt_div, show (1 : Int64).toInt = 1 from rfl, Int.tdiv_one]
  exact qg_bm b.1 b.2
theorem qg_one {x y : Int64} (h : 0 < y.toInt) (h1 : qg_d x y ≤ 1) : qg_d x y = 1 := by
  apply Int64.toInt_inj.mp
  have a := (qg_d_pos (x := x) h).1
  rw [Int64.le_iff_toInt_le, show (1 : Int64).toInt = 1 from rfl] at h1
  rw [show (1 : Int64).toInt = 1 from rfl]
  omega
theorem qg_euN : ∀ (t a b : Nat), a < 2 ^ 63 → b < 2 ^ 63 → qg_T t (lN a) (lN b) → qg_eu t (lN a) (lN b) = lN (Nat.gcd a b) := by
  intro t
  induction t with
  | zero =>
    intro a b ha hb h
    have e : b = 0 := by
      have h' : lN b = 0 := h
      rw [qg_eq0, pk_lT hb] at h'
      omega
    subst e
    rw [Nat.gcd_zero_right]
    rfl
  | succ t ih =>
    intro a b ha hb h
    have hb0 : 0 < b := by
      rcases Nat.eq_zero_or_pos b with z | z
      · subst z; exact absurd rfl h.1
      · exact z
    have e : qg_eu (t + 1) (lN a) (lN b) = qg_eu t (lN b) (qm_lr (lN a) (lN b)) := by simp only [qg_eu]; rw [if_neg h.1]
    have r : qm_lr (lN a) (lN b) = lN (a % b) := by unfold qm_lr; exact pk_lRem ha hb0 hb
    have h2 := h.2
    have lt := Nat.mod_lt a hb0
    rw [r] at h2
    rw [e, r, ih b (a % b) hb (by omega) h2, Nat.gcd_comm a b, Nat.gcd_rec b a, Nat.gcd_comm]
theorem qg_dN {a b : Nat} (ha : a < 2 ^ 63) (hb : b < 2 ^ 63) : qg_d (lN a) (lN b) = lN (Nat.gcd a b) := by
  obtain ⟨t, ht, hT⟩ := qg_T_all (lN a) (lN b)
  have g : Nat.gcd a b < 2 ^ 63 := by
    rcases Nat.eq_zero_or_pos a with z | z
    · subst z; rw [Nat.gcd_zero_left]; exact hb
    · exact Nat.lt_of_le_of_lt (Nat.le_of_dvd z (Nat.gcd_dvd_left a b)) ha
  unfold qg_d qg_abs
  rw [qg_eu_T t 200 _ _ hT (by omega), qg_euN t a b ha hb hT, if_pos]
  rw [Int64.le_iff_toInt_le, Int64.toInt_zero, pk_lT g]
  omega
/-! LOWEST TERMS, FRACTION -/
theorem qg_begin {o : Nat} {a b : Int64} {σ : qe_S} (h : 0 < b.toInt) : g_X0_begin o a b σ = some (qe_sl (qe_sl (qe_si σ o 2 0) o 0 (a / qg_d a b)) o 1 (b / qg_d a b)) := by
  unfold g_X0_begin g_X0_reduce
  simp only [qn_l, qn_j, qg_gcd, qn_b]
  by_cases c : qg_d a b ≤ 1
  · have e := qg_one h c
    rw [if_pos c, if_pos c, e, qg_div1, qg_div1, qn_o]
  · rw [if_neg c, if_neg c, qn_zl (qg_d_ne h), qn_zl (qg_d_ne h), qn_o]
def qg_lo (a b : Int64) (v : Int32) : Int64 := (if v = 0 then a else b) / qg_d a b
theorem qg_lowC {a b : Int64} {v : Int32} {σ : qe_S} (h : 0 < b.toInt) : g_X8_lowest a b v σ = some (qg_lo a b v, qe_sl (qe_sl (qe_si σ 34 2 0) 34 0 (a / qg_d a b)) 34 1 (b / qg_d a b)) := by
  unfold g_X8_lowest
  rw [qg_begin h, qn_o]
  unfold qg_lo
  by_cases c : v = 0
  · rw [if_pos c, if_pos c, qn_sl_j (by omega), qn_sl_eq]
  · rw [if_neg c, if_neg c, qn_sl_eq]
theorem qg_lowM {a b : Int64} {v : Int32} {τ : qe_S} (h : 0 < b.toInt) : g_X9_lowest a b v τ = some (qg_lo a b v, τ) := by
  unfold g_X9_lowest qg_lo
  simp only [qn_j, qg_div, qn_b]
  rw [qn_zl (qg_d_ne h), qn_zl (qg_d_ne h)]
  by_cases c : v = 0
  · rw [if_pos c, if_pos c]
  · rw [if_neg c, if_neg c]
/-- what the class's ratios do to a state: cells 32 to 34 alone -/
theorem qg_c34 {σ σ' : qe_S} (h1 : ∀ k, (k < 32 ∨ 34 < k) → σ'.1 k = σ.1 k) (h2 : ∀ k, (k < 32 ∨ 34 < k) → σ'.2 k = σ.2 k) : qz_c σ σ' :=
  ⟨by rw [h1 0 (by omega)], fun k a b => h1 k (by omega), by rw [h1 37 (by omega)], h1 39 (by omega), fun k a b => ⟨h1 k (by omega), h2 k (by omega)⟩⟩
theorem qz_W_of {σ σ' τ τ' : qe_S} (h : qz_W σ τ) (h1 : σ'.1 40 = σ.1 40) (h2 : τ'.1 4 = τ.1 4) : qz_W σ' τ' := by
  intro i hi
  rw [h1, h2]
  exact h i hi
theorem qz_ok_low {σ τ : qe_S} (hR : qz_R σ τ) {a b : Int64} {v : Int32} (h : 0 < b.toInt) : qz_ok (qm_b (g_X8_lowest a b v σ) fun b s => some (b, s)) (qm_b (g_X9_lowest a b v τ) fun b s => some (b, s)) := by
  refine ⟨qg_lo a b v, qe_sl (qe_sl (qe_si σ 34 2 0) 34 0 (a / qg_d a b)) 34 1 (b / qg_d a b), τ, by rw [qg_lowC h, qn_b], by rw [qg_lowM h, qn_b], qz_keep hR (qg_c34 (fun k hk => ?_) (fun k hk => ?_)) (qz_m_refl τ) (qz_W_of hR.2.2.1 ?_ rfl)⟩
  · funext j; exact qn_si_k (show k ≠ 34 by omega)
  · funext j; exact (qn_sl_k (show k ≠ 34 by omega)).trans (qn_sl_k (show k ≠ 34 by omega))
  · funext j; exact qn_si_k (σ := σ) (j := 2) (x := 0) (show 40 ≠ 34 by omega)
theorem qz_fraction : ql_op_fraction qz_R := by
  intro a0 a1 a2 σ τ hR
  have hR0 := hR
  obtain ⟨⟨ρ, w, d, o, m⟩, hI, hW, hT, hL⟩ := hR
  have hN := w.1
  show qz_ok (g_X8_fraction a0 a1 a2 σ) (g_X9_fraction a0 a1 a2 τ)
  unfold g_X8_fraction g_X9_fraction
  refine qz_gUnit w d m (fun _ => qz_ok_noL hR0 (-1)) ?_
  rintro u hu rfl
  refine qz_gRow (fun _ => qz_ok_noL hR0 (-1)) ?_
  rintro r hr rfl
  refine qz_gPart (qz_ok_noL hR0 (-2)) (fun _ => ?_)
  have wb := w.2.2.2.2.2.2.1 r u hr hu
  have mx := m.2.2.2 r u hr hu
  have hp : 0 < (nI (qr_b ρ r u)).toInt64.toInt := by
    rw [nI_l (by omega), lN_toInt (by omega)]; omega
  have hM : qm_g (((nI 50) + ((nI 12) * nI r)) + nI u) 122 (qm_l (τ.1 1 (((nI 50) + ((nI 12) * nI r)) + nI u).toNatClampNeg) fun a11 => qm_g (((nI 86) + ((nI 12) * nI r)) + nI u) 122 <| qm_l (τ.1 1 (((nI 86) + ((nI 12) * nI r)) + nI u).toNatClampNeg) fun a12 => qm_b (g_X9_lowest a11.toInt64 a12.toInt64 a2 τ) fun b14 s13 => some (b14, s13)) = qm_b (g_X9_lowest (nI (qr_a ρ r u)).toInt64 (nI (qr_b ρ r u)).toInt64 a2 τ) fun b14 s13 => some (b14, s13) := by
    rw [pk_mul, nI_add, nI_add, nI_add, nI_add, qn_g (by omega) (by omega), qn_l, qn_g (by omega) (by omega), qn_l, nI_clamp (by omega), nI_clamp (by omega), show 50 + 12 * r + u = 50 + (12 * r + u) by omega, show 86 + 12 * r + u = 86 + (12 * r + u) by omega, mx.1, mx.2]
  rw [qr_above w d hr hu, qn_b, qr_below w d hr hu, qn_b, hM]
  exact qz_ok_low hR0 hp
