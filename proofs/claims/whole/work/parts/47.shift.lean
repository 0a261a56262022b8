/-! SHIFT: both look at the same shifts, one behind the other -/
def qk_s (ρ : qr_R) (i : Nat) : Nat := (qw_f ρ 0 (qw_P ρ 2) (qw_E ρ) (i / 4) + (if i % 2 = 0 then 0 else qw_l ρ 0 (qw_P ρ 2) (qw_E ρ) (i / 4)) + 2 * qw_P ρ 2 - (qw_f ρ 2 (qw_P ρ 2) (qw_E ρ) (i / 4) + (if i % 4 < 2 then 0 else qw_l ρ 2 (qw_P ρ 2) (qw_E ρ) (i / 4)))) % qw_P ρ 2
def qk_w (g : Bool) (v m : Nat) : Bool := if g then decide (m < v) else decide (v < m)
def qk_t (ρ : qr_R) (g : Bool) : Nat → Nat × Nat
  | 0 => (0, qk_a ρ 0)
  | i + 1 => if qk_w g (qk_a ρ (qk_s ρ i)) (qk_t ρ g i).2 = true ∨ (qk_a ρ (qk_s ρ i) = (qk_t ρ g i).2 ∧ qk_s ρ i < (qk_t ρ g i).1) then (qk_s ρ i, qk_a ρ (qk_s ρ i)) else qk_t ρ g i
theorem qk_s_lt {ρ : qr_R} (hP : qw_P ρ 2 ≠ 0) (i : Nat) : qk_s ρ i < qw_P ρ 2 := Nat.mod_lt _ (by omega)
theorem qk_t_le {ρ : qr_R} (w : qr_wf ρ) (hP : qw_P ρ 2 ≠ 0) (g : Bool) : ∀ i, (qk_t ρ g i).1 < qw_P ρ 2 ∧ (qk_t ρ g i).2 < 2 ^ 40 := by
  intro i
  induction i with
  | zero => exact ⟨by show 0 < qw_P ρ 2; omega, qk_a_le w⟩
  | succ i ih =>
    simp only [qk_t]
    split
    · exact ⟨qk_s_lt hP i, qk_a_le w⟩
    · exact ih
def qk_sg (g : Bool) : Int32 := if g then 1 else -1
theorem qk_sgl {g : Bool} {v : Nat} (hv : v < 2 ^ 50) : ((qk_sg g).toInt64 * lN v).toInt = if g then (v : Int) else -(v : Int) := by
  have tv : (lN v).toInt = (v : Int) := pk_lT (by omega)
  cases g with
  | true =>
    have t1 : ((qk_sg true).toInt64).toInt = 1 := by decide
    rw [qg_mul (by rw [t1, tv]; omega) (by rw [t1, tv]; omega), t1, tv]
    simp
  | false =>
    have t1 : ((qk_sg false).toInt64).toInt = -1 := by decide
    rw [qg_mul (by rw [t1, tv]; omega) (by rw [t1, tv]; omega), t1, tv]
    simp
theorem qk_lt {g : Bool} {v m : Nat} (hv : v < 2 ^ 50) (hm : m < 2 ^ 50) : (qk_sg g).toInt64 * lN m < (qk_sg g).toInt64 * lN v ↔ qk_w g v m = true := by
  rw [Int64.lt_iff_toInt_lt, qk_sgl hv, qk_sgl hm]
  unfold qk_w
  cases g
  · simp
  · simp
theorem qk_eq {g : Bool} {v m : Nat} (hv : v < 2 ^ 50) (hm : m < 2 ^ 50) : (qk_sg g).toInt64 * lN v = (qk_sg g).toInt64 * lN m ↔ v = m := by
  rw [← Int64.toInt_inj, qk_sgl hv, qk_sgl hm]
  cases g
  · simp; omega
  · simp; omega
theorem qk_fm {a b P : Nat} {σ : qe_S} (h0 : 0 < P) (hP : P < 2 ^ 31) (ha : a < 2 ^ 33) (hb : b ≤ 2 * P) : g_J9_floorMod_f86c9 (lN a - lN b) (lN P) σ = some (lN ((a + 2 * P - b) % P), σ) := by
  rw [qg_fm h0 (by omega), qg_sub (by omega) (by omega)]
  have e : ((a : Int) - b) % (P : Int) = ((a + 2 * P - b : Nat) : Int) % (P : Int) := by
    rw [show ((a + 2 * P - b : Nat) : Int) = ((a : Int) - b) + P * 2 by omega, Int.add_mul_emod_self_left]
  rw [e, ← Int.natCast_emod, Int.toNat_natCast]
theorem qk_rm {a b P : Nat} (h0 : 0 < P) (hP : P < 2 ^ 31) (ha : a < 2 ^ 33) (hb : b ≤ 2 * P) : qm_lr ((lN a - lN b) + ((lN 2) * lN P)) (lN P) = lN ((a + 2 * P - b) % P) := by
  have e : (lN a - lN b) + ((lN 2) * lN P) = lN (a + 2 * P - b) := by
    apply Int64.toInt_inj.mp
    have t1 : (lN a - lN b).toInt = (a : Int) - b := qg_sub (by omega) (by omega)
    have t2 : ((lN 2) * lN P).toInt = ((2 * P : Nat) : Int) := by rw [lN_mul, pk_lT (by omega)]
    rw [qg_add (by omega) (by omega), t1, t2, pk_lT (by omega)]
    omega
  rw [e, qw_lr (by omega) h0 (by omega)]
theorem qk_irI {i d : Nat} (hi : i < 2 ^ 31) (h0 : 0 < d) (hd : d < 2 ^ 31) : qm_ir (nI i) (nI d) = nI (i % d) := pk_rem hi h0 hd
theorem qk_stepC {σ τ : qe_S} {ρ : qr_R} (w : qr_wf ρ) (hP : qw_P ρ 2 ≠ 0) (B : qw_B2 ρ σ τ) (g : Bool) {i n : Nat} (hi : i < 4 * qr_N ρ) : g_X8_extremeShift_L24 (qk_sg g) (lN (qw_P ρ 2)) (n + 1) (lN (qk_t ρ g i).1) ((qk_sg g).toInt64 * lN (qk_t ρ g i).2) (nI i) σ = g_X8_extremeShift_L24 (qk_sg g) (lN (qw_P ρ 2)) n (lN (qk_t ρ g (i + 1)).1) ((qk_sg g).toInt64 * lN (qk_t ρ g (i + 1)).2) (nI (i + 1)) σ := by
  have hN := w.1
  have Pb := qw_P_lt ρ 2
  have hu : i / 4 < qr_N ρ := by omega
  have tb := qk_t_le w hP g i
  have sl := qk_s_lt hP i
  have va := qk_a_le w (s := qk_s ρ i)
  have B' := B
  obtain ⟨d, m, c1, c2, h6, v1, v2⟩ := B
  have a1 := c1.2 (i / 4) (by omega)
  have a2 := c2.2 (i / 4) (by omega)
  have f0 := qw_f_lt (ρ := ρ) (r := 0) (b := qw_E ρ) (u := i / 4) (show 0 < qw_P ρ 2 by omega)
  have f2 := qw_f_lt (ρ := ρ) (r := 2) (b := qw_E ρ) (u := i / 4) (show 0 < qw_P ρ 2 by omega)
  have l0 := qw_l_le w (r := 0) (qw_P ρ 2) (qw_E ρ) (by omega) hu
  have l2 := qw_l_le w (r := 2) (qw_P ρ 2) (qw_E ρ) (by omega) hu
  have e23 : σ.2 23 (i / 4) = lN (qw_f ρ 0 (qw_P ρ 2) (qw_E ρ) (i / 4)) := a1.1
  have e24 : σ.2 24 (i / 4) = lN (qw_l ρ 0 (qw_P ρ 2) (qw_E ρ) (i / 4)) := a1.2
  have e26 : σ.2 26 (i / 4) = lN (qw_f ρ 2 (qw_P ρ 2) (qw_E ρ) (i / 4)) := a2.1
  have e27 : σ.2 27 (i / 4) = lN (qw_l ρ 2 (qw_P ρ 2) (qw_E ρ) (i / 4)) := a2.2
  have z4 : ¬ nI 4 = 0 := by decide
  have z2 : ¬ nI 2 = 0 := by decide
  have cmp : ∀ (x : Nat) (h : x = qk_s ρ i), (if (qk_sg g).toInt64 * lN (qk_t ρ g i).2 < (qk_sg g).toInt64 * lN (qk_a ρ x) then g_X8_extremeShift_L24 (qk_sg g) (lN (qw_P ρ 2)) n (lN x) ((qk_sg g).toInt64 * lN (qk_a ρ x)) (nI (i + 1)) σ else if (qk_sg g).toInt64 * lN (qk_a ρ x) = (qk_sg g).toInt64 * lN (qk_t ρ g i).2 then (if lN (qk_t ρ g i).1 ≤ lN x then g_X8_extremeShift_L24 (qk_sg g) (lN (qw_P ρ 2)) n (lN (qk_t ρ g i).1) ((qk_sg g).toInt64 * lN (qk_t ρ g i).2) (nI (i + 1)) σ else g_X8_extremeShift_L24 (qk_sg g) (lN (qw_P ρ 2)) n (lN x) ((qk_sg g).toInt64 * lN (qk_a ρ x)) (nI (i + 1)) σ) else g_X8_extremeShift_L24 (qk_sg g) (lN (qw_P ρ 2)) n (lN (qk_t ρ g i).1) ((qk_sg g).toInt64 * lN (qk_t ρ g i).2) (nI (i + 1)) σ) = g_X8_extremeShift_L24 (qk_sg g) (lN (qw_P ρ 2)) n (lN (qk_t ρ g (i + 1)).1) ((qk_sg g).toInt64 * lN (qk_t ρ g (i + 1)).2) (nI (i + 1)) σ := by
    intro x hx
    subst hx
    simp only [qk_t]
    by_cases p : qk_w g (qk_a ρ (qk_s ρ i)) (qk_t ρ g i).2 = true
    · rw [if_pos ((qk_lt (by omega) (by omega)).mpr p), if_pos (Or.inl p)]
    · rw [if_neg (fun z => p ((qk_lt (by omega) (by omega)).mp z))]
      by_cases q : qk_a ρ (qk_s ρ i) = (qk_t ρ g i).2
      · rw [if_pos ((qk_eq (by omega) (by omega)).mpr q)]
        by_cases r : (qk_t ρ g i).1 ≤ qk_s ρ i
        · rw [if_pos ((pk_lLE (by omega) (by omega)).mpr r), if_neg (fun z => z.elim p (fun y => by omega))]
        · rw [if_neg (fun z => r ((pk_lLE (by omega) (by omega)).mp z)), if_pos (Or.inr ⟨q, by omega⟩)]
      · rw [if_neg (fun z => q ((qk_eq (by omega) (by omega)).mp z)), if_neg (fun z => z.elim p (fun y => q y.1))]
  have nle : ¬ lN (qw_P ρ 2) ≤ 0 := fun z => hP ((qw_le0 (by omega)).mp z)
  have sdef : qk_s ρ i = (qw_f ρ 0 (qw_P ρ 2) (qw_E ρ) (i / 4) + (if i % 2 = 0 then 0 else qw_l ρ 0 (qw_P ρ 2) (qw_E ρ) (i / 4)) + 2 * qw_P ρ 2 - (qw_f ρ 2 (qw_P ρ 2) (qw_E ρ) (i / 4) + (if i % 4 < 2 then 0 else qw_l ρ 2 (qw_P ρ 2) (qw_E ρ) (i / 4)))) % qw_P ρ 2 := rfl
  have AC : ∀ x, x = qk_s ρ i → g_X8_allKeptBy (lN x) σ = some (lN (qk_a ρ x), σ) := fun x hx => qk_aC w hP B' (by omega)
  simp only [g_X8_extremeShift_L24, qn_j, qn_l]
  rw [d.1, pk_mul, if_neg (nI_ge hi (by omega)), if_neg nle, qn_z z4, qn_z z2, pk_div (by omega) (by omega) (by omega), qk_irI (by omega) (by omega) (by omega), qk_irI (by omega) (by omega) (by omega), nI_clamp (by omega), e23, e24, e26, e27]
  simp only [qn_g (show i / 4 < 12 by omega) (show 12 < 2 ^ 31 by omega), qn_z z4]
  by_cases p2 : i % 2 = 0
  · rw [if_pos p2] at sdef
    rw [if_pos (show nI (i % 2) = 0 by rw [p2]; rfl)]
    by_cases p4 : i % 4 < 2
    · rw [if_pos p4] at sdef
      rw [if_neg (nI_ge p4 (by omega)), show (0 : Int64) = lN 0 from rfl, lN_add, lN_add, qk_fm (by omega) (by omega) (by omega) (by omega), qn_b, ← sdef, AC _ rfl, qn_b, nI_1]
      exact cmp _ rfl
    · rw [if_neg p4] at sdef
      rw [if_pos (nI_le (by omega) (by omega)), show (0 : Int64) = lN 0 from rfl, lN_add, lN_add, qk_fm (by omega) (by omega) (by omega) (by omega), qn_b, ← sdef, AC _ rfl, qn_b, nI_1]
      exact cmp _ rfl
  · rw [if_neg p2] at sdef
    rw [if_neg (nI_ne0 (by omega) (by omega))]
    by_cases p4 : i % 4 < 2
    · rw [if_pos p4] at sdef
      rw [if_neg (nI_ge p4 (by omega)), show (0 : Int64) = lN 0 from rfl, lN_add, lN_add, qk_fm (by omega) (by omega) (by omega) (by omega), qn_b, ← sdef, AC _ rfl, qn_b, nI_1]
      exact cmp _ rfl
    · rw [if_neg p4] at sdef
      rw [if_pos (nI_le (by omega) (by omega)), lN_add, lN_add, qk_fm (by omega) (by omega) (by omega) (by omega), qn_b, ← sdef, AC _ rfl, qn_b, nI_1]
      exact cmp _ rfl
theorem qk_exC {σ τ : qe_S} {ρ : qr_R} (w : qr_wf ρ) (hP : qw_P ρ 2 ≠ 0) (B : qw_B2 ρ σ τ) (g : Bool) : g_X8_extremeShift (qk_sg g) σ = some (lN (qk_t ρ g (4 * qr_N ρ)).1, σ) := by
  have hN := w.1
  have L : ∀ k i n, i + k = 4 * qr_N ρ → k < n → g_X8_extremeShift_L24 (qk_sg g) (lN (qw_P ρ 2)) n (lN (qk_t ρ g i).1) ((qk_sg g).toInt64 * lN (qk_t ρ g i).2) (nI i) σ = some (lN (qk_t ρ g (4 * qr_N ρ)).1, σ) := by
    intro k
    induction k with
    | zero =>
      intro i n hi hn
      obtain ⟨q, rfl⟩ : ∃ q, n = q + 1 := ⟨n - 1, by omega⟩
      obtain rfl : i = 4 * qr_N ρ := by omega
      simp only [g_X8_extremeShift_L24]
      rw [B.1.1, pk_mul, if_pos (nI_le (by omega) (by omega))]
    | succ k ih =>
      intro i n hi hn
      obtain ⟨q, rfl⟩ : ∃ q, n = q + 1 := ⟨n - 1, by omega⟩
      rw [qk_stepC w hP B g (by omega)]
      exact ih (i + 1) q (by omega) (by omega)
  have h := L (4 * qr_N ρ) 0 qm_F (by omega) (by rw [qn_F]; omega)
  have a0 : g_X8_allKeptBy 0 σ = some (lN (qk_a ρ 0), σ) := qk_aC w hP B (s := 0) (by omega)
  unfold g_X8_extremeShift
  rw [qn_l, qn_l, a0, qn_b, qn_l, qn_l, B.2.2.1.1]
  exact h
theorem qk_stepM {σ τ : qe_S} {ρ : qr_R} (w : qr_wf ρ) (hP : qw_P ρ 2 ≠ 0) (B : qw_B2 ρ σ τ) (g : Bool) {v : Int32} (hv : v = if g then 0 else 1) (K : Int64 → Int64 → qe_S → Option (Int32 × qe_S)) {u k n : Nat} (hu : u < qr_N ρ) (hk : k < 4) : g_X9_shift_L56 K v (nI u) (n + 1) (lN (qk_t ρ g (4 * u + k)).1) (lN (qk_t ρ g (4 * u + k)).2) (nI k) τ = g_X9_shift_L56 K v (nI u) n (lN (qk_t ρ g (4 * u + k + 1)).1) (lN (qk_t ρ g (4 * u + k + 1)).2) (nI (k + 1)) τ := by
  have hN := w.1
  have Pb := qw_P_lt ρ 2
  generalize hi : 4 * u + k = i
  have i4 : i / 4 = u := by omega
  have i2 : i % 2 = k % 2 := by omega
  have im : i % 4 = k := by omega
  have tb := qk_t_le w hP g i
  have sl := qk_s_lt hP i
  have va := qk_a_le w (s := qk_s ρ i)
  have B' := B
  obtain ⟨d, m, c1, c2, h6, v1, v2⟩ := B
  have a1 := v1 u hu
  have a2 := v2 u hu
  have f0 := qw_f_lt (ρ := ρ) (r := 0) (b := qw_E ρ) (u := u) (show 0 < qw_P ρ 2 by omega)
  have f2 := qw_f_lt (ρ := ρ) (r := 2) (b := qw_E ρ) (u := u) (show 0 < qw_P ρ 2 by omega)
  have l0 := qw_l_le w (r := 0) (qw_P ρ 2) (qw_E ρ) (by omega) hu
  have l2 := qw_l_le w (r := 2) (qw_P ρ 2) (qw_E ρ) (by omega) hu
  have z2 : ¬ nI 2 = 0 := by decide
  have sdef : qk_s ρ i = (qw_f ρ 0 (qw_P ρ 2) (qw_E ρ) u + (if k % 2 = 0 then 0 else qw_l ρ 0 (qw_P ρ 2) (qw_E ρ) u) + 2 * qw_P ρ 2 - (qw_f ρ 2 (qw_P ρ 2) (qw_E ρ) u + (if k < 2 then 0 else qw_l ρ 2 (qw_P ρ 2) (qw_E ρ) u))) % qw_P ρ 2 := by
    unfold qk_s
    rw [i4, i2, im]
  have AC : ∀ x, x = qk_s ρ i → g_X9_overlapOf (lN x) τ = some (lN (qk_a ρ x), τ) := fun x hx => qk_aM w hP B' (by omega)
  have cmp : ∀ J : Int64 → Int64 → Option (Int32 × qe_S), (if v = 0 then (if lN (qk_a ρ (qk_s ρ i)) ≤ lN (qk_t ρ g i).2 then (if (0 : Int32) = 0 then (if lN (qk_a ρ (qk_s ρ i)) = lN (qk_t ρ g i).2 then (if lN (qk_s ρ i) < lN (qk_t ρ g i).1 then J (lN (qk_s ρ i)) (lN (qk_a ρ (qk_s ρ i))) else J (lN (qk_t ρ g i).1) (lN (qk_t ρ g i).2)) else J (lN (qk_t ρ g i).1) (lN (qk_t ρ g i).2)) else J (lN (qk_s ρ i)) (lN (qk_a ρ (qk_s ρ i)))) else (if (1 : Int32) = 0 then (if lN (qk_a ρ (qk_s ρ i)) = lN (qk_t ρ g i).2 then (if lN (qk_s ρ i) < lN (qk_t ρ g i).1 then J (lN (qk_s ρ i)) (lN (qk_a ρ (qk_s ρ i))) else J (lN (qk_t ρ g i).1) (lN (qk_t ρ g i).2)) else J (lN (qk_t ρ g i).1) (lN (qk_t ρ g i).2)) else J (lN (qk_s ρ i)) (lN (qk_a ρ (qk_s ρ i))))) else (if lN (qk_t ρ g i).2 ≤ lN (qk_a ρ (qk_s ρ i)) then (if (0 : Int32) = 0 then (if lN (qk_a ρ (qk_s ρ i)) = lN (qk_t ρ g i).2 then (if lN (qk_s ρ i) < lN (qk_t ρ g i).1 then J (lN (qk_s ρ i)) (lN (qk_a ρ (qk_s ρ i))) else J (lN (qk_t ρ g i).1) (lN (qk_t ρ g i).2)) else J (lN (qk_t ρ g i).1) (lN (qk_t ρ g i).2)) else J (lN (qk_s ρ i)) (lN (qk_a ρ (qk_s ρ i)))) else (if (1 : Int32) = 0 then (if lN (qk_a ρ (qk_s ρ i)) = lN (qk_t ρ g i).2 then (if lN (qk_s ρ i) < lN (qk_t ρ g i).1 then J (lN (qk_s ρ i)) (lN (qk_a ρ (qk_s ρ i))) else J (lN (qk_t ρ g i).1) (lN (qk_t ρ g i).2)) else J (lN (qk_t ρ g i).1) (lN (qk_t ρ g i).2)) else J (lN (qk_s ρ i)) (lN (qk_a ρ (qk_s ρ i)))))) = J (lN (qk_t ρ g (i + 1)).1) (lN (qk_t ρ g (i + 1)).2) := by
    intro J
    rw [if_pos (show (0 : Int32) = 0 from rfl), if_neg qn_10]
    simp only [qk_t]
    have E : ∀ X Y : Option (Int32 × qe_S), (if lN (qk_a ρ (qk_s ρ i)) = lN (qk_t ρ g i).2 then (if lN (qk_s ρ i) < lN (qk_t ρ g i).1 then X else Y) else Y) = if (qk_a ρ (qk_s ρ i) = (qk_t ρ g i).2 ∧ qk_s ρ i < (qk_t ρ g i).1) then X else Y := by
      intro X Y
      by_cases q : qk_a ρ (qk_s ρ i) = (qk_t ρ g i).2
      · rw [if_pos ((pk_lEQ (by omega) (by omega)).mpr q)]
        by_cases r : qk_s ρ i < (qk_t ρ g i).1
        · rw [if_pos ((pk_lLT (by omega) (by omega)).mpr r), if_pos ⟨q, r⟩]
        · rw [if_neg (fun z => r ((pk_lLT (by omega) (by omega)).mp z)), if_neg (fun z => r z.2)]
      · rw [if_neg (fun z => q ((pk_lEQ (by omega) (by omega)).mp z)), if_neg (fun z => q z.1)]
    rw [E]
    have fin : ∀ p : Bool, p = qk_w g (qk_a ρ (qk_s ρ i)) (qk_t ρ g i).2 → (if p = true then J (lN (qk_s ρ i)) (lN (qk_a ρ (qk_s ρ i))) else if (qk_a ρ (qk_s ρ i) = (qk_t ρ g i).2 ∧ qk_s ρ i < (qk_t ρ g i).1) then J (lN (qk_s ρ i)) (lN (qk_a ρ (qk_s ρ i))) else J (lN (qk_t ρ g i).1) (lN (qk_t ρ g i).2)) = J (lN (if qk_w g (qk_a ρ (qk_s ρ i)) (qk_t ρ g i).2 = true ∨ (qk_a ρ (qk_s ρ i) = (qk_t ρ g i).2 ∧ qk_s ρ i < (qk_t ρ g i).1) then (qk_s ρ i, qk_a ρ (qk_s ρ i)) else qk_t ρ g i).1) (lN (if qk_w g (qk_a ρ (qk_s ρ i)) (qk_t ρ g i).2 = true ∨ (qk_a ρ (qk_s ρ i) = (qk_t ρ g i).2 ∧ qk_s ρ i < (qk_t ρ g i).1) then (qk_s ρ i, qk_a ρ (qk_s ρ i)) else qk_t ρ g i).2) := by
      intro p hp
      by_cases a : p = true
      · rw [if_pos a, if_pos (Or.inl (hp ▸ a))]
      · rw [if_neg a]
        by_cases b : (qk_a ρ (qk_s ρ i) = (qk_t ρ g i).2 ∧ qk_s ρ i < (qk_t ρ g i).1)
        · rw [if_pos b, if_pos (Or.inr b)]
        · rw [if_neg b, if_neg (fun z => z.elim (fun y => a (hp ▸ y)) b)]
    cases g with
    | true =>
      have v0 : v = 0 := hv
      rw [if_pos v0]
      by_cases p : qk_a ρ (qk_s ρ i) ≤ (qk_t ρ true i).2
      · have f := fin false (by unfold qk_w; rw [if_pos rfl]; exact (decide_eq_false (by omega)).symm)
        rw [if_neg (show ¬ (false = true) from by decide)] at f
        rw [if_pos ((pk_lLE (by omega) (by omega)).mpr p)]
        exact f
      · have f := fin true (by unfold qk_w; rw [if_pos rfl]; exact (decide_eq_true (by omega)).symm)
        rw [if_pos (show true = true from rfl)] at f
        rw [if_neg (fun z => p ((pk_lLE (by omega) (by omega)).mp z))]
        exact f
    | false =>
      have v0 : v = 1 := hv
      rw [if_neg (show ¬ v = 0 by rw [v0]; exact qn_10)]
      by_cases p : (qk_t ρ false i).2 ≤ qk_a ρ (qk_s ρ i)
      · have f := fin false (by unfold qk_w; rw [if_neg (show ¬ (false = true) from by decide)]; exact (decide_eq_false (by omega)).symm)
        rw [if_neg (show ¬ (false = true) from by decide)] at f
        rw [if_pos ((pk_lLE (by omega) (by omega)).mpr p)]
        exact f
      · have f := fin true (by unfold qk_w; rw [if_neg (show ¬ (false = true) from by decide)]; exact (decide_eq_true (by omega)).symm)
        rw [if_pos (show true = true from rfl)] at f
        rw [if_neg (fun z => p ((pk_lLE (by omega) (by omega)).mp z))]
        exact f
  simp only [g_X9_shift_L56, qn_j, qn_l]
  rw [if_neg (nI_ge hk (by omega)), qn_z z2, qk_irI (by omega) (by omega) (by omega), nI_clamp (by omega), a1.1, a1.2, a2.1, a2.2, h6]
  simp only [qn_g (show u < 12 by omega) (show 12 < 2 ^ 31 by omega), qn_zl (qw_lz (show 0 < qw_P ρ 2 by omega) (show qw_P ρ 2 < 2 ^ 63 by omega))]
  by_cases p2 : k % 2 = 0
  · rw [if_pos p2] at sdef
    rw [if_pos (show nI (k % 2) = 0 by rw [p2]; rfl)]
    by_cases p4 : k < 2
    · rw [if_pos p4] at sdef
      rw [if_neg (nI_ge p4 (by omega)), show (0 : Int64) = lN 0 from rfl, lN_add, lN_add, qk_rm (by omega) (by omega) (by omega) (by omega), ← sdef, AC _ rfl, qn_b, nI_1]
      exact cmp (fun x y => g_X9_shift_L56 K v (nI u) n x y (nI (k + 1)) τ)
    · rw [if_neg p4] at sdef
      rw [if_pos (nI_le (by omega) (by omega)), show (0 : Int64) = lN 0 from rfl, lN_add, lN_add, qk_rm (by omega) (by omega) (by omega) (by omega), ← sdef, AC _ rfl, qn_b, nI_1]
      exact cmp (fun x y => g_X9_shift_L56 K v (nI u) n x y (nI (k + 1)) τ)
  · rw [if_neg p2] at sdef
    rw [if_neg (nI_ne0 (by omega) (by omega))]
    by_cases p4 : k < 2
    · rw [if_pos p4] at sdef
      rw [if_neg (nI_ge p4 (by omega)), show (0 : Int64) = lN 0 from rfl, lN_add, lN_add, qk_rm (by omega) (by omega) (by omega) (by omega), ← sdef, AC _ rfl, qn_b, nI_1]
      exact cmp (fun x y => g_X9_shift_L56 K v (nI u) n x y (nI (k + 1)) τ)
    · rw [if_neg p4] at sdef
      rw [if_pos (nI_le (by omega) (by omega)), lN_add, lN_add, qk_rm (by omega) (by omega) (by omega) (by omega), ← sdef, AC _ rfl, qn_b, nI_1]
      exact cmp (fun x y => g_X9_shift_L56 K v (nI u) n x y (nI (k + 1)) τ)
theorem qk_exM {σ τ : qe_S} {ρ : qr_R} (w : qr_wf ρ) (hP : qw_P ρ 2 ≠ 0) (B : qw_B2 ρ σ τ) (g : Bool) {v : Int32} (hv : v = if g then 0 else 1) : ∀ q u n, u + q = qr_N ρ → q < n → g_X9_shift_L42 v n (lN (qk_t ρ g (4 * u)).1) (lN (qk_t ρ g (4 * u)).2) (nI u) τ = some ((lN (qk_t ρ g (4 * qr_N ρ)).1).toInt32, τ) := by
  have hN := w.1
  obtain ⟨F, hF⟩ : ∃ F, qm_F = F + 1 + 1 + 1 + 1 + 1 := ⟨4995, qn_F⟩
  intro q
  induction q with
  | zero =>
    intro u n hi hn
    obtain ⟨q, rfl⟩ : ∃ q, n = q + 1 := ⟨n - 1, by omega⟩
    obtain rfl : u = qr_N ρ := by omega
    simp only [g_X9_shift_L42]
    rw [qn_g0 (by omega) (by omega), qn_l, qr_clamp0, B.2.1.1, if_pos (nI_le (by omega) (by omega))]
  | succ q ih =>
    intro u n hi hn
    obtain ⟨n, rfl⟩ : ∃ q, n = q + 1 := ⟨n - 1, by omega⟩
    have hu : u < qr_N ρ := by omega
    simp only [g_X9_shift_L42]
    rw [qn_g0 (by omega) (by omega), qn_l, qr_clamp0, B.2.1.1, if_neg (nI_ge hu (by omega)), qn_l, hF, ← nI_0]
    have S := fun (K : Int64 → Int64 → qe_S → Option (Int32 × qe_S)) (k n : Nat) (hk : k < 4) => qk_stepM w hP B g hv K (k := k) (n := n) hu hk
    have s0 := S (fun (b38 : Int64) (b39 : Int64) (s40 : qe_S) => qm_l (nI u + (1 : Int32)) fun a41 => g_X9_shift_L42 v n b38 b39 a41 s40) 0 (F + 1 + 1 + 1 + 1) (by omega)
    have s1 := S (fun (b38 : Int64) (b39 : Int64) (s40 : qe_S) => qm_l (nI u + (1 : Int32)) fun a41 => g_X9_shift_L42 v n b38 b39 a41 s40) 1 (F + 1 + 1 + 1) (by omega)
    have s2 := S (fun (b38 : Int64) (b39 : Int64) (s40 : qe_S) => qm_l (nI u + (1 : Int32)) fun a41 => g_X9_shift_L42 v n b38 b39 a41 s40) 2 (F + 1 + 1) (by omega)
    have s3 := S (fun (b38 : Int64) (b39 : Int64) (s40 : qe_S) => qm_l (nI u + (1 : Int32)) fun a41 => g_X9_shift_L42 v n b38 b39 a41 s40) 3 (F + 1) (by omega)
    rw [Nat.add_zero] at s0
    refine s0.trans (s1.trans (s2.trans (s3.trans ?_)))
    simp only [g_X9_shift_L56]
    rw [if_pos (nI_le (by omega) (by omega)), qn_l, nI_1, show 4 * u + 3 + 1 = 4 * (u + 1) by omega]
    exact ih (u + 1) n (by omega) (by omega)
theorem qz_shift : ql_op_shift qz_R := by
  intro a0 σ τ hR
  have hR0 := hR
  obtain ⟨⟨ρ, w, d, o, m⟩, hI, hW, hT, hL⟩ := hR
  have hN := w.1
  show qz_ok (g_X8_shift a0 σ) (g_X9_shift a0 τ)
  unfold g_X8_shift g_X9_shift
  refine qz_gIn (n := 1) (by omega) (fun _ => ⟨qz_ok_no hR0 (-1), qz_ok_no hR0 (-1)⟩) ?_
  rintro r hr rfl
  refine qw_gBoth hR0 w d o m (fun τ' h => qz_ok_no h (-7)) (fun σ' τ' hP B h => ?_)
  have fin : ∀ (g : Bool), nI r = (if g then 0 else 1) → qz_ok (qm_b (g_X8_extremeShift (qk_sg g) σ') fun b8 s7 => some (b8.toInt32, s7)) (qm_l (0 : Int64) fun b5 => qm_b (g_X9_overlapOf (0 : Int64) τ') fun b7 s6 => qm_l (0 : Int32) fun a8 => g_X9_shift_L42 (nI r) qm_F b5 b7 a8 s6) := by
    intro g hg
    have a0 : g_X9_overlapOf 0 τ' = some (lN (qk_a ρ 0), τ') := qk_aM w hP B (s := 0) (by omega)
    have e := qk_exM w hP B g hg (qr_N ρ) 0 qm_F (by omega) (by rw [qn_F]; omega)
    rw [qk_exC w hP B g, qn_b, qn_l, a0, qn_b, qn_l]
    refine ⟨_, σ', τ', rfl, ?_, h⟩
    exact e
  by_cases c : nI r = 0
  · rw [if_pos c]
    exact fin true c
  · rw [if_neg c]
    have r1 : r = 1 := by
      have : r ≠ 0 := fun z => c (by rw [z]; rfl)
      omega
    subst r1
    exact fin false rfl
