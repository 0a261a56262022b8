/-! RUNS as numbers: where others are chosen -/
theorem qx_md {x P : Nat} (h : x < 2 * P) : x % P = if x < P then x else x - P := by
  by_cases c : x < P
  · rw [if_pos c, Nat.mod_eq_of_lt c]
  · rw [if_neg c, Nat.mod_eq_sub_mod (by omega), Nat.mod_eq_of_lt (by omega)]
theorem qx_d {s f P : Nat} (hs : s < P) (hf : f < P) : (s + P - f) % P = if f ≤ s then s - f else s + P - f := by
  rw [qx_md (by omega)]
  by_cases c : f ≤ s
  · rw [if_pos c, if_neg (by omega)]; omega
  · rw [if_neg c, if_pos (by omega)]
abbrev qx_P (ρ : qr_R) : Nat := qw_P ρ 0
abbrev qx_F (ρ : qr_R) (u : Nat) : Nat := qw_f ρ 0 (qw_P ρ 0) (qw_E ρ) u
abbrev qx_L (ρ : qr_R) (u : Nat) : Nat := qw_l ρ 0 (qw_P ρ 0) (qw_E ρ) u
abbrev qx_S (ρ : qr_R) (j : Nat) : Nat := qw_S ρ 0 (qw_P ρ 0) (qw_E ρ) j
abbrev qx_o (ρ : qr_R) (s u : Nat) : Bool := qw_on ρ 0 (qw_P ρ 0) (qw_E ρ) s u
abbrev qx_f (ρ : qr_R) (s : Nat) : Nat := qw_ch ρ 0 (qw_P ρ 0) (qw_E ρ) s
def qx_e (ρ : qr_R) (u : Nat) : Nat := (qx_F ρ u + qx_L ρ u) % qx_P ρ
theorem qx_PL {ρ : qr_R} (hP : qx_P ρ ≠ 0) : qx_P ρ = qw_lc (qr_b ρ 0) 1 (qr_N ρ) := by
  have h : qw_L ρ 0 = qw_lc (qr_b ρ 0) 1 (qr_N ρ) := if_neg (by omega)
  rw [← h]
  have hP' : qw_P ρ 0 ≠ 0 := hP
  show qw_P ρ 0 = qw_L ρ 0
  unfold qw_P at hP' ⊢
  split
  · rename_i c; rw [if_pos c] at hP'; exact absurd rfl hP'
  · rfl
theorem qx_L1 {ρ : qr_R} (w : qr_wf ρ) (hP : qx_P ρ ≠ 0) {u : Nat} (hu : u < qr_N ρ) : 1 ≤ qx_L ρ u ∧ qx_L ρ u ≤ qx_P ρ := by
  refine ⟨?_, qw_l_le w _ _ (by omega) hu⟩
  have hb := w.2.2.2.2.2.2.1 0 u (by omega) hu
  have ha := w.2.2.2.2.2.2.2 u hu
  have dv : qr_b ρ 0 u ∣ qx_P ρ := by rw [qx_PL hP]; exact qw_lc_d hu
  have le := Nat.le_of_dvd (by omega) dv
  have q : 1 ≤ qx_P ρ / qr_b ρ 0 u := (Nat.le_div_iff_mul_le (by omega)).mpr (by omega)
  show 1 ≤ qw_l ρ 0 (qw_P ρ 0) (qw_E ρ) u
  rw [qw_l_E hu]
  exact Nat.mul_le_mul ha q
theorem qx_Ft {ρ : qr_R} (w : qr_wf ρ) {j : Nat} (hj : j < qr_N ρ) : qx_F ρ (qr_t ρ j) = qx_S ρ j % qx_P ρ := by
  show qw_f ρ 0 (qw_P ρ 0) (qw_E ρ) (qr_t ρ j) = qw_S ρ 0 (qw_P ρ 0) (qw_E ρ) j % qw_P ρ 0
  unfold qw_f
  rw [qw_E_bit, decide_eq_true (qr_t_lt w hj), if_pos rfl, qr_pos_of w hj]
theorem qx_et {ρ : qr_R} (w : qr_wf ρ) {j : Nat} (hj : j < qr_N ρ) : qx_e ρ (qr_t ρ j) = qx_S ρ (j + 1) % qx_P ρ := by
  unfold qx_e
  rw [qx_Ft w hj, Nat.mod_add_mod]
  rfl
theorem qx_eN {ρ : qr_R} {u : Nat} (hu : qr_N ρ ≤ u) : qx_e ρ u = 0 := by
  have nb : ¬ (qw_E ρ).testBit u = true := by
    rw [qw_E_bit, decide_eq_false (by omega)]
    decide
  unfold qx_e
  rw [show qx_F ρ u = 0 from if_neg nb, show qx_L ρ u = 0 from if_neg nb, Nat.zero_add, Nat.zero_mod]
theorem qx_F_lt {ρ : qr_R} (hP : qx_P ρ ≠ 0) (u : Nat) : qx_F ρ u < qx_P ρ := qw_f_lt (Nat.pos_of_ne_zero hP)
theorem qx_e_lt {ρ : qr_R} (hP : qx_P ρ ≠ 0) (u : Nat) : qx_e ρ u < qx_P ρ := Nat.mod_lt _ (by omega)
theorem qx_Fe {ρ : qr_R} (w : qr_wf ρ) {u : Nat} (hu : u < qr_N ρ) (h0 : qx_F ρ u ≠ 0) : ∃ v, v < qr_N ρ ∧ qx_e ρ v = qx_F ρ u := by
  obtain ⟨hp, he⟩ := qr_pos_ex w hu
  generalize qr_pos ρ u = j at hp he
  cases j with
  | zero =>
    rw [← he, qx_Ft w hp] at h0
    exact absurd (show qx_S ρ 0 % qx_P ρ = 0 by show 0 % qx_P ρ = 0; exact Nat.zero_mod _) h0
  | succ j =>
    refine ⟨qr_t ρ j, qr_t_lt w (by omega), ?_⟩
    rw [qx_et w (by omega), ← he, qx_Ft w hp]
/-- where no arc ends, the same are chosen as ahead of it -/
theorem qx_same {ρ : qr_R} (w : qr_wf ρ) (hP : qx_P ρ ≠ 0) {s : Nat} (h1 : s + 1 < qx_P ρ) (h : ∀ u, u < qr_N ρ → qx_e ρ u ≠ s + 1) : qx_f ρ (s + 1) = qx_f ρ s := by
  refine qb_congr (fun u hu => ?_)
  have l := qx_L1 w hP hu
  have f := qx_F_lt hP u
  have hF : qx_F ρ u ≠ s + 1 := fun z => by
    obtain ⟨v, v1, v2⟩ := qx_Fe w hu (by omega)
    exact h v v1 (v2.trans z)
  have he := h u hu
  unfold qx_e at he
  rw [qx_md (by omega)] at he
  show decide ((s + 1 + qx_P ρ - qx_F ρ u) % qx_P ρ < qx_L ρ u) = decide ((s + qx_P ρ - qx_F ρ u) % qx_P ρ < qx_L ρ u)
  rw [qx_d (by omega) f, qx_d (by omega) f]
  apply decide_eq_decide.mpr
  by_cases c1 : qx_F ρ u ≤ s + 1
  · rw [if_pos c1, if_pos (by omega)]
    by_cases c2 : qx_F ρ u + qx_L ρ u < qx_P ρ
    · rw [if_pos c2] at he; omega
    · rw [if_neg c2] at he; omega
  · rw [if_neg c1, if_neg (by omega)]
    by_cases c2 : qx_F ρ u + qx_L ρ u < qx_P ρ
    · rw [if_pos c2] at he; omega
    · rw [if_neg c2] at he; omega
/-- where an arc ends, others are chosen -/
theorem qx_differ {ρ : qr_R} (w : qr_wf ρ) (hP : qx_P ρ ≠ 0) {s : Nat} (h1 : s + 1 < qx_P ρ) (h : ∃ u, u < qr_N ρ ∧ qx_e ρ u = s + 1) : qx_f ρ (s + 1) ≠ qx_f ρ s := by
  have ex : ∃ j, j < qr_N ρ ∧ qx_S ρ (j + 1) % qx_P ρ = s + 1 := by
    obtain ⟨u, hu, he⟩ := h
    obtain ⟨hp, e⟩ := qr_pos_ex w hu
    exact ⟨qr_pos ρ u, hp, by rw [← qx_et w hp, e]; exact he⟩
  obtain ⟨j, ⟨hj, he⟩, least⟩ := pk_least (fun j => j < qr_N ρ ∧ qx_S ρ (j + 1) % qx_P ρ = s + 1) ex
  have tl := qr_t_lt w hj
  have l := qx_L1 w hP tl
  have f := qx_F_lt hP (qr_t ρ j)
  have ft := qx_Ft w hj
  have et := qx_et w hj
  rw [he] at et
  have et2 := et
  unfold qx_e at et2
  rw [qx_md (by omega)] at et2
  have lt : qx_L ρ (qr_t ρ j) < qx_P ρ := by
    apply Nat.lt_of_not_le
    intro z
    have z2 : qx_L ρ (qr_t ρ j) = qx_P ρ := by omega
    rw [if_neg (by omega)] at et2
    have f2 : qx_S ρ j % qx_P ρ = s + 1 := by omega
    cases j with
    | zero =>
      have : qx_S ρ 0 % qx_P ρ = 0 := by show 0 % qx_P ρ = 0; exact Nat.zero_mod _
      omega
    | succ j => exact least j (by omega) ⟨by omega, f2⟩
  intro heq
  have hb := qb_inj heq (qr_t ρ j) tl
  have hb' : decide ((s + 1 + qx_P ρ - qx_F ρ (qr_t ρ j)) % qx_P ρ < qx_L ρ (qr_t ρ j)) = decide ((s + qx_P ρ - qx_F ρ (qr_t ρ j)) % qx_P ρ < qx_L ρ (qr_t ρ j)) := hb
  rw [qx_d (by omega) f, qx_d (by omega) f] at hb'
  have hb2 := decide_eq_decide.mp hb'
  by_cases c2 : qx_F ρ (qr_t ρ j) + qx_L ρ (qr_t ρ j) < qx_P ρ
  · rw [if_pos c2] at et2
    rw [if_pos (by omega), if_pos (by omega)] at hb2
    omega
  · rw [if_neg c2] at et2
    rw [if_neg (by omega), if_neg (by omega)] at hb2
    omega
-- the next end behind a place
def qx_n (ρ : qr_R) (pl : Nat) : Nat → Nat
  | 0 => qx_P ρ
  | i + 1 => if qx_e ρ i ≤ pl then qx_n ρ pl i else min (qx_n ρ pl i) (qx_e ρ i)
theorem qx_n_le {ρ : qr_R} {pl : Nat} (h : pl < qx_P ρ) : ∀ i, pl < qx_n ρ pl i ∧ qx_n ρ pl i ≤ qx_P ρ := by
  intro i
  induction i with
  | zero => exact ⟨h, Nat.le_refl _⟩
  | succ i ih =>
    simp only [qx_n]
    split
    · exact ih
    · omega
theorem qx_n_min {ρ : qr_R} {pl u : Nat} (he : pl < qx_e ρ u) : ∀ i, u < i → qx_n ρ pl i ≤ qx_e ρ u := by
  intro i
  induction i with
  | zero => intro h; omega
  | succ i ih =>
    intro h
    simp only [qx_n]
    by_cases c : u = i
    · subst c
      rw [if_neg (by omega)]
      omega
    · have := ih (by omega)
      split
      · exact this
      · omega
theorem qx_n_is {ρ : qr_R} {pl : Nat} : ∀ i, qx_n ρ pl i = qx_P ρ ∨ ∃ u, u < i ∧ qx_e ρ u = qx_n ρ pl i ∧ pl < qx_e ρ u := by
  intro i
  induction i with
  | zero => exact Or.inl rfl
  | succ i ih =>
    simp only [qx_n]
    have up : (qx_n ρ pl i = qx_P ρ ∨ ∃ u, u < i ∧ qx_e ρ u = qx_n ρ pl i ∧ pl < qx_e ρ u) → (qx_n ρ pl i = qx_P ρ ∨ ∃ u, u < i + 1 ∧ qx_e ρ u = qx_n ρ pl i ∧ pl < qx_e ρ u) := by
      rintro (h | ⟨u, h1, h2⟩)
      · exact Or.inl h
      · exact Or.inr ⟨u, by omega, h2⟩
    by_cases c : qx_e ρ i ≤ pl
    · rw [if_pos c]; exact up ih
    · rw [if_neg c]
      by_cases c2 : qx_n ρ pl i ≤ qx_e ρ i
      · rw [Nat.min_eq_left c2]; exact up ih
      · rw [Nat.min_eq_right (by omega)]
        exact Or.inr ⟨i, by omega, rfl, by omega⟩
def qx_c (ρ : qr_R) : Nat → Nat
  | 0 => 0
  | k + 1 => if qx_c ρ k < qx_P ρ then qx_n ρ (qx_c ρ k) 12 else qx_c ρ k
theorem qx_c_le {ρ : qr_R} : ∀ k, qx_c ρ k ≤ qx_P ρ := by
  intro k
  induction k with
  | zero => exact Nat.zero_le _
  | succ k ih =>
    simp only [qx_c]
    by_cases c : qx_c ρ k < qx_P ρ
    · rw [if_pos c]; exact (qx_n_le c 12).2
    · rw [if_neg c]; exact ih
theorem qx_c_s {ρ : qr_R} {k : Nat} (h : qx_c ρ k < qx_P ρ) : qx_c ρ (k + 1) = qx_n ρ (qx_c ρ k) 12 := if_pos h
theorem qx_c_up {ρ : qr_R} {k : Nat} (h : qx_c ρ k < qx_P ρ) : qx_c ρ k < qx_c ρ (k + 1) := by
  rw [qx_c_s h]
  exact (qx_n_le h 12).1
theorem qx_c_mono {ρ : qr_R} (k : Nat) : ∀ d, qx_c ρ k ≤ qx_c ρ (k + d) := by
  intro d
  induction d with
  | zero => exact Nat.le_refl _
  | succ d ih =>
    by_cases c : qx_c ρ (k + d) < qx_P ρ
    · have := qx_c_up c
      rw [show k + (d + 1) = k + d + 1 by omega]
      omega
    · have h' : qx_c ρ (k + (d + 1)) = qx_c ρ (k + d) := if_neg c
      omega
theorem qx_c_strict {ρ : qr_R} {i j : Nat} (h : i < j) (hi : qx_c ρ i < qx_P ρ) : qx_c ρ i < qx_c ρ j := by
  have a := qx_c_up hi
  have b := qx_c_mono (ρ := ρ) (i + 1) (j - (i + 1))
  rw [show i + 1 + (j - (i + 1)) = j by omega] at b
  omega
theorem qx_c_end {ρ : qr_R} (w : qr_wf ρ) {k : Nat} (h : qx_c ρ k < qx_P ρ) (h2 : qx_c ρ (k + 1) < qx_P ρ) : ∃ u, u < qr_N ρ ∧ qx_e ρ u = qx_c ρ (k + 1) := by
  rw [qx_c_s h] at h2 ⊢
  rcases qx_n_is (ρ := ρ) (pl := qx_c ρ k) 12 with z | ⟨u, u1, u2, u3⟩
  · omega
  · refine ⟨u, ?_, u2⟩
    apply Nat.lt_of_not_le
    intro z
    have := qx_eN z
    omega
theorem qx_const {ρ : qr_R} (w : qr_wf ρ) (hP : qx_P ρ ≠ 0) {k : Nat} (h : qx_c ρ k < qx_P ρ) : ∀ d, qx_c ρ k + d < qx_c ρ (k + 1) → qx_f ρ (qx_c ρ k + d) = qx_f ρ (qx_c ρ k) := by
  have hN := w.1
  have le := qx_c_le (ρ := ρ) (k + 1)
  intro d
  induction d with
  | zero => intro _; rfl
  | succ d ih =>
    intro hd
    rw [← ih (by omega)]
    refine qx_same w hP (s := qx_c ρ k + d) (by omega) (fun u hu z => ?_)
    have m := qx_n_min (ρ := ρ) (pl := qx_c ρ k) (u := u) (by omega) 12 (by omega)
    rw [← qx_c_s h] at m
    omega
theorem qx_new {ρ : qr_R} (w : qr_wf ρ) (hP : qx_P ρ ≠ 0) {k : Nat} (h : qx_c ρ k < qx_P ρ) (h2 : qx_c ρ (k + 1) < qx_P ρ) : qx_f ρ (qx_c ρ (k + 1)) ≠ qx_f ρ (qx_c ρ k) := by
  have up := qx_c_up h
  have ex := qx_c_end w h h2
  have cs := qx_const w hP h (qx_c ρ (k + 1) - 1 - qx_c ρ k) (by omega)
  have df := qx_differ w hP (s := qx_c ρ (k + 1) - 1) (by omega) (by rw [show qx_c ρ (k + 1) - 1 + 1 = qx_c ρ (k + 1) by omega]; exact ex)
  rw [show qx_c ρ (k + 1) - 1 + 1 = qx_c ρ (k + 1) by omega] at df
  rw [show qx_c ρ k + (qx_c ρ (k + 1) - 1 - qx_c ρ k) = qx_c ρ (k + 1) - 1 by omega] at cs
  rw [← cs]
  exact df
theorem qx_few {ρ : qr_R} (w : qr_wf ρ) : ¬ qx_c ρ 13 < qx_P ρ := by
  have hN := w.1
  intro h
  have lt : ∀ k, k ≤ 13 → qx_c ρ k < qx_P ρ := fun k hk => by
    have := qx_c_mono (ρ := ρ) k (13 - k)
    rw [show k + (13 - k) = 13 by omega] at this
    omega
  have ex : ∀ i : Nat, ∃ u : Nat, i < 13 → (u < qr_N ρ ∧ qx_e ρ u = qx_c ρ (i + 1)) := fun i => by
    by_cases c : i < 13
    · obtain ⟨u, hu⟩ := qx_c_end w (k := i) (lt i (by omega)) (lt (i + 1) (by omega))
      exact ⟨u, fun _ => hu⟩
    · exact ⟨0, fun z => absurd z c⟩
  obtain ⟨g, hg⟩ := Classical.axiomOfChoice ex
  have := qp_pigeon (qr_N ρ) 13 g (fun i hi => (hg i hi).1) (fun i j hi hj e => by
    have a := (hg i hi).2
    have b := (hg j hj).2
    rw [e] at a
    have ab : qx_c ρ (i + 1) = qx_c ρ (j + 1) := a.symm.trans b
    rcases Nat.lt_trichotomy i j with z | z | z
    · have := qx_c_strict (ρ := ρ) (i := i + 1) (j := j + 1) (by omega) (lt (i + 1) (by omega)); omega
    · exact z
    · have := qx_c_strict (ρ := ρ) (i := j + 1) (j := i + 1) (by omega) (lt (j + 1) (by omega)); omega)
  omega
noncomputable def qx_M (ρ : qr_R) : Nat := Classical.epsilon (fun M => 1 ≤ M ∧ M ≤ 13 ∧ qx_c ρ M = qx_P ρ ∧ ∀ k, k < M → qx_c ρ k < qx_P ρ)
theorem qx_M_ok {ρ : qr_R} (w : qr_wf ρ) (hP : qx_P ρ ≠ 0) : 1 ≤ qx_M ρ ∧ qx_M ρ ≤ 13 ∧ qx_c ρ (qx_M ρ) = qx_P ρ ∧ ∀ k, k < qx_M ρ → qx_c ρ k < qx_P ρ := by
  refine Classical.epsilon_spec (p := fun M => 1 ≤ M ∧ M ≤ 13 ∧ qx_c ρ M = qx_P ρ ∧ ∀ k, k < M → qx_c ρ k < qx_P ρ) ?_
  obtain ⟨k, hk, least⟩ := pk_least (fun k => ¬ qx_c ρ k < qx_P ρ) ⟨13, qx_few w⟩
  have k13 : k ≤ 13 := Nat.le_of_not_lt (fun z => absurd (qx_few w) (least 13 z))
  have k0 : k ≠ 0 := fun z => by
    rw [z] at hk
    exact hk (by show 0 < qx_P ρ; omega)
  have le := qx_c_le (ρ := ρ) k
  exact ⟨k, by omega, k13, by omega, fun i hi => Decidable.of_not_not (least i hi)⟩
