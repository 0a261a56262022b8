/-! COMMON: how many places a wheel has -/
def qw_lc (g : Nat → Nat) (c : Nat) : Nat → Nat
  | 0 => c
  | i + 1 => Nat.lcm (qw_lc g c i) (g i)
def qw_li (g h : Nat → Nat) : Nat → Nat
  | 0 => 1
  | i + 1 => Nat.lcm (Nat.lcm (qw_li g h i) (g i)) (h i)
theorem qw_lc_lcm (g : Nat → Nat) (x y : Nat) : ∀ i, qw_lc g (Nat.lcm x y) i = Nat.lcm (qw_lc g x i) y := by
  intro i
  induction i with
  | zero => rfl
  | succ i ih => simp only [qw_lc]; rw [ih, Nat.lcm_assoc, Nat.lcm_comm y, ← Nat.lcm_assoc]
theorem qw_li_eq (g h : Nat → Nat) : ∀ i, qw_li g h i = qw_lc h (qw_lc g 1 i) i := by
  intro i
  induction i with
  | zero => rfl
  | succ i ih =>
    simp only [qw_li, qw_lc]
    rw [ih, qw_lc_lcm]
theorem qw_lc_pos {g : Nat → Nat} {c : Nat} (hc : 0 < c) : ∀ {i : Nat}, (∀ u, u < i → 1 ≤ g u) → 0 < qw_lc g c i := by
  intro i
  induction i with
  | zero => intro _; exact hc
  | succ i ih => intro h; simp only [qw_lc]; exact Nat.lcm_pos (ih (fun u hu => h u (by omega))) (h i (by omega))
theorem qw_lc_le {g : Nat → Nat} {c : Nat} (hc : 0 < c) {i : Nat} : ∀ {d : Nat}, (∀ u, u < i + d → 1 ≤ g u) → qw_lc g c i ≤ qw_lc g c (i + d) := by
  intro d
  induction d with
  | zero => intro _; exact Nat.le_refl _
  | succ d ih =>
    intro h
    have a := ih (fun u hu => h u (by omega))
    have p := qw_lc_pos (g := g) hc (i := i + d) (fun u hu => h u (by omega))
    have q := Nat.lcm_pos p (h (i + d) (by omega))
    have b : qw_lc g c (i + d) ≤ Nat.lcm (qw_lc g c (i + d)) (g (i + d)) := Nat.le_of_dvd q (Nat.dvd_lcm_left _ _)
    exact Nat.le_trans a b
theorem qw_lc_dvd {g : Nat → Nat} {c : Nat} {i : Nat} : ∀ {d : Nat}, qw_lc g c i ∣ qw_lc g c (i + d) := by
  intro d
  induction d with
  | zero => exact Nat.dvd_refl _
  | succ d ih => exact Nat.dvd_trans ih (Nat.dvd_lcm_left _ _)
theorem qw_lc_d {g : Nat → Nat} {c n u : Nat} (h : u < n) : g u ∣ qw_lc g c n := by
  obtain ⟨d, rfl⟩ : ∃ d, n = (u + 1) + d := ⟨n - (u + 1), by omega⟩
  exact Nat.dvd_trans (Nat.dvd_lcm_right _ _) (qw_lc_dvd (g := g) (c := c) (i := u + 1) (d := d))
theorem qw_lc_c {g : Nat → Nat} {c n : Nat} : c ∣ qw_lc g c n := by
  have h := qw_lc_dvd (g := g) (c := c) (i := 0) (d := n)
  rw [Nat.zero_add] at h
  exact h
def qw_L (ρ : qr_R) (r : Nat) : Nat := if r = 2 then qw_lc (qr_b ρ 2) (qw_lc (qr_b ρ 0) 1 (qr_N ρ)) (qr_N ρ) else qw_lc (qr_b ρ r) 1 (qr_N ρ)
def qw_p (ρ : qr_R) (r P u : Nat) : Nat := qr_a ρ r u * (P / qr_b ρ r u)
def qw_T (ρ : qr_R) (r P : Nat) : Nat := qp_S (qw_p ρ r P) (qr_N ρ)
def qw_P (ρ : qr_R) (r : Nat) : Nat := if 2147483647 < qw_L ρ r ∨ 2147483647 < qw_T ρ r (qw_L ρ r) ∨ (r = 2 ∧ 2147483647 < qw_T ρ 0 (qw_L ρ r)) then 0 else qw_L ρ r
theorem qw_b1 {ρ : qr_R} (w : qr_wf ρ) {r u : Nat} (hr : r < 3) (hu : u < qr_N ρ) : 1 ≤ qr_b ρ r u := (w.2.2.2.2.2.2.1 r u hr hu).1
theorem qw_p_le {ρ : qr_R} (w : qr_wf ρ) {r u : Nat} (P : Nat) (hr : r < 3) (hu : u < qr_N ρ) : qw_p ρ r P u ≤ P := by
  have h := w.2.2.2.2.2.2.1 r u hr hu
  have h1 : qr_a ρ r u * (P / qr_b ρ r u) ≤ qr_b ρ r u * (P / qr_b ρ r u) := Nat.mul_le_mul_right _ h.2.2
  exact Nat.le_trans h1 (Nat.mul_div_le P _)
theorem qw_lcm {x b : Nat} (hx : 0 < x) : x / Nat.gcd x b * b = Nat.lcm x b := by
  have h := Nat.gcd_dvd_left x b
  show x / Nat.gcd x b * b = x * b / Nat.gcd x b
  rw [Nat.mul_comm, Nat.mul_comm x b, Nat.mul_div_assoc b h]
theorem qw_cm {x b : Nat} {σ : qe_S} (hx : 0 < x) (hx2 : x < 2 ^ 50) (hb : 1 ≤ b) (hb2 : b ≤ 60) : g_X3_commonMultiple (lN x) (nI b).toInt64 σ = some (lN (Nat.lcm x b), σ) := by
  have g1 := Nat.gcd_pos_of_pos_left b hx
  have g2 : Nat.gcd x b ≤ x := Nat.le_of_dvd hx (Nat.gcd_dvd_left x b)
  unfold g_X3_commonMultiple
  rw [nI_l (by omega), qg_gcd, qn_b, qg_dN (by omega) (by omega)]
  have c : (1 : Int64) ≤ lN (Nat.gcd x b) := (pk_lLE (a := 1) (by omega) (by omega)).mpr (by omega)
  have z : ¬ lN (Nat.gcd x b) = 0 := fun z => by
    have := (pk_lEQ (b := 0) (by omega) (by omega)).mp z
    omega
  rw [if_pos c, qn_zl z, pk_lDiv (by omega) g1 (by omega), lN_mul, qw_lcm hx]
theorem qw_lcm_le {x b : Nat} (hx : 0 < x) (hb : 1 ≤ b) (hb2 : b ≤ 60) : Nat.lcm x b ≤ x * 60 := Nat.le_trans (Nat.lcm_le_mul hx hb) (Nat.mul_le_mul_left x hb2)
theorem qw_lLE {a : Nat} (ha : a < 2 ^ 62) : lN a ≤ lN 2147483647 ↔ a ≤ 2147483647 := pk_lLE (by omega) (by omega)
theorem qw_lLT {a : Nat} (ha : a < 2 ^ 62) : lN 2147483647 < lN a ↔ 2147483647 < a := pk_lLT (by omega) (by omega)
/-- the class's loop over the units -/
theorem qw_placesL {σ : qe_S} {ρ : qr_R} (w : qr_wf ρ) (d : qr_D 1 σ ρ) (K : Int64 → qe_S → Option (Int64 × qe_S)) {r : Nat} (hr : r < 2) : ∀ (k i n : Nat), i + k = qr_N ρ → k < n → qw_lc (qr_b ρ r) 1 i ≤ 2147483647 → g_X3_places_L5 K (nI r) n (lN (qw_lc (qr_b ρ r) 1 i)) (nI i) σ = if qw_lc (qr_b ρ r) 1 (qr_N ρ) ≤ 2147483647 then K (lN (qw_lc (qr_b ρ r) 1 (qr_N ρ))) σ else some (0, σ) := by
  have hN := w.1
  intro k
  induction k with
  | zero =>
    intro i n hi hn hv
    obtain ⟨m, rfl⟩ : ∃ m, n = m + 1 := ⟨n - 1, by omega⟩
    simp only [g_X3_places_L5]
    obtain rfl : i = qr_N ρ := by omega
    rw [d.1, if_pos (nI_le (by omega) (by omega)), if_pos hv]
  | succ k ih =>
    intro i n hi hn hv
    obtain ⟨m, rfl⟩ : ∃ m, n = m + 1 := ⟨n - 1, by omega⟩
    have hu : i < qr_N ρ := by omega
    have wb := w.2.2.2.2.2.2.1 r i (by omega) hu
    have pos := qw_lc_pos (g := qr_b ρ r) (c := 1) (by omega) (i := i) (fun u hu => qw_b1 w (by omega) (by omega))
    have hB := qr_below w d (r := r) (by omega) hu
    have cm := qw_cm (σ := σ) (b := qr_b ρ r i) pos (by omega) (by omega) (by omega)
    have le := qw_lcm_le (b := qr_b ρ r i) pos (by omega) (by omega)
    have e1 : g_X3_places_L5 K (nI r) (m + 1) (lN (qw_lc (qr_b ρ r) 1 i)) (nI i) σ = if lN (qw_lc (qr_b ρ r) 1 (i + 1)) ≤ lN 2147483647 then g_X3_places_L5 K (nI r) m (lN (qw_lc (qr_b ρ r) 1 (i + 1))) (nI (i + 1)) σ else some (0, σ) := by
      have n2 : ¬ nI r = nI 2 := fun z => by have := (nI_eq (by omega) (by omega)).mp z; omega
      simp only [g_X3_places_L5, qn_j]
      rw [d.1, if_neg (nI_ge hu (by omega))]
      by_cases h1 : r = 1
      · subst h1
        have hB' : g_X3_below (nI i) 1 σ = some (nI (qr_b ρ 1 i), σ) := hB
        rw [if_pos (show nI 1 = 1 from rfl), hB', qn_b, cm, qn_b, if_neg n2, qn_l, nI_1]
        rfl
      · obtain rfl : r = 0 := by omega
        have hB' : g_X3_below (nI i) 0 σ = some (nI (qr_b ρ 0 i), σ) := hB
        rw [if_neg (by decide), hB', qn_b, cm, qn_b, if_neg n2, qn_l, nI_1]
        rfl
    have le2 : qw_lc (qr_b ρ r) 1 (i + 1) ≤ qw_lc (qr_b ρ r) 1 i * 60 := le
    rw [e1]
    by_cases c : qw_lc (qr_b ρ r) 1 (i + 1) ≤ 2147483647
    · rw [if_pos ((qw_lLE (by omega)).mpr c)]
      exact ih (i + 1) m (by omega) (by omega) c
    · rw [if_neg (fun z => c ((qw_lLE (by omega)).mp z))]
      have mono := qw_lc_le (g := qr_b ρ r) (c := 1) (by omega) (i := i + 1) (d := k) (fun u hu => qw_b1 w (by omega) (by omega))
      rw [show i + 1 + k = qr_N ρ by omega] at mono
      rw [if_neg (by omega)]
theorem qw_li_pos {ρ : qr_R} (w : qr_wf ρ) {i : Nat} (hi : i ≤ qr_N ρ) : 0 < qw_li (qr_b ρ 0) (qr_b ρ 2) i := by
  rw [qw_li_eq]
  exact qw_lc_pos (qw_lc_pos (by omega) (fun u hu => qw_b1 w (by omega) (by omega))) (fun u hu => qw_b1 w (by omega) (by omega))
theorem qw_li_le {ρ : qr_R} (w : qr_wf ρ) : ∀ (k i : Nat), i + k = qr_N ρ → qw_li (qr_b ρ 0) (qr_b ρ 2) i ≤ qw_li (qr_b ρ 0) (qr_b ρ 2) (qr_N ρ) := by
  intro k
  induction k with
  | zero => intro i hi; rw [show i = qr_N ρ by omega]; exact Nat.le_refl _
  | succ k ih =>
    intro i hi
    have a := ih (i + 1) (by omega)
    have p := qw_li_pos w (i := i + 1) (by omega)
    have b : qw_li (qr_b ρ 0) (qr_b ρ 2) i ≤ qw_li (qr_b ρ 0) (qr_b ρ 2) (i + 1) := Nat.le_of_dvd p (Nat.dvd_trans (Nat.dvd_lcm_left _ (qr_b ρ 0 i)) (Nat.dvd_lcm_left _ (qr_b ρ 2 i)))
    omega
theorem qw_placesL2 {σ : qe_S} {ρ : qr_R} (w : qr_wf ρ) (d : qr_D 1 σ ρ) (K : Int64 → qe_S → Option (Int64 × qe_S)) : ∀ (k i n : Nat), i + k = qr_N ρ → k < n → qw_li (qr_b ρ 0) (qr_b ρ 2) i ≤ 2147483647 → g_X3_places_L5 K (nI 2) n (lN (qw_li (qr_b ρ 0) (qr_b ρ 2) i)) (nI i) σ = if qw_li (qr_b ρ 0) (qr_b ρ 2) (qr_N ρ) ≤ 2147483647 then K (lN (qw_li (qr_b ρ 0) (qr_b ρ 2) (qr_N ρ))) σ else some (0, σ) := by
  have hN := w.1
  intro k
  induction k with
  | zero =>
    intro i n hi hn hv
    obtain ⟨m, rfl⟩ : ∃ m, n = m + 1 := ⟨n - 1, by omega⟩
    simp only [g_X3_places_L5]
    obtain rfl : i = qr_N ρ := by omega
    rw [d.1, if_pos (nI_le (by omega) (by omega)), if_pos hv]
  | succ k ih =>
    intro i n hi hn hv
    obtain ⟨m, rfl⟩ : ∃ m, n = m + 1 := ⟨n - 1, by omega⟩
    have hu : i < qr_N ρ := by omega
    have wb := w.2.2.2.2.2.2.1 0 i (by omega) hu
    have wc := w.2.2.2.2.2.2.1 2 i (by omega) hu
    have pos := qw_li_pos w (i := i) (by omega)
    have hB : g_X3_below (nI i) 0 σ = some (nI (qr_b ρ 0 i), σ) := qr_below w d (r := 0) (by omega) hu
    have hC := qr_below w d (r := 2) (by omega) hu
    have cm := qw_cm (σ := σ) (b := qr_b ρ 0 i) pos (by omega) (by omega) (by omega)
    have le := qw_lcm_le (b := qr_b ρ 0 i) pos (by omega) (by omega)
    have pos2 := Nat.lcm_pos pos (show 0 < qr_b ρ 0 i by omega)
    have cm2 := qw_cm (σ := σ) (b := qr_b ρ 2 i) pos2 (by omega) (by omega) (by omega)
    have le2 := qw_lcm_le (b := qr_b ρ 2 i) pos2 (by omega) (by omega)
    have e1 : g_X3_places_L5 K (nI 2) (m + 1) (lN (qw_li (qr_b ρ 0) (qr_b ρ 2) i)) (nI i) σ = if lN (qw_li (qr_b ρ 0) (qr_b ρ 2) (i + 1)) ≤ lN 2147483647 then g_X3_places_L5 K (nI 2) m (lN (qw_li (qr_b ρ 0) (qr_b ρ 2) (i + 1))) (nI (i + 1)) σ else some (0, σ) := by
      simp only [g_X3_places_L5, qn_j]
      rw [d.1, if_neg (nI_ge hu (by omega)), if_neg (by decide), hB, qn_b, cm, qn_b, if_pos trivial, hC, qn_b, cm2, qn_b, qn_l, nI_1]
      rfl
    have le3 : qw_li (qr_b ρ 0) (qr_b ρ 2) (i + 1) ≤ Nat.lcm (qw_li (qr_b ρ 0) (qr_b ρ 2) i) (qr_b ρ 0 i) * 60 := le2
    rw [e1]
    by_cases c : qw_li (qr_b ρ 0) (qr_b ρ 2) (i + 1) ≤ 2147483647
    · rw [if_pos ((qw_lLE (by omega)).mpr c)]
      exact ih (i + 1) m (by omega) (by omega) c
    · rw [if_neg (fun z => c ((qw_lLE (by omega)).mp z))]
      have mono := qw_li_le w k (i + 1) (by omega)
      rw [if_neg (by omega)]
theorem qw_partsC {σ : qe_S} {ρ : qr_R} (w : qr_wf ρ) (d : qr_D 1 σ ρ) {r u P : Nat} (hr : r < 3) (hu : u < qr_N ρ) (hP : P < 2 ^ 31) : g_X3_partsOf (nI u) (nI r) (lN P) σ = some (lN (qw_p ρ r P u), σ) := by
  have hb := w.2.2.2.2.2.2.1 r u hr hu
  unfold g_X3_partsOf
  have c : (1 : Int32) ≤ nI (qr_b ρ r u) := nI_le (a := 1) (by omega) (by omega)
  have z : ¬ lN (qr_b ρ r u) = 0 := fun z => by
    have := (pk_lEQ (b := 0) (by omega) (by omega)).mp z
    omega
  rw [qr_below w d hr hu, qn_b, if_pos c, qr_above w d hr hu, qn_b, nI_l (by omega), nI_l (by omega), qn_zl z, pk_lDiv (by omega) (by omega) (by omega), lN_mul]
  rfl
theorem qw_allC {σ : qe_S} {ρ : qr_R} (w : qr_wf ρ) (d : qr_D 1 σ ρ) {r P : Nat} (hr : r < 3) (hP : P < 2 ^ 31) : g_X3_partsOfAll (nI r) (lN P) σ = some (lN (qw_T ρ r P), σ) := by
  have hN := w.1
  have L : ∀ k i n, i + k = qr_N ρ → k < n → g_X3_partsOfAll_L6 (nI r) (lN P) n (lN (qp_S (qw_p ρ r P) i)) (nI i) σ = some (lN (qw_T ρ r P), σ) := by
    intro k
    induction k with
    | zero =>
      intro i n hi hn
      obtain ⟨m, rfl⟩ : ∃ m, n = m + 1 := ⟨n - 1, by omega⟩
      simp only [g_X3_partsOfAll_L6]
      obtain rfl : i = qr_N ρ := by omega
      rw [d.1, if_pos (nI_le (by omega) (by omega))]
      rfl
    | succ k ih =>
      intro i n hi hn
      obtain ⟨m, rfl⟩ : ∃ m, n = m + 1 := ⟨n - 1, by omega⟩
      simp only [g_X3_partsOfAll_L6]
      rw [d.1, if_neg (nI_ge (show i < qr_N ρ by omega) (by omega)), qw_partsC w d hr (by omega) hP, qn_b, qn_l, qn_l, nI_1, lN_add]
      exact ih (i + 1) m (by omega) (by omega)
  have h := L (qr_N ρ) 0 qm_F (by omega) (by rw [qn_F]; omega)
  rw [nI_0] at h
  unfold g_X3_partsOfAll
  rw [qn_l, qn_l]
  exact h
theorem qw_T_lt {ρ : qr_R} (w : qr_wf ρ) {r P : Nat} (hr : r < 3) (hP : P < 2 ^ 31) : qw_T ρ r P < 2 ^ 36 := by
  have hN := w.1
  have h := qp_bound (f := qw_p ρ r P) (c := P) (n := qr_N ρ) (fun i hi => qw_p_le w P hr hi)
  have h2 : qr_N ρ * P ≤ 12 * P := Nat.mul_le_mul_right P hN
  unfold qw_T
  omega
theorem qw_L_pos {ρ : qr_R} (w : qr_wf ρ) {r : Nat} (hr : r < 3) : 0 < qw_L ρ r := by
  unfold qw_L
  split
  · exact qw_lc_pos (qw_lc_pos (by omega) (fun u hu => qw_b1 w (by omega) (by omega))) (fun u hu => qw_b1 w (by omega) (by omega))
  · exact qw_lc_pos (by omega) (fun u hu => qw_b1 w (by omega) (by omega))
theorem qw_places {σ : qe_S} {ρ : qr_R} (w : qr_wf ρ) (d : qr_D 1 σ ρ) {r : Nat} (hr : r < 3) : g_X3_places (nI r) σ = some (lN (qw_P ρ r), σ) := by
  have hN := w.1
  unfold g_X3_places
  rw [qn_l, qn_l]
  have fin : ∀ K : Int64 → qe_S → Option (Int64 × qe_S), g_X3_places_L5 K (nI r) qm_F 1 0 σ = if qw_L ρ r ≤ 2147483647 then K (lN (qw_L ρ r)) σ else some (0, σ) := by
    intro K
    by_cases h2 : r = 2
    · subst h2
      have h := qw_placesL2 w d K (qr_N ρ) 0 qm_F (by omega) (by rw [qn_F]; omega) (by simp [qw_li])
      rw [nI_0, qw_li_eq (qr_b ρ 0) (qr_b ρ 2) (qr_N ρ)] at h
      unfold qw_L
      rw [if_pos rfl]
      exact h
    · have h := qw_placesL w d K (r := r) (by omega) (qr_N ρ) 0 qm_F (by omega) (by rw [qn_F]; omega) (by simp [qw_lc])
      rw [nI_0] at h
      unfold qw_L
      rw [if_neg h2]
      exact h
  rw [fin]
  unfold qw_P
  by_cases c : qw_L ρ r ≤ 2147483647
  · have b0 := qw_T_lt w (r := r) hr (P := qw_L ρ r) (by omega)
    have b1 := qw_T_lt w (r := 0) (by omega) (P := qw_L ρ r) (by omega)
    rw [if_pos c]
    simp only [qn_j]
    rw [qw_allC w d hr (by omega), qn_b]
    by_cases c1 : 2147483647 < qw_T ρ r (qw_L ρ r)
    · rw [if_pos ((qw_lLT (by omega)).mpr c1), if_neg qn_10, if_pos (Or.inr (Or.inl c1))]
      rfl
    · rw [if_neg (fun z => c1 ((qw_lLT (by omega)).mp z))]
      by_cases h2 : r = 2
      · have a0 : g_X3_partsOfAll 0 (lN (qw_L ρ r)) σ = some (lN (qw_T ρ 0 (qw_L ρ r)), σ) := qw_allC w d (r := 0) (by omega) (by omega)
        rw [if_pos (congrArg nI h2), a0, qn_b]
        by_cases c2 : qw_T ρ 0 (qw_L ρ r) ≤ 2147483647
        · rw [if_pos ((qw_lLE (by omega)).mpr c2), if_pos trivial, if_neg (by omega)]
        · rw [if_neg (fun z => c2 ((qw_lLE (by omega)).mp z)), if_neg qn_10, if_pos (Or.inr (Or.inr ⟨h2, by omega⟩))]
          rfl
      · have n2 : ¬ nI r = nI 2 := fun z => h2 ((nI_eq (by omega) (by omega)).mp z)
        rw [if_neg n2, if_pos trivial, if_neg (by omega)]
  · rw [if_neg c, if_pos (Or.inl (by omega))]
    rfl
theorem qw_P_lt (ρ : qr_R) (r : Nat) : qw_P ρ r < 2 ^ 31 := by
  unfold qw_P
  split
  · omega
  · rename_i h
    have : ¬ 2147483647 < qw_L ρ r := fun z => h (Or.inl z)
    omega
