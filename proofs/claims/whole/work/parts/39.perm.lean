/-! PERMUTATIONS: where a unit stands; sums in order -/
def qp_S (f : Nat → Nat) : Nat → Nat
  | 0 => 0
  | n + 1 => qp_S f n + f n
theorem qp_congr {f g : Nat → Nat} : ∀ {n : Nat}, (∀ i, i < n → f i = g i) → qp_S f n = qp_S g n := by
  intro n
  induction n with
  | zero => intro _; rfl
  | succ n ih => intro h; simp only [qp_S]; rw [ih (fun i hi => h i (by omega)), h n (by omega)]
theorem qp_le {f g : Nat → Nat} : ∀ {n : Nat}, (∀ i, i < n → f i ≤ g i) → qp_S f n ≤ qp_S g n := by
  intro n
  induction n with
  | zero => intro _; exact Nat.le_refl _
  | succ n ih => intro h; simp only [qp_S]; have := ih (fun i hi => h i (by omega)); have := h n (by omega); omega
theorem qp_const (c : Nat) : ∀ n, qp_S (fun _ => c) n = n * c := by
  intro n
  induction n with
  | zero => simp [qp_S]
  | succ n ih => simp only [qp_S]; rw [ih, Nat.succ_mul]
theorem qp_bound {f : Nat → Nat} {c n : Nat} (h : ∀ i, i < n → f i ≤ c) : qp_S f n ≤ n * c := by
  rw [← qp_const]
  exact qp_le h
theorem qp_add (f g : Nat → Nat) : ∀ n, qp_S (fun i => f i + g i) n = qp_S f n + qp_S g n := by
  intro n
  induction n with
  | zero => rfl
  | succ n ih => simp only [qp_S]; omega
theorem qp_point {f g : Nat → Nat} {k : Nat} : ∀ {n : Nat}, k < n → (∀ i, i < n → i ≠ k → f i = g i) → qp_S f n + g k = qp_S g n + f k := by
  intro n
  induction n with
  | zero => intro h; omega
  | succ n ih =>
    intro hk h
    simp only [qp_S]
    by_cases e : k = n
    · subst e
      have := qp_congr (f := f) (g := g) (n := k) (fun i hi => h i (by omega) (by omega))
      omega
    · have := ih (by omega) (fun i hi => h i (by omega))
      have := h n (by omega) (by omega)
      omega
theorem qp_zero {f : Nat → Nat} : ∀ {n : Nat}, (∀ i, i < n → f i = 0) → qp_S f n = 0 := by
  intro n
  induction n with
  | zero => intro _; rfl
  | succ n ih => intro h; simp only [qp_S]; rw [ih (fun i hi => h i (by omega)), h n (by omega)]
def qp_sw (g : Nat → Nat) (n : Nat) : Nat → Nat := fun i => if g i = n then g n else g i
theorem qp_sw_ok {n : Nat} {g : Nat → Nat} (h1 : ∀ i, i < n + 1 → g i < n + 1) (h2 : ∀ i j, i < n + 1 → j < n + 1 → g i = g j → i = j) : (∀ i, i < n → qp_sw g n i < n) ∧ (∀ i j, i < n → j < n → qp_sw g n i = qp_sw g n j → i = j) := by
  have hn := h1 n (by omega)
  refine ⟨fun i hi => ?_, fun i j hi hj e => ?_⟩
  · unfold qp_sw
    have a := h1 i (by omega)
    by_cases e : g i = n
    · rw [if_pos e]
      by_cases e2 : g n = n
      · have := h2 i n (by omega) (by omega) (e.trans e2.symm); omega
      · omega
    · rw [if_neg e]; omega
  · unfold qp_sw at e
    by_cases a : g i = n
    · rw [if_pos a] at e
      by_cases b : g j = n
      · exact h2 i j (by omega) (by omega) (a.trans b.symm)
      · rw [if_neg b] at e
        have := h2 n j (by omega) (by omega) e; omega
    · rw [if_neg a] at e
      by_cases b : g j = n
      · rw [if_pos b] at e
        have := h2 i n (by omega) (by omega) e; omega
      · rw [if_neg b] at e
        exact h2 i j (by omega) (by omega) e
theorem qp_surj : ∀ (n : Nat) (g : Nat → Nat), (∀ i, i < n → g i < n) → (∀ i j, i < n → j < n → g i = g j → i = j) → ∀ u, u < n → ∃ k, k < n ∧ g k = u := by
  intro n
  induction n with
  | zero => intro g _ _ u h; omega
  | succ n ih =>
    intro g h1 h2 u hu
    obtain ⟨s1, s2⟩ := qp_sw_ok h1 h2
    have S := ih (qp_sw g n) s1 s2
    have hn := h1 n (by omega)
    by_cases e : u = g n
    · exact ⟨n, by omega, e.symm⟩
    · by_cases e2 : u = n
      · obtain ⟨k, hk, ek⟩ := S (g n) (by omega)
        unfold qp_sw at ek
        by_cases a : g k = n
        · exact ⟨k, by omega, by omega⟩
        · rw [if_neg a] at ek
          have := h2 k n (by omega) (by omega) ek; omega
      · obtain ⟨k, hk, ek⟩ := S u (by omega)
        unfold qp_sw at ek
        by_cases a : g k = n
        · rw [if_pos a] at ek; exact absurd ek.symm e
        · rw [if_neg a] at ek; exact ⟨k, by omega, ek⟩
theorem qp_sum (f : Nat → Nat) : ∀ (n : Nat) (g : Nat → Nat), (∀ i, i < n → g i < n) → (∀ i j, i < n → j < n → g i = g j → i = j) → qp_S (fun k => f (g k)) n = qp_S f n := by
  intro n
  induction n with
  | zero => intro g _ _; rfl
  | succ n ih =>
    intro g h1 h2
    obtain ⟨s1, s2⟩ := qp_sw_ok h1 h2
    have S := ih (qp_sw g n) s1 s2
    simp only [qp_S]
    by_cases e : g n = n
    · have c : qp_S (fun k => f (g k)) n = qp_S (fun k => f (qp_sw g n k)) n := qp_congr (fun i hi => by
        unfold qp_sw
        have : ¬ g i = n := fun z => by have := h2 i n (by omega) (by omega) (z.trans e.symm); omega
        rw [if_neg this])
      rw [c, S, e]
    · obtain ⟨i, hi, ei⟩ := qp_surj (n + 1) g h1 h2 n (by omega)
      have hi2 : i < n := by
        by_cases z : i = n
        · subst z; exact absurd ei e
        · omega
      have p := qp_point (f := fun k => f (g k)) (g := fun k => f (qp_sw g n k)) hi2 (fun j hj hne => by
        show f (g j) = f (qp_sw g n j)
        unfold qp_sw
        have : ¬ g j = n := fun z => hne (h2 j i (by omega) (by omega) (z.trans ei.symm))
        rw [if_neg this])
      have e1 : qp_sw g n i = g n := by unfold qp_sw; rw [if_pos ei]
      simp only [e1, ei] at p
      rw [S] at p
      omega
/-- no more different values than there are to take -/
theorem qp_pigeon : ∀ (n m : Nat) (g : Nat → Nat), (∀ i, i < m → g i < n) → (∀ i j, i < m → j < m → g i = g j → i = j) → m ≤ n := by
  intro n
  induction n with
  | zero =>
    intro m g h1 _
    by_cases h : m = 0
    · omega
    · have := h1 0 (by omega); omega
  | succ n ih =>
    intro m g h1 h2
    by_cases h : m = 0
    · omega
    · obtain ⟨k, rfl⟩ : ∃ k, m = k + 1 := ⟨m - 1, by omega⟩
      have r := ih k (fun i => if g i = n then g k else g i) (fun i hi => by
        have a := h1 i (by omega)
        have b := h1 k (by omega)
        by_cases e : g i = n
        · simp only [if_pos e]
          by_cases e2 : g k = n
          · have := h2 i k (by omega) (by omega) (e.trans e2.symm); omega
          · omega
        · simp only [if_neg e]; omega) (fun i j hi hj e => by
        by_cases a : g i = n
        · simp only [if_pos a] at e
          by_cases b : g j = n
          · exact h2 i j (by omega) (by omega) (a.trans b.symm)
          · simp only [if_neg b] at e
            have := h2 k j (by omega) (by omega) e; omega
        · simp only [if_neg a] at e
          by_cases b : g j = n
          · simp only [if_pos b] at e
            have := h2 i k (by omega) (by omega) e; omega
          · simp only [if_neg b] at e
            exact h2 i j (by omega) (by omega) e)
      omega
-- the place of a unit
abbrev qr_t (ρ : qr_R) : Nat → Nat := qr_ord ρ (qr_N ρ)
theorem qr_t_lt {ρ : qr_R} (w : qr_wf ρ) {j : Nat} (hj : j < qr_N ρ) : qr_t ρ j < qr_N ρ := qr_ord_lt w (Nat.le_refl _) hj
theorem qr_t_inj {ρ : qr_R} (w : qr_wf ρ) {i j : Nat} (hi : i < qr_N ρ) (hj : j < qr_N ρ) (h : qr_t ρ i = qr_t ρ j) : i = j := (qr_ord_in w (qr_N ρ) (Nat.le_refl _)).2 i j hi hj h
def qr_fd (g : Nat → Nat) (u : Nat) : Nat → Nat
  | 0 => 0
  | n + 1 => if qr_fd g u n < n then qr_fd g u n else if g n = u then n else n + 1
def qr_pos (ρ : qr_R) (u : Nat) : Nat := qr_fd (qr_t ρ) u (qr_N ρ)
theorem qr_fd_at {g : Nat → Nat} {u k : Nat} : ∀ {n : Nat}, k < n → g k = u → (∀ i, i < k → g i ≠ u) → qr_fd g u n = k := by
  have z : ∀ n, n ≤ k → (∀ i, i < k → g i ≠ u) → qr_fd g u n = n := by
    intro n
    induction n with
    | zero => intro _ _; rfl
    | succ n ih =>
      intro hn h
      simp only [qr_fd]
      rw [ih (by omega) h, if_neg (by omega), if_neg (h n (by omega))]
  intro n
  induction n with
  | zero => intro h; omega
  | succ n ih =>
    intro hk e h
    simp only [qr_fd]
    by_cases c : k < n
    · rw [ih c e h, if_pos c]
    · obtain rfl : k = n := by omega
      rw [z k (Nat.le_refl _) h, if_neg (by omega), if_pos e]
theorem qr_pos_of {ρ : qr_R} (w : qr_wf ρ) {k : Nat} (hk : k < qr_N ρ) : qr_pos ρ (qr_t ρ k) = k :=
  qr_fd_at hk rfl (fun i hi e => by have := qr_t_inj w (by omega) hk e; omega)
theorem qr_pos_ex {ρ : qr_R} (w : qr_wf ρ) {u : Nat} (hu : u < qr_N ρ) : qr_pos ρ u < qr_N ρ ∧ qr_t ρ (qr_pos ρ u) = u := by
  obtain ⟨k, hk, rfl⟩ := qp_surj (qr_N ρ) (qr_t ρ) (fun i hi => qr_t_lt w hi) (fun i j hi hj => qr_t_inj w hi hj) u hu
  rw [qr_pos_of w hk]
  exact ⟨hk, rfl⟩
theorem qr_t_sum {ρ : qr_R} (w : qr_wf ρ) (f : Nat → Nat) : qp_S (fun k => f (qr_t ρ k)) (qr_N ρ) = qp_S f (qr_N ρ) :=
  qp_sum f (qr_N ρ) (qr_t ρ) (fun i hi => qr_t_lt w hi) (fun i j hi hj => qr_t_inj w hi hj)
/-! OF -/
theorem qz_placeC {σ : qe_S} {ρ : qr_R} (w : qr_wf ρ) (d : qr_D 1 σ ρ) (o : qr_O 1 σ ρ) {u : Nat} (hu : u < qr_N ρ) : g_X3_placeOf (nI u) σ = some (nI (qr_pos ρ u), σ) := by
  have hN := w.1
  obtain ⟨hp, he⟩ := qr_pos_ex w hu
  have L : ∀ r k n, k + r = qr_pos ρ u → r < n → g_X3_placeOf_L2 (nI u) n (nI k) σ = some (nI (qr_pos ρ u), σ) := by
    intro r
    induction r with
    | zero =>
      intro k n hk hn
      obtain ⟨m, rfl⟩ : ∃ m, n = m + 1 := ⟨n - 1, by omega⟩
      simp only [g_X3_placeOf_L2]
      have e : σ.1 5 k = nI u := by
        have := o k (by omega)
        rw [show qr_ord ρ (qr_N ρ) k = u by rw [show k = qr_pos ρ u by omega]; exact he] at this
        exact this
      rw [d.1, if_neg (nI_ge (show k < qr_N ρ by omega) (by omega)), qn_g (by omega) (by omega), qn_l, nI_clamp (by omega), e, if_pos rfl, show k = qr_pos ρ u by omega]
    | succ r ih =>
      intro k n hk hn
      obtain ⟨m, rfl⟩ : ∃ m, n = m + 1 := ⟨n - 1, by omega⟩
      simp only [g_X3_placeOf_L2]
      have lt := qr_t_lt w (show k < qr_N ρ by omega)
      have ne : ¬ nI (qr_ord ρ (qr_N ρ) k) = nI u := fun z => by
        have z2 : qr_t ρ k = u := (nI_eq (by omega) (by omega)).mp z
        have := qr_t_inj w (show k < qr_N ρ by omega) hp (z2.trans he.symm)
        omega
      have ok : σ.1 5 k = nI (qr_ord ρ (qr_N ρ) k) := o k (by omega)
      rw [d.1, if_neg (nI_ge (show k < qr_N ρ by omega) (by omega)), qn_g (by omega) (by omega), qn_l, nI_clamp (by omega), ok, if_neg ne, qn_l, nI_1]
      exact ih (k + 1) m (by omega) (by omega)
  have h := L (qr_pos ρ u) 0 qm_F (by omega) (by rw [qn_F]; omega)
  rw [nI_0] at h
  unfold g_X3_placeOf
  rw [qn_l]
  exact h
theorem qz_placeM {τ : qe_S} {ρ : qr_R} (w : qr_wf ρ) (o : qr_MO τ ρ) {u : Nat} (hu : u < qr_N ρ) : g_X9_place (nI u) τ = some (nI (qr_pos ρ u), τ) := by
  have hN := w.1
  obtain ⟨hp, he⟩ := qr_pos_ex w hu
  have L : ∀ r k n, k + r = qr_pos ρ u → r < n → g_X9_place_L2 (nI u) n (nI k) τ = some (nI (qr_pos ρ u), τ) := by
    intro r
    induction r with
    | zero =>
      intro k n hk hn
      obtain ⟨m, rfl⟩ : ∃ m, n = m + 1 := ⟨n - 1, by omega⟩
      simp only [g_X9_place_L2]
      have e : τ.1 5 k = nI u := by
        have := o k (by omega)
        rw [show qr_ord ρ (qr_N ρ) k = u by rw [show k = qr_pos ρ u by omega]; exact he] at this
        exact this
      rw [qn_g (by omega) (by omega), qn_l, nI_clamp (by omega), e, if_pos rfl, show k = qr_pos ρ u by omega]
    | succ r ih =>
      intro k n hk hn
      obtain ⟨m, rfl⟩ : ∃ m, n = m + 1 := ⟨n - 1, by omega⟩
      simp only [g_X9_place_L2]
      have lt := qr_t_lt w (show k < qr_N ρ by omega)
      have ne : ¬ nI (qr_ord ρ (qr_N ρ) k) = nI u := fun z => by
        have z2 : qr_t ρ k = u := (nI_eq (by omega) (by omega)).mp z
        have := qr_t_inj w (show k < qr_N ρ by omega) hp (z2.trans he.symm)
        omega
      have ok : τ.1 5 k = nI (qr_ord ρ (qr_N ρ) k) := o k (by omega)
      rw [qn_g (by omega) (by omega), qn_l, nI_clamp (by omega), ok, if_neg ne, qn_l, nI_1]
      exact ih (k + 1) m (by omega) (by omega)
  have h := L (qr_pos ρ u) 0 qm_F (by omega) (by rw [qn_F]; omega)
  rw [nI_0] at h
  unfold g_X9_place
  rw [qn_l]
  exact h
theorem qz_of : ql_op_of qz_R := by
  intro a0 a1 σ τ hR
  have hR0 := hR
  obtain ⟨⟨ρ, w, d, o, m⟩, hI, hW, hT, hL⟩ := hR
  have hN := w.1
  show qz_ok (g_X8_of a0 a1 σ) (g_X9_of a0 a1 τ)
  unfold g_X8_of g_X9_of
  refine qz_gUnit w d m (fun _ => qz_ok_noL hR0 (-1)) ?_
  rintro u hu rfl
  refine qz_gIn (n := 3) (by omega) (fun _ => ⟨qz_ok_noL hR0 (-1), qz_ok_noL hR0 (-1)⟩) ?_
  rintro r hr rfl
  have dx := d.2.2.2.1 u hu
  have mx := m.2.2.1 u hu
  obtain rfl | rfl | rfl | rfl : r = 0 ∨ r = 1 ∨ r = 2 ∨ r = 3 := by omega
  · refine ⟨(qr_s ρ u).toInt64, σ, τ, ?_, ?_, hR0⟩
    · rw [if_pos nI_0, qn_g (by omega) (by omega), qn_l, nI_clamp (by omega), show σ.1 2 u = qr_s ρ u from dx.1]
    · rw [if_neg (nI_ge (by omega) (by omega)), qn_j, if_pos nI_0]
      dsimp only
      rw [nI_add, qn_g (by omega) (by omega), qn_l, nI_clamp (by omega), mx.2.1]
  · refine ⟨if qr_f ρ u then 1 else 0, σ, τ, ?_, ?_, hR0⟩
    · rw [if_neg (by decide), if_pos (show nI 1 = 1 from rfl), qz_isRef w d hu, qn_b, qn_if0]
      by_cases h : qr_f ρ u = true
      · rw [if_pos h, if_pos h]
      · rw [if_neg h, if_neg h]
    · rw [if_neg (nI_ge (by omega) (by omega)), qn_j, if_neg (by decide), if_pos (show nI 1 = 1 from rfl)]
      dsimp only
      rw [nI_add, qn_g (by omega) (by omega), qn_l, nI_clamp (by omega), mx.2.2.2]
      by_cases h : qr_f ρ u = true
      · rw [if_pos h, if_pos h]; rfl
      · rw [if_neg h, if_neg h]; rfl
  · refine ⟨(qr_m ρ u).toInt64, σ, τ, ?_, ?_, hR0⟩
    · rw [if_neg (by decide), if_neg (by decide), if_pos rfl, qn_g (by omega) (by omega), qn_l, nI_clamp (by omega), show σ.1 3 u = qr_m ρ u from dx.2.1]
    · rw [if_neg (nI_ge (by omega) (by omega)), qn_j, if_neg (by decide), if_neg (by decide)]
      dsimp only
      rw [nI_add, qn_g (by omega) (by omega), qn_l, nI_clamp (by omega), mx.2.2.1]
  · obtain ⟨τ', f1, f2, f3⟩ := qr_inorder w m
    refine ⟨(nI (qr_pos ρ u)).toInt64, σ, τ', ?_, ?_, qz_new hR0 (fun _ _ => rfl) rfl (fun k _ h5 => f2.2 k h5) f2.1 ⟨ρ, w, d, o, qr_M_on f2 m (by omega)⟩⟩
    · rw [if_neg (by decide), if_neg (by decide), if_neg (by decide), qz_placeC w d o hu, qn_b]
    · rw [if_pos (nI_le (by omega) (by omega)), f1, qn_o, qz_placeM w f3 hu, qn_b]
