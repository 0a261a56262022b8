/-! LAYS: the reference's wheel of a row -/
def qw_fr (τ τ' : qe_S) : Prop := (∀ a, a ≠ 5 → τ'.1 a = τ.1 a) ∧ ∀ a j, ¬ (a = 0 ∧ (j = 6 ∨ j = 11)) → (a < 6 ∨ 9 < a) → τ'.2 a j = τ.2 a j
theorem qw_fr_of {τ τ1 τ' : qe_S} (f : qf_on 5 τ τ1) (h : qw_6 (qe_sl τ1 0 6 1) τ') : qw_fr τ τ' := by
  refine ⟨fun a ha => ?_, fun a j p1 p2 => ?_⟩
  · rw [h.1]
    exact f.2 a ha
  · rw [h.2 a j p1 p2, qn_sl, if_neg (fun z => p1 ⟨z.1, Or.inl z.2⟩), f.1]
theorem qw_m_of {τ τ' : qe_S} (h : qw_fr τ τ') : qz_m τ τ' :=
  ⟨by rw [h.1 0 (by omega)], by rw [h.1 0 (by omega)], h.1 1 (by omega), h.1 2 (by omega), h.1 15 (by omega), h.1 17 (by omega), by funext j; exact h.2 18 j (by omega) (by omega)⟩
def qw_X (ρ : qr_R) (r : Nat) (τ : qe_S) : Prop := qr_M 1 τ ρ ∧ qr_MO τ ρ ∧ τ.2 0 6 = lN (qw_P ρ r) ∧ τ.2 0 11 = lN (qw_T ρ (if r = 2 then 0 else r) (qw_P ρ r)) ∧ (∀ u, u < qr_N ρ → qw_V 6 7 τ ρ (if r = 2 then 0 else r) (qw_P ρ r) (qw_E ρ) u) ∧ (r = 2 → ∀ u, u < qr_N ρ → qw_V 8 9 τ ρ 2 (qw_P ρ r) (qw_E ρ) u)
theorem qw_lays {ρ : qr_R} (w : qr_wf ρ) {τ : qe_S} (m : qr_M 1 τ ρ) {r : Nat} (hr : r < 3) : ∃ τ', g_X9_lays (nI r) τ = some (if qw_P ρ r = 0 then 0 else 1, τ') ∧ qw_fr τ τ' ∧ (qw_P ρ r ≠ 0 → qw_X ρ r τ') := by
  have hN := w.1
  obtain ⟨τ1, f1, f2, f3⟩ := qr_inorder w m
  have m0 : qr_M 1 τ1 ρ := qr_M_on f2 m (by omega)
  have m1 : qr_M 1 (qe_sl τ1 0 6 1) ρ := m0
  have o1 : qr_MO (qe_sl τ1 0 6 1) ρ := f3
  have h6 : (qe_sl τ1 0 6 1).2 0 6 = lN 1 := by rw [qn_sl_eq]; rfl
  have Eb := qw_E_lt w
  have Lp := qw_L_pos w hr
  by_cases h2 : r = 2
  · subst h2
    have LE : qw_L ρ 2 = qw_lc (qr_b ρ 2) (qw_lc (qr_b ρ 0) 1 (qr_N ρ)) (qr_N ρ) := if_pos rfl
    have p0 := qw_lc_pos (g := qr_b ρ 0) (c := 1) (by omega) (i := qr_N ρ) (fun u hu => qw_b1 w (by omega) (by omega))
    obtain ⟨τ2, a1, a2, a3⟩ := qw_meets w (r := 0) (by omega) (by omega) (by omega) m1 h6
    have a1' : g_X9_meets 0 (qe_sl τ1 0 6 1) = some (if 2147483647 < qw_lc (qr_b ρ 0) 1 (qr_N ρ) then 0 else 1, τ2) := a1
    unfold g_X9_lays
    simp only [qn_j, if_true]
    rw [f1, qn_o, qn_l, a1', qn_b]
    by_cases c0 : 2147483647 < qw_lc (qr_b ρ 0) 1 (qr_N ρ)
    · have mono := qw_lc_le (g := qr_b ρ 2) (c := qw_lc (qr_b ρ 0) 1 (qr_N ρ)) p0 (i := 0) (d := qr_N ρ) (fun u hu => qw_b1 w (by omega) (by omega))
      rw [Nat.zero_add, ← LE] at mono
      have mono' : qw_lc (qr_b ρ 0) 1 (qr_N ρ) ≤ qw_L ρ 2 := mono
      have P0 : qw_P ρ 2 = 0 := if_pos (Or.inl (by omega))
      rw [if_pos c0, if_pos rfl, if_pos P0]
      exact ⟨τ2, rfl, qw_fr_of f2 a2, fun z => absurd P0 z⟩
    · rw [if_neg c0, if_neg qn_10]
      obtain ⟨τ3, b1, b2, b3⟩ := qw_meets w (r := 2) (by omega) p0 (by omega) (qw_M6 a2.1 m1) (a3 (by omega))
      rw [← LE] at b1 b3
      rw [b1, qn_b]
      have q3 := qw_6t a2 b2
      by_cases c1 : 2147483647 < qw_L ρ 2
      · have P0 : qw_P ρ 2 = 0 := if_pos (Or.inl c1)
        rw [if_pos c1, if_pos rfl, if_pos P0]
        exact ⟨τ3, rfl, qw_fr_of f2 q3, fun z => absurd P0 z⟩
      · rw [if_neg c1, if_neg qn_10]
        have m3 := qw_M6 q3.1 m1
        have o3 := qw_O6 q3.1 o1
        rw [qw_evM w m3, qn_b]
        obtain ⟨τ4, d1, d2, d3, d4, d5, d6⟩ := qw_arcs w (r := 2) (by omega) Lp (by omega) Eb m3 o3 (b3 (by omega)) (o2 := 8) (o3 := 9) (Or.inr ⟨rfl, rfl⟩)
        rw [qw_S_E w] at d1 d4
        rw [d1, qn_b]
        have q4 := qw_6t q3 d2
        by_cases c2 : 2147483647 < qw_T ρ 2 (qw_L ρ 2)
        · have P0 : qw_P ρ 2 = 0 := if_pos (Or.inr (Or.inl c2))
          rw [if_pos c2, if_pos rfl, if_pos P0]
          exact ⟨τ4, rfl, qw_fr_of f2 q4, fun z => absurd P0 z⟩
        · rw [if_neg c2, if_neg qn_10]
          have m4 := qw_M6 q4.1 m1
          have o4 := qw_O6 q4.1 o1
          rw [qw_evM w m4, qn_b]
          obtain ⟨τ5, g1, g2, g3, g4, g5, g6⟩ := qw_arcs w (r := 0) (by omega) Lp (by omega) Eb m4 o4 d3 (o2 := 6) (o3 := 7) (Or.inl ⟨rfl, rfl⟩)
          rw [qw_S_E w] at g1 g4
          have g1' : g_X9_arcs 0 6 7 (nI (qw_E ρ)) τ4 = some (if 2147483647 < qw_T ρ 0 (qw_L ρ 2) then 0 else 1, τ5) := g1
          rw [g1', qn_b]
          have q5 := qw_6t q4 g2
          by_cases c3 : 2147483647 < qw_T ρ 0 (qw_L ρ 2)
          · have P0 : qw_P ρ 2 = 0 := if_pos (Or.inr (Or.inr ⟨rfl, c3⟩))
            rw [if_pos c3, qn_bo (Or.inl rfl), if_pos P0]
            exact ⟨τ5, rfl, qw_fr_of f2 q5, fun z => absurd P0 z⟩
          · have P1 : qw_P ρ 2 = qw_L ρ 2 := if_neg (by omega)
            rw [if_neg c3, qn_bo (Or.inr rfl), if_neg (by omega)]
            refine ⟨τ5, rfl, qw_fr_of f2 q5, fun _ => ⟨qw_M6 q5.1 m1, qw_O6 q5.1 o1, by rw [P1]; exact g3, by rw [P1]; exact g4, fun u hu => by rw [P1]; exact g5 u hu, fun _ u hu => ?_⟩⟩
            rw [P1]
            unfold qw_V
            rw [g6 8 (by omega) (by omega) (by omega), g6 9 (by omega) (by omega) (by omega)]
            exact d5 u hu
  · have n2 : ¬ nI r = nI 2 := fun z => h2 ((nI_eq (by omega) (by omega)).mp z)
    have LE : qw_L ρ r = qw_lc (qr_b ρ r) 1 (qr_N ρ) := if_neg h2
    obtain ⟨τ2, a1, a2, a3⟩ := qw_meets w hr (by omega) (by omega) m1 h6
    rw [← LE] at a1 a3
    unfold g_X9_lays
    simp only [qn_j, n2, if_false]
    rw [f1, qn_o, qn_l, a1, qn_b]
    by_cases c0 : 2147483647 < qw_L ρ r
    · have P0 : qw_P ρ r = 0 := if_pos (Or.inl c0)
      rw [if_pos c0, if_pos rfl, if_pos P0]
      exact ⟨τ2, rfl, qw_fr_of f2 a2, fun z => absurd P0 z⟩
    · rw [if_neg c0, if_neg qn_10]
      have m2 := qw_M6 a2.1 m1
      have o2 := qw_O6 a2.1 o1
      rw [qw_evM w m2, qn_b]
      obtain ⟨τ5, g1, g2, g3, g4, g5, g6⟩ := qw_arcs w hr Lp (by omega) Eb m2 o2 (a3 (by omega)) (o2 := 6) (o3 := 7) (Or.inl ⟨rfl, rfl⟩)
      rw [qw_S_E w] at g1 g4
      rw [g1, qn_b]
      have q5 := qw_6t a2 g2
      by_cases c3 : 2147483647 < qw_T ρ r (qw_L ρ r)
      · have P0 : qw_P ρ r = 0 := if_pos (Or.inr (Or.inl c3))
        rw [if_pos c3, qn_bo (Or.inl rfl), if_pos P0]
        exact ⟨τ5, rfl, qw_fr_of f2 q5, fun z => absurd P0 z⟩
      · have P1 : qw_P ρ r = qw_L ρ r := if_neg (by omega)
        rw [if_neg c3, qn_bo (Or.inr rfl), if_neg (by omega)]
        refine ⟨τ5, rfl, qw_fr_of f2 q5, fun _ => ⟨qw_M6 q5.1 m1, qw_O6 q5.1 o1, by rw [P1]; exact g3, by rw [P1, if_neg h2]; exact g4, fun u hu => by rw [P1, if_neg h2]; exact g5 u hu, fun z => absurd z h2⟩⟩
/-! LAY: the class's wheel -/
def qw_cf (k : Nat) (σ σ' : qe_S) : Prop := σ'.1 = σ.1 ∧ ∀ a, (a < k ∨ k + 2 < a) → σ'.2 a = σ.2 a
theorem qw_cft {k : Nat} {a b c : qe_S} (h : qw_cf k a b) (g : qw_cf k b c) : qw_cf k a c := ⟨g.1.trans h.1, fun x p => (g.2 x p).trans (h.2 x p)⟩
theorem qw_cfs {k a j : Nat} {x : Int64} (σ : qe_S) (h : k ≤ a ∧ a ≤ k + 2) : qw_cf k σ (qe_sl σ a j x) := ⟨rfl, fun b p => by funext i; exact qn_sl_k (by omega)⟩
theorem qw_D1 {σ σ' : qe_S} {ρ : qr_R} (h : σ'.1 = σ.1) (d : qr_D 1 σ ρ) : qr_D 1 σ' ρ := by
  unfold qr_D
  rw [h]
  exact d
theorem qw_O1 {σ σ' : qe_S} {ρ : qr_R} (h : σ'.1 = σ.1) (o : qr_O 1 σ ρ) : qr_O 1 σ' ρ := by
  unfold qr_O
  rw [h]
  exact o
def qw_C (k : Nat) (σ : qe_S) (ρ : qr_R) (r P b : Nat) : Prop := σ.2 k 0 = lN P ∧ ∀ u, u < 12 → qw_V (k + 1) (k + 2) σ ρ r P b u
theorem qw_unitAt {σ : qe_S} {ρ : qr_R} (w : qr_wf ρ) (d : qr_D 1 σ ρ) (o : qr_O 1 σ ρ) {j : Nat} (hj : j < qr_N ρ) : g_X3_unitAt (nI j) σ = some (nI (qr_t ρ j), σ) := by
  have hN := w.1
  unfold g_X3_unitAt
  rw [qn_j, d.1, if_neg (nI_pos (by omega)), if_neg (nI_ge hj (by omega)), qn_g (by omega) (by omega), qn_l, nI_clamp (by omega), o j hj]
theorem qw_zeroL (K : qe_S → Option qe_S) (k : Nat) (v2 : Int32) (v3 : Int64) (v5 : Int32) : ∀ (q i n : Nat) (s : qe_S), i + q = 12 → q < n → (∀ u, u < i → s.2 (k + 1) u = lN 0 ∧ s.2 (k + 2) u = lN 0) → ∃ s', g_X7_lay_L8 K k v2 v3 v5 n (nI i) s = K s' ∧ qw_cf k s s' ∧ s'.2 k 0 = s.2 k 0 ∧ ∀ u, u < 12 → s'.2 (k + 1) u = lN 0 ∧ s'.2 (k + 2) u = lN 0 := by
  intro q
  induction q with
  | zero =>
    intro i n s hi hn hz
    obtain ⟨m, rfl⟩ : ∃ m, n = m + 1 := ⟨n - 1, by omega⟩
    refine ⟨s, ?_, ⟨rfl, fun _ _ => rfl⟩, rfl, fun u hu => hz u (by omega)⟩
    simp only [g_X7_lay_L8]
    rw [if_pos (nI_le (by omega) (by omega))]
  | succ q ih =>
    intro i n s hi hn hz
    obtain ⟨m, rfl⟩ : ∃ m, n = m + 1 := ⟨n - 1, by omega⟩
    obtain ⟨s', e1, e2, e3, e4⟩ := ih (i + 1) m (qe_sl (qe_sl s (k + 1) i 0) (k + 2) i 0) (by omega) (by omega) (fun u hu => by
      by_cases c : u = i
      · subst c
        refine ⟨?_, ?_⟩
        · rw [qn_sl_k (by omega), qn_sl_eq]; rfl
        · rw [qn_sl_eq]; rfl
      · rw [qn_sl_j c, qn_sl_j c, qn_sl_j c, qn_sl_j c]
        exact hz u (by omega))
    refine ⟨s', ?_, qw_cft (qw_cft (qw_cfs s (by omega)) (qw_cfs _ (by omega))) e2, ?_, e4⟩
    · simp only [g_X7_lay_L8]
      rw [if_neg (nI_ge (by omega) (by omega)), qn_g (by omega) (by omega), qn_l, nI_clamp (by omega), qn_g (by omega) (by omega), qn_l, qn_l, nI_1]
      exact e1
    · rw [e3, qn_sl_k (by omega), qn_sl_k (by omega)]
theorem qw_layL {ρ : qr_R} (w : qr_wf ρ) {r P b k : Nat} (hr : r < 3) (hP : 0 < P) (hP2 : P < 2 ^ 31) (hb : b < 4096) {σ : qe_S} (d : qr_D 1 σ ρ) (o : qr_O 1 σ ρ) : ∀ (q j n : Nat) (s : qe_S), j + q = qr_N ρ → q < n → qw_cf k σ s → s.2 k 0 = lN P → (∀ i, i < j → qw_V (k + 1) (k + 2) s ρ r P b (qr_t ρ i)) → (∀ u, u < 12 → (∀ i, i < j → qr_t ρ i ≠ u) → s.2 (k + 1) u = lN 0 ∧ s.2 (k + 2) u = lN 0) → ∃ s', g_X7_lay_L43 k (nI r) (lN P) (nI b) n (lN (qw_S ρ r P b j % P)) (nI j) s = some s' ∧ qw_cf k σ s' ∧ s'.2 k 0 = lN P ∧ (∀ i, i < qr_N ρ → qw_V (k + 1) (k + 2) s' ρ r P b (qr_t ρ i)) ∧ (∀ u, u < 12 → (∀ i, i < qr_N ρ → qr_t ρ i ≠ u) → s'.2 (k + 1) u = lN 0 ∧ s'.2 (k + 2) u = lN 0) := by
  have hN := w.1
  intro q
  induction q with
  | zero =>
    intro j n s hj hn hc hs hv hz
    obtain ⟨m, rfl⟩ : ∃ m, n = m + 1 := ⟨n - 1, by omega⟩
    obtain rfl : j = qr_N ρ := by omega
    refine ⟨s, ?_, hc, hs, hv, hz⟩
    simp only [g_X7_lay_L43]
    rw [(qw_D1 hc.1 d).1, if_pos (nI_le (by omega) (by omega))]
  | succ q ih =>
    intro j n s hj hn hc hs hv hz
    obtain ⟨m, rfl⟩ : ∃ m, n = m + 1 := ⟨n - 1, by omega⟩
    have hu : j < qr_N ρ := by omega
    have d' := qw_D1 hc.1 d
    have o' := qw_O1 hc.1 o
    have tl := qr_t_lt w hu
    have ua := qw_unitAt w d' o' hu
    generalize hte : qr_t ρ j = t at tl ua
    have ne : ∀ i, i < j → qr_t ρ i ≠ t := fun i hi e => by have := qr_t_inj w (by omega) hu (e.trans hte.symm); omega
    have pos : qr_pos ρ t = j := by rw [← hte]; exact qr_pos_of w hu
    have Sb := qw_S_le (b := b) w hr hP2 (Nat.le_of_lt hu)
    have pb := qw_p_le w P hr tl
    have ml := Nat.mod_lt (qw_S ρ r P b j) hP
    have nP : ¬ lN P ≤ 0 := fun z => by
      have := (pk_lLE (b := 0) (by omega) (by omega)).mp z
      omega
    by_cases c : b.testBit t = true
    · have lt : qw_l ρ r P b t = qw_p ρ r P t := if_pos c
      have ft : qw_f ρ r P b t = qw_S ρ r P b j % P := by unfold qw_f; rw [if_pos c, pos]
      have e1 : g_X7_lay_L43 k (nI r) (lN P) (nI b) (m + 1) (lN (qw_S ρ r P b j % P)) (nI j) s = g_X7_lay_L43 k (nI r) (lN P) (nI b) m (lN (qw_S ρ r P b (j + 1) % P)) (nI (j + 1)) (qe_sl (qe_sl s (k + 1) t (lN (qw_S ρ r P b j % P))) (k + 2) t (lN (qw_p ρ r P t))) := by
        simp only [g_X7_lay_L43, qn_j]
        rw [d'.1, if_neg (nI_ge hu (by omega)), if_neg nP, ua, qn_b, qr_has1 d'.1 hN tl, qn_b, if_neg qn_10, qz_isIn hb (by omega), if_pos c, qn_b, if_neg qn_10, qn_g (by omega) (by omega), qn_l, nI_clamp (by omega)]
        have pC := qw_partsC w (qw_D1 (σ' := qe_sl s (k + 1) t (lN (qw_S ρ r P b j % P))) rfl d') hr tl hP2
        rw [pC, qn_b, qn_g (by omega) (by omega), qn_l, qn_g (by omega) (by omega), qn_l, qn_sl_eq, qn_zl (qw_lz hP (by omega)), qn_l, qn_l, nI_1, lN_add, qw_lr (by omega) hP (by omega), qw_S_s, hte, lt, Nat.mod_add_mod]
      rw [e1]
      refine ih (j + 1) m _ (by omega) (by omega) (qw_cft (qw_cft hc (qw_cfs s (by omega))) (qw_cfs _ (by omega))) ?_ (fun i hi => ?_) (fun u hu12 hne => ?_)
      · rw [qn_sl_k (by omega), qn_sl_k (by omega)]; exact hs
      · by_cases hij : i = j
        · subst hij
          rw [hte]
          refine ⟨?_, ?_⟩
          · rw [qn_sl_k (by omega), qn_sl_eq, ft]
          · rw [qn_sl_eq, lt]
        · have hne := ne i (by omega)
          have hvi := hv i (by omega)
          refine ⟨?_, ?_⟩
          · rw [qn_sl_j hne, qn_sl_j hne]; exact hvi.1
          · rw [qn_sl_j hne, qn_sl_j hne]; exact hvi.2
      · have hut : u ≠ t := fun z => hne j (by omega) (hte.trans z.symm)
        rw [qn_sl_j hut, qn_sl_j hut, qn_sl_j hut, qn_sl_j hut]
        exact hz u hu12 (fun i hi => hne i (by omega))
    · have lt : qw_l ρ r P b t = 0 := if_neg c
      have ft : qw_f ρ r P b t = 0 := if_neg c
      have e1 : g_X7_lay_L43 k (nI r) (lN P) (nI b) (m + 1) (lN (qw_S ρ r P b j % P)) (nI j) s = g_X7_lay_L43 k (nI r) (lN P) (nI b) m (lN (qw_S ρ r P b (j + 1) % P)) (nI (j + 1)) s := by
        simp only [g_X7_lay_L43, qn_j]
        rw [d'.1, if_neg (nI_ge hu (by omega)), if_neg nP, ua, qn_b, qr_has1 d'.1 hN tl, qn_b, if_neg qn_10, qz_isIn hb (by omega), if_neg c, qn_b, if_pos rfl, qn_l, nI_1, qw_S_s, hte, lt, Nat.add_zero (qw_S ρ r P b j)]
      rw [e1]
      refine ih (j + 1) m _ (by omega) (by omega) hc hs (fun i hi => ?_) (fun u hu12 hne => hz u hu12 (fun i hi => hne i (by omega)))
      by_cases hij : i = j
      · subst hij
        rw [hte]
        have z := hz t (by omega) ne
        refine ⟨?_, ?_⟩
        · rw [ft]; exact z.1
        · rw [lt]; exact z.2
      · exact hv i (by omega)
theorem qw_lay {ρ : qr_R} (w : qr_wf ρ) {r P b k : Nat} (hr : r < 3) (hP : 0 < P) (hP2 : P < 2 ^ 31) (hb : b < 2 ^ qr_N ρ) {σ : qe_S} (d : qr_D 1 σ ρ) (o : qr_O 1 σ ρ) : ∃ σ', g_X7_lay k (nI r) (lN P) (nI b) σ = some σ' ∧ qw_cf k σ σ' ∧ qw_C k σ' ρ r P b := by
  have hN := w.1
  have hb2 : b < 4096 := Nat.lt_of_lt_of_le hb (Nat.pow_le_pow_right (show 0 < 2 by omega) hN)
  obtain ⟨s1, e1, e2, e3, e4⟩ := qw_zeroL (fun (s6 : qe_S) => qm_l (0 : Int64) fun b7 => qm_l (0 : Int32) fun a8 => g_X7_lay_L43 k (nI r) (lN P) (nI b) qm_F b7 a8 s6) k (nI r) (lN P) (nI b) 12 0 qm_F (qe_sl σ k 0 (lN P)) (by omega) (by rw [qn_F]; omega) (fun u hu => by omega)
  have c1 := qw_cft (qw_cfs (k := k) (j := 0) (x := lN P) σ (a := k) (by omega)) e2
  obtain ⟨s2, g1, g2, g3, g4, g5⟩ := qw_layL w (k := k) hr hP hP2 hb2 d o (qr_N ρ) 0 qm_F s1 (by omega) (by rw [qn_F]; omega) c1 (by rw [e3, qn_sl_eq]) (fun i hi => by omega) (fun u hu _ => e4 u hu)
  have z0 : lN (qw_S ρ r P b 0 % P) = 0 := by
    show lN (0 % P) = 0
    rw [Nat.zero_mod]
    rfl
  rw [nI_0] at e1 g1
  rw [z0] at g1
  refine ⟨s2, ?_, g2, g3, fun u hu => ?_⟩
  · unfold g_X7_lay
    rw [qn_l, qn_l, e1, qn_l, qn_l, g1]
  · by_cases c : u < qr_N ρ
    · obtain ⟨hp, he⟩ := qr_pos_ex w c
      rw [← he]
      exact g4 _ hp
    · have z := g5 u hu (fun i hi e => c (by rw [← e]; exact qr_t_lt w hi))
      have nb : ¬ b.testBit u = true := by
        rw [Nat.testBit_lt_two_pow (Nat.lt_of_lt_of_le hb (Nat.pow_le_pow_right (show 0 < 2 by omega) (by omega)))]
        decide
      refine ⟨?_, ?_⟩
      · rw [show qw_f ρ r P b u = 0 from if_neg nb]; exact z.1
      · rw [show qw_l ρ r P b u = 0 from if_neg nb]; exact z.2
