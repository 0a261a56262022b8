/-! INORDER: the reference's sort -/
theorem qr_M0 {k : Nat} {τ : qe_S} {ρ : qr_R} (h : qr_M k τ ρ) : τ.1 k 0 = nI (qr_N ρ) := h.1
theorem qr_ah5 {ρ : qr_R} (h5 : qr_o ρ = nI 5) (u v : Nat) : qr_ah ρ u v = false := by
  unfold qr_ah
  rw [h5, if_neg (by decide), if_neg (by decide), if_neg (by decide), if_neg (by decide)]
theorem qr_ins5 {ρ : qr_R} (h5 : qr_o ρ = nI 5) (x : Nat) (g : Nat → Nat) : ∀ p, qr_ins ρ x g p = p := by
  intro p
  cases p with
  | zero => rfl
  | succ p => simp [qr_ins, qr_ah5 h5]
theorem qr_inorder_in {ρ : qr_R} (hw : qr_wf ρ) (h5 : qr_o ρ ≠ nI 5) {x : Nat} (hx : x < qr_N ρ) (g : Nat → Nat) (K : Int32 → qe_S → Option qe_S) : ∀ (p n : Nat) (s : qe_S), p < n → p < 12 → qr_M 1 s ρ → (∀ j, j < p → g j < qr_N ρ) → (∀ j, j < p → s.1 5 j = nI (g j)) → ∃ s', qr_sh g (qr_ins ρ x g p) p s s' ∧ g_X9_inOrder_L14 K (nI x) n (nI p) s = K (nI (qr_ins ρ x g p)) s' := by
  intro p
  have hN := hw.1
  have h5' : ∀ s : qe_S, qr_M 1 s ρ → ¬ s.1 1 1 = nI 5 := fun s hM => by rw [hM.2.1]; exact h5
  induction p with
  | zero =>
    intro n s hn _ hM hg ha
    obtain ⟨m, rfl⟩ : ∃ m, n = m + 1 := ⟨n - 1, by omega⟩
    refine ⟨s, ⟨qf_refl 5 s, fun j h => absurd h (by simp [qr_ins]), fun j h h2 => absurd h (by omega), fun j _ => rfl⟩, ?_⟩
    simp only [g_X9_inOrder_L14]
    rw [qn_g1 (by omega) (by omega), qn_l, qr_clamp1, if_neg (h5' s hM)]
    rfl
  | succ p ih =>
    intro n s hn hp hM hg ha
    obtain ⟨m, rfl⟩ : ∃ m, n = m + 1 := ⟨n - 1, by omega⟩
    have e1 : g_X9_inOrder_L14 K (nI x) (m + 1) (nI (p + 1)) s = if qr_ah ρ x (g p) = true then g_X9_inOrder_L14 K (nI x) m (nI p) (qe_si s 5 (p + 1) (nI (g p))) else K (nI (p + 1)) s := by
      simp only [g_X9_inOrder_L14]
      rw [qn_g1 (by omega) (by omega), qn_l, qr_clamp1, if_neg (h5' s hM)]
      rw [if_neg (nI_nle (by omega) (by omega)), nI_pred, qn_g (by omega) (by omega), qn_l, nI_clamp (by omega), ha p (by omega), qr_ahead hw hM hx (hg p (by omega)), qn_b]
      by_cases h : qr_ah ρ x (g p) = true
      · rw [if_pos h, if_pos h, if_neg qn_10, qn_g (by omega) (by omega), qn_l, qn_g (by omega) (by omega), qn_l, nI_clamp (by omega), pk_m1, qn_l]
        rw [ha p (by omega)]
      · rw [if_neg h, if_neg h, if_pos rfl]
    rw [e1]
    by_cases h : qr_ah ρ x (g p) = true
    · rw [if_pos h]
      have o1 : qf_on 5 s (qe_si s 5 (p + 1) (nI (g p))) := qf_si s 5 (p + 1) _
      obtain ⟨s', hs, he⟩ := ih m (qe_si s 5 (p + 1) (nI (g p))) (by omega) (by omega) (qr_M_on o1 hM (by omega)) (fun j hj => hg j (by omega)) (fun j hj => by rw [qn_si_j (by omega)]; exact ha j (by omega))
      have e2 : qr_ins ρ x g (p + 1) = qr_ins ρ x g p := by simp only [qr_ins, h, if_true]
      rw [e2]
      refine ⟨s', ⟨qf_trans o1 hs.1, hs.2.1, fun j h1 h2 => ?_, fun j h1 => ?_⟩, he⟩
      · by_cases hj : j ≤ p
        · exact hs.2.2.1 j h1 hj
        · obtain rfl : j = p + 1 := by omega
          rw [hs.2.2.2 (p + 1) (by omega), qn_si_eq]; rfl
      · rw [hs.2.2.2 j (by omega), qn_si_j (by omega)]
    · rw [if_neg h]
      have e2 : qr_ins ρ x g (p + 1) = p + 1 := by simp only [qr_ins, h, if_false]; simp
      rw [e2]
      exact ⟨s, ⟨qf_refl 5 s, fun j h => ha j (by omega), fun j h h2 => absurd h (by omega), fun j _ => rfl⟩, rfl⟩
def qr_MO (τ : qe_S) (ρ : qr_R) : Prop := ∀ i, i < qr_N ρ → τ.1 5 i = nI (qr_ord ρ (qr_N ρ) i)
theorem qr_inorder_out {ρ : qr_R} (hw : qr_wf ρ) : ∀ (r i n : Nat) (s : qe_S), r + i = qr_N ρ → r < n → qr_M 1 s ρ → (∀ j, j < i → s.1 5 j = nI (qr_ord ρ i j)) → ∃ s', g_X9_inOrder_L2 n (nI i) s = some s' ∧ qf_on 5 s s' ∧ qr_MO s' ρ := by
  intro r
  have hN := hw.1
  induction r with
  | zero =>
    intro i n s hr hn hM ha
    obtain ⟨m, rfl⟩ : ∃ m, n = m + 1 := ⟨n - 1, by omega⟩
    refine ⟨s, ?_, qf_refl 5 s, fun j hj => ?_⟩
    · simp only [g_X9_inOrder_L2]
      rw [qn_g0 (by omega) (by omega), qn_l, qr_clamp0, hM.1, if_pos (nI_le (by omega) (by omega))]
    · have := ha j (by omega)
      rw [show i = qr_N ρ by omega] at this
      exact this
  | succ r ih =>
    intro i n s hr hn hM ha
    obtain ⟨m, rfl⟩ : ∃ m, n = m + 1 := ⟨n - 1, by omega⟩
    have hi : i < qr_N ρ := by omega
    have xl := qr_x_lt hw hi
    have gl : ∀ j, j < i → qr_ord ρ i j < qr_N ρ := fun j hj => qr_ord_lt hw (by omega) hj
    have hq := qr_ins_le ρ (qr_x ρ i) (qr_ord ρ i) i
    have key : ∃ s1, qr_sh (qr_ord ρ i) (qr_ins ρ (qr_x ρ i) (qr_ord ρ i) i) i s s1 ∧ g_X9_inOrder_L2 (m + 1) (nI i) s = g_X9_inOrder_L2 m (nI (i + 1)) (qe_si s1 5 (qr_ins ρ (qr_x ρ i) (qr_ord ρ i) i) (nI (qr_x ρ i))) := by
      by_cases h5 : qr_o ρ = nI 5
      · rw [qr_ins5 h5]
        refine ⟨s, ⟨qf_refl 5 s, ha, fun j h h2 => absurd h (by omega), fun j _ => rfl⟩, ?_⟩
        obtain ⟨f, hf⟩ := qn_Fk 0 (by omega)
        simp only [g_X9_inOrder_L2]
        rw [qn_g0 (by omega) (by omega), qn_l, qr_clamp0, hM.1, if_neg (nI_ge hi (by omega)), hf]
        simp only [g_X9_inOrder_L14]
        rw [qn_g1 (by omega) (by omega), qn_l, qr_clamp1, hM.2.1, if_pos h5, qn_j, qn_g1 (by omega) (by omega), qn_l, if_pos h5, nI_add, qn_g (by omega) (by omega), qn_l, nI_clamp (by omega), (hM.2.2.1 i hi).1]
        dsimp only
        rw [qn_g (by omega) (by omega), qn_l, nI_clamp (by omega), qn_l, nI_1]
        unfold qr_x
        rw [if_pos h5]
      · have ex : qr_x ρ i = i := if_neg h5
        have e1 : g_X9_inOrder_L2 (m + 1) (nI i) s = g_X9_inOrder_L14 (fun a11 s12 => qm_j (fun q13 q14 s15 => qm_g q14 12 <| qm_l (qe_si s15 5 q14.toNatClampNeg q13) fun s16 => qm_l (nI i + (1 : Int32)) fun a17 => g_X9_inOrder_L2 m a17 s16) fun j91 => qm_g (1 : Int32) 122 <| qm_l (s12.1 1 (1 : Int32).toNatClampNeg) fun a18 => if a18 = (nI 5) then (qm_g ((nI 2) + nI i) 122 <| qm_l (s12.1 1 ((nI 2) + nI i).toNatClampNeg) fun a19 => j91 a19 a11 s12) else j91 (nI i) a11 s12) (nI i) qm_F (nI i) s := by
          simp only [g_X9_inOrder_L2]
          rw [qn_g0 (by omega) (by omega), qn_l, qr_clamp0, hM.1, if_neg (nI_ge hi (by omega))]
        obtain ⟨s1, hs, he⟩ := qr_inorder_in hw h5 (x := i) (by omega) (qr_ord ρ i) (fun a11 s12 => qm_j (fun q13 q14 s15 => qm_g q14 12 <| qm_l (qe_si s15 5 q14.toNatClampNeg q13) fun s16 => qm_l (nI i + (1 : Int32)) fun a17 => g_X9_inOrder_L2 m a17 s16) fun j91 => qm_g (1 : Int32) 122 <| qm_l (s12.1 1 (1 : Int32).toNatClampNeg) fun a18 => if a18 = (nI 5) then (qm_g ((nI 2) + nI i) 122 <| qm_l (s12.1 1 ((nI 2) + nI i).toNatClampNeg) fun a19 => j91 a19 a11 s12) else j91 (nI i) a11 s12) i qm_F s (by rw [qn_F]; omega) (by omega) hM gl ha
        rw [ex] at hq ⊢
        refine ⟨s1, hs, ?_⟩
        have hM1 := qr_M_on hs.1 hM (by omega)
        rw [e1, he, qn_j, qn_g1 (by omega) (by omega), qn_l, qr_clamp1, hM1.2.1, if_neg h5]
        dsimp only
        rw [qn_g (by omega) (by omega), qn_l, nI_clamp (by omega), qn_l, nI_1]
    obtain ⟨s1, hs, e1⟩ := key
    have sp := qr_sh_put hs
    have o1 : qf_on 5 s (qe_si s1 5 (qr_ins ρ (qr_x ρ i) (qr_ord ρ i) i) (nI (qr_x ρ i))) := qf_trans hs.1 (qf_si s1 5 _ _)
    rw [e1]
    obtain ⟨s', h1, h2, h3⟩ := ih (i + 1) m _ (by omega) (by omega) (qr_M_on o1 hM (by omega)) sp
    exact ⟨s', h1, qf_trans o1 h2, h3⟩
theorem qr_inorder {ρ : qr_R} (hw : qr_wf ρ) {s : qe_S} (hM : qr_M 1 s ρ) : ∃ s', g_X9_inOrder s = some s' ∧ qf_on 5 s s' ∧ qr_MO s' ρ := by
  have hN := hw.1
  have h := qr_inorder_out hw (qr_N ρ) 0 qm_F s (by omega) (by rw [qn_F]; omega) hM (fun j h => absurd h (by omega))
  rw [nI_0] at h
  unfold g_X9_inOrder
  rw [qn_l]
  exact h
