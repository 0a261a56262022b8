/-! ARRANGE: the two sorts put the order into cell 5, and touch no other -/
def qf_on (k : Nat) (σ σ' : qe_S) : Prop := σ'.2 = σ.2 ∧ ∀ a, a ≠ k → σ'.1 a = σ.1 a
theorem qf_refl (k : Nat) (σ : qe_S) : qf_on k σ σ := ⟨rfl, fun _ _ => rfl⟩
theorem qf_trans {k : Nat} {σ σ1 σ2 : qe_S} (h : qf_on k σ σ1) (h2 : qf_on k σ1 σ2) : qf_on k σ σ2 := ⟨h2.1.trans h.1, fun a z => (h2.2 a z).trans (h.2 a z)⟩
theorem qf_si (σ : qe_S) (k j : Nat) (x : Int32) : qf_on k σ (qe_si σ k j x) := ⟨rfl, fun a z => by funext b; exact qn_si_k z⟩
theorem qr_D_on {b k : Nat} {σ σ' : qe_S} {ρ : qr_R} (h : qf_on k σ σ') (hD : qr_D b σ ρ) (hk : k < b ∨ k = b + 4 ∨ b + 6 < k) : qr_D b σ' ρ := by
  unfold qr_D
  rw [h.2 b (by omega), h.2 (b + 1) (by omega), h.2 (b + 2) (by omega), h.2 (b + 3) (by omega), h.2 (b + 5) (by omega), h.2 (b + 6) (by omega)]
  exact hD
theorem qr_M_on {b k : Nat} {σ σ' : qe_S} {ρ : qr_R} (h : qf_on k σ σ') (hM : qr_M b σ ρ) (hk : b ≠ k) : qr_M b σ' ρ := by
  unfold qr_M
  rw [h.2 b hk]
  exact hM
/-- after the inner loop, from p down to q -/
def qr_sh (g : Nat → Nat) (q p : Nat) (s s' : qe_S) : Prop := qf_on 5 s s' ∧ (∀ j, j < q → s'.1 5 j = nI (g j)) ∧ (∀ j, q < j → j ≤ p → s'.1 5 j = nI (g (j - 1))) ∧ (∀ j, p < j → s'.1 5 j = s.1 5 j)
theorem qr_arrange_in {ρ : qr_R} (hw : qr_wf ρ) {x : Nat} (hx : x < qr_N ρ) (g : Nat → Nat) (K : Int32 → qe_S → Option qe_S) (v1 : Int32) : ∀ (p n : Nat) (s : qe_S), p < n → p < 12 → qr_D 1 s ρ → (∀ j, j < p → g j < qr_N ρ) → (∀ j, j < p → s.1 5 j = nI (g j)) → ∃ s', qr_sh g (qr_ins ρ x g p) p s s' ∧ g_X3_arrange_L31 K v1 (nI x) n (nI p) s = K (nI (qr_ins ρ x g p)) s' := by
  intro p
  have hN := hw.1
  induction p with
  | zero =>
    intro n s hn _ hD hg ha
    obtain ⟨m, rfl⟩ : ∃ m, n = m + 1 := ⟨n - 1, by omega⟩
    exact ⟨s, ⟨qf_refl 5 s, fun j h => absurd h (by simp [qr_ins]), fun j h h2 => absurd h (by omega), fun j _ => rfl⟩, rfl⟩
  | succ p ih =>
    intro n s hn hp hD hg ha
    obtain ⟨m, rfl⟩ : ∃ m, n = m + 1 := ⟨n - 1, by omega⟩
    have e1 : g_X3_arrange_L31 K v1 (nI x) (m + 1) (nI (p + 1)) s = if qr_ah ρ x (g p) = true then g_X3_arrange_L31 K v1 (nI x) m (nI p) (qe_si s 5 (p + 1) (nI (g p))) else K (nI (p + 1)) s := by
      simp only [g_X3_arrange_L31]
      rw [if_neg (nI_nle (by omega) (by omega)), nI_pred, qn_g (by omega) (by omega), qn_l, nI_clamp (by omega), ha p (by omega), qr_stands hw hD hx (hg p (by omega)), qn_b]
      by_cases h : qr_ah ρ x (g p) = true
      · rw [if_pos h, if_pos h, if_neg qn_10, qn_g (by omega) (by omega), qn_l, qn_g (by omega) (by omega), qn_l, nI_clamp (by omega), pk_m1, qn_l]
        rw [ha p (by omega)]
      · rw [if_neg h, if_neg h, if_pos rfl]
    rw [e1]
    by_cases h : qr_ah ρ x (g p) = true
    · rw [if_pos h]
      have o1 : qf_on 5 s (qe_si s 5 (p + 1) (nI (g p))) := qf_si s 5 (p + 1) _
      obtain ⟨s', hs, he⟩ := ih m (qe_si s 5 (p + 1) (nI (g p))) (by omega) (by omega) (qr_D_on o1 hD (by omega)) (fun j hj => hg j (by omega)) (fun j hj => by rw [qn_si_j (by omega)]; exact ha j (by omega))
      have e2 : qr_ins ρ x g (p + 1) = qr_ins ρ x g p := by simp only [qr_ins, h, if_true]
      rw [e2]
      refine ⟨s', ⟨qf_trans o1 hs.1, hs.2.1, fun j h1 h2 => ?_, fun j h1 => ?_⟩, he⟩
      · by_cases hj : j ≤ p
        · exact hs.2.2.1 j h1 hj
        · obtain rfl : j = p + 1 := by omega
          rw [hs.2.2.2 (p + 1) (by omega), qn_si_eq]; rfl
      · rw [hs.2.2.2 j (by omega), qn_si_j (by omega)]
    · rw [if_neg h]
      have e2 : qr_ins ρ x g (p + 1) = p + 1 := by simp only [qr_ins, h, if_false]; simp
      rw [e2]
      exact ⟨s, ⟨qf_refl 5 s, fun j h => ha j (by omega), fun j h h2 => absurd h (by omega), fun j _ => rfl⟩, rfl⟩
theorem qr_sh_put {ρ : qr_R} {s s' : qe_S} {x i : Nat} {g : Nat → Nat} (h : qr_sh g (qr_ins ρ x g i) i s s') : ∀ j, j < i + 1 → (qe_si s' 5 (qr_ins ρ x g i) (nI x)).1 5 j = nI (qr_put g x (qr_ins ρ x g i) i j) := by
  intro j hj
  generalize qr_ins ρ x g i = q at h
  rw [qn_si]
  unfold qr_put
  by_cases a : j < q
  · rw [if_neg (by omega), if_pos a, h.2.1 j a]
  · rw [if_neg a]
    by_cases b : j = q
    · rw [if_pos ⟨rfl, b⟩, if_pos b]
    · rw [if_neg (fun z => b z.2), if_neg b, if_pos (by omega), h.2.2.1 j (by omega) (by omega)]
theorem qr_arrange_out {ρ : qr_R} (hw : qr_wf ρ) : ∀ (r i n : Nat) (s : qe_S), r + i = qr_N ρ → r < n → qr_D 1 s ρ → (∀ j, j < i → s.1 5 j = nI (qr_ord ρ i j)) → ∃ s', g_X3_arrange_L2 n (nI i) s = some s' ∧ qf_on 5 s s' ∧ qr_O 1 s' ρ := by
  intro r
  have hN := hw.1
  induction r with
  | zero =>
    intro i n s hr hn hD ha
    obtain ⟨m, rfl⟩ : ∃ m, n = m + 1 := ⟨n - 1, by omega⟩
    refine ⟨s, ?_, qf_refl 5 s, fun j hj => ?_⟩
    · simp only [g_X3_arrange_L2, hD.1]
      rw [if_pos (nI_le (by omega) (by omega))]
    · have := ha j (by omega)
      rw [show i = qr_N ρ by omega] at this
      exact this
  | succ r ih =>
    intro i n s hr hn hD ha
    obtain ⟨m, rfl⟩ : ∃ m, n = m + 1 := ⟨n - 1, by omega⟩
    have hi : i < qr_N ρ := by omega
    have xl := qr_x_lt hw hi
    have gl : ∀ j, j < i → qr_ord ρ i j < qr_N ρ := fun j hj => qr_ord_lt hw (by omega) hj
    have e1 : g_X3_arrange_L2 (m + 1) (nI i) s = g_X3_arrange_L31 (fun a11 s12 => qm_g a11 12 <| qm_l (qe_si s12 5 a11.toNatClampNeg (nI (qr_x ρ i))) fun s13 => qm_l (nI i + (1 : Int32)) fun a14 => g_X3_arrange_L2 m a14 s13) (nI i) (nI (qr_x ρ i)) qm_F (nI i) s := by
      simp only [g_X3_arrange_L2, hD.1]
      rw [if_neg (nI_ge hi (by omega)), qn_j]
      unfold qr_x
      have o2 : s.1 1 2 = qr_o ρ := hD.2.2.1
      rw [o2]
      by_cases h5 : qr_o ρ = nI 5
      · rw [if_pos h5, if_pos h5, qn_g (by omega) (by omega), qn_l, nI_clamp (by omega)]
        rw [show s.1 4 i = nI (qr_h ρ i) from (hD.2.2.2.1 i hi).2.2]
      · rw [if_neg h5, if_neg h5]
    obtain ⟨s1, hs, he⟩ := qr_arrange_in hw xl (qr_ord ρ i) (fun a11 s12 => qm_g a11 12 <| qm_l (qe_si s12 5 a11.toNatClampNeg (nI (qr_x ρ i))) fun s13 => qm_l (nI i + (1 : Int32)) fun a14 => g_X3_arrange_L2 m a14 s13) (nI i) i qm_F s (by rw [qn_F]; omega) (by omega) hD gl ha
    have hq := qr_ins_le ρ (qr_x ρ i) (qr_ord ρ i) i
    have sp := qr_sh_put hs
    have o1 : qf_on 5 s (qe_si s1 5 (qr_ins ρ (qr_x ρ i) (qr_ord ρ i) i) (nI (qr_x ρ i))) := qf_trans hs.1 (qf_si s1 5 _ _)
    rw [e1, he, qn_g (by omega) (by omega), nI_clamp (by omega), qn_l, qn_l, nI_1]
    obtain ⟨s', h1, h2, h3⟩ := ih (i + 1) m _ (by omega) (by omega) (qr_D_on o1 hD (by omega)) sp
    exact ⟨s', h1, qf_trans o1 h2, h3⟩
theorem qr_arrange {ρ : qr_R} (hw : qr_wf ρ) {s : qe_S} (hD : qr_D 1 s ρ) : ∃ s', g_X3_arrange s = some s' ∧ qf_on 5 s s' ∧ qr_O 1 s' ρ := by
  have hN := hw.1
  exact qr_arrange_out hw (qr_N ρ) 0 qm_F s (by omega) (by rw [qn_F]; omega) hD (fun j h => absurd h (by omega))
