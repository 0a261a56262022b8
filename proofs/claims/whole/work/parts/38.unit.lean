/-! UNIT: one more -/
theorem qz_comesL {v1 v2 : Int32} {N n r : Nat} {s : qe_S} (hN : N < 12) (hr : r < 3) : g_X9_comes_L108 v1 v2 (nI N) (n + 1) (nI r) s = g_X9_comes_L108 v1 v2 (nI N) n (nI (r + 1)) (qe_si (qe_si s 1 (50 + (12 * r + N)) (if r = 0 then v1 else 1)) 1 (86 + (12 * r + N)) (if r = 0 then v2 else 1)) := by
  simp only [g_X9_comes_L108, qn_j]
  rw [if_neg (nI_ge hr (by omega)), pk_mul, nI_add, nI_add, nI_add, nI_add, show 50 + 12 * r + N = 50 + (12 * r + N) by omega, show 86 + 12 * r + N = 86 + (12 * r + N) by omega]
  have g1 : ∀ P : Option (Int32 × qe_S), qm_g (nI (50 + (12 * r + N))) 122 P = P := fun P => qn_g (by omega) (by omega)
  have g2 : ∀ P : Option (Int32 × qe_S), qm_g (nI (86 + (12 * r + N))) 122 P = P := fun P => qn_g (by omega) (by omega)
  have c1 : (nI (50 + (12 * r + N))).toNatClampNeg = 50 + (12 * r + N) := nI_clamp (by omega)
  have c2 : (nI (86 + (12 * r + N))).toNatClampNeg = 86 + (12 * r + N) := nI_clamp (by omega)
  simp only [g1, g2, c1, c2, qn_l, nI_1]
  by_cases h : r = 0
  · subst h
    simp only [nI_0, if_true]
  · have h0 : ¬ nI r = 0 := nI_ne0 (by omega) (by omega)
    simp only [h, h0, if_false]
def qz_cu (σ : qe_S) (N : Nat) (a b s k : Int32) : qe_S := qe_si (qe_si (qe_si (qe_si (qe_si (qe_si (qe_si (qe_si (qe_si (qe_si σ 1 0 (nI (N + 1))) 6 (12 * 0 + N) a) 7 (12 * 0 + N) b) 6 (12 * 1 + N) 1) 7 (12 * 1 + N) 1) 6 (12 * 2 + N) 1) 7 (12 * 2 + N) 1) 2 N s) 3 N k) 4 N (nI N)
def qz_mu (τ : qe_S) (N : Nat) (a b s k : Int32) : qe_S := qe_si (qe_si (qe_si (qe_si (qe_si (qe_si (qe_si (qe_si (qe_si (qe_si (qe_si τ 1 0 (nI (N + 1))) 1 (2 + N) (nI N)) 1 (14 + N) s) 1 (26 + N) k) 1 (38 + N) 0) 1 (50 + (12 * 0 + N)) a) 1 (86 + (12 * 0 + N)) b) 1 (50 + (12 * 1 + N)) 1) 1 (86 + (12 * 1 + N)) 1) 1 (50 + (12 * 2 + N)) 1) 1 (86 + (12 * 2 + N)) 1
def qz_ua (f : Nat → Nat → Nat) (N A : Nat) : Nat → Nat → Nat := fun x y => if y = N then (if x = 0 then A else 1) else f x y
theorem qz_newu {ρ : qr_R} {σ τ : qe_S} (w : qr_wf ρ) (d : qr_D 1 σ ρ) (m : qr_M 1 τ ρ) (hN : qr_N ρ < 12) {A B : Nat} {s k : Int32} (h1 : 1 ≤ B) (h2 : B ≤ 60) (h3 : A ≤ B) (h4 : 1 ≤ A) (hs : vp_in s 4) (hk : -99 ≤ k.toInt ∧ k.toInt ≤ 99) : ∃ ρ', qr_wf ρ' ∧ qr_N ρ' = qr_N ρ + 1 ∧ qr_D 1 (qz_cu σ (qr_N ρ) (nI A) (nI B) s k) ρ' ∧ qr_M 1 (qz_mu τ (qr_N ρ) (nI A) (nI B) s k) ρ' := by
  generalize hNe : qr_N ρ = N at hN
  have lo : ∀ x, x < N + 1 → x < N ∨ x = N := fun x h => by omega
  refine ⟨(N + 1, qr_o ρ, qz_up (qr_h ρ) N N, qz_up (qr_s ρ) N s, qz_up (qr_m ρ) N k, qz_up (qr_f ρ) N false, qz_ua (qr_a ρ) N A, qz_ua (qr_b ρ) N B), ⟨?_, w.2.1, fun x hx => ?_, fun x y hx hy e => ?_, fun x hx => ?_, fun x hx => ?_, fun r x hr hx => ?_, fun x hx => ?_⟩, rfl, ⟨?_, ?_, ?_, fun x hx => ?_, fun r x hr hx => ?_⟩, ⟨?_, ?_, fun x hx => ?_, fun r x hr hx => ?_⟩⟩
  · show N + 1 ≤ 12
    omega
  · show qz_up (qr_h ρ) N N x < N + 1
    unfold qz_up
    rcases lo x hx with h | h
    · rw [if_neg (by omega)]; have := w.2.2.1 x (by omega); omega
    · rw [if_pos h]; omega
  · have e' : qz_up (qr_h ρ) N N x = qz_up (qr_h ρ) N N y := e
    unfold qz_up at e'
    rcases lo x hx with h | h <;> rcases lo y hy with g | g
    · rw [if_neg (by omega), if_neg (by omega)] at e'; exact w.2.2.2.1 x y (by omega) (by omega) e'
    · rw [if_neg (by omega), if_pos g] at e'; have := w.2.2.1 x (by omega); omega
    · rw [if_pos h, if_neg (by omega)] at e'; have := w.2.2.1 y (by omega); omega
    · omega
  · show vp_in (qz_up (qr_s ρ) N s x) 4
    unfold qz_up
    rcases lo x hx with h | h
    · rw [if_neg (by omega)]; exact w.2.2.2.2.1 x (by omega)
    · rw [if_pos h]; exact hs
  · show -99 ≤ (qz_up (qr_m ρ) N k x).toInt ∧ (qz_up (qr_m ρ) N k x).toInt ≤ 99
    unfold qz_up
    rcases lo x hx with h | h
    · rw [if_neg (by omega)]; exact w.2.2.2.2.2.1 x (by omega)
    · rw [if_pos h]; exact hk
  · show 1 ≤ qz_ua (qr_b ρ) N B r x ∧ qz_ua (qr_b ρ) N B r x ≤ 60 ∧ qz_ua (qr_a ρ) N A r x ≤ qz_ua (qr_b ρ) N B r x
    unfold qz_ua
    rcases lo x hx with h | h
    · simp only [if_neg (show ¬ x = N by omega)]; exact w.2.2.2.2.2.2.1 r x hr (by omega)
    · simp only [if_pos h]
      by_cases r0 : r = 0
      · simp only [if_pos r0]; exact ⟨h1, h2, h3⟩
      · simp only [if_neg r0]; omega
  · show 1 ≤ qz_ua (qr_a ρ) N A 0 x
    unfold qz_ua
    rcases lo x hx with h | h
    · rw [if_neg (by omega)]; exact w.2.2.2.2.2.2.2 x (by omega)
    · rw [if_pos h, if_pos rfl]; exact h4
  · show (qz_cu σ N (nI A) (nI B) s k).1 1 0 = nI (N + 1)
    unfold qz_cu
    simp only [qn_si]
    rw [if_neg (by omega), if_neg (by omega), if_neg (by omega), if_neg (by omega), if_neg (by omega), if_neg (by omega), if_neg (by omega), if_neg (by omega), if_neg (by omega), if_pos ⟨trivial, trivial⟩]
  · show (qz_cu σ N (nI A) (nI B) s k).1 1 1 = nI (qb_s (qz_up (qr_f ρ) N false) (N + 1))
    have e : qb_s (qz_up (qr_f ρ) N false) (N + 1) = qb_s (qr_f ρ) N := by
      simp only [qb_s]
      have e1 : qz_up (qr_f ρ) N false N = false := if_pos rfl
      rw [e1, if_neg (by decide), Nat.add_zero]
      exact qb_congr (fun u hu => if_neg (by omega))
    rw [e]
    unfold qz_cu
    simp only [qn_si]
    rw [if_neg (by omega), if_neg (by omega), if_neg (by omega), if_neg (by omega), if_neg (by omega), if_neg (by omega), if_neg (by omega), if_neg (by omega), if_neg (by omega), if_neg (by omega)]
    rw [← hNe]
    exact d.2.1
  · show (qz_cu σ N (nI A) (nI B) s k).1 1 2 = qr_o ρ
    unfold qz_cu
    simp only [qn_si]
    rw [if_neg (by omega), if_neg (by omega), if_neg (by omega), if_neg (by omega), if_neg (by omega), if_neg (by omega), if_neg (by omega), if_neg (by omega), if_neg (by omega), if_neg (by omega)]
    exact d.2.2.1
  · show (qz_cu σ N (nI A) (nI B) s k).1 2 x = qz_up (qr_s ρ) N s x ∧ (qz_cu σ N (nI A) (nI B) s k).1 3 x = qz_up (qr_m ρ) N k x ∧ (qz_cu σ N (nI A) (nI B) s k).1 4 x = nI (qz_up (qr_h ρ) N N x)
    unfold qz_cu qz_up
    simp only [qn_si]
    rcases lo x hx with h | h
    · have dx := d.2.2.2.1 x (by omega)
      have hn : ¬ x = N := by omega
      simp [hn]
      exact dx
    · subst h
      simp
  · show (qz_cu σ N (nI A) (nI B) s k).1 6 (12 * r + x) = nI (qz_ua (qr_a ρ) N A r x) ∧ (qz_cu σ N (nI A) (nI B) s k).1 7 (12 * r + x) = nI (qz_ua (qr_b ρ) N B r x)
    unfold qz_cu qz_ua
    simp only [qn_si]
    rcases lo x hx with h | h
    · have dx := d.2.2.2.2 r x hr (by omega)
      have hn : ¬ x = N := by omega
      have n0 : ¬ 12 * r + x = 12 * 0 + N := by omega
      have n1 : ¬ 12 * r + x = 12 * 1 + N := by omega
      have n2 : ¬ 12 * r + x = 12 * 2 + N := by omega
      simp only [hn, n0, n1, n2, and_false, if_false]
      simp
      exact dx
    · subst h
      obtain rfl | rfl | rfl : r = 0 ∨ r = 1 ∨ r = 2 := by omega
      · simp
      · simp [nI]
      · simp [nI]
  · show (qz_mu τ N (nI A) (nI B) s k).1 1 0 = nI (N + 1)
    unfold qz_mu
    simp only [qn_si]
    rw [if_neg (by omega), if_neg (by omega), if_neg (by omega), if_neg (by omega), if_neg (by omega), if_neg (by omega), if_neg (by omega), if_neg (by omega), if_neg (by omega), if_neg (by omega), if_pos ⟨trivial, trivial⟩]
  · show (qz_mu τ N (nI A) (nI B) s k).1 1 1 = qr_o ρ
    unfold qz_mu
    simp only [qn_si]
    rw [if_neg (by omega), if_neg (by omega), if_neg (by omega), if_neg (by omega), if_neg (by omega), if_neg (by omega), if_neg (by omega), if_neg (by omega), if_neg (by omega), if_neg (by omega), if_neg (by omega)]
    exact m.2.1
  · show (qz_mu τ N (nI A) (nI B) s k).1 1 (2 + x) = nI (qz_up (qr_h ρ) N N x) ∧ (qz_mu τ N (nI A) (nI B) s k).1 1 (14 + x) = qz_up (qr_s ρ) N s x ∧ (qz_mu τ N (nI A) (nI B) s k).1 1 (26 + x) = qz_up (qr_m ρ) N k x ∧ (qz_mu τ N (nI A) (nI B) s k).1 1 (38 + x) = (if qz_up (qr_f ρ) N false x then 1 else 0)
    unfold qz_mu qz_up
    simp only [qn_si]
    have hx' : x < N + 1 := hx
    rcases lo x hx with h | h
    · have dx := m.2.2.1 x (by omega)
      have hn : ¬ x = N := by omega
      refine ⟨?_, ?_, ?_, ?_⟩
      · repeat rw [if_neg (by omega)]
        exact dx.1
      · repeat rw [if_neg (by omega)]
        exact dx.2.1
      · repeat rw [if_neg (by omega)]
        exact dx.2.2.1
      · rw [if_neg hn]
        iterate 11 rw [if_neg (by omega)]
        exact dx.2.2.2
    · subst h
      refine ⟨?_, ?_, ?_, ?_⟩
      · iterate 9 rw [if_neg (by omega)]
        rw [if_pos ⟨trivial, rfl⟩, if_pos rfl]
      · iterate 8 rw [if_neg (by omega)]
        rw [if_pos ⟨trivial, rfl⟩, if_pos rfl]
      · iterate 7 rw [if_neg (by omega)]
        rw [if_pos ⟨trivial, rfl⟩, if_pos rfl]
      · iterate 6 rw [if_neg (by omega)]
        rw [if_pos ⟨trivial, rfl⟩, if_pos rfl]
        rfl
  · show (qz_mu τ N (nI A) (nI B) s k).1 1 (50 + (12 * r + x)) = nI (qz_ua (qr_a ρ) N A r x) ∧ (qz_mu τ N (nI A) (nI B) s k).1 1 (86 + (12 * r + x)) = nI (qz_ua (qr_b ρ) N B r x)
    unfold qz_mu qz_ua
    simp only [qn_si]
    have hx' : x < N + 1 := hx
    rcases lo x hx with h | h
    · have dx := m.2.2.2 r x hr (by omega)
      have hn : ¬ x = N := by omega
      refine ⟨?_, ?_⟩
      · rw [if_neg hn]
        iterate 11 rw [if_neg (by omega)]
        exact dx.1
      · rw [if_neg hn]
        iterate 11 rw [if_neg (by omega)]
        exact dx.2
    · subst h
      obtain rfl | rfl | rfl : r = 0 ∨ r = 1 ∨ r = 2 := by omega
      · refine ⟨?_, ?_⟩
        · iterate 5 rw [if_neg (by omega)]
          rw [if_pos ⟨trivial, rfl⟩, if_pos rfl, if_pos rfl]
        · iterate 4 rw [if_neg (by omega)]
          rw [if_pos ⟨trivial, rfl⟩, if_pos rfl, if_pos rfl]
      · refine ⟨?_, ?_⟩
        · iterate 3 rw [if_neg (by omega)]
          rw [if_pos ⟨trivial, rfl⟩, if_pos rfl, if_neg (by omega)]; rfl
        · iterate 2 rw [if_neg (by omega)]
          rw [if_pos ⟨trivial, rfl⟩, if_pos rfl, if_neg (by omega)]; rfl
      · refine ⟨?_, ?_⟩
        · rw [if_neg (by omega), if_pos ⟨trivial, rfl⟩, if_pos rfl, if_neg (by omega)]; rfl
        · rw [if_pos ⟨trivial, rfl⟩, if_pos rfl, if_neg (by omega)]; rfl
theorem qz_unit : ql_op_unit qz_R := by
  intro a0 a1 a2 a3 σ τ hR
  have hR0 := hR
  obtain ⟨⟨ρ, w, d, o, m⟩, hI, hW, hT, hL⟩ := hR
  have hN := w.1
  have out : ∀ v : Int32, ¬ (0 ≤ v) → g_X3_admit a0 a1 a2 a3 σ = some (v, σ) → g_X9_comes a0 a1 a2 a3 τ = some (v, τ) → ∃ (r : Int32) (σ' τ' : qe_S), g_X8_unit a0 a1 a2 a3 σ = some (r, σ') ∧ g_X9_unit a0 a1 a2 a3 τ = some (r, τ') ∧ qz_R σ' τ' := by
    intro v hv h1 h2
    obtain ⟨σ', τ', e1, e2, hR'⟩ := qz_no hR0 v
    refine ⟨v, σ', τ', ?_, ?_, hR'⟩
    · unfold g_X8_unit g_X8_answered
      rw [h1, qn_b, if_neg hv, e1, qn_b, qn_b]
    · unfold g_X9_unit
      rw [h2, qn_b, if_neg hv, e2, qn_b]
  by_cases hv : (1 ≤ a1 ∧ a1 ≤ nI 60) ∧ ((if (0 : Int32) = 0 then 1 else 0) ≤ a0 ∧ a0 ≤ a1)
  · by_cases hs : 0 ≤ a2 ∧ a2 ≤ nI 3
    · by_cases hk : -99 ≤ a3 ∧ a3 ≤ nI 99
      · by_cases hf : qr_N ρ = 12
        · refine out (-4) (by decide) ?_ ?_
          · unfold g_X3_admit
            rw [qz_oddsC, if_pos hv, qn_b, if_neg qn_10, qz_stratumFits, if_pos hs, qn_b, if_neg qn_10, qz_markFits, if_pos hk, qn_b, if_neg qn_10, d.1, hf, if_neg (by decide)]
          · unfold g_X9_comes
            rw [qz_oddsM, if_pos hv, qn_b, if_neg qn_10, qr_within, if_pos hs, qn_b, if_neg qn_10, qr_within, if_pos hk, qn_b, if_neg qn_10, qn_g0 (by omega) (by omega), qn_l, qr_clamp0, m.1, hf, if_pos rfl]
        · obtain ⟨A, B, rfl, rfl, h1, h2, h3, h4⟩ := qz_oddsN (r := 0) (by omega) hv
          have hN2 : qr_N ρ < 12 := by omega
          have hk2 : -99 ≤ a3.toInt ∧ a3.toInt ≤ 99 := by
            have k1 := Int32.le_iff_toInt_le.mp hk.1
            have k2 := Int32.le_iff_toInt_le.mp hk.2
            rw [nI_toInt (by omega)] at k2
            exact ⟨k1, k2⟩
          obtain ⟨ρ', w2, n2, d2, m2⟩ := qz_newu w d m hN2 h1 h2 h3 (h4 rfl) ((qz_within_iff (n := 3) (by omega)).mp hs) hk2
          obtain ⟨σ', e1, e2, e3⟩ := qr_arrange w2 d2
          refine ⟨nI (qr_N ρ), σ', qz_mu τ (qr_N ρ) (nI A) (nI B) a2 a3, ?_, ?_, qz_new hR0 (fun k hk => ?_) (e2.1.trans rfl) (fun k h1 _ => ?_) rfl ⟨ρ', w2, qr_D_on e2 d2 (by omega), e3, m2⟩⟩
          · have p1 : ∀ (s : qe_S) (r : Nat) (x y : Int32), s.1 1 0 = nI (qr_N ρ + 1) → r < 3 → g_X3_putOdds (nI (qr_N ρ)) (nI r) x y s = some (qe_si (qe_si s 6 (12 * r + qr_N ρ) x) 7 (12 * r + qr_N ρ) y) := fun s r x y h hr => qz_putOdds h (by omega) hr (by omega)
            unfold g_X8_unit g_X3_admit
            rw [qz_oddsC, if_pos hv, qn_b, if_neg qn_10, qz_stratumFits, if_pos hs, qn_b, if_neg qn_10, qz_markFits, if_pos hk, qn_b, if_neg qn_10, d.1, if_pos (nI_lt hN2 (by omega)), qn_l, nI_1, qn_l]
            have g0 : g_X3_putOdds (nI (qr_N ρ)) 0 (nI A) (nI B) (qe_si σ 1 0 (nI (qr_N ρ + 1))) = some (qe_si (qe_si (qe_si σ 1 0 (nI (qr_N ρ + 1))) 6 (12 * 0 + qr_N ρ) (nI A)) 7 (12 * 0 + qr_N ρ) (nI B)) := p1 _ 0 _ _ qn_si_eq (by omega)
            rw [g0, qn_o]
            have f1 : (qe_si (qe_si (qe_si σ 1 0 (nI (qr_N ρ + 1))) 6 (12 * 0 + qr_N ρ) (nI A)) 7 (12 * 0 + qr_N ρ) (nI B)).1 1 0 = nI (qr_N ρ + 1) := by
              rw [qn_si_k (by omega), qn_si_k (by omega), qn_si_eq]
            have g1 : g_X3_putOdds (nI (qr_N ρ)) 1 1 1 (qe_si (qe_si (qe_si σ 1 0 (nI (qr_N ρ + 1))) 6 (12 * 0 + qr_N ρ) (nI A)) 7 (12 * 0 + qr_N ρ) (nI B)) = some (qe_si (qe_si (qe_si (qe_si (qe_si σ 1 0 (nI (qr_N ρ + 1))) 6 (12 * 0 + qr_N ρ) (nI A)) 7 (12 * 0 + qr_N ρ) (nI B)) 6 (12 * 1 + qr_N ρ) 1) 7 (12 * 1 + qr_N ρ) 1) := p1 _ 1 1 1 f1 (by omega)
            rw [g1, qn_o]
            have f2 : (qe_si (qe_si (qe_si (qe_si (qe_si σ 1 0 (nI (qr_N ρ + 1))) 6 (12 * 0 + qr_N ρ) (nI A)) 7 (12 * 0 + qr_N ρ) (nI B)) 6 (12 * 1 + qr_N ρ) 1) 7 (12 * 1 + qr_N ρ) 1).1 1 0 = nI (qr_N ρ + 1) := by
              rw [qn_si_k (by omega), qn_si_k (by omega)]; exact f1
            rw [p1 _ 2 1 1 f2 (by omega), qn_o]
            rw [qn_g (by omega) (by omega), qn_l, nI_clamp (by omega), qn_g (by omega) (by omega), qn_l, qn_g (by omega) (by omega), qn_l]
            have e1' : g_X3_arrange (qe_si (qe_si (qe_si (qe_si (qe_si (qe_si (qe_si (qe_si (qe_si (qe_si σ 1 0 (nI (qr_N ρ + 1))) 6 (12 * 0 + qr_N ρ) (nI A)) 7 (12 * 0 + qr_N ρ) (nI B)) 6 (12 * 1 + qr_N ρ) 1) 7 (12 * 1 + qr_N ρ) 1) 6 (12 * 2 + qr_N ρ) 1) 7 (12 * 2 + qr_N ρ) 1) 2 (qr_N ρ) a2) 3 (qr_N ρ) a3) 4 (qr_N ρ) (nI (qr_N ρ))) = some σ' := e1
            rw [e1', qn_o, qn_b]
            unfold g_X8_answered
            rw [if_pos (nI_pos' (by omega)), qn_b]
          · have hne : ¬ nI (qr_N ρ) = nI 12 := fun z => hf ((nI_eq (by omega) (by omega)).mp z)
            obtain ⟨F, hF⟩ : ∃ F, qm_F = F + 1 + 1 + 1 + 1 := ⟨4996, qn_F⟩
            unfold g_X9_unit g_X9_comes
            rw [qz_oddsM, if_pos hv, qn_b, if_neg qn_10, qr_within, if_pos hs, qn_b, if_neg qn_10, qr_within, if_pos hk, qn_b, if_neg qn_10, qn_g0 (by omega) (by omega), qn_l, qr_clamp0, m.1, if_neg hne, qn_g0 (by omega) (by omega), qn_l, qn_g0 (by omega) (by omega), qn_l, nI_1, nI_add, nI_add, nI_add, nI_add, qn_g (by omega) (by omega), qn_l, qn_g (by omega) (by omega), qn_l, qn_g (by omega) (by omega), qn_l, qn_g (by omega) (by omega), qn_l, qn_l, nI_clamp (by omega), nI_clamp (by omega), nI_clamp (by omega), nI_clamp (by omega), hF, ← nI_0, qz_comesL hN2 (by omega), qz_comesL hN2 (by omega), qz_comesL hN2 (by omega)]
            simp only [g_X9_comes_L108]
            rw [if_pos (nI_le (by omega) (by omega)), qn_b, if_pos (nI_le (by omega) (by omega))]
            rfl
          · rw [e2.2 k (by omega)]
            funext x
            unfold qz_cu
            iterate 10 rw [qn_si_k (by omega)]
          · funext x
            unfold qz_mu
            iterate 11 rw [qn_si_k h1]
      · refine out (-2) (by decide) ?_ ?_
        · unfold g_X3_admit
          rw [qz_oddsC, if_pos hv, qn_b, if_neg qn_10, qz_stratumFits, if_pos hs, qn_b, if_neg qn_10, qz_markFits, if_neg hk, qn_b, if_pos rfl]
        · unfold g_X9_comes
          rw [qz_oddsM, if_pos hv, qn_b, if_neg qn_10, qr_within, if_pos hs, qn_b, if_neg qn_10, qr_within, if_neg hk, qn_b, if_pos rfl]
    · refine out (-2) (by decide) ?_ ?_
      · unfold g_X3_admit
        rw [qz_oddsC, if_pos hv, qn_b, if_neg qn_10, qz_stratumFits, if_neg hs, qn_b, if_pos rfl]
      · unfold g_X9_comes
        rw [qz_oddsM, if_pos hv, qn_b, if_neg qn_10, qr_within, if_neg hs, qn_b, if_pos rfl]
  · refine out (-2) (by decide) ?_ ?_
    · unfold g_X3_admit
      rw [qz_oddsC, if_neg hv, qn_b, if_pos rfl]
    · unfold g_X9_comes
      rw [qz_oddsM, if_neg hv, qn_b, if_pos rfl]
