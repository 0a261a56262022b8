/-! SET: the stratum, or whether a unit is refusing -/
theorem qz_bits {f : Nat → Bool} {N u : Nat} {b : Bool} (hu : u < N) (hN : N ≤ 12) : (nI (qb_s f N) &&& (((1 : Int32) <<< (nI u &&& 31)) ^^^ (-1))) ||| ((if b then 1 else 0 : Int32) <<< (nI u &&& 31)) = nI (qb_s (qz_up f u b) N) := by
  have e1 : (-1 : Int32).toBitVec = BitVec.allOnes 32 := by decide
  have e2 : ((if b then 1 else 0 : Int32) <<< (nI u &&& 31)) = nI (if b then 2 ^ u else 0) := by
    by_cases hb : b = true
    · rw [if_pos hb, if_pos hb]; exact qb_shl (by omega)
    · rw [if_neg hb, if_neg hb, qz_shl0 u (by omega)]; rfl
  have e3 : ∀ i, (if b then 2 ^ u else 0 : Nat).testBit i = (b && decide (u = i)) := by
    intro i
    cases b <;> simp [Nat.testBit_two_pow]
  rw [e2, qb_shl (by omega)]
  apply nI_inj32
  simp only [Int32.toBitVec_or, Int32.toBitVec_and, Int32.toBitVec_xor, nI_tb, e1]
  apply BitVec.eq_of_getLsbD_eq
  intro i hi
  simp only [BitVec.getLsbD_or, BitVec.getLsbD_and, BitVec.getLsbD_xor, BitVec.getLsbD_ofNat, BitVec.getLsbD_allOnes, qb_bit, e3, Nat.testBit_two_pow]
  unfold qz_up
  by_cases h : i = u
  · subst h; simp [hi, hu]
  · simp [hi, h, Ne.symm h]
theorem qz_12 {f : Nat → Bool} {N : Nat} (hN : N ≤ 12) : qb_s f N < 4096 := Nat.lt_of_lt_of_le (qb_lt f N) (Nat.pow_le_pow_right (show 0 < 2 by omega) hN)
theorem qz_isIn {a u : Nat} {σ : qe_S} (ha : a < 4096) (hu : u < 32) : g_X8_isIn (nI a) (nI u) σ = some (if a.testBit u then 1 else 0, σ) := by
  unfold g_X8_isIn
  rw [qb_get (by omega) hu, qn_if0]
  by_cases h : a.testBit u = true
  · rw [if_pos h, if_pos h]
  · rw [if_neg h, if_neg h]
theorem qz_has9 {a u : Nat} {σ : qe_S} (ha : a < 4096) (hu : u < 32) : g_X9_has (nI a) (nI u) σ = some (if a.testBit u then 1 else 0, σ) := by
  unfold g_X9_has
  rw [qb_get (by omega) hu, qn_if1]
  by_cases h : a.testBit u = true
  · rw [if_pos h, if_pos h]
  · rw [if_neg h, if_neg h]
theorem qz_isRef {σ : qe_S} {ρ : qr_R} (w : qr_wf ρ) (d : qr_D 1 σ ρ) {u : Nat} (hu : u < qr_N ρ) : g_X3_isRefusing (nI u) σ = some (if qr_f ρ u then 1 else 0, σ) := by
  have hN := w.1
  unfold g_X3_isRefusing
  rw [qn_j, qr_has1 d.1 hN hu, qn_b, if_neg qn_10, d.2.1, qz_isIn (qz_12 hN) (by omega), qn_b, qn_if0, qb_bit, decide_eq_true hu, Bool.true_and]
  by_cases h : qr_f ρ u = true
  · rw [if_pos h, if_pos h]
  · rw [if_neg h, if_neg h]
theorem qz_chRef {σ : qe_S} {ρ : qr_R} (w : qr_wf ρ) (d : qr_D 1 σ ρ) {u : Nat} {b : Bool} (hu : u < qr_N ρ) : g_X3_changeRefusing (nI u) (if b then 1 else 0) σ = some (if qr_f ρ u then 1 else 0, qe_si σ 1 1 (nI (qb_s (qz_up (qr_f ρ) u b) (qr_N ρ)))) := by
  have hN := w.1
  have c1 : ¬ (if b then 1 else 0 : Int32) < 0 := by cases b <;> decide
  have c2 : (if b then 1 else 0 : Int32) ≤ 1 := by cases b <;> decide
  unfold g_X3_changeRefusing
  rw [qr_has1 d.1 hN hu, qn_b, if_neg qn_10, if_neg c1, if_pos c2, qn_j, qz_isRef w d hu, qn_b]
  simp only [qn_l]
  rw [d.2.1, qz_bits hu hN]
  by_cases h : qr_f ρ u = true
  · rw [if_pos h, if_neg qn_10]
  · rw [if_neg h, if_pos rfl]
theorem qz_set : ql_op_set qz_R := by
  intro a0 a1 a2 σ τ hR
  have hR0 := hR
  obtain ⟨⟨ρ, w, d, o, m⟩, hI, hW, hT, hL⟩ := hR
  have hN := w.1
  show qz_ok (g_X8_set a0 a1 a2 σ) (g_X9_set a0 a1 a2 τ)
  unfold g_X8_set g_X9_set
  refine qz_gUnit w d m (fun _ => qz_ok_no hR0 (-1)) ?_
  rintro u hu rfl
  refine qz_gIn (n := 1) (by omega) (fun _ => ⟨qz_ok_no hR0 (-1), qz_ok_no hR0 (-1)⟩) ?_
  rintro r hr rfl
  obtain rfl | rfl : r = 0 ∨ r = 1 := by omega
  · have z : nI 0 = 0 := nI_0
    simp only [qn_j, z, if_true]
    unfold g_X3_changeStratum
    rw [qr_has1 d.1 hN hu, qn_b, if_neg qn_10, qz_stratumFits, qr_within]
    by_cases hv : 0 ≤ a2 ∧ a2 ≤ nI 3
    · have hin : vp_in a2 4 := (qz_within_iff (n := 3) (by omega)).mp hv
      have su : vp_in (qr_s ρ u) 4 := w.2.2.2.2.1 u hu
      obtain ⟨ρ', w2, d2, m2⟩ := qz_sets w d m hu hin
      obtain ⟨σ', e1, e2, e3⟩ := qr_arrange w2 d2
      have ds : σ.1 2 u = qr_s ρ u := (d.2.2.2.1 u hu).1
      have ms : τ.1 1 (14 + u) = qr_s ρ u := (m.2.2.1 u hu).2.1
      obtain ⟨j, hj, hj2⟩ := vp_in_of su (by omega)
      refine ⟨qr_s ρ u, σ', qe_si τ 1 (14 + u) a2, ?_, ?_, qz_new hR0 (fun k hk => by rw [e2.2 k (by omega)]; funext x; exact qn_si_k (by omega)) (e2.1.trans rfl) (fun k h1 _ => by funext x; exact qn_si_k h1) rfl ⟨ρ', w2, qr_D_on e2 d2 (by omega), e3, m2⟩⟩
      · rw [if_pos hv, qn_b, if_neg qn_10, qn_g (by omega) (by omega), qn_l, nI_clamp (by omega), qn_g (by omega) (by omega), qn_l, e1, qn_o, qn_b, ds]
        unfold g_X8_answered
        rw [hj2, if_pos (nI_pos' (by omega)), qn_b]
      · rw [if_pos hv, qn_b, if_neg qn_10, nI_add, qn_l, qn_g (by omega) (by omega), qn_l, nI_clamp (by omega), qn_g (by omega) (by omega), qn_l, ms]
    · rw [if_neg hv, qn_b, if_pos rfl, qn_b, qn_b, if_pos rfl]
      exact qz_ok_ansno hR0 (by decide)
  · have z : ¬ nI 1 = 0 := by decide
    simp only [qn_j, z, if_false]
    by_cases hv : a2 = 0 ∨ a2 = 1
    · obtain ⟨b, hb⟩ : ∃ b : Bool, a2 = if b then 1 else 0 := by
        rcases hv with h | h
        · exact ⟨false, h⟩
        · exact ⟨true, h⟩
      obtain ⟨ρ', w2, d2, m2, o2⟩ := qz_setf (b := b) w d m hu
      have mf : τ.1 1 (38 + u) = if qr_f ρ u then 1 else 0 := (m.2.2.1 u hu).2.2.2
      have pos : (0 : Int32) ≤ (if qr_f ρ u then 1 else 0) := by cases qr_f ρ u <;> decide
      refine ⟨if qr_f ρ u then 1 else 0, qe_si σ 1 1 (nI (qb_s (qz_up (qr_f ρ) u b) (qr_N ρ))), qe_si τ 1 (38 + u) (if b then 1 else 0), ?_, ?_, qz_new hR0 (fun k hk => by funext x; exact qn_si_k (by omega)) rfl (fun k h1 _ => by funext x; exact qn_si_k h1) rfl ⟨ρ', w2, d2, o2 o, m2⟩⟩
      · rw [hb, qz_chRef w d hu, qn_b]
        unfold g_X8_answered
        rw [if_pos pos, qn_b]
      · rw [qz_within01 hv, qn_b, if_neg qn_10, nI_add, qn_l, qn_g (by omega) (by omega), qn_l, nI_clamp (by omega), qn_g (by omega) (by omega), qn_l, mf, hb]
    · have c : g_X3_changeRefusing (nI u) a2 σ = some (-2, σ) := by
        unfold g_X3_changeRefusing
        rw [qr_has1 d.1 hN hu, qn_b, if_neg qn_10]
        by_cases h1 : a2 < 0
        · rw [if_pos h1]
        · rw [if_neg h1, if_neg (fun z => hv (qz_01.mp ⟨Int32.not_lt.mp h1, z⟩))]
      rw [c, qn_b, qz_within00 (fun z => hv (Or.inl z)) (fun z => hv (Or.inr z)), qn_b, if_pos rfl]
      exact qz_ok_ansno hR0 (by decide)
