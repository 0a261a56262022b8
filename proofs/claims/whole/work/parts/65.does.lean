/-! A CLAUSE DONE: by the class and by the reference -/
theorem qj_eta (C : Option (Int32 × qe_S)) : (qm_b C fun a s => some (a, s)) = C := by
  rcases C with _ | ⟨r, s⟩
  · rfl
  · rfl
theorem qi_rv_len (b : Nat → Nat) : ∀ (l : List Nat) (st : Bool × Nat), (qi_rv b l st).length = qi_nc l := by
  intro l
  induction l with
  | nil => intro st; rfl
  | cons s l ih =>
    intro st
    simp only [qi_rv, qi_nc]
    split
    · rw [List.length_cons, ih]
    · exact ih _
theorem qj_len {b : Nat → Nat} {p c : Nat} (h : b p = c) : (qi_cv b p).length = qi_nc (qi_sh c) := by
  unfold qi_cv
  rw [qi_rv_len, h]
theorem qj_dig {b : Nat → Nat} {p : Nat} (h : b p = 111) : ∃ v, v < 1000 ∧ (qi_cv b p).getD 0 0 = nI v := by
  have e : (qi_cv b p).getD 0 0 = nI (qi_v b 1 (p + 1) 0) := by
    unfold qi_cv
    rw [h]
    show (qi_rv b [68] (true, p + 1)).getD 0 0 = _
    have e1 : qi_rv b [68] (true, p + 1) = [(qi_sg b 68 (p + 1)).2.2] := rfl
    rw [e1, qi_s68]
    rfl
  refine ⟨_, ?_, e⟩
  simp only [qi_v]
  by_cases c : qi_dg b (p + 1) = true
  · have := of_decide_eq_true c
    rw [if_pos c]
    omega
  · rw [if_neg c]
    omega
theorem qj_kind {b : Nat → Nat} {p : Nat} (h : (qi_cs b p).1 = true) : b p = 110 ∨ b p = 111 ∨ b p = 114 ∨ b p = 115 ∨ b p = 117 ∨ b p = 120 := by
  have h2 : qi_sh (b p) ≠ [] := by
    intro z
    unfold qi_cs at h
    rw [if_pos z] at h
    cases h
  unfold qi_sh at h2
  by_cases c1 : b p = 110
  · exact Or.inl c1
  by_cases c2 : b p = 111
  · exact Or.inr (Or.inl c2)
  by_cases c3 : b p = 114
  · exact Or.inr (Or.inr (Or.inl c3))
  by_cases c4 : b p = 115
  · exact Or.inr (Or.inr (Or.inr (Or.inl c4)))
  by_cases c5 : b p = 117
  · exact Or.inr (Or.inr (Or.inr (Or.inr (Or.inl c5))))
  by_cases c6 : b p = 120
  · exact Or.inr (Or.inr (Or.inr (Or.inr (Or.inr c6))))
  rw [if_neg c5, if_neg c4, if_neg c1, if_neg c2, if_neg c3, if_neg c6] at h2
  exact absurd rfl h2
theorem qj_does {σ τ : qe_S} (hV : qz_V σ τ) {n : Nat} {T : Nat → Nat} {p k : Nat} (hn : n ≤ 120) (hk : k ≤ 60) (hp : p ≤ n) (ok : (qi_cs (qi_b n T) p).1 = true) (h37 : σ.1 37 1 = nI (qi_b n T p)) (h38 : ∀ i, i < (qi_cv (qi_b n T) p).length → σ.1 38 i = (qi_cv (qi_b n T) p).getD i 0) (h16 : τ.1 16 (5 * k) = nI p) (h16' : ∀ i, i < (qi_cv (qi_b n T) p).length → τ.1 16 (5 * k + 1 + i) = (qi_cv (qi_b n T) p).getD i 0) (h15 : ∀ i, i < n → τ.1 15 i = nI (qi_b n T i)) : qj_ok (g_X8_doClause σ) (g_X9_does (nI k) τ) σ τ := by
  have g0 : ∀ K : Option (Int32 × qe_S), qm_g (0 : Int32) 4 K = K := fun K => qn_g0 (by omega) (by omega)
  have g1 : ∀ K : Option (Int32 × qe_S), qm_g (1 : Int32) 4 K = K := fun K => qn_g1 (by omega) (by omega)
  have g2 : ∀ K : Option (Int32 × qe_S), qm_g (nI 2) 4 K = K := fun K => qn_g (by omega) (by omega)
  have g3 : ∀ K : Option (Int32 × qe_S), qm_g (nI 3) 4 K = K := fun K => qn_g (by omega) (by omega)
  have c2 : (nI 2).toNatClampNeg = 2 := nI_clamp (by omega)
  have c3 : (nI 3).toNatClampNeg = 3 := nI_clamp (by omega)
  have m0 : nI 5 * nI k = nI (5 * k) := pk_mul 5 k
  have m1 : nI (5 * k) + (1 : Int32) = nI (5 * k + 1) := nI_add (5 * k) 1
  have m2 : nI (5 * k) + nI 2 = nI (5 * k + 2) := nI_add (5 * k) 2
  have m3 : nI (5 * k) + nI 3 = nI (5 * k + 3) := nI_add (5 * k) 3
  have m4 : nI (5 * k) + nI 4 = nI (5 * k + 4) := nI_add (5 * k) 4
  have q0 : ∀ K : Option (Int32 × qe_S), qm_g (nI (5 * k)) 305 K = K := fun K => qn_g (by omega) (by omega)
  have q1 : ∀ K : Option (Int32 × qe_S), qm_g (nI (5 * k + 1)) 305 K = K := fun K => qn_g (by omega) (by omega)
  have q2 : ∀ K : Option (Int32 × qe_S), qm_g (nI (5 * k + 2)) 305 K = K := fun K => qn_g (by omega) (by omega)
  have q3 : ∀ K : Option (Int32 × qe_S), qm_g (nI (5 * k + 3)) 305 K = K := fun K => qn_g (by omega) (by omega)
  have q4 : ∀ K : Option (Int32 × qe_S), qm_g (nI (5 * k + 4)) 305 K = K := fun K => qn_g (by omega) (by omega)
  have r0 : (nI (5 * k)).toNatClampNeg = 5 * k := nI_clamp (by omega)
  have r1 : (nI (5 * k + 1)).toNatClampNeg = 5 * k + 1 := nI_clamp (by omega)
  have r2 : (nI (5 * k + 2)).toNatClampNeg = 5 * k + 2 := nI_clamp (by omega)
  have r3 : (nI (5 * k + 3)).toNatClampNeg = 5 * k + 3 := nI_clamp (by omega)
  have r4 : (nI (5 * k + 4)).toNatClampNeg = 5 * k + 4 := nI_clamp (by omega)
  have rp : (nI p).toNatClampNeg = p := nI_clamp (by omega)
  have kd := qj_kind ok
  have pn : p < n := by
    apply Nat.lt_of_not_le
    intro z
    have : qi_b n T p = 0 := if_neg (by omega)
    omega
  have qp : ∀ K : Option (Int32 × qe_S), qm_g (nI p) 120 K = K := fun K => qn_g (by omega) (by omega)
  have hb := h15 p pn
  rcases kd with hc | hc | hc | hc | hc | hc
  · have ln : (qi_cv (qi_b n T) p).length = 3 := qj_len hc
    rw [hc] at h37 hb
    have x0 : σ.1 38 0 = (qi_cv (qi_b n T) p).getD 0 0 := h38 0 (by omega)
    have y0 : τ.1 16 (5 * k + 1) = (qi_cv (qi_b n T) p).getD 0 0 := h16' 0 (by omega)
    have x1 : σ.1 38 1 = (qi_cv (qi_b n T) p).getD 1 0 := h38 1 (by omega)
    have y1 : τ.1 16 (5 * k + 2) = (qi_cv (qi_b n T) p).getD 1 0 := h16' 1 (by omega)
    have x2 : σ.1 38 2 = (qi_cv (qi_b n T) p).getD 2 0 := h38 2 (by omega)
    have y2 : τ.1 16 (5 * k + 3) = (qi_cv (qi_b n T) p).getD 2 0 := h16' 2 (by omega)
    have e1 : g_X8_doClause σ = g_X3_changeOdds ((qi_cv (qi_b n T) p).getD 0 0) (nI 2) ((qi_cv (qi_b n T) p).getD 1 0) ((qi_cv (qi_b n T) p).getD 2 0) σ := by
      unfold g_X8_doClause
      rw [qn_j2, h37, if_pos rfl]
      simp only [g0, g1, g2, g3, qn_l2, qr_clamp0, qr_clamp1, c2, c3, x0, x1, x2, qj_eta]
    have e2 : g_X9_does (nI k) τ = g_X9_becomes ((qi_cv (qi_b n T) p).getD 0 0) (nI 2) ((qi_cv (qi_b n T) p).getD 1 0) ((qi_cv (qi_b n T) p).getD 2 0) τ := by
      unfold g_X9_does
      rw [qn_j2, m0, qn_l2, m1, m2, m3, q1, qn_l2, q2, qn_l2, q0, qn_l2, r0, h16, qp, qn_l2, rp, hb, if_pos rfl]
      simp only [m4, q3, q4, qn_l2, r1, r2, r3, r4, y0, y1, y2, qj_eta]
    rw [e1, e2]
    exact qj_odds hV _ _ _ _
  · have ln : (qi_cv (qi_b n T) p).length = 1 := qj_len hc
    rw [hc] at h37 hb
    have x0 : σ.1 38 0 = (qi_cv (qi_b n T) p).getD 0 0 := h38 0 (by omega)
    have y0 : τ.1 16 (5 * k + 1) = (qi_cv (qi_b n T) p).getD 0 0 := h16' 0 (by omega)
    have e1 : g_X8_doClause σ = g_X3_changeOrder ((qi_cv (qi_b n T) p).getD 0 0) σ := by
      unfold g_X8_doClause
      rw [qn_j2, h37, if_neg (show ¬ nI 111 = nI 110 by decide), if_pos rfl]
      simp only [g0, g1, g2, g3, qn_l2, qr_clamp0, qr_clamp1, c2, c3, x0, qj_eta]
    have e2 : g_X9_does (nI k) τ = (if ((qi_cv (qi_b n T) p).getD 0 0) ≤ nI 5 then (qm_g (1 : Int32) 122 <| qm_l (qe_si τ 1 (1 : Int32).toNatClampNeg ((qi_cv (qi_b n T) p).getD 0 0)) fun s3 => some ((1 : Int32), s3)) else some ((-2 : Int32), τ)) := by
      unfold g_X9_does
      rw [qn_j2, m0, qn_l2, m1, m2, m3, q1, qn_l2, q2, qn_l2, q0, qn_l2, r0, h16, qp, qn_l2, rp, hb, if_neg (show ¬ nI 111 = nI 110 by decide), if_neg (show ¬ nI 111 = nI 114 by decide), if_neg (show ¬ nI 111 = nI 115 by decide), if_neg (show ¬ nI 111 = nI 117 by decide), if_neg (show ¬ nI 111 = nI 120 by decide)]
      simp only [m4, q3, q4, qn_l2, r1, r2, r3, r4, y0, qj_eta]
    obtain ⟨v, hv, ev⟩ := qj_dig hc
    rw [e1, e2, ev]
    exact qj_order hV hv
  · have ln : (qi_cv (qi_b n T) p).length = 1 := qj_len hc
    rw [hc] at h37 hb
    have x0 : σ.1 38 0 = (qi_cv (qi_b n T) p).getD 0 0 := h38 0 (by omega)
    have y0 : τ.1 16 (5 * k + 1) = (qi_cv (qi_b n T) p).getD 0 0 := h16' 0 (by omega)
    have e1 : g_X8_doClause σ = (qm_b (g_X3_isRefusing ((qi_cv (qi_b n T) p).getD 0 0) σ) fun a17 s16 => if a17 = (0 : Int32) then (qm_b (g_X3_changeRefusing ((qi_cv (qi_b n T) p).getD 0 0) (1 : Int32) s16) fun a19 s18 => some (a19, s18)) else qm_b (g_X3_changeRefusing ((qi_cv (qi_b n T) p).getD 0 0) (0 : Int32) s16) fun a21 s20 => some (a21, s20)) := by
      unfold g_X8_doClause
      rw [qn_j2, h37, if_neg (show ¬ nI 114 = nI 110 by decide), if_neg (show ¬ nI 114 = nI 111 by decide), if_pos rfl]
      simp only [g0, g1, g2, g3, qn_l2, qr_clamp0, qr_clamp1, c2, c3, x0, qj_eta]
    have e2 : g_X9_does (nI k) τ = (qm_b (g_X9_isUnit ((qi_cv (qi_b n T) p).getD 0 0) τ) fun a13 s12 => if a13 = (0 : Int32) then (some ((-1 : Int32), s12)) else qm_g ((nI 38) + ((qi_cv (qi_b n T) p).getD 0 0)) 122 <| qm_l (s12.1 1 ((nI 38) + ((qi_cv (qi_b n T) p).getD 0 0)).toNatClampNeg) fun a14 => qm_g ((nI 38) + ((qi_cv (qi_b n T) p).getD 0 0)) 122 <| qm_l (qe_si s12 1 ((nI 38) + ((qi_cv (qi_b n T) p).getD 0 0)).toNatClampNeg ((1 : Int32) - a14)) fun s15 => some ((1 : Int32), s15)) := by
      unfold g_X9_does
      rw [qn_j2, m0, qn_l2, m1, m2, m3, q1, qn_l2, q2, qn_l2, q0, qn_l2, r0, h16, qp, qn_l2, rp, hb, if_neg (show ¬ nI 114 = nI 110 by decide), if_pos rfl]
      simp only [m4, q3, q4, qn_l2, r1, r2, r3, r4, y0, qj_eta]
    rw [e1, e2]
    exact qj_ref hV _
  · have ln : (qi_cv (qi_b n T) p).length = 3 := qj_len hc
    rw [hc] at h37 hb
    have x0 : σ.1 38 0 = (qi_cv (qi_b n T) p).getD 0 0 := h38 0 (by omega)
    have y0 : τ.1 16 (5 * k + 1) = (qi_cv (qi_b n T) p).getD 0 0 := h16' 0 (by omega)
    have x1 : σ.1 38 1 = (qi_cv (qi_b n T) p).getD 1 0 := h38 1 (by omega)
    have y1 : τ.1 16 (5 * k + 2) = (qi_cv (qi_b n T) p).getD 1 0 := h16' 1 (by omega)
    have x2 : σ.1 38 2 = (qi_cv (qi_b n T) p).getD 2 0 := h38 2 (by omega)
    have y2 : τ.1 16 (5 * k + 3) = (qi_cv (qi_b n T) p).getD 2 0 := h16' 2 (by omega)
    have e1 : g_X8_doClause σ = g_X3_changeOdds ((qi_cv (qi_b n T) p).getD 0 0) (1 : Int32) ((qi_cv (qi_b n T) p).getD 1 0) ((qi_cv (qi_b n T) p).getD 2 0) σ := by
      unfold g_X8_doClause
      rw [qn_j2, h37, if_neg (show ¬ nI 115 = nI 110 by decide), if_neg (show ¬ nI 115 = nI 111 by decide), if_neg (show ¬ nI 115 = nI 114 by decide), if_pos rfl]
      simp only [g0, g1, g2, g3, qn_l2, qr_clamp0, qr_clamp1, c2, c3, x0, x1, x2, qj_eta]
    have e2 : g_X9_does (nI k) τ = g_X9_becomes ((qi_cv (qi_b n T) p).getD 0 0) (1 : Int32) ((qi_cv (qi_b n T) p).getD 1 0) ((qi_cv (qi_b n T) p).getD 2 0) τ := by
      unfold g_X9_does
      rw [qn_j2, m0, qn_l2, m1, m2, m3, q1, qn_l2, q2, qn_l2, q0, qn_l2, r0, h16, qp, qn_l2, rp, hb, if_neg (show ¬ nI 115 = nI 110 by decide), if_neg (show ¬ nI 115 = nI 114 by decide), if_pos rfl]
      simp only [m4, q3, q4, qn_l2, r1, r2, r3, r4, y0, y1, y2, qj_eta]
    rw [e1, e2]
    exact qj_odds hV _ _ _ _
  · have ln : (qi_cv (qi_b n T) p).length = 4 := qj_len hc
    rw [hc] at h37 hb
    have x0 : σ.1 38 0 = (qi_cv (qi_b n T) p).getD 0 0 := h38 0 (by omega)
    have y0 : τ.1 16 (5 * k + 1) = (qi_cv (qi_b n T) p).getD 0 0 := h16' 0 (by omega)
    have x1 : σ.1 38 1 = (qi_cv (qi_b n T) p).getD 1 0 := h38 1 (by omega)
    have y1 : τ.1 16 (5 * k + 2) = (qi_cv (qi_b n T) p).getD 1 0 := h16' 1 (by omega)
    have x2 : σ.1 38 2 = (qi_cv (qi_b n T) p).getD 2 0 := h38 2 (by omega)
    have y2 : τ.1 16 (5 * k + 3) = (qi_cv (qi_b n T) p).getD 2 0 := h16' 2 (by omega)
    have x3 : σ.1 38 3 = (qi_cv (qi_b n T) p).getD 3 0 := h38 3 (by omega)
    have y3 : τ.1 16 (5 * k + 4) = (qi_cv (qi_b n T) p).getD 3 0 := h16' 3 (by omega)
    have e1 : g_X8_doClause σ = g_X3_admit ((qi_cv (qi_b n T) p).getD 0 0) ((qi_cv (qi_b n T) p).getD 1 0) ((qi_cv (qi_b n T) p).getD 2 0) ((qi_cv (qi_b n T) p).getD 3 0) σ := by
      unfold g_X8_doClause
      rw [qn_j2, h37, if_neg (show ¬ nI 117 = nI 110 by decide), if_neg (show ¬ nI 117 = nI 111 by decide), if_neg (show ¬ nI 117 = nI 114 by decide), if_neg (show ¬ nI 117 = nI 115 by decide), if_pos rfl]
      simp only [g0, g1, g2, g3, qn_l2, qr_clamp0, qr_clamp1, c2, c3, x0, x1, x2, x3, qj_eta]
    have e2 : g_X9_does (nI k) τ = g_X9_comes ((qi_cv (qi_b n T) p).getD 0 0) ((qi_cv (qi_b n T) p).getD 1 0) ((qi_cv (qi_b n T) p).getD 2 0) ((qi_cv (qi_b n T) p).getD 3 0) τ := by
      unfold g_X9_does
      rw [qn_j2, m0, qn_l2, m1, m2, m3, q1, qn_l2, q2, qn_l2, q0, qn_l2, r0, h16, qp, qn_l2, rp, hb, if_neg (show ¬ nI 117 = nI 110 by decide), if_neg (show ¬ nI 117 = nI 114 by decide), if_neg (show ¬ nI 117 = nI 115 by decide), if_pos rfl]
      simp only [m4, q3, q4, qn_l2, r1, r2, r3, r4, y0, y1, y2, y3, qj_eta]
    rw [e1, e2]
    exact qj_admit hV _ _ _ _
  · have ln : (qi_cv (qi_b n T) p).length = 2 := qj_len hc
    rw [hc] at h37 hb
    have x0 : σ.1 38 0 = (qi_cv (qi_b n T) p).getD 0 0 := h38 0 (by omega)
    have y0 : τ.1 16 (5 * k + 1) = (qi_cv (qi_b n T) p).getD 0 0 := h16' 0 (by omega)
    have x1 : σ.1 38 1 = (qi_cv (qi_b n T) p).getD 1 0 := h38 1 (by omega)
    have y1 : τ.1 16 (5 * k + 2) = (qi_cv (qi_b n T) p).getD 1 0 := h16' 1 (by omega)
    have e1 : g_X8_doClause σ = g_X3_exchange ((qi_cv (qi_b n T) p).getD 0 0) ((qi_cv (qi_b n T) p).getD 1 0) σ := by
      unfold g_X8_doClause
      rw [qn_j2, h37, if_neg (show ¬ nI 120 = nI 110 by decide), if_neg (show ¬ nI 120 = nI 111 by decide), if_neg (show ¬ nI 120 = nI 114 by decide), if_neg (show ¬ nI 120 = nI 115 by decide), if_neg (show ¬ nI 120 = nI 117 by decide)]
      simp only [g0, g1, g2, g3, qn_l2, qr_clamp0, qr_clamp1, c2, c3, x0, x1, qj_eta]
    have e2 : g_X9_does (nI k) τ = g_X9_swaps ((qi_cv (qi_b n T) p).getD 0 0) ((qi_cv (qi_b n T) p).getD 1 0) τ := by
      unfold g_X9_does
      rw [qn_j2, m0, qn_l2, m1, m2, m3, q1, qn_l2, q2, qn_l2, q0, qn_l2, r0, h16, qp, qn_l2, rp, hb, if_neg (show ¬ nI 120 = nI 110 by decide), if_neg (show ¬ nI 120 = nI 114 by decide), if_neg (show ¬ nI 120 = nI 115 by decide), if_neg (show ¬ nI 120 = nI 117 by decide), if_pos rfl]
      simp only [m4, q3, q4, qn_l2, r1, r2, r3, r4, y0, y1, qj_eta]
    rw [e1, e2]
    exact qj_swap hV _ _
