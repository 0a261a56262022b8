/-! A CLAUSE by the reference; then the whole tape by both -/
theorem qi_77 {b : Nat → Nat} {st : Bool × Nat} (h : ¬ (st.1 = true ∧ b st.2 = 45)) : qi_fs b st 77 = qi_fs b st 78 ∧ qi_nv b st 77 = qi_nv b st 78 := by
  unfold qi_fs qi_nv
  cases hs : st.1 with
  | false => exact ⟨rfl, rfl⟩
  | true =>
    have hb : ¬ b st.2 = 45 := fun z => h ⟨hs, z⟩
    have e : qi_sg b 77 st.2 = qi_sg b 78 st.2 := by
      unfold qi_sg
      rw [if_neg (show ¬ (77 : Nat) = 78 by omega), if_neg (show ¬ (77 : Nat) = 68 by omega), if_pos rfl, if_neg hb, if_pos rfl]
    rw [e]
    exact ⟨rfl, rfl⟩
theorem qi_ZM {n : Nat} {T : Nat → Nat} (hn : n ≤ 120) (hb : ∀ i, qi_b n T i ≤ 127) {τ : qe_S} {k p : Nat} (hk : k ≤ 60) {st : Bool × Nat} {vs : List Int32} {s : qe_S} (h : qi_Z n T τ k p st vs s) (hst : st.2 < 2 ^ 17) : ∃ s', (qm_b (g_X9_isFrom (nI 45) (nI 45) s) fun a34 s33 => if a34 = (0 : Int32) then (qm_b (g_X9_number (nI 2) s33) fun a29 s28 => if a34 = (0 : Int32) then (qm_g (nI (5 * k) + (nI 4)) 305 (some (qe_si s28 16 (nI (5 * k) + (nI 4)).toNatClampNeg a29))) else qm_g (nI (5 * k) + (nI 4)) 305 (some (qe_si s28 16 (nI (5 * k) + (nI 4)).toNatClampNeg (-a29)))) else (qm_b (g_X9_number (nI 2) (qe_si s33 0 23 ((s33.1 0 23) + (1 : Int32)))) fun a29 s28 => if a34 = (0 : Int32) then (qm_g (nI (5 * k) + (nI 4)) 305 (some (qe_si s28 16 (nI (5 * k) + (nI 4)).toNatClampNeg a29))) else qm_g (nI (5 * k) + (nI 4)) 305 (some (qe_si s28 16 (nI (5 * k) + (nI 4)).toNatClampNeg (-a29))))) = some (qe_si s' 16 (5 * k + 4) (qi_nv (qi_b n T) st 77)) ∧ qi_Z n T τ k p (qi_fs (qi_b n T) st 77) vs s' := by
  have isf := qi_isFrom hn hb (lo := 45) (hi := 45) (by omega) (by omega) (by omega) (show st.2 < 2 ^ 20 by omega) h.1 h.2.1
  rw [isf, qn_b, nI_add, nI_clamp (by omega)]
  have gg : ∀ P : Option qe_S, qm_g (nI (5 * k + 4)) 305 P = P := fun P => qn_g (by omega) (by omega)
  by_cases c : st.1 = true ∧ qi_b n T st.2 = 45
  · have cc : (st.1 && decide (45 ≤ qi_b n T st.2 ∧ qi_b n T st.2 ≤ 45)) = true := by rw [c.1, decide_eq_true (show 45 ≤ qi_b n T st.2 ∧ qi_b n T st.2 ≤ 45 by omega)]; rfl
    rw [if_pos cc, if_neg qn_10, h.1.1, nI_1]
    have A1 : qi_A (true, st.2 + 1) (qe_si s 0 23 (nI (st.2 + 1))) := ⟨qn_si_eq, by rw [qn_si_j (by omega), h.1.2, c.1]; rfl⟩
    have Z1 := qi_Zg h (qi_g23 s (nI (st.2 + 1))) A1
    obtain ⟨s', e1, Z2⟩ := qi_ZN hn hb Z1 (show st.2 + 1 < 2 ^ 18 by omega) 2 78 (by omega) (qi_s78 _ _)
    have sg : qi_sg (qi_b n T) 77 st.2 = ((qi_nm (qi_b n T) 2 (st.2 + 1)).1, (qi_nm (qi_b n T) 2 (st.2 + 1)).2.1, -(qi_nm (qi_b n T) 2 (st.2 + 1)).2.2) := by unfold qi_sg; rw [if_neg (show ¬ (77 : Nat) = 78 by omega), if_neg (show ¬ (77 : Nat) = 68 by omega), if_pos rfl, if_pos c.2]
    have v1 : qi_nv (qi_b n T) (true, st.2 + 1) 78 = (qi_nm (qi_b n T) 2 (st.2 + 1)).2.2 := by
      show (qi_sg (qi_b n T) 78 (st.2 + 1)).2.2 = _
      rw [qi_s78]
    have v2 : qi_nv (qi_b n T) st 77 = -(qi_nm (qi_b n T) 2 (st.2 + 1)).2.2 := by
      unfold qi_nv
      rw [if_pos c.1, sg]
    have f1 : qi_fs (qi_b n T) (true, st.2 + 1) 78 = qi_fs (qi_b n T) st 77 := by
      unfold qi_fs
      rw [if_pos c.1, sg, if_pos rfl]
      show ((qi_sg (qi_b n T) 78 (st.2 + 1)).1, (qi_sg (qi_b n T) 78 (st.2 + 1)).2.1) = _
      rw [qi_s78]
    rw [f1] at Z2
    refine ⟨s', ?_, Z2⟩
    rw [e1, qn_b, if_neg qn_10, gg, v1, v2]
  · have cc : ¬ (st.1 && decide (45 ≤ qi_b n T st.2 ∧ qi_b n T st.2 ≤ 45)) = true := fun z => by
      rw [Bool.and_eq_true] at z
      have := of_decide_eq_true z.2
      exact c ⟨z.1, by omega⟩
    rw [if_neg cc, if_pos rfl]
    obtain ⟨s', e1, Z2⟩ := qi_ZN hn hb h (show st.2 < 2 ^ 18 by omega) 2 78 (by omega) (qi_s78 _ _)
    obtain ⟨f1, v1⟩ := qi_77 c
    rw [← f1] at Z2
    refine ⟨s', ?_, Z2⟩
    rw [e1, qn_b, if_pos rfl, gg, v1]
theorem qi_reads {n : Nat} {T : Nat → Nat} (hn : n ≤ 120) (hb : ∀ i, qi_b n T i ≤ 127) {k p : Nat} (hk : k ≤ 60) (hp : p ≤ n) {τ : qe_S} (hA : qi_A (true, p) τ) (ht : qi_tM n T τ) (h25 : τ.1 0 25 = nI k) : ∃ τ', g_X9_reads τ = some τ' ∧ qi_Z n T τ k p (qi_cs (qi_b n T) p) (qi_cv (qi_b n T) p) τ' := by
  have hA1 : τ.1 0 23 = nI p := hA.1
  have hbp := hb p
  have start : g_X9_reads τ = qi_R31 (nI (5 * k)) (nI (qi_b n T p)) τ := by
    rw [qi_R0, qn_l, h25, pk_mul, ht.1, hA1]
    by_cases c : p < n
    · have bv : qi_b n T p = T p := if_pos c
      rw [if_neg (nI_ge c (by omega)), qn_g (by omega) (by omega), qn_l, nI_clamp (by omega), ht.2 p c, bv]
    · have bv : qi_b n T p = 0 := if_neg c
      rw [if_pos (nI_le (by omega) (by omega)), bv]
      rfl
  have g305 : ∀ (j : Nat) (P : Option qe_S), j < 305 → qm_g (nI j) 305 P = P := fun j P h => qn_g h (by omega)
  have Z0 : qi_Z n T τ k p (true, p) [] (qe_si τ 16 (5 * k) (nI p)) := by
    refine ⟨⟨by rw [qn_si_k (by omega)]; exact hA.1, by rw [qn_si_k (by omega)]; exact hA.2⟩, ⟨by rw [qn_si_k (by omega)]; exact ht.1, fun i hi => by rw [qn_si_k (by omega)]; exact ht.2 i hi⟩, ⟨rfl, fun x p1 p2 => by funext y; exact qn_si_k p2, fun j p1 p2 => by rw [qn_si_k (by omega)]⟩, fun j hj => by rw [qn_si_j (by omega)], qn_si_eq, fun i hi => absurd hi (Nat.not_lt_zero _)⟩
  have Z1 : qi_Z n T τ k p (true, p + 1) [] (qe_si (qe_si τ 16 (5 * k) (nI p)) 0 23 (nI (p + 1))) := qi_Zg Z0 (qi_g23 _ _) ⟨qn_si_eq, by rw [qn_si_j (by omega)]; exact Z0.1.2⟩
  have r23 : (qe_si τ 16 (5 * k) (nI p)).1 0 23 = nI p := Z0.1.1
  generalize hκ : qi_b n T p = κ at hbp start
  unfold qi_cs qi_cv
  rw [hκ, start]
  generalize hs1 : qe_si (qe_si τ 16 (5 * k) (nI p)) 0 23 (nI (p + 1)) = s1 at Z1
  have q0 : (true, p + 1).2 = p + 1 := rfl
  -- the first number, of two digits
  have F := qi_fs_pos (qi_b n T)
  have N1 : ∀ κ' : Nat, ∃ s2, g_X9_number (nI 2) s1 = some (qi_nv (qi_b n T) (true, p + 1) 78, s2) ∧ qi_Z n T τ k p (qi_fs (qi_b n T) (true, p + 1) 78) [qi_nv (qi_b n T) (true, p + 1) 78] (qe_si s2 16 (5 * k + 1) (qi_nv (qi_b n T) (true, p + 1) 78)) := fun _ => by
    obtain ⟨s2, e1, Z2⟩ := qi_ZN hn hb Z1 (show p + 1 < 2 ^ 18 by omega) 2 78 (by omega) (qi_s78 _ _)
    exact ⟨s2, e1, qi_Zw Z2 _⟩
  -- the second, behind a byte
  have N2 : ∀ (ch : Nat), 1 ≤ ch → ch ≤ 67 → ∀ (st : Bool × Nat) (v : Int32) (s : qe_S), st.2 < 2 ^ 16 → qi_Z n T τ k p st [v] s → ∃ s3 s4, g_X9_needs (nI ch) s = some s3 ∧ g_X9_number (nI 2) s3 = some (qi_nv (qi_b n T) (qi_fs (qi_b n T) st ch) 78, s4) ∧ qi_Z n T τ k p (qi_fs (qi_b n T) (qi_fs (qi_b n T) st ch) 78) [v, qi_nv (qi_b n T) (qi_fs (qi_b n T) st ch) 78] (qe_si s4 16 (5 * k + 2) (qi_nv (qi_b n T) (qi_fs (qi_b n T) st ch) 78)) := by
    intro ch c1 c2 st v s hst hZ
    obtain ⟨s3, e1, Z3⟩ := qi_Zd hn hb hZ (by omega) ch c1 c2
    have f := F st ch
    obtain ⟨s4, e2, Z4⟩ := qi_ZN hn hb Z3 (by omega) 2 78 (by omega) (qi_s78 _ _)
    exact ⟨s3, s4, e1, e2, qi_Zw Z4 _⟩
  have pp := F (true, p + 1) 78
  have pp' : (qi_fs (qi_b n T) (true, p + 1) 78).2 ≤ p + 1 + 3 := pp
  obtain ⟨s2, a1, Z2⟩ := N1 0
  by_cases h117 : κ = 117
  · subst h117
    obtain ⟨s3, s4, b1, b2, Z4⟩ := N2 47 (by omega) (by omega) _ _ _ (by omega) Z2
    have p3 := F (qi_fs (qi_b n T) (true, p + 1) 78) 47
    have p4 := F (qi_fs (qi_b n T) (qi_fs (qi_b n T) (true, p + 1) 78) 47) 78
    obtain ⟨s5, c1, Z5⟩ := qi_Zd hn hb Z4 (by omega) 44 (by omega) (by omega)
    have p5 := F (qi_fs (qi_b n T) (qi_fs (qi_b n T) (qi_fs (qi_b n T) (true, p + 1) 78) 47) 78) 44
    obtain ⟨s6, d1, Z6⟩ := qi_ZN hn hb Z5 (by omega) 1 68 (by omega) (qi_s68 _ _)
    have p6 := F (qi_fs (qi_b n T) (qi_fs (qi_b n T) (qi_fs (qi_b n T) (qi_fs (qi_b n T) (true, p + 1) 78) 47) 78) 44) 68
    have Z7 := qi_Zw Z6 (qi_nv (qi_b n T) (qi_fs (qi_b n T) (qi_fs (qi_b n T) (qi_fs (qi_b n T) (qi_fs (qi_b n T) (true, p + 1) 78) 47) 78) 44) 68)
    obtain ⟨s8, f1, Z8⟩ := qi_Zd hn hb Z7 (by omega) 44 (by omega) (by omega)
    have p8 := F (qi_fs (qi_b n T) (qi_fs (qi_b n T) (qi_fs (qi_b n T) (qi_fs (qi_b n T) (qi_fs (qi_b n T) (true, p + 1) 78) 47) 78) 44) 68) 44
    obtain ⟨s9, g1, Z9⟩ := qi_ZM hn hb hk Z8 (by omega)
    have Z10 := qi_Zw Z9 (qi_nv (qi_b n T) (qi_fs (qi_b n T) (qi_fs (qi_b n T) (qi_fs (qi_b n T) (qi_fs (qi_b n T) (qi_fs (qi_b n T) (qi_fs (qi_b n T) (true, p + 1) 78) 47) 78) 44) 68) 44) 77)
    refine ⟨_, ?_, Z10⟩
    have n1 : ¬ nI 117 = nI 111 := by decide
    have n2 : ¬ nI 117 = nI 114 := by decide
    have n3 : ¬ nI 117 = nI 120 := by decide
    have d1' : g_X9_number 1 s5 = _ := d1
    have f1' : g_X9_needs (nI 44) (qe_si s6 16 (5 * k + 3) (qi_nv (qi_b n T) (qi_fs (qi_b n T) (qi_fs (qi_b n T) (qi_fs (qi_b n T) (qi_fs (qi_b n T) (true, p + 1) 78) 47) 78) 44) 68)) = some s8 := f1
    unfold qi_R31 qi_R83
    simp only [qn_j2, qn_l2, n1, n2, n3, if_true, if_false]
    rw [g305 _ _ (by omega), nI_clamp (by omega), hA1, r23, nI_1, hs1, a1, qn_b, nI_1, g305 _ _ (by omega), nI_clamp (by omega), b1, qn_o, b2, qn_b, nI_add, g305 _ _ (by omega), nI_clamp (by omega), c1, qn_o, d1', qn_b, nI_add, g305 _ _ (by omega), nI_clamp (by omega), f1', qn_o, g1]
    rfl
  · by_cases h1 : κ = 115 ∨ κ = 110
    · obtain ⟨s3, s4, b1, b2, Z4⟩ := N2 44 (by omega) (by omega) _ _ _ (by omega) Z2
      have p3 := F (qi_fs (qi_b n T) (true, p + 1) 78) 44
      have p4 := F (qi_fs (qi_b n T) (qi_fs (qi_b n T) (true, p + 1) 78) 44) 78
      obtain ⟨s5, c1, Z5⟩ := qi_Zd hn hb Z4 (by omega) 47 (by omega) (by omega)
      have p5 := F (qi_fs (qi_b n T) (qi_fs (qi_b n T) (qi_fs (qi_b n T) (true, p + 1) 78) 44) 78) 47
      obtain ⟨s6, d1, Z6⟩ := qi_ZN hn hb Z5 (by omega) 2 78 (by omega) (qi_s78 _ _)
      have Z7 := qi_Zw Z6 (qi_nv (qi_b n T) (qi_fs (qi_b n T) (qi_fs (qi_b n T) (qi_fs (qi_b n T) (qi_fs (qi_b n T) (true, p + 1) 78) 44) 78) 47) 78)
      have sh : qi_sh κ = [78, 44, 78, 47, 78] := by rcases h1 with h | h <;> subst h <;> rfl
      rw [sh]
      refine ⟨_, ?_, Z7⟩
      rcases h1 with h | h
      · subst h
        have n1 : ¬ nI 115 = nI 111 := by decide
        have n2 : ¬ nI 115 = nI 114 := by decide
        have n3 : ¬ nI 115 = nI 120 := by decide
        have n4 : ¬ nI 115 = nI 117 := by decide
        unfold qi_R31 qi_R83
        simp only [qn_j2, qn_l2, n1, n2, n3, n4, if_true, if_false]
        rw [g305 _ _ (by omega), nI_clamp (by omega), hA1, r23, nI_1, hs1, a1, qn_b, nI_1, g305 _ _ (by omega), nI_clamp (by omega), b1, qn_o, b2, qn_b, nI_add, g305 _ _ (by omega), nI_clamp (by omega), c1, qn_o, d1, qn_b, nI_add, g305 _ _ (by omega), nI_clamp (by omega)]
        rfl
      · subst h
        have n1 : ¬ nI 110 = nI 111 := by decide
        have n2 : ¬ nI 110 = nI 114 := by decide
        have n3 : ¬ nI 110 = nI 120 := by decide
        have n4 : ¬ nI 110 = nI 117 := by decide
        have n5 : ¬ nI 110 = nI 115 := by decide
        unfold qi_R31 qi_R83
        simp only [qn_j2, qn_l2, n1, n2, n3, n4, n5, if_true, if_false]
        rw [g305 _ _ (by omega), nI_clamp (by omega), hA1, r23, nI_1, hs1, a1, qn_b, nI_1, g305 _ _ (by omega), nI_clamp (by omega), b1, qn_o, b2, qn_b, nI_add, g305 _ _ (by omega), nI_clamp (by omega), c1, qn_o, d1, qn_b, nI_add, g305 _ _ (by omega), nI_clamp (by omega)]
        rfl
    · by_cases h111 : κ = 111
      · subst h111
        obtain ⟨s6, d1, Z6⟩ := qi_ZN hn hb Z1 (show p + 1 < 2 ^ 18 by omega) 1 68 (by omega) (qi_s68 _ _)
        have Z7 := qi_Zw Z6 (qi_nv (qi_b n T) (true, p + 1) 68)
        refine ⟨_, ?_, Z7⟩
        have d1' : g_X9_number 1 s1 = _ := d1
        have n2 : ¬ nI 111 = nI 117 := by decide
        have n3 : ¬ nI 111 = nI 115 := by decide
        have n4 : ¬ nI 111 = nI 110 := by decide
        unfold qi_R31 qi_R83
        simp only [qn_j2, qn_l2, n2, n3, n4, if_true, if_false]
        rw [g305 _ _ (by omega), nI_clamp (by omega), hA1, r23, nI_1, hs1, d1', qn_b, nI_1, g305 _ _ (by omega), nI_clamp (by omega)]
        rfl
      · by_cases h114 : κ = 114
        · subst h114
          refine ⟨_, ?_, Z2⟩
          have n1 : ¬ nI 114 = nI 111 := by decide
          have n2 : ¬ nI 114 = nI 117 := by decide
          have n3 : ¬ nI 114 = nI 115 := by decide
          have n4 : ¬ nI 114 = nI 110 := by decide
          unfold qi_R31 qi_R83
          simp only [qn_j2, qn_l2, n1, n2, n3, n4, if_true, if_false]
          rw [g305 _ _ (by omega), nI_clamp (by omega), hA1, r23, nI_1, hs1, a1, qn_b, nI_1, g305 _ _ (by omega), nI_clamp (by omega)]
        · by_cases h120 : κ = 120
          · subst h120
            obtain ⟨s3, s4, b1, b2, Z4⟩ := N2 44 (by omega) (by omega) _ _ _ (by omega) Z2
            refine ⟨_, ?_, Z4⟩
            have n1 : ¬ nI 120 = nI 111 := by decide
            have n2 : ¬ nI 120 = nI 114 := by decide
            have n3 : ¬ nI 120 = nI 117 := by decide
            have n4 : ¬ nI 120 = nI 115 := by decide
            have n5 : ¬ nI 120 = nI 110 := by decide
            unfold qi_R31 qi_R83
            simp only [qn_j2, qn_l2, n1, n2, n3, n4, n5, if_true, if_false]
            rw [g305 _ _ (by omega), nI_clamp (by omega), hA1, r23, nI_1, hs1, a1, qn_b, nI_1, g305 _ _ (by omega), nI_clamp (by omega), b1, qn_o, b2, qn_b, nI_add, g305 _ _ (by omega), nI_clamp (by omega)]
          · have sh : qi_sh κ = [] := by
              unfold qi_sh
              rw [if_neg h117, if_neg (fun z => h1 (Or.inl z)), if_neg (fun z => h1 (Or.inr z)), if_neg h111, if_neg h114, if_neg h120]
            obtain ⟨s', e1, e2, e3⟩ := qi_wrong (st := (true, p)) (show p < 2 ^ 20 by omega) Z0.1
            rw [sh, if_pos rfl]
            refine ⟨s', ?_, qi_Zg Z0 e3 e2⟩
            have e : ∀ c, c ≤ 127 → (nI κ = nI c → κ = c) := fun c hc z => (nI_eq (by omega) (by omega)).mp z
            unfold qi_R31
            rw [g305 _ _ (by omega), qn_l, nI_clamp (by omega), hA1, if_neg (fun z => h117 (e 117 (by omega) z)), if_neg (fun z => h1 (Or.inl (e 115 (by omega) z))), if_neg (fun z => h1 (Or.inr (e 110 (by omega) z))), if_neg (fun z => h111 (e 111 (by omega) z)), if_neg (fun z => h114 (e 114 (by omega) z)), if_neg (fun z => h120 (e 120 (by omega) z)), e1, qn_o]
