/-! TELLS: a text done whole, or not at all -/
theorem qj_copy {a b : Nat} (hab : (a = 15 ∧ b = 1) ∨ (a = 1 ∧ b = 15)) (σ : qe_S) : ∃ σ', g_X3_copyOf a b σ = some σ' ∧ σ'.2 = σ.2 ∧ (∀ k, (k < a ∨ a + 6 < k) → σ'.1 k = σ.1 k) ∧ (∀ i, i < 3 → σ'.1 a i = σ.1 b i) ∧ (∀ c j, 1 ≤ c → c ≤ 4 → j < 12 → σ'.1 (a + c) j = σ.1 (b + c) j) ∧ (∀ c j, 5 ≤ c → c ≤ 6 → j < 36 → σ'.1 (a + c) j = σ.1 (b + c) j) := by
  rcases hab with ⟨rfl, rfl⟩ | ⟨rfl, rfl⟩
  · refine ⟨_, rfl, rfl, fun k hk => ?_, fun i hi => ?_, fun c j h1 h2 hj => ?_, fun c j h1 h2 hj => ?_⟩
    · funext j
      simp only [qe_si, qe_cp]
      simp [show k ≠ 15 by omega, show k ≠ 16 by omega, show k ≠ 17 by omega, show k ≠ 18 by omega, show k ≠ 19 by omega, show k ≠ 20 by omega, show k ≠ 21 by omega]
    · obtain rfl | rfl | rfl : i = 0 ∨ i = 1 ∨ i = 2 := by omega
      · rfl
      · rfl
      · rfl
    · obtain rfl | rfl | rfl | rfl : c = 1 ∨ c = 2 ∨ c = 3 ∨ c = 4 := by omega
      · simp [qe_si, qe_cp, hj]
      · simp [qe_si, qe_cp, hj]
      · simp [qe_si, qe_cp, hj]
      · simp [qe_si, qe_cp, hj]
    · obtain rfl | rfl : c = 5 ∨ c = 6 := by omega
      · simp [qe_si, qe_cp, hj]
      · simp [qe_si, qe_cp, hj]
  · refine ⟨_, rfl, rfl, fun k hk => ?_, fun i hi => ?_, fun c j h1 h2 hj => ?_, fun c j h1 h2 hj => ?_⟩
    · funext j
      simp only [qe_si, qe_cp]
      simp [show k ≠ 1 by omega, show k ≠ 2 by omega, show k ≠ 3 by omega, show k ≠ 4 by omega, show k ≠ 5 by omega, show k ≠ 6 by omega, show k ≠ 7 by omega]
    · obtain rfl | rfl | rfl : i = 0 ∨ i = 1 ∨ i = 2 := by omega
      · rfl
      · rfl
      · rfl
    · obtain rfl | rfl | rfl | rfl : c = 1 ∨ c = 2 ∨ c = 3 ∨ c = 4 := by omega
      · simp [qe_si, qe_cp, hj]
      · simp [qe_si, qe_cp, hj]
      · simp [qe_si, qe_cp, hj]
      · simp [qe_si, qe_cp, hj]
    · obtain rfl | rfl : c = 5 ∨ c = 6 := by omega
      · simp [qe_si, qe_cp, hj]
      · simp [qe_si, qe_cp, hj]
def qj_kc : Int32 → qe_S → Option (Int32 × qe_S) :=
  (fun (a13 : Int32) (s14 : qe_S) =>
        qm_b (g_X3_places (0 : Int32) s14) fun b16 s15 =>
        if (1 : Int64) ≤ b16 then (
          some (a13, s15))
        else
        qm_o (g_X3_copyOf 1 15 s15) fun s17 =>
        qm_o (g_X1_note (-7 : Int32) (nI 2) (-7 : Int32) (-9 : Int32) s17) fun s18 =>
        some ((-7 : Int32), s18))
def qj_kf : Int32 → Int32 → qe_S → Option (Int32 × qe_S) :=
  (fun (a19 : Int32) (a20 : Int32) (s21 : qe_S) =>
        qm_o (g_X3_copyOf 1 15 s21) fun s22 =>
        qm_o (g_X1_note ((-300 : Int32) - a19) (1 : Int32) a20 a20 s22) fun s23 =>
        some (((-300 : Int32) - a19), s23))
def qj_km : qe_S → Option (Int32 × qe_S) :=
  (fun  (s21 : qe_S) =>
                    qm_b (g_X9_lays (0 : Int32) s21) fun a23 s22 =>
                    if a23 = (0 : Int32) then (
                      qm_o (g_X9_pours 3 1 s22) fun s24 =>
                      qm_b (g_X9_refused (-7 : Int32) (nI 2) (-7 : Int32) (-9 : Int32) s24) fun a26 s25 =>
                      some (a26, s25))
                    else
                      some ((s22.1 0 25), s22))
def qj_kg : Int32 → Int32 → qe_S → Option (Int32 × qe_S) :=
  (fun (a27 : Int32) (a28 : Int32) (s29 : qe_S) =>
                    qm_o (g_X9_pours 3 1 s29) fun s30 =>
                    qm_g ((nI 5) * a27) 305 <| qm_l (s30.1 16 ((nI 5) * a27).toNatClampNeg) fun a31 =>
                    qm_b (g_X9_refused ((-300 : Int32) - a31) (1 : Int32) a28 a28 s30) fun a33 s32 =>
                    some (a33, s32))
def qj_K : qe_S → Option (Int32 × qe_S) :=
  (fun  (s10 : qe_S) =>
        qm_j (fun  (s11 : qe_S) =>
            qm_l (qe_si s11 0 25 ((s11.1 0 25) + (1 : Int32))) fun s12 =>
            qm_l (qe_si s12 0 21 (0 : Int32)) fun s13 =>
            if (s13.1 0 24) < (0 : Int32) then (
              qm_o (g_X9_pours 1 3 s13) fun s14 =>
              qm_l (0 : Int32) fun a15 =>
              g_X9_tells_L126
                  qj_km qj_kg qm_F a15 s14)
            else
            qm_b (g_X9_no ((-100 : Int32) - (s13.1 0 24)) s13) fun a35 s34 =>
            some (a35, s34)
        ) fun j79 =>
        if (0 : Int32) ≤ (s10.1 0 24) then (
          j79 s10)
        else
        if (s10.1 0 21) ≤ (s10.1 0 23) then (
          j79 s10)
        else
          qm_o (g_X9_wrong s10) fun s36 =>
          j79 s36)
theorem qj_do0 (s : qe_S) : g_X8_doClauses s = qm_o (g_X3_copyOf 15 1 s) fun s1 => g_X8_doClauses_L15 qj_kc qj_kf qm_F (nI 0) (nI 0) s1 := by
  unfold g_X8_doClauses qj_kc qj_kf
  simp only [qn_l2, nI_0]
theorem qj_tells0 (s : qe_S) : g_X9_tells s = qm_o (g_X9_reads (qe_si (qe_si (qe_si s 0 23 0) 0 24 (-1)) 0 25 0)) fun s4 => g_X9_tells_L19 qj_K qm_F s4 := by
  unfold g_X9_tells qj_K qj_km qj_kg
  rw [qn_l2, qn_l2, qn_l2]
def qj_C (a b : qe_S) : Prop := b.2 = a.2 ∧ ∀ k, (k < 1 ∨ 7 < k) → (k < 15 ∨ 21 < k) → k ≠ 37 → k ≠ 38 → k ≠ 40 → b.1 k = a.1 k
def qj_D (a b : qe_S) : Prop := b.2 18 = a.2 18 ∧ (∀ k, k ≠ 0 → k ≠ 1 → k ≠ 3 → k ≠ 4 → k ≠ 5 → k ≠ 16 → b.1 k = a.1 k) ∧ (∀ j, j ≠ 21 → j ≠ 23 → j ≠ 24 → j ≠ 25 → b.1 0 j = a.1 0 j)
theorem qj_Ct {a b c : qe_S} (h : qj_C a b) (g : qj_C b c) : qj_C a c := ⟨g.1.trans h.1, fun k p q r s t => (g.2 k p q r s t).trans (h.2 k p q r s t)⟩
theorem qj_Dt {a b c : qe_S} (h : qj_D a b) (g : qj_D b c) : qj_D a c := ⟨g.1.trans h.1, fun k p q r s t u => (g.2.1 k p q r s t u).trans (h.2.1 k p q r s t u), fun j p q r s => (g.2.2 j p q r s).trans (h.2.2 j p q r s)⟩
theorem qj_fin {σ τ σf τf : qe_S} (hR : qz_R σ τ) (c : qj_C σ σf) (e : qj_D τ τf) (z1 : σf.1 37 0 = 0) (z2 : τf.1 0 21 = 0) (hV : qz_V σf τf) (hW : qz_W σf τf) : qz_R σf τf := by
  obtain ⟨_, hI, _, _, hL⟩ := hR
  refine ⟨hV, ?_, hW, ⟨0, by omega, z1, z2, fun i hi => absurd hi (Nat.not_lt_zero i)⟩, ?_⟩
  · unfold qz_I qr_D qr_O qr_M
    rw [c.2 0 (by omega) (by omega) (by omega) (by omega) (by omega), e.2.2 3 (by omega) (by omega) (by omega) (by omega), c.2 8 (by omega) (by omega) (by omega) (by omega) (by omega), c.2 (8 + 1) (by omega) (by omega) (by omega) (by omega) (by omega), c.2 (8 + 2) (by omega) (by omega) (by omega) (by omega) (by omega), c.2 (8 + 3) (by omega) (by omega) (by omega) (by omega) (by omega), c.2 (8 + 4) (by omega) (by omega) (by omega) (by omega) (by omega), c.2 (8 + 5) (by omega) (by omega) (by omega) (by omega) (by omega), c.2 (8 + 6) (by omega) (by omega) (by omega) (by omega) (by omega), e.2.1 2 (by omega) (by omega) (by omega) (by omega) (by omega) (by omega)]
    exact hI
  · intro l hl
    rw [c.2 (42 + 2 * l) (by omega) (by omega) (by omega) (by omega) (by omega), e.2.1 17 (by omega) (by omega) (by omega) (by omega) (by omega) (by omega), c.1, e.1]
    exact hL l hl
/-- the same reason told by both -/
theorem qj_told (σ τ : qe_S) (a b c d : Int32) : ∃ σ' τ', g_X1_note a b c d σ = some σ' ∧ g_X9_refused a b c d τ = some (a, τ') ∧ σ'.2 = σ.2 ∧ (∀ k, k ≠ 40 → σ'.1 k = σ.1 k) ∧ τ'.2 = τ.2 ∧ (∀ k, k ≠ 4 → τ'.1 k = τ.1 k) ∧ qz_W σ' τ' := by
  obtain ⟨σ', e1, p1, q1, x0, x1, x2, x3⟩ := qz_note σ a b c d
  obtain ⟨τ', e2, p2, q2, y0, y1, y2, y3⟩ := qz_refused τ a b c d
  refine ⟨σ', τ', e1, e2, p1, q1, p2, q2, fun i hi => ?_⟩
  obtain rfl | rfl | rfl | rfl : i = 0 ∨ i = 1 ∨ i = 2 ∨ i = 3 := by omega
  · rw [x0, y0]
  · rw [x1, y1]
  · rw [x2, y2]
  · rw [x3, y3]
theorem qj_nos (σ τ : qe_S) (v : Int32) : ∃ σ' τ', g_X8_refuse v σ = some (v, σ') ∧ g_X9_no v τ = some (v, τ') ∧ σ'.2 = σ.2 ∧ (∀ k, k ≠ 40 → σ'.1 k = σ.1 k) ∧ τ'.2 = τ.2 ∧ (∀ k, k ≠ 4 → τ'.1 k = τ.1 k) ∧ qz_W σ' τ' := by
  by_cases h : v = -7
  · obtain ⟨σ', τ', e1, e2, hR'⟩ := qj_told σ τ v 1 (-9) (-9)
    refine ⟨σ', τ', ?_, ?_, hR'⟩
    · unfold g_X8_refuse; rw [if_pos h, e1, qn_o]
    · unfold g_X9_no; rw [if_pos h, e2, qn_b]
  · obtain ⟨σ', τ', e1, e2, hR'⟩ := qj_told σ τ v 0 0 0
    refine ⟨σ', τ', ?_, ?_, hR'⟩
    · unfold g_X8_refuse; rw [if_neg h, e1, qn_o]
    · unfold g_X9_no; rw [if_neg h, e2, qn_b]
/-- what the reference does with a text that it has read -/
theorem qj_K1 {n m : Nat} {t : qe_S} (hn : n ≤ 120) (h21 : t.1 0 21 = nI n) (hA : qi_A (true, n) t) (h25 : t.1 0 25 = nI m) : qj_K t = qm_o (g_X9_pours 1 3 (qe_si (qe_si t 0 25 (nI (m + 1))) 0 21 0)) fun s14 => g_X9_tells_L126 qj_km qj_kg qm_F (nI 0) s14 := by
  have h24 : t.1 0 24 = -1 := hA.2.trans (if_pos rfl)
  have h23 : t.1 0 23 = nI n := hA.1
  have e1 : nI m + (1 : Int32) = nI (m + 1) := nI_add m 1
  unfold qj_K
  rw [qn_j2, h24, if_neg (by decide), h21, h23, if_pos (nI_le (Nat.le_refl _) (by omega))]
  dsimp only
  rw [h25, e1, qn_l2, qn_l2, qn_si_j (by omega), qn_si_j (by omega), h24, if_pos (by decide)]
  simp only [qn_l2, nI_0]
theorem qj_K2 {n q : Nat} {ok : Bool} {t : qe_S} (hn : n ≤ 120) (hq : q ≤ n) (h21 : t.1 0 21 = nI n) (hA : qi_A (ok, q) t) (hok : ok = true → q < n) : ∃ t' x, qj_K t = (qm_b (g_X9_no ((-100 : Int32) - nI q) (qe_si (qe_si t' 0 25 x) 0 21 0)) fun a35 s34 => some (a35, s34)) ∧ qi_g t t' := by
  cases ok with
  | false =>
    have h24 : t.1 0 24 = nI q := hA.2.trans (if_neg Bool.false_ne_true)
    refine ⟨t, t.1 0 25 + 1, ?_, qi_gr t⟩
    unfold qj_K
    rw [qn_j2, h24, if_pos (nI_pos' (by omega))]
    dsimp only
    rw [qn_l2, qn_l2, qn_si_j (by omega), qn_si_j (by omega), h24, if_neg (nI_pos (by omega))]
  | true =>
    have qn := hok rfl
    have h24 : t.1 0 24 = -1 := hA.2.trans (if_pos rfl)
    have h23 : t.1 0 23 = nI q := hA.1
    obtain ⟨t', e1, e2, e3⟩ := qi_wrong (show (true, q).2 < 2 ^ 20 by show q < 2 ^ 20; omega) hA
    have h24' : t'.1 0 24 = nI q := e2.2.trans (if_neg Bool.false_ne_true)
    refine ⟨t', t'.1 0 25 + 1, ?_, e3⟩
    unfold qj_K
    rw [qn_j2, h24, if_neg (by decide), h21, h23, if_neg (nI_ge qn (by omega)), e1, qn_o]
    dsimp only
    rw [qn_l2, qn_l2, qn_si_j (by omega), qn_si_j (by omega), h24', if_neg (nI_pos (by omega))]
theorem qz_tells : ql_op_tells qz_R := by
  intro σ τ hR
  have hR0 := hR
  obtain ⟨hV, hI, hW, ⟨n, hn, t37, t21, hT0⟩, hL⟩ := hR
  obtain ⟨T, hT⟩ := Classical.axiomOfChoice (r := fun (i c : Nat) => i < n → 1 ≤ c ∧ c ≤ 127 ∧ σ.1 39 i = nI c ∧ τ.1 15 i = nI c) (fun i => by
    by_cases h : i < n
    · obtain ⟨c, hc⟩ := hT0 i h
      exact ⟨c, fun _ => hc⟩
    · exact ⟨0, fun z => absurd z h⟩)
  have hb : ∀ i, qi_b n T i ≤ 127 := by
    intro i
    unfold qi_b
    by_cases h : i < n
    · rw [if_pos h]; exact (hT i h).2.1
    · rw [if_neg h]; omega
  have hC : qi_tC n T σ := ⟨t37, fun i hi => (hT i hi).2.2.1⟩
  have d3 : qj_D τ (qe_si (qe_si (qe_si τ 0 23 0) 0 24 (-1)) 0 25 0) := ⟨rfl, fun k p0 _ _ _ _ _ => by funext y; rw [qn_si_k p0, qn_si_k p0, qn_si_k p0], fun j _ p1 p2 p3 => by rw [qn_si_j p3, qn_si_j p2, qn_si_j p1]⟩
  have k3 : ∀ k, k ≠ 0 → (qe_si (qe_si (qe_si τ 0 23 0) 0 24 (-1)) 0 25 0).1 k = τ.1 k := fun k p0 => by funext y; rw [qn_si_k p0, qn_si_k p0, qn_si_k p0]
  have hM : qi_tM n T (qe_si (qe_si (qe_si τ 0 23 0) 0 24 (-1)) 0 25 0) := ⟨by rw [qn_si_j (by omega), qn_si_j (by omega), qn_si_j (by omega)]; exact t21, fun i hi => by rw [k3 15 (by omega)]; exact (hT i hi).2.2.2⟩
  have hA : qi_A (true, 0) (qe_si (qe_si (qe_si τ 0 23 0) 0 24 (-1)) 0 25 0) := ⟨by rw [qn_si_j (by omega), qn_si_j (by omega), qn_si_eq]; rfl, by rw [qn_si_j (by omega), qn_si_eq, if_pos rfl]⟩
  obtain ⟨r, s', t', e1, e2, f1, f2, low, alt⟩ := qi_text hn hb qj_K (n + 1) 0 qm_F qm_F σ _ (by show n + 1 ≤ 0 + (n + 1); omega) (by rw [qn_F]; omega) (by rw [qn_F]; omega) (by omega) (Nat.zero_le _) (Nat.zero_le _) hC hM hA (by rw [qn_si_eq]; exact nI_0.symm)
  have ef : g_X6_fault σ = some (r, s') := by
    unfold g_X6_fault
    rw [qn_l2, qn_l2, ← nI_0]
    exact e1
  have em : g_X9_tells τ = qj_K t' := by
    rw [qj_tells0]
    exact e2
  have t21' : t'.1 0 21 = nI n := by rw [f2.2.2 21 (by omega) (by omega) (by omega)]; exact hM.1
  have D1 : qj_D τ t' := qj_Dt d3 ⟨by rw [f2.1], fun k p0 _ _ _ _ p5 => f2.2.1 k p0 p5, fun j _ p1 p2 p3 => f2.2.2 j p1 p2 p3⟩
  have C1 : qj_C σ s' := ⟨f1.1, fun k _ _ p q _ => f1.2.1 k p q⟩
  have V1 : qz_V s' t' := qj_V (fun k x y => f1.2.1 k (by omega) (by omega)) (by rw [f2.2.1 1 (by omega) (by omega)]; exact k3 1 (by omega)) hV
  have w40 : s'.1 40 = σ.1 40 := f1.2.1 40 (by omega) (by omega)
  have w4 : t'.1 4 = τ.1 4 := by rw [f2.2.1 4 (by omega) (by omega)]; exact k3 4 (by omega)
  have fC : ∀ (v : Int32) (s : qe_S), g_X8_doClauses s' = some (v, s) → r = -1 → g_X8_tells σ = some (v, qe_si s 37 0 0) := by
    intro v s h z
    unfold g_X8_tells
    rw [qn_j2, ef, qn_b, z, if_pos (by decide), h, qn_b]
    dsimp only
    rw [qn_l2]
  have z37 : ∀ s : qe_S, qj_C s (qe_si s 37 0 0) := fun s => ⟨rfl, fun k _ _ p _ _ => by funext y; exact qn_si_k p⟩
  have z21 : ∀ (t : qe_S) (x : Int32), qj_D t (qe_si (qe_si t 0 25 x) 0 21 0) := fun t x => ⟨rfl, fun k p0 _ _ _ _ _ => by funext y; rw [qn_si_k p0, qn_si_k p0], fun j p0 _ _ p3 => by rw [qn_si_j p0, qn_si_j p3]⟩
  rcases alt with ⟨r1, A1, m, _, hm, m25, vV, vok, vend, _⟩ | ⟨q, hq, rq, ok, A1, hok⟩
  · have eK := qj_K1 hn t21' A1 m25
    obtain ⟨σ1, c1, c2, c3, c4, c5, c6⟩ := qj_copy (Or.inl ⟨rfl, rfl⟩) s'
    obtain ⟨τ1, p1, p2, p3, p4⟩ := qz_pours (a := 1) (b := 3) (by omega) (qe_si (qe_si t' 0 25 (nI (m + 1))) 0 21 0)
    have k1 : ∀ k, k ≠ 0 → k ≠ 3 → τ1.1 k = t'.1 k := fun k h0 h3 => by rw [p3 k h3]; funext y; rw [qn_si_k h0, qn_si_k h0]
    have l25 : τ1.1 0 25 = nI (m + 1) := by rw [p3 0 (by omega), qn_si_j (by omega), qn_si_eq]
    have l21 : τ1.1 0 21 = 0 := by rw [p3 0 (by omega), qn_si_eq]
    have hC1 : qi_tC n T σ1 := by
      have h := qi_t f1 hC
      exact ⟨by rw [c3 37 (by omega)]; exact h.1, fun i hi => by rw [c3 39 (by omega)]; exact h.2 i hi⟩
    have V2 : qz_V σ1 τ1 := qj_V (fun k x y => c3 k (by omega)) (k1 1 (by omega) (by omega)) V1
    obtain ⟨ρ, w, dd, oo, mm⟩ := V1
    have d15 := qz_D_copy w dd c4 c5 c6
    have o15 := qz_O_copy w oo c5
    have m3 : qr_M 3 τ1 ρ := qz_M_copy (a := 1) (b := 3) w mm (fun j hj => by rw [p4 j hj, qn_si_k (by omega), qn_si_k (by omega)])
    have D2 : qj_D τ τ1 := qj_Dt (qj_Dt D1 (z21 t' (nI (m + 1)))) ⟨by rw [p2], fun k _ _ h3 _ _ _ => p3 k h3, fun j _ _ _ _ => by rw [p3 0 (by omega)]⟩
    have C2 : qj_C σ σ1 := qj_Ct C1 ⟨c2, fun k _ h _ _ _ => c3 k (by omega)⟩
    obtain ⟨σ2, τ2, g1, g2, alt2⟩ := qj_loop hn hb hm (σ0 := σ1) (τ0 := τ1) qj_kc qj_kf qj_km qj_kg (fun j hj => vok j (Nat.zero_le _) hj) vend l25 (fun j a b => by rw [k1 16 (by omega) (by omega)]; exact vV j a b) (fun i hi => by rw [k1 15 (by omega) (by omega), f2.2.1 15 (by omega) (by omega), k3 15 (by omega), (hT i hi).2.2.2]; exact congrArg nI (if_pos hi).symm) hC1 (m + 1) 0 qm_F qm_F σ1 τ1 (by omega) (by rw [qn_F]; omega) (by rw [qn_F]; omega) V2 ⟨rfl, fun _ _ _ _ => rfl, rfl⟩ ⟨rfl, fun _ _ => rfl⟩
    have C3 : qj_C σ σ2 := qj_Ct C2 ⟨g1.1, fun k h _ p q _ => g1.2.1 k h p q⟩
    have D3 : qj_D τ τ2 := qj_Dt D2 ⟨by rw [g2.1], fun k _ h1 _ _ _ _ => g2.2 k h1, fun j _ _ _ _ => by rw [g2.2 0 (by omega)]⟩
    have n40 : σ2.1 40 = σ.1 40 := by rw [g1.2.1 40 (by omega) (by omega) (by omega), c3 40 (by omega), w40]
    have n4 : τ2.1 4 = τ.1 4 := by rw [g2.2 4 (by omega), k1 4 (by omega) (by omega), w4]
    have n21 : τ2.1 0 21 = 0 := by rw [g2.2 0 (by omega)]; exact l21
    have n25 : τ2.1 0 25 = nI (m + 1) := by rw [g2.2 0 (by omega)]; exact l25
    have e15 : ∀ k, 15 ≤ k → k ≤ 21 → σ2.1 k = σ1.1 k := fun k x y => g1.2.1 k (by omega) (by omega) (by omega)
    have d15' : qr_D 15 σ2 ρ := by
      unfold qr_D
      rw [e15 15 (by omega) (by omega), e15 (15 + 1) (by omega) (by omega), e15 (15 + 2) (by omega) (by omega), e15 (15 + 3) (by omega) (by omega), e15 (15 + 5) (by omega) (by omega), e15 (15 + 6) (by omega) (by omega)]
      exact d15
    have o15' : qr_O 15 σ2 ρ := by
      unfold qr_O
      rw [e15 (15 + 4) (by omega) (by omega)]
      exact o15
    have m3' : qr_M 3 τ2 ρ := by
      unfold qr_M
      rw [g2.2 3 (by omega)]
      exact m3
    -- back to what was before, with a reason
    have back : ∀ (τ3 : qe_S) (a b c d : Int32), qj_D τ2 τ3 → τ3.1 0 21 = 0 → τ3.1 3 = τ2.1 3 → ∃ σ4 τ4 σ5 τ5, g_X3_copyOf 1 15 σ2 = some σ4 ∧ g_X9_pours 3 1 τ3 = some τ4 ∧ g_X1_note a b c d σ4 = some σ5 ∧ g_X9_refused a b c d τ4 = some (a, τ5) ∧ τ4.1 16 = τ3.1 16 ∧ qz_R (qe_si σ5 37 0 0) τ5 := by
      intro τ3 a b c d hD h21 h3
      obtain ⟨σ4, u1, u2, u3, u4, u5, u6⟩ := qj_copy (Or.inr ⟨rfl, rfl⟩) σ2
      obtain ⟨τ4, v1, v2, v3, v4⟩ := qz_pours (a := 3) (b := 1) (by omega) τ3
      obtain ⟨σ5, τ5, x1, x2, x3, x4, x5, x6, x7⟩ := qj_told σ4 τ4 a b c d
      have m3'' : qr_M 3 τ3 ρ := by
        unfold qr_M
        rw [h3]
        exact m3'
      have V4 : qz_V σ4 τ4 := ⟨ρ, w, qz_D_copy w d15' u4 u5 u6, qz_O_copy w o15' u5, qz_M_copy (a := 3) (b := 1) w m3'' v4⟩
      refine ⟨σ4, τ4, σ5, τ5, u1, v1, x1, x2, v3 16 (by omega), qj_fin hR0 (qj_Ct (qj_Ct (qj_Ct C3 ⟨u2, fun k h _ _ _ _ => u3 k (by omega)⟩) ⟨x3, fun k _ _ _ _ h => x4 k h⟩) (z37 σ5)) (qj_Dt (qj_Dt (qj_Dt D3 hD) ⟨by rw [v2], fun k _ h1 _ _ _ _ => v3 k h1, fun j _ _ _ _ => by rw [v3 0 (by omega)]⟩) ⟨by rw [x5], fun k _ _ _ h4 _ _ => x6 k h4, fun j _ _ _ _ => by rw [x6 0 (by omega)]⟩) qn_si_eq (by rw [x6 0 (by omega), v3 0 (by omega)]; exact h21) (qj_V (fun k x y => ?_) (x6 1 (by omega)) V4) (fun i hi => ?_)⟩
      · rw [← x4 k (by omega)]
        funext z
        exact qn_si_k (by omega)
      · rw [← x7 i hi]
        exact qn_si_k (by omega)
    have eC : g_X8_doClauses s' = g_X8_doClauses_L15 qj_kc qj_kf qm_F (nI 0) (nI 0) σ1 := by
      rw [qj_do0, c1, qn_o]
    have eM : g_X9_tells τ = g_X9_tells_L126 qj_km qj_kg qm_F (nI 0) τ1 := by
      rw [em, eK, p1, qn_o]
    rcases alt2 with ⟨y1, y2, y3⟩ | ⟨i, v, hi, y1, y2⟩
    · have y1' : g_X8_doClauses_L15 qj_kc qj_kf qm_F (nI 0) (nI 0) σ1 = qj_kc (nI (m + 1)) σ2 := y1
      rw [y1'] at eC
      rw [y2] at eM
      obtain ⟨ρ', w', dd', oo', mm'⟩ := y3
      obtain ⟨τ3, l1, l2, l3⟩ := qw_lays0 w' mm'
      have p0 := qw_places0 w' dd'
      have D23 : qj_D τ2 τ3 := ⟨by funext y; exact l2.2 18 y (by omega) (by omega), fun k _ _ _ _ h5 _ => l2.1 k h5, fun j _ _ _ _ => by rw [l2.1 0 (by omega)]⟩
      by_cases hP : qw_P ρ' 0 = 0
      · obtain ⟨σ4, τ4, σ5, τ5, u1, v1, x1, x2, _, hR'⟩ := back τ3 (-7) (nI 2) (-7) (-9) D23 (by rw [l2.1 0 (by omega)]; exact n21) (l2.1 3 (by omega))
        refine ⟨-7, _, τ5, fC (-7) σ5 ?_ r1, ?_, hR'⟩
        · rw [eC]
          unfold qj_kc
          rw [p0, qn_b, hP, if_neg (by decide), u1, qn_o, x1, qn_o]
        · rw [eM]
          unfold qj_km
          rw [l1, qn_b, if_pos hP, if_pos rfl, v1, qn_o, x2, qn_b]
      · refine ⟨nI (m + 1), _, τ3, fC (nI (m + 1)) σ2 ?_ r1, ?_, qj_fin hR0 (qj_Ct C3 (z37 σ2)) (qj_Dt D3 D23) qn_si_eq (by rw [l2.1 0 (by omega)]; exact n21) (qj_V (σ := σ2) (τ := τ2) (fun k x y => by funext z; exact qn_si_k (by omega)) (l2.1 1 (by omega)) ⟨ρ', w', dd', oo', mm'⟩) (fun i hi => ?_)⟩
        · rw [eC]
          unfold qj_kc
          rw [p0, qn_b, if_pos ((qw_1le (by have := qw_P_lt ρ' 0; omega)).mpr hP)]
        · rw [eM]
          unfold qj_km
          rw [l1, qn_b, if_neg hP, if_neg qn_10, l2.1 0 (by omega), n25]
        · rw [qn_si_k (by omega), n40, l2.1 4 (by omega), n4]
          exact hW i hi
    · have y1' : g_X8_doClauses_L15 qj_kc qj_kf qm_F (nI 0) (nI 0) σ1 = qj_kf (nI (qi_P (qi_b n T) i)) v σ2 := y1
      rw [y1'] at eC
      rw [y2] at eM
      obtain ⟨σ4, τ4, σ5, τ5, u1, v1, x1, x2, x3, hR'⟩ := back τ2 ((-300 : Int32) - nI (qi_P (qi_b n T) i)) 1 v v ⟨rfl, fun _ _ _ _ _ _ _ => rfl, fun _ _ _ _ _ => rfl⟩ n21 rfl
      have r16 : τ4.1 16 (5 * i) = nI (qi_P (qi_b n T) i) := by
        rw [x3, g2.2 16 (by omega), k1 16 (by omega) (by omega)]
        exact (vV i (Nat.zero_le _) hi).1
      have m0 : nI 5 * nI i = nI (5 * i) := pk_mul 5 i
      refine ⟨(-300 : Int32) - nI (qi_P (qi_b n T) i), _, τ5, fC _ σ5 ?_ r1, ?_, hR'⟩
      · rw [eC]
        unfold qj_kf
        rw [u1, qn_o, x1, qn_o]
      · rw [eM]
        unfold qj_kg
        rw [v1, qn_o, m0, qn_g (by omega) (by omega), qn_l2, nI_clamp (by omega), r16, x2, qn_b]
  · obtain ⟨t2, x, k1, k2⟩ := qj_K2 hn hq t21' A1 hok
    obtain ⟨σ4, τ4, x1, x2, x3, x4, x5, x6, x7⟩ := qj_nos s' (qe_si (qe_si t2 0 25 x) 0 21 0) ((-100 : Int32) - nI q)
    refine ⟨(-100 : Int32) - nI q, qe_si σ4 37 0 0, τ4, ?_, ?_, qj_fin hR0 (qj_Ct (qj_Ct C1 ⟨x3, fun k _ _ _ _ h => x4 k h⟩) (z37 σ4)) (qj_Dt (qj_Dt (qj_Dt D1 ⟨by rw [k2.1], fun k h0 _ _ _ _ _ => k2.2.1 k h0, fun j _ p1 p2 _ => k2.2.2 j p1 p2⟩) (z21 t2 x)) ⟨by rw [x5], fun k _ _ _ h4 _ _ => x6 k h4, fun j _ _ _ _ => by rw [x6 0 (by omega)]⟩) qn_si_eq (by rw [x6 0 (by omega), qn_si_eq]) (qj_V (fun k a b => ?_) ?_ V1) (fun i hi => ?_)⟩
    · unfold g_X8_tells
      rw [qn_j2, ef, qn_b, rq, if_neg (nI_pos (by omega)), x1, qn_b]
      dsimp only
      rw [qn_l2]
    · rw [em, k1, x2, qn_b]
    · rw [← x4 k (by omega)]
      funext z
      exact qn_si_k (by omega)
    · rw [x6 1 (by omega)]
      funext y
      rw [qn_si_k (by omega), qn_si_k (by omega), k2.2.1 1 (by omega)]
    · rw [← x7 i hi]
      exact qn_si_k (by omega)
