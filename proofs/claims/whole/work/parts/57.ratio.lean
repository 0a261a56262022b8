/-! RATIOS: both leave the longs at the same step -/
def qh_p (a b : Int64) : Bool := if a = 0 then false else if a = -1 then decide (b = -9223372036854775808) else decide (¬ a * b / a = b)
def qh_s (l r : Int64) : Bool := (l.toBitVec.msb == r.toBitVec.msb) && ((l + r).toBitVec.msb != l.toBitVec.msb)
def qh_r (a b : Int64) : Int64 × Int64 := (a / qg_d a b, b / qg_d a b)
def qh_add (t : Int64 × Int64 × Bool) (c d : Int64) : Int64 × Int64 × Bool := if (t.2.2 || qh_p t.1 d || qh_p c t.2.1 || qh_p t.2.1 d || qh_s (t.1 * d) (c * t.2.1)) = true then (t.1, t.2.1, true) else ((qh_r (t.1 * d + c * t.2.1) (t.2.1 * d)).1, (qh_r (t.1 * d + c * t.2.1) (t.2.1 * d)).2, false)
def qh_tim (t : Int64 × Int64 × Bool) (c d : Int64) : Int64 × Int64 × Bool := if (t.2.2 || qh_p t.1 c || qh_p t.2.1 d) = true then (t.1, t.2.1, true) else ((qh_r (t.1 * c) (t.2.1 * d)).1, (qh_r (t.1 * c) (t.2.1 * d)).2, false)
theorem qh_m1 (b : Int64) : (-1 : Int64) * b / (-1) = b := by
  have hb := qg_rng b
  apply Int64.toInt_inj.mp
  have m1 : (-1 : Int64).toInt = -1 := by decide
  by_cases c : b.toInt = -9223372036854775808
  · have e : b = -9223372036854775808 := Int64.toInt_inj.mp (by rw [c]; decide)
    rw [e]
    decide
  · have p : ((-1 : Int64) * b).toInt = -b.toInt := by
      rw [qg_mul (by rw [m1]; omega) (by rw [m1]; omega), m1]
      omega
    rw [Int64.toInt_div, p, m1, Int.tdiv_neg, Int.tdiv_one, Int.neg_neg]
    exact qg_bm hb.1 hb.2
theorem qh_fits (a b : Int64) (σ : qe_S) : g_X0_productFits a b σ = some (if qh_p a b then 0 else 1, σ) := by
  unfold g_X0_productFits qh_p
  simp only [qn_j2]
  by_cases h0 : a = 0
  · simp [h0]
  · by_cases h1 : a = -1
    · by_cases h2 : b = -9223372036854775808
      · simp [h1, h2]
      · simp [h1, h2]
    · rw [if_neg h0, if_neg h1, qn_zl h0, if_neg h0, if_neg h1]
      by_cases h2 : a * b / a = b
      · rw [if_pos h2]; simp [h2]
      · rw [if_neg h2]; simp [h2]
def qh_fl (b : Bool) (τ : qe_S) : qe_S := if b then qe_si τ 0 19 1 else τ
theorem qh_prod (a b : Int64) (τ : qe_S) : g_X9_product a b τ = some (a * b, qh_fl (qh_p a b) τ) := by
  unfold g_X9_product qh_p qh_fl
  simp only [qn_j2, qn_l2]
  by_cases h0 : a = 0
  · simp [h0]
  · rw [if_neg h0, if_neg h0, qn_zl h0]
    by_cases h1 : a = -1
    · rw [h1, qh_m1, if_pos rfl, if_pos rfl]
      by_cases h2 : b = -9223372036854775808
      · simp [h2]
      · simp [h2]
    · rw [if_neg h1]
      by_cases h2 : a * b / a = b
      · rw [if_pos h2, if_neg h1]; simp [h2]
      · rw [if_neg h2]; simp [h1, h2]
theorem qh_neg (x : Int64) : x < 0 ↔ x.toBitVec.msb = true := by
  rw [Int64.lt_iff_toInt_lt, Int64.toInt_zero, BitVec.msb_eq_toInt, decide_eq_true_eq]
  exact Iff.rfl
theorem qh_pos (x : Int64) : 0 ≤ x ↔ x.toBitVec.msb = false := by
  rw [← Int64.not_lt, qh_neg]
  cases x.toBitVec.msb <;> simp
theorem qh_sumC (l r : Int64) : ((l ^^^ (l + r)) &&& (r ^^^ (l + r))) < 0 ↔ qh_s l r = true := by
  rw [qh_neg, Int64.toBitVec_and, Int64.toBitVec_xor, Int64.toBitVec_xor, BitVec.msb_and, BitVec.msb_xor, BitVec.msb_xor]
  unfold qh_s
  cases l.toBitVec.msb <;> cases r.toBitVec.msb <;> cases (l + r).toBitVec.msb <;> decide
theorem qh_sumM (l r : Int64) (τ : qe_S) : g_X9_sum l r τ = some (l + r, qh_fl (qh_s l r) τ) := by
  unfold g_X9_sum qh_s qh_fl
  simp only [qn_j2, qn_l2, qh_pos]
  cases l.toBitVec.msb <;> cases r.toBitVec.msb <;> cases (l + r).toBitVec.msb <;> simp
def qh_on (o : Nat) (σ σ' : qe_S) : Prop := ∀ k, k ≠ o → σ'.1 k = σ.1 k ∧ σ'.2 k = σ.2 k
theorem qh_on_t {o : Nat} {a b c : qe_S} (h : qh_on o a b) (g : qh_on o b c) : qh_on o a c := fun k p => ⟨(g k p).1.trans (h k p).1, (g k p).2.trans (h k p).2⟩
theorem qh_on_i {o : Nat} (σ : qe_S) (j : Nat) (x : Int32) : qh_on o σ (qe_si σ o j x) := fun k p => ⟨by funext i; exact qn_si_k p, rfl⟩
theorem qh_on_l {o : Nat} (σ : qe_S) (j : Nat) (x : Int64) : qh_on o σ (qe_sl σ o j x) := fun k p => ⟨rfl, by funext i; exact qn_sl_k p⟩
theorem qh_red (o : Nat) (a b : Int64) (σ : qe_S) : g_X0_reduce o a b σ = some (qe_sl (qe_sl σ o 0 (if qg_d a b ≤ 1 then a else a / qg_d a b)) o 1 (if qg_d a b ≤ 1 then b else b / qg_d a b)) := by
  unfold g_X0_reduce
  simp only [qn_l2, qn_j2, qg_gcd, qn_b]
  by_cases c : qg_d a b ≤ 1
  · simp only [if_pos c]
  · have z : ¬ qg_d a b = 0 := fun z => c (by rw [z]; decide)
    simp only [if_neg c, qn_zl z]
theorem qh_red0 {a b : Int64} (h : 0 < b.toInt) : (if qg_d a b ≤ 1 then a else a / qg_d a b) = (qh_r a b).1 ∧ (if qg_d a b ≤ 1 then b else b / qg_d a b) = (qh_r a b).2 := by
  unfold qh_r
  by_cases c : qg_d a b ≤ 1
  · rw [if_pos c, if_pos c, qg_one h c, qg_div1, qg_div1]
    exact ⟨rfl, rfl⟩
  · rw [if_neg c, if_neg c]
    exact ⟨rfl, rfl⟩
theorem qh_r_pos {a b : Int64} (h : 0 < b.toInt) : 0 < (qh_r a b).2.toInt := by
  have g := qg_d_pos (x := a) h
  have hb := qg_rng b
  have hx : qg_d a b ≠ -1 := fun z => by rw [z, show (-1 : Int64).toInt = -1 by decide] at g; omega
  show 0 < (b / qg_d a b).toInt
  rw [Int64.toInt_div_of_ne_right _ _ hx, Int.tdiv_eq_ediv_of_nonneg (by omega)]
  have : 1 ≤ b.toInt / (qg_d a b).toInt := Int.le_ediv_of_mul_le (by omega) (by omega)
  omega
theorem qh_p_pos {a b : Int64} (ha : 0 < a.toInt) (hb : 0 < b.toInt) (h : qh_p a b = false) : 0 < (a * b).toInt := by
  have a0 : a ≠ 0 := fun z => by rw [qg_eq0] at z; omega
  have a1 : a ≠ -1 := fun z => by rw [z, show (-1 : Int64).toInt = -1 by decide] at ha; omega
  unfold qh_p at h
  rw [if_neg a0, if_neg a1] at h
  have e : a * b / a = b := by simpa using h
  have e2 : (a * b).toInt.tdiv a.toInt = b.toInt := by rw [← Int64.toInt_div_of_ne_right _ _ a1, e]
  apply Int.lt_of_not_ge
  intro z
  have n : 0 ≤ (-(a * b).toInt).tdiv a.toInt := Int.tdiv_nonneg (by omega) (by omega)
  rw [Int.neg_tdiv, e2] at n
  omega
def qh_C (o : Nat) (σ : qe_S) (t : Int64 × Int64 × Bool) : Prop := σ.1 o 2 = (if t.2.2 then 1 else 0) ∧ (t.2.2 = false → σ.2 o 0 = t.1 ∧ σ.2 o 1 = t.2.1 ∧ 0 < t.2.1.toInt)
def qh_M (τ : qe_S) (t : Int64 × Int64 × Bool) : Prop := τ.1 0 19 = (if t.2.2 then 1 else 0) ∧ (t.2.2 = false → τ.2 0 17 = t.1 ∧ τ.2 0 18 = t.2.1 ∧ 0 < t.2.1.toInt)
theorem qh_if {b : Bool} {α : Type} {A B : α} : (if (if b then (0 : Int32) else 1) = 0 then A else B) = if b then A else B := by
  cases b <;> simp
theorem qh_addC {o : Nat} {σ : qe_S} {t : Int64 × Int64 × Bool} {c d : Int64} (h : qh_C o σ t) (hd : 0 < d.toInt) : ∃ σ', g_X0_add o c d σ = some σ' ∧ qh_on o σ σ' ∧ qh_C o σ' (qh_add t c d) := by
  obtain ⟨h1, h2⟩ := h
  have bad : qh_C o (qe_si σ o 2 1) (t.1, t.2.1, true) := ⟨by rw [qn_si_eq]; rfl, fun z => by cases z⟩
  by_cases ov : (qh_p (σ.2 o 0) d || qh_p c (σ.2 o 1) || qh_p (σ.2 o 1) d || qh_s (σ.2 o 0 * d) (c * σ.2 o 1)) = true
  · have ad : qh_add t c d = (t.1, t.2.1, true) := by
      unfold qh_add
      apply if_pos
      cases ht : t.2.2 with
      | true => simp
      | false =>
        obtain ⟨e1, e2, _⟩ := h2 ht
        rw [e1, e2] at ov
        simpa using ov
    refine ⟨qe_si σ o 2 1, ?_, qh_on_i σ 2 1, by rw [ad]; exact bad⟩
    unfold g_X0_add
    simp only [qn_j2, qn_l2, qh_fits, qn_b, qh_if]
    by_cases p1 : qh_p (σ.2 o 0) d = true
    · simp [p1]
    · by_cases p2 : qh_p c (σ.2 o 1) = true
      · simp [p2]
      · by_cases p3 : qh_p (σ.2 o 1) d = true
        · simp [p3]
        · have p4 : qh_s (σ.2 o 0 * d) (c * σ.2 o 1) = true := by simpa [p1, p2, p3] using ov
          rw [if_pos ((qh_sumC _ _).mpr p4), if_neg p1, if_neg p2, if_neg p3, if_pos trivial]
  · have p1 : qh_p (σ.2 o 0) d = false := by cases z : qh_p (σ.2 o 0) d <;> simp [z] at ov ⊢
    have p2 : qh_p c (σ.2 o 1) = false := by cases z : qh_p c (σ.2 o 1) <;> simp [z] at ov ⊢
    have p3 : qh_p (σ.2 o 1) d = false := by cases z : qh_p (σ.2 o 1) d <;> simp [z] at ov ⊢
    have p4 : qh_s (σ.2 o 0 * d) (c * σ.2 o 1) = false := by cases z : qh_s (σ.2 o 0 * d) (c * σ.2 o 1) <;> simp [z] at ov ⊢
    have n4 : ¬ ((σ.2 o 0 * d ^^^ (σ.2 o 0 * d + c * σ.2 o 1)) &&& (c * σ.2 o 1 ^^^ (σ.2 o 0 * d + c * σ.2 o 1))) < 0 := fun z => by
      have := (qh_sumC _ _).mp z
      rw [p4] at this
      cases this
    refine ⟨qe_sl (qe_sl σ o 0 (if qg_d (σ.2 o 0 * d + c * σ.2 o 1) (σ.2 o 1 * d) ≤ 1 then (σ.2 o 0 * d + c * σ.2 o 1) else (σ.2 o 0 * d + c * σ.2 o 1) / qg_d (σ.2 o 0 * d + c * σ.2 o 1) (σ.2 o 1 * d))) o 1 (if qg_d (σ.2 o 0 * d + c * σ.2 o 1) (σ.2 o 1 * d) ≤ 1 then (σ.2 o 1 * d) else (σ.2 o 1 * d) / qg_d (σ.2 o 0 * d + c * σ.2 o 1) (σ.2 o 1 * d)), ?_, qh_on_t (qh_on_l σ 0 _) (qh_on_l _ 1 _), ?_⟩
    · unfold g_X0_add
      simp only [qn_j2, qn_l2, qh_fits, qn_b, qh_if]
      rw [if_neg n4]
      simp only [p1, p2, p3, qh_red, qn_o]
      rfl
    · cases ht : t.2.2 with
      | true =>
        have ad : qh_add t c d = (t.1, t.2.1, true) := by
          unfold qh_add
          apply if_pos
          simp [ht]
        rw [ad]
        rw [ht] at h1
        exact ⟨h1, fun z => by cases z⟩
      | false =>
        obtain ⟨e1, e2, e3⟩ := h2 ht
        rw [ht] at h1
        rw [e1, e2] at p4
        rw [e1] at p1
        rw [e2] at p2 p3
        rw [e1, e2]
        have ad : qh_add t c d = ((qh_r (t.1 * d + c * t.2.1) (t.2.1 * d)).1, (qh_r (t.1 * d + c * t.2.1) (t.2.1 * d)).2, false) := by
          unfold qh_add
          apply if_neg
          simp [ht, p1, p2, p3, p4]
        have pos := qh_p_pos e3 hd p3
        obtain ⟨r1, r2⟩ := qh_red0 (a := t.1 * d + c * t.2.1) pos
        rw [ad, r1, r2]
        refine ⟨h1, fun _ => ⟨?_, ?_, qh_r_pos pos⟩⟩
        · rw [qn_sl_j (by omega), qn_sl_eq]
        · rw [qn_sl_eq]
theorem qh_timC {σ : qe_S} {t : Int64 × Int64 × Bool} {c d : Int64} (h : qh_C 33 σ t) (hd : t.2.2 = false → 0 < d.toInt) : ∃ σ', g_X0_times c d σ = some σ' ∧ qh_on 33 σ σ' ∧ qh_C 33 σ' (qh_tim t c d) := by
  obtain ⟨h1, h2⟩ := h
  have bad : qh_C 33 (qe_si σ 33 2 1) (t.1, t.2.1, true) := ⟨by rw [qn_si_eq]; rfl, fun z => by cases z⟩
  by_cases ov : (qh_p (σ.2 33 0) c || qh_p (σ.2 33 1) d) = true
  · have ad : qh_tim t c d = (t.1, t.2.1, true) := by
      unfold qh_tim
      apply if_pos
      cases ht : t.2.2 with
      | true => simp
      | false =>
        obtain ⟨e1, e2, _⟩ := h2 ht
        rw [e1, e2] at ov
        simpa using ov
    refine ⟨qe_si σ 33 2 1, ?_, qh_on_i σ 2 1, by rw [ad]; exact bad⟩
    unfold g_X0_times
    simp only [qn_j2, qn_l2, qh_fits, qn_b, qh_if]
    by_cases p1 : qh_p (σ.2 33 0) c = true
    · simp [p1]
    · have p2 : qh_p (σ.2 33 1) d = true := by simpa [p1] using ov
      rw [if_neg p1, if_pos p2]
  · have p1 : qh_p (σ.2 33 0) c = false := by cases z : qh_p (σ.2 33 0) c <;> simp [z] at ov ⊢
    have p2 : qh_p (σ.2 33 1) d = false := by cases z : qh_p (σ.2 33 1) d <;> simp [z] at ov ⊢
    refine ⟨qe_sl (qe_sl σ 33 0 (if qg_d (σ.2 33 0 * c) (σ.2 33 1 * d) ≤ 1 then (σ.2 33 0 * c) else (σ.2 33 0 * c) / qg_d (σ.2 33 0 * c) (σ.2 33 1 * d))) 33 1 (if qg_d (σ.2 33 0 * c) (σ.2 33 1 * d) ≤ 1 then (σ.2 33 1 * d) else (σ.2 33 1 * d) / qg_d (σ.2 33 0 * c) (σ.2 33 1 * d)), ?_, qh_on_t (qh_on_l σ 0 _) (qh_on_l _ 1 _), ?_⟩
    · unfold g_X0_times
      simp only [qn_j2, qn_l2, qh_fits, qn_b, qh_if]
      simp only [p1, p2, qh_red, qn_o]
      rfl
    · cases ht : t.2.2 with
      | true =>
        have ad : qh_tim t c d = (t.1, t.2.1, true) := by
          unfold qh_tim
          apply if_pos
          simp [ht]
        rw [ad]
        rw [ht] at h1
        exact ⟨h1, fun z => by cases z⟩
      | false =>
        obtain ⟨e1, e2, e3⟩ := h2 ht
        rw [ht] at h1
        rw [e1] at p1
        rw [e2] at p2
        rw [e1, e2]
        have ad : qh_tim t c d = ((qh_r (t.1 * c) (t.2.1 * d)).1, (qh_r (t.1 * c) (t.2.1 * d)).2, false) := by
          unfold qh_tim
          apply if_neg
          simp [ht, p1, p2]
        have pos := qh_p_pos e3 (hd ht) p2
        obtain ⟨r1, r2⟩ := qh_red0 (a := t.1 * c) pos
        rw [ad, r1, r2]
        refine ⟨h1, fun _ => ⟨?_, ?_, qh_r_pos pos⟩⟩
        · rw [qn_sl_j (by omega), qn_sl_eq]
        · rw [qn_sl_eq]
-- the reference's
def qh_mf (τ τ' : qe_S) : Prop := (∀ k, k ≠ 0 → τ'.1 k = τ.1 k ∧ τ'.2 k = τ.2 k) ∧ (∀ j, j ≠ 19 → τ'.1 0 j = τ.1 0 j) ∧ (∀ j, j ≠ 17 → j ≠ 18 → τ'.2 0 j = τ.2 0 j)
theorem qh_mf_t {a b c : qe_S} (h : qh_mf a b) (g : qh_mf b c) : qh_mf a c := ⟨fun k p => ⟨(g.1 k p).1.trans (h.1 k p).1, (g.1 k p).2.trans (h.1 k p).2⟩, fun j p => (g.2.1 j p).trans (h.2.1 j p), fun j p q => (g.2.2 j p q).trans (h.2.2 j p q)⟩
theorem qh_mf_r (τ : qe_S) : qh_mf τ τ := ⟨fun _ _ => ⟨rfl, rfl⟩, fun _ _ => rfl, fun _ _ _ => rfl⟩
theorem qh_mf_i (τ : qe_S) (x : Int32) : qh_mf τ (qe_si τ 0 19 x) := ⟨fun k p => ⟨by funext i; exact qn_si_k p, rfl⟩, fun j p => qn_si_j p, fun _ _ _ => rfl⟩
theorem qh_mf_l (τ : qe_S) (j : Nat) (x : Int64) (h : j = 17 ∨ j = 18) : qh_mf τ (qe_sl τ 0 j x) := ⟨fun k p => ⟨rfl, by funext i; exact qn_sl_k p⟩, fun _ _ => rfl, fun i p q => qn_sl_j (by omega)⟩
theorem qh_fl_mf (b : Bool) (τ : qe_S) : qh_mf τ (qh_fl b τ) := by
  cases b
  · exact qh_mf_r τ
  · exact qh_mf_i τ 1
theorem qh_fl_v (b : Bool) (τ : qe_S) : (qh_fl b τ).1 0 19 = if b then 1 else τ.1 0 19 := by
  cases b
  · rfl
  · exact qn_si_eq
theorem qh_is {x z : Int64} {τ : qe_S} {ov : Bool} (hf : τ.1 0 19 = if ov then 1 else 0) (hz : ov = false → 0 < z.toInt) : ∃ τ', g_X9_is x z τ = some τ' ∧ qh_mf τ τ' ∧ τ'.1 0 19 = (if ov then 1 else 0) ∧ (ov = false → τ'.2 0 17 = (qh_r x z).1 ∧ τ'.2 0 18 = (qh_r x z).2) := by
  unfold g_X9_is
  cases ov with
  | true =>
    rw [hf, if_neg (by decide)]
    exact ⟨τ, rfl, qh_mf_r τ, hf, fun z => by cases z⟩
  | false =>
    have nz := qg_d_ne (x := x) (hz rfl)
    rw [hf, if_pos (by decide), qg_div, qn_b, qn_zl nz, qn_l, qn_zl nz, qn_l]
    refine ⟨_, rfl, qh_mf_t (qh_mf_l τ 17 _ (Or.inl rfl)) (qh_mf_l _ 18 _ (Or.inr rfl)), hf, fun _ => ⟨?_, ?_⟩⟩
    · rw [qn_sl_j (by omega), qn_sl_eq]; rfl
    · rw [qn_sl_eq]; rfl
theorem qh_addM {a b c d : Int64} {ov : Bool} {τ : qe_S} (hf : τ.1 0 19 = if ov then 1 else 0) (hp : ov = false → 0 < b.toInt ∧ 0 < d.toInt) : ∃ τ', g_X9_adds a b c d τ = some τ' ∧ qh_mf τ τ' ∧ qh_M τ' (qh_add (a, b, ov) c d) := by
  have f5 : (qh_fl (qh_s (a * d) (c * b)) (qh_fl (qh_p b d) (qh_fl (qh_p c b) (qh_fl (qh_p a d) τ)))).1 0 19 = if (ov || qh_p a d || qh_p c b || qh_p b d || qh_s (a * d) (c * b)) then 1 else 0 := by
    rw [qh_fl_v, qh_fl_v, qh_fl_v, qh_fl_v, hf]
    cases ov <;> cases qh_p a d <;> cases qh_p c b <;> cases qh_p b d <;> cases qh_s (a * d) (c * b) <;> rfl
  obtain ⟨τ', e1, e2, e3, e4⟩ := qh_is (x := a * d + c * b) (z := b * d) f5 (fun z => by
    have o1 : ov = false := by cases h : ov <;> simp [h] at z ⊢
    have o2 : qh_p b d = false := by cases h : qh_p b d <;> simp [h] at z ⊢
    exact qh_p_pos (hp o1).1 (hp o1).2 o2)
  refine ⟨τ', ?_, qh_mf_t (qh_mf_t (qh_mf_t (qh_mf_t (qh_fl_mf _ τ) (qh_fl_mf _ _)) (qh_fl_mf _ _)) (qh_fl_mf _ _)) e2, ?_⟩
  · unfold g_X9_adds
    rw [qh_prod, qn_b, qh_prod, qn_b, qh_prod, qn_b, qh_sumM, qn_b, e1, qn_o]
  · unfold qh_add
    by_cases z : (ov || qh_p a d || qh_p c b || qh_p b d || qh_s (a * d) (c * b)) = true
    · rw [if_pos z]
      rw [if_pos z] at e3
      exact ⟨e3, fun y => by cases y⟩
    · have z' : (ov || qh_p a d || qh_p c b || qh_p b d || qh_s (a * d) (c * b)) = false := by simpa using z
      have o1 : ov = false := by cases h : ov <;> simp [h] at z' ⊢
      have o2 : qh_p b d = false := by cases h : qh_p b d <;> simp [h] at z' ⊢
      rw [if_neg z]
      rw [if_neg z] at e3
      exact ⟨e3, fun _ => ⟨(e4 z').1, (e4 z').2, qh_r_pos (qh_p_pos (hp o1).1 (hp o1).2 o2)⟩⟩
theorem qh_timM {a b c d : Int64} {ov : Bool} {τ : qe_S} (hf : τ.1 0 19 = if ov then 1 else 0) (hp : ov = false → 0 < b.toInt ∧ 0 < d.toInt) : ∃ τ', g_X9_times a b c d τ = some τ' ∧ qh_mf τ τ' ∧ qh_M τ' (qh_tim (a, b, ov) c d) := by
  have f5 : (qh_fl (qh_p b d) (qh_fl (qh_p a c) τ)).1 0 19 = if (ov || qh_p a c || qh_p b d) then 1 else 0 := by
    rw [qh_fl_v, qh_fl_v, hf]
    cases ov <;> cases qh_p a c <;> cases qh_p b d <;> rfl
  obtain ⟨τ', e1, e2, e3, e4⟩ := qh_is (x := a * c) (z := b * d) f5 (fun z => by
    have o1 : ov = false := by cases h : ov <;> simp [h] at z ⊢
    have o2 : qh_p b d = false := by cases h : qh_p b d <;> simp [h] at z ⊢
    exact qh_p_pos (hp o1).1 (hp o1).2 o2)
  refine ⟨τ', ?_, qh_mf_t (qh_mf_t (qh_fl_mf _ τ) (qh_fl_mf _ _)) e2, ?_⟩
  · unfold g_X9_times
    rw [qh_prod, qn_b, qh_prod, qn_b, e1, qn_o]
  · unfold qh_tim
    by_cases z : (ov || qh_p a c || qh_p b d) = true
    · rw [if_pos z]
      rw [if_pos z] at e3
      exact ⟨e3, fun y => by cases y⟩
    · have z' : (ov || qh_p a c || qh_p b d) = false := by simpa using z
      have o1 : ov = false := by cases h : ov <;> simp [h] at z' ⊢
      have o2 : qh_p b d = false := by cases h : qh_p b d <;> simp [h] at z' ⊢
      rw [if_neg z]
      rw [if_neg z] at e3
      exact ⟨e3, fun _ => ⟨(e4 z').1, (e4 z').2, qh_r_pos (qh_p_pos (hp o1).1 (hp o1).2 o2)⟩⟩
