/-! REPLACED: who comes for whom -/
def qf_find (ρ : qr_R) (bar k : Nat) (mn : Bool) : Nat → Option Nat
  | 0 => none
  | q + 1 => if (! bar.testBit (qr_t ρ ((k + (qr_N ρ - (q + 1))) % qr_N ρ)) && (! mn || decide (qr_s ρ (qr_t ρ ((k + (qr_N ρ - (q + 1))) % qr_N ρ)) = qr_s ρ (qr_t ρ k)))) = true then some (qr_t ρ ((k + (qr_N ρ - (q + 1))) % qr_N ρ)) else qf_find ρ bar k mn q
def qf_o (d : Int32) (o : Option Nat) : Int32 := match o with
  | some v => nI v
  | none => d
def qf_a (T : Nat) (o : Option Nat) : Nat := match o with
  | some v => T ||| 2 ^ v
  | none => T
abbrev qf_R (ρ : qr_R) : Nat := qb_s (qr_f ρ) (qr_N ρ)
def qf_T (ρ : qr_R) (B : Nat) (mn : Bool) : Nat → Nat
  | 0 => 0
  | j + 1 => if (qr_f ρ (qr_t ρ j) && B.testBit (qr_t ρ j)) = true then qf_a (qf_T ρ B mn j) (qf_find ρ (B ||| qf_R ρ ||| qf_T ρ B mn j) j mn (qr_N ρ - 1)) else qf_T ρ B mn j
def qf_u (ρ : qr_R) (B : Nat) (mn : Bool) (j : Nat) : Option Nat := qf_find ρ (B ||| qf_R ρ ||| qf_T ρ B mn j) j mn (qr_N ρ - 1)
theorem qf_find_lt {ρ : qr_R} (w : qr_wf ρ) {bar k : Nat} {mn : Bool} (hN : 0 < qr_N ρ) : ∀ (q v : Nat), qf_find ρ bar k mn q = some v → v < qr_N ρ := by
  intro q
  induction q with
  | zero => intro v h; cases h
  | succ q ih =>
    intro v h
    simp only [qf_find] at h
    split at h
    · cases h
      exact qr_t_lt w (Nat.mod_lt _ hN)
    · exact ih v h
theorem qf_or_lt {a b n : Nat} (ha : a < 2 ^ n) (hb : b < 2 ^ n) : (a ||| b) < 2 ^ n := Nat.or_lt_two_pow ha hb
theorem qf_T_lt {ρ : qr_R} (w : qr_wf ρ) {B : Nat} {mn : Bool} : ∀ j, j ≤ qr_N ρ → qf_T ρ B mn j < 2 ^ qr_N ρ := by
  intro j
  induction j with
  | zero => intro _; exact Nat.two_pow_pos _
  | succ j ih =>
    intro hj
    have h := ih (by omega)
    simp only [qf_T]
    split
    · cases hf : qf_find ρ (B ||| qf_R ρ ||| qf_T ρ B mn j) j mn (qr_N ρ - 1) with
      | none => exact h
      | some v =>
        have lt := qf_find_lt w (by omega) _ v hf
        exact qf_or_lt h (Nat.pow_lt_pow_right (by omega) lt)
    · exact h
theorem qf_12 {a N : Nat} (h : a < 2 ^ N) (hN : N ≤ 12) : a < 4096 := Nat.lt_of_lt_of_le h (Nat.pow_le_pow_right (show 0 < 2 by omega) hN)
theorem qf_stratumAt {σ : qe_S} {ρ : qr_R} (w : qr_wf ρ) (d : qr_D 1 σ ρ) (o : qr_O 1 σ ρ) {j : Nat} (hj : j < qr_N ρ) : g_X3_stratumAt (nI j) σ = some (qr_s ρ (qr_t ρ j), σ) := by
  have hN := w.1
  have tl := qr_t_lt w hj
  have sv : σ.1 2 (qr_t ρ j) = qr_s ρ (qr_t ρ j) := (d.2.2.2.1 _ tl).1
  unfold g_X3_stratumAt
  rw [qw_unitAt w d o hj, qn_b, qr_has1 d.1 hN tl, qn_b, if_neg qn_10, qn_g (by omega) (by omega), qn_l, nI_clamp (by omega), sv]
theorem qf_fbL {σ : qe_S} {ρ : qr_R} (w : qr_wf ρ) (d : qr_D 1 σ ρ) (o : qr_O 1 σ ρ) {bar k : Nat} {mn : Bool} {mv : Int32} (hb : bar < 4096) (hk : k < qr_N ρ) (hm : mv = if mn then 1 else 0) : ∀ (q n : Nat), q < qr_N ρ → q < n → g_X2_firstBehind_L10 (nI k) (nI bar) mv (qr_s ρ (qr_t ρ k)) n (nI (qr_N ρ - q)) σ = some (qf_o (-1) (qf_find ρ bar k mn q), σ) := by
  have hN := w.1
  intro q
  induction q with
  | zero =>
    intro n _ hn
    obtain ⟨n, rfl⟩ : ∃ m, n = m + 1 := ⟨n - 1, by omega⟩
    simp only [g_X2_firstBehind_L10]
    rw [d.1, if_pos (nI_le (by omega) (by omega))]
    rfl
  | succ q ih =>
    intro n hq hn
    obtain ⟨n, rfl⟩ : ∃ m, n = m + 1 := ⟨n - 1, by omega⟩
    have ih' := ih n (by omega) (by omega)
    have lt := Nat.mod_lt (k + (qr_N ρ - (q + 1))) (show 0 < qr_N ρ by omega)
    have tl := qr_t_lt w lt
    simp only [g_X2_firstBehind_L10, qn_j, qn_l, qf_find]
    rw [d.1, if_neg (nI_ge (by omega) (by omega)), qn_z (nI_ne0 (by omega) (by omega)), nI_add, qk_irI (by omega) (by omega) (by omega), qw_unitAt w d o lt, qn_b, qz_isIn hb (by omega), qn_b, qn_if0, qf_stratumAt w d o lt, qn_b, nI_1, show qr_N ρ - (q + 1) + 1 = qr_N ρ - q by omega, ih']
    by_cases c1 : bar.testBit (qr_t ρ ((k + (qr_N ρ - (q + 1))) % qr_N ρ)) = true
    · rw [if_pos c1, if_neg (by simp [c1])]
    · rw [if_neg c1]
      cases mn with
      | false =>
        rw [if_pos (show mv = 0 from hm), if_pos (by simp [c1])]
        rfl
      | true =>
        have m1 : mv = 1 := hm
        rw [if_neg (show ¬ mv = 0 by rw [m1]; exact qn_10)]
        by_cases c2 : qr_s ρ (qr_t ρ ((k + (qr_N ρ - (q + 1))) % qr_N ρ)) = qr_s ρ (qr_t ρ k)
        · rw [if_pos c2, if_pos (by simp [c1, c2])]
          rfl
        · rw [if_neg c2, if_neg (by simp [c2])]
theorem qf_fb {σ : qe_S} {ρ : qr_R} (w : qr_wf ρ) (d : qr_D 1 σ ρ) (o : qr_O 1 σ ρ) {bar k : Nat} {mn : Bool} {mv : Int32} (hb : bar < 4096) (hk : k < qr_N ρ) (hm : mv = if mn then 1 else 0) : g_X2_firstBehind (nI k) (nI bar) mv σ = some (qf_o (-1) (qf_find ρ bar k mn (qr_N ρ - 1)), σ) := by
  have hN := w.1
  have h := qf_fbL w d o hb hk hm (qr_N ρ - 1) qm_F (by omega) (by rw [qn_F]; omega)
  rw [show qr_N ρ - (qr_N ρ - 1) = 1 by omega] at h
  unfold g_X2_firstBehind
  rw [qf_stratumAt w d o hk, qn_b, qn_l]
  exact h
def qf_E (ρ : qr_R) (B : Nat) (mn : Bool) : Nat := qb_s (fun x => B.testBit x && ! qr_f ρ x) (qr_N ρ) ||| qf_T ρ B mn (qr_N ρ)
theorem qf_E_lt {ρ : qr_R} (w : qr_wf ρ) (B : Nat) (mn : Bool) : qf_E ρ B mn < 4096 := qf_12 (qf_or_lt (qb_lt _ _) (qf_T_lt w _ (Nat.le_refl _))) w.1
theorem qf_and {ρ : qr_R} (w : qr_wf ρ) {B : Nat} (hB : B < 2 ^ qr_N ρ) : nI B &&& (nI (qf_R ρ) ^^^ (-1)) = nI (qb_s (fun x => B.testBit x && ! qr_f ρ x) (qr_N ρ)) := by
  have hN := w.1
  have e1 : (-1 : Int32).toBitVec = BitVec.allOnes 32 := by decide
  apply nI_inj32
  simp only [Int32.toBitVec_and, Int32.toBitVec_xor, nI_tb, e1]
  apply BitVec.eq_of_getLsbD_eq
  intro i hi
  simp only [BitVec.getLsbD_and, BitVec.getLsbD_xor, BitVec.getLsbD_ofNat, BitVec.getLsbD_allOnes, qb_bit]
  by_cases h : i < qr_N ρ
  · simp [hi, h]
  · have z : B.testBit i = false := Nat.testBit_lt_two_pow (Nat.lt_of_lt_of_le hB (Nat.pow_le_pow_right (show 0 < 2 by omega) (by omega)))
    simp [hi, h, z]
def qf_cf (σ σ' : qe_S) : Prop := (∀ a, a ≠ 35 → a ≠ 36 → σ'.1 a = σ.1 a) ∧ σ'.2 = σ.2
theorem qf_D {σ σ' : qe_S} {ρ : qr_R} (h : qf_cf σ σ') (d : qr_D 1 σ ρ) : qr_D 1 σ' ρ := by
  unfold qr_D
  rw [h.1 1 (by omega) (by omega), h.1 (1 + 1) (by omega) (by omega), h.1 (1 + 2) (by omega) (by omega), h.1 (1 + 3) (by omega) (by omega), h.1 (1 + 5) (by omega) (by omega), h.1 (1 + 6) (by omega) (by omega)]
  exact d
theorem qf_O {σ σ' : qe_S} {ρ : qr_R} (h : qf_cf σ σ') (o : qr_O 1 σ ρ) : qr_O 1 σ' ρ := by
  unfold qr_O
  rw [h.1 (1 + 4) (by omega) (by omega)]
  exact o
theorem qf_settleL {ρ : qr_R} (w : qr_wf ρ) {B : Nat} {mn : Bool} {mv : Int32} (hB : B < 2 ^ qr_N ρ) (hm : mv = if mn then 1 else 0) {σ : qe_S} (d : qr_D 1 σ ρ) (o : qr_O 1 σ ρ) (K : Int32 → qe_S → Option qe_S) : ∀ (q j n : Nat) (s : qe_S), j + q = qr_N ρ → q < n → qf_cf σ s → (∀ i, i < j → (qr_f ρ (qr_t ρ i) && B.testBit (qr_t ρ i)) = true → s.1 36 (qr_t ρ i) = qf_o (-1) (qf_u ρ B mn i)) → ∃ s', g_X2_settle_L6 K (nI B) mv n (nI (qf_T ρ B mn j)) (nI j) s = K (nI (qf_T ρ B mn (qr_N ρ))) s' ∧ qf_cf σ s' ∧ (∀ i, i < qr_N ρ → (qr_f ρ (qr_t ρ i) && B.testBit (qr_t ρ i)) = true → s'.1 36 (qr_t ρ i) = qf_o (-1) (qf_u ρ B mn i)) := by
  have hN := w.1
  intro q
  induction q with
  | zero =>
    intro j n s hj hn hc hv
    obtain ⟨n, rfl⟩ : ∃ m, n = m + 1 := ⟨n - 1, by omega⟩
    obtain rfl : j = qr_N ρ := by omega
    refine ⟨s, ?_, hc, hv⟩
    simp only [g_X2_settle_L6]
    rw [(qf_D hc d).1, if_pos (nI_le (by omega) (by omega))]
  | succ q ih =>
    intro j n s hj hn hc hv
    obtain ⟨n, rfl⟩ : ∃ m, n = m + 1 := ⟨n - 1, by omega⟩
    have hu : j < qr_N ρ := by omega
    have d' := qf_D hc d
    have o' := qf_O hc o
    have tl := qr_t_lt w hu
    have TL := qf_T_lt w (B := B) (mn := mn) j (by omega)
    have B12 := qf_12 hB hN
    have bar := qf_12 (qf_or_lt (qf_or_lt hB (qb_lt (qr_f ρ) (qr_N ρ))) TL) hN
    have skip : (qr_f ρ (qr_t ρ j) && B.testBit (qr_t ρ j)) = false → (g_X2_settle_L6 K (nI B) mv n (nI (qf_T ρ B mn (j + 1))) (nI (j + 1)) s = g_X2_settle_L6 K (nI B) mv n (nI (qf_T ρ B mn j)) (nI (j + 1)) s) ∧ (∀ i, i < j + 1 → (qr_f ρ (qr_t ρ i) && B.testBit (qr_t ρ i)) = true → s.1 36 (qr_t ρ i) = qf_o (-1) (qf_u ρ B mn i)) := by
      intro hf
      refine ⟨?_, fun i hi hfi => ?_⟩
      · simp only [qf_T]
        rw [hf, if_neg (by decide)]
      · by_cases e : i = j
        · subst e; rw [hf] at hfi; exact absurd hfi (by decide)
        · exact hv i (by omega) hfi
    simp only [g_X2_settle_L6, qn_j, qn_l]
    rw [d'.1, if_neg (nI_ge hu (by omega)), qw_unitAt w d' o' hu, qn_b, qz_isRef w d' tl, qn_b, qn_if0, nI_1]
    by_cases c1 : qr_f ρ (qr_t ρ j) = true
    · rw [if_pos c1, qz_isIn B12 (by omega), qn_b, qn_if0]
      by_cases c2 : B.testBit (qr_t ρ j) = true
      · rw [if_pos c2, d'.2.1, qb_nor, qb_nor, qf_fb w d' o' bar hu hm, qn_b, qn_g (by omega) (by omega), nI_clamp (by omega)]
        have fl := qf_find_lt w (bar := B ||| qf_R ρ ||| qf_T ρ B mn j) (k := j) (mn := mn) (show 0 < qr_N ρ by omega) (qr_N ρ - 1)
        have ts : qf_T ρ B mn (j + 1) = qf_a (qf_T ρ B mn j) (qf_find ρ (B ||| qf_R ρ ||| qf_T ρ B mn j) j mn (qr_N ρ - 1)) := by
          simp only [qf_T]
          rw [if_pos (by rw [c1, c2]; rfl)]
        have hc2 : qf_cf σ (qe_si s 36 (qr_t ρ j) (qf_o (-1) (qf_find ρ (B ||| qf_R ρ ||| qf_T ρ B mn j) j mn (qr_N ρ - 1)))) := ⟨fun a p1 p2 => by funext x; rw [qn_si_k p2]; exact congrFun (hc.1 a p1 p2) x, hc.2⟩
        have res := ih (j + 1) n _ (by omega) (by omega) hc2 (fun i hi hfi => by
          by_cases e : i = j
          · subst e; rw [qn_si_eq]; rfl
          · rw [qn_si_j (fun z => e (qr_t_inj w (by omega) hu z))]
            exact hv i (by omega) hfi)
        rw [ts] at res
        cases hf : qf_find ρ (B ||| qf_R ρ ||| qf_T ρ B mn j) j mn (qr_N ρ - 1) with
        | none =>
          rw [hf] at res
          have lt : (qf_o (-1) none : Int32) < 0 := by decide
          rw [if_pos lt, ← nI_0, qb_nor, Nat.or_zero]
          exact res
        | some v =>
          rw [hf] at res
          have vl := fl v hf
          rw [if_neg (show ¬ qf_o (-1) (some v) < 0 from nI_pos (by omega)), show qf_o (-1) (some v) = nI v from rfl, qb_shl (by omega), qb_nor]
          exact res
      · rw [if_neg c2]
        obtain ⟨k1, k2⟩ := skip (by rw [c1]; simpa using c2)
        rw [← k1]
        exact ih (j + 1) n s (by omega) (by omega) hc k2
    · rw [if_neg c1]
      obtain ⟨k1, k2⟩ := skip (by simp [c1])
      rw [← k1]
      exact ih (j + 1) n s (by omega) (by omega) hc k2
theorem qf_C {ρ : qr_R} (w : qr_wf ρ) {B : Nat} {mn : Bool} {mv : Int32} (hB : B < 2 ^ qr_N ρ) (hm : mv = if mn then 1 else 0) {σ : qe_S} (d : qr_D 1 σ ρ) (o : qr_O 1 σ ρ) : ∃ σ', g_X2_settle (nI B) mv σ = some σ' ∧ qf_cf σ σ' ∧ σ'.1 35 0 = nI (qf_E ρ B mn) ∧ (∀ i, i < qr_N ρ → (qr_f ρ (qr_t ρ i) && B.testBit (qr_t ρ i)) = true → σ'.1 36 (qr_t ρ i) = qf_o (-1) (qf_u ρ B mn i)) := by
  have hN := w.1
  obtain ⟨s', e1, e2, e3⟩ := qf_settleL w (mn := mn) hB hm d o (fun (a20 : Int32) (s21 : qe_S) => qm_l (qe_si s21 35 0 ((nI B &&& ((s21.1 1 1) ^^^ (-1 : Int32))) ||| a20)) fun s22 => some s22) (qr_N ρ) 0 qm_F σ (by omega) (by rw [qn_F]; omega) ⟨fun _ _ _ => rfl, rfl⟩ (fun i hi => by omega)
  have e1' : g_X2_settle_L6 (fun (a20 : Int32) (s21 : qe_S) => qm_l (qe_si s21 35 0 ((nI B &&& ((s21.1 1 1) ^^^ (-1 : Int32))) ||| a20)) fun s22 => some s22) (nI B) mv qm_F 0 0 σ = _ := e1
  refine ⟨qe_si s' 35 0 (nI (qf_E ρ B mn)), ?_, ⟨fun a p1 p2 => by funext x; rw [qn_si_k p1]; exact congrFun (e2.1 a p1 p2) x, e2.2⟩, qn_si_eq, fun i hi hf => ?_⟩
  · unfold g_X2_settle
    rw [qn_l, qn_l, e1', qn_l, (qf_D e2 d).2.1, qf_and w hB, qb_nor]
    rfl
  · rw [qn_si_k (by omega)]
    exact e3 i hi hf
-- the reference
theorem qf_n5 {v : Nat} (h : v < 2 ^ 31) : ¬ nI v = -5 := fun z => by
  have := nI_pos h
  rw [z] at this
  exact this (by decide)
def qf_st (s : qe_S) (u : Nat) (o : Option Nat) : qe_S := match o with
  | some v => qe_si s 14 u (nI v)
  | none => s
theorem qf_M80 {ρ : qr_R} (w : qr_wf ρ) {B T k : Nat} {mn : Bool} {mv : Int32} (hB : B < 2 ^ qr_N ρ) (hT : T < 2 ^ qr_N ρ) (hk : k < qr_N ρ) (hm : mv = if mn then 1 else 0) (x4 : Int32) (K : Int32 → qe_S → Option (Int32 × qe_S)) {s : qe_S} (m : qr_M 1 s ρ) (o : qr_MO s ρ) (h5 : s.1 14 (qr_t ρ k) = -5) : ∀ (q n : Nat), q < qr_N ρ → q + 1 < n → g_X9_finalOf_L80 K (nI B) mv (nI (qr_N ρ)) x4 (nI k) (nI (qr_t ρ k)) n (nI T) (nI (qr_N ρ - q)) s = K (nI (qf_a T (qf_find ρ (B ||| qf_R ρ ||| T) k mn q))) (qf_st s (qr_t ρ k) (qf_find ρ (B ||| qf_R ρ ||| T) k mn q)) := by
  have hN := w.1
  have tk := qr_t_lt w hk
  intro q
  induction q with
  | zero =>
    intro n _ hn
    obtain ⟨n, rfl⟩ : ∃ m, n = m + 1 := ⟨n - 1, by omega⟩
    simp only [g_X9_finalOf_L80]
    rw [if_pos (nI_le (by omega) (by omega))]
    rfl
  | succ q ih =>
    intro n hq hn
    obtain ⟨n, rfl⟩ : ∃ m, n = m + 1 + 1 := ⟨n - 2, by omega⟩
    have ih' := ih (n + 1) (by omega) (by omega)
    have lt := Nat.mod_lt (k + (qr_N ρ - (q + 1))) (show 0 < qr_N ρ by omega)
    have tl := qr_t_lt w lt
    have ok : s.1 5 ((k + (qr_N ρ - (q + 1))) % qr_N ρ) = nI (qr_t ρ ((k + (qr_N ρ - (q + 1))) % qr_N ρ)) := o _ lt
    generalize hv : qr_t ρ ((k + (qr_N ρ - (q + 1))) % qr_N ρ) = v at ok tl
    have du := m.2.2.1 v tl
    have dk := m.2.2.1 (qr_t ρ k) tk
    have Rv : (qf_R ρ).testBit v = qr_f ρ v := by rw [qb_bit, decide_eq_true tl, Bool.true_and]
    have step : g_X9_finalOf_L80 K (nI B) mv (nI (qr_N ρ)) x4 (nI k) (nI (qr_t ρ k)) (n + 1) (nI (T ||| 2 ^ v)) (nI (qr_N ρ - q)) (qe_si s 14 (qr_t ρ k) (nI v)) = K (nI (T ||| 2 ^ v)) (qe_si s 14 (qr_t ρ k) (nI v)) := by
      simp only [g_X9_finalOf_L80]
      by_cases c : qr_N ρ ≤ qr_N ρ - q
      · rw [if_pos (nI_le c (by omega))]
      · rw [if_neg (nI_ge (by omega) (by omega)), qn_g (by omega) (by omega), qn_l, nI_clamp (by omega), qn_si_eq, if_neg (qf_n5 (by omega))]
    have bit : (B ||| qf_R ρ ||| T).testBit v = ((B ||| T).testBit v || qr_f ρ v) := by
      rw [Nat.testBit_or, Nat.testBit_or, Rv, Nat.testBit_or]
      cases B.testBit v <;> cases qr_f ρ v <;> cases T.testBit v <;> rfl
    rw [g_X9_finalOf_L80]
    simp only [qn_j, qn_l, qf_find]
    rw [hv, if_neg (nI_ge (by omega) (by omega)), qn_g (by omega) (by omega), nI_clamp (by omega), h5, if_pos rfl, qn_z (nI_ne0 (by omega) (by omega)), nI_add, qk_irI (by omega) (by omega) (by omega), qn_g (by omega) (by omega), nI_clamp (by omega), ok, qb_nor, qz_has9 (qf_12 (qf_or_lt hB hT) hN) (by omega), qn_b, qn_if0, nI_1, show qr_N ρ - (q + 1) + 1 = qr_N ρ - q by omega, nI_add, nI_add, nI_add, qn_g (by omega) (by omega), qn_g (by omega) (by omega), qn_g (by omega) (by omega), nI_clamp (by omega), nI_clamp (by omega), nI_clamp (by omega), du.2.2.2, du.2.1, dk.2.1, qb_shl (by omega), qb_nor, step, ih', bit]
    by_cases c1 : (B ||| T).testBit v = true
    · rw [if_pos c1, if_neg (by simp [c1])]
    · rw [if_neg c1]
      by_cases c2 : qr_f ρ v = true
      · rw [if_pos c2, if_pos rfl, if_neg (by simp [c2])]
      · rw [if_neg c2, if_neg (by decide)]
        have c12 : ((B ||| T).testBit v || qr_f ρ v) = false := by simp [c1, c2]
        rw [c12]
        cases mn with
        | false =>
          have m0 : mv = 0 := hm
          rw [if_neg (show ¬ mv = 1 by rw [m0]; decide), if_pos (by simp), qn_g (by omega) (by omega)]
          rfl
        | true =>
          have m1 : mv = 1 := hm
          rw [if_pos m1]
          by_cases c3 : qr_s ρ v = qr_s ρ (qr_t ρ k)
          · rw [if_pos c3, if_pos (by simp [c3]), qn_g (by omega) (by omega)]
            rfl
          · rw [if_neg c3, if_neg (by simp [c3])]
theorem qf_clr {g : Nat → Bool} {N u : Nat} (hu : u < N) (hN : N ≤ 12) : nI (qb_s g N) &&& (((1 : Int32) <<< (nI u &&& 31)) ^^^ (-1)) = nI (qb_s (qz_up g u false) N) := by
  have h := qz_bits (f := g) (b := false) hu hN
  rw [if_neg (by decide), qz_shl0 u (by omega), Int32.or_zero] at h
  exact h
theorem qf_self {B N : Nat} (h : B < 2 ^ N) : qb_s (fun x => B.testBit x) N = B := by
  apply Nat.eq_of_testBit_eq
  intro i
  rw [qb_bit]
  by_cases c : i < N
  · rw [decide_eq_true c, Bool.true_and]
  · rw [decide_eq_false c, Bool.false_and, Nat.testBit_lt_two_pow (Nat.lt_of_lt_of_le h (Nat.pow_le_pow_right (show 0 < 2 by omega) (by omega)))]
def qf_g (ρ : qr_R) (B : Nat) : Nat → Nat → Bool
  | 0 => fun x => B.testBit x
  | j + 1 => if (qr_f ρ (qr_t ρ j) && B.testBit (qr_t ρ j)) = true then qz_up (qf_g ρ B j) (qr_t ρ j) false else qf_g ρ B j
theorem qf_g_val {ρ : qr_R} (w : qr_wf ρ) (B : Nat) : ∀ j, j ≤ qr_N ρ → ∀ i, i < qr_N ρ → qf_g ρ B j (qr_t ρ i) = (B.testBit (qr_t ρ i) && ! (decide (i < j) && qr_f ρ (qr_t ρ i))) := by
  intro j
  induction j with
  | zero => intro _ i hi; simp [qf_g]
  | succ j ih =>
    intro hj i hi
    have h := ih (by omega) i hi
    simp only [qf_g]
    by_cases e : i = j
    · subst e
      by_cases c : (qr_f ρ (qr_t ρ i) && B.testBit (qr_t ρ i)) = true
      · rw [if_pos c]
        unfold qz_up
        rw [if_pos rfl]
        have c' := c
        rw [Bool.and_eq_true] at c'
        rw [c'.1, c'.2]
        simp
      · rw [if_neg c, h]
        cases hf : qr_f ρ (qr_t ρ i) <;> cases hb : B.testBit (qr_t ρ i) <;> simp [hf, hb] at c ⊢
    · have ne : ¬ qr_t ρ i = qr_t ρ j := fun z => e (qr_t_inj w hi (by omega) z)
      have d : decide (i < j + 1) = decide (i < j) := decide_eq_decide.mpr (by omega)
      rw [d, ← h]
      split
      · unfold qz_up; rw [if_neg ne]
      · rfl
theorem qf_g_end {ρ : qr_R} (w : qr_wf ρ) (B : Nat) : qb_s (qf_g ρ B (qr_N ρ)) (qr_N ρ) = qb_s (fun x => B.testBit x && ! qr_f ρ x) (qr_N ρ) := by
  refine qb_congr (fun u hu => ?_)
  obtain ⟨hp, he⟩ := qr_pos_ex w hu
  have h := qf_g_val w B (qr_N ρ) (Nat.le_refl _) _ hp
  rw [he, decide_eq_true hp, Bool.true_and] at h
  exact h
theorem qn_l2 {τ α : Type} (x : τ) (F : τ → Option α) : qm_l x F = F x := Eq.trans (qn_l x F) (Eq.refl _)
theorem qn_j2 {τ α : Type} (F : τ) (K : τ → Option α) : qm_j F K = K F := Eq.trans (qn_j F K) (Eq.refl _)
def qf_mf (τ τ' : qe_S) : Prop := (∀ a, a ≠ 14 → τ'.1 a = τ.1 a) ∧ τ'.2 = τ.2
theorem qf_Mm {τ τ' : qe_S} {ρ : qr_R} (h : qf_mf τ τ') (m : qr_M 1 τ ρ) : qr_M 1 τ' ρ := by
  unfold qr_M
  rw [h.1 1 (by omega)]
  exact m
theorem qf_Om {τ τ' : qe_S} {ρ : qr_R} (h : qf_mf τ τ') (o : qr_MO τ ρ) : qr_MO τ' ρ := by
  unfold qr_MO
  rw [h.1 5 (by omega)]
  exact o
theorem qf_M16 {ρ : qr_R} (w : qr_wf ρ) {B : Nat} {mn : Bool} {mv : Int32} (hB : B < 2 ^ qr_N ρ) (hm : mv = if mn then 1 else 0) {τ : qe_S} (m : qr_M 1 τ ρ) (o : qr_MO τ ρ) : ∀ (q j n : Nat) (s : qe_S), j + q = qr_N ρ → q < n → qf_mf τ s → (∀ i, i < j → (qr_f ρ (qr_t ρ i) && B.testBit (qr_t ρ i)) = true → s.1 14 (qr_t ρ i) = qf_o (-5) (qf_u ρ B mn i)) → ∃ s', g_X9_finalOf_L16 (nI B) mv (nI (qr_N ρ)) n (nI (qb_s (qf_g ρ B j) (qr_N ρ))) (nI (qf_T ρ B mn j)) (nI j) s = some (nI (qf_E ρ B mn), s') ∧ qf_mf τ s' ∧ (∀ i, i < qr_N ρ → (qr_f ρ (qr_t ρ i) && B.testBit (qr_t ρ i)) = true → s'.1 14 (qr_t ρ i) = qf_o (-5) (qf_u ρ B mn i)) := by
  have hN := w.1
  intro q
  induction q with
  | zero =>
    intro j n s hj hn hc hv
    obtain ⟨n, rfl⟩ : ∃ m, n = m + 1 := ⟨n - 1, by omega⟩
    obtain rfl : j = qr_N ρ := by omega
    refine ⟨s, ?_, hc, hv⟩
    simp only [g_X9_finalOf_L16]
    rw [if_pos (nI_le (by omega) (by omega)), qf_g_end w, qb_nor]
    rfl
  | succ q ih =>
    intro j n s hj hn hc hv
    obtain ⟨n, rfl⟩ : ∃ m, n = m + 1 := ⟨n - 1, by omega⟩
    have hu : j < qr_N ρ := by omega
    have m' := qf_Mm hc m
    have o' := qf_Om hc o
    have tl := qr_t_lt w hu
    have TL := qf_T_lt w (B := B) (mn := mn) j (by omega)
    have B12 := qf_12 hB hN
    have oj : s.1 5 j = nI (qr_t ρ j) := o' j hu
    have df := (m'.2.2.1 (qr_t ρ j) tl).2.2.2
    have skip : (qr_f ρ (qr_t ρ j) && B.testBit (qr_t ρ j)) = false → qf_T ρ B mn (j + 1) = qf_T ρ B mn j ∧ qf_g ρ B (j + 1) = qf_g ρ B j ∧ (∀ i, i < j + 1 → (qr_f ρ (qr_t ρ i) && B.testBit (qr_t ρ i)) = true → s.1 14 (qr_t ρ i) = qf_o (-5) (qf_u ρ B mn i)) := by
      intro hf
      refine ⟨?_, ?_, fun i hi hfi => ?_⟩
      · simp only [qf_T]
        rw [hf, if_neg (by decide)]
      · simp only [qf_g]
        rw [hf, if_neg (by decide)]
      · by_cases e : i = j
        · subst e; rw [hf] at hfi; exact absurd hfi (by decide)
        · exact hv i (by omega) hfi
    simp only [g_X9_finalOf_L16, qn_j2, qn_l2]
    rw [if_neg (nI_ge hu (by omega)), qn_g (by omega) (by omega), nI_clamp (by omega), oj, qz_has9 B12 (by omega), qn_b, qn_if0, nI_1]
    by_cases c2 : B.testBit (qr_t ρ j) = true
    · rw [if_pos c2, nI_add, qn_g (by omega) (by omega), nI_clamp (by omega), df, qn_if0]
      by_cases c1 : qr_f ρ (qr_t ρ j) = true
      · have both : (qr_f ρ (qr_t ρ j) && B.testBit (qr_t ρ j)) = true := by rw [c1, c2]; rfl
        have ts : qf_T ρ B mn (j + 1) = qf_a (qf_T ρ B mn j) (qf_find ρ (B ||| qf_R ρ ||| qf_T ρ B mn j) j mn (qr_N ρ - 1)) := by
          simp only [qf_T]
          rw [if_pos both]
        have gs : qf_g ρ B (j + 1) = qz_up (qf_g ρ B j) (qr_t ρ j) false := by
          simp only [qf_g]
          rw [if_pos both]
        rw [if_pos c1, qf_clr tl hN, ← gs, qn_g (by omega) (by omega), nI_clamp (by omega)]
        generalize hFe : qm_F = F
        have F13 : 13 < F := by rw [← hFe, qn_F]; omega
        have hc1 : qf_mf τ (qe_si s 14 (qr_t ρ j) (-5)) := ⟨fun a p1 => by funext x; rw [qn_si_k p1]; exact congrFun (hc.1 a p1) x, hc.2⟩
        have h80 := qf_M80 w (mn := mn) hB TL hu hm (nI (qb_s (qf_g ρ B (j + 1)) (qr_N ρ))) (fun (a29 : Int32) (s30 : qe_S) => g_X9_finalOf_L16 (nI B) mv (nI (qr_N ρ)) n (nI (qb_s (qf_g ρ B (j + 1)) (qr_N ρ))) a29 (nI (j + 1)) s30) (qf_Mm hc1 m) (qf_Om hc1 o) (s := qe_si s 14 (qr_t ρ j) (-5)) qn_si_eq (qr_N ρ - 1) F (by omega) (by omega)
        rw [show qr_N ρ - (qr_N ρ - 1) = 1 by omega] at h80
        rw [show nI 1 = (1 : Int32) from rfl] at h80
        rw [h80]
        have fin : ∀ (o : Option Nat), o = qf_u ρ B mn j → ∃ s', g_X9_finalOf_L16 (nI B) mv (nI (qr_N ρ)) n (nI (qb_s (qf_g ρ B (j + 1)) (qr_N ρ))) (nI (qf_a (qf_T ρ B mn j) o)) (nI (j + 1)) (qf_st (qe_si s 14 (qr_t ρ j) (-5)) (qr_t ρ j) o) = some (nI (qf_E ρ B mn), s') ∧ qf_mf τ s' ∧ (∀ i, i < qr_N ρ → (qr_f ρ (qr_t ρ i) && B.testBit (qr_t ρ i)) = true → s'.1 14 (qr_t ρ i) = qf_o (-5) (qf_u ρ B mn i)) := by
          intro oo ho
          have ta : qf_T ρ B mn (j + 1) = qf_a (qf_T ρ B mn j) oo := by rw [ts, ho]; rfl
          rw [← ta]
          cases oo with
          | none =>
            refine ih (j + 1) n _ (by omega) (by omega) hc1 (fun i hi hfi => ?_)
            by_cases e : i = j
            · subst e; rw [← ho]; exact qn_si_eq
            · show (qe_si s 14 (qr_t ρ j) (-5)).1 14 (qr_t ρ i) = _
              rw [qn_si_j (fun z => e (qr_t_inj w (by omega) hu z))]
              exact hv i (by omega) hfi
          | some v =>
            refine ih (j + 1) n _ (by omega) (by omega) ⟨fun a p1 => by funext x; exact (qn_si_k p1).trans (congrFun (hc1.1 a p1) x), hc1.2⟩ (fun i hi hfi => ?_)
            by_cases e : i = j
            · subst e; rw [← ho]; exact qn_si_eq
            · show (qe_si (qe_si s 14 (qr_t ρ j) (-5)) 14 (qr_t ρ j) (nI v)).1 14 (qr_t ρ i) = _
              have ne : ¬ qr_t ρ i = qr_t ρ j := fun z => e (qr_t_inj w (by omega) hu z)
              rw [qn_si_j ne, qn_si_j ne]
              exact hv i (by omega) hfi
        exact fin _ rfl
      · rw [if_neg c1]
        obtain ⟨k1, k2, k3⟩ := skip (by simp [c1])
        rw [← k1, ← k2]
        exact ih (j + 1) n s (by omega) (by omega) hc k3
    · rw [if_neg c2]
      obtain ⟨k1, k2, k3⟩ := skip (by simp [c2])
      rw [← k1, ← k2]
      exact ih (j + 1) n s (by omega) (by omega) hc k3
theorem qf_M {ρ : qr_R} (w : qr_wf ρ) {B : Nat} {mn : Bool} {mv : Int32} (hB : B < 2 ^ qr_N ρ) (hm : mv = if mn then 1 else 0) {τ : qe_S} (m : qr_M 1 τ ρ) (o : qr_MO τ ρ) : ∃ τ', g_X9_finalOf (nI B) mv τ = some (nI (qf_E ρ B mn), τ') ∧ qf_mf τ τ' ∧ (∀ i, i < qr_N ρ → (qr_f ρ (qr_t ρ i) && B.testBit (qr_t ρ i)) = true → τ'.1 14 (qr_t ρ i) = qf_o (-5) (qf_u ρ B mn i)) := by
  have hN := w.1
  have h := qf_M16 w (mn := mn) hB hm m o (qr_N ρ) 0 qm_F τ (by omega) (by rw [qn_F]; omega) ⟨fun _ _ => rfl, rfl⟩ (fun i hi => by omega)
  have g0 : qb_s (qf_g ρ B 0) (qr_N ρ) = B := qf_self hB
  rw [g0, nI_0] at h
  unfold g_X9_finalOf
  rw [qn_g0 (by omega) (by omega), qn_l, qr_clamp0, m.1, qn_l, qn_l]
  exact h
