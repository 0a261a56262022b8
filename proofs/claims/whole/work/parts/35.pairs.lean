/-! PAIRS: a call of the class beside the reference's, guard by guard -/
def qz_ok {α : Type} (C M : Option (α × qe_S)) : Prop := ∃ (r : α) (σ' τ' : qe_S), C = some (r, σ') ∧ M = some (r, τ') ∧ qz_R σ' τ'
theorem qz_ok_some {α : Type} {r : α} {σ τ : qe_S} (h : qz_R σ τ) : qz_ok (some (r, σ)) (some (r, τ)) := ⟨r, σ, τ, rfl, rfl, h⟩
theorem qz_ok_no {σ τ : qe_S} (h : qz_R σ τ) (v : Int32) : qz_ok (qm_b (g_X8_refuse v σ) fun a s => some (a, s)) (qm_b (g_X9_no v τ) fun a s => some (a, s)) := by
  obtain ⟨σ', τ', e1, e2, h'⟩ := qz_no h v
  exact ⟨v, σ', τ', by rw [e1, qn_b], by rw [e2, qn_b], h'⟩
theorem qz_ok_noL {σ τ : qe_S} (h : qz_R σ τ) (v : Int32) : qz_ok (qm_b (g_X8_refuseLong v σ) fun a s => some (a, s)) (qm_b (g_X9_noLong v τ) fun a s => some (a, s)) := by
  obtain ⟨σ', τ', e1, e2, h'⟩ := qz_noL h v
  exact ⟨_, σ', τ', by rw [e1, qn_b], by rw [e2, qn_b], h'⟩
theorem qz_ok_ansno {σ τ : qe_S} (h : qz_R σ τ) {v : Int32} (hv : ¬ (0 : Int32) ≤ v) : qz_ok (qm_b (g_X8_answered v σ) fun a s => some (a, s)) (qm_b (g_X9_no v τ) fun a s => some (a, s)) := by
  obtain ⟨σ', τ', e1, e2, h'⟩ := qz_no h v
  exact ⟨v, σ', τ', by unfold g_X8_answered; rw [if_neg hv, e1, qn_b, qn_b], by rw [e2, qn_b], h'⟩
theorem qz_ok_anspos {σ τ : qe_S} (h : qz_R σ τ) {v : Int32} (hv : (0 : Int32) ≤ v) : qz_ok (qm_b (g_X8_answered v σ) fun a s => some (a, s)) (some (v, τ)) :=
  ⟨v, σ, τ, by unfold g_X8_answered; rw [if_pos hv, qn_b], rfl, h⟩
theorem qz_ok_ans {σ τ : qe_S} (h : qz_R σ τ) (v : Int32) : qz_ok (qm_b (g_X8_answered v σ) fun a s => some (a, s)) (if (0 : Int32) ≤ v then some (v, τ) else qm_b (g_X9_no v τ) fun a s => some (a, s)) := by
  by_cases hv : (0 : Int32) ≤ v
  · rw [if_pos hv]; exact qz_ok_anspos h hv
  · rw [if_neg hv]; exact qz_ok_ansno h hv
theorem qz_within_iff {v : Int32} {n : Nat} (hn : n + 1 < 2 ^ 31) : (0 ≤ v ∧ v ≤ nI n) ↔ vp_in v (n + 1) := by
  rw [vp_in_iff, Int32.le_iff_toInt_le, Int32.le_iff_toInt_le, nI_toInt (by omega), Int32.toInt_zero]
  omega
theorem qz_within1 {j n : Nat} {τ : qe_S} (hj : j ≤ n) (hn : n + 1 < 2 ^ 31) : g_X9_within (nI j) 0 (nI n) τ = some (1, τ) := by
  rw [qr_within, if_pos ((qz_within_iff hn).mpr (vp_in_nI (by omega) hn))]
theorem qz_within0 {v : Int32} {n : Nat} {τ : qe_S} (hv : ¬ vp_in v (n + 1)) (hn : n + 1 < 2 ^ 31) : g_X9_within v 0 (nI n) τ = some (0, τ) := by
  rw [qr_within, if_neg (fun z => hv ((qz_within_iff hn).mp z))]
theorem qz_isRow1 {r : Nat} {σ : qe_S} (hr : r < 3) : g_X8_isRow (nI r) σ = some (1, σ) := by
  unfold g_X8_isRow
  rw [qn_j, if_neg (nI_pos (by omega)), if_neg (nI_ge hr (by omega))]
theorem qz_isRow0 {v : Int32} {σ : qe_S} (hv : ¬ vp_in v 3) : g_X8_isRow v σ = some (0, σ) := by
  unfold g_X8_isRow
  rw [qn_j]
  rw [qn_in_iff (by omega)] at hv
  by_cases h1 : v < 0
  · rw [if_pos h1]
  · rw [if_neg h1, if_pos (Int32.not_lt.mp fun z => hv ⟨h1, z⟩)]
theorem qz_isPart1 {v : Int32} {σ : qe_S} (hv : v = 0 ∨ v = 1) : g_X8_isPart v σ = some (1, σ) := by
  unfold g_X8_isPart
  rcases hv with rfl | rfl
  · rw [qn_j, if_pos rfl]
  · rw [qn_j, if_neg qn_10, if_pos rfl]
theorem qz_isPart0 {v : Int32} {σ : qe_S} (h0 : ¬ v = 0) (h1 : ¬ v = 1) : g_X8_isPart v σ = some (0, σ) := by
  unfold g_X8_isPart
  rw [qn_j, if_neg h0, if_neg h1]
theorem qz_isManner1 {v : Int32} {σ : qe_S} (hv : v = 0 ∨ v = 1) : g_X8_isManner v σ = some (1, σ) := qz_isPart1 hv
theorem qz_isManner0 {v : Int32} {σ : qe_S} (h0 : ¬ v = 0) (h1 : ¬ v = 1) : g_X8_isManner v σ = some (0, σ) := qz_isPart0 h0 h1
theorem qz_01 {v : Int32} : (0 ≤ v ∧ v ≤ 1) ↔ (v = 0 ∨ v = 1) := by
  have e : (0 ≤ v ∧ v ≤ 1) ↔ vp_in v 2 := qz_within_iff (n := 1) (by omega)
  rw [e]
  constructor
  · intro h
    obtain ⟨j, hj, rfl⟩ := vp_in_of h (by omega)
    obtain rfl | rfl : j = 0 ∨ j = 1 := by omega
    · exact Or.inl rfl
    · exact Or.inr rfl
  · rintro (rfl | rfl)
    · exact vp_in_nI (n := 0) (by omega) (by omega)
    · exact vp_in_nI (n := 1) (by omega) (by omega)
theorem qz_within01 {v : Int32} {τ : qe_S} (hv : v = 0 ∨ v = 1) : g_X9_within v 0 1 τ = some (1, τ) := by
  rw [qr_within, if_pos (qz_01.mpr hv)]
theorem qz_within00 {v : Int32} {τ : qe_S} (h0 : ¬ v = 0) (h1 : ¬ v = 1) : g_X9_within v 0 1 τ = some (0, τ) := by
  rw [qr_within, if_neg (fun z => (qz_01.mp z).elim h0 h1)]
theorem qz_mPart1 {v : Int32} {τ : qe_S} (hv : v = 0 ∨ v = 1) : g_X9_isPart v τ = some (1, τ) := by
  unfold g_X9_isPart
  rw [qz_within01 hv, qn_b, qn_bo (Or.inr rfl)]
theorem qz_mPart0 {v : Int32} {τ : qe_S} (h0 : ¬ v = 0) (h1 : ¬ v = 1) : g_X9_isPart v τ = some (0, τ) := by
  unfold g_X9_isPart
  rw [qz_within00 h0 h1, qn_b, qn_bo (Or.inl rfl)]
theorem qz_mManner1 {v : Int32} {τ : qe_S} (hv : v = 0 ∨ v = 1) : g_X9_isManner v τ = some (1, τ) := qz_mPart1 hv
theorem qz_mManner0 {v : Int32} {τ : qe_S} (h0 : ¬ v = 0) (h1 : ¬ v = 1) : g_X9_isManner v τ = some (0, τ) := qz_mPart0 h0 h1
theorem qz_gUnit {α : Type} {σ τ : qe_S} {ρ : qr_R} (w : qr_wf ρ) (d : qr_D 1 σ ρ) (m : qr_M 1 τ ρ) {v : Int32} {A B A' B' : qe_S → Option (α × qe_S)} (h0 : ¬ vp_in v (qr_N ρ) → qz_ok (A σ) (A' τ)) (h1 : ∀ u, u < qr_N ρ → v = nI u → qz_ok (B σ) (B' τ)) : qz_ok (qm_b (g_X3_has v σ) fun a s => if a = 0 then A s else B s) (qm_b (g_X9_isUnit v τ) fun a s => if a = 0 then A' s else B' s) := by
  have hN := w.1
  rcases qn_in_cases v (n := qr_N ρ) (by omega) with h | ⟨u, hu, rfl⟩
  · rw [qr_has0 d.1 hN h, qr_isUnit0 m.1 hN h, qn_b, qn_b, if_pos rfl, if_pos rfl]
    exact h0 h
  · rw [qr_has1 d.1 hN hu, qr_isUnit1 m.1 hN hu, qn_b, qn_b, if_neg qn_10, if_neg qn_10]
    exact h1 u hu rfl
theorem qz_gRow {α : Type} {σ τ : qe_S} {v : Int32} {A B A' B' : qe_S → Option (α × qe_S)} (h0 : ¬ vp_in v 3 → qz_ok (A σ) (A' τ)) (h1 : ∀ r, r < 3 → v = nI r → qz_ok (B σ) (B' τ)) : qz_ok (qm_b (g_X8_isRow v σ) fun a s => if a = 0 then A s else B s) (qm_b (g_X9_within v 0 (nI 2) τ) fun a s => if a = 0 then A' s else B' s) := by
  rcases qn_in_cases v (n := 3) (by omega) with h | ⟨u, hu, rfl⟩
  · rw [qz_isRow0 h, qz_within0 (n := 2) h (by omega), qn_b, qn_b, if_pos rfl, if_pos rfl]
    exact h0 h
  · rw [qz_isRow1 hu, qz_within1 (n := 2) (by omega) (by omega), qn_b, qn_b, if_neg qn_10, if_neg qn_10]
    exact h1 u hu rfl
theorem qz_gPart {α : Type} {σ τ : qe_S} {v : Int32} {A B A' B' : qe_S → Option (α × qe_S)} (h0 : qz_ok (A σ) (A' τ)) (h1 : v = 0 ∨ v = 1 → qz_ok (B σ) (B' τ)) : qz_ok (qm_b (g_X8_isPart v σ) fun a s => if a = 0 then A s else B s) (qm_b (g_X9_isPart v τ) fun a s => if a = 0 then A' s else B' s) := by
  by_cases h : v = 0 ∨ v = 1
  · rw [qz_isPart1 h, qz_mPart1 h, qn_b, qn_b, if_neg qn_10, if_neg qn_10]
    exact h1 h
  · rw [qz_isPart0 (fun z => h (Or.inl z)) (fun z => h (Or.inr z)), qz_mPart0 (fun z => h (Or.inl z)) (fun z => h (Or.inr z)), qn_b, qn_b, if_pos rfl, if_pos rfl]
    exact h0
theorem qz_gManner {α : Type} {σ τ : qe_S} {v : Int32} {A B A' B' : qe_S → Option (α × qe_S)} (h0 : qz_ok (A σ) (A' τ)) (h1 : v = 0 ∨ v = 1 → qz_ok (B σ) (B' τ)) : qz_ok (qm_b (g_X8_isManner v σ) fun a s => if a = 0 then A s else B s) (qm_b (g_X9_isManner v τ) fun a s => if a = 0 then A' s else B' s) := by
  by_cases h : v = 0 ∨ v = 1
  · rw [qz_isManner1 h, qz_mManner1 h, qn_b, qn_b, if_neg qn_10, if_neg qn_10]
    exact h1 h
  · rw [qz_isManner0 (fun z => h (Or.inl z)) (fun z => h (Or.inr z)), qz_mManner0 (fun z => h (Or.inl z)) (fun z => h (Or.inr z)), qn_b, qn_b, if_pos rfl, if_pos rfl]
    exact h0
/-- what is asked of 0 .. n by two comparisons in the class, by within in the reference -/
theorem qz_gIn {α : Type} {τ : qe_S} {v : Int32} {n : Nat} (hn : n + 1 < 2 ^ 31) {A A2 B : Option (α × qe_S)} {A' B' : qe_S → Option (α × qe_S)} (h0 : ¬ vp_in v (n + 1) → qz_ok A (A' τ) ∧ qz_ok A2 (A' τ)) (h1 : ∀ r, r ≤ n → v = nI r → qz_ok B (B' τ)) : qz_ok (if v < 0 then A else if v ≤ nI n then B else A2) (qm_b (g_X9_within v 0 (nI n) τ) fun a s => if a = 0 then A' s else B' s) := by
  rcases qn_in_cases v (n := n + 1) hn with h | ⟨u, hu, rfl⟩
  · rw [qz_within0 h hn, qn_b, if_pos rfl]
    by_cases h2 : v < 0
    · rw [if_pos h2]; exact (h0 h).1
    · rw [if_neg h2, if_neg (fun z => h ((qz_within_iff hn).mp ⟨Int32.not_lt.mp h2, z⟩))]; exact (h0 h).2
  · rw [qz_within1 (by omega) hn, qn_b, if_neg qn_10, if_neg (nI_pos (by omega)), if_pos (nI_le (by omega) (by omega))]
    exact h1 u (by omega) rfl
theorem qz_setf {ρ : qr_R} {σ τ : qe_S} (w : qr_wf ρ) (d : qr_D 1 σ ρ) (m : qr_M 1 τ ρ) {u : Nat} {b : Bool} (hu : u < qr_N ρ) : ∃ ρ', qr_wf ρ' ∧ qr_D 1 (qe_si σ 1 1 (nI (qb_s (qz_up (qr_f ρ) u b) (qr_N ρ)))) ρ' ∧ qr_M 1 (qe_si τ 1 (38 + u) (if b then 1 else 0)) ρ' ∧ (qr_O 1 σ ρ → qr_O 1 (qe_si σ 1 1 (nI (qb_s (qz_up (qr_f ρ) u b) (qr_N ρ)))) ρ') := by
  have hN := w.1
  refine ⟨(qr_N ρ, qr_o ρ, qr_h ρ, qr_s ρ, qr_m ρ, qz_up (qr_f ρ) u b, ρ.2.2.2.2.2.2), w, ⟨d.1, qn_si_eq, d.2.2⟩, ⟨?_, ?_, fun x hx => ?_, fun r x hr hx => ?_⟩, ?_⟩
  · rw [qn_si_j (by omega)]; exact m.1
  · rw [qn_si_j (by omega)]; exact m.2.1
  · have hx' : x < qr_N ρ := hx
    have dx := m.2.2.1 x hx
    refine ⟨?_, ?_, ?_, ?_⟩
    · rw [qn_si_j (by omega)]; exact dx.1
    · rw [qn_si_j (by omega)]; exact dx.2.1
    · rw [qn_si_j (by omega)]; exact dx.2.2.1
    · show (qe_si τ 1 (38 + u) (if b then 1 else 0)).1 1 (38 + x) = if qz_up (qr_f ρ) u b x then 1 else 0
      unfold qz_up
      by_cases h : x = u
      · rw [if_pos h, h, qn_si_eq]
      · rw [if_neg h, qn_si_j (by omega)]; exact dx.2.2.2
  · have hx' : x < qr_N ρ := hx
    rw [qn_si_j (by omega), qn_si_j (by omega)]
    exact m.2.2.2 r x hr hx
  · intro ho i hi
    have e : ∀ n, qr_ord (qr_N ρ, qr_o ρ, qr_h ρ, qr_s ρ, qr_m ρ, qz_up (qr_f ρ) u b, ρ.2.2.2.2.2.2) n = qr_ord ρ n := by
      intro n
      have e2 : ∀ (x : Nat) (g : Nat → Nat) (p : Nat), qr_ins (qr_N ρ, qr_o ρ, qr_h ρ, qr_s ρ, qr_m ρ, qz_up (qr_f ρ) u b, ρ.2.2.2.2.2.2) x g p = qr_ins ρ x g p := by
        intro x g p
        induction p with
        | zero => rfl
        | succ p ih => simp only [qr_ins, ih]; rfl
      induction n with
      | zero => rfl
      | succ n ih => simp only [qr_ord, ih, e2]; rfl
    show (qe_si σ 1 1 (nI (qb_s (qz_up (qr_f ρ) u b) (qr_N ρ)))).1 (1 + 4) i = nI (qr_ord (qr_N ρ, qr_o ρ, qr_h ρ, qr_s ρ, qr_m ρ, qz_up (qr_f ρ) u b, ρ.2.2.2.2.2.2) (qr_N ρ) i)
    rw [e, qn_si_k (by omega)]
    exact ho i hi
