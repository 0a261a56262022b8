/-! THE ROSTER: what the class's roster and the reference's array of 122 ints hold, as one view -/
abbrev qr_R : Type := Nat × Int32 × (Nat → Nat) × (Nat → Int32) × (Nat → Int32) × (Nat → Bool) × (Nat → Nat → Nat) × (Nat → Nat → Nat)
abbrev qr_N (ρ : qr_R) : Nat := ρ.1
abbrev qr_o (ρ : qr_R) : Int32 := ρ.2.1
abbrev qr_h (ρ : qr_R) : Nat → Nat := ρ.2.2.1
abbrev qr_s (ρ : qr_R) : Nat → Int32 := ρ.2.2.2.1
abbrev qr_m (ρ : qr_R) : Nat → Int32 := ρ.2.2.2.2.1
abbrev qr_f (ρ : qr_R) : Nat → Bool := ρ.2.2.2.2.2.1
abbrev qr_a (ρ : qr_R) : Nat → Nat → Nat := ρ.2.2.2.2.2.2.1
abbrev qr_b (ρ : qr_R) : Nat → Nat → Nat := ρ.2.2.2.2.2.2.2
def qr_wf (ρ : qr_R) : Prop := qr_N ρ ≤ 12 ∧ vp_in (qr_o ρ) 6 ∧ (∀ i, i < qr_N ρ → qr_h ρ i < qr_N ρ) ∧ (∀ i j, i < qr_N ρ → j < qr_N ρ → qr_h ρ i = qr_h ρ j → i = j) ∧ (∀ u, u < qr_N ρ → vp_in (qr_s ρ u) 4) ∧ (∀ u, u < qr_N ρ → -99 ≤ (qr_m ρ u).toInt ∧ (qr_m ρ u).toInt ≤ 99) ∧ (∀ r u, r < 3 → u < qr_N ρ → 1 ≤ qr_b ρ r u ∧ qr_b ρ r u ≤ 60 ∧ qr_a ρ r u ≤ qr_b ρ r u) ∧ (∀ u, u < qr_N ρ → 1 ≤ qr_a ρ 0 u)
/-- whether one unit stands ahead of another, by the order that isn't the numbers' or HAND -/
def qr_ah (ρ : qr_R) (u v : Nat) : Bool :=
  if qr_o ρ = 1 then decide (qr_a ρ 0 v * qr_b ρ 0 u < qr_a ρ 0 u * qr_b ρ 0 v)
  else if qr_o ρ = nI 2 then decide (qr_s ρ u - qr_s ρ v < 0)
  else if qr_o ρ = nI 3 then decide (qr_m ρ u - qr_m ρ v < 0)
  else if qr_o ρ = nI 4 then (if qr_s ρ u - qr_s ρ v = 0 then (if qm_ir (qr_s ρ u) (nI 2) = 0 then decide (qr_m ρ u - qr_m ρ v < 0) else decide (0 < qr_m ρ u - qr_m ρ v)) else decide (qr_s ρ u - qr_s ρ v < 0))
  else false
/-- where a unit comes to stand behind those that stand already (p of them) -/
def qr_ins (ρ : qr_R) (x : Nat) (g : Nat → Nat) : Nat → Nat
  | 0 => 0
  | p + 1 => if qr_ah ρ x (g p) then qr_ins ρ x g p else p + 1
def qr_put (g : Nat → Nat) (x q i : Nat) : Nat → Nat := fun j => if j < q then g j else if j = q then x else if j ≤ i then g (j - 1) else g j
def qr_x (ρ : qr_R) (i : Nat) : Nat := if qr_o ρ = nI 5 then qr_h ρ i else i
/-- the units as they stand, the first i of them put -/
def qr_ord (ρ : qr_R) : Nat → Nat → Nat
  | 0 => fun _ => 0
  | i + 1 => qr_put (qr_ord ρ i) (qr_x ρ i) (qr_ins ρ (qr_x ρ i) (qr_ord ρ i) i) i
/-- the class's roster at cell b holds the view, its order apart -/
def qr_D (b : Nat) (σ : qe_S) (ρ : qr_R) : Prop := σ.1 b 0 = nI (qr_N ρ) ∧ σ.1 b 1 = nI (qb_s (qr_f ρ) (qr_N ρ)) ∧ σ.1 b 2 = qr_o ρ ∧ (∀ u, u < qr_N ρ → σ.1 (b + 1) u = qr_s ρ u ∧ σ.1 (b + 2) u = qr_m ρ u ∧ σ.1 (b + 3) u = nI (qr_h ρ u)) ∧ (∀ r u, r < 3 → u < qr_N ρ → σ.1 (b + 5) (12 * r + u) = nI (qr_a ρ r u) ∧ σ.1 (b + 6) (12 * r + u) = nI (qr_b ρ r u))
def qr_O (b : Nat) (σ : qe_S) (ρ : qr_R) : Prop := ∀ i, i < qr_N ρ → σ.1 (b + 4) i = nI (qr_ord ρ (qr_N ρ) i)
/-- the reference's array at cell k holds the view -/
def qr_M (k : Nat) (τ : qe_S) (ρ : qr_R) : Prop := τ.1 k 0 = nI (qr_N ρ) ∧ τ.1 k 1 = qr_o ρ ∧ (∀ u, u < qr_N ρ → τ.1 k (2 + u) = nI (qr_h ρ u) ∧ τ.1 k (14 + u) = qr_s ρ u ∧ τ.1 k (26 + u) = qr_m ρ u ∧ τ.1 k (38 + u) = (if qr_f ρ u then 1 else 0)) ∧ (∀ r u, r < 3 → u < qr_N ρ → τ.1 k (50 + (12 * r + u)) = nI (qr_a ρ r u) ∧ τ.1 k (86 + (12 * r + u)) = nI (qr_b ρ r u))
-- small calls
theorem qr_has (v : Int32) (σ : qe_S) : g_X3_has v σ = some (if ¬ v < 0 ∧ v < σ.1 1 0 then 1 else 0, σ) := by
  simp only [g_X3_has, qn_j]
  by_cases h1 : v < 0
  · simp [h1]
  · by_cases h2 : v < σ.1 1 0
    · rw [if_neg h1, if_neg (Int32.not_le.mpr h2), if_pos ⟨h1, h2⟩]
    · rw [if_neg h1, if_pos (Int32.not_lt.mp h2), if_neg (fun z => h2 z.2)]
theorem qr_has1 {σ : qe_S} {N u : Nat} (hN : σ.1 1 0 = nI N) (hN12 : N ≤ 12) (hu : u < N) : g_X3_has (nI u) σ = some (1, σ) := by
  rw [qr_has, hN, if_pos ⟨nI_pos (by omega), nI_lt hu (by omega)⟩]
theorem qr_has0 {σ : qe_S} {N : Nat} {v : Int32} (hN : σ.1 1 0 = nI N) (hN12 : N ≤ 12) (hv : ¬ vp_in v N) : g_X3_has v σ = some (0, σ) := by
  rw [qr_has, hN, if_neg (fun z => hv ((qn_in_iff (by omega)).mpr z))]
theorem qr_within (v a b : Int32) (σ : qe_S) : g_X9_within v a b σ = some (if a ≤ v ∧ v ≤ b then 1 else 0, σ) := by
  simp only [g_X9_within, qn_j]
  by_cases h1 : v < a
  · rw [if_pos h1, if_neg (fun z => Int32.not_le.mpr h1 z.1)]
  · by_cases h2 : b < v
    · rw [if_neg h1, if_pos h2, if_neg (fun z => Int32.not_le.mpr h2 z.2)]
    · rw [if_neg h1, if_neg h2, if_pos ⟨Int32.not_lt.mp h1, Int32.not_lt.mp h2⟩]
theorem qr_clamp0 : (0 : Int32).toNatClampNeg = 0 := rfl
theorem qr_clamp1 : (1 : Int32).toNatClampNeg = 1 := rfl
theorem qr_isUnit {τ : qe_S} {N : Nat} (hN : τ.1 1 0 = nI N) (hN12 : N ≤ 12) (v : Int32) : g_X9_isUnit v τ = some (if ¬ v < 0 ∧ v < nI N then 1 else 0, τ) := by
  simp only [g_X9_isUnit, qn_g0 (show 0 < 122 by omega) (show 122 < 2 ^ 31 by omega), qn_l, qr_clamp0, hN, qr_within, qn_b, qn_bif]
  have e : (0 ≤ v ∧ v ≤ nI N - 1) ↔ (¬ v < 0 ∧ v < nI N) := by
    have hs : (nI N - 1).toInt = (N : Int) - 1 := pk_sub_toInt (a := N) (b := 1) (by omega) (by omega)
    rw [Int32.le_iff_toInt_le, Int32.le_iff_toInt_le, Int32.lt_iff_toInt_lt, Int32.lt_iff_toInt_lt, hs, nI_toInt (by omega), Int32.toInt_zero]
    omega
  simp only [e]
theorem qr_isUnit1 {τ : qe_S} {N u : Nat} (hN : τ.1 1 0 = nI N) (hN12 : N ≤ 12) (hu : u < N) : g_X9_isUnit (nI u) τ = some (1, τ) := by
  rw [qr_isUnit hN hN12, if_pos ⟨nI_pos (by omega), nI_lt hu (by omega)⟩]
theorem qr_isUnit0 {τ : qe_S} {N : Nat} {v : Int32} (hN : τ.1 1 0 = nI N) (hN12 : N ≤ 12) (hv : ¬ vp_in v N) : g_X9_isUnit v τ = some (0, τ) := by
  rw [qr_isUnit hN hN12, if_neg (fun z => hv ((qn_in_iff (by omega)).mpr z))]
theorem qr_above {σ : qe_S} {ρ : qr_R} (hw : qr_wf ρ) (hD : qr_D 1 σ ρ) {r u : Nat} (hr : r < 3) (hu : u < qr_N ρ) : g_X3_above (nI u) (nI r) σ = some (nI (qr_a ρ r u), σ) := by
  have hN := hw.1
  simp only [g_X3_above, qn_j, hD.1]
  rw [if_neg (nI_pos (by omega)), if_neg (nI_ge hu (by omega)), if_neg (nI_pos (by omega)), if_neg (show ¬ nI 3 ≤ nI r from nI_ge hr (by omega))]
  simp only [qn_10, if_false, pk_mul, nI_add]
  rw [qn_g (by omega) (by omega), nI_clamp (by omega), show r * 12 + u = 12 * r + u by omega]
  simp only [qn_l, (hD.2.2.2.2 r u hr hu).1]
theorem qr_below {σ : qe_S} {ρ : qr_R} (hw : qr_wf ρ) (hD : qr_D 1 σ ρ) {r u : Nat} (hr : r < 3) (hu : u < qr_N ρ) : g_X3_below (nI u) (nI r) σ = some (nI (qr_b ρ r u), σ) := by
  have hN := hw.1
  simp only [g_X3_below, qn_j, hD.1]
  rw [if_neg (nI_pos (by omega)), if_neg (nI_ge hu (by omega)), if_neg (nI_pos (by omega)), if_neg (show ¬ nI 3 ≤ nI r from nI_ge hr (by omega))]
  simp only [qn_10, if_false, pk_mul, nI_add]
  rw [qn_g (by omega) (by omega), nI_clamp (by omega), show r * 12 + u = 12 * r + u by omega]
  simp only [qn_l, (hD.2.2.2.2 r u hr hu).2]
