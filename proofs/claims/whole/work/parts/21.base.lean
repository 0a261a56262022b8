/-! PURE ROWS: numbers, guards, bits -/
theorem qn_b {τ ρ α : Type} (x : τ) (y : ρ) (F : τ → ρ → Option α) : qm_b (some (x, y)) F = F x y := rfl
theorem qn_o {τ α : Type} (x : τ) (F : τ → Option α) : qm_o (some x) F = F x := rfl
theorem qn_l {τ α : Type} (x : τ) (F : τ → Option α) : qm_l x F = F x := rfl
theorem qn_j {τ α : Type} (F : τ) (K : τ → Option α) : qm_j F K = K F := rfl
theorem qn_g {α : Type} {j n : Nat} {P : Option α} (h : j < n) (hn : n < 2 ^ 31) : qm_g (nI j) n P = P := by
  unfold qm_g
  rw [if_neg (nI_in h hn)]
theorem qn_g0 {α : Type} {n : Nat} {P : Option α} (h : 0 < n) (hn : n < 2 ^ 31) : qm_g 0 n P = P := qn_g (j := 0) h hn
theorem qn_g1 {α : Type} {n : Nat} {P : Option α} (h : 1 < n) (hn : n < 2 ^ 31) : qm_g 1 n P = P := qn_g (j := 1) h hn
theorem qn_z {α : Type} {y : Int32} {P : Option α} (h : ¬ y = 0) : qm_z y P = P := if_neg h
theorem qn_zl {α : Type} {y : Int64} {P : Option α} (h : ¬ y = 0) : qm_zl y P = P := if_neg h
theorem qn_bo {α : Type} {v : Int32} {P : Option α} (h : v = 0 ∨ v = 1) : qm_bo v P = P := if_pos h
theorem qn_bif {α : Type} {c : Prop} [Decidable c] {P : Option α} : qm_bo (if c then 1 else 0) P = P := if_pos (by split; exact Or.inr rfl; exact Or.inl rfl)
/-- a truth value tested -/
theorem qn_if0 {α : Type} {c : Prop} [Decidable c] {P Q : α} : (if (if c then (1 : Int32) else 0) = 0 then P else Q) = if c then Q else P := by
  by_cases h : c
  · rw [if_pos h, if_pos h, if_neg (by decide)]
  · rw [if_neg h, if_neg h, if_pos rfl]
theorem qn_if1 {α : Type} {c : Prop} [Decidable c] {P Q : α} : (if (if c then (1 : Int32) else 0) = 1 then P else Q) = if c then P else Q := by
  by_cases h : c
  · rw [if_pos h, if_pos h, if_pos rfl]
  · rw [if_neg h, if_neg h, if_neg (by decide)]
theorem qn_10 : ¬ (1 : Int32) = 0 := by decide
theorem qn_si_eq {σ : qe_S} {k j : Nat} {x : Int32} : (qe_si σ k j x).1 k j = x := by simp [qe_si]
theorem qn_si_k {σ : qe_S} {k j : Nat} {x : Int32} {a b : Nat} (h : a ≠ k) : (qe_si σ k j x).1 a b = σ.1 a b := by simp [qe_si, h]
theorem qn_si_j {σ : qe_S} {k j : Nat} {x : Int32} {a b : Nat} (h : b ≠ j) : (qe_si σ k j x).1 a b = σ.1 a b := by simp [qe_si, h]
theorem qn_si_2 {σ : qe_S} {k j : Nat} {x : Int32} : (qe_si σ k j x).2 = σ.2 := rfl
theorem qn_sl_eq {σ : qe_S} {k j : Nat} {x : Int64} : (qe_sl σ k j x).2 k j = x := by simp [qe_sl]
theorem qn_sl_k {σ : qe_S} {k j : Nat} {x : Int64} {a b : Nat} (h : a ≠ k) : (qe_sl σ k j x).2 a b = σ.2 a b := by simp [qe_sl, h]
theorem qn_sl_j {σ : qe_S} {k j : Nat} {x : Int64} {a b : Nat} (h : b ≠ j) : (qe_sl σ k j x).2 a b = σ.2 a b := by simp [qe_sl, h]
theorem qn_sl_1 {σ : qe_S} {k j : Nat} {x : Int64} : (qe_sl σ k j x).1 = σ.1 := rfl
theorem qn_si {σ : qe_S} {k j : Nat} {x : Int32} {a b : Nat} : (qe_si σ k j x).1 a b = if a = k ∧ b = j then x else σ.1 a b := rfl
theorem qn_sl {σ : qe_S} {k j : Nat} {x : Int64} {a b : Nat} : (qe_sl σ k j x).2 a b = if a = k ∧ b = j then x else σ.2 a b := rfl
theorem qn_in_cases (v : Int32) {n : Nat} (hn : n < 2 ^ 31) : (¬ vp_in v n) ∨ ∃ j : Nat, j < n ∧ v = nI j := by
  by_cases h : vp_in v n
  · exact Or.inr (vp_in_of h hn)
  · exact Or.inl h
theorem qn_in_iff {v : Int32} {n : Nat} (hn : n < 2 ^ 31) : vp_in v n ↔ ¬ v < 0 ∧ v < nI n := by
  rw [vp_in_iff]
  rw [Int32.lt_iff_toInt_lt, Int32.lt_iff_toInt_lt, nI_toInt hn, Int32.toInt_zero]
  omega
/-- signed ints -/
def sI (z : Int) : Int32 := Int32.ofInt z
theorem sI_toInt {z : Int} (h1 : -2147483648 ≤ z) (h2 : z < 2147483648) : (sI z).toInt = z := by
  unfold sI
  exact Int32.toInt_ofInt_of_le h1 h2
theorem sI_of (x : Int32) : x = sI x.toInt := (Int32.ofInt_toInt x).symm
theorem sI_nI (n : Nat) : nI n = sI n := by
  unfold sI nI
  exact (Int32.ofInt_eq_ofNat).symm
theorem qn_F : qm_F = 5000 := rfl
/-- fuel for a loop of at most k turns -/
theorem qn_Fk (k : Nat) (h : k ≤ 4999) : ∃ n, qm_F = n + 1 + k := ⟨4999 - k, by rw [qn_F]; omega⟩
-- bits: the number whose bits below n are f's
def qb_s (f : Nat → Bool) : Nat → Nat
  | 0 => 0
  | n + 1 => qb_s f n + (if f n then 2 ^ n else 0)
theorem qb_lt (f : Nat → Bool) (n : Nat) : qb_s f n < 2 ^ n := by
  induction n with
  | zero => simp [qb_s]
  | succ n ih =>
    simp only [qb_s, Nat.pow_succ]
    split <;> omega
theorem qb_congr {f g : Nat → Bool} : ∀ {n : Nat}, (∀ u, u < n → f u = g u) → qb_s f n = qb_s g n := by
  intro n
  induction n with
  | zero => intro _; rfl
  | succ n ih => intro h; simp only [qb_s]; rw [ih (fun u hu => h u (by omega)), h n (by omega)]
theorem qb_or (f : Nat → Bool) (n : Nat) : qb_s f n ||| (if f n then 2 ^ n else 0) = qb_s f (n + 1) := by
  simp only [qb_s]
  split
  · have h := Nat.two_pow_add_eq_or_of_lt (qb_lt f n) 1
    rw [Nat.mul_one] at h
    rw [Nat.or_comm, ← h]
    omega
  · simp
theorem qb_bit (f : Nat → Bool) (n u : Nat) : (qb_s f n).testBit u = (decide (u < n) && f u) := by
  induction n with
  | zero => simp [qb_s]
  | succ n ih =>
    rw [← qb_or, Nat.testBit_or, ih]
    by_cases h : u = n
    · subst h
      cases f u <;> simp
    · have e : (if f n = true then 2 ^ n else 0 : Nat).testBit u = false := by
        split
        · rw [Nat.testBit_two_pow]; simp [Ne.symm h]
        · simp
      rw [e]
      simp only [Bool.or_false]
      congr 1
      exact decide_eq_decide.mpr (by omega)
theorem qb_inj {f g : Nat → Bool} {n : Nat} (h : qb_s f n = qb_s g n) : ∀ u, u < n → f u = g u := by
  intro u hu
  have h1 := qb_bit f n u
  have h2 := qb_bit g n u
  rw [h, h2] at h1
  simpa [hu] using h1.symm
theorem qb_more (f : Nat → Bool) (n m : Nat) (h : ∀ u, n ≤ u → u < n + m → f u = false) : qb_s f (n + m) = qb_s f n := by
  induction m with
  | zero => rfl
  | succ m ih =>
    rw [show n + (m + 1) = (n + m) + 1 by omega]
    simp only [qb_s]
    rw [ih (fun u h1 h2 => h u h1 (by omega)), h (n + m) (by omega) (by omega)]
    simp
theorem nI_tb (n : Nat) : (nI n).toBitVec = BitVec.ofNat 32 n := rfl
theorem nI_inj32 {x y : Int32} (h : x.toBitVec = y.toBitVec) : x = y := Int32.toBitVec_inj.mp h
theorem qb_nor (a b : Nat) : nI a ||| nI b = nI (a ||| b) := by
  apply nI_inj32
  rw [Int32.toBitVec_or, nI_tb, nI_tb, nI_tb]
  exact (BitVec.ofNat_or ..).symm
theorem qb_nand (a b : Nat) : nI a &&& nI b = nI (a &&& b) := by
  apply nI_inj32
  rw [Int32.toBitVec_and, nI_tb, nI_tb, nI_tb]
  exact (BitVec.ofNat_and ..).symm
theorem qb_31 : ∀ u, u < 32 → ((nI u &&& nI 31).toBitVec.smod 32).toNat = u := by decide +kernel
theorem qb_31' : ∀ u, u < 32 → ((nI u &&& 31).toBitVec.smod 32).toNat = u := by decide +kernel
theorem qb_shl {u : Nat} (h : u < 31) : (1 : Int32) <<< (nI u &&& 31) = nI (2 ^ u) := by
  have h1 := pk_shlN (n := 1) (nI u &&& 31) u (qb_31' u (by omega)) (by rw [Nat.one_mul]; exact Nat.pow_lt_pow_right (by omega) (by omega))
  rw [Nat.one_mul] at h1
  exact h1
theorem qb_shr {a u : Nat} (ha : a < 2 ^ 31) (h : u < 32) : nI a >>> (nI u &&& 31) = nI (a / 2 ^ u) := pk_shrN ha (nI u &&& 31) u (qb_31' u h)
/-- one bit of a set -/
theorem qb_get {a u : Nat} (ha : a < 2 ^ 31) (h : u < 32) : (nI a >>> (nI u &&& 31)) &&& 1 = if a.testBit u then 1 else 0 := by
  rw [qb_shr ha h]
  have e : (1 : Int32) = nI 1 := rfl
  rw [e, qb_nand, Nat.and_one_is_mod, ← Nat.shiftRight_eq_div_pow]
  rw [Nat.testBit, Nat.and_comm, Nat.and_one_is_mod]
  rcases Nat.mod_two_eq_zero_or_one (a >>> u) with h1 | h1 <;> rw [h1] <;> rfl
