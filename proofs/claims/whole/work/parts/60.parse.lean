/-! THE TAPE READ: as numbers, and by the class -/
def qi_b (n : Nat) (T : Nat → Nat) (i : Nat) : Nat := if i < n then T i else 0
def qi_dg (b : Nat → Nat) (p : Nat) : Bool := decide (48 ≤ b p ∧ b p ≤ 57)
def qi_c (b : Nat → Nat) : Nat → Nat → Nat
  | 0, _ => 0
  | k + 1, p => if qi_dg b p = true then qi_c b k (p + 1) + 1 else 0
def qi_v (b : Nat → Nat) : Nat → Nat → Nat → Nat
  | 0, _, a => a
  | k + 1, p, a => if qi_dg b p = true then qi_v b k (p + 1) (10 * a + b p - 48) else a
def qi_nm (b : Nat → Nat) (k p : Nat) : Bool × Nat × Int32 := (decide (qi_c b k p ≠ 0), p + qi_c b k p, nI (qi_v b k p 0))
def qi_sg (b : Nat → Nat) (sym p : Nat) : Bool × Nat × Int32 := if sym = 78 then qi_nm b 2 p else if sym = 68 then qi_nm b 1 p else if sym = 77 then (if b p = 45 then ((qi_nm b 2 (p + 1)).1, (qi_nm b 2 (p + 1)).2.1, -(qi_nm b 2 (p + 1)).2.2) else qi_nm b 2 p) else if b p = sym then (true, p + 1, 0) else (false, p, 0)
def qi_fs (b : Nat → Nat) (st : Bool × Nat) (sym : Nat) : Bool × Nat := if st.1 = true then ((qi_sg b sym st.2).1, (qi_sg b sym st.2).2.1) else st
def qi_nv (b : Nat → Nat) (st : Bool × Nat) (sym : Nat) : Int32 := if st.1 = true then (qi_sg b sym st.2).2.2 else 0
def qi_nu (sym : Nat) : Bool := decide (sym = 78 ∨ sym = 68 ∨ sym = 77)
def qi_fl (b : Nat → Nat) : List Nat → Bool × Nat → Bool × Nat
  | [], st => st
  | s :: l, st => qi_fl b l (qi_fs b st s)
def qi_rv (b : Nat → Nat) : List Nat → Bool × Nat → List Int32
  | [], _ => []
  | s :: l, st => if qi_nu s = true then qi_nv b st s :: qi_rv b l (qi_fs b st s) else qi_rv b l (qi_fs b st s)
def qi_nc : List Nat → Nat
  | [] => 0
  | s :: l => if qi_nu s = true then qi_nc l + 1 else qi_nc l
def qi_sh (k : Nat) : List Nat := if k = 117 then [78, 47, 78, 44, 68, 44, 77] else if k = 115 then [78, 44, 78, 47, 78] else if k = 110 then [78, 44, 78, 47, 78] else if k = 111 then [68] else if k = 114 then [78] else if k = 120 then [78, 44, 78] else []
def qi_cs (b : Nat → Nat) (p : Nat) : Bool × Nat := if qi_sh (b p) = [] then (false, p) else qi_fl b (qi_sh (b p)) (true, p + 1)
def qi_cv (b : Nat → Nat) (p : Nat) : List Int32 := qi_rv b (qi_sh (b p)) (true, p + 1)
theorem qi_c_le (b : Nat → Nat) : ∀ k p, qi_c b k p ≤ k := by
  intro k
  induction k with
  | zero => intro p; exact Nat.le_refl _
  | succ k ih =>
    intro p
    simp only [qi_c]
    have := ih (p + 1)
    split <;> omega
theorem qi_fl_dead (b : Nat → Nat) (q : Nat) : ∀ l, qi_fl b l (false, q) = (false, q) := by
  intro l
  induction l with
  | nil => rfl
  | cons s l ih =>
    simp only [qi_fl]
    have e : qi_fs b (false, q) s = (false, q) := if_neg (by simp)
    rw [e, ih]
def qi_tC (n : Nat) (T : Nat → Nat) (s : qe_S) : Prop := s.1 37 0 = nI n ∧ ∀ i, i < n → s.1 39 i = nI (T i)
def qi_f1 (s s' : qe_S) : Prop := s'.2 = s.2 ∧ (∀ a, a ≠ 37 → s'.1 a = s.1 a) ∧ (∀ j, j ≠ 2 → s'.1 37 j = s.1 37 j)
def qi_f0 (s s' : qe_S) : Prop := s'.2 = s.2 ∧ (∀ a, a ≠ 37 → a ≠ 38 → s'.1 a = s.1 a) ∧ (∀ j, j ≠ 2 → j ≠ 4 → s'.1 37 j = s.1 37 j)
theorem qi_f1_t {a b c : qe_S} (h : qi_f1 a b) (g : qi_f1 b c) : qi_f1 a c := ⟨g.1.trans h.1, fun x p => (g.2.1 x p).trans (h.2.1 x p), fun j p => (g.2.2 j p).trans (h.2.2 j p)⟩
theorem qi_f0_t {a b c : qe_S} (h : qi_f0 a b) (g : qi_f0 b c) : qi_f0 a c := ⟨g.1.trans h.1, fun x p q => (g.2.1 x p q).trans (h.2.1 x p q), fun j p q => (g.2.2 j p q).trans (h.2.2 j p q)⟩
theorem qi_f01 {a b : qe_S} (h : qi_f1 a b) : qi_f0 a b := ⟨h.1, fun x p _ => h.2.1 x p, fun j p _ => h.2.2 j p⟩
theorem qi_t1 {n : Nat} {T : Nat → Nat} {s s' : qe_S} (h : qi_f0 s s') (t : qi_tC n T s) : qi_tC n T s' := ⟨by rw [h.2.2 0 (by omega) (by omega)]; exact t.1, fun i hi => by rw [h.2.1 39 (by omega) (by omega)]; exact t.2 i hi⟩
theorem qi_byteAt {n : Nat} {T : Nat → Nat} {s : qe_S} (hn : n ≤ 120) (h : qi_tC n T s) {p : Nat} (hp : p < 2 ^ 31) : g_X6_byteAt (nI p) s = some (nI (qi_b n T p), s) := by
  unfold g_X6_byteAt qi_b
  rw [qn_j, if_neg (nI_pos (by omega)), h.1]
  by_cases c : p < n
  · rw [if_neg (nI_ge c (by omega)), qn_g (by omega) (by omega), qn_l, nI_clamp (by omega), h.2 p c, if_pos c]
  · rw [if_pos (nI_le (by omega) (by omega)), if_neg c]
    rfl
theorem qi_isDig {b : Nat → Nat} {p : Nat} {s : qe_S} (hb : b p ≤ 127) : g_X6_isDigit (nI (b p)) s = some (if qi_dg b p = true then 1 else 0, s) := by
  unfold g_X6_isDigit qi_dg
  rw [qn_j]
  by_cases c1 : b p < 48
  · rw [if_pos (nI_lt c1 (by omega)), decide_eq_false (by omega), if_neg (by decide)]
  · rw [if_neg (nI_nlt (by omega) (by omega))]
    by_cases c2 : 57 < b p
    · rw [if_pos (nI_lt c2 (by omega)), decide_eq_false (by omega), if_neg (by decide)]
    · rw [if_neg (nI_nlt (by omega) (by omega)), decide_eq_true (by omega), if_pos rfl]
theorem qi_numL {n : Nat} {T : Nat → Nat} (hn : n ≤ 120) (hb : ∀ i, qi_b n T i ≤ 127) (Kc : Int32 → Int32 → qe_S → Option (Int32 × qe_S)) (k0 : Nat) (hk0 : k0 ≤ 2) (fac : Int32) : ∀ (k i F a p : Nat) (s : qe_S), i + k = k0 → k < F → p + k < 2 ^ 20 → s.1 37 2 = nI p → qi_tC n T s → ∃ s', g_X6_readNumber_L5 Kc (nI k0) fac F (nI i) (nI a) s = Kc (nI (i + qi_c (qi_b n T) k p)) (nI (qi_v (qi_b n T) k p a)) s' ∧ s'.1 37 2 = nI (p + qi_c (qi_b n T) k p) ∧ qi_f1 s s' := by
  intro k
  induction k with
  | zero =>
    intro i F a p s hi hF hp hs ht
    obtain ⟨F, rfl⟩ : ∃ m, F = m + 1 := ⟨F - 1, by omega⟩
    refine ⟨s, ?_, hs, rfl, fun _ _ => rfl, fun _ _ => rfl⟩
    simp only [g_X6_readNumber_L5]
    rw [if_pos (nI_le (by omega) (by omega))]
    rfl
  | succ k ih =>
    intro i F a p s hi hF hp hs ht
    obtain ⟨F, rfl⟩ : ∃ m, F = m + 1 := ⟨F - 1, by omega⟩
    have hbp := hb p
    simp only [g_X6_readNumber_L5, qi_c, qi_v]
    rw [if_neg (nI_ge (by omega) (by omega)), hs, qi_byteAt hn ht (by omega), qn_b, qi_isDig hbp, qn_b, qn_if0]
    by_cases c : qi_dg (qi_b n T) p = true
    · have c48 : 48 ≤ qi_b n T p := (of_decide_eq_true c).1
      have t2 : qi_tC n T (qe_si s 37 2 (nI (p + 1))) := ⟨by rw [qn_si_j (by omega)]; exact ht.1, fun j hj => by rw [qn_si_k (by omega)]; exact ht.2 j hj⟩
      obtain ⟨s', e1, e2, e3⟩ := ih (i + 1) F (10 * a + qi_b n T p - 48) (p + 1) (qe_si s 37 2 (nI (p + 1))) (by omega) (by omega) (by omega) qn_si_eq t2
      have fr : qi_f1 s (qe_si s 37 2 (nI (p + 1))) := ⟨rfl, fun x q => by funext y; exact qn_si_k q, fun j q => qn_si_j q⟩
      refine ⟨s', ?_, ?_, qi_f1_t fr e3⟩
      · rw [if_pos c, hs, qi_byteAt hn ht (by omega), qn_b, hs, nI_1, pk_mul, nI_add, pk_sub (by omega), qn_l, qn_l, qn_l, nI_1, e1, if_pos c, if_pos c, show i + 1 + qi_c (qi_b n T) k (p + 1) = i + (qi_c (qi_b n T) k (p + 1) + 1) by omega]
      · rw [e2, if_pos c, show p + 1 + qi_c (qi_b n T) k (p + 1) = p + (qi_c (qi_b n T) k (p + 1) + 1) by omega]
    · rw [if_neg c, if_neg c, if_neg c]
      exact ⟨s, rfl, hs, rfl, fun _ _ => rfl, fun _ _ => rfl⟩
theorem qi_num {n : Nat} {T : Nat → Nat} (hn : n ≤ 120) (hb : ∀ i, qi_b n T i ≤ 127) {k f p : Nat} (hk : k ≤ 2) (hf : f < 4) (fac : Int32) {s : qe_S} (hp : p < 2 ^ 19) (hs : s.1 37 2 = nI p) (hs4 : s.1 37 4 = nI f) (ht : qi_tC n T s) : ∃ s', g_X6_readNumber (nI k) fac s = some (if (qi_nm (qi_b n T) k p).1 = true then 1 else 0, s') ∧ s'.1 37 2 = nI (qi_nm (qi_b n T) k p).2.1 ∧ qi_f0 s s' ∧ ((qi_nm (qi_b n T) k p).1 = true → s'.1 37 4 = nI (f + 1) ∧ s'.1 38 f = fac * (qi_nm (qi_b n T) k p).2.2) ∧ (∀ j, j ≠ f → s'.1 38 j = s.1 38 j) := by
  have cl := qi_c_le (qi_b n T) k p
  obtain ⟨s1, e1, e2, e3⟩ := qi_numL hn hb (fun (a14 : Int32) (a15 : Int32) (s16 : qe_S) => qm_j (fun (s17 : qe_S) => if a14 ≤ (0 : Int32) then some ((0 : Int32), s17) else some ((1 : Int32), s17)) fun j94 => if a14 ≤ (0 : Int32) then (j94 s16) else if (nI 4) ≤ (s16.1 37 4) then (j94 s16) else qm_g (s16.1 37 4) 4 <| qm_l (qe_si s16 38 (s16.1 37 4).toNatClampNeg (fac * a15)) fun s18 => qm_l (qe_si s18 37 4 ((s18.1 37 4) + (1 : Int32))) fun s19 => j94 s19) k hk fac k 0 qm_F 0 p s (by omega) (by rw [qn_F]; omega) (by omega) hs ht
  have r4 : s1.1 37 4 = nI f := by rw [e3.2.2 4 (by omega)]; exact hs4
  rw [nI_0, Nat.zero_add] at e1
  unfold g_X6_readNumber
  rw [qn_l, qn_l, e1]
  unfold qi_nm
  by_cases c : qi_c (qi_b n T) k p = 0
  · refine ⟨s1, ?_, e2, qi_f01 e3, fun z => ?_, fun j _ => by rw [e3.2.1 38 (by omega)]⟩
    · simp only [qn_j]
      rw [if_pos (by rw [c]; decide), if_pos (by rw [c]; decide), if_neg (by simp [c])]
    · simp [c] at z
  · have np : ¬ nI (qi_c (qi_b n T) k p) ≤ 0 := nI_nle (by omega) (by omega)
    refine ⟨qe_si (qe_si s1 38 f (fac * nI (qi_v (qi_b n T) k p 0))) 37 4 (nI (f + 1)), ?_, ?_, ?_, fun _ => ⟨qn_si_eq, ?_⟩, fun j hj => ?_⟩
    · simp only [qn_j, qn_l]
      rw [if_neg np, r4, if_neg (nI_ge (by omega) (by omega)), qn_g (by omega) (by omega), nI_clamp (by omega), if_neg np, qn_si_k (by omega), r4, nI_1, if_pos (by simp [c])]
    · rw [qn_si_j (by omega), qn_si_k (by omega)]; exact e2
    · exact qi_f0_t (qi_f01 e3) ⟨rfl, fun x p q => by funext y; exact (qn_si_k p).trans (qn_si_k q), fun j p q => (qn_si_j q).trans (qn_si_k (by omega))⟩
    · rw [qn_si_k (by omega), qn_si_eq]
    · rw [qn_si_k (by omega), qn_si_j hj, e3.2.1 38 (by omega)]
theorem qi_byte {n : Nat} {T : Nat → Nat} (hn : n ≤ 120) (hb : ∀ i, qi_b n T i ≤ 127) {c p : Nat} (hc : c ≤ 127) {s : qe_S} (hp : p < 2 ^ 20) (hs : s.1 37 2 = nI p) (ht : qi_tC n T s) : ∃ s', g_X6_readsByte (nI c) s = some (if qi_b n T p = c then 1 else 0, s') ∧ s'.1 37 2 = nI (if qi_b n T p = c then p + 1 else p) ∧ qi_f1 s s' := by
  have hbp := hb p
  have z : nI p + 0 = nI p := by rw [← nI_0, nI_add]; rfl
  unfold g_X6_readsByte
  simp only [qn_j, qn_l]
  rw [hs, qi_byteAt hn ht (by omega), qn_b]
  by_cases e : qi_b n T p = c
  · refine ⟨qe_si s 37 2 (nI (p + 1)), ?_, ?_, rfl, fun x q => by funext y; exact qn_si_k q, fun j q => qn_si_j q⟩
    · rw [if_pos (congrArg nI e), if_neg qn_10, qn_bo (Or.inr rfl), hs, nI_1, if_pos e]
    · rw [qn_si_eq, if_pos e]
  · refine ⟨qe_si s 37 2 (nI p), ?_, ?_, rfl, fun x q => by funext y; exact qn_si_k q, fun j q => qn_si_j q⟩
    · rw [if_neg (fun y => e ((nI_eq (by omega) (by omega)).mp y)), if_pos trivial, qn_bo (Or.inl rfl), hs, z, if_neg e]
    · rw [qn_si_eq, if_neg e]
theorem qi_sign {n : Nat} {T : Nat → Nat} (hn : n ≤ 120) (hb : ∀ i, qi_b n T i ≤ 127) {sym f p : Nat} (hc : sym ≤ 127) (hf : qi_nu sym = true → f < 4) {s : qe_S} (hp : p < 2 ^ 18) (hs : s.1 37 2 = nI p) (hs4 : s.1 37 4 = nI f) (ht : qi_tC n T s) : ∃ s', g_X6_readSign (nI sym) s = some (if (qi_sg (qi_b n T) sym p).1 = true then 1 else 0, s') ∧ s'.1 37 2 = nI (qi_sg (qi_b n T) sym p).2.1 ∧ qi_f0 s s' ∧ ((qi_sg (qi_b n T) sym p).1 = true → (qi_nu sym = true → s'.1 37 4 = nI (f + 1) ∧ s'.1 38 f = (qi_sg (qi_b n T) sym p).2.2) ∧ (qi_nu sym = false → s'.1 37 4 = nI f)) ∧ (∀ j, j ≠ f → s'.1 38 j = s.1 38 j) := by
  unfold g_X6_readSign
  by_cases c1 : sym = 68
  · subst c1
    have f4 := hf (by decide)
    have sg : qi_sg (qi_b n T) 68 p = qi_nm (qi_b n T) 1 p := by unfold qi_sg; rw [if_neg (show ¬ (68 : Nat) = 78 by omega), if_pos rfl]
    obtain ⟨s', e1, e2, e3, e4, e6⟩ := qi_num hn hb (k := 1) (by omega) f4 1 (by omega) hs hs4 ht
    have e1' : g_X6_readNumber 1 1 s = some (if (qi_nm (qi_b n T) 1 p).1 = true then 1 else 0, s') := e1
    rw [sg]
    refine ⟨s', ?_, e2, e3, ?_, e6⟩
    · rw [if_pos rfl, e1', qn_b, qn_bif]
    · intro ok
      obtain ⟨x1, x2⟩ := e4 ok
      exact ⟨fun _ => ⟨x1, by rw [x2, Int32.one_mul]⟩, fun z => absurd z (by decide)⟩
  · rw [if_neg (fun y => c1 ((nI_eq (by omega) (by omega)).mp y))]
    by_cases c2 : sym = 77
    · subst c2
      have f4 := hf (by decide)
      rw [if_pos rfl]
      obtain ⟨s1, a1, a2, a3⟩ := qi_byte hn hb (c := 45) (by omega) (by omega) hs ht
      have t1 := qi_t1 (qi_f01 a3) ht
      have r4 : s1.1 37 4 = nI f := by rw [a3.2.2 4 (by omega)]; exact hs4
      rw [a1, qn_b]
      by_cases m : qi_b n T p = 45
      · have sg : qi_sg (qi_b n T) 77 p = ((qi_nm (qi_b n T) 2 (p + 1)).1, (qi_nm (qi_b n T) 2 (p + 1)).2.1, -(qi_nm (qi_b n T) 2 (p + 1)).2.2) := by unfold qi_sg; rw [if_neg (show ¬ (77 : Nat) = 78 by omega), if_neg (show ¬ (77 : Nat) = 68 by omega), if_pos rfl, if_pos m]
        rw [if_pos m] at a2
        obtain ⟨s', e1, e2, e3, e4, e6⟩ := qi_num hn hb (k := 2) (by omega) f4 (-1) (by omega) a2 r4 t1
        rw [sg]
        refine ⟨s', ?_, e2, qi_f0_t (qi_f01 a3) e3, ?_, fun j hj => by rw [e6 j hj, a3.2.1 38 (by omega)]⟩
        · rw [if_pos m, if_neg qn_10, e1, qn_b, qn_bif]
        · intro ok
          obtain ⟨x1, x2⟩ := e4 ok
          exact ⟨fun _ => ⟨x1, by rw [x2, ← Int32.neg_eq_neg_one_mul]⟩, fun z => absurd z (by decide)⟩
      · have sg : qi_sg (qi_b n T) 77 p = qi_nm (qi_b n T) 2 p := by unfold qi_sg; rw [if_neg (show ¬ (77 : Nat) = 78 by omega), if_neg (show ¬ (77 : Nat) = 68 by omega), if_pos rfl, if_neg m]
        rw [if_neg m] at a2
        obtain ⟨s', e1, e2, e3, e4, e6⟩ := qi_num hn hb (k := 2) (by omega) f4 1 (by omega) a2 r4 t1
        rw [sg]
        refine ⟨s', ?_, e2, qi_f0_t (qi_f01 a3) e3, ?_, fun j hj => by rw [e6 j hj, a3.2.1 38 (by omega)]⟩
        · rw [if_neg m, if_pos rfl, e1, qn_b, qn_bif]
        · intro ok
          obtain ⟨x1, x2⟩ := e4 ok
          exact ⟨fun _ => ⟨x1, by rw [x2, Int32.one_mul]⟩, fun z => absurd z (by decide)⟩
    · rw [if_neg (fun y => c2 ((nI_eq (by omega) (by omega)).mp y))]
      by_cases c3 : sym = 78
      · subst c3
        have f4 := hf (by decide)
        have sg : qi_sg (qi_b n T) 78 p = qi_nm (qi_b n T) 2 p := by unfold qi_sg; rw [if_pos rfl]
        obtain ⟨s', e1, e2, e3, e4, e6⟩ := qi_num hn hb (k := 2) (by omega) f4 1 (by omega) hs hs4 ht
        rw [sg, if_pos rfl]
        refine ⟨s', ?_, e2, e3, ?_, e6⟩
        · rw [e1, qn_b, qn_bif]
        · intro ok
          obtain ⟨x1, x2⟩ := e4 ok
          exact ⟨fun _ => ⟨x1, by rw [x2, Int32.one_mul]⟩, fun z => absurd z (by decide)⟩
      · have sg : qi_sg (qi_b n T) sym p = if qi_b n T p = sym then (true, p + 1, 0) else (false, p, 0) := by unfold qi_sg; rw [if_neg c3, if_neg c1, if_neg c2]
        rw [if_neg (fun y => c3 ((nI_eq (by omega) (by omega)).mp y)), sg]
        obtain ⟨s1, a1, a2, a3⟩ := qi_byte hn hb (c := sym) (by omega) (by omega) hs ht
        have nu : qi_nu sym = false := decide_eq_false (by omega)
        have r4 : s1.1 37 4 = nI f := by rw [a3.2.2 4 (by omega)]; exact hs4
        refine ⟨s1, ?_, ?_, qi_f01 a3, fun _ => ⟨(fun z => by rw [nu] at z; cases z), fun _ => r4⟩, fun j _ => by rw [a3.2.1 38 (by omega)]⟩
        · rw [a1, qn_b, qn_bif]
          by_cases m : qi_b n T p = sym
          · rw [if_pos m, if_pos m]
            rfl
          · rw [if_neg m, if_neg m]
            rfl
        · rw [a2]
          by_cases m : qi_b n T p = sym
          · rw [if_pos m, if_pos m]
          · rw [if_neg m, if_neg m]
theorem qi_sg_pos (b : Nat → Nat) (sym p : Nat) : (qi_sg b sym p).2.1 ≤ p + 3 := by
  have c1 := qi_c_le b 2 p
  have c2 := qi_c_le b 1 p
  have c3 := qi_c_le b 2 (p + 1)
  unfold qi_sg qi_nm
  split
  · show p + qi_c b 2 p ≤ p + 3; omega
  · split
    · show p + qi_c b 1 p ≤ p + 3; omega
    · split
      · split
        · show p + 1 + qi_c b 2 (p + 1) ≤ p + 3; omega
        · show p + qi_c b 2 p ≤ p + 3; omega
      · split
        · show p + 1 ≤ p + 3; omega
        · show p ≤ p + 3; omega
theorem qi_L48 {n : Nat} {T : Nat → Nat} (hn : n ≤ 120) (hb : ∀ i, qi_b n T i ≤ 127) (x2 : UInt32) : ∀ (rest : List Nat) (j f p F : Nat) (s : qe_S), (∀ i, i < rest.length → qt_ch x2.toNat (nI (j + i)) = nI (rest.getD i 0) ∧ rest.getD i 0 ≤ 127) → qe_len.getD x2.toNat 0 = j + rest.length → j + rest.length ≤ 7 → rest.length < F → f + qi_nc rest ≤ 4 → p + 3 * rest.length < 2 ^ 18 → s.1 37 2 = nI p → s.1 37 4 = nI f → qi_tC n T s → ∃ s', g_X6_readClause_L48 x2 F (nI j) s = some (if (qi_fl (qi_b n T) rest (true, p)).1 = true then 1 else 0, s') ∧ s'.1 37 2 = nI (qi_fl (qi_b n T) rest (true, p)).2 ∧ qi_f0 s s' ∧ ((qi_fl (qi_b n T) rest (true, p)).1 = true → ∀ i, i < (qi_rv (qi_b n T) rest (true, p)).length → s'.1 38 (f + i) = (qi_rv (qi_b n T) rest (true, p)).getD i 0) ∧ (∀ i, i < f → s'.1 38 i = s.1 38 i) := by
  intro rest
  induction rest with
  | nil =>
    intro j f p F s hch hlen h7 hF hf hp hs hs4 ht
    obtain ⟨F, rfl⟩ : ∃ m, F = m + 1 := ⟨F - 1, by omega⟩
    have hl : j + ([] : List Nat).length = j := rfl
    refine ⟨s, ?_, hs, ⟨rfl, fun _ _ _ => rfl, fun _ _ _ => rfl⟩, fun _ i hi => absurd hi (Nat.not_lt_zero _), fun _ _ => rfl⟩
    simp only [g_X6_readClause_L48, qt_length]
    rw [qn_b, hlen, hl]
    have le : Int32.ofNat j ≤ nI j := nI_le (Nat.le_refl _) (by omega)
    rw [if_pos le]
    rfl
  | cons sym rest ih =>
    intro j f p F s hch hlen h7 hF hf hp hs hs4 ht
    obtain ⟨F, rfl⟩ : ∃ m, F = m + 1 := ⟨F - 1, by omega⟩
    have hcl : (sym :: rest).length = rest.length + 1 := rfl
    rw [hcl] at hlen h7 hF hp hch
    have ch0 := hch 0 (by omega)
    have ch0' : qt_ch x2.toNat (nI j) = nI sym := ch0.1
    have sy : sym ≤ 127 := ch0.2
    have nf : qi_nu sym = true → f < 4 := fun z => by
      simp only [qi_nc] at hf
      rw [if_pos z] at hf
      omega
    obtain ⟨s1, a1, a2, a3, a4, a5⟩ := qi_sign hn hb sy nf (by omega) hs hs4 ht
    have sp := qi_sg_pos (qi_b n T) sym p
    have nle : ¬ Int32.ofNat (j + (rest.length + 1)) ≤ nI j := nI_ge (by omega) (by omega)
    have charAt : qt_charAt x2.toNat (nI j) s = some (nI sym, s) := by
      unfold qt_charAt
      rw [hlen, qn_g (by omega) (by omega), ch0']
    have pre : g_X6_readClause_L48 x2 (F + 1) (nI j) s = if (qi_sg (qi_b n T) sym p).1 = true then g_X6_readClause_L48 x2 F (nI (j + 1)) s1 else some ((0 : Int32), s1) := by
      simp only [g_X6_readClause_L48, qt_length]
      rw [qn_b, hlen, if_neg nle, charAt, qn_b, a1, qn_b, qn_if0, qn_l, nI_1]
    have fst : qi_fs (qi_b n T) (true, p) sym = ((qi_sg (qi_b n T) sym p).1, (qi_sg (qi_b n T) sym p).2.1) := if_pos rfl
    have nvt : qi_nv (qi_b n T) (true, p) sym = (qi_sg (qi_b n T) sym p).2.2 := if_pos rfl
    have flt : qi_fl (qi_b n T) (sym :: rest) (true, p) = qi_fl (qi_b n T) rest ((qi_sg (qi_b n T) sym p).1, (qi_sg (qi_b n T) sym p).2.1) := by
      rw [← fst]; rfl
    have rvt : qi_rv (qi_b n T) (sym :: rest) (true, p) = if qi_nu sym = true then (qi_sg (qi_b n T) sym p).2.2 :: qi_rv (qi_b n T) rest ((qi_sg (qi_b n T) sym p).1, (qi_sg (qi_b n T) sym p).2.1) else qi_rv (qi_b n T) rest ((qi_sg (qi_b n T) sym p).1, (qi_sg (qi_b n T) sym p).2.1) := by
      rw [← fst, ← nvt]; rfl
    rw [pre, flt, rvt]
    cases ok : (qi_sg (qi_b n T) sym p).1 with
    | false =>
      rw [qi_fl_dead, if_neg (show ¬ (false = true) from by decide), if_neg (show ¬ ((false, (qi_sg (qi_b n T) sym p).2.1).1 = true) from by simp)]
      refine ⟨s1, rfl, a2, a3, (fun z => absurd z (by simp)), fun i hi => a5 i (by omega)⟩
    | true =>
      rw [if_pos rfl]
      obtain ⟨k1, k2⟩ := a4 ok
      have t1 := qi_t1 a3 ht
      cases nu : qi_nu sym with
      | true =>
        obtain ⟨x1, x2'⟩ := k1 nu
        simp only [qi_nc] at hf
        rw [if_pos nu] at hf
        obtain ⟨s', e1, e2, e3, e4, e5⟩ := ih (j + 1) (f + 1) (qi_sg (qi_b n T) sym p).2.1 F s1 (fun i hi => by
          have := hch (i + 1) (by omega)
          rw [show j + (i + 1) = j + 1 + i by omega] at this
          exact this) (by omega) (by omega) (by omega) (by omega) (by omega) a2 x1 t1
        refine ⟨s', e1, e2, qi_f0_t a3 e3, fun okk i hi => ?_, fun i hi => by rw [e5 i (by omega), a5 i (by omega)]⟩
        rw [if_pos rfl] at hi ⊢
        cases i with
        | zero =>
          show s'.1 38 f = (qi_sg (qi_b n T) sym p).2.2
          rw [e5 f (by omega), x2']
        | succ i =>
          have := e4 okk i (Nat.lt_of_succ_lt_succ hi)
          rw [show f + (i + 1) = f + 1 + i by omega]
          exact this
      | false =>
        have x1 := k2 nu
        simp only [qi_nc] at hf
        rw [if_neg (by rw [nu]; decide)] at hf
        obtain ⟨s', e1, e2, e3, e4, e5⟩ := ih (j + 1) f (qi_sg (qi_b n T) sym p).2.1 F s1 (fun i hi => by
          have := hch (i + 1) (by omega)
          rw [show j + (i + 1) = j + 1 + i by omega] at this
          exact this) (by omega) (by omega) (by omega) (by omega) (by omega) a2 x1 t1
        refine ⟨s', e1, e2, qi_f0_t a3 e3, fun okk i hi => ?_, fun i hi => by rw [e5 i hi, a5 i (by omega)]⟩
        rw [if_neg (by decide)] at hi ⊢
        exact e4 okk i hi
def qi_str (i : Nat) : List Nat := [[78, 47, 78, 44, 68, 44, 77], [78, 44, 78, 47, 78], [68], [78], [78, 44, 78], []].getD i []
theorem qi_str_ch : ∀ i, i < 6 → ∀ j, j < (qi_str i).length → qt_ch i (nI (0 + j)) = nI ((qi_str i).getD j 0) ∧ (qi_str i).getD j 0 ≤ 127 := by decide +kernel
theorem qi_str_len : ∀ i, i < 6 → qe_len.getD i 0 = 0 + (qi_str i).length ∧ 0 + (qi_str i).length ≤ 7 ∧ 0 + qi_nc (qi_str i) ≤ 4 := by decide +kernel
theorem qi_shape {k : Nat} (hk : k ≤ 127) (s : qe_S) : ∃ x : UInt32, x.toNat < 6 ∧ g_X6_shapeOf (nI k) s = some (.float x, s) ∧ qi_str x.toNat = qi_sh k := by
  have e : ∀ c, c ≤ 127 → (nI k = nI c ↔ k = c) := fun c hc => nI_eq (by omega) (by omega)
  unfold g_X6_shapeOf qi_sh
  by_cases h1 : k = 110
  · subst h1; exact ⟨1, by decide, by rw [if_pos rfl], by decide⟩
  · by_cases h2 : k = 111
    · subst h2; exact ⟨2, by decide, by rw [if_neg (by decide), if_pos rfl], by decide⟩
    · by_cases h3 : k = 114
      · subst h3; exact ⟨3, by decide, by rw [if_neg (by decide), if_neg (by decide), if_pos rfl], by decide⟩
      · by_cases h4 : k = 115
        · subst h4; exact ⟨1, by decide, by rw [if_neg (by decide), if_neg (by decide), if_neg (by decide), if_pos rfl], by decide⟩
        · by_cases h5 : k = 117
          · subst h5; exact ⟨0, by decide, by rw [if_neg (by decide), if_neg (by decide), if_neg (by decide), if_neg (by decide), if_pos rfl], by decide⟩
          · by_cases h6 : k = 120
            · subst h6; exact ⟨4, by decide, by rw [if_neg (by decide), if_neg (by decide), if_neg (by decide), if_neg (by decide), if_neg (by decide), if_pos rfl], by decide⟩
            · refine ⟨5, by decide, ?_, ?_⟩
              · rw [if_neg (fun z => h1 ((e 110 (by omega)).mp z)), if_neg (fun z => h2 ((e 111 (by omega)).mp z)), if_neg (fun z => h3 ((e 114 (by omega)).mp z)), if_neg (fun z => h4 ((e 115 (by omega)).mp z)), if_neg (fun z => h5 ((e 117 (by omega)).mp z)), if_neg (fun z => h6 ((e 120 (by omega)).mp z))]
              · rw [if_neg h5, if_neg h4, if_neg h1, if_neg h2, if_neg h3, if_neg h6]; decide
def qi_f (s s' : qe_S) : Prop := s'.2 = s.2 ∧ (∀ a, a ≠ 37 → a ≠ 38 → s'.1 a = s.1 a) ∧ (∀ j, j ≠ 1 → j ≠ 2 → j ≠ 4 → s'.1 37 j = s.1 37 j)
theorem qi_t {n : Nat} {T : Nat → Nat} {s s' : qe_S} (h : qi_f s s') (t : qi_tC n T s) : qi_tC n T s' := ⟨by rw [h.2.2 0 (by omega) (by omega) (by omega)]; exact t.1, fun i hi => by rw [h.2.1 39 (by omega) (by omega)]; exact t.2 i hi⟩
theorem qi_readC {n : Nat} {T : Nat → Nat} (hn : n ≤ 120) (hb : ∀ i, qi_b n T i ≤ 127) {p : Nat} (hp : p ≤ 130) {s : qe_S} (ht : qi_tC n T s) : ∃ s', g_X6_readClause (nI p) s = some (if (qi_cs (qi_b n T) p).1 = true then 1 else 0, s') ∧ s'.1 37 2 = nI (qi_cs (qi_b n T) p).2 ∧ s'.1 37 1 = nI (qi_b n T p) ∧ qi_f s s' ∧ ((qi_cs (qi_b n T) p).1 = true → ∀ i, i < (qi_cv (qi_b n T) p).length → s'.1 38 i = (qi_cv (qi_b n T) p).getD i 0) := by
  have hbp := hb p
  unfold g_X6_readClause
  rw [qi_byteAt hn ht (by omega), qn_b, qn_l, qn_l, qn_l]
  generalize hs0 : qe_si (qe_si (qe_si s 37 1 (nI (qi_b n T p))) 37 2 (nI p)) 37 4 0 = s0
  have k0 : s0.1 37 1 = nI (qi_b n T p) := by rw [← hs0, qn_si_j (by omega), qn_si_j (by omega), qn_si_eq]
  have r0 : s0.1 37 2 = nI p := by rw [← hs0, qn_si_j (by omega), qn_si_eq]
  have f0 : s0.1 37 4 = nI 0 := by rw [← hs0, qn_si_eq]; rfl
  have fr0 : qi_f s s0 := by
    rw [← hs0]
    exact ⟨rfl, fun a p1 _ => by funext y; rw [qn_si_k p1, qn_si_k p1, qn_si_k p1], fun j p1 p2 p3 => by rw [qn_si_j p3, qn_si_j p2, qn_si_j p1]⟩
  have t0 := qi_t fr0 ht
  obtain ⟨x, x1, x2, x3⟩ := qi_shape hbp s0
  obtain ⟨l1, l2, l3⟩ := qi_str_len x.toNat x1
  have qs : ∀ F : UInt32 → Option (Int32 × qe_S), qm_s (.float x) F = F x := fun F => if_pos x1
  rw [k0, x2, qn_b, qs]
  unfold qt_isEmpty qi_cs qi_cv
  rw [qn_b, ← x3, l1, Nat.zero_add]
  by_cases em : qi_str x.toNat = []
  · rw [em]
    refine ⟨s0, ?_, r0, k0, fr0, fun z => ?_⟩
    · rw [if_pos rfl, if_neg (by decide)]
      simp
    · rw [if_pos rfl] at z; cases z
  · have lp : (qi_str x.toNat).length ≠ 0 := fun z => em (List.eq_nil_of_length_eq_zero z)
    have nz : ¬ Int32.ofNat (qi_str x.toNat).length = 0 := nI_ne0 (by omega) (by omega)
    have t1 : qi_tC n T (qe_si s0 37 2 (nI (p + 1))) := ⟨by rw [qn_si_j (by omega)]; exact t0.1, fun j hj => by rw [qn_si_k (by omega)]; exact t0.2 j hj⟩
    have L := qi_L48 hn hb x (qi_str x.toNat) 0 0 (p + 1) qm_F (qe_si s0 37 2 (nI (p + 1))) (fun i hi => qi_str_ch x.toNat x1 i hi) l1 l2 (by rw [qn_F]; omega) l3 (by omega) qn_si_eq (by rw [qn_si_j (by omega)]; exact f0) t1
    rw [nI_0] at L
    obtain ⟨s', e1, e2, e3, e4, e5⟩ := L
    refine ⟨s', ?_, ?_, ?_, ?_, ?_⟩
    · rw [if_neg nz, if_pos rfl, r0, nI_1, qn_l, qn_l, e1, if_neg em]
    · rw [if_neg em]; exact e2
    · rw [e3.2.2 1 (by omega) (by omega), qn_si_j (by omega)]; exact k0
    · refine ⟨e3.1.trans fr0.1, fun a p1 p2 => ?_, fun j p1 p2 p3 => ?_⟩
      · rw [e3.2.1 a p1 p2, ← fr0.2.1 a p1 p2]
        funext y; exact qn_si_k p1
      · rw [e3.2.2 j p2 p3, ← fr0.2.2 j p1 p2 p3]
        exact qn_si_j p2
    · rw [if_neg em]
      intro ok i hi
      have := e4 ok i hi
      rw [Nat.zero_add] at this
      exact this
