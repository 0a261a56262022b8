/-! THE WHOLE TAPE by both: a text, or the same fault -/
theorem qi_c_n {n : Nat} {T : Nat → Nat} : ∀ k p, p ≤ n → p + qi_c (qi_b n T) k p ≤ n := by
  intro k
  induction k with
  | zero => intro p h; exact h
  | succ k ih =>
    intro p h
    simp only [qi_c]
    by_cases c : qi_dg (qi_b n T) p = true
    · have c48 : 48 ≤ qi_b n T p := (of_decide_eq_true c).1
      have pn : p < n := by
        apply Nat.lt_of_not_le
        intro z
        have : qi_b n T p = 0 := if_neg (by omega)
        omega
      have := ih (p + 1) (by omega)
      rw [if_pos c]
      omega
    · rw [if_neg c]; exact h
theorem qi_b_n {n : Nat} {T : Nat → Nat} {p c : Nat} (h : qi_b n T p = c) (hc : 1 ≤ c) : p < n := by
  apply Nat.lt_of_not_le
  intro z
  have : qi_b n T p = 0 := if_neg (by omega)
  omega
theorem qi_sg_n {n : Nat} {T : Nat → Nat} {sym p : Nat} (hs : 1 ≤ sym) (hp : p ≤ n) : (qi_sg (qi_b n T) sym p).2.1 ≤ n ∧ p ≤ (qi_sg (qi_b n T) sym p).2.1 := by
  have c1 := qi_c_n (T := T) 2 p hp
  have c2 := qi_c_n (T := T) 1 p hp
  unfold qi_sg qi_nm
  split
  · exact ⟨c1, Nat.le_add_right _ _⟩
  · split
    · exact ⟨c2, Nat.le_add_right _ _⟩
    · split
      · split
        · rename_i h
          have pn : p < n := qi_b_n (n := n) (T := T) (p := p) (c := 45) h (by omega)
          have c3 := qi_c_n (n := n) (T := T) 2 (p + 1) (by omega)
          exact ⟨c3, by show p ≤ p + 1 + qi_c (qi_b n T) 2 (p + 1); omega⟩
        · exact ⟨c1, Nat.le_add_right _ _⟩
      · split
        · rename_i h
          have pn : p < n := qi_b_n (n := n) (T := T) (p := p) (c := sym) h hs
          exact ⟨by show p + 1 ≤ n; omega, by show p ≤ p + 1; omega⟩
        · exact ⟨hp, Nat.le_refl _⟩
theorem qi_fl_n {n : Nat} {T : Nat → Nat} : ∀ (l : List Nat) (st : Bool × Nat), (∀ s, s ∈ l → 1 ≤ s) → st.2 ≤ n → (qi_fl (qi_b n T) l st).2 ≤ n ∧ st.2 ≤ (qi_fl (qi_b n T) l st).2 := by
  intro l
  induction l with
  | nil => intro st _ h; exact ⟨h, Nat.le_refl _⟩
  | cons s l ih =>
    intro st hl h
    have f : (qi_fs (qi_b n T) st s).2 ≤ n ∧ st.2 ≤ (qi_fs (qi_b n T) st s).2 := by
      unfold qi_fs
      split
      · exact qi_sg_n (hl s List.mem_cons_self) h
      · exact ⟨h, Nat.le_refl _⟩
    have r := ih (qi_fs (qi_b n T) st s) (fun x hx => hl x (List.mem_cons_of_mem _ hx)) f.1
    simp only [qi_fl]
    exact ⟨r.1, Nat.le_trans f.2 r.2⟩
theorem qi_sh_1 (k : Nat) : ∀ s, s ∈ qi_sh k → 1 ≤ s := by
  intro s hs
  unfold qi_sh at hs
  split at hs
  · revert s; decide
  · split at hs
    · revert s; decide
    · split at hs
      · revert s; decide
      · split at hs
        · revert s; decide
        · split at hs
          · revert s; decide
          · split at hs
            · revert s; decide
            · cases hs
theorem qi_sh_0 : qi_sh 0 = [] := by decide
theorem qi_cs_n {n : Nat} {T : Nat → Nat} {p : Nat} (hp : p ≤ n) : (qi_cs (qi_b n T) p).2 ≤ n ∧ ((qi_cs (qi_b n T) p).1 = true → p + 1 ≤ (qi_cs (qi_b n T) p).2) := by
  unfold qi_cs
  by_cases c : qi_sh (qi_b n T p) = []
  · rw [if_pos c]
    exact ⟨hp, fun z => by cases z⟩
  · rw [if_neg c]
    have pn : p < n := by
      apply Nat.lt_of_not_le
      intro z
      have : qi_b n T p = 0 := if_neg (by omega)
      rw [this] at c
      exact c qi_sh_0
    have r := qi_fl_n (T := T) (qi_sh (qi_b n T p)) (true, p + 1) (qi_sh_1 _) (show p + 1 ≤ n by omega)
    exact ⟨r.1, fun _ => r.2⟩
/-- where the clauses begin -/
def qi_P (b : Nat → Nat) : Nat → Nat
  | 0 => 0
  | j + 1 => (qi_cs b (qi_P b j)).2 + 1
def qi_h (τ t : qe_S) : Prop := t.2 = τ.2 ∧ (∀ a, a ≠ 0 → a ≠ 16 → t.1 a = τ.1 a) ∧ (∀ j, j ≠ 23 → j ≠ 24 → j ≠ 25 → t.1 0 j = τ.1 0 j)
theorem qi_ht {a b c : qe_S} (h : qi_h a b) (g : qi_h b c) : qi_h a c := ⟨g.1.trans h.1, fun x p q => (g.2.1 x p q).trans (h.2.1 x p q), fun j p q r => (g.2.2 j p q r).trans (h.2.2 j p q r)⟩
theorem qi_ft {a b c : qe_S} (h : qi_f a b) (g : qi_f b c) : qi_f a c := ⟨g.1.trans h.1, fun x p q => (g.2.1 x p q).trans (h.2.1 x p q), fun j p q r => (g.2.2 j p q r).trans (h.2.2 j p q r)⟩
/-- the clauses from the k-th to the m-th, as they are kept -/
def qi_V (b : Nat → Nat) (k m : Nat) (t : qe_S) : Prop := ∀ j, k ≤ j → j ≤ m → t.1 16 (5 * j) = nI (qi_P b j) ∧ ∀ i, i < (qi_cv b (qi_P b j)).length → t.1 16 (5 * j + 1 + i) = (qi_cv b (qi_P b j)).getD i 0
theorem qi_cv_len (b : Nat → Nat) (p : Nat) : (qi_cv b p).length ≤ 4 := by
  have rl : ∀ (l : List Nat) (st : Bool × Nat), (qi_rv b l st).length = qi_nc l := by
    intro l
    induction l with
    | nil => intro st; rfl
    | cons s l ih =>
      intro st
      simp only [qi_rv, qi_nc]
      split
      · rw [List.length_cons, ih]
      · exact ih _
  unfold qi_cv
  rw [rl]
  have nk : ∀ k, qi_nc (qi_sh k) ≤ 4 := by
    intro k
    unfold qi_sh
    split
    · decide
    · split
      · decide
      · split
        · decide
        · split
          · decide
          · split
            · decide
            · split <;> decide
  exact nk _
theorem qi_text {n : Nat} {T : Nat → Nat} (hn : n ≤ 120) (hb : ∀ i, qi_b n T i ≤ 127) (K : qe_S → Option (Int32 × qe_S)) : ∀ (M k Fc Fm : Nat) (s t : qe_S), n + 1 ≤ qi_P (qi_b n T) k + M → M ≤ Fc → M ≤ Fm → 1 ≤ M → qi_P (qi_b n T) k ≤ n → 2 * k ≤ qi_P (qi_b n T) k → qi_tC n T s → qi_tM n T t → qi_A (true, qi_P (qi_b n T) k) t → t.1 0 25 = nI k → ∃ (r : Int32) (s' t' : qe_S), g_X6_fault_L4 Fc (nI (qi_P (qi_b n T) k)) (nI k) s = some (r, s') ∧ (qm_o (g_X9_reads t) fun s4 => g_X9_tells_L19 K Fm s4) = K t' ∧ qi_f s s' ∧ qi_h t t' ∧ (∀ x, x < 5 * k → t'.1 16 x = t.1 16 x) ∧ ((r = -1 ∧ qi_A (true, n) t' ∧ ∃ m, k ≤ m ∧ m ≤ 60 ∧ t'.1 0 25 = nI m ∧ qi_V (qi_b n T) k m t' ∧ (∀ j, k ≤ j → j ≤ m → qi_P (qi_b n T) j ≤ n ∧ (qi_cs (qi_b n T) (qi_P (qi_b n T) j)).1 = true) ∧ (qi_cs (qi_b n T) (qi_P (qi_b n T) m)).2 = n ∧ (∀ j, k ≤ j → j < m → (qi_cs (qi_b n T) (qi_P (qi_b n T) j)).2 < n)) ∨ ∃ q, q ≤ n ∧ r = nI q ∧ ∃ ok : Bool, qi_A (ok, q) t' ∧ (ok = true → q < n)) := by
  intro M
  induction M with
  | zero => intro k Fc Fm s t h1 h2 h3 h4; omega
  | succ M ih =>
    intro k Fc Fm s t h1 h2 h3 h4 hp hk hC hM hA h25
    obtain ⟨Fc, rfl⟩ : ∃ q, Fc = q + 1 := ⟨Fc - 1, by omega⟩
    obtain ⟨Fm, rfl⟩ : ∃ q, Fm = q + 1 := ⟨Fm - 1, by omega⟩
    generalize hpe : qi_P (qi_b n T) k = p at h1 hp hk hA
    obtain ⟨s1, a1, a2, a3, a4, a5⟩ := qi_readC hn hb (p := p) (by omega) hC
    obtain ⟨t1, b1, Z⟩ := qi_reads hn hb (k := k) (by omega) hp hA hM h25
    obtain ⟨csn, cs1⟩ := qi_cs_n (T := T) hp
    have C1 := qi_t a4 hC
    have h37 : s1.1 37 0 = nI n := C1.1
    have fr1 : qi_h t t1 := ⟨Z.2.2.1.1, Z.2.2.1.2.1, fun j p1 p2 _ => Z.2.2.1.2.2 j p1 p2⟩
    have k25 : t1.1 0 25 = nI k := by rw [Z.2.2.1.2.2 25 (by omega) (by omega)]; exact h25
    have isf := qi_isFrom hn hb (lo := 59) (hi := 59) (by omega) (by omega) (by omega) (show (qi_cs (qi_b n T) p).2 < 2 ^ 20 by omega) Z.1 Z.2.1
    have preC : g_X6_fault_L4 (Fc + 1) (nI p) (nI k) s = (if (qi_cs (qi_b n T) p).1 = true then (if (s1.1 37 2) < (s1.1 37 0) then (qm_b (g_X6_byteAt (s1.1 37 2) s1) fun a6 s5 => if a6 = (nI 59) then (qm_l ((s5.1 37 2) + (1 : Int32)) fun a7 => qm_l (nI k + (1 : Int32)) fun a8 => g_X6_fault_L4 Fc a7 a8 s5) else some ((s5.1 37 2), s5)) else some ((-1 : Int32), s1)) else some ((s1.1 37 2), s1)) := by
      simp only [g_X6_fault_L4]
      rw [if_neg (nI_nlt (by omega) (by omega)), a1, qn_b, qn_if0]
    have preM : (qm_o (g_X9_reads t) fun s4 => g_X9_tells_L19 K (Fm + 1) s4) = (if ((qi_cs (qi_b n T) p).1 && decide (59 ≤ qi_b n T (qi_cs (qi_b n T) p).2 ∧ qi_b n T (qi_cs (qi_b n T) p).2 ≤ 59)) = true then (qm_l (qe_si t1 0 25 ((t1.1 0 25) + (1 : Int32))) fun s7 => qm_l (qe_si s7 0 23 ((s7.1 0 23) + (1 : Int32))) fun s8 => qm_o (g_X9_reads s8) fun s9 => g_X9_tells_L19 K Fm s9) else K t1) := by
      rw [b1, qn_o]
      simp only [g_X9_tells_L19]
      rw [isf, qn_b, qn_if0]
    rw [preC, preM]
    have low : ∀ x, x < 5 * k → t1.1 16 x = t.1 16 x := Z.2.2.2.1
    cases ok : (qi_cs (qi_b n T) p).1 with
    | false =>
      have stf : qi_cs (qi_b n T) p = (false, (qi_cs (qi_b n T) p).2) := by rw [← ok]
      rw [if_neg (by decide), if_neg (by simp)]
      refine ⟨_, s1, t1, rfl, rfl, a4, fr1, low, Or.inr ⟨(qi_cs (qi_b n T) p).2, csn, a2, false, ?_, fun z => by cases z⟩⟩
      rw [← stf]
      exact Z.1
    | true =>
      have stt : qi_cs (qi_b n T) p = (true, (qi_cs (qi_b n T) p).2) := by rw [← ok]
      rw [if_pos rfl, a2, h37, Bool.true_and]
      by_cases c : (qi_cs (qi_b n T) p).2 < n
      · rw [if_pos (nI_lt c (by omega)), qi_byteAt hn C1 (by omega), qn_b]
        by_cases e : qi_b n T (qi_cs (qi_b n T) p).2 = 59
        · have pn : qi_P (qi_b n T) (k + 1) = (qi_cs (qi_b n T) p).2 + 1 := by rw [← hpe]; rfl
          have p1 := cs1 ok
          rw [if_pos (congrArg nI e), if_pos (decide_eq_true (by omega)), a2, nI_1, nI_1, qn_l, qn_l, k25, nI_1, qn_l, qn_si_j (by omega), Z.1.1, nI_1, qn_l]
          have g1 : qi_h t1 (qe_si (qe_si t1 0 25 (nI (k + 1))) 0 23 (nI ((qi_cs (qi_b n T) p).2 + 1))) := ⟨rfl, fun a p1 _ => by funext y; rw [qn_si_k p1, qn_si_k p1], fun j p1 _ p3 => by rw [qn_si_j p1, qn_si_j p3]⟩
          have M2 : qi_tM n T (qe_si (qe_si t1 0 25 (nI (k + 1))) 0 23 (nI ((qi_cs (qi_b n T) p).2 + 1))) := ⟨by rw [g1.2.2 21 (by omega) (by omega) (by omega)]; exact Z.2.1.1, fun i hi => by rw [g1.2.1 15 (by omega) (by omega)]; exact Z.2.1.2 i hi⟩
          have A2 : qi_A (true, qi_P (qi_b n T) (k + 1)) (qe_si (qe_si t1 0 25 (nI (k + 1))) 0 23 (nI ((qi_cs (qi_b n T) p).2 + 1))) := by
            rw [pn]
            refine ⟨qn_si_eq, ?_⟩
            rw [qn_si_j (by omega), qn_si_j (by omega), Z.1.2, ok]
            rfl
          obtain ⟨r, s', t', e1, e2, e3, e4, e5, e6⟩ := ih (k + 1) Fc Fm s1 (qe_si (qe_si t1 0 25 (nI (k + 1))) 0 23 (nI ((qi_cs (qi_b n T) p).2 + 1))) (by omega) (by omega) (by omega) (by omega) (by omega) (by omega) C1 M2 A2 (by rw [qn_si_j (by omega), qn_si_eq])
          rw [pn] at e1
          have old : ∀ x, x < 5 * (k + 1) → t'.1 16 x = t1.1 16 x := fun x hx => by rw [e5 x hx, qn_si_k (by omega), qn_si_k (by omega)]
          refine ⟨r, s', t', e1, e2, qi_ft a4 e3, qi_ht (qi_ht fr1 g1) e4, fun x hx => by rw [old x (by omega)]; exact low x hx, ?_⟩
          rcases e6 with ⟨r1, r2, m, m1, m2, m3, m4, m5, m6, m7⟩ | h
          · refine Or.inl ⟨r1, r2, m, by omega, m2, m3, fun j j1 j2 => ?_, fun j j1 j2 => ?_, m6, fun j j1 j2 => ?_⟩
            · by_cases jk : j = k
              · subst jk
                have cl := qi_cv_len (qi_b n T) p
                rw [hpe]
                refine ⟨by rw [old _ (by omega)]; exact Z.2.2.2.2.1, fun i hi => ?_⟩
                rw [old _ (by omega)]
                exact Z.2.2.2.2.2 i hi
              · exact m4 j (by omega) j2
            · by_cases jk : j = k
              · subst jk
                rw [hpe]
                exact ⟨hp, ok⟩
              · exact m5 j (by omega) j2
            · by_cases jk : j = k
              · subst jk
                rw [hpe]
                exact c
              · exact m7 j (by omega) j2
          · exact Or.inr h
        · have hbq := hb (qi_cs (qi_b n T) p).2
          rw [if_neg (fun z => e ((nI_eq (by omega) (by omega)).mp z)), if_neg (by simp; omega)]
          refine ⟨_, s1, t1, rfl, rfl, a4, fr1, low, Or.inr ⟨(qi_cs (qi_b n T) p).2, csn, a2, true, ?_, fun _ => c⟩⟩
          rw [← stt]
          exact Z.1
      · have qn : (qi_cs (qi_b n T) p).2 = n := by omega
        have b0 : qi_b n T (qi_cs (qi_b n T) p).2 = 0 := if_neg (by omega)
        rw [if_neg (nI_nlt (by omega) (by omega)), b0, if_neg (by decide)]
        refine ⟨_, s1, t1, rfl, rfl, a4, fr1, low, Or.inl ⟨rfl, ?_, k, Nat.le_refl _, by omega, k25, fun j j1 j2 => ?_, fun j j1 j2 => ?_, by rw [hpe]; exact qn, fun j j1 j2 => by omega⟩⟩
        · have z1 := Z.1
          rw [stt, qn] at z1
          exact z1
        · have jk : j = k := by omega
          subst jk
          rw [hpe]
          exact ⟨Z.2.2.2.2.1, Z.2.2.2.2.2⟩
        · have jk : j = k := by omega
          subst jk
          rw [hpe]
          exact ⟨hp, ok⟩
