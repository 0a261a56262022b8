/-! THE TAPE READ by the reference -/
def qi_tM (n : Nat) (T : Nat → Nat) (s : qe_S) : Prop := s.1 0 21 = nI n ∧ ∀ i, i < n → s.1 15 i = nI (T i)
def qi_A (st : Bool × Nat) (s : qe_S) : Prop := s.1 0 23 = nI st.2 ∧ s.1 0 24 = if st.1 = true then -1 else nI st.2
def qi_g (s s' : qe_S) : Prop := s'.2 = s.2 ∧ (∀ a, a ≠ 0 → s'.1 a = s.1 a) ∧ (∀ j, j ≠ 23 → j ≠ 24 → s'.1 0 j = s.1 0 j)
theorem qi_gr (s : qe_S) : qi_g s s := ⟨rfl, fun _ _ => rfl, fun _ _ _ => rfl⟩
theorem qi_gt {a b c : qe_S} (h : qi_g a b) (g : qi_g b c) : qi_g a c := ⟨g.1.trans h.1, fun x p => (g.2.1 x p).trans (h.2.1 x p), fun j p q => (g.2.2 j p q).trans (h.2.2 j p q)⟩
theorem qi_g23 (s : qe_S) (x : Int32) : qi_g s (qe_si s 0 23 x) := ⟨rfl, fun a p => by funext y; exact qn_si_k p, fun j p _ => qn_si_j p⟩
theorem qi_g24 (s : qe_S) (x : Int32) : qi_g s (qe_si s 0 24 x) := ⟨rfl, fun a p => by funext y; exact qn_si_k p, fun j _ p => qn_si_j p⟩
theorem qi_tg {n : Nat} {T : Nat → Nat} {s s' : qe_S} (h : qi_g s s') (t : qi_tM n T s) : qi_tM n T s' := ⟨by rw [h.2.2 21 (by omega) (by omega)]; exact t.1, fun i hi => by rw [h.2.1 15 (by omega)]; exact t.2 i hi⟩
theorem qi_isFrom {n : Nat} {T : Nat → Nat} (hn : n ≤ 120) (hb : ∀ i, qi_b n T i ≤ 127) {lo hi : Nat} (h1 : 1 ≤ lo) (h2 : lo ≤ 127) (h3 : hi ≤ 127) {st : Bool × Nat} {s : qe_S} (hst : st.2 < 2 ^ 20) (hA : qi_A st s) (ht : qi_tM n T s) : g_X9_isFrom (nI lo) (nI hi) s = some (if (st.1 && decide (lo ≤ qi_b n T st.2 ∧ qi_b n T st.2 ≤ hi)) = true then 1 else 0, s) := by
  have hbp := hb st.2
  unfold g_X9_isFrom
  simp only [qn_j2, qn_l2]
  cases hs : st.1 with
  | false =>
    have fl : s.1 0 24 = nI st.2 := by rw [hA.2, hs]; rfl
    rw [fl, if_pos (nI_pos' (by omega)), if_neg (by simp)]
  | true =>
    have fl : s.1 0 24 = -1 := by rw [hA.2, hs]; rfl
    rw [fl, if_neg (by decide), ht.1, hA.1]
    by_cases c : st.2 < n
    · have bv : qi_b n T st.2 = T st.2 := if_pos c
      rw [if_neg (nI_ge c (by omega)), qn_g (by omega) (by omega), nI_clamp (by omega), ht.2 _ c, qr_within, qn_b, qn_if0, bv, Bool.true_and]
      by_cases d : lo ≤ T st.2 ∧ T st.2 ≤ hi
      · rw [if_pos ⟨nI_le d.1 (by omega), nI_le d.2 (by omega)⟩, if_pos (decide_eq_true d)]
      · rw [if_neg (fun z => d ⟨(nI_leI (by omega) (by omega)).mp z.1, (nI_leI (by omega) (by omega)).mp z.2⟩), if_neg (by simpa using d)]
    · have bv : qi_b n T st.2 = 0 := if_neg c
      rw [if_pos (nI_le (by omega) (by omega)), bv, if_neg (by simp; omega)]
theorem qi_wrong {st : Bool × Nat} {s : qe_S} (hst : st.2 < 2 ^ 20) (hA : qi_A st s) : ∃ s', g_X9_wrong s = some s' ∧ qi_A (false, st.2) s' ∧ qi_g s s' := by
  unfold g_X9_wrong
  cases hs : st.1 with
  | false =>
    have fl : s.1 0 24 = nI st.2 := by rw [hA.2, hs]; rfl
    rw [fl, if_pos (nI_pos' (by omega))]
    exact ⟨s, rfl, ⟨hA.1, fl⟩, qi_gr s⟩
  | true =>
    have fl : s.1 0 24 = -1 := by rw [hA.2, hs]; rfl
    rw [fl, if_neg (by decide), qn_l]
    exact ⟨_, rfl, ⟨by rw [qn_si_j (by omega)]; exact hA.1, by rw [qn_si_eq, hA.1]; rfl⟩, qi_g24 s _⟩
theorem qi_numLM {n : Nat} {T : Nat → Nat} (hn : n ≤ 120) (hb : ∀ i, qi_b n T i ≤ 127) (K : Int32 → Int32 → qe_S → Option (Int32 × qe_S)) (k0 : Nat) (hk0 : k0 ≤ 2) : ∀ (k i F a p : Nat) (s : qe_S), i + k = k0 → k < F → p + k < 2 ^ 20 → qi_A (true, p) s → qi_tM n T s → ∃ s', g_X9_number_L4 K (nI k0) F (nI a) (nI i) s = K (nI (qi_v (qi_b n T) k p a)) (nI (i + qi_c (qi_b n T) k p)) s' ∧ qi_A (true, p + qi_c (qi_b n T) k p) s' ∧ qi_g s s' := by
  intro k
  induction k with
  | zero =>
    intro i F a p s hi hF hp hA ht
    obtain ⟨F, rfl⟩ : ∃ m, F = m + 1 := ⟨F - 1, by omega⟩
    refine ⟨s, ?_, hA, qi_gr s⟩
    simp only [g_X9_number_L4]
    rw [if_pos (nI_le (by omega) (by omega))]
    rfl
  | succ k ih =>
    intro i F a p s hi hF hp hA ht
    obtain ⟨F, rfl⟩ : ∃ m, F = m + 1 := ⟨F - 1, by omega⟩
    have hA1 : s.1 0 23 = nI p := hA.1
    simp only [g_X9_number_L4, qi_c, qi_v]
    rw [if_neg (nI_ge (by omega) (by omega)), qi_isFrom hn hb (by omega) (by omega) (by omega) (st := (true, p)) (show p < 2 ^ 20 by omega) hA ht, qn_b, qn_if0, Bool.true_and]
    have dg : decide (48 ≤ qi_b n T p ∧ qi_b n T p ≤ 57) = qi_dg (qi_b n T) p := rfl
    show ∃ s', (if decide (48 ≤ qi_b n T p ∧ qi_b n T p ≤ 57) = true then _ else _) = _ ∧ _
    rw [dg]
    by_cases c : qi_dg (qi_b n T) p = true
    · have c48 : 48 ≤ qi_b n T p := (of_decide_eq_true c).1
      have pn : p < n := by
        apply Nat.lt_of_not_le
        intro z
        have : qi_b n T p = 0 := if_neg (by omega)
        omega
      have bv : qi_b n T p = T p := if_pos pn
      have g1 := qi_g23 s (nI (p + 1))
      have A1 : qi_A (true, p + 1) (qe_si s 0 23 (nI (p + 1))) := ⟨qn_si_eq, by rw [qn_si_j (by omega)]; exact hA.2⟩
      obtain ⟨s', e1, e2, e3⟩ := ih (i + 1) F (10 * a + qi_b n T p - 48) (p + 1) (qe_si s 0 23 (nI (p + 1))) (by omega) (by omega) (by omega) A1 (qi_tg g1 ht)
      refine ⟨s', ?_, ?_, qi_gt g1 e3⟩
      · rw [if_pos c, if_pos c, if_pos c, hA1, qn_g (by omega) (by omega), nI_clamp (by omega), ht.2 p pn, ← bv, nI_1, pk_mul, qn_l, nI_add, pk_sub (by omega), qn_l, qn_l, qn_l, nI_1, e1, show i + 1 + qi_c (qi_b n T) k (p + 1) = i + (qi_c (qi_b n T) k (p + 1) + 1) by omega]
      · rw [if_pos c, show p + (qi_c (qi_b n T) k (p + 1) + 1) = p + 1 + qi_c (qi_b n T) k (p + 1) by omega]
        exact e2
    · rw [if_neg c, if_neg c, if_neg c]
      exact ⟨s, rfl, hA, qi_gr s⟩
theorem qi_N {n : Nat} {T : Nat → Nat} (hn : n ≤ 120) (hb : ∀ i, qi_b n T i ≤ 127) {k sym : Nat} (hk : k ≤ 2) {st : Bool × Nat} (hsg : qi_sg (qi_b n T) sym st.2 = qi_nm (qi_b n T) k st.2) {s : qe_S} (hst : st.2 < 2 ^ 18) (hA : qi_A st s) (ht : qi_tM n T s) : ∃ s', g_X9_number (nI k) s = some (qi_nv (qi_b n T) st sym, s') ∧ qi_A (qi_fs (qi_b n T) st sym) s' ∧ qi_g s s' := by
  unfold g_X9_number qi_nv qi_fs
  rw [qn_l, qn_l, hsg]
  cases hs : st.1 with
  | false =>
    obtain ⟨F, hF⟩ : ∃ F, qm_F = F + 1 := ⟨4999, qn_F⟩
    have dead : g_X9_isFrom (nI 48) (nI 57) s = some (0, s) := by
      rw [qi_isFrom hn hb (by omega) (by omega) (by omega) (by omega) hA ht, hs, if_neg (by simp)]
    have stf : st = (false, st.2) := by rw [← hs]
    obtain ⟨s', e1, e2, e3⟩ := qi_wrong (by omega) hA
    refine ⟨s', ?_, ?_, e3⟩
    · rw [hF]
      simp only [g_X9_number_L4]
      by_cases k0 : k = 0
      · subst k0
        rw [if_pos (by decide), if_pos trivial, e1, qn_o, if_neg (by decide)]
      · have : ¬ nI k ≤ 0 := nI_nle (by omega) (by omega)
        rw [if_neg this, dead, qn_b, if_pos rfl, if_pos trivial, e1, qn_o, if_neg (by decide)]
    · rw [if_neg (by decide), stf]
      exact e2
  | true =>
    have sty : qi_A (true, st.2) s := by rw [← hs]; exact hA
    obtain ⟨s1, e1, e2, e3⟩ := qi_numLM hn hb (fun (a11 : Int32) (a12 : Int32) (s13 : qe_S) => if a12 = (0 : Int32) then (qm_o (g_X9_wrong s13) fun s14 => some (a11, s14)) else some (a11, s13)) k hk k 0 qm_F 0 st.2 s (by omega) (by rw [qn_F]; omega) (by omega) sty ht
    have cl := qi_c_le (qi_b n T) k st.2
    rw [nI_0, Nat.zero_add] at e1
    rw [e1, if_pos rfl, if_pos rfl]
    unfold qi_nm
    by_cases c : qi_c (qi_b n T) k st.2 = 0
    · rw [c] at e2 ⊢
      obtain ⟨s2, f1, f2, f3⟩ := qi_wrong (st := (true, st.2 + 0)) (show st.2 + 0 < 2 ^ 20 by omega) e2
      refine ⟨s2, ?_, ?_, qi_gt e3 f3⟩
      · rw [if_pos nI_0, f1, qn_o]
      · simpa using f2
    · refine ⟨s1, ?_, ?_, e3⟩
      · rw [if_neg (nI_ne0 (by omega) (by omega))]
      · have : decide (qi_c (qi_b n T) k st.2 ≠ 0) = true := decide_eq_true c
        rw [this]
        exact e2
theorem qi_Nd {n : Nat} {T : Nat → Nat} (hn : n ≤ 120) (hb : ∀ i, qi_b n T i ≤ 127) {ch : Nat} (h1 : 1 ≤ ch) (h2 : ch ≤ 67) {st : Bool × Nat} {s : qe_S} (hst : st.2 < 2 ^ 18) (hA : qi_A st s) (ht : qi_tM n T s) : ∃ s', g_X9_needs (nI ch) s = some s' ∧ qi_A (qi_fs (qi_b n T) st ch) s' ∧ qi_g s s' := by
  have sg : qi_sg (qi_b n T) ch st.2 = if qi_b n T st.2 = ch then (true, st.2 + 1, 0) else (false, st.2, 0) := by
    unfold qi_sg
    rw [if_neg (by omega), if_neg (by omega), if_neg (by omega)]
  unfold g_X9_needs qi_fs
  rw [qi_isFrom hn hb h1 (by omega) (by omega) (by omega) hA ht, qn_b, qn_if0, sg]
  cases hs : st.1 with
  | false =>
    have stf : st = (false, st.2) := by rw [← hs]
    obtain ⟨s', e1, e2, e3⟩ := qi_wrong (by omega) hA
    rw [if_neg (by simp), e1, qn_o, if_neg (by decide)]
    exact ⟨s', rfl, by rw [stf]; exact e2, e3⟩
  | true =>
    rw [Bool.true_and, if_pos (show true = true from rfl)]
    by_cases c : qi_b n T st.2 = ch
    · rw [if_pos (decide_eq_true (by omega)), qn_l, hA.1, nI_1, if_pos c]
      exact ⟨_, rfl, ⟨qn_si_eq, by rw [qn_si_j (by omega), hA.2, hs]; rfl⟩, qi_g23 s _⟩
    · obtain ⟨s', e1, e2, e3⟩ := qi_wrong (by omega) hA
      rw [if_neg (by simp; omega), e1, qn_o, if_neg c]
      exact ⟨s', rfl, e2, e3⟩
-- a clause at place p, the k-th
def qi_Z (n : Nat) (T : Nat → Nat) (τ : qe_S) (k p : Nat) (st : Bool × Nat) (vs : List Int32) (s : qe_S) : Prop := qi_A st s ∧ qi_tM n T s ∧ (s.2 = τ.2 ∧ (∀ a, a ≠ 0 → a ≠ 16 → s.1 a = τ.1 a) ∧ (∀ j, j ≠ 23 → j ≠ 24 → s.1 0 j = τ.1 0 j)) ∧ (∀ j, j < 5 * k → s.1 16 j = τ.1 16 j) ∧ s.1 16 (5 * k) = nI p ∧ ∀ i, i < vs.length → s.1 16 (5 * k + 1 + i) = vs.getD i 0
theorem qi_Zg {n : Nat} {T : Nat → Nat} {τ : qe_S} {k p : Nat} {st st' : Bool × Nat} {vs : List Int32} {s s' : qe_S} (h : qi_Z n T τ k p st vs s) (g : qi_g s s') (a : qi_A st' s') : qi_Z n T τ k p st' vs s' := by
  obtain ⟨h1, h2, h3, h4, h5, h6⟩ := h
  have e16 := g.2.1 16 (by omega)
  exact ⟨a, qi_tg g h2, ⟨g.1.trans h3.1, fun x p1 p2 => (g.2.1 x p1).trans (h3.2.1 x p1 p2), fun j p1 p2 => (g.2.2 j p1 p2).trans (h3.2.2 j p1 p2)⟩, fun j hj => by rw [e16]; exact h4 j hj, by rw [e16]; exact h5, fun i hi => by rw [e16]; exact h6 i hi⟩
theorem qi_Zw {n : Nat} {T : Nat → Nat} {τ : qe_S} {k p : Nat} {st : Bool × Nat} {vs : List Int32} {s : qe_S} (h : qi_Z n T τ k p st vs s) (v : Int32) : qi_Z n T τ k p st (vs ++ [v]) (qe_si s 16 (5 * k + 1 + vs.length) v) := by
  obtain ⟨h1, h2, h3, h4, h5, h6⟩ := h
  refine ⟨⟨by rw [qn_si_k (by omega)]; exact h1.1, by rw [qn_si_k (by omega)]; exact h1.2⟩, ⟨by rw [qn_si_k (by omega)]; exact h2.1, fun i hi => by rw [qn_si_k (by omega)]; exact h2.2 i hi⟩, ⟨h3.1, fun x p1 p2 => by funext y; rw [qn_si_k p2]; exact congrFun (h3.2.1 x p1 p2) y, fun j p1 p2 => by rw [qn_si_k (by omega)]; exact h3.2.2 j p1 p2⟩, fun j hj => by rw [qn_si_j (by omega)]; exact h4 j hj, by rw [qn_si_j (by omega)]; exact h5, fun i hi => ?_⟩
  rw [List.length_append] at hi
  have hi2 : i < vs.length + 1 := hi
  by_cases e : i = vs.length
  · subst e
    rw [qn_si_eq]
    simp
  · rw [qn_si_j (by omega), h6 i (by omega)]
    simp [List.getD_eq_getElem?_getD, List.getElem?_append_left (show i < vs.length by omega)]
theorem qi_ZN {n : Nat} {T : Nat → Nat} (hn : n ≤ 120) (hb : ∀ i, qi_b n T i ≤ 127) {τ : qe_S} {k p : Nat} {st : Bool × Nat} {vs : List Int32} {s : qe_S} (h : qi_Z n T τ k p st vs s) (hst : st.2 < 2 ^ 18) (q sym : Nat) (hq : q ≤ 2) (hsg : qi_sg (qi_b n T) sym st.2 = qi_nm (qi_b n T) q st.2) : ∃ s', g_X9_number (nI q) s = some (qi_nv (qi_b n T) st sym, s') ∧ qi_Z n T τ k p (qi_fs (qi_b n T) st sym) vs s' := by
  obtain ⟨s', e1, e2, e3⟩ := qi_N hn hb hq hsg hst h.1 h.2.1
  exact ⟨s', e1, qi_Zg h e3 e2⟩
theorem qi_Zd {n : Nat} {T : Nat → Nat} (hn : n ≤ 120) (hb : ∀ i, qi_b n T i ≤ 127) {τ : qe_S} {k p : Nat} {st : Bool × Nat} {vs : List Int32} {s : qe_S} (h : qi_Z n T τ k p st vs s) (hst : st.2 < 2 ^ 18) (ch : Nat) (h1 : 1 ≤ ch) (h2 : ch ≤ 67) : ∃ s', g_X9_needs (nI ch) s = some s' ∧ qi_Z n T τ k p (qi_fs (qi_b n T) st ch) vs s' := by
  obtain ⟨s', e1, e2, e3⟩ := qi_Nd hn hb h1 h2 hst h.1 h.2.1
  exact ⟨s', e1, qi_Zg h e3 e2⟩
theorem qi_fs_pos (b : Nat → Nat) (st : Bool × Nat) (sym : Nat) : (qi_fs b st sym).2 ≤ st.2 + 3 := by
  unfold qi_fs
  split
  · exact qi_sg_pos b sym st.2
  · omega
theorem qi_s78 (b : Nat → Nat) (p : Nat) : qi_sg b 78 p = qi_nm b 2 p := if_pos rfl
theorem qi_s68 (b : Nat → Nat) (p : Nat) : qi_sg b 68 p = qi_nm b 1 p := by
  unfold qi_sg
  rw [if_neg (by omega), if_pos rfl]
def qi_R83 (a1 : Int32) (a4 : Int32) (s5 : qe_S) : Option qe_S :=
          qm_j (fun (q6 : Int32) (q7 : Int32) (s8 : qe_S) =>
              qm_b (g_X9_number q6 s8) fun a10 s9 =>
              qm_g q7 305 <| qm_l (qe_si s9 16 q7.toNatClampNeg a10) fun s11 =>
              if a4 = (nI 111) then (
                some s11)
              else
              if a4 = (nI 114) then (
                some s11)
              else
              qm_j (fun (q12 : Int32) (s13 : qe_S) =>
                  qm_o (g_X9_needs q12 s13) fun s14 =>
                  qm_b (g_X9_number (nI 2) s14) fun a16 s15 =>
                  qm_g (a1 + (nI 2)) 305 <| qm_l (qe_si s15 16 (a1 + (nI 2)).toNatClampNeg a16) fun s17 =>
                  if a4 = (nI 120) then (
                    some s17)
                  else
                  qm_j (fun (q18 : Int32) (s19 : qe_S) =>
                      qm_j (fun (q20 : Int32) (q21 : Int32) (s22 : qe_S) =>
                          qm_b (g_X9_number q20 s22) fun a24 s23 =>
                          qm_g q21 305 <| qm_l (qe_si s23 16 q21.toNatClampNeg a24) fun s25 =>
                          if a4 = (nI 117) then (
                            qm_j (fun (a26 : Int32) (s27 : qe_S) =>
                                qm_b (g_X9_number (nI 2) s27) fun a29 s28 =>
                                if a26 = (0 : Int32) then (
                                  qm_g (a1 + (nI 4)) 305 <| qm_l (qe_si s28 16 (a1 + (nI 4)).toNatClampNeg a29) fun s30 =>
                                  some s30)
                                else
                                qm_g (a1 + (nI 4)) 305 <| qm_l (qe_si s28 16 (a1 + (nI 4)).toNatClampNeg (-a29)) fun s31 =>
                                some s31
                            ) fun j242 =>
                            qm_o (g_X9_needs (nI 44) s25) fun s32 =>
                            qm_b (g_X9_isFrom (nI 45) (nI 45) s32) fun a34 s33 =>
                            if a34 = (0 : Int32) then (
                              j242 a34 s33)
                            else
                            qm_l (qe_si s33 0 23 ((s33.1 0 23) + (1 : Int32))) fun s35 =>
                            j242 a34 s35)
                          else
                            some s25
                      ) fun j202 =>
                      qm_o (g_X9_needs q18 s19) fun s36 =>
                      if a4 = (nI 117) then (
                        j202 (1 : Int32) (a1 + (nI 3)) s36)
                      else
                        j202 (nI 2) (a1 + (nI 3)) s36
                  ) fun j180 =>
                  if a4 = (nI 117) then (
                    j180 (nI 44) s17)
                  else
                    j180 (nI 47) s17
              ) fun j143 =>
              if a4 = (nI 117) then (
                j143 (nI 47) s11)
              else
                j143 (nI 44) s11
          ) fun j112 =>
          qm_l (qe_si s5 0 23 ((s5.1 0 23) + (1 : Int32))) fun s37 =>
          if a4 = (nI 111) then (
            j112 (1 : Int32) (a1 + (1 : Int32)) s37)
          else
            j112 (nI 2) (a1 + (1 : Int32)) s37
def qi_R31 (a1 : Int32) (q2 : Int32) (s3 : qe_S) : Option qe_S :=
      qm_g a1 305 <| qm_l (qe_si s3 16 a1.toNatClampNeg (s3.1 0 23)) fun s38 =>
      if q2 = (nI 117) then (
        qi_R83 a1 q2 s38)
      else
      if q2 = (nI 115) then (
        qi_R83 a1 q2 s38)
      else
      if q2 = (nI 110) then (
        qi_R83 a1 q2 s38)
      else
      if q2 = (nI 111) then (
        qi_R83 a1 q2 s38)
      else
      if q2 = (nI 114) then (
        qi_R83 a1 q2 s38)
      else
      if q2 = (nI 120) then (
        qi_R83 a1 q2 s38)
      else
        qm_o (g_X9_wrong s38) fun s39 =>
        some s39
theorem qi_R0 (s0 : qe_S) : g_X9_reads s0 = (
  qm_l ((nI 5) * (s0.1 0 25)) fun a40 =>
  if (s0.1 0 21) ≤ (s0.1 0 23) then (
    qi_R31 a40 (0 : Int32) s0)
  else
  qm_g (s0.1 0 23) 120 <| qm_l (s0.1 15 (s0.1 0 23).toNatClampNeg) fun a41 =>
  qi_R31 a40 a41 s0) := rfl
