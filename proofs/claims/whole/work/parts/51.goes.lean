/-! GOES ROUND: the reference's runs are the class's -/
def qy_m (τ τ' : qe_S) : Prop := (∀ a, a ≠ 0 → a ≠ 12 → τ'.1 a = τ.1 a) ∧ (∀ j, j ≠ 12 → τ'.1 0 j = τ.1 0 j) ∧ ∀ a, a ≠ 10 → a ≠ 11 → a ≠ 13 → τ'.2 a = τ.2 a
theorem qy_mt {a b c : qe_S} (h : qy_m a b) (g : qy_m b c) : qy_m a c := ⟨fun x p q => (g.1 x p q).trans (h.1 x p q), fun j p => (g.2.1 j p).trans (h.2.1 j p), fun x p q r => (g.2.2 x p q r).trans (h.2.2 x p q r)⟩
theorem qy_m13 {s s' : qe_S} (h : qy_13 s s') : qy_m s s' := ⟨fun a _ _ => by rw [h.1], fun j _ => by rw [h.1], fun a _ _ r => h.2 a r⟩
theorem qy_Gm {ρ : qr_R} {s s' : qe_S} (h : qy_m s s') (g : qy_G ρ s) : qy_G ρ s' := by
  unfold qy_G qw_V qr_M
  rw [h.1 1 (by omega) (by omega), h.2.2 0 (by omega) (by omega) (by omega), h.2.2 6 (by omega) (by omega) (by omega), h.2.2 7 (by omega) (by omega) (by omega)]
  exact g
def qy_M (ρ : qr_R) (τ : qe_S) : Prop := τ.1 0 12 = nI (qx_M ρ) ∧ ∀ k, k < qx_M ρ → τ.2 10 k = lN (qx_c ρ k) ∧ τ.2 11 k = lN (qx_c ρ (k + 1) - qx_c ρ k) ∧ τ.1 12 k = nI (qx_f ρ (qx_c ρ k))
/-- r runs stand, and reach place q -/
def qy_I (ρ : qr_R) (r q : Nat) (s : qe_S) : Prop := s.1 0 12 = nI r ∧ (∀ i, i < r → qx_c ρ i < qx_P ρ ∧ s.2 10 i = lN (qx_c ρ i) ∧ s.1 12 i = nI (qx_f ρ (qx_c ρ i))) ∧ (∀ i, i + 1 < r → s.2 11 i = lN (qx_c ρ (i + 1) - qx_c ρ i)) ∧ ((r = 0 ∧ q = 0) ∨ ∃ p, r = p + 1 ∧ qx_c ρ p < q ∧ q ≤ qx_c ρ (p + 1) ∧ s.2 11 p = lN (q - qx_c ρ p))
def qy_J (v1 : Int32) (n : Nat) (v2 : Int32) (q18 : Int64) (s19 : qe_S) : Option qe_S :=
        qm_j (fun  (s20 : qe_S) =>
            qm_l (v2 + (1 : Int32)) fun a21 =>
            g_X9_goesRound_L68 v1 n a21 s20
        ) fun j223 =>
        qm_g v2 26 <| qm_l (s19.2 13 v2.toNatClampNeg) fun b22 =>
        if q18 = b22 then (
          j223 s19)
        else
        qm_j (fun (a23 : Int32) (s24 : qe_S) =>
            qm_g v2 26 <| qm_l (s24.2 13 v2.toNatClampNeg) fun b25 =>
            qm_g (s24.1 0 12) 26 <| qm_l (qe_sl s24 10 (s24.1 0 12).toNatClampNeg b25) fun s26 =>
            qm_g v2 26 <| qm_l (s26.2 13 v2.toNatClampNeg) fun b27 =>
            qm_g (s26.1 0 12) 26 <| qm_l (qe_sl s26 11 (s26.1 0 12).toNatClampNeg (q18 - b27)) fun s28 =>
            qm_g (s28.1 0 12) 26 <| qm_l (qe_si s28 12 (s28.1 0 12).toNatClampNeg a23) fun s29 =>
            qm_l (qe_si s29 0 12 ((s29.1 0 12) + (1 : Int32))) fun s30 =>
            j223 s30
        ) fun j170 =>
        qm_g v2 26 <| qm_l (s19.2 13 v2.toNatClampNeg) fun b31 =>
        qm_b (g_X9_chosenBy b31 s19) fun a33 s32 =>
        if (s32.1 0 12) ≤ (0 : Int32) then (
          j170 a33 s32)
        else
        qm_g ((s32.1 0 12) - (1 : Int32)) 26 <| qm_l (s32.1 12 ((s32.1 0 12) - (1 : Int32)).toNatClampNeg) fun a34 =>
        if a34 = a33 then (
          qm_g ((s32.1 0 12) - (1 : Int32)) 26 <| qm_l (s32.2 11 ((s32.1 0 12) - (1 : Int32)).toNatClampNeg) fun b35 =>
          qm_g v2 26 <| qm_l (s32.2 13 v2.toNatClampNeg) fun b36 =>
          qm_g ((s32.1 0 12) - (1 : Int32)) 26 <| qm_l (qe_sl s32 11 ((s32.1 0 12) - (1 : Int32)).toNatClampNeg (b35 + (q18 - b36))) fun s37 =>
          j223 s37)
        else
          j170 a33 s32
theorem qy_L68 (v1 : Int32) (n : Nat) (v2 : Int32) (s0 : qe_S) : g_X9_goesRound_L68 v1 (n + 1) v2 s0 = if v1 ≤ v2 then some s0 else if v1 ≤ (v2 + (1 : Int32)) then qy_J v1 n v2 (s0.2 0 6) s0 else qm_g (v2 + (1 : Int32)) 26 (qm_l (s0.2 13 (v2 + (1 : Int32)).toNatClampNeg) fun b38 => qy_J v1 n v2 b38 s0) := rfl
theorem qy_step {ρ : qr_R} (w : qr_wf ρ) (hP : qx_P ρ ≠ 0) {v1 : Int32} {n k r q q2 : Nat} {s : qe_S} (hk : k < 26) (hG : qy_G ρ s) (hq : s.2 13 k = lN q) (hqP : q < qx_P ρ) (hqq : q ≤ q2) (hq2 : q2 ≤ qx_P ρ) (nx : ∀ z, q < z → (z = qx_P ρ ∨ ∃ u, u < qr_N ρ ∧ qx_e ρ u = z) → q2 ≤ z) (hI : qy_I ρ r q s) : ∃ r' s', qy_J v1 n (nI k) (lN q2) s = g_X9_goesRound_L68 v1 n (nI (k + 1)) s' ∧ qy_m s s' ∧ s'.2 13 = s.2 13 ∧ qy_I ρ r' q2 s' := by
  have hN := w.1
  have Pb : qx_P ρ < 2 ^ 31 := qw_P_lt ρ 0
  obtain ⟨M1, M2, M3, M4⟩ := qx_M_ok w hP
  have gk : ∀ A : Option qe_S, qm_g (nI k) 26 A = A := fun A => qn_g hk (by omega)
  have ck : (nI k).toNatClampNeg = k := nI_clamp (by omega)
  by_cases e : q2 = q
  · subst e
    refine ⟨r, s, ?_, ⟨fun _ _ _ => rfl, fun _ _ => rfl, fun _ _ _ _ => rfl⟩, rfl, hI⟩
    unfold qy_J
    simp only [qn_j, qn_l, gk, ck, hq]
    rw [if_pos trivial, nI_1]
  · have hne : ¬ lN q2 = lN q := fun z => e ((pk_lEQ (by omega) (by omega)).mp z)
    have ch : g_X9_chosenBy (lN q) s = some (nI (qx_f ρ q), s) := qw_chM w (r := 0) (P := qw_P ρ 0) (b := qw_E ρ) (by omega) (Nat.pos_of_ne_zero hP) Pb hG.1 hG.2.1 hG.2.2 (by omega)
    obtain ⟨i1, i2, i3, i4⟩ := hI
    have ends : ∀ p, qx_c ρ p < qx_P ρ → (qx_c ρ (p + 1) = qx_P ρ ∨ ∃ u, u < qr_N ρ ∧ qx_e ρ u = qx_c ρ (p + 1)) := fun p hp => by
      have le := qx_c_le (ρ := ρ) (p + 1)
      by_cases z : qx_c ρ (p + 1) < qx_P ρ
      · exact Or.inr (qx_c_end w hp z)
      · exact Or.inl (by omega)
    have rb : ∀ p, qx_c ρ p < qx_P ρ → p < qx_M ρ := fun p hp => by
      apply Nat.lt_of_not_le
      intro z
      have m := qx_c_mono (ρ := ρ) (qx_M ρ) (p - qx_M ρ)
      rw [show qx_M ρ + (p - qx_M ρ) = p by omega, M3] at m
      omega
    -- a new run begins at c r
    have fresh : qx_c ρ r = q → (∀ A B : Option qe_S, (if (s.1 0 12) ≤ (0 : Int32) then A else qm_g ((s.1 0 12) - (1 : Int32)) 26 (if (s.1 12 ((s.1 0 12) - (1 : Int32)).toNatClampNeg) = nI (qx_f ρ q) then B else A)) = A) → (∀ i, i + 1 = r → s.2 11 i = lN (q - qx_c ρ i)) → ∃ r' s', qy_J v1 n (nI k) (lN q2) s = g_X9_goesRound_L68 v1 n (nI (k + 1)) s' ∧ qy_m s s' ∧ s'.2 13 = s.2 13 ∧ qy_I ρ r' q2 s' := by
      intro hr hA hl
      have cr : qx_c ρ r < qx_P ρ := by omega
      have rM := rb r cr
      have up := qx_c_up cr
      have q2le := nx (qx_c ρ (r + 1)) (by omega) (ends r cr)
      have gr : ∀ A : Option qe_S, qm_g (nI r) 26 A = A := fun A => qn_g (by omega) (by omega)
      have cl : (nI r).toNatClampNeg = r := nI_clamp (by omega)
      refine ⟨r + 1, qe_si (qe_si (qe_sl (qe_sl s 10 r (lN q)) 11 r (lN (q2 - q))) 12 r (nI (qx_f ρ q))) 0 12 (nI (r + 1)), ?_, ⟨fun a p1 p2 => ?_, fun j p1 => ?_, fun a p1 p2 p3 => ?_⟩, ?_, ⟨?_, fun i hi => ?_, fun i hi => ?_, ?_⟩⟩
      · unfold qy_J
        simp only [qn_j, qn_l, gk, ck, hq]
        rw [if_neg hne, ch, qn_b]
        have hA2 := hA
        simp only [i1] at hA2
        simp only [hq, i1, gr, cl]
        rw [hA2]
        have r1 : (qe_sl s 10 r (lN q)).1 0 12 = nI r := i1
        have r2 : (qe_sl s 10 r (lN q)).2 13 k = lN q := by rw [qn_sl_k (by omega)]; exact hq
        have r3 : ∀ x, (qe_sl (qe_sl s 10 r (lN q)) 11 r x).1 0 12 = nI r := fun x => i1
        rw [r1, r2, gr, cl, r3, gr, cl, lN_sub hqq]
        have r4 : ∀ x, (qe_si (qe_sl (qe_sl s 10 r (lN q)) 11 r x) 12 r (nI (qx_f ρ q))).1 0 12 = nI r := fun x => by rw [qn_si_k (by omega)]; exact i1
        rw [r4, nI_1, nI_1]
      · funext j
        rw [qn_si_k p1, qn_si_k p2]
        rfl
      · rw [qn_si_j p1, qn_si_k (by omega)]
        rfl
      · funext j
        exact (qn_sl_k p2).trans (qn_sl_k p1)
      · funext j
        show (qe_sl (qe_sl s 10 r (lN q)) 11 r (lN (q2 - q))).2 13 j = s.2 13 j
        rw [qn_sl_k (by omega), qn_sl_k (by omega)]
      · rw [qn_si_eq]
      · by_cases z : i = r
        · subst z
          refine ⟨cr, ?_, ?_⟩
          · show (qe_sl (qe_sl s 10 i (lN q)) 11 i (lN (q2 - q))).2 10 i = _
            rw [qn_sl_k (by omega), qn_sl_eq, hr]
          · rw [qn_si_k (by omega), qn_si_eq, hr]
        · obtain ⟨h1, h2, h3⟩ := i2 i (by omega)
          refine ⟨h1, ?_, ?_⟩
          · show (qe_sl (qe_sl s 10 r (lN q)) 11 r (lN (q2 - q))).2 10 i = _
            rw [qn_sl_k (by omega), qn_sl_j z]; exact h2
          · rw [qn_si_k (by omega), qn_si_j z]; exact h3
      · show (qe_sl (qe_sl s 10 r (lN q)) 11 r (lN (q2 - q))).2 11 i = _
        rw [qn_sl_j (by omega), qn_sl_k (by omega)]
        by_cases z : i + 1 = r
        · rw [hl i z, z, hr]
        · exact i3 i (by omega)
      · refine Or.inr ⟨r, rfl, by omega, q2le, ?_⟩
        show (qe_sl (qe_sl s 10 r (lN q)) 11 r (lN (q2 - q))).2 11 r = _
        rw [qn_sl_eq, hr]
    rcases i4 with ⟨r0, q0⟩ | ⟨p, hp, p1, p2, p3⟩
    · subst r0
      subst q0
      refine fresh rfl (fun A B => ?_) (fun i hi => by omega)
      rw [i1, if_pos (by decide)]
    · subst hp
      have cp := (i2 p (by omega)).1
      have pM := rb p cp
      have fp := (i2 p (by omega)).2.2
      have up := qx_c_up cp
      have cle := qx_c_le (ρ := ρ) (p + 1)
      have fb1 : qx_f ρ (qx_c ρ p) < 2 ^ 12 := Nat.lt_of_lt_of_le (qw_ch_lt ρ 0 (qw_P ρ 0) (qw_E ρ) (qx_c ρ p)) (Nat.pow_le_pow_right (show 0 < 2 by omega) hN)
      have fb2 : qx_f ρ q < 2 ^ 12 := Nat.lt_of_lt_of_le (qw_ch_lt ρ 0 (qw_P ρ 0) (qw_E ρ) q) (Nat.pow_le_pow_right (show 0 < 2 by omega) hN)
      by_cases c : q < qx_c ρ (p + 1)
      · have same : qx_f ρ q = qx_f ρ (qx_c ρ p) := by
          have := qx_const w hP cp (q - qx_c ρ p) (by omega)
          rw [show qx_c ρ p + (q - qx_c ρ p) = q by omega] at this
          exact this
        have q2le := nx (qx_c ρ (p + 1)) c (ends p cp)
        refine ⟨p + 1, qe_sl s 11 p (lN (q2 - qx_c ρ p)), ?_, ⟨fun a _ _ => rfl, fun j _ => rfl, fun a _ p2 _ => ?_⟩, ?_, ⟨i1, fun i hi => ?_, fun i hi => ?_, Or.inr ⟨p, rfl, by omega, q2le, qn_sl_eq⟩⟩⟩
        · unfold qy_J
          have gp : ∀ A : Option qe_S, qm_g (nI p) 26 A = A := fun A => qn_g (by omega) (by omega)
          have cl : (nI p).toNatClampNeg = p := nI_clamp (by omega)
          simp only [qn_j, qn_l, gk, ck, hq]
          rw [if_neg hne, ch, qn_b, i1, if_neg (nI_nle (by omega) (by omega)), nI_pred, gp, cl, fp, same, if_pos rfl, gp, gp, p3, hq, lN_sub hqq, lN_add, nI_1, show q - qx_c ρ p + (q2 - q) = q2 - qx_c ρ p by omega]
        · funext j; exact qn_sl_k p2
        · funext j; exact qn_sl_k (by omega)
        · obtain ⟨h1, h2, h3⟩ := i2 i hi
          exact ⟨h1, by rw [qn_sl_k (by omega)]; exact h2, h3⟩
        · rw [qn_sl_j (by omega)]; exact i3 i hi
      · have eq : qx_c ρ (p + 1) = q := by omega
        refine fresh eq (fun A B => ?_) (fun i hi => ?_)
        · have df := qx_new w hP cp (by omega)
          rw [eq] at df
          have nf : ¬ nI (qx_f ρ (qx_c ρ p)) = nI (qx_f ρ q) := fun z => df ((nI_eq (by omega) (by omega)).mp z).symm
          rw [i1, if_neg (nI_nle (by omega) (by omega)), nI_pred, qn_g (by omega) (by omega), nI_clamp (by omega), fp, if_neg nf]
        · obtain rfl : i = p := by omega
          exact p3
theorem qy_goesL {ρ : qr_R} (w : qr_wf ρ) (hP : qx_P ρ ≠ 0) {n : Nat} {C : Nat → Nat} (hn : n < 26) {τ : qe_S} (hG : qy_G ρ τ) (hK : qy_K ρ (qr_N ρ) n C τ) : ∀ (q k F r : Nat) (s : qe_S), k + q = n → q < F → qy_m τ s → s.2 13 = τ.2 13 → qy_I ρ r (if k < n then C k else qx_P ρ) s → ∃ s', g_X9_goesRound_L68 (nI n) F (nI k) s = some s' ∧ qy_m τ s' ∧ qy_M ρ s' := by
  have Pb : qx_P ρ < 2 ^ 31 := qw_P_lt ρ 0
  obtain ⟨M1, M2, M3, M4⟩ := qx_M_ok w hP
  obtain ⟨k1, k2, k3, k4, k5⟩ := hK
  intro q
  induction q with
  | zero =>
    intro k F r s hk hF hm h13 hI
    obtain ⟨F, rfl⟩ : ∃ m, F = m + 1 := ⟨F - 1, by omega⟩
    obtain rfl : k = n := by omega
    rw [if_neg (by omega)] at hI
    refine ⟨s, ?_, hm, ?_⟩
    · rw [qy_L68, if_pos (nI_le (by omega) (by omega))]
    · obtain ⟨i1, i2, i3, i4⟩ := hI
      rcases i4 with ⟨_, q0⟩ | ⟨p, hp, p1, p2, p3⟩
      · exact absurd q0 hP
      · have cle := qx_c_le (ρ := ρ) (p + 1)
        have pM : p < qx_M ρ := by
          apply Nat.lt_of_not_le
          intro z
          have m := qx_c_mono (ρ := ρ) (qx_M ρ) (p - qx_M ρ)
          rw [show qx_M ρ + (p - qx_M ρ) = p by omega, M3] at m
          omega
        have rM : r = qx_M ρ := by
          apply Nat.le_antisymm
          · omega
          · apply Nat.le_of_not_lt
            intro z
            have := M4 (p + 1) (by omega)
            omega
        refine ⟨by rw [i1, rM], fun i hi => ?_⟩
        rw [← rM] at hi
        obtain ⟨h1, h2, h3⟩ := i2 i hi
        refine ⟨h2, ?_, h3⟩
        by_cases z : i = p
        · subst z
          rw [p3, show qx_c ρ (i + 1) = qx_P ρ by omega]
        · exact i3 i (by omega)
  | succ q ih =>
    intro k F r s hk hF hm h13 hI
    obtain ⟨F, rfl⟩ : ∃ m, F = m + 1 := ⟨F - 1, by omega⟩
    have kn : k < n := by omega
    rw [if_pos kn] at hI
    have G' := qy_Gm hm hG
    have hq : s.2 13 k = lN (C k) := by rw [h13]; exact k1 k kn
    have cb := k3 k kn
    have e68 : g_X9_goesRound_L68 (nI n) (F + 1) (nI k) s = qy_J (nI n) F (nI k) (lN (if k + 1 < n then C (k + 1) else qx_P ρ)) s := by
      rw [qy_L68, if_neg (nI_ge kn (by omega)), nI_1]
      by_cases c : k + 1 < n
      · rw [if_neg (nI_ge c (by omega)), qn_g (by omega) (by omega), qn_l, nI_clamp (by omega), h13, k1 (k + 1) c, if_pos c]
      · rw [if_pos (nI_le (by omega) (by omega)), G'.2.1, if_neg c]
    have q2 : C k ≤ (if k + 1 < n then C (k + 1) else qx_P ρ) ∧ (if k + 1 < n then C (k + 1) else qx_P ρ) ≤ qx_P ρ := by
      by_cases c : k + 1 < n
      · rw [if_pos c]
        have a := k2 k (k + 1) (by omega) c
        have b := k3 (k + 1) c
        omega
      · rw [if_neg c]; omega
    have nx : ∀ z, C k < z → (z = qx_P ρ ∨ ∃ u, u < qr_N ρ ∧ qx_e ρ u = z) → (if k + 1 < n then C (k + 1) else qx_P ρ) ≤ z := by
      intro z hz h
      rcases h with h | ⟨u, u1, u2⟩
      · rw [h]; exact q2.2
      · obtain ⟨j, j1, j2⟩ := k5 u u1
        have jk : k < j := by
          apply Nat.lt_of_not_le
          intro y
          by_cases e : j = k
          · subst e; omega
          · have := k2 j k (by omega) kn; omega
        rw [if_pos (by omega)]
        by_cases e : j = k + 1
        · subst e; omega
        · have := k2 (k + 1) j (by omega) j1; omega
    obtain ⟨r', s', e1, e2, e3, e4⟩ := qy_step w hP (v1 := nI n) (n := F) (by omega) G' hq cb q2.1 q2.2 nx hI
    obtain ⟨s2, f1, f2, f3⟩ := ih (k + 1) F r' s' (by omega) (by omega) (qy_mt hm e2) (e3.trans h13) e4
    exact ⟨s2, by rw [e68, e1, f1], f2, f3⟩
theorem qy_goes {ρ : qr_R} (w : qr_wf ρ) (hP : qx_P ρ ≠ 0) {τ : qe_S} (hG : qy_G ρ τ) : ∃ τ', g_X9_goesRound τ = some τ' ∧ qy_m τ τ' ∧ qy_M ρ τ' := by
  have hN := w.1
  obtain ⟨s1, C1, a1, a2, a3, a4, a5, a6, a7⟩ := qy_ins (C := fun _ => 0) (x := 0) (n := 0) (s := τ) (by omega) (by omega) (fun i hi => by omega) (fun i j h1 h2 => by omega) (fun i hi => by omega)
  have K1 : qy_K ρ 0 (1 + 2 * 0) C1 s1 := by
    refine ⟨a3, a4, fun i hi => ?_, a6, fun v hv => by omega⟩
    rcases a7 i hi with h | ⟨j, j1, _⟩
    · rw [h]; exact Nat.pos_of_ne_zero hP
    · omega
  have G1 := qy_G13 a2 hG
  obtain ⟨s2, C2, b1, b2, b3⟩ := qy_cutsL w hP (fun (a14 : Int32) (s15 : qe_S) => qm_l (qe_si s15 0 12 (0 : Int32)) fun s16 => qm_l (0 : Int32) fun a17 => g_X9_goesRound_L68 a14 qm_F a17 s16) (qr_N ρ) 0 qm_F s1 C1 (by omega) (by rw [qn_F]; omega) G1 K1
  have m3 : qy_m s2 (qe_si s2 0 12 0) := ⟨fun a p1 _ => by funext j; exact qn_si_k p1, fun j p1 => qn_si_j p1, fun _ _ _ _ => rfl⟩
  have G2 := qy_G13 b2 G1
  have G3 := qy_Gm m3 G2
  have mm := qy_mt (qy_mt (qy_m13 a2) (qy_m13 b2)) m3
  obtain ⟨c1, c2, c3, c4, c5⟩ := b3
  have C0 : C2 0 = 0 := by
    obtain ⟨j, j1, j2⟩ := c4
    by_cases e : j = 0
    · subst e; exact j2
    · have := c2 0 j (by omega) j1; omega
  obtain ⟨s3, d1, d2, d3⟩ := qy_goesL w hP (n := 1 + 2 * qr_N ρ) (C := C2) (by omega) G3 ⟨c1, c2, c3, ⟨0, by omega, C0⟩, c5⟩ (1 + 2 * qr_N ρ) 0 qm_F 0 (qe_si s2 0 12 0) (by omega) (by rw [qn_F]; omega) ⟨fun _ _ _ => rfl, fun _ _ => rfl, fun _ _ _ _ => rfl⟩ rfl (by
    rw [if_pos (by omega)]
    exact ⟨by rw [qn_si_eq]; rfl, fun i hi => by omega, fun i hi => by omega, Or.inl ⟨rfl, C0⟩⟩)
  refine ⟨s3, ?_, qy_mt mm d2, d3⟩
  have a1' : g_X9_cutsAt 0 0 τ = some (1, s1) := a1
  have b1' : g_X9_goesRound_L9 (fun (a14 : Int32) (s15 : qe_S) => qm_l (qe_si s15 0 12 (0 : Int32)) fun s16 => qm_l (0 : Int32) fun a17 => g_X9_goesRound_L68 a14 qm_F a17 s16) qm_F 1 0 s1 = _ := b1
  have d1' : g_X9_goesRound_L68 (nI (1 + 2 * qr_N ρ)) qm_F 0 (qe_si s2 0 12 0) = some s3 := d1
  unfold g_X9_goesRound
  rw [a1', qn_b, qn_l, b1', qn_l, qn_l, d1']
