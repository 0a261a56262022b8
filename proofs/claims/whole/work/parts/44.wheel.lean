/-! THE WHEEL on both sides; COMMON, PARTS, SIZE, CHOSEN -/
def qw_B (ρ : qr_R) (σ τ : qe_S) : Prop := qr_D 1 σ ρ ∧ qr_O 1 σ ρ ∧ qr_M 1 τ ρ ∧ qr_MO τ ρ ∧ qw_C 22 σ ρ 0 (qw_P ρ 0) (qw_E ρ) ∧ τ.2 0 6 = lN (qw_P ρ 0) ∧ τ.2 0 11 = lN (qw_T ρ 0 (qw_P ρ 0)) ∧ ∀ u, u < qr_N ρ → qw_V 6 7 τ ρ 0 (qw_P ρ 0) (qw_E ρ) u
theorem qw_E_lt2 (ρ : qr_R) : qw_E ρ < 2 ^ qr_N ρ := by
  have : 0 < 2 ^ qr_N ρ := Nat.two_pow_pos _
  unfold qw_E
  omega
theorem qw_c_of {k : Nat} {σ σ' : qe_S} (hk : k = 22 ∨ k = 25) (h : qw_cf k σ σ') : qz_c σ σ' := by
  refine ⟨by rw [h.1], fun a _ _ => by rw [h.1], by rw [h.1], by rw [h.1], fun a p1 p2 => ⟨by rw [h.1], h.2 a (by omega)⟩⟩
theorem qw_lays0 {ρ : qr_R} (w : qr_wf ρ) {τ : qe_S} (m : qr_M 1 τ ρ) : ∃ τ', g_X9_lays 0 τ = some (if qw_P ρ 0 = 0 then 0 else 1, τ') ∧ qw_fr τ τ' ∧ (qw_P ρ 0 ≠ 0 → qw_X ρ 0 τ') := qw_lays w m (r := 0) (by omega)
theorem qw_places0 {σ : qe_S} {ρ : qr_R} (w : qr_wf ρ) (d : qr_D 1 σ ρ) : g_X3_places 0 σ = some (lN (qw_P ρ 0), σ) := qw_places w d (r := 0) (by omega)
theorem qw_1le {P : Nat} (hP : P < 2 ^ 63) : (1 : Int64) ≤ lN P ↔ P ≠ 0 := by
  have h : (1 : Int64) ≤ lN P ↔ 1 ≤ P := pk_lLE (a := 1) (by omega) hP
  rw [h]
  omega
theorem qw_le0 {P : Nat} (hP : P < 2 ^ 63) : lN P ≤ 0 ↔ P = 0 := by
  have h : lN P ≤ 0 ↔ P ≤ 0 := pk_lLE (b := 0) hP (by omega)
  rw [h]
  omega
theorem qw_keepM {σ τ τ' : qe_S} (hR : qz_R σ τ) (h : qw_fr τ τ') : qz_R σ τ' :=
  qz_keep hR (qz_c_refl σ) (qw_m_of h) (qz_W_of hR.2.2.1 rfl (h.1 4 (by omega)))
theorem qw_keepC {k : Nat} {σ σ' τ : qe_S} (hR : qz_R σ τ) (hk : k = 22 ∨ k = 25) (h : qw_cf k σ σ') : qz_R σ' τ :=
  qz_keep hR (qw_c_of hk h) (qz_m_refl τ) (qz_W_of hR.2.2.1 (by rw [h.1]) rfl)
theorem qw_gLay {α : Type} {σ τ : qe_S} {ρ : qr_R} (hR : qz_R σ τ) (w : qr_wf ρ) (d : qr_D 1 σ ρ) (o : qr_O 1 σ ρ) (m : qr_M 1 τ ρ) {A B A' B' : qe_S → Option (α × qe_S)} (h0 : ∀ τ', qz_R σ τ' → qz_ok (A σ) (A' τ')) (h1 : ∀ σ' τ', qw_P ρ 0 ≠ 0 → qw_B ρ σ' τ' → qz_R σ' τ' → qz_ok (B σ') (B' τ')) : qz_ok (qm_b (g_X8_layWheel σ) fun a s => if a = 0 then A s else B s) (qm_b (g_X9_lays 0 τ) fun a s => if a = 0 then A' s else B' s) := by
  have Pb := qw_P_lt ρ 0
  obtain ⟨τ', e1, e2, e3⟩ := qw_lays0 w m
  have hR2 := qw_keepM hR e2
  unfold g_X8_layWheel
  rw [e1, qw_places0 w d, qn_b, qn_b]
  by_cases c : qw_P ρ 0 = 0
  · rw [if_neg (fun z => (qw_1le (by omega)).mp z c), qn_b, if_pos rfl, if_pos c, if_pos rfl]
    exact h0 τ' hR2
  · obtain ⟨σ', g1, g2, g3⟩ := qw_lay w (r := 0) (P := qw_P ρ 0) (b := qw_E ρ) (k := 22) (by omega) (by omega) Pb (qw_E_lt2 ρ) d o
    have g1' : g_X7_lay 22 0 (lN (qw_P ρ 0)) (nI (qw_E ρ)) σ = some σ' := g1
    obtain ⟨x1, x2, x3, x4, x5, _⟩ := e3 c
    rw [if_pos ((qw_1le (by omega)).mpr c), qw_evC w d, qn_b, g1', qn_o, qn_b, if_neg qn_10, if_neg c, if_neg qn_10]
    exact h1 σ' τ' c ⟨qw_D1 g2.1 d, qw_O1 g2.1 o, x1, x2, g3, x3, x4, x5⟩ (qw_keepC hR2 (Or.inl rfl) g2)
theorem qz_common : ql_op_common qz_R := by
  intro a0 σ τ hR
  have hR0 := hR
  obtain ⟨⟨ρ, w, d, o, m⟩, hI, hW, hT, hL⟩ := hR
  have hN := w.1
  show qz_ok (g_X8_common a0 σ) (g_X9_common a0 τ)
  unfold g_X8_common g_X9_common
  refine qz_gRow (fun _ => qz_ok_no hR0 (-1)) ?_
  rintro r hr rfl
  have Pb := qw_P_lt ρ r
  obtain ⟨τ', e1, e2, e3⟩ := qw_lays w m hr
  have hR2 := qw_keepM hR0 e2
  rw [e1, qw_places w d hr, qn_b, qn_b]
  by_cases c : qw_P ρ r = 0
  · rw [if_pos ((qw_le0 (by omega)).mpr c), if_pos c, if_pos rfl]
    exact qz_ok_no hR2 (-7)
  · rw [if_neg (fun z => c ((qw_le0 (by omega)).mp z)), if_neg c, if_neg qn_10, (e3 c).2.2.1]
    exact qz_ok_some hR2
theorem qz_parts : ql_op_parts qz_R := by
  intro a0 σ τ hR
  have hR0 := hR
  obtain ⟨⟨ρ, w, d, o, m⟩, hI, hW, hT, hL⟩ := hR
  have hN := w.1
  show qz_ok (g_X8_parts a0 σ) (g_X9_parts a0 τ)
  unfold g_X8_parts g_X9_parts
  refine qz_gUnit w d m (fun _ => qz_ok_no hR0 (-1)) ?_
  rintro u hu rfl
  have Pb := qw_P_lt ρ 0
  obtain ⟨τ', e1, e2, e3⟩ := qw_lays0 w m
  have hR2 := qw_keepM hR0 e2
  rw [e1, qw_places0 w d, qn_b, qn_b]
  by_cases c : qw_P ρ 0 = 0
  · rw [if_pos ((qw_le0 (by omega)).mpr c), if_pos c, if_pos rfl]
    exact qz_ok_no hR2 (-7)
  · have v : τ'.2 7 u = lN (qw_l ρ 0 (qw_P ρ 0) (qw_E ρ) u) := ((e3 c).2.2.2.2.1 u hu).2
    rw [qw_l_E hu] at v
    have pC : g_X3_partsOf (nI u) 0 (lN (qw_P ρ 0)) σ = some (lN (qw_p ρ 0 (qw_P ρ 0) u), σ) := qw_partsC w d (r := 0) (by omega) hu Pb
    rw [if_neg (fun z => c ((qw_le0 (by omega)).mp z)), if_neg c, if_neg qn_10, pC, qn_b, qn_g (by omega) (by omega), qn_l, nI_clamp (by omega), v]
    exact qz_ok_some hR2
theorem qz_size : ql_op_size qz_R := by
  intro a0 σ τ hR
  have hR0 := hR
  obtain ⟨⟨ρ, w, d, o, m⟩, hI, hW, hT, hL⟩ := hR
  have hN := w.1
  show qz_ok (g_X8_size a0 σ) (g_X9_size a0 τ)
  unfold g_X8_size g_X9_size
  refine qz_gIn (n := 1) (by omega) (fun _ => ⟨qz_ok_no hR0 (-1), qz_ok_no hR0 (-1)⟩) ?_
  rintro r hr rfl
  have Pb := qw_P_lt ρ 0
  obtain ⟨τ', e1, e2, e3⟩ := qw_lays0 w m
  have hR2 := qw_keepM hR0 e2
  rw [e1, qw_places0 w d, qn_b, qn_b]
  by_cases c : qw_P ρ 0 = 0
  · rw [if_neg (fun z => (qw_1le (by omega)).mp z c), if_pos c, if_pos rfl]
    exact qz_ok_no hR2 (-7)
  · have aC : g_X3_partsOfAll 0 (lN (qw_P ρ 0)) σ = some (lN (qw_T ρ 0 (qw_P ρ 0)), σ) := qw_allC w d (r := 0) (by omega) Pb
    have h11 : τ'.2 0 11 = lN (qw_T ρ 0 (qw_P ρ 0)) := (e3 c).2.2.2.1
    rw [if_pos ((qw_1le (by omega)).mpr c), if_neg c, if_neg qn_10]
    simp only [qn_j]
    rw [aC, qn_b, (e3 c).2.2.1, h11]
    by_cases h : nI r = 0
    · rw [if_pos h, if_pos h, qn_zl (qw_lz (by omega) (by omega)), qn_zl (qw_lz (by omega) (by omega))]
      exact qz_ok_some hR2
    · rw [if_neg h, if_neg h, qn_zl (qw_lz (by omega) (by omega)), qn_zl (qw_lz (by omega) (by omega))]
      exact qz_ok_some hR2
-- places
theorem qw_placeC1 {σ : qe_S} {s P : Nat} (h : σ.2 22 0 = lN P) (hs : s < P) (hP : P < 2 ^ 31) : g_X7_hasPlace (nI s) σ = some (1, σ) := by
  unfold g_X7_hasPlace
  rw [qn_j, if_neg (nI_pos (by omega)), h, nI_l (by omega), if_neg (fun z => by have := (pk_lLE (by omega) (by omega)).mp z; omega)]
theorem qw_placeM1 {τ : qe_S} {s P : Nat} (h : τ.2 0 6 = lN P) (hs : s < P) (hP : P < 2 ^ 31) : g_X9_isPlace (nI s) τ = some (1, τ) := by
  unfold g_X9_isPlace
  rw [qn_j, if_neg (nI_pos (by omega)), h, nI_l (by omega), if_neg (fun z => by have := (pk_lLE (by omega) (by omega)).mp z; omega)]
theorem qw_placeC0 {σ : qe_S} {v : Int32} {P : Nat} (h : σ.2 22 0 = lN P) (hs : ¬ vp_in v P) (hP : P < 2 ^ 31) : g_X7_hasPlace v σ = some (0, σ) := by
  unfold g_X7_hasPlace
  rw [qn_j]
  by_cases c : v < 0
  · rw [if_pos c]
  · obtain ⟨j, hj, rfl⟩ := nI_of c
    have : ¬ j < P := fun z => hs (vp_in_nI z hP)
    rw [if_neg c, h, nI_l (by omega), if_pos ((pk_lLE (by omega) (by omega)).mpr (by omega))]
theorem qw_placeM0 {τ : qe_S} {v : Int32} {P : Nat} (h : τ.2 0 6 = lN P) (hs : ¬ vp_in v P) (hP : P < 2 ^ 31) : g_X9_isPlace v τ = some (0, τ) := by
  unfold g_X9_isPlace
  rw [qn_j]
  by_cases c : v < 0
  · rw [if_pos c]
  · obtain ⟨j, hj, rfl⟩ := nI_of c
    have : ¬ j < P := fun z => hs (vp_in_nI z hP)
    rw [if_neg c, h, nI_l (by omega), if_pos ((pk_lLE (by omega) (by omega)).mpr (by omega))]
theorem qw_gPlace {α : Type} {σ τ : qe_S} {v : Int32} {P : Nat} (hC : σ.2 22 0 = lN P) (hM : τ.2 0 6 = lN P) (hP : P < 2 ^ 31) {A B A' B' : qe_S → Option (α × qe_S)} (h0 : qz_ok (A σ) (A' τ)) (h1 : ∀ s, s < P → v = nI s → qz_ok (B σ) (B' τ)) : qz_ok (qm_b (g_X7_hasPlace v σ) fun a s => if a = 0 then A s else B s) (qm_b (g_X9_isPlace v τ) fun a s => if a = 0 then A' s else B' s) := by
  rcases qn_in_cases v (n := P) hP with h | ⟨s, hs, rfl⟩
  · rw [qw_placeC0 hC h hP, qw_placeM0 hM h hP, qn_b, qn_b, if_pos rfl, if_pos rfl]
    exact h0
  · rw [qw_placeC1 hC hs hP, qw_placeM1 hM hs hP, qn_b, qn_b, if_neg qn_10, if_neg qn_10]
    exact h1 s hs rfl
-- who is chosen
theorem qg_xor (x y : Int64) : ((0 : Int64) ≤ x ^^^ y) ↔ (x.toInt < 0 ↔ y.toInt < 0) := by
  have h : (x ^^^ y).toBitVec.msb = (x.toBitVec.msb ^^ y.toBitVec.msb) := by rw [Int64.toBitVec_xor, BitVec.msb_xor]
  rw [BitVec.msb_eq_toInt, BitVec.msb_eq_toInt, BitVec.msb_eq_toInt] at h
  have h' : decide ((x ^^^ y).toInt < 0) = (decide (x.toInt < 0) ^^ decide (y.toInt < 0)) := h
  rw [Int64.le_iff_toInt_le, Int64.toInt_zero]
  by_cases a : x.toInt < 0 <;> by_cases b : y.toInt < 0 <;> simp [a, b] at h' ⊢ <;> omega
theorem qg_sub {a b : Nat} (ha : a < 2 ^ 62) (hb : b < 2 ^ 62) : (lN a - lN b).toInt = (a : Int) - b := by
  rw [Int64.toInt_sub, pk_lT (by omega), pk_lT (by omega)]
  exact qg_bm (by omega) (by omega)
theorem qg_fm {x : Int64} {P : Nat} {σ : qe_S} (h0 : 0 < P) (hP : P < 2 ^ 62) : g_J9_floorMod_f86c9 x (lN P) σ = some (lN (x.toInt % (P : Int)).toNat, σ) := by
  have hPt : (lN P).toInt = (P : Int) := pk_lT (by omega)
  have e1 := Int.emod_nonneg x.toInt (b := (P : Int)) (by omega)
  have e2 := Int.emod_lt_of_pos x.toInt (b := (P : Int)) (by omega)
  have er := qg_rem x (lN P)
  rw [hPt] at er
  have em := Int.emod_eq_tmod (a := x.toInt) (b := (P : Int))
  have tgt : (lN (x.toInt % (P : Int)).toNat).toInt = x.toInt % (P : Int) := by
    rw [pk_lT (by omega)]
    omega
  unfold g_J9_floorMod_f86c9
  rw [qn_zl (qw_lz h0 (by omega)), qn_l]
  by_cases c : x.toInt < 0
  · have nx : ¬ (0 : Int64) ≤ x ^^^ lN P := fun z => by
      have := (qg_xor x (lN P)).mp z
      rw [hPt] at this
      omega
    rw [if_neg nx]
    by_cases dv : (P : Int) ∣ x.toInt
    · rw [if_pos (Or.inr dv)] at em
      have z : x.toInt % (P : Int) = 0 := Int.emod_eq_zero_of_dvd dv
      have r0 : qm_lr x (lN P) = 0 := qg_eq0.mpr (by omega)
      rw [if_pos r0]
      congr 2
      apply Int64.toInt_inj.mp
      rw [tgt, er]
      omega
    · rw [if_neg (fun y => y.elim (by omega) dv)] at em
      have r0 : ¬ qm_lr x (lN P) = 0 := fun y => by
        rw [qg_eq0, er] at y
        exact dv (Int.dvd_of_tmod_eq_zero y)
      rw [if_neg r0]
      congr 2
      apply Int64.toInt_inj.mp
      rw [tgt, Int64.toInt_add, er, hPt, qg_bm (by omega) (by omega)]
      omega
  · have nx : (0 : Int64) ≤ x ^^^ lN P := (qg_xor x (lN P)).mpr (by rw [hPt]; omega)
    rw [if_pos nx]
    rw [if_pos (Or.inl (by omega))] at em
    congr 2
    apply Int64.toInt_inj.mp
    rw [tgt, er]
    omega
def qw_on (ρ : qr_R) (r P b s u : Nat) : Bool := decide ((s + P - qw_f ρ r P b u) % P < qw_l ρ r P b u)
def qw_ch (ρ : qr_R) (r P b s : Nat) : Nat := qb_s (qw_on ρ r P b s) (qr_N ρ)
theorem qw_f_lt {ρ : qr_R} {r P b u : Nat} (hP : 0 < P) : qw_f ρ r P b u < P := by
  unfold qw_f
  split
  · exact Nat.mod_lt _ hP
  · exact hP
theorem qw_int {s P f : Nat} (hP : 0 < P) (hf : f < P) : (((s : Int) - f) % (P : Int)).toNat = (s + P - f) % P := by
  have e : ((s : Int) - f) % (P : Int) = ((s + P - f : Nat) : Int) % (P : Int) := by
    rw [show ((s + P - f : Nat) : Int) = ((s : Int) - f) + P * 1 by omega, Int.add_mul_emod_self_left]
  rw [e, ← Int.natCast_emod]
  exact Int.toNat_natCast _
theorem qw_l_lt {ρ : qr_R} (w : qr_wf ρ) {r P b u : Nat} (hr : r < 3) (hP2 : P < 2 ^ 31) (hb : b < 2 ^ qr_N ρ) : qw_l ρ r P b u ≤ P := by
  unfold qw_l
  by_cases c : b.testBit u = true
  · rw [if_pos c]
    refine qw_p_le w P hr (Nat.lt_of_not_le (fun z => ?_))
    rw [Nat.testBit_lt_two_pow (Nat.lt_of_lt_of_le hb (Nat.pow_le_pow_right (show 0 < 2 by omega) z))] at c
    exact absurd c (by decide)
  · rw [if_neg c]; omega
theorem qw_choosesC {ρ : qr_R} (w : qr_wf ρ) {r P b k s u : Nat} {σ : qe_S} (hr : r < 3) (hP : 0 < P) (hP2 : P < 2 ^ 31) (hb : b < 2 ^ qr_N ρ) (hC : qw_C k σ ρ r P b) (hs : s < 2 ^ 60) (hu : u < 12) : g_X7_chooses k (nI u) (lN s) σ = some (if qw_on ρ r P b s u then 1 else 0, σ) := by
  have hv := hC.2 u hu
  have fl := qw_f_lt (ρ := ρ) (r := r) (b := b) (u := u) hP
  have ll := qw_l_lt w (u := u) hr hP2 hb
  have ml := Nat.mod_lt (s + P - qw_f ρ r P b u) hP
  unfold g_X7_chooses
  rw [if_neg (nI_pos (by omega)), if_neg (nI_ge hu (by omega)), hC.1, if_pos ((qw_1le (by omega)).mpr (by omega)), qn_g (by omega) (by omega), qn_l, nI_clamp (by omega), hv.1, qg_fm hP (by omega), qn_b, qn_g (by omega) (by omega), qn_l, hv.2, qg_sub (by omega) (by omega), qw_int hP fl]
  unfold qw_on
  by_cases c : (s + P - qw_f ρ r P b u) % P < qw_l ρ r P b u
  · rw [if_neg (fun z => by have := (pk_lLE (by omega) (by omega)).mp z; omega), decide_eq_true c, if_pos rfl]
  · rw [if_pos ((pk_lLE (by omega) (by omega)).mpr (by omega)), decide_eq_false c, if_neg (by decide)]
theorem qw_isOn {ρ : qr_R} (w : qr_wf ρ) {r P b s u : Nat} {τ : qe_S} (hr : r < 3) (hP : 0 < P) (hP2 : P < 2 ^ 31) (hu : u < qr_N ρ) (hs : s < 2 ^ 60) : g_X9_isOn (lN s) (lN (qw_f ρ r P b u)) (lN (qw_l ρ r P b u)) (lN P) τ = some (if qw_on ρ r P b s u then 1 else 0, τ) := by
  have fl := qw_f_lt (ρ := ρ) (r := r) (b := b) (u := u) hP
  have ll := qw_l_le w P b hr hu
  have ml := Nat.mod_lt (s + P - qw_f ρ r P b u) hP
  unfold g_X9_isOn qw_on
  rw [qn_zl (qw_lz hP (by omega)), lN_add, lN_sub (by omega), qw_lr (by omega) hP (by omega)]
  by_cases c : (s + P - qw_f ρ r P b u) % P < qw_l ρ r P b u
  · rw [if_neg (fun z => by have := (pk_lLE (by omega) (by omega)).mp z; omega), decide_eq_true c, if_pos rfl]
  · rw [if_pos ((pk_lLE (by omega) (by omega)).mpr (by omega)), decide_eq_false c, if_neg (by decide)]
theorem qw_off {ρ : qr_R} {r P b s u : Nat} (hb : b < 2 ^ qr_N ρ) (hu : qr_N ρ ≤ u) : qw_on ρ r P b s u = false := by
  have nb : ¬ b.testBit u = true := by
    rw [Nat.testBit_lt_two_pow (Nat.lt_of_lt_of_le hb (Nat.pow_le_pow_right (show 0 < 2 by omega) hu))]
    decide
  unfold qw_on
  rw [show qw_l ρ r P b u = 0 from if_neg nb]
  exact decide_eq_false (by omega)
theorem qw_chC {ρ : qr_R} (w : qr_wf ρ) {r P b k s : Nat} {σ : qe_S} (hr : r < 3) (hP : 0 < P) (hP2 : P < 2 ^ 31) (hb : b < 2 ^ qr_N ρ) (hC : qw_C k σ ρ r P b) (hs : s < 2 ^ 60) : g_X7_chosenBy k (lN s) σ = some (nI (qw_ch ρ r P b s), σ) := by
  have hN := w.1
  have L : ∀ q i n, i + q = 12 → q < n → g_X7_chosenBy_L5 k (lN s) n (nI (qb_s (qw_on ρ r P b s) i)) (nI i) σ = some (nI (qb_s (qw_on ρ r P b s) 12), σ) := by
    intro q
    induction q with
    | zero =>
      intro i n hi hn
      obtain ⟨m, rfl⟩ : ∃ m, n = m + 1 := ⟨n - 1, by omega⟩
      obtain rfl : i = 12 := by omega
      simp only [g_X7_chosenBy_L5]
      rw [if_pos (nI_le (by omega) (by omega))]
    | succ q ih =>
      intro i n hi hn
      obtain ⟨m, rfl⟩ : ∃ m, n = m + 1 := ⟨n - 1, by omega⟩
      have e : g_X7_chosenBy_L5 k (lN s) (m + 1) (nI (qb_s (qw_on ρ r P b s) i)) (nI i) σ = g_X7_chosenBy_L5 k (lN s) m (nI (qb_s (qw_on ρ r P b s) (i + 1))) (nI (i + 1)) σ := by
        simp only [g_X7_chosenBy_L5, qn_j]
        rw [if_neg (nI_ge (show i < 12 by omega) (by omega)), qw_choosesC w hr hP hP2 hb hC hs (by omega), qn_b, qn_if0, ← qb_or]
        by_cases c : qw_on ρ r P b s i = true
        · rw [if_pos c, if_pos c, qb_shl (by omega), qb_nor, qn_l, qn_l, nI_1]
        · rw [if_neg c, if_neg c, Nat.or_zero, qn_l, qn_l, nI_1, ← nI_0, qb_nor, Nat.or_zero]
      rw [e]
      exact ih (i + 1) m (by omega) (by omega)
  have h := L 12 0 qm_F (by omega) (by rw [qn_F]; omega)
  have m12 := qb_more (qw_on ρ r P b s) (qr_N ρ) (12 - qr_N ρ) (fun u h1 _ => qw_off hb h1)
  rw [show qr_N ρ + (12 - qr_N ρ) = 12 by omega] at m12
  rw [m12] at h
  unfold g_X7_chosenBy
  rw [qn_l, qn_l]
  exact h
theorem qw_chM {ρ : qr_R} (w : qr_wf ρ) {r P b s : Nat} {τ : qe_S} (hr : r < 3) (hP : 0 < P) (hP2 : P < 2 ^ 31) (m : qr_M 1 τ ρ) (h6 : τ.2 0 6 = lN P) (hV : ∀ u, u < qr_N ρ → qw_V 6 7 τ ρ r P b u) (hs : s < 2 ^ 60) : g_X9_chosenBy (lN s) τ = some (nI (qw_ch ρ r P b s), τ) := by
  have hN := w.1
  have L : ∀ q i n, i + q = qr_N ρ → q < n → g_X9_chosenBy_L5 (lN s) n (nI (qb_s (qw_on ρ r P b s) i)) (nI i) τ = some (nI (qw_ch ρ r P b s), τ) := by
    intro q
    induction q with
    | zero =>
      intro i n hi hn
      obtain ⟨q, rfl⟩ : ∃ q, n = q + 1 := ⟨n - 1, by omega⟩
      obtain rfl : i = qr_N ρ := by omega
      simp only [g_X9_chosenBy_L5]
      rw [qn_g0 (by omega) (by omega), qn_l, qr_clamp0, m.1, if_pos (nI_le (by omega) (by omega))]
      rfl
    | succ q ih =>
      intro i n hi hn
      obtain ⟨q, rfl⟩ : ∃ q, n = q + 1 := ⟨n - 1, by omega⟩
      have hu : i < qr_N ρ := by omega
      have hv := hV i hu
      have e : g_X9_chosenBy_L5 (lN s) (q + 1) (nI (qb_s (qw_on ρ r P b s) i)) (nI i) τ = g_X9_chosenBy_L5 (lN s) q (nI (qb_s (qw_on ρ r P b s) (i + 1))) (nI (i + 1)) τ := by
        simp only [g_X9_chosenBy_L5, qn_j]
        rw [qn_g0 (by omega) (by omega), qn_l, qr_clamp0, m.1, if_neg (nI_ge hu (by omega)), qn_g (by omega) (by omega), qn_l, nI_clamp (by omega), qn_g (by omega) (by omega), qn_l, hv.1, hv.2, h6, qw_isOn w hr hP hP2 hu hs, qn_b, qn_if0, ← qb_or]
        by_cases c : qw_on ρ r P b s i = true
        · rw [if_pos c, if_pos c, qb_shl (by omega), qb_nor, qn_l, qn_l, nI_1]
        · rw [if_neg c, if_neg c, Nat.or_zero, qn_l, nI_1]
      rw [e]
      exact ih (i + 1) q (by omega) (by omega)
  have h := L (qr_N ρ) 0 qm_F (by omega) (by rw [qn_F]; omega)
  unfold g_X9_chosenBy
  rw [qn_l, qn_l]
  exact h
theorem qw_ch0 {ρ : qr_R} (w : qr_wf ρ) {s : Nat} {σ τ : qe_S} (hP : qw_P ρ 0 ≠ 0) (B : qw_B ρ σ τ) (hs : s < 2 ^ 60) : g_X7_chosenBy 22 (lN s) σ = some (nI (qw_ch ρ 0 (qw_P ρ 0) (qw_E ρ) s), σ) ∧ g_X9_chosenBy (lN s) τ = some (nI (qw_ch ρ 0 (qw_P ρ 0) (qw_E ρ) s), τ) :=
  ⟨qw_chC w (by omega) (by omega) (qw_P_lt ρ 0) (qw_E_lt2 ρ) B.2.2.2.2.1 hs, qw_chM w (by omega) (by omega) (qw_P_lt ρ 0) B.2.2.1 B.2.2.2.2.2.1 B.2.2.2.2.2.2.2 hs⟩
theorem qz_chosen : ql_op_chosen qz_R := by
  intro a0 σ τ hR
  have hR0 := hR
  obtain ⟨⟨ρ, w, d, o, m⟩, hI, hW, hT, hL⟩ := hR
  show qz_ok (g_X8_chosen a0 σ) (g_X9_chosen a0 τ)
  unfold g_X8_chosen g_X9_chosen
  refine qw_gLay hR0 w d o m (fun τ' h => qz_ok_no h (-7)) (fun σ' τ' hP B h => ?_)
  have Pb := qw_P_lt ρ 0
  refine qw_gPlace B.2.2.2.2.1.1 B.2.2.2.2.2.1 Pb (qz_ok_no h (-2)) ?_
  rintro s hs rfl
  obtain ⟨c1, c2⟩ := qw_ch0 w (s := s) hP B (by omega)
  rw [nI_l (by omega), c1, c2, qn_b, qn_b]
  exact qz_ok_some h
