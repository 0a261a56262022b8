/-! THE LAW: its body over the two worlds, for any relation of their states that every call keeps with the same answer -/
abbrev ql_A (s : State) : Nat → Prop := fun q => s.heap.size ≤ q
def ql_B (G : qe_G) (p : Program) (s : State) (m : MethodId) (meth : Method) (c : Code) (b L : Nat) (xs : Nat → Int32) : Prop := lw_At p s m meth c b L xs ∧ qe_K G s ∧ qe_Z G (ql_A s) s s.heap
def ql_L (l : Launch) (G : qe_G) (b L : Nat) (xs : Nat → Int32) (adc adm : Nat → Nat) (i : Nat) (pc : Nat) (st : List Value) (σ τ : qe_S) : Prop :=
  ∀ (p : Program) (e : Env) (s : State) (m : MethodId) (below : List Frame) (meth : Method) (c : Code) (H : Heap) (locs : List Loc) (ls : Array Slot), ql_B G p s m meth c b L xs →
    va_P (qe_D G) vwCl (qe_w G adc (qs_w σ (qs_TC G))) H → va_P (qe_D G) vwCl (qe_w G adm (qs_w τ (qs_TM G))) H → va_D (ql_A s) (qe_w G adc (qs_w σ (qs_TC G)) ++ qe_w G adm (qs_w τ (qs_TM G))) → va_S (ql_A s) s.heap H locs →
    lv_has ls 4 [(0, .ref b), (1, .ref (adc 0)), (2, .ref (adm 0)), (3, .int (nI i))] →
    W p l e room_1 s m #[Value.ref b] below meth c H locs 67 1757 (lw_Z below #[Value.ref b] s) (F0 m pc ls st)
theorem ql_addr (G : qe_G) (ad : Nat → Nat) : ∀ (X Y : List va_E) (i : Nat), X.length = Y.length → (qe_wi G ad i X).map (fun q => q.1) = (qe_wi G ad i Y).map (fun q => q.1) := by
  intro X
  induction X with
  | nil => intro Y i h; cases Y with
    | nil => rfl
    | cons _ _ => cases h
  | cons e l ih => intro Y i h; cases Y with
    | nil => cases h
    | cons e' l' => simp only [qe_wi, List.map_cons]; rw [ih l' (i + 1) (by simpa using h)]
theorem ql_D_addr {A : Nat → Prop} {w w' : va_W} (h : w.map (fun q => q.1) = w'.map (fun q => q.1)) (hD : va_D A w) : va_D A w' := by
  have key : ∀ (k : Nat) (q : Nat × va_E), w'[k]? = some q → ∃ q0, w[k]? = some q0 ∧ q0.1 = q.1 := by
    intro k q hk
    have h1 : (w'.map (fun q => q.1))[k]? = some q.1 := by rw [List.getElem?_map, hk]; rfl
    rw [← h, List.getElem?_map] at h1
    cases hw : w[k]? with
    | none => rw [hw] at h1; cases h1
    | some q0 => rw [hw] at h1; exact ⟨q0, rfl, Option.some.inj h1⟩
  refine ⟨fun i j x y hx hy hxy => ?_, fun k q hk => ?_⟩
  · obtain ⟨x0, h1, h2⟩ := key i x hx
    obtain ⟨y0, h3, h4⟩ := key j y hy
    exact hD.1 i j x0 y0 h1 h3 (by rw [h2, h4]; exact hxy)
  · obtain ⟨q0, h1, h2⟩ := key k q hk
    rw [← h2]
    exact hD.2 k q0 h1
theorem ql_D_set (G : qe_G) (ad : Nat → Nat) (T : List va_E) (σ σ' : qe_S) : (qe_w G ad (qs_w σ T)).map (fun q => q.1) = (qe_w G ad (qs_w σ' T)).map (fun q => q.1) := ql_addr G ad _ _ 0 (by rw [qs_c_len, qs_c_len])
theorem ql_D_l {A : Nat → Prop} {w1 w2 : va_W} (h : va_D A (w1 ++ w2)) : va_D A w1 := by
  have key : ∀ (k : Nat) (q : Nat × va_E), w1[k]? = some q → (w1 ++ w2)[k]? = some q := fun k q hk => by rw [List.getElem?_append_left (List.getElem?_eq_some_iff.mp hk).1]; exact hk
  exact ⟨fun i j x y hx hy hxy => h.1 i j x y (key i x hx) (key j y hy) hxy, fun k q hk => h.2 k q (key k q hk)⟩
theorem ql_D_x {A : Nat → Prop} {w1 w2 : va_W} (h : va_D A (w1 ++ w2)) {i j : Nat} {x y : Nat × va_E} (hx : w1[i]? = some x) (hy : w2[j]? = some y) : x.1 ≠ y.1 := by
  intro e
  have h1 : (w1 ++ w2)[i]? = some x := by rw [List.getElem?_append_left (List.getElem?_eq_some_iff.mp hx).1]; exact hx
  have h2 : (w1 ++ w2)[w1.length + j]? = some y := by rw [List.getElem?_append_right (by omega), show w1.length + j - w1.length = j by omega]; exact hy
  have := h.1 _ _ x y h1 h2 e
  have := (List.getElem?_eq_some_iff.mp hx).1
  omega
theorem ql_D_r {A : Nat → Prop} {w1 w2 : va_W} (h : va_D A (w1 ++ w2)) : va_D A w2 := by
  have key : ∀ (k : Nat) (q : Nat × va_E), w2[k]? = some q → (w1 ++ w2)[w1.length + k]? = some q := fun k q hk => by rw [List.getElem?_append_right (by omega), show w1.length + k - w1.length = k by omega]; exact hk
  refine ⟨fun i j x y hx hy hxy => ?_, fun k q hk => h.2 _ q (key k q hk)⟩
  have := h.1 _ _ x y (key i x hx) (key j y hy) hxy
  omega
/-- the room and the words of a call out of the law -/
def ql_rm (M' : qe_M) (idx n : Nat) : Prop := Cond.code (qe_y M') (qe_c M') (qe_n M') (qe_r M') ∈ qe_bg ∧ (qe_y M').cls ≠ "java/lang/invoke/MethodHandle" ∧ (qe_y M').cls ≠ "java/lang/invoke/VarHandle" ∧ (parseMethodDescriptor (qe_y M').desc).map (fun d => d.parameters.length) = some n ∧ (qe_R M').frames + 1 ≤ 10 ∧ 8 + (qe_n M' + 11) + (qe_R M').locals ≤ 392 ∧ Cond.initialized (qe_y M').cls ∈ qe_bg ∧ Cond.methodLink R_law idx (qe_y M') ∈ qe_bg ∧ Cond.instanceMethod (qe_y M') ∈ qe_bg ∧ Cond.selects (qe_y M').cls (qe_y M') (qe_y M') ∈ qe_bg
theorem ql_bg {args : Array Value} {s : State} (h : ∀ w ∈ lw_tbl, w.before args s = true) : ∀ w ∈ qe_bg, w.before args s = true := fun w hw => h w (List.mem_filter.mp hw).1
section QL
variable {l : Launch} {G : qe_G} {b L : Nat} {xs : Nat → Int32} {adc adm : Nat → Nat} {i pc : Nat} {st : List Value} {σ τ : qe_S}
theorem ql_run {M' : qe_M} {idx n ci : Nat} {ad : Nat → Nat} {X X1 : List va_E} {fs av : List Value} {r1 : Option Value} {p : Program} {e : Env} {s : State} {m : MethodId} {below : List Frame} {meth : Method} {c : Code} {H : Heap} {locs : List Loc} {ls : Array Slot} {st0 : List Value} (hk : ql_rm M' idx n) (hC : qe_C l G M' (.ref 0 :: av) X r1 X1) (hX : X[0]? = some (.inr (ci, fs))) (hcl : (vwCl[ci]?).map (fun q => q.1) = some (qe_y M').cls) (hn : av.length = n) (hav : ∀ ad, av.map (qe_v G ad) = av) (hst : st0 = av.reverse ++ .ref (ad 0) :: st) (hcat : (st.map fun v => v.category).sum ≤ 8) (hd : decode code pc = .ok (.invokevirtual idx, 3))
    (hB : ql_B G p s m meth c b L xs) (hP : va_P (qe_D G) vwCl (qe_w G ad X) H) (hD : va_D (ql_A s) (qe_w G ad X)) (hS : va_S (ql_A s) s.heap H locs) (hls : ls.size = 4) :
    va_Run p l e room_1 s m #[Value.ref b] below meth c H locs 67 1757 0 0 (F0 m pc ls st0) st (qe_Q G ad (va_A (qe_w G ad X) H.size) r1 X1 (Value.ref (ad 0) :: av).toArray) (va_A (qe_w G ad X) H.size) := by
  obtain ⟨⟨hx, hb, hr, hml, hown, hts, hX0, hbl, hlocks, hgv⟩, hK, hZ⟩ := hB
  have hbg := ql_bg hts
  subst hst
  obtain ⟨q, hq, hqc⟩ : ∃ q, vwCl[ci]? = some q ∧ q.1 = (qe_y M').cls := by
    cases hq : vwCl[ci]? with
    | none => rw [hq] at hcl; cases hcl
    | some q => rw [hq] at hcl; exact ⟨q, rfl, Option.some.inj hcl⟩
  have hrecv := va_recv (cl := vwCl) (D := qe_D G) hK hP hq (qe_w_at (ad := ad) hX)
  rw [hqc] at hrecv
  have hM := hC ad H.size
  rw [List.map_cons, hav] at hM
  have hgw : GoodIn qe_bg (qe_ws M') := by
    intro w hw
    rcases List.mem_cons.mp hw with rfl | hw
    · exact ⟨hk.1, qe_bg_good _ hk.1⟩
    · exact ⟨hw, qe_bg_good _ hw⟩
  have hsA : ∀ q, va_A (qe_w G ad X) H.size q → ql_A s q := by
    intro q h
    rcases h with ⟨k, e, h⟩ | h
    · exact hD.2 k (q, e) h
    · exact Nat.le_trans hS.1 h
  have hcb : CallB room_1 s #[Value.ref b] R_law idx (qe_y M') (qe_c M') (qe_n M') (qe_r M') (qe_ws M') (qe_R M') 0 0 n := callB_of n hbg hgw rfl rfl rfl (hbg _ hk.2.2.2.2.2.2.1) (hbg _ hk.2.2.2.2.2.2.2.1) ⟨hk.2.1, hk.2.2.1, hk.2.2.2.1⟩ ⟨hk.2.2.2.2.1, hk.2.2.2.2.2.1⟩
  have hbl2 : FrameBlind (va_Pc (Value.ref (ad 0) :: av) (fun U => U.heap.size = H.size ∧ va_P (qe_D G) vwCl (qe_w G ad X) U.heap ∧ qe_K G U ∧ va_D (fun _ => True) (qe_w G ad X) ∧ qe_Z G (va_A (qe_w G ad X) H.size) U U.heap)) := by
    intro a U g mk q
    obtain ⟨q0, q1, q2, q3, q4, q5⟩ := q
    exact ⟨q0, q1, q2, va_K.moved (u := U) (U := U.calling g mk a) (Vm.Alike.refl U.vm) q3, q4, qe_Z_same (u := U) (U := U.calling g mk a) rfl q5⟩
  refine va_runV (p := p) (l := l) (e := e) (R := room_1) (s := s) (m := m) (args := #[Value.ref b]) (below := below) (meth := meth) (c := c) (cc := code) (H := H) (locs := locs) (cells := 67) (slots := 1757) (g := F0 m pc ls (av.reverse ++ .ref (ad 0) :: st)) (As := av) (rest := st) (b := ad 0) (Ts := qe_bg) (own := R_law) (nL := 4) ⟨hx, hb, hml, hown, hbg⟩ hM ⟨hcb, hbg _ hk.2.2.2.2.2.2.2.2.1, hbg _ hk.2.2.2.2.2.2.2.2.2⟩ ⟨hbl2, hrecv, fun U hU hW => ⟨rfl, by rw [hU], by rw [hU]; exact hP, va_K.moved hW.alike hK, hD.weaken (fun _ _ _ _ => trivial), ?_⟩⟩ rfl hn hls rfl (lv_room hcat) hd ⟨by decide, by decide⟩
  rw [hU]
  exact qe_Z_warm hW (qe_Z_narrow (qe_Z_kept hZ (fun a h1 h2 => hS.2.1 a h1 h2)) hsA)
theorem ql_callX {M' : qe_M} {idx n : Nat} {av : List Value} {v : Value} {σ' : qe_S} {st0 : List Value} (hk : ql_rm M' idx n) (hC : qe_C l G M' (.ref 0 :: av) (qs_w σ (qs_TC G)) (some v) (qs_w σ' (qs_TC G))) (hcl : (qe_y M').cls = RX8) (hn : av.length = n) (hav : ∀ ad, av.map (qe_v G ad) = av) (hv : ∀ ad, qe_v G ad v = v) (hst : st0 = av.reverse ++ .ref (adc 0) :: st) (hcat : (st.map fun v => v.category).sum ≤ 8) (hd : decode code pc = .ok (.invokevirtual idx, 3)) (kk : ql_L l G b L xs adc adm i (pc + 3) (v :: st) σ' τ) : ql_L l G b L xs adc adm i pc st0 σ τ := by
  intro p e s m below meth c H locs ls hB hPc hPm hD hS hls
  have hrun := ql_run (l := l) (e := e) (below := below) (ls := ls) (pc := pc) (st := st) (st0 := st0) (ad := adc) hk hC (qs_at tC_0) (by rw [hcl]; rfl) hn hav hst hcat hd hB hPc (ql_D_l hD) hS hls.1
  intro T hT Y
  obtain ⟨w, st₀, t, T', Lc, h0, Y', hL, e1, e2, ⟨⟨hv1, hP1, hD1⟩, hz, hkq⟩, stp⟩ := hrun T hT Y
  have hw : w = some v := by rw [← hv adc]; exact Outcome.returned.inj hv1
  subst hw
  rw [h0] at hz hkq
  have hsA : ∀ q, va_A (qe_w G adc (qs_w σ (qs_TC G))) H.size q → ql_A s q := by
    intro q h
    rcases h with ⟨k, e, h⟩ | h
    · exact (ql_D_l hD).2 k (q, e) h
    · exact Nat.le_trans hS.1 h
  have hPm1 : va_P (qe_D G) vwCl (qe_w G adm (qs_w τ (qs_TM G))) T'.heap := by
    intro k q hq
    refine (hPm k q hq).kept ?_
    rw [e1]
    refine hkq q.1 (hPm k q hq).lt (fun h => ?_)
    rcases h with ⟨k2, e, h⟩ | h
    · exact ql_D_x hD h hq rfl
    · have := (hPm k q hq).lt
      omega
  have hDn : va_D (ql_A s) (qe_w G adc (qs_w σ' (qs_TC G)) ++ qe_w G adm (qs_w τ (qs_TM G))) := ql_D_addr (by rw [List.map_append, List.map_append, ql_D_set G adc (qs_TC G) σ σ']) hD
  have hS1 : va_S (ql_A s) s.heap T'.heap (locs ++ Lc) := ⟨Nat.le_trans hS.1 (by rw [e1]; exact hz), fun q h1 h2 => by rw [e1, hkq q (Nat.lt_of_lt_of_le h1 hS.1) (fun z => h2 (hsA q z))]; exact hS.2.1 q h1 h2, fun q hq => by
      rcases List.mem_append.mp hq with h | h
      · exact hS.2.2 q h
      · exact hsA _ (hL q h)⟩
  obtain ⟨t2, a1, b1⟩ := kk p e s m below meth c T'.heap (locs ++ Lc) ls hB (by rw [e1]; exact hP1) hPm1 hDn hS1 hls T' rfl Y'
  exact ⟨t2, stp t2 a1, b1⟩
theorem ql_callM {M' : qe_M} {idx n : Nat} {av : List Value} {v : Value} {τ' : qe_S} {st0 : List Value} (hk : ql_rm M' idx n) (hC : qe_C l G M' (.ref 0 :: av) (qs_w τ (qs_TM G)) (some v) (qs_w τ' (qs_TM G))) (hcl : (qe_y M').cls = RX9) (hn : av.length = n) (hav : ∀ ad, av.map (qe_v G ad) = av) (hv : ∀ ad, qe_v G ad v = v) (hst : st0 = av.reverse ++ .ref (adm 0) :: st) (hcat : (st.map fun v => v.category).sum ≤ 8) (hd : decode code pc = .ok (.invokevirtual idx, 3)) (kk : ql_L l G b L xs adc adm i (pc + 3) (v :: st) σ τ') : ql_L l G b L xs adc adm i pc st0 σ τ := by
  intro p e s m below meth c H locs ls hB hPc hPm hD hS hls
  have hrun := ql_run (l := l) (e := e) (below := below) (ls := ls) (pc := pc) (st := st) (st0 := st0) (ad := adm) hk hC (qs_at tM_0) (by rw [hcl]; rfl) hn hav hst hcat hd hB hPm (ql_D_r hD) hS hls.1
  intro T hT Y
  obtain ⟨w, st₀, t, T', Lc, h0, Y', hL, e1, e2, ⟨⟨hv1, hP1, hD1⟩, hz, hkq⟩, stp⟩ := hrun T hT Y
  have hw : w = some v := by rw [← hv adm]; exact Outcome.returned.inj hv1
  subst hw
  rw [h0] at hz hkq
  have hsA : ∀ q, va_A (qe_w G adm (qs_w τ (qs_TM G))) H.size q → ql_A s q := by
    intro q h
    rcases h with ⟨k, e, h⟩ | h
    · exact (ql_D_r hD).2 k (q, e) h
    · exact Nat.le_trans hS.1 h
  have hPc1 : va_P (qe_D G) vwCl (qe_w G adc (qs_w σ (qs_TC G))) T'.heap := by
    intro k q hq
    refine (hPc k q hq).kept ?_
    rw [e1]
    refine hkq q.1 (hPc k q hq).lt (fun h => ?_)
    rcases h with ⟨k2, e, h⟩ | h
    · exact ql_D_x hD hq h rfl
    · have := (hPc k q hq).lt
      omega
  have hDn : va_D (ql_A s) (qe_w G adc (qs_w σ (qs_TC G)) ++ qe_w G adm (qs_w τ' (qs_TM G))) := ql_D_addr (by rw [List.map_append, List.map_append, ql_D_set G adm (qs_TM G) τ τ']) hD
  have hS1 : va_S (ql_A s) s.heap T'.heap (locs ++ Lc) := ⟨Nat.le_trans hS.1 (by rw [e1]; exact hz), fun q h1 h2 => by rw [e1, hkq q (Nat.lt_of_lt_of_le h1 hS.1) (fun z => h2 (hsA q z))]; exact hS.2.1 q h1 h2, fun q hq => by
      rcases List.mem_append.mp hq with h | h
      · exact hS.2.2 q h
      · exact hsA _ (hL q h)⟩
  obtain ⟨t2, a1, b1⟩ := kk p e s m below meth c T'.heap (locs ++ Lc) ls hB hPc1 (by rw [e1]; exact hP1) hDn hS1 hls T' rfl Y'
  exact ⟨t2, stp t2 a1, b1⟩
theorem ql_x (hd : decode code pc = .ok (.aload_n 1, 1)) (kk : ql_L l G b L xs adc adm i (pc + 1) (.ref (adc 0) :: st) σ τ) : ql_L l G b L xs adc adm i pc st σ τ := by
  intro p e s m below meth c H locs ls hB hPc hPm hD hS hls
  exact lv_aload_n hB.1.1 hB.1.2.1 hd rfl (lv_at hls 1 rfl) (kk p e s m below meth c H locs ls hB hPc hPm hD hS hls)
theorem ql_m (hd : decode code pc = .ok (.aload_n 2, 1)) (kk : ql_L l G b L xs adc adm i (pc + 1) (.ref (adm 0) :: st) σ τ) : ql_L l G b L xs adc adm i pc st σ τ := by
  intro p e s m below meth c H locs ls hB hPc hPm hD hS hls
  exact lv_aload_n hB.1.1 hB.1.2.1 hd rfl (lv_at hls 2 rfl) (kk p e s m below meth c H locs ls hB hPc hPm hD hS hls)
theorem ql_sc {n : Int} (k : Nat) (hv : Int32.ofInt n = nI k) (hk : i + k < L) (hL : L ≤ 2560) (h0 : decode code pc = .ok (.aload_n 0, 1)) (h1 : decode code (pc + 1) = .ok (.iload_n 3, 1)) (h2 : decode code (pc + 1 + 1) = .ok (.iconst n, 1)) (h3 : decode code (pc + 1 + 1 + 1) = .ok (.iadd, 1)) (h4 : decode code (pc + 1 + 1 + 1 + 1) = .ok (.iaload, 1)) (kk : ql_L l G b L xs adc adm i (pc + 1 + 1 + 1 + 1 + 1) (.int (xs (i + k)) :: st) σ τ) : ql_L l G b L xs adc adm i pc st σ τ := by
  intro p e s m below meth c H locs ls hB hPc hPm hD hS hls
  have kk := kk p e s m below meth c H locs ls hB hPc hPm hD hS hls
  obtain ⟨hx, hb, hr, hml, hown, hts, hX0, hbl, hlocks, hgv⟩ := hB.1
  refine lv_aload_n hx hb h0 rfl (lv_at hls 0 rfl) ?_
  refine lv_iload_n hx hb h1 rfl (lv_at hls 3 rfl) ?_
  refine lv_iconst hx hb h2 hv ?_
  refine lv_iadd hx hb h3 ?_
  rw [nI_add]
  refine va_sld hx hb hX0 hbl (Nat.not_le.mpr hbl) hS (vp_in_nI hk (by omega)) h4 ?_
  rw [nI_clamp (by omega)]
  exact kk
theorem ql_sc0 (hk : i < L) (hL : L ≤ 2560) (h0 : decode code pc = .ok (.aload_n 0, 1)) (h1 : decode code (pc + 1) = .ok (.iload_n 3, 1)) (h4 : decode code (pc + 1 + 1) = .ok (.iaload, 1)) (kk : ql_L l G b L xs adc adm i (pc + 1 + 1 + 1) (.int (xs i) :: st) σ τ) : ql_L l G b L xs adc adm i pc st σ τ := by
  intro p e s m below meth c H locs ls hB hPc hPm hD hS hls
  have kk := kk p e s m below meth c H locs ls hB hPc hPm hD hS hls
  obtain ⟨hx, hb, hr, hml, hown, hts, hX0, hbl, hlocks, hgv⟩ := hB.1
  refine lv_aload_n hx hb h0 rfl (lv_at hls 0 rfl) ?_
  refine lv_iload_n hx hb h1 rfl (lv_at hls 3 rfl) ?_
  refine va_sld hx hb hX0 hbl (Nat.not_le.mpr hbl) hS (vp_in_nI hk (by omega)) h4 ?_
  rw [nI_clamp (by omega)]
  exact kk
/-- the script's two ints as one long -/
def ql_lg (x y : Int32) : Int64 := (x.toInt64 <<< ((nI 32).toInt64 &&& 63)) ||| (y.toInt64 &&& lN 4294967295)
theorem ql_i2l {x : Int32} (hd : decode code pc = .ok (.i2l, 1)) (kk : ql_L l G b L xs adc adm i (pc + 1) (.long x.toInt64 :: st) σ τ) : ql_L l G b L xs adc adm i pc (.int x :: st) σ τ := by
  intro p e s m below meth c H locs ls hB hPc hPm hD hS hls
  exact lv_i2l hB.1.1 hB.1.2.1 hd rfl (kk p e s m below meth c H locs ls hB hPc hPm hD hS hls)
theorem ql_bipush {n : Int} {v : Int32} (hd : decode code pc = .ok (.bipush n, 2)) (hv : (Int8.ofInt n).toInt32 = v) (kk : ql_L l G b L xs adc adm i (pc + 2) (.int v :: st) σ τ) : ql_L l G b L xs adc adm i pc st σ τ := by
  intro p e s m below meth c H locs ls hB hPc hPm hD hS hls
  exact lv_bipush hB.1.1 hB.1.2.1 hd hv (kk p e s m below meth c H locs ls hB hPc hPm hD hS hls)
theorem ql_lshl {x : Int64} {y : Int32} (hd : decode code pc = .ok (.lshl, 1)) (kk : ql_L l G b L xs adc adm i (pc + 1) (.long (x <<< (y.toInt64 &&& 63)) :: st) σ τ) : ql_L l G b L xs adc adm i pc (.int y :: .long x :: st) σ τ := by
  intro p e s m below meth c H locs ls hB hPc hPm hD hS hls
  exact lv_lshl hB.1.1 hB.1.2.1 hd rfl (kk p e s m below meth c H locs ls hB hPc hPm hD hS hls)
theorem ql_land {x y : Int64} (hd : decode code pc = .ok (.land, 1)) (kk : ql_L l G b L xs adc adm i (pc + 1) (.long (x &&& y) :: st) σ τ) : ql_L l G b L xs adc adm i pc (.long y :: .long x :: st) σ τ := by
  intro p e s m below meth c H locs ls hB hPc hPm hD hS hls
  exact lv_land hB.1.1 hB.1.2.1 hd (kk p e s m below meth c H locs ls hB hPc hPm hD hS hls)
theorem ql_lor {x y : Int64} (hd : decode code pc = .ok (.lor, 1)) (kk : ql_L l G b L xs adc adm i (pc + 1) (.long (x ||| y) :: st) σ τ) : ql_L l G b L xs adc adm i pc (.long y :: .long x :: st) σ τ := by
  intro p e s m below meth c H locs ls hB hPc hPm hD hS hls
  exact lv_lor hB.1.1 hB.1.2.1 hd (kk p e s m below meth c H locs ls hB hPc hPm hD hS hls)
theorem ql_iand {x y : Int32} (hd : decode code pc = .ok (.iand, 1)) (kk : ql_L l G b L xs adc adm i (pc + 1) (.int (x &&& y) :: st) σ τ) : ql_L l G b L xs adc adm i pc (.int y :: .int x :: st) σ τ := by
  intro p e s m below meth c H locs ls hB hPc hPm hD hS hls
  exact lv_iand hB.1.1 hB.1.2.1 hd (kk p e s m below meth c H locs ls hB hPc hPm hD hS hls)
theorem ql_ldc2 {idx : Nat} {v : Int64} (hw : Cond.constantLong R_law idx v ∈ qe_bg) (hd : decode code pc = .ok (.ldc2_w idx, 3)) (kk : ql_L l G b L xs adc adm i (pc + 3) (.long v :: st) σ τ) : ql_L l G b L xs adc adm i pc st σ τ := by
  intro p e s m below meth c H locs ls hB hPc hPm hD hS hls
  exact lv_ldc2 hB.1.1 hB.1.2.1 hB.1.2.2.2.2.1 (ql_bg hB.1.2.2.2.2.2.1 _ hw) hd (kk p e s m below meth c H locs ls hB hPc hPm hD hS hls)
theorem ql_same {x : Int32} {off : Int} {tgt : Nat} (hd : decode code pc = .ok (.if_icmp .eq off, 3)) (ht : (pc : Int) + off = (tgt : Int)) (kk : ql_L l G b L xs adc adm i tgt st σ τ) : ql_L l G b L xs adc adm i pc (.int x :: .int x :: st) σ τ := by
  intro p e s m below meth c H locs ls hB hPc hPm hD hS hls
  exact lv_icmp_eq hB.1.1 hB.1.2.1 hd ht (fun _ => kk p e s m below meth c H locs ls hB hPc hPm hD hS hls) (fun z => absurd rfl z)
theorem ql_sameL {x : Int64} {off : Int} {tgt : Nat} (hd : decode code pc = .ok (.lcmp, 1)) (hd2 : decode code (pc + 1) = .ok (.ifCond .eq off, 3)) (ht : ((pc + 1 : Nat) : Int) + off = (tgt : Int)) (kk : ql_L l G b L xs adc adm i tgt st σ τ) : ql_L l G b L xs adc adm i pc (.long x :: .long x :: st) σ τ := by
  intro p e s m below meth c H locs ls hB hPc hPm hD hS hls
  refine W.lcmp hB.1.1 hB.1.2.1 hd ?_
  exact lv_if_eq hB.1.1 hB.1.2.1 hd2 ht (fun _ => kk p e s m below meth c H locs ls hB hPc hPm hD hS hls) (fun z => absurd (qe_cmp_eq.mpr rfl) z)
theorem ql_tin {dflt lo hi : Int} {offs : Array Int} {len : Nat} {x v : Int32} {off : Int} {tgt : Nat} (hd : decode code pc = .ok (.tableswitch dflt lo hi offs, len)) (h1 : ¬ v.toInt < lo) (h2 : ¬ hi < v.toInt) (ho : offs[(v.toInt - lo).toNat]? = some off) (ht : (pc : Int) + off = (tgt : Int)) (k1 : ql_L l G b L xs adc adm i tgt st σ τ) (k2 : ¬ x = v → ql_L l G b L xs adc adm i pc (.int x :: st) σ τ) : ql_L l G b L xs adc adm i pc (.int x :: st) σ τ := by
  by_cases hx : x = v
  · subst hx
    intro p e s m below meth c H locs ls hB hPc hPm hD hS hls
    exact lv_tableIn hB.1.1 hB.1.2.1 hd h1 h2 ho ht (k1 p e s m below meth c H locs ls hB hPc hPm hD hS hls)
  · exact k2 hx
theorem ql_tout {dflt lo hi : Int} {offs : Array Int} {len : Nat} {x : Int32} {tgt : Nat} (n : Nat) (hd : decode code pc = .ok (.tableswitch dflt lo hi offs, len)) (hn : lo + n = hi + 1) (hx : ∀ k : Nat, k < n → ¬ x = Int32.ofInt (lo + k)) (ht : (pc : Int) + dflt = (tgt : Int)) (kk : ql_L l G b L xs adc adm i tgt st σ τ) : ql_L l G b L xs adc adm i pc (.int x :: st) σ τ := by
  intro p e s m below meth c H locs ls hB hPc hPm hD hS hls
  refine lv_tableOut hB.1.1 hB.1.2.1 hd ?_ ht (kk p e s m below meth c H locs ls hB hPc hPm hD hS hls)
  by_cases h : x.toInt < lo ∨ hi < x.toInt
  · exact h
  · have h1 : ¬ x.toInt < lo := fun q => h (Or.inl q)
    have h2 : ¬ hi < x.toInt := fun q => h (Or.inr q)
    refine absurd ?_ (hx (x.toInt - lo).toNat (by omega))
    rw [show lo + ((x.toInt - lo).toNat : Int) = x.toInt by omega]
    exact (Int32.ofInt_toInt x).symm
end QL
theorem kl_X8_unit : ql_rm MX8_unit 13 4 := ⟨qe_in 324 (by decide +kernel) (by decide +kernel), by decide, by decide, by decide +kernel, by decide, by decide, qe_in 64 (by decide +kernel) (by decide +kernel), qe_in 321 (by decide +kernel) (by decide +kernel), qe_in 322 (by decide +kernel) (by decide +kernel), qe_in 323 (by decide +kernel) (by decide +kernel)⟩
theorem kl_X9_unit : ql_rm MX9_unit 17 4 := ⟨qe_in 969 (by decide +kernel) (by decide +kernel), by decide, by decide, by decide +kernel, by decide, by decide, qe_in 73 (by decide +kernel) (by decide +kernel), qe_in 966 (by decide +kernel) (by decide +kernel), qe_in 967 (by decide +kernel) (by decide +kernel), qe_in 968 (by decide +kernel) (by decide +kernel)⟩
theorem kl_X8_odds : ql_rm MX8_odds 18 4 := ⟨qe_in 380 (by decide +kernel) (by decide +kernel), by decide, by decide, by decide +kernel, by decide, by decide, qe_in 64 (by decide +kernel) (by decide +kernel), qe_in 377 (by decide +kernel) (by decide +kernel), qe_in 378 (by decide +kernel) (by decide +kernel), qe_in 379 (by decide +kernel) (by decide +kernel)⟩
theorem kl_X9_odds : ql_rm MX9_odds 21 4 := ⟨qe_in 991 (by decide +kernel) (by decide +kernel), by decide, by decide, by decide +kernel, by decide, by decide, qe_in 73 (by decide +kernel) (by decide +kernel), qe_in 988 (by decide +kernel) (by decide +kernel), qe_in 989 (by decide +kernel) (by decide +kernel), qe_in 990 (by decide +kernel) (by decide +kernel)⟩
theorem kl_X8_set : ql_rm MX8_set 22 3 := ⟨qe_in 388 (by decide +kernel) (by decide +kernel), by decide, by decide, by decide +kernel, by decide, by decide, qe_in 64 (by decide +kernel) (by decide +kernel), qe_in 385 (by decide +kernel) (by decide +kernel), qe_in 386 (by decide +kernel) (by decide +kernel), qe_in 387 (by decide +kernel) (by decide +kernel)⟩
theorem kl_X9_set : ql_rm MX9_set 26 3 := ⟨qe_in 1003 (by decide +kernel) (by decide +kernel), by decide, by decide, by decide +kernel, by decide, by decide, qe_in 73 (by decide +kernel) (by decide +kernel), qe_in 1000 (by decide +kernel) (by decide +kernel), qe_in 1001 (by decide +kernel) (by decide +kernel), qe_in 1002 (by decide +kernel) (by decide +kernel)⟩
theorem kl_X8_mark : ql_rm MX8_mark 27 2 := ⟨qe_in 408 (by decide +kernel) (by decide +kernel), by decide, by decide, by decide +kernel, by decide, by decide, qe_in 64 (by decide +kernel) (by decide +kernel), qe_in 405 (by decide +kernel) (by decide +kernel), qe_in 406 (by decide +kernel) (by decide +kernel), qe_in 407 (by decide +kernel) (by decide +kernel)⟩
theorem kl_X9_mark : ql_rm MX9_mark 31 2 := ⟨qe_in 1007 (by decide +kernel) (by decide +kernel), by decide, by decide, by decide +kernel, by decide, by decide, qe_in 73 (by decide +kernel) (by decide +kernel), qe_in 1004 (by decide +kernel) (by decide +kernel), qe_in 1005 (by decide +kernel) (by decide +kernel), qe_in 1006 (by decide +kernel) (by decide +kernel)⟩
theorem kl_X8_of : ql_rm MX8_of 32 2 := ⟨qe_in 416 (by decide +kernel) (by decide +kernel), by decide, by decide, by decide +kernel, by decide, by decide, qe_in 64 (by decide +kernel) (by decide +kernel), qe_in 413 (by decide +kernel) (by decide +kernel), qe_in 414 (by decide +kernel) (by decide +kernel), qe_in 415 (by decide +kernel) (by decide +kernel)⟩
theorem kl_X9_of : ql_rm MX9_of 36 2 := ⟨qe_in 1011 (by decide +kernel) (by decide +kernel), by decide, by decide, by decide +kernel, by decide, by decide, qe_in 73 (by decide +kernel) (by decide +kernel), qe_in 1008 (by decide +kernel) (by decide +kernel), qe_in 1009 (by decide +kernel) (by decide +kernel), qe_in 1010 (by decide +kernel) (by decide +kernel)⟩
theorem kl_X8_fraction : ql_rm MX8_fraction 37 3 := ⟨qe_in 430 (by decide +kernel) (by decide +kernel), by decide, by decide, by decide +kernel, by decide, by decide, qe_in 64 (by decide +kernel) (by decide +kernel), qe_in 427 (by decide +kernel) (by decide +kernel), qe_in 428 (by decide +kernel) (by decide +kernel), qe_in 429 (by decide +kernel) (by decide +kernel)⟩
theorem kl_X9_fraction : ql_rm MX9_fraction 41 3 := ⟨qe_in 1036 (by decide +kernel) (by decide +kernel), by decide, by decide, by decide +kernel, by decide, by decide, qe_in 73 (by decide +kernel) (by decide +kernel), qe_in 1033 (by decide +kernel) (by decide +kernel), qe_in 1034 (by decide +kernel) (by decide +kernel), qe_in 1035 (by decide +kernel) (by decide +kernel)⟩
theorem kl_X8_order : ql_rm MX8_order 42 1 := ⟨qe_in 455 (by decide +kernel) (by decide +kernel), by decide, by decide, by decide +kernel, by decide, by decide, qe_in 64 (by decide +kernel) (by decide +kernel), qe_in 452 (by decide +kernel) (by decide +kernel), qe_in 453 (by decide +kernel) (by decide +kernel), qe_in 454 (by decide +kernel) (by decide +kernel)⟩
theorem kl_X9_order : ql_rm MX9_order 46 1 := ⟨qe_in 1049 (by decide +kernel) (by decide +kernel), by decide, by decide, by decide +kernel, by decide, by decide, qe_in 73 (by decide +kernel) (by decide +kernel), qe_in 1046 (by decide +kernel) (by decide +kernel), qe_in 1047 (by decide +kernel) (by decide +kernel), qe_in 1048 (by decide +kernel) (by decide +kernel)⟩
theorem kl_X8_at : ql_rm MX8_at 47 1 := ⟨qe_in 463 (by decide +kernel) (by decide +kernel), by decide, by decide, by decide +kernel, by decide, by decide, qe_in 64 (by decide +kernel) (by decide +kernel), qe_in 460 (by decide +kernel) (by decide +kernel), qe_in 461 (by decide +kernel) (by decide +kernel), qe_in 462 (by decide +kernel) (by decide +kernel)⟩
theorem kl_X9_at : ql_rm MX9_at 50 1 := ⟨qe_in 1053 (by decide +kernel) (by decide +kernel), by decide, by decide, by decide +kernel, by decide, by decide, qe_in 73 (by decide +kernel) (by decide +kernel), qe_in 1050 (by decide +kernel) (by decide +kernel), qe_in 1051 (by decide +kernel) (by decide +kernel), qe_in 1052 (by decide +kernel) (by decide +kernel)⟩
theorem kl_X8_swap : ql_rm MX8_swap 51 2 := ⟨qe_in 471 (by decide +kernel) (by decide +kernel), by decide, by decide, by decide +kernel, by decide, by decide, qe_in 64 (by decide +kernel) (by decide +kernel), qe_in 468 (by decide +kernel) (by decide +kernel), qe_in 469 (by decide +kernel) (by decide +kernel), qe_in 470 (by decide +kernel) (by decide +kernel)⟩
theorem kl_X9_swap : ql_rm MX9_swap 54 2 := ⟨qe_in 1057 (by decide +kernel) (by decide +kernel), by decide, by decide, by decide +kernel, by decide, by decide, qe_in 73 (by decide +kernel) (by decide +kernel), qe_in 1054 (by decide +kernel) (by decide +kernel), qe_in 1055 (by decide +kernel) (by decide +kernel), qe_in 1056 (by decide +kernel) (by decide +kernel)⟩
theorem kl_X8_common : ql_rm MX8_common 55 1 := ⟨qe_in 479 (by decide +kernel) (by decide +kernel), by decide, by decide, by decide +kernel, by decide, by decide, qe_in 64 (by decide +kernel) (by decide +kernel), qe_in 476 (by decide +kernel) (by decide +kernel), qe_in 477 (by decide +kernel) (by decide +kernel), qe_in 478 (by decide +kernel) (by decide +kernel)⟩
theorem kl_X9_common : ql_rm MX9_common 58 1 := ⟨qe_in 1065 (by decide +kernel) (by decide +kernel), by decide, by decide, by decide +kernel, by decide, by decide, qe_in 73 (by decide +kernel) (by decide +kernel), qe_in 1062 (by decide +kernel) (by decide +kernel), qe_in 1063 (by decide +kernel) (by decide +kernel), qe_in 1064 (by decide +kernel) (by decide +kernel)⟩
theorem kl_X8_parts : ql_rm MX8_parts 59 1 := ⟨qe_in 500 (by decide +kernel) (by decide +kernel), by decide, by decide, by decide +kernel, by decide, by decide, qe_in 64 (by decide +kernel) (by decide +kernel), qe_in 497 (by decide +kernel) (by decide +kernel), qe_in 498 (by decide +kernel) (by decide +kernel), qe_in 499 (by decide +kernel) (by decide +kernel)⟩
theorem kl_X9_parts : ql_rm MX9_parts 62 1 := ⟨qe_in 1086 (by decide +kernel) (by decide +kernel), by decide, by decide, by decide +kernel, by decide, by decide, qe_in 73 (by decide +kernel) (by decide +kernel), qe_in 1083 (by decide +kernel) (by decide +kernel), qe_in 1084 (by decide +kernel) (by decide +kernel), qe_in 1085 (by decide +kernel) (by decide +kernel)⟩
theorem kl_X8_size : ql_rm MX8_size 63 1 := ⟨qe_in 505 (by decide +kernel) (by decide +kernel), by decide, by decide, by decide +kernel, by decide, by decide, qe_in 64 (by decide +kernel) (by decide +kernel), qe_in 502 (by decide +kernel) (by decide +kernel), qe_in 503 (by decide +kernel) (by decide +kernel), qe_in 504 (by decide +kernel) (by decide +kernel)⟩
theorem kl_X9_size : ql_rm MX9_size 66 1 := ⟨qe_in 1090 (by decide +kernel) (by decide +kernel), by decide, by decide, by decide +kernel, by decide, by decide, qe_in 73 (by decide +kernel) (by decide +kernel), qe_in 1087 (by decide +kernel) (by decide +kernel), qe_in 1088 (by decide +kernel) (by decide +kernel), qe_in 1089 (by decide +kernel) (by decide +kernel)⟩
theorem kl_X8_chosen : ql_rm MX8_chosen 67 1 := ⟨qe_in 510 (by decide +kernel) (by decide +kernel), by decide, by decide, by decide +kernel, by decide, by decide, qe_in 64 (by decide +kernel) (by decide +kernel), qe_in 507 (by decide +kernel) (by decide +kernel), qe_in 508 (by decide +kernel) (by decide +kernel), qe_in 509 (by decide +kernel) (by decide +kernel)⟩
theorem kl_X9_chosen : ql_rm MX9_chosen 70 1 := ⟨qe_in 1094 (by decide +kernel) (by decide +kernel), by decide, by decide, by decide +kernel, by decide, by decide, qe_in 73 (by decide +kernel) (by decide +kernel), qe_in 1091 (by decide +kernel) (by decide +kernel), qe_in 1092 (by decide +kernel) (by decide +kernel), qe_in 1093 (by decide +kernel) (by decide +kernel)⟩
theorem kl_X8_run : ql_rm MX8_run 71 2 := ⟨qe_in 545 (by decide +kernel) (by decide +kernel), by decide, by decide, by decide +kernel, by decide, by decide, qe_in 64 (by decide +kernel) (by decide +kernel), qe_in 542 (by decide +kernel) (by decide +kernel), qe_in 543 (by decide +kernel) (by decide +kernel), qe_in 544 (by decide +kernel) (by decide +kernel)⟩
theorem kl_X9_run : ql_rm MX9_run 74 2 := ⟨qe_in 1109 (by decide +kernel) (by decide +kernel), by decide, by decide, by decide +kernel, by decide, by decide, qe_in 73 (by decide +kernel) (by decide +kernel), qe_in 1106 (by decide +kernel) (by decide +kernel), qe_in 1107 (by decide +kernel) (by decide +kernel), qe_in 1108 (by decide +kernel) (by decide +kernel)⟩
theorem kl_X8_joint : ql_rm MX8_joint 75 3 := ⟨qe_in 561 (by decide +kernel) (by decide +kernel), by decide, by decide, by decide +kernel, by decide, by decide, qe_in 64 (by decide +kernel) (by decide +kernel), qe_in 558 (by decide +kernel) (by decide +kernel), qe_in 559 (by decide +kernel) (by decide +kernel), qe_in 560 (by decide +kernel) (by decide +kernel)⟩
theorem kl_X9_joint : ql_rm MX9_joint 78 3 := ⟨qe_in 1125 (by decide +kernel) (by decide +kernel), by decide, by decide, by decide +kernel, by decide, by decide, qe_in 73 (by decide +kernel) (by decide +kernel), qe_in 1122 (by decide +kernel) (by decide +kernel), qe_in 1123 (by decide +kernel) (by decide +kernel), qe_in 1124 (by decide +kernel) (by decide +kernel)⟩
theorem kl_X8_joints : ql_rm MX8_joints 79 2 := ⟨qe_in 576 (by decide +kernel) (by decide +kernel), by decide, by decide, by decide +kernel, by decide, by decide, qe_in 64 (by decide +kernel) (by decide +kernel), qe_in 573 (by decide +kernel) (by decide +kernel), qe_in 574 (by decide +kernel) (by decide +kernel), qe_in 575 (by decide +kernel) (by decide +kernel)⟩
theorem kl_X9_joints : ql_rm MX9_joints 82 2 := ⟨qe_in 1133 (by decide +kernel) (by decide +kernel), by decide, by decide, by decide +kernel, by decide, by decide, qe_in 73 (by decide +kernel) (by decide +kernel), qe_in 1130 (by decide +kernel) (by decide +kernel), qe_in 1131 (by decide +kernel) (by decide +kernel), qe_in 1132 (by decide +kernel) (by decide +kernel)⟩
theorem kl_X8_fair : ql_rm MX8_fair 83 1 := ⟨qe_in 580 (by decide +kernel) (by decide +kernel), by decide, by decide, by decide +kernel, by decide, by decide, qe_in 64 (by decide +kernel) (by decide +kernel), qe_in 577 (by decide +kernel) (by decide +kernel), qe_in 578 (by decide +kernel) (by decide +kernel), qe_in 579 (by decide +kernel) (by decide +kernel)⟩
theorem kl_X9_fair : ql_rm MX9_fair 86 1 := ⟨qe_in 1138 (by decide +kernel) (by decide +kernel), by decide, by decide, by decide +kernel, by decide, by decide, qe_in 73 (by decide +kernel) (by decide +kernel), qe_in 1135 (by decide +kernel) (by decide +kernel), qe_in 1136 (by decide +kernel) (by decide +kernel), qe_in 1137 (by decide +kernel) (by decide +kernel)⟩
theorem kl_X8_estimate : ql_rm MX8_estimate 87 2 := ⟨qe_in 594 (by decide +kernel) (by decide +kernel), by decide, by decide, by decide +kernel, by decide, by decide, qe_in 64 (by decide +kernel) (by decide +kernel), qe_in 591 (by decide +kernel) (by decide +kernel), qe_in 592 (by decide +kernel) (by decide +kernel), qe_in 593 (by decide +kernel) (by decide +kernel)⟩
theorem kl_X9_estimate : ql_rm MX9_estimate 90 2 := ⟨qe_in 1142 (by decide +kernel) (by decide +kernel), by decide, by decide, by decide +kernel, by decide, by decide, qe_in 73 (by decide +kernel) (by decide +kernel), qe_in 1139 (by decide +kernel) (by decide +kernel), qe_in 1140 (by decide +kernel) (by decide +kernel), qe_in 1141 (by decide +kernel) (by decide +kernel)⟩
theorem kl_X8_mean : ql_rm MX8_mean 91 1 := ⟨qe_in 616 (by decide +kernel) (by decide +kernel), by decide, by decide, by decide +kernel, by decide, by decide, qe_in 64 (by decide +kernel) (by decide +kernel), qe_in 613 (by decide +kernel) (by decide +kernel), qe_in 614 (by decide +kernel) (by decide +kernel), qe_in 615 (by decide +kernel) (by decide +kernel)⟩
theorem kl_X9_mean : ql_rm MX9_mean 95 1 := ⟨qe_in 1168 (by decide +kernel) (by decide +kernel), by decide, by decide, by decide +kernel, by decide, by decide, qe_in 73 (by decide +kernel) (by decide +kernel), qe_in 1165 (by decide +kernel) (by decide +kernel), qe_in 1166 (by decide +kernel) (by decide +kernel), qe_in 1167 (by decide +kernel) (by decide +kernel)⟩
theorem kl_X8_spread : ql_rm MX8_spread 96 1 := ⟨qe_in 632 (by decide +kernel) (by decide +kernel), by decide, by decide, by decide +kernel, by decide, by decide, qe_in 64 (by decide +kernel) (by decide +kernel), qe_in 629 (by decide +kernel) (by decide +kernel), qe_in 630 (by decide +kernel) (by decide +kernel), qe_in 631 (by decide +kernel) (by decide +kernel)⟩
theorem kl_X9_spread : ql_rm MX9_spread 99 1 := ⟨qe_in 1184 (by decide +kernel) (by decide +kernel), by decide, by decide, by decide +kernel, by decide, by decide, qe_in 73 (by decide +kernel) (by decide +kernel), qe_in 1181 (by decide +kernel) (by decide +kernel), qe_in 1182 (by decide +kernel) (by decide +kernel), qe_in 1183 (by decide +kernel) (by decide +kernel)⟩
theorem kl_X8_twice : ql_rm MX8_twice 100 2 := ⟨qe_in 636 (by decide +kernel) (by decide +kernel), by decide, by decide, by decide +kernel, by decide, by decide, qe_in 64 (by decide +kernel) (by decide +kernel), qe_in 633 (by decide +kernel) (by decide +kernel), qe_in 634 (by decide +kernel) (by decide +kernel), qe_in 635 (by decide +kernel) (by decide +kernel)⟩
theorem kl_X9_twice : ql_rm MX9_twice 103 2 := ⟨qe_in 1188 (by decide +kernel) (by decide +kernel), by decide, by decide, by decide +kernel, by decide, by decide, qe_in 73 (by decide +kernel) (by decide +kernel), qe_in 1185 (by decide +kernel) (by decide +kernel), qe_in 1186 (by decide +kernel) (by decide +kernel), qe_in 1187 (by decide +kernel) (by decide +kernel)⟩
theorem kl_X8_both : ql_rm MX8_both 104 3 := ⟨qe_in 640 (by decide +kernel) (by decide +kernel), by decide, by decide, by decide +kernel, by decide, by decide, qe_in 64 (by decide +kernel) (by decide +kernel), qe_in 637 (by decide +kernel) (by decide +kernel), qe_in 638 (by decide +kernel) (by decide +kernel), qe_in 639 (by decide +kernel) (by decide +kernel)⟩
theorem kl_X9_both : ql_rm MX9_both 107 3 := ⟨qe_in 1192 (by decide +kernel) (by decide +kernel), by decide, by decide, by decide +kernel, by decide, by decide, qe_in 73 (by decide +kernel) (by decide +kernel), qe_in 1189 (by decide +kernel) (by decide +kernel), qe_in 1190 (by decide +kernel) (by decide +kernel), qe_in 1191 (by decide +kernel) (by decide +kernel)⟩
theorem kl_X8_kept : ql_rm MX8_kept 108 3 := ⟨qe_in 648 (by decide +kernel) (by decide +kernel), by decide, by decide, by decide +kernel, by decide, by decide, qe_in 64 (by decide +kernel) (by decide +kernel), qe_in 645 (by decide +kernel) (by decide +kernel), qe_in 646 (by decide +kernel) (by decide +kernel), qe_in 647 (by decide +kernel) (by decide +kernel)⟩
theorem kl_X9_kept : ql_rm MX9_kept 111 3 := ⟨qe_in 1201 (by decide +kernel) (by decide +kernel), by decide, by decide, by decide +kernel, by decide, by decide, qe_in 73 (by decide +kernel) (by decide +kernel), qe_in 1198 (by decide +kernel) (by decide +kernel), qe_in 1199 (by decide +kernel) (by decide +kernel), qe_in 1200 (by decide +kernel) (by decide +kernel)⟩
theorem kl_X8_overlap : ql_rm MX8_overlap 112 2 := ⟨qe_in 661 (by decide +kernel) (by decide +kernel), by decide, by decide, by decide +kernel, by decide, by decide, qe_in 64 (by decide +kernel) (by decide +kernel), qe_in 658 (by decide +kernel) (by decide +kernel), qe_in 659 (by decide +kernel) (by decide +kernel), qe_in 660 (by decide +kernel) (by decide +kernel)⟩
theorem kl_X9_overlap : ql_rm MX9_overlap 115 2 := ⟨qe_in 1209 (by decide +kernel) (by decide +kernel), by decide, by decide, by decide +kernel, by decide, by decide, qe_in 73 (by decide +kernel) (by decide +kernel), qe_in 1206 (by decide +kernel) (by decide +kernel), qe_in 1207 (by decide +kernel) (by decide +kernel), qe_in 1208 (by decide +kernel) (by decide +kernel)⟩
theorem kl_X8_shift : ql_rm MX8_shift 116 1 := ⟨qe_in 669 (by decide +kernel) (by decide +kernel), by decide, by decide, by decide +kernel, by decide, by decide, qe_in 64 (by decide +kernel) (by decide +kernel), qe_in 666 (by decide +kernel) (by decide +kernel), qe_in 667 (by decide +kernel) (by decide +kernel), qe_in 668 (by decide +kernel) (by decide +kernel)⟩
theorem kl_X9_shift : ql_rm MX9_shift 119 1 := ⟨qe_in 1217 (by decide +kernel) (by decide +kernel), by decide, by decide, by decide +kernel, by decide, by decide, qe_in 73 (by decide +kernel) (by decide +kernel), qe_in 1214 (by decide +kernel) (by decide +kernel), qe_in 1215 (by decide +kernel) (by decide +kernel), qe_in 1216 (by decide +kernel) (by decide +kernel)⟩
theorem kl_X8_replaced : ql_rm MX8_replaced 120 2 := ⟨qe_in 678 (by decide +kernel) (by decide +kernel), by decide, by decide, by decide +kernel, by decide, by decide, qe_in 64 (by decide +kernel) (by decide +kernel), qe_in 675 (by decide +kernel) (by decide +kernel), qe_in 676 (by decide +kernel) (by decide +kernel), qe_in 677 (by decide +kernel) (by decide +kernel)⟩
theorem kl_X9_replaced : ql_rm MX9_replaced 123 2 := ⟨qe_in 1222 (by decide +kernel) (by decide +kernel), by decide, by decide, by decide +kernel, by decide, by decide, qe_in 73 (by decide +kernel) (by decide +kernel), qe_in 1219 (by decide +kernel) (by decide +kernel), qe_in 1220 (by decide +kernel) (by decide +kernel), qe_in 1221 (by decide +kernel) (by decide +kernel)⟩
theorem kl_X8_substitute : ql_rm MX8_substitute 124 3 := ⟨qe_in 700 (by decide +kernel) (by decide +kernel), by decide, by decide, by decide +kernel, by decide, by decide, qe_in 64 (by decide +kernel) (by decide +kernel), qe_in 697 (by decide +kernel) (by decide +kernel), qe_in 698 (by decide +kernel) (by decide +kernel), qe_in 699 (by decide +kernel) (by decide +kernel)⟩
theorem kl_X9_substitute : ql_rm MX9_substitute 127 3 := ⟨qe_in 1233 (by decide +kernel) (by decide +kernel), by decide, by decide, by decide +kernel, by decide, by decide, qe_in 73 (by decide +kernel) (by decide +kernel), qe_in 1230 (by decide +kernel) (by decide +kernel), qe_in 1231 (by decide +kernel) (by decide +kernel), qe_in 1232 (by decide +kernel) (by decide +kernel)⟩
theorem kl_X8_finals : ql_rm MX8_finals 128 3 := ⟨qe_in 704 (by decide +kernel) (by decide +kernel), by decide, by decide, by decide +kernel, by decide, by decide, qe_in 64 (by decide +kernel) (by decide +kernel), qe_in 701 (by decide +kernel) (by decide +kernel), qe_in 702 (by decide +kernel) (by decide +kernel), qe_in 703 (by decide +kernel) (by decide +kernel)⟩
theorem kl_X9_finals : ql_rm MX9_finals 131 3 := ⟨qe_in 1237 (by decide +kernel) (by decide +kernel), by decide, by decide, by decide +kernel, by decide, by decide, qe_in 73 (by decide +kernel) (by decide +kernel), qe_in 1234 (by decide +kernel) (by decide +kernel), qe_in 1235 (by decide +kernel) (by decide +kernel), qe_in 1236 (by decide +kernel) (by decide +kernel)⟩
theorem kc_L_132 : Cond.constantLong R_law 132 (lN 4294967295) ∈ qe_bg := qe_in 1314 (by decide +kernel) (by decide +kernel)
theorem kl_X8_drawn : ql_rm MX8_drawn 134 3 := ⟨qe_in 708 (by decide +kernel) (by decide +kernel), by decide, by decide, by decide +kernel, by decide, by decide, qe_in 64 (by decide +kernel) (by decide +kernel), qe_in 705 (by decide +kernel) (by decide +kernel), qe_in 706 (by decide +kernel) (by decide +kernel), qe_in 707 (by decide +kernel) (by decide +kernel)⟩
theorem kl_X9_drawn : ql_rm MX9_drawn 138 3 := ⟨qe_in 1241 (by decide +kernel) (by decide +kernel), by decide, by decide, by decide +kernel, by decide, by decide, qe_in 73 (by decide +kernel) (by decide +kernel), qe_in 1238 (by decide +kernel) (by decide +kernel), qe_in 1239 (by decide +kernel) (by decide +kernel), qe_in 1240 (by decide +kernel) (by decide +kernel)⟩
theorem kl_X8_feed : ql_rm MX8_feed 139 1 := ⟨qe_in 715 (by decide +kernel) (by decide +kernel), by decide, by decide, by decide +kernel, by decide, by decide, qe_in 64 (by decide +kernel) (by decide +kernel), qe_in 712 (by decide +kernel) (by decide +kernel), qe_in 713 (by decide +kernel) (by decide +kernel), qe_in 714 (by decide +kernel) (by decide +kernel)⟩
theorem kl_X9_feed : ql_rm MX9_feed 142 1 := ⟨qe_in 1247 (by decide +kernel) (by decide +kernel), by decide, by decide, by decide +kernel, by decide, by decide, qe_in 73 (by decide +kernel) (by decide +kernel), qe_in 1244 (by decide +kernel) (by decide +kernel), qe_in 1245 (by decide +kernel) (by decide +kernel), qe_in 1246 (by decide +kernel) (by decide +kernel)⟩
theorem kl_X8_tells : ql_rm MX8_tells 143 0 := ⟨qe_in 723 (by decide +kernel) (by decide +kernel), by decide, by decide, by decide +kernel, by decide, by decide, qe_in 64 (by decide +kernel) (by decide +kernel), qe_in 720 (by decide +kernel) (by decide +kernel), qe_in 721 (by decide +kernel) (by decide +kernel), qe_in 722 (by decide +kernel) (by decide +kernel)⟩
theorem kl_X9_tells : ql_rm MX9_tells 147 0 := ⟨qe_in 1251 (by decide +kernel) (by decide +kernel), by decide, by decide, by decide +kernel, by decide, by decide, qe_in 73 (by decide +kernel) (by decide +kernel), qe_in 1248 (by decide +kernel) (by decide +kernel), qe_in 1249 (by decide +kernel) (by decide +kernel), qe_in 1250 (by decide +kernel) (by decide +kernel)⟩
theorem kl_X8_reason : ql_rm MX8_reason 148 1 := ⟨qe_in 832 (by decide +kernel) (by decide +kernel), by decide, by decide, by decide +kernel, by decide, by decide, qe_in 64 (by decide +kernel) (by decide +kernel), qe_in 829 (by decide +kernel) (by decide +kernel), qe_in 830 (by decide +kernel) (by decide +kernel), qe_in 831 (by decide +kernel) (by decide +kernel)⟩
theorem kl_X9_reason : ql_rm MX9_reason 151 1 := ⟨qe_in 1282 (by decide +kernel) (by decide +kernel), by decide, by decide, by decide +kernel, by decide, by decide, qe_in 73 (by decide +kernel) (by decide +kernel), qe_in 1279 (by decide +kernel) (by decide +kernel), qe_in 1280 (by decide +kernel) (by decide +kernel), qe_in 1281 (by decide +kernel) (by decide +kernel)⟩
theorem kl_X8_list : ql_rm MX8_list 152 2 := ⟨qe_in 836 (by decide +kernel) (by decide +kernel), by decide, by decide, by decide +kernel, by decide, by decide, qe_in 64 (by decide +kernel) (by decide +kernel), qe_in 833 (by decide +kernel) (by decide +kernel), qe_in 834 (by decide +kernel) (by decide +kernel), qe_in 835 (by decide +kernel) (by decide +kernel)⟩
theorem kl_X9_list : ql_rm MX9_list 155 2 := ⟨qe_in 1286 (by decide +kernel) (by decide +kernel), by decide, by decide, by decide +kernel, by decide, by decide, qe_in 73 (by decide +kernel) (by decide +kernel), qe_in 1283 (by decide +kernel) (by decide +kernel), qe_in 1284 (by decide +kernel) (by decide +kernel), qe_in 1285 (by decide +kernel) (by decide +kernel)⟩
theorem kl_X8_put : ql_rm MX8_put 156 3 := ⟨qe_in 848 (by decide +kernel) (by decide +kernel), by decide, by decide, by decide +kernel, by decide, by decide, qe_in 64 (by decide +kernel) (by decide +kernel), qe_in 845 (by decide +kernel) (by decide +kernel), qe_in 846 (by decide +kernel) (by decide +kernel), qe_in 847 (by decide +kernel) (by decide +kernel)⟩
theorem kl_X9_put : ql_rm MX9_put 159 3 := ⟨qe_in 1293 (by decide +kernel) (by decide +kernel), by decide, by decide, by decide +kernel, by decide, by decide, qe_in 73 (by decide +kernel) (by decide +kernel), qe_in 1290 (by decide +kernel) (by decide +kernel), qe_in 1291 (by decide +kernel) (by decide +kernel), qe_in 1292 (by decide +kernel) (by decide +kernel)⟩
theorem kl_X8_look : ql_rm MX8_look 160 2 := ⟨qe_in 855 (by decide +kernel) (by decide +kernel), by decide, by decide, by decide +kernel, by decide, by decide, qe_in 64 (by decide +kernel) (by decide +kernel), qe_in 852 (by decide +kernel) (by decide +kernel), qe_in 853 (by decide +kernel) (by decide +kernel), qe_in 854 (by decide +kernel) (by decide +kernel)⟩
theorem kl_X9_look : ql_rm MX9_look 163 2 := ⟨qe_in 1297 (by decide +kernel) (by decide +kernel), by decide, by decide, by decide +kernel, by decide, by decide, qe_in 73 (by decide +kernel) (by decide +kernel), qe_in 1294 (by decide +kernel) (by decide +kernel), qe_in 1295 (by decide +kernel) (by decide +kernel), qe_in 1296 (by decide +kernel) (by decide +kernel)⟩
theorem kl_X8_judge : ql_rm MX8_judge 164 2 := ⟨qe_in 859 (by decide +kernel) (by decide +kernel), by decide, by decide, by decide +kernel, by decide, by decide, qe_in 64 (by decide +kernel) (by decide +kernel), qe_in 856 (by decide +kernel) (by decide +kernel), qe_in 857 (by decide +kernel) (by decide +kernel), qe_in 858 (by decide +kernel) (by decide +kernel)⟩
theorem kl_X9_judge : ql_rm MX9_judge 167 2 := ⟨qe_in 1301 (by decide +kernel) (by decide +kernel), by decide, by decide, by decide +kernel, by decide, by decide, qe_in 73 (by decide +kernel) (by decide +kernel), qe_in 1298 (by decide +kernel) (by decide +kernel), qe_in 1299 (by decide +kernel) (by decide +kernel), qe_in 1300 (by decide +kernel) (by decide +kernel)⟩
theorem kl_X8_image : ql_rm MX8_image 168 0 := ⟨qe_in 863 (by decide +kernel) (by decide +kernel), by decide, by decide, by decide +kernel, by decide, by decide, qe_in 64 (by decide +kernel) (by decide +kernel), qe_in 860 (by decide +kernel) (by decide +kernel), qe_in 861 (by decide +kernel) (by decide +kernel), qe_in 862 (by decide +kernel) (by decide +kernel)⟩
theorem kl_X9_image : ql_rm MX9_image 171 0 := ⟨qe_in 1305 (by decide +kernel) (by decide +kernel), by decide, by decide, by decide +kernel, by decide, by decide, qe_in 73 (by decide +kernel) (by decide +kernel), qe_in 1302 (by decide +kernel) (by decide +kernel), qe_in 1303 (by decide +kernel) (by decide +kernel), qe_in 1304 (by decide +kernel) (by decide +kernel)⟩
theorem kl_X8_undo : ql_rm MX8_undo 172 0 := ⟨qe_in 867 (by decide +kernel) (by decide +kernel), by decide, by decide, by decide +kernel, by decide, by decide, qe_in 64 (by decide +kernel) (by decide +kernel), qe_in 864 (by decide +kernel) (by decide +kernel), qe_in 865 (by decide +kernel) (by decide +kernel), qe_in 866 (by decide +kernel) (by decide +kernel)⟩
theorem kl_X9_undo : ql_rm MX9_undo 175 0 := ⟨qe_in 1309 (by decide +kernel) (by decide +kernel), by decide, by decide, by decide +kernel, by decide, by decide, qe_in 73 (by decide +kernel) (by decide +kernel), qe_in 1306 (by decide +kernel) (by decide +kernel), qe_in 1307 (by decide +kernel) (by decide +kernel), qe_in 1308 (by decide +kernel) (by decide +kernel)⟩
theorem kl_X8_count : ql_rm MX8_count 176 1 := ⟨qe_in 871 (by decide +kernel) (by decide +kernel), by decide, by decide, by decide +kernel, by decide, by decide, qe_in 64 (by decide +kernel) (by decide +kernel), qe_in 868 (by decide +kernel) (by decide +kernel), qe_in 869 (by decide +kernel) (by decide +kernel), qe_in 870 (by decide +kernel) (by decide +kernel)⟩
theorem kl_X9_count : ql_rm MX9_count 179 1 := ⟨qe_in 1313 (by decide +kernel) (by decide +kernel), by decide, by decide, by decide +kernel, by decide, by decide, qe_in 73 (by decide +kernel) (by decide +kernel), qe_in 1310 (by decide +kernel) (by decide +kernel), qe_in 1311 (by decide +kernel) (by decide +kernel), qe_in 1312 (by decide +kernel) (by decide +kernel)⟩
/-- unit: both answer the same, and the states stay related -/
def ql_op_unit (R : qe_S → qe_S → Prop) : Prop := ∀ (a0 : Int32) (a1 : Int32) (a2 : Int32) (a3 : Int32) (σ τ : qe_S), R σ τ → ∃ (r : Int32) (σ' τ' : qe_S), g_X8_unit a0 a1 a2 a3 σ = some (r, σ') ∧ g_X9_unit a0 a1 a2 a3 τ = some (r, τ') ∧ R σ' τ'
/-- odds: both answer the same, and the states stay related -/
def ql_op_odds (R : qe_S → qe_S → Prop) : Prop := ∀ (a0 : Int32) (a1 : Int32) (a2 : Int32) (a3 : Int32) (σ τ : qe_S), R σ τ → ∃ (r : Int32) (σ' τ' : qe_S), g_X8_odds a0 a1 a2 a3 σ = some (r, σ') ∧ g_X9_odds a0 a1 a2 a3 τ = some (r, τ') ∧ R σ' τ'
/-- set: both answer the same, and the states stay related -/
def ql_op_set (R : qe_S → qe_S → Prop) : Prop := ∀ (a0 : Int32) (a1 : Int32) (a2 : Int32) (σ τ : qe_S), R σ τ → ∃ (r : Int32) (σ' τ' : qe_S), g_X8_set a0 a1 a2 σ = some (r, σ') ∧ g_X9_set a0 a1 a2 τ = some (r, τ') ∧ R σ' τ'
/-- mark: both answer the same, and the states stay related -/
def ql_op_mark (R : qe_S → qe_S → Prop) : Prop := ∀ (a0 : Int32) (a1 : Int32) (σ τ : qe_S), R σ τ → ∃ (r : Int32) (σ' τ' : qe_S), g_X8_mark a0 a1 σ = some (r, σ') ∧ g_X9_mark a0 a1 τ = some (r, τ') ∧ R σ' τ'
/-- of: both answer the same, and the states stay related -/
def ql_op_of (R : qe_S → qe_S → Prop) : Prop := ∀ (a0 : Int32) (a1 : Int32) (σ τ : qe_S), R σ τ → ∃ (r : Int64) (σ' τ' : qe_S), g_X8_of a0 a1 σ = some (r, σ') ∧ g_X9_of a0 a1 τ = some (r, τ') ∧ R σ' τ'
/-- fraction: both answer the same, and the states stay related -/
def ql_op_fraction (R : qe_S → qe_S → Prop) : Prop := ∀ (a0 : Int32) (a1 : Int32) (a2 : Int32) (σ τ : qe_S), R σ τ → ∃ (r : Int64) (σ' τ' : qe_S), g_X8_fraction a0 a1 a2 σ = some (r, σ') ∧ g_X9_fraction a0 a1 a2 τ = some (r, τ') ∧ R σ' τ'
/-- order: both answer the same, and the states stay related -/
def ql_op_order (R : qe_S → qe_S → Prop) : Prop := ∀ (a0 : Int32) (σ τ : qe_S), R σ τ → ∃ (r : Int32) (σ' τ' : qe_S), g_X8_order a0 σ = some (r, σ') ∧ g_X9_order a0 τ = some (r, τ') ∧ R σ' τ'
/-- at: both answer the same, and the states stay related -/
def ql_op_at (R : qe_S → qe_S → Prop) : Prop := ∀ (a0 : Int32) (σ τ : qe_S), R σ τ → ∃ (r : Int32) (σ' τ' : qe_S), g_X8_at a0 σ = some (r, σ') ∧ g_X9_at a0 τ = some (r, τ') ∧ R σ' τ'
/-- swap: both answer the same, and the states stay related -/
def ql_op_swap (R : qe_S → qe_S → Prop) : Prop := ∀ (a0 : Int32) (a1 : Int32) (σ τ : qe_S), R σ τ → ∃ (r : Int32) (σ' τ' : qe_S), g_X8_swap a0 a1 σ = some (r, σ') ∧ g_X9_swap a0 a1 τ = some (r, τ') ∧ R σ' τ'
/-- common: both answer the same, and the states stay related -/
def ql_op_common (R : qe_S → qe_S → Prop) : Prop := ∀ (a0 : Int32) (σ τ : qe_S), R σ τ → ∃ (r : Int32) (σ' τ' : qe_S), g_X8_common a0 σ = some (r, σ') ∧ g_X9_common a0 τ = some (r, τ') ∧ R σ' τ'
/-- parts: both answer the same, and the states stay related -/
def ql_op_parts (R : qe_S → qe_S → Prop) : Prop := ∀ (a0 : Int32) (σ τ : qe_S), R σ τ → ∃ (r : Int32) (σ' τ' : qe_S), g_X8_parts a0 σ = some (r, σ') ∧ g_X9_parts a0 τ = some (r, τ') ∧ R σ' τ'
/-- size: both answer the same, and the states stay related -/
def ql_op_size (R : qe_S → qe_S → Prop) : Prop := ∀ (a0 : Int32) (σ τ : qe_S), R σ τ → ∃ (r : Int32) (σ' τ' : qe_S), g_X8_size a0 σ = some (r, σ') ∧ g_X9_size a0 τ = some (r, τ') ∧ R σ' τ'
/-- chosen: both answer the same, and the states stay related -/
def ql_op_chosen (R : qe_S → qe_S → Prop) : Prop := ∀ (a0 : Int32) (σ τ : qe_S), R σ τ → ∃ (r : Int32) (σ' τ' : qe_S), g_X8_chosen a0 σ = some (r, σ') ∧ g_X9_chosen a0 τ = some (r, τ') ∧ R σ' τ'
/-- run: both answer the same, and the states stay related -/
def ql_op_run (R : qe_S → qe_S → Prop) : Prop := ∀ (a0 : Int32) (a1 : Int32) (σ τ : qe_S), R σ τ → ∃ (r : Int32) (σ' τ' : qe_S), g_X8_run a0 a1 σ = some (r, σ') ∧ g_X9_run a0 a1 τ = some (r, τ') ∧ R σ' τ'
/-- joint: both answer the same, and the states stay related -/
def ql_op_joint (R : qe_S → qe_S → Prop) : Prop := ∀ (a0 : Int32) (a1 : Int32) (a2 : Int32) (σ τ : qe_S), R σ τ → ∃ (r : Int64) (σ' τ' : qe_S), g_X8_joint a0 a1 a2 σ = some (r, σ') ∧ g_X9_joint a0 a1 a2 τ = some (r, τ') ∧ R σ' τ'
/-- joints: both answer the same, and the states stay related -/
def ql_op_joints (R : qe_S → qe_S → Prop) : Prop := ∀ (a0 : Int32) (a1 : Int32) (σ τ : qe_S), R σ τ → ∃ (r : Int64) (σ' τ' : qe_S), g_X8_joints a0 a1 σ = some (r, σ') ∧ g_X9_joints a0 a1 τ = some (r, τ') ∧ R σ' τ'
/-- fair: both answer the same, and the states stay related -/
def ql_op_fair (R : qe_S → qe_S → Prop) : Prop := ∀ (a0 : Int32) (σ τ : qe_S), R σ τ → ∃ (r : Int32) (σ' τ' : qe_S), g_X8_fair a0 σ = some (r, σ') ∧ g_X9_fair a0 τ = some (r, τ') ∧ R σ' τ'
/-- estimate: both answer the same, and the states stay related -/
def ql_op_estimate (R : qe_S → qe_S → Prop) : Prop := ∀ (a0 : Int32) (a1 : Int32) (σ τ : qe_S), R σ τ → ∃ (r : Int64) (σ' τ' : qe_S), g_X8_estimate a0 a1 σ = some (r, σ') ∧ g_X9_estimate a0 a1 τ = some (r, τ') ∧ R σ' τ'
/-- mean: both answer the same, and the states stay related -/
def ql_op_mean (R : qe_S → qe_S → Prop) : Prop := ∀ (a0 : Int32) (σ τ : qe_S), R σ τ → ∃ (r : Int64) (σ' τ' : qe_S), g_X8_mean a0 σ = some (r, σ') ∧ g_X9_mean a0 τ = some (r, τ') ∧ R σ' τ'
/-- spread: both answer the same, and the states stay related -/
def ql_op_spread (R : qe_S → qe_S → Prop) : Prop := ∀ (a0 : Int32) (σ τ : qe_S), R σ τ → ∃ (r : Int64) (σ' τ' : qe_S), g_X8_spread a0 σ = some (r, σ') ∧ g_X9_spread a0 τ = some (r, τ') ∧ R σ' τ'
/-- twice: both answer the same, and the states stay related -/
def ql_op_twice (R : qe_S → qe_S → Prop) : Prop := ∀ (a0 : Int32) (a1 : Int32) (σ τ : qe_S), R σ τ → ∃ (r : Int32) (σ' τ' : qe_S), g_X8_twice a0 a1 σ = some (r, σ') ∧ g_X9_twice a0 a1 τ = some (r, τ') ∧ R σ' τ'
/-- both: both answer the same, and the states stay related -/
def ql_op_both (R : qe_S → qe_S → Prop) : Prop := ∀ (a0 : Int32) (a1 : Int32) (a2 : Int32) (σ τ : qe_S), R σ τ → ∃ (r : Int64) (σ' τ' : qe_S), g_X8_both a0 a1 a2 σ = some (r, σ') ∧ g_X9_both a0 a1 a2 τ = some (r, τ') ∧ R σ' τ'
/-- kept: both answer the same, and the states stay related -/
def ql_op_kept (R : qe_S → qe_S → Prop) : Prop := ∀ (a0 : Int32) (a1 : Int32) (a2 : Int32) (σ τ : qe_S), R σ τ → ∃ (r : Int64) (σ' τ' : qe_S), g_X8_kept a0 a1 a2 σ = some (r, σ') ∧ g_X9_kept a0 a1 a2 τ = some (r, τ') ∧ R σ' τ'
/-- overlap: both answer the same, and the states stay related -/
def ql_op_overlap (R : qe_S → qe_S → Prop) : Prop := ∀ (a0 : Int32) (a1 : Int32) (σ τ : qe_S), R σ τ → ∃ (r : Int64) (σ' τ' : qe_S), g_X8_overlap a0 a1 σ = some (r, σ') ∧ g_X9_overlap a0 a1 τ = some (r, τ') ∧ R σ' τ'
/-- shift: both answer the same, and the states stay related -/
def ql_op_shift (R : qe_S → qe_S → Prop) : Prop := ∀ (a0 : Int32) (σ τ : qe_S), R σ τ → ∃ (r : Int32) (σ' τ' : qe_S), g_X8_shift a0 σ = some (r, σ') ∧ g_X9_shift a0 τ = some (r, τ') ∧ R σ' τ'
/-- replaced: both answer the same, and the states stay related -/
def ql_op_replaced (R : qe_S → qe_S → Prop) : Prop := ∀ (a0 : Int32) (a1 : Int32) (σ τ : qe_S), R σ τ → ∃ (r : Int32) (σ' τ' : qe_S), g_X8_replaced a0 a1 σ = some (r, σ') ∧ g_X9_replaced a0 a1 τ = some (r, τ') ∧ R σ' τ'
/-- substitute: both answer the same, and the states stay related -/
def ql_op_substitute (R : qe_S → qe_S → Prop) : Prop := ∀ (a0 : Int32) (a1 : Int32) (a2 : Int32) (σ τ : qe_S), R σ τ → ∃ (r : Int32) (σ' τ' : qe_S), g_X8_substitute a0 a1 a2 σ = some (r, σ') ∧ g_X9_substitute a0 a1 a2 τ = some (r, τ') ∧ R σ' τ'
/-- finals: both answer the same, and the states stay related -/
def ql_op_finals (R : qe_S → qe_S → Prop) : Prop := ∀ (a0 : Int32) (a1 : Int32) (a2 : Int32) (σ τ : qe_S), R σ τ → ∃ (r : Int64) (σ' τ' : qe_S), g_X8_finals a0 a1 a2 σ = some (r, σ') ∧ g_X9_finals a0 a1 a2 τ = some (r, τ') ∧ R σ' τ'
/-- drawn: both answer the same, and the states stay related -/
def ql_op_drawn (R : qe_S → qe_S → Prop) : Prop := ∀ (a0 : Int32) (a1 : Int32) (a2 : Int64) (σ τ : qe_S), R σ τ → ∃ (r : Int32) (σ' τ' : qe_S), g_X8_drawn a0 a1 a2 σ = some (r, σ') ∧ g_X9_drawn a0 a1 a2 τ = some (r, τ') ∧ R σ' τ'
/-- feed: both answer the same, and the states stay related -/
def ql_op_feed (R : qe_S → qe_S → Prop) : Prop := ∀ (a0 : Int32) (σ τ : qe_S), R σ τ → ∃ (r : Int32) (σ' τ' : qe_S), g_X8_feed a0 σ = some (r, σ') ∧ g_X9_feed a0 τ = some (r, τ') ∧ R σ' τ'
/-- tells: both answer the same, and the states stay related -/
def ql_op_tells (R : qe_S → qe_S → Prop) : Prop := ∀ (σ τ : qe_S), R σ τ → ∃ (r : Int32) (σ' τ' : qe_S), g_X8_tells  σ = some (r, σ') ∧ g_X9_tells  τ = some (r, τ') ∧ R σ' τ'
/-- reason: both answer the same, and the states stay related -/
def ql_op_reason (R : qe_S → qe_S → Prop) : Prop := ∀ (a0 : Int32) (σ τ : qe_S), R σ τ → ∃ (r : Int32) (σ' τ' : qe_S), g_X8_reason a0 σ = some (r, σ') ∧ g_X9_reason a0 τ = some (r, τ') ∧ R σ' τ'
/-- list: both answer the same, and the states stay related -/
def ql_op_list (R : qe_S → qe_S → Prop) : Prop := ∀ (a0 : Int32) (a1 : Int32) (σ τ : qe_S), R σ τ → ∃ (r : Int32) (σ' τ' : qe_S), g_X8_list a0 a1 σ = some (r, σ') ∧ g_X9_list a0 a1 τ = some (r, τ') ∧ R σ' τ'
/-- put: both answer the same, and the states stay related -/
def ql_op_put (R : qe_S → qe_S → Prop) : Prop := ∀ (a0 : Int32) (a1 : Int32) (a2 : Int64) (σ τ : qe_S), R σ τ → ∃ (r : Int32) (σ' τ' : qe_S), g_X8_put a0 a1 a2 σ = some (r, σ') ∧ g_X9_put a0 a1 a2 τ = some (r, τ') ∧ R σ' τ'
/-- look: both answer the same, and the states stay related -/
def ql_op_look (R : qe_S → qe_S → Prop) : Prop := ∀ (a0 : Int32) (a1 : Int32) (σ τ : qe_S), R σ τ → ∃ (r : Int64) (σ' τ' : qe_S), g_X8_look a0 a1 σ = some (r, σ') ∧ g_X9_look a0 a1 τ = some (r, τ') ∧ R σ' τ'
/-- judge: both answer the same, and the states stay related -/
def ql_op_judge (R : qe_S → qe_S → Prop) : Prop := ∀ (a0 : Int32) (a1 : Int32) (σ τ : qe_S), R σ τ → ∃ (r : Int32) (σ' τ' : qe_S), g_X8_judge a0 a1 σ = some (r, σ') ∧ g_X9_judge a0 a1 τ = some (r, τ') ∧ R σ' τ'
/-- image: both answer the same, and the states stay related -/
def ql_op_image (R : qe_S → qe_S → Prop) : Prop := ∀ (σ τ : qe_S), R σ τ → ∃ (r : Int32) (σ' τ' : qe_S), g_X8_image  σ = some (r, σ') ∧ g_X9_image  τ = some (r, τ') ∧ R σ' τ'
/-- undo: both answer the same, and the states stay related -/
def ql_op_undo (R : qe_S → qe_S → Prop) : Prop := ∀ (σ τ : qe_S), R σ τ → ∃ (r : Int32) (σ' τ' : qe_S), g_X8_undo  σ = some (r, σ') ∧ g_X9_undo  τ = some (r, τ') ∧ R σ' τ'
/-- count: both answer the same, and the states stay related -/
def ql_op_count (R : qe_S → qe_S → Prop) : Prop := ∀ (a0 : Int32) (σ τ : qe_S), R σ τ → ∃ (r : Int32) (σ' τ' : qe_S), g_X8_count a0 σ = some (r, σ') ∧ g_X9_count a0 τ = some (r, τ') ∧ R σ' τ'
theorem ql_case_unit {l : Launch} {G : qe_G} {b L : Nat} {xs : Nat → Int32} {adc adm : Nat → Nat} {i : Nat} {σ τ : qe_S} {R : qe_S → qe_S → Prop} (hi : i + 5 ≤ L) (hL : L ≤ 2560) (ho : ql_op_unit R) (hR : R σ τ) (kk : ∀ σ τ, R σ τ → ql_L l G b L xs adc adm i 1503 [] σ τ) : ql_L l G b L xs adc adm i 204 [] σ τ := by
  obtain ⟨r, σ', τ', h1, h2, h3⟩ := ho (xs (i + 1)) (xs (i + 2)) (xs (i + 3)) (xs (i + 4)) σ τ hR
  refine ql_x dL_law_204 ?_
  refine ql_sc 1 rfl (by omega) hL dL_law_205 dL_law_206 dL_law_207 dL_law_208 dL_law_209 ?_
  refine ql_sc 2 rfl (by omega) hL dL_law_210 dL_law_211 dL_law_212 dL_law_213 dL_law_214 ?_
  refine ql_sc 3 rfl (by omega) hL dL_law_215 dL_law_216 dL_law_217 dL_law_218 dL_law_219 ?_
  refine ql_sc 4 rfl (by omega) hL dL_law_220 dL_law_221 dL_law_222 dL_law_223 dL_law_224 ?_
  refine ql_callX (st := []) (av := [.int (xs (i + 1)), .int (xs (i + 2)), .int (xs (i + 3)), .int (xs (i + 4))]) kl_X8_unit (c_X8_unit h1) rfl rfl (fun _ => rfl) (fun _ => rfl) rfl (Nat.le_of_ble_eq_true rfl) dL_law_225 ?_
  refine ql_m dL_law_228 ?_
  refine ql_sc 1 rfl (by omega) hL dL_law_229 dL_law_230 dL_law_231 dL_law_232 dL_law_233 ?_
  refine ql_sc 2 rfl (by omega) hL dL_law_234 dL_law_235 dL_law_236 dL_law_237 dL_law_238 ?_
  refine ql_sc 3 rfl (by omega) hL dL_law_239 dL_law_240 dL_law_241 dL_law_242 dL_law_243 ?_
  refine ql_sc 4 rfl (by omega) hL dL_law_244 dL_law_245 dL_law_246 dL_law_247 dL_law_248 ?_
  refine ql_callM (st := [.int r]) (av := [.int (xs (i + 1)), .int (xs (i + 2)), .int (xs (i + 3)), .int (xs (i + 4))]) kl_X9_unit (c_X9_unit h2) rfl rfl (fun _ => rfl) (fun _ => rfl) rfl (Nat.le_of_ble_eq_true rfl) dL_law_249 ?_
  refine ql_same (tgt := 1503) dL_law_252 rfl ?_
  exact kk σ' τ' h3
theorem ql_case_odds {l : Launch} {G : qe_G} {b L : Nat} {xs : Nat → Int32} {adc adm : Nat → Nat} {i : Nat} {σ τ : qe_S} {R : qe_S → qe_S → Prop} (hi : i + 5 ≤ L) (hL : L ≤ 2560) (ho : ql_op_odds R) (hR : R σ τ) (kk : ∀ σ τ, R σ τ → ql_L l G b L xs adc adm i 1503 [] σ τ) : ql_L l G b L xs adc adm i 257 [] σ τ := by
  obtain ⟨r, σ', τ', h1, h2, h3⟩ := ho (xs (i + 1)) (xs (i + 2)) (xs (i + 3)) (xs (i + 4)) σ τ hR
  refine ql_x dL_law_257 ?_
  refine ql_sc 1 rfl (by omega) hL dL_law_258 dL_law_259 dL_law_260 dL_law_261 dL_law_262 ?_
  refine ql_sc 2 rfl (by omega) hL dL_law_263 dL_law_264 dL_law_265 dL_law_266 dL_law_267 ?_
  refine ql_sc 3 rfl (by omega) hL dL_law_268 dL_law_269 dL_law_270 dL_law_271 dL_law_272 ?_
  refine ql_sc 4 rfl (by omega) hL dL_law_273 dL_law_274 dL_law_275 dL_law_276 dL_law_277 ?_
  refine ql_callX (st := []) (av := [.int (xs (i + 1)), .int (xs (i + 2)), .int (xs (i + 3)), .int (xs (i + 4))]) kl_X8_odds (c_X8_odds h1) rfl rfl (fun _ => rfl) (fun _ => rfl) rfl (Nat.le_of_ble_eq_true rfl) dL_law_278 ?_
  refine ql_m dL_law_281 ?_
  refine ql_sc 1 rfl (by omega) hL dL_law_282 dL_law_283 dL_law_284 dL_law_285 dL_law_286 ?_
  refine ql_sc 2 rfl (by omega) hL dL_law_287 dL_law_288 dL_law_289 dL_law_290 dL_law_291 ?_
  refine ql_sc 3 rfl (by omega) hL dL_law_292 dL_law_293 dL_law_294 dL_law_295 dL_law_296 ?_
  refine ql_sc 4 rfl (by omega) hL dL_law_297 dL_law_298 dL_law_299 dL_law_300 dL_law_301 ?_
  refine ql_callM (st := [.int r]) (av := [.int (xs (i + 1)), .int (xs (i + 2)), .int (xs (i + 3)), .int (xs (i + 4))]) kl_X9_odds (c_X9_odds h2) rfl rfl (fun _ => rfl) (fun _ => rfl) rfl (Nat.le_of_ble_eq_true rfl) dL_law_302 ?_
  refine ql_same (tgt := 1503) dL_law_305 rfl ?_
  exact kk σ' τ' h3
theorem ql_case_set {l : Launch} {G : qe_G} {b L : Nat} {xs : Nat → Int32} {adc adm : Nat → Nat} {i : Nat} {σ τ : qe_S} {R : qe_S → qe_S → Prop} (hi : i + 5 ≤ L) (hL : L ≤ 2560) (ho : ql_op_set R) (hR : R σ τ) (kk : ∀ σ τ, R σ τ → ql_L l G b L xs adc adm i 1503 [] σ τ) : ql_L l G b L xs adc adm i 310 [] σ τ := by
  obtain ⟨r, σ', τ', h1, h2, h3⟩ := ho (xs (i + 1)) (xs (i + 2)) (xs (i + 3)) σ τ hR
  refine ql_x dL_law_310 ?_
  refine ql_sc 1 rfl (by omega) hL dL_law_311 dL_law_312 dL_law_313 dL_law_314 dL_law_315 ?_
  refine ql_sc 2 rfl (by omega) hL dL_law_316 dL_law_317 dL_law_318 dL_law_319 dL_law_320 ?_
  refine ql_sc 3 rfl (by omega) hL dL_law_321 dL_law_322 dL_law_323 dL_law_324 dL_law_325 ?_
  refine ql_callX (st := []) (av := [.int (xs (i + 1)), .int (xs (i + 2)), .int (xs (i + 3))]) kl_X8_set (c_X8_set h1) rfl rfl (fun _ => rfl) (fun _ => rfl) rfl (Nat.le_of_ble_eq_true rfl) dL_law_326 ?_
  refine ql_m dL_law_329 ?_
  refine ql_sc 1 rfl (by omega) hL dL_law_330 dL_law_331 dL_law_332 dL_law_333 dL_law_334 ?_
  refine ql_sc 2 rfl (by omega) hL dL_law_335 dL_law_336 dL_law_337 dL_law_338 dL_law_339 ?_
  refine ql_sc 3 rfl (by omega) hL dL_law_340 dL_law_341 dL_law_342 dL_law_343 dL_law_344 ?_
  refine ql_callM (st := [.int r]) (av := [.int (xs (i + 1)), .int (xs (i + 2)), .int (xs (i + 3))]) kl_X9_set (c_X9_set h2) rfl rfl (fun _ => rfl) (fun _ => rfl) rfl (Nat.le_of_ble_eq_true rfl) dL_law_345 ?_
  refine ql_same (tgt := 1503) dL_law_348 rfl ?_
  exact kk σ' τ' h3
theorem ql_case_mark {l : Launch} {G : qe_G} {b L : Nat} {xs : Nat → Int32} {adc adm : Nat → Nat} {i : Nat} {σ τ : qe_S} {R : qe_S → qe_S → Prop} (hi : i + 5 ≤ L) (hL : L ≤ 2560) (ho : ql_op_mark R) (hR : R σ τ) (kk : ∀ σ τ, R σ τ → ql_L l G b L xs adc adm i 1503 [] σ τ) : ql_L l G b L xs adc adm i 353 [] σ τ := by
  obtain ⟨r, σ', τ', h1, h2, h3⟩ := ho (xs (i + 1)) (xs (i + 2)) σ τ hR
  refine ql_x dL_law_353 ?_
  refine ql_sc 1 rfl (by omega) hL dL_law_354 dL_law_355 dL_law_356 dL_law_357 dL_law_358 ?_
  refine ql_sc 2 rfl (by omega) hL dL_law_359 dL_law_360 dL_law_361 dL_law_362 dL_law_363 ?_
  refine ql_callX (st := []) (av := [.int (xs (i + 1)), .int (xs (i + 2))]) kl_X8_mark (c_X8_mark h1) rfl rfl (fun _ => rfl) (fun _ => rfl) rfl (Nat.le_of_ble_eq_true rfl) dL_law_364 ?_
  refine ql_m dL_law_367 ?_
  refine ql_sc 1 rfl (by omega) hL dL_law_368 dL_law_369 dL_law_370 dL_law_371 dL_law_372 ?_
  refine ql_sc 2 rfl (by omega) hL dL_law_373 dL_law_374 dL_law_375 dL_law_376 dL_law_377 ?_
  refine ql_callM (st := [.int r]) (av := [.int (xs (i + 1)), .int (xs (i + 2))]) kl_X9_mark (c_X9_mark h2) rfl rfl (fun _ => rfl) (fun _ => rfl) rfl (Nat.le_of_ble_eq_true rfl) dL_law_378 ?_
  refine ql_same (tgt := 1503) dL_law_381 rfl ?_
  exact kk σ' τ' h3
theorem ql_case_of {l : Launch} {G : qe_G} {b L : Nat} {xs : Nat → Int32} {adc adm : Nat → Nat} {i : Nat} {σ τ : qe_S} {R : qe_S → qe_S → Prop} (hi : i + 5 ≤ L) (hL : L ≤ 2560) (ho : ql_op_of R) (hR : R σ τ) (kk : ∀ σ τ, R σ τ → ql_L l G b L xs adc adm i 1503 [] σ τ) : ql_L l G b L xs adc adm i 386 [] σ τ := by
  obtain ⟨r, σ', τ', h1, h2, h3⟩ := ho (xs (i + 1)) (xs (i + 2)) σ τ hR
  refine ql_x dL_law_386 ?_
  refine ql_sc 1 rfl (by omega) hL dL_law_387 dL_law_388 dL_law_389 dL_law_390 dL_law_391 ?_
  refine ql_sc 2 rfl (by omega) hL dL_law_392 dL_law_393 dL_law_394 dL_law_395 dL_law_396 ?_
  refine ql_callX (st := []) (av := [.int (xs (i + 1)), .int (xs (i + 2))]) kl_X8_of (c_X8_of h1) rfl rfl (fun _ => rfl) (fun _ => rfl) rfl (Nat.le_of_ble_eq_true rfl) dL_law_397 ?_
  refine ql_m dL_law_400 ?_
  refine ql_sc 1 rfl (by omega) hL dL_law_401 dL_law_402 dL_law_403 dL_law_404 dL_law_405 ?_
  refine ql_sc 2 rfl (by omega) hL dL_law_406 dL_law_407 dL_law_408 dL_law_409 dL_law_410 ?_
  refine ql_callM (st := [.long r]) (av := [.int (xs (i + 1)), .int (xs (i + 2))]) kl_X9_of (c_X9_of h2) rfl rfl (fun _ => rfl) (fun _ => rfl) rfl (Nat.le_of_ble_eq_true rfl) dL_law_411 ?_
  refine ql_sameL (tgt := 1503) dL_law_414 dL_law_415 rfl ?_
  exact kk σ' τ' h3
theorem ql_case_fraction {l : Launch} {G : qe_G} {b L : Nat} {xs : Nat → Int32} {adc adm : Nat → Nat} {i : Nat} {σ τ : qe_S} {R : qe_S → qe_S → Prop} (hi : i + 5 ≤ L) (hL : L ≤ 2560) (ho : ql_op_fraction R) (hR : R σ τ) (kk : ∀ σ τ, R σ τ → ql_L l G b L xs adc adm i 1503 [] σ τ) : ql_L l G b L xs adc adm i 420 [] σ τ := by
  obtain ⟨r, σ', τ', h1, h2, h3⟩ := ho (xs (i + 1)) (xs (i + 2)) (xs (i + 3)) σ τ hR
  refine ql_x dL_law_420 ?_
  refine ql_sc 1 rfl (by omega) hL dL_law_421 dL_law_422 dL_law_423 dL_law_424 dL_law_425 ?_
  refine ql_sc 2 rfl (by omega) hL dL_law_426 dL_law_427 dL_law_428 dL_law_429 dL_law_430 ?_
  refine ql_sc 3 rfl (by omega) hL dL_law_431 dL_law_432 dL_law_433 dL_law_434 dL_law_435 ?_
  refine ql_callX (st := []) (av := [.int (xs (i + 1)), .int (xs (i + 2)), .int (xs (i + 3))]) kl_X8_fraction (c_X8_fraction h1) rfl rfl (fun _ => rfl) (fun _ => rfl) rfl (Nat.le_of_ble_eq_true rfl) dL_law_436 ?_
  refine ql_m dL_law_439 ?_
  refine ql_sc 1 rfl (by omega) hL dL_law_440 dL_law_441 dL_law_442 dL_law_443 dL_law_444 ?_
  refine ql_sc 2 rfl (by omega) hL dL_law_445 dL_law_446 dL_law_447 dL_law_448 dL_law_449 ?_
  refine ql_sc 3 rfl (by omega) hL dL_law_450 dL_law_451 dL_law_452 dL_law_453 dL_law_454 ?_
  refine ql_callM (st := [.long r]) (av := [.int (xs (i + 1)), .int (xs (i + 2)), .int (xs (i + 3))]) kl_X9_fraction (c_X9_fraction h2) rfl rfl (fun _ => rfl) (fun _ => rfl) rfl (Nat.le_of_ble_eq_true rfl) dL_law_455 ?_
  refine ql_sameL (tgt := 1503) dL_law_458 dL_law_459 rfl ?_
  exact kk σ' τ' h3
theorem ql_case_order {l : Launch} {G : qe_G} {b L : Nat} {xs : Nat → Int32} {adc adm : Nat → Nat} {i : Nat} {σ τ : qe_S} {R : qe_S → qe_S → Prop} (hi : i + 5 ≤ L) (hL : L ≤ 2560) (ho : ql_op_order R) (hR : R σ τ) (kk : ∀ σ τ, R σ τ → ql_L l G b L xs adc adm i 1503 [] σ τ) : ql_L l G b L xs adc adm i 464 [] σ τ := by
  obtain ⟨r, σ', τ', h1, h2, h3⟩ := ho (xs (i + 1)) σ τ hR
  refine ql_x dL_law_464 ?_
  refine ql_sc 1 rfl (by omega) hL dL_law_465 dL_law_466 dL_law_467 dL_law_468 dL_law_469 ?_
  refine ql_callX (st := []) (av := [.int (xs (i + 1))]) kl_X8_order (c_X8_order h1) rfl rfl (fun _ => rfl) (fun _ => rfl) rfl (Nat.le_of_ble_eq_true rfl) dL_law_470 ?_
  refine ql_m dL_law_473 ?_
  refine ql_sc 1 rfl (by omega) hL dL_law_474 dL_law_475 dL_law_476 dL_law_477 dL_law_478 ?_
  refine ql_callM (st := [.int r]) (av := [.int (xs (i + 1))]) kl_X9_order (c_X9_order h2) rfl rfl (fun _ => rfl) (fun _ => rfl) rfl (Nat.le_of_ble_eq_true rfl) dL_law_479 ?_
  refine ql_same (tgt := 1503) dL_law_482 rfl ?_
  exact kk σ' τ' h3
theorem ql_case_at {l : Launch} {G : qe_G} {b L : Nat} {xs : Nat → Int32} {adc adm : Nat → Nat} {i : Nat} {σ τ : qe_S} {R : qe_S → qe_S → Prop} (hi : i + 5 ≤ L) (hL : L ≤ 2560) (ho : ql_op_at R) (hR : R σ τ) (kk : ∀ σ τ, R σ τ → ql_L l G b L xs adc adm i 1503 [] σ τ) : ql_L l G b L xs adc adm i 487 [] σ τ := by
  obtain ⟨r, σ', τ', h1, h2, h3⟩ := ho (xs (i + 1)) σ τ hR
  refine ql_x dL_law_487 ?_
  refine ql_sc 1 rfl (by omega) hL dL_law_488 dL_law_489 dL_law_490 dL_law_491 dL_law_492 ?_
  refine ql_callX (st := []) (av := [.int (xs (i + 1))]) kl_X8_at (c_X8_at h1) rfl rfl (fun _ => rfl) (fun _ => rfl) rfl (Nat.le_of_ble_eq_true rfl) dL_law_493 ?_
  refine ql_m dL_law_496 ?_
  refine ql_sc 1 rfl (by omega) hL dL_law_497 dL_law_498 dL_law_499 dL_law_500 dL_law_501 ?_
  refine ql_callM (st := [.int r]) (av := [.int (xs (i + 1))]) kl_X9_at (c_X9_at h2) rfl rfl (fun _ => rfl) (fun _ => rfl) rfl (Nat.le_of_ble_eq_true rfl) dL_law_502 ?_
  refine ql_same (tgt := 1503) dL_law_505 rfl ?_
  exact kk σ' τ' h3
theorem ql_case_swap {l : Launch} {G : qe_G} {b L : Nat} {xs : Nat → Int32} {adc adm : Nat → Nat} {i : Nat} {σ τ : qe_S} {R : qe_S → qe_S → Prop} (hi : i + 5 ≤ L) (hL : L ≤ 2560) (ho : ql_op_swap R) (hR : R σ τ) (kk : ∀ σ τ, R σ τ → ql_L l G b L xs adc adm i 1503 [] σ τ) : ql_L l G b L xs adc adm i 510 [] σ τ := by
  obtain ⟨r, σ', τ', h1, h2, h3⟩ := ho (xs (i + 1)) (xs (i + 2)) σ τ hR
  refine ql_x dL_law_510 ?_
  refine ql_sc 1 rfl (by omega) hL dL_law_511 dL_law_512 dL_law_513 dL_law_514 dL_law_515 ?_
  refine ql_sc 2 rfl (by omega) hL dL_law_516 dL_law_517 dL_law_518 dL_law_519 dL_law_520 ?_
  refine ql_callX (st := []) (av := [.int (xs (i + 1)), .int (xs (i + 2))]) kl_X8_swap (c_X8_swap h1) rfl rfl (fun _ => rfl) (fun _ => rfl) rfl (Nat.le_of_ble_eq_true rfl) dL_law_521 ?_
  refine ql_m dL_law_524 ?_
  refine ql_sc 1 rfl (by omega) hL dL_law_525 dL_law_526 dL_law_527 dL_law_528 dL_law_529 ?_
  refine ql_sc 2 rfl (by omega) hL dL_law_530 dL_law_531 dL_law_532 dL_law_533 dL_law_534 ?_
  refine ql_callM (st := [.int r]) (av := [.int (xs (i + 1)), .int (xs (i + 2))]) kl_X9_swap (c_X9_swap h2) rfl rfl (fun _ => rfl) (fun _ => rfl) rfl (Nat.le_of_ble_eq_true rfl) dL_law_535 ?_
  refine ql_same (tgt := 1503) dL_law_538 rfl ?_
  exact kk σ' τ' h3
theorem ql_case_common {l : Launch} {G : qe_G} {b L : Nat} {xs : Nat → Int32} {adc adm : Nat → Nat} {i : Nat} {σ τ : qe_S} {R : qe_S → qe_S → Prop} (hi : i + 5 ≤ L) (hL : L ≤ 2560) (ho : ql_op_common R) (hR : R σ τ) (kk : ∀ σ τ, R σ τ → ql_L l G b L xs adc adm i 1503 [] σ τ) : ql_L l G b L xs adc adm i 543 [] σ τ := by
  obtain ⟨r, σ', τ', h1, h2, h3⟩ := ho (xs (i + 1)) σ τ hR
  refine ql_x dL_law_543 ?_
  refine ql_sc 1 rfl (by omega) hL dL_law_544 dL_law_545 dL_law_546 dL_law_547 dL_law_548 ?_
  refine ql_callX (st := []) (av := [.int (xs (i + 1))]) kl_X8_common (c_X8_common h1) rfl rfl (fun _ => rfl) (fun _ => rfl) rfl (Nat.le_of_ble_eq_true rfl) dL_law_549 ?_
  refine ql_m dL_law_552 ?_
  refine ql_sc 1 rfl (by omega) hL dL_law_553 dL_law_554 dL_law_555 dL_law_556 dL_law_557 ?_
  refine ql_callM (st := [.int r]) (av := [.int (xs (i + 1))]) kl_X9_common (c_X9_common h2) rfl rfl (fun _ => rfl) (fun _ => rfl) rfl (Nat.le_of_ble_eq_true rfl) dL_law_558 ?_
  refine ql_same (tgt := 1503) dL_law_561 rfl ?_
  exact kk σ' τ' h3
theorem ql_case_parts {l : Launch} {G : qe_G} {b L : Nat} {xs : Nat → Int32} {adc adm : Nat → Nat} {i : Nat} {σ τ : qe_S} {R : qe_S → qe_S → Prop} (hi : i + 5 ≤ L) (hL : L ≤ 2560) (ho : ql_op_parts R) (hR : R σ τ) (kk : ∀ σ τ, R σ τ → ql_L l G b L xs adc adm i 1503 [] σ τ) : ql_L l G b L xs adc adm i 566 [] σ τ := by
  obtain ⟨r, σ', τ', h1, h2, h3⟩ := ho (xs (i + 1)) σ τ hR
  refine ql_x dL_law_566 ?_
  refine ql_sc 1 rfl (by omega) hL dL_law_567 dL_law_568 dL_law_569 dL_law_570 dL_law_571 ?_
  refine ql_callX (st := []) (av := [.int (xs (i + 1))]) kl_X8_parts (c_X8_parts h1) rfl rfl (fun _ => rfl) (fun _ => rfl) rfl (Nat.le_of_ble_eq_true rfl) dL_law_572 ?_
  refine ql_m dL_law_575 ?_
  refine ql_sc 1 rfl (by omega) hL dL_law_576 dL_law_577 dL_law_578 dL_law_579 dL_law_580 ?_
  refine ql_callM (st := [.int r]) (av := [.int (xs (i + 1))]) kl_X9_parts (c_X9_parts h2) rfl rfl (fun _ => rfl) (fun _ => rfl) rfl (Nat.le_of_ble_eq_true rfl) dL_law_581 ?_
  refine ql_same (tgt := 1503) dL_law_584 rfl ?_
  exact kk σ' τ' h3
theorem ql_case_size {l : Launch} {G : qe_G} {b L : Nat} {xs : Nat → Int32} {adc adm : Nat → Nat} {i : Nat} {σ τ : qe_S} {R : qe_S → qe_S → Prop} (hi : i + 5 ≤ L) (hL : L ≤ 2560) (ho : ql_op_size R) (hR : R σ τ) (kk : ∀ σ τ, R σ τ → ql_L l G b L xs adc adm i 1503 [] σ τ) : ql_L l G b L xs adc adm i 589 [] σ τ := by
  obtain ⟨r, σ', τ', h1, h2, h3⟩ := ho (xs (i + 1)) σ τ hR
  refine ql_x dL_law_589 ?_
  refine ql_sc 1 rfl (by omega) hL dL_law_590 dL_law_591 dL_law_592 dL_law_593 dL_law_594 ?_
  refine ql_callX (st := []) (av := [.int (xs (i + 1))]) kl_X8_size (c_X8_size h1) rfl rfl (fun _ => rfl) (fun _ => rfl) rfl (Nat.le_of_ble_eq_true rfl) dL_law_595 ?_
  refine ql_m dL_law_598 ?_
  refine ql_sc 1 rfl (by omega) hL dL_law_599 dL_law_600 dL_law_601 dL_law_602 dL_law_603 ?_
  refine ql_callM (st := [.int r]) (av := [.int (xs (i + 1))]) kl_X9_size (c_X9_size h2) rfl rfl (fun _ => rfl) (fun _ => rfl) rfl (Nat.le_of_ble_eq_true rfl) dL_law_604 ?_
  refine ql_same (tgt := 1503) dL_law_607 rfl ?_
  exact kk σ' τ' h3
theorem ql_case_chosen {l : Launch} {G : qe_G} {b L : Nat} {xs : Nat → Int32} {adc adm : Nat → Nat} {i : Nat} {σ τ : qe_S} {R : qe_S → qe_S → Prop} (hi : i + 5 ≤ L) (hL : L ≤ 2560) (ho : ql_op_chosen R) (hR : R σ τ) (kk : ∀ σ τ, R σ τ → ql_L l G b L xs adc adm i 1503 [] σ τ) : ql_L l G b L xs adc adm i 612 [] σ τ := by
  obtain ⟨r, σ', τ', h1, h2, h3⟩ := ho (xs (i + 1)) σ τ hR
  refine ql_x dL_law_612 ?_
  refine ql_sc 1 rfl (by omega) hL dL_law_613 dL_law_614 dL_law_615 dL_law_616 dL_law_617 ?_
  refine ql_callX (st := []) (av := [.int (xs (i + 1))]) kl_X8_chosen (c_X8_chosen h1) rfl rfl (fun _ => rfl) (fun _ => rfl) rfl (Nat.le_of_ble_eq_true rfl) dL_law_618 ?_
  refine ql_m dL_law_621 ?_
  refine ql_sc 1 rfl (by omega) hL dL_law_622 dL_law_623 dL_law_624 dL_law_625 dL_law_626 ?_
  refine ql_callM (st := [.int r]) (av := [.int (xs (i + 1))]) kl_X9_chosen (c_X9_chosen h2) rfl rfl (fun _ => rfl) (fun _ => rfl) rfl (Nat.le_of_ble_eq_true rfl) dL_law_627 ?_
  refine ql_same (tgt := 1503) dL_law_630 rfl ?_
  exact kk σ' τ' h3
theorem ql_case_run {l : Launch} {G : qe_G} {b L : Nat} {xs : Nat → Int32} {adc adm : Nat → Nat} {i : Nat} {σ τ : qe_S} {R : qe_S → qe_S → Prop} (hi : i + 5 ≤ L) (hL : L ≤ 2560) (ho : ql_op_run R) (hR : R σ τ) (kk : ∀ σ τ, R σ τ → ql_L l G b L xs adc adm i 1503 [] σ τ) : ql_L l G b L xs adc adm i 635 [] σ τ := by
  obtain ⟨r, σ', τ', h1, h2, h3⟩ := ho (xs (i + 1)) (xs (i + 2)) σ τ hR
  refine ql_x dL_law_635 ?_
  refine ql_sc 1 rfl (by omega) hL dL_law_636 dL_law_637 dL_law_638 dL_law_639 dL_law_640 ?_
  refine ql_sc 2 rfl (by omega) hL dL_law_641 dL_law_642 dL_law_643 dL_law_644 dL_law_645 ?_
  refine ql_callX (st := []) (av := [.int (xs (i + 1)), .int (xs (i + 2))]) kl_X8_run (c_X8_run h1) rfl rfl (fun _ => rfl) (fun _ => rfl) rfl (Nat.le_of_ble_eq_true rfl) dL_law_646 ?_
  refine ql_m dL_law_649 ?_
  refine ql_sc 1 rfl (by omega) hL dL_law_650 dL_law_651 dL_law_652 dL_law_653 dL_law_654 ?_
  refine ql_sc 2 rfl (by omega) hL dL_law_655 dL_law_656 dL_law_657 dL_law_658 dL_law_659 ?_
  refine ql_callM (st := [.int r]) (av := [.int (xs (i + 1)), .int (xs (i + 2))]) kl_X9_run (c_X9_run h2) rfl rfl (fun _ => rfl) (fun _ => rfl) rfl (Nat.le_of_ble_eq_true rfl) dL_law_660 ?_
  refine ql_same (tgt := 1503) dL_law_663 rfl ?_
  exact kk σ' τ' h3
theorem ql_case_joint {l : Launch} {G : qe_G} {b L : Nat} {xs : Nat → Int32} {adc adm : Nat → Nat} {i : Nat} {σ τ : qe_S} {R : qe_S → qe_S → Prop} (hi : i + 5 ≤ L) (hL : L ≤ 2560) (ho : ql_op_joint R) (hR : R σ τ) (kk : ∀ σ τ, R σ τ → ql_L l G b L xs adc adm i 1503 [] σ τ) : ql_L l G b L xs adc adm i 668 [] σ τ := by
  obtain ⟨r, σ', τ', h1, h2, h3⟩ := ho (xs (i + 1)) (xs (i + 2)) (xs (i + 3)) σ τ hR
  refine ql_x dL_law_668 ?_
  refine ql_sc 1 rfl (by omega) hL dL_law_669 dL_law_670 dL_law_671 dL_law_672 dL_law_673 ?_
  refine ql_sc 2 rfl (by omega) hL dL_law_674 dL_law_675 dL_law_676 dL_law_677 dL_law_678 ?_
  refine ql_sc 3 rfl (by omega) hL dL_law_679 dL_law_680 dL_law_681 dL_law_682 dL_law_683 ?_
  refine ql_callX (st := []) (av := [.int (xs (i + 1)), .int (xs (i + 2)), .int (xs (i + 3))]) kl_X8_joint (c_X8_joint h1) rfl rfl (fun _ => rfl) (fun _ => rfl) rfl (Nat.le_of_ble_eq_true rfl) dL_law_684 ?_
  refine ql_m dL_law_687 ?_
  refine ql_sc 1 rfl (by omega) hL dL_law_688 dL_law_689 dL_law_690 dL_law_691 dL_law_692 ?_
  refine ql_sc 2 rfl (by omega) hL dL_law_693 dL_law_694 dL_law_695 dL_law_696 dL_law_697 ?_
  refine ql_sc 3 rfl (by omega) hL dL_law_698 dL_law_699 dL_law_700 dL_law_701 dL_law_702 ?_
  refine ql_callM (st := [.long r]) (av := [.int (xs (i + 1)), .int (xs (i + 2)), .int (xs (i + 3))]) kl_X9_joint (c_X9_joint h2) rfl rfl (fun _ => rfl) (fun _ => rfl) rfl (Nat.le_of_ble_eq_true rfl) dL_law_703 ?_
  refine ql_sameL (tgt := 1503) dL_law_706 dL_law_707 rfl ?_
  exact kk σ' τ' h3
theorem ql_case_joints {l : Launch} {G : qe_G} {b L : Nat} {xs : Nat → Int32} {adc adm : Nat → Nat} {i : Nat} {σ τ : qe_S} {R : qe_S → qe_S → Prop} (hi : i + 5 ≤ L) (hL : L ≤ 2560) (ho : ql_op_joints R) (hR : R σ τ) (kk : ∀ σ τ, R σ τ → ql_L l G b L xs adc adm i 1503 [] σ τ) : ql_L l G b L xs adc adm i 712 [] σ τ := by
  obtain ⟨r, σ', τ', h1, h2, h3⟩ := ho (xs (i + 1)) (xs (i + 2)) σ τ hR
  refine ql_x dL_law_712 ?_
  refine ql_sc 1 rfl (by omega) hL dL_law_713 dL_law_714 dL_law_715 dL_law_716 dL_law_717 ?_
  refine ql_sc 2 rfl (by omega) hL dL_law_718 dL_law_719 dL_law_720 dL_law_721 dL_law_722 ?_
  refine ql_callX (st := []) (av := [.int (xs (i + 1)), .int (xs (i + 2))]) kl_X8_joints (c_X8_joints h1) rfl rfl (fun _ => rfl) (fun _ => rfl) rfl (Nat.le_of_ble_eq_true rfl) dL_law_723 ?_
  refine ql_m dL_law_726 ?_
  refine ql_sc 1 rfl (by omega) hL dL_law_727 dL_law_728 dL_law_729 dL_law_730 dL_law_731 ?_
  refine ql_sc 2 rfl (by omega) hL dL_law_732 dL_law_733 dL_law_734 dL_law_735 dL_law_736 ?_
  refine ql_callM (st := [.long r]) (av := [.int (xs (i + 1)), .int (xs (i + 2))]) kl_X9_joints (c_X9_joints h2) rfl rfl (fun _ => rfl) (fun _ => rfl) rfl (Nat.le_of_ble_eq_true rfl) dL_law_737 ?_
  refine ql_sameL (tgt := 1503) dL_law_740 dL_law_741 rfl ?_
  exact kk σ' τ' h3
theorem ql_case_fair {l : Launch} {G : qe_G} {b L : Nat} {xs : Nat → Int32} {adc adm : Nat → Nat} {i : Nat} {σ τ : qe_S} {R : qe_S → qe_S → Prop} (hi : i + 5 ≤ L) (hL : L ≤ 2560) (ho : ql_op_fair R) (hR : R σ τ) (kk : ∀ σ τ, R σ τ → ql_L l G b L xs adc adm i 1503 [] σ τ) : ql_L l G b L xs adc adm i 746 [] σ τ := by
  obtain ⟨r, σ', τ', h1, h2, h3⟩ := ho (xs (i + 1)) σ τ hR
  refine ql_x dL_law_746 ?_
  refine ql_sc 1 rfl (by omega) hL dL_law_747 dL_law_748 dL_law_749 dL_law_750 dL_law_751 ?_
  refine ql_callX (st := []) (av := [.int (xs (i + 1))]) kl_X8_fair (c_X8_fair h1) rfl rfl (fun _ => rfl) (fun _ => rfl) rfl (Nat.le_of_ble_eq_true rfl) dL_law_752 ?_
  refine ql_m dL_law_755 ?_
  refine ql_sc 1 rfl (by omega) hL dL_law_756 dL_law_757 dL_law_758 dL_law_759 dL_law_760 ?_
  refine ql_callM (st := [.int r]) (av := [.int (xs (i + 1))]) kl_X9_fair (c_X9_fair h2) rfl rfl (fun _ => rfl) (fun _ => rfl) rfl (Nat.le_of_ble_eq_true rfl) dL_law_761 ?_
  refine ql_same (tgt := 1503) dL_law_764 rfl ?_
  exact kk σ' τ' h3
theorem ql_case_estimate {l : Launch} {G : qe_G} {b L : Nat} {xs : Nat → Int32} {adc adm : Nat → Nat} {i : Nat} {σ τ : qe_S} {R : qe_S → qe_S → Prop} (hi : i + 5 ≤ L) (hL : L ≤ 2560) (ho : ql_op_estimate R) (hR : R σ τ) (kk : ∀ σ τ, R σ τ → ql_L l G b L xs adc adm i 1503 [] σ τ) : ql_L l G b L xs adc adm i 769 [] σ τ := by
  obtain ⟨r, σ', τ', h1, h2, h3⟩ := ho (xs (i + 1)) (xs (i + 2)) σ τ hR
  refine ql_x dL_law_769 ?_
  refine ql_sc 1 rfl (by omega) hL dL_law_770 dL_law_771 dL_law_772 dL_law_773 dL_law_774 ?_
  refine ql_sc 2 rfl (by omega) hL dL_law_775 dL_law_776 dL_law_777 dL_law_778 dL_law_779 ?_
  refine ql_callX (st := []) (av := [.int (xs (i + 1)), .int (xs (i + 2))]) kl_X8_estimate (c_X8_estimate h1) rfl rfl (fun _ => rfl) (fun _ => rfl) rfl (Nat.le_of_ble_eq_true rfl) dL_law_780 ?_
  refine ql_m dL_law_783 ?_
  refine ql_sc 1 rfl (by omega) hL dL_law_784 dL_law_785 dL_law_786 dL_law_787 dL_law_788 ?_
  refine ql_sc 2 rfl (by omega) hL dL_law_789 dL_law_790 dL_law_791 dL_law_792 dL_law_793 ?_
  refine ql_callM (st := [.long r]) (av := [.int (xs (i + 1)), .int (xs (i + 2))]) kl_X9_estimate (c_X9_estimate h2) rfl rfl (fun _ => rfl) (fun _ => rfl) rfl (Nat.le_of_ble_eq_true rfl) dL_law_794 ?_
  refine ql_sameL (tgt := 1503) dL_law_797 dL_law_798 rfl ?_
  exact kk σ' τ' h3
theorem ql_case_mean {l : Launch} {G : qe_G} {b L : Nat} {xs : Nat → Int32} {adc adm : Nat → Nat} {i : Nat} {σ τ : qe_S} {R : qe_S → qe_S → Prop} (hi : i + 5 ≤ L) (hL : L ≤ 2560) (ho : ql_op_mean R) (hR : R σ τ) (kk : ∀ σ τ, R σ τ → ql_L l G b L xs adc adm i 1503 [] σ τ) : ql_L l G b L xs adc adm i 803 [] σ τ := by
  obtain ⟨r, σ', τ', h1, h2, h3⟩ := ho (xs (i + 1)) σ τ hR
  refine ql_x dL_law_803 ?_
  refine ql_sc 1 rfl (by omega) hL dL_law_804 dL_law_805 dL_law_806 dL_law_807 dL_law_808 ?_
  refine ql_callX (st := []) (av := [.int (xs (i + 1))]) kl_X8_mean (c_X8_mean h1) rfl rfl (fun _ => rfl) (fun _ => rfl) rfl (Nat.le_of_ble_eq_true rfl) dL_law_809 ?_
  refine ql_m dL_law_812 ?_
  refine ql_sc 1 rfl (by omega) hL dL_law_813 dL_law_814 dL_law_815 dL_law_816 dL_law_817 ?_
  refine ql_callM (st := [.long r]) (av := [.int (xs (i + 1))]) kl_X9_mean (c_X9_mean h2) rfl rfl (fun _ => rfl) (fun _ => rfl) rfl (Nat.le_of_ble_eq_true rfl) dL_law_818 ?_
  refine ql_sameL (tgt := 1503) dL_law_821 dL_law_822 rfl ?_
  exact kk σ' τ' h3
theorem ql_case_spread {l : Launch} {G : qe_G} {b L : Nat} {xs : Nat → Int32} {adc adm : Nat → Nat} {i : Nat} {σ τ : qe_S} {R : qe_S → qe_S → Prop} (hi : i + 5 ≤ L) (hL : L ≤ 2560) (ho : ql_op_spread R) (hR : R σ τ) (kk : ∀ σ τ, R σ τ → ql_L l G b L xs adc adm i 1503 [] σ τ) : ql_L l G b L xs adc adm i 827 [] σ τ := by
  obtain ⟨r, σ', τ', h1, h2, h3⟩ := ho (xs (i + 1)) σ τ hR
  refine ql_x dL_law_827 ?_
  refine ql_sc 1 rfl (by omega) hL dL_law_828 dL_law_829 dL_law_830 dL_law_831 dL_law_832 ?_
  refine ql_callX (st := []) (av := [.int (xs (i + 1))]) kl_X8_spread (c_X8_spread h1) rfl rfl (fun _ => rfl) (fun _ => rfl) rfl (Nat.le_of_ble_eq_true rfl) dL_law_833 ?_
  refine ql_m dL_law_836 ?_
  refine ql_sc 1 rfl (by omega) hL dL_law_837 dL_law_838 dL_law_839 dL_law_840 dL_law_841 ?_
  refine ql_callM (st := [.long r]) (av := [.int (xs (i + 1))]) kl_X9_spread (c_X9_spread h2) rfl rfl (fun _ => rfl) (fun _ => rfl) rfl (Nat.le_of_ble_eq_true rfl) dL_law_842 ?_
  refine ql_sameL (tgt := 1503) dL_law_845 dL_law_846 rfl ?_
  exact kk σ' τ' h3
theorem ql_case_twice {l : Launch} {G : qe_G} {b L : Nat} {xs : Nat → Int32} {adc adm : Nat → Nat} {i : Nat} {σ τ : qe_S} {R : qe_S → qe_S → Prop} (hi : i + 5 ≤ L) (hL : L ≤ 2560) (ho : ql_op_twice R) (hR : R σ τ) (kk : ∀ σ τ, R σ τ → ql_L l G b L xs adc adm i 1503 [] σ τ) : ql_L l G b L xs adc adm i 851 [] σ τ := by
  obtain ⟨r, σ', τ', h1, h2, h3⟩ := ho (xs (i + 1)) (xs (i + 2)) σ τ hR
  refine ql_x dL_law_851 ?_
  refine ql_sc 1 rfl (by omega) hL dL_law_852 dL_law_853 dL_law_854 dL_law_855 dL_law_856 ?_
  refine ql_sc 2 rfl (by omega) hL dL_law_857 dL_law_858 dL_law_859 dL_law_860 dL_law_861 ?_
  refine ql_callX (st := []) (av := [.int (xs (i + 1)), .int (xs (i + 2))]) kl_X8_twice (c_X8_twice h1) rfl rfl (fun _ => rfl) (fun _ => rfl) rfl (Nat.le_of_ble_eq_true rfl) dL_law_862 ?_
  refine ql_m dL_law_865 ?_
  refine ql_sc 1 rfl (by omega) hL dL_law_866 dL_law_867 dL_law_868 dL_law_869 dL_law_870 ?_
  refine ql_sc 2 rfl (by omega) hL dL_law_871 dL_law_872 dL_law_873 dL_law_874 dL_law_875 ?_
  refine ql_callM (st := [.int r]) (av := [.int (xs (i + 1)), .int (xs (i + 2))]) kl_X9_twice (c_X9_twice h2) rfl rfl (fun _ => rfl) (fun _ => rfl) rfl (Nat.le_of_ble_eq_true rfl) dL_law_876 ?_
  refine ql_same (tgt := 1503) dL_law_879 rfl ?_
  exact kk σ' τ' h3
theorem ql_case_both {l : Launch} {G : qe_G} {b L : Nat} {xs : Nat → Int32} {adc adm : Nat → Nat} {i : Nat} {σ τ : qe_S} {R : qe_S → qe_S → Prop} (hi : i + 5 ≤ L) (hL : L ≤ 2560) (ho : ql_op_both R) (hR : R σ τ) (kk : ∀ σ τ, R σ τ → ql_L l G b L xs adc adm i 1503 [] σ τ) : ql_L l G b L xs adc adm i 884 [] σ τ := by
  obtain ⟨r, σ', τ', h1, h2, h3⟩ := ho (xs (i + 1)) (xs (i + 2)) (xs (i + 3)) σ τ hR
  refine ql_x dL_law_884 ?_
  refine ql_sc 1 rfl (by omega) hL dL_law_885 dL_law_886 dL_law_887 dL_law_888 dL_law_889 ?_
  refine ql_sc 2 rfl (by omega) hL dL_law_890 dL_law_891 dL_law_892 dL_law_893 dL_law_894 ?_
  refine ql_sc 3 rfl (by omega) hL dL_law_895 dL_law_896 dL_law_897 dL_law_898 dL_law_899 ?_
  refine ql_callX (st := []) (av := [.int (xs (i + 1)), .int (xs (i + 2)), .int (xs (i + 3))]) kl_X8_both (c_X8_both h1) rfl rfl (fun _ => rfl) (fun _ => rfl) rfl (Nat.le_of_ble_eq_true rfl) dL_law_900 ?_
  refine ql_m dL_law_903 ?_
  refine ql_sc 1 rfl (by omega) hL dL_law_904 dL_law_905 dL_law_906 dL_law_907 dL_law_908 ?_
  refine ql_sc 2 rfl (by omega) hL dL_law_909 dL_law_910 dL_law_911 dL_law_912 dL_law_913 ?_
  refine ql_sc 3 rfl (by omega) hL dL_law_914 dL_law_915 dL_law_916 dL_law_917 dL_law_918 ?_
  refine ql_callM (st := [.long r]) (av := [.int (xs (i + 1)), .int (xs (i + 2)), .int (xs (i + 3))]) kl_X9_both (c_X9_both h2) rfl rfl (fun _ => rfl) (fun _ => rfl) rfl (Nat.le_of_ble_eq_true rfl) dL_law_919 ?_
  refine ql_sameL (tgt := 1503) dL_law_922 dL_law_923 rfl ?_
  exact kk σ' τ' h3
theorem ql_case_kept {l : Launch} {G : qe_G} {b L : Nat} {xs : Nat → Int32} {adc adm : Nat → Nat} {i : Nat} {σ τ : qe_S} {R : qe_S → qe_S → Prop} (hi : i + 5 ≤ L) (hL : L ≤ 2560) (ho : ql_op_kept R) (hR : R σ τ) (kk : ∀ σ τ, R σ τ → ql_L l G b L xs adc adm i 1503 [] σ τ) : ql_L l G b L xs adc adm i 928 [] σ τ := by
  obtain ⟨r, σ', τ', h1, h2, h3⟩ := ho (xs (i + 1)) (xs (i + 2)) (xs (i + 3)) σ τ hR
  refine ql_x dL_law_928 ?_
  refine ql_sc 1 rfl (by omega) hL dL_law_929 dL_law_930 dL_law_931 dL_law_932 dL_law_933 ?_
  refine ql_sc 2 rfl (by omega) hL dL_law_934 dL_law_935 dL_law_936 dL_law_937 dL_law_938 ?_
  refine ql_sc 3 rfl (by omega) hL dL_law_939 dL_law_940 dL_law_941 dL_law_942 dL_law_943 ?_
  refine ql_callX (st := []) (av := [.int (xs (i + 1)), .int (xs (i + 2)), .int (xs (i + 3))]) kl_X8_kept (c_X8_kept h1) rfl rfl (fun _ => rfl) (fun _ => rfl) rfl (Nat.le_of_ble_eq_true rfl) dL_law_944 ?_
  refine ql_m dL_law_947 ?_
  refine ql_sc 1 rfl (by omega) hL dL_law_948 dL_law_949 dL_law_950 dL_law_951 dL_law_952 ?_
  refine ql_sc 2 rfl (by omega) hL dL_law_953 dL_law_954 dL_law_955 dL_law_956 dL_law_957 ?_
  refine ql_sc 3 rfl (by omega) hL dL_law_958 dL_law_959 dL_law_960 dL_law_961 dL_law_962 ?_
  refine ql_callM (st := [.long r]) (av := [.int (xs (i + 1)), .int (xs (i + 2)), .int (xs (i + 3))]) kl_X9_kept (c_X9_kept h2) rfl rfl (fun _ => rfl) (fun _ => rfl) rfl (Nat.le_of_ble_eq_true rfl) dL_law_963 ?_
  refine ql_sameL (tgt := 1503) dL_law_966 dL_law_967 rfl ?_
  exact kk σ' τ' h3
theorem ql_case_overlap {l : Launch} {G : qe_G} {b L : Nat} {xs : Nat → Int32} {adc adm : Nat → Nat} {i : Nat} {σ τ : qe_S} {R : qe_S → qe_S → Prop} (hi : i + 5 ≤ L) (hL : L ≤ 2560) (ho : ql_op_overlap R) (hR : R σ τ) (kk : ∀ σ τ, R σ τ → ql_L l G b L xs adc adm i 1503 [] σ τ) : ql_L l G b L xs adc adm i 972 [] σ τ := by
  obtain ⟨r, σ', τ', h1, h2, h3⟩ := ho (xs (i + 1)) (xs (i + 2)) σ τ hR
  refine ql_x dL_law_972 ?_
  refine ql_sc 1 rfl (by omega) hL dL_law_973 dL_law_974 dL_law_975 dL_law_976 dL_law_977 ?_
  refine ql_sc 2 rfl (by omega) hL dL_law_978 dL_law_979 dL_law_980 dL_law_981 dL_law_982 ?_
  refine ql_callX (st := []) (av := [.int (xs (i + 1)), .int (xs (i + 2))]) kl_X8_overlap (c_X8_overlap h1) rfl rfl (fun _ => rfl) (fun _ => rfl) rfl (Nat.le_of_ble_eq_true rfl) dL_law_983 ?_
  refine ql_m dL_law_986 ?_
  refine ql_sc 1 rfl (by omega) hL dL_law_987 dL_law_988 dL_law_989 dL_law_990 dL_law_991 ?_
  refine ql_sc 2 rfl (by omega) hL dL_law_992 dL_law_993 dL_law_994 dL_law_995 dL_law_996 ?_
  refine ql_callM (st := [.long r]) (av := [.int (xs (i + 1)), .int (xs (i + 2))]) kl_X9_overlap (c_X9_overlap h2) rfl rfl (fun _ => rfl) (fun _ => rfl) rfl (Nat.le_of_ble_eq_true rfl) dL_law_997 ?_
  refine ql_sameL (tgt := 1503) dL_law_1000 dL_law_1001 rfl ?_
  exact kk σ' τ' h3
theorem ql_case_shift {l : Launch} {G : qe_G} {b L : Nat} {xs : Nat → Int32} {adc adm : Nat → Nat} {i : Nat} {σ τ : qe_S} {R : qe_S → qe_S → Prop} (hi : i + 5 ≤ L) (hL : L ≤ 2560) (ho : ql_op_shift R) (hR : R σ τ) (kk : ∀ σ τ, R σ τ → ql_L l G b L xs adc adm i 1503 [] σ τ) : ql_L l G b L xs adc adm i 1006 [] σ τ := by
  obtain ⟨r, σ', τ', h1, h2, h3⟩ := ho (xs (i + 1)) σ τ hR
  refine ql_x dL_law_1006 ?_
  refine ql_sc 1 rfl (by omega) hL dL_law_1007 dL_law_1008 dL_law_1009 dL_law_1010 dL_law_1011 ?_
  refine ql_callX (st := []) (av := [.int (xs (i + 1))]) kl_X8_shift (c_X8_shift h1) rfl rfl (fun _ => rfl) (fun _ => rfl) rfl (Nat.le_of_ble_eq_true rfl) dL_law_1012 ?_
  refine ql_m dL_law_1015 ?_
  refine ql_sc 1 rfl (by omega) hL dL_law_1016 dL_law_1017 dL_law_1018 dL_law_1019 dL_law_1020 ?_
  refine ql_callM (st := [.int r]) (av := [.int (xs (i + 1))]) kl_X9_shift (c_X9_shift h2) rfl rfl (fun _ => rfl) (fun _ => rfl) rfl (Nat.le_of_ble_eq_true rfl) dL_law_1021 ?_
  refine ql_same (tgt := 1503) dL_law_1024 rfl ?_
  exact kk σ' τ' h3
theorem ql_case_replaced {l : Launch} {G : qe_G} {b L : Nat} {xs : Nat → Int32} {adc adm : Nat → Nat} {i : Nat} {σ τ : qe_S} {R : qe_S → qe_S → Prop} (hi : i + 5 ≤ L) (hL : L ≤ 2560) (ho : ql_op_replaced R) (hR : R σ τ) (kk : ∀ σ τ, R σ τ → ql_L l G b L xs adc adm i 1503 [] σ τ) : ql_L l G b L xs adc adm i 1029 [] σ τ := by
  obtain ⟨r, σ', τ', h1, h2, h3⟩ := ho (xs (i + 1)) (xs (i + 2)) σ τ hR
  refine ql_x dL_law_1029 ?_
  refine ql_sc 1 rfl (by omega) hL dL_law_1030 dL_law_1031 dL_law_1032 dL_law_1033 dL_law_1034 ?_
  refine ql_sc 2 rfl (by omega) hL dL_law_1035 dL_law_1036 dL_law_1037 dL_law_1038 dL_law_1039 ?_
  refine ql_callX (st := []) (av := [.int (xs (i + 1)), .int (xs (i + 2))]) kl_X8_replaced (c_X8_replaced h1) rfl rfl (fun _ => rfl) (fun _ => rfl) rfl (Nat.le_of_ble_eq_true rfl) dL_law_1040 ?_
  refine ql_m dL_law_1043 ?_
  refine ql_sc 1 rfl (by omega) hL dL_law_1044 dL_law_1045 dL_law_1046 dL_law_1047 dL_law_1048 ?_
  refine ql_sc 2 rfl (by omega) hL dL_law_1049 dL_law_1050 dL_law_1051 dL_law_1052 dL_law_1053 ?_
  refine ql_callM (st := [.int r]) (av := [.int (xs (i + 1)), .int (xs (i + 2))]) kl_X9_replaced (c_X9_replaced h2) rfl rfl (fun _ => rfl) (fun _ => rfl) rfl (Nat.le_of_ble_eq_true rfl) dL_law_1054 ?_
  refine ql_same (tgt := 1503) dL_law_1057 rfl ?_
  exact kk σ' τ' h3
theorem ql_case_substitute {l : Launch} {G : qe_G} {b L : Nat} {xs : Nat → Int32} {adc adm : Nat → Nat} {i : Nat} {σ τ : qe_S} {R : qe_S → qe_S → Prop} (hi : i + 5 ≤ L) (hL : L ≤ 2560) (ho : ql_op_substitute R) (hR : R σ τ) (kk : ∀ σ τ, R σ τ → ql_L l G b L xs adc adm i 1503 [] σ τ) : ql_L l G b L xs adc adm i 1062 [] σ τ := by
  obtain ⟨r, σ', τ', h1, h2, h3⟩ := ho (xs (i + 1)) (xs (i + 2)) (xs (i + 3)) σ τ hR
  refine ql_x dL_law_1062 ?_
  refine ql_sc 1 rfl (by omega) hL dL_law_1063 dL_law_1064 dL_law_1065 dL_law_1066 dL_law_1067 ?_
  refine ql_sc 2 rfl (by omega) hL dL_law_1068 dL_law_1069 dL_law_1070 dL_law_1071 dL_law_1072 ?_
  refine ql_sc 3 rfl (by omega) hL dL_law_1073 dL_law_1074 dL_law_1075 dL_law_1076 dL_law_1077 ?_
  refine ql_callX (st := []) (av := [.int (xs (i + 1)), .int (xs (i + 2)), .int (xs (i + 3))]) kl_X8_substitute (c_X8_substitute h1) rfl rfl (fun _ => rfl) (fun _ => rfl) rfl (Nat.le_of_ble_eq_true rfl) dL_law_1078 ?_
  refine ql_m dL_law_1081 ?_
  refine ql_sc 1 rfl (by omega) hL dL_law_1082 dL_law_1083 dL_law_1084 dL_law_1085 dL_law_1086 ?_
  refine ql_sc 2 rfl (by omega) hL dL_law_1087 dL_law_1088 dL_law_1089 dL_law_1090 dL_law_1091 ?_
  refine ql_sc 3 rfl (by omega) hL dL_law_1092 dL_law_1093 dL_law_1094 dL_law_1095 dL_law_1096 ?_
  refine ql_callM (st := [.int r]) (av := [.int (xs (i + 1)), .int (xs (i + 2)), .int (xs (i + 3))]) kl_X9_substitute (c_X9_substitute h2) rfl rfl (fun _ => rfl) (fun _ => rfl) rfl (Nat.le_of_ble_eq_true rfl) dL_law_1097 ?_
  refine ql_same (tgt := 1503) dL_law_1100 rfl ?_
  exact kk σ' τ' h3
theorem ql_case_finals {l : Launch} {G : qe_G} {b L : Nat} {xs : Nat → Int32} {adc adm : Nat → Nat} {i : Nat} {σ τ : qe_S} {R : qe_S → qe_S → Prop} (hi : i + 5 ≤ L) (hL : L ≤ 2560) (ho : ql_op_finals R) (hR : R σ τ) (kk : ∀ σ τ, R σ τ → ql_L l G b L xs adc adm i 1503 [] σ τ) : ql_L l G b L xs adc adm i 1105 [] σ τ := by
  obtain ⟨r, σ', τ', h1, h2, h3⟩ := ho (xs (i + 1)) (xs (i + 2)) (xs (i + 3)) σ τ hR
  refine ql_x dL_law_1105 ?_
  refine ql_sc 1 rfl (by omega) hL dL_law_1106 dL_law_1107 dL_law_1108 dL_law_1109 dL_law_1110 ?_
  refine ql_sc 2 rfl (by omega) hL dL_law_1111 dL_law_1112 dL_law_1113 dL_law_1114 dL_law_1115 ?_
  refine ql_sc 3 rfl (by omega) hL dL_law_1116 dL_law_1117 dL_law_1118 dL_law_1119 dL_law_1120 ?_
  refine ql_callX (st := []) (av := [.int (xs (i + 1)), .int (xs (i + 2)), .int (xs (i + 3))]) kl_X8_finals (c_X8_finals h1) rfl rfl (fun _ => rfl) (fun _ => rfl) rfl (Nat.le_of_ble_eq_true rfl) dL_law_1121 ?_
  refine ql_m dL_law_1124 ?_
  refine ql_sc 1 rfl (by omega) hL dL_law_1125 dL_law_1126 dL_law_1127 dL_law_1128 dL_law_1129 ?_
  refine ql_sc 2 rfl (by omega) hL dL_law_1130 dL_law_1131 dL_law_1132 dL_law_1133 dL_law_1134 ?_
  refine ql_sc 3 rfl (by omega) hL dL_law_1135 dL_law_1136 dL_law_1137 dL_law_1138 dL_law_1139 ?_
  refine ql_callM (st := [.long r]) (av := [.int (xs (i + 1)), .int (xs (i + 2)), .int (xs (i + 3))]) kl_X9_finals (c_X9_finals h2) rfl rfl (fun _ => rfl) (fun _ => rfl) rfl (Nat.le_of_ble_eq_true rfl) dL_law_1140 ?_
  refine ql_sameL (tgt := 1503) dL_law_1143 dL_law_1144 rfl ?_
  exact kk σ' τ' h3
theorem ql_case_drawn {l : Launch} {G : qe_G} {b L : Nat} {xs : Nat → Int32} {adc adm : Nat → Nat} {i : Nat} {σ τ : qe_S} {R : qe_S → qe_S → Prop} (hi : i + 5 ≤ L) (hL : L ≤ 2560) (ho : ql_op_drawn R) (hR : R σ τ) (kk : ∀ σ τ, R σ τ → ql_L l G b L xs adc adm i 1503 [] σ τ) : ql_L l G b L xs adc adm i 1149 [] σ τ := by
  obtain ⟨r, σ', τ', h1, h2, h3⟩ := ho (xs (i + 1)) (xs (i + 2)) (ql_lg (xs (i + 3)) (xs (i + 4))) σ τ hR
  refine ql_x dL_law_1149 ?_
  refine ql_sc 1 rfl (by omega) hL dL_law_1150 dL_law_1151 dL_law_1152 dL_law_1153 dL_law_1154 ?_
  refine ql_sc 2 rfl (by omega) hL dL_law_1155 dL_law_1156 dL_law_1157 dL_law_1158 dL_law_1159 ?_
  refine ql_sc 3 rfl (by omega) hL dL_law_1160 dL_law_1161 dL_law_1162 dL_law_1163 dL_law_1164 ?_
  refine ql_i2l dL_law_1165 ?_
  refine ql_bipush (v := nI 32) dL_law_1166 rfl ?_
  refine ql_lshl dL_law_1168 ?_
  refine ql_sc 4 rfl (by omega) hL dL_law_1169 dL_law_1170 dL_law_1171 dL_law_1172 dL_law_1173 ?_
  refine ql_i2l dL_law_1174 ?_
  refine ql_ldc2 kc_L_132 dL_law_1175 ?_
  refine ql_land dL_law_1178 ?_
  refine ql_lor dL_law_1179 ?_
  refine ql_callX (st := []) (av := [.int (xs (i + 1)), .int (xs (i + 2)), .long (ql_lg (xs (i + 3)) (xs (i + 4)))]) kl_X8_drawn (c_X8_drawn h1) rfl rfl (fun _ => rfl) (fun _ => rfl) rfl (Nat.le_of_ble_eq_true rfl) dL_law_1180 ?_
  refine ql_m dL_law_1183 ?_
  refine ql_sc 1 rfl (by omega) hL dL_law_1184 dL_law_1185 dL_law_1186 dL_law_1187 dL_law_1188 ?_
  refine ql_sc 2 rfl (by omega) hL dL_law_1189 dL_law_1190 dL_law_1191 dL_law_1192 dL_law_1193 ?_
  refine ql_sc 3 rfl (by omega) hL dL_law_1194 dL_law_1195 dL_law_1196 dL_law_1197 dL_law_1198 ?_
  refine ql_i2l dL_law_1199 ?_
  refine ql_bipush (v := nI 32) dL_law_1200 rfl ?_
  refine ql_lshl dL_law_1202 ?_
  refine ql_sc 4 rfl (by omega) hL dL_law_1203 dL_law_1204 dL_law_1205 dL_law_1206 dL_law_1207 ?_
  refine ql_i2l dL_law_1208 ?_
  refine ql_ldc2 kc_L_132 dL_law_1209 ?_
  refine ql_land dL_law_1212 ?_
  refine ql_lor dL_law_1213 ?_
  refine ql_callM (st := [.int r]) (av := [.int (xs (i + 1)), .int (xs (i + 2)), .long (ql_lg (xs (i + 3)) (xs (i + 4)))]) kl_X9_drawn (c_X9_drawn h2) rfl rfl (fun _ => rfl) (fun _ => rfl) rfl (Nat.le_of_ble_eq_true rfl) dL_law_1214 ?_
  refine ql_same (tgt := 1503) dL_law_1217 rfl ?_
  exact kk σ' τ' h3
theorem ql_case_feed {l : Launch} {G : qe_G} {b L : Nat} {xs : Nat → Int32} {adc adm : Nat → Nat} {i : Nat} {σ τ : qe_S} {R : qe_S → qe_S → Prop} (hi : i + 5 ≤ L) (hL : L ≤ 2560) (ho : ql_op_feed R) (hR : R σ τ) (kk : ∀ σ τ, R σ τ → ql_L l G b L xs adc adm i 1503 [] σ τ) : ql_L l G b L xs adc adm i 1222 [] σ τ := by
  obtain ⟨r, σ', τ', h1, h2, h3⟩ := ho (xs (i + 1)) σ τ hR
  refine ql_x dL_law_1222 ?_
  refine ql_sc 1 rfl (by omega) hL dL_law_1223 dL_law_1224 dL_law_1225 dL_law_1226 dL_law_1227 ?_
  refine ql_callX (st := []) (av := [.int (xs (i + 1))]) kl_X8_feed (c_X8_feed h1) rfl rfl (fun _ => rfl) (fun _ => rfl) rfl (Nat.le_of_ble_eq_true rfl) dL_law_1228 ?_
  refine ql_m dL_law_1231 ?_
  refine ql_sc 1 rfl (by omega) hL dL_law_1232 dL_law_1233 dL_law_1234 dL_law_1235 dL_law_1236 ?_
  refine ql_callM (st := [.int r]) (av := [.int (xs (i + 1))]) kl_X9_feed (c_X9_feed h2) rfl rfl (fun _ => rfl) (fun _ => rfl) rfl (Nat.le_of_ble_eq_true rfl) dL_law_1237 ?_
  refine ql_same (tgt := 1503) dL_law_1240 rfl ?_
  exact kk σ' τ' h3
theorem ql_case_tells {l : Launch} {G : qe_G} {b L : Nat} {xs : Nat → Int32} {adc adm : Nat → Nat} {i : Nat} {σ τ : qe_S} {R : qe_S → qe_S → Prop} (hi : i + 5 ≤ L) (hL : L ≤ 2560) (ho : ql_op_tells R) (hR : R σ τ) (kk : ∀ σ τ, R σ τ → ql_L l G b L xs adc adm i 1503 [] σ τ) : ql_L l G b L xs adc adm i 1245 [] σ τ := by
  obtain ⟨r, σ', τ', h1, h2, h3⟩ := ho  σ τ hR
  refine ql_x dL_law_1245 ?_
  refine ql_callX (st := []) (av := []) kl_X8_tells (c_X8_tells h1) rfl rfl (fun _ => rfl) (fun _ => rfl) rfl (Nat.le_of_ble_eq_true rfl) dL_law_1246 ?_
  refine ql_m dL_law_1249 ?_
  refine ql_callM (st := [.int r]) (av := []) kl_X9_tells (c_X9_tells h2) rfl rfl (fun _ => rfl) (fun _ => rfl) rfl (Nat.le_of_ble_eq_true rfl) dL_law_1250 ?_
  refine ql_same (tgt := 1503) dL_law_1253 rfl ?_
  exact kk σ' τ' h3
theorem ql_case_reason {l : Launch} {G : qe_G} {b L : Nat} {xs : Nat → Int32} {adc adm : Nat → Nat} {i : Nat} {σ τ : qe_S} {R : qe_S → qe_S → Prop} (hi : i + 5 ≤ L) (hL : L ≤ 2560) (ho : ql_op_reason R) (hR : R σ τ) (kk : ∀ σ τ, R σ τ → ql_L l G b L xs adc adm i 1503 [] σ τ) : ql_L l G b L xs adc adm i 1258 [] σ τ := by
  obtain ⟨r, σ', τ', h1, h2, h3⟩ := ho (xs (i + 1)) σ τ hR
  refine ql_x dL_law_1258 ?_
  refine ql_sc 1 rfl (by omega) hL dL_law_1259 dL_law_1260 dL_law_1261 dL_law_1262 dL_law_1263 ?_
  refine ql_callX (st := []) (av := [.int (xs (i + 1))]) kl_X8_reason (c_X8_reason h1) rfl rfl (fun _ => rfl) (fun _ => rfl) rfl (Nat.le_of_ble_eq_true rfl) dL_law_1264 ?_
  refine ql_m dL_law_1267 ?_
  refine ql_sc 1 rfl (by omega) hL dL_law_1268 dL_law_1269 dL_law_1270 dL_law_1271 dL_law_1272 ?_
  refine ql_callM (st := [.int r]) (av := [.int (xs (i + 1))]) kl_X9_reason (c_X9_reason h2) rfl rfl (fun _ => rfl) (fun _ => rfl) rfl (Nat.le_of_ble_eq_true rfl) dL_law_1273 ?_
  refine ql_same (tgt := 1503) dL_law_1276 rfl ?_
  exact kk σ' τ' h3
theorem ql_case_list {l : Launch} {G : qe_G} {b L : Nat} {xs : Nat → Int32} {adc adm : Nat → Nat} {i : Nat} {σ τ : qe_S} {R : qe_S → qe_S → Prop} (hi : i + 5 ≤ L) (hL : L ≤ 2560) (ho : ql_op_list R) (hR : R σ τ) (kk : ∀ σ τ, R σ τ → ql_L l G b L xs adc adm i 1503 [] σ τ) : ql_L l G b L xs adc adm i 1281 [] σ τ := by
  obtain ⟨r, σ', τ', h1, h2, h3⟩ := ho (xs (i + 1)) (xs (i + 2)) σ τ hR
  refine ql_x dL_law_1281 ?_
  refine ql_sc 1 rfl (by omega) hL dL_law_1282 dL_law_1283 dL_law_1284 dL_law_1285 dL_law_1286 ?_
  refine ql_sc 2 rfl (by omega) hL dL_law_1287 dL_law_1288 dL_law_1289 dL_law_1290 dL_law_1291 ?_
  refine ql_callX (st := []) (av := [.int (xs (i + 1)), .int (xs (i + 2))]) kl_X8_list (c_X8_list h1) rfl rfl (fun _ => rfl) (fun _ => rfl) rfl (Nat.le_of_ble_eq_true rfl) dL_law_1292 ?_
  refine ql_m dL_law_1295 ?_
  refine ql_sc 1 rfl (by omega) hL dL_law_1296 dL_law_1297 dL_law_1298 dL_law_1299 dL_law_1300 ?_
  refine ql_sc 2 rfl (by omega) hL dL_law_1301 dL_law_1302 dL_law_1303 dL_law_1304 dL_law_1305 ?_
  refine ql_callM (st := [.int r]) (av := [.int (xs (i + 1)), .int (xs (i + 2))]) kl_X9_list (c_X9_list h2) rfl rfl (fun _ => rfl) (fun _ => rfl) rfl (Nat.le_of_ble_eq_true rfl) dL_law_1306 ?_
  refine ql_same (tgt := 1503) dL_law_1309 rfl ?_
  exact kk σ' τ' h3
theorem ql_case_put {l : Launch} {G : qe_G} {b L : Nat} {xs : Nat → Int32} {adc adm : Nat → Nat} {i : Nat} {σ τ : qe_S} {R : qe_S → qe_S → Prop} (hi : i + 5 ≤ L) (hL : L ≤ 2560) (ho : ql_op_put R) (hR : R σ τ) (kk : ∀ σ τ, R σ τ → ql_L l G b L xs adc adm i 1503 [] σ τ) : ql_L l G b L xs adc adm i 1314 [] σ τ := by
  obtain ⟨r, σ', τ', h1, h2, h3⟩ := ho (xs (i + 1)) (xs (i + 2)) (ql_lg (xs (i + 3)) (xs (i + 4))) σ τ hR
  refine ql_x dL_law_1314 ?_
  refine ql_sc 1 rfl (by omega) hL dL_law_1315 dL_law_1316 dL_law_1317 dL_law_1318 dL_law_1319 ?_
  refine ql_sc 2 rfl (by omega) hL dL_law_1320 dL_law_1321 dL_law_1322 dL_law_1323 dL_law_1324 ?_
  refine ql_sc 3 rfl (by omega) hL dL_law_1325 dL_law_1326 dL_law_1327 dL_law_1328 dL_law_1329 ?_
  refine ql_i2l dL_law_1330 ?_
  refine ql_bipush (v := nI 32) dL_law_1331 rfl ?_
  refine ql_lshl dL_law_1333 ?_
  refine ql_sc 4 rfl (by omega) hL dL_law_1334 dL_law_1335 dL_law_1336 dL_law_1337 dL_law_1338 ?_
  refine ql_i2l dL_law_1339 ?_
  refine ql_ldc2 kc_L_132 dL_law_1340 ?_
  refine ql_land dL_law_1343 ?_
  refine ql_lor dL_law_1344 ?_
  refine ql_callX (st := []) (av := [.int (xs (i + 1)), .int (xs (i + 2)), .long (ql_lg (xs (i + 3)) (xs (i + 4)))]) kl_X8_put (c_X8_put h1) rfl rfl (fun _ => rfl) (fun _ => rfl) rfl (Nat.le_of_ble_eq_true rfl) dL_law_1345 ?_
  refine ql_m dL_law_1348 ?_
  refine ql_sc 1 rfl (by omega) hL dL_law_1349 dL_law_1350 dL_law_1351 dL_law_1352 dL_law_1353 ?_
  refine ql_sc 2 rfl (by omega) hL dL_law_1354 dL_law_1355 dL_law_1356 dL_law_1357 dL_law_1358 ?_
  refine ql_sc 3 rfl (by omega) hL dL_law_1359 dL_law_1360 dL_law_1361 dL_law_1362 dL_law_1363 ?_
  refine ql_i2l dL_law_1364 ?_
  refine ql_bipush (v := nI 32) dL_law_1365 rfl ?_
  refine ql_lshl dL_law_1367 ?_
  refine ql_sc 4 rfl (by omega) hL dL_law_1368 dL_law_1369 dL_law_1370 dL_law_1371 dL_law_1372 ?_
  refine ql_i2l dL_law_1373 ?_
  refine ql_ldc2 kc_L_132 dL_law_1374 ?_
  refine ql_land dL_law_1377 ?_
  refine ql_lor dL_law_1378 ?_
  refine ql_callM (st := [.int r]) (av := [.int (xs (i + 1)), .int (xs (i + 2)), .long (ql_lg (xs (i + 3)) (xs (i + 4)))]) kl_X9_put (c_X9_put h2) rfl rfl (fun _ => rfl) (fun _ => rfl) rfl (Nat.le_of_ble_eq_true rfl) dL_law_1379 ?_
  refine ql_same (tgt := 1503) dL_law_1382 rfl ?_
  exact kk σ' τ' h3
theorem ql_case_look {l : Launch} {G : qe_G} {b L : Nat} {xs : Nat → Int32} {adc adm : Nat → Nat} {i : Nat} {σ τ : qe_S} {R : qe_S → qe_S → Prop} (hi : i + 5 ≤ L) (hL : L ≤ 2560) (ho : ql_op_look R) (hR : R σ τ) (kk : ∀ σ τ, R σ τ → ql_L l G b L xs adc adm i 1503 [] σ τ) : ql_L l G b L xs adc adm i 1387 [] σ τ := by
  obtain ⟨r, σ', τ', h1, h2, h3⟩ := ho (xs (i + 1)) (xs (i + 2)) σ τ hR
  refine ql_x dL_law_1387 ?_
  refine ql_sc 1 rfl (by omega) hL dL_law_1388 dL_law_1389 dL_law_1390 dL_law_1391 dL_law_1392 ?_
  refine ql_sc 2 rfl (by omega) hL dL_law_1393 dL_law_1394 dL_law_1395 dL_law_1396 dL_law_1397 ?_
  refine ql_callX (st := []) (av := [.int (xs (i + 1)), .int (xs (i + 2))]) kl_X8_look (c_X8_look h1) rfl rfl (fun _ => rfl) (fun _ => rfl) rfl (Nat.le_of_ble_eq_true rfl) dL_law_1398 ?_
  refine ql_m dL_law_1401 ?_
  refine ql_sc 1 rfl (by omega) hL dL_law_1402 dL_law_1403 dL_law_1404 dL_law_1405 dL_law_1406 ?_
  refine ql_sc 2 rfl (by omega) hL dL_law_1407 dL_law_1408 dL_law_1409 dL_law_1410 dL_law_1411 ?_
  refine ql_callM (st := [.long r]) (av := [.int (xs (i + 1)), .int (xs (i + 2))]) kl_X9_look (c_X9_look h2) rfl rfl (fun _ => rfl) (fun _ => rfl) rfl (Nat.le_of_ble_eq_true rfl) dL_law_1412 ?_
  refine ql_sameL (tgt := 1503) dL_law_1415 dL_law_1416 rfl ?_
  exact kk σ' τ' h3
theorem ql_case_judge {l : Launch} {G : qe_G} {b L : Nat} {xs : Nat → Int32} {adc adm : Nat → Nat} {i : Nat} {σ τ : qe_S} {R : qe_S → qe_S → Prop} (hi : i + 5 ≤ L) (hL : L ≤ 2560) (ho : ql_op_judge R) (hR : R σ τ) (kk : ∀ σ τ, R σ τ → ql_L l G b L xs adc adm i 1503 [] σ τ) : ql_L l G b L xs adc adm i 1421 [] σ τ := by
  obtain ⟨r, σ', τ', h1, h2, h3⟩ := ho (xs (i + 1)) (xs (i + 2)) σ τ hR
  refine ql_x dL_law_1421 ?_
  refine ql_sc 1 rfl (by omega) hL dL_law_1422 dL_law_1423 dL_law_1424 dL_law_1425 dL_law_1426 ?_
  refine ql_sc 2 rfl (by omega) hL dL_law_1427 dL_law_1428 dL_law_1429 dL_law_1430 dL_law_1431 ?_
  refine ql_callX (st := []) (av := [.int (xs (i + 1)), .int (xs (i + 2))]) kl_X8_judge (c_X8_judge h1) rfl rfl (fun _ => rfl) (fun _ => rfl) rfl (Nat.le_of_ble_eq_true rfl) dL_law_1432 ?_
  refine ql_m dL_law_1435 ?_
  refine ql_sc 1 rfl (by omega) hL dL_law_1436 dL_law_1437 dL_law_1438 dL_law_1439 dL_law_1440 ?_
  refine ql_sc 2 rfl (by omega) hL dL_law_1441 dL_law_1442 dL_law_1443 dL_law_1444 dL_law_1445 ?_
  refine ql_callM (st := [.int r]) (av := [.int (xs (i + 1)), .int (xs (i + 2))]) kl_X9_judge (c_X9_judge h2) rfl rfl (fun _ => rfl) (fun _ => rfl) rfl (Nat.le_of_ble_eq_true rfl) dL_law_1446 ?_
  refine ql_same (tgt := 1503) dL_law_1449 rfl ?_
  exact kk σ' τ' h3
theorem ql_case_image {l : Launch} {G : qe_G} {b L : Nat} {xs : Nat → Int32} {adc adm : Nat → Nat} {i : Nat} {σ τ : qe_S} {R : qe_S → qe_S → Prop} (hi : i + 5 ≤ L) (hL : L ≤ 2560) (ho : ql_op_image R) (hR : R σ τ) (kk : ∀ σ τ, R σ τ → ql_L l G b L xs adc adm i 1503 [] σ τ) : ql_L l G b L xs adc adm i 1454 [] σ τ := by
  obtain ⟨r, σ', τ', h1, h2, h3⟩ := ho  σ τ hR
  refine ql_x dL_law_1454 ?_
  refine ql_callX (st := []) (av := []) kl_X8_image (c_X8_image h1) rfl rfl (fun _ => rfl) (fun _ => rfl) rfl (Nat.le_of_ble_eq_true rfl) dL_law_1455 ?_
  refine ql_m dL_law_1458 ?_
  refine ql_callM (st := [.int r]) (av := []) kl_X9_image (c_X9_image h2) rfl rfl (fun _ => rfl) (fun _ => rfl) rfl (Nat.le_of_ble_eq_true rfl) dL_law_1459 ?_
  refine ql_same (tgt := 1503) dL_law_1462 rfl ?_
  exact kk σ' τ' h3
theorem ql_case_undo {l : Launch} {G : qe_G} {b L : Nat} {xs : Nat → Int32} {adc adm : Nat → Nat} {i : Nat} {σ τ : qe_S} {R : qe_S → qe_S → Prop} (hi : i + 5 ≤ L) (hL : L ≤ 2560) (ho : ql_op_undo R) (hR : R σ τ) (kk : ∀ σ τ, R σ τ → ql_L l G b L xs adc adm i 1503 [] σ τ) : ql_L l G b L xs adc adm i 1467 [] σ τ := by
  obtain ⟨r, σ', τ', h1, h2, h3⟩ := ho  σ τ hR
  refine ql_x dL_law_1467 ?_
  refine ql_callX (st := []) (av := []) kl_X8_undo (c_X8_undo h1) rfl rfl (fun _ => rfl) (fun _ => rfl) rfl (Nat.le_of_ble_eq_true rfl) dL_law_1468 ?_
  refine ql_m dL_law_1471 ?_
  refine ql_callM (st := [.int r]) (av := []) kl_X9_undo (c_X9_undo h2) rfl rfl (fun _ => rfl) (fun _ => rfl) rfl (Nat.le_of_ble_eq_true rfl) dL_law_1472 ?_
  refine ql_same (tgt := 1503) dL_law_1475 rfl ?_
  exact kk σ' τ' h3
theorem ql_case_count {l : Launch} {G : qe_G} {b L : Nat} {xs : Nat → Int32} {adc adm : Nat → Nat} {i : Nat} {σ τ : qe_S} {R : qe_S → qe_S → Prop} (hi : i + 5 ≤ L) (hL : L ≤ 2560) (ho : ql_op_count R) (hR : R σ τ) (kk : ∀ σ τ, R σ τ → ql_L l G b L xs adc adm i 1503 [] σ τ) : ql_L l G b L xs adc adm i 1480 [] σ τ := by
  obtain ⟨r, σ', τ', h1, h2, h3⟩ := ho (xs (i + 1)) σ τ hR
  refine ql_x dL_law_1480 ?_
  refine ql_sc 1 rfl (by omega) hL dL_law_1481 dL_law_1482 dL_law_1483 dL_law_1484 dL_law_1485 ?_
  refine ql_callX (st := []) (av := [.int (xs (i + 1))]) kl_X8_count (c_X8_count h1) rfl rfl (fun _ => rfl) (fun _ => rfl) rfl (Nat.le_of_ble_eq_true rfl) dL_law_1486 ?_
  refine ql_m dL_law_1489 ?_
  refine ql_sc 1 rfl (by omega) hL dL_law_1490 dL_law_1491 dL_law_1492 dL_law_1493 dL_law_1494 ?_
  refine ql_callM (st := [.int r]) (av := [.int (xs (i + 1))]) kl_X9_count (c_X9_count h2) rfl rfl (fun _ => rfl) (fun _ => rfl) rfl (Nat.le_of_ble_eq_true rfl) dL_law_1495 ?_
  refine ql_same (tgt := 1503) dL_law_1498 rfl ?_
  exact kk σ' τ' h3
set_option maxHeartbeats 4000000 in
theorem ql_body {l : Launch} {G : qe_G} {b L : Nat} {xs : Nat → Int32} {adc adm : Nat → Nat} {i : Nat} {σ τ : qe_S} {R : qe_S → qe_S → Prop} (hi : i + 5 ≤ L) (hL : L ≤ 2560) (h_unit : ql_op_unit R) (h_odds : ql_op_odds R) (h_set : ql_op_set R) (h_mark : ql_op_mark R) (h_of : ql_op_of R) (h_fraction : ql_op_fraction R) (h_order : ql_op_order R) (h_at : ql_op_at R) (h_swap : ql_op_swap R) (h_common : ql_op_common R) (h_parts : ql_op_parts R) (h_size : ql_op_size R) (h_chosen : ql_op_chosen R) (h_run : ql_op_run R) (h_joint : ql_op_joint R) (h_joints : ql_op_joints R) (h_fair : ql_op_fair R) (h_estimate : ql_op_estimate R) (h_mean : ql_op_mean R) (h_spread : ql_op_spread R) (h_twice : ql_op_twice R) (h_both : ql_op_both R) (h_kept : ql_op_kept R) (h_overlap : ql_op_overlap R) (h_shift : ql_op_shift R) (h_replaced : ql_op_replaced R) (h_substitute : ql_op_substitute R) (h_finals : ql_op_finals R) (h_drawn : ql_op_drawn R) (h_feed : ql_op_feed R) (h_tells : ql_op_tells R) (h_reason : ql_op_reason R) (h_list : ql_op_list R) (h_put : ql_op_put R) (h_look : ql_op_look R) (h_judge : ql_op_judge R) (h_image : ql_op_image R) (h_undo : ql_op_undo R) (h_count : ql_op_count R) (hR : R σ τ) (kk : ∀ σ τ, R σ τ → ql_L l G b L xs adc adm i 1503 [] σ τ) : ql_L l G b L xs adc adm i 26 [] σ τ := by
  refine ql_sc0 (by omega) hL dL_law_26 dL_law_27 dL_law_28 ?_
  refine ql_bipush (v := nI 63) dL_law_29 rfl ?_
  refine ql_iand dL_law_31 ?_
  refine ql_tin (v := (0 : Int32)) (tgt := 204) dL_law_32 (by decide) (by decide) rfl rfl (ql_case_unit hi hL h_unit hR kk) (fun c0 => ?_)
  refine ql_tin (v := (1 : Int32)) (tgt := 257) dL_law_32 (by decide) (by decide) rfl rfl (ql_case_odds hi hL h_odds hR kk) (fun c1 => ?_)
  refine ql_tin (v := (nI 2)) (tgt := 310) dL_law_32 (by decide) (by decide) rfl rfl (ql_case_set hi hL h_set hR kk) (fun c2 => ?_)
  refine ql_tin (v := (nI 3)) (tgt := 353) dL_law_32 (by decide) (by decide) rfl rfl (ql_case_mark hi hL h_mark hR kk) (fun c3 => ?_)
  refine ql_tin (v := (nI 4)) (tgt := 386) dL_law_32 (by decide) (by decide) rfl rfl (ql_case_of hi hL h_of hR kk) (fun c4 => ?_)
  refine ql_tin (v := (nI 5)) (tgt := 420) dL_law_32 (by decide) (by decide) rfl rfl (ql_case_fraction hi hL h_fraction hR kk) (fun c5 => ?_)
  refine ql_tin (v := (nI 6)) (tgt := 464) dL_law_32 (by decide) (by decide) rfl rfl (ql_case_order hi hL h_order hR kk) (fun c6 => ?_)
  refine ql_tin (v := (nI 7)) (tgt := 487) dL_law_32 (by decide) (by decide) rfl rfl (ql_case_at hi hL h_at hR kk) (fun c7 => ?_)
  refine ql_tin (v := (nI 8)) (tgt := 510) dL_law_32 (by decide) (by decide) rfl rfl (ql_case_swap hi hL h_swap hR kk) (fun c8 => ?_)
  refine ql_tin (v := (nI 9)) (tgt := 543) dL_law_32 (by decide) (by decide) rfl rfl (ql_case_common hi hL h_common hR kk) (fun c9 => ?_)
  refine ql_tin (v := (nI 10)) (tgt := 566) dL_law_32 (by decide) (by decide) rfl rfl (ql_case_parts hi hL h_parts hR kk) (fun c10 => ?_)
  refine ql_tin (v := (nI 11)) (tgt := 589) dL_law_32 (by decide) (by decide) rfl rfl (ql_case_size hi hL h_size hR kk) (fun c11 => ?_)
  refine ql_tin (v := (nI 12)) (tgt := 612) dL_law_32 (by decide) (by decide) rfl rfl (ql_case_chosen hi hL h_chosen hR kk) (fun c12 => ?_)
  refine ql_tin (v := (nI 13)) (tgt := 635) dL_law_32 (by decide) (by decide) rfl rfl (ql_case_run hi hL h_run hR kk) (fun c13 => ?_)
  refine ql_tin (v := (nI 14)) (tgt := 668) dL_law_32 (by decide) (by decide) rfl rfl (ql_case_joint hi hL h_joint hR kk) (fun c14 => ?_)
  refine ql_tin (v := (nI 15)) (tgt := 712) dL_law_32 (by decide) (by decide) rfl rfl (ql_case_joints hi hL h_joints hR kk) (fun c15 => ?_)
  refine ql_tin (v := (nI 16)) (tgt := 746) dL_law_32 (by decide) (by decide) rfl rfl (ql_case_fair hi hL h_fair hR kk) (fun c16 => ?_)
  refine ql_tin (v := (nI 17)) (tgt := 769) dL_law_32 (by decide) (by decide) rfl rfl (ql_case_estimate hi hL h_estimate hR kk) (fun c17 => ?_)
  refine ql_tin (v := (nI 18)) (tgt := 803) dL_law_32 (by decide) (by decide) rfl rfl (ql_case_mean hi hL h_mean hR kk) (fun c18 => ?_)
  refine ql_tin (v := (nI 19)) (tgt := 827) dL_law_32 (by decide) (by decide) rfl rfl (ql_case_spread hi hL h_spread hR kk) (fun c19 => ?_)
  refine ql_tin (v := (nI 20)) (tgt := 851) dL_law_32 (by decide) (by decide) rfl rfl (ql_case_twice hi hL h_twice hR kk) (fun c20 => ?_)
  refine ql_tin (v := (nI 21)) (tgt := 884) dL_law_32 (by decide) (by decide) rfl rfl (ql_case_both hi hL h_both hR kk) (fun c21 => ?_)
  refine ql_tin (v := (nI 22)) (tgt := 928) dL_law_32 (by decide) (by decide) rfl rfl (ql_case_kept hi hL h_kept hR kk) (fun c22 => ?_)
  refine ql_tin (v := (nI 23)) (tgt := 972) dL_law_32 (by decide) (by decide) rfl rfl (ql_case_overlap hi hL h_overlap hR kk) (fun c23 => ?_)
  refine ql_tin (v := (nI 24)) (tgt := 1006) dL_law_32 (by decide) (by decide) rfl rfl (ql_case_shift hi hL h_shift hR kk) (fun c24 => ?_)
  refine ql_tin (v := (nI 25)) (tgt := 1029) dL_law_32 (by decide) (by decide) rfl rfl (ql_case_replaced hi hL h_replaced hR kk) (fun c25 => ?_)
  refine ql_tin (v := (nI 26)) (tgt := 1062) dL_law_32 (by decide) (by decide) rfl rfl (ql_case_substitute hi hL h_substitute hR kk) (fun c26 => ?_)
  refine ql_tin (v := (nI 27)) (tgt := 1105) dL_law_32 (by decide) (by decide) rfl rfl (ql_case_finals hi hL h_finals hR kk) (fun c27 => ?_)
  refine ql_tin (v := (nI 28)) (tgt := 1149) dL_law_32 (by decide) (by decide) rfl rfl (ql_case_drawn hi hL h_drawn hR kk) (fun c28 => ?_)
  refine ql_tin (v := (nI 29)) (tgt := 1222) dL_law_32 (by decide) (by decide) rfl rfl (ql_case_feed hi hL h_feed hR kk) (fun c29 => ?_)
  refine ql_tin (v := (nI 30)) (tgt := 1245) dL_law_32 (by decide) (by decide) rfl rfl (ql_case_tells hi hL h_tells hR kk) (fun c30 => ?_)
  refine ql_tin (v := (nI 31)) (tgt := 1258) dL_law_32 (by decide) (by decide) rfl rfl (ql_case_reason hi hL h_reason hR kk) (fun c31 => ?_)
  refine ql_tin (v := (nI 32)) (tgt := 1281) dL_law_32 (by decide) (by decide) rfl rfl (ql_case_list hi hL h_list hR kk) (fun c32 => ?_)
  refine ql_tin (v := (nI 33)) (tgt := 1314) dL_law_32 (by decide) (by decide) rfl rfl (ql_case_put hi hL h_put hR kk) (fun c33 => ?_)
  refine ql_tin (v := (nI 34)) (tgt := 1387) dL_law_32 (by decide) (by decide) rfl rfl (ql_case_look hi hL h_look hR kk) (fun c34 => ?_)
  refine ql_tin (v := (nI 35)) (tgt := 1421) dL_law_32 (by decide) (by decide) rfl rfl (ql_case_judge hi hL h_judge hR kk) (fun c35 => ?_)
  refine ql_tin (v := (nI 36)) (tgt := 1454) dL_law_32 (by decide) (by decide) rfl rfl (ql_case_image hi hL h_image hR kk) (fun c36 => ?_)
  refine ql_tin (v := (nI 37)) (tgt := 1467) dL_law_32 (by decide) (by decide) rfl rfl (ql_case_undo hi hL h_undo hR kk) (fun c37 => ?_)
  refine ql_tin (v := (nI 38)) (tgt := 1480) dL_law_32 (by decide) (by decide) rfl rfl (ql_case_count hi hL h_count hR kk) (fun c38 => ?_)
  refine ql_tout (tgt := 1503) 39 dL_law_32 (by decide) (fun k hk => match k, hk with | 0, _ => c0 | 1, _ => c1 | 2, _ => c2 | 3, _ => c3 | 4, _ => c4 | 5, _ => c5 | 6, _ => c6 | 7, _ => c7 | 8, _ => c8 | 9, _ => c9 | 10, _ => c10 | 11, _ => c11 | 12, _ => c12 | 13, _ => c13 | 14, _ => c14 | 15, _ => c15 | 16, _ => c16 | 17, _ => c17 | 18, _ => c18 | 19, _ => c19 | 20, _ => c20 | 21, _ => c21 | 22, _ => c22 | 23, _ => c23 | 24, _ => c24 | 25, _ => c25 | 26, _ => c26 | 27, _ => c27 | 28, _ => c28 | 29, _ => c29 | 30, _ => c30 | 31, _ => c31 | 32, _ => c32 | 33, _ => c33 | 34, _ => c34 | 35, _ => c35 | 36, _ => c36 | 37, _ => c37 | 38, _ => c38 | k + 39, hk => absurd hk (by omega)) rfl ?_
  exact kk σ τ hR
set_option maxHeartbeats 4000000 in
theorem ql_loop {l : Launch} {G : qe_G} {b L : Nat} {xs : Nat → Int32} {adc adm : Nat → Nat} {R : qe_S → qe_S → Prop} (hL : L ≤ 2560) (h_unit : ql_op_unit R) (h_odds : ql_op_odds R) (h_set : ql_op_set R) (h_mark : ql_op_mark R) (h_of : ql_op_of R) (h_fraction : ql_op_fraction R) (h_order : ql_op_order R) (h_at : ql_op_at R) (h_swap : ql_op_swap R) (h_common : ql_op_common R) (h_parts : ql_op_parts R) (h_size : ql_op_size R) (h_chosen : ql_op_chosen R) (h_run : ql_op_run R) (h_joint : ql_op_joint R) (h_joints : ql_op_joints R) (h_fair : ql_op_fair R) (h_estimate : ql_op_estimate R) (h_mean : ql_op_mean R) (h_spread : ql_op_spread R) (h_twice : ql_op_twice R) (h_both : ql_op_both R) (h_kept : ql_op_kept R) (h_overlap : ql_op_overlap R) (h_shift : ql_op_shift R) (h_replaced : ql_op_replaced R) (h_substitute : ql_op_substitute R) (h_finals : ql_op_finals R) (h_drawn : ql_op_drawn R) (h_feed : ql_op_feed R) (h_tells : ql_op_tells R) (h_reason : ql_op_reason R) (h_list : ql_op_list R) (h_put : ql_op_put R) (h_look : ql_op_look R) (h_judge : ql_op_judge R) (h_image : ql_op_image R) (h_undo : ql_op_undo R) (h_count : ql_op_count R) : ∀ (n i : Nat) (σ τ : qe_S), i ≤ L → L < i + n → R σ τ → ql_L l G b L xs adc adm i 18 [] σ τ := by
  intro n
  induction n with
  | zero => intro i σ τ h1 h2; omega
  | succ n ih =>
    intro i σ τ hiL hin hR p e s m below meth c H locs ls hB hPc hPm hD hS hls
    obtain ⟨hx, hb, hr, hml, hown, hts, hX0, hbl, hlocks, hgv⟩ := hB.1
    refine lv_iload_n hx hb dL_law_18 rfl (lv_at hls 3 rfl) ?_
    refine lv_aload_n hx hb dL_law_19 rfl (lv_at hls 0 rfl) ?_
    refine va_slen hx hb hX0 hbl (Nat.not_le.mpr hbl) hS dL_law_20 ?_
    refine lv_iconst (v := nI 5) hx hb dL_law_21 rfl ?_
    refine lv_isub hx hb dL_law_22 ?_
    have hs : (Int32.ofNat L - nI 5).toInt = (L : Int) - 5 := pk_sub_toInt (a := L) (b := 5) (by omega) (by omega)
    refine lv_icmp_gt (tgt := 1509) hx hb dL_law_23 rfl (fun z => ?_) (fun z => ?_)
    · refine lv_iconst (v := 1) hx hb dL_law_1509 rfl ?_
      refine va_forget (fun q hq => hS.2.2 q hq) ?_
      refine W.widen (k := 600000) (n := 7302250) (by decide) (by decide) ?_
      exact lw_ret hx hb hr hlocks dL_law_1510
    · have h5 : i + 5 ≤ L := by
        have z := Int32.not_lt.mp z
        rw [Int32.le_iff_toInt_le, hs, nI_toInt (by omega)] at z
        omega
      refine ql_body (l := l) (G := G) (b := b) (L := L) (xs := xs) (adc := adc) (adm := adm) (i := i) (R := R) h5 hL h_unit h_odds h_set h_mark h_of h_fraction h_order h_at h_swap h_common h_parts h_size h_chosen h_run h_joint h_joints h_fair h_estimate h_mean h_spread h_twice h_both h_kept h_overlap h_shift h_replaced h_substitute h_finals h_drawn h_feed h_tells h_reason h_list h_put h_look h_judge h_image h_undo h_count hR (fun σ τ hR => ?_) p e s m below meth c H locs ls hB hPc hPm hD hS hls
      intro p e s m below meth c H locs ls hB hPc hPm hD hS hls
      obtain ⟨hx, hb, hr, hml, hown, hts, hX0, hbl, hlocks, hgv⟩ := hB.1
      refine lv_iinc (v := nI (i + 5)) (lv' := [(3, .int (nI (i + 5))), (0, .ref b), (1, .ref (adc 0)), (2, .ref (adm 0))]) hx hb dL_law_1503 hls (k := 3) rfl (nI_add i 5) (by decide) rfl (fun ls hls => ?_)
      refine lv_goto (tgt := 18) hx hb dL_law_1506 rfl ?_
      exact ih (i + 5) σ τ h5 (by omega) hR p e s m below meth c H locs ls hB hPc hPm hD hS (lv_sub hls [1, 2, 3, 0] rfl)
