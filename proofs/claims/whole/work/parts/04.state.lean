/-! THE STATE: a world's ints and longs as two functions of cell and place over a template; the rules of fields and arrays over it; String constants -/
def qs_f (σ : qe_S) (k : Nat) : Nat → List Value → List Value
  | _, [] => []
  | j, v :: l => (match v with
    | .int _ => .int (σ.1 k j)
    | .long _ => .long (σ.2 k j)
    | v => v) :: qs_f σ k (j + 1) l
def qs_e (σ : qe_S) (k : Nat) (e : va_E) : va_E := match e with
  | .inl (c, n, .inl _) => .inl (c, n, .inl (σ.1 k))
  | .inl (c, n, .inr (.inl _)) => .inl (c, n, .inr (.inl (σ.2 k)))
  | .inl x => .inl x
  | .inr (ci, fs) => .inr (ci, qs_f σ k 0 fs)
def qs_c (σ : qe_S) : Nat → List va_E → List va_E
  | _, [] => []
  | k, e :: l => qs_e σ k e :: qs_c σ (k + 1) l
abbrev qs_w (σ : qe_S) (T : List va_E) : List va_E := qs_c σ 0 T
theorem qs_c_get (σ : qe_S) : ∀ (T : List va_E) (i k : Nat), (qs_c σ i T)[k]? = (T[k]?).map (qs_e σ (i + k)) := by
  intro T
  induction T with
  | nil => intro i k; simp [qs_c]
  | cons e l ih =>
    intro i k
    cases k with
    | zero => simp [qs_c]
    | succ k => simp only [qs_c, List.getElem?_cons_succ, ih]; rw [show i + 1 + k = i + (k + 1) by omega]
theorem qs_c_len (σ : qe_S) : ∀ (T : List va_E) (i : Nat), (qs_c σ i T).length = T.length := by
  intro T
  induction T with
  | nil => intro i; rfl
  | cons e l ih => intro i; simp [qs_c, ih]
theorem qs_at {σ : qe_S} {T : List va_E} {k : Nat} {e : va_E} (h : T[k]? = some e) : (qs_w σ T)[k]? = some (qs_e σ k e) := by
  rw [qs_w, qs_c_get, h]; simp
theorem qs_f_get (σ : qe_S) (k : Nat) : ∀ (fs : List Value) (i j : Nat), (qs_f σ k i fs)[j]? = (fs[j]?).map (fun v => match v with
    | .int _ => .int (σ.1 k (i + j))
    | .long _ => .long (σ.2 k (i + j))
    | v => v) := by
  intro fs
  induction fs with
  | nil => intro i j; simp [qs_f]
  | cons v l ih =>
    intro i j
    cases j with
    | zero => simp [qs_f]
    | succ j => simp only [qs_f, List.getElem?_cons_succ, ih]; rw [show i + 1 + j = i + (j + 1) by omega]
theorem qs_f_len (σ : qe_S) (k : Nat) : ∀ (fs : List Value) (i : Nat), (qs_f σ k i fs).length = fs.length := by
  intro fs
  induction fs with
  | nil => intro i; rfl
  | cons v l ih => intro i; simp [qs_f, ih]
theorem qs_f_congr {σ τ : qe_S} {k : Nat} (h1 : σ.1 k = τ.1 k) (h2 : σ.2 k = τ.2 k) : ∀ (fs : List Value) (i : Nat), qs_f σ k i fs = qs_f τ k i fs := by
  intro fs
  induction fs with
  | nil => intro i; rfl
  | cons v l ih => intro i; simp only [qs_f, ih, h1, h2]
theorem qs_e_congr {σ τ : qe_S} {k : Nat} (h1 : σ.1 k = τ.1 k) (h2 : σ.2 k = τ.2 k) (e : va_E) : qs_e σ k e = qs_e τ k e := by
  unfold qs_e
  split
  · rw [h1]
  · rw [h2]
  · rfl
  · rw [qs_f_congr h1 h2]
theorem qs_set {σ τ : qe_S} {T : List va_E} {k : Nat} {e e' : va_E} (hT : T[k]? = some e) (he : qs_e τ k e = e') (h1 : ∀ a, a ≠ k → τ.1 a = σ.1 a) (h2 : ∀ a, a ≠ k → τ.2 a = σ.2 a) : (qs_w σ T).set k e' = qs_w τ T := by
  apply List.ext_getElem?
  intro a
  rw [List.getElem?_set, qs_w, qs_c_get, qs_w, qs_c_get, qs_c_len]
  by_cases h : k = a
  · subst h
    have hk : k < T.length := (List.getElem?_eq_some_iff.mp hT).1
    simp only [hT, hk, if_true, Option.map_some, Nat.zero_add, he]
  · rw [if_neg h]
    cases T[a]? with
    | none => rfl
    | some x => simp only [Option.map_some, Nat.zero_add]; rw [qs_e_congr (h1 a (Ne.symm h)) (h2 a (Ne.symm h))]
theorem qs_si_ne {σ : qe_S} {k j : Nat} {x : Int32} (a : Nat) (h : a ≠ k) : (qe_si σ k j x).1 a = σ.1 a := by
  funext b; simp [qe_si, h]
theorem qs_sl_ne {σ : qe_S} {k j : Nat} {x : Int64} (a : Nat) (h : a ≠ k) : (qe_sl σ k j x).2 a = σ.2 a := by
  funext b; simp [qe_sl, h]
theorem qs_si_self {σ : qe_S} {k j : Nat} {x : Int32} : (qe_si σ k j x).1 k = upd (σ.1 k) j x := by
  funext b; simp [qe_si, upd]
theorem qs_sl_self {σ : qe_S} {k j : Nat} {x : Int64} : (qe_sl σ k j x).2 k = vp_updL (σ.2 k) j x := by
  funext b; simp [qe_sl, vp_updL]
theorem qs_setI {σ : qe_S} {T : List va_E} {k ci j : Nat} {fs : List Value} {z x : Int32} (hT : T[k]? = some (.inr (ci, fs))) (hv : fs[j]? = some (.int z)) : (qs_w σ T).set k (.inr (ci, (qs_f σ k 0 fs).set j (.int x))) = qs_w (qe_si σ k j x) T := by
  refine qs_set hT ?_ (fun a h => qs_si_ne a h) (fun a _ => rfl)
  show Sum.inr (ci, qs_f (qe_si σ k j x) k 0 fs) = _
  congr 2
  apply List.ext_getElem?
  intro a
  rw [List.getElem?_set, qs_f_get, qs_f_get, qs_f_len]
  by_cases h : j = a
  · subst h
    have hk : j < fs.length := (List.getElem?_eq_some_iff.mp hv).1
    rw [hv]; simp [hk, qe_si]
  · rw [if_neg h]
    have h' : ¬ a = j := fun q => h q.symm
    cases fs[a]? with
    | none => rfl
    | some v => cases v <;> simp [qe_si, h']
theorem qs_setL {σ : qe_S} {T : List va_E} {k ci j : Nat} {fs : List Value} {z x : Int64} (hT : T[k]? = some (.inr (ci, fs))) (hv : fs[j]? = some (.long z)) : (qs_w σ T).set k (.inr (ci, (qs_f σ k 0 fs).set j (.long x))) = qs_w (qe_sl σ k j x) T := by
  refine qs_set hT ?_ (fun a _ => rfl) (fun a h => qs_sl_ne a h)
  show Sum.inr (ci, qs_f (qe_sl σ k j x) k 0 fs) = _
  congr 2
  apply List.ext_getElem?
  intro a
  rw [List.getElem?_set, qs_f_get, qs_f_get, qs_f_len]
  by_cases h : j = a
  · subst h
    have hk : j < fs.length := (List.getElem?_eq_some_iff.mp hv).1
    rw [hv]; simp [hk, qe_sl]
  · rw [if_neg h]
    have h' : ¬ a = j := fun q => h q.symm
    cases fs[a]? with
    | none => rfl
    | some v => cases v <;> simp [qe_sl, h']
section QS
variable {l : Launch} {G : qe_G} {M : qe_M} {pc : Nat} {lv lv' : List (Nat × Value)} {st : List Value} {X X' : List va_E} {r : Option Value} {T : List va_E} {σ : qe_S}
theorem qs_getI {k ci j idx : Nat} {fs : List Value} {z : Int32} (hT : T[k]? = some (.inr (ci, fs))) (hv : fs[j]? = some (.int z)) (hf : qe_fl (qe_y M).cls idx ci j) (hd : decode (qe_c M) pc = .ok (.getfield idx, 3)) (kk : qe_J l G M (pc + 3) lv (.int (σ.1 k j) :: st) (qs_w σ T) r X') : qe_J l G M pc lv (.ref k :: st) (qs_w σ T) r X' :=
  qe_get (fs := qs_f σ k 0 fs) (v := .int (σ.1 k j)) (qs_at hT) (by rw [qs_f_get, hv]; simp) hf hd kk
theorem qs_getL {k ci j idx : Nat} {fs : List Value} {z : Int64} (hT : T[k]? = some (.inr (ci, fs))) (hv : fs[j]? = some (.long z)) (hf : qe_fl (qe_y M).cls idx ci j) (hd : decode (qe_c M) pc = .ok (.getfield idx, 3)) (kk : qe_J l G M (pc + 3) lv (.long (σ.2 k j) :: st) (qs_w σ T) r X') : qe_J l G M pc lv (.ref k :: st) (qs_w σ T) r X' :=
  qe_get (fs := qs_f σ k 0 fs) (v := .long (σ.2 k j)) (qs_at hT) (by rw [qs_f_get, hv]; simp) hf hd kk
theorem qs_getR {k ci j idx a : Nat} {fs : List Value} (hT : T[k]? = some (.inr (ci, fs))) (hv : fs[j]? = some (.ref a)) (hf : qe_fl (qe_y M).cls idx ci j) (hd : decode (qe_c M) pc = .ok (.getfield idx, 3)) (kk : qe_J l G M (pc + 3) lv (.ref a :: st) (qs_w σ T) r X') : qe_J l G M pc lv (.ref k :: st) (qs_w σ T) r X' :=
  qe_get (fs := qs_f σ k 0 fs) (v := .ref a) (qs_at hT) (by rw [qs_f_get, hv]; simp) hf hd kk
theorem qs_putI {α : Type} {F : qe_S → Option α} {o : α} {k ci j idx : Nat} {fs : List Value} {z x : Int32} (hT : T[k]? = some (.inr (ci, fs))) (hv : fs[j]? = some (.int z)) (hf : qe_fp (qe_y M).cls idx ci j .int) (hd : decode (qe_c M) pc = .ok (.putfield idx, 3)) (h : qm_l (qe_si σ k j x) F = some o) (kk : ∀ τ, F τ = some o → qe_J l G M (pc + 3) lv st (qs_w τ T) r X') : qe_J l G M pc lv (.int x :: .ref k :: st) (qs_w σ T) r X' := by
  refine qe_put (fs := qs_f σ k 0 fs) (v := .int x) (qs_at hT) (by rw [qs_f_len]; exact (List.getElem?_eq_some_iff.mp hv).1) hf (fun _ => rfl) (fun _ => rfl) hd ?_
  rw [show (qs_w σ T).set k (.inr (ci, (qs_f σ k 0 fs).set j (.int x))) = qs_w (qe_si σ k j x) T from qs_setI hT hv]
  exact kk _ h
theorem qs_putZ {α : Type} {F : qe_S → Option α} {o : α} {k ci j idx : Nat} {fs : List Value} {z x : Int32} (hT : T[k]? = some (.inr (ci, fs))) (hv : fs[j]? = some (.int z)) (hf : qe_fp (qe_y M).cls idx ci j .boolean) (hx : narrow .boolean (.int x) = .int x ∧ fits .boolean (.int x) = true) (hd : decode (qe_c M) pc = .ok (.putfield idx, 3)) (h : qm_l (qe_si σ k j x) F = some o) (kk : ∀ τ, F τ = some o → qe_J l G M (pc + 3) lv st (qs_w τ T) r X') : qe_J l G M pc lv (.int x :: .ref k :: st) (qs_w σ T) r X' := by
  refine qe_put (fs := qs_f σ k 0 fs) (v := .int x) (qs_at hT) (by rw [qs_f_len]; exact (List.getElem?_eq_some_iff.mp hv).1) hf (fun _ => hx.1) (fun _ => hx.2) hd ?_
  rw [show (qs_w σ T).set k (.inr (ci, (qs_f σ k 0 fs).set j (.int x))) = qs_w (qe_si σ k j x) T from qs_setI hT hv]
  exact kk _ h
theorem qs_putL {α : Type} {F : qe_S → Option α} {o : α} {k ci j idx : Nat} {fs : List Value} {z x : Int64} (hT : T[k]? = some (.inr (ci, fs))) (hv : fs[j]? = some (.long z)) (hf : qe_fp (qe_y M).cls idx ci j .long) (hd : decode (qe_c M) pc = .ok (.putfield idx, 3)) (h : qm_l (qe_sl σ k j x) F = some o) (kk : ∀ τ, F τ = some o → qe_J l G M (pc + 3) lv st (qs_w τ T) r X') : qe_J l G M pc lv (.long x :: .ref k :: st) (qs_w σ T) r X' := by
  refine qe_put (fs := qs_f σ k 0 fs) (v := .long x) (qs_at hT) (by rw [qs_f_len]; exact (List.getElem?_eq_some_iff.mp hv).1) hf (fun _ => rfl) (fun _ => rfl) hd ?_
  rw [show (qs_w σ T).set k (.inr (ci, (qs_f σ k 0 fs).set j (.long x))) = qs_w (qe_sl σ k j x) T from qs_setL hT hv]
  exact kk _ h
theorem qs_ild {α : Type} {F : Int32 → Option α} {o : α} {k n : Nat} {f : Nat → Int32} {i : Int32} (hT : T[k]? = some (.inl (qe_cI G, n, .inl f))) (hd : decode (qe_c M) pc = .ok (.iaload, 1)) (h : qm_g i n (qm_l (σ.1 k i.toNatClampNeg) F) = some o) (kk : ∀ y : Int32, F y = some o → qe_J l G M (pc + 1) lv (.int y :: st) (qs_w σ T) r X') : qe_J l G M pc lv (.int i :: .ref k :: st) (qs_w σ T) r X' :=
  qe_ild (f := σ.1 k) (qs_at hT) hd h (fun h => kk _ h)
theorem qs_lld {α : Type} {F : Int64 → Option α} {o : α} {k n : Nat} {f : Nat → Int64} {i : Int32} (hT : T[k]? = some (.inl (qe_cL G, n, .inr (.inl f)))) (hd : decode (qe_c M) pc = .ok (.laload, 1)) (h : qm_g i n (qm_l (σ.2 k i.toNatClampNeg) F) = some o) (kk : ∀ y : Int64, F y = some o → qe_J l G M (pc + 1) lv (.long y :: st) (qs_w σ T) r X') : qe_J l G M pc lv (.int i :: .ref k :: st) (qs_w σ T) r X' :=
  qe_lld (f := σ.2 k) (qs_at hT) hd h (fun h => kk _ h)
theorem qs_ald {α : Type} {P : Option α} {o : α} {k n : Nat} {f : Nat → Option Nat} {i : Int32} (hT : T[k]? = some (.inl (qe_cR G, n, .inr (.inr (.inr (.inr f)))))) (hd : decode (qe_c M) pc = .ok (.aaload, 1)) (h : qm_g i n P = some o) (kk : P = some o → qe_J l G M (pc + 1) lv (va_rf (f i.toNatClampNeg) :: st) (qs_w σ T) r X') : qe_J l G M pc lv (.int i :: .ref k :: st) (qs_w σ T) r X' :=
  qe_ald (f := f) (qs_at hT) hd h kk
theorem qs_alenR {k n : Nat} {f : Nat → Option Nat} {v : Int32} (hT : T[k]? = some (.inl (qe_cR G, n, .inr (.inr (.inr (.inr f)))))) (hv : Int32.ofNat n = v) (hd : decode (qe_c M) pc = .ok (.arraylength, 1)) (kk : qe_J l G M (pc + 1) lv (.int v :: st) (qs_w σ T) r X') : qe_J l G M pc lv (.ref k :: st) (qs_w σ T) r X' :=
  qe_alen 2 (ty := .object RX4) rfl (qs_at hT) hv hd kk
theorem qs_ist {α : Type} {F : qe_S → Option α} {o : α} {k n : Nat} {f : Nat → Int32} {i x : Int32} (hT : T[k]? = some (.inl (qe_cI G, n, .inl f))) (hd : decode (qe_c M) pc = .ok (.iastore, 1)) (h : qm_g i n (qm_l (qe_si σ k i.toNatClampNeg x) F) = some o) (kk : ∀ τ, F τ = some o → qe_J l G M (pc + 1) lv st (qs_w τ T) r X') : qe_J l G M pc lv (.int x :: .int i :: .ref k :: st) (qs_w σ T) r X' := by
  refine qe_ist (f := σ.1 k) (qs_at hT) hd h (fun h => ?_)
  rw [show (qs_w σ T).set k (.inl (qe_cI G, n, .inl (upd (σ.1 k) i.toNatClampNeg x))) = qs_w (qe_si σ k i.toNatClampNeg x) T from qs_set hT (by rw [← qs_si_self]; rfl) (fun a h => qs_si_ne a h) (fun a _ => rfl)]
  exact kk _ h
theorem qs_lst {α : Type} {F : qe_S → Option α} {o : α} {k n : Nat} {f : Nat → Int64} {i : Int32} {x : Int64} (hT : T[k]? = some (.inl (qe_cL G, n, .inr (.inl f)))) (hd : decode (qe_c M) pc = .ok (.lastore, 1)) (h : qm_g i n (qm_l (qe_sl σ k i.toNatClampNeg x) F) = some o) (kk : ∀ τ, F τ = some o → qe_J l G M (pc + 1) lv st (qs_w τ T) r X') : qe_J l G M pc lv (.long x :: .int i :: .ref k :: st) (qs_w σ T) r X' := by
  refine qe_lst (f := σ.2 k) (qs_at hT) hd h (fun h => ?_)
  rw [show (qs_w σ T).set k (.inl (qe_cL G, n, .inr (.inl (vp_updL (σ.2 k) i.toNatClampNeg x)))) = qs_w (qe_sl σ k i.toNatClampNeg x) T from qs_set hT (by rw [← qs_sl_self]; rfl) (fun a _ => rfl) (fun a h => qs_sl_ne a h)]
  exact kk _ h
theorem qs_cp_ne {σ : qe_S} {k k' n : Nat} (a : Nat) (h : a ≠ k') : (qe_cp σ k k' n).1 a = σ.1 a := by
  funext b; simp [qe_cp, h]
theorem qs_cp_self {σ : qe_S} {k k' n : Nat} : (qe_cp σ k k' n).1 k' = va_cpy (σ.1 k) (σ.1 k') 0 0 n := by
  funext b; simp [qe_cp, va_cpy]
/-- System.arraycopy of the first n places -/
theorem qs_copy {α : Type} {F : qe_S → Option α} {o : α} {k k' n0 n1 idx : Nat} {f g : Nat → Int32} {n : Int32} (hT : T[k]? = some (.inl (qe_cI G, n0, .inl f))) (hT' : T[k']? = some (.inl (qe_cI G, n1, .inl g))) (hn : ¬ n < 0) (h4 : n.toNatClampNeg ≤ n0) (h5 : n.toNatClampNeg ≤ n1) (hw : Cond.methodLink (qe_y M).cls idx arraycopyName ∈ qe_bg ∧ Cond.native arraycopyName ∈ qe_bg ∧ Cond.static arraycopyName ∈ qe_bg ∧ Cond.initialized "java/lang/System" ∈ qe_bg) (hfr : 1 ≤ (qe_R M).frames) (hlo : (st.map fun v => v.category).sum + (nativeFrameWords "java/lang/System" "arraycopy" 5 + 11) ≤ (qe_R M).locals) (hd : decode (qe_c M) pc = .ok (.invokestatic idx, 3)) (h : qm_l (qe_cp σ k k' n.toNatClampNeg) F = some o) (kk : ∀ τ, F τ = some o → qe_J l G M (pc + 3) lv st (qs_w τ T) r X') : qe_J l G M pc lv (.int n :: .int 0 :: .ref k' :: .int 0 :: .ref k :: st) (qs_w σ T) r X' := by
  intro p e s m args below meth c ad A H locs ls hB hH hls
  have he : (qe_w G ad (qs_w σ T))[k]? = some (ad k, .inl (qe_cI G, n0, .inl (σ.1 k))) := qe_w_at (qs_at hT)
  have he' : (qe_w G ad (qs_w σ T))[k']? = some (ad k', .inl (qe_cI G, n1, .inl (σ.1 k'))) := qe_w_at (qs_at hT')
  have hsum : ((st.map (qe_v G ad)).map fun v => v.category).sum = (st.map fun v => v.category).sum := by
    rw [List.map_map]
    rw [show ((fun v : Value => v.category) ∘ qe_v G ad) = fun v => v.category from funext fun v => qe_v_cat G ad v]
  refine va_copyi (D := qe_D G) (cl := vwCl) (tys := qe_ty G) hB.1 hB.2.1 (hB.2.2.2.1.trans hls.1.symm) hB.2.2.2.2.2.1 (hB.2.2.2.2.2.2.1 _ hw.1) (hB.2.2.2.2.2.2.1 _ hw.2.1) (hB.2.2.2.2.2.2.1 _ hw.2.2.1) (hB.2.2.2.2.2.2.1 _ hw.2.2.2) hB.2.2.2.2.2.2.2.1 hH.1 hH.2.1 hH.2.2 k k' 0 0 he he' rfl rfl rfl (sp := 0) (dp := 0) (n := n) (by decide) (by decide) hn (by simpa using h4) (by simpa using h5) (fun _ _ => rfl) hfr (by rw [hsum]; exact hlo) hd (fun H1 locs1 hP hD hS => ?_)
  have hw2 : (qe_w G ad (qs_w σ T)).set k' (ad k', .inl (qe_cI G, n1, .inl (va_cpy (σ.1 k) (σ.1 k') (0 : Int32).toNatClampNeg (0 : Int32).toNatClampNeg n.toNatClampNeg))) = qe_w G ad (qs_w (qe_cp σ k k' n.toNatClampNeg) T) := by
    rw [← qs_set (σ := σ) (τ := qe_cp σ k k' n.toNatClampNeg) (e' := .inl (qe_cI G, n1, .inl (va_cpy (σ.1 k) (σ.1 k') 0 0 n.toNatClampNeg))) hT' (by rw [← qs_cp_self]; rfl) (fun a h => qs_cp_ne a h) (fun a _ => rfl)]
    exact qe_w_set G ad (qs_w σ T) k' (.inl (qe_cI G, n1, .inl (va_cpy (σ.1 k) (σ.1 k') 0 0 n.toNatClampNeg)))
  rw [hw2] at hP hD
  exact kk _ h p e s m args below meth c ad A H1 locs1 ls hB ⟨hP, hD, hS⟩ hls
end QS
section QT
variable {l : Launch} {G : qe_G} {M : qe_M} {pc : Nat} {lv lv' : List (Nat × Value)} {st : List Value} {X X' : List va_E} {r : Option Value}
theorem qt_v1 {G : qe_G} {ad : Nat → Nat} {n : UInt32} {i : Nat} (hn : n.toNat = i) (hi : i < 6) : qe_v G ad (.float n) = .ref (qe_aK G i) := by
  show (if n.toNat < 1000 then _ else _) = _
  rw [if_pos (by omega), hn]
theorem qt_v2 {G : qe_G} {ad : Nat → Nat} {n : UInt32} {i : Nat} (hn : n.toNat = 1000 + i) (hi : i < 6) : qe_v G ad (.float n) = .ref (qe_aV G i) := by
  show (if n.toNat < 1000 then _ else if n.toNat < 2000 then _ else _) = _
  rw [if_neg (by omega), if_pos (by omega), hn, show 1000 + i - 1000 = i by omega]
theorem qt_v3 {G : qe_G} {ad : Nat → Nat} {n : UInt32} (hn : n.toNat = 2000) : qe_v G ad (.float n) = va_rf (qe_sf G) := by
  show (if n.toNat < 1000 then _ else if n.toNat < 2000 then _ else _) = _
  rw [if_neg (by omega), if_neg (by omega)]
/-- ldc of a String constant -/
theorem qt_ldc {n : UInt32} {i idx : Nat} {tx : String} (hn : n.toNat = i) (hi : i < 6) (hcls : (qe_y M).cls = RX6) (hq : (idx, tx, i) ∈ qe_st) (hd : decode (qe_c M) pc = .ok (.ldc idx, 2)) (kk : qe_J l G M (pc + 2) lv (.float n :: st) X r X') : qe_J l G M pc lv st X r X' := by
  intro p e s m args below meth c ad A H locs ls hB hH hls
  have kk := kk p e s m args below meth c ad A H locs ls hB hH hls
  rw [List.map_cons, qt_v1 hn hi] at kk
  have hZ := hB.2.2.2.2.2.2.2.2.1.2.1 _ hq
  rw [← hcls] at hZ
  exact va_ldcS hB.1 hB.2.1 hB.2.2.2.2.2.1 hZ hd kk
/-- a String constant's bytes -/
theorem qt_value {n n' : UInt32} {i idx : Nat} (hn : n.toNat = i) (hn' : n'.toNat = 1000 + i) (hi : i < 6) (hw : Cond.fieldLink (qe_y M).cls idx "java/lang/String" "value" "[B" ∈ qe_bg) (hd : decode (qe_c M) pc = .ok (.getfield idx, 3)) (kk : qe_J l G M (pc + 3) lv (.float n' :: st) X r X') : qe_J l G M pc lv (.float n :: st) X r X' := by
  intro p e s m args below meth c ad A H locs ls hB hH hls
  have kk := kk p e s m args below meth c ad A H locs ls hB hH hls
  rw [List.map_cons, qt_v2 hn' hi] at kk
  rw [List.map_cons, qt_v1 hn hi]
  exact vk_getf hB.1 hB.2.1 (hB.2.2.2.2.2.2.2.2.1.2.2.1.1 i hi).2.2.1 hH.2.2 hB.2.2.2.2.2.1 (hB.2.2.2.2.2.2.1 _ hw) (fun _ h => h) hd kk
theorem qt_coder {n : UInt32} {i idx : Nat} (hn : n.toNat = i) (hi : i < 6) (hw : Cond.fieldLink (qe_y M).cls idx "java/lang/String" "coder" "B" ∈ qe_bg) (hd : decode (qe_c M) pc = .ok (.getfield idx, 3)) (kk : qe_J l G M (pc + 3) lv (.int 0 :: st) X r X') : qe_J l G M pc lv (.float n :: st) X r X' := by
  intro p e s m args below meth c ad A H locs ls hB hH hls
  have kk := kk p e s m args below meth c ad A H locs ls hB hH hls
  rw [List.map_cons, qt_v1 hn hi]
  exact vk_getf hB.1 hB.2.1 (hB.2.2.2.2.2.2.2.2.1.2.2.1.1 i hi).2.1 hH.2.2 hB.2.2.2.2.2.1 (hB.2.2.2.2.2.2.1 _ hw) (fun _ h => h) hd kk
theorem qt_alen {n : UInt32} {i : Nat} {v : Int32} (hn : n.toNat = 1000 + i) (hi : i < 6) (hv : Int32.ofNat (qe_len.getD i 0) = v) (hd : decode (qe_c M) pc = .ok (.arraylength, 1)) (kk : qe_J l G M (pc + 1) lv (.int v :: st) X r X') : qe_J l G M pc lv (.float n :: st) X r X' := by
  intro p e s m args below meth c ad A H locs ls hB hH hls
  have kk := kk p e s m args below meth c ad A H locs ls hB hH hls
  rw [List.map_cons, qt_v2 hn hi]
  exact va_tlen hB.1 hB.2.1 (hB.2.2.2.2.2.2.2.2.1.2.2.1.1 i hi).2.2.2 hH.2.2 hv hd kk
theorem qt_bld {α : Type} {P : Option α} {o : α} {n : UInt32} {i : Nat} {j : Int32} (hn : n.toNat = 1000 + i) (hi : i < 6) (hd : decode (qe_c M) pc = .ok (.baload, 1)) (h : qm_g j (qe_len.getD i 0) P = some o) (kk : P = some o → qe_J l G M (pc + 1) lv (.int ((qe_byt.getD i []).getD j.toNatClampNeg 0) :: st) X r X') : qe_J l G M pc lv (.int j :: .float n :: st) X r X' := by
  intro p e s m args below meth c ad A H locs ls hB hH hls
  unfold qm_g at h
  split at h
  · cases h
  · rename_i hin
    have kk := kk h p e s m args below meth c ad A H locs ls hB hH hls
    rw [List.map_cons, List.map_cons, qt_v2 hn hi]
    exact va_tb hB.1 hB.2.1 (hB.2.2.2.2.2.2.2.2.1.2.2.1.1 i hi).2.2.2 hH.2.2 hin rfl hd kk
theorem qt_compact {idx : Nat} (hw : Cond.fieldLink (qe_y M).cls idx "java/lang/String" "COMPACT_STRINGS" "Z" ∈ qe_bg) (hd : decode (qe_c M) pc = .ok (.getstatic idx, 3)) (kk : qe_J l G M (pc + 3) lv (.int 1 :: st) X r X') : qe_J l G M pc lv st X r X' := by
  intro p e s m args below meth c ad A H locs ls hB hH hls
  exact va_gets hB.1 hB.2.1 hB.2.2.2.2.2.2.2.2.1.2.2.2.1 hH.2.2 hB.2.2.2.2.2.1 (hB.2.2.2.2.2.2.1 _ hw) (fun _ h => h) hd (kk p e s m args below meth c ad A H locs ls hB hH hls)
theorem qt_format {idx : Nat} {n : UInt32} (hn : n.toNat = 2000) (hw : Cond.fieldLink (qe_y M).cls idx "jdk/internal/util/Preconditions" "SIOOBE_FORMATTER" "Ljava/util/function/BiFunction;" ∈ qe_bg) (hd : decode (qe_c M) pc = .ok (.getstatic idx, 3)) (kk : qe_J l G M (pc + 3) lv (.float n :: st) X r X') : qe_J l G M pc lv st X r X' := by
  intro p e s m args below meth c ad A H locs ls hB hH hls
  have kk := kk p e s m args below meth c ad A H locs ls hB hH hls
  rw [List.map_cons, qt_v3 hn] at kk
  exact va_gets hB.1 hB.2.1 hB.2.2.2.2.2.2.2.2.1.2.2.2.2 hH.2.2 hB.2.2.2.2.2.1 (hB.2.2.2.2.2.2.1 _ hw) (fun _ h => h) hd kk
/-- a call on a String constant -/
theorem qt_callV {M' : qe_M} {n : UInt32} {i idx w : Nat} {av : List Value} {r1 : Option Value} {X1 : List va_E} {st0 : List Value} (hn : n.toNat = i) (hi : i < 6) (hcls : (qe_y M').cls = "java/lang/String") (hk : qe_kV M M' idx w) (hC : qe_C l G M' (.float n :: av) X r1 X1) (hl : av.length = w) (hst : st0 = av.reverse ++ .float n :: st) (hcat : (st.map fun v => v.category).sum ≤ 8) (hd : decode (qe_c M) pc = .ok (.invokevirtual idx, 3)) (kk : qe_J l G M (pc + 3) lv (r1.toList ++ st) X1 r X') : qe_J l G M pc lv st0 X r X' := by
  intro p e s m args below meth c ad A H locs ls hB hH hls
  subst hst
  have hrecv := vk_recv hB.2.2.2.2.2.2.2.2.1.2.2.1 hi hH.2.2
  rw [← hcls] at hrecv
  have hM := hC ad H.size
  rw [List.map_cons, qt_v1 hn hi] at hM
  have hcw : CallW (qe_R M) s args (qe_y M).cls (qe_y M').cls idx (qe_y M') (qe_c M') (qe_n M') (qe_r M') (qe_ws M') (qe_R M') 0 0 w := ⟨qe_callB hB hk.1 hk.2.1, hB.2.2.2.2.2.2.1 _ hk.2.2.1, hB.2.2.2.2.2.2.1 _ hk.2.2.2⟩
  have hbl : FrameBlind (va_Pc ((Value.ref (qe_aK G i) :: av.map (qe_v G ad))) (fun U => U.heap.size = H.size ∧ va_P (qe_D G) vwCl (qe_w G ad X) U.heap ∧ qe_K G U ∧ va_D (fun _ => True) (qe_w G ad X) ∧ qe_Z G (va_A (qe_w G ad X) H.size) U U.heap)) := by
    intro a U g mk q
    obtain ⟨q0, q1, q2, q3, q4, q5⟩ := q
    exact ⟨q0, q1, q2, va_K.moved (u := U) (U := U.calling g mk a) (Vm.Alike.refl U.vm) q3, q4, qe_Z_same (u := U) (U := U.calling g mk a) rfl q5⟩
  have hrun := va_runV (p := p) (l := l) (e := e) (R := qe_R M) (s := s) (m := m) (args := args) (below := below) (meth := meth) (c := c) (H := H) (locs := locs) (cells := 0) (slots := 0) (g := F0 m pc ls ((av.reverse ++ .float n :: st).map (qe_v G ad))) (As := av.map (qe_v G ad)) (rest := st.map (qe_v G ad)) (b := qe_aK G i) (Ts := qe_bg) (own := (qe_y M).cls) (nL := qe_n M) ⟨hB.1, hB.2.1, hB.2.2.2.1, hB.2.2.2.2.2.1, hB.2.2.2.2.2.2.1⟩ hM hcw ⟨hbl, hrecv, fun U hU hW => ⟨rfl, qe_pre hB hH U hU hW⟩⟩ rfl (by rw [List.length_map]; exact hl) hls.1 (by simp [qt_v1 hn hi]) (qe_room G ad hcat) hd ⟨Nat.le_refl 0, Nat.le_refl 0⟩
  exact qe_go hrun hB.2.2.2.2.2.2.2.2.2 hH (fun H1 locs1 hH1 => kk p e s m args below meth c ad A H1 locs1 ls hB hH1 hls)
end QT
