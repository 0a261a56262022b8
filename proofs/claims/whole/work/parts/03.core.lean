/-! THE CORE: one judgement for a method's frame over an abstract world (a list of cells, references by their places), and its rules, an instruction a rule -/
abbrev qe_S : Type := (Nat → Nat → Int32) × (Nat → Nat → Int64)
def qe_si (σ : qe_S) (k j : Nat) (x : Int32) : qe_S := (fun a b => if a = k ∧ b = j then x else σ.1 a b, σ.2)
def qe_sl (σ : qe_S) (k j : Nat) (x : Int64) : qe_S := (σ.1, fun a b => if a = k ∧ b = j then x else σ.2 a b)
def qe_cp (σ : qe_S) (k k' : Nat) (n : Nat) : qe_S := (fun a b => if a = k' ∧ b < n then σ.1 k b else σ.1 a b, σ.2)
-- the model's own pieces: an index looked at, a divisor looked at, a name, a call's answer, a join
def qm_g {α : Type} (i : Int32) (n : Nat) (P : Option α) : Option α := if i < 0 ∨ n ≤ i.toNatClampNeg then none else P
def qm_z {α : Type} (y : Int32) (P : Option α) : Option α := if y = 0 then none else P
def qm_zl {α : Type} (y : Int64) (P : Option α) : Option α := if y = 0 then none else P
def qm_l {τ α : Type} (x : τ) (F : τ → Option α) : Option α := F x
def qm_b {τ ρ α : Type} (q : Option (τ × ρ)) (F : τ → ρ → Option α) : Option α := match q with
  | some z => F z.1 z.2
  | none => none
def qm_o {τ α : Type} (q : Option τ) (F : τ → Option α) : Option α := match q with
  | some z => F z
  | none => none
def qm_j {τ α : Type} (F : τ) (K : τ → Option α) : Option α := K F
def qm_bo {α : Type} (v : Int32) (P : Option α) : Option α := if v = 0 ∨ v = 1 then P else none
def qm_ir (x y : Int32) : Int32 := x - x / y * y
def qm_lr (x y : Int64) : Int64 := x - x / y * y
def qm_us (x y : Int32) : Int32 := (x.toUInt32 >>> (y.toUInt32 &&& Int32.toUInt32 31)).toInt32
def qm_lu (x : Int64) (y : Int32) : Int64 := (x.toUInt64 >>> (y.toInt64.toUInt64 &&& Int64.toUInt64 63)).toInt64
def qm_F : Nat := 5000
abbrev qe_G : Type := (Nat → ClassId) × (Nat → Nat → Nat) × (ClassId × ClassId × ClassId) × (Nat → Nat) × (Nat → Nat) × Option Nat
abbrev qe_D (G : qe_G) : va_G := (G.1, G.2.1)
abbrev qe_cI (G : qe_G) : ClassId := G.2.2.1.1
abbrev qe_cL (G : qe_G) : ClassId := G.2.2.1.2.1
abbrev qe_cR (G : qe_G) : ClassId := G.2.2.1.2.2
abbrev qe_aK (G : qe_G) : Nat → Nat := G.2.2.2.1
abbrev qe_aV (G : qe_G) : Nat → Nat := G.2.2.2.2.1
abbrev qe_sf (G : qe_G) : Option Nat := G.2.2.2.2.2
abbrev qe_ty (G : qe_G) : List (ClassId × FieldType) := [(qe_cI G, .int), (qe_cL G, .long), (qe_cR G, .object RX4)]
/-- an abstract value and what it is: references by places; a float is a String constant (below 1000), its bytes (below 2000), or the formatter that nobody asks -/
def qe_v (G : qe_G) (ad : Nat → Nat) (v : Value) : Value := match v with
  | .ref k => .ref (ad k)
  | .float n => if n.toNat < 1000 then .ref (qe_aK G n.toNat) else if n.toNat < 2000 then .ref (qe_aV G (n.toNat - 1000)) else va_rf (qe_sf G)
  | v => v
theorem qe_v_cat (G : qe_G) (ad : Nat → Nat) (v : Value) : (qe_v G ad v).category = v.category := by
  cases v with
  | float n =>
    simp only [qe_v]
    split
    · rfl
    · split
      · rfl
      · cases qe_sf G <;> rfl
  | _ => rfl
def qe_e (G : qe_G) (ad : Nat → Nat) (e : va_E) : va_E := match e with
  | .inl (c, n, .inr (.inr (.inr (.inr f)))) => .inl (c, n, .inr (.inr (.inr (.inr (fun j => (f j).map ad)))))
  | .inl x => .inl x
  | .inr (ci, fs) => .inr (ci, fs.map (qe_v G ad))
def qe_wi (G : qe_G) (ad : Nat → Nat) : Nat → List va_E → va_W
  | _, [] => []
  | k, e :: l => (ad k, qe_e G ad e) :: qe_wi G ad (k + 1) l
abbrev qe_w (G : qe_G) (ad : Nat → Nat) (X : List va_E) : va_W := qe_wi G ad 0 X
theorem qe_wi_get (G : qe_G) (ad : Nat → Nat) : ∀ (X : List va_E) (i k : Nat), (qe_wi G ad i X)[k]? = (X[k]?).map (fun e => (ad (i + k), qe_e G ad e)) := by
  intro X
  induction X with
  | nil => intro i k; simp [qe_wi]
  | cons e l ih =>
    intro i k
    cases k with
    | zero => simp [qe_wi]
    | succ k => simp only [qe_wi, List.getElem?_cons_succ, ih]; rw [show i + 1 + k = i + (k + 1) by omega]
theorem qe_w_at {G : qe_G} {ad : Nat → Nat} {X : List va_E} {k : Nat} {e : va_E} (h : X[k]? = some e) : (qe_w G ad X)[k]? = some (ad k, qe_e G ad e) := by
  rw [qe_w, qe_wi_get, h]; simp
theorem qe_w_of {G : qe_G} {ad : Nat → Nat} {X : List va_E} {k : Nat} {q : Nat × va_E} (h : (qe_w G ad X)[k]? = some q) : ∃ e, X[k]? = some e ∧ q = (ad k, qe_e G ad e) := by
  rw [qe_w, qe_wi_get] at h
  cases hx : X[k]? with
  | none => rw [hx] at h; cases h
  | some e => rw [hx] at h; simp at h; exact ⟨e, rfl, h.symm⟩
theorem qe_w_len (G : qe_G) (ad : Nat → Nat) : ∀ (X : List va_E) (i : Nat), (qe_wi G ad i X).length = X.length := by
  intro X
  induction X with
  | nil => intro i; rfl
  | cons e l ih => intro i; simp [qe_wi, ih]
theorem qe_w_set (G : qe_G) (ad : Nat → Nat) (X : List va_E) (k : Nat) (e : va_E) : (qe_w G ad X).set k (ad k, qe_e G ad e) = qe_w G ad (X.set k e) := by
  apply List.ext_getElem?
  intro j
  rw [qe_w, qe_wi_get, List.getElem?_set, List.getElem?_set, qe_w_len, qe_wi_get]
  by_cases h : k = j
  · subst h
    by_cases hk : k < X.length <;> simp [hk]
  · simp [h]
-- a method: its name, code, locals, what it returns, its room's frames and locals
abbrev qe_M : Type := MethodName × ByteArray × Nat × Option FieldType × Nat × Nat
abbrev qe_y (M : qe_M) : MethodName := M.1
abbrev qe_c (M : qe_M) : ByteArray := M.2.1
abbrev qe_n (M : qe_M) : Nat := M.2.2.1
abbrev qe_r (M : qe_M) : Option FieldType := M.2.2.2.1
abbrev qe_R (M : qe_M) : Room := { frames := M.2.2.2.2.1, cells := 0, slots := 0, locals := M.2.2.2.2.2 }
/-- the tables' words that hold wherever the machine is -/
def qe_bg : List Cond := lw_tbl.filter goodWord
theorem qe_bg_good : ∀ w ∈ qe_bg, (w.onTables && w.keeps) = true ∨ ∃ ty, w = .arrayClass ty := fun w h => good_of_word (List.mem_filter.mp h).2
theorem qe_in {w : Cond} (i : Nat) (h : lw_tbl[i]? = some w) (hg : goodWord w = true) : w ∈ qe_bg := List.mem_filter.mpr ⟨List.mem_of_getElem? h, hg⟩
def qe_ws (M : qe_M) : List Cond := Cond.code (qe_y M) (qe_c M) (qe_n M) (qe_r M) :: qe_bg
abbrev qe_K (G : qe_G) (U : State) : Prop := va_K (qe_D G) vwCl (qe_ty G) U
def qe_nl : List (String × Nat × MethodName × String) := [(RX8, 11, yX3_init, RX8), (RX8, 28, yX7_init, RX8), (RX8, 38, yX5_init, RX8), (RX8, 45, yX0_init, RX8), (RX8, 58, yX2_init, RX8), (RX8, 65, yX6_init, RX8), (RX8, 72, yX1_init, RX8), (RX8, 83, yX4_init, RX8), (RX3, 69, yX8_isRow, RX8), (RX3, 44, yX8_isIn, RX8), (RX0, 30, yX8_gcd, RX8), (RX3, 105, yX8_gcd, RX8), (RX7, 36, yX8_isIn, RX8), (RX7, 54, yX8_meeting, RX8), (RX2, 32, yX8_isIn, RX8)]
def qe_st : List (Nat × String × Nat) := [(60, "N/N,D,M", 0), (62, "N,N/N", 1), (64, "D", 2), (66, "N", 3), (68, "N,N", 4), (70, "", 5)]
def qe_len : List Nat := [7, 5, 1, 1, 3, 0]
def qe_byt : List (List Int32) := [[78, 47, 78, 44, 68, 44, 77], [78, 44, 78, 47, 78], [68], [78], [78, 44, 78], []]
def qe_Z (G : qe_G) (A : Nat → Prop) (U : State) (H : Heap) : Prop :=
  (∀ q ∈ qe_nl, va_Nw (.methodLinkNest q.1 q.2.1 q.2.2.1 q.2.2.2) U) ∧ (∀ q ∈ qe_st, vk_R RX6 q.1 q.2.1 (qe_aK G q.2.2) U) ∧ vk_S 6 qe_len qe_byt (qe_aK G) (qe_aV G) A U H ∧ va_Z "java/lang/String" "COMPACT_STRINGS" "Z" (.int 1) A U H ∧ va_Z "jdk/internal/util/Preconditions" "SIOOBE_FORMATTER" "Ljava/util/function/BiFunction;" (va_rf (qe_sf G)) A U H
theorem qe_Z_warm {G : qe_G} {A : Nat → Prop} {s U : State} {H : Heap} (hW : s.WarmedH U.vm) (h : qe_Z G A s H) : qe_Z G A U H :=
  ⟨fun q hq => va_Nw.warmM hW (h.1 q hq), fun q hq => vk_R.warm hW (h.2.1 q hq), vk_S.moved hW.alike h.2.2.1, va_Z.moved hW.alike h.2.2.2.1, va_Z.moved hW.alike h.2.2.2.2⟩
theorem qe_Z_same {G : qe_G} {A : Nat → Prop} {u U : State} {H : Heap} (hv : u.vm = U.vm) (h : qe_Z G A u H) : qe_Z G A U H :=
  ⟨fun q hq => va_Nw.same rfl hv (h.1 q hq), fun q hq => vk_R.same hv.symm (h.2.1 q hq), vk_S.moved (by rw [hv]; exact Vm.Alike.refl _) h.2.2.1, va_Z.moved (by rw [hv]; exact Vm.Alike.refl _) h.2.2.2.1, va_Z.moved (by rw [hv]; exact Vm.Alike.refl _) h.2.2.2.2⟩
theorem qe_Z_kept {G : qe_G} {A : Nat → Prop} {U : State} {H H1 : Heap} (h : qe_Z G A U H) (hq : ∀ a : Nat, a < H.size → ¬ A a → H1[a]? = H[a]?) : qe_Z G A U H1 :=
  ⟨h.1, h.2.1, h.2.2.1.kept hq, h.2.2.2.1.kept hq, h.2.2.2.2.kept hq⟩
theorem qe_Z_narrow {G : qe_G} {A B : Nat → Prop} {U : State} {H : Heap} (h : qe_Z G A U H) (hAB : ∀ q, B q → A q) : qe_Z G B U H :=
  ⟨h.1, h.2.1, h.2.2.1.narrow hAB, h.2.2.2.1.narrow hAB, h.2.2.2.2.narrow hAB⟩
/-- what holds at a method's entry, and all along -/
def qe_B (G : qe_G) (M : qe_M) (p : Program) (s : State) (m : MethodId) (args : Array Value) (meth : Method) (c : Code) (A : Nat → Prop) : Prop :=
  p.tables.exec = Jvm.exec ∧ c.code = qe_c M ∧ meth.sig.returnType = qe_r M ∧ c.maxLocals = qe_n M ∧ meth.locks = false ∧ s.vm.findClass (qe_y M).cls = some m.cls ∧ (∀ w ∈ qe_bg, w.before args s = true) ∧ qe_K G s ∧ qe_Z G A s s.heap ∧ (∀ q : Nat, s.heap.size ≤ q → A q)
def qe_H (G : qe_G) (ad : Nat → Nat) (A : Nat → Prop) (X : List va_E) (H0 H : Heap) (locs : List Loc) : Prop :=
  va_P (qe_D G) vwCl (qe_w G ad X) H ∧ va_D A (qe_w G ad X) ∧ va_S A H0 H locs
def qe_Q (G : qe_G) (ad : Nat → Nat) (A : Nat → Prop) (r : Option Value) (X' : List va_E) : Array Value → State → Outcome → State → Prop := fun _ st oc t =>
  (oc = .returned (r.map (qe_v G ad)) ∧ va_P (qe_D G) vwCl (qe_w G ad X') t.heap ∧ va_D A (qe_w G ad X')) ∧ va_F A st t
/-- THE JUDGEMENT: the frame at pc, with these locals and this stack over this world, comes to the method's end, answers r, and leaves the world X' -/
def qe_J (l : Launch) (G : qe_G) (M : qe_M) (pc : Nat) (lv : List (Nat × Value)) (st : List Value) (X : List va_E) (r : Option Value) (X' : List va_E) : Prop :=
  ∀ (p : Program) (e : Env) (s : State) (m : MethodId) (args : Array Value) (below : List Frame) (meth : Method) (c : Code) (ad : Nat → Nat) (A : Nat → Prop) (H : Heap) (locs : List Loc) (ls : Array Slot),
    qe_B G M p s m args meth c A → qe_H G ad A X s.heap H locs → lv_has ls (qe_n M) (lv.map fun q => (q.1, qe_v G ad q.2)) →
    W p l e (qe_R M) s m args below meth c H locs 0 0 (MQ below (qe_Q G ad A r X') args s 0 0 A) (F0 m pc ls (st.map (qe_v G ad)))
/-- a method's contract over the abstract world -/
def qe_C (l : Launch) (G : qe_G) (M : qe_M) (av : List Value) (X : List va_E) (r : Option Value) (X' : List va_E) : Prop :=
  ∀ (ad : Nat → Nat) (sz : Nat), Met l (qe_y M) (qe_ws M) (qe_R M) (va_Pc (av.map (qe_v G ad)) (fun U => U.heap.size = sz ∧ va_P (qe_D G) vwCl (qe_w G ad X) U.heap ∧ qe_K G U ∧ va_D (fun _ => True) (qe_w G ad X) ∧ qe_Z G (va_A (qe_w G ad X) sz) U U.heap))
    (qe_Q G ad (va_A (qe_w G ad X) sz) r X') 0 0 (va_A (qe_w G ad X) sz)
theorem qe_lvget {G : qe_G} {ad : Nat → Nat} {lv : List (Nat × Value)} {k i : Nat} {v : Value} (h : lv[k]? = some (i, v)) : (lv.map fun q => (q.1, qe_v G ad q.2))[k]? = some (i, qe_v G ad v) := by
  rw [List.getElem?_map, h]; rfl
theorem qe_args (G : qe_G) (ad : Nat → Nat) : ∀ (av : List Value) (i : Nat), lv_args i (av.map (qe_v G ad)) = (lv_args i av).map fun q => (q.1, qe_v G ad q.2) := by
  intro av
  induction av with
  | nil => intro i; rfl
  | cons v l ih => intro i; simp only [List.map_cons, lv_args, qe_v_cat, ih]
theorem qe_slen (G : qe_G) (ad : Nat → Nat) (av : List Value) : (lg_sl (av.map (qe_v G ad))).length = (lg_sl av).length := by
  induction av with
  | nil => rfl
  | cons v l ih =>
    simp only [lg_sl, List.map_cons, List.flatMap_cons, List.length_append, qe_v_cat] at ih ⊢
    rw [ih]
    congr 1
    split <;> rfl
theorem qe_C.of {l : Launch} {G : qe_G} {M : qe_M} {av : List Value} {X X' : List va_E} {r : Option Value} (hy : plainName (qe_y M).cls = true) (hn : (lg_sl av).length ≤ qe_n M) (hj : qe_J l G M 0 (lv_args 0 av) [] X r X') : qe_C l G M av X r X' := by
  intro ad sz
  refine Met.ofW (cc := qe_c M) (maxL := qe_n M) (ret := qe_r M) hy rfl ?_
  intro p e s m args below meth c s₁ B hml hv
  obtain ⟨rfl, rfl, hP, hK, hD0, hZ⟩ := hv
  have hts := atoms_spec (ws := qe_ws M) B.pre
  have hB : qe_B G M p s m ((av.map (qe_v G ad)).toArray) meth c (va_A (qe_w G ad X) s.heap.size) :=
    ⟨B.exec, B.bytes, B.returns, hml, B.notSynchronized, findClass_of_methodNamed B.named, fun w hw => hts w (List.mem_cons_of_mem _ hw), hK, hZ, fun q h => Or.inr h⟩
  have hH : qe_H G ad (va_A (qe_w G ad X) s.heap.size) X s.heap s.heap [] := ⟨hP, hD0.self, va_S.rf⟩
  have hl := lv_entry (av.map (qe_v G ad)) (n := qe_n M) (by rw [qe_slen]; exact hn)
  rw [lg_entry_eq]
  rw [qe_args] at hl
  exact hj p e s m _ below meth c ad _ s.heap [] _ hB hH hl
theorem qe_filt (G : qe_G) (ad : Nat → Nat) (i : Nat) (lv : List (Nat × Value)) : (lv.map fun q => (q.1, qe_v G ad q.2)).filter (fun q => !(q.1 == i) && !(q.1 + 1 == i && q.2.category == 2)) = (lv.filter (fun q => !(q.1 == i) && !(q.1 + 1 == i && q.2.category == 2))).map fun q => (q.1, qe_v G ad q.2) := by
  rw [List.filter_map]
  congr 1
  apply List.filter_congr
  intro q _
  simp [qe_v_cat]
theorem qe_filt2 (G : qe_G) (ad : Nat → Nat) (i : Nat) (lv : List (Nat × Value)) : (lv.map fun q => (q.1, qe_v G ad q.2)).filter (fun q => !(q.1 == i) && (!(q.1 == i + 1) && !(q.1 + 1 == i && q.2.category == 2))) = (lv.filter (fun q => !(q.1 == i) && (!(q.1 == i + 1) && !(q.1 + 1 == i && q.2.category == 2)))).map fun q => (q.1, qe_v G ad q.2) := by
  rw [List.filter_map]
  congr 1
  apply List.filter_congr
  intro q _
  simp [qe_v_cat]
def qe_isr (v : Value) : Prop := match v with
  | .ref _ => True
  | .null => True
  | .float _ => True
  | _ => False
/-- a reference, a String constant or null, as the machine has it -/
theorem qe_isr_cases {G : qe_G} {ad : Nat → Nat} {v : Value} (h : qe_isr v) : qe_v G ad v = .null ∨ ∃ a, qe_v G ad v = .ref a := by
  cases v with
  | ref k => exact Or.inr ⟨_, rfl⟩
  | null => exact Or.inl rfl
  | float n =>
    simp only [qe_v]
    split
    · exact Or.inr ⟨_, rfl⟩
    · split
      · exact Or.inr ⟨_, rfl⟩
      · cases qe_sf G
        · exact Or.inl rfl
        · exact Or.inr ⟨_, rfl⟩
  | int _ => exact h.elim
  | long _ => exact h.elim
  | double _ => exact h.elim
  | retAddr _ => exact h.elim
theorem qe_cmp_eq {x y : Int64} : lg_cmp x y = 0 ↔ x = y := by
  unfold lg_cmp
  by_cases h : x > y
  · rw [if_pos h]; constructor
    · intro q; exact absurd q (by decide)
    · intro q; subst q; exact absurd h Int64.lt_irrefl
  · rw [if_neg h]
    by_cases h2 : x = y
    · rw [if_pos h2]; exact ⟨fun _ => h2, fun _ => rfl⟩
    · rw [if_neg h2]; exact ⟨fun q => absurd q (by decide), fun q => absurd q h2⟩
theorem qe_cmp_gt {x y : Int64} : 0 < lg_cmp x y ↔ y < x := by
  unfold lg_cmp
  by_cases h : x > y
  · rw [if_pos h]; exact ⟨fun _ => h, fun _ => by decide⟩
  · rw [if_neg h]
    refine ⟨fun q => ?_, fun q => absurd q h⟩
    split at q <;> exact absurd q (by decide)
theorem qe_cmp_le {x y : Int64} : lg_cmp x y ≤ 0 ↔ x ≤ y := by
  rw [← Int32.not_lt, qe_cmp_gt, Int64.not_lt]
theorem qe_cmp_lt {x y : Int64} : lg_cmp x y < 0 ↔ x < y := by
  unfold lg_cmp
  by_cases h : x > y
  · rw [if_pos h]
    exact ⟨fun q => absurd q (by decide), fun q => absurd (Int64.lt_trans q h) Int64.lt_irrefl⟩
  · rw [if_neg h]
    by_cases h2 : x = y
    · rw [if_pos h2]; subst h2
      exact ⟨fun q => absurd q (by decide), fun q => absurd q h⟩
    · rw [if_neg h2]
      refine ⟨fun _ => ?_, fun _ => by decide⟩
      have h3 := Int64.not_lt.mp h
      exact Int64.lt_of_le_of_ne h3 h2
theorem qe_cmp_ge {x y : Int64} : 0 ≤ lg_cmp x y ↔ y ≤ x := by
  rw [← Int32.not_lt, qe_cmp_lt, Int64.not_lt]
section QJ
variable {l : Launch} {G : qe_G} {M : qe_M} {pc : Nat} {lv lv' : List (Nat × Value)} {st : List Value} {X X' : List va_E} {r : Option Value}
theorem qe_sub (ks : List Nat) (hl : lv_pick lv ks = lv') (k : qe_J l G M pc lv' st X r X') : qe_J l G M pc lv st X r X' := by
  intro p e s m args below meth c ad A H locs ls hB hH hls
  refine k p e s m args below meth c ad A H locs ls hB hH (lv_sub hls ks ?_)
  subst hl
  simp only [lv_pick, List.map_filterMap, List.getElem?_map]
theorem qe_room {st : List Value} (G : qe_G) (ad : Nat → Nat) {m : MethodId} {pc : Nat} {ls : Array Slot} {rest : List Value} (h : (st.map fun v => v.category).sum ≤ 8) : 2 * (F0 m pc ls rest).monitorRoom + ((st.map (qe_v G ad)).map fun v => v.category).sum ≤ 8 := by
  refine lv_room ?_
  rw [List.map_map]
  rw [show ((fun v : Value => v.category) ∘ qe_v G ad) = fun v => v.category from funext fun v => qe_v_cat G ad v]
  exact h
theorem qe_iadd {x y : Int32} (hd : decode (qe_c M) pc = .ok (.iadd, 1))  (kk : qe_J l G M (pc + 1) lv (.int (x + y) :: st) X r X') : qe_J l G M pc lv (.int y :: .int x :: st) X r X' := by
  intro p e s m args below meth c ad A H locs ls hB hH hls
  exact lv_iadd hB.1 hB.2.1 hd  (kk p e s m args below meth c ad A H locs ls hB hH hls)
theorem qe_isub {x y : Int32} (hd : decode (qe_c M) pc = .ok (.isub, 1))  (kk : qe_J l G M (pc + 1) lv (.int (x - y) :: st) X r X') : qe_J l G M pc lv (.int y :: .int x :: st) X r X' := by
  intro p e s m args below meth c ad A H locs ls hB hH hls
  exact lv_isub hB.1 hB.2.1 hd  (kk p e s m args below meth c ad A H locs ls hB hH hls)
theorem qe_imul {x y : Int32} (hd : decode (qe_c M) pc = .ok (.imul, 1))  (kk : qe_J l G M (pc + 1) lv (.int (x * y) :: st) X r X') : qe_J l G M pc lv (.int y :: .int x :: st) X r X' := by
  intro p e s m args below meth c ad A H locs ls hB hH hls
  exact lv_imul hB.1 hB.2.1 hd  (kk p e s m args below meth c ad A H locs ls hB hH hls)
theorem qe_iand {x y : Int32} (hd : decode (qe_c M) pc = .ok (.iand, 1))  (kk : qe_J l G M (pc + 1) lv (.int (x &&& y) :: st) X r X') : qe_J l G M pc lv (.int y :: .int x :: st) X r X' := by
  intro p e s m args below meth c ad A H locs ls hB hH hls
  exact lv_iand hB.1 hB.2.1 hd  (kk p e s m args below meth c ad A H locs ls hB hH hls)
theorem qe_ior {x y : Int32} (hd : decode (qe_c M) pc = .ok (.ior, 1))  (kk : qe_J l G M (pc + 1) lv (.int (x ||| y) :: st) X r X') : qe_J l G M pc lv (.int y :: .int x :: st) X r X' := by
  intro p e s m args below meth c ad A H locs ls hB hH hls
  exact lv_ior hB.1 hB.2.1 hd  (kk p e s m args below meth c ad A H locs ls hB hH hls)
theorem qe_ixor {x y : Int32} (hd : decode (qe_c M) pc = .ok (.ixor, 1))  (kk : qe_J l G M (pc + 1) lv (.int (x ^^^ y) :: st) X r X') : qe_J l G M pc lv (.int y :: .int x :: st) X r X' := by
  intro p e s m args below meth c ad A H locs ls hB hH hls
  exact lv_ixor hB.1 hB.2.1 hd  (kk p e s m args below meth c ad A H locs ls hB hH hls)
theorem qe_ladd {x y : Int64} (hd : decode (qe_c M) pc = .ok (.ladd, 1))  (kk : qe_J l G M (pc + 1) lv (.long (x + y) :: st) X r X') : qe_J l G M pc lv (.long y :: .long x :: st) X r X' := by
  intro p e s m args below meth c ad A H locs ls hB hH hls
  exact lv_ladd hB.1 hB.2.1 hd  (kk p e s m args below meth c ad A H locs ls hB hH hls)
theorem qe_lsub {x y : Int64} (hd : decode (qe_c M) pc = .ok (.lsub, 1))  (kk : qe_J l G M (pc + 1) lv (.long (x - y) :: st) X r X') : qe_J l G M pc lv (.long y :: .long x :: st) X r X' := by
  intro p e s m args below meth c ad A H locs ls hB hH hls
  exact lv_lsub hB.1 hB.2.1 hd  (kk p e s m args below meth c ad A H locs ls hB hH hls)
theorem qe_lmul {x y : Int64} (hd : decode (qe_c M) pc = .ok (.lmul, 1))  (kk : qe_J l G M (pc + 1) lv (.long (x * y) :: st) X r X') : qe_J l G M pc lv (.long y :: .long x :: st) X r X' := by
  intro p e s m args below meth c ad A H locs ls hB hH hls
  exact lv_lmul hB.1 hB.2.1 hd  (kk p e s m args below meth c ad A H locs ls hB hH hls)
theorem qe_land {x y : Int64} (hd : decode (qe_c M) pc = .ok (.land, 1))  (kk : qe_J l G M (pc + 1) lv (.long (x &&& y) :: st) X r X') : qe_J l G M pc lv (.long y :: .long x :: st) X r X' := by
  intro p e s m args below meth c ad A H locs ls hB hH hls
  exact lv_land hB.1 hB.2.1 hd  (kk p e s m args below meth c ad A H locs ls hB hH hls)
theorem qe_lor {x y : Int64} (hd : decode (qe_c M) pc = .ok (.lor, 1))  (kk : qe_J l G M (pc + 1) lv (.long (x ||| y) :: st) X r X') : qe_J l G M pc lv (.long y :: .long x :: st) X r X' := by
  intro p e s m args below meth c ad A H locs ls hB hH hls
  exact lv_lor hB.1 hB.2.1 hd  (kk p e s m args below meth c ad A H locs ls hB hH hls)
theorem qe_lxor {x y : Int64} (hd : decode (qe_c M) pc = .ok (.lxor, 1))  (kk : qe_J l G M (pc + 1) lv (.long (x ^^^ y) :: st) X r X') : qe_J l G M pc lv (.long y :: .long x :: st) X r X' := by
  intro p e s m args below meth c ad A H locs ls hB hH hls
  exact lv_lxor hB.1 hB.2.1 hd  (kk p e s m args below meth c ad A H locs ls hB hH hls)
theorem qe_ineg {x : Int32} (hd : decode (qe_c M) pc = .ok (.ineg, 1))  (kk : qe_J l G M (pc + 1) lv (.int (-x) :: st) X r X') : qe_J l G M pc lv (.int x :: st) X r X' := by
  intro p e s m args below meth c ad A H locs ls hB hH hls
  exact lv_ineg hB.1 hB.2.1 hd  (kk p e s m args below meth c ad A H locs ls hB hH hls)
theorem qe_lneg {x : Int64} (hd : decode (qe_c M) pc = .ok (.lneg, 1))  (kk : qe_J l G M (pc + 1) lv (.long (-x) :: st) X r X') : qe_J l G M pc lv (.long x :: st) X r X' := by
  intro p e s m args below meth c ad A H locs ls hB hH hls
  exact lv_lneg hB.1 hB.2.1 hd  (kk p e s m args below meth c ad A H locs ls hB hH hls)
theorem qe_ishl {x y : Int32} (hd : decode (qe_c M) pc = .ok (.ishl, 1))  (kk : qe_J l G M (pc + 1) lv (.int (x <<< (y &&& 31)) :: st) X r X') : qe_J l G M pc lv (.int y :: .int x :: st) X r X' := by
  intro p e s m args below meth c ad A H locs ls hB hH hls
  exact lv_ishl hB.1 hB.2.1 hd  (kk p e s m args below meth c ad A H locs ls hB hH hls)
theorem qe_ishr {x y : Int32} (hd : decode (qe_c M) pc = .ok (.ishr, 1))  (kk : qe_J l G M (pc + 1) lv (.int (x >>> (y &&& 31)) :: st) X r X') : qe_J l G M pc lv (.int y :: .int x :: st) X r X' := by
  intro p e s m args below meth c ad A H locs ls hB hH hls
  exact lv_ishr hB.1 hB.2.1 hd  (kk p e s m args below meth c ad A H locs ls hB hH hls)
theorem qe_iushr {x y : Int32} (hd : decode (qe_c M) pc = .ok (.iushr, 1))  (kk : qe_J l G M (pc + 1) lv (.int (qm_us x y) :: st) X r X') : qe_J l G M pc lv (.int y :: .int x :: st) X r X' := by
  intro p e s m args below meth c ad A H locs ls hB hH hls
  exact lv_iushr hB.1 hB.2.1 hd rfl (kk p e s m args below meth c ad A H locs ls hB hH hls)
theorem qe_lushr {x : Int64} {y : Int32} (hd : decode (qe_c M) pc = .ok (.lushr, 1))  (kk : qe_J l G M (pc + 1) lv (.long (qm_lu x y) :: st) X r X') : qe_J l G M pc lv (.int y :: .long x :: st) X r X' := by
  intro p e s m args below meth c ad A H locs ls hB hH hls
  exact lv_lushr hB.1 hB.2.1 hd rfl (kk p e s m args below meth c ad A H locs ls hB hH hls)
theorem qe_i2l {x : Int32} (hd : decode (qe_c M) pc = .ok (.i2l, 1))  (kk : qe_J l G M (pc + 1) lv (.long x.toInt64 :: st) X r X') : qe_J l G M pc lv (.int x :: st) X r X' := by
  intro p e s m args below meth c ad A H locs ls hB hH hls
  exact lv_i2l hB.1 hB.2.1 hd rfl (kk p e s m args below meth c ad A H locs ls hB hH hls)
theorem qe_l2i {x : Int64} (hd : decode (qe_c M) pc = .ok (.l2i, 1))  (kk : qe_J l G M (pc + 1) lv (.int x.toInt32 :: st) X r X') : qe_J l G M pc lv (.long x :: st) X r X' := by
  intro p e s m args below meth c ad A H locs ls hB hH hls
  exact lv_l2i hB.1 hB.2.1 hd rfl (kk p e s m args below meth c ad A H locs ls hB hH hls)
theorem qe_i2c {x : Int32} (hd : decode (qe_c M) pc = .ok (.i2c, 1))  (kk : qe_J l G M (pc + 1) lv (.int (x.toUInt32 % 65536).toInt32 :: st) X r X') : qe_J l G M pc lv (.int x :: st) X r X' := by
  intro p e s m args below meth c ad A H locs ls hB hH hls
  exact lv_i2c hB.1 hB.2.1 hd rfl (kk p e s m args below meth c ad A H locs ls hB hH hls)
theorem qe_iconst {n : Int} {v : Int32} (hd : decode (qe_c M) pc = .ok (.iconst n, 1)) (hv : Int32.ofInt n = v) (kk : qe_J l G M (pc + 1) lv (.int v :: st) X r X') : qe_J l G M pc lv (st) X r X' := by
  intro p e s m args below meth c ad A H locs ls hB hH hls
  exact lv_iconst hB.1 hB.2.1 hd hv (kk p e s m args below meth c ad A H locs ls hB hH hls)
theorem qe_bipush {n : Int} {v : Int32} (hd : decode (qe_c M) pc = .ok (.bipush n, 2)) (hv : (Int8.ofInt n).toInt32 = v) (kk : qe_J l G M (pc + 2) lv (.int v :: st) X r X') : qe_J l G M pc lv (st) X r X' := by
  intro p e s m args below meth c ad A H locs ls hB hH hls
  exact lv_bipush hB.1 hB.2.1 hd hv (kk p e s m args below meth c ad A H locs ls hB hH hls)
theorem qe_sipush {n : Int} {v : Int32} (hd : decode (qe_c M) pc = .ok (.sipush n, 3)) (hv : (Int16.ofInt n).toInt32 = v) (kk : qe_J l G M (pc + 3) lv (.int v :: st) X r X') : qe_J l G M pc lv (st) X r X' := by
  intro p e s m args below meth c ad A H locs ls hB hH hls
  exact lv_sipush hB.1 hB.2.1 hd hv (kk p e s m args below meth c ad A H locs ls hB hH hls)
theorem qe_lconst {n : Fin 2} {v : Int64} (hd : decode (qe_c M) pc = .ok (.lconst n, 1)) (hv : Int64.ofNat (n : Nat) = v) (kk : qe_J l G M (pc + 1) lv (.long v :: st) X r X') : qe_J l G M pc lv (st) X r X' := by
  intro p e s m args below meth c ad A H locs ls hB hH hls
  exact lv_lconst hB.1 hB.2.1 hd hv (kk p e s m args below meth c ad A H locs ls hB hH hls)
theorem qe_null  (hd : decode (qe_c M) pc = .ok (.aconst_null, 1))  (kk : qe_J l G M (pc + 1) lv (.null :: st) X r X') : qe_J l G M pc lv (st) X r X' := by
  intro p e s m args below meth c ad A H locs ls hB hH hls
  exact lv_null hB.1 hB.2.1 hd  (kk p e s m args below meth c ad A H locs ls hB hH hls)
theorem qe_dup {v : Value} (hd : decode (qe_c M) pc = .ok (.dup, 1)) (h1 : v.category = 1) (kk : qe_J l G M (pc + 1) lv (v :: v :: st) X r X') : qe_J l G M pc lv (v :: st) X r X' := by
  intro p e s m args below meth c ad A H locs ls hB hH hls
  exact lv_dup hB.1 hB.2.1 hd (by rw [qe_v_cat]; exact h1) (kk p e s m args below meth c ad A H locs ls hB hH hls)
theorem qe_pop {v : Value} (hd : decode (qe_c M) pc = .ok (.pop, 1)) (h1 : v.category = 1) (kk : qe_J l G M (pc + 1) lv (st) X r X') : qe_J l G M pc lv (v :: st) X r X' := by
  intro p e s m args below meth c ad A H locs ls hB hH hls
  exact lv_pop hB.1 hB.2.1 hd (by rw [qe_v_cat]; exact h1) (kk p e s m args below meth c ad A H locs ls hB hH hls)
theorem qe_dup_x1 {v w : Value} (hd : decode (qe_c M) pc = .ok (.dup_x1, 1)) (h1 : v.category = 1) (h2 : w.category = 1) (kk : qe_J l G M (pc + 1) lv (v :: w :: v :: st) X r X') : qe_J l G M pc lv (v :: w :: st) X r X' := by
  intro p e s m args below meth c ad A H locs ls hB hH hls
  exact lv_dup_x1 hB.1 hB.2.1 hd (by rw [qe_v_cat]; exact h1) (by rw [qe_v_cat]; exact h2) (kk p e s m args below meth c ad A H locs ls hB hH hls)
theorem qe_dup_x2 {v w z : Value} (hd : decode (qe_c M) pc = .ok (.dup_x2, 1)) (h1 : v.category = 1) (h2 : w.category = 1) (h3 : z.category = 1) (kk : qe_J l G M (pc + 1) lv (v :: w :: z :: v :: st) X r X') : qe_J l G M pc lv (v :: w :: z :: st) X r X' := by
  intro p e s m args below meth c ad A H locs ls hB hH hls
  exact lv_dup_x2 hB.1 hB.2.1 hd (by rw [qe_v_cat]; exact h1) (by rw [qe_v_cat]; exact h2) (by rw [qe_v_cat]; exact h3) (kk p e s m args below meth c ad A H locs ls hB hH hls)
theorem qe_dup2 {v w : Value} (hd : decode (qe_c M) pc = .ok (.dup2, 1)) (h1 : v.category = 1) (h2 : w.category = 1) (kk : qe_J l G M (pc + 1) lv (v :: w :: v :: w :: st) X r X') : qe_J l G M pc lv (v :: w :: st) X r X' := by
  intro p e s m args below meth c ad A H locs ls hB hH hls
  exact lv_dup2_11 hB.1 hB.2.1 hd (by rw [qe_v_cat]; exact h1) (by rw [qe_v_cat]; exact h2) (kk p e s m args below meth c ad A H locs ls hB hH hls)
theorem qe_iload_n {q : Fin 4} {i : Nat} {x : Int32} (hd : decode (qe_c M) pc = .ok (.iload_n q, 1)) (k : Nat) (hl : lv[k]? = some (i, .int x)) (hi : (q : Nat) = i) (kk : qe_J l G M (pc + 1) lv (.int x :: st) X r X') : qe_J l G M pc lv (st) X r X' := by
  intro p e s m args below meth c ad A H locs ls hB hH hls
  exact lv_iload_n hB.1 hB.2.1 hd hi (lv_at hls k (qe_lvget hl)) (kk p e s m args below meth c ad A H locs ls hB hH hls)
theorem qe_iload {i : Nat} {x : Int32} (hd : decode (qe_c M) pc = .ok (.iload i, 2)) (k : Nat) (hl : lv[k]? = some (i, .int x)) (kk : qe_J l G M (pc + 2) lv (.int x :: st) X r X') : qe_J l G M pc lv (st) X r X' := by
  intro p e s m args below meth c ad A H locs ls hB hH hls
  exact lv_iload hB.1 hB.2.1 hd (lv_at hls k (qe_lvget hl)) (kk p e s m args below meth c ad A H locs ls hB hH hls)
theorem qe_lload_n {q : Fin 4} {i : Nat} {x : Int64} (hd : decode (qe_c M) pc = .ok (.lload_n q, 1)) (k : Nat) (hl : lv[k]? = some (i, .long x)) (hi : (q : Nat) = i) (kk : qe_J l G M (pc + 1) lv (.long x :: st) X r X') : qe_J l G M pc lv (st) X r X' := by
  intro p e s m args below meth c ad A H locs ls hB hH hls
  exact lv_lload_n hB.1 hB.2.1 hd hi (lv_at hls k (qe_lvget hl)) (kk p e s m args below meth c ad A H locs ls hB hH hls)
theorem qe_lload {i : Nat} {x : Int64} (hd : decode (qe_c M) pc = .ok (.lload i, 2)) (k : Nat) (hl : lv[k]? = some (i, .long x)) (kk : qe_J l G M (pc + 2) lv (.long x :: st) X r X') : qe_J l G M pc lv (st) X r X' := by
  intro p e s m args below meth c ad A H locs ls hB hH hls
  exact lv_lload hB.1 hB.2.1 hd (lv_at hls k (qe_lvget hl)) (kk p e s m args below meth c ad A H locs ls hB hH hls)
theorem qe_aload_n {q : Fin 4} {i : Nat} {v : Value} (hd : decode (qe_c M) pc = .ok (.aload_n q, 1)) (k : Nat) (hl : lv[k]? = some (i, v)) (hi : (q : Nat) = i) (hv : qe_isr v) (kk : qe_J l G M (pc + 1) lv (v :: st) X r X') : qe_J l G M pc lv (st) X r X' := by
  intro p e s m args below meth c ad A H locs ls hB hH hls
  have e0 := lv_at hls k (qe_lvget hl)
  have kk := kk p e s m args below meth c ad A H locs ls hB hH hls
  rw [List.map_cons] at kk
  rcases qe_isr_cases (G := G) (ad := ad) hv with z | ⟨a, z⟩
  · rw [z] at e0 kk; exact lv_aload_nN hB.1 hB.2.1 hd hi e0 kk
  · rw [z] at e0 kk; exact lv_aload_n hB.1 hB.2.1 hd hi e0 kk
theorem qe_aload {i : Nat} {v : Value} (hd : decode (qe_c M) pc = .ok (.aload i, 2)) (k : Nat) (hl : lv[k]? = some (i, v)) (hv : qe_isr v) (kk : qe_J l G M (pc + 2) lv (v :: st) X r X') : qe_J l G M pc lv (st) X r X' := by
  intro p e s m args below meth c ad A H locs ls hB hH hls
  have e0 := lv_at hls k (qe_lvget hl)
  have kk := kk p e s m args below meth c ad A H locs ls hB hH hls
  rw [List.map_cons] at kk
  rcases qe_isr_cases (G := G) (ad := ad) hv with z | ⟨a, z⟩
  · rw [z] at e0 kk; exact lv_aloadN hB.1 hB.2.1 hd  e0 kk
  · rw [z] at e0 kk; exact lv_aload hB.1 hB.2.1 hd  e0 kk
theorem qe_istore_n {q : Fin 4} {i : Nat} {x : Int32} (hd : decode (qe_c M) pc = .ok (.istore_n q, 1)) (hl : (i, Value.int x) :: lv.filter (fun q => !(q.1 == i) && !(q.1 + 1 == i && q.2.category == 2)) = lv') (hi : (q : Nat) = i) (hn : i < qe_n M) (kk : qe_J l G M (pc + 1) lv' (st) X r X') : qe_J l G M pc lv (.int x :: st) X r X' := by
  intro p e s m args below meth c ad A H locs ls hB hH hls
  exact lv_istore_n (lv' := lv'.map fun q => (q.1, qe_v G ad q.2)) hB.1 hB.2.1 hd hi hls hn (by subst hl; rw [qe_filt]; rfl) (fun ls hls => kk p e s m args below meth c ad A H locs ls hB hH hls)
theorem qe_istore  {i : Nat} {x : Int32} (hd : decode (qe_c M) pc = .ok (.istore i, 2)) (hl : (i, Value.int x) :: lv.filter (fun q => !(q.1 == i) && !(q.1 + 1 == i && q.2.category == 2)) = lv')  (hn : i < qe_n M) (kk : qe_J l G M (pc + 2) lv' (st) X r X') : qe_J l G M pc lv (.int x :: st) X r X' := by
  intro p e s m args below meth c ad A H locs ls hB hH hls
  exact lv_istore (lv' := lv'.map fun q => (q.1, qe_v G ad q.2)) hB.1 hB.2.1 hd  hls hn (by subst hl; rw [qe_filt]; rfl) (fun ls hls => kk p e s m args below meth c ad A H locs ls hB hH hls)
theorem qe_lstore_n {q : Fin 4} {i : Nat} {x : Int64} (hd : decode (qe_c M) pc = .ok (.lstore_n q, 1)) (hl : (i, Value.long x) :: lv.filter (fun q => !(q.1 == i) && (!(q.1 == i + 1) && !(q.1 + 1 == i && q.2.category == 2))) = lv') (hi : (q : Nat) = i) (hn : i + 1 < qe_n M) (kk : qe_J l G M (pc + 1) lv' (st) X r X') : qe_J l G M pc lv (.long x :: st) X r X' := by
  intro p e s m args below meth c ad A H locs ls hB hH hls
  exact lv_lstore_n (lv' := lv'.map fun q => (q.1, qe_v G ad q.2)) hB.1 hB.2.1 hd hi hls hn (by subst hl; rw [qe_filt2]; rfl) (fun ls hls => kk p e s m args below meth c ad A H locs ls hB hH hls)
theorem qe_lstore  {i : Nat} {x : Int64} (hd : decode (qe_c M) pc = .ok (.lstore i, 2)) (hl : (i, Value.long x) :: lv.filter (fun q => !(q.1 == i) && (!(q.1 == i + 1) && !(q.1 + 1 == i && q.2.category == 2))) = lv')  (hn : i + 1 < qe_n M) (kk : qe_J l G M (pc + 2) lv' (st) X r X') : qe_J l G M pc lv (.long x :: st) X r X' := by
  intro p e s m args below meth c ad A H locs ls hB hH hls
  exact lv_lstore (lv' := lv'.map fun q => (q.1, qe_v G ad q.2)) hB.1 hB.2.1 hd  hls hn (by subst hl; rw [qe_filt2]; rfl) (fun ls hls => kk p e s m args below meth c ad A H locs ls hB hH hls)
theorem qe_astore_n {q : Fin 4} {i : Nat} {v : Value} (hd : decode (qe_c M) pc = .ok (.astore_n q, 1)) (hl : (i, v) :: lv.filter (fun q => !(q.1 == i) && !(q.1 + 1 == i && q.2.category == 2)) = lv') (hi : (q : Nat) = i) (hn : i < qe_n M) (hv : qe_isr v) (kk : qe_J l G M (pc + 1) lv' (st) X r X') : qe_J l G M pc lv (v :: st) X r X' := by
  intro p e s m args below meth c ad A H locs ls hB hH hls
  have kk := fun ls hls => kk p e s m args below meth c ad A H locs ls hB hH hls
  have hf : (i, qe_v G ad v) :: (lv.map fun q => (q.1, qe_v G ad q.2)).filter (fun q => !(q.1 == i) && !(q.1 + 1 == i && q.2.category == 2)) = lv'.map fun q => (q.1, qe_v G ad q.2) := by subst hl; rw [qe_filt]; rfl
  rw [List.map_cons]
  rcases qe_isr_cases (G := G) (ad := ad) hv with z | ⟨a, z⟩
  · rw [z] at hf ⊢; exact lv_astore_nN hB.1 hB.2.1 hd hi hls hn hf kk
  · rw [z] at hf ⊢; exact lv_astore_n hB.1 hB.2.1 hd hi hls hn hf kk
theorem qe_astore {i : Nat} {v : Value} (hd : decode (qe_c M) pc = .ok (.astore i, 2)) (hl : (i, v) :: lv.filter (fun q => !(q.1 == i) && !(q.1 + 1 == i && q.2.category == 2)) = lv') (hn : i < qe_n M) (hv : qe_isr v) (kk : qe_J l G M (pc + 2) lv' (st) X r X') : qe_J l G M pc lv (v :: st) X r X' := by
  intro p e s m args below meth c ad A H locs ls hB hH hls
  have kk := fun ls hls => kk p e s m args below meth c ad A H locs ls hB hH hls
  have hf : (i, qe_v G ad v) :: (lv.map fun q => (q.1, qe_v G ad q.2)).filter (fun q => !(q.1 == i) && !(q.1 + 1 == i && q.2.category == 2)) = lv'.map fun q => (q.1, qe_v G ad q.2) := by subst hl; rw [qe_filt]; rfl
  rw [List.map_cons]
  rcases qe_isr_cases (G := G) (ad := ad) hv with z | ⟨a, z⟩
  · rw [z] at hf ⊢; exact lv_astoreN hB.1 hB.2.1 hd  hls hn hf kk
  · rw [z] at hf ⊢; exact lv_astore hB.1 hB.2.1 hd  hls hn hf kk
theorem qe_iinc {i : Nat} {n : Int} {x v : Int32} (hd : decode (qe_c M) pc = .ok (.iinc i n, 3)) (k : Nat) (hk : lv[k]? = some (i, .int x)) (hv : Int32.ofInt n = v) (hl : (i, Value.int (x + v)) :: lv.filter (fun q => !(q.1 == i) && !(q.1 + 1 == i && q.2.category == 2)) = lv') (hn : i < qe_n M) (kk : qe_J l G M (pc + 3) lv' (st) X r X') : qe_J l G M pc lv (st) X r X' := by
  intro p e s m args below meth c ad A H locs ls hB hH hls
  exact lv_iinc (v := x + v) (lv' := lv'.map fun q => (q.1, qe_v G ad q.2)) hB.1 hB.2.1 hd hls (k := k) (qe_lvget hk) (by rw [hv]) hn (by subst hl; rw [qe_filt]; rfl) (fun ls hls => kk p e s m args below meth c ad A H locs ls hB hH hls)
theorem qe_goto {off : Int} {tgt : Nat} (hd : decode (qe_c M) pc = .ok (.goto off, 3)) (ht : (pc : Int) + off = (tgt : Int)) (kk : qe_J l G M tgt lv (st) X r X') : qe_J l G M pc lv (st) X r X' := by
  intro p e s m args below meth c ad A H locs ls hB hH hls
  exact lv_goto hB.1 hB.2.1 hd ht (kk p e s m args below meth c ad A H locs ls hB hH hls)
theorem qe_if_eq {α : Type} {P Q : Option α} {o : α} {x : Int32} {off : Int} {tgt : Nat} (hd : decode (qe_c M) pc = .ok (.ifCond .eq off, 3)) (ht : (pc : Int) + off = (tgt : Int)) (h : (if x = 0 then P else Q) = some o) (kt : x = 0 → P = some o → qe_J l G M tgt lv (st) X r X') (kf : ¬ x = 0 → Q = some o → qe_J l G M (pc + 3) lv (st) X r X') : qe_J l G M pc lv (.int x :: st) X r X' := by
  intro p e s m args below meth c ad A H locs ls hB hH hls
  refine lv_if_eq hB.1 hB.2.1 hd ht (fun z => ?_) (fun z => ?_)
  · rw [if_pos z] at h; exact kt z h p e s m args below meth c ad A H locs ls hB hH hls
  · rw [if_neg z] at h; exact kf z h p e s m args below meth c ad A H locs ls hB hH hls
theorem qe_icmp_eq {α : Type} {P Q : Option α} {o : α} {x y : Int32} {off : Int} {tgt : Nat} (hd : decode (qe_c M) pc = .ok (.if_icmp .eq off, 3)) (ht : (pc : Int) + off = (tgt : Int)) (h : (if x = y then P else Q) = some o) (kt : x = y → P = some o → qe_J l G M tgt lv (st) X r X') (kf : ¬ x = y → Q = some o → qe_J l G M (pc + 3) lv (st) X r X') : qe_J l G M pc lv (.int y :: .int x :: st) X r X' := by
  intro p e s m args below meth c ad A H locs ls hB hH hls
  refine lv_icmp_eq hB.1 hB.2.1 hd ht (fun z => ?_) (fun z => ?_)
  · rw [if_pos z] at h; exact kt z h p e s m args below meth c ad A H locs ls hB hH hls
  · rw [if_neg z] at h; exact kf z h p e s m args below meth c ad A H locs ls hB hH hls
theorem qe_if_ne {α : Type} {P Q : Option α} {o : α} {x : Int32} {off : Int} {tgt : Nat} (hd : decode (qe_c M) pc = .ok (.ifCond .ne off, 3)) (ht : (pc : Int) + off = (tgt : Int)) (h : (if x = 0 then P else Q) = some o) (kt : ¬ x = 0 → Q = some o → qe_J l G M tgt lv (st) X r X') (kf : x = 0 → P = some o → qe_J l G M (pc + 3) lv (st) X r X') : qe_J l G M pc lv (.int x :: st) X r X' := by
  intro p e s m args below meth c ad A H locs ls hB hH hls
  refine lv_if_ne hB.1 hB.2.1 hd ht (fun z => ?_) (fun z => ?_)
  · rw [if_neg z] at h; exact kt z h p e s m args below meth c ad A H locs ls hB hH hls
  · rw [if_pos z] at h; exact kf z h p e s m args below meth c ad A H locs ls hB hH hls
theorem qe_icmp_ne {α : Type} {P Q : Option α} {o : α} {x y : Int32} {off : Int} {tgt : Nat} (hd : decode (qe_c M) pc = .ok (.if_icmp .ne off, 3)) (ht : (pc : Int) + off = (tgt : Int)) (h : (if x = y then P else Q) = some o) (kt : ¬ x = y → Q = some o → qe_J l G M tgt lv (st) X r X') (kf : x = y → P = some o → qe_J l G M (pc + 3) lv (st) X r X') : qe_J l G M pc lv (.int y :: .int x :: st) X r X' := by
  intro p e s m args below meth c ad A H locs ls hB hH hls
  refine lv_icmp_ne hB.1 hB.2.1 hd ht (fun z => ?_) (fun z => ?_)
  · rw [if_neg z] at h; exact kt z h p e s m args below meth c ad A H locs ls hB hH hls
  · rw [if_pos z] at h; exact kf z h p e s m args below meth c ad A H locs ls hB hH hls
theorem qe_if_lt {α : Type} {P Q : Option α} {o : α} {x : Int32} {off : Int} {tgt : Nat} (hd : decode (qe_c M) pc = .ok (.ifCond .lt off, 3)) (ht : (pc : Int) + off = (tgt : Int)) (h : (if x < 0 then P else Q) = some o) (kt : x < 0 → P = some o → qe_J l G M tgt lv (st) X r X') (kf : ¬ x < 0 → Q = some o → qe_J l G M (pc + 3) lv (st) X r X') : qe_J l G M pc lv (.int x :: st) X r X' := by
  intro p e s m args below meth c ad A H locs ls hB hH hls
  refine lv_if_lt hB.1 hB.2.1 hd ht (fun z => ?_) (fun z => ?_)
  · rw [if_pos z] at h; exact kt z h p e s m args below meth c ad A H locs ls hB hH hls
  · rw [if_neg z] at h; exact kf z h p e s m args below meth c ad A H locs ls hB hH hls
theorem qe_icmp_lt {α : Type} {P Q : Option α} {o : α} {x y : Int32} {off : Int} {tgt : Nat} (hd : decode (qe_c M) pc = .ok (.if_icmp .lt off, 3)) (ht : (pc : Int) + off = (tgt : Int)) (h : (if x < y then P else Q) = some o) (kt : x < y → P = some o → qe_J l G M tgt lv (st) X r X') (kf : ¬ x < y → Q = some o → qe_J l G M (pc + 3) lv (st) X r X') : qe_J l G M pc lv (.int y :: .int x :: st) X r X' := by
  intro p e s m args below meth c ad A H locs ls hB hH hls
  refine lv_icmp_lt hB.1 hB.2.1 hd ht (fun z => ?_) (fun z => ?_)
  · rw [if_pos z] at h; exact kt z h p e s m args below meth c ad A H locs ls hB hH hls
  · rw [if_neg z] at h; exact kf z h p e s m args below meth c ad A H locs ls hB hH hls
theorem qe_if_ge {α : Type} {P Q : Option α} {o : α} {x : Int32} {off : Int} {tgt : Nat} (hd : decode (qe_c M) pc = .ok (.ifCond .ge off, 3)) (ht : (pc : Int) + off = (tgt : Int)) (h : (if 0 ≤ x then P else Q) = some o) (kt : 0 ≤ x → P = some o → qe_J l G M tgt lv (st) X r X') (kf : ¬ 0 ≤ x → Q = some o → qe_J l G M (pc + 3) lv (st) X r X') : qe_J l G M pc lv (.int x :: st) X r X' := by
  intro p e s m args below meth c ad A H locs ls hB hH hls
  refine lv_if_ge hB.1 hB.2.1 hd ht (fun z => ?_) (fun z => ?_)
  · rw [if_pos z] at h; exact kt z h p e s m args below meth c ad A H locs ls hB hH hls
  · rw [if_neg z] at h; exact kf z h p e s m args below meth c ad A H locs ls hB hH hls
theorem qe_icmp_ge {α : Type} {P Q : Option α} {o : α} {x y : Int32} {off : Int} {tgt : Nat} (hd : decode (qe_c M) pc = .ok (.if_icmp .ge off, 3)) (ht : (pc : Int) + off = (tgt : Int)) (h : (if y ≤ x then P else Q) = some o) (kt : y ≤ x → P = some o → qe_J l G M tgt lv (st) X r X') (kf : ¬ y ≤ x → Q = some o → qe_J l G M (pc + 3) lv (st) X r X') : qe_J l G M pc lv (.int y :: .int x :: st) X r X' := by
  intro p e s m args below meth c ad A H locs ls hB hH hls
  refine lv_icmp_ge hB.1 hB.2.1 hd ht (fun z => ?_) (fun z => ?_)
  · rw [if_pos z] at h; exact kt z h p e s m args below meth c ad A H locs ls hB hH hls
  · rw [if_neg z] at h; exact kf z h p e s m args below meth c ad A H locs ls hB hH hls
theorem qe_if_gt {α : Type} {P Q : Option α} {o : α} {x : Int32} {off : Int} {tgt : Nat} (hd : decode (qe_c M) pc = .ok (.ifCond .gt off, 3)) (ht : (pc : Int) + off = (tgt : Int)) (h : (if 0 < x then P else Q) = some o) (kt : 0 < x → P = some o → qe_J l G M tgt lv (st) X r X') (kf : ¬ 0 < x → Q = some o → qe_J l G M (pc + 3) lv (st) X r X') : qe_J l G M pc lv (.int x :: st) X r X' := by
  intro p e s m args below meth c ad A H locs ls hB hH hls
  refine lv_if_gt hB.1 hB.2.1 hd ht (fun z => ?_) (fun z => ?_)
  · rw [if_pos z] at h; exact kt z h p e s m args below meth c ad A H locs ls hB hH hls
  · rw [if_neg z] at h; exact kf z h p e s m args below meth c ad A H locs ls hB hH hls
theorem qe_icmp_gt {α : Type} {P Q : Option α} {o : α} {x y : Int32} {off : Int} {tgt : Nat} (hd : decode (qe_c M) pc = .ok (.if_icmp .gt off, 3)) (ht : (pc : Int) + off = (tgt : Int)) (h : (if y < x then P else Q) = some o) (kt : y < x → P = some o → qe_J l G M tgt lv (st) X r X') (kf : ¬ y < x → Q = some o → qe_J l G M (pc + 3) lv (st) X r X') : qe_J l G M pc lv (.int y :: .int x :: st) X r X' := by
  intro p e s m args below meth c ad A H locs ls hB hH hls
  refine lv_icmp_gt hB.1 hB.2.1 hd ht (fun z => ?_) (fun z => ?_)
  · rw [if_pos z] at h; exact kt z h p e s m args below meth c ad A H locs ls hB hH hls
  · rw [if_neg z] at h; exact kf z h p e s m args below meth c ad A H locs ls hB hH hls
theorem qe_if_le {α : Type} {P Q : Option α} {o : α} {x : Int32} {off : Int} {tgt : Nat} (hd : decode (qe_c M) pc = .ok (.ifCond .le off, 3)) (ht : (pc : Int) + off = (tgt : Int)) (h : (if x ≤ 0 then P else Q) = some o) (kt : x ≤ 0 → P = some o → qe_J l G M tgt lv (st) X r X') (kf : ¬ x ≤ 0 → Q = some o → qe_J l G M (pc + 3) lv (st) X r X') : qe_J l G M pc lv (.int x :: st) X r X' := by
  intro p e s m args below meth c ad A H locs ls hB hH hls
  refine lv_if_le hB.1 hB.2.1 hd ht (fun z => ?_) (fun z => ?_)
  · rw [if_pos z] at h; exact kt z h p e s m args below meth c ad A H locs ls hB hH hls
  · rw [if_neg z] at h; exact kf z h p e s m args below meth c ad A H locs ls hB hH hls
theorem qe_icmp_le {α : Type} {P Q : Option α} {o : α} {x y : Int32} {off : Int} {tgt : Nat} (hd : decode (qe_c M) pc = .ok (.if_icmp .le off, 3)) (ht : (pc : Int) + off = (tgt : Int)) (h : (if x ≤ y then P else Q) = some o) (kt : x ≤ y → P = some o → qe_J l G M tgt lv (st) X r X') (kf : ¬ x ≤ y → Q = some o → qe_J l G M (pc + 3) lv (st) X r X') : qe_J l G M pc lv (.int y :: .int x :: st) X r X' := by
  intro p e s m args below meth c ad A H locs ls hB hH hls
  refine lv_icmp_le hB.1 hB.2.1 hd ht (fun z => ?_) (fun z => ?_)
  · rw [if_pos z] at h; exact kt z h p e s m args below meth c ad A H locs ls hB hH hls
  · rw [if_neg z] at h; exact kf z h p e s m args below meth c ad A H locs ls hB hH hls
theorem qe_lcmp_eq {α : Type} {P Q : Option α} {o : α} {x y : Int64} {off : Int} {tgt : Nat} (hd : decode (qe_c M) pc = .ok (.lcmp, 1)) (hd2 : decode (qe_c M) (pc + 1) = .ok (.ifCond .eq off, 3)) (ht : ((pc + 1 : Nat) : Int) + off = (tgt : Int)) (h : (if x = y then P else Q) = some o) (kt : x = y → P = some o → qe_J l G M tgt lv (st) X r X') (kf : ¬ x = y → Q = some o → qe_J l G M (pc + 4) lv (st) X r X') : qe_J l G M pc lv (.long y :: .long x :: st) X r X' := by
  intro p e s m args below meth c ad A H locs ls hB hH hls
  refine W.lcmp hB.1 hB.2.1 hd ?_
  refine lv_if_eq hB.1 hB.2.1 hd2 ht (fun z => ?_) (fun z => ?_)
  · have z := qe_cmp_eq.mp z; rw [if_pos z] at h; exact kt z h p e s m args below meth c ad A H locs ls hB hH hls
  · have z := (not_congr qe_cmp_eq).mp z; rw [if_neg z] at h; exact kf z h p e s m args below meth c ad A H locs ls hB hH hls
theorem qe_lcmp_ne {α : Type} {P Q : Option α} {o : α} {x y : Int64} {off : Int} {tgt : Nat} (hd : decode (qe_c M) pc = .ok (.lcmp, 1)) (hd2 : decode (qe_c M) (pc + 1) = .ok (.ifCond .ne off, 3)) (ht : ((pc + 1 : Nat) : Int) + off = (tgt : Int)) (h : (if x = y then P else Q) = some o) (kt : ¬ x = y → Q = some o → qe_J l G M tgt lv (st) X r X') (kf : x = y → P = some o → qe_J l G M (pc + 4) lv (st) X r X') : qe_J l G M pc lv (.long y :: .long x :: st) X r X' := by
  intro p e s m args below meth c ad A H locs ls hB hH hls
  refine W.lcmp hB.1 hB.2.1 hd ?_
  refine lv_if_ne hB.1 hB.2.1 hd2 ht (fun z => ?_) (fun z => ?_)
  · have z := (not_congr qe_cmp_eq).mp z; rw [if_neg z] at h; exact kt z h p e s m args below meth c ad A H locs ls hB hH hls
  · have z := qe_cmp_eq.mp z; rw [if_pos z] at h; exact kf z h p e s m args below meth c ad A H locs ls hB hH hls
theorem qe_lcmp_lt {α : Type} {P Q : Option α} {o : α} {x y : Int64} {off : Int} {tgt : Nat} (hd : decode (qe_c M) pc = .ok (.lcmp, 1)) (hd2 : decode (qe_c M) (pc + 1) = .ok (.ifCond .lt off, 3)) (ht : ((pc + 1 : Nat) : Int) + off = (tgt : Int)) (h : (if x < y then P else Q) = some o) (kt : x < y → P = some o → qe_J l G M tgt lv (st) X r X') (kf : ¬ x < y → Q = some o → qe_J l G M (pc + 4) lv (st) X r X') : qe_J l G M pc lv (.long y :: .long x :: st) X r X' := by
  intro p e s m args below meth c ad A H locs ls hB hH hls
  refine W.lcmp hB.1 hB.2.1 hd ?_
  refine lv_if_lt hB.1 hB.2.1 hd2 ht (fun z => ?_) (fun z => ?_)
  · have z := qe_cmp_lt.mp z; rw [if_pos z] at h; exact kt z h p e s m args below meth c ad A H locs ls hB hH hls
  · have z := (not_congr qe_cmp_lt).mp z; rw [if_neg z] at h; exact kf z h p e s m args below meth c ad A H locs ls hB hH hls
theorem qe_lcmp_ge {α : Type} {P Q : Option α} {o : α} {x y : Int64} {off : Int} {tgt : Nat} (hd : decode (qe_c M) pc = .ok (.lcmp, 1)) (hd2 : decode (qe_c M) (pc + 1) = .ok (.ifCond .ge off, 3)) (ht : ((pc + 1 : Nat) : Int) + off = (tgt : Int)) (h : (if y ≤ x then P else Q) = some o) (kt : y ≤ x → P = some o → qe_J l G M tgt lv (st) X r X') (kf : ¬ y ≤ x → Q = some o → qe_J l G M (pc + 4) lv (st) X r X') : qe_J l G M pc lv (.long y :: .long x :: st) X r X' := by
  intro p e s m args below meth c ad A H locs ls hB hH hls
  refine W.lcmp hB.1 hB.2.1 hd ?_
  refine lv_if_ge hB.1 hB.2.1 hd2 ht (fun z => ?_) (fun z => ?_)
  · have z := qe_cmp_ge.mp z; rw [if_pos z] at h; exact kt z h p e s m args below meth c ad A H locs ls hB hH hls
  · have z := (not_congr qe_cmp_ge).mp z; rw [if_neg z] at h; exact kf z h p e s m args below meth c ad A H locs ls hB hH hls
theorem qe_lcmp_gt {α : Type} {P Q : Option α} {o : α} {x y : Int64} {off : Int} {tgt : Nat} (hd : decode (qe_c M) pc = .ok (.lcmp, 1)) (hd2 : decode (qe_c M) (pc + 1) = .ok (.ifCond .gt off, 3)) (ht : ((pc + 1 : Nat) : Int) + off = (tgt : Int)) (h : (if y < x then P else Q) = some o) (kt : y < x → P = some o → qe_J l G M tgt lv (st) X r X') (kf : ¬ y < x → Q = some o → qe_J l G M (pc + 4) lv (st) X r X') : qe_J l G M pc lv (.long y :: .long x :: st) X r X' := by
  intro p e s m args below meth c ad A H locs ls hB hH hls
  refine W.lcmp hB.1 hB.2.1 hd ?_
  refine lv_if_gt hB.1 hB.2.1 hd2 ht (fun z => ?_) (fun z => ?_)
  · have z := qe_cmp_gt.mp z; rw [if_pos z] at h; exact kt z h p e s m args below meth c ad A H locs ls hB hH hls
  · have z := (not_congr qe_cmp_gt).mp z; rw [if_neg z] at h; exact kf z h p e s m args below meth c ad A H locs ls hB hH hls
theorem qe_lcmp_le {α : Type} {P Q : Option α} {o : α} {x y : Int64} {off : Int} {tgt : Nat} (hd : decode (qe_c M) pc = .ok (.lcmp, 1)) (hd2 : decode (qe_c M) (pc + 1) = .ok (.ifCond .le off, 3)) (ht : ((pc + 1 : Nat) : Int) + off = (tgt : Int)) (h : (if x ≤ y then P else Q) = some o) (kt : x ≤ y → P = some o → qe_J l G M tgt lv (st) X r X') (kf : ¬ x ≤ y → Q = some o → qe_J l G M (pc + 4) lv (st) X r X') : qe_J l G M pc lv (.long y :: .long x :: st) X r X' := by
  intro p e s m args below meth c ad A H locs ls hB hH hls
  refine W.lcmp hB.1 hB.2.1 hd ?_
  refine lv_if_le hB.1 hB.2.1 hd2 ht (fun z => ?_) (fun z => ?_)
  · have z := qe_cmp_le.mp z; rw [if_pos z] at h; exact kt z h p e s m args below meth c ad A H locs ls hB hH hls
  · have z := (not_congr qe_cmp_le).mp z; rw [if_neg z] at h; exact kf z h p e s m args below meth c ad A H locs ls hB hH hls
-- divisions
theorem qe_idiv {α : Type} {P : Option α} {o : α} {x y : Int32} (hd : decode (qe_c M) pc = .ok (.idiv, 1)) (h : qm_z y P = some o) (kk : P = some o → qe_J l G M (pc + 1) lv (.int (x / y) :: st) X r X') : qe_J l G M pc lv (.int y :: .int x :: st) X r X' := by
  intro p e s m args below meth c ad A H locs ls hB hH hls
  unfold qm_z at h
  split at h
  · cases h
  · rename_i hne
    exact lv_idiv hB.1 hB.2.1 hd hne (kk h p e s m args below meth c ad A H locs ls hB hH hls)
theorem qe_irem {α : Type} {P : Option α} {o : α} {x y : Int32} (hd : decode (qe_c M) pc = .ok (.irem, 1)) (h : qm_z y P = some o) (kk : P = some o → qe_J l G M (pc + 1) lv (.int (qm_ir x y) :: st) X r X') : qe_J l G M pc lv (.int y :: .int x :: st) X r X' := by
  intro p e s m args below meth c ad A H locs ls hB hH hls
  unfold qm_z at h
  split at h
  · cases h
  · rename_i hne
    exact lv_irem hB.1 hB.2.1 hd hne (kk h p e s m args below meth c ad A H locs ls hB hH hls)
theorem qe_ldiv {α : Type} {P : Option α} {o : α} {x y : Int64} (hd : decode (qe_c M) pc = .ok (.ldiv, 1)) (h : qm_zl y P = some o) (kk : P = some o → qe_J l G M (pc + 1) lv (.long (x / y) :: st) X r X') : qe_J l G M pc lv (.long y :: .long x :: st) X r X' := by
  intro p e s m args below meth c ad A H locs ls hB hH hls
  unfold qm_zl at h
  split at h
  · cases h
  · rename_i hne
    exact lv_ldiv hB.1 hB.2.1 hd hne (kk h p e s m args below meth c ad A H locs ls hB hH hls)
theorem qe_lrem {α : Type} {P : Option α} {o : α} {x y : Int64} (hd : decode (qe_c M) pc = .ok (.lrem, 1)) (h : qm_zl y P = some o) (kk : P = some o → qe_J l G M (pc + 1) lv (.long (qm_lr x y) :: st) X r X') : qe_J l G M pc lv (.long y :: .long x :: st) X r X' := by
  intro p e s m args below meth c ad A H locs ls hB hH hls
  unfold qm_zl at h
  split at h
  · cases h
  · rename_i hne
    exact lv_lrem hB.1 hB.2.1 hd hne (kk h p e s m args below meth c ad A H locs ls hB hH hls)
-- names
theorem qe_let_i {α : Type} {F : Int32 → Option α} {o : α} {x : Int32} (h : qm_l x F = some o) (kk : ∀ y : Int32, F y = some o → qe_J l G M pc lv (.int y :: st) X r X') : qe_J l G M pc lv (.int x :: st) X r X' := kk x h
theorem qe_let_l {α : Type} {F : Int64 → Option α} {o : α} {x : Int64} (h : qm_l x F = some o) (kk : ∀ y : Int64, F y = some o → qe_J l G M pc lv (.long y :: st) X r X') : qe_J l G M pc lv (.long x :: st) X r X' := kk x h
-- constants out of the pool
theorem qe_ldc {idx : Nat} {v : Int32} (hw : Cond.constant (qe_y M).cls idx v ∈ qe_bg) (hd : decode (qe_c M) pc = .ok (.ldc idx, 2)) (kk : qe_J l G M (pc + 2) lv (.int v :: st) X r X') : qe_J l G M pc lv st X r X' := by
  intro p e s m args below meth c ad A H locs ls hB hH hls
  exact lv_ldc hB.1 hB.2.1 hB.2.2.2.2.2.1 (hB.2.2.2.2.2.2.1 _ hw) hd (kk p e s m args below meth c ad A H locs ls hB hH hls)
theorem qe_ldcw {idx : Nat} {v : Int32} (hw : Cond.constant (qe_y M).cls idx v ∈ qe_bg) (hd : decode (qe_c M) pc = .ok (.ldc_w idx, 3)) (kk : qe_J l G M (pc + 3) lv (.int v :: st) X r X') : qe_J l G M pc lv st X r X' := by
  intro p e s m args below meth c ad A H locs ls hB hH hls
  exact lv_ldcw hB.1 hB.2.1 hB.2.2.2.2.2.1 (hB.2.2.2.2.2.2.1 _ hw) hd (kk p e s m args below meth c ad A H locs ls hB hH hls)
theorem qe_ldc2 {idx : Nat} {v : Int64} (hw : Cond.constantLong (qe_y M).cls idx v ∈ qe_bg) (hd : decode (qe_c M) pc = .ok (.ldc2_w idx, 3)) (kk : qe_J l G M (pc + 3) lv (.long v :: st) X r X') : qe_J l G M pc lv st X r X' := by
  intro p e s m args below meth c ad A H locs ls hB hH hls
  exact lv_ldc2 hB.1 hB.2.1 hB.2.2.2.2.2.1 (hB.2.2.2.2.2.2.1 _ hw) hd (kk p e s m args below meth c ad A H locs ls hB hH hls)
-- null or not
theorem qe_ifnull_r {k : Nat} {off : Int} (hd : decode (qe_c M) pc = .ok (.ifnull off, 3)) (kk : qe_J l G M (pc + 3) lv st X r X') : qe_J l G M pc lv (.ref k :: st) X r X' := by
  intro p e s m args below meth c ad A H locs ls hB hH hls
  exact lv_ifnull hB.1 hB.2.1 hd (kk p e s m args below meth c ad A H locs ls hB hH hls)
theorem qe_ifnull_n {off : Int} {tgt : Nat} (hd : decode (qe_c M) pc = .ok (.ifnull off, 3)) (ht : (pc : Int) + off = (tgt : Int)) (kk : qe_J l G M tgt lv st X r X') : qe_J l G M pc lv (.null :: st) X r X' := by
  intro p e s m args below meth c ad A H locs ls hB hH hls
  exact lv_ifnullN hB.1 hB.2.1 hd ht (kk p e s m args below meth c ad A H locs ls hB hH hls)
theorem qe_ifnonnull_r {k : Nat} {off : Int} {tgt : Nat} (hd : decode (qe_c M) pc = .ok (.ifnonnull off, 3)) (ht : (pc : Int) + off = (tgt : Int)) (kk : qe_J l G M tgt lv st X r X') : qe_J l G M pc lv (.ref k :: st) X r X' := by
  intro p e s m args below meth c ad A H locs ls hB hH hls
  exact lv_ifnonnull hB.1 hB.2.1 hd ht (kk p e s m args below meth c ad A H locs ls hB hH hls)
theorem qe_ifnonnull_n {off : Int} (hd : decode (qe_c M) pc = .ok (.ifnonnull off, 3)) (kk : qe_J l G M (pc + 3) lv st X r X') : qe_J l G M pc lv (.null :: st) X r X' := by
  intro p e s m args below meth c ad A H locs ls hB hH hls
  exact lv_ifnonnullN hB.1 hB.2.1 hd (kk p e s m args below meth c ad A H locs ls hB hH hls)
-- switches: one case at a time (the switch stays), then what is left
theorem qe_tsw_in {α : Type} {P Q : Option α} {o : α} {dflt lo hi : Int} {offs : Array Int} {len : Nat} {x v : Int32} {off : Int} {tgt : Nat} (hd : decode (qe_c M) pc = .ok (.tableswitch dflt lo hi offs, len)) (h1 : ¬ v.toInt < lo) (h2 : ¬ hi < v.toInt) (ho : offs[(v.toInt - lo).toNat]? = some off) (ht : (pc : Int) + off = (tgt : Int)) (h : (if x = v then P else Q) = some o) (k1 : P = some o → qe_J l G M tgt lv st X r X') (k2 : ¬ x = v → Q = some o → qe_J l G M pc lv (.int x :: st) X r X') : qe_J l G M pc lv (.int x :: st) X r X' := by
  intro p e s m args below meth c ad A H locs ls hB hH hls
  by_cases hx : x = v
  · rw [if_pos hx] at h
    subst hx
    exact lv_tableIn hB.1 hB.2.1 hd h1 h2 ho ht (k1 h p e s m args below meth c ad A H locs ls hB hH hls)
  · rw [if_neg hx] at h
    exact k2 hx h p e s m args below meth c ad A H locs ls hB hH hls
theorem qe_tsw_out {dflt lo hi : Int} {offs : Array Int} {len : Nat} {x : Int32} {tgt : Nat} (hd : decode (qe_c M) pc = .ok (.tableswitch dflt lo hi offs, len)) (h : x.toInt < lo ∨ hi < x.toInt) (ht : (pc : Int) + dflt = (tgt : Int)) (kk : qe_J l G M tgt lv st X r X') : qe_J l G M pc lv (.int x :: st) X r X' := by
  intro p e s m args below meth c ad A H locs ls hB hH hls
  exact lv_tableOut hB.1 hB.2.1 hd h ht (kk p e s m args below meth c ad A H locs ls hB hH hls)
theorem qe_lsw_in {α : Type} {P Q : Option α} {o : α} {dflt : Int} {ps : Array (Int × Int)} {len : Nat} {x v : Int32} {off : Int} {tgt : Nat} (hd : decode (qe_c M) pc = .ok (.lookupswitch dflt ps, len)) (hp : (ps.toList.zip (ps.toList.drop 1)).all (fun (a, next) => a.1 < next.1) = true) (ho : Op.lookupswitch.offset ps.toList dflt v.toInt = off) (ht : (pc : Int) + off = (tgt : Int)) (h : (if x = v then P else Q) = some o) (k1 : P = some o → qe_J l G M tgt lv st X r X') (k2 : ¬ x = v → Q = some o → qe_J l G M pc lv (.int x :: st) X r X') : qe_J l G M pc lv (.int x :: st) X r X' := by
  intro p e s m args below meth c ad A H locs ls hB hH hls
  by_cases hx : x = v
  · rw [if_pos hx] at h
    subst hx
    exact lv_lookup hB.1 hB.2.1 hd hp ho ht (k1 h p e s m args below meth c ad A H locs ls hB hH hls)
  · rw [if_neg hx] at h
    exact k2 hx h p e s m args below meth c ad A H locs ls hB hH hls
theorem qe_lsw_out {dflt : Int} {ps : Array (Int × Int)} {len : Nat} {x : Int32} {tgt : Nat} (hd : decode (qe_c M) pc = .ok (.lookupswitch dflt ps, len)) (hp : (ps.toList.zip (ps.toList.drop 1)).all (fun (a, next) => a.1 < next.1) = true) (ho : Op.lookupswitch.offset ps.toList dflt x.toInt = dflt) (ht : (pc : Int) + dflt = (tgt : Int)) (kk : qe_J l G M tgt lv st X r X') : qe_J l G M pc lv (.int x :: st) X r X' := by
  intro p e s m args below meth c ad A H locs ls hB hH hls
  exact lv_lookup hB.1 hB.2.1 hd hp ho ht (kk p e s m args below meth c ad A H locs ls hB hH hls)
-- returns
theorem qe_end {G : qe_G} {ad : Nat → Nat} {A : Nat → Prop} {args : Array Value} {s : State} {H : Heap} {locs : List Loc} {X : List va_E} {r : Option Value} (hH : qe_H G ad A X s.heap H locs) : ∀ t : State, t.heap = H → s.WarmedH t.vm → qe_Q G ad A r X args s (.returned (r.map (qe_v G ad))) t := fun t ht _ =>
  ⟨⟨rfl, by rw [ht]; exact hH.1, hH.2.1⟩, hH.2.2.F ht⟩
theorem qe_iret {v : Int32} (hd : decode (qe_c M) pc = .ok (.ireturn, 1)) (hr : qe_r M = some .int) : qe_J l G M pc lv [.int v] X (some (.int v)) X := by
  intro p e s m args below meth c ad A H locs ls hB hH hls
  exact W.iret (v := v) hB.1 hB.2.1 (hB.2.2.1.trans hr) (qe_end (r := some (.int v)) hH) hH.2.2.2.2 hd hB.2.2.2.2.1
theorem qe_zret {α : Type} {P : Option α} {o : α} {v : Int32} (hd : decode (qe_c M) pc = .ok (.ireturn, 1)) (hr : qe_r M = some .boolean) (h : qm_bo v P = some o) (kk : P = some o → r = some (.int v) ∧ X' = X) : qe_J l G M pc lv [.int v] X r X' := by
  unfold qm_bo at h
  split at h
  · rename_i hv
    obtain ⟨rfl, rfl⟩ := kk h
    intro p e s m args below meth c ad A H locs ls hB hH hls
    exact W.zret (v := v) hB.1 hB.2.1 (hB.2.2.1.trans hr) (by rcases hv with rfl | rfl <;> rfl) (qe_end (r := some (.int v)) hH) hH.2.2.2.2 hd hB.2.2.2.2.1
  · cases h
theorem qe_nret {v : Int32} {t : FieldType} (hd : decode (qe_c M) pc = .ok (.ireturn, 1)) (hr : qe_r M = some t) (hn : narrow t (.int v) = .int v) : qe_J l G M pc lv [.int v] X (some (.int v)) X := by
  intro p e s m args below meth c ad A H locs ls hB hH hls
  exact W.zret (v := v) hB.1 hB.2.1 (hB.2.2.1.trans hr) hn (qe_end (r := some (.int v)) hH) hH.2.2.2.2 hd hB.2.2.2.2.1
theorem qe_lret {v : Int64} (hd : decode (qe_c M) pc = .ok (.lreturn, 1)) (hr : qe_r M = some .long) : qe_J l G M pc lv [.long v] X (some (.long v)) X := by
  intro p e s m args below meth c ad A H locs ls hB hH hls
  exact W.lret (v := v) hB.1 hB.2.1 (hB.2.2.1.trans hr) (qe_end (r := some (.long v)) hH) hH.2.2.2.2 hd hB.2.2.2.2.1
theorem qe_vret (hd : decode (qe_c M) pc = .ok (.return_, 1)) (hr : qe_r M = none) : qe_J l G M pc lv [] X none X := by
  intro p e s m args below meth c ad A H locs ls hB hH hls
  exact W.vret hB.1 hB.2.1 (hB.2.2.1.trans hr) (qe_end (r := none) hH) hH.2.2.2.2 hd hB.2.2.2.2.1
theorem qe_aret {v : Value} {n : String} (hd : decode (qe_c M) pc = .ok (.areturn, 1)) (hr : qe_r M = some (.object n)) (hv : qe_isr v) : qe_J l G M pc lv [v] X (some v) X := by
  intro p e s m args below meth c ad A H locs ls hB hH hls
  exact W.aret (v := qe_v G ad v) hB.1 hB.2.1 (hB.2.2.1.trans hr) (Or.inl ⟨_, rfl⟩) (qe_isr_cases hv) (qe_end (r := some v) hH) hH.2.2.2.2 hd hB.2.2.2.2.1
-- fields, over a world as a list
end QJ
def qe_fl (own : String) (idx ci j : Nat) : Prop := ∃ (C : String) (T : u_T) (N : Nat), vwCl[ci]? = some (C, T, N) ∧ j < N ∧ Cond.fieldLink own idx (T j).1 (T j).2.1 (T j).2.2.1 ∈ qe_bg ∧ ∀ w ∈ u_ws C T N, w ∈ qe_bg
def qe_fp (own : String) (idx ci j : Nat) (ty : FieldType) : Prop := ∃ (C : String) (T : u_T) (N : Nat) (ty0 : Nat → FieldType), vwCl[ci]? = some (C, T, N) ∧ j < N ∧ Cond.fieldLink own idx (T j).1 (T j).2.1 (T j).2.2.1 ∈ qe_bg ∧ (∀ w ∈ u_ws C T N, w ∈ qe_bg) ∧ (∀ k, k < N → parseFieldDescriptor (T k).2.2.1 = some (ty0 k)) ∧ (∀ a, a < N → ∀ b, b < N → a ≠ b → (T a).2.1 ≠ (T b).2.1) ∧ (T j).2.2.2 = false ∧ parseFieldDescriptor (T j).2.2.1 = some ty
section QF
variable {l : Launch} {G : qe_G} {M : qe_M} {pc : Nat} {lv lv' : List (Nat × Value)} {st : List Value} {X X' : List va_E} {r : Option Value}
theorem qe_get {k ci j idx : Nat} {fs : List Value} {v : Value} (hX : X[k]? = some (.inr (ci, fs))) (hv : fs[j]? = some v) (hf : qe_fl (qe_y M).cls idx ci j) (hd : decode (qe_c M) pc = .ok (.getfield idx, 3)) (kk : qe_J l G M (pc + 3) lv (v :: st) X r X') : qe_J l G M pc lv (.ref k :: st) X r X' := by
  intro p e s m args below meth c ad A H locs ls hB hH hls
  obtain ⟨C, T, N, hc, hj, hlink, hin⟩ := hf
  have he : (qe_w G ad X)[k]? = some (ad k, .inr (ci, fs.map (qe_v G ad))) := qe_w_at hX
  have hv' : (fs.map (qe_v G ad))[j]? = some (qe_v G ad v) := by rw [List.getElem?_map, hv]; rfl
  exact va_get (D := qe_D G) (cl := vwCl) hB.1 hB.2.1 hB.2.2.2.2.2.2.1 hin hB.2.2.2.2.2.1 hB.2.2.2.2.2.2.2.1 hH.1 k he hc j hj (hB.2.2.2.2.2.2.1 _ hlink) (fun _ h => h) hv' hd (kk p e s m args below meth c ad A H locs ls hB hH hls)
theorem qe_put {k ci j idx : Nat} {fs : List Value} {v : Value} {ty : FieldType} (hX : X[k]? = some (.inr (ci, fs))) (hj : j < fs.length) (hf : qe_fp (qe_y M).cls idx ci j ty) (hn : ∀ ad, narrow ty (qe_v G ad v) = qe_v G ad v) (hfit : ∀ ad, fits ty (qe_v G ad v) = true) (hd : decode (qe_c M) pc = .ok (.putfield idx, 3)) (kk : qe_J l G M (pc + 3) lv st (X.set k (.inr (ci, fs.set j v))) r X') : qe_J l G M pc lv (v :: .ref k :: st) X r X' := by
  intro p e s m args below meth c ad A H locs ls hB hH hls
  obtain ⟨C, T, N, ty0, hc, hjN, hlink, hin, hty, hnm, hfin, hpd⟩ := hf
  have he : (qe_w G ad X)[k]? = some (ad k, .inr (ci, fs.map (qe_v G ad))) := qe_w_at hX
  refine va_put (D := qe_D G) (cl := vwCl) hB.1 hB.2.1 hB.2.2.2.2.2.2.1 hin ty0 hty hnm hB.2.2.2.2.2.1 hB.2.2.2.2.2.2.2.1 hH.1 hH.2.1 hH.2.2 k he hc j hjN (hB.2.2.2.2.2.2.1 _ hlink) (fun _ h => h) hfin hpd (hn ad) (hfit ad) (by rw [List.length_map]; exact hj) hd (fun H1 locs1 hP hD hS => ?_)
  have hw : (qe_w G ad X).set k (ad k, .inr (ci, (fs.map (qe_v G ad)).set j (qe_v G ad v))) = qe_w G ad (X.set k (.inr (ci, fs.set j v))) := by
    rw [← List.map_set]
    exact qe_w_set G ad X k (.inr (ci, fs.set j v))
  rw [hw] at hP hD
  exact kk p e s m args below meth c ad A H1 locs1 ls hB ⟨hP, hD, hS⟩ hls
theorem qe_ild {α : Type} {P : Option α} {o : α} {k n : Nat} {f : Nat → Int32} {i : Int32} (hX : X[k]? = some (.inl (qe_cI G, n, .inl f))) (hd : decode (qe_c M) pc = .ok (.iaload, 1)) (h : qm_g i n P = some o) (kk : P = some o → qe_J l G M (pc + 1) lv (.int (f i.toNatClampNeg) :: st) X r X') : qe_J l G M pc lv (.int i :: .ref k :: st) X r X' := by
  intro p e s m args below meth c ad A H locs ls hB hH hls
  unfold qm_g at h
  split at h
  · cases h
  · rename_i hin
    have he : (qe_w G ad X)[k]? = some (ad k, .inl (qe_cI G, n, .inl f)) := qe_w_at hX
    exact va_iald (D := qe_D G) (cl := vwCl) hB.1 hB.2.1 hB.2.2.2.2.2.2.2.1 hH.1 k 0 he rfl hin hd (kk h p e s m args below meth c ad A H locs ls hB hH hls)
theorem qe_lld {α : Type} {P : Option α} {o : α} {k n : Nat} {f : Nat → Int64} {i : Int32} (hX : X[k]? = some (.inl (qe_cL G, n, .inr (.inl f)))) (hd : decode (qe_c M) pc = .ok (.laload, 1)) (h : qm_g i n P = some o) (kk : P = some o → qe_J l G M (pc + 1) lv (.long (f i.toNatClampNeg) :: st) X r X') : qe_J l G M pc lv (.int i :: .ref k :: st) X r X' := by
  intro p e s m args below meth c ad A H locs ls hB hH hls
  unfold qm_g at h
  split at h
  · cases h
  · rename_i hin
    have he : (qe_w G ad X)[k]? = some (ad k, .inl (qe_cL G, n, .inr (.inl f))) := qe_w_at hX
    exact va_lald (D := qe_D G) (cl := vwCl) hB.1 hB.2.1 hB.2.2.2.2.2.2.2.1 hH.1 k 1 he rfl hin hd (kk h p e s m args below meth c ad A H locs ls hB hH hls)
theorem qe_ald {α : Type} {P : Option α} {o : α} {k n : Nat} {f : Nat → Option Nat} {i : Int32} (hX : X[k]? = some (.inl (qe_cR G, n, .inr (.inr (.inr (.inr f)))))) (hd : decode (qe_c M) pc = .ok (.aaload, 1)) (h : qm_g i n P = some o) (kk : P = some o → qe_J l G M (pc + 1) lv (va_rf (f i.toNatClampNeg) :: st) X r X') : qe_J l G M pc lv (.int i :: .ref k :: st) X r X' := by
  intro p e s m args below meth c ad A H locs ls hB hH hls
  unfold qm_g at h
  split at h
  · cases h
  · rename_i hin
    have he : (qe_w G ad X)[k]? = some (ad k, .inl (qe_cR G, n, .inr (.inr (.inr (.inr (fun j => (f j).map ad)))))) := qe_w_at hX
    have kk := kk h p e s m args below meth c ad A H locs ls hB hH hls
    have e2 : qe_v G ad (va_rf (f i.toNatClampNeg)) = va_rf ((f i.toNatClampNeg).map ad) := by cases f i.toNatClampNeg <;> rfl
    rw [List.map_cons, e2] at kk
    exact va_aldq (D := qe_D G) (cl := vwCl) hB.1 hB.2.1 hB.2.2.2.2.2.2.2.1 hH.1 k 2 he rfl hin hd kk
theorem qe_alen {k n : Nat} {c0 : ClassId} {x : (Nat → Int32) ⊕ (Nat → Int64) ⊕ (Nat → UInt32) ⊕ (Nat → UInt64) ⊕ (Nat → Option Nat)} {v : Int32} (t0 : Nat) {ty : FieldType} (ht : (qe_ty G)[t0]? = some (c0, ty)) (hX : X[k]? = some (.inl (c0, n, x))) (hv : Int32.ofNat n = v) (hd : decode (qe_c M) pc = .ok (.arraylength, 1)) (kk : qe_J l G M (pc + 1) lv (.int v :: st) X r X') : qe_J l G M pc lv (.ref k :: st) X r X' := by
  intro p e s m args below meth c ad A H locs ls hB hH hls
  have he : ∃ y : vp_A, (qe_w G ad X)[k]? = some (ad k, .inl (c0, y)) ∧ y.1 = n := by
    rcases x with f | f | f | f | f
    · exact ⟨_, qe_w_at hX, rfl⟩
    · exact ⟨_, qe_w_at hX, rfl⟩
    · exact ⟨_, qe_w_at hX, rfl⟩
    · exact ⟨_, qe_w_at hX, rfl⟩
    · exact ⟨_, qe_w_at hX, rfl⟩
  obtain ⟨y, he, hy⟩ := he
  exact va_alen (D := qe_D G) (cl := vwCl) hB.1 hB.2.1 hB.2.2.2.2.2.2.2.1 hH.1 k t0 he ht (by rw [hy]; exact hv) hd (kk p e s m args below meth c ad A H locs ls hB hH hls)
theorem qe_ist {α : Type} {P : Option α} {o : α} {k n : Nat} {f : Nat → Int32} {i x : Int32} (hX : X[k]? = some (.inl (qe_cI G, n, .inl f))) (hd : decode (qe_c M) pc = .ok (.iastore, 1)) (h : qm_g i n P = some o) (kk : P = some o → qe_J l G M (pc + 1) lv st (X.set k (.inl (qe_cI G, n, .inl (upd f i.toNatClampNeg x)))) r X') : qe_J l G M pc lv (.int x :: .int i :: .ref k :: st) X r X' := by
  intro p e s m args below meth c ad A H locs ls hB hH hls
  unfold qm_g at h
  split at h
  · cases h
  · rename_i hin
    have he : (qe_w G ad X)[k]? = some (ad k, .inl (qe_cI G, n, .inl f)) := qe_w_at hX
    refine va_iast (D := qe_D G) (cl := vwCl) hB.1 hB.2.1 hB.2.2.2.2.2.2.2.1 hH.1 hH.2.1 hH.2.2 k 0 he rfl hin hd (fun H1 locs1 hP hD hS => ?_)
    have hw : (qe_w G ad X).set k (ad k, .inl (qe_cI G, n, .inl (upd f i.toNatClampNeg x))) = qe_w G ad (X.set k (.inl (qe_cI G, n, .inl (upd f i.toNatClampNeg x)))) := qe_w_set G ad X k (.inl (qe_cI G, n, .inl (upd f i.toNatClampNeg x)))
    rw [hw] at hP hD
    exact kk h p e s m args below meth c ad A H1 locs1 ls hB ⟨hP, hD, hS⟩ hls
theorem qe_lst {α : Type} {P : Option α} {o : α} {k n : Nat} {f : Nat → Int64} {i : Int32} {x : Int64} (hX : X[k]? = some (.inl (qe_cL G, n, .inr (.inl f)))) (hd : decode (qe_c M) pc = .ok (.lastore, 1)) (h : qm_g i n P = some o) (kk : P = some o → qe_J l G M (pc + 1) lv st (X.set k (.inl (qe_cL G, n, .inr (.inl (vp_updL f i.toNatClampNeg x))))) r X') : qe_J l G M pc lv (.long x :: .int i :: .ref k :: st) X r X' := by
  intro p e s m args below meth c ad A H locs ls hB hH hls
  unfold qm_g at h
  split at h
  · cases h
  · rename_i hin
    have he : (qe_w G ad X)[k]? = some (ad k, .inl (qe_cL G, n, .inr (.inl f))) := qe_w_at hX
    refine va_last (D := qe_D G) (cl := vwCl) hB.1 hB.2.1 hB.2.2.2.2.2.2.2.1 hH.1 hH.2.1 hH.2.2 k 1 he rfl hin hd (fun H1 locs1 hP hD hS => ?_)
    have hw : (qe_w G ad X).set k (ad k, .inl (qe_cL G, n, .inr (.inl (vp_updL f i.toNatClampNeg x)))) = qe_w G ad (X.set k (.inl (qe_cL G, n, .inr (.inl (vp_updL f i.toNatClampNeg x))))) := qe_w_set G ad X k (.inl (qe_cL G, n, .inr (.inl (vp_updL f i.toNatClampNeg x))))
    rw [hw] at hP hD
    exact kk h p e s m args below meth c ad A H1 locs1 ls hB ⟨hP, hD, hS⟩ hls
-- calls
theorem qe_sub_A {G : qe_G} {ad : Nat → Nat} {A : Nat → Prop} {X : List va_E} {H0 H : Heap} {locs : List Loc} (hH : qe_H G ad A X H0 H locs) (hA : ∀ q : Nat, H0.size ≤ q → A q) : ∀ q, va_A (qe_w G ad X) H.size q → A q := by
  intro q h
  rcases h with ⟨k, e, h⟩ | h
  · exact hH.2.1.2 k (q, e) h
  · exact hA q (Nat.le_trans hH.2.2.1 h)
theorem qe_pre {G : qe_G} {M : qe_M} {p : Program} {s : State} {m : MethodId} {args : Array Value} {meth : Method} {c : Code} {ad : Nat → Nat} {A : Nat → Prop} {X : List va_E} {H : Heap} {locs : List Loc} (hB : qe_B G M p s m args meth c A) (hH : qe_H G ad A X s.heap H locs) : ∀ U : State, U.heap = H → s.WarmedH U.vm → U.heap.size = H.size ∧ va_P (qe_D G) vwCl (qe_w G ad X) U.heap ∧ qe_K G U ∧ va_D (fun _ => True) (qe_w G ad X) ∧ qe_Z G (va_A (qe_w G ad X) H.size) U U.heap := by
  intro U hU hW
  obtain ⟨-, -, -, -, -, -, -, hK, hZ, hA⟩ := hB
  have hsA := qe_sub_A hH hA
  refine ⟨by rw [hU], by rw [hU]; exact hH.1, va_K.moved hW.alike hK, hH.2.1.weaken (fun _ _ _ _ => trivial), ?_⟩
  rw [hU]
  exact qe_Z_warm hW (qe_Z_narrow (qe_Z_kept hZ (fun a h1 h2 => hH.2.2.2.1 a h1 h2)) hsA)
theorem qe_blind {G : qe_G} {ad : Nat → Nat} {av : List Value} {X : List va_E} {sz : Nat} : FrameBlind (va_Pc (av.map (qe_v G ad)) (fun U => U.heap.size = sz ∧ va_P (qe_D G) vwCl (qe_w G ad X) U.heap ∧ qe_K G U ∧ va_D (fun _ => True) (qe_w G ad X) ∧ qe_Z G (va_A (qe_w G ad X) sz) U U.heap)) := by
  intro a U g mk q
  obtain ⟨q0, q1, q2, q3, q4, q5⟩ := q
  exact ⟨q0, q1, q2, va_K.moved (u := U) (U := U.calling g mk a) (Vm.Alike.refl U.vm) q3, q4, qe_Z_same (u := U) (U := U.calling g mk a) rfl q5⟩
theorem qe_go {r1 : Option Value} {X1 : List va_E} {p : Program} {e : Env} {s : State} {m : MethodId} {args : Array Value} {below : List Frame} {meth : Method} {c : Code} {ad : Nat → Nat} {A : Nat → Prop} {H : Heap} {locs : List Loc} {ls : Array Slot} {st0 : List Value} {a : Array Value} {Qe : State → Prop} {R : Room}
    (hr : va_Run p l e R s m args below meth c H locs 0 0 0 0 (F0 m pc ls st0) (st.map (qe_v G ad)) (qe_Q G ad (va_A (qe_w G ad X) H.size) r1 X1 a) (va_A (qe_w G ad X) H.size))
    (hA : ∀ q : Nat, s.heap.size ≤ q → A q) (hH : qe_H G ad A X s.heap H locs)
    (kk : ∀ (H1 : Heap) (locs1 : List Loc), qe_H G ad A X1 s.heap H1 locs1 → W p l e R s m args below meth c H1 locs1 0 0 Qe (F0 m (pc + 3) ls ((r1.toList ++ st).map (qe_v G ad)))) : W p l e R s m args below meth c H locs 0 0 Qe (F0 m pc ls st0) := by
  intro T hT Y
  obtain ⟨v, st₀, t, T', L, h0, Y', hL, e1, e2, ⟨⟨hv, hP1, hD1⟩, hz, hk⟩, stp⟩ := hr T hT Y
  have hv : v = r1.map (qe_v G ad) := Outcome.returned.inj hv
  subst hv
  rw [h0] at hz hk
  have hsA := qe_sub_A hH hA
  have hS := hH.2.2
  obtain ⟨t2, a1, b1⟩ := kk T'.heap (locs ++ L) ⟨by rw [e1]; exact hP1, hD1.weaken (fun _ q _ h => hsA q.1 h), Nat.le_trans hS.1 (by rw [e1]; exact hz), fun q h1 h2 => by rw [e1, hk q (Nat.lt_of_lt_of_le h1 hS.1) (fun z => h2 (hsA q z))]; exact hS.2.1 q h1 h2, fun q hq => by
      rcases List.mem_append.mp hq with h | h
      · exact hS.2.2 q h
      · exact hsA _ (hL q h)⟩ T' rfl Y'
  refine ⟨t2, stp t2 ?_, b1⟩
  rw [show (r1.map (qe_v G ad)).toList ++ st.map (qe_v G ad) = (r1.toList ++ st).map (qe_v G ad) by cases r1 <;> rfl]
  exact a1
/-- the room and the words that every call of M' out of M needs -/
def qe_rm (M M' : qe_M) (n : Nat) : Prop := Cond.code (qe_y M') (qe_c M') (qe_n M') (qe_r M') ∈ qe_bg ∧ (qe_y M').cls ≠ "java/lang/invoke/MethodHandle" ∧ (qe_y M').cls ≠ "java/lang/invoke/VarHandle" ∧ (parseMethodDescriptor (qe_y M').desc).map (fun d => d.parameters.length) = some n ∧ (qe_R M').frames + 1 ≤ (qe_R M).frames ∧ 8 + (qe_n M' + 11) + (qe_R M').locals ≤ (qe_R M).locals ∧ Cond.initialized (qe_y M').cls ∈ qe_bg
theorem qe_gw {M M' : qe_M} {n : Nat} (h : qe_rm M M' n) : GoodIn qe_bg (qe_ws M') := by
  intro w hw
  rcases List.mem_cons.mp hw with rfl | hw
  · exact ⟨h.1, qe_bg_good _ h.1⟩
  · exact ⟨hw, qe_bg_good _ hw⟩
def qe_kV (M M' : qe_M) (idx n : Nat) : Prop := qe_rm M M' n ∧ Cond.methodLink (qe_y M).cls idx (qe_y M') ∈ qe_bg ∧ Cond.instanceMethod (qe_y M') ∈ qe_bg ∧ Cond.selects (qe_y M').cls (qe_y M') (qe_y M') ∈ qe_bg
def qe_kS (M M' : qe_M) (idx n : Nat) : Prop := qe_rm M M' n ∧ Cond.methodLink (qe_y M).cls idx (qe_y M') ∈ qe_bg ∧ Cond.static (qe_y M') ∈ qe_bg
def qe_kN (M M' : qe_M) (idx n : Nat) : Prop := qe_rm M M' n ∧ ((qe_y M).cls, idx, qe_y M', RX8) ∈ qe_nl ∧ Cond.static (qe_y M') ∈ qe_bg
theorem qe_callB {M M' : qe_M} {idx n : Nat} {p : Program} {s : State} {m : MethodId} {args : Array Value} {meth : Method} {c : Code} {A : Nat → Prop} (hB : qe_B G M p s m args meth c A) (hk : qe_rm M M' n) (hl : Cond.methodLink (qe_y M).cls idx (qe_y M') ∈ qe_bg) : CallB (qe_R M) s args (qe_y M).cls idx (qe_y M') (qe_c M') (qe_n M') (qe_r M') (qe_ws M') (qe_R M') 0 0 n :=
  callB_of n hB.2.2.2.2.2.2.1 (qe_gw hk) rfl rfl rfl (hB.2.2.2.2.2.2.1 _ hk.2.2.2.2.2.2) (hB.2.2.2.2.2.2.1 _ hl) ⟨hk.2.1, hk.2.2.1, hk.2.2.2.1⟩ ⟨hk.2.2.2.2.1, hk.2.2.2.2.2.1⟩
theorem qe_callV {M' : qe_M} {idx n k ci : Nat} {fs av : List Value} {r1 : Option Value} {X1 : List va_E} {st0 : List Value} (hk : qe_kV M M' idx n) (hC : qe_C l G M' (.ref k :: av) X r1 X1) (hX : X[k]? = some (.inr (ci, fs))) (hcl : (vwCl[ci]?).map (fun q => q.1) = some (qe_y M').cls) (hn : av.length = n) (hst : st0 = av.reverse ++ .ref k :: st) (hcat : (st.map fun v => v.category).sum ≤ 8) (hd : decode (qe_c M) pc = .ok (.invokevirtual idx, 3)) (kk : qe_J l G M (pc + 3) lv (r1.toList ++ st) X1 r X') : qe_J l G M pc lv st0 X r X' := by
  intro p e s m args below meth c ad A H locs ls hB hH hls
  subst hst
  obtain ⟨q, hq, hqc⟩ : ∃ q, vwCl[ci]? = some q ∧ q.1 = (qe_y M').cls := by
    cases hq : vwCl[ci]? with
    | none => rw [hq] at hcl; cases hcl
    | some q => rw [hq] at hcl; exact ⟨q, rfl, Option.some.inj hcl⟩
  have hrecv := va_recv (cl := vwCl) (D := qe_D G) hB.2.2.2.2.2.2.2.1 hH.1 hq (qe_w_at (ad := ad) hX)
  rw [hqc] at hrecv
  have hM := hC ad H.size
  have hcw : CallW (qe_R M) s args (qe_y M).cls (qe_y M').cls idx (qe_y M') (qe_c M') (qe_n M') (qe_r M') (qe_ws M') (qe_R M') 0 0 n := ⟨qe_callB hB hk.1 hk.2.1, hB.2.2.2.2.2.2.1 _ hk.2.2.1, hB.2.2.2.2.2.2.1 _ hk.2.2.2⟩
  have hrun := va_runV (p := p) (l := l) (e := e) (R := qe_R M) (s := s) (m := m) (args := args) (below := below) (meth := meth) (c := c) (H := H) (locs := locs) (cells := 0) (slots := 0) (g := F0 m pc ls ((av.reverse ++ .ref k :: st).map (qe_v G ad))) (As := av.map (qe_v G ad)) (rest := st.map (qe_v G ad)) (b := ad k) (Ts := qe_bg) (own := (qe_y M).cls) (nL := qe_n M) ⟨hB.1, hB.2.1, hB.2.2.2.1, hB.2.2.2.2.2.1, hB.2.2.2.2.2.2.1⟩ hM hcw ⟨qe_blind, hrecv, fun U hU hW => ⟨rfl, qe_pre hB hH U hU hW⟩⟩ rfl (by rw [List.length_map]; exact hn) hls.1 (by simp [qe_v]) (qe_room G ad hcat) hd ⟨Nat.le_refl 0, Nat.le_refl 0⟩
  exact qe_go hrun hB.2.2.2.2.2.2.2.2.2 hH (fun H1 locs1 hH1 => kk p e s m args below meth c ad A H1 locs1 ls hB hH1 hls)
theorem qe_callS {M' : qe_M} {idx n : Nat} {av : List Value} {r1 : Option Value} {X1 : List va_E} {st0 : List Value} (hk : qe_kS M M' idx n) (hC : qe_C l G M' av X r1 X1) (hn : av.length = n) (hst : st0 = av.reverse ++ st) (hcat : (st.map fun v => v.category).sum ≤ 8) (hd : decode (qe_c M) pc = .ok (.invokestatic idx, 3)) (kk : qe_J l G M (pc + 3) lv (r1.toList ++ st) X1 r X') : qe_J l G M pc lv st0 X r X' := by
  intro p e s m args below meth c ad A H locs ls hB hH hls
  subst hst
  have hM := hC ad H.size
  have hrun := va_runS (p := p) (l := l) (e := e) (R := qe_R M) (s := s) (m := m) (args := args) (below := below) (meth := meth) (c := c) (H := H) (locs := locs) (cells := 0) (slots := 0) (g := F0 m pc ls ((av.reverse ++ st).map (qe_v G ad))) (As := av.map (qe_v G ad)) (rest := st.map (qe_v G ad)) (Ts := qe_bg) (own := (qe_y M).cls) (nL := qe_n M) ⟨hB.1, hB.2.1, hB.2.2.2.1, hB.2.2.2.2.2.1, hB.2.2.2.2.2.2.1⟩ hM ⟨qe_callB hB hk.1 hk.2.1, hB.2.2.2.2.2.2.1 _ hk.2.2⟩ ⟨qe_blind, fun U hU hW => ⟨rfl, qe_pre hB hH U hU hW⟩⟩ rfl (by rw [List.length_map]; exact hn) hls.1 (by simp) (qe_room G ad hcat) hd ⟨Nat.le_refl 0, Nat.le_refl 0⟩
  exact qe_go hrun hB.2.2.2.2.2.2.2.2.2 hH (fun H1 locs1 hH1 => kk p e s m args below meth c ad A H1 locs1 ls hB hH1 hls)
theorem qe_callN {M' : qe_M} {idx n : Nat} {av : List Value} {r1 : Option Value} {X1 : List va_E} {st0 : List Value} (hk : qe_kN M M' idx n) (hC : qe_C l G M' av X r1 X1) (hn : av.length = n) (hst : st0 = av.reverse ++ st) (hcat : (st.map fun v => v.category).sum ≤ 8) (hd : decode (qe_c M) pc = .ok (.invokestatic idx, 3)) (kk : qe_J l G M (pc + 3) lv (r1.toList ++ st) X1 r X') : qe_J l G M pc lv st0 X r X' := by
  intro p e s m args below meth c ad A H locs ls hB hH hls
  subst hst
  have hM := hC ad H.size
  have hnw := hB.2.2.2.2.2.2.2.2.1.1 _ hk.2.1
  have hcn : va_CN (qe_R M) s args (qe_y M).cls idx (qe_y M') RX8 (qe_c M') (qe_n M') (qe_r M') (qe_ws M') (qe_R M') 0 0 n := va_cnB n hB.2.2.2.2.2.2.1 (qe_gw hk.1) rfl rfl rfl hnw (hB.2.2.2.2.2.2.1 _ hk.1.2.2.2.2.2.2) ⟨hk.1.2.1, hk.1.2.2.1, hk.1.2.2.2.1⟩ ⟨hk.1.2.2.2.2.1, hk.1.2.2.2.2.2.1⟩
  have hrun := va_runSN (p := p) (l := l) (e := e) (R := qe_R M) (s := s) (m := m) (args := args) (below := below) (meth := meth) (c := c) (H := H) (locs := locs) (cells := 0) (slots := 0) (g := F0 m pc ls ((av.reverse ++ st).map (qe_v G ad))) (As := av.map (qe_v G ad)) (rest := st.map (qe_v G ad)) (Ts := qe_bg) (own := (qe_y M).cls) (nL := qe_n M) ⟨hB.1, hB.2.1, hB.2.2.2.1, hB.2.2.2.2.2.1, hB.2.2.2.2.2.2.1⟩ hM ⟨hcn, hB.2.2.2.2.2.2.1 _ hk.2.2, trivial⟩ ⟨qe_blind, fun U hU hW => ⟨rfl, qe_pre hB hH U hU hW⟩⟩ rfl (by rw [List.length_map]; exact hn) hls.1 (by simp) (qe_room G ad hcat) hd ⟨Nat.le_refl 0, Nat.le_refl 0⟩
  exact qe_go hrun hB.2.2.2.2.2.2.2.2.2 hH (fun H1 locs1 hH1 => kk p e s m args below meth c ad A H1 locs1 ls hB hH1 hls)
end QF
