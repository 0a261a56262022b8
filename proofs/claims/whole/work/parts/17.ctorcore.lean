/-! CONSTRUCTORS: a judgement over a world of cells at their addresses, which grows -/
abbrev qc_M : Type := MethodName × ByteArray × Nat × Room
abbrev qc_y (M : qc_M) : MethodName := M.1
abbrev qc_c (M : qc_M) : ByteArray := M.2.1
abbrev qc_n (M : qc_M) : Nat := M.2.2.1
abbrev qc_R (M : qc_M) : Room := M.2.2.2
def qc_Nw (U : State) : Prop := (∀ q ∈ qe_nl, va_Nw (.methodLinkNest q.1 q.2.1 q.2.2.1 q.2.2.2) U) ∧ va_AO RX4 U
def qc_B (G : qe_G) (M : qc_M) (p : Program) (s : State) (m : MethodId) (args : Array Value) (meth : Method) (c : Code) (A : Nat → Prop) : Prop :=
  p.tables.exec = Jvm.exec ∧ c.code = qc_c M ∧ meth.sig.returnType = none ∧ c.maxLocals = qc_n M ∧ meth.locks = false ∧ meth.name = "<init>" ∧ s.vm.findClass (qc_y M).cls = some m.cls ∧ (∀ w ∈ qe_bg, w.before args s = true) ∧ qe_K G s ∧ qc_Nw s ∧ (∀ q : Nat, s.heap.size ≤ q → A q)
def qc_Q (G : qe_G) (A : Nat → Prop) (Po : va_W → Prop) : Array Value → State → Outcome → State → Prop := fun _ st oc t =>
  (oc = .returned none ∧ ∃ w1 : va_W, Po w1 ∧ va_P (qe_D G) vwCl w1 t.heap ∧ va_D A w1) ∧ va_F A st t
def qc_J (l : Launch) (G : qe_G) (M : qc_M) (pc : Nat) (lv : List (Nat × Value)) (st : List Value) (ws : va_W) (cs sl : Nat) (Po : va_W → Prop) : Prop :=
  ∀ (p : Program) (e : Env) (s : State) (m : MethodId) (args : Array Value) (below : List Frame) (meth : Method) (c : Code) (A : Nat → Prop) (H : Heap) (locs : List Loc) (ls : Array Slot),
    qc_B G M p s m args meth c A → va_P (qe_D G) vwCl ws H → va_D A ws → va_S A s.heap H locs → lv_has ls (qc_n M) lv →
    W p l e (qc_R M) s m args below meth c H locs cs sl (MQ below (qc_Q G A Po) args s (qc_R M).cells (qc_R M).slots A) (F0 m pc ls st)
def qc_ws (M : qc_M) : List Cond := Cond.code (qc_y M) (qc_c M) (qc_n M) none :: qe_bg
def qc_C (l : Launch) (G : qe_G) (M : qc_M) (h0 : Nat) (ws : va_W) (Po : va_W → Prop) : Prop :=
  ∀ sz : Nat, Met l (qc_y M) (qc_ws M) (qc_R M) (va_Pc [.ref h0] (fun U => U.heap.size = sz ∧ va_P (qe_D G) vwCl ws U.heap ∧ qe_K G U ∧ va_D (fun _ => True) ws ∧ qc_Nw U)) (qc_Q G (va_A ws sz) Po) (qc_R M).cells (qc_R M).slots (va_A ws sz)
theorem qc_C.of {l : Launch} {G : qe_G} {M : qc_M} {h0 : Nat} {ws : va_W} {Po : va_W → Prop} (hy : plainName (qc_y M).cls = true) (hi : (qc_y M).name = "<init>") (hn : 1 ≤ qc_n M) (hj : qc_J l G M 0 [(0, .ref h0)] [] ws 0 0 Po) : qc_C l G M h0 ws Po := by
  intro sz
  refine Met.ofW (cc := qc_c M) (maxL := qc_n M) (ret := none) hy rfl ?_
  intro p e s m args below meth c s₁ B hml hv
  obtain ⟨rfl, rfl, hP, hK, hD0, hZ⟩ := hv
  have hts := atoms_spec (ws := qc_ws M) B.pre
  have hl := lv_entry [Value.ref h0] (n := qc_n M) hn
  rw [lg_entry_eq]
  exact hj p e s m _ below meth c _ s.heap [] _ ⟨B.exec, B.bytes, B.returns, hml, B.notSynchronized, (name_of_methodNamed B.named B.method).1.trans hi, findClass_of_methodNamed B.named, fun w hw => hts w (List.mem_cons_of_mem _ hw), hK, hZ, fun q h => Or.inr h⟩ hP hD0.self va_S.rf hl
def qc_ff (own : String) (idx ci j : Nat) (ty : FieldType) : Prop := ∃ (C : String) (T : u_T) (N : Nat) (ty0 : Nat → FieldType), vwCl[ci]? = some (C, T, N) ∧ j < N ∧ Cond.fieldLink own idx (T j).1 (T j).2.1 (T j).2.2.1 ∈ qe_bg ∧ (∀ w ∈ u_ws C T N, w ∈ qe_bg) ∧ (∀ k, k < N → parseFieldDescriptor (T k).2.2.1 = some (ty0 k)) ∧ (∀ a, a < N → ∀ b, b < N → a ≠ b → (T a).2.1 ≠ (T b).2.1) ∧ (T j).2.2.2 = true ∧ parseFieldDescriptor (T j).2.2.1 = some ty ∧ (T j).1 = own
def qc_nw (own : String) (idx ci : Nat) (fs : List Value) (N : Nat) : Prop := ∃ (C : String) (T : u_T) (ty0 : Nat → FieldType), vwCl[ci]? = some (C, T, N) ∧ (∀ w ∈ u_ws C T N, w ∈ qe_bg) ∧ (∀ k, k < N → parseFieldDescriptor (T k).2.2.1 = some (ty0 k)) ∧ Cond.classLink own idx C ∈ qe_bg ∧ Cond.instantiable C N ∈ qe_bg ∧ Cond.initialized C ∈ qe_bg ∧ ∀ j, j < N → defaultValue (ty0 j) = vp_V fs j
section QCJ
variable {l : Launch} {G : qe_G} {M : qc_M} {pc : Nat} {lv lv' : List (Nat × Value)} {st : List Value} {ws : va_W} {cs sl : Nat} {Po : va_W → Prop}
theorem qc_aload_n {q : Fin 4} {i h : Nat} (hd : decode (qc_c M) pc = .ok (.aload_n q, 1)) (k : Nat) (hl : lv[k]? = some (i, .ref h)) (hi : (q : Nat) = i) (kk : qc_J l G M (pc + 1) lv (.ref h :: st) ws cs sl Po) : qc_J l G M pc lv st ws cs sl Po := by
  intro p e s m args below meth c A H locs ls hB hP hD hS hls
  exact lv_aload_n hB.1 hB.2.1 hd hi (lv_at hls k hl) (kk p e s m args below meth c A H locs ls hB hP hD hS hls)
theorem qc_iload_n {q : Fin 4} {i : Nat} {x : Int32} (hd : decode (qc_c M) pc = .ok (.iload_n q, 1)) (k : Nat) (hl : lv[k]? = some (i, .int x)) (hi : (q : Nat) = i) (kk : qc_J l G M (pc + 1) lv (.int x :: st) ws cs sl Po) : qc_J l G M pc lv st ws cs sl Po := by
  intro p e s m args below meth c A H locs ls hB hP hD hS hls
  exact lv_iload_n hB.1 hB.2.1 hd hi (lv_at hls k hl) (kk p e s m args below meth c A H locs ls hB hP hD hS hls)
theorem qc_istore_n {q : Fin 4} {i : Nat} {x : Int32} (hd : decode (qc_c M) pc = .ok (.istore_n q, 1)) (hl : (i, Value.int x) :: lv.filter (fun q => !(q.1 == i) && !(q.1 + 1 == i && q.2.category == 2)) = lv') (hi : (q : Nat) = i) (hn : i < qc_n M) (kk : qc_J l G M (pc + 1) lv' st ws cs sl Po) : qc_J l G M pc lv (.int x :: st) ws cs sl Po := by
  intro p e s m args below meth c A H locs ls hB hP hD hS hls
  exact lv_istore_n (lv' := lv') hB.1 hB.2.1 hd hi hls hn hl (fun ls hls => kk p e s m args below meth c A H locs ls hB hP hD hS hls)
theorem qc_iinc {i : Nat} {n : Int} {x v : Int32} (hd : decode (qc_c M) pc = .ok (.iinc i n, 3)) (k : Nat) (hk : lv[k]? = some (i, .int x)) (hv : x + Int32.ofInt n = v) (hl : (i, Value.int v) :: lv.filter (fun q => !(q.1 == i) && !(q.1 + 1 == i && q.2.category == 2)) = lv') (hn : i < qc_n M) (kk : qc_J l G M (pc + 3) lv' st ws cs sl Po) : qc_J l G M pc lv st ws cs sl Po := by
  intro p e s m args below meth c A H locs ls hB hP hD hS hls
  exact lv_iinc (lv' := lv') hB.1 hB.2.1 hd hls (k := k) hk hv hn hl (fun ls hls => kk p e s m args below meth c A H locs ls hB hP hD hS hls)
theorem qc_iconst {n : Int} {v : Int32} (hd : decode (qc_c M) pc = .ok (.iconst n, 1)) (hv : Int32.ofInt n = v) (kk : qc_J l G M (pc + 1) lv (.int v :: st) ws cs sl Po) : qc_J l G M pc lv st ws cs sl Po := by
  intro p e s m args below meth c A H locs ls hB hP hD hS hls
  exact lv_iconst hB.1 hB.2.1 hd hv (kk p e s m args below meth c A H locs ls hB hP hD hS hls)
theorem qc_bipush {n : Int} {v : Int32} (hd : decode (qc_c M) pc = .ok (.bipush n, 2)) (hv : (Int8.ofInt n).toInt32 = v) (kk : qc_J l G M (pc + 2) lv (.int v :: st) ws cs sl Po) : qc_J l G M pc lv st ws cs sl Po := by
  intro p e s m args below meth c A H locs ls hB hP hD hS hls
  exact lv_bipush hB.1 hB.2.1 hd hv (kk p e s m args below meth c A H locs ls hB hP hD hS hls)
theorem qc_sipush {n : Int} {v : Int32} (hd : decode (qc_c M) pc = .ok (.sipush n, 3)) (hv : (Int16.ofInt n).toInt32 = v) (kk : qc_J l G M (pc + 3) lv (.int v :: st) ws cs sl Po) : qc_J l G M pc lv st ws cs sl Po := by
  intro p e s m args below meth c A H locs ls hB hP hD hS hls
  exact lv_sipush hB.1 hB.2.1 hd hv (kk p e s m args below meth c A H locs ls hB hP hD hS hls)
theorem qc_lconst {n : Fin 2} {v : Int64} (hd : decode (qc_c M) pc = .ok (.lconst n, 1)) (hv : Int64.ofNat (n : Nat) = v) (kk : qc_J l G M (pc + 1) lv (.long v :: st) ws cs sl Po) : qc_J l G M pc lv st ws cs sl Po := by
  intro p e s m args below meth c A H locs ls hB hP hD hS hls
  exact lv_lconst hB.1 hB.2.1 hd hv (kk p e s m args below meth c A H locs ls hB hP hD hS hls)
theorem qc_dup {v : Value} (hd : decode (qc_c M) pc = .ok (.dup, 1)) (hv : v.category = 1) (kk : qc_J l G M (pc + 1) lv (v :: v :: st) ws cs sl Po) : qc_J l G M pc lv (v :: st) ws cs sl Po := by
  intro p e s m args below meth c A H locs ls hB hP hD hS hls
  exact lv_dup hB.1 hB.2.1 hd hv (kk p e s m args below meth c A H locs ls hB hP hD hS hls)
theorem qc_iadd {x y : Int32} (hd : decode (qc_c M) pc = .ok (.iadd, 1)) (kk : qc_J l G M (pc + 1) lv (.int (x + y) :: st) ws cs sl Po) : qc_J l G M pc lv (.int y :: .int x :: st) ws cs sl Po := by
  intro p e s m args below meth c A H locs ls hB hP hD hS hls
  exact lv_iadd hB.1 hB.2.1 hd (kk p e s m args below meth c A H locs ls hB hP hD hS hls)
theorem qc_goto {off : Int} {tgt : Nat} (hd : decode (qc_c M) pc = .ok (.goto off, 3)) (ht : (pc : Int) + off = (tgt : Int)) (kk : qc_J l G M tgt lv st ws cs sl Po) : qc_J l G M pc lv st ws cs sl Po := by
  intro p e s m args below meth c A H locs ls hB hP hD hS hls
  exact lv_goto hB.1 hB.2.1 hd ht (kk p e s m args below meth c A H locs ls hB hP hD hS hls)
theorem qc_icmp_ge {x y : Int32} {off : Int} {tgt : Nat} (hd : decode (qc_c M) pc = .ok (.if_icmp .ge off, 3)) (ht : (pc : Int) + off = (tgt : Int)) (kt : y ≤ x → qc_J l G M tgt lv st ws cs sl Po) (kf : ¬ y ≤ x → qc_J l G M (pc + 3) lv st ws cs sl Po) : qc_J l G M pc lv (.int y :: .int x :: st) ws cs sl Po := by
  intro p e s m args below meth c A H locs ls hB hP hD hS hls
  exact lv_icmp_ge hB.1 hB.2.1 hd ht (fun z => kt z p e s m args below meth c A H locs ls hB hP hD hS hls) (fun z => kf z p e s m args below meth c A H locs ls hB hP hD hS hls)
theorem qc_obj {idx a : Nat} (hw : Cond.methodLink (qc_y M).cls idx Lib.objectInit ∈ qe_bg ∧ Cond.instanceMethod Lib.objectInit ∈ qe_bg ∧ Cond.code Lib.objectInit ⟨#[0xb1]⟩ 1 none ∈ qe_bg) (hd : decode (qc_c M) pc = .ok (.invokespecial idx, 3)) (hfr : 1 ≤ (qc_R M).frames) (hlo : (st.map fun v => v.category).sum + 12 ≤ (qc_R M).locals) (kk : qc_J l G M (pc + 3) lv st ws cs sl Po) : qc_J l G M pc lv (.ref a :: st) ws cs sl Po := by
  intro p e s m args below meth c A H locs ls hB hP hD hS hls
  refine W.objInit hB.1 hB.2.1 hB.2.2.2.2.2.2.1 (hB.2.2.2.2.2.2.2.1 _ hw.1) (hB.2.2.2.2.2.2.2.1 _ hw.2.1) (hB.2.2.2.2.2.2.2.1 _ hw.2.2) rfl (hls.1.trans hB.2.2.2.1.symm) rfl hd hfr ?_ (kk p e s m args below meth c A H locs ls hB hP hD hS hls)
  show 2 * 0 + _ + 12 ≤ _
  omega
theorem qc_get {idx ci j a : Nat} {fs : List Value} {v : Value} (q0 : Nat) (he : ws[q0]? = some (a, .inr (ci, fs))) (hv : fs[j]? = some v) (hf : qe_fl (qc_y M).cls idx ci j) (hd : decode (qc_c M) pc = .ok (.getfield idx, 3)) (kk : qc_J l G M (pc + 3) lv (v :: st) ws cs sl Po) : qc_J l G M pc lv (.ref a :: st) ws cs sl Po := by
  intro p e s m args below meth c A H locs ls hB hP hD hS hls
  obtain ⟨C, T, N, hc, hj, hlink, hin⟩ := hf
  exact va_get (D := qe_D G) (cl := vwCl) hB.1 hB.2.1 hB.2.2.2.2.2.2.2.1 hin hB.2.2.2.2.2.2.1 hB.2.2.2.2.2.2.2.2.1 hP q0 he hc j hj (hB.2.2.2.2.2.2.2.1 _ hlink) (fun _ h => h) hv hd (kk p e s m args below meth c A H locs ls hB hP hD hS hls)
theorem qc_put {idx ci j a : Nat} {fs : List Value} {v : Value} {ty : FieldType} {ws' : va_W} (q0 : Nat) (he : ws[q0]? = some (a, .inr (ci, fs))) (hl : j < fs.length) (hf : qe_fp (qc_y M).cls idx ci j ty) (hn : narrow ty v = v) (hfit : fits ty v = true) (hd : decode (qc_c M) pc = .ok (.putfield idx, 3)) (hw : ws.set q0 (a, .inr (ci, fs.set j v)) = ws') (kk : qc_J l G M (pc + 3) lv st ws' cs sl Po) : qc_J l G M pc lv (v :: .ref a :: st) ws cs sl Po := by
  intro p e s m args below meth c A H locs ls hB hP hD hS hls
  obtain ⟨C, T, N, ty0, hc, hjN, hlink, hin, hty, hnm, hfin, hpd⟩ := hf
  subst hw
  exact va_put (D := qe_D G) (cl := vwCl) hB.1 hB.2.1 hB.2.2.2.2.2.2.2.1 hin ty0 hty hnm hB.2.2.2.2.2.2.1 hB.2.2.2.2.2.2.2.2.1 hP hD hS q0 he hc j hjN (hB.2.2.2.2.2.2.2.1 _ hlink) (fun _ h => h) hfin hpd hn hfit hl hd (fun H1 locs1 hP hD hS => kk p e s m args below meth c A H1 locs1 ls hB hP hD hS hls)
theorem qc_putF {idx ci j a : Nat} {fs : List Value} {v : Value} {ty : FieldType} {ws' : va_W} (q0 : Nat) (he : ws[q0]? = some (a, .inr (ci, fs))) (hl : j < fs.length) (hf : qc_ff (qc_y M).cls idx ci j ty) (hn : narrow ty v = v) (hfit : fits ty v = true) (hd : decode (qc_c M) pc = .ok (.putfield idx, 3)) (hw : ws.set q0 (a, .inr (ci, fs.set j v)) = ws') (kk : qc_J l G M (pc + 3) lv st ws' cs sl Po) : qc_J l G M pc lv (v :: .ref a :: st) ws cs sl Po := by
  intro p e s m args below meth c A H locs ls hB hP hD hS hls
  obtain ⟨C, T, N, ty0, hc, hjN, hlink, hin, hty, hnm, hfin, hpd, hdecl⟩ := hf
  subst hw
  exact va_putF (D := qe_D G) (cl := vwCl) hB.1 hB.2.1 hB.2.2.2.2.2.2.2.1 hin ty0 hty hnm hB.2.2.2.2.2.2.1 hB.2.2.2.2.2.2.2.2.1 hP hD hS q0 he hc j hjN (hB.2.2.2.2.2.2.2.1 _ hlink) (fun _ h => h) hfin hB.2.2.2.2.2.1 hdecl hpd hn hfit hl hd (fun H1 locs1 hP hD hS => kk p e s m args below meth c A H1 locs1 ls hB hP hD hS hls)
theorem qc_new {idx ci N : Nat} {fs : List Value} (hw : qc_nw (qc_y M).cls idx ci fs N) (hc : cs + 1 ≤ (qc_R M).cells) (hs : sl + N ≤ (qc_R M).slots) (hd : decode (qc_c M) pc = .ok (.new idx, 3)) (kk : ∀ q : Nat, qc_J l G M (pc + 3) lv (.ref q :: st) (ws ++ [(q, .inr (ci, fs))]) (cs + 1) (sl + N) Po) : qc_J l G M pc lv st ws cs sl Po := by
  intro p e s m args below meth c A H locs ls hB hP hD hS hls
  obtain ⟨C, T, ty0, hci, hin, hty, h1, h2, h3, h4⟩ := hw
  have hb := hB.2.2.2.2.2.2.2.1
  exact va_new (D := qe_D G) (cl := vwCl) (ci := ci) hB.1 hB.2.1 hb hin ty0 hty hB.2.2.2.2.2.2.1 (hb _ h1) (hb _ h2) (hb _ h3) hB.2.2.2.2.2.2.2.2.1 hP hD hS hB.2.2.2.2.2.2.2.2.2.2 hci h4 hc hs hd (fun q H1 hP hD hS => kk q p e s m args below meth c A H1 locs ls hB hP hD hS hls)
theorem qc_newI {n : Int32} {N : Nat} (hw : Cond.arrayClass .int ∈ qe_bg) (hn : ¬ n < 0) (hN : n.toNatClampNeg = N) (hby : N * componentBytes .int ≤ 536870912) (hc : cs + 1 ≤ (qc_R M).cells) (hs : sl + N ≤ (qc_R M).slots) (hd : decode (qc_c M) pc = .ok (.newarray .int, 2)) (kk : ∀ q : Nat, qc_J l G M (pc + 2) lv (.ref q :: st) (ws ++ [(q, .inl (qe_cI G, N, .inl (fun _ => 0)))]) (cs + 1) (sl + N) Po) : qc_J l G M pc lv (.int n :: st) ws cs sl Po := by
  intro p e s m args below meth c A H locs ls hB hP hD hS hls
  have hK := hB.2.2.2.2.2.2.2.2.1
  refine va_newa (D := qe_D G) (cl := vwCl) (atype := .int) (ty := .int) (a0 := (N, .inl (fun _ => 0))) hB.1 hB.2.1 (hB.2.2.2.2.2.2.2.1 _ hw) rfl hK hP hD hS hB.2.2.2.2.2.2.2.2.2.2 (fun cA => rfl) hn hN hby hc hs hd (fun q cA H1 hK1 hP hD hS => ?_)
  have e1 : s.vm.findClass ("[" ++ FieldType.int.toString) = some cA := (hK1.2 3 (cA, .int) rfl).2
  have e2 : s.vm.findClass ("[" ++ FieldType.int.toString) = some (qe_cI G) := (hK.2 0 (qe_cI G, .int) rfl).2
  obtain rfl : cA = qe_cI G := Option.some.inj (e1.symm.trans e2)
  exact kk q p e s m args below meth c A H1 locs ls hB hP hD hS hls
theorem qc_newL {n : Int32} {N : Nat} (hw : Cond.arrayClass .long ∈ qe_bg) (hn : ¬ n < 0) (hN : n.toNatClampNeg = N) (hby : N * componentBytes .long ≤ 536870912) (hc : cs + 1 ≤ (qc_R M).cells) (hs : sl + N ≤ (qc_R M).slots) (hd : decode (qc_c M) pc = .ok (.newarray .long, 2)) (kk : ∀ q : Nat, qc_J l G M (pc + 2) lv (.ref q :: st) (ws ++ [(q, .inl (qe_cL G, N, .inr (.inl (fun _ => 0))))]) (cs + 1) (sl + N) Po) : qc_J l G M pc lv (.int n :: st) ws cs sl Po := by
  intro p e s m args below meth c A H locs ls hB hP hD hS hls
  have hK := hB.2.2.2.2.2.2.2.2.1
  refine va_newa (D := qe_D G) (cl := vwCl) (atype := .long) (ty := .long) (a0 := (N, .inr (.inl (fun _ => 0)))) hB.1 hB.2.1 (hB.2.2.2.2.2.2.2.1 _ hw) rfl hK hP hD hS hB.2.2.2.2.2.2.2.2.2.2 (fun cA => rfl) hn hN hby hc hs hd (fun q cA H1 hK1 hP hD hS => ?_)
  have e1 : s.vm.findClass ("[" ++ FieldType.long.toString) = some cA := (hK1.2 3 (cA, .long) rfl).2
  have e2 : s.vm.findClass ("[" ++ FieldType.long.toString) = some (qe_cL G) := (hK.2 1 (qe_cL G, .long) rfl).2
  obtain rfl : cA = qe_cL G := Option.some.inj (e1.symm.trans e2)
  exact kk q p e s m args below meth c A H1 locs ls hB hP hD hS hls
theorem qc_newQ {idx : Nat} {n : Int32} {N : Nat} (hw : Cond.classLink (qc_y M).cls idx RX4 ∈ qe_bg) (hn : ¬ n < 0) (hN : n.toNatClampNeg = N) (hby : N * 4 ≤ 536870912) (hc : cs + 1 ≤ (qc_R M).cells) (hs : sl + N ≤ (qc_R M).slots) (hd : decode (qc_c M) pc = .ok (.anewarray idx, 3)) (kk : ∀ q : Nat, qc_J l G M (pc + 3) lv (.ref q :: st) (ws ++ [(q, .inl (qe_cR G, N, .inr (.inr (.inr (.inr (fun _ => none))))))]) (cs + 1) (sl + N) Po) : qc_J l G M pc lv (.int n :: st) ws cs sl Po := by
  intro p e s m args below meth c A H locs ls hB hP hD hS hls
  have hK := hB.2.2.2.2.2.2.2.2.1
  have hb := hB.2.2.2.2.2.2.2.1
  have hao : va_AO RX4 s := hB.2.2.2.2.2.2.2.2.2.1.2
  refine va_newq (D := qe_D G) (cl := vwCl) (C := RX4) hB.1 hB.2.1 hB.2.2.2.2.2.2.1 (hb _ hw) hao hK hP hD hS hB.2.2.2.2.2.2.2.2.2.2 hn hN hby hc hs hd (fun q cA H1 hK1 hP hD hS => ?_)
  obtain ⟨kA, comp, -, -, -, e1⟩ := (hK1.2 3 (cA, .object RX4) rfl).2
  obtain ⟨kA2, comp2, -, -, -, e2⟩ := (hK.2 2 (qe_cR G, .object RX4) rfl).2
  obtain rfl : cA = qe_cR G := Option.some.inj (e1.symm.trans e2)
  exact kk q p e s m args below meth c A H1 locs ls hB hP hD hS hls
theorem qc_ist {a n : Nat} {f : Nat → Int32} {i x : Int32} {ws' : va_W} (q0 : Nat) (he : ws[q0]? = some (a, .inl (qe_cI G, n, .inl f))) (hin : vp_in i n) (hd : decode (qc_c M) pc = .ok (.iastore, 1)) (hw : ws.set q0 (a, .inl (qe_cI G, n, .inl (upd f i.toNatClampNeg x))) = ws') (kk : qc_J l G M (pc + 1) lv st ws' cs sl Po) : qc_J l G M pc lv (.int x :: .int i :: .ref a :: st) ws cs sl Po := by
  intro p e s m args below meth c A H locs ls hB hP hD hS hls
  subst hw
  exact va_iast (D := qe_D G) (cl := vwCl) hB.1 hB.2.1 hB.2.2.2.2.2.2.2.2.1 hP hD hS q0 0 he rfl hin hd (fun H1 locs1 hP hD hS => kk p e s m args below meth c A H1 locs1 ls hB hP hD hS hls)
theorem qc_ast {a n v : Nat} {f : Nat → Option Nat} {i : Int32} {vs : List Value} {ws' : va_W} (q0 qk : Nat) (he : ws[q0]? = some (a, .inl (qe_cR G, n, .inr (.inr (.inr (.inr f)))))) (hv : ws[qk]? = some (v, .inr (4, vs))) (hin : vp_in i n) (hd : decode (qc_c M) pc = .ok (.aastore, 1)) (hw : ws.set q0 (a, .inl (qe_cR G, n, .inr (.inr (.inr (.inr (va_up f i.toNatClampNeg (some v))))))) = ws') (kk : qc_J l G M (pc + 1) lv st ws' cs sl Po) : qc_J l G M pc lv (.ref v :: .int i :: .ref a :: st) ws cs sl Po := by
  intro p e s m args below meth c A H locs ls hB hP hD hS hls
  subst hw
  exact va_astq (D := qe_D G) (cl := vwCl) (r := (RX4, TX4, 2)) hB.1 hB.2.1 hB.2.2.2.2.2.2.2.2.1 hP hD hS q0 2 qk 4 he rfl hv rfl hin hd (fun H1 locs1 hP hD hS => kk p e s m args below meth c A H1 locs1 ls hB hP hD hS hls)
theorem qc_ret (is : List Nat) {w1 : va_W} (hs : is.map (fun i => ws[i]?) = w1.map some) (hn : va_nd is = true) (hp : Po w1) (hc : cs ≤ (qc_R M).cells) (hsl : sl ≤ (qc_R M).slots) (hd : decode (qc_c M) pc = .ok (.return_, 1)) : qc_J l G M pc lv [] ws cs sl Po := by
  intro p e s m args below meth c A H locs ls hB hP hD hS hls
  refine W.widen hc hsl ?_
  have hP1 : va_P (qe_D G) vwCl w1 H := by
    intro k q hk
    have h1 : (is.map (fun i => ws[i]?))[k]? = some (some q) := by rw [hs, List.getElem?_map, hk]; rfl
    rw [List.getElem?_map] at h1
    cases hi : is[k]? with
    | none => rw [hi] at h1; cases h1
    | some i => rw [hi] at h1; exact hP i q (Option.some.inj h1)
  exact W.vret hB.1 hB.2.1 hB.2.2.1 (fun t ht _ => ⟨⟨rfl, w1, hp, by rw [ht]; exact hP1, hD.sub is hn hs⟩, hS.F ht⟩) hS.2.2 hd hB.2.2.2.2.1
/-- a nest mate's constructor -/
def qc_kN (M M' : qc_M) (idx : Nat) : Prop := Cond.code (qc_y M') (qc_c M') (qc_n M') none ∈ qe_bg ∧ (qc_y M').cls ≠ "java/lang/invoke/MethodHandle" ∧ (qc_y M').cls ≠ "java/lang/invoke/VarHandle" ∧ (parseMethodDescriptor (qc_y M').desc).map (fun d => d.parameters.length) = some 0 ∧ (qc_R M').frames + 1 ≤ (qc_R M).frames ∧ 8 + (qc_n M' + 11) + (qc_R M').locals ≤ (qc_R M).locals ∧ Cond.initialized (qc_y M').cls ∈ qe_bg ∧ ((qc_y M).cls, idx, qc_y M', RX8) ∈ qe_nl ∧ (qc_y M').name = "<init>" ∧ Cond.instanceMethod (qc_y M') ∈ qe_bg
theorem qc_call {M' : qc_M} {idx h : Nat} {e0 : va_E} {wr : va_W} {Po1 : va_W → Prop} (hk : qc_kN M M' idx) (hC : qc_C l G M' h [(h, e0)] Po1) (q0 : Nat) (isR : List Nat) (he : ws[q0]? = some (h, e0)) (hwr : isR.map (fun i => ws[i]?) = wr.map some) (hn : va_nd isR = true) (hdis : ∀ i ∈ isR, i ∉ [q0]) (hcat : (st.map fun v => v.category).sum ≤ 8) (hc : cs + (qc_R M').cells ≤ (qc_R M).cells) (hs : sl + (qc_R M').slots ≤ (qc_R M).slots) (hd : decode (qc_c M) pc = .ok (.invokespecial idx, 3)) (kk : ∀ w1 : va_W, Po1 w1 → qc_J l G M (pc + 3) lv st (wr ++ w1) (cs + (qc_R M').cells) (sl + (qc_R M').slots) Po) : qc_J l G M pc lv (.ref h :: st) ws cs sl Po := by
  intro p e s m args below meth c A H locs ls hB hP hD hS hls
  have hA := hB.2.2.2.2.2.2.2.2.2.2
  have hb := hB.2.2.2.2.2.2.2.1
  have hK := hB.2.2.2.2.2.2.2.2.1
  have hwc : [q0].map (fun i => ws[i]?) = ([(h, e0)] : va_W).map some := by simp [he]
  have hFc := va_free (wc := [(h, e0)]) hD hS hA [q0] hwc
  have hPc : va_P (qe_D G) vwCl [(h, e0)] H := by
    intro k q hk
    have hz : k < 1 := (List.getElem?_eq_some_iff.mp hk).1
    rw [show k = 0 by omega] at hk
    cases hk
    exact hP q0 _ he
  have hDc : va_D (fun _ => True) [(h, e0)] := by
    refine ⟨fun i j x y hx hy _ => ?_, fun _ _ _ => trivial⟩
    have h1 := (List.getElem?_eq_some_iff.mp hx).1
    have h2 := (List.getElem?_eq_some_iff.mp hy).1
    simp only [List.length_cons, List.length_nil] at h1 h2
    omega
  have hnw := hB.2.2.2.2.2.2.2.2.2.1.1 _ hk.2.2.2.2.2.2.2.1
  have hgw : GoodIn qe_bg (qc_ws M') := by
    intro w hw
    rcases List.mem_cons.mp hw with rfl | hw
    · exact ⟨hk.1, qe_bg_good _ hk.1⟩
    · exact ⟨hw, qe_bg_good _ hw⟩
  have hcn : va_CN (qc_R M) s args (qc_y M).cls idx (qc_y M') RX8 (qc_c M') (qc_n M') none (qc_ws M') (qc_R M') (qc_R M').cells (qc_R M').slots 0 := va_cnB 0 hb hgw rfl rfl rfl hnw (hb _ hk.2.2.2.2.2.2.1) ⟨hk.2.1, hk.2.2.1, hk.2.2.2.1⟩ ⟨hk.2.2.2.2.1, hk.2.2.2.2.2.1⟩
  have hbl : FrameBlind (va_Pc [.ref h] (fun U => U.heap.size = H.size ∧ va_P (qe_D G) vwCl [(h, e0)] U.heap ∧ qe_K G U ∧ va_D (fun _ => True) [(h, e0)] ∧ qc_Nw U)) := by
    intro a U g mk q
    obtain ⟨z0, z1, z2, z3, z4, z5⟩ := q
    exact ⟨z0, z1, z2, va_K.moved (u := U) (U := U.calling g mk a) (Vm.Alike.refl U.vm) z3, z4, fun w hw => va_Nw.same (u := U) rfl rfl (z5.1 w hw), va_AO.moved (u := U) (U := U.calling g mk a) (Vm.Alike.refl U.vm) z5.2⟩
  have hrun := va_runIN (p := p) (l := l) (e := e) (R := qc_R M) (s := s) (m := m) (args := args) (below := below) (meth := meth) (c := c) (H := H) (locs := locs) (cells := cs) (slots := sl) (g := F0 m pc ls (.ref h :: st)) (As := []) (rest := st) (b := h) (Ts := qe_bg) (own := (qc_y M).cls) (nL := qc_n M) (cc := qc_c M) ⟨hB.1, hB.2.1, hB.2.2.2.1, hB.2.2.2.2.2.2.1, hb⟩ (hC H.size) ⟨hcn, hk.2.2.2.2.2.2.2.2.1, hb _ hk.2.2.2.2.2.2.2.2.2⟩ ⟨hbl, fun U hU hW => ⟨rfl, by rw [hU], by rw [hU]; exact hPc, va_K.moved hW.alike hK, hDc, fun w hw => va_Nw.warmM hW (hB.2.2.2.2.2.2.2.2.2.1.1 w hw), va_AO.moved hW.alike hB.2.2.2.2.2.2.2.2.2.1.2⟩⟩ rfl rfl hls.1 rfl (lv_room hcat) hd ⟨hc, hs⟩
  intro T hT X
  obtain ⟨v, st₀, t, T', L, h0, X', hL, e1, e2, ⟨⟨hv, w1, hp, hP1, hD1⟩, hz, hkq⟩, stp⟩ := hrun T hT X
  have hv : v = none := Outcome.returned.inj hv
  subst hv
  rw [h0] at hz hkq
  obtain ⟨hPj, hDj⟩ := va_join (wr := wr) (w1 := w1) hP hD [q0] isR hwc hwr hn hdis hkq hFc hP1 hD1
  have hS1 : va_S A s.heap t.heap (locs ++ L) := ⟨Nat.le_trans hS.1 hz, fun q h1 h2 => by rw [hkq q (Nat.lt_of_lt_of_le h1 hS.1) (fun z => h2 (hFc q z))]; exact hS.2.1 q h1 h2, fun q hq => by
      rcases List.mem_append.mp hq with h | h
      · exact hS.2.2 q h
      · exact hFc _ (hL q h)⟩
  obtain ⟨t2, a1, b1⟩ := kk w1 hp p e s m args below meth c A t.heap (locs ++ L) ls hB hPj hDj hS1 hls T' e1 X'
  exact ⟨t2, stp t2 a1, b1⟩
end QCJ
