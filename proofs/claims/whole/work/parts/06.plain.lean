/-! a method of a class that has natives of its own (java.lang.Math): the method itself has none -/
theorem qe_ofW {l : Launch} {y : MethodName} {ws ws' : List Cond} {rm : Room} {Pc : Array Value → State → Prop} {Qc : Array Value → State → Outcome → State → Prop} {mc ms : Nat} {free : Addr → Prop} {cc : ByteArray} {maxL : Nat} {ret : Option FieldType}
    (hy : plainFor y = true) (hw : ws = Cond.code y cc maxL ret :: ws')
    (body : ∀ p e s m args below meth c s₁, BodyLoose p l y (headSpec ws rm) cc maxL ret e s m args below meth c s₁ → c.maxLocals = maxL → Pc args s →
      W p l e (headSpec ws rm).room s m args below meth c s.heap [] 0 0 (MQ below Qc args s mc ms free) (entryFrame m args maxL)) : Met l y ws rm Pc Qc mc ms free := by
  refine MetFree.of_bodySF (code := cc) (maxLocals := maxL) (ret := ret) hy ?_ ?_
  · intro args s m h hn
    obtain ⟨meth, c, h1, h2, h3, h4, h5, h6, -, -⟩ := Cond.code_spec hn (atoms_spec (ws := ws) h _ (by rw [hw]; exact List.mem_cons_self))
    exact ⟨meth, c, h1, h2, h3, h4, h5, h6⟩
  · intro p e s m args below meth c s₁ B hml hP _
    have hh0 : s₁.heap = s.heap := by rw [B.state]; rfl
    obtain ⟨t, a1, o, b1, b2, b3⟩ := body p e s m args below meth c s₁ B hml hP s₁ hh0 (Stand.of_body B)
    exact ⟨t, o, a1, b1, b2, ⟨b3.1, b3.2⟩⟩
theorem qe_C.ofF {l : Launch} {G : qe_G} {M : qe_M} {av : List Value} {X X' : List va_E} {r : Option Value} (hy : plainFor (qe_y M) = true) (hn : (lg_sl av).length ≤ qe_n M) (hj : qe_J l G M 0 (lv_args 0 av) [] X r X') : qe_C l G M av X r X' := by
  intro ad sz
  refine qe_ofW (cc := qe_c M) (maxL := qe_n M) (ret := qe_r M) hy rfl ?_
  intro p e s m args below meth c s₁ B hml hv
  obtain ⟨rfl, rfl, hP, hK, hD0, hZ⟩ := hv
  have hts := atoms_spec (ws := qe_ws M) B.pre
  have hB : qe_B G M p s m ((av.map (qe_v G ad)).toArray) meth c (va_A (qe_w G ad X) s.heap.size) :=
    ⟨B.exec, B.bytes, B.returns, hml, B.notSynchronized, findClass_of_methodNamed B.named, fun w hw => hts w (List.mem_cons_of_mem _ hw), hK, hZ, fun q h => Or.inr h⟩
  have hH : qe_H G ad (va_A (qe_w G ad X) s.heap.size) X s.heap s.heap [] := ⟨hP, hD0.self, va_S.rf⟩
  have hl := lv_entry (av.map (qe_v G ad)) (n := qe_n M) (by rw [qe_slen]; exact hn)
  rw [lg_entry_eq]
  rw [qe_args] at hl
  exact hj p e s m _ below meth c ad _ s.heap [] _ hB hH hl
