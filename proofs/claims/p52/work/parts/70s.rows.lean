/-! ===== one instruction, one row: more ===== -/
section RWU
variable {G : GG} {M : SIG} {rm : Room} {uc us pc : Nat} {L : List (Option VV)} {S : List VV} {σ : Mm} {K : RES → Mm → Prop}
theorem s_ixor {x y : Int32} (hd : decode M.2.1 pc = .ok (.ixor, 1)) (k : At G M rm uc us (pc + 1) L (vI (x ^^^ y) :: S) σ K) : At G M rm uc us pc L (vI y :: vI x :: S) σ K :=
  fun p e s m args below meth c H locs ls C h1 h2 h3 h4 => lv_ixor C.1 C.2.1 hd (k p e s m args below meth c H locs ls C h1 h2 h3 h4)
theorem s_ineg {x : Int32} (hd : decode M.2.1 pc = .ok (.ineg, 1)) (k : At G M rm uc us (pc + 1) L (vI (-x) :: S) σ K) : At G M rm uc us pc L (vI x :: S) σ K :=
  fun p e s m args below meth c H locs ls C h1 h2 h3 h4 => lv_ineg C.1 C.2.1 hd (k p e s m args below meth c H locs ls C h1 h2 h3 h4)
theorem s_ishl {x y : Int32} (hd : decode M.2.1 pc = .ok (.ishl, 1)) (k : At G M rm uc us (pc + 1) L (vI (x <<< (y &&& 31)) :: S) σ K) : At G M rm uc us pc L (vI y :: vI x :: S) σ K :=
  fun p e s m args below meth c H locs ls C h1 h2 h3 h4 => lv_ishl C.1 C.2.1 hd (k p e s m args below meth c H locs ls C h1 h2 h3 h4)
theorem s_ishr {x y : Int32} (hd : decode M.2.1 pc = .ok (.ishr, 1)) (k : At G M rm uc us (pc + 1) L (vI (x >>> (y &&& 31)) :: S) σ K) : At G M rm uc us pc L (vI y :: vI x :: S) σ K :=
  fun p e s m args below meth c H locs ls C h1 h2 h3 h4 => lv_ishr C.1 C.2.1 hd (k p e s m args below meth c H locs ls C h1 h2 h3 h4)
end RWU
/-! ===== a body of the JDK's: no row of natives has its name ===== -/
theorem vx_ofWF {l : Launch} {y : MethodName} {ws ws' : List Cond} {rm : Room} {Pc : Array Value → State → Prop} {Qc : Array Value → State → Outcome → State → Prop} {XC : String → State → State → Prop} {mc ms : Nat} {free : Addr → Prop} {cc : ByteArray} {maxL : Nat} {ret : Option FieldType}
    (hy : plainFor y = true) (hw : ws = Cond.code y cc maxL ret :: ws')
    (body : ∀ p e s m args below meth c s₁, BodyLoose p l y (headSpec ws rm) cc maxL ret e s m args below meth c s₁ → c.maxLocals = maxL → (∀ x ∈ c.exceptionTable.toList, False) → Pc args s →
      W p l e (headSpec ws rm).room s m args below meth c s.heap [] 0 0 (vx_MQ below Qc XC args s mc ms free) (entryFrame m args maxL)) : vx_Met l y ws rm Pc Qc XC mc ms free := by
  refine MetFree.of_bodySF (code := cc) (maxLocals := maxL) (ret := ret) hy ?_ ?_
  · intro args s m h hn
    obtain ⟨meth, c, h1, h2, h3, h4, h5, h6, -, -⟩ := Cond.code_spec hn (atoms_spec (ws := ws) h _ (by rw [hw]; exact List.mem_cons_self))
    exact ⟨meth, c, h1, h2, h3, h4, h5, h6⟩
  · intro p e s m args below meth c s₁ B hml hP _
    have hh0 : s₁.heap = s.heap := by rw [B.state]; rfl
    have ht : ∀ x ∈ c.exceptionTable.toList, False := by
      obtain ⟨meth9, c9, h1, h2, -, -, -, -, h7, -⟩ := Cond.code_spec B.named (atoms_spec (ws := ws) B.pre _ (by rw [hw]; exact List.mem_cons_self))
      cases Option.some.inj (h1.symm.trans B.method)
      cases Option.some.inj (h2.symm.trans (Stand.of_body B).code)
      intro x hx
      rw [Array.isEmpty_iff.mp h7] at hx
      cases hx
    obtain ⟨t, a1, o, b1, b2, b3⟩ := body p e s m args below meth c s₁ B hml ht hP s₁ hh0 (Stand.of_body B)
    exact ⟨t, o, a1, b1, b2, b3⟩
theorem Runs.ofF {G : GG} {M : SIG} {rm : Room} {as : List VV} {σ : Mm} {K : RES → Mm → Prop} (hy : plainFor M.1 = true) (hw : as.all (fun v => !wide v) = true) (hn : as.length ≤ M.2.2.1)
    (h : At G M rm 0 0 0 (as.map some ++ List.replicate (M.2.2.1 - as.length) none) [] σ K) : Runs G M rm as σ K := by
  refine vx_ofWF (cc := M.2.1) (maxL := M.2.2.1) (ret := M.2.2.2) hy rfl ?_
  intro p e s m args below meth c s₁ B hml hex hv
  obtain ⟨rfl, hH, hW⟩ := hv
  have h9 := h p e s m (as.map em).toArray below meth c s.heap [] _ ⟨B.exec, B.bytes, B.returns, hml, findClass_of_methodNamed B.named, B.notSynchronized, hex, ⟨(name_of_methodNamed B.named B.method).1, by rw [hH.1]; exact hH.2.1, hH.2.2.1⟩, hW⟩ (Nat.le_refl _) (fun _ h => by cases h) hH (lcs_entry as M.2.2.1 hw hn)
  rw [lg_entry_eq]
  exact h9
