/-! ===== one instruction, one row ===== -/
section RWS
variable {G : GG} {M : SIG} {rm : Room} {uc us pc : Nat} {L : List (Option VV)} {S : List VV} {σ : Mm} {K : RES → Mm → Prop}
theorem s_iconst {n : Int} {v : Int32} (hd : decode M.2.1 pc = .ok (.iconst n, 1)) (hv : Int32.ofInt n = v) (k : At G M rm uc us (pc + 1) L (vI v :: S) σ K) : At G M rm uc us pc L S σ K :=
  fun p e s m args below meth c H locs ls C h1 h2 h3 h4 => lv_iconst C.1 C.2.1 hd hv (k p e s m args below meth c H locs ls C h1 h2 h3 h4)
theorem s_bipush {n : Int} {v : Int32} (hd : decode M.2.1 pc = .ok (.bipush n, 2)) (hv : (Int8.ofInt n).toInt32 = v) (k : At G M rm uc us (pc + 2) L (vI v :: S) σ K) : At G M rm uc us pc L S σ K :=
  fun p e s m args below meth c H locs ls C h1 h2 h3 h4 => lv_bipush C.1 C.2.1 hd hv (k p e s m args below meth c H locs ls C h1 h2 h3 h4)
theorem s_sipush {n : Int} {v : Int32} (hd : decode M.2.1 pc = .ok (.sipush n, 3)) (hv : (Int16.ofInt n).toInt32 = v) (k : At G M rm uc us (pc + 3) L (vI v :: S) σ K) : At G M rm uc us pc L S σ K :=
  fun p e s m args below meth c H locs ls C h1 h2 h3 h4 => lv_sipush C.1 C.2.1 hd hv (k p e s m args below meth c H locs ls C h1 h2 h3 h4)
theorem s_lconst {n : Fin 2} {v : Int64} (hd : decode M.2.1 pc = .ok (.lconst n, 1)) (hv : Int64.ofNat (n : Nat) = v) (k : At G M rm uc us (pc + 1) L (vL v :: S) σ K) : At G M rm uc us pc L S σ K :=
  fun p e s m args below meth c H locs ls C h1 h2 h3 h4 => lv_lconst C.1 C.2.1 hd hv (k p e s m args below meth c H locs ls C h1 h2 h3 h4)
theorem s_fconst0 (hd : decode M.2.1 pc = .ok (.fconst 0, 1)) (k : At G M rm uc us (pc + 1) L (vF FP.fconst0 :: S) σ K) : At G M rm uc us pc L S σ K :=
  fun p e s m args below meth c H locs ls C h1 h2 h3 h4 => lv_fconst0 C.1 C.2.1 hd (k p e s m args below meth c H locs ls C h1 h2 h3 h4)
theorem s_dconst0 (hd : decode M.2.1 pc = .ok (.dconst 0, 1)) (k : At G M rm uc us (pc + 1) L (vD FP.dconst0 :: S) σ K) : At G M rm uc us pc L S σ K :=
  fun p e s m args below meth c H locs ls C h1 h2 h3 h4 => lv_dconst0 C.1 C.2.1 hd (k p e s m args below meth c H locs ls C h1 h2 h3 h4)
theorem s_null (hd : decode M.2.1 pc = .ok (.aconst_null, 1)) (k : At G M rm uc us (pc + 1) L (vR none :: S) σ K) : At G M rm uc us pc L S σ K :=
  fun p e s m args below meth c H locs ls C h1 h2 h3 h4 => lv_null C.1 C.2.1 hd (k p e s m args below meth c H locs ls C h1 h2 h3 h4)
theorem s_iload_n {n : Fin 4} {i : Nat} {x : Int32} (hd : decode M.2.1 pc = .ok (.iload_n n, 1)) (hi : (n : Nat) = i) (hl : L[i]? = some (some (vI x))) (k : At G M rm uc us (pc + 1) L (vI x :: S) σ K) : At G M rm uc us pc L S σ K :=
  fun p e s m args below meth c H locs ls C h1 h2 h3 h4 => lv_iload_n C.1 C.2.1 hd hi (h4.2.2.2 _ _ hl) (k p e s m args below meth c H locs ls C h1 h2 h3 h4)
theorem s_iload {i : Nat} {x : Int32} (hd : decode M.2.1 pc = .ok (.iload i, 2)) (hl : L[i]? = some (some (vI x))) (k : At G M rm uc us (pc + 2) L (vI x :: S) σ K) : At G M rm uc us pc L S σ K :=
  fun p e s m args below meth c H locs ls C h1 h2 h3 h4 => lv_iload C.1 C.2.1 hd (h4.2.2.2 _ _ hl) (k p e s m args below meth c H locs ls C h1 h2 h3 h4)
theorem s_aload_n {n : Fin 4} {i : Nat} {x : Option Nat} (hd : decode M.2.1 pc = .ok (.aload_n n, 1)) (hi : (n : Nat) = i) (hl : L[i]? = some (some (vR x))) (k : At G M rm uc us (pc + 1) L (vR x :: S) σ K) : At G M rm uc us pc L S σ K := by
  intro p e s m args below meth c H locs ls C h1 h2 h3 h4
  have h := h4.2.2.2 _ _ hl
  cases x with
  | none => exact lv_aload_nN C.1 C.2.1 hd hi h (k p e s m args below meth c H locs ls C h1 h2 h3 h4)
  | some a => exact lv_aload_n C.1 C.2.1 hd hi h (k p e s m args below meth c H locs ls C h1 h2 h3 h4)
theorem s_aload {i : Nat} {x : Option Nat} (hd : decode M.2.1 pc = .ok (.aload i, 2)) (hl : L[i]? = some (some (vR x))) (k : At G M rm uc us (pc + 2) L (vR x :: S) σ K) : At G M rm uc us pc L S σ K := by
  intro p e s m args below meth c H locs ls C h1 h2 h3 h4
  have h := h4.2.2.2 _ _ hl
  cases x with
  | none => exact lv_aloadN C.1 C.2.1 hd h (k p e s m args below meth c H locs ls C h1 h2 h3 h4)
  | some a => exact lv_aload C.1 C.2.1 hd h (k p e s m args below meth c H locs ls C h1 h2 h3 h4)
theorem s_fload {i : Nat} {x : UInt32} (hd : decode M.2.1 pc = .ok (.fload i, 2)) (hl : L[i]? = some (some (vF x))) (k : At G M rm uc us (pc + 2) L (vF x :: S) σ K) : At G M rm uc us pc L S σ K :=
  fun p e s m args below meth c H locs ls C h1 h2 h3 h4 => lv_fload C.1 C.2.1 hd (h4.2.2.2 _ _ hl) (k p e s m args below meth c H locs ls C h1 h2 h3 h4)
theorem s_dload {i : Nat} {x : UInt64} (hd : decode M.2.1 pc = .ok (.dload i, 2)) (hl : L[i]? = some (some (vD x))) (k : At G M rm uc us (pc + 2) L (vD x :: S) σ K) : At G M rm uc us pc L S σ K :=
  fun p e s m args below meth c H locs ls C h1 h2 h3 h4 => lv_dload C.1 C.2.1 hd (h4.2.2.2 _ _ hl) (k p e s m args below meth c H locs ls C h1 h2 h3 h4)
/-- the place ahead holds no long -/
def okS (L : List (Option VV)) (i : Nat) : Bool := i == 0 || match L[i - 1]? with
  | some (some w) => !wide w
  | some none => true
  | none => true
theorem lcs_all {ls : Array Slot} {n : Nat} {L : List (Option VV)} (h : lcs ls n L) (j : Nat) (w : VV) (hj : L[j]? = some (some w)) : lv_has ls n [(j, em w)] :=
  ⟨h.1, h.2.2.1, fun q hq => by rw [List.mem_singleton.mp hq]; exact h.2.2.2 j w hj⟩
theorem lcs_st1 {ls : Array Slot} {n : Nat} {L : List (Option VV)} {i : Nat} {v : VV} (h : lcs ls n L) (hc : wide v = false) (ho : okS L i = true) (hi : i < n) : ∃ ls', storeLocals ls i (em v) = some ls' ∧ lcs ls' n (L.set i (some v)) := by
  have hc1 := em_c1 hc
  obtain ⟨ls', e1, e2⟩ := lv_store1 (l := []) (v := em v) ⟨h.1, h.2.2.1, fun q hq => by cases hq⟩ hi hc1
  refine ⟨ls', e1, e2.1, by rw [List.length_set]; exact h.2.1, e2.2.1, fun j w hj => ?_⟩
  by_cases hji : i = j
  · subst hji
    rw [List.getElem?_set_self (by rw [h.2.1]; exact hi)] at hj
    cases hj
    exact e2.2.2 (i, em v) (by simp)
  · rw [List.getElem?_set_ne hji] at hj
    obtain ⟨ls2, f1, f2⟩ := lv_store1 (v := em v) (lcs_all h j w hj) hi hc1
    rw [e1] at f1
    cases f1
    refine f2.2.2 (j, em w) (List.mem_cons_of_mem _ (List.mem_filter.mpr ⟨List.mem_singleton.mpr rfl, ?_⟩))
    simp only [Bool.and_eq_true, Bool.not_eq_true', beq_eq_false_iff_ne, ne_eq, Bool.and_eq_false_iff]
    refine ⟨fun q => hji q.symm, ?_⟩
    by_cases hp : j + 1 = i
    · right
      have hw : wide w = false := by
        unfold okS at ho
        rw [show i - 1 = j by omega, hj] at ho
        simp only [Bool.or_eq_true, beq_iff_eq, Bool.not_eq_true'] at ho
        rcases ho with ho | ho
        · omega
        · exact ho
      rw [em_c1 hw]; decide
    · exact Or.inl hp
theorem s_istore_n {n : Fin 4} {i : Nat} {x : Int32} {L' : List (Option VV)} (hd : decode M.2.1 pc = .ok (.istore_n n, 1)) (hi : (n : Nat) = i) (ho : okS L i = true) (hn : i < M.2.2.1) (hl : L.set i (some (vI x)) = L') (k : At G M rm uc us (pc + 1) L' S σ K) : At G M rm uc us pc L (vI x :: S) σ K := by
  subst hi; subst hl
  intro p e s m args below meth c H locs ls C h1 h2 h3 h4
  obtain ⟨ls', e', h'⟩ := lcs_st1 (v := vI x) h4 rfl ho hn
  intro T hT X
  obtain ⟨t, a, b⟩ := k p e s m args below meth c H locs ls' C h1 h2 h3 h' T hT X
  refine ⟨t, ?_, b⟩
  have hx := C.1
  have hb := C.2.1
  have e' : storeLocals ls n (.int x) = some ls' := e'
  simp only [List.map_cons, em]
  jvm_step X.here [X.here.top, ↓top_set X.here.top, hx, hb, hd, e']
  exact a
theorem s_istore {i : Nat} {x : Int32} {L' : List (Option VV)} (hd : decode M.2.1 pc = .ok (.istore i, 2)) (ho : okS L i = true) (hn : i < M.2.2.1) (hl : L.set i (some (vI x)) = L') (k : At G M rm uc us (pc + 2) L' S σ K) : At G M rm uc us pc L (vI x :: S) σ K := by
  subst hl
  intro p e s m args below meth c H locs ls C h1 h2 h3 h4
  obtain ⟨ls', e', h'⟩ := lcs_st1 (v := vI x) h4 rfl ho hn
  intro T hT X
  obtain ⟨t, a, b⟩ := k p e s m args below meth c H locs ls' C h1 h2 h3 h' T hT X
  refine ⟨t, ?_, b⟩
  have hx := C.1
  have hb := C.2.1
  have e' : storeLocals ls i (.int x) = some ls' := e'
  simp only [List.map_cons, em]
  jvm_step X.here [X.here.top, ↓top_set X.here.top, hx, hb, hd, e']
  exact a
theorem s_astore_n {n : Fin 4} {i : Nat} {x : Option Nat} {L' : List (Option VV)} (hd : decode M.2.1 pc = .ok (.astore_n n, 1)) (hi : (n : Nat) = i) (ho : okS L i = true) (hn : i < M.2.2.1) (hl : L.set i (some (vR x)) = L') (k : At G M rm uc us (pc + 1) L' S σ K) : At G M rm uc us pc L (vR x :: S) σ K := by
  subst hi; subst hl
  intro p e s m args below meth c H locs ls C h1 h2 h3 h4
  obtain ⟨ls', e', h'⟩ := lcs_st1 (v := vR x) h4 rfl ho hn
  intro T hT X
  obtain ⟨t, a, b⟩ := k p e s m args below meth c H locs ls' C h1 h2 h3 h' T hT X
  refine ⟨t, ?_, b⟩
  have hx := C.1
  have hb := C.2.1
  cases x with
  | none =>
    have e' : storeLocals ls n .null = some ls' := e'
    simp only [List.map_cons, em, va_rf]
    jvm_step X.here [X.here.top, ↓top_set X.here.top, hx, hb, hd, e', Value.isRef]
    exact a
  | some q =>
    have e' : storeLocals ls n (.ref q) = some ls' := e'
    simp only [List.map_cons, em, va_rf]
    jvm_step X.here [X.here.top, ↓top_set X.here.top, hx, hb, hd, e', Value.isRef]
    exact a
theorem s_astore {i : Nat} {x : Option Nat} {L' : List (Option VV)} (hd : decode M.2.1 pc = .ok (.astore i, 2)) (ho : okS L i = true) (hn : i < M.2.2.1) (hl : L.set i (some (vR x)) = L') (k : At G M rm uc us (pc + 2) L' S σ K) : At G M rm uc us pc L (vR x :: S) σ K := by
  subst hl
  intro p e s m args below meth c H locs ls C h1 h2 h3 h4
  obtain ⟨ls', e', h'⟩ := lcs_st1 (v := vR x) h4 rfl ho hn
  intro T hT X
  obtain ⟨t, a, b⟩ := k p e s m args below meth c H locs ls' C h1 h2 h3 h' T hT X
  refine ⟨t, ?_, b⟩
  have hx := C.1
  have hb := C.2.1
  cases x with
  | none =>
    have e' : storeLocals ls i .null = some ls' := e'
    simp only [List.map_cons, em, va_rf]
    jvm_step X.here [X.here.top, ↓top_set X.here.top, hx, hb, hd, e', Value.isRef]
    exact a
  | some q =>
    have e' : storeLocals ls i (.ref q) = some ls' := e'
    simp only [List.map_cons, em, va_rf]
    jvm_step X.here [X.here.top, ↓top_set X.here.top, hx, hb, hd, e', Value.isRef]
    exact a
theorem s_fstore {i : Nat} {x : UInt32} {L' : List (Option VV)} (hd : decode M.2.1 pc = .ok (.fstore i, 2)) (ho : okS L i = true) (hn : i < M.2.2.1) (hl : L.set i (some (vF x)) = L') (k : At G M rm uc us (pc + 2) L' S σ K) : At G M rm uc us pc L (vF x :: S) σ K := by
  subst hl
  intro p e s m args below meth c H locs ls C h1 h2 h3 h4
  obtain ⟨ls', e', h'⟩ := lcs_st1 (v := vF x) h4 rfl ho hn
  intro T hT X
  obtain ⟨t, a, b⟩ := k p e s m args below meth c H locs ls' C h1 h2 h3 h' T hT X
  refine ⟨t, ?_, b⟩
  have hx := C.1
  have hb := C.2.1
  have e' : storeLocals ls i (.float x) = some ls' := e'
  simp only [List.map_cons, em]
  jvm_step X.here [X.here.top, ↓top_set X.here.top, hx, hb, hd, e']
  exact a
theorem s_iinc {i : Nat} {n : Int} {x v : Int32} {L' : List (Option VV)} (hd : decode M.2.1 pc = .ok (.iinc i n, 3)) (hx : L[i]? = some (some (vI x))) (hv : x + Int32.ofInt n = v) (ho : okS L i = true) (hn : i < M.2.2.1) (hl : L.set i (some (vI v)) = L') (k : At G M rm uc us (pc + 3) L' S σ K) : At G M rm uc us pc L S σ K := by
  subst hl; subst hv
  intro p e s m args below meth c H locs ls C h1 h2 h3 h4
  obtain ⟨ls', e', h'⟩ := lcs_st1 (v := vI (x + Int32.ofInt n)) h4 rfl ho hn
  intro T hT X
  obtain ⟨t, a, b⟩ := k p e s m args below meth c H locs ls' C h1 h2 h3 h' T hT X
  refine ⟨t, ?_, b⟩
  have hex := C.1
  have hb := C.2.1
  have hg : ls[i]? = some (.val (.int x)) := h4.2.2.2 _ _ hx
  have e' : storeLocals ls i (.int (x + Int32.ofInt n)) = some ls' := e'
  jvm_step X.here [X.here.top, ↓top_set X.here.top, hex, hb, hd, hg, e']
  exact a
end RWS
