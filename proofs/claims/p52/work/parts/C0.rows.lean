/-! ===== one instruction, one row: longs, texts, what the law has beside ===== -/
/-- a long's or a double's store -/
theorem lcs_st2 {ls : Array Slot} {n : Nat} {L : List (Option VV)} {i : Nat} {v : VV} (h : lcs ls n L) (hc : wide v = true) (ho : okS L i = true) (hi : i + 1 < n) : ∃ ls', storeLocals ls i (em v) = some ls' ∧ lcs ls' n ((L.set i (some v)).set (i + 1) none) := by
  have hc1 : (em v).category = 2 := by
    rcases v with y | r | y | y | y
    · cases hc
    · cases hc
    · rfl
    · cases hc
    · rfl
  obtain ⟨ls', e1, e2⟩ := lv_store2 (l := []) (v := em v) ⟨h.1, h.2.2.1, fun q hq => by cases hq⟩ hi hc1
  refine ⟨ls', e1, e2.1, by rw [List.length_set, List.length_set]; exact h.2.1, e2.2.1, fun j w hj => ?_⟩
  by_cases hj1 : i + 1 = j
  · subst hj1
    rw [List.getElem?_set_self (by rw [List.length_set, h.2.1]; exact hi)] at hj
    cases hj
  rw [List.getElem?_set_ne hj1] at hj
  by_cases hji : i = j
  · subst hji
    rw [List.getElem?_set_self (by rw [h.2.1]; omega)] at hj
    cases hj
    exact e2.2.2 (i, em v) (by simp)
  · rw [List.getElem?_set_ne hji] at hj
    obtain ⟨ls2, f1, f2⟩ := lv_store2 (v := em v) (lcs_all h j w hj) hi hc1
    rw [e1] at f1
    cases f1
    refine f2.2.2 (j, em w) (List.mem_cons_of_mem _ (List.mem_filter.mpr ⟨List.mem_singleton.mpr rfl, ?_⟩))
    simp only [Bool.and_eq_true, Bool.not_eq_true', beq_eq_false_iff_ne, ne_eq, Bool.and_eq_false_iff]
    refine ⟨fun q => hji q.symm, fun q => hj1 q.symm, ?_⟩
    by_cases hp : j + 1 = i
    · right
      have hw : wide w = false := by
        unfold okS at ho
        rw [show i - 1 = j by omega, hj] at ho
        simp only [Bool.or_eq_true, beq_iff_eq, Bool.not_eq_true'] at ho
        rcases ho with ho | ho
        · omega
        · exact ho
      rw [em_c1 hw]; decide
    · exact Or.inl hp

section RWC
variable {G : GG} {M : SIG} {rm : Room} {uc us pc : Nat} {L : List (Option VV)} {S : List VV} {σ : Mm} {K : RES → Mm → Prop}
theorem s_ladd {x y : Int64} (hd : decode M.2.1 pc = .ok (.ladd, 1)) (k : At G M rm uc us (pc + 1) L (vL (x + y) :: S) σ K) : At G M rm uc us pc L (vL y :: vL x :: S) σ K :=
  fun p e s m args below meth c H locs ls C h1 h2 h3 h4 => lv_ladd C.1 C.2.1 hd (k p e s m args below meth c H locs ls C h1 h2 h3 h4)
theorem s_lmul {x y : Int64} (hd : decode M.2.1 pc = .ok (.lmul, 1)) (k : At G M rm uc us (pc + 1) L (vL (x * y) :: S) σ K) : At G M rm uc us pc L (vL y :: vL x :: S) σ K :=
  fun p e s m args below meth c H locs ls C h1 h2 h3 h4 => lv_lmul C.1 C.2.1 hd (k p e s m args below meth c H locs ls C h1 h2 h3 h4)
theorem s_ior {x y : Int32} (hd : decode M.2.1 pc = .ok (.ior, 1)) (k : At G M rm uc us (pc + 1) L (vI (x ||| y) :: S) σ K) : At G M rm uc us pc L (vI y :: vI x :: S) σ K :=
  fun p e s m args below meth c H locs ls C h1 h2 h3 h4 => lv_ior C.1 C.2.1 hd (k p e s m args below meth c H locs ls C h1 h2 h3 h4)
/-- a shift to the right that takes no sign along -/
def us_ (x y : Int32) : Int32 := (x.toUInt32 >>> (y.toUInt32 &&& Int32.toUInt32 31)).toInt32
theorem s_iushr {x y : Int32} (hd : decode M.2.1 pc = .ok (.iushr, 1)) (k : At G M rm uc us (pc + 1) L (vI (us_ x y) :: S) σ K) : At G M rm uc us pc L (vI y :: vI x :: S) σ K :=
  fun p e s m args below meth c H locs ls C h1 h2 h3 h4 => lv_iushr C.1 C.2.1 hd rfl (k p e s m args below meth c H locs ls C h1 h2 h3 h4)
theorem s_lload_n {n : Fin 4} {i : Nat} {x : Int64} (hd : decode M.2.1 pc = .ok (.lload_n n, 1)) (hi : (n : Nat) = i) (hl : L[i]? = some (some (vL x))) (k : At G M rm uc us (pc + 1) L (vL x :: S) σ K) : At G M rm uc us pc L S σ K :=
  fun p e s m args below meth c H locs ls C h1 h2 h3 h4 => lv_lload_n C.1 C.2.1 hd hi (h4.2.2.2 _ _ hl) (k p e s m args below meth c H locs ls C h1 h2 h3 h4)
theorem s_lload {i : Nat} {x : Int64} (hd : decode M.2.1 pc = .ok (.lload i, 2)) (hl : L[i]? = some (some (vL x))) (k : At G M rm uc us (pc + 2) L (vL x :: S) σ K) : At G M rm uc us pc L S σ K :=
  fun p e s m args below meth c H locs ls C h1 h2 h3 h4 => lv_lload C.1 C.2.1 hd (h4.2.2.2 _ _ hl) (k p e s m args below meth c H locs ls C h1 h2 h3 h4)
theorem s_lstore_n {n : Fin 4} {i : Nat} {y : Int64} {L' : List (Option VV)} (hd : decode M.2.1 pc = .ok (.lstore_n n, 1)) (hi : (n : Nat) = i) (ho : okS L i = true) (hn : i + 1 < M.2.2.1) (hl : (L.set i (some (vL y))).set (i + 1) none = L') (k : At G M rm uc us (pc + 1) L' S σ K) : At G M rm uc us pc L (vL y :: S) σ K := by
  subst hi; subst hl
  intro p e s m args below meth c H locs ls C h1 h2 h3 h4
  obtain ⟨ls', e', h'⟩ := lcs_st2 (v := vL y) h4 rfl ho hn
  intro T hT X
  obtain ⟨t, a, b⟩ := k p e s m args below meth c H locs ls' C h1 h2 h3 h' T hT X
  refine ⟨t, ?_, b⟩
  have hx := C.1
  have hb := C.2.1
  have e' : storeLocals ls n (.long y) = some ls' := e'
  simp only [List.map_cons, em]
  jvm_step X.here [X.here.top, ↓top_set X.here.top, hx, hb, hd, Op.lstore_n.sem, e']
  exact a
theorem s_ldc2 (gk : GOK G) {idx : Nat} {v : Int64} (hd : decode M.2.1 pc = .ok (.ldc2_w idx, 3)) (hw : Cond.constantLong M.1.cls idx v ∈ TBL) (k : At G M rm uc us (pc + 3) L (vL v :: S) σ K) : At G M rm uc us pc L S σ K :=
  fun p e s m args below meth c H locs ls X h1 h2 h3 h4 => lv_ldc2 (args := args) X.1 X.2.1 X.2.2.2.2.1 (tb_s gk X.2.2.2.2.2.2.2.2 _ hw) hd (k p e s m args below meth c H locs ls X h1 h2 h3 h4)
theorem s_ldcwS {tx : String} {idx q : Nat} (hd : decode M.2.1 pc = .ok (.ldc_w idx, 3)) (hz : vk_R M.1.cls idx tx q (gs G)) (k : At G M rm uc us (pc + 3) L (vR (some q) :: S) σ K) : At G M rm uc us pc L S σ K := by
  intro p e s m args below meth c H locs ls C h1 h2 h3 h4 T hT X
  obtain ⟨t, a1, b1⟩ := k p e s m args below meth c H locs ls C h1 h2 h3 h4 T hT X
  have hZ := vk_R.warm C.2.2.2.2.2.2.2.2 hz
  refine ⟨t, ?_, b1⟩
  obtain ⟨k0, cf, i, a', hk, hcf, hcp, -, hr, hev'⟩ := Cond.stringRef_spec (args := #[]) C.2.2.2.2.1 hZ.1
  cases hZ.2.symm.trans hev'
  obtain ⟨k', hk', he⟩ := X.warmed.alike.2.2 _ _ hk
  have hr' : k'.resolved[idx]? = some (some (.string q)) := by
    rcases X.warmed.entry hk hk' idx with h | ⟨h, -⟩
    · rw [h]; exact hr
    · rw [hr] at h; cases h
  have hx := C.1
  have hb := C.2.1
  jvm_step X.here [hx, hb, hd, Op.ldc_w.wp_string (e := e) (s := T) (f := F0 m pc ls (S.map em)) X.here.top hk' (by rw [he]; exact hcf) hcp hr']
  exact a1
theorem s_lreturn {x : Int64} (hd : decode M.2.1 pc = .ok (.lreturn, 1)) (hr : M.2.2.2 = some .long) (g1 : uc ≤ rm.cells) (g2 : us ≤ rm.slots) (hk : K (.inl (some (vL x))) σ) : At G M rm uc us pc L [vL x] σ K := by
  intro p e s m args below meth c H locs ls C h1 h2 h3 h4
  exact W.widen g1 g2 (vx_ret (W.lret C.1 C.2.1 (C.2.2.1.trans hr) (qc_of (v := some (vL x)) h1 h3 hk) h2 hd C.2.2.2.2.2.1))
end RWC
