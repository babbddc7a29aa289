/-! ===== methods with a table of their own ===== -/
def CXH (hh : List (Nat × Nat × Nat × Nat)) (G : GG) (M : SIG) (p : Program) (s : State) (m : MethodId) (meth : Method) (c : Code) : Prop :=
  p.tables.exec = Jvm.exec ∧ c.code = M.2.1 ∧ meth.sig.returnType = M.2.2.2 ∧ c.maxLocals = M.2.2.1 ∧ s.vm.findClass M.1.cls = some m.cls ∧ meth.locks = false ∧ c.exceptionTable.toList = tableOf hh ∧ (meth.name = M.1.name ∧ (gs G).heap.size ≤ s.heap.size ∧ ∀ q, q < (gs G).heap.size → s.heap[q]? = (gs G).heap[q]?) ∧ (gs G).WarmedH s.vm
def AtH (G : GG) (M : SIG) (hh : List (Nat × Nat × Nat × Nat)) (rm : Room) (uc us pc : Nat) (L : List (Option VV)) (S : List VV) (σ : Mm) (K : RES → Mm → Prop) : Prop :=
  ∀ (p : Program) (e : Env) (s : State) (m : MethodId) (args : Array Value) (below : List Frame) (meth : Method) (c : Code) (H : Heap) (locs : List Loc) (ls : Array Slot),
    CXH hh G M p s m meth c → s.heap.size ≤ H.size → (∀ z ∈ locs, frG G z.base) → HK G σ H → lcs ls M.2.2.1 L →
    W p (gl G) e rm s m args below meth c H locs uc us (vx_MQ below (QcG G K) (XCG G K) args s rm.cells rm.slots (frG G)) (F0 m pc ls (S.map em))
def RunsH (G : GG) (M : SIG) (hh : List (Nat × Nat × Nat × Nat)) (rm : Room) (as : List VV) (σ : Mm) (K : RES → Mm → Prop) : Prop :=
  vx_Met (gl G) M.1 [Cond.codeWith M.1 M.2.1 M.2.2.1 M.2.2.2 hh] rm (fun v U => v = (as.map em).toArray ∧ HK G σ U.heap ∧ (gs G).WarmedH U.vm) (QcG G K) (XCG G K) rm.cells rm.slots (frG G)
theorem RunsH.of {G : GG} {M : SIG} {hh : List (Nat × Nat × Nat × Nat)} {rm : Room} {as : List VV} {σ : Mm} {K : RES → Mm → Prop} (hy : plainName M.1.cls = true) (hw : as.all (fun v => !wide v) = true) (hn : as.length ≤ M.2.2.1)
    (h : AtH G M hh rm 0 0 0 (as.map some ++ List.replicate (M.2.2.1 - as.length) none) [] σ K) : RunsH G M hh rm as σ K := by
  refine vx_ofWH (cc := M.2.1) (maxL := M.2.2.1) (ret := M.2.2.2) (hh := hh) hy rfl ?_
  intro p e s m args below meth c s₁ B hml hv
  obtain ⟨rfl, hH, hW⟩ := hv
  have ht := vx_table (x := M.1) (y := M.1) (bytes := M.2.1) (maxL' := M.2.2.1) (ret' := M.2.2.2) (hh := hh) B (atoms_spec B.pre _ List.mem_cons_self)
  have h9 := h p e s m (as.map em).toArray below meth c s.heap [] _ ⟨B.exec, B.bytes, B.returns, hml, findClass_of_methodNamed B.named, B.notSynchronized, ht, ⟨(name_of_methodNamed B.named B.method).1, by rw [hH.1]; exact hH.2.1, hH.2.2.1⟩, hW⟩ (Nat.le_refl _) (fun _ h => by cases h) hH (lcs_entry as M.2.2.1 hw hn)
  rw [lg_entry_eq]
  exact h9
section RWH
variable {G : GG} {M : SIG} {hh : List (Nat × Nat × Nat × Nat)} {rm : Room} {uc us pc : Nat} {L : List (Option VV)} {S : List VV} {σ : Mm} {K : RES → Mm → Prop}
theorem h_ast (gk : GOK G) {a n j k st : Nat} {v : Value} {σ' : Mm} {locs : List Loc} {H H' : Heap} {p : Program} {e : Env} {s : State} {m : MethodId} {args : Array Value} {below : List Frame} {meth : Method} {c : Code} {ls : Array Slot} (C : CXH hh G M p s m meth c) (h1 : s.heap.size ≤ H.size) (h2 : ∀ z ∈ locs, frG G z.base) (h3 : HK G σ H) (h4 : lcs ls M.2.2.1 L) (hj : j < 11) (ht : mt σ a = (50 + j, n))
    (g1 : H'[a]? = some ((arrV (gA G j) n (fun i => ev σ a j i)).setSlot k v)) (g2 : H'.size = H.size) (g3 : ∀ q, q ≠ a → H'[q]? = H[q]?) (e1 : mt σ' = mt σ) (e2 : mz σ' = mz σ) (e3 : ∀ b, b ≠ a → smA σ σ' b) (e4 : ∀ i, updV (fun i => ev σ a j i) k v i = ev σ' a j i) (kk : AtH G M hh rm uc us st L S σ' K) :
    W p (gl G) e rm s m args below meth c H' (locs ++ [⟨a, k⟩]) uc us (vx_MQ below (QcG G K) (XCG G K) args s rm.cells rm.slots (frG G)) (F0 m st ls (S.map em)) := by
  have hN := (hk_arr h3 hj ht).1
  refine kk p e s m args below meth c H' _ ls C (by rw [g2]; exact h1) (fun z hz => ?_) (hk_put h3 hN e1 e2 e3 g2 g3 ?_) h4
  · rcases List.mem_append.mp hz with h | h
    · exact h2 z h
    · rw [List.mem_singleton.mp h]; exact hN
  · rw [ht]
    refine (atT_arr hj).mpr ⟨hN, ?_⟩
    rw [g1, arrV_store]
    congr 2
    exact funext e4
theorem h_iconst {n : Int} {v : Int32} (hd : decode M.2.1 pc = .ok (.iconst n, 1)) (hv : Int32.ofInt n = v) (k : AtH G M hh rm uc us (pc + 1) L (vI v :: S) σ K) : AtH G M hh rm uc us pc L S σ K :=
  fun p e s m args below meth c H locs ls C h1 h2 h3 h4 => lv_iconst C.1 C.2.1 hd hv (k p e s m args below meth c H locs ls C h1 h2 h3 h4)
theorem h_lconst {n : Fin 2} {v : Int64} (hd : decode M.2.1 pc = .ok (.lconst n, 1)) (hv : Int64.ofNat (n : Nat) = v) (k : AtH G M hh rm uc us (pc + 1) L (vL v :: S) σ K) : AtH G M hh rm uc us pc L S σ K :=
  fun p e s m args below meth c H locs ls C h1 h2 h3 h4 => lv_lconst C.1 C.2.1 hd hv (k p e s m args below meth c H locs ls C h1 h2 h3 h4)
theorem h_iload_n {n : Fin 4} {i : Nat} {x : Int32} (hd : decode M.2.1 pc = .ok (.iload_n n, 1)) (hi : (n : Nat) = i) (hl : L[i]? = some (some (vI x))) (k : AtH G M hh rm uc us (pc + 1) L (vI x :: S) σ K) : AtH G M hh rm uc us pc L S σ K :=
  fun p e s m args below meth c H locs ls C h1 h2 h3 h4 => lv_iload_n C.1 C.2.1 hd hi (h4.2.2.2 _ _ hl) (k p e s m args below meth c H locs ls C h1 h2 h3 h4)
theorem h_iload {i : Nat} {x : Int32} (hd : decode M.2.1 pc = .ok (.iload i, 2)) (hl : L[i]? = some (some (vI x))) (k : AtH G M hh rm uc us (pc + 2) L (vI x :: S) σ K) : AtH G M hh rm uc us pc L S σ K :=
  fun p e s m args below meth c H locs ls C h1 h2 h3 h4 => lv_iload C.1 C.2.1 hd (h4.2.2.2 _ _ hl) (k p e s m args below meth c H locs ls C h1 h2 h3 h4)
theorem h_aload_n {n : Fin 4} {i : Nat} {x : Option Nat} (hd : decode M.2.1 pc = .ok (.aload_n n, 1)) (hi : (n : Nat) = i) (hl : L[i]? = some (some (vR x))) (k : AtH G M hh rm uc us (pc + 1) L (vR x :: S) σ K) : AtH G M hh rm uc us pc L S σ K := by
  intro p e s m args below meth c H locs ls C h1 h2 h3 h4
  have h := h4.2.2.2 _ _ hl
  cases x with
  | none => exact lv_aload_nN C.1 C.2.1 hd hi h (k p e s m args below meth c H locs ls C h1 h2 h3 h4)
  | some a => exact lv_aload_n C.1 C.2.1 hd hi h (k p e s m args below meth c H locs ls C h1 h2 h3 h4)
theorem h_aload {i : Nat} {x : Option Nat} (hd : decode M.2.1 pc = .ok (.aload i, 2)) (hl : L[i]? = some (some (vR x))) (k : AtH G M hh rm uc us (pc + 2) L (vR x :: S) σ K) : AtH G M hh rm uc us pc L S σ K := by
  intro p e s m args below meth c H locs ls C h1 h2 h3 h4
  have h := h4.2.2.2 _ _ hl
  cases x with
  | none => exact lv_aloadN C.1 C.2.1 hd h (k p e s m args below meth c H locs ls C h1 h2 h3 h4)
  | some a => exact lv_aload C.1 C.2.1 hd h (k p e s m args below meth c H locs ls C h1 h2 h3 h4)
theorem h_astore_n {n : Fin 4} {i : Nat} {x : Option Nat} {L' : List (Option VV)} (hd : decode M.2.1 pc = .ok (.astore_n n, 1)) (hi : (n : Nat) = i) (ho : okS L i = true) (hn : i < M.2.2.1) (hl : L.set i (some (vR x)) = L') (k : AtH G M hh rm uc us (pc + 1) L' S σ K) : AtH G M hh rm uc us pc L (vR x :: S) σ K := by
  subst hi; subst hl
  intro p e s m args below meth c H locs ls C h1 h2 h3 h4
  obtain ⟨ls', e', h'⟩ := lcs_st1 (v := vR x) h4 rfl ho hn
  intro T hT X
  obtain ⟨t, a, b⟩ := k p e s m args below meth c H locs ls' C h1 h2 h3 h' T hT X
  refine ⟨t, ?_, b⟩
  have hx := C.1
  have hb := C.2.1
  cases x with
  | none =>
    have e' : storeLocals ls n .null = some ls' := e'
    simp only [List.map_cons, em, va_rf]
    jvm_step X.here [X.here.top, ↓top_set X.here.top, hx, hb, hd, e', Value.isRef]
    exact a
  | some q =>
    have e' : storeLocals ls n (.ref q) = some ls' := e'
    simp only [List.map_cons, em, va_rf]
    jvm_step X.here [X.here.top, ↓top_set X.here.top, hx, hb, hd, e', Value.isRef]
    exact a
theorem h_astore {i : Nat} {x : Option Nat} {L' : List (Option VV)} (hd : decode M.2.1 pc = .ok (.astore i, 2)) (ho : okS L i = true) (hn : i < M.2.2.1) (hl : L.set i (some (vR x)) = L') (k : AtH G M hh rm uc us (pc + 2) L' S σ K) : AtH G M hh rm uc us pc L (vR x :: S) σ K := by
  subst hl
  intro p e s m args below meth c H locs ls C h1 h2 h3 h4
  obtain ⟨ls', e', h'⟩ := lcs_st1 (v := vR x) h4 rfl ho hn
  intro T hT X
  obtain ⟨t, a, b⟩ := k p e s m args below meth c H locs ls' C h1 h2 h3 h' T hT X
  refine ⟨t, ?_, b⟩
  have hx := C.1
  have hb := C.2.1
  cases x with
  | none =>
    have e' : storeLocals ls i .null = some ls' := e'
    simp only [List.map_cons, em, va_rf]
    jvm_step X.here [X.here.top, ↓top_set X.here.top, hx, hb, hd, e', Value.isRef]
    exact a
  | some q =>
    have e' : storeLocals ls i (.ref q) = some ls' := e'
    simp only [List.map_cons, em, va_rf]
    jvm_step X.here [X.here.top, ↓top_set X.here.top, hx, hb, hd, e', Value.isRef]
    exact a
theorem h_i2l {x : Int32} {v : Int64} (hd : decode M.2.1 pc = .ok (.i2l, 1)) (hv : x.toInt64 = v) (k : AtH G M hh rm uc us (pc + 1) L (vL v :: S) σ K) : AtH G M hh rm uc us pc L (vI x :: S) σ K :=
  fun p e s m args below meth c H locs ls C h1 h2 h3 h4 => lv_i2l C.1 C.2.1 hd hv (k p e s m args below meth c H locs ls C h1 h2 h3 h4)
theorem h_f2d {x : UInt32} (hd : decode M.2.1 pc = .ok (.f2d, 1)) (hn : vf_n64 (FP.f2d x)) (k : AtH G M hh rm uc us (pc + 1) L (vD (FP.f2d x) :: S) σ K) : AtH G M hh rm uc us pc L (vF x :: S) σ K :=
  fun p e s m args below meth c H locs ls C h1 h2 h3 h4 => lv_f2d C.1 C.2.1 hd hn (k p e s m args below meth c H locs ls C h1 h2 h3 h4)
theorem h_if_eq {x : Int32} {off : Int} {tgt : Nat} (hd : decode M.2.1 pc = .ok (.ifCond .eq off, 3)) (ht : (pc : Int) + off = (tgt : Int)) (kt : x = 0 → AtH G M hh rm uc us tgt L S σ K) (kf : ¬ x = 0 → AtH G M hh rm uc us (pc + 3) L S σ K) : AtH G M hh rm uc us pc L (vI x :: S) σ K :=
  fun p e s m args below meth c H locs ls C h1 h2 h3 h4 => lv_if_eq C.1 C.2.1 hd ht (fun q => kt q p e s m args below meth c H locs ls C h1 h2 h3 h4) (fun q => kf q p e s m args below meth c H locs ls C h1 h2 h3 h4)
theorem h_goto {off : Int} {tgt : Nat} (hd : decode M.2.1 pc = .ok (.goto off, 3)) (ht : (pc : Int) + off = (tgt : Int)) (k : AtH G M hh rm uc us tgt L S σ K) : AtH G M hh rm uc us pc L S σ K :=
  fun p e s m args below meth c H locs ls C h1 h2 h3 h4 => lv_goto C.1 C.2.1 hd ht (k p e s m args below meth c H locs ls C h1 h2 h3 h4)
theorem h_ireturn {x : Int32} {ty : FieldType} (hd : decode M.2.1 pc = .ok (.ireturn, 1)) (hr : M.2.2.2 = some ty) (hn : narrow ty (.int x) = .int x) (g1 : uc ≤ rm.cells) (g2 : us ≤ rm.slots) (hk : K (.inl (some (vI x))) σ) : AtH G M hh rm uc us pc L [vI x] σ K := by
  intro p e s m args below meth c H locs ls C h1 h2 h3 h4
  exact W.widen g1 g2 (vx_ret (W.zret C.1 C.2.1 (C.2.2.1.trans hr) hn (qc_of h1 h3 hk) h2 hd C.2.2.2.2.2.1))
theorem h_last (gk : GOK G) {a n : Nat} {i : Int32} {x : Int64} (hd : decode M.2.1 pc = .ok (.lastore, 1)) (ht : mt σ a = (51, n)) (hin : vp_in i n) (kk : AtH G M hh rm uc us (pc + 1) L S (sl σ a i.toNatClampNeg x) K) : AtH G M hh rm uc us pc L (vL x :: vI i :: vR (some a) :: S) σ K := by
  intro p e s m args below meth c H locs ls C h1 h2 h3 h4
  obtain ⟨-, q1⟩ := hk_arr (j := 1) h3 (by decide) ht
  refine W.last C.1 C.2.1 q1 ((gk_arr gk C.2.2.2.2.2.2.2.2 (j := 1) (by decide)).1 n _) (av_kn _ _ _) (av_in _ _ hin) rfl rfl hd fun H' g1 g2 g3 => h_ast (σ' := sl σ a i.toNatClampNeg x) (j := 1) gk C h1 h2 h3 h4 (by decide) ht g1 g2 g3 rfl rfl (fun _ h => sm_sl h) (fun q => ?_) kk
  by_cases h : q = i.toNatClampNeg <;> simp [updV, ev, sl, ml, u2, h]
/-- what the start says of two classes that are not one another's -/
def EX5 : List String := ["java/lang/IllegalArgumentException", "java/lang/IllegalStateException", "java/lang/IndexOutOfBoundsException", "java/util/NoSuchElementException"]
def NOK (G : GG) : Prop := ∀ E nm, E ∈ EX5 → nm ∈ EX5 → E ≠ nm → va_Nc E nm (gs G)
/-- the row that takes E, thrown at pc: the handler at hp; the rows ahead of it name classes that E is not -/
def tk (G : GG) (own E : String) (hh : List (Nat × Nat × Nat × Nat)) (pc hp : Nat) : Prop :=
  ∃ (pre : List (Nat × Nat × Nat × Nat)) (x : Nat × Nat × Nat × Nat) (suf : List (Nat × Nat × Nat × Nat)), hh = pre ++ x :: suf ∧
    (∀ z ∈ tableOf pre, z.catchType ≠ 0 ∧ ∃ nm : String, Cond.classLink own z.catchType nm ∈ TBL ∧ va_Nc E nm (gs G)) ∧
    ∀ y ∈ tableOf [x], covers y pc = true ∧ y.catchType ≠ 0 ∧ y.handlerPc = hp ∧ Cond.classLink own y.catchType E ∈ TBL ∧ Cond.castable E E ∈ lw_tbl
/-- behind a call in a 'try' -/
def bkH (G : GG) (M : SIG) (hh : List (Nat × Nat × Nat × Nat)) (rm : Room) (uc us pc : Nat) (L : List (Option VV)) (S : List VV) (K : RES → Mm → Prop) : RES → Mm → Prop := fun r t => match r with
  | .inl v => AtH G M hh rm uc us (pc + 3) L (v.toList ++ S) t K
  | .inr E => ∃ hp, tk G M.1.cls E hh pc hp ∧ ∀ q, AtH G M hh rm uc us hp L [vR (some q)] t K
theorem s_backH (gk : GOK G) {Y : SIG} {rmY : Room} {as : Array Value} {S0 : List Value} {p : Program} {e : Env} {s : State} {m : MethodId} {args : Array Value} {below : List Frame} {meth : Method} {c : Code} {H : Heap} {locs : List Loc} {ls : Array Slot} (C : CXH hh G M p s m meth c) (h1 : s.heap.size ≤ H.size) (h2 : ∀ z ∈ locs, frG G z.base) (h4 : lcs ls M.2.2.1 L)
    (hr : vx_Run p (gl G) e rm s m args below meth c H locs uc us rmY.cells rmY.slots (F0 m pc ls S0) (S.map em) (QcG G (bkH G M hh rm (uc + rmY.cells) (us + rmY.slots) pc L S K) as) (XCG G (bkH G M hh rm (uc + rmY.cells) (us + rmY.slots) pc L S K)) (frG G)) :
    W p (gl G) e rm s m args below meth c H locs uc us (vx_MQ below (QcG G K) (XCG G K) args s rm.cells rm.slots (frG G)) (F0 m pc ls S0) := by
  intro T hT X
  rcases hr T hT X with ⟨v, st₀, t, T', L', h0, X', hL, e1, e2, ⟨v', σ', hv, hk, hH, hsz⟩, st⟩ | ⟨q, st₀, t, T', L', E, ce, h0, X', hL, e1, e2, ⟨σ', hk, hH, hsz⟩, hce, hcv, hcl, st⟩
  · have hv : v = v'.map em := by cases hv; rfl
    have hk : AtH G M hh rm (uc + rmY.cells) (us + rmY.slots) (pc + 3) L (v'.toList ++ S) σ' K := hk
    obtain ⟨t2, a1, b1⟩ := hk p e s m args below meth c T'.heap (locs ++ L') ls C (by rw [e1]; rw [h0] at hsz; omega) (fun z hz => by
      rcases List.mem_append.mp hz with h | h
      · exact h2 z h
      · exact hL z h) (by rw [e1]; exact hH) h4 T' rfl X'
    refine ⟨t2, st t2 ?_, b1⟩
    have he : (v'.toList ++ S).map em = v.toList ++ S.map em := by subst hv; cases v' <;> rfl
    rw [he] at a1
    exact a1
  · obtain ⟨hp, ⟨pre, x, suf, e3, hpre, hx⟩, hk⟩ : ∃ hp, tk G M.1.cls E hh pc hp ∧ ∀ q, AtH G M hh rm (uc + rmY.cells) (us + rmY.slots) hp L [vR (some q)] σ' K := hk
    have hts := tb_s gk (args := args) C.2.2.2.2.2.2.2.2
    have hkq := hk q p e s m args below meth c T'.heap (locs ++ L') ls C (by rw [e1]; rw [h0] at hsz; omega) (fun z hz => by
      rcases List.mem_append.mp hz with h | h
      · exact h2 z h
      · exact hL z h) (by rw [e1]; exact hH) h4
    obtain ⟨x1, hx1⟩ : ∃ x1, tableOf [x] = [x1] := ⟨_, rfl⟩
    obtain ⟨c1, c2, c3, c4, c5⟩ := hx x1 (by rw [hx1]; exact List.mem_singleton.mpr rfl)
    subst c3
    have hsplit : c.exceptionTable.toList = tableOf pre ++ x1 :: tableOf suf := by
      rw [C.2.2.2.2.2.2.1, e3]
      have : tableOf (pre ++ x :: suf) = tableOf pre ++ (tableOf [x] ++ tableOf suf) := by simp [tableOf]
      rw [this, hx1]; rfl
    obtain ⟨t2, a1, b1⟩ := vx_catch (own := M.1.cls) (name := E) (E := E) (ce := ce) (q := q) (pc := pc) (ls := ls) (rest := S.map em) (H := T'.heap) C.2.2.2.2.1 (tableOf pre) x1 (tableOf suf) hsplit (fun z hz => by
      obtain ⟨z1, nm, z2, z3⟩ := hpre z hz
      exact Or.inr ⟨z1, nm, hts _ z2, va_Nc.moved C.2.2.2.2.2.2.2.2.alike z3⟩) c1 c2 (hts _ c4) (va_Nw.use rfl (va_Nw.warmC C.2.2.2.2.2.2.2.2 (gk.2.1 _ c5))) (by rw [e1]; exact hce) hcv hcl hkq T' rfl X'
    exact ⟨t2, st.trans a1, b1⟩
theorem h_callV (gk : GOK G) {idx nA ci a : Nat} {Y : SIG} {rmY : Room} {as : List VV} {S0 : List VV} (hd : decode M.2.1 pc = .ok (.invokevirtual idx, 3)) (hy : yOk M.1.cls idx nA Y) (hc : ci < 11) (hyc : Y.1.cls = clN ci) (w1 : Cond.instanceMethod Y.1 ∈ TBL) (w2 : Cond.selects Y.1.cls Y.1 Y.1 ∈ TBL) (ht : (mt σ a).1 = ci + 1) (hst : S0 = as.reverse ++ vR (some a) :: S) (hl : as.length = nA) (hs4 : S.length ≤ 4)
    (hR : rmY.frames + 1 ≤ rm.frames ∧ 8 + (Y.2.2.1 + 11) + rmY.locals ≤ rm.locals ∧ uc + rmY.cells ≤ rm.cells ∧ us + rmY.slots ≤ rm.slots) (hrun : Runs G Y rmY (vR (some a) :: as) σ (bkH G M hh rm (uc + rmY.cells) (us + rmY.slots) pc L S K)) : AtH G M hh rm uc us pc L S0 σ K := by
  intro p e s m args below meth c H locs ls C h1 h2 h3 h4
  obtain ⟨hx, hb, -, hml, hown, -, -, -, hW⟩ := id C
  have hts := tb_s gk (args := args) hW
  obtain ⟨-, cellB, q1, q2, q3, q4⟩ := hk_obj h3 hc ht
  refine s_backH gk (rmY := rmY) (Y := Y) (S := S) (as := (Value.ref a :: as.map em).toArray) C h1 h2 h4 ?_
  refine vx_runV (Ts := []) (C := Y.1.cls) (b := a) (As := as.map em) (nL := M.2.2.1) ⟨hx, hb, hml, hown, fun w h => by cases h⟩ hrun ⟨call_b gk hW hy ⟨hR.1, hR.2.1⟩, hts _ w1, hts _ w2⟩ ⟨pc_blind, ⟨cellB, q1, by rw [q3]; rfl, by rw [q2, hyc]; exact (gk_cls gk hW hc).2.1⟩, fun U hU hWU => ⟨rfl, by rw [hU]; exact h3, State.WarmedH.trans hW hWU⟩⟩ rfl (by rw [List.length_map]; exact hl) h4.1 ?_ ?_ hd ⟨hR.2.2.1, hR.2.2.2⟩
  · show S0.map em = _
    rw [hst]
    simp [em, va_rf]
  · have := cat_le S hs4
    simpa [JFrame.monitorRoom] using this
/-- the words of a static call of a method with a table -/
def yOkH (own : String) (idx nA : Nat) (Y : SIG) (hh : List (Nat × Nat × Nat × Nat)) : Prop := Cond.methodLink own idx Y.1 ∈ TBL ∧ Cond.codeWith Y.1 Y.2.1 Y.2.2.1 Y.2.2.2 hh ∈ TBL ∧ Cond.initialized Y.1.cls ∈ TBL ∧ (Y.1.cls ≠ "java/lang/invoke/MethodHandle" ∧ Y.1.cls ≠ "java/lang/invoke/VarHandle") ∧ (parseMethodDescriptor Y.1.desc).map (fun d => d.parameters.length) = some nA
theorem s_callSH (gk : GOK G) {idx nA : Nat} {Y : SIG} {rmY : Room} {as : List VV} {S0 : List VV} (hd : decode M.2.1 pc = .ok (.invokestatic idx, 3)) (hy : yOkH M.1.cls idx nA Y hh) (w1 : Cond.static Y.1 ∈ TBL) (hst : S0 = as.reverse ++ S) (hl : as.length = nA) (hs4 : S.length ≤ 4)
    (hR : rmY.frames + 1 ≤ rm.frames ∧ 8 + (Y.2.2.1 + 11) + rmY.locals ≤ rm.locals ∧ uc + rmY.cells ≤ rm.cells ∧ us + rmY.slots ≤ rm.slots) (hrun : RunsH G Y hh rmY as σ (bk G M rm (uc + rmY.cells) (us + rmY.slots) (pc + 3) L S K)) : At G M rm uc us pc L S0 σ K := by
  intro p e s m args below meth c H locs ls C h1 h2 h3 h4
  obtain ⟨hx, hb, -, hml, hown, -, -, -, hW⟩ := id C
  have hts := tb_s gk (args := args) hW
  refine s_back (Y := Y) (S := S) (as := (as.map em).toArray) C h1 h2 h4 hR.2.2.1 hR.2.2.2 ?_
  refine vx_runSX (n := nA) (hh := hh) (Ts := []) (As := as.map em) (nL := M.2.2.1) ⟨hx, hb, hml, hown, fun w h => by cases h⟩ hrun ⟨⟨rfl, rfl, hR.1, hR.2.1, fun w hw a' U hU => ?_, List.mem_cons_self⟩, hts _ hy.2.1, hts _ hy.2.2.1, hy.2.2.2.1, fun sig h => ?_, hts _ hy.1, hts _ w1⟩ ⟨pc_blind, fun U hU hWU => ⟨rfl, by rw [hU]; exact h3, State.WarmedH.trans hW hWU⟩⟩ rfl (by rw [List.length_map]; exact hl) h4.1 ?_ ?_ hd ⟨hR.2.2.1, hR.2.2.2⟩
  · rw [List.mem_singleton.mp hw]
    exact tb_s gk (State.WarmedH.trans hW hU) _ hy.2.1
  · have h2 := hy.2.2.2.2
    rw [h] at h2
    exact (Option.some.inj h2).symm
  · show S0.map em = _
    rw [hst]
    simp
  · have := cat_le S hs4
    simpa [JFrame.monitorRoom] using this
end RWH
