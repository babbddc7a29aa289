/-! ===== making cells, answers, calls, throws ===== -/
theorem hk_free {G : GG} {σ : Mm} {H : Heap} (h : HK G σ H) {b : Nat} (hb : mz σ ≤ b) : (mt σ b).1 = 0 := by
  have h1 := h.2.2.2 b
  have hn : H[b]? = none := by simp [h.1]; omega
  unfold atT at h1
  by_cases h0 : (mt σ b).1 = 0
  · exact h0
  · rw [if_neg h0] at h1
    by_cases h2 : (mt σ b).1 < 50
    · rw [if_pos h2] at h1
      obtain ⟨-, -, cell, q, -⟩ := h1
      rw [hn] at q; cases q
    · rw [if_neg h2] at h1
      by_cases h3 : (mt σ b).1 = 99
      · rw [if_pos h3] at h1
        obtain ⟨scr, q, -⟩ := h1
        rw [hn] at q; cases q
      · rw [if_neg h3] at h1
        rw [hn] at h1; cases h1.2.2
theorem hk_new {G : GG} {σ : Mm} {H H' : Heap} (h : HK G σ H) {t : Nat × Nat} (z : H'.size = H.size + 1) (oq : ∀ q, q < H.size → H'[q]? = H[q]?) (hn : atT G (nw σ t) (mz σ) t H') : HK G (nw σ t) H' := by
  refine ⟨by rw [z, h.1]; rfl, Nat.le_trans h.2.1 (Nat.le_succ _), fun q hq => ?_, fun b => ?_⟩
  · rw [oq q (by rw [h.1]; exact Nat.lt_of_lt_of_le hq h.2.1)]; exact h.2.2.1 q hq
  · by_cases hb : b = mz σ
    · subst hb
      have : mt (nw σ t) (mz σ) = t := if_pos rfl
      rw [this]; exact hn
    · have : mt (nw σ t) b = mt σ b := if_neg hb
      rw [this]
      by_cases hl : b < mz σ
      · exact atT_same (h.2.2.2 b) ⟨fun k => if_neg hb, fun k => if_neg hb, fun k => if_neg hb, fun k => if_neg hb⟩ (oq b (by rw [h.1]; exact hl))
      · unfold atT
        rw [if_pos (hk_free h (by omega))]
        trivial
theorem hk_sk {G : GG} {σ : Mm} {H H' : Heap} (h : HK G σ H) (z : H.size ≤ H'.size) (oq : ∀ q, q < H.size → H'[q]? = H[q]?) : HK G (sk σ (H'.size - H.size)) H' := by
  refine ⟨by show H'.size = mz σ + _; rw [← h.1]; omega, Nat.le_trans h.2.1 (Nat.le_add_right _ _), fun q hq => ?_, fun b => ?_⟩
  · rw [oq q (by rw [h.1]; exact Nat.lt_of_lt_of_le hq h.2.1)]; exact h.2.2.1 q hq
  · show atT G (sk σ _) b (mt σ b) H'
    by_cases hl : b < mz σ
    · exact atT_same (h.2.2.2 b) ⟨fun k => rfl, fun k => rfl, fun k => rfl, fun k => rfl⟩ (oq b (by rw [h.1]; exact hl))
    · unfold atT
      rw [if_pos (hk_free h (by omega))]
      trivial
theorem cl_df {c : Nat} (h : c < 11) : ∀ k, k < clK c → defaultValue (clY c k) = if rfT (clY c k) = true then .null else .int 0 :=
  cl_ind (P := fun c => ∀ k, k < clK c → defaultValue (clY c k) = if rfT (clY c k) = true then .null else .int 0) h (by decide) (by decide) (by decide) (by decide) (by decide) (by decide) (by decide) (by decide) (by decide) (by decide) (by decide)
/-- the words of 'new': own's pool row idx is class ci -/
def nOk (own : String) (idx ci : Nat) : Prop := ci < 11 ∧ Cond.classLink own idx (clN ci) ∈ TBL ∧ Cond.instantiable (clN ci) (clK ci) ∈ TBL ∧ Cond.initialized (clN ci) ∈ TBL
/-- the words of a call: own's pool row idx is the method Y of nA values -/
def yOk (own : String) (idx nA : Nat) (Y : SIG) : Prop := Cond.methodLink own idx Y.1 ∈ TBL ∧ Cond.code Y.1 Y.2.1 Y.2.2.1 Y.2.2.2 ∈ TBL ∧ Cond.initialized Y.1.cls ∈ TBL ∧ (Y.1.cls ≠ "java/lang/invoke/MethodHandle" ∧ Y.1.cls ≠ "java/lang/invoke/VarHandle") ∧ (parseMethodDescriptor Y.1.desc).map (fun d => d.parameters.length) = some nA
section RWC
variable {G : GG} {M : SIG} {rm : Room} {uc us pc : Nat} {L : List (Option VV)} {S : List VV} {σ : Mm} {K : RES → Mm → Prop}
theorem s_new (gk : GOK G) {idx ci : Nat} (hd : decode M.2.1 pc = .ok (.new idx, 3)) (hn : nOk M.1.cls idx ci) (g1 : uc + 1 ≤ rm.cells) (g2 : us + clK ci ≤ rm.slots) (kk : At G M rm (uc + 1) (us + clK ci) (pc + 3) L (vR (some (mz σ)) :: S) (nw σ (ci + 1, 0)) K) : At G M rm uc us pc L S σ K := by
  intro p e s m args below meth c H locs ls C h1 h2 h3 h4
  obtain ⟨hx, hb, -, -, hown, -, -, -, hW⟩ := id C
  have hts := tb_s gk (args := args) hW
  have hKn := gk_cls gk hW hn.1
  refine W.newcK hx hb hown (hts _ hn.2.1) (hts _ hn.2.2.1) (hts _ hn.2.2.2) rfl hd g1 g2 hKn.2.1 h3.1 fun H1 kC hkC e1 z1 o1 => ?_
  have z1' : H1.size = H.size + 1 := by rw [z1, h3.1]
  refine kk p e s m args below meth c H1 locs ls C (by omega) h2 (hk_new h3 z1' (fun q hq => o1 q (by rw [← h3.1]; exact hq)) ((atT_obj hn.1).mpr ⟨h3.2.1, (u_born (clY ci) hts (ly_all hn.1) hKn hkC e1 (cl_ty hn.1)).to fun k hk => ?_⟩)) h4
  rw [cl_df hn.1 k hk]
  unfold fv
  split
  · show Value.null = va_rf (if mz σ = mz σ then none else _)
    rw [if_pos rfl]; rfl
  · show Value.int 0 = Value.int (if mz σ = mz σ then 0 else _)
    rw [if_pos rfl]
theorem s_newa (gk : GOK G) {atype : ArrayType} {j N : Nat} {n : Int32} (hd : decode M.2.1 pc = .ok (.newarray atype, 2)) (hj : j < 11) (h5 : j < 5) (hat : newarray.typeOf atype = arT j) (hw : Cond.arrayClass (newarray.typeOf atype) ∈ TBL) (hn : ¬ n < 0) (hN : n.toNatClampNeg = N) (hby : N * 8 ≤ 536870912) (g1 : uc + 1 ≤ rm.cells) (g2 : us + N ≤ rm.slots) (kk : At G M rm (uc + 1) (us + N) (pc + 2) L (vR (some (mz σ)) :: S) (nw σ (50 + j, N)) K) : At G M rm uc us pc L (vI n :: S) σ K := by
  intro p e s m args below meth c H locs ls C h1 h2 h3 h4
  obtain ⟨hx, hb, -, -, hown, -, -, -, hW⟩ := id C
  have hts := tb_s gk (args := args) hW
  have hbb : N * componentBytes (newarray.typeOf atype) ≤ 536870912 := by
    refine Nat.le_trans (Nat.mul_le_mul_left N ?_) hby
    rw [hat]
    match j, h5 with
    | 0, _ => decide
    | 1, _ => decide
    | 2, _ => decide
    | 3, _ => decide
    | 4, _ => decide
  refine va_newaK hx hb (hts _ hw) rfl hd rfl hn hN hbb g1 g2 h3.1 fun H1 cA e1 z1 o1 hAr hNm => ?_
  have hcA : cA = gA G j := by
    have h9 := (gk_arr gk hW hj).2
    rw [hat] at hNm
    match j, h5, h9, hNm with
    | 0, _, h9, hNm => exact Option.some.inj (hNm.symm.trans h9)
    | 1, _, h9, hNm => exact Option.some.inj (hNm.symm.trans h9)
    | 2, _, h9, hNm => exact Option.some.inj (hNm.symm.trans h9)
    | 3, _, h9, hNm => exact Option.some.inj (hNm.symm.trans h9)
    | 4, _, h9, hNm => exact Option.some.inj (hNm.symm.trans h9)
  subst hcA
  have z1' : H1.size = H.size + 1 := by rw [z1, h3.1]
  refine kk p e s m args below meth c H1 locs ls C (by omega) h2 (hk_new h3 z1' (fun q hq => o1 q (by rw [← h3.1]; exact hq)) ((atT_arr hj).mpr ⟨h3.2.1, ?_⟩)) h4
  rw [e1, hat]
  congr 2
  funext i
  match j, h5 with
  | 0, _ => show Value.long 0 = Value.long (if mz σ = mz σ then 0 else _); rw [if_pos rfl]
  | 1, _ => show Value.long 0 = Value.long (if mz σ = mz σ then 0 else _); rw [if_pos rfl]
  | 2, _ => show Value.long 0 = Value.long (if mz σ = mz σ then 0 else _); rw [if_pos rfl]
  | 3, _ => show Value.int 0 = Value.int (if mz σ = mz σ then 0 else _); rw [if_pos rfl]
  | 4, _ => show Value.int 0 = Value.int (if mz σ = mz σ then 0 else _); rw [if_pos rfl]
theorem s_anew (gk : GOK G) {idx j ci N : Nat} {n : Int32} (hd : decode M.2.1 pc = .ok (.anewarray idx, 3)) (hj : j < 11) (h5 : 5 ≤ j) (hjc : arT j = .object (clN ci)) (hw : Cond.classLink M.1.cls idx (clN ci) ∈ TBL) (hw2 : Cond.arrayOver (.object (clN ci)) ∈ lw_tbl) (hn : ¬ n < 0) (hN : n.toNatClampNeg = N) (hby : N * 4 ≤ 536870912) (g1 : uc + 1 ≤ rm.cells) (g2 : us + N ≤ rm.slots) (kk : At G M rm (uc + 1) (us + N) (pc + 3) L (vR (some (mz σ)) :: S) (nw σ (50 + j, N)) K) : At G M rm uc us pc L (vI n :: S) σ K := by
  intro p e s m args below meth c H locs ls C h1 h2 h3 h4
  obtain ⟨hx, hb, -, -, hown, -, -, -, hW⟩ := id C
  have hts := tb_s gk (args := args) hW
  subst hN
  have hao : (Cond.arrayOver (.object (clN ci))).before args s = true := va_AO.use (va_AO.moved hW.alike (va_AO.of (gk.2.1 _ hw2)))
  refine W.anew hx hb hown (hts _ hw) hao rfl hd rfl hn hby g1 g2 fun cA kA comp q1 q2 q3 q4 => ?_
  have hcA : cA = gA G j := by
    have h9 := (gk_arr gk hW hj).2
    rw [hjc] at h9
    obtain ⟨_, _, _, _, _, h9⟩ := h9
    exact Option.some.inj (q1.symm.trans h9)
  subst hcA
  rw [h3.1]
  refine kk p e s m args below meth c _ locs ls C (by simp; omega) h2 (hk_new h3 (by simp) (fun q hq => by rw [Array.getElem?_push, if_neg (Nat.ne_of_lt hq)]) ((atT_arr hj).mpr ⟨h3.2.1, ?_⟩)) h4
  rw [← h3.1]
  rw [arrV_new, Array.getElem?_push_size]
  congr 2
  funext i
  rw [ev_rf h5, h3.1]
  show Value.null = va_rf (if mz σ = mz σ then none else _)
  rw [if_pos rfl]; rfl
theorem s_objInit (gk : GOK G) {idx a : Nat} (hd : decode M.2.1 pc = .ok (.invokespecial idx, 3)) (hw : Cond.methodLink M.1.cls idx Lib.objectInit ∈ TBL) (hw2 : Cond.instanceMethod Lib.objectInit ∈ TBL) (hw3 : Cond.code Lib.objectInit ⟨#[0xb1]⟩ 1 none ∈ TBL) (hS : S = []) (g1 : 1 ≤ rm.frames) (g2 : 12 ≤ rm.locals) (kk : At G M rm uc us (pc + 3) L S σ K) : At G M rm uc us pc L (vR (some a) :: S) σ K := by
  intro p e s m args below meth c H locs ls C h1 h2 h3 h4
  subst hS
  have hts := tb_s gk (args := args) C.2.2.2.2.2.2.2.2
  exact W.objInit C.1 C.2.1 C.2.2.2.2.1 (hts _ hw) (hts _ hw2) (hts _ hw3) rfl (by rw [C.2.2.2.1]; exact h4.1) rfl hd g1 (by simpa [JFrame.monitorRoom] using g2) (kk p e s m args below meth c H locs ls C h1 h2 h3 h4)
theorem qc_of {args : Array Value} {s : State} {H : Heap} {v : Option VV} (h1 : s.heap.size ≤ H.size) (h3 : HK G σ H) (hk : K (.inl v) σ) : ∀ t : State, t.heap = H → s.WarmedH t.vm → QcG G K args s (.returned (v.map em)) t := fun t ht _ => ⟨v, σ, rfl, hk, by rw [ht]; exact h3, by rw [ht]; exact h1⟩
theorem s_ireturn {x : Int32} {ty : FieldType} (hd : decode M.2.1 pc = .ok (.ireturn, 1)) (hr : M.2.2.2 = some ty) (hn : narrow ty (.int x) = .int x) (g1 : uc ≤ rm.cells) (g2 : us ≤ rm.slots) (hk : K (.inl (some (vI x))) σ) : At G M rm uc us pc L [vI x] σ K := by
  intro p e s m args below meth c H locs ls C h1 h2 h3 h4
  exact W.widen g1 g2 (vx_ret (W.zret C.1 C.2.1 (C.2.2.1.trans hr) hn (qc_of h1 h3 hk) h2 hd C.2.2.2.2.2.1))
theorem s_return (hd : decode M.2.1 pc = .ok (.return_, 1)) (hr : M.2.2.2 = none) (g1 : uc ≤ rm.cells) (g2 : us ≤ rm.slots) (hk : K (.inl none) σ) : At G M rm uc us pc L [] σ K := by
  intro p e s m args below meth c H locs ls C h1 h2 h3 h4
  exact W.widen g1 g2 (vx_ret (W.vret C.1 C.2.1 (C.2.2.1.trans hr) (qc_of (v := none) h1 h3 hk) h2 hd C.2.2.2.2.2.1))
theorem s_areturn {r : Option Nat} {ty : FieldType} (hd : decode M.2.1 pc = .ok (.areturn, 1)) (hr : M.2.2.2 = some ty) (ht : rfT ty = true) (g1 : uc ≤ rm.cells) (g2 : us ≤ rm.slots) (hk : K (.inl (some (vR r))) σ) : At G M rm uc us pc L [vR r] σ K := by
  intro p e s m args below meth c H locs ls C h1 h2 h3 h4
  refine W.widen g1 g2 (vx_ret (W.aret C.1 C.2.1 (C.2.2.1.trans hr) ?_ ?_ (qc_of (v := some (vR r)) h1 h3 hk) h2 hd C.2.2.2.2.2.1))
  · cases ty with
    | object n => exact Or.inl ⟨n, rfl⟩
    | array t => exact Or.inr ⟨t, rfl⟩
    | _ => cases ht
  · cases r with
    | none => exact Or.inl rfl
    | some a => exact Or.inr ⟨a, rfl⟩
theorem s_freturn {x : UInt32} (hd : decode M.2.1 pc = .ok (.freturn, 1)) (hr : M.2.2.2 = some .float) (g1 : uc ≤ rm.cells) (g2 : us ≤ rm.slots) (hk : K (.inl (some (vF x))) σ) : At G M rm uc us pc L [vF x] σ K := by
  intro p e s m args below meth c H locs ls C h1 h2 h3 h4
  exact W.widen g1 g2 (vx_ret (W.fret C.1 C.2.1 (C.2.2.1.trans hr) (qc_of (v := some (vF x)) h1 h3 hk) h2 hd C.2.2.2.2.2.1))
theorem s_dreturn {x : UInt64} (hd : decode M.2.1 pc = .ok (.dreturn, 1)) (hr : M.2.2.2 = some .double) (g1 : uc ≤ rm.cells) (g2 : us ≤ rm.slots) (hk : K (.inl (some (vD x))) σ) : At G M rm uc us pc L [vD x] σ K := by
  intro p e s m args below meth c H locs ls C h1 h2 h3 h4
  exact W.widen g1 g2 (vx_ret (W.dret C.1 C.2.1 (C.2.2.1.trans hr) (qc_of (v := some (vD x)) h1 h3 hk) h2 hd C.2.2.2.2.2.1))
/-- behind a call: it answered, or it threw and nobody here catches -/
def bk (G : GG) (M : SIG) (rm : Room) (uc us pc : Nat) (L : List (Option VV)) (S : List VV) (K : RES → Mm → Prop) : RES → Mm → Prop := fun r t => match r with
  | .inl v => At G M rm uc us pc L (v.toList ++ S) t K
  | .inr E => K (.inr E) t
theorem cat_le (S : List VV) (h : S.length ≤ 4) : ((S.map em).map fun v => v.category).sum ≤ 8 := by
  have : ∀ l : List VV, ((l.map em).map fun v => v.category).sum ≤ 2 * l.length := by
    intro l
    induction l with
    | nil => simp
    | cons v l ih =>
      have : (em v).category ≤ 2 := by rcases lv_cat (em v) with h | h <;> omega
      simp only [List.map_cons, List.sum_cons, List.length_cons]
      omega
  have := this S
  omega
theorem pc_blind {as : List VV} : FrameBlind (fun v U => v = (as.map em).toArray ∧ HK G σ U.heap ∧ (gs G).WarmedH U.vm) := fun _ _ _ _ h => h
/-- the caller's part of a call that may throw -/
theorem s_back {Y : SIG} {rmY : Room} {as : Array Value} {S0 : List Value} {p : Program} {e : Env} {s : State} {m : MethodId} {args : Array Value} {below : List Frame} {meth : Method} {c : Code} {H : Heap} {locs : List Loc} {ls : Array Slot} (C : CX G M p s m meth c) (h1 : s.heap.size ≤ H.size) (h2 : ∀ z ∈ locs, frG G z.base) (h4 : lcs ls M.2.2.1 L) (g1 : uc + rmY.cells ≤ rm.cells) (g2 : us + rmY.slots ≤ rm.slots)
    (hr : vx_Run p (gl G) e rm s m args below meth c H locs uc us rmY.cells rmY.slots (F0 m pc ls S0) (S.map em) (QcG G (bk G M rm (uc + rmY.cells) (us + rmY.slots) (pc + 3) L S K) as) (XCG G (bk G M rm (uc + rmY.cells) (us + rmY.slots) (pc + 3) L S K)) (frG G)) :
    W p (gl G) e rm s m args below meth c H locs uc us (vx_MQ below (QcG G K) (XCG G K) args s rm.cells rm.slots (frG G)) (F0 m pc ls S0) := by
  intro T hT X
  rcases hr T hT X with ⟨v, st₀, t, T', L', h0, X', hL, e1, e2, ⟨v', σ', hv, hk, hH, hsz⟩, st⟩ | ⟨q, st₀, t, T', L', E, ce, h0, X', hL, e1, e2, ⟨σ', hk, hH, hsz⟩, hce, hcv, hcl, st⟩
  · have hv : v = v'.map em := by cases hv; rfl
    have hk : At G M rm (uc + rmY.cells) (us + rmY.slots) (pc + 3) L (v'.toList ++ S) σ' K := hk
    obtain ⟨t2, a1, b1⟩ := hk p e s m args below meth c T'.heap (locs ++ L') ls C (by rw [e1]; rw [h0] at hsz; omega) (fun z hz => by
      rcases List.mem_append.mp hz with h | h
      · exact h2 z h
      · exact hL z h) (by rw [e1]; exact hH) h4 T' rfl X'
    refine ⟨t2, st t2 ?_, b1⟩
    have he : (v'.toList ++ S).map em = v.toList ++ S.map em := by subst hv; cases v' <;> rfl
    rw [he] at a1
    exact a1
  · have hk : K (.inr E) σ' := hk
    obtain ⟨t2, a1, b1⟩ := vx_out (pc := pc) (ls := ls) (rest := S.map em) (mc := rm.cells) (ms := rm.slots) (Qc := QcG G K) (XC := XCG G K) (free := frG G) (H := T'.heap) (locs := locs ++ L') (cells := uc + rmY.cells) (slots := us + rmY.slots) (p := p) (l := gl G) (e := e) (R := rm) (s := s) (m := m) (args := args) (below := below) (meth := meth) (c := c) (fun x hx => absurd hx (fun h => C.2.2.2.2.2.2.1 x h)) C.2.2.2.2.2.1 (by rw [e1]; exact hce) hcv hcl (fun t3 ht3 _ => ⟨σ', hk, by rw [ht3, e1]; exact hH, by rw [ht3, e1]; rw [h0] at hsz; omega⟩) (fun z hz => by
      rcases List.mem_append.mp hz with h | h
      · exact h2 z h
      · exact hL z h) g1 g2 T' rfl X'
    exact ⟨t2, st.trans a1, b1⟩
theorem call_b {own : String} {idx nA : Nat} {Y : SIG} {rmY R : Room} {s : State} {args : Array Value} (gk : GOK G) (hW : (gs G).WarmedH s.vm) (hy : yOk own idx nA Y) (hR : rmY.frames + 1 ≤ R.frames ∧ 8 + (Y.2.2.1 + 11) + rmY.locals ≤ R.locals) : CallB R s args own idx Y.1 Y.2.1 Y.2.2.1 Y.2.2.2 [Cond.code Y.1 Y.2.1 Y.2.2.1 Y.2.2.2] rmY rmY.cells rmY.slots nA := by
  have hts := tb_s gk (args := args) hW
  refine ⟨rfl, rfl, hR.1, hR.2, fun w hw a' U hU => ?_, List.mem_cons_self, hts _ hy.2.1, hts _ hy.2.2.1, hy.2.2.2.1, fun sig h => ?_, hts _ hy.1⟩
  · rw [List.mem_singleton.mp hw]
    exact tb_s gk (State.WarmedH.trans hW hU) _ hy.2.1
  · have h2 := hy.2.2.2.2
    rw [h] at h2
    exact (Option.some.inj h2).symm
/-- invokevirtual of a method of the receiver's own class -/
theorem s_callV (gk : GOK G) {idx nA ci a : Nat} {Y : SIG} {rmY : Room} {as : List VV} {S0 : List VV} (hd : decode M.2.1 pc = .ok (.invokevirtual idx, 3)) (hy : yOk M.1.cls idx nA Y) (hc : ci < 11) (hyc : Y.1.cls = clN ci) (w1 : Cond.instanceMethod Y.1 ∈ TBL) (w2 : Cond.selects Y.1.cls Y.1 Y.1 ∈ TBL) (ht : (mt σ a).1 = ci + 1) (hst : S0 = as.reverse ++ vR (some a) :: S) (hl : as.length = nA) (hs4 : S.length ≤ 4)
    (hR : rmY.frames + 1 ≤ rm.frames ∧ 8 + (Y.2.2.1 + 11) + rmY.locals ≤ rm.locals ∧ uc + rmY.cells ≤ rm.cells ∧ us + rmY.slots ≤ rm.slots) (hrun : Runs G Y rmY (vR (some a) :: as) σ (bk G M rm (uc + rmY.cells) (us + rmY.slots) (pc + 3) L S K)) : At G M rm uc us pc L S0 σ K := by
  intro p e s m args below meth c H locs ls C h1 h2 h3 h4
  obtain ⟨hx, hb, -, hml, hown, -, -, -, hW⟩ := id C
  have hts := tb_s gk (args := args) hW
  obtain ⟨-, cellB, q1, q2, q3, q4⟩ := hk_obj h3 hc ht
  refine s_back (Y := Y) (S := S) (as := (Value.ref a :: as.map em).toArray) C h1 h2 h4 hR.2.2.1 hR.2.2.2 ?_
  refine vx_runV (Ts := []) (C := Y.1.cls) (b := a) (As := as.map em) (nL := M.2.2.1) ⟨hx, hb, hml, hown, fun w h => by cases h⟩ hrun ⟨call_b gk hW hy ⟨hR.1, hR.2.1⟩, hts _ w1, hts _ w2⟩ ⟨pc_blind, ⟨cellB, q1, by rw [q3]; rfl, by rw [q2, hyc]; exact (gk_cls gk hW hc).2.1⟩, fun U hU hWU => ⟨rfl, by rw [hU]; exact h3, State.WarmedH.trans hW hWU⟩⟩ rfl (by rw [List.length_map]; exact hl) h4.1 ?_ ?_ hd ⟨hR.2.2.1, hR.2.2.2⟩
  · show S0.map em = _
    rw [hst]
    simp [em, va_rf]
  · have := cat_le S hs4
    simpa [JFrame.monitorRoom] using this
theorem s_callS (gk : GOK G) {idx nA : Nat} {Y : SIG} {rmY : Room} {as : List VV} {S0 : List VV} (hd : decode M.2.1 pc = .ok (.invokestatic idx, 3)) (hy : yOk M.1.cls idx nA Y) (w1 : Cond.static Y.1 ∈ TBL) (hst : S0 = as.reverse ++ S) (hl : as.length = nA) (hs4 : S.length ≤ 4)
    (hR : rmY.frames + 1 ≤ rm.frames ∧ 8 + (Y.2.2.1 + 11) + rmY.locals ≤ rm.locals ∧ uc + rmY.cells ≤ rm.cells ∧ us + rmY.slots ≤ rm.slots) (hrun : Runs G Y rmY as σ (bk G M rm (uc + rmY.cells) (us + rmY.slots) (pc + 3) L S K)) : At G M rm uc us pc L S0 σ K := by
  intro p e s m args below meth c H locs ls C h1 h2 h3 h4
  obtain ⟨hx, hb, -, hml, hown, -, -, -, hW⟩ := id C
  have hts := tb_s gk (args := args) hW
  refine s_back (Y := Y) (S := S) (as := (as.map em).toArray) C h1 h2 h4 hR.2.2.1 hR.2.2.2 ?_
  refine vx_runS (Ts := []) (As := as.map em) (nL := M.2.2.1) ⟨hx, hb, hml, hown, fun w h => by cases h⟩ hrun ⟨call_b gk hW hy ⟨hR.1, hR.2.1⟩, hts _ w1⟩ ⟨pc_blind, fun U hU hWU => ⟨rfl, by rw [hU]; exact h3, State.WarmedH.trans hW hWU⟩⟩ rfl (by rw [List.length_map]; exact hl) h4.1 ?_ ?_ hd ⟨hR.2.2.1, hR.2.2.2⟩
  · show S0.map em = _
    rw [hst]
    simp
  · have := cat_le S hs4
    simpa [JFrame.monitorRoom] using this
/-- a method that never throws, as the kit's plain contract -/
theorem Runs.met {Y : SIG} {rmY : Room} {as : List VV} (h : Runs G Y rmY as σ K) (hx : ∀ E t, ¬ K (.inr E) t) : Met (gl G) Y.1 [Cond.code Y.1 Y.2.1 Y.2.2.1 Y.2.2.2] rmY (fun v U => v = (as.map em).toArray ∧ HK G σ U.heap ∧ (gs G).WarmedH U.vm) (QcG G K) rmY.cells rmY.slots (frG G) := by
  intro p e ha hc hk s m args below hf happ hP hT
  obtain ⟨k, o, h1, h2, h3, h4⟩ := h p e ha hc hk s m args below hf happ hP hT
  refine ⟨k, o, h1, h2, h3, ?_⟩
  rcases h4 with h4 | ⟨q, q0, E, ce, L, ⟨t, q1, q2⟩, q3⟩
  · exact h4
  · exact absurd q1 (hx E t)
theorem s_callI_0 {Y : SIG} {rmY : Room} {as : Array Value} {S0 : List Value} {K' : RES → Mm → Prop} {p : Program} {e : Env} {s : State} {m : MethodId} {args : Array Value} {below : List Frame} {meth : Method} {c : Code} {H : Heap} {locs : List Loc} {ls : Array Slot} (C : CX G M p s m meth c) (h1 : s.heap.size ≤ H.size) (h2 : ∀ z ∈ locs, frG G z.base) (h4 : lcs ls M.2.2.1 L)
    (hK : ∀ v t, K' (.inl v) t → At G M rm (uc + rmY.cells) (us + rmY.slots) (pc + 3) L (v.toList ++ S) t K)
    (hr : va_Run p (gl G) e rm s m args below meth c H locs uc us rmY.cells rmY.slots (F0 m pc ls S0) (S.map em) (QcG G K' as) (frG G)) :
    W p (gl G) e rm s m args below meth c H locs uc us (vx_MQ below (QcG G K) (XCG G K) args s rm.cells rm.slots (frG G)) (F0 m pc ls S0) := by
  intro T hT X
  obtain ⟨v, st₀, t, T', L', h0, X', hL, e1, e2, ⟨v', σ', hv, hk, hH, hsz⟩, st⟩ := hr T hT X
  have hv : v = v'.map em := by cases hv; rfl
  obtain ⟨t2, a1, b1⟩ := hK v' σ' hk p e s m args below meth c T'.heap (locs ++ L') ls C (by rw [e1]; rw [h0] at hsz; omega) (fun z hz => by
    rcases List.mem_append.mp hz with h | h
    · exact h2 z h
    · exact hL z h) (by rw [e1]; exact hH) h4 T' rfl X'
  refine ⟨t2, st t2 ?_, b1⟩
  have he : (v'.toList ++ S).map em = v.toList ++ S.map em := by subst hv; cases v' <;> rfl
  rw [he] at a1
  exact a1
theorem s_callI (gk : GOK G) {idx nA a : Nat} {Y : SIG} {rmY : Room} {as : List VV} {S0 : List VV} {K' : RES → Mm → Prop} (hd : decode M.2.1 pc = .ok (.invokespecial idx, 3)) (hy : yOk M.1.cls idx nA Y) (w1 : Cond.instanceMethod Y.1 ∈ TBL) (hnm : Y.1.name = "<init>") (hret : Y.2.2.2 = none) (hst : S0 = as.reverse ++ vR (some a) :: S) (hl : as.length = nA) (hs4 : S.length ≤ 4)
    (hR : rmY.frames + 1 ≤ rm.frames ∧ 8 + (Y.2.2.1 + 11) + rmY.locals ≤ rm.locals ∧ uc + rmY.cells ≤ rm.cells ∧ us + rmY.slots ≤ rm.slots) (hrun : Runs G Y rmY (vR (some a) :: as) σ K') (hKx : ∀ E t, ¬ K' (.inr E) t) (hK : ∀ v t, K' (.inl v) t → At G M rm (uc + rmY.cells) (us + rmY.slots) (pc + 3) L (v.toList ++ S) t K) : At G M rm uc us pc L S0 σ K := by
  intro p e s m args below meth c H locs ls C h1 h2 h3 h4
  obtain ⟨hx, hb, -, hml, hown, -, -, -, hW⟩ := id C
  have hts := tb_s gk (args := args) hW
  have hcb := call_b (args := args) gk hW hy ⟨hR.1, hR.2.1⟩
  have hM := hrun.met hKx
  rw [hret] at hcb hM
  refine s_callI_0 (Y := Y) (S := S) (as := (Value.ref a :: as.map em).toArray) C h1 h2 h4 hK ?_
  refine va_runI (Ts := []) (b := a) (As := as.map em) (nL := M.2.2.1) ⟨hx, hb, hml, hown, fun w h => by cases h⟩ hM ⟨hcb, hnm, hts _ w1⟩ ⟨pc_blind, fun U hU hWU => ⟨rfl, by rw [hU]; exact h3, State.WarmedH.trans hW hWU⟩⟩ rfl (by rw [List.length_map]; exact hl) h4.1 ?_ ?_ hd ⟨hR.2.2.1, hR.2.2.2⟩
  · show S0.map em = _
    rw [hst]
    simp [em, va_rf]
  · have := cat_le S hs4
    simpa [JFrame.monitorRoom] using this
/-- a nest mate's private constructor -/
theorem s_callIN (gk : GOK G) {idx nA a : Nat} {host : String} {Y : SIG} {rmY : Room} {as : List VV} {S0 : List VV} {K' : RES → Mm → Prop} (hd : decode M.2.1 pc = .ok (.invokespecial idx, 3)) (w0 : Cond.methodLinkNest M.1.cls idx Y.1 host ∈ lw_tbl) (w2 : Cond.code Y.1 Y.2.1 Y.2.2.1 Y.2.2.2 ∈ TBL) (w3 : Cond.initialized Y.1.cls ∈ TBL) (hmh : Y.1.cls ≠ "java/lang/invoke/MethodHandle" ∧ Y.1.cls ≠ "java/lang/invoke/VarHandle") (hpd : (parseMethodDescriptor Y.1.desc).map (fun d => d.parameters.length) = some nA) (w1 : Cond.instanceMethod Y.1 ∈ TBL) (hnm : Y.1.name = "<init>") (hret : Y.2.2.2 = none) (hst : S0 = as.reverse ++ vR (some a) :: S) (hl : as.length = nA) (hs4 : S.length ≤ 4)
    (hR : rmY.frames + 1 ≤ rm.frames ∧ 8 + (Y.2.2.1 + 11) + rmY.locals ≤ rm.locals ∧ uc + rmY.cells ≤ rm.cells ∧ us + rmY.slots ≤ rm.slots) (hrun : Runs G Y rmY (vR (some a) :: as) σ K') (hKx : ∀ E t, ¬ K' (.inr E) t) (hK : ∀ v t, K' (.inl v) t → At G M rm (uc + rmY.cells) (us + rmY.slots) (pc + 3) L (v.toList ++ S) t K) : At G M rm uc us pc L S0 σ K := by
  intro p e s m args below meth c H locs ls C h1 h2 h3 h4
  obtain ⟨hx, hb, -, hml, hown, -, -, -, hW⟩ := id C
  have hts := tb_s gk (args := args) hW
  have hM := hrun.met hKx
  have hcd := hts _ w2
  rw [hret] at hM hcd
  have hcn : va_CN rm s args M.1.cls idx Y.1 host Y.2.1 Y.2.2.1 none [Cond.code Y.1 Y.2.1 Y.2.2.1 none] rmY rmY.cells rmY.slots nA := by
    refine ⟨⟨rfl, rfl, hR.1, hR.2.1, fun w hw a' U hU => ?_, List.mem_cons_self⟩, hcd, hts _ w3, hmh, fun sig h => ?_, va_Nw.use rfl (va_Nw.warmM hW (gk.2.1 _ w0))⟩
    · rw [List.mem_singleton.mp hw, ← hret]
      exact tb_s gk (State.WarmedH.trans hW hU) _ w2
    · rw [h] at hpd
      exact (Option.some.inj hpd).symm
  refine s_callI_0 (Y := Y) (S := S) (as := (Value.ref a :: as.map em).toArray) C h1 h2 h4 hK ?_
  refine va_runIN (Ts := []) (b := a) (As := as.map em) (nL := M.2.2.1) ⟨hx, hb, hml, hown, fun w h => by cases h⟩ hM ⟨hcn, hnm, hts _ w1⟩ ⟨pc_blind, fun U hU hWU => ⟨rfl, by rw [hU]; exact h3, State.WarmedH.trans hW hWU⟩⟩ rfl (by rw [List.length_map]; exact hl) h4.1 ?_ ?_ hd ⟨hR.2.2.1, hR.2.2.2⟩
  · show S0.map em = _
    rw [hst]
    simp [em, va_rf]
  · have := cat_le S hs4
    simpa [JFrame.monitorRoom] using this
/-- the words of 'throw new cls(text)' -/
def tOk (own : String) (ik is ic : Nat) (cls text : String) (names : List String) : Prop :=
  Bundle.fit cls = true ∧ (∀ n ∈ names, Bundle.fit n = true) ∧ Cond.classLink own ik cls ∈ TBL ∧ Cond.initialized cls ∈ TBL ∧ Cond.stringRef own is text ∈ lw_tbl ∧ (∀ w ∈ (vx_atS own ic cls names).filter goodWord, w ∈ TBL) ∧ ((vx_atS own ic cls names).filter fun w => !goodWord w).all (fun w => decide (w = .castable cls cls)) = true ∧ Cond.castable cls cls ∈ lw_tbl ∧ (vx_atS own ic cls names).all vx_ot = true
/-- the strings' cells -/
def STR (G : GG) : Prop := ∀ own is text, Cond.stringRef own is text ∈ lw_tbl → ∃ a, vk_R own is text a (gs G)
theorem thr_at {own cls text : String} {ik is ic : Nat} {names : List String} {s : State} {args : Array Value} (gk : GOK G) (hW : (gs G).WarmedH s.vm) (h : tOk own ik is ic cls text names) : ∀ w ∈ vx_atS own ic cls names, w.before args s = true := by
  refine vx_hat (B := [.castable cls cls]) (fun w hw => tb_s gk hW _ (h.2.2.2.2.2.1 w hw)) (fun w hw => ?_) (vx_c (va_Nw.use rfl (va_Nw.warmC hW (gk.2.1 _ h.2.2.2.2.2.2.2.1))) vx_n)
  have := List.all_eq_true.mp h.2.2.2.2.2.2.1 w hw
  rw [of_decide_eq_true this]
  exact List.mem_cons_self
theorem thr_ot {own cls text : String} {ik is ic : Nat} {names : List String} (h : tOk own ik is ic cls text names) : ∀ w ∈ Cond.classLink own ik cls :: Cond.initialized cls :: vx_atS own ic cls names, vx_ot w = true := by
  intro w hw
  rcases List.mem_cons.mp hw with h1 | h1
  · rw [h1]; rfl
  · rcases List.mem_cons.mp h1 with h1 | h1
    · rw [h1]; rfl
    · exact List.all_eq_true.mp h.2.2.2.2.2.2.2.2 w h1
theorem zq_s {C n d : String} {s : State} {H : Heap} (hW : (gs G).WarmedH s.vm) (h : vx_Zq C n d (fun q => (gs G).heap.size ≤ q) (gs G) (gs G).heap) (hq : ∀ q, q < (gs G).heap.size → H[q]? = (gs G).heap[q]?) : vx_Zq C n d (fun q => (gs G).heap.size ≤ q) s H := vx_Zq.moved hW.alike (h.kept fun a ha _ => hq a ha)
end RWC
