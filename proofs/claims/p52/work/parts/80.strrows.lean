/-! ===== strings and the JDK's builder: rows over the start's heap, over bytes, calls of a class above ===== -/
def zI (G : GG) (C n d : String) (v : Int32) : Prop := va_Z C n d (.int v) (frG G) (gs G) (gs G).heap
def zR (G : GG) (C n d : String) (a : Nat) : Prop := va_Z C n d (.ref a) (frG G) (gs G) (gs G).heap
def zQ (G : GG) (C n d : String) : Prop := vx_Zq C n d (frG G) (gs G) (gs G).heap
def oO (G : GG) (E : String) (a : Nat) : Prop := va_O E a (frG G) (gs G) (gs G).heap
def qF (G : GG) (o n d : String) (v : VV) (a : Nat) : Prop := va_OF o n d (em v) a (frG G) (gs G) (gs G).heap
def qT (G : GG) (a n : Nat) (f : Nat → Int32) : Prop := va_T .byte a n (fun j => .int (f j)) (frG G) (gs G) (gs G).heap
/-- a text constant at q: v its bytes, n of them -/
def STV (G : GG) (q v n : Nat) (f : Nat → Int32) : Prop := oO G "java/lang/String" q ∧ qF G "java/lang/String" "coder" "B" (vI 0) q ∧ qF G "java/lang/String" "value" "[B" (vR (some v)) q ∧ qT G v n f
section RWS
variable {G : GG} {M : SIG} {rm : Room} {uc us pc : Nat} {L : List (Option VV)} {S : List VV} {σ : Mm} {K : RES → Mm → Prop}
theorem vs_of {p : Program} {s : State} {m : MethodId} {meth : Method} {c : Code} {H : Heap} {locs : List Loc} (C : CX G M p s m meth c) (h1 : s.heap.size ≤ H.size) (h2 : ∀ z ∈ locs, frG G z.base) (h3 : HK G σ H) : va_S (frG G) s.heap H locs :=
  ⟨h1, fun q hq hA => by
    have hq' : q < (gs G).heap.size := Nat.not_le.mp hA
    rw [h3.2.2.1 q hq', C.2.2.2.2.2.2.2.1.2.2 q hq'], h2⟩
theorem z_s {C n d : String} {v : Value} {p : Program} {s : State} {m : MethodId} {meth : Method} {c : Code} (X : CX G M p s m meth c) (h : va_Z C n d v (frG G) (gs G) (gs G).heap) : va_Z C n d v (frG G) s s.heap :=
  va_Z.moved X.2.2.2.2.2.2.2.2.alike (h.kept fun a ha _ => X.2.2.2.2.2.2.2.1.2.2 a ha)
theorem o_s {E : String} {a : Nat} {p : Program} {s : State} {m : MethodId} {meth : Method} {c : Code} (X : CX G M p s m meth c) (h : oO G E a) : va_O E a (frG G) s s.heap :=
  va_O.moved X.2.2.2.2.2.2.2.2.alike (va_O.kept h fun a ha _ => X.2.2.2.2.2.2.2.1.2.2 a ha)
theorem of_s {o n d : String} {v : VV} {a : Nat} {p : Program} {s : State} {m : MethodId} {meth : Method} {c : Code} (X : CX G M p s m meth c) (h : qF G o n d v a) : va_OF o n d (em v) a (frG G) s s.heap :=
  va_OF.moved X.2.2.2.2.2.2.2.2.alike (va_OF.kept h fun a ha _ => X.2.2.2.2.2.2.2.1.2.2 a ha)
theorem t_s {a n : Nat} {f : Nat → Int32} {p : Program} {s : State} {m : MethodId} {meth : Method} {c : Code} (X : CX G M p s m meth c) (h : qT G a n f) : va_T .byte a n (fun j => .int (f j)) (frG G) s s.heap :=
  va_T.moved X.2.2.2.2.2.2.2.2.alike (va_T.kept h fun a ha _ => X.2.2.2.2.2.2.2.1.2.2 a ha)
theorem s_getZ (gk : GOK G) {C n d : String} {v : VV} {idx : Nat} (hd : decode M.2.1 pc = .ok (.getstatic idx, 3)) (hw : Cond.fieldLink M.1.cls idx C n d ∈ TBL) (hz : va_Z C n d (em v) (frG G) (gs G) (gs G).heap) (k : At G M rm uc us (pc + 3) L (v :: S) σ K) : At G M rm uc us pc L S σ K :=
  fun p e s m args below meth c H locs ls X h1 h2 h3 h4 => va_gets (args := args) X.1 X.2.1 (z_s X hz) (vs_of X h1 h2 h3) X.2.2.2.2.1 (tb_s gk X.2.2.2.2.2.2.2.2 _ hw) (fun _ h => h) hd (k p e s m args below meth c H locs ls X h1 h2 h3 h4)
theorem s_getQ (gk : GOK G) {C n d : String} {idx : Nat} (hd : decode M.2.1 pc = .ok (.getstatic idx, 3)) (hw : Cond.fieldLink M.1.cls idx C n d ∈ TBL) (hz : zQ G C n d) (k : ∀ r, At G M rm uc us (pc + 3) L (vR r :: S) σ K) : At G M rm uc us pc L S σ K := by
  rcases hz with h | ⟨t, h⟩
  · exact s_getZ gk (v := vR none) hd hw h (k none)
  · exact s_getZ gk (v := vR (some t)) hd hw h (k (some t))
theorem s_getO (gk : GOK G) {o n d : String} {v : VV} {q idx : Nat} (hd : decode M.2.1 pc = .ok (.getfield idx, 3)) (hw : Cond.fieldLink M.1.cls idx o n d ∈ TBL) (hz : qF G o n d v q) (k : At G M rm uc us (pc + 3) L (v :: S) σ K) : At G M rm uc us pc L (vR (some q) :: S) σ K :=
  fun p e s m args below meth c H locs ls X h1 h2 h3 h4 => vk_getf (args := args) X.1 X.2.1 (of_s X hz) (vs_of X h1 h2 h3) X.2.2.2.2.1 (tb_s gk X.2.2.2.2.2.2.2.2 _ hw) (fun _ h => h) hd (k p e s m args below meth c H locs ls X h1 h2 h3 h4)
theorem s_lenT {a n : Nat} {f : Nat → Int32} (hd : decode M.2.1 pc = .ok (.arraylength, 1)) (hz : qT G a n f) (k : At G M rm uc us (pc + 1) L (vI (nI n) :: S) σ K) : At G M rm uc us pc L (vR (some a) :: S) σ K :=
  fun p e s m args below meth c H locs ls X h1 h2 h3 h4 => va_tlen X.1 X.2.1 (t_s X hz) (vs_of X h1 h2 h3) rfl hd (k p e s m args below meth c H locs ls X h1 h2 h3 h4)
theorem s_balT {a n : Nat} {f : Nat → Int32} {i : Int32} (hd : decode M.2.1 pc = .ok (.baload, 1)) (hz : qT G a n f) (hin : vp_in i n) (k : At G M rm uc us (pc + 1) L (vI (f i.toNatClampNeg) :: S) σ K) : At G M rm uc us pc L (vI i :: vR (some a) :: S) σ K :=
  fun p e s m args below meth c H locs ls X h1 h2 h3 h4 => va_tb X.1 X.2.1 (t_s X hz) (vs_of X h1 h2 h3) hin rfl hd (k p e s m args below meth c H locs ls X h1 h2 h3 h4)
theorem s_ldcS {tx : String} {idx q : Nat} (hd : decode M.2.1 pc = .ok (.ldc idx, 2)) (hz : vk_R M.1.cls idx tx q (gs G)) (k : At G M rm uc us (pc + 2) L (vR (some q) :: S) σ K) : At G M rm uc us pc L S σ K :=
  fun p e s m args below meth c H locs ls X h1 h2 h3 h4 => va_ldcS X.1 X.2.1 X.2.2.2.2.1 (vk_R.warm X.2.2.2.2.2.2.2.2 hz) hd (k p e s m args below meth c H locs ls X h1 h2 h3 h4)
theorem s_ldcI (gk : GOK G) {idx : Nat} {v : Int32} (hd : decode M.2.1 pc = .ok (.ldc idx, 2)) (hw : Cond.constant M.1.cls idx v ∈ TBL) (k : At G M rm uc us (pc + 2) L (vI v :: S) σ K) : At G M rm uc us pc L S σ K :=
  fun p e s m args below meth c H locs ls X h1 h2 h3 h4 => lv_ldc (args := args) X.1 X.2.1 X.2.2.2.2.1 (tb_s gk X.2.2.2.2.2.2.2.2 _ hw) hd (k p e s m args below meth c H locs ls X h1 h2 h3 h4)
theorem t_bald (gk : GOK G) {a n : Nat} {r : Option Nat} {i : Int32} (hd : decode M.2.1 pc = .ok (.baload, 1)) (e : r = some a) (ht : mt σ a = (54, n)) (hin : vp_in i n) (kk : At G M rm uc us (pc + 1) L (vI (mi σ a i.toNatClampNeg) :: S) σ K) : At G M rm uc us pc L (vI i :: vR r :: S) σ K := by
  subst e; exact s_bald gk hd ht hin kk
theorem t_bast (gk : GOK G) {a n : Nat} {r : Option Nat} {i x : Int32} (hd : decode M.2.1 pc = .ok (.bastore, 1)) (e : r = some a) (ht : mt σ a = (54, n)) (hin : vp_in i n) (hx : narrow .byte (.int x) = .int x) (kk : ∀ σ', σ' = si σ a i.toNatClampNeg x → mt σ' = mt σ → At G M rm uc us (pc + 1) L S σ' K) : At G M rm uc us pc L (vI x :: vI i :: vR r :: S) σ K := by
  subst e; exact s_bast gk hd ht hin hx (kk _ rfl rfl)
/-- invokevirtual of Y on an object of ours of class ci, which Y's class stands above -/
theorem s_callVC (gk : GOK G) {idx nA ci a : Nat} {r : Option Nat} {Y : SIG} {rmY : Room} {as : List VV} {S0 : List VV} (hd : decode M.2.1 pc = .ok (.invokevirtual idx, 3)) (hy : yOk M.1.cls idx nA Y) (hc : ci < 11) (w1 : Cond.instanceMethod Y.1 ∈ TBL) (w2 : ∀ {s : State} {args : Array Value}, (gs G).WarmedH s.vm → (Cond.selects (clN ci) Y.1 Y.1).before args s = true) (er : r = some a) (ht : (mt σ a).1 = ci + 1) (hst : S0 = as.reverse ++ vR r :: S) (hl : as.length = nA) (hs4 : S.length ≤ 4)
    (hR : rmY.frames + 1 ≤ rm.frames ∧ 8 + (Y.2.2.1 + 11) + rmY.locals ≤ rm.locals ∧ uc + rmY.cells ≤ rm.cells ∧ us + rmY.slots ≤ rm.slots) (hrun : Runs G Y rmY (vR r :: as) σ (bk G M rm (uc + rmY.cells) (us + rmY.slots) (pc + 3) L S K)) : At G M rm uc us pc L S0 σ K := by
  subst er
  intro p e s m args below meth c H locs ls C h1 h2 h3 h4
  obtain ⟨hx, hb, -, hml, hown, -, -, -, hW⟩ := id C
  have hts := tb_s gk (args := args) hW
  obtain ⟨-, cellB, q1, q2, q3, q4⟩ := hk_obj h3 hc ht
  refine s_back (Y := Y) (S := S) (as := (Value.ref a :: as.map em).toArray) C h1 h2 h4 hR.2.2.1 hR.2.2.2 ?_
  refine vx_runV (Ts := []) (C := clN ci) (b := a) (As := as.map em) (nL := M.2.2.1) ⟨hx, hb, hml, hown, fun w h => by cases h⟩ hrun ⟨call_b gk hW hy ⟨hR.1, hR.2.1⟩, hts _ w1, w2 hW⟩ ⟨pc_blind, ⟨cellB, q1, by rw [q3]; rfl, by rw [q2]; exact (gk_cls gk hW hc).2.1⟩, fun U hU hWU => ⟨rfl, by rw [hU]; exact h3, State.WarmedH.trans hW hWU⟩⟩ rfl (by rw [List.length_map]; exact hl) h4.1 ?_ ?_ hd ⟨hR.2.2.1, hR.2.2.2⟩
  · show S0.map em = _
    rw [hst]
    simp [em, va_rf]
  · have := cat_le S hs4
    simpa [JFrame.monitorRoom] using this
/-- invokevirtual of Y on an object of the start's -/
theorem s_callVS (gk : GOK G) {idx nA a : Nat} {E : String} {Y : SIG} {rmY : Room} {as : List VV} {S0 : List VV} (hd : decode M.2.1 pc = .ok (.invokevirtual idx, 3)) (hy : yOk M.1.cls idx nA Y) (w1 : Cond.instanceMethod Y.1 ∈ TBL) (w2 : Cond.selects E Y.1 Y.1 ∈ TBL) (ht : oO G E a) (hst : S0 = as.reverse ++ vR (some a) :: S) (hl : as.length = nA) (hs4 : S.length ≤ 4)
    (hR : rmY.frames + 1 ≤ rm.frames ∧ 8 + (Y.2.2.1 + 11) + rmY.locals ≤ rm.locals ∧ uc + rmY.cells ≤ rm.cells ∧ us + rmY.slots ≤ rm.slots) (hrun : Runs G Y rmY (vR (some a) :: as) σ (bk G M rm (uc + rmY.cells) (us + rmY.slots) (pc + 3) L S K)) : At G M rm uc us pc L S0 σ K := by
  intro p e s m args below meth c H locs ls C h1 h2 h3 h4
  obtain ⟨hx, hb, -, hml, hown, -, -, -, hW⟩ := id C
  have hts := tb_s gk (args := args) hW
  obtain ⟨cellB, q1, q2, q3, -⟩ := va_O.kept (o_s C ht) (vs_of C h1 h2 h3).2.1
  refine s_back (Y := Y) (S := S) (as := (Value.ref a :: as.map em).toArray) C h1 h2 h4 hR.2.2.1 hR.2.2.2 ?_
  refine vx_runV (Ts := []) (C := E) (b := a) (As := as.map em) (nL := M.2.2.1) ⟨hx, hb, hml, hown, fun w h => by cases h⟩ hrun ⟨call_b gk hW hy ⟨hR.1, hR.2.1⟩, hts _ w1, hts _ w2⟩ ⟨pc_blind, ⟨cellB, q1, q2, q3⟩, fun U hU hWU => ⟨rfl, by rw [hU]; exact h3, State.WarmedH.trans hW hWU⟩⟩ rfl (by rw [List.length_map]; exact hl) h4.1 ?_ ?_ hd ⟨hR.2.2.1, hR.2.2.2⟩
  · show S0.map em = _
    rw [hst]
    simp [em, va_rf]
  · have := cat_le S hs4
    simpa [JFrame.monitorRoom] using this
/-- super.Y(..) on an object of ours of class ci -/
theorem s_callSU (gk : GOK G) {idx nA ci a : Nat} {r : Option Nat} {Y : SIG} {rmY : Room} {as : List VV} {S0 : List VV} {K' : RES → Mm → Prop} (hd : decode M.2.1 pc = .ok (.invokespecial idx, 3)) (hy : yOk M.1.cls idx nA Y) (hc : ci < 11) (w1 : Cond.instanceMethod Y.1 ∈ TBL) (w3 : Cond.sameMethod Y.1.cls Y.1.cls Y.1.name Y.1.desc ∈ TBL) (w4 : Cond.superclass M.1.cls Y.1.cls ∈ TBL) (hnm : Y.1.name ≠ "<init>") (er : r = some a) (ht : (mt σ a).1 = ci + 1) (hst : S0 = as.reverse ++ vR r :: S) (hl : as.length = nA) (hs4 : S.length ≤ 4)
    (hR : rmY.frames + 1 ≤ rm.frames ∧ 8 + (Y.2.2.1 + 11) + rmY.locals ≤ rm.locals ∧ uc + rmY.cells ≤ rm.cells ∧ us + rmY.slots ≤ rm.slots) (hrun : Runs G Y rmY (vR r :: as) σ K') (hKx : ∀ E t, ¬ K' (.inr E) t) (hK : ∀ v t, K' (.inl v) t → At G M rm (uc + rmY.cells) (us + rmY.slots) (pc + 3) L (v.toList ++ S) t K) : At G M rm uc us pc L S0 σ K := by
  subst er
  intro p e s m args below meth c H locs ls C h1 h2 h3 h4
  obtain ⟨hx, hb, -, hml, hown, -, -, -, hW⟩ := id C
  have hts := tb_s gk (args := args) hW
  obtain ⟨b1, b2, b3, b4, b5, b6, b7, b8, b9, b10, b11⟩ := call_b (args := args) gk hW hy ⟨hR.1, hR.2.1⟩
  obtain ⟨-, cellB, q1, q2, q3, q4⟩ := hk_obj h3 hc ht
  have hkn := gk_cls gk hW hc
  refine s_callI_0 (Y := Y) (S := S) (as := (Value.ref a :: as.map em).toArray) C h1 h2 h4 hK ?_
  refine va_runSU (Ts := []) (C := clN ci) (b := a) (As := as.map em) (nL := M.2.2.1) hkn.2 ⟨hx, hb, hml, hown, fun w h => by cases h⟩ (hrun.met hKx) ⟨⟨b1, b2, b3, b4, b5, b6⟩, hts _ hy.1, hts _ w3, hts _ w4, hts _ w1, hts _ hy.2.2.1, hts _ hy.2.1, hnm, b10⟩ ⟨pc_blind, ⟨cellB, q1, by rw [q3]; rfl, by rw [q2]; exact hkn.2.1⟩, fun U hU hWU => ⟨rfl, by rw [hU]; exact h3, State.WarmedH.trans hW hWU⟩⟩ rfl (by rw [List.length_map]; exact hl) h4.1 ?_ ?_ hd ⟨hR.2.2.1, hR.2.2.2⟩
  · show S0.map em = _
    rw [hst]
    simp [em, va_rf]
  · have := cat_le S hs4
    simpa [JFrame.monitorRoom] using this
/-- a private method is what any class of objects selects -/
theorem sel_pv {y : MethodName} {s : State} {args : Array Value} {C : String} {n : Nat} (hy : y.cls ≠ "java/lang/invoke/MethodHandle" ∧ y.cls ≠ "java/lang/invoke/VarHandle")
    (hins : (Cond.instantiable C n).before args s = true) (hpriv : (Cond.privateMethod y).before args s = true) (hinst : (Cond.instanceMethod y).before args s = true) (hsame : (Cond.sameMethod y.cls y.cls y.name y.desc).before args s = true) : (Cond.selects C y y).before args s = true := by
  obtain ⟨c, k, hc, hk, -, hniab, -, -⟩ := Cond.instantiable_spec hins
  obtain ⟨mk, methM, hnamed, hmethM, -, -⟩ := Cond.instanceMethod_spec hinst
  have hfound : s.methodFound? y.cls y.name y.desc = some mk := State.methodFound?_of_named hnamed hy
  have hsel : selectMethod {} s.vm c mk = .method mk := selectMethod_private hmethM (Cond.privateMethod_at hpriv mk methM hnamed hmethM)
  obtain ⟨c2, k2, r2, hc2, hk2, hni2, -, -⟩ := Cond.sameMethod_found hsame
  have hcls : mk.cls = c2 := Option.some.inj ((findClass_of_methodNamed hnamed).symm.trans hc2)
  simp only [Cond.before, Cond.holds, Cond.value, hc, hfound, hnamed, hsel, hcls, hk2]
  simp [hni2]
/-- System.arraycopy of bytes -/
theorem s_copyB (gk : GOK G) {idx a0 a n0 n1 : Nat} {sp dp n : Int32} (hd : decode M.2.1 pc = .ok (.invokestatic idx, 3)) (w1 : Cond.methodLink M.1.cls idx arraycopyName ∈ TBL) (w2 : Cond.native arraycopyName ∈ TBL) (w3 : Cond.static arraycopyName ∈ TBL) (w4 : Cond.initialized "java/lang/System" ∈ TBL) (ht0 : mt σ a0 = (54, n0)) (ht1 : mt σ a = (54, n1))
    (q1 : ¬ sp < 0) (q2 : ¬ dp < 0) (q3 : ¬ n < 0) (q4 : sp.toNatClampNeg + n.toNatClampNeg ≤ n0) (q5 : dp.toNatClampNeg + n.toNatClampNeg ≤ n1) (hfit : ∀ i : Nat, i < n.toNatClampNeg → fits .byte (.int (mi σ a0 (sp.toNatClampNeg + i))) = true) (hS : S = []) (hf : 1 ≤ rm.frames) (hlo : nativeFrameWords "java/lang/System" "arraycopy" 5 + 11 ≤ rm.locals) (kk : At G M rm uc us (pc + 3) L S (cpI σ a0 sp.toNatClampNeg a dp.toNatClampNeg n.toNatClampNeg) K) : At G M rm uc us pc L (vI n :: vI dp :: vR (some a) :: vI sp :: vR (some a0) :: S) σ K := by
  intro p e s m args below meth c H locs ls C h1 h2 h3 h4
  subst hS
  obtain ⟨hx, hb, -, hml, hown, hlk, hex, -, hW⟩ := id C
  have hts := tb_s gk (args := args) hW
  obtain ⟨hN0, hc0⟩ := hk_arr (j := 4) h3 (by decide) ht0
  obtain ⟨hN1, hc1⟩ := hk_arr (j := 4) h3 (by decide) ht1
  have hA := (gk_arr gk hW (j := 4) (by decide)).1
  obtain ⟨-, k0, hk0, cm0, hkk0⟩ := hA n0 (fun j => .int (mi σ a0 j))
  obtain ⟨-, k1, hk1, cm1, hkk1⟩ := hA n1 (fun j => .int (mi σ a j))
  have hc0 : H[a0]? = some (vp_cell (gA G 4) (n0, .inl (mi σ a0))) := hc0
  have hc1 : H[a]? = some (vp_cell (gA G 4) (n1, .inl (mi σ a))) := hc1
  intro T hT X
  obtain ⟨vm', X', step⟩ := X.arraycopy hx hown (hts _ w1) (hts _ w2) (hts _ w3) (hts _ w4) (src := a0) (dst := a) (cs := vp_cell (gA G 4) (n0, .inl (mi σ a0))) (cd := vp_cell (gA G 4) (n1, .inl (mi σ a))) (srcPos := sp) (destPos := dp) (n := n) (by rw [hT]; exact hc0) (by rw [hT]; exact hc1)
    (fun _ h => by cases h) (fun _ h => by cases h) (fun h => by cases h) (fun h => by cases h) hk0 hk1 hkk0 hkk1 (by simp [arT, refKind]) q1 q2 q3
    (by rw [i_nn q1, i_nn q3]; show ¬ _ > ((arrV (gA G 4) n0 (fun j => .int (mi σ a0 j))).slots.size : Int); rw [arrV_size]; omega)
    (by rw [i_nn q2, i_nn q3]; show ¬ _ > ((arrV (gA G 4) n1 (fun j => .int (mi σ a j))).slots.size : Int); rw [arrV_size]; omega)
    (fun vm₁ _ i hi => by
      have e : (vp_cell (gA G 4) (n0, .inl (mi σ a0))).slots.getD (sp.toNatClampNeg + i) .null = .int (mi σ a0 (sp.toNatClampNeg + i)) := by
        show (arrV (gA G 4) n0 (fun j => .int (mi σ a0 j))).slots.getD _ _ = _
        rw [Array.getD_eq_getD_getElem?, arrV_read _ _ (by omega)]
        rfl
      refine ⟨?_, ?_⟩
      · rw [e]; exact hfit i hi
      · rw [e]
        exact trivial)
    (g := F0 m pc ls (.int n :: .int dp :: .ref a :: .int sp :: .ref a0 :: [])) rfl (by rw [hml]; exact h4.1) (rest := []) rfl (by rw [hb]; exact hd) hf (by show 2 * 0 + 0 + _ ≤ _; omega)
  have e1 : copied (vp_cell (gA G 4) (n0, .inl (mi σ a0))) (vp_cell (gA G 4) (n1, .inl (mi σ a))) sp dp n = vp_cell (gA G 4) (n1, .inl (va_cpy (mi σ a0) (mi σ a) sp.toNatClampNeg dp.toNatClampNeg n.toNatClampNeg)) := va_copied (fun z => .int z) (gA G 4) (gA G 4) (mi σ a0) (mi σ a) q4
  rw [e1] at X' step
  have hl : a < H.size := (Array.getElem?_eq_some_iff.mp hc1).1
  have hheap : ((T.setVm vm').setCell a (vp_cell (gA G 4) (n1, .inl (va_cpy (mi σ a0) (mi σ a) sp.toNatClampNeg dp.toNatClampNeg n.toNatClampNeg)))).heap = H.setIfInBounds a (vp_cell (gA G 4) (n1, .inl (va_cpy (mi σ a0) (mi σ a) sp.toNatClampNeg dp.toNatClampNeg n.toNatClampNeg))) := by rw [← hT]; rfl
  have oq : ∀ q : Nat, q ≠ a → (H.setIfInBounds a (vp_cell (gA G 4) (n1, .inl (va_cpy (mi σ a0) (mi σ a) sp.toNatClampNeg dp.toNatClampNeg n.toNatClampNeg))))[q]? = H[q]? := fun q hq => by simp [Array.getElem?_setIfInBounds, Ne.symm hq]
  have hHK : HK G (cpI σ a0 sp.toNatClampNeg a dp.toNatClampNeg n.toNatClampNeg) (H.setIfInBounds a (vp_cell (gA G 4) (n1, .inl (va_cpy (mi σ a0) (mi σ a) sp.toNatClampNeg dp.toNatClampNeg n.toNatClampNeg)))) := by
    refine hk_put (a := a) h3 hN1 rfl rfl (fun b hb => ⟨fun k => if_neg hb, fun _ => rfl, fun _ => rfl, fun _ => rfl⟩) (by simp) oq ?_
    rw [ht1]
    refine (atT_arr (j := 4) (by decide)).mpr ⟨hN1, ?_⟩
    have h9 : (H.setIfInBounds a (vp_cell (gA G 4) (n1, .inl (va_cpy (mi σ a0) (mi σ a) sp.toNatClampNeg dp.toNatClampNeg n.toNatClampNeg))))[a]? = some (vp_cell (gA G 4) (n1, .inl (va_cpy (mi σ a0) (mi σ a) sp.toNatClampNeg dp.toNatClampNeg n.toNatClampNeg))) := by simp [Array.getElem?_setIfInBounds, hl]
    rw [h9]
    rw [vp_cell_i]
    congr 2
    funext i
    show Value.int _ = Value.int (if a = a then _ else _)
    rw [if_pos rfl]
  obtain ⟨t, a1, b1⟩ := kk p e s m args below meth c _ _ ls C (by simp; exact h1) (fun q hq => by
      rcases List.mem_append.mp hq with h | h
      · exact h2 q h
      · obtain ⟨z, -, hz⟩ := List.mem_map.mp h
        rw [← hz]
        exact hN1) hHK h4 _ hheap X'
  exact ⟨t, step t a1, b1⟩
theorem t_copyB (gk : GOK G) {idx a0 a n0 n1 : Nat} {r0 r1 : Option Nat} {sp dp n : Int32} (hd : decode M.2.1 pc = .ok (.invokestatic idx, 3)) (w1 : Cond.methodLink M.1.cls idx arraycopyName ∈ TBL) (w2 : Cond.native arraycopyName ∈ TBL) (w3 : Cond.static arraycopyName ∈ TBL) (w4 : Cond.initialized "java/lang/System" ∈ TBL) (e0 : r0 = some a0) (ht0 : mt σ a0 = (54, n0)) (e1 : r1 = some a) (ht1 : mt σ a = (54, n1))
    (hin : (¬ sp < 0 ∧ ¬ dp < 0 ∧ ¬ n < 0) ∧ sp.toNatClampNeg + n.toNatClampNeg ≤ n0 ∧ dp.toNatClampNeg + n.toNatClampNeg ≤ n1) (hfit : ∀ i : Nat, i < n.toNatClampNeg → fits .byte (.int (mi σ a0 (sp.toNatClampNeg + i))) = true) (hS : S = []) (hf : 1 ≤ rm.frames) (hlo : nativeFrameWords "java/lang/System" "arraycopy" 5 + 11 ≤ rm.locals) (kk : ∀ σ', σ' = cpI σ a0 sp.toNatClampNeg a dp.toNatClampNeg n.toNatClampNeg → mt σ' = mt σ → At G M rm uc us (pc + 3) L S σ' K) : At G M rm uc us pc L (vI n :: vI dp :: vR r1 :: vI sp :: vR r0 :: S) σ K := by
  subst e0; subst e1; exact s_copyB gk hd w1 w2 w3 w4 ht0 ht1 hin.1.1 hin.1.2.1 hin.1.2.2 hin.2.1 hin.2.2 hfit hS hf hlo (kk _ rfl rfl)
end RWS
/-- what is so of the JDK's statics and of the text constants at the start, and stays so -/
def dOnes : Nat → Int32 := fun i => nI (48 + i % 10)
def dTens : Nat → Int32 := fun i => nI (48 + i / 10)
def TXS : List (String × Nat × String × List Int32) := [(RX1, 85, "jar ", [106, 97, 114, 32]), (RX1, 87, "say ", [115, 97, 121, 32]), (RX1, 89, "drop ", [100, 114, 111, 112, 32]), (RX1, 91, "shelf", [115, 104, 101, 108, 102]), (RX1, 93, "hear", [104, 101, 97, 114]), (RX1, 95, "warm", [119, 97, 114, 109]), (RX1, 97, "listen", [108, 105, 115, 116, 101, 110]), (RX1, 99, "deaf", [100, 101, 97, 102]), (RX1, 101, "pass", [112, 97, 115, 115]), (RL, 173, "rol", [114, 111, 108]), (RL, 303, "", []), (RL, 312, " ", [32]), (RL, 320, "~", [126]), (RL, 322, "!", [33]), (RL, 356, "rolx", [114, 111, 108, 120]), (RL, 361, "hear 0 a;say d ", [104, 101, 97, 114, 32, 48, 32, 97, 59, 115, 97, 121, 32, 100, 32]), (RL, 363, ";warm 0 ", [59, 119, 97, 114, 109, 32, 48, 32]), (RL, 365, ";pass ", [59, 112, 97, 115, 115, 32])]
def TX (G : GG) (c : String × Nat × String × List Int32) : Prop := ∃ q v : Nat, vk_R c.1 c.2.1 c.2.2.1 q (gs G) ∧ STV G q v c.2.2.2.length (fun j => c.2.2.2.getD j 0)
def SOK (G : GG) : Prop := zI G "java/lang/String" "COMPACT_STRINGS" "Z" 1 ∧ zQ G "jdk/internal/util/Preconditions" "SIOOBE_FORMATTER" "Ljava/util/function/BiFunction;" ∧ (∃ t, zR G "java/lang/Integer" "DigitOnes" "[B" t ∧ qT G t 100 dOnes) ∧ (∃ t, zR G "java/lang/Integer" "DigitTens" "[B" t ∧ qT G t 100 dTens) ∧ ∀ c ∈ TXS, TX G c
def isB (x : Int32) : Prop := x.toInt8.toInt32 = x ∧ fits .byte (.int x) = true
theorem nf_b {x : Int32} (h : isB x) : narrow .byte (.int x) = .int x ∧ fits .byte (.int x) = true := ⟨congrArg Value.int h.1, h.2⟩
theorem isB_all : ∀ k, k < 128 → (nI k).toInt8.toInt32 = nI k ∧ fits .byte (.int (nI k)) = true := by decide +kernel
theorem isB_nI {k : Nat} (h : k < 128) : isB (nI k) := isB_all k h
