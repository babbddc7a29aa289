/-! ===== text made by the law: rows for Strings of the start and of the memory, a copy out of a text constant, clone ===== -/
section RWS3
variable {G : GG} {M : SIG} {rm : Room} {uc us pc : Nat} {L : List (Option VV)} {S : List VV} {σ : Mm} {K : RES → Mm → Prop}
/-- a String of the start, or one of ours -/
def oSV (G : GG) (σ : Mm) (a : Nat) : Prop := oO G "java/lang/String" a ∨ (mt σ a).1 = 10
theorem s_callSV (gk : GOK G) {idx nA a : Nat} {r : Option Nat} {Y : SIG} {rmY : Room} {as : List VV} {S0 : List VV} (hd : decode M.2.1 pc = .ok (.invokevirtual idx, 3)) (hy : yOk M.1.cls idx nA Y) (hyc : Y.1.cls = "java/lang/String") (w1 : Cond.instanceMethod Y.1 ∈ TBL) (w2 : Cond.selects "java/lang/String" Y.1 Y.1 ∈ TBL) (er : r = some a) (ht : oSV G σ a) (hst : S0 = as.reverse ++ vR r :: S) (hl : as.length = nA) (hs4 : S.length ≤ 4)
    (hR : rmY.frames + 1 ≤ rm.frames ∧ 8 + (Y.2.2.1 + 11) + rmY.locals ≤ rm.locals ∧ uc + rmY.cells ≤ rm.cells ∧ us + rmY.slots ≤ rm.slots) (hrun : Runs G Y rmY (vR r :: as) σ (bk G M rm (uc + rmY.cells) (us + rmY.slots) (pc + 3) L S K)) : At G M rm uc us pc L S0 σ K := by
  subst er
  rcases ht with ht | ht
  · exact s_callVS gk hd hy w1 w2 ht hst hl hs4 hR hrun
  · exact s_callV (ci := 9) gk hd hy (by decide) hyc w1 (by rw [hyc]; exact w2) ht hst hl hs4 hR hrun
/-- a call that names x and runs y: the receiver's class lays y over x -/
theorem s_callVO (gk : GOK G) {idx nA ci a : Nat} {r : Option Nat} {X : MethodName} {Y : SIG} {rmY : Room} {as : List VV} {S0 : List VV} {K' : RES → Mm → Prop} {b0 : ByteArray} {m0 : Nat} {r0 : Option FieldType} (hd : decode M.2.1 pc = .ok (.invokevirtual idx, 3)) (hc : ci < 11)
    (w1 : Cond.methodLink M.1.cls idx X ∈ TBL) (w2 : Cond.sameMethod X.cls X.cls X.name X.desc ∈ TBL) (w3 : Cond.instanceMethod X ∈ TBL) (w4 : Cond.selects (clN ci) X Y.1 ∈ TBL) (w5 : Cond.instanceMethod Y.1 ∈ TBL) (w6 : Cond.initialized Y.1.cls ∈ TBL) (w7 : Cond.code X b0 m0 r0 ∈ TBL) (w8 : Cond.code Y.1 Y.2.1 Y.2.2.1 Y.2.2.2 ∈ TBL)
    (hX : X.cls ≠ "java/lang/invoke/MethodHandle" ∧ X.cls ≠ "java/lang/invoke/VarHandle") (hn : (parseMethodDescriptor X.desc).map (fun d => d.parameters.length) = some nA) (er : r = some a) (ht : (mt σ a).1 = ci + 1) (hst : S0 = as.reverse ++ vR r :: S) (hl : as.length = nA) (hs4 : S.length ≤ 4)
    (hR : rmY.frames + 1 ≤ rm.frames ∧ 8 + (Y.2.2.1 + 11) + rmY.locals ≤ rm.locals ∧ uc + rmY.cells ≤ rm.cells ∧ us + rmY.slots ≤ rm.slots) (hrun : Runs G Y rmY (vR r :: as) σ K') (hKx : ∀ E t, ¬ K' (.inr E) t) (hK : ∀ v t, K' (.inl v) t → At G M rm (uc + rmY.cells) (us + rmY.slots) (pc + 3) L (v.toList ++ S) t K) : At G M rm uc us pc L S0 σ K := by
  subst er
  intro p e s m args below meth c H locs ls C h1 h2 h3 h4
  obtain ⟨hx, hb, -, hml, hown, -, -, -, hW⟩ := id C
  have hts := tb_s gk (args := args) hW
  obtain ⟨-, cellB, q1, q2, q3, q4⟩ := hk_obj h3 hc ht
  have hkn := gk_cls gk hW hc
  refine s_callI_0 (Y := Y) (S := S) (as := (Value.ref a :: as.map em).toArray) C h1 h2 h4 hK ?_
  refine va_runU (Ts := []) (C := clN ci) (owner := X.cls) (x := X) (n := nA) (bytes := Y.2.1) (maxL := Y.2.2.1) (ret := Y.2.2.2) (ws := [Cond.code Y.1 Y.2.1 Y.2.2.1 Y.2.2.2]) (b := a) (As := as.map em) (nL := M.2.2.1) ⟨hx, hb, hml, hown, fun w h => by cases h⟩ (hrun.met hKx)
    ⟨⟨rfl, rfl, hR.1, hR.2.1, fun w hw a' U hU => ?_, List.mem_cons_self⟩, hts _ w8, hts _ w6, hX, fun sig h => ?_, hts _ w1, hts _ w2, va_Decl.of (hts _ w3) (hts _ w7), hts _ w4, hts _ w5⟩ ⟨pc_blind, ⟨cellB, q1, by rw [q3]; rfl, by rw [q2]; exact hkn.2.1⟩, fun U hU hWU => ⟨rfl, by rw [hU]; exact h3, State.WarmedH.trans hW hWU⟩⟩ rfl (by rw [List.length_map]; exact hl) h4.1 ?_ ?_ hd ⟨hR.2.2.1, hR.2.2.2⟩
  · rw [List.mem_singleton.mp hw]
    exact tb_s gk (State.WarmedH.trans hW hU) _ w8
  · rw [h] at hn
    exact (Option.some.inj hn).symm
  · show S0.map em = _
    rw [hst]
    simp [em, va_rf]
  · have := cat_le S hs4
    simpa [JFrame.monitorRoom] using this
/-- the memory when n letters of f, from sp on, have been copied into the array a from dp on -/
def cpF (σ : Mm) (f : Nat → Int32) (sp a dp n : Nat) : Mm := (fun b k => if b = a then va_cpy f (mi σ a) sp dp n k else mi σ b k, mr σ, ml σ, md σ, mt σ, mz σ)
/-- System.arraycopy of a text constant's bytes -/
theorem s_copyT (gk : GOK G) {idx a0 a n0 n1 : Nat} {f : Nat → Int32} {sp dp n : Int32} (hd : decode M.2.1 pc = .ok (.invokestatic idx, 3)) (w1 : Cond.methodLink M.1.cls idx arraycopyName ∈ TBL) (w2 : Cond.native arraycopyName ∈ TBL) (w3 : Cond.static arraycopyName ∈ TBL) (w4 : Cond.initialized "java/lang/System" ∈ TBL) (ht0 : qT G a0 n0 f) (ht1 : mt σ a = (54, n1))
    (q1 : ¬ sp < 0) (q2 : ¬ dp < 0) (q3 : ¬ n < 0) (q4 : sp.toNatClampNeg + n.toNatClampNeg ≤ n0) (q5 : dp.toNatClampNeg + n.toNatClampNeg ≤ n1) (hfit : ∀ i : Nat, i < n.toNatClampNeg → fits .byte (.int (f (sp.toNatClampNeg + i))) = true) (hS : S = []) (hf : 1 ≤ rm.frames) (hlo : nativeFrameWords "java/lang/System" "arraycopy" 5 + 11 ≤ rm.locals) (kk : At G M rm uc us (pc + 3) L S (cpF σ f sp.toNatClampNeg a dp.toNatClampNeg n.toNatClampNeg) K) : At G M rm uc us pc L (vI n :: vI dp :: vR (some a) :: vI sp :: vR (some a0) :: S) σ K := by
  intro p e s m args below meth c H locs ls C h1 h2 h3 h4
  subst hS
  obtain ⟨hx, hb, -, hml, hown, hlk, hex, -, hW⟩ := id C
  have hts := tb_s gk (args := args) hW
  obtain ⟨cs, u1, u2, u3, u4, u5, u6, u7⟩ := va_T.kept (t_s C ht0) (vs_of C h1 h2 h3).2.1
  obtain ⟨hN1, hc1⟩ := hk_arr (j := 4) h3 (by decide) ht1
  have hA := (gk_arr gk hW (j := 4) (by decide)).1
  obtain ⟨uvm, k0, hk0, cm0, hkk0⟩ := u2
  obtain ⟨-, k1, hk1, cm1, hkk1⟩ := hA n1 (fun j => .int (mi σ a j))
  have hc1 : H[a]? = some (vp_cell (gA G 4) (n1, .inl (mi σ a))) := hc1
  intro T hT X
  obtain ⟨vm', X', step⟩ := X.arraycopy hx hown (hts _ w1) (hts _ w2) (hts _ w3) (hts _ w4) (src := a0) (dst := a) (cs := cs) (cd := vp_cell (gA G 4) (n1, .inl (mi σ a))) (srcPos := sp) (destPos := dp) (n := n) (by rw [hT]; exact u1) (by rw [hT]; exact hc1)
    (fun k h => absurd h (uvm k)) (fun _ h => by cases h) u3 (fun h => by cases h) hk0 hk1 hkk0 hkk1 (by simp [arT, refKind]) q1 q2 q3
    (by rw [i_nn q1, i_nn q3]; omega)
    (by rw [i_nn q2, i_nn q3]; show ¬ _ > ((arrV (gA G 4) n1 (fun j => .int (mi σ a j))).slots.size : Int); rw [arrV_size]; omega)
    (fun vm₁ _ i hi => by
      have e : cs.slots.getD (sp.toNatClampNeg + i) .null = .int (f (sp.toNatClampNeg + i)) := by
        rw [Array.getD_eq_getD_getElem?, u6 _ (by omega)]
        rfl
      refine ⟨?_, ?_⟩
      · rw [e]; exact hfit i hi
      · rw [e]
        exact trivial)
    (g := F0 m pc ls (.int n :: .int dp :: .ref a :: .int sp :: .ref a0 :: [])) rfl (by rw [hml]; exact h4.1) (rest := []) rfl (by rw [hb]; exact hd) hf (by show 2 * 0 + 0 + _ ≤ _; omega)
  have e1 : copied cs (vp_cell (gA G 4) (n1, .inl (mi σ a))) sp dp n = vp_cell (gA G 4) (n1, .inl (va_cpy f (mi σ a) sp.toNatClampNeg dp.toNatClampNeg n.toNatClampNeg)) := va_copiedX (fun z => .int z) cs (gA G 4) f (mi σ a) u6 q4
  rw [e1] at X' step
  have hl : a < H.size := (Array.getElem?_eq_some_iff.mp hc1).1
  have hheap : ((T.setVm vm').setCell a (vp_cell (gA G 4) (n1, .inl (va_cpy f (mi σ a) sp.toNatClampNeg dp.toNatClampNeg n.toNatClampNeg)))).heap = H.setIfInBounds a (vp_cell (gA G 4) (n1, .inl (va_cpy f (mi σ a) sp.toNatClampNeg dp.toNatClampNeg n.toNatClampNeg))) := by rw [← hT]; rfl
  have oq : ∀ q : Nat, q ≠ a → (H.setIfInBounds a (vp_cell (gA G 4) (n1, .inl (va_cpy f (mi σ a) sp.toNatClampNeg dp.toNatClampNeg n.toNatClampNeg))))[q]? = H[q]? := fun q hq => by simp [Array.getElem?_setIfInBounds, Ne.symm hq]
  have hHK : HK G (cpF σ f sp.toNatClampNeg a dp.toNatClampNeg n.toNatClampNeg) (H.setIfInBounds a (vp_cell (gA G 4) (n1, .inl (va_cpy f (mi σ a) sp.toNatClampNeg dp.toNatClampNeg n.toNatClampNeg)))) := by
    refine hk_put (a := a) h3 hN1 rfl rfl (fun b hb => ⟨fun k => if_neg hb, fun _ => rfl, fun _ => rfl, fun _ => rfl⟩) (by simp) oq ?_
    rw [ht1]
    refine (atT_arr (j := 4) (by decide)).mpr ⟨hN1, ?_⟩
    have h9 : (H.setIfInBounds a (vp_cell (gA G 4) (n1, .inl (va_cpy f (mi σ a) sp.toNatClampNeg dp.toNatClampNeg n.toNatClampNeg))))[a]? = some (vp_cell (gA G 4) (n1, .inl (va_cpy f (mi σ a) sp.toNatClampNeg dp.toNatClampNeg n.toNatClampNeg))) := by simp [Array.getElem?_setIfInBounds, hl]
    rw [h9]
    rw [vp_cell_i]
    congr 2
    funext i
    show Value.int _ = Value.int (if a = a then _ else _)
    rw [if_pos rfl]
  obtain ⟨t, a1, b1⟩ := kk p e s m args below meth c _ _ ls C (by simp; exact h1) (fun q hq => by
      rcases List.mem_append.mp hq with h | h
      · exact h2 q h
      · obtain ⟨z, -, hz⟩ := List.mem_map.mp h
        rw [← hz]
        exact hN1) hHK h4 _ hheap X'
  exact ⟨t, step t a1, b1⟩
theorem arrV_ext {c : ClassId} {n : Nat} {f g : Nat → Value} (h : ∀ i, i < n → f i = g i) : arrV c n f = arrV c n g := by
  unfold arrV
  congr 2
  funext ⟨i, hi⟩
  exact h i hi
/-- a row of bytes, cloned -/
theorem t_cloneB (gk : GOK G) {idx a n : Nat} {r : Option Nat} (hd : decode M.2.1 pc = .ok (.invokevirtual idx, 3)) (w1 : Cond.methodLink M.1.cls idx ⟨"[B", "clone", "()Ljava/lang/Object;"⟩ ∈ TBL) (w2 : Cond.sameMethod "[B" "java/lang/Object" "clone" "()Ljava/lang/Object;" ∈ TBL) (w3 : Cond.native ⟨"java/lang/Object", "clone", "()Ljava/lang/Object;"⟩ ∈ TBL) (w4 : Cond.instanceMethod ⟨"java/lang/Object", "clone", "()Ljava/lang/Object;"⟩ ∈ TBL)
    (w5 : Cond.selects "[B" ⟨"[B", "clone", "()Ljava/lang/Object;"⟩ ⟨"java/lang/Object", "clone", "()Ljava/lang/Object;"⟩ ∈ TBL) (w6 : Cond.castable "[B" "java/lang/Cloneable" ∈ lw_tbl) (er : r = some a) (ht : mt σ a = (54, n)) (hfit : ∀ i : Nat, i < n → fits .byte (.int (mi σ a i)) = true) (hf : 1 ≤ rm.frames) (hlo : 14 ≤ rm.locals) (g1 : uc + 1 ≤ rm.cells) (g2 : us + n ≤ rm.slots)
    (kk : At G M rm (uc + 1) (us + n) (pc + 3) L [vR (some (mz σ))] (cpI (nw σ (54, n)) a 0 (mz σ) 0 n) K) : At G M rm uc us pc L [vR r] σ K := by
  subst er
  intro p e s m args below meth c H locs ls C h1 h2 h3 h4
  obtain ⟨hx, hb, -, hml, hown, -, -, -, hW⟩ := id C
  have hts := tb_s gk (args := args) hW
  obtain ⟨hN0, hc0⟩ := hk_arr (j := 4) h3 (by decide) ht
  have hA := gk_arr gk hW (j := 4) (by decide)
  have hc0 : H[a]? = some (vp_cell (gA G 4) (n, .inl (mi σ a))) := hc0
  obtain ⟨c0, t0', f1, f2, f3⟩ := Cond.castable_spec (va_Nw.use (A := args) rfl (va_Nw.warmC hW (gk.2.1 _ w6)))
  have hnm : s.vm.findClass "[B" = some (gA G 4) := hA.2
  cases hnm.symm.trans f1
  intro T hT X
  have hcellT : T.heap[a]? = some (vp_cell (gA G 4) (n, .inl (mi σ a))) := by rw [hT]; exact hc0
  obtain ⟨-, kA, hkA, comp, hkind⟩ := State.isArrayOf_alike X.warmed.alike (hA.1 0 (fun _ => .null))
  obtain ⟨-, kS, hkS, compS, hkindS⟩ := hA.1 0 (fun _ => .null)
  have hsz : (vp_cell (gA G 4) (n, .inl (mi σ a))).slots.size = n := arrV_size _ _ _
  obtain ⟨vm', X', st⟩ := X.cloneArray hx hown (hts _ w1) (hts _ w2) (hts _ w3) (hts _ w4) (hts _ w5) (a := a) (cell := vp_cell (gA G 4) (n, .inl (mi σ a))) hcellT (fun k h => by cases h) (fun h => by cases h) hnm f2 f3
    (fun i v hv => by
      have hk' : T.vm.classes[gA G 4]? = some kA := hkA
      have hi : i < n := by
        have h9 := (Array.getElem?_eq_some_iff.mp hv).1
        rw [hsz] at h9
        exact h9
      have hv2 : (arrV (gA G 4) n (fun j => Value.int (mi σ a j))).slots[i]? = some v := hv
      rw [arrV_read _ _ hi] at hv2
      cases hv2
      have h8 := hfit i hi
      have e9 : (vp_cell (gA G 4) (n, .inl (mi σ a))).cls = gA G 4 := rfl
      rw [e9]
      simpa [State.fitsSlot, State.slotType?, hk', hkind, arT] using h8)
    (g := F0 m pc ls [.ref a]) rfl (by rw [hml]; exact h4.1) rfl (by rw [hb]; exact hd) hf (by show 2 * 0 + 0 + 14 ≤ _; omega) g1 (by rw [hsz]; exact g2) (hloader := Vm.clonesLoader_of_array hkS hkindS)
  have hcellE : ({ cls := (vp_cell (gA G 4) (n, .inl (mi σ a))).cls, slots := (vp_cell (gA G 4) (n, .inl (mi σ a))).slots } : Cell) = vp_cell (gA G 4) (n, .inl (mi σ a)) := rfl
  rw [hcellE, hsz] at X'
  generalize hH1 : H.push (vp_cell (gA G 4) (n, .inl (mi σ a))) = H1
  have z1 : H1.size = H.size + 1 := by rw [← hH1, Array.size_push]
  have e1 : H1[H.size]? = some (vp_cell (gA G 4) (n, .inl (mi σ a))) := by rw [← hH1, Array.getElem?_push_size]
  have o1 : ∀ q : Nat, q < H.size → H1[q]? = H[q]? := fun q hq => by rw [← hH1, Array.getElem?_push, if_neg (Nat.ne_of_lt hq)]
  have hzz : H.size = mz σ := h3.1
  have haz : a ≠ mz σ := by
    have := (Array.getElem?_eq_some_iff.mp hc0).1
    omega
  have hHK : HK G (cpI (nw σ (54, n)) a 0 (mz σ) 0 n) H1 := by
    refine ⟨by rw [z1, hzz]; rfl, Nat.le_trans h3.2.1 (Nat.le_succ _), fun q hq => ?_, fun b => ?_⟩
    · rw [o1 q (by rw [hzz]; exact Nat.lt_of_lt_of_le hq h3.2.1)]; exact h3.2.2.1 q hq
    · by_cases hbz : b = mz σ
      · subst hbz
        have et : mt (cpI (nw σ (54, n)) a 0 (mz σ) 0 n) (mz σ) = (54, n) := if_pos rfl
        rw [et]
        refine (atT_arr (j := 4) (by decide)).mpr ⟨h3.2.1, ?_⟩
        rw [← hzz, e1, vp_cell_i]
        refine congrArg some (arrV_ext fun i hi => ?_)
        show Value.int (mi σ a i) = Value.int (if H.size = H.size then va_cpy (fun j => if a = mz σ then 0 else mi σ a j) _ 0 0 n i else _)
        rw [if_pos rfl]
        unfold va_cpy
        rw [if_pos ⟨Nat.zero_le _, by omega⟩]
        show _ = Value.int (if a = mz σ then 0 else mi σ a (0 + (i - 0)))
        rw [if_neg haz, show 0 + (i - 0) = i by omega]
      · have h9 := h3.2.2.2 b
        have et : mt (cpI (nw σ (54, n)) a 0 (mz σ) 0 n) b = mt σ b := if_neg hbz
        rw [et]
        by_cases hl : b < mz σ
        · refine atT_same h9 ⟨fun k => ?_, fun k => ?_, fun k => ?_, fun k => ?_⟩ (o1 b (by rw [hzz]; exact hl))
          · show (if b = mz σ then _ else if b = mz σ then 0 else mi σ b k) = mi σ b k
            rw [if_neg hbz, if_neg hbz]
          · exact if_neg hbz
          · exact if_neg hbz
          · exact if_neg hbz
        · unfold atT
          rw [if_pos (hk_free h3 (by omega))]
          trivial
  obtain ⟨t, b1, b2⟩ := kk p e s m args below meth c H1 locs ls C (by omega) h2 hHK h4 ((T.setVm vm').pushCell (vp_cell (gA G 4) (n, .inl (mi σ a)))) (by rw [← hH1, ← hT]; rfl) X'
  refine ⟨t, st t ?_, b2⟩
  rw [hcellE, hT, hzz]
  exact b1
theorem s_castB (gk : GOK G) {idx a n : Nat} (hd : decode M.2.1 pc = .ok (.checkcast idx, 3)) (w1 : Cond.classLink M.1.cls idx "[B" ∈ TBL) (ht : mt σ a = (54, n)) (kk : At G M rm uc us (pc + 3) L (vR (some a) :: S) σ K) : At G M rm uc us pc L (vR (some a) :: S) σ K := by
  intro p e s m args below meth c H locs ls C h1 h2 h3 h4
  obtain ⟨hx, hb, -, hml, hown, -, -, -, hW⟩ := id C
  have hts := tb_s gk (args := args) hW
  obtain ⟨hN0, hc0⟩ := hk_arr (j := 4) h3 (by decide) ht
  exact va_castE hx hb hown (hts _ w1) ⟨_, hc0, rfl, (gk_arr gk hW (j := 4) (by decide)).2⟩ hd (kk p e s m args below meth c H locs ls C h1 h2 h3 h4)
/-- a final whole number's first writing, in the constructor -/
theorem t_putIF (gk : GOK G) {idx ci k a : Nat} {r : Option Nat} {x : Int32} (hd : decode M.2.1 pc = .ok (.putfield idx, 3)) (hf : fOk M.1.cls idx ci k) (hfin : (clT ci k).2.2.2 = false ∨ ((clT ci k).2.2.2 = true ∧ M.1.name = "<init>" ∧ (clT ci k).1 = M.1.cls)) (hr : rfT (clY ci k) = false) (e : r = some a) (ht : (mt σ a).1 = ci + 1) (hn : narrow (clY ci k) (.int x) = .int x ∧ fits (clY ci k) (.int x) = true) (kk : ∀ σ', σ' = si σ a k x → mt σ' = mt σ → At G M rm uc us (pc + 3) L S σ' K) : At G M rm uc us pc L (vI x :: vR r :: S) σ K := by
  subst e
  exact s_put (σ' := si σ a k x) gk hd hf hfin ht hn.1 hn.2 rfl rfl (fun _ h => sm_si h) (fv_si hr) (kk _ rfl rfl)
end RWS3
