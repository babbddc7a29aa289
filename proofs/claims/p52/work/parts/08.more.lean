/-! ===== throws, copies ===== -/
def cpI (σ : Mm) (a0 sp a dp n : Nat) : Mm := (fun b k => if b = a then va_cpy (mi σ a0) (mi σ a) sp dp n k else mi σ b k, mr σ, ml σ, md σ, mt σ, mz σ)
section RWX
variable {G : GG} {M : SIG} {rm : Room} {uc us pc : Nat} {L : List (Option VV)} {S : List VV} {σ : Mm} {K : RES → Mm → Prop}
theorem s_throw (gk : GOK G) (hst : STR G) {ik is ic : Nat} {cls text : String} {names : List String} (h : tOk M.1.cls ik is ic cls text names)
    (d0 : decode M.2.1 pc = .ok (.new ik, 3)) (d3 : decode M.2.1 (pc + 3) = .ok (.dup, 1)) (d4 : decode M.2.1 (pc + 4) = .ok (.ldc is, 2)) (d6 : decode M.2.1 (pc + 6) = .ok (.invokespecial ic, 3)) (d9 : decode M.2.1 (pc + 9) = .ok (.athrow, 1))
    (g1 : names.length + 3 < rm.frames) (g2 : 13 * (names.length + 1) + 43 ≤ rm.locals) (g3 : uc + 1 ≤ rm.cells) (g4 : us + 6 ≤ rm.slots) (hk : ∀ k, K (.inr cls) (sk σ k)) : At G M rm uc us pc L [] σ K := by
  intro p e s m args below meth c H locs ls C h1 h2 h3 h4
  obtain ⟨hx, hb, -, hml, hown, hlk, hex, ⟨-, hsz, hq0⟩, hW⟩ := id C
  have hts := tb_s gk (args := args) hW
  obtain ⟨sa, hsa⟩ := hst _ _ _ h.2.2.2.2.1
  have hS : va_S (fun q => (gs G).heap.size ≤ q) s.heap H locs := ⟨h1, fun q hq hA => by rw [h3.2.2.1 q (by omega), hq0 q (by omega)], h2⟩
  exact vx_throwS hx hb gk.1 hown h.1 h.2.1 (hts _ h.2.2.1) (hts _ h.2.2.2.1) (vk_R.warm hW hsa) (thr_at gk hW h) (thr_ot h) (A := fun q => (gs G).heap.size ≤ q) (H := H) (locs := locs) (zq_s hW gk.2.2.2.2.1 hq0) (zq_s hW gk.2.2.2.2.2 hq0) hS (by rw [hml]; exact h4.1) d0 d3 d4 d6 d9 (fun x hx => absurd hx (hex x)) g1 (by simpa using g2) g3 g4 hlk (fun t _ hz ho => ⟨sk σ (t.heap.size - H.size), hk _, hk_sk h3 hz ho, by omega⟩) h2 g3 g4
theorem s_throwW (gk : GOK G) (hst : STR G) {ik is ic : Nat} {cls text : String} {names : List String} (h : tOk M.1.cls ik is ic cls text names)
    (d0 : decode M.2.1 pc = .ok (.new ik, 3)) (d3 : decode M.2.1 (pc + 3) = .ok (.dup, 1)) (d4 : decode M.2.1 (pc + 4) = .ok (.ldc_w is, 3)) (d7 : decode M.2.1 (pc + 7) = .ok (.invokespecial ic, 3)) (d10 : decode M.2.1 (pc + 10) = .ok (.athrow, 1))
    (g1 : names.length + 3 < rm.frames) (g2 : 13 * (names.length + 1) + 43 ≤ rm.locals) (g3 : uc + 1 ≤ rm.cells) (g4 : us + 6 ≤ rm.slots) (hk : ∀ k, K (.inr cls) (sk σ k)) : At G M rm uc us pc L [] σ K := by
  intro p e s m args below meth c H locs ls C h1 h2 h3 h4
  obtain ⟨hx, hb, -, hml, hown, hlk, hex, ⟨-, hsz, hq0⟩, hW⟩ := id C
  have hts := tb_s gk (args := args) hW
  obtain ⟨sa, hsa⟩ := hst _ _ _ h.2.2.2.2.1
  have hS : va_S (fun q => (gs G).heap.size ≤ q) s.heap H locs := ⟨h1, fun q hq hA => by rw [h3.2.2.1 q (by omega), hq0 q (by omega)], h2⟩
  exact vx_throwSW hx hb gk.1 hown h.1 h.2.1 (hts _ h.2.2.1) (hts _ h.2.2.2.1) (vk_R.warm hW hsa) (thr_at gk hW h) (thr_ot h) (A := fun q => (gs G).heap.size ≤ q) (H := H) (locs := locs) (zq_s hW gk.2.2.2.2.1 hq0) (zq_s hW gk.2.2.2.2.2 hq0) hS (by rw [hml]; exact h4.1) d0 d3 d4 d7 d10 (fun x hx => absurd hx (hex x)) g1 (by simpa using g2) g3 g4 hlk (fun t _ hz ho => ⟨sk σ (t.heap.size - H.size), hk _, hk_sk h3 hz ho, by omega⟩) h2 g3 g4
theorem i_nn {z : Int32} (hz : ¬ z < 0) : z.toInt = (z.toNatClampNeg : Int) := by
  have hz0 : (0 : Int) ≤ z.toInt := by
    have := Int32.not_lt.mp hz
    simpa using Int32.le_iff_toInt_le.mp this
  show z.toInt = ((z.toInt.toNat : Nat) : Int)
  omega
/-- System.arraycopy of whole numbers, in one array too -/
theorem s_copy (gk : GOK G) {idx a0 a n0 n1 : Nat} {sp dp n : Int32} (hd : decode M.2.1 pc = .ok (.invokestatic idx, 3)) (w1 : Cond.methodLink M.1.cls idx arraycopyName ∈ TBL) (w2 : Cond.native arraycopyName ∈ TBL) (w3 : Cond.static arraycopyName ∈ TBL) (w4 : Cond.initialized "java/lang/System" ∈ TBL) (ht0 : mt σ a0 = (50, n0)) (ht1 : mt σ a = (50, n1))
    (q1 : ¬ sp < 0) (q2 : ¬ dp < 0) (q3 : ¬ n < 0) (q4 : sp.toNatClampNeg + n.toNatClampNeg ≤ n0) (q5 : dp.toNatClampNeg + n.toNatClampNeg ≤ n1) (hS : S = []) (hf : 1 ≤ rm.frames) (hlo : nativeFrameWords "java/lang/System" "arraycopy" 5 + 11 ≤ rm.locals) (kk : At G M rm uc us (pc + 3) L S (cpI σ a0 sp.toNatClampNeg a dp.toNatClampNeg n.toNatClampNeg) K) : At G M rm uc us pc L (vI n :: vI dp :: vR (some a) :: vI sp :: vR (some a0) :: S) σ K := by
  intro p e s m args below meth c H locs ls C h1 h2 h3 h4
  subst hS
  obtain ⟨hx, hb, -, hml, hown, hlk, hex, -, hW⟩ := id C
  have hts := tb_s gk (args := args) hW
  obtain ⟨hN0, hc0⟩ := hk_arr (j := 0) h3 (by decide) ht0
  obtain ⟨hN1, hc1⟩ := hk_arr (j := 0) h3 (by decide) ht1
  have hA := (gk_arr gk hW (j := 0) (by decide)).1
  obtain ⟨-, k0, hk0, cm0, hkk0⟩ := hA n0 (fun j => .int (mi σ a0 j))
  obtain ⟨-, k1, hk1, cm1, hkk1⟩ := hA n1 (fun j => .int (mi σ a j))
  have hc0 : H[a0]? = some (vp_cell (gA G 0) (n0, .inl (mi σ a0))) := hc0
  have hc1 : H[a]? = some (vp_cell (gA G 0) (n1, .inl (mi σ a))) := hc1
  intro T hT X
  obtain ⟨vm', X', step⟩ := X.arraycopy hx hown (hts _ w1) (hts _ w2) (hts _ w3) (hts _ w4) (src := a0) (dst := a) (cs := vp_cell (gA G 0) (n0, .inl (mi σ a0))) (cd := vp_cell (gA G 0) (n1, .inl (mi σ a))) (srcPos := sp) (destPos := dp) (n := n) (by rw [hT]; exact hc0) (by rw [hT]; exact hc1)
    (fun _ h => by cases h) (fun _ h => by cases h) (fun h => by cases h) (fun h => by cases h) hk0 hk1 hkk0 hkk1 (by simp [arT, refKind]) q1 q2 q3
    (by rw [i_nn q1, i_nn q3]; show ¬ _ > ((arrV (gA G 0) n0 (fun j => .int (mi σ a0 j))).slots.size : Int); rw [arrV_size]; omega)
    (by rw [i_nn q2, i_nn q3]; show ¬ _ > ((arrV (gA G 0) n1 (fun j => .int (mi σ a j))).slots.size : Int); rw [arrV_size]; omega)
    (fun vm₁ _ i hi => by
      have e : (vp_cell (gA G 0) (n0, .inl (mi σ a0))).slots.getD (sp.toNatClampNeg + i) .null = .int (mi σ a0 (sp.toNatClampNeg + i)) := by
        show (arrV (gA G 0) n0 (fun j => .int (mi σ a0 j))).slots.getD _ _ = _
        rw [Array.getD_eq_getD_getElem?, arrV_read _ _ (by omega)]
        rfl
      refine ⟨?_, ?_⟩
      · rw [e]; rfl
      · rw [e]
        exact trivial)
    (g := F0 m pc ls (.int n :: .int dp :: .ref a :: .int sp :: .ref a0 :: [])) rfl (by rw [hml]; exact h4.1) (rest := []) rfl (by rw [hb]; exact hd) hf (by show 2 * 0 + 0 + _ ≤ _; omega)
  have e1 : copied (vp_cell (gA G 0) (n0, .inl (mi σ a0))) (vp_cell (gA G 0) (n1, .inl (mi σ a))) sp dp n = vp_cell (gA G 0) (n1, .inl (va_cpy (mi σ a0) (mi σ a) sp.toNatClampNeg dp.toNatClampNeg n.toNatClampNeg)) := va_copied (fun z => .int z) (gA G 0) (gA G 0) (mi σ a0) (mi σ a) q4
  rw [e1] at X' step
  have hl : a < H.size := (Array.getElem?_eq_some_iff.mp hc1).1
  have hheap : ((T.setVm vm').setCell a (vp_cell (gA G 0) (n1, .inl (va_cpy (mi σ a0) (mi σ a) sp.toNatClampNeg dp.toNatClampNeg n.toNatClampNeg)))).heap = H.setIfInBounds a (vp_cell (gA G 0) (n1, .inl (va_cpy (mi σ a0) (mi σ a) sp.toNatClampNeg dp.toNatClampNeg n.toNatClampNeg))) := by rw [← hT]; rfl
  have oq : ∀ q : Nat, q ≠ a → (H.setIfInBounds a (vp_cell (gA G 0) (n1, .inl (va_cpy (mi σ a0) (mi σ a) sp.toNatClampNeg dp.toNatClampNeg n.toNatClampNeg))))[q]? = H[q]? := fun q hq => by simp [Array.getElem?_setIfInBounds, Ne.symm hq]
  have hHK : HK G (cpI σ a0 sp.toNatClampNeg a dp.toNatClampNeg n.toNatClampNeg) (H.setIfInBounds a (vp_cell (gA G 0) (n1, .inl (va_cpy (mi σ a0) (mi σ a) sp.toNatClampNeg dp.toNatClampNeg n.toNatClampNeg)))) := by
    refine hk_put (a := a) h3 hN1 rfl rfl (fun b hb => ⟨fun k => if_neg hb, fun _ => rfl, fun _ => rfl, fun _ => rfl⟩) (by simp) oq ?_
    rw [ht1]
    refine (atT_arr (j := 0) (by decide)).mpr ⟨hN1, ?_⟩
    have h9 : (H.setIfInBounds a (vp_cell (gA G 0) (n1, .inl (va_cpy (mi σ a0) (mi σ a) sp.toNatClampNeg dp.toNatClampNeg n.toNatClampNeg))))[a]? = some (vp_cell (gA G 0) (n1, .inl (va_cpy (mi σ a0) (mi σ a) sp.toNatClampNeg dp.toNatClampNeg n.toNatClampNeg))) := by simp [Array.getElem?_setIfInBounds, hl]
    rw [h9]
    rw [vp_cell_i]
    congr 2
    funext i
    show Value.int _ = Value.int (if a = a then _ else _)
    rw [if_pos rfl]
  obtain ⟨t, a1, b1⟩ := kk p e s m args below meth c _ _ ls C (by simp; exact h1) (fun q hq => by
      rcases List.mem_append.mp hq with h | h
      · exact h2 q h
      · obtain ⟨z, -, hz⟩ := List.mem_map.mp h
        rw [← hz]
        exact hN1) hHK h4 _ hheap X'
  exact ⟨t, step t a1, b1⟩
end RWX
