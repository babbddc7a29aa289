/-! ===== the model reads a command ===== -/
def iV (n : Nat) (T : Nat → Int32) (p : Nat) (i : It) : Int32 := if i.1 = 3 then nv n T p else if i.1 = 2 then T p - 48 else T p
def vls (n : Nat) (T : Nat → Int32) : List It → Nat → List Int32
  | [], _ => []
  | i :: l, p => (if i.1 = 0 then [] else [iV n T p i]) ++ vls n T l (p + iW n T p i)
def FrM (σ σ' : Mm) (a m : Nat) : Prop := (∀ q, q ≠ a → q ≠ a + 7 → ∀ k, mi σ' q k = mi σ q k) ∧ (∀ k, k ≠ 11 → k ≠ 12 → k ≠ 16 → mi σ' a k = mi σ a k) ∧ (∀ k, k < 4 * m → mi σ' (a + 7) k = mi σ (a + 7) k) ∧ mr σ' = mr σ ∧ ml σ' = ml σ ∧ md σ' = md σ ∧ mt σ' = mt σ ∧ mz σ' = mz σ
section TXN
variable {G : GG} {σ0 σ σ' σs : Mm} {K : RES → Mm → Prop} {a n p m : Nat} {T f : Nat → Int32} {ok : Bool}
theorem vls_app (l l2 : List It) : ∀ p, (run n T l p).2 = true → vls n T (l ++ l2) p = vls n T l p ++ vls n T l2 (run n T l p).1 := by
  induction l with
  | nil => intro p _; rfl
  | cons i l ih =>
    intro p h
    have q : iOk n T p i = true := Classical.byContradiction fun q => by
      rw [run_cons, if_neg q] at h; cases h
    rw [run_cons, if_pos q] at h ⊢
    show (if i.1 = 0 then [] else [iV n T p i]) ++ vls n T (l ++ l2) _ = ((if i.1 = 0 then [] else [iV n T p i]) ++ vls n T l _) ++ _
    rw [ih _ h, List.append_assoc]
theorem vls_sg (kw : List Int32) : ∀ p, vls n T (kw.map iSg) p = [] := by
  induction kw with
  | nil => intro p; rfl
  | cons b l ih => intro p; exact ih _
theorem FrM.refl : FrM σ σ a m := ⟨fun _ _ _ _ => rfl, fun _ _ _ _ => rfl, fun _ _ => rfl, rfl, rfl, rfl, rfl, rfl⟩
theorem FrM.trans {σ'' : Mm} (h : FrM σ σ' a m) (h' : FrM σ' σ'' a m) : FrM σ σ'' a m := by
  obtain ⟨a1, a2, a3, a4, a5, a6, a7, a8⟩ := h
  obtain ⟨b1, b2, b3, b4, b5, b6, b7, b8⟩ := h'
  exact ⟨fun q h1 h2 k => (b1 q h1 h2 k).trans (a1 q h1 h2 k), fun k h1 h2 h3 => (b2 k h1 h2 h3).trans (a2 k h1 h2 h3), fun k h1 => (b3 k h1).trans (a3 k h1), b4.trans a4, b5.trans a5, b6.trans a6, b7.trans a7, b8.trans a8⟩
theorem MX.fr (h : MX σ0 σ a n T p ok) : FrM σ0 σ a m := by
  obtain ⟨-, -, -, -, -, -, h7, h8⟩ := h
  exact ⟨fun q h1 _ k => h7 q k fun z => h1 z.1, fun k h1 h2 _ => h7 a k fun z => by rcases z.2 with e | e <;> omega, fun k _ => h7 _ k fun z => by have := z.1; omega, h8⟩
theorem MX.base (h : MX σ0 σ a n T p ok) : MX σ σ a n T p ok := ⟨h.1, h.2.1, h.2.2.1, h.2.2.2.1, h.2.2.2.2.1, h.2.2.2.2.2.1, fun _ _ _ => rfl, rfl, rfl, rfl, rfl, rfl⟩
theorem MX.put {i : Nat} {z : Int32} (h : MX σ0 σ a n T p ok) : MX (si σ (a + 7) i z) (si σ (a + 7) i z) a n T p ok := by
  obtain ⟨h1, h2, h3, h4, h5, h6, h7, h8⟩ := h
  exact ⟨h1.mv rfl rfl, (u2_a (by omega)).trans h2, h3, fun j hj => ⟨(u2_a (by omega)).trans (h4 j hj).1, (h4 j hj).2⟩, ⟨(u2_a (by omega)).trans h5.1, h5.2⟩, (u2_a (by omega)).trans h6, fun _ _ _ => rfl, rfl, rfl, rfl, rfl, rfl⟩
theorem MX.set16 {z : Int32} (h : MX σ0 σ a n T p ok) : MX (si σ a 16 z) (si σ a 16 z) a n T p ok := by
  obtain ⟨h1, h2, h3, h4, h5, h6, h7, h8⟩ := h
  exact ⟨h1.mv rfl rfl, (u2_k (by decide)).trans h2, h3, fun j hj => ⟨(u2_a (by omega)).trans (h4 j hj).1, (h4 j hj).2⟩, ⟨(u2_k (by decide)).trans h5.1, h5.2⟩, (u2_k (by decide)).trans h6, fun _ _ _ => rfl, rfl, rfl, rfl, rfl, rfl⟩
/-- in the midst of command m, that began at p in σs: l is read, c stands in its row -/
def AQ (σs σ : Mm) (a n : Nat) (T : Nat → Int32) (p m : Nat) (cd : Int32) (l : List It) (c : List Int32) : Prop := MX σ σ a n T (mrun n T l p true).1 (mrun n T l p true).2 ∧ FrM σs σ a m ∧ mi σ a 16 = nI (m + 1) ∧ m < 59 ∧ (∀ i, i < c.length → mi σ (a + 7) (4 * m + i) = c.getD i 0) ∧ ((mrun n T l p true).2 = true → c = cd :: vls n T l p)
/-- and a value more is read -/
def AR (σs σ : Mm) (a n : Nat) (T : Nat → Int32) (p m : Nat) (cd : Int32) (l : List It) (c : List Int32) (z : Int32) : Prop := MX σ σ a n T (mrun n T l p true).1 (mrun n T l p true).2 ∧ FrM σs σ a m ∧ mi σ a 16 = nI (m + 1) ∧ m < 59 ∧ (∀ i, i < c.length → mi σ (a + 7) (4 * m + i) = c.getD i 0) ∧ ((mrun n T l p true).2 = true → c ++ [z] = cd :: vls n T l p)
theorem AQ.read {M : SIG} {rm : Room} {as : List VV} {l l2 : List It} {c : List Int32} {cd : Int32} {val : Nat → (Nat → Int32) → Nat → Int32} (hR : RdM G M rm as a l2 val) (hv : ∀ q, vls n T l2 q = [val n T (q + 1)]) (h : AQ σs σ a n T p m cd l c) (hk : ∀ σ' z, AR σs σ' a n T p m cd (l ++ l2) c z → K (.inl (some (vI z))) σ') : Runs G M rm as σ K := by
  obtain ⟨h1, h2, h3, hm, h4, h5⟩ := h
  refine hR h1 fun σ' z h' hz => hk σ' z ?_
  have h7 := h'.2.2.2.2.2.2.1
  have hF : FrM σ σ' a m := h'.fr
  have em : mrun n T (l ++ l2) p true = mrun n T l2 (mrun n T l p true).1 (mrun n T l p true).2 := mrun_app
  refine ⟨by rw [em]; exact h'.base, h2.trans hF, ?_, hm, fun i hi => ?_, fun hok => ?_⟩
  · rw [h7 a 16 (by omega), h3]
  · rw [h7 (a + 7) _ (by omega)]; exact h4 i hi
  · rw [em] at hok
    have hl : (mrun n T l p true).2 = true := Classical.byContradiction fun q => by
      have q' : (mrun n T l p true).2 = false := by simpa using q
      rw [q'] at hok; cases hok
    rw [h5 hl, hz hok]
    rw [mrun_t] at hl ⊢
    rw [vls_app l l2 p hl, hv]
    rfl
theorem gd_l {c : List Int32} {z : Int32} {i : Nat} (h : i < c.length) : (c ++ [z]).getD i 0 = c.getD i 0 := by
  rw [List.getD_eq_getElem?_getD, List.getElem?_append_left h, ← List.getD_eq_getElem?_getD]
theorem gd_r {c : List Int32} {z : Int32} : (c ++ [z]).getD c.length 0 = z := by
  rw [List.getD_eq_getElem?_getD, List.getElem?_append_right (Nat.le_refl _)]
  simp
theorem AR.put {l : List It} {c : List Int32} {cd z : Int32} (h : AR σs σ a n T p m cd l c z) : AQ σs (si σ (a + 7) (4 * m + c.length) z) a n T p m cd l (c ++ [z]) := by
  obtain ⟨h1, h2, h3, hm, h4, h5⟩ := h
  refine ⟨h1.put, h2.trans ⟨fun q hq hq7 k => u2_a hq7, fun k _ _ _ => u2_a (by omega), fun k hk => u2_k (by omega), rfl, rfl, rfl, rfl, rfl⟩, (u2_a (by omega)).trans h3, hm, fun i hi => ?_, h5⟩
  rw [List.length_append, List.length_singleton] at hi
  by_cases e : i = c.length
  · subst e
    rw [gd_r]
    exact u2_s
  · rw [gd_l (by omega)]
    exact (u2_k (by omega)).trans (h4 i (by omega))
theorem AR.ty {l : List It} {c : List Int32} {cd z : Int32} (h : AR σs σ a n T p m cd l c z) : (mt σ a).1 = 10 := h.1.ty
theorem AQ.ty {l : List It} {c : List Int32} {cd : Int32} (h : AQ σs σ a n T p m cd l c) : (mt σ a).1 = 10 := h.1.ty
theorem AQ.r15 {l : List It} {c : List Int32} {cd : Int32} (h : AQ σs σ a n T p m cd l c) : mr σ a 15 = some (a + 7) := h.1.1.r15
/-- the store of a value: what each of the program's places asks -/
theorem AR.store {l : List It} {c : List Int32} {cd z : Int32} {i : Nat} {P : Mm → Prop} (h : AR σs σ a n T p m cd l c z) (hi : c.length = i) (hi4 : i < 4) (hP : ∀ σ5, AQ σs σ5 a n T p m cd l (c ++ [z]) → P σ5) : ∃ a1, some (a + 7) = some a1 ∧ ∃ n3, mt σ a1 = (50, n3) ∧ vp_in (nI (4 * m + i)) n3 ∧ ∀ σ5, σ5 = si σ a1 (nI (4 * m + i)).toNatClampNeg z → P σ5 := by
  refine ⟨_, rfl, 240, h.1.1.t15, nI_in (by have := h.2.2.2.1; omega) (by decide), fun σ5 s5 => hP σ5 ?_⟩
  rw [nI_clamp (by have := h.2.2.2.1; omega), ← hi] at s5
  rw [s5]
  exact h.put
/-- what is known behind a command -/
def EQ (σs σ : Mm) (a n : Nat) (T : Nat → Int32) (p m : Nat) : Prop := MX σ σ a n T (run n T (fu (kd n T p)) p).1 (run n T (fu (kd n T p)) p).2 ∧ FrM σs σ a m ∧ mi σ a 16 = nI (m + 1) ∧ ((run n T (fu (kd n T p)) p).2 = true → ∃ cd c, cd = (if kd n T p = 8 then 112 else [106, 115, 100, 102, 104, 119, 108, 122].getD (kd n T p) 0) ∧ c = vls n T (fu (kd n T p)) p ∧ mi σ (a + 7) (4 * m) = cd ∧ ∀ i, i < c.length → mi σ (a + 7) (4 * m + 1 + i) = c.getD i 0)
theorem AQ.fin {l : List It} {c : List Int32} {cd : Int32} (h : AQ σs σ a n T p m cd l c) (hl : l = fu (kd n T p)) (hcd : cd = (if kd n T p = 8 then 112 else [106, 115, 100, 102, 104, 119, 108, 122].getD (kd n T p) 0)) : EQ σs σ a n T p m := by
  obtain ⟨h1, h2, h3, hm, h4, h5⟩ := h
  rw [mrun_t, hl] at h1 h5
  refine ⟨h1, h2, h3, fun hok => ⟨cd, _, hcd, rfl, ?_, fun i hi => ?_⟩⟩
  · have := h4 0 (by rw [h5 hok]; simp)
    rw [h5 hok] at this
    exact this
  · have := h4 (i + 1) (by rw [h5 hok]; simpa using hi)
    rw [h5 hok] at this
    rw [show 4 * m + 1 + i = 4 * m + (i + 1) by omega, this]
    rfl
/-- a command that can't begin -/
theorem AQ.bad {l : List It} {c : List Int32} {cd : Int32} (h : AQ σs σ a n T p m cd ([112, 97, 115, 115].map iSg ++ l) c) (hk : kd n T p = 8) (hp : ¬ isAt n T p 112) : EQ σs σ a n T p m := by
  have e : ∀ l2, run n T ([112, 97, 115, 115].map iSg ++ l2) p = (p, false) := fun l2 => by
    show run n T (iSg 112 :: _) p = _
    have q : ¬ iOk n T p (iSg 112) = true := fun z => hp (of_decide_eq_true z)
    rw [run_cons, if_neg q]
  have e8 : run n T (fu (kd n T p)) p = (p, false) := by rw [hk]; exact e _
  obtain ⟨h1, h2, h3, hm, h4, h5⟩ := h
  rw [mrun_t, e] at h1
  refine ⟨by rw [e8]; exact h1, h2, h3, fun hok => ?_⟩
  rw [e8] at hok
  cases hok
theorem v_di (q : Nat) : vls n T [iSg 32, iDi] q = [T (q + 1) - 48] := rfl
theorem v_nu (q : Nat) : vls n T [iSg 32, iNu] q = [nv n T (q + 1)] := rfl
theorem v_le (q : Nat) : vls n T [iSg 32, iLe] q = [T (q + 1)] := rfl
theorem v_po (q : Nat) : vls n T [iSg 32, iPo] q = [T (q + 1)] := rfl
theorem four_m : (4 : Int32) * nI m = nI (4 * m) := by rw [show (4 : Int32) = nI 4 from rfl, pk_mul]
theorem t_add (i : Nat) : nI (4 * m) + nI i = nI (4 * m + i) := nI_add _ _
section LBL
variable {cd x1 : Int32} {l : List It}
end LBL
theorem AQ.start {wd : Int32} (h : MX σ σ a n T p true) (hm : m < 59) (h16 : mi σ a 16 = nI m) : AQ σ (si (si σ a 16 (nI (m + 1))) (a + 7) (4 * m) wd) a n T p m wd [] [wd] := by
  refine ⟨h.set16.put, ⟨fun q h1 h2 k => (u2_a h2).trans (u2_a h1), fun k h1 h2 h3 => (u2_a (by omega)).trans (u2_k h3), fun k hk => (u2_k (by omega)).trans (u2_a (by omega)), rfl, rfl, rfl, rfl, rfl⟩, (u2_a (by omega)).trans u2_s, hm, fun i hi => ?_, fun _ => rfl⟩
  obtain rfl : i = 0 := by simpa using hi
  exact u2_s
end TXN
