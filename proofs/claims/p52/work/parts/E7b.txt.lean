/-! ===== a text in the making ===== -/
theorem Fr2.refl {σ : Mm} : Fr2 σ σ := ⟨fun _ _ => ⟨rfl, rfl, rfl, rfl, rfl⟩, Nat.le_refl _⟩
theorem Fr2.trans {σ σ' σ'' : Mm} (h : Fr2 σ σ') (h' : Fr2 σ' σ'') : Fr2 σ σ'' := by
  have hz := h.2
  refine ⟨fun q hq => ?_, Nat.le_trans h.2 h'.2⟩
  obtain ⟨a1, a2, a3, a4, a5⟩ := h.1 q hq
  obtain ⟨b1, b2, b3, b4, b5⟩ := h'.1 q (by omega)
  exact ⟨b1.trans a1, b2.trans a2, b3.trans a3, b4.trans a4, b5.trans a5⟩
theorem Fr2.sk {σ : Mm} (j : Nat) : Fr2 σ (sk σ j) := ⟨fun _ _ => ⟨rfl, rfl, rfl, rfl, rfl⟩, Nat.le_add_right _ _⟩
theorem Fr2.nw {σ : Mm} (t : Nat × Nat) : Fr2 σ (nw σ t) := by
  refine ⟨fun q hq => ⟨?_, ?_, ?_, ?_, if_neg (by omega)⟩, Nat.le_succ _⟩ <;> (funext k; exact if_neg (by omega))
theorem Fr2.fy {σ σ' : Mm} {x : Nat} (h : Fr2 σ σ') : FY σ σ' x := ⟨fun q h1 _ => ⟨(h.1 q h1).1, (h.1 q h1).2.1⟩, fun q h1 => ⟨(h.1 q h1).2.2.1, (h.1 q h1).2.2.2.2⟩, h.2⟩
theorem FrL.fr2 {σ0 σ σ' : Mm} {b v : Nat} (h0 : Fr2 σ0 σ) (h : FrL σ σ' b v) (hb : mz σ0 ≤ b) (hv : mz σ0 ≤ v) : Fr2 σ0 σ' := by
  have hz := h0.2
  refine ⟨fun q hq => ?_, Nat.le_trans h0.2 h.2.2⟩
  obtain ⟨a1, a2, a3, a4, a5⟩ := h0.1 q hq
  obtain ⟨b1, b2, b3, b4⟩ := h.1 q (by omega) (by omega) (by omega)
  exact ⟨b1.trans a1, b2.trans a2, b3.trans a3, b4.trans a4, (h.2.1 q (by omega)).trans a5⟩
/-- cells of the class's object may be moved so -/
theorem QS.fr {σ σ' : Mm} {x b n : Nat} {A : AS} (h : QS σ x A b n) (hl : ∃ v, mr σ (x + 786) 0 = some v ∧ v < mz σ) (hF : Fr2 σ σ') : QS σ' x A b n := by
  obtain ⟨h1, h2, h3, h4, h5⟩ := h
  refine ⟨?_, h2, h3, h4, Nat.le_trans h5 hF.2⟩
  obtain ⟨v, ev, hv⟩ := hl
  obtain ⟨c1, c2, c3, c4, c5, c6, c7⟩ := h1
  have e : ∀ q, q < x + 788 → mi σ' q = mi σ q ∧ mr σ' q = mr σ q ∧ mt σ' q = mt σ q := fun q hq => by
    obtain ⟨a1, a2, -, -, a5⟩ := hF.1 q (by omega)
    exact ⟨a1, a2, a5⟩
  obtain ⟨x1, x2, x3⟩ := e x (by omega)
  obtain ⟨y1, y2, y3⟩ := e (x + 786) (by omega)
  obtain ⟨l1, l2, l3, l4, v', cap, l5, l6, l7, l8, l9, l10⟩ := c7
  cases ev.symm.trans l5
  obtain ⟨w1, w2, -, -, w5⟩ := hF.1 v hv
  exact ⟨c1.loc x2 x3, c2.loc fun q q1 q2 => e q (by omega), c3.loc fun q q1 q2 => e q (by omega), c4.loc (by rw [x1]) fun q q1 q2 => e q (by omega), by rw [x1]; exact c5, c6.loc fun q q1 q2 => e q (by omega), by rw [y3]; exact l1, by rw [y1]; exact l2, by rw [y1]; exact l3, l4, v, cap, by rw [y2]; exact l5, by rw [w5]; exact l6, l7, l8, fun i hi => by rw [w1]; exact l9 i hi, fun i hi => by rw [w1]; exact l10 i hi⟩
/-- the builder at b, made since σ0, holds the n letters t -/
def TB (σ0 σ : Mm) (b n : Nat) (t : Nat → Int32) : Prop := ∃ v m, SBL σ b v m n t ∧ Fr2 σ0 σ ∧ mz σ0 ≤ b ∧ mz σ0 ≤ v
section TXB
variable {G : GG} {σ0 σ : Mm} {K : RES → Mm → Prop} {b n : Nat} {t : Nat → Int32}
theorem TB.ty (h : TB σ0 σ b n t) : (mt σ b).1 = 11 := by
  obtain ⟨v, m, hS, -⟩ := h
  exact hS.1
theorem TB.init (gk : GOK G) (sok : SOK G) (h0 : Fr2 σ0 σ) (hk : ∀ σ', TB σ0 σ' (mz σ) 0 zf → K (.inl none) σ') : Runs G mJ4_init_da8c8 rJ4_init_da8c8 [vR (some (mz σ))] (nw σ (11, 0)) K := by
  have e1 : mt (nw σ (11, 0)) (mz σ) = (11, 0) := if_pos rfl
  refine kJ4_init gk sok (by rw [e1]) (Nat.lt_succ_self _) fun σ' s => hk σ' ?_
  have hz : mz (nw σ (11, 0)) = mz σ + 1 := rfl
  have ez : mz σ' = mz σ + 2 := by rw [s]; rfl
  have hF : Fr2 σ σ' := by
    refine ⟨fun q hq => ⟨?_, ?_, ?_, ?_, ?_⟩, by omega⟩
    · rw [s]
      funext k
      show u2 (fun q j => if q = mz σ + 1 then 0 else (if q = mz σ then 0 else mi σ q j)) (mz σ) 1 0 q k = _
      rw [u2_a (by omega), if_neg (by omega), if_neg (by omega)]
    · rw [s]
      funext k
      show u2 (fun q j => if q = mz σ + 1 then none else (if q = mz σ then none else mr σ q j)) (mz σ) 0 _ q k = _
      rw [u2_a (by omega), if_neg (by omega), if_neg (by omega)]
    · rw [s]
      funext k
      show (if q = mz σ + 1 then 0 else (if q = mz σ then 0 else ml σ q k)) = _
      rw [if_neg (by omega), if_neg (by omega)]
    · rw [s]
      funext k
      show (if q = mz σ + 1 then 0 else (if q = mz σ then 0 else md σ q k)) = _
      rw [if_neg (by omega), if_neg (by omega)]
    · rw [s]
      show (if q = mz σ + 1 then _ else (if q = mz σ then _ else mt σ q)) = _
      rw [if_neg (by omega), if_neg (by omega)]
  refine ⟨mz σ + 1, 16, ⟨?_, ?_, ?_, ?_, ?_, Nat.zero_le _, by decide, ⟨by omega, by omega⟩, fun i hi => absurd hi (Nat.not_lt_zero _), fun i hi => ?_⟩, h0.trans hF, h0.2, by have := h0.2; omega⟩
  · rw [s]
    show (if mz σ = mz σ + 1 then _ else (if mz σ = mz σ then (11, 0) else _)).1 = 11
    rw [if_neg (by omega), if_pos rfl]
  · rw [s]; exact u2_s
  · rw [s]
    show u2 (fun q j => if q = mz σ + 1 then 0 else (if q = mz σ then 0 else mi σ q j)) (mz σ) 1 0 (mz σ) 3 = nI 0
    rw [u2_k (by decide), if_neg (by omega), if_pos rfl]
    rfl
  · rw [s]; exact u2_s
  · rw [s]
    show (if mz σ + 1 = mz σ + 1 then _ else _) = _
    rw [if_pos rfl]
  · rw [s]
    show 0 ≤ (u2 (fun q j => if q = mz σ + 1 then 0 else (if q = mz σ then 0 else mi σ q j)) (mz σ) 1 0 (mz σ + 1) i).toInt ∧ (u2 (fun q j => if q = mz σ + 1 then 0 else (if q = mz σ then 0 else mi σ q j)) (mz σ) 1 0 (mz σ + 1) i).toInt < 128
    rw [u2_a (by omega), if_pos rfl]
    decide
/-- letters of a text constant -/
def LB7 (bs : List Int32) : Prop := LT7 bs.length (fun j => bs.getD j 0)
theorem TB.appendK (gk : GOK G) (sok : SOK G) (h : TB σ0 σ b n t) {q : Nat} {bs : List Int32} (hq : SCT G q bs) (hb : LB7 bs) (hn : n + bs.length ≤ 60) (hk : ∀ σ', TB σ0 σ' b (n + bs.length) (apT t n bs.length fun j => bs.getD j 0) → K (.inl (some (vR (some b)))) σ') : Runs G mJ4_append_15ec4 rJ4_append_15ec4_b [vR (some b), vR (some q)] σ K := by
  obtain ⟨v, m, hS, hF, h1, h2⟩ := h
  refine kJ4_appendS gk sok hS hn ⟨hb, by omega, Or.inl hq⟩ fun σ' v' m' a1 a2 a3 => hk σ' ⟨v', m', a1, a3.fr2 hF h1 h2, h1, ?_⟩
  have := hF.2
  omega
theorem MSt.fr2 {σ' : Mm} {q v n : Nat} {f : Nat → Int32} (h : MSt σ q v n f) (hF : Fr2 σ σ') : MSt σ' q v n f := by
  obtain ⟨h1, h2, h3, h4, ⟨h5, h5'⟩, h6⟩ := h
  obtain ⟨a1, a2, -, -, a5⟩ := hF.1 q h5
  obtain ⟨b1, b2, -, -, b5⟩ := hF.1 v h5'
  exact ⟨by rw [a5]; exact h1, by rw [a2]; exact h2, by rw [a1]; exact h3, by rw [b5]; exact h4, ⟨Nat.lt_of_lt_of_le h5 hF.2, Nat.lt_of_lt_of_le h5' hF.2⟩, fun j hj => by rw [b1]; exact h6 j hj⟩
theorem TB.appendM (gk : GOK G) (sok : SOK G) (h : TB σ0 σ b n t) {q v1 k : Nat} {f : Nat → Int32} (hq : MSt σ0 q v1 k f) (hb : LT7 k f) (hn : n + k ≤ 60) (hk : ∀ σ', TB σ0 σ' b (n + k) (apT t n k f) → K (.inl (some (vR (some b)))) σ') : Runs G mJ4_append_15ec4 rJ4_append_15ec4_b [vR (some b), vR (some q)] σ K := by
  obtain ⟨v, m, hS, hF, h1, h2⟩ := h
  have hv1 := hq.2.2.2.2.1.2
  refine kJ4_appendS gk sok hS hn ⟨hb, by omega, Or.inr ⟨v1, by omega, hq.fr2 hF⟩⟩ fun σ' v' m' a1 a2 a3 => hk σ' ⟨v', m', a1, a3.fr2 hF h1 h2, h1, ?_⟩
  have := hF.2
  omega
theorem TB.appendC (gk : GOK G) (sok : SOK G) (h : TB σ0 σ b n t) {c : Int32} (h0 : 0 ≤ c.toInt) (h1 : c.toInt < 128) (hn : n < 60) (hk : ∀ σ', TB σ0 σ' b (n + 1) (upd t n c) → K (.inl (some (vR (some b)))) σ') : Runs G mJ4_append_cf468 rJ4_append_cf468 [vR (some b), vI c] σ K := by
  obtain ⟨v, m, hS, hF, e1, e2⟩ := h
  refine kJ4_appendC gk sok hS hn h0 h1 fun σ' v' m' a1 a2 a3 => hk σ' ⟨v', m', a1, a3.fr2 hF e1 e2, e1, ?_⟩
  have := hF.2
  omega
theorem TB.appendI (gk : GOK G) (sok : SOK G) (h : TB σ0 σ b n t) {k : Nat} (h9 : k ≤ 99) (hn : n < 59) (hk : ∀ σ', TB σ0 σ' b (n + dgN k) (dgT t n k) → K (.inl (some (vR (some b)))) σ') : Runs G mJ4_append_bf812 rJ4_append_bf812 [vR (some b), vI (nI k)] σ K := by
  obtain ⟨v, m, hS, hF, e1, e2⟩ := h
  refine kJ4_appendI gk sok hS hn h9 fun σ' v' m' a1 a2 a3 => hk σ' ⟨v', m', a1, a3.fr2 hF e1 e2, e1, ?_⟩
  have := hF.2
  omega
theorem TB.toS (gk : GOK G) (sok : SOK G) (h : TB σ0 σ b n t) (hk : ∀ σ' q v, MSt σ' q v n t → LT7 n t → Fr2 σ0 σ' → mz σ0 ≤ q → mz σ0 ≤ v → K (.inl (some (vR (some q)))) σ') : Runs G mJ4_toString_0e30d rJ4_toString_0e30d_b [vR (some b)] σ K := by
  obtain ⟨v, m, hS, hF, e1, e2⟩ := h
  have := hF.2
  exact kJ4_toString gk sok hS fun σ' a1 a2 => hk σ' _ _ a1 (fun j hj => (hS.2.2.2.2.2.2.2.2.1 j hj).2) (hF.trans a2) (by omega) (by omega)
end TXB
