/-! ===== the law's method undone ===== -/
/-- the line's bytes are there -/
def LV (σ : Mm) (x : Nat) : Prop := ∃ v, mr σ (x + 786) 0 = some v ∧ v < mz σ
theorem LV.of {σ : Mm} {x b : Nat} {A : AS} (h : CIV σ x A b) (hk : ∀ q, mz σ ≤ q → (mt σ q).1 = 0) : LV σ x := by
  obtain ⟨-, -, -, -, -, -, -, -, -, -, v, cap, h5, h6, -⟩ := h
  refine ⟨v, h5, ?_⟩
  rcases Nat.lt_or_ge v (mz σ) with q | q
  · exact q
  · have := hk v q
    rw [h6] at this; cases this
theorem LV.fy {σ σ' : Mm} {x : Nat} (h : LV σ x) (hz : x + 788 ≤ mz σ) (hF : FY σ σ' x) : LV σ' x := by
  obtain ⟨v, e, hv⟩ := h
  exact ⟨v, by rw [(hF.1 (x + 786) (by omega) (Or.inr (Nat.le_refl _))).2]; exact e, Nat.lt_of_lt_of_le hv hF.2.2⟩
theorem CIV.qs {σ : Mm} {x b : Nat} {A : AS} (h : CIV σ x A b) (hb : b < 2 ^ 21) (hz : x + 788 ≤ mz σ) : ∃ n, QS σ x A b n := by
  obtain ⟨n, m, hP, -, -⟩ := h.pi
  exact ⟨n, h, hb, hP.1.2, hP.1.1, hz⟩
/-- between two calls of undone: dn states are kept in the row s of sums -/
def UI (σ : Mm) (x a L s : Nat) (A : AS) (b n dn : Nat) : Prop := QS σ x A b n ∧ (mt σ a = (99, L) ∧ a < x) ∧ (mt σ s = (51, 9) ∧ s < mz σ ∧ x + 786 ≤ s) ∧ (dn ≤ aj A ∧ aj A ≤ 8) ∧ LV σ x ∧ ∀ t, t < dn → ml σ s t = SUM (aW A (aj A - dn + t))
section UND
variable {G : GG} {σ : Mm} {K : RES → Mm → Prop} {x a L s b n dn : Nat} {A : AS}
theorem UI.sk (h : UI σ x a L s A b n dn) (j : Nat) : UI (sk σ j) x a L s A b n dn := ⟨h.1.sk j, h.2.1, ⟨h.2.2.1.1, Nat.lt_of_lt_of_le h.2.2.1.2.1 (Nat.le_add_right _ _), h.2.2.1.2.2⟩, h.2.2.2.1, h.2.2.2.2.1.fy h.1.2.2.2.2 (FY.sk j), h.2.2.2.2.2⟩
theorem CIV.j8 (h : CIV σ x A b) : aj A ≤ 8 := by
  obtain ⟨-, -, ⟨-, f, hj, -⟩, -⟩ := h
  exact hj
/-- a call that threw -/
theorem UI.bad (h : UI σ x a L s A b n dn) {σ' : Mm} {A' : AS} (hC : CIV σ' x A' b) (hO : OK1 A A') (hF : FY σ σ' x) : ∃ n', UI σ' x a L s A' b n' dn := by
  obtain ⟨hQ, ⟨h1, h2⟩, ⟨h3, h4, h5⟩, ⟨h6, h7⟩, h8, h9⟩ := h
  obtain ⟨n', hQ'⟩ := hC.qs hQ.2.1 (Nat.le_trans hQ.2.2.2.2 hF.2.2)
  have hz := hQ.2.2.2.2
  refine ⟨n', hQ', ⟨by rw [(hF.2.1 a (by omega)).2]; exact h1, h2⟩, ⟨by rw [(hF.2.1 s h4).2]; exact h3, Nat.lt_of_lt_of_le h4 hF.2.2, h5⟩, ⟨by rw [hO.2.2]; exact h6, by rw [hO.2.2]; exact h7⟩, h8.fy hz hF, fun t ht => ?_⟩
  rw [(hF.2.1 s h4).1, hO.2.1, hO.2.2]
  exact h9 t ht
/-- a call that is one step to be undone -/
theorem UI.good (h : UI σ x a L s A b n dn) (hs : ml σ s dn = SUM (aP A)) (hd : dn ≤ 7) (hb : b + 5400 < 2 ^ 21) {σ' : Mm} {A' : AS} (hC : CIV σ' x A' (b + 5400)) (hO : OK2 A A') (hF : FY σ σ' x) : ∃ n', UI σ' x a L s A' (b + 5400) n' (dn + 1) := by
  obtain ⟨hQ, ⟨h1, h2⟩, ⟨h3, h4, h5⟩, ⟨h6, h7⟩, h8, h9⟩ := h
  obtain ⟨n', hQ'⟩ := hC.qs hb (Nat.le_trans hQ.2.2.2.2 hF.2.2)
  have hz := hQ.2.2.2.2
  have hj : aj A' = pshN (aj A) := hO.2
  refine ⟨n', hQ', ⟨by rw [(hF.2.1 a (by omega)).2]; exact h1, h2⟩, ⟨by rw [(hF.2.1 s h4).2]; exact h3, Nat.lt_of_lt_of_le h4 hF.2.2, h5⟩, ?_, h8.fy hz hF, fun t ht => ?_⟩
  · rw [hj]
    unfold pshN
    split <;> omega
  · rw [(hF.2.1 s h4).1, hO.1, hj]
    unfold pshN pushW
    by_cases h8' : aj A = 8
    · rw [if_pos h8', if_pos h8']
      by_cases e : t = dn
      · subst e
        rw [show 8 - (t + 1) + t = 7 by omega]
        exact hs
      · have : ¬ 8 - (dn + 1) + t = 7 := by omega
        show _ = SUM (if 8 - (dn + 1) + t = 7 then _ else _)
        rw [if_neg this, h9 t (by omega), h8', show 8 - dn + t = 8 - (dn + 1) + t + 1 by omega]
    · rw [if_neg h8', if_neg h8']
      by_cases e : t = dn
      · subst e
        show _ = SUM (if aj A + 1 - (t + 1) + t = aj A then _ else _)
        rw [if_pos (by omega)]
        exact hs
      · show _ = SUM (if aj A + 1 - (dn + 1) + t = aj A then _ else _)
        rw [if_neg (by omega), h9 t (by omega), show aj A + 1 - (dn + 1) + t = aj A - dn + t by omega]
end UND
