/-! ===== the model: time ===== -/
theorem fx3_o {P : Nat → Int32} {k l j : Nat} (h3 : j ≠ 3) (h : ∀ i, i < 7 → j ≠ eX k l + i) : fx3 P k l j = P j := by
  unfold fx3 fx2
  rw [pk_un h3, pk_un (h 6 (by omega)), pk_un (h 5 (by omega)), pk_un (h 4 (by omega)), pk_un (h 3 (by omega)), pk_un (h 2 (by omega)), pk_un (h 1 (by omega)), pk_un (show j ≠ eX k l from h 0 (by omega))]
theorem fx1_o {P : Nat → Int32} {k l j : Nat} (hl : l < 26) (h : ∀ m, m < 26 → j ≠ eX k m) : fx1 P k l j = P j := by
  unfold fx1
  split
  · cases hv : vcN (upd P (eX k l) 0) k 26 with
    | none => rfl
    | some v =>
      have := (vcN_lt hv).1
      show upd (upd P (eX k l) 0) (eX k v) 0 j = P j
      rw [pk_un (h v this), pk_un (h l hl)]
  · exact pk_un (h l hl)
theorem ftP_o {P : Nat → Int32} {k l j : Nat} (hl : l < 26) (h3 : j ≠ 3) (h : ∀ m, m < 26 → ∀ i, i < 7 → j ≠ eX k m + i) : ftP P k l j = P j := by
  unfold ftP
  rw [fx3_o h3 (h l hl), fx1_o hl (fun m hm => h m hm 0 (by omega))]
theorem eX_off {k l i j : Nat} (h : j < 91 + 187 * k ∨ 273 + 187 * k ≤ j) (hl : l < 26) (hi : i < 7) : j ≠ eX k l + i := by unfold eX; omega
theorem eX_cap {k l i k' w : Nat} (hl : l < 26) (hi : i < 7) (hw : w < 5) : 86 + 187 * k' + w ≠ eX k l + i := by
  unfold eX
  rcases Nat.lt_trichotomy k k' with h | h | h <;> omega
theorem ftP_cap {P : Nat → Int32} {k l k' w : Nat} (hl : l < 26) (hw : w < 5) : ftP P k l (86 + 187 * k' + w) = P (86 + 187 * k' + w) := ftP_o hl (by omega) fun m hm i hi => eX_cap hm hi hw
def WOK (Q : Nat → Int32) (n : Nat) : Prop := n ≤ 8 ∧ Q 1 = nI n ∧ ∀ i, i < n → ∃ k l : Nat, k < 4 ∧ l < 26 ∧ Q (834 + 3 * i + 1) = nI k ∧ Q (834 + 3 * i + 2) = nI (97 + l) ∧ Q (86 + 187 * k) ≠ 0
theorem cwP_lo {P : Nat → Int32} {i n j : Nat} (h1 : j ≠ 1) (h : j < 834 + 3 * i) : cwP P i n j = P j := (pk_cpy_out (by omega)).trans (pk_un h1)
theorem cwP_1 {P : Nat → Int32} {i n : Nat} : cwP P i n 1 = nI (n - 1) := (pk_cpy_out (by omega)).trans pk_us
theorem cwP_hi {P : Nat → Int32} {i n j : Nat} (h : 834 + 3 * i ≤ j) (h2 : j < 834 + 3 * (n - 1)) : cwP P i n j = P (j + 3) := by
  unfold cwP
  rw [pk_cpy_in (by omega) (by omega), pk_un (by omega)]
  congr 1; omega
theorem WOK.cw {Q : Nat → Int32} {n : Nat} (h : WOK Q (n + 1)) : WOK (cwP Q 0 (n + 1)) n := by
  refine ⟨by have := h.1; omega, cwP_1, fun i hi => ?_⟩
  obtain ⟨k, l, hk, hl, e1, e2, e3⟩ := h.2.2 (i + 1) (by omega)
  have hn := h.1
  refine ⟨k, l, hk, hl, ?_, ?_, ?_⟩
  · rw [cwP_hi (by omega) (by omega), show 834 + 3 * i + 1 + 3 = 834 + 3 * (i + 1) + 1 by omega]; exact e1
  · rw [cwP_hi (by omega) (by omega), show 834 + 3 * i + 2 + 3 = 834 + 3 * (i + 1) + 2 by omega]; exact e2
  · rw [cwP_lo (by omega) (by omega)]; exact e3
theorem WOK.ft {Q : Nat → Int32} {n k l : Nat} (h : WOK Q n) (hk : k < 4) (hl : l < 26) : WOK (ftP Q k l) n := by
  refine ⟨h.1, ?_, fun i hi => ?_⟩
  · rw [ftP_o hl (by omega) (fun m hm i hi => eX_off (by omega) hm hi)]; exact h.2.1
  · obtain ⟨k', l', hk', hl', e1, e2, e3⟩ := h.2.2 i hi
    refine ⟨k', l', hk', hl', ?_, ?_, ?_⟩
    · rw [ftP_o hl (by omega) (fun m hm i hi => eX_off (by omega) hm hi)]; exact e1
    · rw [ftP_o hl (by omega) (fun m hm i hi => eX_off (by omega) hm hi)]; exact e2
    · have := ftP_cap (P := Q) (k := k) (k' := k') (w := 0) hl (by omega)
      rw [Nat.add_zero] at this
      rw [this]; exact e3
theorem WOK.tm {Q : Nat → Int32} {n : Nat} {x : Int32} (h : WOK Q n) : WOK (upd Q 2 x) n := by
  refine ⟨h.1, (pk_un (by omega)).trans h.2.1, fun i hi => ?_⟩
  obtain ⟨k, l, hk, hl, e1, e2, e3⟩ := h.2.2 i hi
  exact ⟨k, l, hk, hl, (pk_un (by omega)).trans e1, (pk_un (by omega)).trans e2, fun z => e3 ((pk_un (by omega)).symm.trans z)⟩
noncomputable def pI : Nat → (Nat → Int32) → Nat → (Nat → Int32) × Nat
  | 0, Q, c => (Q, c)
  | n + 1, Q, c => if Q 834 = Q 2 then @ite _ (jrP (cwP Q 0 (n + 1)) (Q 836)) (Classical.propDecidable _) (pI n (ftP (cwP Q 0 (n + 1)) (Q 835).toNatClampNeg ((Q 836).toNatClampNeg - 97)) (c + 1)) (pI n (cwP Q 0 (n + 1)) c) else (Q, c)
noncomputable def pP (P : Nat → Int32) : Nat → (Nat → Int32) × Nat
  | 0 => (P, 0)
  | j + 1 => pI ((pP P j).1 1).toNatClampNeg (upd (pP P j).1 2 ((pP P j).1 2 + 1)) (pP P j).2
theorem pI_ok : ∀ (n : Nat) (Q : Nat → Int32) (c : Nat), WOK Q n → ∃ n', WOK (pI n Q c).1 n'
  | 0, Q, c, h => ⟨0, h⟩
  | n + 1, Q, c, h => by
    unfold pI
    split
    · split
      · obtain ⟨k, l, hk, hl, e1, e2, e3⟩ := h.2.2 0 (by omega)
        rw [show (Q 835).toNatClampNeg = k by rw [show Q 835 = nI k from e1, nI_clamp (by omega)], show (Q 836).toNatClampNeg - 97 = l by rw [show Q 836 = nI (97 + l) from e2, nI_clamp (by omega)]; omega]
        exact pI_ok n _ _ (h.cw.ft hk hl)
      · exact pI_ok n _ _ h.cw
    · exact ⟨n + 1, h⟩
theorem pP_ok {P : Nat → Int32} {n : Nat} (h : WOK P n) : ∀ j, ∃ n', WOK (pP P j).1 n'
  | 0 => ⟨n, h⟩
  | j + 1 => by
    obtain ⟨n', h'⟩ := pP_ok h j
    unfold pP
    rw [h'.2.1, nI_clamp (by have := h'.1; omega)]
    exact pI_ok n' _ _ h'.tm
section MJ
variable {G : GG} {σ : Mm} {K : RES → Mm → Prop} {a : Nat}
end MJ
