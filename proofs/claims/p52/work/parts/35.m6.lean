/-! ===== the model: shelves, hearing, warming, time ===== -/
section MI
variable {G : GG} {σ : Mm} {K : RES → Mm → Prop} {a : Nat}
def fl0 (P : Nat → Int32) (b i : Nat) : Nat → Int32 := fun j => if b ≤ j ∧ j < b + i then 0 else P j
theorem fl0_s {P : Nat → Int32} {b i : Nat} : upd (fl0 P b i) (b + i) 0 = fl0 P b (i + 1) := by
  funext j
  unfold upd fl0
  by_cases h : j = b + i
  · rw [if_pos h, if_pos (by omega)]
  · rw [if_neg h]
    by_cases h2 : b ≤ j ∧ j < b + i
    · rw [if_pos h2, if_pos (by omega)]
    · rw [if_neg h2, if_neg (by omega)]
theorem fl0_o {P : Nat → Int32} {b i j : Nat} (h : j < b ∨ b + i ≤ j) : fl0 P b i j = P j := if_neg (by omega)
theorem fl0_0 {P : Nat → Int32} {b : Nat} : fl0 P b 0 = P := funext fun j => if_neg (by omega)
/-- a new shelf -/
def aS (P : Nat → Int32) (n : Nat) (c f p : Int32) : Nat → Int32 := upd (upd (upd (upd (upd (fl0 P (86 + 187 * n) 187) (86 + 187 * n) c) (86 + 187 * n + 1) f) (86 + 187 * n + 2) p) (86 + 187 * n + 3) 1) 0 (nI (n + 1))
def plP (p : Int32) : Prop := p = 114 ∨ p = 111 ∨ p = 108
theorem ix_sh0 (k : Nat) : (86 : Int32) + (187 : Int32) * nI k = nI (86 + 187 * k) := by
  rw [show (86 : Int32) = nI 86 from rfl, show (187 : Int32) = nI 187 from rfl, pk_mul, nI_add]
/-- an echo that is heard -/
def htP (P : Nat → Int32) (k l : Nat) : Nat → Int32 := upd (upd (upd (upd (upd P (eX k l + 5) (P (eX k l + 5) + 1)) (eX k l + 4) (P 3)) 3 (P 3 + 1)) 4 (P 4 + 1)) (86 + 187 * k + 4) (P (86 + 187 * k + 4) + 1)
/-- what hearing is -/
noncomputable def ouP (P : Nat → Int32) (k l : Nat) : Int32 := @ite _ (P (eX k l) = 1) (Classical.propDecidable _) (@ite _ (ovP P k l) (Classical.propDecidable _) 101 (if P (eX k l + 6) = 1 then 111 else 104)) 99
theorem ouP_c (P : Nat → Int32) (k l : Nat) : ouP P k l = 104 ∨ ouP P k l = 99 ∨ ouP P k l = 101 ∨ ouP P k l = 111 := by
  unfold ouP
  split
  · split
    · exact Or.inr (Or.inr (Or.inl rfl))
    · split
      · exact Or.inr (Or.inr (Or.inr rfl))
      · exact Or.inl rfl
  · exact Or.inr (Or.inl rfl)
noncomputable def heP (P : Nat → Int32) (k l : Nat) : Nat → Int32 := if ouP P k l = 104 then htP P k l else if ouP P k l = 99 then ftP (upd P 5 (P 5 + 1)) k l else if ouP P k l = 101 then ftP (upd P 6 (P 6 + 1)) k l else ftP (upd P 7 (P 7 + 1)) k l
def waP (P : Nat → Int32) (x : Int32) : Prop := ¬ x < 0 ∧ ¬ P 1 - 1 < x
theorem ix_wa (i : Nat) : (834 : Int32) + (3 : Int32) * nI i = nI (834 + 3 * i) := by
  rw [show (834 : Int32) = nI 834 from rfl, show (3 : Int32) = nI 3 from rfl, pk_mul, nI_add]
theorem waP_n {P : Nat → Int32} {x : Int32} {n : Nat} (hn : n ≤ 8) (h1 : P 1 = nI n) : waP P x ↔ ∃ i : Nat, i < n ∧ x = nI i := by
  unfold waP
  rw [h1]
  constructor
  · intro ⟨q1, q2⟩
    obtain ⟨i, hi, rfl⟩ := nI_of q1
    refine ⟨i, ?_, rfl⟩
    rcases Nat.eq_zero_or_pos n with h | h
    · subst h
      exfalso
      have h4 : nI i ≤ -1 := Int32.not_lt.mp q2
      rw [Int32.le_iff_toInt_le, nI_toInt hi] at h4
      have : ((-1 : Int32)).toInt = -1 := by decide
      omega
    · rw [show nI n - 1 = nI (n - 1) from pk_sub (b := 1) h, nI_ltI (by omega) hi] at q2
      omega
  · intro ⟨i, hi, e⟩
    subst e
    refine ⟨nI_pos (by omega), ?_⟩
    rw [show nI n - 1 = nI (n - 1) from pk_sub (b := 1) (by omega), nI_ltI (by omega) (by omega)]
    omega
/-- the warming at i of n is taken out -/
def cwP (P : Nat → Int32) (i n : Nat) : Nat → Int32 := va_cpy (upd P 1 (nI (n - 1))) (upd P 1 (nI (n - 1))) (834 + 3 * i + 3) (834 + 3 * i) (3 * (n - 1 - i))
def wsP (m : Int32) : Nat → (Nat → Int32) → Nat × (Nat → Int32)
  | 0, Q => (0, Q)
  | i + 1, Q => if Q (834 + 3 * i) ≤ m then (i + 1, Q) else wsP m i (va_cpy Q Q (834 + 3 * i) (834 + 3 * (i + 1)) 3)
def wtP (Q : Nat → Int32) (i : Nat) (m x y : Int32) : Nat → Int32 := upd (upd (upd (upd Q (834 + 3 * i) m) (834 + 3 * i + 1) x) (834 + 3 * i + 2) y) 1 (Q 1 + 1)
end MI
