/-! ===== the model: victims, fetching ===== -/
theorem nA0 (x : Nat) : nI x + (0 : Int32) = nI (x + 0) := nI_add x 0
theorem nA1 (x : Nat) : nI x + (1 : Int32) = nI (x + 1) := nI_add x 1
theorem nA2 (x : Nat) : nI x + (2 : Int32) = nI (x + 2) := nI_add x 2
theorem nA3 (x : Nat) : nI x + (3 : Int32) = nI (x + 3) := nI_add x 3
theorem nA4 (x : Nat) : nI x + (4 : Int32) = nI (x + 4) := nI_add x 4
theorem nA5 (x : Nat) : nI x + (5 : Int32) = nI (x + 5) := nI_add x 5
theorem nA6 (x : Nat) : nI x + (6 : Int32) = nI (x + 6) := nI_add x 6
theorem lc0 : (0 : Int32).toNatClampNeg = 0 := by decide
theorem lc1 : (1 : Int32).toNatClampNeg = 1 := by decide
theorem lc2 : (2 : Int32).toNatClampNeg = 2 := by decide
theorem lc3 : (3 : Int32).toNatClampNeg = 3 := by decide
theorem lc4 : (4 : Int32).toNatClampNeg = 4 := by decide
theorem lc5 : (5 : Int32).toNatClampNeg = 5 := by decide
theorem lc6 : (6 : Int32).toNatClampNeg = 6 := by decide
theorem lc7 : (7 : Int32).toNatClampNeg = 7 := by decide
theorem lc8 : (8 : Int32).toNatClampNeg = 8 := by decide
section MF
variable {G : GG} {σ : Mm} {K : RES → Mm → Prop} {a k : Nat}
theorem bP_n {p : Prop} (h : ¬ bP p = 0) : p := by
  by_cases q : p
  · exact q
  · exact absurd (bP_f q) h
theorem vcI_neg {P : Nat → Int32} {n : Nat} (hn : n ≤ 26) (h : vcI (vcN P k n) < 0) : vcN P k n = none := by
  cases hv : vcN P k n with
  | none => rfl
  | some b =>
    rw [hv] at h
    have := (vcN_lt hv).1
    exact absurd h (nI_pos (by omega))
theorem vcI_some {P : Nat → Int32} {n : Nat} (h : ¬ vcI (vcN P k n) < 0) : ∃ b, vcN P k n = some b := by
  cases hv : vcN P k n with
  | none => rw [hv] at h; exact absurd (by decide) h
  | some b => exact ⟨b, rfl⟩
/-- what an echo of l on k reads behind a fetching -/
def fx2 (P : Nat → Int32) (k l : Nat) : Nat → Int32 := upd (upd (upd (upd (upd (upd (upd P (eX k l) 1) (eX k l + 1) (P (8 + 3 * l + 1))) (eX k l + 2) (P 2)) (eX k l + 3) (P 3)) (eX k l + 4) (P 3)) (eX k l + 5) 0) (eX k l + 6) 0
def fx3 (P : Nat → Int32) (k l : Nat) : Nat → Int32 := upd (fx2 P k l) 3 (P 3 + 1)
noncomputable def fx1 (P : Nat → Int32) (k l : Nat) : Nat → Int32 := if nI (ecN (upd P (eX k l) 0) k) = P (86 + 187 * k) then (match vcN (upd P (eX k l) 0) k 26 with | none => P | some v => upd (upd P (eX k l) 0) (eX k v) 0) else upd P (eX k l) 0
noncomputable def ftP (P : Nat → Int32) (k l : Nat) : Nat → Int32 := fx3 (fx1 P k l) k l
end MF
