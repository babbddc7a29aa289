/-! ===== a command: the model's side ===== -/
def cdk (k : Nat) : Int32 := [106, 115, 100, 102, 104, 119, 108, 122, 112].getD k 112
/-- the command k with the parameters F stands at t in the model's row r -/
def MA : Nat → (Nat → Int32) → (Nat → Int32) → Nat → Prop
  | 0, F, r, t => r (t + 1) = F 1 ∧ r (t + 2) = F 3
  | 1, F, r, t => r (t + 1) = F 1 ∧ r (t + 2) = F 3
  | 2, F, r, t => r (t + 1) = F 1
  | 3, F, r, t => r (t + 1) = F 2 ∧ r (t + 2) = F 3 ∧ r (t + 3) = F 4
  | 4, F, r, t => r (t + 1) = F 2 ∧ r (t + 2) = F 1
  | 5, F, r, t => r (t + 1) = F 2 ∧ r (t + 2) = F 1 ∧ r (t + 3) = F 3
  | 6, F, r, t => r (t + 1) = F 2
  | 7, F, r, t => r (t + 1) = F 2
  | _, F, r, t => r (t + 1) = F 3
section CMM
variable {G : GG} {σ : Mm} {K : RES → Mm → Prop} {a i : Nat} {F : Nat → Int32}
end CMM
