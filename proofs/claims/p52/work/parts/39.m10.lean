/-! ===== the model: statistics, undo, snapshots ===== -/
section MN
variable {G : GG} {σ : Mm} {K : RES → Mm → Prop} {a : Nat}
def hsP (P : Nat → Int32) : Int32 := P 4 + P 5 + P 6 + P 7
noncomputable def agL (P : Nat → Int32) (k : Nat) (c : Int32) : Nat → Int32
  | 0 => c
  | l + 1 => if P (eX k l) = 1 then agL P k c l + (P 2 - P (eX k l + 2)) else agL P k c l
noncomputable def agS (P : Nat → Int32) : Nat → Int32
  | 0 => 0
  | k + 1 => agL P k (agS P k) 26
noncomputable def ecS (P : Nat → Int32) : Nat → Nat
  | 0 => 0
  | k + 1 => ecS P k + ecN P k
theorem i_add0 (x : Int32) : x + 0 = x := Int32.add_zero x
theorem ecS_le (P : Nat → Int32) : ∀ n, ecS P n ≤ 26 * n
  | 0 => Nat.le_refl _
  | n + 1 => by
    have := ecS_le P n
    have h2 : ecN P n ≤ 26 := cnt_le _ 26
    unfold ecS
    omega
def htK (P : Nat → Int32) (k : Nat) : Int32 := P (86 + 187 * k + 4)
def rkP (P : Nat → Int32) (one other : Nat) : Prop := 0 < htK P other - htK P one ∨ (htK P other - htK P one = 0 ∧ other < one)
noncomputable def sbh (P : Nat → Int32) (n r : Nat) : Nat → Int32
  | 0 => 0
  | one + 1 => if cnt (rkP P one) n = r then nI one else sbh P n r one
/-- undone: s is the last one kept -/
def mU (σ : Mm) (a j : Nat) : Mm := sS (sS σ a (upd (upd (mi σ a) 6 0) 5 (nI j))) (a + 1) (va_cpy (mi σ (a + 4)) (mi σ (a + 1)) (858 * j) 0 858)
/-- saved -/
def mV (σ : Mm) (a : Nat) : Mm := sS (sS σ a (upd (upd (mi σ a) 6 0) 3 1)) (a + 3) (cpA (mi σ (a + 1)) (mi σ (a + 3)))
/-- restored -/
def mW (σ : Mm) (a : Nat) : Mm := sS (sS σ a (upd (upd (mi σ a) 6 0) 5 0)) (a + 1) (cpA (mi σ (a + 3)) (mi σ (a + 1)))
end MN
