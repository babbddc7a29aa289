/-! ===== shifts and remainders of numbers that aren't below 0 ===== -/
theorem u32_nI (u : UInt32) : u.toInt32 = nI u.toNat := by
  exact congrArg Int32.ofUInt32 (UInt32.ofNat_toNat (x := u)).symm
theorem us_ex (x : Int32) : ∃ a, a < 2 ^ 31 ∧ us_ x 1 = nI a := by
  refine ⟨_, ?_, u32_nI _⟩
  have h : ((1 : Int32).toUInt32 &&& Int32.toUInt32 31) = 1 := by decide
  rw [h, UInt32.toNat_shiftRight]
  have h1 := x.toUInt32.toNat_lt
  have h2 : (1 : UInt32).toNat % 32 = 1 := by decide
  rw [h2, Nat.shiftRight_eq_div_pow]
  omega
theorem us_n {a : Nat} (ha : a < 2 ^ 31) (y : Int32) : ∃ c, c ≤ a ∧ us_ (nI a) y = nI c := by
  refine ⟨_, ?_, u32_nI _⟩
  have h0 : (nI a).toUInt32.toNat = a := by
    have : (nI a).toUInt32 = UInt32.ofNat a := by
      show (Int32.ofNat a).toUInt32 = _
      simp
    rw [this]
    exact UInt32.toNat_ofNat_of_lt (by have : (2 : Nat) ^ 31 < UInt32.size := by decide
                                       omega)
  rw [UInt32.toNat_shiftRight, h0, Nat.shiftRight_eq_div_pow]
  exact Nat.div_le_self _ _
theorem nI_mul (a b : Nat) : nI a * nI b = nI (a * b) := (Int32.ofNat_mul a b).symm
theorem nI_div {a k : Nat} (ha : a < 2 ^ 31) (hk : k < 2 ^ 31) : nI a / nI k = nI (a / k) := by
  have h : a / k ≤ a := Nat.div_le_self _ _
  rw [← Int32.toInt_inj, Int32.toInt_div, nI_toInt ha, nI_toInt hk, nI_toInt (by omega)]
  have e : ((a : Int).tdiv (k : Int)) = ((a / k : Nat) : Int) := by
    rw [Int.ofNat_tdiv]
  rw [e]
  generalize a / k = c at h
  exact Int.bmod_eq_of_le (by simp <;> omega) (by simp <;> omega)
theorem i_rem {a k : Nat} {q : Int32} (ha : a < 2 ^ 31) (hk : k < 2 ^ 31) (e : q = nI k) : nI a - nI a / q * q = nI (a % k) := by
  subst e
  rw [nI_div ha hk, nI_mul, nI_sub' (Nat.div_mul_le_self a k)]
  congr 1
  have := Nat.div_add_mod a k
  rw [Nat.mul_comm] at this
  omega
