/-! ===== numbers with a point: what is divided is a number ===== -/
theorem nn_n32 {r : UInt32} (h : FP.Core.val32 r ≠ .nan) : vf_n32 r := by
  have h1 : ¬ FP.Core.infBits FP.Core.b32 < FP.Core.mag FP.Core.b32 r.toNat := fun z => h ((FP.Core.decode_nan _).mpr z)
  have e1 : FP.Core.infBits FP.Core.b32 = 2139095040 := by decide
  have e2 : FP.Core.half FP.Core.b32 = 2 ^ 31 := by decide
  unfold FP.Core.mag at h1
  rw [e1, e2] at h1
  unfold vf_n32
  rw [UInt32.le_iff_toNat_le, UInt32.toNat_and]
  have e3 : (0x7fffffff : UInt32).toNat = 2 ^ 31 - 1 := by decide
  have e4 : (0x7f800000 : UInt32).toNat = 2139095040 := by decide
  rw [e3, e4, Nat.and_two_pow_sub_one_eq_mod]
  omega
theorem nn_n64 {r : UInt64} (h : FP.Core.val64 r ≠ .nan) : vf_n64 r := by
  have h1 : ¬ FP.Core.infBits FP.Core.b64 < FP.Core.mag FP.Core.b64 r.toNat := fun z => h ((FP.Core.decode_nan _).mpr z)
  have e1 : FP.Core.infBits FP.Core.b64 = 9218868437227405312 := by decide +kernel
  have e2 : FP.Core.half FP.Core.b64 = 2 ^ 63 := by decide +kernel
  unfold FP.Core.mag at h1
  rw [e1, e2] at h1
  unfold vf_n64
  rw [UInt64.le_iff_toNat_le, UInt64.toNat_and]
  have e3 : (0x7fffffffffffffff : UInt64).toNat = 2 ^ 63 - 1 := by decide
  have e4 : (0x7ff0000000000000 : UInt64).toNat = 9218868437227405312 := by decide
  rw [e3, e4, Nat.and_two_pow_sub_one_eq_mod]
  omega
theorem nn_int {f : FP.Core.Fmt} (hf : FP.Core.Good f) (h0 : (0 : Int) ≤ f.qmax) {n : Nat} (hn : n < 2 ^ f.p) : ∃ c q, FP.Core.round f (FP.Core.ofInt (n : Int)) = .fin false c q ∧ (0 < n → c ≠ 0) := by
  have e : FP.Core.ofInt (n : Int) = .fin false n 0 := by
    unfold FP.Core.ofInt
    rw [Int.natAbs_natCast, decide_eq_false (by omega)]
  rw [e]
  obtain ⟨c, q, h1, h2⟩ := FP.Core.round_exact hf false (c := n) (q := 0) hn (Int.le_of_lt (FP.Core.qmin_neg hf)) h0
  refine ⟨c, q, h1, fun hp hc => ?_⟩
  subst hc
  unfold FP.Core.inUnits at h2
  rw [Nat.zero_mul] at h2
  have : 0 < n * 2 ^ (0 - f.qmin).toNat := Nat.mul_pos hp (Nat.two_pow_pos _)
  omega
theorem nn_q {f : FP.Core.Fmt} {c d : Nat} {q r : Int} (hd : d ≠ 0) : FP.Core.quotient f (.fin false c q) (.fin false d r) ≠ .nan := by
  show (if d = 0 then (if c = 0 then FP.Core.Datum.nan else FP.Core.Datum.inf (false != false)) else FP.Core.roundRatio f (false != false) c d (q - r)) ≠ FP.Core.Datum.nan
  rw [if_neg hd]
  exact FP.Core.roundRatio_ne_nan _ _ _ _ _
theorem nn_f {n m : Nat} (hn : n < 2 ^ 24) (hm : m < 2 ^ 24) (h0 : 0 < m) : vf_n32 (FP.fdiv (FP.i2f (nI n)) (FP.i2f (nI m))) := by
  refine nn_n32 ?_
  show FP.Core.val32 (FP.Core.fdiv (FP.Core.i2f (nI n)) (FP.Core.i2f (nI m))) ≠ .nan
  rw [FP.Core.val32_fdiv, FP.Core.val32_i2f, FP.Core.val32_i2f, nI_toInt (by omega), nI_toInt (by omega)]
  obtain ⟨c, q, e1, -⟩ := nn_int FP.Core.good_b32 (by decide) (n := n) hn
  obtain ⟨d, r, e2, e3⟩ := nn_int FP.Core.good_b32 (by decide) (n := m) hm
  rw [e1, e2]
  exact nn_q (e3 h0)
theorem nn_d {n m : Nat} (hn : n < 2 ^ 31) (hm : m < 2 ^ 31) (h0 : 0 < m) : vf_n64 (FP.ddiv (FP.i2d (nI n)) (FP.i2d (nI m))) := by
  refine nn_n64 ?_
  show FP.Core.val64 (FP.Core.ddiv (FP.Core.i2d (nI n)) (FP.Core.i2d (nI m))) ≠ .nan
  rw [FP.Core.val64_ddiv, FP.Core.val64_i2d, FP.Core.val64_i2d, nI_toInt (by omega), nI_toInt (by omega)]
  have e53 : (2 : Nat) ^ 31 ≤ 2 ^ FP.Core.b64.p := by decide
  obtain ⟨c, q, e1, -⟩ := nn_int FP.Core.good_b64 (by decide +kernel) (n := n) (by omega)
  obtain ⟨d, r, e2, e3⟩ := nn_int FP.Core.good_b64 (by decide +kernel) (n := m) (by omega)
  rw [e1, e2]
  exact nn_q (e3 h0)
