/-! ===== the model: keeping, ending, its modifications ===== -/
theorem vinT {n : Nat} (h : n < 858) : vp_in (nI n) 858 = True := eq_true (vin h)
theorem vi0 : vp_in 0 858 = True := eq_true (vin (n := 0) (by omega))
theorem vi1 : vp_in 1 858 = True := eq_true (vin (n := 1) (by omega))
theorem vi2 : vp_in 2 858 = True := eq_true (vin (n := 2) (by omega))
theorem vi3 : vp_in 3 858 = True := eq_true (vin (n := 3) (by omega))
theorem vi4 : vp_in 4 858 = True := eq_true (vin (n := 4) (by omega))
theorem vi5 : vp_in 5 858 = True := eq_true (vin (n := 5) (by omega))
theorem vi6 : vp_in 6 858 = True := eq_true (vin (n := 6) (by omega))
theorem vi7 : vp_in 7 858 = True := eq_true (vin (n := 7) (by omega))
theorem i00 : ((0 : Int32) = 0) = True := eq_true rfl
theorem i11 : ((1 : Int32) = 1) = True := eq_true rfl
theorem i01 : ((0 : Int32) = 1) = False := eq_false (by decide)
theorem i10 : ((1 : Int32) = 0) = False := eq_false (by decide)
/-- the model's 'thrown' is t -/
def th (σ : Mm) (a : Nat) (t : Int32) : Mm := sS σ a (upd (mi σ a) 6 t)
theorem MS.th {σ : Mm} {a : Nat} {t : Int32} (h : MS σ a) : MS (th σ a t) a := h.sS
theorem th_s {σ : Mm} {a j : Nat} {t : Int32} : mi (th σ a t) (a + (j + 1)) = mi σ (a + (j + 1)) := sS_n (by omega)
theorem th_1 {σ : Mm} {a : Nat} {t : Int32} : mi (th σ a t) (a + 1) = mi σ (a + 1) := sS_n (by omega)
def shB (P : Nat → Int32) : Prop := ∃ n : Nat, n ≤ 4 ∧ P 0 = nI n
theorem shP_k {P : Nat → Int32} {x : Int32} (hB : shB P) (h : shP P x) : ∃ k : Nat, k < 4 ∧ x = nI k ∧ nI k < P 0 := by
  obtain ⟨n, hn, e⟩ := hB
  obtain ⟨h1, h2⟩ := h
  rw [e] at h2
  obtain ⟨k, hk, rfl⟩ := nI_of h1
  have h3 := Int32.not_lt.mp h2
  rcases Nat.eq_zero_or_pos n with h0 | h0
  · subst h0
    exfalso
    have h4 : nI k ≤ -1 := h3
    rw [Int32.le_iff_toInt_le, nI_toInt hk] at h4
    have : ((-1 : Int32)).toInt = -1 := by decide
    omega
  · have e2 : nI n - 1 = nI (n - 1) := pk_sub (b := 1) h0
    rw [e2, nI_leI hk (by omega)] at h3
    refine ⟨k, by omega, rfl, ?_⟩
    rw [e, nI_ltI hk (by omega)]
    omega
theorem shP_n {P : Nat → Int32} {k n : Nat} (hn : n ≤ 4) (e : P 0 = nI n) (hk : k < 2 ^ 31) : shP P (nI k) ↔ k < n := by
  constructor
  · intro h
    obtain ⟨j, hj, e1, h2⟩ := shP_k ⟨n, hn, e⟩ h
    rw [e, nI_ltI (by omega) (by omega)] at h2
    have := (nI_eq hk (by omega)).mp e1
    omega
  · intro h
    refine ⟨nI_pos hk, ?_⟩
    rw [e, show nI n - 1 = nI (n - 1) from pk_sub (b := 1) (by omega), nI_ltI (by omega) hk]
    omega
section MG
variable {G : GG} {σ : Mm} {K : RES → Mm → Prop} {a : Nat}
def cpA (P B : Nat → Int32) : Nat → Int32 := va_cpy P B 0 0 858
theorem cpA_in {P B : Nat → Int32} {k : Nat} (h : k < 858) : cpA P B k = P k := by
  unfold cpA va_cpy
  rw [if_pos ⟨by omega, by omega⟩]
  simp
theorem cpA_back {P B : Nat → Int32} : cpA (cpA P B) P = P := by
  funext k
  by_cases h : k < 858
  · rw [cpA_in h, cpA_in h]
  · unfold cpA va_cpy
    rw [if_neg (by omega)]
theorem cpA_dn {P B Q : Nat → Int32} {k : Nat} (h : k < 858) : cpA (cpA P B) Q k = P k := by rw [cpA_in h, cpA_in h]
theorem cpI_sS {σ : Mm} {a0 sp b dp n : Nat} : cpI σ a0 sp b dp n = sS σ b (va_cpy (mi σ a0) (mi σ b) sp dp n) := rfl
/-- the memory behind keep() -/
def kp (σ : Mm) (a : Nat) : Mm := sS (th σ a 0) (a + 2) (cpA (mi σ (a + 1)) (mi σ (a + 2)))
theorem MS.kp {σ : Mm} {a : Nat} (h : MS σ a) : MS (kp σ a) a := h.th.sS
theorem kp_1 {σ : Mm} {a : Nat} : mi (kp σ a) (a + 1) = mi σ (a + 1) := (sS_n (by omega)).trans th_1
theorem cl858 : (858 : Int32).toNatClampNeg = 858 := by decide
/-- a modification that threw -/
def mF (σ : Mm) (a : Nat) (t : Int32) : Mm := sS (th σ a t) (a + 2) (cpA (mi σ (a + 1)) (mi σ (a + 2)))
def psh (j : Nat) (B past : Nat → Int32) : Nat → Int32 := if j = 8 then va_cpy B (va_cpy past past 858 0 6006) 0 6006 858 else va_cpy B past 0 (858 * j) 858
def pshN (j : Nat) : Nat := if j = 8 then 8 else j + 1
/-- a modification that was made: s is now P -/
def mK (σ : Mm) (a j : Nat) (P : Nat → Int32) : Mm := sS (sS (sS (kp σ a) (a + 1) P) (a + 4) (psh j (mi (kp σ a) (a + 2)) (mi σ (a + 4)))) a (upd (mi (kp σ a) a) 5 (nI (pshN j)))
/-- and behind Q, which is taken back -/
def mF2 (σ : Mm) (a : Nat) (t : Int32) (Q : Nat → Int32) : Mm := sS (mF σ a t) (a + 1) (cpA (mi σ (a + 1)) Q)
theorem cpA_id {P : Nat → Int32} : cpA P P = P := by
  funext k
  unfold cpA va_cpy
  split
  · congr 1; omega
  · rfl
theorem mF2_id {σ : Mm} {a : Nat} {t : Int32} : mF2 σ a t (mi σ (a + 1)) = mF σ a t := by
  unfold mF2
  rw [cpA_id]
  have e : mi (mF σ a t) (a + 1) = mi σ (a + 1) := (sS_n (by omega)).trans th_1
  rw [← e]
  exact sS_id
theorem cl6006 : (6006 : Int32).toNatClampNeg = 6006 := by decide
end MG
