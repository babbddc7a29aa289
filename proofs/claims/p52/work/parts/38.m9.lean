/-! ===== the model: questions with loops, statistics, undo, snapshots ===== -/
noncomputable def nth (p : Nat → Prop) (i : Nat) : Nat → Option Nat
  | 0 => none
  | n + 1 => @ite _ (p n ∧ cnt p n = i) (Classical.propDecidable _) (some n) (nth p i n)
theorem nth_t {p : Nat → Prop} {i n : Nat} (h : p n) (h2 : cnt p n = i) : nth p i (n + 1) = some n := by simp only [nth, h, h2, and_self, if_true]
theorem nth_f {p : Nat → Prop} {i n : Nat} (h : ¬ (p n ∧ cnt p n = i)) : nth p i (n + 1) = nth p i n := by simp only [nth, h, if_false]
theorem nth_lt {p : Nat → Prop} {i : Nat} : ∀ {n l : Nat}, nth p i n = some l → l < n ∧ p l ∧ cnt p l = i
  | 0, l, h => by simp [nth] at h
  | n + 1, l, h => by
    by_cases q : p n ∧ cnt p n = i
    · rw [nth_t q.1 q.2] at h
      cases h
      exact ⟨by omega, q⟩
    · rw [nth_f q] at h
      have := nth_lt h
      exact ⟨by omega, this.2⟩
theorem nth_ex {p : Nat → Prop} {i : Nat} : ∀ {n : Nat}, i < cnt p n → ∃ l, nth p i n = some l
  | 0, h => by simp [cnt] at h
  | n + 1, h => by
    by_cases q : p n ∧ cnt p n = i
    · exact ⟨n, nth_t q.1 q.2⟩
    · rw [nth_f q]
      refine nth_ex ?_
      by_cases hp : p n
      · rw [cnt_t hp] at h
        have : cnt p n ≠ i := fun z => q ⟨hp, z⟩
        omega
      · rw [cnt_f hp] at h; exact h
theorem nth_congr {p q : Nat → Prop} {i : Nat} : ∀ {n : Nat}, (∀ j, j < n → (p j ↔ q j)) → nth p i n = nth q i n
  | 0, _ => rfl
  | n + 1, h => by
    have ih := nth_congr (p := p) (q := q) (i := i) (n := n) fun j hj => h j (by omega)
    have e := cnt_congr (p := p) (q := q) (n := n) fun j hj => h j (by omega)
    by_cases z : p n ∧ cnt p n = i
    · rw [nth_t z.1 z.2, nth_t ((h n (by omega)).mp z.1) (by rw [← e]; exact z.2)]
    · rw [nth_f z, nth_f (fun y => z ⟨(h n (by omega)).mpr y.1, by rw [e]; exact y.2⟩), ih]
def nthV : Option Nat → Int32
  | none => 32
  | some l => nI (97 + l)
theorem i2c_nI {q : Nat} (h : q < 65536) : i2c (nI q) = nI q := by
  unfold i2c
  rw [pk_char, pk_tn (by omega), Nat.mod_eq_of_lt h]
theorem i2c_l {l : Nat} (h : l < 26) : i2c (nI (97 + l)) = nI (97 + l) := i2c_nI (by omega)
theorem inN {x : Int32} {n : Nat} (hn : n < 2 ^ 30) : (¬ x < 0 ∧ ¬ nI n - 1 < x) ↔ ∃ i : Nat, i < n ∧ x = nI i := by
  constructor
  · intro ⟨q1, q2⟩
    obtain ⟨i, hi, rfl⟩ := nI_of q1
    refine ⟨i, ?_, rfl⟩
    rcases Nat.eq_zero_or_pos n with h | h
    · subst h
      exfalso
      have h4 : nI i ≤ -1 := Int32.not_lt.mp q2
      rw [Int32.le_iff_toInt_le, nI_toInt hi] at h4
      have : ((-1 : Int32)).toInt = -1 := by decide
      omega
    · rw [show nI n - 1 = nI (n - 1) from pk_sub (b := 1) h, nI_ltI (by omega) hi] at q2
      omega
  · intro ⟨i, hi, e⟩
    subst e
    refine ⟨nI_pos (by omega), ?_⟩
    rw [show nI n - 1 = nI (n - 1) from pk_sub (b := 1) (by omega), nI_ltI (by omega) (by omega)]
    omega
section ML
variable {G : GG} {σ : Mm} {K : RES → Mm → Prop} {a : Nat}
def jP (P : Nat → Int32) (l : Nat) : Prop := P (8 + 3 * l) = 1
def eP (P : Nat → Int32) (k l : Nat) : Prop := P (eX k l) = 1
theorem th_6 {σ : Mm} {a : Nat} {t : Int32} : mi (th σ a t) a 6 = t := (congrFun sS_s 6).trans pk_us
end ML
