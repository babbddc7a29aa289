/-! ===== the model: echoes ===== -/
theorem lit (n : Nat) : (OfNat.ofNat n : Int32) = nI n := rfl
theorem ix_echo (k l : Nat) : (86 : Int32) + (187 : Int32) * nI k + (5 : Int32) + (7 : Int32) * (nI (97 + l) - (97 : Int32)) = nI (91 + 187 * k + 7 * l) := by
  rw [show (97 : Int32) = nI 97 from rfl, pk_sub (by omega), show (86 : Int32) = nI 86 from rfl, show (187 : Int32) = nI 187 from rfl, show (5 : Int32) = nI 5 from rfl, show (7 : Int32) = nI 7 from rfl, pk_mul, pk_mul, nI_add, nI_add, nI_add]
  congr 1; omega
theorem ix_shelf (k j : Nat) : (86 : Int32) + (187 : Int32) * nI k + nI j = nI (86 + 187 * k + j) := by
  rw [show (86 : Int32) = nI 86 from rfl, show (187 : Int32) = nI 187 from rfl, pk_mul, nI_add, nI_add]
theorem ix_add (n : Nat) (j : Nat) : nI n + nI j = nI (n + j) := nI_add n j
/-- how many of the first n are so -/
noncomputable def cnt (p : Nat → Prop) : Nat → Nat
  | 0 => 0
  | n + 1 => cnt p n + @ite Nat (p n) (Classical.propDecidable _) 1 0
theorem cnt_t {p : Nat → Prop} {n : Nat} (h : p n) : cnt p (n + 1) = cnt p n + 1 := by simp [cnt, h]
theorem cnt_f {p : Nat → Prop} {n : Nat} (h : ¬ p n) : cnt p (n + 1) = cnt p n := by simp [cnt, h]
theorem cnt_le (p : Nat → Prop) : ∀ n, cnt p n ≤ n
  | 0 => Nat.le_refl _
  | n + 1 => by
    have := cnt_le p n
    by_cases h : p n
    · rw [cnt_t h]; omega
    · rw [cnt_f h]; omega
theorem cnt_ex {p : Nat → Prop} : ∀ {n : Nat}, 0 < cnt p n → ∃ i, i < n ∧ p i
  | 0, h => by simp [cnt] at h
  | n + 1, h => by
    by_cases hp : p n
    · exact ⟨n, by omega, hp⟩
    · rw [cnt_f hp] at h
      obtain ⟨i, hi, q⟩ := cnt_ex h
      exact ⟨i, by omega, q⟩
theorem cnt_congr {p q : Nat → Prop} : ∀ {n : Nat}, (∀ i, i < n → (p i ↔ q i)) → cnt p n = cnt q n
  | 0, _ => rfl
  | n + 1, h => by
    have ih := cnt_congr (p := p) (q := q) (n := n) fun i hi => h i (by omega)
    by_cases hp : p n
    · rw [cnt_t hp, cnt_t ((h n (by omega)).mp hp), ih]
    · rw [cnt_f hp, cnt_f (fun z => hp ((h n (by omega)).mpr z)), ih]
/-- an echo's place j, for the letter l on the shelf k; a shelf's place j -/
def eX (k l : Nat) : Nat := 91 + 187 * k + 7 * l
/-- there is an echo of this letter on the shelf k -/
def ecP (P : Nat → Int32) (k : Nat) (x : Int32) : Prop := ∃ l : Nat, l < 26 ∧ x = nI (97 + l) ∧ P (eX k l) = 1
theorem ecP_l {P : Nat → Int32} {k l : Nat} (hl : l < 26) : ecP P k (nI (97 + l)) ↔ P (eX k l) = 1 := ⟨fun ⟨m, hm, e, h⟩ => by rw [nIl_inj hl hm e]; exact h, fun h => ⟨l, hl, rfl, h⟩⟩
noncomputable def ecN (P : Nat → Int32) (k : Nat) : Nat := cnt (fun l => P (eX k l) = 1) 26
noncomputable def jrN (P : Nat → Int32) : Nat := cnt (fun l => P (8 + 3 * l) = 1) 26
/-- x is the number of a shelf -/
def shP (P : Nat → Int32) (x : Int32) : Prop := ¬ x < 0 ∧ ¬ P 0 - 1 < x
def byM (P : Nat → Int32) (k l m : Nat) : Int32 := if P (86 + 187 * k + 2) = 114 then P (eX k m + 4) - P (eX k l + 4) else if P (86 + 187 * k + 2) = 108 then P (eX k m + 5) - P (eX k l + 5) else 0
/-- the echo of l goes ahead of that of m -/
def gF (P : Nat → Int32) (k l m : Nat) : Prop := 0 < byM P k l m ∨ (byM P k l m = 0 ∧ P (eX k l + 3) < P (eX k m + 3))
noncomputable def vcN (P : Nat → Int32) (k : Nat) : Nat → Option Nat
  | 0 => none
  | n + 1 => @ite _ (P (eX k n) = 1) (Classical.propDecidable _) (match vcN P k n with
    | none => some n
    | some b => @ite _ (gF P k n b) (Classical.propDecidable _) (some n) (some b)) (vcN P k n)
def vcI : Option Nat → Int32
  | none => -1
  | some l => nI (97 + l)
theorem vcN_lt {P : Nat → Int32} {k : Nat} : ∀ {n b : Nat}, vcN P k n = some b → b < n ∧ P (eX k b) = 1
  | 0, b, h => by simp [vcN] at h
  | n + 1, b, h => by
    unfold vcN at h
    by_cases he : P (eX k n) = 1
    · simp only [he, if_true] at h
      cases hv : vcN P k n with
      | none =>
        rw [hv] at h
        cases h
        exact ⟨by omega, he⟩
      | some c =>
        rw [hv] at h
        have ih := vcN_lt hv
        by_cases hg : gF P k n c
        · simp only [hg, if_true] at h
          cases h
          exact ⟨by omega, he⟩
        · simp only [hg, if_false] at h
          cases h
          exact ⟨by omega, ih.2⟩
    · simp only [he, if_false] at h
      have ih := vcN_lt h
      exact ⟨by omega, ih.2⟩
theorem vcN_none {P : Nat → Int32} {k : Nat} : ∀ {n : Nat}, vcN P k n = none → cnt (fun l => P (eX k l) = 1) n = 0
  | 0, _ => rfl
  | n + 1, h => by
    unfold vcN at h
    by_cases he : P (eX k n) = 1
    · exfalso
      simp only [he, if_true] at h
      cases hv : vcN P k n with
      | none => rw [hv] at h; cases h
      | some c =>
        rw [hv] at h
        by_cases hg : gF P k n c
        · simp only [hg, if_true] at h; cases h
        · simp only [hg, if_false] at h; cases h
    · simp only [he, if_false] at h
      rw [cnt_f he]
      exact vcN_none h
section ME
variable {G : GG} {σ : Mm} {K : RES → Mm → Prop} {a k : Nat}
theorem vin {n : Nat} (h : n < 858) : vp_in (nI n) 858 := vp_in_nI h (by omega)
theorem nx {l : Nat} : nI (97 + l) + 1 = nI (97 + (l + 1)) := nI_1 (97 + l)
/-- the echo of l on k is expired -/
def ovP (P : Nat → Int32) (k l : Nat) : Prop := ¬ P 2 - P (eX k l + 2) < P (86 + 187 * k + 1)
end ME
