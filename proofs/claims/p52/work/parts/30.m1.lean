/-! ===== the model: its shape, its questions ===== -/
def b2 (p : Prop) [Decidable p] : Int32 := if p then 1 else 0
theorem b2_z (p : Prop) [Decidable p] : isZ (b2 p) := by unfold b2; split <;> simp [isZ]
theorem b2_t {p : Prop} [Decidable p] (h : p) : b2 p = 1 := if_pos h
theorem b2_f {p : Prop} [Decidable p] (h : ¬ p) : b2 p = 0 := if_neg h
theorem b2_0 {p : Prop} [Decidable p] : b2 p = 0 ↔ ¬ p := by unfold b2; split <;> simp_all
theorem b2_1 {p : Prop} [Decidable p] : b2 p = 1 ↔ p := by unfold b2; split <;> simp_all
theorem b2_iff {p q : Prop} [Decidable p] [Decidable q] (h : p ↔ q) : b2 p = b2 q := by unfold b2; simp only [h]
/-- the model's object at a, its arrays behind it: s, before, saved, past, line, text, commands -/
def MS (σ : Mm) (a : Nat) : Prop := (mt σ a).1 = 10 ∧ (mr σ a 0 = some (a + 1) ∧ mt σ (a + 1) = (50, 858)) ∧ (mr σ a 1 = some (a + 2) ∧ mt σ (a + 2) = (50, 858)) ∧ (mr σ a 2 = some (a + 3) ∧ mt σ (a + 3) = (50, 858)) ∧
  (mr σ a 4 = some (a + 4) ∧ mt σ (a + 4) = (50, 6864)) ∧ (mr σ a 7 = some (a + 5) ∧ mt σ (a + 5) = (53, 60)) ∧ (mr σ a 9 = some (a + 6) ∧ mt σ (a + 6) = (53, 60)) ∧ (mr σ a 15 = some (a + 7) ∧ mt σ (a + 7) = (50, 240))
theorem MS.ty {σ : Mm} {a : Nat} (h : MS σ a) : (mt σ a).1 = 10 := h.1
theorem MS.r0 {σ : Mm} {a : Nat} (h : MS σ a) : mr σ a 0 = some (a + 1) := h.2.1.1
theorem MS.t0 {σ : Mm} {a : Nat} (h : MS σ a) : mt σ (a + 1) = (50, 858) := h.2.1.2
theorem MS.r1 {σ : Mm} {a : Nat} (h : MS σ a) : mr σ a 1 = some (a + 2) := h.2.2.1.1
theorem MS.t1 {σ : Mm} {a : Nat} (h : MS σ a) : mt σ (a + 2) = (50, 858) := h.2.2.1.2
theorem MS.r2 {σ : Mm} {a : Nat} (h : MS σ a) : mr σ a 2 = some (a + 3) := h.2.2.2.1.1
theorem MS.t2 {σ : Mm} {a : Nat} (h : MS σ a) : mt σ (a + 3) = (50, 858) := h.2.2.2.1.2
theorem MS.r4 {σ : Mm} {a : Nat} (h : MS σ a) : mr σ a 4 = some (a + 4) := h.2.2.2.2.1.1
theorem MS.t4 {σ : Mm} {a : Nat} (h : MS σ a) : mt σ (a + 4) = (50, 6864) := h.2.2.2.2.1.2
theorem MS.r7 {σ : Mm} {a : Nat} (h : MS σ a) : mr σ a 7 = some (a + 5) := h.2.2.2.2.2.1.1
theorem MS.t7 {σ : Mm} {a : Nat} (h : MS σ a) : mt σ (a + 5) = (53, 60) := h.2.2.2.2.2.1.2
theorem MS.r9 {σ : Mm} {a : Nat} (h : MS σ a) : mr σ a 9 = some (a + 6) := h.2.2.2.2.2.2.1.1
theorem MS.t9 {σ : Mm} {a : Nat} (h : MS σ a) : mt σ (a + 6) = (53, 60) := h.2.2.2.2.2.2.1.2
theorem MS.r15 {σ : Mm} {a : Nat} (h : MS σ a) : mr σ a 15 = some (a + 7) := h.2.2.2.2.2.2.2.1
theorem MS.t15 {σ : Mm} {a : Nat} (h : MS σ a) : mt σ (a + 7) = (50, 240) := h.2.2.2.2.2.2.2.2
theorem MS.mv {σ σ' : Mm} {a : Nat} (h : MS σ a) (h1 : mr σ' = mr σ) (h2 : mt σ' = mt σ) : MS σ' a := by unfold MS; rw [h1, h2]; exact h
/-- the array row b of the memory is f -/
def sS (σ : Mm) (b : Nat) (f : Nat → Int32) : Mm := (fun b' k => if b' = b then f k else mi σ b' k, mr σ, ml σ, md σ, mt σ, mz σ)
theorem sS_s {σ : Mm} {b : Nat} {f : Nat → Int32} : mi (sS σ b f) b = f := funext fun k => if_pos rfl
theorem sS_n {σ : Mm} {b b' : Nat} {f : Nat → Int32} (h : b' ≠ b) : mi (sS σ b f) b' = mi σ b' := funext fun k => if_neg h
theorem sS_sS {σ : Mm} {b : Nat} {f g : Nat → Int32} : sS (sS σ b f) b g = sS σ b g := by
  unfold sS
  congr 1
  funext b' k
  by_cases h : b' = b <;> simp [mi, h]
theorem sS_id {σ : Mm} {b : Nat} : sS σ b (mi σ b) = σ := by
  obtain ⟨m1, m2, m3, m4, m5, m6⟩ := σ
  unfold sS
  congr 1
  funext b' k
  by_cases h : b' = b
  · simp [h, mi]
  · simp [h, mi]
theorem sS_cm {σ : Mm} {b c : Nat} {f g : Nat → Int32} (h : b ≠ c) : sS (sS σ b f) c g = sS (sS σ c g) b f := by
  unfold sS
  congr 1
  funext b' k
  by_cases h1 : b' = b
  · subst h1; simp [mi, h]
  · by_cases h2 : b' = c
    · subst h2; simp [mi, h1]
    · simp [mi, h1, h2]
theorem si_sS {σ : Mm} {b k : Nat} {x : Int32} : si σ b k x = sS σ b (upd (mi σ b) k x) := by
  unfold si sS
  congr 1
  funext b' j
  by_cases h : b' = b
  · subst h
    by_cases h2 : j = k <;> simp [u2, upd, h2]
  · simp [u2, h]
theorem sS_r {σ : Mm} {b : Nat} {f : Nat → Int32} : mr (sS σ b f) = mr σ := rfl
theorem sS_t {σ : Mm} {b : Nat} {f : Nat → Int32} : mt (sS σ b f) = mt σ := rfl
theorem MS.sS {σ : Mm} {a b : Nat} {f : Nat → Int32} (h : MS σ a) : MS (sS σ b f) a := h.mv rfl rfl
theorem ix_jar (l : Nat) : (8 : Int32) + (3 : Int32) * (nI (97 + l) - (97 : Int32)) = nI (8 + 3 * l) := by
  rw [show (97 : Int32) = nI 97 from rfl, pk_sub (by omega), show (8 : Int32) = nI 8 from rfl, show (3 : Int32) = nI 3 from rfl, pk_mul, nI_add]
  congr 1; omega
/-- a whole number within bounds -/
def inB (x lo hi : Int32) : Prop := lo ≤ x ∧ x ≤ hi
theorem let_of {x : Int32} (h : ¬ x < (97 : Int32)) (h2 : ¬ (122 : Int32) < x) : ∃ l : Nat, l < 26 ∧ x = nI (97 + l) := by
  have h1 := Int32.not_lt.mp h
  have h3 := Int32.not_lt.mp h2
  rw [Int32.le_iff_toInt_le] at h1 h3
  have e1 : (97 : Int32).toInt = 97 := rfl
  have e2 : (122 : Int32).toInt = 122 := rfl
  refine ⟨(x.toInt - 97).toNat, by omega, ?_⟩
  apply Int32.toInt_inj.mp
  rw [nI_toInt (by omega)]
  omega
theorem let_ge {l : Nat} (h : l < 26) : ¬ nI (97 + l) < (97 : Int32) := by
  rw [show (97 : Int32) = nI 97 from rfl, nI_ltI (by omega) (by omega)]; omega
theorem let_le {l : Nat} (h : l < 26) : ¬ (122 : Int32) < nI (97 + l) := by
  rw [show (122 : Int32) = nI 122 from rfl, nI_ltI (by omega) (by omega)]; omega
/-- x is the letter of number l -/
def isL (x : Int32) : Prop := ∃ l : Nat, l < 26 ∧ x = nI (97 + l)
theorem isL_iff {x : Int32} : isL x ↔ ¬ x < (97 : Int32) ∧ ¬ (122 : Int32) < x := ⟨fun ⟨_, h, e⟩ => by subst e; exact ⟨let_ge h, let_le h⟩, fun h => let_of h.1 h.2⟩
noncomputable def bP (p : Prop) : Int32 := @b2 p (Classical.propDecidable p)
theorem bP_z (p : Prop) : isZ (bP p) := @b2_z p (Classical.propDecidable p)
theorem bP_t {p : Prop} (h : p) : bP p = 1 := if_pos h
theorem bP_f {p : Prop} (h : ¬ p) : bP p = 0 := if_neg h
theorem bP_0 {p : Prop} : bP p = 0 ↔ ¬ p := @b2_0 p (Classical.propDecidable p)
theorem bP_1 {p : Prop} : bP p = 1 ↔ p := @b2_1 p (Classical.propDecidable p)
theorem bP_iff {p q : Prop} (h : p ↔ q) : bP p = bP q := by rw [show p = q from propext h]
theorem i0_1 : ¬ (1 : Int32) = 0 := by decide
section MQ
variable {G : GG} {σ : Mm} {K : RES → Mm → Prop} {a : Nat}
/-- there is a jar of this letter -/
def jrP (P : Nat → Int32) (x : Int32) : Prop := ∃ l : Nat, l < 26 ∧ x = nI (97 + l) ∧ P (8 + 3 * l) = 1
theorem nIl_inj {l m : Nat} (hl : l < 26) (hm : m < 26) (h : nI (97 + l) = nI (97 + m)) : l = m := by
  have := (nI_eq (by omega) (by omega)).mp h
  omega
theorem jrP_l {P : Nat → Int32} {l : Nat} (hl : l < 26) : jrP P (nI (97 + l)) ↔ P (8 + 3 * l) = 1 := ⟨fun ⟨m, hm, e, h⟩ => by rw [nIl_inj hl hm e]; exact h, fun h => ⟨l, hl, rfl, h⟩⟩
end MQ
