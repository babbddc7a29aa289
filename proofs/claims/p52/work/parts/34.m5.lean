/-! ===== the model: what its modifications do ===== -/
theorem upd_same {f : Nat → Int32} {k : Nat} {x : Int32} (h : f k = x) : upd f k x = f := by
  funext j
  unfold upd
  split
  · next q => rw [q, h]
  · rfl
section MH
variable {G : GG} {σ : Mm} {K : RES → Mm → Prop} {a : Nat}
def aJ (P : Nat → Int32) (l : Nat) (w : Int32) : Nat → Int32 := upd (upd (upd (upd P (8 + 3 * l) 1) (8 + 3 * l + 1) w) (8 + 3 * l + 2) (P 3)) 3 (P 3 + 1)
def rmP (P : Nat → Int32) (l : Nat) : Nat → Nat → Int32
  | 0 => upd P (8 + 3 * l) 0
  | k + 1 => upd (rmP P l k) (eX k l) 0
def rmC (P : Nat → Int32) (l : Nat) : Nat → Int32
  | 0 => 0
  | k + 1 => rmC P l k + P (eX k l)
theorem rmP_o {P : Nat → Int32} {l : Nat} : ∀ {k j : Nat}, j ≠ 8 + 3 * l → (∀ i, i < k → j ≠ eX i l) → rmP P l k j = P j
  | 0, j, h, _ => pk_un h
  | k + 1, j, h, h2 => (pk_un (h2 k (by omega))).trans (rmP_o h fun i hi => h2 i (by omega))
def syI (P : Nat → Int32) (l k : Nat) : Prop := P (86 + 187 * k + 3) = 1 ∧ P (eX k l) = 1 ∧ P (eX k l + 6) = 0
def sy0 (P : Nat → Int32) (l : Nat) (w : Int32) : Nat → Int32 := upd (upd (upd P (8 + 3 * l + 1) w) (8 + 3 * l + 2) (P 3)) 3 (P 3 + 1)
noncomputable def syP (P : Nat → Int32) (l : Nat) (w : Int32) : Nat → Nat → Int32
  | 0 => sy0 P l w
  | k + 1 => @ite _ (syI P l k) (Classical.propDecidable _) (upd (syP P l w k) (eX k l + 6) 1) (syP P l w k)
theorem syP_o {P : Nat → Int32} {l : Nat} {w : Int32} : ∀ {k j : Nat}, j ≠ 8 + 3 * l + 1 → j ≠ 8 + 3 * l + 2 → j ≠ 3 → (∀ i, i < k → j ≠ eX i l + 6) → syP P l w k j = P j
  | 0, j, h1, h2, h3, _ => by unfold syP sy0; rw [pk_un h3, pk_un h2, pk_un h1]
  | k + 1, j, h1, h2, h3, h4 => by
    have ih := syP_o (P := P) (l := l) (w := w) (k := k) h1 h2 h3 fun i hi => h4 i (by omega)
    by_cases q : syI P l k
    · simp only [syP, q, if_true]
      rw [pk_un (h4 k (by omega))]
      exact ih
    · simp only [syP, q, if_false]
      exact ih
end MH
