/-! ===== the model: questions ===== -/
theorem th_r {σ : Mm} {a : Nat} {t : Int32} : mr (th σ a t) = mr σ := rfl
theorem th_t {σ : Mm} {a : Nat} {t : Int32} : mt (th σ a t) = mt σ := rfl
section MK
variable {G : GG} {σ : Mm} {K : RES → Mm → Prop} {a : Nat}
theorem isC_i2c (x : Int32) : isC (i2c x) := by
  unfold i2c
  rw [pk_char]
  exact isC_nI (Nat.mod_lt _ (by omega))
theorem cs_bP {p : Prop} {x : Prop} {A B : Int32 → Prop} (h : A (bP p)) (e : x = A (bP p)) : x := by rw [e]; exact h
theorem i20 : ((2 : Int32) = 0) = False := eq_false (by decide)
end MK
