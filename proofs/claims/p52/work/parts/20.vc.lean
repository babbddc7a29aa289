theorem vX0_init_0 {G : GG} (gk : GOK G) {σ : Mm} {K : RES → Mm → Prop} {x0 : Option Nat}
    (h : ∃ a1, x0 = some a1 ∧ (mt σ a1).1 = 1 ∧ ∀ σ3, σ3 = si σ a1 0 (-1 : Int32) → ∀ σ4, σ4 = si σ3 a1 1 (32 : Int32) → ∀ σ5, σ5 = si σ4 a1 2 (0 : Int32) → ∀ σ6, σ6 = si σ5 a1 3 (0 : Int32) → ∀ σ7, σ7 = si σ6 a1 4 (32 : Int32) → K (.inl none) σ7) : At G mX0_init rX0_init 0 0 0 [some (vR x0)] [] σ K := by
  refine s_aload_n (i := 0) dX0_init_0 rfl rfl ?_
  obtain ⟨a1, ea1, h⟩ := h
  refine t_objInit gk dX0_init_1 w_256 (by decide) (by decide) ea1 ?_
  refine s_aload_n (i := 0) dX0_init_4 rfl rfl ?_
  refine s_iconst (v := -1) dX0_init_5 (by decide) ?_
  obtain ⟨t2, h⟩ := h
  refine t_putI gk dX0_init_6 fX0_9 rfl rfl ea1 t2 ⟨rfl, rfl⟩ (fun σ3 eσ3 mσ3 => ?_)
  replace h := h σ3 eσ3
  refine s_aload_n (i := 0) dX0_init_9 rfl rfl ?_
  refine s_bipush (v := 32) dX0_init_10 (by decide) ?_
  refine t_putI gk dX0_init_12 fX0_15 rfl rfl ea1 (by rw [mσ3]; exact t2) ⟨rfl, rfl⟩ (fun σ4 eσ4 mσ4 => ?_)
  replace h := h σ4 eσ4
  refine s_aload_n (i := 0) dX0_init_15 rfl rfl ?_
  refine s_iconst (v := 0) dX0_init_16 (by decide) ?_
  refine t_putI gk dX0_init_17 fX0_19 rfl rfl ea1 (by rw [mσ4, mσ3]; exact t2) ⟨rfl, rfl⟩ (fun σ5 eσ5 mσ5 => ?_)
  replace h := h σ5 eσ5
  refine s_aload_n (i := 0) dX0_init_20 rfl rfl ?_
  refine s_iconst (v := 0) dX0_init_21 (by decide) ?_
  refine t_putI gk dX0_init_22 fX0_22 rfl rfl ea1 (by rw [mσ5, mσ4, mσ3]; exact t2) ⟨rfl, rfl⟩ (fun σ6 eσ6 mσ6 => ?_)
  replace h := h σ6 eσ6
  refine s_aload_n (i := 0) dX0_init_25 rfl rfl ?_
  refine s_bipush (v := 32) dX0_init_26 (by decide) ?_
  refine t_putI gk dX0_init_28 fX0_25 rfl rfl ea1 (by rw [mσ6, mσ5, mσ4, mσ3]; exact t2) ⟨rfl, rfl⟩ (fun σ7 eσ7 mσ7 => ?_)
  replace h := h σ7 eσ7
  exact s_return dX0_init_31 rfl (by decide) (by decide) h
theorem eX0_init {G : GG} (gk : GOK G) {σ : Mm} {K : RES → Mm → Prop} {x0 : Option Nat}
    (h : ∃ a1, x0 = some a1 ∧ (mt σ a1).1 = 1 ∧ ∀ σ3, σ3 = si σ a1 0 (-1 : Int32) → ∀ σ4, σ4 = si σ3 a1 1 (32 : Int32) → ∀ σ5, σ5 = si σ4 a1 2 (0 : Int32) → ∀ σ6, σ6 = si σ5 a1 3 (0 : Int32) → ∀ σ7, σ7 = si σ6 a1 4 (32 : Int32) → K (.inl none) σ7) : Runs G mX0_init rX0_init [(vR x0)] σ K := Runs.of (by decide) rfl (Nat.le_of_ble_eq_true rfl) (vX0_init_0 gk h)
theorem vX2_init_0 {G : GG} (gk : GOK G) {σ : Mm} {K : RES → Mm → Prop} {x0 : Option Nat}
    (h : ∃ a1, x0 = some a1 ∧ (mt σ a1).1 = 3 ∧ ∀ σ3, σ3 = si σ a1 0 (0 : Int32) → ∀ σ4, σ4 = si σ3 a1 1 (32 : Int32) → ∀ σ5, σ5 = si σ4 a1 2 (0 : Int32) → ∀ σ6, σ6 = si σ5 a1 3 (0 : Int32) → ∀ σ7, σ7 = si σ6 a1 4 (0 : Int32) → ∀ σ8, σ8 = si σ7 a1 5 (0 : Int32) → ∀ σ9, σ9 = si σ8 a1 6 (0 : Int32) → ∀ σ10, σ10 = si σ9 a1 7 (0 : Int32) → ∀ σ11, σ11 = si σ10 a1 8 (0 : Int32) → K (.inl none) σ11) : At G mX2_init rX2_init 0 0 0 [some (vR x0)] [] σ K := by
  refine s_aload_n (i := 0) dX2_init_0 rfl rfl ?_
  obtain ⟨a1, ea1, h⟩ := h
  refine t_objInit gk dX2_init_1 w_91 (by decide) (by decide) ea1 ?_
  refine s_aload_n (i := 0) dX2_init_4 rfl rfl ?_
  refine s_iconst (v := 0) dX2_init_5 (by decide) ?_
  obtain ⟨t2, h⟩ := h
  refine t_putI gk dX2_init_6 fX2_9 rfl rfl ea1 t2 ⟨rfl, rfl⟩ (fun σ3 eσ3 mσ3 => ?_)
  replace h := h σ3 eσ3
  refine s_aload_n (i := 0) dX2_init_9 rfl rfl ?_
  refine s_bipush (v := 32) dX2_init_10 (by decide) ?_
  refine t_putI gk dX2_init_12 fX2_15 rfl rfl ea1 (by rw [mσ3]; exact t2) ⟨rfl, rfl⟩ (fun σ4 eσ4 mσ4 => ?_)
  replace h := h σ4 eσ4
  refine s_aload_n (i := 0) dX2_init_15 rfl rfl ?_
  refine s_iconst (v := 0) dX2_init_16 (by decide) ?_
  refine t_putI gk dX2_init_17 fX2_19 rfl rfl ea1 (by rw [mσ4, mσ3]; exact t2) ⟨rfl, rfl⟩ (fun σ5 eσ5 mσ5 => ?_)
  replace h := h σ5 eσ5
  refine s_aload_n (i := 0) dX2_init_20 rfl rfl ?_
  refine s_iconst (v := 0) dX2_init_21 (by decide) ?_
  refine t_putI gk dX2_init_22 fX2_23 rfl rfl ea1 (by rw [mσ5, mσ4, mσ3]; exact t2) ⟨rfl, rfl⟩ (fun σ6 eσ6 mσ6 => ?_)
  replace h := h σ6 eσ6
  refine s_aload_n (i := 0) dX2_init_25 rfl rfl ?_
  refine s_iconst (v := 0) dX2_init_26 (by decide) ?_
  refine t_putI gk dX2_init_27 fX2_26 rfl rfl ea1 (by rw [mσ6, mσ5, mσ4, mσ3]; exact t2) ⟨rfl, rfl⟩ (fun σ7 eσ7 mσ7 => ?_)
  replace h := h σ7 eσ7
  refine s_aload_n (i := 0) dX2_init_30 rfl rfl ?_
  refine s_iconst (v := 0) dX2_init_31 (by decide) ?_
  refine t_putI gk dX2_init_32 fX2_29 rfl rfl ea1 (by rw [mσ7, mσ6, mσ5, mσ4, mσ3]; exact t2) ⟨rfl, rfl⟩ (fun σ8 eσ8 mσ8 => ?_)
  replace h := h σ8 eσ8
  refine s_aload_n (i := 0) dX2_init_35 rfl rfl ?_
  refine s_iconst (v := 0) dX2_init_36 (by decide) ?_
  refine t_putI gk dX2_init_37 fX2_32 rfl rfl ea1 (by rw [mσ8, mσ7, mσ6, mσ5, mσ4, mσ3]; exact t2) ⟨rfl, rfl⟩ (fun σ9 eσ9 mσ9 => ?_)
  replace h := h σ9 eσ9
  refine s_aload_n (i := 0) dX2_init_40 rfl rfl ?_
  refine s_iconst (v := 0) dX2_init_41 (by decide) ?_
  refine t_putI gk dX2_init_42 fX2_35 rfl rfl ea1 (by rw [mσ9, mσ8, mσ7, mσ6, mσ5, mσ4, mσ3]; exact t2) ⟨rfl, rfl⟩ (fun σ10 eσ10 mσ10 => ?_)
  replace h := h σ10 eσ10
  refine s_aload_n (i := 0) dX2_init_45 rfl rfl ?_
  refine s_iconst (v := 0) dX2_init_46 (by decide) ?_
  refine t_putI gk dX2_init_47 fX2_38 rfl rfl ea1 (by rw [mσ10, mσ9, mσ8, mσ7, mσ6, mσ5, mσ4, mσ3]; exact t2) ⟨rfl, rfl⟩ (fun σ11 eσ11 mσ11 => ?_)
  replace h := h σ11 eσ11
  exact s_return dX2_init_50 rfl (by decide) (by decide) h
theorem eX2_init {G : GG} (gk : GOK G) {σ : Mm} {K : RES → Mm → Prop} {x0 : Option Nat}
    (h : ∃ a1, x0 = some a1 ∧ (mt σ a1).1 = 3 ∧ ∀ σ3, σ3 = si σ a1 0 (0 : Int32) → ∀ σ4, σ4 = si σ3 a1 1 (32 : Int32) → ∀ σ5, σ5 = si σ4 a1 2 (0 : Int32) → ∀ σ6, σ6 = si σ5 a1 3 (0 : Int32) → ∀ σ7, σ7 = si σ6 a1 4 (0 : Int32) → ∀ σ8, σ8 = si σ7 a1 5 (0 : Int32) → ∀ σ9, σ9 = si σ8 a1 6 (0 : Int32) → ∀ σ10, σ10 = si σ9 a1 7 (0 : Int32) → ∀ σ11, σ11 = si σ10 a1 8 (0 : Int32) → K (.inl none) σ11) : Runs G mX2_init rX2_init [(vR x0)] σ K := Runs.of (by decide) rfl (Nat.le_of_ble_eq_true rfl) (vX2_init_0 gk h)
theorem vX2_copyFrom_0 {G : GG} (gk : GOK G) {σ : Mm} {K : RES → Mm → Prop} {x0 : Option Nat} {x1 : Option Nat}
    (h : ∃ a1, x1 = some a1 ∧ (mt σ a1).1 = 3 ∧ ∃ a3, x0 = some a3 ∧ (mt σ a3).1 = 3 ∧ isZ (mi σ a1 0) ∧ ∀ σ5, σ5 = si σ a3 0 (mi σ a1 0) → isC (mi σ5 a1 1) ∧ ∀ σ7, σ7 = si σ5 a3 1 (mi σ5 a1 1) → ∀ σ9, σ9 = si σ7 a3 2 (mi σ7 a1 2) → ∀ σ10, σ10 = si σ9 a3 3 (mi σ9 a1 3) → ∀ σ11, σ11 = si σ10 a3 4 (mi σ10 a1 4) → ∀ σ12, σ12 = si σ11 a3 5 (mi σ11 a1 5) → ∀ σ13, σ13 = si σ12 a3 6 (mi σ12 a1 6) → ∀ σ14, σ14 = si σ13 a3 7 (mi σ13 a1 7) → isZ (mi σ14 a1 8) ∧ ∀ σ15, σ15 = si σ14 a3 8 (mi σ14 a1 8) → K (.inl none) σ15) : At G mX2_copyFrom rX2_copyFrom 0 0 0 [some (vR x0), some (vR x1)] [] σ K := by
  refine s_aload_n (i := 0) dX2_copyFrom_0 rfl rfl ?_
  refine s_aload_n (i := 1) dX2_copyFrom_1 rfl rfl ?_
  obtain ⟨a1, ea1, h⟩ := h
  obtain ⟨t2, h⟩ := h
  refine t_getI gk dX2_copyFrom_2 fX2_9 rfl ea1 t2 ?_
  obtain ⟨a3, ea3, h⟩ := h
  obtain ⟨t4, h⟩ := h
  obtain ⟨c6, h⟩ := h
  refine t_putI gk dX2_copyFrom_5 fX2_9 rfl rfl ea3 t4 (nf_z c6) (fun σ5 eσ5 mσ5 => ?_)
  replace h := h σ5 eσ5
  refine s_aload_n (i := 0) dX2_copyFrom_8 rfl rfl ?_
  refine s_aload_n (i := 1) dX2_copyFrom_9 rfl rfl ?_
  refine t_getI gk dX2_copyFrom_10 fX2_15 rfl ea1 (by rw [mσ5]; exact t2) ?_
  obtain ⟨c8, h⟩ := h
  refine t_putI gk dX2_copyFrom_13 fX2_15 rfl rfl ea3 (by rw [mσ5]; exact t4) (nf_c c8) (fun σ7 eσ7 mσ7 => ?_)
  replace h := h σ7 eσ7
  refine s_aload_n (i := 0) dX2_copyFrom_16 rfl rfl ?_
  refine s_aload_n (i := 1) dX2_copyFrom_17 rfl rfl ?_
  refine t_getI gk dX2_copyFrom_18 fX2_19 rfl ea1 (by rw [mσ7, mσ5]; exact t2) ?_
  refine t_putI gk dX2_copyFrom_21 fX2_19 rfl rfl ea3 (by rw [mσ7, mσ5]; exact t4) ⟨rfl, rfl⟩ (fun σ9 eσ9 mσ9 => ?_)
  replace h := h σ9 eσ9
  refine s_aload_n (i := 0) dX2_copyFrom_24 rfl rfl ?_
  refine s_aload_n (i := 1) dX2_copyFrom_25 rfl rfl ?_
  refine t_getI gk dX2_copyFrom_26 fX2_23 rfl ea1 (by rw [mσ9, mσ7, mσ5]; exact t2) ?_
  refine t_putI gk dX2_copyFrom_29 fX2_23 rfl rfl ea3 (by rw [mσ9, mσ7, mσ5]; exact t4) ⟨rfl, rfl⟩ (fun σ10 eσ10 mσ10 => ?_)
  replace h := h σ10 eσ10
  refine s_aload_n (i := 0) dX2_copyFrom_32 rfl rfl ?_
  refine s_aload_n (i := 1) dX2_copyFrom_33 rfl rfl ?_
  refine t_getI gk dX2_copyFrom_34 fX2_26 rfl ea1 (by rw [mσ10, mσ9, mσ7, mσ5]; exact t2) ?_
  refine t_putI gk dX2_copyFrom_37 fX2_26 rfl rfl ea3 (by rw [mσ10, mσ9, mσ7, mσ5]; exact t4) ⟨rfl, rfl⟩ (fun σ11 eσ11 mσ11 => ?_)
  replace h := h σ11 eσ11
  refine s_aload_n (i := 0) dX2_copyFrom_40 rfl rfl ?_
  refine s_aload_n (i := 1) dX2_copyFrom_41 rfl rfl ?_
  refine t_getI gk dX2_copyFrom_42 fX2_29 rfl ea1 (by rw [mσ11, mσ10, mσ9, mσ7, mσ5]; exact t2) ?_
  refine t_putI gk dX2_copyFrom_45 fX2_29 rfl rfl ea3 (by rw [mσ11, mσ10, mσ9, mσ7, mσ5]; exact t4) ⟨rfl, rfl⟩ (fun σ12 eσ12 mσ12 => ?_)
  replace h := h σ12 eσ12
  refine s_aload_n (i := 0) dX2_copyFrom_48 rfl rfl ?_
  refine s_aload_n (i := 1) dX2_copyFrom_49 rfl rfl ?_
  refine t_getI gk dX2_copyFrom_50 fX2_32 rfl ea1 (by rw [mσ12, mσ11, mσ10, mσ9, mσ7, mσ5]; exact t2) ?_
  refine t_putI gk dX2_copyFrom_53 fX2_32 rfl rfl ea3 (by rw [mσ12, mσ11, mσ10, mσ9, mσ7, mσ5]; exact t4) ⟨rfl, rfl⟩ (fun σ13 eσ13 mσ13 => ?_)
  replace h := h σ13 eσ13
  refine s_aload_n (i := 0) dX2_copyFrom_56 rfl rfl ?_
  refine s_aload_n (i := 1) dX2_copyFrom_57 rfl rfl ?_
  refine t_getI gk dX2_copyFrom_58 fX2_35 rfl ea1 (by rw [mσ13, mσ12, mσ11, mσ10, mσ9, mσ7, mσ5]; exact t2) ?_
  refine t_putI gk dX2_copyFrom_61 fX2_35 rfl rfl ea3 (by rw [mσ13, mσ12, mσ11, mσ10, mσ9, mσ7, mσ5]; exact t4) ⟨rfl, rfl⟩ (fun σ14 eσ14 mσ14 => ?_)
  replace h := h σ14 eσ14
  refine s_aload_n (i := 0) dX2_copyFrom_64 rfl rfl ?_
  refine s_aload_n (i := 1) dX2_copyFrom_65 rfl rfl ?_
  refine t_getI gk dX2_copyFrom_66 fX2_38 rfl ea1 (by rw [mσ14, mσ13, mσ12, mσ11, mσ10, mσ9, mσ7, mσ5]; exact t2) ?_
  obtain ⟨c16, h⟩ := h
  refine t_putI gk dX2_copyFrom_69 fX2_38 rfl rfl ea3 (by rw [mσ14, mσ13, mσ12, mσ11, mσ10, mσ9, mσ7, mσ5]; exact t4) (nf_z c16) (fun σ15 eσ15 mσ15 => ?_)
  replace h := h σ15 eσ15
  exact s_return dX2_copyFrom_72 rfl (by decide) (by decide) h
theorem eX2_copyFrom {G : GG} (gk : GOK G) {σ : Mm} {K : RES → Mm → Prop} {x0 : Option Nat} {x1 : Option Nat}
    (h : ∃ a1, x1 = some a1 ∧ (mt σ a1).1 = 3 ∧ ∃ a3, x0 = some a3 ∧ (mt σ a3).1 = 3 ∧ isZ (mi σ a1 0) ∧ ∀ σ5, σ5 = si σ a3 0 (mi σ a1 0) → isC (mi σ5 a1 1) ∧ ∀ σ7, σ7 = si σ5 a3 1 (mi σ5 a1 1) → ∀ σ9, σ9 = si σ7 a3 2 (mi σ7 a1 2) → ∀ σ10, σ10 = si σ9 a3 3 (mi σ9 a1 3) → ∀ σ11, σ11 = si σ10 a3 4 (mi σ10 a1 4) → ∀ σ12, σ12 = si σ11 a3 5 (mi σ11 a1 5) → ∀ σ13, σ13 = si σ12 a3 6 (mi σ12 a1 6) → ∀ σ14, σ14 = si σ13 a3 7 (mi σ13 a1 7) → isZ (mi σ14 a1 8) ∧ ∀ σ15, σ15 = si σ14 a3 8 (mi σ14 a1 8) → K (.inl none) σ15) : Runs G mX2_copyFrom rX2_copyFrom [(vR x0), (vR x1)] σ K := Runs.of (by decide) rfl (Nat.le_of_ble_eq_true rfl) (vX2_copyFrom_0 gk h)
theorem vX2_fill_0 {G : GG} (gk : GOK G) {σ : Mm} {K : RES → Mm → Prop} {x0 : Option Nat} {x1 : Int32} {x2 : Option Nat} {x3 : Int32} {x4 : Int32}
    (h : ∃ a1, x0 = some a1 ∧ (mt σ a1).1 = 3 ∧ ∀ σ3, σ3 = si σ a1 0 (1 : Int32) → isC x1 ∧ ∀ σ4, σ4 = si σ3 a1 1 x1 → ∃ a6, x2 = some a6 ∧ (mt σ a6).1 = 5 ∧ ∀ σ8, σ8 = si σ4 a1 2 (mi σ4 a6 1) → ∀ σ9, σ9 = si σ8 a1 3 x3 → ∀ σ10, σ10 = si σ9 a1 4 x4 → ∀ σ11, σ11 = si σ10 a1 5 x4 → ∀ σ12, σ12 = si σ11 a1 6 (0 : Int32) → ∀ σ13, σ13 = si σ12 a1 7 (mi σ12 a6 2) → ∀ σ14, σ14 = si σ13 a1 8 (0 : Int32) → K (.inl none) σ14) : At G mX2_fill rX2_fill 0 0 0 [some (vR x0), some (vI x1), some (vR x2), some (vI x3), some (vI x4)] [] σ K := by
  refine s_aload_n (i := 0) dX2_fill_0 rfl rfl ?_
  refine s_iconst (v := 1) dX2_fill_1 (by decide) ?_
  obtain ⟨a1, ea1, h⟩ := h
  obtain ⟨t2, h⟩ := h
  refine t_putI gk dX2_fill_2 fX2_9 rfl rfl ea1 t2 ⟨rfl, rfl⟩ (fun σ3 eσ3 mσ3 => ?_)
  replace h := h σ3 eσ3
  refine s_aload_n (i := 0) dX2_fill_5 rfl rfl ?_
  refine s_iload_n (i := 1) dX2_fill_6 rfl rfl ?_
  obtain ⟨c5, h⟩ := h
  refine t_putI gk dX2_fill_7 fX2_15 rfl rfl ea1 (by rw [mσ3]; exact t2) (nf_c c5) (fun σ4 eσ4 mσ4 => ?_)
  replace h := h σ4 eσ4
  refine s_aload_n (i := 0) dX2_fill_10 rfl rfl ?_
  refine s_aload_n (i := 2) dX2_fill_11 rfl rfl ?_
  obtain ⟨a6, ea6, h⟩ := h
  obtain ⟨t7, h⟩ := h
  refine t_getI gk dX2_fill_12 fX2_41 rfl ea6 (by rw [mσ4, mσ3]; exact t7) ?_
  refine t_putI gk dX2_fill_15 fX2_19 rfl rfl ea1 (by rw [mσ4, mσ3]; exact t2) ⟨rfl, rfl⟩ (fun σ8 eσ8 mσ8 => ?_)
  replace h := h σ8 eσ8
  refine s_aload_n (i := 0) dX2_fill_18 rfl rfl ?_
  refine s_iload_n (i := 3) dX2_fill_19 rfl rfl ?_
  refine t_putI gk dX2_fill_20 fX2_23 rfl rfl ea1 (by rw [mσ8, mσ4, mσ3]; exact t2) ⟨rfl, rfl⟩ (fun σ9 eσ9 mσ9 => ?_)
  replace h := h σ9 eσ9
  refine s_aload_n (i := 0) dX2_fill_23 rfl rfl ?_
  refine s_iload dX2_fill_24 rfl ?_
  refine t_putI gk dX2_fill_26 fX2_26 rfl rfl ea1 (by rw [mσ9, mσ8, mσ4, mσ3]; exact t2) ⟨rfl, rfl⟩ (fun σ10 eσ10 mσ10 => ?_)
  replace h := h σ10 eσ10
  refine s_aload_n (i := 0) dX2_fill_29 rfl rfl ?_
  refine s_iload dX2_fill_30 rfl ?_
  refine t_putI gk dX2_fill_32 fX2_29 rfl rfl ea1 (by rw [mσ10, mσ9, mσ8, mσ4, mσ3]; exact t2) ⟨rfl, rfl⟩ (fun σ11 eσ11 mσ11 => ?_)
  replace h := h σ11 eσ11
  refine s_aload_n (i := 0) dX2_fill_35 rfl rfl ?_
  refine s_iconst (v := 0) dX2_fill_36 (by decide) ?_
  refine t_putI gk dX2_fill_37 fX2_32 rfl rfl ea1 (by rw [mσ11, mσ10, mσ9, mσ8, mσ4, mσ3]; exact t2) ⟨rfl, rfl⟩ (fun σ12 eσ12 mσ12 => ?_)
  replace h := h σ12 eσ12
  refine s_aload_n (i := 0) dX2_fill_40 rfl rfl ?_
  refine s_aload_n (i := 2) dX2_fill_41 rfl rfl ?_
  refine t_getI gk dX2_fill_42 fX2_44 rfl ea6 (by rw [mσ12, mσ11, mσ10, mσ9, mσ8, mσ4, mσ3]; exact t7) ?_
  refine t_putI gk dX2_fill_45 fX2_35 rfl rfl ea1 (by rw [mσ12, mσ11, mσ10, mσ9, mσ8, mσ4, mσ3]; exact t2) ⟨rfl, rfl⟩ (fun σ13 eσ13 mσ13 => ?_)
  replace h := h σ13 eσ13
  refine s_aload_n (i := 0) dX2_fill_48 rfl rfl ?_
  refine s_iconst (v := 0) dX2_fill_49 (by decide) ?_
  refine t_putI gk dX2_fill_50 fX2_38 rfl rfl ea1 (by rw [mσ13, mσ12, mσ11, mσ10, mσ9, mσ8, mσ4, mσ3]; exact t2) ⟨rfl, rfl⟩ (fun σ14 eσ14 mσ14 => ?_)
  replace h := h σ14 eσ14
  exact s_return dX2_fill_53 rfl (by decide) (by decide) h
theorem eX2_fill {G : GG} (gk : GOK G) {σ : Mm} {K : RES → Mm → Prop} {x0 : Option Nat} {x1 : Int32} {x2 : Option Nat} {x3 : Int32} {x4 : Int32}
    (h : ∃ a1, x0 = some a1 ∧ (mt σ a1).1 = 3 ∧ ∀ σ3, σ3 = si σ a1 0 (1 : Int32) → isC x1 ∧ ∀ σ4, σ4 = si σ3 a1 1 x1 → ∃ a6, x2 = some a6 ∧ (mt σ a6).1 = 5 ∧ ∀ σ8, σ8 = si σ4 a1 2 (mi σ4 a6 1) → ∀ σ9, σ9 = si σ8 a1 3 x3 → ∀ σ10, σ10 = si σ9 a1 4 x4 → ∀ σ11, σ11 = si σ10 a1 5 x4 → ∀ σ12, σ12 = si σ11 a1 6 (0 : Int32) → ∀ σ13, σ13 = si σ12 a1 7 (mi σ12 a6 2) → ∀ σ14, σ14 = si σ13 a1 8 (0 : Int32) → K (.inl none) σ14) : Runs G mX2_fill rX2_fill [(vR x0), (vI x1), (vR x2), (vI x3), (vI x4)] σ K := Runs.of (by decide) rfl (Nat.le_of_ble_eq_true rfl) (vX2_fill_0 gk h)
theorem vX2_age_0 {G : GG} (gk : GOK G) {σ : Mm} {K : RES → Mm → Prop} {x0 : Option Nat} {x1 : Int32}
    (h : ∃ a1, x0 = some a1 ∧ (mt σ a1).1 = 3 ∧ K (.inl (some (vI (x1 - (mi σ a1 3))))) σ) : At G mX2_age rX2_age 0 0 0 [some (vR x0), some (vI x1)] [] σ K := by
  refine s_iload_n (i := 1) dX2_age_0 rfl rfl ?_
  refine s_aload_n (i := 0) dX2_age_1 rfl rfl ?_
  obtain ⟨a1, ea1, h⟩ := h
  obtain ⟨t2, h⟩ := h
  refine t_getI gk dX2_age_2 fX2_23 rfl ea1 t2 ?_
  refine s_isub dX2_age_5 ?_
  exact s_ireturn dX2_age_6 rfl rfl (by decide) (by decide) h
theorem eX2_age {G : GG} (gk : GOK G) {σ : Mm} {K : RES → Mm → Prop} {x0 : Option Nat} {x1 : Int32}
    (h : ∃ a1, x0 = some a1 ∧ (mt σ a1).1 = 3 ∧ K (.inl (some (vI (x1 - (mi σ a1 3))))) σ) : Runs G mX2_age rX2_age [(vR x0), (vI x1)] σ K := Runs.of (by decide) rfl (Nat.le_of_ble_eq_true rfl) (vX2_age_0 gk h)
theorem vX4_init_0 {G : GG} (gk : GOK G) {σ : Mm} {K : RES → Mm → Prop} {x0 : Option Nat}
    (h : ∃ a1, x0 = some a1 ∧ (mt σ a1).1 = 5 ∧ ∀ σ3, σ3 = si σ a1 0 (0 : Int32) → ∀ σ4, σ4 = si σ3 a1 1 (0 : Int32) → ∀ σ5, σ5 = si σ4 a1 2 (0 : Int32) → ∀ σ6, σ6 = si σ5 a1 3 (0 : Int32) → K (.inl none) σ6) : At G mX4_init rX4_init 0 0 0 [some (vR x0)] [] σ K := by
  refine s_aload_n (i := 0) dX4_init_0 rfl rfl ?_
  obtain ⟨a1, ea1, h⟩ := h
  refine t_objInit gk dX4_init_1 w_59 (by decide) (by decide) ea1 ?_
  refine s_aload_n (i := 0) dX4_init_4 rfl rfl ?_
  refine s_iconst (v := 0) dX4_init_5 (by decide) ?_
  obtain ⟨t2, h⟩ := h
  refine t_putI gk dX4_init_6 fX4_7 rfl rfl ea1 t2 ⟨rfl, rfl⟩ (fun σ3 eσ3 mσ3 => ?_)
  replace h := h σ3 eσ3
  refine s_aload_n (i := 0) dX4_init_9 rfl rfl ?_
  refine s_iconst (v := 0) dX4_init_10 (by decide) ?_
  refine t_putI gk dX4_init_11 fX4_13 rfl rfl ea1 (by rw [mσ3]; exact t2) ⟨rfl, rfl⟩ (fun σ4 eσ4 mσ4 => ?_)
  replace h := h σ4 eσ4
  refine s_aload_n (i := 0) dX4_init_14 rfl rfl ?_
  refine s_iconst (v := 0) dX4_init_15 (by decide) ?_
  refine t_putI gk dX4_init_16 fX4_17 rfl rfl ea1 (by rw [mσ4, mσ3]; exact t2) ⟨rfl, rfl⟩ (fun σ5 eσ5 mσ5 => ?_)
  replace h := h σ5 eσ5
  refine s_aload_n (i := 0) dX4_init_19 rfl rfl ?_
  refine s_iconst (v := 0) dX4_init_20 (by decide) ?_
  refine t_putI gk dX4_init_21 fX4_20 rfl rfl ea1 (by rw [mσ5, mσ4, mσ3]; exact t2) ⟨rfl, rfl⟩ (fun σ6 eσ6 mσ6 => ?_)
  replace h := h σ6 eσ6
  exact s_return dX4_init_24 rfl (by decide) (by decide) h
theorem eX4_init {G : GG} (gk : GOK G) {σ : Mm} {K : RES → Mm → Prop} {x0 : Option Nat}
    (h : ∃ a1, x0 = some a1 ∧ (mt σ a1).1 = 5 ∧ ∀ σ3, σ3 = si σ a1 0 (0 : Int32) → ∀ σ4, σ4 = si σ3 a1 1 (0 : Int32) → ∀ σ5, σ5 = si σ4 a1 2 (0 : Int32) → ∀ σ6, σ6 = si σ5 a1 3 (0 : Int32) → K (.inl none) σ6) : Runs G mX4_init rX4_init [(vR x0)] σ K := Runs.of (by decide) rfl (Nat.le_of_ble_eq_true rfl) (vX4_init_0 gk h)
theorem vX4_copyFrom_0 {G : GG} (gk : GOK G) {σ : Mm} {K : RES → Mm → Prop} {x0 : Option Nat} {x1 : Option Nat}
    (h : ∃ a1, x1 = some a1 ∧ (mt σ a1).1 = 5 ∧ ∃ a3, x0 = some a3 ∧ (mt σ a3).1 = 5 ∧ isZ (mi σ a1 0) ∧ ∀ σ5, σ5 = si σ a3 0 (mi σ a1 0) → ∀ σ7, σ7 = si σ5 a3 1 (mi σ5 a1 1) → ∀ σ8, σ8 = si σ7 a3 2 (mi σ7 a1 2) → ∀ σ9, σ9 = si σ8 a3 3 (mi σ8 a1 3) → K (.inl none) σ9) : At G mX4_copyFrom rX4_copyFrom 0 0 0 [some (vR x0), some (vR x1)] [] σ K := by
  refine s_aload_n (i := 0) dX4_copyFrom_0 rfl rfl ?_
  refine s_aload_n (i := 1) dX4_copyFrom_1 rfl rfl ?_
  obtain ⟨a1, ea1, h⟩ := h
  obtain ⟨t2, h⟩ := h
  refine t_getI gk dX4_copyFrom_2 fX4_7 rfl ea1 t2 ?_
  obtain ⟨a3, ea3, h⟩ := h
  obtain ⟨t4, h⟩ := h
  obtain ⟨c6, h⟩ := h
  refine t_putI gk dX4_copyFrom_5 fX4_7 rfl rfl ea3 t4 (nf_z c6) (fun σ5 eσ5 mσ5 => ?_)
  replace h := h σ5 eσ5
  refine s_aload_n (i := 0) dX4_copyFrom_8 rfl rfl ?_
  refine s_aload_n (i := 1) dX4_copyFrom_9 rfl rfl ?_
  refine t_getI gk dX4_copyFrom_10 fX4_13 rfl ea1 (by rw [mσ5]; exact t2) ?_
  refine t_putI gk dX4_copyFrom_13 fX4_13 rfl rfl ea3 (by rw [mσ5]; exact t4) ⟨rfl, rfl⟩ (fun σ7 eσ7 mσ7 => ?_)
  replace h := h σ7 eσ7
  refine s_aload_n (i := 0) dX4_copyFrom_16 rfl rfl ?_
  refine s_aload_n (i := 1) dX4_copyFrom_17 rfl rfl ?_
  refine t_getI gk dX4_copyFrom_18 fX4_17 rfl ea1 (by rw [mσ7, mσ5]; exact t2) ?_
  refine t_putI gk dX4_copyFrom_21 fX4_17 rfl rfl ea3 (by rw [mσ7, mσ5]; exact t4) ⟨rfl, rfl⟩ (fun σ8 eσ8 mσ8 => ?_)
  replace h := h σ8 eσ8
  refine s_aload_n (i := 0) dX4_copyFrom_24 rfl rfl ?_
  refine s_aload_n (i := 1) dX4_copyFrom_25 rfl rfl ?_
  refine t_getI gk dX4_copyFrom_26 fX4_20 rfl ea1 (by rw [mσ8, mσ7, mσ5]; exact t2) ?_
  refine t_putI gk dX4_copyFrom_29 fX4_20 rfl rfl ea3 (by rw [mσ8, mσ7, mσ5]; exact t4) ⟨rfl, rfl⟩ (fun σ9 eσ9 mσ9 => ?_)
  replace h := h σ9 eσ9
  exact s_return dX4_copyFrom_32 rfl (by decide) (by decide) h
theorem eX4_copyFrom {G : GG} (gk : GOK G) {σ : Mm} {K : RES → Mm → Prop} {x0 : Option Nat} {x1 : Option Nat}
    (h : ∃ a1, x1 = some a1 ∧ (mt σ a1).1 = 5 ∧ ∃ a3, x0 = some a3 ∧ (mt σ a3).1 = 5 ∧ isZ (mi σ a1 0) ∧ ∀ σ5, σ5 = si σ a3 0 (mi σ a1 0) → ∀ σ7, σ7 = si σ5 a3 1 (mi σ5 a1 1) → ∀ σ8, σ8 = si σ7 a3 2 (mi σ7 a1 2) → ∀ σ9, σ9 = si σ8 a3 3 (mi σ8 a1 3) → K (.inl none) σ9) : Runs G mX4_copyFrom rX4_copyFrom [(vR x0), (vR x1)] σ K := Runs.of (by decide) rfl (Nat.le_of_ble_eq_true rfl) (vX4_copyFrom_0 gk h)
theorem vX4_speak_0 {G : GG} (gk : GOK G) {σ : Mm} {K : RES → Mm → Prop} {x0 : Option Nat} {x1 : Int32} {x2 : Int32}
    (h : ∃ a1, x0 = some a1 ∧ (mt σ a1).1 = 5 ∧ ∀ σ3, σ3 = si σ a1 1 x1 → ∀ σ4, σ4 = si σ3 a1 2 ((mi σ3 a1 2) + (1 : Int32)) → ∀ σ5, σ5 = si σ4 a1 3 x2 → K (.inl none) σ5) : At G mX4_speak rX4_speak 0 0 0 [some (vR x0), some (vI x1), some (vI x2)] [] σ K := by
  refine s_aload_n (i := 0) dX4_speak_0 rfl rfl ?_
  refine s_iload_n (i := 1) dX4_speak_1 rfl rfl ?_
  obtain ⟨a1, ea1, h⟩ := h
  obtain ⟨t2, h⟩ := h
  refine t_putI gk dX4_speak_2 fX4_13 rfl rfl ea1 t2 ⟨rfl, rfl⟩ (fun σ3 eσ3 mσ3 => ?_)
  replace h := h σ3 eσ3
  refine s_aload_n (i := 0) dX4_speak_5 rfl rfl ?_
  refine s_dup dX4_speak_6 rfl ?_
  refine t_getI gk dX4_speak_7 fX4_17 rfl ea1 (by rw [mσ3]; exact t2) ?_
  refine s_iconst (v := 1) dX4_speak_10 (by decide) ?_
  refine s_iadd dX4_speak_11 ?_
  refine t_putI gk dX4_speak_12 fX4_17 rfl rfl ea1 (by rw [mσ3]; exact t2) ⟨rfl, rfl⟩ (fun σ4 eσ4 mσ4 => ?_)
  replace h := h σ4 eσ4
  refine s_aload_n (i := 0) dX4_speak_15 rfl rfl ?_
  refine s_iload_n (i := 2) dX4_speak_16 rfl rfl ?_
  refine t_putI gk dX4_speak_17 fX4_20 rfl rfl ea1 (by rw [mσ4, mσ3]; exact t2) ⟨rfl, rfl⟩ (fun σ5 eσ5 mσ5 => ?_)
  replace h := h σ5 eσ5
  exact s_return dX4_speak_20 rfl (by decide) (by decide) h
theorem eX4_speak {G : GG} (gk : GOK G) {σ : Mm} {K : RES → Mm → Prop} {x0 : Option Nat} {x1 : Int32} {x2 : Int32}
    (h : ∃ a1, x0 = some a1 ∧ (mt σ a1).1 = 5 ∧ ∀ σ3, σ3 = si σ a1 1 x1 → ∀ σ4, σ4 = si σ3 a1 2 ((mi σ3 a1 2) + (1 : Int32)) → ∀ σ5, σ5 = si σ4 a1 3 x2 → K (.inl none) σ5) : Runs G mX4_speak rX4_speak [(vR x0), (vI x1), (vI x2)] σ K := Runs.of (by decide) rfl (Nat.le_of_ble_eq_true rfl) (vX4_speak_0 gk h)
theorem vX5_init_0 {G : GG} (gk : GOK G) {uc us : Nat} {σ : Mm} {K : RES → Mm → Prop} {x0 : Option Nat}
    (h : ∃ a1, x0 = some a1 ∧ (mt σ a1).1 = 6 ∧ ∀ σ3, σ3 = si σ a1 0 (0 : Int32) → ∀ σ4, σ4 = si σ3 a1 1 (0 : Int32) → ∀ σ5, σ5 = si σ4 a1 2 (0 : Int32) → ∀ σ6, σ6 = si σ5 a1 3 (32 : Int32) → ∀ σ7, σ7 = si σ6 a1 4 (0 : Int32) → ∀ σ8, σ8 = si σ7 a1 5 (0 : Int32) → uc + 1 ≤ rX5_init.cells ∧ us + 6 ≤ rX5_init.slots ∧ ∀ σ11, σ11 = nw σ8 (58, 6) → (mt σ11 a1).1 = 6 ∧ ∀ σ13, σ13 = sr σ11 a1 6 (some (mz σ8)) → At G mX5_init rX5_init (uc + 1) (us + 6) 46 [some (vR x0), some (vI (0 : Int32))] [] σ13 K) : At G mX5_init rX5_init uc us 0 [some (vR x0), none] [] σ K := by
  refine s_aload_n (i := 0) dX5_init_0 rfl rfl ?_
  obtain ⟨a1, ea1, h⟩ := h
  refine t_objInit gk dX5_init_1 w_84 (by decide) (by decide) ea1 ?_
  refine s_aload_n (i := 0) dX5_init_4 rfl rfl ?_
  refine s_iconst (v := 0) dX5_init_5 (by decide) ?_
  obtain ⟨t2, h⟩ := h
  refine t_putI gk dX5_init_6 fX5_9 rfl rfl ea1 t2 ⟨rfl, rfl⟩ (fun σ3 eσ3 mσ3 => ?_)
  replace h := h σ3 eσ3
  refine s_aload_n (i := 0) dX5_init_9 rfl rfl ?_
  refine s_iconst (v := 0) dX5_init_10 (by decide) ?_
  refine t_putI gk dX5_init_11 fX5_15 rfl rfl ea1 (by rw [mσ3]; exact t2) ⟨rfl, rfl⟩ (fun σ4 eσ4 mσ4 => ?_)
  replace h := h σ4 eσ4
  refine s_aload_n (i := 0) dX5_init_14 rfl rfl ?_
  refine s_iconst (v := 0) dX5_init_15 (by decide) ?_
  refine t_putI gk dX5_init_16 fX5_19 rfl rfl ea1 (by rw [mσ4, mσ3]; exact t2) ⟨rfl, rfl⟩ (fun σ5 eσ5 mσ5 => ?_)
  replace h := h σ5 eσ5
  refine s_aload_n (i := 0) dX5_init_19 rfl rfl ?_
  refine s_bipush (v := 32) dX5_init_20 (by decide) ?_
  refine t_putI gk dX5_init_22 fX5_22 rfl rfl ea1 (by rw [mσ5, mσ4, mσ3]; exact t2) ⟨rfl, rfl⟩ (fun σ6 eσ6 mσ6 => ?_)
  replace h := h σ6 eσ6
  refine s_aload_n (i := 0) dX5_init_25 rfl rfl ?_
  refine s_iconst (v := 0) dX5_init_26 (by decide) ?_
  refine t_putI gk dX5_init_27 fX5_26 rfl rfl ea1 (by rw [mσ6, mσ5, mσ4, mσ3]; exact t2) ⟨rfl, rfl⟩ (fun σ7 eσ7 mσ7 => ?_)
  replace h := h σ7 eσ7
  refine s_aload_n (i := 0) dX5_init_30 rfl rfl ?_
  refine s_iconst (v := 0) dX5_init_31 (by decide) ?_
  refine t_putI gk dX5_init_32 fX5_29 rfl rfl ea1 (by rw [mσ7, mσ6, mσ5, mσ4, mσ3]; exact t2) ⟨rfl, rfl⟩ (fun σ8 eσ8 mσ8 => ?_)
  replace h := h σ8 eσ8
  refine s_aload_n (i := 0) dX5_init_35 rfl rfl ?_
  refine s_bipush (v := 6) dX5_init_36 (by decide) ?_
  obtain ⟨u9, u10, h⟩ := h
  refine s_anew (j := 8) (ci := 2) (N := 6) gk dX5_init_38 (by decide) (by decide) rfl w_85 (List.mem_of_getElem? (i := 94) (by decide +kernel)) (by decide) (by decide) (by decide) u9 u10 ?_
  replace h := h _ rfl
  generalize nw σ8 (58, 6) = σ11 at h ⊢
  obtain ⟨t12, h⟩ := h
  refine t_putR gk dX5_init_41 fX5_34 (Or.inr ⟨rfl, rfl, rfl⟩) rfl ea1 t12 (nf_rf rfl) (fun σ13 eσ13 mσ13 => ?_)
  replace h := h σ13 eσ13
  refine s_iconst (v := 0) dX5_init_44 (by decide) ?_
  refine s_istore_n (i := 1) (L' := [some (vR x0), some (vI (0 : Int32))]) dX5_init_45 rfl rfl (by decide) rfl ?_
  exact h
theorem eX5_init {G : GG} (gk : GOK G) {σ : Mm} {K : RES → Mm → Prop} {x0 : Option Nat}
    (h : ∃ a1, x0 = some a1 ∧ (mt σ a1).1 = 6 ∧ ∀ σ3, σ3 = si σ a1 0 (0 : Int32) → ∀ σ4, σ4 = si σ3 a1 1 (0 : Int32) → ∀ σ5, σ5 = si σ4 a1 2 (0 : Int32) → ∀ σ6, σ6 = si σ5 a1 3 (32 : Int32) → ∀ σ7, σ7 = si σ6 a1 4 (0 : Int32) → ∀ σ8, σ8 = si σ7 a1 5 (0 : Int32) → 0 + 1 ≤ rX5_init.cells ∧ 0 + 6 ≤ rX5_init.slots ∧ ∀ σ11, σ11 = nw σ8 (58, 6) → (mt σ11 a1).1 = 6 ∧ ∀ σ13, σ13 = sr σ11 a1 6 (some (mz σ8)) → At G mX5_init rX5_init (0 + 1) (0 + 6) 46 [some (vR x0), some (vI (0 : Int32))] [] σ13 K) : Runs G mX5_init rX5_init [(vR x0)] σ K := Runs.of (by decide) rfl (Nat.le_of_ble_eq_true rfl) (vX5_init_0 gk h)
theorem vX5_init_46 {G : GG} (gk : GOK G) {uc us : Nat} {σ : Mm} {K : RES → Mm → Prop} {x0 : Option Nat} {x1 : Int32}
    (h : ∃ a1, x0 = some a1 ∧ (mt σ a1).1 = 6 ∧ ∃ a3, mr σ a1 6 = some a3 ∧ ∃ n5, mt σ a3 = (58, n5) ∧ (((nI n5) ≤ x1 → uc ≤ rX5_init.cells ∧ us ≤ rX5_init.slots ∧ K (.inl none) σ) ∧ (¬ (nI n5) ≤ x1 → uc + 1 ≤ rX5_init.cells ∧ us + 9 ≤ rX5_init.slots ∧ ∀ σ11, σ11 = nw σ (3, 0) → (uc + 1) + rX2_init.cells ≤ rX5_init.cells ∧ (us + 9) + rX2_init.slots ≤ rX5_init.slots ∧ ∃ K12 : RES → Mm → Prop, Runs G mX2_init rX2_init [(vR (some (mz σ)))] σ11 K12 ∧ (∀ E t, ¬ K12 (.inr E) t) ∧ (∀ v t, K12 (.inl v) t → At G mX5_init rX5_init ((uc + 1) + 0) ((us + 9) + 0) 67 [some (vR x0), some (vI x1)] (v.toList ++ [(vR (some (mz σ))), (vI x1), (vR (mr σ a1 6))]) t K)))) : At G mX5_init rX5_init uc us 46 [some (vR x0), some (vI x1)] [] σ K := by
  refine s_iload_n (i := 1) dX5_init_46 rfl rfl ?_
  refine s_aload_n (i := 0) dX5_init_47 rfl rfl ?_
  obtain ⟨a1, ea1, h⟩ := h
  obtain ⟨t2, h⟩ := h
  refine t_getR gk dX5_init_48 fX5_34 rfl ea1 t2 ?_
  obtain ⟨a3, ea3, h⟩ := h
  obtain ⟨n5, t4, h⟩ := h
  refine t_alen (j := 8) gk dX5_init_51 (by decide) ea3 t4 ?_
  refine s_icmp_ge (tgt := 74) dX5_init_52 (by decide) (fun q6 => ?_) (fun q6 => ?_)
  · have h := h.1 q6
    obtain ⟨u7, u8, h⟩ := h
    exact s_return dX5_init_74 rfl u7 u8 h
  · have h := h.2 q6
    refine s_aload_n (i := 0) dX5_init_55 rfl rfl ?_
    refine t_getR gk dX5_init_56 fX5_34 rfl ea1 t2 ?_
    refine s_iload_n (i := 1) dX5_init_59 rfl rfl ?_
    obtain ⟨u9, u10, h⟩ := h
    refine t_new gk dX5_init_60 nX5_32 u9 u10 (fun σ11 eσ11 => ?_)
    replace h := h σ11 eσ11
    refine s_dup dX5_init_63 rfl ?_
    obtain ⟨u13, u14, h⟩ := h
    obtain ⟨K12, h1, h2, h3⟩ := h
    exact s_callIN (nA := 0) (host := "EchoPantry") (a := mz σ) (as := []) (S := [(vR (some (mz σ))), (vI x1), (vR (mr σ a1 6))]) gk dX5_init_64 (List.mem_of_getElem? (i := 96) (by decide +kernel)) w_90 w_5 ⟨by decide, by decide⟩ (by decide +kernel) w_89 rfl rfl rfl rfl (Nat.le_of_ble_eq_true rfl) ⟨by decide, by decide, u13, u14⟩ h1 h2 h3
theorem vX5_init_67 {G : GG} (gk : GOK G) {uc us : Nat} {σ : Mm} {K : RES → Mm → Prop} {x0 : Option Nat} {x1 : Int32} {s0 : Option Nat} {s1 : Int32} {s2 : Option Nat}
    (h : ∃ a1, s2 = some a1 ∧ ∃ n3, mt σ a1 = (58, n3) ∧ vp_in s1 n3 ∧ ∃ a6, s0 = some a6 ∧ (mt σ a6).1 = 3 ∧ ∀ σ5, σ5 = sr σ a1 s1.toNatClampNeg s0 → At G mX5_init rX5_init uc us 46 [some (vR x0), some (vI (x1 + 1))] [] σ5 K) : At G mX5_init rX5_init uc us 67 [some (vR x0), some (vI x1)] [(vR s0), (vI s1), (vR s2)] σ K := by
  obtain ⟨a1, ea1, h⟩ := h
  obtain ⟨n3, t2, h⟩ := h
  obtain ⟨c4, h⟩ := h
  obtain ⟨a6, ea6, h⟩ := h
  obtain ⟨t7, h⟩ := h
  refine t_aast (j := 8) (ci := 2) gk dX5_init_67 (by decide) (by decide) (by decide) rfl ea1 t2 ea6 t7 c4 (fun σ5 eσ5 mσ5 => ?_)
  replace h := h σ5 eσ5
  refine s_iinc (v := x1 + 1) (L' := [some (vR x0), some (vI (x1 + 1))]) dX5_init_68 rfl rfl rfl (by decide) rfl ?_
  refine s_goto (tgt := 46) dX5_init_71 (by decide) ?_
  exact h
theorem vX5_copyFrom_0 {G : GG} (gk : GOK G) {σ : Mm} {K : RES → Mm → Prop} {x0 : Option Nat} {x1 : Option Nat}
    (h : ∃ a1, x1 = some a1 ∧ (mt σ a1).1 = 6 ∧ ∃ a3, x0 = some a3 ∧ (mt σ a3).1 = 6 ∧ isZ (mi σ a1 0) ∧ ∀ σ5, σ5 = si σ a3 0 (mi σ a1 0) → ∀ σ7, σ7 = si σ5 a3 1 (mi σ5 a1 1) → ∀ σ8, σ8 = si σ7 a3 2 (mi σ7 a1 2) → isC (mi σ8 a1 3) ∧ ∀ σ9, σ9 = si σ8 a3 3 (mi σ8 a1 3) → isZ (mi σ9 a1 4) ∧ ∀ σ11, σ11 = si σ9 a3 4 (mi σ9 a1 4) → ∀ σ13, σ13 = si σ11 a3 5 (mi σ11 a1 5) → At G mX5_copyFrom rX5_copyFrom 0 0 50 [some (vR x0), some (vR x1), some (vI (0 : Int32))] [] σ13 K) : At G mX5_copyFrom rX5_copyFrom 0 0 0 [some (vR x0), some (vR x1), none] [] σ K := by
  refine s_aload_n (i := 0) dX5_copyFrom_0 rfl rfl ?_
  refine s_aload_n (i := 1) dX5_copyFrom_1 rfl rfl ?_
  obtain ⟨a1, ea1, h⟩ := h
  obtain ⟨t2, h⟩ := h
  refine t_getI gk dX5_copyFrom_2 fX5_9 rfl ea1 t2 ?_
  obtain ⟨a3, ea3, h⟩ := h
  obtain ⟨t4, h⟩ := h
  obtain ⟨c6, h⟩ := h
  refine t_putI gk dX5_copyFrom_5 fX5_9 rfl rfl ea3 t4 (nf_z c6) (fun σ5 eσ5 mσ5 => ?_)
  replace h := h σ5 eσ5
  refine s_aload_n (i := 0) dX5_copyFrom_8 rfl rfl ?_
  refine s_aload_n (i := 1) dX5_copyFrom_9 rfl rfl ?_
  refine t_getI gk dX5_copyFrom_10 fX5_15 rfl ea1 (by rw [mσ5]; exact t2) ?_
  refine t_putI gk dX5_copyFrom_13 fX5_15 rfl rfl ea3 (by rw [mσ5]; exact t4) ⟨rfl, rfl⟩ (fun σ7 eσ7 mσ7 => ?_)
  replace h := h σ7 eσ7
  refine s_aload_n (i := 0) dX5_copyFrom_16 rfl rfl ?_
  refine s_aload_n (i := 1) dX5_copyFrom_17 rfl rfl ?_
  refine t_getI gk dX5_copyFrom_18 fX5_19 rfl ea1 (by rw [mσ7, mσ5]; exact t2) ?_
  refine t_putI gk dX5_copyFrom_21 fX5_19 rfl rfl ea3 (by rw [mσ7, mσ5]; exact t4) ⟨rfl, rfl⟩ (fun σ8 eσ8 mσ8 => ?_)
  replace h := h σ8 eσ8
  refine s_aload_n (i := 0) dX5_copyFrom_24 rfl rfl ?_
  refine s_aload_n (i := 1) dX5_copyFrom_25 rfl rfl ?_
  refine t_getI gk dX5_copyFrom_26 fX5_22 rfl ea1 (by rw [mσ8, mσ7, mσ5]; exact t2) ?_
  obtain ⟨c10, h⟩ := h
  refine t_putI gk dX5_copyFrom_29 fX5_22 rfl rfl ea3 (by rw [mσ8, mσ7, mσ5]; exact t4) (nf_c c10) (fun σ9 eσ9 mσ9 => ?_)
  replace h := h σ9 eσ9
  refine s_aload_n (i := 0) dX5_copyFrom_32 rfl rfl ?_
  refine s_aload_n (i := 1) dX5_copyFrom_33 rfl rfl ?_
  refine t_getI gk dX5_copyFrom_34 fX5_26 rfl ea1 (by rw [mσ9, mσ8, mσ7, mσ5]; exact t2) ?_
  obtain ⟨c12, h⟩ := h
  refine t_putI gk dX5_copyFrom_37 fX5_26 rfl rfl ea3 (by rw [mσ9, mσ8, mσ7, mσ5]; exact t4) (nf_z c12) (fun σ11 eσ11 mσ11 => ?_)
  replace h := h σ11 eσ11
  refine s_aload_n (i := 0) dX5_copyFrom_40 rfl rfl ?_
  refine s_aload_n (i := 1) dX5_copyFrom_41 rfl rfl ?_
  refine t_getI gk dX5_copyFrom_42 fX5_29 rfl ea1 (by rw [mσ11, mσ9, mσ8, mσ7, mσ5]; exact t2) ?_
  refine t_putI gk dX5_copyFrom_45 fX5_29 rfl rfl ea3 (by rw [mσ11, mσ9, mσ8, mσ7, mσ5]; exact t4) ⟨rfl, rfl⟩ (fun σ13 eσ13 mσ13 => ?_)
  replace h := h σ13 eσ13
  refine s_iconst (v := 0) dX5_copyFrom_48 (by decide) ?_
  refine s_istore_n (i := 2) (L' := [some (vR x0), some (vR x1), some (vI (0 : Int32))]) dX5_copyFrom_49 rfl rfl (by decide) rfl ?_
  exact h
theorem eX5_copyFrom {G : GG} (gk : GOK G) {σ : Mm} {K : RES → Mm → Prop} {x0 : Option Nat} {x1 : Option Nat}
    (h : ∃ a1, x1 = some a1 ∧ (mt σ a1).1 = 6 ∧ ∃ a3, x0 = some a3 ∧ (mt σ a3).1 = 6 ∧ isZ (mi σ a1 0) ∧ ∀ σ5, σ5 = si σ a3 0 (mi σ a1 0) → ∀ σ7, σ7 = si σ5 a3 1 (mi σ5 a1 1) → ∀ σ8, σ8 = si σ7 a3 2 (mi σ7 a1 2) → isC (mi σ8 a1 3) ∧ ∀ σ9, σ9 = si σ8 a3 3 (mi σ8 a1 3) → isZ (mi σ9 a1 4) ∧ ∀ σ11, σ11 = si σ9 a3 4 (mi σ9 a1 4) → ∀ σ13, σ13 = si σ11 a3 5 (mi σ11 a1 5) → At G mX5_copyFrom rX5_copyFrom 0 0 50 [some (vR x0), some (vR x1), some (vI (0 : Int32))] [] σ13 K) : Runs G mX5_copyFrom rX5_copyFrom [(vR x0), (vR x1)] σ K := Runs.of (by decide) rfl (Nat.le_of_ble_eq_true rfl) (vX5_copyFrom_0 gk h)
theorem vX5_copyFrom_50 {G : GG} (gk : GOK G) {σ : Mm} {K : RES → Mm → Prop} {x0 : Option Nat} {x1 : Option Nat} {x2 : Int32}
    (h : ∃ a1, x0 = some a1 ∧ (mt σ a1).1 = 6 ∧ ∃ a3, mr σ a1 6 = some a3 ∧ ∃ n5, mt σ a3 = (58, n5) ∧ (((nI n5) ≤ x2 → K (.inl none) σ) ∧ (¬ (nI n5) ≤ x2 → ∃ a7, x1 = some a7 ∧ (mt σ a7).1 = 6 ∧ ∃ a9, mr σ a7 6 = some a9 ∧ ∃ n11, mt σ a9 = (58, n11) ∧ (((nI n11) ≤ x2 → K (.inl none) σ) ∧ (¬ (nI n11) ≤ x2 → vp_in x2 n5 ∧ vp_in x2 n11 ∧ ∃ a15, mr σ a3 x2.toNatClampNeg = some a15 ∧ (mt σ a15).1 = 3 ∧ Runs G mX2_copyFrom rX2_copyFrom [(vR (mr σ a3 x2.toNatClampNeg)), (vR (mr σ a9 x2.toNatClampNeg))] σ (bk G mX5_copyFrom rX5_copyFrom 0 0 83 [some (vR x0), some (vR x1), some (vI x2)] [] K)))))) : At G mX5_copyFrom rX5_copyFrom 0 0 50 [some (vR x0), some (vR x1), some (vI x2)] [] σ K := by
  refine s_iload_n (i := 2) dX5_copyFrom_50 rfl rfl ?_
  refine s_aload_n (i := 0) dX5_copyFrom_51 rfl rfl ?_
  obtain ⟨a1, ea1, h⟩ := h
  obtain ⟨t2, h⟩ := h
  refine t_getR gk dX5_copyFrom_52 fX5_34 rfl ea1 t2 ?_
  obtain ⟨a3, ea3, h⟩ := h
  obtain ⟨n5, t4, h⟩ := h
  refine t_alen (j := 8) gk dX5_copyFrom_55 (by decide) ea3 t4 ?_
  refine s_icmp_ge (tgt := 89) dX5_copyFrom_56 (by decide) (fun q6 => ?_) (fun q6 => ?_)
  · have h := h.1 q6
    exact s_return dX5_copyFrom_89 rfl (by decide) (by decide) h
  · have h := h.2 q6
    refine s_iload_n (i := 2) dX5_copyFrom_59 rfl rfl ?_
    refine s_aload_n (i := 1) dX5_copyFrom_60 rfl rfl ?_
    obtain ⟨a7, ea7, h⟩ := h
    obtain ⟨t8, h⟩ := h
    refine t_getR gk dX5_copyFrom_61 fX5_34 rfl ea7 t8 ?_
    obtain ⟨a9, ea9, h⟩ := h
    obtain ⟨n11, t10, h⟩ := h
    refine t_alen (j := 8) gk dX5_copyFrom_64 (by decide) ea9 t10 ?_
    refine s_icmp_ge (tgt := 89) dX5_copyFrom_65 (by decide) (fun q12 => ?_) (fun q12 => ?_)
    · have h := h.1 q12
      exact s_return dX5_copyFrom_89 rfl (by decide) (by decide) h
    · have h := h.2 q12
      refine s_aload_n (i := 0) dX5_copyFrom_68 rfl rfl ?_
      refine t_getR gk dX5_copyFrom_69 fX5_34 rfl ea1 t2 ?_
      refine s_iload_n (i := 2) dX5_copyFrom_72 rfl rfl ?_
      obtain ⟨c13, h⟩ := h
      refine t_aald (j := 8) gk dX5_copyFrom_73 (by decide) (by decide) ea3 t4 c13 ?_
      refine s_aload_n (i := 1) dX5_copyFrom_74 rfl rfl ?_
      refine t_getR gk dX5_copyFrom_75 fX5_34 rfl ea7 t8 ?_
      refine s_iload_n (i := 2) dX5_copyFrom_78 rfl rfl ?_
      obtain ⟨c14, h⟩ := h
      refine t_aald (j := 8) gk dX5_copyFrom_79 (by decide) (by decide) ea9 t10 c14 ?_
      obtain ⟨a15, ea15, h⟩ := h
      obtain ⟨t16, h⟩ := h
      exact t_callV (ci := 2) (as := [(vR (mr σ a9 x2.toNatClampNeg))]) (S := []) gk dX5_copyFrom_80 gX5_39 (by decide) rfl w_540 w_541 ea15 t16 rfl rfl (Nat.le_of_ble_eq_true rfl) (by decide) h
theorem vX5_copyFrom_83 {G : GG} (gk : GOK G) {σ : Mm} {K : RES → Mm → Prop} {x0 : Option Nat} {x1 : Option Nat} {x2 : Int32}
    (h : At G mX5_copyFrom rX5_copyFrom 0 0 50 [some (vR x0), some (vR x1), some (vI (x2 + 1))] [] σ K) : At G mX5_copyFrom rX5_copyFrom 0 0 83 [some (vR x0), some (vR x1), some (vI x2)] [] σ K := by
  refine s_iinc (v := x2 + 1) (L' := [some (vR x0), some (vR x1), some (vI (x2 + 1))]) dX5_copyFrom_83 rfl rfl rfl (by decide) rfl ?_
  refine s_goto (tgt := 50) dX5_copyFrom_86 (by decide) ?_
  exact h
theorem vX5_fill_0 {G : GG} (gk : GOK G) {σ : Mm} {K : RES → Mm → Prop} {x0 : Option Nat} {x1 : Int32} {x2 : Int32} {x3 : Int32}
    (h : ∃ a1, x0 = some a1 ∧ (mt σ a1).1 = 6 ∧ ∀ σ3, σ3 = si σ a1 0 (1 : Int32) → ∀ σ4, σ4 = si σ3 a1 1 x1 → ∀ σ5, σ5 = si σ4 a1 2 x2 → isC x3 ∧ ∀ σ6, σ6 = si σ5 a1 3 x3 → ∀ σ8, σ8 = si σ6 a1 4 (1 : Int32) → ∀ σ9, σ9 = si σ8 a1 5 (0 : Int32) → K (.inl none) σ9) : At G mX5_fill rX5_fill 0 0 0 [some (vR x0), some (vI x1), some (vI x2), some (vI x3)] [] σ K := by
  refine s_aload_n (i := 0) dX5_fill_0 rfl rfl ?_
  refine s_iconst (v := 1) dX5_fill_1 (by decide) ?_
  obtain ⟨a1, ea1, h⟩ := h
  obtain ⟨t2, h⟩ := h
  refine t_putI gk dX5_fill_2 fX5_9 rfl rfl ea1 t2 ⟨rfl, rfl⟩ (fun σ3 eσ3 mσ3 => ?_)
  replace h := h σ3 eσ3
  refine s_aload_n (i := 0) dX5_fill_5 rfl rfl ?_
  refine s_iload_n (i := 1) dX5_fill_6 rfl rfl ?_
  refine t_putI gk dX5_fill_7 fX5_15 rfl rfl ea1 (by rw [mσ3]; exact t2) ⟨rfl, rfl⟩ (fun σ4 eσ4 mσ4 => ?_)
  replace h := h σ4 eσ4
  refine s_aload_n (i := 0) dX5_fill_10 rfl rfl ?_
  refine s_iload_n (i := 2) dX5_fill_11 rfl rfl ?_
  refine t_putI gk dX5_fill_12 fX5_19 rfl rfl ea1 (by rw [mσ4, mσ3]; exact t2) ⟨rfl, rfl⟩ (fun σ5 eσ5 mσ5 => ?_)
  replace h := h σ5 eσ5
  refine s_aload_n (i := 0) dX5_fill_15 rfl rfl ?_
  refine s_iload_n (i := 3) dX5_fill_16 rfl rfl ?_
  obtain ⟨c7, h⟩ := h
  refine t_putI gk dX5_fill_17 fX5_22 rfl rfl ea1 (by rw [mσ5, mσ4, mσ3]; exact t2) (nf_c c7) (fun σ6 eσ6 mσ6 => ?_)
  replace h := h σ6 eσ6
  refine s_aload_n (i := 0) dX5_fill_20 rfl rfl ?_
  refine s_iconst (v := 1) dX5_fill_21 (by decide) ?_
  refine t_putI gk dX5_fill_22 fX5_26 rfl rfl ea1 (by rw [mσ6, mσ5, mσ4, mσ3]; exact t2) ⟨rfl, rfl⟩ (fun σ8 eσ8 mσ8 => ?_)
  replace h := h σ8 eσ8
  refine s_aload_n (i := 0) dX5_fill_25 rfl rfl ?_
  refine s_iconst (v := 0) dX5_fill_26 (by decide) ?_
  refine t_putI gk dX5_fill_27 fX5_29 rfl rfl ea1 (by rw [mσ8, mσ6, mσ5, mσ4, mσ3]; exact t2) ⟨rfl, rfl⟩ (fun σ9 eσ9 mσ9 => ?_)
  replace h := h σ9 eσ9
  exact s_return dX5_fill_30 rfl (by decide) (by decide) h
theorem eX5_fill {G : GG} (gk : GOK G) {σ : Mm} {K : RES → Mm → Prop} {x0 : Option Nat} {x1 : Int32} {x2 : Int32} {x3 : Int32}
    (h : ∃ a1, x0 = some a1 ∧ (mt σ a1).1 = 6 ∧ ∀ σ3, σ3 = si σ a1 0 (1 : Int32) → ∀ σ4, σ4 = si σ3 a1 1 x1 → ∀ σ5, σ5 = si σ4 a1 2 x2 → isC x3 ∧ ∀ σ6, σ6 = si σ5 a1 3 x3 → ∀ σ8, σ8 = si σ6 a1 4 (1 : Int32) → ∀ σ9, σ9 = si σ8 a1 5 (0 : Int32) → K (.inl none) σ9) : Runs G mX5_fill rX5_fill [(vR x0), (vI x1), (vI x2), (vI x3)] σ K := Runs.of (by decide) rfl (Nat.le_of_ble_eq_true rfl) (vX5_fill_0 gk h)
theorem vX5_countEchoes_0 {G : GG} (gk : GOK G) {σ : Mm} {K : RES → Mm → Prop} {x0 : Option Nat}
    (h : ∃ a1, x0 = some a1 ∧ (mt σ a1).1 = 6 ∧ ∃ a3, mr σ a1 6 = some a3 ∧ ∃ n5, mt σ a3 = (58, n5) ∧ At G mX5_countEchoes rX5_countEchoes 0 0 13 [some (vR x0), some (vI (0 : Int32)), some (vR (mr σ a1 6)), some (vI (nI n5)), some (vI (0 : Int32)), none] [] σ K) : At G mX5_countEchoes rX5_countEchoes 0 0 0 [some (vR x0), none, none, none, none, none] [] σ K := by
  refine s_iconst (v := 0) dX5_countEchoes_0 (by decide) ?_
  refine s_istore_n (i := 1) (L' := [some (vR x0), some (vI (0 : Int32)), none, none, none, none]) dX5_countEchoes_1 rfl rfl (by decide) rfl ?_
  refine s_aload_n (i := 0) dX5_countEchoes_2 rfl rfl ?_
  obtain ⟨a1, ea1, h⟩ := h
  obtain ⟨t2, h⟩ := h
  refine t_getR gk dX5_countEchoes_3 fX5_34 rfl ea1 t2 ?_
  refine s_astore_n (i := 2) (L' := [some (vR x0), some (vI (0 : Int32)), some (vR (mr σ a1 6)), none, none, none]) dX5_countEchoes_6 rfl rfl (by decide) rfl ?_
  refine s_aload_n (i := 2) dX5_countEchoes_7 rfl rfl ?_
  obtain ⟨a3, ea3, h⟩ := h
  obtain ⟨n5, t4, h⟩ := h
  refine t_alen (j := 8) gk dX5_countEchoes_8 (by decide) ea3 t4 ?_
  refine s_istore_n (i := 3) (L' := [some (vR x0), some (vI (0 : Int32)), some (vR (mr σ a1 6)), some (vI (nI n5)), none, none]) dX5_countEchoes_9 rfl rfl (by decide) rfl ?_
  refine s_iconst (v := 0) dX5_countEchoes_10 (by decide) ?_
  refine s_istore (L' := [some (vR x0), some (vI (0 : Int32)), some (vR (mr σ a1 6)), some (vI (nI n5)), some (vI (0 : Int32)), none]) dX5_countEchoes_11 rfl (by decide) rfl ?_
  exact h
theorem eX5_countEchoes {G : GG} (gk : GOK G) {σ : Mm} {K : RES → Mm → Prop} {x0 : Option Nat}
    (h : ∃ a1, x0 = some a1 ∧ (mt σ a1).1 = 6 ∧ ∃ a3, mr σ a1 6 = some a3 ∧ ∃ n5, mt σ a3 = (58, n5) ∧ At G mX5_countEchoes rX5_countEchoes 0 0 13 [some (vR x0), some (vI (0 : Int32)), some (vR (mr σ a1 6)), some (vI (nI n5)), some (vI (0 : Int32)), none] [] σ K) : Runs G mX5_countEchoes rX5_countEchoes [(vR x0)] σ K := Runs.of (by decide) rfl (Nat.le_of_ble_eq_true rfl) (vX5_countEchoes_0 gk h)
theorem vX5_countEchoes_13 {G : GG} (gk : GOK G) {σ : Mm} {K : RES → Mm → Prop} {x0 : Option Nat} {x1 : Int32} {x2 : Option Nat} {x3 : Int32} {x4 : Int32}
    (h : ((x3 ≤ x4 → K (.inl (some (vI x1))) σ) ∧ (¬ x3 ≤ x4 → ∃ a2, x2 = some a2 ∧ ∃ n4, mt σ a2 = (58, n4) ∧ vp_in x4 n4 ∧ ∃ a6, mr σ a2 x4.toNatClampNeg = some a6 ∧ (mt σ a6).1 = 3 ∧ (((mi σ a6 0) = 0 → At G mX5_countEchoes rX5_countEchoes 0 0 13 [some (vR x0), some (vI x1), some (vR x2), some (vI x3), some (vI (x4 + 1)), none] [] σ K) ∧ (¬ (mi σ a6 0) = 0 → At G mX5_countEchoes rX5_countEchoes 0 0 13 [some (vR x0), some (vI (x1 + 1)), some (vR x2), some (vI x3), some (vI (x4 + 1)), none] [] σ K))))) : At G mX5_countEchoes rX5_countEchoes 0 0 13 [some (vR x0), some (vI x1), some (vR x2), some (vI x3), some (vI x4), none] [] σ K := by
  refine s_iload dX5_countEchoes_13 rfl ?_
  refine s_iload_n (i := 3) dX5_countEchoes_15 rfl rfl ?_
  refine s_icmp_ge (tgt := 42) dX5_countEchoes_16 (by decide) (fun q1 => ?_) (fun q1 => ?_)
  · have h := h.1 q1
    refine s_iload_n (i := 1) dX5_countEchoes_42 rfl rfl ?_
    exact s_ireturn dX5_countEchoes_43 rfl rfl (by decide) (by decide) h
  · have h := h.2 q1
    refine s_aload_n (i := 2) dX5_countEchoes_19 rfl rfl ?_
    refine s_iload dX5_countEchoes_20 rfl ?_
    obtain ⟨a2, ea2, h⟩ := h
    obtain ⟨n4, t3, h⟩ := h
    obtain ⟨c5, h⟩ := h
    refine t_aald (j := 8) gk dX5_countEchoes_22 (by decide) (by decide) ea2 t3 c5 ?_
    refine s_astore (L' := [some (vR x0), some (vI x1), some (vR x2), some (vI x3), some (vI x4), some (vR (mr σ a2 x4.toNatClampNeg))]) dX5_countEchoes_23 rfl (by decide) rfl ?_
    refine s_aload dX5_countEchoes_25 rfl ?_
    obtain ⟨a6, ea6, h⟩ := h
    obtain ⟨t7, h⟩ := h
    refine t_getI gk dX5_countEchoes_27 fX5_43 rfl ea6 t7 ?_
    refine s_if_eq (tgt := 36) dX5_countEchoes_30 (by decide) (fun q8 => ?_) (fun q8 => ?_)
    · have h := h.1 q8
      refine s_iinc (v := x4 + 1) (L' := [some (vR x0), some (vI x1), some (vR x2), some (vI x3), some (vI (x4 + 1)), some (vR (mr σ a2 x4.toNatClampNeg))]) dX5_countEchoes_36 rfl rfl rfl (by decide) rfl ?_
      refine s_goto (tgt := 13) dX5_countEchoes_39 (by decide) ?_
      exact h.msk ⟨rfl, ⟨rfl, ⟨rfl, ⟨rfl, ⟨rfl, trivial⟩⟩⟩⟩⟩
    · have h := h.2 q8
      refine s_iinc (v := x1 + 1) (L' := [some (vR x0), some (vI (x1 + 1)), some (vR x2), some (vI x3), some (vI x4), some (vR (mr σ a2 x4.toNatClampNeg))]) dX5_countEchoes_33 rfl rfl rfl (by decide) rfl ?_
      refine s_iinc (v := x4 + 1) (L' := [some (vR x0), some (vI (x1 + 1)), some (vR x2), some (vI x3), some (vI (x4 + 1)), some (vR (mr σ a2 x4.toNatClampNeg))]) dX5_countEchoes_36 rfl rfl rfl (by decide) rfl ?_
      refine s_goto (tgt := 13) dX5_countEchoes_39 (by decide) ?_
      exact h.msk ⟨rfl, ⟨rfl, ⟨rfl, ⟨rfl, ⟨rfl, trivial⟩⟩⟩⟩⟩
theorem vX5_find_0 {G : GG} (gk : GOK G) {σ : Mm} {K : RES → Mm → Prop} {x0 : Option Nat} {x1 : Int32}
    (h : ∃ a1, x0 = some a1 ∧ (mt σ a1).1 = 6 ∧ ∃ a3, mr σ a1 6 = some a3 ∧ ∃ n5, mt σ a3 = (58, n5) ∧ At G mX5_find rX5_find 0 0 11 [some (vR x0), some (vI x1), some (vR (mr σ a1 6)), some (vI (nI n5)), some (vI (0 : Int32)), none] [] σ K) : At G mX5_find rX5_find 0 0 0 [some (vR x0), some (vI x1), none, none, none, none] [] σ K := by
  refine s_aload_n (i := 0) dX5_find_0 rfl rfl ?_
  obtain ⟨a1, ea1, h⟩ := h
  obtain ⟨t2, h⟩ := h
  refine t_getR gk dX5_find_1 fX5_34 rfl ea1 t2 ?_
  refine s_astore_n (i := 2) (L' := [some (vR x0), some (vI x1), some (vR (mr σ a1 6)), none, none, none]) dX5_find_4 rfl rfl (by decide) rfl ?_
  refine s_aload_n (i := 2) dX5_find_5 rfl rfl ?_
  obtain ⟨a3, ea3, h⟩ := h
  obtain ⟨n5, t4, h⟩ := h
  refine t_alen (j := 8) gk dX5_find_6 (by decide) ea3 t4 ?_
  refine s_istore_n (i := 3) (L' := [some (vR x0), some (vI x1), some (vR (mr σ a1 6)), some (vI (nI n5)), none, none]) dX5_find_7 rfl rfl (by decide) rfl ?_
  refine s_iconst (v := 0) dX5_find_8 (by decide) ?_
  refine s_istore (L' := [some (vR x0), some (vI x1), some (vR (mr σ a1 6)), some (vI (nI n5)), some (vI (0 : Int32)), none]) dX5_find_9 rfl (by decide) rfl ?_
  exact h
theorem eX5_find {G : GG} (gk : GOK G) {σ : Mm} {K : RES → Mm → Prop} {x0 : Option Nat} {x1 : Int32}
    (h : ∃ a1, x0 = some a1 ∧ (mt σ a1).1 = 6 ∧ ∃ a3, mr σ a1 6 = some a3 ∧ ∃ n5, mt σ a3 = (58, n5) ∧ At G mX5_find rX5_find 0 0 11 [some (vR x0), some (vI x1), some (vR (mr σ a1 6)), some (vI (nI n5)), some (vI (0 : Int32)), none] [] σ K) : Runs G mX5_find rX5_find [(vR x0), (vI x1)] σ K := Runs.of (by decide) rfl (Nat.le_of_ble_eq_true rfl) (vX5_find_0 gk h)
theorem vX5_find_11 {G : GG} (gk : GOK G) {σ : Mm} {K : RES → Mm → Prop} {x0 : Option Nat} {x1 : Int32} {x2 : Option Nat} {x3 : Int32} {x4 : Int32}
    (h : ((x3 ≤ x4 → K (.inl (some (vR none))) σ) ∧ (¬ x3 ≤ x4 → ∃ a2, x2 = some a2 ∧ ∃ n4, mt σ a2 = (58, n4) ∧ vp_in x4 n4 ∧ ∃ a6, mr σ a2 x4.toNatClampNeg = some a6 ∧ (mt σ a6).1 = 3 ∧ (((mi σ a6 0) = 0 → At G mX5_find rX5_find 0 0 11 [some (vR x0), some (vI x1), some (vR x2), some (vI x3), some (vI (x4 + 1)), none] [] σ K) ∧ (¬ (mi σ a6 0) = 0 → ((¬ (mi σ a6 1) = x1 → At G mX5_find rX5_find 0 0 11 [some (vR x0), some (vI x1), some (vR x2), some (vI x3), some (vI (x4 + 1)), none] [] σ K) ∧ ((mi σ a6 1) = x1 → K (.inl (some (vR (mr σ a2 x4.toNatClampNeg)))) σ))))))) : At G mX5_find rX5_find 0 0 11 [some (vR x0), some (vI x1), some (vR x2), some (vI x3), some (vI x4), none] [] σ K := by
  refine s_iload dX5_find_11 rfl ?_
  refine s_iload_n (i := 3) dX5_find_13 rfl rfl ?_
  refine s_icmp_ge (tgt := 49) dX5_find_14 (by decide) (fun q1 => ?_) (fun q1 => ?_)
  · have h := h.1 q1
    refine s_null dX5_find_49 ?_
    exact s_areturn dX5_find_50 rfl rfl (by decide) (by decide) h
  · have h := h.2 q1
    refine s_aload_n (i := 2) dX5_find_17 rfl rfl ?_
    refine s_iload dX5_find_18 rfl ?_
    obtain ⟨a2, ea2, h⟩ := h
    obtain ⟨n4, t3, h⟩ := h
    obtain ⟨c5, h⟩ := h
    refine t_aald (j := 8) gk dX5_find_20 (by decide) (by decide) ea2 t3 c5 ?_
    refine s_astore (L' := [some (vR x0), some (vI x1), some (vR x2), some (vI x3), some (vI x4), some (vR (mr σ a2 x4.toNatClampNeg))]) dX5_find_21 rfl (by decide) rfl ?_
    refine s_aload dX5_find_23 rfl ?_
    obtain ⟨a6, ea6, h⟩ := h
    obtain ⟨t7, h⟩ := h
    refine t_getI gk dX5_find_25 fX5_43 rfl ea6 t7 ?_
    refine s_if_eq (tgt := 43) dX5_find_28 (by decide) (fun q8 => ?_) (fun q8 => ?_)
    · have h := h.1 q8
      refine s_iinc (v := x4 + 1) (L' := [some (vR x0), some (vI x1), some (vR x2), some (vI x3), some (vI (x4 + 1)), some (vR (mr σ a2 x4.toNatClampNeg))]) dX5_find_43 rfl rfl rfl (by decide) rfl ?_
      refine s_goto (tgt := 11) dX5_find_46 (by decide) ?_
      exact h.msk ⟨rfl, ⟨rfl, ⟨rfl, ⟨rfl, ⟨rfl, trivial⟩⟩⟩⟩⟩
    · have h := h.2 q8
      refine s_aload dX5_find_31 rfl ?_
      refine t_getI gk dX5_find_33 fX5_44 rfl ea6 t7 ?_
      refine s_iload_n (i := 1) dX5_find_36 rfl rfl ?_
      refine s_icmp_ne (tgt := 43) dX5_find_37 (by decide) (fun q9 => ?_) (fun q9 => ?_)
      · have h := h.1 q9
        refine s_iinc (v := x4 + 1) (L' := [some (vR x0), some (vI x1), some (vR x2), some (vI x3), some (vI (x4 + 1)), some (vR (mr σ a2 x4.toNatClampNeg))]) dX5_find_43 rfl rfl rfl (by decide) rfl ?_
        refine s_goto (tgt := 11) dX5_find_46 (by decide) ?_
        exact h.msk ⟨rfl, ⟨rfl, ⟨rfl, ⟨rfl, ⟨rfl, trivial⟩⟩⟩⟩⟩
      · have h := h.2 q9
        refine s_aload dX5_find_40 rfl ?_
        exact s_areturn dX5_find_42 rfl rfl (by decide) (by decide) h
theorem vX5_letterAt_0 {G : GG} (gk : GOK G) {σ : Mm} {K : RES → Mm → Prop} {x0 : Option Nat} {x1 : Int32}
    (h : At G mX5_letterAt rX5_letterAt 0 0 5 [some (vR x0), some (vI x1), some (vI (0 : Int32)), some (vI (97 : Int32))] [] σ K) : At G mX5_letterAt rX5_letterAt 0 0 0 [some (vR x0), some (vI x1), none, none] [] σ K := by
  refine s_iconst (v := 0) dX5_letterAt_0 (by decide) ?_
  refine s_istore_n (i := 2) (L' := [some (vR x0), some (vI x1), some (vI (0 : Int32)), none]) dX5_letterAt_1 rfl rfl (by decide) rfl ?_
  refine s_bipush (v := 97) dX5_letterAt_2 (by decide) ?_
  refine s_istore_n (i := 3) (L' := [some (vR x0), some (vI x1), some (vI (0 : Int32)), some (vI (97 : Int32))]) dX5_letterAt_4 rfl rfl (by decide) rfl ?_
  exact h
theorem eX5_letterAt {G : GG} (gk : GOK G) {σ : Mm} {K : RES → Mm → Prop} {x0 : Option Nat} {x1 : Int32}
    (h : At G mX5_letterAt rX5_letterAt 0 0 5 [some (vR x0), some (vI x1), some (vI (0 : Int32)), some (vI (97 : Int32))] [] σ K) : Runs G mX5_letterAt rX5_letterAt [(vR x0), (vI x1)] σ K := Runs.of (by decide) rfl (Nat.le_of_ble_eq_true rfl) (vX5_letterAt_0 gk h)
theorem vX5_letterAt_5 {G : GG} (gk : GOK G) {σ : Mm} {K : RES → Mm → Prop} {x0 : Option Nat} {x1 : Int32} {x2 : Int32} {x3 : Int32}
    (h : (((122 : Int32) < x3 → K (.inl (some (vI (32 : Int32)))) σ) ∧ (¬ (122 : Int32) < x3 → ∃ a2, x0 = some a2 ∧ (mt σ a2).1 = 6 ∧ Runs G mX5_find rX5_find [(vR x0), (vI x3)] σ (bk G mX5_letterAt rX5_letterAt 0 0 16 [some (vR x0), some (vI x1), some (vI x2), some (vI x3)] [] K)))) : At G mX5_letterAt rX5_letterAt 0 0 5 [some (vR x0), some (vI x1), some (vI x2), some (vI x3)] [] σ K := by
  refine s_iload_n (i := 3) dX5_letterAt_5 rfl rfl ?_
  refine s_bipush (v := 122) dX5_letterAt_6 (by decide) ?_
  refine s_icmp_gt (tgt := 37) dX5_letterAt_8 (by decide) (fun q1 => ?_) (fun q1 => ?_)
  · have h := h.1 q1
    refine s_bipush (v := 32) dX5_letterAt_37 (by decide) ?_
    exact s_ireturn dX5_letterAt_39 rfl rfl (by decide) (by decide) h
  · have h := h.2 q1
    refine s_aload_n (i := 0) dX5_letterAt_11 rfl rfl ?_
    refine s_iload_n (i := 3) dX5_letterAt_12 rfl rfl ?_
    obtain ⟨a2, ea2, h⟩ := h
    obtain ⟨t3, h⟩ := h
    exact t_callV (ci := 5) (as := [(vI x3)]) (S := []) gk dX5_letterAt_13 gX5_47 (by decide) rfl w_668 w_669 ea2 t3 rfl rfl (Nat.le_of_ble_eq_true rfl) (by decide) h
theorem vX5_letterAt_16 {G : GG} (gk : GOK G) {σ : Mm} {K : RES → Mm → Prop} {x0 : Option Nat} {x1 : Int32} {x2 : Int32} {x3 : Int32} {s0 : Option Nat}
    (h : ((s0 = none → At G mX5_letterAt rX5_letterAt 0 0 5 [some (vR x0), some (vI x1), some (vI x2), some (vI (i2c (x3 + (1 : Int32))))] [] σ K) ∧ (∀ a2, s0 = some a2 → ((¬ x2 = x1 → At G mX5_letterAt rX5_letterAt 0 0 5 [some (vR x0), some (vI x1), some (vI (x2 + 1)), some (vI (i2c (x3 + (1 : Int32))))] [] σ K) ∧ (x2 = x1 → isC x3 ∧ K (.inl (some (vI x3))) σ))))) : At G mX5_letterAt rX5_letterAt 0 0 16 [some (vR x0), some (vI x1), some (vI x2), some (vI x3)] [(vR s0)] σ K := by
  refine s_ifnull (tgt := 29) dX5_letterAt_16 (by decide) (fun q1 => ?_) (fun a2 ea2 => ?_)
  · have h := h.1 q1
    refine s_iload_n (i := 3) dX5_letterAt_29 rfl rfl ?_
    refine s_iconst (v := 1) dX5_letterAt_30 (by decide) ?_
    refine s_iadd dX5_letterAt_31 ?_
    refine s_i2c (v := i2c (x3 + (1 : Int32))) dX5_letterAt_32 rfl ?_
    refine s_istore_n (i := 3) (L' := [some (vR x0), some (vI x1), some (vI x2), some (vI (i2c (x3 + (1 : Int32))))]) dX5_letterAt_33 rfl rfl (by decide) rfl ?_
    refine s_goto (tgt := 5) dX5_letterAt_34 (by decide) ?_
    exact h
  · have h := h.2 a2 ea2
    refine s_iload_n (i := 2) dX5_letterAt_19 rfl rfl ?_
    refine s_iload_n (i := 1) dX5_letterAt_20 rfl rfl ?_
    refine s_icmp_ne (tgt := 26) dX5_letterAt_21 (by decide) (fun q3 => ?_) (fun q3 => ?_)
    · have h := h.1 q3
      refine s_iinc (v := x2 + 1) (L' := [some (vR x0), some (vI x1), some (vI (x2 + 1)), some (vI x3)]) dX5_letterAt_26 rfl rfl rfl (by decide) rfl ?_
      refine s_iload_n (i := 3) dX5_letterAt_29 rfl rfl ?_
      refine s_iconst (v := 1) dX5_letterAt_30 (by decide) ?_
      refine s_iadd dX5_letterAt_31 ?_
      refine s_i2c (v := i2c (x3 + (1 : Int32))) dX5_letterAt_32 rfl ?_
      refine s_istore_n (i := 3) (L' := [some (vR x0), some (vI x1), some (vI (x2 + 1)), some (vI (i2c (x3 + (1 : Int32))))]) dX5_letterAt_33 rfl rfl (by decide) rfl ?_
      refine s_goto (tgt := 5) dX5_letterAt_34 (by decide) ?_
      exact h
    · have h := h.2 q3
      refine s_iload_n (i := 3) dX5_letterAt_24 rfl rfl ?_
      obtain ⟨c4, h⟩ := h
      exact s_ireturn dX5_letterAt_25 rfl (nf_c c4).1 (by decide) (by decide) h
theorem vX5_sumOfAges_0 {G : GG} (gk : GOK G) {σ : Mm} {K : RES → Mm → Prop} {x0 : Option Nat} {x1 : Int32}
    (h : ∃ a1, x0 = some a1 ∧ (mt σ a1).1 = 6 ∧ ∃ a3, mr σ a1 6 = some a3 ∧ ∃ n5, mt σ a3 = (58, n5) ∧ At G mX5_sumOfAges rX5_sumOfAges 0 0 14 [some (vR x0), some (vI x1), some (vI (0 : Int32)), some (vR (mr σ a1 6)), some (vI (nI n5)), some (vI (0 : Int32)), none] [] σ K) : At G mX5_sumOfAges rX5_sumOfAges 0 0 0 [some (vR x0), some (vI x1), none, none, none, none, none] [] σ K := by
  refine s_iconst (v := 0) dX5_sumOfAges_0 (by decide) ?_
  refine s_istore_n (i := 2) (L' := [some (vR x0), some (vI x1), some (vI (0 : Int32)), none, none, none, none]) dX5_sumOfAges_1 rfl rfl (by decide) rfl ?_
  refine s_aload_n (i := 0) dX5_sumOfAges_2 rfl rfl ?_
  obtain ⟨a1, ea1, h⟩ := h
  obtain ⟨t2, h⟩ := h
  refine t_getR gk dX5_sumOfAges_3 fX5_34 rfl ea1 t2 ?_
  refine s_astore_n (i := 3) (L' := [some (vR x0), some (vI x1), some (vI (0 : Int32)), some (vR (mr σ a1 6)), none, none, none]) dX5_sumOfAges_6 rfl rfl (by decide) rfl ?_
  refine s_aload_n (i := 3) dX5_sumOfAges_7 rfl rfl ?_
  obtain ⟨a3, ea3, h⟩ := h
  obtain ⟨n5, t4, h⟩ := h
  refine t_alen (j := 8) gk dX5_sumOfAges_8 (by decide) ea3 t4 ?_
  refine s_istore (L' := [some (vR x0), some (vI x1), some (vI (0 : Int32)), some (vR (mr σ a1 6)), some (vI (nI n5)), none, none]) dX5_sumOfAges_9 rfl (by decide) rfl ?_
  refine s_iconst (v := 0) dX5_sumOfAges_11 (by decide) ?_
  refine s_istore (L' := [some (vR x0), some (vI x1), some (vI (0 : Int32)), some (vR (mr σ a1 6)), some (vI (nI n5)), some (vI (0 : Int32)), none]) dX5_sumOfAges_12 rfl (by decide) rfl ?_
  exact h
theorem eX5_sumOfAges {G : GG} (gk : GOK G) {σ : Mm} {K : RES → Mm → Prop} {x0 : Option Nat} {x1 : Int32}
    (h : ∃ a1, x0 = some a1 ∧ (mt σ a1).1 = 6 ∧ ∃ a3, mr σ a1 6 = some a3 ∧ ∃ n5, mt σ a3 = (58, n5) ∧ At G mX5_sumOfAges rX5_sumOfAges 0 0 14 [some (vR x0), some (vI x1), some (vI (0 : Int32)), some (vR (mr σ a1 6)), some (vI (nI n5)), some (vI (0 : Int32)), none] [] σ K) : Runs G mX5_sumOfAges rX5_sumOfAges [(vR x0), (vI x1)] σ K := Runs.of (by decide) rfl (Nat.le_of_ble_eq_true rfl) (vX5_sumOfAges_0 gk h)
theorem vX5_sumOfAges_14 {G : GG} (gk : GOK G) {σ : Mm} {K : RES → Mm → Prop} {x0 : Option Nat} {x1 : Int32} {x2 : Int32} {x3 : Option Nat} {x4 : Int32} {x5 : Int32}
    (h : ((x4 ≤ x5 → K (.inl (some (vI x2))) σ) ∧ (¬ x4 ≤ x5 → ∃ a2, x3 = some a2 ∧ ∃ n4, mt σ a2 = (58, n4) ∧ vp_in x5 n4 ∧ ∃ a6, mr σ a2 x5.toNatClampNeg = some a6 ∧ (mt σ a6).1 = 3 ∧ (((mi σ a6 0) = 0 → At G mX5_sumOfAges rX5_sumOfAges 0 0 14 [some (vR x0), some (vI x1), some (vI x2), some (vR x3), some (vI x4), some (vI (x5 + 1)), none] [] σ K) ∧ (¬ (mi σ a6 0) = 0 → Runs G mX2_age rX2_age [(vR (mr σ a2 x5.toNatClampNeg)), (vI x1)] σ (bk G mX5_sumOfAges rX5_sumOfAges 0 0 42 [some (vR x0), some (vI x1), some (vI x2), some (vR x3), some (vI x4), some (vI x5), some (vR (mr σ a2 x5.toNatClampNeg))] [(vI x2)] K)))))) : At G mX5_sumOfAges rX5_sumOfAges 0 0 14 [some (vR x0), some (vI x1), some (vI x2), some (vR x3), some (vI x4), some (vI x5), none] [] σ K := by
  refine s_iload dX5_sumOfAges_14 rfl ?_
  refine s_iload dX5_sumOfAges_16 rfl ?_
  refine s_icmp_ge (tgt := 50) dX5_sumOfAges_18 (by decide) (fun q1 => ?_) (fun q1 => ?_)
  · have h := h.1 q1
    refine s_iload_n (i := 2) dX5_sumOfAges_50 rfl rfl ?_
    exact s_ireturn dX5_sumOfAges_51 rfl rfl (by decide) (by decide) h
  · have h := h.2 q1
    refine s_aload_n (i := 3) dX5_sumOfAges_21 rfl rfl ?_
    refine s_iload dX5_sumOfAges_22 rfl ?_
    obtain ⟨a2, ea2, h⟩ := h
    obtain ⟨n4, t3, h⟩ := h
    obtain ⟨c5, h⟩ := h
    refine t_aald (j := 8) gk dX5_sumOfAges_24 (by decide) (by decide) ea2 t3 c5 ?_
    refine s_astore (L' := [some (vR x0), some (vI x1), some (vI x2), some (vR x3), some (vI x4), some (vI x5), some (vR (mr σ a2 x5.toNatClampNeg))]) dX5_sumOfAges_25 rfl (by decide) rfl ?_
    refine s_aload dX5_sumOfAges_27 rfl ?_
    obtain ⟨a6, ea6, h⟩ := h
    obtain ⟨t7, h⟩ := h
    refine t_getI gk dX5_sumOfAges_29 fX5_43 rfl ea6 t7 ?_
    refine s_if_eq (tgt := 44) dX5_sumOfAges_32 (by decide) (fun q8 => ?_) (fun q8 => ?_)
    · have h := h.1 q8
      refine s_iinc (v := x5 + 1) (L' := [some (vR x0), some (vI x1), some (vI x2), some (vR x3), some (vI x4), some (vI (x5 + 1)), some (vR (mr σ a2 x5.toNatClampNeg))]) dX5_sumOfAges_44 rfl rfl rfl (by decide) rfl ?_
      refine s_goto (tgt := 14) dX5_sumOfAges_47 (by decide) ?_
      exact h.msk ⟨rfl, ⟨rfl, ⟨rfl, ⟨rfl, ⟨rfl, ⟨rfl, trivial⟩⟩⟩⟩⟩⟩
    · have h := h.2 q8
      refine s_iload_n (i := 2) dX5_sumOfAges_35 rfl rfl ?_
      refine s_aload dX5_sumOfAges_36 rfl ?_
      refine s_iload_n (i := 1) dX5_sumOfAges_38 rfl rfl ?_
      exact t_callV (ci := 2) (as := [(vI x1)]) (S := [(vI x2)]) gk dX5_sumOfAges_39 gX5_51 (by decide) rfl w_681 w_682 ea6 t7 rfl rfl (Nat.le_of_ble_eq_true rfl) (by decide) h
theorem vX5_sumOfAges_42 {G : GG} (gk : GOK G) {σ : Mm} {K : RES → Mm → Prop} {x0 : Option Nat} {x1 : Int32} {x2 : Int32} {x3 : Option Nat} {x4 : Int32} {x5 : Int32} {x6 : Option Nat} {s0 : Int32} {s1 : Int32}
    (h : At G mX5_sumOfAges rX5_sumOfAges 0 0 14 [some (vR x0), some (vI x1), some (vI (s1 + s0)), some (vR x3), some (vI x4), some (vI (x5 + 1)), none] [] σ K) : At G mX5_sumOfAges rX5_sumOfAges 0 0 42 [some (vR x0), some (vI x1), some (vI x2), some (vR x3), some (vI x4), some (vI x5), some (vR x6)] [(vI s0), (vI s1)] σ K := by
  refine s_iadd dX5_sumOfAges_42 ?_
  refine s_istore_n (i := 2) (L' := [some (vR x0), some (vI x1), some (vI (s1 + s0)), some (vR x3), some (vI x4), some (vI x5), some (vR x6)]) dX5_sumOfAges_43 rfl rfl (by decide) rfl ?_
  refine s_iinc (v := x5 + 1) (L' := [some (vR x0), some (vI x1), some (vI (s1 + s0)), some (vR x3), some (vI x4), some (vI (x5 + 1)), some (vR x6)]) dX5_sumOfAges_44 rfl rfl rfl (by decide) rfl ?_
  refine s_goto (tgt := 14) dX5_sumOfAges_47 (by decide) ?_
  exact h.msk ⟨rfl, ⟨rfl, ⟨rfl, ⟨rfl, ⟨rfl, ⟨rfl, trivial⟩⟩⟩⟩⟩⟩
theorem vX5_hasOutlived_0 {G : GG} (gk : GOK G) {σ : Mm} {K : RES → Mm → Prop} {x0 : Option Nat} {x1 : Option Nat} {x2 : Int32}
    (h : ∃ a1, x1 = some a1 ∧ (mt σ a1).1 = 3 ∧ Runs G mX2_age rX2_age [(vR x1), (vI x2)] σ (bk G mX5_hasOutlived rX5_hasOutlived 0 0 5 [some (vR x0), some (vR x1), some (vI x2)] [] K)) : At G mX5_hasOutlived rX5_hasOutlived 0 0 0 [some (vR x0), some (vR x1), some (vI x2)] [] σ K := by
  refine s_aload_n (i := 1) dX5_hasOutlived_0 rfl rfl ?_
  refine s_iload_n (i := 2) dX5_hasOutlived_1 rfl rfl ?_
  obtain ⟨a1, ea1, h⟩ := h
  obtain ⟨t2, h⟩ := h
  exact t_callV (ci := 2) (as := [(vI x2)]) (S := []) gk dX5_hasOutlived_2 gX5_51 (by decide) rfl w_681 w_682 ea1 t2 rfl rfl (Nat.le_of_ble_eq_true rfl) (by decide) h
theorem eX5_hasOutlived {G : GG} (gk : GOK G) {σ : Mm} {K : RES → Mm → Prop} {x0 : Option Nat} {x1 : Option Nat} {x2 : Int32}
    (h : ∃ a1, x1 = some a1 ∧ (mt σ a1).1 = 3 ∧ Runs G mX2_age rX2_age [(vR x1), (vI x2)] σ (bk G mX5_hasOutlived rX5_hasOutlived 0 0 5 [some (vR x0), some (vR x1), some (vI x2)] [] K)) : Runs G mX5_hasOutlived rX5_hasOutlived [(vR x0), (vR x1), (vI x2)] σ K := Runs.of (by decide) rfl (Nat.le_of_ble_eq_true rfl) (vX5_hasOutlived_0 gk h)
theorem vX5_hasOutlived_5 {G : GG} (gk : GOK G) {σ : Mm} {K : RES → Mm → Prop} {x0 : Option Nat} {x1 : Option Nat} {x2 : Int32} {s0 : Int32}
    (h : ∃ a1, x0 = some a1 ∧ (mt σ a1).1 = 6 ∧ ((s0 < (mi σ a1 2) → K (.inl (some (vI (0 : Int32)))) σ) ∧ (¬ s0 < (mi σ a1 2) → K (.inl (some (vI (1 : Int32)))) σ))) : At G mX5_hasOutlived rX5_hasOutlived 0 0 5 [some (vR x0), some (vR x1), some (vI x2)] [(vI s0)] σ K := by
  refine s_aload_n (i := 0) dX5_hasOutlived_5 rfl rfl ?_
  obtain ⟨a1, ea1, h⟩ := h
  obtain ⟨t2, h⟩ := h
  refine t_getI gk dX5_hasOutlived_6 fX5_19 rfl ea1 t2 ?_
  refine s_icmp_lt (tgt := 16) dX5_hasOutlived_9 (by decide) (fun q3 => ?_) (fun q3 => ?_)
  · have h := h.1 q3
    refine s_iconst (v := 0) dX5_hasOutlived_16 (by decide) ?_
    exact s_ireturn dX5_hasOutlived_17 rfl rfl (by decide) (by decide) h
  · have h := h.2 q3
    refine s_iconst (v := 1) dX5_hasOutlived_12 (by decide) ?_
    refine s_goto (tgt := 17) dX5_hasOutlived_13 (by decide) ?_
    exact s_ireturn dX5_hasOutlived_17 rfl rfl (by decide) (by decide) h
theorem vX5_outcome_0 {G : GG} (gk : GOK G) {σ : Mm} {K : RES → Mm → Prop} {x0 : Option Nat} {x1 : Int32} {x2 : Int32}
    (h : ∃ a1, x0 = some a1 ∧ (mt σ a1).1 = 6 ∧ Runs G mX5_find rX5_find [(vR x0), (vI x1)] σ (bk G mX5_outcome rX5_outcome 0 0 5 [some (vR x0), some (vI x1), some (vI x2), none] [] K)) : At G mX5_outcome rX5_outcome 0 0 0 [some (vR x0), some (vI x1), some (vI x2), none] [] σ K := by
  refine s_aload_n (i := 0) dX5_outcome_0 rfl rfl ?_
  refine s_iload_n (i := 1) dX5_outcome_1 rfl rfl ?_
  obtain ⟨a1, ea1, h⟩ := h
  obtain ⟨t2, h⟩ := h
  exact t_callV (ci := 5) (as := [(vI x1)]) (S := []) gk dX5_outcome_2 gX5_47 (by decide) rfl w_668 w_669 ea1 t2 rfl rfl (Nat.le_of_ble_eq_true rfl) (by decide) h
theorem eX5_outcome {G : GG} (gk : GOK G) {σ : Mm} {K : RES → Mm → Prop} {x0 : Option Nat} {x1 : Int32} {x2 : Int32}
    (h : ∃ a1, x0 = some a1 ∧ (mt σ a1).1 = 6 ∧ Runs G mX5_find rX5_find [(vR x0), (vI x1)] σ (bk G mX5_outcome rX5_outcome 0 0 5 [some (vR x0), some (vI x1), some (vI x2), none] [] K)) : Runs G mX5_outcome rX5_outcome [(vR x0), (vI x1), (vI x2)] σ K := Runs.of (by decide) rfl (Nat.le_of_ble_eq_true rfl) (vX5_outcome_0 gk h)
theorem vX5_outcome_5 {G : GG} (gk : GOK G) {σ : Mm} {K : RES → Mm → Prop} {x0 : Option Nat} {x1 : Int32} {x2 : Int32} {s0 : Option Nat}
    (h : ((s0 = none → K (.inl (some (vI (99 : Int32)))) σ) ∧ (∀ a2, s0 = some a2 → ∃ a3, x0 = some a3 ∧ (mt σ a3).1 = 6 ∧ Runs G mX5_hasOutlived rX5_hasOutlived [(vR x0), (vR s0), (vI x2)] σ (bk G mX5_outcome rX5_outcome 0 0 19 [some (vR x0), some (vI x1), some (vI x2), some (vR s0)] [] K)))) : At G mX5_outcome rX5_outcome 0 0 5 [some (vR x0), some (vI x1), some (vI x2), none] [(vR s0)] σ K := by
  refine s_astore_n (i := 3) (L' := [some (vR x0), some (vI x1), some (vI x2), some (vR s0)]) dX5_outcome_5 rfl rfl (by decide) rfl ?_
  refine s_aload_n (i := 3) dX5_outcome_6 rfl rfl ?_
  refine s_ifnonnull (tgt := 13) dX5_outcome_7 (by decide) (fun a2 ea2 => ?_) (fun q1 => ?_)
  · have h := h.2 a2 ea2
    refine s_aload_n (i := 0) dX5_outcome_13 rfl rfl ?_
    refine s_aload_n (i := 3) dX5_outcome_14 rfl rfl ?_
    refine s_iload_n (i := 2) dX5_outcome_15 rfl rfl ?_
    obtain ⟨a3, ea3, h⟩ := h
    obtain ⟨t4, h⟩ := h
    exact t_callV (ci := 5) (as := [(vR s0), (vI x2)]) (S := []) gk dX5_outcome_16 gX5_55 (by decide) rfl w_677 w_678 ea3 t4 rfl rfl (Nat.le_of_ble_eq_true rfl) (by decide) h
  · have h := h.1 q1
    refine s_bipush (v := 99) dX5_outcome_10 (by decide) ?_
    exact s_ireturn dX5_outcome_12 rfl rfl (by decide) (by decide) h
theorem vX5_outcome_19 {G : GG} (gk : GOK G) {σ : Mm} {K : RES → Mm → Prop} {x0 : Option Nat} {x1 : Int32} {x2 : Int32} {x3 : Option Nat} {s0 : Int32}
    (h : ((s0 = 0 → ∃ a2, x3 = some a2 ∧ (mt σ a2).1 = 3 ∧ (((mi σ a2 8) = 0 → K (.inl (some (vI (104 : Int32)))) σ) ∧ (¬ (mi σ a2 8) = 0 → K (.inl (some (vI (111 : Int32)))) σ))) ∧ (¬ s0 = 0 → K (.inl (some (vI (101 : Int32)))) σ))) : At G mX5_outcome rX5_outcome 0 0 19 [some (vR x0), some (vI x1), some (vI x2), some (vR x3)] [(vI s0)] σ K := by
  refine s_if_eq (tgt := 25) dX5_outcome_19 (by decide) (fun q1 => ?_) (fun q1 => ?_)
  · have h := h.1 q1
    refine s_aload_n (i := 3) dX5_outcome_25 rfl rfl ?_
    obtain ⟨a2, ea2, h⟩ := h
    obtain ⟨t3, h⟩ := h
    refine t_getI gk dX5_outcome_26 fX5_59 rfl ea2 t3 ?_
    refine s_if_eq (tgt := 37) dX5_outcome_29 (by decide) (fun q4 => ?_) (fun q4 => ?_)
    · have h := h.1 q4
      refine s_bipush (v := 104) dX5_outcome_37 (by decide) ?_
      exact s_ireturn dX5_outcome_39 rfl rfl (by decide) (by decide) h
    · have h := h.2 q4
      refine s_bipush (v := 111) dX5_outcome_32 (by decide) ?_
      refine s_goto (tgt := 39) dX5_outcome_34 (by decide) ?_
      exact s_ireturn dX5_outcome_39 rfl rfl (by decide) (by decide) h
  · have h := h.2 q1
    refine s_bipush (v := 101) dX5_outcome_22 (by decide) ?_
    exact s_ireturn dX5_outcome_24 rfl rfl (by decide) (by decide) h
theorem vX5_firstInOrder_0 {G : GG} (gk : GOK G) {σ : Mm} {K : RES → Mm → Prop} {x0 : Option Nat}
    (h : ∃ a1, x0 = some a1 ∧ (mt σ a1).1 = 6 ∧ ∃ a3, mr σ a1 6 = some a3 ∧ ∃ n5, mt σ a3 = (58, n5) ∧ vp_in (0 : Int32) n5 ∧ ∃ a7, mr σ a3 (0 : Int32).toNatClampNeg = some a7 ∧ (mt σ a7).1 = 3 ∧ (((mi σ a7 0) = 0 → K (.inl (some (vR none))) σ) ∧ (¬ (mi σ a7 0) = 0 → K (.inl (some (vR (mr σ a3 (0 : Int32).toNatClampNeg)))) σ))) : At G mX5_firstInOrder rX5_firstInOrder 0 0 0 [some (vR x0), none] [] σ K := by
  refine s_aload_n (i := 0) dX5_firstInOrder_0 rfl rfl ?_
  obtain ⟨a1, ea1, h⟩ := h
  obtain ⟨t2, h⟩ := h
  refine t_getR gk dX5_firstInOrder_1 fX5_34 rfl ea1 t2 ?_
  refine s_iconst (v := 0) dX5_firstInOrder_4 (by decide) ?_
  obtain ⟨a3, ea3, h⟩ := h
  obtain ⟨n5, t4, h⟩ := h
  obtain ⟨c6, h⟩ := h
  refine t_aald (j := 8) gk dX5_firstInOrder_5 (by decide) (by decide) ea3 t4 c6 ?_
  refine s_astore_n (i := 1) (L' := [some (vR x0), some (vR (mr σ a3 (0 : Int32).toNatClampNeg))]) dX5_firstInOrder_6 rfl rfl (by decide) rfl ?_
  refine s_aload_n (i := 1) dX5_firstInOrder_7 rfl rfl ?_
  obtain ⟨a7, ea7, h⟩ := h
  obtain ⟨t8, h⟩ := h
  refine t_getI gk dX5_firstInOrder_8 fX5_43 rfl ea7 t8 ?_
  refine s_if_eq (tgt := 18) dX5_firstInOrder_11 (by decide) (fun q9 => ?_) (fun q9 => ?_)
  · have h := h.1 q9
    refine s_null dX5_firstInOrder_18 ?_
    exact s_areturn dX5_firstInOrder_19 rfl rfl (by decide) (by decide) h
  · have h := h.2 q9
    refine s_aload_n (i := 1) dX5_firstInOrder_14 rfl rfl ?_
    refine s_goto (tgt := 19) dX5_firstInOrder_15 (by decide) ?_
    exact s_areturn dX5_firstInOrder_19 rfl rfl (by decide) (by decide) h
theorem eX5_firstInOrder {G : GG} (gk : GOK G) {σ : Mm} {K : RES → Mm → Prop} {x0 : Option Nat}
    (h : ∃ a1, x0 = some a1 ∧ (mt σ a1).1 = 6 ∧ ∃ a3, mr σ a1 6 = some a3 ∧ ∃ n5, mt σ a3 = (58, n5) ∧ vp_in (0 : Int32) n5 ∧ ∃ a7, mr σ a3 (0 : Int32).toNatClampNeg = some a7 ∧ (mt σ a7).1 = 3 ∧ (((mi σ a7 0) = 0 → K (.inl (some (vR none))) σ) ∧ (¬ (mi σ a7 0) = 0 → K (.inl (some (vR (mr σ a3 (0 : Int32).toNatClampNeg)))) σ))) : Runs G mX5_firstInOrder rX5_firstInOrder [(vR x0)] σ K := Runs.of (by decide) rfl (Nat.le_of_ble_eq_true rfl) (vX5_firstInOrder_0 gk h)
theorem vX5_firstByScan_0 {G : GG} (gk : GOK G) {σ : Mm} {K : RES → Mm → Prop} {x0 : Option Nat}
    (h : ∃ a1, x0 = some a1 ∧ (mt σ a1).1 = 6 ∧ ∃ a3, mr σ a1 6 = some a3 ∧ ∃ n5, mt σ a3 = (58, n5) ∧ At G mX5_firstByScan rX5_firstByScan 0 0 13 [some (vR x0), some (vR none), some (vR (mr σ a1 6)), some (vI (nI n5)), some (vI (0 : Int32)), none] [] σ K) : At G mX5_firstByScan rX5_firstByScan 0 0 0 [some (vR x0), none, none, none, none, none] [] σ K := by
  refine s_null dX5_firstByScan_0 ?_
  refine s_astore_n (i := 1) (L' := [some (vR x0), some (vR none), none, none, none, none]) dX5_firstByScan_1 rfl rfl (by decide) rfl ?_
  refine s_aload_n (i := 0) dX5_firstByScan_2 rfl rfl ?_
  obtain ⟨a1, ea1, h⟩ := h
  obtain ⟨t2, h⟩ := h
  refine t_getR gk dX5_firstByScan_3 fX5_34 rfl ea1 t2 ?_
  refine s_astore_n (i := 2) (L' := [some (vR x0), some (vR none), some (vR (mr σ a1 6)), none, none, none]) dX5_firstByScan_6 rfl rfl (by decide) rfl ?_
  refine s_aload_n (i := 2) dX5_firstByScan_7 rfl rfl ?_
  obtain ⟨a3, ea3, h⟩ := h
  obtain ⟨n5, t4, h⟩ := h
  refine t_alen (j := 8) gk dX5_firstByScan_8 (by decide) ea3 t4 ?_
  refine s_istore_n (i := 3) (L' := [some (vR x0), some (vR none), some (vR (mr σ a1 6)), some (vI (nI n5)), none, none]) dX5_firstByScan_9 rfl rfl (by decide) rfl ?_
  refine s_iconst (v := 0) dX5_firstByScan_10 (by decide) ?_
  refine s_istore (L' := [some (vR x0), some (vR none), some (vR (mr σ a1 6)), some (vI (nI n5)), some (vI (0 : Int32)), none]) dX5_firstByScan_11 rfl (by decide) rfl ?_
  exact h
theorem eX5_firstByScan {G : GG} (gk : GOK G) {σ : Mm} {K : RES → Mm → Prop} {x0 : Option Nat}
    (h : ∃ a1, x0 = some a1 ∧ (mt σ a1).1 = 6 ∧ ∃ a3, mr σ a1 6 = some a3 ∧ ∃ n5, mt σ a3 = (58, n5) ∧ At G mX5_firstByScan rX5_firstByScan 0 0 13 [some (vR x0), some (vR none), some (vR (mr σ a1 6)), some (vI (nI n5)), some (vI (0 : Int32)), none] [] σ K) : Runs G mX5_firstByScan rX5_firstByScan [(vR x0)] σ K := Runs.of (by decide) rfl (Nat.le_of_ble_eq_true rfl) (vX5_firstByScan_0 gk h)
theorem vX5_firstByScan_13 {G : GG} (gk : GOK G) {σ : Mm} {K : RES → Mm → Prop} {x0 : Option Nat} {x1 : Option Nat} {x2 : Option Nat} {x3 : Int32} {x4 : Int32}
    (h : ((x3 ≤ x4 → K (.inl (some (vR x1))) σ) ∧ (¬ x3 ≤ x4 → ∃ a2, x2 = some a2 ∧ ∃ n4, mt σ a2 = (58, n4) ∧ vp_in x4 n4 ∧ ∃ a6, mr σ a2 x4.toNatClampNeg = some a6 ∧ (mt σ a6).1 = 3 ∧ (((mi σ a6 0) = 0 → At G mX5_firstByScan rX5_firstByScan 0 0 13 [some (vR x0), some (vR x1), some (vR x2), some (vI x3), some (vI (x4 + 1)), none] [] σ K) ∧ (¬ (mi σ a6 0) = 0 → ((x1 = none → At G mX5_firstByScan rX5_firstByScan 0 0 13 [some (vR x0), some (vR (mr σ a2 x4.toNatClampNeg)), some (vR x2), some (vI x3), some (vI (x4 + 1)), none] [] σ K) ∧ (∀ a10, x1 = some a10 → ∃ a11, x0 = some a11 ∧ (mt σ a11).1 = 6 ∧ Runs G mX5_isBefore rX5_isBefore [(vR x0), (vR (mr σ a2 x4.toNatClampNeg)), (vR x1)] σ (bk G mX5_firstByScan rX5_firstByScan 0 0 44 [some (vR x0), some (vR x1), some (vR x2), some (vI x3), some (vI x4), some (vR (mr σ a2 x4.toNatClampNeg))] [] K)))))))) : At G mX5_firstByScan rX5_firstByScan 0 0 13 [some (vR x0), some (vR x1), some (vR x2), some (vI x3), some (vI x4), none] [] σ K := by
  refine s_iload dX5_firstByScan_13 rfl ?_
  refine s_iload_n (i := 3) dX5_firstByScan_15 rfl rfl ?_
  refine s_icmp_ge (tgt := 56) dX5_firstByScan_16 (by decide) (fun q1 => ?_) (fun q1 => ?_)
  · have h := h.1 q1
    refine s_aload_n (i := 1) dX5_firstByScan_56 rfl rfl ?_
    exact s_areturn dX5_firstByScan_57 rfl rfl (by decide) (by decide) h
  · have h := h.2 q1
    refine s_aload_n (i := 2) dX5_firstByScan_19 rfl rfl ?_
    refine s_iload dX5_firstByScan_20 rfl ?_
    obtain ⟨a2, ea2, h⟩ := h
    obtain ⟨n4, t3, h⟩ := h
    obtain ⟨c5, h⟩ := h
    refine t_aald (j := 8) gk dX5_firstByScan_22 (by decide) (by decide) ea2 t3 c5 ?_
    refine s_astore (L' := [some (vR x0), some (vR x1), some (vR x2), some (vI x3), some (vI x4), some (vR (mr σ a2 x4.toNatClampNeg))]) dX5_firstByScan_23 rfl (by decide) rfl ?_
    refine s_aload dX5_firstByScan_25 rfl ?_
    obtain ⟨a6, ea6, h⟩ := h
    obtain ⟨t7, h⟩ := h
    refine t_getI gk dX5_firstByScan_27 fX5_43 rfl ea6 t7 ?_
    refine s_if_eq (tgt := 50) dX5_firstByScan_30 (by decide) (fun q8 => ?_) (fun q8 => ?_)
    · have h := h.1 q8
      refine s_iinc (v := x4 + 1) (L' := [some (vR x0), some (vR x1), some (vR x2), some (vI x3), some (vI (x4 + 1)), some (vR (mr σ a2 x4.toNatClampNeg))]) dX5_firstByScan_50 rfl rfl rfl (by decide) rfl ?_
      refine s_goto (tgt := 13) dX5_firstByScan_53 (by decide) ?_
      exact h.msk ⟨rfl, ⟨rfl, ⟨rfl, ⟨rfl, ⟨rfl, trivial⟩⟩⟩⟩⟩
    · have h := h.2 q8
      refine s_aload_n (i := 1) dX5_firstByScan_33 rfl rfl ?_
      refine s_ifnull (tgt := 47) dX5_firstByScan_34 (by decide) (fun q9 => ?_) (fun a10 ea10 => ?_)
      · have h := h.1 q9
        refine s_aload dX5_firstByScan_47 rfl ?_
        refine s_astore_n (i := 1) (L' := [some (vR x0), some (vR (mr σ a2 x4.toNatClampNeg)), some (vR x2), some (vI x3), some (vI x4), some (vR (mr σ a2 x4.toNatClampNeg))]) dX5_firstByScan_49 rfl rfl (by decide) rfl ?_
        refine s_iinc (v := x4 + 1) (L' := [some (vR x0), some (vR (mr σ a2 x4.toNatClampNeg)), some (vR x2), some (vI x3), some (vI (x4 + 1)), some (vR (mr σ a2 x4.toNatClampNeg))]) dX5_firstByScan_50 rfl rfl rfl (by decide) rfl ?_
        refine s_goto (tgt := 13) dX5_firstByScan_53 (by decide) ?_
        exact h.msk ⟨rfl, ⟨rfl, ⟨rfl, ⟨rfl, ⟨rfl, trivial⟩⟩⟩⟩⟩
      · have h := h.2 a10 ea10
        refine s_aload_n (i := 0) dX5_firstByScan_37 rfl rfl ?_
        refine s_aload dX5_firstByScan_38 rfl ?_
        refine s_aload_n (i := 1) dX5_firstByScan_40 rfl rfl ?_
        obtain ⟨a11, ea11, h⟩ := h
        obtain ⟨t12, h⟩ := h
        exact t_callV (ci := 5) (as := [(vR (mr σ a2 x4.toNatClampNeg)), (vR x1)]) (S := []) gk dX5_firstByScan_41 gX5_62 (by decide) rfl w_697 w_698 ea11 t12 rfl rfl (Nat.le_of_ble_eq_true rfl) (by decide) h
theorem vX5_firstByScan_44 {G : GG} (gk : GOK G) {σ : Mm} {K : RES → Mm → Prop} {x0 : Option Nat} {x1 : Option Nat} {x2 : Option Nat} {x3 : Int32} {x4 : Int32} {x5 : Option Nat} {s0 : Int32}
    (h : ((s0 = 0 → At G mX5_firstByScan rX5_firstByScan 0 0 13 [some (vR x0), some (vR x1), some (vR x2), some (vI x3), some (vI (x4 + 1)), none] [] σ K) ∧ (¬ s0 = 0 → At G mX5_firstByScan rX5_firstByScan 0 0 13 [some (vR x0), some (vR x5), some (vR x2), some (vI x3), some (vI (x4 + 1)), none] [] σ K))) : At G mX5_firstByScan rX5_firstByScan 0 0 44 [some (vR x0), some (vR x1), some (vR x2), some (vI x3), some (vI x4), some (vR x5)] [(vI s0)] σ K := by
  refine s_if_eq (tgt := 50) dX5_firstByScan_44 (by decide) (fun q1 => ?_) (fun q1 => ?_)
  · have h := h.1 q1
    refine s_iinc (v := x4 + 1) (L' := [some (vR x0), some (vR x1), some (vR x2), some (vI x3), some (vI (x4 + 1)), some (vR x5)]) dX5_firstByScan_50 rfl rfl rfl (by decide) rfl ?_
    refine s_goto (tgt := 13) dX5_firstByScan_53 (by decide) ?_
    exact h.msk ⟨rfl, ⟨rfl, ⟨rfl, ⟨rfl, ⟨rfl, trivial⟩⟩⟩⟩⟩
  · have h := h.2 q1
    refine s_aload dX5_firstByScan_47 rfl ?_
    refine s_astore_n (i := 1) (L' := [some (vR x0), some (vR x5), some (vR x2), some (vI x3), some (vI x4), some (vR x5)]) dX5_firstByScan_49 rfl rfl (by decide) rfl ?_
    refine s_iinc (v := x4 + 1) (L' := [some (vR x0), some (vR x5), some (vR x2), some (vI x3), some (vI (x4 + 1)), some (vR x5)]) dX5_firstByScan_50 rfl rfl rfl (by decide) rfl ?_
    refine s_goto (tgt := 13) dX5_firstByScan_53 (by decide) ?_
    exact h.msk ⟨rfl, ⟨rfl, ⟨rfl, ⟨rfl, ⟨rfl, trivial⟩⟩⟩⟩⟩
theorem vX5_isBefore_0 {G : GG} (gk : GOK G) {σ : Mm} {K : RES → Mm → Prop} {x0 : Option Nat} {x1 : Option Nat} {x2 : Option Nat}
    (h : ∃ a1, x0 = some a1 ∧ (mt σ a1).1 = 6 ∧ ((¬ (mi σ a1 3) = (114 : Int32) → ((¬ (mi σ a1 3) = (108 : Int32) → ∃ a5, x1 = some a5 ∧ (mt σ a5).1 = 3 ∧ ∃ a7, x2 = some a7 ∧ (mt σ a7).1 = 3 ∧ (((mi σ a7 4) ≤ (mi σ a5 4) → K (.inl (some (vI (0 : Int32)))) σ) ∧ (¬ (mi σ a7 4) ≤ (mi σ a5 4) → K (.inl (some (vI (1 : Int32)))) σ))) ∧ ((mi σ a1 3) = (108 : Int32) → ∃ a10, x1 = some a10 ∧ (mt σ a10).1 = 3 ∧ ∃ a12, x2 = some a12 ∧ (mt σ a12).1 = 3 ∧ (((mi σ a10 6) = (mi σ a12 6) → (((mi σ a12 4) ≤ (mi σ a10 4) → K (.inl (some (vI (0 : Int32)))) σ) ∧ (¬ (mi σ a12 4) ≤ (mi σ a10 4) → K (.inl (some (vI (1 : Int32)))) σ))) ∧ (¬ (mi σ a10 6) = (mi σ a12 6) → (((mi σ a12 6) ≤ (mi σ a10 6) → K (.inl (some (vI (0 : Int32)))) σ) ∧ (¬ (mi σ a12 6) ≤ (mi σ a10 6) → K (.inl (some (vI (1 : Int32)))) σ))))))) ∧ ((mi σ a1 3) = (114 : Int32) → ∃ a17, x1 = some a17 ∧ (mt σ a17).1 = 3 ∧ ∃ a19, x2 = some a19 ∧ (mt σ a19).1 = 3 ∧ (((mi σ a19 5) ≤ (mi σ a17 5) → K (.inl (some (vI (0 : Int32)))) σ) ∧ (¬ (mi σ a19 5) ≤ (mi σ a17 5) → K (.inl (some (vI (1 : Int32)))) σ))))) : At G mX5_isBefore rX5_isBefore 0 0 0 [some (vR x0), some (vR x1), some (vR x2)] [] σ K := by
  refine s_aload_n (i := 0) dX5_isBefore_0 rfl rfl ?_
  obtain ⟨a1, ea1, h⟩ := h
  obtain ⟨t2, h⟩ := h
  refine t_getI gk dX5_isBefore_1 fX5_22 rfl ea1 t2 ?_
  refine s_bipush (v := 114) dX5_isBefore_4 (by decide) ?_
  refine s_icmp_ne (tgt := 26) dX5_isBefore_6 (by decide) (fun q3 => ?_) (fun q3 => ?_)
  · have h := h.1 q3
    refine s_aload_n (i := 0) dX5_isBefore_26 rfl rfl ?_
    refine t_getI gk dX5_isBefore_27 fX5_22 rfl ea1 t2 ?_
    refine s_bipush (v := 108) dX5_isBefore_30 (by decide) ?_
    refine s_icmp_ne (tgt := 63) dX5_isBefore_32 (by decide) (fun q4 => ?_) (fun q4 => ?_)
    · have h := h.1 q4
      refine s_aload_n (i := 1) dX5_isBefore_63 rfl rfl ?_
      obtain ⟨a5, ea5, h⟩ := h
      obtain ⟨t6, h⟩ := h
      refine t_getI gk dX5_isBefore_64 fX5_70 rfl ea5 t6 ?_
      refine s_aload_n (i := 2) dX5_isBefore_67 rfl rfl ?_
      obtain ⟨a7, ea7, h⟩ := h
      obtain ⟨t8, h⟩ := h
      refine t_getI gk dX5_isBefore_68 fX5_70 rfl ea7 t8 ?_
      refine s_icmp_ge (tgt := 78) dX5_isBefore_71 (by decide) (fun q9 => ?_) (fun q9 => ?_)
      · have h := h.1 q9
        refine s_iconst (v := 0) dX5_isBefore_78 (by decide) ?_
        exact s_ireturn dX5_isBefore_79 rfl rfl (by decide) (by decide) h
      · have h := h.2 q9
        refine s_iconst (v := 1) dX5_isBefore_74 (by decide) ?_
        refine s_goto (tgt := 79) dX5_isBefore_75 (by decide) ?_
        exact s_ireturn dX5_isBefore_79 rfl rfl (by decide) (by decide) h
    · have h := h.2 q4
      refine s_aload_n (i := 1) dX5_isBefore_35 rfl rfl ?_
      obtain ⟨a10, ea10, h⟩ := h
      obtain ⟨t11, h⟩ := h
      refine t_getI gk dX5_isBefore_36 fX5_69 rfl ea10 t11 ?_
      refine s_aload_n (i := 2) dX5_isBefore_39 rfl rfl ?_
      obtain ⟨a12, ea12, h⟩ := h
      obtain ⟨t13, h⟩ := h
      refine t_getI gk dX5_isBefore_40 fX5_69 rfl ea12 t13 ?_
      refine s_icmp_eq (tgt := 63) dX5_isBefore_43 (by decide) (fun q14 => ?_) (fun q14 => ?_)
      · have h := h.1 q14
        refine s_aload_n (i := 1) dX5_isBefore_63 rfl rfl ?_
        refine t_getI gk dX5_isBefore_64 fX5_70 rfl ea10 t11 ?_
        refine s_aload_n (i := 2) dX5_isBefore_67 rfl rfl ?_
        refine t_getI gk dX5_isBefore_68 fX5_70 rfl ea12 t13 ?_
        refine s_icmp_ge (tgt := 78) dX5_isBefore_71 (by decide) (fun q15 => ?_) (fun q15 => ?_)
        · have h := h.1 q15
          refine s_iconst (v := 0) dX5_isBefore_78 (by decide) ?_
          exact s_ireturn dX5_isBefore_79 rfl rfl (by decide) (by decide) h
        · have h := h.2 q15
          refine s_iconst (v := 1) dX5_isBefore_74 (by decide) ?_
          refine s_goto (tgt := 79) dX5_isBefore_75 (by decide) ?_
          exact s_ireturn dX5_isBefore_79 rfl rfl (by decide) (by decide) h
      · have h := h.2 q14
        refine s_aload_n (i := 1) dX5_isBefore_46 rfl rfl ?_
        refine t_getI gk dX5_isBefore_47 fX5_69 rfl ea10 t11 ?_
        refine s_aload_n (i := 2) dX5_isBefore_50 rfl rfl ?_
        refine t_getI gk dX5_isBefore_51 fX5_69 rfl ea12 t13 ?_
        refine s_icmp_ge (tgt := 61) dX5_isBefore_54 (by decide) (fun q16 => ?_) (fun q16 => ?_)
        · have h := h.1 q16
          refine s_iconst (v := 0) dX5_isBefore_61 (by decide) ?_
          exact s_ireturn dX5_isBefore_62 rfl rfl (by decide) (by decide) h
        · have h := h.2 q16
          refine s_iconst (v := 1) dX5_isBefore_57 (by decide) ?_
          refine s_goto (tgt := 62) dX5_isBefore_58 (by decide) ?_
          exact s_ireturn dX5_isBefore_62 rfl rfl (by decide) (by decide) h
  · have h := h.2 q3
    refine s_aload_n (i := 1) dX5_isBefore_9 rfl rfl ?_
    obtain ⟨a17, ea17, h⟩ := h
    obtain ⟨t18, h⟩ := h
    refine t_getI gk dX5_isBefore_10 fX5_66 rfl ea17 t18 ?_
    refine s_aload_n (i := 2) dX5_isBefore_13 rfl rfl ?_
    obtain ⟨a19, ea19, h⟩ := h
    obtain ⟨t20, h⟩ := h
    refine t_getI gk dX5_isBefore_14 fX5_66 rfl ea19 t20 ?_
    refine s_icmp_ge (tgt := 24) dX5_isBefore_17 (by decide) (fun q21 => ?_) (fun q21 => ?_)
    · have h := h.1 q21
      refine s_iconst (v := 0) dX5_isBefore_24 (by decide) ?_
      exact s_ireturn dX5_isBefore_25 rfl rfl (by decide) (by decide) h
    · have h := h.2 q21
      refine s_iconst (v := 1) dX5_isBefore_20 (by decide) ?_
      refine s_goto (tgt := 25) dX5_isBefore_21 (by decide) ?_
      exact s_ireturn dX5_isBefore_25 rfl rfl (by decide) (by decide) h
theorem eX5_isBefore {G : GG} (gk : GOK G) {σ : Mm} {K : RES → Mm → Prop} {x0 : Option Nat} {x1 : Option Nat} {x2 : Option Nat}
    (h : ∃ a1, x0 = some a1 ∧ (mt σ a1).1 = 6 ∧ ((¬ (mi σ a1 3) = (114 : Int32) → ((¬ (mi σ a1 3) = (108 : Int32) → ∃ a5, x1 = some a5 ∧ (mt σ a5).1 = 3 ∧ ∃ a7, x2 = some a7 ∧ (mt σ a7).1 = 3 ∧ (((mi σ a7 4) ≤ (mi σ a5 4) → K (.inl (some (vI (0 : Int32)))) σ) ∧ (¬ (mi σ a7 4) ≤ (mi σ a5 4) → K (.inl (some (vI (1 : Int32)))) σ))) ∧ ((mi σ a1 3) = (108 : Int32) → ∃ a10, x1 = some a10 ∧ (mt σ a10).1 = 3 ∧ ∃ a12, x2 = some a12 ∧ (mt σ a12).1 = 3 ∧ (((mi σ a10 6) = (mi σ a12 6) → (((mi σ a12 4) ≤ (mi σ a10 4) → K (.inl (some (vI (0 : Int32)))) σ) ∧ (¬ (mi σ a12 4) ≤ (mi σ a10 4) → K (.inl (some (vI (1 : Int32)))) σ))) ∧ (¬ (mi σ a10 6) = (mi σ a12 6) → (((mi σ a12 6) ≤ (mi σ a10 6) → K (.inl (some (vI (0 : Int32)))) σ) ∧ (¬ (mi σ a12 6) ≤ (mi σ a10 6) → K (.inl (some (vI (1 : Int32)))) σ))))))) ∧ ((mi σ a1 3) = (114 : Int32) → ∃ a17, x1 = some a17 ∧ (mt σ a17).1 = 3 ∧ ∃ a19, x2 = some a19 ∧ (mt σ a19).1 = 3 ∧ (((mi σ a19 5) ≤ (mi σ a17 5) → K (.inl (some (vI (0 : Int32)))) σ) ∧ (¬ (mi σ a19 5) ≤ (mi σ a17 5) → K (.inl (some (vI (1 : Int32)))) σ))))) : Runs G mX5_isBefore rX5_isBefore [(vR x0), (vR x1), (vR x2)] σ K := Runs.of (by decide) rfl (Nat.le_of_ble_eq_true rfl) (vX5_isBefore_0 gk h)
theorem vX5_sort_0 {G : GG} (gk : GOK G) {σ : Mm} {K : RES → Mm → Prop} {x0 : Option Nat}
    (h : At G mX5_sort rX5_sort 0 0 2 [some (vR x0), some (vI (1 : Int32)), none, none, none] [] σ K) : At G mX5_sort rX5_sort 0 0 0 [some (vR x0), none, none, none, none] [] σ K := by
  refine s_iconst (v := 1) dX5_sort_0 (by decide) ?_
  refine s_istore_n (i := 1) (L' := [some (vR x0), some (vI (1 : Int32)), none, none, none]) dX5_sort_1 rfl rfl (by decide) rfl ?_
  exact h
theorem eX5_sort {G : GG} (gk : GOK G) {σ : Mm} {K : RES → Mm → Prop} {x0 : Option Nat}
    (h : At G mX5_sort rX5_sort 0 0 2 [some (vR x0), some (vI (1 : Int32)), none, none, none] [] σ K) : Runs G mX5_sort rX5_sort [(vR x0)] σ K := Runs.of (by decide) rfl (Nat.le_of_ble_eq_true rfl) (vX5_sort_0 gk h)
theorem vX5_sort_2 {G : GG} (gk : GOK G) {σ : Mm} {K : RES → Mm → Prop} {x0 : Option Nat} {x1 : Int32}
    (h : ∃ a1, x0 = some a1 ∧ (mt σ a1).1 = 6 ∧ ∃ a3, mr σ a1 6 = some a3 ∧ ∃ n5, mt σ a3 = (58, n5) ∧ (((nI n5) ≤ x1 → K (.inl none) σ) ∧ (¬ (nI n5) ≤ x1 → At G mX5_sort rX5_sort 0 0 13 [some (vR x0), some (vI x1), some (vI x1), none, none] [] σ K))) : At G mX5_sort rX5_sort 0 0 2 [some (vR x0), some (vI x1), none, none, none] [] σ K := by
  refine s_iload_n (i := 1) dX5_sort_2 rfl rfl ?_
  refine s_aload_n (i := 0) dX5_sort_3 rfl rfl ?_
  obtain ⟨a1, ea1, h⟩ := h
  obtain ⟨t2, h⟩ := h
  refine t_getR gk dX5_sort_4 fX5_34 rfl ea1 t2 ?_
  obtain ⟨a3, ea3, h⟩ := h
  obtain ⟨n5, t4, h⟩ := h
  refine t_alen (j := 8) gk dX5_sort_7 (by decide) ea3 t4 ?_
  refine s_icmp_ge (tgt := 91) dX5_sort_8 (by decide) (fun q6 => ?_) (fun q6 => ?_)
  · have h := h.1 q6
    exact s_return dX5_sort_91 rfl (by decide) (by decide) h
  · have h := h.2 q6
    refine s_iload_n (i := 1) dX5_sort_11 rfl rfl ?_
    refine s_istore_n (i := 2) (L' := [some (vR x0), some (vI x1), some (vI x1), none, none]) dX5_sort_12 rfl rfl (by decide) rfl ?_
    exact h
theorem vX5_sort_13 {G : GG} (gk : GOK G) {σ : Mm} {K : RES → Mm → Prop} {x0 : Option Nat} {x1 : Int32} {x2 : Int32}
    (h : ((x2 ≤ 0 → At G mX5_sort rX5_sort 0 0 2 [some (vR x0), some (vI (x1 + 1)), none, none, none] [] σ K) ∧ (¬ x2 ≤ 0 → ∃ a2, x0 = some a2 ∧ (mt σ a2).1 = 6 ∧ ∃ a4, mr σ a2 6 = some a4 ∧ ∃ n6, mt σ a4 = (58, n6) ∧ vp_in x2 n6 ∧ vp_in (x2 - (1 : Int32)) n6 ∧ ∃ a9, mr σ a4 x2.toNatClampNeg = some a9 ∧ (mt σ a9).1 = 3 ∧ (((mi σ a9 0) = 0 → At G mX5_sort rX5_sort 0 0 2 [some (vR x0), some (vI (x1 + 1)), none, none, none] [] σ K) ∧ (¬ (mi σ a9 0) = 0 → ∃ a12, mr σ a4 (x2 - (1 : Int32)).toNatClampNeg = some a12 ∧ (mt σ a12).1 = 3 ∧ (((mi σ a12 0) = 0 → vp_in x2 n6 ∧ ∀ σ16, σ16 = sr σ a4 x2.toNatClampNeg (mr σ a4 (x2 - (1 : Int32)).toNatClampNeg) → ∃ a17, mr σ16 a2 6 = some a17 ∧ ∃ n19, mt σ a17 = (58, n19) ∧ vp_in (x2 - (1 : Int32)) n19 ∧ ∀ σ21, σ21 = sr σ16 a17 (x2 - (1 : Int32)).toNatClampNeg (mr σ a4 x2.toNatClampNeg) → At G mX5_sort rX5_sort 0 0 13 [some (vR x0), some (vI x1), some (vI (x2 + (-1))), none, none] [] σ21 K) ∧ (¬ (mi σ a12 0) = 0 → Runs G mX5_isBefore rX5_isBefore [(vR x0), (vR (mr σ a4 x2.toNatClampNeg)), (vR (mr σ a4 (x2 - (1 : Int32)).toNatClampNeg))] σ (bk G mX5_sort rX5_sort 0 0 56 [some (vR x0), some (vI x1), some (vI x2), some (vR (mr σ a4 x2.toNatClampNeg)), some (vR (mr σ a4 (x2 - (1 : Int32)).toNatClampNeg))] [] K)))))))) : At G mX5_sort rX5_sort 0 0 13 [some (vR x0), some (vI x1), some (vI x2), none, none] [] σ K := by
  refine s_iload_n (i := 2) dX5_sort_13 rfl rfl ?_
  refine s_if_le (tgt := 85) dX5_sort_14 (by decide) (fun q1 => ?_) (fun q1 => ?_)
  · have h := h.1 q1
    refine s_iinc (v := x1 + 1) (L' := [some (vR x0), some (vI (x1 + 1)), some (vI x2), none, none]) dX5_sort_85 rfl rfl rfl (by decide) rfl ?_
    refine s_goto (tgt := 2) dX5_sort_88 (by decide) ?_
    exact h.msk ⟨rfl, ⟨rfl, trivial⟩⟩
  · have h := h.2 q1
    refine s_aload_n (i := 0) dX5_sort_17 rfl rfl ?_
    obtain ⟨a2, ea2, h⟩ := h
    obtain ⟨t3, h⟩ := h
    refine t_getR gk dX5_sort_18 fX5_34 rfl ea2 t3 ?_
    refine s_iload_n (i := 2) dX5_sort_21 rfl rfl ?_
    obtain ⟨a4, ea4, h⟩ := h
    obtain ⟨n6, t5, h⟩ := h
    obtain ⟨c7, h⟩ := h
    refine t_aald (j := 8) gk dX5_sort_22 (by decide) (by decide) ea4 t5 c7 ?_
    refine s_astore_n (i := 3) (L' := [some (vR x0), some (vI x1), some (vI x2), some (vR (mr σ a4 x2.toNatClampNeg)), none]) dX5_sort_23 rfl rfl (by decide) rfl ?_
    refine s_aload_n (i := 0) dX5_sort_24 rfl rfl ?_
    refine t_getR gk dX5_sort_25 fX5_34 rfl ea2 t3 ?_
    refine s_iload_n (i := 2) dX5_sort_28 rfl rfl ?_
    refine s_iconst (v := 1) dX5_sort_29 (by decide) ?_
    refine s_isub dX5_sort_30 ?_
    obtain ⟨c8, h⟩ := h
    refine t_aald (j := 8) gk dX5_sort_31 (by decide) (by decide) ea4 t5 c8 ?_
    refine s_astore (L' := [some (vR x0), some (vI x1), some (vI x2), some (vR (mr σ a4 x2.toNatClampNeg)), some (vR (mr σ a4 (x2 - (1 : Int32)).toNatClampNeg))]) dX5_sort_32 rfl (by decide) rfl ?_
    refine s_aload_n (i := 3) dX5_sort_34 rfl rfl ?_
    obtain ⟨a9, ea9, h⟩ := h
    obtain ⟨t10, h⟩ := h
    refine t_getI gk dX5_sort_35 fX5_43 rfl ea9 t10 ?_
    refine s_if_eq (tgt := 85) dX5_sort_38 (by decide) (fun q11 => ?_) (fun q11 => ?_)
    · have h := h.1 q11
      refine s_iinc (v := x1 + 1) (L' := [some (vR x0), some (vI (x1 + 1)), some (vI x2), some (vR (mr σ a4 x2.toNatClampNeg)), some (vR (mr σ a4 (x2 - (1 : Int32)).toNatClampNeg))]) dX5_sort_85 rfl rfl rfl (by decide) rfl ?_
      refine s_goto (tgt := 2) dX5_sort_88 (by decide) ?_
      exact h.msk ⟨rfl, ⟨rfl, trivial⟩⟩
    · have h := h.2 q11
      refine s_aload dX5_sort_41 rfl ?_
      obtain ⟨a12, ea12, h⟩ := h
      obtain ⟨t13, h⟩ := h
      refine t_getI gk dX5_sort_43 fX5_43 rfl ea12 t13 ?_
      refine s_if_eq (tgt := 62) dX5_sort_46 (by decide) (fun q14 => ?_) (fun q14 => ?_)
      · have h := h.1 q14
        refine s_aload_n (i := 0) dX5_sort_62 rfl rfl ?_
        refine t_getR gk dX5_sort_63 fX5_34 rfl ea2 t3 ?_
        refine s_iload_n (i := 2) dX5_sort_66 rfl rfl ?_
        refine s_aload dX5_sort_67 rfl ?_
        obtain ⟨c15, h⟩ := h
        refine t_aast (j := 8) (ci := 2) gk dX5_sort_69 (by decide) (by decide) (by decide) rfl ea4 t5 ea12 t13 c15 (fun σ16 eσ16 mσ16 => ?_)
        replace h := h σ16 eσ16
        refine s_aload_n (i := 0) dX5_sort_70 rfl rfl ?_
        refine t_getR gk dX5_sort_71 fX5_34 rfl ea2 (by rw [mσ16]; exact t3) ?_
        refine s_iload_n (i := 2) dX5_sort_74 rfl rfl ?_
        refine s_iconst (v := 1) dX5_sort_75 (by decide) ?_
        refine s_isub dX5_sort_76 ?_
        refine s_aload_n (i := 3) dX5_sort_77 rfl rfl ?_
        obtain ⟨a17, ea17, h⟩ := h
        obtain ⟨n19, t18, h⟩ := h
        obtain ⟨c20, h⟩ := h
        refine t_aast (j := 8) (ci := 2) gk dX5_sort_78 (by decide) (by decide) (by decide) rfl ea17 (by rw [mσ16]; exact t18) ea9 (by rw [mσ16]; exact t10) c20 (fun σ21 eσ21 mσ21 => ?_)
        replace h := h σ21 eσ21
        refine s_iinc (v := x2 + (-1)) (L' := [some (vR x0), some (vI x1), some (vI (x2 + (-1))), some (vR (mr σ a4 x2.toNatClampNeg)), some (vR (mr σ a4 (x2 - (1 : Int32)).toNatClampNeg))]) dX5_sort_79 rfl rfl rfl (by decide) rfl ?_
        refine s_goto (tgt := 13) dX5_sort_82 (by decide) ?_
        exact h.msk ⟨rfl, ⟨rfl, ⟨rfl, trivial⟩⟩⟩
      · have h := h.2 q14
        refine s_aload_n (i := 0) dX5_sort_49 rfl rfl ?_
        refine s_aload_n (i := 3) dX5_sort_50 rfl rfl ?_
        refine s_aload dX5_sort_51 rfl ?_
        exact t_callV (ci := 5) (as := [(vR (mr σ a4 x2.toNatClampNeg)), (vR (mr σ a4 (x2 - (1 : Int32)).toNatClampNeg))]) (S := []) gk dX5_sort_53 gX5_62 (by decide) rfl w_697 w_698 ea2 t3 rfl rfl (Nat.le_of_ble_eq_true rfl) (by decide) h
theorem vX5_sort_56 {G : GG} (gk : GOK G) {σ : Mm} {K : RES → Mm → Prop} {x0 : Option Nat} {x1 : Int32} {x2 : Int32} {x3 : Option Nat} {x4 : Option Nat} {s0 : Int32}
    (h : ((¬ s0 = 0 → ∃ a2, x0 = some a2 ∧ (mt σ a2).1 = 6 ∧ ∃ a4, mr σ a2 6 = some a4 ∧ ∃ n6, mt σ a4 = (58, n6) ∧ vp_in x2 n6 ∧ ∃ a9, x4 = some a9 ∧ (mt σ a9).1 = 3 ∧ ∀ σ8, σ8 = sr σ a4 x2.toNatClampNeg x4 → ∃ a11, mr σ8 a2 6 = some a11 ∧ ∃ n13, mt σ a11 = (58, n13) ∧ vp_in (x2 - (1 : Int32)) n13 ∧ ∃ a16, x3 = some a16 ∧ (mt σ a16).1 = 3 ∧ ∀ σ15, σ15 = sr σ8 a11 (x2 - (1 : Int32)).toNatClampNeg x3 → At G mX5_sort rX5_sort 0 0 13 [some (vR x0), some (vI x1), some (vI (x2 + (-1))), none, none] [] σ15 K) ∧ (s0 = 0 → At G mX5_sort rX5_sort 0 0 2 [some (vR x0), some (vI (x1 + 1)), none, none, none] [] σ K))) : At G mX5_sort rX5_sort 0 0 56 [some (vR x0), some (vI x1), some (vI x2), some (vR x3), some (vR x4)] [(vI s0)] σ K := by
  refine s_if_ne (tgt := 62) dX5_sort_56 (by decide) (fun q1 => ?_) (fun q1 => ?_)
  · have h := h.1 q1
    refine s_aload_n (i := 0) dX5_sort_62 rfl rfl ?_
    obtain ⟨a2, ea2, h⟩ := h
    obtain ⟨t3, h⟩ := h
    refine t_getR gk dX5_sort_63 fX5_34 rfl ea2 t3 ?_
    refine s_iload_n (i := 2) dX5_sort_66 rfl rfl ?_
    refine s_aload dX5_sort_67 rfl ?_
    obtain ⟨a4, ea4, h⟩ := h
    obtain ⟨n6, t5, h⟩ := h
    obtain ⟨c7, h⟩ := h
    obtain ⟨a9, ea9, h⟩ := h
    obtain ⟨t10, h⟩ := h
    refine t_aast (j := 8) (ci := 2) gk dX5_sort_69 (by decide) (by decide) (by decide) rfl ea4 t5 ea9 t10 c7 (fun σ8 eσ8 mσ8 => ?_)
    replace h := h σ8 eσ8
    refine s_aload_n (i := 0) dX5_sort_70 rfl rfl ?_
    refine t_getR gk dX5_sort_71 fX5_34 rfl ea2 (by rw [mσ8]; exact t3) ?_
    refine s_iload_n (i := 2) dX5_sort_74 rfl rfl ?_
    refine s_iconst (v := 1) dX5_sort_75 (by decide) ?_
    refine s_isub dX5_sort_76 ?_
    refine s_aload_n (i := 3) dX5_sort_77 rfl rfl ?_
    obtain ⟨a11, ea11, h⟩ := h
    obtain ⟨n13, t12, h⟩ := h
    obtain ⟨c14, h⟩ := h
    obtain ⟨a16, ea16, h⟩ := h
    obtain ⟨t17, h⟩ := h
    refine t_aast (j := 8) (ci := 2) gk dX5_sort_78 (by decide) (by decide) (by decide) rfl ea11 (by rw [mσ8]; exact t12) ea16 (by rw [mσ8]; exact t17) c14 (fun σ15 eσ15 mσ15 => ?_)
    replace h := h σ15 eσ15
    refine s_iinc (v := x2 + (-1)) (L' := [some (vR x0), some (vI x1), some (vI (x2 + (-1))), some (vR x3), some (vR x4)]) dX5_sort_79 rfl rfl rfl (by decide) rfl ?_
    refine s_goto (tgt := 13) dX5_sort_82 (by decide) ?_
    exact h.msk ⟨rfl, ⟨rfl, ⟨rfl, trivial⟩⟩⟩
  · have h := h.2 q1
    refine s_goto (tgt := 85) dX5_sort_59 (by decide) ?_
    refine s_iinc (v := x1 + 1) (L' := [some (vR x0), some (vI (x1 + 1)), some (vI x2), some (vR x3), some (vR x4)]) dX5_sort_85 rfl rfl rfl (by decide) rfl ?_
    refine s_goto (tgt := 2) dX5_sort_88 (by decide) ?_
    exact h.msk ⟨rfl, ⟨rfl, trivial⟩⟩
theorem vX5_remove_0 {G : GG} (gk : GOK G) {σ : Mm} {K : RES → Mm → Prop} {x0 : Option Nat} {x1 : Option Nat}
    (h : ((x1 = none → K (.inl (some (vI (0 : Int32)))) σ) ∧ (∀ a2, x1 = some a2 → (mt σ a2).1 = 3 ∧ ∀ σ4, σ4 = si σ a2 0 (0 : Int32) → ∃ a5, x0 = some a5 ∧ (mt σ a5).1 = 6 ∧ Runs G mX5_sort rX5_sort [(vR x0)] σ4 (bk G mX5_remove rX5_remove 0 0 15 [some (vR x0), some (vR x1)] [] K)))) : At G mX5_remove rX5_remove 0 0 0 [some (vR x0), some (vR x1)] [] σ K := by
  refine s_aload_n (i := 1) dX5_remove_0 rfl rfl ?_
  refine s_ifnonnull (tgt := 6) dX5_remove_1 (by decide) (fun a2 ea2 => ?_) (fun q1 => ?_)
  · have h := h.2 a2 ea2
    refine s_aload_n (i := 1) dX5_remove_6 rfl rfl ?_
    refine s_iconst (v := 0) dX5_remove_7 (by decide) ?_
    obtain ⟨t3, h⟩ := h
    refine t_putI gk dX5_remove_8 fX5_43 rfl rfl ea2 t3 ⟨rfl, rfl⟩ (fun σ4 eσ4 mσ4 => ?_)
    replace h := h σ4 eσ4
    refine s_aload_n (i := 0) dX5_remove_11 rfl rfl ?_
    obtain ⟨a5, ea5, h⟩ := h
    obtain ⟨t6, h⟩ := h
    exact t_callV (ci := 5) (as := []) (S := []) gk dX5_remove_12 gX5_73 (by decide) rfl w_693 w_694 ea5 (by rw [mσ4]; exact t6) rfl rfl (Nat.le_of_ble_eq_true rfl) (by decide) h
  · have h := h.1 q1
    refine s_iconst (v := 0) dX5_remove_4 (by decide) ?_
    exact s_ireturn dX5_remove_5 rfl rfl (by decide) (by decide) h
theorem eX5_remove {G : GG} (gk : GOK G) {σ : Mm} {K : RES → Mm → Prop} {x0 : Option Nat} {x1 : Option Nat}
    (h : ((x1 = none → K (.inl (some (vI (0 : Int32)))) σ) ∧ (∀ a2, x1 = some a2 → (mt σ a2).1 = 3 ∧ ∀ σ4, σ4 = si σ a2 0 (0 : Int32) → ∃ a5, x0 = some a5 ∧ (mt σ a5).1 = 6 ∧ Runs G mX5_sort rX5_sort [(vR x0)] σ4 (bk G mX5_remove rX5_remove 0 0 15 [some (vR x0), some (vR x1)] [] K)))) : Runs G mX5_remove rX5_remove [(vR x0), (vR x1)] σ K := Runs.of (by decide) rfl (Nat.le_of_ble_eq_true rfl) (vX5_remove_0 gk h)
theorem vX5_remove_15 {G : GG} (gk : GOK G) {σ : Mm} {K : RES → Mm → Prop} {x0 : Option Nat} {x1 : Option Nat}
    (h : K (.inl (some (vI (1 : Int32)))) σ) : At G mX5_remove rX5_remove 0 0 15 [some (vR x0), some (vR x1)] [] σ K := by
  refine s_iconst (v := 1) dX5_remove_15 (by decide) ?_
  exact s_ireturn dX5_remove_16 rfl rfl (by decide) (by decide) h
theorem vX5_fetch_0 {G : GG} (gk : GOK G) {σ : Mm} {K : RES → Mm → Prop} {x0 : Option Nat} {x1 : Int32} {x2 : Option Nat} {x3 : Int32} {x4 : Int32}
    (h : ∃ a1, x0 = some a1 ∧ (mt σ a1).1 = 6 ∧ Runs G mX5_find rX5_find [(vR x0), (vI x1)] σ (bk G mX5_fetch rX5_fetch 0 0 5 [some (vR x0), some (vI x1), some (vR x2), some (vI x3), some (vI x4), none, none, none, none, none] [] K)) : At G mX5_fetch rX5_fetch 0 0 0 [some (vR x0), some (vI x1), some (vR x2), some (vI x3), some (vI x4), none, none, none, none, none] [] σ K := by
  refine s_aload_n (i := 0) dX5_fetch_0 rfl rfl ?_
  refine s_iload_n (i := 1) dX5_fetch_1 rfl rfl ?_
  obtain ⟨a1, ea1, h⟩ := h
  obtain ⟨t2, h⟩ := h
  exact t_callV (ci := 5) (as := [(vI x1)]) (S := []) gk dX5_fetch_2 gX5_47 (by decide) rfl w_668 w_669 ea1 t2 rfl rfl (Nat.le_of_ble_eq_true rfl) (by decide) h
theorem eX5_fetch {G : GG} (gk : GOK G) {σ : Mm} {K : RES → Mm → Prop} {x0 : Option Nat} {x1 : Int32} {x2 : Option Nat} {x3 : Int32} {x4 : Int32}
    (h : ∃ a1, x0 = some a1 ∧ (mt σ a1).1 = 6 ∧ Runs G mX5_find rX5_find [(vR x0), (vI x1)] σ (bk G mX5_fetch rX5_fetch 0 0 5 [some (vR x0), some (vI x1), some (vR x2), some (vI x3), some (vI x4), none, none, none, none, none] [] K)) : Runs G mX5_fetch rX5_fetch [(vR x0), (vI x1), (vR x2), (vI x3), (vI x4)] σ K := Runs.of (by decide) rfl (Nat.le_of_ble_eq_true rfl) (vX5_fetch_0 gk h)
theorem vX5_fetch_5 {G : GG} (gk : GOK G) {σ : Mm} {K : RES → Mm → Prop} {x0 : Option Nat} {x1 : Int32} {x2 : Option Nat} {x3 : Int32} {x4 : Int32} {s0 : Option Nat}
    (h : ((s0 = none → ∃ a2, x0 = some a2 ∧ (mt σ a2).1 = 6 ∧ Runs G mX5_countEchoes rX5_countEchoes [(vR x0)] σ (bk G mX5_fetch rX5_fetch 0 0 16 [some (vR x0), some (vI x1), some (vR x2), some (vI x3), some (vI x4), some (vR s0), none, none, none, none] [] K)) ∧ (∀ a4, s0 = some a4 → (mt σ a4).1 = 3 ∧ ∀ σ6, σ6 = si σ a4 0 (0 : Int32) → ∃ a7, x0 = some a7 ∧ (mt σ a7).1 = 6 ∧ ∃ a9, mr σ6 a7 6 = some a9 ∧ ∃ n11, mt σ a9 = (58, n11) ∧ At G mX5_fetch rX5_fetch 0 0 54 [some (vR x0), some (vI x1), some (vR x2), some (vI x3), some (vI x4), some (vR s0), some (vR (mr σ6 a7 6)), some (vI (nI n11)), some (vI (0 : Int32)), none] [] σ6 K))) : At G mX5_fetch rX5_fetch 0 0 5 [some (vR x0), some (vI x1), some (vR x2), some (vI x3), some (vI x4), none, none, none, none, none] [(vR s0)] σ K := by
  refine s_astore (L' := [some (vR x0), some (vI x1), some (vR x2), some (vI x3), some (vI x4), some (vR s0), none, none, none, none]) dX5_fetch_5 rfl (by decide) rfl ?_
  refine s_aload dX5_fetch_7 rfl ?_
  refine s_ifnonnull (tgt := 29) dX5_fetch_9 (by decide) (fun a4 ea4 => ?_) (fun q1 => ?_)
  · have h := h.2 a4 ea4
    refine s_aload dX5_fetch_29 rfl ?_
    refine s_ifnull (tgt := 40) dX5_fetch_31 (by decide) (fun q12 => absurd (ea4.symm.trans q12) (fun z => by cases z)) (fun _ _ => ?_)
    refine s_aload dX5_fetch_34 rfl ?_
    refine s_iconst (v := 0) dX5_fetch_36 (by decide) ?_
    obtain ⟨t5, h⟩ := h
    refine t_putI gk dX5_fetch_37 fX5_43 rfl rfl ea4 t5 ⟨rfl, rfl⟩ (fun σ6 eσ6 mσ6 => ?_)
    replace h := h σ6 eσ6
    refine s_aload_n (i := 0) dX5_fetch_40 rfl rfl ?_
    obtain ⟨a7, ea7, h⟩ := h
    obtain ⟨t8, h⟩ := h
    refine t_getR gk dX5_fetch_41 fX5_34 rfl ea7 (by rw [mσ6]; exact t8) ?_
    refine s_astore (L' := [some (vR x0), some (vI x1), some (vR x2), some (vI x3), some (vI x4), some (vR s0), some (vR (mr σ6 a7 6)), none, none, none]) dX5_fetch_44 rfl (by decide) rfl ?_
    refine s_aload dX5_fetch_46 rfl ?_
    obtain ⟨a9, ea9, h⟩ := h
    obtain ⟨n11, t10, h⟩ := h
    refine t_alen (j := 8) gk dX5_fetch_48 (by decide) ea9 (by rw [mσ6]; exact t10) ?_
    refine s_istore (L' := [some (vR x0), some (vI x1), some (vR x2), some (vI x3), some (vI x4), some (vR s0), some (vR (mr σ6 a7 6)), some (vI (nI n11)), none, none]) dX5_fetch_49 rfl (by decide) rfl ?_
    refine s_iconst (v := 0) dX5_fetch_51 (by decide) ?_
    refine s_istore (L' := [some (vR x0), some (vI x1), some (vR x2), some (vI x3), some (vI x4), some (vR s0), some (vR (mr σ6 a7 6)), some (vI (nI n11)), some (vI (0 : Int32)), none]) dX5_fetch_52 rfl (by decide) rfl ?_
    exact h
  · have h := h.1 q1
    refine s_aload_n (i := 0) dX5_fetch_12 rfl rfl ?_
    obtain ⟨a2, ea2, h⟩ := h
    obtain ⟨t3, h⟩ := h
    exact t_callV (ci := 5) (as := []) (S := []) gk dX5_fetch_13 gX5_76 (by decide) rfl w_709 w_710 ea2 t3 rfl rfl (Nat.le_of_ble_eq_true rfl) (by decide) h
theorem vX5_fetch_16 {G : GG} (gk : GOK G) {σ : Mm} {K : RES → Mm → Prop} {x0 : Option Nat} {x1 : Int32} {x2 : Option Nat} {x3 : Int32} {x4 : Int32} {x5 : Option Nat} {s0 : Int32}
    (h : ∃ a1, x0 = some a1 ∧ (mt σ a1).1 = 6 ∧ ((s0 < (mi σ a1 1) → ((x5 = none → ∃ a5, mr σ a1 6 = some a5 ∧ ∃ n7, mt σ a5 = (58, n7) ∧ At G mX5_fetch rX5_fetch 0 0 54 [some (vR x0), some (vI x1), some (vR x2), some (vI x3), some (vI x4), some (vR x5), some (vR (mr σ a1 6)), some (vI (nI n7)), some (vI (0 : Int32)), none] [] σ K) ∧ (∀ a8, x5 = some a8 → (mt σ a8).1 = 3 ∧ ∀ σ10, σ10 = si σ a8 0 (0 : Int32) → ∃ a11, mr σ10 a1 6 = some a11 ∧ ∃ n13, mt σ a11 = (58, n13) ∧ At G mX5_fetch rX5_fetch 0 0 54 [some (vR x0), some (vI x1), some (vR x2), some (vI x3), some (vI x4), some (vR x5), some (vR (mr σ10 a1 6)), some (vI (nI n13)), some (vI (0 : Int32)), none] [] σ10 K))) ∧ (¬ s0 < (mi σ a1 1) → Runs G mX5_firstInOrder rX5_firstInOrder [(vR x0)] σ (bk G mX5_fetch rX5_fetch 0 0 27 [some (vR x0), some (vI x1), some (vR x2), some (vI x3), some (vI x4), some (vR x5), none, none, none, none] [] K)))) : At G mX5_fetch rX5_fetch 0 0 16 [some (vR x0), some (vI x1), some (vR x2), some (vI x3), some (vI x4), some (vR x5), none, none, none, none] [(vI s0)] σ K := by
  refine s_aload_n (i := 0) dX5_fetch_16 rfl rfl ?_
  obtain ⟨a1, ea1, h⟩ := h
  obtain ⟨t2, h⟩ := h
  refine t_getI gk dX5_fetch_17 fX5_15 rfl ea1 t2 ?_
  refine s_icmp_lt (tgt := 29) dX5_fetch_20 (by decide) (fun q3 => ?_) (fun q3 => ?_)
  · have h := h.1 q3
    refine s_aload dX5_fetch_29 rfl ?_
    refine s_ifnull (tgt := 40) dX5_fetch_31 (by decide) (fun q4 => ?_) (fun a8 ea8 => ?_)
    · have h := h.1 q4
      refine s_aload_n (i := 0) dX5_fetch_40 rfl rfl ?_
      refine t_getR gk dX5_fetch_41 fX5_34 rfl ea1 t2 ?_
      refine s_astore (L' := [some (vR x0), some (vI x1), some (vR x2), some (vI x3), some (vI x4), some (vR x5), some (vR (mr σ a1 6)), none, none, none]) dX5_fetch_44 rfl (by decide) rfl ?_
      refine s_aload dX5_fetch_46 rfl ?_
      obtain ⟨a5, ea5, h⟩ := h
      obtain ⟨n7, t6, h⟩ := h
      refine t_alen (j := 8) gk dX5_fetch_48 (by decide) ea5 t6 ?_
      refine s_istore (L' := [some (vR x0), some (vI x1), some (vR x2), some (vI x3), some (vI x4), some (vR x5), some (vR (mr σ a1 6)), some (vI (nI n7)), none, none]) dX5_fetch_49 rfl (by decide) rfl ?_
      refine s_iconst (v := 0) dX5_fetch_51 (by decide) ?_
      refine s_istore (L' := [some (vR x0), some (vI x1), some (vR x2), some (vI x3), some (vI x4), some (vR x5), some (vR (mr σ a1 6)), some (vI (nI n7)), some (vI (0 : Int32)), none]) dX5_fetch_52 rfl (by decide) rfl ?_
      exact h
    · have h := h.2 a8 ea8
      refine s_aload dX5_fetch_34 rfl ?_
      refine s_iconst (v := 0) dX5_fetch_36 (by decide) ?_
      obtain ⟨t9, h⟩ := h
      refine t_putI gk dX5_fetch_37 fX5_43 rfl rfl ea8 t9 ⟨rfl, rfl⟩ (fun σ10 eσ10 mσ10 => ?_)
      replace h := h σ10 eσ10
      refine s_aload_n (i := 0) dX5_fetch_40 rfl rfl ?_
      refine t_getR gk dX5_fetch_41 fX5_34 rfl ea1 (by rw [mσ10]; exact t2) ?_
      refine s_astore (L' := [some (vR x0), some (vI x1), some (vR x2), some (vI x3), some (vI x4), some (vR x5), some (vR (mr σ10 a1 6)), none, none, none]) dX5_fetch_44 rfl (by decide) rfl ?_
      refine s_aload dX5_fetch_46 rfl ?_
      obtain ⟨a11, ea11, h⟩ := h
      obtain ⟨n13, t12, h⟩ := h
      refine t_alen (j := 8) gk dX5_fetch_48 (by decide) ea11 (by rw [mσ10]; exact t12) ?_
      refine s_istore (L' := [some (vR x0), some (vI x1), some (vR x2), some (vI x3), some (vI x4), some (vR x5), some (vR (mr σ10 a1 6)), some (vI (nI n13)), none, none]) dX5_fetch_49 rfl (by decide) rfl ?_
      refine s_iconst (v := 0) dX5_fetch_51 (by decide) ?_
      refine s_istore (L' := [some (vR x0), some (vI x1), some (vR x2), some (vI x3), some (vI x4), some (vR x5), some (vR (mr σ10 a1 6)), some (vI (nI n13)), some (vI (0 : Int32)), none]) dX5_fetch_52 rfl (by decide) rfl ?_
      exact h
  · have h := h.2 q3
    refine s_aload_n (i := 0) dX5_fetch_23 rfl rfl ?_
    exact t_callV (ci := 5) (as := []) (S := []) gk dX5_fetch_24 gX5_80 (by decide) rfl w_713 w_714 ea1 t2 rfl rfl (Nat.le_of_ble_eq_true rfl) (by decide) h
theorem vX5_fetch_27 {G : GG} (gk : GOK G) {σ : Mm} {K : RES → Mm → Prop} {x0 : Option Nat} {x1 : Int32} {x2 : Option Nat} {x3 : Int32} {x4 : Int32} {x5 : Option Nat} {s0 : Option Nat}
    (h : ((s0 = none → ∃ a2, x0 = some a2 ∧ (mt σ a2).1 = 6 ∧ ∃ a4, mr σ a2 6 = some a4 ∧ ∃ n6, mt σ a4 = (58, n6) ∧ At G mX5_fetch rX5_fetch 0 0 54 [some (vR x0), some (vI x1), some (vR x2), some (vI x3), some (vI x4), some (vR s0), some (vR (mr σ a2 6)), some (vI (nI n6)), some (vI (0 : Int32)), none] [] σ K) ∧ (∀ a7, s0 = some a7 → (mt σ a7).1 = 3 ∧ ∀ σ9, σ9 = si σ a7 0 (0 : Int32) → ∃ a10, x0 = some a10 ∧ (mt σ a10).1 = 6 ∧ ∃ a12, mr σ9 a10 6 = some a12 ∧ ∃ n14, mt σ a12 = (58, n14) ∧ At G mX5_fetch rX5_fetch 0 0 54 [some (vR x0), some (vI x1), some (vR x2), some (vI x3), some (vI x4), some (vR s0), some (vR (mr σ9 a10 6)), some (vI (nI n14)), some (vI (0 : Int32)), none] [] σ9 K))) : At G mX5_fetch rX5_fetch 0 0 27 [some (vR x0), some (vI x1), some (vR x2), some (vI x3), some (vI x4), some (vR x5), none, none, none, none] [(vR s0)] σ K := by
  refine s_astore (L' := [some (vR x0), some (vI x1), some (vR x2), some (vI x3), some (vI x4), some (vR s0), none, none, none, none]) dX5_fetch_27 rfl (by decide) rfl ?_
  refine s_aload dX5_fetch_29 rfl ?_
  refine s_ifnull (tgt := 40) dX5_fetch_31 (by decide) (fun q1 => ?_) (fun a7 ea7 => ?_)
  · have h := h.1 q1
    refine s_aload_n (i := 0) dX5_fetch_40 rfl rfl ?_
    obtain ⟨a2, ea2, h⟩ := h
    obtain ⟨t3, h⟩ := h
    refine t_getR gk dX5_fetch_41 fX5_34 rfl ea2 t3 ?_
    refine s_astore (L' := [some (vR x0), some (vI x1), some (vR x2), some (vI x3), some (vI x4), some (vR s0), some (vR (mr σ a2 6)), none, none, none]) dX5_fetch_44 rfl (by decide) rfl ?_
    refine s_aload dX5_fetch_46 rfl ?_
    obtain ⟨a4, ea4, h⟩ := h
    obtain ⟨n6, t5, h⟩ := h
    refine t_alen (j := 8) gk dX5_fetch_48 (by decide) ea4 t5 ?_
    refine s_istore (L' := [some (vR x0), some (vI x1), some (vR x2), some (vI x3), some (vI x4), some (vR s0), some (vR (mr σ a2 6)), some (vI (nI n6)), none, none]) dX5_fetch_49 rfl (by decide) rfl ?_
    refine s_iconst (v := 0) dX5_fetch_51 (by decide) ?_
    refine s_istore (L' := [some (vR x0), some (vI x1), some (vR x2), some (vI x3), some (vI x4), some (vR s0), some (vR (mr σ a2 6)), some (vI (nI n6)), some (vI (0 : Int32)), none]) dX5_fetch_52 rfl (by decide) rfl ?_
    exact h
  · have h := h.2 a7 ea7
    refine s_aload dX5_fetch_34 rfl ?_
    refine s_iconst (v := 0) dX5_fetch_36 (by decide) ?_
    obtain ⟨t8, h⟩ := h
    refine t_putI gk dX5_fetch_37 fX5_43 rfl rfl ea7 t8 ⟨rfl, rfl⟩ (fun σ9 eσ9 mσ9 => ?_)
    replace h := h σ9 eσ9
    refine s_aload_n (i := 0) dX5_fetch_40 rfl rfl ?_
    obtain ⟨a10, ea10, h⟩ := h
    obtain ⟨t11, h⟩ := h
    refine t_getR gk dX5_fetch_41 fX5_34 rfl ea10 (by rw [mσ9]; exact t11) ?_
    refine s_astore (L' := [some (vR x0), some (vI x1), some (vR x2), some (vI x3), some (vI x4), some (vR s0), some (vR (mr σ9 a10 6)), none, none, none]) dX5_fetch_44 rfl (by decide) rfl ?_
    refine s_aload dX5_fetch_46 rfl ?_
    obtain ⟨a12, ea12, h⟩ := h
    obtain ⟨n14, t13, h⟩ := h
    refine t_alen (j := 8) gk dX5_fetch_48 (by decide) ea12 (by rw [mσ9]; exact t13) ?_
    refine s_istore (L' := [some (vR x0), some (vI x1), some (vR x2), some (vI x3), some (vI x4), some (vR s0), some (vR (mr σ9 a10 6)), some (vI (nI n14)), none, none]) dX5_fetch_49 rfl (by decide) rfl ?_
    refine s_iconst (v := 0) dX5_fetch_51 (by decide) ?_
    refine s_istore (L' := [some (vR x0), some (vI x1), some (vR x2), some (vI x3), some (vI x4), some (vR s0), some (vR (mr σ9 a10 6)), some (vI (nI n14)), some (vI (0 : Int32)), none]) dX5_fetch_52 rfl (by decide) rfl ?_
    exact h
theorem vX5_fetch_54 {G : GG} (gk : GOK G) {σ : Mm} {K : RES → Mm → Prop} {x0 : Option Nat} {x1 : Int32} {x2 : Option Nat} {x3 : Int32} {x4 : Int32} {x5 : Option Nat} {x6 : Option Nat} {x7 : Int32} {x8 : Int32}
    (h : ((x7 ≤ x8 → ∃ a2, x0 = some a2 ∧ (mt σ a2).1 = 6 ∧ Runs G mX5_sort rX5_sort [(vR x0)] σ (bk G mX5_fetch rX5_fetch 0 0 99 [some (vR x0), some (vI x1), some (vR x2), some (vI x3), some (vI x4), some (vR x5), some (vR x6), some (vI x7), some (vI x8), none] [] K)) ∧ (¬ x7 ≤ x8 → ∃ a4, x6 = some a4 ∧ ∃ n6, mt σ a4 = (58, n6) ∧ vp_in x8 n6 ∧ ∃ a8, mr σ a4 x8.toNatClampNeg = some a8 ∧ (mt σ a8).1 = 3 ∧ ((¬ (mi σ a8 0) = 0 → At G mX5_fetch rX5_fetch 0 0 54 [some (vR x0), some (vI x1), some (vR x2), some (vI x3), some (vI x4), some (vR x5), some (vR x6), some (vI x7), some (vI (x8 + 1)), none] [] σ K) ∧ ((mi σ a8 0) = 0 → Runs G mX2_fill rX2_fill [(vR (mr σ a4 x8.toNatClampNeg)), (vI x1), (vR x2), (vI x3), (vI x4)] σ (bk G mX5_fetch rX5_fetch 0 0 86 [some (vR x0), some (vI x1), some (vR x2), some (vI x3), some (vI x4), some (vR x5), some (vR x6), some (vI x7), some (vI x8), some (vR (mr σ a4 x8.toNatClampNeg))] [] K)))))) : At G mX5_fetch rX5_fetch 0 0 54 [some (vR x0), some (vI x1), some (vR x2), some (vI x3), some (vI x4), some (vR x5), some (vR x6), some (vI x7), some (vI x8), none] [] σ K := by
  refine s_iload dX5_fetch_54 rfl ?_
  refine s_iload dX5_fetch_56 rfl ?_
  refine s_icmp_ge (tgt := 95) dX5_fetch_58 (by decide) (fun q1 => ?_) (fun q1 => ?_)
  · have h := h.1 q1
    refine s_aload_n (i := 0) dX5_fetch_95 rfl rfl ?_
    obtain ⟨a2, ea2, h⟩ := h
    obtain ⟨t3, h⟩ := h
    exact t_callV (ci := 5) (as := []) (S := []) gk dX5_fetch_96 gX5_73 (by decide) rfl w_693 w_694 ea2 t3 rfl rfl (Nat.le_of_ble_eq_true rfl) (by decide) h
  · have h := h.2 q1
    refine s_aload dX5_fetch_61 rfl ?_
    refine s_iload dX5_fetch_63 rfl ?_
    obtain ⟨a4, ea4, h⟩ := h
    obtain ⟨n6, t5, h⟩ := h
    obtain ⟨c7, h⟩ := h
    refine t_aald (j := 8) gk dX5_fetch_65 (by decide) (by decide) ea4 t5 c7 ?_
    refine s_astore (L' := [some (vR x0), some (vI x1), some (vR x2), some (vI x3), some (vI x4), some (vR x5), some (vR x6), some (vI x7), some (vI x8), some (vR (mr σ a4 x8.toNatClampNeg))]) dX5_fetch_66 rfl (by decide) rfl ?_
    refine s_aload dX5_fetch_68 rfl ?_
    obtain ⟨a8, ea8, h⟩ := h
    obtain ⟨t9, h⟩ := h
    refine t_getI gk dX5_fetch_70 fX5_43 rfl ea8 t9 ?_
    refine s_if_ne (tgt := 89) dX5_fetch_73 (by decide) (fun q10 => ?_) (fun q10 => ?_)
    · have h := h.1 q10
      refine s_iinc (v := x8 + 1) (L' := [some (vR x0), some (vI x1), some (vR x2), some (vI x3), some (vI x4), some (vR x5), some (vR x6), some (vI x7), some (vI (x8 + 1)), some (vR (mr σ a4 x8.toNatClampNeg))]) dX5_fetch_89 rfl rfl rfl (by decide) rfl ?_
      refine s_goto (tgt := 54) dX5_fetch_92 (by decide) ?_
      exact h.msk ⟨rfl, ⟨rfl, ⟨rfl, ⟨rfl, ⟨rfl, ⟨rfl, ⟨rfl, ⟨rfl, ⟨rfl, trivial⟩⟩⟩⟩⟩⟩⟩⟩⟩
    · have h := h.2 q10
      refine s_aload dX5_fetch_76 rfl ?_
      refine s_iload_n (i := 1) dX5_fetch_78 rfl rfl ?_
      refine s_aload_n (i := 2) dX5_fetch_79 rfl rfl ?_
      refine s_iload_n (i := 3) dX5_fetch_80 rfl rfl ?_
      refine s_iload dX5_fetch_81 rfl ?_
      exact t_callV (ci := 2) (as := [(vI x1), (vR x2), (vI x3), (vI x4)]) (S := []) gk dX5_fetch_83 gX5_84 (by decide) rfl w_717 w_718 ea8 t9 rfl rfl (Nat.le_of_ble_eq_true rfl) (by decide) h
theorem vX5_fetch_86 {G : GG} (gk : GOK G) {σ : Mm} {K : RES → Mm → Prop} {x0 : Option Nat} {x1 : Int32} {x2 : Option Nat} {x3 : Int32} {x4 : Int32} {x5 : Option Nat} {x6 : Option Nat} {x7 : Int32} {x8 : Int32} {x9 : Option Nat}
    (h : ∃ a1, x0 = some a1 ∧ (mt σ a1).1 = 6 ∧ Runs G mX5_sort rX5_sort [(vR x0)] σ (bk G mX5_fetch rX5_fetch 0 0 99 [some (vR x0), some (vI x1), some (vR x2), some (vI x3), some (vI x4), some (vR x5), some (vR x6), some (vI x7), some (vI x8), none] [] K)) : At G mX5_fetch rX5_fetch 0 0 86 [some (vR x0), some (vI x1), some (vR x2), some (vI x3), some (vI x4), some (vR x5), some (vR x6), some (vI x7), some (vI x8), some (vR x9)] [] σ K := by
  refine s_goto (tgt := 95) dX5_fetch_86 (by decide) ?_
  refine s_aload_n (i := 0) dX5_fetch_95 rfl rfl ?_
  obtain ⟨a1, ea1, h⟩ := h
  obtain ⟨t2, h⟩ := h
  exact t_callV (ci := 5) (as := []) (S := []) gk dX5_fetch_96 gX5_73 (by decide) rfl w_693 w_694 ea1 t2 rfl rfl (Nat.le_of_ble_eq_true rfl) (by decide) (h.msk ⟨rfl, ⟨rfl, ⟨rfl, ⟨rfl, ⟨rfl, ⟨rfl, ⟨rfl, ⟨rfl, ⟨rfl, trivial⟩⟩⟩⟩⟩⟩⟩⟩⟩)
theorem vX5_fetch_99 {G : GG} (gk : GOK G) {σ : Mm} {K : RES → Mm → Prop} {x0 : Option Nat} {x1 : Int32} {x2 : Option Nat} {x3 : Int32} {x4 : Int32} {x5 : Option Nat} {x6 : Option Nat} {x7 : Int32} {x8 : Int32}
    (h : K (.inl none) σ) : At G mX5_fetch rX5_fetch 0 0 99 [some (vR x0), some (vI x1), some (vR x2), some (vI x3), some (vI x4), some (vR x5), some (vR x6), some (vI x7), some (vI x8), none] [] σ K := by
  exact s_return dX5_fetch_99 rfl (by decide) (by decide) h
theorem vX5_hit_0 {G : GG} (gk : GOK G) {σ : Mm} {K : RES → Mm → Prop} {x0 : Option Nat} {x1 : Option Nat} {x2 : Int32}
    (h : ∃ a1, x1 = some a1 ∧ (mt σ a1).1 = 3 ∧ ∀ σ3, σ3 = si σ a1 6 ((mi σ a1 6) + (1 : Int32)) → ∀ σ4, σ4 = si σ3 a1 5 x2 → ∃ a5, x0 = some a5 ∧ (mt σ a5).1 = 6 ∧ ∀ σ7, σ7 = si σ4 a5 5 ((mi σ4 a5 5) + (1 : Int32)) → Runs G mX5_sort rX5_sort [(vR x0)] σ7 (bk G mX5_hit rX5_hit 0 0 29 [some (vR x0), some (vR x1), some (vI x2)] [] K)) : At G mX5_hit rX5_hit 0 0 0 [some (vR x0), some (vR x1), some (vI x2)] [] σ K := by
  refine s_aload_n (i := 1) dX5_hit_0 rfl rfl ?_
  refine s_dup dX5_hit_1 rfl ?_
  obtain ⟨a1, ea1, h⟩ := h
  obtain ⟨t2, h⟩ := h
  refine t_getI gk dX5_hit_2 fX5_69 rfl ea1 t2 ?_
  refine s_iconst (v := 1) dX5_hit_5 (by decide) ?_
  refine s_iadd dX5_hit_6 ?_
  refine t_putI gk dX5_hit_7 fX5_69 rfl rfl ea1 t2 ⟨rfl, rfl⟩ (fun σ3 eσ3 mσ3 => ?_)
  replace h := h σ3 eσ3
  refine s_aload_n (i := 1) dX5_hit_10 rfl rfl ?_
  refine s_iload_n (i := 2) dX5_hit_11 rfl rfl ?_
  refine t_putI gk dX5_hit_12 fX5_66 rfl rfl ea1 (by rw [mσ3]; exact t2) ⟨rfl, rfl⟩ (fun σ4 eσ4 mσ4 => ?_)
  replace h := h σ4 eσ4
  refine s_aload_n (i := 0) dX5_hit_15 rfl rfl ?_
  refine s_dup dX5_hit_16 rfl ?_
  obtain ⟨a5, ea5, h⟩ := h
  obtain ⟨t6, h⟩ := h
  refine t_getI gk dX5_hit_17 fX5_29 rfl ea5 (by rw [mσ4, mσ3]; exact t6) ?_
  refine s_iconst (v := 1) dX5_hit_20 (by decide) ?_
  refine s_iadd dX5_hit_21 ?_
  refine t_putI gk dX5_hit_22 fX5_29 rfl rfl ea5 (by rw [mσ4, mσ3]; exact t6) ⟨rfl, rfl⟩ (fun σ7 eσ7 mσ7 => ?_)
  replace h := h σ7 eσ7
  refine s_aload_n (i := 0) dX5_hit_25 rfl rfl ?_
  exact t_callV (ci := 5) (as := []) (S := []) gk dX5_hit_26 gX5_73 (by decide) rfl w_693 w_694 ea5 (by rw [mσ7, mσ4, mσ3]; exact t6) rfl rfl (Nat.le_of_ble_eq_true rfl) (by decide) h
theorem eX5_hit {G : GG} (gk : GOK G) {σ : Mm} {K : RES → Mm → Prop} {x0 : Option Nat} {x1 : Option Nat} {x2 : Int32}
    (h : ∃ a1, x1 = some a1 ∧ (mt σ a1).1 = 3 ∧ ∀ σ3, σ3 = si σ a1 6 ((mi σ a1 6) + (1 : Int32)) → ∀ σ4, σ4 = si σ3 a1 5 x2 → ∃ a5, x0 = some a5 ∧ (mt σ a5).1 = 6 ∧ ∀ σ7, σ7 = si σ4 a5 5 ((mi σ4 a5 5) + (1 : Int32)) → Runs G mX5_sort rX5_sort [(vR x0)] σ7 (bk G mX5_hit rX5_hit 0 0 29 [some (vR x0), some (vR x1), some (vI x2)] [] K)) : Runs G mX5_hit rX5_hit [(vR x0), (vR x1), (vI x2)] σ K := Runs.of (by decide) rfl (Nat.le_of_ble_eq_true rfl) (vX5_hit_0 gk h)
theorem vX5_hit_29 {G : GG} (gk : GOK G) {σ : Mm} {K : RES → Mm → Prop} {x0 : Option Nat} {x1 : Option Nat} {x2 : Int32}
    (h : ∃ a1, x1 = some a1 ∧ (mt σ a1).1 = 3 ∧ K (.inl (some (vI (mi σ a1 2)))) σ) : At G mX5_hit rX5_hit 0 0 29 [some (vR x0), some (vR x1), some (vI x2)] [] σ K := by
  refine s_aload_n (i := 1) dX5_hit_29 rfl rfl ?_
  obtain ⟨a1, ea1, h⟩ := h
  obtain ⟨t2, h⟩ := h
  refine t_getI gk dX5_hit_30 fX5_88 rfl ea1 t2 ?_
  exact s_ireturn dX5_hit_33 rfl rfl (by decide) (by decide) h
theorem vX5_openLid_0 {G : GG} (gk : GOK G) {σ : Mm} {K : RES → Mm → Prop} {x0 : Option Nat} {x1 : Int32}
    (h : ∃ a1, x0 = some a1 ∧ (mt σ a1).1 = 6 ∧ Runs G mX5_find rX5_find [(vR x0), (vI x1)] σ (bk G mX5_openLid rX5_openLid 0 0 5 [some (vR x0), some (vI x1), none] [] K)) : At G mX5_openLid rX5_openLid 0 0 0 [some (vR x0), some (vI x1), none] [] σ K := by
  refine s_aload_n (i := 0) dX5_openLid_0 rfl rfl ?_
  refine s_iload_n (i := 1) dX5_openLid_1 rfl rfl ?_
  obtain ⟨a1, ea1, h⟩ := h
  obtain ⟨t2, h⟩ := h
  exact t_callV (ci := 5) (as := [(vI x1)]) (S := []) gk dX5_openLid_2 gX5_47 (by decide) rfl w_668 w_669 ea1 t2 rfl rfl (Nat.le_of_ble_eq_true rfl) (by decide) h
theorem eX5_openLid {G : GG} (gk : GOK G) {σ : Mm} {K : RES → Mm → Prop} {x0 : Option Nat} {x1 : Int32}
    (h : ∃ a1, x0 = some a1 ∧ (mt σ a1).1 = 6 ∧ Runs G mX5_find rX5_find [(vR x0), (vI x1)] σ (bk G mX5_openLid rX5_openLid 0 0 5 [some (vR x0), some (vI x1), none] [] K)) : Runs G mX5_openLid rX5_openLid [(vR x0), (vI x1)] σ K := Runs.of (by decide) rfl (Nat.le_of_ble_eq_true rfl) (vX5_openLid_0 gk h)
theorem vX5_openLid_5 {G : GG} (gk : GOK G) {σ : Mm} {K : RES → Mm → Prop} {x0 : Option Nat} {x1 : Int32} {s0 : Option Nat}
    (h : ((s0 = none → K (.inl (some (vI (0 : Int32)))) σ) ∧ (∀ a2, s0 = some a2 → (mt σ a2).1 = 3 ∧ (((mi σ a2 8) = 0 → ∀ σ5, σ5 = si σ a2 8 (1 : Int32) → K (.inl (some (vI (1 : Int32)))) σ5) ∧ (¬ (mi σ a2 8) = 0 → K (.inl (some (vI (0 : Int32)))) σ))))) : At G mX5_openLid rX5_openLid 0 0 5 [some (vR x0), some (vI x1), none] [(vR s0)] σ K := by
  refine s_astore_n (i := 2) (L' := [some (vR x0), some (vI x1), some (vR s0)]) dX5_openLid_5 rfl rfl (by decide) rfl ?_
  refine s_aload_n (i := 2) dX5_openLid_6 rfl rfl ?_
  refine s_ifnull (tgt := 17) dX5_openLid_7 (by decide) (fun q1 => ?_) (fun a2 ea2 => ?_)
  · have h := h.1 q1
    refine s_iconst (v := 0) dX5_openLid_17 (by decide) ?_
    exact s_ireturn dX5_openLid_18 rfl rfl (by decide) (by decide) h
  · have h := h.2 a2 ea2
    refine s_aload_n (i := 2) dX5_openLid_10 rfl rfl ?_
    obtain ⟨t3, h⟩ := h
    refine t_getI gk dX5_openLid_11 fX5_59 rfl ea2 t3 ?_
    refine s_if_eq (tgt := 19) dX5_openLid_14 (by decide) (fun q4 => ?_) (fun q4 => ?_)
    · have h := h.1 q4
      refine s_aload_n (i := 2) dX5_openLid_19 rfl rfl ?_
      refine s_iconst (v := 1) dX5_openLid_20 (by decide) ?_
      refine t_putI gk dX5_openLid_21 fX5_59 rfl rfl ea2 t3 ⟨rfl, rfl⟩ (fun σ5 eσ5 mσ5 => ?_)
      replace h := h σ5 eσ5
      refine s_iconst (v := 1) dX5_openLid_24 (by decide) ?_
      exact s_ireturn dX5_openLid_25 rfl rfl (by decide) (by decide) h
    · have h := h.2 q4
      refine s_iconst (v := 0) dX5_openLid_17 (by decide) ?_
      exact s_ireturn dX5_openLid_18 rfl rfl (by decide) (by decide) h
theorem vX7_init_0 {G : GG} (gk : GOK G) {σ : Mm} {K : RES → Mm → Prop} {x0 : Option Nat}
    (h : ∃ a1, x0 = some a1 ∧ (mt σ a1).1 = 8 ∧ ∀ σ3, σ3 = si σ a1 0 (0 : Int32) → ∀ σ4, σ4 = si σ3 a1 1 (0 : Int32) → ∀ σ5, σ5 = si σ4 a1 2 (0 : Int32) → ∀ σ6, σ6 = si σ5 a1 3 (32 : Int32) → K (.inl none) σ6) : At G mX7_init rX7_init 0 0 0 [some (vR x0)] [] σ K := by
  refine s_aload_n (i := 0) dX7_init_0 rfl rfl ?_
  obtain ⟨a1, ea1, h⟩ := h
  refine t_objInit gk dX7_init_1 w_170 (by decide) (by decide) ea1 ?_
  refine s_aload_n (i := 0) dX7_init_4 rfl rfl ?_
  refine s_iconst (v := 0) dX7_init_5 (by decide) ?_
  obtain ⟨t2, h⟩ := h
  refine t_putI gk dX7_init_6 fX7_9 rfl rfl ea1 t2 ⟨rfl, rfl⟩ (fun σ3 eσ3 mσ3 => ?_)
  replace h := h σ3 eσ3
  refine s_aload_n (i := 0) dX7_init_9 rfl rfl ?_
  refine s_iconst (v := 0) dX7_init_10 (by decide) ?_
  refine t_putI gk dX7_init_11 fX7_15 rfl rfl ea1 (by rw [mσ3]; exact t2) ⟨rfl, rfl⟩ (fun σ4 eσ4 mσ4 => ?_)
  replace h := h σ4 eσ4
  refine s_aload_n (i := 0) dX7_init_14 rfl rfl ?_
  refine s_iconst (v := 0) dX7_init_15 (by decide) ?_
  refine t_putI gk dX7_init_16 fX7_19 rfl rfl ea1 (by rw [mσ4, mσ3]; exact t2) ⟨rfl, rfl⟩ (fun σ5 eσ5 mσ5 => ?_)
  replace h := h σ5 eσ5
  refine s_aload_n (i := 0) dX7_init_19 rfl rfl ?_
  refine s_bipush (v := 32) dX7_init_20 (by decide) ?_
  refine t_putI gk dX7_init_22 fX7_22 rfl rfl ea1 (by rw [mσ5, mσ4, mσ3]; exact t2) ⟨rfl, rfl⟩ (fun σ6 eσ6 mσ6 => ?_)
  replace h := h σ6 eσ6
  exact s_return dX7_init_25 rfl (by decide) (by decide) h
theorem eX7_init {G : GG} (gk : GOK G) {σ : Mm} {K : RES → Mm → Prop} {x0 : Option Nat}
    (h : ∃ a1, x0 = some a1 ∧ (mt σ a1).1 = 8 ∧ ∀ σ3, σ3 = si σ a1 0 (0 : Int32) → ∀ σ4, σ4 = si σ3 a1 1 (0 : Int32) → ∀ σ5, σ5 = si σ4 a1 2 (0 : Int32) → ∀ σ6, σ6 = si σ5 a1 3 (32 : Int32) → K (.inl none) σ6) : Runs G mX7_init rX7_init [(vR x0)] σ K := Runs.of (by decide) rfl (Nat.le_of_ble_eq_true rfl) (vX7_init_0 gk h)
theorem vX7_copyFrom_0 {G : GG} (gk : GOK G) {σ : Mm} {K : RES → Mm → Prop} {x0 : Option Nat} {x1 : Option Nat}
    (h : ∃ a1, x1 = some a1 ∧ (mt σ a1).1 = 8 ∧ ∃ a3, x0 = some a3 ∧ (mt σ a3).1 = 8 ∧ isZ (mi σ a1 0) ∧ ∀ σ5, σ5 = si σ a3 0 (mi σ a1 0) → ∀ σ7, σ7 = si σ5 a3 1 (mi σ5 a1 1) → ∀ σ8, σ8 = si σ7 a3 2 (mi σ7 a1 2) → isC (mi σ8 a1 3) ∧ ∀ σ9, σ9 = si σ8 a3 3 (mi σ8 a1 3) → K (.inl none) σ9) : At G mX7_copyFrom rX7_copyFrom 0 0 0 [some (vR x0), some (vR x1)] [] σ K := by
  refine s_aload_n (i := 0) dX7_copyFrom_0 rfl rfl ?_
  refine s_aload_n (i := 1) dX7_copyFrom_1 rfl rfl ?_
  obtain ⟨a1, ea1, h⟩ := h
  obtain ⟨t2, h⟩ := h
  refine t_getI gk dX7_copyFrom_2 fX7_9 rfl ea1 t2 ?_
  obtain ⟨a3, ea3, h⟩ := h
  obtain ⟨t4, h⟩ := h
  obtain ⟨c6, h⟩ := h
  refine t_putI gk dX7_copyFrom_5 fX7_9 rfl rfl ea3 t4 (nf_z c6) (fun σ5 eσ5 mσ5 => ?_)
  replace h := h σ5 eσ5
  refine s_aload_n (i := 0) dX7_copyFrom_8 rfl rfl ?_
  refine s_aload_n (i := 1) dX7_copyFrom_9 rfl rfl ?_
  refine t_getI gk dX7_copyFrom_10 fX7_15 rfl ea1 (by rw [mσ5]; exact t2) ?_
  refine t_putI gk dX7_copyFrom_13 fX7_15 rfl rfl ea3 (by rw [mσ5]; exact t4) ⟨rfl, rfl⟩ (fun σ7 eσ7 mσ7 => ?_)
  replace h := h σ7 eσ7
  refine s_aload_n (i := 0) dX7_copyFrom_16 rfl rfl ?_
  refine s_aload_n (i := 1) dX7_copyFrom_17 rfl rfl ?_
  refine t_getI gk dX7_copyFrom_18 fX7_19 rfl ea1 (by rw [mσ7, mσ5]; exact t2) ?_
  refine t_putI gk dX7_copyFrom_21 fX7_19 rfl rfl ea3 (by rw [mσ7, mσ5]; exact t4) ⟨rfl, rfl⟩ (fun σ8 eσ8 mσ8 => ?_)
  replace h := h σ8 eσ8
  refine s_aload_n (i := 0) dX7_copyFrom_24 rfl rfl ?_
  refine s_aload_n (i := 1) dX7_copyFrom_25 rfl rfl ?_
  refine t_getI gk dX7_copyFrom_26 fX7_22 rfl ea1 (by rw [mσ8, mσ7, mσ5]; exact t2) ?_
  obtain ⟨c10, h⟩ := h
  refine t_putI gk dX7_copyFrom_29 fX7_22 rfl rfl ea3 (by rw [mσ8, mσ7, mσ5]; exact t4) (nf_c c10) (fun σ9 eσ9 mσ9 => ?_)
  replace h := h σ9 eσ9
  exact s_return dX7_copyFrom_32 rfl (by decide) (by decide) h
theorem eX7_copyFrom {G : GG} (gk : GOK G) {σ : Mm} {K : RES → Mm → Prop} {x0 : Option Nat} {x1 : Option Nat}
    (h : ∃ a1, x1 = some a1 ∧ (mt σ a1).1 = 8 ∧ ∃ a3, x0 = some a3 ∧ (mt σ a3).1 = 8 ∧ isZ (mi σ a1 0) ∧ ∀ σ5, σ5 = si σ a3 0 (mi σ a1 0) → ∀ σ7, σ7 = si σ5 a3 1 (mi σ5 a1 1) → ∀ σ8, σ8 = si σ7 a3 2 (mi σ7 a1 2) → isC (mi σ8 a1 3) ∧ ∀ σ9, σ9 = si σ8 a3 3 (mi σ8 a1 3) → K (.inl none) σ9) : Runs G mX7_copyFrom rX7_copyFrom [(vR x0), (vR x1)] σ K := Runs.of (by decide) rfl (Nat.le_of_ble_eq_true rfl) (vX7_copyFrom_0 gk h)
theorem vX7_isBefore_0 {G : GG} (gk : GOK G) {σ : Mm} {K : RES → Mm → Prop} {x0 : Option Nat} {x1 : Option Nat}
    (h : ∃ a1, x0 = some a1 ∧ (mt σ a1).1 = 8 ∧ (((mi σ a1 0) = 0 → K (.inl (some (vI (0 : Int32)))) σ) ∧ (¬ (mi σ a1 0) = 0 → ∃ a4, x1 = some a4 ∧ (mt σ a4).1 = 8 ∧ (((mi σ a4 0) = 0 → K (.inl (some (vI (1 : Int32)))) σ) ∧ (¬ (mi σ a4 0) = 0 → (((mi σ a4 1) ≤ (mi σ a1 1) → K (.inl (some (vI (0 : Int32)))) σ) ∧ (¬ (mi σ a4 1) ≤ (mi σ a1 1) → K (.inl (some (vI (1 : Int32)))) σ))))))) : At G mX7_isBefore rX7_isBefore 0 0 0 [some (vR x0), some (vR x1)] [] σ K := by
  refine s_aload_n (i := 0) dX7_isBefore_0 rfl rfl ?_
  obtain ⟨a1, ea1, h⟩ := h
  obtain ⟨t2, h⟩ := h
  refine t_getI gk dX7_isBefore_1 fX7_9 rfl ea1 t2 ?_
  refine s_if_eq (tgt := 29) dX7_isBefore_4 (by decide) (fun q3 => ?_) (fun q3 => ?_)
  · have h := h.1 q3
    refine s_iconst (v := 0) dX7_isBefore_29 (by decide) ?_
    exact s_ireturn dX7_isBefore_30 rfl rfl (by decide) (by decide) h
  · have h := h.2 q3
    refine s_aload_n (i := 1) dX7_isBefore_7 rfl rfl ?_
    obtain ⟨a4, ea4, h⟩ := h
    obtain ⟨t5, h⟩ := h
    refine t_getI gk dX7_isBefore_8 fX7_9 rfl ea4 t5 ?_
    refine s_if_eq (tgt := 25) dX7_isBefore_11 (by decide) (fun q6 => ?_) (fun q6 => ?_)
    · have h := h.1 q6
      refine s_iconst (v := 1) dX7_isBefore_25 (by decide) ?_
      refine s_goto (tgt := 30) dX7_isBefore_26 (by decide) ?_
      exact s_ireturn dX7_isBefore_30 rfl rfl (by decide) (by decide) h
    · have h := h.2 q6
      refine s_aload_n (i := 0) dX7_isBefore_14 rfl rfl ?_
      refine t_getI gk dX7_isBefore_15 fX7_15 rfl ea1 t2 ?_
      refine s_aload_n (i := 1) dX7_isBefore_18 rfl rfl ?_
      refine t_getI gk dX7_isBefore_19 fX7_15 rfl ea4 t5 ?_
      refine s_icmp_ge (tgt := 29) dX7_isBefore_22 (by decide) (fun q7 => ?_) (fun q7 => ?_)
      · have h := h.1 q7
        refine s_iconst (v := 0) dX7_isBefore_29 (by decide) ?_
        exact s_ireturn dX7_isBefore_30 rfl rfl (by decide) (by decide) h
      · have h := h.2 q7
        refine s_iconst (v := 1) dX7_isBefore_25 (by decide) ?_
        refine s_goto (tgt := 30) dX7_isBefore_26 (by decide) ?_
        exact s_ireturn dX7_isBefore_30 rfl rfl (by decide) (by decide) h
theorem eX7_isBefore {G : GG} (gk : GOK G) {σ : Mm} {K : RES → Mm → Prop} {x0 : Option Nat} {x1 : Option Nat}
    (h : ∃ a1, x0 = some a1 ∧ (mt σ a1).1 = 8 ∧ (((mi σ a1 0) = 0 → K (.inl (some (vI (0 : Int32)))) σ) ∧ (¬ (mi σ a1 0) = 0 → ∃ a4, x1 = some a4 ∧ (mt σ a4).1 = 8 ∧ (((mi σ a4 0) = 0 → K (.inl (some (vI (1 : Int32)))) σ) ∧ (¬ (mi σ a4 0) = 0 → (((mi σ a4 1) ≤ (mi σ a1 1) → K (.inl (some (vI (0 : Int32)))) σ) ∧ (¬ (mi σ a4 1) ≤ (mi σ a1 1) → K (.inl (some (vI (1 : Int32)))) σ))))))) : Runs G mX7_isBefore rX7_isBefore [(vR x0), (vR x1)] σ K := Runs.of (by decide) rfl (Nat.le_of_ble_eq_true rfl) (vX7_isBefore_0 gk h)
