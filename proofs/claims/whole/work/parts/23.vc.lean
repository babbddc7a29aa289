theorem vX9_init_0 {G : GG} (gk : GOK G) {σ : Mm} {K : RES → Mm → Prop} {x0 : Option Nat}
    (h : ∃ a1, x0 = some a1 ∧ ∀ σ2, σ2 = nw σ (50, 858) → (mt σ2 a1).1 = 10 ∧ ∀ σ4, σ4 = sr σ2 a1 0 (some (mz σ)) → ∀ σ5, σ5 = nw σ4 (50, 858) → (mt σ5 a1).1 = 10 ∧ ∀ σ7, σ7 = sr σ5 a1 1 (some (mz σ4)) → ∀ σ8, σ8 = nw σ7 (50, 858) → (mt σ8 a1).1 = 10 ∧ ∀ σ10, σ10 = sr σ8 a1 2 (some (mz σ7)) → ∀ σ11, σ11 = nw σ10 (50, 6864) → (mt σ11 a1).1 = 10 ∧ ∀ σ13, σ13 = sr σ11 a1 4 (some (mz σ10)) → ∀ σ14, σ14 = nw σ13 (53, 60) → (mt σ14 a1).1 = 10 ∧ ∀ σ16, σ16 = sr σ14 a1 7 (some (mz σ13)) → ∀ σ17, σ17 = nw σ16 (53, 60) → (mt σ17 a1).1 = 10 ∧ ∀ σ19, σ19 = sr σ17 a1 9 (some (mz σ16)) → ∀ σ20, σ20 = si σ19 a1 13 (-1 : Int32) → ∀ σ21, σ21 = si σ20 a1 14 (-1 : Int32) → ∀ σ22, σ22 = nw σ21 (50, 240) → (mt σ22 a1).1 = 10 ∧ ∀ σ24, σ24 = sr σ22 a1 15 (some (mz σ21)) → K (.inl none) σ24) : At G mX9_init rX9_init 0 0 0 [some (vR x0)] [] σ K := by
  refine s_aload_n (i := 0) dX9_init_0 rfl rfl ?_
  obtain ⟨a1, ea1, h⟩ := h
  refine t_objInit gk dX9_init_1 w_1536 (by decide) (by decide) ea1 ?_
  refine s_aload_n (i := 0) dX9_init_4 rfl rfl ?_
  refine s_sipush (v := 858) dX9_init_5 (by decide) ?_
  refine s_newa (j := 0) (N := 858) gk dX9_init_8 (by decide) (by decide) rfl w_1589 (by decide) (by decide) (by decide) (by decide) (by decide) ?_
  replace h := h _ rfl
  generalize nw σ (50, 858) = σ2 at h ⊢
  obtain ⟨t3, h⟩ := h
  refine t_putR gk dX9_init_10 fX9_9 (Or.inr ⟨rfl, rfl, rfl⟩) rfl ea1 t3 (nf_rf rfl) (fun σ4 eσ4 mσ4 => ?_)
  replace h := h σ4 eσ4
  refine s_aload_n (i := 0) dX9_init_13 rfl rfl ?_
  refine s_sipush (v := 858) dX9_init_14 (by decide) ?_
  refine s_newa (j := 0) (N := 858) gk dX9_init_17 (by decide) (by decide) rfl w_1589 (by decide) (by decide) (by decide) (by decide) (by decide) ?_
  replace h := h _ rfl
  generalize nw σ4 (50, 858) = σ5 at h ⊢
  obtain ⟨t6, h⟩ := h
  refine t_putR gk dX9_init_19 fX9_13 (Or.inr ⟨rfl, rfl, rfl⟩) rfl ea1 t6 (nf_rf rfl) (fun σ7 eσ7 mσ7 => ?_)
  replace h := h σ7 eσ7
  refine s_aload_n (i := 0) dX9_init_22 rfl rfl ?_
  refine s_sipush (v := 858) dX9_init_23 (by decide) ?_
  refine s_newa (j := 0) (N := 858) gk dX9_init_26 (by decide) (by decide) rfl w_1589 (by decide) (by decide) (by decide) (by decide) (by decide) ?_
  replace h := h _ rfl
  generalize nw σ7 (50, 858) = σ8 at h ⊢
  obtain ⟨t9, h⟩ := h
  refine t_putR gk dX9_init_28 fX9_16 (Or.inr ⟨rfl, rfl, rfl⟩) rfl ea1 t9 (nf_rf rfl) (fun σ10 eσ10 mσ10 => ?_)
  replace h := h σ10 eσ10
  refine s_aload_n (i := 0) dX9_init_31 rfl rfl ?_
  refine s_sipush (v := 6864) dX9_init_32 (by decide) ?_
  refine s_newa (j := 0) (N := 6864) gk dX9_init_35 (by decide) (by decide) rfl w_1589 (by decide) (by decide) (by decide) (by decide) (by decide) ?_
  replace h := h _ rfl
  generalize nw σ10 (50, 6864) = σ11 at h ⊢
  obtain ⟨t12, h⟩ := h
  refine t_putR gk dX9_init_37 fX9_19 (Or.inr ⟨rfl, rfl, rfl⟩) rfl ea1 t12 (nf_rf rfl) (fun σ13 eσ13 mσ13 => ?_)
  replace h := h σ13 eσ13
  refine s_aload_n (i := 0) dX9_init_40 rfl rfl ?_
  refine s_bipush (v := 60) dX9_init_41 (by decide) ?_
  refine s_newa (j := 3) (N := 60) gk dX9_init_43 (by decide) (by decide) rfl w_281 (by decide) (by decide) (by decide) (by decide) (by decide) ?_
  replace h := h _ rfl
  generalize nw σ13 (53, 60) = σ14 at h ⊢
  obtain ⟨t15, h⟩ := h
  refine t_putR gk dX9_init_45 fX9_22 (Or.inr ⟨rfl, rfl, rfl⟩) rfl ea1 t15 (nf_rf rfl) (fun σ16 eσ16 mσ16 => ?_)
  replace h := h σ16 eσ16
  refine s_aload_n (i := 0) dX9_init_48 rfl rfl ?_
  refine s_bipush (v := 60) dX9_init_49 (by decide) ?_
  refine s_newa (j := 3) (N := 60) gk dX9_init_51 (by decide) (by decide) rfl w_281 (by decide) (by decide) (by decide) (by decide) (by decide) ?_
  replace h := h _ rfl
  generalize nw σ16 (53, 60) = σ17 at h ⊢
  obtain ⟨t18, h⟩ := h
  refine t_putR gk dX9_init_53 fX9_26 (Or.inr ⟨rfl, rfl, rfl⟩) rfl ea1 t18 (nf_rf rfl) (fun σ19 eσ19 mσ19 => ?_)
  replace h := h σ19 eσ19
  refine s_aload_n (i := 0) dX9_init_56 rfl rfl ?_
  refine s_iconst (v := -1) dX9_init_57 (by decide) ?_
  refine t_putI gk dX9_init_58 fX9_29 rfl rfl ea1 (by rw [mσ19]; exact t18) ⟨rfl, rfl⟩ (fun σ20 eσ20 mσ20 => ?_)
  replace h := h σ20 eσ20
  refine s_aload_n (i := 0) dX9_init_61 rfl rfl ?_
  refine s_iconst (v := -1) dX9_init_62 (by decide) ?_
  refine t_putI gk dX9_init_63 fX9_33 rfl rfl ea1 (by rw [mσ20, mσ19]; exact t18) ⟨rfl, rfl⟩ (fun σ21 eσ21 mσ21 => ?_)
  replace h := h σ21 eσ21
  refine s_aload_n (i := 0) dX9_init_66 rfl rfl ?_
  refine s_sipush (v := 240) dX9_init_67 (by decide) ?_
  refine s_newa (j := 0) (N := 240) gk dX9_init_70 (by decide) (by decide) rfl w_1589 (by decide) (by decide) (by decide) (by decide) (by decide) ?_
  replace h := h _ rfl
  generalize nw σ21 (50, 240) = σ22 at h ⊢
  obtain ⟨t23, h⟩ := h
  refine t_putR gk dX9_init_72 fX9_36 (Or.inr ⟨rfl, rfl, rfl⟩) rfl ea1 t23 (nf_rf rfl) (fun σ24 eσ24 mσ24 => ?_)
  replace h := h σ24 eσ24
  exact s_return dX9_init_75 rfl (by decide) (by decide) h
theorem eX9_init {G : GG} (gk : GOK G) {σ : Mm} {K : RES → Mm → Prop} {x0 : Option Nat}
    (h : ∃ a1, x0 = some a1 ∧ ∀ σ2, σ2 = nw σ (50, 858) → (mt σ2 a1).1 = 10 ∧ ∀ σ4, σ4 = sr σ2 a1 0 (some (mz σ)) → ∀ σ5, σ5 = nw σ4 (50, 858) → (mt σ5 a1).1 = 10 ∧ ∀ σ7, σ7 = sr σ5 a1 1 (some (mz σ4)) → ∀ σ8, σ8 = nw σ7 (50, 858) → (mt σ8 a1).1 = 10 ∧ ∀ σ10, σ10 = sr σ8 a1 2 (some (mz σ7)) → ∀ σ11, σ11 = nw σ10 (50, 6864) → (mt σ11 a1).1 = 10 ∧ ∀ σ13, σ13 = sr σ11 a1 4 (some (mz σ10)) → ∀ σ14, σ14 = nw σ13 (53, 60) → (mt σ14 a1).1 = 10 ∧ ∀ σ16, σ16 = sr σ14 a1 7 (some (mz σ13)) → ∀ σ17, σ17 = nw σ16 (53, 60) → (mt σ17 a1).1 = 10 ∧ ∀ σ19, σ19 = sr σ17 a1 9 (some (mz σ16)) → ∀ σ20, σ20 = si σ19 a1 13 (-1 : Int32) → ∀ σ21, σ21 = si σ20 a1 14 (-1 : Int32) → ∀ σ22, σ22 = nw σ21 (50, 240) → (mt σ22 a1).1 = 10 ∧ ∀ σ24, σ24 = sr σ22 a1 15 (some (mz σ21)) → K (.inl none) σ24) : Runs G mX9_init rX9_init [(vR x0)] σ K := Runs.of (by decide) rfl (Nat.le_of_ble_eq_true rfl) (vX9_init_0 gk h)
theorem vX9_thrown_0 {G : GG} (gk : GOK G) {σ : Mm} {K : RES → Mm → Prop} {x0 : Option Nat}
    (h : ∃ a1, x0 = some a1 ∧ (mt σ a1).1 = 10 ∧ K (.inl (some (vI (mi σ a1 6)))) σ) : At G mX9_thrown rX9_thrown 0 0 0 [some (vR x0)] [] σ K := by
  refine s_aload_n (i := 0) dX9_thrown_0 rfl rfl ?_
  obtain ⟨a1, ea1, h⟩ := h
  obtain ⟨t2, h⟩ := h
  refine t_getI gk dX9_thrown_1 fX9_39 rfl ea1 t2 ?_
  exact s_ireturn dX9_thrown_4 rfl rfl (by decide) (by decide) h
theorem eX9_thrown {G : GG} (gk : GOK G) {σ : Mm} {K : RES → Mm → Prop} {x0 : Option Nat}
    (h : ∃ a1, x0 = some a1 ∧ (mt σ a1).1 = 10 ∧ K (.inl (some (vI (mi σ a1 6)))) σ) : Runs G mX9_thrown rX9_thrown [(vR x0)] σ K := Runs.of (by decide) rfl (Nat.le_of_ble_eq_true rfl) (vX9_thrown_0 gk h)
theorem vX9_in_0 {G : GG} (gk : GOK G) {σ : Mm} {K : RES → Mm → Prop} {x0 : Int32} {x1 : Int32} {x2 : Int32}
    (h : ((x0 < x1 → K (.inl (some (vI (0 : Int32)))) σ) ∧ (¬ x0 < x1 → ((x2 < x0 → K (.inl (some (vI (0 : Int32)))) σ) ∧ (¬ x2 < x0 → K (.inl (some (vI (1 : Int32)))) σ))))) : At G mX9_in rX9_in 0 0 0 [some (vI x0), some (vI x1), some (vI x2)] [] σ K := by
  refine s_iload_n (i := 0) dX9_in_0 rfl rfl ?_
  refine s_iload_n (i := 1) dX9_in_1 rfl rfl ?_
  refine s_icmp_lt (tgt := 14) dX9_in_2 (by decide) (fun q1 => ?_) (fun q1 => ?_)
  · have h := h.1 q1
    refine s_iconst (v := 0) dX9_in_14 (by decide) ?_
    exact s_ireturn dX9_in_15 rfl rfl (by decide) (by decide) h
  · have h := h.2 q1
    refine s_iload_n (i := 0) dX9_in_5 rfl rfl ?_
    refine s_iload_n (i := 2) dX9_in_6 rfl rfl ?_
    refine s_icmp_gt (tgt := 14) dX9_in_7 (by decide) (fun q2 => ?_) (fun q2 => ?_)
    · have h := h.1 q2
      refine s_iconst (v := 0) dX9_in_14 (by decide) ?_
      exact s_ireturn dX9_in_15 rfl rfl (by decide) (by decide) h
    · have h := h.2 q2
      refine s_iconst (v := 1) dX9_in_10 (by decide) ?_
      refine s_goto (tgt := 15) dX9_in_11 (by decide) ?_
      exact s_ireturn dX9_in_15 rfl rfl (by decide) (by decide) h
theorem eX9_in {G : GG} (gk : GOK G) {σ : Mm} {K : RES → Mm → Prop} {x0 : Int32} {x1 : Int32} {x2 : Int32}
    (h : ((x0 < x1 → K (.inl (some (vI (0 : Int32)))) σ) ∧ (¬ x0 < x1 → ((x2 < x0 → K (.inl (some (vI (0 : Int32)))) σ) ∧ (¬ x2 < x0 → K (.inl (some (vI (1 : Int32)))) σ))))) : Runs G mX9_in rX9_in [(vI x0), (vI x1), (vI x2)] σ K := Runs.of (by decide) rfl (Nat.le_of_ble_eq_true rfl) (vX9_in_0 gk h)
theorem vX9_keep_0 {G : GG} (gk : GOK G) {σ : Mm} {K : RES → Mm → Prop} {x0 : Option Nat}
    (h : ∃ a1, x0 = some a1 ∧ (mt σ a1).1 = 10 ∧ ∀ σ3, σ3 = si σ a1 6 (0 : Int32) → ∃ a4, mr σ3 a1 0 = some a4 ∧ ∃ n6, mt σ a4 = (50, n6) ∧ ∃ a7, mr σ3 a1 1 = some a7 ∧ ∃ n9, mt σ a7 = (50, n9) ∧ ((¬ (0 : Int32) < 0 ∧ ¬ (0 : Int32) < 0 ∧ ¬ (858 : Int32) < 0) ∧ (0 : Int32).toNatClampNeg + (858 : Int32).toNatClampNeg ≤ n6 ∧ (0 : Int32).toNatClampNeg + (858 : Int32).toNatClampNeg ≤ n9) ∧ ∀ σ11, σ11 = cpI σ3 a4 (0 : Int32).toNatClampNeg a7 (0 : Int32).toNatClampNeg (858 : Int32).toNatClampNeg → K (.inl none) σ11) : At G mX9_keep rX9_keep 0 0 0 [some (vR x0)] [] σ K := by
  refine s_aload_n (i := 0) dX9_keep_0 rfl rfl ?_
  refine s_iconst (v := 0) dX9_keep_1 (by decide) ?_
  obtain ⟨a1, ea1, h⟩ := h
  obtain ⟨t2, h⟩ := h
  refine t_putI gk dX9_keep_2 fX9_39 rfl rfl ea1 t2 ⟨rfl, rfl⟩ (fun σ3 eσ3 mσ3 => ?_)
  replace h := h σ3 eσ3
  refine s_aload_n (i := 0) dX9_keep_5 rfl rfl ?_
  refine t_getR gk dX9_keep_6 fX9_9 rfl ea1 (by rw [mσ3]; exact t2) ?_
  refine s_iconst (v := 0) dX9_keep_9 (by decide) ?_
  refine s_aload_n (i := 0) dX9_keep_10 rfl rfl ?_
  refine t_getR gk dX9_keep_11 fX9_13 rfl ea1 (by rw [mσ3]; exact t2) ?_
  refine s_iconst (v := 0) dX9_keep_14 (by decide) ?_
  refine s_sipush (v := 858) dX9_keep_15 (by decide) ?_
  obtain ⟨a4, ea4, h⟩ := h
  obtain ⟨n6, t5, h⟩ := h
  obtain ⟨a7, ea7, h⟩ := h
  obtain ⟨n9, t8, h⟩ := h
  obtain ⟨c10, h⟩ := h
  refine t_copy gk dX9_keep_18 w_1602 w_1131 w_1130 w_23 ea4 (by rw [mσ3]; exact t5) ea7 (by rw [mσ3]; exact t8) c10 rfl (by decide) (by decide) (fun σ11 eσ11 mσ11 => ?_)
  replace h := h σ11 eσ11
  exact s_return dX9_keep_21 rfl (by decide) (by decide) h
theorem eX9_keep {G : GG} (gk : GOK G) {σ : Mm} {K : RES → Mm → Prop} {x0 : Option Nat}
    (h : ∃ a1, x0 = some a1 ∧ (mt σ a1).1 = 10 ∧ ∀ σ3, σ3 = si σ a1 6 (0 : Int32) → ∃ a4, mr σ3 a1 0 = some a4 ∧ ∃ n6, mt σ a4 = (50, n6) ∧ ∃ a7, mr σ3 a1 1 = some a7 ∧ ∃ n9, mt σ a7 = (50, n9) ∧ ((¬ (0 : Int32) < 0 ∧ ¬ (0 : Int32) < 0 ∧ ¬ (858 : Int32) < 0) ∧ (0 : Int32).toNatClampNeg + (858 : Int32).toNatClampNeg ≤ n6 ∧ (0 : Int32).toNatClampNeg + (858 : Int32).toNatClampNeg ≤ n9) ∧ ∀ σ11, σ11 = cpI σ3 a4 (0 : Int32).toNatClampNeg a7 (0 : Int32).toNatClampNeg (858 : Int32).toNatClampNeg → K (.inl none) σ11) : Runs G mX9_keep rX9_keep [(vR x0)] σ K := Runs.of (by decide) rfl (Nat.le_of_ble_eq_true rfl) (vX9_keep_0 gk h)
theorem vX9_ends_0 {G : GG} (gk : GOK G) {σ : Mm} {K : RES → Mm → Prop} {x0 : Option Nat} {x1 : Int32}
    (h : ∃ a1, x0 = some a1 ∧ (mt σ a1).1 = 10 ∧ (((mi σ a1 6) ≤ 0 → ((¬ (mi σ a1 5) = (8 : Int32) → ∃ a5, mr σ a1 1 = some a5 ∧ ∃ n7, mt σ a5 = (50, n7) ∧ ∃ a8, mr σ a1 4 = some a8 ∧ ∃ n10, mt σ a8 = (50, n10) ∧ ((¬ (0 : Int32) < 0 ∧ ¬ ((858 : Int32) * (mi σ a1 5)) < 0 ∧ ¬ (858 : Int32) < 0) ∧ (0 : Int32).toNatClampNeg + (858 : Int32).toNatClampNeg ≤ n7 ∧ ((858 : Int32) * (mi σ a1 5)).toNatClampNeg + (858 : Int32).toNatClampNeg ≤ n10) ∧ ∀ σ12, σ12 = cpI σ a5 (0 : Int32).toNatClampNeg a8 ((858 : Int32) * (mi σ a1 5)).toNatClampNeg (858 : Int32).toNatClampNeg → ∀ σ13, σ13 = si σ12 a1 5 ((mi σ12 a1 5) + (1 : Int32)) → K (.inl (some (vI x1))) σ13) ∧ ((mi σ a1 5) = (8 : Int32) → ∃ a14, mr σ a1 4 = some a14 ∧ ∃ n16, mt σ a14 = (50, n16) ∧ ((¬ (858 : Int32) < 0 ∧ ¬ (0 : Int32) < 0 ∧ ¬ (6006 : Int32) < 0) ∧ (858 : Int32).toNatClampNeg + (6006 : Int32).toNatClampNeg ≤ n16 ∧ (0 : Int32).toNatClampNeg + (6006 : Int32).toNatClampNeg ≤ n16) ∧ ∀ σ18, σ18 = cpI σ a14 (858 : Int32).toNatClampNeg a14 (0 : Int32).toNatClampNeg (6006 : Int32).toNatClampNeg → ∀ σ19, σ19 = si σ18 a1 5 ((mi σ18 a1 5) - (1 : Int32)) → ∃ a20, mr σ19 a1 1 = some a20 ∧ ∃ n22, mt σ a20 = (50, n22) ∧ ∃ a23, mr σ19 a1 4 = some a23 ∧ ∃ n25, mt σ a23 = (50, n25) ∧ ((¬ (0 : Int32) < 0 ∧ ¬ ((858 : Int32) * (mi σ19 a1 5)) < 0 ∧ ¬ (858 : Int32) < 0) ∧ (0 : Int32).toNatClampNeg + (858 : Int32).toNatClampNeg ≤ n22 ∧ ((858 : Int32) * (mi σ19 a1 5)).toNatClampNeg + (858 : Int32).toNatClampNeg ≤ n25) ∧ ∀ σ27, σ27 = cpI σ19 a20 (0 : Int32).toNatClampNeg a23 ((858 : Int32) * (mi σ19 a1 5)).toNatClampNeg (858 : Int32).toNatClampNeg → ∀ σ28, σ28 = si σ27 a1 5 ((mi σ27 a1 5) + (1 : Int32)) → K (.inl (some (vI x1))) σ28))) ∧ (¬ (mi σ a1 6) ≤ 0 → ∃ a29, mr σ a1 1 = some a29 ∧ ∃ n31, mt σ a29 = (50, n31) ∧ ∃ a32, mr σ a1 0 = some a32 ∧ ∃ n34, mt σ a32 = (50, n34) ∧ ((¬ (0 : Int32) < 0 ∧ ¬ (0 : Int32) < 0 ∧ ¬ (858 : Int32) < 0) ∧ (0 : Int32).toNatClampNeg + (858 : Int32).toNatClampNeg ≤ n31 ∧ (0 : Int32).toNatClampNeg + (858 : Int32).toNatClampNeg ≤ n34) ∧ ∀ σ36, σ36 = cpI σ a29 (0 : Int32).toNatClampNeg a32 (0 : Int32).toNatClampNeg (858 : Int32).toNatClampNeg → K (.inl (some (vI (0 : Int32)))) σ36))) : At G mX9_ends rX9_ends 0 0 0 [some (vR x0), some (vI x1)] [] σ K := by
  refine s_aload_n (i := 0) dX9_ends_0 rfl rfl ?_
  obtain ⟨a1, ea1, h⟩ := h
  obtain ⟨t2, h⟩ := h
  refine t_getI gk dX9_ends_1 fX9_39 rfl ea1 t2 ?_
  refine s_if_le (tgt := 25) dX9_ends_4 (by decide) (fun q3 => ?_) (fun q3 => ?_)
  · have h := h.1 q3
    refine s_aload_n (i := 0) dX9_ends_25 rfl rfl ?_
    refine t_getI gk dX9_ends_26 fX9_48 rfl ea1 t2 ?_
    refine s_bipush (v := 8) dX9_ends_29 (by decide) ?_
    refine s_icmp_ne (tgt := 62) dX9_ends_31 (by decide) (fun q4 => ?_) (fun q4 => ?_)
    · have h := h.1 q4
      refine s_aload_n (i := 0) dX9_ends_62 rfl rfl ?_
      refine t_getR gk dX9_ends_63 fX9_13 rfl ea1 t2 ?_
      refine s_iconst (v := 0) dX9_ends_66 (by decide) ?_
      refine s_aload_n (i := 0) dX9_ends_67 rfl rfl ?_
      refine t_getR gk dX9_ends_68 fX9_19 rfl ea1 t2 ?_
      refine s_sipush (v := 858) dX9_ends_71 (by decide) ?_
      refine s_aload_n (i := 0) dX9_ends_74 rfl rfl ?_
      refine t_getI gk dX9_ends_75 fX9_48 rfl ea1 t2 ?_
      refine s_imul dX9_ends_78 ?_
      refine s_sipush (v := 858) dX9_ends_79 (by decide) ?_
      obtain ⟨a5, ea5, h⟩ := h
      obtain ⟨n7, t6, h⟩ := h
      obtain ⟨a8, ea8, h⟩ := h
      obtain ⟨n10, t9, h⟩ := h
      obtain ⟨c11, h⟩ := h
      refine t_copy gk dX9_ends_82 w_1602 w_1131 w_1130 w_23 ea5 t6 ea8 t9 c11 rfl (by decide) (by decide) (fun σ12 eσ12 mσ12 => ?_)
      replace h := h σ12 eσ12
      refine s_aload_n (i := 0) dX9_ends_85 rfl rfl ?_
      refine s_dup dX9_ends_86 rfl ?_
      refine t_getI gk dX9_ends_87 fX9_48 rfl ea1 (by rw [mσ12]; exact t2) ?_
      refine s_iconst (v := 1) dX9_ends_90 (by decide) ?_
      refine s_iadd dX9_ends_91 ?_
      refine t_putI gk dX9_ends_92 fX9_48 rfl rfl ea1 (by rw [mσ12]; exact t2) ⟨rfl, rfl⟩ (fun σ13 eσ13 mσ13 => ?_)
      replace h := h σ13 eσ13
      refine s_iload_n (i := 1) dX9_ends_95 rfl rfl ?_
      exact s_ireturn dX9_ends_96 rfl rfl (by decide) (by decide) h
    · have h := h.2 q4
      refine s_aload_n (i := 0) dX9_ends_34 rfl rfl ?_
      refine t_getR gk dX9_ends_35 fX9_19 rfl ea1 t2 ?_
      refine s_sipush (v := 858) dX9_ends_38 (by decide) ?_
      refine s_aload_n (i := 0) dX9_ends_41 rfl rfl ?_
      refine t_getR gk dX9_ends_42 fX9_19 rfl ea1 t2 ?_
      refine s_iconst (v := 0) dX9_ends_45 (by decide) ?_
      refine s_sipush (v := 6006) dX9_ends_46 (by decide) ?_
      obtain ⟨a14, ea14, h⟩ := h
      obtain ⟨n16, t15, h⟩ := h
      obtain ⟨c17, h⟩ := h
      refine t_copy gk dX9_ends_49 w_1602 w_1131 w_1130 w_23 ea14 t15 ea14 t15 c17 rfl (by decide) (by decide) (fun σ18 eσ18 mσ18 => ?_)
      replace h := h σ18 eσ18
      refine s_aload_n (i := 0) dX9_ends_52 rfl rfl ?_
      refine s_dup dX9_ends_53 rfl ?_
      refine t_getI gk dX9_ends_54 fX9_48 rfl ea1 (by rw [mσ18]; exact t2) ?_
      refine s_iconst (v := 1) dX9_ends_57 (by decide) ?_
      refine s_isub dX9_ends_58 ?_
      refine t_putI gk dX9_ends_59 fX9_48 rfl rfl ea1 (by rw [mσ18]; exact t2) ⟨rfl, rfl⟩ (fun σ19 eσ19 mσ19 => ?_)
      replace h := h σ19 eσ19
      refine s_aload_n (i := 0) dX9_ends_62 rfl rfl ?_
      refine t_getR gk dX9_ends_63 fX9_13 rfl ea1 (by rw [mσ19, mσ18]; exact t2) ?_
      refine s_iconst (v := 0) dX9_ends_66 (by decide) ?_
      refine s_aload_n (i := 0) dX9_ends_67 rfl rfl ?_
      refine t_getR gk dX9_ends_68 fX9_19 rfl ea1 (by rw [mσ19, mσ18]; exact t2) ?_
      refine s_sipush (v := 858) dX9_ends_71 (by decide) ?_
      refine s_aload_n (i := 0) dX9_ends_74 rfl rfl ?_
      refine t_getI gk dX9_ends_75 fX9_48 rfl ea1 (by rw [mσ19, mσ18]; exact t2) ?_
      refine s_imul dX9_ends_78 ?_
      refine s_sipush (v := 858) dX9_ends_79 (by decide) ?_
      obtain ⟨a20, ea20, h⟩ := h
      obtain ⟨n22, t21, h⟩ := h
      obtain ⟨a23, ea23, h⟩ := h
      obtain ⟨n25, t24, h⟩ := h
      obtain ⟨c26, h⟩ := h
      refine t_copy gk dX9_ends_82 w_1602 w_1131 w_1130 w_23 ea20 (by rw [mσ19, mσ18]; exact t21) ea23 (by rw [mσ19, mσ18]; exact t24) c26 rfl (by decide) (by decide) (fun σ27 eσ27 mσ27 => ?_)
      replace h := h σ27 eσ27
      refine s_aload_n (i := 0) dX9_ends_85 rfl rfl ?_
      refine s_dup dX9_ends_86 rfl ?_
      refine t_getI gk dX9_ends_87 fX9_48 rfl ea1 (by rw [mσ27, mσ19, mσ18]; exact t2) ?_
      refine s_iconst (v := 1) dX9_ends_90 (by decide) ?_
      refine s_iadd dX9_ends_91 ?_
      refine t_putI gk dX9_ends_92 fX9_48 rfl rfl ea1 (by rw [mσ27, mσ19, mσ18]; exact t2) ⟨rfl, rfl⟩ (fun σ28 eσ28 mσ28 => ?_)
      replace h := h σ28 eσ28
      refine s_iload_n (i := 1) dX9_ends_95 rfl rfl ?_
      exact s_ireturn dX9_ends_96 rfl rfl (by decide) (by decide) h
  · have h := h.2 q3
    refine s_aload_n (i := 0) dX9_ends_7 rfl rfl ?_
    refine t_getR gk dX9_ends_8 fX9_13 rfl ea1 t2 ?_
    refine s_iconst (v := 0) dX9_ends_11 (by decide) ?_
    refine s_aload_n (i := 0) dX9_ends_12 rfl rfl ?_
    refine t_getR gk dX9_ends_13 fX9_9 rfl ea1 t2 ?_
    refine s_iconst (v := 0) dX9_ends_16 (by decide) ?_
    refine s_sipush (v := 858) dX9_ends_17 (by decide) ?_
    obtain ⟨a29, ea29, h⟩ := h
    obtain ⟨n31, t30, h⟩ := h
    obtain ⟨a32, ea32, h⟩ := h
    obtain ⟨n34, t33, h⟩ := h
    obtain ⟨c35, h⟩ := h
    refine t_copy gk dX9_ends_20 w_1602 w_1131 w_1130 w_23 ea29 t30 ea32 t33 c35 rfl (by decide) (by decide) (fun σ36 eσ36 mσ36 => ?_)
    replace h := h σ36 eσ36
    refine s_iconst (v := 0) dX9_ends_23 (by decide) ?_
    exact s_ireturn dX9_ends_24 rfl rfl (by decide) (by decide) h
theorem eX9_ends {G : GG} (gk : GOK G) {σ : Mm} {K : RES → Mm → Prop} {x0 : Option Nat} {x1 : Int32}
    (h : ∃ a1, x0 = some a1 ∧ (mt σ a1).1 = 10 ∧ (((mi σ a1 6) ≤ 0 → ((¬ (mi σ a1 5) = (8 : Int32) → ∃ a5, mr σ a1 1 = some a5 ∧ ∃ n7, mt σ a5 = (50, n7) ∧ ∃ a8, mr σ a1 4 = some a8 ∧ ∃ n10, mt σ a8 = (50, n10) ∧ ((¬ (0 : Int32) < 0 ∧ ¬ ((858 : Int32) * (mi σ a1 5)) < 0 ∧ ¬ (858 : Int32) < 0) ∧ (0 : Int32).toNatClampNeg + (858 : Int32).toNatClampNeg ≤ n7 ∧ ((858 : Int32) * (mi σ a1 5)).toNatClampNeg + (858 : Int32).toNatClampNeg ≤ n10) ∧ ∀ σ12, σ12 = cpI σ a5 (0 : Int32).toNatClampNeg a8 ((858 : Int32) * (mi σ a1 5)).toNatClampNeg (858 : Int32).toNatClampNeg → ∀ σ13, σ13 = si σ12 a1 5 ((mi σ12 a1 5) + (1 : Int32)) → K (.inl (some (vI x1))) σ13) ∧ ((mi σ a1 5) = (8 : Int32) → ∃ a14, mr σ a1 4 = some a14 ∧ ∃ n16, mt σ a14 = (50, n16) ∧ ((¬ (858 : Int32) < 0 ∧ ¬ (0 : Int32) < 0 ∧ ¬ (6006 : Int32) < 0) ∧ (858 : Int32).toNatClampNeg + (6006 : Int32).toNatClampNeg ≤ n16 ∧ (0 : Int32).toNatClampNeg + (6006 : Int32).toNatClampNeg ≤ n16) ∧ ∀ σ18, σ18 = cpI σ a14 (858 : Int32).toNatClampNeg a14 (0 : Int32).toNatClampNeg (6006 : Int32).toNatClampNeg → ∀ σ19, σ19 = si σ18 a1 5 ((mi σ18 a1 5) - (1 : Int32)) → ∃ a20, mr σ19 a1 1 = some a20 ∧ ∃ n22, mt σ a20 = (50, n22) ∧ ∃ a23, mr σ19 a1 4 = some a23 ∧ ∃ n25, mt σ a23 = (50, n25) ∧ ((¬ (0 : Int32) < 0 ∧ ¬ ((858 : Int32) * (mi σ19 a1 5)) < 0 ∧ ¬ (858 : Int32) < 0) ∧ (0 : Int32).toNatClampNeg + (858 : Int32).toNatClampNeg ≤ n22 ∧ ((858 : Int32) * (mi σ19 a1 5)).toNatClampNeg + (858 : Int32).toNatClampNeg ≤ n25) ∧ ∀ σ27, σ27 = cpI σ19 a20 (0 : Int32).toNatClampNeg a23 ((858 : Int32) * (mi σ19 a1 5)).toNatClampNeg (858 : Int32).toNatClampNeg → ∀ σ28, σ28 = si σ27 a1 5 ((mi σ27 a1 5) + (1 : Int32)) → K (.inl (some (vI x1))) σ28))) ∧ (¬ (mi σ a1 6) ≤ 0 → ∃ a29, mr σ a1 1 = some a29 ∧ ∃ n31, mt σ a29 = (50, n31) ∧ ∃ a32, mr σ a1 0 = some a32 ∧ ∃ n34, mt σ a32 = (50, n34) ∧ ((¬ (0 : Int32) < 0 ∧ ¬ (0 : Int32) < 0 ∧ ¬ (858 : Int32) < 0) ∧ (0 : Int32).toNatClampNeg + (858 : Int32).toNatClampNeg ≤ n31 ∧ (0 : Int32).toNatClampNeg + (858 : Int32).toNatClampNeg ≤ n34) ∧ ∀ σ36, σ36 = cpI σ a29 (0 : Int32).toNatClampNeg a32 (0 : Int32).toNatClampNeg (858 : Int32).toNatClampNeg → K (.inl (some (vI (0 : Int32)))) σ36))) : Runs G mX9_ends rX9_ends [(vR x0), (vI x1)] σ K := Runs.of (by decide) rfl (Nat.le_of_ble_eq_true rfl) (vX9_ends_0 gk h)
theorem vX9_fails_0 {G : GG} (gk : GOK G) {σ : Mm} {K : RES → Mm → Prop} {x0 : Option Nat} {x1 : Int32}
    (h : ∃ a1, x0 = some a1 ∧ (mt σ a1).1 = 10 ∧ ∀ σ3, σ3 = si σ a1 6 x1 → K (.inl (some (vI (0 : Int32)))) σ3) : At G mX9_fails rX9_fails 0 0 0 [some (vR x0), some (vI x1)] [] σ K := by
  refine s_aload_n (i := 0) dX9_fails_0 rfl rfl ?_
  refine s_iload_n (i := 1) dX9_fails_1 rfl rfl ?_
  obtain ⟨a1, ea1, h⟩ := h
  obtain ⟨t2, h⟩ := h
  refine t_putI gk dX9_fails_2 fX9_39 rfl rfl ea1 t2 ⟨rfl, rfl⟩ (fun σ3 eσ3 mσ3 => ?_)
  replace h := h σ3 eσ3
  refine s_iconst (v := 0) dX9_fails_5 (by decide) ?_
  exact s_ireturn dX9_fails_6 rfl rfl (by decide) (by decide) h
theorem eX9_fails {G : GG} (gk : GOK G) {σ : Mm} {K : RES → Mm → Prop} {x0 : Option Nat} {x1 : Int32}
    (h : ∃ a1, x0 = some a1 ∧ (mt σ a1).1 = 10 ∧ ∀ σ3, σ3 = si σ a1 6 x1 → K (.inl (some (vI (0 : Int32)))) σ3) : Runs G mX9_fails rX9_fails [(vR x0), (vI x1)] σ K := Runs.of (by decide) rfl (Nat.le_of_ble_eq_true rfl) (vX9_fails_0 gk h)
theorem vX9_isThere_0 {G : GG} (gk : GOK G) {σ : Mm} {K : RES → Mm → Prop} {x0 : Option Nat} {x1 : Int32}
    (h : ((x1 = 0 → ∃ a2, x0 = some a2 ∧ (mt σ a2).1 = 10 ∧ ∀ σ4, σ4 = si σ a2 6 (1 : Int32) → isZ x1 ∧ K (.inl (some (vI x1))) σ4) ∧ (¬ x1 = 0 → ∃ a6, x0 = some a6 ∧ (mt σ a6).1 = 10 ∧ ∀ σ8, σ8 = si σ a6 6 (0 : Int32) → isZ x1 ∧ K (.inl (some (vI x1))) σ8))) : At G mX9_isThere rX9_isThere 0 0 0 [some (vR x0), some (vI x1)] [] σ K := by
  refine s_aload_n (i := 0) dX9_isThere_0 rfl rfl ?_
  refine s_iload_n (i := 1) dX9_isThere_1 rfl rfl ?_
  refine s_if_eq (tgt := 9) dX9_isThere_2 (by decide) (fun q1 => ?_) (fun q1 => ?_)
  · have h := h.1 q1
    refine s_iconst (v := 1) dX9_isThere_9 (by decide) ?_
    obtain ⟨a2, ea2, h⟩ := h
    obtain ⟨t3, h⟩ := h
    refine t_putI gk dX9_isThere_10 fX9_39 rfl rfl ea2 t3 ⟨rfl, rfl⟩ (fun σ4 eσ4 mσ4 => ?_)
    replace h := h σ4 eσ4
    refine s_iload_n (i := 1) dX9_isThere_13 rfl rfl ?_
    obtain ⟨c5, h⟩ := h
    exact s_ireturn dX9_isThere_14 rfl (nf_z c5).1 (by decide) (by decide) h
  · have h := h.2 q1
    refine s_iconst (v := 0) dX9_isThere_5 (by decide) ?_
    refine s_goto (tgt := 10) dX9_isThere_6 (by decide) ?_
    obtain ⟨a6, ea6, h⟩ := h
    obtain ⟨t7, h⟩ := h
    refine t_putI gk dX9_isThere_10 fX9_39 rfl rfl ea6 t7 ⟨rfl, rfl⟩ (fun σ8 eσ8 mσ8 => ?_)
    replace h := h σ8 eσ8
    refine s_iload_n (i := 1) dX9_isThere_13 rfl rfl ?_
    obtain ⟨c9, h⟩ := h
    exact s_ireturn dX9_isThere_14 rfl (nf_z c9).1 (by decide) (by decide) h
theorem eX9_isThere {G : GG} (gk : GOK G) {σ : Mm} {K : RES → Mm → Prop} {x0 : Option Nat} {x1 : Int32}
    (h : ((x1 = 0 → ∃ a2, x0 = some a2 ∧ (mt σ a2).1 = 10 ∧ ∀ σ4, σ4 = si σ a2 6 (1 : Int32) → isZ x1 ∧ K (.inl (some (vI x1))) σ4) ∧ (¬ x1 = 0 → ∃ a6, x0 = some a6 ∧ (mt σ a6).1 = 10 ∧ ∀ σ8, σ8 = si σ a6 6 (0 : Int32) → isZ x1 ∧ K (.inl (some (vI x1))) σ8))) : Runs G mX9_isThere rX9_isThere [(vR x0), (vI x1)] σ K := Runs.of (by decide) rfl (Nat.le_of_ble_eq_true rfl) (vX9_isThere_0 gk h)
theorem vX9_isLetter_0 {G : GG} (gk : GOK G) {σ : Mm} {K : RES → Mm → Prop} {x0 : Int32}
    (h : Runs G mX9_in rX9_in [(vI x0), (vI (97 : Int32)), (vI (122 : Int32))] σ (bk G mX9_isLetter rX9_isLetter 0 0 8 [some (vI x0)] [] K)) : At G mX9_isLetter rX9_isLetter 0 0 0 [some (vI x0)] [] σ K := by
  refine s_iload_n (i := 0) dX9_isLetter_0 rfl rfl ?_
  refine s_bipush (v := 97) dX9_isLetter_1 (by decide) ?_
  refine s_bipush (v := 122) dX9_isLetter_3 (by decide) ?_
  exact s_callS (as := [(vI x0), (vI (97 : Int32)), (vI (122 : Int32))]) (S := []) gk dX9_isLetter_5 gX9_51 w_1611 rfl rfl (Nat.le_of_ble_eq_true rfl) (by decide) h
theorem eX9_isLetter {G : GG} (gk : GOK G) {σ : Mm} {K : RES → Mm → Prop} {x0 : Int32}
    (h : Runs G mX9_in rX9_in [(vI x0), (vI (97 : Int32)), (vI (122 : Int32))] σ (bk G mX9_isLetter rX9_isLetter 0 0 8 [some (vI x0)] [] K)) : Runs G mX9_isLetter rX9_isLetter [(vI x0)] σ K := Runs.of (by decide) rfl (Nat.le_of_ble_eq_true rfl) (vX9_isLetter_0 gk h)
theorem vX9_isLetter_8 {G : GG} (gk : GOK G) {σ : Mm} {K : RES → Mm → Prop} {x0 : Int32} {s0 : Int32}
    (h : isZ s0 ∧ K (.inl (some (vI s0))) σ) : At G mX9_isLetter rX9_isLetter 0 0 8 [some (vI x0)] [(vI s0)] σ K := by
  obtain ⟨c1, h⟩ := h
  exact s_ireturn dX9_isLetter_8 rfl (nf_z c1).1 (by decide) (by decide) h
theorem vX9_jar_0 {G : GG} (gk : GOK G) {σ : Mm} {K : RES → Mm → Prop} {x0 : Int32}
    (h : K (.inl (some (vI ((8 : Int32) + ((3 : Int32) * (x0 - (97 : Int32))))))) σ) : At G mX9_jar rX9_jar 0 0 0 [some (vI x0)] [] σ K := by
  refine s_bipush (v := 8) dX9_jar_0 (by decide) ?_
  refine s_iconst (v := 3) dX9_jar_2 (by decide) ?_
  refine s_iload_n (i := 0) dX9_jar_3 rfl rfl ?_
  refine s_bipush (v := 97) dX9_jar_4 (by decide) ?_
  refine s_isub dX9_jar_6 ?_
  refine s_imul dX9_jar_7 ?_
  refine s_iadd dX9_jar_8 ?_
  exact s_ireturn dX9_jar_9 rfl rfl (by decide) (by decide) h
theorem eX9_jar {G : GG} (gk : GOK G) {σ : Mm} {K : RES → Mm → Prop} {x0 : Int32}
    (h : K (.inl (some (vI ((8 : Int32) + ((3 : Int32) * (x0 - (97 : Int32))))))) σ) : Runs G mX9_jar rX9_jar [(vI x0)] σ K := Runs.of (by decide) rfl (Nat.le_of_ble_eq_true rfl) (vX9_jar_0 gk h)
theorem vX9_isJar_0 {G : GG} (gk : GOK G) {σ : Mm} {K : RES → Mm → Prop} {x0 : Option Nat} {x1 : Int32}
    (h : Runs G mX9_isLetter rX9_isLetter [(vI x1)] σ (bk G mX9_isJar rX9_isJar 0 0 4 [some (vR x0), some (vI x1)] [] K)) : At G mX9_isJar rX9_isJar 0 0 0 [some (vR x0), some (vI x1)] [] σ K := by
  refine s_iload_n (i := 1) dX9_isJar_0 rfl rfl ?_
  exact s_callS (as := [(vI x1)]) (S := []) gk dX9_isJar_1 gX9_55 w_1608 rfl rfl (Nat.le_of_ble_eq_true rfl) (by decide) h
theorem eX9_isJar {G : GG} (gk : GOK G) {σ : Mm} {K : RES → Mm → Prop} {x0 : Option Nat} {x1 : Int32}
    (h : Runs G mX9_isLetter rX9_isLetter [(vI x1)] σ (bk G mX9_isJar rX9_isJar 0 0 4 [some (vR x0), some (vI x1)] [] K)) : Runs G mX9_isJar rX9_isJar [(vR x0), (vI x1)] σ K := Runs.of (by decide) rfl (Nat.le_of_ble_eq_true rfl) (vX9_isJar_0 gk h)
theorem vX9_isJar_4 {G : GG} (gk : GOK G) {σ : Mm} {K : RES → Mm → Prop} {x0 : Option Nat} {x1 : Int32} {s0 : Int32}
    (h : ((s0 = 0 → K (.inl (some (vI (0 : Int32)))) σ) ∧ (¬ s0 = 0 → ∃ a2, x0 = some a2 ∧ (mt σ a2).1 = 10 ∧ Runs G mX9_jar rX9_jar [(vI x1)] σ (bk G mX9_isJar rX9_isJar 0 0 15 [some (vR x0), some (vI x1)] [(vR (mr σ a2 0))] K)))) : At G mX9_isJar rX9_isJar 0 0 4 [some (vR x0), some (vI x1)] [(vI s0)] σ K := by
  refine s_if_eq (tgt := 24) dX9_isJar_4 (by decide) (fun q1 => ?_) (fun q1 => ?_)
  · have h := h.1 q1
    refine s_iconst (v := 0) dX9_isJar_24 (by decide) ?_
    exact s_ireturn dX9_isJar_25 rfl rfl (by decide) (by decide) h
  · have h := h.2 q1
    refine s_aload_n (i := 0) dX9_isJar_7 rfl rfl ?_
    obtain ⟨a2, ea2, h⟩ := h
    obtain ⟨t3, h⟩ := h
    refine t_getR gk dX9_isJar_8 fX9_9 rfl ea2 t3 ?_
    refine s_iload_n (i := 1) dX9_isJar_11 rfl rfl ?_
    exact s_callS (as := [(vI x1)]) (S := [(vR (mr σ a2 0))]) gk dX9_isJar_12 gX9_59 w_1626 rfl rfl (Nat.le_of_ble_eq_true rfl) (by decide) h
theorem vX9_isJar_15 {G : GG} (gk : GOK G) {σ : Mm} {K : RES → Mm → Prop} {x0 : Option Nat} {x1 : Int32} {s0 : Int32} {s1 : Option Nat}
    (h : ∃ a1, s1 = some a1 ∧ ∃ n3, mt σ a1 = (50, n3) ∧ vp_in s0 n3 ∧ ((¬ (mi σ a1 s0.toNatClampNeg) = (1 : Int32) → K (.inl (some (vI (0 : Int32)))) σ) ∧ ((mi σ a1 s0.toNatClampNeg) = (1 : Int32) → K (.inl (some (vI (1 : Int32)))) σ))) : At G mX9_isJar rX9_isJar 0 0 15 [some (vR x0), some (vI x1)] [(vI s0), (vR s1)] σ K := by
  obtain ⟨a1, ea1, h⟩ := h
  obtain ⟨n3, t2, h⟩ := h
  obtain ⟨c4, h⟩ := h
  refine t_iald gk dX9_isJar_15 ea1 t2 c4 ?_
  refine s_iconst (v := 1) dX9_isJar_16 (by decide) ?_
  refine s_icmp_ne (tgt := 24) dX9_isJar_17 (by decide) (fun q5 => ?_) (fun q5 => ?_)
  · have h := h.1 q5
    refine s_iconst (v := 0) dX9_isJar_24 (by decide) ?_
    exact s_ireturn dX9_isJar_25 rfl rfl (by decide) (by decide) h
  · have h := h.2 q5
    refine s_iconst (v := 1) dX9_isJar_20 (by decide) ?_
    refine s_goto (tgt := 25) dX9_isJar_21 (by decide) ?_
    exact s_ireturn dX9_isJar_25 rfl rfl (by decide) (by decide) h
theorem vX9_jars_0 {G : GG} (gk : GOK G) {σ : Mm} {K : RES → Mm → Prop} {x0 : Option Nat}
    (h : At G mX9_jars rX9_jars 0 0 5 [some (vR x0), some (vI (0 : Int32)), some (vI (97 : Int32))] [] σ K) : At G mX9_jars rX9_jars 0 0 0 [some (vR x0), none, none] [] σ K := by
  refine s_iconst (v := 0) dX9_jars_0 (by decide) ?_
  refine s_istore_n (i := 1) (L' := [some (vR x0), some (vI (0 : Int32)), none]) dX9_jars_1 rfl rfl (by decide) rfl ?_
  refine s_bipush (v := 97) dX9_jars_2 (by decide) ?_
  refine s_istore_n (i := 2) (L' := [some (vR x0), some (vI (0 : Int32)), some (vI (97 : Int32))]) dX9_jars_4 rfl rfl (by decide) rfl ?_
  exact h
theorem eX9_jars {G : GG} (gk : GOK G) {σ : Mm} {K : RES → Mm → Prop} {x0 : Option Nat}
    (h : At G mX9_jars rX9_jars 0 0 5 [some (vR x0), some (vI (0 : Int32)), some (vI (97 : Int32))] [] σ K) : Runs G mX9_jars rX9_jars [(vR x0)] σ K := Runs.of (by decide) rfl (Nat.le_of_ble_eq_true rfl) (vX9_jars_0 gk h)
theorem vX9_jars_5 {G : GG} (gk : GOK G) {σ : Mm} {K : RES → Mm → Prop} {x0 : Option Nat} {x1 : Int32} {x2 : Int32}
    (h : (((122 : Int32) < x2 → K (.inl (some (vI x1))) σ) ∧ (¬ (122 : Int32) < x2 → ∃ a2, x0 = some a2 ∧ (mt σ a2).1 = 10 ∧ Runs G mX9_isJar rX9_isJar [(vR x0), (vI x2)] σ (bk G mX9_jars rX9_jars 0 0 17 [some (vR x0), some (vI x1), some (vI x2)] [(vI x1)] K)))) : At G mX9_jars rX9_jars 0 0 5 [some (vR x0), some (vI x1), some (vI x2)] [] σ K := by
  refine s_iload_n (i := 2) dX9_jars_5 rfl rfl ?_
  refine s_bipush (v := 122) dX9_jars_6 (by decide) ?_
  refine s_icmp_gt (tgt := 33) dX9_jars_8 (by decide) (fun q1 => ?_) (fun q1 => ?_)
  · have h := h.1 q1
    refine s_iload_n (i := 1) dX9_jars_33 rfl rfl ?_
    exact s_ireturn dX9_jars_34 rfl rfl (by decide) (by decide) h
  · have h := h.2 q1
    refine s_iload_n (i := 1) dX9_jars_11 rfl rfl ?_
    refine s_aload_n (i := 0) dX9_jars_12 rfl rfl ?_
    refine s_iload_n (i := 2) dX9_jars_13 rfl rfl ?_
    obtain ⟨a2, ea2, h⟩ := h
    obtain ⟨t3, h⟩ := h
    exact t_callV (ci := 9) (as := [(vI x2)]) (S := [(vI x1)]) gk dX9_jars_14 gX9_63 (by decide) rfl w_1623 wp_12 ea2 t3 rfl rfl (Nat.le_of_ble_eq_true rfl) (by decide) h
theorem vX9_jars_17 {G : GG} (gk : GOK G) {σ : Mm} {K : RES → Mm → Prop} {x0 : Option Nat} {x1 : Int32} {x2 : Int32} {s0 : Int32} {s1 : Int32}
    (h : ((s0 = 0 → At G mX9_jars rX9_jars 0 0 5 [some (vR x0), some (vI (s1 + (0 : Int32))), some (vI (x2 + 1))] [] σ K) ∧ (¬ s0 = 0 → At G mX9_jars rX9_jars 0 0 5 [some (vR x0), some (vI (s1 + (1 : Int32))), some (vI (x2 + 1))] [] σ K))) : At G mX9_jars rX9_jars 0 0 17 [some (vR x0), some (vI x1), some (vI x2)] [(vI s0), (vI s1)] σ K := by
  refine s_if_eq (tgt := 24) dX9_jars_17 (by decide) (fun q1 => ?_) (fun q1 => ?_)
  · have h := h.1 q1
    refine s_iconst (v := 0) dX9_jars_24 (by decide) ?_
    refine s_iadd dX9_jars_25 ?_
    refine s_istore_n (i := 1) (L' := [some (vR x0), some (vI (s1 + (0 : Int32))), some (vI x2)]) dX9_jars_26 rfl rfl (by decide) rfl ?_
    refine s_iinc (v := x2 + 1) (L' := [some (vR x0), some (vI (s1 + (0 : Int32))), some (vI (x2 + 1))]) dX9_jars_27 rfl rfl rfl (by decide) rfl ?_
    refine s_goto (tgt := 5) dX9_jars_30 (by decide) ?_
    exact h
  · have h := h.2 q1
    refine s_iconst (v := 1) dX9_jars_20 (by decide) ?_
    refine s_goto (tgt := 25) dX9_jars_21 (by decide) ?_
    refine s_iadd dX9_jars_25 ?_
    refine s_istore_n (i := 1) (L' := [some (vR x0), some (vI (s1 + (1 : Int32))), some (vI x2)]) dX9_jars_26 rfl rfl (by decide) rfl ?_
    refine s_iinc (v := x2 + 1) (L' := [some (vR x0), some (vI (s1 + (1 : Int32))), some (vI (x2 + 1))]) dX9_jars_27 rfl rfl rfl (by decide) rfl ?_
    refine s_goto (tgt := 5) dX9_jars_30 (by decide) ?_
    exact h
theorem vX9_isShelf_0 {G : GG} (gk : GOK G) {σ : Mm} {K : RES → Mm → Prop} {x0 : Option Nat} {x1 : Int32}
    (h : ∃ a1, x0 = some a1 ∧ (mt σ a1).1 = 10 ∧ ∃ a3, mr σ a1 0 = some a3 ∧ ∃ n5, mt σ a3 = (50, n5) ∧ vp_in (0 : Int32) n5 ∧ Runs G mX9_in rX9_in [(vI x1), (vI (0 : Int32)), (vI ((mi σ a3 (0 : Int32).toNatClampNeg) - (1 : Int32)))] σ (bk G mX9_isShelf rX9_isShelf 0 0 13 [some (vR x0), some (vI x1)] [] K)) : At G mX9_isShelf rX9_isShelf 0 0 0 [some (vR x0), some (vI x1)] [] σ K := by
  refine s_iload_n (i := 1) dX9_isShelf_0 rfl rfl ?_
  refine s_iconst (v := 0) dX9_isShelf_1 (by decide) ?_
  refine s_aload_n (i := 0) dX9_isShelf_2 rfl rfl ?_
  obtain ⟨a1, ea1, h⟩ := h
  obtain ⟨t2, h⟩ := h
  refine t_getR gk dX9_isShelf_3 fX9_9 rfl ea1 t2 ?_
  refine s_iconst (v := 0) dX9_isShelf_6 (by decide) ?_
  obtain ⟨a3, ea3, h⟩ := h
  obtain ⟨n5, t4, h⟩ := h
  obtain ⟨c6, h⟩ := h
  refine t_iald gk dX9_isShelf_7 ea3 t4 c6 ?_
  refine s_iconst (v := 1) dX9_isShelf_8 (by decide) ?_
  refine s_isub dX9_isShelf_9 ?_
  exact s_callS (as := [(vI x1), (vI (0 : Int32)), (vI ((mi σ a3 (0 : Int32).toNatClampNeg) - (1 : Int32)))]) (S := []) gk dX9_isShelf_10 gX9_51 w_1611 rfl rfl (Nat.le_of_ble_eq_true rfl) (by decide) h
theorem eX9_isShelf {G : GG} (gk : GOK G) {σ : Mm} {K : RES → Mm → Prop} {x0 : Option Nat} {x1 : Int32}
    (h : ∃ a1, x0 = some a1 ∧ (mt σ a1).1 = 10 ∧ ∃ a3, mr σ a1 0 = some a3 ∧ ∃ n5, mt σ a3 = (50, n5) ∧ vp_in (0 : Int32) n5 ∧ Runs G mX9_in rX9_in [(vI x1), (vI (0 : Int32)), (vI ((mi σ a3 (0 : Int32).toNatClampNeg) - (1 : Int32)))] σ (bk G mX9_isShelf rX9_isShelf 0 0 13 [some (vR x0), some (vI x1)] [] K)) : Runs G mX9_isShelf rX9_isShelf [(vR x0), (vI x1)] σ K := Runs.of (by decide) rfl (Nat.le_of_ble_eq_true rfl) (vX9_isShelf_0 gk h)
theorem vX9_isShelf_13 {G : GG} (gk : GOK G) {σ : Mm} {K : RES → Mm → Prop} {x0 : Option Nat} {x1 : Int32} {s0 : Int32}
    (h : isZ s0 ∧ K (.inl (some (vI s0))) σ) : At G mX9_isShelf rX9_isShelf 0 0 13 [some (vR x0), some (vI x1)] [(vI s0)] σ K := by
  obtain ⟨c1, h⟩ := h
  exact s_ireturn dX9_isShelf_13 rfl (nf_z c1).1 (by decide) (by decide) h
theorem vX9_of_0 {G : GG} (gk : GOK G) {σ : Mm} {K : RES → Mm → Prop} {x0 : Option Nat} {x1 : Int32} {x2 : Int32}
    (h : ∃ a1, x0 = some a1 ∧ (mt σ a1).1 = 10 ∧ ∃ a3, mr σ a1 0 = some a3 ∧ ∃ n5, mt σ a3 = (50, n5) ∧ vp_in (((86 : Int32) + ((187 : Int32) * x1)) + x2) n5 ∧ K (.inl (some (vI (mi σ a3 (((86 : Int32) + ((187 : Int32) * x1)) + x2).toNatClampNeg)))) σ) : At G mX9_of rX9_of 0 0 0 [some (vR x0), some (vI x1), some (vI x2)] [] σ K := by
  refine s_aload_n (i := 0) dX9_of_0 rfl rfl ?_
  obtain ⟨a1, ea1, h⟩ := h
  obtain ⟨t2, h⟩ := h
  refine t_getR gk dX9_of_1 fX9_9 rfl ea1 t2 ?_
  refine s_bipush (v := 86) dX9_of_4 (by decide) ?_
  refine s_sipush (v := 187) dX9_of_6 (by decide) ?_
  refine s_iload_n (i := 1) dX9_of_9 rfl rfl ?_
  refine s_imul dX9_of_10 ?_
  refine s_iadd dX9_of_11 ?_
  refine s_iload_n (i := 2) dX9_of_12 rfl rfl ?_
  refine s_iadd dX9_of_13 ?_
  obtain ⟨a3, ea3, h⟩ := h
  obtain ⟨n5, t4, h⟩ := h
  obtain ⟨c6, h⟩ := h
  refine t_iald gk dX9_of_14 ea3 t4 c6 ?_
  exact s_ireturn dX9_of_15 rfl rfl (by decide) (by decide) h
theorem eX9_of {G : GG} (gk : GOK G) {σ : Mm} {K : RES → Mm → Prop} {x0 : Option Nat} {x1 : Int32} {x2 : Int32}
    (h : ∃ a1, x0 = some a1 ∧ (mt σ a1).1 = 10 ∧ ∃ a3, mr σ a1 0 = some a3 ∧ ∃ n5, mt σ a3 = (50, n5) ∧ vp_in (((86 : Int32) + ((187 : Int32) * x1)) + x2) n5 ∧ K (.inl (some (vI (mi σ a3 (((86 : Int32) + ((187 : Int32) * x1)) + x2).toNatClampNeg)))) σ) : Runs G mX9_of rX9_of [(vR x0), (vI x1), (vI x2)] σ K := Runs.of (by decide) rfl (Nat.le_of_ble_eq_true rfl) (vX9_of_0 gk h)
theorem vX9_echo_0 {G : GG} (gk : GOK G) {σ : Mm} {K : RES → Mm → Prop} {x0 : Int32} {x1 : Int32}
    (h : K (.inl (some (vI ((((86 : Int32) + ((187 : Int32) * x0)) + (5 : Int32)) + ((7 : Int32) * (x1 - (97 : Int32))))))) σ) : At G mX9_echo rX9_echo 0 0 0 [some (vI x0), some (vI x1)] [] σ K := by
  refine s_bipush (v := 86) dX9_echo_0 (by decide) ?_
  refine s_sipush (v := 187) dX9_echo_2 (by decide) ?_
  refine s_iload_n (i := 0) dX9_echo_5 rfl rfl ?_
  refine s_imul dX9_echo_6 ?_
  refine s_iadd dX9_echo_7 ?_
  refine s_iconst (v := 5) dX9_echo_8 (by decide) ?_
  refine s_iadd dX9_echo_9 ?_
  refine s_bipush (v := 7) dX9_echo_10 (by decide) ?_
  refine s_iload_n (i := 1) dX9_echo_12 rfl rfl ?_
  refine s_bipush (v := 97) dX9_echo_13 (by decide) ?_
  refine s_isub dX9_echo_15 ?_
  refine s_imul dX9_echo_16 ?_
  refine s_iadd dX9_echo_17 ?_
  exact s_ireturn dX9_echo_18 rfl rfl (by decide) (by decide) h
theorem eX9_echo {G : GG} (gk : GOK G) {σ : Mm} {K : RES → Mm → Prop} {x0 : Int32} {x1 : Int32}
    (h : K (.inl (some (vI ((((86 : Int32) + ((187 : Int32) * x0)) + (5 : Int32)) + ((7 : Int32) * (x1 - (97 : Int32))))))) σ) : Runs G mX9_echo rX9_echo [(vI x0), (vI x1)] σ K := Runs.of (by decide) rfl (Nat.le_of_ble_eq_true rfl) (vX9_echo_0 gk h)
theorem vX9_isEcho_0 {G : GG} (gk : GOK G) {σ : Mm} {K : RES → Mm → Prop} {x0 : Option Nat} {x1 : Int32} {x2 : Int32}
    (h : Runs G mX9_isLetter rX9_isLetter [(vI x2)] σ (bk G mX9_isEcho rX9_isEcho 0 0 4 [some (vR x0), some (vI x1), some (vI x2)] [] K)) : At G mX9_isEcho rX9_isEcho 0 0 0 [some (vR x0), some (vI x1), some (vI x2)] [] σ K := by
  refine s_iload_n (i := 2) dX9_isEcho_0 rfl rfl ?_
  exact s_callS (as := [(vI x2)]) (S := []) gk dX9_isEcho_1 gX9_55 w_1608 rfl rfl (Nat.le_of_ble_eq_true rfl) (by decide) h
theorem eX9_isEcho {G : GG} (gk : GOK G) {σ : Mm} {K : RES → Mm → Prop} {x0 : Option Nat} {x1 : Int32} {x2 : Int32}
    (h : Runs G mX9_isLetter rX9_isLetter [(vI x2)] σ (bk G mX9_isEcho rX9_isEcho 0 0 4 [some (vR x0), some (vI x1), some (vI x2)] [] K)) : Runs G mX9_isEcho rX9_isEcho [(vR x0), (vI x1), (vI x2)] σ K := Runs.of (by decide) rfl (Nat.le_of_ble_eq_true rfl) (vX9_isEcho_0 gk h)
theorem vX9_isEcho_4 {G : GG} (gk : GOK G) {σ : Mm} {K : RES → Mm → Prop} {x0 : Option Nat} {x1 : Int32} {x2 : Int32} {s0 : Int32}
    (h : ((s0 = 0 → K (.inl (some (vI (0 : Int32)))) σ) ∧ (¬ s0 = 0 → ∃ a2, x0 = some a2 ∧ (mt σ a2).1 = 10 ∧ Runs G mX9_echo rX9_echo [(vI x1), (vI x2)] σ (bk G mX9_isEcho rX9_isEcho 0 0 16 [some (vR x0), some (vI x1), some (vI x2)] [(vR (mr σ a2 0))] K)))) : At G mX9_isEcho rX9_isEcho 0 0 4 [some (vR x0), some (vI x1), some (vI x2)] [(vI s0)] σ K := by
  refine s_if_eq (tgt := 25) dX9_isEcho_4 (by decide) (fun q1 => ?_) (fun q1 => ?_)
  · have h := h.1 q1
    refine s_iconst (v := 0) dX9_isEcho_25 (by decide) ?_
    exact s_ireturn dX9_isEcho_26 rfl rfl (by decide) (by decide) h
  · have h := h.2 q1
    refine s_aload_n (i := 0) dX9_isEcho_7 rfl rfl ?_
    obtain ⟨a2, ea2, h⟩ := h
    obtain ⟨t3, h⟩ := h
    refine t_getR gk dX9_isEcho_8 fX9_9 rfl ea2 t3 ?_
    refine s_iload_n (i := 1) dX9_isEcho_11 rfl rfl ?_
    refine s_iload_n (i := 2) dX9_isEcho_12 rfl rfl ?_
    exact s_callS (as := [(vI x1), (vI x2)]) (S := [(vR (mr σ a2 0))]) gk dX9_isEcho_13 gX9_66 w_1641 rfl rfl (Nat.le_of_ble_eq_true rfl) (by decide) h
theorem vX9_isEcho_16 {G : GG} (gk : GOK G) {σ : Mm} {K : RES → Mm → Prop} {x0 : Option Nat} {x1 : Int32} {x2 : Int32} {s0 : Int32} {s1 : Option Nat}
    (h : ∃ a1, s1 = some a1 ∧ ∃ n3, mt σ a1 = (50, n3) ∧ vp_in s0 n3 ∧ ((¬ (mi σ a1 s0.toNatClampNeg) = (1 : Int32) → K (.inl (some (vI (0 : Int32)))) σ) ∧ ((mi σ a1 s0.toNatClampNeg) = (1 : Int32) → K (.inl (some (vI (1 : Int32)))) σ))) : At G mX9_isEcho rX9_isEcho 0 0 16 [some (vR x0), some (vI x1), some (vI x2)] [(vI s0), (vR s1)] σ K := by
  obtain ⟨a1, ea1, h⟩ := h
  obtain ⟨n3, t2, h⟩ := h
  obtain ⟨c4, h⟩ := h
  refine t_iald gk dX9_isEcho_16 ea1 t2 c4 ?_
  refine s_iconst (v := 1) dX9_isEcho_17 (by decide) ?_
  refine s_icmp_ne (tgt := 25) dX9_isEcho_18 (by decide) (fun q5 => ?_) (fun q5 => ?_)
  · have h := h.1 q5
    refine s_iconst (v := 0) dX9_isEcho_25 (by decide) ?_
    exact s_ireturn dX9_isEcho_26 rfl rfl (by decide) (by decide) h
  · have h := h.2 q5
    refine s_iconst (v := 1) dX9_isEcho_21 (by decide) ?_
    refine s_goto (tgt := 26) dX9_isEcho_22 (by decide) ?_
    exact s_ireturn dX9_isEcho_26 rfl rfl (by decide) (by decide) h
theorem vX9_echoes_0 {G : GG} (gk : GOK G) {σ : Mm} {K : RES → Mm → Prop} {x0 : Option Nat} {x1 : Int32}
    (h : At G mX9_echoes rX9_echoes 0 0 5 [some (vR x0), some (vI x1), some (vI (0 : Int32)), some (vI (97 : Int32))] [] σ K) : At G mX9_echoes rX9_echoes 0 0 0 [some (vR x0), some (vI x1), none, none] [] σ K := by
  refine s_iconst (v := 0) dX9_echoes_0 (by decide) ?_
  refine s_istore_n (i := 2) (L' := [some (vR x0), some (vI x1), some (vI (0 : Int32)), none]) dX9_echoes_1 rfl rfl (by decide) rfl ?_
  refine s_bipush (v := 97) dX9_echoes_2 (by decide) ?_
  refine s_istore_n (i := 3) (L' := [some (vR x0), some (vI x1), some (vI (0 : Int32)), some (vI (97 : Int32))]) dX9_echoes_4 rfl rfl (by decide) rfl ?_
  exact h
theorem eX9_echoes {G : GG} (gk : GOK G) {σ : Mm} {K : RES → Mm → Prop} {x0 : Option Nat} {x1 : Int32}
    (h : At G mX9_echoes rX9_echoes 0 0 5 [some (vR x0), some (vI x1), some (vI (0 : Int32)), some (vI (97 : Int32))] [] σ K) : Runs G mX9_echoes rX9_echoes [(vR x0), (vI x1)] σ K := Runs.of (by decide) rfl (Nat.le_of_ble_eq_true rfl) (vX9_echoes_0 gk h)
theorem vX9_echoes_5 {G : GG} (gk : GOK G) {σ : Mm} {K : RES → Mm → Prop} {x0 : Option Nat} {x1 : Int32} {x2 : Int32} {x3 : Int32}
    (h : (((122 : Int32) < x3 → K (.inl (some (vI x2))) σ) ∧ (¬ (122 : Int32) < x3 → ∃ a2, x0 = some a2 ∧ (mt σ a2).1 = 10 ∧ Runs G mX9_isEcho rX9_isEcho [(vR x0), (vI x1), (vI x3)] σ (bk G mX9_echoes rX9_echoes 0 0 18 [some (vR x0), some (vI x1), some (vI x2), some (vI x3)] [(vI x2)] K)))) : At G mX9_echoes rX9_echoes 0 0 5 [some (vR x0), some (vI x1), some (vI x2), some (vI x3)] [] σ K := by
  refine s_iload_n (i := 3) dX9_echoes_5 rfl rfl ?_
  refine s_bipush (v := 122) dX9_echoes_6 (by decide) ?_
  refine s_icmp_gt (tgt := 34) dX9_echoes_8 (by decide) (fun q1 => ?_) (fun q1 => ?_)
  · have h := h.1 q1
    refine s_iload_n (i := 2) dX9_echoes_34 rfl rfl ?_
    exact s_ireturn dX9_echoes_35 rfl rfl (by decide) (by decide) h
  · have h := h.2 q1
    refine s_iload_n (i := 2) dX9_echoes_11 rfl rfl ?_
    refine s_aload_n (i := 0) dX9_echoes_12 rfl rfl ?_
    refine s_iload_n (i := 1) dX9_echoes_13 rfl rfl ?_
    refine s_iload_n (i := 3) dX9_echoes_14 rfl rfl ?_
    obtain ⟨a2, ea2, h⟩ := h
    obtain ⟨t3, h⟩ := h
    exact t_callV (ci := 9) (as := [(vI x1), (vI x3)]) (S := [(vI x2)]) gk dX9_echoes_15 gX9_70 (by decide) rfl w_1721 wp_22 ea2 t3 rfl rfl (Nat.le_of_ble_eq_true rfl) (by decide) h
theorem vX9_echoes_18 {G : GG} (gk : GOK G) {σ : Mm} {K : RES → Mm → Prop} {x0 : Option Nat} {x1 : Int32} {x2 : Int32} {x3 : Int32} {s0 : Int32} {s1 : Int32}
    (h : ((s0 = 0 → At G mX9_echoes rX9_echoes 0 0 5 [some (vR x0), some (vI x1), some (vI (s1 + (0 : Int32))), some (vI (x3 + 1))] [] σ K) ∧ (¬ s0 = 0 → At G mX9_echoes rX9_echoes 0 0 5 [some (vR x0), some (vI x1), some (vI (s1 + (1 : Int32))), some (vI (x3 + 1))] [] σ K))) : At G mX9_echoes rX9_echoes 0 0 18 [some (vR x0), some (vI x1), some (vI x2), some (vI x3)] [(vI s0), (vI s1)] σ K := by
  refine s_if_eq (tgt := 25) dX9_echoes_18 (by decide) (fun q1 => ?_) (fun q1 => ?_)
  · have h := h.1 q1
    refine s_iconst (v := 0) dX9_echoes_25 (by decide) ?_
    refine s_iadd dX9_echoes_26 ?_
    refine s_istore_n (i := 2) (L' := [some (vR x0), some (vI x1), some (vI (s1 + (0 : Int32))), some (vI x3)]) dX9_echoes_27 rfl rfl (by decide) rfl ?_
    refine s_iinc (v := x3 + 1) (L' := [some (vR x0), some (vI x1), some (vI (s1 + (0 : Int32))), some (vI (x3 + 1))]) dX9_echoes_28 rfl rfl rfl (by decide) rfl ?_
    refine s_goto (tgt := 5) dX9_echoes_31 (by decide) ?_
    exact h
  · have h := h.2 q1
    refine s_iconst (v := 1) dX9_echoes_21 (by decide) ?_
    refine s_goto (tgt := 26) dX9_echoes_22 (by decide) ?_
    refine s_iadd dX9_echoes_26 ?_
    refine s_istore_n (i := 2) (L' := [some (vR x0), some (vI x1), some (vI (s1 + (1 : Int32))), some (vI x3)]) dX9_echoes_27 rfl rfl (by decide) rfl ?_
    refine s_iinc (v := x3 + 1) (L' := [some (vR x0), some (vI x1), some (vI (s1 + (1 : Int32))), some (vI (x3 + 1))]) dX9_echoes_28 rfl rfl rfl (by decide) rfl ?_
    refine s_goto (tgt := 5) dX9_echoes_31 (by decide) ?_
    exact h
theorem vX9_age_0 {G : GG} (gk : GOK G) {σ : Mm} {K : RES → Mm → Prop} {x0 : Option Nat} {x1 : Int32} {x2 : Int32}
    (h : ∃ a1, x0 = some a1 ∧ (mt σ a1).1 = 10 ∧ ∃ a3, mr σ a1 0 = some a3 ∧ ∃ n5, mt σ a3 = (50, n5) ∧ vp_in (2 : Int32) n5 ∧ Runs G mX9_echo rX9_echo [(vI x1), (vI x2)] σ (bk G mX9_age rX9_age 0 0 15 [some (vR x0), some (vI x1), some (vI x2)] [(vR (mr σ a1 0)), (vI (mi σ a3 (2 : Int32).toNatClampNeg))] K)) : At G mX9_age rX9_age 0 0 0 [some (vR x0), some (vI x1), some (vI x2)] [] σ K := by
  refine s_aload_n (i := 0) dX9_age_0 rfl rfl ?_
  obtain ⟨a1, ea1, h⟩ := h
  obtain ⟨t2, h⟩ := h
  refine t_getR gk dX9_age_1 fX9_9 rfl ea1 t2 ?_
  refine s_iconst (v := 2) dX9_age_4 (by decide) ?_
  obtain ⟨a3, ea3, h⟩ := h
  obtain ⟨n5, t4, h⟩ := h
  obtain ⟨c6, h⟩ := h
  refine t_iald gk dX9_age_5 ea3 t4 c6 ?_
  refine s_aload_n (i := 0) dX9_age_6 rfl rfl ?_
  refine t_getR gk dX9_age_7 fX9_9 rfl ea1 t2 ?_
  refine s_iload_n (i := 1) dX9_age_10 rfl rfl ?_
  refine s_iload_n (i := 2) dX9_age_11 rfl rfl ?_
  exact s_callS (as := [(vI x1), (vI x2)]) (S := [(vR (mr σ a1 0)), (vI (mi σ a3 (2 : Int32).toNatClampNeg))]) gk dX9_age_12 gX9_66 w_1641 rfl rfl (Nat.le_of_ble_eq_true rfl) (by decide) h
theorem eX9_age {G : GG} (gk : GOK G) {σ : Mm} {K : RES → Mm → Prop} {x0 : Option Nat} {x1 : Int32} {x2 : Int32}
    (h : ∃ a1, x0 = some a1 ∧ (mt σ a1).1 = 10 ∧ ∃ a3, mr σ a1 0 = some a3 ∧ ∃ n5, mt σ a3 = (50, n5) ∧ vp_in (2 : Int32) n5 ∧ Runs G mX9_echo rX9_echo [(vI x1), (vI x2)] σ (bk G mX9_age rX9_age 0 0 15 [some (vR x0), some (vI x1), some (vI x2)] [(vR (mr σ a1 0)), (vI (mi σ a3 (2 : Int32).toNatClampNeg))] K)) : Runs G mX9_age rX9_age [(vR x0), (vI x1), (vI x2)] σ K := Runs.of (by decide) rfl (Nat.le_of_ble_eq_true rfl) (vX9_age_0 gk h)
theorem vX9_age_15 {G : GG} (gk : GOK G) {σ : Mm} {K : RES → Mm → Prop} {x0 : Option Nat} {x1 : Int32} {x2 : Int32} {s0 : Int32} {s1 : Option Nat} {s2 : Int32}
    (h : ∃ a1, s1 = some a1 ∧ ∃ n3, mt σ a1 = (50, n3) ∧ vp_in (s0 + (2 : Int32)) n3 ∧ K (.inl (some (vI (s2 - (mi σ a1 (s0 + (2 : Int32)).toNatClampNeg))))) σ) : At G mX9_age rX9_age 0 0 15 [some (vR x0), some (vI x1), some (vI x2)] [(vI s0), (vR s1), (vI s2)] σ K := by
  refine s_iconst (v := 2) dX9_age_15 (by decide) ?_
  refine s_iadd dX9_age_16 ?_
  obtain ⟨a1, ea1, h⟩ := h
  obtain ⟨n3, t2, h⟩ := h
  obtain ⟨c4, h⟩ := h
  refine t_iald gk dX9_age_17 ea1 t2 c4 ?_
  refine s_isub dX9_age_18 ?_
  exact s_ireturn dX9_age_19 rfl rfl (by decide) (by decide) h
theorem vX9_isOver_0 {G : GG} (gk : GOK G) {σ : Mm} {K : RES → Mm → Prop} {x0 : Option Nat} {x1 : Int32} {x2 : Int32}
    (h : ∃ a1, x0 = some a1 ∧ (mt σ a1).1 = 10 ∧ Runs G mX9_age rX9_age [(vR x0), (vI x1), (vI x2)] σ (bk G mX9_isOver rX9_isOver 0 0 6 [some (vR x0), some (vI x1), some (vI x2)] [] K)) : At G mX9_isOver rX9_isOver 0 0 0 [some (vR x0), some (vI x1), some (vI x2)] [] σ K := by
  refine s_aload_n (i := 0) dX9_isOver_0 rfl rfl ?_
  refine s_iload_n (i := 1) dX9_isOver_1 rfl rfl ?_
  refine s_iload_n (i := 2) dX9_isOver_2 rfl rfl ?_
  obtain ⟨a1, ea1, h⟩ := h
  obtain ⟨t2, h⟩ := h
  exact t_callV (ci := 9) (as := [(vI x1), (vI x2)]) (S := []) gk dX9_isOver_3 gX9_74 (by decide) rfl w_1745 wp_24 ea1 t2 rfl rfl (Nat.le_of_ble_eq_true rfl) (by decide) h
theorem eX9_isOver {G : GG} (gk : GOK G) {σ : Mm} {K : RES → Mm → Prop} {x0 : Option Nat} {x1 : Int32} {x2 : Int32}
    (h : ∃ a1, x0 = some a1 ∧ (mt σ a1).1 = 10 ∧ Runs G mX9_age rX9_age [(vR x0), (vI x1), (vI x2)] σ (bk G mX9_isOver rX9_isOver 0 0 6 [some (vR x0), some (vI x1), some (vI x2)] [] K)) : Runs G mX9_isOver rX9_isOver [(vR x0), (vI x1), (vI x2)] σ K := Runs.of (by decide) rfl (Nat.le_of_ble_eq_true rfl) (vX9_isOver_0 gk h)
theorem vX9_isOver_6 {G : GG} (gk : GOK G) {σ : Mm} {K : RES → Mm → Prop} {x0 : Option Nat} {x1 : Int32} {x2 : Int32} {s0 : Int32}
    (h : ∃ a1, x0 = some a1 ∧ (mt σ a1).1 = 10 ∧ Runs G mX9_of rX9_of [(vR x0), (vI x1), (vI (1 : Int32))] σ (bk G mX9_isOver rX9_isOver 0 0 12 [some (vR x0), some (vI x1), some (vI x2)] [(vI s0)] K)) : At G mX9_isOver rX9_isOver 0 0 6 [some (vR x0), some (vI x1), some (vI x2)] [(vI s0)] σ K := by
  refine s_aload_n (i := 0) dX9_isOver_6 rfl rfl ?_
  refine s_iload_n (i := 1) dX9_isOver_7 rfl rfl ?_
  refine s_iconst (v := 1) dX9_isOver_8 (by decide) ?_
  obtain ⟨a1, ea1, h⟩ := h
  obtain ⟨t2, h⟩ := h
  exact t_callV (ci := 9) (as := [(vI x1), (vI (1 : Int32))]) (S := [(vI s0)]) gk dX9_isOver_9 gX9_77 (by decide) rfl w_1653 wp_16 ea1 t2 rfl rfl (Nat.le_of_ble_eq_true rfl) (by decide) h
theorem vX9_isOver_12 {G : GG} (gk : GOK G) {σ : Mm} {K : RES → Mm → Prop} {x0 : Option Nat} {x1 : Int32} {x2 : Int32} {s0 : Int32} {s1 : Int32}
    (h : ((s1 < s0 → K (.inl (some (vI (0 : Int32)))) σ) ∧ (¬ s1 < s0 → K (.inl (some (vI (1 : Int32)))) σ))) : At G mX9_isOver rX9_isOver 0 0 12 [some (vR x0), some (vI x1), some (vI x2)] [(vI s0), (vI s1)] σ K := by
  refine s_icmp_lt (tgt := 19) dX9_isOver_12 (by decide) (fun q1 => ?_) (fun q1 => ?_)
  · have h := h.1 q1
    refine s_iconst (v := 0) dX9_isOver_19 (by decide) ?_
    exact s_ireturn dX9_isOver_20 rfl rfl (by decide) (by decide) h
  · have h := h.2 q1
    refine s_iconst (v := 1) dX9_isOver_15 (by decide) ?_
    refine s_goto (tgt := 20) dX9_isOver_16 (by decide) ?_
    exact s_ireturn dX9_isOver_20 rfl rfl (by decide) (by decide) h
theorem vX9_goesFirst_0 {G : GG} (gk : GOK G) {σ : Mm} {K : RES → Mm → Prop} {x0 : Option Nat} {x1 : Int32} {x2 : Int32} {x3 : Int32}
    (h : Runs G mX9_echo rX9_echo [(vI x1), (vI x2)] σ (bk G mX9_goesFirst rX9_goesFirst 0 0 5 [some (vR x0), some (vI x1), some (vI x2), some (vI x3), none, none, none] [] K)) : At G mX9_goesFirst rX9_goesFirst 0 0 0 [some (vR x0), some (vI x1), some (vI x2), some (vI x3), none, none, none] [] σ K := by
  refine s_iload_n (i := 1) dX9_goesFirst_0 rfl rfl ?_
  refine s_iload_n (i := 2) dX9_goesFirst_1 rfl rfl ?_
  exact s_callS (as := [(vI x1), (vI x2)]) (S := []) gk dX9_goesFirst_2 gX9_66 w_1641 rfl rfl (Nat.le_of_ble_eq_true rfl) (by decide) h
theorem eX9_goesFirst {G : GG} (gk : GOK G) {σ : Mm} {K : RES → Mm → Prop} {x0 : Option Nat} {x1 : Int32} {x2 : Int32} {x3 : Int32}
    (h : Runs G mX9_echo rX9_echo [(vI x1), (vI x2)] σ (bk G mX9_goesFirst rX9_goesFirst 0 0 5 [some (vR x0), some (vI x1), some (vI x2), some (vI x3), none, none, none] [] K)) : Runs G mX9_goesFirst rX9_goesFirst [(vR x0), (vI x1), (vI x2), (vI x3)] σ K := Runs.of (by decide) rfl (Nat.le_of_ble_eq_true rfl) (vX9_goesFirst_0 gk h)
theorem vX9_goesFirst_5 {G : GG} (gk : GOK G) {σ : Mm} {K : RES → Mm → Prop} {x0 : Option Nat} {x1 : Int32} {x2 : Int32} {x3 : Int32} {s0 : Int32}
    (h : Runs G mX9_echo rX9_echo [(vI x1), (vI x3)] σ (bk G mX9_goesFirst rX9_goesFirst 0 0 12 [some (vR x0), some (vI x1), some (vI x2), some (vI x3), some (vI s0), none, none] [] K)) : At G mX9_goesFirst rX9_goesFirst 0 0 5 [some (vR x0), some (vI x1), some (vI x2), some (vI x3), none, none, none] [(vI s0)] σ K := by
  refine s_istore (L' := [some (vR x0), some (vI x1), some (vI x2), some (vI x3), some (vI s0), none, none]) dX9_goesFirst_5 rfl (by decide) rfl ?_
  refine s_iload_n (i := 1) dX9_goesFirst_7 rfl rfl ?_
  refine s_iload_n (i := 3) dX9_goesFirst_8 rfl rfl ?_
  exact s_callS (as := [(vI x1), (vI x3)]) (S := []) gk dX9_goesFirst_9 gX9_66 w_1641 rfl rfl (Nat.le_of_ble_eq_true rfl) (by decide) h
theorem vX9_goesFirst_12 {G : GG} (gk : GOK G) {σ : Mm} {K : RES → Mm → Prop} {x0 : Option Nat} {x1 : Int32} {x2 : Int32} {x3 : Int32} {x4 : Int32} {s0 : Int32}
    (h : ∃ a1, x0 = some a1 ∧ (mt σ a1).1 = 10 ∧ Runs G mX9_of rX9_of [(vR x0), (vI x1), (vI (2 : Int32))] σ (bk G mX9_goesFirst rX9_goesFirst 0 0 20 [some (vR x0), some (vI x1), some (vI x2), some (vI x3), some (vI x4), some (vI s0), none] [] K)) : At G mX9_goesFirst rX9_goesFirst 0 0 12 [some (vR x0), some (vI x1), some (vI x2), some (vI x3), some (vI x4), none, none] [(vI s0)] σ K := by
  refine s_istore (L' := [some (vR x0), some (vI x1), some (vI x2), some (vI x3), some (vI x4), some (vI s0), none]) dX9_goesFirst_12 rfl (by decide) rfl ?_
  refine s_aload_n (i := 0) dX9_goesFirst_14 rfl rfl ?_
  refine s_iload_n (i := 1) dX9_goesFirst_15 rfl rfl ?_
  refine s_iconst (v := 2) dX9_goesFirst_16 (by decide) ?_
  obtain ⟨a1, ea1, h⟩ := h
  obtain ⟨t2, h⟩ := h
  exact t_callV (ci := 9) (as := [(vI x1), (vI (2 : Int32))]) (S := []) gk dX9_goesFirst_17 gX9_77 (by decide) rfl w_1653 wp_16 ea1 t2 rfl rfl (Nat.le_of_ble_eq_true rfl) (by decide) h
theorem vX9_goesFirst_20 {G : GG} (gk : GOK G) {σ : Mm} {K : RES → Mm → Prop} {x0 : Option Nat} {x1 : Int32} {x2 : Int32} {x3 : Int32} {x4 : Int32} {x5 : Int32} {s0 : Int32}
    (h : ((¬ s0 = (114 : Int32) → ∃ a2, x0 = some a2 ∧ (mt σ a2).1 = 10 ∧ Runs G mX9_of rX9_of [(vR x0), (vI x1), (vI (2 : Int32))] σ (bk G mX9_goesFirst rX9_goesFirst 0 0 53 [some (vR x0), some (vI x1), some (vI x2), some (vI x3), some (vI x4), some (vI x5), none] [] K)) ∧ (s0 = (114 : Int32) → ∃ a4, x0 = some a4 ∧ (mt σ a4).1 = 10 ∧ ∃ a6, mr σ a4 0 = some a6 ∧ ∃ n8, mt σ a6 = (50, n8) ∧ vp_in (x5 + (4 : Int32)) n8 ∧ vp_in (x4 + (4 : Int32)) n8 ∧ ((0 < ((mi σ a6 (x5 + (4 : Int32)).toNatClampNeg) - (mi σ a6 (x4 + (4 : Int32)).toNatClampNeg)) → K (.inl (some (vI (1 : Int32)))) σ) ∧ (¬ 0 < ((mi σ a6 (x5 + (4 : Int32)).toNatClampNeg) - (mi σ a6 (x4 + (4 : Int32)).toNatClampNeg)) → ((¬ ((mi σ a6 (x5 + (4 : Int32)).toNatClampNeg) - (mi σ a6 (x4 + (4 : Int32)).toNatClampNeg)) = 0 → K (.inl (some (vI (0 : Int32)))) σ) ∧ (((mi σ a6 (x5 + (4 : Int32)).toNatClampNeg) - (mi σ a6 (x4 + (4 : Int32)).toNatClampNeg)) = 0 → vp_in (x4 + (3 : Int32)) n8 ∧ vp_in (x5 + (3 : Int32)) n8 ∧ (((mi σ a6 (x5 + (3 : Int32)).toNatClampNeg) ≤ (mi σ a6 (x4 + (3 : Int32)).toNatClampNeg) → K (.inl (some (vI (0 : Int32)))) σ) ∧ (¬ (mi σ a6 (x5 + (3 : Int32)).toNatClampNeg) ≤ (mi σ a6 (x4 + (3 : Int32)).toNatClampNeg) → K (.inl (some (vI (1 : Int32)))) σ))))))))) : At G mX9_goesFirst rX9_goesFirst 0 0 20 [some (vR x0), some (vI x1), some (vI x2), some (vI x3), some (vI x4), some (vI x5), none] [(vI s0)] σ K := by
  refine s_bipush (v := 114) dX9_goesFirst_20 (by decide) ?_
  refine s_icmp_ne (tgt := 47) dX9_goesFirst_22 (by decide) (fun q1 => ?_) (fun q1 => ?_)
  · have h := h.1 q1
    refine s_aload_n (i := 0) dX9_goesFirst_47 rfl rfl ?_
    refine s_iload_n (i := 1) dX9_goesFirst_48 rfl rfl ?_
    refine s_iconst (v := 2) dX9_goesFirst_49 (by decide) ?_
    obtain ⟨a2, ea2, h⟩ := h
    obtain ⟨t3, h⟩ := h
    exact t_callV (ci := 9) (as := [(vI x1), (vI (2 : Int32))]) (S := []) gk dX9_goesFirst_50 gX9_77 (by decide) rfl w_1653 wp_16 ea2 t3 rfl rfl (Nat.le_of_ble_eq_true rfl) (by decide) h
  · have h := h.2 q1
    refine s_aload_n (i := 0) dX9_goesFirst_25 rfl rfl ?_
    obtain ⟨a4, ea4, h⟩ := h
    obtain ⟨t5, h⟩ := h
    refine t_getR gk dX9_goesFirst_26 fX9_9 rfl ea4 t5 ?_
    refine s_iload dX9_goesFirst_29 rfl ?_
    refine s_iconst (v := 4) dX9_goesFirst_31 (by decide) ?_
    refine s_iadd dX9_goesFirst_32 ?_
    obtain ⟨a6, ea6, h⟩ := h
    obtain ⟨n8, t7, h⟩ := h
    obtain ⟨c9, h⟩ := h
    refine t_iald gk dX9_goesFirst_33 ea6 t7 c9 ?_
    refine s_aload_n (i := 0) dX9_goesFirst_34 rfl rfl ?_
    refine t_getR gk dX9_goesFirst_35 fX9_9 rfl ea4 t5 ?_
    refine s_iload dX9_goesFirst_38 rfl ?_
    refine s_iconst (v := 4) dX9_goesFirst_40 (by decide) ?_
    refine s_iadd dX9_goesFirst_41 ?_
    obtain ⟨c10, h⟩ := h
    refine t_iald gk dX9_goesFirst_42 ea6 t7 c10 ?_
    refine s_isub dX9_goesFirst_43 ?_
    refine s_goto (tgt := 81) dX9_goesFirst_44 (by decide) ?_
    refine s_istore (L' := [some (vR x0), some (vI x1), some (vI x2), some (vI x3), some (vI x4), some (vI x5), some (vI ((mi σ a6 (x5 + (4 : Int32)).toNatClampNeg) - (mi σ a6 (x4 + (4 : Int32)).toNatClampNeg)))]) dX9_goesFirst_81 rfl (by decide) rfl ?_
    refine s_iload dX9_goesFirst_83 rfl ?_
    refine s_if_gt (tgt := 114) dX9_goesFirst_85 (by decide) (fun q11 => ?_) (fun q11 => ?_)
    · have h := h.1 q11
      refine s_iconst (v := 1) dX9_goesFirst_114 (by decide) ?_
      refine s_goto (tgt := 119) dX9_goesFirst_115 (by decide) ?_
      exact s_ireturn dX9_goesFirst_119 rfl rfl (by decide) (by decide) h
    · have h := h.2 q11
      refine s_iload dX9_goesFirst_88 rfl ?_
      refine s_if_ne (tgt := 118) dX9_goesFirst_90 (by decide) (fun q12 => ?_) (fun q12 => ?_)
      · have h := h.1 q12
        refine s_iconst (v := 0) dX9_goesFirst_118 (by decide) ?_
        exact s_ireturn dX9_goesFirst_119 rfl rfl (by decide) (by decide) h
      · have h := h.2 q12
        refine s_aload_n (i := 0) dX9_goesFirst_93 rfl rfl ?_
        refine t_getR gk dX9_goesFirst_94 fX9_9 rfl ea4 t5 ?_
        refine s_iload dX9_goesFirst_97 rfl ?_
        refine s_iconst (v := 3) dX9_goesFirst_99 (by decide) ?_
        refine s_iadd dX9_goesFirst_100 ?_
        obtain ⟨c13, h⟩ := h
        refine t_iald gk dX9_goesFirst_101 ea6 t7 c13 ?_
        refine s_aload_n (i := 0) dX9_goesFirst_102 rfl rfl ?_
        refine t_getR gk dX9_goesFirst_103 fX9_9 rfl ea4 t5 ?_
        refine s_iload dX9_goesFirst_106 rfl ?_
        refine s_iconst (v := 3) dX9_goesFirst_108 (by decide) ?_
        refine s_iadd dX9_goesFirst_109 ?_
        obtain ⟨c14, h⟩ := h
        refine t_iald gk dX9_goesFirst_110 ea6 t7 c14 ?_
        refine s_icmp_ge (tgt := 118) dX9_goesFirst_111 (by decide) (fun q15 => ?_) (fun q15 => ?_)
        · have h := h.1 q15
          refine s_iconst (v := 0) dX9_goesFirst_118 (by decide) ?_
          exact s_ireturn dX9_goesFirst_119 rfl rfl (by decide) (by decide) h
        · have h := h.2 q15
          refine s_iconst (v := 1) dX9_goesFirst_114 (by decide) ?_
          refine s_goto (tgt := 119) dX9_goesFirst_115 (by decide) ?_
          exact s_ireturn dX9_goesFirst_119 rfl rfl (by decide) (by decide) h
theorem vX9_goesFirst_53 {G : GG} (gk : GOK G) {σ : Mm} {K : RES → Mm → Prop} {x0 : Option Nat} {x1 : Int32} {x2 : Int32} {x3 : Int32} {x4 : Int32} {x5 : Int32} {s0 : Int32}
    (h : ((¬ s0 = (108 : Int32) → ((0 < (0 : Int32) → K (.inl (some (vI (1 : Int32)))) σ) ∧ (¬ 0 < (0 : Int32) → ((¬ (0 : Int32) = 0 → K (.inl (some (vI (0 : Int32)))) σ) ∧ ((0 : Int32) = 0 → ∃ a4, x0 = some a4 ∧ (mt σ a4).1 = 10 ∧ ∃ a6, mr σ a4 0 = some a6 ∧ ∃ n8, mt σ a6 = (50, n8) ∧ vp_in (x4 + (3 : Int32)) n8 ∧ vp_in (x5 + (3 : Int32)) n8 ∧ (((mi σ a6 (x5 + (3 : Int32)).toNatClampNeg) ≤ (mi σ a6 (x4 + (3 : Int32)).toNatClampNeg) → K (.inl (some (vI (0 : Int32)))) σ) ∧ (¬ (mi σ a6 (x5 + (3 : Int32)).toNatClampNeg) ≤ (mi σ a6 (x4 + (3 : Int32)).toNatClampNeg) → K (.inl (some (vI (1 : Int32)))) σ))))))) ∧ (s0 = (108 : Int32) → ∃ a12, x0 = some a12 ∧ (mt σ a12).1 = 10 ∧ ∃ a14, mr σ a12 0 = some a14 ∧ ∃ n16, mt σ a14 = (50, n16) ∧ vp_in (x5 + (5 : Int32)) n16 ∧ vp_in (x4 + (5 : Int32)) n16 ∧ ((0 < ((mi σ a14 (x5 + (5 : Int32)).toNatClampNeg) - (mi σ a14 (x4 + (5 : Int32)).toNatClampNeg)) → K (.inl (some (vI (1 : Int32)))) σ) ∧ (¬ 0 < ((mi σ a14 (x5 + (5 : Int32)).toNatClampNeg) - (mi σ a14 (x4 + (5 : Int32)).toNatClampNeg)) → ((¬ ((mi σ a14 (x5 + (5 : Int32)).toNatClampNeg) - (mi σ a14 (x4 + (5 : Int32)).toNatClampNeg)) = 0 → K (.inl (some (vI (0 : Int32)))) σ) ∧ (((mi σ a14 (x5 + (5 : Int32)).toNatClampNeg) - (mi σ a14 (x4 + (5 : Int32)).toNatClampNeg)) = 0 → vp_in (x4 + (3 : Int32)) n16 ∧ vp_in (x5 + (3 : Int32)) n16 ∧ (((mi σ a14 (x5 + (3 : Int32)).toNatClampNeg) ≤ (mi σ a14 (x4 + (3 : Int32)).toNatClampNeg) → K (.inl (some (vI (0 : Int32)))) σ) ∧ (¬ (mi σ a14 (x5 + (3 : Int32)).toNatClampNeg) ≤ (mi σ a14 (x4 + (3 : Int32)).toNatClampNeg) → K (.inl (some (vI (1 : Int32)))) σ))))))))) : At G mX9_goesFirst rX9_goesFirst 0 0 53 [some (vR x0), some (vI x1), some (vI x2), some (vI x3), some (vI x4), some (vI x5), none] [(vI s0)] σ K := by
  refine s_bipush (v := 108) dX9_goesFirst_53 (by decide) ?_
  refine s_icmp_ne (tgt := 80) dX9_goesFirst_55 (by decide) (fun q1 => ?_) (fun q1 => ?_)
  · have h := h.1 q1
    refine s_iconst (v := 0) dX9_goesFirst_80 (by decide) ?_
    refine s_istore (L' := [some (vR x0), some (vI x1), some (vI x2), some (vI x3), some (vI x4), some (vI x5), some (vI (0 : Int32))]) dX9_goesFirst_81 rfl (by decide) rfl ?_
    refine s_iload dX9_goesFirst_83 rfl ?_
    refine s_if_gt (tgt := 114) dX9_goesFirst_85 (by decide) (fun q2 => ?_) (fun q2 => ?_)
    · have h := h.1 q2
      refine s_iconst (v := 1) dX9_goesFirst_114 (by decide) ?_
      refine s_goto (tgt := 119) dX9_goesFirst_115 (by decide) ?_
      exact s_ireturn dX9_goesFirst_119 rfl rfl (by decide) (by decide) h
    · have h := h.2 q2
      refine s_iload dX9_goesFirst_88 rfl ?_
      refine s_if_ne (tgt := 118) dX9_goesFirst_90 (by decide) (fun q3 => ?_) (fun q3 => ?_)
      · have h := h.1 q3
        refine s_iconst (v := 0) dX9_goesFirst_118 (by decide) ?_
        exact s_ireturn dX9_goesFirst_119 rfl rfl (by decide) (by decide) h
      · have h := h.2 q3
        refine s_aload_n (i := 0) dX9_goesFirst_93 rfl rfl ?_
        obtain ⟨a4, ea4, h⟩ := h
        obtain ⟨t5, h⟩ := h
        refine t_getR gk dX9_goesFirst_94 fX9_9 rfl ea4 t5 ?_
        refine s_iload dX9_goesFirst_97 rfl ?_
        refine s_iconst (v := 3) dX9_goesFirst_99 (by decide) ?_
        refine s_iadd dX9_goesFirst_100 ?_
        obtain ⟨a6, ea6, h⟩ := h
        obtain ⟨n8, t7, h⟩ := h
        obtain ⟨c9, h⟩ := h
        refine t_iald gk dX9_goesFirst_101 ea6 t7 c9 ?_
        refine s_aload_n (i := 0) dX9_goesFirst_102 rfl rfl ?_
        refine t_getR gk dX9_goesFirst_103 fX9_9 rfl ea4 t5 ?_
        refine s_iload dX9_goesFirst_106 rfl ?_
        refine s_iconst (v := 3) dX9_goesFirst_108 (by decide) ?_
        refine s_iadd dX9_goesFirst_109 ?_
        obtain ⟨c10, h⟩ := h
        refine t_iald gk dX9_goesFirst_110 ea6 t7 c10 ?_
        refine s_icmp_ge (tgt := 118) dX9_goesFirst_111 (by decide) (fun q11 => ?_) (fun q11 => ?_)
        · have h := h.1 q11
          refine s_iconst (v := 0) dX9_goesFirst_118 (by decide) ?_
          exact s_ireturn dX9_goesFirst_119 rfl rfl (by decide) (by decide) h
        · have h := h.2 q11
          refine s_iconst (v := 1) dX9_goesFirst_114 (by decide) ?_
          refine s_goto (tgt := 119) dX9_goesFirst_115 (by decide) ?_
          exact s_ireturn dX9_goesFirst_119 rfl rfl (by decide) (by decide) h
  · have h := h.2 q1
    refine s_aload_n (i := 0) dX9_goesFirst_58 rfl rfl ?_
    obtain ⟨a12, ea12, h⟩ := h
    obtain ⟨t13, h⟩ := h
    refine t_getR gk dX9_goesFirst_59 fX9_9 rfl ea12 t13 ?_
    refine s_iload dX9_goesFirst_62 rfl ?_
    refine s_iconst (v := 5) dX9_goesFirst_64 (by decide) ?_
    refine s_iadd dX9_goesFirst_65 ?_
    obtain ⟨a14, ea14, h⟩ := h
    obtain ⟨n16, t15, h⟩ := h
    obtain ⟨c17, h⟩ := h
    refine t_iald gk dX9_goesFirst_66 ea14 t15 c17 ?_
    refine s_aload_n (i := 0) dX9_goesFirst_67 rfl rfl ?_
    refine t_getR gk dX9_goesFirst_68 fX9_9 rfl ea12 t13 ?_
    refine s_iload dX9_goesFirst_71 rfl ?_
    refine s_iconst (v := 5) dX9_goesFirst_73 (by decide) ?_
    refine s_iadd dX9_goesFirst_74 ?_
    obtain ⟨c18, h⟩ := h
    refine t_iald gk dX9_goesFirst_75 ea14 t15 c18 ?_
    refine s_isub dX9_goesFirst_76 ?_
    refine s_goto (tgt := 81) dX9_goesFirst_77 (by decide) ?_
    refine s_istore (L' := [some (vR x0), some (vI x1), some (vI x2), some (vI x3), some (vI x4), some (vI x5), some (vI ((mi σ a14 (x5 + (5 : Int32)).toNatClampNeg) - (mi σ a14 (x4 + (5 : Int32)).toNatClampNeg)))]) dX9_goesFirst_81 rfl (by decide) rfl ?_
    refine s_iload dX9_goesFirst_83 rfl ?_
    refine s_if_gt (tgt := 114) dX9_goesFirst_85 (by decide) (fun q19 => ?_) (fun q19 => ?_)
    · have h := h.1 q19
      refine s_iconst (v := 1) dX9_goesFirst_114 (by decide) ?_
      refine s_goto (tgt := 119) dX9_goesFirst_115 (by decide) ?_
      exact s_ireturn dX9_goesFirst_119 rfl rfl (by decide) (by decide) h
    · have h := h.2 q19
      refine s_iload dX9_goesFirst_88 rfl ?_
      refine s_if_ne (tgt := 118) dX9_goesFirst_90 (by decide) (fun q20 => ?_) (fun q20 => ?_)
      · have h := h.1 q20
        refine s_iconst (v := 0) dX9_goesFirst_118 (by decide) ?_
        exact s_ireturn dX9_goesFirst_119 rfl rfl (by decide) (by decide) h
      · have h := h.2 q20
        refine s_aload_n (i := 0) dX9_goesFirst_93 rfl rfl ?_
        refine t_getR gk dX9_goesFirst_94 fX9_9 rfl ea12 t13 ?_
        refine s_iload dX9_goesFirst_97 rfl ?_
        refine s_iconst (v := 3) dX9_goesFirst_99 (by decide) ?_
        refine s_iadd dX9_goesFirst_100 ?_
        obtain ⟨c21, h⟩ := h
        refine t_iald gk dX9_goesFirst_101 ea14 t15 c21 ?_
        refine s_aload_n (i := 0) dX9_goesFirst_102 rfl rfl ?_
        refine t_getR gk dX9_goesFirst_103 fX9_9 rfl ea12 t13 ?_
        refine s_iload dX9_goesFirst_106 rfl ?_
        refine s_iconst (v := 3) dX9_goesFirst_108 (by decide) ?_
        refine s_iadd dX9_goesFirst_109 ?_
        obtain ⟨c22, h⟩ := h
        refine t_iald gk dX9_goesFirst_110 ea14 t15 c22 ?_
        refine s_icmp_ge (tgt := 118) dX9_goesFirst_111 (by decide) (fun q23 => ?_) (fun q23 => ?_)
        · have h := h.1 q23
          refine s_iconst (v := 0) dX9_goesFirst_118 (by decide) ?_
          exact s_ireturn dX9_goesFirst_119 rfl rfl (by decide) (by decide) h
        · have h := h.2 q23
          refine s_iconst (v := 1) dX9_goesFirst_114 (by decide) ?_
          refine s_goto (tgt := 119) dX9_goesFirst_115 (by decide) ?_
          exact s_ireturn dX9_goesFirst_119 rfl rfl (by decide) (by decide) h
theorem vX9_victim_0 {G : GG} (gk : GOK G) {σ : Mm} {K : RES → Mm → Prop} {x0 : Option Nat} {x1 : Int32}
    (h : At G mX9_victim rX9_victim 0 0 5 [some (vR x0), some (vI x1), some (vI (-1 : Int32)), some (vI (97 : Int32))] [] σ K) : At G mX9_victim rX9_victim 0 0 0 [some (vR x0), some (vI x1), none, none] [] σ K := by
  refine s_iconst (v := -1) dX9_victim_0 (by decide) ?_
  refine s_istore_n (i := 2) (L' := [some (vR x0), some (vI x1), some (vI (-1 : Int32)), none]) dX9_victim_1 rfl rfl (by decide) rfl ?_
  refine s_bipush (v := 97) dX9_victim_2 (by decide) ?_
  refine s_istore_n (i := 3) (L' := [some (vR x0), some (vI x1), some (vI (-1 : Int32)), some (vI (97 : Int32))]) dX9_victim_4 rfl rfl (by decide) rfl ?_
  exact h
theorem eX9_victim {G : GG} (gk : GOK G) {σ : Mm} {K : RES → Mm → Prop} {x0 : Option Nat} {x1 : Int32}
    (h : At G mX9_victim rX9_victim 0 0 5 [some (vR x0), some (vI x1), some (vI (-1 : Int32)), some (vI (97 : Int32))] [] σ K) : Runs G mX9_victim rX9_victim [(vR x0), (vI x1)] σ K := Runs.of (by decide) rfl (Nat.le_of_ble_eq_true rfl) (vX9_victim_0 gk h)
theorem vX9_victim_5 {G : GG} (gk : GOK G) {σ : Mm} {K : RES → Mm → Prop} {x0 : Option Nat} {x1 : Int32} {x2 : Int32} {x3 : Int32}
    (h : (((122 : Int32) < x3 → K (.inl (some (vI x2))) σ) ∧ (¬ (122 : Int32) < x3 → ∃ a2, x0 = some a2 ∧ (mt σ a2).1 = 10 ∧ Runs G mX9_isEcho rX9_isEcho [(vR x0), (vI x1), (vI x3)] σ (bk G mX9_victim rX9_victim 0 0 17 [some (vR x0), some (vI x1), some (vI x2), some (vI x3)] [] K)))) : At G mX9_victim rX9_victim 0 0 5 [some (vR x0), some (vI x1), some (vI x2), some (vI x3)] [] σ K := by
  refine s_iload_n (i := 3) dX9_victim_5 rfl rfl ?_
  refine s_bipush (v := 122) dX9_victim_6 (by decide) ?_
  refine s_icmp_gt (tgt := 46) dX9_victim_8 (by decide) (fun q1 => ?_) (fun q1 => ?_)
  · have h := h.1 q1
    refine s_iload_n (i := 2) dX9_victim_46 rfl rfl ?_
    exact s_ireturn dX9_victim_47 rfl rfl (by decide) (by decide) h
  · have h := h.2 q1
    refine s_aload_n (i := 0) dX9_victim_11 rfl rfl ?_
    refine s_iload_n (i := 1) dX9_victim_12 rfl rfl ?_
    refine s_iload_n (i := 3) dX9_victim_13 rfl rfl ?_
    obtain ⟨a2, ea2, h⟩ := h
    obtain ⟨t3, h⟩ := h
    exact t_callV (ci := 9) (as := [(vI x1), (vI x3)]) (S := []) gk dX9_victim_14 gX9_70 (by decide) rfl w_1721 wp_22 ea2 t3 rfl rfl (Nat.le_of_ble_eq_true rfl) (by decide) h
theorem vX9_victim_17 {G : GG} (gk : GOK G) {σ : Mm} {K : RES → Mm → Prop} {x0 : Option Nat} {x1 : Int32} {x2 : Int32} {x3 : Int32} {s0 : Int32}
    (h : ((s0 = 0 → At G mX9_victim rX9_victim 0 0 5 [some (vR x0), some (vI x1), some (vI x2), some (vI (x3 + 1))] [] σ K) ∧ (¬ s0 = 0 → ((x2 < 0 → At G mX9_victim rX9_victim 0 0 5 [some (vR x0), some (vI x1), some (vI x3), some (vI (x3 + 1))] [] σ K) ∧ (¬ x2 < 0 → ∃ a3, x0 = some a3 ∧ (mt σ a3).1 = 10 ∧ Runs G mX9_goesFirst rX9_goesFirst [(vR x0), (vI x1), (vI x3), (vI x2)] σ (bk G mX9_victim rX9_victim 0 0 31 [some (vR x0), some (vI x1), some (vI x2), some (vI x3)] [] K)))))) : At G mX9_victim rX9_victim 0 0 17 [some (vR x0), some (vI x1), some (vI x2), some (vI x3)] [(vI s0)] σ K := by
  refine s_if_eq (tgt := 38) dX9_victim_17 (by decide) (fun q1 => ?_) (fun q1 => ?_)
  · have h := h.1 q1
    refine s_iload_n (i := 2) dX9_victim_38 rfl rfl ?_
    refine s_istore_n (i := 2) (L' := [some (vR x0), some (vI x1), some (vI x2), some (vI x3)]) dX9_victim_39 rfl rfl (by decide) rfl ?_
    refine s_iinc (v := x3 + 1) (L' := [some (vR x0), some (vI x1), some (vI x2), some (vI (x3 + 1))]) dX9_victim_40 rfl rfl rfl (by decide) rfl ?_
    refine s_goto (tgt := 5) dX9_victim_43 (by decide) ?_
    exact h
  · have h := h.2 q1
    refine s_iload_n (i := 2) dX9_victim_20 rfl rfl ?_
    refine s_if_lt (tgt := 34) dX9_victim_21 (by decide) (fun q2 => ?_) (fun q2 => ?_)
    · have h := h.1 q2
      refine s_iload_n (i := 3) dX9_victim_34 rfl rfl ?_
      refine s_goto (tgt := 39) dX9_victim_35 (by decide) ?_
      refine s_istore_n (i := 2) (L' := [some (vR x0), some (vI x1), some (vI x3), some (vI x3)]) dX9_victim_39 rfl rfl (by decide) rfl ?_
      refine s_iinc (v := x3 + 1) (L' := [some (vR x0), some (vI x1), some (vI x3), some (vI (x3 + 1))]) dX9_victim_40 rfl rfl rfl (by decide) rfl ?_
      refine s_goto (tgt := 5) dX9_victim_43 (by decide) ?_
      exact h
    · have h := h.2 q2
      refine s_aload_n (i := 0) dX9_victim_24 rfl rfl ?_
      refine s_iload_n (i := 1) dX9_victim_25 rfl rfl ?_
      refine s_iload_n (i := 3) dX9_victim_26 rfl rfl ?_
      refine s_iload_n (i := 2) dX9_victim_27 rfl rfl ?_
      obtain ⟨a3, ea3, h⟩ := h
      obtain ⟨t4, h⟩ := h
      exact t_callV (ci := 9) (as := [(vI x1), (vI x3), (vI x2)]) (S := []) gk dX9_victim_28 gX9_80 (by decide) rfl w_1782 wp_27 ea3 t4 rfl rfl (Nat.le_of_ble_eq_true rfl) (by decide) h
theorem vX9_victim_31 {G : GG} (gk : GOK G) {σ : Mm} {K : RES → Mm → Prop} {x0 : Option Nat} {x1 : Int32} {x2 : Int32} {x3 : Int32} {s0 : Int32}
    (h : ((s0 = 0 → At G mX9_victim rX9_victim 0 0 5 [some (vR x0), some (vI x1), some (vI x2), some (vI (x3 + 1))] [] σ K) ∧ (¬ s0 = 0 → At G mX9_victim rX9_victim 0 0 5 [some (vR x0), some (vI x1), some (vI x3), some (vI (x3 + 1))] [] σ K))) : At G mX9_victim rX9_victim 0 0 31 [some (vR x0), some (vI x1), some (vI x2), some (vI x3)] [(vI s0)] σ K := by
  refine s_if_eq (tgt := 38) dX9_victim_31 (by decide) (fun q1 => ?_) (fun q1 => ?_)
  · have h := h.1 q1
    refine s_iload_n (i := 2) dX9_victim_38 rfl rfl ?_
    refine s_istore_n (i := 2) (L' := [some (vR x0), some (vI x1), some (vI x2), some (vI x3)]) dX9_victim_39 rfl rfl (by decide) rfl ?_
    refine s_iinc (v := x3 + 1) (L' := [some (vR x0), some (vI x1), some (vI x2), some (vI (x3 + 1))]) dX9_victim_40 rfl rfl rfl (by decide) rfl ?_
    refine s_goto (tgt := 5) dX9_victim_43 (by decide) ?_
    exact h
  · have h := h.2 q1
    refine s_iload_n (i := 3) dX9_victim_34 rfl rfl ?_
    refine s_goto (tgt := 39) dX9_victim_35 (by decide) ?_
    refine s_istore_n (i := 2) (L' := [some (vR x0), some (vI x1), some (vI x3), some (vI x3)]) dX9_victim_39 rfl rfl (by decide) rfl ?_
    refine s_iinc (v := x3 + 1) (L' := [some (vR x0), some (vI x1), some (vI x3), some (vI (x3 + 1))]) dX9_victim_40 rfl rfl rfl (by decide) rfl ?_
    refine s_goto (tgt := 5) dX9_victim_43 (by decide) ?_
    exact h
theorem vX9_fetches_0 {G : GG} (gk : GOK G) {σ : Mm} {K : RES → Mm → Prop} {x0 : Option Nat} {x1 : Int32} {x2 : Int32}
    (h : ∃ a1, x0 = some a1 ∧ (mt σ a1).1 = 10 ∧ Runs G mX9_echo rX9_echo [(vI x1), (vI x2)] σ (bk G mX9_fetches rX9_fetches 0 0 9 [some (vR x0), some (vI x1), some (vI x2), none] [(vR (mr σ a1 0))] K)) : At G mX9_fetches rX9_fetches 0 0 0 [some (vR x0), some (vI x1), some (vI x2), none] [] σ K := by
  refine s_aload_n (i := 0) dX9_fetches_0 rfl rfl ?_
  obtain ⟨a1, ea1, h⟩ := h
  obtain ⟨t2, h⟩ := h
  refine t_getR gk dX9_fetches_1 fX9_9 rfl ea1 t2 ?_
  refine s_iload_n (i := 1) dX9_fetches_4 rfl rfl ?_
  refine s_iload_n (i := 2) dX9_fetches_5 rfl rfl ?_
  exact s_callS (as := [(vI x1), (vI x2)]) (S := [(vR (mr σ a1 0))]) gk dX9_fetches_6 gX9_66 w_1641 rfl rfl (Nat.le_of_ble_eq_true rfl) (by decide) h
theorem eX9_fetches {G : GG} (gk : GOK G) {σ : Mm} {K : RES → Mm → Prop} {x0 : Option Nat} {x1 : Int32} {x2 : Int32}
    (h : ∃ a1, x0 = some a1 ∧ (mt σ a1).1 = 10 ∧ Runs G mX9_echo rX9_echo [(vI x1), (vI x2)] σ (bk G mX9_fetches rX9_fetches 0 0 9 [some (vR x0), some (vI x1), some (vI x2), none] [(vR (mr σ a1 0))] K)) : Runs G mX9_fetches rX9_fetches [(vR x0), (vI x1), (vI x2)] σ K := Runs.of (by decide) rfl (Nat.le_of_ble_eq_true rfl) (vX9_fetches_0 gk h)
theorem vX9_fetches_9 {G : GG} (gk : GOK G) {σ : Mm} {K : RES → Mm → Prop} {x0 : Option Nat} {x1 : Int32} {x2 : Int32} {s0 : Int32} {s1 : Option Nat}
    (h : ∃ a1, s1 = some a1 ∧ ∃ n3, mt σ a1 = (50, n3) ∧ vp_in s0 n3 ∧ ∀ σ5, σ5 = si σ a1 s0.toNatClampNeg (0 : Int32) → ∃ a6, x0 = some a6 ∧ (mt σ a6).1 = 10 ∧ Runs G mX9_echoes rX9_echoes [(vR x0), (vI x1)] σ5 (bk G mX9_fetches rX9_fetches 0 0 16 [some (vR x0), some (vI x1), some (vI x2), none] [] K)) : At G mX9_fetches rX9_fetches 0 0 9 [some (vR x0), some (vI x1), some (vI x2), none] [(vI s0), (vR s1)] σ K := by
  refine s_iconst (v := 0) dX9_fetches_9 (by decide) ?_
  obtain ⟨a1, ea1, h⟩ := h
  obtain ⟨n3, t2, h⟩ := h
  obtain ⟨c4, h⟩ := h
  refine t_iast gk dX9_fetches_10 ea1 t2 c4 (fun σ5 eσ5 mσ5 => ?_)
  replace h := h σ5 eσ5
  refine s_aload_n (i := 0) dX9_fetches_11 rfl rfl ?_
  refine s_iload_n (i := 1) dX9_fetches_12 rfl rfl ?_
  obtain ⟨a6, ea6, h⟩ := h
  obtain ⟨t7, h⟩ := h
  exact t_callV (ci := 9) (as := [(vI x1)]) (S := []) gk dX9_fetches_13 gX9_83 (by decide) rfl w_1717 wp_21 ea6 (by rw [mσ5]; exact t7) rfl rfl (Nat.le_of_ble_eq_true rfl) (by decide) h
theorem vX9_fetches_16 {G : GG} (gk : GOK G) {σ : Mm} {K : RES → Mm → Prop} {x0 : Option Nat} {x1 : Int32} {x2 : Int32} {s0 : Int32}
    (h : ∃ a1, x0 = some a1 ∧ (mt σ a1).1 = 10 ∧ Runs G mX9_of rX9_of [(vR x0), (vI x1), (vI (0 : Int32))] σ (bk G mX9_fetches rX9_fetches 0 0 22 [some (vR x0), some (vI x1), some (vI x2), none] [(vI s0)] K)) : At G mX9_fetches rX9_fetches 0 0 16 [some (vR x0), some (vI x1), some (vI x2), none] [(vI s0)] σ K := by
  refine s_aload_n (i := 0) dX9_fetches_16 rfl rfl ?_
  refine s_iload_n (i := 1) dX9_fetches_17 rfl rfl ?_
  refine s_iconst (v := 0) dX9_fetches_18 (by decide) ?_
  obtain ⟨a1, ea1, h⟩ := h
  obtain ⟨t2, h⟩ := h
  exact t_callV (ci := 9) (as := [(vI x1), (vI (0 : Int32))]) (S := [(vI s0)]) gk dX9_fetches_19 gX9_77 (by decide) rfl w_1653 wp_16 ea1 t2 rfl rfl (Nat.le_of_ble_eq_true rfl) (by decide) h
theorem vX9_fetches_22 {G : GG} (gk : GOK G) {σ : Mm} {K : RES → Mm → Prop} {x0 : Option Nat} {x1 : Int32} {x2 : Int32} {s0 : Int32} {s1 : Int32}
    (h : ((¬ s1 = s0 → Runs G mX9_echo rX9_echo [(vI x1), (vI x2)] σ (bk G mX9_fetches rX9_fetches 0 0 45 [some (vR x0), some (vI x1), some (vI x2), none] [] K)) ∧ (s1 = s0 → ∃ a2, x0 = some a2 ∧ (mt σ a2).1 = 10 ∧ Runs G mX9_victim rX9_victim [(vR x0), (vI x1)] σ (bk G mX9_fetches rX9_fetches 0 0 35 [some (vR x0), some (vI x1), some (vI x2), none] [(vI x1), (vR (mr σ a2 0))] K)))) : At G mX9_fetches rX9_fetches 0 0 22 [some (vR x0), some (vI x1), some (vI x2), none] [(vI s0), (vI s1)] σ K := by
  refine s_icmp_ne (tgt := 40) dX9_fetches_22 (by decide) (fun q1 => ?_) (fun q1 => ?_)
  · have h := h.1 q1
    refine s_iload_n (i := 1) dX9_fetches_40 rfl rfl ?_
    refine s_iload_n (i := 2) dX9_fetches_41 rfl rfl ?_
    exact s_callS (as := [(vI x1), (vI x2)]) (S := []) gk dX9_fetches_42 gX9_66 w_1641 rfl rfl (Nat.le_of_ble_eq_true rfl) (by decide) h
  · have h := h.2 q1
    refine s_aload_n (i := 0) dX9_fetches_25 rfl rfl ?_
    obtain ⟨a2, ea2, h⟩ := h
    obtain ⟨t3, h⟩ := h
    refine t_getR gk dX9_fetches_26 fX9_9 rfl ea2 t3 ?_
    refine s_iload_n (i := 1) dX9_fetches_29 rfl rfl ?_
    refine s_aload_n (i := 0) dX9_fetches_30 rfl rfl ?_
    refine s_iload_n (i := 1) dX9_fetches_31 rfl rfl ?_
    exact t_callV (ci := 9) (as := [(vI x1)]) (S := [(vI x1), (vR (mr σ a2 0))]) gk dX9_fetches_32 gX9_86 (by decide) rfl w_1778 wp_26 ea2 t3 rfl rfl (Nat.le_of_ble_eq_true rfl) (by decide) h
theorem vX9_fetches_35 {G : GG} (gk : GOK G) {σ : Mm} {K : RES → Mm → Prop} {x0 : Option Nat} {x1 : Int32} {x2 : Int32} {s0 : Int32} {s1 : Int32} {s2 : Option Nat}
    (h : Runs G mX9_echo rX9_echo [(vI s1), (vI s0)] σ (bk G mX9_fetches rX9_fetches 0 0 38 [some (vR x0), some (vI x1), some (vI x2), none] [(vR s2)] K)) : At G mX9_fetches rX9_fetches 0 0 35 [some (vR x0), some (vI x1), some (vI x2), none] [(vI s0), (vI s1), (vR s2)] σ K := by
  exact s_callS (as := [(vI s1), (vI s0)]) (S := [(vR s2)]) gk dX9_fetches_35 gX9_66 w_1641 rfl rfl (Nat.le_of_ble_eq_true rfl) (by decide) h
theorem vX9_fetches_38 {G : GG} (gk : GOK G) {σ : Mm} {K : RES → Mm → Prop} {x0 : Option Nat} {x1 : Int32} {x2 : Int32} {s0 : Int32} {s1 : Option Nat}
    (h : ∃ a1, s1 = some a1 ∧ ∃ n3, mt σ a1 = (50, n3) ∧ vp_in s0 n3 ∧ ∀ σ5, σ5 = si σ a1 s0.toNatClampNeg (0 : Int32) → Runs G mX9_echo rX9_echo [(vI x1), (vI x2)] σ5 (bk G mX9_fetches rX9_fetches 0 0 45 [some (vR x0), some (vI x1), some (vI x2), none] [] K)) : At G mX9_fetches rX9_fetches 0 0 38 [some (vR x0), some (vI x1), some (vI x2), none] [(vI s0), (vR s1)] σ K := by
  refine s_iconst (v := 0) dX9_fetches_38 (by decide) ?_
  obtain ⟨a1, ea1, h⟩ := h
  obtain ⟨n3, t2, h⟩ := h
  obtain ⟨c4, h⟩ := h
  refine t_iast gk dX9_fetches_39 ea1 t2 c4 (fun σ5 eσ5 mσ5 => ?_)
  replace h := h σ5 eσ5
  refine s_iload_n (i := 1) dX9_fetches_40 rfl rfl ?_
  refine s_iload_n (i := 2) dX9_fetches_41 rfl rfl ?_
  exact s_callS (as := [(vI x1), (vI x2)]) (S := []) gk dX9_fetches_42 gX9_66 w_1641 rfl rfl (Nat.le_of_ble_eq_true rfl) (by decide) h
theorem vX9_fetches_45 {G : GG} (gk : GOK G) {σ : Mm} {K : RES → Mm → Prop} {x0 : Option Nat} {x1 : Int32} {x2 : Int32} {s0 : Int32}
    (h : ∃ a1, x0 = some a1 ∧ (mt σ a1).1 = 10 ∧ ∃ a3, mr σ a1 0 = some a3 ∧ ∃ n5, mt σ a3 = (50, n5) ∧ vp_in s0 n5 ∧ ∀ σ7, σ7 = si σ a3 s0.toNatClampNeg (1 : Int32) → Runs G mX9_jar rX9_jar [(vI x2)] σ7 (bk G mX9_fetches rX9_fetches 0 0 68 [some (vR x0), some (vI x1), some (vI x2), some (vI s0)] [(vR (mr σ7 a1 0)), (vI (s0 + (1 : Int32))), (vR (mr σ7 a1 0))] K)) : At G mX9_fetches rX9_fetches 0 0 45 [some (vR x0), some (vI x1), some (vI x2), none] [(vI s0)] σ K := by
  refine s_istore_n (i := 3) (L' := [some (vR x0), some (vI x1), some (vI x2), some (vI s0)]) dX9_fetches_45 rfl rfl (by decide) rfl ?_
  refine s_aload_n (i := 0) dX9_fetches_46 rfl rfl ?_
  obtain ⟨a1, ea1, h⟩ := h
  obtain ⟨t2, h⟩ := h
  refine t_getR gk dX9_fetches_47 fX9_9 rfl ea1 t2 ?_
  refine s_iload_n (i := 3) dX9_fetches_50 rfl rfl ?_
  refine s_iconst (v := 1) dX9_fetches_51 (by decide) ?_
  obtain ⟨a3, ea3, h⟩ := h
  obtain ⟨n5, t4, h⟩ := h
  obtain ⟨c6, h⟩ := h
  refine t_iast gk dX9_fetches_52 ea3 t4 c6 (fun σ7 eσ7 mσ7 => ?_)
  replace h := h σ7 eσ7
  refine s_aload_n (i := 0) dX9_fetches_53 rfl rfl ?_
  refine t_getR gk dX9_fetches_54 fX9_9 rfl ea1 (by rw [mσ7]; exact t2) ?_
  refine s_iload_n (i := 3) dX9_fetches_57 rfl rfl ?_
  refine s_iconst (v := 1) dX9_fetches_58 (by decide) ?_
  refine s_iadd dX9_fetches_59 ?_
  refine s_aload_n (i := 0) dX9_fetches_60 rfl rfl ?_
  refine t_getR gk dX9_fetches_61 fX9_9 rfl ea1 (by rw [mσ7]; exact t2) ?_
  refine s_iload_n (i := 2) dX9_fetches_64 rfl rfl ?_
  exact s_callS (as := [(vI x2)]) (S := [(vR (mr σ7 a1 0)), (vI (s0 + (1 : Int32))), (vR (mr σ7 a1 0))]) gk dX9_fetches_65 gX9_59 w_1626 rfl rfl (Nat.le_of_ble_eq_true rfl) (by decide) h
theorem vX9_fetches_68 {G : GG} (gk : GOK G) {σ : Mm} {K : RES → Mm → Prop} {x0 : Option Nat} {x1 : Int32} {x2 : Int32} {x3 : Int32} {s0 : Int32} {s1 : Option Nat} {s2 : Int32} {s3 : Option Nat}
    (h : ∃ a1, s1 = some a1 ∧ ∃ n3, mt σ a1 = (50, n3) ∧ vp_in (s0 + (1 : Int32)) n3 ∧ ∃ a5, s3 = some a5 ∧ ∃ n7, mt σ a5 = (50, n7) ∧ vp_in s2 n7 ∧ ∀ σ9, σ9 = si σ a5 s2.toNatClampNeg (mi σ a1 (s0 + (1 : Int32)).toNatClampNeg) → ∃ a10, x0 = some a10 ∧ (mt σ a10).1 = 10 ∧ ∃ a12, mr σ9 a10 0 = some a12 ∧ ∃ n14, mt σ a12 = (50, n14) ∧ vp_in (2 : Int32) n14 ∧ vp_in (x3 + (2 : Int32)) n14 ∧ ∀ σ17, σ17 = si σ9 a12 (x3 + (2 : Int32)).toNatClampNeg (mi σ9 a12 (2 : Int32).toNatClampNeg) → ∃ a18, mr σ17 a10 0 = some a18 ∧ ∃ n20, mt σ a18 = (50, n20) ∧ vp_in (3 : Int32) n20 ∧ vp_in (x3 + (3 : Int32)) n20 ∧ ∀ σ23, σ23 = si σ17 a18 (x3 + (3 : Int32)).toNatClampNeg (mi σ17 a18 (3 : Int32).toNatClampNeg) → ∃ a24, mr σ23 a10 0 = some a24 ∧ ∃ n26, mt σ a24 = (50, n26) ∧ vp_in (3 : Int32) n26 ∧ vp_in (x3 + (4 : Int32)) n26 ∧ ∀ σ29, σ29 = si σ23 a24 (x3 + (4 : Int32)).toNatClampNeg (mi σ23 a24 (3 : Int32).toNatClampNeg) → ∃ a30, mr σ29 a10 0 = some a30 ∧ ∃ n32, mt σ a30 = (50, n32) ∧ vp_in (x3 + (5 : Int32)) n32 ∧ ∀ σ34, σ34 = si σ29 a30 (x3 + (5 : Int32)).toNatClampNeg (0 : Int32) → ∃ a35, mr σ34 a10 0 = some a35 ∧ ∃ n37, mt σ a35 = (50, n37) ∧ vp_in (x3 + (6 : Int32)) n37 ∧ ∀ σ39, σ39 = si σ34 a35 (x3 + (6 : Int32)).toNatClampNeg (0 : Int32) → ∃ a40, mr σ39 a10 0 = some a40 ∧ ∃ n42, mt σ a40 = (50, n42) ∧ vp_in (3 : Int32) n42 ∧ vp_in (3 : Int32) n42 ∧ ∀ σ45, σ45 = si σ39 a40 (3 : Int32).toNatClampNeg ((mi σ39 a40 (3 : Int32).toNatClampNeg) + (1 : Int32)) → K (.inl none) σ45) : At G mX9_fetches rX9_fetches 0 0 68 [some (vR x0), some (vI x1), some (vI x2), some (vI x3)] [(vI s0), (vR s1), (vI s2), (vR s3)] σ K := by
  refine s_iconst (v := 1) dX9_fetches_68 (by decide) ?_
  refine s_iadd dX9_fetches_69 ?_
  obtain ⟨a1, ea1, h⟩ := h
  obtain ⟨n3, t2, h⟩ := h
  obtain ⟨c4, h⟩ := h
  refine t_iald gk dX9_fetches_70 ea1 t2 c4 ?_
  obtain ⟨a5, ea5, h⟩ := h
  obtain ⟨n7, t6, h⟩ := h
  obtain ⟨c8, h⟩ := h
  refine t_iast gk dX9_fetches_71 ea5 t6 c8 (fun σ9 eσ9 mσ9 => ?_)
  replace h := h σ9 eσ9
  refine s_aload_n (i := 0) dX9_fetches_72 rfl rfl ?_
  obtain ⟨a10, ea10, h⟩ := h
  obtain ⟨t11, h⟩ := h
  refine t_getR gk dX9_fetches_73 fX9_9 rfl ea10 (by rw [mσ9]; exact t11) ?_
  refine s_iload_n (i := 3) dX9_fetches_76 rfl rfl ?_
  refine s_iconst (v := 2) dX9_fetches_77 (by decide) ?_
  refine s_iadd dX9_fetches_78 ?_
  refine s_aload_n (i := 0) dX9_fetches_79 rfl rfl ?_
  refine t_getR gk dX9_fetches_80 fX9_9 rfl ea10 (by rw [mσ9]; exact t11) ?_
  refine s_iconst (v := 2) dX9_fetches_83 (by decide) ?_
  obtain ⟨a12, ea12, h⟩ := h
  obtain ⟨n14, t13, h⟩ := h
  obtain ⟨c15, h⟩ := h
  refine t_iald gk dX9_fetches_84 ea12 (by rw [mσ9]; exact t13) c15 ?_
  obtain ⟨c16, h⟩ := h
  refine t_iast gk dX9_fetches_85 ea12 (by rw [mσ9]; exact t13) c16 (fun σ17 eσ17 mσ17 => ?_)
  replace h := h σ17 eσ17
  refine s_aload_n (i := 0) dX9_fetches_86 rfl rfl ?_
  refine t_getR gk dX9_fetches_87 fX9_9 rfl ea10 (by rw [mσ17, mσ9]; exact t11) ?_
  refine s_iload_n (i := 3) dX9_fetches_90 rfl rfl ?_
  refine s_iconst (v := 3) dX9_fetches_91 (by decide) ?_
  refine s_iadd dX9_fetches_92 ?_
  refine s_aload_n (i := 0) dX9_fetches_93 rfl rfl ?_
  refine t_getR gk dX9_fetches_94 fX9_9 rfl ea10 (by rw [mσ17, mσ9]; exact t11) ?_
  refine s_iconst (v := 3) dX9_fetches_97 (by decide) ?_
  obtain ⟨a18, ea18, h⟩ := h
  obtain ⟨n20, t19, h⟩ := h
  obtain ⟨c21, h⟩ := h
  refine t_iald gk dX9_fetches_98 ea18 (by rw [mσ17, mσ9]; exact t19) c21 ?_
  obtain ⟨c22, h⟩ := h
  refine t_iast gk dX9_fetches_99 ea18 (by rw [mσ17, mσ9]; exact t19) c22 (fun σ23 eσ23 mσ23 => ?_)
  replace h := h σ23 eσ23
  refine s_aload_n (i := 0) dX9_fetches_100 rfl rfl ?_
  refine t_getR gk dX9_fetches_101 fX9_9 rfl ea10 (by rw [mσ23, mσ17, mσ9]; exact t11) ?_
  refine s_iload_n (i := 3) dX9_fetches_104 rfl rfl ?_
  refine s_iconst (v := 4) dX9_fetches_105 (by decide) ?_
  refine s_iadd dX9_fetches_106 ?_
  refine s_aload_n (i := 0) dX9_fetches_107 rfl rfl ?_
  refine t_getR gk dX9_fetches_108 fX9_9 rfl ea10 (by rw [mσ23, mσ17, mσ9]; exact t11) ?_
  refine s_iconst (v := 3) dX9_fetches_111 (by decide) ?_
  obtain ⟨a24, ea24, h⟩ := h
  obtain ⟨n26, t25, h⟩ := h
  obtain ⟨c27, h⟩ := h
  refine t_iald gk dX9_fetches_112 ea24 (by rw [mσ23, mσ17, mσ9]; exact t25) c27 ?_
  obtain ⟨c28, h⟩ := h
  refine t_iast gk dX9_fetches_113 ea24 (by rw [mσ23, mσ17, mσ9]; exact t25) c28 (fun σ29 eσ29 mσ29 => ?_)
  replace h := h σ29 eσ29
  refine s_aload_n (i := 0) dX9_fetches_114 rfl rfl ?_
  refine t_getR gk dX9_fetches_115 fX9_9 rfl ea10 (by rw [mσ29, mσ23, mσ17, mσ9]; exact t11) ?_
  refine s_iload_n (i := 3) dX9_fetches_118 rfl rfl ?_
  refine s_iconst (v := 5) dX9_fetches_119 (by decide) ?_
  refine s_iadd dX9_fetches_120 ?_
  refine s_iconst (v := 0) dX9_fetches_121 (by decide) ?_
  obtain ⟨a30, ea30, h⟩ := h
  obtain ⟨n32, t31, h⟩ := h
  obtain ⟨c33, h⟩ := h
  refine t_iast gk dX9_fetches_122 ea30 (by rw [mσ29, mσ23, mσ17, mσ9]; exact t31) c33 (fun σ34 eσ34 mσ34 => ?_)
  replace h := h σ34 eσ34
  refine s_aload_n (i := 0) dX9_fetches_123 rfl rfl ?_
  refine t_getR gk dX9_fetches_124 fX9_9 rfl ea10 (by rw [mσ34, mσ29, mσ23, mσ17, mσ9]; exact t11) ?_
  refine s_iload_n (i := 3) dX9_fetches_127 rfl rfl ?_
  refine s_bipush (v := 6) dX9_fetches_128 (by decide) ?_
  refine s_iadd dX9_fetches_130 ?_
  refine s_iconst (v := 0) dX9_fetches_131 (by decide) ?_
  obtain ⟨a35, ea35, h⟩ := h
  obtain ⟨n37, t36, h⟩ := h
  obtain ⟨c38, h⟩ := h
  refine t_iast gk dX9_fetches_132 ea35 (by rw [mσ34, mσ29, mσ23, mσ17, mσ9]; exact t36) c38 (fun σ39 eσ39 mσ39 => ?_)
  replace h := h σ39 eσ39
  refine s_aload_n (i := 0) dX9_fetches_133 rfl rfl ?_
  refine t_getR gk dX9_fetches_134 fX9_9 rfl ea10 (by rw [mσ39, mσ34, mσ29, mσ23, mσ17, mσ9]; exact t11) ?_
  refine s_iconst (v := 3) dX9_fetches_137 (by decide) ?_
  refine s_dup2 dX9_fetches_138 rfl rfl ?_
  obtain ⟨a40, ea40, h⟩ := h
  obtain ⟨n42, t41, h⟩ := h
  obtain ⟨c43, h⟩ := h
  refine t_iald gk dX9_fetches_139 ea40 (by rw [mσ39, mσ34, mσ29, mσ23, mσ17, mσ9]; exact t41) c43 ?_
  refine s_iconst (v := 1) dX9_fetches_140 (by decide) ?_
  refine s_iadd dX9_fetches_141 ?_
  obtain ⟨c44, h⟩ := h
  refine t_iast gk dX9_fetches_142 ea40 (by rw [mσ39, mσ34, mσ29, mσ23, mσ17, mσ9]; exact t41) c44 (fun σ45 eσ45 mσ45 => ?_)
  replace h := h σ45 eσ45
  exact s_return dX9_fetches_143 rfl (by decide) (by decide) h
theorem vX9_outcome_0 {G : GG} (gk : GOK G) {σ : Mm} {K : RES → Mm → Prop} {x0 : Option Nat} {x1 : Int32} {x2 : Int32}
    (h : ∃ a1, x0 = some a1 ∧ (mt σ a1).1 = 10 ∧ Runs G mX9_isEcho rX9_isEcho [(vR x0), (vI x1), (vI x2)] σ (bk G mX9_outcome rX9_outcome 0 0 6 [some (vR x0), some (vI x1), some (vI x2)] [] K)) : At G mX9_outcome rX9_outcome 0 0 0 [some (vR x0), some (vI x1), some (vI x2)] [] σ K := by
  refine s_aload_n (i := 0) dX9_outcome_0 rfl rfl ?_
  refine s_iload_n (i := 1) dX9_outcome_1 rfl rfl ?_
  refine s_iload_n (i := 2) dX9_outcome_2 rfl rfl ?_
  obtain ⟨a1, ea1, h⟩ := h
  obtain ⟨t2, h⟩ := h
  exact t_callV (ci := 9) (as := [(vI x1), (vI x2)]) (S := []) gk dX9_outcome_3 gX9_70 (by decide) rfl w_1721 wp_22 ea1 t2 rfl rfl (Nat.le_of_ble_eq_true rfl) (by decide) h
theorem eX9_outcome {G : GG} (gk : GOK G) {σ : Mm} {K : RES → Mm → Prop} {x0 : Option Nat} {x1 : Int32} {x2 : Int32}
    (h : ∃ a1, x0 = some a1 ∧ (mt σ a1).1 = 10 ∧ Runs G mX9_isEcho rX9_isEcho [(vR x0), (vI x1), (vI x2)] σ (bk G mX9_outcome rX9_outcome 0 0 6 [some (vR x0), some (vI x1), some (vI x2)] [] K)) : Runs G mX9_outcome rX9_outcome [(vR x0), (vI x1), (vI x2)] σ K := Runs.of (by decide) rfl (Nat.le_of_ble_eq_true rfl) (vX9_outcome_0 gk h)
theorem vX9_outcome_6 {G : GG} (gk : GOK G) {σ : Mm} {K : RES → Mm → Prop} {x0 : Option Nat} {x1 : Int32} {x2 : Int32} {s0 : Int32}
    (h : ((¬ s0 = 0 → ∃ a2, x0 = some a2 ∧ (mt σ a2).1 = 10 ∧ Runs G mX9_isOver rX9_isOver [(vR x0), (vI x1), (vI x2)] σ (bk G mX9_outcome rX9_outcome 0 0 20 [some (vR x0), some (vI x1), some (vI x2)] [] K)) ∧ (s0 = 0 → K (.inl (some (vI (99 : Int32)))) σ))) : At G mX9_outcome rX9_outcome 0 0 6 [some (vR x0), some (vI x1), some (vI x2)] [(vI s0)] σ K := by
  refine s_if_ne (tgt := 14) dX9_outcome_6 (by decide) (fun q1 => ?_) (fun q1 => ?_)
  · have h := h.1 q1
    refine s_aload_n (i := 0) dX9_outcome_14 rfl rfl ?_
    refine s_iload_n (i := 1) dX9_outcome_15 rfl rfl ?_
    refine s_iload_n (i := 2) dX9_outcome_16 rfl rfl ?_
    obtain ⟨a2, ea2, h⟩ := h
    obtain ⟨t3, h⟩ := h
    exact t_callV (ci := 9) (as := [(vI x1), (vI x2)]) (S := []) gk dX9_outcome_17 gX9_89 (by decide) rfl w_1757 wp_25 ea2 t3 rfl rfl (Nat.le_of_ble_eq_true rfl) (by decide) h
  · have h := h.2 q1
    refine s_bipush (v := 99) dX9_outcome_9 (by decide) ?_
    refine s_goto (tgt := 52) dX9_outcome_11 (by decide) ?_
    exact s_ireturn dX9_outcome_52 rfl rfl (by decide) (by decide) h
theorem vX9_outcome_20 {G : GG} (gk : GOK G) {σ : Mm} {K : RES → Mm → Prop} {x0 : Option Nat} {x1 : Int32} {x2 : Int32} {s0 : Int32}
    (h : ((s0 = 0 → ∃ a2, x0 = some a2 ∧ (mt σ a2).1 = 10 ∧ Runs G mX9_echo rX9_echo [(vI x1), (vI x2)] σ (bk G mX9_outcome rX9_outcome 0 0 37 [some (vR x0), some (vI x1), some (vI x2)] [(vR (mr σ a2 0))] K)) ∧ (¬ s0 = 0 → K (.inl (some (vI (101 : Int32)))) σ))) : At G mX9_outcome rX9_outcome 0 0 20 [some (vR x0), some (vI x1), some (vI x2)] [(vI s0)] σ K := by
  refine s_if_eq (tgt := 28) dX9_outcome_20 (by decide) (fun q1 => ?_) (fun q1 => ?_)
  · have h := h.1 q1
    refine s_aload_n (i := 0) dX9_outcome_28 rfl rfl ?_
    obtain ⟨a2, ea2, h⟩ := h
    obtain ⟨t3, h⟩ := h
    refine t_getR gk dX9_outcome_29 fX9_9 rfl ea2 t3 ?_
    refine s_iload_n (i := 1) dX9_outcome_32 rfl rfl ?_
    refine s_iload_n (i := 2) dX9_outcome_33 rfl rfl ?_
    exact s_callS (as := [(vI x1), (vI x2)]) (S := [(vR (mr σ a2 0))]) gk dX9_outcome_34 gX9_66 w_1641 rfl rfl (Nat.le_of_ble_eq_true rfl) (by decide) h
  · have h := h.2 q1
    refine s_bipush (v := 101) dX9_outcome_23 (by decide) ?_
    refine s_goto (tgt := 52) dX9_outcome_25 (by decide) ?_
    exact s_ireturn dX9_outcome_52 rfl rfl (by decide) (by decide) h
theorem vX9_outcome_37 {G : GG} (gk : GOK G) {σ : Mm} {K : RES → Mm → Prop} {x0 : Option Nat} {x1 : Int32} {x2 : Int32} {s0 : Int32} {s1 : Option Nat}
    (h : ∃ a1, s1 = some a1 ∧ ∃ n3, mt σ a1 = (50, n3) ∧ vp_in (s0 + (6 : Int32)) n3 ∧ ((¬ (mi σ a1 (s0 + (6 : Int32)).toNatClampNeg) = (1 : Int32) → K (.inl (some (vI (104 : Int32)))) σ) ∧ ((mi σ a1 (s0 + (6 : Int32)).toNatClampNeg) = (1 : Int32) → K (.inl (some (vI (111 : Int32)))) σ))) : At G mX9_outcome rX9_outcome 0 0 37 [some (vR x0), some (vI x1), some (vI x2)] [(vI s0), (vR s1)] σ K := by
  refine s_bipush (v := 6) dX9_outcome_37 (by decide) ?_
  refine s_iadd dX9_outcome_39 ?_
  obtain ⟨a1, ea1, h⟩ := h
  obtain ⟨n3, t2, h⟩ := h
  obtain ⟨c4, h⟩ := h
  refine t_iald gk dX9_outcome_40 ea1 t2 c4 ?_
  refine s_iconst (v := 1) dX9_outcome_41 (by decide) ?_
  refine s_icmp_ne (tgt := 50) dX9_outcome_42 (by decide) (fun q5 => ?_) (fun q5 => ?_)
  · have h := h.1 q5
    refine s_bipush (v := 104) dX9_outcome_50 (by decide) ?_
    exact s_ireturn dX9_outcome_52 rfl rfl (by decide) (by decide) h
  · have h := h.2 q5
    refine s_bipush (v := 111) dX9_outcome_45 (by decide) ?_
    refine s_goto (tgt := 52) dX9_outcome_47 (by decide) ?_
    exact s_ireturn dX9_outcome_52 rfl rfl (by decide) (by decide) h
theorem vX9_doAddJar_0 {G : GG} (gk : GOK G) {σ : Mm} {K : RES → Mm → Prop} {x0 : Option Nat} {x1 : Int32} {x2 : Int32}
    (h : Runs G mX9_isLetter rX9_isLetter [(vI x1)] σ (bk G mX9_doAddJar rX9_doAddJar 0 0 4 [some (vR x0), some (vI x1), some (vI x2)] [] K)) : At G mX9_doAddJar rX9_doAddJar 0 0 0 [some (vR x0), some (vI x1), some (vI x2)] [] σ K := by
  refine s_iload_n (i := 1) dX9_doAddJar_0 rfl rfl ?_
  exact s_callS (as := [(vI x1)]) (S := []) gk dX9_doAddJar_1 gX9_55 w_1608 rfl rfl (Nat.le_of_ble_eq_true rfl) (by decide) h
theorem eX9_doAddJar {G : GG} (gk : GOK G) {σ : Mm} {K : RES → Mm → Prop} {x0 : Option Nat} {x1 : Int32} {x2 : Int32}
    (h : Runs G mX9_isLetter rX9_isLetter [(vI x1)] σ (bk G mX9_doAddJar rX9_doAddJar 0 0 4 [some (vR x0), some (vI x1), some (vI x2)] [] K)) : Runs G mX9_doAddJar rX9_doAddJar [(vR x0), (vI x1), (vI x2)] σ K := Runs.of (by decide) rfl (Nat.le_of_ble_eq_true rfl) (vX9_doAddJar_0 gk h)
theorem vX9_doAddJar_4 {G : GG} (gk : GOK G) {σ : Mm} {K : RES → Mm → Prop} {x0 : Option Nat} {x1 : Int32} {x2 : Int32} {s0 : Int32}
    (h : ((s0 = 0 → ∃ a2, x0 = some a2 ∧ (mt σ a2).1 = 10 ∧ Runs G mX9_fails rX9_fails [(vR x0), (vI (1 : Int32))] σ (bk G mX9_doAddJar rX9_doAddJar 0 0 22 [some (vR x0), some (vI x1), some (vI x2)] [] K)) ∧ (¬ s0 = 0 → Runs G mX9_in rX9_in [(vI x2), (vI (0 : Int32)), (vI (99 : Int32))] σ (bk G mX9_doAddJar rX9_doAddJar 0 0 14 [some (vR x0), some (vI x1), some (vI x2)] [] K)))) : At G mX9_doAddJar rX9_doAddJar 0 0 4 [some (vR x0), some (vI x1), some (vI x2)] [(vI s0)] σ K := by
  refine s_if_eq (tgt := 17) dX9_doAddJar_4 (by decide) (fun q1 => ?_) (fun q1 => ?_)
  · have h := h.1 q1
    refine s_aload_n (i := 0) dX9_doAddJar_17 rfl rfl ?_
    refine s_iconst (v := 1) dX9_doAddJar_18 (by decide) ?_
    obtain ⟨a2, ea2, h⟩ := h
    obtain ⟨t3, h⟩ := h
    exact t_callV (ci := 9) (as := [(vI (1 : Int32))]) (S := []) gk dX9_doAddJar_19 gX9_92 (by decide) rfl w_1615 wp_10 ea2 t3 rfl rfl (Nat.le_of_ble_eq_true rfl) (by decide) h
  · have h := h.2 q1
    refine s_iload_n (i := 2) dX9_doAddJar_7 rfl rfl ?_
    refine s_iconst (v := 0) dX9_doAddJar_8 (by decide) ?_
    refine s_bipush (v := 99) dX9_doAddJar_9 (by decide) ?_
    exact s_callS (as := [(vI x2), (vI (0 : Int32)), (vI (99 : Int32))]) (S := []) gk dX9_doAddJar_11 gX9_51 w_1611 rfl rfl (Nat.le_of_ble_eq_true rfl) (by decide) h
theorem vX9_doAddJar_14 {G : GG} (gk : GOK G) {σ : Mm} {K : RES → Mm → Prop} {x0 : Option Nat} {x1 : Int32} {x2 : Int32} {s0 : Int32}
    (h : ((¬ s0 = 0 → ∃ a2, x0 = some a2 ∧ (mt σ a2).1 = 10 ∧ Runs G mX9_jars rX9_jars [(vR x0)] σ (bk G mX9_doAddJar rX9_doAddJar 0 0 27 [some (vR x0), some (vI x1), some (vI x2)] [] K)) ∧ (s0 = 0 → ∃ a4, x0 = some a4 ∧ (mt σ a4).1 = 10 ∧ Runs G mX9_fails rX9_fails [(vR x0), (vI (1 : Int32))] σ (bk G mX9_doAddJar rX9_doAddJar 0 0 22 [some (vR x0), some (vI x1), some (vI x2)] [] K)))) : At G mX9_doAddJar rX9_doAddJar 0 0 14 [some (vR x0), some (vI x1), some (vI x2)] [(vI s0)] σ K := by
  refine s_if_ne (tgt := 23) dX9_doAddJar_14 (by decide) (fun q1 => ?_) (fun q1 => ?_)
  · have h := h.1 q1
    refine s_aload_n (i := 0) dX9_doAddJar_23 rfl rfl ?_
    obtain ⟨a2, ea2, h⟩ := h
    obtain ⟨t3, h⟩ := h
    exact t_callV (ci := 9) (as := []) (S := []) gk dX9_doAddJar_24 gX9_95 (by decide) rfl w_1619 wp_11 ea2 t3 rfl rfl (Nat.le_of_ble_eq_true rfl) (by decide) h
  · have h := h.2 q1
    refine s_aload_n (i := 0) dX9_doAddJar_17 rfl rfl ?_
    refine s_iconst (v := 1) dX9_doAddJar_18 (by decide) ?_
    obtain ⟨a4, ea4, h⟩ := h
    obtain ⟨t5, h⟩ := h
    exact t_callV (ci := 9) (as := [(vI (1 : Int32))]) (S := []) gk dX9_doAddJar_19 gX9_92 (by decide) rfl w_1615 wp_10 ea4 t5 rfl rfl (Nat.le_of_ble_eq_true rfl) (by decide) h
theorem vX9_doAddJar_22 {G : GG} (gk : GOK G) {σ : Mm} {K : RES → Mm → Prop} {x0 : Option Nat} {x1 : Int32} {x2 : Int32} {s0 : Int32}
    (h : K (.inl (some (vI s0))) σ) : At G mX9_doAddJar rX9_doAddJar 0 0 22 [some (vR x0), some (vI x1), some (vI x2)] [(vI s0)] σ K := by
  exact s_ireturn dX9_doAddJar_22 rfl rfl (by decide) (by decide) h
theorem vX9_doAddJar_27 {G : GG} (gk : GOK G) {σ : Mm} {K : RES → Mm → Prop} {x0 : Option Nat} {x1 : Int32} {x2 : Int32} {s0 : Int32}
    (h : ((s0 = (12 : Int32) → ∃ a2, x0 = some a2 ∧ (mt σ a2).1 = 10 ∧ Runs G mX9_fails rX9_fails [(vR x0), (vI (2 : Int32))] σ (bk G mX9_doAddJar rX9_doAddJar 0 0 45 [some (vR x0), some (vI x1), some (vI x2)] [] K)) ∧ (¬ s0 = (12 : Int32) → ∃ a4, x0 = some a4 ∧ (mt σ a4).1 = 10 ∧ Runs G mX9_isJar rX9_isJar [(vR x0), (vI x1)] σ (bk G mX9_doAddJar rX9_doAddJar 0 0 37 [some (vR x0), some (vI x1), some (vI x2)] [] K)))) : At G mX9_doAddJar rX9_doAddJar 0 0 27 [some (vR x0), some (vI x1), some (vI x2)] [(vI s0)] σ K := by
  refine s_bipush (v := 12) dX9_doAddJar_27 (by decide) ?_
  refine s_icmp_eq (tgt := 40) dX9_doAddJar_29 (by decide) (fun q1 => ?_) (fun q1 => ?_)
  · have h := h.1 q1
    refine s_aload_n (i := 0) dX9_doAddJar_40 rfl rfl ?_
    refine s_iconst (v := 2) dX9_doAddJar_41 (by decide) ?_
    obtain ⟨a2, ea2, h⟩ := h
    obtain ⟨t3, h⟩ := h
    exact t_callV (ci := 9) (as := [(vI (2 : Int32))]) (S := []) gk dX9_doAddJar_42 gX9_92 (by decide) rfl w_1615 wp_10 ea2 t3 rfl rfl (Nat.le_of_ble_eq_true rfl) (by decide) h
  · have h := h.2 q1
    refine s_aload_n (i := 0) dX9_doAddJar_32 rfl rfl ?_
    refine s_iload_n (i := 1) dX9_doAddJar_33 rfl rfl ?_
    obtain ⟨a4, ea4, h⟩ := h
    obtain ⟨t5, h⟩ := h
    exact t_callV (ci := 9) (as := [(vI x1)]) (S := []) gk dX9_doAddJar_34 gX9_63 (by decide) rfl w_1623 wp_12 ea4 t5 rfl rfl (Nat.le_of_ble_eq_true rfl) (by decide) h
theorem vX9_doAddJar_37 {G : GG} (gk : GOK G) {σ : Mm} {K : RES → Mm → Prop} {x0 : Option Nat} {x1 : Int32} {x2 : Int32} {s0 : Int32}
    (h : ((s0 = 0 → ∃ a2, x0 = some a2 ∧ (mt σ a2).1 = 10 ∧ Runs G mX9_jar rX9_jar [(vI x1)] σ (bk G mX9_doAddJar rX9_doAddJar 0 0 54 [some (vR x0), some (vI x1), some (vI x2)] [(vR (mr σ a2 0))] K)) ∧ (¬ s0 = 0 → ∃ a4, x0 = some a4 ∧ (mt σ a4).1 = 10 ∧ Runs G mX9_fails rX9_fails [(vR x0), (vI (2 : Int32))] σ (bk G mX9_doAddJar rX9_doAddJar 0 0 45 [some (vR x0), some (vI x1), some (vI x2)] [] K)))) : At G mX9_doAddJar rX9_doAddJar 0 0 37 [some (vR x0), some (vI x1), some (vI x2)] [(vI s0)] σ K := by
  refine s_if_eq (tgt := 46) dX9_doAddJar_37 (by decide) (fun q1 => ?_) (fun q1 => ?_)
  · have h := h.1 q1
    refine s_aload_n (i := 0) dX9_doAddJar_46 rfl rfl ?_
    obtain ⟨a2, ea2, h⟩ := h
    obtain ⟨t3, h⟩ := h
    refine t_getR gk dX9_doAddJar_47 fX9_9 rfl ea2 t3 ?_
    refine s_iload_n (i := 1) dX9_doAddJar_50 rfl rfl ?_
    exact s_callS (as := [(vI x1)]) (S := [(vR (mr σ a2 0))]) gk dX9_doAddJar_51 gX9_59 w_1626 rfl rfl (Nat.le_of_ble_eq_true rfl) (by decide) h
  · have h := h.2 q1
    refine s_aload_n (i := 0) dX9_doAddJar_40 rfl rfl ?_
    refine s_iconst (v := 2) dX9_doAddJar_41 (by decide) ?_
    obtain ⟨a4, ea4, h⟩ := h
    obtain ⟨t5, h⟩ := h
    exact t_callV (ci := 9) (as := [(vI (2 : Int32))]) (S := []) gk dX9_doAddJar_42 gX9_92 (by decide) rfl w_1615 wp_10 ea4 t5 rfl rfl (Nat.le_of_ble_eq_true rfl) (by decide) h
theorem vX9_doAddJar_45 {G : GG} (gk : GOK G) {σ : Mm} {K : RES → Mm → Prop} {x0 : Option Nat} {x1 : Int32} {x2 : Int32} {s0 : Int32}
    (h : K (.inl (some (vI s0))) σ) : At G mX9_doAddJar rX9_doAddJar 0 0 45 [some (vR x0), some (vI x1), some (vI x2)] [(vI s0)] σ K := by
  exact s_ireturn dX9_doAddJar_45 rfl rfl (by decide) (by decide) h
theorem vX9_doAddJar_54 {G : GG} (gk : GOK G) {σ : Mm} {K : RES → Mm → Prop} {x0 : Option Nat} {x1 : Int32} {x2 : Int32} {s0 : Int32} {s1 : Option Nat}
    (h : ∃ a1, s1 = some a1 ∧ ∃ n3, mt σ a1 = (50, n3) ∧ vp_in s0 n3 ∧ ∀ σ5, σ5 = si σ a1 s0.toNatClampNeg (1 : Int32) → ∃ a6, x0 = some a6 ∧ (mt σ a6).1 = 10 ∧ Runs G mX9_jar rX9_jar [(vI x1)] σ5 (bk G mX9_doAddJar rX9_doAddJar 0 0 64 [some (vR x0), some (vI x1), some (vI x2)] [(vR (mr σ5 a6 0))] K)) : At G mX9_doAddJar rX9_doAddJar 0 0 54 [some (vR x0), some (vI x1), some (vI x2)] [(vI s0), (vR s1)] σ K := by
  refine s_iconst (v := 1) dX9_doAddJar_54 (by decide) ?_
  obtain ⟨a1, ea1, h⟩ := h
  obtain ⟨n3, t2, h⟩ := h
  obtain ⟨c4, h⟩ := h
  refine t_iast gk dX9_doAddJar_55 ea1 t2 c4 (fun σ5 eσ5 mσ5 => ?_)
  replace h := h σ5 eσ5
  refine s_aload_n (i := 0) dX9_doAddJar_56 rfl rfl ?_
  obtain ⟨a6, ea6, h⟩ := h
  obtain ⟨t7, h⟩ := h
  refine t_getR gk dX9_doAddJar_57 fX9_9 rfl ea6 (by rw [mσ5]; exact t7) ?_
  refine s_iload_n (i := 1) dX9_doAddJar_60 rfl rfl ?_
  exact s_callS (as := [(vI x1)]) (S := [(vR (mr σ5 a6 0))]) gk dX9_doAddJar_61 gX9_59 w_1626 rfl rfl (Nat.le_of_ble_eq_true rfl) (by decide) h
theorem vX9_doAddJar_64 {G : GG} (gk : GOK G) {σ : Mm} {K : RES → Mm → Prop} {x0 : Option Nat} {x1 : Int32} {x2 : Int32} {s0 : Int32} {s1 : Option Nat}
    (h : ∃ a1, s1 = some a1 ∧ ∃ n3, mt σ a1 = (50, n3) ∧ vp_in (s0 + (1 : Int32)) n3 ∧ ∀ σ5, σ5 = si σ a1 (s0 + (1 : Int32)).toNatClampNeg x2 → ∃ a6, x0 = some a6 ∧ (mt σ a6).1 = 10 ∧ Runs G mX9_jar rX9_jar [(vI x1)] σ5 (bk G mX9_doAddJar rX9_doAddJar 0 0 76 [some (vR x0), some (vI x1), some (vI x2)] [(vR (mr σ5 a6 0))] K)) : At G mX9_doAddJar rX9_doAddJar 0 0 64 [some (vR x0), some (vI x1), some (vI x2)] [(vI s0), (vR s1)] σ K := by
  refine s_iconst (v := 1) dX9_doAddJar_64 (by decide) ?_
  refine s_iadd dX9_doAddJar_65 ?_
  refine s_iload_n (i := 2) dX9_doAddJar_66 rfl rfl ?_
  obtain ⟨a1, ea1, h⟩ := h
  obtain ⟨n3, t2, h⟩ := h
  obtain ⟨c4, h⟩ := h
  refine t_iast gk dX9_doAddJar_67 ea1 t2 c4 (fun σ5 eσ5 mσ5 => ?_)
  replace h := h σ5 eσ5
  refine s_aload_n (i := 0) dX9_doAddJar_68 rfl rfl ?_
  obtain ⟨a6, ea6, h⟩ := h
  obtain ⟨t7, h⟩ := h
  refine t_getR gk dX9_doAddJar_69 fX9_9 rfl ea6 (by rw [mσ5]; exact t7) ?_
  refine s_iload_n (i := 1) dX9_doAddJar_72 rfl rfl ?_
  exact s_callS (as := [(vI x1)]) (S := [(vR (mr σ5 a6 0))]) gk dX9_doAddJar_73 gX9_59 w_1626 rfl rfl (Nat.le_of_ble_eq_true rfl) (by decide) h
theorem vX9_doAddJar_76 {G : GG} (gk : GOK G) {σ : Mm} {K : RES → Mm → Prop} {x0 : Option Nat} {x1 : Int32} {x2 : Int32} {s0 : Int32} {s1 : Option Nat}
    (h : ∃ a1, x0 = some a1 ∧ (mt σ a1).1 = 10 ∧ ∃ a3, mr σ a1 0 = some a3 ∧ ∃ n5, mt σ a3 = (50, n5) ∧ vp_in (3 : Int32) n5 ∧ ∃ a7, s1 = some a7 ∧ ∃ n9, mt σ a7 = (50, n9) ∧ vp_in (s0 + (2 : Int32)) n9 ∧ ∀ σ11, σ11 = si σ a7 (s0 + (2 : Int32)).toNatClampNeg (mi σ a3 (3 : Int32).toNatClampNeg) → ∃ a12, mr σ11 a1 0 = some a12 ∧ ∃ n14, mt σ a12 = (50, n14) ∧ vp_in (3 : Int32) n14 ∧ vp_in (3 : Int32) n14 ∧ ∀ σ17, σ17 = si σ11 a12 (3 : Int32).toNatClampNeg ((mi σ11 a12 (3 : Int32).toNatClampNeg) + (1 : Int32)) → Runs G mX9_jars rX9_jars [(vR x0)] σ17 (bk G mX9_doAddJar rX9_doAddJar 0 0 99 [some (vR x0), some (vI x1), some (vI x2)] [] K)) : At G mX9_doAddJar rX9_doAddJar 0 0 76 [some (vR x0), some (vI x1), some (vI x2)] [(vI s0), (vR s1)] σ K := by
  refine s_iconst (v := 2) dX9_doAddJar_76 (by decide) ?_
  refine s_iadd dX9_doAddJar_77 ?_
  refine s_aload_n (i := 0) dX9_doAddJar_78 rfl rfl ?_
  obtain ⟨a1, ea1, h⟩ := h
  obtain ⟨t2, h⟩ := h
  refine t_getR gk dX9_doAddJar_79 fX9_9 rfl ea1 t2 ?_
  refine s_iconst (v := 3) dX9_doAddJar_82 (by decide) ?_
  obtain ⟨a3, ea3, h⟩ := h
  obtain ⟨n5, t4, h⟩ := h
  obtain ⟨c6, h⟩ := h
  refine t_iald gk dX9_doAddJar_83 ea3 t4 c6 ?_
  obtain ⟨a7, ea7, h⟩ := h
  obtain ⟨n9, t8, h⟩ := h
  obtain ⟨c10, h⟩ := h
  refine t_iast gk dX9_doAddJar_84 ea7 t8 c10 (fun σ11 eσ11 mσ11 => ?_)
  replace h := h σ11 eσ11
  refine s_aload_n (i := 0) dX9_doAddJar_85 rfl rfl ?_
  refine t_getR gk dX9_doAddJar_86 fX9_9 rfl ea1 (by rw [mσ11]; exact t2) ?_
  refine s_iconst (v := 3) dX9_doAddJar_89 (by decide) ?_
  refine s_dup2 dX9_doAddJar_90 rfl rfl ?_
  obtain ⟨a12, ea12, h⟩ := h
  obtain ⟨n14, t13, h⟩ := h
  obtain ⟨c15, h⟩ := h
  refine t_iald gk dX9_doAddJar_91 ea12 (by rw [mσ11]; exact t13) c15 ?_
  refine s_iconst (v := 1) dX9_doAddJar_92 (by decide) ?_
  refine s_iadd dX9_doAddJar_93 ?_
  obtain ⟨c16, h⟩ := h
  refine t_iast gk dX9_doAddJar_94 ea12 (by rw [mσ11]; exact t13) c16 (fun σ17 eσ17 mσ17 => ?_)
  replace h := h σ17 eσ17
  refine s_aload_n (i := 0) dX9_doAddJar_95 rfl rfl ?_
  exact t_callV (ci := 9) (as := []) (S := []) gk dX9_doAddJar_96 gX9_95 (by decide) rfl w_1619 wp_11 ea1 (by rw [mσ17, mσ11]; exact t2) rfl rfl (Nat.le_of_ble_eq_true rfl) (by decide) h
theorem vX9_doAddJar_99 {G : GG} (gk : GOK G) {σ : Mm} {K : RES → Mm → Prop} {x0 : Option Nat} {x1 : Int32} {x2 : Int32} {s0 : Int32}
    (h : K (.inl (some (vI s0))) σ) : At G mX9_doAddJar rX9_doAddJar 0 0 99 [some (vR x0), some (vI x1), some (vI x2)] [(vI s0)] σ K := by
  exact s_ireturn dX9_doAddJar_99 rfl rfl (by decide) (by decide) h
theorem vX9_addJar_0 {G : GG} (gk : GOK G) {σ : Mm} {K : RES → Mm → Prop} {x0 : Option Nat} {x1 : Int32} {x2 : Int32}
    (h : ∃ a1, x0 = some a1 ∧ (mt σ a1).1 = 10 ∧ Runs G mX9_keep rX9_keep [(vR x0)] σ (bk G mX9_addJar rX9_addJar 0 0 4 [some (vR x0), some (vI x1), some (vI x2)] [] K)) : At G mX9_addJar rX9_addJar 0 0 0 [some (vR x0), some (vI x1), some (vI x2)] [] σ K := by
  refine s_aload_n (i := 0) dX9_addJar_0 rfl rfl ?_
  obtain ⟨a1, ea1, h⟩ := h
  obtain ⟨t2, h⟩ := h
  exact t_callV (ci := 9) (as := []) (S := []) gk dX9_addJar_1 gX9_99 (by decide) rfl w_1600 wp_8 ea1 t2 rfl rfl (Nat.le_of_ble_eq_true rfl) (by decide) h
theorem eX9_addJar {G : GG} (gk : GOK G) {σ : Mm} {K : RES → Mm → Prop} {x0 : Option Nat} {x1 : Int32} {x2 : Int32}
    (h : ∃ a1, x0 = some a1 ∧ (mt σ a1).1 = 10 ∧ Runs G mX9_keep rX9_keep [(vR x0)] σ (bk G mX9_addJar rX9_addJar 0 0 4 [some (vR x0), some (vI x1), some (vI x2)] [] K)) : Runs G mX9_addJar rX9_addJar [(vR x0), (vI x1), (vI x2)] σ K := Runs.of (by decide) rfl (Nat.le_of_ble_eq_true rfl) (vX9_addJar_0 gk h)
theorem vX9_addJar_4 {G : GG} (gk : GOK G) {σ : Mm} {K : RES → Mm → Prop} {x0 : Option Nat} {x1 : Int32} {x2 : Int32}
    (h : ∃ a1, x0 = some a1 ∧ (mt σ a1).1 = 10 ∧ Runs G mX9_doAddJar rX9_doAddJar [(vR x0), (vI x1), (vI x2)] σ (bk G mX9_addJar rX9_addJar 0 0 11 [some (vR x0), some (vI x1), some (vI x2)] [(vR x0)] K)) : At G mX9_addJar rX9_addJar 0 0 4 [some (vR x0), some (vI x1), some (vI x2)] [] σ K := by
  refine s_aload_n (i := 0) dX9_addJar_4 rfl rfl ?_
  refine s_aload_n (i := 0) dX9_addJar_5 rfl rfl ?_
  refine s_iload_n (i := 1) dX9_addJar_6 rfl rfl ?_
  refine s_iload_n (i := 2) dX9_addJar_7 rfl rfl ?_
  obtain ⟨a1, ea1, h⟩ := h
  obtain ⟨t2, h⟩ := h
  exact t_callV (ci := 9) (as := [(vI x1), (vI x2)]) (S := [(vR x0)]) gk dX9_addJar_8 gX9_102 (by decide) rfl w_1605 wp_9 ea1 t2 rfl rfl (Nat.le_of_ble_eq_true rfl) (by decide) h
theorem vX9_addJar_11 {G : GG} (gk : GOK G) {σ : Mm} {K : RES → Mm → Prop} {x0 : Option Nat} {x1 : Int32} {x2 : Int32} {s0 : Int32} {s1 : Option Nat}
    (h : ∃ a1, s1 = some a1 ∧ (mt σ a1).1 = 10 ∧ Runs G mX9_ends rX9_ends [(vR s1), (vI s0)] σ (bk G mX9_addJar rX9_addJar 0 0 14 [some (vR x0), some (vI x1), some (vI x2)] [] K)) : At G mX9_addJar rX9_addJar 0 0 11 [some (vR x0), some (vI x1), some (vI x2)] [(vI s0), (vR s1)] σ K := by
  obtain ⟨a1, ea1, h⟩ := h
  obtain ⟨t2, h⟩ := h
  exact t_callV (ci := 9) (as := [(vI s0)]) (S := []) gk dX9_addJar_11 gX9_105 (by decide) rfl w_1630 wp_13 ea1 t2 rfl rfl (Nat.le_of_ble_eq_true rfl) (by decide) h
theorem vX9_addJar_14 {G : GG} (gk : GOK G) {σ : Mm} {K : RES → Mm → Prop} {x0 : Option Nat} {x1 : Int32} {x2 : Int32} {s0 : Int32}
    (h : K (.inl (some (vI s0))) σ) : At G mX9_addJar rX9_addJar 0 0 14 [some (vR x0), some (vI x1), some (vI x2)] [(vI s0)] σ K := by
  exact s_ireturn dX9_addJar_14 rfl rfl (by decide) (by decide) h
theorem vX9_doRemoveJar_0 {G : GG} (gk : GOK G) {σ : Mm} {K : RES → Mm → Prop} {x0 : Option Nat} {x1 : Int32}
    (h : ∃ a1, x0 = some a1 ∧ (mt σ a1).1 = 10 ∧ Runs G mX9_isJar rX9_isJar [(vR x0), (vI x1)] σ (bk G mX9_doRemoveJar rX9_doRemoveJar 0 0 5 [some (vR x0), some (vI x1), none, none] [] K)) : At G mX9_doRemoveJar rX9_doRemoveJar 0 0 0 [some (vR x0), some (vI x1), none, none] [] σ K := by
  refine s_aload_n (i := 0) dX9_doRemoveJar_0 rfl rfl ?_
  refine s_iload_n (i := 1) dX9_doRemoveJar_1 rfl rfl ?_
  obtain ⟨a1, ea1, h⟩ := h
  obtain ⟨t2, h⟩ := h
  exact t_callV (ci := 9) (as := [(vI x1)]) (S := []) gk dX9_doRemoveJar_2 gX9_63 (by decide) rfl w_1623 wp_12 ea1 t2 rfl rfl (Nat.le_of_ble_eq_true rfl) (by decide) h
theorem eX9_doRemoveJar {G : GG} (gk : GOK G) {σ : Mm} {K : RES → Mm → Prop} {x0 : Option Nat} {x1 : Int32}
    (h : ∃ a1, x0 = some a1 ∧ (mt σ a1).1 = 10 ∧ Runs G mX9_isJar rX9_isJar [(vR x0), (vI x1)] σ (bk G mX9_doRemoveJar rX9_doRemoveJar 0 0 5 [some (vR x0), some (vI x1), none, none] [] K)) : Runs G mX9_doRemoveJar rX9_doRemoveJar [(vR x0), (vI x1)] σ K := Runs.of (by decide) rfl (Nat.le_of_ble_eq_true rfl) (vX9_doRemoveJar_0 gk h)
theorem vX9_doRemoveJar_5 {G : GG} (gk : GOK G) {σ : Mm} {K : RES → Mm → Prop} {x0 : Option Nat} {x1 : Int32} {s0 : Int32}
    (h : ((¬ s0 = 0 → ∃ a2, x0 = some a2 ∧ (mt σ a2).1 = 10 ∧ Runs G mX9_jar rX9_jar [(vI x1)] σ (bk G mX9_doRemoveJar rX9_doRemoveJar 0 0 24 [some (vR x0), some (vI x1), some (vI (0 : Int32)), none] [(vR (mr σ a2 0))] K)) ∧ (s0 = 0 → ∃ a4, x0 = some a4 ∧ (mt σ a4).1 = 10 ∧ Runs G mX9_fails rX9_fails [(vR x0), (vI (1 : Int32))] σ (bk G mX9_doRemoveJar rX9_doRemoveJar 0 0 13 [some (vR x0), some (vI x1), none, none] [] K)))) : At G mX9_doRemoveJar rX9_doRemoveJar 0 0 5 [some (vR x0), some (vI x1), none, none] [(vI s0)] σ K := by
  refine s_if_ne (tgt := 14) dX9_doRemoveJar_5 (by decide) (fun q1 => ?_) (fun q1 => ?_)
  · have h := h.1 q1
    refine s_iconst (v := 0) dX9_doRemoveJar_14 (by decide) ?_
    refine s_istore_n (i := 2) (L' := [some (vR x0), some (vI x1), some (vI (0 : Int32)), none]) dX9_doRemoveJar_15 rfl rfl (by decide) rfl ?_
    refine s_aload_n (i := 0) dX9_doRemoveJar_16 rfl rfl ?_
    obtain ⟨a2, ea2, h⟩ := h
    obtain ⟨t3, h⟩ := h
    refine t_getR gk dX9_doRemoveJar_17 fX9_9 rfl ea2 t3 ?_
    refine s_iload_n (i := 1) dX9_doRemoveJar_20 rfl rfl ?_
    exact s_callS (as := [(vI x1)]) (S := [(vR (mr σ a2 0))]) gk dX9_doRemoveJar_21 gX9_59 w_1626 rfl rfl (Nat.le_of_ble_eq_true rfl) (by decide) h
  · have h := h.2 q1
    refine s_aload_n (i := 0) dX9_doRemoveJar_8 rfl rfl ?_
    refine s_iconst (v := 1) dX9_doRemoveJar_9 (by decide) ?_
    obtain ⟨a4, ea4, h⟩ := h
    obtain ⟨t5, h⟩ := h
    exact t_callV (ci := 9) (as := [(vI (1 : Int32))]) (S := []) gk dX9_doRemoveJar_10 gX9_92 (by decide) rfl w_1615 wp_10 ea4 t5 rfl rfl (Nat.le_of_ble_eq_true rfl) (by decide) h
theorem vX9_doRemoveJar_13 {G : GG} (gk : GOK G) {σ : Mm} {K : RES → Mm → Prop} {x0 : Option Nat} {x1 : Int32} {s0 : Int32}
    (h : K (.inl (some (vI s0))) σ) : At G mX9_doRemoveJar rX9_doRemoveJar 0 0 13 [some (vR x0), some (vI x1), none, none] [(vI s0)] σ K := by
  exact s_ireturn dX9_doRemoveJar_13 rfl rfl (by decide) (by decide) h
theorem vX9_doRemoveJar_24 {G : GG} (gk : GOK G) {σ : Mm} {K : RES → Mm → Prop} {x0 : Option Nat} {x1 : Int32} {x2 : Int32} {s0 : Int32} {s1 : Option Nat}
    (h : ∃ a1, s1 = some a1 ∧ ∃ n3, mt σ a1 = (50, n3) ∧ vp_in s0 n3 ∧ ∀ σ5, σ5 = si σ a1 s0.toNatClampNeg (0 : Int32) → At G mX9_doRemoveJar rX9_doRemoveJar 0 0 28 [some (vR x0), some (vI x1), some (vI x2), some (vI (0 : Int32))] [] σ5 K) : At G mX9_doRemoveJar rX9_doRemoveJar 0 0 24 [some (vR x0), some (vI x1), some (vI x2), none] [(vI s0), (vR s1)] σ K := by
  refine s_iconst (v := 0) dX9_doRemoveJar_24 (by decide) ?_
  obtain ⟨a1, ea1, h⟩ := h
  obtain ⟨n3, t2, h⟩ := h
  obtain ⟨c4, h⟩ := h
  refine t_iast gk dX9_doRemoveJar_25 ea1 t2 c4 (fun σ5 eσ5 mσ5 => ?_)
  replace h := h σ5 eσ5
  refine s_iconst (v := 0) dX9_doRemoveJar_26 (by decide) ?_
  refine s_istore_n (i := 3) (L' := [some (vR x0), some (vI x1), some (vI x2), some (vI (0 : Int32))]) dX9_doRemoveJar_27 rfl rfl (by decide) rfl ?_
  exact h
theorem vX9_doRemoveJar_28 {G : GG} (gk : GOK G) {σ : Mm} {K : RES → Mm → Prop} {x0 : Option Nat} {x1 : Int32} {x2 : Int32} {x3 : Int32}
    (h : ∃ a1, x0 = some a1 ∧ (mt σ a1).1 = 10 ∧ ∃ a3, mr σ a1 0 = some a3 ∧ ∃ n5, mt σ a3 = (50, n5) ∧ vp_in (0 : Int32) n5 ∧ (((mi σ a3 (0 : Int32).toNatClampNeg) ≤ x3 → K (.inl (some (vI x2))) σ) ∧ (¬ (mi σ a3 (0 : Int32).toNatClampNeg) ≤ x3 → Runs G mX9_echo rX9_echo [(vI x3), (vI x1)] σ (bk G mX9_doRemoveJar rX9_doRemoveJar 0 0 48 [some (vR x0), some (vI x1), some (vI x2), some (vI x3)] [(vR (mr σ a1 0)), (vI x2)] K)))) : At G mX9_doRemoveJar rX9_doRemoveJar 0 0 28 [some (vR x0), some (vI x1), some (vI x2), some (vI x3)] [] σ K := by
  refine s_iload_n (i := 3) dX9_doRemoveJar_28 rfl rfl ?_
  refine s_aload_n (i := 0) dX9_doRemoveJar_29 rfl rfl ?_
  obtain ⟨a1, ea1, h⟩ := h
  obtain ⟨t2, h⟩ := h
  refine t_getR gk dX9_doRemoveJar_30 fX9_9 rfl ea1 t2 ?_
  refine s_iconst (v := 0) dX9_doRemoveJar_33 (by decide) ?_
  obtain ⟨a3, ea3, h⟩ := h
  obtain ⟨n5, t4, h⟩ := h
  obtain ⟨c6, h⟩ := h
  refine t_iald gk dX9_doRemoveJar_34 ea3 t4 c6 ?_
  refine s_icmp_ge (tgt := 68) dX9_doRemoveJar_35 (by decide) (fun q7 => ?_) (fun q7 => ?_)
  · have h := h.1 q7
    refine s_iload_n (i := 2) dX9_doRemoveJar_68 rfl rfl ?_
    exact s_ireturn dX9_doRemoveJar_69 rfl rfl (by decide) (by decide) h
  · have h := h.2 q7
    refine s_iload_n (i := 2) dX9_doRemoveJar_38 rfl rfl ?_
    refine s_aload_n (i := 0) dX9_doRemoveJar_39 rfl rfl ?_
    refine t_getR gk dX9_doRemoveJar_40 fX9_9 rfl ea1 t2 ?_
    refine s_iload_n (i := 3) dX9_doRemoveJar_43 rfl rfl ?_
    refine s_iload_n (i := 1) dX9_doRemoveJar_44 rfl rfl ?_
    exact s_callS (as := [(vI x3), (vI x1)]) (S := [(vR (mr σ a1 0)), (vI x2)]) gk dX9_doRemoveJar_45 gX9_66 w_1641 rfl rfl (Nat.le_of_ble_eq_true rfl) (by decide) h
theorem vX9_doRemoveJar_48 {G : GG} (gk : GOK G) {σ : Mm} {K : RES → Mm → Prop} {x0 : Option Nat} {x1 : Int32} {x2 : Int32} {x3 : Int32} {s0 : Int32} {s1 : Option Nat} {s2 : Int32}
    (h : ∃ a1, s1 = some a1 ∧ ∃ n3, mt σ a1 = (50, n3) ∧ vp_in s0 n3 ∧ ∃ a5, x0 = some a5 ∧ (mt σ a5).1 = 10 ∧ Runs G mX9_echo rX9_echo [(vI x3), (vI x1)] σ (bk G mX9_doRemoveJar rX9_doRemoveJar 0 0 60 [some (vR x0), some (vI x1), some (vI (s2 + (mi σ a1 s0.toNatClampNeg))), some (vI x3)] [(vR (mr σ a5 0))] K)) : At G mX9_doRemoveJar rX9_doRemoveJar 0 0 48 [some (vR x0), some (vI x1), some (vI x2), some (vI x3)] [(vI s0), (vR s1), (vI s2)] σ K := by
  obtain ⟨a1, ea1, h⟩ := h
  obtain ⟨n3, t2, h⟩ := h
  obtain ⟨c4, h⟩ := h
  refine t_iald gk dX9_doRemoveJar_48 ea1 t2 c4 ?_
  refine s_iadd dX9_doRemoveJar_49 ?_
  refine s_istore_n (i := 2) (L' := [some (vR x0), some (vI x1), some (vI (s2 + (mi σ a1 s0.toNatClampNeg))), some (vI x3)]) dX9_doRemoveJar_50 rfl rfl (by decide) rfl ?_
  refine s_aload_n (i := 0) dX9_doRemoveJar_51 rfl rfl ?_
  obtain ⟨a5, ea5, h⟩ := h
  obtain ⟨t6, h⟩ := h
  refine t_getR gk dX9_doRemoveJar_52 fX9_9 rfl ea5 t6 ?_
  refine s_iload_n (i := 3) dX9_doRemoveJar_55 rfl rfl ?_
  refine s_iload_n (i := 1) dX9_doRemoveJar_56 rfl rfl ?_
  exact s_callS (as := [(vI x3), (vI x1)]) (S := [(vR (mr σ a5 0))]) gk dX9_doRemoveJar_57 gX9_66 w_1641 rfl rfl (Nat.le_of_ble_eq_true rfl) (by decide) h
theorem vX9_doRemoveJar_60 {G : GG} (gk : GOK G) {σ : Mm} {K : RES → Mm → Prop} {x0 : Option Nat} {x1 : Int32} {x2 : Int32} {x3 : Int32} {s0 : Int32} {s1 : Option Nat}
    (h : ∃ a1, s1 = some a1 ∧ ∃ n3, mt σ a1 = (50, n3) ∧ vp_in s0 n3 ∧ ∀ σ5, σ5 = si σ a1 s0.toNatClampNeg (0 : Int32) → At G mX9_doRemoveJar rX9_doRemoveJar 0 0 28 [some (vR x0), some (vI x1), some (vI x2), some (vI (x3 + 1))] [] σ5 K) : At G mX9_doRemoveJar rX9_doRemoveJar 0 0 60 [some (vR x0), some (vI x1), some (vI x2), some (vI x3)] [(vI s0), (vR s1)] σ K := by
  refine s_iconst (v := 0) dX9_doRemoveJar_60 (by decide) ?_
  obtain ⟨a1, ea1, h⟩ := h
  obtain ⟨n3, t2, h⟩ := h
  obtain ⟨c4, h⟩ := h
  refine t_iast gk dX9_doRemoveJar_61 ea1 t2 c4 (fun σ5 eσ5 mσ5 => ?_)
  replace h := h σ5 eσ5
  refine s_iinc (v := x3 + 1) (L' := [some (vR x0), some (vI x1), some (vI x2), some (vI (x3 + 1))]) dX9_doRemoveJar_62 rfl rfl rfl (by decide) rfl ?_
  refine s_goto (tgt := 28) dX9_doRemoveJar_65 (by decide) ?_
  exact h
theorem vX9_removeJar_0 {G : GG} (gk : GOK G) {σ : Mm} {K : RES → Mm → Prop} {x0 : Option Nat} {x1 : Int32}
    (h : ∃ a1, x0 = some a1 ∧ (mt σ a1).1 = 10 ∧ Runs G mX9_keep rX9_keep [(vR x0)] σ (bk G mX9_removeJar rX9_removeJar 0 0 4 [some (vR x0), some (vI x1)] [] K)) : At G mX9_removeJar rX9_removeJar 0 0 0 [some (vR x0), some (vI x1)] [] σ K := by
  refine s_aload_n (i := 0) dX9_removeJar_0 rfl rfl ?_
  obtain ⟨a1, ea1, h⟩ := h
  obtain ⟨t2, h⟩ := h
  exact t_callV (ci := 9) (as := []) (S := []) gk dX9_removeJar_1 gX9_99 (by decide) rfl w_1600 wp_8 ea1 t2 rfl rfl (Nat.le_of_ble_eq_true rfl) (by decide) h
theorem eX9_removeJar {G : GG} (gk : GOK G) {σ : Mm} {K : RES → Mm → Prop} {x0 : Option Nat} {x1 : Int32}
    (h : ∃ a1, x0 = some a1 ∧ (mt σ a1).1 = 10 ∧ Runs G mX9_keep rX9_keep [(vR x0)] σ (bk G mX9_removeJar rX9_removeJar 0 0 4 [some (vR x0), some (vI x1)] [] K)) : Runs G mX9_removeJar rX9_removeJar [(vR x0), (vI x1)] σ K := Runs.of (by decide) rfl (Nat.le_of_ble_eq_true rfl) (vX9_removeJar_0 gk h)
theorem vX9_removeJar_4 {G : GG} (gk : GOK G) {σ : Mm} {K : RES → Mm → Prop} {x0 : Option Nat} {x1 : Int32}
    (h : ∃ a1, x0 = some a1 ∧ (mt σ a1).1 = 10 ∧ Runs G mX9_doRemoveJar rX9_doRemoveJar [(vR x0), (vI x1)] σ (bk G mX9_removeJar rX9_removeJar 0 0 10 [some (vR x0), some (vI x1)] [(vR x0)] K)) : At G mX9_removeJar rX9_removeJar 0 0 4 [some (vR x0), some (vI x1)] [] σ K := by
  refine s_aload_n (i := 0) dX9_removeJar_4 rfl rfl ?_
  refine s_aload_n (i := 0) dX9_removeJar_5 rfl rfl ?_
  refine s_iload_n (i := 1) dX9_removeJar_6 rfl rfl ?_
  obtain ⟨a1, ea1, h⟩ := h
  obtain ⟨t2, h⟩ := h
  exact t_callV (ci := 9) (as := [(vI x1)]) (S := [(vR x0)]) gk dX9_removeJar_7 gX9_108 (by decide) rfl w_1638 wp_14 ea1 t2 rfl rfl (Nat.le_of_ble_eq_true rfl) (by decide) h
theorem vX9_removeJar_10 {G : GG} (gk : GOK G) {σ : Mm} {K : RES → Mm → Prop} {x0 : Option Nat} {x1 : Int32} {s0 : Int32} {s1 : Option Nat}
    (h : ∃ a1, s1 = some a1 ∧ (mt σ a1).1 = 10 ∧ Runs G mX9_ends rX9_ends [(vR s1), (vI s0)] σ (bk G mX9_removeJar rX9_removeJar 0 0 13 [some (vR x0), some (vI x1)] [] K)) : At G mX9_removeJar rX9_removeJar 0 0 10 [some (vR x0), some (vI x1)] [(vI s0), (vR s1)] σ K := by
  obtain ⟨a1, ea1, h⟩ := h
  obtain ⟨t2, h⟩ := h
  exact t_callV (ci := 9) (as := [(vI s0)]) (S := []) gk dX9_removeJar_10 gX9_105 (by decide) rfl w_1630 wp_13 ea1 t2 rfl rfl (Nat.le_of_ble_eq_true rfl) (by decide) h
theorem vX9_removeJar_13 {G : GG} (gk : GOK G) {σ : Mm} {K : RES → Mm → Prop} {x0 : Option Nat} {x1 : Int32} {s0 : Int32}
    (h : K (.inl (some (vI s0))) σ) : At G mX9_removeJar rX9_removeJar 0 0 13 [some (vR x0), some (vI x1)] [(vI s0)] σ K := by
  exact s_ireturn dX9_removeJar_13 rfl rfl (by decide) (by decide) h
theorem vX9_doSay_0 {G : GG} (gk : GOK G) {σ : Mm} {K : RES → Mm → Prop} {x0 : Option Nat} {x1 : Int32} {x2 : Int32}
    (h : ∃ a1, x0 = some a1 ∧ (mt σ a1).1 = 10 ∧ Runs G mX9_isJar rX9_isJar [(vR x0), (vI x1)] σ (bk G mX9_doSay rX9_doSay 0 0 5 [some (vR x0), some (vI x1), some (vI x2), none, none, none, none] [] K)) : At G mX9_doSay rX9_doSay 0 0 0 [some (vR x0), some (vI x1), some (vI x2), none, none, none, none] [] σ K := by
  refine s_aload_n (i := 0) dX9_doSay_0 rfl rfl ?_
  refine s_iload_n (i := 1) dX9_doSay_1 rfl rfl ?_
  obtain ⟨a1, ea1, h⟩ := h
  obtain ⟨t2, h⟩ := h
  exact t_callV (ci := 9) (as := [(vI x1)]) (S := []) gk dX9_doSay_2 gX9_63 (by decide) rfl w_1623 wp_12 ea1 t2 rfl rfl (Nat.le_of_ble_eq_true rfl) (by decide) h
theorem eX9_doSay {G : GG} (gk : GOK G) {σ : Mm} {K : RES → Mm → Prop} {x0 : Option Nat} {x1 : Int32} {x2 : Int32}
    (h : ∃ a1, x0 = some a1 ∧ (mt σ a1).1 = 10 ∧ Runs G mX9_isJar rX9_isJar [(vR x0), (vI x1)] σ (bk G mX9_doSay rX9_doSay 0 0 5 [some (vR x0), some (vI x1), some (vI x2), none, none, none, none] [] K)) : Runs G mX9_doSay rX9_doSay [(vR x0), (vI x1), (vI x2)] σ K := Runs.of (by decide) rfl (Nat.le_of_ble_eq_true rfl) (vX9_doSay_0 gk h)
theorem vX9_doSay_5 {G : GG} (gk : GOK G) {σ : Mm} {K : RES → Mm → Prop} {x0 : Option Nat} {x1 : Int32} {x2 : Int32} {s0 : Int32}
    (h : ((¬ s0 = 0 → Runs G mX9_in rX9_in [(vI x2), (vI (0 : Int32)), (vI (99 : Int32))] σ (bk G mX9_doSay rX9_doSay 0 0 21 [some (vR x0), some (vI x1), some (vI x2), none, none, none, none] [] K)) ∧ (s0 = 0 → ∃ a2, x0 = some a2 ∧ (mt σ a2).1 = 10 ∧ Runs G mX9_fails rX9_fails [(vR x0), (vI (1 : Int32))] σ (bk G mX9_doSay rX9_doSay 0 0 13 [some (vR x0), some (vI x1), some (vI x2), none, none, none, none] [] K)))) : At G mX9_doSay rX9_doSay 0 0 5 [some (vR x0), some (vI x1), some (vI x2), none, none, none, none] [(vI s0)] σ K := by
  refine s_if_ne (tgt := 14) dX9_doSay_5 (by decide) (fun q1 => ?_) (fun q1 => ?_)
  · have h := h.1 q1
    refine s_iload_n (i := 2) dX9_doSay_14 rfl rfl ?_
    refine s_iconst (v := 0) dX9_doSay_15 (by decide) ?_
    refine s_bipush (v := 99) dX9_doSay_16 (by decide) ?_
    exact s_callS (as := [(vI x2), (vI (0 : Int32)), (vI (99 : Int32))]) (S := []) gk dX9_doSay_18 gX9_51 w_1611 rfl rfl (Nat.le_of_ble_eq_true rfl) (by decide) h
  · have h := h.2 q1
    refine s_aload_n (i := 0) dX9_doSay_8 rfl rfl ?_
    refine s_iconst (v := 1) dX9_doSay_9 (by decide) ?_
    obtain ⟨a2, ea2, h⟩ := h
    obtain ⟨t3, h⟩ := h
    exact t_callV (ci := 9) (as := [(vI (1 : Int32))]) (S := []) gk dX9_doSay_10 gX9_92 (by decide) rfl w_1615 wp_10 ea2 t3 rfl rfl (Nat.le_of_ble_eq_true rfl) (by decide) h
theorem vX9_doSay_13 {G : GG} (gk : GOK G) {σ : Mm} {K : RES → Mm → Prop} {x0 : Option Nat} {x1 : Int32} {x2 : Int32} {s0 : Int32}
    (h : K (.inl (some (vI s0))) σ) : At G mX9_doSay rX9_doSay 0 0 13 [some (vR x0), some (vI x1), some (vI x2), none, none, none, none] [(vI s0)] σ K := by
  exact s_ireturn dX9_doSay_13 rfl rfl (by decide) (by decide) h
theorem vX9_doSay_21 {G : GG} (gk : GOK G) {σ : Mm} {K : RES → Mm → Prop} {x0 : Option Nat} {x1 : Int32} {x2 : Int32} {s0 : Int32}
    (h : ((¬ s0 = 0 → ∃ a2, x0 = some a2 ∧ (mt σ a2).1 = 10 ∧ Runs G mX9_jar rX9_jar [(vI x1)] σ (bk G mX9_doSay rX9_doSay 0 0 40 [some (vR x0), some (vI x1), some (vI x2), some (vI (0 : Int32)), none, none, none] [(vR (mr σ a2 0))] K)) ∧ (s0 = 0 → ∃ a4, x0 = some a4 ∧ (mt σ a4).1 = 10 ∧ Runs G mX9_fails rX9_fails [(vR x0), (vI (2 : Int32))] σ (bk G mX9_doSay rX9_doSay 0 0 29 [some (vR x0), some (vI x1), some (vI x2), none, none, none, none] [] K)))) : At G mX9_doSay rX9_doSay 0 0 21 [some (vR x0), some (vI x1), some (vI x2), none, none, none, none] [(vI s0)] σ K := by
  refine s_if_ne (tgt := 30) dX9_doSay_21 (by decide) (fun q1 => ?_) (fun q1 => ?_)
  · have h := h.1 q1
    refine s_iconst (v := 0) dX9_doSay_30 (by decide) ?_
    refine s_istore_n (i := 3) (L' := [some (vR x0), some (vI x1), some (vI x2), some (vI (0 : Int32)), none, none, none]) dX9_doSay_31 rfl rfl (by decide) rfl ?_
    refine s_aload_n (i := 0) dX9_doSay_32 rfl rfl ?_
    obtain ⟨a2, ea2, h⟩ := h
    obtain ⟨t3, h⟩ := h
    refine t_getR gk dX9_doSay_33 fX9_9 rfl ea2 t3 ?_
    refine s_iload_n (i := 1) dX9_doSay_36 rfl rfl ?_
    exact s_callS (as := [(vI x1)]) (S := [(vR (mr σ a2 0))]) gk dX9_doSay_37 gX9_59 w_1626 rfl rfl (Nat.le_of_ble_eq_true rfl) (by decide) h
  · have h := h.2 q1
    refine s_aload_n (i := 0) dX9_doSay_24 rfl rfl ?_
    refine s_iconst (v := 2) dX9_doSay_25 (by decide) ?_
    obtain ⟨a4, ea4, h⟩ := h
    obtain ⟨t5, h⟩ := h
    exact t_callV (ci := 9) (as := [(vI (2 : Int32))]) (S := []) gk dX9_doSay_26 gX9_92 (by decide) rfl w_1615 wp_10 ea4 t5 rfl rfl (Nat.le_of_ble_eq_true rfl) (by decide) h
theorem vX9_doSay_29 {G : GG} (gk : GOK G) {σ : Mm} {K : RES → Mm → Prop} {x0 : Option Nat} {x1 : Int32} {x2 : Int32} {s0 : Int32}
    (h : K (.inl (some (vI s0))) σ) : At G mX9_doSay rX9_doSay 0 0 29 [some (vR x0), some (vI x1), some (vI x2), none, none, none, none] [(vI s0)] σ K := by
  exact s_ireturn dX9_doSay_29 rfl rfl (by decide) (by decide) h
theorem vX9_doSay_40 {G : GG} (gk : GOK G) {σ : Mm} {K : RES → Mm → Prop} {x0 : Option Nat} {x1 : Int32} {x2 : Int32} {x3 : Int32} {s0 : Int32} {s1 : Option Nat}
    (h : ∃ a1, s1 = some a1 ∧ ∃ n3, mt σ a1 = (50, n3) ∧ vp_in (s0 + (1 : Int32)) n3 ∧ ∀ σ5, σ5 = si σ a1 (s0 + (1 : Int32)).toNatClampNeg x2 → ∃ a6, x0 = some a6 ∧ (mt σ a6).1 = 10 ∧ Runs G mX9_jar rX9_jar [(vI x1)] σ5 (bk G mX9_doSay rX9_doSay 0 0 52 [some (vR x0), some (vI x1), some (vI x2), some (vI x3), none, none, none] [(vR (mr σ5 a6 0))] K)) : At G mX9_doSay rX9_doSay 0 0 40 [some (vR x0), some (vI x1), some (vI x2), some (vI x3), none, none, none] [(vI s0), (vR s1)] σ K := by
  refine s_iconst (v := 1) dX9_doSay_40 (by decide) ?_
  refine s_iadd dX9_doSay_41 ?_
  refine s_iload_n (i := 2) dX9_doSay_42 rfl rfl ?_
  obtain ⟨a1, ea1, h⟩ := h
  obtain ⟨n3, t2, h⟩ := h
  obtain ⟨c4, h⟩ := h
  refine t_iast gk dX9_doSay_43 ea1 t2 c4 (fun σ5 eσ5 mσ5 => ?_)
  replace h := h σ5 eσ5
  refine s_aload_n (i := 0) dX9_doSay_44 rfl rfl ?_
  obtain ⟨a6, ea6, h⟩ := h
  obtain ⟨t7, h⟩ := h
  refine t_getR gk dX9_doSay_45 fX9_9 rfl ea6 (by rw [mσ5]; exact t7) ?_
  refine s_iload_n (i := 1) dX9_doSay_48 rfl rfl ?_
  exact s_callS (as := [(vI x1)]) (S := [(vR (mr σ5 a6 0))]) gk dX9_doSay_49 gX9_59 w_1626 rfl rfl (Nat.le_of_ble_eq_true rfl) (by decide) h
theorem vX9_doSay_52 {G : GG} (gk : GOK G) {σ : Mm} {K : RES → Mm → Prop} {x0 : Option Nat} {x1 : Int32} {x2 : Int32} {x3 : Int32} {s0 : Int32} {s1 : Option Nat}
    (h : ∃ a1, x0 = some a1 ∧ (mt σ a1).1 = 10 ∧ ∃ a3, mr σ a1 0 = some a3 ∧ ∃ n5, mt σ a3 = (50, n5) ∧ vp_in (3 : Int32) n5 ∧ ∃ a7, s1 = some a7 ∧ ∃ n9, mt σ a7 = (50, n9) ∧ vp_in (s0 + (2 : Int32)) n9 ∧ ∀ σ11, σ11 = si σ a7 (s0 + (2 : Int32)).toNatClampNeg (mi σ a3 (3 : Int32).toNatClampNeg) → ∃ a12, mr σ11 a1 0 = some a12 ∧ ∃ n14, mt σ a12 = (50, n14) ∧ vp_in (3 : Int32) n14 ∧ vp_in (3 : Int32) n14 ∧ ∀ σ17, σ17 = si σ11 a12 (3 : Int32).toNatClampNeg ((mi σ11 a12 (3 : Int32).toNatClampNeg) + (1 : Int32)) → At G mX9_doSay rX9_doSay 0 0 74 [some (vR x0), some (vI x1), some (vI x2), some (vI x3), some (vI (0 : Int32)), none, none] [] σ17 K) : At G mX9_doSay rX9_doSay 0 0 52 [some (vR x0), some (vI x1), some (vI x2), some (vI x3), none, none, none] [(vI s0), (vR s1)] σ K := by
  refine s_iconst (v := 2) dX9_doSay_52 (by decide) ?_
  refine s_iadd dX9_doSay_53 ?_
  refine s_aload_n (i := 0) dX9_doSay_54 rfl rfl ?_
  obtain ⟨a1, ea1, h⟩ := h
  obtain ⟨t2, h⟩ := h
  refine t_getR gk dX9_doSay_55 fX9_9 rfl ea1 t2 ?_
  refine s_iconst (v := 3) dX9_doSay_58 (by decide) ?_
  obtain ⟨a3, ea3, h⟩ := h
  obtain ⟨n5, t4, h⟩ := h
  obtain ⟨c6, h⟩ := h
  refine t_iald gk dX9_doSay_59 ea3 t4 c6 ?_
  obtain ⟨a7, ea7, h⟩ := h
  obtain ⟨n9, t8, h⟩ := h
  obtain ⟨c10, h⟩ := h
  refine t_iast gk dX9_doSay_60 ea7 t8 c10 (fun σ11 eσ11 mσ11 => ?_)
  replace h := h σ11 eσ11
  refine s_aload_n (i := 0) dX9_doSay_61 rfl rfl ?_
  refine t_getR gk dX9_doSay_62 fX9_9 rfl ea1 (by rw [mσ11]; exact t2) ?_
  refine s_iconst (v := 3) dX9_doSay_65 (by decide) ?_
  refine s_dup2 dX9_doSay_66 rfl rfl ?_
  obtain ⟨a12, ea12, h⟩ := h
  obtain ⟨n14, t13, h⟩ := h
  obtain ⟨c15, h⟩ := h
  refine t_iald gk dX9_doSay_67 ea12 (by rw [mσ11]; exact t13) c15 ?_
  refine s_iconst (v := 1) dX9_doSay_68 (by decide) ?_
  refine s_iadd dX9_doSay_69 ?_
  obtain ⟨c16, h⟩ := h
  refine t_iast gk dX9_doSay_70 ea12 (by rw [mσ11]; exact t13) c16 (fun σ17 eσ17 mσ17 => ?_)
  replace h := h σ17 eσ17
  refine s_iconst (v := 0) dX9_doSay_71 (by decide) ?_
  refine s_istore (L' := [some (vR x0), some (vI x1), some (vI x2), some (vI x3), some (vI (0 : Int32)), none, none]) dX9_doSay_72 rfl (by decide) rfl ?_
  exact h
theorem vX9_doSay_74 {G : GG} (gk : GOK G) {σ : Mm} {K : RES → Mm → Prop} {x0 : Option Nat} {x1 : Int32} {x2 : Int32} {x3 : Int32} {x4 : Int32}
    (h : ∃ a1, x0 = some a1 ∧ (mt σ a1).1 = 10 ∧ ∃ a3, mr σ a1 0 = some a3 ∧ ∃ n5, mt σ a3 = (50, n5) ∧ vp_in (0 : Int32) n5 ∧ (((mi σ a3 (0 : Int32).toNatClampNeg) ≤ x4 → K (.inl (some (vI x3))) σ) ∧ (¬ (mi σ a3 (0 : Int32).toNatClampNeg) ≤ x4 → Runs G mX9_echo rX9_echo [(vI x4), (vI x1)] σ (bk G mX9_doSay rX9_doSay 0 0 91 [some (vR x0), some (vI x1), some (vI x2), some (vI x3), some (vI x4), none, none] [] K)))) : At G mX9_doSay rX9_doSay 0 0 74 [some (vR x0), some (vI x1), some (vI x2), some (vI x3), some (vI x4), none, none] [] σ K := by
  refine s_iload dX9_doSay_74 rfl ?_
  refine s_aload_n (i := 0) dX9_doSay_76 rfl rfl ?_
  obtain ⟨a1, ea1, h⟩ := h
  obtain ⟨t2, h⟩ := h
  refine t_getR gk dX9_doSay_77 fX9_9 rfl ea1 t2 ?_
  refine s_iconst (v := 0) dX9_doSay_80 (by decide) ?_
  obtain ⟨a3, ea3, h⟩ := h
  obtain ⟨n5, t4, h⟩ := h
  obtain ⟨c6, h⟩ := h
  refine t_iald gk dX9_doSay_81 ea3 t4 c6 ?_
  refine s_icmp_ge (tgt := 183) dX9_doSay_82 (by decide) (fun q7 => ?_) (fun q7 => ?_)
  · have h := h.1 q7
    refine s_iload_n (i := 3) dX9_doSay_183 rfl rfl ?_
    exact s_ireturn dX9_doSay_184 rfl rfl (by decide) (by decide) h
  · have h := h.2 q7
    refine s_iload dX9_doSay_85 rfl ?_
    refine s_iload_n (i := 1) dX9_doSay_87 rfl rfl ?_
    exact s_callS (as := [(vI x4), (vI x1)]) (S := []) gk dX9_doSay_88 gX9_66 w_1641 rfl rfl (Nat.le_of_ble_eq_true rfl) (by decide) h
theorem vX9_doSay_91 {G : GG} (gk : GOK G) {σ : Mm} {K : RES → Mm → Prop} {x0 : Option Nat} {x1 : Int32} {x2 : Int32} {x3 : Int32} {x4 : Int32} {s0 : Int32}
    (h : ∃ a1, x0 = some a1 ∧ (mt σ a1).1 = 10 ∧ Runs G mX9_of rX9_of [(vR x0), (vI x4), (vI (3 : Int32))] σ (bk G mX9_doSay rX9_doSay 0 0 100 [some (vR x0), some (vI x1), some (vI x2), some (vI x3), some (vI x4), some (vI s0), none] [] K)) : At G mX9_doSay rX9_doSay 0 0 91 [some (vR x0), some (vI x1), some (vI x2), some (vI x3), some (vI x4), none, none] [(vI s0)] σ K := by
  refine s_istore (L' := [some (vR x0), some (vI x1), some (vI x2), some (vI x3), some (vI x4), some (vI s0), none]) dX9_doSay_91 rfl (by decide) rfl ?_
  refine s_aload_n (i := 0) dX9_doSay_93 rfl rfl ?_
  refine s_iload dX9_doSay_94 rfl ?_
  refine s_iconst (v := 3) dX9_doSay_96 (by decide) ?_
  obtain ⟨a1, ea1, h⟩ := h
  obtain ⟨t2, h⟩ := h
  exact t_callV (ci := 9) (as := [(vI x4), (vI (3 : Int32))]) (S := []) gk dX9_doSay_97 gX9_77 (by decide) rfl w_1653 wp_16 ea1 t2 rfl rfl (Nat.le_of_ble_eq_true rfl) (by decide) h
theorem vX9_doSay_100 {G : GG} (gk : GOK G) {σ : Mm} {K : RES → Mm → Prop} {x0 : Option Nat} {x1 : Int32} {x2 : Int32} {x3 : Int32} {x4 : Int32} {x5 : Int32} {s0 : Int32}
    (h : ((¬ s0 = (1 : Int32) → ∃ a2, x0 = some a2 ∧ (mt σ a2).1 = 10 ∧ (((0 : Int32) = 0 → ∃ a5, mr σ a2 0 = some a5 ∧ ∃ n7, mt σ a5 = (50, n7) ∧ vp_in (x5 + (6 : Int32)) n7 ∧ vp_in (x5 + (6 : Int32)) n7 ∧ ∀ σ10, σ10 = si σ a5 (x5 + (6 : Int32)).toNatClampNeg (mi σ a5 (x5 + (6 : Int32)).toNatClampNeg) → (((0 : Int32) = 0 → At G mX9_doSay rX9_doSay 0 0 74 [some (vR x0), some (vI x1), some (vI x2), some (vI (x3 + (0 : Int32))), some (vI (x4 + 1)), none, none] [] σ10 K) ∧ (¬ (0 : Int32) = 0 → At G mX9_doSay rX9_doSay 0 0 74 [some (vR x0), some (vI x1), some (vI x2), some (vI (x3 + (1 : Int32))), some (vI (x4 + 1)), none, none] [] σ10 K))) ∧ (¬ (0 : Int32) = 0 → ∃ a12, mr σ a2 0 = some a12 ∧ ∃ n14, mt σ a12 = (50, n14) ∧ vp_in (x5 + (6 : Int32)) n14 ∧ ∀ σ16, σ16 = si σ a12 (x5 + (6 : Int32)).toNatClampNeg (1 : Int32) → (((0 : Int32) = 0 → At G mX9_doSay rX9_doSay 0 0 74 [some (vR x0), some (vI x1), some (vI x2), some (vI (x3 + (0 : Int32))), some (vI (x4 + 1)), none, none] [] σ16 K) ∧ (¬ (0 : Int32) = 0 → At G mX9_doSay rX9_doSay 0 0 74 [some (vR x0), some (vI x1), some (vI x2), some (vI (x3 + (1 : Int32))), some (vI (x4 + 1)), none, none] [] σ16 K))))) ∧ (s0 = (1 : Int32) → ∃ a18, x0 = some a18 ∧ (mt σ a18).1 = 10 ∧ ∃ a20, mr σ a18 0 = some a20 ∧ ∃ n22, mt σ a20 = (50, n22) ∧ vp_in x5 n22 ∧ ((¬ (mi σ a20 x5.toNatClampNeg) = (1 : Int32) → (((0 : Int32) = 0 → vp_in (x5 + (6 : Int32)) n22 ∧ vp_in (x5 + (6 : Int32)) n22 ∧ ∀ σ28, σ28 = si σ a20 (x5 + (6 : Int32)).toNatClampNeg (mi σ a20 (x5 + (6 : Int32)).toNatClampNeg) → (((0 : Int32) = 0 → At G mX9_doSay rX9_doSay 0 0 74 [some (vR x0), some (vI x1), some (vI x2), some (vI (x3 + (0 : Int32))), some (vI (x4 + 1)), none, none] [] σ28 K) ∧ (¬ (0 : Int32) = 0 → At G mX9_doSay rX9_doSay 0 0 74 [some (vR x0), some (vI x1), some (vI x2), some (vI (x3 + (1 : Int32))), some (vI (x4 + 1)), none, none] [] σ28 K))) ∧ (¬ (0 : Int32) = 0 → vp_in (x5 + (6 : Int32)) n22 ∧ ∀ σ31, σ31 = si σ a20 (x5 + (6 : Int32)).toNatClampNeg (1 : Int32) → (((0 : Int32) = 0 → At G mX9_doSay rX9_doSay 0 0 74 [some (vR x0), some (vI x1), some (vI x2), some (vI (x3 + (0 : Int32))), some (vI (x4 + 1)), none, none] [] σ31 K) ∧ (¬ (0 : Int32) = 0 → At G mX9_doSay rX9_doSay 0 0 74 [some (vR x0), some (vI x1), some (vI x2), some (vI (x3 + (1 : Int32))), some (vI (x4 + 1)), none, none] [] σ31 K))))) ∧ ((mi σ a20 x5.toNatClampNeg) = (1 : Int32) → vp_in (x5 + (6 : Int32)) n22 ∧ ((¬ (mi σ a20 (x5 + (6 : Int32)).toNatClampNeg) = 0 → (((0 : Int32) = 0 → vp_in (x5 + (6 : Int32)) n22 ∧ vp_in (x5 + (6 : Int32)) n22 ∧ ∀ σ38, σ38 = si σ a20 (x5 + (6 : Int32)).toNatClampNeg (mi σ a20 (x5 + (6 : Int32)).toNatClampNeg) → (((0 : Int32) = 0 → At G mX9_doSay rX9_doSay 0 0 74 [some (vR x0), some (vI x1), some (vI x2), some (vI (x3 + (0 : Int32))), some (vI (x4 + 1)), none, none] [] σ38 K) ∧ (¬ (0 : Int32) = 0 → At G mX9_doSay rX9_doSay 0 0 74 [some (vR x0), some (vI x1), some (vI x2), some (vI (x3 + (1 : Int32))), some (vI (x4 + 1)), none, none] [] σ38 K))) ∧ (¬ (0 : Int32) = 0 → vp_in (x5 + (6 : Int32)) n22 ∧ ∀ σ41, σ41 = si σ a20 (x5 + (6 : Int32)).toNatClampNeg (1 : Int32) → (((0 : Int32) = 0 → At G mX9_doSay rX9_doSay 0 0 74 [some (vR x0), some (vI x1), some (vI x2), some (vI (x3 + (0 : Int32))), some (vI (x4 + 1)), none, none] [] σ41 K) ∧ (¬ (0 : Int32) = 0 → At G mX9_doSay rX9_doSay 0 0 74 [some (vR x0), some (vI x1), some (vI x2), some (vI (x3 + (1 : Int32))), some (vI (x4 + 1)), none, none] [] σ41 K))))) ∧ ((mi σ a20 (x5 + (6 : Int32)).toNatClampNeg) = 0 → (((1 : Int32) = 0 → vp_in (x5 + (6 : Int32)) n22 ∧ vp_in (x5 + (6 : Int32)) n22 ∧ ∀ σ46, σ46 = si σ a20 (x5 + (6 : Int32)).toNatClampNeg (mi σ a20 (x5 + (6 : Int32)).toNatClampNeg) → (((1 : Int32) = 0 → At G mX9_doSay rX9_doSay 0 0 74 [some (vR x0), some (vI x1), some (vI x2), some (vI (x3 + (0 : Int32))), some (vI (x4 + 1)), none, none] [] σ46 K) ∧ (¬ (1 : Int32) = 0 → At G mX9_doSay rX9_doSay 0 0 74 [some (vR x0), some (vI x1), some (vI x2), some (vI (x3 + (1 : Int32))), some (vI (x4 + 1)), none, none] [] σ46 K))) ∧ (¬ (1 : Int32) = 0 → vp_in (x5 + (6 : Int32)) n22 ∧ ∀ σ49, σ49 = si σ a20 (x5 + (6 : Int32)).toNatClampNeg (1 : Int32) → (((1 : Int32) = 0 → At G mX9_doSay rX9_doSay 0 0 74 [some (vR x0), some (vI x1), some (vI x2), some (vI (x3 + (0 : Int32))), some (vI (x4 + 1)), none, none] [] σ49 K) ∧ (¬ (1 : Int32) = 0 → At G mX9_doSay rX9_doSay 0 0 74 [some (vR x0), some (vI x1), some (vI x2), some (vI (x3 + (1 : Int32))), some (vI (x4 + 1)), none, none] [] σ49 K))))))))))) : At G mX9_doSay rX9_doSay 0 0 100 [some (vR x0), some (vI x1), some (vI x2), some (vI x3), some (vI x4), some (vI x5), none] [(vI s0)] σ K := by
  refine s_iconst (v := 1) dX9_doSay_100 (by decide) ?_
  refine s_icmp_ne (tgt := 132) dX9_doSay_101 (by decide) (fun q1 => ?_) (fun q1 => ?_)
  · have h := h.1 q1
    refine s_iconst (v := 0) dX9_doSay_132 (by decide) ?_
    refine s_istore (L' := [some (vR x0), some (vI x1), some (vI x2), some (vI x3), some (vI x4), some (vI x5), some (vI (0 : Int32))]) dX9_doSay_133 rfl (by decide) rfl ?_
    refine s_aload_n (i := 0) dX9_doSay_135 rfl rfl ?_
    obtain ⟨a2, ea2, h⟩ := h
    obtain ⟨t3, h⟩ := h
    refine t_getR gk dX9_doSay_136 fX9_9 rfl ea2 t3 ?_
    refine s_iload dX9_doSay_139 rfl ?_
    refine s_bipush (v := 6) dX9_doSay_141 (by decide) ?_
    refine s_iadd dX9_doSay_143 ?_
    refine s_iload dX9_doSay_144 rfl ?_
    refine s_if_eq (tgt := 153) dX9_doSay_146 (by decide) (fun q4 => ?_) (fun q4 => ?_)
    · have h := h.1 q4
      refine s_aload_n (i := 0) dX9_doSay_153 rfl rfl ?_
      refine t_getR gk dX9_doSay_154 fX9_9 rfl ea2 t3 ?_
      refine s_iload dX9_doSay_157 rfl ?_
      refine s_bipush (v := 6) dX9_doSay_159 (by decide) ?_
      refine s_iadd dX9_doSay_161 ?_
      obtain ⟨a5, ea5, h⟩ := h
      obtain ⟨n7, t6, h⟩ := h
      obtain ⟨c8, h⟩ := h
      refine t_iald gk dX9_doSay_162 ea5 t6 c8 ?_
      obtain ⟨c9, h⟩ := h
      refine t_iast gk dX9_doSay_163 ea5 t6 c9 (fun σ10 eσ10 mσ10 => ?_)
      replace h := h σ10 eσ10
      refine s_iload_n (i := 3) dX9_doSay_164 rfl rfl ?_
      refine s_iload dX9_doSay_165 rfl ?_
      refine s_if_eq (tgt := 174) dX9_doSay_167 (by decide) (fun q11 => ?_) (fun q11 => ?_)
      · have h := h.1 q11
        refine s_iconst (v := 0) dX9_doSay_174 (by decide) ?_
        refine s_iadd dX9_doSay_175 ?_
        refine s_istore_n (i := 3) (L' := [some (vR x0), some (vI x1), some (vI x2), some (vI (x3 + (0 : Int32))), some (vI x4), some (vI x5), some (vI (0 : Int32))]) dX9_doSay_176 rfl rfl (by decide) rfl ?_
        refine s_iinc (v := x4 + 1) (L' := [some (vR x0), some (vI x1), some (vI x2), some (vI (x3 + (0 : Int32))), some (vI (x4 + 1)), some (vI x5), some (vI (0 : Int32))]) dX9_doSay_177 rfl rfl rfl (by decide) rfl ?_
        refine s_goto (tgt := 74) dX9_doSay_180 (by decide) ?_
        exact h.msk ⟨rfl, ⟨rfl, ⟨rfl, ⟨rfl, ⟨rfl, trivial⟩⟩⟩⟩⟩
      · have h := h.2 q11
        refine s_iconst (v := 1) dX9_doSay_170 (by decide) ?_
        refine s_goto (tgt := 175) dX9_doSay_171 (by decide) ?_
        refine s_iadd dX9_doSay_175 ?_
        refine s_istore_n (i := 3) (L' := [some (vR x0), some (vI x1), some (vI x2), some (vI (x3 + (1 : Int32))), some (vI x4), some (vI x5), some (vI (0 : Int32))]) dX9_doSay_176 rfl rfl (by decide) rfl ?_
        refine s_iinc (v := x4 + 1) (L' := [some (vR x0), some (vI x1), some (vI x2), some (vI (x3 + (1 : Int32))), some (vI (x4 + 1)), some (vI x5), some (vI (0 : Int32))]) dX9_doSay_177 rfl rfl rfl (by decide) rfl ?_
        refine s_goto (tgt := 74) dX9_doSay_180 (by decide) ?_
        exact h.msk ⟨rfl, ⟨rfl, ⟨rfl, ⟨rfl, ⟨rfl, trivial⟩⟩⟩⟩⟩
    · have h := h.2 q4
      refine s_iconst (v := 1) dX9_doSay_149 (by decide) ?_
      refine s_goto (tgt := 163) dX9_doSay_150 (by decide) ?_
      obtain ⟨a12, ea12, h⟩ := h
      obtain ⟨n14, t13, h⟩ := h
      obtain ⟨c15, h⟩ := h
      refine t_iast gk dX9_doSay_163 ea12 t13 c15 (fun σ16 eσ16 mσ16 => ?_)
      replace h := h σ16 eσ16
      refine s_iload_n (i := 3) dX9_doSay_164 rfl rfl ?_
      refine s_iload dX9_doSay_165 rfl ?_
      refine s_if_eq (tgt := 174) dX9_doSay_167 (by decide) (fun q17 => ?_) (fun q17 => ?_)
      · have h := h.1 q17
        refine s_iconst (v := 0) dX9_doSay_174 (by decide) ?_
        refine s_iadd dX9_doSay_175 ?_
        refine s_istore_n (i := 3) (L' := [some (vR x0), some (vI x1), some (vI x2), some (vI (x3 + (0 : Int32))), some (vI x4), some (vI x5), some (vI (0 : Int32))]) dX9_doSay_176 rfl rfl (by decide) rfl ?_
        refine s_iinc (v := x4 + 1) (L' := [some (vR x0), some (vI x1), some (vI x2), some (vI (x3 + (0 : Int32))), some (vI (x4 + 1)), some (vI x5), some (vI (0 : Int32))]) dX9_doSay_177 rfl rfl rfl (by decide) rfl ?_
        refine s_goto (tgt := 74) dX9_doSay_180 (by decide) ?_
        exact h.msk ⟨rfl, ⟨rfl, ⟨rfl, ⟨rfl, ⟨rfl, trivial⟩⟩⟩⟩⟩
      · have h := h.2 q17
        refine s_iconst (v := 1) dX9_doSay_170 (by decide) ?_
        refine s_goto (tgt := 175) dX9_doSay_171 (by decide) ?_
        refine s_iadd dX9_doSay_175 ?_
        refine s_istore_n (i := 3) (L' := [some (vR x0), some (vI x1), some (vI x2), some (vI (x3 + (1 : Int32))), some (vI x4), some (vI x5), some (vI (0 : Int32))]) dX9_doSay_176 rfl rfl (by decide) rfl ?_
        refine s_iinc (v := x4 + 1) (L' := [some (vR x0), some (vI x1), some (vI x2), some (vI (x3 + (1 : Int32))), some (vI (x4 + 1)), some (vI x5), some (vI (0 : Int32))]) dX9_doSay_177 rfl rfl rfl (by decide) rfl ?_
        refine s_goto (tgt := 74) dX9_doSay_180 (by decide) ?_
        exact h.msk ⟨rfl, ⟨rfl, ⟨rfl, ⟨rfl, ⟨rfl, trivial⟩⟩⟩⟩⟩
  · have h := h.2 q1
    refine s_aload_n (i := 0) dX9_doSay_104 rfl rfl ?_
    obtain ⟨a18, ea18, h⟩ := h
    obtain ⟨t19, h⟩ := h
    refine t_getR gk dX9_doSay_105 fX9_9 rfl ea18 t19 ?_
    refine s_iload dX9_doSay_108 rfl ?_
    obtain ⟨a20, ea20, h⟩ := h
    obtain ⟨n22, t21, h⟩ := h
    obtain ⟨c23, h⟩ := h
    refine t_iald gk dX9_doSay_110 ea20 t21 c23 ?_
    refine s_iconst (v := 1) dX9_doSay_111 (by decide) ?_
    refine s_icmp_ne (tgt := 132) dX9_doSay_112 (by decide) (fun q24 => ?_) (fun q24 => ?_)
    · have h := h.1 q24
      refine s_iconst (v := 0) dX9_doSay_132 (by decide) ?_
      refine s_istore (L' := [some (vR x0), some (vI x1), some (vI x2), some (vI x3), some (vI x4), some (vI x5), some (vI (0 : Int32))]) dX9_doSay_133 rfl (by decide) rfl ?_
      refine s_aload_n (i := 0) dX9_doSay_135 rfl rfl ?_
      refine t_getR gk dX9_doSay_136 fX9_9 rfl ea18 t19 ?_
      refine s_iload dX9_doSay_139 rfl ?_
      refine s_bipush (v := 6) dX9_doSay_141 (by decide) ?_
      refine s_iadd dX9_doSay_143 ?_
      refine s_iload dX9_doSay_144 rfl ?_
      refine s_if_eq (tgt := 153) dX9_doSay_146 (by decide) (fun q25 => ?_) (fun q25 => ?_)
      · have h := h.1 q25
        refine s_aload_n (i := 0) dX9_doSay_153 rfl rfl ?_
        refine t_getR gk dX9_doSay_154 fX9_9 rfl ea18 t19 ?_
        refine s_iload dX9_doSay_157 rfl ?_
        refine s_bipush (v := 6) dX9_doSay_159 (by decide) ?_
        refine s_iadd dX9_doSay_161 ?_
        obtain ⟨c26, h⟩ := h
        refine t_iald gk dX9_doSay_162 ea20 t21 c26 ?_
        obtain ⟨c27, h⟩ := h
        refine t_iast gk dX9_doSay_163 ea20 t21 c27 (fun σ28 eσ28 mσ28 => ?_)
        replace h := h σ28 eσ28
        refine s_iload_n (i := 3) dX9_doSay_164 rfl rfl ?_
        refine s_iload dX9_doSay_165 rfl ?_
        refine s_if_eq (tgt := 174) dX9_doSay_167 (by decide) (fun q29 => ?_) (fun q29 => ?_)
        · have h := h.1 q29
          refine s_iconst (v := 0) dX9_doSay_174 (by decide) ?_
          refine s_iadd dX9_doSay_175 ?_
          refine s_istore_n (i := 3) (L' := [some (vR x0), some (vI x1), some (vI x2), some (vI (x3 + (0 : Int32))), some (vI x4), some (vI x5), some (vI (0 : Int32))]) dX9_doSay_176 rfl rfl (by decide) rfl ?_
          refine s_iinc (v := x4 + 1) (L' := [some (vR x0), some (vI x1), some (vI x2), some (vI (x3 + (0 : Int32))), some (vI (x4 + 1)), some (vI x5), some (vI (0 : Int32))]) dX9_doSay_177 rfl rfl rfl (by decide) rfl ?_
          refine s_goto (tgt := 74) dX9_doSay_180 (by decide) ?_
          exact h.msk ⟨rfl, ⟨rfl, ⟨rfl, ⟨rfl, ⟨rfl, trivial⟩⟩⟩⟩⟩
        · have h := h.2 q29
          refine s_iconst (v := 1) dX9_doSay_170 (by decide) ?_
          refine s_goto (tgt := 175) dX9_doSay_171 (by decide) ?_
          refine s_iadd dX9_doSay_175 ?_
          refine s_istore_n (i := 3) (L' := [some (vR x0), some (vI x1), some (vI x2), some (vI (x3 + (1 : Int32))), some (vI x4), some (vI x5), some (vI (0 : Int32))]) dX9_doSay_176 rfl rfl (by decide) rfl ?_
          refine s_iinc (v := x4 + 1) (L' := [some (vR x0), some (vI x1), some (vI x2), some (vI (x3 + (1 : Int32))), some (vI (x4 + 1)), some (vI x5), some (vI (0 : Int32))]) dX9_doSay_177 rfl rfl rfl (by decide) rfl ?_
          refine s_goto (tgt := 74) dX9_doSay_180 (by decide) ?_
          exact h.msk ⟨rfl, ⟨rfl, ⟨rfl, ⟨rfl, ⟨rfl, trivial⟩⟩⟩⟩⟩
      · have h := h.2 q25
        refine s_iconst (v := 1) dX9_doSay_149 (by decide) ?_
        refine s_goto (tgt := 163) dX9_doSay_150 (by decide) ?_
        obtain ⟨c30, h⟩ := h
        refine t_iast gk dX9_doSay_163 ea20 t21 c30 (fun σ31 eσ31 mσ31 => ?_)
        replace h := h σ31 eσ31
        refine s_iload_n (i := 3) dX9_doSay_164 rfl rfl ?_
        refine s_iload dX9_doSay_165 rfl ?_
        refine s_if_eq (tgt := 174) dX9_doSay_167 (by decide) (fun q32 => ?_) (fun q32 => ?_)
        · have h := h.1 q32
          refine s_iconst (v := 0) dX9_doSay_174 (by decide) ?_
          refine s_iadd dX9_doSay_175 ?_
          refine s_istore_n (i := 3) (L' := [some (vR x0), some (vI x1), some (vI x2), some (vI (x3 + (0 : Int32))), some (vI x4), some (vI x5), some (vI (0 : Int32))]) dX9_doSay_176 rfl rfl (by decide) rfl ?_
          refine s_iinc (v := x4 + 1) (L' := [some (vR x0), some (vI x1), some (vI x2), some (vI (x3 + (0 : Int32))), some (vI (x4 + 1)), some (vI x5), some (vI (0 : Int32))]) dX9_doSay_177 rfl rfl rfl (by decide) rfl ?_
          refine s_goto (tgt := 74) dX9_doSay_180 (by decide) ?_
          exact h.msk ⟨rfl, ⟨rfl, ⟨rfl, ⟨rfl, ⟨rfl, trivial⟩⟩⟩⟩⟩
        · have h := h.2 q32
          refine s_iconst (v := 1) dX9_doSay_170 (by decide) ?_
          refine s_goto (tgt := 175) dX9_doSay_171 (by decide) ?_
          refine s_iadd dX9_doSay_175 ?_
          refine s_istore_n (i := 3) (L' := [some (vR x0), some (vI x1), some (vI x2), some (vI (x3 + (1 : Int32))), some (vI x4), some (vI x5), some (vI (0 : Int32))]) dX9_doSay_176 rfl rfl (by decide) rfl ?_
          refine s_iinc (v := x4 + 1) (L' := [some (vR x0), some (vI x1), some (vI x2), some (vI (x3 + (1 : Int32))), some (vI (x4 + 1)), some (vI x5), some (vI (0 : Int32))]) dX9_doSay_177 rfl rfl rfl (by decide) rfl ?_
          refine s_goto (tgt := 74) dX9_doSay_180 (by decide) ?_
          exact h.msk ⟨rfl, ⟨rfl, ⟨rfl, ⟨rfl, ⟨rfl, trivial⟩⟩⟩⟩⟩
    · have h := h.2 q24
      refine s_aload_n (i := 0) dX9_doSay_115 rfl rfl ?_
      refine t_getR gk dX9_doSay_116 fX9_9 rfl ea18 t19 ?_
      refine s_iload dX9_doSay_119 rfl ?_
      refine s_bipush (v := 6) dX9_doSay_121 (by decide) ?_
      refine s_iadd dX9_doSay_123 ?_
      obtain ⟨c33, h⟩ := h
      refine t_iald gk dX9_doSay_124 ea20 t21 c33 ?_
      refine s_if_ne (tgt := 132) dX9_doSay_125 (by decide) (fun q34 => ?_) (fun q34 => ?_)
      · have h := h.1 q34
        refine s_iconst (v := 0) dX9_doSay_132 (by decide) ?_
        refine s_istore (L' := [some (vR x0), some (vI x1), some (vI x2), some (vI x3), some (vI x4), some (vI x5), some (vI (0 : Int32))]) dX9_doSay_133 rfl (by decide) rfl ?_
        refine s_aload_n (i := 0) dX9_doSay_135 rfl rfl ?_
        refine t_getR gk dX9_doSay_136 fX9_9 rfl ea18 t19 ?_
        refine s_iload dX9_doSay_139 rfl ?_
        refine s_bipush (v := 6) dX9_doSay_141 (by decide) ?_
        refine s_iadd dX9_doSay_143 ?_
        refine s_iload dX9_doSay_144 rfl ?_
        refine s_if_eq (tgt := 153) dX9_doSay_146 (by decide) (fun q35 => ?_) (fun q35 => ?_)
        · have h := h.1 q35
          refine s_aload_n (i := 0) dX9_doSay_153 rfl rfl ?_
          refine t_getR gk dX9_doSay_154 fX9_9 rfl ea18 t19 ?_
          refine s_iload dX9_doSay_157 rfl ?_
          refine s_bipush (v := 6) dX9_doSay_159 (by decide) ?_
          refine s_iadd dX9_doSay_161 ?_
          obtain ⟨c36, h⟩ := h
          refine t_iald gk dX9_doSay_162 ea20 t21 c36 ?_
          obtain ⟨c37, h⟩ := h
          refine t_iast gk dX9_doSay_163 ea20 t21 c37 (fun σ38 eσ38 mσ38 => ?_)
          replace h := h σ38 eσ38
          refine s_iload_n (i := 3) dX9_doSay_164 rfl rfl ?_
          refine s_iload dX9_doSay_165 rfl ?_
          refine s_if_eq (tgt := 174) dX9_doSay_167 (by decide) (fun q39 => ?_) (fun q39 => ?_)
          · have h := h.1 q39
            refine s_iconst (v := 0) dX9_doSay_174 (by decide) ?_
            refine s_iadd dX9_doSay_175 ?_
            refine s_istore_n (i := 3) (L' := [some (vR x0), some (vI x1), some (vI x2), some (vI (x3 + (0 : Int32))), some (vI x4), some (vI x5), some (vI (0 : Int32))]) dX9_doSay_176 rfl rfl (by decide) rfl ?_
            refine s_iinc (v := x4 + 1) (L' := [some (vR x0), some (vI x1), some (vI x2), some (vI (x3 + (0 : Int32))), some (vI (x4 + 1)), some (vI x5), some (vI (0 : Int32))]) dX9_doSay_177 rfl rfl rfl (by decide) rfl ?_
            refine s_goto (tgt := 74) dX9_doSay_180 (by decide) ?_
            exact h.msk ⟨rfl, ⟨rfl, ⟨rfl, ⟨rfl, ⟨rfl, trivial⟩⟩⟩⟩⟩
          · have h := h.2 q39
            refine s_iconst (v := 1) dX9_doSay_170 (by decide) ?_
            refine s_goto (tgt := 175) dX9_doSay_171 (by decide) ?_
            refine s_iadd dX9_doSay_175 ?_
            refine s_istore_n (i := 3) (L' := [some (vR x0), some (vI x1), some (vI x2), some (vI (x3 + (1 : Int32))), some (vI x4), some (vI x5), some (vI (0 : Int32))]) dX9_doSay_176 rfl rfl (by decide) rfl ?_
            refine s_iinc (v := x4 + 1) (L' := [some (vR x0), some (vI x1), some (vI x2), some (vI (x3 + (1 : Int32))), some (vI (x4 + 1)), some (vI x5), some (vI (0 : Int32))]) dX9_doSay_177 rfl rfl rfl (by decide) rfl ?_
            refine s_goto (tgt := 74) dX9_doSay_180 (by decide) ?_
            exact h.msk ⟨rfl, ⟨rfl, ⟨rfl, ⟨rfl, ⟨rfl, trivial⟩⟩⟩⟩⟩
        · have h := h.2 q35
          refine s_iconst (v := 1) dX9_doSay_149 (by decide) ?_
          refine s_goto (tgt := 163) dX9_doSay_150 (by decide) ?_
          obtain ⟨c40, h⟩ := h
          refine t_iast gk dX9_doSay_163 ea20 t21 c40 (fun σ41 eσ41 mσ41 => ?_)
          replace h := h σ41 eσ41
          refine s_iload_n (i := 3) dX9_doSay_164 rfl rfl ?_
          refine s_iload dX9_doSay_165 rfl ?_
          refine s_if_eq (tgt := 174) dX9_doSay_167 (by decide) (fun q42 => ?_) (fun q42 => ?_)
          · have h := h.1 q42
            refine s_iconst (v := 0) dX9_doSay_174 (by decide) ?_
            refine s_iadd dX9_doSay_175 ?_
            refine s_istore_n (i := 3) (L' := [some (vR x0), some (vI x1), some (vI x2), some (vI (x3 + (0 : Int32))), some (vI x4), some (vI x5), some (vI (0 : Int32))]) dX9_doSay_176 rfl rfl (by decide) rfl ?_
            refine s_iinc (v := x4 + 1) (L' := [some (vR x0), some (vI x1), some (vI x2), some (vI (x3 + (0 : Int32))), some (vI (x4 + 1)), some (vI x5), some (vI (0 : Int32))]) dX9_doSay_177 rfl rfl rfl (by decide) rfl ?_
            refine s_goto (tgt := 74) dX9_doSay_180 (by decide) ?_
            exact h.msk ⟨rfl, ⟨rfl, ⟨rfl, ⟨rfl, ⟨rfl, trivial⟩⟩⟩⟩⟩
          · have h := h.2 q42
            refine s_iconst (v := 1) dX9_doSay_170 (by decide) ?_
            refine s_goto (tgt := 175) dX9_doSay_171 (by decide) ?_
            refine s_iadd dX9_doSay_175 ?_
            refine s_istore_n (i := 3) (L' := [some (vR x0), some (vI x1), some (vI x2), some (vI (x3 + (1 : Int32))), some (vI x4), some (vI x5), some (vI (0 : Int32))]) dX9_doSay_176 rfl rfl (by decide) rfl ?_
            refine s_iinc (v := x4 + 1) (L' := [some (vR x0), some (vI x1), some (vI x2), some (vI (x3 + (1 : Int32))), some (vI (x4 + 1)), some (vI x5), some (vI (0 : Int32))]) dX9_doSay_177 rfl rfl rfl (by decide) rfl ?_
            refine s_goto (tgt := 74) dX9_doSay_180 (by decide) ?_
            exact h.msk ⟨rfl, ⟨rfl, ⟨rfl, ⟨rfl, ⟨rfl, trivial⟩⟩⟩⟩⟩
      · have h := h.2 q34
        refine s_iconst (v := 1) dX9_doSay_128 (by decide) ?_
        refine s_goto (tgt := 133) dX9_doSay_129 (by decide) ?_
        refine s_istore (L' := [some (vR x0), some (vI x1), some (vI x2), some (vI x3), some (vI x4), some (vI x5), some (vI (1 : Int32))]) dX9_doSay_133 rfl (by decide) rfl ?_
        refine s_aload_n (i := 0) dX9_doSay_135 rfl rfl ?_
        refine t_getR gk dX9_doSay_136 fX9_9 rfl ea18 t19 ?_
        refine s_iload dX9_doSay_139 rfl ?_
        refine s_bipush (v := 6) dX9_doSay_141 (by decide) ?_
        refine s_iadd dX9_doSay_143 ?_
        refine s_iload dX9_doSay_144 rfl ?_
        refine s_if_eq (tgt := 153) dX9_doSay_146 (by decide) (fun q43 => ?_) (fun q43 => ?_)
        · have h := h.1 q43
          refine s_aload_n (i := 0) dX9_doSay_153 rfl rfl ?_
          refine t_getR gk dX9_doSay_154 fX9_9 rfl ea18 t19 ?_
          refine s_iload dX9_doSay_157 rfl ?_
          refine s_bipush (v := 6) dX9_doSay_159 (by decide) ?_
          refine s_iadd dX9_doSay_161 ?_
          obtain ⟨c44, h⟩ := h
          refine t_iald gk dX9_doSay_162 ea20 t21 c44 ?_
          obtain ⟨c45, h⟩ := h
          refine t_iast gk dX9_doSay_163 ea20 t21 c45 (fun σ46 eσ46 mσ46 => ?_)
          replace h := h σ46 eσ46
          refine s_iload_n (i := 3) dX9_doSay_164 rfl rfl ?_
          refine s_iload dX9_doSay_165 rfl ?_
          refine s_if_eq (tgt := 174) dX9_doSay_167 (by decide) (fun q47 => ?_) (fun q47 => ?_)
          · have h := h.1 q47
            refine s_iconst (v := 0) dX9_doSay_174 (by decide) ?_
            refine s_iadd dX9_doSay_175 ?_
            refine s_istore_n (i := 3) (L' := [some (vR x0), some (vI x1), some (vI x2), some (vI (x3 + (0 : Int32))), some (vI x4), some (vI x5), some (vI (1 : Int32))]) dX9_doSay_176 rfl rfl (by decide) rfl ?_
            refine s_iinc (v := x4 + 1) (L' := [some (vR x0), some (vI x1), some (vI x2), some (vI (x3 + (0 : Int32))), some (vI (x4 + 1)), some (vI x5), some (vI (1 : Int32))]) dX9_doSay_177 rfl rfl rfl (by decide) rfl ?_
            refine s_goto (tgt := 74) dX9_doSay_180 (by decide) ?_
            exact h.msk ⟨rfl, ⟨rfl, ⟨rfl, ⟨rfl, ⟨rfl, trivial⟩⟩⟩⟩⟩
          · have h := h.2 q47
            refine s_iconst (v := 1) dX9_doSay_170 (by decide) ?_
            refine s_goto (tgt := 175) dX9_doSay_171 (by decide) ?_
            refine s_iadd dX9_doSay_175 ?_
            refine s_istore_n (i := 3) (L' := [some (vR x0), some (vI x1), some (vI x2), some (vI (x3 + (1 : Int32))), some (vI x4), some (vI x5), some (vI (1 : Int32))]) dX9_doSay_176 rfl rfl (by decide) rfl ?_
            refine s_iinc (v := x4 + 1) (L' := [some (vR x0), some (vI x1), some (vI x2), some (vI (x3 + (1 : Int32))), some (vI (x4 + 1)), some (vI x5), some (vI (1 : Int32))]) dX9_doSay_177 rfl rfl rfl (by decide) rfl ?_
            refine s_goto (tgt := 74) dX9_doSay_180 (by decide) ?_
            exact h.msk ⟨rfl, ⟨rfl, ⟨rfl, ⟨rfl, ⟨rfl, trivial⟩⟩⟩⟩⟩
        · have h := h.2 q43
          refine s_iconst (v := 1) dX9_doSay_149 (by decide) ?_
          refine s_goto (tgt := 163) dX9_doSay_150 (by decide) ?_
          obtain ⟨c48, h⟩ := h
          refine t_iast gk dX9_doSay_163 ea20 t21 c48 (fun σ49 eσ49 mσ49 => ?_)
          replace h := h σ49 eσ49
          refine s_iload_n (i := 3) dX9_doSay_164 rfl rfl ?_
          refine s_iload dX9_doSay_165 rfl ?_
          refine s_if_eq (tgt := 174) dX9_doSay_167 (by decide) (fun q50 => ?_) (fun q50 => ?_)
          · have h := h.1 q50
            refine s_iconst (v := 0) dX9_doSay_174 (by decide) ?_
            refine s_iadd dX9_doSay_175 ?_
            refine s_istore_n (i := 3) (L' := [some (vR x0), some (vI x1), some (vI x2), some (vI (x3 + (0 : Int32))), some (vI x4), some (vI x5), some (vI (1 : Int32))]) dX9_doSay_176 rfl rfl (by decide) rfl ?_
            refine s_iinc (v := x4 + 1) (L' := [some (vR x0), some (vI x1), some (vI x2), some (vI (x3 + (0 : Int32))), some (vI (x4 + 1)), some (vI x5), some (vI (1 : Int32))]) dX9_doSay_177 rfl rfl rfl (by decide) rfl ?_
            refine s_goto (tgt := 74) dX9_doSay_180 (by decide) ?_
            exact h.msk ⟨rfl, ⟨rfl, ⟨rfl, ⟨rfl, ⟨rfl, trivial⟩⟩⟩⟩⟩
          · have h := h.2 q50
            refine s_iconst (v := 1) dX9_doSay_170 (by decide) ?_
            refine s_goto (tgt := 175) dX9_doSay_171 (by decide) ?_
            refine s_iadd dX9_doSay_175 ?_
            refine s_istore_n (i := 3) (L' := [some (vR x0), some (vI x1), some (vI x2), some (vI (x3 + (1 : Int32))), some (vI x4), some (vI x5), some (vI (1 : Int32))]) dX9_doSay_176 rfl rfl (by decide) rfl ?_
            refine s_iinc (v := x4 + 1) (L' := [some (vR x0), some (vI x1), some (vI x2), some (vI (x3 + (1 : Int32))), some (vI (x4 + 1)), some (vI x5), some (vI (1 : Int32))]) dX9_doSay_177 rfl rfl rfl (by decide) rfl ?_
            refine s_goto (tgt := 74) dX9_doSay_180 (by decide) ?_
            exact h.msk ⟨rfl, ⟨rfl, ⟨rfl, ⟨rfl, ⟨rfl, trivial⟩⟩⟩⟩⟩
theorem vX9_say_0 {G : GG} (gk : GOK G) {σ : Mm} {K : RES → Mm → Prop} {x0 : Option Nat} {x1 : Int32} {x2 : Int32}
    (h : ∃ a1, x0 = some a1 ∧ (mt σ a1).1 = 10 ∧ Runs G mX9_keep rX9_keep [(vR x0)] σ (bk G mX9_say rX9_say 0 0 4 [some (vR x0), some (vI x1), some (vI x2)] [] K)) : At G mX9_say rX9_say 0 0 0 [some (vR x0), some (vI x1), some (vI x2)] [] σ K := by
  refine s_aload_n (i := 0) dX9_say_0 rfl rfl ?_
  obtain ⟨a1, ea1, h⟩ := h
  obtain ⟨t2, h⟩ := h
  exact t_callV (ci := 9) (as := []) (S := []) gk dX9_say_1 gX9_99 (by decide) rfl w_1600 wp_8 ea1 t2 rfl rfl (Nat.le_of_ble_eq_true rfl) (by decide) h
theorem eX9_say {G : GG} (gk : GOK G) {σ : Mm} {K : RES → Mm → Prop} {x0 : Option Nat} {x1 : Int32} {x2 : Int32}
    (h : ∃ a1, x0 = some a1 ∧ (mt σ a1).1 = 10 ∧ Runs G mX9_keep rX9_keep [(vR x0)] σ (bk G mX9_say rX9_say 0 0 4 [some (vR x0), some (vI x1), some (vI x2)] [] K)) : Runs G mX9_say rX9_say [(vR x0), (vI x1), (vI x2)] σ K := Runs.of (by decide) rfl (Nat.le_of_ble_eq_true rfl) (vX9_say_0 gk h)
theorem vX9_say_4 {G : GG} (gk : GOK G) {σ : Mm} {K : RES → Mm → Prop} {x0 : Option Nat} {x1 : Int32} {x2 : Int32}
    (h : ∃ a1, x0 = some a1 ∧ (mt σ a1).1 = 10 ∧ Runs G mX9_doSay rX9_doSay [(vR x0), (vI x1), (vI x2)] σ (bk G mX9_say rX9_say 0 0 11 [some (vR x0), some (vI x1), some (vI x2)] [(vR x0)] K)) : At G mX9_say rX9_say 0 0 4 [some (vR x0), some (vI x1), some (vI x2)] [] σ K := by
  refine s_aload_n (i := 0) dX9_say_4 rfl rfl ?_
  refine s_aload_n (i := 0) dX9_say_5 rfl rfl ?_
  refine s_iload_n (i := 1) dX9_say_6 rfl rfl ?_
  refine s_iload_n (i := 2) dX9_say_7 rfl rfl ?_
  obtain ⟨a1, ea1, h⟩ := h
  obtain ⟨t2, h⟩ := h
  exact t_callV (ci := 9) (as := [(vI x1), (vI x2)]) (S := [(vR x0)]) gk dX9_say_8 gX9_111 (by decide) rfl w_1649 wp_15 ea1 t2 rfl rfl (Nat.le_of_ble_eq_true rfl) (by decide) h
theorem vX9_say_11 {G : GG} (gk : GOK G) {σ : Mm} {K : RES → Mm → Prop} {x0 : Option Nat} {x1 : Int32} {x2 : Int32} {s0 : Int32} {s1 : Option Nat}
    (h : ∃ a1, s1 = some a1 ∧ (mt σ a1).1 = 10 ∧ Runs G mX9_ends rX9_ends [(vR s1), (vI s0)] σ (bk G mX9_say rX9_say 0 0 14 [some (vR x0), some (vI x1), some (vI x2)] [] K)) : At G mX9_say rX9_say 0 0 11 [some (vR x0), some (vI x1), some (vI x2)] [(vI s0), (vR s1)] σ K := by
  obtain ⟨a1, ea1, h⟩ := h
  obtain ⟨t2, h⟩ := h
  exact t_callV (ci := 9) (as := [(vI s0)]) (S := []) gk dX9_say_11 gX9_105 (by decide) rfl w_1630 wp_13 ea1 t2 rfl rfl (Nat.le_of_ble_eq_true rfl) (by decide) h
theorem vX9_say_14 {G : GG} (gk : GOK G) {σ : Mm} {K : RES → Mm → Prop} {x0 : Option Nat} {x1 : Int32} {x2 : Int32} {s0 : Int32}
    (h : K (.inl (some (vI s0))) σ) : At G mX9_say rX9_say 0 0 14 [some (vR x0), some (vI x1), some (vI x2)] [(vI s0)] σ K := by
  exact s_ireturn dX9_say_14 rfl rfl (by decide) (by decide) h
theorem vX9_jarCount_0 {G : GG} (gk : GOK G) {σ : Mm} {K : RES → Mm → Prop} {x0 : Option Nat}
    (h : ∃ a1, x0 = some a1 ∧ (mt σ a1).1 = 10 ∧ ∀ σ3, σ3 = si σ a1 6 (0 : Int32) → Runs G mX9_jars rX9_jars [(vR x0)] σ3 (bk G mX9_jarCount rX9_jarCount 0 0 9 [some (vR x0)] [] K)) : At G mX9_jarCount rX9_jarCount 0 0 0 [some (vR x0)] [] σ K := by
  refine s_aload_n (i := 0) dX9_jarCount_0 rfl rfl ?_
  refine s_iconst (v := 0) dX9_jarCount_1 (by decide) ?_
  obtain ⟨a1, ea1, h⟩ := h
  obtain ⟨t2, h⟩ := h
  refine t_putI gk dX9_jarCount_2 fX9_39 rfl rfl ea1 t2 ⟨rfl, rfl⟩ (fun σ3 eσ3 mσ3 => ?_)
  replace h := h σ3 eσ3
  refine s_aload_n (i := 0) dX9_jarCount_5 rfl rfl ?_
  exact t_callV (ci := 9) (as := []) (S := []) gk dX9_jarCount_6 gX9_95 (by decide) rfl w_1619 wp_11 ea1 (by rw [mσ3]; exact t2) rfl rfl (Nat.le_of_ble_eq_true rfl) (by decide) h
theorem eX9_jarCount {G : GG} (gk : GOK G) {σ : Mm} {K : RES → Mm → Prop} {x0 : Option Nat}
    (h : ∃ a1, x0 = some a1 ∧ (mt σ a1).1 = 10 ∧ ∀ σ3, σ3 = si σ a1 6 (0 : Int32) → Runs G mX9_jars rX9_jars [(vR x0)] σ3 (bk G mX9_jarCount rX9_jarCount 0 0 9 [some (vR x0)] [] K)) : Runs G mX9_jarCount rX9_jarCount [(vR x0)] σ K := Runs.of (by decide) rfl (Nat.le_of_ble_eq_true rfl) (vX9_jarCount_0 gk h)
theorem vX9_jarCount_9 {G : GG} (gk : GOK G) {σ : Mm} {K : RES → Mm → Prop} {x0 : Option Nat} {s0 : Int32}
    (h : K (.inl (some (vI s0))) σ) : At G mX9_jarCount rX9_jarCount 0 0 9 [some (vR x0)] [(vI s0)] σ K := by
  exact s_ireturn dX9_jarCount_9 rfl rfl (by decide) (by decide) h
theorem vX9_jarAt_0 {G : GG} (gk : GOK G) {σ : Mm} {K : RES → Mm → Prop} {x0 : Option Nat} {x1 : Int32}
    (h : ∃ a1, x0 = some a1 ∧ (mt σ a1).1 = 10 ∧ Runs G mX9_jars rX9_jars [(vR x0)] σ (bk G mX9_jarAt rX9_jarAt 0 0 7 [some (vR x0), some (vI x1), none, none, none, none] [(vI (0 : Int32)), (vI x1), (vR x0)] K)) : At G mX9_jarAt rX9_jarAt 0 0 0 [some (vR x0), some (vI x1), none, none, none, none] [] σ K := by
  refine s_aload_n (i := 0) dX9_jarAt_0 rfl rfl ?_
  refine s_iload_n (i := 1) dX9_jarAt_1 rfl rfl ?_
  refine s_iconst (v := 0) dX9_jarAt_2 (by decide) ?_
  refine s_aload_n (i := 0) dX9_jarAt_3 rfl rfl ?_
  obtain ⟨a1, ea1, h⟩ := h
  obtain ⟨t2, h⟩ := h
  exact t_callV (ci := 9) (as := []) (S := [(vI (0 : Int32)), (vI x1), (vR x0)]) gk dX9_jarAt_4 gX9_95 (by decide) rfl w_1619 wp_11 ea1 t2 rfl rfl (Nat.le_of_ble_eq_true rfl) (by decide) h
theorem eX9_jarAt {G : GG} (gk : GOK G) {σ : Mm} {K : RES → Mm → Prop} {x0 : Option Nat} {x1 : Int32}
    (h : ∃ a1, x0 = some a1 ∧ (mt σ a1).1 = 10 ∧ Runs G mX9_jars rX9_jars [(vR x0)] σ (bk G mX9_jarAt rX9_jarAt 0 0 7 [some (vR x0), some (vI x1), none, none, none, none] [(vI (0 : Int32)), (vI x1), (vR x0)] K)) : Runs G mX9_jarAt rX9_jarAt [(vR x0), (vI x1)] σ K := Runs.of (by decide) rfl (Nat.le_of_ble_eq_true rfl) (vX9_jarAt_0 gk h)
theorem vX9_jarAt_7 {G : GG} (gk : GOK G) {σ : Mm} {K : RES → Mm → Prop} {x0 : Option Nat} {x1 : Int32} {s0 : Int32} {s1 : Int32} {s2 : Int32} {s3 : Option Nat}
    (h : Runs G mX9_in rX9_in [(vI s2), (vI s1), (vI (s0 - (1 : Int32)))] σ (bk G mX9_jarAt rX9_jarAt 0 0 12 [some (vR x0), some (vI x1), none, none, none, none] [(vR s3)] K)) : At G mX9_jarAt rX9_jarAt 0 0 7 [some (vR x0), some (vI x1), none, none, none, none] [(vI s0), (vI s1), (vI s2), (vR s3)] σ K := by
  refine s_iconst (v := 1) dX9_jarAt_7 (by decide) ?_
  refine s_isub dX9_jarAt_8 ?_
  exact s_callS (as := [(vI s2), (vI s1), (vI (s0 - (1 : Int32)))]) (S := [(vR s3)]) gk dX9_jarAt_9 gX9_51 w_1611 rfl rfl (Nat.le_of_ble_eq_true rfl) (by decide) h
theorem vX9_jarAt_12 {G : GG} (gk : GOK G) {σ : Mm} {K : RES → Mm → Prop} {x0 : Option Nat} {x1 : Int32} {s0 : Int32} {s1 : Option Nat}
    (h : ∃ a1, s1 = some a1 ∧ (mt σ a1).1 = 10 ∧ Runs G mX9_isThere rX9_isThere [(vR s1), (vI s0)] σ (bk G mX9_jarAt rX9_jarAt 0 0 15 [some (vR x0), some (vI x1), none, none, none, none] [] K)) : At G mX9_jarAt rX9_jarAt 0 0 12 [some (vR x0), some (vI x1), none, none, none, none] [(vI s0), (vR s1)] σ K := by
  obtain ⟨a1, ea1, h⟩ := h
  obtain ⟨t2, h⟩ := h
  exact t_callV (ci := 9) (as := [(vI s0)]) (S := []) gk dX9_jarAt_12 gX9_114 (by decide) rfl w_1665 wp_17 ea1 t2 rfl rfl (Nat.le_of_ble_eq_true rfl) (by decide) h
theorem vX9_jarAt_15 {G : GG} (gk : GOK G) {σ : Mm} {K : RES → Mm → Prop} {x0 : Option Nat} {x1 : Int32} {s0 : Int32}
    (h : At G mX9_jarAt rX9_jarAt 0 0 26 [some (vR x0), some (vI x1), some (vI s0), some (vI (32 : Int32)), some (vI (0 : Int32)), some (vI (97 : Int32))] [] σ K) : At G mX9_jarAt rX9_jarAt 0 0 15 [some (vR x0), some (vI x1), none, none, none, none] [(vI s0)] σ K := by
  refine s_istore_n (i := 2) (L' := [some (vR x0), some (vI x1), some (vI s0), none, none, none]) dX9_jarAt_15 rfl rfl (by decide) rfl ?_
  refine s_bipush (v := 32) dX9_jarAt_16 (by decide) ?_
  refine s_istore_n (i := 3) (L' := [some (vR x0), some (vI x1), some (vI s0), some (vI (32 : Int32)), none, none]) dX9_jarAt_18 rfl rfl (by decide) rfl ?_
  refine s_iconst (v := 0) dX9_jarAt_19 (by decide) ?_
  refine s_istore (L' := [some (vR x0), some (vI x1), some (vI s0), some (vI (32 : Int32)), some (vI (0 : Int32)), none]) dX9_jarAt_20 rfl (by decide) rfl ?_
  refine s_bipush (v := 97) dX9_jarAt_22 (by decide) ?_
  refine s_istore (L' := [some (vR x0), some (vI x1), some (vI s0), some (vI (32 : Int32)), some (vI (0 : Int32)), some (vI (97 : Int32))]) dX9_jarAt_24 rfl (by decide) rfl ?_
  exact h
theorem vX9_jarAt_26 {G : GG} (gk : GOK G) {σ : Mm} {K : RES → Mm → Prop} {x0 : Option Nat} {x1 : Int32} {x2 : Int32} {x3 : Int32} {x4 : Int32} {x5 : Int32}
    (h : (((122 : Int32) < x5 → isC (i2c x3) ∧ K (.inl (some (vI (i2c x3)))) σ) ∧ (¬ (122 : Int32) < x5 → ((x2 = 0 → isC (i2c x3) ∧ K (.inl (some (vI (i2c x3)))) σ) ∧ (¬ x2 = 0 → ∃ a5, x0 = some a5 ∧ (mt σ a5).1 = 10 ∧ Runs G mX9_isJar rX9_isJar [(vR x0), (vI x5)] σ (bk G mX9_jarAt rX9_jarAt 0 0 43 [some (vR x0), some (vI x1), some (vI x2), some (vI x3), some (vI x4), some (vI x5)] [] K)))))) : At G mX9_jarAt rX9_jarAt 0 0 26 [some (vR x0), some (vI x1), some (vI x2), some (vI x3), some (vI x4), some (vI x5)] [] σ K := by
  refine s_iload dX9_jarAt_26 rfl ?_
  refine s_bipush (v := 122) dX9_jarAt_28 (by decide) ?_
  refine s_icmp_gt (tgt := 84) dX9_jarAt_30 (by decide) (fun q1 => ?_) (fun q1 => ?_)
  · have h := h.1 q1
    refine s_iload_n (i := 3) dX9_jarAt_84 rfl rfl ?_
    refine s_i2c (v := i2c x3) dX9_jarAt_85 rfl ?_
    obtain ⟨c2, h⟩ := h
    exact s_ireturn dX9_jarAt_86 rfl (nf_c c2).1 (by decide) (by decide) h
  · have h := h.2 q1
    refine s_iload_n (i := 2) dX9_jarAt_33 rfl rfl ?_
    refine s_if_eq (tgt := 84) dX9_jarAt_34 (by decide) (fun q3 => ?_) (fun q3 => ?_)
    · have h := h.1 q3
      refine s_iload_n (i := 3) dX9_jarAt_84 rfl rfl ?_
      refine s_i2c (v := i2c x3) dX9_jarAt_85 rfl ?_
      obtain ⟨c4, h⟩ := h
      exact s_ireturn dX9_jarAt_86 rfl (nf_c c4).1 (by decide) (by decide) h
    · have h := h.2 q3
      refine s_aload_n (i := 0) dX9_jarAt_37 rfl rfl ?_
      refine s_iload dX9_jarAt_38 rfl ?_
      obtain ⟨a5, ea5, h⟩ := h
      obtain ⟨t6, h⟩ := h
      exact t_callV (ci := 9) (as := [(vI x5)]) (S := []) gk dX9_jarAt_40 gX9_63 (by decide) rfl w_1623 wp_12 ea5 t6 rfl rfl (Nat.le_of_ble_eq_true rfl) (by decide) h
theorem vX9_jarAt_43 {G : GG} (gk : GOK G) {σ : Mm} {K : RES → Mm → Prop} {x0 : Option Nat} {x1 : Int32} {x2 : Int32} {x3 : Int32} {x4 : Int32} {x5 : Int32} {s0 : Int32}
    (h : ((s0 = 0 → ∃ a2, x0 = some a2 ∧ (mt σ a2).1 = 10 ∧ Runs G mX9_isJar rX9_isJar [(vR x0), (vI x5)] σ (bk G mX9_jarAt rX9_jarAt 0 0 67 [some (vR x0), some (vI x1), some (vI x2), some (vI x3), some (vI x4), some (vI x5)] [(vI x4)] K)) ∧ (¬ s0 = 0 → ((¬ x4 = x1 → ∃ a5, x0 = some a5 ∧ (mt σ a5).1 = 10 ∧ Runs G mX9_isJar rX9_isJar [(vR x0), (vI x5)] σ (bk G mX9_jarAt rX9_jarAt 0 0 67 [some (vR x0), some (vI x1), some (vI x2), some (vI x3), some (vI x4), some (vI x5)] [(vI x4)] K)) ∧ (x4 = x1 → ∃ a7, x0 = some a7 ∧ (mt σ a7).1 = 10 ∧ Runs G mX9_isJar rX9_isJar [(vR x0), (vI x5)] σ (bk G mX9_jarAt rX9_jarAt 0 0 67 [some (vR x0), some (vI x1), some (vI x2), some (vI x5), some (vI x4), some (vI x5)] [(vI x4)] K)))))) : At G mX9_jarAt rX9_jarAt 0 0 43 [some (vR x0), some (vI x1), some (vI x2), some (vI x3), some (vI x4), some (vI x5)] [(vI s0)] σ K := by
  refine s_if_eq (tgt := 57) dX9_jarAt_43 (by decide) (fun q1 => ?_) (fun q1 => ?_)
  · have h := h.1 q1
    refine s_iload_n (i := 3) dX9_jarAt_57 rfl rfl ?_
    refine s_istore_n (i := 3) (L' := [some (vR x0), some (vI x1), some (vI x2), some (vI x3), some (vI x4), some (vI x5)]) dX9_jarAt_58 rfl rfl (by decide) rfl ?_
    refine s_iload dX9_jarAt_59 rfl ?_
    refine s_aload_n (i := 0) dX9_jarAt_61 rfl rfl ?_
    refine s_iload dX9_jarAt_62 rfl ?_
    obtain ⟨a2, ea2, h⟩ := h
    obtain ⟨t3, h⟩ := h
    exact t_callV (ci := 9) (as := [(vI x5)]) (S := [(vI x4)]) gk dX9_jarAt_64 gX9_63 (by decide) rfl w_1623 wp_12 ea2 t3 rfl rfl (Nat.le_of_ble_eq_true rfl) (by decide) h
  · have h := h.2 q1
    refine s_iload dX9_jarAt_46 rfl ?_
    refine s_iload_n (i := 1) dX9_jarAt_48 rfl rfl ?_
    refine s_icmp_ne (tgt := 57) dX9_jarAt_49 (by decide) (fun q4 => ?_) (fun q4 => ?_)
    · have h := h.1 q4
      refine s_iload_n (i := 3) dX9_jarAt_57 rfl rfl ?_
      refine s_istore_n (i := 3) (L' := [some (vR x0), some (vI x1), some (vI x2), some (vI x3), some (vI x4), some (vI x5)]) dX9_jarAt_58 rfl rfl (by decide) rfl ?_
      refine s_iload dX9_jarAt_59 rfl ?_
      refine s_aload_n (i := 0) dX9_jarAt_61 rfl rfl ?_
      refine s_iload dX9_jarAt_62 rfl ?_
      obtain ⟨a5, ea5, h⟩ := h
      obtain ⟨t6, h⟩ := h
      exact t_callV (ci := 9) (as := [(vI x5)]) (S := [(vI x4)]) gk dX9_jarAt_64 gX9_63 (by decide) rfl w_1623 wp_12 ea5 t6 rfl rfl (Nat.le_of_ble_eq_true rfl) (by decide) h
    · have h := h.2 q4
      refine s_iload dX9_jarAt_52 rfl ?_
      refine s_goto (tgt := 58) dX9_jarAt_54 (by decide) ?_
      refine s_istore_n (i := 3) (L' := [some (vR x0), some (vI x1), some (vI x2), some (vI x5), some (vI x4), some (vI x5)]) dX9_jarAt_58 rfl rfl (by decide) rfl ?_
      refine s_iload dX9_jarAt_59 rfl ?_
      refine s_aload_n (i := 0) dX9_jarAt_61 rfl rfl ?_
      refine s_iload dX9_jarAt_62 rfl ?_
      obtain ⟨a7, ea7, h⟩ := h
      obtain ⟨t8, h⟩ := h
      exact t_callV (ci := 9) (as := [(vI x5)]) (S := [(vI x4)]) gk dX9_jarAt_64 gX9_63 (by decide) rfl w_1623 wp_12 ea7 t8 rfl rfl (Nat.le_of_ble_eq_true rfl) (by decide) h
theorem vX9_jarAt_67 {G : GG} (gk : GOK G) {σ : Mm} {K : RES → Mm → Prop} {x0 : Option Nat} {x1 : Int32} {x2 : Int32} {x3 : Int32} {x4 : Int32} {x5 : Int32} {s0 : Int32} {s1 : Int32}
    (h : ((s0 = 0 → At G mX9_jarAt rX9_jarAt 0 0 26 [some (vR x0), some (vI x1), some (vI x2), some (vI x3), some (vI (s1 + (0 : Int32))), some (vI (x5 + 1))] [] σ K) ∧ (¬ s0 = 0 → At G mX9_jarAt rX9_jarAt 0 0 26 [some (vR x0), some (vI x1), some (vI x2), some (vI x3), some (vI (s1 + (1 : Int32))), some (vI (x5 + 1))] [] σ K))) : At G mX9_jarAt rX9_jarAt 0 0 67 [some (vR x0), some (vI x1), some (vI x2), some (vI x3), some (vI x4), some (vI x5)] [(vI s0), (vI s1)] σ K := by
  refine s_if_eq (tgt := 74) dX9_jarAt_67 (by decide) (fun q1 => ?_) (fun q1 => ?_)
  · have h := h.1 q1
    refine s_iconst (v := 0) dX9_jarAt_74 (by decide) ?_
    refine s_iadd dX9_jarAt_75 ?_
    refine s_istore (L' := [some (vR x0), some (vI x1), some (vI x2), some (vI x3), some (vI (s1 + (0 : Int32))), some (vI x5)]) dX9_jarAt_76 rfl (by decide) rfl ?_
    refine s_iinc (v := x5 + 1) (L' := [some (vR x0), some (vI x1), some (vI x2), some (vI x3), some (vI (s1 + (0 : Int32))), some (vI (x5 + 1))]) dX9_jarAt_78 rfl rfl rfl (by decide) rfl ?_
    refine s_goto (tgt := 26) dX9_jarAt_81 (by decide) ?_
    exact h
  · have h := h.2 q1
    refine s_iconst (v := 1) dX9_jarAt_70 (by decide) ?_
    refine s_goto (tgt := 75) dX9_jarAt_71 (by decide) ?_
    refine s_iadd dX9_jarAt_75 ?_
    refine s_istore (L' := [some (vR x0), some (vI x1), some (vI x2), some (vI x3), some (vI (s1 + (1 : Int32))), some (vI x5)]) dX9_jarAt_76 rfl (by decide) rfl ?_
    refine s_iinc (v := x5 + 1) (L' := [some (vR x0), some (vI x1), some (vI x2), some (vI x3), some (vI (s1 + (1 : Int32))), some (vI (x5 + 1))]) dX9_jarAt_78 rfl rfl rfl (by decide) rfl ?_
    refine s_goto (tgt := 26) dX9_jarAt_81 (by decide) ?_
    exact h
theorem vX9_wordOf_0 {G : GG} (gk : GOK G) {σ : Mm} {K : RES → Mm → Prop} {x0 : Option Nat} {x1 : Int32}
    (h : ∃ a1, x0 = some a1 ∧ (mt σ a1).1 = 10 ∧ Runs G mX9_isJar rX9_isJar [(vR x0), (vI x1)] σ (bk G mX9_wordOf rX9_wordOf 0 0 6 [some (vR x0), some (vI x1)] [(vR x0)] K)) : At G mX9_wordOf rX9_wordOf 0 0 0 [some (vR x0), some (vI x1)] [] σ K := by
  refine s_aload_n (i := 0) dX9_wordOf_0 rfl rfl ?_
  refine s_aload_n (i := 0) dX9_wordOf_1 rfl rfl ?_
  refine s_iload_n (i := 1) dX9_wordOf_2 rfl rfl ?_
  obtain ⟨a1, ea1, h⟩ := h
  obtain ⟨t2, h⟩ := h
  exact t_callV (ci := 9) (as := [(vI x1)]) (S := [(vR x0)]) gk dX9_wordOf_3 gX9_63 (by decide) rfl w_1623 wp_12 ea1 t2 rfl rfl (Nat.le_of_ble_eq_true rfl) (by decide) h
theorem eX9_wordOf {G : GG} (gk : GOK G) {σ : Mm} {K : RES → Mm → Prop} {x0 : Option Nat} {x1 : Int32}
    (h : ∃ a1, x0 = some a1 ∧ (mt σ a1).1 = 10 ∧ Runs G mX9_isJar rX9_isJar [(vR x0), (vI x1)] σ (bk G mX9_wordOf rX9_wordOf 0 0 6 [some (vR x0), some (vI x1)] [(vR x0)] K)) : Runs G mX9_wordOf rX9_wordOf [(vR x0), (vI x1)] σ K := Runs.of (by decide) rfl (Nat.le_of_ble_eq_true rfl) (vX9_wordOf_0 gk h)
theorem vX9_wordOf_6 {G : GG} (gk : GOK G) {σ : Mm} {K : RES → Mm → Prop} {x0 : Option Nat} {x1 : Int32} {s0 : Int32} {s1 : Option Nat}
    (h : ∃ a1, s1 = some a1 ∧ (mt σ a1).1 = 10 ∧ Runs G mX9_isThere rX9_isThere [(vR s1), (vI s0)] σ (bk G mX9_wordOf rX9_wordOf 0 0 9 [some (vR x0), some (vI x1)] [] K)) : At G mX9_wordOf rX9_wordOf 0 0 6 [some (vR x0), some (vI x1)] [(vI s0), (vR s1)] σ K := by
  obtain ⟨a1, ea1, h⟩ := h
  obtain ⟨t2, h⟩ := h
  exact t_callV (ci := 9) (as := [(vI s0)]) (S := []) gk dX9_wordOf_6 gX9_114 (by decide) rfl w_1665 wp_17 ea1 t2 rfl rfl (Nat.le_of_ble_eq_true rfl) (by decide) h
theorem vX9_wordOf_9 {G : GG} (gk : GOK G) {σ : Mm} {K : RES → Mm → Prop} {x0 : Option Nat} {x1 : Int32} {s0 : Int32}
    (h : ((s0 = 0 → K (.inl (some (vI (0 : Int32)))) σ) ∧ (¬ s0 = 0 → ∃ a2, x0 = some a2 ∧ (mt σ a2).1 = 10 ∧ Runs G mX9_jar rX9_jar [(vI x1)] σ (bk G mX9_wordOf rX9_wordOf 0 0 20 [some (vR x0), some (vI x1)] [(vR (mr σ a2 0))] K)))) : At G mX9_wordOf rX9_wordOf 0 0 9 [some (vR x0), some (vI x1)] [(vI s0)] σ K := by
  refine s_if_eq (tgt := 26) dX9_wordOf_9 (by decide) (fun q1 => ?_) (fun q1 => ?_)
  · have h := h.1 q1
    refine s_iconst (v := 0) dX9_wordOf_26 (by decide) ?_
    exact s_ireturn dX9_wordOf_27 rfl rfl (by decide) (by decide) h
  · have h := h.2 q1
    refine s_aload_n (i := 0) dX9_wordOf_12 rfl rfl ?_
    obtain ⟨a2, ea2, h⟩ := h
    obtain ⟨t3, h⟩ := h
    refine t_getR gk dX9_wordOf_13 fX9_9 rfl ea2 t3 ?_
    refine s_iload_n (i := 1) dX9_wordOf_16 rfl rfl ?_
    exact s_callS (as := [(vI x1)]) (S := [(vR (mr σ a2 0))]) gk dX9_wordOf_17 gX9_59 w_1626 rfl rfl (Nat.le_of_ble_eq_true rfl) (by decide) h
theorem vX9_wordOf_20 {G : GG} (gk : GOK G) {σ : Mm} {K : RES → Mm → Prop} {x0 : Option Nat} {x1 : Int32} {s0 : Int32} {s1 : Option Nat}
    (h : ∃ a1, s1 = some a1 ∧ ∃ n3, mt σ a1 = (50, n3) ∧ vp_in (s0 + (1 : Int32)) n3 ∧ K (.inl (some (vI (mi σ a1 (s0 + (1 : Int32)).toNatClampNeg)))) σ) : At G mX9_wordOf rX9_wordOf 0 0 20 [some (vR x0), some (vI x1)] [(vI s0), (vR s1)] σ K := by
  refine s_iconst (v := 1) dX9_wordOf_20 (by decide) ?_
  refine s_iadd dX9_wordOf_21 ?_
  obtain ⟨a1, ea1, h⟩ := h
  obtain ⟨n3, t2, h⟩ := h
  obtain ⟨c4, h⟩ := h
  refine t_iald gk dX9_wordOf_22 ea1 t2 c4 ?_
  refine s_goto (tgt := 27) dX9_wordOf_23 (by decide) ?_
  exact s_ireturn dX9_wordOf_27 rfl rfl (by decide) (by decide) h
theorem vX9_doAddShelf_0 {G : GG} (gk : GOK G) {σ : Mm} {K : RES → Mm → Prop} {x0 : Option Nat} {x1 : Int32} {x2 : Int32} {x3 : Int32}
    (h : ∃ a1, x0 = some a1 ∧ (mt σ a1).1 = 10 ∧ ∃ a3, mr σ a1 0 = some a3 ∧ ∃ n5, mt σ a3 = (50, n5) ∧ vp_in (0 : Int32) n5 ∧ Runs G mX9_in rX9_in [(vI x1), (vI (1 : Int32)), (vI (6 : Int32))] σ (bk G mX9_doAddShelf rX9_doAddShelf 0 0 15 [some (vR x0), some (vI x1), some (vI x2), some (vI x3), some (vI (mi σ a3 (0 : Int32).toNatClampNeg)), none, none, none] [] K)) : At G mX9_doAddShelf rX9_doAddShelf 0 0 0 [some (vR x0), some (vI x1), some (vI x2), some (vI x3), none, none, none, none] [] σ K := by
  refine s_aload_n (i := 0) dX9_doAddShelf_0 rfl rfl ?_
  obtain ⟨a1, ea1, h⟩ := h
  obtain ⟨t2, h⟩ := h
  refine t_getR gk dX9_doAddShelf_1 fX9_9 rfl ea1 t2 ?_
  refine s_iconst (v := 0) dX9_doAddShelf_4 (by decide) ?_
  obtain ⟨a3, ea3, h⟩ := h
  obtain ⟨n5, t4, h⟩ := h
  obtain ⟨c6, h⟩ := h
  refine t_iald gk dX9_doAddShelf_5 ea3 t4 c6 ?_
  refine s_istore (L' := [some (vR x0), some (vI x1), some (vI x2), some (vI x3), some (vI (mi σ a3 (0 : Int32).toNatClampNeg)), none, none, none]) dX9_doAddShelf_6 rfl (by decide) rfl ?_
  refine s_iload_n (i := 1) dX9_doAddShelf_8 rfl rfl ?_
  refine s_iconst (v := 1) dX9_doAddShelf_9 (by decide) ?_
  refine s_bipush (v := 6) dX9_doAddShelf_10 (by decide) ?_
  exact s_callS (as := [(vI x1), (vI (1 : Int32)), (vI (6 : Int32))]) (S := []) gk dX9_doAddShelf_12 gX9_51 w_1611 rfl rfl (Nat.le_of_ble_eq_true rfl) (by decide) h
theorem eX9_doAddShelf {G : GG} (gk : GOK G) {σ : Mm} {K : RES → Mm → Prop} {x0 : Option Nat} {x1 : Int32} {x2 : Int32} {x3 : Int32}
    (h : ∃ a1, x0 = some a1 ∧ (mt σ a1).1 = 10 ∧ ∃ a3, mr σ a1 0 = some a3 ∧ ∃ n5, mt σ a3 = (50, n5) ∧ vp_in (0 : Int32) n5 ∧ Runs G mX9_in rX9_in [(vI x1), (vI (1 : Int32)), (vI (6 : Int32))] σ (bk G mX9_doAddShelf rX9_doAddShelf 0 0 15 [some (vR x0), some (vI x1), some (vI x2), some (vI x3), some (vI (mi σ a3 (0 : Int32).toNatClampNeg)), none, none, none] [] K)) : Runs G mX9_doAddShelf rX9_doAddShelf [(vR x0), (vI x1), (vI x2), (vI x3)] σ K := Runs.of (by decide) rfl (Nat.le_of_ble_eq_true rfl) (vX9_doAddShelf_0 gk h)
theorem vX9_doAddShelf_15 {G : GG} (gk : GOK G) {σ : Mm} {K : RES → Mm → Prop} {x0 : Option Nat} {x1 : Int32} {x2 : Int32} {x3 : Int32} {x4 : Int32} {s0 : Int32}
    (h : ((s0 = 0 → ((¬ (0 : Int32) = 0 → ((¬ x4 = (4 : Int32) → At G mX9_doAddShelf rX9_doAddShelf 0 0 90 [some (vR x0), some (vI x1), some (vI x2), some (vI x3), some (vI x4), some (vI (0 : Int32)), some (vI ((86 : Int32) + ((187 : Int32) * x4))), some (vI (0 : Int32))] [] σ K) ∧ (x4 = (4 : Int32) → ∃ a4, x0 = some a4 ∧ (mt σ a4).1 = 10 ∧ Runs G mX9_fails rX9_fails [(vR x0), (vI (2 : Int32))] σ (bk G mX9_doAddShelf rX9_doAddShelf 0 0 75 [some (vR x0), some (vI x1), some (vI x2), some (vI x3), some (vI x4), some (vI (0 : Int32)), none, none] [] K)))) ∧ ((0 : Int32) = 0 → ∃ a6, x0 = some a6 ∧ (mt σ a6).1 = 10 ∧ Runs G mX9_fails rX9_fails [(vR x0), (vI (1 : Int32))] σ (bk G mX9_doAddShelf rX9_doAddShelf 0 0 63 [some (vR x0), some (vI x1), some (vI x2), some (vI x3), some (vI x4), some (vI (0 : Int32)), none, none] [] K)))) ∧ (¬ s0 = 0 → Runs G mX9_in rX9_in [(vI x2), (vI (1 : Int32)), (vI (30 : Int32))] σ (bk G mX9_doAddShelf rX9_doAddShelf 0 0 25 [some (vR x0), some (vI x1), some (vI x2), some (vI x3), some (vI x4), none, none, none] [] K)))) : At G mX9_doAddShelf rX9_doAddShelf 0 0 15 [some (vR x0), some (vI x1), some (vI x2), some (vI x3), some (vI x4), none, none, none] [(vI s0)] σ K := by
  refine s_if_eq (tgt := 50) dX9_doAddShelf_15 (by decide) (fun q1 => ?_) (fun q1 => ?_)
  · have h := h.1 q1
    refine s_iconst (v := 0) dX9_doAddShelf_50 (by decide) ?_
    refine s_istore (L' := [some (vR x0), some (vI x1), some (vI x2), some (vI x3), some (vI x4), some (vI (0 : Int32)), none, none]) dX9_doAddShelf_51 rfl (by decide) rfl ?_
    refine s_iload dX9_doAddShelf_53 rfl ?_
    refine s_if_ne (tgt := 64) dX9_doAddShelf_55 (by decide) (fun q2 => ?_) (fun q2 => ?_)
    · have h := h.1 q2
      refine s_iload dX9_doAddShelf_64 rfl ?_
      refine s_iconst (v := 4) dX9_doAddShelf_66 (by decide) ?_
      refine s_icmp_ne (tgt := 76) dX9_doAddShelf_67 (by decide) (fun q3 => ?_) (fun q3 => ?_)
      · have h := h.1 q3
        refine s_bipush (v := 86) dX9_doAddShelf_76 (by decide) ?_
        refine s_sipush (v := 187) dX9_doAddShelf_78 (by decide) ?_
        refine s_iload dX9_doAddShelf_81 rfl ?_
        refine s_imul dX9_doAddShelf_83 ?_
        refine s_iadd dX9_doAddShelf_84 ?_
        refine s_istore (L' := [some (vR x0), some (vI x1), some (vI x2), some (vI x3), some (vI x4), some (vI (0 : Int32)), some (vI ((86 : Int32) + ((187 : Int32) * x4))), none]) dX9_doAddShelf_85 rfl (by decide) rfl ?_
        refine s_iconst (v := 0) dX9_doAddShelf_87 (by decide) ?_
        refine s_istore (L' := [some (vR x0), some (vI x1), some (vI x2), some (vI x3), some (vI x4), some (vI (0 : Int32)), some (vI ((86 : Int32) + ((187 : Int32) * x4))), some (vI (0 : Int32))]) dX9_doAddShelf_88 rfl (by decide) rfl ?_
        exact h
      · have h := h.2 q3
        refine s_aload_n (i := 0) dX9_doAddShelf_70 rfl rfl ?_
        refine s_iconst (v := 2) dX9_doAddShelf_71 (by decide) ?_
        obtain ⟨a4, ea4, h⟩ := h
        obtain ⟨t5, h⟩ := h
        exact t_callV (ci := 9) (as := [(vI (2 : Int32))]) (S := []) gk dX9_doAddShelf_72 gX9_92 (by decide) rfl w_1615 wp_10 ea4 t5 rfl rfl (Nat.le_of_ble_eq_true rfl) (by decide) h
    · have h := h.2 q2
      refine s_aload_n (i := 0) dX9_doAddShelf_58 rfl rfl ?_
      refine s_iconst (v := 1) dX9_doAddShelf_59 (by decide) ?_
      obtain ⟨a6, ea6, h⟩ := h
      obtain ⟨t7, h⟩ := h
      exact t_callV (ci := 9) (as := [(vI (1 : Int32))]) (S := []) gk dX9_doAddShelf_60 gX9_92 (by decide) rfl w_1615 wp_10 ea6 t7 rfl rfl (Nat.le_of_ble_eq_true rfl) (by decide) h
  · have h := h.2 q1
    refine s_iload_n (i := 2) dX9_doAddShelf_18 rfl rfl ?_
    refine s_iconst (v := 1) dX9_doAddShelf_19 (by decide) ?_
    refine s_bipush (v := 30) dX9_doAddShelf_20 (by decide) ?_
    exact s_callS (as := [(vI x2), (vI (1 : Int32)), (vI (30 : Int32))]) (S := []) gk dX9_doAddShelf_22 gX9_51 w_1611 rfl rfl (Nat.le_of_ble_eq_true rfl) (by decide) h
theorem vX9_doAddShelf_25 {G : GG} (gk : GOK G) {σ : Mm} {K : RES → Mm → Prop} {x0 : Option Nat} {x1 : Int32} {x2 : Int32} {x3 : Int32} {x4 : Int32} {s0 : Int32}
    (h : ((s0 = 0 → ((¬ (0 : Int32) = 0 → ((¬ x4 = (4 : Int32) → At G mX9_doAddShelf rX9_doAddShelf 0 0 90 [some (vR x0), some (vI x1), some (vI x2), some (vI x3), some (vI x4), some (vI (0 : Int32)), some (vI ((86 : Int32) + ((187 : Int32) * x4))), some (vI (0 : Int32))] [] σ K) ∧ (x4 = (4 : Int32) → ∃ a4, x0 = some a4 ∧ (mt σ a4).1 = 10 ∧ Runs G mX9_fails rX9_fails [(vR x0), (vI (2 : Int32))] σ (bk G mX9_doAddShelf rX9_doAddShelf 0 0 75 [some (vR x0), some (vI x1), some (vI x2), some (vI x3), some (vI x4), some (vI (0 : Int32)), none, none] [] K)))) ∧ ((0 : Int32) = 0 → ∃ a6, x0 = some a6 ∧ (mt σ a6).1 = 10 ∧ Runs G mX9_fails rX9_fails [(vR x0), (vI (1 : Int32))] σ (bk G mX9_doAddShelf rX9_doAddShelf 0 0 63 [some (vR x0), some (vI x1), some (vI x2), some (vI x3), some (vI x4), some (vI (0 : Int32)), none, none] [] K)))) ∧ (¬ s0 = 0 → ((x3 = (114 : Int32) → ((¬ (1 : Int32) = 0 → ((¬ x4 = (4 : Int32) → At G mX9_doAddShelf rX9_doAddShelf 0 0 90 [some (vR x0), some (vI x1), some (vI x2), some (vI x3), some (vI x4), some (vI (1 : Int32)), some (vI ((86 : Int32) + ((187 : Int32) * x4))), some (vI (0 : Int32))] [] σ K) ∧ (x4 = (4 : Int32) → ∃ a11, x0 = some a11 ∧ (mt σ a11).1 = 10 ∧ Runs G mX9_fails rX9_fails [(vR x0), (vI (2 : Int32))] σ (bk G mX9_doAddShelf rX9_doAddShelf 0 0 75 [some (vR x0), some (vI x1), some (vI x2), some (vI x3), some (vI x4), some (vI (1 : Int32)), none, none] [] K)))) ∧ ((1 : Int32) = 0 → ∃ a13, x0 = some a13 ∧ (mt σ a13).1 = 10 ∧ Runs G mX9_fails rX9_fails [(vR x0), (vI (1 : Int32))] σ (bk G mX9_doAddShelf rX9_doAddShelf 0 0 63 [some (vR x0), some (vI x1), some (vI x2), some (vI x3), some (vI x4), some (vI (1 : Int32)), none, none] [] K)))) ∧ (¬ x3 = (114 : Int32) → ((x3 = (111 : Int32) → ((¬ (1 : Int32) = 0 → ((¬ x4 = (4 : Int32) → At G mX9_doAddShelf rX9_doAddShelf 0 0 90 [some (vR x0), some (vI x1), some (vI x2), some (vI x3), some (vI x4), some (vI (1 : Int32)), some (vI ((86 : Int32) + ((187 : Int32) * x4))), some (vI (0 : Int32))] [] σ K) ∧ (x4 = (4 : Int32) → ∃ a18, x0 = some a18 ∧ (mt σ a18).1 = 10 ∧ Runs G mX9_fails rX9_fails [(vR x0), (vI (2 : Int32))] σ (bk G mX9_doAddShelf rX9_doAddShelf 0 0 75 [some (vR x0), some (vI x1), some (vI x2), some (vI x3), some (vI x4), some (vI (1 : Int32)), none, none] [] K)))) ∧ ((1 : Int32) = 0 → ∃ a20, x0 = some a20 ∧ (mt σ a20).1 = 10 ∧ Runs G mX9_fails rX9_fails [(vR x0), (vI (1 : Int32))] σ (bk G mX9_doAddShelf rX9_doAddShelf 0 0 63 [some (vR x0), some (vI x1), some (vI x2), some (vI x3), some (vI x4), some (vI (1 : Int32)), none, none] [] K)))) ∧ (¬ x3 = (111 : Int32) → ((¬ x3 = (108 : Int32) → ((¬ (0 : Int32) = 0 → ((¬ x4 = (4 : Int32) → At G mX9_doAddShelf rX9_doAddShelf 0 0 90 [some (vR x0), some (vI x1), some (vI x2), some (vI x3), some (vI x4), some (vI (0 : Int32)), some (vI ((86 : Int32) + ((187 : Int32) * x4))), some (vI (0 : Int32))] [] σ K) ∧ (x4 = (4 : Int32) → ∃ a25, x0 = some a25 ∧ (mt σ a25).1 = 10 ∧ Runs G mX9_fails rX9_fails [(vR x0), (vI (2 : Int32))] σ (bk G mX9_doAddShelf rX9_doAddShelf 0 0 75 [some (vR x0), some (vI x1), some (vI x2), some (vI x3), some (vI x4), some (vI (0 : Int32)), none, none] [] K)))) ∧ ((0 : Int32) = 0 → ∃ a27, x0 = some a27 ∧ (mt σ a27).1 = 10 ∧ Runs G mX9_fails rX9_fails [(vR x0), (vI (1 : Int32))] σ (bk G mX9_doAddShelf rX9_doAddShelf 0 0 63 [some (vR x0), some (vI x1), some (vI x2), some (vI x3), some (vI x4), some (vI (0 : Int32)), none, none] [] K)))) ∧ (x3 = (108 : Int32) → ((¬ (1 : Int32) = 0 → ((¬ x4 = (4 : Int32) → At G mX9_doAddShelf rX9_doAddShelf 0 0 90 [some (vR x0), some (vI x1), some (vI x2), some (vI x3), some (vI x4), some (vI (1 : Int32)), some (vI ((86 : Int32) + ((187 : Int32) * x4))), some (vI (0 : Int32))] [] σ K) ∧ (x4 = (4 : Int32) → ∃ a31, x0 = some a31 ∧ (mt σ a31).1 = 10 ∧ Runs G mX9_fails rX9_fails [(vR x0), (vI (2 : Int32))] σ (bk G mX9_doAddShelf rX9_doAddShelf 0 0 75 [some (vR x0), some (vI x1), some (vI x2), some (vI x3), some (vI x4), some (vI (1 : Int32)), none, none] [] K)))) ∧ ((1 : Int32) = 0 → ∃ a33, x0 = some a33 ∧ (mt σ a33).1 = 10 ∧ Runs G mX9_fails rX9_fails [(vR x0), (vI (1 : Int32))] σ (bk G mX9_doAddShelf rX9_doAddShelf 0 0 63 [some (vR x0), some (vI x1), some (vI x2), some (vI x3), some (vI x4), some (vI (1 : Int32)), none, none] [] K)))))))))))) : At G mX9_doAddShelf rX9_doAddShelf 0 0 25 [some (vR x0), some (vI x1), some (vI x2), some (vI x3), some (vI x4), none, none, none] [(vI s0)] σ K := by
  refine s_if_eq (tgt := 50) dX9_doAddShelf_25 (by decide) (fun q1 => ?_) (fun q1 => ?_)
  · have h := h.1 q1
    refine s_iconst (v := 0) dX9_doAddShelf_50 (by decide) ?_
    refine s_istore (L' := [some (vR x0), some (vI x1), some (vI x2), some (vI x3), some (vI x4), some (vI (0 : Int32)), none, none]) dX9_doAddShelf_51 rfl (by decide) rfl ?_
    refine s_iload dX9_doAddShelf_53 rfl ?_
    refine s_if_ne (tgt := 64) dX9_doAddShelf_55 (by decide) (fun q2 => ?_) (fun q2 => ?_)
    · have h := h.1 q2
      refine s_iload dX9_doAddShelf_64 rfl ?_
      refine s_iconst (v := 4) dX9_doAddShelf_66 (by decide) ?_
      refine s_icmp_ne (tgt := 76) dX9_doAddShelf_67 (by decide) (fun q3 => ?_) (fun q3 => ?_)
      · have h := h.1 q3
        refine s_bipush (v := 86) dX9_doAddShelf_76 (by decide) ?_
        refine s_sipush (v := 187) dX9_doAddShelf_78 (by decide) ?_
        refine s_iload dX9_doAddShelf_81 rfl ?_
        refine s_imul dX9_doAddShelf_83 ?_
        refine s_iadd dX9_doAddShelf_84 ?_
        refine s_istore (L' := [some (vR x0), some (vI x1), some (vI x2), some (vI x3), some (vI x4), some (vI (0 : Int32)), some (vI ((86 : Int32) + ((187 : Int32) * x4))), none]) dX9_doAddShelf_85 rfl (by decide) rfl ?_
        refine s_iconst (v := 0) dX9_doAddShelf_87 (by decide) ?_
        refine s_istore (L' := [some (vR x0), some (vI x1), some (vI x2), some (vI x3), some (vI x4), some (vI (0 : Int32)), some (vI ((86 : Int32) + ((187 : Int32) * x4))), some (vI (0 : Int32))]) dX9_doAddShelf_88 rfl (by decide) rfl ?_
        exact h
      · have h := h.2 q3
        refine s_aload_n (i := 0) dX9_doAddShelf_70 rfl rfl ?_
        refine s_iconst (v := 2) dX9_doAddShelf_71 (by decide) ?_
        obtain ⟨a4, ea4, h⟩ := h
        obtain ⟨t5, h⟩ := h
        exact t_callV (ci := 9) (as := [(vI (2 : Int32))]) (S := []) gk dX9_doAddShelf_72 gX9_92 (by decide) rfl w_1615 wp_10 ea4 t5 rfl rfl (Nat.le_of_ble_eq_true rfl) (by decide) h
    · have h := h.2 q2
      refine s_aload_n (i := 0) dX9_doAddShelf_58 rfl rfl ?_
      refine s_iconst (v := 1) dX9_doAddShelf_59 (by decide) ?_
      obtain ⟨a6, ea6, h⟩ := h
      obtain ⟨t7, h⟩ := h
      exact t_callV (ci := 9) (as := [(vI (1 : Int32))]) (S := []) gk dX9_doAddShelf_60 gX9_92 (by decide) rfl w_1615 wp_10 ea6 t7 rfl rfl (Nat.le_of_ble_eq_true rfl) (by decide) h
  · have h := h.2 q1
    refine s_iload_n (i := 3) dX9_doAddShelf_28 rfl rfl ?_
    refine s_bipush (v := 114) dX9_doAddShelf_29 (by decide) ?_
    refine s_icmp_eq (tgt := 46) dX9_doAddShelf_31 (by decide) (fun q8 => ?_) (fun q8 => ?_)
    · have h := h.1 q8
      refine s_iconst (v := 1) dX9_doAddShelf_46 (by decide) ?_
      refine s_goto (tgt := 51) dX9_doAddShelf_47 (by decide) ?_
      refine s_istore (L' := [some (vR x0), some (vI x1), some (vI x2), some (vI x3), some (vI x4), some (vI (1 : Int32)), none, none]) dX9_doAddShelf_51 rfl (by decide) rfl ?_
      refine s_iload dX9_doAddShelf_53 rfl ?_
      refine s_if_ne (tgt := 64) dX9_doAddShelf_55 (by decide) (fun q9 => ?_) (fun q9 => ?_)
      · have h := h.1 q9
        refine s_iload dX9_doAddShelf_64 rfl ?_
        refine s_iconst (v := 4) dX9_doAddShelf_66 (by decide) ?_
        refine s_icmp_ne (tgt := 76) dX9_doAddShelf_67 (by decide) (fun q10 => ?_) (fun q10 => ?_)
        · have h := h.1 q10
          refine s_bipush (v := 86) dX9_doAddShelf_76 (by decide) ?_
          refine s_sipush (v := 187) dX9_doAddShelf_78 (by decide) ?_
          refine s_iload dX9_doAddShelf_81 rfl ?_
          refine s_imul dX9_doAddShelf_83 ?_
          refine s_iadd dX9_doAddShelf_84 ?_
          refine s_istore (L' := [some (vR x0), some (vI x1), some (vI x2), some (vI x3), some (vI x4), some (vI (1 : Int32)), some (vI ((86 : Int32) + ((187 : Int32) * x4))), none]) dX9_doAddShelf_85 rfl (by decide) rfl ?_
          refine s_iconst (v := 0) dX9_doAddShelf_87 (by decide) ?_
          refine s_istore (L' := [some (vR x0), some (vI x1), some (vI x2), some (vI x3), some (vI x4), some (vI (1 : Int32)), some (vI ((86 : Int32) + ((187 : Int32) * x4))), some (vI (0 : Int32))]) dX9_doAddShelf_88 rfl (by decide) rfl ?_
          exact h
        · have h := h.2 q10
          refine s_aload_n (i := 0) dX9_doAddShelf_70 rfl rfl ?_
          refine s_iconst (v := 2) dX9_doAddShelf_71 (by decide) ?_
          obtain ⟨a11, ea11, h⟩ := h
          obtain ⟨t12, h⟩ := h
          exact t_callV (ci := 9) (as := [(vI (2 : Int32))]) (S := []) gk dX9_doAddShelf_72 gX9_92 (by decide) rfl w_1615 wp_10 ea11 t12 rfl rfl (Nat.le_of_ble_eq_true rfl) (by decide) h
      · have h := h.2 q9
        refine s_aload_n (i := 0) dX9_doAddShelf_58 rfl rfl ?_
        refine s_iconst (v := 1) dX9_doAddShelf_59 (by decide) ?_
        obtain ⟨a13, ea13, h⟩ := h
        obtain ⟨t14, h⟩ := h
        exact t_callV (ci := 9) (as := [(vI (1 : Int32))]) (S := []) gk dX9_doAddShelf_60 gX9_92 (by decide) rfl w_1615 wp_10 ea13 t14 rfl rfl (Nat.le_of_ble_eq_true rfl) (by decide) h
    · have h := h.2 q8
      refine s_iload_n (i := 3) dX9_doAddShelf_34 rfl rfl ?_
      refine s_bipush (v := 111) dX9_doAddShelf_35 (by decide) ?_
      refine s_icmp_eq (tgt := 46) dX9_doAddShelf_37 (by decide) (fun q15 => ?_) (fun q15 => ?_)
      · have h := h.1 q15
        refine s_iconst (v := 1) dX9_doAddShelf_46 (by decide) ?_
        refine s_goto (tgt := 51) dX9_doAddShelf_47 (by decide) ?_
        refine s_istore (L' := [some (vR x0), some (vI x1), some (vI x2), some (vI x3), some (vI x4), some (vI (1 : Int32)), none, none]) dX9_doAddShelf_51 rfl (by decide) rfl ?_
        refine s_iload dX9_doAddShelf_53 rfl ?_
        refine s_if_ne (tgt := 64) dX9_doAddShelf_55 (by decide) (fun q16 => ?_) (fun q16 => ?_)
        · have h := h.1 q16
          refine s_iload dX9_doAddShelf_64 rfl ?_
          refine s_iconst (v := 4) dX9_doAddShelf_66 (by decide) ?_
          refine s_icmp_ne (tgt := 76) dX9_doAddShelf_67 (by decide) (fun q17 => ?_) (fun q17 => ?_)
          · have h := h.1 q17
            refine s_bipush (v := 86) dX9_doAddShelf_76 (by decide) ?_
            refine s_sipush (v := 187) dX9_doAddShelf_78 (by decide) ?_
            refine s_iload dX9_doAddShelf_81 rfl ?_
            refine s_imul dX9_doAddShelf_83 ?_
            refine s_iadd dX9_doAddShelf_84 ?_
            refine s_istore (L' := [some (vR x0), some (vI x1), some (vI x2), some (vI x3), some (vI x4), some (vI (1 : Int32)), some (vI ((86 : Int32) + ((187 : Int32) * x4))), none]) dX9_doAddShelf_85 rfl (by decide) rfl ?_
            refine s_iconst (v := 0) dX9_doAddShelf_87 (by decide) ?_
            refine s_istore (L' := [some (vR x0), some (vI x1), some (vI x2), some (vI x3), some (vI x4), some (vI (1 : Int32)), some (vI ((86 : Int32) + ((187 : Int32) * x4))), some (vI (0 : Int32))]) dX9_doAddShelf_88 rfl (by decide) rfl ?_
            exact h
          · have h := h.2 q17
            refine s_aload_n (i := 0) dX9_doAddShelf_70 rfl rfl ?_
            refine s_iconst (v := 2) dX9_doAddShelf_71 (by decide) ?_
            obtain ⟨a18, ea18, h⟩ := h
            obtain ⟨t19, h⟩ := h
            exact t_callV (ci := 9) (as := [(vI (2 : Int32))]) (S := []) gk dX9_doAddShelf_72 gX9_92 (by decide) rfl w_1615 wp_10 ea18 t19 rfl rfl (Nat.le_of_ble_eq_true rfl) (by decide) h
        · have h := h.2 q16
          refine s_aload_n (i := 0) dX9_doAddShelf_58 rfl rfl ?_
          refine s_iconst (v := 1) dX9_doAddShelf_59 (by decide) ?_
          obtain ⟨a20, ea20, h⟩ := h
          obtain ⟨t21, h⟩ := h
          exact t_callV (ci := 9) (as := [(vI (1 : Int32))]) (S := []) gk dX9_doAddShelf_60 gX9_92 (by decide) rfl w_1615 wp_10 ea20 t21 rfl rfl (Nat.le_of_ble_eq_true rfl) (by decide) h
      · have h := h.2 q15
        refine s_iload_n (i := 3) dX9_doAddShelf_40 rfl rfl ?_
        refine s_bipush (v := 108) dX9_doAddShelf_41 (by decide) ?_
        refine s_icmp_ne (tgt := 50) dX9_doAddShelf_43 (by decide) (fun q22 => ?_) (fun q22 => ?_)
        · have h := h.1 q22
          refine s_iconst (v := 0) dX9_doAddShelf_50 (by decide) ?_
          refine s_istore (L' := [some (vR x0), some (vI x1), some (vI x2), some (vI x3), some (vI x4), some (vI (0 : Int32)), none, none]) dX9_doAddShelf_51 rfl (by decide) rfl ?_
          refine s_iload dX9_doAddShelf_53 rfl ?_
          refine s_if_ne (tgt := 64) dX9_doAddShelf_55 (by decide) (fun q23 => ?_) (fun q23 => ?_)
          · have h := h.1 q23
            refine s_iload dX9_doAddShelf_64 rfl ?_
            refine s_iconst (v := 4) dX9_doAddShelf_66 (by decide) ?_
            refine s_icmp_ne (tgt := 76) dX9_doAddShelf_67 (by decide) (fun q24 => ?_) (fun q24 => ?_)
            · have h := h.1 q24
              refine s_bipush (v := 86) dX9_doAddShelf_76 (by decide) ?_
              refine s_sipush (v := 187) dX9_doAddShelf_78 (by decide) ?_
              refine s_iload dX9_doAddShelf_81 rfl ?_
              refine s_imul dX9_doAddShelf_83 ?_
              refine s_iadd dX9_doAddShelf_84 ?_
              refine s_istore (L' := [some (vR x0), some (vI x1), some (vI x2), some (vI x3), some (vI x4), some (vI (0 : Int32)), some (vI ((86 : Int32) + ((187 : Int32) * x4))), none]) dX9_doAddShelf_85 rfl (by decide) rfl ?_
              refine s_iconst (v := 0) dX9_doAddShelf_87 (by decide) ?_
              refine s_istore (L' := [some (vR x0), some (vI x1), some (vI x2), some (vI x3), some (vI x4), some (vI (0 : Int32)), some (vI ((86 : Int32) + ((187 : Int32) * x4))), some (vI (0 : Int32))]) dX9_doAddShelf_88 rfl (by decide) rfl ?_
              exact h
            · have h := h.2 q24
              refine s_aload_n (i := 0) dX9_doAddShelf_70 rfl rfl ?_
              refine s_iconst (v := 2) dX9_doAddShelf_71 (by decide) ?_
              obtain ⟨a25, ea25, h⟩ := h
              obtain ⟨t26, h⟩ := h
              exact t_callV (ci := 9) (as := [(vI (2 : Int32))]) (S := []) gk dX9_doAddShelf_72 gX9_92 (by decide) rfl w_1615 wp_10 ea25 t26 rfl rfl (Nat.le_of_ble_eq_true rfl) (by decide) h
          · have h := h.2 q23
            refine s_aload_n (i := 0) dX9_doAddShelf_58 rfl rfl ?_
            refine s_iconst (v := 1) dX9_doAddShelf_59 (by decide) ?_
            obtain ⟨a27, ea27, h⟩ := h
            obtain ⟨t28, h⟩ := h
            exact t_callV (ci := 9) (as := [(vI (1 : Int32))]) (S := []) gk dX9_doAddShelf_60 gX9_92 (by decide) rfl w_1615 wp_10 ea27 t28 rfl rfl (Nat.le_of_ble_eq_true rfl) (by decide) h
        · have h := h.2 q22
          refine s_iconst (v := 1) dX9_doAddShelf_46 (by decide) ?_
          refine s_goto (tgt := 51) dX9_doAddShelf_47 (by decide) ?_
          refine s_istore (L' := [some (vR x0), some (vI x1), some (vI x2), some (vI x3), some (vI x4), some (vI (1 : Int32)), none, none]) dX9_doAddShelf_51 rfl (by decide) rfl ?_
          refine s_iload dX9_doAddShelf_53 rfl ?_
          refine s_if_ne (tgt := 64) dX9_doAddShelf_55 (by decide) (fun q29 => ?_) (fun q29 => ?_)
          · have h := h.1 q29
            refine s_iload dX9_doAddShelf_64 rfl ?_
            refine s_iconst (v := 4) dX9_doAddShelf_66 (by decide) ?_
            refine s_icmp_ne (tgt := 76) dX9_doAddShelf_67 (by decide) (fun q30 => ?_) (fun q30 => ?_)
            · have h := h.1 q30
              refine s_bipush (v := 86) dX9_doAddShelf_76 (by decide) ?_
              refine s_sipush (v := 187) dX9_doAddShelf_78 (by decide) ?_
              refine s_iload dX9_doAddShelf_81 rfl ?_
              refine s_imul dX9_doAddShelf_83 ?_
              refine s_iadd dX9_doAddShelf_84 ?_
              refine s_istore (L' := [some (vR x0), some (vI x1), some (vI x2), some (vI x3), some (vI x4), some (vI (1 : Int32)), some (vI ((86 : Int32) + ((187 : Int32) * x4))), none]) dX9_doAddShelf_85 rfl (by decide) rfl ?_
              refine s_iconst (v := 0) dX9_doAddShelf_87 (by decide) ?_
              refine s_istore (L' := [some (vR x0), some (vI x1), some (vI x2), some (vI x3), some (vI x4), some (vI (1 : Int32)), some (vI ((86 : Int32) + ((187 : Int32) * x4))), some (vI (0 : Int32))]) dX9_doAddShelf_88 rfl (by decide) rfl ?_
              exact h
            · have h := h.2 q30
              refine s_aload_n (i := 0) dX9_doAddShelf_70 rfl rfl ?_
              refine s_iconst (v := 2) dX9_doAddShelf_71 (by decide) ?_
              obtain ⟨a31, ea31, h⟩ := h
              obtain ⟨t32, h⟩ := h
              exact t_callV (ci := 9) (as := [(vI (2 : Int32))]) (S := []) gk dX9_doAddShelf_72 gX9_92 (by decide) rfl w_1615 wp_10 ea31 t32 rfl rfl (Nat.le_of_ble_eq_true rfl) (by decide) h
          · have h := h.2 q29
            refine s_aload_n (i := 0) dX9_doAddShelf_58 rfl rfl ?_
            refine s_iconst (v := 1) dX9_doAddShelf_59 (by decide) ?_
            obtain ⟨a33, ea33, h⟩ := h
            obtain ⟨t34, h⟩ := h
            exact t_callV (ci := 9) (as := [(vI (1 : Int32))]) (S := []) gk dX9_doAddShelf_60 gX9_92 (by decide) rfl w_1615 wp_10 ea33 t34 rfl rfl (Nat.le_of_ble_eq_true rfl) (by decide) h
theorem vX9_doAddShelf_63 {G : GG} (gk : GOK G) {σ : Mm} {K : RES → Mm → Prop} {x0 : Option Nat} {x1 : Int32} {x2 : Int32} {x3 : Int32} {x4 : Int32} {x5 : Int32} {s0 : Int32}
    (h : K (.inl (some (vI s0))) σ) : At G mX9_doAddShelf rX9_doAddShelf 0 0 63 [some (vR x0), some (vI x1), some (vI x2), some (vI x3), some (vI x4), some (vI x5), none, none] [(vI s0)] σ K := by
  exact s_ireturn dX9_doAddShelf_63 rfl rfl (by decide) (by decide) h
theorem vX9_doAddShelf_75 {G : GG} (gk : GOK G) {σ : Mm} {K : RES → Mm → Prop} {x0 : Option Nat} {x1 : Int32} {x2 : Int32} {x3 : Int32} {x4 : Int32} {x5 : Int32} {s0 : Int32}
    (h : K (.inl (some (vI s0))) σ) : At G mX9_doAddShelf rX9_doAddShelf 0 0 75 [some (vR x0), some (vI x1), some (vI x2), some (vI x3), some (vI x4), some (vI x5), none, none] [(vI s0)] σ K := by
  exact s_ireturn dX9_doAddShelf_75 rfl rfl (by decide) (by decide) h
theorem vX9_doAddShelf_90 {G : GG} (gk : GOK G) {σ : Mm} {K : RES → Mm → Prop} {x0 : Option Nat} {x1 : Int32} {x2 : Int32} {x3 : Int32} {x4 : Int32} {x5 : Int32} {x6 : Int32} {x7 : Int32}
    (h : (((187 : Int32) ≤ x7 → ∃ a2, x0 = some a2 ∧ (mt σ a2).1 = 10 ∧ ∃ a4, mr σ a2 0 = some a4 ∧ ∃ n6, mt σ a4 = (50, n6) ∧ vp_in x6 n6 ∧ ∀ σ8, σ8 = si σ a4 x6.toNatClampNeg x1 → ∃ a9, mr σ8 a2 0 = some a9 ∧ ∃ n11, mt σ a9 = (50, n11) ∧ vp_in (x6 + (1 : Int32)) n11 ∧ ∀ σ13, σ13 = si σ8 a9 (x6 + (1 : Int32)).toNatClampNeg x2 → ∃ a14, mr σ13 a2 0 = some a14 ∧ ∃ n16, mt σ a14 = (50, n16) ∧ vp_in (x6 + (2 : Int32)) n16 ∧ ∀ σ18, σ18 = si σ13 a14 (x6 + (2 : Int32)).toNatClampNeg x3 → ∃ a19, mr σ18 a2 0 = some a19 ∧ ∃ n21, mt σ a19 = (50, n21) ∧ vp_in (x6 + (3 : Int32)) n21 ∧ ∀ σ23, σ23 = si σ18 a19 (x6 + (3 : Int32)).toNatClampNeg (1 : Int32) → ∃ a24, mr σ23 a2 0 = some a24 ∧ ∃ n26, mt σ a24 = (50, n26) ∧ vp_in (0 : Int32) n26 ∧ vp_in (0 : Int32) n26 ∧ ∀ σ29, σ29 = si σ23 a24 (0 : Int32).toNatClampNeg ((mi σ23 a24 (0 : Int32).toNatClampNeg) + (1 : Int32)) → K (.inl (some (vI x4))) σ29) ∧ (¬ (187 : Int32) ≤ x7 → ∃ a30, x0 = some a30 ∧ (mt σ a30).1 = 10 ∧ ∃ a32, mr σ a30 0 = some a32 ∧ ∃ n34, mt σ a32 = (50, n34) ∧ vp_in (x6 + x7) n34 ∧ ∀ σ36, σ36 = si σ a32 (x6 + x7).toNatClampNeg (0 : Int32) → At G mX9_doAddShelf rX9_doAddShelf 0 0 90 [some (vR x0), some (vI x1), some (vI x2), some (vI x3), some (vI x4), some (vI x5), some (vI x6), some (vI (x7 + 1))] [] σ36 K))) : At G mX9_doAddShelf rX9_doAddShelf 0 0 90 [some (vR x0), some (vI x1), some (vI x2), some (vI x3), some (vI x4), some (vI x5), some (vI x6), some (vI x7)] [] σ K := by
  refine s_iload dX9_doAddShelf_90 rfl ?_
  refine s_sipush (v := 187) dX9_doAddShelf_92 (by decide) ?_
  refine s_icmp_ge (tgt := 115) dX9_doAddShelf_95 (by decide) (fun q1 => ?_) (fun q1 => ?_)
  · have h := h.1 q1
    refine s_aload_n (i := 0) dX9_doAddShelf_115 rfl rfl ?_
    obtain ⟨a2, ea2, h⟩ := h
    obtain ⟨t3, h⟩ := h
    refine t_getR gk dX9_doAddShelf_116 fX9_9 rfl ea2 t3 ?_
    refine s_iload dX9_doAddShelf_119 rfl ?_
    refine s_iload_n (i := 1) dX9_doAddShelf_121 rfl rfl ?_
    obtain ⟨a4, ea4, h⟩ := h
    obtain ⟨n6, t5, h⟩ := h
    obtain ⟨c7, h⟩ := h
    refine t_iast gk dX9_doAddShelf_122 ea4 t5 c7 (fun σ8 eσ8 mσ8 => ?_)
    replace h := h σ8 eσ8
    refine s_aload_n (i := 0) dX9_doAddShelf_123 rfl rfl ?_
    refine t_getR gk dX9_doAddShelf_124 fX9_9 rfl ea2 (by rw [mσ8]; exact t3) ?_
    refine s_iload dX9_doAddShelf_127 rfl ?_
    refine s_iconst (v := 1) dX9_doAddShelf_129 (by decide) ?_
    refine s_iadd dX9_doAddShelf_130 ?_
    refine s_iload_n (i := 2) dX9_doAddShelf_131 rfl rfl ?_
    obtain ⟨a9, ea9, h⟩ := h
    obtain ⟨n11, t10, h⟩ := h
    obtain ⟨c12, h⟩ := h
    refine t_iast gk dX9_doAddShelf_132 ea9 (by rw [mσ8]; exact t10) c12 (fun σ13 eσ13 mσ13 => ?_)
    replace h := h σ13 eσ13
    refine s_aload_n (i := 0) dX9_doAddShelf_133 rfl rfl ?_
    refine t_getR gk dX9_doAddShelf_134 fX9_9 rfl ea2 (by rw [mσ13, mσ8]; exact t3) ?_
    refine s_iload dX9_doAddShelf_137 rfl ?_
    refine s_iconst (v := 2) dX9_doAddShelf_139 (by decide) ?_
    refine s_iadd dX9_doAddShelf_140 ?_
    refine s_iload_n (i := 3) dX9_doAddShelf_141 rfl rfl ?_
    obtain ⟨a14, ea14, h⟩ := h
    obtain ⟨n16, t15, h⟩ := h
    obtain ⟨c17, h⟩ := h
    refine t_iast gk dX9_doAddShelf_142 ea14 (by rw [mσ13, mσ8]; exact t15) c17 (fun σ18 eσ18 mσ18 => ?_)
    replace h := h σ18 eσ18
    refine s_aload_n (i := 0) dX9_doAddShelf_143 rfl rfl ?_
    refine t_getR gk dX9_doAddShelf_144 fX9_9 rfl ea2 (by rw [mσ18, mσ13, mσ8]; exact t3) ?_
    refine s_iload dX9_doAddShelf_147 rfl ?_
    refine s_iconst (v := 3) dX9_doAddShelf_149 (by decide) ?_
    refine s_iadd dX9_doAddShelf_150 ?_
    refine s_iconst (v := 1) dX9_doAddShelf_151 (by decide) ?_
    obtain ⟨a19, ea19, h⟩ := h
    obtain ⟨n21, t20, h⟩ := h
    obtain ⟨c22, h⟩ := h
    refine t_iast gk dX9_doAddShelf_152 ea19 (by rw [mσ18, mσ13, mσ8]; exact t20) c22 (fun σ23 eσ23 mσ23 => ?_)
    replace h := h σ23 eσ23
    refine s_aload_n (i := 0) dX9_doAddShelf_153 rfl rfl ?_
    refine t_getR gk dX9_doAddShelf_154 fX9_9 rfl ea2 (by rw [mσ23, mσ18, mσ13, mσ8]; exact t3) ?_
    refine s_iconst (v := 0) dX9_doAddShelf_157 (by decide) ?_
    refine s_dup2 dX9_doAddShelf_158 rfl rfl ?_
    obtain ⟨a24, ea24, h⟩ := h
    obtain ⟨n26, t25, h⟩ := h
    obtain ⟨c27, h⟩ := h
    refine t_iald gk dX9_doAddShelf_159 ea24 (by rw [mσ23, mσ18, mσ13, mσ8]; exact t25) c27 ?_
    refine s_iconst (v := 1) dX9_doAddShelf_160 (by decide) ?_
    refine s_iadd dX9_doAddShelf_161 ?_
    obtain ⟨c28, h⟩ := h
    refine t_iast gk dX9_doAddShelf_162 ea24 (by rw [mσ23, mσ18, mσ13, mσ8]; exact t25) c28 (fun σ29 eσ29 mσ29 => ?_)
    replace h := h σ29 eσ29
    refine s_iload dX9_doAddShelf_163 rfl ?_
    exact s_ireturn dX9_doAddShelf_165 rfl rfl (by decide) (by decide) h
  · have h := h.2 q1
    refine s_aload_n (i := 0) dX9_doAddShelf_98 rfl rfl ?_
    obtain ⟨a30, ea30, h⟩ := h
    obtain ⟨t31, h⟩ := h
    refine t_getR gk dX9_doAddShelf_99 fX9_9 rfl ea30 t31 ?_
    refine s_iload dX9_doAddShelf_102 rfl ?_
    refine s_iload dX9_doAddShelf_104 rfl ?_
    refine s_iadd dX9_doAddShelf_106 ?_
    refine s_iconst (v := 0) dX9_doAddShelf_107 (by decide) ?_
    obtain ⟨a32, ea32, h⟩ := h
    obtain ⟨n34, t33, h⟩ := h
    obtain ⟨c35, h⟩ := h
    refine t_iast gk dX9_doAddShelf_108 ea32 t33 c35 (fun σ36 eσ36 mσ36 => ?_)
    replace h := h σ36 eσ36
    refine s_iinc (v := x7 + 1) (L' := [some (vR x0), some (vI x1), some (vI x2), some (vI x3), some (vI x4), some (vI x5), some (vI x6), some (vI (x7 + 1))]) dX9_doAddShelf_109 rfl rfl rfl (by decide) rfl ?_
    refine s_goto (tgt := 90) dX9_doAddShelf_112 (by decide) ?_
    exact h
theorem vX9_addShelf_0 {G : GG} (gk : GOK G) {σ : Mm} {K : RES → Mm → Prop} {x0 : Option Nat} {x1 : Int32} {x2 : Int32} {x3 : Int32}
    (h : ∃ a1, x0 = some a1 ∧ (mt σ a1).1 = 10 ∧ Runs G mX9_keep rX9_keep [(vR x0)] σ (bk G mX9_addShelf rX9_addShelf 0 0 4 [some (vR x0), some (vI x1), some (vI x2), some (vI x3)] [] K)) : At G mX9_addShelf rX9_addShelf 0 0 0 [some (vR x0), some (vI x1), some (vI x2), some (vI x3)] [] σ K := by
  refine s_aload_n (i := 0) dX9_addShelf_0 rfl rfl ?_
  obtain ⟨a1, ea1, h⟩ := h
  obtain ⟨t2, h⟩ := h
  exact t_callV (ci := 9) (as := []) (S := []) gk dX9_addShelf_1 gX9_99 (by decide) rfl w_1600 wp_8 ea1 t2 rfl rfl (Nat.le_of_ble_eq_true rfl) (by decide) h
theorem eX9_addShelf {G : GG} (gk : GOK G) {σ : Mm} {K : RES → Mm → Prop} {x0 : Option Nat} {x1 : Int32} {x2 : Int32} {x3 : Int32}
    (h : ∃ a1, x0 = some a1 ∧ (mt σ a1).1 = 10 ∧ Runs G mX9_keep rX9_keep [(vR x0)] σ (bk G mX9_addShelf rX9_addShelf 0 0 4 [some (vR x0), some (vI x1), some (vI x2), some (vI x3)] [] K)) : Runs G mX9_addShelf rX9_addShelf [(vR x0), (vI x1), (vI x2), (vI x3)] σ K := Runs.of (by decide) rfl (Nat.le_of_ble_eq_true rfl) (vX9_addShelf_0 gk h)
theorem vX9_addShelf_4 {G : GG} (gk : GOK G) {σ : Mm} {K : RES → Mm → Prop} {x0 : Option Nat} {x1 : Int32} {x2 : Int32} {x3 : Int32}
    (h : ∃ a1, x0 = some a1 ∧ (mt σ a1).1 = 10 ∧ Runs G mX9_doAddShelf rX9_doAddShelf [(vR x0), (vI x1), (vI x2), (vI x3)] σ (bk G mX9_addShelf rX9_addShelf 0 0 12 [some (vR x0), some (vI x1), some (vI x2), some (vI x3)] [(vR x0)] K)) : At G mX9_addShelf rX9_addShelf 0 0 4 [some (vR x0), some (vI x1), some (vI x2), some (vI x3)] [] σ K := by
  refine s_aload_n (i := 0) dX9_addShelf_4 rfl rfl ?_
  refine s_aload_n (i := 0) dX9_addShelf_5 rfl rfl ?_
  refine s_iload_n (i := 1) dX9_addShelf_6 rfl rfl ?_
  refine s_iload_n (i := 2) dX9_addShelf_7 rfl rfl ?_
  refine s_iload_n (i := 3) dX9_addShelf_8 rfl rfl ?_
  obtain ⟨a1, ea1, h⟩ := h
  obtain ⟨t2, h⟩ := h
  exact t_callV (ci := 9) (as := [(vI x1), (vI x2), (vI x3)]) (S := [(vR x0)]) gk dX9_addShelf_9 gX9_118 (by decide) rfl w_1677 wp_18 ea1 t2 rfl rfl (Nat.le_of_ble_eq_true rfl) (by decide) h
theorem vX9_addShelf_12 {G : GG} (gk : GOK G) {σ : Mm} {K : RES → Mm → Prop} {x0 : Option Nat} {x1 : Int32} {x2 : Int32} {x3 : Int32} {s0 : Int32} {s1 : Option Nat}
    (h : ∃ a1, s1 = some a1 ∧ (mt σ a1).1 = 10 ∧ Runs G mX9_ends rX9_ends [(vR s1), (vI s0)] σ (bk G mX9_addShelf rX9_addShelf 0 0 15 [some (vR x0), some (vI x1), some (vI x2), some (vI x3)] [] K)) : At G mX9_addShelf rX9_addShelf 0 0 12 [some (vR x0), some (vI x1), some (vI x2), some (vI x3)] [(vI s0), (vR s1)] σ K := by
  obtain ⟨a1, ea1, h⟩ := h
  obtain ⟨t2, h⟩ := h
  exact t_callV (ci := 9) (as := [(vI s0)]) (S := []) gk dX9_addShelf_12 gX9_105 (by decide) rfl w_1630 wp_13 ea1 t2 rfl rfl (Nat.le_of_ble_eq_true rfl) (by decide) h
theorem vX9_addShelf_15 {G : GG} (gk : GOK G) {σ : Mm} {K : RES → Mm → Prop} {x0 : Option Nat} {x1 : Int32} {x2 : Int32} {x3 : Int32} {s0 : Int32}
    (h : K (.inl (some (vI s0))) σ) : At G mX9_addShelf rX9_addShelf 0 0 15 [some (vR x0), some (vI x1), some (vI x2), some (vI x3)] [(vI s0)] σ K := by
  exact s_ireturn dX9_addShelf_15 rfl rfl (by decide) (by decide) h
theorem vX9_doListen_0 {G : GG} (gk : GOK G) {σ : Mm} {K : RES → Mm → Prop} {x0 : Option Nat} {x1 : Int32} {x2 : Int32}
    (h : ∃ a1, x0 = some a1 ∧ (mt σ a1).1 = 10 ∧ Runs G mX9_isShelf rX9_isShelf [(vR x0), (vI x1)] σ (bk G mX9_doListen rX9_doListen 0 0 5 [some (vR x0), some (vI x1), some (vI x2), none] [] K)) : At G mX9_doListen rX9_doListen 0 0 0 [some (vR x0), some (vI x1), some (vI x2), none] [] σ K := by
  refine s_aload_n (i := 0) dX9_doListen_0 rfl rfl ?_
  refine s_iload_n (i := 1) dX9_doListen_1 rfl rfl ?_
  obtain ⟨a1, ea1, h⟩ := h
  obtain ⟨t2, h⟩ := h
  exact t_callV (ci := 9) (as := [(vI x1)]) (S := []) gk dX9_doListen_2 gX9_122 (by decide) rfl w_1689 wp_20 ea1 t2 rfl rfl (Nat.le_of_ble_eq_true rfl) (by decide) h
theorem eX9_doListen {G : GG} (gk : GOK G) {σ : Mm} {K : RES → Mm → Prop} {x0 : Option Nat} {x1 : Int32} {x2 : Int32}
    (h : ∃ a1, x0 = some a1 ∧ (mt σ a1).1 = 10 ∧ Runs G mX9_isShelf rX9_isShelf [(vR x0), (vI x1)] σ (bk G mX9_doListen rX9_doListen 0 0 5 [some (vR x0), some (vI x1), some (vI x2), none] [] K)) : Runs G mX9_doListen rX9_doListen [(vR x0), (vI x1), (vI x2)] σ K := Runs.of (by decide) rfl (Nat.le_of_ble_eq_true rfl) (vX9_doListen_0 gk h)
theorem vX9_doListen_5 {G : GG} (gk : GOK G) {σ : Mm} {K : RES → Mm → Prop} {x0 : Option Nat} {x1 : Int32} {x2 : Int32} {s0 : Int32}
    (h : ((¬ s0 = 0 → ∃ a2, x0 = some a2 ∧ (mt σ a2).1 = 10 ∧ Runs G mX9_of rX9_of [(vR x0), (vI x1), (vI (3 : Int32))] σ (bk G mX9_doListen rX9_doListen 0 0 20 [some (vR x0), some (vI x1), some (vI x2), none] [] K)) ∧ (s0 = 0 → ∃ a4, x0 = some a4 ∧ (mt σ a4).1 = 10 ∧ Runs G mX9_fails rX9_fails [(vR x0), (vI (1 : Int32))] σ (bk G mX9_doListen rX9_doListen 0 0 13 [some (vR x0), some (vI x1), some (vI x2), none] [] K)))) : At G mX9_doListen rX9_doListen 0 0 5 [some (vR x0), some (vI x1), some (vI x2), none] [(vI s0)] σ K := by
  refine s_if_ne (tgt := 14) dX9_doListen_5 (by decide) (fun q1 => ?_) (fun q1 => ?_)
  · have h := h.1 q1
    refine s_aload_n (i := 0) dX9_doListen_14 rfl rfl ?_
    refine s_iload_n (i := 1) dX9_doListen_15 rfl rfl ?_
    refine s_iconst (v := 3) dX9_doListen_16 (by decide) ?_
    obtain ⟨a2, ea2, h⟩ := h
    obtain ⟨t3, h⟩ := h
    exact t_callV (ci := 9) (as := [(vI x1), (vI (3 : Int32))]) (S := []) gk dX9_doListen_17 gX9_77 (by decide) rfl w_1653 wp_16 ea2 t3 rfl rfl (Nat.le_of_ble_eq_true rfl) (by decide) h
  · have h := h.2 q1
    refine s_aload_n (i := 0) dX9_doListen_8 rfl rfl ?_
    refine s_iconst (v := 1) dX9_doListen_9 (by decide) ?_
    obtain ⟨a4, ea4, h⟩ := h
    obtain ⟨t5, h⟩ := h
    exact t_callV (ci := 9) (as := [(vI (1 : Int32))]) (S := []) gk dX9_doListen_10 gX9_92 (by decide) rfl w_1615 wp_10 ea4 t5 rfl rfl (Nat.le_of_ble_eq_true rfl) (by decide) h
theorem vX9_doListen_13 {G : GG} (gk : GOK G) {σ : Mm} {K : RES → Mm → Prop} {x0 : Option Nat} {x1 : Int32} {x2 : Int32} {s0 : Int32}
    (h : K (.inl (some (vI s0))) σ) : At G mX9_doListen rX9_doListen 0 0 13 [some (vR x0), some (vI x1), some (vI x2), none] [(vI s0)] σ K := by
  exact s_ireturn dX9_doListen_13 rfl rfl (by decide) (by decide) h
theorem vX9_doListen_20 {G : GG} (gk : GOK G) {σ : Mm} {K : RES → Mm → Prop} {x0 : Option Nat} {x1 : Int32} {x2 : Int32} {s0 : Int32}
    (h : ∃ a1, x0 = some a1 ∧ (mt σ a1).1 = 10 ∧ ((x2 = 0 → ∃ a4, mr σ a1 0 = some a4 ∧ ∃ n6, mt σ a4 = (50, n6) ∧ vp_in (((86 : Int32) + ((187 : Int32) * x1)) + (3 : Int32)) n6 ∧ ∀ σ8, σ8 = si σ a4 (((86 : Int32) + ((187 : Int32) * x1)) + (3 : Int32)).toNatClampNeg (0 : Int32) → K (.inl (some (vI s0))) σ8) ∧ (¬ x2 = 0 → ∃ a9, mr σ a1 0 = some a9 ∧ ∃ n11, mt σ a9 = (50, n11) ∧ vp_in (((86 : Int32) + ((187 : Int32) * x1)) + (3 : Int32)) n11 ∧ ∀ σ13, σ13 = si σ a9 (((86 : Int32) + ((187 : Int32) * x1)) + (3 : Int32)).toNatClampNeg (1 : Int32) → K (.inl (some (vI s0))) σ13))) : At G mX9_doListen rX9_doListen 0 0 20 [some (vR x0), some (vI x1), some (vI x2), none] [(vI s0)] σ K := by
  refine s_istore_n (i := 3) (L' := [some (vR x0), some (vI x1), some (vI x2), some (vI s0)]) dX9_doListen_20 rfl rfl (by decide) rfl ?_
  refine s_aload_n (i := 0) dX9_doListen_21 rfl rfl ?_
  obtain ⟨a1, ea1, h⟩ := h
  obtain ⟨t2, h⟩ := h
  refine t_getR gk dX9_doListen_22 fX9_9 rfl ea1 t2 ?_
  refine s_bipush (v := 86) dX9_doListen_25 (by decide) ?_
  refine s_sipush (v := 187) dX9_doListen_27 (by decide) ?_
  refine s_iload_n (i := 1) dX9_doListen_30 rfl rfl ?_
  refine s_imul dX9_doListen_31 ?_
  refine s_iadd dX9_doListen_32 ?_
  refine s_iconst (v := 3) dX9_doListen_33 (by decide) ?_
  refine s_iadd dX9_doListen_34 ?_
  refine s_iload_n (i := 2) dX9_doListen_35 rfl rfl ?_
  refine s_if_eq (tgt := 43) dX9_doListen_36 (by decide) (fun q3 => ?_) (fun q3 => ?_)
  · have h := h.1 q3
    refine s_iconst (v := 0) dX9_doListen_43 (by decide) ?_
    obtain ⟨a4, ea4, h⟩ := h
    obtain ⟨n6, t5, h⟩ := h
    obtain ⟨c7, h⟩ := h
    refine t_iast gk dX9_doListen_44 ea4 t5 c7 (fun σ8 eσ8 mσ8 => ?_)
    replace h := h σ8 eσ8
    refine s_iload_n (i := 3) dX9_doListen_45 rfl rfl ?_
    exact s_ireturn dX9_doListen_46 rfl rfl (by decide) (by decide) h
  · have h := h.2 q3
    refine s_iconst (v := 1) dX9_doListen_39 (by decide) ?_
    refine s_goto (tgt := 44) dX9_doListen_40 (by decide) ?_
    obtain ⟨a9, ea9, h⟩ := h
    obtain ⟨n11, t10, h⟩ := h
    obtain ⟨c12, h⟩ := h
    refine t_iast gk dX9_doListen_44 ea9 t10 c12 (fun σ13 eσ13 mσ13 => ?_)
    replace h := h σ13 eσ13
    refine s_iload_n (i := 3) dX9_doListen_45 rfl rfl ?_
    exact s_ireturn dX9_doListen_46 rfl rfl (by decide) (by decide) h
theorem vX9_setListening_0 {G : GG} (gk : GOK G) {σ : Mm} {K : RES → Mm → Prop} {x0 : Option Nat} {x1 : Int32} {x2 : Int32}
    (h : ∃ a1, x0 = some a1 ∧ (mt σ a1).1 = 10 ∧ Runs G mX9_keep rX9_keep [(vR x0)] σ (bk G mX9_setListening rX9_setListening 0 0 4 [some (vR x0), some (vI x1), some (vI x2)] [] K)) : At G mX9_setListening rX9_setListening 0 0 0 [some (vR x0), some (vI x1), some (vI x2)] [] σ K := by
  refine s_aload_n (i := 0) dX9_setListening_0 rfl rfl ?_
  obtain ⟨a1, ea1, h⟩ := h
  obtain ⟨t2, h⟩ := h
  exact t_callV (ci := 9) (as := []) (S := []) gk dX9_setListening_1 gX9_99 (by decide) rfl w_1600 wp_8 ea1 t2 rfl rfl (Nat.le_of_ble_eq_true rfl) (by decide) h
theorem eX9_setListening {G : GG} (gk : GOK G) {σ : Mm} {K : RES → Mm → Prop} {x0 : Option Nat} {x1 : Int32} {x2 : Int32}
    (h : ∃ a1, x0 = some a1 ∧ (mt σ a1).1 = 10 ∧ Runs G mX9_keep rX9_keep [(vR x0)] σ (bk G mX9_setListening rX9_setListening 0 0 4 [some (vR x0), some (vI x1), some (vI x2)] [] K)) : Runs G mX9_setListening rX9_setListening [(vR x0), (vI x1), (vI x2)] σ K := Runs.of (by decide) rfl (Nat.le_of_ble_eq_true rfl) (vX9_setListening_0 gk h)
theorem vX9_setListening_4 {G : GG} (gk : GOK G) {σ : Mm} {K : RES → Mm → Prop} {x0 : Option Nat} {x1 : Int32} {x2 : Int32}
    (h : ∃ a1, x0 = some a1 ∧ (mt σ a1).1 = 10 ∧ Runs G mX9_doListen rX9_doListen [(vR x0), (vI x1), (vI x2)] σ (bk G mX9_setListening rX9_setListening 0 0 11 [some (vR x0), some (vI x1), some (vI x2)] [(vR x0)] K)) : At G mX9_setListening rX9_setListening 0 0 4 [some (vR x0), some (vI x1), some (vI x2)] [] σ K := by
  refine s_aload_n (i := 0) dX9_setListening_4 rfl rfl ?_
  refine s_aload_n (i := 0) dX9_setListening_5 rfl rfl ?_
  refine s_iload_n (i := 1) dX9_setListening_6 rfl rfl ?_
  refine s_iload_n (i := 2) dX9_setListening_7 rfl rfl ?_
  obtain ⟨a1, ea1, h⟩ := h
  obtain ⟨t2, h⟩ := h
  exact t_callV (ci := 9) (as := [(vI x1), (vI x2)]) (S := [(vR x0)]) gk dX9_setListening_8 gX9_125 (by decide) rfl w_1685 wp_19 ea1 t2 rfl rfl (Nat.le_of_ble_eq_true rfl) (by decide) h
theorem vX9_setListening_11 {G : GG} (gk : GOK G) {σ : Mm} {K : RES → Mm → Prop} {x0 : Option Nat} {x1 : Int32} {x2 : Int32} {s0 : Int32} {s1 : Option Nat}
    (h : ∃ a1, s1 = some a1 ∧ (mt σ a1).1 = 10 ∧ Runs G mX9_ends rX9_ends [(vR s1), (vI s0)] σ (bk G mX9_setListening rX9_setListening 0 0 14 [some (vR x0), some (vI x1), some (vI x2)] [] K)) : At G mX9_setListening rX9_setListening 0 0 11 [some (vR x0), some (vI x1), some (vI x2)] [(vI s0), (vR s1)] σ K := by
  obtain ⟨a1, ea1, h⟩ := h
  obtain ⟨t2, h⟩ := h
  exact t_callV (ci := 9) (as := [(vI s0)]) (S := []) gk dX9_setListening_11 gX9_105 (by decide) rfl w_1630 wp_13 ea1 t2 rfl rfl (Nat.le_of_ble_eq_true rfl) (by decide) h
theorem vX9_setListening_14 {G : GG} (gk : GOK G) {σ : Mm} {K : RES → Mm → Prop} {x0 : Option Nat} {x1 : Int32} {x2 : Int32} {s0 : Int32}
    (h : ((¬ s0 = (1 : Int32) → K (.inl (some (vI (0 : Int32)))) σ) ∧ (s0 = (1 : Int32) → K (.inl (some (vI (1 : Int32)))) σ))) : At G mX9_setListening rX9_setListening 0 0 14 [some (vR x0), some (vI x1), some (vI x2)] [(vI s0)] σ K := by
  refine s_iconst (v := 1) dX9_setListening_14 (by decide) ?_
  refine s_icmp_ne (tgt := 22) dX9_setListening_15 (by decide) (fun q1 => ?_) (fun q1 => ?_)
  · have h := h.1 q1
    refine s_iconst (v := 0) dX9_setListening_22 (by decide) ?_
    exact s_ireturn dX9_setListening_23 rfl rfl (by decide) (by decide) h
  · have h := h.2 q1
    refine s_iconst (v := 1) dX9_setListening_18 (by decide) ?_
    refine s_goto (tgt := 23) dX9_setListening_19 (by decide) ?_
    exact s_ireturn dX9_setListening_23 rfl rfl (by decide) (by decide) h
theorem vX9_shelfCount_0 {G : GG} (gk : GOK G) {σ : Mm} {K : RES → Mm → Prop} {x0 : Option Nat}
    (h : ∃ a1, x0 = some a1 ∧ (mt σ a1).1 = 10 ∧ ∀ σ3, σ3 = si σ a1 6 (0 : Int32) → ∃ a4, mr σ3 a1 0 = some a4 ∧ ∃ n6, mt σ a4 = (50, n6) ∧ vp_in (0 : Int32) n6 ∧ K (.inl (some (vI (mi σ3 a4 (0 : Int32).toNatClampNeg)))) σ3) : At G mX9_shelfCount rX9_shelfCount 0 0 0 [some (vR x0)] [] σ K := by
  refine s_aload_n (i := 0) dX9_shelfCount_0 rfl rfl ?_
  refine s_iconst (v := 0) dX9_shelfCount_1 (by decide) ?_
  obtain ⟨a1, ea1, h⟩ := h
  obtain ⟨t2, h⟩ := h
  refine t_putI gk dX9_shelfCount_2 fX9_39 rfl rfl ea1 t2 ⟨rfl, rfl⟩ (fun σ3 eσ3 mσ3 => ?_)
  replace h := h σ3 eσ3
  refine s_aload_n (i := 0) dX9_shelfCount_5 rfl rfl ?_
  refine t_getR gk dX9_shelfCount_6 fX9_9 rfl ea1 (by rw [mσ3]; exact t2) ?_
  refine s_iconst (v := 0) dX9_shelfCount_9 (by decide) ?_
  obtain ⟨a4, ea4, h⟩ := h
  obtain ⟨n6, t5, h⟩ := h
  obtain ⟨c7, h⟩ := h
  refine t_iald gk dX9_shelfCount_10 ea4 (by rw [mσ3]; exact t5) c7 ?_
  exact s_ireturn dX9_shelfCount_11 rfl rfl (by decide) (by decide) h
theorem eX9_shelfCount {G : GG} (gk : GOK G) {σ : Mm} {K : RES → Mm → Prop} {x0 : Option Nat}
    (h : ∃ a1, x0 = some a1 ∧ (mt σ a1).1 = 10 ∧ ∀ σ3, σ3 = si σ a1 6 (0 : Int32) → ∃ a4, mr σ3 a1 0 = some a4 ∧ ∃ n6, mt σ a4 = (50, n6) ∧ vp_in (0 : Int32) n6 ∧ K (.inl (some (vI (mi σ3 a4 (0 : Int32).toNatClampNeg)))) σ3) : Runs G mX9_shelfCount rX9_shelfCount [(vR x0)] σ K := Runs.of (by decide) rfl (Nat.le_of_ble_eq_true rfl) (vX9_shelfCount_0 gk h)
theorem vX9_capacityOf_0 {G : GG} (gk : GOK G) {σ : Mm} {K : RES → Mm → Prop} {x0 : Option Nat} {x1 : Int32}
    (h : ∃ a1, x0 = some a1 ∧ (mt σ a1).1 = 10 ∧ Runs G mX9_isShelf rX9_isShelf [(vR x0), (vI x1)] σ (bk G mX9_capacityOf rX9_capacityOf 0 0 6 [some (vR x0), some (vI x1)] [(vR x0)] K)) : At G mX9_capacityOf rX9_capacityOf 0 0 0 [some (vR x0), some (vI x1)] [] σ K := by
  refine s_aload_n (i := 0) dX9_capacityOf_0 rfl rfl ?_
  refine s_aload_n (i := 0) dX9_capacityOf_1 rfl rfl ?_
  refine s_iload_n (i := 1) dX9_capacityOf_2 rfl rfl ?_
  obtain ⟨a1, ea1, h⟩ := h
  obtain ⟨t2, h⟩ := h
  exact t_callV (ci := 9) (as := [(vI x1)]) (S := [(vR x0)]) gk dX9_capacityOf_3 gX9_122 (by decide) rfl w_1689 wp_20 ea1 t2 rfl rfl (Nat.le_of_ble_eq_true rfl) (by decide) h
theorem eX9_capacityOf {G : GG} (gk : GOK G) {σ : Mm} {K : RES → Mm → Prop} {x0 : Option Nat} {x1 : Int32}
    (h : ∃ a1, x0 = some a1 ∧ (mt σ a1).1 = 10 ∧ Runs G mX9_isShelf rX9_isShelf [(vR x0), (vI x1)] σ (bk G mX9_capacityOf rX9_capacityOf 0 0 6 [some (vR x0), some (vI x1)] [(vR x0)] K)) : Runs G mX9_capacityOf rX9_capacityOf [(vR x0), (vI x1)] σ K := Runs.of (by decide) rfl (Nat.le_of_ble_eq_true rfl) (vX9_capacityOf_0 gk h)
theorem vX9_capacityOf_6 {G : GG} (gk : GOK G) {σ : Mm} {K : RES → Mm → Prop} {x0 : Option Nat} {x1 : Int32} {s0 : Int32} {s1 : Option Nat}
    (h : ∃ a1, s1 = some a1 ∧ (mt σ a1).1 = 10 ∧ Runs G mX9_isThere rX9_isThere [(vR s1), (vI s0)] σ (bk G mX9_capacityOf rX9_capacityOf 0 0 9 [some (vR x0), some (vI x1)] [] K)) : At G mX9_capacityOf rX9_capacityOf 0 0 6 [some (vR x0), some (vI x1)] [(vI s0), (vR s1)] σ K := by
  obtain ⟨a1, ea1, h⟩ := h
  obtain ⟨t2, h⟩ := h
  exact t_callV (ci := 9) (as := [(vI s0)]) (S := []) gk dX9_capacityOf_6 gX9_114 (by decide) rfl w_1665 wp_17 ea1 t2 rfl rfl (Nat.le_of_ble_eq_true rfl) (by decide) h
theorem vX9_capacityOf_9 {G : GG} (gk : GOK G) {σ : Mm} {K : RES → Mm → Prop} {x0 : Option Nat} {x1 : Int32} {s0 : Int32}
    (h : ((s0 = 0 → K (.inl (some (vI (0 : Int32)))) σ) ∧ (¬ s0 = 0 → ∃ a2, x0 = some a2 ∧ (mt σ a2).1 = 10 ∧ Runs G mX9_of rX9_of [(vR x0), (vI x1), (vI (0 : Int32))] σ (bk G mX9_capacityOf rX9_capacityOf 0 0 18 [some (vR x0), some (vI x1)] [] K)))) : At G mX9_capacityOf rX9_capacityOf 0 0 9 [some (vR x0), some (vI x1)] [(vI s0)] σ K := by
  refine s_if_eq (tgt := 21) dX9_capacityOf_9 (by decide) (fun q1 => ?_) (fun q1 => ?_)
  · have h := h.1 q1
    refine s_iconst (v := 0) dX9_capacityOf_21 (by decide) ?_
    exact s_ireturn dX9_capacityOf_22 rfl rfl (by decide) (by decide) h
  · have h := h.2 q1
    refine s_aload_n (i := 0) dX9_capacityOf_12 rfl rfl ?_
    refine s_iload_n (i := 1) dX9_capacityOf_13 rfl rfl ?_
    refine s_iconst (v := 0) dX9_capacityOf_14 (by decide) ?_
    obtain ⟨a2, ea2, h⟩ := h
    obtain ⟨t3, h⟩ := h
    exact t_callV (ci := 9) (as := [(vI x1), (vI (0 : Int32))]) (S := []) gk dX9_capacityOf_15 gX9_77 (by decide) rfl w_1653 wp_16 ea2 t3 rfl rfl (Nat.le_of_ble_eq_true rfl) (by decide) h
theorem vX9_capacityOf_18 {G : GG} (gk : GOK G) {σ : Mm} {K : RES → Mm → Prop} {x0 : Option Nat} {x1 : Int32} {s0 : Int32}
    (h : K (.inl (some (vI s0))) σ) : At G mX9_capacityOf rX9_capacityOf 0 0 18 [some (vR x0), some (vI x1)] [(vI s0)] σ K := by
  refine s_goto (tgt := 22) dX9_capacityOf_18 (by decide) ?_
  exact s_ireturn dX9_capacityOf_22 rfl rfl (by decide) (by decide) h
theorem vX9_lifetimeOf_0 {G : GG} (gk : GOK G) {σ : Mm} {K : RES → Mm → Prop} {x0 : Option Nat} {x1 : Int32}
    (h : ∃ a1, x0 = some a1 ∧ (mt σ a1).1 = 10 ∧ Runs G mX9_isShelf rX9_isShelf [(vR x0), (vI x1)] σ (bk G mX9_lifetimeOf rX9_lifetimeOf 0 0 6 [some (vR x0), some (vI x1)] [(vR x0)] K)) : At G mX9_lifetimeOf rX9_lifetimeOf 0 0 0 [some (vR x0), some (vI x1)] [] σ K := by
  refine s_aload_n (i := 0) dX9_lifetimeOf_0 rfl rfl ?_
  refine s_aload_n (i := 0) dX9_lifetimeOf_1 rfl rfl ?_
  refine s_iload_n (i := 1) dX9_lifetimeOf_2 rfl rfl ?_
  obtain ⟨a1, ea1, h⟩ := h
  obtain ⟨t2, h⟩ := h
  exact t_callV (ci := 9) (as := [(vI x1)]) (S := [(vR x0)]) gk dX9_lifetimeOf_3 gX9_122 (by decide) rfl w_1689 wp_20 ea1 t2 rfl rfl (Nat.le_of_ble_eq_true rfl) (by decide) h
theorem eX9_lifetimeOf {G : GG} (gk : GOK G) {σ : Mm} {K : RES → Mm → Prop} {x0 : Option Nat} {x1 : Int32}
    (h : ∃ a1, x0 = some a1 ∧ (mt σ a1).1 = 10 ∧ Runs G mX9_isShelf rX9_isShelf [(vR x0), (vI x1)] σ (bk G mX9_lifetimeOf rX9_lifetimeOf 0 0 6 [some (vR x0), some (vI x1)] [(vR x0)] K)) : Runs G mX9_lifetimeOf rX9_lifetimeOf [(vR x0), (vI x1)] σ K := Runs.of (by decide) rfl (Nat.le_of_ble_eq_true rfl) (vX9_lifetimeOf_0 gk h)
theorem vX9_lifetimeOf_6 {G : GG} (gk : GOK G) {σ : Mm} {K : RES → Mm → Prop} {x0 : Option Nat} {x1 : Int32} {s0 : Int32} {s1 : Option Nat}
    (h : ∃ a1, s1 = some a1 ∧ (mt σ a1).1 = 10 ∧ Runs G mX9_isThere rX9_isThere [(vR s1), (vI s0)] σ (bk G mX9_lifetimeOf rX9_lifetimeOf 0 0 9 [some (vR x0), some (vI x1)] [] K)) : At G mX9_lifetimeOf rX9_lifetimeOf 0 0 6 [some (vR x0), some (vI x1)] [(vI s0), (vR s1)] σ K := by
  obtain ⟨a1, ea1, h⟩ := h
  obtain ⟨t2, h⟩ := h
  exact t_callV (ci := 9) (as := [(vI s0)]) (S := []) gk dX9_lifetimeOf_6 gX9_114 (by decide) rfl w_1665 wp_17 ea1 t2 rfl rfl (Nat.le_of_ble_eq_true rfl) (by decide) h
theorem vX9_lifetimeOf_9 {G : GG} (gk : GOK G) {σ : Mm} {K : RES → Mm → Prop} {x0 : Option Nat} {x1 : Int32} {s0 : Int32}
    (h : ((s0 = 0 → K (.inl (some (vI (0 : Int32)))) σ) ∧ (¬ s0 = 0 → ∃ a2, x0 = some a2 ∧ (mt σ a2).1 = 10 ∧ Runs G mX9_of rX9_of [(vR x0), (vI x1), (vI (1 : Int32))] σ (bk G mX9_lifetimeOf rX9_lifetimeOf 0 0 18 [some (vR x0), some (vI x1)] [] K)))) : At G mX9_lifetimeOf rX9_lifetimeOf 0 0 9 [some (vR x0), some (vI x1)] [(vI s0)] σ K := by
  refine s_if_eq (tgt := 21) dX9_lifetimeOf_9 (by decide) (fun q1 => ?_) (fun q1 => ?_)
  · have h := h.1 q1
    refine s_iconst (v := 0) dX9_lifetimeOf_21 (by decide) ?_
    exact s_ireturn dX9_lifetimeOf_22 rfl rfl (by decide) (by decide) h
  · have h := h.2 q1
    refine s_aload_n (i := 0) dX9_lifetimeOf_12 rfl rfl ?_
    refine s_iload_n (i := 1) dX9_lifetimeOf_13 rfl rfl ?_
    refine s_iconst (v := 1) dX9_lifetimeOf_14 (by decide) ?_
    obtain ⟨a2, ea2, h⟩ := h
    obtain ⟨t3, h⟩ := h
    exact t_callV (ci := 9) (as := [(vI x1), (vI (1 : Int32))]) (S := []) gk dX9_lifetimeOf_15 gX9_77 (by decide) rfl w_1653 wp_16 ea2 t3 rfl rfl (Nat.le_of_ble_eq_true rfl) (by decide) h
theorem vX9_lifetimeOf_18 {G : GG} (gk : GOK G) {σ : Mm} {K : RES → Mm → Prop} {x0 : Option Nat} {x1 : Int32} {s0 : Int32}
    (h : K (.inl (some (vI s0))) σ) : At G mX9_lifetimeOf rX9_lifetimeOf 0 0 18 [some (vR x0), some (vI x1)] [(vI s0)] σ K := by
  refine s_goto (tgt := 22) dX9_lifetimeOf_18 (by decide) ?_
  exact s_ireturn dX9_lifetimeOf_22 rfl rfl (by decide) (by decide) h
theorem vX9_policyOf_0 {G : GG} (gk : GOK G) {σ : Mm} {K : RES → Mm → Prop} {x0 : Option Nat} {x1 : Int32}
    (h : ∃ a1, x0 = some a1 ∧ (mt σ a1).1 = 10 ∧ Runs G mX9_isShelf rX9_isShelf [(vR x0), (vI x1)] σ (bk G mX9_policyOf rX9_policyOf 0 0 6 [some (vR x0), some (vI x1)] [(vR x0)] K)) : At G mX9_policyOf rX9_policyOf 0 0 0 [some (vR x0), some (vI x1)] [] σ K := by
  refine s_aload_n (i := 0) dX9_policyOf_0 rfl rfl ?_
  refine s_aload_n (i := 0) dX9_policyOf_1 rfl rfl ?_
  refine s_iload_n (i := 1) dX9_policyOf_2 rfl rfl ?_
  obtain ⟨a1, ea1, h⟩ := h
  obtain ⟨t2, h⟩ := h
  exact t_callV (ci := 9) (as := [(vI x1)]) (S := [(vR x0)]) gk dX9_policyOf_3 gX9_122 (by decide) rfl w_1689 wp_20 ea1 t2 rfl rfl (Nat.le_of_ble_eq_true rfl) (by decide) h
theorem eX9_policyOf {G : GG} (gk : GOK G) {σ : Mm} {K : RES → Mm → Prop} {x0 : Option Nat} {x1 : Int32}
    (h : ∃ a1, x0 = some a1 ∧ (mt σ a1).1 = 10 ∧ Runs G mX9_isShelf rX9_isShelf [(vR x0), (vI x1)] σ (bk G mX9_policyOf rX9_policyOf 0 0 6 [some (vR x0), some (vI x1)] [(vR x0)] K)) : Runs G mX9_policyOf rX9_policyOf [(vR x0), (vI x1)] σ K := Runs.of (by decide) rfl (Nat.le_of_ble_eq_true rfl) (vX9_policyOf_0 gk h)
theorem vX9_policyOf_6 {G : GG} (gk : GOK G) {σ : Mm} {K : RES → Mm → Prop} {x0 : Option Nat} {x1 : Int32} {s0 : Int32} {s1 : Option Nat}
    (h : ∃ a1, s1 = some a1 ∧ (mt σ a1).1 = 10 ∧ Runs G mX9_isThere rX9_isThere [(vR s1), (vI s0)] σ (bk G mX9_policyOf rX9_policyOf 0 0 9 [some (vR x0), some (vI x1)] [] K)) : At G mX9_policyOf rX9_policyOf 0 0 6 [some (vR x0), some (vI x1)] [(vI s0), (vR s1)] σ K := by
  obtain ⟨a1, ea1, h⟩ := h
  obtain ⟨t2, h⟩ := h
  exact t_callV (ci := 9) (as := [(vI s0)]) (S := []) gk dX9_policyOf_6 gX9_114 (by decide) rfl w_1665 wp_17 ea1 t2 rfl rfl (Nat.le_of_ble_eq_true rfl) (by decide) h
theorem vX9_policyOf_9 {G : GG} (gk : GOK G) {σ : Mm} {K : RES → Mm → Prop} {x0 : Option Nat} {x1 : Int32} {s0 : Int32}
    (h : ((s0 = 0 → K (.inl (some (vI (32 : Int32)))) σ) ∧ (¬ s0 = 0 → ∃ a2, x0 = some a2 ∧ (mt σ a2).1 = 10 ∧ Runs G mX9_of rX9_of [(vR x0), (vI x1), (vI (2 : Int32))] σ (bk G mX9_policyOf rX9_policyOf 0 0 18 [some (vR x0), some (vI x1)] [] K)))) : At G mX9_policyOf rX9_policyOf 0 0 9 [some (vR x0), some (vI x1)] [(vI s0)] σ K := by
  refine s_if_eq (tgt := 22) dX9_policyOf_9 (by decide) (fun q1 => ?_) (fun q1 => ?_)
  · have h := h.1 q1
    refine s_bipush (v := 32) dX9_policyOf_22 (by decide) ?_
    exact s_ireturn dX9_policyOf_24 rfl rfl (by decide) (by decide) h
  · have h := h.2 q1
    refine s_aload_n (i := 0) dX9_policyOf_12 rfl rfl ?_
    refine s_iload_n (i := 1) dX9_policyOf_13 rfl rfl ?_
    refine s_iconst (v := 2) dX9_policyOf_14 (by decide) ?_
    obtain ⟨a2, ea2, h⟩ := h
    obtain ⟨t3, h⟩ := h
    exact t_callV (ci := 9) (as := [(vI x1), (vI (2 : Int32))]) (S := []) gk dX9_policyOf_15 gX9_77 (by decide) rfl w_1653 wp_16 ea2 t3 rfl rfl (Nat.le_of_ble_eq_true rfl) (by decide) h
theorem vX9_policyOf_18 {G : GG} (gk : GOK G) {σ : Mm} {K : RES → Mm → Prop} {x0 : Option Nat} {x1 : Int32} {s0 : Int32}
    (h : isC (i2c s0) ∧ K (.inl (some (vI (i2c s0)))) σ) : At G mX9_policyOf rX9_policyOf 0 0 18 [some (vR x0), some (vI x1)] [(vI s0)] σ K := by
  refine s_i2c (v := i2c s0) dX9_policyOf_18 rfl ?_
  refine s_goto (tgt := 24) dX9_policyOf_19 (by decide) ?_
  obtain ⟨c1, h⟩ := h
  exact s_ireturn dX9_policyOf_24 rfl (nf_c c1).1 (by decide) (by decide) h
theorem vX9_isListening_0 {G : GG} (gk : GOK G) {σ : Mm} {K : RES → Mm → Prop} {x0 : Option Nat} {x1 : Int32}
    (h : ∃ a1, x0 = some a1 ∧ (mt σ a1).1 = 10 ∧ Runs G mX9_isShelf rX9_isShelf [(vR x0), (vI x1)] σ (bk G mX9_isListening rX9_isListening 0 0 6 [some (vR x0), some (vI x1)] [(vR x0)] K)) : At G mX9_isListening rX9_isListening 0 0 0 [some (vR x0), some (vI x1)] [] σ K := by
  refine s_aload_n (i := 0) dX9_isListening_0 rfl rfl ?_
  refine s_aload_n (i := 0) dX9_isListening_1 rfl rfl ?_
  refine s_iload_n (i := 1) dX9_isListening_2 rfl rfl ?_
  obtain ⟨a1, ea1, h⟩ := h
  obtain ⟨t2, h⟩ := h
  exact t_callV (ci := 9) (as := [(vI x1)]) (S := [(vR x0)]) gk dX9_isListening_3 gX9_122 (by decide) rfl w_1689 wp_20 ea1 t2 rfl rfl (Nat.le_of_ble_eq_true rfl) (by decide) h
theorem eX9_isListening {G : GG} (gk : GOK G) {σ : Mm} {K : RES → Mm → Prop} {x0 : Option Nat} {x1 : Int32}
    (h : ∃ a1, x0 = some a1 ∧ (mt σ a1).1 = 10 ∧ Runs G mX9_isShelf rX9_isShelf [(vR x0), (vI x1)] σ (bk G mX9_isListening rX9_isListening 0 0 6 [some (vR x0), some (vI x1)] [(vR x0)] K)) : Runs G mX9_isListening rX9_isListening [(vR x0), (vI x1)] σ K := Runs.of (by decide) rfl (Nat.le_of_ble_eq_true rfl) (vX9_isListening_0 gk h)
theorem vX9_isListening_6 {G : GG} (gk : GOK G) {σ : Mm} {K : RES → Mm → Prop} {x0 : Option Nat} {x1 : Int32} {s0 : Int32} {s1 : Option Nat}
    (h : ∃ a1, s1 = some a1 ∧ (mt σ a1).1 = 10 ∧ Runs G mX9_isThere rX9_isThere [(vR s1), (vI s0)] σ (bk G mX9_isListening rX9_isListening 0 0 9 [some (vR x0), some (vI x1)] [] K)) : At G mX9_isListening rX9_isListening 0 0 6 [some (vR x0), some (vI x1)] [(vI s0), (vR s1)] σ K := by
  obtain ⟨a1, ea1, h⟩ := h
  obtain ⟨t2, h⟩ := h
  exact t_callV (ci := 9) (as := [(vI s0)]) (S := []) gk dX9_isListening_6 gX9_114 (by decide) rfl w_1665 wp_17 ea1 t2 rfl rfl (Nat.le_of_ble_eq_true rfl) (by decide) h
theorem vX9_isListening_9 {G : GG} (gk : GOK G) {σ : Mm} {K : RES → Mm → Prop} {x0 : Option Nat} {x1 : Int32} {s0 : Int32}
    (h : ((s0 = 0 → K (.inl (some (vI (0 : Int32)))) σ) ∧ (¬ s0 = 0 → ∃ a2, x0 = some a2 ∧ (mt σ a2).1 = 10 ∧ Runs G mX9_of rX9_of [(vR x0), (vI x1), (vI (3 : Int32))] σ (bk G mX9_isListening rX9_isListening 0 0 18 [some (vR x0), some (vI x1)] [] K)))) : At G mX9_isListening rX9_isListening 0 0 9 [some (vR x0), some (vI x1)] [(vI s0)] σ K := by
  refine s_if_eq (tgt := 26) dX9_isListening_9 (by decide) (fun q1 => ?_) (fun q1 => ?_)
  · have h := h.1 q1
    refine s_iconst (v := 0) dX9_isListening_26 (by decide) ?_
    exact s_ireturn dX9_isListening_27 rfl rfl (by decide) (by decide) h
  · have h := h.2 q1
    refine s_aload_n (i := 0) dX9_isListening_12 rfl rfl ?_
    refine s_iload_n (i := 1) dX9_isListening_13 rfl rfl ?_
    refine s_iconst (v := 3) dX9_isListening_14 (by decide) ?_
    obtain ⟨a2, ea2, h⟩ := h
    obtain ⟨t3, h⟩ := h
    exact t_callV (ci := 9) (as := [(vI x1), (vI (3 : Int32))]) (S := []) gk dX9_isListening_15 gX9_77 (by decide) rfl w_1653 wp_16 ea2 t3 rfl rfl (Nat.le_of_ble_eq_true rfl) (by decide) h
theorem vX9_isListening_18 {G : GG} (gk : GOK G) {σ : Mm} {K : RES → Mm → Prop} {x0 : Option Nat} {x1 : Int32} {s0 : Int32}
    (h : ((¬ s0 = (1 : Int32) → K (.inl (some (vI (0 : Int32)))) σ) ∧ (s0 = (1 : Int32) → K (.inl (some (vI (1 : Int32)))) σ))) : At G mX9_isListening rX9_isListening 0 0 18 [some (vR x0), some (vI x1)] [(vI s0)] σ K := by
  refine s_iconst (v := 1) dX9_isListening_18 (by decide) ?_
  refine s_icmp_ne (tgt := 26) dX9_isListening_19 (by decide) (fun q1 => ?_) (fun q1 => ?_)
  · have h := h.1 q1
    refine s_iconst (v := 0) dX9_isListening_26 (by decide) ?_
    exact s_ireturn dX9_isListening_27 rfl rfl (by decide) (by decide) h
  · have h := h.2 q1
    refine s_iconst (v := 1) dX9_isListening_22 (by decide) ?_
    refine s_goto (tgt := 27) dX9_isListening_23 (by decide) ?_
    exact s_ireturn dX9_isListening_27 rfl rfl (by decide) (by decide) h
theorem vX9_echoCount_0 {G : GG} (gk : GOK G) {σ : Mm} {K : RES → Mm → Prop} {x0 : Option Nat} {x1 : Int32}
    (h : ∃ a1, x0 = some a1 ∧ (mt σ a1).1 = 10 ∧ Runs G mX9_isShelf rX9_isShelf [(vR x0), (vI x1)] σ (bk G mX9_echoCount rX9_echoCount 0 0 6 [some (vR x0), some (vI x1)] [(vR x0)] K)) : At G mX9_echoCount rX9_echoCount 0 0 0 [some (vR x0), some (vI x1)] [] σ K := by
  refine s_aload_n (i := 0) dX9_echoCount_0 rfl rfl ?_
  refine s_aload_n (i := 0) dX9_echoCount_1 rfl rfl ?_
  refine s_iload_n (i := 1) dX9_echoCount_2 rfl rfl ?_
  obtain ⟨a1, ea1, h⟩ := h
  obtain ⟨t2, h⟩ := h
  exact t_callV (ci := 9) (as := [(vI x1)]) (S := [(vR x0)]) gk dX9_echoCount_3 gX9_122 (by decide) rfl w_1689 wp_20 ea1 t2 rfl rfl (Nat.le_of_ble_eq_true rfl) (by decide) h
theorem eX9_echoCount {G : GG} (gk : GOK G) {σ : Mm} {K : RES → Mm → Prop} {x0 : Option Nat} {x1 : Int32}
    (h : ∃ a1, x0 = some a1 ∧ (mt σ a1).1 = 10 ∧ Runs G mX9_isShelf rX9_isShelf [(vR x0), (vI x1)] σ (bk G mX9_echoCount rX9_echoCount 0 0 6 [some (vR x0), some (vI x1)] [(vR x0)] K)) : Runs G mX9_echoCount rX9_echoCount [(vR x0), (vI x1)] σ K := Runs.of (by decide) rfl (Nat.le_of_ble_eq_true rfl) (vX9_echoCount_0 gk h)
theorem vX9_echoCount_6 {G : GG} (gk : GOK G) {σ : Mm} {K : RES → Mm → Prop} {x0 : Option Nat} {x1 : Int32} {s0 : Int32} {s1 : Option Nat}
    (h : ∃ a1, s1 = some a1 ∧ (mt σ a1).1 = 10 ∧ Runs G mX9_isThere rX9_isThere [(vR s1), (vI s0)] σ (bk G mX9_echoCount rX9_echoCount 0 0 9 [some (vR x0), some (vI x1)] [] K)) : At G mX9_echoCount rX9_echoCount 0 0 6 [some (vR x0), some (vI x1)] [(vI s0), (vR s1)] σ K := by
  obtain ⟨a1, ea1, h⟩ := h
  obtain ⟨t2, h⟩ := h
  exact t_callV (ci := 9) (as := [(vI s0)]) (S := []) gk dX9_echoCount_6 gX9_114 (by decide) rfl w_1665 wp_17 ea1 t2 rfl rfl (Nat.le_of_ble_eq_true rfl) (by decide) h
theorem vX9_echoCount_9 {G : GG} (gk : GOK G) {σ : Mm} {K : RES → Mm → Prop} {x0 : Option Nat} {x1 : Int32} {s0 : Int32}
    (h : ((s0 = 0 → K (.inl (some (vI (0 : Int32)))) σ) ∧ (¬ s0 = 0 → ∃ a2, x0 = some a2 ∧ (mt σ a2).1 = 10 ∧ Runs G mX9_echoes rX9_echoes [(vR x0), (vI x1)] σ (bk G mX9_echoCount rX9_echoCount 0 0 17 [some (vR x0), some (vI x1)] [] K)))) : At G mX9_echoCount rX9_echoCount 0 0 9 [some (vR x0), some (vI x1)] [(vI s0)] σ K := by
  refine s_if_eq (tgt := 20) dX9_echoCount_9 (by decide) (fun q1 => ?_) (fun q1 => ?_)
  · have h := h.1 q1
    refine s_iconst (v := 0) dX9_echoCount_20 (by decide) ?_
    exact s_ireturn dX9_echoCount_21 rfl rfl (by decide) (by decide) h
  · have h := h.2 q1
    refine s_aload_n (i := 0) dX9_echoCount_12 rfl rfl ?_
    refine s_iload_n (i := 1) dX9_echoCount_13 rfl rfl ?_
    obtain ⟨a2, ea2, h⟩ := h
    obtain ⟨t3, h⟩ := h
    exact t_callV (ci := 9) (as := [(vI x1)]) (S := []) gk dX9_echoCount_14 gX9_83 (by decide) rfl w_1717 wp_21 ea2 t3 rfl rfl (Nat.le_of_ble_eq_true rfl) (by decide) h
theorem vX9_echoCount_17 {G : GG} (gk : GOK G) {σ : Mm} {K : RES → Mm → Prop} {x0 : Option Nat} {x1 : Int32} {s0 : Int32}
    (h : K (.inl (some (vI s0))) σ) : At G mX9_echoCount rX9_echoCount 0 0 17 [some (vR x0), some (vI x1)] [(vI s0)] σ K := by
  refine s_goto (tgt := 21) dX9_echoCount_17 (by decide) ?_
  exact s_ireturn dX9_echoCount_21 rfl rfl (by decide) (by decide) h
theorem vX9_echoAt_0 {G : GG} (gk : GOK G) {σ : Mm} {K : RES → Mm → Prop} {x0 : Option Nat} {x1 : Int32} {x2 : Int32}
    (h : ∃ a1, x0 = some a1 ∧ (mt σ a1).1 = 10 ∧ Runs G mX9_isShelf rX9_isShelf [(vR x0), (vI x1)] σ (bk G mX9_echoAt rX9_echoAt 0 0 6 [some (vR x0), some (vI x1), some (vI x2), none, none, none] [(vR x0)] K)) : At G mX9_echoAt rX9_echoAt 0 0 0 [some (vR x0), some (vI x1), some (vI x2), none, none, none] [] σ K := by
  refine s_aload_n (i := 0) dX9_echoAt_0 rfl rfl ?_
  refine s_aload_n (i := 0) dX9_echoAt_1 rfl rfl ?_
  refine s_iload_n (i := 1) dX9_echoAt_2 rfl rfl ?_
  obtain ⟨a1, ea1, h⟩ := h
  obtain ⟨t2, h⟩ := h
  exact t_callV (ci := 9) (as := [(vI x1)]) (S := [(vR x0)]) gk dX9_echoAt_3 gX9_122 (by decide) rfl w_1689 wp_20 ea1 t2 rfl rfl (Nat.le_of_ble_eq_true rfl) (by decide) h
theorem eX9_echoAt {G : GG} (gk : GOK G) {σ : Mm} {K : RES → Mm → Prop} {x0 : Option Nat} {x1 : Int32} {x2 : Int32}
    (h : ∃ a1, x0 = some a1 ∧ (mt σ a1).1 = 10 ∧ Runs G mX9_isShelf rX9_isShelf [(vR x0), (vI x1)] σ (bk G mX9_echoAt rX9_echoAt 0 0 6 [some (vR x0), some (vI x1), some (vI x2), none, none, none] [(vR x0)] K)) : Runs G mX9_echoAt rX9_echoAt [(vR x0), (vI x1), (vI x2)] σ K := Runs.of (by decide) rfl (Nat.le_of_ble_eq_true rfl) (vX9_echoAt_0 gk h)
theorem vX9_echoAt_6 {G : GG} (gk : GOK G) {σ : Mm} {K : RES → Mm → Prop} {x0 : Option Nat} {x1 : Int32} {x2 : Int32} {s0 : Int32} {s1 : Option Nat}
    (h : ((¬ s0 = 0 → ∃ a2, x0 = some a2 ∧ (mt σ a2).1 = 10 ∧ Runs G mX9_echoes rX9_echoes [(vR x0), (vI x1)] σ (bk G mX9_echoAt rX9_echoAt 0 0 20 [some (vR x0), some (vI x1), some (vI x2), none, none, none] [(vI (0 : Int32)), (vI x2), (vR s1)] K)) ∧ (s0 = 0 → ∃ a4, s1 = some a4 ∧ (mt σ a4).1 = 10 ∧ ∀ σ6, σ6 = si σ a4 6 (1 : Int32) → At G mX9_echoAt rX9_echoAt 0 0 46 [some (vR x0), some (vI x1), some (vI x2), some (vI (32 : Int32)), some (vI (0 : Int32)), some (vI (97 : Int32))] [] σ6 K))) : At G mX9_echoAt rX9_echoAt 0 0 6 [some (vR x0), some (vI x1), some (vI x2), none, none, none] [(vI s0), (vR s1)] σ K := by
  refine s_if_ne (tgt := 13) dX9_echoAt_6 (by decide) (fun q1 => ?_) (fun q1 => ?_)
  · have h := h.1 q1
    refine s_iload_n (i := 2) dX9_echoAt_13 rfl rfl ?_
    refine s_iconst (v := 0) dX9_echoAt_14 (by decide) ?_
    refine s_aload_n (i := 0) dX9_echoAt_15 rfl rfl ?_
    refine s_iload_n (i := 1) dX9_echoAt_16 rfl rfl ?_
    obtain ⟨a2, ea2, h⟩ := h
    obtain ⟨t3, h⟩ := h
    exact t_callV (ci := 9) (as := [(vI x1)]) (S := [(vI (0 : Int32)), (vI x2), (vR s1)]) gk dX9_echoAt_17 gX9_83 (by decide) rfl w_1717 wp_21 ea2 t3 rfl rfl (Nat.le_of_ble_eq_true rfl) (by decide) h
  · have h := h.2 q1
    refine s_iconst (v := 1) dX9_echoAt_9 (by decide) ?_
    refine s_goto (tgt := 33) dX9_echoAt_10 (by decide) ?_
    obtain ⟨a4, ea4, h⟩ := h
    obtain ⟨t5, h⟩ := h
    refine t_putI gk dX9_echoAt_33 fX9_39 rfl rfl ea4 t5 ⟨rfl, rfl⟩ (fun σ6 eσ6 mσ6 => ?_)
    replace h := h σ6 eσ6
    refine s_bipush (v := 32) dX9_echoAt_36 (by decide) ?_
    refine s_istore_n (i := 3) (L' := [some (vR x0), some (vI x1), some (vI x2), some (vI (32 : Int32)), none, none]) dX9_echoAt_38 rfl rfl (by decide) rfl ?_
    refine s_iconst (v := 0) dX9_echoAt_39 (by decide) ?_
    refine s_istore (L' := [some (vR x0), some (vI x1), some (vI x2), some (vI (32 : Int32)), some (vI (0 : Int32)), none]) dX9_echoAt_40 rfl (by decide) rfl ?_
    refine s_bipush (v := 97) dX9_echoAt_42 (by decide) ?_
    refine s_istore (L' := [some (vR x0), some (vI x1), some (vI x2), some (vI (32 : Int32)), some (vI (0 : Int32)), some (vI (97 : Int32))]) dX9_echoAt_44 rfl (by decide) rfl ?_
    exact h
theorem vX9_echoAt_20 {G : GG} (gk : GOK G) {σ : Mm} {K : RES → Mm → Prop} {x0 : Option Nat} {x1 : Int32} {x2 : Int32} {s0 : Int32} {s1 : Int32} {s2 : Int32} {s3 : Option Nat}
    (h : Runs G mX9_in rX9_in [(vI s2), (vI s1), (vI (s0 - (1 : Int32)))] σ (bk G mX9_echoAt rX9_echoAt 0 0 25 [some (vR x0), some (vI x1), some (vI x2), none, none, none] [(vR s3)] K)) : At G mX9_echoAt rX9_echoAt 0 0 20 [some (vR x0), some (vI x1), some (vI x2), none, none, none] [(vI s0), (vI s1), (vI s2), (vR s3)] σ K := by
  refine s_iconst (v := 1) dX9_echoAt_20 (by decide) ?_
  refine s_isub dX9_echoAt_21 ?_
  exact s_callS (as := [(vI s2), (vI s1), (vI (s0 - (1 : Int32)))]) (S := [(vR s3)]) gk dX9_echoAt_22 gX9_51 w_1611 rfl rfl (Nat.le_of_ble_eq_true rfl) (by decide) h
theorem vX9_echoAt_25 {G : GG} (gk : GOK G) {σ : Mm} {K : RES → Mm → Prop} {x0 : Option Nat} {x1 : Int32} {x2 : Int32} {s0 : Int32} {s1 : Option Nat}
    (h : ((¬ s0 = 0 → ∃ a2, s1 = some a2 ∧ (mt σ a2).1 = 10 ∧ ∀ σ4, σ4 = si σ a2 6 (0 : Int32) → At G mX9_echoAt rX9_echoAt 0 0 46 [some (vR x0), some (vI x1), some (vI x2), some (vI (32 : Int32)), some (vI (0 : Int32)), some (vI (97 : Int32))] [] σ4 K) ∧ (s0 = 0 → ∃ a5, s1 = some a5 ∧ (mt σ a5).1 = 10 ∧ ∀ σ7, σ7 = si σ a5 6 (2 : Int32) → At G mX9_echoAt rX9_echoAt 0 0 46 [some (vR x0), some (vI x1), some (vI x2), some (vI (32 : Int32)), some (vI (0 : Int32)), some (vI (97 : Int32))] [] σ7 K))) : At G mX9_echoAt rX9_echoAt 0 0 25 [some (vR x0), some (vI x1), some (vI x2), none, none, none] [(vI s0), (vR s1)] σ K := by
  refine s_if_ne (tgt := 32) dX9_echoAt_25 (by decide) (fun q1 => ?_) (fun q1 => ?_)
  · have h := h.1 q1
    refine s_iconst (v := 0) dX9_echoAt_32 (by decide) ?_
    obtain ⟨a2, ea2, h⟩ := h
    obtain ⟨t3, h⟩ := h
    refine t_putI gk dX9_echoAt_33 fX9_39 rfl rfl ea2 t3 ⟨rfl, rfl⟩ (fun σ4 eσ4 mσ4 => ?_)
    replace h := h σ4 eσ4
    refine s_bipush (v := 32) dX9_echoAt_36 (by decide) ?_
    refine s_istore_n (i := 3) (L' := [some (vR x0), some (vI x1), some (vI x2), some (vI (32 : Int32)), none, none]) dX9_echoAt_38 rfl rfl (by decide) rfl ?_
    refine s_iconst (v := 0) dX9_echoAt_39 (by decide) ?_
    refine s_istore (L' := [some (vR x0), some (vI x1), some (vI x2), some (vI (32 : Int32)), some (vI (0 : Int32)), none]) dX9_echoAt_40 rfl (by decide) rfl ?_
    refine s_bipush (v := 97) dX9_echoAt_42 (by decide) ?_
    refine s_istore (L' := [some (vR x0), some (vI x1), some (vI x2), some (vI (32 : Int32)), some (vI (0 : Int32)), some (vI (97 : Int32))]) dX9_echoAt_44 rfl (by decide) rfl ?_
    exact h
  · have h := h.2 q1
    refine s_iconst (v := 2) dX9_echoAt_28 (by decide) ?_
    refine s_goto (tgt := 33) dX9_echoAt_29 (by decide) ?_
    obtain ⟨a5, ea5, h⟩ := h
    obtain ⟨t6, h⟩ := h
    refine t_putI gk dX9_echoAt_33 fX9_39 rfl rfl ea5 t6 ⟨rfl, rfl⟩ (fun σ7 eσ7 mσ7 => ?_)
    replace h := h σ7 eσ7
    refine s_bipush (v := 32) dX9_echoAt_36 (by decide) ?_
    refine s_istore_n (i := 3) (L' := [some (vR x0), some (vI x1), some (vI x2), some (vI (32 : Int32)), none, none]) dX9_echoAt_38 rfl rfl (by decide) rfl ?_
    refine s_iconst (v := 0) dX9_echoAt_39 (by decide) ?_
    refine s_istore (L' := [some (vR x0), some (vI x1), some (vI x2), some (vI (32 : Int32)), some (vI (0 : Int32)), none]) dX9_echoAt_40 rfl (by decide) rfl ?_
    refine s_bipush (v := 97) dX9_echoAt_42 (by decide) ?_
    refine s_istore (L' := [some (vR x0), some (vI x1), some (vI x2), some (vI (32 : Int32)), some (vI (0 : Int32)), some (vI (97 : Int32))]) dX9_echoAt_44 rfl (by decide) rfl ?_
    exact h
theorem vX9_echoAt_46 {G : GG} (gk : GOK G) {σ : Mm} {K : RES → Mm → Prop} {x0 : Option Nat} {x1 : Int32} {x2 : Int32} {x3 : Int32} {x4 : Int32} {x5 : Int32}
    (h : (((122 : Int32) < x5 → isC (i2c x3) ∧ K (.inl (some (vI (i2c x3)))) σ) ∧ (¬ (122 : Int32) < x5 → ∃ a3, x0 = some a3 ∧ (mt σ a3).1 = 10 ∧ ((¬ (mi σ a3 6) = 0 → isC (i2c x3) ∧ K (.inl (some (vI (i2c x3)))) σ) ∧ ((mi σ a3 6) = 0 → Runs G mX9_isEcho rX9_isEcho [(vR x0), (vI x1), (vI x5)] σ (bk G mX9_echoAt rX9_echoAt 0 0 67 [some (vR x0), some (vI x1), some (vI x2), some (vI x3), some (vI x4), some (vI x5)] [] K)))))) : At G mX9_echoAt rX9_echoAt 0 0 46 [some (vR x0), some (vI x1), some (vI x2), some (vI x3), some (vI x4), some (vI x5)] [] σ K := by
  refine s_iload dX9_echoAt_46 rfl ?_
  refine s_bipush (v := 122) dX9_echoAt_48 (by decide) ?_
  refine s_icmp_gt (tgt := 109) dX9_echoAt_50 (by decide) (fun q1 => ?_) (fun q1 => ?_)
  · have h := h.1 q1
    refine s_iload_n (i := 3) dX9_echoAt_109 rfl rfl ?_
    refine s_i2c (v := i2c x3) dX9_echoAt_110 rfl ?_
    obtain ⟨c2, h⟩ := h
    exact s_ireturn dX9_echoAt_111 rfl (nf_c c2).1 (by decide) (by decide) h
  · have h := h.2 q1
    refine s_aload_n (i := 0) dX9_echoAt_53 rfl rfl ?_
    obtain ⟨a3, ea3, h⟩ := h
    obtain ⟨t4, h⟩ := h
    refine t_getI gk dX9_echoAt_54 fX9_39 rfl ea3 t4 ?_
    refine s_if_ne (tgt := 109) dX9_echoAt_57 (by decide) (fun q5 => ?_) (fun q5 => ?_)
    · have h := h.1 q5
      refine s_iload_n (i := 3) dX9_echoAt_109 rfl rfl ?_
      refine s_i2c (v := i2c x3) dX9_echoAt_110 rfl ?_
      obtain ⟨c6, h⟩ := h
      exact s_ireturn dX9_echoAt_111 rfl (nf_c c6).1 (by decide) (by decide) h
    · have h := h.2 q5
      refine s_aload_n (i := 0) dX9_echoAt_60 rfl rfl ?_
      refine s_iload_n (i := 1) dX9_echoAt_61 rfl rfl ?_
      refine s_iload dX9_echoAt_62 rfl ?_
      exact t_callV (ci := 9) (as := [(vI x1), (vI x5)]) (S := []) gk dX9_echoAt_64 gX9_70 (by decide) rfl w_1721 wp_22 ea3 t4 rfl rfl (Nat.le_of_ble_eq_true rfl) (by decide) h
theorem vX9_echoAt_67 {G : GG} (gk : GOK G) {σ : Mm} {K : RES → Mm → Prop} {x0 : Option Nat} {x1 : Int32} {x2 : Int32} {x3 : Int32} {x4 : Int32} {x5 : Int32} {s0 : Int32}
    (h : ((s0 = 0 → ∃ a2, x0 = some a2 ∧ (mt σ a2).1 = 10 ∧ Runs G mX9_isEcho rX9_isEcho [(vR x0), (vI x1), (vI x5)] σ (bk G mX9_echoAt rX9_echoAt 0 0 92 [some (vR x0), some (vI x1), some (vI x2), some (vI x3), some (vI x4), some (vI x5)] [(vI x4)] K)) ∧ (¬ s0 = 0 → ((¬ x4 = x2 → ∃ a5, x0 = some a5 ∧ (mt σ a5).1 = 10 ∧ Runs G mX9_isEcho rX9_isEcho [(vR x0), (vI x1), (vI x5)] σ (bk G mX9_echoAt rX9_echoAt 0 0 92 [some (vR x0), some (vI x1), some (vI x2), some (vI x3), some (vI x4), some (vI x5)] [(vI x4)] K)) ∧ (x4 = x2 → ∃ a7, x0 = some a7 ∧ (mt σ a7).1 = 10 ∧ Runs G mX9_isEcho rX9_isEcho [(vR x0), (vI x1), (vI x5)] σ (bk G mX9_echoAt rX9_echoAt 0 0 92 [some (vR x0), some (vI x1), some (vI x2), some (vI x5), some (vI x4), some (vI x5)] [(vI x4)] K)))))) : At G mX9_echoAt rX9_echoAt 0 0 67 [some (vR x0), some (vI x1), some (vI x2), some (vI x3), some (vI x4), some (vI x5)] [(vI s0)] σ K := by
  refine s_if_eq (tgt := 81) dX9_echoAt_67 (by decide) (fun q1 => ?_) (fun q1 => ?_)
  · have h := h.1 q1
    refine s_iload_n (i := 3) dX9_echoAt_81 rfl rfl ?_
    refine s_istore_n (i := 3) (L' := [some (vR x0), some (vI x1), some (vI x2), some (vI x3), some (vI x4), some (vI x5)]) dX9_echoAt_82 rfl rfl (by decide) rfl ?_
    refine s_iload dX9_echoAt_83 rfl ?_
    refine s_aload_n (i := 0) dX9_echoAt_85 rfl rfl ?_
    refine s_iload_n (i := 1) dX9_echoAt_86 rfl rfl ?_
    refine s_iload dX9_echoAt_87 rfl ?_
    obtain ⟨a2, ea2, h⟩ := h
    obtain ⟨t3, h⟩ := h
    exact t_callV (ci := 9) (as := [(vI x1), (vI x5)]) (S := [(vI x4)]) gk dX9_echoAt_89 gX9_70 (by decide) rfl w_1721 wp_22 ea2 t3 rfl rfl (Nat.le_of_ble_eq_true rfl) (by decide) h
  · have h := h.2 q1
    refine s_iload dX9_echoAt_70 rfl ?_
    refine s_iload_n (i := 2) dX9_echoAt_72 rfl rfl ?_
    refine s_icmp_ne (tgt := 81) dX9_echoAt_73 (by decide) (fun q4 => ?_) (fun q4 => ?_)
    · have h := h.1 q4
      refine s_iload_n (i := 3) dX9_echoAt_81 rfl rfl ?_
      refine s_istore_n (i := 3) (L' := [some (vR x0), some (vI x1), some (vI x2), some (vI x3), some (vI x4), some (vI x5)]) dX9_echoAt_82 rfl rfl (by decide) rfl ?_
      refine s_iload dX9_echoAt_83 rfl ?_
      refine s_aload_n (i := 0) dX9_echoAt_85 rfl rfl ?_
      refine s_iload_n (i := 1) dX9_echoAt_86 rfl rfl ?_
      refine s_iload dX9_echoAt_87 rfl ?_
      obtain ⟨a5, ea5, h⟩ := h
      obtain ⟨t6, h⟩ := h
      exact t_callV (ci := 9) (as := [(vI x1), (vI x5)]) (S := [(vI x4)]) gk dX9_echoAt_89 gX9_70 (by decide) rfl w_1721 wp_22 ea5 t6 rfl rfl (Nat.le_of_ble_eq_true rfl) (by decide) h
    · have h := h.2 q4
      refine s_iload dX9_echoAt_76 rfl ?_
      refine s_goto (tgt := 82) dX9_echoAt_78 (by decide) ?_
      refine s_istore_n (i := 3) (L' := [some (vR x0), some (vI x1), some (vI x2), some (vI x5), some (vI x4), some (vI x5)]) dX9_echoAt_82 rfl rfl (by decide) rfl ?_
      refine s_iload dX9_echoAt_83 rfl ?_
      refine s_aload_n (i := 0) dX9_echoAt_85 rfl rfl ?_
      refine s_iload_n (i := 1) dX9_echoAt_86 rfl rfl ?_
      refine s_iload dX9_echoAt_87 rfl ?_
      obtain ⟨a7, ea7, h⟩ := h
      obtain ⟨t8, h⟩ := h
      exact t_callV (ci := 9) (as := [(vI x1), (vI x5)]) (S := [(vI x4)]) gk dX9_echoAt_89 gX9_70 (by decide) rfl w_1721 wp_22 ea7 t8 rfl rfl (Nat.le_of_ble_eq_true rfl) (by decide) h
theorem vX9_echoAt_92 {G : GG} (gk : GOK G) {σ : Mm} {K : RES → Mm → Prop} {x0 : Option Nat} {x1 : Int32} {x2 : Int32} {x3 : Int32} {x4 : Int32} {x5 : Int32} {s0 : Int32} {s1 : Int32}
    (h : ((s0 = 0 → At G mX9_echoAt rX9_echoAt 0 0 46 [some (vR x0), some (vI x1), some (vI x2), some (vI x3), some (vI (s1 + (0 : Int32))), some (vI (x5 + 1))] [] σ K) ∧ (¬ s0 = 0 → At G mX9_echoAt rX9_echoAt 0 0 46 [some (vR x0), some (vI x1), some (vI x2), some (vI x3), some (vI (s1 + (1 : Int32))), some (vI (x5 + 1))] [] σ K))) : At G mX9_echoAt rX9_echoAt 0 0 92 [some (vR x0), some (vI x1), some (vI x2), some (vI x3), some (vI x4), some (vI x5)] [(vI s0), (vI s1)] σ K := by
  refine s_if_eq (tgt := 99) dX9_echoAt_92 (by decide) (fun q1 => ?_) (fun q1 => ?_)
  · have h := h.1 q1
    refine s_iconst (v := 0) dX9_echoAt_99 (by decide) ?_
    refine s_iadd dX9_echoAt_100 ?_
    refine s_istore (L' := [some (vR x0), some (vI x1), some (vI x2), some (vI x3), some (vI (s1 + (0 : Int32))), some (vI x5)]) dX9_echoAt_101 rfl (by decide) rfl ?_
    refine s_iinc (v := x5 + 1) (L' := [some (vR x0), some (vI x1), some (vI x2), some (vI x3), some (vI (s1 + (0 : Int32))), some (vI (x5 + 1))]) dX9_echoAt_103 rfl rfl rfl (by decide) rfl ?_
    refine s_goto (tgt := 46) dX9_echoAt_106 (by decide) ?_
    exact h
  · have h := h.2 q1
    refine s_iconst (v := 1) dX9_echoAt_95 (by decide) ?_
    refine s_goto (tgt := 100) dX9_echoAt_96 (by decide) ?_
    refine s_iadd dX9_echoAt_100 ?_
    refine s_istore (L' := [some (vR x0), some (vI x1), some (vI x2), some (vI x3), some (vI (s1 + (1 : Int32))), some (vI x5)]) dX9_echoAt_101 rfl (by decide) rfl ?_
    refine s_iinc (v := x5 + 1) (L' := [some (vR x0), some (vI x1), some (vI x2), some (vI x3), some (vI (s1 + (1 : Int32))), some (vI (x5 + 1))]) dX9_echoAt_103 rfl rfl rfl (by decide) rfl ?_
    refine s_goto (tgt := 46) dX9_echoAt_106 (by decide) ?_
    exact h
theorem vX9_hasEcho_0 {G : GG} (gk : GOK G) {σ : Mm} {K : RES → Mm → Prop} {x0 : Option Nat} {x1 : Int32} {x2 : Int32}
    (h : ∃ a1, x0 = some a1 ∧ (mt σ a1).1 = 10 ∧ Runs G mX9_isShelf rX9_isShelf [(vR x0), (vI x1)] σ (bk G mX9_hasEcho rX9_hasEcho 0 0 6 [some (vR x0), some (vI x1), some (vI x2)] [(vR x0)] K)) : At G mX9_hasEcho rX9_hasEcho 0 0 0 [some (vR x0), some (vI x1), some (vI x2)] [] σ K := by
  refine s_aload_n (i := 0) dX9_hasEcho_0 rfl rfl ?_
  refine s_aload_n (i := 0) dX9_hasEcho_1 rfl rfl ?_
  refine s_iload_n (i := 1) dX9_hasEcho_2 rfl rfl ?_
  obtain ⟨a1, ea1, h⟩ := h
  obtain ⟨t2, h⟩ := h
  exact t_callV (ci := 9) (as := [(vI x1)]) (S := [(vR x0)]) gk dX9_hasEcho_3 gX9_122 (by decide) rfl w_1689 wp_20 ea1 t2 rfl rfl (Nat.le_of_ble_eq_true rfl) (by decide) h
theorem eX9_hasEcho {G : GG} (gk : GOK G) {σ : Mm} {K : RES → Mm → Prop} {x0 : Option Nat} {x1 : Int32} {x2 : Int32}
    (h : ∃ a1, x0 = some a1 ∧ (mt σ a1).1 = 10 ∧ Runs G mX9_isShelf rX9_isShelf [(vR x0), (vI x1)] σ (bk G mX9_hasEcho rX9_hasEcho 0 0 6 [some (vR x0), some (vI x1), some (vI x2)] [(vR x0)] K)) : Runs G mX9_hasEcho rX9_hasEcho [(vR x0), (vI x1), (vI x2)] σ K := Runs.of (by decide) rfl (Nat.le_of_ble_eq_true rfl) (vX9_hasEcho_0 gk h)
theorem vX9_hasEcho_6 {G : GG} (gk : GOK G) {σ : Mm} {K : RES → Mm → Prop} {x0 : Option Nat} {x1 : Int32} {x2 : Int32} {s0 : Int32} {s1 : Option Nat}
    (h : ∃ a1, s1 = some a1 ∧ (mt σ a1).1 = 10 ∧ Runs G mX9_isThere rX9_isThere [(vR s1), (vI s0)] σ (bk G mX9_hasEcho rX9_hasEcho 0 0 9 [some (vR x0), some (vI x1), some (vI x2)] [] K)) : At G mX9_hasEcho rX9_hasEcho 0 0 6 [some (vR x0), some (vI x1), some (vI x2)] [(vI s0), (vR s1)] σ K := by
  obtain ⟨a1, ea1, h⟩ := h
  obtain ⟨t2, h⟩ := h
  exact t_callV (ci := 9) (as := [(vI s0)]) (S := []) gk dX9_hasEcho_6 gX9_114 (by decide) rfl w_1665 wp_17 ea1 t2 rfl rfl (Nat.le_of_ble_eq_true rfl) (by decide) h
theorem vX9_hasEcho_9 {G : GG} (gk : GOK G) {σ : Mm} {K : RES → Mm → Prop} {x0 : Option Nat} {x1 : Int32} {x2 : Int32} {s0 : Int32}
    (h : ((s0 = 0 → K (.inl (some (vI (0 : Int32)))) σ) ∧ (¬ s0 = 0 → ∃ a2, x0 = some a2 ∧ (mt σ a2).1 = 10 ∧ Runs G mX9_isEcho rX9_isEcho [(vR x0), (vI x1), (vI x2)] σ (bk G mX9_hasEcho rX9_hasEcho 0 0 18 [some (vR x0), some (vI x1), some (vI x2)] [] K)))) : At G mX9_hasEcho rX9_hasEcho 0 0 9 [some (vR x0), some (vI x1), some (vI x2)] [(vI s0)] σ K := by
  refine s_if_eq (tgt := 25) dX9_hasEcho_9 (by decide) (fun q1 => ?_) (fun q1 => ?_)
  · have h := h.1 q1
    refine s_iconst (v := 0) dX9_hasEcho_25 (by decide) ?_
    exact s_ireturn dX9_hasEcho_26 rfl rfl (by decide) (by decide) h
  · have h := h.2 q1
    refine s_aload_n (i := 0) dX9_hasEcho_12 rfl rfl ?_
    refine s_iload_n (i := 1) dX9_hasEcho_13 rfl rfl ?_
    refine s_iload_n (i := 2) dX9_hasEcho_14 rfl rfl ?_
    obtain ⟨a2, ea2, h⟩ := h
    obtain ⟨t3, h⟩ := h
    exact t_callV (ci := 9) (as := [(vI x1), (vI x2)]) (S := []) gk dX9_hasEcho_15 gX9_70 (by decide) rfl w_1721 wp_22 ea2 t3 rfl rfl (Nat.le_of_ble_eq_true rfl) (by decide) h
theorem vX9_hasEcho_18 {G : GG} (gk : GOK G) {σ : Mm} {K : RES → Mm → Prop} {x0 : Option Nat} {x1 : Int32} {x2 : Int32} {s0 : Int32}
    (h : ((s0 = 0 → K (.inl (some (vI (0 : Int32)))) σ) ∧ (¬ s0 = 0 → K (.inl (some (vI (1 : Int32)))) σ))) : At G mX9_hasEcho rX9_hasEcho 0 0 18 [some (vR x0), some (vI x1), some (vI x2)] [(vI s0)] σ K := by
  refine s_if_eq (tgt := 25) dX9_hasEcho_18 (by decide) (fun q1 => ?_) (fun q1 => ?_)
  · have h := h.1 q1
    refine s_iconst (v := 0) dX9_hasEcho_25 (by decide) ?_
    exact s_ireturn dX9_hasEcho_26 rfl rfl (by decide) (by decide) h
  · have h := h.2 q1
    refine s_iconst (v := 1) dX9_hasEcho_21 (by decide) ?_
    refine s_goto (tgt := 26) dX9_hasEcho_22 (by decide) ?_
    exact s_ireturn dX9_hasEcho_26 rfl rfl (by decide) (by decide) h
theorem vX9_asks_0 {G : GG} (gk : GOK G) {σ : Mm} {K : RES → Mm → Prop} {x0 : Option Nat} {x1 : Int32} {x2 : Int32}
    (h : ∃ a1, x0 = some a1 ∧ (mt σ a1).1 = 10 ∧ Runs G mX9_isShelf rX9_isShelf [(vR x0), (vI x1)] σ (bk G mX9_asks rX9_asks 0 0 6 [some (vR x0), some (vI x1), some (vI x2)] [(vR x0)] K)) : At G mX9_asks rX9_asks 0 0 0 [some (vR x0), some (vI x1), some (vI x2)] [] σ K := by
  refine s_aload_n (i := 0) dX9_asks_0 rfl rfl ?_
  refine s_aload_n (i := 0) dX9_asks_1 rfl rfl ?_
  refine s_iload_n (i := 1) dX9_asks_2 rfl rfl ?_
  obtain ⟨a1, ea1, h⟩ := h
  obtain ⟨t2, h⟩ := h
  exact t_callV (ci := 9) (as := [(vI x1)]) (S := [(vR x0)]) gk dX9_asks_3 gX9_122 (by decide) rfl w_1689 wp_20 ea1 t2 rfl rfl (Nat.le_of_ble_eq_true rfl) (by decide) h
theorem eX9_asks {G : GG} (gk : GOK G) {σ : Mm} {K : RES → Mm → Prop} {x0 : Option Nat} {x1 : Int32} {x2 : Int32}
    (h : ∃ a1, x0 = some a1 ∧ (mt σ a1).1 = 10 ∧ Runs G mX9_isShelf rX9_isShelf [(vR x0), (vI x1)] σ (bk G mX9_asks rX9_asks 0 0 6 [some (vR x0), some (vI x1), some (vI x2)] [(vR x0)] K)) : Runs G mX9_asks rX9_asks [(vR x0), (vI x1), (vI x2)] σ K := Runs.of (by decide) rfl (Nat.le_of_ble_eq_true rfl) (vX9_asks_0 gk h)
theorem vX9_asks_6 {G : GG} (gk : GOK G) {σ : Mm} {K : RES → Mm → Prop} {x0 : Option Nat} {x1 : Int32} {x2 : Int32} {s0 : Int32} {s1 : Option Nat}
    (h : ((¬ s0 = 0 → ∃ a2, x0 = some a2 ∧ (mt σ a2).1 = 10 ∧ Runs G mX9_isEcho rX9_isEcho [(vR x0), (vI x1), (vI x2)] σ (bk G mX9_asks rX9_asks 0 0 19 [some (vR x0), some (vI x1), some (vI x2)] [(vR s1)] K)) ∧ (s0 = 0 → ∃ a4, s1 = some a4 ∧ (mt σ a4).1 = 10 ∧ ∀ σ6, σ6 = si σ a4 6 (1 : Int32) → ∃ a7, x0 = some a7 ∧ (mt σ a7).1 = 10 ∧ ((¬ (mi σ6 a7 6) = 0 → K (.inl (some (vI (0 : Int32)))) σ6) ∧ ((mi σ6 a7 6) = 0 → K (.inl (some (vI (1 : Int32)))) σ6))))) : At G mX9_asks rX9_asks 0 0 6 [some (vR x0), some (vI x1), some (vI x2)] [(vI s0), (vR s1)] σ K := by
  refine s_if_ne (tgt := 13) dX9_asks_6 (by decide) (fun q1 => ?_) (fun q1 => ?_)
  · have h := h.1 q1
    refine s_aload_n (i := 0) dX9_asks_13 rfl rfl ?_
    refine s_iload_n (i := 1) dX9_asks_14 rfl rfl ?_
    refine s_iload_n (i := 2) dX9_asks_15 rfl rfl ?_
    obtain ⟨a2, ea2, h⟩ := h
    obtain ⟨t3, h⟩ := h
    exact t_callV (ci := 9) (as := [(vI x1), (vI x2)]) (S := [(vR s1)]) gk dX9_asks_16 gX9_70 (by decide) rfl w_1721 wp_22 ea2 t3 rfl rfl (Nat.le_of_ble_eq_true rfl) (by decide) h
  · have h := h.2 q1
    refine s_iconst (v := 1) dX9_asks_9 (by decide) ?_
    refine s_goto (tgt := 27) dX9_asks_10 (by decide) ?_
    obtain ⟨a4, ea4, h⟩ := h
    obtain ⟨t5, h⟩ := h
    refine t_putI gk dX9_asks_27 fX9_39 rfl rfl ea4 t5 ⟨rfl, rfl⟩ (fun σ6 eσ6 mσ6 => ?_)
    replace h := h σ6 eσ6
    refine s_aload_n (i := 0) dX9_asks_30 rfl rfl ?_
    obtain ⟨a7, ea7, h⟩ := h
    obtain ⟨t8, h⟩ := h
    refine t_getI gk dX9_asks_31 fX9_39 rfl ea7 (by rw [mσ6]; exact t8) ?_
    refine s_if_ne (tgt := 41) dX9_asks_34 (by decide) (fun q9 => ?_) (fun q9 => ?_)
    · have h := h.1 q9
      refine s_iconst (v := 0) dX9_asks_41 (by decide) ?_
      exact s_ireturn dX9_asks_42 rfl rfl (by decide) (by decide) h
    · have h := h.2 q9
      refine s_iconst (v := 1) dX9_asks_37 (by decide) ?_
      refine s_goto (tgt := 42) dX9_asks_38 (by decide) ?_
      exact s_ireturn dX9_asks_42 rfl rfl (by decide) (by decide) h
theorem vX9_asks_19 {G : GG} (gk : GOK G) {σ : Mm} {K : RES → Mm → Prop} {x0 : Option Nat} {x1 : Int32} {x2 : Int32} {s0 : Int32} {s1 : Option Nat}
    (h : ((¬ s0 = 0 → ∃ a2, s1 = some a2 ∧ (mt σ a2).1 = 10 ∧ ∀ σ4, σ4 = si σ a2 6 (0 : Int32) → ∃ a5, x0 = some a5 ∧ (mt σ a5).1 = 10 ∧ ((¬ (mi σ4 a5 6) = 0 → K (.inl (some (vI (0 : Int32)))) σ4) ∧ ((mi σ4 a5 6) = 0 → K (.inl (some (vI (1 : Int32)))) σ4))) ∧ (s0 = 0 → ∃ a8, s1 = some a8 ∧ (mt σ a8).1 = 10 ∧ ∀ σ10, σ10 = si σ a8 6 (2 : Int32) → ∃ a11, x0 = some a11 ∧ (mt σ a11).1 = 10 ∧ ((¬ (mi σ10 a11 6) = 0 → K (.inl (some (vI (0 : Int32)))) σ10) ∧ ((mi σ10 a11 6) = 0 → K (.inl (some (vI (1 : Int32)))) σ10))))) : At G mX9_asks rX9_asks 0 0 19 [some (vR x0), some (vI x1), some (vI x2)] [(vI s0), (vR s1)] σ K := by
  refine s_if_ne (tgt := 26) dX9_asks_19 (by decide) (fun q1 => ?_) (fun q1 => ?_)
  · have h := h.1 q1
    refine s_iconst (v := 0) dX9_asks_26 (by decide) ?_
    obtain ⟨a2, ea2, h⟩ := h
    obtain ⟨t3, h⟩ := h
    refine t_putI gk dX9_asks_27 fX9_39 rfl rfl ea2 t3 ⟨rfl, rfl⟩ (fun σ4 eσ4 mσ4 => ?_)
    replace h := h σ4 eσ4
    refine s_aload_n (i := 0) dX9_asks_30 rfl rfl ?_
    obtain ⟨a5, ea5, h⟩ := h
    obtain ⟨t6, h⟩ := h
    refine t_getI gk dX9_asks_31 fX9_39 rfl ea5 (by rw [mσ4]; exact t6) ?_
    refine s_if_ne (tgt := 41) dX9_asks_34 (by decide) (fun q7 => ?_) (fun q7 => ?_)
    · have h := h.1 q7
      refine s_iconst (v := 0) dX9_asks_41 (by decide) ?_
      exact s_ireturn dX9_asks_42 rfl rfl (by decide) (by decide) h
    · have h := h.2 q7
      refine s_iconst (v := 1) dX9_asks_37 (by decide) ?_
      refine s_goto (tgt := 42) dX9_asks_38 (by decide) ?_
      exact s_ireturn dX9_asks_42 rfl rfl (by decide) (by decide) h
  · have h := h.2 q1
    refine s_iconst (v := 2) dX9_asks_22 (by decide) ?_
    refine s_goto (tgt := 27) dX9_asks_23 (by decide) ?_
    obtain ⟨a8, ea8, h⟩ := h
    obtain ⟨t9, h⟩ := h
    refine t_putI gk dX9_asks_27 fX9_39 rfl rfl ea8 t9 ⟨rfl, rfl⟩ (fun σ10 eσ10 mσ10 => ?_)
    replace h := h σ10 eσ10
    refine s_aload_n (i := 0) dX9_asks_30 rfl rfl ?_
    obtain ⟨a11, ea11, h⟩ := h
    obtain ⟨t12, h⟩ := h
    refine t_getI gk dX9_asks_31 fX9_39 rfl ea11 (by rw [mσ10]; exact t12) ?_
    refine s_if_ne (tgt := 41) dX9_asks_34 (by decide) (fun q13 => ?_) (fun q13 => ?_)
    · have h := h.1 q13
      refine s_iconst (v := 0) dX9_asks_41 (by decide) ?_
      exact s_ireturn dX9_asks_42 rfl rfl (by decide) (by decide) h
    · have h := h.2 q13
      refine s_iconst (v := 1) dX9_asks_37 (by decide) ?_
      refine s_goto (tgt := 42) dX9_asks_38 (by decide) ?_
      exact s_ireturn dX9_asks_42 rfl rfl (by decide) (by decide) h
theorem vX9_echoOf_0 {G : GG} (gk : GOK G) {σ : Mm} {K : RES → Mm → Prop} {x0 : Option Nat} {x1 : Int32} {x2 : Int32}
    (h : ∃ a1, x0 = some a1 ∧ (mt σ a1).1 = 10 ∧ Runs G mX9_asks rX9_asks [(vR x0), (vI x1), (vI x2)] σ (bk G mX9_echoOf rX9_echoOf 0 0 6 [some (vR x0), some (vI x1), some (vI x2)] [] K)) : At G mX9_echoOf rX9_echoOf 0 0 0 [some (vR x0), some (vI x1), some (vI x2)] [] σ K := by
  refine s_aload_n (i := 0) dX9_echoOf_0 rfl rfl ?_
  refine s_iload_n (i := 1) dX9_echoOf_1 rfl rfl ?_
  refine s_iload_n (i := 2) dX9_echoOf_2 rfl rfl ?_
  obtain ⟨a1, ea1, h⟩ := h
  obtain ⟨t2, h⟩ := h
  exact t_callV (ci := 9) (as := [(vI x1), (vI x2)]) (S := []) gk dX9_echoOf_3 gX9_129 (by decide) rfl w_1737 wp_23 ea1 t2 rfl rfl (Nat.le_of_ble_eq_true rfl) (by decide) h
theorem eX9_echoOf {G : GG} (gk : GOK G) {σ : Mm} {K : RES → Mm → Prop} {x0 : Option Nat} {x1 : Int32} {x2 : Int32}
    (h : ∃ a1, x0 = some a1 ∧ (mt σ a1).1 = 10 ∧ Runs G mX9_asks rX9_asks [(vR x0), (vI x1), (vI x2)] σ (bk G mX9_echoOf rX9_echoOf 0 0 6 [some (vR x0), some (vI x1), some (vI x2)] [] K)) : Runs G mX9_echoOf rX9_echoOf [(vR x0), (vI x1), (vI x2)] σ K := Runs.of (by decide) rfl (Nat.le_of_ble_eq_true rfl) (vX9_echoOf_0 gk h)
theorem vX9_echoOf_6 {G : GG} (gk : GOK G) {σ : Mm} {K : RES → Mm → Prop} {x0 : Option Nat} {x1 : Int32} {x2 : Int32} {s0 : Int32}
    (h : ((s0 = 0 → K (.inl (some (vI (0 : Int32)))) σ) ∧ (¬ s0 = 0 → ∃ a2, x0 = some a2 ∧ (mt σ a2).1 = 10 ∧ Runs G mX9_echo rX9_echo [(vI x1), (vI x2)] σ (bk G mX9_echoOf rX9_echoOf 0 0 18 [some (vR x0), some (vI x1), some (vI x2)] [(vR (mr σ a2 0))] K)))) : At G mX9_echoOf rX9_echoOf 0 0 6 [some (vR x0), some (vI x1), some (vI x2)] [(vI s0)] σ K := by
  refine s_if_eq (tgt := 24) dX9_echoOf_6 (by decide) (fun q1 => ?_) (fun q1 => ?_)
  · have h := h.1 q1
    refine s_iconst (v := 0) dX9_echoOf_24 (by decide) ?_
    exact s_ireturn dX9_echoOf_25 rfl rfl (by decide) (by decide) h
  · have h := h.2 q1
    refine s_aload_n (i := 0) dX9_echoOf_9 rfl rfl ?_
    obtain ⟨a2, ea2, h⟩ := h
    obtain ⟨t3, h⟩ := h
    refine t_getR gk dX9_echoOf_10 fX9_9 rfl ea2 t3 ?_
    refine s_iload_n (i := 1) dX9_echoOf_13 rfl rfl ?_
    refine s_iload_n (i := 2) dX9_echoOf_14 rfl rfl ?_
    exact s_callS (as := [(vI x1), (vI x2)]) (S := [(vR (mr σ a2 0))]) gk dX9_echoOf_15 gX9_66 w_1641 rfl rfl (Nat.le_of_ble_eq_true rfl) (by decide) h
theorem vX9_echoOf_18 {G : GG} (gk : GOK G) {σ : Mm} {K : RES → Mm → Prop} {x0 : Option Nat} {x1 : Int32} {x2 : Int32} {s0 : Int32} {s1 : Option Nat}
    (h : ∃ a1, s1 = some a1 ∧ ∃ n3, mt σ a1 = (50, n3) ∧ vp_in (s0 + (1 : Int32)) n3 ∧ K (.inl (some (vI (mi σ a1 (s0 + (1 : Int32)).toNatClampNeg)))) σ) : At G mX9_echoOf rX9_echoOf 0 0 18 [some (vR x0), some (vI x1), some (vI x2)] [(vI s0), (vR s1)] σ K := by
  refine s_iconst (v := 1) dX9_echoOf_18 (by decide) ?_
  refine s_iadd dX9_echoOf_19 ?_
  obtain ⟨a1, ea1, h⟩ := h
  obtain ⟨n3, t2, h⟩ := h
  obtain ⟨c4, h⟩ := h
  refine t_iald gk dX9_echoOf_20 ea1 t2 c4 ?_
  refine s_goto (tgt := 25) dX9_echoOf_21 (by decide) ?_
  exact s_ireturn dX9_echoOf_25 rfl rfl (by decide) (by decide) h
theorem vX9_ageOf_0 {G : GG} (gk : GOK G) {σ : Mm} {K : RES → Mm → Prop} {x0 : Option Nat} {x1 : Int32} {x2 : Int32}
    (h : ∃ a1, x0 = some a1 ∧ (mt σ a1).1 = 10 ∧ Runs G mX9_asks rX9_asks [(vR x0), (vI x1), (vI x2)] σ (bk G mX9_ageOf rX9_ageOf 0 0 6 [some (vR x0), some (vI x1), some (vI x2)] [] K)) : At G mX9_ageOf rX9_ageOf 0 0 0 [some (vR x0), some (vI x1), some (vI x2)] [] σ K := by
  refine s_aload_n (i := 0) dX9_ageOf_0 rfl rfl ?_
  refine s_iload_n (i := 1) dX9_ageOf_1 rfl rfl ?_
  refine s_iload_n (i := 2) dX9_ageOf_2 rfl rfl ?_
  obtain ⟨a1, ea1, h⟩ := h
  obtain ⟨t2, h⟩ := h
  exact t_callV (ci := 9) (as := [(vI x1), (vI x2)]) (S := []) gk dX9_ageOf_3 gX9_129 (by decide) rfl w_1737 wp_23 ea1 t2 rfl rfl (Nat.le_of_ble_eq_true rfl) (by decide) h
theorem eX9_ageOf {G : GG} (gk : GOK G) {σ : Mm} {K : RES → Mm → Prop} {x0 : Option Nat} {x1 : Int32} {x2 : Int32}
    (h : ∃ a1, x0 = some a1 ∧ (mt σ a1).1 = 10 ∧ Runs G mX9_asks rX9_asks [(vR x0), (vI x1), (vI x2)] σ (bk G mX9_ageOf rX9_ageOf 0 0 6 [some (vR x0), some (vI x1), some (vI x2)] [] K)) : Runs G mX9_ageOf rX9_ageOf [(vR x0), (vI x1), (vI x2)] σ K := Runs.of (by decide) rfl (Nat.le_of_ble_eq_true rfl) (vX9_ageOf_0 gk h)
theorem vX9_ageOf_6 {G : GG} (gk : GOK G) {σ : Mm} {K : RES → Mm → Prop} {x0 : Option Nat} {x1 : Int32} {x2 : Int32} {s0 : Int32}
    (h : ((s0 = 0 → K (.inl (some (vI (0 : Int32)))) σ) ∧ (¬ s0 = 0 → ∃ a2, x0 = some a2 ∧ (mt σ a2).1 = 10 ∧ Runs G mX9_age rX9_age [(vR x0), (vI x1), (vI x2)] σ (bk G mX9_ageOf rX9_ageOf 0 0 15 [some (vR x0), some (vI x1), some (vI x2)] [] K)))) : At G mX9_ageOf rX9_ageOf 0 0 6 [some (vR x0), some (vI x1), some (vI x2)] [(vI s0)] σ K := by
  refine s_if_eq (tgt := 18) dX9_ageOf_6 (by decide) (fun q1 => ?_) (fun q1 => ?_)
  · have h := h.1 q1
    refine s_iconst (v := 0) dX9_ageOf_18 (by decide) ?_
    exact s_ireturn dX9_ageOf_19 rfl rfl (by decide) (by decide) h
  · have h := h.2 q1
    refine s_aload_n (i := 0) dX9_ageOf_9 rfl rfl ?_
    refine s_iload_n (i := 1) dX9_ageOf_10 rfl rfl ?_
    refine s_iload_n (i := 2) dX9_ageOf_11 rfl rfl ?_
    obtain ⟨a2, ea2, h⟩ := h
    obtain ⟨t3, h⟩ := h
    exact t_callV (ci := 9) (as := [(vI x1), (vI x2)]) (S := []) gk dX9_ageOf_12 gX9_74 (by decide) rfl w_1745 wp_24 ea2 t3 rfl rfl (Nat.le_of_ble_eq_true rfl) (by decide) h
theorem vX9_ageOf_15 {G : GG} (gk : GOK G) {σ : Mm} {K : RES → Mm → Prop} {x0 : Option Nat} {x1 : Int32} {x2 : Int32} {s0 : Int32}
    (h : K (.inl (some (vI s0))) σ) : At G mX9_ageOf rX9_ageOf 0 0 15 [some (vR x0), some (vI x1), some (vI x2)] [(vI s0)] σ K := by
  refine s_goto (tgt := 19) dX9_ageOf_15 (by decide) ?_
  exact s_ireturn dX9_ageOf_19 rfl rfl (by decide) (by decide) h
theorem vX9_hitsOf_0 {G : GG} (gk : GOK G) {σ : Mm} {K : RES → Mm → Prop} {x0 : Option Nat} {x1 : Int32} {x2 : Int32}
    (h : ∃ a1, x0 = some a1 ∧ (mt σ a1).1 = 10 ∧ Runs G mX9_asks rX9_asks [(vR x0), (vI x1), (vI x2)] σ (bk G mX9_hitsOf rX9_hitsOf 0 0 6 [some (vR x0), some (vI x1), some (vI x2)] [] K)) : At G mX9_hitsOf rX9_hitsOf 0 0 0 [some (vR x0), some (vI x1), some (vI x2)] [] σ K := by
  refine s_aload_n (i := 0) dX9_hitsOf_0 rfl rfl ?_
  refine s_iload_n (i := 1) dX9_hitsOf_1 rfl rfl ?_
  refine s_iload_n (i := 2) dX9_hitsOf_2 rfl rfl ?_
  obtain ⟨a1, ea1, h⟩ := h
  obtain ⟨t2, h⟩ := h
  exact t_callV (ci := 9) (as := [(vI x1), (vI x2)]) (S := []) gk dX9_hitsOf_3 gX9_129 (by decide) rfl w_1737 wp_23 ea1 t2 rfl rfl (Nat.le_of_ble_eq_true rfl) (by decide) h
theorem eX9_hitsOf {G : GG} (gk : GOK G) {σ : Mm} {K : RES → Mm → Prop} {x0 : Option Nat} {x1 : Int32} {x2 : Int32}
    (h : ∃ a1, x0 = some a1 ∧ (mt σ a1).1 = 10 ∧ Runs G mX9_asks rX9_asks [(vR x0), (vI x1), (vI x2)] σ (bk G mX9_hitsOf rX9_hitsOf 0 0 6 [some (vR x0), some (vI x1), some (vI x2)] [] K)) : Runs G mX9_hitsOf rX9_hitsOf [(vR x0), (vI x1), (vI x2)] σ K := Runs.of (by decide) rfl (Nat.le_of_ble_eq_true rfl) (vX9_hitsOf_0 gk h)
theorem vX9_hitsOf_6 {G : GG} (gk : GOK G) {σ : Mm} {K : RES → Mm → Prop} {x0 : Option Nat} {x1 : Int32} {x2 : Int32} {s0 : Int32}
    (h : ((s0 = 0 → K (.inl (some (vI (0 : Int32)))) σ) ∧ (¬ s0 = 0 → ∃ a2, x0 = some a2 ∧ (mt σ a2).1 = 10 ∧ Runs G mX9_echo rX9_echo [(vI x1), (vI x2)] σ (bk G mX9_hitsOf rX9_hitsOf 0 0 18 [some (vR x0), some (vI x1), some (vI x2)] [(vR (mr σ a2 0))] K)))) : At G mX9_hitsOf rX9_hitsOf 0 0 6 [some (vR x0), some (vI x1), some (vI x2)] [(vI s0)] σ K := by
  refine s_if_eq (tgt := 24) dX9_hitsOf_6 (by decide) (fun q1 => ?_) (fun q1 => ?_)
  · have h := h.1 q1
    refine s_iconst (v := 0) dX9_hitsOf_24 (by decide) ?_
    exact s_ireturn dX9_hitsOf_25 rfl rfl (by decide) (by decide) h
  · have h := h.2 q1
    refine s_aload_n (i := 0) dX9_hitsOf_9 rfl rfl ?_
    obtain ⟨a2, ea2, h⟩ := h
    obtain ⟨t3, h⟩ := h
    refine t_getR gk dX9_hitsOf_10 fX9_9 rfl ea2 t3 ?_
    refine s_iload_n (i := 1) dX9_hitsOf_13 rfl rfl ?_
    refine s_iload_n (i := 2) dX9_hitsOf_14 rfl rfl ?_
    exact s_callS (as := [(vI x1), (vI x2)]) (S := [(vR (mr σ a2 0))]) gk dX9_hitsOf_15 gX9_66 w_1641 rfl rfl (Nat.le_of_ble_eq_true rfl) (by decide) h
theorem vX9_hitsOf_18 {G : GG} (gk : GOK G) {σ : Mm} {K : RES → Mm → Prop} {x0 : Option Nat} {x1 : Int32} {x2 : Int32} {s0 : Int32} {s1 : Option Nat}
    (h : ∃ a1, s1 = some a1 ∧ ∃ n3, mt σ a1 = (50, n3) ∧ vp_in (s0 + (5 : Int32)) n3 ∧ K (.inl (some (vI (mi σ a1 (s0 + (5 : Int32)).toNatClampNeg)))) σ) : At G mX9_hitsOf rX9_hitsOf 0 0 18 [some (vR x0), some (vI x1), some (vI x2)] [(vI s0), (vR s1)] σ K := by
  refine s_iconst (v := 5) dX9_hitsOf_18 (by decide) ?_
  refine s_iadd dX9_hitsOf_19 ?_
  obtain ⟨a1, ea1, h⟩ := h
  obtain ⟨n3, t2, h⟩ := h
  obtain ⟨c4, h⟩ := h
  refine t_iald gk dX9_hitsOf_20 ea1 t2 c4 ?_
  refine s_goto (tgt := 25) dX9_hitsOf_21 (by decide) ?_
  exact s_ireturn dX9_hitsOf_25 rfl rfl (by decide) (by decide) h
theorem vX9_isExpired_0 {G : GG} (gk : GOK G) {σ : Mm} {K : RES → Mm → Prop} {x0 : Option Nat} {x1 : Int32} {x2 : Int32}
    (h : ∃ a1, x0 = some a1 ∧ (mt σ a1).1 = 10 ∧ Runs G mX9_asks rX9_asks [(vR x0), (vI x1), (vI x2)] σ (bk G mX9_isExpired rX9_isExpired 0 0 6 [some (vR x0), some (vI x1), some (vI x2)] [] K)) : At G mX9_isExpired rX9_isExpired 0 0 0 [some (vR x0), some (vI x1), some (vI x2)] [] σ K := by
  refine s_aload_n (i := 0) dX9_isExpired_0 rfl rfl ?_
  refine s_iload_n (i := 1) dX9_isExpired_1 rfl rfl ?_
  refine s_iload_n (i := 2) dX9_isExpired_2 rfl rfl ?_
  obtain ⟨a1, ea1, h⟩ := h
  obtain ⟨t2, h⟩ := h
  exact t_callV (ci := 9) (as := [(vI x1), (vI x2)]) (S := []) gk dX9_isExpired_3 gX9_129 (by decide) rfl w_1737 wp_23 ea1 t2 rfl rfl (Nat.le_of_ble_eq_true rfl) (by decide) h
theorem eX9_isExpired {G : GG} (gk : GOK G) {σ : Mm} {K : RES → Mm → Prop} {x0 : Option Nat} {x1 : Int32} {x2 : Int32}
    (h : ∃ a1, x0 = some a1 ∧ (mt σ a1).1 = 10 ∧ Runs G mX9_asks rX9_asks [(vR x0), (vI x1), (vI x2)] σ (bk G mX9_isExpired rX9_isExpired 0 0 6 [some (vR x0), some (vI x1), some (vI x2)] [] K)) : Runs G mX9_isExpired rX9_isExpired [(vR x0), (vI x1), (vI x2)] σ K := Runs.of (by decide) rfl (Nat.le_of_ble_eq_true rfl) (vX9_isExpired_0 gk h)
theorem vX9_isExpired_6 {G : GG} (gk : GOK G) {σ : Mm} {K : RES → Mm → Prop} {x0 : Option Nat} {x1 : Int32} {x2 : Int32} {s0 : Int32}
    (h : ((s0 = 0 → K (.inl (some (vI (0 : Int32)))) σ) ∧ (¬ s0 = 0 → ∃ a2, x0 = some a2 ∧ (mt σ a2).1 = 10 ∧ Runs G mX9_isOver rX9_isOver [(vR x0), (vI x1), (vI x2)] σ (bk G mX9_isExpired rX9_isExpired 0 0 15 [some (vR x0), some (vI x1), some (vI x2)] [] K)))) : At G mX9_isExpired rX9_isExpired 0 0 6 [some (vR x0), some (vI x1), some (vI x2)] [(vI s0)] σ K := by
  refine s_if_eq (tgt := 22) dX9_isExpired_6 (by decide) (fun q1 => ?_) (fun q1 => ?_)
  · have h := h.1 q1
    refine s_iconst (v := 0) dX9_isExpired_22 (by decide) ?_
    exact s_ireturn dX9_isExpired_23 rfl rfl (by decide) (by decide) h
  · have h := h.2 q1
    refine s_aload_n (i := 0) dX9_isExpired_9 rfl rfl ?_
    refine s_iload_n (i := 1) dX9_isExpired_10 rfl rfl ?_
    refine s_iload_n (i := 2) dX9_isExpired_11 rfl rfl ?_
    obtain ⟨a2, ea2, h⟩ := h
    obtain ⟨t3, h⟩ := h
    exact t_callV (ci := 9) (as := [(vI x1), (vI x2)]) (S := []) gk dX9_isExpired_12 gX9_89 (by decide) rfl w_1757 wp_25 ea2 t3 rfl rfl (Nat.le_of_ble_eq_true rfl) (by decide) h
theorem vX9_isExpired_15 {G : GG} (gk : GOK G) {σ : Mm} {K : RES → Mm → Prop} {x0 : Option Nat} {x1 : Int32} {x2 : Int32} {s0 : Int32}
    (h : ((s0 = 0 → K (.inl (some (vI (0 : Int32)))) σ) ∧ (¬ s0 = 0 → K (.inl (some (vI (1 : Int32)))) σ))) : At G mX9_isExpired rX9_isExpired 0 0 15 [some (vR x0), some (vI x1), some (vI x2)] [(vI s0)] σ K := by
  refine s_if_eq (tgt := 22) dX9_isExpired_15 (by decide) (fun q1 => ?_) (fun q1 => ?_)
  · have h := h.1 q1
    refine s_iconst (v := 0) dX9_isExpired_22 (by decide) ?_
    exact s_ireturn dX9_isExpired_23 rfl rfl (by decide) (by decide) h
  · have h := h.2 q1
    refine s_iconst (v := 1) dX9_isExpired_18 (by decide) ?_
    refine s_goto (tgt := 23) dX9_isExpired_19 (by decide) ?_
    exact s_ireturn dX9_isExpired_23 rfl rfl (by decide) (by decide) h
theorem vX9_isOpen_0 {G : GG} (gk : GOK G) {σ : Mm} {K : RES → Mm → Prop} {x0 : Option Nat} {x1 : Int32} {x2 : Int32}
    (h : ∃ a1, x0 = some a1 ∧ (mt σ a1).1 = 10 ∧ Runs G mX9_asks rX9_asks [(vR x0), (vI x1), (vI x2)] σ (bk G mX9_isOpen rX9_isOpen 0 0 6 [some (vR x0), some (vI x1), some (vI x2)] [] K)) : At G mX9_isOpen rX9_isOpen 0 0 0 [some (vR x0), some (vI x1), some (vI x2)] [] σ K := by
  refine s_aload_n (i := 0) dX9_isOpen_0 rfl rfl ?_
  refine s_iload_n (i := 1) dX9_isOpen_1 rfl rfl ?_
  refine s_iload_n (i := 2) dX9_isOpen_2 rfl rfl ?_
  obtain ⟨a1, ea1, h⟩ := h
  obtain ⟨t2, h⟩ := h
  exact t_callV (ci := 9) (as := [(vI x1), (vI x2)]) (S := []) gk dX9_isOpen_3 gX9_129 (by decide) rfl w_1737 wp_23 ea1 t2 rfl rfl (Nat.le_of_ble_eq_true rfl) (by decide) h
theorem eX9_isOpen {G : GG} (gk : GOK G) {σ : Mm} {K : RES → Mm → Prop} {x0 : Option Nat} {x1 : Int32} {x2 : Int32}
    (h : ∃ a1, x0 = some a1 ∧ (mt σ a1).1 = 10 ∧ Runs G mX9_asks rX9_asks [(vR x0), (vI x1), (vI x2)] σ (bk G mX9_isOpen rX9_isOpen 0 0 6 [some (vR x0), some (vI x1), some (vI x2)] [] K)) : Runs G mX9_isOpen rX9_isOpen [(vR x0), (vI x1), (vI x2)] σ K := Runs.of (by decide) rfl (Nat.le_of_ble_eq_true rfl) (vX9_isOpen_0 gk h)
theorem vX9_isOpen_6 {G : GG} (gk : GOK G) {σ : Mm} {K : RES → Mm → Prop} {x0 : Option Nat} {x1 : Int32} {x2 : Int32} {s0 : Int32}
    (h : ((s0 = 0 → K (.inl (some (vI (0 : Int32)))) σ) ∧ (¬ s0 = 0 → ∃ a2, x0 = some a2 ∧ (mt σ a2).1 = 10 ∧ Runs G mX9_echo rX9_echo [(vI x1), (vI x2)] σ (bk G mX9_isOpen rX9_isOpen 0 0 18 [some (vR x0), some (vI x1), some (vI x2)] [(vR (mr σ a2 0))] K)))) : At G mX9_isOpen rX9_isOpen 0 0 6 [some (vR x0), some (vI x1), some (vI x2)] [(vI s0)] σ K := by
  refine s_if_eq (tgt := 30) dX9_isOpen_6 (by decide) (fun q1 => ?_) (fun q1 => ?_)
  · have h := h.1 q1
    refine s_iconst (v := 0) dX9_isOpen_30 (by decide) ?_
    exact s_ireturn dX9_isOpen_31 rfl rfl (by decide) (by decide) h
  · have h := h.2 q1
    refine s_aload_n (i := 0) dX9_isOpen_9 rfl rfl ?_
    obtain ⟨a2, ea2, h⟩ := h
    obtain ⟨t3, h⟩ := h
    refine t_getR gk dX9_isOpen_10 fX9_9 rfl ea2 t3 ?_
    refine s_iload_n (i := 1) dX9_isOpen_13 rfl rfl ?_
    refine s_iload_n (i := 2) dX9_isOpen_14 rfl rfl ?_
    exact s_callS (as := [(vI x1), (vI x2)]) (S := [(vR (mr σ a2 0))]) gk dX9_isOpen_15 gX9_66 w_1641 rfl rfl (Nat.le_of_ble_eq_true rfl) (by decide) h
theorem vX9_isOpen_18 {G : GG} (gk : GOK G) {σ : Mm} {K : RES → Mm → Prop} {x0 : Option Nat} {x1 : Int32} {x2 : Int32} {s0 : Int32} {s1 : Option Nat}
    (h : ∃ a1, s1 = some a1 ∧ ∃ n3, mt σ a1 = (50, n3) ∧ vp_in (s0 + (6 : Int32)) n3 ∧ ((¬ (mi σ a1 (s0 + (6 : Int32)).toNatClampNeg) = (1 : Int32) → K (.inl (some (vI (0 : Int32)))) σ) ∧ ((mi σ a1 (s0 + (6 : Int32)).toNatClampNeg) = (1 : Int32) → K (.inl (some (vI (1 : Int32)))) σ))) : At G mX9_isOpen rX9_isOpen 0 0 18 [some (vR x0), some (vI x1), some (vI x2)] [(vI s0), (vR s1)] σ K := by
  refine s_bipush (v := 6) dX9_isOpen_18 (by decide) ?_
  refine s_iadd dX9_isOpen_20 ?_
  obtain ⟨a1, ea1, h⟩ := h
  obtain ⟨n3, t2, h⟩ := h
  obtain ⟨c4, h⟩ := h
  refine t_iald gk dX9_isOpen_21 ea1 t2 c4 ?_
  refine s_iconst (v := 1) dX9_isOpen_22 (by decide) ?_
  refine s_icmp_ne (tgt := 30) dX9_isOpen_23 (by decide) (fun q5 => ?_) (fun q5 => ?_)
  · have h := h.1 q5
    refine s_iconst (v := 0) dX9_isOpen_30 (by decide) ?_
    exact s_ireturn dX9_isOpen_31 rfl rfl (by decide) (by decide) h
  · have h := h.2 q5
    refine s_iconst (v := 1) dX9_isOpen_26 (by decide) ?_
    refine s_goto (tgt := 31) dX9_isOpen_27 (by decide) ?_
    exact s_ireturn dX9_isOpen_31 rfl rfl (by decide) (by decide) h
theorem vX9_isTrue_0 {G : GG} (gk : GOK G) {σ : Mm} {K : RES → Mm → Prop} {x0 : Option Nat} {x1 : Int32} {x2 : Int32}
    (h : ∃ a1, x0 = some a1 ∧ (mt σ a1).1 = 10 ∧ Runs G mX9_asks rX9_asks [(vR x0), (vI x1), (vI x2)] σ (bk G mX9_isTrue rX9_isTrue 0 0 6 [some (vR x0), some (vI x1), some (vI x2)] [] K)) : At G mX9_isTrue rX9_isTrue 0 0 0 [some (vR x0), some (vI x1), some (vI x2)] [] σ K := by
  refine s_aload_n (i := 0) dX9_isTrue_0 rfl rfl ?_
  refine s_iload_n (i := 1) dX9_isTrue_1 rfl rfl ?_
  refine s_iload_n (i := 2) dX9_isTrue_2 rfl rfl ?_
  obtain ⟨a1, ea1, h⟩ := h
  obtain ⟨t2, h⟩ := h
  exact t_callV (ci := 9) (as := [(vI x1), (vI x2)]) (S := []) gk dX9_isTrue_3 gX9_129 (by decide) rfl w_1737 wp_23 ea1 t2 rfl rfl (Nat.le_of_ble_eq_true rfl) (by decide) h
theorem eX9_isTrue {G : GG} (gk : GOK G) {σ : Mm} {K : RES → Mm → Prop} {x0 : Option Nat} {x1 : Int32} {x2 : Int32}
    (h : ∃ a1, x0 = some a1 ∧ (mt σ a1).1 = 10 ∧ Runs G mX9_asks rX9_asks [(vR x0), (vI x1), (vI x2)] σ (bk G mX9_isTrue rX9_isTrue 0 0 6 [some (vR x0), some (vI x1), some (vI x2)] [] K)) : Runs G mX9_isTrue rX9_isTrue [(vR x0), (vI x1), (vI x2)] σ K := Runs.of (by decide) rfl (Nat.le_of_ble_eq_true rfl) (vX9_isTrue_0 gk h)
theorem vX9_isTrue_6 {G : GG} (gk : GOK G) {σ : Mm} {K : RES → Mm → Prop} {x0 : Option Nat} {x1 : Int32} {x2 : Int32} {s0 : Int32}
    (h : ((s0 = 0 → K (.inl (some (vI (0 : Int32)))) σ) ∧ (¬ s0 = 0 → ∃ a2, x0 = some a2 ∧ (mt σ a2).1 = 10 ∧ Runs G mX9_echo rX9_echo [(vI x1), (vI x2)] σ (bk G mX9_isTrue rX9_isTrue 0 0 18 [some (vR x0), some (vI x1), some (vI x2)] [(vR (mr σ a2 0))] K)))) : At G mX9_isTrue rX9_isTrue 0 0 6 [some (vR x0), some (vI x1), some (vI x2)] [(vI s0)] σ K := by
  refine s_if_eq (tgt := 39) dX9_isTrue_6 (by decide) (fun q1 => ?_) (fun q1 => ?_)
  · have h := h.1 q1
    refine s_iconst (v := 0) dX9_isTrue_39 (by decide) ?_
    exact s_ireturn dX9_isTrue_40 rfl rfl (by decide) (by decide) h
  · have h := h.2 q1
    refine s_aload_n (i := 0) dX9_isTrue_9 rfl rfl ?_
    obtain ⟨a2, ea2, h⟩ := h
    obtain ⟨t3, h⟩ := h
    refine t_getR gk dX9_isTrue_10 fX9_9 rfl ea2 t3 ?_
    refine s_iload_n (i := 1) dX9_isTrue_13 rfl rfl ?_
    refine s_iload_n (i := 2) dX9_isTrue_14 rfl rfl ?_
    exact s_callS (as := [(vI x1), (vI x2)]) (S := [(vR (mr σ a2 0))]) gk dX9_isTrue_15 gX9_66 w_1641 rfl rfl (Nat.le_of_ble_eq_true rfl) (by decide) h
theorem vX9_isTrue_18 {G : GG} (gk : GOK G) {σ : Mm} {K : RES → Mm → Prop} {x0 : Option Nat} {x1 : Int32} {x2 : Int32} {s0 : Int32} {s1 : Option Nat}
    (h : ∃ a1, s1 = some a1 ∧ ∃ n3, mt σ a1 = (50, n3) ∧ vp_in (s0 + (3 : Int32)) n3 ∧ ∃ a5, x0 = some a5 ∧ (mt σ a5).1 = 10 ∧ Runs G mX9_jar rX9_jar [(vI x2)] σ (bk G mX9_isTrue rX9_isTrue 0 0 29 [some (vR x0), some (vI x1), some (vI x2)] [(vR (mr σ a5 0)), (vI (mi σ a1 (s0 + (3 : Int32)).toNatClampNeg))] K)) : At G mX9_isTrue rX9_isTrue 0 0 18 [some (vR x0), some (vI x1), some (vI x2)] [(vI s0), (vR s1)] σ K := by
  refine s_iconst (v := 3) dX9_isTrue_18 (by decide) ?_
  refine s_iadd dX9_isTrue_19 ?_
  obtain ⟨a1, ea1, h⟩ := h
  obtain ⟨n3, t2, h⟩ := h
  obtain ⟨c4, h⟩ := h
  refine t_iald gk dX9_isTrue_20 ea1 t2 c4 ?_
  refine s_aload_n (i := 0) dX9_isTrue_21 rfl rfl ?_
  obtain ⟨a5, ea5, h⟩ := h
  obtain ⟨t6, h⟩ := h
  refine t_getR gk dX9_isTrue_22 fX9_9 rfl ea5 t6 ?_
  refine s_iload_n (i := 2) dX9_isTrue_25 rfl rfl ?_
  exact s_callS (as := [(vI x2)]) (S := [(vR (mr σ a5 0)), (vI (mi σ a1 (s0 + (3 : Int32)).toNatClampNeg))]) gk dX9_isTrue_26 gX9_59 w_1626 rfl rfl (Nat.le_of_ble_eq_true rfl) (by decide) h
theorem vX9_isTrue_29 {G : GG} (gk : GOK G) {σ : Mm} {K : RES → Mm → Prop} {x0 : Option Nat} {x1 : Int32} {x2 : Int32} {s0 : Int32} {s1 : Option Nat} {s2 : Int32}
    (h : ∃ a1, s1 = some a1 ∧ ∃ n3, mt σ a1 = (50, n3) ∧ vp_in (s0 + (2 : Int32)) n3 ∧ ((s2 ≤ (mi σ a1 (s0 + (2 : Int32)).toNatClampNeg) → K (.inl (some (vI (0 : Int32)))) σ) ∧ (¬ s2 ≤ (mi σ a1 (s0 + (2 : Int32)).toNatClampNeg) → K (.inl (some (vI (1 : Int32)))) σ))) : At G mX9_isTrue rX9_isTrue 0 0 29 [some (vR x0), some (vI x1), some (vI x2)] [(vI s0), (vR s1), (vI s2)] σ K := by
  refine s_iconst (v := 2) dX9_isTrue_29 (by decide) ?_
  refine s_iadd dX9_isTrue_30 ?_
  obtain ⟨a1, ea1, h⟩ := h
  obtain ⟨n3, t2, h⟩ := h
  obtain ⟨c4, h⟩ := h
  refine t_iald gk dX9_isTrue_31 ea1 t2 c4 ?_
  refine s_icmp_le (tgt := 39) dX9_isTrue_32 (by decide) (fun q5 => ?_) (fun q5 => ?_)
  · have h := h.1 q5
    refine s_iconst (v := 0) dX9_isTrue_39 (by decide) ?_
    exact s_ireturn dX9_isTrue_40 rfl rfl (by decide) (by decide) h
  · have h := h.2 q5
    refine s_iconst (v := 1) dX9_isTrue_35 (by decide) ?_
    refine s_goto (tgt := 40) dX9_isTrue_36 (by decide) ?_
    exact s_ireturn dX9_isTrue_40 rfl rfl (by decide) (by decide) h
theorem vX9_isTrueBySteps_0 {G : GG} (gk : GOK G) {σ : Mm} {K : RES → Mm → Prop} {x0 : Option Nat} {x1 : Int32} {x2 : Int32}
    (h : ∃ a1, x0 = some a1 ∧ (mt σ a1).1 = 10 ∧ Runs G mX9_isTrue rX9_isTrue [(vR x0), (vI x1), (vI x2)] σ (bk G mX9_isTrueBySteps rX9_isTrueBySteps 0 0 6 [some (vR x0), some (vI x1), some (vI x2)] [] K)) : At G mX9_isTrueBySteps rX9_isTrueBySteps 0 0 0 [some (vR x0), some (vI x1), some (vI x2)] [] σ K := by
  refine s_aload_n (i := 0) dX9_isTrueBySteps_0 rfl rfl ?_
  refine s_iload_n (i := 1) dX9_isTrueBySteps_1 rfl rfl ?_
  refine s_iload_n (i := 2) dX9_isTrueBySteps_2 rfl rfl ?_
  obtain ⟨a1, ea1, h⟩ := h
  obtain ⟨t2, h⟩ := h
  exact t_callV (ci := 9) (as := [(vI x1), (vI x2)]) (S := []) gk dX9_isTrueBySteps_3 gX9_132 (by decide) rfl w_1764 w_1765 ea1 t2 rfl rfl (Nat.le_of_ble_eq_true rfl) (by decide) h
theorem eX9_isTrueBySteps {G : GG} (gk : GOK G) {σ : Mm} {K : RES → Mm → Prop} {x0 : Option Nat} {x1 : Int32} {x2 : Int32}
    (h : ∃ a1, x0 = some a1 ∧ (mt σ a1).1 = 10 ∧ Runs G mX9_isTrue rX9_isTrue [(vR x0), (vI x1), (vI x2)] σ (bk G mX9_isTrueBySteps rX9_isTrueBySteps 0 0 6 [some (vR x0), some (vI x1), some (vI x2)] [] K)) : Runs G mX9_isTrueBySteps rX9_isTrueBySteps [(vR x0), (vI x1), (vI x2)] σ K := Runs.of (by decide) rfl (Nat.le_of_ble_eq_true rfl) (vX9_isTrueBySteps_0 gk h)
theorem vX9_isTrueBySteps_6 {G : GG} (gk : GOK G) {σ : Mm} {K : RES → Mm → Prop} {x0 : Option Nat} {x1 : Int32} {x2 : Int32} {s0 : Int32}
    (h : isZ s0 ∧ K (.inl (some (vI s0))) σ) : At G mX9_isTrueBySteps rX9_isTrueBySteps 0 0 6 [some (vR x0), some (vI x1), some (vI x2)] [(vI s0)] σ K := by
  obtain ⟨c1, h⟩ := h
  exact s_ireturn dX9_isTrueBySteps_6 rfl (nf_z c1).1 (by decide) (by decide) h
theorem vX9_victimOf_0 {G : GG} (gk : GOK G) {σ : Mm} {K : RES → Mm → Prop} {x0 : Option Nat} {x1 : Int32}
    (h : ∃ a1, x0 = some a1 ∧ (mt σ a1).1 = 10 ∧ Runs G mX9_isShelf rX9_isShelf [(vR x0), (vI x1)] σ (bk G mX9_victimOf rX9_victimOf 0 0 6 [some (vR x0), some (vI x1)] [(vR x0)] K)) : At G mX9_victimOf rX9_victimOf 0 0 0 [some (vR x0), some (vI x1)] [] σ K := by
  refine s_aload_n (i := 0) dX9_victimOf_0 rfl rfl ?_
  refine s_aload_n (i := 0) dX9_victimOf_1 rfl rfl ?_
  refine s_iload_n (i := 1) dX9_victimOf_2 rfl rfl ?_
  obtain ⟨a1, ea1, h⟩ := h
  obtain ⟨t2, h⟩ := h
  exact t_callV (ci := 9) (as := [(vI x1)]) (S := [(vR x0)]) gk dX9_victimOf_3 gX9_122 (by decide) rfl w_1689 wp_20 ea1 t2 rfl rfl (Nat.le_of_ble_eq_true rfl) (by decide) h
theorem eX9_victimOf {G : GG} (gk : GOK G) {σ : Mm} {K : RES → Mm → Prop} {x0 : Option Nat} {x1 : Int32}
    (h : ∃ a1, x0 = some a1 ∧ (mt σ a1).1 = 10 ∧ Runs G mX9_isShelf rX9_isShelf [(vR x0), (vI x1)] σ (bk G mX9_victimOf rX9_victimOf 0 0 6 [some (vR x0), some (vI x1)] [(vR x0)] K)) : Runs G mX9_victimOf rX9_victimOf [(vR x0), (vI x1)] σ K := Runs.of (by decide) rfl (Nat.le_of_ble_eq_true rfl) (vX9_victimOf_0 gk h)
theorem vX9_victimOf_6 {G : GG} (gk : GOK G) {σ : Mm} {K : RES → Mm → Prop} {x0 : Option Nat} {x1 : Int32} {s0 : Int32} {s1 : Option Nat}
    (h : ((¬ s0 = 0 → ∃ a2, x0 = some a2 ∧ (mt σ a2).1 = 10 ∧ Runs G mX9_echoes rX9_echoes [(vR x0), (vI x1)] σ (bk G mX9_victimOf rX9_victimOf 0 0 18 [some (vR x0), some (vI x1)] [(vR s1)] K)) ∧ (s0 = 0 → ∃ a4, s1 = some a4 ∧ (mt σ a4).1 = 10 ∧ ∀ σ6, σ6 = si σ a4 6 (1 : Int32) → ∃ a7, x0 = some a7 ∧ (mt σ a7).1 = 10 ∧ (((mi σ6 a7 6) ≤ 0 → Runs G mX9_victim rX9_victim [(vR x0), (vI x1)] σ6 (bk G mX9_victimOf rX9_victimOf 0 0 46 [some (vR x0), some (vI x1)] [] K)) ∧ (¬ (mi σ6 a7 6) ≤ 0 → K (.inl (some (vI (32 : Int32)))) σ6))))) : At G mX9_victimOf rX9_victimOf 0 0 6 [some (vR x0), some (vI x1)] [(vI s0), (vR s1)] σ K := by
  refine s_if_ne (tgt := 13) dX9_victimOf_6 (by decide) (fun q1 => ?_) (fun q1 => ?_)
  · have h := h.1 q1
    refine s_aload_n (i := 0) dX9_victimOf_13 rfl rfl ?_
    refine s_iload_n (i := 1) dX9_victimOf_14 rfl rfl ?_
    obtain ⟨a2, ea2, h⟩ := h
    obtain ⟨t3, h⟩ := h
    exact t_callV (ci := 9) (as := [(vI x1)]) (S := [(vR s1)]) gk dX9_victimOf_15 gX9_83 (by decide) rfl w_1717 wp_21 ea2 t3 rfl rfl (Nat.le_of_ble_eq_true rfl) (by decide) h
  · have h := h.2 q1
    refine s_iconst (v := 1) dX9_victimOf_9 (by decide) ?_
    refine s_goto (tgt := 26) dX9_victimOf_10 (by decide) ?_
    obtain ⟨a4, ea4, h⟩ := h
    obtain ⟨t5, h⟩ := h
    refine t_putI gk dX9_victimOf_26 fX9_39 rfl rfl ea4 t5 ⟨rfl, rfl⟩ (fun σ6 eσ6 mσ6 => ?_)
    replace h := h σ6 eσ6
    refine s_aload_n (i := 0) dX9_victimOf_29 rfl rfl ?_
    obtain ⟨a7, ea7, h⟩ := h
    obtain ⟨t8, h⟩ := h
    refine t_getI gk dX9_victimOf_30 fX9_39 rfl ea7 (by rw [mσ6]; exact t8) ?_
    refine s_if_le (tgt := 41) dX9_victimOf_33 (by decide) (fun q9 => ?_) (fun q9 => ?_)
    · have h := h.1 q9
      refine s_aload_n (i := 0) dX9_victimOf_41 rfl rfl ?_
      refine s_iload_n (i := 1) dX9_victimOf_42 rfl rfl ?_
      exact t_callV (ci := 9) (as := [(vI x1)]) (S := []) gk dX9_victimOf_43 gX9_86 (by decide) rfl w_1778 wp_26 ea7 (by rw [mσ6]; exact t8) rfl rfl (Nat.le_of_ble_eq_true rfl) (by decide) h
    · have h := h.2 q9
      refine s_bipush (v := 32) dX9_victimOf_36 (by decide) ?_
      refine s_goto (tgt := 47) dX9_victimOf_38 (by decide) ?_
      exact s_ireturn dX9_victimOf_47 rfl rfl (by decide) (by decide) h
theorem vX9_victimOf_18 {G : GG} (gk : GOK G) {σ : Mm} {K : RES → Mm → Prop} {x0 : Option Nat} {x1 : Int32} {s0 : Int32} {s1 : Option Nat}
    (h : ((¬ s0 = 0 → ∃ a2, s1 = some a2 ∧ (mt σ a2).1 = 10 ∧ ∀ σ4, σ4 = si σ a2 6 (0 : Int32) → ∃ a5, x0 = some a5 ∧ (mt σ a5).1 = 10 ∧ (((mi σ4 a5 6) ≤ 0 → Runs G mX9_victim rX9_victim [(vR x0), (vI x1)] σ4 (bk G mX9_victimOf rX9_victimOf 0 0 46 [some (vR x0), some (vI x1)] [] K)) ∧ (¬ (mi σ4 a5 6) ≤ 0 → K (.inl (some (vI (32 : Int32)))) σ4))) ∧ (s0 = 0 → ∃ a8, s1 = some a8 ∧ (mt σ a8).1 = 10 ∧ ∀ σ10, σ10 = si σ a8 6 (2 : Int32) → ∃ a11, x0 = some a11 ∧ (mt σ a11).1 = 10 ∧ (((mi σ10 a11 6) ≤ 0 → Runs G mX9_victim rX9_victim [(vR x0), (vI x1)] σ10 (bk G mX9_victimOf rX9_victimOf 0 0 46 [some (vR x0), some (vI x1)] [] K)) ∧ (¬ (mi σ10 a11 6) ≤ 0 → K (.inl (some (vI (32 : Int32)))) σ10))))) : At G mX9_victimOf rX9_victimOf 0 0 18 [some (vR x0), some (vI x1)] [(vI s0), (vR s1)] σ K := by
  refine s_if_ne (tgt := 25) dX9_victimOf_18 (by decide) (fun q1 => ?_) (fun q1 => ?_)
  · have h := h.1 q1
    refine s_iconst (v := 0) dX9_victimOf_25 (by decide) ?_
    obtain ⟨a2, ea2, h⟩ := h
    obtain ⟨t3, h⟩ := h
    refine t_putI gk dX9_victimOf_26 fX9_39 rfl rfl ea2 t3 ⟨rfl, rfl⟩ (fun σ4 eσ4 mσ4 => ?_)
    replace h := h σ4 eσ4
    refine s_aload_n (i := 0) dX9_victimOf_29 rfl rfl ?_
    obtain ⟨a5, ea5, h⟩ := h
    obtain ⟨t6, h⟩ := h
    refine t_getI gk dX9_victimOf_30 fX9_39 rfl ea5 (by rw [mσ4]; exact t6) ?_
    refine s_if_le (tgt := 41) dX9_victimOf_33 (by decide) (fun q7 => ?_) (fun q7 => ?_)
    · have h := h.1 q7
      refine s_aload_n (i := 0) dX9_victimOf_41 rfl rfl ?_
      refine s_iload_n (i := 1) dX9_victimOf_42 rfl rfl ?_
      exact t_callV (ci := 9) (as := [(vI x1)]) (S := []) gk dX9_victimOf_43 gX9_86 (by decide) rfl w_1778 wp_26 ea5 (by rw [mσ4]; exact t6) rfl rfl (Nat.le_of_ble_eq_true rfl) (by decide) h
    · have h := h.2 q7
      refine s_bipush (v := 32) dX9_victimOf_36 (by decide) ?_
      refine s_goto (tgt := 47) dX9_victimOf_38 (by decide) ?_
      exact s_ireturn dX9_victimOf_47 rfl rfl (by decide) (by decide) h
  · have h := h.2 q1
    refine s_iconst (v := 2) dX9_victimOf_21 (by decide) ?_
    refine s_goto (tgt := 26) dX9_victimOf_22 (by decide) ?_
    obtain ⟨a8, ea8, h⟩ := h
    obtain ⟨t9, h⟩ := h
    refine t_putI gk dX9_victimOf_26 fX9_39 rfl rfl ea8 t9 ⟨rfl, rfl⟩ (fun σ10 eσ10 mσ10 => ?_)
    replace h := h σ10 eσ10
    refine s_aload_n (i := 0) dX9_victimOf_29 rfl rfl ?_
    obtain ⟨a11, ea11, h⟩ := h
    obtain ⟨t12, h⟩ := h
    refine t_getI gk dX9_victimOf_30 fX9_39 rfl ea11 (by rw [mσ10]; exact t12) ?_
    refine s_if_le (tgt := 41) dX9_victimOf_33 (by decide) (fun q13 => ?_) (fun q13 => ?_)
    · have h := h.1 q13
      refine s_aload_n (i := 0) dX9_victimOf_41 rfl rfl ?_
      refine s_iload_n (i := 1) dX9_victimOf_42 rfl rfl ?_
      exact t_callV (ci := 9) (as := [(vI x1)]) (S := []) gk dX9_victimOf_43 gX9_86 (by decide) rfl w_1778 wp_26 ea11 (by rw [mσ10]; exact t12) rfl rfl (Nat.le_of_ble_eq_true rfl) (by decide) h
    · have h := h.2 q13
      refine s_bipush (v := 32) dX9_victimOf_36 (by decide) ?_
      refine s_goto (tgt := 47) dX9_victimOf_38 (by decide) ?_
      exact s_ireturn dX9_victimOf_47 rfl rfl (by decide) (by decide) h
theorem vX9_victimOf_46 {G : GG} (gk : GOK G) {σ : Mm} {K : RES → Mm → Prop} {x0 : Option Nat} {x1 : Int32} {s0 : Int32}
    (h : isC (i2c s0) ∧ K (.inl (some (vI (i2c s0)))) σ) : At G mX9_victimOf rX9_victimOf 0 0 46 [some (vR x0), some (vI x1)] [(vI s0)] σ K := by
  refine s_i2c (v := i2c s0) dX9_victimOf_46 rfl ?_
  obtain ⟨c1, h⟩ := h
  exact s_ireturn dX9_victimOf_47 rfl (nf_c c1).1 (by decide) (by decide) h
theorem vX9_victimByScan_0 {G : GG} (gk : GOK G) {σ : Mm} {K : RES → Mm → Prop} {x0 : Option Nat} {x1 : Int32}
    (h : ∃ a1, x0 = some a1 ∧ (mt σ a1).1 = 10 ∧ Runs G mX9_victimOf rX9_victimOf [(vR x0), (vI x1)] σ (bk G mX9_victimByScan rX9_victimByScan 0 0 5 [some (vR x0), some (vI x1)] [] K)) : At G mX9_victimByScan rX9_victimByScan 0 0 0 [some (vR x0), some (vI x1)] [] σ K := by
  refine s_aload_n (i := 0) dX9_victimByScan_0 rfl rfl ?_
  refine s_iload_n (i := 1) dX9_victimByScan_1 rfl rfl ?_
  obtain ⟨a1, ea1, h⟩ := h
  obtain ⟨t2, h⟩ := h
  exact t_callV (ci := 9) (as := [(vI x1)]) (S := []) gk dX9_victimByScan_2 gX9_136 (by decide) rfl w_1773 w_1774 ea1 t2 rfl rfl (Nat.le_of_ble_eq_true rfl) (by decide) h
theorem eX9_victimByScan {G : GG} (gk : GOK G) {σ : Mm} {K : RES → Mm → Prop} {x0 : Option Nat} {x1 : Int32}
    (h : ∃ a1, x0 = some a1 ∧ (mt σ a1).1 = 10 ∧ Runs G mX9_victimOf rX9_victimOf [(vR x0), (vI x1)] σ (bk G mX9_victimByScan rX9_victimByScan 0 0 5 [some (vR x0), some (vI x1)] [] K)) : Runs G mX9_victimByScan rX9_victimByScan [(vR x0), (vI x1)] σ K := Runs.of (by decide) rfl (Nat.le_of_ble_eq_true rfl) (vX9_victimByScan_0 gk h)
theorem vX9_victimByScan_5 {G : GG} (gk : GOK G) {σ : Mm} {K : RES → Mm → Prop} {x0 : Option Nat} {x1 : Int32} {s0 : Int32}
    (h : isC s0 ∧ K (.inl (some (vI s0))) σ) : At G mX9_victimByScan rX9_victimByScan 0 0 5 [some (vR x0), some (vI x1)] [(vI s0)] σ K := by
  obtain ⟨c1, h⟩ := h
  exact s_ireturn dX9_victimByScan_5 rfl (nf_c c1).1 (by decide) (by decide) h
theorem vX9_doHear_0 {G : GG} (gk : GOK G) {σ : Mm} {K : RES → Mm → Prop} {x0 : Option Nat} {x1 : Int32} {x2 : Int32}
    (h : ∃ a1, x0 = some a1 ∧ (mt σ a1).1 = 10 ∧ Runs G mX9_isShelf rX9_isShelf [(vR x0), (vI x1)] σ (bk G mX9_doHear rX9_doHear 0 0 5 [some (vR x0), some (vI x1), some (vI x2), none] [] K)) : At G mX9_doHear rX9_doHear 0 0 0 [some (vR x0), some (vI x1), some (vI x2), none] [] σ K := by
  refine s_aload_n (i := 0) dX9_doHear_0 rfl rfl ?_
  refine s_iload_n (i := 1) dX9_doHear_1 rfl rfl ?_
  obtain ⟨a1, ea1, h⟩ := h
  obtain ⟨t2, h⟩ := h
  exact t_callV (ci := 9) (as := [(vI x1)]) (S := []) gk dX9_doHear_2 gX9_122 (by decide) rfl w_1689 wp_20 ea1 t2 rfl rfl (Nat.le_of_ble_eq_true rfl) (by decide) h
theorem eX9_doHear {G : GG} (gk : GOK G) {σ : Mm} {K : RES → Mm → Prop} {x0 : Option Nat} {x1 : Int32} {x2 : Int32}
    (h : ∃ a1, x0 = some a1 ∧ (mt σ a1).1 = 10 ∧ Runs G mX9_isShelf rX9_isShelf [(vR x0), (vI x1)] σ (bk G mX9_doHear rX9_doHear 0 0 5 [some (vR x0), some (vI x1), some (vI x2), none] [] K)) : Runs G mX9_doHear rX9_doHear [(vR x0), (vI x1), (vI x2)] σ K := Runs.of (by decide) rfl (Nat.le_of_ble_eq_true rfl) (vX9_doHear_0 gk h)
theorem vX9_doHear_5 {G : GG} (gk : GOK G) {σ : Mm} {K : RES → Mm → Prop} {x0 : Option Nat} {x1 : Int32} {x2 : Int32} {s0 : Int32}
    (h : ((¬ s0 = 0 → ∃ a2, x0 = some a2 ∧ (mt σ a2).1 = 10 ∧ Runs G mX9_isJar rX9_isJar [(vR x0), (vI x2)] σ (bk G mX9_doHear rX9_doHear 0 0 19 [some (vR x0), some (vI x1), some (vI x2), none] [] K)) ∧ (s0 = 0 → ∃ a4, x0 = some a4 ∧ (mt σ a4).1 = 10 ∧ Runs G mX9_fails rX9_fails [(vR x0), (vI (1 : Int32))] σ (bk G mX9_doHear rX9_doHear 0 0 13 [some (vR x0), some (vI x1), some (vI x2), none] [] K)))) : At G mX9_doHear rX9_doHear 0 0 5 [some (vR x0), some (vI x1), some (vI x2), none] [(vI s0)] σ K := by
  refine s_if_ne (tgt := 14) dX9_doHear_5 (by decide) (fun q1 => ?_) (fun q1 => ?_)
  · have h := h.1 q1
    refine s_aload_n (i := 0) dX9_doHear_14 rfl rfl ?_
    refine s_iload_n (i := 2) dX9_doHear_15 rfl rfl ?_
    obtain ⟨a2, ea2, h⟩ := h
    obtain ⟨t3, h⟩ := h
    exact t_callV (ci := 9) (as := [(vI x2)]) (S := []) gk dX9_doHear_16 gX9_63 (by decide) rfl w_1623 wp_12 ea2 t3 rfl rfl (Nat.le_of_ble_eq_true rfl) (by decide) h
  · have h := h.2 q1
    refine s_aload_n (i := 0) dX9_doHear_8 rfl rfl ?_
    refine s_iconst (v := 1) dX9_doHear_9 (by decide) ?_
    obtain ⟨a4, ea4, h⟩ := h
    obtain ⟨t5, h⟩ := h
    exact t_callV (ci := 9) (as := [(vI (1 : Int32))]) (S := []) gk dX9_doHear_10 gX9_92 (by decide) rfl w_1615 wp_10 ea4 t5 rfl rfl (Nat.le_of_ble_eq_true rfl) (by decide) h
theorem vX9_doHear_13 {G : GG} (gk : GOK G) {σ : Mm} {K : RES → Mm → Prop} {x0 : Option Nat} {x1 : Int32} {x2 : Int32} {s0 : Int32}
    (h : K (.inl (some (vI s0))) σ) : At G mX9_doHear rX9_doHear 0 0 13 [some (vR x0), some (vI x1), some (vI x2), none] [(vI s0)] σ K := by
  exact s_ireturn dX9_doHear_13 rfl rfl (by decide) (by decide) h
theorem vX9_doHear_19 {G : GG} (gk : GOK G) {σ : Mm} {K : RES → Mm → Prop} {x0 : Option Nat} {x1 : Int32} {x2 : Int32} {s0 : Int32}
    (h : ((¬ s0 = 0 → ∃ a2, x0 = some a2 ∧ (mt σ a2).1 = 10 ∧ Runs G mX9_outcome rX9_outcome [(vR x0), (vI x1), (vI x2)] σ (bk G mX9_doHear rX9_doHear 0 0 34 [some (vR x0), some (vI x1), some (vI x2), none] [] K)) ∧ (s0 = 0 → ∃ a4, x0 = some a4 ∧ (mt σ a4).1 = 10 ∧ Runs G mX9_fails rX9_fails [(vR x0), (vI (2 : Int32))] σ (bk G mX9_doHear rX9_doHear 0 0 27 [some (vR x0), some (vI x1), some (vI x2), none] [] K)))) : At G mX9_doHear rX9_doHear 0 0 19 [some (vR x0), some (vI x1), some (vI x2), none] [(vI s0)] σ K := by
  refine s_if_ne (tgt := 28) dX9_doHear_19 (by decide) (fun q1 => ?_) (fun q1 => ?_)
  · have h := h.1 q1
    refine s_aload_n (i := 0) dX9_doHear_28 rfl rfl ?_
    refine s_iload_n (i := 1) dX9_doHear_29 rfl rfl ?_
    refine s_iload_n (i := 2) dX9_doHear_30 rfl rfl ?_
    obtain ⟨a2, ea2, h⟩ := h
    obtain ⟨t3, h⟩ := h
    exact t_callV (ci := 9) (as := [(vI x1), (vI x2)]) (S := []) gk dX9_doHear_31 gX9_140 (by decide) rfl w_1799 wp_29 ea2 t3 rfl rfl (Nat.le_of_ble_eq_true rfl) (by decide) h
  · have h := h.2 q1
    refine s_aload_n (i := 0) dX9_doHear_22 rfl rfl ?_
    refine s_iconst (v := 2) dX9_doHear_23 (by decide) ?_
    obtain ⟨a4, ea4, h⟩ := h
    obtain ⟨t5, h⟩ := h
    exact t_callV (ci := 9) (as := [(vI (2 : Int32))]) (S := []) gk dX9_doHear_24 gX9_92 (by decide) rfl w_1615 wp_10 ea4 t5 rfl rfl (Nat.le_of_ble_eq_true rfl) (by decide) h
theorem vX9_doHear_27 {G : GG} (gk : GOK G) {σ : Mm} {K : RES → Mm → Prop} {x0 : Option Nat} {x1 : Int32} {x2 : Int32} {s0 : Int32}
    (h : K (.inl (some (vI s0))) σ) : At G mX9_doHear rX9_doHear 0 0 27 [some (vR x0), some (vI x1), some (vI x2), none] [(vI s0)] σ K := by
  exact s_ireturn dX9_doHear_27 rfl rfl (by decide) (by decide) h
theorem vX9_doHear_34 {G : GG} (gk : GOK G) {σ : Mm} {K : RES → Mm → Prop} {x0 : Option Nat} {x1 : Int32} {x2 : Int32} {s0 : Int32}
    (h : ((¬ s0 = (104 : Int32) → ∃ a2, x0 = some a2 ∧ (mt σ a2).1 = 10 ∧ ((¬ s0 = (99 : Int32) → ((¬ s0 = (101 : Int32) → ∃ a6, mr σ a2 0 = some a6 ∧ ∃ n8, mt σ a6 = (50, n8) ∧ vp_in (7 : Int32) n8 ∧ vp_in (7 : Int32) n8 ∧ ∀ σ11, σ11 = si σ a6 (7 : Int32).toNatClampNeg ((mi σ a6 (7 : Int32).toNatClampNeg) + (1 : Int32)) → Runs G mX9_fetches rX9_fetches [(vR x0), (vI x1), (vI x2)] σ11 (bk G mX9_doHear rX9_doHear 0 0 155 [some (vR x0), some (vI x1), some (vI x2), some (vI s0)] [] K)) ∧ (s0 = (101 : Int32) → ∃ a12, mr σ a2 0 = some a12 ∧ ∃ n14, mt σ a12 = (50, n14) ∧ vp_in (6 : Int32) n14 ∧ vp_in (6 : Int32) n14 ∧ ∀ σ17, σ17 = si σ a12 (6 : Int32).toNatClampNeg ((mi σ a12 (6 : Int32).toNatClampNeg) + (1 : Int32)) → Runs G mX9_fetches rX9_fetches [(vR x0), (vI x1), (vI x2)] σ17 (bk G mX9_doHear rX9_doHear 0 0 155 [some (vR x0), some (vI x1), some (vI x2), some (vI s0)] [] K)))) ∧ (s0 = (99 : Int32) → ∃ a18, mr σ a2 0 = some a18 ∧ ∃ n20, mt σ a18 = (50, n20) ∧ vp_in (5 : Int32) n20 ∧ vp_in (5 : Int32) n20 ∧ ∀ σ23, σ23 = si σ a18 (5 : Int32).toNatClampNeg ((mi σ a18 (5 : Int32).toNatClampNeg) + (1 : Int32)) → Runs G mX9_fetches rX9_fetches [(vR x0), (vI x1), (vI x2)] σ23 (bk G mX9_doHear rX9_doHear 0 0 155 [some (vR x0), some (vI x1), some (vI x2), some (vI s0)] [] K)))) ∧ (s0 = (104 : Int32) → ∃ a24, x0 = some a24 ∧ (mt σ a24).1 = 10 ∧ Runs G mX9_echo rX9_echo [(vI x1), (vI x2)] σ (bk G mX9_doHear rX9_doHear 0 0 50 [some (vR x0), some (vI x1), some (vI x2), some (vI s0)] [(vR (mr σ a24 0))] K)))) : At G mX9_doHear rX9_doHear 0 0 34 [some (vR x0), some (vI x1), some (vI x2), none] [(vI s0)] σ K := by
  refine s_istore_n (i := 3) (L' := [some (vR x0), some (vI x1), some (vI x2), some (vI s0)]) dX9_doHear_34 rfl rfl (by decide) rfl ?_
  refine s_iload_n (i := 3) dX9_doHear_35 rfl rfl ?_
  refine s_bipush (v := 104) dX9_doHear_36 (by decide) ?_
  refine s_icmp_ne (tgt := 117) dX9_doHear_38 (by decide) (fun q1 => ?_) (fun q1 => ?_)
  · have h := h.1 q1
    refine s_aload_n (i := 0) dX9_doHear_117 rfl rfl ?_
    obtain ⟨a2, ea2, h⟩ := h
    obtain ⟨t3, h⟩ := h
    refine t_getR gk dX9_doHear_118 fX9_9 rfl ea2 t3 ?_
    refine s_iload_n (i := 3) dX9_doHear_121 rfl rfl ?_
    refine s_bipush (v := 99) dX9_doHear_122 (by decide) ?_
    refine s_icmp_ne (tgt := 131) dX9_doHear_124 (by decide) (fun q4 => ?_) (fun q4 => ?_)
    · have h := h.1 q4
      refine s_iload_n (i := 3) dX9_doHear_131 rfl rfl ?_
      refine s_bipush (v := 101) dX9_doHear_132 (by decide) ?_
      refine s_icmp_ne (tgt := 142) dX9_doHear_134 (by decide) (fun q5 => ?_) (fun q5 => ?_)
      · have h := h.1 q5
        refine s_bipush (v := 7) dX9_doHear_142 (by decide) ?_
        refine s_dup2 dX9_doHear_144 rfl rfl ?_
        obtain ⟨a6, ea6, h⟩ := h
        obtain ⟨n8, t7, h⟩ := h
        obtain ⟨c9, h⟩ := h
        refine t_iald gk dX9_doHear_145 ea6 t7 c9 ?_
        refine s_iconst (v := 1) dX9_doHear_146 (by decide) ?_
        refine s_iadd dX9_doHear_147 ?_
        obtain ⟨c10, h⟩ := h
        refine t_iast gk dX9_doHear_148 ea6 t7 c10 (fun σ11 eσ11 mσ11 => ?_)
        replace h := h σ11 eσ11
        refine s_aload_n (i := 0) dX9_doHear_149 rfl rfl ?_
        refine s_iload_n (i := 1) dX9_doHear_150 rfl rfl ?_
        refine s_iload_n (i := 2) dX9_doHear_151 rfl rfl ?_
        exact t_callV (ci := 9) (as := [(vI x1), (vI x2)]) (S := []) gk dX9_doHear_152 gX9_144 (by decide) rfl w_1803 wp_30 ea2 (by rw [mσ11]; exact t3) rfl rfl (Nat.le_of_ble_eq_true rfl) (by decide) h
      · have h := h.2 q5
        refine s_bipush (v := 6) dX9_doHear_137 (by decide) ?_
        refine s_goto (tgt := 144) dX9_doHear_139 (by decide) ?_
        refine s_dup2 dX9_doHear_144 rfl rfl ?_
        obtain ⟨a12, ea12, h⟩ := h
        obtain ⟨n14, t13, h⟩ := h
        obtain ⟨c15, h⟩ := h
        refine t_iald gk dX9_doHear_145 ea12 t13 c15 ?_
        refine s_iconst (v := 1) dX9_doHear_146 (by decide) ?_
        refine s_iadd dX9_doHear_147 ?_
        obtain ⟨c16, h⟩ := h
        refine t_iast gk dX9_doHear_148 ea12 t13 c16 (fun σ17 eσ17 mσ17 => ?_)
        replace h := h σ17 eσ17
        refine s_aload_n (i := 0) dX9_doHear_149 rfl rfl ?_
        refine s_iload_n (i := 1) dX9_doHear_150 rfl rfl ?_
        refine s_iload_n (i := 2) dX9_doHear_151 rfl rfl ?_
        exact t_callV (ci := 9) (as := [(vI x1), (vI x2)]) (S := []) gk dX9_doHear_152 gX9_144 (by decide) rfl w_1803 wp_30 ea2 (by rw [mσ17]; exact t3) rfl rfl (Nat.le_of_ble_eq_true rfl) (by decide) h
    · have h := h.2 q4
      refine s_iconst (v := 5) dX9_doHear_127 (by decide) ?_
      refine s_goto (tgt := 144) dX9_doHear_128 (by decide) ?_
      refine s_dup2 dX9_doHear_144 rfl rfl ?_
      obtain ⟨a18, ea18, h⟩ := h
      obtain ⟨n20, t19, h⟩ := h
      obtain ⟨c21, h⟩ := h
      refine t_iald gk dX9_doHear_145 ea18 t19 c21 ?_
      refine s_iconst (v := 1) dX9_doHear_146 (by decide) ?_
      refine s_iadd dX9_doHear_147 ?_
      obtain ⟨c22, h⟩ := h
      refine t_iast gk dX9_doHear_148 ea18 t19 c22 (fun σ23 eσ23 mσ23 => ?_)
      replace h := h σ23 eσ23
      refine s_aload_n (i := 0) dX9_doHear_149 rfl rfl ?_
      refine s_iload_n (i := 1) dX9_doHear_150 rfl rfl ?_
      refine s_iload_n (i := 2) dX9_doHear_151 rfl rfl ?_
      exact t_callV (ci := 9) (as := [(vI x1), (vI x2)]) (S := []) gk dX9_doHear_152 gX9_144 (by decide) rfl w_1803 wp_30 ea2 (by rw [mσ23]; exact t3) rfl rfl (Nat.le_of_ble_eq_true rfl) (by decide) h
  · have h := h.2 q1
    refine s_aload_n (i := 0) dX9_doHear_41 rfl rfl ?_
    obtain ⟨a24, ea24, h⟩ := h
    obtain ⟨t25, h⟩ := h
    refine t_getR gk dX9_doHear_42 fX9_9 rfl ea24 t25 ?_
    refine s_iload_n (i := 1) dX9_doHear_45 rfl rfl ?_
    refine s_iload_n (i := 2) dX9_doHear_46 rfl rfl ?_
    exact s_callS (as := [(vI x1), (vI x2)]) (S := [(vR (mr σ a24 0))]) gk dX9_doHear_47 gX9_66 w_1641 rfl rfl (Nat.le_of_ble_eq_true rfl) (by decide) h
theorem vX9_doHear_50 {G : GG} (gk : GOK G) {σ : Mm} {K : RES → Mm → Prop} {x0 : Option Nat} {x1 : Int32} {x2 : Int32} {x3 : Int32} {s0 : Int32} {s1 : Option Nat}
    (h : ∃ a1, s1 = some a1 ∧ ∃ n3, mt σ a1 = (50, n3) ∧ vp_in (s0 + (5 : Int32)) n3 ∧ vp_in (s0 + (5 : Int32)) n3 ∧ ∀ σ6, σ6 = si σ a1 (s0 + (5 : Int32)).toNatClampNeg ((mi σ a1 (s0 + (5 : Int32)).toNatClampNeg) + (1 : Int32)) → ∃ a7, x0 = some a7 ∧ (mt σ a7).1 = 10 ∧ Runs G mX9_echo rX9_echo [(vI x1), (vI x2)] σ6 (bk G mX9_doHear rX9_doHear 0 0 66 [some (vR x0), some (vI x1), some (vI x2), some (vI x3)] [(vR (mr σ6 a7 0))] K)) : At G mX9_doHear rX9_doHear 0 0 50 [some (vR x0), some (vI x1), some (vI x2), some (vI x3)] [(vI s0), (vR s1)] σ K := by
  refine s_iconst (v := 5) dX9_doHear_50 (by decide) ?_
  refine s_iadd dX9_doHear_51 ?_
  refine s_dup2 dX9_doHear_52 rfl rfl ?_
  obtain ⟨a1, ea1, h⟩ := h
  obtain ⟨n3, t2, h⟩ := h
  obtain ⟨c4, h⟩ := h
  refine t_iald gk dX9_doHear_53 ea1 t2 c4 ?_
  refine s_iconst (v := 1) dX9_doHear_54 (by decide) ?_
  refine s_iadd dX9_doHear_55 ?_
  obtain ⟨c5, h⟩ := h
  refine t_iast gk dX9_doHear_56 ea1 t2 c5 (fun σ6 eσ6 mσ6 => ?_)
  replace h := h σ6 eσ6
  refine s_aload_n (i := 0) dX9_doHear_57 rfl rfl ?_
  obtain ⟨a7, ea7, h⟩ := h
  obtain ⟨t8, h⟩ := h
  refine t_getR gk dX9_doHear_58 fX9_9 rfl ea7 (by rw [mσ6]; exact t8) ?_
  refine s_iload_n (i := 1) dX9_doHear_61 rfl rfl ?_
  refine s_iload_n (i := 2) dX9_doHear_62 rfl rfl ?_
  exact s_callS (as := [(vI x1), (vI x2)]) (S := [(vR (mr σ6 a7 0))]) gk dX9_doHear_63 gX9_66 w_1641 rfl rfl (Nat.le_of_ble_eq_true rfl) (by decide) h
theorem vX9_doHear_66 {G : GG} (gk : GOK G) {σ : Mm} {K : RES → Mm → Prop} {x0 : Option Nat} {x1 : Int32} {x2 : Int32} {x3 : Int32} {s0 : Int32} {s1 : Option Nat}
    (h : ∃ a1, x0 = some a1 ∧ (mt σ a1).1 = 10 ∧ ∃ a3, mr σ a1 0 = some a3 ∧ ∃ n5, mt σ a3 = (50, n5) ∧ vp_in (3 : Int32) n5 ∧ ∃ a7, s1 = some a7 ∧ ∃ n9, mt σ a7 = (50, n9) ∧ vp_in (s0 + (4 : Int32)) n9 ∧ ∀ σ11, σ11 = si σ a7 (s0 + (4 : Int32)).toNatClampNeg (mi σ a3 (3 : Int32).toNatClampNeg) → ∃ a12, mr σ11 a1 0 = some a12 ∧ ∃ n14, mt σ a12 = (50, n14) ∧ vp_in (3 : Int32) n14 ∧ vp_in (3 : Int32) n14 ∧ ∀ σ17, σ17 = si σ11 a12 (3 : Int32).toNatClampNeg ((mi σ11 a12 (3 : Int32).toNatClampNeg) + (1 : Int32)) → ∃ a18, mr σ17 a1 0 = some a18 ∧ ∃ n20, mt σ a18 = (50, n20) ∧ vp_in (4 : Int32) n20 ∧ vp_in (4 : Int32) n20 ∧ ∀ σ23, σ23 = si σ17 a18 (4 : Int32).toNatClampNeg ((mi σ17 a18 (4 : Int32).toNatClampNeg) + (1 : Int32)) → ∃ a24, mr σ23 a1 0 = some a24 ∧ ∃ n26, mt σ a24 = (50, n26) ∧ vp_in (((86 : Int32) + ((187 : Int32) * x1)) + (4 : Int32)) n26 ∧ vp_in (((86 : Int32) + ((187 : Int32) * x1)) + (4 : Int32)) n26 ∧ ∀ σ29, σ29 = si σ23 a24 (((86 : Int32) + ((187 : Int32) * x1)) + (4 : Int32)).toNatClampNeg ((mi σ23 a24 (((86 : Int32) + ((187 : Int32) * x1)) + (4 : Int32)).toNatClampNeg) + (1 : Int32)) → At G mX9_doHear rX9_doHear 0 0 155 [some (vR x0), some (vI x1), some (vI x2), some (vI x3)] [] σ29 K) : At G mX9_doHear rX9_doHear 0 0 66 [some (vR x0), some (vI x1), some (vI x2), some (vI x3)] [(vI s0), (vR s1)] σ K := by
  refine s_iconst (v := 4) dX9_doHear_66 (by decide) ?_
  refine s_iadd dX9_doHear_67 ?_
  refine s_aload_n (i := 0) dX9_doHear_68 rfl rfl ?_
  obtain ⟨a1, ea1, h⟩ := h
  obtain ⟨t2, h⟩ := h
  refine t_getR gk dX9_doHear_69 fX9_9 rfl ea1 t2 ?_
  refine s_iconst (v := 3) dX9_doHear_72 (by decide) ?_
  obtain ⟨a3, ea3, h⟩ := h
  obtain ⟨n5, t4, h⟩ := h
  obtain ⟨c6, h⟩ := h
  refine t_iald gk dX9_doHear_73 ea3 t4 c6 ?_
  obtain ⟨a7, ea7, h⟩ := h
  obtain ⟨n9, t8, h⟩ := h
  obtain ⟨c10, h⟩ := h
  refine t_iast gk dX9_doHear_74 ea7 t8 c10 (fun σ11 eσ11 mσ11 => ?_)
  replace h := h σ11 eσ11
  refine s_aload_n (i := 0) dX9_doHear_75 rfl rfl ?_
  refine t_getR gk dX9_doHear_76 fX9_9 rfl ea1 (by rw [mσ11]; exact t2) ?_
  refine s_iconst (v := 3) dX9_doHear_79 (by decide) ?_
  refine s_dup2 dX9_doHear_80 rfl rfl ?_
  obtain ⟨a12, ea12, h⟩ := h
  obtain ⟨n14, t13, h⟩ := h
  obtain ⟨c15, h⟩ := h
  refine t_iald gk dX9_doHear_81 ea12 (by rw [mσ11]; exact t13) c15 ?_
  refine s_iconst (v := 1) dX9_doHear_82 (by decide) ?_
  refine s_iadd dX9_doHear_83 ?_
  obtain ⟨c16, h⟩ := h
  refine t_iast gk dX9_doHear_84 ea12 (by rw [mσ11]; exact t13) c16 (fun σ17 eσ17 mσ17 => ?_)
  replace h := h σ17 eσ17
  refine s_aload_n (i := 0) dX9_doHear_85 rfl rfl ?_
  refine t_getR gk dX9_doHear_86 fX9_9 rfl ea1 (by rw [mσ17, mσ11]; exact t2) ?_
  refine s_iconst (v := 4) dX9_doHear_89 (by decide) ?_
  refine s_dup2 dX9_doHear_90 rfl rfl ?_
  obtain ⟨a18, ea18, h⟩ := h
  obtain ⟨n20, t19, h⟩ := h
  obtain ⟨c21, h⟩ := h
  refine t_iald gk dX9_doHear_91 ea18 (by rw [mσ17, mσ11]; exact t19) c21 ?_
  refine s_iconst (v := 1) dX9_doHear_92 (by decide) ?_
  refine s_iadd dX9_doHear_93 ?_
  obtain ⟨c22, h⟩ := h
  refine t_iast gk dX9_doHear_94 ea18 (by rw [mσ17, mσ11]; exact t19) c22 (fun σ23 eσ23 mσ23 => ?_)
  replace h := h σ23 eσ23
  refine s_aload_n (i := 0) dX9_doHear_95 rfl rfl ?_
  refine t_getR gk dX9_doHear_96 fX9_9 rfl ea1 (by rw [mσ23, mσ17, mσ11]; exact t2) ?_
  refine s_bipush (v := 86) dX9_doHear_99 (by decide) ?_
  refine s_sipush (v := 187) dX9_doHear_101 (by decide) ?_
  refine s_iload_n (i := 1) dX9_doHear_104 rfl rfl ?_
  refine s_imul dX9_doHear_105 ?_
  refine s_iadd dX9_doHear_106 ?_
  refine s_iconst (v := 4) dX9_doHear_107 (by decide) ?_
  refine s_iadd dX9_doHear_108 ?_
  refine s_dup2 dX9_doHear_109 rfl rfl ?_
  obtain ⟨a24, ea24, h⟩ := h
  obtain ⟨n26, t25, h⟩ := h
  obtain ⟨c27, h⟩ := h
  refine t_iald gk dX9_doHear_110 ea24 (by rw [mσ23, mσ17, mσ11]; exact t25) c27 ?_
  refine s_iconst (v := 1) dX9_doHear_111 (by decide) ?_
  refine s_iadd dX9_doHear_112 ?_
  obtain ⟨c28, h⟩ := h
  refine t_iast gk dX9_doHear_113 ea24 (by rw [mσ23, mσ17, mσ11]; exact t25) c28 (fun σ29 eσ29 mσ29 => ?_)
  replace h := h σ29 eσ29
  refine s_goto (tgt := 155) dX9_doHear_114 (by decide) ?_
  exact h
theorem vX9_doHear_155 {G : GG} (gk : GOK G) {σ : Mm} {K : RES → Mm → Prop} {x0 : Option Nat} {x1 : Int32} {x2 : Int32} {x3 : Int32}
    (h : ∃ a1, x0 = some a1 ∧ (mt σ a1).1 = 10 ∧ Runs G mX9_echo rX9_echo [(vI x1), (vI x2)] σ (bk G mX9_doHear rX9_doHear 0 0 164 [some (vR x0), some (vI x1), some (vI x2), some (vI x3)] [(vR (mr σ a1 0))] K)) : At G mX9_doHear rX9_doHear 0 0 155 [some (vR x0), some (vI x1), some (vI x2), some (vI x3)] [] σ K := by
  refine s_aload_n (i := 0) dX9_doHear_155 rfl rfl ?_
  obtain ⟨a1, ea1, h⟩ := h
  obtain ⟨t2, h⟩ := h
  refine t_getR gk dX9_doHear_156 fX9_9 rfl ea1 t2 ?_
  refine s_iload_n (i := 1) dX9_doHear_159 rfl rfl ?_
  refine s_iload_n (i := 2) dX9_doHear_160 rfl rfl ?_
  exact s_callS (as := [(vI x1), (vI x2)]) (S := [(vR (mr σ a1 0))]) gk dX9_doHear_161 gX9_66 w_1641 rfl rfl (Nat.le_of_ble_eq_true rfl) (by decide) h
theorem vX9_doHear_164 {G : GG} (gk : GOK G) {σ : Mm} {K : RES → Mm → Prop} {x0 : Option Nat} {x1 : Int32} {x2 : Int32} {x3 : Int32} {s0 : Int32} {s1 : Option Nat}
    (h : ∃ a1, s1 = some a1 ∧ ∃ n3, mt σ a1 = (50, n3) ∧ vp_in (s0 + (1 : Int32)) n3 ∧ K (.inl (some (vI (mi σ a1 (s0 + (1 : Int32)).toNatClampNeg)))) σ) : At G mX9_doHear rX9_doHear 0 0 164 [some (vR x0), some (vI x1), some (vI x2), some (vI x3)] [(vI s0), (vR s1)] σ K := by
  refine s_iconst (v := 1) dX9_doHear_164 (by decide) ?_
  refine s_iadd dX9_doHear_165 ?_
  obtain ⟨a1, ea1, h⟩ := h
  obtain ⟨n3, t2, h⟩ := h
  obtain ⟨c4, h⟩ := h
  refine t_iald gk dX9_doHear_166 ea1 t2 c4 ?_
  exact s_ireturn dX9_doHear_167 rfl rfl (by decide) (by decide) h
theorem vX9_hear_0 {G : GG} (gk : GOK G) {σ : Mm} {K : RES → Mm → Prop} {x0 : Option Nat} {x1 : Int32} {x2 : Int32}
    (h : ∃ a1, x0 = some a1 ∧ (mt σ a1).1 = 10 ∧ Runs G mX9_keep rX9_keep [(vR x0)] σ (bk G mX9_hear rX9_hear 0 0 4 [some (vR x0), some (vI x1), some (vI x2)] [] K)) : At G mX9_hear rX9_hear 0 0 0 [some (vR x0), some (vI x1), some (vI x2)] [] σ K := by
  refine s_aload_n (i := 0) dX9_hear_0 rfl rfl ?_
  obtain ⟨a1, ea1, h⟩ := h
  obtain ⟨t2, h⟩ := h
  exact t_callV (ci := 9) (as := []) (S := []) gk dX9_hear_1 gX9_99 (by decide) rfl w_1600 wp_8 ea1 t2 rfl rfl (Nat.le_of_ble_eq_true rfl) (by decide) h
theorem eX9_hear {G : GG} (gk : GOK G) {σ : Mm} {K : RES → Mm → Prop} {x0 : Option Nat} {x1 : Int32} {x2 : Int32}
    (h : ∃ a1, x0 = some a1 ∧ (mt σ a1).1 = 10 ∧ Runs G mX9_keep rX9_keep [(vR x0)] σ (bk G mX9_hear rX9_hear 0 0 4 [some (vR x0), some (vI x1), some (vI x2)] [] K)) : Runs G mX9_hear rX9_hear [(vR x0), (vI x1), (vI x2)] σ K := Runs.of (by decide) rfl (Nat.le_of_ble_eq_true rfl) (vX9_hear_0 gk h)
theorem vX9_hear_4 {G : GG} (gk : GOK G) {σ : Mm} {K : RES → Mm → Prop} {x0 : Option Nat} {x1 : Int32} {x2 : Int32}
    (h : ∃ a1, x0 = some a1 ∧ (mt σ a1).1 = 10 ∧ Runs G mX9_doHear rX9_doHear [(vR x0), (vI x1), (vI x2)] σ (bk G mX9_hear rX9_hear 0 0 11 [some (vR x0), some (vI x1), some (vI x2)] [(vR x0)] K)) : At G mX9_hear rX9_hear 0 0 4 [some (vR x0), some (vI x1), some (vI x2)] [] σ K := by
  refine s_aload_n (i := 0) dX9_hear_4 rfl rfl ?_
  refine s_aload_n (i := 0) dX9_hear_5 rfl rfl ?_
  refine s_iload_n (i := 1) dX9_hear_6 rfl rfl ?_
  refine s_iload_n (i := 2) dX9_hear_7 rfl rfl ?_
  obtain ⟨a1, ea1, h⟩ := h
  obtain ⟨t2, h⟩ := h
  exact t_callV (ci := 9) (as := [(vI x1), (vI x2)]) (S := [(vR x0)]) gk dX9_hear_8 gX9_148 (by decide) rfl w_1795 wp_28 ea1 t2 rfl rfl (Nat.le_of_ble_eq_true rfl) (by decide) h
theorem vX9_hear_11 {G : GG} (gk : GOK G) {σ : Mm} {K : RES → Mm → Prop} {x0 : Option Nat} {x1 : Int32} {x2 : Int32} {s0 : Int32} {s1 : Option Nat}
    (h : ∃ a1, s1 = some a1 ∧ (mt σ a1).1 = 10 ∧ Runs G mX9_ends rX9_ends [(vR s1), (vI s0)] σ (bk G mX9_hear rX9_hear 0 0 14 [some (vR x0), some (vI x1), some (vI x2)] [] K)) : At G mX9_hear rX9_hear 0 0 11 [some (vR x0), some (vI x1), some (vI x2)] [(vI s0), (vR s1)] σ K := by
  obtain ⟨a1, ea1, h⟩ := h
  obtain ⟨t2, h⟩ := h
  exact t_callV (ci := 9) (as := [(vI s0)]) (S := []) gk dX9_hear_11 gX9_105 (by decide) rfl w_1630 wp_13 ea1 t2 rfl rfl (Nat.le_of_ble_eq_true rfl) (by decide) h
theorem vX9_hear_14 {G : GG} (gk : GOK G) {σ : Mm} {K : RES → Mm → Prop} {x0 : Option Nat} {x1 : Int32} {x2 : Int32} {s0 : Int32}
    (h : K (.inl (some (vI s0))) σ) : At G mX9_hear rX9_hear 0 0 14 [some (vR x0), some (vI x1), some (vI x2)] [(vI s0)] σ K := by
  exact s_ireturn dX9_hear_14 rfl rfl (by decide) (by decide) h
theorem vX9_outcomeOf_0 {G : GG} (gk : GOK G) {σ : Mm} {K : RES → Mm → Prop} {x0 : Option Nat} {x1 : Int32} {x2 : Int32}
    (h : ∃ a1, x0 = some a1 ∧ (mt σ a1).1 = 10 ∧ Runs G mX9_isShelf rX9_isShelf [(vR x0), (vI x1)] σ (bk G mX9_outcomeOf rX9_outcomeOf 0 0 6 [some (vR x0), some (vI x1), some (vI x2)] [(vR x0)] K)) : At G mX9_outcomeOf rX9_outcomeOf 0 0 0 [some (vR x0), some (vI x1), some (vI x2)] [] σ K := by
  refine s_aload_n (i := 0) dX9_outcomeOf_0 rfl rfl ?_
  refine s_aload_n (i := 0) dX9_outcomeOf_1 rfl rfl ?_
  refine s_iload_n (i := 1) dX9_outcomeOf_2 rfl rfl ?_
  obtain ⟨a1, ea1, h⟩ := h
  obtain ⟨t2, h⟩ := h
  exact t_callV (ci := 9) (as := [(vI x1)]) (S := [(vR x0)]) gk dX9_outcomeOf_3 gX9_122 (by decide) rfl w_1689 wp_20 ea1 t2 rfl rfl (Nat.le_of_ble_eq_true rfl) (by decide) h
theorem eX9_outcomeOf {G : GG} (gk : GOK G) {σ : Mm} {K : RES → Mm → Prop} {x0 : Option Nat} {x1 : Int32} {x2 : Int32}
    (h : ∃ a1, x0 = some a1 ∧ (mt σ a1).1 = 10 ∧ Runs G mX9_isShelf rX9_isShelf [(vR x0), (vI x1)] σ (bk G mX9_outcomeOf rX9_outcomeOf 0 0 6 [some (vR x0), some (vI x1), some (vI x2)] [(vR x0)] K)) : Runs G mX9_outcomeOf rX9_outcomeOf [(vR x0), (vI x1), (vI x2)] σ K := Runs.of (by decide) rfl (Nat.le_of_ble_eq_true rfl) (vX9_outcomeOf_0 gk h)
theorem vX9_outcomeOf_6 {G : GG} (gk : GOK G) {σ : Mm} {K : RES → Mm → Prop} {x0 : Option Nat} {x1 : Int32} {x2 : Int32} {s0 : Int32} {s1 : Option Nat}
    (h : ((¬ s0 = 0 → ∃ a2, x0 = some a2 ∧ (mt σ a2).1 = 10 ∧ Runs G mX9_isJar rX9_isJar [(vR x0), (vI x2)] σ (bk G mX9_outcomeOf rX9_outcomeOf 0 0 18 [some (vR x0), some (vI x1), some (vI x2)] [(vR s1)] K)) ∧ (s0 = 0 → ∃ a4, s1 = some a4 ∧ (mt σ a4).1 = 10 ∧ ∀ σ6, σ6 = si σ a4 6 (1 : Int32) → ∃ a7, x0 = some a7 ∧ (mt σ a7).1 = 10 ∧ (((mi σ6 a7 6) ≤ 0 → Runs G mX9_outcome rX9_outcome [(vR x0), (vI x1), (vI x2)] σ6 (bk G mX9_outcomeOf rX9_outcomeOf 0 0 47 [some (vR x0), some (vI x1), some (vI x2)] [] K)) ∧ (¬ (mi σ6 a7 6) ≤ 0 → At G mX9_outcomeOf rX9_outcomeOf 0 0 47 [some (vR x0), some (vI x1), some (vI x2)] [(vI (32 : Int32))] σ6 K))))) : At G mX9_outcomeOf rX9_outcomeOf 0 0 6 [some (vR x0), some (vI x1), some (vI x2)] [(vI s0), (vR s1)] σ K := by
  refine s_if_ne (tgt := 13) dX9_outcomeOf_6 (by decide) (fun q1 => ?_) (fun q1 => ?_)
  · have h := h.1 q1
    refine s_aload_n (i := 0) dX9_outcomeOf_13 rfl rfl ?_
    refine s_iload_n (i := 2) dX9_outcomeOf_14 rfl rfl ?_
    obtain ⟨a2, ea2, h⟩ := h
    obtain ⟨t3, h⟩ := h
    exact t_callV (ci := 9) (as := [(vI x2)]) (S := [(vR s1)]) gk dX9_outcomeOf_15 gX9_63 (by decide) rfl w_1623 wp_12 ea2 t3 rfl rfl (Nat.le_of_ble_eq_true rfl) (by decide) h
  · have h := h.2 q1
    refine s_iconst (v := 1) dX9_outcomeOf_9 (by decide) ?_
    refine s_goto (tgt := 26) dX9_outcomeOf_10 (by decide) ?_
    obtain ⟨a4, ea4, h⟩ := h
    obtain ⟨t5, h⟩ := h
    refine t_putI gk dX9_outcomeOf_26 fX9_39 rfl rfl ea4 t5 ⟨rfl, rfl⟩ (fun σ6 eσ6 mσ6 => ?_)
    replace h := h σ6 eσ6
    refine s_aload_n (i := 0) dX9_outcomeOf_29 rfl rfl ?_
    obtain ⟨a7, ea7, h⟩ := h
    obtain ⟨t8, h⟩ := h
    refine t_getI gk dX9_outcomeOf_30 fX9_39 rfl ea7 (by rw [mσ6]; exact t8) ?_
    refine s_if_le (tgt := 41) dX9_outcomeOf_33 (by decide) (fun q9 => ?_) (fun q9 => ?_)
    · have h := h.1 q9
      refine s_aload_n (i := 0) dX9_outcomeOf_41 rfl rfl ?_
      refine s_iload_n (i := 1) dX9_outcomeOf_42 rfl rfl ?_
      refine s_iload_n (i := 2) dX9_outcomeOf_43 rfl rfl ?_
      exact t_callV (ci := 9) (as := [(vI x1), (vI x2)]) (S := []) gk dX9_outcomeOf_44 gX9_140 (by decide) rfl w_1799 wp_29 ea7 (by rw [mσ6]; exact t8) rfl rfl (Nat.le_of_ble_eq_true rfl) (by decide) h
    · have h := h.2 q9
      refine s_bipush (v := 32) dX9_outcomeOf_36 (by decide) ?_
      refine s_goto (tgt := 47) dX9_outcomeOf_38 (by decide) ?_
      exact h
theorem vX9_outcomeOf_18 {G : GG} (gk : GOK G) {σ : Mm} {K : RES → Mm → Prop} {x0 : Option Nat} {x1 : Int32} {x2 : Int32} {s0 : Int32} {s1 : Option Nat}
    (h : ((¬ s0 = 0 → ∃ a2, s1 = some a2 ∧ (mt σ a2).1 = 10 ∧ ∀ σ4, σ4 = si σ a2 6 (0 : Int32) → ∃ a5, x0 = some a5 ∧ (mt σ a5).1 = 10 ∧ (((mi σ4 a5 6) ≤ 0 → Runs G mX9_outcome rX9_outcome [(vR x0), (vI x1), (vI x2)] σ4 (bk G mX9_outcomeOf rX9_outcomeOf 0 0 47 [some (vR x0), some (vI x1), some (vI x2)] [] K)) ∧ (¬ (mi σ4 a5 6) ≤ 0 → At G mX9_outcomeOf rX9_outcomeOf 0 0 47 [some (vR x0), some (vI x1), some (vI x2)] [(vI (32 : Int32))] σ4 K))) ∧ (s0 = 0 → ∃ a8, s1 = some a8 ∧ (mt σ a8).1 = 10 ∧ ∀ σ10, σ10 = si σ a8 6 (2 : Int32) → ∃ a11, x0 = some a11 ∧ (mt σ a11).1 = 10 ∧ (((mi σ10 a11 6) ≤ 0 → Runs G mX9_outcome rX9_outcome [(vR x0), (vI x1), (vI x2)] σ10 (bk G mX9_outcomeOf rX9_outcomeOf 0 0 47 [some (vR x0), some (vI x1), some (vI x2)] [] K)) ∧ (¬ (mi σ10 a11 6) ≤ 0 → At G mX9_outcomeOf rX9_outcomeOf 0 0 47 [some (vR x0), some (vI x1), some (vI x2)] [(vI (32 : Int32))] σ10 K))))) : At G mX9_outcomeOf rX9_outcomeOf 0 0 18 [some (vR x0), some (vI x1), some (vI x2)] [(vI s0), (vR s1)] σ K := by
  refine s_if_ne (tgt := 25) dX9_outcomeOf_18 (by decide) (fun q1 => ?_) (fun q1 => ?_)
  · have h := h.1 q1
    refine s_iconst (v := 0) dX9_outcomeOf_25 (by decide) ?_
    obtain ⟨a2, ea2, h⟩ := h
    obtain ⟨t3, h⟩ := h
    refine t_putI gk dX9_outcomeOf_26 fX9_39 rfl rfl ea2 t3 ⟨rfl, rfl⟩ (fun σ4 eσ4 mσ4 => ?_)
    replace h := h σ4 eσ4
    refine s_aload_n (i := 0) dX9_outcomeOf_29 rfl rfl ?_
    obtain ⟨a5, ea5, h⟩ := h
    obtain ⟨t6, h⟩ := h
    refine t_getI gk dX9_outcomeOf_30 fX9_39 rfl ea5 (by rw [mσ4]; exact t6) ?_
    refine s_if_le (tgt := 41) dX9_outcomeOf_33 (by decide) (fun q7 => ?_) (fun q7 => ?_)
    · have h := h.1 q7
      refine s_aload_n (i := 0) dX9_outcomeOf_41 rfl rfl ?_
      refine s_iload_n (i := 1) dX9_outcomeOf_42 rfl rfl ?_
      refine s_iload_n (i := 2) dX9_outcomeOf_43 rfl rfl ?_
      exact t_callV (ci := 9) (as := [(vI x1), (vI x2)]) (S := []) gk dX9_outcomeOf_44 gX9_140 (by decide) rfl w_1799 wp_29 ea5 (by rw [mσ4]; exact t6) rfl rfl (Nat.le_of_ble_eq_true rfl) (by decide) h
    · have h := h.2 q7
      refine s_bipush (v := 32) dX9_outcomeOf_36 (by decide) ?_
      refine s_goto (tgt := 47) dX9_outcomeOf_38 (by decide) ?_
      exact h
  · have h := h.2 q1
    refine s_iconst (v := 2) dX9_outcomeOf_21 (by decide) ?_
    refine s_goto (tgt := 26) dX9_outcomeOf_22 (by decide) ?_
    obtain ⟨a8, ea8, h⟩ := h
    obtain ⟨t9, h⟩ := h
    refine t_putI gk dX9_outcomeOf_26 fX9_39 rfl rfl ea8 t9 ⟨rfl, rfl⟩ (fun σ10 eσ10 mσ10 => ?_)
    replace h := h σ10 eσ10
    refine s_aload_n (i := 0) dX9_outcomeOf_29 rfl rfl ?_
    obtain ⟨a11, ea11, h⟩ := h
    obtain ⟨t12, h⟩ := h
    refine t_getI gk dX9_outcomeOf_30 fX9_39 rfl ea11 (by rw [mσ10]; exact t12) ?_
    refine s_if_le (tgt := 41) dX9_outcomeOf_33 (by decide) (fun q13 => ?_) (fun q13 => ?_)
    · have h := h.1 q13
      refine s_aload_n (i := 0) dX9_outcomeOf_41 rfl rfl ?_
      refine s_iload_n (i := 1) dX9_outcomeOf_42 rfl rfl ?_
      refine s_iload_n (i := 2) dX9_outcomeOf_43 rfl rfl ?_
      exact t_callV (ci := 9) (as := [(vI x1), (vI x2)]) (S := []) gk dX9_outcomeOf_44 gX9_140 (by decide) rfl w_1799 wp_29 ea11 (by rw [mσ10]; exact t12) rfl rfl (Nat.le_of_ble_eq_true rfl) (by decide) h
    · have h := h.2 q13
      refine s_bipush (v := 32) dX9_outcomeOf_36 (by decide) ?_
      refine s_goto (tgt := 47) dX9_outcomeOf_38 (by decide) ?_
      exact h
theorem vX9_outcomeOf_47 {G : GG} (gk : GOK G) {σ : Mm} {K : RES → Mm → Prop} {x0 : Option Nat} {x1 : Int32} {x2 : Int32} {s0 : Int32}
    (h : isC s0 ∧ K (.inl (some (vI s0))) σ) : At G mX9_outcomeOf rX9_outcomeOf 0 0 47 [some (vR x0), some (vI x1), some (vI x2)] [(vI s0)] σ K := by
  obtain ⟨c1, h⟩ := h
  exact s_ireturn dX9_outcomeOf_47 rfl (nf_c c1).1 (by decide) (by decide) h
theorem vX9_doWarm_0 {G : GG} (gk : GOK G) {σ : Mm} {K : RES → Mm → Prop} {x0 : Option Nat} {x1 : Int32} {x2 : Int32} {x3 : Int32}
    (h : ∃ a1, x0 = some a1 ∧ (mt σ a1).1 = 10 ∧ Runs G mX9_isShelf rX9_isShelf [(vR x0), (vI x1)] σ (bk G mX9_doWarm rX9_doWarm 0 0 5 [some (vR x0), some (vI x1), some (vI x2), some (vI x3), none, none] [] K)) : At G mX9_doWarm rX9_doWarm 0 0 0 [some (vR x0), some (vI x1), some (vI x2), some (vI x3), none, none] [] σ K := by
  refine s_aload_n (i := 0) dX9_doWarm_0 rfl rfl ?_
  refine s_iload_n (i := 1) dX9_doWarm_1 rfl rfl ?_
  obtain ⟨a1, ea1, h⟩ := h
  obtain ⟨t2, h⟩ := h
  exact t_callV (ci := 9) (as := [(vI x1)]) (S := []) gk dX9_doWarm_2 gX9_122 (by decide) rfl w_1689 wp_20 ea1 t2 rfl rfl (Nat.le_of_ble_eq_true rfl) (by decide) h
theorem eX9_doWarm {G : GG} (gk : GOK G) {σ : Mm} {K : RES → Mm → Prop} {x0 : Option Nat} {x1 : Int32} {x2 : Int32} {x3 : Int32}
    (h : ∃ a1, x0 = some a1 ∧ (mt σ a1).1 = 10 ∧ Runs G mX9_isShelf rX9_isShelf [(vR x0), (vI x1)] σ (bk G mX9_doWarm rX9_doWarm 0 0 5 [some (vR x0), some (vI x1), some (vI x2), some (vI x3), none, none] [] K)) : Runs G mX9_doWarm rX9_doWarm [(vR x0), (vI x1), (vI x2), (vI x3)] σ K := Runs.of (by decide) rfl (Nat.le_of_ble_eq_true rfl) (vX9_doWarm_0 gk h)
theorem vX9_doWarm_5 {G : GG} (gk : GOK G) {σ : Mm} {K : RES → Mm → Prop} {x0 : Option Nat} {x1 : Int32} {x2 : Int32} {x3 : Int32} {s0 : Int32}
    (h : ((¬ s0 = 0 → ∃ a2, x0 = some a2 ∧ (mt σ a2).1 = 10 ∧ Runs G mX9_isJar rX9_isJar [(vR x0), (vI x2)] σ (bk G mX9_doWarm rX9_doWarm 0 0 19 [some (vR x0), some (vI x1), some (vI x2), some (vI x3), none, none] [] K)) ∧ (s0 = 0 → ∃ a4, x0 = some a4 ∧ (mt σ a4).1 = 10 ∧ Runs G mX9_fails rX9_fails [(vR x0), (vI (1 : Int32))] σ (bk G mX9_doWarm rX9_doWarm 0 0 13 [some (vR x0), some (vI x1), some (vI x2), some (vI x3), none, none] [] K)))) : At G mX9_doWarm rX9_doWarm 0 0 5 [some (vR x0), some (vI x1), some (vI x2), some (vI x3), none, none] [(vI s0)] σ K := by
  refine s_if_ne (tgt := 14) dX9_doWarm_5 (by decide) (fun q1 => ?_) (fun q1 => ?_)
  · have h := h.1 q1
    refine s_aload_n (i := 0) dX9_doWarm_14 rfl rfl ?_
    refine s_iload_n (i := 2) dX9_doWarm_15 rfl rfl ?_
    obtain ⟨a2, ea2, h⟩ := h
    obtain ⟨t3, h⟩ := h
    exact t_callV (ci := 9) (as := [(vI x2)]) (S := []) gk dX9_doWarm_16 gX9_63 (by decide) rfl w_1623 wp_12 ea2 t3 rfl rfl (Nat.le_of_ble_eq_true rfl) (by decide) h
  · have h := h.2 q1
    refine s_aload_n (i := 0) dX9_doWarm_8 rfl rfl ?_
    refine s_iconst (v := 1) dX9_doWarm_9 (by decide) ?_
    obtain ⟨a4, ea4, h⟩ := h
    obtain ⟨t5, h⟩ := h
    exact t_callV (ci := 9) (as := [(vI (1 : Int32))]) (S := []) gk dX9_doWarm_10 gX9_92 (by decide) rfl w_1615 wp_10 ea4 t5 rfl rfl (Nat.le_of_ble_eq_true rfl) (by decide) h
theorem vX9_doWarm_13 {G : GG} (gk : GOK G) {σ : Mm} {K : RES → Mm → Prop} {x0 : Option Nat} {x1 : Int32} {x2 : Int32} {x3 : Int32} {s0 : Int32}
    (h : K (.inl (some (vI s0))) σ) : At G mX9_doWarm rX9_doWarm 0 0 13 [some (vR x0), some (vI x1), some (vI x2), some (vI x3), none, none] [(vI s0)] σ K := by
  exact s_ireturn dX9_doWarm_13 rfl rfl (by decide) (by decide) h
theorem vX9_doWarm_19 {G : GG} (gk : GOK G) {σ : Mm} {K : RES → Mm → Prop} {x0 : Option Nat} {x1 : Int32} {x2 : Int32} {x3 : Int32} {s0 : Int32}
    (h : ((¬ s0 = 0 → Runs G mX9_in rX9_in [(vI x3), (vI (1 : Int32)), (vI (50 : Int32))] σ (bk G mX9_doWarm rX9_doWarm 0 0 35 [some (vR x0), some (vI x1), some (vI x2), some (vI x3), none, none] [] K)) ∧ (s0 = 0 → ∃ a2, x0 = some a2 ∧ (mt σ a2).1 = 10 ∧ Runs G mX9_fails rX9_fails [(vR x0), (vI (2 : Int32))] σ (bk G mX9_doWarm rX9_doWarm 0 0 27 [some (vR x0), some (vI x1), some (vI x2), some (vI x3), none, none] [] K)))) : At G mX9_doWarm rX9_doWarm 0 0 19 [some (vR x0), some (vI x1), some (vI x2), some (vI x3), none, none] [(vI s0)] σ K := by
  refine s_if_ne (tgt := 28) dX9_doWarm_19 (by decide) (fun q1 => ?_) (fun q1 => ?_)
  · have h := h.1 q1
    refine s_iload_n (i := 3) dX9_doWarm_28 rfl rfl ?_
    refine s_iconst (v := 1) dX9_doWarm_29 (by decide) ?_
    refine s_bipush (v := 50) dX9_doWarm_30 (by decide) ?_
    exact s_callS (as := [(vI x3), (vI (1 : Int32)), (vI (50 : Int32))]) (S := []) gk dX9_doWarm_32 gX9_51 w_1611 rfl rfl (Nat.le_of_ble_eq_true rfl) (by decide) h
  · have h := h.2 q1
    refine s_aload_n (i := 0) dX9_doWarm_22 rfl rfl ?_
    refine s_iconst (v := 2) dX9_doWarm_23 (by decide) ?_
    obtain ⟨a2, ea2, h⟩ := h
    obtain ⟨t3, h⟩ := h
    exact t_callV (ci := 9) (as := [(vI (2 : Int32))]) (S := []) gk dX9_doWarm_24 gX9_92 (by decide) rfl w_1615 wp_10 ea2 t3 rfl rfl (Nat.le_of_ble_eq_true rfl) (by decide) h
theorem vX9_doWarm_27 {G : GG} (gk : GOK G) {σ : Mm} {K : RES → Mm → Prop} {x0 : Option Nat} {x1 : Int32} {x2 : Int32} {x3 : Int32} {s0 : Int32}
    (h : K (.inl (some (vI s0))) σ) : At G mX9_doWarm rX9_doWarm 0 0 27 [some (vR x0), some (vI x1), some (vI x2), some (vI x3), none, none] [(vI s0)] σ K := by
  exact s_ireturn dX9_doWarm_27 rfl rfl (by decide) (by decide) h
theorem vX9_doWarm_35 {G : GG} (gk : GOK G) {σ : Mm} {K : RES → Mm → Prop} {x0 : Option Nat} {x1 : Int32} {x2 : Int32} {x3 : Int32} {s0 : Int32}
    (h : ((¬ s0 = 0 → ∃ a2, x0 = some a2 ∧ (mt σ a2).1 = 10 ∧ ∃ a4, mr σ a2 0 = some a4 ∧ ∃ n6, mt σ a4 = (50, n6) ∧ vp_in (1 : Int32) n6 ∧ ((¬ (mi σ a4 (1 : Int32).toNatClampNeg) = (8 : Int32) → vp_in (2 : Int32) n6 ∧ vp_in (1 : Int32) n6 ∧ At G mX9_doWarm rX9_doWarm 0 0 79 [some (vR x0), some (vI x1), some (vI x2), some (vI x3), some (vI ((mi σ a4 (2 : Int32).toNatClampNeg) + x3)), some (vI (mi σ a4 (1 : Int32).toNatClampNeg))] [] σ K) ∧ ((mi σ a4 (1 : Int32).toNatClampNeg) = (8 : Int32) → Runs G mX9_fails rX9_fails [(vR x0), (vI (4 : Int32))] σ (bk G mX9_doWarm rX9_doWarm 0 0 60 [some (vR x0), some (vI x1), some (vI x2), some (vI x3), none, none] [] K)))) ∧ (s0 = 0 → ∃ a11, x0 = some a11 ∧ (mt σ a11).1 = 10 ∧ Runs G mX9_fails rX9_fails [(vR x0), (vI (3 : Int32))] σ (bk G mX9_doWarm rX9_doWarm 0 0 43 [some (vR x0), some (vI x1), some (vI x2), some (vI x3), none, none] [] K)))) : At G mX9_doWarm rX9_doWarm 0 0 35 [some (vR x0), some (vI x1), some (vI x2), some (vI x3), none, none] [(vI s0)] σ K := by
  refine s_if_ne (tgt := 44) dX9_doWarm_35 (by decide) (fun q1 => ?_) (fun q1 => ?_)
  · have h := h.1 q1
    refine s_aload_n (i := 0) dX9_doWarm_44 rfl rfl ?_
    obtain ⟨a2, ea2, h⟩ := h
    obtain ⟨t3, h⟩ := h
    refine t_getR gk dX9_doWarm_45 fX9_9 rfl ea2 t3 ?_
    refine s_iconst (v := 1) dX9_doWarm_48 (by decide) ?_
    obtain ⟨a4, ea4, h⟩ := h
    obtain ⟨n6, t5, h⟩ := h
    obtain ⟨c7, h⟩ := h
    refine t_iald gk dX9_doWarm_49 ea4 t5 c7 ?_
    refine s_bipush (v := 8) dX9_doWarm_50 (by decide) ?_
    refine s_icmp_ne (tgt := 61) dX9_doWarm_52 (by decide) (fun q8 => ?_) (fun q8 => ?_)
    · have h := h.1 q8
      refine s_aload_n (i := 0) dX9_doWarm_61 rfl rfl ?_
      refine t_getR gk dX9_doWarm_62 fX9_9 rfl ea2 t3 ?_
      refine s_iconst (v := 2) dX9_doWarm_65 (by decide) ?_
      obtain ⟨c9, h⟩ := h
      refine t_iald gk dX9_doWarm_66 ea4 t5 c9 ?_
      refine s_iload_n (i := 3) dX9_doWarm_67 rfl rfl ?_
      refine s_iadd dX9_doWarm_68 ?_
      refine s_istore (L' := [some (vR x0), some (vI x1), some (vI x2), some (vI x3), some (vI ((mi σ a4 (2 : Int32).toNatClampNeg) + x3)), none]) dX9_doWarm_69 rfl (by decide) rfl ?_
      refine s_aload_n (i := 0) dX9_doWarm_71 rfl rfl ?_
      refine t_getR gk dX9_doWarm_72 fX9_9 rfl ea2 t3 ?_
      refine s_iconst (v := 1) dX9_doWarm_75 (by decide) ?_
      obtain ⟨c10, h⟩ := h
      refine t_iald gk dX9_doWarm_76 ea4 t5 c10 ?_
      refine s_istore (L' := [some (vR x0), some (vI x1), some (vI x2), some (vI x3), some (vI ((mi σ a4 (2 : Int32).toNatClampNeg) + x3)), some (vI (mi σ a4 (1 : Int32).toNatClampNeg))]) dX9_doWarm_77 rfl (by decide) rfl ?_
      exact h
    · have h := h.2 q8
      refine s_aload_n (i := 0) dX9_doWarm_55 rfl rfl ?_
      refine s_iconst (v := 4) dX9_doWarm_56 (by decide) ?_
      exact t_callV (ci := 9) (as := [(vI (4 : Int32))]) (S := []) gk dX9_doWarm_57 gX9_92 (by decide) rfl w_1615 wp_10 ea2 t3 rfl rfl (Nat.le_of_ble_eq_true rfl) (by decide) h
  · have h := h.2 q1
    refine s_aload_n (i := 0) dX9_doWarm_38 rfl rfl ?_
    refine s_iconst (v := 3) dX9_doWarm_39 (by decide) ?_
    obtain ⟨a11, ea11, h⟩ := h
    obtain ⟨t12, h⟩ := h
    exact t_callV (ci := 9) (as := [(vI (3 : Int32))]) (S := []) gk dX9_doWarm_40 gX9_92 (by decide) rfl w_1615 wp_10 ea11 t12 rfl rfl (Nat.le_of_ble_eq_true rfl) (by decide) h
theorem vX9_doWarm_43 {G : GG} (gk : GOK G) {σ : Mm} {K : RES → Mm → Prop} {x0 : Option Nat} {x1 : Int32} {x2 : Int32} {x3 : Int32} {s0 : Int32}
    (h : K (.inl (some (vI s0))) σ) : At G mX9_doWarm rX9_doWarm 0 0 43 [some (vR x0), some (vI x1), some (vI x2), some (vI x3), none, none] [(vI s0)] σ K := by
  exact s_ireturn dX9_doWarm_43 rfl rfl (by decide) (by decide) h
theorem vX9_doWarm_60 {G : GG} (gk : GOK G) {σ : Mm} {K : RES → Mm → Prop} {x0 : Option Nat} {x1 : Int32} {x2 : Int32} {x3 : Int32} {s0 : Int32}
    (h : K (.inl (some (vI s0))) σ) : At G mX9_doWarm rX9_doWarm 0 0 60 [some (vR x0), some (vI x1), some (vI x2), some (vI x3), none, none] [(vI s0)] σ K := by
  exact s_ireturn dX9_doWarm_60 rfl rfl (by decide) (by decide) h
theorem vX9_doWarm_79 {G : GG} (gk : GOK G) {σ : Mm} {K : RES → Mm → Prop} {x0 : Option Nat} {x1 : Int32} {x2 : Int32} {x3 : Int32} {x4 : Int32} {x5 : Int32}
    (h : ((x5 ≤ 0 → ∃ a2, x0 = some a2 ∧ (mt σ a2).1 = 10 ∧ ∃ a4, mr σ a2 0 = some a4 ∧ ∃ n6, mt σ a4 = (50, n6) ∧ vp_in ((834 : Int32) + ((3 : Int32) * x5)) n6 ∧ ∀ σ8, σ8 = si σ a4 ((834 : Int32) + ((3 : Int32) * x5)).toNatClampNeg x4 → ∃ a9, mr σ8 a2 0 = some a9 ∧ ∃ n11, mt σ a9 = (50, n11) ∧ vp_in (((834 : Int32) + ((3 : Int32) * x5)) + (1 : Int32)) n11 ∧ ∀ σ13, σ13 = si σ8 a9 (((834 : Int32) + ((3 : Int32) * x5)) + (1 : Int32)).toNatClampNeg x1 → ∃ a14, mr σ13 a2 0 = some a14 ∧ ∃ n16, mt σ a14 = (50, n16) ∧ vp_in (((834 : Int32) + ((3 : Int32) * x5)) + (2 : Int32)) n16 ∧ ∀ σ18, σ18 = si σ13 a14 (((834 : Int32) + ((3 : Int32) * x5)) + (2 : Int32)).toNatClampNeg x2 → ∃ a19, mr σ18 a2 0 = some a19 ∧ ∃ n21, mt σ a19 = (50, n21) ∧ vp_in (1 : Int32) n21 ∧ vp_in (1 : Int32) n21 ∧ ∀ σ24, σ24 = si σ18 a19 (1 : Int32).toNatClampNeg ((mi σ18 a19 (1 : Int32).toNatClampNeg) + (1 : Int32)) → K (.inl (some (vI x5))) σ24) ∧ (¬ x5 ≤ 0 → ∃ a25, x0 = some a25 ∧ (mt σ a25).1 = 10 ∧ ∃ a27, mr σ a25 0 = some a27 ∧ ∃ n29, mt σ a27 = (50, n29) ∧ vp_in ((834 : Int32) + ((3 : Int32) * (x5 - (1 : Int32)))) n29 ∧ (((mi σ a27 ((834 : Int32) + ((3 : Int32) * (x5 - (1 : Int32)))).toNatClampNeg) ≤ x4 → vp_in ((834 : Int32) + ((3 : Int32) * x5)) n29 ∧ ∀ σ33, σ33 = si σ a27 ((834 : Int32) + ((3 : Int32) * x5)).toNatClampNeg x4 → ∃ a34, mr σ33 a25 0 = some a34 ∧ ∃ n36, mt σ a34 = (50, n36) ∧ vp_in (((834 : Int32) + ((3 : Int32) * x5)) + (1 : Int32)) n36 ∧ ∀ σ38, σ38 = si σ33 a34 (((834 : Int32) + ((3 : Int32) * x5)) + (1 : Int32)).toNatClampNeg x1 → ∃ a39, mr σ38 a25 0 = some a39 ∧ ∃ n41, mt σ a39 = (50, n41) ∧ vp_in (((834 : Int32) + ((3 : Int32) * x5)) + (2 : Int32)) n41 ∧ ∀ σ43, σ43 = si σ38 a39 (((834 : Int32) + ((3 : Int32) * x5)) + (2 : Int32)).toNatClampNeg x2 → ∃ a44, mr σ43 a25 0 = some a44 ∧ ∃ n46, mt σ a44 = (50, n46) ∧ vp_in (1 : Int32) n46 ∧ vp_in (1 : Int32) n46 ∧ ∀ σ49, σ49 = si σ43 a44 (1 : Int32).toNatClampNeg ((mi σ43 a44 (1 : Int32).toNatClampNeg) + (1 : Int32)) → K (.inl (some (vI x5))) σ49) ∧ (¬ (mi σ a27 ((834 : Int32) + ((3 : Int32) * (x5 - (1 : Int32)))).toNatClampNeg) ≤ x4 → ((¬ ((834 : Int32) + ((3 : Int32) * (x5 - (1 : Int32)))) < 0 ∧ ¬ ((834 : Int32) + ((3 : Int32) * x5)) < 0 ∧ ¬ (3 : Int32) < 0) ∧ ((834 : Int32) + ((3 : Int32) * (x5 - (1 : Int32)))).toNatClampNeg + (3 : Int32).toNatClampNeg ≤ n29 ∧ ((834 : Int32) + ((3 : Int32) * x5)).toNatClampNeg + (3 : Int32).toNatClampNeg ≤ n29) ∧ ∀ σ51, σ51 = cpI σ a27 ((834 : Int32) + ((3 : Int32) * (x5 - (1 : Int32)))).toNatClampNeg a27 ((834 : Int32) + ((3 : Int32) * x5)).toNatClampNeg (3 : Int32).toNatClampNeg → At G mX9_doWarm rX9_doWarm 0 0 79 [some (vR x0), some (vI x1), some (vI x2), some (vI x3), some (vI x4), some (vI (x5 + (-1)))] [] σ51 K))))) : At G mX9_doWarm rX9_doWarm 0 0 79 [some (vR x0), some (vI x1), some (vI x2), some (vI x3), some (vI x4), some (vI x5)] [] σ K := by
  refine s_iload dX9_doWarm_79 rfl ?_
  refine s_if_le (tgt := 140) dX9_doWarm_81 (by decide) (fun q1 => ?_) (fun q1 => ?_)
  · have h := h.1 q1
    refine s_aload_n (i := 0) dX9_doWarm_140 rfl rfl ?_
    obtain ⟨a2, ea2, h⟩ := h
    obtain ⟨t3, h⟩ := h
    refine t_getR gk dX9_doWarm_141 fX9_9 rfl ea2 t3 ?_
    refine s_sipush (v := 834) dX9_doWarm_144 (by decide) ?_
    refine s_iconst (v := 3) dX9_doWarm_147 (by decide) ?_
    refine s_iload dX9_doWarm_148 rfl ?_
    refine s_imul dX9_doWarm_150 ?_
    refine s_iadd dX9_doWarm_151 ?_
    refine s_iload dX9_doWarm_152 rfl ?_
    obtain ⟨a4, ea4, h⟩ := h
    obtain ⟨n6, t5, h⟩ := h
    obtain ⟨c7, h⟩ := h
    refine t_iast gk dX9_doWarm_154 ea4 t5 c7 (fun σ8 eσ8 mσ8 => ?_)
    replace h := h σ8 eσ8
    refine s_aload_n (i := 0) dX9_doWarm_155 rfl rfl ?_
    refine t_getR gk dX9_doWarm_156 fX9_9 rfl ea2 (by rw [mσ8]; exact t3) ?_
    refine s_sipush (v := 834) dX9_doWarm_159 (by decide) ?_
    refine s_iconst (v := 3) dX9_doWarm_162 (by decide) ?_
    refine s_iload dX9_doWarm_163 rfl ?_
    refine s_imul dX9_doWarm_165 ?_
    refine s_iadd dX9_doWarm_166 ?_
    refine s_iconst (v := 1) dX9_doWarm_167 (by decide) ?_
    refine s_iadd dX9_doWarm_168 ?_
    refine s_iload_n (i := 1) dX9_doWarm_169 rfl rfl ?_
    obtain ⟨a9, ea9, h⟩ := h
    obtain ⟨n11, t10, h⟩ := h
    obtain ⟨c12, h⟩ := h
    refine t_iast gk dX9_doWarm_170 ea9 (by rw [mσ8]; exact t10) c12 (fun σ13 eσ13 mσ13 => ?_)
    replace h := h σ13 eσ13
    refine s_aload_n (i := 0) dX9_doWarm_171 rfl rfl ?_
    refine t_getR gk dX9_doWarm_172 fX9_9 rfl ea2 (by rw [mσ13, mσ8]; exact t3) ?_
    refine s_sipush (v := 834) dX9_doWarm_175 (by decide) ?_
    refine s_iconst (v := 3) dX9_doWarm_178 (by decide) ?_
    refine s_iload dX9_doWarm_179 rfl ?_
    refine s_imul dX9_doWarm_181 ?_
    refine s_iadd dX9_doWarm_182 ?_
    refine s_iconst (v := 2) dX9_doWarm_183 (by decide) ?_
    refine s_iadd dX9_doWarm_184 ?_
    refine s_iload_n (i := 2) dX9_doWarm_185 rfl rfl ?_
    obtain ⟨a14, ea14, h⟩ := h
    obtain ⟨n16, t15, h⟩ := h
    obtain ⟨c17, h⟩ := h
    refine t_iast gk dX9_doWarm_186 ea14 (by rw [mσ13, mσ8]; exact t15) c17 (fun σ18 eσ18 mσ18 => ?_)
    replace h := h σ18 eσ18
    refine s_aload_n (i := 0) dX9_doWarm_187 rfl rfl ?_
    refine t_getR gk dX9_doWarm_188 fX9_9 rfl ea2 (by rw [mσ18, mσ13, mσ8]; exact t3) ?_
    refine s_iconst (v := 1) dX9_doWarm_191 (by decide) ?_
    refine s_dup2 dX9_doWarm_192 rfl rfl ?_
    obtain ⟨a19, ea19, h⟩ := h
    obtain ⟨n21, t20, h⟩ := h
    obtain ⟨c22, h⟩ := h
    refine t_iald gk dX9_doWarm_193 ea19 (by rw [mσ18, mσ13, mσ8]; exact t20) c22 ?_
    refine s_iconst (v := 1) dX9_doWarm_194 (by decide) ?_
    refine s_iadd dX9_doWarm_195 ?_
    obtain ⟨c23, h⟩ := h
    refine t_iast gk dX9_doWarm_196 ea19 (by rw [mσ18, mσ13, mσ8]; exact t20) c23 (fun σ24 eσ24 mσ24 => ?_)
    replace h := h σ24 eσ24
    refine s_iload dX9_doWarm_197 rfl ?_
    exact s_ireturn dX9_doWarm_199 rfl rfl (by decide) (by decide) h
  · have h := h.2 q1
    refine s_aload_n (i := 0) dX9_doWarm_84 rfl rfl ?_
    obtain ⟨a25, ea25, h⟩ := h
    obtain ⟨t26, h⟩ := h
    refine t_getR gk dX9_doWarm_85 fX9_9 rfl ea25 t26 ?_
    refine s_sipush (v := 834) dX9_doWarm_88 (by decide) ?_
    refine s_iconst (v := 3) dX9_doWarm_91 (by decide) ?_
    refine s_iload dX9_doWarm_92 rfl ?_
    refine s_iconst (v := 1) dX9_doWarm_94 (by decide) ?_
    refine s_isub dX9_doWarm_95 ?_
    refine s_imul dX9_doWarm_96 ?_
    refine s_iadd dX9_doWarm_97 ?_
    obtain ⟨a27, ea27, h⟩ := h
    obtain ⟨n29, t28, h⟩ := h
    obtain ⟨c30, h⟩ := h
    refine t_iald gk dX9_doWarm_98 ea27 t28 c30 ?_
    refine s_iload dX9_doWarm_99 rfl ?_
    refine s_icmp_le (tgt := 140) dX9_doWarm_101 (by decide) (fun q31 => ?_) (fun q31 => ?_)
    · have h := h.1 q31
      refine s_aload_n (i := 0) dX9_doWarm_140 rfl rfl ?_
      refine t_getR gk dX9_doWarm_141 fX9_9 rfl ea25 t26 ?_
      refine s_sipush (v := 834) dX9_doWarm_144 (by decide) ?_
      refine s_iconst (v := 3) dX9_doWarm_147 (by decide) ?_
      refine s_iload dX9_doWarm_148 rfl ?_
      refine s_imul dX9_doWarm_150 ?_
      refine s_iadd dX9_doWarm_151 ?_
      refine s_iload dX9_doWarm_152 rfl ?_
      obtain ⟨c32, h⟩ := h
      refine t_iast gk dX9_doWarm_154 ea27 t28 c32 (fun σ33 eσ33 mσ33 => ?_)
      replace h := h σ33 eσ33
      refine s_aload_n (i := 0) dX9_doWarm_155 rfl rfl ?_
      refine t_getR gk dX9_doWarm_156 fX9_9 rfl ea25 (by rw [mσ33]; exact t26) ?_
      refine s_sipush (v := 834) dX9_doWarm_159 (by decide) ?_
      refine s_iconst (v := 3) dX9_doWarm_162 (by decide) ?_
      refine s_iload dX9_doWarm_163 rfl ?_
      refine s_imul dX9_doWarm_165 ?_
      refine s_iadd dX9_doWarm_166 ?_
      refine s_iconst (v := 1) dX9_doWarm_167 (by decide) ?_
      refine s_iadd dX9_doWarm_168 ?_
      refine s_iload_n (i := 1) dX9_doWarm_169 rfl rfl ?_
      obtain ⟨a34, ea34, h⟩ := h
      obtain ⟨n36, t35, h⟩ := h
      obtain ⟨c37, h⟩ := h
      refine t_iast gk dX9_doWarm_170 ea34 (by rw [mσ33]; exact t35) c37 (fun σ38 eσ38 mσ38 => ?_)
      replace h := h σ38 eσ38
      refine s_aload_n (i := 0) dX9_doWarm_171 rfl rfl ?_
      refine t_getR gk dX9_doWarm_172 fX9_9 rfl ea25 (by rw [mσ38, mσ33]; exact t26) ?_
      refine s_sipush (v := 834) dX9_doWarm_175 (by decide) ?_
      refine s_iconst (v := 3) dX9_doWarm_178 (by decide) ?_
      refine s_iload dX9_doWarm_179 rfl ?_
      refine s_imul dX9_doWarm_181 ?_
      refine s_iadd dX9_doWarm_182 ?_
      refine s_iconst (v := 2) dX9_doWarm_183 (by decide) ?_
      refine s_iadd dX9_doWarm_184 ?_
      refine s_iload_n (i := 2) dX9_doWarm_185 rfl rfl ?_
      obtain ⟨a39, ea39, h⟩ := h
      obtain ⟨n41, t40, h⟩ := h
      obtain ⟨c42, h⟩ := h
      refine t_iast gk dX9_doWarm_186 ea39 (by rw [mσ38, mσ33]; exact t40) c42 (fun σ43 eσ43 mσ43 => ?_)
      replace h := h σ43 eσ43
      refine s_aload_n (i := 0) dX9_doWarm_187 rfl rfl ?_
      refine t_getR gk dX9_doWarm_188 fX9_9 rfl ea25 (by rw [mσ43, mσ38, mσ33]; exact t26) ?_
      refine s_iconst (v := 1) dX9_doWarm_191 (by decide) ?_
      refine s_dup2 dX9_doWarm_192 rfl rfl ?_
      obtain ⟨a44, ea44, h⟩ := h
      obtain ⟨n46, t45, h⟩ := h
      obtain ⟨c47, h⟩ := h
      refine t_iald gk dX9_doWarm_193 ea44 (by rw [mσ43, mσ38, mσ33]; exact t45) c47 ?_
      refine s_iconst (v := 1) dX9_doWarm_194 (by decide) ?_
      refine s_iadd dX9_doWarm_195 ?_
      obtain ⟨c48, h⟩ := h
      refine t_iast gk dX9_doWarm_196 ea44 (by rw [mσ43, mσ38, mσ33]; exact t45) c48 (fun σ49 eσ49 mσ49 => ?_)
      replace h := h σ49 eσ49
      refine s_iload dX9_doWarm_197 rfl ?_
      exact s_ireturn dX9_doWarm_199 rfl rfl (by decide) (by decide) h
    · have h := h.2 q31
      refine s_aload_n (i := 0) dX9_doWarm_104 rfl rfl ?_
      refine t_getR gk dX9_doWarm_105 fX9_9 rfl ea25 t26 ?_
      refine s_sipush (v := 834) dX9_doWarm_108 (by decide) ?_
      refine s_iconst (v := 3) dX9_doWarm_111 (by decide) ?_
      refine s_iload dX9_doWarm_112 rfl ?_
      refine s_iconst (v := 1) dX9_doWarm_114 (by decide) ?_
      refine s_isub dX9_doWarm_115 ?_
      refine s_imul dX9_doWarm_116 ?_
      refine s_iadd dX9_doWarm_117 ?_
      refine s_aload_n (i := 0) dX9_doWarm_118 rfl rfl ?_
      refine t_getR gk dX9_doWarm_119 fX9_9 rfl ea25 t26 ?_
      refine s_sipush (v := 834) dX9_doWarm_122 (by decide) ?_
      refine s_iconst (v := 3) dX9_doWarm_125 (by decide) ?_
      refine s_iload dX9_doWarm_126 rfl ?_
      refine s_imul dX9_doWarm_128 ?_
      refine s_iadd dX9_doWarm_129 ?_
      refine s_iconst (v := 3) dX9_doWarm_130 (by decide) ?_
      obtain ⟨c50, h⟩ := h
      refine t_copy gk dX9_doWarm_131 w_1602 w_1131 w_1130 w_23 ea27 t28 ea27 t28 c50 rfl (by decide) (by decide) (fun σ51 eσ51 mσ51 => ?_)
      replace h := h σ51 eσ51
      refine s_iinc (v := x5 + (-1)) (L' := [some (vR x0), some (vI x1), some (vI x2), some (vI x3), some (vI x4), some (vI (x5 + (-1)))]) dX9_doWarm_134 rfl rfl rfl (by decide) rfl ?_
      refine s_goto (tgt := 79) dX9_doWarm_137 (by decide) ?_
      exact h
theorem vX9_warm_0 {G : GG} (gk : GOK G) {σ : Mm} {K : RES → Mm → Prop} {x0 : Option Nat} {x1 : Int32} {x2 : Int32} {x3 : Int32}
    (h : ∃ a1, x0 = some a1 ∧ (mt σ a1).1 = 10 ∧ Runs G mX9_keep rX9_keep [(vR x0)] σ (bk G mX9_warm rX9_warm 0 0 4 [some (vR x0), some (vI x1), some (vI x2), some (vI x3)] [] K)) : At G mX9_warm rX9_warm 0 0 0 [some (vR x0), some (vI x1), some (vI x2), some (vI x3)] [] σ K := by
  refine s_aload_n (i := 0) dX9_warm_0 rfl rfl ?_
  obtain ⟨a1, ea1, h⟩ := h
  obtain ⟨t2, h⟩ := h
  exact t_callV (ci := 9) (as := []) (S := []) gk dX9_warm_1 gX9_99 (by decide) rfl w_1600 wp_8 ea1 t2 rfl rfl (Nat.le_of_ble_eq_true rfl) (by decide) h
theorem eX9_warm {G : GG} (gk : GOK G) {σ : Mm} {K : RES → Mm → Prop} {x0 : Option Nat} {x1 : Int32} {x2 : Int32} {x3 : Int32}
    (h : ∃ a1, x0 = some a1 ∧ (mt σ a1).1 = 10 ∧ Runs G mX9_keep rX9_keep [(vR x0)] σ (bk G mX9_warm rX9_warm 0 0 4 [some (vR x0), some (vI x1), some (vI x2), some (vI x3)] [] K)) : Runs G mX9_warm rX9_warm [(vR x0), (vI x1), (vI x2), (vI x3)] σ K := Runs.of (by decide) rfl (Nat.le_of_ble_eq_true rfl) (vX9_warm_0 gk h)
theorem vX9_warm_4 {G : GG} (gk : GOK G) {σ : Mm} {K : RES → Mm → Prop} {x0 : Option Nat} {x1 : Int32} {x2 : Int32} {x3 : Int32}
    (h : ∃ a1, x0 = some a1 ∧ (mt σ a1).1 = 10 ∧ Runs G mX9_doWarm rX9_doWarm [(vR x0), (vI x1), (vI x2), (vI x3)] σ (bk G mX9_warm rX9_warm 0 0 12 [some (vR x0), some (vI x1), some (vI x2), some (vI x3)] [(vR x0)] K)) : At G mX9_warm rX9_warm 0 0 4 [some (vR x0), some (vI x1), some (vI x2), some (vI x3)] [] σ K := by
  refine s_aload_n (i := 0) dX9_warm_4 rfl rfl ?_
  refine s_aload_n (i := 0) dX9_warm_5 rfl rfl ?_
  refine s_iload_n (i := 1) dX9_warm_6 rfl rfl ?_
  refine s_iload_n (i := 2) dX9_warm_7 rfl rfl ?_
  refine s_iload_n (i := 3) dX9_warm_8 rfl rfl ?_
  obtain ⟨a1, ea1, h⟩ := h
  obtain ⟨t2, h⟩ := h
  exact t_callV (ci := 9) (as := [(vI x1), (vI x2), (vI x3)]) (S := [(vR x0)]) gk dX9_warm_9 gX9_151 (by decide) rfl w_1815 wp_31 ea1 t2 rfl rfl (Nat.le_of_ble_eq_true rfl) (by decide) h
theorem vX9_warm_12 {G : GG} (gk : GOK G) {σ : Mm} {K : RES → Mm → Prop} {x0 : Option Nat} {x1 : Int32} {x2 : Int32} {x3 : Int32} {s0 : Int32} {s1 : Option Nat}
    (h : ∃ a1, s1 = some a1 ∧ (mt σ a1).1 = 10 ∧ Runs G mX9_ends rX9_ends [(vR s1), (vI s0)] σ (bk G mX9_warm rX9_warm 0 0 15 [some (vR x0), some (vI x1), some (vI x2), some (vI x3)] [] K)) : At G mX9_warm rX9_warm 0 0 12 [some (vR x0), some (vI x1), some (vI x2), some (vI x3)] [(vI s0), (vR s1)] σ K := by
  obtain ⟨a1, ea1, h⟩ := h
  obtain ⟨t2, h⟩ := h
  exact t_callV (ci := 9) (as := [(vI s0)]) (S := []) gk dX9_warm_12 gX9_105 (by decide) rfl w_1630 wp_13 ea1 t2 rfl rfl (Nat.le_of_ble_eq_true rfl) (by decide) h
theorem vX9_warm_15 {G : GG} (gk : GOK G) {σ : Mm} {K : RES → Mm → Prop} {x0 : Option Nat} {x1 : Int32} {x2 : Int32} {x3 : Int32} {s0 : Int32}
    (h : K (.inl (some (vI s0))) σ) : At G mX9_warm rX9_warm 0 0 15 [some (vR x0), some (vI x1), some (vI x2), some (vI x3)] [(vI s0)] σ K := by
  exact s_ireturn dX9_warm_15 rfl rfl (by decide) (by decide) h
theorem vX9_isWarming_0 {G : GG} (gk : GOK G) {σ : Mm} {K : RES → Mm → Prop} {x0 : Option Nat} {x1 : Int32}
    (h : ∃ a1, x0 = some a1 ∧ (mt σ a1).1 = 10 ∧ ∃ a3, mr σ a1 0 = some a3 ∧ ∃ n5, mt σ a3 = (50, n5) ∧ vp_in (1 : Int32) n5 ∧ Runs G mX9_in rX9_in [(vI x1), (vI (0 : Int32)), (vI ((mi σ a3 (1 : Int32).toNatClampNeg) - (1 : Int32)))] σ (bk G mX9_isWarming rX9_isWarming 0 0 13 [some (vR x0), some (vI x1)] [] K)) : At G mX9_isWarming rX9_isWarming 0 0 0 [some (vR x0), some (vI x1)] [] σ K := by
  refine s_iload_n (i := 1) dX9_isWarming_0 rfl rfl ?_
  refine s_iconst (v := 0) dX9_isWarming_1 (by decide) ?_
  refine s_aload_n (i := 0) dX9_isWarming_2 rfl rfl ?_
  obtain ⟨a1, ea1, h⟩ := h
  obtain ⟨t2, h⟩ := h
  refine t_getR gk dX9_isWarming_3 fX9_9 rfl ea1 t2 ?_
  refine s_iconst (v := 1) dX9_isWarming_6 (by decide) ?_
  obtain ⟨a3, ea3, h⟩ := h
  obtain ⟨n5, t4, h⟩ := h
  obtain ⟨c6, h⟩ := h
  refine t_iald gk dX9_isWarming_7 ea3 t4 c6 ?_
  refine s_iconst (v := 1) dX9_isWarming_8 (by decide) ?_
  refine s_isub dX9_isWarming_9 ?_
  exact s_callS (as := [(vI x1), (vI (0 : Int32)), (vI ((mi σ a3 (1 : Int32).toNatClampNeg) - (1 : Int32)))]) (S := []) gk dX9_isWarming_10 gX9_51 w_1611 rfl rfl (Nat.le_of_ble_eq_true rfl) (by decide) h
theorem eX9_isWarming {G : GG} (gk : GOK G) {σ : Mm} {K : RES → Mm → Prop} {x0 : Option Nat} {x1 : Int32}
    (h : ∃ a1, x0 = some a1 ∧ (mt σ a1).1 = 10 ∧ ∃ a3, mr σ a1 0 = some a3 ∧ ∃ n5, mt σ a3 = (50, n5) ∧ vp_in (1 : Int32) n5 ∧ Runs G mX9_in rX9_in [(vI x1), (vI (0 : Int32)), (vI ((mi σ a3 (1 : Int32).toNatClampNeg) - (1 : Int32)))] σ (bk G mX9_isWarming rX9_isWarming 0 0 13 [some (vR x0), some (vI x1)] [] K)) : Runs G mX9_isWarming rX9_isWarming [(vR x0), (vI x1)] σ K := Runs.of (by decide) rfl (Nat.le_of_ble_eq_true rfl) (vX9_isWarming_0 gk h)
theorem vX9_isWarming_13 {G : GG} (gk : GOK G) {σ : Mm} {K : RES → Mm → Prop} {x0 : Option Nat} {x1 : Int32} {s0 : Int32}
    (h : isZ s0 ∧ K (.inl (some (vI s0))) σ) : At G mX9_isWarming rX9_isWarming 0 0 13 [some (vR x0), some (vI x1)] [(vI s0)] σ K := by
  obtain ⟨c1, h⟩ := h
  exact s_ireturn dX9_isWarming_13 rfl (nf_z c1).1 (by decide) (by decide) h
theorem vX9_doCancel_0 {G : GG} (gk : GOK G) {σ : Mm} {K : RES → Mm → Prop} {x0 : Option Nat} {x1 : Int32}
    (h : ∃ a1, x0 = some a1 ∧ (mt σ a1).1 = 10 ∧ Runs G mX9_isWarming rX9_isWarming [(vR x0), (vI x1)] σ (bk G mX9_doCancel rX9_doCancel 0 0 5 [some (vR x0), some (vI x1), none] [] K)) : At G mX9_doCancel rX9_doCancel 0 0 0 [some (vR x0), some (vI x1), none] [] σ K := by
  refine s_aload_n (i := 0) dX9_doCancel_0 rfl rfl ?_
  refine s_iload_n (i := 1) dX9_doCancel_1 rfl rfl ?_
  obtain ⟨a1, ea1, h⟩ := h
  obtain ⟨t2, h⟩ := h
  exact t_callV (ci := 9) (as := [(vI x1)]) (S := []) gk dX9_doCancel_2 gX9_154 (by decide) rfl w_1827 wp_33 ea1 t2 rfl rfl (Nat.le_of_ble_eq_true rfl) (by decide) h
theorem eX9_doCancel {G : GG} (gk : GOK G) {σ : Mm} {K : RES → Mm → Prop} {x0 : Option Nat} {x1 : Int32}
    (h : ∃ a1, x0 = some a1 ∧ (mt σ a1).1 = 10 ∧ Runs G mX9_isWarming rX9_isWarming [(vR x0), (vI x1)] σ (bk G mX9_doCancel rX9_doCancel 0 0 5 [some (vR x0), some (vI x1), none] [] K)) : Runs G mX9_doCancel rX9_doCancel [(vR x0), (vI x1)] σ K := Runs.of (by decide) rfl (Nat.le_of_ble_eq_true rfl) (vX9_doCancel_0 gk h)
theorem vX9_doCancel_5 {G : GG} (gk : GOK G) {σ : Mm} {K : RES → Mm → Prop} {x0 : Option Nat} {x1 : Int32} {s0 : Int32}
    (h : ((¬ s0 = 0 → ∃ a2, x0 = some a2 ∧ (mt σ a2).1 = 10 ∧ ∃ a4, mr σ a2 0 = some a4 ∧ ∃ n6, mt σ a4 = (50, n6) ∧ vp_in (1 : Int32) n6 ∧ vp_in (1 : Int32) n6 ∧ ∀ σ9, σ9 = si σ a4 (1 : Int32).toNatClampNeg ((mi σ a4 (1 : Int32).toNatClampNeg) - (1 : Int32)) → ∃ a10, mr σ9 a2 0 = some a10 ∧ ∃ n12, mt σ a10 = (50, n12) ∧ vp_in (1 : Int32) n12 ∧ ((¬ (((834 : Int32) + ((3 : Int32) * x1)) + (3 : Int32)) < 0 ∧ ¬ ((834 : Int32) + ((3 : Int32) * x1)) < 0 ∧ ¬ ((3 : Int32) * ((mi σ9 a10 (1 : Int32).toNatClampNeg) - x1)) < 0) ∧ (((834 : Int32) + ((3 : Int32) * x1)) + (3 : Int32)).toNatClampNeg + ((3 : Int32) * ((mi σ9 a10 (1 : Int32).toNatClampNeg) - x1)).toNatClampNeg ≤ n12 ∧ ((834 : Int32) + ((3 : Int32) * x1)).toNatClampNeg + ((3 : Int32) * ((mi σ9 a10 (1 : Int32).toNatClampNeg) - x1)).toNatClampNeg ≤ n12) ∧ ∀ σ15, σ15 = cpI σ9 a10 (((834 : Int32) + ((3 : Int32) * x1)) + (3 : Int32)).toNatClampNeg a10 ((834 : Int32) + ((3 : Int32) * x1)).toNatClampNeg ((3 : Int32) * ((mi σ9 a10 (1 : Int32).toNatClampNeg) - x1)).toNatClampNeg → ∃ a16, mr σ15 a2 0 = some a16 ∧ ∃ n18, mt σ a16 = (50, n18) ∧ vp_in (1 : Int32) n18 ∧ K (.inl (some (vI (mi σ15 a16 (1 : Int32).toNatClampNeg)))) σ15) ∧ (s0 = 0 → ∃ a20, x0 = some a20 ∧ (mt σ a20).1 = 10 ∧ Runs G mX9_fails rX9_fails [(vR x0), (vI (1 : Int32))] σ (bk G mX9_doCancel rX9_doCancel 0 0 13 [some (vR x0), some (vI x1), none] [] K)))) : At G mX9_doCancel rX9_doCancel 0 0 5 [some (vR x0), some (vI x1), none] [(vI s0)] σ K := by
  refine s_if_ne (tgt := 14) dX9_doCancel_5 (by decide) (fun q1 => ?_) (fun q1 => ?_)
  · have h := h.1 q1
    refine s_aload_n (i := 0) dX9_doCancel_14 rfl rfl ?_
    obtain ⟨a2, ea2, h⟩ := h
    obtain ⟨t3, h⟩ := h
    refine t_getR gk dX9_doCancel_15 fX9_9 rfl ea2 t3 ?_
    refine s_iconst (v := 1) dX9_doCancel_18 (by decide) ?_
    refine s_dup2 dX9_doCancel_19 rfl rfl ?_
    obtain ⟨a4, ea4, h⟩ := h
    obtain ⟨n6, t5, h⟩ := h
    obtain ⟨c7, h⟩ := h
    refine t_iald gk dX9_doCancel_20 ea4 t5 c7 ?_
    refine s_iconst (v := 1) dX9_doCancel_21 (by decide) ?_
    refine s_isub dX9_doCancel_22 ?_
    obtain ⟨c8, h⟩ := h
    refine t_iast gk dX9_doCancel_23 ea4 t5 c8 (fun σ9 eσ9 mσ9 => ?_)
    replace h := h σ9 eσ9
    refine s_sipush (v := 834) dX9_doCancel_24 (by decide) ?_
    refine s_iconst (v := 3) dX9_doCancel_27 (by decide) ?_
    refine s_iload_n (i := 1) dX9_doCancel_28 rfl rfl ?_
    refine s_imul dX9_doCancel_29 ?_
    refine s_iadd dX9_doCancel_30 ?_
    refine s_istore_n (i := 2) (L' := [some (vR x0), some (vI x1), some (vI ((834 : Int32) + ((3 : Int32) * x1)))]) dX9_doCancel_31 rfl rfl (by decide) rfl ?_
    refine s_aload_n (i := 0) dX9_doCancel_32 rfl rfl ?_
    refine t_getR gk dX9_doCancel_33 fX9_9 rfl ea2 (by rw [mσ9]; exact t3) ?_
    refine s_iload_n (i := 2) dX9_doCancel_36 rfl rfl ?_
    refine s_iconst (v := 3) dX9_doCancel_37 (by decide) ?_
    refine s_iadd dX9_doCancel_38 ?_
    refine s_aload_n (i := 0) dX9_doCancel_39 rfl rfl ?_
    refine t_getR gk dX9_doCancel_40 fX9_9 rfl ea2 (by rw [mσ9]; exact t3) ?_
    refine s_iload_n (i := 2) dX9_doCancel_43 rfl rfl ?_
    refine s_iconst (v := 3) dX9_doCancel_44 (by decide) ?_
    refine s_aload_n (i := 0) dX9_doCancel_45 rfl rfl ?_
    refine t_getR gk dX9_doCancel_46 fX9_9 rfl ea2 (by rw [mσ9]; exact t3) ?_
    refine s_iconst (v := 1) dX9_doCancel_49 (by decide) ?_
    obtain ⟨a10, ea10, h⟩ := h
    obtain ⟨n12, t11, h⟩ := h
    obtain ⟨c13, h⟩ := h
    refine t_iald gk dX9_doCancel_50 ea10 (by rw [mσ9]; exact t11) c13 ?_
    refine s_iload_n (i := 1) dX9_doCancel_51 rfl rfl ?_
    refine s_isub dX9_doCancel_52 ?_
    refine s_imul dX9_doCancel_53 ?_
    obtain ⟨c14, h⟩ := h
    refine t_copy gk dX9_doCancel_54 w_1602 w_1131 w_1130 w_23 ea10 (by rw [mσ9]; exact t11) ea10 (by rw [mσ9]; exact t11) c14 rfl (by decide) (by decide) (fun σ15 eσ15 mσ15 => ?_)
    replace h := h σ15 eσ15
    refine s_aload_n (i := 0) dX9_doCancel_57 rfl rfl ?_
    refine t_getR gk dX9_doCancel_58 fX9_9 rfl ea2 (by rw [mσ15, mσ9]; exact t3) ?_
    refine s_iconst (v := 1) dX9_doCancel_61 (by decide) ?_
    obtain ⟨a16, ea16, h⟩ := h
    obtain ⟨n18, t17, h⟩ := h
    obtain ⟨c19, h⟩ := h
    refine t_iald gk dX9_doCancel_62 ea16 (by rw [mσ15, mσ9]; exact t17) c19 ?_
    exact s_ireturn dX9_doCancel_63 rfl rfl (by decide) (by decide) h
  · have h := h.2 q1
    refine s_aload_n (i := 0) dX9_doCancel_8 rfl rfl ?_
    refine s_iconst (v := 1) dX9_doCancel_9 (by decide) ?_
    obtain ⟨a20, ea20, h⟩ := h
    obtain ⟨t21, h⟩ := h
    exact t_callV (ci := 9) (as := [(vI (1 : Int32))]) (S := []) gk dX9_doCancel_10 gX9_92 (by decide) rfl w_1615 wp_10 ea20 t21 rfl rfl (Nat.le_of_ble_eq_true rfl) (by decide) h
theorem vX9_doCancel_13 {G : GG} (gk : GOK G) {σ : Mm} {K : RES → Mm → Prop} {x0 : Option Nat} {x1 : Int32} {s0 : Int32}
    (h : K (.inl (some (vI s0))) σ) : At G mX9_doCancel rX9_doCancel 0 0 13 [some (vR x0), some (vI x1), none] [(vI s0)] σ K := by
  exact s_ireturn dX9_doCancel_13 rfl rfl (by decide) (by decide) h
theorem vX9_cancelWarming_0 {G : GG} (gk : GOK G) {σ : Mm} {K : RES → Mm → Prop} {x0 : Option Nat} {x1 : Int32}
    (h : ∃ a1, x0 = some a1 ∧ (mt σ a1).1 = 10 ∧ Runs G mX9_keep rX9_keep [(vR x0)] σ (bk G mX9_cancelWarming rX9_cancelWarming 0 0 4 [some (vR x0), some (vI x1)] [] K)) : At G mX9_cancelWarming rX9_cancelWarming 0 0 0 [some (vR x0), some (vI x1)] [] σ K := by
  refine s_aload_n (i := 0) dX9_cancelWarming_0 rfl rfl ?_
  obtain ⟨a1, ea1, h⟩ := h
  obtain ⟨t2, h⟩ := h
  exact t_callV (ci := 9) (as := []) (S := []) gk dX9_cancelWarming_1 gX9_99 (by decide) rfl w_1600 wp_8 ea1 t2 rfl rfl (Nat.le_of_ble_eq_true rfl) (by decide) h
theorem eX9_cancelWarming {G : GG} (gk : GOK G) {σ : Mm} {K : RES → Mm → Prop} {x0 : Option Nat} {x1 : Int32}
    (h : ∃ a1, x0 = some a1 ∧ (mt σ a1).1 = 10 ∧ Runs G mX9_keep rX9_keep [(vR x0)] σ (bk G mX9_cancelWarming rX9_cancelWarming 0 0 4 [some (vR x0), some (vI x1)] [] K)) : Runs G mX9_cancelWarming rX9_cancelWarming [(vR x0), (vI x1)] σ K := Runs.of (by decide) rfl (Nat.le_of_ble_eq_true rfl) (vX9_cancelWarming_0 gk h)
theorem vX9_cancelWarming_4 {G : GG} (gk : GOK G) {σ : Mm} {K : RES → Mm → Prop} {x0 : Option Nat} {x1 : Int32}
    (h : ∃ a1, x0 = some a1 ∧ (mt σ a1).1 = 10 ∧ Runs G mX9_doCancel rX9_doCancel [(vR x0), (vI x1)] σ (bk G mX9_cancelWarming rX9_cancelWarming 0 0 10 [some (vR x0), some (vI x1)] [(vR x0)] K)) : At G mX9_cancelWarming rX9_cancelWarming 0 0 4 [some (vR x0), some (vI x1)] [] σ K := by
  refine s_aload_n (i := 0) dX9_cancelWarming_4 rfl rfl ?_
  refine s_aload_n (i := 0) dX9_cancelWarming_5 rfl rfl ?_
  refine s_iload_n (i := 1) dX9_cancelWarming_6 rfl rfl ?_
  obtain ⟨a1, ea1, h⟩ := h
  obtain ⟨t2, h⟩ := h
  exact t_callV (ci := 9) (as := [(vI x1)]) (S := [(vR x0)]) gk dX9_cancelWarming_7 gX9_157 (by decide) rfl w_1823 wp_32 ea1 t2 rfl rfl (Nat.le_of_ble_eq_true rfl) (by decide) h
theorem vX9_cancelWarming_10 {G : GG} (gk : GOK G) {σ : Mm} {K : RES → Mm → Prop} {x0 : Option Nat} {x1 : Int32} {s0 : Int32} {s1 : Option Nat}
    (h : ∃ a1, s1 = some a1 ∧ (mt σ a1).1 = 10 ∧ Runs G mX9_ends rX9_ends [(vR s1), (vI s0)] σ (bk G mX9_cancelWarming rX9_cancelWarming 0 0 13 [some (vR x0), some (vI x1)] [] K)) : At G mX9_cancelWarming rX9_cancelWarming 0 0 10 [some (vR x0), some (vI x1)] [(vI s0), (vR s1)] σ K := by
  obtain ⟨a1, ea1, h⟩ := h
  obtain ⟨t2, h⟩ := h
  exact t_callV (ci := 9) (as := [(vI s0)]) (S := []) gk dX9_cancelWarming_10 gX9_105 (by decide) rfl w_1630 wp_13 ea1 t2 rfl rfl (Nat.le_of_ble_eq_true rfl) (by decide) h
theorem vX9_cancelWarming_13 {G : GG} (gk : GOK G) {σ : Mm} {K : RES → Mm → Prop} {x0 : Option Nat} {x1 : Int32} {s0 : Int32}
    (h : K (.inl (some (vI s0))) σ) : At G mX9_cancelWarming rX9_cancelWarming 0 0 13 [some (vR x0), some (vI x1)] [(vI s0)] σ K := by
  exact s_ireturn dX9_cancelWarming_13 rfl rfl (by decide) (by decide) h
theorem vX9_doPass_0 {G : GG} (gk : GOK G) {σ : Mm} {K : RES → Mm → Prop} {x0 : Option Nat} {x1 : Int32}
    (h : Runs G mX9_in rX9_in [(vI x1), (vI (1 : Int32)), (vI (60 : Int32))] σ (bk G mX9_doPass rX9_doPass 0 0 7 [some (vR x0), some (vI x1), none, none, none, none, none] [] K)) : At G mX9_doPass rX9_doPass 0 0 0 [some (vR x0), some (vI x1), none, none, none, none, none] [] σ K := by
  refine s_iload_n (i := 1) dX9_doPass_0 rfl rfl ?_
  refine s_iconst (v := 1) dX9_doPass_1 (by decide) ?_
  refine s_bipush (v := 60) dX9_doPass_2 (by decide) ?_
  exact s_callS (as := [(vI x1), (vI (1 : Int32)), (vI (60 : Int32))]) (S := []) gk dX9_doPass_4 gX9_51 w_1611 rfl rfl (Nat.le_of_ble_eq_true rfl) (by decide) h
theorem eX9_doPass {G : GG} (gk : GOK G) {σ : Mm} {K : RES → Mm → Prop} {x0 : Option Nat} {x1 : Int32}
    (h : Runs G mX9_in rX9_in [(vI x1), (vI (1 : Int32)), (vI (60 : Int32))] σ (bk G mX9_doPass rX9_doPass 0 0 7 [some (vR x0), some (vI x1), none, none, none, none, none] [] K)) : Runs G mX9_doPass rX9_doPass [(vR x0), (vI x1)] σ K := Runs.of (by decide) rfl (Nat.le_of_ble_eq_true rfl) (vX9_doPass_0 gk h)
theorem vX9_doPass_7 {G : GG} (gk : GOK G) {σ : Mm} {K : RES → Mm → Prop} {x0 : Option Nat} {x1 : Int32} {s0 : Int32}
    (h : ((¬ s0 = 0 → At G mX9_doPass rX9_doPass 0 0 20 [some (vR x0), some (vI x1), some (vI (0 : Int32)), some (vI (0 : Int32)), none, none, none] [] σ K) ∧ (s0 = 0 → ∃ a2, x0 = some a2 ∧ (mt σ a2).1 = 10 ∧ Runs G mX9_fails rX9_fails [(vR x0), (vI (1 : Int32))] σ (bk G mX9_doPass rX9_doPass 0 0 15 [some (vR x0), some (vI x1), none, none, none, none, none] [] K)))) : At G mX9_doPass rX9_doPass 0 0 7 [some (vR x0), some (vI x1), none, none, none, none, none] [(vI s0)] σ K := by
  refine s_if_ne (tgt := 16) dX9_doPass_7 (by decide) (fun q1 => ?_) (fun q1 => ?_)
  · have h := h.1 q1
    refine s_iconst (v := 0) dX9_doPass_16 (by decide) ?_
    refine s_istore_n (i := 2) (L' := [some (vR x0), some (vI x1), some (vI (0 : Int32)), none, none, none, none]) dX9_doPass_17 rfl rfl (by decide) rfl ?_
    refine s_iconst (v := 0) dX9_doPass_18 (by decide) ?_
    refine s_istore_n (i := 3) (L' := [some (vR x0), some (vI x1), some (vI (0 : Int32)), some (vI (0 : Int32)), none, none, none]) dX9_doPass_19 rfl rfl (by decide) rfl ?_
    exact h
  · have h := h.2 q1
    refine s_aload_n (i := 0) dX9_doPass_10 rfl rfl ?_
    refine s_iconst (v := 1) dX9_doPass_11 (by decide) ?_
    obtain ⟨a2, ea2, h⟩ := h
    obtain ⟨t3, h⟩ := h
    exact t_callV (ci := 9) (as := [(vI (1 : Int32))]) (S := []) gk dX9_doPass_12 gX9_92 (by decide) rfl w_1615 wp_10 ea2 t3 rfl rfl (Nat.le_of_ble_eq_true rfl) (by decide) h
theorem vX9_doPass_15 {G : GG} (gk : GOK G) {σ : Mm} {K : RES → Mm → Prop} {x0 : Option Nat} {x1 : Int32} {s0 : Int32}
    (h : K (.inl (some (vI s0))) σ) : At G mX9_doPass rX9_doPass 0 0 15 [some (vR x0), some (vI x1), none, none, none, none, none] [(vI s0)] σ K := by
  exact s_ireturn dX9_doPass_15 rfl rfl (by decide) (by decide) h
theorem vX9_doPass_20 {G : GG} (gk : GOK G) {σ : Mm} {K : RES → Mm → Prop} {x0 : Option Nat} {x1 : Int32} {x2 : Int32} {x3 : Int32}
    (h : ((x1 ≤ x3 → K (.inl (some (vI x2))) σ) ∧ (¬ x1 ≤ x3 → ∃ a2, x0 = some a2 ∧ (mt σ a2).1 = 10 ∧ ∃ a4, mr σ a2 0 = some a4 ∧ ∃ n6, mt σ a4 = (50, n6) ∧ vp_in (2 : Int32) n6 ∧ vp_in (2 : Int32) n6 ∧ ∀ σ9, σ9 = si σ a4 (2 : Int32).toNatClampNeg ((mi σ a4 (2 : Int32).toNatClampNeg) + (1 : Int32)) → At G mX9_doPass rX9_doPass 0 0 35 [some (vR x0), some (vI x1), some (vI x2), some (vI x3), none, none, none] [] σ9 K))) : At G mX9_doPass rX9_doPass 0 0 20 [some (vR x0), some (vI x1), some (vI x2), some (vI x3), none, none, none] [] σ K := by
  refine s_iload_n (i := 3) dX9_doPass_20 rfl rfl ?_
  refine s_iload_n (i := 1) dX9_doPass_21 rfl rfl ?_
  refine s_icmp_ge (tgt := 117) dX9_doPass_22 (by decide) (fun q1 => ?_) (fun q1 => ?_)
  · have h := h.1 q1
    refine s_iload_n (i := 2) dX9_doPass_117 rfl rfl ?_
    exact s_ireturn dX9_doPass_118 rfl rfl (by decide) (by decide) h
  · have h := h.2 q1
    refine s_aload_n (i := 0) dX9_doPass_25 rfl rfl ?_
    obtain ⟨a2, ea2, h⟩ := h
    obtain ⟨t3, h⟩ := h
    refine t_getR gk dX9_doPass_26 fX9_9 rfl ea2 t3 ?_
    refine s_iconst (v := 2) dX9_doPass_29 (by decide) ?_
    refine s_dup2 dX9_doPass_30 rfl rfl ?_
    obtain ⟨a4, ea4, h⟩ := h
    obtain ⟨n6, t5, h⟩ := h
    obtain ⟨c7, h⟩ := h
    refine t_iald gk dX9_doPass_31 ea4 t5 c7 ?_
    refine s_iconst (v := 1) dX9_doPass_32 (by decide) ?_
    refine s_iadd dX9_doPass_33 ?_
    obtain ⟨c8, h⟩ := h
    refine t_iast gk dX9_doPass_34 ea4 t5 c8 (fun σ9 eσ9 mσ9 => ?_)
    replace h := h σ9 eσ9
    exact h
theorem vX9_doPass_35 {G : GG} (gk : GOK G) {σ : Mm} {K : RES → Mm → Prop} {x0 : Option Nat} {x1 : Int32} {x2 : Int32} {x3 : Int32}
    (h : ∃ a1, x0 = some a1 ∧ (mt σ a1).1 = 10 ∧ ∃ a3, mr σ a1 0 = some a3 ∧ ∃ n5, mt σ a3 = (50, n5) ∧ vp_in (1 : Int32) n5 ∧ (((mi σ a3 (1 : Int32).toNatClampNeg) ≤ 0 → At G mX9_doPass rX9_doPass 0 0 20 [some (vR x0), some (vI x1), some (vI x2), some (vI (x3 + 1)), none, none, none] [] σ K) ∧ (¬ (mi σ a3 (1 : Int32).toNatClampNeg) ≤ 0 → vp_in (834 : Int32) n5 ∧ vp_in (2 : Int32) n5 ∧ ((¬ (mi σ a3 (834 : Int32).toNatClampNeg) = (mi σ a3 (2 : Int32).toNatClampNeg) → At G mX9_doPass rX9_doPass 0 0 20 [some (vR x0), some (vI x1), some (vI x2), some (vI (x3 + 1)), none, none, none] [] σ K) ∧ ((mi σ a3 (834 : Int32).toNatClampNeg) = (mi σ a3 (2 : Int32).toNatClampNeg) → vp_in (835 : Int32) n5 ∧ vp_in (836 : Int32) n5 ∧ Runs G mX9_doCancel rX9_doCancel [(vR x0), (vI (0 : Int32))] σ (bk G mX9_doPass rX9_doPass 0 0 86 [some (vR x0), some (vI x1), some (vI x2), some (vI x3), some (vI (mi σ a3 (835 : Int32).toNatClampNeg)), some (vI (mi σ a3 (836 : Int32).toNatClampNeg)), none] [] K)))))) : At G mX9_doPass rX9_doPass 0 0 35 [some (vR x0), some (vI x1), some (vI x2), some (vI x3), none, none, none] [] σ K := by
  refine s_aload_n (i := 0) dX9_doPass_35 rfl rfl ?_
  obtain ⟨a1, ea1, h⟩ := h
  obtain ⟨t2, h⟩ := h
  refine t_getR gk dX9_doPass_36 fX9_9 rfl ea1 t2 ?_
  refine s_iconst (v := 1) dX9_doPass_39 (by decide) ?_
  obtain ⟨a3, ea3, h⟩ := h
  obtain ⟨n5, t4, h⟩ := h
  obtain ⟨c6, h⟩ := h
  refine t_iald gk dX9_doPass_40 ea3 t4 c6 ?_
  refine s_if_le (tgt := 111) dX9_doPass_41 (by decide) (fun q7 => ?_) (fun q7 => ?_)
  · have h := h.1 q7
    refine s_iinc (v := x3 + 1) (L' := [some (vR x0), some (vI x1), some (vI x2), some (vI (x3 + 1)), none, none, none]) dX9_doPass_111 rfl rfl rfl (by decide) rfl ?_
    refine s_goto (tgt := 20) dX9_doPass_114 (by decide) ?_
    exact h
  · have h := h.2 q7
    refine s_aload_n (i := 0) dX9_doPass_44 rfl rfl ?_
    refine t_getR gk dX9_doPass_45 fX9_9 rfl ea1 t2 ?_
    refine s_sipush (v := 834) dX9_doPass_48 (by decide) ?_
    obtain ⟨c8, h⟩ := h
    refine t_iald gk dX9_doPass_51 ea3 t4 c8 ?_
    refine s_aload_n (i := 0) dX9_doPass_52 rfl rfl ?_
    refine t_getR gk dX9_doPass_53 fX9_9 rfl ea1 t2 ?_
    refine s_iconst (v := 2) dX9_doPass_56 (by decide) ?_
    obtain ⟨c9, h⟩ := h
    refine t_iald gk dX9_doPass_57 ea3 t4 c9 ?_
    refine s_icmp_ne (tgt := 111) dX9_doPass_58 (by decide) (fun q10 => ?_) (fun q10 => ?_)
    · have h := h.1 q10
      refine s_iinc (v := x3 + 1) (L' := [some (vR x0), some (vI x1), some (vI x2), some (vI (x3 + 1)), none, none, none]) dX9_doPass_111 rfl rfl rfl (by decide) rfl ?_
      refine s_goto (tgt := 20) dX9_doPass_114 (by decide) ?_
      exact h
    · have h := h.2 q10
      refine s_aload_n (i := 0) dX9_doPass_61 rfl rfl ?_
      refine t_getR gk dX9_doPass_62 fX9_9 rfl ea1 t2 ?_
      refine s_sipush (v := 835) dX9_doPass_65 (by decide) ?_
      obtain ⟨c11, h⟩ := h
      refine t_iald gk dX9_doPass_68 ea3 t4 c11 ?_
      refine s_istore (L' := [some (vR x0), some (vI x1), some (vI x2), some (vI x3), some (vI (mi σ a3 (835 : Int32).toNatClampNeg)), none, none]) dX9_doPass_69 rfl (by decide) rfl ?_
      refine s_aload_n (i := 0) dX9_doPass_71 rfl rfl ?_
      refine t_getR gk dX9_doPass_72 fX9_9 rfl ea1 t2 ?_
      refine s_sipush (v := 836) dX9_doPass_75 (by decide) ?_
      obtain ⟨c12, h⟩ := h
      refine t_iald gk dX9_doPass_78 ea3 t4 c12 ?_
      refine s_istore (L' := [some (vR x0), some (vI x1), some (vI x2), some (vI x3), some (vI (mi σ a3 (835 : Int32).toNatClampNeg)), some (vI (mi σ a3 (836 : Int32).toNatClampNeg)), none]) dX9_doPass_79 rfl (by decide) rfl ?_
      refine s_aload_n (i := 0) dX9_doPass_81 rfl rfl ?_
      refine s_iconst (v := 0) dX9_doPass_82 (by decide) ?_
      exact t_callV (ci := 9) (as := [(vI (0 : Int32))]) (S := []) gk dX9_doPass_83 gX9_157 (by decide) rfl w_1823 wp_32 ea1 t2 rfl rfl (Nat.le_of_ble_eq_true rfl) (by decide) h
theorem vX9_doPass_86 {G : GG} (gk : GOK G) {σ : Mm} {K : RES → Mm → Prop} {x0 : Option Nat} {x1 : Int32} {x2 : Int32} {x3 : Int32} {x4 : Int32} {x5 : Int32} {s0 : Int32}
    (h : ∃ a1, x0 = some a1 ∧ (mt σ a1).1 = 10 ∧ Runs G mX9_isJar rX9_isJar [(vR x0), (vI x5)] σ (bk G mX9_doPass rX9_doPass 0 0 94 [some (vR x0), some (vI x1), some (vI x2), some (vI x3), some (vI x4), some (vI x5), some (vI s0)] [] K)) : At G mX9_doPass rX9_doPass 0 0 86 [some (vR x0), some (vI x1), some (vI x2), some (vI x3), some (vI x4), some (vI x5), none] [(vI s0)] σ K := by
  refine s_istore (L' := [some (vR x0), some (vI x1), some (vI x2), some (vI x3), some (vI x4), some (vI x5), some (vI s0)]) dX9_doPass_86 rfl (by decide) rfl ?_
  refine s_aload_n (i := 0) dX9_doPass_88 rfl rfl ?_
  refine s_iload dX9_doPass_89 rfl ?_
  obtain ⟨a1, ea1, h⟩ := h
  obtain ⟨t2, h⟩ := h
  exact t_callV (ci := 9) (as := [(vI x5)]) (S := []) gk dX9_doPass_91 gX9_63 (by decide) rfl w_1623 wp_12 ea1 t2 rfl rfl (Nat.le_of_ble_eq_true rfl) (by decide) h
theorem vX9_doPass_94 {G : GG} (gk : GOK G) {σ : Mm} {K : RES → Mm → Prop} {x0 : Option Nat} {x1 : Int32} {x2 : Int32} {x3 : Int32} {x4 : Int32} {x5 : Int32} {x6 : Int32} {s0 : Int32}
    (h : ((s0 = 0 → At G mX9_doPass rX9_doPass 0 0 35 [some (vR x0), some (vI x1), some (vI x2), some (vI x3), none, none, none] [] σ K) ∧ (¬ s0 = 0 → ∃ a2, x0 = some a2 ∧ (mt σ a2).1 = 10 ∧ Runs G mX9_fetches rX9_fetches [(vR x0), (vI x4), (vI x5)] σ (bk G mX9_doPass rX9_doPass 0 0 105 [some (vR x0), some (vI x1), some (vI x2), some (vI x3), some (vI x4), some (vI x5), some (vI x6)] [] K)))) : At G mX9_doPass rX9_doPass 0 0 94 [some (vR x0), some (vI x1), some (vI x2), some (vI x3), some (vI x4), some (vI x5), some (vI x6)] [(vI s0)] σ K := by
  refine s_if_eq (tgt := 108) dX9_doPass_94 (by decide) (fun q1 => ?_) (fun q1 => ?_)
  · have h := h.1 q1
    refine s_goto (tgt := 35) dX9_doPass_108 (by decide) ?_
    exact h.msk ⟨rfl, ⟨rfl, ⟨rfl, ⟨rfl, trivial⟩⟩⟩⟩
  · have h := h.2 q1
    refine s_aload_n (i := 0) dX9_doPass_97 rfl rfl ?_
    refine s_iload dX9_doPass_98 rfl ?_
    refine s_iload dX9_doPass_100 rfl ?_
    obtain ⟨a2, ea2, h⟩ := h
    obtain ⟨t3, h⟩ := h
    exact t_callV (ci := 9) (as := [(vI x4), (vI x5)]) (S := []) gk dX9_doPass_102 gX9_144 (by decide) rfl w_1803 wp_30 ea2 t3 rfl rfl (Nat.le_of_ble_eq_true rfl) (by decide) h
theorem vX9_doPass_105 {G : GG} (gk : GOK G) {σ : Mm} {K : RES → Mm → Prop} {x0 : Option Nat} {x1 : Int32} {x2 : Int32} {x3 : Int32} {x4 : Int32} {x5 : Int32} {x6 : Int32}
    (h : At G mX9_doPass rX9_doPass 0 0 35 [some (vR x0), some (vI x1), some (vI (x2 + 1)), some (vI x3), none, none, none] [] σ K) : At G mX9_doPass rX9_doPass 0 0 105 [some (vR x0), some (vI x1), some (vI x2), some (vI x3), some (vI x4), some (vI x5), some (vI x6)] [] σ K := by
  refine s_iinc (v := x2 + 1) (L' := [some (vR x0), some (vI x1), some (vI (x2 + 1)), some (vI x3), some (vI x4), some (vI x5), some (vI x6)]) dX9_doPass_105 rfl rfl rfl (by decide) rfl ?_
  refine s_goto (tgt := 35) dX9_doPass_108 (by decide) ?_
  exact h.msk ⟨rfl, ⟨rfl, ⟨rfl, ⟨rfl, trivial⟩⟩⟩⟩
theorem vX9_pass_0 {G : GG} (gk : GOK G) {σ : Mm} {K : RES → Mm → Prop} {x0 : Option Nat} {x1 : Int32}
    (h : ∃ a1, x0 = some a1 ∧ (mt σ a1).1 = 10 ∧ Runs G mX9_keep rX9_keep [(vR x0)] σ (bk G mX9_pass rX9_pass 0 0 4 [some (vR x0), some (vI x1)] [] K)) : At G mX9_pass rX9_pass 0 0 0 [some (vR x0), some (vI x1)] [] σ K := by
  refine s_aload_n (i := 0) dX9_pass_0 rfl rfl ?_
  obtain ⟨a1, ea1, h⟩ := h
  obtain ⟨t2, h⟩ := h
  exact t_callV (ci := 9) (as := []) (S := []) gk dX9_pass_1 gX9_99 (by decide) rfl w_1600 wp_8 ea1 t2 rfl rfl (Nat.le_of_ble_eq_true rfl) (by decide) h
theorem eX9_pass {G : GG} (gk : GOK G) {σ : Mm} {K : RES → Mm → Prop} {x0 : Option Nat} {x1 : Int32}
    (h : ∃ a1, x0 = some a1 ∧ (mt σ a1).1 = 10 ∧ Runs G mX9_keep rX9_keep [(vR x0)] σ (bk G mX9_pass rX9_pass 0 0 4 [some (vR x0), some (vI x1)] [] K)) : Runs G mX9_pass rX9_pass [(vR x0), (vI x1)] σ K := Runs.of (by decide) rfl (Nat.le_of_ble_eq_true rfl) (vX9_pass_0 gk h)
theorem vX9_pass_4 {G : GG} (gk : GOK G) {σ : Mm} {K : RES → Mm → Prop} {x0 : Option Nat} {x1 : Int32}
    (h : ∃ a1, x0 = some a1 ∧ (mt σ a1).1 = 10 ∧ Runs G mX9_doPass rX9_doPass [(vR x0), (vI x1)] σ (bk G mX9_pass rX9_pass 0 0 10 [some (vR x0), some (vI x1)] [(vR x0)] K)) : At G mX9_pass rX9_pass 0 0 4 [some (vR x0), some (vI x1)] [] σ K := by
  refine s_aload_n (i := 0) dX9_pass_4 rfl rfl ?_
  refine s_aload_n (i := 0) dX9_pass_5 rfl rfl ?_
  refine s_iload_n (i := 1) dX9_pass_6 rfl rfl ?_
  obtain ⟨a1, ea1, h⟩ := h
  obtain ⟨t2, h⟩ := h
  exact t_callV (ci := 9) (as := [(vI x1)]) (S := [(vR x0)]) gk dX9_pass_7 gX9_160 (by decide) rfl w_1835 wp_34 ea1 t2 rfl rfl (Nat.le_of_ble_eq_true rfl) (by decide) h
theorem vX9_pass_10 {G : GG} (gk : GOK G) {σ : Mm} {K : RES → Mm → Prop} {x0 : Option Nat} {x1 : Int32} {s0 : Int32} {s1 : Option Nat}
    (h : ∃ a1, s1 = some a1 ∧ (mt σ a1).1 = 10 ∧ Runs G mX9_ends rX9_ends [(vR s1), (vI s0)] σ (bk G mX9_pass rX9_pass 0 0 13 [some (vR x0), some (vI x1)] [] K)) : At G mX9_pass rX9_pass 0 0 10 [some (vR x0), some (vI x1)] [(vI s0), (vR s1)] σ K := by
  obtain ⟨a1, ea1, h⟩ := h
  obtain ⟨t2, h⟩ := h
  exact t_callV (ci := 9) (as := [(vI s0)]) (S := []) gk dX9_pass_10 gX9_105 (by decide) rfl w_1630 wp_13 ea1 t2 rfl rfl (Nat.le_of_ble_eq_true rfl) (by decide) h
theorem vX9_pass_13 {G : GG} (gk : GOK G) {σ : Mm} {K : RES → Mm → Prop} {x0 : Option Nat} {x1 : Int32} {s0 : Int32}
    (h : K (.inl (some (vI s0))) σ) : At G mX9_pass rX9_pass 0 0 13 [some (vR x0), some (vI x1)] [(vI s0)] σ K := by
  exact s_ireturn dX9_pass_13 rfl rfl (by decide) (by decide) h
theorem vX9_time_0 {G : GG} (gk : GOK G) {σ : Mm} {K : RES → Mm → Prop} {x0 : Option Nat}
    (h : ∃ a1, x0 = some a1 ∧ (mt σ a1).1 = 10 ∧ ∀ σ3, σ3 = si σ a1 6 (0 : Int32) → ∃ a4, mr σ3 a1 0 = some a4 ∧ ∃ n6, mt σ a4 = (50, n6) ∧ vp_in (2 : Int32) n6 ∧ K (.inl (some (vI (mi σ3 a4 (2 : Int32).toNatClampNeg)))) σ3) : At G mX9_time rX9_time 0 0 0 [some (vR x0)] [] σ K := by
  refine s_aload_n (i := 0) dX9_time_0 rfl rfl ?_
  refine s_iconst (v := 0) dX9_time_1 (by decide) ?_
  obtain ⟨a1, ea1, h⟩ := h
  obtain ⟨t2, h⟩ := h
  refine t_putI gk dX9_time_2 fX9_39 rfl rfl ea1 t2 ⟨rfl, rfl⟩ (fun σ3 eσ3 mσ3 => ?_)
  replace h := h σ3 eσ3
  refine s_aload_n (i := 0) dX9_time_5 rfl rfl ?_
  refine t_getR gk dX9_time_6 fX9_9 rfl ea1 (by rw [mσ3]; exact t2) ?_
  refine s_iconst (v := 2) dX9_time_9 (by decide) ?_
  obtain ⟨a4, ea4, h⟩ := h
  obtain ⟨n6, t5, h⟩ := h
  obtain ⟨c7, h⟩ := h
  refine t_iald gk dX9_time_10 ea4 (by rw [mσ3]; exact t5) c7 ?_
  exact s_ireturn dX9_time_11 rfl rfl (by decide) (by decide) h
theorem eX9_time {G : GG} (gk : GOK G) {σ : Mm} {K : RES → Mm → Prop} {x0 : Option Nat}
    (h : ∃ a1, x0 = some a1 ∧ (mt σ a1).1 = 10 ∧ ∀ σ3, σ3 = si σ a1 6 (0 : Int32) → ∃ a4, mr σ3 a1 0 = some a4 ∧ ∃ n6, mt σ a4 = (50, n6) ∧ vp_in (2 : Int32) n6 ∧ K (.inl (some (vI (mi σ3 a4 (2 : Int32).toNatClampNeg)))) σ3) : Runs G mX9_time rX9_time [(vR x0)] σ K := Runs.of (by decide) rfl (Nat.le_of_ble_eq_true rfl) (vX9_time_0 gk h)
theorem vX9_warmingCount_0 {G : GG} (gk : GOK G) {σ : Mm} {K : RES → Mm → Prop} {x0 : Option Nat}
    (h : ∃ a1, x0 = some a1 ∧ (mt σ a1).1 = 10 ∧ ∀ σ3, σ3 = si σ a1 6 (0 : Int32) → ∃ a4, mr σ3 a1 0 = some a4 ∧ ∃ n6, mt σ a4 = (50, n6) ∧ vp_in (1 : Int32) n6 ∧ K (.inl (some (vI (mi σ3 a4 (1 : Int32).toNatClampNeg)))) σ3) : At G mX9_warmingCount rX9_warmingCount 0 0 0 [some (vR x0)] [] σ K := by
  refine s_aload_n (i := 0) dX9_warmingCount_0 rfl rfl ?_
  refine s_iconst (v := 0) dX9_warmingCount_1 (by decide) ?_
  obtain ⟨a1, ea1, h⟩ := h
  obtain ⟨t2, h⟩ := h
  refine t_putI gk dX9_warmingCount_2 fX9_39 rfl rfl ea1 t2 ⟨rfl, rfl⟩ (fun σ3 eσ3 mσ3 => ?_)
  replace h := h σ3 eσ3
  refine s_aload_n (i := 0) dX9_warmingCount_5 rfl rfl ?_
  refine t_getR gk dX9_warmingCount_6 fX9_9 rfl ea1 (by rw [mσ3]; exact t2) ?_
  refine s_iconst (v := 1) dX9_warmingCount_9 (by decide) ?_
  obtain ⟨a4, ea4, h⟩ := h
  obtain ⟨n6, t5, h⟩ := h
  obtain ⟨c7, h⟩ := h
  refine t_iald gk dX9_warmingCount_10 ea4 (by rw [mσ3]; exact t5) c7 ?_
  exact s_ireturn dX9_warmingCount_11 rfl rfl (by decide) (by decide) h
theorem eX9_warmingCount {G : GG} (gk : GOK G) {σ : Mm} {K : RES → Mm → Prop} {x0 : Option Nat}
    (h : ∃ a1, x0 = some a1 ∧ (mt σ a1).1 = 10 ∧ ∀ σ3, σ3 = si σ a1 6 (0 : Int32) → ∃ a4, mr σ3 a1 0 = some a4 ∧ ∃ n6, mt σ a4 = (50, n6) ∧ vp_in (1 : Int32) n6 ∧ K (.inl (some (vI (mi σ3 a4 (1 : Int32).toNatClampNeg)))) σ3) : Runs G mX9_warmingCount rX9_warmingCount [(vR x0)] σ K := Runs.of (by decide) rfl (Nat.le_of_ble_eq_true rfl) (vX9_warmingCount_0 gk h)
theorem vX9_warmingMinute_0 {G : GG} (gk : GOK G) {σ : Mm} {K : RES → Mm → Prop} {x0 : Option Nat} {x1 : Int32}
    (h : ∃ a1, x0 = some a1 ∧ (mt σ a1).1 = 10 ∧ Runs G mX9_isWarming rX9_isWarming [(vR x0), (vI x1)] σ (bk G mX9_warmingMinute rX9_warmingMinute 0 0 6 [some (vR x0), some (vI x1)] [(vR x0)] K)) : At G mX9_warmingMinute rX9_warmingMinute 0 0 0 [some (vR x0), some (vI x1)] [] σ K := by
  refine s_aload_n (i := 0) dX9_warmingMinute_0 rfl rfl ?_
  refine s_aload_n (i := 0) dX9_warmingMinute_1 rfl rfl ?_
  refine s_iload_n (i := 1) dX9_warmingMinute_2 rfl rfl ?_
  obtain ⟨a1, ea1, h⟩ := h
  obtain ⟨t2, h⟩ := h
  exact t_callV (ci := 9) (as := [(vI x1)]) (S := [(vR x0)]) gk dX9_warmingMinute_3 gX9_154 (by decide) rfl w_1827 wp_33 ea1 t2 rfl rfl (Nat.le_of_ble_eq_true rfl) (by decide) h
theorem eX9_warmingMinute {G : GG} (gk : GOK G) {σ : Mm} {K : RES → Mm → Prop} {x0 : Option Nat} {x1 : Int32}
    (h : ∃ a1, x0 = some a1 ∧ (mt σ a1).1 = 10 ∧ Runs G mX9_isWarming rX9_isWarming [(vR x0), (vI x1)] σ (bk G mX9_warmingMinute rX9_warmingMinute 0 0 6 [some (vR x0), some (vI x1)] [(vR x0)] K)) : Runs G mX9_warmingMinute rX9_warmingMinute [(vR x0), (vI x1)] σ K := Runs.of (by decide) rfl (Nat.le_of_ble_eq_true rfl) (vX9_warmingMinute_0 gk h)
theorem vX9_warmingMinute_6 {G : GG} (gk : GOK G) {σ : Mm} {K : RES → Mm → Prop} {x0 : Option Nat} {x1 : Int32} {s0 : Int32} {s1 : Option Nat}
    (h : ∃ a1, s1 = some a1 ∧ (mt σ a1).1 = 10 ∧ Runs G mX9_isThere rX9_isThere [(vR s1), (vI s0)] σ (bk G mX9_warmingMinute rX9_warmingMinute 0 0 9 [some (vR x0), some (vI x1)] [] K)) : At G mX9_warmingMinute rX9_warmingMinute 0 0 6 [some (vR x0), some (vI x1)] [(vI s0), (vR s1)] σ K := by
  obtain ⟨a1, ea1, h⟩ := h
  obtain ⟨t2, h⟩ := h
  exact t_callV (ci := 9) (as := [(vI s0)]) (S := []) gk dX9_warmingMinute_6 gX9_114 (by decide) rfl w_1665 wp_17 ea1 t2 rfl rfl (Nat.le_of_ble_eq_true rfl) (by decide) h
theorem vX9_warmingMinute_9 {G : GG} (gk : GOK G) {σ : Mm} {K : RES → Mm → Prop} {x0 : Option Nat} {x1 : Int32} {s0 : Int32}
    (h : ((s0 = 0 → K (.inl (some (vI (0 : Int32)))) σ) ∧ (¬ s0 = 0 → ∃ a2, x0 = some a2 ∧ (mt σ a2).1 = 10 ∧ ∃ a4, mr σ a2 0 = some a4 ∧ ∃ n6, mt σ a4 = (50, n6) ∧ vp_in ((834 : Int32) + ((3 : Int32) * x1)) n6 ∧ K (.inl (some (vI (mi σ a4 ((834 : Int32) + ((3 : Int32) * x1)).toNatClampNeg)))) σ))) : At G mX9_warmingMinute rX9_warmingMinute 0 0 9 [some (vR x0), some (vI x1)] [(vI s0)] σ K := by
  refine s_if_eq (tgt := 27) dX9_warmingMinute_9 (by decide) (fun q1 => ?_) (fun q1 => ?_)
  · have h := h.1 q1
    refine s_iconst (v := 0) dX9_warmingMinute_27 (by decide) ?_
    exact s_ireturn dX9_warmingMinute_28 rfl rfl (by decide) (by decide) h
  · have h := h.2 q1
    refine s_aload_n (i := 0) dX9_warmingMinute_12 rfl rfl ?_
    obtain ⟨a2, ea2, h⟩ := h
    obtain ⟨t3, h⟩ := h
    refine t_getR gk dX9_warmingMinute_13 fX9_9 rfl ea2 t3 ?_
    refine s_sipush (v := 834) dX9_warmingMinute_16 (by decide) ?_
    refine s_iconst (v := 3) dX9_warmingMinute_19 (by decide) ?_
    refine s_iload_n (i := 1) dX9_warmingMinute_20 rfl rfl ?_
    refine s_imul dX9_warmingMinute_21 ?_
    refine s_iadd dX9_warmingMinute_22 ?_
    obtain ⟨a4, ea4, h⟩ := h
    obtain ⟨n6, t5, h⟩ := h
    obtain ⟨c7, h⟩ := h
    refine t_iald gk dX9_warmingMinute_23 ea4 t5 c7 ?_
    refine s_goto (tgt := 28) dX9_warmingMinute_24 (by decide) ?_
    exact s_ireturn dX9_warmingMinute_28 rfl rfl (by decide) (by decide) h
theorem vX9_warmingJar_0 {G : GG} (gk : GOK G) {σ : Mm} {K : RES → Mm → Prop} {x0 : Option Nat} {x1 : Int32}
    (h : ∃ a1, x0 = some a1 ∧ (mt σ a1).1 = 10 ∧ Runs G mX9_isWarming rX9_isWarming [(vR x0), (vI x1)] σ (bk G mX9_warmingJar rX9_warmingJar 0 0 6 [some (vR x0), some (vI x1)] [(vR x0)] K)) : At G mX9_warmingJar rX9_warmingJar 0 0 0 [some (vR x0), some (vI x1)] [] σ K := by
  refine s_aload_n (i := 0) dX9_warmingJar_0 rfl rfl ?_
  refine s_aload_n (i := 0) dX9_warmingJar_1 rfl rfl ?_
  refine s_iload_n (i := 1) dX9_warmingJar_2 rfl rfl ?_
  obtain ⟨a1, ea1, h⟩ := h
  obtain ⟨t2, h⟩ := h
  exact t_callV (ci := 9) (as := [(vI x1)]) (S := [(vR x0)]) gk dX9_warmingJar_3 gX9_154 (by decide) rfl w_1827 wp_33 ea1 t2 rfl rfl (Nat.le_of_ble_eq_true rfl) (by decide) h
theorem eX9_warmingJar {G : GG} (gk : GOK G) {σ : Mm} {K : RES → Mm → Prop} {x0 : Option Nat} {x1 : Int32}
    (h : ∃ a1, x0 = some a1 ∧ (mt σ a1).1 = 10 ∧ Runs G mX9_isWarming rX9_isWarming [(vR x0), (vI x1)] σ (bk G mX9_warmingJar rX9_warmingJar 0 0 6 [some (vR x0), some (vI x1)] [(vR x0)] K)) : Runs G mX9_warmingJar rX9_warmingJar [(vR x0), (vI x1)] σ K := Runs.of (by decide) rfl (Nat.le_of_ble_eq_true rfl) (vX9_warmingJar_0 gk h)
theorem vX9_warmingJar_6 {G : GG} (gk : GOK G) {σ : Mm} {K : RES → Mm → Prop} {x0 : Option Nat} {x1 : Int32} {s0 : Int32} {s1 : Option Nat}
    (h : ∃ a1, s1 = some a1 ∧ (mt σ a1).1 = 10 ∧ Runs G mX9_isThere rX9_isThere [(vR s1), (vI s0)] σ (bk G mX9_warmingJar rX9_warmingJar 0 0 9 [some (vR x0), some (vI x1)] [] K)) : At G mX9_warmingJar rX9_warmingJar 0 0 6 [some (vR x0), some (vI x1)] [(vI s0), (vR s1)] σ K := by
  obtain ⟨a1, ea1, h⟩ := h
  obtain ⟨t2, h⟩ := h
  exact t_callV (ci := 9) (as := [(vI s0)]) (S := []) gk dX9_warmingJar_6 gX9_114 (by decide) rfl w_1665 wp_17 ea1 t2 rfl rfl (Nat.le_of_ble_eq_true rfl) (by decide) h
theorem vX9_warmingJar_9 {G : GG} (gk : GOK G) {σ : Mm} {K : RES → Mm → Prop} {x0 : Option Nat} {x1 : Int32} {s0 : Int32}
    (h : ((s0 = 0 → K (.inl (some (vI (32 : Int32)))) σ) ∧ (¬ s0 = 0 → ∃ a2, x0 = some a2 ∧ (mt σ a2).1 = 10 ∧ ∃ a4, mr σ a2 0 = some a4 ∧ ∃ n6, mt σ a4 = (50, n6) ∧ vp_in (((834 : Int32) + ((3 : Int32) * x1)) + (2 : Int32)) n6 ∧ isC (i2c (mi σ a4 (((834 : Int32) + ((3 : Int32) * x1)) + (2 : Int32)).toNatClampNeg)) ∧ K (.inl (some (vI (i2c (mi σ a4 (((834 : Int32) + ((3 : Int32) * x1)) + (2 : Int32)).toNatClampNeg))))) σ))) : At G mX9_warmingJar rX9_warmingJar 0 0 9 [some (vR x0), some (vI x1)] [(vI s0)] σ K := by
  refine s_if_eq (tgt := 30) dX9_warmingJar_9 (by decide) (fun q1 => ?_) (fun q1 => ?_)
  · have h := h.1 q1
    refine s_bipush (v := 32) dX9_warmingJar_30 (by decide) ?_
    exact s_ireturn dX9_warmingJar_32 rfl rfl (by decide) (by decide) h
  · have h := h.2 q1
    refine s_aload_n (i := 0) dX9_warmingJar_12 rfl rfl ?_
    obtain ⟨a2, ea2, h⟩ := h
    obtain ⟨t3, h⟩ := h
    refine t_getR gk dX9_warmingJar_13 fX9_9 rfl ea2 t3 ?_
    refine s_sipush (v := 834) dX9_warmingJar_16 (by decide) ?_
    refine s_iconst (v := 3) dX9_warmingJar_19 (by decide) ?_
    refine s_iload_n (i := 1) dX9_warmingJar_20 rfl rfl ?_
    refine s_imul dX9_warmingJar_21 ?_
    refine s_iadd dX9_warmingJar_22 ?_
    refine s_iconst (v := 2) dX9_warmingJar_23 (by decide) ?_
    refine s_iadd dX9_warmingJar_24 ?_
    obtain ⟨a4, ea4, h⟩ := h
    obtain ⟨n6, t5, h⟩ := h
    obtain ⟨c7, h⟩ := h
    refine t_iald gk dX9_warmingJar_25 ea4 t5 c7 ?_
    refine s_i2c (v := i2c (mi σ a4 (((834 : Int32) + ((3 : Int32) * x1)) + (2 : Int32)).toNatClampNeg)) dX9_warmingJar_26 rfl ?_
    refine s_goto (tgt := 32) dX9_warmingJar_27 (by decide) ?_
    obtain ⟨c8, h⟩ := h
    exact s_ireturn dX9_warmingJar_32 rfl (nf_c c8).1 (by decide) (by decide) h
theorem vX9_hits_0 {G : GG} (gk : GOK G) {σ : Mm} {K : RES → Mm → Prop} {x0 : Option Nat}
    (h : ∃ a1, x0 = some a1 ∧ (mt σ a1).1 = 10 ∧ ∀ σ3, σ3 = si σ a1 6 (0 : Int32) → ∃ a4, mr σ3 a1 0 = some a4 ∧ ∃ n6, mt σ a4 = (50, n6) ∧ vp_in (4 : Int32) n6 ∧ K (.inl (some (vI (mi σ3 a4 (4 : Int32).toNatClampNeg)))) σ3) : At G mX9_hits rX9_hits 0 0 0 [some (vR x0)] [] σ K := by
  refine s_aload_n (i := 0) dX9_hits_0 rfl rfl ?_
  refine s_iconst (v := 0) dX9_hits_1 (by decide) ?_
  obtain ⟨a1, ea1, h⟩ := h
  obtain ⟨t2, h⟩ := h
  refine t_putI gk dX9_hits_2 fX9_39 rfl rfl ea1 t2 ⟨rfl, rfl⟩ (fun σ3 eσ3 mσ3 => ?_)
  replace h := h σ3 eσ3
  refine s_aload_n (i := 0) dX9_hits_5 rfl rfl ?_
  refine t_getR gk dX9_hits_6 fX9_9 rfl ea1 (by rw [mσ3]; exact t2) ?_
  refine s_iconst (v := 4) dX9_hits_9 (by decide) ?_
  obtain ⟨a4, ea4, h⟩ := h
  obtain ⟨n6, t5, h⟩ := h
  obtain ⟨c7, h⟩ := h
  refine t_iald gk dX9_hits_10 ea4 (by rw [mσ3]; exact t5) c7 ?_
  exact s_ireturn dX9_hits_11 rfl rfl (by decide) (by decide) h
theorem eX9_hits {G : GG} (gk : GOK G) {σ : Mm} {K : RES → Mm → Prop} {x0 : Option Nat}
    (h : ∃ a1, x0 = some a1 ∧ (mt σ a1).1 = 10 ∧ ∀ σ3, σ3 = si σ a1 6 (0 : Int32) → ∃ a4, mr σ3 a1 0 = some a4 ∧ ∃ n6, mt σ a4 = (50, n6) ∧ vp_in (4 : Int32) n6 ∧ K (.inl (some (vI (mi σ3 a4 (4 : Int32).toNatClampNeg)))) σ3) : Runs G mX9_hits rX9_hits [(vR x0)] σ K := Runs.of (by decide) rfl (Nat.le_of_ble_eq_true rfl) (vX9_hits_0 gk h)
theorem vX9_misses_0 {G : GG} (gk : GOK G) {σ : Mm} {K : RES → Mm → Prop} {x0 : Option Nat} {x1 : Int32}
    (h : ((¬ x1 = (99 : Int32) → ((¬ x1 = (101 : Int32) → ((¬ x1 = (111 : Int32) → (((-1 : Int32) < 0 → ∃ a5, x0 = some a5 ∧ (mt σ a5).1 = 10 ∧ Runs G mX9_isThere rX9_isThere [(vR x0), (vI (0 : Int32))] σ (bk G mX9_misses rX9_misses 0 0 47 [some (vR x0), some (vI x1), some (vI (-1 : Int32))] [] K)) ∧ (¬ (-1 : Int32) < 0 → ∃ a7, x0 = some a7 ∧ (mt σ a7).1 = 10 ∧ Runs G mX9_isThere rX9_isThere [(vR x0), (vI (1 : Int32))] σ (bk G mX9_misses rX9_misses 0 0 47 [some (vR x0), some (vI x1), some (vI (-1 : Int32))] [] K)))) ∧ (x1 = (111 : Int32) → (((7 : Int32) < 0 → ∃ a10, x0 = some a10 ∧ (mt σ a10).1 = 10 ∧ Runs G mX9_isThere rX9_isThere [(vR x0), (vI (0 : Int32))] σ (bk G mX9_misses rX9_misses 0 0 47 [some (vR x0), some (vI x1), some (vI (7 : Int32))] [] K)) ∧ (¬ (7 : Int32) < 0 → ∃ a12, x0 = some a12 ∧ (mt σ a12).1 = 10 ∧ Runs G mX9_isThere rX9_isThere [(vR x0), (vI (1 : Int32))] σ (bk G mX9_misses rX9_misses 0 0 47 [some (vR x0), some (vI x1), some (vI (7 : Int32))] [] K)))))) ∧ (x1 = (101 : Int32) → (((6 : Int32) < 0 → ∃ a15, x0 = some a15 ∧ (mt σ a15).1 = 10 ∧ Runs G mX9_isThere rX9_isThere [(vR x0), (vI (0 : Int32))] σ (bk G mX9_misses rX9_misses 0 0 47 [some (vR x0), some (vI x1), some (vI (6 : Int32))] [] K)) ∧ (¬ (6 : Int32) < 0 → ∃ a17, x0 = some a17 ∧ (mt σ a17).1 = 10 ∧ Runs G mX9_isThere rX9_isThere [(vR x0), (vI (1 : Int32))] σ (bk G mX9_misses rX9_misses 0 0 47 [some (vR x0), some (vI x1), some (vI (6 : Int32))] [] K)))))) ∧ (x1 = (99 : Int32) → (((5 : Int32) < 0 → ∃ a20, x0 = some a20 ∧ (mt σ a20).1 = 10 ∧ Runs G mX9_isThere rX9_isThere [(vR x0), (vI (0 : Int32))] σ (bk G mX9_misses rX9_misses 0 0 47 [some (vR x0), some (vI x1), some (vI (5 : Int32))] [] K)) ∧ (¬ (5 : Int32) < 0 → ∃ a22, x0 = some a22 ∧ (mt σ a22).1 = 10 ∧ Runs G mX9_isThere rX9_isThere [(vR x0), (vI (1 : Int32))] σ (bk G mX9_misses rX9_misses 0 0 47 [some (vR x0), some (vI x1), some (vI (5 : Int32))] [] K)))))) : At G mX9_misses rX9_misses 0 0 0 [some (vR x0), some (vI x1), none] [] σ K := by
  refine s_iload_n (i := 1) dX9_misses_0 rfl rfl ?_
  refine s_bipush (v := 99) dX9_misses_1 (by decide) ?_
  refine s_icmp_ne (tgt := 10) dX9_misses_3 (by decide) (fun q1 => ?_) (fun q1 => ?_)
  · have h := h.1 q1
    refine s_iload_n (i := 1) dX9_misses_10 rfl rfl ?_
    refine s_bipush (v := 101) dX9_misses_11 (by decide) ?_
    refine s_icmp_ne (tgt := 21) dX9_misses_13 (by decide) (fun q2 => ?_) (fun q2 => ?_)
    · have h := h.1 q2
      refine s_iload_n (i := 1) dX9_misses_21 rfl rfl ?_
      refine s_bipush (v := 111) dX9_misses_22 (by decide) ?_
      refine s_icmp_ne (tgt := 32) dX9_misses_24 (by decide) (fun q3 => ?_) (fun q3 => ?_)
      · have h := h.1 q3
        refine s_iconst (v := -1) dX9_misses_32 (by decide) ?_
        refine s_istore_n (i := 2) (L' := [some (vR x0), some (vI x1), some (vI (-1 : Int32))]) dX9_misses_33 rfl rfl (by decide) rfl ?_
        refine s_aload_n (i := 0) dX9_misses_34 rfl rfl ?_
        refine s_iload_n (i := 2) dX9_misses_35 rfl rfl ?_
        refine s_if_lt (tgt := 43) dX9_misses_36 (by decide) (fun q4 => ?_) (fun q4 => ?_)
        · have h := h.1 q4
          refine s_iconst (v := 0) dX9_misses_43 (by decide) ?_
          obtain ⟨a5, ea5, h⟩ := h
          obtain ⟨t6, h⟩ := h
          exact t_callV (ci := 9) (as := [(vI (0 : Int32))]) (S := []) gk dX9_misses_44 gX9_114 (by decide) rfl w_1665 wp_17 ea5 t6 rfl rfl (Nat.le_of_ble_eq_true rfl) (by decide) h
        · have h := h.2 q4
          refine s_iconst (v := 1) dX9_misses_39 (by decide) ?_
          refine s_goto (tgt := 44) dX9_misses_40 (by decide) ?_
          obtain ⟨a7, ea7, h⟩ := h
          obtain ⟨t8, h⟩ := h
          exact t_callV (ci := 9) (as := [(vI (1 : Int32))]) (S := []) gk dX9_misses_44 gX9_114 (by decide) rfl w_1665 wp_17 ea7 t8 rfl rfl (Nat.le_of_ble_eq_true rfl) (by decide) h
      · have h := h.2 q3
        refine s_bipush (v := 7) dX9_misses_27 (by decide) ?_
        refine s_goto (tgt := 33) dX9_misses_29 (by decide) ?_
        refine s_istore_n (i := 2) (L' := [some (vR x0), some (vI x1), some (vI (7 : Int32))]) dX9_misses_33 rfl rfl (by decide) rfl ?_
        refine s_aload_n (i := 0) dX9_misses_34 rfl rfl ?_
        refine s_iload_n (i := 2) dX9_misses_35 rfl rfl ?_
        refine s_if_lt (tgt := 43) dX9_misses_36 (by decide) (fun q9 => ?_) (fun q9 => ?_)
        · have h := h.1 q9
          refine s_iconst (v := 0) dX9_misses_43 (by decide) ?_
          obtain ⟨a10, ea10, h⟩ := h
          obtain ⟨t11, h⟩ := h
          exact t_callV (ci := 9) (as := [(vI (0 : Int32))]) (S := []) gk dX9_misses_44 gX9_114 (by decide) rfl w_1665 wp_17 ea10 t11 rfl rfl (Nat.le_of_ble_eq_true rfl) (by decide) h
        · have h := h.2 q9
          refine s_iconst (v := 1) dX9_misses_39 (by decide) ?_
          refine s_goto (tgt := 44) dX9_misses_40 (by decide) ?_
          obtain ⟨a12, ea12, h⟩ := h
          obtain ⟨t13, h⟩ := h
          exact t_callV (ci := 9) (as := [(vI (1 : Int32))]) (S := []) gk dX9_misses_44 gX9_114 (by decide) rfl w_1665 wp_17 ea12 t13 rfl rfl (Nat.le_of_ble_eq_true rfl) (by decide) h
    · have h := h.2 q2
      refine s_bipush (v := 6) dX9_misses_16 (by decide) ?_
      refine s_goto (tgt := 33) dX9_misses_18 (by decide) ?_
      refine s_istore_n (i := 2) (L' := [some (vR x0), some (vI x1), some (vI (6 : Int32))]) dX9_misses_33 rfl rfl (by decide) rfl ?_
      refine s_aload_n (i := 0) dX9_misses_34 rfl rfl ?_
      refine s_iload_n (i := 2) dX9_misses_35 rfl rfl ?_
      refine s_if_lt (tgt := 43) dX9_misses_36 (by decide) (fun q14 => ?_) (fun q14 => ?_)
      · have h := h.1 q14
        refine s_iconst (v := 0) dX9_misses_43 (by decide) ?_
        obtain ⟨a15, ea15, h⟩ := h
        obtain ⟨t16, h⟩ := h
        exact t_callV (ci := 9) (as := [(vI (0 : Int32))]) (S := []) gk dX9_misses_44 gX9_114 (by decide) rfl w_1665 wp_17 ea15 t16 rfl rfl (Nat.le_of_ble_eq_true rfl) (by decide) h
      · have h := h.2 q14
        refine s_iconst (v := 1) dX9_misses_39 (by decide) ?_
        refine s_goto (tgt := 44) dX9_misses_40 (by decide) ?_
        obtain ⟨a17, ea17, h⟩ := h
        obtain ⟨t18, h⟩ := h
        exact t_callV (ci := 9) (as := [(vI (1 : Int32))]) (S := []) gk dX9_misses_44 gX9_114 (by decide) rfl w_1665 wp_17 ea17 t18 rfl rfl (Nat.le_of_ble_eq_true rfl) (by decide) h
  · have h := h.2 q1
    refine s_iconst (v := 5) dX9_misses_6 (by decide) ?_
    refine s_goto (tgt := 33) dX9_misses_7 (by decide) ?_
    refine s_istore_n (i := 2) (L' := [some (vR x0), some (vI x1), some (vI (5 : Int32))]) dX9_misses_33 rfl rfl (by decide) rfl ?_
    refine s_aload_n (i := 0) dX9_misses_34 rfl rfl ?_
    refine s_iload_n (i := 2) dX9_misses_35 rfl rfl ?_
    refine s_if_lt (tgt := 43) dX9_misses_36 (by decide) (fun q19 => ?_) (fun q19 => ?_)
    · have h := h.1 q19
      refine s_iconst (v := 0) dX9_misses_43 (by decide) ?_
      obtain ⟨a20, ea20, h⟩ := h
      obtain ⟨t21, h⟩ := h
      exact t_callV (ci := 9) (as := [(vI (0 : Int32))]) (S := []) gk dX9_misses_44 gX9_114 (by decide) rfl w_1665 wp_17 ea20 t21 rfl rfl (Nat.le_of_ble_eq_true rfl) (by decide) h
    · have h := h.2 q19
      refine s_iconst (v := 1) dX9_misses_39 (by decide) ?_
      refine s_goto (tgt := 44) dX9_misses_40 (by decide) ?_
      obtain ⟨a22, ea22, h⟩ := h
      obtain ⟨t23, h⟩ := h
      exact t_callV (ci := 9) (as := [(vI (1 : Int32))]) (S := []) gk dX9_misses_44 gX9_114 (by decide) rfl w_1665 wp_17 ea22 t23 rfl rfl (Nat.le_of_ble_eq_true rfl) (by decide) h
theorem eX9_misses {G : GG} (gk : GOK G) {σ : Mm} {K : RES → Mm → Prop} {x0 : Option Nat} {x1 : Int32}
    (h : ((¬ x1 = (99 : Int32) → ((¬ x1 = (101 : Int32) → ((¬ x1 = (111 : Int32) → (((-1 : Int32) < 0 → ∃ a5, x0 = some a5 ∧ (mt σ a5).1 = 10 ∧ Runs G mX9_isThere rX9_isThere [(vR x0), (vI (0 : Int32))] σ (bk G mX9_misses rX9_misses 0 0 47 [some (vR x0), some (vI x1), some (vI (-1 : Int32))] [] K)) ∧ (¬ (-1 : Int32) < 0 → ∃ a7, x0 = some a7 ∧ (mt σ a7).1 = 10 ∧ Runs G mX9_isThere rX9_isThere [(vR x0), (vI (1 : Int32))] σ (bk G mX9_misses rX9_misses 0 0 47 [some (vR x0), some (vI x1), some (vI (-1 : Int32))] [] K)))) ∧ (x1 = (111 : Int32) → (((7 : Int32) < 0 → ∃ a10, x0 = some a10 ∧ (mt σ a10).1 = 10 ∧ Runs G mX9_isThere rX9_isThere [(vR x0), (vI (0 : Int32))] σ (bk G mX9_misses rX9_misses 0 0 47 [some (vR x0), some (vI x1), some (vI (7 : Int32))] [] K)) ∧ (¬ (7 : Int32) < 0 → ∃ a12, x0 = some a12 ∧ (mt σ a12).1 = 10 ∧ Runs G mX9_isThere rX9_isThere [(vR x0), (vI (1 : Int32))] σ (bk G mX9_misses rX9_misses 0 0 47 [some (vR x0), some (vI x1), some (vI (7 : Int32))] [] K)))))) ∧ (x1 = (101 : Int32) → (((6 : Int32) < 0 → ∃ a15, x0 = some a15 ∧ (mt σ a15).1 = 10 ∧ Runs G mX9_isThere rX9_isThere [(vR x0), (vI (0 : Int32))] σ (bk G mX9_misses rX9_misses 0 0 47 [some (vR x0), some (vI x1), some (vI (6 : Int32))] [] K)) ∧ (¬ (6 : Int32) < 0 → ∃ a17, x0 = some a17 ∧ (mt σ a17).1 = 10 ∧ Runs G mX9_isThere rX9_isThere [(vR x0), (vI (1 : Int32))] σ (bk G mX9_misses rX9_misses 0 0 47 [some (vR x0), some (vI x1), some (vI (6 : Int32))] [] K)))))) ∧ (x1 = (99 : Int32) → (((5 : Int32) < 0 → ∃ a20, x0 = some a20 ∧ (mt σ a20).1 = 10 ∧ Runs G mX9_isThere rX9_isThere [(vR x0), (vI (0 : Int32))] σ (bk G mX9_misses rX9_misses 0 0 47 [some (vR x0), some (vI x1), some (vI (5 : Int32))] [] K)) ∧ (¬ (5 : Int32) < 0 → ∃ a22, x0 = some a22 ∧ (mt σ a22).1 = 10 ∧ Runs G mX9_isThere rX9_isThere [(vR x0), (vI (1 : Int32))] σ (bk G mX9_misses rX9_misses 0 0 47 [some (vR x0), some (vI x1), some (vI (5 : Int32))] [] K)))))) : Runs G mX9_misses rX9_misses [(vR x0), (vI x1)] σ K := Runs.of (by decide) rfl (Nat.le_of_ble_eq_true rfl) (vX9_misses_0 gk h)
theorem vX9_misses_47 {G : GG} (gk : GOK G) {σ : Mm} {K : RES → Mm → Prop} {x0 : Option Nat} {x1 : Int32} {x2 : Int32} {s0 : Int32}
    (h : ((s0 = 0 → K (.inl (some (vI (0 : Int32)))) σ) ∧ (¬ s0 = 0 → ∃ a2, x0 = some a2 ∧ (mt σ a2).1 = 10 ∧ ∃ a4, mr σ a2 0 = some a4 ∧ ∃ n6, mt σ a4 = (50, n6) ∧ vp_in x2 n6 ∧ K (.inl (some (vI (mi σ a4 x2.toNatClampNeg)))) σ))) : At G mX9_misses rX9_misses 0 0 47 [some (vR x0), some (vI x1), some (vI x2)] [(vI s0)] σ K := by
  refine s_if_eq (tgt := 59) dX9_misses_47 (by decide) (fun q1 => ?_) (fun q1 => ?_)
  · have h := h.1 q1
    refine s_iconst (v := 0) dX9_misses_59 (by decide) ?_
    exact s_ireturn dX9_misses_60 rfl rfl (by decide) (by decide) h
  · have h := h.2 q1
    refine s_aload_n (i := 0) dX9_misses_50 rfl rfl ?_
    obtain ⟨a2, ea2, h⟩ := h
    obtain ⟨t3, h⟩ := h
    refine t_getR gk dX9_misses_51 fX9_9 rfl ea2 t3 ?_
    refine s_iload_n (i := 2) dX9_misses_54 rfl rfl ?_
    obtain ⟨a4, ea4, h⟩ := h
    obtain ⟨n6, t5, h⟩ := h
    obtain ⟨c7, h⟩ := h
    refine t_iald gk dX9_misses_55 ea4 t5 c7 ?_
    refine s_goto (tgt := 60) dX9_misses_56 (by decide) ?_
    exact s_ireturn dX9_misses_60 rfl rfl (by decide) (by decide) h
theorem vX9_hitShare_0 {G : GG} (gk : GOK G) {σ : Mm} {K : RES → Mm → Prop} {x0 : Option Nat}
    (h : ∃ a1, x0 = some a1 ∧ (mt σ a1).1 = 10 ∧ ∃ a3, mr σ a1 0 = some a3 ∧ ∃ n5, mt σ a3 = (50, n5) ∧ vp_in (4 : Int32) n5 ∧ vp_in (5 : Int32) n5 ∧ vp_in (6 : Int32) n5 ∧ vp_in (7 : Int32) n5 ∧ ((((((mi σ a3 (4 : Int32).toNatClampNeg) + (mi σ a3 (5 : Int32).toNatClampNeg)) + (mi σ a3 (6 : Int32).toNatClampNeg)) + (mi σ a3 (7 : Int32).toNatClampNeg)) ≤ 0 → Runs G mX9_isThere rX9_isThere [(vR x0), (vI (0 : Int32))] σ (bk G mX9_hitShare rX9_hitShare 0 0 43 [some (vR x0), some (vI ((((mi σ a3 (4 : Int32).toNatClampNeg) + (mi σ a3 (5 : Int32).toNatClampNeg)) + (mi σ a3 (6 : Int32).toNatClampNeg)) + (mi σ a3 (7 : Int32).toNatClampNeg)))] [] K)) ∧ (¬ ((((mi σ a3 (4 : Int32).toNatClampNeg) + (mi σ a3 (5 : Int32).toNatClampNeg)) + (mi σ a3 (6 : Int32).toNatClampNeg)) + (mi σ a3 (7 : Int32).toNatClampNeg)) ≤ 0 → Runs G mX9_isThere rX9_isThere [(vR x0), (vI (1 : Int32))] σ (bk G mX9_hitShare rX9_hitShare 0 0 43 [some (vR x0), some (vI ((((mi σ a3 (4 : Int32).toNatClampNeg) + (mi σ a3 (5 : Int32).toNatClampNeg)) + (mi σ a3 (6 : Int32).toNatClampNeg)) + (mi σ a3 (7 : Int32).toNatClampNeg)))] [] K)))) : At G mX9_hitShare rX9_hitShare 0 0 0 [some (vR x0), none] [] σ K := by
  refine s_aload_n (i := 0) dX9_hitShare_0 rfl rfl ?_
  obtain ⟨a1, ea1, h⟩ := h
  obtain ⟨t2, h⟩ := h
  refine t_getR gk dX9_hitShare_1 fX9_9 rfl ea1 t2 ?_
  refine s_iconst (v := 4) dX9_hitShare_4 (by decide) ?_
  obtain ⟨a3, ea3, h⟩ := h
  obtain ⟨n5, t4, h⟩ := h
  obtain ⟨c6, h⟩ := h
  refine t_iald gk dX9_hitShare_5 ea3 t4 c6 ?_
  refine s_aload_n (i := 0) dX9_hitShare_6 rfl rfl ?_
  refine t_getR gk dX9_hitShare_7 fX9_9 rfl ea1 t2 ?_
  refine s_iconst (v := 5) dX9_hitShare_10 (by decide) ?_
  obtain ⟨c7, h⟩ := h
  refine t_iald gk dX9_hitShare_11 ea3 t4 c7 ?_
  refine s_iadd dX9_hitShare_12 ?_
  refine s_aload_n (i := 0) dX9_hitShare_13 rfl rfl ?_
  refine t_getR gk dX9_hitShare_14 fX9_9 rfl ea1 t2 ?_
  refine s_bipush (v := 6) dX9_hitShare_17 (by decide) ?_
  obtain ⟨c8, h⟩ := h
  refine t_iald gk dX9_hitShare_19 ea3 t4 c8 ?_
  refine s_iadd dX9_hitShare_20 ?_
  refine s_aload_n (i := 0) dX9_hitShare_21 rfl rfl ?_
  refine t_getR gk dX9_hitShare_22 fX9_9 rfl ea1 t2 ?_
  refine s_bipush (v := 7) dX9_hitShare_25 (by decide) ?_
  obtain ⟨c9, h⟩ := h
  refine t_iald gk dX9_hitShare_27 ea3 t4 c9 ?_
  refine s_iadd dX9_hitShare_28 ?_
  refine s_istore_n (i := 1) (L' := [some (vR x0), some (vI ((((mi σ a3 (4 : Int32).toNatClampNeg) + (mi σ a3 (5 : Int32).toNatClampNeg)) + (mi σ a3 (6 : Int32).toNatClampNeg)) + (mi σ a3 (7 : Int32).toNatClampNeg)))]) dX9_hitShare_29 rfl rfl (by decide) rfl ?_
  refine s_aload_n (i := 0) dX9_hitShare_30 rfl rfl ?_
  refine s_iload_n (i := 1) dX9_hitShare_31 rfl rfl ?_
  refine s_if_le (tgt := 39) dX9_hitShare_32 (by decide) (fun q10 => ?_) (fun q10 => ?_)
  · have h := h.1 q10
    refine s_iconst (v := 0) dX9_hitShare_39 (by decide) ?_
    exact t_callV (ci := 9) (as := [(vI (0 : Int32))]) (S := []) gk dX9_hitShare_40 gX9_114 (by decide) rfl w_1665 wp_17 ea1 t2 rfl rfl (Nat.le_of_ble_eq_true rfl) (by decide) h
  · have h := h.2 q10
    refine s_iconst (v := 1) dX9_hitShare_35 (by decide) ?_
    refine s_goto (tgt := 40) dX9_hitShare_36 (by decide) ?_
    exact t_callV (ci := 9) (as := [(vI (1 : Int32))]) (S := []) gk dX9_hitShare_40 gX9_114 (by decide) rfl w_1665 wp_17 ea1 t2 rfl rfl (Nat.le_of_ble_eq_true rfl) (by decide) h
theorem eX9_hitShare {G : GG} (gk : GOK G) {σ : Mm} {K : RES → Mm → Prop} {x0 : Option Nat}
    (h : ∃ a1, x0 = some a1 ∧ (mt σ a1).1 = 10 ∧ ∃ a3, mr σ a1 0 = some a3 ∧ ∃ n5, mt σ a3 = (50, n5) ∧ vp_in (4 : Int32) n5 ∧ vp_in (5 : Int32) n5 ∧ vp_in (6 : Int32) n5 ∧ vp_in (7 : Int32) n5 ∧ ((((((mi σ a3 (4 : Int32).toNatClampNeg) + (mi σ a3 (5 : Int32).toNatClampNeg)) + (mi σ a3 (6 : Int32).toNatClampNeg)) + (mi σ a3 (7 : Int32).toNatClampNeg)) ≤ 0 → Runs G mX9_isThere rX9_isThere [(vR x0), (vI (0 : Int32))] σ (bk G mX9_hitShare rX9_hitShare 0 0 43 [some (vR x0), some (vI ((((mi σ a3 (4 : Int32).toNatClampNeg) + (mi σ a3 (5 : Int32).toNatClampNeg)) + (mi σ a3 (6 : Int32).toNatClampNeg)) + (mi σ a3 (7 : Int32).toNatClampNeg)))] [] K)) ∧ (¬ ((((mi σ a3 (4 : Int32).toNatClampNeg) + (mi σ a3 (5 : Int32).toNatClampNeg)) + (mi σ a3 (6 : Int32).toNatClampNeg)) + (mi σ a3 (7 : Int32).toNatClampNeg)) ≤ 0 → Runs G mX9_isThere rX9_isThere [(vR x0), (vI (1 : Int32))] σ (bk G mX9_hitShare rX9_hitShare 0 0 43 [some (vR x0), some (vI ((((mi σ a3 (4 : Int32).toNatClampNeg) + (mi σ a3 (5 : Int32).toNatClampNeg)) + (mi σ a3 (6 : Int32).toNatClampNeg)) + (mi σ a3 (7 : Int32).toNatClampNeg)))] [] K)))) : Runs G mX9_hitShare rX9_hitShare [(vR x0)] σ K := Runs.of (by decide) rfl (Nat.le_of_ble_eq_true rfl) (vX9_hitShare_0 gk h)
theorem vX9_hitShare_43 {G : GG} (gk : GOK G) {σ : Mm} {K : RES → Mm → Prop} {x0 : Option Nat} {x1 : Int32} {s0 : Int32}
    (h : ((s0 = 0 → K (.inl (some (vF FP.fconst0))) σ) ∧ (¬ s0 = 0 → ∃ a2, x0 = some a2 ∧ (mt σ a2).1 = 10 ∧ ∃ a4, mr σ a2 0 = some a4 ∧ ∃ n6, mt σ a4 = (50, n6) ∧ vp_in (4 : Int32) n6 ∧ vf_n32 (FP.fdiv (FP.i2f (mi σ a4 (4 : Int32).toNatClampNeg)) (FP.i2f x1)) ∧ K (.inl (some (vF (FP.fdiv (FP.i2f (mi σ a4 (4 : Int32).toNatClampNeg)) (FP.i2f x1))))) σ))) : At G mX9_hitShare rX9_hitShare 0 0 43 [some (vR x0), some (vI x1)] [(vI s0)] σ K := by
  refine s_if_eq (tgt := 59) dX9_hitShare_43 (by decide) (fun q1 => ?_) (fun q1 => ?_)
  · have h := h.1 q1
    refine s_fconst0 dX9_hitShare_59 ?_
    exact s_freturn dX9_hitShare_60 rfl (by decide) (by decide) h
  · have h := h.2 q1
    refine s_aload_n (i := 0) dX9_hitShare_46 rfl rfl ?_
    obtain ⟨a2, ea2, h⟩ := h
    obtain ⟨t3, h⟩ := h
    refine t_getR gk dX9_hitShare_47 fX9_9 rfl ea2 t3 ?_
    refine s_iconst (v := 4) dX9_hitShare_50 (by decide) ?_
    obtain ⟨a4, ea4, h⟩ := h
    obtain ⟨n6, t5, h⟩ := h
    obtain ⟨c7, h⟩ := h
    refine t_iald gk dX9_hitShare_51 ea4 t5 c7 ?_
    refine s_i2f dX9_hitShare_52 ?_
    refine s_iload_n (i := 1) dX9_hitShare_53 rfl rfl ?_
    refine s_i2f dX9_hitShare_54 ?_
    obtain ⟨c8, h⟩ := h
    refine s_fdiv dX9_hitShare_55 c8 ?_
    refine s_goto (tgt := 60) dX9_hitShare_56 (by decide) ?_
    exact s_freturn dX9_hitShare_60 rfl (by decide) (by decide) h
theorem vX9_meanAge_0 {G : GG} (gk : GOK G) {σ : Mm} {K : RES → Mm → Prop} {x0 : Option Nat}
    (h : At G mX9_meanAge rX9_meanAge 0 0 6 [some (vR x0), some (vI (0 : Int32)), some (vI (0 : Int32)), some (vI (0 : Int32)), none] [] σ K) : At G mX9_meanAge rX9_meanAge 0 0 0 [some (vR x0), none, none, none, none] [] σ K := by
  refine s_iconst (v := 0) dX9_meanAge_0 (by decide) ?_
  refine s_istore_n (i := 1) (L' := [some (vR x0), some (vI (0 : Int32)), none, none, none]) dX9_meanAge_1 rfl rfl (by decide) rfl ?_
  refine s_iconst (v := 0) dX9_meanAge_2 (by decide) ?_
  refine s_istore_n (i := 2) (L' := [some (vR x0), some (vI (0 : Int32)), some (vI (0 : Int32)), none, none]) dX9_meanAge_3 rfl rfl (by decide) rfl ?_
  refine s_iconst (v := 0) dX9_meanAge_4 (by decide) ?_
  refine s_istore_n (i := 3) (L' := [some (vR x0), some (vI (0 : Int32)), some (vI (0 : Int32)), some (vI (0 : Int32)), none]) dX9_meanAge_5 rfl rfl (by decide) rfl ?_
  exact h
theorem eX9_meanAge {G : GG} (gk : GOK G) {σ : Mm} {K : RES → Mm → Prop} {x0 : Option Nat}
    (h : At G mX9_meanAge rX9_meanAge 0 0 6 [some (vR x0), some (vI (0 : Int32)), some (vI (0 : Int32)), some (vI (0 : Int32)), none] [] σ K) : Runs G mX9_meanAge rX9_meanAge [(vR x0)] σ K := Runs.of (by decide) rfl (Nat.le_of_ble_eq_true rfl) (vX9_meanAge_0 gk h)
theorem vX9_meanAge_6 {G : GG} (gk : GOK G) {σ : Mm} {K : RES → Mm → Prop} {x0 : Option Nat} {x1 : Int32} {x2 : Int32} {x3 : Int32}
    (h : ∃ a1, x0 = some a1 ∧ (mt σ a1).1 = 10 ∧ ∃ a3, mr σ a1 0 = some a3 ∧ ∃ n5, mt σ a3 = (50, n5) ∧ vp_in (0 : Int32) n5 ∧ (((mi σ a3 (0 : Int32).toNatClampNeg) ≤ x3 → ((x1 ≤ 0 → Runs G mX9_isThere rX9_isThere [(vR x0), (vI (0 : Int32))] σ (bk G mX9_meanAge rX9_meanAge 0 0 94 [some (vR x0), some (vI x1), some (vI x2), some (vI x3), none] [] K)) ∧ (¬ x1 ≤ 0 → Runs G mX9_isThere rX9_isThere [(vR x0), (vI (1 : Int32))] σ (bk G mX9_meanAge rX9_meanAge 0 0 94 [some (vR x0), some (vI x1), some (vI x2), some (vI x3), none] [] K)))) ∧ (¬ (mi σ a3 (0 : Int32).toNatClampNeg) ≤ x3 → At G mX9_meanAge rX9_meanAge 0 0 20 [some (vR x0), some (vI x1), some (vI x2), some (vI x3), some (vI (97 : Int32))] [] σ K))) : At G mX9_meanAge rX9_meanAge 0 0 6 [some (vR x0), some (vI x1), some (vI x2), some (vI x3), none] [] σ K := by
  refine s_iload_n (i := 3) dX9_meanAge_6 rfl rfl ?_
  refine s_aload_n (i := 0) dX9_meanAge_7 rfl rfl ?_
  obtain ⟨a1, ea1, h⟩ := h
  obtain ⟨t2, h⟩ := h
  refine t_getR gk dX9_meanAge_8 fX9_9 rfl ea1 t2 ?_
  refine s_iconst (v := 0) dX9_meanAge_11 (by decide) ?_
  obtain ⟨a3, ea3, h⟩ := h
  obtain ⟨n5, t4, h⟩ := h
  obtain ⟨c6, h⟩ := h
  refine t_iald gk dX9_meanAge_12 ea3 t4 c6 ?_
  refine s_icmp_ge (tgt := 81) dX9_meanAge_13 (by decide) (fun q7 => ?_) (fun q7 => ?_)
  · have h := h.1 q7
    refine s_aload_n (i := 0) dX9_meanAge_81 rfl rfl ?_
    refine s_iload_n (i := 1) dX9_meanAge_82 rfl rfl ?_
    refine s_if_le (tgt := 90) dX9_meanAge_83 (by decide) (fun q8 => ?_) (fun q8 => ?_)
    · have h := h.1 q8
      refine s_iconst (v := 0) dX9_meanAge_90 (by decide) ?_
      exact t_callV (ci := 9) (as := [(vI (0 : Int32))]) (S := []) gk dX9_meanAge_91 gX9_114 (by decide) rfl w_1665 wp_17 ea1 t2 rfl rfl (Nat.le_of_ble_eq_true rfl) (by decide) h
    · have h := h.2 q8
      refine s_iconst (v := 1) dX9_meanAge_86 (by decide) ?_
      refine s_goto (tgt := 91) dX9_meanAge_87 (by decide) ?_
      exact t_callV (ci := 9) (as := [(vI (1 : Int32))]) (S := []) gk dX9_meanAge_91 gX9_114 (by decide) rfl w_1665 wp_17 ea1 t2 rfl rfl (Nat.le_of_ble_eq_true rfl) (by decide) h
  · have h := h.2 q7
    refine s_bipush (v := 97) dX9_meanAge_16 (by decide) ?_
    refine s_istore (L' := [some (vR x0), some (vI x1), some (vI x2), some (vI x3), some (vI (97 : Int32))]) dX9_meanAge_18 rfl (by decide) rfl ?_
    exact h
theorem vX9_meanAge_20 {G : GG} (gk : GOK G) {σ : Mm} {K : RES → Mm → Prop} {x0 : Option Nat} {x1 : Int32} {x2 : Int32} {x3 : Int32} {x4 : Int32}
    (h : (((122 : Int32) < x4 → At G mX9_meanAge rX9_meanAge 0 0 6 [some (vR x0), some (vI x1), some (vI x2), some (vI (x3 + 1)), none] [] σ K) ∧ (¬ (122 : Int32) < x4 → ∃ a2, x0 = some a2 ∧ (mt σ a2).1 = 10 ∧ Runs G mX9_isEcho rX9_isEcho [(vR x0), (vI x3), (vI x4)] σ (bk G mX9_meanAge rX9_meanAge 0 0 35 [some (vR x0), some (vI x1), some (vI x2), some (vI x3), some (vI x4)] [(vI x1)] K)))) : At G mX9_meanAge rX9_meanAge 0 0 20 [some (vR x0), some (vI x1), some (vI x2), some (vI x3), some (vI x4)] [] σ K := by
  refine s_iload dX9_meanAge_20 rfl ?_
  refine s_bipush (v := 122) dX9_meanAge_22 (by decide) ?_
  refine s_icmp_gt (tgt := 75) dX9_meanAge_24 (by decide) (fun q1 => ?_) (fun q1 => ?_)
  · have h := h.1 q1
    refine s_iinc (v := x3 + 1) (L' := [some (vR x0), some (vI x1), some (vI x2), some (vI (x3 + 1)), some (vI x4)]) dX9_meanAge_75 rfl rfl rfl (by decide) rfl ?_
    refine s_goto (tgt := 6) dX9_meanAge_78 (by decide) ?_
    exact h.msk ⟨rfl, ⟨rfl, ⟨rfl, ⟨rfl, trivial⟩⟩⟩⟩
  · have h := h.2 q1
    refine s_iload_n (i := 1) dX9_meanAge_27 rfl rfl ?_
    refine s_aload_n (i := 0) dX9_meanAge_28 rfl rfl ?_
    refine s_iload_n (i := 3) dX9_meanAge_29 rfl rfl ?_
    refine s_iload dX9_meanAge_30 rfl ?_
    obtain ⟨a2, ea2, h⟩ := h
    obtain ⟨t3, h⟩ := h
    exact t_callV (ci := 9) (as := [(vI x3), (vI x4)]) (S := [(vI x1)]) gk dX9_meanAge_32 gX9_70 (by decide) rfl w_1721 wp_22 ea2 t3 rfl rfl (Nat.le_of_ble_eq_true rfl) (by decide) h
theorem vX9_meanAge_35 {G : GG} (gk : GOK G) {σ : Mm} {K : RES → Mm → Prop} {x0 : Option Nat} {x1 : Int32} {x2 : Int32} {x3 : Int32} {x4 : Int32} {s0 : Int32} {s1 : Int32}
    (h : ((s0 = 0 → ∃ a2, x0 = some a2 ∧ (mt σ a2).1 = 10 ∧ Runs G mX9_isEcho rX9_isEcho [(vR x0), (vI x3), (vI x4)] σ (bk G mX9_meanAge rX9_meanAge 0 0 53 [some (vR x0), some (vI (s1 + (0 : Int32))), some (vI x2), some (vI x3), some (vI x4)] [(vI x2)] K)) ∧ (¬ s0 = 0 → ∃ a4, x0 = some a4 ∧ (mt σ a4).1 = 10 ∧ Runs G mX9_isEcho rX9_isEcho [(vR x0), (vI x3), (vI x4)] σ (bk G mX9_meanAge rX9_meanAge 0 0 53 [some (vR x0), some (vI (s1 + (1 : Int32))), some (vI x2), some (vI x3), some (vI x4)] [(vI x2)] K)))) : At G mX9_meanAge rX9_meanAge 0 0 35 [some (vR x0), some (vI x1), some (vI x2), some (vI x3), some (vI x4)] [(vI s0), (vI s1)] σ K := by
  refine s_if_eq (tgt := 42) dX9_meanAge_35 (by decide) (fun q1 => ?_) (fun q1 => ?_)
  · have h := h.1 q1
    refine s_iconst (v := 0) dX9_meanAge_42 (by decide) ?_
    refine s_iadd dX9_meanAge_43 ?_
    refine s_istore_n (i := 1) (L' := [some (vR x0), some (vI (s1 + (0 : Int32))), some (vI x2), some (vI x3), some (vI x4)]) dX9_meanAge_44 rfl rfl (by decide) rfl ?_
    refine s_iload_n (i := 2) dX9_meanAge_45 rfl rfl ?_
    refine s_aload_n (i := 0) dX9_meanAge_46 rfl rfl ?_
    refine s_iload_n (i := 3) dX9_meanAge_47 rfl rfl ?_
    refine s_iload dX9_meanAge_48 rfl ?_
    obtain ⟨a2, ea2, h⟩ := h
    obtain ⟨t3, h⟩ := h
    exact t_callV (ci := 9) (as := [(vI x3), (vI x4)]) (S := [(vI x2)]) gk dX9_meanAge_50 gX9_70 (by decide) rfl w_1721 wp_22 ea2 t3 rfl rfl (Nat.le_of_ble_eq_true rfl) (by decide) h
  · have h := h.2 q1
    refine s_iconst (v := 1) dX9_meanAge_38 (by decide) ?_
    refine s_goto (tgt := 43) dX9_meanAge_39 (by decide) ?_
    refine s_iadd dX9_meanAge_43 ?_
    refine s_istore_n (i := 1) (L' := [some (vR x0), some (vI (s1 + (1 : Int32))), some (vI x2), some (vI x3), some (vI x4)]) dX9_meanAge_44 rfl rfl (by decide) rfl ?_
    refine s_iload_n (i := 2) dX9_meanAge_45 rfl rfl ?_
    refine s_aload_n (i := 0) dX9_meanAge_46 rfl rfl ?_
    refine s_iload_n (i := 3) dX9_meanAge_47 rfl rfl ?_
    refine s_iload dX9_meanAge_48 rfl ?_
    obtain ⟨a4, ea4, h⟩ := h
    obtain ⟨t5, h⟩ := h
    exact t_callV (ci := 9) (as := [(vI x3), (vI x4)]) (S := [(vI x2)]) gk dX9_meanAge_50 gX9_70 (by decide) rfl w_1721 wp_22 ea4 t5 rfl rfl (Nat.le_of_ble_eq_true rfl) (by decide) h
theorem vX9_meanAge_53 {G : GG} (gk : GOK G) {σ : Mm} {K : RES → Mm → Prop} {x0 : Option Nat} {x1 : Int32} {x2 : Int32} {x3 : Int32} {x4 : Int32} {s0 : Int32} {s1 : Int32}
    (h : ((s0 = 0 → At G mX9_meanAge rX9_meanAge 0 0 20 [some (vR x0), some (vI x1), some (vI (s1 + (0 : Int32))), some (vI x3), some (vI (x4 + 1))] [] σ K) ∧ (¬ s0 = 0 → ∃ a2, x0 = some a2 ∧ (mt σ a2).1 = 10 ∧ Runs G mX9_age rX9_age [(vR x0), (vI x3), (vI x4)] σ (bk G mX9_meanAge rX9_meanAge 0 0 63 [some (vR x0), some (vI x1), some (vI x2), some (vI x3), some (vI x4)] [(vI s1)] K)))) : At G mX9_meanAge rX9_meanAge 0 0 53 [some (vR x0), some (vI x1), some (vI x2), some (vI x3), some (vI x4)] [(vI s0), (vI s1)] σ K := by
  refine s_if_eq (tgt := 66) dX9_meanAge_53 (by decide) (fun q1 => ?_) (fun q1 => ?_)
  · have h := h.1 q1
    refine s_iconst (v := 0) dX9_meanAge_66 (by decide) ?_
    refine s_iadd dX9_meanAge_67 ?_
    refine s_istore_n (i := 2) (L' := [some (vR x0), some (vI x1), some (vI (s1 + (0 : Int32))), some (vI x3), some (vI x4)]) dX9_meanAge_68 rfl rfl (by decide) rfl ?_
    refine s_iinc (v := x4 + 1) (L' := [some (vR x0), some (vI x1), some (vI (s1 + (0 : Int32))), some (vI x3), some (vI (x4 + 1))]) dX9_meanAge_69 rfl rfl rfl (by decide) rfl ?_
    refine s_goto (tgt := 20) dX9_meanAge_72 (by decide) ?_
    exact h
  · have h := h.2 q1
    refine s_aload_n (i := 0) dX9_meanAge_56 rfl rfl ?_
    refine s_iload_n (i := 3) dX9_meanAge_57 rfl rfl ?_
    refine s_iload dX9_meanAge_58 rfl ?_
    obtain ⟨a2, ea2, h⟩ := h
    obtain ⟨t3, h⟩ := h
    exact t_callV (ci := 9) (as := [(vI x3), (vI x4)]) (S := [(vI s1)]) gk dX9_meanAge_60 gX9_74 (by decide) rfl w_1745 wp_24 ea2 t3 rfl rfl (Nat.le_of_ble_eq_true rfl) (by decide) h
theorem vX9_meanAge_63 {G : GG} (gk : GOK G) {σ : Mm} {K : RES → Mm → Prop} {x0 : Option Nat} {x1 : Int32} {x2 : Int32} {x3 : Int32} {x4 : Int32} {s0 : Int32} {s1 : Int32}
    (h : At G mX9_meanAge rX9_meanAge 0 0 20 [some (vR x0), some (vI x1), some (vI (s1 + s0)), some (vI x3), some (vI (x4 + 1))] [] σ K) : At G mX9_meanAge rX9_meanAge 0 0 63 [some (vR x0), some (vI x1), some (vI x2), some (vI x3), some (vI x4)] [(vI s0), (vI s1)] σ K := by
  refine s_goto (tgt := 67) dX9_meanAge_63 (by decide) ?_
  refine s_iadd dX9_meanAge_67 ?_
  refine s_istore_n (i := 2) (L' := [some (vR x0), some (vI x1), some (vI (s1 + s0)), some (vI x3), some (vI x4)]) dX9_meanAge_68 rfl rfl (by decide) rfl ?_
  refine s_iinc (v := x4 + 1) (L' := [some (vR x0), some (vI x1), some (vI (s1 + s0)), some (vI x3), some (vI (x4 + 1))]) dX9_meanAge_69 rfl rfl rfl (by decide) rfl ?_
  refine s_goto (tgt := 20) dX9_meanAge_72 (by decide) ?_
  exact h
theorem vX9_meanAge_94 {G : GG} (gk : GOK G) {σ : Mm} {K : RES → Mm → Prop} {x0 : Option Nat} {x1 : Int32} {x2 : Int32} {x3 : Int32} {s0 : Int32}
    (h : ((s0 = 0 → K (.inl (some (vD FP.dconst0))) σ) ∧ (¬ s0 = 0 → vf_n64 (FP.ddiv (FP.i2d x2) (FP.i2d x1)) ∧ K (.inl (some (vD (FP.ddiv (FP.i2d x2) (FP.i2d x1))))) σ))) : At G mX9_meanAge rX9_meanAge 0 0 94 [some (vR x0), some (vI x1), some (vI x2), some (vI x3), none] [(vI s0)] σ K := by
  refine s_if_eq (tgt := 105) dX9_meanAge_94 (by decide) (fun q1 => ?_) (fun q1 => ?_)
  · have h := h.1 q1
    refine s_dconst0 dX9_meanAge_105 ?_
    exact s_dreturn dX9_meanAge_106 rfl (by decide) (by decide) h
  · have h := h.2 q1
    refine s_iload_n (i := 2) dX9_meanAge_97 rfl rfl ?_
    refine s_i2d dX9_meanAge_98 ?_
    refine s_iload_n (i := 1) dX9_meanAge_99 rfl rfl ?_
    refine s_i2d dX9_meanAge_100 ?_
    obtain ⟨c2, h⟩ := h
    refine s_ddiv dX9_meanAge_101 c2 ?_
    refine s_goto (tgt := 106) dX9_meanAge_102 (by decide) ?_
    exact s_dreturn dX9_meanAge_106 rfl (by decide) (by decide) h
theorem vX9_shelfByHits_0 {G : GG} (gk : GOK G) {σ : Mm} {K : RES → Mm → Prop} {x0 : Option Nat} {x1 : Int32}
    (h : ∃ a1, x0 = some a1 ∧ (mt σ a1).1 = 10 ∧ Runs G mX9_isShelf rX9_isShelf [(vR x0), (vI x1)] σ (bk G mX9_shelfByHits rX9_shelfByHits 0 0 8 [some (vR x0), some (vI x1), some (vI (0 : Int32)), none, none, none, none, none] [(vR x0)] K)) : At G mX9_shelfByHits rX9_shelfByHits 0 0 0 [some (vR x0), some (vI x1), none, none, none, none, none, none] [] σ K := by
  refine s_iconst (v := 0) dX9_shelfByHits_0 (by decide) ?_
  refine s_istore_n (i := 2) (L' := [some (vR x0), some (vI x1), some (vI (0 : Int32)), none, none, none, none, none]) dX9_shelfByHits_1 rfl rfl (by decide) rfl ?_
  refine s_aload_n (i := 0) dX9_shelfByHits_2 rfl rfl ?_
  refine s_aload_n (i := 0) dX9_shelfByHits_3 rfl rfl ?_
  refine s_iload_n (i := 1) dX9_shelfByHits_4 rfl rfl ?_
  obtain ⟨a1, ea1, h⟩ := h
  obtain ⟨t2, h⟩ := h
  exact t_callV (ci := 9) (as := [(vI x1)]) (S := [(vR x0)]) gk dX9_shelfByHits_5 gX9_122 (by decide) rfl w_1689 wp_20 ea1 t2 rfl rfl (Nat.le_of_ble_eq_true rfl) (by decide) h
theorem eX9_shelfByHits {G : GG} (gk : GOK G) {σ : Mm} {K : RES → Mm → Prop} {x0 : Option Nat} {x1 : Int32}
    (h : ∃ a1, x0 = some a1 ∧ (mt σ a1).1 = 10 ∧ Runs G mX9_isShelf rX9_isShelf [(vR x0), (vI x1)] σ (bk G mX9_shelfByHits rX9_shelfByHits 0 0 8 [some (vR x0), some (vI x1), some (vI (0 : Int32)), none, none, none, none, none] [(vR x0)] K)) : Runs G mX9_shelfByHits rX9_shelfByHits [(vR x0), (vI x1)] σ K := Runs.of (by decide) rfl (Nat.le_of_ble_eq_true rfl) (vX9_shelfByHits_0 gk h)
theorem vX9_shelfByHits_8 {G : GG} (gk : GOK G) {σ : Mm} {K : RES → Mm → Prop} {x0 : Option Nat} {x1 : Int32} {x2 : Int32} {s0 : Int32} {s1 : Option Nat}
    (h : ∃ a1, s1 = some a1 ∧ (mt σ a1).1 = 10 ∧ Runs G mX9_isThere rX9_isThere [(vR s1), (vI s0)] σ (bk G mX9_shelfByHits rX9_shelfByHits 0 0 11 [some (vR x0), some (vI x1), some (vI x2), none, none, none, none, none] [] K)) : At G mX9_shelfByHits rX9_shelfByHits 0 0 8 [some (vR x0), some (vI x1), some (vI x2), none, none, none, none, none] [(vI s0), (vR s1)] σ K := by
  obtain ⟨a1, ea1, h⟩ := h
  obtain ⟨t2, h⟩ := h
  exact t_callV (ci := 9) (as := [(vI s0)]) (S := []) gk dX9_shelfByHits_8 gX9_114 (by decide) rfl w_1665 wp_17 ea1 t2 rfl rfl (Nat.le_of_ble_eq_true rfl) (by decide) h
theorem vX9_shelfByHits_11 {G : GG} (gk : GOK G) {σ : Mm} {K : RES → Mm → Prop} {x0 : Option Nat} {x1 : Int32} {x2 : Int32} {s0 : Int32}
    (h : At G mX9_shelfByHits rX9_shelfByHits 0 0 15 [some (vR x0), some (vI x1), some (vI x2), some (vI s0), some (vI (0 : Int32)), none, none, none] [] σ K) : At G mX9_shelfByHits rX9_shelfByHits 0 0 11 [some (vR x0), some (vI x1), some (vI x2), none, none, none, none, none] [(vI s0)] σ K := by
  refine s_istore_n (i := 3) (L' := [some (vR x0), some (vI x1), some (vI x2), some (vI s0), none, none, none, none]) dX9_shelfByHits_11 rfl rfl (by decide) rfl ?_
  refine s_iconst (v := 0) dX9_shelfByHits_12 (by decide) ?_
  refine s_istore (L' := [some (vR x0), some (vI x1), some (vI x2), some (vI s0), some (vI (0 : Int32)), none, none, none]) dX9_shelfByHits_13 rfl (by decide) rfl ?_
  exact h
theorem vX9_shelfByHits_15 {G : GG} (gk : GOK G) {σ : Mm} {K : RES → Mm → Prop} {x0 : Option Nat} {x1 : Int32} {x2 : Int32} {x3 : Int32} {x4 : Int32}
    (h : ∃ a1, x0 = some a1 ∧ (mt σ a1).1 = 10 ∧ ∃ a3, mr σ a1 0 = some a3 ∧ ∃ n5, mt σ a3 = (50, n5) ∧ vp_in (0 : Int32) n5 ∧ (((mi σ a3 (0 : Int32).toNatClampNeg) ≤ x4 → K (.inl (some (vI x2))) σ) ∧ (¬ (mi σ a3 (0 : Int32).toNatClampNeg) ≤ x4 → ((x3 = 0 → K (.inl (some (vI x2))) σ) ∧ (¬ x3 = 0 → At G mX9_shelfByHits rX9_shelfByHits 0 0 36 [some (vR x0), some (vI x1), some (vI x2), some (vI x3), some (vI x4), some (vI (0 : Int32)), some (vI (0 : Int32)), none] [] σ K))))) : At G mX9_shelfByHits rX9_shelfByHits 0 0 15 [some (vR x0), some (vI x1), some (vI x2), some (vI x3), some (vI x4), none, none, none] [] σ K := by
  refine s_iload dX9_shelfByHits_15 rfl ?_
  refine s_aload_n (i := 0) dX9_shelfByHits_17 rfl rfl ?_
  obtain ⟨a1, ea1, h⟩ := h
  obtain ⟨t2, h⟩ := h
  refine t_getR gk dX9_shelfByHits_18 fX9_9 rfl ea1 t2 ?_
  refine s_iconst (v := 0) dX9_shelfByHits_21 (by decide) ?_
  obtain ⟨a3, ea3, h⟩ := h
  obtain ⟨n5, t4, h⟩ := h
  obtain ⟨c6, h⟩ := h
  refine t_iald gk dX9_shelfByHits_22 ea3 t4 c6 ?_
  refine s_icmp_ge (tgt := 116) dX9_shelfByHits_23 (by decide) (fun q7 => ?_) (fun q7 => ?_)
  · have h := h.1 q7
    refine s_iload_n (i := 2) dX9_shelfByHits_116 rfl rfl ?_
    exact s_ireturn dX9_shelfByHits_117 rfl rfl (by decide) (by decide) h
  · have h := h.2 q7
    refine s_iload_n (i := 3) dX9_shelfByHits_26 rfl rfl ?_
    refine s_if_eq (tgt := 116) dX9_shelfByHits_27 (by decide) (fun q8 => ?_) (fun q8 => ?_)
    · have h := h.1 q8
      refine s_iload_n (i := 2) dX9_shelfByHits_116 rfl rfl ?_
      exact s_ireturn dX9_shelfByHits_117 rfl rfl (by decide) (by decide) h
    · have h := h.2 q8
      refine s_iconst (v := 0) dX9_shelfByHits_30 (by decide) ?_
      refine s_istore (L' := [some (vR x0), some (vI x1), some (vI x2), some (vI x3), some (vI x4), some (vI (0 : Int32)), none, none]) dX9_shelfByHits_31 rfl (by decide) rfl ?_
      refine s_iconst (v := 0) dX9_shelfByHits_33 (by decide) ?_
      refine s_istore (L' := [some (vR x0), some (vI x1), some (vI x2), some (vI x3), some (vI x4), some (vI (0 : Int32)), some (vI (0 : Int32)), none]) dX9_shelfByHits_34 rfl (by decide) rfl ?_
      exact h
theorem vX9_shelfByHits_36 {G : GG} (gk : GOK G) {σ : Mm} {K : RES → Mm → Prop} {x0 : Option Nat} {x1 : Int32} {x2 : Int32} {x3 : Int32} {x4 : Int32} {x5 : Int32} {x6 : Int32}
    (h : ∃ a1, x0 = some a1 ∧ (mt σ a1).1 = 10 ∧ ∃ a3, mr σ a1 0 = some a3 ∧ ∃ n5, mt σ a3 = (50, n5) ∧ vp_in (0 : Int32) n5 ∧ (((mi σ a3 (0 : Int32).toNatClampNeg) ≤ x6 → ((¬ x5 = x1 → At G mX9_shelfByHits rX9_shelfByHits 0 0 15 [some (vR x0), some (vI x1), some (vI x2), some (vI x3), some (vI (x4 + 1)), none, none, none] [] σ K) ∧ (x5 = x1 → At G mX9_shelfByHits rX9_shelfByHits 0 0 15 [some (vR x0), some (vI x1), some (vI x4), some (vI x3), some (vI (x4 + 1)), none, none, none] [] σ K))) ∧ (¬ (mi σ a3 (0 : Int32).toNatClampNeg) ≤ x6 → Runs G mX9_of rX9_of [(vR x0), (vI x6), (vI (4 : Int32))] σ (bk G mX9_shelfByHits rX9_shelfByHits 0 0 54 [some (vR x0), some (vI x1), some (vI x2), some (vI x3), some (vI x4), some (vI x5), some (vI x6), none] [] K)))) : At G mX9_shelfByHits rX9_shelfByHits 0 0 36 [some (vR x0), some (vI x1), some (vI x2), some (vI x3), some (vI x4), some (vI x5), some (vI x6), none] [] σ K := by
  refine s_iload dX9_shelfByHits_36 rfl ?_
  refine s_aload_n (i := 0) dX9_shelfByHits_38 rfl rfl ?_
  obtain ⟨a1, ea1, h⟩ := h
  obtain ⟨t2, h⟩ := h
  refine t_getR gk dX9_shelfByHits_39 fX9_9 rfl ea1 t2 ?_
  refine s_iconst (v := 0) dX9_shelfByHits_42 (by decide) ?_
  obtain ⟨a3, ea3, h⟩ := h
  obtain ⟨n5, t4, h⟩ := h
  obtain ⟨c6, h⟩ := h
  refine t_iald gk dX9_shelfByHits_43 ea3 t4 c6 ?_
  refine s_icmp_ge (tgt := 97) dX9_shelfByHits_44 (by decide) (fun q7 => ?_) (fun q7 => ?_)
  · have h := h.1 q7
    refine s_iload dX9_shelfByHits_97 rfl ?_
    refine s_iload_n (i := 1) dX9_shelfByHits_99 rfl rfl ?_
    refine s_icmp_ne (tgt := 108) dX9_shelfByHits_100 (by decide) (fun q8 => ?_) (fun q8 => ?_)
    · have h := h.1 q8
      refine s_iload_n (i := 2) dX9_shelfByHits_108 rfl rfl ?_
      refine s_istore_n (i := 2) (L' := [some (vR x0), some (vI x1), some (vI x2), some (vI x3), some (vI x4), some (vI x5), some (vI x6), none]) dX9_shelfByHits_109 rfl rfl (by decide) rfl ?_
      refine s_iinc (v := x4 + 1) (L' := [some (vR x0), some (vI x1), some (vI x2), some (vI x3), some (vI (x4 + 1)), some (vI x5), some (vI x6), none]) dX9_shelfByHits_110 rfl rfl rfl (by decide) rfl ?_
      refine s_goto (tgt := 15) dX9_shelfByHits_113 (by decide) ?_
      exact h.msk ⟨rfl, ⟨rfl, ⟨rfl, ⟨rfl, ⟨rfl, trivial⟩⟩⟩⟩⟩
    · have h := h.2 q8
      refine s_iload dX9_shelfByHits_103 rfl ?_
      refine s_goto (tgt := 109) dX9_shelfByHits_105 (by decide) ?_
      refine s_istore_n (i := 2) (L' := [some (vR x0), some (vI x1), some (vI x4), some (vI x3), some (vI x4), some (vI x5), some (vI x6), none]) dX9_shelfByHits_109 rfl rfl (by decide) rfl ?_
      refine s_iinc (v := x4 + 1) (L' := [some (vR x0), some (vI x1), some (vI x4), some (vI x3), some (vI (x4 + 1)), some (vI x5), some (vI x6), none]) dX9_shelfByHits_110 rfl rfl rfl (by decide) rfl ?_
      refine s_goto (tgt := 15) dX9_shelfByHits_113 (by decide) ?_
      exact h.msk ⟨rfl, ⟨rfl, ⟨rfl, ⟨rfl, ⟨rfl, trivial⟩⟩⟩⟩⟩
  · have h := h.2 q7
    refine s_aload_n (i := 0) dX9_shelfByHits_47 rfl rfl ?_
    refine s_iload dX9_shelfByHits_48 rfl ?_
    refine s_iconst (v := 4) dX9_shelfByHits_50 (by decide) ?_
    exact t_callV (ci := 9) (as := [(vI x6), (vI (4 : Int32))]) (S := []) gk dX9_shelfByHits_51 gX9_77 (by decide) rfl w_1653 wp_16 ea1 t2 rfl rfl (Nat.le_of_ble_eq_true rfl) (by decide) h
theorem vX9_shelfByHits_54 {G : GG} (gk : GOK G) {σ : Mm} {K : RES → Mm → Prop} {x0 : Option Nat} {x1 : Int32} {x2 : Int32} {x3 : Int32} {x4 : Int32} {x5 : Int32} {x6 : Int32} {s0 : Int32}
    (h : ∃ a1, x0 = some a1 ∧ (mt σ a1).1 = 10 ∧ Runs G mX9_of rX9_of [(vR x0), (vI x4), (vI (4 : Int32))] σ (bk G mX9_shelfByHits rX9_shelfByHits 0 0 61 [some (vR x0), some (vI x1), some (vI x2), some (vI x3), some (vI x4), some (vI x5), some (vI x6), none] [(vI s0)] K)) : At G mX9_shelfByHits rX9_shelfByHits 0 0 54 [some (vR x0), some (vI x1), some (vI x2), some (vI x3), some (vI x4), some (vI x5), some (vI x6), none] [(vI s0)] σ K := by
  refine s_aload_n (i := 0) dX9_shelfByHits_54 rfl rfl ?_
  refine s_iload dX9_shelfByHits_55 rfl ?_
  refine s_iconst (v := 4) dX9_shelfByHits_57 (by decide) ?_
  obtain ⟨a1, ea1, h⟩ := h
  obtain ⟨t2, h⟩ := h
  exact t_callV (ci := 9) (as := [(vI x4), (vI (4 : Int32))]) (S := [(vI s0)]) gk dX9_shelfByHits_58 gX9_77 (by decide) rfl w_1653 wp_16 ea1 t2 rfl rfl (Nat.le_of_ble_eq_true rfl) (by decide) h
theorem vX9_shelfByHits_61 {G : GG} (gk : GOK G) {σ : Mm} {K : RES → Mm → Prop} {x0 : Option Nat} {x1 : Int32} {x2 : Int32} {x3 : Int32} {x4 : Int32} {x5 : Int32} {x6 : Int32} {s0 : Int32} {s1 : Int32}
    (h : ((0 < (s1 - s0) → At G mX9_shelfByHits rX9_shelfByHits 0 0 36 [some (vR x0), some (vI x1), some (vI x2), some (vI x3), some (vI x4), some (vI (x5 + (1 : Int32))), some (vI (x6 + 1)), none] [] σ K) ∧ (¬ 0 < (s1 - s0) → ((¬ (s1 - s0) = 0 → At G mX9_shelfByHits rX9_shelfByHits 0 0 36 [some (vR x0), some (vI x1), some (vI x2), some (vI x3), some (vI x4), some (vI (x5 + (0 : Int32))), some (vI (x6 + 1)), none] [] σ K) ∧ ((s1 - s0) = 0 → ((x4 ≤ x6 → At G mX9_shelfByHits rX9_shelfByHits 0 0 36 [some (vR x0), some (vI x1), some (vI x2), some (vI x3), some (vI x4), some (vI (x5 + (0 : Int32))), some (vI (x6 + 1)), none] [] σ K) ∧ (¬ x4 ≤ x6 → At G mX9_shelfByHits rX9_shelfByHits 0 0 36 [some (vR x0), some (vI x1), some (vI x2), some (vI x3), some (vI x4), some (vI (x5 + (1 : Int32))), some (vI (x6 + 1)), none] [] σ K))))))) : At G mX9_shelfByHits rX9_shelfByHits 0 0 61 [some (vR x0), some (vI x1), some (vI x2), some (vI x3), some (vI x4), some (vI x5), some (vI x6), none] [(vI s0), (vI s1)] σ K := by
  refine s_isub dX9_shelfByHits_61 ?_
  refine s_istore (L' := [some (vR x0), some (vI x1), some (vI x2), some (vI x3), some (vI x4), some (vI x5), some (vI x6), some (vI (s1 - s0))]) dX9_shelfByHits_62 rfl (by decide) rfl ?_
  refine s_iload dX9_shelfByHits_64 rfl ?_
  refine s_iload dX9_shelfByHits_66 rfl ?_
  refine s_if_gt (tgt := 83) dX9_shelfByHits_68 (by decide) (fun q1 => ?_) (fun q1 => ?_)
  · have h := h.1 q1
    refine s_iconst (v := 1) dX9_shelfByHits_83 (by decide) ?_
    refine s_goto (tgt := 88) dX9_shelfByHits_84 (by decide) ?_
    refine s_iadd dX9_shelfByHits_88 ?_
    refine s_istore (L' := [some (vR x0), some (vI x1), some (vI x2), some (vI x3), some (vI x4), some (vI (x5 + (1 : Int32))), some (vI x6), some (vI (s1 - s0))]) dX9_shelfByHits_89 rfl (by decide) rfl ?_
    refine s_iinc (v := x6 + 1) (L' := [some (vR x0), some (vI x1), some (vI x2), some (vI x3), some (vI x4), some (vI (x5 + (1 : Int32))), some (vI (x6 + 1)), some (vI (s1 - s0))]) dX9_shelfByHits_91 rfl rfl rfl (by decide) rfl ?_
    refine s_goto (tgt := 36) dX9_shelfByHits_94 (by decide) ?_
    exact h.msk ⟨rfl, ⟨rfl, ⟨rfl, ⟨rfl, ⟨rfl, ⟨rfl, ⟨rfl, trivial⟩⟩⟩⟩⟩⟩⟩
  · have h := h.2 q1
    refine s_iload dX9_shelfByHits_71 rfl ?_
    refine s_if_ne (tgt := 87) dX9_shelfByHits_73 (by decide) (fun q2 => ?_) (fun q2 => ?_)
    · have h := h.1 q2
      refine s_iconst (v := 0) dX9_shelfByHits_87 (by decide) ?_
      refine s_iadd dX9_shelfByHits_88 ?_
      refine s_istore (L' := [some (vR x0), some (vI x1), some (vI x2), some (vI x3), some (vI x4), some (vI (x5 + (0 : Int32))), some (vI x6), some (vI (s1 - s0))]) dX9_shelfByHits_89 rfl (by decide) rfl ?_
      refine s_iinc (v := x6 + 1) (L' := [some (vR x0), some (vI x1), some (vI x2), some (vI x3), some (vI x4), some (vI (x5 + (0 : Int32))), some (vI (x6 + 1)), some (vI (s1 - s0))]) dX9_shelfByHits_91 rfl rfl rfl (by decide) rfl ?_
      refine s_goto (tgt := 36) dX9_shelfByHits_94 (by decide) ?_
      exact h.msk ⟨rfl, ⟨rfl, ⟨rfl, ⟨rfl, ⟨rfl, ⟨rfl, ⟨rfl, trivial⟩⟩⟩⟩⟩⟩⟩
    · have h := h.2 q2
      refine s_iload dX9_shelfByHits_76 rfl ?_
      refine s_iload dX9_shelfByHits_78 rfl ?_
      refine s_icmp_ge (tgt := 87) dX9_shelfByHits_80 (by decide) (fun q3 => ?_) (fun q3 => ?_)
      · have h := h.1 q3
        refine s_iconst (v := 0) dX9_shelfByHits_87 (by decide) ?_
        refine s_iadd dX9_shelfByHits_88 ?_
        refine s_istore (L' := [some (vR x0), some (vI x1), some (vI x2), some (vI x3), some (vI x4), some (vI (x5 + (0 : Int32))), some (vI x6), some (vI (s1 - s0))]) dX9_shelfByHits_89 rfl (by decide) rfl ?_
        refine s_iinc (v := x6 + 1) (L' := [some (vR x0), some (vI x1), some (vI x2), some (vI x3), some (vI x4), some (vI (x5 + (0 : Int32))), some (vI (x6 + 1)), some (vI (s1 - s0))]) dX9_shelfByHits_91 rfl rfl rfl (by decide) rfl ?_
        refine s_goto (tgt := 36) dX9_shelfByHits_94 (by decide) ?_
        exact h.msk ⟨rfl, ⟨rfl, ⟨rfl, ⟨rfl, ⟨rfl, ⟨rfl, ⟨rfl, trivial⟩⟩⟩⟩⟩⟩⟩
      · have h := h.2 q3
        refine s_iconst (v := 1) dX9_shelfByHits_83 (by decide) ?_
        refine s_goto (tgt := 88) dX9_shelfByHits_84 (by decide) ?_
        refine s_iadd dX9_shelfByHits_88 ?_
        refine s_istore (L' := [some (vR x0), some (vI x1), some (vI x2), some (vI x3), some (vI x4), some (vI (x5 + (1 : Int32))), some (vI x6), some (vI (s1 - s0))]) dX9_shelfByHits_89 rfl (by decide) rfl ?_
        refine s_iinc (v := x6 + 1) (L' := [some (vR x0), some (vI x1), some (vI x2), some (vI x3), some (vI x4), some (vI (x5 + (1 : Int32))), some (vI (x6 + 1)), some (vI (s1 - s0))]) dX9_shelfByHits_91 rfl rfl rfl (by decide) rfl ?_
        refine s_goto (tgt := 36) dX9_shelfByHits_94 (by decide) ?_
        exact h.msk ⟨rfl, ⟨rfl, ⟨rfl, ⟨rfl, ⟨rfl, ⟨rfl, ⟨rfl, trivial⟩⟩⟩⟩⟩⟩⟩
theorem vX9_isConsistent_0 {G : GG} (gk : GOK G) {σ : Mm} {K : RES → Mm → Prop} {x0 : Option Nat}
    (h : ∃ a1, x0 = some a1 ∧ (mt σ a1).1 = 10 ∧ ∀ σ3, σ3 = si σ a1 6 (0 : Int32) → K (.inl (some (vI (1 : Int32)))) σ3) : At G mX9_isConsistent rX9_isConsistent 0 0 0 [some (vR x0)] [] σ K := by
  refine s_aload_n (i := 0) dX9_isConsistent_0 rfl rfl ?_
  refine s_iconst (v := 0) dX9_isConsistent_1 (by decide) ?_
  obtain ⟨a1, ea1, h⟩ := h
  obtain ⟨t2, h⟩ := h
  refine t_putI gk dX9_isConsistent_2 fX9_39 rfl rfl ea1 t2 ⟨rfl, rfl⟩ (fun σ3 eσ3 mσ3 => ?_)
  replace h := h σ3 eσ3
  refine s_iconst (v := 1) dX9_isConsistent_5 (by decide) ?_
  exact s_ireturn dX9_isConsistent_6 rfl rfl (by decide) (by decide) h
theorem eX9_isConsistent {G : GG} (gk : GOK G) {σ : Mm} {K : RES → Mm → Prop} {x0 : Option Nat}
    (h : ∃ a1, x0 = some a1 ∧ (mt σ a1).1 = 10 ∧ ∀ σ3, σ3 = si σ a1 6 (0 : Int32) → K (.inl (some (vI (1 : Int32)))) σ3) : Runs G mX9_isConsistent rX9_isConsistent [(vR x0)] σ K := Runs.of (by decide) rfl (Nat.le_of_ble_eq_true rfl) (vX9_isConsistent_0 gk h)
theorem vX9_says_0 {G : GG} (gk : GOK G) {σ : Mm} {K : RES → Mm → Prop} {x0 : Option Nat} {x1 : Int32}
    (h : ∃ a1, x0 = some a1 ∧ (mt σ a1).1 = 10 ∧ ∃ a3, mr σ a1 7 = some a3 ∧ ∃ n5, mt σ a3 = (53, n5) ∧ vp_in (mi σ a1 8) n5 ∧ isC (i2c x1) ∧ ∀ σ7, σ7 = si σ a3 (mi σ a1 8).toNatClampNeg (i2c x1) → ∀ σ9, σ9 = si σ7 a1 8 ((mi σ7 a1 8) + (1 : Int32)) → K (.inl none) σ9) : At G mX9_says rX9_says 0 0 0 [some (vR x0), some (vI x1)] [] σ K := by
  refine s_aload_n (i := 0) dX9_says_0 rfl rfl ?_
  obtain ⟨a1, ea1, h⟩ := h
  obtain ⟨t2, h⟩ := h
  refine t_getR gk dX9_says_1 fX9_22 rfl ea1 t2 ?_
  refine s_aload_n (i := 0) dX9_says_4 rfl rfl ?_
  refine t_getI gk dX9_says_5 fX9_163 rfl ea1 t2 ?_
  refine s_iload_n (i := 1) dX9_says_8 rfl rfl ?_
  refine s_i2c (v := i2c x1) dX9_says_9 rfl ?_
  obtain ⟨a3, ea3, h⟩ := h
  obtain ⟨n5, t4, h⟩ := h
  obtain ⟨c6, h⟩ := h
  obtain ⟨c8, h⟩ := h
  refine t_cast gk dX9_says_10 ea3 t4 c6 (nf_c c8).1 (fun σ7 eσ7 mσ7 => ?_)
  replace h := h σ7 eσ7
  refine s_aload_n (i := 0) dX9_says_11 rfl rfl ?_
  refine s_dup dX9_says_12 rfl ?_
  refine t_getI gk dX9_says_13 fX9_163 rfl ea1 (by rw [mσ7]; exact t2) ?_
  refine s_iconst (v := 1) dX9_says_16 (by decide) ?_
  refine s_iadd dX9_says_17 ?_
  refine t_putI gk dX9_says_18 fX9_163 rfl rfl ea1 (by rw [mσ7]; exact t2) ⟨rfl, rfl⟩ (fun σ9 eσ9 mσ9 => ?_)
  replace h := h σ9 eσ9
  exact s_return dX9_says_21 rfl (by decide) (by decide) h
theorem eX9_says {G : GG} (gk : GOK G) {σ : Mm} {K : RES → Mm → Prop} {x0 : Option Nat} {x1 : Int32}
    (h : ∃ a1, x0 = some a1 ∧ (mt σ a1).1 = 10 ∧ ∃ a3, mr σ a1 7 = some a3 ∧ ∃ n5, mt σ a3 = (53, n5) ∧ vp_in (mi σ a1 8) n5 ∧ isC (i2c x1) ∧ ∀ σ7, σ7 = si σ a3 (mi σ a1 8).toNatClampNeg (i2c x1) → ∀ σ9, σ9 = si σ7 a1 8 ((mi σ7 a1 8) + (1 : Int32)) → K (.inl none) σ9) : Runs G mX9_says rX9_says [(vR x0), (vI x1)] σ K := Runs.of (by decide) rfl (Nat.le_of_ble_eq_true rfl) (vX9_says_0 gk h)
theorem vX9_saysNumberB_0 {G : GG} (gk : GOK G) {σ : Mm} {K : RES → Mm → Prop} {x0 : Option Nat} {x1 : Int32}
    (h : ((x1 ≤ (9 : Int32) → At G mX9_saysNumber rX9_saysNumberB 0 0 14 [some (vR x0), some (vI x1)] [] σ K) ∧ (¬ x1 ≤ (9 : Int32) → False))) : At G mX9_saysNumber rX9_saysNumberB 0 0 0 [some (vR x0), some (vI x1)] [] σ K := by
  refine s_iload_n (i := 1) dX9_saysNumber_0 rfl rfl ?_
  refine s_bipush (v := 9) dX9_saysNumber_1 (by decide) ?_
  refine s_icmp_le (tgt := 14) dX9_saysNumber_3 (by decide) (fun q1 => ?_) (fun q1 => ?_)
  · have h := h.1 q1
    exact h
  · have h := h.2 q1
    refine s_aload_n (i := 0) dX9_saysNumber_6 rfl rfl ?_
    refine s_iload_n (i := 1) dX9_saysNumber_7 rfl rfl ?_
    refine s_bipush (v := 10) dX9_saysNumber_8 (by decide) ?_
    refine s_idiv dX9_saysNumber_10 (by decide) ?_
    exact h.elim
theorem eX9_saysNumberB {G : GG} (gk : GOK G) {σ : Mm} {K : RES → Mm → Prop} {x0 : Option Nat} {x1 : Int32}
    (h : ((x1 ≤ (9 : Int32) → At G mX9_saysNumber rX9_saysNumberB 0 0 14 [some (vR x0), some (vI x1)] [] σ K) ∧ (¬ x1 ≤ (9 : Int32) → False))) : Runs G mX9_saysNumber rX9_saysNumberB [(vR x0), (vI x1)] σ K := Runs.of (by decide) rfl (Nat.le_of_ble_eq_true rfl) (vX9_saysNumberB_0 gk h)
theorem vX9_saysNumberB_14 {G : GG} (gk : GOK G) {σ : Mm} {K : RES → Mm → Prop} {x0 : Option Nat} {x1 : Int32}
    (h : ∃ a1, x0 = some a1 ∧ (mt σ a1).1 = 10 ∧ Runs G mX9_says rX9_says [(vR x0), (vI ((48 : Int32) + (x1 - x1 / (10 : Int32) * (10 : Int32))))] σ (bk G mX9_saysNumber rX9_saysNumberB 0 0 25 [some (vR x0), some (vI x1)] [] K)) : At G mX9_saysNumber rX9_saysNumberB 0 0 14 [some (vR x0), some (vI x1)] [] σ K := by
  refine s_aload_n (i := 0) dX9_saysNumber_14 rfl rfl ?_
  refine s_bipush (v := 48) dX9_saysNumber_15 (by decide) ?_
  refine s_iload_n (i := 1) dX9_saysNumber_17 rfl rfl ?_
  refine s_bipush (v := 10) dX9_saysNumber_18 (by decide) ?_
  refine s_irem dX9_saysNumber_20 (by decide) ?_
  refine s_iadd dX9_saysNumber_21 ?_
  obtain ⟨a1, ea1, h⟩ := h
  obtain ⟨t2, h⟩ := h
  exact t_callV (ci := 9) (as := [(vI ((48 : Int32) + (x1 - x1 / (10 : Int32) * (10 : Int32))))]) (S := []) gk dX9_saysNumber_22 gX9_170 (by decide) rfl w_1883 wp_35 ea1 t2 rfl rfl (Nat.le_of_ble_eq_true rfl) (by decide) h
theorem vX9_saysNumberB_25 {G : GG} (gk : GOK G) {σ : Mm} {K : RES → Mm → Prop} {x0 : Option Nat} {x1 : Int32}
    (h : K (.inl none) σ) : At G mX9_saysNumber rX9_saysNumberB 0 0 25 [some (vR x0), some (vI x1)] [] σ K := by
  exact s_return dX9_saysNumber_25 rfl (by decide) (by decide) h
theorem vX9_saysNumber_0 {G : GG} (gk : GOK G) {σ : Mm} {K : RES → Mm → Prop} {x0 : Option Nat} {x1 : Int32}
    (h : ((x1 ≤ (9 : Int32) → At G mX9_saysNumber rX9_saysNumber 0 0 14 [some (vR x0), some (vI x1)] [] σ K) ∧ (¬ x1 ≤ (9 : Int32) → ∃ a2, x0 = some a2 ∧ (mt σ a2).1 = 10 ∧ Runs G mX9_saysNumber rX9_saysNumberB [(vR x0), (vI (x1 / (10 : Int32)))] σ (bk G mX9_saysNumber rX9_saysNumber 0 0 14 [some (vR x0), some (vI x1)] [] K)))) : At G mX9_saysNumber rX9_saysNumber 0 0 0 [some (vR x0), some (vI x1)] [] σ K := by
  refine s_iload_n (i := 1) dX9_saysNumber_0 rfl rfl ?_
  refine s_bipush (v := 9) dX9_saysNumber_1 (by decide) ?_
  refine s_icmp_le (tgt := 14) dX9_saysNumber_3 (by decide) (fun q1 => ?_) (fun q1 => ?_)
  · have h := h.1 q1
    exact h
  · have h := h.2 q1
    refine s_aload_n (i := 0) dX9_saysNumber_6 rfl rfl ?_
    refine s_iload_n (i := 1) dX9_saysNumber_7 rfl rfl ?_
    refine s_bipush (v := 10) dX9_saysNumber_8 (by decide) ?_
    refine s_idiv dX9_saysNumber_10 (by decide) ?_
    obtain ⟨a2, ea2, h⟩ := h
    obtain ⟨t3, h⟩ := h
    exact t_callV (ci := 9) (as := [(vI (x1 / (10 : Int32)))]) (S := []) gk dX9_saysNumber_11 gX9_166 (by decide) rfl w_1887 wp_36 ea2 t3 rfl rfl (Nat.le_of_ble_eq_true rfl) (by decide) h
theorem eX9_saysNumber {G : GG} (gk : GOK G) {σ : Mm} {K : RES → Mm → Prop} {x0 : Option Nat} {x1 : Int32}
    (h : ((x1 ≤ (9 : Int32) → At G mX9_saysNumber rX9_saysNumber 0 0 14 [some (vR x0), some (vI x1)] [] σ K) ∧ (¬ x1 ≤ (9 : Int32) → ∃ a2, x0 = some a2 ∧ (mt σ a2).1 = 10 ∧ Runs G mX9_saysNumber rX9_saysNumberB [(vR x0), (vI (x1 / (10 : Int32)))] σ (bk G mX9_saysNumber rX9_saysNumber 0 0 14 [some (vR x0), some (vI x1)] [] K)))) : Runs G mX9_saysNumber rX9_saysNumber [(vR x0), (vI x1)] σ K := Runs.of (by decide) rfl (Nat.le_of_ble_eq_true rfl) (vX9_saysNumber_0 gk h)
theorem vX9_saysNumber_14 {G : GG} (gk : GOK G) {σ : Mm} {K : RES → Mm → Prop} {x0 : Option Nat} {x1 : Int32}
    (h : ∃ a1, x0 = some a1 ∧ (mt σ a1).1 = 10 ∧ Runs G mX9_says rX9_says [(vR x0), (vI ((48 : Int32) + (x1 - x1 / (10 : Int32) * (10 : Int32))))] σ (bk G mX9_saysNumber rX9_saysNumber 0 0 25 [some (vR x0), some (vI x1)] [] K)) : At G mX9_saysNumber rX9_saysNumber 0 0 14 [some (vR x0), some (vI x1)] [] σ K := by
  refine s_aload_n (i := 0) dX9_saysNumber_14 rfl rfl ?_
  refine s_bipush (v := 48) dX9_saysNumber_15 (by decide) ?_
  refine s_iload_n (i := 1) dX9_saysNumber_17 rfl rfl ?_
  refine s_bipush (v := 10) dX9_saysNumber_18 (by decide) ?_
  refine s_irem dX9_saysNumber_20 (by decide) ?_
  refine s_iadd dX9_saysNumber_21 ?_
  obtain ⟨a1, ea1, h⟩ := h
  obtain ⟨t2, h⟩ := h
  exact t_callV (ci := 9) (as := [(vI ((48 : Int32) + (x1 - x1 / (10 : Int32) * (10 : Int32))))]) (S := []) gk dX9_saysNumber_22 gX9_170 (by decide) rfl w_1883 wp_35 ea1 t2 rfl rfl (Nat.le_of_ble_eq_true rfl) (by decide) h
theorem vX9_saysNumber_25 {G : GG} (gk : GOK G) {σ : Mm} {K : RES → Mm → Prop} {x0 : Option Nat} {x1 : Int32}
    (h : K (.inl none) σ) : At G mX9_saysNumber rX9_saysNumber 0 0 25 [some (vR x0), some (vI x1)] [] σ K := by
  exact s_return dX9_saysNumber_25 rfl (by decide) (by decide) h
theorem vX9_writeShelf_0 {G : GG} (gk : GOK G) {σ : Mm} {K : RES → Mm → Prop} {x0 : Option Nat} {x1 : Int32}
    (h : ∃ a1, x0 = some a1 ∧ (mt σ a1).1 = 10 ∧ Runs G mX9_isShelf rX9_isShelf [(vR x0), (vI x1)] σ (bk G mX9_writeShelf rX9_writeShelf 0 0 6 [some (vR x0), some (vI x1), none] [(vR x0)] K)) : At G mX9_writeShelf rX9_writeShelf 0 0 0 [some (vR x0), some (vI x1), none] [] σ K := by
  refine s_aload_n (i := 0) dX9_writeShelf_0 rfl rfl ?_
  refine s_aload_n (i := 0) dX9_writeShelf_1 rfl rfl ?_
  refine s_iload_n (i := 1) dX9_writeShelf_2 rfl rfl ?_
  obtain ⟨a1, ea1, h⟩ := h
  obtain ⟨t2, h⟩ := h
  exact t_callV (ci := 9) (as := [(vI x1)]) (S := [(vR x0)]) gk dX9_writeShelf_3 gX9_122 (by decide) rfl w_1689 wp_20 ea1 t2 rfl rfl (Nat.le_of_ble_eq_true rfl) (by decide) h
theorem eX9_writeShelf {G : GG} (gk : GOK G) {σ : Mm} {K : RES → Mm → Prop} {x0 : Option Nat} {x1 : Int32}
    (h : ∃ a1, x0 = some a1 ∧ (mt σ a1).1 = 10 ∧ Runs G mX9_isShelf rX9_isShelf [(vR x0), (vI x1)] σ (bk G mX9_writeShelf rX9_writeShelf 0 0 6 [some (vR x0), some (vI x1), none] [(vR x0)] K)) : Runs G mX9_writeShelf rX9_writeShelf [(vR x0), (vI x1)] σ K := Runs.of (by decide) rfl (Nat.le_of_ble_eq_true rfl) (vX9_writeShelf_0 gk h)
theorem vX9_writeShelf_6 {G : GG} (gk : GOK G) {σ : Mm} {K : RES → Mm → Prop} {x0 : Option Nat} {x1 : Int32} {s0 : Int32} {s1 : Option Nat}
    (h : ∃ a1, s1 = some a1 ∧ (mt σ a1).1 = 10 ∧ Runs G mX9_isThere rX9_isThere [(vR s1), (vI s0)] σ (bk G mX9_writeShelf rX9_writeShelf 0 0 9 [some (vR x0), some (vI x1), none] [] K)) : At G mX9_writeShelf rX9_writeShelf 0 0 6 [some (vR x0), some (vI x1), none] [(vI s0), (vR s1)] σ K := by
  obtain ⟨a1, ea1, h⟩ := h
  obtain ⟨t2, h⟩ := h
  exact t_callV (ci := 9) (as := [(vI s0)]) (S := []) gk dX9_writeShelf_6 gX9_114 (by decide) rfl w_1665 wp_17 ea1 t2 rfl rfl (Nat.le_of_ble_eq_true rfl) (by decide) h
theorem vX9_writeShelf_9 {G : GG} (gk : GOK G) {σ : Mm} {K : RES → Mm → Prop} {x0 : Option Nat} {x1 : Int32} {s0 : Int32}
    (h : ((¬ s0 = 0 → ∃ a2, x0 = some a2 ∧ (mt σ a2).1 = 10 ∧ ∀ σ4, σ4 = si σ a2 8 (0 : Int32) → At G mX9_writeShelf rX9_writeShelf 0 0 22 [some (vR x0), some (vI x1), some (vI (97 : Int32))] [] σ4 K) ∧ (s0 = 0 → K (.inl (some (vI (0 : Int32)))) σ))) : At G mX9_writeShelf rX9_writeShelf 0 0 9 [some (vR x0), some (vI x1), none] [(vI s0)] σ K := by
  refine s_if_ne (tgt := 14) dX9_writeShelf_9 (by decide) (fun q1 => ?_) (fun q1 => ?_)
  · have h := h.1 q1
    refine s_aload_n (i := 0) dX9_writeShelf_14 rfl rfl ?_
    refine s_iconst (v := 0) dX9_writeShelf_15 (by decide) ?_
    obtain ⟨a2, ea2, h⟩ := h
    obtain ⟨t3, h⟩ := h
    refine t_putI gk dX9_writeShelf_16 fX9_163 rfl rfl ea2 t3 ⟨rfl, rfl⟩ (fun σ4 eσ4 mσ4 => ?_)
    replace h := h σ4 eσ4
    refine s_bipush (v := 97) dX9_writeShelf_19 (by decide) ?_
    refine s_istore_n (i := 2) (L' := [some (vR x0), some (vI x1), some (vI (97 : Int32))]) dX9_writeShelf_21 rfl rfl (by decide) rfl ?_
    exact h
  · have h := h.2 q1
    refine s_iconst (v := 0) dX9_writeShelf_12 (by decide) ?_
    exact s_ireturn dX9_writeShelf_13 rfl rfl (by decide) (by decide) h
theorem vX9_writeShelf_22 {G : GG} (gk : GOK G) {σ : Mm} {K : RES → Mm → Prop} {x0 : Option Nat} {x1 : Int32} {x2 : Int32}
    (h : (((122 : Int32) < x2 → ∃ a2, x0 = some a2 ∧ (mt σ a2).1 = 10 ∧ K (.inl (some (vI (mi σ a2 8)))) σ) ∧ (¬ (122 : Int32) < x2 → ∃ a4, x0 = some a4 ∧ (mt σ a4).1 = 10 ∧ Runs G mX9_isEcho rX9_isEcho [(vR x0), (vI x1), (vI x2)] σ (bk G mX9_writeShelf rX9_writeShelf 0 0 34 [some (vR x0), some (vI x1), some (vI x2)] [] K)))) : At G mX9_writeShelf rX9_writeShelf 0 0 22 [some (vR x0), some (vI x1), some (vI x2)] [] σ K := by
  refine s_iload_n (i := 2) dX9_writeShelf_22 rfl rfl ?_
  refine s_bipush (v := 122) dX9_writeShelf_23 (by decide) ?_
  refine s_icmp_gt (tgt := 115) dX9_writeShelf_25 (by decide) (fun q1 => ?_) (fun q1 => ?_)
  · have h := h.1 q1
    refine s_aload_n (i := 0) dX9_writeShelf_115 rfl rfl ?_
    obtain ⟨a2, ea2, h⟩ := h
    obtain ⟨t3, h⟩ := h
    refine t_getI gk dX9_writeShelf_116 fX9_163 rfl ea2 t3 ?_
    exact s_ireturn dX9_writeShelf_119 rfl rfl (by decide) (by decide) h
  · have h := h.2 q1
    refine s_aload_n (i := 0) dX9_writeShelf_28 rfl rfl ?_
    refine s_iload_n (i := 1) dX9_writeShelf_29 rfl rfl ?_
    refine s_iload_n (i := 2) dX9_writeShelf_30 rfl rfl ?_
    obtain ⟨a4, ea4, h⟩ := h
    obtain ⟨t5, h⟩ := h
    exact t_callV (ci := 9) (as := [(vI x1), (vI x2)]) (S := []) gk dX9_writeShelf_31 gX9_70 (by decide) rfl w_1721 wp_22 ea4 t5 rfl rfl (Nat.le_of_ble_eq_true rfl) (by decide) h
theorem vX9_writeShelf_34 {G : GG} (gk : GOK G) {σ : Mm} {K : RES → Mm → Prop} {x0 : Option Nat} {x1 : Int32} {x2 : Int32} {s0 : Int32}
    (h : ((s0 = 0 → At G mX9_writeShelf rX9_writeShelf 0 0 109 [some (vR x0), some (vI x1), some (vI x2)] [] σ K) ∧ (¬ s0 = 0 → ∃ a2, x0 = some a2 ∧ (mt σ a2).1 = 10 ∧ (((mi σ a2 8) ≤ 0 → At G mX9_writeShelf rX9_writeShelf 0 0 50 [some (vR x0), some (vI x1), some (vI x2)] [] σ K) ∧ (¬ (mi σ a2 8) ≤ 0 → Runs G mX9_says rX9_says [(vR x0), (vI (32 : Int32))] σ (bk G mX9_writeShelf rX9_writeShelf 0 0 50 [some (vR x0), some (vI x1), some (vI x2)] [] K)))))) : At G mX9_writeShelf rX9_writeShelf 0 0 34 [some (vR x0), some (vI x1), some (vI x2)] [(vI s0)] σ K := by
  refine s_if_eq (tgt := 109) dX9_writeShelf_34 (by decide) (fun q1 => ?_) (fun q1 => ?_)
  · have h := h.1 q1
    exact h
  · have h := h.2 q1
    refine s_aload_n (i := 0) dX9_writeShelf_37 rfl rfl ?_
    obtain ⟨a2, ea2, h⟩ := h
    obtain ⟨t3, h⟩ := h
    refine t_getI gk dX9_writeShelf_38 fX9_163 rfl ea2 t3 ?_
    refine s_if_le (tgt := 50) dX9_writeShelf_41 (by decide) (fun q4 => ?_) (fun q4 => ?_)
    · have h := h.1 q4
      exact h
    · have h := h.2 q4
      refine s_aload_n (i := 0) dX9_writeShelf_44 rfl rfl ?_
      refine s_bipush (v := 32) dX9_writeShelf_45 (by decide) ?_
      exact t_callV (ci := 9) (as := [(vI (32 : Int32))]) (S := []) gk dX9_writeShelf_47 gX9_170 (by decide) rfl w_1883 wp_35 ea2 t3 rfl rfl (Nat.le_of_ble_eq_true rfl) (by decide) h
theorem vX9_writeShelf_50 {G : GG} (gk : GOK G) {σ : Mm} {K : RES → Mm → Prop} {x0 : Option Nat} {x1 : Int32} {x2 : Int32}
    (h : ∃ a1, x0 = some a1 ∧ (mt σ a1).1 = 10 ∧ Runs G mX9_says rX9_says [(vR x0), (vI x2)] σ (bk G mX9_writeShelf rX9_writeShelf 0 0 55 [some (vR x0), some (vI x1), some (vI x2)] [] K)) : At G mX9_writeShelf rX9_writeShelf 0 0 50 [some (vR x0), some (vI x1), some (vI x2)] [] σ K := by
  refine s_aload_n (i := 0) dX9_writeShelf_50 rfl rfl ?_
  refine s_iload_n (i := 2) dX9_writeShelf_51 rfl rfl ?_
  obtain ⟨a1, ea1, h⟩ := h
  obtain ⟨t2, h⟩ := h
  exact t_callV (ci := 9) (as := [(vI x2)]) (S := []) gk dX9_writeShelf_52 gX9_170 (by decide) rfl w_1883 wp_35 ea1 t2 rfl rfl (Nat.le_of_ble_eq_true rfl) (by decide) h
theorem vX9_writeShelf_55 {G : GG} (gk : GOK G) {σ : Mm} {K : RES → Mm → Prop} {x0 : Option Nat} {x1 : Int32} {x2 : Int32}
    (h : ∃ a1, x0 = some a1 ∧ (mt σ a1).1 = 10 ∧ Runs G mX9_echo rX9_echo [(vI x1), (vI x2)] σ (bk G mX9_writeShelf rX9_writeShelf 0 0 65 [some (vR x0), some (vI x1), some (vI x2)] [(vR (mr σ a1 0)), (vR x0)] K)) : At G mX9_writeShelf rX9_writeShelf 0 0 55 [some (vR x0), some (vI x1), some (vI x2)] [] σ K := by
  refine s_aload_n (i := 0) dX9_writeShelf_55 rfl rfl ?_
  refine s_aload_n (i := 0) dX9_writeShelf_56 rfl rfl ?_
  obtain ⟨a1, ea1, h⟩ := h
  obtain ⟨t2, h⟩ := h
  refine t_getR gk dX9_writeShelf_57 fX9_9 rfl ea1 t2 ?_
  refine s_iload_n (i := 1) dX9_writeShelf_60 rfl rfl ?_
  refine s_iload_n (i := 2) dX9_writeShelf_61 rfl rfl ?_
  exact s_callS (as := [(vI x1), (vI x2)]) (S := [(vR (mr σ a1 0)), (vR x0)]) gk dX9_writeShelf_62 gX9_66 w_1641 rfl rfl (Nat.le_of_ble_eq_true rfl) (by decide) h
theorem vX9_writeShelf_65 {G : GG} (gk : GOK G) {σ : Mm} {K : RES → Mm → Prop} {x0 : Option Nat} {x1 : Int32} {x2 : Int32} {s0 : Int32} {s1 : Option Nat} {s2 : Option Nat}
    (h : ∃ a1, s1 = some a1 ∧ ∃ n3, mt σ a1 = (50, n3) ∧ vp_in (s0 + (1 : Int32)) n3 ∧ ∃ a5, s2 = some a5 ∧ (mt σ a5).1 = 10 ∧ Runs G mX9_saysNumber rX9_saysNumber [(vR s2), (vI (mi σ a1 (s0 + (1 : Int32)).toNatClampNeg))] σ (bk G mX9_writeShelf rX9_writeShelf 0 0 71 [some (vR x0), some (vI x1), some (vI x2)] [] K)) : At G mX9_writeShelf rX9_writeShelf 0 0 65 [some (vR x0), some (vI x1), some (vI x2)] [(vI s0), (vR s1), (vR s2)] σ K := by
  refine s_iconst (v := 1) dX9_writeShelf_65 (by decide) ?_
  refine s_iadd dX9_writeShelf_66 ?_
  obtain ⟨a1, ea1, h⟩ := h
  obtain ⟨n3, t2, h⟩ := h
  obtain ⟨c4, h⟩ := h
  refine t_iald gk dX9_writeShelf_67 ea1 t2 c4 ?_
  obtain ⟨a5, ea5, h⟩ := h
  obtain ⟨t6, h⟩ := h
  exact t_callV (ci := 9) (as := [(vI (mi σ a1 (s0 + (1 : Int32)).toNatClampNeg))]) (S := []) gk dX9_writeShelf_68 gX9_166 (by decide) rfl w_1887 wp_36 ea5 t6 rfl rfl (Nat.le_of_ble_eq_true rfl) (by decide) h
theorem vX9_writeShelf_71 {G : GG} (gk : GOK G) {σ : Mm} {K : RES → Mm → Prop} {x0 : Option Nat} {x1 : Int32} {x2 : Int32}
    (h : ∃ a1, x0 = some a1 ∧ (mt σ a1).1 = 10 ∧ Runs G mX9_isOver rX9_isOver [(vR x0), (vI x1), (vI x2)] σ (bk G mX9_writeShelf rX9_writeShelf 0 0 77 [some (vR x0), some (vI x1), some (vI x2)] [] K)) : At G mX9_writeShelf rX9_writeShelf 0 0 71 [some (vR x0), some (vI x1), some (vI x2)] [] σ K := by
  refine s_aload_n (i := 0) dX9_writeShelf_71 rfl rfl ?_
  refine s_iload_n (i := 1) dX9_writeShelf_72 rfl rfl ?_
  refine s_iload_n (i := 2) dX9_writeShelf_73 rfl rfl ?_
  obtain ⟨a1, ea1, h⟩ := h
  obtain ⟨t2, h⟩ := h
  exact t_callV (ci := 9) (as := [(vI x1), (vI x2)]) (S := []) gk dX9_writeShelf_74 gX9_89 (by decide) rfl w_1757 wp_25 ea1 t2 rfl rfl (Nat.le_of_ble_eq_true rfl) (by decide) h
theorem vX9_writeShelf_77 {G : GG} (gk : GOK G) {σ : Mm} {K : RES → Mm → Prop} {x0 : Option Nat} {x1 : Int32} {x2 : Int32} {s0 : Int32}
    (h : ((s0 = 0 → At G mX9_writeShelf rX9_writeShelf 0 0 86 [some (vR x0), some (vI x1), some (vI x2)] [] σ K) ∧ (¬ s0 = 0 → ∃ a2, x0 = some a2 ∧ (mt σ a2).1 = 10 ∧ Runs G mX9_says rX9_says [(vR x0), (vI (126 : Int32))] σ (bk G mX9_writeShelf rX9_writeShelf 0 0 86 [some (vR x0), some (vI x1), some (vI x2)] [] K)))) : At G mX9_writeShelf rX9_writeShelf 0 0 77 [some (vR x0), some (vI x1), some (vI x2)] [(vI s0)] σ K := by
  refine s_if_eq (tgt := 86) dX9_writeShelf_77 (by decide) (fun q1 => ?_) (fun q1 => ?_)
  · have h := h.1 q1
    exact h
  · have h := h.2 q1
    refine s_aload_n (i := 0) dX9_writeShelf_80 rfl rfl ?_
    refine s_bipush (v := 126) dX9_writeShelf_81 (by decide) ?_
    obtain ⟨a2, ea2, h⟩ := h
    obtain ⟨t3, h⟩ := h
    exact t_callV (ci := 9) (as := [(vI (126 : Int32))]) (S := []) gk dX9_writeShelf_83 gX9_170 (by decide) rfl w_1883 wp_35 ea2 t3 rfl rfl (Nat.le_of_ble_eq_true rfl) (by decide) h
theorem vX9_writeShelf_86 {G : GG} (gk : GOK G) {σ : Mm} {K : RES → Mm → Prop} {x0 : Option Nat} {x1 : Int32} {x2 : Int32}
    (h : ∃ a1, x0 = some a1 ∧ (mt σ a1).1 = 10 ∧ Runs G mX9_echo rX9_echo [(vI x1), (vI x2)] σ (bk G mX9_writeShelf rX9_writeShelf 0 0 95 [some (vR x0), some (vI x1), some (vI x2)] [(vR (mr σ a1 0))] K)) : At G mX9_writeShelf rX9_writeShelf 0 0 86 [some (vR x0), some (vI x1), some (vI x2)] [] σ K := by
  refine s_aload_n (i := 0) dX9_writeShelf_86 rfl rfl ?_
  obtain ⟨a1, ea1, h⟩ := h
  obtain ⟨t2, h⟩ := h
  refine t_getR gk dX9_writeShelf_87 fX9_9 rfl ea1 t2 ?_
  refine s_iload_n (i := 1) dX9_writeShelf_90 rfl rfl ?_
  refine s_iload_n (i := 2) dX9_writeShelf_91 rfl rfl ?_
  exact s_callS (as := [(vI x1), (vI x2)]) (S := [(vR (mr σ a1 0))]) gk dX9_writeShelf_92 gX9_66 w_1641 rfl rfl (Nat.le_of_ble_eq_true rfl) (by decide) h
theorem vX9_writeShelf_95 {G : GG} (gk : GOK G) {σ : Mm} {K : RES → Mm → Prop} {x0 : Option Nat} {x1 : Int32} {x2 : Int32} {s0 : Int32} {s1 : Option Nat}
    (h : ∃ a1, s1 = some a1 ∧ ∃ n3, mt σ a1 = (50, n3) ∧ vp_in (s0 + (6 : Int32)) n3 ∧ ((¬ (mi σ a1 (s0 + (6 : Int32)).toNatClampNeg) = (1 : Int32) → At G mX9_writeShelf rX9_writeShelf 0 0 109 [some (vR x0), some (vI x1), some (vI x2)] [] σ K) ∧ ((mi σ a1 (s0 + (6 : Int32)).toNatClampNeg) = (1 : Int32) → ∃ a6, x0 = some a6 ∧ (mt σ a6).1 = 10 ∧ Runs G mX9_says rX9_says [(vR x0), (vI (33 : Int32))] σ (bk G mX9_writeShelf rX9_writeShelf 0 0 109 [some (vR x0), some (vI x1), some (vI x2)] [] K)))) : At G mX9_writeShelf rX9_writeShelf 0 0 95 [some (vR x0), some (vI x1), some (vI x2)] [(vI s0), (vR s1)] σ K := by
  refine s_bipush (v := 6) dX9_writeShelf_95 (by decide) ?_
  refine s_iadd dX9_writeShelf_97 ?_
  obtain ⟨a1, ea1, h⟩ := h
  obtain ⟨n3, t2, h⟩ := h
  obtain ⟨c4, h⟩ := h
  refine t_iald gk dX9_writeShelf_98 ea1 t2 c4 ?_
  refine s_iconst (v := 1) dX9_writeShelf_99 (by decide) ?_
  refine s_icmp_ne (tgt := 109) dX9_writeShelf_100 (by decide) (fun q5 => ?_) (fun q5 => ?_)
  · have h := h.1 q5
    exact h
  · have h := h.2 q5
    refine s_aload_n (i := 0) dX9_writeShelf_103 rfl rfl ?_
    refine s_bipush (v := 33) dX9_writeShelf_104 (by decide) ?_
    obtain ⟨a6, ea6, h⟩ := h
    obtain ⟨t7, h⟩ := h
    exact t_callV (ci := 9) (as := [(vI (33 : Int32))]) (S := []) gk dX9_writeShelf_106 gX9_170 (by decide) rfl w_1883 wp_35 ea6 t7 rfl rfl (Nat.le_of_ble_eq_true rfl) (by decide) h
theorem vX9_writeShelf_109 {G : GG} (gk : GOK G) {σ : Mm} {K : RES → Mm → Prop} {x0 : Option Nat} {x1 : Int32} {x2 : Int32}
    (h : At G mX9_writeShelf rX9_writeShelf 0 0 22 [some (vR x0), some (vI x1), some (vI (x2 + 1))] [] σ K) : At G mX9_writeShelf rX9_writeShelf 0 0 109 [some (vR x0), some (vI x1), some (vI x2)] [] σ K := by
  refine s_iinc (v := x2 + 1) (L' := [some (vR x0), some (vI x1), some (vI (x2 + 1))]) dX9_writeShelf_109 rfl rfl rfl (by decide) rfl ?_
  refine s_goto (tgt := 22) dX9_writeShelf_112 (by decide) ?_
  exact h
theorem vX9_lineAt_0 {G : GG} (gk : GOK G) {σ : Mm} {K : RES → Mm → Prop} {x0 : Option Nat} {x1 : Int32}
    (h : ∃ a1, x0 = some a1 ∧ (mt σ a1).1 = 10 ∧ Runs G mX9_in rX9_in [(vI x1), (vI (0 : Int32)), (vI ((mi σ a1 8) - (1 : Int32)))] σ (bk G mX9_lineAt rX9_lineAt 0 0 12 [some (vR x0), some (vI x1)] [(vR x0)] K)) : At G mX9_lineAt rX9_lineAt 0 0 0 [some (vR x0), some (vI x1)] [] σ K := by
  refine s_aload_n (i := 0) dX9_lineAt_0 rfl rfl ?_
  refine s_iload_n (i := 1) dX9_lineAt_1 rfl rfl ?_
  refine s_iconst (v := 0) dX9_lineAt_2 (by decide) ?_
  refine s_aload_n (i := 0) dX9_lineAt_3 rfl rfl ?_
  obtain ⟨a1, ea1, h⟩ := h
  obtain ⟨t2, h⟩ := h
  refine t_getI gk dX9_lineAt_4 fX9_163 rfl ea1 t2 ?_
  refine s_iconst (v := 1) dX9_lineAt_7 (by decide) ?_
  refine s_isub dX9_lineAt_8 ?_
  exact s_callS (as := [(vI x1), (vI (0 : Int32)), (vI ((mi σ a1 8) - (1 : Int32)))]) (S := [(vR x0)]) gk dX9_lineAt_9 gX9_51 w_1611 rfl rfl (Nat.le_of_ble_eq_true rfl) (by decide) h
theorem eX9_lineAt {G : GG} (gk : GOK G) {σ : Mm} {K : RES → Mm → Prop} {x0 : Option Nat} {x1 : Int32}
    (h : ∃ a1, x0 = some a1 ∧ (mt σ a1).1 = 10 ∧ Runs G mX9_in rX9_in [(vI x1), (vI (0 : Int32)), (vI ((mi σ a1 8) - (1 : Int32)))] σ (bk G mX9_lineAt rX9_lineAt 0 0 12 [some (vR x0), some (vI x1)] [(vR x0)] K)) : Runs G mX9_lineAt rX9_lineAt [(vR x0), (vI x1)] σ K := Runs.of (by decide) rfl (Nat.le_of_ble_eq_true rfl) (vX9_lineAt_0 gk h)
theorem vX9_lineAt_12 {G : GG} (gk : GOK G) {σ : Mm} {K : RES → Mm → Prop} {x0 : Option Nat} {x1 : Int32} {s0 : Int32} {s1 : Option Nat}
    (h : ∃ a1, s1 = some a1 ∧ (mt σ a1).1 = 10 ∧ Runs G mX9_isThere rX9_isThere [(vR s1), (vI s0)] σ (bk G mX9_lineAt rX9_lineAt 0 0 15 [some (vR x0), some (vI x1)] [] K)) : At G mX9_lineAt rX9_lineAt 0 0 12 [some (vR x0), some (vI x1)] [(vI s0), (vR s1)] σ K := by
  obtain ⟨a1, ea1, h⟩ := h
  obtain ⟨t2, h⟩ := h
  exact t_callV (ci := 9) (as := [(vI s0)]) (S := []) gk dX9_lineAt_12 gX9_114 (by decide) rfl w_1665 wp_17 ea1 t2 rfl rfl (Nat.le_of_ble_eq_true rfl) (by decide) h
theorem vX9_lineAt_15 {G : GG} (gk : GOK G) {σ : Mm} {K : RES → Mm → Prop} {x0 : Option Nat} {x1 : Int32} {s0 : Int32}
    (h : ((s0 = 0 → K (.inl (some (vI (32 : Int32)))) σ) ∧ (¬ s0 = 0 → ∃ a2, x0 = some a2 ∧ (mt σ a2).1 = 10 ∧ ∃ a4, mr σ a2 7 = some a4 ∧ ∃ n6, mt σ a4 = (53, n6) ∧ vp_in x1 n6 ∧ isC (mi σ a4 x1.toNatClampNeg) ∧ K (.inl (some (vI (mi σ a4 x1.toNatClampNeg)))) σ))) : At G mX9_lineAt rX9_lineAt 0 0 15 [some (vR x0), some (vI x1)] [(vI s0)] σ K := by
  refine s_if_eq (tgt := 27) dX9_lineAt_15 (by decide) (fun q1 => ?_) (fun q1 => ?_)
  · have h := h.1 q1
    refine s_bipush (v := 32) dX9_lineAt_27 (by decide) ?_
    exact s_ireturn dX9_lineAt_29 rfl rfl (by decide) (by decide) h
  · have h := h.2 q1
    refine s_aload_n (i := 0) dX9_lineAt_18 rfl rfl ?_
    obtain ⟨a2, ea2, h⟩ := h
    obtain ⟨t3, h⟩ := h
    refine t_getR gk dX9_lineAt_19 fX9_22 rfl ea2 t3 ?_
    refine s_iload_n (i := 1) dX9_lineAt_22 rfl rfl ?_
    obtain ⟨a4, ea4, h⟩ := h
    obtain ⟨n6, t5, h⟩ := h
    obtain ⟨c7, h⟩ := h
    refine t_cald gk dX9_lineAt_23 ea4 t5 c7 ?_
    refine s_goto (tgt := 29) dX9_lineAt_24 (by decide) ?_
    obtain ⟨c8, h⟩ := h
    exact s_ireturn dX9_lineAt_29 rfl (nf_c c8).1 (by decide) (by decide) h
theorem vX9_type_0 {G : GG} (gk : GOK G) {σ : Mm} {K : RES → Mm → Prop} {x0 : Option Nat} {x1 : Int32}
    (h : Runs G mX9_in rX9_in [(vI x1), (vI (32 : Int32)), (vI (126 : Int32))] σ (bk G mX9_type rX9_type 0 0 9 [some (vR x0), some (vI x1)] [(vR x0)] K)) : At G mX9_type rX9_type 0 0 0 [some (vR x0), some (vI x1)] [] σ K := by
  refine s_aload_n (i := 0) dX9_type_0 rfl rfl ?_
  refine s_iload_n (i := 1) dX9_type_1 rfl rfl ?_
  refine s_bipush (v := 32) dX9_type_2 (by decide) ?_
  refine s_bipush (v := 126) dX9_type_4 (by decide) ?_
  exact s_callS (as := [(vI x1), (vI (32 : Int32)), (vI (126 : Int32))]) (S := [(vR x0)]) gk dX9_type_6 gX9_51 w_1611 rfl rfl (Nat.le_of_ble_eq_true rfl) (by decide) h
theorem eX9_type {G : GG} (gk : GOK G) {σ : Mm} {K : RES → Mm → Prop} {x0 : Option Nat} {x1 : Int32}
    (h : Runs G mX9_in rX9_in [(vI x1), (vI (32 : Int32)), (vI (126 : Int32))] σ (bk G mX9_type rX9_type 0 0 9 [some (vR x0), some (vI x1)] [(vR x0)] K)) : Runs G mX9_type rX9_type [(vR x0), (vI x1)] σ K := Runs.of (by decide) rfl (Nat.le_of_ble_eq_true rfl) (vX9_type_0 gk h)
theorem vX9_type_9 {G : GG} (gk : GOK G) {σ : Mm} {K : RES → Mm → Prop} {x0 : Option Nat} {x1 : Int32} {s0 : Int32} {s1 : Option Nat}
    (h : ((¬ s0 = 0 → ∃ a2, x0 = some a2 ∧ (mt σ a2).1 = 10 ∧ ((¬ (mi σ a2 10) = (60 : Int32) → ∃ a5, s1 = some a5 ∧ (mt σ a5).1 = 10 ∧ ∀ σ7, σ7 = si σ a5 6 (0 : Int32) → (((mi σ7 a2 6) ≤ 0 → ∃ a9, mr σ7 a2 9 = some a9 ∧ ∃ n11, mt σ a9 = (53, n11) ∧ vp_in (mi σ7 a2 10) n11 ∧ isC x1 ∧ ∀ σ13, σ13 = si σ7 a9 (mi σ7 a2 10).toNatClampNeg x1 → ∀ σ15, σ15 = si σ13 a2 10 ((mi σ13 a2 10) + (1 : Int32)) → K (.inl (some (vI (mi σ15 a2 10)))) σ15) ∧ (¬ (mi σ7 a2 6) ≤ 0 → K (.inl (some (vI (0 : Int32)))) σ7))) ∧ ((mi σ a2 10) = (60 : Int32) → ∃ a16, s1 = some a16 ∧ (mt σ a16).1 = 10 ∧ ∀ σ18, σ18 = si σ a16 6 (2 : Int32) → (((mi σ18 a2 6) ≤ 0 → ∃ a20, mr σ18 a2 9 = some a20 ∧ ∃ n22, mt σ a20 = (53, n22) ∧ vp_in (mi σ18 a2 10) n22 ∧ isC x1 ∧ ∀ σ24, σ24 = si σ18 a20 (mi σ18 a2 10).toNatClampNeg x1 → ∀ σ26, σ26 = si σ24 a2 10 ((mi σ24 a2 10) + (1 : Int32)) → K (.inl (some (vI (mi σ26 a2 10)))) σ26) ∧ (¬ (mi σ18 a2 6) ≤ 0 → K (.inl (some (vI (0 : Int32)))) σ18))))) ∧ (s0 = 0 → ∃ a27, s1 = some a27 ∧ (mt σ a27).1 = 10 ∧ ∀ σ29, σ29 = si σ a27 6 (1 : Int32) → ∃ a30, x0 = some a30 ∧ (mt σ a30).1 = 10 ∧ (((mi σ29 a30 6) ≤ 0 → ∃ a33, mr σ29 a30 9 = some a33 ∧ ∃ n35, mt σ a33 = (53, n35) ∧ vp_in (mi σ29 a30 10) n35 ∧ isC x1 ∧ ∀ σ37, σ37 = si σ29 a33 (mi σ29 a30 10).toNatClampNeg x1 → ∀ σ39, σ39 = si σ37 a30 10 ((mi σ37 a30 10) + (1 : Int32)) → K (.inl (some (vI (mi σ39 a30 10)))) σ39) ∧ (¬ (mi σ29 a30 6) ≤ 0 → K (.inl (some (vI (0 : Int32)))) σ29))))) : At G mX9_type rX9_type 0 0 9 [some (vR x0), some (vI x1)] [(vI s0), (vR s1)] σ K := by
  refine s_if_ne (tgt := 16) dX9_type_9 (by decide) (fun q1 => ?_) (fun q1 => ?_)
  · have h := h.1 q1
    refine s_aload_n (i := 0) dX9_type_16 rfl rfl ?_
    obtain ⟨a2, ea2, h⟩ := h
    obtain ⟨t3, h⟩ := h
    refine t_getI gk dX9_type_17 fX9_173 rfl ea2 t3 ?_
    refine s_bipush (v := 60) dX9_type_20 (by decide) ?_
    refine s_icmp_ne (tgt := 29) dX9_type_22 (by decide) (fun q4 => ?_) (fun q4 => ?_)
    · have h := h.1 q4
      refine s_iconst (v := 0) dX9_type_29 (by decide) ?_
      obtain ⟨a5, ea5, h⟩ := h
      obtain ⟨t6, h⟩ := h
      refine t_putI gk dX9_type_30 fX9_39 rfl rfl ea5 t6 ⟨rfl, rfl⟩ (fun σ7 eσ7 mσ7 => ?_)
      replace h := h σ7 eσ7
      refine s_aload_n (i := 0) dX9_type_33 rfl rfl ?_
      refine t_getI gk dX9_type_34 fX9_39 rfl ea2 (by rw [mσ7]; exact t3) ?_
      refine s_if_le (tgt := 42) dX9_type_37 (by decide) (fun q8 => ?_) (fun q8 => ?_)
      · have h := h.1 q8
        refine s_aload_n (i := 0) dX9_type_42 rfl rfl ?_
        refine t_getR gk dX9_type_43 fX9_26 rfl ea2 (by rw [mσ7]; exact t3) ?_
        refine s_aload_n (i := 0) dX9_type_46 rfl rfl ?_
        refine t_getI gk dX9_type_47 fX9_173 rfl ea2 (by rw [mσ7]; exact t3) ?_
        refine s_iload_n (i := 1) dX9_type_50 rfl rfl ?_
        obtain ⟨a9, ea9, h⟩ := h
        obtain ⟨n11, t10, h⟩ := h
        obtain ⟨c12, h⟩ := h
        obtain ⟨c14, h⟩ := h
        refine t_cast gk dX9_type_51 ea9 (by rw [mσ7]; exact t10) c12 (nf_c c14).1 (fun σ13 eσ13 mσ13 => ?_)
        replace h := h σ13 eσ13
        refine s_aload_n (i := 0) dX9_type_52 rfl rfl ?_
        refine s_dup dX9_type_53 rfl ?_
        refine t_getI gk dX9_type_54 fX9_173 rfl ea2 (by rw [mσ13, mσ7]; exact t3) ?_
        refine s_iconst (v := 1) dX9_type_57 (by decide) ?_
        refine s_iadd dX9_type_58 ?_
        refine t_putI gk dX9_type_59 fX9_173 rfl rfl ea2 (by rw [mσ13, mσ7]; exact t3) ⟨rfl, rfl⟩ (fun σ15 eσ15 mσ15 => ?_)
        replace h := h σ15 eσ15
        refine s_aload_n (i := 0) dX9_type_62 rfl rfl ?_
        refine t_getI gk dX9_type_63 fX9_173 rfl ea2 (by rw [mσ15, mσ13, mσ7]; exact t3) ?_
        exact s_ireturn dX9_type_66 rfl rfl (by decide) (by decide) h
      · have h := h.2 q8
        refine s_iconst (v := 0) dX9_type_40 (by decide) ?_
        exact s_ireturn dX9_type_41 rfl rfl (by decide) (by decide) h
    · have h := h.2 q4
      refine s_iconst (v := 2) dX9_type_25 (by decide) ?_
      refine s_goto (tgt := 30) dX9_type_26 (by decide) ?_
      obtain ⟨a16, ea16, h⟩ := h
      obtain ⟨t17, h⟩ := h
      refine t_putI gk dX9_type_30 fX9_39 rfl rfl ea16 t17 ⟨rfl, rfl⟩ (fun σ18 eσ18 mσ18 => ?_)
      replace h := h σ18 eσ18
      refine s_aload_n (i := 0) dX9_type_33 rfl rfl ?_
      refine t_getI gk dX9_type_34 fX9_39 rfl ea2 (by rw [mσ18]; exact t3) ?_
      refine s_if_le (tgt := 42) dX9_type_37 (by decide) (fun q19 => ?_) (fun q19 => ?_)
      · have h := h.1 q19
        refine s_aload_n (i := 0) dX9_type_42 rfl rfl ?_
        refine t_getR gk dX9_type_43 fX9_26 rfl ea2 (by rw [mσ18]; exact t3) ?_
        refine s_aload_n (i := 0) dX9_type_46 rfl rfl ?_
        refine t_getI gk dX9_type_47 fX9_173 rfl ea2 (by rw [mσ18]; exact t3) ?_
        refine s_iload_n (i := 1) dX9_type_50 rfl rfl ?_
        obtain ⟨a20, ea20, h⟩ := h
        obtain ⟨n22, t21, h⟩ := h
        obtain ⟨c23, h⟩ := h
        obtain ⟨c25, h⟩ := h
        refine t_cast gk dX9_type_51 ea20 (by rw [mσ18]; exact t21) c23 (nf_c c25).1 (fun σ24 eσ24 mσ24 => ?_)
        replace h := h σ24 eσ24
        refine s_aload_n (i := 0) dX9_type_52 rfl rfl ?_
        refine s_dup dX9_type_53 rfl ?_
        refine t_getI gk dX9_type_54 fX9_173 rfl ea2 (by rw [mσ24, mσ18]; exact t3) ?_
        refine s_iconst (v := 1) dX9_type_57 (by decide) ?_
        refine s_iadd dX9_type_58 ?_
        refine t_putI gk dX9_type_59 fX9_173 rfl rfl ea2 (by rw [mσ24, mσ18]; exact t3) ⟨rfl, rfl⟩ (fun σ26 eσ26 mσ26 => ?_)
        replace h := h σ26 eσ26
        refine s_aload_n (i := 0) dX9_type_62 rfl rfl ?_
        refine t_getI gk dX9_type_63 fX9_173 rfl ea2 (by rw [mσ26, mσ24, mσ18]; exact t3) ?_
        exact s_ireturn dX9_type_66 rfl rfl (by decide) (by decide) h
      · have h := h.2 q19
        refine s_iconst (v := 0) dX9_type_40 (by decide) ?_
        exact s_ireturn dX9_type_41 rfl rfl (by decide) (by decide) h
  · have h := h.2 q1
    refine s_iconst (v := 1) dX9_type_12 (by decide) ?_
    refine s_goto (tgt := 30) dX9_type_13 (by decide) ?_
    obtain ⟨a27, ea27, h⟩ := h
    obtain ⟨t28, h⟩ := h
    refine t_putI gk dX9_type_30 fX9_39 rfl rfl ea27 t28 ⟨rfl, rfl⟩ (fun σ29 eσ29 mσ29 => ?_)
    replace h := h σ29 eσ29
    refine s_aload_n (i := 0) dX9_type_33 rfl rfl ?_
    obtain ⟨a30, ea30, h⟩ := h
    obtain ⟨t31, h⟩ := h
    refine t_getI gk dX9_type_34 fX9_39 rfl ea30 (by rw [mσ29]; exact t31) ?_
    refine s_if_le (tgt := 42) dX9_type_37 (by decide) (fun q32 => ?_) (fun q32 => ?_)
    · have h := h.1 q32
      refine s_aload_n (i := 0) dX9_type_42 rfl rfl ?_
      refine t_getR gk dX9_type_43 fX9_26 rfl ea30 (by rw [mσ29]; exact t31) ?_
      refine s_aload_n (i := 0) dX9_type_46 rfl rfl ?_
      refine t_getI gk dX9_type_47 fX9_173 rfl ea30 (by rw [mσ29]; exact t31) ?_
      refine s_iload_n (i := 1) dX9_type_50 rfl rfl ?_
      obtain ⟨a33, ea33, h⟩ := h
      obtain ⟨n35, t34, h⟩ := h
      obtain ⟨c36, h⟩ := h
      obtain ⟨c38, h⟩ := h
      refine t_cast gk dX9_type_51 ea33 (by rw [mσ29]; exact t34) c36 (nf_c c38).1 (fun σ37 eσ37 mσ37 => ?_)
      replace h := h σ37 eσ37
      refine s_aload_n (i := 0) dX9_type_52 rfl rfl ?_
      refine s_dup dX9_type_53 rfl ?_
      refine t_getI gk dX9_type_54 fX9_173 rfl ea30 (by rw [mσ37, mσ29]; exact t31) ?_
      refine s_iconst (v := 1) dX9_type_57 (by decide) ?_
      refine s_iadd dX9_type_58 ?_
      refine t_putI gk dX9_type_59 fX9_173 rfl rfl ea30 (by rw [mσ37, mσ29]; exact t31) ⟨rfl, rfl⟩ (fun σ39 eσ39 mσ39 => ?_)
      replace h := h σ39 eσ39
      refine s_aload_n (i := 0) dX9_type_62 rfl rfl ?_
      refine t_getI gk dX9_type_63 fX9_173 rfl ea30 (by rw [mσ39, mσ37, mσ29]; exact t31) ?_
      exact s_ireturn dX9_type_66 rfl rfl (by decide) (by decide) h
    · have h := h.2 q32
      refine s_iconst (v := 0) dX9_type_40 (by decide) ?_
      exact s_ireturn dX9_type_41 rfl rfl (by decide) (by decide) h
theorem vX9_behind_0 {G : GG} (gk : GOK G) {σ : Mm} {K : RES → Mm → Prop} {x0 : Option Nat} {x1 : Int32}
    (h : ∃ a1, x0 = some a1 ∧ (mt σ a1).1 = 10 ∧ (((mi σ a1 10) ≤ ((mi σ a1 11) + x1) → K (.inl (some (vI (-1 : Int32)))) σ) ∧ (¬ (mi σ a1 10) ≤ ((mi σ a1 11) + x1) → ∃ a4, mr σ a1 9 = some a4 ∧ ∃ n6, mt σ a4 = (53, n6) ∧ vp_in ((mi σ a1 11) + x1) n6 ∧ K (.inl (some (vI (mi σ a4 ((mi σ a1 11) + x1).toNatClampNeg)))) σ))) : At G mX9_behind rX9_behind 0 0 0 [some (vR x0), some (vI x1)] [] σ K := by
  refine s_aload_n (i := 0) dX9_behind_0 rfl rfl ?_
  obtain ⟨a1, ea1, h⟩ := h
  obtain ⟨t2, h⟩ := h
  refine t_getI gk dX9_behind_1 fX9_176 rfl ea1 t2 ?_
  refine s_iload_n (i := 1) dX9_behind_4 rfl rfl ?_
  refine s_iadd dX9_behind_5 ?_
  refine s_aload_n (i := 0) dX9_behind_6 rfl rfl ?_
  refine t_getI gk dX9_behind_7 fX9_173 rfl ea1 t2 ?_
  refine s_icmp_ge (tgt := 27) dX9_behind_10 (by decide) (fun q3 => ?_) (fun q3 => ?_)
  · have h := h.1 q3
    refine s_iconst (v := -1) dX9_behind_27 (by decide) ?_
    exact s_ireturn dX9_behind_28 rfl rfl (by decide) (by decide) h
  · have h := h.2 q3
    refine s_aload_n (i := 0) dX9_behind_13 rfl rfl ?_
    refine t_getR gk dX9_behind_14 fX9_26 rfl ea1 t2 ?_
    refine s_aload_n (i := 0) dX9_behind_17 rfl rfl ?_
    refine t_getI gk dX9_behind_18 fX9_176 rfl ea1 t2 ?_
    refine s_iload_n (i := 1) dX9_behind_21 rfl rfl ?_
    refine s_iadd dX9_behind_22 ?_
    obtain ⟨a4, ea4, h⟩ := h
    obtain ⟨n6, t5, h⟩ := h
    obtain ⟨c7, h⟩ := h
    refine t_cald gk dX9_behind_23 ea4 t5 c7 ?_
    refine s_goto (tgt := 28) dX9_behind_24 (by decide) ?_
    exact s_ireturn dX9_behind_28 rfl rfl (by decide) (by decide) h
theorem eX9_behind {G : GG} (gk : GOK G) {σ : Mm} {K : RES → Mm → Prop} {x0 : Option Nat} {x1 : Int32}
    (h : ∃ a1, x0 = some a1 ∧ (mt σ a1).1 = 10 ∧ (((mi σ a1 10) ≤ ((mi σ a1 11) + x1) → K (.inl (some (vI (-1 : Int32)))) σ) ∧ (¬ (mi σ a1 10) ≤ ((mi σ a1 11) + x1) → ∃ a4, mr σ a1 9 = some a4 ∧ ∃ n6, mt σ a4 = (53, n6) ∧ vp_in ((mi σ a1 11) + x1) n6 ∧ K (.inl (some (vI (mi σ a4 ((mi σ a1 11) + x1).toNatClampNeg)))) σ))) : Runs G mX9_behind rX9_behind [(vR x0), (vI x1)] σ K := Runs.of (by decide) rfl (Nat.le_of_ble_eq_true rfl) (vX9_behind_0 gk h)
theorem vX9_skip_0 {G : GG} (gk : GOK G) {σ : Mm} {K : RES → Mm → Prop} {x0 : Option Nat} {x1 : Option Nat}
    (h : At G mX9_skip rX9_skip 0 0 2 [some (vR x0), some (vR x1), some (vI (0 : Int32))] [] σ K) : At G mX9_skip rX9_skip 0 0 0 [some (vR x0), some (vR x1), none] [] σ K := by
  refine s_iconst (v := 0) dX9_skip_0 (by decide) ?_
  refine s_istore_n (i := 2) (L' := [some (vR x0), some (vR x1), some (vI (0 : Int32))]) dX9_skip_1 rfl rfl (by decide) rfl ?_
  exact h
theorem eX9_skip {G : GG} (gk : GOK G) {σ : Mm} {K : RES → Mm → Prop} {x0 : Option Nat} {x1 : Option Nat}
    (h : At G mX9_skip rX9_skip 0 0 2 [some (vR x0), some (vR x1), some (vI (0 : Int32))] [] σ K) : Runs G mX9_skip rX9_skip [(vR x0), (vR x1)] σ K := Runs.of (by decide) rfl (Nat.le_of_ble_eq_true rfl) (vX9_skip_0 gk h)
-- X9_skip 2: KeyError('java/lang/String')
theorem vX9_skip_7 {G : GG} (gk : GOK G) {σ : Mm} {K : RES → Mm → Prop} {x0 : Option Nat} {x1 : Option Nat} {x2 : Int32} {s0 : Int32} {s1 : Int32}
    (h : ((s0 ≤ s1 → K (.inl none) σ) ∧ (¬ s0 ≤ s1 → ∃ a2, x0 = some a2 ∧ (mt σ a2).1 = 10 ∧ ((¬ (mi σ a2 12) = 0 → K (.inl none) σ) ∧ ((mi σ a2 12) = 0 → Runs G mX9_behind rX9_behind [(vR x0), (vI (0 : Int32))] σ (bk G mX9_skip rX9_skip 0 0 23 [some (vR x0), some (vR x1), some (vI x2)] [(vR x0)] K)))))) : At G mX9_skip rX9_skip 0 0 7 [some (vR x0), some (vR x1), some (vI x2)] [(vI s0), (vI s1)] σ K := by
  refine s_icmp_ge (tgt := 66) dX9_skip_7 (by decide) (fun q1 => ?_) (fun q1 => ?_)
  · have h := h.1 q1
    exact s_return dX9_skip_66 rfl (by decide) (by decide) h
  · have h := h.2 q1
    refine s_aload_n (i := 0) dX9_skip_10 rfl rfl ?_
    obtain ⟨a2, ea2, h⟩ := h
    obtain ⟨t3, h⟩ := h
    refine t_getI gk dX9_skip_11 fX9_183 rfl ea2 t3 ?_
    refine s_if_ne (tgt := 66) dX9_skip_14 (by decide) (fun q4 => ?_) (fun q4 => ?_)
    · have h := h.1 q4
      exact s_return dX9_skip_66 rfl (by decide) (by decide) h
    · have h := h.2 q4
      refine s_aload_n (i := 0) dX9_skip_17 rfl rfl ?_
      refine s_aload_n (i := 0) dX9_skip_18 rfl rfl ?_
      refine s_iconst (v := 0) dX9_skip_19 (by decide) ?_
      exact t_callV (ci := 9) (as := [(vI (0 : Int32))]) (S := [(vR x0)]) gk dX9_skip_20 gX9_187 (by decide) rfl w_1907 wp_38 ea2 t3 rfl rfl (Nat.le_of_ble_eq_true rfl) (by decide) h
-- X9_skip 23: KeyError('java/lang/String')
theorem vX9_skip_28 {G : GG} (gk : GOK G) {σ : Mm} {K : RES → Mm → Prop} {x0 : Option Nat} {x1 : Option Nat} {x2 : Int32} {s0 : Int32} {s1 : Int32} {s2 : Option Nat}
    (h : ((s1 = s0 → ∃ a2, s2 = some a2 ∧ (mt σ a2).1 = 10 ∧ ∀ σ4, σ4 = si σ a2 12 (0 : Int32) → ∃ a5, x0 = some a5 ∧ (mt σ a5).1 = 10 ∧ (((mi σ4 a5 12) = 0 → ∀ σ8, σ8 = si σ4 a5 11 ((mi σ4 a5 11) + (1 : Int32)) → At G mX9_skip rX9_skip 0 0 2 [some (vR x0), some (vR x1), some (vI (x2 + 1))] [] σ8 K) ∧ (¬ (mi σ4 a5 12) = 0 → ∀ σ9, σ9 = si σ4 a5 11 ((mi σ4 a5 11) + (0 : Int32)) → At G mX9_skip rX9_skip 0 0 2 [some (vR x0), some (vR x1), some (vI (x2 + 1))] [] σ9 K))) ∧ (¬ s1 = s0 → ∃ a10, s2 = some a10 ∧ (mt σ a10).1 = 10 ∧ ∀ σ12, σ12 = si σ a10 12 (1 : Int32) → ∃ a13, x0 = some a13 ∧ (mt σ a13).1 = 10 ∧ (((mi σ12 a13 12) = 0 → ∀ σ16, σ16 = si σ12 a13 11 ((mi σ12 a13 11) + (1 : Int32)) → At G mX9_skip rX9_skip 0 0 2 [some (vR x0), some (vR x1), some (vI (x2 + 1))] [] σ16 K) ∧ (¬ (mi σ12 a13 12) = 0 → ∀ σ17, σ17 = si σ12 a13 11 ((mi σ12 a13 11) + (0 : Int32)) → At G mX9_skip rX9_skip 0 0 2 [some (vR x0), some (vR x1), some (vI (x2 + 1))] [] σ17 K))))) : At G mX9_skip rX9_skip 0 0 28 [some (vR x0), some (vR x1), some (vI x2)] [(vI s0), (vI s1), (vR s2)] σ K := by
  refine s_icmp_eq (tgt := 35) dX9_skip_28 (by decide) (fun q1 => ?_) (fun q1 => ?_)
  · have h := h.1 q1
    refine s_iconst (v := 0) dX9_skip_35 (by decide) ?_
    obtain ⟨a2, ea2, h⟩ := h
    obtain ⟨t3, h⟩ := h
    refine t_putI gk dX9_skip_36 fX9_183 rfl rfl ea2 t3 ⟨rfl, rfl⟩ (fun σ4 eσ4 mσ4 => ?_)
    replace h := h σ4 eσ4
    refine s_aload_n (i := 0) dX9_skip_39 rfl rfl ?_
    refine s_dup dX9_skip_40 rfl ?_
    obtain ⟨a5, ea5, h⟩ := h
    obtain ⟨t6, h⟩ := h
    refine t_getI gk dX9_skip_41 fX9_176 rfl ea5 (by rw [mσ4]; exact t6) ?_
    refine s_aload_n (i := 0) dX9_skip_44 rfl rfl ?_
    refine t_getI gk dX9_skip_45 fX9_183 rfl ea5 (by rw [mσ4]; exact t6) ?_
    refine s_if_eq (tgt := 55) dX9_skip_48 (by decide) (fun q7 => ?_) (fun q7 => ?_)
    · have h := h.1 q7
      refine s_iconst (v := 1) dX9_skip_55 (by decide) ?_
      refine s_iadd dX9_skip_56 ?_
      refine t_putI gk dX9_skip_57 fX9_176 rfl rfl ea5 (by rw [mσ4]; exact t6) ⟨rfl, rfl⟩ (fun σ8 eσ8 mσ8 => ?_)
      replace h := h σ8 eσ8
      refine s_iinc (v := x2 + 1) (L' := [some (vR x0), some (vR x1), some (vI (x2 + 1))]) dX9_skip_60 rfl rfl rfl (by decide) rfl ?_
      refine s_goto (tgt := 2) dX9_skip_63 (by decide) ?_
      exact h
    · have h := h.2 q7
      refine s_iconst (v := 0) dX9_skip_51 (by decide) ?_
      refine s_goto (tgt := 56) dX9_skip_52 (by decide) ?_
      refine s_iadd dX9_skip_56 ?_
      refine t_putI gk dX9_skip_57 fX9_176 rfl rfl ea5 (by rw [mσ4]; exact t6) ⟨rfl, rfl⟩ (fun σ9 eσ9 mσ9 => ?_)
      replace h := h σ9 eσ9
      refine s_iinc (v := x2 + 1) (L' := [some (vR x0), some (vR x1), some (vI (x2 + 1))]) dX9_skip_60 rfl rfl rfl (by decide) rfl ?_
      refine s_goto (tgt := 2) dX9_skip_63 (by decide) ?_
      exact h
  · have h := h.2 q1
    refine s_iconst (v := 1) dX9_skip_31 (by decide) ?_
    refine s_goto (tgt := 36) dX9_skip_32 (by decide) ?_
    obtain ⟨a10, ea10, h⟩ := h
    obtain ⟨t11, h⟩ := h
    refine t_putI gk dX9_skip_36 fX9_183 rfl rfl ea10 t11 ⟨rfl, rfl⟩ (fun σ12 eσ12 mσ12 => ?_)
    replace h := h σ12 eσ12
    refine s_aload_n (i := 0) dX9_skip_39 rfl rfl ?_
    refine s_dup dX9_skip_40 rfl ?_
    obtain ⟨a13, ea13, h⟩ := h
    obtain ⟨t14, h⟩ := h
    refine t_getI gk dX9_skip_41 fX9_176 rfl ea13 (by rw [mσ12]; exact t14) ?_
    refine s_aload_n (i := 0) dX9_skip_44 rfl rfl ?_
    refine t_getI gk dX9_skip_45 fX9_183 rfl ea13 (by rw [mσ12]; exact t14) ?_
    refine s_if_eq (tgt := 55) dX9_skip_48 (by decide) (fun q15 => ?_) (fun q15 => ?_)
    · have h := h.1 q15
      refine s_iconst (v := 1) dX9_skip_55 (by decide) ?_
      refine s_iadd dX9_skip_56 ?_
      refine t_putI gk dX9_skip_57 fX9_176 rfl rfl ea13 (by rw [mσ12]; exact t14) ⟨rfl, rfl⟩ (fun σ16 eσ16 mσ16 => ?_)
      replace h := h σ16 eσ16
      refine s_iinc (v := x2 + 1) (L' := [some (vR x0), some (vR x1), some (vI (x2 + 1))]) dX9_skip_60 rfl rfl rfl (by decide) rfl ?_
      refine s_goto (tgt := 2) dX9_skip_63 (by decide) ?_
      exact h
    · have h := h.2 q15
      refine s_iconst (v := 0) dX9_skip_51 (by decide) ?_
      refine s_goto (tgt := 56) dX9_skip_52 (by decide) ?_
      refine s_iadd dX9_skip_56 ?_
      refine t_putI gk dX9_skip_57 fX9_176 rfl rfl ea13 (by rw [mσ12]; exact t14) ⟨rfl, rfl⟩ (fun σ17 eσ17 mσ17 => ?_)
      replace h := h σ17 eσ17
      refine s_iinc (v := x2 + 1) (L' := [some (vR x0), some (vR x1), some (vI (x2 + 1))]) dX9_skip_60 rfl rfl rfl (by decide) rfl ?_
      refine s_goto (tgt := 2) dX9_skip_63 (by decide) ?_
      exact h
theorem vX9_isDigit_0 {G : GG} (gk : GOK G) {σ : Mm} {K : RES → Mm → Prop} {x0 : Option Nat}
    (h : ∃ a1, x0 = some a1 ∧ (mt σ a1).1 = 10 ∧ ((¬ (mi σ a1 12) = 0 → K (.inl (some (vI (0 : Int32)))) σ) ∧ ((mi σ a1 12) = 0 → Runs G mX9_behind rX9_behind [(vR x0), (vI (0 : Int32))] σ (bk G mX9_isDigit rX9_isDigit 0 0 12 [some (vR x0)] [] K)))) : At G mX9_isDigit rX9_isDigit 0 0 0 [some (vR x0)] [] σ K := by
  refine s_aload_n (i := 0) dX9_isDigit_0 rfl rfl ?_
  obtain ⟨a1, ea1, h⟩ := h
  obtain ⟨t2, h⟩ := h
  refine t_getI gk dX9_isDigit_1 fX9_183 rfl ea1 t2 ?_
  refine s_if_ne (tgt := 26) dX9_isDigit_4 (by decide) (fun q3 => ?_) (fun q3 => ?_)
  · have h := h.1 q3
    refine s_iconst (v := 0) dX9_isDigit_26 (by decide) ?_
    exact s_ireturn dX9_isDigit_27 rfl rfl (by decide) (by decide) h
  · have h := h.2 q3
    refine s_aload_n (i := 0) dX9_isDigit_7 rfl rfl ?_
    refine s_iconst (v := 0) dX9_isDigit_8 (by decide) ?_
    exact t_callV (ci := 9) (as := [(vI (0 : Int32))]) (S := []) gk dX9_isDigit_9 gX9_187 (by decide) rfl w_1907 wp_38 ea1 t2 rfl rfl (Nat.le_of_ble_eq_true rfl) (by decide) h
theorem eX9_isDigit {G : GG} (gk : GOK G) {σ : Mm} {K : RES → Mm → Prop} {x0 : Option Nat}
    (h : ∃ a1, x0 = some a1 ∧ (mt σ a1).1 = 10 ∧ ((¬ (mi σ a1 12) = 0 → K (.inl (some (vI (0 : Int32)))) σ) ∧ ((mi σ a1 12) = 0 → Runs G mX9_behind rX9_behind [(vR x0), (vI (0 : Int32))] σ (bk G mX9_isDigit rX9_isDigit 0 0 12 [some (vR x0)] [] K)))) : Runs G mX9_isDigit rX9_isDigit [(vR x0)] σ K := Runs.of (by decide) rfl (Nat.le_of_ble_eq_true rfl) (vX9_isDigit_0 gk h)
theorem vX9_isDigit_12 {G : GG} (gk : GOK G) {σ : Mm} {K : RES → Mm → Prop} {x0 : Option Nat} {s0 : Int32}
    (h : Runs G mX9_in rX9_in [(vI s0), (vI (48 : Int32)), (vI (57 : Int32))] σ (bk G mX9_isDigit rX9_isDigit 0 0 19 [some (vR x0)] [] K)) : At G mX9_isDigit rX9_isDigit 0 0 12 [some (vR x0)] [(vI s0)] σ K := by
  refine s_bipush (v := 48) dX9_isDigit_12 (by decide) ?_
  refine s_bipush (v := 57) dX9_isDigit_14 (by decide) ?_
  exact s_callS (as := [(vI s0), (vI (48 : Int32)), (vI (57 : Int32))]) (S := []) gk dX9_isDigit_16 gX9_51 w_1611 rfl rfl (Nat.le_of_ble_eq_true rfl) (by decide) h
theorem vX9_isDigit_19 {G : GG} (gk : GOK G) {σ : Mm} {K : RES → Mm → Prop} {x0 : Option Nat} {s0 : Int32}
    (h : ((s0 = 0 → K (.inl (some (vI (0 : Int32)))) σ) ∧ (¬ s0 = 0 → K (.inl (some (vI (1 : Int32)))) σ))) : At G mX9_isDigit rX9_isDigit 0 0 19 [some (vR x0)] [(vI s0)] σ K := by
  refine s_if_eq (tgt := 26) dX9_isDigit_19 (by decide) (fun q1 => ?_) (fun q1 => ?_)
  · have h := h.1 q1
    refine s_iconst (v := 0) dX9_isDigit_26 (by decide) ?_
    exact s_ireturn dX9_isDigit_27 rfl rfl (by decide) (by decide) h
  · have h := h.2 q1
    refine s_iconst (v := 1) dX9_isDigit_22 (by decide) ?_
    refine s_goto (tgt := 27) dX9_isDigit_23 (by decide) ?_
    exact s_ireturn dX9_isDigit_27 rfl rfl (by decide) (by decide) h
-- X9_readNumber 0: Exception(('X9_readNumber', 1, '.ldc 193'))
theorem vX9_readNumber_6 {G : GG} (gk : GOK G) {σ : Mm} {K : RES → Mm → Prop} {x0 : Option Nat} {x1 : Int32}
    (h : ∃ a1, x0 = some a1 ∧ (mt σ a1).1 = 10 ∧ ((¬ (mi σ a1 12) = 0 → ∀ σ4, σ4 = si σ a1 12 (1 : Int32) → At G mX9_readNumber rX9_readNumber 0 0 33 [some (vR x0), some (vI x1), some (vI (0 : Int32)), some (vI (0 : Int32))] [] σ4 K) ∧ ((mi σ a1 12) = 0 → Runs G mX9_isDigit rX9_isDigit [(vR x0)] σ (bk G mX9_readNumber rX9_readNumber 0 0 18 [some (vR x0), some (vI x1), none, none] [(vR x0)] K)))) : At G mX9_readNumber rX9_readNumber 0 0 6 [some (vR x0), some (vI x1), none, none] [] σ K := by
  refine s_aload_n (i := 0) dX9_readNumber_6 rfl rfl ?_
  refine s_aload_n (i := 0) dX9_readNumber_7 rfl rfl ?_
  obtain ⟨a1, ea1, h⟩ := h
  obtain ⟨t2, h⟩ := h
  refine t_getI gk dX9_readNumber_8 fX9_183 rfl ea1 t2 ?_
  refine s_if_ne (tgt := 21) dX9_readNumber_11 (by decide) (fun q3 => ?_) (fun q3 => ?_)
  · have h := h.1 q3
    refine s_iconst (v := 1) dX9_readNumber_21 (by decide) ?_
    refine s_goto (tgt := 26) dX9_readNumber_22 (by decide) ?_
    refine t_putI gk dX9_readNumber_26 fX9_183 rfl rfl ea1 t2 ⟨rfl, rfl⟩ (fun σ4 eσ4 mσ4 => ?_)
    replace h := h σ4 eσ4
    refine s_iconst (v := 0) dX9_readNumber_29 (by decide) ?_
    refine s_istore_n (i := 2) (L' := [some (vR x0), some (vI x1), some (vI (0 : Int32)), none]) dX9_readNumber_30 rfl rfl (by decide) rfl ?_
    refine s_iconst (v := 0) dX9_readNumber_31 (by decide) ?_
    refine s_istore_n (i := 3) (L' := [some (vR x0), some (vI x1), some (vI (0 : Int32)), some (vI (0 : Int32))]) dX9_readNumber_32 rfl rfl (by decide) rfl ?_
    exact h
  · have h := h.2 q3
    refine s_aload_n (i := 0) dX9_readNumber_14 rfl rfl ?_
    exact t_callV (ci := 9) (as := []) (S := [(vR x0)]) gk dX9_readNumber_15 gX9_199 (by decide) rfl w_1928 wp_42 ea1 t2 rfl rfl (Nat.le_of_ble_eq_true rfl) (by decide) h
theorem vX9_readNumber_18 {G : GG} (gk : GOK G) {σ : Mm} {K : RES → Mm → Prop} {x0 : Option Nat} {x1 : Int32} {s0 : Int32} {s1 : Option Nat}
    (h : ((¬ s0 = 0 → ∃ a2, s1 = some a2 ∧ (mt σ a2).1 = 10 ∧ ∀ σ4, σ4 = si σ a2 12 (0 : Int32) → At G mX9_readNumber rX9_readNumber 0 0 33 [some (vR x0), some (vI x1), some (vI (0 : Int32)), some (vI (0 : Int32))] [] σ4 K) ∧ (s0 = 0 → ∃ a5, s1 = some a5 ∧ (mt σ a5).1 = 10 ∧ ∀ σ7, σ7 = si σ a5 12 (1 : Int32) → At G mX9_readNumber rX9_readNumber 0 0 33 [some (vR x0), some (vI x1), some (vI (0 : Int32)), some (vI (0 : Int32))] [] σ7 K))) : At G mX9_readNumber rX9_readNumber 0 0 18 [some (vR x0), some (vI x1), none, none] [(vI s0), (vR s1)] σ K := by
  refine s_if_ne (tgt := 25) dX9_readNumber_18 (by decide) (fun q1 => ?_) (fun q1 => ?_)
  · have h := h.1 q1
    refine s_iconst (v := 0) dX9_readNumber_25 (by decide) ?_
    obtain ⟨a2, ea2, h⟩ := h
    obtain ⟨t3, h⟩ := h
    refine t_putI gk dX9_readNumber_26 fX9_183 rfl rfl ea2 t3 ⟨rfl, rfl⟩ (fun σ4 eσ4 mσ4 => ?_)
    replace h := h σ4 eσ4
    refine s_iconst (v := 0) dX9_readNumber_29 (by decide) ?_
    refine s_istore_n (i := 2) (L' := [some (vR x0), some (vI x1), some (vI (0 : Int32)), none]) dX9_readNumber_30 rfl rfl (by decide) rfl ?_
    refine s_iconst (v := 0) dX9_readNumber_31 (by decide) ?_
    refine s_istore_n (i := 3) (L' := [some (vR x0), some (vI x1), some (vI (0 : Int32)), some (vI (0 : Int32))]) dX9_readNumber_32 rfl rfl (by decide) rfl ?_
    exact h
  · have h := h.2 q1
    refine s_iconst (v := 1) dX9_readNumber_21 (by decide) ?_
    refine s_goto (tgt := 26) dX9_readNumber_22 (by decide) ?_
    obtain ⟨a5, ea5, h⟩ := h
    obtain ⟨t6, h⟩ := h
    refine t_putI gk dX9_readNumber_26 fX9_183 rfl rfl ea5 t6 ⟨rfl, rfl⟩ (fun σ7 eσ7 mσ7 => ?_)
    replace h := h σ7 eσ7
    refine s_iconst (v := 0) dX9_readNumber_29 (by decide) ?_
    refine s_istore_n (i := 2) (L' := [some (vR x0), some (vI x1), some (vI (0 : Int32)), none]) dX9_readNumber_30 rfl rfl (by decide) rfl ?_
    refine s_iconst (v := 0) dX9_readNumber_31 (by decide) ?_
    refine s_istore_n (i := 3) (L' := [some (vR x0), some (vI x1), some (vI (0 : Int32)), some (vI (0 : Int32))]) dX9_readNumber_32 rfl rfl (by decide) rfl ?_
    exact h
theorem vX9_readNumber_33 {G : GG} (gk : GOK G) {σ : Mm} {K : RES → Mm → Prop} {x0 : Option Nat} {x1 : Int32} {x2 : Int32} {x3 : Int32}
    (h : ((x1 ≤ x3 → K (.inl (some (vI x2))) σ) ∧ (¬ x1 ≤ x3 → ∃ a2, x0 = some a2 ∧ (mt σ a2).1 = 10 ∧ Runs G mX9_isDigit rX9_isDigit [(vR x0)] σ (bk G mX9_readNumber rX9_readNumber 0 0 42 [some (vR x0), some (vI x1), some (vI x2), some (vI x3)] [] K)))) : At G mX9_readNumber rX9_readNumber 0 0 33 [some (vR x0), some (vI x1), some (vI x2), some (vI x3)] [] σ K := by
  refine s_iload_n (i := 3) dX9_readNumber_33 rfl rfl ?_
  refine s_iload_n (i := 1) dX9_readNumber_34 rfl rfl ?_
  refine s_icmp_ge (tgt := 79) dX9_readNumber_35 (by decide) (fun q1 => ?_) (fun q1 => ?_)
  · have h := h.1 q1
    refine s_iload_n (i := 2) dX9_readNumber_79 rfl rfl ?_
    exact s_ireturn dX9_readNumber_80 rfl rfl (by decide) (by decide) h
  · have h := h.2 q1
    refine s_aload_n (i := 0) dX9_readNumber_38 rfl rfl ?_
    obtain ⟨a2, ea2, h⟩ := h
    obtain ⟨t3, h⟩ := h
    exact t_callV (ci := 9) (as := []) (S := []) gk dX9_readNumber_39 gX9_199 (by decide) rfl w_1928 wp_42 ea2 t3 rfl rfl (Nat.le_of_ble_eq_true rfl) (by decide) h
theorem vX9_readNumber_42 {G : GG} (gk : GOK G) {σ : Mm} {K : RES → Mm → Prop} {x0 : Option Nat} {x1 : Int32} {x2 : Int32} {x3 : Int32} {s0 : Int32}
    (h : ((s0 = 0 → K (.inl (some (vI x2))) σ) ∧ (¬ s0 = 0 → ∃ a2, x0 = some a2 ∧ (mt σ a2).1 = 10 ∧ ∃ a4, mr σ a2 9 = some a4 ∧ ∃ n6, mt σ a4 = (53, n6) ∧ vp_in (mi σ a2 11) n6 ∧ ∀ σ8, σ8 = si σ a2 11 ((mi σ a2 11) + (1 : Int32)) → At G mX9_readNumber rX9_readNumber 0 0 33 [some (vR x0), some (vI x1), some (vI ((((10 : Int32) * x2) + (mi σ a4 (mi σ a2 11).toNatClampNeg)) - (48 : Int32))), some (vI (x3 + 1))] [] σ8 K))) : At G mX9_readNumber rX9_readNumber 0 0 42 [some (vR x0), some (vI x1), some (vI x2), some (vI x3)] [(vI s0)] σ K := by
  refine s_if_eq (tgt := 79) dX9_readNumber_42 (by decide) (fun q1 => ?_) (fun q1 => ?_)
  · have h := h.1 q1
    refine s_iload_n (i := 2) dX9_readNumber_79 rfl rfl ?_
    exact s_ireturn dX9_readNumber_80 rfl rfl (by decide) (by decide) h
  · have h := h.2 q1
    refine s_bipush (v := 10) dX9_readNumber_45 (by decide) ?_
    refine s_iload_n (i := 2) dX9_readNumber_47 rfl rfl ?_
    refine s_imul dX9_readNumber_48 ?_
    refine s_aload_n (i := 0) dX9_readNumber_49 rfl rfl ?_
    obtain ⟨a2, ea2, h⟩ := h
    obtain ⟨t3, h⟩ := h
    refine t_getR gk dX9_readNumber_50 fX9_26 rfl ea2 t3 ?_
    refine s_aload_n (i := 0) dX9_readNumber_53 rfl rfl ?_
    refine t_getI gk dX9_readNumber_54 fX9_176 rfl ea2 t3 ?_
    obtain ⟨a4, ea4, h⟩ := h
    obtain ⟨n6, t5, h⟩ := h
    obtain ⟨c7, h⟩ := h
    refine t_cald gk dX9_readNumber_57 ea4 t5 c7 ?_
    refine s_iadd dX9_readNumber_58 ?_
    refine s_bipush (v := 48) dX9_readNumber_59 (by decide) ?_
    refine s_isub dX9_readNumber_61 ?_
    refine s_istore_n (i := 2) (L' := [some (vR x0), some (vI x1), some (vI ((((10 : Int32) * x2) + (mi σ a4 (mi σ a2 11).toNatClampNeg)) - (48 : Int32))), some (vI x3)]) dX9_readNumber_62 rfl rfl (by decide) rfl ?_
    refine s_aload_n (i := 0) dX9_readNumber_63 rfl rfl ?_
    refine s_dup dX9_readNumber_64 rfl ?_
    refine t_getI gk dX9_readNumber_65 fX9_176 rfl ea2 t3 ?_
    refine s_iconst (v := 1) dX9_readNumber_68 (by decide) ?_
    refine s_iadd dX9_readNumber_69 ?_
    refine t_putI gk dX9_readNumber_70 fX9_176 rfl rfl ea2 t3 ⟨rfl, rfl⟩ (fun σ8 eσ8 mσ8 => ?_)
    replace h := h σ8 eσ8
    refine s_iinc (v := x3 + 1) (L' := [some (vR x0), some (vI x1), some (vI ((((10 : Int32) * x2) + (mi σ a4 (mi σ a2 11).toNatClampNeg)) - (48 : Int32))), some (vI (x3 + 1))]) dX9_readNumber_73 rfl rfl rfl (by decide) rfl ?_
    refine s_goto (tgt := 33) dX9_readNumber_76 (by decide) ?_
    exact h
-- X9_readLetter 0: Exception(('X9_readLetter', 1, '.ldc 193'))
theorem vX9_readLetter_6 {G : GG} (gk : GOK G) {σ : Mm} {K : RES → Mm → Prop} {x0 : Option Nat} {x1 : Int32}
    (h : ∃ a1, x0 = some a1 ∧ (mt σ a1).1 = 10 ∧ Runs G mX9_behind rX9_behind [(vR x0), (vI (0 : Int32))] σ (bk G mX9_readLetter rX9_readLetter 0 0 11 [some (vR x0), some (vI x1), none] [] K)) : At G mX9_readLetter rX9_readLetter 0 0 6 [some (vR x0), some (vI x1), none] [] σ K := by
  refine s_aload_n (i := 0) dX9_readLetter_6 rfl rfl ?_
  refine s_iconst (v := 0) dX9_readLetter_7 (by decide) ?_
  obtain ⟨a1, ea1, h⟩ := h
  obtain ⟨t2, h⟩ := h
  exact t_callV (ci := 9) (as := [(vI (0 : Int32))]) (S := []) gk dX9_readLetter_8 gX9_187 (by decide) rfl w_1907 wp_38 ea1 t2 rfl rfl (Nat.le_of_ble_eq_true rfl) (by decide) h
theorem vX9_readLetter_11 {G : GG} (gk : GOK G) {σ : Mm} {K : RES → Mm → Prop} {x0 : Option Nat} {x1 : Int32} {s0 : Int32}
    (h : ∃ a1, x0 = some a1 ∧ (mt σ a1).1 = 10 ∧ ((¬ (mi σ a1 12) = 0 → ∀ σ4, σ4 = si σ a1 12 (1 : Int32) → (((mi σ4 a1 12) = 0 → ∀ σ6, σ6 = si σ4 a1 11 ((mi σ4 a1 11) + (1 : Int32)) → K (.inl (some (vI s0))) σ6) ∧ (¬ (mi σ4 a1 12) = 0 → ∀ σ7, σ7 = si σ4 a1 11 ((mi σ4 a1 11) + (0 : Int32)) → K (.inl (some (vI s0))) σ7))) ∧ ((mi σ a1 12) = 0 → ((x1 = 0 → Runs G mX9_isLetter rX9_isLetter [(vI s0)] σ (bk G mX9_readLetter rX9_readLetter 0 0 49 [some (vR x0), some (vI x1), some (vI s0)] [(vR x0)] K)) ∧ (¬ x1 = 0 → ((s0 = (114 : Int32) → ∀ σ10, σ10 = si σ a1 12 (0 : Int32) → (((mi σ10 a1 12) = 0 → ∀ σ12, σ12 = si σ10 a1 11 ((mi σ10 a1 11) + (1 : Int32)) → K (.inl (some (vI s0))) σ12) ∧ (¬ (mi σ10 a1 12) = 0 → ∀ σ13, σ13 = si σ10 a1 11 ((mi σ10 a1 11) + (0 : Int32)) → K (.inl (some (vI s0))) σ13))) ∧ (¬ s0 = (114 : Int32) → ((s0 = (111 : Int32) → ∀ σ15, σ15 = si σ a1 12 (0 : Int32) → (((mi σ15 a1 12) = 0 → ∀ σ17, σ17 = si σ15 a1 11 ((mi σ15 a1 11) + (1 : Int32)) → K (.inl (some (vI s0))) σ17) ∧ (¬ (mi σ15 a1 12) = 0 → ∀ σ18, σ18 = si σ15 a1 11 ((mi σ15 a1 11) + (0 : Int32)) → K (.inl (some (vI s0))) σ18))) ∧ (¬ s0 = (111 : Int32) → ((s0 = (108 : Int32) → ∀ σ20, σ20 = si σ a1 12 (0 : Int32) → (((mi σ20 a1 12) = 0 → ∀ σ22, σ22 = si σ20 a1 11 ((mi σ20 a1 11) + (1 : Int32)) → K (.inl (some (vI s0))) σ22) ∧ (¬ (mi σ20 a1 12) = 0 → ∀ σ23, σ23 = si σ20 a1 11 ((mi σ20 a1 11) + (0 : Int32)) → K (.inl (some (vI s0))) σ23))) ∧ (¬ s0 = (108 : Int32) → ∀ σ24, σ24 = si σ a1 12 (1 : Int32) → (((mi σ24 a1 12) = 0 → ∀ σ26, σ26 = si σ24 a1 11 ((mi σ24 a1 11) + (1 : Int32)) → K (.inl (some (vI s0))) σ26) ∧ (¬ (mi σ24 a1 12) = 0 → ∀ σ27, σ27 = si σ24 a1 11 ((mi σ24 a1 11) + (0 : Int32)) → K (.inl (some (vI s0))) σ27))))))))))))) : At G mX9_readLetter rX9_readLetter 0 0 11 [some (vR x0), some (vI x1), none] [(vI s0)] σ K := by
  refine s_istore_n (i := 2) (L' := [some (vR x0), some (vI x1), some (vI s0)]) dX9_readLetter_11 rfl rfl (by decide) rfl ?_
  refine s_aload_n (i := 0) dX9_readLetter_12 rfl rfl ?_
  refine s_aload_n (i := 0) dX9_readLetter_13 rfl rfl ?_
  obtain ⟨a1, ea1, h⟩ := h
  obtain ⟨t2, h⟩ := h
  refine t_getI gk dX9_readLetter_14 fX9_183 rfl ea1 t2 ?_
  refine s_if_ne (tgt := 52) dX9_readLetter_17 (by decide) (fun q3 => ?_) (fun q3 => ?_)
  · have h := h.1 q3
    refine s_iconst (v := 1) dX9_readLetter_52 (by decide) ?_
    refine s_goto (tgt := 57) dX9_readLetter_53 (by decide) ?_
    refine t_putI gk dX9_readLetter_57 fX9_183 rfl rfl ea1 t2 ⟨rfl, rfl⟩ (fun σ4 eσ4 mσ4 => ?_)
    replace h := h σ4 eσ4
    refine s_aload_n (i := 0) dX9_readLetter_60 rfl rfl ?_
    refine s_dup dX9_readLetter_61 rfl ?_
    refine t_getI gk dX9_readLetter_62 fX9_176 rfl ea1 (by rw [mσ4]; exact t2) ?_
    refine s_aload_n (i := 0) dX9_readLetter_65 rfl rfl ?_
    refine t_getI gk dX9_readLetter_66 fX9_183 rfl ea1 (by rw [mσ4]; exact t2) ?_
    refine s_if_eq (tgt := 76) dX9_readLetter_69 (by decide) (fun q5 => ?_) (fun q5 => ?_)
    · have h := h.1 q5
      refine s_iconst (v := 1) dX9_readLetter_76 (by decide) ?_
      refine s_iadd dX9_readLetter_77 ?_
      refine t_putI gk dX9_readLetter_78 fX9_176 rfl rfl ea1 (by rw [mσ4]; exact t2) ⟨rfl, rfl⟩ (fun σ6 eσ6 mσ6 => ?_)
      replace h := h σ6 eσ6
      refine s_iload_n (i := 2) dX9_readLetter_81 rfl rfl ?_
      exact s_ireturn dX9_readLetter_82 rfl rfl (by decide) (by decide) h
    · have h := h.2 q5
      refine s_iconst (v := 0) dX9_readLetter_72 (by decide) ?_
      refine s_goto (tgt := 77) dX9_readLetter_73 (by decide) ?_
      refine s_iadd dX9_readLetter_77 ?_
      refine t_putI gk dX9_readLetter_78 fX9_176 rfl rfl ea1 (by rw [mσ4]; exact t2) ⟨rfl, rfl⟩ (fun σ7 eσ7 mσ7 => ?_)
      replace h := h σ7 eσ7
      refine s_iload_n (i := 2) dX9_readLetter_81 rfl rfl ?_
      exact s_ireturn dX9_readLetter_82 rfl rfl (by decide) (by decide) h
  · have h := h.2 q3
    refine s_iload_n (i := 1) dX9_readLetter_20 rfl rfl ?_
    refine s_if_eq (tgt := 45) dX9_readLetter_21 (by decide) (fun q8 => ?_) (fun q8 => ?_)
    · have h := h.1 q8
      refine s_iload_n (i := 2) dX9_readLetter_45 rfl rfl ?_
      exact s_callS (as := [(vI s0)]) (S := [(vR x0)]) gk dX9_readLetter_46 gX9_55 w_1608 rfl rfl (Nat.le_of_ble_eq_true rfl) (by decide) h
    · have h := h.2 q8
      refine s_iload_n (i := 2) dX9_readLetter_24 rfl rfl ?_
      refine s_bipush (v := 114) dX9_readLetter_25 (by decide) ?_
      refine s_icmp_eq (tgt := 56) dX9_readLetter_27 (by decide) (fun q9 => ?_) (fun q9 => ?_)
      · have h := h.1 q9
        refine s_iconst (v := 0) dX9_readLetter_56 (by decide) ?_
        refine t_putI gk dX9_readLetter_57 fX9_183 rfl rfl ea1 t2 ⟨rfl, rfl⟩ (fun σ10 eσ10 mσ10 => ?_)
        replace h := h σ10 eσ10
        refine s_aload_n (i := 0) dX9_readLetter_60 rfl rfl ?_
        refine s_dup dX9_readLetter_61 rfl ?_
        refine t_getI gk dX9_readLetter_62 fX9_176 rfl ea1 (by rw [mσ10]; exact t2) ?_
        refine s_aload_n (i := 0) dX9_readLetter_65 rfl rfl ?_
        refine t_getI gk dX9_readLetter_66 fX9_183 rfl ea1 (by rw [mσ10]; exact t2) ?_
        refine s_if_eq (tgt := 76) dX9_readLetter_69 (by decide) (fun q11 => ?_) (fun q11 => ?_)
        · have h := h.1 q11
          refine s_iconst (v := 1) dX9_readLetter_76 (by decide) ?_
          refine s_iadd dX9_readLetter_77 ?_
          refine t_putI gk dX9_readLetter_78 fX9_176 rfl rfl ea1 (by rw [mσ10]; exact t2) ⟨rfl, rfl⟩ (fun σ12 eσ12 mσ12 => ?_)
          replace h := h σ12 eσ12
          refine s_iload_n (i := 2) dX9_readLetter_81 rfl rfl ?_
          exact s_ireturn dX9_readLetter_82 rfl rfl (by decide) (by decide) h
        · have h := h.2 q11
          refine s_iconst (v := 0) dX9_readLetter_72 (by decide) ?_
          refine s_goto (tgt := 77) dX9_readLetter_73 (by decide) ?_
          refine s_iadd dX9_readLetter_77 ?_
          refine t_putI gk dX9_readLetter_78 fX9_176 rfl rfl ea1 (by rw [mσ10]; exact t2) ⟨rfl, rfl⟩ (fun σ13 eσ13 mσ13 => ?_)
          replace h := h σ13 eσ13
          refine s_iload_n (i := 2) dX9_readLetter_81 rfl rfl ?_
          exact s_ireturn dX9_readLetter_82 rfl rfl (by decide) (by decide) h
      · have h := h.2 q9
        refine s_iload_n (i := 2) dX9_readLetter_30 rfl rfl ?_
        refine s_bipush (v := 111) dX9_readLetter_31 (by decide) ?_
        refine s_icmp_eq (tgt := 56) dX9_readLetter_33 (by decide) (fun q14 => ?_) (fun q14 => ?_)
        · have h := h.1 q14
          refine s_iconst (v := 0) dX9_readLetter_56 (by decide) ?_
          refine t_putI gk dX9_readLetter_57 fX9_183 rfl rfl ea1 t2 ⟨rfl, rfl⟩ (fun σ15 eσ15 mσ15 => ?_)
          replace h := h σ15 eσ15
          refine s_aload_n (i := 0) dX9_readLetter_60 rfl rfl ?_
          refine s_dup dX9_readLetter_61 rfl ?_
          refine t_getI gk dX9_readLetter_62 fX9_176 rfl ea1 (by rw [mσ15]; exact t2) ?_
          refine s_aload_n (i := 0) dX9_readLetter_65 rfl rfl ?_
          refine t_getI gk dX9_readLetter_66 fX9_183 rfl ea1 (by rw [mσ15]; exact t2) ?_
          refine s_if_eq (tgt := 76) dX9_readLetter_69 (by decide) (fun q16 => ?_) (fun q16 => ?_)
          · have h := h.1 q16
            refine s_iconst (v := 1) dX9_readLetter_76 (by decide) ?_
            refine s_iadd dX9_readLetter_77 ?_
            refine t_putI gk dX9_readLetter_78 fX9_176 rfl rfl ea1 (by rw [mσ15]; exact t2) ⟨rfl, rfl⟩ (fun σ17 eσ17 mσ17 => ?_)
            replace h := h σ17 eσ17
            refine s_iload_n (i := 2) dX9_readLetter_81 rfl rfl ?_
            exact s_ireturn dX9_readLetter_82 rfl rfl (by decide) (by decide) h
          · have h := h.2 q16
            refine s_iconst (v := 0) dX9_readLetter_72 (by decide) ?_
            refine s_goto (tgt := 77) dX9_readLetter_73 (by decide) ?_
            refine s_iadd dX9_readLetter_77 ?_
            refine t_putI gk dX9_readLetter_78 fX9_176 rfl rfl ea1 (by rw [mσ15]; exact t2) ⟨rfl, rfl⟩ (fun σ18 eσ18 mσ18 => ?_)
            replace h := h σ18 eσ18
            refine s_iload_n (i := 2) dX9_readLetter_81 rfl rfl ?_
            exact s_ireturn dX9_readLetter_82 rfl rfl (by decide) (by decide) h
        · have h := h.2 q14
          refine s_iload_n (i := 2) dX9_readLetter_36 rfl rfl ?_
          refine s_bipush (v := 108) dX9_readLetter_37 (by decide) ?_
          refine s_icmp_eq (tgt := 56) dX9_readLetter_39 (by decide) (fun q19 => ?_) (fun q19 => ?_)
          · have h := h.1 q19
            refine s_iconst (v := 0) dX9_readLetter_56 (by decide) ?_
            refine t_putI gk dX9_readLetter_57 fX9_183 rfl rfl ea1 t2 ⟨rfl, rfl⟩ (fun σ20 eσ20 mσ20 => ?_)
            replace h := h σ20 eσ20
            refine s_aload_n (i := 0) dX9_readLetter_60 rfl rfl ?_
            refine s_dup dX9_readLetter_61 rfl ?_
            refine t_getI gk dX9_readLetter_62 fX9_176 rfl ea1 (by rw [mσ20]; exact t2) ?_
            refine s_aload_n (i := 0) dX9_readLetter_65 rfl rfl ?_
            refine t_getI gk dX9_readLetter_66 fX9_183 rfl ea1 (by rw [mσ20]; exact t2) ?_
            refine s_if_eq (tgt := 76) dX9_readLetter_69 (by decide) (fun q21 => ?_) (fun q21 => ?_)
            · have h := h.1 q21
              refine s_iconst (v := 1) dX9_readLetter_76 (by decide) ?_
              refine s_iadd dX9_readLetter_77 ?_
              refine t_putI gk dX9_readLetter_78 fX9_176 rfl rfl ea1 (by rw [mσ20]; exact t2) ⟨rfl, rfl⟩ (fun σ22 eσ22 mσ22 => ?_)
              replace h := h σ22 eσ22
              refine s_iload_n (i := 2) dX9_readLetter_81 rfl rfl ?_
              exact s_ireturn dX9_readLetter_82 rfl rfl (by decide) (by decide) h
            · have h := h.2 q21
              refine s_iconst (v := 0) dX9_readLetter_72 (by decide) ?_
              refine s_goto (tgt := 77) dX9_readLetter_73 (by decide) ?_
              refine s_iadd dX9_readLetter_77 ?_
              refine t_putI gk dX9_readLetter_78 fX9_176 rfl rfl ea1 (by rw [mσ20]; exact t2) ⟨rfl, rfl⟩ (fun σ23 eσ23 mσ23 => ?_)
              replace h := h σ23 eσ23
              refine s_iload_n (i := 2) dX9_readLetter_81 rfl rfl ?_
              exact s_ireturn dX9_readLetter_82 rfl rfl (by decide) (by decide) h
          · have h := h.2 q19
            refine s_goto (tgt := 52) dX9_readLetter_42 (by decide) ?_
            refine s_iconst (v := 1) dX9_readLetter_52 (by decide) ?_
            refine s_goto (tgt := 57) dX9_readLetter_53 (by decide) ?_
            refine t_putI gk dX9_readLetter_57 fX9_183 rfl rfl ea1 t2 ⟨rfl, rfl⟩ (fun σ24 eσ24 mσ24 => ?_)
            replace h := h σ24 eσ24
            refine s_aload_n (i := 0) dX9_readLetter_60 rfl rfl ?_
            refine s_dup dX9_readLetter_61 rfl ?_
            refine t_getI gk dX9_readLetter_62 fX9_176 rfl ea1 (by rw [mσ24]; exact t2) ?_
            refine s_aload_n (i := 0) dX9_readLetter_65 rfl rfl ?_
            refine t_getI gk dX9_readLetter_66 fX9_183 rfl ea1 (by rw [mσ24]; exact t2) ?_
            refine s_if_eq (tgt := 76) dX9_readLetter_69 (by decide) (fun q25 => ?_) (fun q25 => ?_)
            · have h := h.1 q25
              refine s_iconst (v := 1) dX9_readLetter_76 (by decide) ?_
              refine s_iadd dX9_readLetter_77 ?_
              refine t_putI gk dX9_readLetter_78 fX9_176 rfl rfl ea1 (by rw [mσ24]; exact t2) ⟨rfl, rfl⟩ (fun σ26 eσ26 mσ26 => ?_)
              replace h := h σ26 eσ26
              refine s_iload_n (i := 2) dX9_readLetter_81 rfl rfl ?_
              exact s_ireturn dX9_readLetter_82 rfl rfl (by decide) (by decide) h
            · have h := h.2 q25
              refine s_iconst (v := 0) dX9_readLetter_72 (by decide) ?_
              refine s_goto (tgt := 77) dX9_readLetter_73 (by decide) ?_
              refine s_iadd dX9_readLetter_77 ?_
              refine t_putI gk dX9_readLetter_78 fX9_176 rfl rfl ea1 (by rw [mσ24]; exact t2) ⟨rfl, rfl⟩ (fun σ27 eσ27 mσ27 => ?_)
              replace h := h σ27 eσ27
              refine s_iload_n (i := 2) dX9_readLetter_81 rfl rfl ?_
              exact s_ireturn dX9_readLetter_82 rfl rfl (by decide) (by decide) h
theorem vX9_readLetter_49 {G : GG} (gk : GOK G) {σ : Mm} {K : RES → Mm → Prop} {x0 : Option Nat} {x1 : Int32} {x2 : Int32} {s0 : Int32} {s1 : Option Nat}
    (h : ((¬ s0 = 0 → ∃ a2, s1 = some a2 ∧ (mt σ a2).1 = 10 ∧ ∀ σ4, σ4 = si σ a2 12 (0 : Int32) → ∃ a5, x0 = some a5 ∧ (mt σ a5).1 = 10 ∧ (((mi σ4 a5 12) = 0 → ∀ σ8, σ8 = si σ4 a5 11 ((mi σ4 a5 11) + (1 : Int32)) → K (.inl (some (vI x2))) σ8) ∧ (¬ (mi σ4 a5 12) = 0 → ∀ σ9, σ9 = si σ4 a5 11 ((mi σ4 a5 11) + (0 : Int32)) → K (.inl (some (vI x2))) σ9))) ∧ (s0 = 0 → ∃ a10, s1 = some a10 ∧ (mt σ a10).1 = 10 ∧ ∀ σ12, σ12 = si σ a10 12 (1 : Int32) → ∃ a13, x0 = some a13 ∧ (mt σ a13).1 = 10 ∧ (((mi σ12 a13 12) = 0 → ∀ σ16, σ16 = si σ12 a13 11 ((mi σ12 a13 11) + (1 : Int32)) → K (.inl (some (vI x2))) σ16) ∧ (¬ (mi σ12 a13 12) = 0 → ∀ σ17, σ17 = si σ12 a13 11 ((mi σ12 a13 11) + (0 : Int32)) → K (.inl (some (vI x2))) σ17))))) : At G mX9_readLetter rX9_readLetter 0 0 49 [some (vR x0), some (vI x1), some (vI x2)] [(vI s0), (vR s1)] σ K := by
  refine s_if_ne (tgt := 56) dX9_readLetter_49 (by decide) (fun q1 => ?_) (fun q1 => ?_)
  · have h := h.1 q1
    refine s_iconst (v := 0) dX9_readLetter_56 (by decide) ?_
    obtain ⟨a2, ea2, h⟩ := h
    obtain ⟨t3, h⟩ := h
    refine t_putI gk dX9_readLetter_57 fX9_183 rfl rfl ea2 t3 ⟨rfl, rfl⟩ (fun σ4 eσ4 mσ4 => ?_)
    replace h := h σ4 eσ4
    refine s_aload_n (i := 0) dX9_readLetter_60 rfl rfl ?_
    refine s_dup dX9_readLetter_61 rfl ?_
    obtain ⟨a5, ea5, h⟩ := h
    obtain ⟨t6, h⟩ := h
    refine t_getI gk dX9_readLetter_62 fX9_176 rfl ea5 (by rw [mσ4]; exact t6) ?_
    refine s_aload_n (i := 0) dX9_readLetter_65 rfl rfl ?_
    refine t_getI gk dX9_readLetter_66 fX9_183 rfl ea5 (by rw [mσ4]; exact t6) ?_
    refine s_if_eq (tgt := 76) dX9_readLetter_69 (by decide) (fun q7 => ?_) (fun q7 => ?_)
    · have h := h.1 q7
      refine s_iconst (v := 1) dX9_readLetter_76 (by decide) ?_
      refine s_iadd dX9_readLetter_77 ?_
      refine t_putI gk dX9_readLetter_78 fX9_176 rfl rfl ea5 (by rw [mσ4]; exact t6) ⟨rfl, rfl⟩ (fun σ8 eσ8 mσ8 => ?_)
      replace h := h σ8 eσ8
      refine s_iload_n (i := 2) dX9_readLetter_81 rfl rfl ?_
      exact s_ireturn dX9_readLetter_82 rfl rfl (by decide) (by decide) h
    · have h := h.2 q7
      refine s_iconst (v := 0) dX9_readLetter_72 (by decide) ?_
      refine s_goto (tgt := 77) dX9_readLetter_73 (by decide) ?_
      refine s_iadd dX9_readLetter_77 ?_
      refine t_putI gk dX9_readLetter_78 fX9_176 rfl rfl ea5 (by rw [mσ4]; exact t6) ⟨rfl, rfl⟩ (fun σ9 eσ9 mσ9 => ?_)
      replace h := h σ9 eσ9
      refine s_iload_n (i := 2) dX9_readLetter_81 rfl rfl ?_
      exact s_ireturn dX9_readLetter_82 rfl rfl (by decide) (by decide) h
  · have h := h.2 q1
    refine s_iconst (v := 1) dX9_readLetter_52 (by decide) ?_
    refine s_goto (tgt := 57) dX9_readLetter_53 (by decide) ?_
    obtain ⟨a10, ea10, h⟩ := h
    obtain ⟨t11, h⟩ := h
    refine t_putI gk dX9_readLetter_57 fX9_183 rfl rfl ea10 t11 ⟨rfl, rfl⟩ (fun σ12 eσ12 mσ12 => ?_)
    replace h := h σ12 eσ12
    refine s_aload_n (i := 0) dX9_readLetter_60 rfl rfl ?_
    refine s_dup dX9_readLetter_61 rfl ?_
    obtain ⟨a13, ea13, h⟩ := h
    obtain ⟨t14, h⟩ := h
    refine t_getI gk dX9_readLetter_62 fX9_176 rfl ea13 (by rw [mσ12]; exact t14) ?_
    refine s_aload_n (i := 0) dX9_readLetter_65 rfl rfl ?_
    refine t_getI gk dX9_readLetter_66 fX9_183 rfl ea13 (by rw [mσ12]; exact t14) ?_
    refine s_if_eq (tgt := 76) dX9_readLetter_69 (by decide) (fun q15 => ?_) (fun q15 => ?_)
    · have h := h.1 q15
      refine s_iconst (v := 1) dX9_readLetter_76 (by decide) ?_
      refine s_iadd dX9_readLetter_77 ?_
      refine t_putI gk dX9_readLetter_78 fX9_176 rfl rfl ea13 (by rw [mσ12]; exact t14) ⟨rfl, rfl⟩ (fun σ16 eσ16 mσ16 => ?_)
      replace h := h σ16 eσ16
      refine s_iload_n (i := 2) dX9_readLetter_81 rfl rfl ?_
      exact s_ireturn dX9_readLetter_82 rfl rfl (by decide) (by decide) h
    · have h := h.2 q15
      refine s_iconst (v := 0) dX9_readLetter_72 (by decide) ?_
      refine s_goto (tgt := 77) dX9_readLetter_73 (by decide) ?_
      refine s_iadd dX9_readLetter_77 ?_
      refine t_putI gk dX9_readLetter_78 fX9_176 rfl rfl ea13 (by rw [mσ12]; exact t14) ⟨rfl, rfl⟩ (fun σ17 eσ17 mσ17 => ?_)
      replace h := h σ17 eσ17
      refine s_iload_n (i := 2) dX9_readLetter_81 rfl rfl ?_
      exact s_ireturn dX9_readLetter_82 rfl rfl (by decide) (by decide) h
theorem vX9_word_0 {G : GG} (gk : GOK G) {σ : Mm} {K : RES → Mm → Prop} {x0 : Option Nat}
    (h : ∃ a1, x0 = some a1 ∧ (mt σ a1).1 = 10 ∧ Runs G mX9_behind rX9_behind [(vR x0), (vI (0 : Int32))] σ (bk G mX9_word rX9_word 0 0 5 [some (vR x0), none, none] [] K)) : At G mX9_word rX9_word 0 0 0 [some (vR x0), none, none] [] σ K := by
  refine s_aload_n (i := 0) dX9_word_0 rfl rfl ?_
  refine s_iconst (v := 0) dX9_word_1 (by decide) ?_
  obtain ⟨a1, ea1, h⟩ := h
  obtain ⟨t2, h⟩ := h
  exact t_callV (ci := 9) (as := [(vI (0 : Int32))]) (S := []) gk dX9_word_2 gX9_187 (by decide) rfl w_1907 wp_38 ea1 t2 rfl rfl (Nat.le_of_ble_eq_true rfl) (by decide) h
theorem eX9_word {G : GG} (gk : GOK G) {σ : Mm} {K : RES → Mm → Prop} {x0 : Option Nat}
    (h : ∃ a1, x0 = some a1 ∧ (mt σ a1).1 = 10 ∧ Runs G mX9_behind rX9_behind [(vR x0), (vI (0 : Int32))] σ (bk G mX9_word rX9_word 0 0 5 [some (vR x0), none, none] [] K)) : Runs G mX9_word rX9_word [(vR x0)] σ K := Runs.of (by decide) rfl (Nat.le_of_ble_eq_true rfl) (vX9_word_0 gk h)
theorem vX9_word_5 {G : GG} (gk : GOK G) {σ : Mm} {K : RES → Mm → Prop} {x0 : Option Nat} {s0 : Int32}
    (h : ∃ a1, x0 = some a1 ∧ (mt σ a1).1 = 10 ∧ Runs G mX9_behind rX9_behind [(vR x0), (vI (1 : Int32))] σ (bk G mX9_word rX9_word 0 0 11 [some (vR x0), some (vI s0), none] [] K)) : At G mX9_word rX9_word 0 0 5 [some (vR x0), none, none] [(vI s0)] σ K := by
  refine s_istore_n (i := 1) (L' := [some (vR x0), some (vI s0), none]) dX9_word_5 rfl rfl (by decide) rfl ?_
  refine s_aload_n (i := 0) dX9_word_6 rfl rfl ?_
  refine s_iconst (v := 1) dX9_word_7 (by decide) ?_
  obtain ⟨a1, ea1, h⟩ := h
  obtain ⟨t2, h⟩ := h
  exact t_callV (ci := 9) (as := [(vI (1 : Int32))]) (S := []) gk dX9_word_8 gX9_187 (by decide) rfl w_1907 wp_38 ea1 t2 rfl rfl (Nat.le_of_ble_eq_true rfl) (by decide) h
theorem vX9_word_11 {G : GG} (gk : GOK G) {σ : Mm} {K : RES → Mm → Prop} {x0 : Option Nat} {x1 : Int32} {s0 : Int32}
    (h : ((¬ x1 = (115 : Int32) → ((¬ x1 = (100 : Int32) → K (.inl (some (vI x1))) σ) ∧ (x1 = (100 : Int32) → ((¬ s0 = (101 : Int32) → K (.inl (some (vI x1))) σ) ∧ (s0 = (101 : Int32) → K (.inl (some (vI (122 : Int32)))) σ))))) ∧ (x1 = (115 : Int32) → ((¬ s0 = (104 : Int32) → ((¬ x1 = (100 : Int32) → K (.inl (some (vI x1))) σ) ∧ (x1 = (100 : Int32) → ((¬ s0 = (101 : Int32) → K (.inl (some (vI x1))) σ) ∧ (s0 = (101 : Int32) → K (.inl (some (vI (122 : Int32)))) σ))))) ∧ (s0 = (104 : Int32) → K (.inl (some (vI (102 : Int32)))) σ))))) : At G mX9_word rX9_word 0 0 11 [some (vR x0), some (vI x1), none] [(vI s0)] σ K := by
  refine s_istore_n (i := 2) (L' := [some (vR x0), some (vI x1), some (vI s0)]) dX9_word_11 rfl rfl (by decide) rfl ?_
  refine s_iload_n (i := 1) dX9_word_12 rfl rfl ?_
  refine s_bipush (v := 115) dX9_word_13 (by decide) ?_
  refine s_icmp_ne (tgt := 29) dX9_word_15 (by decide) (fun q1 => ?_) (fun q1 => ?_)
  · have h := h.1 q1
    refine s_iload_n (i := 1) dX9_word_29 rfl rfl ?_
    refine s_bipush (v := 100) dX9_word_30 (by decide) ?_
    refine s_icmp_ne (tgt := 46) dX9_word_32 (by decide) (fun q2 => ?_) (fun q2 => ?_)
    · have h := h.1 q2
      refine s_iload_n (i := 1) dX9_word_46 rfl rfl ?_
      exact s_ireturn dX9_word_47 rfl rfl (by decide) (by decide) h
    · have h := h.2 q2
      refine s_iload_n (i := 2) dX9_word_35 rfl rfl ?_
      refine s_bipush (v := 101) dX9_word_36 (by decide) ?_
      refine s_icmp_ne (tgt := 46) dX9_word_38 (by decide) (fun q3 => ?_) (fun q3 => ?_)
      · have h := h.1 q3
        refine s_iload_n (i := 1) dX9_word_46 rfl rfl ?_
        exact s_ireturn dX9_word_47 rfl rfl (by decide) (by decide) h
      · have h := h.2 q3
        refine s_bipush (v := 122) dX9_word_41 (by decide) ?_
        refine s_goto (tgt := 47) dX9_word_43 (by decide) ?_
        exact s_ireturn dX9_word_47 rfl rfl (by decide) (by decide) h
  · have h := h.2 q1
    refine s_iload_n (i := 2) dX9_word_18 rfl rfl ?_
    refine s_bipush (v := 104) dX9_word_19 (by decide) ?_
    refine s_icmp_ne (tgt := 29) dX9_word_21 (by decide) (fun q4 => ?_) (fun q4 => ?_)
    · have h := h.1 q4
      refine s_iload_n (i := 1) dX9_word_29 rfl rfl ?_
      refine s_bipush (v := 100) dX9_word_30 (by decide) ?_
      refine s_icmp_ne (tgt := 46) dX9_word_32 (by decide) (fun q5 => ?_) (fun q5 => ?_)
      · have h := h.1 q5
        refine s_iload_n (i := 1) dX9_word_46 rfl rfl ?_
        exact s_ireturn dX9_word_47 rfl rfl (by decide) (by decide) h
      · have h := h.2 q5
        refine s_iload_n (i := 2) dX9_word_35 rfl rfl ?_
        refine s_bipush (v := 101) dX9_word_36 (by decide) ?_
        refine s_icmp_ne (tgt := 46) dX9_word_38 (by decide) (fun q6 => ?_) (fun q6 => ?_)
        · have h := h.1 q6
          refine s_iload_n (i := 1) dX9_word_46 rfl rfl ?_
          exact s_ireturn dX9_word_47 rfl rfl (by decide) (by decide) h
        · have h := h.2 q6
          refine s_bipush (v := 122) dX9_word_41 (by decide) ?_
          refine s_goto (tgt := 47) dX9_word_43 (by decide) ?_
          exact s_ireturn dX9_word_47 rfl rfl (by decide) (by decide) h
    · have h := h.2 q4
      refine s_bipush (v := 102) dX9_word_24 (by decide) ?_
      refine s_goto (tgt := 47) dX9_word_26 (by decide) ?_
      exact s_ireturn dX9_word_47 rfl rfl (by decide) (by decide) h
theorem vX9_readCommand_0 {G : GG} (gk : GOK G) {σ : Mm} {K : RES → Mm → Prop} {x0 : Option Nat}
    (h : ∃ a1, x0 = some a1 ∧ (mt σ a1).1 = 10 ∧ (((mi σ a1 12) = 0 → Runs G mX9_behind rX9_behind [(vR x0), (vI (0 : Int32))] σ (bk G mX9_readCommand rX9_readCommand 0 0 13 [some (vR x0), none, none] [] K)) ∧ (¬ (mi σ a1 12) = 0 → K (.inl none) σ))) : At G mX9_readCommand rX9_readCommand 0 0 0 [some (vR x0), none, none] [] σ K := by
  refine s_aload_n (i := 0) dX9_readCommand_0 rfl rfl ?_
  obtain ⟨a1, ea1, h⟩ := h
  obtain ⟨t2, h⟩ := h
  refine t_getI gk dX9_readCommand_1 fX9_183 rfl ea1 t2 ?_
  refine s_if_eq (tgt := 8) dX9_readCommand_4 (by decide) (fun q3 => ?_) (fun q3 => ?_)
  · have h := h.1 q3
    refine s_aload_n (i := 0) dX9_readCommand_8 rfl rfl ?_
    refine s_iconst (v := 0) dX9_readCommand_9 (by decide) ?_
    exact t_callV (ci := 9) (as := [(vI (0 : Int32))]) (S := []) gk dX9_readCommand_10 gX9_187 (by decide) rfl w_1907 wp_38 ea1 t2 rfl rfl (Nat.le_of_ble_eq_true rfl) (by decide) h
  · have h := h.2 q3
    exact s_return dX9_readCommand_7 rfl (by decide) (by decide) h
theorem eX9_readCommand {G : GG} (gk : GOK G) {σ : Mm} {K : RES → Mm → Prop} {x0 : Option Nat}
    (h : ∃ a1, x0 = some a1 ∧ (mt σ a1).1 = 10 ∧ (((mi σ a1 12) = 0 → Runs G mX9_behind rX9_behind [(vR x0), (vI (0 : Int32))] σ (bk G mX9_readCommand rX9_readCommand 0 0 13 [some (vR x0), none, none] [] K)) ∧ (¬ (mi σ a1 12) = 0 → K (.inl none) σ))) : Runs G mX9_readCommand rX9_readCommand [(vR x0)] σ K := Runs.of (by decide) rfl (Nat.le_of_ble_eq_true rfl) (vX9_readCommand_0 gk h)
theorem vX9_readCommand_13 {G : GG} (gk : GOK G) {σ : Mm} {K : RES → Mm → Prop} {x0 : Option Nat} {s0 : Int32}
    (h : ∃ a1, x0 = some a1 ∧ (mt σ a1).1 = 10 ∧ ∀ σ3, σ3 = si σ a1 16 ((mi σ a1 16) + (1 : Int32)) → Runs G mX9_word rX9_word [(vR x0)] σ3 (bk G mX9_readCommand rX9_readCommand 0 0 40 [some (vR x0), some (vI s0), some (vI ((4 : Int32) * (mi σ a1 16)))] [(vI ((4 : Int32) * (mi σ a1 16))), (vR (mr σ3 a1 15))] K)) : At G mX9_readCommand rX9_readCommand 0 0 13 [some (vR x0), none, none] [(vI s0)] σ K := by
  refine s_istore_n (i := 1) (L' := [some (vR x0), some (vI s0), none]) dX9_readCommand_13 rfl rfl (by decide) rfl ?_
  refine s_iconst (v := 4) dX9_readCommand_14 (by decide) ?_
  refine s_aload_n (i := 0) dX9_readCommand_15 rfl rfl ?_
  obtain ⟨a1, ea1, h⟩ := h
  obtain ⟨t2, h⟩ := h
  refine t_getI gk dX9_readCommand_16 fX9_203 rfl ea1 t2 ?_
  refine s_imul dX9_readCommand_19 ?_
  refine s_istore_n (i := 2) (L' := [some (vR x0), some (vI s0), some (vI ((4 : Int32) * (mi σ a1 16)))]) dX9_readCommand_20 rfl rfl (by decide) rfl ?_
  refine s_aload_n (i := 0) dX9_readCommand_21 rfl rfl ?_
  refine s_dup dX9_readCommand_22 rfl ?_
  refine t_getI gk dX9_readCommand_23 fX9_203 rfl ea1 t2 ?_
  refine s_iconst (v := 1) dX9_readCommand_26 (by decide) ?_
  refine s_iadd dX9_readCommand_27 ?_
  refine t_putI gk dX9_readCommand_28 fX9_203 rfl rfl ea1 t2 ⟨rfl, rfl⟩ (fun σ3 eσ3 mσ3 => ?_)
  replace h := h σ3 eσ3
  refine s_aload_n (i := 0) dX9_readCommand_31 rfl rfl ?_
  refine t_getR gk dX9_readCommand_32 fX9_36 rfl ea1 (by rw [mσ3]; exact t2) ?_
  refine s_iload_n (i := 2) dX9_readCommand_35 rfl rfl ?_
  refine s_aload_n (i := 0) dX9_readCommand_36 rfl rfl ?_
  exact t_callV (ci := 9) (as := []) (S := [(vI ((4 : Int32) * (mi σ a1 16))), (vR (mr σ3 a1 15))]) gk dX9_readCommand_37 gX9_206 (by decide) rfl w_1911 wp_39 ea1 (by rw [mσ3]; exact t2) rfl rfl (Nat.le_of_ble_eq_true rfl) (by decide) h
-- X9_readCommand 40: Exception(('X9_readCommand', 418, '.ldc 211'))
theorem vX9_readCommand_169 {G : GG} (gk : GOK G) {σ : Mm} {K : RES → Mm → Prop} {x0 : Option Nat} {x1 : Int32} {x2 : Int32}
    (h : ∃ a1, x0 = some a1 ∧ (mt σ a1).1 = 10 ∧ Runs G mX9_readNumber rX9_readNumber [(vR x0), (vI (1 : Int32))] σ (bk G mX9_readCommand rX9_readCommand 0 0 181 [some (vR x0), some (vI x1), some (vI x2)] [(vI (x2 + (1 : Int32))), (vR (mr σ a1 15))] K)) : At G mX9_readCommand rX9_readCommand 0 0 169 [some (vR x0), some (vI x1), some (vI x2)] [] σ K := by
  refine s_aload_n (i := 0) dX9_readCommand_169 rfl rfl ?_
  obtain ⟨a1, ea1, h⟩ := h
  obtain ⟨t2, h⟩ := h
  refine t_getR gk dX9_readCommand_170 fX9_36 rfl ea1 t2 ?_
  refine s_iload_n (i := 2) dX9_readCommand_173 rfl rfl ?_
  refine s_iconst (v := 1) dX9_readCommand_174 (by decide) ?_
  refine s_iadd dX9_readCommand_175 ?_
  refine s_aload_n (i := 0) dX9_readCommand_176 rfl rfl ?_
  refine s_iconst (v := 1) dX9_readCommand_177 (by decide) ?_
  exact t_callV (ci := 9) (as := [(vI (1 : Int32))]) (S := [(vI (x2 + (1 : Int32))), (vR (mr σ a1 15))]) gk dX9_readCommand_178 gX9_213 (by decide) rfl w_1923 wp_41 ea1 t2 rfl rfl (Nat.le_of_ble_eq_true rfl) (by decide) h
theorem vX9_readCommand_181 {G : GG} (gk : GOK G) {σ : Mm} {K : RES → Mm → Prop} {x0 : Option Nat} {x1 : Int32} {x2 : Int32} {s0 : Int32} {s1 : Int32} {s2 : Option Nat}
    (h : ∃ a1, s2 = some a1 ∧ ∃ n3, mt σ a1 = (50, n3) ∧ vp_in s1 n3 ∧ ∀ σ5, σ5 = si σ a1 s1.toNatClampNeg s0 → ∃ a6, x0 = some a6 ∧ (mt σ a6).1 = 10 ∧ Runs G mX9_readNumber rX9_readNumber [(vR x0), (vI (2 : Int32))] σ5 (bk G mX9_readCommand rX9_readCommand 0 0 194 [some (vR x0), some (vI x1), some (vI x2)] [(vI (x2 + (2 : Int32))), (vR (mr σ5 a6 15))] K)) : At G mX9_readCommand rX9_readCommand 0 0 181 [some (vR x0), some (vI x1), some (vI x2)] [(vI s0), (vI s1), (vR s2)] σ K := by
  obtain ⟨a1, ea1, h⟩ := h
  obtain ⟨n3, t2, h⟩ := h
  obtain ⟨c4, h⟩ := h
  refine t_iast gk dX9_readCommand_181 ea1 t2 c4 (fun σ5 eσ5 mσ5 => ?_)
  replace h := h σ5 eσ5
  refine s_aload_n (i := 0) dX9_readCommand_182 rfl rfl ?_
  obtain ⟨a6, ea6, h⟩ := h
  obtain ⟨t7, h⟩ := h
  refine t_getR gk dX9_readCommand_183 fX9_36 rfl ea6 (by rw [mσ5]; exact t7) ?_
  refine s_iload_n (i := 2) dX9_readCommand_186 rfl rfl ?_
  refine s_iconst (v := 2) dX9_readCommand_187 (by decide) ?_
  refine s_iadd dX9_readCommand_188 ?_
  refine s_aload_n (i := 0) dX9_readCommand_189 rfl rfl ?_
  refine s_iconst (v := 2) dX9_readCommand_190 (by decide) ?_
  exact t_callV (ci := 9) (as := [(vI (2 : Int32))]) (S := [(vI (x2 + (2 : Int32))), (vR (mr σ5 a6 15))]) gk dX9_readCommand_191 gX9_213 (by decide) rfl w_1923 wp_41 ea6 (by rw [mσ5]; exact t7) rfl rfl (Nat.le_of_ble_eq_true rfl) (by decide) h
theorem vX9_readCommand_194 {G : GG} (gk : GOK G) {σ : Mm} {K : RES → Mm → Prop} {x0 : Option Nat} {x1 : Int32} {x2 : Int32} {s0 : Int32} {s1 : Int32} {s2 : Option Nat}
    (h : ∃ a1, s2 = some a1 ∧ ∃ n3, mt σ a1 = (50, n3) ∧ vp_in s1 n3 ∧ ∀ σ5, σ5 = si σ a1 s1.toNatClampNeg s0 → ∃ a6, x0 = some a6 ∧ (mt σ a6).1 = 10 ∧ Runs G mX9_readLetter rX9_readLetter [(vR x0), (vI (1 : Int32))] σ5 (bk G mX9_readCommand rX9_readCommand 0 0 207 [some (vR x0), some (vI x1), some (vI x2)] [(vI (x2 + (3 : Int32))), (vR (mr σ5 a6 15))] K)) : At G mX9_readCommand rX9_readCommand 0 0 194 [some (vR x0), some (vI x1), some (vI x2)] [(vI s0), (vI s1), (vR s2)] σ K := by
  obtain ⟨a1, ea1, h⟩ := h
  obtain ⟨n3, t2, h⟩ := h
  obtain ⟨c4, h⟩ := h
  refine t_iast gk dX9_readCommand_194 ea1 t2 c4 (fun σ5 eσ5 mσ5 => ?_)
  replace h := h σ5 eσ5
  refine s_aload_n (i := 0) dX9_readCommand_195 rfl rfl ?_
  obtain ⟨a6, ea6, h⟩ := h
  obtain ⟨t7, h⟩ := h
  refine t_getR gk dX9_readCommand_196 fX9_36 rfl ea6 (by rw [mσ5]; exact t7) ?_
  refine s_iload_n (i := 2) dX9_readCommand_199 rfl rfl ?_
  refine s_iconst (v := 3) dX9_readCommand_200 (by decide) ?_
  refine s_iadd dX9_readCommand_201 ?_
  refine s_aload_n (i := 0) dX9_readCommand_202 rfl rfl ?_
  refine s_iconst (v := 1) dX9_readCommand_203 (by decide) ?_
  exact t_callV (ci := 9) (as := [(vI (1 : Int32))]) (S := [(vI (x2 + (3 : Int32))), (vR (mr σ5 a6 15))]) gk dX9_readCommand_204 gX9_216 (by decide) rfl w_1932 wp_43 ea6 (by rw [mσ5]; exact t7) rfl rfl (Nat.le_of_ble_eq_true rfl) (by decide) h
theorem vX9_readCommand_207 {G : GG} (gk : GOK G) {σ : Mm} {K : RES → Mm → Prop} {x0 : Option Nat} {x1 : Int32} {x2 : Int32} {s0 : Int32} {s1 : Int32} {s2 : Option Nat}
    (h : ∃ a1, s2 = some a1 ∧ ∃ n3, mt σ a1 = (50, n3) ∧ vp_in s1 n3 ∧ ∀ σ5, σ5 = si σ a1 s1.toNatClampNeg s0 → K (.inl none) σ5) : At G mX9_readCommand rX9_readCommand 0 0 207 [some (vR x0), some (vI x1), some (vI x2)] [(vI s0), (vI s1), (vR s2)] σ K := by
  obtain ⟨a1, ea1, h⟩ := h
  obtain ⟨n3, t2, h⟩ := h
  obtain ⟨c4, h⟩ := h
  refine t_iast gk dX9_readCommand_207 ea1 t2 c4 (fun σ5 eσ5 mσ5 => ?_)
  replace h := h σ5 eσ5
  refine s_goto (tgt := 436) dX9_readCommand_208 (by decide) ?_
  exact s_return dX9_readCommand_436 rfl (by decide) (by decide) h
theorem vX9_readCommand_228 {G : GG} (gk : GOK G) {σ : Mm} {K : RES → Mm → Prop} {x0 : Option Nat} {x1 : Int32} {x2 : Int32}
    (h : ∃ a1, x0 = some a1 ∧ (mt σ a1).1 = 10 ∧ Runs G mX9_readLetter rX9_readLetter [(vR x0), (vI (0 : Int32))] σ (bk G mX9_readCommand rX9_readCommand 0 0 240 [some (vR x0), some (vI x1), some (vI x2)] [(vI (x2 + (1 : Int32))), (vR (mr σ a1 15))] K)) : At G mX9_readCommand rX9_readCommand 0 0 228 [some (vR x0), some (vI x1), some (vI x2)] [] σ K := by
  refine s_aload_n (i := 0) dX9_readCommand_228 rfl rfl ?_
  obtain ⟨a1, ea1, h⟩ := h
  obtain ⟨t2, h⟩ := h
  refine t_getR gk dX9_readCommand_229 fX9_36 rfl ea1 t2 ?_
  refine s_iload_n (i := 2) dX9_readCommand_232 rfl rfl ?_
  refine s_iconst (v := 1) dX9_readCommand_233 (by decide) ?_
  refine s_iadd dX9_readCommand_234 ?_
  refine s_aload_n (i := 0) dX9_readCommand_235 rfl rfl ?_
  refine s_iconst (v := 0) dX9_readCommand_236 (by decide) ?_
  exact t_callV (ci := 9) (as := [(vI (0 : Int32))]) (S := [(vI (x2 + (1 : Int32))), (vR (mr σ a1 15))]) gk dX9_readCommand_237 gX9_216 (by decide) rfl w_1932 wp_43 ea1 t2 rfl rfl (Nat.le_of_ble_eq_true rfl) (by decide) h
theorem vX9_readCommand_240 {G : GG} (gk : GOK G) {σ : Mm} {K : RES → Mm → Prop} {x0 : Option Nat} {x1 : Int32} {x2 : Int32} {s0 : Int32} {s1 : Int32} {s2 : Option Nat}
    (h : ∃ a1, s2 = some a1 ∧ ∃ n3, mt σ a1 = (50, n3) ∧ vp_in s1 n3 ∧ ∀ σ5, σ5 = si σ a1 s1.toNatClampNeg s0 → ∃ a6, x0 = some a6 ∧ (mt σ a6).1 = 10 ∧ Runs G mX9_readNumber rX9_readNumber [(vR x0), (vI (2 : Int32))] σ5 (bk G mX9_readCommand rX9_readCommand 0 0 253 [some (vR x0), some (vI x1), some (vI x2)] [(vI (x2 + (2 : Int32))), (vR (mr σ5 a6 15))] K)) : At G mX9_readCommand rX9_readCommand 0 0 240 [some (vR x0), some (vI x1), some (vI x2)] [(vI s0), (vI s1), (vR s2)] σ K := by
  obtain ⟨a1, ea1, h⟩ := h
  obtain ⟨n3, t2, h⟩ := h
  obtain ⟨c4, h⟩ := h
  refine t_iast gk dX9_readCommand_240 ea1 t2 c4 (fun σ5 eσ5 mσ5 => ?_)
  replace h := h σ5 eσ5
  refine s_aload_n (i := 0) dX9_readCommand_241 rfl rfl ?_
  obtain ⟨a6, ea6, h⟩ := h
  obtain ⟨t7, h⟩ := h
  refine t_getR gk dX9_readCommand_242 fX9_36 rfl ea6 (by rw [mσ5]; exact t7) ?_
  refine s_iload_n (i := 2) dX9_readCommand_245 rfl rfl ?_
  refine s_iconst (v := 2) dX9_readCommand_246 (by decide) ?_
  refine s_iadd dX9_readCommand_247 ?_
  refine s_aload_n (i := 0) dX9_readCommand_248 rfl rfl ?_
  refine s_iconst (v := 2) dX9_readCommand_249 (by decide) ?_
  exact t_callV (ci := 9) (as := [(vI (2 : Int32))]) (S := [(vI (x2 + (2 : Int32))), (vR (mr σ5 a6 15))]) gk dX9_readCommand_250 gX9_213 (by decide) rfl w_1923 wp_41 ea6 (by rw [mσ5]; exact t7) rfl rfl (Nat.le_of_ble_eq_true rfl) (by decide) h
theorem vX9_readCommand_253 {G : GG} (gk : GOK G) {σ : Mm} {K : RES → Mm → Prop} {x0 : Option Nat} {x1 : Int32} {x2 : Int32} {s0 : Int32} {s1 : Int32} {s2 : Option Nat}
    (h : ∃ a1, s2 = some a1 ∧ ∃ n3, mt σ a1 = (50, n3) ∧ vp_in s1 n3 ∧ ∀ σ5, σ5 = si σ a1 s1.toNatClampNeg s0 → K (.inl none) σ5) : At G mX9_readCommand rX9_readCommand 0 0 253 [some (vR x0), some (vI x1), some (vI x2)] [(vI s0), (vI s1), (vR s2)] σ K := by
  obtain ⟨a1, ea1, h⟩ := h
  obtain ⟨n3, t2, h⟩ := h
  obtain ⟨c4, h⟩ := h
  refine t_iast gk dX9_readCommand_253 ea1 t2 c4 (fun σ5 eσ5 mσ5 => ?_)
  replace h := h σ5 eσ5
  refine s_goto (tgt := 436) dX9_readCommand_254 (by decide) ?_
  exact s_return dX9_readCommand_436 rfl (by decide) (by decide) h
theorem vX9_readCommand_263 {G : GG} (gk : GOK G) {σ : Mm} {K : RES → Mm → Prop} {x0 : Option Nat} {x1 : Int32} {x2 : Int32}
    (h : ∃ a1, x0 = some a1 ∧ (mt σ a1).1 = 10 ∧ Runs G mX9_readLetter rX9_readLetter [(vR x0), (vI (0 : Int32))] σ (bk G mX9_readCommand rX9_readCommand 0 0 275 [some (vR x0), some (vI x1), some (vI x2)] [(vI (x2 + (1 : Int32))), (vR (mr σ a1 15))] K)) : At G mX9_readCommand rX9_readCommand 0 0 263 [some (vR x0), some (vI x1), some (vI x2)] [] σ K := by
  refine s_aload_n (i := 0) dX9_readCommand_263 rfl rfl ?_
  obtain ⟨a1, ea1, h⟩ := h
  obtain ⟨t2, h⟩ := h
  refine t_getR gk dX9_readCommand_264 fX9_36 rfl ea1 t2 ?_
  refine s_iload_n (i := 2) dX9_readCommand_267 rfl rfl ?_
  refine s_iconst (v := 1) dX9_readCommand_268 (by decide) ?_
  refine s_iadd dX9_readCommand_269 ?_
  refine s_aload_n (i := 0) dX9_readCommand_270 rfl rfl ?_
  refine s_iconst (v := 0) dX9_readCommand_271 (by decide) ?_
  exact t_callV (ci := 9) (as := [(vI (0 : Int32))]) (S := [(vI (x2 + (1 : Int32))), (vR (mr σ a1 15))]) gk dX9_readCommand_272 gX9_216 (by decide) rfl w_1932 wp_43 ea1 t2 rfl rfl (Nat.le_of_ble_eq_true rfl) (by decide) h
theorem vX9_readCommand_275 {G : GG} (gk : GOK G) {σ : Mm} {K : RES → Mm → Prop} {x0 : Option Nat} {x1 : Int32} {x2 : Int32} {s0 : Int32} {s1 : Int32} {s2 : Option Nat}
    (h : ∃ a1, s2 = some a1 ∧ ∃ n3, mt σ a1 = (50, n3) ∧ vp_in s1 n3 ∧ ∀ σ5, σ5 = si σ a1 s1.toNatClampNeg s0 → K (.inl none) σ5) : At G mX9_readCommand rX9_readCommand 0 0 275 [some (vR x0), some (vI x1), some (vI x2)] [(vI s0), (vI s1), (vR s2)] σ K := by
  obtain ⟨a1, ea1, h⟩ := h
  obtain ⟨n3, t2, h⟩ := h
  obtain ⟨c4, h⟩ := h
  refine t_iast gk dX9_readCommand_275 ea1 t2 c4 (fun σ5 eσ5 mσ5 => ?_)
  replace h := h σ5 eσ5
  refine s_goto (tgt := 436) dX9_readCommand_276 (by decide) ?_
  exact s_return dX9_readCommand_436 rfl (by decide) (by decide) h
theorem vX9_readCommand_285 {G : GG} (gk : GOK G) {σ : Mm} {K : RES → Mm → Prop} {x0 : Option Nat} {x1 : Int32} {x2 : Int32}
    (h : ∃ a1, x0 = some a1 ∧ (mt σ a1).1 = 10 ∧ Runs G mX9_readNumber rX9_readNumber [(vR x0), (vI (1 : Int32))] σ (bk G mX9_readCommand rX9_readCommand 0 0 297 [some (vR x0), some (vI x1), some (vI x2)] [(vI (x2 + (1 : Int32))), (vR (mr σ a1 15))] K)) : At G mX9_readCommand rX9_readCommand 0 0 285 [some (vR x0), some (vI x1), some (vI x2)] [] σ K := by
  refine s_aload_n (i := 0) dX9_readCommand_285 rfl rfl ?_
  obtain ⟨a1, ea1, h⟩ := h
  obtain ⟨t2, h⟩ := h
  refine t_getR gk dX9_readCommand_286 fX9_36 rfl ea1 t2 ?_
  refine s_iload_n (i := 2) dX9_readCommand_289 rfl rfl ?_
  refine s_iconst (v := 1) dX9_readCommand_290 (by decide) ?_
  refine s_iadd dX9_readCommand_291 ?_
  refine s_aload_n (i := 0) dX9_readCommand_292 rfl rfl ?_
  refine s_iconst (v := 1) dX9_readCommand_293 (by decide) ?_
  exact t_callV (ci := 9) (as := [(vI (1 : Int32))]) (S := [(vI (x2 + (1 : Int32))), (vR (mr σ a1 15))]) gk dX9_readCommand_294 gX9_213 (by decide) rfl w_1923 wp_41 ea1 t2 rfl rfl (Nat.le_of_ble_eq_true rfl) (by decide) h
theorem vX9_readCommand_297 {G : GG} (gk : GOK G) {σ : Mm} {K : RES → Mm → Prop} {x0 : Option Nat} {x1 : Int32} {x2 : Int32} {s0 : Int32} {s1 : Int32} {s2 : Option Nat}
    (h : ∃ a1, s2 = some a1 ∧ ∃ n3, mt σ a1 = (50, n3) ∧ vp_in s1 n3 ∧ ∀ σ5, σ5 = si σ a1 s1.toNatClampNeg s0 → ∃ a6, x0 = some a6 ∧ (mt σ a6).1 = 10 ∧ Runs G mX9_readLetter rX9_readLetter [(vR x0), (vI (0 : Int32))] σ5 (bk G mX9_readCommand rX9_readCommand 0 0 310 [some (vR x0), some (vI x1), some (vI x2)] [(vI (x2 + (2 : Int32))), (vR (mr σ5 a6 15))] K)) : At G mX9_readCommand rX9_readCommand 0 0 297 [some (vR x0), some (vI x1), some (vI x2)] [(vI s0), (vI s1), (vR s2)] σ K := by
  obtain ⟨a1, ea1, h⟩ := h
  obtain ⟨n3, t2, h⟩ := h
  obtain ⟨c4, h⟩ := h
  refine t_iast gk dX9_readCommand_297 ea1 t2 c4 (fun σ5 eσ5 mσ5 => ?_)
  replace h := h σ5 eσ5
  refine s_aload_n (i := 0) dX9_readCommand_298 rfl rfl ?_
  obtain ⟨a6, ea6, h⟩ := h
  obtain ⟨t7, h⟩ := h
  refine t_getR gk dX9_readCommand_299 fX9_36 rfl ea6 (by rw [mσ5]; exact t7) ?_
  refine s_iload_n (i := 2) dX9_readCommand_302 rfl rfl ?_
  refine s_iconst (v := 2) dX9_readCommand_303 (by decide) ?_
  refine s_iadd dX9_readCommand_304 ?_
  refine s_aload_n (i := 0) dX9_readCommand_305 rfl rfl ?_
  refine s_iconst (v := 0) dX9_readCommand_306 (by decide) ?_
  exact t_callV (ci := 9) (as := [(vI (0 : Int32))]) (S := [(vI (x2 + (2 : Int32))), (vR (mr σ5 a6 15))]) gk dX9_readCommand_307 gX9_216 (by decide) rfl w_1932 wp_43 ea6 (by rw [mσ5]; exact t7) rfl rfl (Nat.le_of_ble_eq_true rfl) (by decide) h
theorem vX9_readCommand_310 {G : GG} (gk : GOK G) {σ : Mm} {K : RES → Mm → Prop} {x0 : Option Nat} {x1 : Int32} {x2 : Int32} {s0 : Int32} {s1 : Int32} {s2 : Option Nat}
    (h : ∃ a1, s2 = some a1 ∧ ∃ n3, mt σ a1 = (50, n3) ∧ vp_in s1 n3 ∧ ∀ σ5, σ5 = si σ a1 s1.toNatClampNeg s0 → K (.inl none) σ5) : At G mX9_readCommand rX9_readCommand 0 0 310 [some (vR x0), some (vI x1), some (vI x2)] [(vI s0), (vI s1), (vR s2)] σ K := by
  obtain ⟨a1, ea1, h⟩ := h
  obtain ⟨n3, t2, h⟩ := h
  obtain ⟨c4, h⟩ := h
  refine t_iast gk dX9_readCommand_310 ea1 t2 c4 (fun σ5 eσ5 mσ5 => ?_)
  replace h := h σ5 eσ5
  refine s_goto (tgt := 436) dX9_readCommand_311 (by decide) ?_
  exact s_return dX9_readCommand_436 rfl (by decide) (by decide) h
theorem vX9_readCommand_320 {G : GG} (gk : GOK G) {σ : Mm} {K : RES → Mm → Prop} {x0 : Option Nat} {x1 : Int32} {x2 : Int32}
    (h : ∃ a1, x0 = some a1 ∧ (mt σ a1).1 = 10 ∧ Runs G mX9_readNumber rX9_readNumber [(vR x0), (vI (1 : Int32))] σ (bk G mX9_readCommand rX9_readCommand 0 0 332 [some (vR x0), some (vI x1), some (vI x2)] [(vI (x2 + (1 : Int32))), (vR (mr σ a1 15))] K)) : At G mX9_readCommand rX9_readCommand 0 0 320 [some (vR x0), some (vI x1), some (vI x2)] [] σ K := by
  refine s_aload_n (i := 0) dX9_readCommand_320 rfl rfl ?_
  obtain ⟨a1, ea1, h⟩ := h
  obtain ⟨t2, h⟩ := h
  refine t_getR gk dX9_readCommand_321 fX9_36 rfl ea1 t2 ?_
  refine s_iload_n (i := 2) dX9_readCommand_324 rfl rfl ?_
  refine s_iconst (v := 1) dX9_readCommand_325 (by decide) ?_
  refine s_iadd dX9_readCommand_326 ?_
  refine s_aload_n (i := 0) dX9_readCommand_327 rfl rfl ?_
  refine s_iconst (v := 1) dX9_readCommand_328 (by decide) ?_
  exact t_callV (ci := 9) (as := [(vI (1 : Int32))]) (S := [(vI (x2 + (1 : Int32))), (vR (mr σ a1 15))]) gk dX9_readCommand_329 gX9_213 (by decide) rfl w_1923 wp_41 ea1 t2 rfl rfl (Nat.le_of_ble_eq_true rfl) (by decide) h
theorem vX9_readCommand_332 {G : GG} (gk : GOK G) {σ : Mm} {K : RES → Mm → Prop} {x0 : Option Nat} {x1 : Int32} {x2 : Int32} {s0 : Int32} {s1 : Int32} {s2 : Option Nat}
    (h : ∃ a1, s2 = some a1 ∧ ∃ n3, mt σ a1 = (50, n3) ∧ vp_in s1 n3 ∧ ∀ σ5, σ5 = si σ a1 s1.toNatClampNeg s0 → ∃ a6, x0 = some a6 ∧ (mt σ a6).1 = 10 ∧ Runs G mX9_readLetter rX9_readLetter [(vR x0), (vI (0 : Int32))] σ5 (bk G mX9_readCommand rX9_readCommand 0 0 345 [some (vR x0), some (vI x1), some (vI x2)] [(vI (x2 + (2 : Int32))), (vR (mr σ5 a6 15))] K)) : At G mX9_readCommand rX9_readCommand 0 0 332 [some (vR x0), some (vI x1), some (vI x2)] [(vI s0), (vI s1), (vR s2)] σ K := by
  obtain ⟨a1, ea1, h⟩ := h
  obtain ⟨n3, t2, h⟩ := h
  obtain ⟨c4, h⟩ := h
  refine t_iast gk dX9_readCommand_332 ea1 t2 c4 (fun σ5 eσ5 mσ5 => ?_)
  replace h := h σ5 eσ5
  refine s_aload_n (i := 0) dX9_readCommand_333 rfl rfl ?_
  obtain ⟨a6, ea6, h⟩ := h
  obtain ⟨t7, h⟩ := h
  refine t_getR gk dX9_readCommand_334 fX9_36 rfl ea6 (by rw [mσ5]; exact t7) ?_
  refine s_iload_n (i := 2) dX9_readCommand_337 rfl rfl ?_
  refine s_iconst (v := 2) dX9_readCommand_338 (by decide) ?_
  refine s_iadd dX9_readCommand_339 ?_
  refine s_aload_n (i := 0) dX9_readCommand_340 rfl rfl ?_
  refine s_iconst (v := 0) dX9_readCommand_341 (by decide) ?_
  exact t_callV (ci := 9) (as := [(vI (0 : Int32))]) (S := [(vI (x2 + (2 : Int32))), (vR (mr σ5 a6 15))]) gk dX9_readCommand_342 gX9_216 (by decide) rfl w_1932 wp_43 ea6 (by rw [mσ5]; exact t7) rfl rfl (Nat.le_of_ble_eq_true rfl) (by decide) h
theorem vX9_readCommand_345 {G : GG} (gk : GOK G) {σ : Mm} {K : RES → Mm → Prop} {x0 : Option Nat} {x1 : Int32} {x2 : Int32} {s0 : Int32} {s1 : Int32} {s2 : Option Nat}
    (h : ∃ a1, s2 = some a1 ∧ ∃ n3, mt σ a1 = (50, n3) ∧ vp_in s1 n3 ∧ ∀ σ5, σ5 = si σ a1 s1.toNatClampNeg s0 → ∃ a6, x0 = some a6 ∧ (mt σ a6).1 = 10 ∧ Runs G mX9_readNumber rX9_readNumber [(vR x0), (vI (2 : Int32))] σ5 (bk G mX9_readCommand rX9_readCommand 0 0 358 [some (vR x0), some (vI x1), some (vI x2)] [(vI (x2 + (3 : Int32))), (vR (mr σ5 a6 15))] K)) : At G mX9_readCommand rX9_readCommand 0 0 345 [some (vR x0), some (vI x1), some (vI x2)] [(vI s0), (vI s1), (vR s2)] σ K := by
  obtain ⟨a1, ea1, h⟩ := h
  obtain ⟨n3, t2, h⟩ := h
  obtain ⟨c4, h⟩ := h
  refine t_iast gk dX9_readCommand_345 ea1 t2 c4 (fun σ5 eσ5 mσ5 => ?_)
  replace h := h σ5 eσ5
  refine s_aload_n (i := 0) dX9_readCommand_346 rfl rfl ?_
  obtain ⟨a6, ea6, h⟩ := h
  obtain ⟨t7, h⟩ := h
  refine t_getR gk dX9_readCommand_347 fX9_36 rfl ea6 (by rw [mσ5]; exact t7) ?_
  refine s_iload_n (i := 2) dX9_readCommand_350 rfl rfl ?_
  refine s_iconst (v := 3) dX9_readCommand_351 (by decide) ?_
  refine s_iadd dX9_readCommand_352 ?_
  refine s_aload_n (i := 0) dX9_readCommand_353 rfl rfl ?_
  refine s_iconst (v := 2) dX9_readCommand_354 (by decide) ?_
  exact t_callV (ci := 9) (as := [(vI (2 : Int32))]) (S := [(vI (x2 + (3 : Int32))), (vR (mr σ5 a6 15))]) gk dX9_readCommand_355 gX9_213 (by decide) rfl w_1923 wp_41 ea6 (by rw [mσ5]; exact t7) rfl rfl (Nat.le_of_ble_eq_true rfl) (by decide) h
theorem vX9_readCommand_358 {G : GG} (gk : GOK G) {σ : Mm} {K : RES → Mm → Prop} {x0 : Option Nat} {x1 : Int32} {x2 : Int32} {s0 : Int32} {s1 : Int32} {s2 : Option Nat}
    (h : ∃ a1, s2 = some a1 ∧ ∃ n3, mt σ a1 = (50, n3) ∧ vp_in s1 n3 ∧ ∀ σ5, σ5 = si σ a1 s1.toNatClampNeg s0 → K (.inl none) σ5) : At G mX9_readCommand rX9_readCommand 0 0 358 [some (vR x0), some (vI x1), some (vI x2)] [(vI s0), (vI s1), (vR s2)] σ K := by
  obtain ⟨a1, ea1, h⟩ := h
  obtain ⟨n3, t2, h⟩ := h
  obtain ⟨c4, h⟩ := h
  refine t_iast gk dX9_readCommand_358 ea1 t2 c4 (fun σ5 eσ5 mσ5 => ?_)
  replace h := h σ5 eσ5
  refine s_goto (tgt := 436) dX9_readCommand_359 (by decide) ?_
  exact s_return dX9_readCommand_436 rfl (by decide) (by decide) h
theorem vX9_readCommand_368 {G : GG} (gk : GOK G) {σ : Mm} {K : RES → Mm → Prop} {x0 : Option Nat} {x1 : Int32} {x2 : Int32}
    (h : ∃ a1, x0 = some a1 ∧ (mt σ a1).1 = 10 ∧ Runs G mX9_readNumber rX9_readNumber [(vR x0), (vI (1 : Int32))] σ (bk G mX9_readCommand rX9_readCommand 0 0 380 [some (vR x0), some (vI x1), some (vI x2)] [(vI (x2 + (1 : Int32))), (vR (mr σ a1 15))] K)) : At G mX9_readCommand rX9_readCommand 0 0 368 [some (vR x0), some (vI x1), some (vI x2)] [] σ K := by
  refine s_aload_n (i := 0) dX9_readCommand_368 rfl rfl ?_
  obtain ⟨a1, ea1, h⟩ := h
  obtain ⟨t2, h⟩ := h
  refine t_getR gk dX9_readCommand_369 fX9_36 rfl ea1 t2 ?_
  refine s_iload_n (i := 2) dX9_readCommand_372 rfl rfl ?_
  refine s_iconst (v := 1) dX9_readCommand_373 (by decide) ?_
  refine s_iadd dX9_readCommand_374 ?_
  refine s_aload_n (i := 0) dX9_readCommand_375 rfl rfl ?_
  refine s_iconst (v := 1) dX9_readCommand_376 (by decide) ?_
  exact t_callV (ci := 9) (as := [(vI (1 : Int32))]) (S := [(vI (x2 + (1 : Int32))), (vR (mr σ a1 15))]) gk dX9_readCommand_377 gX9_213 (by decide) rfl w_1923 wp_41 ea1 t2 rfl rfl (Nat.le_of_ble_eq_true rfl) (by decide) h
theorem vX9_readCommand_380 {G : GG} (gk : GOK G) {σ : Mm} {K : RES → Mm → Prop} {x0 : Option Nat} {x1 : Int32} {x2 : Int32} {s0 : Int32} {s1 : Int32} {s2 : Option Nat}
    (h : ∃ a1, s2 = some a1 ∧ ∃ n3, mt σ a1 = (50, n3) ∧ vp_in s1 n3 ∧ ∀ σ5, σ5 = si σ a1 s1.toNatClampNeg s0 → K (.inl none) σ5) : At G mX9_readCommand rX9_readCommand 0 0 380 [some (vR x0), some (vI x1), some (vI x2)] [(vI s0), (vI s1), (vR s2)] σ K := by
  obtain ⟨a1, ea1, h⟩ := h
  obtain ⟨n3, t2, h⟩ := h
  obtain ⟨c4, h⟩ := h
  refine t_iast gk dX9_readCommand_380 ea1 t2 c4 (fun σ5 eσ5 mσ5 => ?_)
  replace h := h σ5 eσ5
  refine s_goto (tgt := 436) dX9_readCommand_381 (by decide) ?_
  exact s_return dX9_readCommand_436 rfl (by decide) (by decide) h
theorem vX9_readCommand_401 {G : GG} (gk : GOK G) {σ : Mm} {K : RES → Mm → Prop} {x0 : Option Nat} {x1 : Int32} {x2 : Int32}
    (h : ∃ a1, x0 = some a1 ∧ (mt σ a1).1 = 10 ∧ Runs G mX9_readNumber rX9_readNumber [(vR x0), (vI (1 : Int32))] σ (bk G mX9_readCommand rX9_readCommand 0 0 413 [some (vR x0), some (vI x1), some (vI x2)] [(vI (x2 + (1 : Int32))), (vR (mr σ a1 15))] K)) : At G mX9_readCommand rX9_readCommand 0 0 401 [some (vR x0), some (vI x1), some (vI x2)] [] σ K := by
  refine s_aload_n (i := 0) dX9_readCommand_401 rfl rfl ?_
  obtain ⟨a1, ea1, h⟩ := h
  obtain ⟨t2, h⟩ := h
  refine t_getR gk dX9_readCommand_402 fX9_36 rfl ea1 t2 ?_
  refine s_iload_n (i := 2) dX9_readCommand_405 rfl rfl ?_
  refine s_iconst (v := 1) dX9_readCommand_406 (by decide) ?_
  refine s_iadd dX9_readCommand_407 ?_
  refine s_aload_n (i := 0) dX9_readCommand_408 rfl rfl ?_
  refine s_iconst (v := 1) dX9_readCommand_409 (by decide) ?_
  exact t_callV (ci := 9) (as := [(vI (1 : Int32))]) (S := [(vI (x2 + (1 : Int32))), (vR (mr σ a1 15))]) gk dX9_readCommand_410 gX9_213 (by decide) rfl w_1923 wp_41 ea1 t2 rfl rfl (Nat.le_of_ble_eq_true rfl) (by decide) h
theorem vX9_readCommand_413 {G : GG} (gk : GOK G) {σ : Mm} {K : RES → Mm → Prop} {x0 : Option Nat} {x1 : Int32} {x2 : Int32} {s0 : Int32} {s1 : Int32} {s2 : Option Nat}
    (h : ∃ a1, s2 = some a1 ∧ ∃ n3, mt σ a1 = (50, n3) ∧ vp_in s1 n3 ∧ ∀ σ5, σ5 = si σ a1 s1.toNatClampNeg s0 → K (.inl none) σ5) : At G mX9_readCommand rX9_readCommand 0 0 413 [some (vR x0), some (vI x1), some (vI x2)] [(vI s0), (vI s1), (vR s2)] σ K := by
  obtain ⟨a1, ea1, h⟩ := h
  obtain ⟨n3, t2, h⟩ := h
  obtain ⟨c4, h⟩ := h
  refine t_iast gk dX9_readCommand_413 ea1 t2 c4 (fun σ5 eσ5 mσ5 => ?_)
  replace h := h σ5 eσ5
  refine s_goto (tgt := 436) dX9_readCommand_414 (by decide) ?_
  exact s_return dX9_readCommand_436 rfl (by decide) (by decide) h
theorem vX9_readCommand_423 {G : GG} (gk : GOK G) {σ : Mm} {K : RES → Mm → Prop} {x0 : Option Nat} {x1 : Int32} {x2 : Int32}
    (h : ∃ a1, x0 = some a1 ∧ (mt σ a1).1 = 10 ∧ Runs G mX9_readNumber rX9_readNumber [(vR x0), (vI (2 : Int32))] σ (bk G mX9_readCommand rX9_readCommand 0 0 435 [some (vR x0), some (vI x1), some (vI x2)] [(vI (x2 + (1 : Int32))), (vR (mr σ a1 15))] K)) : At G mX9_readCommand rX9_readCommand 0 0 423 [some (vR x0), some (vI x1), some (vI x2)] [] σ K := by
  refine s_aload_n (i := 0) dX9_readCommand_423 rfl rfl ?_
  obtain ⟨a1, ea1, h⟩ := h
  obtain ⟨t2, h⟩ := h
  refine t_getR gk dX9_readCommand_424 fX9_36 rfl ea1 t2 ?_
  refine s_iload_n (i := 2) dX9_readCommand_427 rfl rfl ?_
  refine s_iconst (v := 1) dX9_readCommand_428 (by decide) ?_
  refine s_iadd dX9_readCommand_429 ?_
  refine s_aload_n (i := 0) dX9_readCommand_430 rfl rfl ?_
  refine s_iconst (v := 2) dX9_readCommand_431 (by decide) ?_
  exact t_callV (ci := 9) (as := [(vI (2 : Int32))]) (S := [(vI (x2 + (1 : Int32))), (vR (mr σ a1 15))]) gk dX9_readCommand_432 gX9_213 (by decide) rfl w_1923 wp_41 ea1 t2 rfl rfl (Nat.le_of_ble_eq_true rfl) (by decide) h
theorem vX9_readCommand_435 {G : GG} (gk : GOK G) {σ : Mm} {K : RES → Mm → Prop} {x0 : Option Nat} {x1 : Int32} {x2 : Int32} {s0 : Int32} {s1 : Int32} {s2 : Option Nat}
    (h : ∃ a1, s2 = some a1 ∧ ∃ n3, mt σ a1 = (50, n3) ∧ vp_in s1 n3 ∧ ∀ σ5, σ5 = si σ a1 s1.toNatClampNeg s0 → K (.inl none) σ5) : At G mX9_readCommand rX9_readCommand 0 0 435 [some (vR x0), some (vI x1), some (vI x2)] [(vI s0), (vI s1), (vR s2)] σ K := by
  obtain ⟨a1, ea1, h⟩ := h
  obtain ⟨n3, t2, h⟩ := h
  obtain ⟨c4, h⟩ := h
  refine t_iast gk dX9_readCommand_435 ea1 t2 c4 (fun σ5 eσ5 mσ5 => ?_)
  replace h := h σ5 eσ5
  exact s_return dX9_readCommand_436 rfl (by decide) (by decide) h
theorem vX9_does_0 {G : GG} (gk : GOK G) {σ : Mm} {K : RES → Mm → Prop} {x0 : Option Nat} {x1 : Int32}
    (h : ∃ a1, x0 = some a1 ∧ (mt σ a1).1 = 10 ∧ ∃ a3, mr σ a1 15 = some a3 ∧ ∃ n5, mt σ a3 = (50, n5) ∧ vp_in (((4 : Int32) * x1) + (1 : Int32)) n5 ∧ vp_in (((4 : Int32) * x1) + (2 : Int32)) n5 ∧ vp_in (((4 : Int32) * x1) + (3 : Int32)) n5 ∧ vp_in ((4 : Int32) * x1) n5 ∧ (((mi σ a3 ((4 : Int32) * x1).toNatClampNeg).toInt < 100 ∨ 122 < (mi σ a3 ((4 : Int32) * x1).toNatClampNeg).toInt → Runs G mX9_doPass rX9_doPass [(vR x0), (vI (mi σ a3 (((4 : Int32) * x1) + (1 : Int32)).toNatClampNeg))] σ (bk G mX9_does rX9_does 0 0 250 [some (vR x0), some (vI x1), some (vI (mi σ a3 (((4 : Int32) * x1) + (1 : Int32)).toNatClampNeg)), some (vI (mi σ a3 (((4 : Int32) * x1) + (2 : Int32)).toNatClampNeg)), some (vI (mi σ a3 (((4 : Int32) * x1) + (3 : Int32)).toNatClampNeg)), none] [] K)) ∧ (((mi σ a3 ((4 : Int32) * x1).toNatClampNeg) = 100 → Runs G mX9_doRemoveJar rX9_doRemoveJar [(vR x0), (vI (mi σ a3 (((4 : Int32) * x1) + (1 : Int32)).toNatClampNeg))] σ (bk G mX9_does rX9_does 0 0 188 [some (vR x0), some (vI x1), some (vI (mi σ a3 (((4 : Int32) * x1) + (1 : Int32)).toNatClampNeg)), some (vI (mi σ a3 (((4 : Int32) * x1) + (2 : Int32)).toNatClampNeg)), some (vI (mi σ a3 (((4 : Int32) * x1) + (3 : Int32)).toNatClampNeg)), none] [] K)) ∧ (((mi σ a3 ((4 : Int32) * x1).toNatClampNeg) = 101 → Runs G mX9_doPass rX9_doPass [(vR x0), (vI (mi σ a3 (((4 : Int32) * x1) + (1 : Int32)).toNatClampNeg))] σ (bk G mX9_does rX9_does 0 0 250 [some (vR x0), some (vI x1), some (vI (mi σ a3 (((4 : Int32) * x1) + (1 : Int32)).toNatClampNeg)), some (vI (mi σ a3 (((4 : Int32) * x1) + (2 : Int32)).toNatClampNeg)), some (vI (mi σ a3 (((4 : Int32) * x1) + (3 : Int32)).toNatClampNeg)), none] [] K)) ∧ (((mi σ a3 ((4 : Int32) * x1).toNatClampNeg) = 102 → Runs G mX9_doAddShelf rX9_doAddShelf [(vR x0), (vI (mi σ a3 (((4 : Int32) * x1) + (1 : Int32)).toNatClampNeg)), (vI (mi σ a3 (((4 : Int32) * x1) + (2 : Int32)).toNatClampNeg)), (vI (mi σ a3 (((4 : Int32) * x1) + (3 : Int32)).toNatClampNeg))] σ (bk G mX9_does rX9_does 0 0 156 [some (vR x0), some (vI x1), some (vI (mi σ a3 (((4 : Int32) * x1) + (1 : Int32)).toNatClampNeg)), some (vI (mi σ a3 (((4 : Int32) * x1) + (2 : Int32)).toNatClampNeg)), some (vI (mi σ a3 (((4 : Int32) * x1) + (3 : Int32)).toNatClampNeg)), none] [] K)) ∧ (((mi σ a3 ((4 : Int32) * x1).toNatClampNeg) = 103 → Runs G mX9_doPass rX9_doPass [(vR x0), (vI (mi σ a3 (((4 : Int32) * x1) + (1 : Int32)).toNatClampNeg))] σ (bk G mX9_does rX9_does 0 0 250 [some (vR x0), some (vI x1), some (vI (mi σ a3 (((4 : Int32) * x1) + (1 : Int32)).toNatClampNeg)), some (vI (mi σ a3 (((4 : Int32) * x1) + (2 : Int32)).toNatClampNeg)), some (vI (mi σ a3 (((4 : Int32) * x1) + (3 : Int32)).toNatClampNeg)), none] [] K)) ∧ (((mi σ a3 ((4 : Int32) * x1).toNatClampNeg) = 104 → Runs G mX9_doHear rX9_doHear [(vR x0), (vI (mi σ a3 (((4 : Int32) * x1) + (1 : Int32)).toNatClampNeg)), (vI (mi σ a3 (((4 : Int32) * x1) + (2 : Int32)).toNatClampNeg))] σ (bk G mX9_does rX9_does 0 0 199 [some (vR x0), some (vI x1), some (vI (mi σ a3 (((4 : Int32) * x1) + (1 : Int32)).toNatClampNeg)), some (vI (mi σ a3 (((4 : Int32) * x1) + (2 : Int32)).toNatClampNeg)), some (vI (mi σ a3 (((4 : Int32) * x1) + (3 : Int32)).toNatClampNeg)), none] [] K)) ∧ (((mi σ a3 ((4 : Int32) * x1).toNatClampNeg) = 105 → Runs G mX9_doPass rX9_doPass [(vR x0), (vI (mi σ a3 (((4 : Int32) * x1) + (1 : Int32)).toNatClampNeg))] σ (bk G mX9_does rX9_does 0 0 250 [some (vR x0), some (vI x1), some (vI (mi σ a3 (((4 : Int32) * x1) + (1 : Int32)).toNatClampNeg)), some (vI (mi σ a3 (((4 : Int32) * x1) + (2 : Int32)).toNatClampNeg)), some (vI (mi σ a3 (((4 : Int32) * x1) + (3 : Int32)).toNatClampNeg)), none] [] K)) ∧ (((mi σ a3 ((4 : Int32) * x1).toNatClampNeg) = 106 → Runs G mX9_doAddJar rX9_doAddJar [(vR x0), (vI (mi σ a3 (((4 : Int32) * x1) + (1 : Int32)).toNatClampNeg)), (vI (mi σ a3 (((4 : Int32) * x1) + (2 : Int32)).toNatClampNeg))] σ (bk G mX9_does rX9_does 0 0 167 [some (vR x0), some (vI x1), some (vI (mi σ a3 (((4 : Int32) * x1) + (1 : Int32)).toNatClampNeg)), some (vI (mi σ a3 (((4 : Int32) * x1) + (2 : Int32)).toNatClampNeg)), some (vI (mi σ a3 (((4 : Int32) * x1) + (3 : Int32)).toNatClampNeg)), none] [] K)) ∧ (((mi σ a3 ((4 : Int32) * x1).toNatClampNeg) = 107 → Runs G mX9_doPass rX9_doPass [(vR x0), (vI (mi σ a3 (((4 : Int32) * x1) + (1 : Int32)).toNatClampNeg))] σ (bk G mX9_does rX9_does 0 0 250 [some (vR x0), some (vI x1), some (vI (mi σ a3 (((4 : Int32) * x1) + (1 : Int32)).toNatClampNeg)), some (vI (mi σ a3 (((4 : Int32) * x1) + (2 : Int32)).toNatClampNeg)), some (vI (mi σ a3 (((4 : Int32) * x1) + (3 : Int32)).toNatClampNeg)), none] [] K)) ∧ (((mi σ a3 ((4 : Int32) * x1).toNatClampNeg) = 108 → vp_in ((4 : Int32) * x1) n5 ∧ ((¬ (mi σ a3 ((4 : Int32) * x1).toNatClampNeg) = (108 : Int32) → Runs G mX9_doListen rX9_doListen [(vR x0), (vI (mi σ a3 (((4 : Int32) * x1) + (1 : Int32)).toNatClampNeg)), (vI (0 : Int32))] σ (bk G mX9_does rX9_does 0 0 240 [some (vR x0), some (vI x1), some (vI (mi σ a3 (((4 : Int32) * x1) + (1 : Int32)).toNatClampNeg)), some (vI (mi σ a3 (((4 : Int32) * x1) + (2 : Int32)).toNatClampNeg)), some (vI (mi σ a3 (((4 : Int32) * x1) + (3 : Int32)).toNatClampNeg)), none] [] K)) ∧ ((mi σ a3 ((4 : Int32) * x1).toNatClampNeg) = (108 : Int32) → Runs G mX9_doListen rX9_doListen [(vR x0), (vI (mi σ a3 (((4 : Int32) * x1) + (1 : Int32)).toNatClampNeg)), (vI (1 : Int32))] σ (bk G mX9_does rX9_does 0 0 240 [some (vR x0), some (vI x1), some (vI (mi σ a3 (((4 : Int32) * x1) + (1 : Int32)).toNatClampNeg)), some (vI (mi σ a3 (((4 : Int32) * x1) + (2 : Int32)).toNatClampNeg)), some (vI (mi σ a3 (((4 : Int32) * x1) + (3 : Int32)).toNatClampNeg)), none] [] K)))) ∧ (((mi σ a3 ((4 : Int32) * x1).toNatClampNeg) = 109 → Runs G mX9_doPass rX9_doPass [(vR x0), (vI (mi σ a3 (((4 : Int32) * x1) + (1 : Int32)).toNatClampNeg))] σ (bk G mX9_does rX9_does 0 0 250 [some (vR x0), some (vI x1), some (vI (mi σ a3 (((4 : Int32) * x1) + (1 : Int32)).toNatClampNeg)), some (vI (mi σ a3 (((4 : Int32) * x1) + (2 : Int32)).toNatClampNeg)), some (vI (mi σ a3 (((4 : Int32) * x1) + (3 : Int32)).toNatClampNeg)), none] [] K)) ∧ (((mi σ a3 ((4 : Int32) * x1).toNatClampNeg) = 110 → Runs G mX9_doPass rX9_doPass [(vR x0), (vI (mi σ a3 (((4 : Int32) * x1) + (1 : Int32)).toNatClampNeg))] σ (bk G mX9_does rX9_does 0 0 250 [some (vR x0), some (vI x1), some (vI (mi σ a3 (((4 : Int32) * x1) + (1 : Int32)).toNatClampNeg)), some (vI (mi σ a3 (((4 : Int32) * x1) + (2 : Int32)).toNatClampNeg)), some (vI (mi σ a3 (((4 : Int32) * x1) + (3 : Int32)).toNatClampNeg)), none] [] K)) ∧ (((mi σ a3 ((4 : Int32) * x1).toNatClampNeg) = 111 → Runs G mX9_doPass rX9_doPass [(vR x0), (vI (mi σ a3 (((4 : Int32) * x1) + (1 : Int32)).toNatClampNeg))] σ (bk G mX9_does rX9_does 0 0 250 [some (vR x0), some (vI x1), some (vI (mi σ a3 (((4 : Int32) * x1) + (1 : Int32)).toNatClampNeg)), some (vI (mi σ a3 (((4 : Int32) * x1) + (2 : Int32)).toNatClampNeg)), some (vI (mi σ a3 (((4 : Int32) * x1) + (3 : Int32)).toNatClampNeg)), none] [] K)) ∧ (((mi σ a3 ((4 : Int32) * x1).toNatClampNeg) = 112 → Runs G mX9_doPass rX9_doPass [(vR x0), (vI (mi σ a3 (((4 : Int32) * x1) + (1 : Int32)).toNatClampNeg))] σ (bk G mX9_does rX9_does 0 0 250 [some (vR x0), some (vI x1), some (vI (mi σ a3 (((4 : Int32) * x1) + (1 : Int32)).toNatClampNeg)), some (vI (mi σ a3 (((4 : Int32) * x1) + (2 : Int32)).toNatClampNeg)), some (vI (mi σ a3 (((4 : Int32) * x1) + (3 : Int32)).toNatClampNeg)), none] [] K)) ∧ (((mi σ a3 ((4 : Int32) * x1).toNatClampNeg) = 113 → Runs G mX9_doPass rX9_doPass [(vR x0), (vI (mi σ a3 (((4 : Int32) * x1) + (1 : Int32)).toNatClampNeg))] σ (bk G mX9_does rX9_does 0 0 250 [some (vR x0), some (vI x1), some (vI (mi σ a3 (((4 : Int32) * x1) + (1 : Int32)).toNatClampNeg)), some (vI (mi σ a3 (((4 : Int32) * x1) + (2 : Int32)).toNatClampNeg)), some (vI (mi σ a3 (((4 : Int32) * x1) + (3 : Int32)).toNatClampNeg)), none] [] K)) ∧ (((mi σ a3 ((4 : Int32) * x1).toNatClampNeg) = 114 → Runs G mX9_doPass rX9_doPass [(vR x0), (vI (mi σ a3 (((4 : Int32) * x1) + (1 : Int32)).toNatClampNeg))] σ (bk G mX9_does rX9_does 0 0 250 [some (vR x0), some (vI x1), some (vI (mi σ a3 (((4 : Int32) * x1) + (1 : Int32)).toNatClampNeg)), some (vI (mi σ a3 (((4 : Int32) * x1) + (2 : Int32)).toNatClampNeg)), some (vI (mi σ a3 (((4 : Int32) * x1) + (3 : Int32)).toNatClampNeg)), none] [] K)) ∧ (((mi σ a3 ((4 : Int32) * x1).toNatClampNeg) = 115 → Runs G mX9_doSay rX9_doSay [(vR x0), (vI (mi σ a3 (((4 : Int32) * x1) + (1 : Int32)).toNatClampNeg)), (vI (mi σ a3 (((4 : Int32) * x1) + (2 : Int32)).toNatClampNeg))] σ (bk G mX9_does rX9_does 0 0 178 [some (vR x0), some (vI x1), some (vI (mi σ a3 (((4 : Int32) * x1) + (1 : Int32)).toNatClampNeg)), some (vI (mi σ a3 (((4 : Int32) * x1) + (2 : Int32)).toNatClampNeg)), some (vI (mi σ a3 (((4 : Int32) * x1) + (3 : Int32)).toNatClampNeg)), none] [] K)) ∧ (((mi σ a3 ((4 : Int32) * x1).toNatClampNeg) = 116 → Runs G mX9_doPass rX9_doPass [(vR x0), (vI (mi σ a3 (((4 : Int32) * x1) + (1 : Int32)).toNatClampNeg))] σ (bk G mX9_does rX9_does 0 0 250 [some (vR x0), some (vI x1), some (vI (mi σ a3 (((4 : Int32) * x1) + (1 : Int32)).toNatClampNeg)), some (vI (mi σ a3 (((4 : Int32) * x1) + (2 : Int32)).toNatClampNeg)), some (vI (mi σ a3 (((4 : Int32) * x1) + (3 : Int32)).toNatClampNeg)), none] [] K)) ∧ (((mi σ a3 ((4 : Int32) * x1).toNatClampNeg) = 117 → Runs G mX9_doPass rX9_doPass [(vR x0), (vI (mi σ a3 (((4 : Int32) * x1) + (1 : Int32)).toNatClampNeg))] σ (bk G mX9_does rX9_does 0 0 250 [some (vR x0), some (vI x1), some (vI (mi σ a3 (((4 : Int32) * x1) + (1 : Int32)).toNatClampNeg)), some (vI (mi σ a3 (((4 : Int32) * x1) + (2 : Int32)).toNatClampNeg)), some (vI (mi σ a3 (((4 : Int32) * x1) + (3 : Int32)).toNatClampNeg)), none] [] K)) ∧ (((mi σ a3 ((4 : Int32) * x1).toNatClampNeg) = 118 → Runs G mX9_doPass rX9_doPass [(vR x0), (vI (mi σ a3 (((4 : Int32) * x1) + (1 : Int32)).toNatClampNeg))] σ (bk G mX9_does rX9_does 0 0 250 [some (vR x0), some (vI x1), some (vI (mi σ a3 (((4 : Int32) * x1) + (1 : Int32)).toNatClampNeg)), some (vI (mi σ a3 (((4 : Int32) * x1) + (2 : Int32)).toNatClampNeg)), some (vI (mi σ a3 (((4 : Int32) * x1) + (3 : Int32)).toNatClampNeg)), none] [] K)) ∧ (((mi σ a3 ((4 : Int32) * x1).toNatClampNeg) = 119 → Runs G mX9_doWarm rX9_doWarm [(vR x0), (vI (mi σ a3 (((4 : Int32) * x1) + (1 : Int32)).toNatClampNeg)), (vI (mi σ a3 (((4 : Int32) * x1) + (2 : Int32)).toNatClampNeg)), (vI (mi σ a3 (((4 : Int32) * x1) + (3 : Int32)).toNatClampNeg))] σ (bk G mX9_does rX9_does 0 0 212 [some (vR x0), some (vI x1), some (vI (mi σ a3 (((4 : Int32) * x1) + (1 : Int32)).toNatClampNeg)), some (vI (mi σ a3 (((4 : Int32) * x1) + (2 : Int32)).toNatClampNeg)), some (vI (mi σ a3 (((4 : Int32) * x1) + (3 : Int32)).toNatClampNeg)), none] [] K)) ∧ (((mi σ a3 ((4 : Int32) * x1).toNatClampNeg) = 120 → Runs G mX9_doPass rX9_doPass [(vR x0), (vI (mi σ a3 (((4 : Int32) * x1) + (1 : Int32)).toNatClampNeg))] σ (bk G mX9_does rX9_does 0 0 250 [some (vR x0), some (vI x1), some (vI (mi σ a3 (((4 : Int32) * x1) + (1 : Int32)).toNatClampNeg)), some (vI (mi σ a3 (((4 : Int32) * x1) + (2 : Int32)).toNatClampNeg)), some (vI (mi σ a3 (((4 : Int32) * x1) + (3 : Int32)).toNatClampNeg)), none] [] K)) ∧ (((mi σ a3 ((4 : Int32) * x1).toNatClampNeg) = 121 → Runs G mX9_doPass rX9_doPass [(vR x0), (vI (mi σ a3 (((4 : Int32) * x1) + (1 : Int32)).toNatClampNeg))] σ (bk G mX9_does rX9_does 0 0 250 [some (vR x0), some (vI x1), some (vI (mi σ a3 (((4 : Int32) * x1) + (1 : Int32)).toNatClampNeg)), some (vI (mi σ a3 (((4 : Int32) * x1) + (2 : Int32)).toNatClampNeg)), some (vI (mi σ a3 (((4 : Int32) * x1) + (3 : Int32)).toNatClampNeg)), none] [] K)) ∧ ((mi σ a3 ((4 : Int32) * x1).toNatClampNeg) = 122 → vp_in ((4 : Int32) * x1) n5 ∧ ((¬ (mi σ a3 ((4 : Int32) * x1).toNatClampNeg) = (108 : Int32) → Runs G mX9_doListen rX9_doListen [(vR x0), (vI (mi σ a3 (((4 : Int32) * x1) + (1 : Int32)).toNatClampNeg)), (vI (0 : Int32))] σ (bk G mX9_does rX9_does 0 0 240 [some (vR x0), some (vI x1), some (vI (mi σ a3 (((4 : Int32) * x1) + (1 : Int32)).toNatClampNeg)), some (vI (mi σ a3 (((4 : Int32) * x1) + (2 : Int32)).toNatClampNeg)), some (vI (mi σ a3 (((4 : Int32) * x1) + (3 : Int32)).toNatClampNeg)), none] [] K)) ∧ ((mi σ a3 ((4 : Int32) * x1).toNatClampNeg) = (108 : Int32) → Runs G mX9_doListen rX9_doListen [(vR x0), (vI (mi σ a3 (((4 : Int32) * x1) + (1 : Int32)).toNatClampNeg)), (vI (1 : Int32))] σ (bk G mX9_does rX9_does 0 0 240 [some (vR x0), some (vI x1), some (vI (mi σ a3 (((4 : Int32) * x1) + (1 : Int32)).toNatClampNeg)), some (vI (mi σ a3 (((4 : Int32) * x1) + (2 : Int32)).toNatClampNeg)), some (vI (mi σ a3 (((4 : Int32) * x1) + (3 : Int32)).toNatClampNeg)), none] [] K)))))))))))))))))))))))))))) : At G mX9_does rX9_does 0 0 0 [some (vR x0), some (vI x1), none, none, none, none] [] σ K := by
  refine s_aload_n (i := 0) dX9_does_0 rfl rfl ?_
  obtain ⟨a1, ea1, h⟩ := h
  obtain ⟨t2, h⟩ := h
  refine t_getR gk dX9_does_1 fX9_36 rfl ea1 t2 ?_
  refine s_iconst (v := 4) dX9_does_4 (by decide) ?_
  refine s_iload_n (i := 1) dX9_does_5 rfl rfl ?_
  refine s_imul dX9_does_6 ?_
  refine s_iconst (v := 1) dX9_does_7 (by decide) ?_
  refine s_iadd dX9_does_8 ?_
  obtain ⟨a3, ea3, h⟩ := h
  obtain ⟨n5, t4, h⟩ := h
  obtain ⟨c6, h⟩ := h
  refine t_iald gk dX9_does_9 ea3 t4 c6 ?_
  refine s_istore_n (i := 2) (L' := [some (vR x0), some (vI x1), some (vI (mi σ a3 (((4 : Int32) * x1) + (1 : Int32)).toNatClampNeg)), none, none, none]) dX9_does_10 rfl rfl (by decide) rfl ?_
  refine s_aload_n (i := 0) dX9_does_11 rfl rfl ?_
  refine t_getR gk dX9_does_12 fX9_36 rfl ea1 t2 ?_
  refine s_iconst (v := 4) dX9_does_15 (by decide) ?_
  refine s_iload_n (i := 1) dX9_does_16 rfl rfl ?_
  refine s_imul dX9_does_17 ?_
  refine s_iconst (v := 2) dX9_does_18 (by decide) ?_
  refine s_iadd dX9_does_19 ?_
  obtain ⟨c7, h⟩ := h
  refine t_iald gk dX9_does_20 ea3 t4 c7 ?_
  refine s_istore_n (i := 3) (L' := [some (vR x0), some (vI x1), some (vI (mi σ a3 (((4 : Int32) * x1) + (1 : Int32)).toNatClampNeg)), some (vI (mi σ a3 (((4 : Int32) * x1) + (2 : Int32)).toNatClampNeg)), none, none]) dX9_does_21 rfl rfl (by decide) rfl ?_
  refine s_aload_n (i := 0) dX9_does_22 rfl rfl ?_
  refine t_getR gk dX9_does_23 fX9_36 rfl ea1 t2 ?_
  refine s_iconst (v := 4) dX9_does_26 (by decide) ?_
  refine s_iload_n (i := 1) dX9_does_27 rfl rfl ?_
  refine s_imul dX9_does_28 ?_
  refine s_iconst (v := 3) dX9_does_29 (by decide) ?_
  refine s_iadd dX9_does_30 ?_
  obtain ⟨c8, h⟩ := h
  refine t_iald gk dX9_does_31 ea3 t4 c8 ?_
  refine s_istore (L' := [some (vR x0), some (vI x1), some (vI (mi σ a3 (((4 : Int32) * x1) + (1 : Int32)).toNatClampNeg)), some (vI (mi σ a3 (((4 : Int32) * x1) + (2 : Int32)).toNatClampNeg)), some (vI (mi σ a3 (((4 : Int32) * x1) + (3 : Int32)).toNatClampNeg)), none]) dX9_does_32 rfl (by decide) rfl ?_
  refine s_aload_n (i := 0) dX9_does_34 rfl rfl ?_
  refine t_getR gk dX9_does_35 fX9_36 rfl ea1 t2 ?_
  refine s_iconst (v := 4) dX9_does_38 (by decide) ?_
  refine s_iload_n (i := 1) dX9_does_39 rfl rfl ?_
  refine s_imul dX9_does_40 ?_
  obtain ⟨c9, h⟩ := h
  refine t_iald gk dX9_does_41 ea3 t4 c9 ?_
  by_cases q10 : (mi σ a3 ((4 : Int32) * x1).toNatClampNeg).toInt < 100 ∨ 122 < (mi σ a3 ((4 : Int32) * x1).toNatClampNeg).toInt
  · refine s_tableOut (tgt := 245) dX9_does_42 q10 (by decide) ?_
    have h := h.1 q10
    refine s_aload_n (i := 0) dX9_does_245 rfl rfl ?_
    refine s_iload_n (i := 2) dX9_does_246 rfl rfl ?_
    exact t_callV (ci := 9) (as := [(vI (mi σ a3 (((4 : Int32) * x1) + (1 : Int32)).toNatClampNeg))]) (S := []) gk dX9_does_247 gX9_160 (by decide) rfl w_1835 wp_34 ea1 t2 rfl rfl (Nat.le_of_ble_eq_true rfl) (by decide) h
  · replace h := h.2
    by_cases w110 : (mi σ a3 ((4 : Int32) * x1).toNatClampNeg) = 100
    · refine s_tableIn (off := 141) (tgt := 183) dX9_does_42 (by rw [w110]; decide) (by rw [w110]; decide) (by rw [w110]; decide) (by decide) ?_
      have h := h.1 w110
      refine s_aload_n (i := 0) dX9_does_183 rfl rfl ?_
      refine s_iload_n (i := 2) dX9_does_184 rfl rfl ?_
      exact t_callV (ci := 9) (as := [(vI (mi σ a3 (((4 : Int32) * x1) + (1 : Int32)).toNatClampNeg))]) (S := []) gk dX9_does_185 gX9_108 (by decide) rfl w_1638 wp_14 ea1 t2 rfl rfl (Nat.le_of_ble_eq_true rfl) (by decide) h
    replace h := h.2
    by_cases w111 : (mi σ a3 ((4 : Int32) * x1).toNatClampNeg) = 101
    · refine s_tableIn (off := 203) (tgt := 245) dX9_does_42 (by rw [w111]; decide) (by rw [w111]; decide) (by rw [w111]; decide) (by decide) ?_
      have h := h.1 w111
      refine s_aload_n (i := 0) dX9_does_245 rfl rfl ?_
      refine s_iload_n (i := 2) dX9_does_246 rfl rfl ?_
      exact t_callV (ci := 9) (as := [(vI (mi σ a3 (((4 : Int32) * x1) + (1 : Int32)).toNatClampNeg))]) (S := []) gk dX9_does_247 gX9_160 (by decide) rfl w_1835 wp_34 ea1 t2 rfl rfl (Nat.le_of_ble_eq_true rfl) (by decide) h
    replace h := h.2
    by_cases w112 : (mi σ a3 ((4 : Int32) * x1).toNatClampNeg) = 102
    · refine s_tableIn (off := 106) (tgt := 148) dX9_does_42 (by rw [w112]; decide) (by rw [w112]; decide) (by rw [w112]; decide) (by decide) ?_
      have h := h.1 w112
      refine s_aload_n (i := 0) dX9_does_148 rfl rfl ?_
      refine s_iload_n (i := 2) dX9_does_149 rfl rfl ?_
      refine s_iload_n (i := 3) dX9_does_150 rfl rfl ?_
      refine s_iload dX9_does_151 rfl ?_
      exact t_callV (ci := 9) (as := [(vI (mi σ a3 (((4 : Int32) * x1) + (1 : Int32)).toNatClampNeg)), (vI (mi σ a3 (((4 : Int32) * x1) + (2 : Int32)).toNatClampNeg)), (vI (mi σ a3 (((4 : Int32) * x1) + (3 : Int32)).toNatClampNeg))]) (S := []) gk dX9_does_153 gX9_118 (by decide) rfl w_1677 wp_18 ea1 t2 rfl rfl (Nat.le_of_ble_eq_true rfl) (by decide) h
    replace h := h.2
    by_cases w113 : (mi σ a3 ((4 : Int32) * x1).toNatClampNeg) = 103
    · refine s_tableIn (off := 203) (tgt := 245) dX9_does_42 (by rw [w113]; decide) (by rw [w113]; decide) (by rw [w113]; decide) (by decide) ?_
      have h := h.1 w113
      refine s_aload_n (i := 0) dX9_does_245 rfl rfl ?_
      refine s_iload_n (i := 2) dX9_does_246 rfl rfl ?_
      exact t_callV (ci := 9) (as := [(vI (mi σ a3 (((4 : Int32) * x1) + (1 : Int32)).toNatClampNeg))]) (S := []) gk dX9_does_247 gX9_160 (by decide) rfl w_1835 wp_34 ea1 t2 rfl rfl (Nat.le_of_ble_eq_true rfl) (by decide) h
    replace h := h.2
    by_cases w114 : (mi σ a3 ((4 : Int32) * x1).toNatClampNeg) = 104
    · refine s_tableIn (off := 151) (tgt := 193) dX9_does_42 (by rw [w114]; decide) (by rw [w114]; decide) (by rw [w114]; decide) (by decide) ?_
      have h := h.1 w114
      refine s_aload_n (i := 0) dX9_does_193 rfl rfl ?_
      refine s_iload_n (i := 2) dX9_does_194 rfl rfl ?_
      refine s_iload_n (i := 3) dX9_does_195 rfl rfl ?_
      exact t_callV (ci := 9) (as := [(vI (mi σ a3 (((4 : Int32) * x1) + (1 : Int32)).toNatClampNeg)), (vI (mi σ a3 (((4 : Int32) * x1) + (2 : Int32)).toNatClampNeg))]) (S := []) gk dX9_does_196 gX9_148 (by decide) rfl w_1795 wp_28 ea1 t2 rfl rfl (Nat.le_of_ble_eq_true rfl) (by decide) h
    replace h := h.2
    by_cases w115 : (mi σ a3 ((4 : Int32) * x1).toNatClampNeg) = 105
    · refine s_tableIn (off := 203) (tgt := 245) dX9_does_42 (by rw [w115]; decide) (by rw [w115]; decide) (by rw [w115]; decide) (by decide) ?_
      have h := h.1 w115
      refine s_aload_n (i := 0) dX9_does_245 rfl rfl ?_
      refine s_iload_n (i := 2) dX9_does_246 rfl rfl ?_
      exact t_callV (ci := 9) (as := [(vI (mi σ a3 (((4 : Int32) * x1) + (1 : Int32)).toNatClampNeg))]) (S := []) gk dX9_does_247 gX9_160 (by decide) rfl w_1835 wp_34 ea1 t2 rfl rfl (Nat.le_of_ble_eq_true rfl) (by decide) h
    replace h := h.2
    by_cases w116 : (mi σ a3 ((4 : Int32) * x1).toNatClampNeg) = 106
    · refine s_tableIn (off := 119) (tgt := 161) dX9_does_42 (by rw [w116]; decide) (by rw [w116]; decide) (by rw [w116]; decide) (by decide) ?_
      have h := h.1 w116
      refine s_aload_n (i := 0) dX9_does_161 rfl rfl ?_
      refine s_iload_n (i := 2) dX9_does_162 rfl rfl ?_
      refine s_iload_n (i := 3) dX9_does_163 rfl rfl ?_
      exact t_callV (ci := 9) (as := [(vI (mi σ a3 (((4 : Int32) * x1) + (1 : Int32)).toNatClampNeg)), (vI (mi σ a3 (((4 : Int32) * x1) + (2 : Int32)).toNatClampNeg))]) (S := []) gk dX9_does_164 gX9_102 (by decide) rfl w_1605 wp_9 ea1 t2 rfl rfl (Nat.le_of_ble_eq_true rfl) (by decide) h
    replace h := h.2
    by_cases w117 : (mi σ a3 ((4 : Int32) * x1).toNatClampNeg) = 107
    · refine s_tableIn (off := 203) (tgt := 245) dX9_does_42 (by rw [w117]; decide) (by rw [w117]; decide) (by rw [w117]; decide) (by decide) ?_
      have h := h.1 w117
      refine s_aload_n (i := 0) dX9_does_245 rfl rfl ?_
      refine s_iload_n (i := 2) dX9_does_246 rfl rfl ?_
      exact t_callV (ci := 9) (as := [(vI (mi σ a3 (((4 : Int32) * x1) + (1 : Int32)).toNatClampNeg))]) (S := []) gk dX9_does_247 gX9_160 (by decide) rfl w_1835 wp_34 ea1 t2 rfl rfl (Nat.le_of_ble_eq_true rfl) (by decide) h
    replace h := h.2
    by_cases w118 : (mi σ a3 ((4 : Int32) * x1).toNatClampNeg) = 108
    · refine s_tableIn (off := 175) (tgt := 217) dX9_does_42 (by rw [w118]; decide) (by rw [w118]; decide) (by rw [w118]; decide) (by decide) ?_
      have h := h.1 w118
      refine s_aload_n (i := 0) dX9_does_217 rfl rfl ?_
      refine s_iload_n (i := 2) dX9_does_218 rfl rfl ?_
      refine s_aload_n (i := 0) dX9_does_219 rfl rfl ?_
      refine t_getR gk dX9_does_220 fX9_36 rfl ea1 t2 ?_
      refine s_iconst (v := 4) dX9_does_223 (by decide) ?_
      refine s_iload_n (i := 1) dX9_does_224 rfl rfl ?_
      refine s_imul dX9_does_225 ?_
      obtain ⟨c12, h⟩ := h
      refine t_iald gk dX9_does_226 ea3 t4 c12 ?_
      refine s_bipush (v := 108) dX9_does_227 (by decide) ?_
      refine s_icmp_ne (tgt := 236) dX9_does_229 (by decide) (fun q13 => ?_) (fun q13 => ?_)
      · have h := h.1 q13
        refine s_iconst (v := 0) dX9_does_236 (by decide) ?_
        exact t_callV (ci := 9) (as := [(vI (mi σ a3 (((4 : Int32) * x1) + (1 : Int32)).toNatClampNeg)), (vI (0 : Int32))]) (S := []) gk dX9_does_237 gX9_125 (by decide) rfl w_1685 wp_19 ea1 t2 rfl rfl (Nat.le_of_ble_eq_true rfl) (by decide) h
      · have h := h.2 q13
        refine s_iconst (v := 1) dX9_does_232 (by decide) ?_
        refine s_goto (tgt := 237) dX9_does_233 (by decide) ?_
        exact t_callV (ci := 9) (as := [(vI (mi σ a3 (((4 : Int32) * x1) + (1 : Int32)).toNatClampNeg)), (vI (1 : Int32))]) (S := []) gk dX9_does_237 gX9_125 (by decide) rfl w_1685 wp_19 ea1 t2 rfl rfl (Nat.le_of_ble_eq_true rfl) (by decide) h
    replace h := h.2
    by_cases w119 : (mi σ a3 ((4 : Int32) * x1).toNatClampNeg) = 109
    · refine s_tableIn (off := 203) (tgt := 245) dX9_does_42 (by rw [w119]; decide) (by rw [w119]; decide) (by rw [w119]; decide) (by decide) ?_
      have h := h.1 w119
      refine s_aload_n (i := 0) dX9_does_245 rfl rfl ?_
      refine s_iload_n (i := 2) dX9_does_246 rfl rfl ?_
      exact t_callV (ci := 9) (as := [(vI (mi σ a3 (((4 : Int32) * x1) + (1 : Int32)).toNatClampNeg))]) (S := []) gk dX9_does_247 gX9_160 (by decide) rfl w_1835 wp_34 ea1 t2 rfl rfl (Nat.le_of_ble_eq_true rfl) (by decide) h
    replace h := h.2
    by_cases w1110 : (mi σ a3 ((4 : Int32) * x1).toNatClampNeg) = 110
    · refine s_tableIn (off := 203) (tgt := 245) dX9_does_42 (by rw [w1110]; decide) (by rw [w1110]; decide) (by rw [w1110]; decide) (by decide) ?_
      have h := h.1 w1110
      refine s_aload_n (i := 0) dX9_does_245 rfl rfl ?_
      refine s_iload_n (i := 2) dX9_does_246 rfl rfl ?_
      exact t_callV (ci := 9) (as := [(vI (mi σ a3 (((4 : Int32) * x1) + (1 : Int32)).toNatClampNeg))]) (S := []) gk dX9_does_247 gX9_160 (by decide) rfl w_1835 wp_34 ea1 t2 rfl rfl (Nat.le_of_ble_eq_true rfl) (by decide) h
    replace h := h.2
    by_cases w1111 : (mi σ a3 ((4 : Int32) * x1).toNatClampNeg) = 111
    · refine s_tableIn (off := 203) (tgt := 245) dX9_does_42 (by rw [w1111]; decide) (by rw [w1111]; decide) (by rw [w1111]; decide) (by decide) ?_
      have h := h.1 w1111
      refine s_aload_n (i := 0) dX9_does_245 rfl rfl ?_
      refine s_iload_n (i := 2) dX9_does_246 rfl rfl ?_
      exact t_callV (ci := 9) (as := [(vI (mi σ a3 (((4 : Int32) * x1) + (1 : Int32)).toNatClampNeg))]) (S := []) gk dX9_does_247 gX9_160 (by decide) rfl w_1835 wp_34 ea1 t2 rfl rfl (Nat.le_of_ble_eq_true rfl) (by decide) h
    replace h := h.2
    by_cases w1112 : (mi σ a3 ((4 : Int32) * x1).toNatClampNeg) = 112
    · refine s_tableIn (off := 203) (tgt := 245) dX9_does_42 (by rw [w1112]; decide) (by rw [w1112]; decide) (by rw [w1112]; decide) (by decide) ?_
      have h := h.1 w1112
      refine s_aload_n (i := 0) dX9_does_245 rfl rfl ?_
      refine s_iload_n (i := 2) dX9_does_246 rfl rfl ?_
      exact t_callV (ci := 9) (as := [(vI (mi σ a3 (((4 : Int32) * x1) + (1 : Int32)).toNatClampNeg))]) (S := []) gk dX9_does_247 gX9_160 (by decide) rfl w_1835 wp_34 ea1 t2 rfl rfl (Nat.le_of_ble_eq_true rfl) (by decide) h
    replace h := h.2
    by_cases w1113 : (mi σ a3 ((4 : Int32) * x1).toNatClampNeg) = 113
    · refine s_tableIn (off := 203) (tgt := 245) dX9_does_42 (by rw [w1113]; decide) (by rw [w1113]; decide) (by rw [w1113]; decide) (by decide) ?_
      have h := h.1 w1113
      refine s_aload_n (i := 0) dX9_does_245 rfl rfl ?_
      refine s_iload_n (i := 2) dX9_does_246 rfl rfl ?_
      exact t_callV (ci := 9) (as := [(vI (mi σ a3 (((4 : Int32) * x1) + (1 : Int32)).toNatClampNeg))]) (S := []) gk dX9_does_247 gX9_160 (by decide) rfl w_1835 wp_34 ea1 t2 rfl rfl (Nat.le_of_ble_eq_true rfl) (by decide) h
    replace h := h.2
    by_cases w1114 : (mi σ a3 ((4 : Int32) * x1).toNatClampNeg) = 114
    · refine s_tableIn (off := 203) (tgt := 245) dX9_does_42 (by rw [w1114]; decide) (by rw [w1114]; decide) (by rw [w1114]; decide) (by decide) ?_
      have h := h.1 w1114
      refine s_aload_n (i := 0) dX9_does_245 rfl rfl ?_
      refine s_iload_n (i := 2) dX9_does_246 rfl rfl ?_
      exact t_callV (ci := 9) (as := [(vI (mi σ a3 (((4 : Int32) * x1) + (1 : Int32)).toNatClampNeg))]) (S := []) gk dX9_does_247 gX9_160 (by decide) rfl w_1835 wp_34 ea1 t2 rfl rfl (Nat.le_of_ble_eq_true rfl) (by decide) h
    replace h := h.2
    by_cases w1115 : (mi σ a3 ((4 : Int32) * x1).toNatClampNeg) = 115
    · refine s_tableIn (off := 130) (tgt := 172) dX9_does_42 (by rw [w1115]; decide) (by rw [w1115]; decide) (by rw [w1115]; decide) (by decide) ?_
      have h := h.1 w1115
      refine s_aload_n (i := 0) dX9_does_172 rfl rfl ?_
      refine s_iload_n (i := 2) dX9_does_173 rfl rfl ?_
      refine s_iload_n (i := 3) dX9_does_174 rfl rfl ?_
      exact t_callV (ci := 9) (as := [(vI (mi σ a3 (((4 : Int32) * x1) + (1 : Int32)).toNatClampNeg)), (vI (mi σ a3 (((4 : Int32) * x1) + (2 : Int32)).toNatClampNeg))]) (S := []) gk dX9_does_175 gX9_111 (by decide) rfl w_1649 wp_15 ea1 t2 rfl rfl (Nat.le_of_ble_eq_true rfl) (by decide) h
    replace h := h.2
    by_cases w1116 : (mi σ a3 ((4 : Int32) * x1).toNatClampNeg) = 116
    · refine s_tableIn (off := 203) (tgt := 245) dX9_does_42 (by rw [w1116]; decide) (by rw [w1116]; decide) (by rw [w1116]; decide) (by decide) ?_
      have h := h.1 w1116
      refine s_aload_n (i := 0) dX9_does_245 rfl rfl ?_
      refine s_iload_n (i := 2) dX9_does_246 rfl rfl ?_
      exact t_callV (ci := 9) (as := [(vI (mi σ a3 (((4 : Int32) * x1) + (1 : Int32)).toNatClampNeg))]) (S := []) gk dX9_does_247 gX9_160 (by decide) rfl w_1835 wp_34 ea1 t2 rfl rfl (Nat.le_of_ble_eq_true rfl) (by decide) h
    replace h := h.2
    by_cases w1117 : (mi σ a3 ((4 : Int32) * x1).toNatClampNeg) = 117
    · refine s_tableIn (off := 203) (tgt := 245) dX9_does_42 (by rw [w1117]; decide) (by rw [w1117]; decide) (by rw [w1117]; decide) (by decide) ?_
      have h := h.1 w1117
      refine s_aload_n (i := 0) dX9_does_245 rfl rfl ?_
      refine s_iload_n (i := 2) dX9_does_246 rfl rfl ?_
      exact t_callV (ci := 9) (as := [(vI (mi σ a3 (((4 : Int32) * x1) + (1 : Int32)).toNatClampNeg))]) (S := []) gk dX9_does_247 gX9_160 (by decide) rfl w_1835 wp_34 ea1 t2 rfl rfl (Nat.le_of_ble_eq_true rfl) (by decide) h
    replace h := h.2
    by_cases w1118 : (mi σ a3 ((4 : Int32) * x1).toNatClampNeg) = 118
    · refine s_tableIn (off := 203) (tgt := 245) dX9_does_42 (by rw [w1118]; decide) (by rw [w1118]; decide) (by rw [w1118]; decide) (by decide) ?_
      have h := h.1 w1118
      refine s_aload_n (i := 0) dX9_does_245 rfl rfl ?_
      refine s_iload_n (i := 2) dX9_does_246 rfl rfl ?_
      exact t_callV (ci := 9) (as := [(vI (mi σ a3 (((4 : Int32) * x1) + (1 : Int32)).toNatClampNeg))]) (S := []) gk dX9_does_247 gX9_160 (by decide) rfl w_1835 wp_34 ea1 t2 rfl rfl (Nat.le_of_ble_eq_true rfl) (by decide) h
    replace h := h.2
    by_cases w1119 : (mi σ a3 ((4 : Int32) * x1).toNatClampNeg) = 119
    · refine s_tableIn (off := 162) (tgt := 204) dX9_does_42 (by rw [w1119]; decide) (by rw [w1119]; decide) (by rw [w1119]; decide) (by decide) ?_
      have h := h.1 w1119
      refine s_aload_n (i := 0) dX9_does_204 rfl rfl ?_
      refine s_iload_n (i := 2) dX9_does_205 rfl rfl ?_
      refine s_iload_n (i := 3) dX9_does_206 rfl rfl ?_
      refine s_iload dX9_does_207 rfl ?_
      exact t_callV (ci := 9) (as := [(vI (mi σ a3 (((4 : Int32) * x1) + (1 : Int32)).toNatClampNeg)), (vI (mi σ a3 (((4 : Int32) * x1) + (2 : Int32)).toNatClampNeg)), (vI (mi σ a3 (((4 : Int32) * x1) + (3 : Int32)).toNatClampNeg))]) (S := []) gk dX9_does_209 gX9_151 (by decide) rfl w_1815 wp_31 ea1 t2 rfl rfl (Nat.le_of_ble_eq_true rfl) (by decide) h
    replace h := h.2
    by_cases w1120 : (mi σ a3 ((4 : Int32) * x1).toNatClampNeg) = 120
    · refine s_tableIn (off := 203) (tgt := 245) dX9_does_42 (by rw [w1120]; decide) (by rw [w1120]; decide) (by rw [w1120]; decide) (by decide) ?_
      have h := h.1 w1120
      refine s_aload_n (i := 0) dX9_does_245 rfl rfl ?_
      refine s_iload_n (i := 2) dX9_does_246 rfl rfl ?_
      exact t_callV (ci := 9) (as := [(vI (mi σ a3 (((4 : Int32) * x1) + (1 : Int32)).toNatClampNeg))]) (S := []) gk dX9_does_247 gX9_160 (by decide) rfl w_1835 wp_34 ea1 t2 rfl rfl (Nat.le_of_ble_eq_true rfl) (by decide) h
    replace h := h.2
    by_cases w1121 : (mi σ a3 ((4 : Int32) * x1).toNatClampNeg) = 121
    · refine s_tableIn (off := 203) (tgt := 245) dX9_does_42 (by rw [w1121]; decide) (by rw [w1121]; decide) (by rw [w1121]; decide) (by decide) ?_
      have h := h.1 w1121
      refine s_aload_n (i := 0) dX9_does_245 rfl rfl ?_
      refine s_iload_n (i := 2) dX9_does_246 rfl rfl ?_
      exact t_callV (ci := 9) (as := [(vI (mi σ a3 (((4 : Int32) * x1) + (1 : Int32)).toNatClampNeg))]) (S := []) gk dX9_does_247 gX9_160 (by decide) rfl w_1835 wp_34 ea1 t2 rfl rfl (Nat.le_of_ble_eq_true rfl) (by decide) h
    replace h := h.2
    by_cases w1122 : (mi σ a3 ((4 : Int32) * x1).toNatClampNeg) = 122
    · refine s_tableIn (off := 175) (tgt := 217) dX9_does_42 (by rw [w1122]; decide) (by rw [w1122]; decide) (by rw [w1122]; decide) (by decide) ?_
      have h := h w1122
      refine s_aload_n (i := 0) dX9_does_217 rfl rfl ?_
      refine s_iload_n (i := 2) dX9_does_218 rfl rfl ?_
      refine s_aload_n (i := 0) dX9_does_219 rfl rfl ?_
      refine t_getR gk dX9_does_220 fX9_36 rfl ea1 t2 ?_
      refine s_iconst (v := 4) dX9_does_223 (by decide) ?_
      refine s_iload_n (i := 1) dX9_does_224 rfl rfl ?_
      refine s_imul dX9_does_225 ?_
      obtain ⟨c14, h⟩ := h
      refine t_iald gk dX9_does_226 ea3 t4 c14 ?_
      refine s_bipush (v := 108) dX9_does_227 (by decide) ?_
      refine s_icmp_ne (tgt := 236) dX9_does_229 (by decide) (fun q15 => ?_) (fun q15 => ?_)
      · have h := h.1 q15
        refine s_iconst (v := 0) dX9_does_236 (by decide) ?_
        exact t_callV (ci := 9) (as := [(vI (mi σ a3 (((4 : Int32) * x1) + (1 : Int32)).toNatClampNeg)), (vI (0 : Int32))]) (S := []) gk dX9_does_237 gX9_125 (by decide) rfl w_1685 wp_19 ea1 t2 rfl rfl (Nat.le_of_ble_eq_true rfl) (by decide) h
      · have h := h.2 q15
        refine s_iconst (v := 1) dX9_does_232 (by decide) ?_
        refine s_goto (tgt := 237) dX9_does_233 (by decide) ?_
        exact t_callV (ci := 9) (as := [(vI (mi σ a3 (((4 : Int32) * x1) + (1 : Int32)).toNatClampNeg)), (vI (1 : Int32))]) (S := []) gk dX9_does_237 gX9_125 (by decide) rfl w_1685 wp_19 ea1 t2 rfl rfl (Nat.le_of_ble_eq_true rfl) (by decide) h
    exact (tb_cover (x := (mi σ a3 ((4 : Int32) * x1).toNatClampNeg)) (lo := 100) (n := 23) (fun k hk => by match k, hk with | 0, _ => exact w110 | 1, _ => exact w111 | 2, _ => exact w112 | 3, _ => exact w113 | 4, _ => exact w114 | 5, _ => exact w115 | 6, _ => exact w116 | 7, _ => exact w117 | 8, _ => exact w118 | 9, _ => exact w119 | 10, _ => exact w1110 | 11, _ => exact w1111 | 12, _ => exact w1112 | 13, _ => exact w1113 | 14, _ => exact w1114 | 15, _ => exact w1115 | 16, _ => exact w1116 | 17, _ => exact w1117 | 18, _ => exact w1118 | 19, _ => exact w1119 | 20, _ => exact w1120 | 21, _ => exact w1121 | 22, _ => exact w1122 | k + 23, hk => omega) (by decide) q10).elim
theorem eX9_does {G : GG} (gk : GOK G) {σ : Mm} {K : RES → Mm → Prop} {x0 : Option Nat} {x1 : Int32}
    (h : ∃ a1, x0 = some a1 ∧ (mt σ a1).1 = 10 ∧ ∃ a3, mr σ a1 15 = some a3 ∧ ∃ n5, mt σ a3 = (50, n5) ∧ vp_in (((4 : Int32) * x1) + (1 : Int32)) n5 ∧ vp_in (((4 : Int32) * x1) + (2 : Int32)) n5 ∧ vp_in (((4 : Int32) * x1) + (3 : Int32)) n5 ∧ vp_in ((4 : Int32) * x1) n5 ∧ (((mi σ a3 ((4 : Int32) * x1).toNatClampNeg).toInt < 100 ∨ 122 < (mi σ a3 ((4 : Int32) * x1).toNatClampNeg).toInt → Runs G mX9_doPass rX9_doPass [(vR x0), (vI (mi σ a3 (((4 : Int32) * x1) + (1 : Int32)).toNatClampNeg))] σ (bk G mX9_does rX9_does 0 0 250 [some (vR x0), some (vI x1), some (vI (mi σ a3 (((4 : Int32) * x1) + (1 : Int32)).toNatClampNeg)), some (vI (mi σ a3 (((4 : Int32) * x1) + (2 : Int32)).toNatClampNeg)), some (vI (mi σ a3 (((4 : Int32) * x1) + (3 : Int32)).toNatClampNeg)), none] [] K)) ∧ (((mi σ a3 ((4 : Int32) * x1).toNatClampNeg) = 100 → Runs G mX9_doRemoveJar rX9_doRemoveJar [(vR x0), (vI (mi σ a3 (((4 : Int32) * x1) + (1 : Int32)).toNatClampNeg))] σ (bk G mX9_does rX9_does 0 0 188 [some (vR x0), some (vI x1), some (vI (mi σ a3 (((4 : Int32) * x1) + (1 : Int32)).toNatClampNeg)), some (vI (mi σ a3 (((4 : Int32) * x1) + (2 : Int32)).toNatClampNeg)), some (vI (mi σ a3 (((4 : Int32) * x1) + (3 : Int32)).toNatClampNeg)), none] [] K)) ∧ (((mi σ a3 ((4 : Int32) * x1).toNatClampNeg) = 101 → Runs G mX9_doPass rX9_doPass [(vR x0), (vI (mi σ a3 (((4 : Int32) * x1) + (1 : Int32)).toNatClampNeg))] σ (bk G mX9_does rX9_does 0 0 250 [some (vR x0), some (vI x1), some (vI (mi σ a3 (((4 : Int32) * x1) + (1 : Int32)).toNatClampNeg)), some (vI (mi σ a3 (((4 : Int32) * x1) + (2 : Int32)).toNatClampNeg)), some (vI (mi σ a3 (((4 : Int32) * x1) + (3 : Int32)).toNatClampNeg)), none] [] K)) ∧ (((mi σ a3 ((4 : Int32) * x1).toNatClampNeg) = 102 → Runs G mX9_doAddShelf rX9_doAddShelf [(vR x0), (vI (mi σ a3 (((4 : Int32) * x1) + (1 : Int32)).toNatClampNeg)), (vI (mi σ a3 (((4 : Int32) * x1) + (2 : Int32)).toNatClampNeg)), (vI (mi σ a3 (((4 : Int32) * x1) + (3 : Int32)).toNatClampNeg))] σ (bk G mX9_does rX9_does 0 0 156 [some (vR x0), some (vI x1), some (vI (mi σ a3 (((4 : Int32) * x1) + (1 : Int32)).toNatClampNeg)), some (vI (mi σ a3 (((4 : Int32) * x1) + (2 : Int32)).toNatClampNeg)), some (vI (mi σ a3 (((4 : Int32) * x1) + (3 : Int32)).toNatClampNeg)), none] [] K)) ∧ (((mi σ a3 ((4 : Int32) * x1).toNatClampNeg) = 103 → Runs G mX9_doPass rX9_doPass [(vR x0), (vI (mi σ a3 (((4 : Int32) * x1) + (1 : Int32)).toNatClampNeg))] σ (bk G mX9_does rX9_does 0 0 250 [some (vR x0), some (vI x1), some (vI (mi σ a3 (((4 : Int32) * x1) + (1 : Int32)).toNatClampNeg)), some (vI (mi σ a3 (((4 : Int32) * x1) + (2 : Int32)).toNatClampNeg)), some (vI (mi σ a3 (((4 : Int32) * x1) + (3 : Int32)).toNatClampNeg)), none] [] K)) ∧ (((mi σ a3 ((4 : Int32) * x1).toNatClampNeg) = 104 → Runs G mX9_doHear rX9_doHear [(vR x0), (vI (mi σ a3 (((4 : Int32) * x1) + (1 : Int32)).toNatClampNeg)), (vI (mi σ a3 (((4 : Int32) * x1) + (2 : Int32)).toNatClampNeg))] σ (bk G mX9_does rX9_does 0 0 199 [some (vR x0), some (vI x1), some (vI (mi σ a3 (((4 : Int32) * x1) + (1 : Int32)).toNatClampNeg)), some (vI (mi σ a3 (((4 : Int32) * x1) + (2 : Int32)).toNatClampNeg)), some (vI (mi σ a3 (((4 : Int32) * x1) + (3 : Int32)).toNatClampNeg)), none] [] K)) ∧ (((mi σ a3 ((4 : Int32) * x1).toNatClampNeg) = 105 → Runs G mX9_doPass rX9_doPass [(vR x0), (vI (mi σ a3 (((4 : Int32) * x1) + (1 : Int32)).toNatClampNeg))] σ (bk G mX9_does rX9_does 0 0 250 [some (vR x0), some (vI x1), some (vI (mi σ a3 (((4 : Int32) * x1) + (1 : Int32)).toNatClampNeg)), some (vI (mi σ a3 (((4 : Int32) * x1) + (2 : Int32)).toNatClampNeg)), some (vI (mi σ a3 (((4 : Int32) * x1) + (3 : Int32)).toNatClampNeg)), none] [] K)) ∧ (((mi σ a3 ((4 : Int32) * x1).toNatClampNeg) = 106 → Runs G mX9_doAddJar rX9_doAddJar [(vR x0), (vI (mi σ a3 (((4 : Int32) * x1) + (1 : Int32)).toNatClampNeg)), (vI (mi σ a3 (((4 : Int32) * x1) + (2 : Int32)).toNatClampNeg))] σ (bk G mX9_does rX9_does 0 0 167 [some (vR x0), some (vI x1), some (vI (mi σ a3 (((4 : Int32) * x1) + (1 : Int32)).toNatClampNeg)), some (vI (mi σ a3 (((4 : Int32) * x1) + (2 : Int32)).toNatClampNeg)), some (vI (mi σ a3 (((4 : Int32) * x1) + (3 : Int32)).toNatClampNeg)), none] [] K)) ∧ (((mi σ a3 ((4 : Int32) * x1).toNatClampNeg) = 107 → Runs G mX9_doPass rX9_doPass [(vR x0), (vI (mi σ a3 (((4 : Int32) * x1) + (1 : Int32)).toNatClampNeg))] σ (bk G mX9_does rX9_does 0 0 250 [some (vR x0), some (vI x1), some (vI (mi σ a3 (((4 : Int32) * x1) + (1 : Int32)).toNatClampNeg)), some (vI (mi σ a3 (((4 : Int32) * x1) + (2 : Int32)).toNatClampNeg)), some (vI (mi σ a3 (((4 : Int32) * x1) + (3 : Int32)).toNatClampNeg)), none] [] K)) ∧ (((mi σ a3 ((4 : Int32) * x1).toNatClampNeg) = 108 → vp_in ((4 : Int32) * x1) n5 ∧ ((¬ (mi σ a3 ((4 : Int32) * x1).toNatClampNeg) = (108 : Int32) → Runs G mX9_doListen rX9_doListen [(vR x0), (vI (mi σ a3 (((4 : Int32) * x1) + (1 : Int32)).toNatClampNeg)), (vI (0 : Int32))] σ (bk G mX9_does rX9_does 0 0 240 [some (vR x0), some (vI x1), some (vI (mi σ a3 (((4 : Int32) * x1) + (1 : Int32)).toNatClampNeg)), some (vI (mi σ a3 (((4 : Int32) * x1) + (2 : Int32)).toNatClampNeg)), some (vI (mi σ a3 (((4 : Int32) * x1) + (3 : Int32)).toNatClampNeg)), none] [] K)) ∧ ((mi σ a3 ((4 : Int32) * x1).toNatClampNeg) = (108 : Int32) → Runs G mX9_doListen rX9_doListen [(vR x0), (vI (mi σ a3 (((4 : Int32) * x1) + (1 : Int32)).toNatClampNeg)), (vI (1 : Int32))] σ (bk G mX9_does rX9_does 0 0 240 [some (vR x0), some (vI x1), some (vI (mi σ a3 (((4 : Int32) * x1) + (1 : Int32)).toNatClampNeg)), some (vI (mi σ a3 (((4 : Int32) * x1) + (2 : Int32)).toNatClampNeg)), some (vI (mi σ a3 (((4 : Int32) * x1) + (3 : Int32)).toNatClampNeg)), none] [] K)))) ∧ (((mi σ a3 ((4 : Int32) * x1).toNatClampNeg) = 109 → Runs G mX9_doPass rX9_doPass [(vR x0), (vI (mi σ a3 (((4 : Int32) * x1) + (1 : Int32)).toNatClampNeg))] σ (bk G mX9_does rX9_does 0 0 250 [some (vR x0), some (vI x1), some (vI (mi σ a3 (((4 : Int32) * x1) + (1 : Int32)).toNatClampNeg)), some (vI (mi σ a3 (((4 : Int32) * x1) + (2 : Int32)).toNatClampNeg)), some (vI (mi σ a3 (((4 : Int32) * x1) + (3 : Int32)).toNatClampNeg)), none] [] K)) ∧ (((mi σ a3 ((4 : Int32) * x1).toNatClampNeg) = 110 → Runs G mX9_doPass rX9_doPass [(vR x0), (vI (mi σ a3 (((4 : Int32) * x1) + (1 : Int32)).toNatClampNeg))] σ (bk G mX9_does rX9_does 0 0 250 [some (vR x0), some (vI x1), some (vI (mi σ a3 (((4 : Int32) * x1) + (1 : Int32)).toNatClampNeg)), some (vI (mi σ a3 (((4 : Int32) * x1) + (2 : Int32)).toNatClampNeg)), some (vI (mi σ a3 (((4 : Int32) * x1) + (3 : Int32)).toNatClampNeg)), none] [] K)) ∧ (((mi σ a3 ((4 : Int32) * x1).toNatClampNeg) = 111 → Runs G mX9_doPass rX9_doPass [(vR x0), (vI (mi σ a3 (((4 : Int32) * x1) + (1 : Int32)).toNatClampNeg))] σ (bk G mX9_does rX9_does 0 0 250 [some (vR x0), some (vI x1), some (vI (mi σ a3 (((4 : Int32) * x1) + (1 : Int32)).toNatClampNeg)), some (vI (mi σ a3 (((4 : Int32) * x1) + (2 : Int32)).toNatClampNeg)), some (vI (mi σ a3 (((4 : Int32) * x1) + (3 : Int32)).toNatClampNeg)), none] [] K)) ∧ (((mi σ a3 ((4 : Int32) * x1).toNatClampNeg) = 112 → Runs G mX9_doPass rX9_doPass [(vR x0), (vI (mi σ a3 (((4 : Int32) * x1) + (1 : Int32)).toNatClampNeg))] σ (bk G mX9_does rX9_does 0 0 250 [some (vR x0), some (vI x1), some (vI (mi σ a3 (((4 : Int32) * x1) + (1 : Int32)).toNatClampNeg)), some (vI (mi σ a3 (((4 : Int32) * x1) + (2 : Int32)).toNatClampNeg)), some (vI (mi σ a3 (((4 : Int32) * x1) + (3 : Int32)).toNatClampNeg)), none] [] K)) ∧ (((mi σ a3 ((4 : Int32) * x1).toNatClampNeg) = 113 → Runs G mX9_doPass rX9_doPass [(vR x0), (vI (mi σ a3 (((4 : Int32) * x1) + (1 : Int32)).toNatClampNeg))] σ (bk G mX9_does rX9_does 0 0 250 [some (vR x0), some (vI x1), some (vI (mi σ a3 (((4 : Int32) * x1) + (1 : Int32)).toNatClampNeg)), some (vI (mi σ a3 (((4 : Int32) * x1) + (2 : Int32)).toNatClampNeg)), some (vI (mi σ a3 (((4 : Int32) * x1) + (3 : Int32)).toNatClampNeg)), none] [] K)) ∧ (((mi σ a3 ((4 : Int32) * x1).toNatClampNeg) = 114 → Runs G mX9_doPass rX9_doPass [(vR x0), (vI (mi σ a3 (((4 : Int32) * x1) + (1 : Int32)).toNatClampNeg))] σ (bk G mX9_does rX9_does 0 0 250 [some (vR x0), some (vI x1), some (vI (mi σ a3 (((4 : Int32) * x1) + (1 : Int32)).toNatClampNeg)), some (vI (mi σ a3 (((4 : Int32) * x1) + (2 : Int32)).toNatClampNeg)), some (vI (mi σ a3 (((4 : Int32) * x1) + (3 : Int32)).toNatClampNeg)), none] [] K)) ∧ (((mi σ a3 ((4 : Int32) * x1).toNatClampNeg) = 115 → Runs G mX9_doSay rX9_doSay [(vR x0), (vI (mi σ a3 (((4 : Int32) * x1) + (1 : Int32)).toNatClampNeg)), (vI (mi σ a3 (((4 : Int32) * x1) + (2 : Int32)).toNatClampNeg))] σ (bk G mX9_does rX9_does 0 0 178 [some (vR x0), some (vI x1), some (vI (mi σ a3 (((4 : Int32) * x1) + (1 : Int32)).toNatClampNeg)), some (vI (mi σ a3 (((4 : Int32) * x1) + (2 : Int32)).toNatClampNeg)), some (vI (mi σ a3 (((4 : Int32) * x1) + (3 : Int32)).toNatClampNeg)), none] [] K)) ∧ (((mi σ a3 ((4 : Int32) * x1).toNatClampNeg) = 116 → Runs G mX9_doPass rX9_doPass [(vR x0), (vI (mi σ a3 (((4 : Int32) * x1) + (1 : Int32)).toNatClampNeg))] σ (bk G mX9_does rX9_does 0 0 250 [some (vR x0), some (vI x1), some (vI (mi σ a3 (((4 : Int32) * x1) + (1 : Int32)).toNatClampNeg)), some (vI (mi σ a3 (((4 : Int32) * x1) + (2 : Int32)).toNatClampNeg)), some (vI (mi σ a3 (((4 : Int32) * x1) + (3 : Int32)).toNatClampNeg)), none] [] K)) ∧ (((mi σ a3 ((4 : Int32) * x1).toNatClampNeg) = 117 → Runs G mX9_doPass rX9_doPass [(vR x0), (vI (mi σ a3 (((4 : Int32) * x1) + (1 : Int32)).toNatClampNeg))] σ (bk G mX9_does rX9_does 0 0 250 [some (vR x0), some (vI x1), some (vI (mi σ a3 (((4 : Int32) * x1) + (1 : Int32)).toNatClampNeg)), some (vI (mi σ a3 (((4 : Int32) * x1) + (2 : Int32)).toNatClampNeg)), some (vI (mi σ a3 (((4 : Int32) * x1) + (3 : Int32)).toNatClampNeg)), none] [] K)) ∧ (((mi σ a3 ((4 : Int32) * x1).toNatClampNeg) = 118 → Runs G mX9_doPass rX9_doPass [(vR x0), (vI (mi σ a3 (((4 : Int32) * x1) + (1 : Int32)).toNatClampNeg))] σ (bk G mX9_does rX9_does 0 0 250 [some (vR x0), some (vI x1), some (vI (mi σ a3 (((4 : Int32) * x1) + (1 : Int32)).toNatClampNeg)), some (vI (mi σ a3 (((4 : Int32) * x1) + (2 : Int32)).toNatClampNeg)), some (vI (mi σ a3 (((4 : Int32) * x1) + (3 : Int32)).toNatClampNeg)), none] [] K)) ∧ (((mi σ a3 ((4 : Int32) * x1).toNatClampNeg) = 119 → Runs G mX9_doWarm rX9_doWarm [(vR x0), (vI (mi σ a3 (((4 : Int32) * x1) + (1 : Int32)).toNatClampNeg)), (vI (mi σ a3 (((4 : Int32) * x1) + (2 : Int32)).toNatClampNeg)), (vI (mi σ a3 (((4 : Int32) * x1) + (3 : Int32)).toNatClampNeg))] σ (bk G mX9_does rX9_does 0 0 212 [some (vR x0), some (vI x1), some (vI (mi σ a3 (((4 : Int32) * x1) + (1 : Int32)).toNatClampNeg)), some (vI (mi σ a3 (((4 : Int32) * x1) + (2 : Int32)).toNatClampNeg)), some (vI (mi σ a3 (((4 : Int32) * x1) + (3 : Int32)).toNatClampNeg)), none] [] K)) ∧ (((mi σ a3 ((4 : Int32) * x1).toNatClampNeg) = 120 → Runs G mX9_doPass rX9_doPass [(vR x0), (vI (mi σ a3 (((4 : Int32) * x1) + (1 : Int32)).toNatClampNeg))] σ (bk G mX9_does rX9_does 0 0 250 [some (vR x0), some (vI x1), some (vI (mi σ a3 (((4 : Int32) * x1) + (1 : Int32)).toNatClampNeg)), some (vI (mi σ a3 (((4 : Int32) * x1) + (2 : Int32)).toNatClampNeg)), some (vI (mi σ a3 (((4 : Int32) * x1) + (3 : Int32)).toNatClampNeg)), none] [] K)) ∧ (((mi σ a3 ((4 : Int32) * x1).toNatClampNeg) = 121 → Runs G mX9_doPass rX9_doPass [(vR x0), (vI (mi σ a3 (((4 : Int32) * x1) + (1 : Int32)).toNatClampNeg))] σ (bk G mX9_does rX9_does 0 0 250 [some (vR x0), some (vI x1), some (vI (mi σ a3 (((4 : Int32) * x1) + (1 : Int32)).toNatClampNeg)), some (vI (mi σ a3 (((4 : Int32) * x1) + (2 : Int32)).toNatClampNeg)), some (vI (mi σ a3 (((4 : Int32) * x1) + (3 : Int32)).toNatClampNeg)), none] [] K)) ∧ ((mi σ a3 ((4 : Int32) * x1).toNatClampNeg) = 122 → vp_in ((4 : Int32) * x1) n5 ∧ ((¬ (mi σ a3 ((4 : Int32) * x1).toNatClampNeg) = (108 : Int32) → Runs G mX9_doListen rX9_doListen [(vR x0), (vI (mi σ a3 (((4 : Int32) * x1) + (1 : Int32)).toNatClampNeg)), (vI (0 : Int32))] σ (bk G mX9_does rX9_does 0 0 240 [some (vR x0), some (vI x1), some (vI (mi σ a3 (((4 : Int32) * x1) + (1 : Int32)).toNatClampNeg)), some (vI (mi σ a3 (((4 : Int32) * x1) + (2 : Int32)).toNatClampNeg)), some (vI (mi σ a3 (((4 : Int32) * x1) + (3 : Int32)).toNatClampNeg)), none] [] K)) ∧ ((mi σ a3 ((4 : Int32) * x1).toNatClampNeg) = (108 : Int32) → Runs G mX9_doListen rX9_doListen [(vR x0), (vI (mi σ a3 (((4 : Int32) * x1) + (1 : Int32)).toNatClampNeg)), (vI (1 : Int32))] σ (bk G mX9_does rX9_does 0 0 240 [some (vR x0), some (vI x1), some (vI (mi σ a3 (((4 : Int32) * x1) + (1 : Int32)).toNatClampNeg)), some (vI (mi σ a3 (((4 : Int32) * x1) + (2 : Int32)).toNatClampNeg)), some (vI (mi σ a3 (((4 : Int32) * x1) + (3 : Int32)).toNatClampNeg)), none] [] K)))))))))))))))))))))))))))) : Runs G mX9_does rX9_does [(vR x0), (vI x1)] σ K := Runs.of (by decide) rfl (Nat.le_of_ble_eq_true rfl) (vX9_does_0 gk h)
theorem vX9_does_156 {G : GG} (gk : GOK G) {σ : Mm} {K : RES → Mm → Prop} {x0 : Option Nat} {x1 : Int32} {x2 : Int32} {x3 : Int32} {x4 : Int32} {s0 : Int32}
    (h : K (.inl none) σ) : At G mX9_does rX9_does 0 0 156 [some (vR x0), some (vI x1), some (vI x2), some (vI x3), some (vI x4), none] [(vI s0)] σ K := by
  refine s_istore (L' := [some (vR x0), some (vI x1), some (vI x2), some (vI x3), some (vI x4), some (vI s0)]) dX9_does_156 rfl (by decide) rfl ?_
  refine s_goto (tgt := 252) dX9_does_158 (by decide) ?_
  exact s_return dX9_does_252 rfl (by decide) (by decide) h
theorem vX9_does_167 {G : GG} (gk : GOK G) {σ : Mm} {K : RES → Mm → Prop} {x0 : Option Nat} {x1 : Int32} {x2 : Int32} {x3 : Int32} {x4 : Int32} {s0 : Int32}
    (h : K (.inl none) σ) : At G mX9_does rX9_does 0 0 167 [some (vR x0), some (vI x1), some (vI x2), some (vI x3), some (vI x4), none] [(vI s0)] σ K := by
  refine s_istore (L' := [some (vR x0), some (vI x1), some (vI x2), some (vI x3), some (vI x4), some (vI s0)]) dX9_does_167 rfl (by decide) rfl ?_
  refine s_goto (tgt := 252) dX9_does_169 (by decide) ?_
  exact s_return dX9_does_252 rfl (by decide) (by decide) h
theorem vX9_does_178 {G : GG} (gk : GOK G) {σ : Mm} {K : RES → Mm → Prop} {x0 : Option Nat} {x1 : Int32} {x2 : Int32} {x3 : Int32} {x4 : Int32} {s0 : Int32}
    (h : K (.inl none) σ) : At G mX9_does rX9_does 0 0 178 [some (vR x0), some (vI x1), some (vI x2), some (vI x3), some (vI x4), none] [(vI s0)] σ K := by
  refine s_istore (L' := [some (vR x0), some (vI x1), some (vI x2), some (vI x3), some (vI x4), some (vI s0)]) dX9_does_178 rfl (by decide) rfl ?_
  refine s_goto (tgt := 252) dX9_does_180 (by decide) ?_
  exact s_return dX9_does_252 rfl (by decide) (by decide) h
theorem vX9_does_188 {G : GG} (gk : GOK G) {σ : Mm} {K : RES → Mm → Prop} {x0 : Option Nat} {x1 : Int32} {x2 : Int32} {x3 : Int32} {x4 : Int32} {s0 : Int32}
    (h : K (.inl none) σ) : At G mX9_does rX9_does 0 0 188 [some (vR x0), some (vI x1), some (vI x2), some (vI x3), some (vI x4), none] [(vI s0)] σ K := by
  refine s_istore (L' := [some (vR x0), some (vI x1), some (vI x2), some (vI x3), some (vI x4), some (vI s0)]) dX9_does_188 rfl (by decide) rfl ?_
  refine s_goto (tgt := 252) dX9_does_190 (by decide) ?_
  exact s_return dX9_does_252 rfl (by decide) (by decide) h
theorem vX9_does_199 {G : GG} (gk : GOK G) {σ : Mm} {K : RES → Mm → Prop} {x0 : Option Nat} {x1 : Int32} {x2 : Int32} {x3 : Int32} {x4 : Int32} {s0 : Int32}
    (h : K (.inl none) σ) : At G mX9_does rX9_does 0 0 199 [some (vR x0), some (vI x1), some (vI x2), some (vI x3), some (vI x4), none] [(vI s0)] σ K := by
  refine s_istore (L' := [some (vR x0), some (vI x1), some (vI x2), some (vI x3), some (vI x4), some (vI s0)]) dX9_does_199 rfl (by decide) rfl ?_
  refine s_goto (tgt := 252) dX9_does_201 (by decide) ?_
  exact s_return dX9_does_252 rfl (by decide) (by decide) h
theorem vX9_does_212 {G : GG} (gk : GOK G) {σ : Mm} {K : RES → Mm → Prop} {x0 : Option Nat} {x1 : Int32} {x2 : Int32} {x3 : Int32} {x4 : Int32} {s0 : Int32}
    (h : K (.inl none) σ) : At G mX9_does rX9_does 0 0 212 [some (vR x0), some (vI x1), some (vI x2), some (vI x3), some (vI x4), none] [(vI s0)] σ K := by
  refine s_istore (L' := [some (vR x0), some (vI x1), some (vI x2), some (vI x3), some (vI x4), some (vI s0)]) dX9_does_212 rfl (by decide) rfl ?_
  refine s_goto (tgt := 252) dX9_does_214 (by decide) ?_
  exact s_return dX9_does_252 rfl (by decide) (by decide) h
theorem vX9_does_240 {G : GG} (gk : GOK G) {σ : Mm} {K : RES → Mm → Prop} {x0 : Option Nat} {x1 : Int32} {x2 : Int32} {x3 : Int32} {x4 : Int32} {s0 : Int32}
    (h : K (.inl none) σ) : At G mX9_does rX9_does 0 0 240 [some (vR x0), some (vI x1), some (vI x2), some (vI x3), some (vI x4), none] [(vI s0)] σ K := by
  refine s_istore (L' := [some (vR x0), some (vI x1), some (vI x2), some (vI x3), some (vI x4), some (vI s0)]) dX9_does_240 rfl (by decide) rfl ?_
  refine s_goto (tgt := 252) dX9_does_242 (by decide) ?_
  exact s_return dX9_does_252 rfl (by decide) (by decide) h
theorem vX9_does_250 {G : GG} (gk : GOK G) {σ : Mm} {K : RES → Mm → Prop} {x0 : Option Nat} {x1 : Int32} {x2 : Int32} {x3 : Int32} {x4 : Int32} {s0 : Int32}
    (h : K (.inl none) σ) : At G mX9_does rX9_does 0 0 250 [some (vR x0), some (vI x1), some (vI x2), some (vI x3), some (vI x4), none] [(vI s0)] σ K := by
  refine s_istore (L' := [some (vR x0), some (vI x1), some (vI x2), some (vI x3), some (vI x4), some (vI s0)]) dX9_does_250 rfl (by decide) rfl ?_
  exact s_return dX9_does_252 rfl (by decide) (by decide) h
theorem vX9_execute_0 {G : GG} (gk : GOK G) {σ : Mm} {K : RES → Mm → Prop} {x0 : Option Nat}
    (h : ∃ a1, x0 = some a1 ∧ (mt σ a1).1 = 10 ∧ ∀ σ3, σ3 = si σ a1 11 (0 : Int32) → ∀ σ4, σ4 = si σ3 a1 12 (0 : Int32) → ∀ σ5, σ5 = si σ4 a1 16 (0 : Int32) → Runs G mX9_readCommand rX9_readCommand [(vR x0)] σ5 (bk G mX9_execute rX9_execute 0 0 19 [some (vR x0), none] [] K)) : At G mX9_execute rX9_execute 0 0 0 [some (vR x0), none] [] σ K := by
  refine s_aload_n (i := 0) dX9_execute_0 rfl rfl ?_
  refine s_iconst (v := 0) dX9_execute_1 (by decide) ?_
  obtain ⟨a1, ea1, h⟩ := h
  obtain ⟨t2, h⟩ := h
  refine t_putI gk dX9_execute_2 fX9_176 rfl rfl ea1 t2 ⟨rfl, rfl⟩ (fun σ3 eσ3 mσ3 => ?_)
  replace h := h σ3 eσ3
  refine s_aload_n (i := 0) dX9_execute_5 rfl rfl ?_
  refine s_iconst (v := 0) dX9_execute_6 (by decide) ?_
  refine t_putI gk dX9_execute_7 fX9_183 rfl rfl ea1 (by rw [mσ3]; exact t2) ⟨rfl, rfl⟩ (fun σ4 eσ4 mσ4 => ?_)
  replace h := h σ4 eσ4
  refine s_aload_n (i := 0) dX9_execute_10 rfl rfl ?_
  refine s_iconst (v := 0) dX9_execute_11 (by decide) ?_
  refine t_putI gk dX9_execute_12 fX9_203 rfl rfl ea1 (by rw [mσ4, mσ3]; exact t2) ⟨rfl, rfl⟩ (fun σ5 eσ5 mσ5 => ?_)
  replace h := h σ5 eσ5
  refine s_aload_n (i := 0) dX9_execute_15 rfl rfl ?_
  exact t_callV (ci := 9) (as := []) (S := []) gk dX9_execute_16 gX9_233 (by decide) rfl w_1903 wp_37 ea1 (by rw [mσ5, mσ4, mσ3]; exact t2) rfl rfl (Nat.le_of_ble_eq_true rfl) (by decide) h
theorem eX9_execute {G : GG} (gk : GOK G) {σ : Mm} {K : RES → Mm → Prop} {x0 : Option Nat}
    (h : ∃ a1, x0 = some a1 ∧ (mt σ a1).1 = 10 ∧ ∀ σ3, σ3 = si σ a1 11 (0 : Int32) → ∀ σ4, σ4 = si σ3 a1 12 (0 : Int32) → ∀ σ5, σ5 = si σ4 a1 16 (0 : Int32) → Runs G mX9_readCommand rX9_readCommand [(vR x0)] σ5 (bk G mX9_execute rX9_execute 0 0 19 [some (vR x0), none] [] K)) : Runs G mX9_execute rX9_execute [(vR x0)] σ K := Runs.of (by decide) rfl (Nat.le_of_ble_eq_true rfl) (vX9_execute_0 gk h)
theorem vX9_execute_19 {G : GG} (gk : GOK G) {σ : Mm} {K : RES → Mm → Prop} {x0 : Option Nat}
    (h : ∃ a1, x0 = some a1 ∧ (mt σ a1).1 = 10 ∧ ((¬ (mi σ a1 12) = 0 → ((¬ (mi σ a1 12) = 0 → ∀ σ5, σ5 = si σ a1 12 (1 : Int32) → (((mi σ5 a1 12) = 0 → ∀ σ7, σ7 = si σ5 a1 13 (mi σ5 a1 13) → ∀ σ8, σ8 = si σ7 a1 10 (0 : Int32) → (((mi σ8 a1 12) = 0 → Runs G mX9_keep rX9_keep [(vR x0)] σ8 (bk G mX9_execute rX9_execute 0 0 124 [some (vR x0), none] [] K)) ∧ (¬ (mi σ8 a1 12) = 0 → Runs G mX9_fails rX9_fails [(vR x0), (vI (1 : Int32))] σ8 (bk G mX9_execute rX9_execute 0 0 119 [some (vR x0), none] [] K)))) ∧ (¬ (mi σ5 a1 12) = 0 → ∀ σ10, σ10 = si σ5 a1 13 (mi σ5 a1 11) → ∀ σ11, σ11 = si σ10 a1 10 (0 : Int32) → (((mi σ11 a1 12) = 0 → Runs G mX9_keep rX9_keep [(vR x0)] σ11 (bk G mX9_execute rX9_execute 0 0 124 [some (vR x0), none] [] K)) ∧ (¬ (mi σ11 a1 12) = 0 → Runs G mX9_fails rX9_fails [(vR x0), (vI (1 : Int32))] σ11 (bk G mX9_execute rX9_execute 0 0 119 [some (vR x0), none] [] K)))))) ∧ ((mi σ a1 12) = 0 → (((mi σ a1 10) ≤ (mi σ a1 11) → ∀ σ14, σ14 = si σ a1 12 (0 : Int32) → (((mi σ14 a1 12) = 0 → ∀ σ16, σ16 = si σ14 a1 13 (mi σ14 a1 13) → ∀ σ17, σ17 = si σ16 a1 10 (0 : Int32) → (((mi σ17 a1 12) = 0 → Runs G mX9_keep rX9_keep [(vR x0)] σ17 (bk G mX9_execute rX9_execute 0 0 124 [some (vR x0), none] [] K)) ∧ (¬ (mi σ17 a1 12) = 0 → Runs G mX9_fails rX9_fails [(vR x0), (vI (1 : Int32))] σ17 (bk G mX9_execute rX9_execute 0 0 119 [some (vR x0), none] [] K)))) ∧ (¬ (mi σ14 a1 12) = 0 → ∀ σ19, σ19 = si σ14 a1 13 (mi σ14 a1 11) → ∀ σ20, σ20 = si σ19 a1 10 (0 : Int32) → (((mi σ20 a1 12) = 0 → Runs G mX9_keep rX9_keep [(vR x0)] σ20 (bk G mX9_execute rX9_execute 0 0 124 [some (vR x0), none] [] K)) ∧ (¬ (mi σ20 a1 12) = 0 → Runs G mX9_fails rX9_fails [(vR x0), (vI (1 : Int32))] σ20 (bk G mX9_execute rX9_execute 0 0 119 [some (vR x0), none] [] K)))))) ∧ (¬ (mi σ a1 10) ≤ (mi σ a1 11) → ∀ σ22, σ22 = si σ a1 12 (1 : Int32) → (((mi σ22 a1 12) = 0 → ∀ σ24, σ24 = si σ22 a1 13 (mi σ22 a1 13) → ∀ σ25, σ25 = si σ24 a1 10 (0 : Int32) → (((mi σ25 a1 12) = 0 → Runs G mX9_keep rX9_keep [(vR x0)] σ25 (bk G mX9_execute rX9_execute 0 0 124 [some (vR x0), none] [] K)) ∧ (¬ (mi σ25 a1 12) = 0 → Runs G mX9_fails rX9_fails [(vR x0), (vI (1 : Int32))] σ25 (bk G mX9_execute rX9_execute 0 0 119 [some (vR x0), none] [] K)))) ∧ (¬ (mi σ22 a1 12) = 0 → ∀ σ27, σ27 = si σ22 a1 13 (mi σ22 a1 11) → ∀ σ28, σ28 = si σ27 a1 10 (0 : Int32) → (((mi σ28 a1 12) = 0 → Runs G mX9_keep rX9_keep [(vR x0)] σ28 (bk G mX9_execute rX9_execute 0 0 124 [some (vR x0), none] [] K)) ∧ (¬ (mi σ28 a1 12) = 0 → Runs G mX9_fails rX9_fails [(vR x0), (vI (1 : Int32))] σ28 (bk G mX9_execute rX9_execute 0 0 119 [some (vR x0), none] [] K)))))))))) ∧ ((mi σ a1 12) = 0 → Runs G mX9_behind rX9_behind [(vR x0), (vI (0 : Int32))] σ (bk G mX9_execute rX9_execute 0 0 31 [some (vR x0), none] [] K)))) : At G mX9_execute rX9_execute 0 0 19 [some (vR x0), none] [] σ K := by
  refine s_aload_n (i := 0) dX9_execute_19 rfl rfl ?_
  obtain ⟨a1, ea1, h⟩ := h
  obtain ⟨t2, h⟩ := h
  refine t_getI gk dX9_execute_20 fX9_183 rfl ea1 t2 ?_
  refine s_if_ne (tgt := 53) dX9_execute_23 (by decide) (fun q3 => ?_) (fun q3 => ?_)
  · have h := h.1 q3
    refine s_aload_n (i := 0) dX9_execute_53 rfl rfl ?_
    refine s_aload_n (i := 0) dX9_execute_54 rfl rfl ?_
    refine t_getI gk dX9_execute_55 fX9_183 rfl ea1 t2 ?_
    refine s_if_ne (tgt := 72) dX9_execute_58 (by decide) (fun q4 => ?_) (fun q4 => ?_)
    · have h := h.1 q4
      refine s_iconst (v := 1) dX9_execute_72 (by decide) ?_
      refine s_goto (tgt := 77) dX9_execute_73 (by decide) ?_
      refine t_putI gk dX9_execute_77 fX9_183 rfl rfl ea1 t2 ⟨rfl, rfl⟩ (fun σ5 eσ5 mσ5 => ?_)
      replace h := h σ5 eσ5
      refine s_aload_n (i := 0) dX9_execute_80 rfl rfl ?_
      refine s_aload_n (i := 0) dX9_execute_81 rfl rfl ?_
      refine t_getI gk dX9_execute_82 fX9_183 rfl ea1 (by rw [mσ5]; exact t2) ?_
      refine s_if_eq (tgt := 95) dX9_execute_85 (by decide) (fun q6 => ?_) (fun q6 => ?_)
      · have h := h.1 q6
        refine s_aload_n (i := 0) dX9_execute_95 rfl rfl ?_
        refine t_getI gk dX9_execute_96 fX9_29 rfl ea1 (by rw [mσ5]; exact t2) ?_
        refine t_putI gk dX9_execute_99 fX9_29 rfl rfl ea1 (by rw [mσ5]; exact t2) ⟨rfl, rfl⟩ (fun σ7 eσ7 mσ7 => ?_)
        replace h := h σ7 eσ7
        refine s_aload_n (i := 0) dX9_execute_102 rfl rfl ?_
        refine s_iconst (v := 0) dX9_execute_103 (by decide) ?_
        refine t_putI gk dX9_execute_104 fX9_173 rfl rfl ea1 (by rw [mσ7, mσ5]; exact t2) ⟨rfl, rfl⟩ (fun σ8 eσ8 mσ8 => ?_)
        replace h := h σ8 eσ8
        refine s_aload_n (i := 0) dX9_execute_107 rfl rfl ?_
        refine t_getI gk dX9_execute_108 fX9_183 rfl ea1 (by rw [mσ8, mσ7, mσ5]; exact t2) ?_
        refine s_if_eq (tgt := 120) dX9_execute_111 (by decide) (fun q9 => ?_) (fun q9 => ?_)
        · have h := h.1 q9
          refine s_aload_n (i := 0) dX9_execute_120 rfl rfl ?_
          exact t_callV (ci := 9) (as := []) (S := []) gk dX9_execute_121 gX9_99 (by decide) rfl w_1600 wp_8 ea1 (by rw [mσ8, mσ7, mσ5]; exact t2) rfl rfl (Nat.le_of_ble_eq_true rfl) (by decide) h
        · have h := h.2 q9
          refine s_aload_n (i := 0) dX9_execute_114 rfl rfl ?_
          refine s_iconst (v := 1) dX9_execute_115 (by decide) ?_
          exact t_callV (ci := 9) (as := [(vI (1 : Int32))]) (S := []) gk dX9_execute_116 gX9_92 (by decide) rfl w_1615 wp_10 ea1 (by rw [mσ8, mσ7, mσ5]; exact t2) rfl rfl (Nat.le_of_ble_eq_true rfl) (by decide) h
      · have h := h.2 q6
        refine s_aload_n (i := 0) dX9_execute_88 rfl rfl ?_
        refine t_getI gk dX9_execute_89 fX9_176 rfl ea1 (by rw [mσ5]; exact t2) ?_
        refine s_goto (tgt := 99) dX9_execute_92 (by decide) ?_
        refine t_putI gk dX9_execute_99 fX9_29 rfl rfl ea1 (by rw [mσ5]; exact t2) ⟨rfl, rfl⟩ (fun σ10 eσ10 mσ10 => ?_)
        replace h := h σ10 eσ10
        refine s_aload_n (i := 0) dX9_execute_102 rfl rfl ?_
        refine s_iconst (v := 0) dX9_execute_103 (by decide) ?_
        refine t_putI gk dX9_execute_104 fX9_173 rfl rfl ea1 (by rw [mσ10, mσ5]; exact t2) ⟨rfl, rfl⟩ (fun σ11 eσ11 mσ11 => ?_)
        replace h := h σ11 eσ11
        refine s_aload_n (i := 0) dX9_execute_107 rfl rfl ?_
        refine t_getI gk dX9_execute_108 fX9_183 rfl ea1 (by rw [mσ11, mσ10, mσ5]; exact t2) ?_
        refine s_if_eq (tgt := 120) dX9_execute_111 (by decide) (fun q12 => ?_) (fun q12 => ?_)
        · have h := h.1 q12
          refine s_aload_n (i := 0) dX9_execute_120 rfl rfl ?_
          exact t_callV (ci := 9) (as := []) (S := []) gk dX9_execute_121 gX9_99 (by decide) rfl w_1600 wp_8 ea1 (by rw [mσ11, mσ10, mσ5]; exact t2) rfl rfl (Nat.le_of_ble_eq_true rfl) (by decide) h
        · have h := h.2 q12
          refine s_aload_n (i := 0) dX9_execute_114 rfl rfl ?_
          refine s_iconst (v := 1) dX9_execute_115 (by decide) ?_
          exact t_callV (ci := 9) (as := [(vI (1 : Int32))]) (S := []) gk dX9_execute_116 gX9_92 (by decide) rfl w_1615 wp_10 ea1 (by rw [mσ11, mσ10, mσ5]; exact t2) rfl rfl (Nat.le_of_ble_eq_true rfl) (by decide) h
    · have h := h.2 q4
      refine s_aload_n (i := 0) dX9_execute_61 rfl rfl ?_
      refine t_getI gk dX9_execute_62 fX9_176 rfl ea1 t2 ?_
      refine s_aload_n (i := 0) dX9_execute_65 rfl rfl ?_
      refine t_getI gk dX9_execute_66 fX9_173 rfl ea1 t2 ?_
      refine s_icmp_ge (tgt := 76) dX9_execute_69 (by decide) (fun q13 => ?_) (fun q13 => ?_)
      · have h := h.1 q13
        refine s_iconst (v := 0) dX9_execute_76 (by decide) ?_
        refine t_putI gk dX9_execute_77 fX9_183 rfl rfl ea1 t2 ⟨rfl, rfl⟩ (fun σ14 eσ14 mσ14 => ?_)
        replace h := h σ14 eσ14
        refine s_aload_n (i := 0) dX9_execute_80 rfl rfl ?_
        refine s_aload_n (i := 0) dX9_execute_81 rfl rfl ?_
        refine t_getI gk dX9_execute_82 fX9_183 rfl ea1 (by rw [mσ14]; exact t2) ?_
        refine s_if_eq (tgt := 95) dX9_execute_85 (by decide) (fun q15 => ?_) (fun q15 => ?_)
        · have h := h.1 q15
          refine s_aload_n (i := 0) dX9_execute_95 rfl rfl ?_
          refine t_getI gk dX9_execute_96 fX9_29 rfl ea1 (by rw [mσ14]; exact t2) ?_
          refine t_putI gk dX9_execute_99 fX9_29 rfl rfl ea1 (by rw [mσ14]; exact t2) ⟨rfl, rfl⟩ (fun σ16 eσ16 mσ16 => ?_)
          replace h := h σ16 eσ16
          refine s_aload_n (i := 0) dX9_execute_102 rfl rfl ?_
          refine s_iconst (v := 0) dX9_execute_103 (by decide) ?_
          refine t_putI gk dX9_execute_104 fX9_173 rfl rfl ea1 (by rw [mσ16, mσ14]; exact t2) ⟨rfl, rfl⟩ (fun σ17 eσ17 mσ17 => ?_)
          replace h := h σ17 eσ17
          refine s_aload_n (i := 0) dX9_execute_107 rfl rfl ?_
          refine t_getI gk dX9_execute_108 fX9_183 rfl ea1 (by rw [mσ17, mσ16, mσ14]; exact t2) ?_
          refine s_if_eq (tgt := 120) dX9_execute_111 (by decide) (fun q18 => ?_) (fun q18 => ?_)
          · have h := h.1 q18
            refine s_aload_n (i := 0) dX9_execute_120 rfl rfl ?_
            exact t_callV (ci := 9) (as := []) (S := []) gk dX9_execute_121 gX9_99 (by decide) rfl w_1600 wp_8 ea1 (by rw [mσ17, mσ16, mσ14]; exact t2) rfl rfl (Nat.le_of_ble_eq_true rfl) (by decide) h
          · have h := h.2 q18
            refine s_aload_n (i := 0) dX9_execute_114 rfl rfl ?_
            refine s_iconst (v := 1) dX9_execute_115 (by decide) ?_
            exact t_callV (ci := 9) (as := [(vI (1 : Int32))]) (S := []) gk dX9_execute_116 gX9_92 (by decide) rfl w_1615 wp_10 ea1 (by rw [mσ17, mσ16, mσ14]; exact t2) rfl rfl (Nat.le_of_ble_eq_true rfl) (by decide) h
        · have h := h.2 q15
          refine s_aload_n (i := 0) dX9_execute_88 rfl rfl ?_
          refine t_getI gk dX9_execute_89 fX9_176 rfl ea1 (by rw [mσ14]; exact t2) ?_
          refine s_goto (tgt := 99) dX9_execute_92 (by decide) ?_
          refine t_putI gk dX9_execute_99 fX9_29 rfl rfl ea1 (by rw [mσ14]; exact t2) ⟨rfl, rfl⟩ (fun σ19 eσ19 mσ19 => ?_)
          replace h := h σ19 eσ19
          refine s_aload_n (i := 0) dX9_execute_102 rfl rfl ?_
          refine s_iconst (v := 0) dX9_execute_103 (by decide) ?_
          refine t_putI gk dX9_execute_104 fX9_173 rfl rfl ea1 (by rw [mσ19, mσ14]; exact t2) ⟨rfl, rfl⟩ (fun σ20 eσ20 mσ20 => ?_)
          replace h := h σ20 eσ20
          refine s_aload_n (i := 0) dX9_execute_107 rfl rfl ?_
          refine t_getI gk dX9_execute_108 fX9_183 rfl ea1 (by rw [mσ20, mσ19, mσ14]; exact t2) ?_
          refine s_if_eq (tgt := 120) dX9_execute_111 (by decide) (fun q21 => ?_) (fun q21 => ?_)
          · have h := h.1 q21
            refine s_aload_n (i := 0) dX9_execute_120 rfl rfl ?_
            exact t_callV (ci := 9) (as := []) (S := []) gk dX9_execute_121 gX9_99 (by decide) rfl w_1600 wp_8 ea1 (by rw [mσ20, mσ19, mσ14]; exact t2) rfl rfl (Nat.le_of_ble_eq_true rfl) (by decide) h
          · have h := h.2 q21
            refine s_aload_n (i := 0) dX9_execute_114 rfl rfl ?_
            refine s_iconst (v := 1) dX9_execute_115 (by decide) ?_
            exact t_callV (ci := 9) (as := [(vI (1 : Int32))]) (S := []) gk dX9_execute_116 gX9_92 (by decide) rfl w_1615 wp_10 ea1 (by rw [mσ20, mσ19, mσ14]; exact t2) rfl rfl (Nat.le_of_ble_eq_true rfl) (by decide) h
      · have h := h.2 q13
        refine s_iconst (v := 1) dX9_execute_72 (by decide) ?_
        refine s_goto (tgt := 77) dX9_execute_73 (by decide) ?_
        refine t_putI gk dX9_execute_77 fX9_183 rfl rfl ea1 t2 ⟨rfl, rfl⟩ (fun σ22 eσ22 mσ22 => ?_)
        replace h := h σ22 eσ22
        refine s_aload_n (i := 0) dX9_execute_80 rfl rfl ?_
        refine s_aload_n (i := 0) dX9_execute_81 rfl rfl ?_
        refine t_getI gk dX9_execute_82 fX9_183 rfl ea1 (by rw [mσ22]; exact t2) ?_
        refine s_if_eq (tgt := 95) dX9_execute_85 (by decide) (fun q23 => ?_) (fun q23 => ?_)
        · have h := h.1 q23
          refine s_aload_n (i := 0) dX9_execute_95 rfl rfl ?_
          refine t_getI gk dX9_execute_96 fX9_29 rfl ea1 (by rw [mσ22]; exact t2) ?_
          refine t_putI gk dX9_execute_99 fX9_29 rfl rfl ea1 (by rw [mσ22]; exact t2) ⟨rfl, rfl⟩ (fun σ24 eσ24 mσ24 => ?_)
          replace h := h σ24 eσ24
          refine s_aload_n (i := 0) dX9_execute_102 rfl rfl ?_
          refine s_iconst (v := 0) dX9_execute_103 (by decide) ?_
          refine t_putI gk dX9_execute_104 fX9_173 rfl rfl ea1 (by rw [mσ24, mσ22]; exact t2) ⟨rfl, rfl⟩ (fun σ25 eσ25 mσ25 => ?_)
          replace h := h σ25 eσ25
          refine s_aload_n (i := 0) dX9_execute_107 rfl rfl ?_
          refine t_getI gk dX9_execute_108 fX9_183 rfl ea1 (by rw [mσ25, mσ24, mσ22]; exact t2) ?_
          refine s_if_eq (tgt := 120) dX9_execute_111 (by decide) (fun q26 => ?_) (fun q26 => ?_)
          · have h := h.1 q26
            refine s_aload_n (i := 0) dX9_execute_120 rfl rfl ?_
            exact t_callV (ci := 9) (as := []) (S := []) gk dX9_execute_121 gX9_99 (by decide) rfl w_1600 wp_8 ea1 (by rw [mσ25, mσ24, mσ22]; exact t2) rfl rfl (Nat.le_of_ble_eq_true rfl) (by decide) h
          · have h := h.2 q26
            refine s_aload_n (i := 0) dX9_execute_114 rfl rfl ?_
            refine s_iconst (v := 1) dX9_execute_115 (by decide) ?_
            exact t_callV (ci := 9) (as := [(vI (1 : Int32))]) (S := []) gk dX9_execute_116 gX9_92 (by decide) rfl w_1615 wp_10 ea1 (by rw [mσ25, mσ24, mσ22]; exact t2) rfl rfl (Nat.le_of_ble_eq_true rfl) (by decide) h
        · have h := h.2 q23
          refine s_aload_n (i := 0) dX9_execute_88 rfl rfl ?_
          refine t_getI gk dX9_execute_89 fX9_176 rfl ea1 (by rw [mσ22]; exact t2) ?_
          refine s_goto (tgt := 99) dX9_execute_92 (by decide) ?_
          refine t_putI gk dX9_execute_99 fX9_29 rfl rfl ea1 (by rw [mσ22]; exact t2) ⟨rfl, rfl⟩ (fun σ27 eσ27 mσ27 => ?_)
          replace h := h σ27 eσ27
          refine s_aload_n (i := 0) dX9_execute_102 rfl rfl ?_
          refine s_iconst (v := 0) dX9_execute_103 (by decide) ?_
          refine t_putI gk dX9_execute_104 fX9_173 rfl rfl ea1 (by rw [mσ27, mσ22]; exact t2) ⟨rfl, rfl⟩ (fun σ28 eσ28 mσ28 => ?_)
          replace h := h σ28 eσ28
          refine s_aload_n (i := 0) dX9_execute_107 rfl rfl ?_
          refine t_getI gk dX9_execute_108 fX9_183 rfl ea1 (by rw [mσ28, mσ27, mσ22]; exact t2) ?_
          refine s_if_eq (tgt := 120) dX9_execute_111 (by decide) (fun q29 => ?_) (fun q29 => ?_)
          · have h := h.1 q29
            refine s_aload_n (i := 0) dX9_execute_120 rfl rfl ?_
            exact t_callV (ci := 9) (as := []) (S := []) gk dX9_execute_121 gX9_99 (by decide) rfl w_1600 wp_8 ea1 (by rw [mσ28, mσ27, mσ22]; exact t2) rfl rfl (Nat.le_of_ble_eq_true rfl) (by decide) h
          · have h := h.2 q29
            refine s_aload_n (i := 0) dX9_execute_114 rfl rfl ?_
            refine s_iconst (v := 1) dX9_execute_115 (by decide) ?_
            exact t_callV (ci := 9) (as := [(vI (1 : Int32))]) (S := []) gk dX9_execute_116 gX9_92 (by decide) rfl w_1615 wp_10 ea1 (by rw [mσ28, mσ27, mσ22]; exact t2) rfl rfl (Nat.le_of_ble_eq_true rfl) (by decide) h
  · have h := h.2 q3
    refine s_aload_n (i := 0) dX9_execute_26 rfl rfl ?_
    refine s_iconst (v := 0) dX9_execute_27 (by decide) ?_
    exact t_callV (ci := 9) (as := [(vI (0 : Int32))]) (S := []) gk dX9_execute_28 gX9_187 (by decide) rfl w_1907 wp_38 ea1 t2 rfl rfl (Nat.le_of_ble_eq_true rfl) (by decide) h
theorem vX9_execute_31 {G : GG} (gk : GOK G) {σ : Mm} {K : RES → Mm → Prop} {x0 : Option Nat} {s0 : Int32}
    (h : ((¬ s0 = (59 : Int32) → ∃ a2, x0 = some a2 ∧ (mt σ a2).1 = 10 ∧ ((¬ (mi σ a2 12) = 0 → ∀ σ5, σ5 = si σ a2 12 (1 : Int32) → (((mi σ5 a2 12) = 0 → ∀ σ7, σ7 = si σ5 a2 13 (mi σ5 a2 13) → ∀ σ8, σ8 = si σ7 a2 10 (0 : Int32) → (((mi σ8 a2 12) = 0 → Runs G mX9_keep rX9_keep [(vR x0)] σ8 (bk G mX9_execute rX9_execute 0 0 124 [some (vR x0), none] [] K)) ∧ (¬ (mi σ8 a2 12) = 0 → Runs G mX9_fails rX9_fails [(vR x0), (vI (1 : Int32))] σ8 (bk G mX9_execute rX9_execute 0 0 119 [some (vR x0), none] [] K)))) ∧ (¬ (mi σ5 a2 12) = 0 → ∀ σ10, σ10 = si σ5 a2 13 (mi σ5 a2 11) → ∀ σ11, σ11 = si σ10 a2 10 (0 : Int32) → (((mi σ11 a2 12) = 0 → Runs G mX9_keep rX9_keep [(vR x0)] σ11 (bk G mX9_execute rX9_execute 0 0 124 [some (vR x0), none] [] K)) ∧ (¬ (mi σ11 a2 12) = 0 → Runs G mX9_fails rX9_fails [(vR x0), (vI (1 : Int32))] σ11 (bk G mX9_execute rX9_execute 0 0 119 [some (vR x0), none] [] K)))))) ∧ ((mi σ a2 12) = 0 → (((mi σ a2 10) ≤ (mi σ a2 11) → ∀ σ14, σ14 = si σ a2 12 (0 : Int32) → (((mi σ14 a2 12) = 0 → ∀ σ16, σ16 = si σ14 a2 13 (mi σ14 a2 13) → ∀ σ17, σ17 = si σ16 a2 10 (0 : Int32) → (((mi σ17 a2 12) = 0 → Runs G mX9_keep rX9_keep [(vR x0)] σ17 (bk G mX9_execute rX9_execute 0 0 124 [some (vR x0), none] [] K)) ∧ (¬ (mi σ17 a2 12) = 0 → Runs G mX9_fails rX9_fails [(vR x0), (vI (1 : Int32))] σ17 (bk G mX9_execute rX9_execute 0 0 119 [some (vR x0), none] [] K)))) ∧ (¬ (mi σ14 a2 12) = 0 → ∀ σ19, σ19 = si σ14 a2 13 (mi σ14 a2 11) → ∀ σ20, σ20 = si σ19 a2 10 (0 : Int32) → (((mi σ20 a2 12) = 0 → Runs G mX9_keep rX9_keep [(vR x0)] σ20 (bk G mX9_execute rX9_execute 0 0 124 [some (vR x0), none] [] K)) ∧ (¬ (mi σ20 a2 12) = 0 → Runs G mX9_fails rX9_fails [(vR x0), (vI (1 : Int32))] σ20 (bk G mX9_execute rX9_execute 0 0 119 [some (vR x0), none] [] K)))))) ∧ (¬ (mi σ a2 10) ≤ (mi σ a2 11) → ∀ σ22, σ22 = si σ a2 12 (1 : Int32) → (((mi σ22 a2 12) = 0 → ∀ σ24, σ24 = si σ22 a2 13 (mi σ22 a2 13) → ∀ σ25, σ25 = si σ24 a2 10 (0 : Int32) → (((mi σ25 a2 12) = 0 → Runs G mX9_keep rX9_keep [(vR x0)] σ25 (bk G mX9_execute rX9_execute 0 0 124 [some (vR x0), none] [] K)) ∧ (¬ (mi σ25 a2 12) = 0 → Runs G mX9_fails rX9_fails [(vR x0), (vI (1 : Int32))] σ25 (bk G mX9_execute rX9_execute 0 0 119 [some (vR x0), none] [] K)))) ∧ (¬ (mi σ22 a2 12) = 0 → ∀ σ27, σ27 = si σ22 a2 13 (mi σ22 a2 11) → ∀ σ28, σ28 = si σ27 a2 10 (0 : Int32) → (((mi σ28 a2 12) = 0 → Runs G mX9_keep rX9_keep [(vR x0)] σ28 (bk G mX9_execute rX9_execute 0 0 124 [some (vR x0), none] [] K)) ∧ (¬ (mi σ28 a2 12) = 0 → Runs G mX9_fails rX9_fails [(vR x0), (vI (1 : Int32))] σ28 (bk G mX9_execute rX9_execute 0 0 119 [some (vR x0), none] [] K)))))))))) ∧ (s0 = (59 : Int32) → ∃ a30, x0 = some a30 ∧ (mt σ a30).1 = 10 ∧ ∀ σ32, σ32 = si σ a30 11 ((mi σ a30 11) + (1 : Int32)) → Runs G mX9_readCommand rX9_readCommand [(vR x0)] σ32 (bk G mX9_execute rX9_execute 0 0 50 [some (vR x0), none] [] K)))) : At G mX9_execute rX9_execute 0 0 31 [some (vR x0), none] [(vI s0)] σ K := by
  refine s_bipush (v := 59) dX9_execute_31 (by decide) ?_
  refine s_icmp_ne (tgt := 53) dX9_execute_33 (by decide) (fun q1 => ?_) (fun q1 => ?_)
  · have h := h.1 q1
    refine s_aload_n (i := 0) dX9_execute_53 rfl rfl ?_
    refine s_aload_n (i := 0) dX9_execute_54 rfl rfl ?_
    obtain ⟨a2, ea2, h⟩ := h
    obtain ⟨t3, h⟩ := h
    refine t_getI gk dX9_execute_55 fX9_183 rfl ea2 t3 ?_
    refine s_if_ne (tgt := 72) dX9_execute_58 (by decide) (fun q4 => ?_) (fun q4 => ?_)
    · have h := h.1 q4
      refine s_iconst (v := 1) dX9_execute_72 (by decide) ?_
      refine s_goto (tgt := 77) dX9_execute_73 (by decide) ?_
      refine t_putI gk dX9_execute_77 fX9_183 rfl rfl ea2 t3 ⟨rfl, rfl⟩ (fun σ5 eσ5 mσ5 => ?_)
      replace h := h σ5 eσ5
      refine s_aload_n (i := 0) dX9_execute_80 rfl rfl ?_
      refine s_aload_n (i := 0) dX9_execute_81 rfl rfl ?_
      refine t_getI gk dX9_execute_82 fX9_183 rfl ea2 (by rw [mσ5]; exact t3) ?_
      refine s_if_eq (tgt := 95) dX9_execute_85 (by decide) (fun q6 => ?_) (fun q6 => ?_)
      · have h := h.1 q6
        refine s_aload_n (i := 0) dX9_execute_95 rfl rfl ?_
        refine t_getI gk dX9_execute_96 fX9_29 rfl ea2 (by rw [mσ5]; exact t3) ?_
        refine t_putI gk dX9_execute_99 fX9_29 rfl rfl ea2 (by rw [mσ5]; exact t3) ⟨rfl, rfl⟩ (fun σ7 eσ7 mσ7 => ?_)
        replace h := h σ7 eσ7
        refine s_aload_n (i := 0) dX9_execute_102 rfl rfl ?_
        refine s_iconst (v := 0) dX9_execute_103 (by decide) ?_
        refine t_putI gk dX9_execute_104 fX9_173 rfl rfl ea2 (by rw [mσ7, mσ5]; exact t3) ⟨rfl, rfl⟩ (fun σ8 eσ8 mσ8 => ?_)
        replace h := h σ8 eσ8
        refine s_aload_n (i := 0) dX9_execute_107 rfl rfl ?_
        refine t_getI gk dX9_execute_108 fX9_183 rfl ea2 (by rw [mσ8, mσ7, mσ5]; exact t3) ?_
        refine s_if_eq (tgt := 120) dX9_execute_111 (by decide) (fun q9 => ?_) (fun q9 => ?_)
        · have h := h.1 q9
          refine s_aload_n (i := 0) dX9_execute_120 rfl rfl ?_
          exact t_callV (ci := 9) (as := []) (S := []) gk dX9_execute_121 gX9_99 (by decide) rfl w_1600 wp_8 ea2 (by rw [mσ8, mσ7, mσ5]; exact t3) rfl rfl (Nat.le_of_ble_eq_true rfl) (by decide) h
        · have h := h.2 q9
          refine s_aload_n (i := 0) dX9_execute_114 rfl rfl ?_
          refine s_iconst (v := 1) dX9_execute_115 (by decide) ?_
          exact t_callV (ci := 9) (as := [(vI (1 : Int32))]) (S := []) gk dX9_execute_116 gX9_92 (by decide) rfl w_1615 wp_10 ea2 (by rw [mσ8, mσ7, mσ5]; exact t3) rfl rfl (Nat.le_of_ble_eq_true rfl) (by decide) h
      · have h := h.2 q6
        refine s_aload_n (i := 0) dX9_execute_88 rfl rfl ?_
        refine t_getI gk dX9_execute_89 fX9_176 rfl ea2 (by rw [mσ5]; exact t3) ?_
        refine s_goto (tgt := 99) dX9_execute_92 (by decide) ?_
        refine t_putI gk dX9_execute_99 fX9_29 rfl rfl ea2 (by rw [mσ5]; exact t3) ⟨rfl, rfl⟩ (fun σ10 eσ10 mσ10 => ?_)
        replace h := h σ10 eσ10
        refine s_aload_n (i := 0) dX9_execute_102 rfl rfl ?_
        refine s_iconst (v := 0) dX9_execute_103 (by decide) ?_
        refine t_putI gk dX9_execute_104 fX9_173 rfl rfl ea2 (by rw [mσ10, mσ5]; exact t3) ⟨rfl, rfl⟩ (fun σ11 eσ11 mσ11 => ?_)
        replace h := h σ11 eσ11
        refine s_aload_n (i := 0) dX9_execute_107 rfl rfl ?_
        refine t_getI gk dX9_execute_108 fX9_183 rfl ea2 (by rw [mσ11, mσ10, mσ5]; exact t3) ?_
        refine s_if_eq (tgt := 120) dX9_execute_111 (by decide) (fun q12 => ?_) (fun q12 => ?_)
        · have h := h.1 q12
          refine s_aload_n (i := 0) dX9_execute_120 rfl rfl ?_
          exact t_callV (ci := 9) (as := []) (S := []) gk dX9_execute_121 gX9_99 (by decide) rfl w_1600 wp_8 ea2 (by rw [mσ11, mσ10, mσ5]; exact t3) rfl rfl (Nat.le_of_ble_eq_true rfl) (by decide) h
        · have h := h.2 q12
          refine s_aload_n (i := 0) dX9_execute_114 rfl rfl ?_
          refine s_iconst (v := 1) dX9_execute_115 (by decide) ?_
          exact t_callV (ci := 9) (as := [(vI (1 : Int32))]) (S := []) gk dX9_execute_116 gX9_92 (by decide) rfl w_1615 wp_10 ea2 (by rw [mσ11, mσ10, mσ5]; exact t3) rfl rfl (Nat.le_of_ble_eq_true rfl) (by decide) h
    · have h := h.2 q4
      refine s_aload_n (i := 0) dX9_execute_61 rfl rfl ?_
      refine t_getI gk dX9_execute_62 fX9_176 rfl ea2 t3 ?_
      refine s_aload_n (i := 0) dX9_execute_65 rfl rfl ?_
      refine t_getI gk dX9_execute_66 fX9_173 rfl ea2 t3 ?_
      refine s_icmp_ge (tgt := 76) dX9_execute_69 (by decide) (fun q13 => ?_) (fun q13 => ?_)
      · have h := h.1 q13
        refine s_iconst (v := 0) dX9_execute_76 (by decide) ?_
        refine t_putI gk dX9_execute_77 fX9_183 rfl rfl ea2 t3 ⟨rfl, rfl⟩ (fun σ14 eσ14 mσ14 => ?_)
        replace h := h σ14 eσ14
        refine s_aload_n (i := 0) dX9_execute_80 rfl rfl ?_
        refine s_aload_n (i := 0) dX9_execute_81 rfl rfl ?_
        refine t_getI gk dX9_execute_82 fX9_183 rfl ea2 (by rw [mσ14]; exact t3) ?_
        refine s_if_eq (tgt := 95) dX9_execute_85 (by decide) (fun q15 => ?_) (fun q15 => ?_)
        · have h := h.1 q15
          refine s_aload_n (i := 0) dX9_execute_95 rfl rfl ?_
          refine t_getI gk dX9_execute_96 fX9_29 rfl ea2 (by rw [mσ14]; exact t3) ?_
          refine t_putI gk dX9_execute_99 fX9_29 rfl rfl ea2 (by rw [mσ14]; exact t3) ⟨rfl, rfl⟩ (fun σ16 eσ16 mσ16 => ?_)
          replace h := h σ16 eσ16
          refine s_aload_n (i := 0) dX9_execute_102 rfl rfl ?_
          refine s_iconst (v := 0) dX9_execute_103 (by decide) ?_
          refine t_putI gk dX9_execute_104 fX9_173 rfl rfl ea2 (by rw [mσ16, mσ14]; exact t3) ⟨rfl, rfl⟩ (fun σ17 eσ17 mσ17 => ?_)
          replace h := h σ17 eσ17
          refine s_aload_n (i := 0) dX9_execute_107 rfl rfl ?_
          refine t_getI gk dX9_execute_108 fX9_183 rfl ea2 (by rw [mσ17, mσ16, mσ14]; exact t3) ?_
          refine s_if_eq (tgt := 120) dX9_execute_111 (by decide) (fun q18 => ?_) (fun q18 => ?_)
          · have h := h.1 q18
            refine s_aload_n (i := 0) dX9_execute_120 rfl rfl ?_
            exact t_callV (ci := 9) (as := []) (S := []) gk dX9_execute_121 gX9_99 (by decide) rfl w_1600 wp_8 ea2 (by rw [mσ17, mσ16, mσ14]; exact t3) rfl rfl (Nat.le_of_ble_eq_true rfl) (by decide) h
          · have h := h.2 q18
            refine s_aload_n (i := 0) dX9_execute_114 rfl rfl ?_
            refine s_iconst (v := 1) dX9_execute_115 (by decide) ?_
            exact t_callV (ci := 9) (as := [(vI (1 : Int32))]) (S := []) gk dX9_execute_116 gX9_92 (by decide) rfl w_1615 wp_10 ea2 (by rw [mσ17, mσ16, mσ14]; exact t3) rfl rfl (Nat.le_of_ble_eq_true rfl) (by decide) h
        · have h := h.2 q15
          refine s_aload_n (i := 0) dX9_execute_88 rfl rfl ?_
          refine t_getI gk dX9_execute_89 fX9_176 rfl ea2 (by rw [mσ14]; exact t3) ?_
          refine s_goto (tgt := 99) dX9_execute_92 (by decide) ?_
          refine t_putI gk dX9_execute_99 fX9_29 rfl rfl ea2 (by rw [mσ14]; exact t3) ⟨rfl, rfl⟩ (fun σ19 eσ19 mσ19 => ?_)
          replace h := h σ19 eσ19
          refine s_aload_n (i := 0) dX9_execute_102 rfl rfl ?_
          refine s_iconst (v := 0) dX9_execute_103 (by decide) ?_
          refine t_putI gk dX9_execute_104 fX9_173 rfl rfl ea2 (by rw [mσ19, mσ14]; exact t3) ⟨rfl, rfl⟩ (fun σ20 eσ20 mσ20 => ?_)
          replace h := h σ20 eσ20
          refine s_aload_n (i := 0) dX9_execute_107 rfl rfl ?_
          refine t_getI gk dX9_execute_108 fX9_183 rfl ea2 (by rw [mσ20, mσ19, mσ14]; exact t3) ?_
          refine s_if_eq (tgt := 120) dX9_execute_111 (by decide) (fun q21 => ?_) (fun q21 => ?_)
          · have h := h.1 q21
            refine s_aload_n (i := 0) dX9_execute_120 rfl rfl ?_
            exact t_callV (ci := 9) (as := []) (S := []) gk dX9_execute_121 gX9_99 (by decide) rfl w_1600 wp_8 ea2 (by rw [mσ20, mσ19, mσ14]; exact t3) rfl rfl (Nat.le_of_ble_eq_true rfl) (by decide) h
          · have h := h.2 q21
            refine s_aload_n (i := 0) dX9_execute_114 rfl rfl ?_
            refine s_iconst (v := 1) dX9_execute_115 (by decide) ?_
            exact t_callV (ci := 9) (as := [(vI (1 : Int32))]) (S := []) gk dX9_execute_116 gX9_92 (by decide) rfl w_1615 wp_10 ea2 (by rw [mσ20, mσ19, mσ14]; exact t3) rfl rfl (Nat.le_of_ble_eq_true rfl) (by decide) h
      · have h := h.2 q13
        refine s_iconst (v := 1) dX9_execute_72 (by decide) ?_
        refine s_goto (tgt := 77) dX9_execute_73 (by decide) ?_
        refine t_putI gk dX9_execute_77 fX9_183 rfl rfl ea2 t3 ⟨rfl, rfl⟩ (fun σ22 eσ22 mσ22 => ?_)
        replace h := h σ22 eσ22
        refine s_aload_n (i := 0) dX9_execute_80 rfl rfl ?_
        refine s_aload_n (i := 0) dX9_execute_81 rfl rfl ?_
        refine t_getI gk dX9_execute_82 fX9_183 rfl ea2 (by rw [mσ22]; exact t3) ?_
        refine s_if_eq (tgt := 95) dX9_execute_85 (by decide) (fun q23 => ?_) (fun q23 => ?_)
        · have h := h.1 q23
          refine s_aload_n (i := 0) dX9_execute_95 rfl rfl ?_
          refine t_getI gk dX9_execute_96 fX9_29 rfl ea2 (by rw [mσ22]; exact t3) ?_
          refine t_putI gk dX9_execute_99 fX9_29 rfl rfl ea2 (by rw [mσ22]; exact t3) ⟨rfl, rfl⟩ (fun σ24 eσ24 mσ24 => ?_)
          replace h := h σ24 eσ24
          refine s_aload_n (i := 0) dX9_execute_102 rfl rfl ?_
          refine s_iconst (v := 0) dX9_execute_103 (by decide) ?_
          refine t_putI gk dX9_execute_104 fX9_173 rfl rfl ea2 (by rw [mσ24, mσ22]; exact t3) ⟨rfl, rfl⟩ (fun σ25 eσ25 mσ25 => ?_)
          replace h := h σ25 eσ25
          refine s_aload_n (i := 0) dX9_execute_107 rfl rfl ?_
          refine t_getI gk dX9_execute_108 fX9_183 rfl ea2 (by rw [mσ25, mσ24, mσ22]; exact t3) ?_
          refine s_if_eq (tgt := 120) dX9_execute_111 (by decide) (fun q26 => ?_) (fun q26 => ?_)
          · have h := h.1 q26
            refine s_aload_n (i := 0) dX9_execute_120 rfl rfl ?_
            exact t_callV (ci := 9) (as := []) (S := []) gk dX9_execute_121 gX9_99 (by decide) rfl w_1600 wp_8 ea2 (by rw [mσ25, mσ24, mσ22]; exact t3) rfl rfl (Nat.le_of_ble_eq_true rfl) (by decide) h
          · have h := h.2 q26
            refine s_aload_n (i := 0) dX9_execute_114 rfl rfl ?_
            refine s_iconst (v := 1) dX9_execute_115 (by decide) ?_
            exact t_callV (ci := 9) (as := [(vI (1 : Int32))]) (S := []) gk dX9_execute_116 gX9_92 (by decide) rfl w_1615 wp_10 ea2 (by rw [mσ25, mσ24, mσ22]; exact t3) rfl rfl (Nat.le_of_ble_eq_true rfl) (by decide) h
        · have h := h.2 q23
          refine s_aload_n (i := 0) dX9_execute_88 rfl rfl ?_
          refine t_getI gk dX9_execute_89 fX9_176 rfl ea2 (by rw [mσ22]; exact t3) ?_
          refine s_goto (tgt := 99) dX9_execute_92 (by decide) ?_
          refine t_putI gk dX9_execute_99 fX9_29 rfl rfl ea2 (by rw [mσ22]; exact t3) ⟨rfl, rfl⟩ (fun σ27 eσ27 mσ27 => ?_)
          replace h := h σ27 eσ27
          refine s_aload_n (i := 0) dX9_execute_102 rfl rfl ?_
          refine s_iconst (v := 0) dX9_execute_103 (by decide) ?_
          refine t_putI gk dX9_execute_104 fX9_173 rfl rfl ea2 (by rw [mσ27, mσ22]; exact t3) ⟨rfl, rfl⟩ (fun σ28 eσ28 mσ28 => ?_)
          replace h := h σ28 eσ28
          refine s_aload_n (i := 0) dX9_execute_107 rfl rfl ?_
          refine t_getI gk dX9_execute_108 fX9_183 rfl ea2 (by rw [mσ28, mσ27, mσ22]; exact t3) ?_
          refine s_if_eq (tgt := 120) dX9_execute_111 (by decide) (fun q29 => ?_) (fun q29 => ?_)
          · have h := h.1 q29
            refine s_aload_n (i := 0) dX9_execute_120 rfl rfl ?_
            exact t_callV (ci := 9) (as := []) (S := []) gk dX9_execute_121 gX9_99 (by decide) rfl w_1600 wp_8 ea2 (by rw [mσ28, mσ27, mσ22]; exact t3) rfl rfl (Nat.le_of_ble_eq_true rfl) (by decide) h
          · have h := h.2 q29
            refine s_aload_n (i := 0) dX9_execute_114 rfl rfl ?_
            refine s_iconst (v := 1) dX9_execute_115 (by decide) ?_
            exact t_callV (ci := 9) (as := [(vI (1 : Int32))]) (S := []) gk dX9_execute_116 gX9_92 (by decide) rfl w_1615 wp_10 ea2 (by rw [mσ28, mσ27, mσ22]; exact t3) rfl rfl (Nat.le_of_ble_eq_true rfl) (by decide) h
  · have h := h.2 q1
    refine s_aload_n (i := 0) dX9_execute_36 rfl rfl ?_
    refine s_dup dX9_execute_37 rfl ?_
    obtain ⟨a30, ea30, h⟩ := h
    obtain ⟨t31, h⟩ := h
    refine t_getI gk dX9_execute_38 fX9_176 rfl ea30 t31 ?_
    refine s_iconst (v := 1) dX9_execute_41 (by decide) ?_
    refine s_iadd dX9_execute_42 ?_
    refine t_putI gk dX9_execute_43 fX9_176 rfl rfl ea30 t31 ⟨rfl, rfl⟩ (fun σ32 eσ32 mσ32 => ?_)
    replace h := h σ32 eσ32
    refine s_aload_n (i := 0) dX9_execute_46 rfl rfl ?_
    exact t_callV (ci := 9) (as := []) (S := []) gk dX9_execute_47 gX9_233 (by decide) rfl w_1903 wp_37 ea30 (by rw [mσ32]; exact t31) rfl rfl (Nat.le_of_ble_eq_true rfl) (by decide) h
theorem vX9_execute_50 {G : GG} (gk : GOK G) {σ : Mm} {K : RES → Mm → Prop} {x0 : Option Nat}
    (h : At G mX9_execute rX9_execute 0 0 19 [some (vR x0), none] [] σ K) : At G mX9_execute rX9_execute 0 0 50 [some (vR x0), none] [] σ K := by
  refine s_goto (tgt := 19) dX9_execute_50 (by decide) ?_
  exact h
theorem vX9_execute_119 {G : GG} (gk : GOK G) {σ : Mm} {K : RES → Mm → Prop} {x0 : Option Nat} {s0 : Int32}
    (h : K (.inl (some (vI s0))) σ) : At G mX9_execute rX9_execute 0 0 119 [some (vR x0), none] [(vI s0)] σ K := by
  exact s_ireturn dX9_execute_119 rfl rfl (by decide) (by decide) h
theorem vX9_execute_124 {G : GG} (gk : GOK G) {σ : Mm} {K : RES → Mm → Prop} {x0 : Option Nat}
    (h : At G mX9_execute rX9_execute 0 0 126 [some (vR x0), some (vI (0 : Int32))] [] σ K) : At G mX9_execute rX9_execute 0 0 124 [some (vR x0), none] [] σ K := by
  refine s_iconst (v := 0) dX9_execute_124 (by decide) ?_
  refine s_istore_n (i := 1) (L' := [some (vR x0), some (vI (0 : Int32))]) dX9_execute_125 rfl rfl (by decide) rfl ?_
  exact h
theorem vX9_execute_126 {G : GG} (gk : GOK G) {σ : Mm} {K : RES → Mm → Prop} {x0 : Option Nat} {x1 : Int32}
    (h : ∃ a1, x0 = some a1 ∧ (mt σ a1).1 = 10 ∧ (((mi σ a1 16) ≤ x1 → Runs G mX9_ends rX9_ends [(vR x0), (vI (mi σ a1 16))] σ (bk G mX9_execute rX9_execute 0 0 175 [some (vR x0), some (vI x1)] [] K)) ∧ (¬ (mi σ a1 16) ≤ x1 → Runs G mX9_does rX9_does [(vR x0), (vI x1)] σ (bk G mX9_execute rX9_execute 0 0 139 [some (vR x0), some (vI x1)] [] K)))) : At G mX9_execute rX9_execute 0 0 126 [some (vR x0), some (vI x1)] [] σ K := by
  refine s_iload_n (i := 1) dX9_execute_126 rfl rfl ?_
  refine s_aload_n (i := 0) dX9_execute_127 rfl rfl ?_
  obtain ⟨a1, ea1, h⟩ := h
  obtain ⟨t2, h⟩ := h
  refine t_getI gk dX9_execute_128 fX9_203 rfl ea1 t2 ?_
  refine s_icmp_ge (tgt := 167) dX9_execute_131 (by decide) (fun q3 => ?_) (fun q3 => ?_)
  · have h := h.1 q3
    refine s_aload_n (i := 0) dX9_execute_167 rfl rfl ?_
    refine s_aload_n (i := 0) dX9_execute_168 rfl rfl ?_
    refine t_getI gk dX9_execute_169 fX9_203 rfl ea1 t2 ?_
    exact t_callV (ci := 9) (as := [(vI (mi σ a1 16))]) (S := []) gk dX9_execute_172 gX9_105 (by decide) rfl w_1630 wp_13 ea1 t2 rfl rfl (Nat.le_of_ble_eq_true rfl) (by decide) h
  · have h := h.2 q3
    refine s_aload_n (i := 0) dX9_execute_134 rfl rfl ?_
    refine s_iload_n (i := 1) dX9_execute_135 rfl rfl ?_
    exact t_callV (ci := 9) (as := [(vI x1)]) (S := []) gk dX9_execute_136 gX9_236 (by decide) rfl w_1943 wp_44 ea1 t2 rfl rfl (Nat.le_of_ble_eq_true rfl) (by decide) h
theorem vX9_execute_139 {G : GG} (gk : GOK G) {σ : Mm} {K : RES → Mm → Prop} {x0 : Option Nat} {x1 : Int32}
    (h : ∃ a1, x0 = some a1 ∧ (mt σ a1).1 = 10 ∧ (((mi σ a1 6) ≤ 0 → At G mX9_execute rX9_execute 0 0 126 [some (vR x0), some (vI (x1 + 1))] [] σ K) ∧ (¬ (mi σ a1 6) ≤ 0 → ∀ σ4, σ4 = si σ a1 14 x1 → Runs G mX9_fails rX9_fails [(vR x0), (vI (2 : Int32))] σ4 (bk G mX9_execute rX9_execute 0 0 157 [some (vR x0), some (vI x1)] [(vR x0)] K)))) : At G mX9_execute rX9_execute 0 0 139 [some (vR x0), some (vI x1)] [] σ K := by
  refine s_aload_n (i := 0) dX9_execute_139 rfl rfl ?_
  obtain ⟨a1, ea1, h⟩ := h
  obtain ⟨t2, h⟩ := h
  refine t_getI gk dX9_execute_140 fX9_39 rfl ea1 t2 ?_
  refine s_if_le (tgt := 161) dX9_execute_143 (by decide) (fun q3 => ?_) (fun q3 => ?_)
  · have h := h.1 q3
    refine s_iinc (v := x1 + 1) (L' := [some (vR x0), some (vI (x1 + 1))]) dX9_execute_161 rfl rfl rfl (by decide) rfl ?_
    refine s_goto (tgt := 126) dX9_execute_164 (by decide) ?_
    exact h
  · have h := h.2 q3
    refine s_aload_n (i := 0) dX9_execute_146 rfl rfl ?_
    refine s_iload_n (i := 1) dX9_execute_147 rfl rfl ?_
    refine t_putI gk dX9_execute_148 fX9_33 rfl rfl ea1 t2 ⟨rfl, rfl⟩ (fun σ4 eσ4 mσ4 => ?_)
    replace h := h σ4 eσ4
    refine s_aload_n (i := 0) dX9_execute_151 rfl rfl ?_
    refine s_aload_n (i := 0) dX9_execute_152 rfl rfl ?_
    refine s_iconst (v := 2) dX9_execute_153 (by decide) ?_
    exact t_callV (ci := 9) (as := [(vI (2 : Int32))]) (S := [(vR x0)]) gk dX9_execute_154 gX9_92 (by decide) rfl w_1615 wp_10 ea1 (by rw [mσ4]; exact t2) rfl rfl (Nat.le_of_ble_eq_true rfl) (by decide) h
theorem vX9_execute_157 {G : GG} (gk : GOK G) {σ : Mm} {K : RES → Mm → Prop} {x0 : Option Nat} {x1 : Int32} {s0 : Int32} {s1 : Option Nat}
    (h : ∃ a1, s1 = some a1 ∧ (mt σ a1).1 = 10 ∧ Runs G mX9_ends rX9_ends [(vR s1), (vI s0)] σ (bk G mX9_execute rX9_execute 0 0 160 [some (vR x0), some (vI x1)] [] K)) : At G mX9_execute rX9_execute 0 0 157 [some (vR x0), some (vI x1)] [(vI s0), (vR s1)] σ K := by
  obtain ⟨a1, ea1, h⟩ := h
  obtain ⟨t2, h⟩ := h
  exact t_callV (ci := 9) (as := [(vI s0)]) (S := []) gk dX9_execute_157 gX9_105 (by decide) rfl w_1630 wp_13 ea1 t2 rfl rfl (Nat.le_of_ble_eq_true rfl) (by decide) h
theorem vX9_execute_160 {G : GG} (gk : GOK G) {σ : Mm} {K : RES → Mm → Prop} {x0 : Option Nat} {x1 : Int32} {s0 : Int32}
    (h : K (.inl (some (vI s0))) σ) : At G mX9_execute rX9_execute 0 0 160 [some (vR x0), some (vI x1)] [(vI s0)] σ K := by
  exact s_ireturn dX9_execute_160 rfl rfl (by decide) (by decide) h
theorem vX9_execute_175 {G : GG} (gk : GOK G) {σ : Mm} {K : RES → Mm → Prop} {x0 : Option Nat} {x1 : Int32} {s0 : Int32}
    (h : K (.inl (some (vI s0))) σ) : At G mX9_execute rX9_execute 0 0 175 [some (vR x0), some (vI x1)] [(vI s0)] σ K := by
  exact s_ireturn dX9_execute_175 rfl rfl (by decide) (by decide) h
theorem vX9_errorPosition_0 {G : GG} (gk : GOK G) {σ : Mm} {K : RES → Mm → Prop} {x0 : Option Nat}
    (h : ∃ a1, x0 = some a1 ∧ (mt σ a1).1 = 10 ∧ (((mi σ a1 13) < 0 → Runs G mX9_isThere rX9_isThere [(vR x0), (vI (0 : Int32))] σ (bk G mX9_errorPosition rX9_errorPosition 0 0 16 [some (vR x0)] [] K)) ∧ (¬ (mi σ a1 13) < 0 → Runs G mX9_isThere rX9_isThere [(vR x0), (vI (1 : Int32))] σ (bk G mX9_errorPosition rX9_errorPosition 0 0 16 [some (vR x0)] [] K)))) : At G mX9_errorPosition rX9_errorPosition 0 0 0 [some (vR x0)] [] σ K := by
  refine s_aload_n (i := 0) dX9_errorPosition_0 rfl rfl ?_
  refine s_aload_n (i := 0) dX9_errorPosition_1 rfl rfl ?_
  obtain ⟨a1, ea1, h⟩ := h
  obtain ⟨t2, h⟩ := h
  refine t_getI gk dX9_errorPosition_2 fX9_29 rfl ea1 t2 ?_
  refine s_if_lt (tgt := 12) dX9_errorPosition_5 (by decide) (fun q3 => ?_) (fun q3 => ?_)
  · have h := h.1 q3
    refine s_iconst (v := 0) dX9_errorPosition_12 (by decide) ?_
    exact t_callV (ci := 9) (as := [(vI (0 : Int32))]) (S := []) gk dX9_errorPosition_13 gX9_114 (by decide) rfl w_1665 wp_17 ea1 t2 rfl rfl (Nat.le_of_ble_eq_true rfl) (by decide) h
  · have h := h.2 q3
    refine s_iconst (v := 1) dX9_errorPosition_8 (by decide) ?_
    refine s_goto (tgt := 13) dX9_errorPosition_9 (by decide) ?_
    exact t_callV (ci := 9) (as := [(vI (1 : Int32))]) (S := []) gk dX9_errorPosition_13 gX9_114 (by decide) rfl w_1665 wp_17 ea1 t2 rfl rfl (Nat.le_of_ble_eq_true rfl) (by decide) h
theorem eX9_errorPosition {G : GG} (gk : GOK G) {σ : Mm} {K : RES → Mm → Prop} {x0 : Option Nat}
    (h : ∃ a1, x0 = some a1 ∧ (mt σ a1).1 = 10 ∧ (((mi σ a1 13) < 0 → Runs G mX9_isThere rX9_isThere [(vR x0), (vI (0 : Int32))] σ (bk G mX9_errorPosition rX9_errorPosition 0 0 16 [some (vR x0)] [] K)) ∧ (¬ (mi σ a1 13) < 0 → Runs G mX9_isThere rX9_isThere [(vR x0), (vI (1 : Int32))] σ (bk G mX9_errorPosition rX9_errorPosition 0 0 16 [some (vR x0)] [] K)))) : Runs G mX9_errorPosition rX9_errorPosition [(vR x0)] σ K := Runs.of (by decide) rfl (Nat.le_of_ble_eq_true rfl) (vX9_errorPosition_0 gk h)
theorem vX9_errorPosition_16 {G : GG} (gk : GOK G) {σ : Mm} {K : RES → Mm → Prop} {x0 : Option Nat} {s0 : Int32}
    (h : ((s0 = 0 → K (.inl (some (vI (0 : Int32)))) σ) ∧ (¬ s0 = 0 → ∃ a2, x0 = some a2 ∧ (mt σ a2).1 = 10 ∧ K (.inl (some (vI (mi σ a2 13)))) σ))) : At G mX9_errorPosition rX9_errorPosition 0 0 16 [some (vR x0)] [(vI s0)] σ K := by
  refine s_if_eq (tgt := 26) dX9_errorPosition_16 (by decide) (fun q1 => ?_) (fun q1 => ?_)
  · have h := h.1 q1
    refine s_iconst (v := 0) dX9_errorPosition_26 (by decide) ?_
    exact s_ireturn dX9_errorPosition_27 rfl rfl (by decide) (by decide) h
  · have h := h.2 q1
    refine s_aload_n (i := 0) dX9_errorPosition_19 rfl rfl ?_
    obtain ⟨a2, ea2, h⟩ := h
    obtain ⟨t3, h⟩ := h
    refine t_getI gk dX9_errorPosition_20 fX9_29 rfl ea2 t3 ?_
    refine s_goto (tgt := 27) dX9_errorPosition_23 (by decide) ?_
    exact s_ireturn dX9_errorPosition_27 rfl rfl (by decide) (by decide) h
theorem vX9_failedCommand_0 {G : GG} (gk : GOK G) {σ : Mm} {K : RES → Mm → Prop} {x0 : Option Nat}
    (h : ∃ a1, x0 = some a1 ∧ (mt σ a1).1 = 10 ∧ (((mi σ a1 14) < 0 → Runs G mX9_isThere rX9_isThere [(vR x0), (vI (0 : Int32))] σ (bk G mX9_failedCommand rX9_failedCommand 0 0 16 [some (vR x0)] [] K)) ∧ (¬ (mi σ a1 14) < 0 → Runs G mX9_isThere rX9_isThere [(vR x0), (vI (1 : Int32))] σ (bk G mX9_failedCommand rX9_failedCommand 0 0 16 [some (vR x0)] [] K)))) : At G mX9_failedCommand rX9_failedCommand 0 0 0 [some (vR x0)] [] σ K := by
  refine s_aload_n (i := 0) dX9_failedCommand_0 rfl rfl ?_
  refine s_aload_n (i := 0) dX9_failedCommand_1 rfl rfl ?_
  obtain ⟨a1, ea1, h⟩ := h
  obtain ⟨t2, h⟩ := h
  refine t_getI gk dX9_failedCommand_2 fX9_33 rfl ea1 t2 ?_
  refine s_if_lt (tgt := 12) dX9_failedCommand_5 (by decide) (fun q3 => ?_) (fun q3 => ?_)
  · have h := h.1 q3
    refine s_iconst (v := 0) dX9_failedCommand_12 (by decide) ?_
    exact t_callV (ci := 9) (as := [(vI (0 : Int32))]) (S := []) gk dX9_failedCommand_13 gX9_114 (by decide) rfl w_1665 wp_17 ea1 t2 rfl rfl (Nat.le_of_ble_eq_true rfl) (by decide) h
  · have h := h.2 q3
    refine s_iconst (v := 1) dX9_failedCommand_8 (by decide) ?_
    refine s_goto (tgt := 13) dX9_failedCommand_9 (by decide) ?_
    exact t_callV (ci := 9) (as := [(vI (1 : Int32))]) (S := []) gk dX9_failedCommand_13 gX9_114 (by decide) rfl w_1665 wp_17 ea1 t2 rfl rfl (Nat.le_of_ble_eq_true rfl) (by decide) h
theorem eX9_failedCommand {G : GG} (gk : GOK G) {σ : Mm} {K : RES → Mm → Prop} {x0 : Option Nat}
    (h : ∃ a1, x0 = some a1 ∧ (mt σ a1).1 = 10 ∧ (((mi σ a1 14) < 0 → Runs G mX9_isThere rX9_isThere [(vR x0), (vI (0 : Int32))] σ (bk G mX9_failedCommand rX9_failedCommand 0 0 16 [some (vR x0)] [] K)) ∧ (¬ (mi σ a1 14) < 0 → Runs G mX9_isThere rX9_isThere [(vR x0), (vI (1 : Int32))] σ (bk G mX9_failedCommand rX9_failedCommand 0 0 16 [some (vR x0)] [] K)))) : Runs G mX9_failedCommand rX9_failedCommand [(vR x0)] σ K := Runs.of (by decide) rfl (Nat.le_of_ble_eq_true rfl) (vX9_failedCommand_0 gk h)
theorem vX9_failedCommand_16 {G : GG} (gk : GOK G) {σ : Mm} {K : RES → Mm → Prop} {x0 : Option Nat} {s0 : Int32}
    (h : ((s0 = 0 → K (.inl (some (vI (0 : Int32)))) σ) ∧ (¬ s0 = 0 → ∃ a2, x0 = some a2 ∧ (mt σ a2).1 = 10 ∧ K (.inl (some (vI (mi σ a2 14)))) σ))) : At G mX9_failedCommand rX9_failedCommand 0 0 16 [some (vR x0)] [(vI s0)] σ K := by
  refine s_if_eq (tgt := 26) dX9_failedCommand_16 (by decide) (fun q1 => ?_) (fun q1 => ?_)
  · have h := h.1 q1
    refine s_iconst (v := 0) dX9_failedCommand_26 (by decide) ?_
    exact s_ireturn dX9_failedCommand_27 rfl rfl (by decide) (by decide) h
  · have h := h.2 q1
    refine s_aload_n (i := 0) dX9_failedCommand_19 rfl rfl ?_
    obtain ⟨a2, ea2, h⟩ := h
    obtain ⟨t3, h⟩ := h
    refine t_getI gk dX9_failedCommand_20 fX9_33 rfl ea2 t3 ?_
    refine s_goto (tgt := 27) dX9_failedCommand_23 (by decide) ?_
    exact s_ireturn dX9_failedCommand_27 rfl rfl (by decide) (by decide) h
theorem vX9_undo_0 {G : GG} (gk : GOK G) {σ : Mm} {K : RES → Mm → Prop} {x0 : Option Nat}
    (h : ∃ a1, x0 = some a1 ∧ (mt σ a1).1 = 10 ∧ ((¬ (mi σ a1 5) = 0 → ∀ σ4, σ4 = si σ a1 6 (0 : Int32) → (((mi σ4 a1 6) ≤ 0 → ∀ σ6, σ6 = si σ4 a1 5 ((mi σ4 a1 5) - (1 : Int32)) → ∃ a7, mr σ6 a1 4 = some a7 ∧ ∃ n9, mt σ a7 = (50, n9) ∧ ∃ a10, mr σ6 a1 0 = some a10 ∧ ∃ n12, mt σ a10 = (50, n12) ∧ ((¬ ((858 : Int32) * (mi σ6 a1 5)) < 0 ∧ ¬ (0 : Int32) < 0 ∧ ¬ (858 : Int32) < 0) ∧ ((858 : Int32) * (mi σ6 a1 5)).toNatClampNeg + (858 : Int32).toNatClampNeg ≤ n9 ∧ (0 : Int32).toNatClampNeg + (858 : Int32).toNatClampNeg ≤ n12) ∧ ∀ σ14, σ14 = cpI σ6 a7 ((858 : Int32) * (mi σ6 a1 5)).toNatClampNeg a10 (0 : Int32).toNatClampNeg (858 : Int32).toNatClampNeg → K (.inl (some (vI (mi σ14 a1 5)))) σ14) ∧ (¬ (mi σ4 a1 6) ≤ 0 → K (.inl (some (vI (0 : Int32)))) σ4))) ∧ ((mi σ a1 5) = 0 → ∀ σ15, σ15 = si σ a1 6 (1 : Int32) → (((mi σ15 a1 6) ≤ 0 → ∀ σ17, σ17 = si σ15 a1 5 ((mi σ15 a1 5) - (1 : Int32)) → ∃ a18, mr σ17 a1 4 = some a18 ∧ ∃ n20, mt σ a18 = (50, n20) ∧ ∃ a21, mr σ17 a1 0 = some a21 ∧ ∃ n23, mt σ a21 = (50, n23) ∧ ((¬ ((858 : Int32) * (mi σ17 a1 5)) < 0 ∧ ¬ (0 : Int32) < 0 ∧ ¬ (858 : Int32) < 0) ∧ ((858 : Int32) * (mi σ17 a1 5)).toNatClampNeg + (858 : Int32).toNatClampNeg ≤ n20 ∧ (0 : Int32).toNatClampNeg + (858 : Int32).toNatClampNeg ≤ n23) ∧ ∀ σ25, σ25 = cpI σ17 a18 ((858 : Int32) * (mi σ17 a1 5)).toNatClampNeg a21 (0 : Int32).toNatClampNeg (858 : Int32).toNatClampNeg → K (.inl (some (vI (mi σ25 a1 5)))) σ25) ∧ (¬ (mi σ15 a1 6) ≤ 0 → K (.inl (some (vI (0 : Int32)))) σ15))))) : At G mX9_undo rX9_undo 0 0 0 [some (vR x0)] [] σ K := by
  refine s_aload_n (i := 0) dX9_undo_0 rfl rfl ?_
  refine s_aload_n (i := 0) dX9_undo_1 rfl rfl ?_
  obtain ⟨a1, ea1, h⟩ := h
  obtain ⟨t2, h⟩ := h
  refine t_getI gk dX9_undo_2 fX9_48 rfl ea1 t2 ?_
  refine s_if_ne (tgt := 12) dX9_undo_5 (by decide) (fun q3 => ?_) (fun q3 => ?_)
  · have h := h.1 q3
    refine s_iconst (v := 0) dX9_undo_12 (by decide) ?_
    refine t_putI gk dX9_undo_13 fX9_39 rfl rfl ea1 t2 ⟨rfl, rfl⟩ (fun σ4 eσ4 mσ4 => ?_)
    replace h := h σ4 eσ4
    refine s_aload_n (i := 0) dX9_undo_16 rfl rfl ?_
    refine t_getI gk dX9_undo_17 fX9_39 rfl ea1 (by rw [mσ4]; exact t2) ?_
    refine s_if_le (tgt := 25) dX9_undo_20 (by decide) (fun q5 => ?_) (fun q5 => ?_)
    · have h := h.1 q5
      refine s_aload_n (i := 0) dX9_undo_25 rfl rfl ?_
      refine s_dup dX9_undo_26 rfl ?_
      refine t_getI gk dX9_undo_27 fX9_48 rfl ea1 (by rw [mσ4]; exact t2) ?_
      refine s_iconst (v := 1) dX9_undo_30 (by decide) ?_
      refine s_isub dX9_undo_31 ?_
      refine t_putI gk dX9_undo_32 fX9_48 rfl rfl ea1 (by rw [mσ4]; exact t2) ⟨rfl, rfl⟩ (fun σ6 eσ6 mσ6 => ?_)
      replace h := h σ6 eσ6
      refine s_aload_n (i := 0) dX9_undo_35 rfl rfl ?_
      refine t_getR gk dX9_undo_36 fX9_19 rfl ea1 (by rw [mσ6, mσ4]; exact t2) ?_
      refine s_sipush (v := 858) dX9_undo_39 (by decide) ?_
      refine s_aload_n (i := 0) dX9_undo_42 rfl rfl ?_
      refine t_getI gk dX9_undo_43 fX9_48 rfl ea1 (by rw [mσ6, mσ4]; exact t2) ?_
      refine s_imul dX9_undo_46 ?_
      refine s_aload_n (i := 0) dX9_undo_47 rfl rfl ?_
      refine t_getR gk dX9_undo_48 fX9_9 rfl ea1 (by rw [mσ6, mσ4]; exact t2) ?_
      refine s_iconst (v := 0) dX9_undo_51 (by decide) ?_
      refine s_sipush (v := 858) dX9_undo_52 (by decide) ?_
      obtain ⟨a7, ea7, h⟩ := h
      obtain ⟨n9, t8, h⟩ := h
      obtain ⟨a10, ea10, h⟩ := h
      obtain ⟨n12, t11, h⟩ := h
      obtain ⟨c13, h⟩ := h
      refine t_copy gk dX9_undo_55 w_1602 w_1131 w_1130 w_23 ea7 (by rw [mσ6, mσ4]; exact t8) ea10 (by rw [mσ6, mσ4]; exact t11) c13 rfl (by decide) (by decide) (fun σ14 eσ14 mσ14 => ?_)
      replace h := h σ14 eσ14
      refine s_aload_n (i := 0) dX9_undo_58 rfl rfl ?_
      refine t_getI gk dX9_undo_59 fX9_48 rfl ea1 (by rw [mσ14, mσ6, mσ4]; exact t2) ?_
      exact s_ireturn dX9_undo_62 rfl rfl (by decide) (by decide) h
    · have h := h.2 q5
      refine s_iconst (v := 0) dX9_undo_23 (by decide) ?_
      exact s_ireturn dX9_undo_24 rfl rfl (by decide) (by decide) h
  · have h := h.2 q3
    refine s_iconst (v := 1) dX9_undo_8 (by decide) ?_
    refine s_goto (tgt := 13) dX9_undo_9 (by decide) ?_
    refine t_putI gk dX9_undo_13 fX9_39 rfl rfl ea1 t2 ⟨rfl, rfl⟩ (fun σ15 eσ15 mσ15 => ?_)
    replace h := h σ15 eσ15
    refine s_aload_n (i := 0) dX9_undo_16 rfl rfl ?_
    refine t_getI gk dX9_undo_17 fX9_39 rfl ea1 (by rw [mσ15]; exact t2) ?_
    refine s_if_le (tgt := 25) dX9_undo_20 (by decide) (fun q16 => ?_) (fun q16 => ?_)
    · have h := h.1 q16
      refine s_aload_n (i := 0) dX9_undo_25 rfl rfl ?_
      refine s_dup dX9_undo_26 rfl ?_
      refine t_getI gk dX9_undo_27 fX9_48 rfl ea1 (by rw [mσ15]; exact t2) ?_
      refine s_iconst (v := 1) dX9_undo_30 (by decide) ?_
      refine s_isub dX9_undo_31 ?_
      refine t_putI gk dX9_undo_32 fX9_48 rfl rfl ea1 (by rw [mσ15]; exact t2) ⟨rfl, rfl⟩ (fun σ17 eσ17 mσ17 => ?_)
      replace h := h σ17 eσ17
      refine s_aload_n (i := 0) dX9_undo_35 rfl rfl ?_
      refine t_getR gk dX9_undo_36 fX9_19 rfl ea1 (by rw [mσ17, mσ15]; exact t2) ?_
      refine s_sipush (v := 858) dX9_undo_39 (by decide) ?_
      refine s_aload_n (i := 0) dX9_undo_42 rfl rfl ?_
      refine t_getI gk dX9_undo_43 fX9_48 rfl ea1 (by rw [mσ17, mσ15]; exact t2) ?_
      refine s_imul dX9_undo_46 ?_
      refine s_aload_n (i := 0) dX9_undo_47 rfl rfl ?_
      refine t_getR gk dX9_undo_48 fX9_9 rfl ea1 (by rw [mσ17, mσ15]; exact t2) ?_
      refine s_iconst (v := 0) dX9_undo_51 (by decide) ?_
      refine s_sipush (v := 858) dX9_undo_52 (by decide) ?_
      obtain ⟨a18, ea18, h⟩ := h
      obtain ⟨n20, t19, h⟩ := h
      obtain ⟨a21, ea21, h⟩ := h
      obtain ⟨n23, t22, h⟩ := h
      obtain ⟨c24, h⟩ := h
      refine t_copy gk dX9_undo_55 w_1602 w_1131 w_1130 w_23 ea18 (by rw [mσ17, mσ15]; exact t19) ea21 (by rw [mσ17, mσ15]; exact t22) c24 rfl (by decide) (by decide) (fun σ25 eσ25 mσ25 => ?_)
      replace h := h σ25 eσ25
      refine s_aload_n (i := 0) dX9_undo_58 rfl rfl ?_
      refine t_getI gk dX9_undo_59 fX9_48 rfl ea1 (by rw [mσ25, mσ17, mσ15]; exact t2) ?_
      exact s_ireturn dX9_undo_62 rfl rfl (by decide) (by decide) h
    · have h := h.2 q16
      refine s_iconst (v := 0) dX9_undo_23 (by decide) ?_
      exact s_ireturn dX9_undo_24 rfl rfl (by decide) (by decide) h
theorem eX9_undo {G : GG} (gk : GOK G) {σ : Mm} {K : RES → Mm → Prop} {x0 : Option Nat}
    (h : ∃ a1, x0 = some a1 ∧ (mt σ a1).1 = 10 ∧ ((¬ (mi σ a1 5) = 0 → ∀ σ4, σ4 = si σ a1 6 (0 : Int32) → (((mi σ4 a1 6) ≤ 0 → ∀ σ6, σ6 = si σ4 a1 5 ((mi σ4 a1 5) - (1 : Int32)) → ∃ a7, mr σ6 a1 4 = some a7 ∧ ∃ n9, mt σ a7 = (50, n9) ∧ ∃ a10, mr σ6 a1 0 = some a10 ∧ ∃ n12, mt σ a10 = (50, n12) ∧ ((¬ ((858 : Int32) * (mi σ6 a1 5)) < 0 ∧ ¬ (0 : Int32) < 0 ∧ ¬ (858 : Int32) < 0) ∧ ((858 : Int32) * (mi σ6 a1 5)).toNatClampNeg + (858 : Int32).toNatClampNeg ≤ n9 ∧ (0 : Int32).toNatClampNeg + (858 : Int32).toNatClampNeg ≤ n12) ∧ ∀ σ14, σ14 = cpI σ6 a7 ((858 : Int32) * (mi σ6 a1 5)).toNatClampNeg a10 (0 : Int32).toNatClampNeg (858 : Int32).toNatClampNeg → K (.inl (some (vI (mi σ14 a1 5)))) σ14) ∧ (¬ (mi σ4 a1 6) ≤ 0 → K (.inl (some (vI (0 : Int32)))) σ4))) ∧ ((mi σ a1 5) = 0 → ∀ σ15, σ15 = si σ a1 6 (1 : Int32) → (((mi σ15 a1 6) ≤ 0 → ∀ σ17, σ17 = si σ15 a1 5 ((mi σ15 a1 5) - (1 : Int32)) → ∃ a18, mr σ17 a1 4 = some a18 ∧ ∃ n20, mt σ a18 = (50, n20) ∧ ∃ a21, mr σ17 a1 0 = some a21 ∧ ∃ n23, mt σ a21 = (50, n23) ∧ ((¬ ((858 : Int32) * (mi σ17 a1 5)) < 0 ∧ ¬ (0 : Int32) < 0 ∧ ¬ (858 : Int32) < 0) ∧ ((858 : Int32) * (mi σ17 a1 5)).toNatClampNeg + (858 : Int32).toNatClampNeg ≤ n20 ∧ (0 : Int32).toNatClampNeg + (858 : Int32).toNatClampNeg ≤ n23) ∧ ∀ σ25, σ25 = cpI σ17 a18 ((858 : Int32) * (mi σ17 a1 5)).toNatClampNeg a21 (0 : Int32).toNatClampNeg (858 : Int32).toNatClampNeg → K (.inl (some (vI (mi σ25 a1 5)))) σ25) ∧ (¬ (mi σ15 a1 6) ≤ 0 → K (.inl (some (vI (0 : Int32)))) σ15))))) : Runs G mX9_undo rX9_undo [(vR x0)] σ K := Runs.of (by decide) rfl (Nat.le_of_ble_eq_true rfl) (vX9_undo_0 gk h)
theorem vX9_save_0 {G : GG} (gk : GOK G) {σ : Mm} {K : RES → Mm → Prop} {x0 : Option Nat}
    (h : ∃ a1, x0 = some a1 ∧ (mt σ a1).1 = 10 ∧ ∀ σ3, σ3 = si σ a1 6 (0 : Int32) → ∃ a4, mr σ3 a1 0 = some a4 ∧ ∃ n6, mt σ a4 = (50, n6) ∧ ∃ a7, mr σ3 a1 2 = some a7 ∧ ∃ n9, mt σ a7 = (50, n9) ∧ ((¬ (0 : Int32) < 0 ∧ ¬ (0 : Int32) < 0 ∧ ¬ (858 : Int32) < 0) ∧ (0 : Int32).toNatClampNeg + (858 : Int32).toNatClampNeg ≤ n6 ∧ (0 : Int32).toNatClampNeg + (858 : Int32).toNatClampNeg ≤ n9) ∧ ∀ σ11, σ11 = cpI σ3 a4 (0 : Int32).toNatClampNeg a7 (0 : Int32).toNatClampNeg (858 : Int32).toNatClampNeg → ∀ σ12, σ12 = si σ11 a1 3 (1 : Int32) → Runs G mX9_jars rX9_jars [(vR x0)] σ12 (bk G mX9_save rX9_save 0 0 30 [some (vR x0)] [] K)) : At G mX9_save rX9_save 0 0 0 [some (vR x0)] [] σ K := by
  refine s_aload_n (i := 0) dX9_save_0 rfl rfl ?_
  refine s_iconst (v := 0) dX9_save_1 (by decide) ?_
  obtain ⟨a1, ea1, h⟩ := h
  obtain ⟨t2, h⟩ := h
  refine t_putI gk dX9_save_2 fX9_39 rfl rfl ea1 t2 ⟨rfl, rfl⟩ (fun σ3 eσ3 mσ3 => ?_)
  replace h := h σ3 eσ3
  refine s_aload_n (i := 0) dX9_save_5 rfl rfl ?_
  refine t_getR gk dX9_save_6 fX9_9 rfl ea1 (by rw [mσ3]; exact t2) ?_
  refine s_iconst (v := 0) dX9_save_9 (by decide) ?_
  refine s_aload_n (i := 0) dX9_save_10 rfl rfl ?_
  refine t_getR gk dX9_save_11 fX9_16 rfl ea1 (by rw [mσ3]; exact t2) ?_
  refine s_iconst (v := 0) dX9_save_14 (by decide) ?_
  refine s_sipush (v := 858) dX9_save_15 (by decide) ?_
  obtain ⟨a4, ea4, h⟩ := h
  obtain ⟨n6, t5, h⟩ := h
  obtain ⟨a7, ea7, h⟩ := h
  obtain ⟨n9, t8, h⟩ := h
  obtain ⟨c10, h⟩ := h
  refine t_copy gk dX9_save_18 w_1602 w_1131 w_1130 w_23 ea4 (by rw [mσ3]; exact t5) ea7 (by rw [mσ3]; exact t8) c10 rfl (by decide) (by decide) (fun σ11 eσ11 mσ11 => ?_)
  replace h := h σ11 eσ11
  refine s_aload_n (i := 0) dX9_save_21 rfl rfl ?_
  refine s_iconst (v := 1) dX9_save_22 (by decide) ?_
  refine t_putI gk dX9_save_23 fX9_239 rfl rfl ea1 (by rw [mσ11, mσ3]; exact t2) ⟨rfl, rfl⟩ (fun σ12 eσ12 mσ12 => ?_)
  replace h := h σ12 eσ12
  refine s_aload_n (i := 0) dX9_save_26 rfl rfl ?_
  exact t_callV (ci := 9) (as := []) (S := []) gk dX9_save_27 gX9_95 (by decide) rfl w_1619 wp_11 ea1 (by rw [mσ12, mσ11, mσ3]; exact t2) rfl rfl (Nat.le_of_ble_eq_true rfl) (by decide) h
theorem eX9_save {G : GG} (gk : GOK G) {σ : Mm} {K : RES → Mm → Prop} {x0 : Option Nat}
    (h : ∃ a1, x0 = some a1 ∧ (mt σ a1).1 = 10 ∧ ∀ σ3, σ3 = si σ a1 6 (0 : Int32) → ∃ a4, mr σ3 a1 0 = some a4 ∧ ∃ n6, mt σ a4 = (50, n6) ∧ ∃ a7, mr σ3 a1 2 = some a7 ∧ ∃ n9, mt σ a7 = (50, n9) ∧ ((¬ (0 : Int32) < 0 ∧ ¬ (0 : Int32) < 0 ∧ ¬ (858 : Int32) < 0) ∧ (0 : Int32).toNatClampNeg + (858 : Int32).toNatClampNeg ≤ n6 ∧ (0 : Int32).toNatClampNeg + (858 : Int32).toNatClampNeg ≤ n9) ∧ ∀ σ11, σ11 = cpI σ3 a4 (0 : Int32).toNatClampNeg a7 (0 : Int32).toNatClampNeg (858 : Int32).toNatClampNeg → ∀ σ12, σ12 = si σ11 a1 3 (1 : Int32) → Runs G mX9_jars rX9_jars [(vR x0)] σ12 (bk G mX9_save rX9_save 0 0 30 [some (vR x0)] [] K)) : Runs G mX9_save rX9_save [(vR x0)] σ K := Runs.of (by decide) rfl (Nat.le_of_ble_eq_true rfl) (vX9_save_0 gk h)
theorem vX9_save_30 {G : GG} (gk : GOK G) {σ : Mm} {K : RES → Mm → Prop} {x0 : Option Nat} {s0 : Int32}
    (h : K (.inl (some (vI s0))) σ) : At G mX9_save rX9_save 0 0 30 [some (vR x0)] [(vI s0)] σ K := by
  exact s_ireturn dX9_save_30 rfl rfl (by decide) (by decide) h
theorem vX9_restore_0 {G : GG} (gk : GOK G) {σ : Mm} {K : RES → Mm → Prop} {x0 : Option Nat}
    (h : ∃ a1, x0 = some a1 ∧ (mt σ a1).1 = 10 ∧ (((mi σ a1 3) = 0 → ∀ σ4, σ4 = si σ a1 6 (1 : Int32) → (((mi σ4 a1 6) ≤ 0 → ∃ a6, mr σ4 a1 2 = some a6 ∧ ∃ n8, mt σ a6 = (50, n8) ∧ ∃ a9, mr σ4 a1 0 = some a9 ∧ ∃ n11, mt σ a9 = (50, n11) ∧ ((¬ (0 : Int32) < 0 ∧ ¬ (0 : Int32) < 0 ∧ ¬ (858 : Int32) < 0) ∧ (0 : Int32).toNatClampNeg + (858 : Int32).toNatClampNeg ≤ n8 ∧ (0 : Int32).toNatClampNeg + (858 : Int32).toNatClampNeg ≤ n11) ∧ ∀ σ13, σ13 = cpI σ4 a6 (0 : Int32).toNatClampNeg a9 (0 : Int32).toNatClampNeg (858 : Int32).toNatClampNeg → ∀ σ14, σ14 = si σ13 a1 5 (0 : Int32) → Runs G mX9_jars rX9_jars [(vR x0)] σ14 (bk G mX9_restore rX9_restore 0 0 50 [some (vR x0)] [] K)) ∧ (¬ (mi σ4 a1 6) ≤ 0 → K (.inl (some (vI (0 : Int32)))) σ4))) ∧ (¬ (mi σ a1 3) = 0 → ∀ σ15, σ15 = si σ a1 6 (0 : Int32) → (((mi σ15 a1 6) ≤ 0 → ∃ a17, mr σ15 a1 2 = some a17 ∧ ∃ n19, mt σ a17 = (50, n19) ∧ ∃ a20, mr σ15 a1 0 = some a20 ∧ ∃ n22, mt σ a20 = (50, n22) ∧ ((¬ (0 : Int32) < 0 ∧ ¬ (0 : Int32) < 0 ∧ ¬ (858 : Int32) < 0) ∧ (0 : Int32).toNatClampNeg + (858 : Int32).toNatClampNeg ≤ n19 ∧ (0 : Int32).toNatClampNeg + (858 : Int32).toNatClampNeg ≤ n22) ∧ ∀ σ24, σ24 = cpI σ15 a17 (0 : Int32).toNatClampNeg a20 (0 : Int32).toNatClampNeg (858 : Int32).toNatClampNeg → ∀ σ25, σ25 = si σ24 a1 5 (0 : Int32) → Runs G mX9_jars rX9_jars [(vR x0)] σ25 (bk G mX9_restore rX9_restore 0 0 50 [some (vR x0)] [] K)) ∧ (¬ (mi σ15 a1 6) ≤ 0 → K (.inl (some (vI (0 : Int32)))) σ15))))) : At G mX9_restore rX9_restore 0 0 0 [some (vR x0)] [] σ K := by
  refine s_aload_n (i := 0) dX9_restore_0 rfl rfl ?_
  refine s_aload_n (i := 0) dX9_restore_1 rfl rfl ?_
  obtain ⟨a1, ea1, h⟩ := h
  obtain ⟨t2, h⟩ := h
  refine t_getI gk dX9_restore_2 fX9_239 rfl ea1 t2 ?_
  refine s_if_eq (tgt := 12) dX9_restore_5 (by decide) (fun q3 => ?_) (fun q3 => ?_)
  · have h := h.1 q3
    refine s_iconst (v := 1) dX9_restore_12 (by decide) ?_
    refine t_putI gk dX9_restore_13 fX9_39 rfl rfl ea1 t2 ⟨rfl, rfl⟩ (fun σ4 eσ4 mσ4 => ?_)
    replace h := h σ4 eσ4
    refine s_aload_n (i := 0) dX9_restore_16 rfl rfl ?_
    refine t_getI gk dX9_restore_17 fX9_39 rfl ea1 (by rw [mσ4]; exact t2) ?_
    refine s_if_le (tgt := 25) dX9_restore_20 (by decide) (fun q5 => ?_) (fun q5 => ?_)
    · have h := h.1 q5
      refine s_aload_n (i := 0) dX9_restore_25 rfl rfl ?_
      refine t_getR gk dX9_restore_26 fX9_16 rfl ea1 (by rw [mσ4]; exact t2) ?_
      refine s_iconst (v := 0) dX9_restore_29 (by decide) ?_
      refine s_aload_n (i := 0) dX9_restore_30 rfl rfl ?_
      refine t_getR gk dX9_restore_31 fX9_9 rfl ea1 (by rw [mσ4]; exact t2) ?_
      refine s_iconst (v := 0) dX9_restore_34 (by decide) ?_
      refine s_sipush (v := 858) dX9_restore_35 (by decide) ?_
      obtain ⟨a6, ea6, h⟩ := h
      obtain ⟨n8, t7, h⟩ := h
      obtain ⟨a9, ea9, h⟩ := h
      obtain ⟨n11, t10, h⟩ := h
      obtain ⟨c12, h⟩ := h
      refine t_copy gk dX9_restore_38 w_1602 w_1131 w_1130 w_23 ea6 (by rw [mσ4]; exact t7) ea9 (by rw [mσ4]; exact t10) c12 rfl (by decide) (by decide) (fun σ13 eσ13 mσ13 => ?_)
      replace h := h σ13 eσ13
      refine s_aload_n (i := 0) dX9_restore_41 rfl rfl ?_
      refine s_iconst (v := 0) dX9_restore_42 (by decide) ?_
      refine t_putI gk dX9_restore_43 fX9_48 rfl rfl ea1 (by rw [mσ13, mσ4]; exact t2) ⟨rfl, rfl⟩ (fun σ14 eσ14 mσ14 => ?_)
      replace h := h σ14 eσ14
      refine s_aload_n (i := 0) dX9_restore_46 rfl rfl ?_
      exact t_callV (ci := 9) (as := []) (S := []) gk dX9_restore_47 gX9_95 (by decide) rfl w_1619 wp_11 ea1 (by rw [mσ14, mσ13, mσ4]; exact t2) rfl rfl (Nat.le_of_ble_eq_true rfl) (by decide) h
    · have h := h.2 q5
      refine s_iconst (v := 0) dX9_restore_23 (by decide) ?_
      exact s_ireturn dX9_restore_24 rfl rfl (by decide) (by decide) h
  · have h := h.2 q3
    refine s_iconst (v := 0) dX9_restore_8 (by decide) ?_
    refine s_goto (tgt := 13) dX9_restore_9 (by decide) ?_
    refine t_putI gk dX9_restore_13 fX9_39 rfl rfl ea1 t2 ⟨rfl, rfl⟩ (fun σ15 eσ15 mσ15 => ?_)
    replace h := h σ15 eσ15
    refine s_aload_n (i := 0) dX9_restore_16 rfl rfl ?_
    refine t_getI gk dX9_restore_17 fX9_39 rfl ea1 (by rw [mσ15]; exact t2) ?_
    refine s_if_le (tgt := 25) dX9_restore_20 (by decide) (fun q16 => ?_) (fun q16 => ?_)
    · have h := h.1 q16
      refine s_aload_n (i := 0) dX9_restore_25 rfl rfl ?_
      refine t_getR gk dX9_restore_26 fX9_16 rfl ea1 (by rw [mσ15]; exact t2) ?_
      refine s_iconst (v := 0) dX9_restore_29 (by decide) ?_
      refine s_aload_n (i := 0) dX9_restore_30 rfl rfl ?_
      refine t_getR gk dX9_restore_31 fX9_9 rfl ea1 (by rw [mσ15]; exact t2) ?_
      refine s_iconst (v := 0) dX9_restore_34 (by decide) ?_
      refine s_sipush (v := 858) dX9_restore_35 (by decide) ?_
      obtain ⟨a17, ea17, h⟩ := h
      obtain ⟨n19, t18, h⟩ := h
      obtain ⟨a20, ea20, h⟩ := h
      obtain ⟨n22, t21, h⟩ := h
      obtain ⟨c23, h⟩ := h
      refine t_copy gk dX9_restore_38 w_1602 w_1131 w_1130 w_23 ea17 (by rw [mσ15]; exact t18) ea20 (by rw [mσ15]; exact t21) c23 rfl (by decide) (by decide) (fun σ24 eσ24 mσ24 => ?_)
      replace h := h σ24 eσ24
      refine s_aload_n (i := 0) dX9_restore_41 rfl rfl ?_
      refine s_iconst (v := 0) dX9_restore_42 (by decide) ?_
      refine t_putI gk dX9_restore_43 fX9_48 rfl rfl ea1 (by rw [mσ24, mσ15]; exact t2) ⟨rfl, rfl⟩ (fun σ25 eσ25 mσ25 => ?_)
      replace h := h σ25 eσ25
      refine s_aload_n (i := 0) dX9_restore_46 rfl rfl ?_
      exact t_callV (ci := 9) (as := []) (S := []) gk dX9_restore_47 gX9_95 (by decide) rfl w_1619 wp_11 ea1 (by rw [mσ25, mσ24, mσ15]; exact t2) rfl rfl (Nat.le_of_ble_eq_true rfl) (by decide) h
    · have h := h.2 q16
      refine s_iconst (v := 0) dX9_restore_23 (by decide) ?_
      exact s_ireturn dX9_restore_24 rfl rfl (by decide) (by decide) h
theorem eX9_restore {G : GG} (gk : GOK G) {σ : Mm} {K : RES → Mm → Prop} {x0 : Option Nat}
    (h : ∃ a1, x0 = some a1 ∧ (mt σ a1).1 = 10 ∧ (((mi σ a1 3) = 0 → ∀ σ4, σ4 = si σ a1 6 (1 : Int32) → (((mi σ4 a1 6) ≤ 0 → ∃ a6, mr σ4 a1 2 = some a6 ∧ ∃ n8, mt σ a6 = (50, n8) ∧ ∃ a9, mr σ4 a1 0 = some a9 ∧ ∃ n11, mt σ a9 = (50, n11) ∧ ((¬ (0 : Int32) < 0 ∧ ¬ (0 : Int32) < 0 ∧ ¬ (858 : Int32) < 0) ∧ (0 : Int32).toNatClampNeg + (858 : Int32).toNatClampNeg ≤ n8 ∧ (0 : Int32).toNatClampNeg + (858 : Int32).toNatClampNeg ≤ n11) ∧ ∀ σ13, σ13 = cpI σ4 a6 (0 : Int32).toNatClampNeg a9 (0 : Int32).toNatClampNeg (858 : Int32).toNatClampNeg → ∀ σ14, σ14 = si σ13 a1 5 (0 : Int32) → Runs G mX9_jars rX9_jars [(vR x0)] σ14 (bk G mX9_restore rX9_restore 0 0 50 [some (vR x0)] [] K)) ∧ (¬ (mi σ4 a1 6) ≤ 0 → K (.inl (some (vI (0 : Int32)))) σ4))) ∧ (¬ (mi σ a1 3) = 0 → ∀ σ15, σ15 = si σ a1 6 (0 : Int32) → (((mi σ15 a1 6) ≤ 0 → ∃ a17, mr σ15 a1 2 = some a17 ∧ ∃ n19, mt σ a17 = (50, n19) ∧ ∃ a20, mr σ15 a1 0 = some a20 ∧ ∃ n22, mt σ a20 = (50, n22) ∧ ((¬ (0 : Int32) < 0 ∧ ¬ (0 : Int32) < 0 ∧ ¬ (858 : Int32) < 0) ∧ (0 : Int32).toNatClampNeg + (858 : Int32).toNatClampNeg ≤ n19 ∧ (0 : Int32).toNatClampNeg + (858 : Int32).toNatClampNeg ≤ n22) ∧ ∀ σ24, σ24 = cpI σ15 a17 (0 : Int32).toNatClampNeg a20 (0 : Int32).toNatClampNeg (858 : Int32).toNatClampNeg → ∀ σ25, σ25 = si σ24 a1 5 (0 : Int32) → Runs G mX9_jars rX9_jars [(vR x0)] σ25 (bk G mX9_restore rX9_restore 0 0 50 [some (vR x0)] [] K)) ∧ (¬ (mi σ15 a1 6) ≤ 0 → K (.inl (some (vI (0 : Int32)))) σ15))))) : Runs G mX9_restore rX9_restore [(vR x0)] σ K := Runs.of (by decide) rfl (Nat.le_of_ble_eq_true rfl) (vX9_restore_0 gk h)
theorem vX9_restore_50 {G : GG} (gk : GOK G) {σ : Mm} {K : RES → Mm → Prop} {x0 : Option Nat} {s0 : Int32}
    (h : K (.inl (some (vI s0))) σ) : At G mX9_restore rX9_restore 0 0 50 [some (vR x0)] [(vI s0)] σ K := by
  exact s_ireturn dX9_restore_50 rfl rfl (by decide) (by decide) h
