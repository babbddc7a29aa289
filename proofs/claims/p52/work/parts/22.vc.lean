theorem vX8_init_0 {G : GG} (gk : GOK G) {σ : Mm} {K : RES → Mm → Prop} {x0 : Option Nat}
    (h : ∃ a1, x0 = some a1 ∧ ∀ σ2, σ2 = nw σ (7, 0) → ∃ K3 : RES → Mm → Prop, Runs G mX6_init rX6_init [(vR (some (mz σ)))] σ2 K3 ∧ (∀ E t, ¬ K3 (.inr E) t) ∧ (∀ v t, K3 (.inl v) t → At G mX8_init rX8_init (70) (451) 12 [some (vR x0)] (v.toList ++ [(vR (some (mz σ))), (vR x0)]) t K)) : At G mX8_init rX8_init 0 0 0 [some (vR x0)] [] σ K := by
  refine s_aload_n (i := 0) dX8_init_0 rfl rfl ?_
  obtain ⟨a1, ea1, h⟩ := h
  refine t_objInit gk dX8_init_1 w_40 (by decide) (by decide) ea1 ?_
  refine s_aload_n (i := 0) dX8_init_4 rfl rfl ?_
  refine t_new gk dX8_init_5 nX8_7 (by decide) (by decide) (fun σ2 eσ2 => ?_)
  replace h := h σ2 eσ2
  refine s_dup dX8_init_8 rfl ?_
  obtain ⟨K3, h1, h2, h3⟩ := h
  exact s_callI (a := mz σ) (as := []) (S := [(vR (some (mz σ))), (vR x0)]) gk dX8_init_9 gX8_9 w_46 rfl rfl rfl rfl (Nat.le_of_ble_eq_true rfl) ⟨by decide, by decide, (by decide), (by decide)⟩ h1 h2 h3
theorem eX8_init {G : GG} (gk : GOK G) {σ : Mm} {K : RES → Mm → Prop} {x0 : Option Nat}
    (h : ∃ a1, x0 = some a1 ∧ ∀ σ2, σ2 = nw σ (7, 0) → ∃ K3 : RES → Mm → Prop, Runs G mX6_init rX6_init [(vR (some (mz σ)))] σ2 K3 ∧ (∀ E t, ¬ K3 (.inr E) t) ∧ (∀ v t, K3 (.inl v) t → At G mX8_init rX8_init (70) (451) 12 [some (vR x0)] (v.toList ++ [(vR (some (mz σ))), (vR x0)]) t K)) : Runs G mX8_init rX8_init [(vR x0)] σ K := Runs.of (by decide) rfl (Nat.le_of_ble_eq_true rfl) (vX8_init_0 gk h)
theorem vX8_init_12 {G : GG} (gk : GOK G) {σ : Mm} {K : RES → Mm → Prop} {x0 : Option Nat} {s0 : Option Nat} {s1 : Option Nat}
    (h : ∃ a1, s1 = some a1 ∧ (mt σ a1).1 = 9 ∧ ∀ σ3, σ3 = sr σ a1 0 s0 → ∀ σ4, σ4 = nw σ3 (4, 0) → ∃ K5 : RES → Mm → Prop, Runs G mX3_init rX3_init [(vR (some (mz σ3)))] σ4 K5 ∧ (∀ E t, ¬ K5 (.inr E) t) ∧ (∀ v t, K5 (.inl v) t → At G mX8_init rX8_init (702) (4522) 23 [some (vR x0)] (v.toList ++ [(vR (some (mz σ3))), (vR x0)]) t K)) : At G mX8_init rX8_init 70 451 12 [some (vR x0)] [(vR s0), (vR s1)] σ K := by
  obtain ⟨a1, ea1, h⟩ := h
  obtain ⟨t2, h⟩ := h
  refine t_putR gk dX8_init_12 fX8_10 (Or.inr ⟨rfl, rfl, rfl⟩) rfl ea1 t2 (nf_rf rfl) (fun σ3 eσ3 mσ3 => ?_)
  replace h := h σ3 eσ3
  refine s_aload_n (i := 0) dX8_init_15 rfl rfl ?_
  refine t_new gk dX8_init_16 nX8_16 (by decide) (by decide) (fun σ4 eσ4 => ?_)
  replace h := h σ4 eσ4
  refine s_dup dX8_init_19 rfl ?_
  obtain ⟨K5, h1, h2, h3⟩ := h
  exact s_callI (a := mz σ3) (as := []) (S := [(vR (some (mz σ3))), (vR x0)]) gk dX8_init_20 gX8_18 w_227 rfl rfl rfl rfl (Nat.le_of_ble_eq_true rfl) ⟨by decide, by decide, (by decide), (by decide)⟩ h1 h2 h3
theorem vX8_init_23 {G : GG} (gk : GOK G) {σ : Mm} {K : RES → Mm → Prop} {x0 : Option Nat} {s0 : Option Nat} {s1 : Option Nat}
    (h : ∃ a1, s1 = some a1 ∧ (mt σ a1).1 = 9 ∧ ∀ σ3, σ3 = sr σ a1 1 s0 → ∀ σ4, σ4 = nw σ3 (7, 0) → ∃ K5 : RES → Mm → Prop, Runs G mX6_init rX6_init [(vR (some (mz σ3)))] σ4 K5 ∧ (∀ E t, ¬ K5 (.inr E) t) ∧ (∀ v t, K5 (.inl v) t → At G mX8_init rX8_init (772) (4973) 34 [some (vR x0)] (v.toList ++ [(vR (some (mz σ3))), (vR x0)]) t K)) : At G mX8_init rX8_init 702 4522 23 [some (vR x0)] [(vR s0), (vR s1)] σ K := by
  obtain ⟨a1, ea1, h⟩ := h
  obtain ⟨t2, h⟩ := h
  refine t_putR gk dX8_init_23 fX8_19 (Or.inr ⟨rfl, rfl, rfl⟩) rfl ea1 t2 (nf_rf rfl) (fun σ3 eσ3 mσ3 => ?_)
  replace h := h σ3 eσ3
  refine s_aload_n (i := 0) dX8_init_26 rfl rfl ?_
  refine t_new gk dX8_init_27 nX8_7 (by decide) (by decide) (fun σ4 eσ4 => ?_)
  replace h := h σ4 eσ4
  refine s_dup dX8_init_30 rfl ?_
  obtain ⟨K5, h1, h2, h3⟩ := h
  exact s_callI (a := mz σ3) (as := []) (S := [(vR (some (mz σ3))), (vR x0)]) gk dX8_init_31 gX8_9 w_46 rfl rfl rfl rfl (Nat.le_of_ble_eq_true rfl) ⟨by decide, by decide, (by decide), (by decide)⟩ h1 h2 h3
theorem vX8_init_34 {G : GG} (gk : GOK G) {σ : Mm} {K : RES → Mm → Prop} {x0 : Option Nat} {s0 : Option Nat} {s1 : Option Nat}
    (h : ∃ a1, s1 = some a1 ∧ (mt σ a1).1 = 9 ∧ ∀ σ3, σ3 = sr σ a1 2 s0 → ∃ a4, x0 = some a4 ∧ (mt σ a4).1 = 9 ∧ ∀ σ6, σ6 = si σ3 a4 3 (0 : Int32) → ∀ σ7, σ7 = nw σ6 (2, 0) → ∃ K8 : RES → Mm → Prop, Runs G mX1_init rX1_init [(vR (some (mz σ6)))] σ7 K8 ∧ (∀ E t, ¬ K8 (.inr E) t) ∧ (∀ v t, K8 (.inl v) t → At G mX8_init rX8_init (785) (5098) 50 [some (vR x0)] (v.toList ++ [(vR (some (mz σ6))), (vR x0)]) t K)) : At G mX8_init rX8_init 772 4973 34 [some (vR x0)] [(vR s0), (vR s1)] σ K := by
  obtain ⟨a1, ea1, h⟩ := h
  obtain ⟨t2, h⟩ := h
  refine t_putR gk dX8_init_34 fX8_23 (Or.inr ⟨rfl, rfl, rfl⟩) rfl ea1 t2 (nf_rf rfl) (fun σ3 eσ3 mσ3 => ?_)
  replace h := h σ3 eσ3
  refine s_aload_n (i := 0) dX8_init_37 rfl rfl ?_
  refine s_iconst (v := 0) dX8_init_38 (by decide) ?_
  obtain ⟨a4, ea4, h⟩ := h
  obtain ⟨t5, h⟩ := h
  refine t_putI gk dX8_init_39 fX8_26 rfl rfl ea4 (by rw [mσ3]; exact t5) ⟨rfl, rfl⟩ (fun σ6 eσ6 mσ6 => ?_)
  replace h := h σ6 eσ6
  refine s_aload_n (i := 0) dX8_init_42 rfl rfl ?_
  refine t_new gk dX8_init_43 nX8_30 (by decide) (by decide) (fun σ7 eσ7 => ?_)
  replace h := h σ7 eσ7
  refine s_dup dX8_init_46 rfl ?_
  obtain ⟨K8, h1, h2, h3⟩ := h
  exact s_callI (a := mz σ6) (as := []) (S := [(vR (some (mz σ6))), (vR x0)]) gk dX8_init_47 gX8_32 w_247 rfl rfl rfl rfl (Nat.le_of_ble_eq_true rfl) ⟨by decide, by decide, (by decide), (by decide)⟩ h1 h2 h3
theorem vX8_init_50 {G : GG} (gk : GOK G) {σ : Mm} {K : RES → Mm → Prop} {x0 : Option Nat} {s0 : Option Nat} {s1 : Option Nat}
    (h : ∃ a1, s1 = some a1 ∧ (mt σ a1).1 = 9 ∧ ∀ σ3, σ3 = sr σ a1 4 s0 → ∃ a4, x0 = some a4 ∧ (mt σ a4).1 = 9 ∧ ∀ σ6, σ6 = si σ3 a4 5 (-1 : Int32) → ∀ σ7, σ7 = si σ6 a4 6 (-1 : Int32) → ∀ σ8, σ8 = nw σ7 (11, 0) → ∃ K9 : RES → Mm → Prop, Runs G mJ4_init_da8c8 rJ4_init_da8c8 [(vR (some (mz σ7)))] σ8 K9 ∧ (∀ E t, ¬ K9 (.inr E) t) ∧ (∀ v t, K9 (.inl v) t → At G mX8_init rX8_init (787) (5118) 71 [some (vR x0)] (v.toList ++ [(vR (some (mz σ7))), (vR x0)]) t K)) : At G mX8_init rX8_init 785 5098 50 [some (vR x0)] [(vR s0), (vR s1)] σ K := by
  obtain ⟨a1, ea1, h⟩ := h
  obtain ⟨t2, h⟩ := h
  refine t_putR gk dX8_init_50 fX8_33 (Or.inr ⟨rfl, rfl, rfl⟩) rfl ea1 t2 (nf_rf rfl) (fun σ3 eσ3 mσ3 => ?_)
  replace h := h σ3 eσ3
  refine s_aload_n (i := 0) dX8_init_53 rfl rfl ?_
  refine s_iconst (v := -1) dX8_init_54 (by decide) ?_
  obtain ⟨a4, ea4, h⟩ := h
  obtain ⟨t5, h⟩ := h
  refine t_putI gk dX8_init_55 fX8_37 rfl rfl ea4 (by rw [mσ3]; exact t5) ⟨rfl, rfl⟩ (fun σ6 eσ6 mσ6 => ?_)
  replace h := h σ6 eσ6
  refine s_aload_n (i := 0) dX8_init_58 rfl rfl ?_
  refine s_iconst (v := -1) dX8_init_59 (by decide) ?_
  refine t_putI gk dX8_init_60 fX8_41 rfl rfl ea4 (by rw [mσ6, mσ3]; exact t5) ⟨rfl, rfl⟩ (fun σ7 eσ7 mσ7 => ?_)
  replace h := h σ7 eσ7
  refine s_aload_n (i := 0) dX8_init_63 rfl rfl ?_
  refine t_new gk dX8_init_64 nX8_44 (by decide) (by decide) (fun σ8 eσ8 => ?_)
  replace h := h σ8 eσ8
  refine s_dup dX8_init_67 rfl ?_
  obtain ⟨K9, h1, h2, h3⟩ := h
  exact s_callI (a := mz σ7) (as := []) (S := [(vR (some (mz σ7))), (vR x0)]) gk dX8_init_68 gX8_46 w_306 rfl rfl rfl rfl (Nat.le_of_ble_eq_true rfl) ⟨by decide, by decide, (by decide), (by decide)⟩ h1 h2 h3
theorem vX8_init_71 {G : GG} (gk : GOK G) {σ : Mm} {K : RES → Mm → Prop} {x0 : Option Nat} {s0 : Option Nat} {s1 : Option Nat}
    (h : ∃ a1, s1 = some a1 ∧ (mt σ a1).1 = 9 ∧ ∀ σ3, σ3 = sr σ a1 7 s0 → K (.inl none) σ3) : At G mX8_init rX8_init 787 5118 71 [some (vR x0)] [(vR s0), (vR s1)] σ K := by
  obtain ⟨a1, ea1, h⟩ := h
  obtain ⟨t2, h⟩ := h
  refine t_putR gk dX8_init_71 fX8_47 (Or.inr ⟨rfl, rfl, rfl⟩) rfl ea1 t2 (nf_rf rfl) (fun σ3 eσ3 mσ3 => ?_)
  replace h := h σ3 eσ3
  exact s_return dX8_init_74 rfl (by decide) (by decide) h
theorem vX8_addJar_0 {G : GG} (gk : GOK G) {σ : Mm} {K : RES → Mm → Prop} {x0 : Option Nat} {x1 : Int32} {x2 : Int32}
    (h : ∃ a1, x0 = some a1 ∧ (mt σ a1).1 = 9 ∧ ∃ a3, mr σ a1 0 = some a3 ∧ (mt σ a3).1 = 7 ∧ Runs G mX6_newJarFault rX6_newJarFault [(vR (mr σ a1 0)), (vI x1), (vI x2)] σ (bk G mX8_addJar rX8_addJar 0 0 9 [some (vR x0), some (vI x1), some (vI x2)] [] K)) : At G mX8_addJar rX8_addJar 0 0 0 [some (vR x0), some (vI x1), some (vI x2)] [] σ K := by
  refine s_aload_n (i := 0) dX8_addJar_0 rfl rfl ?_
  obtain ⟨a1, ea1, h⟩ := h
  obtain ⟨t2, h⟩ := h
  refine t_getR gk dX8_addJar_1 fX8_10 rfl ea1 t2 ?_
  refine s_iload_n (i := 1) dX8_addJar_4 rfl rfl ?_
  refine s_iload_n (i := 2) dX8_addJar_5 rfl rfl ?_
  obtain ⟨a3, ea3, h⟩ := h
  obtain ⟨t4, h⟩ := h
  exact t_callV (ci := 6) (as := [(vI x1), (vI x2)]) (S := []) gk dX8_addJar_6 gX8_51 (by decide) rfl w_375 w_376 ea3 t4 rfl rfl (Nat.le_of_ble_eq_true rfl) (by decide) h
theorem eX8_addJar {G : GG} (gk : GOK G) {σ : Mm} {K : RES → Mm → Prop} {x0 : Option Nat} {x1 : Int32} {x2 : Int32}
    (h : ∃ a1, x0 = some a1 ∧ (mt σ a1).1 = 9 ∧ ∃ a3, mr σ a1 0 = some a3 ∧ (mt σ a3).1 = 7 ∧ Runs G mX6_newJarFault rX6_newJarFault [(vR (mr σ a1 0)), (vI x1), (vI x2)] σ (bk G mX8_addJar rX8_addJar 0 0 9 [some (vR x0), some (vI x1), some (vI x2)] [] K)) : Runs G mX8_addJar rX8_addJar [(vR x0), (vI x1), (vI x2)] σ K := Runs.of (by decide) rfl (Nat.le_of_ble_eq_true rfl) (vX8_addJar_0 gk h)
theorem vX8_addJar_9 {G : GG} (gk : GOK G) {σ : Mm} {K : RES → Mm → Prop} {x0 : Option Nat} {x1 : Int32} {x2 : Int32} {s0 : Int32}
    (h : Runs G mX8_refuse rX8_refuse [(vI s0)] σ (bk G mX8_addJar rX8_addJar 1 6 12 [some (vR x0), some (vI x1), some (vI x2)] [] K)) : At G mX8_addJar rX8_addJar 0 0 9 [some (vR x0), some (vI x1), some (vI x2)] [(vI s0)] σ K := by
  exact s_callS (as := [(vI s0)]) (S := []) gk dX8_addJar_9 gX8_55 w_391 rfl rfl (Nat.le_of_ble_eq_true rfl) (by decide) h
theorem vX8_addJar_12 {G : GG} (gk : GOK G) {σ : Mm} {K : RES → Mm → Prop} {x0 : Option Nat} {x1 : Int32} {x2 : Int32}
    (h : ∃ a1, x0 = some a1 ∧ (mt σ a1).1 = 9 ∧ ∃ a3, mr σ a1 1 = some a3 ∧ (mt σ a3).1 = 4 ∧ Runs G mX3_note rX3_note [(vR (mr σ a1 1)), (vR (mr σ a1 0))] σ (bk G mX8_addJar rX8_addJar 1 6 23 [some (vR x0), some (vI x1), some (vI x2)] [] K)) : At G mX8_addJar rX8_addJar 1 6 12 [some (vR x0), some (vI x1), some (vI x2)] [] σ K := by
  refine s_aload_n (i := 0) dX8_addJar_12 rfl rfl ?_
  obtain ⟨a1, ea1, h⟩ := h
  obtain ⟨t2, h⟩ := h
  refine t_getR gk dX8_addJar_13 fX8_19 rfl ea1 t2 ?_
  refine s_aload_n (i := 0) dX8_addJar_16 rfl rfl ?_
  refine t_getR gk dX8_addJar_17 fX8_10 rfl ea1 t2 ?_
  obtain ⟨a3, ea3, h⟩ := h
  obtain ⟨t4, h⟩ := h
  exact t_callV (ci := 3) (as := [(vR (mr σ a1 0))]) (S := []) gk dX8_addJar_20 gX8_59 (by decide) rfl w_513 w_514 ea3 t4 rfl rfl (Nat.le_of_ble_eq_true rfl) (by decide) h
theorem vX8_addJar_23 {G : GG} (gk : GOK G) {σ : Mm} {K : RES → Mm → Prop} {x0 : Option Nat} {x1 : Int32} {x2 : Int32}
    (h : ∃ a1, x0 = some a1 ∧ (mt σ a1).1 = 9 ∧ ∃ a3, mr σ a1 0 = some a3 ∧ (mt σ a3).1 = 7 ∧ Runs G mX6_putJar rX6_putJar [(vR (mr σ a1 0)), (vI x1), (vI x2)] σ (bk G mX8_addJar rX8_addJar 1 6 32 [some (vR x0), some (vI x1), some (vI x2)] [] K)) : At G mX8_addJar rX8_addJar 1 6 23 [some (vR x0), some (vI x1), some (vI x2)] [] σ K := by
  refine s_aload_n (i := 0) dX8_addJar_23 rfl rfl ?_
  obtain ⟨a1, ea1, h⟩ := h
  obtain ⟨t2, h⟩ := h
  refine t_getR gk dX8_addJar_24 fX8_10 rfl ea1 t2 ?_
  refine s_iload_n (i := 1) dX8_addJar_27 rfl rfl ?_
  refine s_iload_n (i := 2) dX8_addJar_28 rfl rfl ?_
  obtain ⟨a3, ea3, h⟩ := h
  obtain ⟨t4, h⟩ := h
  exact t_callV (ci := 6) (as := [(vI x1), (vI x2)]) (S := []) gk dX8_addJar_29 gX8_63 (by decide) rfl w_552 w_553 ea3 t4 rfl rfl (Nat.le_of_ble_eq_true rfl) (by decide) h
theorem vX8_addJar_32 {G : GG} (gk : GOK G) {σ : Mm} {K : RES → Mm → Prop} {x0 : Option Nat} {x1 : Int32} {x2 : Int32} {s0 : Int32}
    (h : K (.inl (some (vI s0))) σ) : At G mX8_addJar rX8_addJar 1 6 32 [some (vR x0), some (vI x1), some (vI x2)] [(vI s0)] σ K := by
  exact s_ireturn dX8_addJar_32 rfl rfl (by decide) (by decide) h
theorem vX8_removeJar_0 {G : GG} (gk : GOK G) {σ : Mm} {K : RES → Mm → Prop} {x0 : Option Nat} {x1 : Int32}
    (h : ∃ a1, x0 = some a1 ∧ (mt σ a1).1 = 9 ∧ ∃ a3, mr σ a1 0 = some a3 ∧ (mt σ a3).1 = 7 ∧ Runs G mX6_jarFault rX6_jarFault [(vR (mr σ a1 0)), (vI x1)] σ (bk G mX8_removeJar rX8_removeJar 0 0 8 [some (vR x0), some (vI x1)] [] K)) : At G mX8_removeJar rX8_removeJar 0 0 0 [some (vR x0), some (vI x1)] [] σ K := by
  refine s_aload_n (i := 0) dX8_removeJar_0 rfl rfl ?_
  obtain ⟨a1, ea1, h⟩ := h
  obtain ⟨t2, h⟩ := h
  refine t_getR gk dX8_removeJar_1 fX8_10 rfl ea1 t2 ?_
  refine s_iload_n (i := 1) dX8_removeJar_4 rfl rfl ?_
  obtain ⟨a3, ea3, h⟩ := h
  obtain ⟨t4, h⟩ := h
  exact t_callV (ci := 6) (as := [(vI x1)]) (S := []) gk dX8_removeJar_5 gX8_66 (by decide) rfl w_660 w_661 ea3 t4 rfl rfl (Nat.le_of_ble_eq_true rfl) (by decide) h
theorem eX8_removeJar {G : GG} (gk : GOK G) {σ : Mm} {K : RES → Mm → Prop} {x0 : Option Nat} {x1 : Int32}
    (h : ∃ a1, x0 = some a1 ∧ (mt σ a1).1 = 9 ∧ ∃ a3, mr σ a1 0 = some a3 ∧ (mt σ a3).1 = 7 ∧ Runs G mX6_jarFault rX6_jarFault [(vR (mr σ a1 0)), (vI x1)] σ (bk G mX8_removeJar rX8_removeJar 0 0 8 [some (vR x0), some (vI x1)] [] K)) : Runs G mX8_removeJar rX8_removeJar [(vR x0), (vI x1)] σ K := Runs.of (by decide) rfl (Nat.le_of_ble_eq_true rfl) (vX8_removeJar_0 gk h)
theorem vX8_removeJar_8 {G : GG} (gk : GOK G) {σ : Mm} {K : RES → Mm → Prop} {x0 : Option Nat} {x1 : Int32} {s0 : Int32}
    (h : Runs G mX8_refuse rX8_refuse [(vI s0)] σ (bk G mX8_removeJar rX8_removeJar 1 6 11 [some (vR x0), some (vI x1)] [] K)) : At G mX8_removeJar rX8_removeJar 0 0 8 [some (vR x0), some (vI x1)] [(vI s0)] σ K := by
  exact s_callS (as := [(vI s0)]) (S := []) gk dX8_removeJar_8 gX8_55 w_391 rfl rfl (Nat.le_of_ble_eq_true rfl) (by decide) h
theorem vX8_removeJar_11 {G : GG} (gk : GOK G) {σ : Mm} {K : RES → Mm → Prop} {x0 : Option Nat} {x1 : Int32}
    (h : ∃ a1, x0 = some a1 ∧ (mt σ a1).1 = 9 ∧ ∃ a3, mr σ a1 1 = some a3 ∧ (mt σ a3).1 = 4 ∧ Runs G mX3_note rX3_note [(vR (mr σ a1 1)), (vR (mr σ a1 0))] σ (bk G mX8_removeJar rX8_removeJar 1 6 22 [some (vR x0), some (vI x1)] [] K)) : At G mX8_removeJar rX8_removeJar 1 6 11 [some (vR x0), some (vI x1)] [] σ K := by
  refine s_aload_n (i := 0) dX8_removeJar_11 rfl rfl ?_
  obtain ⟨a1, ea1, h⟩ := h
  obtain ⟨t2, h⟩ := h
  refine t_getR gk dX8_removeJar_12 fX8_19 rfl ea1 t2 ?_
  refine s_aload_n (i := 0) dX8_removeJar_15 rfl rfl ?_
  refine t_getR gk dX8_removeJar_16 fX8_10 rfl ea1 t2 ?_
  obtain ⟨a3, ea3, h⟩ := h
  obtain ⟨t4, h⟩ := h
  exact t_callV (ci := 3) (as := [(vR (mr σ a1 0))]) (S := []) gk dX8_removeJar_19 gX8_59 (by decide) rfl w_513 w_514 ea3 t4 rfl rfl (Nat.le_of_ble_eq_true rfl) (by decide) h
theorem vX8_removeJar_22 {G : GG} (gk : GOK G) {σ : Mm} {K : RES → Mm → Prop} {x0 : Option Nat} {x1 : Int32}
    (h : ∃ a1, x0 = some a1 ∧ (mt σ a1).1 = 9 ∧ ∃ a3, mr σ a1 0 = some a3 ∧ (mt σ a3).1 = 7 ∧ Runs G mX6_dropJar rX6_dropJar [(vR (mr σ a1 0)), (vI x1)] σ (bk G mX8_removeJar rX8_removeJar 1 6 30 [some (vR x0), some (vI x1)] [] K)) : At G mX8_removeJar rX8_removeJar 1 6 22 [some (vR x0), some (vI x1)] [] σ K := by
  refine s_aload_n (i := 0) dX8_removeJar_22 rfl rfl ?_
  obtain ⟨a1, ea1, h⟩ := h
  obtain ⟨t2, h⟩ := h
  refine t_getR gk dX8_removeJar_23 fX8_10 rfl ea1 t2 ?_
  refine s_iload_n (i := 1) dX8_removeJar_26 rfl rfl ?_
  obtain ⟨a3, ea3, h⟩ := h
  obtain ⟨t4, h⟩ := h
  exact t_callV (ci := 6) (as := [(vI x1)]) (S := []) gk dX8_removeJar_27 gX8_70 (by decide) rfl w_1412 w_1413 ea3 t4 rfl rfl (Nat.le_of_ble_eq_true rfl) (by decide) h
theorem vX8_removeJar_30 {G : GG} (gk : GOK G) {σ : Mm} {K : RES → Mm → Prop} {x0 : Option Nat} {x1 : Int32} {s0 : Int32}
    (h : K (.inl (some (vI s0))) σ) : At G mX8_removeJar rX8_removeJar 1 6 30 [some (vR x0), some (vI x1)] [(vI s0)] σ K := by
  exact s_ireturn dX8_removeJar_30 rfl rfl (by decide) (by decide) h
theorem vX8_say_0 {G : GG} (gk : GOK G) {σ : Mm} {K : RES → Mm → Prop} {x0 : Option Nat} {x1 : Int32} {x2 : Int32}
    (h : ∃ a1, x0 = some a1 ∧ (mt σ a1).1 = 9 ∧ ∃ a3, mr σ a1 0 = some a3 ∧ (mt σ a3).1 = 7 ∧ Runs G mX6_wordFault rX6_wordFault [(vR (mr σ a1 0)), (vI x1), (vI x2)] σ (bk G mX8_say rX8_say 0 0 9 [some (vR x0), some (vI x1), some (vI x2)] [] K)) : At G mX8_say rX8_say 0 0 0 [some (vR x0), some (vI x1), some (vI x2)] [] σ K := by
  refine s_aload_n (i := 0) dX8_say_0 rfl rfl ?_
  obtain ⟨a1, ea1, h⟩ := h
  obtain ⟨t2, h⟩ := h
  refine t_getR gk dX8_say_1 fX8_10 rfl ea1 t2 ?_
  refine s_iload_n (i := 1) dX8_say_4 rfl rfl ?_
  refine s_iload_n (i := 2) dX8_say_5 rfl rfl ?_
  obtain ⟨a3, ea3, h⟩ := h
  obtain ⟨t4, h⟩ := h
  exact t_callV (ci := 6) (as := [(vI x1), (vI x2)]) (S := []) gk dX8_say_6 gX8_73 (by decide) rfl w_728 w_729 ea3 t4 rfl rfl (Nat.le_of_ble_eq_true rfl) (by decide) h
theorem eX8_say {G : GG} (gk : GOK G) {σ : Mm} {K : RES → Mm → Prop} {x0 : Option Nat} {x1 : Int32} {x2 : Int32}
    (h : ∃ a1, x0 = some a1 ∧ (mt σ a1).1 = 9 ∧ ∃ a3, mr σ a1 0 = some a3 ∧ (mt σ a3).1 = 7 ∧ Runs G mX6_wordFault rX6_wordFault [(vR (mr σ a1 0)), (vI x1), (vI x2)] σ (bk G mX8_say rX8_say 0 0 9 [some (vR x0), some (vI x1), some (vI x2)] [] K)) : Runs G mX8_say rX8_say [(vR x0), (vI x1), (vI x2)] σ K := Runs.of (by decide) rfl (Nat.le_of_ble_eq_true rfl) (vX8_say_0 gk h)
theorem vX8_say_9 {G : GG} (gk : GOK G) {σ : Mm} {K : RES → Mm → Prop} {x0 : Option Nat} {x1 : Int32} {x2 : Int32} {s0 : Int32}
    (h : Runs G mX8_refuse rX8_refuse [(vI s0)] σ (bk G mX8_say rX8_say 1 6 12 [some (vR x0), some (vI x1), some (vI x2)] [] K)) : At G mX8_say rX8_say 0 0 9 [some (vR x0), some (vI x1), some (vI x2)] [(vI s0)] σ K := by
  exact s_callS (as := [(vI s0)]) (S := []) gk dX8_say_9 gX8_55 w_391 rfl rfl (Nat.le_of_ble_eq_true rfl) (by decide) h
theorem vX8_say_12 {G : GG} (gk : GOK G) {σ : Mm} {K : RES → Mm → Prop} {x0 : Option Nat} {x1 : Int32} {x2 : Int32}
    (h : ∃ a1, x0 = some a1 ∧ (mt σ a1).1 = 9 ∧ ∃ a3, mr σ a1 1 = some a3 ∧ (mt σ a3).1 = 4 ∧ Runs G mX3_note rX3_note [(vR (mr σ a1 1)), (vR (mr σ a1 0))] σ (bk G mX8_say rX8_say 1 6 23 [some (vR x0), some (vI x1), some (vI x2)] [] K)) : At G mX8_say rX8_say 1 6 12 [some (vR x0), some (vI x1), some (vI x2)] [] σ K := by
  refine s_aload_n (i := 0) dX8_say_12 rfl rfl ?_
  obtain ⟨a1, ea1, h⟩ := h
  obtain ⟨t2, h⟩ := h
  refine t_getR gk dX8_say_13 fX8_19 rfl ea1 t2 ?_
  refine s_aload_n (i := 0) dX8_say_16 rfl rfl ?_
  refine t_getR gk dX8_say_17 fX8_10 rfl ea1 t2 ?_
  obtain ⟨a3, ea3, h⟩ := h
  obtain ⟨t4, h⟩ := h
  exact t_callV (ci := 3) (as := [(vR (mr σ a1 0))]) (S := []) gk dX8_say_20 gX8_59 (by decide) rfl w_513 w_514 ea3 t4 rfl rfl (Nat.le_of_ble_eq_true rfl) (by decide) h
theorem vX8_say_23 {G : GG} (gk : GOK G) {σ : Mm} {K : RES → Mm → Prop} {x0 : Option Nat} {x1 : Int32} {x2 : Int32}
    (h : ∃ a1, x0 = some a1 ∧ (mt σ a1).1 = 9 ∧ ∃ a3, mr σ a1 0 = some a3 ∧ (mt σ a3).1 = 7 ∧ Runs G mX6_speak rX6_speak [(vR (mr σ a1 0)), (vI x1), (vI x2)] σ (bk G mX8_say rX8_say 1 6 32 [some (vR x0), some (vI x1), some (vI x2)] [] K)) : At G mX8_say rX8_say 1 6 23 [some (vR x0), some (vI x1), some (vI x2)] [] σ K := by
  refine s_aload_n (i := 0) dX8_say_23 rfl rfl ?_
  obtain ⟨a1, ea1, h⟩ := h
  obtain ⟨t2, h⟩ := h
  refine t_getR gk dX8_say_24 fX8_10 rfl ea1 t2 ?_
  refine s_iload_n (i := 1) dX8_say_27 rfl rfl ?_
  refine s_iload_n (i := 2) dX8_say_28 rfl rfl ?_
  obtain ⟨a3, ea3, h⟩ := h
  obtain ⟨t4, h⟩ := h
  exact t_callV (ci := 6) (as := [(vI x1), (vI x2)]) (S := []) gk dX8_say_29 gX8_76 (by decide) rfl w_732 w_733 ea3 t4 rfl rfl (Nat.le_of_ble_eq_true rfl) (by decide) h
theorem vX8_say_32 {G : GG} (gk : GOK G) {σ : Mm} {K : RES → Mm → Prop} {x0 : Option Nat} {x1 : Int32} {x2 : Int32} {s0 : Int32}
    (h : K (.inl (some (vI s0))) σ) : At G mX8_say rX8_say 1 6 32 [some (vR x0), some (vI x1), some (vI x2)] [(vI s0)] σ K := by
  exact s_ireturn dX8_say_32 rfl rfl (by decide) (by decide) h
theorem vX8_jarCount_0 {G : GG} (gk : GOK G) {σ : Mm} {K : RES → Mm → Prop} {x0 : Option Nat}
    (h : ∃ a1, x0 = some a1 ∧ (mt σ a1).1 = 9 ∧ ∃ a3, mr σ a1 0 = some a3 ∧ (mt σ a3).1 = 7 ∧ Runs G mX6_countJars rX6_countJars [(vR (mr σ a1 0))] σ (bk G mX8_jarCount rX8_jarCount 0 0 7 [some (vR x0)] [] K)) : At G mX8_jarCount rX8_jarCount 0 0 0 [some (vR x0)] [] σ K := by
  refine s_aload_n (i := 0) dX8_jarCount_0 rfl rfl ?_
  obtain ⟨a1, ea1, h⟩ := h
  obtain ⟨t2, h⟩ := h
  refine t_getR gk dX8_jarCount_1 fX8_10 rfl ea1 t2 ?_
  obtain ⟨a3, ea3, h⟩ := h
  obtain ⟨t4, h⟩ := h
  exact t_callV (ci := 6) (as := []) (S := []) gk dX8_jarCount_4 gX8_79 (by decide) rfl w_379 w_380 ea3 t4 rfl rfl (Nat.le_of_ble_eq_true rfl) (by decide) h
theorem eX8_jarCount {G : GG} (gk : GOK G) {σ : Mm} {K : RES → Mm → Prop} {x0 : Option Nat}
    (h : ∃ a1, x0 = some a1 ∧ (mt σ a1).1 = 9 ∧ ∃ a3, mr σ a1 0 = some a3 ∧ (mt σ a3).1 = 7 ∧ Runs G mX6_countJars rX6_countJars [(vR (mr σ a1 0))] σ (bk G mX8_jarCount rX8_jarCount 0 0 7 [some (vR x0)] [] K)) : Runs G mX8_jarCount rX8_jarCount [(vR x0)] σ K := Runs.of (by decide) rfl (Nat.le_of_ble_eq_true rfl) (vX8_jarCount_0 gk h)
theorem vX8_jarCount_7 {G : GG} (gk : GOK G) {σ : Mm} {K : RES → Mm → Prop} {x0 : Option Nat} {s0 : Int32}
    (h : K (.inl (some (vI s0))) σ) : At G mX8_jarCount rX8_jarCount 0 0 7 [some (vR x0)] [(vI s0)] σ K := by
  exact s_ireturn dX8_jarCount_7 rfl rfl (by decide) (by decide) h
theorem vX8_jarAt_0 {G : GG} (gk : GOK G) {σ : Mm} {K : RES → Mm → Prop} {x0 : Option Nat} {x1 : Int32}
    (h : ∃ a1, x0 = some a1 ∧ (mt σ a1).1 = 9 ∧ ∃ a3, mr σ a1 0 = some a3 ∧ (mt σ a3).1 = 7 ∧ Runs G mX6_jarLetter rX6_jarLetter [(vR (mr σ a1 0)), (vI x1)] σ (bk G mX8_jarAt rX8_jarAt 0 0 8 [some (vR x0), some (vI x1), none] [] K)) : At G mX8_jarAt rX8_jarAt 0 0 0 [some (vR x0), some (vI x1), none] [] σ K := by
  refine s_aload_n (i := 0) dX8_jarAt_0 rfl rfl ?_
  obtain ⟨a1, ea1, h⟩ := h
  obtain ⟨t2, h⟩ := h
  refine t_getR gk dX8_jarAt_1 fX8_10 rfl ea1 t2 ?_
  refine s_iload_n (i := 1) dX8_jarAt_4 rfl rfl ?_
  obtain ⟨a3, ea3, h⟩ := h
  obtain ⟨t4, h⟩ := h
  exact t_callV (ci := 6) (as := [(vI x1)]) (S := []) gk dX8_jarAt_5 gX8_83 (by decide) rfl w_822 w_823 ea3 t4 rfl rfl (Nat.le_of_ble_eq_true rfl) (by decide) h
theorem eX8_jarAt {G : GG} (gk : GOK G) {σ : Mm} {K : RES → Mm → Prop} {x0 : Option Nat} {x1 : Int32}
    (h : ∃ a1, x0 = some a1 ∧ (mt σ a1).1 = 9 ∧ ∃ a3, mr σ a1 0 = some a3 ∧ (mt σ a3).1 = 7 ∧ Runs G mX6_jarLetter rX6_jarLetter [(vR (mr σ a1 0)), (vI x1)] σ (bk G mX8_jarAt rX8_jarAt 0 0 8 [some (vR x0), some (vI x1), none] [] K)) : Runs G mX8_jarAt rX8_jarAt [(vR x0), (vI x1)] σ K := Runs.of (by decide) rfl (Nat.le_of_ble_eq_true rfl) (vX8_jarAt_0 gk h)
theorem vX8_jarAt_8 {G : GG} (gk : GOK G) (hst : STR G) {σ : Mm} {K : RES → Mm → Prop} {x0 : Option Nat} {x1 : Int32} {s0 : Int32}
    (h : ((¬ s0 = (32 : Int32) → isC s0 ∧ K (.inl (some (vI s0))) σ) ∧ (s0 = (32 : Int32) → (∀ k, K (.inr "java/lang/IndexOutOfBoundsException") (sk σ k))))) : At G mX8_jarAt rX8_jarAt 0 0 8 [some (vR x0), some (vI x1), none] [(vI s0)] σ K := by
  refine s_istore_n (i := 2) (L' := [some (vR x0), some (vI x1), some (vI s0)]) dX8_jarAt_8 rfl rfl (by decide) rfl ?_
  refine s_iload_n (i := 2) dX8_jarAt_9 rfl rfl ?_
  refine s_bipush (v := 32) dX8_jarAt_10 (by decide) ?_
  refine s_icmp_ne (tgt := 25) dX8_jarAt_12 (by decide) (fun q1 => ?_) (fun q1 => ?_)
  · have h := h.1 q1
    refine s_iload_n (i := 2) dX8_jarAt_25 rfl rfl ?_
    obtain ⟨c2, h⟩ := h
    exact s_ireturn dX8_jarAt_26 rfl (nf_c c2).1 (by decide) (by decide) h
  · have h := h.2 q1
    exact s_thr0 gk hst thx_91 w_393 w_17 (tl_4 (List.mem_of_getElem? (i := 105) rfl)) dX8_jarAt_15 dX8_jarAt_18 (Or.inl ⟨dX8_jarAt_19, rfl⟩) dX8_jarAt_21 dX8_jarAt_24 (by decide) (by decide) (by decide) (by decide) h
theorem vX8_wordOf_0 {G : GG} (gk : GOK G) {σ : Mm} {K : RES → Mm → Prop} {x0 : Option Nat} {x1 : Int32}
    (h : ∃ a1, x0 = some a1 ∧ (mt σ a1).1 = 9 ∧ Runs G mX8_wantJar rX8_wantJar [(vR x0), (vI x1)] σ (bk G mX8_wordOf rX8_wordOf 1 6 5 [some (vR x0), some (vI x1)] [] K)) : At G mX8_wordOf rX8_wordOf 0 0 0 [some (vR x0), some (vI x1)] [] σ K := by
  refine s_aload_n (i := 0) dX8_wordOf_0 rfl rfl ?_
  refine s_iload_n (i := 1) dX8_wordOf_1 rfl rfl ?_
  obtain ⟨a1, ea1, h⟩ := h
  obtain ⟨t2, h⟩ := h
  exact t_callV (ci := 8) (as := [(vI x1)]) (S := []) gk dX8_wordOf_2 gX8_94 (by decide) rfl w_811 wp_2 ea1 t2 rfl rfl (Nat.le_of_ble_eq_true rfl) (by decide) h
theorem eX8_wordOf {G : GG} (gk : GOK G) {σ : Mm} {K : RES → Mm → Prop} {x0 : Option Nat} {x1 : Int32}
    (h : ∃ a1, x0 = some a1 ∧ (mt σ a1).1 = 9 ∧ Runs G mX8_wantJar rX8_wantJar [(vR x0), (vI x1)] σ (bk G mX8_wordOf rX8_wordOf 1 6 5 [some (vR x0), some (vI x1)] [] K)) : Runs G mX8_wordOf rX8_wordOf [(vR x0), (vI x1)] σ K := Runs.of (by decide) rfl (Nat.le_of_ble_eq_true rfl) (vX8_wordOf_0 gk h)
theorem vX8_wordOf_5 {G : GG} (gk : GOK G) {σ : Mm} {K : RES → Mm → Prop} {x0 : Option Nat} {x1 : Int32} {s0 : Option Nat}
    (h : ∃ a1, s0 = some a1 ∧ (mt σ a1).1 = 5 ∧ K (.inl (some (vI (mi σ a1 1)))) σ) : At G mX8_wordOf rX8_wordOf 1 6 5 [some (vR x0), some (vI x1)] [(vR s0)] σ K := by
  obtain ⟨a1, ea1, h⟩ := h
  obtain ⟨t2, h⟩ := h
  refine t_getI gk dX8_wordOf_5 fX8_98 rfl ea1 t2 ?_
  exact s_ireturn dX8_wordOf_8 rfl rfl (by decide) (by decide) h
theorem vX8_addShelf_0 {G : GG} (gk : GOK G) {σ : Mm} {K : RES → Mm → Prop} {x0 : Option Nat} {x1 : Int32} {x2 : Int32} {x3 : Int32}
    (h : ∃ a1, x0 = some a1 ∧ (mt σ a1).1 = 9 ∧ ∃ a3, mr σ a1 0 = some a3 ∧ (mt σ a3).1 = 7 ∧ Runs G mX6_newShelfFault rX6_newShelfFault [(vR (mr σ a1 0)), (vI x1), (vI x2), (vI x3)] σ (bk G mX8_addShelf rX8_addShelf 0 0 10 [some (vR x0), some (vI x1), some (vI x2), some (vI x3)] [] K)) : At G mX8_addShelf rX8_addShelf 0 0 0 [some (vR x0), some (vI x1), some (vI x2), some (vI x3)] [] σ K := by
  refine s_aload_n (i := 0) dX8_addShelf_0 rfl rfl ?_
  obtain ⟨a1, ea1, h⟩ := h
  obtain ⟨t2, h⟩ := h
  refine t_getR gk dX8_addShelf_1 fX8_10 rfl ea1 t2 ?_
  refine s_iload_n (i := 1) dX8_addShelf_4 rfl rfl ?_
  refine s_iload_n (i := 2) dX8_addShelf_5 rfl rfl ?_
  refine s_iload_n (i := 3) dX8_addShelf_6 rfl rfl ?_
  obtain ⟨a3, ea3, h⟩ := h
  obtain ⟨t4, h⟩ := h
  exact t_callV (ci := 6) (as := [(vI x1), (vI x2), (vI x3)]) (S := []) gk dX8_addShelf_7 gX8_103 (by decide) rfl w_607 w_608 ea3 t4 rfl rfl (Nat.le_of_ble_eq_true rfl) (by decide) h
theorem eX8_addShelf {G : GG} (gk : GOK G) {σ : Mm} {K : RES → Mm → Prop} {x0 : Option Nat} {x1 : Int32} {x2 : Int32} {x3 : Int32}
    (h : ∃ a1, x0 = some a1 ∧ (mt σ a1).1 = 9 ∧ ∃ a3, mr σ a1 0 = some a3 ∧ (mt σ a3).1 = 7 ∧ Runs G mX6_newShelfFault rX6_newShelfFault [(vR (mr σ a1 0)), (vI x1), (vI x2), (vI x3)] σ (bk G mX8_addShelf rX8_addShelf 0 0 10 [some (vR x0), some (vI x1), some (vI x2), some (vI x3)] [] K)) : Runs G mX8_addShelf rX8_addShelf [(vR x0), (vI x1), (vI x2), (vI x3)] σ K := Runs.of (by decide) rfl (Nat.le_of_ble_eq_true rfl) (vX8_addShelf_0 gk h)
theorem vX8_addShelf_10 {G : GG} (gk : GOK G) {σ : Mm} {K : RES → Mm → Prop} {x0 : Option Nat} {x1 : Int32} {x2 : Int32} {x3 : Int32} {s0 : Int32}
    (h : Runs G mX8_refuse rX8_refuse [(vI s0)] σ (bk G mX8_addShelf rX8_addShelf 1 6 13 [some (vR x0), some (vI x1), some (vI x2), some (vI x3)] [] K)) : At G mX8_addShelf rX8_addShelf 0 0 10 [some (vR x0), some (vI x1), some (vI x2), some (vI x3)] [(vI s0)] σ K := by
  exact s_callS (as := [(vI s0)]) (S := []) gk dX8_addShelf_10 gX8_55 w_391 rfl rfl (Nat.le_of_ble_eq_true rfl) (by decide) h
theorem vX8_addShelf_13 {G : GG} (gk : GOK G) {σ : Mm} {K : RES → Mm → Prop} {x0 : Option Nat} {x1 : Int32} {x2 : Int32} {x3 : Int32}
    (h : ∃ a1, x0 = some a1 ∧ (mt σ a1).1 = 9 ∧ ∃ a3, mr σ a1 1 = some a3 ∧ (mt σ a3).1 = 4 ∧ Runs G mX3_note rX3_note [(vR (mr σ a1 1)), (vR (mr σ a1 0))] σ (bk G mX8_addShelf rX8_addShelf 1 6 24 [some (vR x0), some (vI x1), some (vI x2), some (vI x3)] [] K)) : At G mX8_addShelf rX8_addShelf 1 6 13 [some (vR x0), some (vI x1), some (vI x2), some (vI x3)] [] σ K := by
  refine s_aload_n (i := 0) dX8_addShelf_13 rfl rfl ?_
  obtain ⟨a1, ea1, h⟩ := h
  obtain ⟨t2, h⟩ := h
  refine t_getR gk dX8_addShelf_14 fX8_19 rfl ea1 t2 ?_
  refine s_aload_n (i := 0) dX8_addShelf_17 rfl rfl ?_
  refine t_getR gk dX8_addShelf_18 fX8_10 rfl ea1 t2 ?_
  obtain ⟨a3, ea3, h⟩ := h
  obtain ⟨t4, h⟩ := h
  exact t_callV (ci := 3) (as := [(vR (mr σ a1 0))]) (S := []) gk dX8_addShelf_21 gX8_59 (by decide) rfl w_513 w_514 ea3 t4 rfl rfl (Nat.le_of_ble_eq_true rfl) (by decide) h
theorem vX8_addShelf_24 {G : GG} (gk : GOK G) {σ : Mm} {K : RES → Mm → Prop} {x0 : Option Nat} {x1 : Int32} {x2 : Int32} {x3 : Int32}
    (h : ∃ a1, x0 = some a1 ∧ (mt σ a1).1 = 9 ∧ ∃ a3, mr σ a1 0 = some a3 ∧ (mt σ a3).1 = 7 ∧ Runs G mX6_putShelf rX6_putShelf [(vR (mr σ a1 0)), (vI x1), (vI x2), (vI x3)] σ (bk G mX8_addShelf rX8_addShelf 1 6 34 [some (vR x0), some (vI x1), some (vI x2), some (vI x3)] [] K)) : At G mX8_addShelf rX8_addShelf 1 6 24 [some (vR x0), some (vI x1), some (vI x2), some (vI x3)] [] σ K := by
  refine s_aload_n (i := 0) dX8_addShelf_24 rfl rfl ?_
  obtain ⟨a1, ea1, h⟩ := h
  obtain ⟨t2, h⟩ := h
  refine t_getR gk dX8_addShelf_25 fX8_10 rfl ea1 t2 ?_
  refine s_iload_n (i := 1) dX8_addShelf_28 rfl rfl ?_
  refine s_iload_n (i := 2) dX8_addShelf_29 rfl rfl ?_
  refine s_iload_n (i := 3) dX8_addShelf_30 rfl rfl ?_
  obtain ⟨a3, ea3, h⟩ := h
  obtain ⟨t4, h⟩ := h
  exact t_callV (ci := 6) (as := [(vI x1), (vI x2), (vI x3)]) (S := []) gk dX8_addShelf_31 gX8_107 (by decide) rfl w_615 w_616 ea3 t4 rfl rfl (Nat.le_of_ble_eq_true rfl) (by decide) h
theorem vX8_addShelf_34 {G : GG} (gk : GOK G) {σ : Mm} {K : RES → Mm → Prop} {x0 : Option Nat} {x1 : Int32} {x2 : Int32} {x3 : Int32} {s0 : Int32}
    (h : K (.inl (some (vI s0))) σ) : At G mX8_addShelf rX8_addShelf 1 6 34 [some (vR x0), some (vI x1), some (vI x2), some (vI x3)] [(vI s0)] σ K := by
  exact s_ireturn dX8_addShelf_34 rfl rfl (by decide) (by decide) h
theorem vX8_setListening_0 {G : GG} (gk : GOK G) {σ : Mm} {K : RES → Mm → Prop} {x0 : Option Nat} {x1 : Int32} {x2 : Int32}
    (h : ∃ a1, x0 = some a1 ∧ (mt σ a1).1 = 9 ∧ Runs G mX8_wantShelf rX8_wantShelf [(vR x0), (vI x1)] σ (bk G mX8_setListening rX8_setListening 1 6 5 [some (vR x0), some (vI x1), some (vI x2), none, none] [] K)) : At G mX8_setListening rX8_setListening 0 0 0 [some (vR x0), some (vI x1), some (vI x2), none, none] [] σ K := by
  refine s_aload_n (i := 0) dX8_setListening_0 rfl rfl ?_
  refine s_iload_n (i := 1) dX8_setListening_1 rfl rfl ?_
  obtain ⟨a1, ea1, h⟩ := h
  obtain ⟨t2, h⟩ := h
  exact t_callV (ci := 8) (as := [(vI x1)]) (S := []) gk dX8_setListening_2 gX8_110 (by decide) rfl w_791 wp_1 ea1 t2 rfl rfl (Nat.le_of_ble_eq_true rfl) (by decide) h
theorem eX8_setListening {G : GG} (gk : GOK G) {σ : Mm} {K : RES → Mm → Prop} {x0 : Option Nat} {x1 : Int32} {x2 : Int32}
    (h : ∃ a1, x0 = some a1 ∧ (mt σ a1).1 = 9 ∧ Runs G mX8_wantShelf rX8_wantShelf [(vR x0), (vI x1)] σ (bk G mX8_setListening rX8_setListening 1 6 5 [some (vR x0), some (vI x1), some (vI x2), none, none] [] K)) : Runs G mX8_setListening rX8_setListening [(vR x0), (vI x1), (vI x2)] σ K := Runs.of (by decide) rfl (Nat.le_of_ble_eq_true rfl) (vX8_setListening_0 gk h)
theorem vX8_setListening_5 {G : GG} (gk : GOK G) {σ : Mm} {K : RES → Mm → Prop} {x0 : Option Nat} {x1 : Int32} {x2 : Int32} {s0 : Option Nat}
    (h : ∃ a1, x0 = some a1 ∧ (mt σ a1).1 = 9 ∧ ∃ a3, mr σ a1 1 = some a3 ∧ (mt σ a3).1 = 4 ∧ Runs G mX3_note rX3_note [(vR (mr σ a1 1)), (vR (mr σ a1 0))] σ (bk G mX8_setListening rX8_setListening 1 6 17 [some (vR x0), some (vI x1), some (vI x2), some (vR s0), none] [] K)) : At G mX8_setListening rX8_setListening 1 6 5 [some (vR x0), some (vI x1), some (vI x2), none, none] [(vR s0)] σ K := by
  refine s_astore_n (i := 3) (L' := [some (vR x0), some (vI x1), some (vI x2), some (vR s0), none]) dX8_setListening_5 rfl rfl (by decide) rfl ?_
  refine s_aload_n (i := 0) dX8_setListening_6 rfl rfl ?_
  obtain ⟨a1, ea1, h⟩ := h
  obtain ⟨t2, h⟩ := h
  refine t_getR gk dX8_setListening_7 fX8_19 rfl ea1 t2 ?_
  refine s_aload_n (i := 0) dX8_setListening_10 rfl rfl ?_
  refine t_getR gk dX8_setListening_11 fX8_10 rfl ea1 t2 ?_
  obtain ⟨a3, ea3, h⟩ := h
  obtain ⟨t4, h⟩ := h
  exact t_callV (ci := 3) (as := [(vR (mr σ a1 0))]) (S := []) gk dX8_setListening_14 gX8_59 (by decide) rfl w_513 w_514 ea3 t4 rfl rfl (Nat.le_of_ble_eq_true rfl) (by decide) h
theorem vX8_setListening_17 {G : GG} (gk : GOK G) {σ : Mm} {K : RES → Mm → Prop} {x0 : Option Nat} {x1 : Int32} {x2 : Int32} {x3 : Option Nat}
    (h : ∃ a1, x3 = some a1 ∧ (mt σ a1).1 = 6 ∧ isZ x2 ∧ ∀ σ3, σ3 = si σ a1 4 x2 → isZ (mi σ a1 4) ∧ K (.inl (some (vI (mi σ a1 4)))) σ3) : At G mX8_setListening rX8_setListening 1 6 17 [some (vR x0), some (vI x1), some (vI x2), some (vR x3), none] [] σ K := by
  refine s_aload_n (i := 3) dX8_setListening_17 rfl rfl ?_
  obtain ⟨a1, ea1, h⟩ := h
  obtain ⟨t2, h⟩ := h
  refine t_getI gk dX8_setListening_18 fX8_114 rfl ea1 t2 ?_
  refine s_istore (L' := [some (vR x0), some (vI x1), some (vI x2), some (vR x3), some (vI (mi σ a1 4))]) dX8_setListening_21 rfl (by decide) rfl ?_
  refine s_aload_n (i := 3) dX8_setListening_23 rfl rfl ?_
  refine s_iload_n (i := 2) dX8_setListening_24 rfl rfl ?_
  obtain ⟨c4, h⟩ := h
  refine t_putI gk dX8_setListening_25 fX8_114 rfl rfl ea1 t2 (nf_z c4) (fun σ3 eσ3 mσ3 => ?_)
  replace h := h σ3 eσ3
  refine s_iload dX8_setListening_28 rfl ?_
  obtain ⟨c5, h⟩ := h
  exact s_ireturn dX8_setListening_30 rfl (nf_z c5).1 (by decide) (by decide) h
theorem vX8_shelfCount_0 {G : GG} (gk : GOK G) {σ : Mm} {K : RES → Mm → Prop} {x0 : Option Nat}
    (h : ∃ a1, x0 = some a1 ∧ (mt σ a1).1 = 9 ∧ ∃ a3, mr σ a1 0 = some a3 ∧ (mt σ a3).1 = 7 ∧ Runs G mX6_countShelves rX6_countShelves [(vR (mr σ a1 0))] σ (bk G mX8_shelfCount rX8_shelfCount 0 0 7 [some (vR x0)] [] K)) : At G mX8_shelfCount rX8_shelfCount 0 0 0 [some (vR x0)] [] σ K := by
  refine s_aload_n (i := 0) dX8_shelfCount_0 rfl rfl ?_
  obtain ⟨a1, ea1, h⟩ := h
  obtain ⟨t2, h⟩ := h
  refine t_getR gk dX8_shelfCount_1 fX8_10 rfl ea1 t2 ?_
  obtain ⟨a3, ea3, h⟩ := h
  obtain ⟨t4, h⟩ := h
  exact t_callV (ci := 6) (as := []) (S := []) gk dX8_shelfCount_4 gX8_119 (by decide) rfl w_611 w_612 ea3 t4 rfl rfl (Nat.le_of_ble_eq_true rfl) (by decide) h
theorem eX8_shelfCount {G : GG} (gk : GOK G) {σ : Mm} {K : RES → Mm → Prop} {x0 : Option Nat}
    (h : ∃ a1, x0 = some a1 ∧ (mt σ a1).1 = 9 ∧ ∃ a3, mr σ a1 0 = some a3 ∧ (mt σ a3).1 = 7 ∧ Runs G mX6_countShelves rX6_countShelves [(vR (mr σ a1 0))] σ (bk G mX8_shelfCount rX8_shelfCount 0 0 7 [some (vR x0)] [] K)) : Runs G mX8_shelfCount rX8_shelfCount [(vR x0)] σ K := Runs.of (by decide) rfl (Nat.le_of_ble_eq_true rfl) (vX8_shelfCount_0 gk h)
theorem vX8_shelfCount_7 {G : GG} (gk : GOK G) {σ : Mm} {K : RES → Mm → Prop} {x0 : Option Nat} {s0 : Int32}
    (h : K (.inl (some (vI s0))) σ) : At G mX8_shelfCount rX8_shelfCount 0 0 7 [some (vR x0)] [(vI s0)] σ K := by
  exact s_ireturn dX8_shelfCount_7 rfl rfl (by decide) (by decide) h
theorem vX8_capacityOf_0 {G : GG} (gk : GOK G) {σ : Mm} {K : RES → Mm → Prop} {x0 : Option Nat} {x1 : Int32}
    (h : ∃ a1, x0 = some a1 ∧ (mt σ a1).1 = 9 ∧ Runs G mX8_wantShelf rX8_wantShelf [(vR x0), (vI x1)] σ (bk G mX8_capacityOf rX8_capacityOf 1 6 5 [some (vR x0), some (vI x1)] [] K)) : At G mX8_capacityOf rX8_capacityOf 0 0 0 [some (vR x0), some (vI x1)] [] σ K := by
  refine s_aload_n (i := 0) dX8_capacityOf_0 rfl rfl ?_
  refine s_iload_n (i := 1) dX8_capacityOf_1 rfl rfl ?_
  obtain ⟨a1, ea1, h⟩ := h
  obtain ⟨t2, h⟩ := h
  exact t_callV (ci := 8) (as := [(vI x1)]) (S := []) gk dX8_capacityOf_2 gX8_110 (by decide) rfl w_791 wp_1 ea1 t2 rfl rfl (Nat.le_of_ble_eq_true rfl) (by decide) h
theorem eX8_capacityOf {G : GG} (gk : GOK G) {σ : Mm} {K : RES → Mm → Prop} {x0 : Option Nat} {x1 : Int32}
    (h : ∃ a1, x0 = some a1 ∧ (mt σ a1).1 = 9 ∧ Runs G mX8_wantShelf rX8_wantShelf [(vR x0), (vI x1)] σ (bk G mX8_capacityOf rX8_capacityOf 1 6 5 [some (vR x0), some (vI x1)] [] K)) : Runs G mX8_capacityOf rX8_capacityOf [(vR x0), (vI x1)] σ K := Runs.of (by decide) rfl (Nat.le_of_ble_eq_true rfl) (vX8_capacityOf_0 gk h)
theorem vX8_capacityOf_5 {G : GG} (gk : GOK G) {σ : Mm} {K : RES → Mm → Prop} {x0 : Option Nat} {x1 : Int32} {s0 : Option Nat}
    (h : ∃ a1, s0 = some a1 ∧ (mt σ a1).1 = 6 ∧ K (.inl (some (vI (mi σ a1 1)))) σ) : At G mX8_capacityOf rX8_capacityOf 1 6 5 [some (vR x0), some (vI x1)] [(vR s0)] σ K := by
  obtain ⟨a1, ea1, h⟩ := h
  obtain ⟨t2, h⟩ := h
  refine t_getI gk dX8_capacityOf_5 fX8_122 rfl ea1 t2 ?_
  exact s_ireturn dX8_capacityOf_8 rfl rfl (by decide) (by decide) h
theorem vX8_lifetimeOf_0 {G : GG} (gk : GOK G) {σ : Mm} {K : RES → Mm → Prop} {x0 : Option Nat} {x1 : Int32}
    (h : ∃ a1, x0 = some a1 ∧ (mt σ a1).1 = 9 ∧ Runs G mX8_wantShelf rX8_wantShelf [(vR x0), (vI x1)] σ (bk G mX8_lifetimeOf rX8_lifetimeOf 1 6 5 [some (vR x0), some (vI x1)] [] K)) : At G mX8_lifetimeOf rX8_lifetimeOf 0 0 0 [some (vR x0), some (vI x1)] [] σ K := by
  refine s_aload_n (i := 0) dX8_lifetimeOf_0 rfl rfl ?_
  refine s_iload_n (i := 1) dX8_lifetimeOf_1 rfl rfl ?_
  obtain ⟨a1, ea1, h⟩ := h
  obtain ⟨t2, h⟩ := h
  exact t_callV (ci := 8) (as := [(vI x1)]) (S := []) gk dX8_lifetimeOf_2 gX8_110 (by decide) rfl w_791 wp_1 ea1 t2 rfl rfl (Nat.le_of_ble_eq_true rfl) (by decide) h
theorem eX8_lifetimeOf {G : GG} (gk : GOK G) {σ : Mm} {K : RES → Mm → Prop} {x0 : Option Nat} {x1 : Int32}
    (h : ∃ a1, x0 = some a1 ∧ (mt σ a1).1 = 9 ∧ Runs G mX8_wantShelf rX8_wantShelf [(vR x0), (vI x1)] σ (bk G mX8_lifetimeOf rX8_lifetimeOf 1 6 5 [some (vR x0), some (vI x1)] [] K)) : Runs G mX8_lifetimeOf rX8_lifetimeOf [(vR x0), (vI x1)] σ K := Runs.of (by decide) rfl (Nat.le_of_ble_eq_true rfl) (vX8_lifetimeOf_0 gk h)
theorem vX8_lifetimeOf_5 {G : GG} (gk : GOK G) {σ : Mm} {K : RES → Mm → Prop} {x0 : Option Nat} {x1 : Int32} {s0 : Option Nat}
    (h : ∃ a1, s0 = some a1 ∧ (mt σ a1).1 = 6 ∧ K (.inl (some (vI (mi σ a1 2)))) σ) : At G mX8_lifetimeOf rX8_lifetimeOf 1 6 5 [some (vR x0), some (vI x1)] [(vR s0)] σ K := by
  obtain ⟨a1, ea1, h⟩ := h
  obtain ⟨t2, h⟩ := h
  refine t_getI gk dX8_lifetimeOf_5 fX8_125 rfl ea1 t2 ?_
  exact s_ireturn dX8_lifetimeOf_8 rfl rfl (by decide) (by decide) h
theorem vX8_policyOf_0 {G : GG} (gk : GOK G) {σ : Mm} {K : RES → Mm → Prop} {x0 : Option Nat} {x1 : Int32}
    (h : ∃ a1, x0 = some a1 ∧ (mt σ a1).1 = 9 ∧ Runs G mX8_wantShelf rX8_wantShelf [(vR x0), (vI x1)] σ (bk G mX8_policyOf rX8_policyOf 1 6 5 [some (vR x0), some (vI x1)] [] K)) : At G mX8_policyOf rX8_policyOf 0 0 0 [some (vR x0), some (vI x1)] [] σ K := by
  refine s_aload_n (i := 0) dX8_policyOf_0 rfl rfl ?_
  refine s_iload_n (i := 1) dX8_policyOf_1 rfl rfl ?_
  obtain ⟨a1, ea1, h⟩ := h
  obtain ⟨t2, h⟩ := h
  exact t_callV (ci := 8) (as := [(vI x1)]) (S := []) gk dX8_policyOf_2 gX8_110 (by decide) rfl w_791 wp_1 ea1 t2 rfl rfl (Nat.le_of_ble_eq_true rfl) (by decide) h
theorem eX8_policyOf {G : GG} (gk : GOK G) {σ : Mm} {K : RES → Mm → Prop} {x0 : Option Nat} {x1 : Int32}
    (h : ∃ a1, x0 = some a1 ∧ (mt σ a1).1 = 9 ∧ Runs G mX8_wantShelf rX8_wantShelf [(vR x0), (vI x1)] σ (bk G mX8_policyOf rX8_policyOf 1 6 5 [some (vR x0), some (vI x1)] [] K)) : Runs G mX8_policyOf rX8_policyOf [(vR x0), (vI x1)] σ K := Runs.of (by decide) rfl (Nat.le_of_ble_eq_true rfl) (vX8_policyOf_0 gk h)
theorem vX8_policyOf_5 {G : GG} (gk : GOK G) {σ : Mm} {K : RES → Mm → Prop} {x0 : Option Nat} {x1 : Int32} {s0 : Option Nat}
    (h : ∃ a1, s0 = some a1 ∧ (mt σ a1).1 = 6 ∧ isC (mi σ a1 3) ∧ K (.inl (some (vI (mi σ a1 3)))) σ) : At G mX8_policyOf rX8_policyOf 1 6 5 [some (vR x0), some (vI x1)] [(vR s0)] σ K := by
  obtain ⟨a1, ea1, h⟩ := h
  obtain ⟨t2, h⟩ := h
  refine t_getI gk dX8_policyOf_5 fX8_128 rfl ea1 t2 ?_
  obtain ⟨c3, h⟩ := h
  exact s_ireturn dX8_policyOf_8 rfl (nf_c c3).1 (by decide) (by decide) h
theorem vX8_isListening_0 {G : GG} (gk : GOK G) {σ : Mm} {K : RES → Mm → Prop} {x0 : Option Nat} {x1 : Int32}
    (h : ∃ a1, x0 = some a1 ∧ (mt σ a1).1 = 9 ∧ Runs G mX8_wantShelf rX8_wantShelf [(vR x0), (vI x1)] σ (bk G mX8_isListening rX8_isListening 1 6 5 [some (vR x0), some (vI x1)] [] K)) : At G mX8_isListening rX8_isListening 0 0 0 [some (vR x0), some (vI x1)] [] σ K := by
  refine s_aload_n (i := 0) dX8_isListening_0 rfl rfl ?_
  refine s_iload_n (i := 1) dX8_isListening_1 rfl rfl ?_
  obtain ⟨a1, ea1, h⟩ := h
  obtain ⟨t2, h⟩ := h
  exact t_callV (ci := 8) (as := [(vI x1)]) (S := []) gk dX8_isListening_2 gX8_110 (by decide) rfl w_791 wp_1 ea1 t2 rfl rfl (Nat.le_of_ble_eq_true rfl) (by decide) h
theorem eX8_isListening {G : GG} (gk : GOK G) {σ : Mm} {K : RES → Mm → Prop} {x0 : Option Nat} {x1 : Int32}
    (h : ∃ a1, x0 = some a1 ∧ (mt σ a1).1 = 9 ∧ Runs G mX8_wantShelf rX8_wantShelf [(vR x0), (vI x1)] σ (bk G mX8_isListening rX8_isListening 1 6 5 [some (vR x0), some (vI x1)] [] K)) : Runs G mX8_isListening rX8_isListening [(vR x0), (vI x1)] σ K := Runs.of (by decide) rfl (Nat.le_of_ble_eq_true rfl) (vX8_isListening_0 gk h)
theorem vX8_isListening_5 {G : GG} (gk : GOK G) {σ : Mm} {K : RES → Mm → Prop} {x0 : Option Nat} {x1 : Int32} {s0 : Option Nat}
    (h : ∃ a1, s0 = some a1 ∧ (mt σ a1).1 = 6 ∧ isZ (mi σ a1 4) ∧ K (.inl (some (vI (mi σ a1 4)))) σ) : At G mX8_isListening rX8_isListening 1 6 5 [some (vR x0), some (vI x1)] [(vR s0)] σ K := by
  obtain ⟨a1, ea1, h⟩ := h
  obtain ⟨t2, h⟩ := h
  refine t_getI gk dX8_isListening_5 fX8_114 rfl ea1 t2 ?_
  obtain ⟨c3, h⟩ := h
  exact s_ireturn dX8_isListening_8 rfl (nf_z c3).1 (by decide) (by decide) h
theorem vX8_echoCount_0 {G : GG} (gk : GOK G) {σ : Mm} {K : RES → Mm → Prop} {x0 : Option Nat} {x1 : Int32}
    (h : ∃ a1, x0 = some a1 ∧ (mt σ a1).1 = 9 ∧ Runs G mX8_wantShelf rX8_wantShelf [(vR x0), (vI x1)] σ (bk G mX8_echoCount rX8_echoCount 1 6 5 [some (vR x0), some (vI x1)] [] K)) : At G mX8_echoCount rX8_echoCount 0 0 0 [some (vR x0), some (vI x1)] [] σ K := by
  refine s_aload_n (i := 0) dX8_echoCount_0 rfl rfl ?_
  refine s_iload_n (i := 1) dX8_echoCount_1 rfl rfl ?_
  obtain ⟨a1, ea1, h⟩ := h
  obtain ⟨t2, h⟩ := h
  exact t_callV (ci := 8) (as := [(vI x1)]) (S := []) gk dX8_echoCount_2 gX8_110 (by decide) rfl w_791 wp_1 ea1 t2 rfl rfl (Nat.le_of_ble_eq_true rfl) (by decide) h
theorem eX8_echoCount {G : GG} (gk : GOK G) {σ : Mm} {K : RES → Mm → Prop} {x0 : Option Nat} {x1 : Int32}
    (h : ∃ a1, x0 = some a1 ∧ (mt σ a1).1 = 9 ∧ Runs G mX8_wantShelf rX8_wantShelf [(vR x0), (vI x1)] σ (bk G mX8_echoCount rX8_echoCount 1 6 5 [some (vR x0), some (vI x1)] [] K)) : Runs G mX8_echoCount rX8_echoCount [(vR x0), (vI x1)] σ K := Runs.of (by decide) rfl (Nat.le_of_ble_eq_true rfl) (vX8_echoCount_0 gk h)
theorem vX8_echoCount_5 {G : GG} (gk : GOK G) {σ : Mm} {K : RES → Mm → Prop} {x0 : Option Nat} {x1 : Int32} {s0 : Option Nat}
    (h : ∃ a1, s0 = some a1 ∧ (mt σ a1).1 = 6 ∧ Runs G mX5_countEchoes rX5_countEchoes [(vR s0)] σ (bk G mX8_echoCount rX8_echoCount 1 6 8 [some (vR x0), some (vI x1)] [] K)) : At G mX8_echoCount rX8_echoCount 1 6 5 [some (vR x0), some (vI x1)] [(vR s0)] σ K := by
  obtain ⟨a1, ea1, h⟩ := h
  obtain ⟨t2, h⟩ := h
  exact t_callV (ci := 5) (as := []) (S := []) gk dX8_echoCount_5 gX8_132 (by decide) rfl w_709 w_710 ea1 t2 rfl rfl (Nat.le_of_ble_eq_true rfl) (by decide) h
theorem vX8_echoCount_8 {G : GG} (gk : GOK G) {σ : Mm} {K : RES → Mm → Prop} {x0 : Option Nat} {x1 : Int32} {s0 : Int32}
    (h : K (.inl (some (vI s0))) σ) : At G mX8_echoCount rX8_echoCount 1 6 8 [some (vR x0), some (vI x1)] [(vI s0)] σ K := by
  exact s_ireturn dX8_echoCount_8 rfl rfl (by decide) (by decide) h
theorem vX8_echoAt_0 {G : GG} (gk : GOK G) {σ : Mm} {K : RES → Mm → Prop} {x0 : Option Nat} {x1 : Int32} {x2 : Int32}
    (h : ∃ a1, x0 = some a1 ∧ (mt σ a1).1 = 9 ∧ Runs G mX8_wantShelf rX8_wantShelf [(vR x0), (vI x1)] σ (bk G mX8_echoAt rX8_echoAt 1 6 5 [some (vR x0), some (vI x1), some (vI x2), none] [] K)) : At G mX8_echoAt rX8_echoAt 0 0 0 [some (vR x0), some (vI x1), some (vI x2), none] [] σ K := by
  refine s_aload_n (i := 0) dX8_echoAt_0 rfl rfl ?_
  refine s_iload_n (i := 1) dX8_echoAt_1 rfl rfl ?_
  obtain ⟨a1, ea1, h⟩ := h
  obtain ⟨t2, h⟩ := h
  exact t_callV (ci := 8) (as := [(vI x1)]) (S := []) gk dX8_echoAt_2 gX8_110 (by decide) rfl w_791 wp_1 ea1 t2 rfl rfl (Nat.le_of_ble_eq_true rfl) (by decide) h
theorem eX8_echoAt {G : GG} (gk : GOK G) {σ : Mm} {K : RES → Mm → Prop} {x0 : Option Nat} {x1 : Int32} {x2 : Int32}
    (h : ∃ a1, x0 = some a1 ∧ (mt σ a1).1 = 9 ∧ Runs G mX8_wantShelf rX8_wantShelf [(vR x0), (vI x1)] σ (bk G mX8_echoAt rX8_echoAt 1 6 5 [some (vR x0), some (vI x1), some (vI x2), none] [] K)) : Runs G mX8_echoAt rX8_echoAt [(vR x0), (vI x1), (vI x2)] σ K := Runs.of (by decide) rfl (Nat.le_of_ble_eq_true rfl) (vX8_echoAt_0 gk h)
theorem vX8_echoAt_5 {G : GG} (gk : GOK G) {σ : Mm} {K : RES → Mm → Prop} {x0 : Option Nat} {x1 : Int32} {x2 : Int32} {s0 : Option Nat}
    (h : ∃ a1, s0 = some a1 ∧ (mt σ a1).1 = 6 ∧ Runs G mX5_letterAt rX5_letterAt [(vR s0), (vI x2)] σ (bk G mX8_echoAt rX8_echoAt 1 6 9 [some (vR x0), some (vI x1), some (vI x2), none] [] K)) : At G mX8_echoAt rX8_echoAt 1 6 5 [some (vR x0), some (vI x1), some (vI x2), none] [(vR s0)] σ K := by
  refine s_iload_n (i := 2) dX8_echoAt_5 rfl rfl ?_
  obtain ⟨a1, ea1, h⟩ := h
  obtain ⟨t2, h⟩ := h
  exact t_callV (ci := 5) (as := [(vI x2)]) (S := []) gk dX8_echoAt_6 gX8_135 (by decide) rfl w_884 w_885 ea1 t2 rfl rfl (Nat.le_of_ble_eq_true rfl) (by decide) h
theorem vX8_echoAt_9 {G : GG} (gk : GOK G) (hst : STR G) {σ : Mm} {K : RES → Mm → Prop} {x0 : Option Nat} {x1 : Int32} {x2 : Int32} {s0 : Int32}
    (h : ((¬ s0 = (32 : Int32) → isC s0 ∧ K (.inl (some (vI s0))) σ) ∧ (s0 = (32 : Int32) → (∀ k, K (.inr "java/util/NoSuchElementException") (sk σ k))))) : At G mX8_echoAt rX8_echoAt 1 6 9 [some (vR x0), some (vI x1), some (vI x2), none] [(vI s0)] σ K := by
  refine s_istore_n (i := 3) (L' := [some (vR x0), some (vI x1), some (vI x2), some (vI s0)]) dX8_echoAt_9 rfl rfl (by decide) rfl ?_
  refine s_iload_n (i := 3) dX8_echoAt_10 rfl rfl ?_
  refine s_bipush (v := 32) dX8_echoAt_11 (by decide) ?_
  refine s_icmp_ne (tgt := 26) dX8_echoAt_13 (by decide) (fun q1 => ?_) (fun q1 => ?_)
  · have h := h.1 q1
    refine s_iload_n (i := 3) dX8_echoAt_26 rfl rfl ?_
    obtain ⟨c2, h⟩ := h
    exact s_ireturn dX8_echoAt_27 rfl (nf_c c2).1 (by decide) (by decide) h
  · have h := h.2 q1
    exact s_thr0 gk hst thx_142 w_464 w_18 (tl_4 (List.mem_of_getElem? (i := 167) rfl)) dX8_echoAt_16 dX8_echoAt_19 (Or.inl ⟨dX8_echoAt_20, rfl⟩) dX8_echoAt_22 dX8_echoAt_25 (by decide) (by decide) (by decide) (by decide) h
theorem vX8_hasEcho_0 {G : GG} (gk : GOK G) {σ : Mm} {K : RES → Mm → Prop} {x0 : Option Nat} {x1 : Int32} {x2 : Int32}
    (h : ∃ a1, x0 = some a1 ∧ (mt σ a1).1 = 9 ∧ Runs G mX8_wantShelf rX8_wantShelf [(vR x0), (vI x1)] σ (bk G mX8_hasEcho rX8_hasEcho 1 6 5 [some (vR x0), some (vI x1), some (vI x2)] [] K)) : At G mX8_hasEcho rX8_hasEcho 0 0 0 [some (vR x0), some (vI x1), some (vI x2)] [] σ K := by
  refine s_aload_n (i := 0) dX8_hasEcho_0 rfl rfl ?_
  refine s_iload_n (i := 1) dX8_hasEcho_1 rfl rfl ?_
  obtain ⟨a1, ea1, h⟩ := h
  obtain ⟨t2, h⟩ := h
  exact t_callV (ci := 8) (as := [(vI x1)]) (S := []) gk dX8_hasEcho_2 gX8_110 (by decide) rfl w_791 wp_1 ea1 t2 rfl rfl (Nat.le_of_ble_eq_true rfl) (by decide) h
theorem eX8_hasEcho {G : GG} (gk : GOK G) {σ : Mm} {K : RES → Mm → Prop} {x0 : Option Nat} {x1 : Int32} {x2 : Int32}
    (h : ∃ a1, x0 = some a1 ∧ (mt σ a1).1 = 9 ∧ Runs G mX8_wantShelf rX8_wantShelf [(vR x0), (vI x1)] σ (bk G mX8_hasEcho rX8_hasEcho 1 6 5 [some (vR x0), some (vI x1), some (vI x2)] [] K)) : Runs G mX8_hasEcho rX8_hasEcho [(vR x0), (vI x1), (vI x2)] σ K := Runs.of (by decide) rfl (Nat.le_of_ble_eq_true rfl) (vX8_hasEcho_0 gk h)
theorem vX8_hasEcho_5 {G : GG} (gk : GOK G) {σ : Mm} {K : RES → Mm → Prop} {x0 : Option Nat} {x1 : Int32} {x2 : Int32} {s0 : Option Nat}
    (h : ∃ a1, s0 = some a1 ∧ (mt σ a1).1 = 6 ∧ Runs G mX5_find rX5_find [(vR s0), (vI x2)] σ (bk G mX8_hasEcho rX8_hasEcho 1 6 9 [some (vR x0), some (vI x1), some (vI x2)] [] K)) : At G mX8_hasEcho rX8_hasEcho 1 6 5 [some (vR x0), some (vI x1), some (vI x2)] [(vR s0)] σ K := by
  refine s_iload_n (i := 2) dX8_hasEcho_5 rfl rfl ?_
  obtain ⟨a1, ea1, h⟩ := h
  obtain ⟨t2, h⟩ := h
  exact t_callV (ci := 5) (as := [(vI x2)]) (S := []) gk dX8_hasEcho_6 gX8_143 (by decide) rfl w_668 w_669 ea1 t2 rfl rfl (Nat.le_of_ble_eq_true rfl) (by decide) h
theorem vX8_hasEcho_9 {G : GG} (gk : GOK G) {σ : Mm} {K : RES → Mm → Prop} {x0 : Option Nat} {x1 : Int32} {x2 : Int32} {s0 : Option Nat}
    (h : ((s0 = none → K (.inl (some (vI (0 : Int32)))) σ) ∧ (∀ a2, s0 = some a2 → K (.inl (some (vI (1 : Int32)))) σ))) : At G mX8_hasEcho rX8_hasEcho 1 6 9 [some (vR x0), some (vI x1), some (vI x2)] [(vR s0)] σ K := by
  refine s_ifnull (tgt := 16) dX8_hasEcho_9 (by decide) (fun q1 => ?_) (fun a2 ea2 => ?_)
  · have h := h.1 q1
    refine s_iconst (v := 0) dX8_hasEcho_16 (by decide) ?_
    exact s_ireturn dX8_hasEcho_17 rfl rfl (by decide) (by decide) h
  · have h := h.2 a2 ea2
    refine s_iconst (v := 1) dX8_hasEcho_12 (by decide) ?_
    refine s_goto (tgt := 17) dX8_hasEcho_13 (by decide) ?_
    exact s_ireturn dX8_hasEcho_17 rfl rfl (by decide) (by decide) h
theorem vX8_echoOf_0 {G : GG} (gk : GOK G) {σ : Mm} {K : RES → Mm → Prop} {x0 : Option Nat} {x1 : Int32} {x2 : Int32}
    (h : ∃ a1, x0 = some a1 ∧ (mt σ a1).1 = 9 ∧ Runs G mX8_wantEcho rX8_wantEcho [(vR x0), (vI x1), (vI x2)] σ (bk G mX8_echoOf rX8_echoOf 2 12 6 [some (vR x0), some (vI x1), some (vI x2)] [] K)) : At G mX8_echoOf rX8_echoOf 0 0 0 [some (vR x0), some (vI x1), some (vI x2)] [] σ K := by
  refine s_aload_n (i := 0) dX8_echoOf_0 rfl rfl ?_
  refine s_iload_n (i := 1) dX8_echoOf_1 rfl rfl ?_
  refine s_iload_n (i := 2) dX8_echoOf_2 rfl rfl ?_
  obtain ⟨a1, ea1, h⟩ := h
  obtain ⟨t2, h⟩ := h
  exact t_callV (ci := 8) (as := [(vI x1), (vI x2)]) (S := []) gk dX8_echoOf_3 gX8_147 (by decide) rfl w_851 wp_3 ea1 t2 rfl rfl (Nat.le_of_ble_eq_true rfl) (by decide) h
theorem eX8_echoOf {G : GG} (gk : GOK G) {σ : Mm} {K : RES → Mm → Prop} {x0 : Option Nat} {x1 : Int32} {x2 : Int32}
    (h : ∃ a1, x0 = some a1 ∧ (mt σ a1).1 = 9 ∧ Runs G mX8_wantEcho rX8_wantEcho [(vR x0), (vI x1), (vI x2)] σ (bk G mX8_echoOf rX8_echoOf 2 12 6 [some (vR x0), some (vI x1), some (vI x2)] [] K)) : Runs G mX8_echoOf rX8_echoOf [(vR x0), (vI x1), (vI x2)] σ K := Runs.of (by decide) rfl (Nat.le_of_ble_eq_true rfl) (vX8_echoOf_0 gk h)
theorem vX8_echoOf_6 {G : GG} (gk : GOK G) {σ : Mm} {K : RES → Mm → Prop} {x0 : Option Nat} {x1 : Int32} {x2 : Int32} {s0 : Option Nat}
    (h : ∃ a1, s0 = some a1 ∧ (mt σ a1).1 = 3 ∧ K (.inl (some (vI (mi σ a1 2)))) σ) : At G mX8_echoOf rX8_echoOf 2 12 6 [some (vR x0), some (vI x1), some (vI x2)] [(vR s0)] σ K := by
  obtain ⟨a1, ea1, h⟩ := h
  obtain ⟨t2, h⟩ := h
  refine t_getI gk dX8_echoOf_6 fX8_151 rfl ea1 t2 ?_
  exact s_ireturn dX8_echoOf_9 rfl rfl (by decide) (by decide) h
theorem vX8_ageOf_0 {G : GG} (gk : GOK G) {σ : Mm} {K : RES → Mm → Prop} {x0 : Option Nat} {x1 : Int32} {x2 : Int32}
    (h : ∃ a1, x0 = some a1 ∧ (mt σ a1).1 = 9 ∧ Runs G mX8_wantEcho rX8_wantEcho [(vR x0), (vI x1), (vI x2)] σ (bk G mX8_ageOf rX8_ageOf 2 12 6 [some (vR x0), some (vI x1), some (vI x2)] [] K)) : At G mX8_ageOf rX8_ageOf 0 0 0 [some (vR x0), some (vI x1), some (vI x2)] [] σ K := by
  refine s_aload_n (i := 0) dX8_ageOf_0 rfl rfl ?_
  refine s_iload_n (i := 1) dX8_ageOf_1 rfl rfl ?_
  refine s_iload_n (i := 2) dX8_ageOf_2 rfl rfl ?_
  obtain ⟨a1, ea1, h⟩ := h
  obtain ⟨t2, h⟩ := h
  exact t_callV (ci := 8) (as := [(vI x1), (vI x2)]) (S := []) gk dX8_ageOf_3 gX8_147 (by decide) rfl w_851 wp_3 ea1 t2 rfl rfl (Nat.le_of_ble_eq_true rfl) (by decide) h
theorem eX8_ageOf {G : GG} (gk : GOK G) {σ : Mm} {K : RES → Mm → Prop} {x0 : Option Nat} {x1 : Int32} {x2 : Int32}
    (h : ∃ a1, x0 = some a1 ∧ (mt σ a1).1 = 9 ∧ Runs G mX8_wantEcho rX8_wantEcho [(vR x0), (vI x1), (vI x2)] σ (bk G mX8_ageOf rX8_ageOf 2 12 6 [some (vR x0), some (vI x1), some (vI x2)] [] K)) : Runs G mX8_ageOf rX8_ageOf [(vR x0), (vI x1), (vI x2)] σ K := Runs.of (by decide) rfl (Nat.le_of_ble_eq_true rfl) (vX8_ageOf_0 gk h)
theorem vX8_ageOf_6 {G : GG} (gk : GOK G) {σ : Mm} {K : RES → Mm → Prop} {x0 : Option Nat} {x1 : Int32} {x2 : Int32} {s0 : Option Nat}
    (h : ∃ a1, x0 = some a1 ∧ (mt σ a1).1 = 9 ∧ ∃ a3, mr σ a1 0 = some a3 ∧ (mt σ a3).1 = 7 ∧ ∃ a5, s0 = some a5 ∧ (mt σ a5).1 = 3 ∧ Runs G mX2_age rX2_age [(vR s0), (vI (mi σ a3 3))] σ (bk G mX8_ageOf rX8_ageOf 2 12 16 [some (vR x0), some (vI x1), some (vI x2)] [] K)) : At G mX8_ageOf rX8_ageOf 2 12 6 [some (vR x0), some (vI x1), some (vI x2)] [(vR s0)] σ K := by
  refine s_aload_n (i := 0) dX8_ageOf_6 rfl rfl ?_
  obtain ⟨a1, ea1, h⟩ := h
  obtain ⟨t2, h⟩ := h
  refine t_getR gk dX8_ageOf_7 fX8_10 rfl ea1 t2 ?_
  obtain ⟨a3, ea3, h⟩ := h
  obtain ⟨t4, h⟩ := h
  refine t_getI gk dX8_ageOf_10 fX8_154 rfl ea3 t4 ?_
  obtain ⟨a5, ea5, h⟩ := h
  obtain ⟨t6, h⟩ := h
  exact t_callV (ci := 2) (as := [(vI (mi σ a3 3))]) (S := []) gk dX8_ageOf_13 gX8_157 (by decide) rfl w_681 w_682 ea5 t6 rfl rfl (Nat.le_of_ble_eq_true rfl) (by decide) h
theorem vX8_ageOf_16 {G : GG} (gk : GOK G) {σ : Mm} {K : RES → Mm → Prop} {x0 : Option Nat} {x1 : Int32} {x2 : Int32} {s0 : Int32}
    (h : K (.inl (some (vI s0))) σ) : At G mX8_ageOf rX8_ageOf 2 12 16 [some (vR x0), some (vI x1), some (vI x2)] [(vI s0)] σ K := by
  exact s_ireturn dX8_ageOf_16 rfl rfl (by decide) (by decide) h
theorem vX8_hitsOf_0 {G : GG} (gk : GOK G) {σ : Mm} {K : RES → Mm → Prop} {x0 : Option Nat} {x1 : Int32} {x2 : Int32}
    (h : ∃ a1, x0 = some a1 ∧ (mt σ a1).1 = 9 ∧ Runs G mX8_wantEcho rX8_wantEcho [(vR x0), (vI x1), (vI x2)] σ (bk G mX8_hitsOf rX8_hitsOf 2 12 6 [some (vR x0), some (vI x1), some (vI x2)] [] K)) : At G mX8_hitsOf rX8_hitsOf 0 0 0 [some (vR x0), some (vI x1), some (vI x2)] [] σ K := by
  refine s_aload_n (i := 0) dX8_hitsOf_0 rfl rfl ?_
  refine s_iload_n (i := 1) dX8_hitsOf_1 rfl rfl ?_
  refine s_iload_n (i := 2) dX8_hitsOf_2 rfl rfl ?_
  obtain ⟨a1, ea1, h⟩ := h
  obtain ⟨t2, h⟩ := h
  exact t_callV (ci := 8) (as := [(vI x1), (vI x2)]) (S := []) gk dX8_hitsOf_3 gX8_147 (by decide) rfl w_851 wp_3 ea1 t2 rfl rfl (Nat.le_of_ble_eq_true rfl) (by decide) h
theorem eX8_hitsOf {G : GG} (gk : GOK G) {σ : Mm} {K : RES → Mm → Prop} {x0 : Option Nat} {x1 : Int32} {x2 : Int32}
    (h : ∃ a1, x0 = some a1 ∧ (mt σ a1).1 = 9 ∧ Runs G mX8_wantEcho rX8_wantEcho [(vR x0), (vI x1), (vI x2)] σ (bk G mX8_hitsOf rX8_hitsOf 2 12 6 [some (vR x0), some (vI x1), some (vI x2)] [] K)) : Runs G mX8_hitsOf rX8_hitsOf [(vR x0), (vI x1), (vI x2)] σ K := Runs.of (by decide) rfl (Nat.le_of_ble_eq_true rfl) (vX8_hitsOf_0 gk h)
theorem vX8_hitsOf_6 {G : GG} (gk : GOK G) {σ : Mm} {K : RES → Mm → Prop} {x0 : Option Nat} {x1 : Int32} {x2 : Int32} {s0 : Option Nat}
    (h : ∃ a1, s0 = some a1 ∧ (mt σ a1).1 = 3 ∧ K (.inl (some (vI (mi σ a1 6)))) σ) : At G mX8_hitsOf rX8_hitsOf 2 12 6 [some (vR x0), some (vI x1), some (vI x2)] [(vR s0)] σ K := by
  obtain ⟨a1, ea1, h⟩ := h
  obtain ⟨t2, h⟩ := h
  refine t_getI gk dX8_hitsOf_6 fX8_161 rfl ea1 t2 ?_
  exact s_ireturn dX8_hitsOf_9 rfl rfl (by decide) (by decide) h
theorem vX8_isExpired_0 {G : GG} (gk : GOK G) {σ : Mm} {K : RES → Mm → Prop} {x0 : Option Nat} {x1 : Int32} {x2 : Int32}
    (h : ∃ a1, x0 = some a1 ∧ (mt σ a1).1 = 9 ∧ Runs G mX8_wantEcho rX8_wantEcho [(vR x0), (vI x1), (vI x2)] σ (bk G mX8_isExpired rX8_isExpired 2 12 6 [some (vR x0), some (vI x1), some (vI x2), none] [] K)) : At G mX8_isExpired rX8_isExpired 0 0 0 [some (vR x0), some (vI x1), some (vI x2), none] [] σ K := by
  refine s_aload_n (i := 0) dX8_isExpired_0 rfl rfl ?_
  refine s_iload_n (i := 1) dX8_isExpired_1 rfl rfl ?_
  refine s_iload_n (i := 2) dX8_isExpired_2 rfl rfl ?_
  obtain ⟨a1, ea1, h⟩ := h
  obtain ⟨t2, h⟩ := h
  exact t_callV (ci := 8) (as := [(vI x1), (vI x2)]) (S := []) gk dX8_isExpired_3 gX8_147 (by decide) rfl w_851 wp_3 ea1 t2 rfl rfl (Nat.le_of_ble_eq_true rfl) (by decide) h
theorem eX8_isExpired {G : GG} (gk : GOK G) {σ : Mm} {K : RES → Mm → Prop} {x0 : Option Nat} {x1 : Int32} {x2 : Int32}
    (h : ∃ a1, x0 = some a1 ∧ (mt σ a1).1 = 9 ∧ Runs G mX8_wantEcho rX8_wantEcho [(vR x0), (vI x1), (vI x2)] σ (bk G mX8_isExpired rX8_isExpired 2 12 6 [some (vR x0), some (vI x1), some (vI x2), none] [] K)) : Runs G mX8_isExpired rX8_isExpired [(vR x0), (vI x1), (vI x2)] σ K := Runs.of (by decide) rfl (Nat.le_of_ble_eq_true rfl) (vX8_isExpired_0 gk h)
theorem vX8_isExpired_6 {G : GG} (gk : GOK G) {σ : Mm} {K : RES → Mm → Prop} {x0 : Option Nat} {x1 : Int32} {x2 : Int32} {s0 : Option Nat}
    (h : ∃ a1, x0 = some a1 ∧ (mt σ a1).1 = 9 ∧ Runs G mX8_wantShelf rX8_wantShelf [(vR x0), (vI x1)] σ (bk G mX8_isExpired rX8_isExpired 3 18 12 [some (vR x0), some (vI x1), some (vI x2), some (vR s0)] [] K)) : At G mX8_isExpired rX8_isExpired 2 12 6 [some (vR x0), some (vI x1), some (vI x2), none] [(vR s0)] σ K := by
  refine s_astore_n (i := 3) (L' := [some (vR x0), some (vI x1), some (vI x2), some (vR s0)]) dX8_isExpired_6 rfl rfl (by decide) rfl ?_
  refine s_aload_n (i := 0) dX8_isExpired_7 rfl rfl ?_
  refine s_iload_n (i := 1) dX8_isExpired_8 rfl rfl ?_
  obtain ⟨a1, ea1, h⟩ := h
  obtain ⟨t2, h⟩ := h
  exact t_callV (ci := 8) (as := [(vI x1)]) (S := []) gk dX8_isExpired_9 gX8_110 (by decide) rfl w_791 wp_1 ea1 t2 rfl rfl (Nat.le_of_ble_eq_true rfl) (by decide) h
theorem vX8_isExpired_12 {G : GG} (gk : GOK G) {σ : Mm} {K : RES → Mm → Prop} {x0 : Option Nat} {x1 : Int32} {x2 : Int32} {x3 : Option Nat} {s0 : Option Nat}
    (h : ∃ a1, x0 = some a1 ∧ (mt σ a1).1 = 9 ∧ ∃ a3, mr σ a1 0 = some a3 ∧ (mt σ a3).1 = 7 ∧ ∃ a5, s0 = some a5 ∧ (mt σ a5).1 = 6 ∧ Runs G mX5_hasOutlived rX5_hasOutlived [(vR s0), (vR x3), (vI (mi σ a3 3))] σ (bk G mX8_isExpired rX8_isExpired 3 18 23 [some (vR x0), some (vI x1), some (vI x2), some (vR x3)] [] K)) : At G mX8_isExpired rX8_isExpired 3 18 12 [some (vR x0), some (vI x1), some (vI x2), some (vR x3)] [(vR s0)] σ K := by
  refine s_aload_n (i := 3) dX8_isExpired_12 rfl rfl ?_
  refine s_aload_n (i := 0) dX8_isExpired_13 rfl rfl ?_
  obtain ⟨a1, ea1, h⟩ := h
  obtain ⟨t2, h⟩ := h
  refine t_getR gk dX8_isExpired_14 fX8_10 rfl ea1 t2 ?_
  obtain ⟨a3, ea3, h⟩ := h
  obtain ⟨t4, h⟩ := h
  refine t_getI gk dX8_isExpired_17 fX8_154 rfl ea3 t4 ?_
  obtain ⟨a5, ea5, h⟩ := h
  obtain ⟨t6, h⟩ := h
  exact t_callV (ci := 5) (as := [(vR x3), (vI (mi σ a3 3))]) (S := []) gk dX8_isExpired_20 gX8_164 (by decide) rfl w_677 w_678 ea5 t6 rfl rfl (Nat.le_of_ble_eq_true rfl) (by decide) h
theorem vX8_isExpired_23 {G : GG} (gk : GOK G) {σ : Mm} {K : RES → Mm → Prop} {x0 : Option Nat} {x1 : Int32} {x2 : Int32} {x3 : Option Nat} {s0 : Int32}
    (h : isZ s0 ∧ K (.inl (some (vI s0))) σ) : At G mX8_isExpired rX8_isExpired 3 18 23 [some (vR x0), some (vI x1), some (vI x2), some (vR x3)] [(vI s0)] σ K := by
  obtain ⟨c1, h⟩ := h
  exact s_ireturn dX8_isExpired_23 rfl (nf_z c1).1 (by decide) (by decide) h
theorem vX8_isOpen_0 {G : GG} (gk : GOK G) {σ : Mm} {K : RES → Mm → Prop} {x0 : Option Nat} {x1 : Int32} {x2 : Int32}
    (h : ∃ a1, x0 = some a1 ∧ (mt σ a1).1 = 9 ∧ Runs G mX8_wantEcho rX8_wantEcho [(vR x0), (vI x1), (vI x2)] σ (bk G mX8_isOpen rX8_isOpen 2 12 6 [some (vR x0), some (vI x1), some (vI x2)] [] K)) : At G mX8_isOpen rX8_isOpen 0 0 0 [some (vR x0), some (vI x1), some (vI x2)] [] σ K := by
  refine s_aload_n (i := 0) dX8_isOpen_0 rfl rfl ?_
  refine s_iload_n (i := 1) dX8_isOpen_1 rfl rfl ?_
  refine s_iload_n (i := 2) dX8_isOpen_2 rfl rfl ?_
  obtain ⟨a1, ea1, h⟩ := h
  obtain ⟨t2, h⟩ := h
  exact t_callV (ci := 8) (as := [(vI x1), (vI x2)]) (S := []) gk dX8_isOpen_3 gX8_147 (by decide) rfl w_851 wp_3 ea1 t2 rfl rfl (Nat.le_of_ble_eq_true rfl) (by decide) h
theorem eX8_isOpen {G : GG} (gk : GOK G) {σ : Mm} {K : RES → Mm → Prop} {x0 : Option Nat} {x1 : Int32} {x2 : Int32}
    (h : ∃ a1, x0 = some a1 ∧ (mt σ a1).1 = 9 ∧ Runs G mX8_wantEcho rX8_wantEcho [(vR x0), (vI x1), (vI x2)] σ (bk G mX8_isOpen rX8_isOpen 2 12 6 [some (vR x0), some (vI x1), some (vI x2)] [] K)) : Runs G mX8_isOpen rX8_isOpen [(vR x0), (vI x1), (vI x2)] σ K := Runs.of (by decide) rfl (Nat.le_of_ble_eq_true rfl) (vX8_isOpen_0 gk h)
theorem vX8_isOpen_6 {G : GG} (gk : GOK G) {σ : Mm} {K : RES → Mm → Prop} {x0 : Option Nat} {x1 : Int32} {x2 : Int32} {s0 : Option Nat}
    (h : ∃ a1, s0 = some a1 ∧ (mt σ a1).1 = 3 ∧ isZ (mi σ a1 8) ∧ K (.inl (some (vI (mi σ a1 8)))) σ) : At G mX8_isOpen rX8_isOpen 2 12 6 [some (vR x0), some (vI x1), some (vI x2)] [(vR s0)] σ K := by
  obtain ⟨a1, ea1, h⟩ := h
  obtain ⟨t2, h⟩ := h
  refine t_getI gk dX8_isOpen_6 fX8_168 rfl ea1 t2 ?_
  obtain ⟨c3, h⟩ := h
  exact s_ireturn dX8_isOpen_9 rfl (nf_z c3).1 (by decide) (by decide) h
theorem vX8_isTrue_0 {G : GG} (gk : GOK G) {σ : Mm} {K : RES → Mm → Prop} {x0 : Option Nat} {x1 : Int32} {x2 : Int32}
    (h : ∃ a1, x0 = some a1 ∧ (mt σ a1).1 = 9 ∧ Runs G mX8_wantEcho rX8_wantEcho [(vR x0), (vI x1), (vI x2)] σ (bk G mX8_isTrue rX8_isTrue 2 12 10 [some (vR x0), some (vI x1), some (vI x2)] [(vR (mr σ a1 0))] K)) : At G mX8_isTrue rX8_isTrue 0 0 0 [some (vR x0), some (vI x1), some (vI x2)] [] σ K := by
  refine s_aload_n (i := 0) dX8_isTrue_0 rfl rfl ?_
  obtain ⟨a1, ea1, h⟩ := h
  obtain ⟨t2, h⟩ := h
  refine t_getR gk dX8_isTrue_1 fX8_10 rfl ea1 t2 ?_
  refine s_aload_n (i := 0) dX8_isTrue_4 rfl rfl ?_
  refine s_iload_n (i := 1) dX8_isTrue_5 rfl rfl ?_
  refine s_iload_n (i := 2) dX8_isTrue_6 rfl rfl ?_
  exact t_callV (ci := 8) (as := [(vI x1), (vI x2)]) (S := [(vR (mr σ a1 0))]) gk dX8_isTrue_7 gX8_147 (by decide) rfl w_851 wp_3 ea1 t2 rfl rfl (Nat.le_of_ble_eq_true rfl) (by decide) h
theorem eX8_isTrue {G : GG} (gk : GOK G) {σ : Mm} {K : RES → Mm → Prop} {x0 : Option Nat} {x1 : Int32} {x2 : Int32}
    (h : ∃ a1, x0 = some a1 ∧ (mt σ a1).1 = 9 ∧ Runs G mX8_wantEcho rX8_wantEcho [(vR x0), (vI x1), (vI x2)] σ (bk G mX8_isTrue rX8_isTrue 2 12 10 [some (vR x0), some (vI x1), some (vI x2)] [(vR (mr σ a1 0))] K)) : Runs G mX8_isTrue rX8_isTrue [(vR x0), (vI x1), (vI x2)] σ K := Runs.of (by decide) rfl (Nat.le_of_ble_eq_true rfl) (vX8_isTrue_0 gk h)
theorem vX8_isTrue_10 {G : GG} (gk : GOK G) {σ : Mm} {K : RES → Mm → Prop} {x0 : Option Nat} {x1 : Int32} {x2 : Int32} {s0 : Option Nat} {s1 : Option Nat}
    (h : ∃ a1, s1 = some a1 ∧ (mt σ a1).1 = 7 ∧ Runs G mX6_isTrueByCount rX6_isTrueByCount [(vR s1), (vR s0)] σ (bk G mX8_isTrue rX8_isTrue 2 12 13 [some (vR x0), some (vI x1), some (vI x2)] [] K)) : At G mX8_isTrue rX8_isTrue 2 12 10 [some (vR x0), some (vI x1), some (vI x2)] [(vR s0), (vR s1)] σ K := by
  obtain ⟨a1, ea1, h⟩ := h
  obtain ⟨t2, h⟩ := h
  exact t_callV (ci := 6) (as := [(vR s0)]) (S := []) gk dX8_isTrue_10 gX8_171 (by decide) rfl w_899 w_900 ea1 t2 rfl rfl (Nat.le_of_ble_eq_true rfl) (by decide) h
theorem vX8_isTrue_13 {G : GG} (gk : GOK G) {σ : Mm} {K : RES → Mm → Prop} {x0 : Option Nat} {x1 : Int32} {x2 : Int32} {s0 : Int32}
    (h : isZ s0 ∧ K (.inl (some (vI s0))) σ) : At G mX8_isTrue rX8_isTrue 2 12 13 [some (vR x0), some (vI x1), some (vI x2)] [(vI s0)] σ K := by
  obtain ⟨c1, h⟩ := h
  exact s_ireturn dX8_isTrue_13 rfl (nf_z c1).1 (by decide) (by decide) h
theorem vX8_isTrueBySteps_0 {G : GG} (gk : GOK G) {σ : Mm} {K : RES → Mm → Prop} {x0 : Option Nat} {x1 : Int32} {x2 : Int32}
    (h : ∃ a1, x0 = some a1 ∧ (mt σ a1).1 = 9 ∧ Runs G mX8_wantEcho rX8_wantEcho [(vR x0), (vI x1), (vI x2)] σ (bk G mX8_isTrueBySteps rX8_isTrueBySteps 2 12 10 [some (vR x0), some (vI x1), some (vI x2)] [(vR (mr σ a1 0))] K)) : At G mX8_isTrueBySteps rX8_isTrueBySteps 0 0 0 [some (vR x0), some (vI x1), some (vI x2)] [] σ K := by
  refine s_aload_n (i := 0) dX8_isTrueBySteps_0 rfl rfl ?_
  obtain ⟨a1, ea1, h⟩ := h
  obtain ⟨t2, h⟩ := h
  refine t_getR gk dX8_isTrueBySteps_1 fX8_10 rfl ea1 t2 ?_
  refine s_aload_n (i := 0) dX8_isTrueBySteps_4 rfl rfl ?_
  refine s_iload_n (i := 1) dX8_isTrueBySteps_5 rfl rfl ?_
  refine s_iload_n (i := 2) dX8_isTrueBySteps_6 rfl rfl ?_
  exact t_callV (ci := 8) (as := [(vI x1), (vI x2)]) (S := [(vR (mr σ a1 0))]) gk dX8_isTrueBySteps_7 gX8_147 (by decide) rfl w_851 wp_3 ea1 t2 rfl rfl (Nat.le_of_ble_eq_true rfl) (by decide) h
theorem eX8_isTrueBySteps {G : GG} (gk : GOK G) {σ : Mm} {K : RES → Mm → Prop} {x0 : Option Nat} {x1 : Int32} {x2 : Int32}
    (h : ∃ a1, x0 = some a1 ∧ (mt σ a1).1 = 9 ∧ Runs G mX8_wantEcho rX8_wantEcho [(vR x0), (vI x1), (vI x2)] σ (bk G mX8_isTrueBySteps rX8_isTrueBySteps 2 12 10 [some (vR x0), some (vI x1), some (vI x2)] [(vR (mr σ a1 0))] K)) : Runs G mX8_isTrueBySteps rX8_isTrueBySteps [(vR x0), (vI x1), (vI x2)] σ K := Runs.of (by decide) rfl (Nat.le_of_ble_eq_true rfl) (vX8_isTrueBySteps_0 gk h)
theorem vX8_isTrueBySteps_10 {G : GG} (gk : GOK G) {σ : Mm} {K : RES → Mm → Prop} {x0 : Option Nat} {x1 : Int32} {x2 : Int32} {s0 : Option Nat} {s1 : Option Nat}
    (h : ∃ a1, s1 = some a1 ∧ (mt σ a1).1 = 7 ∧ Runs G mX6_isTrueByOrder rX6_isTrueByOrder [(vR s1), (vR s0)] σ (bk G mX8_isTrueBySteps rX8_isTrueBySteps 2 12 13 [some (vR x0), some (vI x1), some (vI x2)] [] K)) : At G mX8_isTrueBySteps rX8_isTrueBySteps 2 12 10 [some (vR x0), some (vI x1), some (vI x2)] [(vR s0), (vR s1)] σ K := by
  obtain ⟨a1, ea1, h⟩ := h
  obtain ⟨t2, h⟩ := h
  exact t_callV (ci := 6) (as := [(vR s0)]) (S := []) gk dX8_isTrueBySteps_10 gX8_175 (by decide) rfl w_917 w_918 ea1 t2 rfl rfl (Nat.le_of_ble_eq_true rfl) (by decide) h
theorem vX8_isTrueBySteps_13 {G : GG} (gk : GOK G) {σ : Mm} {K : RES → Mm → Prop} {x0 : Option Nat} {x1 : Int32} {x2 : Int32} {s0 : Int32}
    (h : isZ s0 ∧ K (.inl (some (vI s0))) σ) : At G mX8_isTrueBySteps rX8_isTrueBySteps 2 12 13 [some (vR x0), some (vI x1), some (vI x2)] [(vI s0)] σ K := by
  obtain ⟨c1, h⟩ := h
  exact s_ireturn dX8_isTrueBySteps_13 rfl (nf_z c1).1 (by decide) (by decide) h
theorem vX8_victimOf_0 {G : GG} (gk : GOK G) {σ : Mm} {K : RES → Mm → Prop} {x0 : Option Nat} {x1 : Int32}
    (h : ∃ a1, x0 = some a1 ∧ (mt σ a1).1 = 9 ∧ Runs G mX8_wantShelf rX8_wantShelf [(vR x0), (vI x1)] σ (bk G mX8_victimOf rX8_victimOf 1 6 5 [some (vR x0), some (vI x1), none] [] K)) : At G mX8_victimOf rX8_victimOf 0 0 0 [some (vR x0), some (vI x1), none] [] σ K := by
  refine s_aload_n (i := 0) dX8_victimOf_0 rfl rfl ?_
  refine s_iload_n (i := 1) dX8_victimOf_1 rfl rfl ?_
  obtain ⟨a1, ea1, h⟩ := h
  obtain ⟨t2, h⟩ := h
  exact t_callV (ci := 8) (as := [(vI x1)]) (S := []) gk dX8_victimOf_2 gX8_110 (by decide) rfl w_791 wp_1 ea1 t2 rfl rfl (Nat.le_of_ble_eq_true rfl) (by decide) h
theorem eX8_victimOf {G : GG} (gk : GOK G) {σ : Mm} {K : RES → Mm → Prop} {x0 : Option Nat} {x1 : Int32}
    (h : ∃ a1, x0 = some a1 ∧ (mt σ a1).1 = 9 ∧ Runs G mX8_wantShelf rX8_wantShelf [(vR x0), (vI x1)] σ (bk G mX8_victimOf rX8_victimOf 1 6 5 [some (vR x0), some (vI x1), none] [] K)) : Runs G mX8_victimOf rX8_victimOf [(vR x0), (vI x1)] σ K := Runs.of (by decide) rfl (Nat.le_of_ble_eq_true rfl) (vX8_victimOf_0 gk h)
theorem vX8_victimOf_5 {G : GG} (gk : GOK G) {σ : Mm} {K : RES → Mm → Prop} {x0 : Option Nat} {x1 : Int32} {s0 : Option Nat}
    (h : ∃ a1, s0 = some a1 ∧ (mt σ a1).1 = 6 ∧ Runs G mX5_firstInOrder rX5_firstInOrder [(vR s0)] σ (bk G mX8_victimOf rX8_victimOf 1 6 8 [some (vR x0), some (vI x1), none] [] K)) : At G mX8_victimOf rX8_victimOf 1 6 5 [some (vR x0), some (vI x1), none] [(vR s0)] σ K := by
  obtain ⟨a1, ea1, h⟩ := h
  obtain ⟨t2, h⟩ := h
  exact t_callV (ci := 5) (as := []) (S := []) gk dX8_victimOf_5 gX8_178 (by decide) rfl w_713 w_714 ea1 t2 rfl rfl (Nat.le_of_ble_eq_true rfl) (by decide) h
theorem vX8_victimOf_8 {G : GG} (gk : GOK G) (hst : STR G) {σ : Mm} {K : RES → Mm → Prop} {x0 : Option Nat} {x1 : Int32} {s0 : Option Nat}
    (h : ((s0 = none → (∀ k, K (.inr "java/util/NoSuchElementException") (sk σ k))) ∧ (∀ a2, s0 = some a2 → (mt σ a2).1 = 3 ∧ isC (mi σ a2 1) ∧ K (.inl (some (vI (mi σ a2 1)))) σ))) : At G mX8_victimOf rX8_victimOf 1 6 8 [some (vR x0), some (vI x1), none] [(vR s0)] σ K := by
  refine s_astore_n (i := 2) (L' := [some (vR x0), some (vI x1), some (vR s0)]) dX8_victimOf_8 rfl rfl (by decide) rfl ?_
  refine s_aload_n (i := 2) dX8_victimOf_9 rfl rfl ?_
  refine s_ifnonnull (tgt := 23) dX8_victimOf_10 (by decide) (fun a2 ea2 => ?_) (fun q1 => ?_)
  · have h := h.2 a2 ea2
    refine s_aload_n (i := 2) dX8_victimOf_23 rfl rfl ?_
    obtain ⟨t3, h⟩ := h
    refine t_getI gk dX8_victimOf_24 fX8_184 rfl ea2 t3 ?_
    obtain ⟨c4, h⟩ := h
    exact s_ireturn dX8_victimOf_27 rfl (nf_c c4).1 (by decide) (by decide) h
  · have h := h.1 q1
    exact s_thr0 gk hst thx_142 w_464 w_18 (tl_4 (List.mem_of_getElem? (i := 228) rfl)) dX8_victimOf_13 dX8_victimOf_16 (Or.inl ⟨dX8_victimOf_17, rfl⟩) dX8_victimOf_19 dX8_victimOf_22 (by decide) (by decide) (by decide) (by decide) h
theorem vX8_victimByScan_0 {G : GG} (gk : GOK G) {σ : Mm} {K : RES → Mm → Prop} {x0 : Option Nat} {x1 : Int32}
    (h : ∃ a1, x0 = some a1 ∧ (mt σ a1).1 = 9 ∧ Runs G mX8_wantShelf rX8_wantShelf [(vR x0), (vI x1)] σ (bk G mX8_victimByScan rX8_victimByScan 1 6 5 [some (vR x0), some (vI x1), none] [] K)) : At G mX8_victimByScan rX8_victimByScan 0 0 0 [some (vR x0), some (vI x1), none] [] σ K := by
  refine s_aload_n (i := 0) dX8_victimByScan_0 rfl rfl ?_
  refine s_iload_n (i := 1) dX8_victimByScan_1 rfl rfl ?_
  obtain ⟨a1, ea1, h⟩ := h
  obtain ⟨t2, h⟩ := h
  exact t_callV (ci := 8) (as := [(vI x1)]) (S := []) gk dX8_victimByScan_2 gX8_110 (by decide) rfl w_791 wp_1 ea1 t2 rfl rfl (Nat.le_of_ble_eq_true rfl) (by decide) h
theorem eX8_victimByScan {G : GG} (gk : GOK G) {σ : Mm} {K : RES → Mm → Prop} {x0 : Option Nat} {x1 : Int32}
    (h : ∃ a1, x0 = some a1 ∧ (mt σ a1).1 = 9 ∧ Runs G mX8_wantShelf rX8_wantShelf [(vR x0), (vI x1)] σ (bk G mX8_victimByScan rX8_victimByScan 1 6 5 [some (vR x0), some (vI x1), none] [] K)) : Runs G mX8_victimByScan rX8_victimByScan [(vR x0), (vI x1)] σ K := Runs.of (by decide) rfl (Nat.le_of_ble_eq_true rfl) (vX8_victimByScan_0 gk h)
theorem vX8_victimByScan_5 {G : GG} (gk : GOK G) {σ : Mm} {K : RES → Mm → Prop} {x0 : Option Nat} {x1 : Int32} {s0 : Option Nat}
    (h : ∃ a1, s0 = some a1 ∧ (mt σ a1).1 = 6 ∧ Runs G mX5_firstByScan rX5_firstByScan [(vR s0)] σ (bk G mX8_victimByScan rX8_victimByScan 1 6 8 [some (vR x0), some (vI x1), none] [] K)) : At G mX8_victimByScan rX8_victimByScan 1 6 5 [some (vR x0), some (vI x1), none] [(vR s0)] σ K := by
  obtain ⟨a1, ea1, h⟩ := h
  obtain ⟨t2, h⟩ := h
  exact t_callV (ci := 5) (as := []) (S := []) gk dX8_victimByScan_5 gX8_187 (by decide) rfl w_972 w_973 ea1 t2 rfl rfl (Nat.le_of_ble_eq_true rfl) (by decide) h
theorem vX8_victimByScan_8 {G : GG} (gk : GOK G) (hst : STR G) {σ : Mm} {K : RES → Mm → Prop} {x0 : Option Nat} {x1 : Int32} {s0 : Option Nat}
    (h : ((s0 = none → (∀ k, K (.inr "java/util/NoSuchElementException") (sk σ k))) ∧ (∀ a2, s0 = some a2 → (mt σ a2).1 = 3 ∧ isC (mi σ a2 1) ∧ K (.inl (some (vI (mi σ a2 1)))) σ))) : At G mX8_victimByScan rX8_victimByScan 1 6 8 [some (vR x0), some (vI x1), none] [(vR s0)] σ K := by
  refine s_astore_n (i := 2) (L' := [some (vR x0), some (vI x1), some (vR s0)]) dX8_victimByScan_8 rfl rfl (by decide) rfl ?_
  refine s_aload_n (i := 2) dX8_victimByScan_9 rfl rfl ?_
  refine s_ifnonnull (tgt := 23) dX8_victimByScan_10 (by decide) (fun a2 ea2 => ?_) (fun q1 => ?_)
  · have h := h.2 a2 ea2
    refine s_aload_n (i := 2) dX8_victimByScan_23 rfl rfl ?_
    obtain ⟨t3, h⟩ := h
    refine t_getI gk dX8_victimByScan_24 fX8_184 rfl ea2 t3 ?_
    obtain ⟨c4, h⟩ := h
    exact s_ireturn dX8_victimByScan_27 rfl (nf_c c4).1 (by decide) (by decide) h
  · have h := h.1 q1
    exact s_thr0 gk hst thx_142 w_464 w_18 (tl_4 (List.mem_of_getElem? (i := 228) rfl)) dX8_victimByScan_13 dX8_victimByScan_16 (Or.inl ⟨dX8_victimByScan_17, rfl⟩) dX8_victimByScan_19 dX8_victimByScan_22 (by decide) (by decide) (by decide) (by decide) h
theorem vX8_hear_0 {G : GG} (gk : GOK G) {σ : Mm} {K : RES → Mm → Prop} {x0 : Option Nat} {x1 : Int32} {x2 : Int32}
    (h : ∃ a1, x0 = some a1 ∧ (mt σ a1).1 = 9 ∧ ∃ a3, mr σ a1 0 = some a3 ∧ (mt σ a3).1 = 7 ∧ Runs G mX6_hearFault rX6_hearFault [(vR (mr σ a1 0)), (vI x1), (vI x2)] σ (bk G mX8_hear rX8_hear 0 0 9 [some (vR x0), some (vI x1), some (vI x2)] [] K)) : At G mX8_hear rX8_hear 0 0 0 [some (vR x0), some (vI x1), some (vI x2)] [] σ K := by
  refine s_aload_n (i := 0) dX8_hear_0 rfl rfl ?_
  obtain ⟨a1, ea1, h⟩ := h
  obtain ⟨t2, h⟩ := h
  refine t_getR gk dX8_hear_1 fX8_10 rfl ea1 t2 ?_
  refine s_iload_n (i := 1) dX8_hear_4 rfl rfl ?_
  refine s_iload_n (i := 2) dX8_hear_5 rfl rfl ?_
  obtain ⟨a3, ea3, h⟩ := h
  obtain ⟨t4, h⟩ := h
  exact t_callV (ci := 6) (as := [(vI x1), (vI x2)]) (S := []) gk dX8_hear_6 gX8_190 (by decide) rfl w_652 w_653 ea3 t4 rfl rfl (Nat.le_of_ble_eq_true rfl) (by decide) h
theorem eX8_hear {G : GG} (gk : GOK G) {σ : Mm} {K : RES → Mm → Prop} {x0 : Option Nat} {x1 : Int32} {x2 : Int32}
    (h : ∃ a1, x0 = some a1 ∧ (mt σ a1).1 = 9 ∧ ∃ a3, mr σ a1 0 = some a3 ∧ (mt σ a3).1 = 7 ∧ Runs G mX6_hearFault rX6_hearFault [(vR (mr σ a1 0)), (vI x1), (vI x2)] σ (bk G mX8_hear rX8_hear 0 0 9 [some (vR x0), some (vI x1), some (vI x2)] [] K)) : Runs G mX8_hear rX8_hear [(vR x0), (vI x1), (vI x2)] σ K := Runs.of (by decide) rfl (Nat.le_of_ble_eq_true rfl) (vX8_hear_0 gk h)
theorem vX8_hear_9 {G : GG} (gk : GOK G) {σ : Mm} {K : RES → Mm → Prop} {x0 : Option Nat} {x1 : Int32} {x2 : Int32} {s0 : Int32}
    (h : Runs G mX8_refuse rX8_refuse [(vI s0)] σ (bk G mX8_hear rX8_hear 1 6 12 [some (vR x0), some (vI x1), some (vI x2)] [] K)) : At G mX8_hear rX8_hear 0 0 9 [some (vR x0), some (vI x1), some (vI x2)] [(vI s0)] σ K := by
  exact s_callS (as := [(vI s0)]) (S := []) gk dX8_hear_9 gX8_55 w_391 rfl rfl (Nat.le_of_ble_eq_true rfl) (by decide) h
theorem vX8_hear_12 {G : GG} (gk : GOK G) {σ : Mm} {K : RES → Mm → Prop} {x0 : Option Nat} {x1 : Int32} {x2 : Int32}
    (h : ∃ a1, x0 = some a1 ∧ (mt σ a1).1 = 9 ∧ ∃ a3, mr σ a1 1 = some a3 ∧ (mt σ a3).1 = 4 ∧ Runs G mX3_note rX3_note [(vR (mr σ a1 1)), (vR (mr σ a1 0))] σ (bk G mX8_hear rX8_hear 1 6 23 [some (vR x0), some (vI x1), some (vI x2)] [] K)) : At G mX8_hear rX8_hear 1 6 12 [some (vR x0), some (vI x1), some (vI x2)] [] σ K := by
  refine s_aload_n (i := 0) dX8_hear_12 rfl rfl ?_
  obtain ⟨a1, ea1, h⟩ := h
  obtain ⟨t2, h⟩ := h
  refine t_getR gk dX8_hear_13 fX8_19 rfl ea1 t2 ?_
  refine s_aload_n (i := 0) dX8_hear_16 rfl rfl ?_
  refine t_getR gk dX8_hear_17 fX8_10 rfl ea1 t2 ?_
  obtain ⟨a3, ea3, h⟩ := h
  obtain ⟨t4, h⟩ := h
  exact t_callV (ci := 3) (as := [(vR (mr σ a1 0))]) (S := []) gk dX8_hear_20 gX8_59 (by decide) rfl w_513 w_514 ea3 t4 rfl rfl (Nat.le_of_ble_eq_true rfl) (by decide) h
theorem vX8_hear_23 {G : GG} (gk : GOK G) {σ : Mm} {K : RES → Mm → Prop} {x0 : Option Nat} {x1 : Int32} {x2 : Int32}
    (h : ∃ a1, x0 = some a1 ∧ (mt σ a1).1 = 9 ∧ ∃ a3, mr σ a1 0 = some a3 ∧ (mt σ a3).1 = 7 ∧ Runs G mX6_listenTo rX6_listenTo [(vR (mr σ a1 0)), (vI x1), (vI x2)] σ (bk G mX8_hear rX8_hear 1 6 32 [some (vR x0), some (vI x1), some (vI x2)] [] K)) : At G mX8_hear rX8_hear 1 6 23 [some (vR x0), some (vI x1), some (vI x2)] [] σ K := by
  refine s_aload_n (i := 0) dX8_hear_23 rfl rfl ?_
  obtain ⟨a1, ea1, h⟩ := h
  obtain ⟨t2, h⟩ := h
  refine t_getR gk dX8_hear_24 fX8_10 rfl ea1 t2 ?_
  refine s_iload_n (i := 1) dX8_hear_27 rfl rfl ?_
  refine s_iload_n (i := 2) dX8_hear_28 rfl rfl ?_
  obtain ⟨a3, ea3, h⟩ := h
  obtain ⟨t4, h⟩ := h
  exact t_callV (ci := 6) (as := [(vI x1), (vI x2)]) (S := []) gk dX8_hear_29 gX8_194 (by decide) rfl w_664 w_665 ea3 t4 rfl rfl (Nat.le_of_ble_eq_true rfl) (by decide) h
theorem vX8_hear_32 {G : GG} (gk : GOK G) {σ : Mm} {K : RES → Mm → Prop} {x0 : Option Nat} {x1 : Int32} {x2 : Int32} {s0 : Int32}
    (h : K (.inl (some (vI s0))) σ) : At G mX8_hear rX8_hear 1 6 32 [some (vR x0), some (vI x1), some (vI x2)] [(vI s0)] σ K := by
  exact s_ireturn dX8_hear_32 rfl rfl (by decide) (by decide) h
theorem vX8_outcomeOf_0 {G : GG} (gk : GOK G) {σ : Mm} {K : RES → Mm → Prop} {x0 : Option Nat} {x1 : Int32} {x2 : Int32}
    (h : ∃ a1, x0 = some a1 ∧ (mt σ a1).1 = 9 ∧ ∃ a3, mr σ a1 0 = some a3 ∧ (mt σ a3).1 = 7 ∧ Runs G mX6_hearFault rX6_hearFault [(vR (mr σ a1 0)), (vI x1), (vI x2)] σ (bk G mX8_outcomeOf rX8_outcomeOf 0 0 9 [some (vR x0), some (vI x1), some (vI x2)] [] K)) : At G mX8_outcomeOf rX8_outcomeOf 0 0 0 [some (vR x0), some (vI x1), some (vI x2)] [] σ K := by
  refine s_aload_n (i := 0) dX8_outcomeOf_0 rfl rfl ?_
  obtain ⟨a1, ea1, h⟩ := h
  obtain ⟨t2, h⟩ := h
  refine t_getR gk dX8_outcomeOf_1 fX8_10 rfl ea1 t2 ?_
  refine s_iload_n (i := 1) dX8_outcomeOf_4 rfl rfl ?_
  refine s_iload_n (i := 2) dX8_outcomeOf_5 rfl rfl ?_
  obtain ⟨a3, ea3, h⟩ := h
  obtain ⟨t4, h⟩ := h
  exact t_callV (ci := 6) (as := [(vI x1), (vI x2)]) (S := []) gk dX8_outcomeOf_6 gX8_190 (by decide) rfl w_652 w_653 ea3 t4 rfl rfl (Nat.le_of_ble_eq_true rfl) (by decide) h
theorem eX8_outcomeOf {G : GG} (gk : GOK G) {σ : Mm} {K : RES → Mm → Prop} {x0 : Option Nat} {x1 : Int32} {x2 : Int32}
    (h : ∃ a1, x0 = some a1 ∧ (mt σ a1).1 = 9 ∧ ∃ a3, mr σ a1 0 = some a3 ∧ (mt σ a3).1 = 7 ∧ Runs G mX6_hearFault rX6_hearFault [(vR (mr σ a1 0)), (vI x1), (vI x2)] σ (bk G mX8_outcomeOf rX8_outcomeOf 0 0 9 [some (vR x0), some (vI x1), some (vI x2)] [] K)) : Runs G mX8_outcomeOf rX8_outcomeOf [(vR x0), (vI x1), (vI x2)] σ K := Runs.of (by decide) rfl (Nat.le_of_ble_eq_true rfl) (vX8_outcomeOf_0 gk h)
theorem vX8_outcomeOf_9 {G : GG} (gk : GOK G) {σ : Mm} {K : RES → Mm → Prop} {x0 : Option Nat} {x1 : Int32} {x2 : Int32} {s0 : Int32}
    (h : Runs G mX8_refuse rX8_refuse [(vI s0)] σ (bk G mX8_outcomeOf rX8_outcomeOf 1 6 12 [some (vR x0), some (vI x1), some (vI x2)] [] K)) : At G mX8_outcomeOf rX8_outcomeOf 0 0 9 [some (vR x0), some (vI x1), some (vI x2)] [(vI s0)] σ K := by
  exact s_callS (as := [(vI s0)]) (S := []) gk dX8_outcomeOf_9 gX8_55 w_391 rfl rfl (Nat.le_of_ble_eq_true rfl) (by decide) h
theorem vX8_outcomeOf_12 {G : GG} (gk : GOK G) {σ : Mm} {K : RES → Mm → Prop} {x0 : Option Nat} {x1 : Int32} {x2 : Int32}
    (h : ∃ a1, x0 = some a1 ∧ (mt σ a1).1 = 9 ∧ Runs G mX8_wantShelf rX8_wantShelf [(vR x0), (vI x1)] σ (bk G mX8_outcomeOf rX8_outcomeOf 2 12 17 [some (vR x0), some (vI x1), some (vI x2)] [] K)) : At G mX8_outcomeOf rX8_outcomeOf 1 6 12 [some (vR x0), some (vI x1), some (vI x2)] [] σ K := by
  refine s_aload_n (i := 0) dX8_outcomeOf_12 rfl rfl ?_
  refine s_iload_n (i := 1) dX8_outcomeOf_13 rfl rfl ?_
  obtain ⟨a1, ea1, h⟩ := h
  obtain ⟨t2, h⟩ := h
  exact t_callV (ci := 8) (as := [(vI x1)]) (S := []) gk dX8_outcomeOf_14 gX8_110 (by decide) rfl w_791 wp_1 ea1 t2 rfl rfl (Nat.le_of_ble_eq_true rfl) (by decide) h
theorem vX8_outcomeOf_17 {G : GG} (gk : GOK G) {σ : Mm} {K : RES → Mm → Prop} {x0 : Option Nat} {x1 : Int32} {x2 : Int32} {s0 : Option Nat}
    (h : ∃ a1, x0 = some a1 ∧ (mt σ a1).1 = 9 ∧ ∃ a3, mr σ a1 0 = some a3 ∧ (mt σ a3).1 = 7 ∧ ∃ a5, s0 = some a5 ∧ (mt σ a5).1 = 6 ∧ Runs G mX5_outcome rX5_outcome [(vR s0), (vI x2), (vI (mi σ a3 3))] σ (bk G mX8_outcomeOf rX8_outcomeOf 2 12 28 [some (vR x0), some (vI x1), some (vI x2)] [] K)) : At G mX8_outcomeOf rX8_outcomeOf 2 12 17 [some (vR x0), some (vI x1), some (vI x2)] [(vR s0)] σ K := by
  refine s_iload_n (i := 2) dX8_outcomeOf_17 rfl rfl ?_
  refine s_aload_n (i := 0) dX8_outcomeOf_18 rfl rfl ?_
  obtain ⟨a1, ea1, h⟩ := h
  obtain ⟨t2, h⟩ := h
  refine t_getR gk dX8_outcomeOf_19 fX8_10 rfl ea1 t2 ?_
  obtain ⟨a3, ea3, h⟩ := h
  obtain ⟨t4, h⟩ := h
  refine t_getI gk dX8_outcomeOf_22 fX8_154 rfl ea3 t4 ?_
  obtain ⟨a5, ea5, h⟩ := h
  obtain ⟨t6, h⟩ := h
  exact t_callV (ci := 5) (as := [(vI x2), (vI (mi σ a3 3))]) (S := []) gk dX8_outcomeOf_25 gX8_197 (by decide) rfl w_672 w_673 ea5 t6 rfl rfl (Nat.le_of_ble_eq_true rfl) (by decide) h
theorem vX8_outcomeOf_28 {G : GG} (gk : GOK G) {σ : Mm} {K : RES → Mm → Prop} {x0 : Option Nat} {x1 : Int32} {x2 : Int32} {s0 : Int32}
    (h : isC s0 ∧ K (.inl (some (vI s0))) σ) : At G mX8_outcomeOf rX8_outcomeOf 2 12 28 [some (vR x0), some (vI x1), some (vI x2)] [(vI s0)] σ K := by
  obtain ⟨c1, h⟩ := h
  exact s_ireturn dX8_outcomeOf_28 rfl (nf_c c1).1 (by decide) (by decide) h
theorem vX8_warm_0 {G : GG} (gk : GOK G) {σ : Mm} {K : RES → Mm → Prop} {x0 : Option Nat} {x1 : Int32} {x2 : Int32} {x3 : Int32}
    (h : ∃ a1, x0 = some a1 ∧ (mt σ a1).1 = 9 ∧ ∃ a3, mr σ a1 0 = some a3 ∧ (mt σ a3).1 = 7 ∧ Runs G mX6_warmFault rX6_warmFault [(vR (mr σ a1 0)), (vI x1), (vI x2), (vI x3)] σ (bk G mX8_warm rX8_warm 0 0 10 [some (vR x0), some (vI x1), some (vI x2), some (vI x3)] [] K)) : At G mX8_warm rX8_warm 0 0 0 [some (vR x0), some (vI x1), some (vI x2), some (vI x3)] [] σ K := by
  refine s_aload_n (i := 0) dX8_warm_0 rfl rfl ?_
  obtain ⟨a1, ea1, h⟩ := h
  obtain ⟨t2, h⟩ := h
  refine t_getR gk dX8_warm_1 fX8_10 rfl ea1 t2 ?_
  refine s_iload_n (i := 1) dX8_warm_4 rfl rfl ?_
  refine s_iload_n (i := 2) dX8_warm_5 rfl rfl ?_
  refine s_iload_n (i := 3) dX8_warm_6 rfl rfl ?_
  obtain ⟨a3, ea3, h⟩ := h
  obtain ⟨t4, h⟩ := h
  exact t_callV (ci := 6) (as := [(vI x1), (vI x2), (vI x3)]) (S := []) gk dX8_warm_7 gX8_201 (by decide) rfl w_747 w_748 ea3 t4 rfl rfl (Nat.le_of_ble_eq_true rfl) (by decide) h
theorem eX8_warm {G : GG} (gk : GOK G) {σ : Mm} {K : RES → Mm → Prop} {x0 : Option Nat} {x1 : Int32} {x2 : Int32} {x3 : Int32}
    (h : ∃ a1, x0 = some a1 ∧ (mt σ a1).1 = 9 ∧ ∃ a3, mr σ a1 0 = some a3 ∧ (mt σ a3).1 = 7 ∧ Runs G mX6_warmFault rX6_warmFault [(vR (mr σ a1 0)), (vI x1), (vI x2), (vI x3)] σ (bk G mX8_warm rX8_warm 0 0 10 [some (vR x0), some (vI x1), some (vI x2), some (vI x3)] [] K)) : Runs G mX8_warm rX8_warm [(vR x0), (vI x1), (vI x2), (vI x3)] σ K := Runs.of (by decide) rfl (Nat.le_of_ble_eq_true rfl) (vX8_warm_0 gk h)
theorem vX8_warm_10 {G : GG} (gk : GOK G) {σ : Mm} {K : RES → Mm → Prop} {x0 : Option Nat} {x1 : Int32} {x2 : Int32} {x3 : Int32} {s0 : Int32}
    (h : Runs G mX8_refuse rX8_refuse [(vI s0)] σ (bk G mX8_warm rX8_warm 1 6 13 [some (vR x0), some (vI x1), some (vI x2), some (vI x3)] [] K)) : At G mX8_warm rX8_warm 0 0 10 [some (vR x0), some (vI x1), some (vI x2), some (vI x3)] [(vI s0)] σ K := by
  exact s_callS (as := [(vI s0)]) (S := []) gk dX8_warm_10 gX8_55 w_391 rfl rfl (Nat.le_of_ble_eq_true rfl) (by decide) h
theorem vX8_warm_13 {G : GG} (gk : GOK G) {σ : Mm} {K : RES → Mm → Prop} {x0 : Option Nat} {x1 : Int32} {x2 : Int32} {x3 : Int32}
    (h : ∃ a1, x0 = some a1 ∧ (mt σ a1).1 = 9 ∧ ∃ a3, mr σ a1 1 = some a3 ∧ (mt σ a3).1 = 4 ∧ Runs G mX3_note rX3_note [(vR (mr σ a1 1)), (vR (mr σ a1 0))] σ (bk G mX8_warm rX8_warm 1 6 24 [some (vR x0), some (vI x1), some (vI x2), some (vI x3)] [] K)) : At G mX8_warm rX8_warm 1 6 13 [some (vR x0), some (vI x1), some (vI x2), some (vI x3)] [] σ K := by
  refine s_aload_n (i := 0) dX8_warm_13 rfl rfl ?_
  obtain ⟨a1, ea1, h⟩ := h
  obtain ⟨t2, h⟩ := h
  refine t_getR gk dX8_warm_14 fX8_19 rfl ea1 t2 ?_
  refine s_aload_n (i := 0) dX8_warm_17 rfl rfl ?_
  refine t_getR gk dX8_warm_18 fX8_10 rfl ea1 t2 ?_
  obtain ⟨a3, ea3, h⟩ := h
  obtain ⟨t4, h⟩ := h
  exact t_callV (ci := 3) (as := [(vR (mr σ a1 0))]) (S := []) gk dX8_warm_21 gX8_59 (by decide) rfl w_513 w_514 ea3 t4 rfl rfl (Nat.le_of_ble_eq_true rfl) (by decide) h
theorem vX8_warm_24 {G : GG} (gk : GOK G) {σ : Mm} {K : RES → Mm → Prop} {x0 : Option Nat} {x1 : Int32} {x2 : Int32} {x3 : Int32}
    (h : ∃ a1, x0 = some a1 ∧ (mt σ a1).1 = 9 ∧ ∃ a3, mr σ a1 0 = some a3 ∧ (mt σ a3).1 = 7 ∧ Runs G mX6_planWarming rX6_planWarming [(vR (mr σ a1 0)), (vI x1), (vI x2), (vI x3)] σ (bk G mX8_warm rX8_warm 1 6 34 [some (vR x0), some (vI x1), some (vI x2), some (vI x3)] [] K)) : At G mX8_warm rX8_warm 1 6 24 [some (vR x0), some (vI x1), some (vI x2), some (vI x3)] [] σ K := by
  refine s_aload_n (i := 0) dX8_warm_24 rfl rfl ?_
  obtain ⟨a1, ea1, h⟩ := h
  obtain ⟨t2, h⟩ := h
  refine t_getR gk dX8_warm_25 fX8_10 rfl ea1 t2 ?_
  refine s_iload_n (i := 1) dX8_warm_28 rfl rfl ?_
  refine s_iload_n (i := 2) dX8_warm_29 rfl rfl ?_
  refine s_iload_n (i := 3) dX8_warm_30 rfl rfl ?_
  obtain ⟨a3, ea3, h⟩ := h
  obtain ⟨t4, h⟩ := h
  exact t_callV (ci := 6) (as := [(vI x1), (vI x2), (vI x3)]) (S := []) gk dX8_warm_31 gX8_205 (by decide) rfl w_756 w_757 ea3 t4 rfl rfl (Nat.le_of_ble_eq_true rfl) (by decide) h
theorem vX8_warm_34 {G : GG} (gk : GOK G) {σ : Mm} {K : RES → Mm → Prop} {x0 : Option Nat} {x1 : Int32} {x2 : Int32} {x3 : Int32} {s0 : Int32}
    (h : K (.inl (some (vI s0))) σ) : At G mX8_warm rX8_warm 1 6 34 [some (vR x0), some (vI x1), some (vI x2), some (vI x3)] [(vI s0)] σ K := by
  exact s_ireturn dX8_warm_34 rfl rfl (by decide) (by decide) h
theorem vX8_cancelWarming_0 {G : GG} (gk : GOK G) {σ : Mm} {K : RES → Mm → Prop} {x0 : Option Nat} {x1 : Int32}
    (h : ∃ a1, x0 = some a1 ∧ (mt σ a1).1 = 9 ∧ Runs G mX8_wantWarming rX8_wantWarming [(vR x0), (vI x1)] σ (bk G mX8_cancelWarming rX8_cancelWarming 1 6 5 [some (vR x0), some (vI x1), none] [] K)) : At G mX8_cancelWarming rX8_cancelWarming 0 0 0 [some (vR x0), some (vI x1), none] [] σ K := by
  refine s_aload_n (i := 0) dX8_cancelWarming_0 rfl rfl ?_
  refine s_iload_n (i := 1) dX8_cancelWarming_1 rfl rfl ?_
  obtain ⟨a1, ea1, h⟩ := h
  obtain ⟨t2, h⟩ := h
  exact t_callV (ci := 8) (as := [(vI x1)]) (S := []) gk dX8_cancelWarming_2 gX8_208 (by decide) rfl w_1043 wp_4 ea1 t2 rfl rfl (Nat.le_of_ble_eq_true rfl) (by decide) h
theorem eX8_cancelWarming {G : GG} (gk : GOK G) {σ : Mm} {K : RES → Mm → Prop} {x0 : Option Nat} {x1 : Int32}
    (h : ∃ a1, x0 = some a1 ∧ (mt σ a1).1 = 9 ∧ Runs G mX8_wantWarming rX8_wantWarming [(vR x0), (vI x1)] σ (bk G mX8_cancelWarming rX8_cancelWarming 1 6 5 [some (vR x0), some (vI x1), none] [] K)) : Runs G mX8_cancelWarming rX8_cancelWarming [(vR x0), (vI x1)] σ K := Runs.of (by decide) rfl (Nat.le_of_ble_eq_true rfl) (vX8_cancelWarming_0 gk h)
theorem vX8_cancelWarming_5 {G : GG} (gk : GOK G) {σ : Mm} {K : RES → Mm → Prop} {x0 : Option Nat} {x1 : Int32} {s0 : Option Nat}
    (h : ∃ a1, x0 = some a1 ∧ (mt σ a1).1 = 9 ∧ ∃ a3, mr σ a1 1 = some a3 ∧ (mt σ a3).1 = 4 ∧ Runs G mX3_note rX3_note [(vR (mr σ a1 1)), (vR (mr σ a1 0))] σ (bk G mX8_cancelWarming rX8_cancelWarming 1 6 17 [some (vR x0), some (vI x1), some (vR s0)] [] K)) : At G mX8_cancelWarming rX8_cancelWarming 1 6 5 [some (vR x0), some (vI x1), none] [(vR s0)] σ K := by
  refine s_astore_n (i := 2) (L' := [some (vR x0), some (vI x1), some (vR s0)]) dX8_cancelWarming_5 rfl rfl (by decide) rfl ?_
  refine s_aload_n (i := 0) dX8_cancelWarming_6 rfl rfl ?_
  obtain ⟨a1, ea1, h⟩ := h
  obtain ⟨t2, h⟩ := h
  refine t_getR gk dX8_cancelWarming_7 fX8_19 rfl ea1 t2 ?_
  refine s_aload_n (i := 0) dX8_cancelWarming_10 rfl rfl ?_
  refine t_getR gk dX8_cancelWarming_11 fX8_10 rfl ea1 t2 ?_
  obtain ⟨a3, ea3, h⟩ := h
  obtain ⟨t4, h⟩ := h
  exact t_callV (ci := 3) (as := [(vR (mr σ a1 0))]) (S := []) gk dX8_cancelWarming_14 gX8_59 (by decide) rfl w_513 w_514 ea3 t4 rfl rfl (Nat.le_of_ble_eq_true rfl) (by decide) h
theorem vX8_cancelWarming_17 {G : GG} (gk : GOK G) {σ : Mm} {K : RES → Mm → Prop} {x0 : Option Nat} {x1 : Int32} {x2 : Option Nat}
    (h : ∃ a1, x0 = some a1 ∧ (mt σ a1).1 = 9 ∧ ∃ a3, mr σ a1 0 = some a3 ∧ (mt σ a3).1 = 7 ∧ Runs G mX6_removeWarming rX6_removeWarming [(vR (mr σ a1 0)), (vR x2)] σ (bk G mX8_cancelWarming rX8_cancelWarming 1 6 25 [some (vR x0), some (vI x1), some (vR x2)] [] K)) : At G mX8_cancelWarming rX8_cancelWarming 1 6 17 [some (vR x0), some (vI x1), some (vR x2)] [] σ K := by
  refine s_aload_n (i := 0) dX8_cancelWarming_17 rfl rfl ?_
  obtain ⟨a1, ea1, h⟩ := h
  obtain ⟨t2, h⟩ := h
  refine t_getR gk dX8_cancelWarming_18 fX8_10 rfl ea1 t2 ?_
  refine s_aload_n (i := 2) dX8_cancelWarming_21 rfl rfl ?_
  obtain ⟨a3, ea3, h⟩ := h
  obtain ⟨t4, h⟩ := h
  exact t_callV (ci := 6) (as := [(vR x2)]) (S := []) gk dX8_cancelWarming_22 gX8_212 (by decide) rfl w_1428 w_1429 ea3 t4 rfl rfl (Nat.le_of_ble_eq_true rfl) (by decide) h
theorem vX8_cancelWarming_25 {G : GG} (gk : GOK G) {σ : Mm} {K : RES → Mm → Prop} {x0 : Option Nat} {x1 : Int32} {x2 : Option Nat}
    (h : ∃ a1, x0 = some a1 ∧ (mt σ a1).1 = 9 ∧ ∃ a3, mr σ a1 0 = some a3 ∧ (mt σ a3).1 = 7 ∧ Runs G mX6_countWarmings rX6_countWarmings [(vR (mr σ a1 0))] σ (bk G mX8_cancelWarming rX8_cancelWarming 1 6 32 [some (vR x0), some (vI x1), some (vR x2)] [] K)) : At G mX8_cancelWarming rX8_cancelWarming 1 6 25 [some (vR x0), some (vI x1), some (vR x2)] [] σ K := by
  refine s_aload_n (i := 0) dX8_cancelWarming_25 rfl rfl ?_
  obtain ⟨a1, ea1, h⟩ := h
  obtain ⟨t2, h⟩ := h
  refine t_getR gk dX8_cancelWarming_26 fX8_10 rfl ea1 t2 ?_
  obtain ⟨a3, ea3, h⟩ := h
  obtain ⟨t4, h⟩ := h
  exact t_callV (ci := 6) (as := []) (S := []) gk dX8_cancelWarming_29 gX8_216 (by decide) rfl w_752 w_753 ea3 t4 rfl rfl (Nat.le_of_ble_eq_true rfl) (by decide) h
theorem vX8_cancelWarming_32 {G : GG} (gk : GOK G) {σ : Mm} {K : RES → Mm → Prop} {x0 : Option Nat} {x1 : Int32} {x2 : Option Nat} {s0 : Int32}
    (h : K (.inl (some (vI s0))) σ) : At G mX8_cancelWarming rX8_cancelWarming 1 6 32 [some (vR x0), some (vI x1), some (vR x2)] [(vI s0)] σ K := by
  exact s_ireturn dX8_cancelWarming_32 rfl rfl (by decide) (by decide) h
theorem vX8_pass_0 {G : GG} (gk : GOK G) {σ : Mm} {K : RES → Mm → Prop} {x0 : Option Nat} {x1 : Int32}
    (h : ∃ a1, x0 = some a1 ∧ (mt σ a1).1 = 9 ∧ ∃ a3, mr σ a1 0 = some a3 ∧ (mt σ a3).1 = 7 ∧ Runs G mX6_passFault rX6_passFault [(vR (mr σ a1 0)), (vI x1)] σ (bk G mX8_pass rX8_pass 0 0 8 [some (vR x0), some (vI x1)] [] K)) : At G mX8_pass rX8_pass 0 0 0 [some (vR x0), some (vI x1)] [] σ K := by
  refine s_aload_n (i := 0) dX8_pass_0 rfl rfl ?_
  obtain ⟨a1, ea1, h⟩ := h
  obtain ⟨t2, h⟩ := h
  refine t_getR gk dX8_pass_1 fX8_10 rfl ea1 t2 ?_
  refine s_iload_n (i := 1) dX8_pass_4 rfl rfl ?_
  obtain ⟨a3, ea3, h⟩ := h
  obtain ⟨t4, h⟩ := h
  exact t_callV (ci := 6) (as := [(vI x1)]) (S := []) gk dX8_pass_5 gX8_219 (by decide) rfl w_775 w_776 ea3 t4 rfl rfl (Nat.le_of_ble_eq_true rfl) (by decide) h
theorem eX8_pass {G : GG} (gk : GOK G) {σ : Mm} {K : RES → Mm → Prop} {x0 : Option Nat} {x1 : Int32}
    (h : ∃ a1, x0 = some a1 ∧ (mt σ a1).1 = 9 ∧ ∃ a3, mr σ a1 0 = some a3 ∧ (mt σ a3).1 = 7 ∧ Runs G mX6_passFault rX6_passFault [(vR (mr σ a1 0)), (vI x1)] σ (bk G mX8_pass rX8_pass 0 0 8 [some (vR x0), some (vI x1)] [] K)) : Runs G mX8_pass rX8_pass [(vR x0), (vI x1)] σ K := Runs.of (by decide) rfl (Nat.le_of_ble_eq_true rfl) (vX8_pass_0 gk h)
theorem vX8_pass_8 {G : GG} (gk : GOK G) {σ : Mm} {K : RES → Mm → Prop} {x0 : Option Nat} {x1 : Int32} {s0 : Int32}
    (h : Runs G mX8_refuse rX8_refuse [(vI s0)] σ (bk G mX8_pass rX8_pass 1 6 11 [some (vR x0), some (vI x1)] [] K)) : At G mX8_pass rX8_pass 0 0 8 [some (vR x0), some (vI x1)] [(vI s0)] σ K := by
  exact s_callS (as := [(vI s0)]) (S := []) gk dX8_pass_8 gX8_55 w_391 rfl rfl (Nat.le_of_ble_eq_true rfl) (by decide) h
theorem vX8_pass_11 {G : GG} (gk : GOK G) {σ : Mm} {K : RES → Mm → Prop} {x0 : Option Nat} {x1 : Int32}
    (h : ∃ a1, x0 = some a1 ∧ (mt σ a1).1 = 9 ∧ ∃ a3, mr σ a1 1 = some a3 ∧ (mt σ a3).1 = 4 ∧ Runs G mX3_note rX3_note [(vR (mr σ a1 1)), (vR (mr σ a1 0))] σ (bk G mX8_pass rX8_pass 1 6 22 [some (vR x0), some (vI x1)] [] K)) : At G mX8_pass rX8_pass 1 6 11 [some (vR x0), some (vI x1)] [] σ K := by
  refine s_aload_n (i := 0) dX8_pass_11 rfl rfl ?_
  obtain ⟨a1, ea1, h⟩ := h
  obtain ⟨t2, h⟩ := h
  refine t_getR gk dX8_pass_12 fX8_19 rfl ea1 t2 ?_
  refine s_aload_n (i := 0) dX8_pass_15 rfl rfl ?_
  refine t_getR gk dX8_pass_16 fX8_10 rfl ea1 t2 ?_
  obtain ⟨a3, ea3, h⟩ := h
  obtain ⟨t4, h⟩ := h
  exact t_callV (ci := 3) (as := [(vR (mr σ a1 0))]) (S := []) gk dX8_pass_19 gX8_59 (by decide) rfl w_513 w_514 ea3 t4 rfl rfl (Nat.le_of_ble_eq_true rfl) (by decide) h
theorem vX8_pass_22 {G : GG} (gk : GOK G) {σ : Mm} {K : RES → Mm → Prop} {x0 : Option Nat} {x1 : Int32}
    (h : ∃ a1, x0 = some a1 ∧ (mt σ a1).1 = 9 ∧ ∃ a3, mr σ a1 0 = some a3 ∧ (mt σ a3).1 = 7 ∧ Runs G mX6_letPass rX6_letPass [(vR (mr σ a1 0)), (vI x1)] σ (bk G mX8_pass rX8_pass 1 6 30 [some (vR x0), some (vI x1)] [] K)) : At G mX8_pass rX8_pass 1 6 22 [some (vR x0), some (vI x1)] [] σ K := by
  refine s_aload_n (i := 0) dX8_pass_22 rfl rfl ?_
  obtain ⟨a1, ea1, h⟩ := h
  obtain ⟨t2, h⟩ := h
  refine t_getR gk dX8_pass_23 fX8_10 rfl ea1 t2 ?_
  refine s_iload_n (i := 1) dX8_pass_26 rfl rfl ?_
  obtain ⟨a3, ea3, h⟩ := h
  obtain ⟨t4, h⟩ := h
  exact t_callV (ci := 6) (as := [(vI x1)]) (S := []) gk dX8_pass_27 gX8_222 (by decide) rfl w_779 w_780 ea3 t4 rfl rfl (Nat.le_of_ble_eq_true rfl) (by decide) h
theorem vX8_pass_30 {G : GG} (gk : GOK G) {σ : Mm} {K : RES → Mm → Prop} {x0 : Option Nat} {x1 : Int32} {s0 : Int32}
    (h : K (.inl (some (vI s0))) σ) : At G mX8_pass rX8_pass 1 6 30 [some (vR x0), some (vI x1)] [(vI s0)] σ K := by
  exact s_ireturn dX8_pass_30 rfl rfl (by decide) (by decide) h
theorem vX8_time_0 {G : GG} (gk : GOK G) {σ : Mm} {K : RES → Mm → Prop} {x0 : Option Nat}
    (h : ∃ a1, x0 = some a1 ∧ (mt σ a1).1 = 9 ∧ ∃ a3, mr σ a1 0 = some a3 ∧ (mt σ a3).1 = 7 ∧ K (.inl (some (vI (mi σ a3 3)))) σ) : At G mX8_time rX8_time 0 0 0 [some (vR x0)] [] σ K := by
  refine s_aload_n (i := 0) dX8_time_0 rfl rfl ?_
  obtain ⟨a1, ea1, h⟩ := h
  obtain ⟨t2, h⟩ := h
  refine t_getR gk dX8_time_1 fX8_10 rfl ea1 t2 ?_
  obtain ⟨a3, ea3, h⟩ := h
  obtain ⟨t4, h⟩ := h
  refine t_getI gk dX8_time_4 fX8_154 rfl ea3 t4 ?_
  exact s_ireturn dX8_time_7 rfl rfl (by decide) (by decide) h
theorem eX8_time {G : GG} (gk : GOK G) {σ : Mm} {K : RES → Mm → Prop} {x0 : Option Nat}
    (h : ∃ a1, x0 = some a1 ∧ (mt σ a1).1 = 9 ∧ ∃ a3, mr σ a1 0 = some a3 ∧ (mt σ a3).1 = 7 ∧ K (.inl (some (vI (mi σ a3 3)))) σ) : Runs G mX8_time rX8_time [(vR x0)] σ K := Runs.of (by decide) rfl (Nat.le_of_ble_eq_true rfl) (vX8_time_0 gk h)
theorem vX8_warmingCount_0 {G : GG} (gk : GOK G) {σ : Mm} {K : RES → Mm → Prop} {x0 : Option Nat}
    (h : ∃ a1, x0 = some a1 ∧ (mt σ a1).1 = 9 ∧ ∃ a3, mr σ a1 0 = some a3 ∧ (mt σ a3).1 = 7 ∧ Runs G mX6_countWarmings rX6_countWarmings [(vR (mr σ a1 0))] σ (bk G mX8_warmingCount rX8_warmingCount 0 0 7 [some (vR x0)] [] K)) : At G mX8_warmingCount rX8_warmingCount 0 0 0 [some (vR x0)] [] σ K := by
  refine s_aload_n (i := 0) dX8_warmingCount_0 rfl rfl ?_
  obtain ⟨a1, ea1, h⟩ := h
  obtain ⟨t2, h⟩ := h
  refine t_getR gk dX8_warmingCount_1 fX8_10 rfl ea1 t2 ?_
  obtain ⟨a3, ea3, h⟩ := h
  obtain ⟨t4, h⟩ := h
  exact t_callV (ci := 6) (as := []) (S := []) gk dX8_warmingCount_4 gX8_216 (by decide) rfl w_752 w_753 ea3 t4 rfl rfl (Nat.le_of_ble_eq_true rfl) (by decide) h
theorem eX8_warmingCount {G : GG} (gk : GOK G) {σ : Mm} {K : RES → Mm → Prop} {x0 : Option Nat}
    (h : ∃ a1, x0 = some a1 ∧ (mt σ a1).1 = 9 ∧ ∃ a3, mr σ a1 0 = some a3 ∧ (mt σ a3).1 = 7 ∧ Runs G mX6_countWarmings rX6_countWarmings [(vR (mr σ a1 0))] σ (bk G mX8_warmingCount rX8_warmingCount 0 0 7 [some (vR x0)] [] K)) : Runs G mX8_warmingCount rX8_warmingCount [(vR x0)] σ K := Runs.of (by decide) rfl (Nat.le_of_ble_eq_true rfl) (vX8_warmingCount_0 gk h)
theorem vX8_warmingCount_7 {G : GG} (gk : GOK G) {σ : Mm} {K : RES → Mm → Prop} {x0 : Option Nat} {s0 : Int32}
    (h : K (.inl (some (vI s0))) σ) : At G mX8_warmingCount rX8_warmingCount 0 0 7 [some (vR x0)] [(vI s0)] σ K := by
  exact s_ireturn dX8_warmingCount_7 rfl rfl (by decide) (by decide) h
theorem vX8_warmingMinute_0 {G : GG} (gk : GOK G) {σ : Mm} {K : RES → Mm → Prop} {x0 : Option Nat} {x1 : Int32}
    (h : ∃ a1, x0 = some a1 ∧ (mt σ a1).1 = 9 ∧ Runs G mX8_wantWarming rX8_wantWarming [(vR x0), (vI x1)] σ (bk G mX8_warmingMinute rX8_warmingMinute 1 6 5 [some (vR x0), some (vI x1)] [] K)) : At G mX8_warmingMinute rX8_warmingMinute 0 0 0 [some (vR x0), some (vI x1)] [] σ K := by
  refine s_aload_n (i := 0) dX8_warmingMinute_0 rfl rfl ?_
  refine s_iload_n (i := 1) dX8_warmingMinute_1 rfl rfl ?_
  obtain ⟨a1, ea1, h⟩ := h
  obtain ⟨t2, h⟩ := h
  exact t_callV (ci := 8) (as := [(vI x1)]) (S := []) gk dX8_warmingMinute_2 gX8_208 (by decide) rfl w_1043 wp_4 ea1 t2 rfl rfl (Nat.le_of_ble_eq_true rfl) (by decide) h
theorem eX8_warmingMinute {G : GG} (gk : GOK G) {σ : Mm} {K : RES → Mm → Prop} {x0 : Option Nat} {x1 : Int32}
    (h : ∃ a1, x0 = some a1 ∧ (mt σ a1).1 = 9 ∧ Runs G mX8_wantWarming rX8_wantWarming [(vR x0), (vI x1)] σ (bk G mX8_warmingMinute rX8_warmingMinute 1 6 5 [some (vR x0), some (vI x1)] [] K)) : Runs G mX8_warmingMinute rX8_warmingMinute [(vR x0), (vI x1)] σ K := Runs.of (by decide) rfl (Nat.le_of_ble_eq_true rfl) (vX8_warmingMinute_0 gk h)
theorem vX8_warmingMinute_5 {G : GG} (gk : GOK G) {σ : Mm} {K : RES → Mm → Prop} {x0 : Option Nat} {x1 : Int32} {s0 : Option Nat}
    (h : ∃ a1, s0 = some a1 ∧ (mt σ a1).1 = 8 ∧ K (.inl (some (vI (mi σ a1 1)))) σ) : At G mX8_warmingMinute rX8_warmingMinute 1 6 5 [some (vR x0), some (vI x1)] [(vR s0)] σ K := by
  obtain ⟨a1, ea1, h⟩ := h
  obtain ⟨t2, h⟩ := h
  refine t_getI gk dX8_warmingMinute_5 fX8_225 rfl ea1 t2 ?_
  exact s_ireturn dX8_warmingMinute_8 rfl rfl (by decide) (by decide) h
theorem vX8_warmingJar_0 {G : GG} (gk : GOK G) {σ : Mm} {K : RES → Mm → Prop} {x0 : Option Nat} {x1 : Int32}
    (h : ∃ a1, x0 = some a1 ∧ (mt σ a1).1 = 9 ∧ Runs G mX8_wantWarming rX8_wantWarming [(vR x0), (vI x1)] σ (bk G mX8_warmingJar rX8_warmingJar 1 6 5 [some (vR x0), some (vI x1)] [] K)) : At G mX8_warmingJar rX8_warmingJar 0 0 0 [some (vR x0), some (vI x1)] [] σ K := by
  refine s_aload_n (i := 0) dX8_warmingJar_0 rfl rfl ?_
  refine s_iload_n (i := 1) dX8_warmingJar_1 rfl rfl ?_
  obtain ⟨a1, ea1, h⟩ := h
  obtain ⟨t2, h⟩ := h
  exact t_callV (ci := 8) (as := [(vI x1)]) (S := []) gk dX8_warmingJar_2 gX8_208 (by decide) rfl w_1043 wp_4 ea1 t2 rfl rfl (Nat.le_of_ble_eq_true rfl) (by decide) h
theorem eX8_warmingJar {G : GG} (gk : GOK G) {σ : Mm} {K : RES → Mm → Prop} {x0 : Option Nat} {x1 : Int32}
    (h : ∃ a1, x0 = some a1 ∧ (mt σ a1).1 = 9 ∧ Runs G mX8_wantWarming rX8_wantWarming [(vR x0), (vI x1)] σ (bk G mX8_warmingJar rX8_warmingJar 1 6 5 [some (vR x0), some (vI x1)] [] K)) : Runs G mX8_warmingJar rX8_warmingJar [(vR x0), (vI x1)] σ K := Runs.of (by decide) rfl (Nat.le_of_ble_eq_true rfl) (vX8_warmingJar_0 gk h)
theorem vX8_warmingJar_5 {G : GG} (gk : GOK G) {σ : Mm} {K : RES → Mm → Prop} {x0 : Option Nat} {x1 : Int32} {s0 : Option Nat}
    (h : ∃ a1, s0 = some a1 ∧ (mt σ a1).1 = 8 ∧ isC (mi σ a1 3) ∧ K (.inl (some (vI (mi σ a1 3)))) σ) : At G mX8_warmingJar rX8_warmingJar 1 6 5 [some (vR x0), some (vI x1)] [(vR s0)] σ K := by
  obtain ⟨a1, ea1, h⟩ := h
  obtain ⟨t2, h⟩ := h
  refine t_getI gk dX8_warmingJar_5 fX8_228 rfl ea1 t2 ?_
  obtain ⟨c3, h⟩ := h
  exact s_ireturn dX8_warmingJar_8 rfl (nf_c c3).1 (by decide) (by decide) h
theorem vX8_hits_0 {G : GG} (gk : GOK G) {σ : Mm} {K : RES → Mm → Prop} {x0 : Option Nat}
    (h : ∃ a1, x0 = some a1 ∧ (mt σ a1).1 = 9 ∧ ∃ a3, mr σ a1 0 = some a3 ∧ (mt σ a3).1 = 7 ∧ K (.inl (some (vI (mi σ a3 5)))) σ) : At G mX8_hits rX8_hits 0 0 0 [some (vR x0)] [] σ K := by
  refine s_aload_n (i := 0) dX8_hits_0 rfl rfl ?_
  obtain ⟨a1, ea1, h⟩ := h
  obtain ⟨t2, h⟩ := h
  refine t_getR gk dX8_hits_1 fX8_10 rfl ea1 t2 ?_
  obtain ⟨a3, ea3, h⟩ := h
  obtain ⟨t4, h⟩ := h
  refine t_getI gk dX8_hits_4 fX8_229 rfl ea3 t4 ?_
  exact s_ireturn dX8_hits_7 rfl rfl (by decide) (by decide) h
theorem eX8_hits {G : GG} (gk : GOK G) {σ : Mm} {K : RES → Mm → Prop} {x0 : Option Nat}
    (h : ∃ a1, x0 = some a1 ∧ (mt σ a1).1 = 9 ∧ ∃ a3, mr σ a1 0 = some a3 ∧ (mt σ a3).1 = 7 ∧ K (.inl (some (vI (mi σ a3 5)))) σ) : Runs G mX8_hits rX8_hits [(vR x0)] σ K := Runs.of (by decide) rfl (Nat.le_of_ble_eq_true rfl) (vX8_hits_0 gk h)
theorem vX8_misses_0 {G : GG} (gk : GOK G) (hst : STR G) {σ : Mm} {K : RES → Mm → Prop} {x0 : Option Nat} {x1 : Int32}
    (h : ((¬ x1 = (99 : Int32) → ((¬ x1 = (101 : Int32) → ((¬ x1 = (111 : Int32) → (∀ k, K (.inr "java/lang/IllegalArgumentException") (sk σ k))) ∧ (x1 = (111 : Int32) → ∃ a4, x0 = some a4 ∧ (mt σ a4).1 = 9 ∧ ∃ a6, mr σ a4 0 = some a6 ∧ (mt σ a6).1 = 7 ∧ K (.inl (some (vI (mi σ a6 8)))) σ))) ∧ (x1 = (101 : Int32) → ∃ a8, x0 = some a8 ∧ (mt σ a8).1 = 9 ∧ ∃ a10, mr σ a8 0 = some a10 ∧ (mt σ a10).1 = 7 ∧ K (.inl (some (vI (mi σ a10 7)))) σ))) ∧ (x1 = (99 : Int32) → ∃ a12, x0 = some a12 ∧ (mt σ a12).1 = 9 ∧ ∃ a14, mr σ a12 0 = some a14 ∧ (mt σ a14).1 = 7 ∧ K (.inl (some (vI (mi σ a14 6)))) σ))) : At G mX8_misses rX8_misses 0 0 0 [some (vR x0), some (vI x1)] [] σ K := by
  refine s_iload_n (i := 1) dX8_misses_0 rfl rfl ?_
  refine s_bipush (v := 99) dX8_misses_1 (by decide) ?_
  refine s_icmp_ne (tgt := 14) dX8_misses_3 (by decide) (fun q1 => ?_) (fun q1 => ?_)
  · have h := h.1 q1
    refine s_iload_n (i := 1) dX8_misses_14 rfl rfl ?_
    refine s_bipush (v := 101) dX8_misses_15 (by decide) ?_
    refine s_icmp_ne (tgt := 28) dX8_misses_17 (by decide) (fun q2 => ?_) (fun q2 => ?_)
    · have h := h.1 q2
      refine s_iload_n (i := 1) dX8_misses_28 rfl rfl ?_
      refine s_bipush (v := 111) dX8_misses_29 (by decide) ?_
      refine s_icmp_ne (tgt := 42) dX8_misses_31 (by decide) (fun q3 => ?_) (fun q3 => ?_)
      · have h := h.1 q3
        exact s_thr0 gk hst thx_245 w_480 w_19 (tl_5 (List.mem_of_getElem? (i := 108) rfl)) dX8_misses_42 dX8_misses_45 (Or.inl ⟨dX8_misses_46, rfl⟩) dX8_misses_48 dX8_misses_51 (by decide) (by decide) (by decide) (by decide) h
      · have h := h.2 q3
        refine s_aload_n (i := 0) dX8_misses_34 rfl rfl ?_
        obtain ⟨a4, ea4, h⟩ := h
        obtain ⟨t5, h⟩ := h
        refine t_getR gk dX8_misses_35 fX8_10 rfl ea4 t5 ?_
        obtain ⟨a6, ea6, h⟩ := h
        obtain ⟨t7, h⟩ := h
        refine t_getI gk dX8_misses_38 fX8_238 rfl ea6 t7 ?_
        exact s_ireturn dX8_misses_41 rfl rfl (by decide) (by decide) h
    · have h := h.2 q2
      refine s_aload_n (i := 0) dX8_misses_20 rfl rfl ?_
      obtain ⟨a8, ea8, h⟩ := h
      obtain ⟨t9, h⟩ := h
      refine t_getR gk dX8_misses_21 fX8_10 rfl ea8 t9 ?_
      obtain ⟨a10, ea10, h⟩ := h
      obtain ⟨t11, h⟩ := h
      refine t_getI gk dX8_misses_24 fX8_235 rfl ea10 t11 ?_
      exact s_ireturn dX8_misses_27 rfl rfl (by decide) (by decide) h
  · have h := h.2 q1
    refine s_aload_n (i := 0) dX8_misses_6 rfl rfl ?_
    obtain ⟨a12, ea12, h⟩ := h
    obtain ⟨t13, h⟩ := h
    refine t_getR gk dX8_misses_7 fX8_10 rfl ea12 t13 ?_
    obtain ⟨a14, ea14, h⟩ := h
    obtain ⟨t15, h⟩ := h
    refine t_getI gk dX8_misses_10 fX8_232 rfl ea14 t15 ?_
    exact s_ireturn dX8_misses_13 rfl rfl (by decide) (by decide) h
theorem eX8_misses {G : GG} (gk : GOK G) (hst : STR G) {σ : Mm} {K : RES → Mm → Prop} {x0 : Option Nat} {x1 : Int32}
    (h : ((¬ x1 = (99 : Int32) → ((¬ x1 = (101 : Int32) → ((¬ x1 = (111 : Int32) → (∀ k, K (.inr "java/lang/IllegalArgumentException") (sk σ k))) ∧ (x1 = (111 : Int32) → ∃ a4, x0 = some a4 ∧ (mt σ a4).1 = 9 ∧ ∃ a6, mr σ a4 0 = some a6 ∧ (mt σ a6).1 = 7 ∧ K (.inl (some (vI (mi σ a6 8)))) σ))) ∧ (x1 = (101 : Int32) → ∃ a8, x0 = some a8 ∧ (mt σ a8).1 = 9 ∧ ∃ a10, mr σ a8 0 = some a10 ∧ (mt σ a10).1 = 7 ∧ K (.inl (some (vI (mi σ a10 7)))) σ))) ∧ (x1 = (99 : Int32) → ∃ a12, x0 = some a12 ∧ (mt σ a12).1 = 9 ∧ ∃ a14, mr σ a12 0 = some a14 ∧ (mt σ a14).1 = 7 ∧ K (.inl (some (vI (mi σ a14 6)))) σ))) : Runs G mX8_misses rX8_misses [(vR x0), (vI x1)] σ K := Runs.of (by decide) rfl (Nat.le_of_ble_eq_true rfl) (vX8_misses_0 gk hst h)
theorem vX8_hitShare_0 {G : GG} (gk : GOK G) (hst : STR G) {σ : Mm} {K : RES → Mm → Prop} {x0 : Option Nat}
    (h : ∃ a1, x0 = some a1 ∧ (mt σ a1).1 = 9 ∧ ∃ a3, mr σ a1 0 = some a3 ∧ (mt σ a3).1 = 7 ∧ ((¬ ((((mi σ a3 5) + (mi σ a3 6)) + (mi σ a3 7)) + (mi σ a3 8)) = 0 → vf_n32 (FP.fdiv (FP.i2f (mi σ a3 5)) (FP.i2f ((((mi σ a3 5) + (mi σ a3 6)) + (mi σ a3 7)) + (mi σ a3 8)))) ∧ K (.inl (some (vF (FP.fdiv (FP.i2f (mi σ a3 5)) (FP.i2f ((((mi σ a3 5) + (mi σ a3 6)) + (mi σ a3 7)) + (mi σ a3 8))))))) σ) ∧ (((((mi σ a3 5) + (mi σ a3 6)) + (mi σ a3 7)) + (mi σ a3 8)) = 0 → (∀ k, K (.inr "java/lang/ArithmeticException") (sk σ k))))) : At G mX8_hitShare rX8_hitShare 0 0 0 [some (vR x0), none] [] σ K := by
  refine s_aload_n (i := 0) dX8_hitShare_0 rfl rfl ?_
  obtain ⟨a1, ea1, h⟩ := h
  obtain ⟨t2, h⟩ := h
  refine t_getR gk dX8_hitShare_1 fX8_10 rfl ea1 t2 ?_
  obtain ⟨a3, ea3, h⟩ := h
  obtain ⟨t4, h⟩ := h
  refine t_getI gk dX8_hitShare_4 fX8_229 rfl ea3 t4 ?_
  refine s_aload_n (i := 0) dX8_hitShare_7 rfl rfl ?_
  refine t_getR gk dX8_hitShare_8 fX8_10 rfl ea1 t2 ?_
  refine t_getI gk dX8_hitShare_11 fX8_232 rfl ea3 t4 ?_
  refine s_iadd dX8_hitShare_14 ?_
  refine s_aload_n (i := 0) dX8_hitShare_15 rfl rfl ?_
  refine t_getR gk dX8_hitShare_16 fX8_10 rfl ea1 t2 ?_
  refine t_getI gk dX8_hitShare_19 fX8_235 rfl ea3 t4 ?_
  refine s_iadd dX8_hitShare_22 ?_
  refine s_aload_n (i := 0) dX8_hitShare_23 rfl rfl ?_
  refine t_getR gk dX8_hitShare_24 fX8_10 rfl ea1 t2 ?_
  refine t_getI gk dX8_hitShare_27 fX8_238 rfl ea3 t4 ?_
  refine s_iadd dX8_hitShare_30 ?_
  refine s_istore_n (i := 1) (L' := [some (vR x0), some (vI ((((mi σ a3 5) + (mi σ a3 6)) + (mi σ a3 7)) + (mi σ a3 8)))]) dX8_hitShare_31 rfl rfl (by decide) rfl ?_
  refine s_iload_n (i := 1) dX8_hitShare_32 rfl rfl ?_
  refine s_if_ne (tgt := 46) dX8_hitShare_33 (by decide) (fun q5 => ?_) (fun q5 => ?_)
  · have h := h.1 q5
    refine s_aload_n (i := 0) dX8_hitShare_46 rfl rfl ?_
    refine t_getR gk dX8_hitShare_47 fX8_10 rfl ea1 t2 ?_
    refine t_getI gk dX8_hitShare_50 fX8_229 rfl ea3 t4 ?_
    refine s_i2f dX8_hitShare_53 ?_
    refine s_iload_n (i := 1) dX8_hitShare_54 rfl rfl ?_
    refine s_i2f dX8_hitShare_55 ?_
    obtain ⟨c6, h⟩ := h
    refine s_fdiv dX8_hitShare_56 c6 ?_
    exact s_freturn dX8_hitShare_57 rfl (by decide) (by decide) h
  · have h := h.2 q5
    exact s_thr0 gk hst thx_250 w_993 w_25 (tl_5 (List.mem_of_getElem? (i := 125) rfl)) dX8_hitShare_36 dX8_hitShare_39 (Or.inl ⟨dX8_hitShare_40, rfl⟩) dX8_hitShare_42 dX8_hitShare_45 (by decide) (by decide) (by decide) (by decide) h
theorem eX8_hitShare {G : GG} (gk : GOK G) (hst : STR G) {σ : Mm} {K : RES → Mm → Prop} {x0 : Option Nat}
    (h : ∃ a1, x0 = some a1 ∧ (mt σ a1).1 = 9 ∧ ∃ a3, mr σ a1 0 = some a3 ∧ (mt σ a3).1 = 7 ∧ ((¬ ((((mi σ a3 5) + (mi σ a3 6)) + (mi σ a3 7)) + (mi σ a3 8)) = 0 → vf_n32 (FP.fdiv (FP.i2f (mi σ a3 5)) (FP.i2f ((((mi σ a3 5) + (mi σ a3 6)) + (mi σ a3 7)) + (mi σ a3 8)))) ∧ K (.inl (some (vF (FP.fdiv (FP.i2f (mi σ a3 5)) (FP.i2f ((((mi σ a3 5) + (mi σ a3 6)) + (mi σ a3 7)) + (mi σ a3 8))))))) σ) ∧ (((((mi σ a3 5) + (mi σ a3 6)) + (mi σ a3 7)) + (mi σ a3 8)) = 0 → (∀ k, K (.inr "java/lang/ArithmeticException") (sk σ k))))) : Runs G mX8_hitShare rX8_hitShare [(vR x0)] σ K := Runs.of (by decide) rfl (Nat.le_of_ble_eq_true rfl) (vX8_hitShare_0 gk hst h)
theorem vX8_meanAge_0 {G : GG} (gk : GOK G) {σ : Mm} {K : RES → Mm → Prop} {x0 : Option Nat}
    (h : ∃ a1, x0 = some a1 ∧ (mt σ a1).1 = 9 ∧ ∃ a3, mr σ a1 0 = some a3 ∧ (mt σ a3).1 = 7 ∧ ∃ a5, mr σ a3 1 = some a5 ∧ ∃ n7, mt σ a5 = (56, n7) ∧ At G mX8_meanAge rX8_meanAge 0 0 19 [some (vR x0), some (vI (0 : Int32)), some (vI (0 : Int32)), some (vR (mr σ a3 1)), some (vI (nI n7)), some (vI (0 : Int32)), none] [] σ K) : At G mX8_meanAge rX8_meanAge 0 0 0 [some (vR x0), none, none, none, none, none, none] [] σ K := by
  refine s_iconst (v := 0) dX8_meanAge_0 (by decide) ?_
  refine s_istore_n (i := 1) (L' := [some (vR x0), some (vI (0 : Int32)), none, none, none, none, none]) dX8_meanAge_1 rfl rfl (by decide) rfl ?_
  refine s_iconst (v := 0) dX8_meanAge_2 (by decide) ?_
  refine s_istore_n (i := 2) (L' := [some (vR x0), some (vI (0 : Int32)), some (vI (0 : Int32)), none, none, none, none]) dX8_meanAge_3 rfl rfl (by decide) rfl ?_
  refine s_aload_n (i := 0) dX8_meanAge_4 rfl rfl ?_
  obtain ⟨a1, ea1, h⟩ := h
  obtain ⟨t2, h⟩ := h
  refine t_getR gk dX8_meanAge_5 fX8_10 rfl ea1 t2 ?_
  obtain ⟨a3, ea3, h⟩ := h
  obtain ⟨t4, h⟩ := h
  refine t_getR gk dX8_meanAge_8 fX8_251 rfl ea3 t4 ?_
  refine s_astore_n (i := 3) (L' := [some (vR x0), some (vI (0 : Int32)), some (vI (0 : Int32)), some (vR (mr σ a3 1)), none, none, none]) dX8_meanAge_11 rfl rfl (by decide) rfl ?_
  refine s_aload_n (i := 3) dX8_meanAge_12 rfl rfl ?_
  obtain ⟨a5, ea5, h⟩ := h
  obtain ⟨n7, t6, h⟩ := h
  refine t_alen (j := 6) gk dX8_meanAge_13 (by decide) ea5 t6 ?_
  refine s_istore (L' := [some (vR x0), some (vI (0 : Int32)), some (vI (0 : Int32)), some (vR (mr σ a3 1)), some (vI (nI n7)), none, none]) dX8_meanAge_14 rfl (by decide) rfl ?_
  refine s_iconst (v := 0) dX8_meanAge_16 (by decide) ?_
  refine s_istore (L' := [some (vR x0), some (vI (0 : Int32)), some (vI (0 : Int32)), some (vR (mr σ a3 1)), some (vI (nI n7)), some (vI (0 : Int32)), none]) dX8_meanAge_17 rfl (by decide) rfl ?_
  exact h
theorem eX8_meanAge {G : GG} (gk : GOK G) {σ : Mm} {K : RES → Mm → Prop} {x0 : Option Nat}
    (h : ∃ a1, x0 = some a1 ∧ (mt σ a1).1 = 9 ∧ ∃ a3, mr σ a1 0 = some a3 ∧ (mt σ a3).1 = 7 ∧ ∃ a5, mr σ a3 1 = some a5 ∧ ∃ n7, mt σ a5 = (56, n7) ∧ At G mX8_meanAge rX8_meanAge 0 0 19 [some (vR x0), some (vI (0 : Int32)), some (vI (0 : Int32)), some (vR (mr σ a3 1)), some (vI (nI n7)), some (vI (0 : Int32)), none] [] σ K) : Runs G mX8_meanAge rX8_meanAge [(vR x0)] σ K := Runs.of (by decide) rfl (Nat.le_of_ble_eq_true rfl) (vX8_meanAge_0 gk h)
theorem vX8_meanAge_19 {G : GG} (gk : GOK G) (hst : STR G) {σ : Mm} {K : RES → Mm → Prop} {x0 : Option Nat} {x1 : Int32} {x2 : Int32} {x3 : Option Nat} {x4 : Int32} {x5 : Int32}
    (h : ((x4 ≤ x5 → ((¬ x1 = 0 → vf_n64 (FP.ddiv (FP.i2d x2) (FP.i2d x1)) ∧ K (.inl (some (vD (FP.ddiv (FP.i2d x2) (FP.i2d x1))))) σ) ∧ (x1 = 0 → (∀ k, K (.inr "java/lang/ArithmeticException") (sk σ k))))) ∧ (¬ x4 ≤ x5 → ∃ a4, x3 = some a4 ∧ ∃ n6, mt σ a4 = (56, n6) ∧ vp_in x5 n6 ∧ ∃ a8, mr σ a4 x5.toNatClampNeg = some a8 ∧ (mt σ a8).1 = 6 ∧ Runs G mX5_countEchoes rX5_countEchoes [(vR (mr σ a4 x5.toNatClampNeg))] σ (bk G mX8_meanAge rX8_meanAge 0 0 38 [some (vR x0), some (vI x1), some (vI x2), some (vR x3), some (vI x4), some (vI x5), some (vR (mr σ a4 x5.toNatClampNeg))] [(vI x1)] K)))) : At G mX8_meanAge rX8_meanAge 0 0 19 [some (vR x0), some (vI x1), some (vI x2), some (vR x3), some (vI x4), some (vI x5), none] [] σ K := by
  refine s_iload dX8_meanAge_19 rfl ?_
  refine s_iload dX8_meanAge_21 rfl ?_
  refine s_icmp_ge (tgt := 61) dX8_meanAge_23 (by decide) (fun q1 => ?_) (fun q1 => ?_)
  · have h := h.1 q1
    refine s_iload_n (i := 1) dX8_meanAge_61 rfl rfl ?_
    refine s_if_ne (tgt := 76) dX8_meanAge_62 (by decide) (fun q2 => ?_) (fun q2 => ?_)
    · have h := h.1 q2
      refine s_iload_n (i := 2) dX8_meanAge_76 rfl rfl ?_
      refine s_i2d dX8_meanAge_77 ?_
      refine s_iload_n (i := 1) dX8_meanAge_78 rfl rfl ?_
      refine s_i2d dX8_meanAge_79 ?_
      obtain ⟨c3, h⟩ := h
      refine s_ddiv dX8_meanAge_80 c3 ?_
      exact s_dreturn dX8_meanAge_81 rfl (by decide) (by decide) h
    · have h := h.2 q2
      exact s_thr0 gk hst thx_250 w_993 w_25 (tl_5 (List.mem_of_getElem? (i := 42) rfl)) dX8_meanAge_65 dX8_meanAge_68 (Or.inr ⟨dX8_meanAge_69, rfl⟩) dX8_meanAge_72 dX8_meanAge_75 (by decide) (by decide) (by decide) (by decide) h
  · have h := h.2 q1
    refine s_aload_n (i := 3) dX8_meanAge_26 rfl rfl ?_
    refine s_iload dX8_meanAge_27 rfl ?_
    obtain ⟨a4, ea4, h⟩ := h
    obtain ⟨n6, t5, h⟩ := h
    obtain ⟨c7, h⟩ := h
    refine t_aald (j := 6) gk dX8_meanAge_29 (by decide) (by decide) ea4 t5 c7 ?_
    refine s_astore (L' := [some (vR x0), some (vI x1), some (vI x2), some (vR x3), some (vI x4), some (vI x5), some (vR (mr σ a4 x5.toNatClampNeg))]) dX8_meanAge_30 rfl (by decide) rfl ?_
    refine s_iload_n (i := 1) dX8_meanAge_32 rfl rfl ?_
    refine s_aload dX8_meanAge_33 rfl ?_
    obtain ⟨a8, ea8, h⟩ := h
    obtain ⟨t9, h⟩ := h
    exact t_callV (ci := 5) (as := []) (S := [(vI x1)]) gk dX8_meanAge_35 gX8_132 (by decide) rfl w_709 w_710 ea8 t9 rfl rfl (Nat.le_of_ble_eq_true rfl) (by decide) h
theorem vX8_meanAge_38 {G : GG} (gk : GOK G) {σ : Mm} {K : RES → Mm → Prop} {x0 : Option Nat} {x1 : Int32} {x2 : Int32} {x3 : Option Nat} {x4 : Int32} {x5 : Int32} {x6 : Option Nat} {s0 : Int32} {s1 : Int32}
    (h : ∃ a1, x0 = some a1 ∧ (mt σ a1).1 = 9 ∧ ∃ a3, mr σ a1 0 = some a3 ∧ (mt σ a3).1 = 7 ∧ ∃ a5, x6 = some a5 ∧ (mt σ a5).1 = 6 ∧ Runs G mX5_sumOfAges rX5_sumOfAges [(vR x6), (vI (mi σ a3 3))] σ (bk G mX8_meanAge rX8_meanAge 0 0 53 [some (vR x0), some (vI (s1 + s0)), some (vI x2), some (vR x3), some (vI x4), some (vI x5), some (vR x6)] [(vI x2)] K)) : At G mX8_meanAge rX8_meanAge 0 0 38 [some (vR x0), some (vI x1), some (vI x2), some (vR x3), some (vI x4), some (vI x5), some (vR x6)] [(vI s0), (vI s1)] σ K := by
  refine s_iadd dX8_meanAge_38 ?_
  refine s_istore_n (i := 1) (L' := [some (vR x0), some (vI (s1 + s0)), some (vI x2), some (vR x3), some (vI x4), some (vI x5), some (vR x6)]) dX8_meanAge_39 rfl rfl (by decide) rfl ?_
  refine s_iload_n (i := 2) dX8_meanAge_40 rfl rfl ?_
  refine s_aload dX8_meanAge_41 rfl ?_
  refine s_aload_n (i := 0) dX8_meanAge_43 rfl rfl ?_
  obtain ⟨a1, ea1, h⟩ := h
  obtain ⟨t2, h⟩ := h
  refine t_getR gk dX8_meanAge_44 fX8_10 rfl ea1 t2 ?_
  obtain ⟨a3, ea3, h⟩ := h
  obtain ⟨t4, h⟩ := h
  refine t_getI gk dX8_meanAge_47 fX8_154 rfl ea3 t4 ?_
  obtain ⟨a5, ea5, h⟩ := h
  obtain ⟨t6, h⟩ := h
  exact t_callV (ci := 5) (as := [(vI (mi σ a3 3))]) (S := [(vI x2)]) gk dX8_meanAge_50 gX8_255 (by decide) rfl w_990 w_991 ea5 t6 rfl rfl (Nat.le_of_ble_eq_true rfl) (by decide) h
theorem vX8_meanAge_53 {G : GG} (gk : GOK G) {σ : Mm} {K : RES → Mm → Prop} {x0 : Option Nat} {x1 : Int32} {x2 : Int32} {x3 : Option Nat} {x4 : Int32} {x5 : Int32} {x6 : Option Nat} {s0 : Int32} {s1 : Int32}
    (h : At G mX8_meanAge rX8_meanAge 0 0 19 [some (vR x0), some (vI x1), some (vI (s1 + s0)), some (vR x3), some (vI x4), some (vI (x5 + 1)), none] [] σ K) : At G mX8_meanAge rX8_meanAge 0 0 53 [some (vR x0), some (vI x1), some (vI x2), some (vR x3), some (vI x4), some (vI x5), some (vR x6)] [(vI s0), (vI s1)] σ K := by
  refine s_iadd dX8_meanAge_53 ?_
  refine s_istore_n (i := 2) (L' := [some (vR x0), some (vI x1), some (vI (s1 + s0)), some (vR x3), some (vI x4), some (vI x5), some (vR x6)]) dX8_meanAge_54 rfl rfl (by decide) rfl ?_
  refine s_iinc (v := x5 + 1) (L' := [some (vR x0), some (vI x1), some (vI (s1 + s0)), some (vR x3), some (vI x4), some (vI (x5 + 1)), some (vR x6)]) dX8_meanAge_55 rfl rfl rfl (by decide) rfl ?_
  refine s_goto (tgt := 19) dX8_meanAge_58 (by decide) ?_
  exact h.msk ⟨rfl, ⟨rfl, ⟨rfl, ⟨rfl, ⟨rfl, ⟨rfl, trivial⟩⟩⟩⟩⟩⟩
theorem vX8_shelfByHits_0 {G : GG} (gk : GOK G) {σ : Mm} {K : RES → Mm → Prop} {x0 : Option Nat} {x1 : Int32}
    (h : At G mX8_shelfByHits rX8_shelfByHits 0 0 2 [some (vR x0), some (vI x1), some (vI (0 : Int32))] [] σ K) : At G mX8_shelfByHits rX8_shelfByHits 0 0 0 [some (vR x0), some (vI x1), none] [] σ K := by
  refine s_iconst (v := 0) dX8_shelfByHits_0 (by decide) ?_
  refine s_istore_n (i := 2) (L' := [some (vR x0), some (vI x1), some (vI (0 : Int32))]) dX8_shelfByHits_1 rfl rfl (by decide) rfl ?_
  exact h
theorem eX8_shelfByHits {G : GG} (gk : GOK G) {σ : Mm} {K : RES → Mm → Prop} {x0 : Option Nat} {x1 : Int32}
    (h : At G mX8_shelfByHits rX8_shelfByHits 0 0 2 [some (vR x0), some (vI x1), some (vI (0 : Int32))] [] σ K) : Runs G mX8_shelfByHits rX8_shelfByHits [(vR x0), (vI x1)] σ K := Runs.of (by decide) rfl (Nat.le_of_ble_eq_true rfl) (vX8_shelfByHits_0 gk h)
theorem vX8_shelfByHits_2 {G : GG} (gk : GOK G) (hst : STR G) {σ : Mm} {K : RES → Mm → Prop} {x0 : Option Nat} {x1 : Int32} {x2 : Int32}
    (h : (((4 : Int32) ≤ x2 → (∀ k, K (.inr "java/util/NoSuchElementException") (sk σ k))) ∧ (¬ (4 : Int32) ≤ x2 → ∃ a2, x0 = some a2 ∧ (mt σ a2).1 = 9 ∧ ∃ a4, mr σ a2 0 = some a4 ∧ (mt σ a4).1 = 7 ∧ Runs G mX6_findShelf rX6_findShelf [(vR (mr σ a2 0)), (vI x2)] σ (bk G mX8_shelfByHits rX8_shelfByHits 0 0 15 [some (vR x0), some (vI x1), some (vI x2)] [] K)))) : At G mX8_shelfByHits rX8_shelfByHits 0 0 2 [some (vR x0), some (vI x1), some (vI x2)] [] σ K := by
  refine s_iload_n (i := 2) dX8_shelfByHits_2 rfl rfl ?_
  refine s_iconst (v := 4) dX8_shelfByHits_3 (by decide) ?_
  refine s_icmp_ge (tgt := 38) dX8_shelfByHits_4 (by decide) (fun q1 => ?_) (fun q1 => ?_)
  · have h := h.1 q1
    exact s_thr0 gk hst thx_142 w_464 w_18 (tl_5 (List.mem_of_getElem? (i := 120) rfl)) dX8_shelfByHits_38 dX8_shelfByHits_41 (Or.inr ⟨dX8_shelfByHits_42, rfl⟩) dX8_shelfByHits_45 dX8_shelfByHits_48 (by decide) (by decide) (by decide) (by decide) h
  · have h := h.2 q1
    refine s_aload_n (i := 0) dX8_shelfByHits_7 rfl rfl ?_
    obtain ⟨a2, ea2, h⟩ := h
    obtain ⟨t3, h⟩ := h
    refine t_getR gk dX8_shelfByHits_8 fX8_10 rfl ea2 t3 ?_
    refine s_iload_n (i := 2) dX8_shelfByHits_11 rfl rfl ?_
    obtain ⟨a4, ea4, h⟩ := h
    obtain ⟨t5, h⟩ := h
    exact t_callV (ci := 6) (as := [(vI x2)]) (S := []) gk dX8_shelfByHits_12 gX8_260 (by decide) rfl w_656 w_657 ea4 t5 rfl rfl (Nat.le_of_ble_eq_true rfl) (by decide) h
theorem vX8_shelfByHits_15 {G : GG} (gk : GOK G) {σ : Mm} {K : RES → Mm → Prop} {x0 : Option Nat} {x1 : Int32} {x2 : Int32} {s0 : Option Nat}
    (h : ((s0 = none → At G mX8_shelfByHits rX8_shelfByHits 0 0 2 [some (vR x0), some (vI x1), some (vI (x2 + 1))] [] σ K) ∧ (∀ a2, s0 = some a2 → ∃ a3, x0 = some a3 ∧ (mt σ a3).1 = 9 ∧ ∃ a5, mr σ a3 0 = some a5 ∧ (mt σ a5).1 = 7 ∧ Runs G mX6_rankByHits rX6_rankByHits [(vR (mr σ a3 0)), (vI x2)] σ (bk G mX8_shelfByHits rX8_shelfByHits 0 0 26 [some (vR x0), some (vI x1), some (vI x2)] [] K)))) : At G mX8_shelfByHits rX8_shelfByHits 0 0 15 [some (vR x0), some (vI x1), some (vI x2)] [(vR s0)] σ K := by
  refine s_ifnull (tgt := 32) dX8_shelfByHits_15 (by decide) (fun q1 => ?_) (fun a2 ea2 => ?_)
  · have h := h.1 q1
    refine s_iinc (v := x2 + 1) (L' := [some (vR x0), some (vI x1), some (vI (x2 + 1))]) dX8_shelfByHits_32 rfl rfl rfl (by decide) rfl ?_
    refine s_goto (tgt := 2) dX8_shelfByHits_35 (by decide) ?_
    exact h
  · have h := h.2 a2 ea2
    refine s_aload_n (i := 0) dX8_shelfByHits_18 rfl rfl ?_
    obtain ⟨a3, ea3, h⟩ := h
    obtain ⟨t4, h⟩ := h
    refine t_getR gk dX8_shelfByHits_19 fX8_10 rfl ea3 t4 ?_
    refine s_iload_n (i := 2) dX8_shelfByHits_22 rfl rfl ?_
    obtain ⟨a5, ea5, h⟩ := h
    obtain ⟨t6, h⟩ := h
    exact t_callV (ci := 6) (as := [(vI x2)]) (S := []) gk dX8_shelfByHits_23 gX8_263 (by decide) rfl w_1077 w_1078 ea5 t6 rfl rfl (Nat.le_of_ble_eq_true rfl) (by decide) h
theorem vX8_shelfByHits_26 {G : GG} (gk : GOK G) {σ : Mm} {K : RES → Mm → Prop} {x0 : Option Nat} {x1 : Int32} {x2 : Int32} {s0 : Int32}
    (h : ((¬ s0 = x1 → At G mX8_shelfByHits rX8_shelfByHits 0 0 2 [some (vR x0), some (vI x1), some (vI (x2 + 1))] [] σ K) ∧ (s0 = x1 → K (.inl (some (vI x2))) σ))) : At G mX8_shelfByHits rX8_shelfByHits 0 0 26 [some (vR x0), some (vI x1), some (vI x2)] [(vI s0)] σ K := by
  refine s_iload_n (i := 1) dX8_shelfByHits_26 rfl rfl ?_
  refine s_icmp_ne (tgt := 32) dX8_shelfByHits_27 (by decide) (fun q1 => ?_) (fun q1 => ?_)
  · have h := h.1 q1
    refine s_iinc (v := x2 + 1) (L' := [some (vR x0), some (vI x1), some (vI (x2 + 1))]) dX8_shelfByHits_32 rfl rfl rfl (by decide) rfl ?_
    refine s_goto (tgt := 2) dX8_shelfByHits_35 (by decide) ?_
    exact h
  · have h := h.2 q1
    refine s_iload_n (i := 2) dX8_shelfByHits_30 rfl rfl ?_
    exact s_ireturn dX8_shelfByHits_31 rfl rfl (by decide) (by decide) h
theorem vX8_writeShelf_0 {G : GG} (gk : GOK G) {uc us : Nat} {σ : Mm} {K : RES → Mm → Prop} {x0 : Option Nat} {x1 : Int32}
    (h : ∃ a1, x0 = some a1 ∧ (mt σ a1).1 = 9 ∧ uc + rX8_wantShelf.cells ≤ rX8_writeShelf.cells ∧ us + rX8_wantShelf.slots ≤ rX8_writeShelf.slots ∧ Runs G mX8_wantShelf rX8_wantShelf [(vR x0), (vI x1)] σ (bk G mX8_writeShelf rX8_writeShelf (uc + 1) (us + 6) 5 [some (vR x0), some (vI x1), none, none, none] [] K)) : At G mX8_writeShelf rX8_writeShelf uc us 0 [some (vR x0), some (vI x1), none, none, none] [] σ K := by
  refine s_aload_n (i := 0) dX8_writeShelf_0 rfl rfl ?_
  refine s_iload_n (i := 1) dX8_writeShelf_1 rfl rfl ?_
  obtain ⟨a1, ea1, h⟩ := h
  obtain ⟨t2, h⟩ := h
  obtain ⟨u3, u4, h⟩ := h
  exact t_callV (ci := 8) (as := [(vI x1)]) (S := []) gk dX8_writeShelf_2 gX8_110 (by decide) rfl w_791 wp_1 ea1 t2 rfl rfl (Nat.le_of_ble_eq_true rfl) ⟨by decide, by decide, u3, u4⟩ h
theorem eX8_writeShelf {G : GG} (gk : GOK G) {σ : Mm} {K : RES → Mm → Prop} {x0 : Option Nat} {x1 : Int32}
    (h : ∃ a1, x0 = some a1 ∧ (mt σ a1).1 = 9 ∧ 0 + rX8_wantShelf.cells ≤ rX8_writeShelf.cells ∧ 0 + rX8_wantShelf.slots ≤ rX8_writeShelf.slots ∧ Runs G mX8_wantShelf rX8_wantShelf [(vR x0), (vI x1)] σ (bk G mX8_writeShelf rX8_writeShelf (0 + 1) (0 + 6) 5 [some (vR x0), some (vI x1), none, none, none] [] K)) : Runs G mX8_writeShelf rX8_writeShelf [(vR x0), (vI x1)] σ K := Runs.of (by decide) rfl (Nat.le_of_ble_eq_true rfl) (vX8_writeShelf_0 gk h)
theorem vX8_writeShelf_5 {G : GG} (gk : GOK G) {uc us : Nat} {σ : Mm} {K : RES → Mm → Prop} {x0 : Option Nat} {x1 : Int32} {s0 : Option Nat}
    (h : ∃ a1, x0 = some a1 ∧ (mt σ a1).1 = 9 ∧ ∃ a3, mr σ a1 7 = some a3 ∧ (mt σ a3).1 = 11 ∧ uc + rJ4_setLength_d00df.cells ≤ rX8_writeShelf.cells ∧ us + rJ4_setLength_d00df.slots ≤ rX8_writeShelf.slots ∧ Runs G mJ4_setLength_d00df rJ4_setLength_d00df [(vR (mr σ a1 7)), (vI (0 : Int32))] σ (bk G mX8_writeShelf rX8_writeShelf (uc + 0) (us + 0) 14 [some (vR x0), some (vI x1), some (vR s0), none, none] [] K)) : At G mX8_writeShelf rX8_writeShelf uc us 5 [some (vR x0), some (vI x1), none, none, none] [(vR s0)] σ K := by
  refine s_astore_n (i := 2) (L' := [some (vR x0), some (vI x1), some (vR s0), none, none]) dX8_writeShelf_5 rfl rfl (by decide) rfl ?_
  refine s_aload_n (i := 0) dX8_writeShelf_6 rfl rfl ?_
  obtain ⟨a1, ea1, h⟩ := h
  obtain ⟨t2, h⟩ := h
  refine t_getR gk dX8_writeShelf_7 fX8_47 rfl ea1 t2 ?_
  refine s_iconst (v := 0) dX8_writeShelf_10 (by decide) ?_
  obtain ⟨a3, ea3, h⟩ := h
  obtain ⟨t4, h⟩ := h
  obtain ⟨u5, u6, h⟩ := h
  exact t_callV (ci := 10) (as := [(vI (0 : Int32))]) (S := []) gk dX8_writeShelf_11 gX8_268 (by decide) rfl w_1309 w_1310 ea3 t4 rfl rfl (Nat.le_of_ble_eq_true rfl) ⟨by decide, by decide, u5, u6⟩ h
theorem vX8_writeShelf_14 {G : GG} (gk : GOK G) {uc us : Nat} {σ : Mm} {K : RES → Mm → Prop} {x0 : Option Nat} {x1 : Int32} {x2 : Option Nat}
    (h : At G mX8_writeShelf rX8_writeShelf uc us 17 [some (vR x0), some (vI x1), some (vR x2), some (vI (97 : Int32)), none] [] σ K) : At G mX8_writeShelf rX8_writeShelf uc us 14 [some (vR x0), some (vI x1), some (vR x2), none, none] [] σ K := by
  refine s_bipush (v := 97) dX8_writeShelf_14 (by decide) ?_
  refine s_istore_n (i := 3) (L' := [some (vR x0), some (vI x1), some (vR x2), some (vI (97 : Int32)), none]) dX8_writeShelf_16 rfl rfl (by decide) rfl ?_
  exact h
theorem vX8_writeShelf_17 {G : GG} (gk : GOK G) {uc us : Nat} {σ : Mm} {K : RES → Mm → Prop} {x0 : Option Nat} {x1 : Int32} {x2 : Option Nat} {x3 : Int32}
    (h : (((122 : Int32) < x3 → ∃ a2, x0 = some a2 ∧ (mt σ a2).1 = 9 ∧ ∃ a4, mr σ a2 7 = some a4 ∧ (mt σ a4).1 = 11 ∧ uc + rJ4_length_8abf5.cells ≤ rX8_writeShelf.cells ∧ us + rJ4_length_8abf5.slots ≤ rX8_writeShelf.slots ∧ Runs G mJ4_length_8abf5 rJ4_length_8abf5 [(vR (mr σ a2 7))] σ (bk G mX8_writeShelf rX8_writeShelf (uc + 0) (us + 0) 69 [some (vR x0), some (vI x1), some (vR x2), some (vI x3), none] [] K)) ∧ (¬ (122 : Int32) < x3 → ∃ a8, x2 = some a8 ∧ (mt σ a8).1 = 6 ∧ uc + rX5_find.cells ≤ rX8_writeShelf.cells ∧ us + rX5_find.slots ≤ rX8_writeShelf.slots ∧ Runs G mX5_find rX5_find [(vR x2), (vI x3)] σ (bk G mX8_writeShelf rX8_writeShelf (uc + 0) (us + 0) 28 [some (vR x0), some (vI x1), some (vR x2), some (vI x3), none] [] K)))) : At G mX8_writeShelf rX8_writeShelf uc us 17 [some (vR x0), some (vI x1), some (vR x2), some (vI x3), none] [] σ K := by
  refine s_iload_n (i := 3) dX8_writeShelf_17 rfl rfl ?_
  refine s_bipush (v := 122) dX8_writeShelf_18 (by decide) ?_
  refine s_icmp_gt (tgt := 62) dX8_writeShelf_20 (by decide) (fun q1 => ?_) (fun q1 => ?_)
  · have h := h.1 q1
    refine s_aload_n (i := 0) dX8_writeShelf_62 rfl rfl ?_
    obtain ⟨a2, ea2, h⟩ := h
    obtain ⟨t3, h⟩ := h
    refine t_getR gk dX8_writeShelf_63 fX8_47 rfl ea2 t3 ?_
    obtain ⟨a4, ea4, h⟩ := h
    obtain ⟨t5, h⟩ := h
    obtain ⟨u6, u7, h⟩ := h
    exact t_callV (ci := 10) (as := []) (S := []) gk dX8_writeShelf_66 gX8_275 (by decide) rfl w_1262 w_1568 ea4 t5 rfl rfl (Nat.le_of_ble_eq_true rfl) ⟨by decide, by decide, u6, u7⟩ h
  · have h := h.2 q1
    refine s_aload_n (i := 2) dX8_writeShelf_23 rfl rfl ?_
    refine s_iload_n (i := 3) dX8_writeShelf_24 rfl rfl ?_
    obtain ⟨a8, ea8, h⟩ := h
    obtain ⟨t9, h⟩ := h
    obtain ⟨u10, u11, h⟩ := h
    exact t_callV (ci := 5) (as := [(vI x3)]) (S := []) gk dX8_writeShelf_25 gX8_143 (by decide) rfl w_668 w_669 ea8 t9 rfl rfl (Nat.le_of_ble_eq_true rfl) ⟨by decide, by decide, u10, u11⟩ h
theorem vX8_writeShelf_28 {G : GG} (gk : GOK G) {uc us : Nat} {σ : Mm} {K : RES → Mm → Prop} {x0 : Option Nat} {x1 : Int32} {x2 : Option Nat} {x3 : Int32} {s0 : Option Nat}
    (h : ((s0 = none → At G mX8_writeShelf rX8_writeShelf uc us 54 [some (vR x0), some (vI x1), some (vR x2), some (vI x3), some (vR s0)] [] σ K) ∧ (∀ a2, s0 = some a2 → ∃ a3, x0 = some a3 ∧ (mt σ a3).1 = 9 ∧ ∃ a5, mr σ a3 0 = some a5 ∧ (mt σ a5).1 = 7 ∧ ∃ a7, x2 = some a7 ∧ (mt σ a7).1 = 6 ∧ uc + rX5_hasOutlived.cells ≤ rX8_writeShelf.cells ∧ us + rX5_hasOutlived.slots ≤ rX8_writeShelf.slots ∧ Runs G mX5_hasOutlived rX5_hasOutlived [(vR x2), (vR s0), (vI (mi σ a5 3))] σ (bk G mX8_writeShelf rX8_writeShelf (uc + 0) (us + 0) 51 [some (vR x0), some (vI x1), some (vR x2), some (vI x3), some (vR s0)] [(vR s0), (vR x0)] K)))) : At G mX8_writeShelf rX8_writeShelf uc us 28 [some (vR x0), some (vI x1), some (vR x2), some (vI x3), none] [(vR s0)] σ K := by
  refine s_astore (L' := [some (vR x0), some (vI x1), some (vR x2), some (vI x3), some (vR s0)]) dX8_writeShelf_28 rfl (by decide) rfl ?_
  refine s_aload dX8_writeShelf_30 rfl ?_
  refine s_ifnull (tgt := 54) dX8_writeShelf_32 (by decide) (fun q1 => ?_) (fun a2 ea2 => ?_)
  · have h := h.1 q1
    exact h
  · have h := h.2 a2 ea2
    refine s_aload_n (i := 0) dX8_writeShelf_35 rfl rfl ?_
    refine s_aload dX8_writeShelf_36 rfl ?_
    refine s_aload_n (i := 2) dX8_writeShelf_38 rfl rfl ?_
    refine s_aload dX8_writeShelf_39 rfl ?_
    refine s_aload_n (i := 0) dX8_writeShelf_41 rfl rfl ?_
    obtain ⟨a3, ea3, h⟩ := h
    obtain ⟨t4, h⟩ := h
    refine t_getR gk dX8_writeShelf_42 fX8_10 rfl ea3 t4 ?_
    obtain ⟨a5, ea5, h⟩ := h
    obtain ⟨t6, h⟩ := h
    refine t_getI gk dX8_writeShelf_45 fX8_154 rfl ea5 t6 ?_
    obtain ⟨a7, ea7, h⟩ := h
    obtain ⟨t8, h⟩ := h
    obtain ⟨u9, u10, h⟩ := h
    exact t_callV (ci := 5) (as := [(vR s0), (vI (mi σ a5 3))]) (S := [(vR s0), (vR x0)]) gk dX8_writeShelf_48 gX8_164 (by decide) rfl w_677 w_678 ea7 t8 rfl rfl (Nat.le_of_ble_eq_true rfl) ⟨by decide, by decide, u9, u10⟩ h
theorem vX8_writeShelf_51 {G : GG} (gk : GOK G) {uc us : Nat} {σ : Mm} {K : RES → Mm → Prop} {x0 : Option Nat} {x1 : Int32} {x2 : Option Nat} {x3 : Int32} {x4 : Option Nat} {s0 : Int32} {s1 : Option Nat} {s2 : Option Nat}
    (h : ∃ a1, s2 = some a1 ∧ (mt σ a1).1 = 9 ∧ uc + rX8_writeEcho.cells ≤ rX8_writeShelf.cells ∧ us + rX8_writeEcho.slots ≤ rX8_writeShelf.slots ∧ Runs G mX8_writeEcho rX8_writeEcho [(vR s2), (vR s1), (vI s0)] σ (bk G mX8_writeShelf rX8_writeShelf (uc + 5) (us + 700) 54 [some (vR x0), some (vI x1), some (vR x2), some (vI x3), some (vR x4)] [] K)) : At G mX8_writeShelf rX8_writeShelf uc us 51 [some (vR x0), some (vI x1), some (vR x2), some (vI x3), some (vR x4)] [(vI s0), (vR s1), (vR s2)] σ K := by
  obtain ⟨a1, ea1, h⟩ := h
  obtain ⟨t2, h⟩ := h
  obtain ⟨u3, u4, h⟩ := h
  exact t_callV (ci := 8) (as := [(vR s1), (vI s0)]) (S := []) gk dX8_writeShelf_51 gX8_271 (by decide) rfl w_1362 wp_5 ea1 t2 rfl rfl (Nat.le_of_ble_eq_true rfl) ⟨by decide, by decide, u3, u4⟩ h
theorem vX8_writeShelf_54 {G : GG} (gk : GOK G) {uc us : Nat} {σ : Mm} {K : RES → Mm → Prop} {x0 : Option Nat} {x1 : Int32} {x2 : Option Nat} {x3 : Int32} {x4 : Option Nat}
    (h : At G mX8_writeShelf rX8_writeShelf uc us 17 [some (vR x0), some (vI x1), some (vR x2), some (vI (i2c (x3 + (1 : Int32)))), none] [] σ K) : At G mX8_writeShelf rX8_writeShelf uc us 54 [some (vR x0), some (vI x1), some (vR x2), some (vI x3), some (vR x4)] [] σ K := by
  refine s_iload_n (i := 3) dX8_writeShelf_54 rfl rfl ?_
  refine s_iconst (v := 1) dX8_writeShelf_55 (by decide) ?_
  refine s_iadd dX8_writeShelf_56 ?_
  refine s_i2c (v := i2c (x3 + (1 : Int32))) dX8_writeShelf_57 rfl ?_
  refine s_istore_n (i := 3) (L' := [some (vR x0), some (vI x1), some (vR x2), some (vI (i2c (x3 + (1 : Int32)))), some (vR x4)]) dX8_writeShelf_58 rfl rfl (by decide) rfl ?_
  refine s_goto (tgt := 17) dX8_writeShelf_59 (by decide) ?_
  exact h.msk ⟨rfl, ⟨rfl, ⟨rfl, ⟨rfl, trivial⟩⟩⟩⟩
theorem vX8_writeShelf_69 {G : GG} (gk : GOK G) {uc us : Nat} {σ : Mm} {K : RES → Mm → Prop} {x0 : Option Nat} {x1 : Int32} {x2 : Option Nat} {x3 : Int32} {s0 : Int32}
    (h : uc ≤ rX8_writeShelf.cells ∧ us ≤ rX8_writeShelf.slots ∧ K (.inl (some (vI s0))) σ) : At G mX8_writeShelf rX8_writeShelf uc us 69 [some (vR x0), some (vI x1), some (vR x2), some (vI x3), none] [(vI s0)] σ K := by
  obtain ⟨u1, u2, h⟩ := h
  exact s_ireturn dX8_writeShelf_69 rfl rfl u1 u2 h
theorem vX8_lineAt_0 {G : GG} (gk : GOK G) (hst : STR G) {σ : Mm} {K : RES → Mm → Prop} {x0 : Option Nat} {x1 : Int32}
    (h : ((x1 < 0 → (∀ k, K (.inr "java/lang/IndexOutOfBoundsException") (sk σ k))) ∧ (¬ x1 < 0 → ∃ a2, x0 = some a2 ∧ (mt σ a2).1 = 9 ∧ ∃ a4, mr σ a2 7 = some a4 ∧ (mt σ a4).1 = 11 ∧ Runs G mJ4_length_8abf5 rJ4_length_8abf5 [(vR (mr σ a2 7))] σ (bk G mX8_lineAt rX8_lineAt 0 0 12 [some (vR x0), some (vI x1)] [(vI x1)] K)))) : At G mX8_lineAt rX8_lineAt 0 0 0 [some (vR x0), some (vI x1)] [] σ K := by
  refine s_iload_n (i := 1) dX8_lineAt_0 rfl rfl ?_
  refine s_if_lt (tgt := 15) dX8_lineAt_1 (by decide) (fun q1 => ?_) (fun q1 => ?_)
  · have h := h.1 q1
    exact s_thr0 gk hst thx_91 w_393 w_17 (tl_6 (List.mem_of_getElem? (i := 178) rfl)) dX8_lineAt_15 dX8_lineAt_18 (Or.inr ⟨dX8_lineAt_19, rfl⟩) dX8_lineAt_22 dX8_lineAt_25 (by decide) (by decide) (by decide) (by decide) h
  · have h := h.2 q1
    refine s_iload_n (i := 1) dX8_lineAt_4 rfl rfl ?_
    refine s_aload_n (i := 0) dX8_lineAt_5 rfl rfl ?_
    obtain ⟨a2, ea2, h⟩ := h
    obtain ⟨t3, h⟩ := h
    refine t_getR gk dX8_lineAt_6 fX8_47 rfl ea2 t3 ?_
    obtain ⟨a4, ea4, h⟩ := h
    obtain ⟨t5, h⟩ := h
    exact t_callV (ci := 10) (as := []) (S := [(vI x1)]) gk dX8_lineAt_9 gX8_275 (by decide) rfl w_1262 w_1568 ea4 t5 rfl rfl (Nat.le_of_ble_eq_true rfl) (by decide) h
theorem eX8_lineAt {G : GG} (gk : GOK G) (hst : STR G) {σ : Mm} {K : RES → Mm → Prop} {x0 : Option Nat} {x1 : Int32}
    (h : ((x1 < 0 → (∀ k, K (.inr "java/lang/IndexOutOfBoundsException") (sk σ k))) ∧ (¬ x1 < 0 → ∃ a2, x0 = some a2 ∧ (mt σ a2).1 = 9 ∧ ∃ a4, mr σ a2 7 = some a4 ∧ (mt σ a4).1 = 11 ∧ Runs G mJ4_length_8abf5 rJ4_length_8abf5 [(vR (mr σ a2 7))] σ (bk G mX8_lineAt rX8_lineAt 0 0 12 [some (vR x0), some (vI x1)] [(vI x1)] K)))) : Runs G mX8_lineAt rX8_lineAt [(vR x0), (vI x1)] σ K := Runs.of (by decide) rfl (Nat.le_of_ble_eq_true rfl) (vX8_lineAt_0 gk hst h)
theorem vX8_lineAt_12 {G : GG} (gk : GOK G) (hst : STR G) {σ : Mm} {K : RES → Mm → Prop} {x0 : Option Nat} {x1 : Int32} {s0 : Int32} {s1 : Int32}
    (h : ((s1 < s0 → ∃ a2, x0 = some a2 ∧ (mt σ a2).1 = 9 ∧ ∃ a4, mr σ a2 7 = some a4 ∧ (mt σ a4).1 = 11 ∧ Runs G mJ4_charAt_5068e rJ4_charAt_5068e [(vR (mr σ a2 7)), (vI x1)] σ (bk G mX8_lineAt rX8_lineAt 0 0 34 [some (vR x0), some (vI x1)] [] K)) ∧ (¬ s1 < s0 → (∀ k, K (.inr "java/lang/IndexOutOfBoundsException") (sk σ k))))) : At G mX8_lineAt rX8_lineAt 0 0 12 [some (vR x0), some (vI x1)] [(vI s0), (vI s1)] σ K := by
  refine s_icmp_lt (tgt := 26) dX8_lineAt_12 (by decide) (fun q1 => ?_) (fun q1 => ?_)
  · have h := h.1 q1
    refine s_aload_n (i := 0) dX8_lineAt_26 rfl rfl ?_
    obtain ⟨a2, ea2, h⟩ := h
    obtain ⟨t3, h⟩ := h
    refine t_getR gk dX8_lineAt_27 fX8_47 rfl ea2 t3 ?_
    refine s_iload_n (i := 1) dX8_lineAt_30 rfl rfl ?_
    obtain ⟨a4, ea4, h⟩ := h
    obtain ⟨t5, h⟩ := h
    exact t_callV (ci := 10) (as := [(vI x1)]) (S := []) gk dX8_lineAt_31 gX8_280 (by decide) rfl w_1380 w_1381 ea4 t5 rfl rfl (Nat.le_of_ble_eq_true rfl) (by decide) h
  · have h := h.2 q1
    exact s_thr0 gk hst thx_91 w_393 w_17 (tl_6 (List.mem_of_getElem? (i := 178) rfl)) dX8_lineAt_15 dX8_lineAt_18 (Or.inr ⟨dX8_lineAt_19, rfl⟩) dX8_lineAt_22 dX8_lineAt_25 (by decide) (by decide) (by decide) (by decide) h
theorem vX8_lineAt_34 {G : GG} (gk : GOK G) {σ : Mm} {K : RES → Mm → Prop} {x0 : Option Nat} {x1 : Int32} {s0 : Int32}
    (h : isC s0 ∧ K (.inl (some (vI s0))) σ) : At G mX8_lineAt rX8_lineAt 0 0 34 [some (vR x0), some (vI x1)] [(vI s0)] σ K := by
  obtain ⟨c1, h⟩ := h
  exact s_ireturn dX8_lineAt_34 rfl (nf_c c1).1 (by decide) (by decide) h
theorem vX8_isConsistent_0 {G : GG} (gk : GOK G) {σ : Mm} {K : RES → Mm → Prop} {x0 : Option Nat}
    (h : ∃ a1, x0 = some a1 ∧ (mt σ a1).1 = 9 ∧ ∃ a3, mr σ a1 0 = some a3 ∧ (mt σ a3).1 = 7 ∧ ∃ a5, mr σ a3 1 = some a5 ∧ ∃ n7, mt σ a5 = (56, n7) ∧ At G mX8_isConsistent rX8_isConsistent 0 0 13 [some (vR x0), some (vR (mr σ a3 1)), some (vI (nI n7)), some (vI (0 : Int32)), none, none, none, none, none] [] σ K) : At G mX8_isConsistent rX8_isConsistent 0 0 0 [some (vR x0), none, none, none, none, none, none, none, none] [] σ K := by
  refine s_aload_n (i := 0) dX8_isConsistent_0 rfl rfl ?_
  obtain ⟨a1, ea1, h⟩ := h
  obtain ⟨t2, h⟩ := h
  refine t_getR gk dX8_isConsistent_1 fX8_10 rfl ea1 t2 ?_
  obtain ⟨a3, ea3, h⟩ := h
  obtain ⟨t4, h⟩ := h
  refine t_getR gk dX8_isConsistent_4 fX8_251 rfl ea3 t4 ?_
  refine s_astore_n (i := 1) (L' := [some (vR x0), some (vR (mr σ a3 1)), none, none, none, none, none, none, none]) dX8_isConsistent_7 rfl rfl (by decide) rfl ?_
  refine s_aload_n (i := 1) dX8_isConsistent_8 rfl rfl ?_
  obtain ⟨a5, ea5, h⟩ := h
  obtain ⟨n7, t6, h⟩ := h
  refine t_alen (j := 6) gk dX8_isConsistent_9 (by decide) ea5 t6 ?_
  refine s_istore_n (i := 2) (L' := [some (vR x0), some (vR (mr σ a3 1)), some (vI (nI n7)), none, none, none, none, none, none]) dX8_isConsistent_10 rfl rfl (by decide) rfl ?_
  refine s_iconst (v := 0) dX8_isConsistent_11 (by decide) ?_
  refine s_istore_n (i := 3) (L' := [some (vR x0), some (vR (mr σ a3 1)), some (vI (nI n7)), some (vI (0 : Int32)), none, none, none, none, none]) dX8_isConsistent_12 rfl rfl (by decide) rfl ?_
  exact h
theorem eX8_isConsistent {G : GG} (gk : GOK G) {σ : Mm} {K : RES → Mm → Prop} {x0 : Option Nat}
    (h : ∃ a1, x0 = some a1 ∧ (mt σ a1).1 = 9 ∧ ∃ a3, mr σ a1 0 = some a3 ∧ (mt σ a3).1 = 7 ∧ ∃ a5, mr σ a3 1 = some a5 ∧ ∃ n7, mt σ a5 = (56, n7) ∧ At G mX8_isConsistent rX8_isConsistent 0 0 13 [some (vR x0), some (vR (mr σ a3 1)), some (vI (nI n7)), some (vI (0 : Int32)), none, none, none, none, none] [] σ K) : Runs G mX8_isConsistent rX8_isConsistent [(vR x0)] σ K := Runs.of (by decide) rfl (Nat.le_of_ble_eq_true rfl) (vX8_isConsistent_0 gk h)
theorem vX8_isConsistent_13 {G : GG} (gk : GOK G) {σ : Mm} {K : RES → Mm → Prop} {x0 : Option Nat} {x1 : Option Nat} {x2 : Int32} {x3 : Int32}
    (h : ((x2 ≤ x3 → K (.inl (some (vI (1 : Int32)))) σ) ∧ (¬ x2 ≤ x3 → ∃ a2, x1 = some a2 ∧ ∃ n4, mt σ a2 = (56, n4) ∧ vp_in x3 n4 ∧ ∃ a6, mr σ a2 x3.toNatClampNeg = some a6 ∧ (mt σ a6).1 = 6 ∧ Runs G mX5_firstInOrder rX5_firstInOrder [(vR (mr σ a2 x3.toNatClampNeg))] σ (bk G mX8_isConsistent rX8_isConsistent 0 0 28 [some (vR x0), some (vR x1), some (vI x2), some (vI x3), some (vR (mr σ a2 x3.toNatClampNeg)), none, none, none, none] [] K)))) : At G mX8_isConsistent rX8_isConsistent 0 0 13 [some (vR x0), some (vR x1), some (vI x2), some (vI x3), none, none, none, none, none] [] σ K := by
  refine s_iload_n (i := 3) dX8_isConsistent_13 rfl rfl ?_
  refine s_iload_n (i := 2) dX8_isConsistent_14 rfl rfl ?_
  refine s_icmp_ge (tgt := 114) dX8_isConsistent_15 (by decide) (fun q1 => ?_) (fun q1 => ?_)
  · have h := h.1 q1
    refine s_iconst (v := 1) dX8_isConsistent_114 (by decide) ?_
    exact s_ireturn dX8_isConsistent_115 rfl rfl (by decide) (by decide) h
  · have h := h.2 q1
    refine s_aload_n (i := 1) dX8_isConsistent_18 rfl rfl ?_
    refine s_iload_n (i := 3) dX8_isConsistent_19 rfl rfl ?_
    obtain ⟨a2, ea2, h⟩ := h
    obtain ⟨n4, t3, h⟩ := h
    obtain ⟨c5, h⟩ := h
    refine t_aald (j := 6) gk dX8_isConsistent_20 (by decide) (by decide) ea2 t3 c5 ?_
    refine s_astore (L' := [some (vR x0), some (vR x1), some (vI x2), some (vI x3), some (vR (mr σ a2 x3.toNatClampNeg)), none, none, none, none]) dX8_isConsistent_21 rfl (by decide) rfl ?_
    refine s_aload dX8_isConsistent_23 rfl ?_
    obtain ⟨a6, ea6, h⟩ := h
    obtain ⟨t7, h⟩ := h
    exact t_callV (ci := 5) (as := []) (S := []) gk dX8_isConsistent_25 gX8_178 (by decide) rfl w_713 w_714 ea6 t7 rfl rfl (Nat.le_of_ble_eq_true rfl) (by decide) h
theorem vX8_isConsistent_28 {G : GG} (gk : GOK G) {σ : Mm} {K : RES → Mm → Prop} {x0 : Option Nat} {x1 : Option Nat} {x2 : Int32} {x3 : Int32} {x4 : Option Nat} {s0 : Option Nat}
    (h : ∃ a1, x4 = some a1 ∧ (mt σ a1).1 = 6 ∧ Runs G mX5_firstByScan rX5_firstByScan [(vR x4)] σ (bk G mX8_isConsistent rX8_isConsistent 0 0 33 [some (vR x0), some (vR x1), some (vI x2), some (vI x3), some (vR x4), none, none, none, none] [(vR s0)] K)) : At G mX8_isConsistent rX8_isConsistent 0 0 28 [some (vR x0), some (vR x1), some (vI x2), some (vI x3), some (vR x4), none, none, none, none] [(vR s0)] σ K := by
  refine s_aload dX8_isConsistent_28 rfl ?_
  obtain ⟨a1, ea1, h⟩ := h
  obtain ⟨t2, h⟩ := h
  exact t_callV (ci := 5) (as := []) (S := [(vR s0)]) gk dX8_isConsistent_30 gX8_187 (by decide) rfl w_972 w_973 ea1 t2 rfl rfl (Nat.le_of_ble_eq_true rfl) (by decide) h
theorem vX8_isConsistent_33 {G : GG} (gk : GOK G) {σ : Mm} {K : RES → Mm → Prop} {x0 : Option Nat} {x1 : Option Nat} {x2 : Int32} {x3 : Int32} {x4 : Option Nat} {s0 : Option Nat} {s1 : Option Nat}
    (h : ((¬ s1 = s0 → K (.inl (some (vI (0 : Int32)))) σ) ∧ (s1 = s0 → ∃ a2, x4 = some a2 ∧ (mt σ a2).1 = 6 ∧ Runs G mX5_countEchoes rX5_countEchoes [(vR x4)] σ (bk G mX8_isConsistent rX8_isConsistent 0 0 41 [some (vR x0), some (vR x1), some (vI x2), some (vI x3), some (vR x4), none, none, none, none] [] K)))) : At G mX8_isConsistent rX8_isConsistent 0 0 33 [some (vR x0), some (vR x1), some (vI x2), some (vI x3), some (vR x4), none, none, none, none] [(vR s0), (vR s1)] σ K := by
  refine s_acmp_ne (tgt := 49) dX8_isConsistent_33 (by decide) (fun q1 => ?_) (fun q1 => ?_)
  · have h := h.1 q1
    refine s_iconst (v := 0) dX8_isConsistent_49 (by decide) ?_
    exact s_ireturn dX8_isConsistent_50 rfl rfl (by decide) (by decide) h
  · have h := h.2 q1
    refine s_aload dX8_isConsistent_36 rfl ?_
    obtain ⟨a2, ea2, h⟩ := h
    obtain ⟨t3, h⟩ := h
    exact t_callV (ci := 5) (as := []) (S := []) gk dX8_isConsistent_38 gX8_132 (by decide) rfl w_709 w_710 ea2 t3 rfl rfl (Nat.le_of_ble_eq_true rfl) (by decide) h
theorem vX8_isConsistent_41 {G : GG} (gk : GOK G) {σ : Mm} {K : RES → Mm → Prop} {x0 : Option Nat} {x1 : Option Nat} {x2 : Int32} {x3 : Int32} {x4 : Option Nat} {s0 : Int32}
    (h : ∃ a1, x4 = some a1 ∧ (mt σ a1).1 = 6 ∧ ((s0 ≤ (mi σ a1 1) → ∃ a4, mr σ a1 6 = some a4 ∧ ∃ n6, mt σ a4 = (58, n6) ∧ At G mX8_isConsistent rX8_isConsistent 0 0 66 [some (vR x0), some (vR x1), some (vI x2), some (vI x3), some (vR x4), some (vR (mr σ a1 6)), some (vI (nI n6)), some (vI (0 : Int32)), none] [] σ K) ∧ (¬ s0 ≤ (mi σ a1 1) → K (.inl (some (vI (0 : Int32)))) σ))) : At G mX8_isConsistent rX8_isConsistent 0 0 41 [some (vR x0), some (vR x1), some (vI x2), some (vI x3), some (vR x4), none, none, none, none] [(vI s0)] σ K := by
  refine s_aload dX8_isConsistent_41 rfl ?_
  obtain ⟨a1, ea1, h⟩ := h
  obtain ⟨t2, h⟩ := h
  refine t_getI gk dX8_isConsistent_43 fX8_122 rfl ea1 t2 ?_
  refine s_icmp_le (tgt := 51) dX8_isConsistent_46 (by decide) (fun q3 => ?_) (fun q3 => ?_)
  · have h := h.1 q3
    refine s_aload dX8_isConsistent_51 rfl ?_
    refine t_getR gk dX8_isConsistent_53 fX8_283 rfl ea1 t2 ?_
    refine s_astore (L' := [some (vR x0), some (vR x1), some (vI x2), some (vI x3), some (vR x4), some (vR (mr σ a1 6)), none, none, none]) dX8_isConsistent_56 rfl (by decide) rfl ?_
    refine s_aload dX8_isConsistent_58 rfl ?_
    obtain ⟨a4, ea4, h⟩ := h
    obtain ⟨n6, t5, h⟩ := h
    refine t_alen (j := 8) gk dX8_isConsistent_60 (by decide) ea4 t5 ?_
    refine s_istore (L' := [some (vR x0), some (vR x1), some (vI x2), some (vI x3), some (vR x4), some (vR (mr σ a1 6)), some (vI (nI n6)), none, none]) dX8_isConsistent_61 rfl (by decide) rfl ?_
    refine s_iconst (v := 0) dX8_isConsistent_63 (by decide) ?_
    refine s_istore (L' := [some (vR x0), some (vR x1), some (vI x2), some (vI x3), some (vR x4), some (vR (mr σ a1 6)), some (vI (nI n6)), some (vI (0 : Int32)), none]) dX8_isConsistent_64 rfl (by decide) rfl ?_
    exact h
  · have h := h.2 q3
    refine s_iconst (v := 0) dX8_isConsistent_49 (by decide) ?_
    exact s_ireturn dX8_isConsistent_50 rfl rfl (by decide) (by decide) h
theorem vX8_isConsistent_66 {G : GG} (gk : GOK G) {σ : Mm} {K : RES → Mm → Prop} {x0 : Option Nat} {x1 : Option Nat} {x2 : Int32} {x3 : Int32} {x4 : Option Nat} {x5 : Option Nat} {x6 : Int32} {x7 : Int32}
    (h : ((x6 ≤ x7 → At G mX8_isConsistent rX8_isConsistent 0 0 13 [some (vR x0), some (vR x1), some (vI x2), some (vI (x3 + 1)), none, none, none, none, none] [] σ K) ∧ (¬ x6 ≤ x7 → ∃ a2, x5 = some a2 ∧ ∃ n4, mt σ a2 = (58, n4) ∧ vp_in x7 n4 ∧ ∃ a6, mr σ a2 x7.toNatClampNeg = some a6 ∧ (mt σ a6).1 = 3 ∧ (((mi σ a6 0) = 0 → At G mX8_isConsistent rX8_isConsistent 0 0 66 [some (vR x0), some (vR x1), some (vI x2), some (vI x3), some (vR x4), some (vR x5), some (vI x6), some (vI (x7 + 1)), none] [] σ K) ∧ (¬ (mi σ a6 0) = 0 → ∃ a9, x0 = some a9 ∧ (mt σ a9).1 = 9 ∧ ∃ a11, mr σ a9 0 = some a11 ∧ (mt σ a11).1 = 7 ∧ Runs G mX6_isSound rX6_isSound [(vR (mr σ a9 0)), (vR (mr σ a2 x7.toNatClampNeg))] σ (bk G mX8_isConsistent rX8_isConsistent 0 0 97 [some (vR x0), some (vR x1), some (vI x2), some (vI x3), some (vR x4), some (vR x5), some (vI x6), some (vI x7), some (vR (mr σ a2 x7.toNatClampNeg))] [] K)))))) : At G mX8_isConsistent rX8_isConsistent 0 0 66 [some (vR x0), some (vR x1), some (vI x2), some (vI x3), some (vR x4), some (vR x5), some (vI x6), some (vI x7), none] [] σ K := by
  refine s_iload dX8_isConsistent_66 rfl ?_
  refine s_iload dX8_isConsistent_68 rfl ?_
  refine s_icmp_ge (tgt := 108) dX8_isConsistent_70 (by decide) (fun q1 => ?_) (fun q1 => ?_)
  · have h := h.1 q1
    refine s_iinc (v := x3 + 1) (L' := [some (vR x0), some (vR x1), some (vI x2), some (vI (x3 + 1)), some (vR x4), some (vR x5), some (vI x6), some (vI x7), none]) dX8_isConsistent_108 rfl rfl rfl (by decide) rfl ?_
    refine s_goto (tgt := 13) dX8_isConsistent_111 (by decide) ?_
    exact h.msk ⟨rfl, ⟨rfl, ⟨rfl, ⟨rfl, trivial⟩⟩⟩⟩
  · have h := h.2 q1
    refine s_aload dX8_isConsistent_73 rfl ?_
    refine s_iload dX8_isConsistent_75 rfl ?_
    obtain ⟨a2, ea2, h⟩ := h
    obtain ⟨n4, t3, h⟩ := h
    obtain ⟨c5, h⟩ := h
    refine t_aald (j := 8) gk dX8_isConsistent_77 (by decide) (by decide) ea2 t3 c5 ?_
    refine s_astore (L' := [some (vR x0), some (vR x1), some (vI x2), some (vI x3), some (vR x4), some (vR x5), some (vI x6), some (vI x7), some (vR (mr σ a2 x7.toNatClampNeg))]) dX8_isConsistent_78 rfl (by decide) rfl ?_
    refine s_aload dX8_isConsistent_80 rfl ?_
    obtain ⟨a6, ea6, h⟩ := h
    obtain ⟨t7, h⟩ := h
    refine t_getI gk dX8_isConsistent_82 fX8_287 rfl ea6 t7 ?_
    refine s_if_eq (tgt := 102) dX8_isConsistent_85 (by decide) (fun q8 => ?_) (fun q8 => ?_)
    · have h := h.1 q8
      refine s_iinc (v := x7 + 1) (L' := [some (vR x0), some (vR x1), some (vI x2), some (vI x3), some (vR x4), some (vR x5), some (vI x6), some (vI (x7 + 1)), some (vR (mr σ a2 x7.toNatClampNeg))]) dX8_isConsistent_102 rfl rfl rfl (by decide) rfl ?_
      refine s_goto (tgt := 66) dX8_isConsistent_105 (by decide) ?_
      exact h.msk ⟨rfl, ⟨rfl, ⟨rfl, ⟨rfl, ⟨rfl, ⟨rfl, ⟨rfl, ⟨rfl, trivial⟩⟩⟩⟩⟩⟩⟩⟩
    · have h := h.2 q8
      refine s_aload_n (i := 0) dX8_isConsistent_88 rfl rfl ?_
      obtain ⟨a9, ea9, h⟩ := h
      obtain ⟨t10, h⟩ := h
      refine t_getR gk dX8_isConsistent_89 fX8_10 rfl ea9 t10 ?_
      refine s_aload dX8_isConsistent_92 rfl ?_
      obtain ⟨a11, ea11, h⟩ := h
      obtain ⟨t12, h⟩ := h
      exact t_callV (ci := 6) (as := [(vR (mr σ a2 x7.toNatClampNeg))]) (S := []) gk dX8_isConsistent_94 gX8_290 (by decide) rfl w_1014 w_1015 ea11 t12 rfl rfl (Nat.le_of_ble_eq_true rfl) (by decide) h
theorem vX8_isConsistent_97 {G : GG} (gk : GOK G) {σ : Mm} {K : RES → Mm → Prop} {x0 : Option Nat} {x1 : Option Nat} {x2 : Int32} {x3 : Int32} {x4 : Option Nat} {x5 : Option Nat} {x6 : Int32} {x7 : Int32} {x8 : Option Nat} {s0 : Int32}
    (h : ((¬ s0 = 0 → At G mX8_isConsistent rX8_isConsistent 0 0 66 [some (vR x0), some (vR x1), some (vI x2), some (vI x3), some (vR x4), some (vR x5), some (vI x6), some (vI (x7 + 1)), none] [] σ K) ∧ (s0 = 0 → K (.inl (some (vI (0 : Int32)))) σ))) : At G mX8_isConsistent rX8_isConsistent 0 0 97 [some (vR x0), some (vR x1), some (vI x2), some (vI x3), some (vR x4), some (vR x5), some (vI x6), some (vI x7), some (vR x8)] [(vI s0)] σ K := by
  refine s_if_ne (tgt := 102) dX8_isConsistent_97 (by decide) (fun q1 => ?_) (fun q1 => ?_)
  · have h := h.1 q1
    refine s_iinc (v := x7 + 1) (L' := [some (vR x0), some (vR x1), some (vI x2), some (vI x3), some (vR x4), some (vR x5), some (vI x6), some (vI (x7 + 1)), some (vR x8)]) dX8_isConsistent_102 rfl rfl rfl (by decide) rfl ?_
    refine s_goto (tgt := 66) dX8_isConsistent_105 (by decide) ?_
    exact h.msk ⟨rfl, ⟨rfl, ⟨rfl, ⟨rfl, ⟨rfl, ⟨rfl, ⟨rfl, ⟨rfl, trivial⟩⟩⟩⟩⟩⟩⟩⟩
  · have h := h.2 q1
    refine s_iconst (v := 0) dX8_isConsistent_100 (by decide) ?_
    exact s_ireturn dX8_isConsistent_101 rfl rfl (by decide) (by decide) h
theorem vX8_type_0 {G : GG} (gk : GOK G) (hst : STR G) {σ : Mm} {K : RES → Mm → Prop} {x0 : Option Nat} {x1 : Int32}
    (h : ((x1 < (32 : Int32) → (∀ k, K (.inr "java/lang/IllegalArgumentException") (sk σ k))) ∧ (¬ x1 < (32 : Int32) → ((x1 ≤ (126 : Int32) → ∃ a3, x0 = some a3 ∧ (mt σ a3).1 = 9 ∧ ∃ a5, mr σ a3 4 = some a5 ∧ (mt σ a5).1 = 2 ∧ (((mi σ a5 1) < (60 : Int32) → Runs G mX1_append rX1_append [(vR (mr σ a3 4)), (vI x1)] σ (bk G mX8_type rX8_type 0 0 54 [some (vR x0), some (vI x1)] [] K)) ∧ (¬ (mi σ a5 1) < (60 : Int32) → (∀ k, K (.inr "java/lang/IllegalStateException") (sk σ k))))) ∧ (¬ x1 ≤ (126 : Int32) → (∀ k, K (.inr "java/lang/IllegalArgumentException") (sk σ k))))))) : At G mX8_type rX8_type 0 0 0 [some (vR x0), some (vI x1)] [] σ K := by
  refine s_iload_n (i := 1) dX8_type_0 rfl rfl ?_
  refine s_bipush (v := 32) dX8_type_1 (by decide) ?_
  refine s_icmp_lt (tgt := 12) dX8_type_3 (by decide) (fun q1 => ?_) (fun q1 => ?_)
  · have h := h.1 q1
    exact s_thr0 gk hst thx_245 w_480 w_19 (tl_7 (List.mem_of_getElem? (i := 4) rfl)) dX8_type_12 dX8_type_15 (Or.inr ⟨dX8_type_16, rfl⟩) dX8_type_19 dX8_type_22 (by decide) (by decide) (by decide) (by decide) h
  · have h := h.2 q1
    refine s_iload_n (i := 1) dX8_type_6 rfl rfl ?_
    refine s_bipush (v := 126) dX8_type_7 (by decide) ?_
    refine s_icmp_le (tgt := 23) dX8_type_9 (by decide) (fun q2 => ?_) (fun q2 => ?_)
    · have h := h.1 q2
      refine s_aload_n (i := 0) dX8_type_23 rfl rfl ?_
      obtain ⟨a3, ea3, h⟩ := h
      obtain ⟨t4, h⟩ := h
      refine t_getR gk dX8_type_24 fX8_33 rfl ea3 t4 ?_
      obtain ⟨a5, ea5, h⟩ := h
      obtain ⟨t6, h⟩ := h
      refine t_getI gk dX8_type_27 fX8_295 rfl ea5 t6 ?_
      refine s_bipush (v := 60) dX8_type_30 (by decide) ?_
      refine s_icmp_lt (tgt := 46) dX8_type_32 (by decide) (fun q7 => ?_) (fun q7 => ?_)
      · have h := h.1 q7
        refine s_aload_n (i := 0) dX8_type_46 rfl rfl ?_
        refine t_getR gk dX8_type_47 fX8_33 rfl ea3 t4 ?_
        refine s_iload_n (i := 1) dX8_type_50 rfl rfl ?_
        exact t_callV (ci := 1) (as := [(vI x1)]) (S := []) gk dX8_type_51 gX8_302 (by decide) rfl w_1447 w_1448 ea5 t6 rfl rfl (Nat.le_of_ble_eq_true rfl) (by decide) h
      · have h := h.2 q7
        exact s_thr0 gk hst thx_301 w_496 w_20 (tl_7 (List.mem_of_getElem? (i := 5) rfl)) dX8_type_35 dX8_type_38 (Or.inr ⟨dX8_type_39, rfl⟩) dX8_type_42 dX8_type_45 (by decide) (by decide) (by decide) (by decide) h
    · have h := h.2 q2
      exact s_thr0 gk hst thx_245 w_480 w_19 (tl_7 (List.mem_of_getElem? (i := 4) rfl)) dX8_type_12 dX8_type_15 (Or.inr ⟨dX8_type_16, rfl⟩) dX8_type_19 dX8_type_22 (by decide) (by decide) (by decide) (by decide) h
theorem eX8_type {G : GG} (gk : GOK G) (hst : STR G) {σ : Mm} {K : RES → Mm → Prop} {x0 : Option Nat} {x1 : Int32}
    (h : ((x1 < (32 : Int32) → (∀ k, K (.inr "java/lang/IllegalArgumentException") (sk σ k))) ∧ (¬ x1 < (32 : Int32) → ((x1 ≤ (126 : Int32) → ∃ a3, x0 = some a3 ∧ (mt σ a3).1 = 9 ∧ ∃ a5, mr σ a3 4 = some a5 ∧ (mt σ a5).1 = 2 ∧ (((mi σ a5 1) < (60 : Int32) → Runs G mX1_append rX1_append [(vR (mr σ a3 4)), (vI x1)] σ (bk G mX8_type rX8_type 0 0 54 [some (vR x0), some (vI x1)] [] K)) ∧ (¬ (mi σ a5 1) < (60 : Int32) → (∀ k, K (.inr "java/lang/IllegalStateException") (sk σ k))))) ∧ (¬ x1 ≤ (126 : Int32) → (∀ k, K (.inr "java/lang/IllegalArgumentException") (sk σ k))))))) : Runs G mX8_type rX8_type [(vR x0), (vI x1)] σ K := Runs.of (by decide) rfl (Nat.le_of_ble_eq_true rfl) (vX8_type_0 gk hst h)
theorem vX8_type_54 {G : GG} (gk : GOK G) {σ : Mm} {K : RES → Mm → Prop} {x0 : Option Nat} {x1 : Int32} {s0 : Int32}
    (h : K (.inl (some (vI s0))) σ) : At G mX8_type rX8_type 0 0 54 [some (vR x0), some (vI x1)] [(vI s0)] σ K := by
  exact s_ireturn dX8_type_54 rfl rfl (by decide) (by decide) h
theorem vX8_execute_0 {G : GG} (gk : GOK G) {σ : Mm} {K : RES → Mm → Prop} {x0 : Option Nat}
    (h : ∃ a1, x0 = some a1 ∧ (mt σ a1).1 = 9 ∧ ∃ a3, mr σ a1 4 = some a3 ∧ (mt σ a3).1 = 2 ∧ Runs G mX1_parse rX1_parse [(vR (mr σ a1 4))] σ (bk G mX8_execute rX8_execute 0 0 7 [some (vR x0), none, none, none] [] K)) : At G mX8_execute rX8_execute 0 0 0 [some (vR x0), none, none, none] [] σ K := by
  refine s_aload_n (i := 0) dX8_execute_0 rfl rfl ?_
  obtain ⟨a1, ea1, h⟩ := h
  obtain ⟨t2, h⟩ := h
  refine t_getR gk dX8_execute_1 fX8_33 rfl ea1 t2 ?_
  obtain ⟨a3, ea3, h⟩ := h
  obtain ⟨t4, h⟩ := h
  exact t_callV (ci := 1) (as := []) (S := []) gk dX8_execute_4 gX8_305 (by decide) rfl w_1458 w_1459 ea3 t4 rfl rfl (Nat.le_of_ble_eq_true rfl) (by decide) h
theorem eX8_execute {G : GG} (gk : GOK G) {σ : Mm} {K : RES → Mm → Prop} {x0 : Option Nat}
    (h : ∃ a1, x0 = some a1 ∧ (mt σ a1).1 = 9 ∧ ∃ a3, mr σ a1 4 = some a3 ∧ (mt σ a3).1 = 2 ∧ Runs G mX1_parse rX1_parse [(vR (mr σ a1 4))] σ (bk G mX8_execute rX8_execute 0 0 7 [some (vR x0), none, none, none] [] K)) : Runs G mX8_execute rX8_execute [(vR x0)] σ K := Runs.of (by decide) rfl (Nat.le_of_ble_eq_true rfl) (vX8_execute_0 gk h)
theorem vX8_execute_7 {G : GG} (gk : GOK G) (hst : STR G) {σ : Mm} {K : RES → Mm → Prop} {x0 : Option Nat} {s0 : Int32}
    (h : ∃ a1, x0 = some a1 ∧ (mt σ a1).1 = 9 ∧ ∃ a3, mr σ a1 4 = some a3 ∧ (mt σ a3).1 = 2 ∧ ∀ σ5, σ5 = si σ a3 1 (0 : Int32) → ((¬ s0 = 0 → ∃ a7, mr σ5 a1 1 = some a7 ∧ (mt σ a7).1 = 4 ∧ Runs G mX3_keep rX3_keep [(vR (mr σ5 a1 1)), (vR (mr σ5 a1 0))] σ5 (bk G mX8_execute rX8_execute 0 0 53 [some (vR x0), some (vI s0), none, none] [] K)) ∧ (s0 = 0 → ∃ a9, mr σ5 a1 4 = some a9 ∧ (mt σ a9).1 = 2 ∧ ∀ σ11, σ11 = si σ5 a1 5 (mi σ5 a9 2) → (∀ k, K (.inr "java/lang/IllegalArgumentException") (sk σ11 k))))) : At G mX8_execute rX8_execute 0 0 7 [some (vR x0), none, none, none] [(vI s0)] σ K := by
  refine s_istore_n (i := 1) (L' := [some (vR x0), some (vI s0), none, none]) dX8_execute_7 rfl rfl (by decide) rfl ?_
  refine s_aload_n (i := 0) dX8_execute_8 rfl rfl ?_
  obtain ⟨a1, ea1, h⟩ := h
  obtain ⟨t2, h⟩ := h
  refine t_getR gk dX8_execute_9 fX8_33 rfl ea1 t2 ?_
  refine s_iconst (v := 0) dX8_execute_12 (by decide) ?_
  obtain ⟨a3, ea3, h⟩ := h
  obtain ⟨t4, h⟩ := h
  refine t_putI gk dX8_execute_13 fX8_295 rfl rfl ea3 t4 ⟨rfl, rfl⟩ (fun σ5 eσ5 mσ5 => ?_)
  replace h := h σ5 eσ5
  refine s_iload_n (i := 1) dX8_execute_16 rfl rfl ?_
  refine s_if_ne (tgt := 42) dX8_execute_17 (by decide) (fun q6 => ?_) (fun q6 => ?_)
  · have h := h.1 q6
    refine s_aload_n (i := 0) dX8_execute_42 rfl rfl ?_
    refine t_getR gk dX8_execute_43 fX8_19 rfl ea1 (by rw [mσ5]; exact t2) ?_
    refine s_aload_n (i := 0) dX8_execute_46 rfl rfl ?_
    refine t_getR gk dX8_execute_47 fX8_10 rfl ea1 (by rw [mσ5]; exact t2) ?_
    obtain ⟨a7, ea7, h⟩ := h
    obtain ⟨t8, h⟩ := h
    exact t_callV (ci := 3) (as := [(vR (mr σ5 a1 0))]) (S := []) gk dX8_execute_50 gX8_314 (by decide) rfl w_517 w_518 ea7 (by rw [mσ5]; exact t8) rfl rfl (Nat.le_of_ble_eq_true rfl) (by decide) h
  · have h := h.2 q6
    refine s_aload_n (i := 0) dX8_execute_20 rfl rfl ?_
    refine s_aload_n (i := 0) dX8_execute_21 rfl rfl ?_
    refine t_getR gk dX8_execute_22 fX8_33 rfl ea1 (by rw [mσ5]; exact t2) ?_
    obtain ⟨a9, ea9, h⟩ := h
    obtain ⟨t10, h⟩ := h
    refine t_getI gk dX8_execute_25 fX8_309 rfl ea9 (by rw [mσ5]; exact t10) ?_
    refine t_putI gk dX8_execute_28 fX8_37 rfl rfl ea1 (by rw [mσ5]; exact t2) ⟨rfl, rfl⟩ (fun σ11 eσ11 mσ11 => ?_)
    replace h := h σ11 eσ11
    exact s_thr0 gk hst thx_245 w_480 w_19 (tl_7 (List.mem_of_getElem? (i := 75) rfl)) dX8_execute_31 dX8_execute_34 (Or.inr ⟨dX8_execute_35, rfl⟩) dX8_execute_38 dX8_execute_41 (by decide) (by decide) (by decide) (by decide) h
theorem vX8_execute_53 {G : GG} (gk : GOK G) {σ : Mm} {K : RES → Mm → Prop} {x0 : Option Nat} {x1 : Int32}
    (h : At G mX8_execute rX8_execute 0 0 55 [some (vR x0), some (vI x1), some (vI (0 : Int32)), none] [] σ K) : At G mX8_execute rX8_execute 0 0 53 [some (vR x0), some (vI x1), none, none] [] σ K := by
  refine s_iconst (v := 0) dX8_execute_53 (by decide) ?_
  refine s_istore_n (i := 2) (L' := [some (vR x0), some (vI x1), some (vI (0 : Int32)), none]) dX8_execute_54 rfl rfl (by decide) rfl ?_
  exact h
theorem vX8_execute_55 {G : GG} (gk : GOK G) {σ : Mm} {K : RES → Mm → Prop} {x0 : Option Nat} {x1 : Int32} {x2 : Int32}
    (h : ∃ a1, x0 = some a1 ∧ (mt σ a1).1 = 9 ∧ ∃ a3, mr σ a1 4 = some a3 ∧ (mt σ a3).1 = 2 ∧ (((mi σ a3 4) ≤ x2 → ∃ a6, mr σ a1 1 = some a6 ∧ (mt σ a6).1 = 4 ∧ Runs G mX3_confirm rX3_confirm [(vR (mr σ a1 1))] σ (bk G mX8_execute rX8_execute 0 0 132 [some (vR x0), some (vI x1), some (vI x2), none] [] K)) ∧ (¬ (mi σ a3 4) ≤ x2 → Runs G mX1_command rX1_command [(vR (mr σ a1 4)), (vI x2)] σ (bk G mX8_execute rX8_execute 0 0 74 [some (vR x0), some (vI x1), some (vI x2), none] [] K)))) : At G mX8_execute rX8_execute 0 0 55 [some (vR x0), some (vI x1), some (vI x2), none] [] σ K := by
  refine s_iload_n (i := 2) dX8_execute_55 rfl rfl ?_
  refine s_aload_n (i := 0) dX8_execute_56 rfl rfl ?_
  obtain ⟨a1, ea1, h⟩ := h
  obtain ⟨t2, h⟩ := h
  refine t_getR gk dX8_execute_57 fX8_33 rfl ea1 t2 ?_
  obtain ⟨a3, ea3, h⟩ := h
  obtain ⟨t4, h⟩ := h
  refine t_getI gk dX8_execute_60 fX8_317 rfl ea3 t4 ?_
  refine s_icmp_ge (tgt := 125) dX8_execute_63 (by decide) (fun q5 => ?_) (fun q5 => ?_)
  · have h := h.1 q5
    refine s_aload_n (i := 0) dX8_execute_125 rfl rfl ?_
    refine t_getR gk dX8_execute_126 fX8_19 rfl ea1 t2 ?_
    obtain ⟨a6, ea6, h⟩ := h
    obtain ⟨t7, h⟩ := h
    exact t_callV (ci := 3) (as := []) (S := []) gk dX8_execute_129 gX8_337 (by decide) rfl w_548 w_549 ea6 t7 rfl rfl (Nat.le_of_ble_eq_true rfl) (by decide) h
  · have h := h.2 q5
    refine s_aload_n (i := 0) dX8_execute_66 rfl rfl ?_
    refine t_getR gk dX8_execute_67 fX8_33 rfl ea1 t2 ?_
    refine s_iload_n (i := 2) dX8_execute_70 rfl rfl ?_
    exact t_callV (ci := 1) (as := [(vI x2)]) (S := []) gk dX8_execute_71 gX8_320 (by decide) rfl w_1518 w_1519 ea3 t4 rfl rfl (Nat.le_of_ble_eq_true rfl) (by decide) h
theorem vX8_execute_74 {G : GG} (gk : GOK G) {σ : Mm} {K : RES → Mm → Prop} {x0 : Option Nat} {x1 : Int32} {x2 : Int32} {s0 : Option Nat}
    (h : ((s0 = none → ∃ a2, x0 = some a2 ∧ (mt σ a2).1 = 9 ∧ ∃ a4, mr σ a2 1 = some a4 ∧ (mt σ a4).1 = 4 ∧ Runs G mX3_takeBack rX3_takeBack [(vR (mr σ a2 1)), (vR (mr σ a2 0))] σ (bk G mX8_execute rX8_execute 0 0 98 [some (vR x0), some (vI x1), some (vI x2), some (vR s0)] [] K)) ∧ (∀ a6, s0 = some a6 → ∃ a7, x0 = some a7 ∧ (mt σ a7).1 = 9 ∧ Runs G mX8_faultOf rX8_faultOf [(vR x0), (vR s0)] σ (bk G mX8_execute rX8_execute 0 0 84 [some (vR x0), some (vI x1), some (vI x2), some (vR s0)] [] K)))) : At G mX8_execute rX8_execute 0 0 74 [some (vR x0), some (vI x1), some (vI x2), none] [(vR s0)] σ K := by
  refine s_astore_n (i := 3) (L' := [some (vR x0), some (vI x1), some (vI x2), some (vR s0)]) dX8_execute_74 rfl rfl (by decide) rfl ?_
  refine s_aload_n (i := 3) dX8_execute_75 rfl rfl ?_
  refine s_ifnull (tgt := 87) dX8_execute_76 (by decide) (fun q1 => ?_) (fun a6 ea6 => ?_)
  · have h := h.1 q1
    refine s_aload_n (i := 0) dX8_execute_87 rfl rfl ?_
    obtain ⟨a2, ea2, h⟩ := h
    obtain ⟨t3, h⟩ := h
    refine t_getR gk dX8_execute_88 fX8_19 rfl ea2 t3 ?_
    refine s_aload_n (i := 0) dX8_execute_91 rfl rfl ?_
    refine t_getR gk dX8_execute_92 fX8_10 rfl ea2 t3 ?_
    obtain ⟨a4, ea4, h⟩ := h
    obtain ⟨t5, h⟩ := h
    exact t_callV (ci := 3) (as := [(vR (mr σ a2 0))]) (S := []) gk dX8_execute_95 gX8_328 (by decide) rfl w_1530 w_1531 ea4 t5 rfl rfl (Nat.le_of_ble_eq_true rfl) (by decide) h
  · have h := h.2 a6 ea6
    refine s_aload_n (i := 0) dX8_execute_79 rfl rfl ?_
    refine s_aload_n (i := 3) dX8_execute_80 rfl rfl ?_
    obtain ⟨a7, ea7, h⟩ := h
    obtain ⟨t8, h⟩ := h
    exact t_callV (ci := 8) (as := [(vR s0)]) (S := []) gk dX8_execute_81 gX8_324 (by decide) rfl w_1523 wp_6 ea7 t8 rfl rfl (Nat.le_of_ble_eq_true rfl) (by decide) h
theorem vX8_execute_84 {G : GG} (gk : GOK G) {σ : Mm} {K : RES → Mm → Prop} {x0 : Option Nat} {x1 : Int32} {x2 : Int32} {x3 : Option Nat} {s0 : Int32}
    (h : ((s0 = 0 → ∃ a2, x0 = some a2 ∧ (mt σ a2).1 = 9 ∧ Runs G mX8_carryOut rX8_carryOut [(vR x0), (vR x3)] σ (bk G mX8_execute rX8_execute 0 0 119 [some (vR x0), some (vI x1), some (vI x2), some (vR x3)] [] K)) ∧ (¬ s0 = 0 → ∃ a4, x0 = some a4 ∧ (mt σ a4).1 = 9 ∧ ∃ a6, mr σ a4 1 = some a6 ∧ (mt σ a6).1 = 4 ∧ Runs G mX3_takeBack rX3_takeBack [(vR (mr σ a4 1)), (vR (mr σ a4 0))] σ (bk G mX8_execute rX8_execute 0 0 98 [some (vR x0), some (vI x1), some (vI x2), some (vR x3)] [] K)))) : At G mX8_execute rX8_execute 0 0 84 [some (vR x0), some (vI x1), some (vI x2), some (vR x3)] [(vI s0)] σ K := by
  refine s_if_eq (tgt := 114) dX8_execute_84 (by decide) (fun q1 => ?_) (fun q1 => ?_)
  · have h := h.1 q1
    refine s_aload_n (i := 0) dX8_execute_114 rfl rfl ?_
    refine s_aload_n (i := 3) dX8_execute_115 rfl rfl ?_
    obtain ⟨a2, ea2, h⟩ := h
    obtain ⟨t3, h⟩ := h
    exact t_callV (ci := 8) (as := [(vR x3)]) (S := []) gk dX8_execute_116 gX8_333 (by decide) rfl w_1536 wp_7 ea2 t3 rfl rfl (Nat.le_of_ble_eq_true rfl) (by decide) h
  · have h := h.2 q1
    refine s_aload_n (i := 0) dX8_execute_87 rfl rfl ?_
    obtain ⟨a4, ea4, h⟩ := h
    obtain ⟨t5, h⟩ := h
    refine t_getR gk dX8_execute_88 fX8_19 rfl ea4 t5 ?_
    refine s_aload_n (i := 0) dX8_execute_91 rfl rfl ?_
    refine t_getR gk dX8_execute_92 fX8_10 rfl ea4 t5 ?_
    obtain ⟨a6, ea6, h⟩ := h
    obtain ⟨t7, h⟩ := h
    exact t_callV (ci := 3) (as := [(vR (mr σ a4 0))]) (S := []) gk dX8_execute_95 gX8_328 (by decide) rfl w_1530 w_1531 ea6 t7 rfl rfl (Nat.le_of_ble_eq_true rfl) (by decide) h
theorem vX8_execute_98 {G : GG} (gk : GOK G) (hst : STR G) {σ : Mm} {K : RES → Mm → Prop} {x0 : Option Nat} {x1 : Int32} {x2 : Int32} {x3 : Option Nat}
    (h : ∃ a1, x0 = some a1 ∧ (mt σ a1).1 = 9 ∧ ∀ σ3, σ3 = si σ a1 6 x2 → (∀ k, K (.inr "java/lang/IllegalStateException") (sk σ3 k))) : At G mX8_execute rX8_execute 0 0 98 [some (vR x0), some (vI x1), some (vI x2), some (vR x3)] [] σ K := by
  refine s_aload_n (i := 0) dX8_execute_98 rfl rfl ?_
  refine s_iload_n (i := 2) dX8_execute_99 rfl rfl ?_
  obtain ⟨a1, ea1, h⟩ := h
  obtain ⟨t2, h⟩ := h
  refine t_putI gk dX8_execute_100 fX8_41 rfl rfl ea1 t2 ⟨rfl, rfl⟩ (fun σ3 eσ3 mσ3 => ?_)
  replace h := h σ3 eσ3
  exact s_thr0 gk hst thx_301 w_496 w_20 (tl_7 (List.mem_of_getElem? (i := 93) rfl)) dX8_execute_103 dX8_execute_106 (Or.inr ⟨dX8_execute_107, rfl⟩) dX8_execute_110 dX8_execute_113 (by decide) (by decide) (by decide) (by decide) h
theorem vX8_execute_119 {G : GG} (gk : GOK G) {σ : Mm} {K : RES → Mm → Prop} {x0 : Option Nat} {x1 : Int32} {x2 : Int32} {x3 : Option Nat}
    (h : At G mX8_execute rX8_execute 0 0 55 [some (vR x0), some (vI x1), some (vI (x2 + 1)), none] [] σ K) : At G mX8_execute rX8_execute 0 0 119 [some (vR x0), some (vI x1), some (vI x2), some (vR x3)] [] σ K := by
  refine s_iinc (v := x2 + 1) (L' := [some (vR x0), some (vI x1), some (vI (x2 + 1)), some (vR x3)]) dX8_execute_119 rfl rfl rfl (by decide) rfl ?_
  refine s_goto (tgt := 55) dX8_execute_122 (by decide) ?_
  exact h.msk ⟨rfl, ⟨rfl, ⟨rfl, trivial⟩⟩⟩
theorem vX8_execute_132 {G : GG} (gk : GOK G) {σ : Mm} {K : RES → Mm → Prop} {x0 : Option Nat} {x1 : Int32} {x2 : Int32}
    (h : ∃ a1, x0 = some a1 ∧ (mt σ a1).1 = 9 ∧ ∃ a3, mr σ a1 4 = some a3 ∧ (mt σ a3).1 = 2 ∧ K (.inl (some (vI (mi σ a3 4)))) σ) : At G mX8_execute rX8_execute 0 0 132 [some (vR x0), some (vI x1), some (vI x2), none] [] σ K := by
  refine s_aload_n (i := 0) dX8_execute_132 rfl rfl ?_
  obtain ⟨a1, ea1, h⟩ := h
  obtain ⟨t2, h⟩ := h
  refine t_getR gk dX8_execute_133 fX8_33 rfl ea1 t2 ?_
  obtain ⟨a3, ea3, h⟩ := h
  obtain ⟨t4, h⟩ := h
  refine t_getI gk dX8_execute_136 fX8_317 rfl ea3 t4 ?_
  exact s_ireturn dX8_execute_139 rfl rfl (by decide) (by decide) h
theorem vX8_undo_0 {G : GG} (gk : GOK G) (hst : STR G) {σ : Mm} {K : RES → Mm → Prop} {x0 : Option Nat}
    (h : ∃ a1, x0 = some a1 ∧ (mt σ a1).1 = 9 ∧ ∃ a3, mr σ a1 1 = some a3 ∧ (mt σ a3).1 = 4 ∧ ((¬ (mi σ a3 2) = 0 → Runs G mX3_goBack rX3_goBack [(vR (mr σ a1 1)), (vR (mr σ a1 0))] σ (bk G mX8_undo rX8_undo 0 0 32 [some (vR x0)] [] K)) ∧ ((mi σ a3 2) = 0 → (∀ k, K (.inr "java/lang/IllegalStateException") (sk σ k))))) : At G mX8_undo rX8_undo 0 0 0 [some (vR x0)] [] σ K := by
  refine s_aload_n (i := 0) dX8_undo_0 rfl rfl ?_
  obtain ⟨a1, ea1, h⟩ := h
  obtain ⟨t2, h⟩ := h
  refine t_getR gk dX8_undo_1 fX8_19 rfl ea1 t2 ?_
  obtain ⟨a3, ea3, h⟩ := h
  obtain ⟨t4, h⟩ := h
  refine t_getI gk dX8_undo_4 fX8_344 rfl ea3 t4 ?_
  refine s_if_ne (tgt := 21) dX8_undo_7 (by decide) (fun q5 => ?_) (fun q5 => ?_)
  · have h := h.1 q5
    refine s_aload_n (i := 0) dX8_undo_21 rfl rfl ?_
    refine t_getR gk dX8_undo_22 fX8_19 rfl ea1 t2 ?_
    refine s_aload_n (i := 0) dX8_undo_25 rfl rfl ?_
    refine t_getR gk dX8_undo_26 fX8_10 rfl ea1 t2 ?_
    exact t_callV (ci := 3) (as := [(vR (mr σ a1 0))]) (S := []) gk dX8_undo_29 gX8_349 (by decide) rfl w_1552 w_1553 ea3 t4 rfl rfl (Nat.le_of_ble_eq_true rfl) (by decide) h
  · have h := h.2 q5
    exact s_thr0 gk hst thx_301 w_496 w_20 (tl_7 (List.mem_of_getElem? (i := 110) rfl)) dX8_undo_10 dX8_undo_13 (Or.inr ⟨dX8_undo_14, rfl⟩) dX8_undo_17 dX8_undo_20 (by decide) (by decide) (by decide) (by decide) h
theorem eX8_undo {G : GG} (gk : GOK G) (hst : STR G) {σ : Mm} {K : RES → Mm → Prop} {x0 : Option Nat}
    (h : ∃ a1, x0 = some a1 ∧ (mt σ a1).1 = 9 ∧ ∃ a3, mr σ a1 1 = some a3 ∧ (mt σ a3).1 = 4 ∧ ((¬ (mi σ a3 2) = 0 → Runs G mX3_goBack rX3_goBack [(vR (mr σ a1 1)), (vR (mr σ a1 0))] σ (bk G mX8_undo rX8_undo 0 0 32 [some (vR x0)] [] K)) ∧ ((mi σ a3 2) = 0 → (∀ k, K (.inr "java/lang/IllegalStateException") (sk σ k))))) : Runs G mX8_undo rX8_undo [(vR x0)] σ K := Runs.of (by decide) rfl (Nat.le_of_ble_eq_true rfl) (vX8_undo_0 gk hst h)
theorem vX8_undo_32 {G : GG} (gk : GOK G) {σ : Mm} {K : RES → Mm → Prop} {x0 : Option Nat}
    (h : ∃ a1, x0 = some a1 ∧ (mt σ a1).1 = 9 ∧ ∃ a3, mr σ a1 1 = some a3 ∧ (mt σ a3).1 = 4 ∧ K (.inl (some (vI (mi σ a3 2)))) σ) : At G mX8_undo rX8_undo 0 0 32 [some (vR x0)] [] σ K := by
  refine s_aload_n (i := 0) dX8_undo_32 rfl rfl ?_
  obtain ⟨a1, ea1, h⟩ := h
  obtain ⟨t2, h⟩ := h
  refine t_getR gk dX8_undo_33 fX8_19 rfl ea1 t2 ?_
  obtain ⟨a3, ea3, h⟩ := h
  obtain ⟨t4, h⟩ := h
  refine t_getI gk dX8_undo_36 fX8_344 rfl ea3 t4 ?_
  exact s_ireturn dX8_undo_39 rfl rfl (by decide) (by decide) h
theorem vX8_wantJar_0 {G : GG} (gk : GOK G) {σ : Mm} {K : RES → Mm → Prop} {x0 : Option Nat} {x1 : Int32}
    (h : ∃ a1, x0 = some a1 ∧ (mt σ a1).1 = 9 ∧ ∃ a3, mr σ a1 0 = some a3 ∧ (mt σ a3).1 = 7 ∧ Runs G mX6_findJar rX6_findJar [(vR (mr σ a1 0)), (vI x1)] σ (bk G mX8_wantJar rX8_wantJar 0 0 8 [some (vR x0), some (vI x1), none] [] K)) : At G mX8_wantJar rX8_wantJar 0 0 0 [some (vR x0), some (vI x1), none] [] σ K := by
  refine s_aload_n (i := 0) dX8_wantJar_0 rfl rfl ?_
  obtain ⟨a1, ea1, h⟩ := h
  obtain ⟨t2, h⟩ := h
  refine t_getR gk dX8_wantJar_1 fX8_10 rfl ea1 t2 ?_
  refine s_iload_n (i := 1) dX8_wantJar_4 rfl rfl ?_
  obtain ⟨a3, ea3, h⟩ := h
  obtain ⟨t4, h⟩ := h
  exact t_callV (ci := 6) (as := [(vI x1)]) (S := []) gk dX8_wantJar_5 gX8_357 (by decide) rfl w_383 w_384 ea3 t4 rfl rfl (Nat.le_of_ble_eq_true rfl) (by decide) h
theorem eX8_wantJar {G : GG} (gk : GOK G) {σ : Mm} {K : RES → Mm → Prop} {x0 : Option Nat} {x1 : Int32}
    (h : ∃ a1, x0 = some a1 ∧ (mt σ a1).1 = 9 ∧ ∃ a3, mr σ a1 0 = some a3 ∧ (mt σ a3).1 = 7 ∧ Runs G mX6_findJar rX6_findJar [(vR (mr σ a1 0)), (vI x1)] σ (bk G mX8_wantJar rX8_wantJar 0 0 8 [some (vR x0), some (vI x1), none] [] K)) : Runs G mX8_wantJar rX8_wantJar [(vR x0), (vI x1)] σ K := Runs.of (by decide) rfl (Nat.le_of_ble_eq_true rfl) (vX8_wantJar_0 gk h)
theorem vX8_wantJar_8 {G : GG} (gk : GOK G) (hst : STR G) {σ : Mm} {K : RES → Mm → Prop} {x0 : Option Nat} {x1 : Int32} {s0 : Option Nat}
    (h : ((s0 = none → (∀ k, K (.inr "java/util/NoSuchElementException") (sk σ k))) ∧ (∀ a2, s0 = some a2 → K (.inl (some (vR s0))) σ))) : At G mX8_wantJar rX8_wantJar 0 0 8 [some (vR x0), some (vI x1), none] [(vR s0)] σ K := by
  refine s_astore_n (i := 2) (L' := [some (vR x0), some (vI x1), some (vR s0)]) dX8_wantJar_8 rfl rfl (by decide) rfl ?_
  refine s_aload_n (i := 2) dX8_wantJar_9 rfl rfl ?_
  refine s_ifnonnull (tgt := 24) dX8_wantJar_10 (by decide) (fun a2 ea2 => ?_) (fun q1 => ?_)
  · have h := h.2 a2 ea2
    refine s_aload_n (i := 2) dX8_wantJar_24 rfl rfl ?_
    exact s_areturn dX8_wantJar_25 rfl rfl (by decide) (by decide) h
  · have h := h.1 q1
    exact s_thr0 gk hst thx_142 w_464 w_18 (tl_2 (List.mem_of_getElem? (i := 233) rfl)) dX8_wantJar_13 dX8_wantJar_16 (Or.inr ⟨dX8_wantJar_17, rfl⟩) dX8_wantJar_20 dX8_wantJar_23 (by decide) (by decide) (by decide) (by decide) h
theorem vX8_wantShelf_0 {G : GG} (gk : GOK G) {σ : Mm} {K : RES → Mm → Prop} {x0 : Option Nat} {x1 : Int32}
    (h : ∃ a1, x0 = some a1 ∧ (mt σ a1).1 = 9 ∧ ∃ a3, mr σ a1 0 = some a3 ∧ (mt σ a3).1 = 7 ∧ Runs G mX6_findShelf rX6_findShelf [(vR (mr σ a1 0)), (vI x1)] σ (bk G mX8_wantShelf rX8_wantShelf 0 0 8 [some (vR x0), some (vI x1), none] [] K)) : At G mX8_wantShelf rX8_wantShelf 0 0 0 [some (vR x0), some (vI x1), none] [] σ K := by
  refine s_aload_n (i := 0) dX8_wantShelf_0 rfl rfl ?_
  obtain ⟨a1, ea1, h⟩ := h
  obtain ⟨t2, h⟩ := h
  refine t_getR gk dX8_wantShelf_1 fX8_10 rfl ea1 t2 ?_
  refine s_iload_n (i := 1) dX8_wantShelf_4 rfl rfl ?_
  obtain ⟨a3, ea3, h⟩ := h
  obtain ⟨t4, h⟩ := h
  exact t_callV (ci := 6) (as := [(vI x1)]) (S := []) gk dX8_wantShelf_5 gX8_260 (by decide) rfl w_656 w_657 ea3 t4 rfl rfl (Nat.le_of_ble_eq_true rfl) (by decide) h
theorem eX8_wantShelf {G : GG} (gk : GOK G) {σ : Mm} {K : RES → Mm → Prop} {x0 : Option Nat} {x1 : Int32}
    (h : ∃ a1, x0 = some a1 ∧ (mt σ a1).1 = 9 ∧ ∃ a3, mr σ a1 0 = some a3 ∧ (mt σ a3).1 = 7 ∧ Runs G mX6_findShelf rX6_findShelf [(vR (mr σ a1 0)), (vI x1)] σ (bk G mX8_wantShelf rX8_wantShelf 0 0 8 [some (vR x0), some (vI x1), none] [] K)) : Runs G mX8_wantShelf rX8_wantShelf [(vR x0), (vI x1)] σ K := Runs.of (by decide) rfl (Nat.le_of_ble_eq_true rfl) (vX8_wantShelf_0 gk h)
theorem vX8_wantShelf_8 {G : GG} (gk : GOK G) (hst : STR G) {σ : Mm} {K : RES → Mm → Prop} {x0 : Option Nat} {x1 : Int32} {s0 : Option Nat}
    (h : ((s0 = none → (∀ k, K (.inr "java/lang/IndexOutOfBoundsException") (sk σ k))) ∧ (∀ a2, s0 = some a2 → K (.inl (some (vR s0))) σ))) : At G mX8_wantShelf rX8_wantShelf 0 0 8 [some (vR x0), some (vI x1), none] [(vR s0)] σ K := by
  refine s_astore_n (i := 2) (L' := [some (vR x0), some (vI x1), some (vR s0)]) dX8_wantShelf_8 rfl rfl (by decide) rfl ?_
  refine s_aload_n (i := 2) dX8_wantShelf_9 rfl rfl ?_
  refine s_ifnonnull (tgt := 24) dX8_wantShelf_10 (by decide) (fun a2 ea2 => ?_) (fun q1 => ?_)
  · have h := h.2 a2 ea2
    refine s_aload_n (i := 2) dX8_wantShelf_24 rfl rfl ?_
    exact s_areturn dX8_wantShelf_25 rfl rfl (by decide) (by decide) h
  · have h := h.1 q1
    exact s_thr0 gk hst thx_91 w_393 w_17 (tl_2 (List.mem_of_getElem? (i := 198) rfl)) dX8_wantShelf_13 dX8_wantShelf_16 (Or.inr ⟨dX8_wantShelf_17, rfl⟩) dX8_wantShelf_20 dX8_wantShelf_23 (by decide) (by decide) (by decide) (by decide) h
theorem vX8_wantEcho_0 {G : GG} (gk : GOK G) {σ : Mm} {K : RES → Mm → Prop} {x0 : Option Nat} {x1 : Int32} {x2 : Int32}
    (h : ∃ a1, x0 = some a1 ∧ (mt σ a1).1 = 9 ∧ Runs G mX8_wantShelf rX8_wantShelf [(vR x0), (vI x1)] σ (bk G mX8_wantEcho rX8_wantEcho 1 6 5 [some (vR x0), some (vI x1), some (vI x2), none] [] K)) : At G mX8_wantEcho rX8_wantEcho 0 0 0 [some (vR x0), some (vI x1), some (vI x2), none] [] σ K := by
  refine s_aload_n (i := 0) dX8_wantEcho_0 rfl rfl ?_
  refine s_iload_n (i := 1) dX8_wantEcho_1 rfl rfl ?_
  obtain ⟨a1, ea1, h⟩ := h
  obtain ⟨t2, h⟩ := h
  exact t_callV (ci := 8) (as := [(vI x1)]) (S := []) gk dX8_wantEcho_2 gX8_110 (by decide) rfl w_791 wp_1 ea1 t2 rfl rfl (Nat.le_of_ble_eq_true rfl) (by decide) h
theorem eX8_wantEcho {G : GG} (gk : GOK G) {σ : Mm} {K : RES → Mm → Prop} {x0 : Option Nat} {x1 : Int32} {x2 : Int32}
    (h : ∃ a1, x0 = some a1 ∧ (mt σ a1).1 = 9 ∧ Runs G mX8_wantShelf rX8_wantShelf [(vR x0), (vI x1)] σ (bk G mX8_wantEcho rX8_wantEcho 1 6 5 [some (vR x0), some (vI x1), some (vI x2), none] [] K)) : Runs G mX8_wantEcho rX8_wantEcho [(vR x0), (vI x1), (vI x2)] σ K := Runs.of (by decide) rfl (Nat.le_of_ble_eq_true rfl) (vX8_wantEcho_0 gk h)
theorem vX8_wantEcho_5 {G : GG} (gk : GOK G) {σ : Mm} {K : RES → Mm → Prop} {x0 : Option Nat} {x1 : Int32} {x2 : Int32} {s0 : Option Nat}
    (h : ∃ a1, s0 = some a1 ∧ (mt σ a1).1 = 6 ∧ Runs G mX5_find rX5_find [(vR s0), (vI x2)] σ (bk G mX8_wantEcho rX8_wantEcho 1 6 9 [some (vR x0), some (vI x1), some (vI x2), none] [] K)) : At G mX8_wantEcho rX8_wantEcho 1 6 5 [some (vR x0), some (vI x1), some (vI x2), none] [(vR s0)] σ K := by
  refine s_iload_n (i := 2) dX8_wantEcho_5 rfl rfl ?_
  obtain ⟨a1, ea1, h⟩ := h
  obtain ⟨t2, h⟩ := h
  exact t_callV (ci := 5) (as := [(vI x2)]) (S := []) gk dX8_wantEcho_6 gX8_143 (by decide) rfl w_668 w_669 ea1 t2 rfl rfl (Nat.le_of_ble_eq_true rfl) (by decide) h
theorem vX8_wantEcho_9 {G : GG} (gk : GOK G) (hst : STR G) {σ : Mm} {K : RES → Mm → Prop} {x0 : Option Nat} {x1 : Int32} {x2 : Int32} {s0 : Option Nat}
    (h : ((s0 = none → (∀ k, K (.inr "java/util/NoSuchElementException") (sk σ k))) ∧ (∀ a2, s0 = some a2 → K (.inl (some (vR s0))) σ))) : At G mX8_wantEcho rX8_wantEcho 1 6 9 [some (vR x0), some (vI x1), some (vI x2), none] [(vR s0)] σ K := by
  refine s_astore_n (i := 3) (L' := [some (vR x0), some (vI x1), some (vI x2), some (vR s0)]) dX8_wantEcho_9 rfl rfl (by decide) rfl ?_
  refine s_aload_n (i := 3) dX8_wantEcho_10 rfl rfl ?_
  refine s_ifnonnull (tgt := 25) dX8_wantEcho_11 (by decide) (fun a2 ea2 => ?_) (fun q1 => ?_)
  · have h := h.2 a2 ea2
    refine s_aload_n (i := 3) dX8_wantEcho_25 rfl rfl ?_
    exact s_areturn dX8_wantEcho_26 rfl rfl (by decide) (by decide) h
  · have h := h.1 q1
    exact s_thr0 gk hst thx_142 w_464 w_18 (tl_4 (List.mem_of_getElem? (i := 133) rfl)) dX8_wantEcho_14 dX8_wantEcho_17 (Or.inr ⟨dX8_wantEcho_18, rfl⟩) dX8_wantEcho_21 dX8_wantEcho_24 (by decide) (by decide) (by decide) (by decide) h
theorem vX8_wantWarming_0 {G : GG} (gk : GOK G) {σ : Mm} {K : RES → Mm → Prop} {x0 : Option Nat} {x1 : Int32}
    (h : ∃ a1, x0 = some a1 ∧ (mt σ a1).1 = 9 ∧ ∃ a3, mr σ a1 0 = some a3 ∧ (mt σ a3).1 = 7 ∧ Runs G mX6_findWarming rX6_findWarming [(vR (mr σ a1 0)), (vI x1)] σ (bk G mX8_wantWarming rX8_wantWarming 0 0 8 [some (vR x0), some (vI x1), none] [] K)) : At G mX8_wantWarming rX8_wantWarming 0 0 0 [some (vR x0), some (vI x1), none] [] σ K := by
  refine s_aload_n (i := 0) dX8_wantWarming_0 rfl rfl ?_
  obtain ⟨a1, ea1, h⟩ := h
  obtain ⟨t2, h⟩ := h
  refine t_getR gk dX8_wantWarming_1 fX8_10 rfl ea1 t2 ?_
  refine s_iload_n (i := 1) dX8_wantWarming_4 rfl rfl ?_
  obtain ⟨a3, ea3, h⟩ := h
  obtain ⟨t4, h⟩ := h
  exact t_callV (ci := 6) (as := [(vI x1)]) (S := []) gk dX8_wantWarming_5 gX8_366 (by decide) rfl w_1046 w_1047 ea3 t4 rfl rfl (Nat.le_of_ble_eq_true rfl) (by decide) h
theorem eX8_wantWarming {G : GG} (gk : GOK G) {σ : Mm} {K : RES → Mm → Prop} {x0 : Option Nat} {x1 : Int32}
    (h : ∃ a1, x0 = some a1 ∧ (mt σ a1).1 = 9 ∧ ∃ a3, mr σ a1 0 = some a3 ∧ (mt σ a3).1 = 7 ∧ Runs G mX6_findWarming rX6_findWarming [(vR (mr σ a1 0)), (vI x1)] σ (bk G mX8_wantWarming rX8_wantWarming 0 0 8 [some (vR x0), some (vI x1), none] [] K)) : Runs G mX8_wantWarming rX8_wantWarming [(vR x0), (vI x1)] σ K := Runs.of (by decide) rfl (Nat.le_of_ble_eq_true rfl) (vX8_wantWarming_0 gk h)
theorem vX8_wantWarming_8 {G : GG} (gk : GOK G) (hst : STR G) {σ : Mm} {K : RES → Mm → Prop} {x0 : Option Nat} {x1 : Int32} {s0 : Option Nat}
    (h : ((s0 = none → (∀ k, K (.inr "java/lang/IndexOutOfBoundsException") (sk σ k))) ∧ (∀ a2, s0 = some a2 → K (.inl (some (vR s0))) σ))) : At G mX8_wantWarming rX8_wantWarming 0 0 8 [some (vR x0), some (vI x1), none] [(vR s0)] σ K := by
  refine s_astore_n (i := 2) (L' := [some (vR x0), some (vI x1), some (vR s0)]) dX8_wantWarming_8 rfl rfl (by decide) rfl ?_
  refine s_aload_n (i := 2) dX8_wantWarming_9 rfl rfl ?_
  refine s_ifnonnull (tgt := 24) dX8_wantWarming_10 (by decide) (fun a2 ea2 => ?_) (fun q1 => ?_)
  · have h := h.2 a2 ea2
    refine s_aload_n (i := 2) dX8_wantWarming_24 rfl rfl ?_
    exact s_areturn dX8_wantWarming_25 rfl rfl (by decide) (by decide) h
  · have h := h.1 q1
    exact s_thr0 gk hst thx_91 w_393 w_17 (tl_5 (List.mem_of_getElem? (i := 89) rfl)) dX8_wantWarming_13 dX8_wantWarming_16 (Or.inr ⟨dX8_wantWarming_17, rfl⟩) dX8_wantWarming_20 dX8_wantWarming_23 (by decide) (by decide) (by decide) (by decide) h
theorem vX8_refuse_0 {G : GG} (gk : GOK G) (hst : STR G) {σ : Mm} {K : RES → Mm → Prop} {x0 : Int32}
    (h : ((¬ x0 = (1 : Int32) → ((¬ x0 = (2 : Int32) → ((¬ x0 = (3 : Int32) → ((¬ x0 = (4 : Int32) → K (.inl none) σ) ∧ (x0 = (4 : Int32) → (∀ k, K (.inr "java/lang/IllegalStateException") (sk σ k))))) ∧ (x0 = (3 : Int32) → (∀ k, K (.inr "java/lang/IllegalArgumentException") (sk σ k))))) ∧ (x0 = (2 : Int32) → (∀ k, K (.inr "java/util/NoSuchElementException") (sk σ k))))) ∧ (x0 = (1 : Int32) → (∀ k, K (.inr "java/lang/IndexOutOfBoundsException") (sk σ k))))) : At G mX8_refuse rX8_refuse 0 0 0 [some (vI x0)] [] σ K := by
  refine s_iload_n (i := 0) dX8_refuse_0 rfl rfl ?_
  refine s_iconst (v := 1) dX8_refuse_1 (by decide) ?_
  refine s_icmp_ne (tgt := 16) dX8_refuse_2 (by decide) (fun q1 => ?_) (fun q1 => ?_)
  · have h := h.1 q1
    refine s_iload_n (i := 0) dX8_refuse_16 rfl rfl ?_
    refine s_iconst (v := 2) dX8_refuse_17 (by decide) ?_
    refine s_icmp_ne (tgt := 32) dX8_refuse_18 (by decide) (fun q2 => ?_) (fun q2 => ?_)
    · have h := h.1 q2
      refine s_iload_n (i := 0) dX8_refuse_32 rfl rfl ?_
      refine s_iconst (v := 3) dX8_refuse_33 (by decide) ?_
      refine s_icmp_ne (tgt := 48) dX8_refuse_34 (by decide) (fun q3 => ?_) (fun q3 => ?_)
      · have h := h.1 q3
        refine s_iload_n (i := 0) dX8_refuse_48 rfl rfl ?_
        refine s_iconst (v := 4) dX8_refuse_49 (by decide) ?_
        refine s_icmp_ne (tgt := 64) dX8_refuse_50 (by decide) (fun q4 => ?_) (fun q4 => ?_)
        · have h := h.1 q4
          exact s_return dX8_refuse_64 rfl (by decide) (by decide) h
        · have h := h.2 q4
          exact s_thr0 gk hst thx_301 w_496 w_20 (tl_3 (List.mem_of_getElem? (i := 25) rfl)) dX8_refuse_53 dX8_refuse_56 (Or.inr ⟨dX8_refuse_57, rfl⟩) dX8_refuse_60 dX8_refuse_63 (by decide) (by decide) (by decide) (by decide) h
      · have h := h.2 q3
        exact s_thr0 gk hst thx_245 w_480 w_19 (tl_3 (List.mem_of_getElem? (i := 9) rfl)) dX8_refuse_37 dX8_refuse_40 (Or.inr ⟨dX8_refuse_41, rfl⟩) dX8_refuse_44 dX8_refuse_47 (by decide) (by decide) (by decide) (by decide) h
    · have h := h.2 q2
      exact s_thr0 gk hst thx_142 w_464 w_18 (tl_2 (List.mem_of_getElem? (i := 233) rfl)) dX8_refuse_21 dX8_refuse_24 (Or.inr ⟨dX8_refuse_25, rfl⟩) dX8_refuse_28 dX8_refuse_31 (by decide) (by decide) (by decide) (by decide) h
  · have h := h.2 q1
    exact s_thr0 gk hst thx_91 w_393 w_17 (tl_2 (List.mem_of_getElem? (i := 198) rfl)) dX8_refuse_5 dX8_refuse_8 (Or.inr ⟨dX8_refuse_9, rfl⟩) dX8_refuse_12 dX8_refuse_15 (by decide) (by decide) (by decide) (by decide) h
theorem eX8_refuse {G : GG} (gk : GOK G) (hst : STR G) {σ : Mm} {K : RES → Mm → Prop} {x0 : Int32}
    (h : ((¬ x0 = (1 : Int32) → ((¬ x0 = (2 : Int32) → ((¬ x0 = (3 : Int32) → ((¬ x0 = (4 : Int32) → K (.inl none) σ) ∧ (x0 = (4 : Int32) → (∀ k, K (.inr "java/lang/IllegalStateException") (sk σ k))))) ∧ (x0 = (3 : Int32) → (∀ k, K (.inr "java/lang/IllegalArgumentException") (sk σ k))))) ∧ (x0 = (2 : Int32) → (∀ k, K (.inr "java/util/NoSuchElementException") (sk σ k))))) ∧ (x0 = (1 : Int32) → (∀ k, K (.inr "java/lang/IndexOutOfBoundsException") (sk σ k))))) : Runs G mX8_refuse rX8_refuse [(vI x0)] σ K := Runs.of (by decide) rfl (Nat.le_of_ble_eq_true rfl) (vX8_refuse_0 gk hst h)
theorem vX8_writeEcho_0 {G : GG} (gk : GOK G) {σ : Mm} {K : RES → Mm → Prop} {x0 : Option Nat} {x1 : Option Nat} {x2 : Int32}
    (h : ∃ a1, x0 = some a1 ∧ (mt σ a1).1 = 9 ∧ ∃ a3, mr σ a1 7 = some a3 ∧ (mt σ a3).1 = 11 ∧ Runs G mJ4_length_8abf5 rJ4_length_8abf5 [(vR (mr σ a1 7))] σ (bk G mX8_writeEcho rX8_writeEcho 0 0 7 [some (vR x0), some (vR x1), some (vI x2)] [] K)) : At G mX8_writeEcho rX8_writeEcho 0 0 0 [some (vR x0), some (vR x1), some (vI x2)] [] σ K := by
  refine s_aload_n (i := 0) dX8_writeEcho_0 rfl rfl ?_
  obtain ⟨a1, ea1, h⟩ := h
  obtain ⟨t2, h⟩ := h
  refine t_getR gk dX8_writeEcho_1 fX8_47 rfl ea1 t2 ?_
  obtain ⟨a3, ea3, h⟩ := h
  obtain ⟨t4, h⟩ := h
  exact t_callV (ci := 10) (as := []) (S := []) gk dX8_writeEcho_4 gX8_275 (by decide) rfl w_1262 w_1568 ea3 t4 rfl rfl (Nat.le_of_ble_eq_true rfl) (by decide) h
theorem eX8_writeEcho {G : GG} (gk : GOK G) {σ : Mm} {K : RES → Mm → Prop} {x0 : Option Nat} {x1 : Option Nat} {x2 : Int32}
    (h : ∃ a1, x0 = some a1 ∧ (mt σ a1).1 = 9 ∧ ∃ a3, mr σ a1 7 = some a3 ∧ (mt σ a3).1 = 11 ∧ Runs G mJ4_length_8abf5 rJ4_length_8abf5 [(vR (mr σ a1 7))] σ (bk G mX8_writeEcho rX8_writeEcho 0 0 7 [some (vR x0), some (vR x1), some (vI x2)] [] K)) : Runs G mX8_writeEcho rX8_writeEcho [(vR x0), (vR x1), (vI x2)] σ K := Runs.of (by decide) rfl (Nat.le_of_ble_eq_true rfl) (vX8_writeEcho_0 gk h)
theorem vX8_writeEcho_7 {G : GG} (gk : GOK G) {σ : Mm} {K : RES → Mm → Prop} {x0 : Option Nat} {x1 : Option Nat} {x2 : Int32} {s0 : Int32}
    (h : ((s0 ≤ 0 → ∃ a2, x0 = some a2 ∧ (mt σ a2).1 = 9 ∧ ∃ a4, x1 = some a4 ∧ (mt σ a4).1 = 3 ∧ ∃ a6, mr σ a2 7 = some a6 ∧ (mt σ a6).1 = 11 ∧ Runs G mJ4_append_cf468 rJ4_append_cf468 [(vR (mr σ a2 7)), (vI (mi σ a4 1))] σ (bk G mX8_writeEcho rX8_writeEcho 1 140 31 [some (vR x0), some (vR x1), some (vI x2)] [] K)) ∧ (¬ s0 ≤ 0 → ∃ a8, x0 = some a8 ∧ (mt σ a8).1 = 9 ∧ ∃ a10, mr σ a8 7 = some a10 ∧ (mt σ a10).1 = 11 ∧ Runs G mJ4_append_cf468 rJ4_append_cf468 [(vR (mr σ a8 7)), (vI (32 : Int32))] σ (bk G mX8_writeEcho rX8_writeEcho 1 140 19 [some (vR x0), some (vR x1), some (vI x2)] [] K)))) : At G mX8_writeEcho rX8_writeEcho 0 0 7 [some (vR x0), some (vR x1), some (vI x2)] [(vI s0)] σ K := by
  refine s_if_le (tgt := 20) dX8_writeEcho_7 (by decide) (fun q1 => ?_) (fun q1 => ?_)
  · have h := h.1 q1
    refine s_aload_n (i := 0) dX8_writeEcho_20 rfl rfl ?_
    obtain ⟨a2, ea2, h⟩ := h
    obtain ⟨t3, h⟩ := h
    refine t_getR gk dX8_writeEcho_21 fX8_47 rfl ea2 t3 ?_
    refine s_aload_n (i := 1) dX8_writeEcho_24 rfl rfl ?_
    obtain ⟨a4, ea4, h⟩ := h
    obtain ⟨t5, h⟩ := h
    refine t_getI gk dX8_writeEcho_25 fX8_184 rfl ea4 t5 ?_
    obtain ⟨a6, ea6, h⟩ := h
    obtain ⟨t7, h⟩ := h
    exact t_callV (ci := 10) (as := [(vI (mi σ a4 1))]) (S := []) gk dX8_writeEcho_28 gX8_375 (by decide) rfl w_1202 w_1203 ea6 t7 rfl rfl (Nat.le_of_ble_eq_true rfl) (by decide) h
  · have h := h.2 q1
    refine s_aload_n (i := 0) dX8_writeEcho_10 rfl rfl ?_
    obtain ⟨a8, ea8, h⟩ := h
    obtain ⟨t9, h⟩ := h
    refine t_getR gk dX8_writeEcho_11 fX8_47 rfl ea8 t9 ?_
    refine s_bipush (v := 32) dX8_writeEcho_14 (by decide) ?_
    obtain ⟨a10, ea10, h⟩ := h
    obtain ⟨t11, h⟩ := h
    exact t_callV (ci := 10) (as := [(vI (32 : Int32))]) (S := []) gk dX8_writeEcho_16 gX8_375 (by decide) rfl w_1202 w_1203 ea10 t11 rfl rfl (Nat.le_of_ble_eq_true rfl) (by decide) h
theorem vX8_writeEcho_19 {G : GG} (gk : GOK G) {σ : Mm} {K : RES → Mm → Prop} {x0 : Option Nat} {x1 : Option Nat} {x2 : Int32} {s0 : Option Nat}
    (h : ∃ a1, x0 = some a1 ∧ (mt σ a1).1 = 9 ∧ ∃ a3, x1 = some a3 ∧ (mt σ a3).1 = 3 ∧ ∃ a5, mr σ a1 7 = some a5 ∧ (mt σ a5).1 = 11 ∧ Runs G mJ4_append_cf468 rJ4_append_cf468 [(vR (mr σ a1 7)), (vI (mi σ a3 1))] σ (bk G mX8_writeEcho rX8_writeEcho 2 280 31 [some (vR x0), some (vR x1), some (vI x2)] [] K)) : At G mX8_writeEcho rX8_writeEcho 1 140 19 [some (vR x0), some (vR x1), some (vI x2)] [(vR s0)] σ K := by
  refine s_pop dX8_writeEcho_19 rfl ?_
  refine s_aload_n (i := 0) dX8_writeEcho_20 rfl rfl ?_
  obtain ⟨a1, ea1, h⟩ := h
  obtain ⟨t2, h⟩ := h
  refine t_getR gk dX8_writeEcho_21 fX8_47 rfl ea1 t2 ?_
  refine s_aload_n (i := 1) dX8_writeEcho_24 rfl rfl ?_
  obtain ⟨a3, ea3, h⟩ := h
  obtain ⟨t4, h⟩ := h
  refine t_getI gk dX8_writeEcho_25 fX8_184 rfl ea3 t4 ?_
  obtain ⟨a5, ea5, h⟩ := h
  obtain ⟨t6, h⟩ := h
  exact t_callV (ci := 10) (as := [(vI (mi σ a3 1))]) (S := []) gk dX8_writeEcho_28 gX8_375 (by decide) rfl w_1202 w_1203 ea5 t6 rfl rfl (Nat.le_of_ble_eq_true rfl) (by decide) h
theorem vX8_writeEcho_31 {G : GG} (gk : GOK G) {σ : Mm} {K : RES → Mm → Prop} {x0 : Option Nat} {x1 : Option Nat} {x2 : Int32} {s0 : Option Nat}
    (h : ∃ a1, x1 = some a1 ∧ (mt σ a1).1 = 3 ∧ ∃ a3, s0 = some a3 ∧ (mt σ a3).1 = 11 ∧ Runs G mJ4_append_bf812 rJ4_append_bf812 [(vR s0), (vI (mi σ a1 2))] σ (bk G mX8_writeEcho rX8_writeEcho 3 420 38 [some (vR x0), some (vR x1), some (vI x2)] [] K)) : At G mX8_writeEcho rX8_writeEcho 2 280 31 [some (vR x0), some (vR x1), some (vI x2)] [(vR s0)] σ K := by
  refine s_aload_n (i := 1) dX8_writeEcho_31 rfl rfl ?_
  obtain ⟨a1, ea1, h⟩ := h
  obtain ⟨t2, h⟩ := h
  refine t_getI gk dX8_writeEcho_32 fX8_151 rfl ea1 t2 ?_
  obtain ⟨a3, ea3, h⟩ := h
  obtain ⟨t4, h⟩ := h
  exact t_callV (ci := 10) (as := [(vI (mi σ a1 2))]) (S := []) gk dX8_writeEcho_35 gX8_378 (by decide) rfl w_1215 w_1216 ea3 t4 rfl rfl (Nat.le_of_ble_eq_true rfl) (by decide) h
theorem vX8_writeEcho_38 {G : GG} (gk : GOK G) {σ : Mm} {K : RES → Mm → Prop} {x0 : Option Nat} {x1 : Option Nat} {x2 : Int32} {s0 : Option Nat}
    (h : ((x2 = 0 → ∃ a2, x1 = some a2 ∧ (mt σ a2).1 = 3 ∧ (((mi σ a2 8) = 0 → K (.inl none) σ) ∧ (¬ (mi σ a2 8) = 0 → ∃ a5, x0 = some a5 ∧ (mt σ a5).1 = 9 ∧ ∃ a7, mr σ a5 7 = some a7 ∧ (mt σ a7).1 = 11 ∧ Runs G mJ4_append_cf468 rJ4_append_cf468 [(vR (mr σ a5 7)), (vI (33 : Int32))] σ (bk G mX8_writeEcho rX8_writeEcho 4 560 69 [some (vR x0), some (vR x1), some (vI x2)] [] K)))) ∧ (¬ x2 = 0 → ∃ a9, x0 = some a9 ∧ (mt σ a9).1 = 9 ∧ ∃ a11, mr σ a9 7 = some a11 ∧ (mt σ a11).1 = 11 ∧ Runs G mJ4_append_cf468 rJ4_append_cf468 [(vR (mr σ a9 7)), (vI (126 : Int32))] σ (bk G mX8_writeEcho rX8_writeEcho 4 560 52 [some (vR x0), some (vR x1), some (vI x2)] [] K)))) : At G mX8_writeEcho rX8_writeEcho 3 420 38 [some (vR x0), some (vR x1), some (vI x2)] [(vR s0)] σ K := by
  refine s_pop dX8_writeEcho_38 rfl ?_
  refine s_iload_n (i := 2) dX8_writeEcho_39 rfl rfl ?_
  refine s_if_eq (tgt := 53) dX8_writeEcho_40 (by decide) (fun q1 => ?_) (fun q1 => ?_)
  · have h := h.1 q1
    refine s_aload_n (i := 1) dX8_writeEcho_53 rfl rfl ?_
    obtain ⟨a2, ea2, h⟩ := h
    obtain ⟨t3, h⟩ := h
    refine t_getI gk dX8_writeEcho_54 fX8_168 rfl ea2 t3 ?_
    refine s_if_eq (tgt := 70) dX8_writeEcho_57 (by decide) (fun q4 => ?_) (fun q4 => ?_)
    · have h := h.1 q4
      exact s_return dX8_writeEcho_70 rfl (by decide) (by decide) h
    · have h := h.2 q4
      refine s_aload_n (i := 0) dX8_writeEcho_60 rfl rfl ?_
      obtain ⟨a5, ea5, h⟩ := h
      obtain ⟨t6, h⟩ := h
      refine t_getR gk dX8_writeEcho_61 fX8_47 rfl ea5 t6 ?_
      refine s_bipush (v := 33) dX8_writeEcho_64 (by decide) ?_
      obtain ⟨a7, ea7, h⟩ := h
      obtain ⟨t8, h⟩ := h
      exact t_callV (ci := 10) (as := [(vI (33 : Int32))]) (S := []) gk dX8_writeEcho_66 gX8_375 (by decide) rfl w_1202 w_1203 ea7 t8 rfl rfl (Nat.le_of_ble_eq_true rfl) (by decide) h
  · have h := h.2 q1
    refine s_aload_n (i := 0) dX8_writeEcho_43 rfl rfl ?_
    obtain ⟨a9, ea9, h⟩ := h
    obtain ⟨t10, h⟩ := h
    refine t_getR gk dX8_writeEcho_44 fX8_47 rfl ea9 t10 ?_
    refine s_bipush (v := 126) dX8_writeEcho_47 (by decide) ?_
    obtain ⟨a11, ea11, h⟩ := h
    obtain ⟨t12, h⟩ := h
    exact t_callV (ci := 10) (as := [(vI (126 : Int32))]) (S := []) gk dX8_writeEcho_49 gX8_375 (by decide) rfl w_1202 w_1203 ea11 t12 rfl rfl (Nat.le_of_ble_eq_true rfl) (by decide) h
theorem vX8_writeEcho_52 {G : GG} (gk : GOK G) {σ : Mm} {K : RES → Mm → Prop} {x0 : Option Nat} {x1 : Option Nat} {x2 : Int32} {s0 : Option Nat}
    (h : ∃ a1, x1 = some a1 ∧ (mt σ a1).1 = 3 ∧ (((mi σ a1 8) = 0 → K (.inl none) σ) ∧ (¬ (mi σ a1 8) = 0 → ∃ a4, x0 = some a4 ∧ (mt σ a4).1 = 9 ∧ ∃ a6, mr σ a4 7 = some a6 ∧ (mt σ a6).1 = 11 ∧ Runs G mJ4_append_cf468 rJ4_append_cf468 [(vR (mr σ a4 7)), (vI (33 : Int32))] σ (bk G mX8_writeEcho rX8_writeEcho 5 700 69 [some (vR x0), some (vR x1), some (vI x2)] [] K)))) : At G mX8_writeEcho rX8_writeEcho 4 560 52 [some (vR x0), some (vR x1), some (vI x2)] [(vR s0)] σ K := by
  refine s_pop dX8_writeEcho_52 rfl ?_
  refine s_aload_n (i := 1) dX8_writeEcho_53 rfl rfl ?_
  obtain ⟨a1, ea1, h⟩ := h
  obtain ⟨t2, h⟩ := h
  refine t_getI gk dX8_writeEcho_54 fX8_168 rfl ea1 t2 ?_
  refine s_if_eq (tgt := 70) dX8_writeEcho_57 (by decide) (fun q3 => ?_) (fun q3 => ?_)
  · have h := h.1 q3
    exact s_return dX8_writeEcho_70 rfl (by decide) (by decide) h
  · have h := h.2 q3
    refine s_aload_n (i := 0) dX8_writeEcho_60 rfl rfl ?_
    obtain ⟨a4, ea4, h⟩ := h
    obtain ⟨t5, h⟩ := h
    refine t_getR gk dX8_writeEcho_61 fX8_47 rfl ea4 t5 ?_
    refine s_bipush (v := 33) dX8_writeEcho_64 (by decide) ?_
    obtain ⟨a6, ea6, h⟩ := h
    obtain ⟨t7, h⟩ := h
    exact t_callV (ci := 10) (as := [(vI (33 : Int32))]) (S := []) gk dX8_writeEcho_66 gX8_375 (by decide) rfl w_1202 w_1203 ea6 t7 rfl rfl (Nat.le_of_ble_eq_true rfl) (by decide) h
theorem vX8_writeEcho_69 {G : GG} (gk : GOK G) {σ : Mm} {K : RES → Mm → Prop} {x0 : Option Nat} {x1 : Option Nat} {x2 : Int32} {s0 : Option Nat}
    (h : K (.inl none) σ) : At G mX8_writeEcho rX8_writeEcho 5 700 69 [some (vR x0), some (vR x1), some (vI x2)] [(vR s0)] σ K := by
  refine s_pop dX8_writeEcho_69 rfl ?_
  exact s_return dX8_writeEcho_70 rfl (by decide) (by decide) h
theorem vX8_faultOf_0 {G : GG} (gk : GOK G) {σ : Mm} {K : RES → Mm → Prop} {x0 : Option Nat} {x1 : Option Nat}
    (h : ∃ a1, x1 = some a1 ∧ (mt σ a1).1 = 1 ∧ (((mi σ a1 0).toInt < 0 ∨ 8 < (mi σ a1 0).toInt → K (.inl (some (vI (3 : Int32)))) σ) ∧ (((mi σ a1 0) = 0 → ∃ a5, x0 = some a5 ∧ (mt σ a5).1 = 9 ∧ ∃ a7, mr σ a5 0 = some a7 ∧ (mt σ a7).1 = 7 ∧ Runs G mX6_newJarFault rX6_newJarFault [(vR (mr σ a5 0)), (vI (mi σ a1 1)), (vI (mi σ a1 3))] σ (bk G mX8_faultOf rX8_faultOf 0 0 71 [some (vR x0), some (vR x1)] [] K)) ∧ (((mi σ a1 0) = 1 → ∃ a9, x0 = some a9 ∧ (mt σ a9).1 = 9 ∧ ∃ a11, mr σ a9 0 = some a11 ∧ (mt σ a11).1 = 7 ∧ Runs G mX6_wordFault rX6_wordFault [(vR (mr σ a9 0)), (vI (mi σ a1 1)), (vI (mi σ a1 3))] σ (bk G mX8_faultOf rX8_faultOf 0 0 87 [some (vR x0), some (vR x1)] [] K)) ∧ (((mi σ a1 0) = 2 → ∃ a13, x0 = some a13 ∧ (mt σ a13).1 = 9 ∧ ∃ a15, mr σ a13 0 = some a15 ∧ (mt σ a15).1 = 7 ∧ Runs G mX6_jarFault rX6_jarFault [(vR (mr σ a13 0)), (vI (mi σ a1 1))] σ (bk G mX8_faultOf rX8_faultOf 0 0 99 [some (vR x0), some (vR x1)] [] K)) ∧ (((mi σ a1 0) = 3 → ∃ a17, x0 = some a17 ∧ (mt σ a17).1 = 9 ∧ ∃ a19, mr σ a17 0 = some a19 ∧ (mt σ a19).1 = 7 ∧ Runs G mX6_newShelfFault rX6_newShelfFault [(vR (mr σ a17 0)), (vI (mi σ a1 2)), (vI (mi σ a1 3)), (vI (mi σ a1 4))] σ (bk G mX8_faultOf rX8_faultOf 0 0 119 [some (vR x0), some (vR x1)] [] K)) ∧ (((mi σ a1 0) = 4 → ∃ a21, x0 = some a21 ∧ (mt σ a21).1 = 9 ∧ ∃ a23, mr σ a21 0 = some a23 ∧ (mt σ a23).1 = 7 ∧ Runs G mX6_hearFault rX6_hearFault [(vR (mr σ a21 0)), (vI (mi σ a1 2)), (vI (mi σ a1 1))] σ (bk G mX8_faultOf rX8_faultOf 0 0 135 [some (vR x0), some (vR x1)] [] K)) ∧ (((mi σ a1 0) = 5 → ∃ a25, x0 = some a25 ∧ (mt σ a25).1 = 9 ∧ ∃ a27, mr σ a25 0 = some a27 ∧ (mt σ a27).1 = 7 ∧ Runs G mX6_warmFault rX6_warmFault [(vR (mr σ a25 0)), (vI (mi σ a1 2)), (vI (mi σ a1 1)), (vI (mi σ a1 3))] σ (bk G mX8_faultOf rX8_faultOf 0 0 155 [some (vR x0), some (vR x1)] [] K)) ∧ (((mi σ a1 0) = 6 → ∃ a29, x0 = some a29 ∧ (mt σ a29).1 = 9 ∧ ∃ a31, mr σ a29 0 = some a31 ∧ (mt σ a31).1 = 7 ∧ Runs G mX6_shelfFault rX6_shelfFault [(vR (mr σ a29 0)), (vI (mi σ a1 2))] σ (bk G mX8_faultOf rX8_faultOf 0 0 167 [some (vR x0), some (vR x1)] [] K)) ∧ (((mi σ a1 0) = 7 → ∃ a33, x0 = some a33 ∧ (mt σ a33).1 = 9 ∧ ∃ a35, mr σ a33 0 = some a35 ∧ (mt σ a35).1 = 7 ∧ Runs G mX6_shelfFault rX6_shelfFault [(vR (mr σ a33 0)), (vI (mi σ a1 2))] σ (bk G mX8_faultOf rX8_faultOf 0 0 167 [some (vR x0), some (vR x1)] [] K)) ∧ ((mi σ a1 0) = 8 → ∃ a37, x0 = some a37 ∧ (mt σ a37).1 = 9 ∧ ∃ a39, mr σ a37 0 = some a39 ∧ (mt σ a39).1 = 7 ∧ Runs G mX6_passFault rX6_passFault [(vR (mr σ a37 0)), (vI (mi σ a1 3))] σ (bk G mX8_faultOf rX8_faultOf 0 0 179 [some (vR x0), some (vR x1)] [] K)))))))))))) : At G mX8_faultOf rX8_faultOf 0 0 0 [some (vR x0), some (vR x1)] [] σ K := by
  refine s_aload_n (i := 1) dX8_faultOf_0 rfl rfl ?_
  obtain ⟨a1, ea1, h⟩ := h
  obtain ⟨t2, h⟩ := h
  refine t_getI gk dX8_faultOf_1 fX8_381 rfl ea1 t2 ?_
  by_cases q3 : (mi σ a1 0).toInt < 0 ∨ 8 < (mi σ a1 0).toInt
  · refine s_tableOut (tgt := 180) dX8_faultOf_4 q3 (by decide) ?_
    have h := h.1 q3
    refine s_iconst (v := 3) dX8_faultOf_180 (by decide) ?_
    exact s_ireturn dX8_faultOf_181 rfl rfl (by decide) (by decide) h
  · replace h := h.2
    by_cases w40 : (mi σ a1 0) = 0
    · refine s_tableIn (off := 52) (tgt := 56) dX8_faultOf_4 (by rw [w40]; decide) (by rw [w40]; decide) (by rw [w40]; decide) (by decide) ?_
      have h := h.1 w40
      refine s_aload_n (i := 0) dX8_faultOf_56 rfl rfl ?_
      obtain ⟨a5, ea5, h⟩ := h
      obtain ⟨t6, h⟩ := h
      refine t_getR gk dX8_faultOf_57 fX8_10 rfl ea5 t6 ?_
      refine s_aload_n (i := 1) dX8_faultOf_60 rfl rfl ?_
      refine t_getI gk dX8_faultOf_61 fX8_386 rfl ea1 t2 ?_
      refine s_aload_n (i := 1) dX8_faultOf_64 rfl rfl ?_
      refine t_getI gk dX8_faultOf_65 fX8_387 rfl ea1 t2 ?_
      obtain ⟨a7, ea7, h⟩ := h
      obtain ⟨t8, h⟩ := h
      exact t_callV (ci := 6) (as := [(vI (mi σ a1 1)), (vI (mi σ a1 3))]) (S := []) gk dX8_faultOf_68 gX8_51 (by decide) rfl w_375 w_376 ea7 t8 rfl rfl (Nat.le_of_ble_eq_true rfl) (by decide) h
    replace h := h.2
    by_cases w41 : (mi σ a1 0) = 1
    · refine s_tableIn (off := 68) (tgt := 72) dX8_faultOf_4 (by rw [w41]; decide) (by rw [w41]; decide) (by rw [w41]; decide) (by decide) ?_
      have h := h.1 w41
      refine s_aload_n (i := 0) dX8_faultOf_72 rfl rfl ?_
      obtain ⟨a9, ea9, h⟩ := h
      obtain ⟨t10, h⟩ := h
      refine t_getR gk dX8_faultOf_73 fX8_10 rfl ea9 t10 ?_
      refine s_aload_n (i := 1) dX8_faultOf_76 rfl rfl ?_
      refine t_getI gk dX8_faultOf_77 fX8_386 rfl ea1 t2 ?_
      refine s_aload_n (i := 1) dX8_faultOf_80 rfl rfl ?_
      refine t_getI gk dX8_faultOf_81 fX8_387 rfl ea1 t2 ?_
      obtain ⟨a11, ea11, h⟩ := h
      obtain ⟨t12, h⟩ := h
      exact t_callV (ci := 6) (as := [(vI (mi σ a1 1)), (vI (mi σ a1 3))]) (S := []) gk dX8_faultOf_84 gX8_73 (by decide) rfl w_728 w_729 ea11 t12 rfl rfl (Nat.le_of_ble_eq_true rfl) (by decide) h
    replace h := h.2
    by_cases w42 : (mi σ a1 0) = 2
    · refine s_tableIn (off := 84) (tgt := 88) dX8_faultOf_4 (by rw [w42]; decide) (by rw [w42]; decide) (by rw [w42]; decide) (by decide) ?_
      have h := h.1 w42
      refine s_aload_n (i := 0) dX8_faultOf_88 rfl rfl ?_
      obtain ⟨a13, ea13, h⟩ := h
      obtain ⟨t14, h⟩ := h
      refine t_getR gk dX8_faultOf_89 fX8_10 rfl ea13 t14 ?_
      refine s_aload_n (i := 1) dX8_faultOf_92 rfl rfl ?_
      refine t_getI gk dX8_faultOf_93 fX8_386 rfl ea1 t2 ?_
      obtain ⟨a15, ea15, h⟩ := h
      obtain ⟨t16, h⟩ := h
      exact t_callV (ci := 6) (as := [(vI (mi σ a1 1))]) (S := []) gk dX8_faultOf_96 gX8_66 (by decide) rfl w_660 w_661 ea15 t16 rfl rfl (Nat.le_of_ble_eq_true rfl) (by decide) h
    replace h := h.2
    by_cases w43 : (mi σ a1 0) = 3
    · refine s_tableIn (off := 96) (tgt := 100) dX8_faultOf_4 (by rw [w43]; decide) (by rw [w43]; decide) (by rw [w43]; decide) (by decide) ?_
      have h := h.1 w43
      refine s_aload_n (i := 0) dX8_faultOf_100 rfl rfl ?_
      obtain ⟨a17, ea17, h⟩ := h
      obtain ⟨t18, h⟩ := h
      refine t_getR gk dX8_faultOf_101 fX8_10 rfl ea17 t18 ?_
      refine s_aload_n (i := 1) dX8_faultOf_104 rfl rfl ?_
      refine t_getI gk dX8_faultOf_105 fX8_390 rfl ea1 t2 ?_
      refine s_aload_n (i := 1) dX8_faultOf_108 rfl rfl ?_
      refine t_getI gk dX8_faultOf_109 fX8_387 rfl ea1 t2 ?_
      refine s_aload_n (i := 1) dX8_faultOf_112 rfl rfl ?_
      refine t_getI gk dX8_faultOf_113 fX8_393 rfl ea1 t2 ?_
      obtain ⟨a19, ea19, h⟩ := h
      obtain ⟨t20, h⟩ := h
      exact t_callV (ci := 6) (as := [(vI (mi σ a1 2)), (vI (mi σ a1 3)), (vI (mi σ a1 4))]) (S := []) gk dX8_faultOf_116 gX8_103 (by decide) rfl w_607 w_608 ea19 t20 rfl rfl (Nat.le_of_ble_eq_true rfl) (by decide) h
    replace h := h.2
    by_cases w44 : (mi σ a1 0) = 4
    · refine s_tableIn (off := 116) (tgt := 120) dX8_faultOf_4 (by rw [w44]; decide) (by rw [w44]; decide) (by rw [w44]; decide) (by decide) ?_
      have h := h.1 w44
      refine s_aload_n (i := 0) dX8_faultOf_120 rfl rfl ?_
      obtain ⟨a21, ea21, h⟩ := h
      obtain ⟨t22, h⟩ := h
      refine t_getR gk dX8_faultOf_121 fX8_10 rfl ea21 t22 ?_
      refine s_aload_n (i := 1) dX8_faultOf_124 rfl rfl ?_
      refine t_getI gk dX8_faultOf_125 fX8_390 rfl ea1 t2 ?_
      refine s_aload_n (i := 1) dX8_faultOf_128 rfl rfl ?_
      refine t_getI gk dX8_faultOf_129 fX8_386 rfl ea1 t2 ?_
      obtain ⟨a23, ea23, h⟩ := h
      obtain ⟨t24, h⟩ := h
      exact t_callV (ci := 6) (as := [(vI (mi σ a1 2)), (vI (mi σ a1 1))]) (S := []) gk dX8_faultOf_132 gX8_190 (by decide) rfl w_652 w_653 ea23 t24 rfl rfl (Nat.le_of_ble_eq_true rfl) (by decide) h
    replace h := h.2
    by_cases w45 : (mi σ a1 0) = 5
    · refine s_tableIn (off := 132) (tgt := 136) dX8_faultOf_4 (by rw [w45]; decide) (by rw [w45]; decide) (by rw [w45]; decide) (by decide) ?_
      have h := h.1 w45
      refine s_aload_n (i := 0) dX8_faultOf_136 rfl rfl ?_
      obtain ⟨a25, ea25, h⟩ := h
      obtain ⟨t26, h⟩ := h
      refine t_getR gk dX8_faultOf_137 fX8_10 rfl ea25 t26 ?_
      refine s_aload_n (i := 1) dX8_faultOf_140 rfl rfl ?_
      refine t_getI gk dX8_faultOf_141 fX8_390 rfl ea1 t2 ?_
      refine s_aload_n (i := 1) dX8_faultOf_144 rfl rfl ?_
      refine t_getI gk dX8_faultOf_145 fX8_386 rfl ea1 t2 ?_
      refine s_aload_n (i := 1) dX8_faultOf_148 rfl rfl ?_
      refine t_getI gk dX8_faultOf_149 fX8_387 rfl ea1 t2 ?_
      obtain ⟨a27, ea27, h⟩ := h
      obtain ⟨t28, h⟩ := h
      exact t_callV (ci := 6) (as := [(vI (mi σ a1 2)), (vI (mi σ a1 1)), (vI (mi σ a1 3))]) (S := []) gk dX8_faultOf_152 gX8_201 (by decide) rfl w_747 w_748 ea27 t28 rfl rfl (Nat.le_of_ble_eq_true rfl) (by decide) h
    replace h := h.2
    by_cases w46 : (mi σ a1 0) = 6
    · refine s_tableIn (off := 152) (tgt := 156) dX8_faultOf_4 (by rw [w46]; decide) (by rw [w46]; decide) (by rw [w46]; decide) (by decide) ?_
      have h := h.1 w46
      refine s_aload_n (i := 0) dX8_faultOf_156 rfl rfl ?_
      obtain ⟨a29, ea29, h⟩ := h
      obtain ⟨t30, h⟩ := h
      refine t_getR gk dX8_faultOf_157 fX8_10 rfl ea29 t30 ?_
      refine s_aload_n (i := 1) dX8_faultOf_160 rfl rfl ?_
      refine t_getI gk dX8_faultOf_161 fX8_390 rfl ea1 t2 ?_
      obtain ⟨a31, ea31, h⟩ := h
      obtain ⟨t32, h⟩ := h
      exact t_callV (ci := 6) (as := [(vI (mi σ a1 2))]) (S := []) gk dX8_faultOf_164 gX8_394 (by decide) rfl w_1526 w_1527 ea31 t32 rfl rfl (Nat.le_of_ble_eq_true rfl) (by decide) h
    replace h := h.2
    by_cases w47 : (mi σ a1 0) = 7
    · refine s_tableIn (off := 152) (tgt := 156) dX8_faultOf_4 (by rw [w47]; decide) (by rw [w47]; decide) (by rw [w47]; decide) (by decide) ?_
      have h := h.1 w47
      refine s_aload_n (i := 0) dX8_faultOf_156 rfl rfl ?_
      obtain ⟨a33, ea33, h⟩ := h
      obtain ⟨t34, h⟩ := h
      refine t_getR gk dX8_faultOf_157 fX8_10 rfl ea33 t34 ?_
      refine s_aload_n (i := 1) dX8_faultOf_160 rfl rfl ?_
      refine t_getI gk dX8_faultOf_161 fX8_390 rfl ea1 t2 ?_
      obtain ⟨a35, ea35, h⟩ := h
      obtain ⟨t36, h⟩ := h
      exact t_callV (ci := 6) (as := [(vI (mi σ a1 2))]) (S := []) gk dX8_faultOf_164 gX8_394 (by decide) rfl w_1526 w_1527 ea35 t36 rfl rfl (Nat.le_of_ble_eq_true rfl) (by decide) h
    replace h := h.2
    by_cases w48 : (mi σ a1 0) = 8
    · refine s_tableIn (off := 164) (tgt := 168) dX8_faultOf_4 (by rw [w48]; decide) (by rw [w48]; decide) (by rw [w48]; decide) (by decide) ?_
      have h := h w48
      refine s_aload_n (i := 0) dX8_faultOf_168 rfl rfl ?_
      obtain ⟨a37, ea37, h⟩ := h
      obtain ⟨t38, h⟩ := h
      refine t_getR gk dX8_faultOf_169 fX8_10 rfl ea37 t38 ?_
      refine s_aload_n (i := 1) dX8_faultOf_172 rfl rfl ?_
      refine t_getI gk dX8_faultOf_173 fX8_387 rfl ea1 t2 ?_
      obtain ⟨a39, ea39, h⟩ := h
      obtain ⟨t40, h⟩ := h
      exact t_callV (ci := 6) (as := [(vI (mi σ a1 3))]) (S := []) gk dX8_faultOf_176 gX8_219 (by decide) rfl w_775 w_776 ea39 t40 rfl rfl (Nat.le_of_ble_eq_true rfl) (by decide) h
    exact (tb_cover (x := (mi σ a1 0)) (lo := 0) (n := 9) (fun k hk => by match k, hk with | 0, _ => exact w40 | 1, _ => exact w41 | 2, _ => exact w42 | 3, _ => exact w43 | 4, _ => exact w44 | 5, _ => exact w45 | 6, _ => exact w46 | 7, _ => exact w47 | 8, _ => exact w48 | k + 9, hk => omega) (by decide) q3).elim
theorem eX8_faultOf {G : GG} (gk : GOK G) {σ : Mm} {K : RES → Mm → Prop} {x0 : Option Nat} {x1 : Option Nat}
    (h : ∃ a1, x1 = some a1 ∧ (mt σ a1).1 = 1 ∧ (((mi σ a1 0).toInt < 0 ∨ 8 < (mi σ a1 0).toInt → K (.inl (some (vI (3 : Int32)))) σ) ∧ (((mi σ a1 0) = 0 → ∃ a5, x0 = some a5 ∧ (mt σ a5).1 = 9 ∧ ∃ a7, mr σ a5 0 = some a7 ∧ (mt σ a7).1 = 7 ∧ Runs G mX6_newJarFault rX6_newJarFault [(vR (mr σ a5 0)), (vI (mi σ a1 1)), (vI (mi σ a1 3))] σ (bk G mX8_faultOf rX8_faultOf 0 0 71 [some (vR x0), some (vR x1)] [] K)) ∧ (((mi σ a1 0) = 1 → ∃ a9, x0 = some a9 ∧ (mt σ a9).1 = 9 ∧ ∃ a11, mr σ a9 0 = some a11 ∧ (mt σ a11).1 = 7 ∧ Runs G mX6_wordFault rX6_wordFault [(vR (mr σ a9 0)), (vI (mi σ a1 1)), (vI (mi σ a1 3))] σ (bk G mX8_faultOf rX8_faultOf 0 0 87 [some (vR x0), some (vR x1)] [] K)) ∧ (((mi σ a1 0) = 2 → ∃ a13, x0 = some a13 ∧ (mt σ a13).1 = 9 ∧ ∃ a15, mr σ a13 0 = some a15 ∧ (mt σ a15).1 = 7 ∧ Runs G mX6_jarFault rX6_jarFault [(vR (mr σ a13 0)), (vI (mi σ a1 1))] σ (bk G mX8_faultOf rX8_faultOf 0 0 99 [some (vR x0), some (vR x1)] [] K)) ∧ (((mi σ a1 0) = 3 → ∃ a17, x0 = some a17 ∧ (mt σ a17).1 = 9 ∧ ∃ a19, mr σ a17 0 = some a19 ∧ (mt σ a19).1 = 7 ∧ Runs G mX6_newShelfFault rX6_newShelfFault [(vR (mr σ a17 0)), (vI (mi σ a1 2)), (vI (mi σ a1 3)), (vI (mi σ a1 4))] σ (bk G mX8_faultOf rX8_faultOf 0 0 119 [some (vR x0), some (vR x1)] [] K)) ∧ (((mi σ a1 0) = 4 → ∃ a21, x0 = some a21 ∧ (mt σ a21).1 = 9 ∧ ∃ a23, mr σ a21 0 = some a23 ∧ (mt σ a23).1 = 7 ∧ Runs G mX6_hearFault rX6_hearFault [(vR (mr σ a21 0)), (vI (mi σ a1 2)), (vI (mi σ a1 1))] σ (bk G mX8_faultOf rX8_faultOf 0 0 135 [some (vR x0), some (vR x1)] [] K)) ∧ (((mi σ a1 0) = 5 → ∃ a25, x0 = some a25 ∧ (mt σ a25).1 = 9 ∧ ∃ a27, mr σ a25 0 = some a27 ∧ (mt σ a27).1 = 7 ∧ Runs G mX6_warmFault rX6_warmFault [(vR (mr σ a25 0)), (vI (mi σ a1 2)), (vI (mi σ a1 1)), (vI (mi σ a1 3))] σ (bk G mX8_faultOf rX8_faultOf 0 0 155 [some (vR x0), some (vR x1)] [] K)) ∧ (((mi σ a1 0) = 6 → ∃ a29, x0 = some a29 ∧ (mt σ a29).1 = 9 ∧ ∃ a31, mr σ a29 0 = some a31 ∧ (mt σ a31).1 = 7 ∧ Runs G mX6_shelfFault rX6_shelfFault [(vR (mr σ a29 0)), (vI (mi σ a1 2))] σ (bk G mX8_faultOf rX8_faultOf 0 0 167 [some (vR x0), some (vR x1)] [] K)) ∧ (((mi σ a1 0) = 7 → ∃ a33, x0 = some a33 ∧ (mt σ a33).1 = 9 ∧ ∃ a35, mr σ a33 0 = some a35 ∧ (mt σ a35).1 = 7 ∧ Runs G mX6_shelfFault rX6_shelfFault [(vR (mr σ a33 0)), (vI (mi σ a1 2))] σ (bk G mX8_faultOf rX8_faultOf 0 0 167 [some (vR x0), some (vR x1)] [] K)) ∧ ((mi σ a1 0) = 8 → ∃ a37, x0 = some a37 ∧ (mt σ a37).1 = 9 ∧ ∃ a39, mr σ a37 0 = some a39 ∧ (mt σ a39).1 = 7 ∧ Runs G mX6_passFault rX6_passFault [(vR (mr σ a37 0)), (vI (mi σ a1 3))] σ (bk G mX8_faultOf rX8_faultOf 0 0 179 [some (vR x0), some (vR x1)] [] K)))))))))))) : Runs G mX8_faultOf rX8_faultOf [(vR x0), (vR x1)] σ K := Runs.of (by decide) rfl (Nat.le_of_ble_eq_true rfl) (vX8_faultOf_0 gk h)
theorem vX8_faultOf_71 {G : GG} (gk : GOK G) {σ : Mm} {K : RES → Mm → Prop} {x0 : Option Nat} {x1 : Option Nat} {s0 : Int32}
    (h : K (.inl (some (vI s0))) σ) : At G mX8_faultOf rX8_faultOf 0 0 71 [some (vR x0), some (vR x1)] [(vI s0)] σ K := by
  exact s_ireturn dX8_faultOf_71 rfl rfl (by decide) (by decide) h
theorem vX8_faultOf_87 {G : GG} (gk : GOK G) {σ : Mm} {K : RES → Mm → Prop} {x0 : Option Nat} {x1 : Option Nat} {s0 : Int32}
    (h : K (.inl (some (vI s0))) σ) : At G mX8_faultOf rX8_faultOf 0 0 87 [some (vR x0), some (vR x1)] [(vI s0)] σ K := by
  exact s_ireturn dX8_faultOf_87 rfl rfl (by decide) (by decide) h
theorem vX8_faultOf_99 {G : GG} (gk : GOK G) {σ : Mm} {K : RES → Mm → Prop} {x0 : Option Nat} {x1 : Option Nat} {s0 : Int32}
    (h : K (.inl (some (vI s0))) σ) : At G mX8_faultOf rX8_faultOf 0 0 99 [some (vR x0), some (vR x1)] [(vI s0)] σ K := by
  exact s_ireturn dX8_faultOf_99 rfl rfl (by decide) (by decide) h
theorem vX8_faultOf_119 {G : GG} (gk : GOK G) {σ : Mm} {K : RES → Mm → Prop} {x0 : Option Nat} {x1 : Option Nat} {s0 : Int32}
    (h : K (.inl (some (vI s0))) σ) : At G mX8_faultOf rX8_faultOf 0 0 119 [some (vR x0), some (vR x1)] [(vI s0)] σ K := by
  exact s_ireturn dX8_faultOf_119 rfl rfl (by decide) (by decide) h
theorem vX8_faultOf_135 {G : GG} (gk : GOK G) {σ : Mm} {K : RES → Mm → Prop} {x0 : Option Nat} {x1 : Option Nat} {s0 : Int32}
    (h : K (.inl (some (vI s0))) σ) : At G mX8_faultOf rX8_faultOf 0 0 135 [some (vR x0), some (vR x1)] [(vI s0)] σ K := by
  exact s_ireturn dX8_faultOf_135 rfl rfl (by decide) (by decide) h
theorem vX8_faultOf_155 {G : GG} (gk : GOK G) {σ : Mm} {K : RES → Mm → Prop} {x0 : Option Nat} {x1 : Option Nat} {s0 : Int32}
    (h : K (.inl (some (vI s0))) σ) : At G mX8_faultOf rX8_faultOf 0 0 155 [some (vR x0), some (vR x1)] [(vI s0)] σ K := by
  exact s_ireturn dX8_faultOf_155 rfl rfl (by decide) (by decide) h
theorem vX8_faultOf_167 {G : GG} (gk : GOK G) {σ : Mm} {K : RES → Mm → Prop} {x0 : Option Nat} {x1 : Option Nat} {s0 : Int32}
    (h : K (.inl (some (vI s0))) σ) : At G mX8_faultOf rX8_faultOf 0 0 167 [some (vR x0), some (vR x1)] [(vI s0)] σ K := by
  exact s_ireturn dX8_faultOf_167 rfl rfl (by decide) (by decide) h
theorem vX8_faultOf_179 {G : GG} (gk : GOK G) {σ : Mm} {K : RES → Mm → Prop} {x0 : Option Nat} {x1 : Option Nat} {s0 : Int32}
    (h : K (.inl (some (vI s0))) σ) : At G mX8_faultOf rX8_faultOf 0 0 179 [some (vR x0), some (vR x1)] [(vI s0)] σ K := by
  exact s_ireturn dX8_faultOf_179 rfl rfl (by decide) (by decide) h
theorem vX8_carryOut_0 {G : GG} (gk : GOK G) {σ : Mm} {K : RES → Mm → Prop} {x0 : Option Nat} {x1 : Option Nat}
    (h : ∃ a1, x1 = some a1 ∧ (mt σ a1).1 = 1 ∧ (((mi σ a1 0).toInt < 0 ∨ 8 < (mi σ a1 0).toInt → K (.inl none) σ) ∧ (((mi σ a1 0) = 0 → ∃ a5, x0 = some a5 ∧ (mt σ a5).1 = 9 ∧ ∃ a7, mr σ a5 0 = some a7 ∧ (mt σ a7).1 = 7 ∧ Runs G mX6_putJar rX6_putJar [(vR (mr σ a5 0)), (vI (mi σ a1 1)), (vI (mi σ a1 3))] σ (bk G mX8_carryOut rX8_carryOut 0 0 71 [some (vR x0), some (vR x1)] [] K)) ∧ (((mi σ a1 0) = 1 → ∃ a9, x0 = some a9 ∧ (mt σ a9).1 = 9 ∧ ∃ a11, mr σ a9 0 = some a11 ∧ (mt σ a11).1 = 7 ∧ Runs G mX6_speak rX6_speak [(vR (mr σ a9 0)), (vI (mi σ a1 1)), (vI (mi σ a1 3))] σ (bk G mX8_carryOut rX8_carryOut 0 0 90 [some (vR x0), some (vR x1)] [] K)) ∧ (((mi σ a1 0) = 2 → ∃ a13, x0 = some a13 ∧ (mt σ a13).1 = 9 ∧ ∃ a15, mr σ a13 0 = some a15 ∧ (mt σ a15).1 = 7 ∧ Runs G mX6_dropJar rX6_dropJar [(vR (mr σ a13 0)), (vI (mi σ a1 1))] σ (bk G mX8_carryOut rX8_carryOut 0 0 105 [some (vR x0), some (vR x1)] [] K)) ∧ (((mi σ a1 0) = 3 → ∃ a17, x0 = some a17 ∧ (mt σ a17).1 = 9 ∧ ∃ a19, mr σ a17 0 = some a19 ∧ (mt σ a19).1 = 7 ∧ Runs G mX6_putShelf rX6_putShelf [(vR (mr σ a17 0)), (vI (mi σ a1 2)), (vI (mi σ a1 3)), (vI (mi σ a1 4))] σ (bk G mX8_carryOut rX8_carryOut 0 0 128 [some (vR x0), some (vR x1)] [] K)) ∧ (((mi σ a1 0) = 4 → ∃ a21, x0 = some a21 ∧ (mt σ a21).1 = 9 ∧ ∃ a23, mr σ a21 0 = some a23 ∧ (mt σ a23).1 = 7 ∧ Runs G mX6_listenTo rX6_listenTo [(vR (mr σ a21 0)), (vI (mi σ a1 2)), (vI (mi σ a1 1))] σ (bk G mX8_carryOut rX8_carryOut 0 0 147 [some (vR x0), some (vR x1)] [] K)) ∧ (((mi σ a1 0) = 5 → ∃ a25, x0 = some a25 ∧ (mt σ a25).1 = 9 ∧ ∃ a27, mr σ a25 0 = some a27 ∧ (mt σ a27).1 = 7 ∧ Runs G mX6_planWarming rX6_planWarming [(vR (mr σ a25 0)), (vI (mi σ a1 2)), (vI (mi σ a1 1)), (vI (mi σ a1 3))] σ (bk G mX8_carryOut rX8_carryOut 0 0 170 [some (vR x0), some (vR x1)] [] K)) ∧ (((mi σ a1 0) = 6 → ∃ a29, x0 = some a29 ∧ (mt σ a29).1 = 9 ∧ ∃ a31, mr σ a29 0 = some a31 ∧ (mt σ a31).1 = 7 ∧ Runs G mX6_tune rX6_tune [(vR (mr σ a29 0)), (vI (mi σ a1 2)), (vI (1 : Int32))] σ (bk G mX8_carryOut rX8_carryOut 0 0 186 [some (vR x0), some (vR x1)] [] K)) ∧ (((mi σ a1 0) = 7 → ∃ a33, x0 = some a33 ∧ (mt σ a33).1 = 9 ∧ ∃ a35, mr σ a33 0 = some a35 ∧ (mt σ a35).1 = 7 ∧ Runs G mX6_tune rX6_tune [(vR (mr σ a33 0)), (vI (mi σ a1 2)), (vI (0 : Int32))] σ (bk G mX8_carryOut rX8_carryOut 0 0 201 [some (vR x0), some (vR x1)] [] K)) ∧ ((mi σ a1 0) = 8 → ∃ a37, x0 = some a37 ∧ (mt σ a37).1 = 9 ∧ ∃ a39, mr σ a37 0 = some a39 ∧ (mt σ a39).1 = 7 ∧ Runs G mX6_letPass rX6_letPass [(vR (mr σ a37 0)), (vI (mi σ a1 3))] σ (bk G mX8_carryOut rX8_carryOut 0 0 215 [some (vR x0), some (vR x1)] [] K)))))))))))) : At G mX8_carryOut rX8_carryOut 0 0 0 [some (vR x0), some (vR x1)] [] σ K := by
  refine s_aload_n (i := 1) dX8_carryOut_0 rfl rfl ?_
  obtain ⟨a1, ea1, h⟩ := h
  obtain ⟨t2, h⟩ := h
  refine t_getI gk dX8_carryOut_1 fX8_381 rfl ea1 t2 ?_
  by_cases q3 : (mi σ a1 0).toInt < 0 ∨ 8 < (mi σ a1 0).toInt
  · refine s_tableOut (tgt := 219) dX8_carryOut_4 q3 (by decide) ?_
    have h := h.1 q3
    exact s_return dX8_carryOut_219 rfl (by decide) (by decide) h
  · replace h := h.2
    by_cases w40 : (mi σ a1 0) = 0
    · refine s_tableIn (off := 52) (tgt := 56) dX8_carryOut_4 (by rw [w40]; decide) (by rw [w40]; decide) (by rw [w40]; decide) (by decide) ?_
      have h := h.1 w40
      refine s_aload_n (i := 0) dX8_carryOut_56 rfl rfl ?_
      obtain ⟨a5, ea5, h⟩ := h
      obtain ⟨t6, h⟩ := h
      refine t_getR gk dX8_carryOut_57 fX8_10 rfl ea5 t6 ?_
      refine s_aload_n (i := 1) dX8_carryOut_60 rfl rfl ?_
      refine t_getI gk dX8_carryOut_61 fX8_386 rfl ea1 t2 ?_
      refine s_aload_n (i := 1) dX8_carryOut_64 rfl rfl ?_
      refine t_getI gk dX8_carryOut_65 fX8_387 rfl ea1 t2 ?_
      obtain ⟨a7, ea7, h⟩ := h
      obtain ⟨t8, h⟩ := h
      exact t_callV (ci := 6) (as := [(vI (mi σ a1 1)), (vI (mi σ a1 3))]) (S := []) gk dX8_carryOut_68 gX8_63 (by decide) rfl w_552 w_553 ea7 t8 rfl rfl (Nat.le_of_ble_eq_true rfl) (by decide) h
    replace h := h.2
    by_cases w41 : (mi σ a1 0) = 1
    · refine s_tableIn (off := 71) (tgt := 75) dX8_carryOut_4 (by rw [w41]; decide) (by rw [w41]; decide) (by rw [w41]; decide) (by decide) ?_
      have h := h.1 w41
      refine s_aload_n (i := 0) dX8_carryOut_75 rfl rfl ?_
      obtain ⟨a9, ea9, h⟩ := h
      obtain ⟨t10, h⟩ := h
      refine t_getR gk dX8_carryOut_76 fX8_10 rfl ea9 t10 ?_
      refine s_aload_n (i := 1) dX8_carryOut_79 rfl rfl ?_
      refine t_getI gk dX8_carryOut_80 fX8_386 rfl ea1 t2 ?_
      refine s_aload_n (i := 1) dX8_carryOut_83 rfl rfl ?_
      refine t_getI gk dX8_carryOut_84 fX8_387 rfl ea1 t2 ?_
      obtain ⟨a11, ea11, h⟩ := h
      obtain ⟨t12, h⟩ := h
      exact t_callV (ci := 6) (as := [(vI (mi σ a1 1)), (vI (mi σ a1 3))]) (S := []) gk dX8_carryOut_87 gX8_76 (by decide) rfl w_732 w_733 ea11 t12 rfl rfl (Nat.le_of_ble_eq_true rfl) (by decide) h
    replace h := h.2
    by_cases w42 : (mi σ a1 0) = 2
    · refine s_tableIn (off := 90) (tgt := 94) dX8_carryOut_4 (by rw [w42]; decide) (by rw [w42]; decide) (by rw [w42]; decide) (by decide) ?_
      have h := h.1 w42
      refine s_aload_n (i := 0) dX8_carryOut_94 rfl rfl ?_
      obtain ⟨a13, ea13, h⟩ := h
      obtain ⟨t14, h⟩ := h
      refine t_getR gk dX8_carryOut_95 fX8_10 rfl ea13 t14 ?_
      refine s_aload_n (i := 1) dX8_carryOut_98 rfl rfl ?_
      refine t_getI gk dX8_carryOut_99 fX8_386 rfl ea1 t2 ?_
      obtain ⟨a15, ea15, h⟩ := h
      obtain ⟨t16, h⟩ := h
      exact t_callV (ci := 6) (as := [(vI (mi σ a1 1))]) (S := []) gk dX8_carryOut_102 gX8_70 (by decide) rfl w_1412 w_1413 ea15 t16 rfl rfl (Nat.le_of_ble_eq_true rfl) (by decide) h
    replace h := h.2
    by_cases w43 : (mi σ a1 0) = 3
    · refine s_tableIn (off := 105) (tgt := 109) dX8_carryOut_4 (by rw [w43]; decide) (by rw [w43]; decide) (by rw [w43]; decide) (by decide) ?_
      have h := h.1 w43
      refine s_aload_n (i := 0) dX8_carryOut_109 rfl rfl ?_
      obtain ⟨a17, ea17, h⟩ := h
      obtain ⟨t18, h⟩ := h
      refine t_getR gk dX8_carryOut_110 fX8_10 rfl ea17 t18 ?_
      refine s_aload_n (i := 1) dX8_carryOut_113 rfl rfl ?_
      refine t_getI gk dX8_carryOut_114 fX8_390 rfl ea1 t2 ?_
      refine s_aload_n (i := 1) dX8_carryOut_117 rfl rfl ?_
      refine t_getI gk dX8_carryOut_118 fX8_387 rfl ea1 t2 ?_
      refine s_aload_n (i := 1) dX8_carryOut_121 rfl rfl ?_
      refine t_getI gk dX8_carryOut_122 fX8_393 rfl ea1 t2 ?_
      obtain ⟨a19, ea19, h⟩ := h
      obtain ⟨t20, h⟩ := h
      exact t_callV (ci := 6) (as := [(vI (mi σ a1 2)), (vI (mi σ a1 3)), (vI (mi σ a1 4))]) (S := []) gk dX8_carryOut_125 gX8_107 (by decide) rfl w_615 w_616 ea19 t20 rfl rfl (Nat.le_of_ble_eq_true rfl) (by decide) h
    replace h := h.2
    by_cases w44 : (mi σ a1 0) = 4
    · refine s_tableIn (off := 128) (tgt := 132) dX8_carryOut_4 (by rw [w44]; decide) (by rw [w44]; decide) (by rw [w44]; decide) (by decide) ?_
      have h := h.1 w44
      refine s_aload_n (i := 0) dX8_carryOut_132 rfl rfl ?_
      obtain ⟨a21, ea21, h⟩ := h
      obtain ⟨t22, h⟩ := h
      refine t_getR gk dX8_carryOut_133 fX8_10 rfl ea21 t22 ?_
      refine s_aload_n (i := 1) dX8_carryOut_136 rfl rfl ?_
      refine t_getI gk dX8_carryOut_137 fX8_390 rfl ea1 t2 ?_
      refine s_aload_n (i := 1) dX8_carryOut_140 rfl rfl ?_
      refine t_getI gk dX8_carryOut_141 fX8_386 rfl ea1 t2 ?_
      obtain ⟨a23, ea23, h⟩ := h
      obtain ⟨t24, h⟩ := h
      exact t_callV (ci := 6) (as := [(vI (mi σ a1 2)), (vI (mi σ a1 1))]) (S := []) gk dX8_carryOut_144 gX8_194 (by decide) rfl w_664 w_665 ea23 t24 rfl rfl (Nat.le_of_ble_eq_true rfl) (by decide) h
    replace h := h.2
    by_cases w45 : (mi σ a1 0) = 5
    · refine s_tableIn (off := 147) (tgt := 151) dX8_carryOut_4 (by rw [w45]; decide) (by rw [w45]; decide) (by rw [w45]; decide) (by decide) ?_
      have h := h.1 w45
      refine s_aload_n (i := 0) dX8_carryOut_151 rfl rfl ?_
      obtain ⟨a25, ea25, h⟩ := h
      obtain ⟨t26, h⟩ := h
      refine t_getR gk dX8_carryOut_152 fX8_10 rfl ea25 t26 ?_
      refine s_aload_n (i := 1) dX8_carryOut_155 rfl rfl ?_
      refine t_getI gk dX8_carryOut_156 fX8_390 rfl ea1 t2 ?_
      refine s_aload_n (i := 1) dX8_carryOut_159 rfl rfl ?_
      refine t_getI gk dX8_carryOut_160 fX8_386 rfl ea1 t2 ?_
      refine s_aload_n (i := 1) dX8_carryOut_163 rfl rfl ?_
      refine t_getI gk dX8_carryOut_164 fX8_387 rfl ea1 t2 ?_
      obtain ⟨a27, ea27, h⟩ := h
      obtain ⟨t28, h⟩ := h
      exact t_callV (ci := 6) (as := [(vI (mi σ a1 2)), (vI (mi σ a1 1)), (vI (mi σ a1 3))]) (S := []) gk dX8_carryOut_167 gX8_205 (by decide) rfl w_756 w_757 ea27 t28 rfl rfl (Nat.le_of_ble_eq_true rfl) (by decide) h
    replace h := h.2
    by_cases w46 : (mi σ a1 0) = 6
    · refine s_tableIn (off := 170) (tgt := 174) dX8_carryOut_4 (by rw [w46]; decide) (by rw [w46]; decide) (by rw [w46]; decide) (by decide) ?_
      have h := h.1 w46
      refine s_aload_n (i := 0) dX8_carryOut_174 rfl rfl ?_
      obtain ⟨a29, ea29, h⟩ := h
      obtain ⟨t30, h⟩ := h
      refine t_getR gk dX8_carryOut_175 fX8_10 rfl ea29 t30 ?_
      refine s_aload_n (i := 1) dX8_carryOut_178 rfl rfl ?_
      refine t_getI gk dX8_carryOut_179 fX8_390 rfl ea1 t2 ?_
      refine s_iconst (v := 1) dX8_carryOut_182 (by decide) ?_
      obtain ⟨a31, ea31, h⟩ := h
      obtain ⟨t32, h⟩ := h
      exact t_callV (ci := 6) (as := [(vI (mi σ a1 2)), (vI (1 : Int32))]) (S := []) gk dX8_carryOut_183 gX8_397 (by decide) rfl w_1539 w_1540 ea31 t32 rfl rfl (Nat.le_of_ble_eq_true rfl) (by decide) h
    replace h := h.2
    by_cases w47 : (mi σ a1 0) = 7
    · refine s_tableIn (off := 185) (tgt := 189) dX8_carryOut_4 (by rw [w47]; decide) (by rw [w47]; decide) (by rw [w47]; decide) (by decide) ?_
      have h := h.1 w47
      refine s_aload_n (i := 0) dX8_carryOut_189 rfl rfl ?_
      obtain ⟨a33, ea33, h⟩ := h
      obtain ⟨t34, h⟩ := h
      refine t_getR gk dX8_carryOut_190 fX8_10 rfl ea33 t34 ?_
      refine s_aload_n (i := 1) dX8_carryOut_193 rfl rfl ?_
      refine t_getI gk dX8_carryOut_194 fX8_390 rfl ea1 t2 ?_
      refine s_iconst (v := 0) dX8_carryOut_197 (by decide) ?_
      obtain ⟨a35, ea35, h⟩ := h
      obtain ⟨t36, h⟩ := h
      exact t_callV (ci := 6) (as := [(vI (mi σ a1 2)), (vI (0 : Int32))]) (S := []) gk dX8_carryOut_198 gX8_397 (by decide) rfl w_1539 w_1540 ea35 t36 rfl rfl (Nat.le_of_ble_eq_true rfl) (by decide) h
    replace h := h.2
    by_cases w48 : (mi σ a1 0) = 8
    · refine s_tableIn (off := 200) (tgt := 204) dX8_carryOut_4 (by rw [w48]; decide) (by rw [w48]; decide) (by rw [w48]; decide) (by decide) ?_
      have h := h w48
      refine s_aload_n (i := 0) dX8_carryOut_204 rfl rfl ?_
      obtain ⟨a37, ea37, h⟩ := h
      obtain ⟨t38, h⟩ := h
      refine t_getR gk dX8_carryOut_205 fX8_10 rfl ea37 t38 ?_
      refine s_aload_n (i := 1) dX8_carryOut_208 rfl rfl ?_
      refine t_getI gk dX8_carryOut_209 fX8_387 rfl ea1 t2 ?_
      obtain ⟨a39, ea39, h⟩ := h
      obtain ⟨t40, h⟩ := h
      exact t_callV (ci := 6) (as := [(vI (mi σ a1 3))]) (S := []) gk dX8_carryOut_212 gX8_222 (by decide) rfl w_779 w_780 ea39 t40 rfl rfl (Nat.le_of_ble_eq_true rfl) (by decide) h
    exact (tb_cover (x := (mi σ a1 0)) (lo := 0) (n := 9) (fun k hk => by match k, hk with | 0, _ => exact w40 | 1, _ => exact w41 | 2, _ => exact w42 | 3, _ => exact w43 | 4, _ => exact w44 | 5, _ => exact w45 | 6, _ => exact w46 | 7, _ => exact w47 | 8, _ => exact w48 | k + 9, hk => omega) (by decide) q3).elim
theorem eX8_carryOut {G : GG} (gk : GOK G) {σ : Mm} {K : RES → Mm → Prop} {x0 : Option Nat} {x1 : Option Nat}
    (h : ∃ a1, x1 = some a1 ∧ (mt σ a1).1 = 1 ∧ (((mi σ a1 0).toInt < 0 ∨ 8 < (mi σ a1 0).toInt → K (.inl none) σ) ∧ (((mi σ a1 0) = 0 → ∃ a5, x0 = some a5 ∧ (mt σ a5).1 = 9 ∧ ∃ a7, mr σ a5 0 = some a7 ∧ (mt σ a7).1 = 7 ∧ Runs G mX6_putJar rX6_putJar [(vR (mr σ a5 0)), (vI (mi σ a1 1)), (vI (mi σ a1 3))] σ (bk G mX8_carryOut rX8_carryOut 0 0 71 [some (vR x0), some (vR x1)] [] K)) ∧ (((mi σ a1 0) = 1 → ∃ a9, x0 = some a9 ∧ (mt σ a9).1 = 9 ∧ ∃ a11, mr σ a9 0 = some a11 ∧ (mt σ a11).1 = 7 ∧ Runs G mX6_speak rX6_speak [(vR (mr σ a9 0)), (vI (mi σ a1 1)), (vI (mi σ a1 3))] σ (bk G mX8_carryOut rX8_carryOut 0 0 90 [some (vR x0), some (vR x1)] [] K)) ∧ (((mi σ a1 0) = 2 → ∃ a13, x0 = some a13 ∧ (mt σ a13).1 = 9 ∧ ∃ a15, mr σ a13 0 = some a15 ∧ (mt σ a15).1 = 7 ∧ Runs G mX6_dropJar rX6_dropJar [(vR (mr σ a13 0)), (vI (mi σ a1 1))] σ (bk G mX8_carryOut rX8_carryOut 0 0 105 [some (vR x0), some (vR x1)] [] K)) ∧ (((mi σ a1 0) = 3 → ∃ a17, x0 = some a17 ∧ (mt σ a17).1 = 9 ∧ ∃ a19, mr σ a17 0 = some a19 ∧ (mt σ a19).1 = 7 ∧ Runs G mX6_putShelf rX6_putShelf [(vR (mr σ a17 0)), (vI (mi σ a1 2)), (vI (mi σ a1 3)), (vI (mi σ a1 4))] σ (bk G mX8_carryOut rX8_carryOut 0 0 128 [some (vR x0), some (vR x1)] [] K)) ∧ (((mi σ a1 0) = 4 → ∃ a21, x0 = some a21 ∧ (mt σ a21).1 = 9 ∧ ∃ a23, mr σ a21 0 = some a23 ∧ (mt σ a23).1 = 7 ∧ Runs G mX6_listenTo rX6_listenTo [(vR (mr σ a21 0)), (vI (mi σ a1 2)), (vI (mi σ a1 1))] σ (bk G mX8_carryOut rX8_carryOut 0 0 147 [some (vR x0), some (vR x1)] [] K)) ∧ (((mi σ a1 0) = 5 → ∃ a25, x0 = some a25 ∧ (mt σ a25).1 = 9 ∧ ∃ a27, mr σ a25 0 = some a27 ∧ (mt σ a27).1 = 7 ∧ Runs G mX6_planWarming rX6_planWarming [(vR (mr σ a25 0)), (vI (mi σ a1 2)), (vI (mi σ a1 1)), (vI (mi σ a1 3))] σ (bk G mX8_carryOut rX8_carryOut 0 0 170 [some (vR x0), some (vR x1)] [] K)) ∧ (((mi σ a1 0) = 6 → ∃ a29, x0 = some a29 ∧ (mt σ a29).1 = 9 ∧ ∃ a31, mr σ a29 0 = some a31 ∧ (mt σ a31).1 = 7 ∧ Runs G mX6_tune rX6_tune [(vR (mr σ a29 0)), (vI (mi σ a1 2)), (vI (1 : Int32))] σ (bk G mX8_carryOut rX8_carryOut 0 0 186 [some (vR x0), some (vR x1)] [] K)) ∧ (((mi σ a1 0) = 7 → ∃ a33, x0 = some a33 ∧ (mt σ a33).1 = 9 ∧ ∃ a35, mr σ a33 0 = some a35 ∧ (mt σ a35).1 = 7 ∧ Runs G mX6_tune rX6_tune [(vR (mr σ a33 0)), (vI (mi σ a1 2)), (vI (0 : Int32))] σ (bk G mX8_carryOut rX8_carryOut 0 0 201 [some (vR x0), some (vR x1)] [] K)) ∧ ((mi σ a1 0) = 8 → ∃ a37, x0 = some a37 ∧ (mt σ a37).1 = 9 ∧ ∃ a39, mr σ a37 0 = some a39 ∧ (mt σ a39).1 = 7 ∧ Runs G mX6_letPass rX6_letPass [(vR (mr σ a37 0)), (vI (mi σ a1 3))] σ (bk G mX8_carryOut rX8_carryOut 0 0 215 [some (vR x0), some (vR x1)] [] K)))))))))))) : Runs G mX8_carryOut rX8_carryOut [(vR x0), (vR x1)] σ K := Runs.of (by decide) rfl (Nat.le_of_ble_eq_true rfl) (vX8_carryOut_0 gk h)
theorem vX8_carryOut_71 {G : GG} (gk : GOK G) {σ : Mm} {K : RES → Mm → Prop} {x0 : Option Nat} {x1 : Option Nat} {s0 : Int32}
    (h : K (.inl none) σ) : At G mX8_carryOut rX8_carryOut 0 0 71 [some (vR x0), some (vR x1)] [(vI s0)] σ K := by
  refine s_pop dX8_carryOut_71 rfl ?_
  refine s_goto (tgt := 219) dX8_carryOut_72 (by decide) ?_
  exact s_return dX8_carryOut_219 rfl (by decide) (by decide) h
theorem vX8_carryOut_90 {G : GG} (gk : GOK G) {σ : Mm} {K : RES → Mm → Prop} {x0 : Option Nat} {x1 : Option Nat} {s0 : Int32}
    (h : K (.inl none) σ) : At G mX8_carryOut rX8_carryOut 0 0 90 [some (vR x0), some (vR x1)] [(vI s0)] σ K := by
  refine s_pop dX8_carryOut_90 rfl ?_
  refine s_goto (tgt := 219) dX8_carryOut_91 (by decide) ?_
  exact s_return dX8_carryOut_219 rfl (by decide) (by decide) h
theorem vX8_carryOut_105 {G : GG} (gk : GOK G) {σ : Mm} {K : RES → Mm → Prop} {x0 : Option Nat} {x1 : Option Nat} {s0 : Int32}
    (h : K (.inl none) σ) : At G mX8_carryOut rX8_carryOut 0 0 105 [some (vR x0), some (vR x1)] [(vI s0)] σ K := by
  refine s_pop dX8_carryOut_105 rfl ?_
  refine s_goto (tgt := 219) dX8_carryOut_106 (by decide) ?_
  exact s_return dX8_carryOut_219 rfl (by decide) (by decide) h
theorem vX8_carryOut_128 {G : GG} (gk : GOK G) {σ : Mm} {K : RES → Mm → Prop} {x0 : Option Nat} {x1 : Option Nat} {s0 : Int32}
    (h : K (.inl none) σ) : At G mX8_carryOut rX8_carryOut 0 0 128 [some (vR x0), some (vR x1)] [(vI s0)] σ K := by
  refine s_pop dX8_carryOut_128 rfl ?_
  refine s_goto (tgt := 219) dX8_carryOut_129 (by decide) ?_
  exact s_return dX8_carryOut_219 rfl (by decide) (by decide) h
theorem vX8_carryOut_147 {G : GG} (gk : GOK G) {σ : Mm} {K : RES → Mm → Prop} {x0 : Option Nat} {x1 : Option Nat} {s0 : Int32}
    (h : K (.inl none) σ) : At G mX8_carryOut rX8_carryOut 0 0 147 [some (vR x0), some (vR x1)] [(vI s0)] σ K := by
  refine s_pop dX8_carryOut_147 rfl ?_
  refine s_goto (tgt := 219) dX8_carryOut_148 (by decide) ?_
  exact s_return dX8_carryOut_219 rfl (by decide) (by decide) h
theorem vX8_carryOut_170 {G : GG} (gk : GOK G) {σ : Mm} {K : RES → Mm → Prop} {x0 : Option Nat} {x1 : Option Nat} {s0 : Int32}
    (h : K (.inl none) σ) : At G mX8_carryOut rX8_carryOut 0 0 170 [some (vR x0), some (vR x1)] [(vI s0)] σ K := by
  refine s_pop dX8_carryOut_170 rfl ?_
  refine s_goto (tgt := 219) dX8_carryOut_171 (by decide) ?_
  exact s_return dX8_carryOut_219 rfl (by decide) (by decide) h
theorem vX8_carryOut_186 {G : GG} (gk : GOK G) {σ : Mm} {K : RES → Mm → Prop} {x0 : Option Nat} {x1 : Option Nat}
    (h : K (.inl none) σ) : At G mX8_carryOut rX8_carryOut 0 0 186 [some (vR x0), some (vR x1)] [] σ K := by
  refine s_goto (tgt := 219) dX8_carryOut_186 (by decide) ?_
  exact s_return dX8_carryOut_219 rfl (by decide) (by decide) h
theorem vX8_carryOut_201 {G : GG} (gk : GOK G) {σ : Mm} {K : RES → Mm → Prop} {x0 : Option Nat} {x1 : Option Nat}
    (h : K (.inl none) σ) : At G mX8_carryOut rX8_carryOut 0 0 201 [some (vR x0), some (vR x1)] [] σ K := by
  refine s_goto (tgt := 219) dX8_carryOut_201 (by decide) ?_
  exact s_return dX8_carryOut_219 rfl (by decide) (by decide) h
theorem vX8_carryOut_215 {G : GG} (gk : GOK G) {σ : Mm} {K : RES → Mm → Prop} {x0 : Option Nat} {x1 : Option Nat} {s0 : Int32}
    (h : K (.inl none) σ) : At G mX8_carryOut rX8_carryOut 0 0 215 [some (vR x0), some (vR x1)] [(vI s0)] σ K := by
  refine s_pop dX8_carryOut_215 rfl ?_
  refine s_goto (tgt := 219) dX8_carryOut_216 (by decide) ?_
  exact s_return dX8_carryOut_219 rfl (by decide) (by decide) h
