/-! ===== the law, region by region ===== -/
theorem vL_undone_0 {G : GG} (gk : GOK G) {uc us : Nat} {σ : Mm} {K : RES → Mm → Prop} {x0 : Option Nat} {x1 : Option Nat}
    (h : uc + 1 ≤ 12000 ∧ us + 9 ≤ 80000 ∧ ∀ σ3, σ3 = nw σ (51, 9) → At G mL_undone rL_undone (uc + 1) (us + 9) 10 [some (vR x0), some (vR x1), some (vR (some (mz σ))), some (vI (0 : Int32)), some (vI (0 : Int32)), none, none, none, none] [] σ3 K) : At G mL_undone rL_undone uc us 0 [some (vR x0), some (vR x1), none, none, none, none, none, none, none] [] σ K := by
  refine s_bipush (v := 9) dL_undone_0 (by decide) ?_
  obtain ⟨u1, u2, h⟩ := h
  refine s_newa (j := 1) (N := 9) gk dL_undone_2 (by decide) (by decide) rfl w_1556 (by decide) (by decide) (by decide) u1 u2 ?_
  replace h := h _ rfl
  generalize nw σ (51, 9) = σ3 at h ⊢
  refine s_astore_n (i := 2) (L' := [some (vR x0), some (vR x1), some (vR (some (mz σ))), none, none, none, none, none, none]) dL_undone_4 rfl rfl (by decide) rfl ?_
  refine s_iconst (v := 0) dL_undone_5 (by decide) ?_
  refine s_istore_n (i := 3) (L' := [some (vR x0), some (vR x1), some (vR (some (mz σ))), some (vI (0 : Int32)), none, none, none, none, none]) dL_undone_6 rfl rfl (by decide) rfl ?_
  refine s_iconst (v := 0) dL_undone_7 (by decide) ?_
  refine s_istore (L' := [some (vR x0), some (vR x1), some (vR (some (mz σ))), some (vI (0 : Int32)), some (vI (0 : Int32)), none, none, none, none]) dL_undone_8 rfl (by decide) rfl ?_
  exact h
theorem eL_undone {G : GG} (gk : GOK G) {σ : Mm} {K : RES → Mm → Prop} {x0 : Option Nat} {x1 : Option Nat}
    (h : 0 + 1 ≤ 12000 ∧ 0 + 9 ≤ 80000 ∧ ∀ σ3, σ3 = nw σ (51, 9) → At G mL_undone rL_undone (0 + 1) (0 + 9) 10 [some (vR x0), some (vR x1), some (vR (some (mz σ))), some (vI (0 : Int32)), some (vI (0 : Int32)), none, none, none, none] [] σ3 K) : Runs G mL_undone rL_undone [(vR x0), (vR x1)] σ K := Runs.of (by decide) rfl (Nat.le_of_ble_eq_true rfl) (vL_undone_0 gk h)
theorem vL_undone_10 {G : GG} (gk : GOK G) {uc us : Nat} {σ : Mm} {K : RES → Mm → Prop} {x0 : Option Nat} {x1 : Option Nat} {x2 : Option Nat} {x3 : Int32} {x4 : Int32}
    (h : (((7 : Int32) ≤ x4 → At G mL_undone rL_undone uc us 413 [some (vR x0), some (vR x1), some (vR x2), some (vI x3), some (vI (x3 - (1 : Int32))), none, none, none, none] [] σ K) ∧ (¬ (7 : Int32) ≤ x4 → uc + 0 ≤ 12000 ∧ us + 0 ≤ 80000 ∧ Runs G mL_cell rL_cell [(vR x0), (vI ((25 : Int32) + x4))] σ (bk G mL_undone rL_undone (uc + 0) (us + 0) 26 [some (vR x0), some (vR x1), some (vR x2), some (vI x3), some (vI x4), none, none, none, none] [] K)))) : At G mL_undone rL_undone uc us 10 [some (vR x0), some (vR x1), some (vR x2), some (vI x3), some (vI x4), none, none, none, none] [] σ K := by
  refine s_iload dL_undone_10 rfl ?_
  refine s_bipush (v := 7) dL_undone_12 (by decide) ?_
  refine s_icmp_ge (tgt := 408) dL_undone_14 (by decide) (fun q1 => ?_) (fun q1 => ?_)
  · have h := h.1 q1
    refine s_iload_n (i := 3) dL_undone_408 rfl rfl ?_
    refine s_iconst (v := 1) dL_undone_409 (by decide) ?_
    refine s_isub dL_undone_410 ?_
    refine s_istore (L' := [some (vR x0), some (vR x1), some (vR x2), some (vI x3), some (vI (x3 - (1 : Int32))), none, none, none, none]) dL_undone_411 rfl (by decide) rfl ?_
    exact h
  · have h := h.2 q1
    refine s_aload_n (i := 0) dL_undone_17 rfl rfl ?_
    refine s_bipush (v := 25) dL_undone_18 (by decide) ?_
    refine s_iload dL_undone_20 rfl ?_
    refine s_iadd dL_undone_22 ?_
    obtain ⟨u2, u3, h⟩ := h
    exact s_callS (as := [(vR x0), (vI ((25 : Int32) + x4))]) (S := []) gk dL_undone_23 gL_166 w_362 rfl rfl (Nat.le_of_ble_eq_true rfl) ⟨by decide, by decide, u2, u3⟩ h
theorem vL_undone_26 {G : GG} (gk : GOK G) {uc us : Nat} {σ : Mm} {K : RES → Mm → Prop} {x0 : Option Nat} {x1 : Option Nat} {x2 : Option Nat} {x3 : Int32} {x4 : Int32} {s0 : Int32}
    (h : uc + 500 ≤ 12000 ∧ us + 3000 ≤ 80000 ∧ Runs G mL_sum rL_sum [(vR x1)] σ (bk G mL_undone rL_undone (uc + 500) (us + 3000) 53 [some (vR x0), some (vR x1), some (vR x2), some (vI x3), some (vI x4), some (vI (us_ s0 (1 : Int32))), some (vI (us_ (us_ s0 (1 : Int32)) (4 : Int32))), some (vI (i2c ((97 : Int32) + ((us_ (us_ s0 (1 : Int32)) (4 : Int32)) - (us_ (us_ s0 (1 : Int32)) (4 : Int32)) / (18 : Int32) * (18 : Int32))))), none] [(vI x3), (vR x2)] K)) : At G mL_undone rL_undone uc us 26 [some (vR x0), some (vR x1), some (vR x2), some (vI x3), some (vI x4), none, none, none, none] [(vI s0)] σ K := by
  refine s_iconst (v := 1) dL_undone_26 (by decide) ?_
  refine s_iushr dL_undone_27 ?_
  refine s_istore (L' := [some (vR x0), some (vR x1), some (vR x2), some (vI x3), some (vI x4), some (vI (us_ s0 (1 : Int32))), none, none, none]) dL_undone_28 rfl (by decide) rfl ?_
  refine s_iload dL_undone_30 rfl ?_
  refine s_iconst (v := 4) dL_undone_32 (by decide) ?_
  refine s_iushr dL_undone_33 ?_
  refine s_istore (L' := [some (vR x0), some (vR x1), some (vR x2), some (vI x3), some (vI x4), some (vI (us_ s0 (1 : Int32))), some (vI (us_ (us_ s0 (1 : Int32)) (4 : Int32))), none, none]) dL_undone_34 rfl (by decide) rfl ?_
  refine s_bipush (v := 97) dL_undone_36 (by decide) ?_
  refine s_iload dL_undone_38 rfl ?_
  refine s_bipush (v := 18) dL_undone_40 (by decide) ?_
  refine s_irem dL_undone_42 (by decide) ?_
  refine s_iadd dL_undone_43 ?_
  refine s_i2c (v := i2c ((97 : Int32) + ((us_ (us_ s0 (1 : Int32)) (4 : Int32)) - (us_ (us_ s0 (1 : Int32)) (4 : Int32)) / (18 : Int32) * (18 : Int32)))) dL_undone_44 rfl ?_
  refine s_istore (L' := [some (vR x0), some (vR x1), some (vR x2), some (vI x3), some (vI x4), some (vI (us_ s0 (1 : Int32))), some (vI (us_ (us_ s0 (1 : Int32)) (4 : Int32))), some (vI (i2c ((97 : Int32) + ((us_ (us_ s0 (1 : Int32)) (4 : Int32)) - (us_ (us_ s0 (1 : Int32)) (4 : Int32)) / (18 : Int32) * (18 : Int32))))), none]) dL_undone_45 rfl (by decide) rfl ?_
  refine s_aload_n (i := 2) dL_undone_47 rfl rfl ?_
  refine s_iload_n (i := 3) dL_undone_48 rfl rfl ?_
  refine s_aload_n (i := 1) dL_undone_49 rfl rfl ?_
  obtain ⟨u1, u2, h⟩ := h
  exact s_callS (as := [(vR x1)]) (S := [(vI x3), (vR x2)]) gk dL_undone_50 gL_350 w_1393 rfl rfl (Nat.le_of_ble_eq_true rfl) ⟨by decide, by decide, u1, u2⟩ h
theorem vL_undone_53 {G : GG} (gk : GOK G) (sok : SOK G) {uc us : Nat} {σ : Mm} {K : RES → Mm → Prop} {x0 : Option Nat} {x1 : Option Nat} {x2 : Option Nat} {x3 : Int32} {x4 : Int32} {x5 : Int32} {x6 : Int32} {x7 : Int32} {s0 : Int64} {s1 : Int32} {s2 : Option Nat}
    (h : ∃ a1, s2 = some a1 ∧ ∃ n3, mt σ a1 = (51, n3) ∧ vp_in s1 n3 ∧ ∀ σ5, σ5 = sl σ a1 s1.toNatClampNeg s0 → (((x5 - x5 / (10 : Int32) * (10 : Int32)).toInt < 0 ∨ 8 < (x5 - x5 / (10 : Int32) * (10 : Int32)).toInt → uc + 1 ≤ 12000 ∧ us + 4 ≤ 80000 ∧ ∀ σ10, σ10 = nw σ5 (11, 0) → (uc + 1) + 1 ≤ 12000 ∧ (us + 4) + 16 ≤ 80000 ∧ ∃ K11 : RES → Mm → Prop, Runs G mJ4_init_da8c8 rJ4_init_da8c8 [(vR (some (mz σ5)))] σ10 K11 ∧ (∀ E t, ¬ K11 (.inr E) t) ∧ (∀ v t, K11 (.inl v) t → At G mL_undone rL_undone ((uc + 1) + 1) ((us + 4) + 16) 303 [some (vR x0), some (vR x1), some (vR x2), some (vI x3), some (vI x4), some (vI x5), some (vI x6), some (vI x7), none] (v.toList ++ [(vR (some (mz σ5))), (vR x1)]) t K)) ∧ (((x5 - x5 / (10 : Int32) * (10 : Int32)) = 0 → uc + 1 ≤ 12000 ∧ us + 6 ≤ 80000 ∧ RunsH G mL_addJar hL_addJar rL_addJar [(vR x1), (vI x7), (vI ((us_ x6 (5 : Int32)) - (us_ x6 (5 : Int32)) / (102 : Int32) * (102 : Int32)))] σ5 (bk G mL_undone rL_undone (uc + 1) (us + 6) 121 [some (vR x0), some (vR x1), some (vR x2), some (vI x3), some (vI x4), some (vI x5), some (vI x6), some (vI x7), none] [] K)) ∧ (((x5 - x5 / (10 : Int32) * (10 : Int32)) = 1 → uc + 1 ≤ 12000 ∧ us + 6 ≤ 80000 ∧ RunsH G mL_removeJar hL_removeJar rL_removeJar [(vR x1), (vI x7)] σ5 (bk G mL_undone rL_undone (uc + 1) (us + 6) 132 [some (vR x0), some (vR x1), some (vR x2), some (vI x3), some (vI x4), some (vI x5), some (vI x6), some (vI x7), none] [] K)) ∧ (((x5 - x5 / (10 : Int32) * (10 : Int32)) = 2 → uc + 1 ≤ 12000 ∧ us + 6 ≤ 80000 ∧ RunsH G mL_say hL_say rL_say [(vR x1), (vI x7), (vI ((us_ x6 (5 : Int32)) - (us_ x6 (5 : Int32)) / (102 : Int32) * (102 : Int32)))] σ5 (bk G mL_undone rL_undone (uc + 1) (us + 6) 150 [some (vR x0), some (vR x1), some (vR x2), some (vI x3), some (vI x4), some (vI x5), some (vI x6), some (vI x7), none] [] K)) ∧ (((x5 - x5 / (10 : Int32) * (10 : Int32)) = 3 → ∀ q20 : Nat, SCT G q20 [114, 111, 108, 120] → oO G "java/lang/String" q20 ∧ uc + 0 ≤ 12000 ∧ us + 0 ≤ 80000 ∧ Runs G mJ0_charAt_5068e rJ0_charAt_5068e [(vR (some q20)), (vI ((us_ x6 (8 : Int32)) - (us_ x6 (8 : Int32)) / (4 : Int32) * (4 : Int32)))] σ5 (bk G mL_undone rL_undone (uc + 0) (us + 0) 181 [some (vR x0), some (vR x1), some (vR x2), some (vI x3), some (vI x4), some (vI x5), some (vI x6), some (vI x7), none] [(vI ((us_ x6 (3 : Int32)) - (us_ x6 (3 : Int32)) / (32 : Int32) * (32 : Int32))), (vI (x6 - x6 / (8 : Int32) * (8 : Int32))), (vR x1)] K)) ∧ (((x5 - x5 / (10 : Int32) * (10 : Int32)) = 4 → (((10 : Int32) ≤ (x5 - x5 / (20 : Int32) * (20 : Int32)) → uc + 1 ≤ 12000 ∧ us + 6 ≤ 80000 ∧ RunsH G mL_listen hL_listen rL_listen [(vR x1), (vI (x6 - x6 / (5 : Int32) * (5 : Int32))), (vI (0 : Int32))] σ5 (bk G mL_undone rL_undone (uc + 1) (us + 6) 212 [some (vR x0), some (vR x1), some (vR x2), some (vI x3), some (vI x4), some (vI x5), some (vI x6), some (vI x7), none] [] K)) ∧ (¬ (10 : Int32) ≤ (x5 - x5 / (20 : Int32) * (20 : Int32)) → uc + 1 ≤ 12000 ∧ us + 6 ≤ 80000 ∧ RunsH G mL_listen hL_listen rL_listen [(vR x1), (vI (x6 - x6 / (5 : Int32) * (5 : Int32))), (vI (1 : Int32))] σ5 (bk G mL_undone rL_undone (uc + 1) (us + 6) 212 [some (vR x0), some (vR x1), some (vR x2), some (vI x3), some (vI x4), some (vI x5), some (vI x6), some (vI x7), none] [] K)))) ∧ (((x5 - x5 / (10 : Int32) * (10 : Int32)) = 5 → uc + 1 ≤ 12000 ∧ us + 6 ≤ 80000 ∧ RunsH G mL_hear hL_hear rL_hear [(vR x1), (vI ((us_ x6 (5 : Int32)) - (us_ x6 (5 : Int32)) / (5 : Int32) * (5 : Int32))), (vI x7)] σ5 (bk G mL_undone rL_undone (uc + 1) (us + 6) 229 [some (vR x0), some (vR x1), some (vR x2), some (vI x3), some (vI x4), some (vI x5), some (vI x6), some (vI x7), none] [] K)) ∧ (((x5 - x5 / (10 : Int32) * (10 : Int32)) = 6 → uc + 1 ≤ 12000 ∧ us + 6 ≤ 80000 ∧ RunsH G mL_hear hL_hear rL_hear [(vR x1), (vI ((us_ x6 (5 : Int32)) - (us_ x6 (5 : Int32)) / (5 : Int32) * (5 : Int32))), (vI x7)] σ5 (bk G mL_undone rL_undone (uc + 1) (us + 6) 229 [some (vR x0), some (vR x1), some (vR x2), some (vI x3), some (vI x4), some (vI x5), some (vI x6), some (vI x7), none] [] K)) ∧ (((x5 - x5 / (10 : Int32) * (10 : Int32)) = 7 → uc + 1 ≤ 12000 ∧ us + 6 ≤ 80000 ∧ RunsH G mL_warm hL_warm rL_warm [(vR x1), (vI ((us_ x6 (5 : Int32)) - (us_ x6 (5 : Int32)) / (5 : Int32) * (5 : Int32))), (vI x7), (vI ((us_ x6 (8 : Int32)) - (us_ x6 (8 : Int32)) / (53 : Int32) * (53 : Int32)))] σ5 (bk G mL_undone rL_undone (uc + 1) (us + 6) 254 [some (vR x0), some (vR x1), some (vR x2), some (vI x3), some (vI x4), some (vI x5), some (vI x6), some (vI x7), none] [] K)) ∧ ((x5 - x5 / (10 : Int32) * (10 : Int32)) = 8 → ((¬ (x6 - x6 / (3 : Int32) * (3 : Int32)) = 0 → uc + 1 ≤ 12000 ∧ us + 6 ≤ 80000 ∧ RunsH G mL_pass hL_pass rL_pass [(vR x1), (vI ((us_ x6 (2 : Int32)) - (us_ x6 (2 : Int32)) / (62 : Int32) * (62 : Int32)))] σ5 (bk G mL_undone rL_undone (uc + 1) (us + 6) 290 [some (vR x0), some (vR x1), some (vR x2), some (vI x3), some (vI x4), some (vI x5), some (vI x6), some (vI x7), none] [] K)) ∧ ((x6 - x6 / (3 : Int32) * (3 : Int32)) = 0 → uc + 1 ≤ 12000 ∧ us + 6 ≤ 80000 ∧ RunsH G mL_cancel hL_cancel rL_cancel [(vR x1), (vI ((us_ x6 (2 : Int32)) - (us_ x6 (2 : Int32)) / (4 : Int32) * (4 : Int32)))] σ5 (bk G mL_undone rL_undone (uc + 1) (us + 6) 276 [some (vR x0), some (vR x1), some (vR x2), some (vI x3), some (vI x4), some (vI x5), some (vI x6), some (vI x7), none] [] K)))))))))))))) : At G mL_undone rL_undone uc us 53 [some (vR x0), some (vR x1), some (vR x2), some (vI x3), some (vI x4), some (vI x5), some (vI x6), some (vI x7), none] [(vL s0), (vI s1), (vR s2)] σ K := by
  obtain ⟨a1, ea1, h⟩ := h
  obtain ⟨n3, t2, h⟩ := h
  obtain ⟨c4, h⟩ := h
  refine t_last gk dL_undone_53 ea1 t2 c4 ?_
  replace h := h _ rfl
  generalize sl σ a1 s1.toNatClampNeg s0 = σ5 at h ⊢
  refine s_iload dL_undone_54 rfl ?_
  refine s_bipush (v := 10) dL_undone_56 (by decide) ?_
  refine s_irem dL_undone_58 (by decide) ?_
  by_cases q6 : (x5 - x5 / (10 : Int32) * (10 : Int32)).toInt < 0 ∨ 8 < (x5 - x5 / (10 : Int32) * (10 : Int32)).toInt
  · refine s_tableOut (tgt := 295) dL_undone_59 q6 (by decide) ?_
    have h := h.1 q6
    refine s_aload_n (i := 1) dL_undone_295 rfl rfl ?_
    obtain ⟨u8, u9, h⟩ := h
    refine t_new gk dL_undone_296 nL_305 u8 u9 (fun σ10 eσ10 => ?_)
    replace h := h σ10 eσ10
    refine s_dup dL_undone_299 rfl ?_
    obtain ⟨u12, u13, h⟩ := h
    obtain ⟨K11, h1, h2, h3⟩ := h
    exact s_callI (rmY := rJ4_init_da8c8) (a := mz σ5) (as := []) (S := [(vR (some (mz σ5))), (vR x1)]) gk dL_undone_300 gL_307 w_306 rfl rfl rfl rfl (Nat.le_of_ble_eq_true rfl) ⟨by decide, by decide, u12, u13⟩ h1 h2 h3
  · replace h := h.2
    by_cases w70 : (x5 - x5 / (10 : Int32) * (10 : Int32)) = 0
    · refine s_tableIn (off := 49) (tgt := 108) dL_undone_59 (by rw [w70]; decide) (by rw [w70]; decide) (by rw [w70]; decide) (by decide) ?_
      have h := h.1 w70
      refine s_aload_n (i := 1) dL_undone_108 rfl rfl ?_
      refine s_iload dL_undone_109 rfl ?_
      refine s_iload dL_undone_111 rfl ?_
      refine s_iconst (v := 5) dL_undone_113 (by decide) ?_
      refine s_iushr dL_undone_114 ?_
      refine s_bipush (v := 102) dL_undone_115 (by decide) ?_
      refine s_irem dL_undone_117 (by decide) ?_
      obtain ⟨u14, u15, h⟩ := h
      exact s_callSH (as := [(vR x1), (vI x7), (vI ((us_ x6 (5 : Int32)) - (us_ x6 (5 : Int32)) / (102 : Int32) * (102 : Int32)))]) (S := []) gk dL_undone_118 (kL_addJar _ _ w_365) w_366 rfl rfl (Nat.le_of_ble_eq_true rfl) ⟨by decide, by decide, u14, u15⟩ h
    replace h := h.2
    by_cases w71 : (x5 - x5 / (10 : Int32) * (10 : Int32)) = 1
    · refine s_tableIn (off := 67) (tgt := 126) dL_undone_59 (by rw [w71]; decide) (by rw [w71]; decide) (by rw [w71]; decide) (by decide) ?_
      have h := h.1 w71
      refine s_aload_n (i := 1) dL_undone_126 rfl rfl ?_
      refine s_iload dL_undone_127 rfl ?_
      obtain ⟨u16, u17, h⟩ := h
      exact s_callSH (as := [(vR x1), (vI x7)]) (S := []) gk dL_undone_129 (kL_removeJar _ _ w_1403) w_1404 rfl rfl (Nat.le_of_ble_eq_true rfl) ⟨by decide, by decide, u16, u17⟩ h
    replace h := h.2
    by_cases w72 : (x5 - x5 / (10 : Int32) * (10 : Int32)) = 2
    · refine s_tableIn (off := 78) (tgt := 137) dL_undone_59 (by rw [w72]; decide) (by rw [w72]; decide) (by rw [w72]; decide) (by decide) ?_
      have h := h.1 w72
      refine s_aload_n (i := 1) dL_undone_137 rfl rfl ?_
      refine s_iload dL_undone_138 rfl ?_
      refine s_iload dL_undone_140 rfl ?_
      refine s_iconst (v := 5) dL_undone_142 (by decide) ?_
      refine s_iushr dL_undone_143 ?_
      refine s_bipush (v := 102) dL_undone_144 (by decide) ?_
      refine s_irem dL_undone_146 (by decide) ?_
      obtain ⟨u18, u19, h⟩ := h
      exact s_callSH (as := [(vR x1), (vI x7), (vI ((us_ x6 (5 : Int32)) - (us_ x6 (5 : Int32)) / (102 : Int32) * (102 : Int32)))]) (S := []) gk dL_undone_147 (kL_say _ _ w_720) w_721 rfl rfl (Nat.le_of_ble_eq_true rfl) ⟨by decide, by decide, u18, u19⟩ h
    replace h := h.2
    by_cases w73 : (x5 - x5 / (10 : Int32) * (10 : Int32)) = 3
    · refine s_tableIn (off := 96) (tgt := 155) dL_undone_59 (by rw [w73]; decide) (by rw [w73]; decide) (by rw [w73]; decide) (by decide) ?_
      have h := h.1 w73
      refine s_aload_n (i := 1) dL_undone_155 rfl rfl ?_
      refine s_iload dL_undone_156 rfl ?_
      refine s_bipush (v := 8) dL_undone_158 (by decide) ?_
      refine s_irem dL_undone_160 (by decide) ?_
      refine s_iload dL_undone_161 rfl ?_
      refine s_iconst (v := 3) dL_undone_163 (by decide) ?_
      refine s_iushr dL_undone_164 ?_
      refine s_bipush (v := 32) dL_undone_165 (by decide) ?_
      refine s_irem dL_undone_167 (by decide) ?_
      obtain ⟨q20, v21, z22, u23⟩ := txs_14 sok
      refine s_ldcwS dL_undone_168 z22 ?_
      replace h := h q20 ⟨v21, u23⟩
      refine s_iload dL_undone_171 rfl ?_
      refine s_bipush (v := 8) dL_undone_173 (by decide) ?_
      refine s_iushr dL_undone_175 ?_
      refine s_iconst (v := 4) dL_undone_176 (by decide) ?_
      refine s_irem dL_undone_177 (by decide) ?_
      obtain ⟨o24, h⟩ := h
      obtain ⟨u25, u26, h⟩ := h
      exact s_callVS (rmY := rJ0_charAt_5068e) (as := [(vI ((us_ x6 (8 : Int32)) - (us_ x6 (8 : Int32)) / (4 : Int32) * (4 : Int32)))]) (S := [(vI ((us_ x6 (3 : Int32)) - (us_ x6 (3 : Int32)) / (32 : Int32) * (32 : Int32))), (vI (x6 - x6 / (8 : Int32) * (8 : Int32))), (vR x1)]) gk dL_undone_178 gL_153 w_561 w_562 o24 rfl rfl (Nat.le_of_ble_eq_true rfl) ⟨by decide, by decide, u25, u26⟩ h
    replace h := h.2
    by_cases w74 : (x5 - x5 / (10 : Int32) * (10 : Int32)) = 4
    · refine s_tableIn (off := 130) (tgt := 189) dL_undone_59 (by rw [w74]; decide) (by rw [w74]; decide) (by rw [w74]; decide) (by decide) ?_
      have h := h.1 w74
      refine s_aload_n (i := 1) dL_undone_189 rfl rfl ?_
      refine s_iload dL_undone_190 rfl ?_
      refine s_iconst (v := 5) dL_undone_192 (by decide) ?_
      refine s_irem dL_undone_193 (by decide) ?_
      refine s_iload dL_undone_194 rfl ?_
      refine s_bipush (v := 20) dL_undone_196 (by decide) ?_
      refine s_irem dL_undone_198 (by decide) ?_
      refine s_bipush (v := 10) dL_undone_199 (by decide) ?_
      refine s_icmp_ge (tgt := 208) dL_undone_201 (by decide) (fun q27 => ?_) (fun q27 => ?_)
      · have h := h.1 q27
        refine s_iconst (v := 0) dL_undone_208 (by decide) ?_
        obtain ⟨u28, u29, h⟩ := h
        exact s_callSH (as := [(vR x1), (vI (x6 - x6 / (5 : Int32) * (5 : Int32))), (vI (0 : Int32))]) (S := []) gk dL_undone_209 (kL_listen _ _ w_782) w_783 rfl rfl (Nat.le_of_ble_eq_true rfl) ⟨by decide, by decide, u28, u29⟩ h
      · have h := h.2 q27
        refine s_iconst (v := 1) dL_undone_204 (by decide) ?_
        refine s_goto (tgt := 209) dL_undone_205 (by decide) ?_
        obtain ⟨u30, u31, h⟩ := h
        exact s_callSH (as := [(vR x1), (vI (x6 - x6 / (5 : Int32) * (5 : Int32))), (vI (1 : Int32))]) (S := []) gk dL_undone_209 (kL_listen _ _ w_782) w_783 rfl rfl (Nat.le_of_ble_eq_true rfl) ⟨by decide, by decide, u30, u31⟩ h
    replace h := h.2
    by_cases w75 : (x5 - x5 / (10 : Int32) * (10 : Int32)) = 5
    · refine s_tableIn (off := 158) (tgt := 217) dL_undone_59 (by rw [w75]; decide) (by rw [w75]; decide) (by rw [w75]; decide) (by decide) ?_
      have h := h.1 w75
      refine s_aload_n (i := 1) dL_undone_217 rfl rfl ?_
      refine s_iload dL_undone_218 rfl ?_
      refine s_iconst (v := 5) dL_undone_220 (by decide) ?_
      refine s_iushr dL_undone_221 ?_
      refine s_iconst (v := 5) dL_undone_222 (by decide) ?_
      refine s_irem dL_undone_223 (by decide) ?_
      refine s_iload dL_undone_224 rfl ?_
      obtain ⟨u32, u33, h⟩ := h
      exact s_callSH (as := [(vR x1), (vI ((us_ x6 (5 : Int32)) - (us_ x6 (5 : Int32)) / (5 : Int32) * (5 : Int32))), (vI x7)]) (S := []) gk dL_undone_226 (kL_hear _ _ w_622) w_623 rfl rfl (Nat.le_of_ble_eq_true rfl) ⟨by decide, by decide, u32, u33⟩ h
    replace h := h.2
    by_cases w76 : (x5 - x5 / (10 : Int32) * (10 : Int32)) = 6
    · refine s_tableIn (off := 158) (tgt := 217) dL_undone_59 (by rw [w76]; decide) (by rw [w76]; decide) (by rw [w76]; decide) (by decide) ?_
      have h := h.1 w76
      refine s_aload_n (i := 1) dL_undone_217 rfl rfl ?_
      refine s_iload dL_undone_218 rfl ?_
      refine s_iconst (v := 5) dL_undone_220 (by decide) ?_
      refine s_iushr dL_undone_221 ?_
      refine s_iconst (v := 5) dL_undone_222 (by decide) ?_
      refine s_irem dL_undone_223 (by decide) ?_
      refine s_iload dL_undone_224 rfl ?_
      obtain ⟨u34, u35, h⟩ := h
      exact s_callSH (as := [(vR x1), (vI ((us_ x6 (5 : Int32)) - (us_ x6 (5 : Int32)) / (5 : Int32) * (5 : Int32))), (vI x7)]) (S := []) gk dL_undone_226 (kL_hear _ _ w_622) w_623 rfl rfl (Nat.le_of_ble_eq_true rfl) ⟨by decide, by decide, u34, u35⟩ h
    replace h := h.2
    by_cases w77 : (x5 - x5 / (10 : Int32) * (10 : Int32)) = 7
    · refine s_tableIn (off := 175) (tgt := 234) dL_undone_59 (by rw [w77]; decide) (by rw [w77]; decide) (by rw [w77]; decide) (by decide) ?_
      have h := h.1 w77
      refine s_aload_n (i := 1) dL_undone_234 rfl rfl ?_
      refine s_iload dL_undone_235 rfl ?_
      refine s_iconst (v := 5) dL_undone_237 (by decide) ?_
      refine s_iushr dL_undone_238 ?_
      refine s_iconst (v := 5) dL_undone_239 (by decide) ?_
      refine s_irem dL_undone_240 (by decide) ?_
      refine s_iload dL_undone_241 rfl ?_
      refine s_iload dL_undone_243 rfl ?_
      refine s_bipush (v := 8) dL_undone_245 (by decide) ?_
      refine s_iushr dL_undone_247 ?_
      refine s_bipush (v := 53) dL_undone_248 (by decide) ?_
      refine s_irem dL_undone_250 (by decide) ?_
      obtain ⟨u36, u37, h⟩ := h
      exact s_callSH (as := [(vR x1), (vI ((us_ x6 (5 : Int32)) - (us_ x6 (5 : Int32)) / (5 : Int32) * (5 : Int32))), (vI x7), (vI ((us_ x6 (8 : Int32)) - (us_ x6 (8 : Int32)) / (53 : Int32) * (53 : Int32)))]) (S := []) gk dL_undone_251 (kL_warm _ _ w_739) w_740 rfl rfl (Nat.le_of_ble_eq_true rfl) ⟨by decide, by decide, u36, u37⟩ h
    replace h := h.2
    by_cases w78 : (x5 - x5 / (10 : Int32) * (10 : Int32)) = 8
    · refine s_tableIn (off := 200) (tgt := 259) dL_undone_59 (by rw [w78]; decide) (by rw [w78]; decide) (by rw [w78]; decide) (by decide) ?_
      have h := h w78
      refine s_iload dL_undone_259 rfl ?_
      refine s_iconst (v := 3) dL_undone_261 (by decide) ?_
      refine s_irem dL_undone_262 (by decide) ?_
      refine s_if_ne (tgt := 279) dL_undone_263 (by decide) (fun q38 => ?_) (fun q38 => ?_)
      · have h := h.1 q38
        refine s_aload_n (i := 1) dL_undone_279 rfl rfl ?_
        refine s_iload dL_undone_280 rfl ?_
        refine s_iconst (v := 2) dL_undone_282 (by decide) ?_
        refine s_iushr dL_undone_283 ?_
        refine s_bipush (v := 62) dL_undone_284 (by decide) ?_
        refine s_irem dL_undone_286 (by decide) ?_
        obtain ⟨u39, u40, h⟩ := h
        exact s_callSH (as := [(vR x1), (vI ((us_ x6 (2 : Int32)) - (us_ x6 (2 : Int32)) / (62 : Int32) * (62 : Int32)))]) (S := []) gk dL_undone_287 (kL_pass _ _ w_767) w_768 rfl rfl (Nat.le_of_ble_eq_true rfl) ⟨by decide, by decide, u39, u40⟩ h
      · have h := h.2 q38
        refine s_aload_n (i := 1) dL_undone_266 rfl rfl ?_
        refine s_iload dL_undone_267 rfl ?_
        refine s_iconst (v := 2) dL_undone_269 (by decide) ?_
        refine s_iushr dL_undone_270 ?_
        refine s_iconst (v := 4) dL_undone_271 (by decide) ?_
        refine s_irem dL_undone_272 (by decide) ?_
        obtain ⟨u41, u42, h⟩ := h
        exact s_callSH (as := [(vR x1), (vI ((us_ x6 (2 : Int32)) - (us_ x6 (2 : Int32)) / (4 : Int32) * (4 : Int32)))]) (S := []) gk dL_undone_273 (kL_cancel _ _ w_1420) w_1421 rfl rfl (Nat.le_of_ble_eq_true rfl) ⟨by decide, by decide, u41, u42⟩ h
    exact (tb_cover (x := (x5 - x5 / (10 : Int32) * (10 : Int32))) (lo := 0) (n := 9) (fun k hk => by match k, hk with | 0, _ => exact w70 | 1, _ => exact w71 | 2, _ => exact w72 | 3, _ => exact w73 | 4, _ => exact w74 | 5, _ => exact w75 | 6, _ => exact w76 | 7, _ => exact w77 | 8, _ => exact w78 | k + 9, hk => omega) (by decide) q6).elim
theorem vL_undone_121 {G : GG} (gk : GOK G) {uc us : Nat} {σ : Mm} {K : RES → Mm → Prop} {x0 : Option Nat} {x1 : Option Nat} {x2 : Option Nat} {x3 : Int32} {x4 : Int32} {x5 : Int32} {x6 : Int32} {x7 : Int32} {s0 : Int32}
    (h : ((0 ≤ s0 → ((0 ≤ s0 → At G mL_undone rL_undone uc us 10 [some (vR x0), some (vR x1), some (vR x2), some (vI (x3 + (1 : Int32))), some (vI (x4 + 1)), none, none, none, none] [] σ K) ∧ (¬ 0 ≤ s0 → At G mL_undone rL_undone uc us 10 [some (vR x0), some (vR x1), some (vR x2), some (vI (x3 + (0 : Int32))), some (vI (x4 + 1)), none, none, none, none] [] σ K))) ∧ (¬ 0 ≤ s0 → uc + 500 ≤ 12000 ∧ us + 3000 ≤ 80000 ∧ Runs G mL_sum rL_sum [(vR x1)] σ (bk G mL_undone rL_undone (uc + 500) (us + 3000) 380 [some (vR x0), some (vR x1), some (vR x2), some (vI x3), some (vI x4), some (vI x5), some (vI x6), some (vI x7), some (vI s0)] [] K)))) : At G mL_undone rL_undone uc us 121 [some (vR x0), some (vR x1), some (vR x2), some (vI x3), some (vI x4), some (vI x5), some (vI x6), some (vI x7), none] [(vI s0)] σ K := by
  refine s_istore (L' := [some (vR x0), some (vR x1), some (vR x2), some (vI x3), some (vI x4), some (vI x5), some (vI x6), some (vI x7), some (vI s0)]) dL_undone_121 rfl (by decide) rfl ?_
  refine s_goto (tgt := 371) dL_undone_123 (by decide) ?_
  refine s_iload dL_undone_371 rfl ?_
  refine s_if_ge (tgt := 389) dL_undone_373 (by decide) (fun q1 => ?_) (fun q1 => ?_)
  · have h := h.1 q1
    refine s_iload_n (i := 3) dL_undone_389 rfl rfl ?_
    refine s_iload dL_undone_390 rfl ?_
    refine s_if_ge (tgt := 399) dL_undone_392 (by decide) (fun q2 => ?_) (fun q2 => ?_)
    · have h := h.1 q2
      refine s_iconst (v := 1) dL_undone_399 (by decide) ?_
      refine s_iadd dL_undone_400 ?_
      refine s_istore_n (i := 3) (L' := [some (vR x0), some (vR x1), some (vR x2), some (vI (x3 + (1 : Int32))), some (vI x4), some (vI x5), some (vI x6), some (vI x7), some (vI s0)]) dL_undone_401 rfl rfl (by decide) rfl ?_
      refine s_iinc (v := x4 + 1) (L' := [some (vR x0), some (vR x1), some (vR x2), some (vI (x3 + (1 : Int32))), some (vI (x4 + 1)), some (vI x5), some (vI x6), some (vI x7), some (vI s0)]) dL_undone_402 rfl rfl rfl (by decide) rfl ?_
      refine s_goto (tgt := 10) dL_undone_405 (by decide) ?_
      exact h.msk ⟨rfl, ⟨rfl, ⟨rfl, ⟨rfl, ⟨rfl, trivial⟩⟩⟩⟩⟩
    · have h := h.2 q2
      refine s_iconst (v := 0) dL_undone_395 (by decide) ?_
      refine s_goto (tgt := 400) dL_undone_396 (by decide) ?_
      refine s_iadd dL_undone_400 ?_
      refine s_istore_n (i := 3) (L' := [some (vR x0), some (vR x1), some (vR x2), some (vI (x3 + (0 : Int32))), some (vI x4), some (vI x5), some (vI x6), some (vI x7), some (vI s0)]) dL_undone_401 rfl rfl (by decide) rfl ?_
      refine s_iinc (v := x4 + 1) (L' := [some (vR x0), some (vR x1), some (vR x2), some (vI (x3 + (0 : Int32))), some (vI (x4 + 1)), some (vI x5), some (vI x6), some (vI x7), some (vI s0)]) dL_undone_402 rfl rfl rfl (by decide) rfl ?_
      refine s_goto (tgt := 10) dL_undone_405 (by decide) ?_
      exact h.msk ⟨rfl, ⟨rfl, ⟨rfl, ⟨rfl, ⟨rfl, trivial⟩⟩⟩⟩⟩
  · have h := h.2 q1
    refine s_aload_n (i := 1) dL_undone_376 rfl rfl ?_
    obtain ⟨u3, u4, h⟩ := h
    exact s_callS (as := [(vR x1)]) (S := []) gk dL_undone_377 gL_350 w_1393 rfl rfl (Nat.le_of_ble_eq_true rfl) ⟨by decide, by decide, u3, u4⟩ h
theorem vL_undone_132 {G : GG} (gk : GOK G) {uc us : Nat} {σ : Mm} {K : RES → Mm → Prop} {x0 : Option Nat} {x1 : Option Nat} {x2 : Option Nat} {x3 : Int32} {x4 : Int32} {x5 : Int32} {x6 : Int32} {x7 : Int32} {s0 : Int32}
    (h : ((0 ≤ s0 → ((0 ≤ s0 → At G mL_undone rL_undone uc us 10 [some (vR x0), some (vR x1), some (vR x2), some (vI (x3 + (1 : Int32))), some (vI (x4 + 1)), none, none, none, none] [] σ K) ∧ (¬ 0 ≤ s0 → At G mL_undone rL_undone uc us 10 [some (vR x0), some (vR x1), some (vR x2), some (vI (x3 + (0 : Int32))), some (vI (x4 + 1)), none, none, none, none] [] σ K))) ∧ (¬ 0 ≤ s0 → uc + 500 ≤ 12000 ∧ us + 3000 ≤ 80000 ∧ Runs G mL_sum rL_sum [(vR x1)] σ (bk G mL_undone rL_undone (uc + 500) (us + 3000) 380 [some (vR x0), some (vR x1), some (vR x2), some (vI x3), some (vI x4), some (vI x5), some (vI x6), some (vI x7), some (vI s0)] [] K)))) : At G mL_undone rL_undone uc us 132 [some (vR x0), some (vR x1), some (vR x2), some (vI x3), some (vI x4), some (vI x5), some (vI x6), some (vI x7), none] [(vI s0)] σ K := by
  refine s_istore (L' := [some (vR x0), some (vR x1), some (vR x2), some (vI x3), some (vI x4), some (vI x5), some (vI x6), some (vI x7), some (vI s0)]) dL_undone_132 rfl (by decide) rfl ?_
  refine s_goto (tgt := 371) dL_undone_134 (by decide) ?_
  refine s_iload dL_undone_371 rfl ?_
  refine s_if_ge (tgt := 389) dL_undone_373 (by decide) (fun q1 => ?_) (fun q1 => ?_)
  · have h := h.1 q1
    refine s_iload_n (i := 3) dL_undone_389 rfl rfl ?_
    refine s_iload dL_undone_390 rfl ?_
    refine s_if_ge (tgt := 399) dL_undone_392 (by decide) (fun q2 => ?_) (fun q2 => ?_)
    · have h := h.1 q2
      refine s_iconst (v := 1) dL_undone_399 (by decide) ?_
      refine s_iadd dL_undone_400 ?_
      refine s_istore_n (i := 3) (L' := [some (vR x0), some (vR x1), some (vR x2), some (vI (x3 + (1 : Int32))), some (vI x4), some (vI x5), some (vI x6), some (vI x7), some (vI s0)]) dL_undone_401 rfl rfl (by decide) rfl ?_
      refine s_iinc (v := x4 + 1) (L' := [some (vR x0), some (vR x1), some (vR x2), some (vI (x3 + (1 : Int32))), some (vI (x4 + 1)), some (vI x5), some (vI x6), some (vI x7), some (vI s0)]) dL_undone_402 rfl rfl rfl (by decide) rfl ?_
      refine s_goto (tgt := 10) dL_undone_405 (by decide) ?_
      exact h.msk ⟨rfl, ⟨rfl, ⟨rfl, ⟨rfl, ⟨rfl, trivial⟩⟩⟩⟩⟩
    · have h := h.2 q2
      refine s_iconst (v := 0) dL_undone_395 (by decide) ?_
      refine s_goto (tgt := 400) dL_undone_396 (by decide) ?_
      refine s_iadd dL_undone_400 ?_
      refine s_istore_n (i := 3) (L' := [some (vR x0), some (vR x1), some (vR x2), some (vI (x3 + (0 : Int32))), some (vI x4), some (vI x5), some (vI x6), some (vI x7), some (vI s0)]) dL_undone_401 rfl rfl (by decide) rfl ?_
      refine s_iinc (v := x4 + 1) (L' := [some (vR x0), some (vR x1), some (vR x2), some (vI (x3 + (0 : Int32))), some (vI (x4 + 1)), some (vI x5), some (vI x6), some (vI x7), some (vI s0)]) dL_undone_402 rfl rfl rfl (by decide) rfl ?_
      refine s_goto (tgt := 10) dL_undone_405 (by decide) ?_
      exact h.msk ⟨rfl, ⟨rfl, ⟨rfl, ⟨rfl, ⟨rfl, trivial⟩⟩⟩⟩⟩
  · have h := h.2 q1
    refine s_aload_n (i := 1) dL_undone_376 rfl rfl ?_
    obtain ⟨u3, u4, h⟩ := h
    exact s_callS (as := [(vR x1)]) (S := []) gk dL_undone_377 gL_350 w_1393 rfl rfl (Nat.le_of_ble_eq_true rfl) ⟨by decide, by decide, u3, u4⟩ h
theorem vL_undone_150 {G : GG} (gk : GOK G) {uc us : Nat} {σ : Mm} {K : RES → Mm → Prop} {x0 : Option Nat} {x1 : Option Nat} {x2 : Option Nat} {x3 : Int32} {x4 : Int32} {x5 : Int32} {x6 : Int32} {x7 : Int32} {s0 : Int32}
    (h : ((0 ≤ s0 → ((0 ≤ s0 → At G mL_undone rL_undone uc us 10 [some (vR x0), some (vR x1), some (vR x2), some (vI (x3 + (1 : Int32))), some (vI (x4 + 1)), none, none, none, none] [] σ K) ∧ (¬ 0 ≤ s0 → At G mL_undone rL_undone uc us 10 [some (vR x0), some (vR x1), some (vR x2), some (vI (x3 + (0 : Int32))), some (vI (x4 + 1)), none, none, none, none] [] σ K))) ∧ (¬ 0 ≤ s0 → uc + 500 ≤ 12000 ∧ us + 3000 ≤ 80000 ∧ Runs G mL_sum rL_sum [(vR x1)] σ (bk G mL_undone rL_undone (uc + 500) (us + 3000) 380 [some (vR x0), some (vR x1), some (vR x2), some (vI x3), some (vI x4), some (vI x5), some (vI x6), some (vI x7), some (vI s0)] [] K)))) : At G mL_undone rL_undone uc us 150 [some (vR x0), some (vR x1), some (vR x2), some (vI x3), some (vI x4), some (vI x5), some (vI x6), some (vI x7), none] [(vI s0)] σ K := by
  refine s_istore (L' := [some (vR x0), some (vR x1), some (vR x2), some (vI x3), some (vI x4), some (vI x5), some (vI x6), some (vI x7), some (vI s0)]) dL_undone_150 rfl (by decide) rfl ?_
  refine s_goto (tgt := 371) dL_undone_152 (by decide) ?_
  refine s_iload dL_undone_371 rfl ?_
  refine s_if_ge (tgt := 389) dL_undone_373 (by decide) (fun q1 => ?_) (fun q1 => ?_)
  · have h := h.1 q1
    refine s_iload_n (i := 3) dL_undone_389 rfl rfl ?_
    refine s_iload dL_undone_390 rfl ?_
    refine s_if_ge (tgt := 399) dL_undone_392 (by decide) (fun q2 => ?_) (fun q2 => ?_)
    · have h := h.1 q2
      refine s_iconst (v := 1) dL_undone_399 (by decide) ?_
      refine s_iadd dL_undone_400 ?_
      refine s_istore_n (i := 3) (L' := [some (vR x0), some (vR x1), some (vR x2), some (vI (x3 + (1 : Int32))), some (vI x4), some (vI x5), some (vI x6), some (vI x7), some (vI s0)]) dL_undone_401 rfl rfl (by decide) rfl ?_
      refine s_iinc (v := x4 + 1) (L' := [some (vR x0), some (vR x1), some (vR x2), some (vI (x3 + (1 : Int32))), some (vI (x4 + 1)), some (vI x5), some (vI x6), some (vI x7), some (vI s0)]) dL_undone_402 rfl rfl rfl (by decide) rfl ?_
      refine s_goto (tgt := 10) dL_undone_405 (by decide) ?_
      exact h.msk ⟨rfl, ⟨rfl, ⟨rfl, ⟨rfl, ⟨rfl, trivial⟩⟩⟩⟩⟩
    · have h := h.2 q2
      refine s_iconst (v := 0) dL_undone_395 (by decide) ?_
      refine s_goto (tgt := 400) dL_undone_396 (by decide) ?_
      refine s_iadd dL_undone_400 ?_
      refine s_istore_n (i := 3) (L' := [some (vR x0), some (vR x1), some (vR x2), some (vI (x3 + (0 : Int32))), some (vI x4), some (vI x5), some (vI x6), some (vI x7), some (vI s0)]) dL_undone_401 rfl rfl (by decide) rfl ?_
      refine s_iinc (v := x4 + 1) (L' := [some (vR x0), some (vR x1), some (vR x2), some (vI (x3 + (0 : Int32))), some (vI (x4 + 1)), some (vI x5), some (vI x6), some (vI x7), some (vI s0)]) dL_undone_402 rfl rfl rfl (by decide) rfl ?_
      refine s_goto (tgt := 10) dL_undone_405 (by decide) ?_
      exact h.msk ⟨rfl, ⟨rfl, ⟨rfl, ⟨rfl, ⟨rfl, trivial⟩⟩⟩⟩⟩
  · have h := h.2 q1
    refine s_aload_n (i := 1) dL_undone_376 rfl rfl ?_
    obtain ⟨u3, u4, h⟩ := h
    exact s_callS (as := [(vR x1)]) (S := []) gk dL_undone_377 gL_350 w_1393 rfl rfl (Nat.le_of_ble_eq_true rfl) ⟨by decide, by decide, u3, u4⟩ h
theorem vL_undone_181 {G : GG} (gk : GOK G) {uc us : Nat} {σ : Mm} {K : RES → Mm → Prop} {x0 : Option Nat} {x1 : Option Nat} {x2 : Option Nat} {x3 : Int32} {x4 : Int32} {x5 : Int32} {x6 : Int32} {x7 : Int32} {s0 : Int32} {s1 : Int32} {s2 : Int32} {s3 : Option Nat}
    (h : uc + 1 ≤ 12000 ∧ us + 6 ≤ 80000 ∧ RunsH G mL_addShelf hL_addShelf rL_addShelf [(vR s3), (vI s2), (vI s1), (vI s0)] σ (bk G mL_undone rL_undone (uc + 1) (us + 6) 184 [some (vR x0), some (vR x1), some (vR x2), some (vI x3), some (vI x4), some (vI x5), some (vI x6), some (vI x7), none] [] K)) : At G mL_undone rL_undone uc us 181 [some (vR x0), some (vR x1), some (vR x2), some (vI x3), some (vI x4), some (vI x5), some (vI x6), some (vI x7), none] [(vI s0), (vI s1), (vI s2), (vR s3)] σ K := by
  obtain ⟨u1, u2, h⟩ := h
  exact s_callSH (as := [(vR s3), (vI s2), (vI s1), (vI s0)]) (S := []) gk dL_undone_181 (kL_addShelf _ _ w_599) w_600 rfl rfl (Nat.le_of_ble_eq_true rfl) ⟨by decide, by decide, u1, u2⟩ h
theorem vL_undone_184 {G : GG} (gk : GOK G) {uc us : Nat} {σ : Mm} {K : RES → Mm → Prop} {x0 : Option Nat} {x1 : Option Nat} {x2 : Option Nat} {x3 : Int32} {x4 : Int32} {x5 : Int32} {x6 : Int32} {x7 : Int32} {s0 : Int32}
    (h : ((0 ≤ s0 → ((0 ≤ s0 → At G mL_undone rL_undone uc us 10 [some (vR x0), some (vR x1), some (vR x2), some (vI (x3 + (1 : Int32))), some (vI (x4 + 1)), none, none, none, none] [] σ K) ∧ (¬ 0 ≤ s0 → At G mL_undone rL_undone uc us 10 [some (vR x0), some (vR x1), some (vR x2), some (vI (x3 + (0 : Int32))), some (vI (x4 + 1)), none, none, none, none] [] σ K))) ∧ (¬ 0 ≤ s0 → uc + 500 ≤ 12000 ∧ us + 3000 ≤ 80000 ∧ Runs G mL_sum rL_sum [(vR x1)] σ (bk G mL_undone rL_undone (uc + 500) (us + 3000) 380 [some (vR x0), some (vR x1), some (vR x2), some (vI x3), some (vI x4), some (vI x5), some (vI x6), some (vI x7), some (vI s0)] [] K)))) : At G mL_undone rL_undone uc us 184 [some (vR x0), some (vR x1), some (vR x2), some (vI x3), some (vI x4), some (vI x5), some (vI x6), some (vI x7), none] [(vI s0)] σ K := by
  refine s_istore (L' := [some (vR x0), some (vR x1), some (vR x2), some (vI x3), some (vI x4), some (vI x5), some (vI x6), some (vI x7), some (vI s0)]) dL_undone_184 rfl (by decide) rfl ?_
  refine s_goto (tgt := 371) dL_undone_186 (by decide) ?_
  refine s_iload dL_undone_371 rfl ?_
  refine s_if_ge (tgt := 389) dL_undone_373 (by decide) (fun q1 => ?_) (fun q1 => ?_)
  · have h := h.1 q1
    refine s_iload_n (i := 3) dL_undone_389 rfl rfl ?_
    refine s_iload dL_undone_390 rfl ?_
    refine s_if_ge (tgt := 399) dL_undone_392 (by decide) (fun q2 => ?_) (fun q2 => ?_)
    · have h := h.1 q2
      refine s_iconst (v := 1) dL_undone_399 (by decide) ?_
      refine s_iadd dL_undone_400 ?_
      refine s_istore_n (i := 3) (L' := [some (vR x0), some (vR x1), some (vR x2), some (vI (x3 + (1 : Int32))), some (vI x4), some (vI x5), some (vI x6), some (vI x7), some (vI s0)]) dL_undone_401 rfl rfl (by decide) rfl ?_
      refine s_iinc (v := x4 + 1) (L' := [some (vR x0), some (vR x1), some (vR x2), some (vI (x3 + (1 : Int32))), some (vI (x4 + 1)), some (vI x5), some (vI x6), some (vI x7), some (vI s0)]) dL_undone_402 rfl rfl rfl (by decide) rfl ?_
      refine s_goto (tgt := 10) dL_undone_405 (by decide) ?_
      exact h.msk ⟨rfl, ⟨rfl, ⟨rfl, ⟨rfl, ⟨rfl, trivial⟩⟩⟩⟩⟩
    · have h := h.2 q2
      refine s_iconst (v := 0) dL_undone_395 (by decide) ?_
      refine s_goto (tgt := 400) dL_undone_396 (by decide) ?_
      refine s_iadd dL_undone_400 ?_
      refine s_istore_n (i := 3) (L' := [some (vR x0), some (vR x1), some (vR x2), some (vI (x3 + (0 : Int32))), some (vI x4), some (vI x5), some (vI x6), some (vI x7), some (vI s0)]) dL_undone_401 rfl rfl (by decide) rfl ?_
      refine s_iinc (v := x4 + 1) (L' := [some (vR x0), some (vR x1), some (vR x2), some (vI (x3 + (0 : Int32))), some (vI (x4 + 1)), some (vI x5), some (vI x6), some (vI x7), some (vI s0)]) dL_undone_402 rfl rfl rfl (by decide) rfl ?_
      refine s_goto (tgt := 10) dL_undone_405 (by decide) ?_
      exact h.msk ⟨rfl, ⟨rfl, ⟨rfl, ⟨rfl, ⟨rfl, trivial⟩⟩⟩⟩⟩
  · have h := h.2 q1
    refine s_aload_n (i := 1) dL_undone_376 rfl rfl ?_
    obtain ⟨u3, u4, h⟩ := h
    exact s_callS (as := [(vR x1)]) (S := []) gk dL_undone_377 gL_350 w_1393 rfl rfl (Nat.le_of_ble_eq_true rfl) ⟨by decide, by decide, u3, u4⟩ h
theorem vL_undone_212 {G : GG} (gk : GOK G) {uc us : Nat} {σ : Mm} {K : RES → Mm → Prop} {x0 : Option Nat} {x1 : Option Nat} {x2 : Option Nat} {x3 : Int32} {x4 : Int32} {x5 : Int32} {x6 : Int32} {x7 : Int32} {s0 : Int32}
    (h : ((0 ≤ s0 → ((0 ≤ s0 → At G mL_undone rL_undone uc us 10 [some (vR x0), some (vR x1), some (vR x2), some (vI (x3 + (1 : Int32))), some (vI (x4 + 1)), none, none, none, none] [] σ K) ∧ (¬ 0 ≤ s0 → At G mL_undone rL_undone uc us 10 [some (vR x0), some (vR x1), some (vR x2), some (vI (x3 + (0 : Int32))), some (vI (x4 + 1)), none, none, none, none] [] σ K))) ∧ (¬ 0 ≤ s0 → uc + 500 ≤ 12000 ∧ us + 3000 ≤ 80000 ∧ Runs G mL_sum rL_sum [(vR x1)] σ (bk G mL_undone rL_undone (uc + 500) (us + 3000) 380 [some (vR x0), some (vR x1), some (vR x2), some (vI x3), some (vI x4), some (vI x5), some (vI x6), some (vI x7), some (vI s0)] [] K)))) : At G mL_undone rL_undone uc us 212 [some (vR x0), some (vR x1), some (vR x2), some (vI x3), some (vI x4), some (vI x5), some (vI x6), some (vI x7), none] [(vI s0)] σ K := by
  refine s_istore (L' := [some (vR x0), some (vR x1), some (vR x2), some (vI x3), some (vI x4), some (vI x5), some (vI x6), some (vI x7), some (vI s0)]) dL_undone_212 rfl (by decide) rfl ?_
  refine s_goto (tgt := 371) dL_undone_214 (by decide) ?_
  refine s_iload dL_undone_371 rfl ?_
  refine s_if_ge (tgt := 389) dL_undone_373 (by decide) (fun q1 => ?_) (fun q1 => ?_)
  · have h := h.1 q1
    refine s_iload_n (i := 3) dL_undone_389 rfl rfl ?_
    refine s_iload dL_undone_390 rfl ?_
    refine s_if_ge (tgt := 399) dL_undone_392 (by decide) (fun q2 => ?_) (fun q2 => ?_)
    · have h := h.1 q2
      refine s_iconst (v := 1) dL_undone_399 (by decide) ?_
      refine s_iadd dL_undone_400 ?_
      refine s_istore_n (i := 3) (L' := [some (vR x0), some (vR x1), some (vR x2), some (vI (x3 + (1 : Int32))), some (vI x4), some (vI x5), some (vI x6), some (vI x7), some (vI s0)]) dL_undone_401 rfl rfl (by decide) rfl ?_
      refine s_iinc (v := x4 + 1) (L' := [some (vR x0), some (vR x1), some (vR x2), some (vI (x3 + (1 : Int32))), some (vI (x4 + 1)), some (vI x5), some (vI x6), some (vI x7), some (vI s0)]) dL_undone_402 rfl rfl rfl (by decide) rfl ?_
      refine s_goto (tgt := 10) dL_undone_405 (by decide) ?_
      exact h.msk ⟨rfl, ⟨rfl, ⟨rfl, ⟨rfl, ⟨rfl, trivial⟩⟩⟩⟩⟩
    · have h := h.2 q2
      refine s_iconst (v := 0) dL_undone_395 (by decide) ?_
      refine s_goto (tgt := 400) dL_undone_396 (by decide) ?_
      refine s_iadd dL_undone_400 ?_
      refine s_istore_n (i := 3) (L' := [some (vR x0), some (vR x1), some (vR x2), some (vI (x3 + (0 : Int32))), some (vI x4), some (vI x5), some (vI x6), some (vI x7), some (vI s0)]) dL_undone_401 rfl rfl (by decide) rfl ?_
      refine s_iinc (v := x4 + 1) (L' := [some (vR x0), some (vR x1), some (vR x2), some (vI (x3 + (0 : Int32))), some (vI (x4 + 1)), some (vI x5), some (vI x6), some (vI x7), some (vI s0)]) dL_undone_402 rfl rfl rfl (by decide) rfl ?_
      refine s_goto (tgt := 10) dL_undone_405 (by decide) ?_
      exact h.msk ⟨rfl, ⟨rfl, ⟨rfl, ⟨rfl, ⟨rfl, trivial⟩⟩⟩⟩⟩
  · have h := h.2 q1
    refine s_aload_n (i := 1) dL_undone_376 rfl rfl ?_
    obtain ⟨u3, u4, h⟩ := h
    exact s_callS (as := [(vR x1)]) (S := []) gk dL_undone_377 gL_350 w_1393 rfl rfl (Nat.le_of_ble_eq_true rfl) ⟨by decide, by decide, u3, u4⟩ h
theorem vL_undone_229 {G : GG} (gk : GOK G) {uc us : Nat} {σ : Mm} {K : RES → Mm → Prop} {x0 : Option Nat} {x1 : Option Nat} {x2 : Option Nat} {x3 : Int32} {x4 : Int32} {x5 : Int32} {x6 : Int32} {x7 : Int32} {s0 : Int32}
    (h : ((0 ≤ s0 → ((0 ≤ s0 → At G mL_undone rL_undone uc us 10 [some (vR x0), some (vR x1), some (vR x2), some (vI (x3 + (1 : Int32))), some (vI (x4 + 1)), none, none, none, none] [] σ K) ∧ (¬ 0 ≤ s0 → At G mL_undone rL_undone uc us 10 [some (vR x0), some (vR x1), some (vR x2), some (vI (x3 + (0 : Int32))), some (vI (x4 + 1)), none, none, none, none] [] σ K))) ∧ (¬ 0 ≤ s0 → uc + 500 ≤ 12000 ∧ us + 3000 ≤ 80000 ∧ Runs G mL_sum rL_sum [(vR x1)] σ (bk G mL_undone rL_undone (uc + 500) (us + 3000) 380 [some (vR x0), some (vR x1), some (vR x2), some (vI x3), some (vI x4), some (vI x5), some (vI x6), some (vI x7), some (vI s0)] [] K)))) : At G mL_undone rL_undone uc us 229 [some (vR x0), some (vR x1), some (vR x2), some (vI x3), some (vI x4), some (vI x5), some (vI x6), some (vI x7), none] [(vI s0)] σ K := by
  refine s_istore (L' := [some (vR x0), some (vR x1), some (vR x2), some (vI x3), some (vI x4), some (vI x5), some (vI x6), some (vI x7), some (vI s0)]) dL_undone_229 rfl (by decide) rfl ?_
  refine s_goto (tgt := 371) dL_undone_231 (by decide) ?_
  refine s_iload dL_undone_371 rfl ?_
  refine s_if_ge (tgt := 389) dL_undone_373 (by decide) (fun q1 => ?_) (fun q1 => ?_)
  · have h := h.1 q1
    refine s_iload_n (i := 3) dL_undone_389 rfl rfl ?_
    refine s_iload dL_undone_390 rfl ?_
    refine s_if_ge (tgt := 399) dL_undone_392 (by decide) (fun q2 => ?_) (fun q2 => ?_)
    · have h := h.1 q2
      refine s_iconst (v := 1) dL_undone_399 (by decide) ?_
      refine s_iadd dL_undone_400 ?_
      refine s_istore_n (i := 3) (L' := [some (vR x0), some (vR x1), some (vR x2), some (vI (x3 + (1 : Int32))), some (vI x4), some (vI x5), some (vI x6), some (vI x7), some (vI s0)]) dL_undone_401 rfl rfl (by decide) rfl ?_
      refine s_iinc (v := x4 + 1) (L' := [some (vR x0), some (vR x1), some (vR x2), some (vI (x3 + (1 : Int32))), some (vI (x4 + 1)), some (vI x5), some (vI x6), some (vI x7), some (vI s0)]) dL_undone_402 rfl rfl rfl (by decide) rfl ?_
      refine s_goto (tgt := 10) dL_undone_405 (by decide) ?_
      exact h.msk ⟨rfl, ⟨rfl, ⟨rfl, ⟨rfl, ⟨rfl, trivial⟩⟩⟩⟩⟩
    · have h := h.2 q2
      refine s_iconst (v := 0) dL_undone_395 (by decide) ?_
      refine s_goto (tgt := 400) dL_undone_396 (by decide) ?_
      refine s_iadd dL_undone_400 ?_
      refine s_istore_n (i := 3) (L' := [some (vR x0), some (vR x1), some (vR x2), some (vI (x3 + (0 : Int32))), some (vI x4), some (vI x5), some (vI x6), some (vI x7), some (vI s0)]) dL_undone_401 rfl rfl (by decide) rfl ?_
      refine s_iinc (v := x4 + 1) (L' := [some (vR x0), some (vR x1), some (vR x2), some (vI (x3 + (0 : Int32))), some (vI (x4 + 1)), some (vI x5), some (vI x6), some (vI x7), some (vI s0)]) dL_undone_402 rfl rfl rfl (by decide) rfl ?_
      refine s_goto (tgt := 10) dL_undone_405 (by decide) ?_
      exact h.msk ⟨rfl, ⟨rfl, ⟨rfl, ⟨rfl, ⟨rfl, trivial⟩⟩⟩⟩⟩
  · have h := h.2 q1
    refine s_aload_n (i := 1) dL_undone_376 rfl rfl ?_
    obtain ⟨u3, u4, h⟩ := h
    exact s_callS (as := [(vR x1)]) (S := []) gk dL_undone_377 gL_350 w_1393 rfl rfl (Nat.le_of_ble_eq_true rfl) ⟨by decide, by decide, u3, u4⟩ h
theorem vL_undone_254 {G : GG} (gk : GOK G) {uc us : Nat} {σ : Mm} {K : RES → Mm → Prop} {x0 : Option Nat} {x1 : Option Nat} {x2 : Option Nat} {x3 : Int32} {x4 : Int32} {x5 : Int32} {x6 : Int32} {x7 : Int32} {s0 : Int32}
    (h : ((0 ≤ s0 → ((0 ≤ s0 → At G mL_undone rL_undone uc us 10 [some (vR x0), some (vR x1), some (vR x2), some (vI (x3 + (1 : Int32))), some (vI (x4 + 1)), none, none, none, none] [] σ K) ∧ (¬ 0 ≤ s0 → At G mL_undone rL_undone uc us 10 [some (vR x0), some (vR x1), some (vR x2), some (vI (x3 + (0 : Int32))), some (vI (x4 + 1)), none, none, none, none] [] σ K))) ∧ (¬ 0 ≤ s0 → uc + 500 ≤ 12000 ∧ us + 3000 ≤ 80000 ∧ Runs G mL_sum rL_sum [(vR x1)] σ (bk G mL_undone rL_undone (uc + 500) (us + 3000) 380 [some (vR x0), some (vR x1), some (vR x2), some (vI x3), some (vI x4), some (vI x5), some (vI x6), some (vI x7), some (vI s0)] [] K)))) : At G mL_undone rL_undone uc us 254 [some (vR x0), some (vR x1), some (vR x2), some (vI x3), some (vI x4), some (vI x5), some (vI x6), some (vI x7), none] [(vI s0)] σ K := by
  refine s_istore (L' := [some (vR x0), some (vR x1), some (vR x2), some (vI x3), some (vI x4), some (vI x5), some (vI x6), some (vI x7), some (vI s0)]) dL_undone_254 rfl (by decide) rfl ?_
  refine s_goto (tgt := 371) dL_undone_256 (by decide) ?_
  refine s_iload dL_undone_371 rfl ?_
  refine s_if_ge (tgt := 389) dL_undone_373 (by decide) (fun q1 => ?_) (fun q1 => ?_)
  · have h := h.1 q1
    refine s_iload_n (i := 3) dL_undone_389 rfl rfl ?_
    refine s_iload dL_undone_390 rfl ?_
    refine s_if_ge (tgt := 399) dL_undone_392 (by decide) (fun q2 => ?_) (fun q2 => ?_)
    · have h := h.1 q2
      refine s_iconst (v := 1) dL_undone_399 (by decide) ?_
      refine s_iadd dL_undone_400 ?_
      refine s_istore_n (i := 3) (L' := [some (vR x0), some (vR x1), some (vR x2), some (vI (x3 + (1 : Int32))), some (vI x4), some (vI x5), some (vI x6), some (vI x7), some (vI s0)]) dL_undone_401 rfl rfl (by decide) rfl ?_
      refine s_iinc (v := x4 + 1) (L' := [some (vR x0), some (vR x1), some (vR x2), some (vI (x3 + (1 : Int32))), some (vI (x4 + 1)), some (vI x5), some (vI x6), some (vI x7), some (vI s0)]) dL_undone_402 rfl rfl rfl (by decide) rfl ?_
      refine s_goto (tgt := 10) dL_undone_405 (by decide) ?_
      exact h.msk ⟨rfl, ⟨rfl, ⟨rfl, ⟨rfl, ⟨rfl, trivial⟩⟩⟩⟩⟩
    · have h := h.2 q2
      refine s_iconst (v := 0) dL_undone_395 (by decide) ?_
      refine s_goto (tgt := 400) dL_undone_396 (by decide) ?_
      refine s_iadd dL_undone_400 ?_
      refine s_istore_n (i := 3) (L' := [some (vR x0), some (vR x1), some (vR x2), some (vI (x3 + (0 : Int32))), some (vI x4), some (vI x5), some (vI x6), some (vI x7), some (vI s0)]) dL_undone_401 rfl rfl (by decide) rfl ?_
      refine s_iinc (v := x4 + 1) (L' := [some (vR x0), some (vR x1), some (vR x2), some (vI (x3 + (0 : Int32))), some (vI (x4 + 1)), some (vI x5), some (vI x6), some (vI x7), some (vI s0)]) dL_undone_402 rfl rfl rfl (by decide) rfl ?_
      refine s_goto (tgt := 10) dL_undone_405 (by decide) ?_
      exact h.msk ⟨rfl, ⟨rfl, ⟨rfl, ⟨rfl, ⟨rfl, trivial⟩⟩⟩⟩⟩
  · have h := h.2 q1
    refine s_aload_n (i := 1) dL_undone_376 rfl rfl ?_
    obtain ⟨u3, u4, h⟩ := h
    exact s_callS (as := [(vR x1)]) (S := []) gk dL_undone_377 gL_350 w_1393 rfl rfl (Nat.le_of_ble_eq_true rfl) ⟨by decide, by decide, u3, u4⟩ h
theorem vL_undone_276 {G : GG} (gk : GOK G) {uc us : Nat} {σ : Mm} {K : RES → Mm → Prop} {x0 : Option Nat} {x1 : Option Nat} {x2 : Option Nat} {x3 : Int32} {x4 : Int32} {x5 : Int32} {x6 : Int32} {x7 : Int32} {s0 : Int32}
    (h : At G mL_undone rL_undone uc us 290 [some (vR x0), some (vR x1), some (vR x2), some (vI x3), some (vI x4), some (vI x5), some (vI x6), some (vI x7), none] [(vI s0)] σ K) : At G mL_undone rL_undone uc us 276 [some (vR x0), some (vR x1), some (vR x2), some (vI x3), some (vI x4), some (vI x5), some (vI x6), some (vI x7), none] [(vI s0)] σ K := by
  refine s_goto (tgt := 290) dL_undone_276 (by decide) ?_
  exact h
theorem vL_undone_290 {G : GG} (gk : GOK G) {uc us : Nat} {σ : Mm} {K : RES → Mm → Prop} {x0 : Option Nat} {x1 : Option Nat} {x2 : Option Nat} {x3 : Int32} {x4 : Int32} {x5 : Int32} {x6 : Int32} {x7 : Int32} {s0 : Int32}
    (h : ((0 ≤ s0 → ((0 ≤ s0 → At G mL_undone rL_undone uc us 10 [some (vR x0), some (vR x1), some (vR x2), some (vI (x3 + (1 : Int32))), some (vI (x4 + 1)), none, none, none, none] [] σ K) ∧ (¬ 0 ≤ s0 → At G mL_undone rL_undone uc us 10 [some (vR x0), some (vR x1), some (vR x2), some (vI (x3 + (0 : Int32))), some (vI (x4 + 1)), none, none, none, none] [] σ K))) ∧ (¬ 0 ≤ s0 → uc + 500 ≤ 12000 ∧ us + 3000 ≤ 80000 ∧ Runs G mL_sum rL_sum [(vR x1)] σ (bk G mL_undone rL_undone (uc + 500) (us + 3000) 380 [some (vR x0), some (vR x1), some (vR x2), some (vI x3), some (vI x4), some (vI x5), some (vI x6), some (vI x7), some (vI s0)] [] K)))) : At G mL_undone rL_undone uc us 290 [some (vR x0), some (vR x1), some (vR x2), some (vI x3), some (vI x4), some (vI x5), some (vI x6), some (vI x7), none] [(vI s0)] σ K := by
  refine s_istore (L' := [some (vR x0), some (vR x1), some (vR x2), some (vI x3), some (vI x4), some (vI x5), some (vI x6), some (vI x7), some (vI s0)]) dL_undone_290 rfl (by decide) rfl ?_
  refine s_goto (tgt := 371) dL_undone_292 (by decide) ?_
  refine s_iload dL_undone_371 rfl ?_
  refine s_if_ge (tgt := 389) dL_undone_373 (by decide) (fun q1 => ?_) (fun q1 => ?_)
  · have h := h.1 q1
    refine s_iload_n (i := 3) dL_undone_389 rfl rfl ?_
    refine s_iload dL_undone_390 rfl ?_
    refine s_if_ge (tgt := 399) dL_undone_392 (by decide) (fun q2 => ?_) (fun q2 => ?_)
    · have h := h.1 q2
      refine s_iconst (v := 1) dL_undone_399 (by decide) ?_
      refine s_iadd dL_undone_400 ?_
      refine s_istore_n (i := 3) (L' := [some (vR x0), some (vR x1), some (vR x2), some (vI (x3 + (1 : Int32))), some (vI x4), some (vI x5), some (vI x6), some (vI x7), some (vI s0)]) dL_undone_401 rfl rfl (by decide) rfl ?_
      refine s_iinc (v := x4 + 1) (L' := [some (vR x0), some (vR x1), some (vR x2), some (vI (x3 + (1 : Int32))), some (vI (x4 + 1)), some (vI x5), some (vI x6), some (vI x7), some (vI s0)]) dL_undone_402 rfl rfl rfl (by decide) rfl ?_
      refine s_goto (tgt := 10) dL_undone_405 (by decide) ?_
      exact h.msk ⟨rfl, ⟨rfl, ⟨rfl, ⟨rfl, ⟨rfl, trivial⟩⟩⟩⟩⟩
    · have h := h.2 q2
      refine s_iconst (v := 0) dL_undone_395 (by decide) ?_
      refine s_goto (tgt := 400) dL_undone_396 (by decide) ?_
      refine s_iadd dL_undone_400 ?_
      refine s_istore_n (i := 3) (L' := [some (vR x0), some (vR x1), some (vR x2), some (vI (x3 + (0 : Int32))), some (vI x4), some (vI x5), some (vI x6), some (vI x7), some (vI s0)]) dL_undone_401 rfl rfl (by decide) rfl ?_
      refine s_iinc (v := x4 + 1) (L' := [some (vR x0), some (vR x1), some (vR x2), some (vI (x3 + (0 : Int32))), some (vI (x4 + 1)), some (vI x5), some (vI x6), some (vI x7), some (vI s0)]) dL_undone_402 rfl rfl rfl (by decide) rfl ?_
      refine s_goto (tgt := 10) dL_undone_405 (by decide) ?_
      exact h.msk ⟨rfl, ⟨rfl, ⟨rfl, ⟨rfl, ⟨rfl, trivial⟩⟩⟩⟩⟩
  · have h := h.2 q1
    refine s_aload_n (i := 1) dL_undone_376 rfl rfl ?_
    obtain ⟨u3, u4, h⟩ := h
    exact s_callS (as := [(vR x1)]) (S := []) gk dL_undone_377 gL_350 w_1393 rfl rfl (Nat.le_of_ble_eq_true rfl) ⟨by decide, by decide, u3, u4⟩ h
theorem vL_undone_303 {G : GG} (gk : GOK G) (sok : SOK G) {uc us : Nat} {σ : Mm} {K : RES → Mm → Prop} {x0 : Option Nat} {x1 : Option Nat} {x2 : Option Nat} {x3 : Int32} {x4 : Int32} {x5 : Int32} {x6 : Int32} {x7 : Int32} {s0 : Option Nat} {s1 : Option Nat}
    (h : ∀ q1 : Nat, SCT G q1 [104, 101, 97, 114, 32, 48, 32, 97, 59, 115, 97, 121, 32, 100, 32] → ∃ a5, s0 = some a5 ∧ (mt σ a5).1 = 11 ∧ uc + 1 ≤ 12000 ∧ us + 140 ≤ 80000 ∧ Runs G mJ4_append_15ec4 rJ4_append_15ec4_b [(vR s0), (vR (some q1))] σ (bk G mL_undone rL_undone (uc + 1) (us + 140) 309 [some (vR x0), some (vR x1), some (vR x2), some (vI x3), some (vI x4), some (vI x5), some (vI x6), some (vI x7), none] [(vR s1)] K)) : At G mL_undone rL_undone uc us 303 [some (vR x0), some (vR x1), some (vR x2), some (vI x3), some (vI x4), some (vI x5), some (vI x6), some (vI x7), none] [(vR s0), (vR s1)] σ K := by
  obtain ⟨q1, v2, z3, u4⟩ := txs_15 sok
  refine s_ldcwS dL_undone_303 z3 ?_
  replace h := h q1 ⟨v2, u4⟩
  obtain ⟨a5, ea5, h⟩ := h
  obtain ⟨t6, h⟩ := h
  obtain ⟨u7, u8, h⟩ := h
  exact t_callV (rmY := rJ4_append_15ec4_b) (ci := 10) (as := [(vR (some q1))]) (S := [(vR s1)]) gk dL_undone_306 gL_308 (by decide) rfl w_1093 w_1094 ea5 t6 rfl rfl (Nat.le_of_ble_eq_true rfl) ⟨by decide, by decide, u7, u8⟩ h
theorem vL_undone_309 {G : GG} (gk : GOK G) {uc us : Nat} {σ : Mm} {K : RES → Mm → Prop} {x0 : Option Nat} {x1 : Option Nat} {x2 : Option Nat} {x3 : Int32} {x4 : Int32} {x5 : Int32} {x6 : Int32} {x7 : Int32} {s0 : Option Nat} {s1 : Option Nat}
    (h : ∃ a1, s0 = some a1 ∧ (mt σ a1).1 = 11 ∧ uc + 1 ≤ 12000 ∧ us + 140 ≤ 80000 ∧ Runs G mJ4_append_bf812 rJ4_append_bf812 [(vR s0), (vI (x6 - x6 / (100 : Int32) * (100 : Int32)))] σ (bk G mL_undone rL_undone (uc + 1) (us + 140) 317 [some (vR x0), some (vR x1), some (vR x2), some (vI x3), some (vI x4), some (vI x5), some (vI x6), some (vI x7), none] [(vR s1)] K)) : At G mL_undone rL_undone uc us 309 [some (vR x0), some (vR x1), some (vR x2), some (vI x3), some (vI x4), some (vI x5), some (vI x6), some (vI x7), none] [(vR s0), (vR s1)] σ K := by
  refine s_iload dL_undone_309 rfl ?_
  refine s_bipush (v := 100) dL_undone_311 (by decide) ?_
  refine s_irem dL_undone_313 (by decide) ?_
  obtain ⟨a1, ea1, h⟩ := h
  obtain ⟨t2, h⟩ := h
  obtain ⟨u3, u4, h⟩ := h
  exact t_callV (rmY := rJ4_append_bf812) (ci := 10) (as := [(vI (x6 - x6 / (100 : Int32) * (100 : Int32)))]) (S := [(vR s1)]) gk dL_undone_314 gL_317 (by decide) rfl w_1215 w_1216 ea1 t2 rfl rfl (Nat.le_of_ble_eq_true rfl) ⟨by decide, by decide, u3, u4⟩ h
theorem vL_undone_317 {G : GG} (gk : GOK G) (sok : SOK G) {uc us : Nat} {σ : Mm} {K : RES → Mm → Prop} {x0 : Option Nat} {x1 : Option Nat} {x2 : Option Nat} {x3 : Int32} {x4 : Int32} {x5 : Int32} {x6 : Int32} {x7 : Int32} {s0 : Option Nat} {s1 : Option Nat}
    (h : ∀ q1 : Nat, SCT G q1 [59, 119, 97, 114, 109, 32, 48, 32] → ∃ a5, s0 = some a5 ∧ (mt σ a5).1 = 11 ∧ uc + 1 ≤ 12000 ∧ us + 140 ≤ 80000 ∧ Runs G mJ4_append_15ec4 rJ4_append_15ec4_b [(vR s0), (vR (some q1))] σ (bk G mL_undone rL_undone (uc + 1) (us + 140) 323 [some (vR x0), some (vR x1), some (vR x2), some (vI x3), some (vI x4), some (vI x5), some (vI x6), some (vI x7), none] [(vR s1)] K)) : At G mL_undone rL_undone uc us 317 [some (vR x0), some (vR x1), some (vR x2), some (vI x3), some (vI x4), some (vI x5), some (vI x6), some (vI x7), none] [(vR s0), (vR s1)] σ K := by
  obtain ⟨q1, v2, z3, u4⟩ := txs_16 sok
  refine s_ldcwS dL_undone_317 z3 ?_
  replace h := h q1 ⟨v2, u4⟩
  obtain ⟨a5, ea5, h⟩ := h
  obtain ⟨t6, h⟩ := h
  obtain ⟨u7, u8, h⟩ := h
  exact t_callV (rmY := rJ4_append_15ec4_b) (ci := 10) (as := [(vR (some q1))]) (S := [(vR s1)]) gk dL_undone_320 gL_308 (by decide) rfl w_1093 w_1094 ea5 t6 rfl rfl (Nat.le_of_ble_eq_true rfl) ⟨by decide, by decide, u7, u8⟩ h
theorem vL_undone_323 {G : GG} (gk : GOK G) {uc us : Nat} {σ : Mm} {K : RES → Mm → Prop} {x0 : Option Nat} {x1 : Option Nat} {x2 : Option Nat} {x3 : Int32} {x4 : Int32} {x5 : Int32} {x6 : Int32} {x7 : Int32} {s0 : Option Nat} {s1 : Option Nat}
    (h : ∃ a1, s0 = some a1 ∧ (mt σ a1).1 = 11 ∧ uc + 1 ≤ 12000 ∧ us + 140 ≤ 80000 ∧ Runs G mJ4_append_cf468 rJ4_append_cf468 [(vR s0), (vI x7)] σ (bk G mL_undone rL_undone (uc + 1) (us + 140) 328 [some (vR x0), some (vR x1), some (vR x2), some (vI x3), some (vI x4), some (vI x5), some (vI x6), some (vI x7), none] [(vR s1)] K)) : At G mL_undone rL_undone uc us 323 [some (vR x0), some (vR x1), some (vR x2), some (vI x3), some (vI x4), some (vI x5), some (vI x6), some (vI x7), none] [(vR s0), (vR s1)] σ K := by
  refine s_iload dL_undone_323 rfl ?_
  obtain ⟨a1, ea1, h⟩ := h
  obtain ⟨t2, h⟩ := h
  obtain ⟨u3, u4, h⟩ := h
  exact t_callV (rmY := rJ4_append_cf468) (ci := 10) (as := [(vI x7)]) (S := [(vR s1)]) gk dL_undone_325 gL_314 (by decide) rfl w_1202 w_1203 ea1 t2 rfl rfl (Nat.le_of_ble_eq_true rfl) ⟨by decide, by decide, u3, u4⟩ h
theorem vL_undone_328 {G : GG} (gk : GOK G) (sok : SOK G) {uc us : Nat} {σ : Mm} {K : RES → Mm → Prop} {x0 : Option Nat} {x1 : Option Nat} {x2 : Option Nat} {x3 : Int32} {x4 : Int32} {x5 : Int32} {x6 : Int32} {x7 : Int32} {s0 : Option Nat} {s1 : Option Nat}
    (h : ∀ q1 : Nat, SCT G q1 [32] → ∃ a5, s0 = some a5 ∧ (mt σ a5).1 = 11 ∧ uc + 1 ≤ 12000 ∧ us + 140 ≤ 80000 ∧ Runs G mJ4_append_15ec4 rJ4_append_15ec4_b [(vR s0), (vR (some q1))] σ (bk G mL_undone rL_undone (uc + 1) (us + 140) 334 [some (vR x0), some (vR x1), some (vR x2), some (vI x3), some (vI x4), some (vI x5), some (vI x6), some (vI x7), none] [(vR s1)] K)) : At G mL_undone rL_undone uc us 328 [some (vR x0), some (vR x1), some (vR x2), some (vI x3), some (vI x4), some (vI x5), some (vI x6), some (vI x7), none] [(vR s0), (vR s1)] σ K := by
  obtain ⟨q1, v2, z3, u4⟩ := txs_11 sok
  refine s_ldcwS dL_undone_328 z3 ?_
  replace h := h q1 ⟨v2, u4⟩
  obtain ⟨a5, ea5, h⟩ := h
  obtain ⟨t6, h⟩ := h
  obtain ⟨u7, u8, h⟩ := h
  exact t_callV (rmY := rJ4_append_15ec4_b) (ci := 10) (as := [(vR (some q1))]) (S := [(vR s1)]) gk dL_undone_331 gL_308 (by decide) rfl w_1093 w_1094 ea5 t6 rfl rfl (Nat.le_of_ble_eq_true rfl) ⟨by decide, by decide, u7, u8⟩ h
theorem vL_undone_334 {G : GG} (gk : GOK G) {uc us : Nat} {σ : Mm} {K : RES → Mm → Prop} {x0 : Option Nat} {x1 : Option Nat} {x2 : Option Nat} {x3 : Int32} {x4 : Int32} {x5 : Int32} {x6 : Int32} {x7 : Int32} {s0 : Option Nat} {s1 : Option Nat}
    (h : ∃ a1, s0 = some a1 ∧ (mt σ a1).1 = 11 ∧ uc + 1 ≤ 12000 ∧ us + 140 ≤ 80000 ∧ Runs G mJ4_append_bf812 rJ4_append_bf812 [(vR s0), (vI ((1 : Int32) + ((us_ x6 (7 : Int32)) - (us_ x6 (7 : Int32)) / (9 : Int32) * (9 : Int32))))] σ (bk G mL_undone rL_undone (uc + 1) (us + 140) 347 [some (vR x0), some (vR x1), some (vR x2), some (vI x3), some (vI x4), some (vI x5), some (vI x6), some (vI x7), none] [(vR s1)] K)) : At G mL_undone rL_undone uc us 334 [some (vR x0), some (vR x1), some (vR x2), some (vI x3), some (vI x4), some (vI x5), some (vI x6), some (vI x7), none] [(vR s0), (vR s1)] σ K := by
  refine s_iconst (v := 1) dL_undone_334 (by decide) ?_
  refine s_iload dL_undone_335 rfl ?_
  refine s_bipush (v := 7) dL_undone_337 (by decide) ?_
  refine s_iushr dL_undone_339 ?_
  refine s_bipush (v := 9) dL_undone_340 (by decide) ?_
  refine s_irem dL_undone_342 (by decide) ?_
  refine s_iadd dL_undone_343 ?_
  obtain ⟨a1, ea1, h⟩ := h
  obtain ⟨t2, h⟩ := h
  obtain ⟨u3, u4, h⟩ := h
  exact t_callV (rmY := rJ4_append_bf812) (ci := 10) (as := [(vI ((1 : Int32) + ((us_ x6 (7 : Int32)) - (us_ x6 (7 : Int32)) / (9 : Int32) * (9 : Int32))))]) (S := [(vR s1)]) gk dL_undone_344 gL_317 (by decide) rfl w_1215 w_1216 ea1 t2 rfl rfl (Nat.le_of_ble_eq_true rfl) ⟨by decide, by decide, u3, u4⟩ h
theorem vL_undone_347 {G : GG} (gk : GOK G) (sok : SOK G) {uc us : Nat} {σ : Mm} {K : RES → Mm → Prop} {x0 : Option Nat} {x1 : Option Nat} {x2 : Option Nat} {x3 : Int32} {x4 : Int32} {x5 : Int32} {x6 : Int32} {x7 : Int32} {s0 : Option Nat} {s1 : Option Nat}
    (h : ∀ q1 : Nat, SCT G q1 [59, 112, 97, 115, 115, 32] → ∃ a5, s0 = some a5 ∧ (mt σ a5).1 = 11 ∧ uc + 1 ≤ 12000 ∧ us + 140 ≤ 80000 ∧ Runs G mJ4_append_15ec4 rJ4_append_15ec4_b [(vR s0), (vR (some q1))] σ (bk G mL_undone rL_undone (uc + 1) (us + 140) 353 [some (vR x0), some (vR x1), some (vR x2), some (vI x3), some (vI x4), some (vI x5), some (vI x6), some (vI x7), none] [(vR s1)] K)) : At G mL_undone rL_undone uc us 347 [some (vR x0), some (vR x1), some (vR x2), some (vI x3), some (vI x4), some (vI x5), some (vI x6), some (vI x7), none] [(vR s0), (vR s1)] σ K := by
  obtain ⟨q1, v2, z3, u4⟩ := txs_17 sok
  refine s_ldcwS dL_undone_347 z3 ?_
  replace h := h q1 ⟨v2, u4⟩
  obtain ⟨a5, ea5, h⟩ := h
  obtain ⟨t6, h⟩ := h
  obtain ⟨u7, u8, h⟩ := h
  exact t_callV (rmY := rJ4_append_15ec4_b) (ci := 10) (as := [(vR (some q1))]) (S := [(vR s1)]) gk dL_undone_350 gL_308 (by decide) rfl w_1093 w_1094 ea5 t6 rfl rfl (Nat.le_of_ble_eq_true rfl) ⟨by decide, by decide, u7, u8⟩ h
theorem vL_undone_353 {G : GG} (gk : GOK G) {uc us : Nat} {σ : Mm} {K : RES → Mm → Prop} {x0 : Option Nat} {x1 : Option Nat} {x2 : Option Nat} {x3 : Int32} {x4 : Int32} {x5 : Int32} {x6 : Int32} {x7 : Int32} {s0 : Option Nat} {s1 : Option Nat}
    (h : ∃ a1, s0 = some a1 ∧ (mt σ a1).1 = 11 ∧ uc + 1 ≤ 12000 ∧ us + 140 ≤ 80000 ∧ Runs G mJ4_append_bf812 rJ4_append_bf812 [(vR s0), (vI ((us_ x6 (4 : Int32)) - (us_ x6 (4 : Int32)) / (12 : Int32) * (12 : Int32)))] σ (bk G mL_undone rL_undone (uc + 1) (us + 140) 363 [some (vR x0), some (vR x1), some (vR x2), some (vI x3), some (vI x4), some (vI x5), some (vI x6), some (vI x7), none] [(vR s1)] K)) : At G mL_undone rL_undone uc us 353 [some (vR x0), some (vR x1), some (vR x2), some (vI x3), some (vI x4), some (vI x5), some (vI x6), some (vI x7), none] [(vR s0), (vR s1)] σ K := by
  refine s_iload dL_undone_353 rfl ?_
  refine s_iconst (v := 4) dL_undone_355 (by decide) ?_
  refine s_iushr dL_undone_356 ?_
  refine s_bipush (v := 12) dL_undone_357 (by decide) ?_
  refine s_irem dL_undone_359 (by decide) ?_
  obtain ⟨a1, ea1, h⟩ := h
  obtain ⟨t2, h⟩ := h
  obtain ⟨u3, u4, h⟩ := h
  exact t_callV (rmY := rJ4_append_bf812) (ci := 10) (as := [(vI ((us_ x6 (4 : Int32)) - (us_ x6 (4 : Int32)) / (12 : Int32) * (12 : Int32)))]) (S := [(vR s1)]) gk dL_undone_360 gL_317 (by decide) rfl w_1215 w_1216 ea1 t2 rfl rfl (Nat.le_of_ble_eq_true rfl) ⟨by decide, by decide, u3, u4⟩ h
theorem vL_undone_363 {G : GG} (gk : GOK G) {uc us : Nat} {σ : Mm} {K : RES → Mm → Prop} {x0 : Option Nat} {x1 : Option Nat} {x2 : Option Nat} {x3 : Int32} {x4 : Int32} {x5 : Int32} {x6 : Int32} {x7 : Int32} {s0 : Option Nat} {s1 : Option Nat}
    (h : ∃ a1, s0 = some a1 ∧ (mt σ a1).1 = 11 ∧ uc + 2 ≤ 12000 ∧ us + 144 ≤ 80000 ∧ Runs G mJ4_toString_0e30d rJ4_toString_0e30d_b [(vR s0)] σ (bk G mL_undone rL_undone (uc + 2) (us + 144) 366 [some (vR x0), some (vR x1), some (vR x2), some (vI x3), some (vI x4), some (vI x5), some (vI x6), some (vI x7), none] [(vR s1)] K)) : At G mL_undone rL_undone uc us 363 [some (vR x0), some (vR x1), some (vR x2), some (vI x3), some (vI x4), some (vI x5), some (vI x6), some (vI x7), none] [(vR s0), (vR s1)] σ K := by
  obtain ⟨a1, ea1, h⟩ := h
  obtain ⟨t2, h⟩ := h
  obtain ⟨u3, u4, h⟩ := h
  exact t_callV (rmY := rJ4_toString_0e30d_b) (ci := 10) (as := []) (S := [(vR s1)]) gk dL_undone_363 gL_324 (by decide) rfl w_1242 w_1243 ea1 t2 rfl rfl (Nat.le_of_ble_eq_true rfl) ⟨by decide, by decide, u3, u4⟩ h
theorem vL_undone_366 {G : GG} (gk : GOK G) {uc us : Nat} {σ : Mm} {K : RES → Mm → Prop} {x0 : Option Nat} {x1 : Option Nat} {x2 : Option Nat} {x3 : Int32} {x4 : Int32} {x5 : Int32} {x6 : Int32} {x7 : Int32} {s0 : Option Nat} {s1 : Option Nat}
    (h : uc + 100 ≤ 12000 ∧ us + 600 ≤ 80000 ∧ Runs G mL_execute rL_execute [(vR s1), (vR s0)] σ (bk G mL_undone rL_undone (uc + 100) (us + 600) 369 [some (vR x0), some (vR x1), some (vR x2), some (vI x3), some (vI x4), some (vI x5), some (vI x6), some (vI x7), none] [] K)) : At G mL_undone rL_undone uc us 366 [some (vR x0), some (vR x1), some (vR x2), some (vI x3), some (vI x4), some (vI x5), some (vI x6), some (vI x7), none] [(vR s0), (vR s1)] σ K := by
  obtain ⟨u1, u2, h⟩ := h
  exact s_callS (as := [(vR s1), (vR s0)]) (S := []) gk dL_undone_366 gL_367 w_1435 rfl rfl (Nat.le_of_ble_eq_true rfl) ⟨by decide, by decide, u1, u2⟩ h
theorem vL_undone_369 {G : GG} (gk : GOK G) {uc us : Nat} {σ : Mm} {K : RES → Mm → Prop} {x0 : Option Nat} {x1 : Option Nat} {x2 : Option Nat} {x3 : Int32} {x4 : Int32} {x5 : Int32} {x6 : Int32} {x7 : Int32} {s0 : Int32}
    (h : ((0 ≤ s0 → ((0 ≤ s0 → At G mL_undone rL_undone uc us 10 [some (vR x0), some (vR x1), some (vR x2), some (vI (x3 + (1 : Int32))), some (vI (x4 + 1)), none, none, none, none] [] σ K) ∧ (¬ 0 ≤ s0 → At G mL_undone rL_undone uc us 10 [some (vR x0), some (vR x1), some (vR x2), some (vI (x3 + (0 : Int32))), some (vI (x4 + 1)), none, none, none, none] [] σ K))) ∧ (¬ 0 ≤ s0 → uc + 500 ≤ 12000 ∧ us + 3000 ≤ 80000 ∧ Runs G mL_sum rL_sum [(vR x1)] σ (bk G mL_undone rL_undone (uc + 500) (us + 3000) 380 [some (vR x0), some (vR x1), some (vR x2), some (vI x3), some (vI x4), some (vI x5), some (vI x6), some (vI x7), some (vI s0)] [] K)))) : At G mL_undone rL_undone uc us 369 [some (vR x0), some (vR x1), some (vR x2), some (vI x3), some (vI x4), some (vI x5), some (vI x6), some (vI x7), none] [(vI s0)] σ K := by
  refine s_istore (L' := [some (vR x0), some (vR x1), some (vR x2), some (vI x3), some (vI x4), some (vI x5), some (vI x6), some (vI x7), some (vI s0)]) dL_undone_369 rfl (by decide) rfl ?_
  refine s_iload dL_undone_371 rfl ?_
  refine s_if_ge (tgt := 389) dL_undone_373 (by decide) (fun q1 => ?_) (fun q1 => ?_)
  · have h := h.1 q1
    refine s_iload_n (i := 3) dL_undone_389 rfl rfl ?_
    refine s_iload dL_undone_390 rfl ?_
    refine s_if_ge (tgt := 399) dL_undone_392 (by decide) (fun q2 => ?_) (fun q2 => ?_)
    · have h := h.1 q2
      refine s_iconst (v := 1) dL_undone_399 (by decide) ?_
      refine s_iadd dL_undone_400 ?_
      refine s_istore_n (i := 3) (L' := [some (vR x0), some (vR x1), some (vR x2), some (vI (x3 + (1 : Int32))), some (vI x4), some (vI x5), some (vI x6), some (vI x7), some (vI s0)]) dL_undone_401 rfl rfl (by decide) rfl ?_
      refine s_iinc (v := x4 + 1) (L' := [some (vR x0), some (vR x1), some (vR x2), some (vI (x3 + (1 : Int32))), some (vI (x4 + 1)), some (vI x5), some (vI x6), some (vI x7), some (vI s0)]) dL_undone_402 rfl rfl rfl (by decide) rfl ?_
      refine s_goto (tgt := 10) dL_undone_405 (by decide) ?_
      exact h.msk ⟨rfl, ⟨rfl, ⟨rfl, ⟨rfl, ⟨rfl, trivial⟩⟩⟩⟩⟩
    · have h := h.2 q2
      refine s_iconst (v := 0) dL_undone_395 (by decide) ?_
      refine s_goto (tgt := 400) dL_undone_396 (by decide) ?_
      refine s_iadd dL_undone_400 ?_
      refine s_istore_n (i := 3) (L' := [some (vR x0), some (vR x1), some (vR x2), some (vI (x3 + (0 : Int32))), some (vI x4), some (vI x5), some (vI x6), some (vI x7), some (vI s0)]) dL_undone_401 rfl rfl (by decide) rfl ?_
      refine s_iinc (v := x4 + 1) (L' := [some (vR x0), some (vR x1), some (vR x2), some (vI (x3 + (0 : Int32))), some (vI (x4 + 1)), some (vI x5), some (vI x6), some (vI x7), some (vI s0)]) dL_undone_402 rfl rfl rfl (by decide) rfl ?_
      refine s_goto (tgt := 10) dL_undone_405 (by decide) ?_
      exact h.msk ⟨rfl, ⟨rfl, ⟨rfl, ⟨rfl, ⟨rfl, trivial⟩⟩⟩⟩⟩
  · have h := h.2 q1
    refine s_aload_n (i := 1) dL_undone_376 rfl rfl ?_
    obtain ⟨u3, u4, h⟩ := h
    exact s_callS (as := [(vR x1)]) (S := []) gk dL_undone_377 gL_350 w_1393 rfl rfl (Nat.le_of_ble_eq_true rfl) ⟨by decide, by decide, u3, u4⟩ h
theorem vL_undone_380 {G : GG} (gk : GOK G) {uc us : Nat} {σ : Mm} {K : RES → Mm → Prop} {x0 : Option Nat} {x1 : Option Nat} {x2 : Option Nat} {x3 : Int32} {x4 : Int32} {x5 : Int32} {x6 : Int32} {x7 : Int32} {x8 : Int32} {s0 : Int64}
    (h : ∃ a1, x2 = some a1 ∧ ∃ n3, mt σ a1 = (51, n3) ∧ vp_in x3 n3 ∧ (((lg_cmp s0 (ml σ a1 x3.toNatClampNeg)) = 0 → ((0 ≤ x8 → At G mL_undone rL_undone uc us 10 [some (vR x0), some (vR x1), some (vR x2), some (vI (x3 + (1 : Int32))), some (vI (x4 + 1)), none, none, none, none] [] σ K) ∧ (¬ 0 ≤ x8 → At G mL_undone rL_undone uc us 10 [some (vR x0), some (vR x1), some (vR x2), some (vI (x3 + (0 : Int32))), some (vI (x4 + 1)), none, none, none, none] [] σ K))) ∧ (¬ (lg_cmp s0 (ml σ a1 x3.toNatClampNeg)) = 0 → uc ≤ 12000 ∧ us ≤ 80000 ∧ K (.inl (some (vI (0 : Int32)))) σ))) : At G mL_undone rL_undone uc us 380 [some (vR x0), some (vR x1), some (vR x2), some (vI x3), some (vI x4), some (vI x5), some (vI x6), some (vI x7), some (vI x8)] [(vL s0)] σ K := by
  refine s_aload_n (i := 2) dL_undone_380 rfl rfl ?_
  refine s_iload_n (i := 3) dL_undone_381 rfl rfl ?_
  obtain ⟨a1, ea1, h⟩ := h
  obtain ⟨n3, t2, h⟩ := h
  obtain ⟨c4, h⟩ := h
  refine t_lald gk dL_undone_382 ea1 t2 c4 ?_
  refine s_lcmp dL_undone_383 ?_
  refine s_if_eq (tgt := 389) dL_undone_384 (by decide) (fun q5 => ?_) (fun q5 => ?_)
  · have h := h.1 q5
    refine s_iload_n (i := 3) dL_undone_389 rfl rfl ?_
    refine s_iload dL_undone_390 rfl ?_
    refine s_if_ge (tgt := 399) dL_undone_392 (by decide) (fun q6 => ?_) (fun q6 => ?_)
    · have h := h.1 q6
      refine s_iconst (v := 1) dL_undone_399 (by decide) ?_
      refine s_iadd dL_undone_400 ?_
      refine s_istore_n (i := 3) (L' := [some (vR x0), some (vR x1), some (vR x2), some (vI (x3 + (1 : Int32))), some (vI x4), some (vI x5), some (vI x6), some (vI x7), some (vI x8)]) dL_undone_401 rfl rfl (by decide) rfl ?_
      refine s_iinc (v := x4 + 1) (L' := [some (vR x0), some (vR x1), some (vR x2), some (vI (x3 + (1 : Int32))), some (vI (x4 + 1)), some (vI x5), some (vI x6), some (vI x7), some (vI x8)]) dL_undone_402 rfl rfl rfl (by decide) rfl ?_
      refine s_goto (tgt := 10) dL_undone_405 (by decide) ?_
      exact h.msk ⟨rfl, ⟨rfl, ⟨rfl, ⟨rfl, ⟨rfl, trivial⟩⟩⟩⟩⟩
    · have h := h.2 q6
      refine s_iconst (v := 0) dL_undone_395 (by decide) ?_
      refine s_goto (tgt := 400) dL_undone_396 (by decide) ?_
      refine s_iadd dL_undone_400 ?_
      refine s_istore_n (i := 3) (L' := [some (vR x0), some (vR x1), some (vR x2), some (vI (x3 + (0 : Int32))), some (vI x4), some (vI x5), some (vI x6), some (vI x7), some (vI x8)]) dL_undone_401 rfl rfl (by decide) rfl ?_
      refine s_iinc (v := x4 + 1) (L' := [some (vR x0), some (vR x1), some (vR x2), some (vI (x3 + (0 : Int32))), some (vI (x4 + 1)), some (vI x5), some (vI x6), some (vI x7), some (vI x8)]) dL_undone_402 rfl rfl rfl (by decide) rfl ?_
      refine s_goto (tgt := 10) dL_undone_405 (by decide) ?_
      exact h.msk ⟨rfl, ⟨rfl, ⟨rfl, ⟨rfl, ⟨rfl, trivial⟩⟩⟩⟩⟩
  · have h := h.2 q5
    refine s_iconst (v := 0) dL_undone_387 (by decide) ?_
    obtain ⟨u7, u8, h⟩ := h
    exact s_ireturn dL_undone_388 rfl rfl u7 u8 h
theorem vL_undone_413 {G : GG} (gk : GOK G) {uc us : Nat} {σ : Mm} {K : RES → Mm → Prop} {x0 : Option Nat} {x1 : Option Nat} {x2 : Option Nat} {x3 : Int32} {x4 : Int32}
    (h : ((x4 < 0 → uc ≤ 12000 ∧ us ≤ 80000 ∧ K (.inl (some (vI (1 : Int32)))) σ) ∧ (¬ x4 < 0 → uc + 1 ≤ 12000 ∧ us + 6 ≤ 80000 ∧ RunsH G mL_undo hL_undo rL_undo [(vR x1)] σ (bk G mL_undone rL_undone (uc + 1) (us + 6) 422 [some (vR x0), some (vR x1), some (vR x2), some (vI x3), some (vI x4), none, none, none, none] [] K)))) : At G mL_undone rL_undone uc us 413 [some (vR x0), some (vR x1), some (vR x2), some (vI x3), some (vI x4), none, none, none, none] [] σ K := by
  refine s_iload dL_undone_413 rfl ?_
  refine s_if_lt (tgt := 445) dL_undone_415 (by decide) (fun q1 => ?_) (fun q1 => ?_)
  · have h := h.1 q1
    refine s_iconst (v := 1) dL_undone_445 (by decide) ?_
    obtain ⟨u2, u3, h⟩ := h
    exact s_ireturn dL_undone_446 rfl rfl u2 u3 h
  · have h := h.2 q1
    refine s_aload_n (i := 1) dL_undone_418 rfl rfl ?_
    obtain ⟨u4, u5, h⟩ := h
    exact s_callSH (as := [(vR x1)]) (S := []) gk dL_undone_419 (kL_undo _ _ w_1543) w_1544 rfl rfl (Nat.le_of_ble_eq_true rfl) ⟨by decide, by decide, u4, u5⟩ h
theorem vL_undone_422 {G : GG} (gk : GOK G) {uc us : Nat} {σ : Mm} {K : RES → Mm → Prop} {x0 : Option Nat} {x1 : Option Nat} {x2 : Option Nat} {x3 : Int32} {x4 : Int32} {s0 : Int32}
    (h : ((s0 < 0 → uc ≤ 12000 ∧ us ≤ 80000 ∧ K (.inl (some (vI (0 : Int32)))) σ) ∧ (¬ s0 < 0 → uc + 500 ≤ 12000 ∧ us + 3000 ≤ 80000 ∧ Runs G mL_sum rL_sum [(vR x1)] σ (bk G mL_undone rL_undone (uc + 500) (us + 3000) 429 [some (vR x0), some (vR x1), some (vR x2), some (vI x3), some (vI x4), none, none, none, none] [] K)))) : At G mL_undone rL_undone uc us 422 [some (vR x0), some (vR x1), some (vR x2), some (vI x3), some (vI x4), none, none, none, none] [(vI s0)] σ K := by
  refine s_if_lt (tgt := 437) dL_undone_422 (by decide) (fun q1 => ?_) (fun q1 => ?_)
  · have h := h.1 q1
    refine s_iconst (v := 0) dL_undone_437 (by decide) ?_
    obtain ⟨u2, u3, h⟩ := h
    exact s_ireturn dL_undone_438 rfl rfl u2 u3 h
  · have h := h.2 q1
    refine s_aload_n (i := 1) dL_undone_425 rfl rfl ?_
    obtain ⟨u4, u5, h⟩ := h
    exact s_callS (as := [(vR x1)]) (S := []) gk dL_undone_426 gL_350 w_1393 rfl rfl (Nat.le_of_ble_eq_true rfl) ⟨by decide, by decide, u4, u5⟩ h
theorem vL_undone_429 {G : GG} (gk : GOK G) {uc us : Nat} {σ : Mm} {K : RES → Mm → Prop} {x0 : Option Nat} {x1 : Option Nat} {x2 : Option Nat} {x3 : Int32} {x4 : Int32} {s0 : Int64}
    (h : ∃ a1, x2 = some a1 ∧ ∃ n3, mt σ a1 = (51, n3) ∧ vp_in x4 n3 ∧ (((lg_cmp s0 (ml σ a1 x4.toNatClampNeg)) = 0 → At G mL_undone rL_undone uc us 413 [some (vR x0), some (vR x1), some (vR x2), some (vI x3), some (vI (x4 + (-1))), none, none, none, none] [] σ K) ∧ (¬ (lg_cmp s0 (ml σ a1 x4.toNatClampNeg)) = 0 → uc ≤ 12000 ∧ us ≤ 80000 ∧ K (.inl (some (vI (0 : Int32)))) σ))) : At G mL_undone rL_undone uc us 429 [some (vR x0), some (vR x1), some (vR x2), some (vI x3), some (vI x4), none, none, none, none] [(vL s0)] σ K := by
  refine s_aload_n (i := 2) dL_undone_429 rfl rfl ?_
  refine s_iload dL_undone_430 rfl ?_
  obtain ⟨a1, ea1, h⟩ := h
  obtain ⟨n3, t2, h⟩ := h
  obtain ⟨c4, h⟩ := h
  refine t_lald gk dL_undone_432 ea1 t2 c4 ?_
  refine s_lcmp dL_undone_433 ?_
  refine s_if_eq (tgt := 439) dL_undone_434 (by decide) (fun q5 => ?_) (fun q5 => ?_)
  · have h := h.1 q5
    refine s_iinc (v := x4 + (-1)) (L' := [some (vR x0), some (vR x1), some (vR x2), some (vI x3), some (vI (x4 + (-1))), none, none, none, none]) dL_undone_439 rfl rfl rfl (by decide) rfl ?_
    refine s_goto (tgt := 413) dL_undone_442 (by decide) ?_
    exact h
  · have h := h.2 q5
    refine s_iconst (v := 0) dL_undone_437 (by decide) ?_
    obtain ⟨u6, u7, h⟩ := h
    exact s_ireturn dL_undone_438 rfl rfl u6 u7 h
