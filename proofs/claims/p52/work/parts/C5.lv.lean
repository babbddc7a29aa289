/-! ===== the law, region by region ===== -/
theorem vL_drawn_0 {G : GG} (gk : GOK G) {uc us : Nat} {σ : Mm} {K : RES → Mm → Prop} {x0 : Option Nat}
    (h : uc + 1 ≤ 10000 ∧ us + 8 ≤ 200000 ∧ ∀ σ3, σ3 = nw σ (9, 0) → (uc + 1) + 787 ≤ 10000 ∧ (us + 8) + 5118 ≤ 200000 ∧ ∃ K4 : RES → Mm → Prop, Runs G mX8_init rX8_init [(vR (some (mz σ)))] σ3 K4 ∧ (∀ E t, ¬ K4 (.inr E) t) ∧ (∀ v t, K4 (.inl v) t → At G mL_drawn rL_drawn ((uc + 1) + 787) ((us + 8) + 5118) 7 [some (vR x0), none, none, none, none, none, none, none, none, none] (v.toList ++ [(vR (some (mz σ)))]) t K)) : At G mL_drawn rL_drawn uc us 0 [some (vR x0), none, none, none, none, none, none, none, none, none] [] σ K := by
  obtain ⟨u1, u2, h⟩ := h
  refine t_new gk dL_drawn_0 nL_9 u1 u2 (fun σ3 eσ3 => ?_)
  replace h := h σ3 eσ3
  refine s_dup dL_drawn_3 rfl ?_
  obtain ⟨u5, u6, h⟩ := h
  obtain ⟨K4, h1, h2, h3⟩ := h
  exact s_callI (rmY := rX8_init) (a := mz σ) (as := []) (S := [(vR (some (mz σ)))]) gk dL_drawn_4 gL_165 w_38 rfl rfl rfl rfl (Nat.le_of_ble_eq_true rfl) ⟨by decide, by decide, u5, u6⟩ h1 h2 h3
theorem eL_drawn {G : GG} (gk : GOK G) {σ : Mm} {K : RES → Mm → Prop} {x0 : Option Nat}
    (h : 0 + 1 ≤ 10000 ∧ 0 + 8 ≤ 200000 ∧ ∀ σ3, σ3 = nw σ (9, 0) → (0 + 1) + 787 ≤ 10000 ∧ (0 + 8) + 5118 ≤ 200000 ∧ ∃ K4 : RES → Mm → Prop, Runs G mX8_init rX8_init [(vR (some (mz σ)))] σ3 K4 ∧ (∀ E t, ¬ K4 (.inr E) t) ∧ (∀ v t, K4 (.inl v) t → At G mL_drawn rL_drawn ((0 + 1) + 787) ((0 + 8) + 5118) 7 [some (vR x0), none, none, none, none, none, none, none, none, none] (v.toList ++ [(vR (some (mz σ)))]) t K)) : Runs G mL_drawn rL_drawn [(vR x0)] σ K := Runs.of (by decide) rfl (Nat.le_of_ble_eq_true rfl) (vL_drawn_0 gk h)
theorem vL_drawn_7 {G : GG} (gk : GOK G) {uc us : Nat} {σ : Mm} {K : RES → Mm → Prop} {x0 : Option Nat} {s0 : Option Nat}
    (h : uc + 0 ≤ 10000 ∧ us + 0 ≤ 200000 ∧ Runs G mL_cell rL_cell [(vR x0), (vI (0 : Int32))] σ (bk G mL_drawn rL_drawn (uc + 0) (us + 0) 13 [some (vR x0), some (vR s0), none, none, none, none, none, none, none, none] [] K)) : At G mL_drawn rL_drawn uc us 7 [some (vR x0), none, none, none, none, none, none, none, none, none] [(vR s0)] σ K := by
  refine s_astore_n (i := 1) (L' := [some (vR x0), some (vR s0), none, none, none, none, none, none, none, none]) dL_drawn_7 rfl rfl (by decide) rfl ?_
  refine s_aload_n (i := 0) dL_drawn_8 rfl rfl ?_
  refine s_iconst (v := 0) dL_drawn_9 (by decide) ?_
  obtain ⟨u1, u2, h⟩ := h
  exact s_callS (as := [(vR x0), (vI (0 : Int32))]) (S := []) gk dL_drawn_10 gL_166 w_362 rfl rfl (Nat.le_of_ble_eq_true rfl) ⟨by decide, by decide, u1, u2⟩ h
theorem vL_drawn_13 {G : GG} (gk : GOK G) {uc us : Nat} {σ : Mm} {K : RES → Mm → Prop} {x0 : Option Nat} {x1 : Option Nat} {s0 : Int32}
    (h : At G mL_drawn rL_drawn uc us 35 [some (vR x0), some (vR x1), some (vI (us_ s0 (1 : Int32))), some (vI ((2 : Int32) + ((us_ s0 (1 : Int32)) - (us_ s0 (1 : Int32)) / (6 : Int32) * (6 : Int32)))), some (vI ((1 : Int32) + ((us_ (us_ s0 (1 : Int32)) (3 : Int32)) - (us_ (us_ s0 (1 : Int32)) (3 : Int32)) / (3 : Int32) * (3 : Int32)))), some (vI (0 : Int32)), none, none, none, none] [] σ K) : At G mL_drawn rL_drawn uc us 13 [some (vR x0), some (vR x1), none, none, none, none, none, none, none, none] [(vI s0)] σ K := by
  refine s_iconst (v := 1) dL_drawn_13 (by decide) ?_
  refine s_iushr dL_drawn_14 ?_
  refine s_istore_n (i := 2) (L' := [some (vR x0), some (vR x1), some (vI (us_ s0 (1 : Int32))), none, none, none, none, none, none, none]) dL_drawn_15 rfl rfl (by decide) rfl ?_
  refine s_iconst (v := 2) dL_drawn_16 (by decide) ?_
  refine s_iload_n (i := 2) dL_drawn_17 rfl rfl ?_
  refine s_bipush (v := 6) dL_drawn_18 (by decide) ?_
  refine s_irem dL_drawn_20 (by decide) ?_
  refine s_iadd dL_drawn_21 ?_
  refine s_istore_n (i := 3) (L' := [some (vR x0), some (vR x1), some (vI (us_ s0 (1 : Int32))), some (vI ((2 : Int32) + ((us_ s0 (1 : Int32)) - (us_ s0 (1 : Int32)) / (6 : Int32) * (6 : Int32)))), none, none, none, none, none, none]) dL_drawn_22 rfl rfl (by decide) rfl ?_
  refine s_iconst (v := 1) dL_drawn_23 (by decide) ?_
  refine s_iload_n (i := 2) dL_drawn_24 rfl rfl ?_
  refine s_iconst (v := 3) dL_drawn_25 (by decide) ?_
  refine s_iushr dL_drawn_26 ?_
  refine s_iconst (v := 3) dL_drawn_27 (by decide) ?_
  refine s_irem dL_drawn_28 (by decide) ?_
  refine s_iadd dL_drawn_29 ?_
  refine s_istore (L' := [some (vR x0), some (vR x1), some (vI (us_ s0 (1 : Int32))), some (vI ((2 : Int32) + ((us_ s0 (1 : Int32)) - (us_ s0 (1 : Int32)) / (6 : Int32) * (6 : Int32)))), some (vI ((1 : Int32) + ((us_ (us_ s0 (1 : Int32)) (3 : Int32)) - (us_ (us_ s0 (1 : Int32)) (3 : Int32)) / (3 : Int32) * (3 : Int32)))), none, none, none, none, none]) dL_drawn_30 rfl (by decide) rfl ?_
  refine s_iconst (v := 0) dL_drawn_32 (by decide) ?_
  refine s_istore (L' := [some (vR x0), some (vR x1), some (vI (us_ s0 (1 : Int32))), some (vI ((2 : Int32) + ((us_ s0 (1 : Int32)) - (us_ s0 (1 : Int32)) / (6 : Int32) * (6 : Int32)))), some (vI ((1 : Int32) + ((us_ (us_ s0 (1 : Int32)) (3 : Int32)) - (us_ (us_ s0 (1 : Int32)) (3 : Int32)) / (3 : Int32) * (3 : Int32)))), some (vI (0 : Int32)), none, none, none, none]) dL_drawn_33 rfl (by decide) rfl ?_
  exact h
theorem vL_drawn_35 {G : GG} (gk : GOK G) {uc us : Nat} {σ : Mm} {K : RES → Mm → Prop} {x0 : Option Nat} {x1 : Option Nat} {x2 : Int32} {x3 : Int32} {x4 : Int32} {x5 : Int32}
    (h : ((x3 ≤ x5 → At G mL_drawn rL_drawn uc us 84 [some (vR x0), some (vR x1), some (vI x2), some (vI x3), some (vI x4), some (vI (0 : Int32)), none, none, none, none] [] σ K) ∧ (¬ x3 ≤ x5 → uc + 0 ≤ 10000 ∧ us + 0 ≤ 200000 ∧ Runs G mL_cell rL_cell [(vR x0), (vI ((1 : Int32) + x5))] σ (bk G mL_drawn rL_drawn (uc + 0) (us + 0) 58 [some (vR x0), some (vR x1), some (vI x2), some (vI x3), some (vI x4), some (vI x5), none, none, none, none] [(vI (i2c ((97 : Int32) + ((3 : Int32) * x5)))), (vR x1)] K)))) : At G mL_drawn rL_drawn uc us 35 [some (vR x0), some (vR x1), some (vI x2), some (vI x3), some (vI x4), some (vI x5), none, none, none, none] [] σ K := by
  refine s_iload dL_drawn_35 rfl ?_
  refine s_iload_n (i := 3) dL_drawn_37 rfl rfl ?_
  refine s_icmp_ge (tgt := 81) dL_drawn_38 (by decide) (fun q1 => ?_) (fun q1 => ?_)
  · have h := h.1 q1
    refine s_iconst (v := 0) dL_drawn_81 (by decide) ?_
    refine s_istore (L' := [some (vR x0), some (vR x1), some (vI x2), some (vI x3), some (vI x4), some (vI (0 : Int32)), none, none, none, none]) dL_drawn_82 rfl (by decide) rfl ?_
    exact h
  · have h := h.2 q1
    refine s_aload_n (i := 1) dL_drawn_41 rfl rfl ?_
    refine s_bipush (v := 97) dL_drawn_42 (by decide) ?_
    refine s_iconst (v := 3) dL_drawn_44 (by decide) ?_
    refine s_iload dL_drawn_45 rfl ?_
    refine s_imul dL_drawn_47 ?_
    refine s_iadd dL_drawn_48 ?_
    refine s_i2c (v := i2c ((97 : Int32) + ((3 : Int32) * x5))) dL_drawn_49 rfl ?_
    refine s_aload_n (i := 0) dL_drawn_50 rfl rfl ?_
    refine s_iconst (v := 1) dL_drawn_51 (by decide) ?_
    refine s_iload dL_drawn_52 rfl ?_
    refine s_iadd dL_drawn_54 ?_
    obtain ⟨u2, u3, h⟩ := h
    exact s_callS (as := [(vR x0), (vI ((1 : Int32) + x5))]) (S := [(vI (i2c ((97 : Int32) + ((3 : Int32) * x5)))), (vR x1)]) gk dL_drawn_55 gL_166 w_362 rfl rfl (Nat.le_of_ble_eq_true rfl) ⟨by decide, by decide, u2, u3⟩ h
theorem vL_drawn_58 {G : GG} (gk : GOK G) {uc us : Nat} {σ : Mm} {K : RES → Mm → Prop} {x0 : Option Nat} {x1 : Option Nat} {x2 : Int32} {x3 : Int32} {x4 : Int32} {x5 : Int32} {s0 : Int32} {s1 : Int32} {s2 : Option Nat}
    (h : uc + 1 ≤ 10000 ∧ us + 6 ≤ 200000 ∧ RunsH G mL_addJar hL_addJar rL_addJar [(vR s2), (vI s1), (vI ((us_ s0 (1 : Int32)) - (us_ s0 (1 : Int32)) / (100 : Int32) * (100 : Int32)))] σ (bk G mL_drawn rL_drawn (uc + 1) (us + 6) 66 [some (vR x0), some (vR x1), some (vI x2), some (vI x3), some (vI x4), some (vI x5), none, none, none, none] [] K)) : At G mL_drawn rL_drawn uc us 58 [some (vR x0), some (vR x1), some (vI x2), some (vI x3), some (vI x4), some (vI x5), none, none, none, none] [(vI s0), (vI s1), (vR s2)] σ K := by
  refine s_iconst (v := 1) dL_drawn_58 (by decide) ?_
  refine s_iushr dL_drawn_59 ?_
  refine s_bipush (v := 100) dL_drawn_60 (by decide) ?_
  refine s_irem dL_drawn_62 (by decide) ?_
  obtain ⟨u1, u2, h⟩ := h
  exact s_callSH (as := [(vR s2), (vI s1), (vI ((us_ s0 (1 : Int32)) - (us_ s0 (1 : Int32)) / (100 : Int32) * (100 : Int32)))]) (S := []) gk dL_drawn_63 (kL_addJar _ _ w_365) w_366 rfl rfl (Nat.le_of_ble_eq_true rfl) ⟨by decide, by decide, u1, u2⟩ h
theorem vL_drawn_66 {G : GG} (gk : GOK G) {uc us : Nat} {σ : Mm} {K : RES → Mm → Prop} {x0 : Option Nat} {x1 : Option Nat} {x2 : Int32} {x3 : Int32} {x4 : Int32} {x5 : Int32} {s0 : Int32}
    (h : ((s0 = (x5 + (1 : Int32)) → At G mL_drawn rL_drawn uc us 35 [some (vR x0), some (vR x1), some (vI x2), some (vI x3), some (vI x4), some (vI (x5 + 1)), none, none, none, none] [] σ K) ∧ (¬ s0 = (x5 + (1 : Int32)) → uc ≤ 10000 ∧ us ≤ 200000 ∧ K (.inl (some (vR none))) σ))) : At G mL_drawn rL_drawn uc us 66 [some (vR x0), some (vR x1), some (vI x2), some (vI x3), some (vI x4), some (vI x5), none, none, none, none] [(vI s0)] σ K := by
  refine s_iload dL_drawn_66 rfl ?_
  refine s_iconst (v := 1) dL_drawn_68 (by decide) ?_
  refine s_iadd dL_drawn_69 ?_
  refine s_icmp_eq (tgt := 75) dL_drawn_70 (by decide) (fun q1 => ?_) (fun q1 => ?_)
  · have h := h.1 q1
    refine s_iinc (v := x5 + 1) (L' := [some (vR x0), some (vR x1), some (vI x2), some (vI x3), some (vI x4), some (vI (x5 + 1)), none, none, none, none]) dL_drawn_75 rfl rfl rfl (by decide) rfl ?_
    refine s_goto (tgt := 35) dL_drawn_78 (by decide) ?_
    exact h
  · have h := h.2 q1
    refine s_null dL_drawn_73 ?_
    obtain ⟨u2, u3, h⟩ := h
    exact s_areturn dL_drawn_74 rfl rfl u2 u3 h
theorem vL_drawn_84 {G : GG} (gk : GOK G) {uc us : Nat} {σ : Mm} {K : RES → Mm → Prop} {x0 : Option Nat} {x1 : Option Nat} {x2 : Int32} {x3 : Int32} {x4 : Int32} {x5 : Int32}
    (h : ((x4 ≤ x5 → At G mL_drawn rL_drawn uc us 151 [some (vR x0), some (vR x1), some (vI x2), some (vI x3), some (vI x4), some (vI (0 : Int32)), none, none, none, none] [] σ K) ∧ (¬ x4 ≤ x5 → uc + 0 ≤ 10000 ∧ us + 0 ≤ 200000 ∧ Runs G mL_cell rL_cell [(vR x0), (vI ((8 : Int32) + x5))] σ (bk G mL_drawn rL_drawn (uc + 0) (us + 0) 100 [some (vR x0), some (vR x1), some (vI x2), some (vI x3), some (vI x4), some (vI x5), none, none, none, none] [] K)))) : At G mL_drawn rL_drawn uc us 84 [some (vR x0), some (vR x1), some (vI x2), some (vI x3), some (vI x4), some (vI x5), none, none, none, none] [] σ K := by
  refine s_iload dL_drawn_84 rfl ?_
  refine s_iload dL_drawn_86 rfl ?_
  refine s_icmp_ge (tgt := 148) dL_drawn_88 (by decide) (fun q1 => ?_) (fun q1 => ?_)
  · have h := h.1 q1
    refine s_iconst (v := 0) dL_drawn_148 (by decide) ?_
    refine s_istore (L' := [some (vR x0), some (vR x1), some (vI x2), some (vI x3), some (vI x4), some (vI (0 : Int32)), none, none, none, none]) dL_drawn_149 rfl (by decide) rfl ?_
    exact h
  · have h := h.2 q1
    refine s_aload_n (i := 0) dL_drawn_91 rfl rfl ?_
    refine s_bipush (v := 8) dL_drawn_92 (by decide) ?_
    refine s_iload dL_drawn_94 rfl ?_
    refine s_iadd dL_drawn_96 ?_
    obtain ⟨u2, u3, h⟩ := h
    exact s_callS (as := [(vR x0), (vI ((8 : Int32) + x5))]) (S := []) gk dL_drawn_97 gL_166 w_362 rfl rfl (Nat.le_of_ble_eq_true rfl) ⟨by decide, by decide, u2, u3⟩ h
theorem vL_drawn_100 {G : GG} (gk : GOK G) (sok : SOK G) {uc us : Nat} {σ : Mm} {K : RES → Mm → Prop} {x0 : Option Nat} {x1 : Option Nat} {x2 : Int32} {x3 : Int32} {x4 : Int32} {x5 : Int32} {s0 : Int32}
    (h : ∀ q1 : Nat, SCT G q1 [114, 111, 108] → oO G "java/lang/String" q1 ∧ uc + 0 ≤ 10000 ∧ us + 0 ≤ 200000 ∧ Runs G mJ0_charAt_5068e rJ0_charAt_5068e [(vR (some q1)), (vI ((us_ (us_ s0 (1 : Int32)) (7 : Int32)) - (us_ (us_ s0 (1 : Int32)) (7 : Int32)) / (3 : Int32) * (3 : Int32)))] σ (bk G mL_drawn rL_drawn (uc + 0) (us + 0) 132 [some (vR x0), some (vR x1), some (vI x2), some (vI x3), some (vI x4), some (vI x5), some (vI (us_ s0 (1 : Int32))), none, none, none] [(vI ((1 : Int32) + ((us_ (us_ s0 (1 : Int32)) (3 : Int32)) - (us_ (us_ s0 (1 : Int32)) (3 : Int32)) / (9 : Int32) * (9 : Int32)))), (vI ((1 : Int32) + ((us_ s0 (1 : Int32)) - (us_ s0 (1 : Int32)) / (4 : Int32) * (4 : Int32)))), (vR x1)] K)) : At G mL_drawn rL_drawn uc us 100 [some (vR x0), some (vR x1), some (vI x2), some (vI x3), some (vI x4), some (vI x5), none, none, none, none] [(vI s0)] σ K := by
  refine s_iconst (v := 1) dL_drawn_100 (by decide) ?_
  refine s_iushr dL_drawn_101 ?_
  refine s_istore (L' := [some (vR x0), some (vR x1), some (vI x2), some (vI x3), some (vI x4), some (vI x5), some (vI (us_ s0 (1 : Int32))), none, none, none]) dL_drawn_102 rfl (by decide) rfl ?_
  refine s_aload_n (i := 1) dL_drawn_104 rfl rfl ?_
  refine s_iconst (v := 1) dL_drawn_105 (by decide) ?_
  refine s_iload dL_drawn_106 rfl ?_
  refine s_iconst (v := 4) dL_drawn_108 (by decide) ?_
  refine s_irem dL_drawn_109 (by decide) ?_
  refine s_iadd dL_drawn_110 ?_
  refine s_iconst (v := 1) dL_drawn_111 (by decide) ?_
  refine s_iload dL_drawn_112 rfl ?_
  refine s_iconst (v := 3) dL_drawn_114 (by decide) ?_
  refine s_iushr dL_drawn_115 ?_
  refine s_bipush (v := 9) dL_drawn_116 (by decide) ?_
  refine s_irem dL_drawn_118 (by decide) ?_
  refine s_iadd dL_drawn_119 ?_
  obtain ⟨q1, v2, z3, u4⟩ := txs_9 sok
  refine s_ldcS dL_drawn_120 z3 ?_
  replace h := h q1 ⟨v2, u4⟩
  refine s_iload dL_drawn_122 rfl ?_
  refine s_bipush (v := 7) dL_drawn_124 (by decide) ?_
  refine s_iushr dL_drawn_126 ?_
  refine s_iconst (v := 3) dL_drawn_127 (by decide) ?_
  refine s_irem dL_drawn_128 (by decide) ?_
  obtain ⟨o5, h⟩ := h
  obtain ⟨u6, u7, h⟩ := h
  exact s_callVS (rmY := rJ0_charAt_5068e) (as := [(vI ((us_ (us_ s0 (1 : Int32)) (7 : Int32)) - (us_ (us_ s0 (1 : Int32)) (7 : Int32)) / (3 : Int32) * (3 : Int32)))]) (S := [(vI ((1 : Int32) + ((us_ (us_ s0 (1 : Int32)) (3 : Int32)) - (us_ (us_ s0 (1 : Int32)) (3 : Int32)) / (9 : Int32) * (9 : Int32)))), (vI ((1 : Int32) + ((us_ s0 (1 : Int32)) - (us_ s0 (1 : Int32)) / (4 : Int32) * (4 : Int32)))), (vR x1)]) gk dL_drawn_129 gL_153 w_561 w_562 o5 rfl rfl (Nat.le_of_ble_eq_true rfl) ⟨by decide, by decide, u6, u7⟩ h
theorem vL_drawn_132 {G : GG} (gk : GOK G) {uc us : Nat} {σ : Mm} {K : RES → Mm → Prop} {x0 : Option Nat} {x1 : Option Nat} {x2 : Int32} {x3 : Int32} {x4 : Int32} {x5 : Int32} {x6 : Int32} {s0 : Int32} {s1 : Int32} {s2 : Int32} {s3 : Option Nat}
    (h : uc + 1 ≤ 10000 ∧ us + 6 ≤ 200000 ∧ RunsH G mL_addShelf hL_addShelf rL_addShelf [(vR s3), (vI s2), (vI s1), (vI s0)] σ (bk G mL_drawn rL_drawn (uc + 1) (us + 6) 135 [some (vR x0), some (vR x1), some (vI x2), some (vI x3), some (vI x4), some (vI x5), some (vI x6), none, none, none] [] K)) : At G mL_drawn rL_drawn uc us 132 [some (vR x0), some (vR x1), some (vI x2), some (vI x3), some (vI x4), some (vI x5), some (vI x6), none, none, none] [(vI s0), (vI s1), (vI s2), (vR s3)] σ K := by
  obtain ⟨u1, u2, h⟩ := h
  exact s_callSH (as := [(vR s3), (vI s2), (vI s1), (vI s0)]) (S := []) gk dL_drawn_132 (kL_addShelf _ _ w_599) w_600 rfl rfl (Nat.le_of_ble_eq_true rfl) ⟨by decide, by decide, u1, u2⟩ h
theorem vL_drawn_135 {G : GG} (gk : GOK G) {uc us : Nat} {σ : Mm} {K : RES → Mm → Prop} {x0 : Option Nat} {x1 : Option Nat} {x2 : Int32} {x3 : Int32} {x4 : Int32} {x5 : Int32} {x6 : Int32} {s0 : Int32}
    (h : ((s0 = x5 → At G mL_drawn rL_drawn uc us 84 [some (vR x0), some (vR x1), some (vI x2), some (vI x3), some (vI x4), some (vI (x5 + 1)), none, none, none, none] [] σ K) ∧ (¬ s0 = x5 → uc ≤ 10000 ∧ us ≤ 200000 ∧ K (.inl (some (vR none))) σ))) : At G mL_drawn rL_drawn uc us 135 [some (vR x0), some (vR x1), some (vI x2), some (vI x3), some (vI x4), some (vI x5), some (vI x6), none, none, none] [(vI s0)] σ K := by
  refine s_iload dL_drawn_135 rfl ?_
  refine s_icmp_eq (tgt := 142) dL_drawn_137 (by decide) (fun q1 => ?_) (fun q1 => ?_)
  · have h := h.1 q1
    refine s_iinc (v := x5 + 1) (L' := [some (vR x0), some (vR x1), some (vI x2), some (vI x3), some (vI x4), some (vI (x5 + 1)), some (vI x6), none, none, none]) dL_drawn_142 rfl rfl rfl (by decide) rfl ?_
    refine s_goto (tgt := 84) dL_drawn_145 (by decide) ?_
    exact h.msk ⟨rfl, ⟨rfl, ⟨rfl, ⟨rfl, ⟨rfl, ⟨rfl, trivial⟩⟩⟩⟩⟩⟩
  · have h := h.2 q1
    refine s_null dL_drawn_140 ?_
    obtain ⟨u2, u3, h⟩ := h
    exact s_areturn dL_drawn_141 rfl rfl u2 u3 h
theorem vL_drawn_151 {G : GG} (gk : GOK G) {uc us : Nat} {σ : Mm} {K : RES → Mm → Prop} {x0 : Option Nat} {x1 : Option Nat} {x2 : Int32} {x3 : Int32} {x4 : Int32} {x5 : Int32}
    (h : (((14 : Int32) ≤ x5 → uc ≤ 10000 ∧ us ≤ 200000 ∧ K (.inl (some (vR x1))) σ) ∧ (¬ (14 : Int32) ≤ x5 → uc + 0 ≤ 10000 ∧ us + 0 ≤ 200000 ∧ Runs G mL_cell rL_cell [(vR x0), (vI ((11 : Int32) + x5))] σ (bk G mL_drawn rL_drawn (uc + 0) (us + 0) 167 [some (vR x0), some (vR x1), some (vI x2), some (vI x3), some (vI x4), some (vI x5), none, none, none, none] [] K)))) : At G mL_drawn rL_drawn uc us 151 [some (vR x0), some (vR x1), some (vI x2), some (vI x3), some (vI x4), some (vI x5), none, none, none, none] [] σ K := by
  refine s_iload dL_drawn_151 rfl ?_
  refine s_bipush (v := 14) dL_drawn_153 (by decide) ?_
  refine s_icmp_ge (tgt := 341) dL_drawn_155 (by decide) (fun q1 => ?_) (fun q1 => ?_)
  · have h := h.1 q1
    refine s_aload_n (i := 1) dL_drawn_341 rfl rfl ?_
    obtain ⟨u2, u3, h⟩ := h
    exact s_areturn dL_drawn_342 rfl rfl u2 u3 h
  · have h := h.2 q1
    refine s_aload_n (i := 0) dL_drawn_158 rfl rfl ?_
    refine s_bipush (v := 11) dL_drawn_159 (by decide) ?_
    refine s_iload dL_drawn_161 rfl ?_
    refine s_iadd dL_drawn_163 ?_
    obtain ⟨u4, u5, h⟩ := h
    exact s_callS (as := [(vR x0), (vI ((11 : Int32) + x5))]) (S := []) gk dL_drawn_164 gL_166 w_362 rfl rfl (Nat.le_of_ble_eq_true rfl) ⟨by decide, by decide, u4, u5⟩ h
theorem vL_drawn_167 {G : GG} (gk : GOK G) {uc us : Nat} {σ : Mm} {K : RES → Mm → Prop} {x0 : Option Nat} {x1 : Option Nat} {x2 : Int32} {x3 : Int32} {x4 : Int32} {x5 : Int32} {s0 : Int32}
    (h : ¬ x3 = 0 ∧ ¬ x4 = 0 ∧ (((4 : Int32) ≤ ((us_ s0 (1 : Int32)) - (us_ s0 (1 : Int32)) / (8 : Int32) * (8 : Int32)) → ((¬ ((us_ s0 (1 : Int32)) - (us_ s0 (1 : Int32)) / (8 : Int32) * (8 : Int32)) = (4 : Int32) → ((¬ ((us_ s0 (1 : Int32)) - (us_ s0 (1 : Int32)) / (8 : Int32) * (8 : Int32)) = (5 : Int32) → ((¬ ((us_ s0 (1 : Int32)) - (us_ s0 (1 : Int32)) / (8 : Int32) * (8 : Int32)) = (6 : Int32) → ((((us_ s0 (1 : Int32)) - (us_ s0 (1 : Int32)) / (16 : Int32) * (16 : Int32)) ≤ (7 : Int32) → uc + 1 ≤ 10000 ∧ us + 6 ≤ 200000 ∧ RunsH G mL_listen hL_listen rL_listen [(vR x1), (vI ((us_ (us_ s0 (1 : Int32)) (6 : Int32)) - (us_ (us_ s0 (1 : Int32)) (6 : Int32)) / x4 * x4)), (vI (0 : Int32))] σ (bk G mL_drawn rL_drawn (uc + 1) (us + 6) 318 [some (vR x0), some (vR x1), some (vI x2), some (vI x3), some (vI x4), some (vI x5), some (vI (us_ s0 (1 : Int32))), some (vI (i2c ((97 : Int32) + ((3 : Int32) * ((us_ (us_ s0 (1 : Int32)) (3 : Int32)) - (us_ (us_ s0 (1 : Int32)) (3 : Int32)) / x3 * x3))))), some (vI ((us_ (us_ s0 (1 : Int32)) (6 : Int32)) - (us_ (us_ s0 (1 : Int32)) (6 : Int32)) / x4 * x4)), none] [] K)) ∧ (¬ ((us_ s0 (1 : Int32)) - (us_ s0 (1 : Int32)) / (16 : Int32) * (16 : Int32)) ≤ (7 : Int32) → uc + 1 ≤ 10000 ∧ us + 6 ≤ 200000 ∧ RunsH G mL_listen hL_listen rL_listen [(vR x1), (vI ((us_ (us_ s0 (1 : Int32)) (6 : Int32)) - (us_ (us_ s0 (1 : Int32)) (6 : Int32)) / x4 * x4)), (vI (1 : Int32))] σ (bk G mL_drawn rL_drawn (uc + 1) (us + 6) 318 [some (vR x0), some (vR x1), some (vI x2), some (vI x3), some (vI x4), some (vI x5), some (vI (us_ s0 (1 : Int32))), some (vI (i2c ((97 : Int32) + ((3 : Int32) * ((us_ (us_ s0 (1 : Int32)) (3 : Int32)) - (us_ (us_ s0 (1 : Int32)) (3 : Int32)) / x3 * x3))))), some (vI ((us_ (us_ s0 (1 : Int32)) (6 : Int32)) - (us_ (us_ s0 (1 : Int32)) (6 : Int32)) / x4 * x4)), none] [] K)))) ∧ (((us_ s0 (1 : Int32)) - (us_ s0 (1 : Int32)) / (8 : Int32) * (8 : Int32)) = (6 : Int32) → uc + 1 ≤ 10000 ∧ us + 6 ≤ 200000 ∧ RunsH G mL_pass hL_pass rL_pass [(vR x1), (vI ((1 : Int32) + ((us_ (us_ s0 (1 : Int32)) (9 : Int32)) - (us_ (us_ s0 (1 : Int32)) (9 : Int32)) / (4 : Int32) * (4 : Int32))))] σ (bk G mL_drawn rL_drawn (uc + 1) (us + 6) 294 [some (vR x0), some (vR x1), some (vI x2), some (vI x3), some (vI x4), some (vI x5), some (vI (us_ s0 (1 : Int32))), some (vI (i2c ((97 : Int32) + ((3 : Int32) * ((us_ (us_ s0 (1 : Int32)) (3 : Int32)) - (us_ (us_ s0 (1 : Int32)) (3 : Int32)) / x3 * x3))))), some (vI ((us_ (us_ s0 (1 : Int32)) (6 : Int32)) - (us_ (us_ s0 (1 : Int32)) (6 : Int32)) / x4 * x4)), none] [] K)))) ∧ (((us_ s0 (1 : Int32)) - (us_ s0 (1 : Int32)) / (8 : Int32) * (8 : Int32)) = (5 : Int32) → uc + 1 ≤ 10000 ∧ us + 6 ≤ 200000 ∧ RunsH G mL_warm hL_warm rL_warm [(vR x1), (vI ((us_ (us_ s0 (1 : Int32)) (6 : Int32)) - (us_ (us_ s0 (1 : Int32)) (6 : Int32)) / x4 * x4)), (vI (i2c ((97 : Int32) + ((3 : Int32) * ((us_ (us_ s0 (1 : Int32)) (3 : Int32)) - (us_ (us_ s0 (1 : Int32)) (3 : Int32)) / x3 * x3))))), (vI ((1 : Int32) + ((us_ (us_ s0 (1 : Int32)) (9 : Int32)) - (us_ (us_ s0 (1 : Int32)) (9 : Int32)) / (9 : Int32) * (9 : Int32))))] σ (bk G mL_drawn rL_drawn (uc + 1) (us + 6) 268 [some (vR x0), some (vR x1), some (vI x2), some (vI x3), some (vI x4), some (vI x5), some (vI (us_ s0 (1 : Int32))), some (vI (i2c ((97 : Int32) + ((3 : Int32) * ((us_ (us_ s0 (1 : Int32)) (3 : Int32)) - (us_ (us_ s0 (1 : Int32)) (3 : Int32)) / x3 * x3))))), some (vI ((us_ (us_ s0 (1 : Int32)) (6 : Int32)) - (us_ (us_ s0 (1 : Int32)) (6 : Int32)) / x4 * x4)), none] [] K)))) ∧ (((us_ s0 (1 : Int32)) - (us_ s0 (1 : Int32)) / (8 : Int32) * (8 : Int32)) = (4 : Int32) → uc + 1 ≤ 10000 ∧ us + 6 ≤ 200000 ∧ RunsH G mL_say hL_say rL_say [(vR x1), (vI (i2c ((97 : Int32) + ((3 : Int32) * ((us_ (us_ s0 (1 : Int32)) (3 : Int32)) - (us_ (us_ s0 (1 : Int32)) (3 : Int32)) / x3 * x3))))), (vI ((us_ (us_ s0 (1 : Int32)) (9 : Int32)) - (us_ (us_ s0 (1 : Int32)) (9 : Int32)) / (100 : Int32) * (100 : Int32)))] σ (bk G mL_drawn rL_drawn (uc + 1) (us + 6) 238 [some (vR x0), some (vR x1), some (vI x2), some (vI x3), some (vI x4), some (vI x5), some (vI (us_ s0 (1 : Int32))), some (vI (i2c ((97 : Int32) + ((3 : Int32) * ((us_ (us_ s0 (1 : Int32)) (3 : Int32)) - (us_ (us_ s0 (1 : Int32)) (3 : Int32)) / x3 * x3))))), some (vI ((us_ (us_ s0 (1 : Int32)) (6 : Int32)) - (us_ (us_ s0 (1 : Int32)) (6 : Int32)) / x4 * x4)), none] [] K)))) ∧ (¬ (4 : Int32) ≤ ((us_ s0 (1 : Int32)) - (us_ s0 (1 : Int32)) / (8 : Int32) * (8 : Int32)) → uc + 1 ≤ 10000 ∧ us + 6 ≤ 200000 ∧ RunsH G mL_hear hL_hear rL_hear [(vR x1), (vI ((us_ (us_ s0 (1 : Int32)) (6 : Int32)) - (us_ (us_ s0 (1 : Int32)) (6 : Int32)) / x4 * x4)), (vI (i2c ((97 : Int32) + ((3 : Int32) * ((us_ (us_ s0 (1 : Int32)) (3 : Int32)) - (us_ (us_ s0 (1 : Int32)) (3 : Int32)) / x3 * x3)))))] σ (bk G mL_drawn rL_drawn (uc + 1) (us + 6) 212 [some (vR x0), some (vR x1), some (vI x2), some (vI x3), some (vI x4), some (vI x5), some (vI (us_ s0 (1 : Int32))), some (vI (i2c ((97 : Int32) + ((3 : Int32) * ((us_ (us_ s0 (1 : Int32)) (3 : Int32)) - (us_ (us_ s0 (1 : Int32)) (3 : Int32)) / x3 * x3))))), some (vI ((us_ (us_ s0 (1 : Int32)) (6 : Int32)) - (us_ (us_ s0 (1 : Int32)) (6 : Int32)) / x4 * x4)), none] [] K)))) : At G mL_drawn rL_drawn uc us 167 [some (vR x0), some (vR x1), some (vI x2), some (vI x3), some (vI x4), some (vI x5), none, none, none, none] [(vI s0)] σ K := by
  refine s_iconst (v := 1) dL_drawn_167 (by decide) ?_
  refine s_iushr dL_drawn_168 ?_
  refine s_istore (L' := [some (vR x0), some (vR x1), some (vI x2), some (vI x3), some (vI x4), some (vI x5), some (vI (us_ s0 (1 : Int32))), none, none, none]) dL_drawn_169 rfl (by decide) rfl ?_
  refine s_bipush (v := 97) dL_drawn_171 (by decide) ?_
  refine s_iconst (v := 3) dL_drawn_173 (by decide) ?_
  refine s_iload dL_drawn_174 rfl ?_
  refine s_iconst (v := 3) dL_drawn_176 (by decide) ?_
  refine s_iushr dL_drawn_177 ?_
  refine s_iload_n (i := 3) dL_drawn_178 rfl rfl ?_
  obtain ⟨c1, h⟩ := h
  refine s_irem dL_drawn_179 c1 ?_
  refine s_imul dL_drawn_180 ?_
  refine s_iadd dL_drawn_181 ?_
  refine s_i2c (v := i2c ((97 : Int32) + ((3 : Int32) * ((us_ (us_ s0 (1 : Int32)) (3 : Int32)) - (us_ (us_ s0 (1 : Int32)) (3 : Int32)) / x3 * x3)))) dL_drawn_182 rfl ?_
  refine s_istore (L' := [some (vR x0), some (vR x1), some (vI x2), some (vI x3), some (vI x4), some (vI x5), some (vI (us_ s0 (1 : Int32))), some (vI (i2c ((97 : Int32) + ((3 : Int32) * ((us_ (us_ s0 (1 : Int32)) (3 : Int32)) - (us_ (us_ s0 (1 : Int32)) (3 : Int32)) / x3 * x3))))), none, none]) dL_drawn_183 rfl (by decide) rfl ?_
  refine s_iload dL_drawn_185 rfl ?_
  refine s_bipush (v := 6) dL_drawn_187 (by decide) ?_
  refine s_iushr dL_drawn_189 ?_
  refine s_iload dL_drawn_190 rfl ?_
  obtain ⟨c2, h⟩ := h
  refine s_irem dL_drawn_192 c2 ?_
  refine s_istore (L' := [some (vR x0), some (vR x1), some (vI x2), some (vI x3), some (vI x4), some (vI x5), some (vI (us_ s0 (1 : Int32))), some (vI (i2c ((97 : Int32) + ((3 : Int32) * ((us_ (us_ s0 (1 : Int32)) (3 : Int32)) - (us_ (us_ s0 (1 : Int32)) (3 : Int32)) / x3 * x3))))), some (vI ((us_ (us_ s0 (1 : Int32)) (6 : Int32)) - (us_ (us_ s0 (1 : Int32)) (6 : Int32)) / x4 * x4)), none]) dL_drawn_193 rfl (by decide) rfl ?_
  refine s_iload dL_drawn_195 rfl ?_
  refine s_bipush (v := 8) dL_drawn_197 (by decide) ?_
  refine s_irem dL_drawn_199 (by decide) ?_
  refine s_iconst (v := 4) dL_drawn_200 (by decide) ?_
  refine s_icmp_ge (tgt := 215) dL_drawn_201 (by decide) (fun q3 => ?_) (fun q3 => ?_)
  · have h := h.1 q3
    refine s_iload dL_drawn_215 rfl ?_
    refine s_bipush (v := 8) dL_drawn_217 (by decide) ?_
    refine s_irem dL_drawn_219 (by decide) ?_
    refine s_iconst (v := 4) dL_drawn_220 (by decide) ?_
    refine s_icmp_ne (tgt := 241) dL_drawn_221 (by decide) (fun q4 => ?_) (fun q4 => ?_)
    · have h := h.1 q4
      refine s_iload dL_drawn_241 rfl ?_
      refine s_bipush (v := 8) dL_drawn_243 (by decide) ?_
      refine s_irem dL_drawn_245 (by decide) ?_
      refine s_iconst (v := 5) dL_drawn_246 (by decide) ?_
      refine s_icmp_ne (tgt := 271) dL_drawn_247 (by decide) (fun q5 => ?_) (fun q5 => ?_)
      · have h := h.1 q5
        refine s_iload dL_drawn_271 rfl ?_
        refine s_bipush (v := 8) dL_drawn_273 (by decide) ?_
        refine s_irem dL_drawn_275 (by decide) ?_
        refine s_bipush (v := 6) dL_drawn_276 (by decide) ?_
        refine s_icmp_ne (tgt := 297) dL_drawn_278 (by decide) (fun q6 => ?_) (fun q6 => ?_)
        · have h := h.1 q6
          refine s_aload_n (i := 1) dL_drawn_297 rfl rfl ?_
          refine s_iload dL_drawn_298 rfl ?_
          refine s_iload dL_drawn_300 rfl ?_
          refine s_bipush (v := 16) dL_drawn_302 (by decide) ?_
          refine s_irem dL_drawn_304 (by decide) ?_
          refine s_bipush (v := 7) dL_drawn_305 (by decide) ?_
          refine s_icmp_le (tgt := 314) dL_drawn_307 (by decide) (fun q7 => ?_) (fun q7 => ?_)
          · have h := h.1 q7
            refine s_iconst (v := 0) dL_drawn_314 (by decide) ?_
            obtain ⟨u8, u9, h⟩ := h
            exact s_callSH (as := [(vR x1), (vI ((us_ (us_ s0 (1 : Int32)) (6 : Int32)) - (us_ (us_ s0 (1 : Int32)) (6 : Int32)) / x4 * x4)), (vI (0 : Int32))]) (S := []) gk dL_drawn_315 (kL_listen _ _ w_782) w_783 rfl rfl (Nat.le_of_ble_eq_true rfl) ⟨by decide, by decide, u8, u9⟩ h
          · have h := h.2 q7
            refine s_iconst (v := 1) dL_drawn_310 (by decide) ?_
            refine s_goto (tgt := 315) dL_drawn_311 (by decide) ?_
            obtain ⟨u10, u11, h⟩ := h
            exact s_callSH (as := [(vR x1), (vI ((us_ (us_ s0 (1 : Int32)) (6 : Int32)) - (us_ (us_ s0 (1 : Int32)) (6 : Int32)) / x4 * x4)), (vI (1 : Int32))]) (S := []) gk dL_drawn_315 (kL_listen _ _ w_782) w_783 rfl rfl (Nat.le_of_ble_eq_true rfl) ⟨by decide, by decide, u10, u11⟩ h
        · have h := h.2 q6
          refine s_aload_n (i := 1) dL_drawn_281 rfl rfl ?_
          refine s_iconst (v := 1) dL_drawn_282 (by decide) ?_
          refine s_iload dL_drawn_283 rfl ?_
          refine s_bipush (v := 9) dL_drawn_285 (by decide) ?_
          refine s_iushr dL_drawn_287 ?_
          refine s_iconst (v := 4) dL_drawn_288 (by decide) ?_
          refine s_irem dL_drawn_289 (by decide) ?_
          refine s_iadd dL_drawn_290 ?_
          obtain ⟨u12, u13, h⟩ := h
          exact s_callSH (as := [(vR x1), (vI ((1 : Int32) + ((us_ (us_ s0 (1 : Int32)) (9 : Int32)) - (us_ (us_ s0 (1 : Int32)) (9 : Int32)) / (4 : Int32) * (4 : Int32))))]) (S := []) gk dL_drawn_291 (kL_pass _ _ w_767) w_768 rfl rfl (Nat.le_of_ble_eq_true rfl) ⟨by decide, by decide, u12, u13⟩ h
      · have h := h.2 q5
        refine s_aload_n (i := 1) dL_drawn_250 rfl rfl ?_
        refine s_iload dL_drawn_251 rfl ?_
        refine s_iload dL_drawn_253 rfl ?_
        refine s_iconst (v := 1) dL_drawn_255 (by decide) ?_
        refine s_iload dL_drawn_256 rfl ?_
        refine s_bipush (v := 9) dL_drawn_258 (by decide) ?_
        refine s_iushr dL_drawn_260 ?_
        refine s_bipush (v := 9) dL_drawn_261 (by decide) ?_
        refine s_irem dL_drawn_263 (by decide) ?_
        refine s_iadd dL_drawn_264 ?_
        obtain ⟨u14, u15, h⟩ := h
        exact s_callSH (as := [(vR x1), (vI ((us_ (us_ s0 (1 : Int32)) (6 : Int32)) - (us_ (us_ s0 (1 : Int32)) (6 : Int32)) / x4 * x4)), (vI (i2c ((97 : Int32) + ((3 : Int32) * ((us_ (us_ s0 (1 : Int32)) (3 : Int32)) - (us_ (us_ s0 (1 : Int32)) (3 : Int32)) / x3 * x3))))), (vI ((1 : Int32) + ((us_ (us_ s0 (1 : Int32)) (9 : Int32)) - (us_ (us_ s0 (1 : Int32)) (9 : Int32)) / (9 : Int32) * (9 : Int32))))]) (S := []) gk dL_drawn_265 (kL_warm _ _ w_739) w_740 rfl rfl (Nat.le_of_ble_eq_true rfl) ⟨by decide, by decide, u14, u15⟩ h
    · have h := h.2 q4
      refine s_aload_n (i := 1) dL_drawn_224 rfl rfl ?_
      refine s_iload dL_drawn_225 rfl ?_
      refine s_iload dL_drawn_227 rfl ?_
      refine s_bipush (v := 9) dL_drawn_229 (by decide) ?_
      refine s_iushr dL_drawn_231 ?_
      refine s_bipush (v := 100) dL_drawn_232 (by decide) ?_
      refine s_irem dL_drawn_234 (by decide) ?_
      obtain ⟨u16, u17, h⟩ := h
      exact s_callSH (as := [(vR x1), (vI (i2c ((97 : Int32) + ((3 : Int32) * ((us_ (us_ s0 (1 : Int32)) (3 : Int32)) - (us_ (us_ s0 (1 : Int32)) (3 : Int32)) / x3 * x3))))), (vI ((us_ (us_ s0 (1 : Int32)) (9 : Int32)) - (us_ (us_ s0 (1 : Int32)) (9 : Int32)) / (100 : Int32) * (100 : Int32)))]) (S := []) gk dL_drawn_235 (kL_say _ _ w_720) w_721 rfl rfl (Nat.le_of_ble_eq_true rfl) ⟨by decide, by decide, u16, u17⟩ h
  · have h := h.2 q3
    refine s_aload_n (i := 1) dL_drawn_204 rfl rfl ?_
    refine s_iload dL_drawn_205 rfl ?_
    refine s_iload dL_drawn_207 rfl ?_
    obtain ⟨u18, u19, h⟩ := h
    exact s_callSH (as := [(vR x1), (vI ((us_ (us_ s0 (1 : Int32)) (6 : Int32)) - (us_ (us_ s0 (1 : Int32)) (6 : Int32)) / x4 * x4)), (vI (i2c ((97 : Int32) + ((3 : Int32) * ((us_ (us_ s0 (1 : Int32)) (3 : Int32)) - (us_ (us_ s0 (1 : Int32)) (3 : Int32)) / x3 * x3)))))]) (S := []) gk dL_drawn_209 (kL_hear _ _ w_622) w_623 rfl rfl (Nat.le_of_ble_eq_true rfl) ⟨by decide, by decide, u18, u19⟩ h
theorem vL_drawn_212 {G : GG} (gk : GOK G) {uc us : Nat} {σ : Mm} {K : RES → Mm → Prop} {x0 : Option Nat} {x1 : Option Nat} {x2 : Int32} {x3 : Int32} {x4 : Int32} {x5 : Int32} {x6 : Int32} {x7 : Int32} {x8 : Int32} {s0 : Int32}
    (h : At G mL_drawn rL_drawn uc us 318 [some (vR x0), some (vR x1), some (vI x2), some (vI x3), some (vI x4), some (vI x5), some (vI x6), some (vI x7), some (vI x8), none] [(vI s0)] σ K) : At G mL_drawn rL_drawn uc us 212 [some (vR x0), some (vR x1), some (vI x2), some (vI x3), some (vI x4), some (vI x5), some (vI x6), some (vI x7), some (vI x8), none] [(vI s0)] σ K := by
  refine s_goto (tgt := 318) dL_drawn_212 (by decide) ?_
  exact h
theorem vL_drawn_238 {G : GG} (gk : GOK G) {uc us : Nat} {σ : Mm} {K : RES → Mm → Prop} {x0 : Option Nat} {x1 : Option Nat} {x2 : Int32} {x3 : Int32} {x4 : Int32} {x5 : Int32} {x6 : Int32} {x7 : Int32} {x8 : Int32} {s0 : Int32}
    (h : At G mL_drawn rL_drawn uc us 318 [some (vR x0), some (vR x1), some (vI x2), some (vI x3), some (vI x4), some (vI x5), some (vI x6), some (vI x7), some (vI x8), none] [(vI s0)] σ K) : At G mL_drawn rL_drawn uc us 238 [some (vR x0), some (vR x1), some (vI x2), some (vI x3), some (vI x4), some (vI x5), some (vI x6), some (vI x7), some (vI x8), none] [(vI s0)] σ K := by
  refine s_goto (tgt := 318) dL_drawn_238 (by decide) ?_
  exact h
theorem vL_drawn_268 {G : GG} (gk : GOK G) {uc us : Nat} {σ : Mm} {K : RES → Mm → Prop} {x0 : Option Nat} {x1 : Option Nat} {x2 : Int32} {x3 : Int32} {x4 : Int32} {x5 : Int32} {x6 : Int32} {x7 : Int32} {x8 : Int32} {s0 : Int32}
    (h : At G mL_drawn rL_drawn uc us 318 [some (vR x0), some (vR x1), some (vI x2), some (vI x3), some (vI x4), some (vI x5), some (vI x6), some (vI x7), some (vI x8), none] [(vI s0)] σ K) : At G mL_drawn rL_drawn uc us 268 [some (vR x0), some (vR x1), some (vI x2), some (vI x3), some (vI x4), some (vI x5), some (vI x6), some (vI x7), some (vI x8), none] [(vI s0)] σ K := by
  refine s_goto (tgt := 318) dL_drawn_268 (by decide) ?_
  exact h
theorem vL_drawn_294 {G : GG} (gk : GOK G) {uc us : Nat} {σ : Mm} {K : RES → Mm → Prop} {x0 : Option Nat} {x1 : Option Nat} {x2 : Int32} {x3 : Int32} {x4 : Int32} {x5 : Int32} {x6 : Int32} {x7 : Int32} {x8 : Int32} {s0 : Int32}
    (h : At G mL_drawn rL_drawn uc us 318 [some (vR x0), some (vR x1), some (vI x2), some (vI x3), some (vI x4), some (vI x5), some (vI x6), some (vI x7), some (vI x8), none] [(vI s0)] σ K) : At G mL_drawn rL_drawn uc us 294 [some (vR x0), some (vR x1), some (vI x2), some (vI x3), some (vI x4), some (vI x5), some (vI x6), some (vI x7), some (vI x8), none] [(vI s0)] σ K := by
  refine s_goto (tgt := 318) dL_drawn_294 (by decide) ?_
  exact h
theorem vL_drawn_318 {G : GG} (gk : GOK G) {uc us : Nat} {σ : Mm} {K : RES → Mm → Prop} {x0 : Option Nat} {x1 : Option Nat} {x2 : Int32} {x3 : Int32} {x4 : Int32} {x5 : Int32} {x6 : Int32} {x7 : Int32} {x8 : Int32} {s0 : Int32}
    (h : ((s0 = (-1 : Int32) → uc ≤ 10000 ∧ us ≤ 200000 ∧ K (.inl (some (vR none))) σ) ∧ (¬ s0 = (-1 : Int32) → ((¬ s0 = (-2 : Int32) → At G mL_drawn rL_drawn uc us 151 [some (vR x0), some (vR x1), some (vI x2), some (vI x3), some (vI x4), some (vI (x5 + 1)), none, none, none, none] [] σ K) ∧ (s0 = (-2 : Int32) → uc ≤ 10000 ∧ us ≤ 200000 ∧ K (.inl (some (vR none))) σ))))) : At G mL_drawn rL_drawn uc us 318 [some (vR x0), some (vR x1), some (vI x2), some (vI x3), some (vI x4), some (vI x5), some (vI x6), some (vI x7), some (vI x8), none] [(vI s0)] σ K := by
  refine s_istore (L' := [some (vR x0), some (vR x1), some (vI x2), some (vI x3), some (vI x4), some (vI x5), some (vI x6), some (vI x7), some (vI x8), some (vI s0)]) dL_drawn_318 rfl (by decide) rfl ?_
  refine s_iload dL_drawn_320 rfl ?_
  refine s_iconst (v := -1) dL_drawn_322 (by decide) ?_
  refine s_icmp_eq (tgt := 333) dL_drawn_323 (by decide) (fun q1 => ?_) (fun q1 => ?_)
  · have h := h.1 q1
    refine s_null dL_drawn_333 ?_
    obtain ⟨u2, u3, h⟩ := h
    exact s_areturn dL_drawn_334 rfl rfl u2 u3 h
  · have h := h.2 q1
    refine s_iload dL_drawn_326 rfl ?_
    refine s_bipush (v := -2) dL_drawn_328 (by decide) ?_
    refine s_icmp_ne (tgt := 335) dL_drawn_330 (by decide) (fun q4 => ?_) (fun q4 => ?_)
    · have h := h.1 q4
      refine s_iinc (v := x5 + 1) (L' := [some (vR x0), some (vR x1), some (vI x2), some (vI x3), some (vI x4), some (vI (x5 + 1)), some (vI x6), some (vI x7), some (vI x8), some (vI s0)]) dL_drawn_335 rfl rfl rfl (by decide) rfl ?_
      refine s_goto (tgt := 151) dL_drawn_338 (by decide) ?_
      exact h.msk ⟨rfl, ⟨rfl, ⟨rfl, ⟨rfl, ⟨rfl, ⟨rfl, trivial⟩⟩⟩⟩⟩⟩
    · have h := h.2 q4
      refine s_null dL_drawn_333 ?_
      obtain ⟨u5, u6, h⟩ := h
      exact s_areturn dL_drawn_334 rfl rfl u5 u6 h
theorem vL_lines_0 {G : GG} (gk : GOK G) {uc us : Nat} {σ : Mm} {K : RES → Mm → Prop} {x0 : Option Nat}
    (h : At G mL_lines rL_lines uc us 2 [some (vR x0), some (vI (0 : Int32)), none, none, none] [] σ K) : At G mL_lines rL_lines uc us 0 [some (vR x0), none, none, none, none] [] σ K := by
  refine s_iconst (v := 0) dL_lines_0 (by decide) ?_
  refine s_istore_n (i := 1) (L' := [some (vR x0), some (vI (0 : Int32)), none, none, none]) dL_lines_1 rfl rfl (by decide) rfl ?_
  exact h
theorem eL_lines {G : GG} (gk : GOK G) {σ : Mm} {K : RES → Mm → Prop} {x0 : Option Nat}
    (h : At G mL_lines rL_lines 0 0 2 [some (vR x0), some (vI (0 : Int32)), none, none, none] [] σ K) : Runs G mL_lines rL_lines [(vR x0)] σ K := Runs.of (by decide) rfl (Nat.le_of_ble_eq_true rfl) (vL_lines_0 gk h)
theorem vL_lines_2 {G : GG} (gk : GOK G) {uc us : Nat} {σ : Mm} {K : RES → Mm → Prop} {x0 : Option Nat} {x1 : Int32}
    (h : ∃ a1, x0 = some a1 ∧ (mt σ a1).1 = 9 ∧ uc + 0 ≤ 3000 ∧ us + 0 ≤ 150000 ∧ Runs G mX8_shelfCount rX8_shelfCount [(vR x0)] σ (bk G mL_lines rL_lines (uc + 0) (us + 0) 7 [some (vR x0), some (vI x1), none, none, none] [(vI x1)] K)) : At G mL_lines rL_lines uc us 2 [some (vR x0), some (vI x1), none, none, none] [] σ K := by
  refine s_iload_n (i := 1) dL_lines_2 rfl rfl ?_
  refine s_aload_n (i := 0) dL_lines_3 rfl rfl ?_
  obtain ⟨a1, ea1, h⟩ := h
  obtain ⟨t2, h⟩ := h
  obtain ⟨u3, u4, h⟩ := h
  exact t_callV (rmY := rX8_shelfCount) (ci := 8) (as := []) (S := [(vI x1)]) gk dL_lines_4 gL_221 (by decide) rfl w_830 w_831 ea1 t2 rfl rfl (Nat.le_of_ble_eq_true rfl) ⟨by decide, by decide, u3, u4⟩ h
theorem vL_lines_7 {G : GG} (gk : GOK G) (sok : SOK G) {uc us : Nat} {σ : Mm} {K : RES → Mm → Prop} {x0 : Option Nat} {x1 : Int32} {s0 : Int32} {s1 : Int32}
    (h : ((s0 ≤ s1 → ∃ a2, x0 = some a2 ∧ (mt σ a2).1 = 9 ∧ uc + 0 ≤ 3000 ∧ us + 0 ≤ 150000 ∧ Runs G mX8_shelfCount rX8_shelfCount [(vR x0)] σ (bk G mL_lines rL_lines (uc + 0) (us + 0) 155 [some (vR x0), some (vI x1), none, none, none] [(vR x0)] K)) ∧ (¬ s0 ≤ s1 → ∀ q6 : Nat, SCT G q6 [] → At G mL_lines rL_lines uc us 16 [some (vR x0), some (vI x1), some (vR (some q6)), some (vI (0 : Int32)), none] [] σ K))) : At G mL_lines rL_lines uc us 7 [some (vR x0), some (vI x1), none, none, none] [(vI s0), (vI s1)] σ K := by
  refine s_icmp_ge (tgt := 150) dL_lines_7 (by decide) (fun q1 => ?_) (fun q1 => ?_)
  · have h := h.1 q1
    refine s_aload_n (i := 0) dL_lines_150 rfl rfl ?_
    refine s_aload_n (i := 0) dL_lines_151 rfl rfl ?_
    obtain ⟨a2, ea2, h⟩ := h
    obtain ⟨t3, h⟩ := h
    obtain ⟨u4, u5, h⟩ := h
    exact t_callV (rmY := rX8_shelfCount) (ci := 8) (as := []) (S := [(vR x0)]) gk dL_lines_152 gL_221 (by decide) rfl w_830 w_831 ea2 t3 rfl rfl (Nat.le_of_ble_eq_true rfl) ⟨by decide, by decide, u4, u5⟩ h
  · have h := h.2 q1
    obtain ⟨q6, v7, z8, u9⟩ := txs_10 sok
    refine s_ldcwS dL_lines_10 z8 ?_
    replace h := h q6 ⟨v7, u9⟩
    refine s_astore_n (i := 2) (L' := [some (vR x0), some (vI x1), some (vR (some q6)), none, none]) dL_lines_13 rfl rfl (by decide) rfl ?_
    refine s_iconst (v := 0) dL_lines_14 (by decide) ?_
    refine s_istore_n (i := 3) (L' := [some (vR x0), some (vI x1), some (vR (some q6)), some (vI (0 : Int32)), none]) dL_lines_15 rfl rfl (by decide) rfl ?_
    exact h
theorem vL_lines_16 {G : GG} (gk : GOK G) {uc us : Nat} {σ : Mm} {K : RES → Mm → Prop} {x0 : Option Nat} {x1 : Int32} {x2 : Option Nat} {x3 : Int32}
    (h : ∃ a1, x0 = some a1 ∧ (mt σ a1).1 = 9 ∧ uc + 1 ≤ 3000 ∧ us + 6 ≤ 150000 ∧ Runs G mX8_echoCount rX8_echoCount [(vR x0), (vI x1)] σ (bk G mL_lines rL_lines (uc + 1) (us + 6) 22 [some (vR x0), some (vI x1), some (vR x2), some (vI x3), none] [(vI x3)] K)) : At G mL_lines rL_lines uc us 16 [some (vR x0), some (vI x1), some (vR x2), some (vI x3), none] [] σ K := by
  refine s_iload_n (i := 3) dL_lines_16 rfl rfl ?_
  refine s_aload_n (i := 0) dL_lines_17 rfl rfl ?_
  refine s_iload_n (i := 1) dL_lines_18 rfl rfl ?_
  obtain ⟨a1, ea1, h⟩ := h
  obtain ⟨t2, h⟩ := h
  obtain ⟨u3, u4, h⟩ := h
  exact t_callV (rmY := rX8_echoCount) (ci := 8) (as := [(vI x1)]) (S := [(vI x3)]) gk dL_lines_19 gL_58 (by decide) rfl w_953 w_954 ea1 t2 rfl rfl (Nat.le_of_ble_eq_true rfl) ⟨by decide, by decide, u3, u4⟩ h
theorem vL_lines_22 {G : GG} (gk : GOK G) {uc us : Nat} {σ : Mm} {K : RES → Mm → Prop} {x0 : Option Nat} {x1 : Int32} {x2 : Option Nat} {x3 : Int32} {s0 : Int32} {s1 : Int32}
    (h : ((s0 ≤ s1 → uc + 31 ≤ 3000 ∧ us + 4206 ≤ 150000 ∧ RunsH G mL_writeShelf hL_writeShelf rL_writeShelf [(vR x0), (vI x1)] σ (bk G mL_lines rL_lines (uc + 31) (us + 4206) 135 [some (vR x0), some (vI x1), some (vR x2), some (vI x3), none] [(vR x0)] K)) ∧ (¬ s0 ≤ s1 → ∃ a4, x0 = some a4 ∧ (mt σ a4).1 = 9 ∧ uc + 2 ≤ 3000 ∧ us + 12 ≤ 150000 ∧ Runs G mX8_echoAt rX8_echoAt [(vR x0), (vI x1), (vI x3)] σ (bk G mL_lines rL_lines (uc + 2) (us + 12) 31 [some (vR x0), some (vI x1), some (vR x2), some (vI x3), none] [] K)))) : At G mL_lines rL_lines uc us 22 [some (vR x0), some (vI x1), some (vR x2), some (vI x3), none] [(vI s0), (vI s1)] σ K := by
  refine s_icmp_ge (tgt := 129) dL_lines_22 (by decide) (fun q1 => ?_) (fun q1 => ?_)
  · have h := h.1 q1
    refine s_aload_n (i := 0) dL_lines_129 rfl rfl ?_
    refine s_aload_n (i := 0) dL_lines_130 rfl rfl ?_
    refine s_iload_n (i := 1) dL_lines_131 rfl rfl ?_
    obtain ⟨u2, u3, h⟩ := h
    exact s_callSH (as := [(vR x0), (vI x1)]) (S := [(vR x0)]) gk dL_lines_132 (kL_writeShelf _ _ w_1301) w_1302 rfl rfl (Nat.le_of_ble_eq_true rfl) ⟨by decide, by decide, u2, u3⟩ h
  · have h := h.2 q1
    refine s_aload_n (i := 0) dL_lines_25 rfl rfl ?_
    refine s_iload_n (i := 1) dL_lines_26 rfl rfl ?_
    refine s_iload_n (i := 3) dL_lines_27 rfl rfl ?_
    obtain ⟨a4, ea4, h⟩ := h
    obtain ⟨t5, h⟩ := h
    obtain ⟨u6, u7, h⟩ := h
    exact t_callV (rmY := rX8_echoAt) (ci := 8) (as := [(vI x1), (vI x3)]) (S := []) gk dL_lines_28 gL_61 (by decide) rfl w_880 w_881 ea4 t5 rfl rfl (Nat.le_of_ble_eq_true rfl) ⟨by decide, by decide, u6, u7⟩ h
theorem vL_lines_31 {G : GG} (gk : GOK G) {uc us : Nat} {σ : Mm} {K : RES → Mm → Prop} {x0 : Option Nat} {x1 : Int32} {x2 : Option Nat} {x3 : Int32} {s0 : Int32}
    (h : uc + 1 ≤ 3000 ∧ us + 4 ≤ 150000 ∧ ∀ σ3, σ3 = nw σ (11, 0) → (uc + 1) + 1 ≤ 3000 ∧ (us + 4) + 16 ≤ 150000 ∧ ∃ K4 : RES → Mm → Prop, Runs G mJ4_init_da8c8 rJ4_init_da8c8 [(vR (some (mz σ)))] σ3 K4 ∧ (∀ E t, ¬ K4 (.inr E) t) ∧ (∀ v t, K4 (.inl v) t → At G mL_lines rL_lines ((uc + 1) + 1) ((us + 4) + 16) 40 [some (vR x0), some (vI x1), some (vR x2), some (vI x3), some (vI s0)] (v.toList ++ [(vR (some (mz σ)))]) t K)) : At G mL_lines rL_lines uc us 31 [some (vR x0), some (vI x1), some (vR x2), some (vI x3), none] [(vI s0)] σ K := by
  refine s_istore (L' := [some (vR x0), some (vI x1), some (vR x2), some (vI x3), some (vI s0)]) dL_lines_31 rfl (by decide) rfl ?_
  obtain ⟨u1, u2, h⟩ := h
  refine t_new gk dL_lines_33 nL_305 u1 u2 (fun σ3 eσ3 => ?_)
  replace h := h σ3 eσ3
  refine s_dup dL_lines_36 rfl ?_
  obtain ⟨u5, u6, h⟩ := h
  obtain ⟨K4, h1, h2, h3⟩ := h
  exact s_callI (rmY := rJ4_init_da8c8) (a := mz σ) (as := []) (S := [(vR (some (mz σ)))]) gk dL_lines_37 gL_307 w_306 rfl rfl rfl rfl (Nat.le_of_ble_eq_true rfl) ⟨by decide, by decide, u5, u6⟩ h1 h2 h3
theorem vL_lines_40 {G : GG} (gk : GOK G) {uc us : Nat} {σ : Mm} {K : RES → Mm → Prop} {x0 : Option Nat} {x1 : Int32} {x2 : Option Nat} {x3 : Int32} {x4 : Int32} {s0 : Option Nat}
    (h : ∃ a1, s0 = some a1 ∧ (mt σ a1).1 = 11 ∧ uc + 1 ≤ 3000 ∧ us + 140 ≤ 150000 ∧ Runs G mJ4_append_15ec4 rJ4_append_15ec4_b [(vR s0), (vR x2)] σ (bk G mL_lines rL_lines (uc + 1) (us + 140) 44 [some (vR x0), some (vI x1), some (vR x2), some (vI x3), some (vI x4)] [] K)) : At G mL_lines rL_lines uc us 40 [some (vR x0), some (vI x1), some (vR x2), some (vI x3), some (vI x4)] [(vR s0)] σ K := by
  refine s_aload_n (i := 2) dL_lines_40 rfl rfl ?_
  obtain ⟨a1, ea1, h⟩ := h
  obtain ⟨t2, h⟩ := h
  obtain ⟨u3, u4, h⟩ := h
  exact t_callV (rmY := rJ4_append_15ec4_b) (ci := 10) (as := [(vR x2)]) (S := []) gk dL_lines_41 gL_308 (by decide) rfl w_1093 w_1094 ea1 t2 rfl rfl (Nat.le_of_ble_eq_true rfl) ⟨by decide, by decide, u3, u4⟩ h
theorem vL_lines_44 {G : GG} (gk : GOK G) (sok : SOK G) {uc us : Nat} {σ : Mm} {K : RES → Mm → Prop} {x0 : Option Nat} {x1 : Int32} {x2 : Option Nat} {x3 : Int32} {x4 : Int32} {s0 : Option Nat}
    (h : ((¬ x3 = 0 → ∀ q2 : Nat, SCT G q2 [32] → ∃ a6, s0 = some a6 ∧ (mt σ a6).1 = 11 ∧ uc + 1 ≤ 3000 ∧ us + 140 ≤ 150000 ∧ Runs G mJ4_append_15ec4 rJ4_append_15ec4_b [(vR s0), (vR (some q2))] σ (bk G mL_lines rL_lines (uc + 1) (us + 140) 60 [some (vR x0), some (vI x1), some (vR x2), some (vI x3), some (vI x4)] [] K)) ∧ (x3 = 0 → ∀ q10 : Nat, SCT G q10 [] → ∃ a14, s0 = some a14 ∧ (mt σ a14).1 = 11 ∧ uc + 1 ≤ 3000 ∧ us + 140 ≤ 150000 ∧ Runs G mJ4_append_15ec4 rJ4_append_15ec4_b [(vR s0), (vR (some q10))] σ (bk G mL_lines rL_lines (uc + 1) (us + 140) 60 [some (vR x0), some (vI x1), some (vR x2), some (vI x3), some (vI x4)] [] K)))) : At G mL_lines rL_lines uc us 44 [some (vR x0), some (vI x1), some (vR x2), some (vI x3), some (vI x4)] [(vR s0)] σ K := by
  refine s_iload_n (i := 3) dL_lines_44 rfl rfl ?_
  refine s_if_ne (tgt := 54) dL_lines_45 (by decide) (fun q1 => ?_) (fun q1 => ?_)
  · have h := h.1 q1
    obtain ⟨q2, v3, z4, u5⟩ := txs_11 sok
    refine s_ldcwS dL_lines_54 z4 ?_
    replace h := h q2 ⟨v3, u5⟩
    obtain ⟨a6, ea6, h⟩ := h
    obtain ⟨t7, h⟩ := h
    obtain ⟨u8, u9, h⟩ := h
    exact t_callV (rmY := rJ4_append_15ec4_b) (ci := 10) (as := [(vR (some q2))]) (S := []) gk dL_lines_57 gL_308 (by decide) rfl w_1093 w_1094 ea6 t7 rfl rfl (Nat.le_of_ble_eq_true rfl) ⟨by decide, by decide, u8, u9⟩ h
  · have h := h.2 q1
    obtain ⟨q10, v11, z12, u13⟩ := txs_10 sok
    refine s_ldcwS dL_lines_48 z12 ?_
    replace h := h q10 ⟨v11, u13⟩
    refine s_goto (tgt := 57) dL_lines_51 (by decide) ?_
    obtain ⟨a14, ea14, h⟩ := h
    obtain ⟨t15, h⟩ := h
    obtain ⟨u16, u17, h⟩ := h
    exact t_callV (rmY := rJ4_append_15ec4_b) (ci := 10) (as := [(vR (some q10))]) (S := []) gk dL_lines_57 gL_308 (by decide) rfl w_1093 w_1094 ea14 t15 rfl rfl (Nat.le_of_ble_eq_true rfl) ⟨by decide, by decide, u16, u17⟩ h
theorem vL_lines_60 {G : GG} (gk : GOK G) {uc us : Nat} {σ : Mm} {K : RES → Mm → Prop} {x0 : Option Nat} {x1 : Int32} {x2 : Option Nat} {x3 : Int32} {x4 : Int32} {s0 : Option Nat}
    (h : ∃ a1, s0 = some a1 ∧ (mt σ a1).1 = 11 ∧ uc + 1 ≤ 3000 ∧ us + 140 ≤ 150000 ∧ Runs G mJ4_append_cf468 rJ4_append_cf468 [(vR s0), (vI x4)] σ (bk G mL_lines rL_lines (uc + 1) (us + 140) 65 [some (vR x0), some (vI x1), some (vR x2), some (vI x3), some (vI x4)] [] K)) : At G mL_lines rL_lines uc us 60 [some (vR x0), some (vI x1), some (vR x2), some (vI x3), some (vI x4)] [(vR s0)] σ K := by
  refine s_iload dL_lines_60 rfl ?_
  obtain ⟨a1, ea1, h⟩ := h
  obtain ⟨t2, h⟩ := h
  obtain ⟨u3, u4, h⟩ := h
  exact t_callV (rmY := rJ4_append_cf468) (ci := 10) (as := [(vI x4)]) (S := []) gk dL_lines_62 gL_314 (by decide) rfl w_1202 w_1203 ea1 t2 rfl rfl (Nat.le_of_ble_eq_true rfl) ⟨by decide, by decide, u3, u4⟩ h
theorem vL_lines_65 {G : GG} (gk : GOK G) {uc us : Nat} {σ : Mm} {K : RES → Mm → Prop} {x0 : Option Nat} {x1 : Int32} {x2 : Option Nat} {x3 : Int32} {x4 : Int32} {s0 : Option Nat}
    (h : ∃ a1, x0 = some a1 ∧ (mt σ a1).1 = 9 ∧ uc + 2 ≤ 3000 ∧ us + 12 ≤ 150000 ∧ Runs G mX8_echoOf rX8_echoOf [(vR x0), (vI x1), (vI x4)] σ (bk G mL_lines rL_lines (uc + 2) (us + 12) 72 [some (vR x0), some (vI x1), some (vR x2), some (vI x3), some (vI x4)] [(vR s0)] K)) : At G mL_lines rL_lines uc us 65 [some (vR x0), some (vI x1), some (vR x2), some (vI x3), some (vI x4)] [(vR s0)] σ K := by
  refine s_aload_n (i := 0) dL_lines_65 rfl rfl ?_
  refine s_iload_n (i := 1) dL_lines_66 rfl rfl ?_
  refine s_iload dL_lines_67 rfl ?_
  obtain ⟨a1, ea1, h⟩ := h
  obtain ⟨t2, h⟩ := h
  obtain ⟨u3, u4, h⟩ := h
  exact t_callV (rmY := rX8_echoOf) (ci := 8) (as := [(vI x1), (vI x4)]) (S := [(vR s0)]) gk dL_lines_69 gL_69 (by decide) rfl w_846 w_847 ea1 t2 rfl rfl (Nat.le_of_ble_eq_true rfl) ⟨by decide, by decide, u3, u4⟩ h
theorem vL_lines_72 {G : GG} (gk : GOK G) {uc us : Nat} {σ : Mm} {K : RES → Mm → Prop} {x0 : Option Nat} {x1 : Int32} {x2 : Option Nat} {x3 : Int32} {x4 : Int32} {s0 : Int32} {s1 : Option Nat}
    (h : ∃ a1, s1 = some a1 ∧ (mt σ a1).1 = 11 ∧ uc + 1 ≤ 3000 ∧ us + 140 ≤ 150000 ∧ Runs G mJ4_append_bf812 rJ4_append_bf812 [(vR s1), (vI s0)] σ (bk G mL_lines rL_lines (uc + 1) (us + 140) 75 [some (vR x0), some (vI x1), some (vR x2), some (vI x3), some (vI x4)] [] K)) : At G mL_lines rL_lines uc us 72 [some (vR x0), some (vI x1), some (vR x2), some (vI x3), some (vI x4)] [(vI s0), (vR s1)] σ K := by
  obtain ⟨a1, ea1, h⟩ := h
  obtain ⟨t2, h⟩ := h
  obtain ⟨u3, u4, h⟩ := h
  exact t_callV (rmY := rJ4_append_bf812) (ci := 10) (as := [(vI s0)]) (S := []) gk dL_lines_72 gL_317 (by decide) rfl w_1215 w_1216 ea1 t2 rfl rfl (Nat.le_of_ble_eq_true rfl) ⟨by decide, by decide, u3, u4⟩ h
theorem vL_lines_75 {G : GG} (gk : GOK G) {uc us : Nat} {σ : Mm} {K : RES → Mm → Prop} {x0 : Option Nat} {x1 : Int32} {x2 : Option Nat} {x3 : Int32} {x4 : Int32} {s0 : Option Nat}
    (h : ∃ a1, x0 = some a1 ∧ (mt σ a1).1 = 9 ∧ uc + 3 ≤ 3000 ∧ us + 18 ≤ 150000 ∧ Runs G mX8_isExpired rX8_isExpired [(vR x0), (vI x1), (vI x4)] σ (bk G mL_lines rL_lines (uc + 3) (us + 18) 82 [some (vR x0), some (vI x1), some (vR x2), some (vI x3), some (vI x4)] [(vR s0)] K)) : At G mL_lines rL_lines uc us 75 [some (vR x0), some (vI x1), some (vR x2), some (vI x3), some (vI x4)] [(vR s0)] σ K := by
  refine s_aload_n (i := 0) dL_lines_75 rfl rfl ?_
  refine s_iload_n (i := 1) dL_lines_76 rfl rfl ?_
  refine s_iload dL_lines_77 rfl ?_
  obtain ⟨a1, ea1, h⟩ := h
  obtain ⟨t2, h⟩ := h
  obtain ⟨u3, u4, h⟩ := h
  exact t_callV (rmY := rX8_isExpired) (ci := 8) (as := [(vI x1), (vI x4)]) (S := [(vR s0)]) gk dL_lines_79 gL_79 (by decide) rfl w_924 w_925 ea1 t2 rfl rfl (Nat.le_of_ble_eq_true rfl) ⟨by decide, by decide, u3, u4⟩ h
theorem vL_lines_82 {G : GG} (gk : GOK G) (sok : SOK G) {uc us : Nat} {σ : Mm} {K : RES → Mm → Prop} {x0 : Option Nat} {x1 : Int32} {x2 : Option Nat} {x3 : Int32} {x4 : Int32} {s0 : Int32} {s1 : Option Nat}
    (h : ((s0 = 0 → ∀ q2 : Nat, SCT G q2 [] → ∃ a6, s1 = some a6 ∧ (mt σ a6).1 = 11 ∧ uc + 1 ≤ 3000 ∧ us + 140 ≤ 150000 ∧ Runs G mJ4_append_15ec4 rJ4_append_15ec4_b [(vR s1), (vR (some q2))] σ (bk G mL_lines rL_lines (uc + 1) (us + 140) 97 [some (vR x0), some (vI x1), some (vR x2), some (vI x3), some (vI x4)] [] K)) ∧ (¬ s0 = 0 → ∀ q10 : Nat, SCT G q10 [126] → ∃ a14, s1 = some a14 ∧ (mt σ a14).1 = 11 ∧ uc + 1 ≤ 3000 ∧ us + 140 ≤ 150000 ∧ Runs G mJ4_append_15ec4 rJ4_append_15ec4_b [(vR s1), (vR (some q10))] σ (bk G mL_lines rL_lines (uc + 1) (us + 140) 97 [some (vR x0), some (vI x1), some (vR x2), some (vI x3), some (vI x4)] [] K)))) : At G mL_lines rL_lines uc us 82 [some (vR x0), some (vI x1), some (vR x2), some (vI x3), some (vI x4)] [(vI s0), (vR s1)] σ K := by
  refine s_if_eq (tgt := 91) dL_lines_82 (by decide) (fun q1 => ?_) (fun q1 => ?_)
  · have h := h.1 q1
    obtain ⟨q2, v3, z4, u5⟩ := txs_10 sok
    refine s_ldcwS dL_lines_91 z4 ?_
    replace h := h q2 ⟨v3, u5⟩
    obtain ⟨a6, ea6, h⟩ := h
    obtain ⟨t7, h⟩ := h
    obtain ⟨u8, u9, h⟩ := h
    exact t_callV (rmY := rJ4_append_15ec4_b) (ci := 10) (as := [(vR (some q2))]) (S := []) gk dL_lines_94 gL_308 (by decide) rfl w_1093 w_1094 ea6 t7 rfl rfl (Nat.le_of_ble_eq_true rfl) ⟨by decide, by decide, u8, u9⟩ h
  · have h := h.2 q1
    obtain ⟨q10, v11, z12, u13⟩ := txs_12 sok
    refine s_ldcwS dL_lines_85 z12 ?_
    replace h := h q10 ⟨v11, u13⟩
    refine s_goto (tgt := 94) dL_lines_88 (by decide) ?_
    obtain ⟨a14, ea14, h⟩ := h
    obtain ⟨t15, h⟩ := h
    obtain ⟨u16, u17, h⟩ := h
    exact t_callV (rmY := rJ4_append_15ec4_b) (ci := 10) (as := [(vR (some q10))]) (S := []) gk dL_lines_94 gL_308 (by decide) rfl w_1093 w_1094 ea14 t15 rfl rfl (Nat.le_of_ble_eq_true rfl) ⟨by decide, by decide, u16, u17⟩ h
theorem vL_lines_97 {G : GG} (gk : GOK G) {uc us : Nat} {σ : Mm} {K : RES → Mm → Prop} {x0 : Option Nat} {x1 : Int32} {x2 : Option Nat} {x3 : Int32} {x4 : Int32} {s0 : Option Nat}
    (h : ∃ a1, x0 = some a1 ∧ (mt σ a1).1 = 9 ∧ uc + 2 ≤ 3000 ∧ us + 12 ≤ 150000 ∧ Runs G mX8_isOpen rX8_isOpen [(vR x0), (vI x1), (vI x4)] σ (bk G mL_lines rL_lines (uc + 2) (us + 12) 104 [some (vR x0), some (vI x1), some (vR x2), some (vI x3), some (vI x4)] [(vR s0)] K)) : At G mL_lines rL_lines uc us 97 [some (vR x0), some (vI x1), some (vR x2), some (vI x3), some (vI x4)] [(vR s0)] σ K := by
  refine s_aload_n (i := 0) dL_lines_97 rfl rfl ?_
  refine s_iload_n (i := 1) dL_lines_98 rfl rfl ?_
  refine s_iload dL_lines_99 rfl ?_
  obtain ⟨a1, ea1, h⟩ := h
  obtain ⟨t2, h⟩ := h
  obtain ⟨u3, u4, h⟩ := h
  exact t_callV (rmY := rX8_isOpen) (ci := 8) (as := [(vI x1), (vI x4)]) (S := [(vR s0)]) gk dL_lines_101 gL_82 (by decide) rfl w_873 w_874 ea1 t2 rfl rfl (Nat.le_of_ble_eq_true rfl) ⟨by decide, by decide, u3, u4⟩ h
theorem vL_lines_104 {G : GG} (gk : GOK G) (sok : SOK G) {uc us : Nat} {σ : Mm} {K : RES → Mm → Prop} {x0 : Option Nat} {x1 : Int32} {x2 : Option Nat} {x3 : Int32} {x4 : Int32} {s0 : Int32} {s1 : Option Nat}
    (h : ((s0 = 0 → ∀ q2 : Nat, SCT G q2 [] → ∃ a6, s1 = some a6 ∧ (mt σ a6).1 = 11 ∧ uc + 1 ≤ 3000 ∧ us + 140 ≤ 150000 ∧ Runs G mJ4_append_15ec4 rJ4_append_15ec4_b [(vR s1), (vR (some q2))] σ (bk G mL_lines rL_lines (uc + 1) (us + 140) 119 [some (vR x0), some (vI x1), some (vR x2), some (vI x3), some (vI x4)] [] K)) ∧ (¬ s0 = 0 → ∀ q10 : Nat, SCT G q10 [33] → ∃ a14, s1 = some a14 ∧ (mt σ a14).1 = 11 ∧ uc + 1 ≤ 3000 ∧ us + 140 ≤ 150000 ∧ Runs G mJ4_append_15ec4 rJ4_append_15ec4_b [(vR s1), (vR (some q10))] σ (bk G mL_lines rL_lines (uc + 1) (us + 140) 119 [some (vR x0), some (vI x1), some (vR x2), some (vI x3), some (vI x4)] [] K)))) : At G mL_lines rL_lines uc us 104 [some (vR x0), some (vI x1), some (vR x2), some (vI x3), some (vI x4)] [(vI s0), (vR s1)] σ K := by
  refine s_if_eq (tgt := 113) dL_lines_104 (by decide) (fun q1 => ?_) (fun q1 => ?_)
  · have h := h.1 q1
    obtain ⟨q2, v3, z4, u5⟩ := txs_10 sok
    refine s_ldcwS dL_lines_113 z4 ?_
    replace h := h q2 ⟨v3, u5⟩
    obtain ⟨a6, ea6, h⟩ := h
    obtain ⟨t7, h⟩ := h
    obtain ⟨u8, u9, h⟩ := h
    exact t_callV (rmY := rJ4_append_15ec4_b) (ci := 10) (as := [(vR (some q2))]) (S := []) gk dL_lines_116 gL_308 (by decide) rfl w_1093 w_1094 ea6 t7 rfl rfl (Nat.le_of_ble_eq_true rfl) ⟨by decide, by decide, u8, u9⟩ h
  · have h := h.2 q1
    obtain ⟨q10, v11, z12, u13⟩ := txs_13 sok
    refine s_ldcwS dL_lines_107 z12 ?_
    replace h := h q10 ⟨v11, u13⟩
    refine s_goto (tgt := 116) dL_lines_110 (by decide) ?_
    obtain ⟨a14, ea14, h⟩ := h
    obtain ⟨t15, h⟩ := h
    obtain ⟨u16, u17, h⟩ := h
    exact t_callV (rmY := rJ4_append_15ec4_b) (ci := 10) (as := [(vR (some q10))]) (S := []) gk dL_lines_116 gL_308 (by decide) rfl w_1093 w_1094 ea14 t15 rfl rfl (Nat.le_of_ble_eq_true rfl) ⟨by decide, by decide, u16, u17⟩ h
theorem vL_lines_119 {G : GG} (gk : GOK G) {uc us : Nat} {σ : Mm} {K : RES → Mm → Prop} {x0 : Option Nat} {x1 : Int32} {x2 : Option Nat} {x3 : Int32} {x4 : Int32} {s0 : Option Nat}
    (h : ∃ a1, s0 = some a1 ∧ (mt σ a1).1 = 11 ∧ uc + 2 ≤ 3000 ∧ us + 144 ≤ 150000 ∧ Runs G mJ4_toString_0e30d rJ4_toString_0e30d_b [(vR s0)] σ (bk G mL_lines rL_lines (uc + 2) (us + 144) 122 [some (vR x0), some (vI x1), some (vR x2), some (vI x3), some (vI x4)] [] K)) : At G mL_lines rL_lines uc us 119 [some (vR x0), some (vI x1), some (vR x2), some (vI x3), some (vI x4)] [(vR s0)] σ K := by
  obtain ⟨a1, ea1, h⟩ := h
  obtain ⟨t2, h⟩ := h
  obtain ⟨u3, u4, h⟩ := h
  exact t_callV (rmY := rJ4_toString_0e30d_b) (ci := 10) (as := []) (S := []) gk dL_lines_119 gL_324 (by decide) rfl w_1242 w_1243 ea1 t2 rfl rfl (Nat.le_of_ble_eq_true rfl) ⟨by decide, by decide, u3, u4⟩ h
theorem vL_lines_122 {G : GG} (gk : GOK G) {uc us : Nat} {σ : Mm} {K : RES → Mm → Prop} {x0 : Option Nat} {x1 : Int32} {x2 : Option Nat} {x3 : Int32} {x4 : Int32} {s0 : Option Nat}
    (h : At G mL_lines rL_lines uc us 16 [some (vR x0), some (vI x1), some (vR s0), some (vI (x3 + 1)), none] [] σ K) : At G mL_lines rL_lines uc us 122 [some (vR x0), some (vI x1), some (vR x2), some (vI x3), some (vI x4)] [(vR s0)] σ K := by
  refine s_astore_n (i := 2) (L' := [some (vR x0), some (vI x1), some (vR s0), some (vI x3), some (vI x4)]) dL_lines_122 rfl rfl (by decide) rfl ?_
  refine s_iinc (v := x3 + 1) (L' := [some (vR x0), some (vI x1), some (vR s0), some (vI (x3 + 1)), some (vI x4)]) dL_lines_123 rfl rfl rfl (by decide) rfl ?_
  refine s_goto (tgt := 16) dL_lines_126 (by decide) ?_
  exact h.msk ⟨rfl, ⟨rfl, ⟨rfl, ⟨rfl, trivial⟩⟩⟩⟩
theorem vL_lines_135 {G : GG} (gk : GOK G) {uc us : Nat} {σ : Mm} {K : RES → Mm → Prop} {x0 : Option Nat} {x1 : Int32} {x2 : Option Nat} {x3 : Int32} {s0 : Int32} {s1 : Option Nat}
    (h : uc + 100 ≤ 3000 ∧ us + 600 ≤ 150000 ∧ Runs G mL_spells rL_spells [(vR s1), (vI s0), (vR x2)] σ (bk G mL_lines rL_lines (uc + 100) (us + 600) 139 [some (vR x0), some (vI x1), some (vR x2), some (vI x3), none] [] K)) : At G mL_lines rL_lines uc us 135 [some (vR x0), some (vI x1), some (vR x2), some (vI x3), none] [(vI s0), (vR s1)] σ K := by
  refine s_aload_n (i := 2) dL_lines_135 rfl rfl ?_
  obtain ⟨u1, u2, h⟩ := h
  exact s_callS (as := [(vR s1), (vI s0), (vR x2)]) (S := []) gk dL_lines_136 gL_330 w_1368 rfl rfl (Nat.le_of_ble_eq_true rfl) ⟨by decide, by decide, u1, u2⟩ h
theorem vL_lines_139 {G : GG} (gk : GOK G) {uc us : Nat} {σ : Mm} {K : RES → Mm → Prop} {x0 : Option Nat} {x1 : Int32} {x2 : Option Nat} {x3 : Int32} {s0 : Int32}
    (h : ((¬ s0 = 0 → At G mL_lines rL_lines uc us 2 [some (vR x0), some (vI (x1 + 1)), none, none, none] [] σ K) ∧ (s0 = 0 → uc ≤ 3000 ∧ us ≤ 150000 ∧ K (.inl (some (vI (0 : Int32)))) σ))) : At G mL_lines rL_lines uc us 139 [some (vR x0), some (vI x1), some (vR x2), some (vI x3), none] [(vI s0)] σ K := by
  refine s_if_ne (tgt := 144) dL_lines_139 (by decide) (fun q1 => ?_) (fun q1 => ?_)
  · have h := h.1 q1
    refine s_iinc (v := x1 + 1) (L' := [some (vR x0), some (vI (x1 + 1)), some (vR x2), some (vI x3), none]) dL_lines_144 rfl rfl rfl (by decide) rfl ?_
    refine s_goto (tgt := 2) dL_lines_147 (by decide) ?_
    exact h.msk ⟨rfl, ⟨rfl, trivial⟩⟩
  · have h := h.2 q1
    refine s_iconst (v := 0) dL_lines_142 (by decide) ?_
    obtain ⟨u2, u3, h⟩ := h
    exact s_ireturn dL_lines_143 rfl rfl u2 u3 h
theorem vL_lines_155 {G : GG} (gk : GOK G) {uc us : Nat} {σ : Mm} {K : RES → Mm → Prop} {x0 : Option Nat} {x1 : Int32} {s0 : Int32} {s1 : Option Nat}
    (h : uc + 31 ≤ 3000 ∧ us + 4206 ≤ 150000 ∧ RunsH G mL_writeShelf hL_writeShelf rL_writeShelf [(vR s1), (vI s0)] σ (bk G mL_lines rL_lines (uc + 31) (us + 4206) 158 [some (vR x0), some (vI x1), none, none, none] [] K)) : At G mL_lines rL_lines uc us 155 [some (vR x0), some (vI x1), none, none, none] [(vI s0), (vR s1)] σ K := by
  obtain ⟨u1, u2, h⟩ := h
  exact s_callSH (as := [(vR s1), (vI s0)]) (S := []) gk dL_lines_155 (kL_writeShelf _ _ w_1301) w_1302 rfl rfl (Nat.le_of_ble_eq_true rfl) ⟨by decide, by decide, u1, u2⟩ h
theorem vL_lines_158 {G : GG} (gk : GOK G) {uc us : Nat} {σ : Mm} {K : RES → Mm → Prop} {x0 : Option Nat} {x1 : Int32} {s0 : Int32}
    (h : ((¬ s0 = (-11 : Int32) → uc ≤ 3000 ∧ us ≤ 150000 ∧ K (.inl (some (vI (0 : Int32)))) σ) ∧ (s0 = (-11 : Int32) → uc + 31 ≤ 3000 ∧ us + 4206 ≤ 150000 ∧ RunsH G mL_writeShelf hL_writeShelf rL_writeShelf [(vR x0), (vI (-1 : Int32))] σ (bk G mL_lines rL_lines (uc + 31) (us + 4206) 168 [some (vR x0), some (vI x1), none, none, none] [] K)))) : At G mL_lines rL_lines uc us 158 [some (vR x0), some (vI x1), none, none, none] [(vI s0)] σ K := by
  refine s_bipush (v := -11) dL_lines_158 (by decide) ?_
  refine s_icmp_ne (tgt := 177) dL_lines_160 (by decide) (fun q1 => ?_) (fun q1 => ?_)
  · have h := h.1 q1
    refine s_iconst (v := 0) dL_lines_177 (by decide) ?_
    obtain ⟨u2, u3, h⟩ := h
    exact s_ireturn dL_lines_178 rfl rfl u2 u3 h
  · have h := h.2 q1
    refine s_aload_n (i := 0) dL_lines_163 rfl rfl ?_
    refine s_iconst (v := -1) dL_lines_164 (by decide) ?_
    obtain ⟨u4, u5, h⟩ := h
    exact s_callSH (as := [(vR x0), (vI (-1 : Int32))]) (S := []) gk dL_lines_165 (kL_writeShelf _ _ w_1301) w_1302 rfl rfl (Nat.le_of_ble_eq_true rfl) ⟨by decide, by decide, u4, u5⟩ h
theorem vL_lines_168 {G : GG} (gk : GOK G) {uc us : Nat} {σ : Mm} {K : RES → Mm → Prop} {x0 : Option Nat} {x1 : Int32} {s0 : Int32}
    (h : ((¬ s0 = (-11 : Int32) → uc ≤ 3000 ∧ us ≤ 150000 ∧ K (.inl (some (vI (0 : Int32)))) σ) ∧ (s0 = (-11 : Int32) → uc ≤ 3000 ∧ us ≤ 150000 ∧ K (.inl (some (vI (1 : Int32)))) σ))) : At G mL_lines rL_lines uc us 168 [some (vR x0), some (vI x1), none, none, none] [(vI s0)] σ K := by
  refine s_bipush (v := -11) dL_lines_168 (by decide) ?_
  refine s_icmp_ne (tgt := 177) dL_lines_170 (by decide) (fun q1 => ?_) (fun q1 => ?_)
  · have h := h.1 q1
    refine s_iconst (v := 0) dL_lines_177 (by decide) ?_
    obtain ⟨u2, u3, h⟩ := h
    exact s_ireturn dL_lines_178 rfl rfl u2 u3 h
  · have h := h.2 q1
    refine s_iconst (v := 1) dL_lines_173 (by decide) ?_
    refine s_goto (tgt := 178) dL_lines_174 (by decide) ?_
    obtain ⟨u4, u5, h⟩ := h
    exact s_ireturn dL_lines_178 rfl rfl u4 u5 h
