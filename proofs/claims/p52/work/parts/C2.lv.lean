/-! ===== the law, region by region ===== -/
theorem vL_cell_0 {G : GG} (gk : GOK G) {σ : Mm} {K : RES → Mm → Prop} {x0 : Option Nat} {x1 : Int32}
    (h : ∃ a1, x0 = some a1 ∧ ∃ n3, mt σ a1 = (99, n3) ∧ (((nI n3) ≤ x1 → K (.inl (some (vI ((40503 : Int32) * x1)))) σ) ∧ (¬ (nI n3) ≤ x1 → vp_in x1 n3 ∧ K (.inl (some (vI (mi σ a1 x1.toNatClampNeg)))) σ))) : At G mL_cell rL_cell 0 0 0 [some (vR x0), some (vI x1)] [] σ K := by
  refine s_iload_n (i := 1) dL_cell_0 rfl rfl ?_
  refine s_aload_n (i := 0) dL_cell_1 rfl rfl ?_
  obtain ⟨a1, ea1, h⟩ := h
  obtain ⟨n3, t2, h⟩ := h
  subst ea1
  refine s_slen dL_cell_2 t2 rfl ?_
  refine s_icmp_ge (tgt := 12) dL_cell_3 (by decide) (fun q4 => ?_) (fun q4 => ?_)
  · have h := h.1 q4
    refine s_ldcI gk dL_cell_12 w_364 ?_
    refine s_iload_n (i := 1) dL_cell_14 rfl rfl ?_
    refine s_imul dL_cell_15 ?_
    exact s_ireturn dL_cell_16 rfl rfl (by decide) (by decide) h
  · have h := h.2 q4
    refine s_aload_n (i := 0) dL_cell_6 rfl rfl ?_
    refine s_iload_n (i := 1) dL_cell_7 rfl rfl ?_
    obtain ⟨c5, h⟩ := h
    refine s_sld dL_cell_8 t2 c5 ?_
    refine s_goto (tgt := 16) dL_cell_9 (by decide) ?_
    exact s_ireturn dL_cell_16 rfl rfl (by decide) (by decide) h
theorem eL_cell {G : GG} (gk : GOK G) {σ : Mm} {K : RES → Mm → Prop} {x0 : Option Nat} {x1 : Int32}
    (h : ∃ a1, x0 = some a1 ∧ ∃ n3, mt σ a1 = (99, n3) ∧ (((nI n3) ≤ x1 → K (.inl (some (vI ((40503 : Int32) * x1)))) σ) ∧ (¬ (nI n3) ≤ x1 → vp_in x1 n3 ∧ K (.inl (some (vI (mi σ a1 x1.toNatClampNeg)))) σ))) : Runs G mL_cell rL_cell [(vR x0), (vI x1)] σ K := Runs.of (by decide) rfl (Nat.le_of_ble_eq_true rfl) (vL_cell_0 gk h)
theorem vL_jars_0 {G : GG} (gk : GOK G) {uc us : Nat} {σ : Mm} {K : RES → Mm → Prop} {x0 : Option Nat}
    (h : ∃ a1, x0 = some a1 ∧ (mt σ a1).1 = 9 ∧ uc + 0 ≤ 100 ∧ us + 0 ≤ 600 ∧ Runs G mX8_jarCount rX8_jarCount [(vR x0)] σ (bk G mL_jars rL_jars (uc + 0) (us + 0) 4 [some (vR x0), none, none, none, none] [] K)) : At G mL_jars rL_jars uc us 0 [some (vR x0), none, none, none, none] [] σ K := by
  refine s_aload_n (i := 0) dL_jars_0 rfl rfl ?_
  obtain ⟨a1, ea1, h⟩ := h
  obtain ⟨t2, h⟩ := h
  obtain ⟨u3, u4, h⟩ := h
  exact t_callV (rmY := rX8_jarCount) (ci := 8) (as := []) (S := []) gk dL_jars_1 gL_214 (by decide) rfl w_798 w_799 ea1 t2 rfl rfl (Nat.le_of_ble_eq_true rfl) ⟨by decide, by decide, u3, u4⟩ h
theorem eL_jars {G : GG} (gk : GOK G) {σ : Mm} {K : RES → Mm → Prop} {x0 : Option Nat}
    (h : ∃ a1, x0 = some a1 ∧ (mt σ a1).1 = 9 ∧ 0 + 0 ≤ 100 ∧ 0 + 0 ≤ 600 ∧ Runs G mX8_jarCount rX8_jarCount [(vR x0)] σ (bk G mL_jars rL_jars (0 + 0) (0 + 0) 4 [some (vR x0), none, none, none, none] [] K)) : Runs G mL_jars rL_jars [(vR x0)] σ K := Runs.of (by decide) rfl (Nat.le_of_ble_eq_true rfl) (vL_jars_0 gk h)
theorem vL_jars_4 {G : GG} (gk : GOK G) {uc us : Nat} {σ : Mm} {K : RES → Mm → Prop} {x0 : Option Nat} {s0 : Int32}
    (h : At G mL_jars rL_jars uc us 10 [some (vR x0), some (vI s0), some (vI (0 : Int32)), some (vI (97 : Int32)), none] [] σ K) : At G mL_jars rL_jars uc us 4 [some (vR x0), none, none, none, none] [(vI s0)] σ K := by
  refine s_istore_n (i := 1) (L' := [some (vR x0), some (vI s0), none, none, none]) dL_jars_4 rfl rfl (by decide) rfl ?_
  refine s_iconst (v := 0) dL_jars_5 (by decide) ?_
  refine s_istore_n (i := 2) (L' := [some (vR x0), some (vI s0), some (vI (0 : Int32)), none, none]) dL_jars_6 rfl rfl (by decide) rfl ?_
  refine s_bipush (v := 97) dL_jars_7 (by decide) ?_
  refine s_istore_n (i := 3) (L' := [some (vR x0), some (vI s0), some (vI (0 : Int32)), some (vI (97 : Int32)), none]) dL_jars_9 rfl rfl (by decide) rfl ?_
  exact h
theorem vL_jars_10 {G : GG} (gk : GOK G) {uc us : Nat} {σ : Mm} {K : RES → Mm → Prop} {x0 : Option Nat} {x1 : Int32} {x2 : Int32} {x3 : Int32}
    (h : (((122 : Int32) < x3 → ((¬ x2 = x1 → uc ≤ 100 ∧ us ≤ 600 ∧ K (.inl (some (vI (0 : Int32)))) σ) ∧ (x2 = x1 → uc + 1 ≤ 100 ∧ us + 6 ≤ 600 ∧ RunsH G mL_jarAt hL_jarAt rL_jarAt [(vR x0), (vI x1)] σ (bk G mL_jars rL_jars (uc + 1) (us + 6) 78 [some (vR x0), some (vI x1), some (vI x2), some (vI x3), none] [] K)))) ∧ (¬ (122 : Int32) < x3 → uc + 1 ≤ 100 ∧ us + 6 ≤ 600 ∧ RunsH G mL_wordOf hL_wordOf rL_wordOf [(vR x0), (vI x3)] σ (bk G mL_jars rL_jars (uc + 1) (us + 6) 21 [some (vR x0), some (vI x1), some (vI x2), some (vI x3), none] [] K)))) : At G mL_jars rL_jars uc us 10 [some (vR x0), some (vI x1), some (vI x2), some (vI x3), none] [] σ K := by
  refine s_iload_n (i := 3) dL_jars_10 rfl rfl ?_
  refine s_bipush (v := 122) dL_jars_11 (by decide) ?_
  refine s_icmp_gt (tgt := 68) dL_jars_13 (by decide) (fun q1 => ?_) (fun q1 => ?_)
  · have h := h.1 q1
    refine s_iload_n (i := 2) dL_jars_68 rfl rfl ?_
    refine s_iload_n (i := 1) dL_jars_69 rfl rfl ?_
    refine s_icmp_ne (tgt := 119) dL_jars_70 (by decide) (fun q2 => ?_) (fun q2 => ?_)
    · have h := h.1 q2
      refine s_iconst (v := 0) dL_jars_119 (by decide) ?_
      obtain ⟨u3, u4, h⟩ := h
      exact s_ireturn dL_jars_120 rfl rfl u3 u4 h
    · have h := h.2 q2
      refine s_aload_n (i := 0) dL_jars_73 rfl rfl ?_
      refine s_iload_n (i := 1) dL_jars_74 rfl rfl ?_
      obtain ⟨u5, u6, h⟩ := h
      exact s_callSH (as := [(vR x0), (vI x1)]) (S := []) gk dL_jars_75 (kL_jarAt _ _ w_814) w_815 rfl rfl (Nat.le_of_ble_eq_true rfl) ⟨by decide, by decide, u5, u6⟩ h
  · have h := h.2 q1
    refine s_aload_n (i := 0) dL_jars_16 rfl rfl ?_
    refine s_iload_n (i := 3) dL_jars_17 rfl rfl ?_
    obtain ⟨u7, u8, h⟩ := h
    exact s_callSH (as := [(vR x0), (vI x3)]) (S := []) gk dL_jars_18 (kL_wordOf _ _ w_802) w_803 rfl rfl (Nat.le_of_ble_eq_true rfl) ⟨by decide, by decide, u7, u8⟩ h
theorem vL_jars_21 {G : GG} (gk : GOK G) {uc us : Nat} {σ : Mm} {K : RES → Mm → Prop} {x0 : Option Nat} {x1 : Int32} {x2 : Int32} {x3 : Int32} {s0 : Int32}
    (h : ((s0 < 0 → (((0 : Int32) = 0 → (((0 : Int32) = 0 → At G mL_jars rL_jars uc us 10 [some (vR x0), some (vI x1), some (vI (x2 + (0 : Int32))), some (vI (i2c (x3 + (1 : Int32)))), none] [] σ K) ∧ (¬ (0 : Int32) = 0 → At G mL_jars rL_jars uc us 10 [some (vR x0), some (vI x1), some (vI (x2 + (1 : Int32))), some (vI (i2c (x3 + (1 : Int32)))), none] [] σ K))) ∧ (¬ (0 : Int32) = 0 → uc + 1 ≤ 100 ∧ us + 6 ≤ 600 ∧ RunsH G mL_jarAt hL_jarAt rL_jarAt [(vR x0), (vI x2)] σ (bk G mL_jars rL_jars (uc + 1) (us + 6) 41 [some (vR x0), some (vI x1), some (vI x2), some (vI x3), some (vI (0 : Int32))] [] K)))) ∧ (¬ s0 < 0 → (((1 : Int32) = 0 → (((1 : Int32) = 0 → At G mL_jars rL_jars uc us 10 [some (vR x0), some (vI x1), some (vI (x2 + (0 : Int32))), some (vI (i2c (x3 + (1 : Int32)))), none] [] σ K) ∧ (¬ (1 : Int32) = 0 → At G mL_jars rL_jars uc us 10 [some (vR x0), some (vI x1), some (vI (x2 + (1 : Int32))), some (vI (i2c (x3 + (1 : Int32)))), none] [] σ K))) ∧ (¬ (1 : Int32) = 0 → uc + 1 ≤ 100 ∧ us + 6 ≤ 600 ∧ RunsH G mL_jarAt hL_jarAt rL_jarAt [(vR x0), (vI x2)] σ (bk G mL_jars rL_jars (uc + 1) (us + 6) 41 [some (vR x0), some (vI x1), some (vI x2), some (vI x3), some (vI (1 : Int32))] [] K)))))) : At G mL_jars rL_jars uc us 21 [some (vR x0), some (vI x1), some (vI x2), some (vI x3), none] [(vI s0)] σ K := by
  refine s_if_lt (tgt := 28) dL_jars_21 (by decide) (fun q1 => ?_) (fun q1 => ?_)
  · have h := h.1 q1
    refine s_iconst (v := 0) dL_jars_28 (by decide) ?_
    refine s_istore (L' := [some (vR x0), some (vI x1), some (vI x2), some (vI x3), some (vI (0 : Int32))]) dL_jars_29 rfl (by decide) rfl ?_
    refine s_iload dL_jars_31 rfl ?_
    refine s_if_eq (tgt := 47) dL_jars_33 (by decide) (fun q2 => ?_) (fun q2 => ?_)
    · have h := h.1 q2
      refine s_iload_n (i := 2) dL_jars_47 rfl rfl ?_
      refine s_iload dL_jars_48 rfl ?_
      refine s_if_eq (tgt := 57) dL_jars_50 (by decide) (fun q3 => ?_) (fun q3 => ?_)
      · have h := h.1 q3
        refine s_iconst (v := 0) dL_jars_57 (by decide) ?_
        refine s_iadd dL_jars_58 ?_
        refine s_istore_n (i := 2) (L' := [some (vR x0), some (vI x1), some (vI (x2 + (0 : Int32))), some (vI x3), some (vI (0 : Int32))]) dL_jars_59 rfl rfl (by decide) rfl ?_
        refine s_iload_n (i := 3) dL_jars_60 rfl rfl ?_
        refine s_iconst (v := 1) dL_jars_61 (by decide) ?_
        refine s_iadd dL_jars_62 ?_
        refine s_i2c (v := i2c (x3 + (1 : Int32))) dL_jars_63 rfl ?_
        refine s_istore_n (i := 3) (L' := [some (vR x0), some (vI x1), some (vI (x2 + (0 : Int32))), some (vI (i2c (x3 + (1 : Int32)))), some (vI (0 : Int32))]) dL_jars_64 rfl rfl (by decide) rfl ?_
        refine s_goto (tgt := 10) dL_jars_65 (by decide) ?_
        exact h.msk ⟨rfl, ⟨rfl, ⟨rfl, ⟨rfl, trivial⟩⟩⟩⟩
      · have h := h.2 q3
        refine s_iconst (v := 1) dL_jars_53 (by decide) ?_
        refine s_goto (tgt := 58) dL_jars_54 (by decide) ?_
        refine s_iadd dL_jars_58 ?_
        refine s_istore_n (i := 2) (L' := [some (vR x0), some (vI x1), some (vI (x2 + (1 : Int32))), some (vI x3), some (vI (0 : Int32))]) dL_jars_59 rfl rfl (by decide) rfl ?_
        refine s_iload_n (i := 3) dL_jars_60 rfl rfl ?_
        refine s_iconst (v := 1) dL_jars_61 (by decide) ?_
        refine s_iadd dL_jars_62 ?_
        refine s_i2c (v := i2c (x3 + (1 : Int32))) dL_jars_63 rfl ?_
        refine s_istore_n (i := 3) (L' := [some (vR x0), some (vI x1), some (vI (x2 + (1 : Int32))), some (vI (i2c (x3 + (1 : Int32)))), some (vI (0 : Int32))]) dL_jars_64 rfl rfl (by decide) rfl ?_
        refine s_goto (tgt := 10) dL_jars_65 (by decide) ?_
        exact h.msk ⟨rfl, ⟨rfl, ⟨rfl, ⟨rfl, trivial⟩⟩⟩⟩
    · have h := h.2 q2
      refine s_aload_n (i := 0) dL_jars_36 rfl rfl ?_
      refine s_iload_n (i := 2) dL_jars_37 rfl rfl ?_
      obtain ⟨u4, u5, h⟩ := h
      exact s_callSH (as := [(vR x0), (vI x2)]) (S := []) gk dL_jars_38 (kL_jarAt _ _ w_814) w_815 rfl rfl (Nat.le_of_ble_eq_true rfl) ⟨by decide, by decide, u4, u5⟩ h
  · have h := h.2 q1
    refine s_iconst (v := 1) dL_jars_24 (by decide) ?_
    refine s_goto (tgt := 29) dL_jars_25 (by decide) ?_
    refine s_istore (L' := [some (vR x0), some (vI x1), some (vI x2), some (vI x3), some (vI (1 : Int32))]) dL_jars_29 rfl (by decide) rfl ?_
    refine s_iload dL_jars_31 rfl ?_
    refine s_if_eq (tgt := 47) dL_jars_33 (by decide) (fun q6 => ?_) (fun q6 => ?_)
    · have h := h.1 q6
      refine s_iload_n (i := 2) dL_jars_47 rfl rfl ?_
      refine s_iload dL_jars_48 rfl ?_
      refine s_if_eq (tgt := 57) dL_jars_50 (by decide) (fun q7 => ?_) (fun q7 => ?_)
      · have h := h.1 q7
        refine s_iconst (v := 0) dL_jars_57 (by decide) ?_
        refine s_iadd dL_jars_58 ?_
        refine s_istore_n (i := 2) (L' := [some (vR x0), some (vI x1), some (vI (x2 + (0 : Int32))), some (vI x3), some (vI (1 : Int32))]) dL_jars_59 rfl rfl (by decide) rfl ?_
        refine s_iload_n (i := 3) dL_jars_60 rfl rfl ?_
        refine s_iconst (v := 1) dL_jars_61 (by decide) ?_
        refine s_iadd dL_jars_62 ?_
        refine s_i2c (v := i2c (x3 + (1 : Int32))) dL_jars_63 rfl ?_
        refine s_istore_n (i := 3) (L' := [some (vR x0), some (vI x1), some (vI (x2 + (0 : Int32))), some (vI (i2c (x3 + (1 : Int32)))), some (vI (1 : Int32))]) dL_jars_64 rfl rfl (by decide) rfl ?_
        refine s_goto (tgt := 10) dL_jars_65 (by decide) ?_
        exact h.msk ⟨rfl, ⟨rfl, ⟨rfl, ⟨rfl, trivial⟩⟩⟩⟩
      · have h := h.2 q7
        refine s_iconst (v := 1) dL_jars_53 (by decide) ?_
        refine s_goto (tgt := 58) dL_jars_54 (by decide) ?_
        refine s_iadd dL_jars_58 ?_
        refine s_istore_n (i := 2) (L' := [some (vR x0), some (vI x1), some (vI (x2 + (1 : Int32))), some (vI x3), some (vI (1 : Int32))]) dL_jars_59 rfl rfl (by decide) rfl ?_
        refine s_iload_n (i := 3) dL_jars_60 rfl rfl ?_
        refine s_iconst (v := 1) dL_jars_61 (by decide) ?_
        refine s_iadd dL_jars_62 ?_
        refine s_i2c (v := i2c (x3 + (1 : Int32))) dL_jars_63 rfl ?_
        refine s_istore_n (i := 3) (L' := [some (vR x0), some (vI x1), some (vI (x2 + (1 : Int32))), some (vI (i2c (x3 + (1 : Int32)))), some (vI (1 : Int32))]) dL_jars_64 rfl rfl (by decide) rfl ?_
        refine s_goto (tgt := 10) dL_jars_65 (by decide) ?_
        exact h.msk ⟨rfl, ⟨rfl, ⟨rfl, ⟨rfl, trivial⟩⟩⟩⟩
    · have h := h.2 q6
      refine s_aload_n (i := 0) dL_jars_36 rfl rfl ?_
      refine s_iload_n (i := 2) dL_jars_37 rfl rfl ?_
      obtain ⟨u8, u9, h⟩ := h
      exact s_callSH (as := [(vR x0), (vI x2)]) (S := []) gk dL_jars_38 (kL_jarAt _ _ w_814) w_815 rfl rfl (Nat.le_of_ble_eq_true rfl) ⟨by decide, by decide, u8, u9⟩ h
theorem vL_jars_41 {G : GG} (gk : GOK G) {uc us : Nat} {σ : Mm} {K : RES → Mm → Prop} {x0 : Option Nat} {x1 : Int32} {x2 : Int32} {x3 : Int32} {x4 : Int32} {s0 : Int32}
    (h : ((s0 = x3 → ((x4 = 0 → At G mL_jars rL_jars uc us 10 [some (vR x0), some (vI x1), some (vI (x2 + (0 : Int32))), some (vI (i2c (x3 + (1 : Int32)))), none] [] σ K) ∧ (¬ x4 = 0 → At G mL_jars rL_jars uc us 10 [some (vR x0), some (vI x1), some (vI (x2 + (1 : Int32))), some (vI (i2c (x3 + (1 : Int32)))), none] [] σ K))) ∧ (¬ s0 = x3 → uc ≤ 100 ∧ us ≤ 600 ∧ K (.inl (some (vI (0 : Int32)))) σ))) : At G mL_jars rL_jars uc us 41 [some (vR x0), some (vI x1), some (vI x2), some (vI x3), some (vI x4)] [(vI s0)] σ K := by
  refine s_iload_n (i := 3) dL_jars_41 rfl rfl ?_
  refine s_icmp_eq (tgt := 47) dL_jars_42 (by decide) (fun q1 => ?_) (fun q1 => ?_)
  · have h := h.1 q1
    refine s_iload_n (i := 2) dL_jars_47 rfl rfl ?_
    refine s_iload dL_jars_48 rfl ?_
    refine s_if_eq (tgt := 57) dL_jars_50 (by decide) (fun q2 => ?_) (fun q2 => ?_)
    · have h := h.1 q2
      refine s_iconst (v := 0) dL_jars_57 (by decide) ?_
      refine s_iadd dL_jars_58 ?_
      refine s_istore_n (i := 2) (L' := [some (vR x0), some (vI x1), some (vI (x2 + (0 : Int32))), some (vI x3), some (vI x4)]) dL_jars_59 rfl rfl (by decide) rfl ?_
      refine s_iload_n (i := 3) dL_jars_60 rfl rfl ?_
      refine s_iconst (v := 1) dL_jars_61 (by decide) ?_
      refine s_iadd dL_jars_62 ?_
      refine s_i2c (v := i2c (x3 + (1 : Int32))) dL_jars_63 rfl ?_
      refine s_istore_n (i := 3) (L' := [some (vR x0), some (vI x1), some (vI (x2 + (0 : Int32))), some (vI (i2c (x3 + (1 : Int32)))), some (vI x4)]) dL_jars_64 rfl rfl (by decide) rfl ?_
      refine s_goto (tgt := 10) dL_jars_65 (by decide) ?_
      exact h.msk ⟨rfl, ⟨rfl, ⟨rfl, ⟨rfl, trivial⟩⟩⟩⟩
    · have h := h.2 q2
      refine s_iconst (v := 1) dL_jars_53 (by decide) ?_
      refine s_goto (tgt := 58) dL_jars_54 (by decide) ?_
      refine s_iadd dL_jars_58 ?_
      refine s_istore_n (i := 2) (L' := [some (vR x0), some (vI x1), some (vI (x2 + (1 : Int32))), some (vI x3), some (vI x4)]) dL_jars_59 rfl rfl (by decide) rfl ?_
      refine s_iload_n (i := 3) dL_jars_60 rfl rfl ?_
      refine s_iconst (v := 1) dL_jars_61 (by decide) ?_
      refine s_iadd dL_jars_62 ?_
      refine s_i2c (v := i2c (x3 + (1 : Int32))) dL_jars_63 rfl ?_
      refine s_istore_n (i := 3) (L' := [some (vR x0), some (vI x1), some (vI (x2 + (1 : Int32))), some (vI (i2c (x3 + (1 : Int32)))), some (vI x4)]) dL_jars_64 rfl rfl (by decide) rfl ?_
      refine s_goto (tgt := 10) dL_jars_65 (by decide) ?_
      exact h.msk ⟨rfl, ⟨rfl, ⟨rfl, ⟨rfl, trivial⟩⟩⟩⟩
  · have h := h.2 q1
    refine s_iconst (v := 0) dL_jars_45 (by decide) ?_
    obtain ⟨u3, u4, h⟩ := h
    exact s_ireturn dL_jars_46 rfl rfl u3 u4 h
theorem vL_jars_78 {G : GG} (gk : GOK G) {uc us : Nat} {σ : Mm} {K : RES → Mm → Prop} {x0 : Option Nat} {x1 : Int32} {x2 : Int32} {x3 : Int32} {s0 : Int32}
    (h : ((¬ s0 = (-11 : Int32) → uc ≤ 100 ∧ us ≤ 600 ∧ K (.inl (some (vI (0 : Int32)))) σ) ∧ (s0 = (-11 : Int32) → uc + 1 ≤ 100 ∧ us + 6 ≤ 600 ∧ RunsH G mL_jarAt hL_jarAt rL_jarAt [(vR x0), (vI (-1 : Int32))] σ (bk G mL_jars rL_jars (uc + 1) (us + 6) 88 [some (vR x0), some (vI x1), some (vI x2), some (vI x3), none] [] K)))) : At G mL_jars rL_jars uc us 78 [some (vR x0), some (vI x1), some (vI x2), some (vI x3), none] [(vI s0)] σ K := by
  refine s_bipush (v := -11) dL_jars_78 (by decide) ?_
  refine s_icmp_ne (tgt := 119) dL_jars_80 (by decide) (fun q1 => ?_) (fun q1 => ?_)
  · have h := h.1 q1
    refine s_iconst (v := 0) dL_jars_119 (by decide) ?_
    obtain ⟨u2, u3, h⟩ := h
    exact s_ireturn dL_jars_120 rfl rfl u2 u3 h
  · have h := h.2 q1
    refine s_aload_n (i := 0) dL_jars_83 rfl rfl ?_
    refine s_iconst (v := -1) dL_jars_84 (by decide) ?_
    obtain ⟨u4, u5, h⟩ := h
    exact s_callSH (as := [(vR x0), (vI (-1 : Int32))]) (S := []) gk dL_jars_85 (kL_jarAt _ _ w_814) w_815 rfl rfl (Nat.le_of_ble_eq_true rfl) ⟨by decide, by decide, u4, u5⟩ h
theorem vL_jars_88 {G : GG} (gk : GOK G) {uc us : Nat} {σ : Mm} {K : RES → Mm → Prop} {x0 : Option Nat} {x1 : Int32} {x2 : Int32} {x3 : Int32} {s0 : Int32}
    (h : ((¬ s0 = (-11 : Int32) → uc ≤ 100 ∧ us ≤ 600 ∧ K (.inl (some (vI (0 : Int32)))) σ) ∧ (s0 = (-11 : Int32) → uc + 1 ≤ 100 ∧ us + 6 ≤ 600 ∧ RunsH G mL_wordOf hL_wordOf rL_wordOf [(vR x0), (vI (65 : Int32))] σ (bk G mL_jars rL_jars (uc + 1) (us + 6) 99 [some (vR x0), some (vI x1), some (vI x2), some (vI x3), none] [] K)))) : At G mL_jars rL_jars uc us 88 [some (vR x0), some (vI x1), some (vI x2), some (vI x3), none] [(vI s0)] σ K := by
  refine s_bipush (v := -11) dL_jars_88 (by decide) ?_
  refine s_icmp_ne (tgt := 119) dL_jars_90 (by decide) (fun q1 => ?_) (fun q1 => ?_)
  · have h := h.1 q1
    refine s_iconst (v := 0) dL_jars_119 (by decide) ?_
    obtain ⟨u2, u3, h⟩ := h
    exact s_ireturn dL_jars_120 rfl rfl u2 u3 h
  · have h := h.2 q1
    refine s_aload_n (i := 0) dL_jars_93 rfl rfl ?_
    refine s_bipush (v := 65) dL_jars_94 (by decide) ?_
    obtain ⟨u4, u5, h⟩ := h
    exact s_callSH (as := [(vR x0), (vI (65 : Int32))]) (S := []) gk dL_jars_96 (kL_wordOf _ _ w_802) w_803 rfl rfl (Nat.le_of_ble_eq_true rfl) ⟨by decide, by decide, u4, u5⟩ h
theorem vL_jars_99 {G : GG} (gk : GOK G) {uc us : Nat} {σ : Mm} {K : RES → Mm → Prop} {x0 : Option Nat} {x1 : Int32} {x2 : Int32} {x3 : Int32} {s0 : Int32}
    (h : ((¬ s0 = (-13 : Int32) → uc ≤ 100 ∧ us ≤ 600 ∧ K (.inl (some (vI (0 : Int32)))) σ) ∧ (s0 = (-13 : Int32) → uc + 1 ≤ 100 ∧ us + 6 ≤ 600 ∧ RunsH G mL_wordOf hL_wordOf rL_wordOf [(vR x0), (vI (123 : Int32))] σ (bk G mL_jars rL_jars (uc + 1) (us + 6) 110 [some (vR x0), some (vI x1), some (vI x2), some (vI x3), none] [] K)))) : At G mL_jars rL_jars uc us 99 [some (vR x0), some (vI x1), some (vI x2), some (vI x3), none] [(vI s0)] σ K := by
  refine s_bipush (v := -13) dL_jars_99 (by decide) ?_
  refine s_icmp_ne (tgt := 119) dL_jars_101 (by decide) (fun q1 => ?_) (fun q1 => ?_)
  · have h := h.1 q1
    refine s_iconst (v := 0) dL_jars_119 (by decide) ?_
    obtain ⟨u2, u3, h⟩ := h
    exact s_ireturn dL_jars_120 rfl rfl u2 u3 h
  · have h := h.2 q1
    refine s_aload_n (i := 0) dL_jars_104 rfl rfl ?_
    refine s_bipush (v := 123) dL_jars_105 (by decide) ?_
    obtain ⟨u4, u5, h⟩ := h
    exact s_callSH (as := [(vR x0), (vI (123 : Int32))]) (S := []) gk dL_jars_107 (kL_wordOf _ _ w_802) w_803 rfl rfl (Nat.le_of_ble_eq_true rfl) ⟨by decide, by decide, u4, u5⟩ h
theorem vL_jars_110 {G : GG} (gk : GOK G) {uc us : Nat} {σ : Mm} {K : RES → Mm → Prop} {x0 : Option Nat} {x1 : Int32} {x2 : Int32} {x3 : Int32} {s0 : Int32}
    (h : ((¬ s0 = (-13 : Int32) → uc ≤ 100 ∧ us ≤ 600 ∧ K (.inl (some (vI (0 : Int32)))) σ) ∧ (s0 = (-13 : Int32) → uc ≤ 100 ∧ us ≤ 600 ∧ K (.inl (some (vI (1 : Int32)))) σ))) : At G mL_jars rL_jars uc us 110 [some (vR x0), some (vI x1), some (vI x2), some (vI x3), none] [(vI s0)] σ K := by
  refine s_bipush (v := -13) dL_jars_110 (by decide) ?_
  refine s_icmp_ne (tgt := 119) dL_jars_112 (by decide) (fun q1 => ?_) (fun q1 => ?_)
  · have h := h.1 q1
    refine s_iconst (v := 0) dL_jars_119 (by decide) ?_
    obtain ⟨u2, u3, h⟩ := h
    exact s_ireturn dL_jars_120 rfl rfl u2 u3 h
  · have h := h.2 q1
    refine s_iconst (v := 1) dL_jars_115 (by decide) ?_
    refine s_goto (tgt := 120) dL_jars_116 (by decide) ?_
    obtain ⟨u4, u5, h⟩ := h
    exact s_ireturn dL_jars_120 rfl rfl u4 u5 h
theorem vL_isEcho_0 {G : GG} (gk : GOK G) {uc us : Nat} {σ : Mm} {K : RES → Mm → Prop} {x0 : Option Nat} {x1 : Int32} {x2 : Int32}
    (h : uc + 2 ≤ 20 ∧ us + 12 ≤ 120 ∧ RunsH G mL_isTrue hL_isTrue rL_isTrue [(vR x0), (vI x1), (vI x2)] σ (bk G mL_isEcho rL_isEcho (uc + 2) (us + 12) 6 [some (vR x0), some (vI x1), some (vI x2), none, none, none] [] K)) : At G mL_isEcho rL_isEcho uc us 0 [some (vR x0), some (vI x1), some (vI x2), none, none, none] [] σ K := by
  refine s_aload_n (i := 0) dL_isEcho_0 rfl rfl ?_
  refine s_iload_n (i := 1) dL_isEcho_1 rfl rfl ?_
  refine s_iload_n (i := 2) dL_isEcho_2 rfl rfl ?_
  obtain ⟨u1, u2, h⟩ := h
  exact s_callSH (as := [(vR x0), (vI x1), (vI x2)]) (S := []) gk dL_isEcho_3 (kL_isTrue _ _ w_891) w_892 rfl rfl (Nat.le_of_ble_eq_true rfl) ⟨by decide, by decide, u1, u2⟩ h
theorem eL_isEcho {G : GG} (gk : GOK G) {σ : Mm} {K : RES → Mm → Prop} {x0 : Option Nat} {x1 : Int32} {x2 : Int32}
    (h : 0 + 2 ≤ 20 ∧ 0 + 12 ≤ 120 ∧ RunsH G mL_isTrue hL_isTrue rL_isTrue [(vR x0), (vI x1), (vI x2)] σ (bk G mL_isEcho rL_isEcho (0 + 2) (0 + 12) 6 [some (vR x0), some (vI x1), some (vI x2), none, none, none] [] K)) : Runs G mL_isEcho rL_isEcho [(vR x0), (vI x1), (vI x2)] σ K := Runs.of (by decide) rfl (Nat.le_of_ble_eq_true rfl) (vL_isEcho_0 gk h)
theorem vL_isEcho_6 {G : GG} (gk : GOK G) {uc us : Nat} {σ : Mm} {K : RES → Mm → Prop} {x0 : Option Nat} {x1 : Int32} {x2 : Int32} {s0 : Int32}
    (h : uc + 2 ≤ 20 ∧ us + 12 ≤ 120 ∧ RunsH G mL_ageOf hL_ageOf rL_ageOf [(vR x0), (vI x1), (vI x2)] σ (bk G mL_isEcho rL_isEcho (uc + 2) (us + 12) 13 [some (vR x0), some (vI x1), some (vI x2), some (vI s0), none, none] [] K)) : At G mL_isEcho rL_isEcho uc us 6 [some (vR x0), some (vI x1), some (vI x2), none, none, none] [(vI s0)] σ K := by
  refine s_istore_n (i := 3) (L' := [some (vR x0), some (vI x1), some (vI x2), some (vI s0), none, none]) dL_isEcho_6 rfl rfl (by decide) rfl ?_
  refine s_aload_n (i := 0) dL_isEcho_7 rfl rfl ?_
  refine s_iload_n (i := 1) dL_isEcho_8 rfl rfl ?_
  refine s_iload_n (i := 2) dL_isEcho_9 rfl rfl ?_
  obtain ⟨u1, u2, h⟩ := h
  exact s_callSH (as := [(vR x0), (vI x1), (vI x2)]) (S := []) gk dL_isEcho_10 (kL_ageOf _ _ w_854) w_855 rfl rfl (Nat.le_of_ble_eq_true rfl) ⟨by decide, by decide, u1, u2⟩ h
theorem vL_isEcho_13 {G : GG} (gk : GOK G) {uc us : Nat} {σ : Mm} {K : RES → Mm → Prop} {x0 : Option Nat} {x1 : Int32} {x2 : Int32} {x3 : Int32} {s0 : Int32}
    (h : uc + 1 ≤ 20 ∧ us + 6 ≤ 120 ∧ RunsH G mL_lifetimeOf hL_lifetimeOf rL_lifetimeOf [(vR x0), (vI x1)] σ (bk G mL_isEcho rL_isEcho (uc + 1) (us + 6) 18 [some (vR x0), some (vI x1), some (vI x2), some (vI x3), none, none] [(vI s0)] K)) : At G mL_isEcho rL_isEcho uc us 13 [some (vR x0), some (vI x1), some (vI x2), some (vI x3), none, none] [(vI s0)] σ K := by
  refine s_aload_n (i := 0) dL_isEcho_13 rfl rfl ?_
  refine s_iload_n (i := 1) dL_isEcho_14 rfl rfl ?_
  obtain ⟨u1, u2, h⟩ := h
  exact s_callSH (as := [(vR x0), (vI x1)]) (S := [(vI s0)]) gk dL_isEcho_15 (kL_lifetimeOf _ _ w_902) w_903 rfl rfl (Nat.le_of_ble_eq_true rfl) ⟨by decide, by decide, u1, u2⟩ h
theorem vL_isEcho_18 {G : GG} (gk : GOK G) {uc us : Nat} {σ : Mm} {K : RES → Mm → Prop} {x0 : Option Nat} {x1 : Int32} {x2 : Int32} {x3 : Int32} {s0 : Int32} {s1 : Int32}
    (h : ((s1 < s0 → uc + 2 ≤ 20 ∧ us + 12 ≤ 120 ∧ RunsH G mL_bySteps hL_bySteps rL_bySteps [(vR x0), (vI x1), (vI x2)] σ (bk G mL_isEcho rL_isEcho (uc + 2) (us + 12) 35 [some (vR x0), some (vI x1), some (vI x2), some (vI x3), some (vI (0 : Int32)), none] [(vI x3)] K)) ∧ (¬ s1 < s0 → uc + 2 ≤ 20 ∧ us + 12 ≤ 120 ∧ RunsH G mL_bySteps hL_bySteps rL_bySteps [(vR x0), (vI x1), (vI x2)] σ (bk G mL_isEcho rL_isEcho (uc + 2) (us + 12) 35 [some (vR x0), some (vI x1), some (vI x2), some (vI x3), some (vI (1 : Int32)), none] [(vI x3)] K)))) : At G mL_isEcho rL_isEcho uc us 18 [some (vR x0), some (vI x1), some (vI x2), some (vI x3), none, none] [(vI s0), (vI s1)] σ K := by
  refine s_icmp_lt (tgt := 25) dL_isEcho_18 (by decide) (fun q1 => ?_) (fun q1 => ?_)
  · have h := h.1 q1
    refine s_iconst (v := 0) dL_isEcho_25 (by decide) ?_
    refine s_istore (L' := [some (vR x0), some (vI x1), some (vI x2), some (vI x3), some (vI (0 : Int32)), none]) dL_isEcho_26 rfl (by decide) rfl ?_
    refine s_iload_n (i := 3) dL_isEcho_28 rfl rfl ?_
    refine s_aload_n (i := 0) dL_isEcho_29 rfl rfl ?_
    refine s_iload_n (i := 1) dL_isEcho_30 rfl rfl ?_
    refine s_iload_n (i := 2) dL_isEcho_31 rfl rfl ?_
    obtain ⟨u2, u3, h⟩ := h
    exact s_callSH (as := [(vR x0), (vI x1), (vI x2)]) (S := [(vI x3)]) gk dL_isEcho_32 (kL_bySteps _ _ w_909) w_910 rfl rfl (Nat.le_of_ble_eq_true rfl) ⟨by decide, by decide, u2, u3⟩ h
  · have h := h.2 q1
    refine s_iconst (v := 1) dL_isEcho_21 (by decide) ?_
    refine s_goto (tgt := 26) dL_isEcho_22 (by decide) ?_
    refine s_istore (L' := [some (vR x0), some (vI x1), some (vI x2), some (vI x3), some (vI (1 : Int32)), none]) dL_isEcho_26 rfl (by decide) rfl ?_
    refine s_iload_n (i := 3) dL_isEcho_28 rfl rfl ?_
    refine s_aload_n (i := 0) dL_isEcho_29 rfl rfl ?_
    refine s_iload_n (i := 1) dL_isEcho_30 rfl rfl ?_
    refine s_iload_n (i := 2) dL_isEcho_31 rfl rfl ?_
    obtain ⟨u4, u5, h⟩ := h
    exact s_callSH (as := [(vR x0), (vI x1), (vI x2)]) (S := [(vI x3)]) gk dL_isEcho_32 (kL_bySteps _ _ w_909) w_910 rfl rfl (Nat.le_of_ble_eq_true rfl) ⟨by decide, by decide, u4, u5⟩ h
theorem vL_isEcho_35 {G : GG} (gk : GOK G) {uc us : Nat} {σ : Mm} {K : RES → Mm → Prop} {x0 : Option Nat} {x1 : Int32} {x2 : Int32} {x3 : Int32} {x4 : Int32} {s0 : Int32} {s1 : Int32}
    (h : ((¬ s1 = s0 → (((0 : Int32) = 0 → uc ≤ 20 ∧ us ≤ 120 ∧ K (.inl (some (vI (0 : Int32)))) σ) ∧ (¬ (0 : Int32) = 0 → ((x3 = 0 → uc + 2 ≤ 20 ∧ us + 12 ≤ 120 ∧ RunsH G mL_ageOf hL_ageOf rL_ageOf [(vR x0), (vI x1), (vI x2)] σ (bk G mL_isEcho rL_isEcho (uc + 2) (us + 12) 101 [some (vR x0), some (vI x1), some (vI x2), some (vI x3), some (vI x4), some (vI (0 : Int32))] [] K)) ∧ (¬ x3 = 0 → uc + 2 ≤ 20 ∧ us + 12 ≤ 120 ∧ RunsH G mL_echoOf hL_echoOf rL_echoOf [(vR x0), (vI x1), (vI x2)] σ (bk G mL_isEcho rL_isEcho (uc + 2) (us + 12) 87 [some (vR x0), some (vI x1), some (vI x2), some (vI x3), some (vI x4), some (vI (0 : Int32))] [] K)))))) ∧ (s1 = s0 → uc + 3 ≤ 20 ∧ us + 18 ≤ 120 ∧ RunsH G mL_isExpired hL_isExpired rL_isExpired [(vR x0), (vI x1), (vI x2)] σ (bk G mL_isEcho rL_isEcho (uc + 3) (us + 18) 44 [some (vR x0), some (vI x1), some (vI x2), some (vI x3), some (vI x4), none] [] K)))) : At G mL_isEcho rL_isEcho uc us 35 [some (vR x0), some (vI x1), some (vI x2), some (vI x3), some (vI x4), none] [(vI s0), (vI s1)] σ K := by
  refine s_icmp_ne (tgt := 69) dL_isEcho_35 (by decide) (fun q1 => ?_) (fun q1 => ?_)
  · have h := h.1 q1
    refine s_iconst (v := 0) dL_isEcho_69 (by decide) ?_
    refine s_istore (L' := [some (vR x0), some (vI x1), some (vI x2), some (vI x3), some (vI x4), some (vI (0 : Int32))]) dL_isEcho_70 rfl (by decide) rfl ?_
    refine s_iload dL_isEcho_72 rfl ?_
    refine s_if_eq (tgt := 112) dL_isEcho_74 (by decide) (fun q2 => ?_) (fun q2 => ?_)
    · have h := h.1 q2
      refine s_iconst (v := 0) dL_isEcho_112 (by decide) ?_
      obtain ⟨u3, u4, h⟩ := h
      exact s_ireturn dL_isEcho_113 rfl rfl u3 u4 h
    · have h := h.2 q2
      refine s_iload_n (i := 3) dL_isEcho_77 rfl rfl ?_
      refine s_if_eq (tgt := 95) dL_isEcho_78 (by decide) (fun q5 => ?_) (fun q5 => ?_)
      · have h := h.1 q5
        refine s_aload_n (i := 0) dL_isEcho_95 rfl rfl ?_
        refine s_iload_n (i := 1) dL_isEcho_96 rfl rfl ?_
        refine s_iload_n (i := 2) dL_isEcho_97 rfl rfl ?_
        obtain ⟨u6, u7, h⟩ := h
        exact s_callSH (as := [(vR x0), (vI x1), (vI x2)]) (S := []) gk dL_isEcho_98 (kL_ageOf _ _ w_854) w_855 rfl rfl (Nat.le_of_ble_eq_true rfl) ⟨by decide, by decide, u6, u7⟩ h
      · have h := h.2 q5
        refine s_aload_n (i := 0) dL_isEcho_81 rfl rfl ?_
        refine s_iload_n (i := 1) dL_isEcho_82 rfl rfl ?_
        refine s_iload_n (i := 2) dL_isEcho_83 rfl rfl ?_
        obtain ⟨u8, u9, h⟩ := h
        exact s_callSH (as := [(vR x0), (vI x1), (vI x2)]) (S := []) gk dL_isEcho_84 (kL_echoOf _ _ w_842) w_843 rfl rfl (Nat.le_of_ble_eq_true rfl) ⟨by decide, by decide, u8, u9⟩ h
  · have h := h.2 q1
    refine s_aload_n (i := 0) dL_isEcho_38 rfl rfl ?_
    refine s_iload_n (i := 1) dL_isEcho_39 rfl rfl ?_
    refine s_iload_n (i := 2) dL_isEcho_40 rfl rfl ?_
    obtain ⟨u10, u11, h⟩ := h
    exact s_callSH (as := [(vR x0), (vI x1), (vI x2)]) (S := []) gk dL_isEcho_41 (kL_isExpired _ _ w_920) w_921 rfl rfl (Nat.le_of_ble_eq_true rfl) ⟨by decide, by decide, u10, u11⟩ h
theorem vL_isEcho_44 {G : GG} (gk : GOK G) {uc us : Nat} {σ : Mm} {K : RES → Mm → Prop} {x0 : Option Nat} {x1 : Int32} {x2 : Int32} {x3 : Int32} {x4 : Int32} {s0 : Int32}
    (h : ((x4 = 0 → ((¬ s0 = (0 : Int32) → (((0 : Int32) = 0 → uc ≤ 20 ∧ us ≤ 120 ∧ K (.inl (some (vI (0 : Int32)))) σ) ∧ (¬ (0 : Int32) = 0 → ((x3 = 0 → uc + 2 ≤ 20 ∧ us + 12 ≤ 120 ∧ RunsH G mL_ageOf hL_ageOf rL_ageOf [(vR x0), (vI x1), (vI x2)] σ (bk G mL_isEcho rL_isEcho (uc + 2) (us + 12) 101 [some (vR x0), some (vI x1), some (vI x2), some (vI x3), some (vI x4), some (vI (0 : Int32))] [] K)) ∧ (¬ x3 = 0 → uc + 2 ≤ 20 ∧ us + 12 ≤ 120 ∧ RunsH G mL_echoOf hL_echoOf rL_echoOf [(vR x0), (vI x1), (vI x2)] σ (bk G mL_isEcho rL_isEcho (uc + 2) (us + 12) 87 [some (vR x0), some (vI x1), some (vI x2), some (vI x3), some (vI x4), some (vI (0 : Int32))] [] K)))))) ∧ (s0 = (0 : Int32) → uc + 1 ≤ 20 ∧ us + 6 ≤ 120 ∧ RunsH G mL_wordOf hL_wordOf rL_wordOf [(vR x0), (vI x2)] σ (bk G mL_isEcho rL_isEcho (uc + 1) (us + 6) 62 [some (vR x0), some (vI x1), some (vI x2), some (vI x3), some (vI x4), none] [] K)))) ∧ (¬ x4 = 0 → ((¬ s0 = (1 : Int32) → (((0 : Int32) = 0 → uc ≤ 20 ∧ us ≤ 120 ∧ K (.inl (some (vI (0 : Int32)))) σ) ∧ (¬ (0 : Int32) = 0 → ((x3 = 0 → uc + 2 ≤ 20 ∧ us + 12 ≤ 120 ∧ RunsH G mL_ageOf hL_ageOf rL_ageOf [(vR x0), (vI x1), (vI x2)] σ (bk G mL_isEcho rL_isEcho (uc + 2) (us + 12) 101 [some (vR x0), some (vI x1), some (vI x2), some (vI x3), some (vI x4), some (vI (0 : Int32))] [] K)) ∧ (¬ x3 = 0 → uc + 2 ≤ 20 ∧ us + 12 ≤ 120 ∧ RunsH G mL_echoOf hL_echoOf rL_echoOf [(vR x0), (vI x1), (vI x2)] σ (bk G mL_isEcho rL_isEcho (uc + 2) (us + 12) 87 [some (vR x0), some (vI x1), some (vI x2), some (vI x3), some (vI x4), some (vI (0 : Int32))] [] K)))))) ∧ (s0 = (1 : Int32) → uc + 1 ≤ 20 ∧ us + 6 ≤ 120 ∧ RunsH G mL_wordOf hL_wordOf rL_wordOf [(vR x0), (vI x2)] σ (bk G mL_isEcho rL_isEcho (uc + 1) (us + 6) 62 [some (vR x0), some (vI x1), some (vI x2), some (vI x3), some (vI x4), none] [] K)))))) : At G mL_isEcho rL_isEcho uc us 44 [some (vR x0), some (vI x1), some (vI x2), some (vI x3), some (vI x4), none] [(vI s0)] σ K := by
  refine s_iload dL_isEcho_44 rfl ?_
  refine s_if_eq (tgt := 53) dL_isEcho_46 (by decide) (fun q1 => ?_) (fun q1 => ?_)
  · have h := h.1 q1
    refine s_iconst (v := 0) dL_isEcho_53 (by decide) ?_
    refine s_icmp_ne (tgt := 69) dL_isEcho_54 (by decide) (fun q2 => ?_) (fun q2 => ?_)
    · have h := h.1 q2
      refine s_iconst (v := 0) dL_isEcho_69 (by decide) ?_
      refine s_istore (L' := [some (vR x0), some (vI x1), some (vI x2), some (vI x3), some (vI x4), some (vI (0 : Int32))]) dL_isEcho_70 rfl (by decide) rfl ?_
      refine s_iload dL_isEcho_72 rfl ?_
      refine s_if_eq (tgt := 112) dL_isEcho_74 (by decide) (fun q3 => ?_) (fun q3 => ?_)
      · have h := h.1 q3
        refine s_iconst (v := 0) dL_isEcho_112 (by decide) ?_
        obtain ⟨u4, u5, h⟩ := h
        exact s_ireturn dL_isEcho_113 rfl rfl u4 u5 h
      · have h := h.2 q3
        refine s_iload_n (i := 3) dL_isEcho_77 rfl rfl ?_
        refine s_if_eq (tgt := 95) dL_isEcho_78 (by decide) (fun q6 => ?_) (fun q6 => ?_)
        · have h := h.1 q6
          refine s_aload_n (i := 0) dL_isEcho_95 rfl rfl ?_
          refine s_iload_n (i := 1) dL_isEcho_96 rfl rfl ?_
          refine s_iload_n (i := 2) dL_isEcho_97 rfl rfl ?_
          obtain ⟨u7, u8, h⟩ := h
          exact s_callSH (as := [(vR x0), (vI x1), (vI x2)]) (S := []) gk dL_isEcho_98 (kL_ageOf _ _ w_854) w_855 rfl rfl (Nat.le_of_ble_eq_true rfl) ⟨by decide, by decide, u7, u8⟩ h
        · have h := h.2 q6
          refine s_aload_n (i := 0) dL_isEcho_81 rfl rfl ?_
          refine s_iload_n (i := 1) dL_isEcho_82 rfl rfl ?_
          refine s_iload_n (i := 2) dL_isEcho_83 rfl rfl ?_
          obtain ⟨u9, u10, h⟩ := h
          exact s_callSH (as := [(vR x0), (vI x1), (vI x2)]) (S := []) gk dL_isEcho_84 (kL_echoOf _ _ w_842) w_843 rfl rfl (Nat.le_of_ble_eq_true rfl) ⟨by decide, by decide, u9, u10⟩ h
    · have h := h.2 q2
      refine s_aload_n (i := 0) dL_isEcho_57 rfl rfl ?_
      refine s_iload_n (i := 2) dL_isEcho_58 rfl rfl ?_
      obtain ⟨u11, u12, h⟩ := h
      exact s_callSH (as := [(vR x0), (vI x2)]) (S := []) gk dL_isEcho_59 (kL_wordOf _ _ w_802) w_803 rfl rfl (Nat.le_of_ble_eq_true rfl) ⟨by decide, by decide, u11, u12⟩ h
  · have h := h.2 q1
    refine s_iconst (v := 1) dL_isEcho_49 (by decide) ?_
    refine s_goto (tgt := 54) dL_isEcho_50 (by decide) ?_
    refine s_icmp_ne (tgt := 69) dL_isEcho_54 (by decide) (fun q13 => ?_) (fun q13 => ?_)
    · have h := h.1 q13
      refine s_iconst (v := 0) dL_isEcho_69 (by decide) ?_
      refine s_istore (L' := [some (vR x0), some (vI x1), some (vI x2), some (vI x3), some (vI x4), some (vI (0 : Int32))]) dL_isEcho_70 rfl (by decide) rfl ?_
      refine s_iload dL_isEcho_72 rfl ?_
      refine s_if_eq (tgt := 112) dL_isEcho_74 (by decide) (fun q14 => ?_) (fun q14 => ?_)
      · have h := h.1 q14
        refine s_iconst (v := 0) dL_isEcho_112 (by decide) ?_
        obtain ⟨u15, u16, h⟩ := h
        exact s_ireturn dL_isEcho_113 rfl rfl u15 u16 h
      · have h := h.2 q14
        refine s_iload_n (i := 3) dL_isEcho_77 rfl rfl ?_
        refine s_if_eq (tgt := 95) dL_isEcho_78 (by decide) (fun q17 => ?_) (fun q17 => ?_)
        · have h := h.1 q17
          refine s_aload_n (i := 0) dL_isEcho_95 rfl rfl ?_
          refine s_iload_n (i := 1) dL_isEcho_96 rfl rfl ?_
          refine s_iload_n (i := 2) dL_isEcho_97 rfl rfl ?_
          obtain ⟨u18, u19, h⟩ := h
          exact s_callSH (as := [(vR x0), (vI x1), (vI x2)]) (S := []) gk dL_isEcho_98 (kL_ageOf _ _ w_854) w_855 rfl rfl (Nat.le_of_ble_eq_true rfl) ⟨by decide, by decide, u18, u19⟩ h
        · have h := h.2 q17
          refine s_aload_n (i := 0) dL_isEcho_81 rfl rfl ?_
          refine s_iload_n (i := 1) dL_isEcho_82 rfl rfl ?_
          refine s_iload_n (i := 2) dL_isEcho_83 rfl rfl ?_
          obtain ⟨u20, u21, h⟩ := h
          exact s_callSH (as := [(vR x0), (vI x1), (vI x2)]) (S := []) gk dL_isEcho_84 (kL_echoOf _ _ w_842) w_843 rfl rfl (Nat.le_of_ble_eq_true rfl) ⟨by decide, by decide, u20, u21⟩ h
    · have h := h.2 q13
      refine s_aload_n (i := 0) dL_isEcho_57 rfl rfl ?_
      refine s_iload_n (i := 2) dL_isEcho_58 rfl rfl ?_
      obtain ⟨u22, u23, h⟩ := h
      exact s_callSH (as := [(vR x0), (vI x2)]) (S := []) gk dL_isEcho_59 (kL_wordOf _ _ w_802) w_803 rfl rfl (Nat.le_of_ble_eq_true rfl) ⟨by decide, by decide, u22, u23⟩ h
theorem vL_isEcho_62 {G : GG} (gk : GOK G) {uc us : Nat} {σ : Mm} {K : RES → Mm → Prop} {x0 : Option Nat} {x1 : Int32} {x2 : Int32} {x3 : Int32} {x4 : Int32} {s0 : Int32}
    (h : ((s0 < 0 → (((0 : Int32) = 0 → uc ≤ 20 ∧ us ≤ 120 ∧ K (.inl (some (vI (0 : Int32)))) σ) ∧ (¬ (0 : Int32) = 0 → ((x3 = 0 → uc + 2 ≤ 20 ∧ us + 12 ≤ 120 ∧ RunsH G mL_ageOf hL_ageOf rL_ageOf [(vR x0), (vI x1), (vI x2)] σ (bk G mL_isEcho rL_isEcho (uc + 2) (us + 12) 101 [some (vR x0), some (vI x1), some (vI x2), some (vI x3), some (vI x4), some (vI (0 : Int32))] [] K)) ∧ (¬ x3 = 0 → uc + 2 ≤ 20 ∧ us + 12 ≤ 120 ∧ RunsH G mL_echoOf hL_echoOf rL_echoOf [(vR x0), (vI x1), (vI x2)] σ (bk G mL_isEcho rL_isEcho (uc + 2) (us + 12) 87 [some (vR x0), some (vI x1), some (vI x2), some (vI x3), some (vI x4), some (vI (0 : Int32))] [] K)))))) ∧ (¬ s0 < 0 → (((1 : Int32) = 0 → uc ≤ 20 ∧ us ≤ 120 ∧ K (.inl (some (vI (0 : Int32)))) σ) ∧ (¬ (1 : Int32) = 0 → ((x3 = 0 → uc + 2 ≤ 20 ∧ us + 12 ≤ 120 ∧ RunsH G mL_ageOf hL_ageOf rL_ageOf [(vR x0), (vI x1), (vI x2)] σ (bk G mL_isEcho rL_isEcho (uc + 2) (us + 12) 101 [some (vR x0), some (vI x1), some (vI x2), some (vI x3), some (vI x4), some (vI (1 : Int32))] [] K)) ∧ (¬ x3 = 0 → uc + 2 ≤ 20 ∧ us + 12 ≤ 120 ∧ RunsH G mL_echoOf hL_echoOf rL_echoOf [(vR x0), (vI x1), (vI x2)] σ (bk G mL_isEcho rL_isEcho (uc + 2) (us + 12) 87 [some (vR x0), some (vI x1), some (vI x2), some (vI x3), some (vI x4), some (vI (1 : Int32))] [] K)))))))) : At G mL_isEcho rL_isEcho uc us 62 [some (vR x0), some (vI x1), some (vI x2), some (vI x3), some (vI x4), none] [(vI s0)] σ K := by
  refine s_if_lt (tgt := 69) dL_isEcho_62 (by decide) (fun q1 => ?_) (fun q1 => ?_)
  · have h := h.1 q1
    refine s_iconst (v := 0) dL_isEcho_69 (by decide) ?_
    refine s_istore (L' := [some (vR x0), some (vI x1), some (vI x2), some (vI x3), some (vI x4), some (vI (0 : Int32))]) dL_isEcho_70 rfl (by decide) rfl ?_
    refine s_iload dL_isEcho_72 rfl ?_
    refine s_if_eq (tgt := 112) dL_isEcho_74 (by decide) (fun q2 => ?_) (fun q2 => ?_)
    · have h := h.1 q2
      refine s_iconst (v := 0) dL_isEcho_112 (by decide) ?_
      obtain ⟨u3, u4, h⟩ := h
      exact s_ireturn dL_isEcho_113 rfl rfl u3 u4 h
    · have h := h.2 q2
      refine s_iload_n (i := 3) dL_isEcho_77 rfl rfl ?_
      refine s_if_eq (tgt := 95) dL_isEcho_78 (by decide) (fun q5 => ?_) (fun q5 => ?_)
      · have h := h.1 q5
        refine s_aload_n (i := 0) dL_isEcho_95 rfl rfl ?_
        refine s_iload_n (i := 1) dL_isEcho_96 rfl rfl ?_
        refine s_iload_n (i := 2) dL_isEcho_97 rfl rfl ?_
        obtain ⟨u6, u7, h⟩ := h
        exact s_callSH (as := [(vR x0), (vI x1), (vI x2)]) (S := []) gk dL_isEcho_98 (kL_ageOf _ _ w_854) w_855 rfl rfl (Nat.le_of_ble_eq_true rfl) ⟨by decide, by decide, u6, u7⟩ h
      · have h := h.2 q5
        refine s_aload_n (i := 0) dL_isEcho_81 rfl rfl ?_
        refine s_iload_n (i := 1) dL_isEcho_82 rfl rfl ?_
        refine s_iload_n (i := 2) dL_isEcho_83 rfl rfl ?_
        obtain ⟨u8, u9, h⟩ := h
        exact s_callSH (as := [(vR x0), (vI x1), (vI x2)]) (S := []) gk dL_isEcho_84 (kL_echoOf _ _ w_842) w_843 rfl rfl (Nat.le_of_ble_eq_true rfl) ⟨by decide, by decide, u8, u9⟩ h
  · have h := h.2 q1
    refine s_iconst (v := 1) dL_isEcho_65 (by decide) ?_
    refine s_goto (tgt := 70) dL_isEcho_66 (by decide) ?_
    refine s_istore (L' := [some (vR x0), some (vI x1), some (vI x2), some (vI x3), some (vI x4), some (vI (1 : Int32))]) dL_isEcho_70 rfl (by decide) rfl ?_
    refine s_iload dL_isEcho_72 rfl ?_
    refine s_if_eq (tgt := 112) dL_isEcho_74 (by decide) (fun q10 => ?_) (fun q10 => ?_)
    · have h := h.1 q10
      refine s_iconst (v := 0) dL_isEcho_112 (by decide) ?_
      obtain ⟨u11, u12, h⟩ := h
      exact s_ireturn dL_isEcho_113 rfl rfl u11 u12 h
    · have h := h.2 q10
      refine s_iload_n (i := 3) dL_isEcho_77 rfl rfl ?_
      refine s_if_eq (tgt := 95) dL_isEcho_78 (by decide) (fun q13 => ?_) (fun q13 => ?_)
      · have h := h.1 q13
        refine s_aload_n (i := 0) dL_isEcho_95 rfl rfl ?_
        refine s_iload_n (i := 1) dL_isEcho_96 rfl rfl ?_
        refine s_iload_n (i := 2) dL_isEcho_97 rfl rfl ?_
        obtain ⟨u14, u15, h⟩ := h
        exact s_callSH (as := [(vR x0), (vI x1), (vI x2)]) (S := []) gk dL_isEcho_98 (kL_ageOf _ _ w_854) w_855 rfl rfl (Nat.le_of_ble_eq_true rfl) ⟨by decide, by decide, u14, u15⟩ h
      · have h := h.2 q13
        refine s_aload_n (i := 0) dL_isEcho_81 rfl rfl ?_
        refine s_iload_n (i := 1) dL_isEcho_82 rfl rfl ?_
        refine s_iload_n (i := 2) dL_isEcho_83 rfl rfl ?_
        obtain ⟨u16, u17, h⟩ := h
        exact s_callSH (as := [(vR x0), (vI x1), (vI x2)]) (S := []) gk dL_isEcho_84 (kL_echoOf _ _ w_842) w_843 rfl rfl (Nat.le_of_ble_eq_true rfl) ⟨by decide, by decide, u16, u17⟩ h
theorem vL_isEcho_87 {G : GG} (gk : GOK G) {uc us : Nat} {σ : Mm} {K : RES → Mm → Prop} {x0 : Option Nat} {x1 : Int32} {x2 : Int32} {x3 : Int32} {x4 : Int32} {x5 : Int32} {s0 : Int32}
    (h : uc + 1 ≤ 20 ∧ us + 6 ≤ 120 ∧ RunsH G mL_wordOf hL_wordOf rL_wordOf [(vR x0), (vI x2)] σ (bk G mL_isEcho rL_isEcho (uc + 1) (us + 6) 92 [some (vR x0), some (vI x1), some (vI x2), some (vI x3), some (vI x4), some (vI x5)] [(vI s0)] K)) : At G mL_isEcho rL_isEcho uc us 87 [some (vR x0), some (vI x1), some (vI x2), some (vI x3), some (vI x4), some (vI x5)] [(vI s0)] σ K := by
  refine s_aload_n (i := 0) dL_isEcho_87 rfl rfl ?_
  refine s_iload_n (i := 2) dL_isEcho_88 rfl rfl ?_
  obtain ⟨u1, u2, h⟩ := h
  exact s_callSH (as := [(vR x0), (vI x2)]) (S := [(vI s0)]) gk dL_isEcho_89 (kL_wordOf _ _ w_802) w_803 rfl rfl (Nat.le_of_ble_eq_true rfl) ⟨by decide, by decide, u1, u2⟩ h
theorem vL_isEcho_92 {G : GG} (gk : GOK G) {uc us : Nat} {σ : Mm} {K : RES → Mm → Prop} {x0 : Option Nat} {x1 : Int32} {x2 : Int32} {x3 : Int32} {x4 : Int32} {x5 : Int32} {s0 : Int32} {s1 : Int32}
    (h : ((¬ s1 = s0 → uc ≤ 20 ∧ us ≤ 120 ∧ K (.inl (some (vI (0 : Int32)))) σ) ∧ (s1 = s0 → uc + 2 ≤ 20 ∧ us + 12 ≤ 120 ∧ RunsH G mL_ageOf hL_ageOf rL_ageOf [(vR x0), (vI x1), (vI x2)] σ (bk G mL_isEcho rL_isEcho (uc + 2) (us + 12) 101 [some (vR x0), some (vI x1), some (vI x2), some (vI x3), some (vI x4), some (vI x5)] [] K)))) : At G mL_isEcho rL_isEcho uc us 92 [some (vR x0), some (vI x1), some (vI x2), some (vI x3), some (vI x4), some (vI x5)] [(vI s0), (vI s1)] σ K := by
  refine s_icmp_ne (tgt := 112) dL_isEcho_92 (by decide) (fun q1 => ?_) (fun q1 => ?_)
  · have h := h.1 q1
    refine s_iconst (v := 0) dL_isEcho_112 (by decide) ?_
    obtain ⟨u2, u3, h⟩ := h
    exact s_ireturn dL_isEcho_113 rfl rfl u2 u3 h
  · have h := h.2 q1
    refine s_aload_n (i := 0) dL_isEcho_95 rfl rfl ?_
    refine s_iload_n (i := 1) dL_isEcho_96 rfl rfl ?_
    refine s_iload_n (i := 2) dL_isEcho_97 rfl rfl ?_
    obtain ⟨u4, u5, h⟩ := h
    exact s_callSH (as := [(vR x0), (vI x1), (vI x2)]) (S := []) gk dL_isEcho_98 (kL_ageOf _ _ w_854) w_855 rfl rfl (Nat.le_of_ble_eq_true rfl) ⟨by decide, by decide, u4, u5⟩ h
theorem vL_isEcho_101 {G : GG} (gk : GOK G) {uc us : Nat} {σ : Mm} {K : RES → Mm → Prop} {x0 : Option Nat} {x1 : Int32} {x2 : Int32} {x3 : Int32} {x4 : Int32} {x5 : Int32} {s0 : Int32}
    (h : ∃ a1, x0 = some a1 ∧ (mt σ a1).1 = 9 ∧ uc + 0 ≤ 20 ∧ us + 0 ≤ 120 ∧ Runs G mX8_time rX8_time [(vR x0)] σ (bk G mL_isEcho rL_isEcho (uc + 0) (us + 0) 105 [some (vR x0), some (vI x1), some (vI x2), some (vI x3), some (vI x4), some (vI x5)] [(vI s0)] K)) : At G mL_isEcho rL_isEcho uc us 101 [some (vR x0), some (vI x1), some (vI x2), some (vI x3), some (vI x4), some (vI x5)] [(vI s0)] σ K := by
  refine s_aload_n (i := 0) dL_isEcho_101 rfl rfl ?_
  obtain ⟨a1, ea1, h⟩ := h
  obtain ⟨t2, h⟩ := h
  obtain ⟨u3, u4, h⟩ := h
  exact t_callV (rmY := rX8_time) (ci := 8) (as := []) (S := [(vI s0)]) gk dL_isEcho_102 gL_277 (by decide) rfl w_929 w_930 ea1 t2 rfl rfl (Nat.le_of_ble_eq_true rfl) ⟨by decide, by decide, u3, u4⟩ h
theorem vL_isEcho_105 {G : GG} (gk : GOK G) {uc us : Nat} {σ : Mm} {K : RES → Mm → Prop} {x0 : Option Nat} {x1 : Int32} {x2 : Int32} {x3 : Int32} {x4 : Int32} {x5 : Int32} {s0 : Int32} {s1 : Int32}
    (h : ((s0 < s1 → uc ≤ 20 ∧ us ≤ 120 ∧ K (.inl (some (vI (0 : Int32)))) σ) ∧ (¬ s0 < s1 → uc ≤ 20 ∧ us ≤ 120 ∧ K (.inl (some (vI (1 : Int32)))) σ))) : At G mL_isEcho rL_isEcho uc us 105 [some (vR x0), some (vI x1), some (vI x2), some (vI x3), some (vI x4), some (vI x5)] [(vI s0), (vI s1)] σ K := by
  refine s_icmp_gt (tgt := 112) dL_isEcho_105 (by decide) (fun q1 => ?_) (fun q1 => ?_)
  · have h := h.1 q1
    refine s_iconst (v := 0) dL_isEcho_112 (by decide) ?_
    obtain ⟨u2, u3, h⟩ := h
    exact s_ireturn dL_isEcho_113 rfl rfl u2 u3 h
  · have h := h.2 q1
    refine s_iconst (v := 1) dL_isEcho_108 (by decide) ?_
    refine s_goto (tgt := 113) dL_isEcho_109 (by decide) ?_
    obtain ⟨u4, u5, h⟩ := h
    exact s_ireturn dL_isEcho_113 rfl rfl u4 u5 h
theorem vL_isFewest_0 {G : GG} (gk : GOK G) {uc us : Nat} {σ : Mm} {K : RES → Mm → Prop} {x0 : Option Nat} {x1 : Int32} {x2 : Int32}
    (h : At G mL_isFewest rL_isFewest uc us 5 [some (vR x0), some (vI x1), some (vI x2), some (vI (1 : Int32)), some (vI (0 : Int32))] [] σ K) : At G mL_isFewest rL_isFewest uc us 0 [some (vR x0), some (vI x1), some (vI x2), none, none] [] σ K := by
  refine s_iconst (v := 1) dL_isFewest_0 (by decide) ?_
  refine s_istore_n (i := 3) (L' := [some (vR x0), some (vI x1), some (vI x2), some (vI (1 : Int32)), none]) dL_isFewest_1 rfl rfl (by decide) rfl ?_
  refine s_iconst (v := 0) dL_isFewest_2 (by decide) ?_
  refine s_istore (L' := [some (vR x0), some (vI x1), some (vI x2), some (vI (1 : Int32)), some (vI (0 : Int32))]) dL_isFewest_3 rfl (by decide) rfl ?_
  exact h
theorem eL_isFewest {G : GG} (gk : GOK G) {σ : Mm} {K : RES → Mm → Prop} {x0 : Option Nat} {x1 : Int32} {x2 : Int32}
    (h : At G mL_isFewest rL_isFewest 0 0 5 [some (vR x0), some (vI x1), some (vI x2), some (vI (1 : Int32)), some (vI (0 : Int32))] [] σ K) : Runs G mL_isFewest rL_isFewest [(vR x0), (vI x1), (vI x2)] σ K := Runs.of (by decide) rfl (Nat.le_of_ble_eq_true rfl) (vL_isFewest_0 gk h)
theorem vL_isFewest_5 {G : GG} (gk : GOK G) {uc us : Nat} {σ : Mm} {K : RES → Mm → Prop} {x0 : Option Nat} {x1 : Int32} {x2 : Int32} {x3 : Int32} {x4 : Int32}
    (h : ∃ a1, x0 = some a1 ∧ (mt σ a1).1 = 9 ∧ uc + 1 ≤ 60 ∧ us + 6 ≤ 400 ∧ Runs G mX8_echoCount rX8_echoCount [(vR x0), (vI x1)] σ (bk G mL_isFewest rL_isFewest (uc + 1) (us + 6) 12 [some (vR x0), some (vI x1), some (vI x2), some (vI x3), some (vI x4)] [(vI x4)] K)) : At G mL_isFewest rL_isFewest uc us 5 [some (vR x0), some (vI x1), some (vI x2), some (vI x3), some (vI x4)] [] σ K := by
  refine s_iload dL_isFewest_5 rfl ?_
  refine s_aload_n (i := 0) dL_isFewest_7 rfl rfl ?_
  refine s_iload_n (i := 1) dL_isFewest_8 rfl rfl ?_
  obtain ⟨a1, ea1, h⟩ := h
  obtain ⟨t2, h⟩ := h
  obtain ⟨u3, u4, h⟩ := h
  exact t_callV (rmY := rX8_echoCount) (ci := 8) (as := [(vI x1)]) (S := [(vI x4)]) gk dL_isFewest_9 gL_58 (by decide) rfl w_953 w_954 ea1 t2 rfl rfl (Nat.le_of_ble_eq_true rfl) ⟨by decide, by decide, u3, u4⟩ h
theorem vL_isFewest_12 {G : GG} (gk : GOK G) {uc us : Nat} {σ : Mm} {K : RES → Mm → Prop} {x0 : Option Nat} {x1 : Int32} {x2 : Int32} {x3 : Int32} {x4 : Int32} {s0 : Int32} {s1 : Int32}
    (h : ((s0 ≤ s1 → uc ≤ 60 ∧ us ≤ 400 ∧ isZ x3 ∧ K (.inl (some (vI x3))) σ) ∧ (¬ s0 ≤ s1 → ((x3 = 0 → At G mL_isFewest rL_isFewest uc us 5 [some (vR x0), some (vI x1), some (vI x2), some (vI (0 : Int32)), some (vI (x4 + 1))] [] σ K) ∧ (¬ x3 = 0 → ∃ a6, x0 = some a6 ∧ (mt σ a6).1 = 9 ∧ uc + 2 ≤ 60 ∧ us + 12 ≤ 400 ∧ Runs G mX8_hitsOf rX8_hitsOf [(vR x0), (vI x1), (vI x2)] σ (bk G mL_isFewest rL_isFewest (uc + 2) (us + 12) 25 [some (vR x0), some (vI x1), some (vI x2), some (vI x3), some (vI x4)] [] K)))))) : At G mL_isFewest rL_isFewest uc us 12 [some (vR x0), some (vI x1), some (vI x2), some (vI x3), some (vI x4)] [(vI s0), (vI s1)] σ K := by
  refine s_icmp_ge (tgt := 52) dL_isFewest_12 (by decide) (fun q1 => ?_) (fun q1 => ?_)
  · have h := h.1 q1
    refine s_iload_n (i := 3) dL_isFewest_52 rfl rfl ?_
    obtain ⟨u2, u3, h⟩ := h
    obtain ⟨c4, h⟩ := h
    exact s_ireturn dL_isFewest_53 rfl (nf_z c4).1 u2 u3 h
  · have h := h.2 q1
    refine s_iload_n (i := 3) dL_isFewest_15 rfl rfl ?_
    refine s_if_eq (tgt := 44) dL_isFewest_16 (by decide) (fun q5 => ?_) (fun q5 => ?_)
    · have h := h.1 q5
      refine s_iconst (v := 0) dL_isFewest_44 (by decide) ?_
      refine s_istore_n (i := 3) (L' := [some (vR x0), some (vI x1), some (vI x2), some (vI (0 : Int32)), some (vI x4)]) dL_isFewest_45 rfl rfl (by decide) rfl ?_
      refine s_iinc (v := x4 + 1) (L' := [some (vR x0), some (vI x1), some (vI x2), some (vI (0 : Int32)), some (vI (x4 + 1))]) dL_isFewest_46 rfl rfl rfl (by decide) rfl ?_
      refine s_goto (tgt := 5) dL_isFewest_49 (by decide) ?_
      exact h
    · have h := h.2 q5
      refine s_aload_n (i := 0) dL_isFewest_19 rfl rfl ?_
      refine s_iload_n (i := 1) dL_isFewest_20 rfl rfl ?_
      refine s_iload_n (i := 2) dL_isFewest_21 rfl rfl ?_
      obtain ⟨a6, ea6, h⟩ := h
      obtain ⟨t7, h⟩ := h
      obtain ⟨u8, u9, h⟩ := h
      exact t_callV (rmY := rX8_hitsOf) (ci := 8) (as := [(vI x1), (vI x2)]) (S := []) gk dL_isFewest_22 gL_76 (by decide) rfl w_866 w_867 ea6 t7 rfl rfl (Nat.le_of_ble_eq_true rfl) ⟨by decide, by decide, u8, u9⟩ h
theorem vL_isFewest_25 {G : GG} (gk : GOK G) {uc us : Nat} {σ : Mm} {K : RES → Mm → Prop} {x0 : Option Nat} {x1 : Int32} {x2 : Int32} {x3 : Int32} {x4 : Int32} {s0 : Int32}
    (h : ∃ a1, x0 = some a1 ∧ (mt σ a1).1 = 9 ∧ uc + 2 ≤ 60 ∧ us + 12 ≤ 400 ∧ Runs G mX8_echoAt rX8_echoAt [(vR x0), (vI x1), (vI x4)] σ (bk G mL_isFewest rL_isFewest (uc + 2) (us + 12) 34 [some (vR x0), some (vI x1), some (vI x2), some (vI x3), some (vI x4)] [(vI x1), (vR x0), (vI s0)] K)) : At G mL_isFewest rL_isFewest uc us 25 [some (vR x0), some (vI x1), some (vI x2), some (vI x3), some (vI x4)] [(vI s0)] σ K := by
  refine s_aload_n (i := 0) dL_isFewest_25 rfl rfl ?_
  refine s_iload_n (i := 1) dL_isFewest_26 rfl rfl ?_
  refine s_aload_n (i := 0) dL_isFewest_27 rfl rfl ?_
  refine s_iload_n (i := 1) dL_isFewest_28 rfl rfl ?_
  refine s_iload dL_isFewest_29 rfl ?_
  obtain ⟨a1, ea1, h⟩ := h
  obtain ⟨t2, h⟩ := h
  obtain ⟨u3, u4, h⟩ := h
  exact t_callV (rmY := rX8_echoAt) (ci := 8) (as := [(vI x1), (vI x4)]) (S := [(vI x1), (vR x0), (vI s0)]) gk dL_isFewest_31 gL_61 (by decide) rfl w_880 w_881 ea1 t2 rfl rfl (Nat.le_of_ble_eq_true rfl) ⟨by decide, by decide, u3, u4⟩ h
theorem vL_isFewest_34 {G : GG} (gk : GOK G) {uc us : Nat} {σ : Mm} {K : RES → Mm → Prop} {x0 : Option Nat} {x1 : Int32} {x2 : Int32} {x3 : Int32} {x4 : Int32} {s0 : Int32} {s1 : Int32} {s2 : Option Nat} {s3 : Int32}
    (h : ∃ a1, s2 = some a1 ∧ (mt σ a1).1 = 9 ∧ uc + 2 ≤ 60 ∧ us + 12 ≤ 400 ∧ Runs G mX8_hitsOf rX8_hitsOf [(vR s2), (vI s1), (vI s0)] σ (bk G mL_isFewest rL_isFewest (uc + 2) (us + 12) 37 [some (vR x0), some (vI x1), some (vI x2), some (vI x3), some (vI x4)] [(vI s3)] K)) : At G mL_isFewest rL_isFewest uc us 34 [some (vR x0), some (vI x1), some (vI x2), some (vI x3), some (vI x4)] [(vI s0), (vI s1), (vR s2), (vI s3)] σ K := by
  obtain ⟨a1, ea1, h⟩ := h
  obtain ⟨t2, h⟩ := h
  obtain ⟨u3, u4, h⟩ := h
  exact t_callV (rmY := rX8_hitsOf) (ci := 8) (as := [(vI s1), (vI s0)]) (S := [(vI s3)]) gk dL_isFewest_34 gL_76 (by decide) rfl w_866 w_867 ea1 t2 rfl rfl (Nat.le_of_ble_eq_true rfl) ⟨by decide, by decide, u3, u4⟩ h
theorem vL_isFewest_37 {G : GG} (gk : GOK G) {uc us : Nat} {σ : Mm} {K : RES → Mm → Prop} {x0 : Option Nat} {x1 : Int32} {x2 : Int32} {x3 : Int32} {x4 : Int32} {s0 : Int32} {s1 : Int32}
    (h : ((s0 < s1 → At G mL_isFewest rL_isFewest uc us 5 [some (vR x0), some (vI x1), some (vI x2), some (vI (0 : Int32)), some (vI (x4 + 1))] [] σ K) ∧ (¬ s0 < s1 → At G mL_isFewest rL_isFewest uc us 5 [some (vR x0), some (vI x1), some (vI x2), some (vI (1 : Int32)), some (vI (x4 + 1))] [] σ K))) : At G mL_isFewest rL_isFewest uc us 37 [some (vR x0), some (vI x1), some (vI x2), some (vI x3), some (vI x4)] [(vI s0), (vI s1)] σ K := by
  refine s_icmp_gt (tgt := 44) dL_isFewest_37 (by decide) (fun q1 => ?_) (fun q1 => ?_)
  · have h := h.1 q1
    refine s_iconst (v := 0) dL_isFewest_44 (by decide) ?_
    refine s_istore_n (i := 3) (L' := [some (vR x0), some (vI x1), some (vI x2), some (vI (0 : Int32)), some (vI x4)]) dL_isFewest_45 rfl rfl (by decide) rfl ?_
    refine s_iinc (v := x4 + 1) (L' := [some (vR x0), some (vI x1), some (vI x2), some (vI (0 : Int32)), some (vI (x4 + 1))]) dL_isFewest_46 rfl rfl rfl (by decide) rfl ?_
    refine s_goto (tgt := 5) dL_isFewest_49 (by decide) ?_
    exact h
  · have h := h.2 q1
    refine s_iconst (v := 1) dL_isFewest_40 (by decide) ?_
    refine s_goto (tgt := 45) dL_isFewest_41 (by decide) ?_
    refine s_istore_n (i := 3) (L' := [some (vR x0), some (vI x1), some (vI x2), some (vI (1 : Int32)), some (vI x4)]) dL_isFewest_45 rfl rfl (by decide) rfl ?_
    refine s_iinc (v := x4 + 1) (L' := [some (vR x0), some (vI x1), some (vI x2), some (vI (1 : Int32)), some (vI (x4 + 1))]) dL_isFewest_46 rfl rfl rfl (by decide) rfl ?_
    refine s_goto (tgt := 5) dL_isFewest_49 (by decide) ?_
    exact h
theorem vL_spells_0 {G : GG} (gk : GOK G) {uc us : Nat} {σ : Mm} {K : RES → Mm → Prop} {x0 : Option Nat} {x1 : Int32} {x2 : Option Nat}
    (h : ∃ a1, x2 = some a1 ∧ (mt σ a1).1 = 10 ∧ uc + 0 ≤ 100 ∧ us + 0 ≤ 600 ∧ Runs G mJ0_length_8abf5 rJ0_length_8abf5 [(vR x2)] σ (bk G mL_spells rL_spells (uc + 0) (us + 0) 5 [some (vR x0), some (vI x1), some (vR x2), none, none] [(vI x1)] K)) : At G mL_spells rL_spells uc us 0 [some (vR x0), some (vI x1), some (vR x2), none, none] [] σ K := by
  refine s_iload_n (i := 1) dL_spells_0 rfl rfl ?_
  refine s_aload_n (i := 2) dL_spells_1 rfl rfl ?_
  obtain ⟨a1, ea1, h⟩ := h
  obtain ⟨t2, h⟩ := h
  obtain ⟨u3, u4, h⟩ := h
  exact t_callV (rmY := rJ0_length_8abf5) (ci := 9) (as := []) (S := [(vI x1)]) gk dL_spells_2 gL_148 (by decide) rfl w_1159 w_1160 ea1 t2 rfl rfl (Nat.le_of_ble_eq_true rfl) ⟨by decide, by decide, u3, u4⟩ h
theorem eL_spells {G : GG} (gk : GOK G) {σ : Mm} {K : RES → Mm → Prop} {x0 : Option Nat} {x1 : Int32} {x2 : Option Nat}
    (h : ∃ a1, x2 = some a1 ∧ (mt σ a1).1 = 10 ∧ 0 + 0 ≤ 100 ∧ 0 + 0 ≤ 600 ∧ Runs G mJ0_length_8abf5 rJ0_length_8abf5 [(vR x2)] σ (bk G mL_spells rL_spells (0 + 0) (0 + 0) 5 [some (vR x0), some (vI x1), some (vR x2), none, none] [(vI x1)] K)) : Runs G mL_spells rL_spells [(vR x0), (vI x1), (vR x2)] σ K := Runs.of (by decide) rfl (Nat.le_of_ble_eq_true rfl) (vL_spells_0 gk h)
theorem vL_spells_5 {G : GG} (gk : GOK G) {uc us : Nat} {σ : Mm} {K : RES → Mm → Prop} {x0 : Option Nat} {x1 : Int32} {x2 : Option Nat} {s0 : Int32} {s1 : Int32}
    (h : ((¬ s1 = s0 → At G mL_spells rL_spells uc us 17 [some (vR x0), some (vI x1), some (vR x2), some (vI (0 : Int32)), some (vI (0 : Int32))] [] σ K) ∧ (s1 = s0 → At G mL_spells rL_spells uc us 17 [some (vR x0), some (vI x1), some (vR x2), some (vI (1 : Int32)), some (vI (0 : Int32))] [] σ K))) : At G mL_spells rL_spells uc us 5 [some (vR x0), some (vI x1), some (vR x2), none, none] [(vI s0), (vI s1)] σ K := by
  refine s_icmp_ne (tgt := 12) dL_spells_5 (by decide) (fun q1 => ?_) (fun q1 => ?_)
  · have h := h.1 q1
    refine s_iconst (v := 0) dL_spells_12 (by decide) ?_
    refine s_istore_n (i := 3) (L' := [some (vR x0), some (vI x1), some (vR x2), some (vI (0 : Int32)), none]) dL_spells_13 rfl rfl (by decide) rfl ?_
    refine s_iconst (v := 0) dL_spells_14 (by decide) ?_
    refine s_istore (L' := [some (vR x0), some (vI x1), some (vR x2), some (vI (0 : Int32)), some (vI (0 : Int32))]) dL_spells_15 rfl (by decide) rfl ?_
    exact h
  · have h := h.2 q1
    refine s_iconst (v := 1) dL_spells_8 (by decide) ?_
    refine s_goto (tgt := 13) dL_spells_9 (by decide) ?_
    refine s_istore_n (i := 3) (L' := [some (vR x0), some (vI x1), some (vR x2), some (vI (1 : Int32)), none]) dL_spells_13 rfl rfl (by decide) rfl ?_
    refine s_iconst (v := 0) dL_spells_14 (by decide) ?_
    refine s_istore (L' := [some (vR x0), some (vI x1), some (vR x2), some (vI (1 : Int32)), some (vI (0 : Int32))]) dL_spells_15 rfl (by decide) rfl ?_
    exact h
theorem vL_spells_17 {G : GG} (gk : GOK G) {uc us : Nat} {σ : Mm} {K : RES → Mm → Prop} {x0 : Option Nat} {x1 : Int32} {x2 : Option Nat} {x3 : Int32} {x4 : Int32}
    (h : ∃ a1, x2 = some a1 ∧ (mt σ a1).1 = 10 ∧ uc + 0 ≤ 100 ∧ us + 0 ≤ 600 ∧ Runs G mJ0_length_8abf5 rJ0_length_8abf5 [(vR x2)] σ (bk G mL_spells rL_spells (uc + 0) (us + 0) 23 [some (vR x0), some (vI x1), some (vR x2), some (vI x3), some (vI x4)] [(vI x4)] K)) : At G mL_spells rL_spells uc us 17 [some (vR x0), some (vI x1), some (vR x2), some (vI x3), some (vI x4)] [] σ K := by
  refine s_iload dL_spells_17 rfl ?_
  refine s_aload_n (i := 2) dL_spells_19 rfl rfl ?_
  obtain ⟨a1, ea1, h⟩ := h
  obtain ⟨t2, h⟩ := h
  obtain ⟨u3, u4, h⟩ := h
  exact t_callV (rmY := rJ0_length_8abf5) (ci := 9) (as := []) (S := [(vI x4)]) gk dL_spells_20 gL_148 (by decide) rfl w_1159 w_1160 ea1 t2 rfl rfl (Nat.le_of_ble_eq_true rfl) ⟨by decide, by decide, u3, u4⟩ h
theorem vL_spells_23 {G : GG} (gk : GOK G) {uc us : Nat} {σ : Mm} {K : RES → Mm → Prop} {x0 : Option Nat} {x1 : Int32} {x2 : Option Nat} {x3 : Int32} {x4 : Int32} {s0 : Int32} {s1 : Int32}
    (h : ((s0 ≤ s1 → ((x3 = 0 → uc ≤ 100 ∧ us ≤ 600 ∧ K (.inl (some (vI (0 : Int32)))) σ) ∧ (¬ x3 = 0 → uc + 1 ≤ 100 ∧ us + 6 ≤ 600 ∧ RunsH G mL_lineAt hL_lineAt rL_lineAt [(vR x0), (vI x1)] σ (bk G mL_spells rL_spells (uc + 1) (us + 6) 66 [some (vR x0), some (vI x1), some (vR x2), some (vI x3), some (vI x4)] [] K)))) ∧ (¬ s0 ≤ s1 → ((x3 = 0 → ((x3 = 0 → uc ≤ 100 ∧ us ≤ 600 ∧ K (.inl (some (vI (0 : Int32)))) σ) ∧ (¬ x3 = 0 → uc + 1 ≤ 100 ∧ us + 6 ≤ 600 ∧ RunsH G mL_lineAt hL_lineAt rL_lineAt [(vR x0), (vI x1)] σ (bk G mL_spells rL_spells (uc + 1) (us + 6) 66 [some (vR x0), some (vI x1), some (vR x2), some (vI x3), some (vI x4)] [] K)))) ∧ (¬ x3 = 0 → uc + 1 ≤ 100 ∧ us + 6 ≤ 600 ∧ RunsH G mL_lineAt hL_lineAt rL_lineAt [(vR x0), (vI x4)] σ (bk G mL_spells rL_spells (uc + 1) (us + 6) 36 [some (vR x0), some (vI x1), some (vR x2), some (vI x3), some (vI x4)] [] K)))))) : At G mL_spells rL_spells uc us 23 [some (vR x0), some (vI x1), some (vR x2), some (vI x3), some (vI x4)] [(vI s0), (vI s1)] σ K := by
  refine s_icmp_ge (tgt := 57) dL_spells_23 (by decide) (fun q1 => ?_) (fun q1 => ?_)
  · have h := h.1 q1
    refine s_iload_n (i := 3) dL_spells_57 rfl rfl ?_
    refine s_if_eq (tgt := 75) dL_spells_58 (by decide) (fun q2 => ?_) (fun q2 => ?_)
    · have h := h.1 q2
      refine s_iconst (v := 0) dL_spells_75 (by decide) ?_
      obtain ⟨u3, u4, h⟩ := h
      exact s_ireturn dL_spells_76 rfl rfl u3 u4 h
    · have h := h.2 q2
      refine s_aload_n (i := 0) dL_spells_61 rfl rfl ?_
      refine s_iload_n (i := 1) dL_spells_62 rfl rfl ?_
      obtain ⟨u5, u6, h⟩ := h
      exact s_callSH (as := [(vR x0), (vI x1)]) (S := []) gk dL_spells_63 (kL_lineAt _ _ w_1371) w_1372 rfl rfl (Nat.le_of_ble_eq_true rfl) ⟨by decide, by decide, u5, u6⟩ h
  · have h := h.2 q1
    refine s_iload_n (i := 3) dL_spells_26 rfl rfl ?_
    refine s_if_eq (tgt := 57) dL_spells_27 (by decide) (fun q7 => ?_) (fun q7 => ?_)
    · have h := h.1 q7
      refine s_iload_n (i := 3) dL_spells_57 rfl rfl ?_
      refine s_if_eq (tgt := 75) dL_spells_58 (by decide) (fun q8 => ?_) (fun q8 => ?_)
      · have h := h.1 q8
        refine s_iconst (v := 0) dL_spells_75 (by decide) ?_
        obtain ⟨u9, u10, h⟩ := h
        exact s_ireturn dL_spells_76 rfl rfl u9 u10 h
      · have h := h.2 q8
        refine s_aload_n (i := 0) dL_spells_61 rfl rfl ?_
        refine s_iload_n (i := 1) dL_spells_62 rfl rfl ?_
        obtain ⟨u11, u12, h⟩ := h
        exact s_callSH (as := [(vR x0), (vI x1)]) (S := []) gk dL_spells_63 (kL_lineAt _ _ w_1371) w_1372 rfl rfl (Nat.le_of_ble_eq_true rfl) ⟨by decide, by decide, u11, u12⟩ h
    · have h := h.2 q7
      refine s_aload_n (i := 0) dL_spells_30 rfl rfl ?_
      refine s_iload dL_spells_31 rfl ?_
      obtain ⟨u13, u14, h⟩ := h
      exact s_callSH (as := [(vR x0), (vI x4)]) (S := []) gk dL_spells_33 (kL_lineAt _ _ w_1371) w_1372 rfl rfl (Nat.le_of_ble_eq_true rfl) ⟨by decide, by decide, u13, u14⟩ h
theorem vL_spells_36 {G : GG} (gk : GOK G) {uc us : Nat} {σ : Mm} {K : RES → Mm → Prop} {x0 : Option Nat} {x1 : Int32} {x2 : Option Nat} {x3 : Int32} {x4 : Int32} {s0 : Int32}
    (h : ∃ a1, x2 = some a1 ∧ (mt σ a1).1 = 10 ∧ uc + 0 ≤ 100 ∧ us + 0 ≤ 600 ∧ Runs G mJ0_charAt_5068e rJ0_charAt_5068e [(vR x2), (vI x4)] σ (bk G mL_spells rL_spells (uc + 0) (us + 0) 42 [some (vR x0), some (vI x1), some (vR x2), some (vI x3), some (vI x4)] [(vI s0)] K)) : At G mL_spells rL_spells uc us 36 [some (vR x0), some (vI x1), some (vR x2), some (vI x3), some (vI x4)] [(vI s0)] σ K := by
  refine s_aload_n (i := 2) dL_spells_36 rfl rfl ?_
  refine s_iload dL_spells_37 rfl ?_
  obtain ⟨a1, ea1, h⟩ := h
  obtain ⟨t2, h⟩ := h
  obtain ⟨u3, u4, h⟩ := h
  exact t_callV (rmY := rJ0_charAt_5068e) (ci := 9) (as := [(vI x4)]) (S := [(vI s0)]) gk dL_spells_39 gL_153 (by decide) rfl w_561 w_562 ea1 t2 rfl rfl (Nat.le_of_ble_eq_true rfl) ⟨by decide, by decide, u3, u4⟩ h
theorem vL_spells_42 {G : GG} (gk : GOK G) {uc us : Nat} {σ : Mm} {K : RES → Mm → Prop} {x0 : Option Nat} {x1 : Int32} {x2 : Option Nat} {x3 : Int32} {x4 : Int32} {s0 : Int32} {s1 : Int32}
    (h : ((¬ s1 = s0 → At G mL_spells rL_spells uc us 17 [some (vR x0), some (vI x1), some (vR x2), some (vI (0 : Int32)), some (vI (x4 + 1))] [] σ K) ∧ (s1 = s0 → At G mL_spells rL_spells uc us 17 [some (vR x0), some (vI x1), some (vR x2), some (vI (1 : Int32)), some (vI (x4 + 1))] [] σ K))) : At G mL_spells rL_spells uc us 42 [some (vR x0), some (vI x1), some (vR x2), some (vI x3), some (vI x4)] [(vI s0), (vI s1)] σ K := by
  refine s_icmp_ne (tgt := 49) dL_spells_42 (by decide) (fun q1 => ?_) (fun q1 => ?_)
  · have h := h.1 q1
    refine s_iconst (v := 0) dL_spells_49 (by decide) ?_
    refine s_istore_n (i := 3) (L' := [some (vR x0), some (vI x1), some (vR x2), some (vI (0 : Int32)), some (vI x4)]) dL_spells_50 rfl rfl (by decide) rfl ?_
    refine s_iinc (v := x4 + 1) (L' := [some (vR x0), some (vI x1), some (vR x2), some (vI (0 : Int32)), some (vI (x4 + 1))]) dL_spells_51 rfl rfl rfl (by decide) rfl ?_
    refine s_goto (tgt := 17) dL_spells_54 (by decide) ?_
    exact h
  · have h := h.2 q1
    refine s_iconst (v := 1) dL_spells_45 (by decide) ?_
    refine s_goto (tgt := 50) dL_spells_46 (by decide) ?_
    refine s_istore_n (i := 3) (L' := [some (vR x0), some (vI x1), some (vR x2), some (vI (1 : Int32)), some (vI x4)]) dL_spells_50 rfl rfl (by decide) rfl ?_
    refine s_iinc (v := x4 + 1) (L' := [some (vR x0), some (vI x1), some (vR x2), some (vI (1 : Int32)), some (vI (x4 + 1))]) dL_spells_51 rfl rfl rfl (by decide) rfl ?_
    refine s_goto (tgt := 17) dL_spells_54 (by decide) ?_
    exact h
theorem vL_spells_66 {G : GG} (gk : GOK G) {uc us : Nat} {σ : Mm} {K : RES → Mm → Prop} {x0 : Option Nat} {x1 : Int32} {x2 : Option Nat} {x3 : Int32} {x4 : Int32} {s0 : Int32}
    (h : ((¬ s0 = (-11 : Int32) → uc ≤ 100 ∧ us ≤ 600 ∧ K (.inl (some (vI (0 : Int32)))) σ) ∧ (s0 = (-11 : Int32) → uc ≤ 100 ∧ us ≤ 600 ∧ K (.inl (some (vI (1 : Int32)))) σ))) : At G mL_spells rL_spells uc us 66 [some (vR x0), some (vI x1), some (vR x2), some (vI x3), some (vI x4)] [(vI s0)] σ K := by
  refine s_bipush (v := -11) dL_spells_66 (by decide) ?_
  refine s_icmp_ne (tgt := 75) dL_spells_68 (by decide) (fun q1 => ?_) (fun q1 => ?_)
  · have h := h.1 q1
    refine s_iconst (v := 0) dL_spells_75 (by decide) ?_
    obtain ⟨u2, u3, h⟩ := h
    exact s_ireturn dL_spells_76 rfl rfl u2 u3 h
  · have h := h.2 q1
    refine s_iconst (v := 1) dL_spells_71 (by decide) ?_
    refine s_goto (tgt := 76) dL_spells_72 (by decide) ?_
    obtain ⟨u4, u5, h⟩ := h
    exact s_ireturn dL_spells_76 rfl rfl u4 u5 h
theorem vL_execute_0 {G : GG} (gk : GOK G) {uc us : Nat} {σ : Mm} {K : RES → Mm → Prop} {x0 : Option Nat} {x1 : Option Nat}
    (h : At G mL_execute rL_execute uc us 2 [some (vR x0), some (vR x1), some (vI (0 : Int32))] [] σ K) : At G mL_execute rL_execute uc us 0 [some (vR x0), some (vR x1), none] [] σ K := by
  refine s_iconst (v := 0) dL_execute_0 (by decide) ?_
  refine s_istore_n (i := 2) (L' := [some (vR x0), some (vR x1), some (vI (0 : Int32))]) dL_execute_1 rfl rfl (by decide) rfl ?_
  exact h
theorem eL_execute {G : GG} (gk : GOK G) {σ : Mm} {K : RES → Mm → Prop} {x0 : Option Nat} {x1 : Option Nat}
    (h : At G mL_execute rL_execute 0 0 2 [some (vR x0), some (vR x1), some (vI (0 : Int32))] [] σ K) : Runs G mL_execute rL_execute [(vR x0), (vR x1)] σ K := Runs.of (by decide) rfl (Nat.le_of_ble_eq_true rfl) (vL_execute_0 gk h)
theorem vL_execute_2 {G : GG} (gk : GOK G) {uc us : Nat} {σ : Mm} {K : RES → Mm → Prop} {x0 : Option Nat} {x1 : Option Nat} {x2 : Int32}
    (h : ∃ a1, x1 = some a1 ∧ (mt σ a1).1 = 10 ∧ uc + 0 ≤ 100 ∧ us + 0 ≤ 600 ∧ Runs G mJ0_length_8abf5 rJ0_length_8abf5 [(vR x1)] σ (bk G mL_execute rL_execute (uc + 0) (us + 0) 7 [some (vR x0), some (vR x1), some (vI x2)] [(vI x2)] K)) : At G mL_execute rL_execute uc us 2 [some (vR x0), some (vR x1), some (vI x2)] [] σ K := by
  refine s_iload_n (i := 2) dL_execute_2 rfl rfl ?_
  refine s_aload_n (i := 1) dL_execute_3 rfl rfl ?_
  obtain ⟨a1, ea1, h⟩ := h
  obtain ⟨t2, h⟩ := h
  obtain ⟨u3, u4, h⟩ := h
  exact t_callV (rmY := rJ0_length_8abf5) (ci := 9) (as := []) (S := [(vI x2)]) gk dL_execute_4 gL_148 (by decide) rfl w_1159 w_1160 ea1 t2 rfl rfl (Nat.le_of_ble_eq_true rfl) ⟨by decide, by decide, u3, u4⟩ h
theorem vL_execute_7 {G : GG} (gk : GOK G) {uc us : Nat} {σ : Mm} {K : RES → Mm → Prop} {x0 : Option Nat} {x1 : Option Nat} {x2 : Int32} {s0 : Int32} {s1 : Int32}
    (h : ((s0 ≤ s1 → uc + 1 ≤ 100 ∧ us + 6 ≤ 600 ∧ RunsH G mL_executes hL_executes rL_executes [(vR x0)] σ (bk G mL_execute rL_execute (uc + 1) (us + 6) 38 [some (vR x0), some (vR x1), some (vI x2)] [] K)) ∧ (¬ s0 ≤ s1 → ∃ a4, x1 = some a4 ∧ (mt σ a4).1 = 10 ∧ uc + 0 ≤ 100 ∧ us + 0 ≤ 600 ∧ Runs G mJ0_charAt_5068e rJ0_charAt_5068e [(vR x1), (vI x2)] σ (bk G mL_execute rL_execute (uc + 0) (us + 0) 16 [some (vR x0), some (vR x1), some (vI x2)] [(vR x0)] K)))) : At G mL_execute rL_execute uc us 7 [some (vR x0), some (vR x1), some (vI x2)] [(vI s0), (vI s1)] σ K := by
  refine s_icmp_ge (tgt := 34) dL_execute_7 (by decide) (fun q1 => ?_) (fun q1 => ?_)
  · have h := h.1 q1
    refine s_aload_n (i := 0) dL_execute_34 rfl rfl ?_
    obtain ⟨u2, u3, h⟩ := h
    exact s_callSH (as := [(vR x0)]) (S := []) gk dL_execute_35 (kL_executes _ _ w_1450) w_1451 rfl rfl (Nat.le_of_ble_eq_true rfl) ⟨by decide, by decide, u2, u3⟩ h
  · have h := h.2 q1
    refine s_aload_n (i := 0) dL_execute_10 rfl rfl ?_
    refine s_aload_n (i := 1) dL_execute_11 rfl rfl ?_
    refine s_iload_n (i := 2) dL_execute_12 rfl rfl ?_
    obtain ⟨a4, ea4, h⟩ := h
    obtain ⟨t5, h⟩ := h
    obtain ⟨u6, u7, h⟩ := h
    exact t_callV (rmY := rJ0_charAt_5068e) (ci := 9) (as := [(vI x2)]) (S := [(vR x0)]) gk dL_execute_13 gL_153 (by decide) rfl w_561 w_562 ea4 t5 rfl rfl (Nat.le_of_ble_eq_true rfl) ⟨by decide, by decide, u6, u7⟩ h
theorem vL_execute_16 {G : GG} (gk : GOK G) {uc us : Nat} {σ : Mm} {K : RES → Mm → Prop} {x0 : Option Nat} {x1 : Option Nat} {x2 : Int32} {s0 : Int32} {s1 : Option Nat}
    (h : uc + 1 ≤ 100 ∧ us + 6 ≤ 600 ∧ RunsH G mL_type hL_type rL_type [(vR s1), (vI s0)] σ (bk G mL_execute rL_execute (uc + 1) (us + 6) 19 [some (vR x0), some (vR x1), some (vI x2)] [] K)) : At G mL_execute rL_execute uc us 16 [some (vR x0), some (vR x1), some (vI x2)] [(vI s0), (vR s1)] σ K := by
  obtain ⟨u1, u2, h⟩ := h
  exact s_callSH (as := [(vR s1), (vI s0)]) (S := []) gk dL_execute_16 (kL_type _ _ w_1437) w_1438 rfl rfl (Nat.le_of_ble_eq_true rfl) ⟨by decide, by decide, u1, u2⟩ h
theorem vL_execute_19 {G : GG} (gk : GOK G) {uc us : Nat} {σ : Mm} {K : RES → Mm → Prop} {x0 : Option Nat} {x1 : Option Nat} {x2 : Int32} {s0 : Int32}
    (h : ((s0 = (x2 + (1 : Int32)) → At G mL_execute rL_execute uc us 2 [some (vR x0), some (vR x1), some (vI (x2 + 1))] [] σ K) ∧ (¬ s0 = (x2 + (1 : Int32)) → uc ≤ 100 ∧ us ≤ 600 ∧ K (.inl (some (vI (-9 : Int32)))) σ))) : At G mL_execute rL_execute uc us 19 [some (vR x0), some (vR x1), some (vI x2)] [(vI s0)] σ K := by
  refine s_iload_n (i := 2) dL_execute_19 rfl rfl ?_
  refine s_iconst (v := 1) dL_execute_20 (by decide) ?_
  refine s_iadd dL_execute_21 ?_
  refine s_icmp_eq (tgt := 28) dL_execute_22 (by decide) (fun q1 => ?_) (fun q1 => ?_)
  · have h := h.1 q1
    refine s_iinc (v := x2 + 1) (L' := [some (vR x0), some (vR x1), some (vI (x2 + 1))]) dL_execute_28 rfl rfl rfl (by decide) rfl ?_
    refine s_goto (tgt := 2) dL_execute_31 (by decide) ?_
    exact h
  · have h := h.2 q1
    refine s_bipush (v := -9) dL_execute_25 (by decide) ?_
    obtain ⟨u2, u3, h⟩ := h
    exact s_ireturn dL_execute_27 rfl rfl u2 u3 h
theorem vL_execute_38 {G : GG} (gk : GOK G) {uc us : Nat} {σ : Mm} {K : RES → Mm → Prop} {x0 : Option Nat} {x1 : Option Nat} {x2 : Int32} {s0 : Int32}
    (h : uc ≤ 100 ∧ us ≤ 600 ∧ K (.inl (some (vI s0))) σ) : At G mL_execute rL_execute uc us 38 [some (vR x0), some (vR x1), some (vI x2)] [(vI s0)] σ K := by
  obtain ⟨u1, u2, h⟩ := h
  exact s_ireturn dL_execute_38 rfl rfl u1 u2 h
