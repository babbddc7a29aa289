/-! ===== spells, region by region ===== -/
theorem vL_spellsS_0 {G : GG} (gk : GOK G) {uc us : Nat} {σ : Mm} {K : RES → Mm → Prop} {x0 : Option Nat} {x1 : Int32} {x2 : Option Nat}
    (h : ∃ a1, x2 = some a1 ∧ oSV G σ a1 ∧ uc + 0 ≤ 100 ∧ us + 0 ≤ 600 ∧ Runs G mJ0_length_8abf5 rJ0_length_8abf5 [(vR x2)] σ (bk G mL_spells rL_spells (uc + 0) (us + 0) 5 [some (vR x0), some (vI x1), some (vR x2), none, none] [(vI x1)] K)) : At G mL_spells rL_spells uc us 0 [some (vR x0), some (vI x1), some (vR x2), none, none] [] σ K := by
  refine s_iload_n (i := 1) dL_spells_0 rfl rfl ?_
  refine s_aload_n (i := 2) dL_spells_1 rfl rfl ?_
  obtain ⟨a1, ea1, h⟩ := h
  obtain ⟨o2, h⟩ := h
  obtain ⟨u3, u4, h⟩ := h
  exact s_callSV (rmY := rJ0_length_8abf5) (as := []) (S := [(vI x1)]) gk dL_spells_2 gL_148 rfl w_1159 w_1160 ea1 o2 rfl rfl (Nat.le_of_ble_eq_true rfl) ⟨by decide, by decide, u3, u4⟩ h
theorem eL_spellsS {G : GG} (gk : GOK G) {σ : Mm} {K : RES → Mm → Prop} {x0 : Option Nat} {x1 : Int32} {x2 : Option Nat}
    (h : ∃ a1, x2 = some a1 ∧ oSV G σ a1 ∧ 0 + 0 ≤ 100 ∧ 0 + 0 ≤ 600 ∧ Runs G mJ0_length_8abf5 rJ0_length_8abf5 [(vR x2)] σ (bk G mL_spells rL_spells (0 + 0) (0 + 0) 5 [some (vR x0), some (vI x1), some (vR x2), none, none] [(vI x1)] K)) : Runs G mL_spells rL_spells [(vR x0), (vI x1), (vR x2)] σ K := Runs.of (by decide) rfl (Nat.le_of_ble_eq_true rfl) (vL_spellsS_0 gk h)
theorem vL_spellsS_5 {G : GG} (gk : GOK G) {uc us : Nat} {σ : Mm} {K : RES → Mm → Prop} {x0 : Option Nat} {x1 : Int32} {x2 : Option Nat} {s0 : Int32} {s1 : Int32}
    (h : ((¬ s1 = s0 → At G mL_spells rL_spells uc us 17 [some (vR x0), some (vI x1), some (vR x2), some (vI (0 : Int32)), some (vI (0 : Int32))] [] σ K) ∧ (s1 = s0 → At G mL_spells rL_spells uc us 17 [some (vR x0), some (vI x1), some (vR x2), some (vI (1 : Int32)), some (vI (0 : Int32))] [] σ K))) : At G mL_spells rL_spells uc us 5 [some (vR x0), some (vI x1), some (vR x2), none, none] [(vI s0), (vI s1)] σ K := by
  refine s_icmp_ne (tgt := 12) dL_spells_5 (by decide) (fun q1 => ?_) (fun q1 => ?_)
  · have h := h.1 q1
    refine s_iconst (v := 0) dL_spells_12 (by decide) ?_
    refine s_istore_n (i := 3) (L' := [some (vR x0), some (vI x1), some (vR x2), some (vI (0 : Int32)), none]) dL_spells_13 rfl rfl (by decide) rfl ?_
    refine s_iconst (v := 0) dL_spells_14 (by decide) ?_
    refine s_istore (L' := [some (vR x0), some (vI x1), some (vR x2), some (vI (0 : Int32)), some (vI (0 : Int32))]) dL_spells_15 rfl (by decide) rfl ?_
    exact h
  · have h := h.2 q1
    refine s_iconst (v := 1) dL_spells_8 (by decide) ?_
    refine s_goto (tgt := 13) dL_spells_9 (by decide) ?_
    refine s_istore_n (i := 3) (L' := [some (vR x0), some (vI x1), some (vR x2), some (vI (1 : Int32)), none]) dL_spells_13 rfl rfl (by decide) rfl ?_
    refine s_iconst (v := 0) dL_spells_14 (by decide) ?_
    refine s_istore (L' := [some (vR x0), some (vI x1), some (vR x2), some (vI (1 : Int32)), some (vI (0 : Int32))]) dL_spells_15 rfl (by decide) rfl ?_
    exact h
theorem vL_spellsS_17 {G : GG} (gk : GOK G) {uc us : Nat} {σ : Mm} {K : RES → Mm → Prop} {x0 : Option Nat} {x1 : Int32} {x2 : Option Nat} {x3 : Int32} {x4 : Int32}
    (h : ∃ a1, x2 = some a1 ∧ oSV G σ a1 ∧ uc + 0 ≤ 100 ∧ us + 0 ≤ 600 ∧ Runs G mJ0_length_8abf5 rJ0_length_8abf5 [(vR x2)] σ (bk G mL_spells rL_spells (uc + 0) (us + 0) 23 [some (vR x0), some (vI x1), some (vR x2), some (vI x3), some (vI x4)] [(vI x4)] K)) : At G mL_spells rL_spells uc us 17 [some (vR x0), some (vI x1), some (vR x2), some (vI x3), some (vI x4)] [] σ K := by
  refine s_iload dL_spells_17 rfl ?_
  refine s_aload_n (i := 2) dL_spells_19 rfl rfl ?_
  obtain ⟨a1, ea1, h⟩ := h
  obtain ⟨o2, h⟩ := h
  obtain ⟨u3, u4, h⟩ := h
  exact s_callSV (rmY := rJ0_length_8abf5) (as := []) (S := [(vI x4)]) gk dL_spells_20 gL_148 rfl w_1159 w_1160 ea1 o2 rfl rfl (Nat.le_of_ble_eq_true rfl) ⟨by decide, by decide, u3, u4⟩ h
theorem vL_spellsS_23 {G : GG} (gk : GOK G) {uc us : Nat} {σ : Mm} {K : RES → Mm → Prop} {x0 : Option Nat} {x1 : Int32} {x2 : Option Nat} {x3 : Int32} {x4 : Int32} {s0 : Int32} {s1 : Int32}
    (h : ((s0 ≤ s1 → ((x3 = 0 → uc ≤ 100 ∧ us ≤ 600 ∧ K (.inl (some (vI (0 : Int32)))) σ) ∧ (¬ x3 = 0 → uc + 1 ≤ 100 ∧ us + 6 ≤ 600 ∧ RunsH G mL_lineAt hL_lineAt rL_lineAt [(vR x0), (vI x1)] σ (bk G mL_spells rL_spells (uc + 1) (us + 6) 66 [some (vR x0), some (vI x1), some (vR x2), some (vI x3), some (vI x4)] [] K)))) ∧ (¬ s0 ≤ s1 → ((x3 = 0 → ((x3 = 0 → uc ≤ 100 ∧ us ≤ 600 ∧ K (.inl (some (vI (0 : Int32)))) σ) ∧ (¬ x3 = 0 → uc + 1 ≤ 100 ∧ us + 6 ≤ 600 ∧ RunsH G mL_lineAt hL_lineAt rL_lineAt [(vR x0), (vI x1)] σ (bk G mL_spells rL_spells (uc + 1) (us + 6) 66 [some (vR x0), some (vI x1), some (vR x2), some (vI x3), some (vI x4)] [] K)))) ∧ (¬ x3 = 0 → uc + 1 ≤ 100 ∧ us + 6 ≤ 600 ∧ RunsH G mL_lineAt hL_lineAt rL_lineAt [(vR x0), (vI x4)] σ (bk G mL_spells rL_spells (uc + 1) (us + 6) 36 [some (vR x0), some (vI x1), some (vR x2), some (vI x3), some (vI x4)] [] K)))))) : At G mL_spells rL_spells uc us 23 [some (vR x0), some (vI x1), some (vR x2), some (vI x3), some (vI x4)] [(vI s0), (vI s1)] σ K := by
  refine s_icmp_ge (tgt := 57) dL_spells_23 (by decide) (fun q1 => ?_) (fun q1 => ?_)
  · have h := h.1 q1
    refine s_iload_n (i := 3) dL_spells_57 rfl rfl ?_
    refine s_if_eq (tgt := 75) dL_spells_58 (by decide) (fun q2 => ?_) (fun q2 => ?_)
    · have h := h.1 q2
      refine s_iconst (v := 0) dL_spells_75 (by decide) ?_
      obtain ⟨u3, u4, h⟩ := h
      exact s_ireturn dL_spells_76 rfl rfl u3 u4 h
    · have h := h.2 q2
      refine s_aload_n (i := 0) dL_spells_61 rfl rfl ?_
      refine s_iload_n (i := 1) dL_spells_62 rfl rfl ?_
      obtain ⟨u5, u6, h⟩ := h
      exact s_callSH (as := [(vR x0), (vI x1)]) (S := []) gk dL_spells_63 (kL_lineAt _ _ w_1371) w_1372 rfl rfl (Nat.le_of_ble_eq_true rfl) ⟨by decide, by decide, u5, u6⟩ h
  · have h := h.2 q1
    refine s_iload_n (i := 3) dL_spells_26 rfl rfl ?_
    refine s_if_eq (tgt := 57) dL_spells_27 (by decide) (fun q7 => ?_) (fun q7 => ?_)
    · have h := h.1 q7
      refine s_iload_n (i := 3) dL_spells_57 rfl rfl ?_
      refine s_if_eq (tgt := 75) dL_spells_58 (by decide) (fun q8 => ?_) (fun q8 => ?_)
      · have h := h.1 q8
        refine s_iconst (v := 0) dL_spells_75 (by decide) ?_
        obtain ⟨u9, u10, h⟩ := h
        exact s_ireturn dL_spells_76 rfl rfl u9 u10 h
      · have h := h.2 q8
        refine s_aload_n (i := 0) dL_spells_61 rfl rfl ?_
        refine s_iload_n (i := 1) dL_spells_62 rfl rfl ?_
        obtain ⟨u11, u12, h⟩ := h
        exact s_callSH (as := [(vR x0), (vI x1)]) (S := []) gk dL_spells_63 (kL_lineAt _ _ w_1371) w_1372 rfl rfl (Nat.le_of_ble_eq_true rfl) ⟨by decide, by decide, u11, u12⟩ h
    · have h := h.2 q7
      refine s_aload_n (i := 0) dL_spells_30 rfl rfl ?_
      refine s_iload dL_spells_31 rfl ?_
      obtain ⟨u13, u14, h⟩ := h
      exact s_callSH (as := [(vR x0), (vI x4)]) (S := []) gk dL_spells_33 (kL_lineAt _ _ w_1371) w_1372 rfl rfl (Nat.le_of_ble_eq_true rfl) ⟨by decide, by decide, u13, u14⟩ h
theorem vL_spellsS_36 {G : GG} (gk : GOK G) {uc us : Nat} {σ : Mm} {K : RES → Mm → Prop} {x0 : Option Nat} {x1 : Int32} {x2 : Option Nat} {x3 : Int32} {x4 : Int32} {s0 : Int32}
    (h : ∃ a1, x2 = some a1 ∧ oSV G σ a1 ∧ uc + 0 ≤ 100 ∧ us + 0 ≤ 600 ∧ Runs G mJ0_charAt_5068e rJ0_charAt_5068e [(vR x2), (vI x4)] σ (bk G mL_spells rL_spells (uc + 0) (us + 0) 42 [some (vR x0), some (vI x1), some (vR x2), some (vI x3), some (vI x4)] [(vI s0)] K)) : At G mL_spells rL_spells uc us 36 [some (vR x0), some (vI x1), some (vR x2), some (vI x3), some (vI x4)] [(vI s0)] σ K := by
  refine s_aload_n (i := 2) dL_spells_36 rfl rfl ?_
  refine s_iload dL_spells_37 rfl ?_
  obtain ⟨a1, ea1, h⟩ := h
  obtain ⟨o2, h⟩ := h
  obtain ⟨u3, u4, h⟩ := h
  exact s_callSV (rmY := rJ0_charAt_5068e) (as := [(vI x4)]) (S := [(vI s0)]) gk dL_spells_39 gL_153 rfl w_561 w_562 ea1 o2 rfl rfl (Nat.le_of_ble_eq_true rfl) ⟨by decide, by decide, u3, u4⟩ h
theorem vL_spellsS_42 {G : GG} (gk : GOK G) {uc us : Nat} {σ : Mm} {K : RES → Mm → Prop} {x0 : Option Nat} {x1 : Int32} {x2 : Option Nat} {x3 : Int32} {x4 : Int32} {s0 : Int32} {s1 : Int32}
    (h : ((¬ s1 = s0 → At G mL_spells rL_spells uc us 17 [some (vR x0), some (vI x1), some (vR x2), some (vI (0 : Int32)), some (vI (x4 + 1))] [] σ K) ∧ (s1 = s0 → At G mL_spells rL_spells uc us 17 [some (vR x0), some (vI x1), some (vR x2), some (vI (1 : Int32)), some (vI (x4 + 1))] [] σ K))) : At G mL_spells rL_spells uc us 42 [some (vR x0), some (vI x1), some (vR x2), some (vI x3), some (vI x4)] [(vI s0), (vI s1)] σ K := by
  refine s_icmp_ne (tgt := 49) dL_spells_42 (by decide) (fun q1 => ?_) (fun q1 => ?_)
  · have h := h.1 q1
    refine s_iconst (v := 0) dL_spells_49 (by decide) ?_
    refine s_istore_n (i := 3) (L' := [some (vR x0), some (vI x1), some (vR x2), some (vI (0 : Int32)), some (vI x4)]) dL_spells_50 rfl rfl (by decide) rfl ?_
    refine s_iinc (v := x4 + 1) (L' := [some (vR x0), some (vI x1), some (vR x2), some (vI (0 : Int32)), some (vI (x4 + 1))]) dL_spells_51 rfl rfl rfl (by decide) rfl ?_
    refine s_goto (tgt := 17) dL_spells_54 (by decide) ?_
    exact h
  · have h := h.2 q1
    refine s_iconst (v := 1) dL_spells_45 (by decide) ?_
    refine s_goto (tgt := 50) dL_spells_46 (by decide) ?_
    refine s_istore_n (i := 3) (L' := [some (vR x0), some (vI x1), some (vR x2), some (vI (1 : Int32)), some (vI x4)]) dL_spells_50 rfl rfl (by decide) rfl ?_
    refine s_iinc (v := x4 + 1) (L' := [some (vR x0), some (vI x1), some (vR x2), some (vI (1 : Int32)), some (vI (x4 + 1))]) dL_spells_51 rfl rfl rfl (by decide) rfl ?_
    refine s_goto (tgt := 17) dL_spells_54 (by decide) ?_
    exact h
theorem vL_spellsS_66 {G : GG} (gk : GOK G) {uc us : Nat} {σ : Mm} {K : RES → Mm → Prop} {x0 : Option Nat} {x1 : Int32} {x2 : Option Nat} {x3 : Int32} {x4 : Int32} {s0 : Int32}
    (h : ((¬ s0 = (-11 : Int32) → uc ≤ 100 ∧ us ≤ 600 ∧ K (.inl (some (vI (0 : Int32)))) σ) ∧ (s0 = (-11 : Int32) → uc ≤ 100 ∧ us ≤ 600 ∧ K (.inl (some (vI (1 : Int32)))) σ))) : At G mL_spells rL_spells uc us 66 [some (vR x0), some (vI x1), some (vR x2), some (vI x3), some (vI x4)] [(vI s0)] σ K := by
  refine s_bipush (v := -11) dL_spells_66 (by decide) ?_
  refine s_icmp_ne (tgt := 75) dL_spells_68 (by decide) (fun q1 => ?_) (fun q1 => ?_)
  · have h := h.1 q1
    refine s_iconst (v := 0) dL_spells_75 (by decide) ?_
    obtain ⟨u2, u3, h⟩ := h
    exact s_ireturn dL_spells_76 rfl rfl u2 u3 h
  · have h := h.2 q1
    refine s_iconst (v := 1) dL_spells_71 (by decide) ?_
    refine s_goto (tgt := 76) dL_spells_72 (by decide) ?_
    obtain ⟨u4, u5, h⟩ := h
    exact s_ireturn dL_spells_76 rfl rfl u4 u5 h
