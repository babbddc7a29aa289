/-! ===== the law, region by region ===== -/
theorem vL_shelves_0 {G : GG} (gk : GOK G) {uc us : Nat} {σ : Mm} {K : RES → Mm → Prop} {x0 : Option Nat}
    (h : ∃ a1, x0 = some a1 ∧ (mt σ a1).1 = 9 ∧ uc + 0 ≤ 6000 ∧ us + 0 ≤ 36000 ∧ Runs G mX8_shelfCount rX8_shelfCount [(vR x0)] σ (bk G mL_shelves rL_shelves (uc + 0) (us + 0) 4 [some (vR x0), none, none, none, none, none, none, none, none] [] K)) : At G mL_shelves rL_shelves uc us 0 [some (vR x0), none, none, none, none, none, none, none, none] [] σ K := by
  refine s_aload_n (i := 0) dL_shelves_0 rfl rfl ?_
  obtain ⟨a1, ea1, h⟩ := h
  obtain ⟨t2, h⟩ := h
  obtain ⟨u3, u4, h⟩ := h
  exact t_callV (rmY := rX8_shelfCount) (ci := 8) (as := []) (S := []) gk dL_shelves_1 gL_221 (by decide) rfl w_830 w_831 ea1 t2 rfl rfl (Nat.le_of_ble_eq_true rfl) ⟨by decide, by decide, u3, u4⟩ h
theorem eL_shelves {G : GG} (gk : GOK G) {σ : Mm} {K : RES → Mm → Prop} {x0 : Option Nat}
    (h : ∃ a1, x0 = some a1 ∧ (mt σ a1).1 = 9 ∧ 0 + 0 ≤ 6000 ∧ 0 + 0 ≤ 36000 ∧ Runs G mX8_shelfCount rX8_shelfCount [(vR x0)] σ (bk G mL_shelves rL_shelves (0 + 0) (0 + 0) 4 [some (vR x0), none, none, none, none, none, none, none, none] [] K)) : Runs G mL_shelves rL_shelves [(vR x0)] σ K := Runs.of (by decide) rfl (Nat.le_of_ble_eq_true rfl) (vL_shelves_0 gk h)
theorem vL_shelves_4 {G : GG} (gk : GOK G) {uc us : Nat} {σ : Mm} {K : RES → Mm → Prop} {x0 : Option Nat} {s0 : Int32}
    (h : At G mL_shelves rL_shelves uc us 12 [some (vR x0), some (vI s0), some (vI (0 : Int32)), some (vI (0 : Int32)), some (vI (0 : Int32)), none, none, none, none] [] σ K) : At G mL_shelves rL_shelves uc us 4 [some (vR x0), none, none, none, none, none, none, none, none] [(vI s0)] σ K := by
  refine s_istore_n (i := 1) (L' := [some (vR x0), some (vI s0), none, none, none, none, none, none, none]) dL_shelves_4 rfl rfl (by decide) rfl ?_
  refine s_iconst (v := 0) dL_shelves_5 (by decide) ?_
  refine s_istore_n (i := 2) (L' := [some (vR x0), some (vI s0), some (vI (0 : Int32)), none, none, none, none, none, none]) dL_shelves_6 rfl rfl (by decide) rfl ?_
  refine s_iconst (v := 0) dL_shelves_7 (by decide) ?_
  refine s_istore_n (i := 3) (L' := [some (vR x0), some (vI s0), some (vI (0 : Int32)), some (vI (0 : Int32)), none, none, none, none, none]) dL_shelves_8 rfl rfl (by decide) rfl ?_
  refine s_iconst (v := 0) dL_shelves_9 (by decide) ?_
  refine s_istore (L' := [some (vR x0), some (vI s0), some (vI (0 : Int32)), some (vI (0 : Int32)), some (vI (0 : Int32)), none, none, none, none]) dL_shelves_10 rfl (by decide) rfl ?_
  exact h
theorem vL_shelves_12 {G : GG} (gk : GOK G) {uc us : Nat} {σ : Mm} {K : RES → Mm → Prop} {x0 : Option Nat} {x1 : Int32} {x2 : Int32} {x3 : Int32} {x4 : Int32}
    (h : ((x1 ≤ x4 → ((x2 = 0 → (((1 : Int32) = 0 → uc ≤ 6000 ∧ us ≤ 36000 ∧ K (.inl (some (vI (0 : Int32)))) σ) ∧ (¬ (1 : Int32) = 0 → ∃ a6, x0 = some a6 ∧ (mt σ a6).1 = 9 ∧ uc + 0 ≤ 6000 ∧ us + 0 ≤ 36000 ∧ Runs G mX8_isConsistent rX8_isConsistent [(vR x0)] σ (bk G mL_shelves rL_shelves (uc + 0) (us + 0) 494 [some (vR x0), some (vI x1), some (vI x2), some (vI x3), some (vI (1 : Int32)), none, none, none, none] [] K)))) ∧ (¬ x2 = 0 → ∃ a10, x0 = some a10 ∧ (mt σ a10).1 = 9 ∧ uc + 1 ≤ 6000 ∧ us + 6 ≤ 36000 ∧ Runs G mX8_meanAge rX8_meanAge [(vR x0)] σ (bk G mL_shelves rL_shelves (uc + 1) (us + 6) 469 [some (vR x0), some (vI x1), some (vI x2), some (vI x3), some (vI x4), none, none, none, none] [] K)))) ∧ (¬ x1 ≤ x4 → At G mL_shelves rL_shelves uc us 25 [some (vR x0), some (vI x1), some (vI x2), some (vI x3), some (vI x4), some (vI (0 : Int32)), some (vI (97 : Int32)), none, none] [] σ K))) : At G mL_shelves rL_shelves uc us 12 [some (vR x0), some (vI x1), some (vI x2), some (vI x3), some (vI x4), none, none, none, none] [] σ K := by
  refine s_iload dL_shelves_12 rfl ?_
  refine s_iload_n (i := 1) dL_shelves_14 rfl rfl ?_
  refine s_icmp_ge (tgt := 461) dL_shelves_15 (by decide) (fun q1 => ?_) (fun q1 => ?_)
  · have h := h.1 q1
    refine s_iload_n (i := 2) dL_shelves_461 rfl rfl ?_
    refine s_if_eq (tgt := 478) dL_shelves_462 (by decide) (fun q2 => ?_) (fun q2 => ?_)
    · have h := h.1 q2
      refine s_iconst (v := 1) dL_shelves_478 (by decide) ?_
      refine s_goto (tgt := 483) dL_shelves_479 (by decide) ?_
      refine s_istore (L' := [some (vR x0), some (vI x1), some (vI x2), some (vI x3), some (vI (1 : Int32)), none, none, none, none]) dL_shelves_483 rfl (by decide) rfl ?_
      refine s_iload dL_shelves_485 rfl ?_
      refine s_if_eq (tgt := 700) dL_shelves_487 (by decide) (fun q3 => ?_) (fun q3 => ?_)
      · have h := h.1 q3
        refine s_iconst (v := 0) dL_shelves_700 (by decide) ?_
        obtain ⟨u4, u5, h⟩ := h
        exact s_ireturn dL_shelves_701 rfl rfl u4 u5 h
      · have h := h.2 q3
        refine s_aload_n (i := 0) dL_shelves_490 rfl rfl ?_
        obtain ⟨a6, ea6, h⟩ := h
        obtain ⟨t7, h⟩ := h
        obtain ⟨u8, u9, h⟩ := h
        exact t_callV (rmY := rX8_isConsistent) (ci := 8) (as := []) (S := []) gk dL_shelves_491 gL_269 (by decide) rfl w_1010 w_1011 ea6 t7 rfl rfl (Nat.le_of_ble_eq_true rfl) ⟨by decide, by decide, u8, u9⟩ h
    · have h := h.2 q2
      refine s_aload_n (i := 0) dL_shelves_465 rfl rfl ?_
      obtain ⟨a10, ea10, h⟩ := h
      obtain ⟨t11, h⟩ := h
      obtain ⟨u12, u13, h⟩ := h
      exact t_callV (rmY := rX8_meanAge) (ci := 8) (as := []) (S := []) gk dL_shelves_466 gL_265 (by decide) rfl w_986 w_987 ea10 t11 rfl rfl (Nat.le_of_ble_eq_true rfl) ⟨by decide, by decide, u12, u13⟩ h
  · have h := h.2 q1
    refine s_iconst (v := 0) dL_shelves_18 (by decide) ?_
    refine s_istore (L' := [some (vR x0), some (vI x1), some (vI x2), some (vI x3), some (vI x4), some (vI (0 : Int32)), none, none, none]) dL_shelves_19 rfl (by decide) rfl ?_
    refine s_bipush (v := 97) dL_shelves_21 (by decide) ?_
    refine s_istore (L' := [some (vR x0), some (vI x1), some (vI x2), some (vI x3), some (vI x4), some (vI (0 : Int32)), some (vI (97 : Int32)), none, none]) dL_shelves_23 rfl (by decide) rfl ?_
    exact h
theorem vL_shelves_25 {G : GG} (gk : GOK G) {uc us : Nat} {σ : Mm} {K : RES → Mm → Prop} {x0 : Option Nat} {x1 : Int32} {x2 : Int32} {x3 : Int32} {x4 : Int32} {x5 : Int32} {x6 : Int32}
    (h : (((122 : Int32) < x6 → uc + 2 ≤ 6000 ∧ us + 12 ≤ 36000 ∧ RunsH G mL_victimOf hL_victimOf rL_victimOf [(vR x0), (vI x4)] σ (bk G mL_shelves rL_shelves (uc + 2) (us + 12) 347 [some (vR x0), some (vI x1), some (vI (x2 + x5)), some (vI x3), some (vI x4), some (vI x5), some (vI x6), none, none] [] K)) ∧ (¬ (122 : Int32) < x6 → uc + 1 ≤ 6000 ∧ us + 6 ≤ 36000 ∧ RunsH G mL_hasEcho hL_hasEcho rL_hasEcho [(vR x0), (vI x4), (vI x6)] σ (bk G mL_shelves rL_shelves (uc + 1) (us + 6) 40 [some (vR x0), some (vI x1), some (vI x2), some (vI x3), some (vI x4), some (vI x5), some (vI x6), none, none] [] K)))) : At G mL_shelves rL_shelves uc us 25 [some (vR x0), some (vI x1), some (vI x2), some (vI x3), some (vI x4), some (vI x5), some (vI x6), none, none] [] σ K := by
  refine s_iload dL_shelves_25 rfl ?_
  refine s_bipush (v := 122) dL_shelves_27 (by decide) ?_
  refine s_icmp_gt (tgt := 336) dL_shelves_29 (by decide) (fun q1 => ?_) (fun q1 => ?_)
  · have h := h.1 q1
    refine s_iload_n (i := 2) dL_shelves_336 rfl rfl ?_
    refine s_iload dL_shelves_337 rfl ?_
    refine s_iadd dL_shelves_339 ?_
    refine s_istore_n (i := 2) (L' := [some (vR x0), some (vI x1), some (vI (x2 + x5)), some (vI x3), some (vI x4), some (vI x5), some (vI x6), none, none]) dL_shelves_340 rfl rfl (by decide) rfl ?_
    refine s_aload_n (i := 0) dL_shelves_341 rfl rfl ?_
    refine s_iload dL_shelves_342 rfl ?_
    obtain ⟨u2, u3, h⟩ := h
    exact s_callSH (as := [(vR x0), (vI x4)]) (S := []) gk dL_shelves_344 (kL_victimOf _ _ w_940) w_941 rfl rfl (Nat.le_of_ble_eq_true rfl) ⟨by decide, by decide, u2, u3⟩ h
  · have h := h.2 q1
    refine s_aload_n (i := 0) dL_shelves_32 rfl rfl ?_
    refine s_iload dL_shelves_33 rfl ?_
    refine s_iload dL_shelves_35 rfl ?_
    obtain ⟨u4, u5, h⟩ := h
    exact s_callSH (as := [(vR x0), (vI x4), (vI x6)]) (S := []) gk dL_shelves_37 (kL_hasEcho _ _ w_834) w_835 rfl rfl (Nat.le_of_ble_eq_true rfl) ⟨by decide, by decide, u4, u5⟩ h
theorem vL_shelves_40 {G : GG} (gk : GOK G) {uc us : Nat} {σ : Mm} {K : RES → Mm → Prop} {x0 : Option Nat} {x1 : Int32} {x2 : Int32} {x3 : Int32} {x4 : Int32} {x5 : Int32} {x6 : Int32} {s0 : Int32}
    (h : ((¬ s0 = (1 : Int32) → uc + 2 ≤ 6000 ∧ us + 12 ≤ 36000 ∧ RunsH G mL_echoOf hL_echoOf rL_echoOf [(vR x0), (vI x4), (vI x6)] σ (bk G mL_shelves rL_shelves (uc + 2) (us + 12) 61 [some (vR x0), some (vI x1), some (vI x2), some (vI x3), some (vI x4), some (vI x5), some (vI x6), some (vI (0 : Int32)), none] [(vI (0 : Int32))] K)) ∧ (s0 = (1 : Int32) → uc + 2 ≤ 6000 ∧ us + 12 ≤ 36000 ∧ RunsH G mL_echoOf hL_echoOf rL_echoOf [(vR x0), (vI x4), (vI x6)] σ (bk G mL_shelves rL_shelves (uc + 2) (us + 12) 61 [some (vR x0), some (vI x1), some (vI x2), some (vI x3), some (vI x4), some (vI x5), some (vI x6), some (vI (1 : Int32)), none] [(vI (1 : Int32))] K)))) : At G mL_shelves rL_shelves uc us 40 [some (vR x0), some (vI x1), some (vI x2), some (vI x3), some (vI x4), some (vI x5), some (vI x6), none, none] [(vI s0)] σ K := by
  refine s_iconst (v := 1) dL_shelves_40 (by decide) ?_
  refine s_icmp_ne (tgt := 48) dL_shelves_41 (by decide) (fun q1 => ?_) (fun q1 => ?_)
  · have h := h.1 q1
    refine s_iconst (v := 0) dL_shelves_48 (by decide) ?_
    refine s_istore (L' := [some (vR x0), some (vI x1), some (vI x2), some (vI x3), some (vI x4), some (vI x5), some (vI x6), some (vI (0 : Int32)), none]) dL_shelves_49 rfl (by decide) rfl ?_
    refine s_iload dL_shelves_51 rfl ?_
    refine s_aload_n (i := 0) dL_shelves_53 rfl rfl ?_
    refine s_iload dL_shelves_54 rfl ?_
    refine s_iload dL_shelves_56 rfl ?_
    obtain ⟨u2, u3, h⟩ := h
    exact s_callSH (as := [(vR x0), (vI x4), (vI x6)]) (S := [(vI (0 : Int32))]) gk dL_shelves_58 (kL_echoOf _ _ w_842) w_843 rfl rfl (Nat.le_of_ble_eq_true rfl) ⟨by decide, by decide, u2, u3⟩ h
  · have h := h.2 q1
    refine s_iconst (v := 1) dL_shelves_44 (by decide) ?_
    refine s_goto (tgt := 49) dL_shelves_45 (by decide) ?_
    refine s_istore (L' := [some (vR x0), some (vI x1), some (vI x2), some (vI x3), some (vI x4), some (vI x5), some (vI x6), some (vI (1 : Int32)), none]) dL_shelves_49 rfl (by decide) rfl ?_
    refine s_iload dL_shelves_51 rfl ?_
    refine s_aload_n (i := 0) dL_shelves_53 rfl rfl ?_
    refine s_iload dL_shelves_54 rfl ?_
    refine s_iload dL_shelves_56 rfl ?_
    obtain ⟨u4, u5, h⟩ := h
    exact s_callSH (as := [(vR x0), (vI x4), (vI x6)]) (S := [(vI (1 : Int32))]) gk dL_shelves_58 (kL_echoOf _ _ w_842) w_843 rfl rfl (Nat.le_of_ble_eq_true rfl) ⟨by decide, by decide, u4, u5⟩ h
theorem vL_shelves_61 {G : GG} (gk : GOK G) {uc us : Nat} {σ : Mm} {K : RES → Mm → Prop} {x0 : Option Nat} {x1 : Int32} {x2 : Int32} {x3 : Int32} {x4 : Int32} {x5 : Int32} {x6 : Int32} {x7 : Int32} {s0 : Int32} {s1 : Int32}
    (h : ((s0 < 0 → ((¬ s1 = (0 : Int32) → uc ≤ 6000 ∧ us ≤ 36000 ∧ K (.inl (some (vI (0 : Int32)))) σ) ∧ (s1 = (0 : Int32) → uc + 2 ≤ 6000 ∧ us + 12 ≤ 36000 ∧ RunsH G mL_ageOf hL_ageOf rL_ageOf [(vR x0), (vI x4), (vI x6)] σ (bk G mL_shelves rL_shelves (uc + 2) (us + 12) 82 [some (vR x0), some (vI x1), some (vI x2), some (vI x3), some (vI x4), some (vI x5), some (vI x6), some (vI x7), none] [(vI x7)] K)))) ∧ (¬ s0 < 0 → ((¬ s1 = (1 : Int32) → uc ≤ 6000 ∧ us ≤ 36000 ∧ K (.inl (some (vI (0 : Int32)))) σ) ∧ (s1 = (1 : Int32) → uc + 2 ≤ 6000 ∧ us + 12 ≤ 36000 ∧ RunsH G mL_ageOf hL_ageOf rL_ageOf [(vR x0), (vI x4), (vI x6)] σ (bk G mL_shelves rL_shelves (uc + 2) (us + 12) 82 [some (vR x0), some (vI x1), some (vI x2), some (vI x3), some (vI x4), some (vI x5), some (vI x6), some (vI x7), none] [(vI x7)] K)))))) : At G mL_shelves rL_shelves uc us 61 [some (vR x0), some (vI x1), some (vI x2), some (vI x3), some (vI x4), some (vI x5), some (vI x6), some (vI x7), none] [(vI s0), (vI s1)] σ K := by
  refine s_if_lt (tgt := 68) dL_shelves_61 (by decide) (fun q1 => ?_) (fun q1 => ?_)
  · have h := h.1 q1
    refine s_iconst (v := 0) dL_shelves_68 (by decide) ?_
    refine s_icmp_ne (tgt := 135) dL_shelves_69 (by decide) (fun q2 => ?_) (fun q2 => ?_)
    · have h := h.1 q2
      refine s_iconst (v := 0) dL_shelves_135 (by decide) ?_
      obtain ⟨u3, u4, h⟩ := h
      exact s_ireturn dL_shelves_136 rfl rfl u3 u4 h
    · have h := h.2 q2
      refine s_iload dL_shelves_72 rfl ?_
      refine s_aload_n (i := 0) dL_shelves_74 rfl rfl ?_
      refine s_iload dL_shelves_75 rfl ?_
      refine s_iload dL_shelves_77 rfl ?_
      obtain ⟨u5, u6, h⟩ := h
      exact s_callSH (as := [(vR x0), (vI x4), (vI x6)]) (S := [(vI x7)]) gk dL_shelves_79 (kL_ageOf _ _ w_854) w_855 rfl rfl (Nat.le_of_ble_eq_true rfl) ⟨by decide, by decide, u5, u6⟩ h
  · have h := h.2 q1
    refine s_iconst (v := 1) dL_shelves_64 (by decide) ?_
    refine s_goto (tgt := 69) dL_shelves_65 (by decide) ?_
    refine s_icmp_ne (tgt := 135) dL_shelves_69 (by decide) (fun q7 => ?_) (fun q7 => ?_)
    · have h := h.1 q7
      refine s_iconst (v := 0) dL_shelves_135 (by decide) ?_
      obtain ⟨u8, u9, h⟩ := h
      exact s_ireturn dL_shelves_136 rfl rfl u8 u9 h
    · have h := h.2 q7
      refine s_iload dL_shelves_72 rfl ?_
      refine s_aload_n (i := 0) dL_shelves_74 rfl rfl ?_
      refine s_iload dL_shelves_75 rfl ?_
      refine s_iload dL_shelves_77 rfl ?_
      obtain ⟨u10, u11, h⟩ := h
      exact s_callSH (as := [(vR x0), (vI x4), (vI x6)]) (S := [(vI x7)]) gk dL_shelves_79 (kL_ageOf _ _ w_854) w_855 rfl rfl (Nat.le_of_ble_eq_true rfl) ⟨by decide, by decide, u10, u11⟩ h
theorem vL_shelves_82 {G : GG} (gk : GOK G) {uc us : Nat} {σ : Mm} {K : RES → Mm → Prop} {x0 : Option Nat} {x1 : Int32} {x2 : Int32} {x3 : Int32} {x4 : Int32} {x5 : Int32} {x6 : Int32} {x7 : Int32} {s0 : Int32} {s1 : Int32}
    (h : ((s0 < 0 → ((¬ s1 = (0 : Int32) → uc ≤ 6000 ∧ us ≤ 36000 ∧ K (.inl (some (vI (0 : Int32)))) σ) ∧ (s1 = (0 : Int32) → uc + 2 ≤ 6000 ∧ us + 12 ≤ 36000 ∧ RunsH G mL_hitsOf hL_hitsOf rL_hitsOf [(vR x0), (vI x4), (vI x6)] σ (bk G mL_shelves rL_shelves (uc + 2) (us + 12) 103 [some (vR x0), some (vI x1), some (vI x2), some (vI x3), some (vI x4), some (vI x5), some (vI x6), some (vI x7), none] [(vI x7)] K)))) ∧ (¬ s0 < 0 → ((¬ s1 = (1 : Int32) → uc ≤ 6000 ∧ us ≤ 36000 ∧ K (.inl (some (vI (0 : Int32)))) σ) ∧ (s1 = (1 : Int32) → uc + 2 ≤ 6000 ∧ us + 12 ≤ 36000 ∧ RunsH G mL_hitsOf hL_hitsOf rL_hitsOf [(vR x0), (vI x4), (vI x6)] σ (bk G mL_shelves rL_shelves (uc + 2) (us + 12) 103 [some (vR x0), some (vI x1), some (vI x2), some (vI x3), some (vI x4), some (vI x5), some (vI x6), some (vI x7), none] [(vI x7)] K)))))) : At G mL_shelves rL_shelves uc us 82 [some (vR x0), some (vI x1), some (vI x2), some (vI x3), some (vI x4), some (vI x5), some (vI x6), some (vI x7), none] [(vI s0), (vI s1)] σ K := by
  refine s_if_lt (tgt := 89) dL_shelves_82 (by decide) (fun q1 => ?_) (fun q1 => ?_)
  · have h := h.1 q1
    refine s_iconst (v := 0) dL_shelves_89 (by decide) ?_
    refine s_icmp_ne (tgt := 135) dL_shelves_90 (by decide) (fun q2 => ?_) (fun q2 => ?_)
    · have h := h.1 q2
      refine s_iconst (v := 0) dL_shelves_135 (by decide) ?_
      obtain ⟨u3, u4, h⟩ := h
      exact s_ireturn dL_shelves_136 rfl rfl u3 u4 h
    · have h := h.2 q2
      refine s_iload dL_shelves_93 rfl ?_
      refine s_aload_n (i := 0) dL_shelves_95 rfl rfl ?_
      refine s_iload dL_shelves_96 rfl ?_
      refine s_iload dL_shelves_98 rfl ?_
      obtain ⟨u5, u6, h⟩ := h
      exact s_callSH (as := [(vR x0), (vI x4), (vI x6)]) (S := [(vI x7)]) gk dL_shelves_100 (kL_hitsOf _ _ w_862) w_863 rfl rfl (Nat.le_of_ble_eq_true rfl) ⟨by decide, by decide, u5, u6⟩ h
  · have h := h.2 q1
    refine s_iconst (v := 1) dL_shelves_85 (by decide) ?_
    refine s_goto (tgt := 90) dL_shelves_86 (by decide) ?_
    refine s_icmp_ne (tgt := 135) dL_shelves_90 (by decide) (fun q7 => ?_) (fun q7 => ?_)
    · have h := h.1 q7
      refine s_iconst (v := 0) dL_shelves_135 (by decide) ?_
      obtain ⟨u8, u9, h⟩ := h
      exact s_ireturn dL_shelves_136 rfl rfl u8 u9 h
    · have h := h.2 q7
      refine s_iload dL_shelves_93 rfl ?_
      refine s_aload_n (i := 0) dL_shelves_95 rfl rfl ?_
      refine s_iload dL_shelves_96 rfl ?_
      refine s_iload dL_shelves_98 rfl ?_
      obtain ⟨u10, u11, h⟩ := h
      exact s_callSH (as := [(vR x0), (vI x4), (vI x6)]) (S := [(vI x7)]) gk dL_shelves_100 (kL_hitsOf _ _ w_862) w_863 rfl rfl (Nat.le_of_ble_eq_true rfl) ⟨by decide, by decide, u10, u11⟩ h
theorem vL_shelves_103 {G : GG} (gk : GOK G) {uc us : Nat} {σ : Mm} {K : RES → Mm → Prop} {x0 : Option Nat} {x1 : Int32} {x2 : Int32} {x3 : Int32} {x4 : Int32} {x5 : Int32} {x6 : Int32} {x7 : Int32} {s0 : Int32} {s1 : Int32}
    (h : ((s0 < 0 → ((¬ s1 = (0 : Int32) → uc ≤ 6000 ∧ us ≤ 36000 ∧ K (.inl (some (vI (0 : Int32)))) σ) ∧ (s1 = (0 : Int32) → uc + 2 ≤ 6000 ∧ us + 12 ≤ 36000 ∧ RunsH G mL_isOpen hL_isOpen rL_isOpen [(vR x0), (vI x4), (vI x6)] σ (bk G mL_shelves rL_shelves (uc + 2) (us + 12) 124 [some (vR x0), some (vI x1), some (vI x2), some (vI x3), some (vI x4), some (vI x5), some (vI x6), some (vI x7), none] [(vI x7)] K)))) ∧ (¬ s0 < 0 → ((¬ s1 = (1 : Int32) → uc ≤ 6000 ∧ us ≤ 36000 ∧ K (.inl (some (vI (0 : Int32)))) σ) ∧ (s1 = (1 : Int32) → uc + 2 ≤ 6000 ∧ us + 12 ≤ 36000 ∧ RunsH G mL_isOpen hL_isOpen rL_isOpen [(vR x0), (vI x4), (vI x6)] σ (bk G mL_shelves rL_shelves (uc + 2) (us + 12) 124 [some (vR x0), some (vI x1), some (vI x2), some (vI x3), some (vI x4), some (vI x5), some (vI x6), some (vI x7), none] [(vI x7)] K)))))) : At G mL_shelves rL_shelves uc us 103 [some (vR x0), some (vI x1), some (vI x2), some (vI x3), some (vI x4), some (vI x5), some (vI x6), some (vI x7), none] [(vI s0), (vI s1)] σ K := by
  refine s_if_lt (tgt := 110) dL_shelves_103 (by decide) (fun q1 => ?_) (fun q1 => ?_)
  · have h := h.1 q1
    refine s_iconst (v := 0) dL_shelves_110 (by decide) ?_
    refine s_icmp_ne (tgt := 135) dL_shelves_111 (by decide) (fun q2 => ?_) (fun q2 => ?_)
    · have h := h.1 q2
      refine s_iconst (v := 0) dL_shelves_135 (by decide) ?_
      obtain ⟨u3, u4, h⟩ := h
      exact s_ireturn dL_shelves_136 rfl rfl u3 u4 h
    · have h := h.2 q2
      refine s_iload dL_shelves_114 rfl ?_
      refine s_aload_n (i := 0) dL_shelves_116 rfl rfl ?_
      refine s_iload dL_shelves_117 rfl ?_
      refine s_iload dL_shelves_119 rfl ?_
      obtain ⟨u5, u6, h⟩ := h
      exact s_callSH (as := [(vR x0), (vI x4), (vI x6)]) (S := [(vI x7)]) gk dL_shelves_121 (kL_isOpen _ _ w_869) w_870 rfl rfl (Nat.le_of_ble_eq_true rfl) ⟨by decide, by decide, u5, u6⟩ h
  · have h := h.2 q1
    refine s_iconst (v := 1) dL_shelves_106 (by decide) ?_
    refine s_goto (tgt := 111) dL_shelves_107 (by decide) ?_
    refine s_icmp_ne (tgt := 135) dL_shelves_111 (by decide) (fun q7 => ?_) (fun q7 => ?_)
    · have h := h.1 q7
      refine s_iconst (v := 0) dL_shelves_135 (by decide) ?_
      obtain ⟨u8, u9, h⟩ := h
      exact s_ireturn dL_shelves_136 rfl rfl u8 u9 h
    · have h := h.2 q7
      refine s_iload dL_shelves_114 rfl ?_
      refine s_aload_n (i := 0) dL_shelves_116 rfl rfl ?_
      refine s_iload dL_shelves_117 rfl ?_
      refine s_iload dL_shelves_119 rfl ?_
      obtain ⟨u10, u11, h⟩ := h
      exact s_callSH (as := [(vR x0), (vI x4), (vI x6)]) (S := [(vI x7)]) gk dL_shelves_121 (kL_isOpen _ _ w_869) w_870 rfl rfl (Nat.le_of_ble_eq_true rfl) ⟨by decide, by decide, u10, u11⟩ h
theorem vL_shelves_124 {G : GG} (gk : GOK G) {uc us : Nat} {σ : Mm} {K : RES → Mm → Prop} {x0 : Option Nat} {x1 : Int32} {x2 : Int32} {x3 : Int32} {x4 : Int32} {x5 : Int32} {x6 : Int32} {x7 : Int32} {s0 : Int32} {s1 : Int32}
    (h : ((s0 < 0 → ((s1 = (0 : Int32) → ((x7 = 0 → ((¬ x7 = 0 → uc + 1 ≤ 6000 ∧ us + 6 ≤ 36000 ∧ RunsH G mL_wordOf hL_wordOf rL_wordOf [(vR x0), (vI x6)] σ (bk G mL_shelves rL_shelves (uc + 1) (us + 6) 220 [some (vR x0), some (vI x1), some (vI x2), some (vI x3), some (vI x4), some (vI x5), some (vI x6), some (vI x7), none] [] K)) ∧ (x7 = 0 → uc + 2 ≤ 6000 ∧ us + 12 ≤ 36000 ∧ RunsH G mL_isTrue hL_isTrue rL_isTrue [(vR x0), (vI x4), (vI x6)] σ (bk G mL_shelves rL_shelves (uc + 2) (us + 12) 181 [some (vR x0), some (vI x1), some (vI x2), some (vI x3), some (vI x4), some (vI x5), some (vI x6), some (vI x7), none] [] K)))) ∧ (¬ x7 = 0 → uc + 2 ≤ 6000 ∧ us + 12 ≤ 36000 ∧ RunsH G mL_echoAt hL_echoAt rL_echoAt [(vR x0), (vI x4), (vI x5)] σ (bk G mL_shelves rL_shelves (uc + 2) (us + 12) 150 [some (vR x0), some (vI x1), some (vI x2), some (vI x3), some (vI x4), some (vI x5), some (vI x6), some (vI x7), none] [] K)))) ∧ (¬ s1 = (0 : Int32) → uc ≤ 6000 ∧ us ≤ 36000 ∧ K (.inl (some (vI (0 : Int32)))) σ))) ∧ (¬ s0 < 0 → ((s1 = (1 : Int32) → ((x7 = 0 → ((¬ x7 = 0 → uc + 1 ≤ 6000 ∧ us + 6 ≤ 36000 ∧ RunsH G mL_wordOf hL_wordOf rL_wordOf [(vR x0), (vI x6)] σ (bk G mL_shelves rL_shelves (uc + 1) (us + 6) 220 [some (vR x0), some (vI x1), some (vI x2), some (vI x3), some (vI x4), some (vI x5), some (vI x6), some (vI x7), none] [] K)) ∧ (x7 = 0 → uc + 2 ≤ 6000 ∧ us + 12 ≤ 36000 ∧ RunsH G mL_isTrue hL_isTrue rL_isTrue [(vR x0), (vI x4), (vI x6)] σ (bk G mL_shelves rL_shelves (uc + 2) (us + 12) 181 [some (vR x0), some (vI x1), some (vI x2), some (vI x3), some (vI x4), some (vI x5), some (vI x6), some (vI x7), none] [] K)))) ∧ (¬ x7 = 0 → uc + 2 ≤ 6000 ∧ us + 12 ≤ 36000 ∧ RunsH G mL_echoAt hL_echoAt rL_echoAt [(vR x0), (vI x4), (vI x5)] σ (bk G mL_shelves rL_shelves (uc + 2) (us + 12) 150 [some (vR x0), some (vI x1), some (vI x2), some (vI x3), some (vI x4), some (vI x5), some (vI x6), some (vI x7), none] [] K)))) ∧ (¬ s1 = (1 : Int32) → uc ≤ 6000 ∧ us ≤ 36000 ∧ K (.inl (some (vI (0 : Int32)))) σ))))) : At G mL_shelves rL_shelves uc us 124 [some (vR x0), some (vI x1), some (vI x2), some (vI x3), some (vI x4), some (vI x5), some (vI x6), some (vI x7), none] [(vI s0), (vI s1)] σ K := by
  refine s_if_lt (tgt := 131) dL_shelves_124 (by decide) (fun q1 => ?_) (fun q1 => ?_)
  · have h := h.1 q1
    refine s_iconst (v := 0) dL_shelves_131 (by decide) ?_
    refine s_icmp_eq (tgt := 137) dL_shelves_132 (by decide) (fun q2 => ?_) (fun q2 => ?_)
    · have h := h.1 q2
      refine s_iload dL_shelves_137 rfl ?_
      refine s_if_eq (tgt := 168) dL_shelves_139 (by decide) (fun q3 => ?_) (fun q3 => ?_)
      · have h := h.1 q3
        refine s_iload dL_shelves_168 rfl ?_
        refine s_if_ne (tgt := 214) dL_shelves_170 (by decide) (fun q4 => ?_) (fun q4 => ?_)
        · have h := h.1 q4
          refine s_aload_n (i := 0) dL_shelves_214 rfl rfl ?_
          refine s_iload dL_shelves_215 rfl ?_
          obtain ⟨u5, u6, h⟩ := h
          exact s_callSH (as := [(vR x0), (vI x6)]) (S := []) gk dL_shelves_217 (kL_wordOf _ _ w_802) w_803 rfl rfl (Nat.le_of_ble_eq_true rfl) ⟨by decide, by decide, u5, u6⟩ h
        · have h := h.2 q4
          refine s_aload_n (i := 0) dL_shelves_173 rfl rfl ?_
          refine s_iload dL_shelves_174 rfl ?_
          refine s_iload dL_shelves_176 rfl ?_
          obtain ⟨u7, u8, h⟩ := h
          exact s_callSH (as := [(vR x0), (vI x4), (vI x6)]) (S := []) gk dL_shelves_178 (kL_isTrue _ _ w_891) w_892 rfl rfl (Nat.le_of_ble_eq_true rfl) ⟨by decide, by decide, u7, u8⟩ h
      · have h := h.2 q3
        refine s_aload_n (i := 0) dL_shelves_142 rfl rfl ?_
        refine s_iload dL_shelves_143 rfl ?_
        refine s_iload dL_shelves_145 rfl ?_
        obtain ⟨u9, u10, h⟩ := h
        exact s_callSH (as := [(vR x0), (vI x4), (vI x5)]) (S := []) gk dL_shelves_147 (kL_echoAt _ _ w_876) w_877 rfl rfl (Nat.le_of_ble_eq_true rfl) ⟨by decide, by decide, u9, u10⟩ h
    · have h := h.2 q2
      refine s_iconst (v := 0) dL_shelves_135 (by decide) ?_
      obtain ⟨u11, u12, h⟩ := h
      exact s_ireturn dL_shelves_136 rfl rfl u11 u12 h
  · have h := h.2 q1
    refine s_iconst (v := 1) dL_shelves_127 (by decide) ?_
    refine s_goto (tgt := 132) dL_shelves_128 (by decide) ?_
    refine s_icmp_eq (tgt := 137) dL_shelves_132 (by decide) (fun q13 => ?_) (fun q13 => ?_)
    · have h := h.1 q13
      refine s_iload dL_shelves_137 rfl ?_
      refine s_if_eq (tgt := 168) dL_shelves_139 (by decide) (fun q14 => ?_) (fun q14 => ?_)
      · have h := h.1 q14
        refine s_iload dL_shelves_168 rfl ?_
        refine s_if_ne (tgt := 214) dL_shelves_170 (by decide) (fun q15 => ?_) (fun q15 => ?_)
        · have h := h.1 q15
          refine s_aload_n (i := 0) dL_shelves_214 rfl rfl ?_
          refine s_iload dL_shelves_215 rfl ?_
          obtain ⟨u16, u17, h⟩ := h
          exact s_callSH (as := [(vR x0), (vI x6)]) (S := []) gk dL_shelves_217 (kL_wordOf _ _ w_802) w_803 rfl rfl (Nat.le_of_ble_eq_true rfl) ⟨by decide, by decide, u16, u17⟩ h
        · have h := h.2 q15
          refine s_aload_n (i := 0) dL_shelves_173 rfl rfl ?_
          refine s_iload dL_shelves_174 rfl ?_
          refine s_iload dL_shelves_176 rfl ?_
          obtain ⟨u18, u19, h⟩ := h
          exact s_callSH (as := [(vR x0), (vI x4), (vI x6)]) (S := []) gk dL_shelves_178 (kL_isTrue _ _ w_891) w_892 rfl rfl (Nat.le_of_ble_eq_true rfl) ⟨by decide, by decide, u18, u19⟩ h
      · have h := h.2 q14
        refine s_aload_n (i := 0) dL_shelves_142 rfl rfl ?_
        refine s_iload dL_shelves_143 rfl ?_
        refine s_iload dL_shelves_145 rfl ?_
        obtain ⟨u20, u21, h⟩ := h
        exact s_callSH (as := [(vR x0), (vI x4), (vI x5)]) (S := []) gk dL_shelves_147 (kL_echoAt _ _ w_876) w_877 rfl rfl (Nat.le_of_ble_eq_true rfl) ⟨by decide, by decide, u20, u21⟩ h
    · have h := h.2 q13
      refine s_iconst (v := 0) dL_shelves_135 (by decide) ?_
      obtain ⟨u22, u23, h⟩ := h
      exact s_ireturn dL_shelves_136 rfl rfl u22 u23 h
theorem vL_shelves_150 {G : GG} (gk : GOK G) {uc us : Nat} {σ : Mm} {K : RES → Mm → Prop} {x0 : Option Nat} {x1 : Int32} {x2 : Int32} {x3 : Int32} {x4 : Int32} {x5 : Int32} {x6 : Int32} {x7 : Int32} {s0 : Int32}
    (h : ((¬ s0 = x6 → uc ≤ 6000 ∧ us ≤ 36000 ∧ K (.inl (some (vI (0 : Int32)))) σ) ∧ (s0 = x6 → uc + 20 ≤ 6000 ∧ us + 120 ≤ 36000 ∧ Runs G mL_isEcho rL_isEcho [(vR x0), (vI x4), (vI x6)] σ (bk G mL_shelves rL_shelves (uc + 20) (us + 120) 163 [some (vR x0), some (vI x1), some (vI x2), some (vI x3), some (vI x4), some (vI x5), some (vI x6), some (vI x7), none] [] K)))) : At G mL_shelves rL_shelves uc us 150 [some (vR x0), some (vI x1), some (vI x2), some (vI x3), some (vI x4), some (vI x5), some (vI x6), some (vI x7), none] [(vI s0)] σ K := by
  refine s_iload dL_shelves_150 rfl ?_
  refine s_icmp_ne (tgt := 166) dL_shelves_152 (by decide) (fun q1 => ?_) (fun q1 => ?_)
  · have h := h.1 q1
    refine s_iconst (v := 0) dL_shelves_166 (by decide) ?_
    obtain ⟨u2, u3, h⟩ := h
    exact s_ireturn dL_shelves_167 rfl rfl u2 u3 h
  · have h := h.2 q1
    refine s_aload_n (i := 0) dL_shelves_155 rfl rfl ?_
    refine s_iload dL_shelves_156 rfl ?_
    refine s_iload dL_shelves_158 rfl ?_
    obtain ⟨u4, u5, h⟩ := h
    exact s_callS (as := [(vR x0), (vI x4), (vI x6)]) (S := []) gk dL_shelves_160 gL_237 w_889 rfl rfl (Nat.le_of_ble_eq_true rfl) ⟨by decide, by decide, u4, u5⟩ h
theorem vL_shelves_163 {G : GG} (gk : GOK G) {uc us : Nat} {σ : Mm} {K : RES → Mm → Prop} {x0 : Option Nat} {x1 : Int32} {x2 : Int32} {x3 : Int32} {x4 : Int32} {x5 : Int32} {x6 : Int32} {x7 : Int32} {s0 : Int32}
    (h : ((¬ s0 = 0 → ((¬ x7 = 0 → uc + 1 ≤ 6000 ∧ us + 6 ≤ 36000 ∧ RunsH G mL_wordOf hL_wordOf rL_wordOf [(vR x0), (vI x6)] σ (bk G mL_shelves rL_shelves (uc + 1) (us + 6) 220 [some (vR x0), some (vI x1), some (vI x2), some (vI x3), some (vI x4), some (vI x5), some (vI x6), some (vI x7), none] [] K)) ∧ (x7 = 0 → uc + 2 ≤ 6000 ∧ us + 12 ≤ 36000 ∧ RunsH G mL_isTrue hL_isTrue rL_isTrue [(vR x0), (vI x4), (vI x6)] σ (bk G mL_shelves rL_shelves (uc + 2) (us + 12) 181 [some (vR x0), some (vI x1), some (vI x2), some (vI x3), some (vI x4), some (vI x5), some (vI x6), some (vI x7), none] [] K)))) ∧ (s0 = 0 → uc ≤ 6000 ∧ us ≤ 36000 ∧ K (.inl (some (vI (0 : Int32)))) σ))) : At G mL_shelves rL_shelves uc us 163 [some (vR x0), some (vI x1), some (vI x2), some (vI x3), some (vI x4), some (vI x5), some (vI x6), some (vI x7), none] [(vI s0)] σ K := by
  refine s_if_ne (tgt := 168) dL_shelves_163 (by decide) (fun q1 => ?_) (fun q1 => ?_)
  · have h := h.1 q1
    refine s_iload dL_shelves_168 rfl ?_
    refine s_if_ne (tgt := 214) dL_shelves_170 (by decide) (fun q2 => ?_) (fun q2 => ?_)
    · have h := h.1 q2
      refine s_aload_n (i := 0) dL_shelves_214 rfl rfl ?_
      refine s_iload dL_shelves_215 rfl ?_
      obtain ⟨u3, u4, h⟩ := h
      exact s_callSH (as := [(vR x0), (vI x6)]) (S := []) gk dL_shelves_217 (kL_wordOf _ _ w_802) w_803 rfl rfl (Nat.le_of_ble_eq_true rfl) ⟨by decide, by decide, u3, u4⟩ h
    · have h := h.2 q2
      refine s_aload_n (i := 0) dL_shelves_173 rfl rfl ?_
      refine s_iload dL_shelves_174 rfl ?_
      refine s_iload dL_shelves_176 rfl ?_
      obtain ⟨u5, u6, h⟩ := h
      exact s_callSH (as := [(vR x0), (vI x4), (vI x6)]) (S := []) gk dL_shelves_178 (kL_isTrue _ _ w_891) w_892 rfl rfl (Nat.le_of_ble_eq_true rfl) ⟨by decide, by decide, u5, u6⟩ h
  · have h := h.2 q1
    refine s_iconst (v := 0) dL_shelves_166 (by decide) ?_
    obtain ⟨u7, u8, h⟩ := h
    exact s_ireturn dL_shelves_167 rfl rfl u7 u8 h
theorem vL_shelves_181 {G : GG} (gk : GOK G) {uc us : Nat} {σ : Mm} {K : RES → Mm → Prop} {x0 : Option Nat} {x1 : Int32} {x2 : Int32} {x3 : Int32} {x4 : Int32} {x5 : Int32} {x6 : Int32} {x7 : Int32} {s0 : Int32}
    (h : ((¬ s0 = (-13 : Int32) → uc ≤ 6000 ∧ us ≤ 36000 ∧ K (.inl (some (vI (0 : Int32)))) σ) ∧ (s0 = (-13 : Int32) → uc + 2 ≤ 6000 ∧ us + 12 ≤ 36000 ∧ RunsH G mL_bySteps hL_bySteps rL_bySteps [(vR x0), (vI x4), (vI x6)] σ (bk G mL_shelves rL_shelves (uc + 2) (us + 12) 194 [some (vR x0), some (vI x1), some (vI x2), some (vI x3), some (vI x4), some (vI x5), some (vI x6), some (vI x7), none] [] K)))) : At G mL_shelves rL_shelves uc us 181 [some (vR x0), some (vI x1), some (vI x2), some (vI x3), some (vI x4), some (vI x5), some (vI x6), some (vI x7), none] [(vI s0)] σ K := by
  refine s_bipush (v := -13) dL_shelves_181 (by decide) ?_
  refine s_icmp_ne (tgt := 212) dL_shelves_183 (by decide) (fun q1 => ?_) (fun q1 => ?_)
  · have h := h.1 q1
    refine s_iconst (v := 0) dL_shelves_212 (by decide) ?_
    obtain ⟨u2, u3, h⟩ := h
    exact s_ireturn dL_shelves_213 rfl rfl u2 u3 h
  · have h := h.2 q1
    refine s_aload_n (i := 0) dL_shelves_186 rfl rfl ?_
    refine s_iload dL_shelves_187 rfl ?_
    refine s_iload dL_shelves_189 rfl ?_
    obtain ⟨u4, u5, h⟩ := h
    exact s_callSH (as := [(vR x0), (vI x4), (vI x6)]) (S := []) gk dL_shelves_191 (kL_bySteps _ _ w_909) w_910 rfl rfl (Nat.le_of_ble_eq_true rfl) ⟨by decide, by decide, u4, u5⟩ h
theorem vL_shelves_194 {G : GG} (gk : GOK G) {uc us : Nat} {σ : Mm} {K : RES → Mm → Prop} {x0 : Option Nat} {x1 : Int32} {x2 : Int32} {x3 : Int32} {x4 : Int32} {x5 : Int32} {x6 : Int32} {x7 : Int32} {s0 : Int32}
    (h : ((¬ s0 = (-13 : Int32) → uc ≤ 6000 ∧ us ≤ 36000 ∧ K (.inl (some (vI (0 : Int32)))) σ) ∧ (s0 = (-13 : Int32) → uc + 3 ≤ 6000 ∧ us + 18 ≤ 36000 ∧ RunsH G mL_isExpired hL_isExpired rL_isExpired [(vR x0), (vI x4), (vI x6)] σ (bk G mL_shelves rL_shelves (uc + 3) (us + 18) 207 [some (vR x0), some (vI x1), some (vI x2), some (vI x3), some (vI x4), some (vI x5), some (vI x6), some (vI x7), none] [] K)))) : At G mL_shelves rL_shelves uc us 194 [some (vR x0), some (vI x1), some (vI x2), some (vI x3), some (vI x4), some (vI x5), some (vI x6), some (vI x7), none] [(vI s0)] σ K := by
  refine s_bipush (v := -13) dL_shelves_194 (by decide) ?_
  refine s_icmp_ne (tgt := 212) dL_shelves_196 (by decide) (fun q1 => ?_) (fun q1 => ?_)
  · have h := h.1 q1
    refine s_iconst (v := 0) dL_shelves_212 (by decide) ?_
    obtain ⟨u2, u3, h⟩ := h
    exact s_ireturn dL_shelves_213 rfl rfl u2 u3 h
  · have h := h.2 q1
    refine s_aload_n (i := 0) dL_shelves_199 rfl rfl ?_
    refine s_iload dL_shelves_200 rfl ?_
    refine s_iload dL_shelves_202 rfl ?_
    obtain ⟨u4, u5, h⟩ := h
    exact s_callSH (as := [(vR x0), (vI x4), (vI x6)]) (S := []) gk dL_shelves_204 (kL_isExpired _ _ w_920) w_921 rfl rfl (Nat.le_of_ble_eq_true rfl) ⟨by decide, by decide, u4, u5⟩ h
theorem vL_shelves_207 {G : GG} (gk : GOK G) {uc us : Nat} {σ : Mm} {K : RES → Mm → Prop} {x0 : Option Nat} {x1 : Int32} {x2 : Int32} {x3 : Int32} {x4 : Int32} {x5 : Int32} {x6 : Int32} {x7 : Int32} {s0 : Int32}
    (h : ((s0 = (-13 : Int32) → uc + 1 ≤ 6000 ∧ us + 6 ≤ 36000 ∧ RunsH G mL_wordOf hL_wordOf rL_wordOf [(vR x0), (vI x6)] σ (bk G mL_shelves rL_shelves (uc + 1) (us + 6) 220 [some (vR x0), some (vI x1), some (vI x2), some (vI x3), some (vI x4), some (vI x5), some (vI x6), some (vI x7), none] [] K)) ∧ (¬ s0 = (-13 : Int32) → uc ≤ 6000 ∧ us ≤ 36000 ∧ K (.inl (some (vI (0 : Int32)))) σ))) : At G mL_shelves rL_shelves uc us 207 [some (vR x0), some (vI x1), some (vI x2), some (vI x3), some (vI x4), some (vI x5), some (vI x6), some (vI x7), none] [(vI s0)] σ K := by
  refine s_bipush (v := -13) dL_shelves_207 (by decide) ?_
  refine s_icmp_eq (tgt := 214) dL_shelves_209 (by decide) (fun q1 => ?_) (fun q1 => ?_)
  · have h := h.1 q1
    refine s_aload_n (i := 0) dL_shelves_214 rfl rfl ?_
    refine s_iload dL_shelves_215 rfl ?_
    obtain ⟨u2, u3, h⟩ := h
    exact s_callSH (as := [(vR x0), (vI x6)]) (S := []) gk dL_shelves_217 (kL_wordOf _ _ w_802) w_803 rfl rfl (Nat.le_of_ble_eq_true rfl) ⟨by decide, by decide, u2, u3⟩ h
  · have h := h.2 q1
    refine s_iconst (v := 0) dL_shelves_212 (by decide) ?_
    obtain ⟨u4, u5, h⟩ := h
    exact s_ireturn dL_shelves_213 rfl rfl u4 u5 h
theorem vL_shelves_220 {G : GG} (gk : GOK G) {uc us : Nat} {σ : Mm} {K : RES → Mm → Prop} {x0 : Option Nat} {x1 : Int32} {x2 : Int32} {x3 : Int32} {x4 : Int32} {x5 : Int32} {x6 : Int32} {x7 : Int32} {s0 : Int32}
    (h : ((0 ≤ s0 → ((¬ x7 = 0 → uc + 3 ≤ 6000 ∧ us + 18 ≤ 36000 ∧ RunsH G mL_isExpired hL_isExpired rL_isExpired [(vR x0), (vI x4), (vI x6)] σ (bk G mL_shelves rL_shelves (uc + 3) (us + 18) 246 [some (vR x0), some (vI x1), some (vI x2), some (vI x3), some (vI x4), some (vI x5), some (vI x6), some (vI x7), none] [] K)) ∧ (x7 = 0 → uc + 2 ≤ 6000 ∧ us + 12 ≤ 36000 ∧ RunsH G mL_outcome hL_outcome rL_outcome [(vR x0), (vI x4), (vI x6)] σ (bk G mL_shelves rL_shelves (uc + 2) (us + 12) 284 [some (vR x0), some (vI x1), some (vI x2), some (vI x3), some (vI x4), some (vI x5), some (vI x6), some (vI x7), some (vI (99 : Int32))] [] K)))) ∧ (¬ 0 ≤ s0 → uc + 2 ≤ 6000 ∧ us + 12 ≤ 36000 ∧ RunsH G mL_outcome hL_outcome rL_outcome [(vR x0), (vI x4), (vI x6)] σ (bk G mL_shelves rL_shelves (uc + 2) (us + 12) 284 [some (vR x0), some (vI x1), some (vI x2), some (vI x3), some (vI x4), some (vI x5), some (vI x6), some (vI x7), some (vI (-13 : Int32))] [] K)))) : At G mL_shelves rL_shelves uc us 220 [some (vR x0), some (vI x1), some (vI x2), some (vI x3), some (vI x4), some (vI x5), some (vI x6), some (vI x7), none] [(vI s0)] σ K := by
  refine s_if_ge (tgt := 228) dL_shelves_220 (by decide) (fun q1 => ?_) (fun q1 => ?_)
  · have h := h.1 q1
    refine s_iload dL_shelves_228 rfl ?_
    refine s_if_ne (tgt := 238) dL_shelves_230 (by decide) (fun q2 => ?_) (fun q2 => ?_)
    · have h := h.1 q2
      refine s_aload_n (i := 0) dL_shelves_238 rfl rfl ?_
      refine s_iload dL_shelves_239 rfl ?_
      refine s_iload dL_shelves_241 rfl ?_
      obtain ⟨u3, u4, h⟩ := h
      exact s_callSH (as := [(vR x0), (vI x4), (vI x6)]) (S := []) gk dL_shelves_243 (kL_isExpired _ _ w_920) w_921 rfl rfl (Nat.le_of_ble_eq_true rfl) ⟨by decide, by decide, u3, u4⟩ h
    · have h := h.2 q2
      refine s_bipush (v := 99) dL_shelves_233 (by decide) ?_
      refine s_goto (tgt := 274) dL_shelves_235 (by decide) ?_
      refine s_istore (L' := [some (vR x0), some (vI x1), some (vI x2), some (vI x3), some (vI x4), some (vI x5), some (vI x6), some (vI x7), some (vI (99 : Int32))]) dL_shelves_274 rfl (by decide) rfl ?_
      refine s_aload_n (i := 0) dL_shelves_276 rfl rfl ?_
      refine s_iload dL_shelves_277 rfl ?_
      refine s_iload dL_shelves_279 rfl ?_
      obtain ⟨u5, u6, h⟩ := h
      exact s_callSH (as := [(vR x0), (vI x4), (vI x6)]) (S := []) gk dL_shelves_281 (kL_outcome _ _ w_932) w_933 rfl rfl (Nat.le_of_ble_eq_true rfl) ⟨by decide, by decide, u5, u6⟩ h
  · have h := h.2 q1
    refine s_bipush (v := -13) dL_shelves_223 (by decide) ?_
    refine s_goto (tgt := 274) dL_shelves_225 (by decide) ?_
    refine s_istore (L' := [some (vR x0), some (vI x1), some (vI x2), some (vI x3), some (vI x4), some (vI x5), some (vI x6), some (vI x7), some (vI (-13 : Int32))]) dL_shelves_274 rfl (by decide) rfl ?_
    refine s_aload_n (i := 0) dL_shelves_276 rfl rfl ?_
    refine s_iload dL_shelves_277 rfl ?_
    refine s_iload dL_shelves_279 rfl ?_
    obtain ⟨u7, u8, h⟩ := h
    exact s_callSH (as := [(vR x0), (vI x4), (vI x6)]) (S := []) gk dL_shelves_281 (kL_outcome _ _ w_932) w_933 rfl rfl (Nat.le_of_ble_eq_true rfl) ⟨by decide, by decide, u7, u8⟩ h
theorem vL_shelves_246 {G : GG} (gk : GOK G) {uc us : Nat} {σ : Mm} {K : RES → Mm → Prop} {x0 : Option Nat} {x1 : Int32} {x2 : Int32} {x3 : Int32} {x4 : Int32} {x5 : Int32} {x6 : Int32} {x7 : Int32} {s0 : Int32}
    (h : ((¬ s0 = (1 : Int32) → uc + 2 ≤ 6000 ∧ us + 12 ≤ 36000 ∧ RunsH G mL_isOpen hL_isOpen rL_isOpen [(vR x0), (vI x4), (vI x6)] σ (bk G mL_shelves rL_shelves (uc + 2) (us + 12) 263 [some (vR x0), some (vI x1), some (vI x2), some (vI x3), some (vI x4), some (vI x5), some (vI x6), some (vI x7), none] [] K)) ∧ (s0 = (1 : Int32) → uc + 2 ≤ 6000 ∧ us + 12 ≤ 36000 ∧ RunsH G mL_outcome hL_outcome rL_outcome [(vR x0), (vI x4), (vI x6)] σ (bk G mL_shelves rL_shelves (uc + 2) (us + 12) 284 [some (vR x0), some (vI x1), some (vI x2), some (vI x3), some (vI x4), some (vI x5), some (vI x6), some (vI x7), some (vI (101 : Int32))] [] K)))) : At G mL_shelves rL_shelves uc us 246 [some (vR x0), some (vI x1), some (vI x2), some (vI x3), some (vI x4), some (vI x5), some (vI x6), some (vI x7), none] [(vI s0)] σ K := by
  refine s_iconst (v := 1) dL_shelves_246 (by decide) ?_
  refine s_icmp_ne (tgt := 255) dL_shelves_247 (by decide) (fun q1 => ?_) (fun q1 => ?_)
  · have h := h.1 q1
    refine s_aload_n (i := 0) dL_shelves_255 rfl rfl ?_
    refine s_iload dL_shelves_256 rfl ?_
    refine s_iload dL_shelves_258 rfl ?_
    obtain ⟨u2, u3, h⟩ := h
    exact s_callSH (as := [(vR x0), (vI x4), (vI x6)]) (S := []) gk dL_shelves_260 (kL_isOpen _ _ w_869) w_870 rfl rfl (Nat.le_of_ble_eq_true rfl) ⟨by decide, by decide, u2, u3⟩ h
  · have h := h.2 q1
    refine s_bipush (v := 101) dL_shelves_250 (by decide) ?_
    refine s_goto (tgt := 274) dL_shelves_252 (by decide) ?_
    refine s_istore (L' := [some (vR x0), some (vI x1), some (vI x2), some (vI x3), some (vI x4), some (vI x5), some (vI x6), some (vI x7), some (vI (101 : Int32))]) dL_shelves_274 rfl (by decide) rfl ?_
    refine s_aload_n (i := 0) dL_shelves_276 rfl rfl ?_
    refine s_iload dL_shelves_277 rfl ?_
    refine s_iload dL_shelves_279 rfl ?_
    obtain ⟨u4, u5, h⟩ := h
    exact s_callSH (as := [(vR x0), (vI x4), (vI x6)]) (S := []) gk dL_shelves_281 (kL_outcome _ _ w_932) w_933 rfl rfl (Nat.le_of_ble_eq_true rfl) ⟨by decide, by decide, u4, u5⟩ h
theorem vL_shelves_263 {G : GG} (gk : GOK G) {uc us : Nat} {σ : Mm} {K : RES → Mm → Prop} {x0 : Option Nat} {x1 : Int32} {x2 : Int32} {x3 : Int32} {x4 : Int32} {x5 : Int32} {x6 : Int32} {x7 : Int32} {s0 : Int32}
    (h : ((¬ s0 = (1 : Int32) → uc + 2 ≤ 6000 ∧ us + 12 ≤ 36000 ∧ RunsH G mL_outcome hL_outcome rL_outcome [(vR x0), (vI x4), (vI x6)] σ (bk G mL_shelves rL_shelves (uc + 2) (us + 12) 284 [some (vR x0), some (vI x1), some (vI x2), some (vI x3), some (vI x4), some (vI x5), some (vI x6), some (vI x7), some (vI (104 : Int32))] [] K)) ∧ (s0 = (1 : Int32) → uc + 2 ≤ 6000 ∧ us + 12 ≤ 36000 ∧ RunsH G mL_outcome hL_outcome rL_outcome [(vR x0), (vI x4), (vI x6)] σ (bk G mL_shelves rL_shelves (uc + 2) (us + 12) 284 [some (vR x0), some (vI x1), some (vI x2), some (vI x3), some (vI x4), some (vI x5), some (vI x6), some (vI x7), some (vI (111 : Int32))] [] K)))) : At G mL_shelves rL_shelves uc us 263 [some (vR x0), some (vI x1), some (vI x2), some (vI x3), some (vI x4), some (vI x5), some (vI x6), some (vI x7), none] [(vI s0)] σ K := by
  refine s_iconst (v := 1) dL_shelves_263 (by decide) ?_
  refine s_icmp_ne (tgt := 272) dL_shelves_264 (by decide) (fun q1 => ?_) (fun q1 => ?_)
  · have h := h.1 q1
    refine s_bipush (v := 104) dL_shelves_272 (by decide) ?_
    refine s_istore (L' := [some (vR x0), some (vI x1), some (vI x2), some (vI x3), some (vI x4), some (vI x5), some (vI x6), some (vI x7), some (vI (104 : Int32))]) dL_shelves_274 rfl (by decide) rfl ?_
    refine s_aload_n (i := 0) dL_shelves_276 rfl rfl ?_
    refine s_iload dL_shelves_277 rfl ?_
    refine s_iload dL_shelves_279 rfl ?_
    obtain ⟨u2, u3, h⟩ := h
    exact s_callSH (as := [(vR x0), (vI x4), (vI x6)]) (S := []) gk dL_shelves_281 (kL_outcome _ _ w_932) w_933 rfl rfl (Nat.le_of_ble_eq_true rfl) ⟨by decide, by decide, u2, u3⟩ h
  · have h := h.2 q1
    refine s_bipush (v := 111) dL_shelves_267 (by decide) ?_
    refine s_goto (tgt := 274) dL_shelves_269 (by decide) ?_
    refine s_istore (L' := [some (vR x0), some (vI x1), some (vI x2), some (vI x3), some (vI x4), some (vI x5), some (vI x6), some (vI x7), some (vI (111 : Int32))]) dL_shelves_274 rfl (by decide) rfl ?_
    refine s_aload_n (i := 0) dL_shelves_276 rfl rfl ?_
    refine s_iload dL_shelves_277 rfl ?_
    refine s_iload dL_shelves_279 rfl ?_
    obtain ⟨u4, u5, h⟩ := h
    exact s_callSH (as := [(vR x0), (vI x4), (vI x6)]) (S := []) gk dL_shelves_281 (kL_outcome _ _ w_932) w_933 rfl rfl (Nat.le_of_ble_eq_true rfl) ⟨by decide, by decide, u4, u5⟩ h
theorem vL_shelves_284 {G : GG} (gk : GOK G) {uc us : Nat} {σ : Mm} {K : RES → Mm → Prop} {x0 : Option Nat} {x1 : Int32} {x2 : Int32} {x3 : Int32} {x4 : Int32} {x5 : Int32} {x6 : Int32} {x7 : Int32} {x8 : Int32} {s0 : Int32}
    (h : ((s0 = x8 → ((x7 = 0 → ((x7 = 0 → At G mL_shelves rL_shelves uc us 25 [some (vR x0), some (vI x1), some (vI x2), some (vI (x3 + (0 : Int32))), some (vI x4), some (vI (x5 + (0 : Int32))), some (vI (i2c (x6 + (1 : Int32)))), none, none] [] σ K) ∧ (¬ x7 = 0 → uc + 2 ≤ 6000 ∧ us + 12 ≤ 36000 ∧ RunsH G mL_ageOf hL_ageOf rL_ageOf [(vR x0), (vI x4), (vI x6)] σ (bk G mL_shelves rL_shelves (uc + 2) (us + 12) 320 [some (vR x0), some (vI x1), some (vI x2), some (vI x3), some (vI x4), some (vI (x5 + (0 : Int32))), some (vI x6), some (vI x7), some (vI x8)] [(vI x3)] K)))) ∧ (¬ x7 = 0 → ((x7 = 0 → At G mL_shelves rL_shelves uc us 25 [some (vR x0), some (vI x1), some (vI x2), some (vI (x3 + (0 : Int32))), some (vI x4), some (vI (x5 + (1 : Int32))), some (vI (i2c (x6 + (1 : Int32)))), none, none] [] σ K) ∧ (¬ x7 = 0 → uc + 2 ≤ 6000 ∧ us + 12 ≤ 36000 ∧ RunsH G mL_ageOf hL_ageOf rL_ageOf [(vR x0), (vI x4), (vI x6)] σ (bk G mL_shelves rL_shelves (uc + 2) (us + 12) 320 [some (vR x0), some (vI x1), some (vI x2), some (vI x3), some (vI x4), some (vI (x5 + (1 : Int32))), some (vI x6), some (vI x7), some (vI x8)] [(vI x3)] K)))))) ∧ (¬ s0 = x8 → uc ≤ 6000 ∧ us ≤ 36000 ∧ K (.inl (some (vI (0 : Int32)))) σ))) : At G mL_shelves rL_shelves uc us 284 [some (vR x0), some (vI x1), some (vI x2), some (vI x3), some (vI x4), some (vI x5), some (vI x6), some (vI x7), some (vI x8)] [(vI s0)] σ K := by
  refine s_iload dL_shelves_284 rfl ?_
  refine s_icmp_eq (tgt := 291) dL_shelves_286 (by decide) (fun q1 => ?_) (fun q1 => ?_)
  · have h := h.1 q1
    refine s_iload dL_shelves_291 rfl ?_
    refine s_iload dL_shelves_293 rfl ?_
    refine s_if_eq (tgt := 302) dL_shelves_295 (by decide) (fun q2 => ?_) (fun q2 => ?_)
    · have h := h.1 q2
      refine s_iconst (v := 0) dL_shelves_302 (by decide) ?_
      refine s_iadd dL_shelves_303 ?_
      refine s_istore (L' := [some (vR x0), some (vI x1), some (vI x2), some (vI x3), some (vI x4), some (vI (x5 + (0 : Int32))), some (vI x6), some (vI x7), some (vI x8)]) dL_shelves_304 rfl (by decide) rfl ?_
      refine s_iload_n (i := 3) dL_shelves_306 rfl rfl ?_
      refine s_iload dL_shelves_307 rfl ?_
      refine s_if_eq (tgt := 323) dL_shelves_309 (by decide) (fun q3 => ?_) (fun q3 => ?_)
      · have h := h.1 q3
        refine s_iconst (v := 0) dL_shelves_323 (by decide) ?_
        refine s_iadd dL_shelves_324 ?_
        refine s_istore_n (i := 3) (L' := [some (vR x0), some (vI x1), some (vI x2), some (vI (x3 + (0 : Int32))), some (vI x4), some (vI (x5 + (0 : Int32))), some (vI x6), some (vI x7), some (vI x8)]) dL_shelves_325 rfl rfl (by decide) rfl ?_
        refine s_iload dL_shelves_326 rfl ?_
        refine s_iconst (v := 1) dL_shelves_328 (by decide) ?_
        refine s_iadd dL_shelves_329 ?_
        refine s_i2c (v := i2c (x6 + (1 : Int32))) dL_shelves_330 rfl ?_
        refine s_istore (L' := [some (vR x0), some (vI x1), some (vI x2), some (vI (x3 + (0 : Int32))), some (vI x4), some (vI (x5 + (0 : Int32))), some (vI (i2c (x6 + (1 : Int32)))), some (vI x7), some (vI x8)]) dL_shelves_331 rfl (by decide) rfl ?_
        refine s_goto (tgt := 25) dL_shelves_333 (by decide) ?_
        exact h.msk ⟨rfl, ⟨rfl, ⟨rfl, ⟨rfl, ⟨rfl, ⟨rfl, ⟨rfl, trivial⟩⟩⟩⟩⟩⟩⟩
      · have h := h.2 q3
        refine s_aload_n (i := 0) dL_shelves_312 rfl rfl ?_
        refine s_iload dL_shelves_313 rfl ?_
        refine s_iload dL_shelves_315 rfl ?_
        obtain ⟨u4, u5, h⟩ := h
        exact s_callSH (as := [(vR x0), (vI x4), (vI x6)]) (S := [(vI x3)]) gk dL_shelves_317 (kL_ageOf _ _ w_854) w_855 rfl rfl (Nat.le_of_ble_eq_true rfl) ⟨by decide, by decide, u4, u5⟩ h
    · have h := h.2 q2
      refine s_iconst (v := 1) dL_shelves_298 (by decide) ?_
      refine s_goto (tgt := 303) dL_shelves_299 (by decide) ?_
      refine s_iadd dL_shelves_303 ?_
      refine s_istore (L' := [some (vR x0), some (vI x1), some (vI x2), some (vI x3), some (vI x4), some (vI (x5 + (1 : Int32))), some (vI x6), some (vI x7), some (vI x8)]) dL_shelves_304 rfl (by decide) rfl ?_
      refine s_iload_n (i := 3) dL_shelves_306 rfl rfl ?_
      refine s_iload dL_shelves_307 rfl ?_
      refine s_if_eq (tgt := 323) dL_shelves_309 (by decide) (fun q6 => ?_) (fun q6 => ?_)
      · have h := h.1 q6
        refine s_iconst (v := 0) dL_shelves_323 (by decide) ?_
        refine s_iadd dL_shelves_324 ?_
        refine s_istore_n (i := 3) (L' := [some (vR x0), some (vI x1), some (vI x2), some (vI (x3 + (0 : Int32))), some (vI x4), some (vI (x5 + (1 : Int32))), some (vI x6), some (vI x7), some (vI x8)]) dL_shelves_325 rfl rfl (by decide) rfl ?_
        refine s_iload dL_shelves_326 rfl ?_
        refine s_iconst (v := 1) dL_shelves_328 (by decide) ?_
        refine s_iadd dL_shelves_329 ?_
        refine s_i2c (v := i2c (x6 + (1 : Int32))) dL_shelves_330 rfl ?_
        refine s_istore (L' := [some (vR x0), some (vI x1), some (vI x2), some (vI (x3 + (0 : Int32))), some (vI x4), some (vI (x5 + (1 : Int32))), some (vI (i2c (x6 + (1 : Int32)))), some (vI x7), some (vI x8)]) dL_shelves_331 rfl (by decide) rfl ?_
        refine s_goto (tgt := 25) dL_shelves_333 (by decide) ?_
        exact h.msk ⟨rfl, ⟨rfl, ⟨rfl, ⟨rfl, ⟨rfl, ⟨rfl, ⟨rfl, trivial⟩⟩⟩⟩⟩⟩⟩
      · have h := h.2 q6
        refine s_aload_n (i := 0) dL_shelves_312 rfl rfl ?_
        refine s_iload dL_shelves_313 rfl ?_
        refine s_iload dL_shelves_315 rfl ?_
        obtain ⟨u7, u8, h⟩ := h
        exact s_callSH (as := [(vR x0), (vI x4), (vI x6)]) (S := [(vI x3)]) gk dL_shelves_317 (kL_ageOf _ _ w_854) w_855 rfl rfl (Nat.le_of_ble_eq_true rfl) ⟨by decide, by decide, u7, u8⟩ h
  · have h := h.2 q1
    refine s_iconst (v := 0) dL_shelves_289 (by decide) ?_
    obtain ⟨u9, u10, h⟩ := h
    exact s_ireturn dL_shelves_290 rfl rfl u9 u10 h
theorem vL_shelves_320 {G : GG} (gk : GOK G) {uc us : Nat} {σ : Mm} {K : RES → Mm → Prop} {x0 : Option Nat} {x1 : Int32} {x2 : Int32} {x3 : Int32} {x4 : Int32} {x5 : Int32} {x6 : Int32} {x7 : Int32} {x8 : Int32} {s0 : Int32} {s1 : Int32}
    (h : At G mL_shelves rL_shelves uc us 25 [some (vR x0), some (vI x1), some (vI x2), some (vI (s1 + s0)), some (vI x4), some (vI x5), some (vI (i2c (x6 + (1 : Int32)))), none, none] [] σ K) : At G mL_shelves rL_shelves uc us 320 [some (vR x0), some (vI x1), some (vI x2), some (vI x3), some (vI x4), some (vI x5), some (vI x6), some (vI x7), some (vI x8)] [(vI s0), (vI s1)] σ K := by
  refine s_goto (tgt := 324) dL_shelves_320 (by decide) ?_
  refine s_iadd dL_shelves_324 ?_
  refine s_istore_n (i := 3) (L' := [some (vR x0), some (vI x1), some (vI x2), some (vI (s1 + s0)), some (vI x4), some (vI x5), some (vI x6), some (vI x7), some (vI x8)]) dL_shelves_325 rfl rfl (by decide) rfl ?_
  refine s_iload dL_shelves_326 rfl ?_
  refine s_iconst (v := 1) dL_shelves_328 (by decide) ?_
  refine s_iadd dL_shelves_329 ?_
  refine s_i2c (v := i2c (x6 + (1 : Int32))) dL_shelves_330 rfl ?_
  refine s_istore (L' := [some (vR x0), some (vI x1), some (vI x2), some (vI (s1 + s0)), some (vI x4), some (vI x5), some (vI (i2c (x6 + (1 : Int32)))), some (vI x7), some (vI x8)]) dL_shelves_331 rfl (by decide) rfl ?_
  refine s_goto (tgt := 25) dL_shelves_333 (by decide) ?_
  exact h.msk ⟨rfl, ⟨rfl, ⟨rfl, ⟨rfl, ⟨rfl, ⟨rfl, ⟨rfl, trivial⟩⟩⟩⟩⟩⟩⟩
theorem vL_shelves_347 {G : GG} (gk : GOK G) {uc us : Nat} {σ : Mm} {K : RES → Mm → Prop} {x0 : Option Nat} {x1 : Int32} {x2 : Int32} {x3 : Int32} {x4 : Int32} {x5 : Int32} {x6 : Int32} {s0 : Int32}
    (h : uc + 1 ≤ 6000 ∧ us + 6 ≤ 36000 ∧ RunsH G mL_echoCount hL_echoCount rL_echoCount [(vR x0), (vI x4)] σ (bk G mL_shelves rL_shelves (uc + 1) (us + 6) 355 [some (vR x0), some (vI x1), some (vI x2), some (vI x3), some (vI x4), some (vI x5), some (vI s0), none, none] [] K)) : At G mL_shelves rL_shelves uc us 347 [some (vR x0), some (vI x1), some (vI x2), some (vI x3), some (vI x4), some (vI x5), some (vI x6), none, none] [(vI s0)] σ K := by
  refine s_istore (L' := [some (vR x0), some (vI x1), some (vI x2), some (vI x3), some (vI x4), some (vI x5), some (vI s0), none, none]) dL_shelves_347 rfl (by decide) rfl ?_
  refine s_aload_n (i := 0) dL_shelves_349 rfl rfl ?_
  refine s_iload dL_shelves_350 rfl ?_
  obtain ⟨u1, u2, h⟩ := h
  exact s_callSH (as := [(vR x0), (vI x4)]) (S := []) gk dL_shelves_352 (kL_echoCount _ _ w_949) w_950 rfl rfl (Nat.le_of_ble_eq_true rfl) ⟨by decide, by decide, u1, u2⟩ h
theorem vL_shelves_355 {G : GG} (gk : GOK G) {uc us : Nat} {σ : Mm} {K : RES → Mm → Prop} {x0 : Option Nat} {x1 : Int32} {x2 : Int32} {x3 : Int32} {x4 : Int32} {x5 : Int32} {x6 : Int32} {s0 : Int32}
    (h : ((¬ s0 = x5 → uc ≤ 6000 ∧ us ≤ 36000 ∧ K (.inl (some (vI (0 : Int32)))) σ) ∧ (s0 = x5 → uc + 1 ≤ 6000 ∧ us + 6 ≤ 36000 ∧ RunsH G mL_capacityOf hL_capacityOf rL_capacityOf [(vR x0), (vI x4)] σ (bk G mL_shelves rL_shelves (uc + 1) (us + 6) 368 [some (vR x0), some (vI x1), some (vI x2), some (vI x3), some (vI x4), some (vI x5), some (vI x6), none, none] [(vI x5)] K)))) : At G mL_shelves rL_shelves uc us 355 [some (vR x0), some (vI x1), some (vI x2), some (vI x3), some (vI x4), some (vI x5), some (vI x6), none, none] [(vI s0)] σ K := by
  refine s_iload dL_shelves_355 rfl ?_
  refine s_icmp_ne (tgt := 423) dL_shelves_357 (by decide) (fun q1 => ?_) (fun q1 => ?_)
  · have h := h.1 q1
    refine s_iconst (v := 0) dL_shelves_423 (by decide) ?_
    obtain ⟨u2, u3, h⟩ := h
    exact s_ireturn dL_shelves_424 rfl rfl u2 u3 h
  · have h := h.2 q1
    refine s_iload dL_shelves_360 rfl ?_
    refine s_aload_n (i := 0) dL_shelves_362 rfl rfl ?_
    refine s_iload dL_shelves_363 rfl ?_
    obtain ⟨u4, u5, h⟩ := h
    exact s_callSH (as := [(vR x0), (vI x4)]) (S := [(vI x5)]) gk dL_shelves_365 (kL_capacityOf _ _ w_957) w_958 rfl rfl (Nat.le_of_ble_eq_true rfl) ⟨by decide, by decide, u4, u5⟩ h
theorem vL_shelves_368 {G : GG} (gk : GOK G) {uc us : Nat} {σ : Mm} {K : RES → Mm → Prop} {x0 : Option Nat} {x1 : Int32} {x2 : Int32} {x3 : Int32} {x4 : Int32} {x5 : Int32} {x6 : Int32} {s0 : Int32} {s1 : Int32}
    (h : ((s0 < s1 → uc ≤ 6000 ∧ us ≤ 36000 ∧ K (.inl (some (vI (0 : Int32)))) σ) ∧ (¬ s0 < s1 → uc + 2 ≤ 6000 ∧ us + 12 ≤ 36000 ∧ RunsH G mL_byScan hL_byScan rL_byScan [(vR x0), (vI x4)] σ (bk G mL_shelves rL_shelves (uc + 2) (us + 12) 377 [some (vR x0), some (vI x1), some (vI x2), some (vI x3), some (vI x4), some (vI x5), some (vI x6), none, none] [] K)))) : At G mL_shelves rL_shelves uc us 368 [some (vR x0), some (vI x1), some (vI x2), some (vI x3), some (vI x4), some (vI x5), some (vI x6), none, none] [(vI s0), (vI s1)] σ K := by
  refine s_icmp_gt (tgt := 423) dL_shelves_368 (by decide) (fun q1 => ?_) (fun q1 => ?_)
  · have h := h.1 q1
    refine s_iconst (v := 0) dL_shelves_423 (by decide) ?_
    obtain ⟨u2, u3, h⟩ := h
    exact s_ireturn dL_shelves_424 rfl rfl u2 u3 h
  · have h := h.2 q1
    refine s_aload_n (i := 0) dL_shelves_371 rfl rfl ?_
    refine s_iload dL_shelves_372 rfl ?_
    obtain ⟨u4, u5, h⟩ := h
    exact s_callSH (as := [(vR x0), (vI x4)]) (S := []) gk dL_shelves_374 (kL_byScan _ _ w_964) w_965 rfl rfl (Nat.le_of_ble_eq_true rfl) ⟨by decide, by decide, u4, u5⟩ h
theorem vL_shelves_377 {G : GG} (gk : GOK G) {uc us : Nat} {σ : Mm} {K : RES → Mm → Prop} {x0 : Option Nat} {x1 : Int32} {x2 : Int32} {x3 : Int32} {x4 : Int32} {x5 : Int32} {x6 : Int32} {s0 : Int32}
    (h : ((¬ s0 = x6 → uc ≤ 6000 ∧ us ≤ 36000 ∧ K (.inl (some (vI (0 : Int32)))) σ) ∧ (s0 = x6 → ((¬ x5 = 0 → uc + 1 ≤ 6000 ∧ us + 6 ≤ 36000 ∧ RunsH G mL_hasEcho hL_hasEcho rL_hasEcho [(vR x0), (vI x4), (vI (i2c x6))] σ (bk G mL_shelves rL_shelves (uc + 1) (us + 6) 406 [some (vR x0), some (vI x1), some (vI x2), some (vI x3), some (vI x4), some (vI x5), some (vI x6), none, none] [] K)) ∧ (x5 = 0 → ((x6 = (-13 : Int32) → uc + 2 ≤ 6000 ∧ us + 12 ≤ 36000 ∧ RunsH G mL_echoAt hL_echoAt rL_echoAt [(vR x0), (vI x4), (vI x5)] σ (bk G mL_shelves rL_shelves (uc + 2) (us + 12) 418 [some (vR x0), some (vI x1), some (vI x2), some (vI x3), some (vI x4), some (vI x5), some (vI x6), none, none] [] K)) ∧ (¬ x6 = (-13 : Int32) → uc ≤ 6000 ∧ us ≤ 36000 ∧ K (.inl (some (vI (0 : Int32)))) σ))))))) : At G mL_shelves rL_shelves uc us 377 [some (vR x0), some (vI x1), some (vI x2), some (vI x3), some (vI x4), some (vI x5), some (vI x6), none, none] [(vI s0)] σ K := by
  refine s_iload dL_shelves_377 rfl ?_
  refine s_icmp_ne (tgt := 423) dL_shelves_379 (by decide) (fun q1 => ?_) (fun q1 => ?_)
  · have h := h.1 q1
    refine s_iconst (v := 0) dL_shelves_423 (by decide) ?_
    obtain ⟨u2, u3, h⟩ := h
    exact s_ireturn dL_shelves_424 rfl rfl u2 u3 h
  · have h := h.2 q1
    refine s_iload dL_shelves_382 rfl ?_
    refine s_if_ne (tgt := 397) dL_shelves_384 (by decide) (fun q4 => ?_) (fun q4 => ?_)
    · have h := h.1 q4
      refine s_aload_n (i := 0) dL_shelves_397 rfl rfl ?_
      refine s_iload dL_shelves_398 rfl ?_
      refine s_iload dL_shelves_400 rfl ?_
      refine s_i2c (v := i2c x6) dL_shelves_402 rfl ?_
      obtain ⟨u5, u6, h⟩ := h
      exact s_callSH (as := [(vR x0), (vI x4), (vI (i2c x6))]) (S := []) gk dL_shelves_403 (kL_hasEcho _ _ w_834) w_835 rfl rfl (Nat.le_of_ble_eq_true rfl) ⟨by decide, by decide, u5, u6⟩ h
    · have h := h.2 q4
      refine s_iload dL_shelves_387 rfl ?_
      refine s_bipush (v := -13) dL_shelves_389 (by decide) ?_
      refine s_icmp_eq (tgt := 410) dL_shelves_391 (by decide) (fun q7 => ?_) (fun q7 => ?_)
      · have h := h.1 q7
        refine s_aload_n (i := 0) dL_shelves_410 rfl rfl ?_
        refine s_iload dL_shelves_411 rfl ?_
        refine s_iload dL_shelves_413 rfl ?_
        obtain ⟨u8, u9, h⟩ := h
        exact s_callSH (as := [(vR x0), (vI x4), (vI x5)]) (S := []) gk dL_shelves_415 (kL_echoAt _ _ w_876) w_877 rfl rfl (Nat.le_of_ble_eq_true rfl) ⟨by decide, by decide, u8, u9⟩ h
      · have h := h.2 q7
        refine s_goto (tgt := 423) dL_shelves_394 (by decide) ?_
        refine s_iconst (v := 0) dL_shelves_423 (by decide) ?_
        obtain ⟨u10, u11, h⟩ := h
        exact s_ireturn dL_shelves_424 rfl rfl u10 u11 h
theorem vL_shelves_406 {G : GG} (gk : GOK G) {uc us : Nat} {σ : Mm} {K : RES → Mm → Prop} {x0 : Option Nat} {x1 : Int32} {x2 : Int32} {x3 : Int32} {x4 : Int32} {x5 : Int32} {x6 : Int32} {s0 : Int32}
    (h : ((¬ s0 = (1 : Int32) → uc ≤ 6000 ∧ us ≤ 36000 ∧ K (.inl (some (vI (0 : Int32)))) σ) ∧ (s0 = (1 : Int32) → uc + 2 ≤ 6000 ∧ us + 12 ≤ 36000 ∧ RunsH G mL_echoAt hL_echoAt rL_echoAt [(vR x0), (vI x4), (vI x5)] σ (bk G mL_shelves rL_shelves (uc + 2) (us + 12) 418 [some (vR x0), some (vI x1), some (vI x2), some (vI x3), some (vI x4), some (vI x5), some (vI x6), none, none] [] K)))) : At G mL_shelves rL_shelves uc us 406 [some (vR x0), some (vI x1), some (vI x2), some (vI x3), some (vI x4), some (vI x5), some (vI x6), none, none] [(vI s0)] σ K := by
  refine s_iconst (v := 1) dL_shelves_406 (by decide) ?_
  refine s_icmp_ne (tgt := 423) dL_shelves_407 (by decide) (fun q1 => ?_) (fun q1 => ?_)
  · have h := h.1 q1
    refine s_iconst (v := 0) dL_shelves_423 (by decide) ?_
    obtain ⟨u2, u3, h⟩ := h
    exact s_ireturn dL_shelves_424 rfl rfl u2 u3 h
  · have h := h.2 q1
    refine s_aload_n (i := 0) dL_shelves_410 rfl rfl ?_
    refine s_iload dL_shelves_411 rfl ?_
    refine s_iload dL_shelves_413 rfl ?_
    obtain ⟨u4, u5, h⟩ := h
    exact s_callSH (as := [(vR x0), (vI x4), (vI x5)]) (S := []) gk dL_shelves_415 (kL_echoAt _ _ w_876) w_877 rfl rfl (Nat.le_of_ble_eq_true rfl) ⟨by decide, by decide, u4, u5⟩ h
theorem vL_shelves_418 {G : GG} (gk : GOK G) {uc us : Nat} {σ : Mm} {K : RES → Mm → Prop} {x0 : Option Nat} {x1 : Int32} {x2 : Int32} {x3 : Int32} {x4 : Int32} {x5 : Int32} {x6 : Int32} {s0 : Int32}
    (h : ((s0 = (-13 : Int32) → ((x5 ≤ 0 → At G mL_shelves rL_shelves uc us 12 [some (vR x0), some (vI x1), some (vI x2), some (vI x3), some (vI (x4 + 1)), none, none, none, none] [] σ K) ∧ (¬ x5 ≤ 0 → uc + 1 ≤ 6000 ∧ us + 6 ≤ 36000 ∧ RunsH G mL_policyOf hL_policyOf rL_policyOf [(vR x0), (vI x4)] σ (bk G mL_shelves rL_shelves (uc + 1) (us + 6) 436 [some (vR x0), some (vI x1), some (vI x2), some (vI x3), some (vI x4), some (vI x5), some (vI x6), none, none] [] K)))) ∧ (¬ s0 = (-13 : Int32) → uc ≤ 6000 ∧ us ≤ 36000 ∧ K (.inl (some (vI (0 : Int32)))) σ))) : At G mL_shelves rL_shelves uc us 418 [some (vR x0), some (vI x1), some (vI x2), some (vI x3), some (vI x4), some (vI x5), some (vI x6), none, none] [(vI s0)] σ K := by
  refine s_bipush (v := -13) dL_shelves_418 (by decide) ?_
  refine s_icmp_eq (tgt := 425) dL_shelves_420 (by decide) (fun q1 => ?_) (fun q1 => ?_)
  · have h := h.1 q1
    refine s_iload dL_shelves_425 rfl ?_
    refine s_if_le (tgt := 455) dL_shelves_427 (by decide) (fun q2 => ?_) (fun q2 => ?_)
    · have h := h.1 q2
      refine s_iinc (v := x4 + 1) (L' := [some (vR x0), some (vI x1), some (vI x2), some (vI x3), some (vI (x4 + 1)), some (vI x5), some (vI x6), none, none]) dL_shelves_455 rfl rfl rfl (by decide) rfl ?_
      refine s_goto (tgt := 12) dL_shelves_458 (by decide) ?_
      exact h.msk ⟨rfl, ⟨rfl, ⟨rfl, ⟨rfl, ⟨rfl, trivial⟩⟩⟩⟩⟩
    · have h := h.2 q2
      refine s_aload_n (i := 0) dL_shelves_430 rfl rfl ?_
      refine s_iload dL_shelves_431 rfl ?_
      obtain ⟨u3, u4, h⟩ := h
      exact s_callSH (as := [(vR x0), (vI x4)]) (S := []) gk dL_shelves_433 (kL_policyOf _ _ w_975) w_976 rfl rfl (Nat.le_of_ble_eq_true rfl) ⟨by decide, by decide, u3, u4⟩ h
  · have h := h.2 q1
    refine s_iconst (v := 0) dL_shelves_423 (by decide) ?_
    obtain ⟨u5, u6, h⟩ := h
    exact s_ireturn dL_shelves_424 rfl rfl u5 u6 h
theorem vL_shelves_436 {G : GG} (gk : GOK G) {uc us : Nat} {σ : Mm} {K : RES → Mm → Prop} {x0 : Option Nat} {x1 : Int32} {x2 : Int32} {x3 : Int32} {x4 : Int32} {x5 : Int32} {x6 : Int32} {s0 : Int32}
    (h : ((¬ s0 = (108 : Int32) → At G mL_shelves rL_shelves uc us 12 [some (vR x0), some (vI x1), some (vI x2), some (vI x3), some (vI (x4 + 1)), none, none, none, none] [] σ K) ∧ (s0 = (108 : Int32) → uc + 60 ≤ 6000 ∧ us + 400 ≤ 36000 ∧ Runs G mL_isFewest rL_isFewest [(vR x0), (vI x4), (vI (i2c x6))] σ (bk G mL_shelves rL_shelves (uc + 60) (us + 400) 450 [some (vR x0), some (vI x1), some (vI x2), some (vI x3), some (vI x4), some (vI x5), some (vI x6), none, none] [] K)))) : At G mL_shelves rL_shelves uc us 436 [some (vR x0), some (vI x1), some (vI x2), some (vI x3), some (vI x4), some (vI x5), some (vI x6), none, none] [(vI s0)] σ K := by
  refine s_bipush (v := 108) dL_shelves_436 (by decide) ?_
  refine s_icmp_ne (tgt := 455) dL_shelves_438 (by decide) (fun q1 => ?_) (fun q1 => ?_)
  · have h := h.1 q1
    refine s_iinc (v := x4 + 1) (L' := [some (vR x0), some (vI x1), some (vI x2), some (vI x3), some (vI (x4 + 1)), some (vI x5), some (vI x6), none, none]) dL_shelves_455 rfl rfl rfl (by decide) rfl ?_
    refine s_goto (tgt := 12) dL_shelves_458 (by decide) ?_
    exact h.msk ⟨rfl, ⟨rfl, ⟨rfl, ⟨rfl, ⟨rfl, trivial⟩⟩⟩⟩⟩
  · have h := h.2 q1
    refine s_aload_n (i := 0) dL_shelves_441 rfl rfl ?_
    refine s_iload dL_shelves_442 rfl ?_
    refine s_iload dL_shelves_444 rfl ?_
    refine s_i2c (v := i2c x6) dL_shelves_446 rfl ?_
    obtain ⟨u2, u3, h⟩ := h
    exact s_callS (as := [(vR x0), (vI x4), (vI (i2c x6))]) (S := []) gk dL_shelves_447 gL_262 w_983 rfl rfl (Nat.le_of_ble_eq_true rfl) ⟨by decide, by decide, u2, u3⟩ h
theorem vL_shelves_450 {G : GG} (gk : GOK G) {uc us : Nat} {σ : Mm} {K : RES → Mm → Prop} {x0 : Option Nat} {x1 : Int32} {x2 : Int32} {x3 : Int32} {x4 : Int32} {x5 : Int32} {x6 : Int32} {s0 : Int32}
    (h : ((¬ s0 = 0 → At G mL_shelves rL_shelves uc us 12 [some (vR x0), some (vI x1), some (vI x2), some (vI x3), some (vI (x4 + 1)), none, none, none, none] [] σ K) ∧ (s0 = 0 → uc ≤ 6000 ∧ us ≤ 36000 ∧ K (.inl (some (vI (0 : Int32)))) σ))) : At G mL_shelves rL_shelves uc us 450 [some (vR x0), some (vI x1), some (vI x2), some (vI x3), some (vI x4), some (vI x5), some (vI x6), none, none] [(vI s0)] σ K := by
  refine s_if_ne (tgt := 455) dL_shelves_450 (by decide) (fun q1 => ?_) (fun q1 => ?_)
  · have h := h.1 q1
    refine s_iinc (v := x4 + 1) (L' := [some (vR x0), some (vI x1), some (vI x2), some (vI x3), some (vI (x4 + 1)), some (vI x5), some (vI x6), none, none]) dL_shelves_455 rfl rfl rfl (by decide) rfl ?_
    refine s_goto (tgt := 12) dL_shelves_458 (by decide) ?_
    exact h.msk ⟨rfl, ⟨rfl, ⟨rfl, ⟨rfl, ⟨rfl, trivial⟩⟩⟩⟩⟩
  · have h := h.2 q1
    refine s_iconst (v := 0) dL_shelves_453 (by decide) ?_
    obtain ⟨u2, u3, h⟩ := h
    exact s_ireturn dL_shelves_454 rfl rfl u2 u3 h
theorem vL_shelves_469 {G : GG} (gk : GOK G) {uc us : Nat} {σ : Mm} {K : RES → Mm → Prop} {x0 : Option Nat} {x1 : Int32} {x2 : Int32} {x3 : Int32} {x4 : Int32} {s0 : UInt64}
    (h : vf_n64 (FP.ddiv (FP.i2d x3) (FP.i2d x2)) ∧ ((¬ (Op.cmpValue (FP.dcmp s0 (FP.ddiv (FP.i2d x3) (FP.i2d x2))) .l) = 0 → (((0 : Int32) = 0 → uc ≤ 6000 ∧ us ≤ 36000 ∧ K (.inl (some (vI (0 : Int32)))) σ) ∧ (¬ (0 : Int32) = 0 → ∃ a6, x0 = some a6 ∧ (mt σ a6).1 = 9 ∧ uc + 0 ≤ 6000 ∧ us + 0 ≤ 36000 ∧ Runs G mX8_isConsistent rX8_isConsistent [(vR x0)] σ (bk G mL_shelves rL_shelves (uc + 0) (us + 0) 494 [some (vR x0), some (vI x1), some (vI x2), some (vI x3), some (vI (0 : Int32)), none, none, none, none] [] K)))) ∧ ((Op.cmpValue (FP.dcmp s0 (FP.ddiv (FP.i2d x3) (FP.i2d x2))) .l) = 0 → (((1 : Int32) = 0 → uc ≤ 6000 ∧ us ≤ 36000 ∧ K (.inl (some (vI (0 : Int32)))) σ) ∧ (¬ (1 : Int32) = 0 → ∃ a13, x0 = some a13 ∧ (mt σ a13).1 = 9 ∧ uc + 0 ≤ 6000 ∧ us + 0 ≤ 36000 ∧ Runs G mX8_isConsistent rX8_isConsistent [(vR x0)] σ (bk G mL_shelves rL_shelves (uc + 0) (us + 0) 494 [some (vR x0), some (vI x1), some (vI x2), some (vI x3), some (vI (1 : Int32)), none, none, none, none] [] K)))))) : At G mL_shelves rL_shelves uc us 469 [some (vR x0), some (vI x1), some (vI x2), some (vI x3), some (vI x4), none, none, none, none] [(vD s0)] σ K := by
  refine s_iload_n (i := 3) dL_shelves_469 rfl rfl ?_
  refine s_i2d dL_shelves_470 ?_
  refine s_iload_n (i := 2) dL_shelves_471 rfl rfl ?_
  refine s_i2d dL_shelves_472 ?_
  obtain ⟨c1, h⟩ := h
  refine s_ddiv dL_shelves_473 c1 ?_
  refine s_dcmp dL_shelves_474 ?_
  refine s_if_ne (tgt := 482) dL_shelves_475 (by decide) (fun q2 => ?_) (fun q2 => ?_)
  · have h := h.1 q2
    refine s_iconst (v := 0) dL_shelves_482 (by decide) ?_
    refine s_istore (L' := [some (vR x0), some (vI x1), some (vI x2), some (vI x3), some (vI (0 : Int32)), none, none, none, none]) dL_shelves_483 rfl (by decide) rfl ?_
    refine s_iload dL_shelves_485 rfl ?_
    refine s_if_eq (tgt := 700) dL_shelves_487 (by decide) (fun q3 => ?_) (fun q3 => ?_)
    · have h := h.1 q3
      refine s_iconst (v := 0) dL_shelves_700 (by decide) ?_
      obtain ⟨u4, u5, h⟩ := h
      exact s_ireturn dL_shelves_701 rfl rfl u4 u5 h
    · have h := h.2 q3
      refine s_aload_n (i := 0) dL_shelves_490 rfl rfl ?_
      obtain ⟨a6, ea6, h⟩ := h
      obtain ⟨t7, h⟩ := h
      obtain ⟨u8, u9, h⟩ := h
      exact t_callV (rmY := rX8_isConsistent) (ci := 8) (as := []) (S := []) gk dL_shelves_491 gL_269 (by decide) rfl w_1010 w_1011 ea6 t7 rfl rfl (Nat.le_of_ble_eq_true rfl) ⟨by decide, by decide, u8, u9⟩ h
  · have h := h.2 q2
    refine s_iconst (v := 1) dL_shelves_478 (by decide) ?_
    refine s_goto (tgt := 483) dL_shelves_479 (by decide) ?_
    refine s_istore (L' := [some (vR x0), some (vI x1), some (vI x2), some (vI x3), some (vI (1 : Int32)), none, none, none, none]) dL_shelves_483 rfl (by decide) rfl ?_
    refine s_iload dL_shelves_485 rfl ?_
    refine s_if_eq (tgt := 700) dL_shelves_487 (by decide) (fun q10 => ?_) (fun q10 => ?_)
    · have h := h.1 q10
      refine s_iconst (v := 0) dL_shelves_700 (by decide) ?_
      obtain ⟨u11, u12, h⟩ := h
      exact s_ireturn dL_shelves_701 rfl rfl u11 u12 h
    · have h := h.2 q10
      refine s_aload_n (i := 0) dL_shelves_490 rfl rfl ?_
      obtain ⟨a13, ea13, h⟩ := h
      obtain ⟨t14, h⟩ := h
      obtain ⟨u15, u16, h⟩ := h
      exact t_callV (rmY := rX8_isConsistent) (ci := 8) (as := []) (S := []) gk dL_shelves_491 gL_269 (by decide) rfl w_1010 w_1011 ea13 t14 rfl rfl (Nat.le_of_ble_eq_true rfl) ⟨by decide, by decide, u15, u16⟩ h
theorem vL_shelves_494 {G : GG} (gk : GOK G) {uc us : Nat} {σ : Mm} {K : RES → Mm → Prop} {x0 : Option Nat} {x1 : Int32} {x2 : Int32} {x3 : Int32} {x4 : Int32} {s0 : Int32}
    (h : ((s0 = 0 → uc ≤ 6000 ∧ us ≤ 36000 ∧ K (.inl (some (vI (0 : Int32)))) σ) ∧ (¬ s0 = 0 → uc + 1 ≤ 6000 ∧ us + 6 ≤ 36000 ∧ RunsH G mL_capacityOf hL_capacityOf rL_capacityOf [(vR x0), (vI x1)] σ (bk G mL_shelves rL_shelves (uc + 1) (us + 6) 502 [some (vR x0), some (vI x1), some (vI x2), some (vI x3), some (vI x4), none, none, none, none] [] K)))) : At G mL_shelves rL_shelves uc us 494 [some (vR x0), some (vI x1), some (vI x2), some (vI x3), some (vI x4), none, none, none, none] [(vI s0)] σ K := by
  refine s_if_eq (tgt := 700) dL_shelves_494 (by decide) (fun q1 => ?_) (fun q1 => ?_)
  · have h := h.1 q1
    refine s_iconst (v := 0) dL_shelves_700 (by decide) ?_
    obtain ⟨u2, u3, h⟩ := h
    exact s_ireturn dL_shelves_701 rfl rfl u2 u3 h
  · have h := h.2 q1
    refine s_aload_n (i := 0) dL_shelves_497 rfl rfl ?_
    refine s_iload_n (i := 1) dL_shelves_498 rfl rfl ?_
    obtain ⟨u4, u5, h⟩ := h
    exact s_callSH (as := [(vR x0), (vI x1)]) (S := []) gk dL_shelves_499 (kL_capacityOf _ _ w_957) w_958 rfl rfl (Nat.le_of_ble_eq_true rfl) ⟨by decide, by decide, u4, u5⟩ h
theorem vL_shelves_502 {G : GG} (gk : GOK G) {uc us : Nat} {σ : Mm} {K : RES → Mm → Prop} {x0 : Option Nat} {x1 : Int32} {x2 : Int32} {x3 : Int32} {x4 : Int32} {s0 : Int32}
    (h : ((¬ s0 = (-11 : Int32) → uc ≤ 6000 ∧ us ≤ 36000 ∧ K (.inl (some (vI (0 : Int32)))) σ) ∧ (s0 = (-11 : Int32) → uc + 1 ≤ 6000 ∧ us + 6 ≤ 36000 ∧ RunsH G mL_lifetimeOf hL_lifetimeOf rL_lifetimeOf [(vR x0), (vI x1)] σ (bk G mL_shelves rL_shelves (uc + 1) (us + 6) 512 [some (vR x0), some (vI x1), some (vI x2), some (vI x3), some (vI x4), none, none, none, none] [] K)))) : At G mL_shelves rL_shelves uc us 502 [some (vR x0), some (vI x1), some (vI x2), some (vI x3), some (vI x4), none, none, none, none] [(vI s0)] σ K := by
  refine s_bipush (v := -11) dL_shelves_502 (by decide) ?_
  refine s_icmp_ne (tgt := 700) dL_shelves_504 (by decide) (fun q1 => ?_) (fun q1 => ?_)
  · have h := h.1 q1
    refine s_iconst (v := 0) dL_shelves_700 (by decide) ?_
    obtain ⟨u2, u3, h⟩ := h
    exact s_ireturn dL_shelves_701 rfl rfl u2 u3 h
  · have h := h.2 q1
    refine s_aload_n (i := 0) dL_shelves_507 rfl rfl ?_
    refine s_iload_n (i := 1) dL_shelves_508 rfl rfl ?_
    obtain ⟨u4, u5, h⟩ := h
    exact s_callSH (as := [(vR x0), (vI x1)]) (S := []) gk dL_shelves_509 (kL_lifetimeOf _ _ w_902) w_903 rfl rfl (Nat.le_of_ble_eq_true rfl) ⟨by decide, by decide, u4, u5⟩ h
theorem vL_shelves_512 {G : GG} (gk : GOK G) {uc us : Nat} {σ : Mm} {K : RES → Mm → Prop} {x0 : Option Nat} {x1 : Int32} {x2 : Int32} {x3 : Int32} {x4 : Int32} {s0 : Int32}
    (h : ((¬ s0 = (-11 : Int32) → uc ≤ 6000 ∧ us ≤ 36000 ∧ K (.inl (some (vI (0 : Int32)))) σ) ∧ (s0 = (-11 : Int32) → uc + 1 ≤ 6000 ∧ us + 6 ≤ 36000 ∧ RunsH G mL_policyOf hL_policyOf rL_policyOf [(vR x0), (vI x1)] σ (bk G mL_shelves rL_shelves (uc + 1) (us + 6) 522 [some (vR x0), some (vI x1), some (vI x2), some (vI x3), some (vI x4), none, none, none, none] [] K)))) : At G mL_shelves rL_shelves uc us 512 [some (vR x0), some (vI x1), some (vI x2), some (vI x3), some (vI x4), none, none, none, none] [(vI s0)] σ K := by
  refine s_bipush (v := -11) dL_shelves_512 (by decide) ?_
  refine s_icmp_ne (tgt := 700) dL_shelves_514 (by decide) (fun q1 => ?_) (fun q1 => ?_)
  · have h := h.1 q1
    refine s_iconst (v := 0) dL_shelves_700 (by decide) ?_
    obtain ⟨u2, u3, h⟩ := h
    exact s_ireturn dL_shelves_701 rfl rfl u2 u3 h
  · have h := h.2 q1
    refine s_aload_n (i := 0) dL_shelves_517 rfl rfl ?_
    refine s_iload_n (i := 1) dL_shelves_518 rfl rfl ?_
    obtain ⟨u4, u5, h⟩ := h
    exact s_callSH (as := [(vR x0), (vI x1)]) (S := []) gk dL_shelves_519 (kL_policyOf _ _ w_975) w_976 rfl rfl (Nat.le_of_ble_eq_true rfl) ⟨by decide, by decide, u4, u5⟩ h
theorem vL_shelves_522 {G : GG} (gk : GOK G) {uc us : Nat} {σ : Mm} {K : RES → Mm → Prop} {x0 : Option Nat} {x1 : Int32} {x2 : Int32} {x3 : Int32} {x4 : Int32} {s0 : Int32}
    (h : ((¬ s0 = (-11 : Int32) → uc ≤ 6000 ∧ us ≤ 36000 ∧ K (.inl (some (vI (0 : Int32)))) σ) ∧ (s0 = (-11 : Int32) → uc + 1 ≤ 6000 ∧ us + 6 ≤ 36000 ∧ RunsH G mL_isListening hL_isListening rL_isListening [(vR x0), (vI (-1 : Int32))] σ (bk G mL_shelves rL_shelves (uc + 1) (us + 6) 532 [some (vR x0), some (vI x1), some (vI x2), some (vI x3), some (vI x4), none, none, none, none] [] K)))) : At G mL_shelves rL_shelves uc us 522 [some (vR x0), some (vI x1), some (vI x2), some (vI x3), some (vI x4), none, none, none, none] [(vI s0)] σ K := by
  refine s_bipush (v := -11) dL_shelves_522 (by decide) ?_
  refine s_icmp_ne (tgt := 700) dL_shelves_524 (by decide) (fun q1 => ?_) (fun q1 => ?_)
  · have h := h.1 q1
    refine s_iconst (v := 0) dL_shelves_700 (by decide) ?_
    obtain ⟨u2, u3, h⟩ := h
    exact s_ireturn dL_shelves_701 rfl rfl u2 u3 h
  · have h := h.2 q1
    refine s_aload_n (i := 0) dL_shelves_527 rfl rfl ?_
    refine s_iconst (v := -1) dL_shelves_528 (by decide) ?_
    obtain ⟨u4, u5, h⟩ := h
    exact s_callSH (as := [(vR x0), (vI (-1 : Int32))]) (S := []) gk dL_shelves_529 (kL_isListening _ _ w_1019) w_1020 rfl rfl (Nat.le_of_ble_eq_true rfl) ⟨by decide, by decide, u4, u5⟩ h
theorem vL_shelves_532 {G : GG} (gk : GOK G) {uc us : Nat} {σ : Mm} {K : RES → Mm → Prop} {x0 : Option Nat} {x1 : Int32} {x2 : Int32} {x3 : Int32} {x4 : Int32} {s0 : Int32}
    (h : ((¬ s0 = (-11 : Int32) → uc ≤ 6000 ∧ us ≤ 36000 ∧ K (.inl (some (vI (0 : Int32)))) σ) ∧ (s0 = (-11 : Int32) → uc + 1 ≤ 6000 ∧ us + 6 ≤ 36000 ∧ RunsH G mL_echoCount hL_echoCount rL_echoCount [(vR x0), (vI x1)] σ (bk G mL_shelves rL_shelves (uc + 1) (us + 6) 542 [some (vR x0), some (vI x1), some (vI x2), some (vI x3), some (vI x4), none, none, none, none] [] K)))) : At G mL_shelves rL_shelves uc us 532 [some (vR x0), some (vI x1), some (vI x2), some (vI x3), some (vI x4), none, none, none, none] [(vI s0)] σ K := by
  refine s_bipush (v := -11) dL_shelves_532 (by decide) ?_
  refine s_icmp_ne (tgt := 700) dL_shelves_534 (by decide) (fun q1 => ?_) (fun q1 => ?_)
  · have h := h.1 q1
    refine s_iconst (v := 0) dL_shelves_700 (by decide) ?_
    obtain ⟨u2, u3, h⟩ := h
    exact s_ireturn dL_shelves_701 rfl rfl u2 u3 h
  · have h := h.2 q1
    refine s_aload_n (i := 0) dL_shelves_537 rfl rfl ?_
    refine s_iload_n (i := 1) dL_shelves_538 rfl rfl ?_
    obtain ⟨u4, u5, h⟩ := h
    exact s_callSH (as := [(vR x0), (vI x1)]) (S := []) gk dL_shelves_539 (kL_echoCount _ _ w_949) w_950 rfl rfl (Nat.le_of_ble_eq_true rfl) ⟨by decide, by decide, u4, u5⟩ h
theorem vL_shelves_542 {G : GG} (gk : GOK G) {uc us : Nat} {σ : Mm} {K : RES → Mm → Prop} {x0 : Option Nat} {x1 : Int32} {x2 : Int32} {x3 : Int32} {x4 : Int32} {s0 : Int32}
    (h : ((¬ s0 = (-11 : Int32) → uc ≤ 6000 ∧ us ≤ 36000 ∧ K (.inl (some (vI (0 : Int32)))) σ) ∧ (s0 = (-11 : Int32) → uc + 2 ≤ 6000 ∧ us + 12 ≤ 36000 ∧ RunsH G mL_echoAt hL_echoAt rL_echoAt [(vR x0), (vI x1), (vI (0 : Int32))] σ (bk G mL_shelves rL_shelves (uc + 2) (us + 12) 553 [some (vR x0), some (vI x1), some (vI x2), some (vI x3), some (vI x4), none, none, none, none] [] K)))) : At G mL_shelves rL_shelves uc us 542 [some (vR x0), some (vI x1), some (vI x2), some (vI x3), some (vI x4), none, none, none, none] [(vI s0)] σ K := by
  refine s_bipush (v := -11) dL_shelves_542 (by decide) ?_
  refine s_icmp_ne (tgt := 700) dL_shelves_544 (by decide) (fun q1 => ?_) (fun q1 => ?_)
  · have h := h.1 q1
    refine s_iconst (v := 0) dL_shelves_700 (by decide) ?_
    obtain ⟨u2, u3, h⟩ := h
    exact s_ireturn dL_shelves_701 rfl rfl u2 u3 h
  · have h := h.2 q1
    refine s_aload_n (i := 0) dL_shelves_547 rfl rfl ?_
    refine s_iload_n (i := 1) dL_shelves_548 rfl rfl ?_
    refine s_iconst (v := 0) dL_shelves_549 (by decide) ?_
    obtain ⟨u4, u5, h⟩ := h
    exact s_callSH (as := [(vR x0), (vI x1), (vI (0 : Int32))]) (S := []) gk dL_shelves_550 (kL_echoAt _ _ w_876) w_877 rfl rfl (Nat.le_of_ble_eq_true rfl) ⟨by decide, by decide, u4, u5⟩ h
theorem vL_shelves_553 {G : GG} (gk : GOK G) {uc us : Nat} {σ : Mm} {K : RES → Mm → Prop} {x0 : Option Nat} {x1 : Int32} {x2 : Int32} {x3 : Int32} {x4 : Int32} {s0 : Int32}
    (h : ((¬ s0 = (-11 : Int32) → uc ≤ 6000 ∧ us ≤ 36000 ∧ K (.inl (some (vI (0 : Int32)))) σ) ∧ (s0 = (-11 : Int32) → uc + 1 ≤ 6000 ∧ us + 6 ≤ 36000 ∧ RunsH G mL_hasEcho hL_hasEcho rL_hasEcho [(vR x0), (vI x1), (vI (97 : Int32))] σ (bk G mL_shelves rL_shelves (uc + 1) (us + 6) 565 [some (vR x0), some (vI x1), some (vI x2), some (vI x3), some (vI x4), none, none, none, none] [] K)))) : At G mL_shelves rL_shelves uc us 553 [some (vR x0), some (vI x1), some (vI x2), some (vI x3), some (vI x4), none, none, none, none] [(vI s0)] σ K := by
  refine s_bipush (v := -11) dL_shelves_553 (by decide) ?_
  refine s_icmp_ne (tgt := 700) dL_shelves_555 (by decide) (fun q1 => ?_) (fun q1 => ?_)
  · have h := h.1 q1
    refine s_iconst (v := 0) dL_shelves_700 (by decide) ?_
    obtain ⟨u2, u3, h⟩ := h
    exact s_ireturn dL_shelves_701 rfl rfl u2 u3 h
  · have h := h.2 q1
    refine s_aload_n (i := 0) dL_shelves_558 rfl rfl ?_
    refine s_iload_n (i := 1) dL_shelves_559 rfl rfl ?_
    refine s_bipush (v := 97) dL_shelves_560 (by decide) ?_
    obtain ⟨u4, u5, h⟩ := h
    exact s_callSH (as := [(vR x0), (vI x1), (vI (97 : Int32))]) (S := []) gk dL_shelves_562 (kL_hasEcho _ _ w_834) w_835 rfl rfl (Nat.le_of_ble_eq_true rfl) ⟨by decide, by decide, u4, u5⟩ h
theorem vL_shelves_565 {G : GG} (gk : GOK G) {uc us : Nat} {σ : Mm} {K : RES → Mm → Prop} {x0 : Option Nat} {x1 : Int32} {x2 : Int32} {x3 : Int32} {x4 : Int32} {s0 : Int32}
    (h : ((¬ s0 = (-11 : Int32) → uc ≤ 6000 ∧ us ≤ 36000 ∧ K (.inl (some (vI (0 : Int32)))) σ) ∧ (s0 = (-11 : Int32) → uc + 2 ≤ 6000 ∧ us + 12 ≤ 36000 ∧ RunsH G mL_echoOf hL_echoOf rL_echoOf [(vR x0), (vI x1), (vI (97 : Int32))] σ (bk G mL_shelves rL_shelves (uc + 2) (us + 12) 577 [some (vR x0), some (vI x1), some (vI x2), some (vI x3), some (vI x4), none, none, none, none] [] K)))) : At G mL_shelves rL_shelves uc us 565 [some (vR x0), some (vI x1), some (vI x2), some (vI x3), some (vI x4), none, none, none, none] [(vI s0)] σ K := by
  refine s_bipush (v := -11) dL_shelves_565 (by decide) ?_
  refine s_icmp_ne (tgt := 700) dL_shelves_567 (by decide) (fun q1 => ?_) (fun q1 => ?_)
  · have h := h.1 q1
    refine s_iconst (v := 0) dL_shelves_700 (by decide) ?_
    obtain ⟨u2, u3, h⟩ := h
    exact s_ireturn dL_shelves_701 rfl rfl u2 u3 h
  · have h := h.2 q1
    refine s_aload_n (i := 0) dL_shelves_570 rfl rfl ?_
    refine s_iload_n (i := 1) dL_shelves_571 rfl rfl ?_
    refine s_bipush (v := 97) dL_shelves_572 (by decide) ?_
    obtain ⟨u4, u5, h⟩ := h
    exact s_callSH (as := [(vR x0), (vI x1), (vI (97 : Int32))]) (S := []) gk dL_shelves_574 (kL_echoOf _ _ w_842) w_843 rfl rfl (Nat.le_of_ble_eq_true rfl) ⟨by decide, by decide, u4, u5⟩ h
theorem vL_shelves_577 {G : GG} (gk : GOK G) {uc us : Nat} {σ : Mm} {K : RES → Mm → Prop} {x0 : Option Nat} {x1 : Int32} {x2 : Int32} {x3 : Int32} {x4 : Int32} {s0 : Int32}
    (h : ((¬ s0 = (-11 : Int32) → uc ≤ 6000 ∧ us ≤ 36000 ∧ K (.inl (some (vI (0 : Int32)))) σ) ∧ (s0 = (-11 : Int32) → uc + 2 ≤ 6000 ∧ us + 12 ≤ 36000 ∧ RunsH G mL_ageOf hL_ageOf rL_ageOf [(vR x0), (vI x1), (vI (97 : Int32))] σ (bk G mL_shelves rL_shelves (uc + 2) (us + 12) 589 [some (vR x0), some (vI x1), some (vI x2), some (vI x3), some (vI x4), none, none, none, none] [] K)))) : At G mL_shelves rL_shelves uc us 577 [some (vR x0), some (vI x1), some (vI x2), some (vI x3), some (vI x4), none, none, none, none] [(vI s0)] σ K := by
  refine s_bipush (v := -11) dL_shelves_577 (by decide) ?_
  refine s_icmp_ne (tgt := 700) dL_shelves_579 (by decide) (fun q1 => ?_) (fun q1 => ?_)
  · have h := h.1 q1
    refine s_iconst (v := 0) dL_shelves_700 (by decide) ?_
    obtain ⟨u2, u3, h⟩ := h
    exact s_ireturn dL_shelves_701 rfl rfl u2 u3 h
  · have h := h.2 q1
    refine s_aload_n (i := 0) dL_shelves_582 rfl rfl ?_
    refine s_iload_n (i := 1) dL_shelves_583 rfl rfl ?_
    refine s_bipush (v := 97) dL_shelves_584 (by decide) ?_
    obtain ⟨u4, u5, h⟩ := h
    exact s_callSH (as := [(vR x0), (vI x1), (vI (97 : Int32))]) (S := []) gk dL_shelves_586 (kL_ageOf _ _ w_854) w_855 rfl rfl (Nat.le_of_ble_eq_true rfl) ⟨by decide, by decide, u4, u5⟩ h
theorem vL_shelves_589 {G : GG} (gk : GOK G) {uc us : Nat} {σ : Mm} {K : RES → Mm → Prop} {x0 : Option Nat} {x1 : Int32} {x2 : Int32} {x3 : Int32} {x4 : Int32} {s0 : Int32}
    (h : ((¬ s0 = (-11 : Int32) → uc ≤ 6000 ∧ us ≤ 36000 ∧ K (.inl (some (vI (0 : Int32)))) σ) ∧ (s0 = (-11 : Int32) → uc + 2 ≤ 6000 ∧ us + 12 ≤ 36000 ∧ RunsH G mL_hitsOf hL_hitsOf rL_hitsOf [(vR x0), (vI x1), (vI (97 : Int32))] σ (bk G mL_shelves rL_shelves (uc + 2) (us + 12) 601 [some (vR x0), some (vI x1), some (vI x2), some (vI x3), some (vI x4), none, none, none, none] [] K)))) : At G mL_shelves rL_shelves uc us 589 [some (vR x0), some (vI x1), some (vI x2), some (vI x3), some (vI x4), none, none, none, none] [(vI s0)] σ K := by
  refine s_bipush (v := -11) dL_shelves_589 (by decide) ?_
  refine s_icmp_ne (tgt := 700) dL_shelves_591 (by decide) (fun q1 => ?_) (fun q1 => ?_)
  · have h := h.1 q1
    refine s_iconst (v := 0) dL_shelves_700 (by decide) ?_
    obtain ⟨u2, u3, h⟩ := h
    exact s_ireturn dL_shelves_701 rfl rfl u2 u3 h
  · have h := h.2 q1
    refine s_aload_n (i := 0) dL_shelves_594 rfl rfl ?_
    refine s_iload_n (i := 1) dL_shelves_595 rfl rfl ?_
    refine s_bipush (v := 97) dL_shelves_596 (by decide) ?_
    obtain ⟨u4, u5, h⟩ := h
    exact s_callSH (as := [(vR x0), (vI x1), (vI (97 : Int32))]) (S := []) gk dL_shelves_598 (kL_hitsOf _ _ w_862) w_863 rfl rfl (Nat.le_of_ble_eq_true rfl) ⟨by decide, by decide, u4, u5⟩ h
theorem vL_shelves_601 {G : GG} (gk : GOK G) {uc us : Nat} {σ : Mm} {K : RES → Mm → Prop} {x0 : Option Nat} {x1 : Int32} {x2 : Int32} {x3 : Int32} {x4 : Int32} {s0 : Int32}
    (h : ((¬ s0 = (-11 : Int32) → uc ≤ 6000 ∧ us ≤ 36000 ∧ K (.inl (some (vI (0 : Int32)))) σ) ∧ (s0 = (-11 : Int32) → uc + 3 ≤ 6000 ∧ us + 18 ≤ 36000 ∧ RunsH G mL_isExpired hL_isExpired rL_isExpired [(vR x0), (vI x1), (vI (97 : Int32))] σ (bk G mL_shelves rL_shelves (uc + 3) (us + 18) 613 [some (vR x0), some (vI x1), some (vI x2), some (vI x3), some (vI x4), none, none, none, none] [] K)))) : At G mL_shelves rL_shelves uc us 601 [some (vR x0), some (vI x1), some (vI x2), some (vI x3), some (vI x4), none, none, none, none] [(vI s0)] σ K := by
  refine s_bipush (v := -11) dL_shelves_601 (by decide) ?_
  refine s_icmp_ne (tgt := 700) dL_shelves_603 (by decide) (fun q1 => ?_) (fun q1 => ?_)
  · have h := h.1 q1
    refine s_iconst (v := 0) dL_shelves_700 (by decide) ?_
    obtain ⟨u2, u3, h⟩ := h
    exact s_ireturn dL_shelves_701 rfl rfl u2 u3 h
  · have h := h.2 q1
    refine s_aload_n (i := 0) dL_shelves_606 rfl rfl ?_
    refine s_iload_n (i := 1) dL_shelves_607 rfl rfl ?_
    refine s_bipush (v := 97) dL_shelves_608 (by decide) ?_
    obtain ⟨u4, u5, h⟩ := h
    exact s_callSH (as := [(vR x0), (vI x1), (vI (97 : Int32))]) (S := []) gk dL_shelves_610 (kL_isExpired _ _ w_920) w_921 rfl rfl (Nat.le_of_ble_eq_true rfl) ⟨by decide, by decide, u4, u5⟩ h
theorem vL_shelves_613 {G : GG} (gk : GOK G) {uc us : Nat} {σ : Mm} {K : RES → Mm → Prop} {x0 : Option Nat} {x1 : Int32} {x2 : Int32} {x3 : Int32} {x4 : Int32} {s0 : Int32}
    (h : ((¬ s0 = (-11 : Int32) → uc ≤ 6000 ∧ us ≤ 36000 ∧ K (.inl (some (vI (0 : Int32)))) σ) ∧ (s0 = (-11 : Int32) → uc + 2 ≤ 6000 ∧ us + 12 ≤ 36000 ∧ RunsH G mL_isOpen hL_isOpen rL_isOpen [(vR x0), (vI x1), (vI (97 : Int32))] σ (bk G mL_shelves rL_shelves (uc + 2) (us + 12) 625 [some (vR x0), some (vI x1), some (vI x2), some (vI x3), some (vI x4), none, none, none, none] [] K)))) : At G mL_shelves rL_shelves uc us 613 [some (vR x0), some (vI x1), some (vI x2), some (vI x3), some (vI x4), none, none, none, none] [(vI s0)] σ K := by
  refine s_bipush (v := -11) dL_shelves_613 (by decide) ?_
  refine s_icmp_ne (tgt := 700) dL_shelves_615 (by decide) (fun q1 => ?_) (fun q1 => ?_)
  · have h := h.1 q1
    refine s_iconst (v := 0) dL_shelves_700 (by decide) ?_
    obtain ⟨u2, u3, h⟩ := h
    exact s_ireturn dL_shelves_701 rfl rfl u2 u3 h
  · have h := h.2 q1
    refine s_aload_n (i := 0) dL_shelves_618 rfl rfl ?_
    refine s_iload_n (i := 1) dL_shelves_619 rfl rfl ?_
    refine s_bipush (v := 97) dL_shelves_620 (by decide) ?_
    obtain ⟨u4, u5, h⟩ := h
    exact s_callSH (as := [(vR x0), (vI x1), (vI (97 : Int32))]) (S := []) gk dL_shelves_622 (kL_isOpen _ _ w_869) w_870 rfl rfl (Nat.le_of_ble_eq_true rfl) ⟨by decide, by decide, u4, u5⟩ h
theorem vL_shelves_625 {G : GG} (gk : GOK G) {uc us : Nat} {σ : Mm} {K : RES → Mm → Prop} {x0 : Option Nat} {x1 : Int32} {x2 : Int32} {x3 : Int32} {x4 : Int32} {s0 : Int32}
    (h : ((¬ s0 = (-11 : Int32) → uc ≤ 6000 ∧ us ≤ 36000 ∧ K (.inl (some (vI (0 : Int32)))) σ) ∧ (s0 = (-11 : Int32) → uc + 2 ≤ 6000 ∧ us + 12 ≤ 36000 ∧ RunsH G mL_isTrue hL_isTrue rL_isTrue [(vR x0), (vI x1), (vI (97 : Int32))] σ (bk G mL_shelves rL_shelves (uc + 2) (us + 12) 637 [some (vR x0), some (vI x1), some (vI x2), some (vI x3), some (vI x4), none, none, none, none] [] K)))) : At G mL_shelves rL_shelves uc us 625 [some (vR x0), some (vI x1), some (vI x2), some (vI x3), some (vI x4), none, none, none, none] [(vI s0)] σ K := by
  refine s_bipush (v := -11) dL_shelves_625 (by decide) ?_
  refine s_icmp_ne (tgt := 700) dL_shelves_627 (by decide) (fun q1 => ?_) (fun q1 => ?_)
  · have h := h.1 q1
    refine s_iconst (v := 0) dL_shelves_700 (by decide) ?_
    obtain ⟨u2, u3, h⟩ := h
    exact s_ireturn dL_shelves_701 rfl rfl u2 u3 h
  · have h := h.2 q1
    refine s_aload_n (i := 0) dL_shelves_630 rfl rfl ?_
    refine s_iload_n (i := 1) dL_shelves_631 rfl rfl ?_
    refine s_bipush (v := 97) dL_shelves_632 (by decide) ?_
    obtain ⟨u4, u5, h⟩ := h
    exact s_callSH (as := [(vR x0), (vI x1), (vI (97 : Int32))]) (S := []) gk dL_shelves_634 (kL_isTrue _ _ w_891) w_892 rfl rfl (Nat.le_of_ble_eq_true rfl) ⟨by decide, by decide, u4, u5⟩ h
theorem vL_shelves_637 {G : GG} (gk : GOK G) {uc us : Nat} {σ : Mm} {K : RES → Mm → Prop} {x0 : Option Nat} {x1 : Int32} {x2 : Int32} {x3 : Int32} {x4 : Int32} {s0 : Int32}
    (h : ((¬ s0 = (-11 : Int32) → uc ≤ 6000 ∧ us ≤ 36000 ∧ K (.inl (some (vI (0 : Int32)))) σ) ∧ (s0 = (-11 : Int32) → uc + 2 ≤ 6000 ∧ us + 12 ≤ 36000 ∧ RunsH G mL_bySteps hL_bySteps rL_bySteps [(vR x0), (vI x1), (vI (97 : Int32))] σ (bk G mL_shelves rL_shelves (uc + 2) (us + 12) 649 [some (vR x0), some (vI x1), some (vI x2), some (vI x3), some (vI x4), none, none, none, none] [] K)))) : At G mL_shelves rL_shelves uc us 637 [some (vR x0), some (vI x1), some (vI x2), some (vI x3), some (vI x4), none, none, none, none] [(vI s0)] σ K := by
  refine s_bipush (v := -11) dL_shelves_637 (by decide) ?_
  refine s_icmp_ne (tgt := 700) dL_shelves_639 (by decide) (fun q1 => ?_) (fun q1 => ?_)
  · have h := h.1 q1
    refine s_iconst (v := 0) dL_shelves_700 (by decide) ?_
    obtain ⟨u2, u3, h⟩ := h
    exact s_ireturn dL_shelves_701 rfl rfl u2 u3 h
  · have h := h.2 q1
    refine s_aload_n (i := 0) dL_shelves_642 rfl rfl ?_
    refine s_iload_n (i := 1) dL_shelves_643 rfl rfl ?_
    refine s_bipush (v := 97) dL_shelves_644 (by decide) ?_
    obtain ⟨u4, u5, h⟩ := h
    exact s_callSH (as := [(vR x0), (vI x1), (vI (97 : Int32))]) (S := []) gk dL_shelves_646 (kL_bySteps _ _ w_909) w_910 rfl rfl (Nat.le_of_ble_eq_true rfl) ⟨by decide, by decide, u4, u5⟩ h
theorem vL_shelves_649 {G : GG} (gk : GOK G) {uc us : Nat} {σ : Mm} {K : RES → Mm → Prop} {x0 : Option Nat} {x1 : Int32} {x2 : Int32} {x3 : Int32} {x4 : Int32} {s0 : Int32}
    (h : ((¬ s0 = (-11 : Int32) → uc ≤ 6000 ∧ us ≤ 36000 ∧ K (.inl (some (vI (0 : Int32)))) σ) ∧ (s0 = (-11 : Int32) → uc + 2 ≤ 6000 ∧ us + 12 ≤ 36000 ∧ RunsH G mL_victimOf hL_victimOf rL_victimOf [(vR x0), (vI x1)] σ (bk G mL_shelves rL_shelves (uc + 2) (us + 12) 659 [some (vR x0), some (vI x1), some (vI x2), some (vI x3), some (vI x4), none, none, none, none] [] K)))) : At G mL_shelves rL_shelves uc us 649 [some (vR x0), some (vI x1), some (vI x2), some (vI x3), some (vI x4), none, none, none, none] [(vI s0)] σ K := by
  refine s_bipush (v := -11) dL_shelves_649 (by decide) ?_
  refine s_icmp_ne (tgt := 700) dL_shelves_651 (by decide) (fun q1 => ?_) (fun q1 => ?_)
  · have h := h.1 q1
    refine s_iconst (v := 0) dL_shelves_700 (by decide) ?_
    obtain ⟨u2, u3, h⟩ := h
    exact s_ireturn dL_shelves_701 rfl rfl u2 u3 h
  · have h := h.2 q1
    refine s_aload_n (i := 0) dL_shelves_654 rfl rfl ?_
    refine s_iload_n (i := 1) dL_shelves_655 rfl rfl ?_
    obtain ⟨u4, u5, h⟩ := h
    exact s_callSH (as := [(vR x0), (vI x1)]) (S := []) gk dL_shelves_656 (kL_victimOf _ _ w_940) w_941 rfl rfl (Nat.le_of_ble_eq_true rfl) ⟨by decide, by decide, u4, u5⟩ h
theorem vL_shelves_659 {G : GG} (gk : GOK G) {uc us : Nat} {σ : Mm} {K : RES → Mm → Prop} {x0 : Option Nat} {x1 : Int32} {x2 : Int32} {x3 : Int32} {x4 : Int32} {s0 : Int32}
    (h : ((¬ s0 = (-11 : Int32) → uc ≤ 6000 ∧ us ≤ 36000 ∧ K (.inl (some (vI (0 : Int32)))) σ) ∧ (s0 = (-11 : Int32) → uc + 2 ≤ 6000 ∧ us + 12 ≤ 36000 ∧ RunsH G mL_byScan hL_byScan rL_byScan [(vR x0), (vI x1)] σ (bk G mL_shelves rL_shelves (uc + 2) (us + 12) 669 [some (vR x0), some (vI x1), some (vI x2), some (vI x3), some (vI x4), none, none, none, none] [] K)))) : At G mL_shelves rL_shelves uc us 659 [some (vR x0), some (vI x1), some (vI x2), some (vI x3), some (vI x4), none, none, none, none] [(vI s0)] σ K := by
  refine s_bipush (v := -11) dL_shelves_659 (by decide) ?_
  refine s_icmp_ne (tgt := 700) dL_shelves_661 (by decide) (fun q1 => ?_) (fun q1 => ?_)
  · have h := h.1 q1
    refine s_iconst (v := 0) dL_shelves_700 (by decide) ?_
    obtain ⟨u2, u3, h⟩ := h
    exact s_ireturn dL_shelves_701 rfl rfl u2 u3 h
  · have h := h.2 q1
    refine s_aload_n (i := 0) dL_shelves_664 rfl rfl ?_
    refine s_iload_n (i := 1) dL_shelves_665 rfl rfl ?_
    obtain ⟨u4, u5, h⟩ := h
    exact s_callSH (as := [(vR x0), (vI x1)]) (S := []) gk dL_shelves_666 (kL_byScan _ _ w_964) w_965 rfl rfl (Nat.le_of_ble_eq_true rfl) ⟨by decide, by decide, u4, u5⟩ h
theorem vL_shelves_669 {G : GG} (gk : GOK G) {uc us : Nat} {σ : Mm} {K : RES → Mm → Prop} {x0 : Option Nat} {x1 : Int32} {x2 : Int32} {x3 : Int32} {x4 : Int32} {s0 : Int32}
    (h : ((¬ s0 = (-11 : Int32) → uc ≤ 6000 ∧ us ≤ 36000 ∧ K (.inl (some (vI (0 : Int32)))) σ) ∧ (s0 = (-11 : Int32) → uc + 2 ≤ 6000 ∧ us + 12 ≤ 36000 ∧ RunsH G mL_outcome hL_outcome rL_outcome [(vR x0), (vI x1), (vI (97 : Int32))] σ (bk G mL_shelves rL_shelves (uc + 2) (us + 12) 681 [some (vR x0), some (vI x1), some (vI x2), some (vI x3), some (vI x4), none, none, none, none] [] K)))) : At G mL_shelves rL_shelves uc us 669 [some (vR x0), some (vI x1), some (vI x2), some (vI x3), some (vI x4), none, none, none, none] [(vI s0)] σ K := by
  refine s_bipush (v := -11) dL_shelves_669 (by decide) ?_
  refine s_icmp_ne (tgt := 700) dL_shelves_671 (by decide) (fun q1 => ?_) (fun q1 => ?_)
  · have h := h.1 q1
    refine s_iconst (v := 0) dL_shelves_700 (by decide) ?_
    obtain ⟨u2, u3, h⟩ := h
    exact s_ireturn dL_shelves_701 rfl rfl u2 u3 h
  · have h := h.2 q1
    refine s_aload_n (i := 0) dL_shelves_674 rfl rfl ?_
    refine s_iload_n (i := 1) dL_shelves_675 rfl rfl ?_
    refine s_bipush (v := 97) dL_shelves_676 (by decide) ?_
    obtain ⟨u4, u5, h⟩ := h
    exact s_callSH (as := [(vR x0), (vI x1), (vI (97 : Int32))]) (S := []) gk dL_shelves_678 (kL_outcome _ _ w_932) w_933 rfl rfl (Nat.le_of_ble_eq_true rfl) ⟨by decide, by decide, u4, u5⟩ h
theorem vL_shelves_681 {G : GG} (gk : GOK G) {uc us : Nat} {σ : Mm} {K : RES → Mm → Prop} {x0 : Option Nat} {x1 : Int32} {x2 : Int32} {x3 : Int32} {x4 : Int32} {s0 : Int32}
    (h : ((¬ s0 = (-11 : Int32) → uc ≤ 6000 ∧ us ≤ 36000 ∧ K (.inl (some (vI (0 : Int32)))) σ) ∧ (s0 = (-11 : Int32) → uc + 1 ≤ 6000 ∧ us + 6 ≤ 36000 ∧ RunsH G mL_hasEcho hL_hasEcho rL_hasEcho [(vR x0), (vI (0 : Int32)), (vI (63 : Int32))] σ (bk G mL_shelves rL_shelves (uc + 1) (us + 6) 693 [some (vR x0), some (vI x1), some (vI x2), some (vI x3), some (vI x4), none, none, none, none] [] K)))) : At G mL_shelves rL_shelves uc us 681 [some (vR x0), some (vI x1), some (vI x2), some (vI x3), some (vI x4), none, none, none, none] [(vI s0)] σ K := by
  refine s_bipush (v := -11) dL_shelves_681 (by decide) ?_
  refine s_icmp_ne (tgt := 700) dL_shelves_683 (by decide) (fun q1 => ?_) (fun q1 => ?_)
  · have h := h.1 q1
    refine s_iconst (v := 0) dL_shelves_700 (by decide) ?_
    obtain ⟨u2, u3, h⟩ := h
    exact s_ireturn dL_shelves_701 rfl rfl u2 u3 h
  · have h := h.2 q1
    refine s_aload_n (i := 0) dL_shelves_686 rfl rfl ?_
    refine s_iconst (v := 0) dL_shelves_687 (by decide) ?_
    refine s_bipush (v := 63) dL_shelves_688 (by decide) ?_
    obtain ⟨u4, u5, h⟩ := h
    exact s_callSH (as := [(vR x0), (vI (0 : Int32)), (vI (63 : Int32))]) (S := []) gk dL_shelves_690 (kL_hasEcho _ _ w_834) w_835 rfl rfl (Nat.le_of_ble_eq_true rfl) ⟨by decide, by decide, u4, u5⟩ h
theorem vL_shelves_693 {G : GG} (gk : GOK G) {uc us : Nat} {σ : Mm} {K : RES → Mm → Prop} {x0 : Option Nat} {x1 : Int32} {x2 : Int32} {x3 : Int32} {x4 : Int32} {s0 : Int32}
    (h : ((¬ s0 = 0 → uc ≤ 6000 ∧ us ≤ 36000 ∧ K (.inl (some (vI (0 : Int32)))) σ) ∧ (s0 = 0 → uc ≤ 6000 ∧ us ≤ 36000 ∧ K (.inl (some (vI (1 : Int32)))) σ))) : At G mL_shelves rL_shelves uc us 693 [some (vR x0), some (vI x1), some (vI x2), some (vI x3), some (vI x4), none, none, none, none] [(vI s0)] σ K := by
  refine s_if_ne (tgt := 700) dL_shelves_693 (by decide) (fun q1 => ?_) (fun q1 => ?_)
  · have h := h.1 q1
    refine s_iconst (v := 0) dL_shelves_700 (by decide) ?_
    obtain ⟨u2, u3, h⟩ := h
    exact s_ireturn dL_shelves_701 rfl rfl u2 u3 h
  · have h := h.2 q1
    refine s_iconst (v := 1) dL_shelves_696 (by decide) ?_
    refine s_goto (tgt := 701) dL_shelves_697 (by decide) ?_
    obtain ⟨u4, u5, h⟩ := h
    exact s_ireturn dL_shelves_701 rfl rfl u4 u5 h
