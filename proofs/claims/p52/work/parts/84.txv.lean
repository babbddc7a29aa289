/-! ===== the JDK:  ===== -/
theorem vX1_readKeyword_28 {G : GG} (gk : GOK G) {σ : Mm} {K : RES → Mm → Prop} {x0 : Option Nat} {x1 : Int32} {x2 : Int32} {x3 : Int32} {x4 : Option Nat} {s0 : Int32}
    (h : ∃ a1, x4 = some a1 ∧ oO G "java/lang/String" a1 ∧ Runs G mJ0_length_8abf5 rJ0_length_8abf5 [(vR (some a1))] σ (bk G mX1_readKeyword rX1_readKeyword 0 0 37 [some (vR x0), some (vI x1), some (vI x2), some (vI x3), some (vR x4), some (vI s0)] [(vI s0)] K)) : At G mX1_readKeyword rX1_readKeyword 0 0 28 [some (vR x0), some (vI x1), some (vI x2), some (vI x3), some (vR x4), none] [(vI s0)] σ K := by
  refine s_istore (L' := [some (vR x0), some (vI x1), some (vI x2), some (vI x3), some (vR x4), some (vI s0)]) dX1_readKeyword_28 rfl (by decide) rfl ?_
  refine s_iload dX1_readKeyword_30 rfl ?_
  refine s_aload dX1_readKeyword_32 rfl ?_
  obtain ⟨a1, ea1, h⟩ := h
  obtain ⟨o2, h⟩ := h
  subst ea1
  exact s_callVS (rmY := rJ0_length_8abf5) (as := []) (S := [(vI s0)]) gk dX1_readKeyword_34 gX1_67 w_1159 w_1160 o2 rfl rfl (Nat.le_of_ble_eq_true rfl) (by decide) h
theorem vX1_countSame_2 {G : GG} (gk : GOK G) {σ : Mm} {K : RES → Mm → Prop} {x0 : Option Nat} {x1 : Option Nat} {x2 : Int32} {x3 : Int32}
    (h : ∃ a1, x1 = some a1 ∧ oO G "java/lang/String" a1 ∧ Runs G mJ0_length_8abf5 rJ0_length_8abf5 [(vR (some a1))] σ (bk G mX1_countSame rX1_countSame 0 0 7 [some (vR x0), some (vR x1), some (vI x2), some (vI x3)] [(vI x3)] K)) : At G mX1_countSame rX1_countSame 0 0 2 [some (vR x0), some (vR x1), some (vI x2), some (vI x3)] [] σ K := by
  refine s_iload_n (i := 3) dX1_countSame_2 rfl rfl ?_
  refine s_aload_n (i := 1) dX1_countSame_3 rfl rfl ?_
  obtain ⟨a1, ea1, h⟩ := h
  obtain ⟨o2, h⟩ := h
  subst ea1
  exact s_callVS (rmY := rJ0_length_8abf5) (as := []) (S := [(vI x3)]) gk dX1_countSame_4 gX1_67 w_1159 w_1160 o2 rfl rfl (Nat.le_of_ble_eq_true rfl) (by decide) h
theorem vX1_countSame_7 {G : GG} (gk : GOK G) {σ : Mm} {K : RES → Mm → Prop} {x0 : Option Nat} {x1 : Option Nat} {x2 : Int32} {x3 : Int32} {s0 : Int32} {s1 : Int32}
    (h : ((s0 ≤ s1 → ∃ a2, x1 = some a2 ∧ oO G "java/lang/String" a2 ∧ Runs G mJ0_length_8abf5 rJ0_length_8abf5 [(vR (some a2))] σ (bk G mX1_countSame rX1_countSame 0 0 41 [some (vR x0), some (vR x1), some (vI x2), some (vI x3)] [] K)) ∧ (¬ s0 ≤ s1 → ∃ a4, x0 = some a4 ∧ (mt σ a4).1 = 2 ∧ ∀ σ6, σ6 = si σ a4 2 (x2 + x3) → Runs G mX1_next rX1_next [(vR x0)] σ6 (bk G mX1_countSame rX1_countSame 0 0 21 [some (vR x0), some (vR x1), some (vI x2), some (vI x3)] [] K)))) : At G mX1_countSame rX1_countSame 0 0 7 [some (vR x0), some (vR x1), some (vI x2), some (vI x3)] [(vI s0), (vI s1)] σ K := by
  refine s_icmp_ge (tgt := 37) dX1_countSame_7 (by decide) (fun q1 => ?_) (fun q1 => ?_)
  · have h := h.1 q1
    refine s_aload_n (i := 1) dX1_countSame_37 rfl rfl ?_
    obtain ⟨a2, ea2, h⟩ := h
    obtain ⟨o3, h⟩ := h
    subst ea2
    exact s_callVS (rmY := rJ0_length_8abf5) (as := []) (S := []) gk dX1_countSame_38 gX1_67 w_1159 w_1160 o3 rfl rfl (Nat.le_of_ble_eq_true rfl) (by decide) h
  · have h := h.2 q1
    refine s_aload_n (i := 0) dX1_countSame_10 rfl rfl ?_
    refine s_iload_n (i := 2) dX1_countSame_11 rfl rfl ?_
    refine s_iload_n (i := 3) dX1_countSame_12 rfl rfl ?_
    refine s_iadd dX1_countSame_13 ?_
    obtain ⟨a4, ea4, h⟩ := h
    obtain ⟨t5, h⟩ := h
    refine t_putI gk dX1_countSame_14 fX1_19 rfl rfl ea4 t5 ⟨rfl, rfl⟩ (fun σ6 eσ6 mσ6 => ?_)
    replace h := h σ6 eσ6
    refine s_aload_n (i := 0) dX1_countSame_17 rfl rfl ?_
    exact t_callV (ci := 1) (as := []) (S := []) gk dX1_countSame_18 gX1_77 (by decide) rfl w_1487 w_1488 ea4 (by rw [mσ6]; exact t5) rfl rfl (Nat.le_of_ble_eq_true rfl) (by decide) h
theorem vX1_countSame_21 {G : GG} (gk : GOK G) {σ : Mm} {K : RES → Mm → Prop} {x0 : Option Nat} {x1 : Option Nat} {x2 : Int32} {x3 : Int32} {s0 : Int32}
    (h : ∃ a1, x1 = some a1 ∧ oO G "java/lang/String" a1 ∧ Runs G mJ0_charAt_5068e rJ0_charAt_5068e [(vR (some a1)), (vI x3)] σ (bk G mX1_countSame rX1_countSame 0 0 26 [some (vR x0), some (vR x1), some (vI x2), some (vI x3)] [(vI s0)] K)) : At G mX1_countSame rX1_countSame 0 0 21 [some (vR x0), some (vR x1), some (vI x2), some (vI x3)] [(vI s0)] σ K := by
  refine s_aload_n (i := 1) dX1_countSame_21 rfl rfl ?_
  refine s_iload_n (i := 3) dX1_countSame_22 rfl rfl ?_
  obtain ⟨a1, ea1, h⟩ := h
  obtain ⟨o2, h⟩ := h
  subst ea1
  exact s_callVS (rmY := rJ0_charAt_5068e) (as := [(vI x3)]) (S := [(vI s0)]) gk dX1_countSame_23 gX1_81 w_561 w_562 o2 rfl rfl (Nat.le_of_ble_eq_true rfl) (by decide) h
theorem vX1_keywordOf_0 {G : GG} (gk : GOK G) (sok : SOK G) {σ : Mm} {K : RES → Mm → Prop} {x0 : Int32}
    (h : ((x0.toInt < 0 ∨ 7 < x0.toInt → ∀ q3 : Nat, SCT G q3 [112, 97, 115, 115] → K (.inl (some (vR (some q3)))) σ) ∧ ((x0 = 0 → ∀ q7 : Nat, SCT G q7 [106, 97, 114, 32] → K (.inl (some (vR (some q7)))) σ) ∧ ((x0 = 1 → ∀ q11 : Nat, SCT G q11 [115, 97, 121, 32] → K (.inl (some (vR (some q11)))) σ) ∧ ((x0 = 2 → ∀ q15 : Nat, SCT G q15 [100, 114, 111, 112, 32] → K (.inl (some (vR (some q15)))) σ) ∧ ((x0 = 3 → ∀ q19 : Nat, SCT G q19 [115, 104, 101, 108, 102] → K (.inl (some (vR (some q19)))) σ) ∧ ((x0 = 4 → ∀ q23 : Nat, SCT G q23 [104, 101, 97, 114] → K (.inl (some (vR (some q23)))) σ) ∧ ((x0 = 5 → ∀ q27 : Nat, SCT G q27 [119, 97, 114, 109] → K (.inl (some (vR (some q27)))) σ) ∧ ((x0 = 6 → ∀ q31 : Nat, SCT G q31 [108, 105, 115, 116, 101, 110] → K (.inl (some (vR (some q31)))) σ) ∧ (x0 = 7 → ∀ q35 : Nat, SCT G q35 [100, 101, 97, 102] → K (.inl (some (vR (some q35)))) σ)))))))))) : At G mX1_keywordOf rX1_keywordOf 0 0 0 [some (vI x0)] [] σ K := by
  refine s_iload_n (i := 0) dX1_keywordOf_0 rfl rfl ?_
  by_cases q1 : x0.toInt < 0 ∨ 7 < x0.toInt
  · refine s_tableOut (tgt := 72) dX1_keywordOf_1 q1 (by decide) ?_
    have h := h.1 q1
    obtain ⟨q3, v4, z5, u6⟩ := txs_8 sok
    refine s_ldcS dX1_keywordOf_72 z5 ?_
    replace h := h q3 ⟨v4, u6⟩
    exact s_areturn dX1_keywordOf_74 rfl rfl (by decide) (by decide) h
  · replace h := h.2
    by_cases w20 : x0 = 0
    · refine s_tableIn (off := 47) (tgt := 48) dX1_keywordOf_1 (by rw [w20]; decide) (by rw [w20]; decide) (by rw [w20]; decide) (by decide) ?_
      have h := h.1 w20
      obtain ⟨q7, v8, z9, u10⟩ := txs_0 sok
      refine s_ldcS dX1_keywordOf_48 z9 ?_
      replace h := h q7 ⟨v8, u10⟩
      exact s_areturn dX1_keywordOf_50 rfl rfl (by decide) (by decide) h
    replace h := h.2
    by_cases w21 : x0 = 1
    · refine s_tableIn (off := 50) (tgt := 51) dX1_keywordOf_1 (by rw [w21]; decide) (by rw [w21]; decide) (by rw [w21]; decide) (by decide) ?_
      have h := h.1 w21
      obtain ⟨q11, v12, z13, u14⟩ := txs_1 sok
      refine s_ldcS dX1_keywordOf_51 z13 ?_
      replace h := h q11 ⟨v12, u14⟩
      exact s_areturn dX1_keywordOf_53 rfl rfl (by decide) (by decide) h
    replace h := h.2
    by_cases w22 : x0 = 2
    · refine s_tableIn (off := 53) (tgt := 54) dX1_keywordOf_1 (by rw [w22]; decide) (by rw [w22]; decide) (by rw [w22]; decide) (by decide) ?_
      have h := h.1 w22
      obtain ⟨q15, v16, z17, u18⟩ := txs_2 sok
      refine s_ldcS dX1_keywordOf_54 z17 ?_
      replace h := h q15 ⟨v16, u18⟩
      exact s_areturn dX1_keywordOf_56 rfl rfl (by decide) (by decide) h
    replace h := h.2
    by_cases w23 : x0 = 3
    · refine s_tableIn (off := 56) (tgt := 57) dX1_keywordOf_1 (by rw [w23]; decide) (by rw [w23]; decide) (by rw [w23]; decide) (by decide) ?_
      have h := h.1 w23
      obtain ⟨q19, v20, z21, u22⟩ := txs_3 sok
      refine s_ldcS dX1_keywordOf_57 z21 ?_
      replace h := h q19 ⟨v20, u22⟩
      exact s_areturn dX1_keywordOf_59 rfl rfl (by decide) (by decide) h
    replace h := h.2
    by_cases w24 : x0 = 4
    · refine s_tableIn (off := 59) (tgt := 60) dX1_keywordOf_1 (by rw [w24]; decide) (by rw [w24]; decide) (by rw [w24]; decide) (by decide) ?_
      have h := h.1 w24
      obtain ⟨q23, v24, z25, u26⟩ := txs_4 sok
      refine s_ldcS dX1_keywordOf_60 z25 ?_
      replace h := h q23 ⟨v24, u26⟩
      exact s_areturn dX1_keywordOf_62 rfl rfl (by decide) (by decide) h
    replace h := h.2
    by_cases w25 : x0 = 5
    · refine s_tableIn (off := 62) (tgt := 63) dX1_keywordOf_1 (by rw [w25]; decide) (by rw [w25]; decide) (by rw [w25]; decide) (by decide) ?_
      have h := h.1 w25
      obtain ⟨q27, v28, z29, u30⟩ := txs_5 sok
      refine s_ldcS dX1_keywordOf_63 z29 ?_
      replace h := h q27 ⟨v28, u30⟩
      exact s_areturn dX1_keywordOf_65 rfl rfl (by decide) (by decide) h
    replace h := h.2
    by_cases w26 : x0 = 6
    · refine s_tableIn (off := 65) (tgt := 66) dX1_keywordOf_1 (by rw [w26]; decide) (by rw [w26]; decide) (by rw [w26]; decide) (by decide) ?_
      have h := h.1 w26
      obtain ⟨q31, v32, z33, u34⟩ := txs_6 sok
      refine s_ldcS dX1_keywordOf_66 z33 ?_
      replace h := h q31 ⟨v32, u34⟩
      exact s_areturn dX1_keywordOf_68 rfl rfl (by decide) (by decide) h
    replace h := h.2
    by_cases w27 : x0 = 7
    · refine s_tableIn (off := 68) (tgt := 69) dX1_keywordOf_1 (by rw [w27]; decide) (by rw [w27]; decide) (by rw [w27]; decide) (by decide) ?_
      have h := h w27
      obtain ⟨q35, v36, z37, u38⟩ := txs_7 sok
      refine s_ldcS dX1_keywordOf_69 z37 ?_
      replace h := h q35 ⟨v36, u38⟩
      exact s_areturn dX1_keywordOf_71 rfl rfl (by decide) (by decide) h
    exact (tb_cover (x := x0) (lo := 0) (n := 8) (fun k hk => by match k, hk with | 0, _ => exact w20 | 1, _ => exact w21 | 2, _ => exact w22 | 3, _ => exact w23 | 4, _ => exact w24 | 5, _ => exact w25 | 6, _ => exact w26 | 7, _ => exact w27 | k + 8, hk => omega) (by decide) q1).elim
theorem eX1_keywordOf {G : GG} (gk : GOK G) (sok : SOK G) {σ : Mm} {K : RES → Mm → Prop} {x0 : Int32}
    (h : ((x0.toInt < 0 ∨ 7 < x0.toInt → ∀ q3 : Nat, SCT G q3 [112, 97, 115, 115] → K (.inl (some (vR (some q3)))) σ) ∧ ((x0 = 0 → ∀ q7 : Nat, SCT G q7 [106, 97, 114, 32] → K (.inl (some (vR (some q7)))) σ) ∧ ((x0 = 1 → ∀ q11 : Nat, SCT G q11 [115, 97, 121, 32] → K (.inl (some (vR (some q11)))) σ) ∧ ((x0 = 2 → ∀ q15 : Nat, SCT G q15 [100, 114, 111, 112, 32] → K (.inl (some (vR (some q15)))) σ) ∧ ((x0 = 3 → ∀ q19 : Nat, SCT G q19 [115, 104, 101, 108, 102] → K (.inl (some (vR (some q19)))) σ) ∧ ((x0 = 4 → ∀ q23 : Nat, SCT G q23 [104, 101, 97, 114] → K (.inl (some (vR (some q23)))) σ) ∧ ((x0 = 5 → ∀ q27 : Nat, SCT G q27 [119, 97, 114, 109] → K (.inl (some (vR (some q27)))) σ) ∧ ((x0 = 6 → ∀ q31 : Nat, SCT G q31 [108, 105, 115, 116, 101, 110] → K (.inl (some (vR (some q31)))) σ) ∧ (x0 = 7 → ∀ q35 : Nat, SCT G q35 [100, 101, 97, 102] → K (.inl (some (vR (some q35)))) σ)))))))))) : Runs G mX1_keywordOf rX1_keywordOf [(vI x0)] σ K := Runs.of (by decide) rfl (Nat.le_of_ble_eq_true rfl) (vX1_keywordOf_0 gk sok h)
