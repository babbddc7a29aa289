/-! ===== the JDK:  ===== -/
theorem w_1164 : (Jvm.Cond.instanceMethod ({ cls := "java/lang/String", name := "length", desc := "()I" } : Jvm.MethodName)) ∈ TBL := tk_5 (List.mem_of_getElem? (i := 204) rfl) rfl
theorem w_1165 : (Jvm.Cond.selects "java/lang/String" ({ cls := "java/lang/String", name := "length", desc := "()I" } : Jvm.MethodName) ({ cls := "java/lang/String", name := "length", desc := "()I" } : Jvm.MethodName)) ∈ TBL := tk_5 (List.mem_of_getElem? (i := 205) rfl) rfl
theorem w_1428 : (Jvm.Cond.instanceMethod ({ cls := "java/lang/String", name := "charAt", desc := "(I)C" } : Jvm.MethodName)) ∈ TBL := tk_6 (List.mem_of_getElem? (i := 228) rfl) rfl
theorem w_1429 : (Jvm.Cond.selects "java/lang/String" ({ cls := "java/lang/String", name := "charAt", desc := "(I)C" } : Jvm.MethodName) ({ cls := "java/lang/String", name := "charAt", desc := "(I)C" } : Jvm.MethodName)) ∈ TBL := tk_6 (List.mem_of_getElem? (i := 229) rfl) rfl
theorem w_1915 : (Jvm.Cond.methodLink "EchoPantryModel" (195 : Nat) ({ cls := "EchoPantryModel", name := "skip", desc := "(Ljava/lang/String;)V" } : Jvm.MethodName)) ∈ TBL := tk_8 (List.mem_of_getElem? (i := 235) rfl) rfl
theorem w_1917 : (Jvm.Cond.instanceMethod ({ cls := "EchoPantryModel", name := "skip", desc := "(Ljava/lang/String;)V" } : Jvm.MethodName)) ∈ TBL := tk_8 (List.mem_of_getElem? (i := 237) rfl) rfl
theorem w_1918 : (Jvm.Cond.code ({ cls := "EchoPantryModel", name := "skip", desc := "(Ljava/lang/String;)V" } : Jvm.MethodName) prog_11_method_80_code (3 : Nat) (Option.none : Option Jvm.ClassFile.FieldType)) ∈ TBL := tk_8 (List.mem_of_getElem? (i := 238) rfl) rfl
theorem wp_40 : Cond.selects "EchoPantryModel" ({ cls := "EchoPantryModel", name := "skip", desc := "(Ljava/lang/String;)V" } : MethodName) ({ cls := "EchoPantryModel", name := "skip", desc := "(Ljava/lang/String;)V" } : MethodName) ∈ TBL := tb_in 40 (by decide +kernel) (by decide +kernel)
theorem gX9_195 : yOk RX9 195 1 mX9_skip := ⟨w_1915, w_1918, w_14, ⟨by decide, by decide⟩, by decide +kernel⟩
theorem vX9_skip_2 {G : GG} (gk : GOK G) {σ : Mm} {K : RES → Mm → Prop} {x0 : Option Nat} {x1 : Option Nat} {x2 : Int32}
    (h : ∃ a1, x1 = some a1 ∧ oO G "java/lang/String" a1 ∧ Runs G mJ0_length_8abf5 rJ0_length_8abf5 [(vR (some a1))] σ (bk G mX9_skip rX9_skip 0 0 7 [some (vR x0), some (vR x1), some (vI x2)] [(vI x2)] K)) : At G mX9_skip rX9_skip 0 0 2 [some (vR x0), some (vR x1), some (vI x2)] [] σ K := by
  refine s_iload_n (i := 2) dX9_skip_2 rfl rfl ?_
  refine s_aload_n (i := 1) dX9_skip_3 rfl rfl ?_
  obtain ⟨a1, ea1, h⟩ := h
  obtain ⟨o2, h⟩ := h
  subst ea1
  exact s_callVS (rmY := rJ0_length_8abf5) (as := []) (S := [(vI x2)]) gk dX9_skip_4 gX9_179 w_1164 w_1165 o2 rfl rfl (Nat.le_of_ble_eq_true rfl) (by decide) h
theorem vX9_skip_23 {G : GG} (gk : GOK G) {σ : Mm} {K : RES → Mm → Prop} {x0 : Option Nat} {x1 : Option Nat} {x2 : Int32} {s0 : Int32} {s1 : Option Nat}
    (h : ∃ a1, x1 = some a1 ∧ oO G "java/lang/String" a1 ∧ Runs G mJ0_charAt_5068e rJ0_charAt_5068e [(vR (some a1)), (vI x2)] σ (bk G mX9_skip rX9_skip 0 0 28 [some (vR x0), some (vR x1), some (vI x2)] [(vI s0), (vR s1)] K)) : At G mX9_skip rX9_skip 0 0 23 [some (vR x0), some (vR x1), some (vI x2)] [(vI s0), (vR s1)] σ K := by
  refine s_aload_n (i := 1) dX9_skip_23 rfl rfl ?_
  refine s_iload_n (i := 2) dX9_skip_24 rfl rfl ?_
  obtain ⟨a1, ea1, h⟩ := h
  obtain ⟨o2, h⟩ := h
  subst ea1
  exact s_callVS (rmY := rJ0_charAt_5068e) (as := [(vI x2)]) (S := [(vI s0), (vR s1)]) gk dX9_skip_25 gX9_190 w_1428 w_1429 o2 rfl rfl (Nat.le_of_ble_eq_true rfl) (by decide) h
theorem vX9_readNumber_0 {G : GG} (gk : GOK G) (sok : SOK G) {σ : Mm} {K : RES → Mm → Prop} {x0 : Option Nat} {x1 : Int32}
    (h : ∀ q1 : Nat, SCT G q1 [32] → ∃ a5, x0 = some a5 ∧ (mt σ a5).1 = 10 ∧ Runs G mX9_skip rX9_skip [(vR x0), (vR (some q1))] σ (bk G mX9_readNumber rX9_readNumber 0 0 6 [some (vR x0), some (vI x1), none, none] [] K)) : At G mX9_readNumber rX9_readNumber 0 0 0 [some (vR x0), some (vI x1), none, none] [] σ K := by
  refine s_aload_n (i := 0) dX9_readNumber_0 rfl rfl ?_
  obtain ⟨q1, v2, z3, u4⟩ := txs_11 sok
  refine s_ldcS dX9_readNumber_1 z3 ?_
  replace h := h q1 ⟨v2, u4⟩
  obtain ⟨a5, ea5, h⟩ := h
  obtain ⟨t6, h⟩ := h
  exact t_callV (ci := 9) (as := [(vR (some q1))]) (S := []) gk dX9_readNumber_3 gX9_195 (by decide) rfl w_1917 wp_40 ea5 t6 rfl rfl (Nat.le_of_ble_eq_true rfl) (by decide) h
theorem eX9_readNumber {G : GG} (gk : GOK G) (sok : SOK G) {σ : Mm} {K : RES → Mm → Prop} {x0 : Option Nat} {x1 : Int32}
    (h : ∀ q1 : Nat, SCT G q1 [32] → ∃ a5, x0 = some a5 ∧ (mt σ a5).1 = 10 ∧ Runs G mX9_skip rX9_skip [(vR x0), (vR (some q1))] σ (bk G mX9_readNumber rX9_readNumber 0 0 6 [some (vR x0), some (vI x1), none, none] [] K)) : Runs G mX9_readNumber rX9_readNumber [(vR x0), (vI x1)] σ K := Runs.of (by decide) rfl (Nat.le_of_ble_eq_true rfl) (vX9_readNumber_0 gk sok h)
theorem vX9_readLetter_0 {G : GG} (gk : GOK G) (sok : SOK G) {σ : Mm} {K : RES → Mm → Prop} {x0 : Option Nat} {x1 : Int32}
    (h : ∀ q1 : Nat, SCT G q1 [32] → ∃ a5, x0 = some a5 ∧ (mt σ a5).1 = 10 ∧ Runs G mX9_skip rX9_skip [(vR x0), (vR (some q1))] σ (bk G mX9_readLetter rX9_readLetter 0 0 6 [some (vR x0), some (vI x1), none] [] K)) : At G mX9_readLetter rX9_readLetter 0 0 0 [some (vR x0), some (vI x1), none] [] σ K := by
  refine s_aload_n (i := 0) dX9_readLetter_0 rfl rfl ?_
  obtain ⟨q1, v2, z3, u4⟩ := txs_11 sok
  refine s_ldcS dX9_readLetter_1 z3 ?_
  replace h := h q1 ⟨v2, u4⟩
  obtain ⟨a5, ea5, h⟩ := h
  obtain ⟨t6, h⟩ := h
  exact t_callV (ci := 9) (as := [(vR (some q1))]) (S := []) gk dX9_readLetter_3 gX9_195 (by decide) rfl w_1917 wp_40 ea5 t6 rfl rfl (Nat.le_of_ble_eq_true rfl) (by decide) h
theorem eX9_readLetter {G : GG} (gk : GOK G) (sok : SOK G) {σ : Mm} {K : RES → Mm → Prop} {x0 : Option Nat} {x1 : Int32}
    (h : ∀ q1 : Nat, SCT G q1 [32] → ∃ a5, x0 = some a5 ∧ (mt σ a5).1 = 10 ∧ Runs G mX9_skip rX9_skip [(vR x0), (vR (some q1))] σ (bk G mX9_readLetter rX9_readLetter 0 0 6 [some (vR x0), some (vI x1), none] [] K)) : Runs G mX9_readLetter rX9_readLetter [(vR x0), (vI x1)] σ K := Runs.of (by decide) rfl (Nat.le_of_ble_eq_true rfl) (vX9_readLetter_0 gk sok h)
theorem vX9_readCommand_40 {G : GG} (gk : GOK G) (sok : SOK G) {σ : Mm} {K : RES → Mm → Prop} {x0 : Option Nat} {x1 : Int32} {x2 : Int32} {s0 : Int32} {s1 : Int32} {s2 : Option Nat}
    (h : ∃ a1, s2 = some a1 ∧ ∃ n3, mt σ a1 = (50, n3) ∧ vp_in s1 n3 ∧ ∀ σ5, σ5 = si σ a1 s1.toNatClampNeg s0 → ∃ a6, x0 = some a6 ∧ (mt σ a6).1 = 10 ∧ ∃ a8, mr σ5 a6 15 = some a8 ∧ ∃ n10, mt σ a8 = (50, n10) ∧ vp_in x2 n10 ∧ (((mi σ5 a8 x2.toNatClampNeg).toInt < 100 ∨ 122 < (mi σ5 a8 x2.toNatClampNeg).toInt → ∀ q14 : Nat, SCT G q14 [112, 97, 115, 115] → Runs G mX9_skip rX9_skip [(vR x0), (vR (some q14))] σ5 (bk G mX9_readCommand rX9_readCommand 0 0 423 [some (vR x0), some (vI x1), some (vI x2)] [] K)) ∧ (((mi σ5 a8 x2.toNatClampNeg) = 100 → ∀ q18 : Nat, SCT G q18 [100, 114, 111, 112] → Runs G mX9_skip rX9_skip [(vR x0), (vR (some q18))] σ5 (bk G mX9_readCommand rX9_readCommand 0 0 263 [some (vR x0), some (vI x1), some (vI x2)] [] K)) ∧ (((mi σ5 a8 x2.toNatClampNeg) = 101 → ∀ q22 : Nat, SCT G q22 [112, 97, 115, 115] → Runs G mX9_skip rX9_skip [(vR x0), (vR (some q22))] σ5 (bk G mX9_readCommand rX9_readCommand 0 0 423 [some (vR x0), some (vI x1), some (vI x2)] [] K)) ∧ (((mi σ5 a8 x2.toNatClampNeg) = 102 → ((¬ x1 = (115 : Int32) → ∀ q27 : Nat, SCT G q27 [112, 97, 115, 115] → Runs G mX9_skip rX9_skip [(vR x0), (vR (some q27))] σ5 (bk G mX9_readCommand rX9_readCommand 0 0 169 [some (vR x0), some (vI x1), some (vI x2)] [] K)) ∧ (x1 = (115 : Int32) → ∀ q31 : Nat, SCT G q31 [115, 104, 101, 108, 102] → Runs G mX9_skip rX9_skip [(vR x0), (vR (some q31))] σ5 (bk G mX9_readCommand rX9_readCommand 0 0 169 [some (vR x0), some (vI x1), some (vI x2)] [] K)))) ∧ (((mi σ5 a8 x2.toNatClampNeg) = 103 → ∀ q35 : Nat, SCT G q35 [112, 97, 115, 115] → Runs G mX9_skip rX9_skip [(vR x0), (vR (some q35))] σ5 (bk G mX9_readCommand rX9_readCommand 0 0 423 [some (vR x0), some (vI x1), some (vI x2)] [] K)) ∧ (((mi σ5 a8 x2.toNatClampNeg) = 104 → ∀ q39 : Nat, SCT G q39 [104, 101, 97, 114] → Runs G mX9_skip rX9_skip [(vR x0), (vR (some q39))] σ5 (bk G mX9_readCommand rX9_readCommand 0 0 285 [some (vR x0), some (vI x1), some (vI x2)] [] K)) ∧ (((mi σ5 a8 x2.toNatClampNeg) = 105 → ∀ q43 : Nat, SCT G q43 [112, 97, 115, 115] → Runs G mX9_skip rX9_skip [(vR x0), (vR (some q43))] σ5 (bk G mX9_readCommand rX9_readCommand 0 0 423 [some (vR x0), some (vI x1), some (vI x2)] [] K)) ∧ (((mi σ5 a8 x2.toNatClampNeg) = 106 → ((¬ x1 = (106 : Int32) → ∀ q48 : Nat, SCT G q48 [115, 97, 121] → Runs G mX9_skip rX9_skip [(vR x0), (vR (some q48))] σ5 (bk G mX9_readCommand rX9_readCommand 0 0 228 [some (vR x0), some (vI x1), some (vI x2)] [] K)) ∧ (x1 = (106 : Int32) → ∀ q52 : Nat, SCT G q52 [106, 97, 114] → Runs G mX9_skip rX9_skip [(vR x0), (vR (some q52))] σ5 (bk G mX9_readCommand rX9_readCommand 0 0 228 [some (vR x0), some (vI x1), some (vI x2)] [] K)))) ∧ (((mi σ5 a8 x2.toNatClampNeg) = 107 → ∀ q56 : Nat, SCT G q56 [112, 97, 115, 115] → Runs G mX9_skip rX9_skip [(vR x0), (vR (some q56))] σ5 (bk G mX9_readCommand rX9_readCommand 0 0 423 [some (vR x0), some (vI x1), some (vI x2)] [] K)) ∧ (((mi σ5 a8 x2.toNatClampNeg) = 108 → ∀ q60 : Nat, SCT G q60 [108, 105, 115, 116, 101, 110] → Runs G mX9_skip rX9_skip [(vR x0), (vR (some q60))] σ5 (bk G mX9_readCommand rX9_readCommand 0 0 368 [some (vR x0), some (vI x1), some (vI x2)] [] K)) ∧ (((mi σ5 a8 x2.toNatClampNeg) = 109 → ∀ q64 : Nat, SCT G q64 [112, 97, 115, 115] → Runs G mX9_skip rX9_skip [(vR x0), (vR (some q64))] σ5 (bk G mX9_readCommand rX9_readCommand 0 0 423 [some (vR x0), some (vI x1), some (vI x2)] [] K)) ∧ (((mi σ5 a8 x2.toNatClampNeg) = 110 → ∀ q68 : Nat, SCT G q68 [112, 97, 115, 115] → Runs G mX9_skip rX9_skip [(vR x0), (vR (some q68))] σ5 (bk G mX9_readCommand rX9_readCommand 0 0 423 [some (vR x0), some (vI x1), some (vI x2)] [] K)) ∧ (((mi σ5 a8 x2.toNatClampNeg) = 111 → ∀ q72 : Nat, SCT G q72 [112, 97, 115, 115] → Runs G mX9_skip rX9_skip [(vR x0), (vR (some q72))] σ5 (bk G mX9_readCommand rX9_readCommand 0 0 423 [some (vR x0), some (vI x1), some (vI x2)] [] K)) ∧ (((mi σ5 a8 x2.toNatClampNeg) = 112 → ∀ q76 : Nat, SCT G q76 [112, 97, 115, 115] → Runs G mX9_skip rX9_skip [(vR x0), (vR (some q76))] σ5 (bk G mX9_readCommand rX9_readCommand 0 0 423 [some (vR x0), some (vI x1), some (vI x2)] [] K)) ∧ (((mi σ5 a8 x2.toNatClampNeg) = 113 → ∀ q80 : Nat, SCT G q80 [112, 97, 115, 115] → Runs G mX9_skip rX9_skip [(vR x0), (vR (some q80))] σ5 (bk G mX9_readCommand rX9_readCommand 0 0 423 [some (vR x0), some (vI x1), some (vI x2)] [] K)) ∧ (((mi σ5 a8 x2.toNatClampNeg) = 114 → ∀ q84 : Nat, SCT G q84 [112, 97, 115, 115] → Runs G mX9_skip rX9_skip [(vR x0), (vR (some q84))] σ5 (bk G mX9_readCommand rX9_readCommand 0 0 423 [some (vR x0), some (vI x1), some (vI x2)] [] K)) ∧ (((mi σ5 a8 x2.toNatClampNeg) = 115 → ((¬ x1 = (106 : Int32) → ∀ q89 : Nat, SCT G q89 [115, 97, 121] → Runs G mX9_skip rX9_skip [(vR x0), (vR (some q89))] σ5 (bk G mX9_readCommand rX9_readCommand 0 0 228 [some (vR x0), some (vI x1), some (vI x2)] [] K)) ∧ (x1 = (106 : Int32) → ∀ q93 : Nat, SCT G q93 [106, 97, 114] → Runs G mX9_skip rX9_skip [(vR x0), (vR (some q93))] σ5 (bk G mX9_readCommand rX9_readCommand 0 0 228 [some (vR x0), some (vI x1), some (vI x2)] [] K)))) ∧ (((mi σ5 a8 x2.toNatClampNeg) = 116 → ∀ q97 : Nat, SCT G q97 [112, 97, 115, 115] → Runs G mX9_skip rX9_skip [(vR x0), (vR (some q97))] σ5 (bk G mX9_readCommand rX9_readCommand 0 0 423 [some (vR x0), some (vI x1), some (vI x2)] [] K)) ∧ (((mi σ5 a8 x2.toNatClampNeg) = 117 → ∀ q101 : Nat, SCT G q101 [112, 97, 115, 115] → Runs G mX9_skip rX9_skip [(vR x0), (vR (some q101))] σ5 (bk G mX9_readCommand rX9_readCommand 0 0 423 [some (vR x0), some (vI x1), some (vI x2)] [] K)) ∧ (((mi σ5 a8 x2.toNatClampNeg) = 118 → ∀ q105 : Nat, SCT G q105 [112, 97, 115, 115] → Runs G mX9_skip rX9_skip [(vR x0), (vR (some q105))] σ5 (bk G mX9_readCommand rX9_readCommand 0 0 423 [some (vR x0), some (vI x1), some (vI x2)] [] K)) ∧ (((mi σ5 a8 x2.toNatClampNeg) = 119 → ∀ q109 : Nat, SCT G q109 [119, 97, 114, 109] → Runs G mX9_skip rX9_skip [(vR x0), (vR (some q109))] σ5 (bk G mX9_readCommand rX9_readCommand 0 0 320 [some (vR x0), some (vI x1), some (vI x2)] [] K)) ∧ (((mi σ5 a8 x2.toNatClampNeg) = 120 → ∀ q113 : Nat, SCT G q113 [112, 97, 115, 115] → Runs G mX9_skip rX9_skip [(vR x0), (vR (some q113))] σ5 (bk G mX9_readCommand rX9_readCommand 0 0 423 [some (vR x0), some (vI x1), some (vI x2)] [] K)) ∧ (((mi σ5 a8 x2.toNatClampNeg) = 121 → ∀ q117 : Nat, SCT G q117 [112, 97, 115, 115] → Runs G mX9_skip rX9_skip [(vR x0), (vR (some q117))] σ5 (bk G mX9_readCommand rX9_readCommand 0 0 423 [some (vR x0), some (vI x1), some (vI x2)] [] K)) ∧ ((mi σ5 a8 x2.toNatClampNeg) = 122 → ((¬ x1 = (100 : Int32) → ∀ q122 : Nat, SCT G q122 [112, 97, 115, 115] → Runs G mX9_skip rX9_skip [(vR x0), (vR (some q122))] σ5 (bk G mX9_readCommand rX9_readCommand 0 0 401 [some (vR x0), some (vI x1), some (vI x2)] [] K)) ∧ (x1 = (100 : Int32) → ∀ q126 : Nat, SCT G q126 [100, 101, 97, 102] → Runs G mX9_skip rX9_skip [(vR x0), (vR (some q126))] σ5 (bk G mX9_readCommand rX9_readCommand 0 0 401 [some (vR x0), some (vI x1), some (vI x2)] [] K)))))))))))))))))))))))))))) : At G mX9_readCommand rX9_readCommand 0 0 40 [some (vR x0), some (vI x1), some (vI x2)] [(vI s0), (vI s1), (vR s2)] σ K := by
  obtain ⟨a1, ea1, h⟩ := h
  obtain ⟨n3, t2, h⟩ := h
  obtain ⟨c4, h⟩ := h
  refine t_iast gk dX9_readCommand_40 ea1 t2 c4 (fun σ5 eσ5 mσ5 => ?_)
  replace h := h σ5 eσ5
  refine s_aload_n (i := 0) dX9_readCommand_41 rfl rfl ?_
  obtain ⟨a6, ea6, h⟩ := h
  obtain ⟨t7, h⟩ := h
  refine t_getR gk dX9_readCommand_42 fX9_36 rfl ea6 (by rw [mσ5]; exact t7) ?_
  refine s_iload_n (i := 2) dX9_readCommand_45 rfl rfl ?_
  obtain ⟨a8, ea8, h⟩ := h
  obtain ⟨n10, t9, h⟩ := h
  obtain ⟨c11, h⟩ := h
  refine t_iald gk dX9_readCommand_46 ea8 (by rw [mσ5]; exact t9) c11 ?_
  by_cases q12 : (mi σ5 a8 x2.toNatClampNeg).toInt < 100 ∨ 122 < (mi σ5 a8 x2.toNatClampNeg).toInt
  · refine s_tableOut (tgt := 417) dX9_readCommand_47 q12 (by decide) ?_
    have h := h.1 q12
    refine s_aload_n (i := 0) dX9_readCommand_417 rfl rfl ?_
    obtain ⟨q14, v15, z16, u17⟩ := txs_10 sok
    refine s_ldcS dX9_readCommand_418 z16 ?_
    replace h := h q14 ⟨v15, u17⟩
    exact t_callV (ci := 9) (as := [(vR (some q14))]) (S := []) gk dX9_readCommand_420 gX9_195 (by decide) rfl w_1917 wp_40 ea6 (by rw [mσ5]; exact t7) rfl rfl (Nat.le_of_ble_eq_true rfl) (by decide) h
  · replace h := h.2
    by_cases w130 : (mi σ5 a8 x2.toNatClampNeg) = 100
    · refine s_tableIn (off := 210) (tgt := 257) dX9_readCommand_47 (by rw [w130]; decide) (by rw [w130]; decide) (by rw [w130]; decide) (by decide) ?_
      have h := h.1 w130
      refine s_aload_n (i := 0) dX9_readCommand_257 rfl rfl ?_
      obtain ⟨q18, v19, z20, u21⟩ := txs_14 sok
      refine s_ldcS dX9_readCommand_258 z20 ?_
      replace h := h q18 ⟨v19, u21⟩
      exact t_callV (ci := 9) (as := [(vR (some q18))]) (S := []) gk dX9_readCommand_260 gX9_195 (by decide) rfl w_1917 wp_40 ea6 (by rw [mσ5]; exact t7) rfl rfl (Nat.le_of_ble_eq_true rfl) (by decide) h
    replace h := h.2
    by_cases w131 : (mi σ5 a8 x2.toNatClampNeg) = 101
    · refine s_tableIn (off := 370) (tgt := 417) dX9_readCommand_47 (by rw [w131]; decide) (by rw [w131]; decide) (by rw [w131]; decide) (by decide) ?_
      have h := h.1 w131
      refine s_aload_n (i := 0) dX9_readCommand_417 rfl rfl ?_
      obtain ⟨q22, v23, z24, u25⟩ := txs_10 sok
      refine s_ldcS dX9_readCommand_418 z24 ?_
      replace h := h q22 ⟨v23, u25⟩
      exact t_callV (ci := 9) (as := [(vR (some q22))]) (S := []) gk dX9_readCommand_420 gX9_195 (by decide) rfl w_1917 wp_40 ea6 (by rw [mσ5]; exact t7) rfl rfl (Nat.le_of_ble_eq_true rfl) (by decide) h
    replace h := h.2
    by_cases w132 : (mi σ5 a8 x2.toNatClampNeg) = 102
    · refine s_tableIn (off := 105) (tgt := 152) dX9_readCommand_47 (by rw [w132]; decide) (by rw [w132]; decide) (by rw [w132]; decide) (by decide) ?_
      have h := h.1 w132
      refine s_aload_n (i := 0) dX9_readCommand_152 rfl rfl ?_
      refine s_iload_n (i := 1) dX9_readCommand_153 rfl rfl ?_
      refine s_bipush (v := 115) dX9_readCommand_154 (by decide) ?_
      refine s_icmp_ne (tgt := 164) dX9_readCommand_156 (by decide) (fun q26 => ?_) (fun q26 => ?_)
      · have h := h.1 q26
        obtain ⟨q27, v28, z29, u30⟩ := txs_10 sok
        refine s_ldcS dX9_readCommand_164 z29 ?_
        replace h := h q27 ⟨v28, u30⟩
        exact t_callV (ci := 9) (as := [(vR (some q27))]) (S := []) gk dX9_readCommand_166 gX9_195 (by decide) rfl w_1917 wp_40 ea6 (by rw [mσ5]; exact t7) rfl rfl (Nat.le_of_ble_eq_true rfl) (by decide) h
      · have h := h.2 q26
        obtain ⟨q31, v32, z33, u34⟩ := txs_9 sok
        refine s_ldcS dX9_readCommand_159 z33 ?_
        replace h := h q31 ⟨v32, u34⟩
        refine s_goto (tgt := 166) dX9_readCommand_161 (by decide) ?_
        exact t_callV (ci := 9) (as := [(vR (some q31))]) (S := []) gk dX9_readCommand_166 gX9_195 (by decide) rfl w_1917 wp_40 ea6 (by rw [mσ5]; exact t7) rfl rfl (Nat.le_of_ble_eq_true rfl) (by decide) h
    replace h := h.2
    by_cases w133 : (mi σ5 a8 x2.toNatClampNeg) = 103
    · refine s_tableIn (off := 370) (tgt := 417) dX9_readCommand_47 (by rw [w133]; decide) (by rw [w133]; decide) (by rw [w133]; decide) (by decide) ?_
      have h := h.1 w133
      refine s_aload_n (i := 0) dX9_readCommand_417 rfl rfl ?_
      obtain ⟨q35, v36, z37, u38⟩ := txs_10 sok
      refine s_ldcS dX9_readCommand_418 z37 ?_
      replace h := h q35 ⟨v36, u38⟩
      exact t_callV (ci := 9) (as := [(vR (some q35))]) (S := []) gk dX9_readCommand_420 gX9_195 (by decide) rfl w_1917 wp_40 ea6 (by rw [mσ5]; exact t7) rfl rfl (Nat.le_of_ble_eq_true rfl) (by decide) h
    replace h := h.2
    by_cases w134 : (mi σ5 a8 x2.toNatClampNeg) = 104
    · refine s_tableIn (off := 232) (tgt := 279) dX9_readCommand_47 (by rw [w134]; decide) (by rw [w134]; decide) (by rw [w134]; decide) (by decide) ?_
      have h := h.1 w134
      refine s_aload_n (i := 0) dX9_readCommand_279 rfl rfl ?_
      obtain ⟨q39, v40, z41, u42⟩ := txs_15 sok
      refine s_ldcS dX9_readCommand_280 z41 ?_
      replace h := h q39 ⟨v40, u42⟩
      exact t_callV (ci := 9) (as := [(vR (some q39))]) (S := []) gk dX9_readCommand_282 gX9_195 (by decide) rfl w_1917 wp_40 ea6 (by rw [mσ5]; exact t7) rfl rfl (Nat.le_of_ble_eq_true rfl) (by decide) h
    replace h := h.2
    by_cases w135 : (mi σ5 a8 x2.toNatClampNeg) = 105
    · refine s_tableIn (off := 370) (tgt := 417) dX9_readCommand_47 (by rw [w135]; decide) (by rw [w135]; decide) (by rw [w135]; decide) (by decide) ?_
      have h := h.1 w135
      refine s_aload_n (i := 0) dX9_readCommand_417 rfl rfl ?_
      obtain ⟨q43, v44, z45, u46⟩ := txs_10 sok
      refine s_ldcS dX9_readCommand_418 z45 ?_
      replace h := h q43 ⟨v44, u46⟩
      exact t_callV (ci := 9) (as := [(vR (some q43))]) (S := []) gk dX9_readCommand_420 gX9_195 (by decide) rfl w_1917 wp_40 ea6 (by rw [mσ5]; exact t7) rfl rfl (Nat.le_of_ble_eq_true rfl) (by decide) h
    replace h := h.2
    by_cases w136 : (mi σ5 a8 x2.toNatClampNeg) = 106
    · refine s_tableIn (off := 164) (tgt := 211) dX9_readCommand_47 (by rw [w136]; decide) (by rw [w136]; decide) (by rw [w136]; decide) (by decide) ?_
      have h := h.1 w136
      refine s_aload_n (i := 0) dX9_readCommand_211 rfl rfl ?_
      refine s_iload_n (i := 1) dX9_readCommand_212 rfl rfl ?_
      refine s_bipush (v := 106) dX9_readCommand_213 (by decide) ?_
      refine s_icmp_ne (tgt := 223) dX9_readCommand_215 (by decide) (fun q47 => ?_) (fun q47 => ?_)
      · have h := h.1 q47
        obtain ⟨q48, v49, z50, u51⟩ := txs_13 sok
        refine s_ldcS dX9_readCommand_223 z50 ?_
        replace h := h q48 ⟨v49, u51⟩
        exact t_callV (ci := 9) (as := [(vR (some q48))]) (S := []) gk dX9_readCommand_225 gX9_195 (by decide) rfl w_1917 wp_40 ea6 (by rw [mσ5]; exact t7) rfl rfl (Nat.le_of_ble_eq_true rfl) (by decide) h
      · have h := h.2 q47
        obtain ⟨q52, v53, z54, u55⟩ := txs_12 sok
        refine s_ldcS dX9_readCommand_218 z54 ?_
        replace h := h q52 ⟨v53, u55⟩
        refine s_goto (tgt := 225) dX9_readCommand_220 (by decide) ?_
        exact t_callV (ci := 9) (as := [(vR (some q52))]) (S := []) gk dX9_readCommand_225 gX9_195 (by decide) rfl w_1917 wp_40 ea6 (by rw [mσ5]; exact t7) rfl rfl (Nat.le_of_ble_eq_true rfl) (by decide) h
    replace h := h.2
    by_cases w137 : (mi σ5 a8 x2.toNatClampNeg) = 107
    · refine s_tableIn (off := 370) (tgt := 417) dX9_readCommand_47 (by rw [w137]; decide) (by rw [w137]; decide) (by rw [w137]; decide) (by decide) ?_
      have h := h.1 w137
      refine s_aload_n (i := 0) dX9_readCommand_417 rfl rfl ?_
      obtain ⟨q56, v57, z58, u59⟩ := txs_10 sok
      refine s_ldcS dX9_readCommand_418 z58 ?_
      replace h := h q56 ⟨v57, u59⟩
      exact t_callV (ci := 9) (as := [(vR (some q56))]) (S := []) gk dX9_readCommand_420 gX9_195 (by decide) rfl w_1917 wp_40 ea6 (by rw [mσ5]; exact t7) rfl rfl (Nat.le_of_ble_eq_true rfl) (by decide) h
    replace h := h.2
    by_cases w138 : (mi σ5 a8 x2.toNatClampNeg) = 108
    · refine s_tableIn (off := 315) (tgt := 362) dX9_readCommand_47 (by rw [w138]; decide) (by rw [w138]; decide) (by rw [w138]; decide) (by decide) ?_
      have h := h.1 w138
      refine s_aload_n (i := 0) dX9_readCommand_362 rfl rfl ?_
      obtain ⟨q60, v61, z62, u63⟩ := txs_17 sok
      refine s_ldcS dX9_readCommand_363 z62 ?_
      replace h := h q60 ⟨v61, u63⟩
      exact t_callV (ci := 9) (as := [(vR (some q60))]) (S := []) gk dX9_readCommand_365 gX9_195 (by decide) rfl w_1917 wp_40 ea6 (by rw [mσ5]; exact t7) rfl rfl (Nat.le_of_ble_eq_true rfl) (by decide) h
    replace h := h.2
    by_cases w139 : (mi σ5 a8 x2.toNatClampNeg) = 109
    · refine s_tableIn (off := 370) (tgt := 417) dX9_readCommand_47 (by rw [w139]; decide) (by rw [w139]; decide) (by rw [w139]; decide) (by decide) ?_
      have h := h.1 w139
      refine s_aload_n (i := 0) dX9_readCommand_417 rfl rfl ?_
      obtain ⟨q64, v65, z66, u67⟩ := txs_10 sok
      refine s_ldcS dX9_readCommand_418 z66 ?_
      replace h := h q64 ⟨v65, u67⟩
      exact t_callV (ci := 9) (as := [(vR (some q64))]) (S := []) gk dX9_readCommand_420 gX9_195 (by decide) rfl w_1917 wp_40 ea6 (by rw [mσ5]; exact t7) rfl rfl (Nat.le_of_ble_eq_true rfl) (by decide) h
    replace h := h.2
    by_cases w1310 : (mi σ5 a8 x2.toNatClampNeg) = 110
    · refine s_tableIn (off := 370) (tgt := 417) dX9_readCommand_47 (by rw [w1310]; decide) (by rw [w1310]; decide) (by rw [w1310]; decide) (by decide) ?_
      have h := h.1 w1310
      refine s_aload_n (i := 0) dX9_readCommand_417 rfl rfl ?_
      obtain ⟨q68, v69, z70, u71⟩ := txs_10 sok
      refine s_ldcS dX9_readCommand_418 z70 ?_
      replace h := h q68 ⟨v69, u71⟩
      exact t_callV (ci := 9) (as := [(vR (some q68))]) (S := []) gk dX9_readCommand_420 gX9_195 (by decide) rfl w_1917 wp_40 ea6 (by rw [mσ5]; exact t7) rfl rfl (Nat.le_of_ble_eq_true rfl) (by decide) h
    replace h := h.2
    by_cases w1311 : (mi σ5 a8 x2.toNatClampNeg) = 111
    · refine s_tableIn (off := 370) (tgt := 417) dX9_readCommand_47 (by rw [w1311]; decide) (by rw [w1311]; decide) (by rw [w1311]; decide) (by decide) ?_
      have h := h.1 w1311
      refine s_aload_n (i := 0) dX9_readCommand_417 rfl rfl ?_
      obtain ⟨q72, v73, z74, u75⟩ := txs_10 sok
      refine s_ldcS dX9_readCommand_418 z74 ?_
      replace h := h q72 ⟨v73, u75⟩
      exact t_callV (ci := 9) (as := [(vR (some q72))]) (S := []) gk dX9_readCommand_420 gX9_195 (by decide) rfl w_1917 wp_40 ea6 (by rw [mσ5]; exact t7) rfl rfl (Nat.le_of_ble_eq_true rfl) (by decide) h
    replace h := h.2
    by_cases w1312 : (mi σ5 a8 x2.toNatClampNeg) = 112
    · refine s_tableIn (off := 370) (tgt := 417) dX9_readCommand_47 (by rw [w1312]; decide) (by rw [w1312]; decide) (by rw [w1312]; decide) (by decide) ?_
      have h := h.1 w1312
      refine s_aload_n (i := 0) dX9_readCommand_417 rfl rfl ?_
      obtain ⟨q76, v77, z78, u79⟩ := txs_10 sok
      refine s_ldcS dX9_readCommand_418 z78 ?_
      replace h := h q76 ⟨v77, u79⟩
      exact t_callV (ci := 9) (as := [(vR (some q76))]) (S := []) gk dX9_readCommand_420 gX9_195 (by decide) rfl w_1917 wp_40 ea6 (by rw [mσ5]; exact t7) rfl rfl (Nat.le_of_ble_eq_true rfl) (by decide) h
    replace h := h.2
    by_cases w1313 : (mi σ5 a8 x2.toNatClampNeg) = 113
    · refine s_tableIn (off := 370) (tgt := 417) dX9_readCommand_47 (by rw [w1313]; decide) (by rw [w1313]; decide) (by rw [w1313]; decide) (by decide) ?_
      have h := h.1 w1313
      refine s_aload_n (i := 0) dX9_readCommand_417 rfl rfl ?_
      obtain ⟨q80, v81, z82, u83⟩ := txs_10 sok
      refine s_ldcS dX9_readCommand_418 z82 ?_
      replace h := h q80 ⟨v81, u83⟩
      exact t_callV (ci := 9) (as := [(vR (some q80))]) (S := []) gk dX9_readCommand_420 gX9_195 (by decide) rfl w_1917 wp_40 ea6 (by rw [mσ5]; exact t7) rfl rfl (Nat.le_of_ble_eq_true rfl) (by decide) h
    replace h := h.2
    by_cases w1314 : (mi σ5 a8 x2.toNatClampNeg) = 114
    · refine s_tableIn (off := 370) (tgt := 417) dX9_readCommand_47 (by rw [w1314]; decide) (by rw [w1314]; decide) (by rw [w1314]; decide) (by decide) ?_
      have h := h.1 w1314
      refine s_aload_n (i := 0) dX9_readCommand_417 rfl rfl ?_
      obtain ⟨q84, v85, z86, u87⟩ := txs_10 sok
      refine s_ldcS dX9_readCommand_418 z86 ?_
      replace h := h q84 ⟨v85, u87⟩
      exact t_callV (ci := 9) (as := [(vR (some q84))]) (S := []) gk dX9_readCommand_420 gX9_195 (by decide) rfl w_1917 wp_40 ea6 (by rw [mσ5]; exact t7) rfl rfl (Nat.le_of_ble_eq_true rfl) (by decide) h
    replace h := h.2
    by_cases w1315 : (mi σ5 a8 x2.toNatClampNeg) = 115
    · refine s_tableIn (off := 164) (tgt := 211) dX9_readCommand_47 (by rw [w1315]; decide) (by rw [w1315]; decide) (by rw [w1315]; decide) (by decide) ?_
      have h := h.1 w1315
      refine s_aload_n (i := 0) dX9_readCommand_211 rfl rfl ?_
      refine s_iload_n (i := 1) dX9_readCommand_212 rfl rfl ?_
      refine s_bipush (v := 106) dX9_readCommand_213 (by decide) ?_
      refine s_icmp_ne (tgt := 223) dX9_readCommand_215 (by decide) (fun q88 => ?_) (fun q88 => ?_)
      · have h := h.1 q88
        obtain ⟨q89, v90, z91, u92⟩ := txs_13 sok
        refine s_ldcS dX9_readCommand_223 z91 ?_
        replace h := h q89 ⟨v90, u92⟩
        exact t_callV (ci := 9) (as := [(vR (some q89))]) (S := []) gk dX9_readCommand_225 gX9_195 (by decide) rfl w_1917 wp_40 ea6 (by rw [mσ5]; exact t7) rfl rfl (Nat.le_of_ble_eq_true rfl) (by decide) h
      · have h := h.2 q88
        obtain ⟨q93, v94, z95, u96⟩ := txs_12 sok
        refine s_ldcS dX9_readCommand_218 z95 ?_
        replace h := h q93 ⟨v94, u96⟩
        refine s_goto (tgt := 225) dX9_readCommand_220 (by decide) ?_
        exact t_callV (ci := 9) (as := [(vR (some q93))]) (S := []) gk dX9_readCommand_225 gX9_195 (by decide) rfl w_1917 wp_40 ea6 (by rw [mσ5]; exact t7) rfl rfl (Nat.le_of_ble_eq_true rfl) (by decide) h
    replace h := h.2
    by_cases w1316 : (mi σ5 a8 x2.toNatClampNeg) = 116
    · refine s_tableIn (off := 370) (tgt := 417) dX9_readCommand_47 (by rw [w1316]; decide) (by rw [w1316]; decide) (by rw [w1316]; decide) (by decide) ?_
      have h := h.1 w1316
      refine s_aload_n (i := 0) dX9_readCommand_417 rfl rfl ?_
      obtain ⟨q97, v98, z99, u100⟩ := txs_10 sok
      refine s_ldcS dX9_readCommand_418 z99 ?_
      replace h := h q97 ⟨v98, u100⟩
      exact t_callV (ci := 9) (as := [(vR (some q97))]) (S := []) gk dX9_readCommand_420 gX9_195 (by decide) rfl w_1917 wp_40 ea6 (by rw [mσ5]; exact t7) rfl rfl (Nat.le_of_ble_eq_true rfl) (by decide) h
    replace h := h.2
    by_cases w1317 : (mi σ5 a8 x2.toNatClampNeg) = 117
    · refine s_tableIn (off := 370) (tgt := 417) dX9_readCommand_47 (by rw [w1317]; decide) (by rw [w1317]; decide) (by rw [w1317]; decide) (by decide) ?_
      have h := h.1 w1317
      refine s_aload_n (i := 0) dX9_readCommand_417 rfl rfl ?_
      obtain ⟨q101, v102, z103, u104⟩ := txs_10 sok
      refine s_ldcS dX9_readCommand_418 z103 ?_
      replace h := h q101 ⟨v102, u104⟩
      exact t_callV (ci := 9) (as := [(vR (some q101))]) (S := []) gk dX9_readCommand_420 gX9_195 (by decide) rfl w_1917 wp_40 ea6 (by rw [mσ5]; exact t7) rfl rfl (Nat.le_of_ble_eq_true rfl) (by decide) h
    replace h := h.2
    by_cases w1318 : (mi σ5 a8 x2.toNatClampNeg) = 118
    · refine s_tableIn (off := 370) (tgt := 417) dX9_readCommand_47 (by rw [w1318]; decide) (by rw [w1318]; decide) (by rw [w1318]; decide) (by decide) ?_
      have h := h.1 w1318
      refine s_aload_n (i := 0) dX9_readCommand_417 rfl rfl ?_
      obtain ⟨q105, v106, z107, u108⟩ := txs_10 sok
      refine s_ldcS dX9_readCommand_418 z107 ?_
      replace h := h q105 ⟨v106, u108⟩
      exact t_callV (ci := 9) (as := [(vR (some q105))]) (S := []) gk dX9_readCommand_420 gX9_195 (by decide) rfl w_1917 wp_40 ea6 (by rw [mσ5]; exact t7) rfl rfl (Nat.le_of_ble_eq_true rfl) (by decide) h
    replace h := h.2
    by_cases w1319 : (mi σ5 a8 x2.toNatClampNeg) = 119
    · refine s_tableIn (off := 267) (tgt := 314) dX9_readCommand_47 (by rw [w1319]; decide) (by rw [w1319]; decide) (by rw [w1319]; decide) (by decide) ?_
      have h := h.1 w1319
      refine s_aload_n (i := 0) dX9_readCommand_314 rfl rfl ?_
      obtain ⟨q109, v110, z111, u112⟩ := txs_16 sok
      refine s_ldcS dX9_readCommand_315 z111 ?_
      replace h := h q109 ⟨v110, u112⟩
      exact t_callV (ci := 9) (as := [(vR (some q109))]) (S := []) gk dX9_readCommand_317 gX9_195 (by decide) rfl w_1917 wp_40 ea6 (by rw [mσ5]; exact t7) rfl rfl (Nat.le_of_ble_eq_true rfl) (by decide) h
    replace h := h.2
    by_cases w1320 : (mi σ5 a8 x2.toNatClampNeg) = 120
    · refine s_tableIn (off := 370) (tgt := 417) dX9_readCommand_47 (by rw [w1320]; decide) (by rw [w1320]; decide) (by rw [w1320]; decide) (by decide) ?_
      have h := h.1 w1320
      refine s_aload_n (i := 0) dX9_readCommand_417 rfl rfl ?_
      obtain ⟨q113, v114, z115, u116⟩ := txs_10 sok
      refine s_ldcS dX9_readCommand_418 z115 ?_
      replace h := h q113 ⟨v114, u116⟩
      exact t_callV (ci := 9) (as := [(vR (some q113))]) (S := []) gk dX9_readCommand_420 gX9_195 (by decide) rfl w_1917 wp_40 ea6 (by rw [mσ5]; exact t7) rfl rfl (Nat.le_of_ble_eq_true rfl) (by decide) h
    replace h := h.2
    by_cases w1321 : (mi σ5 a8 x2.toNatClampNeg) = 121
    · refine s_tableIn (off := 370) (tgt := 417) dX9_readCommand_47 (by rw [w1321]; decide) (by rw [w1321]; decide) (by rw [w1321]; decide) (by decide) ?_
      have h := h.1 w1321
      refine s_aload_n (i := 0) dX9_readCommand_417 rfl rfl ?_
      obtain ⟨q117, v118, z119, u120⟩ := txs_10 sok
      refine s_ldcS dX9_readCommand_418 z119 ?_
      replace h := h q117 ⟨v118, u120⟩
      exact t_callV (ci := 9) (as := [(vR (some q117))]) (S := []) gk dX9_readCommand_420 gX9_195 (by decide) rfl w_1917 wp_40 ea6 (by rw [mσ5]; exact t7) rfl rfl (Nat.le_of_ble_eq_true rfl) (by decide) h
    replace h := h.2
    by_cases w1322 : (mi σ5 a8 x2.toNatClampNeg) = 122
    · refine s_tableIn (off := 337) (tgt := 384) dX9_readCommand_47 (by rw [w1322]; decide) (by rw [w1322]; decide) (by rw [w1322]; decide) (by decide) ?_
      have h := h w1322
      refine s_aload_n (i := 0) dX9_readCommand_384 rfl rfl ?_
      refine s_iload_n (i := 1) dX9_readCommand_385 rfl rfl ?_
      refine s_bipush (v := 100) dX9_readCommand_386 (by decide) ?_
      refine s_icmp_ne (tgt := 396) dX9_readCommand_388 (by decide) (fun q121 => ?_) (fun q121 => ?_)
      · have h := h.1 q121
        obtain ⟨q122, v123, z124, u125⟩ := txs_10 sok
        refine s_ldcS dX9_readCommand_396 z124 ?_
        replace h := h q122 ⟨v123, u125⟩
        exact t_callV (ci := 9) (as := [(vR (some q122))]) (S := []) gk dX9_readCommand_398 gX9_195 (by decide) rfl w_1917 wp_40 ea6 (by rw [mσ5]; exact t7) rfl rfl (Nat.le_of_ble_eq_true rfl) (by decide) h
      · have h := h.2 q121
        obtain ⟨q126, v127, z128, u129⟩ := txs_18 sok
        refine s_ldcS dX9_readCommand_391 z128 ?_
        replace h := h q126 ⟨v127, u129⟩
        refine s_goto (tgt := 398) dX9_readCommand_393 (by decide) ?_
        exact t_callV (ci := 9) (as := [(vR (some q126))]) (S := []) gk dX9_readCommand_398 gX9_195 (by decide) rfl w_1917 wp_40 ea6 (by rw [mσ5]; exact t7) rfl rfl (Nat.le_of_ble_eq_true rfl) (by decide) h
    exact (tb_cover (x := (mi σ5 a8 x2.toNatClampNeg)) (lo := 100) (n := 23) (fun k hk => by match k, hk with | 0, _ => exact w130 | 1, _ => exact w131 | 2, _ => exact w132 | 3, _ => exact w133 | 4, _ => exact w134 | 5, _ => exact w135 | 6, _ => exact w136 | 7, _ => exact w137 | 8, _ => exact w138 | 9, _ => exact w139 | 10, _ => exact w1310 | 11, _ => exact w1311 | 12, _ => exact w1312 | 13, _ => exact w1313 | 14, _ => exact w1314 | 15, _ => exact w1315 | 16, _ => exact w1316 | 17, _ => exact w1317 | 18, _ => exact w1318 | 19, _ => exact w1319 | 20, _ => exact w1320 | 21, _ => exact w1321 | 22, _ => exact w1322 | k + 23, hk => omega) (by decide) q12).elim
theorem vX1_readKeyword_28 {G : GG} (gk : GOK G) {σ : Mm} {K : RES → Mm → Prop} {x0 : Option Nat} {x1 : Int32} {x2 : Int32} {x3 : Int32} {x4 : Option Nat} {s0 : Int32}
    (h : ∃ a1, x4 = some a1 ∧ oO G "java/lang/String" a1 ∧ Runs G mJ0_length_8abf5 rJ0_length_8abf5 [(vR (some a1))] σ (bk G mX1_readKeyword rX1_readKeyword 0 0 37 [some (vR x0), some (vI x1), some (vI x2), some (vI x3), some (vR x4), some (vI s0)] [(vI s0)] K)) : At G mX1_readKeyword rX1_readKeyword 0 0 28 [some (vR x0), some (vI x1), some (vI x2), some (vI x3), some (vR x4), none] [(vI s0)] σ K := by
  refine s_istore (L' := [some (vR x0), some (vI x1), some (vI x2), some (vI x3), some (vR x4), some (vI s0)]) dX1_readKeyword_28 rfl (by decide) rfl ?_
  refine s_iload dX1_readKeyword_30 rfl ?_
  refine s_aload dX1_readKeyword_32 rfl ?_
  obtain ⟨a1, ea1, h⟩ := h
  obtain ⟨o2, h⟩ := h
  subst ea1
  exact s_callVS (rmY := rJ0_length_8abf5) (as := []) (S := [(vI s0)]) gk dX1_readKeyword_34 gX1_67 w_1164 w_1165 o2 rfl rfl (Nat.le_of_ble_eq_true rfl) (by decide) h
theorem vX1_countSame_2 {G : GG} (gk : GOK G) {σ : Mm} {K : RES → Mm → Prop} {x0 : Option Nat} {x1 : Option Nat} {x2 : Int32} {x3 : Int32}
    (h : ∃ a1, x1 = some a1 ∧ oO G "java/lang/String" a1 ∧ Runs G mJ0_length_8abf5 rJ0_length_8abf5 [(vR (some a1))] σ (bk G mX1_countSame rX1_countSame 0 0 7 [some (vR x0), some (vR x1), some (vI x2), some (vI x3)] [(vI x3)] K)) : At G mX1_countSame rX1_countSame 0 0 2 [some (vR x0), some (vR x1), some (vI x2), some (vI x3)] [] σ K := by
  refine s_iload_n (i := 3) dX1_countSame_2 rfl rfl ?_
  refine s_aload_n (i := 1) dX1_countSame_3 rfl rfl ?_
  obtain ⟨a1, ea1, h⟩ := h
  obtain ⟨o2, h⟩ := h
  subst ea1
  exact s_callVS (rmY := rJ0_length_8abf5) (as := []) (S := [(vI x3)]) gk dX1_countSame_4 gX1_67 w_1164 w_1165 o2 rfl rfl (Nat.le_of_ble_eq_true rfl) (by decide) h
theorem vX1_countSame_7 {G : GG} (gk : GOK G) {σ : Mm} {K : RES → Mm → Prop} {x0 : Option Nat} {x1 : Option Nat} {x2 : Int32} {x3 : Int32} {s0 : Int32} {s1 : Int32}
    (h : ((s0 ≤ s1 → ∃ a2, x1 = some a2 ∧ oO G "java/lang/String" a2 ∧ Runs G mJ0_length_8abf5 rJ0_length_8abf5 [(vR (some a2))] σ (bk G mX1_countSame rX1_countSame 0 0 41 [some (vR x0), some (vR x1), some (vI x2), some (vI x3)] [] K)) ∧ (¬ s0 ≤ s1 → ∃ a4, x0 = some a4 ∧ (mt σ a4).1 = 2 ∧ ∀ σ6, σ6 = si σ a4 2 (x2 + x3) → Runs G mX1_next rX1_next [(vR x0)] σ6 (bk G mX1_countSame rX1_countSame 0 0 21 [some (vR x0), some (vR x1), some (vI x2), some (vI x3)] [] K)))) : At G mX1_countSame rX1_countSame 0 0 7 [some (vR x0), some (vR x1), some (vI x2), some (vI x3)] [(vI s0), (vI s1)] σ K := by
  refine s_icmp_ge (tgt := 37) dX1_countSame_7 (by decide) (fun q1 => ?_) (fun q1 => ?_)
  · have h := h.1 q1
    refine s_aload_n (i := 1) dX1_countSame_37 rfl rfl ?_
    obtain ⟨a2, ea2, h⟩ := h
    obtain ⟨o3, h⟩ := h
    subst ea2
    exact s_callVS (rmY := rJ0_length_8abf5) (as := []) (S := []) gk dX1_countSame_38 gX1_67 w_1164 w_1165 o3 rfl rfl (Nat.le_of_ble_eq_true rfl) (by decide) h
  · have h := h.2 q1
    refine s_aload_n (i := 0) dX1_countSame_10 rfl rfl ?_
    refine s_iload_n (i := 2) dX1_countSame_11 rfl rfl ?_
    refine s_iload_n (i := 3) dX1_countSame_12 rfl rfl ?_
    refine s_iadd dX1_countSame_13 ?_
    obtain ⟨a4, ea4, h⟩ := h
    obtain ⟨t5, h⟩ := h
    refine t_putI gk dX1_countSame_14 fX1_19 rfl rfl ea4 t5 ⟨rfl, rfl⟩ (fun σ6 eσ6 mσ6 => ?_)
    replace h := h σ6 eσ6
    refine s_aload_n (i := 0) dX1_countSame_17 rfl rfl ?_
    exact t_callV (ci := 1) (as := []) (S := []) gk dX1_countSame_18 gX1_77 (by decide) rfl w_1424 w_1425 ea4 (by rw [mσ6]; exact t5) rfl rfl (Nat.le_of_ble_eq_true rfl) (by decide) h
theorem vX1_countSame_21 {G : GG} (gk : GOK G) {σ : Mm} {K : RES → Mm → Prop} {x0 : Option Nat} {x1 : Option Nat} {x2 : Int32} {x3 : Int32} {s0 : Int32}
    (h : ∃ a1, x1 = some a1 ∧ oO G "java/lang/String" a1 ∧ Runs G mJ0_charAt_5068e rJ0_charAt_5068e [(vR (some a1)), (vI x3)] σ (bk G mX1_countSame rX1_countSame 0 0 26 [some (vR x0), some (vR x1), some (vI x2), some (vI x3)] [(vI s0)] K)) : At G mX1_countSame rX1_countSame 0 0 21 [some (vR x0), some (vR x1), some (vI x2), some (vI x3)] [(vI s0)] σ K := by
  refine s_aload_n (i := 1) dX1_countSame_21 rfl rfl ?_
  refine s_iload_n (i := 3) dX1_countSame_22 rfl rfl ?_
  obtain ⟨a1, ea1, h⟩ := h
  obtain ⟨o2, h⟩ := h
  subst ea1
  exact s_callVS (rmY := rJ0_charAt_5068e) (as := [(vI x3)]) (S := [(vI s0)]) gk dX1_countSame_23 gX1_81 w_1428 w_1429 o2 rfl rfl (Nat.le_of_ble_eq_true rfl) (by decide) h
theorem vX1_keywordOf_0 {G : GG} (gk : GOK G) (sok : SOK G) {σ : Mm} {K : RES → Mm → Prop} {x0 : Int32}
    (h : ((x0.toInt < 0 ∨ 7 < x0.toInt → ∀ q3 : Nat, SCT G q3 [112, 97, 115, 115] → K (.inl (some (vR (some q3)))) σ) ∧ ((x0 = 0 → ∀ q7 : Nat, SCT G q7 [106, 97, 114, 32] → K (.inl (some (vR (some q7)))) σ) ∧ ((x0 = 1 → ∀ q11 : Nat, SCT G q11 [115, 97, 121, 32] → K (.inl (some (vR (some q11)))) σ) ∧ ((x0 = 2 → ∀ q15 : Nat, SCT G q15 [100, 114, 111, 112, 32] → K (.inl (some (vR (some q15)))) σ) ∧ ((x0 = 3 → ∀ q19 : Nat, SCT G q19 [115, 104, 101, 108, 102] → K (.inl (some (vR (some q19)))) σ) ∧ ((x0 = 4 → ∀ q23 : Nat, SCT G q23 [104, 101, 97, 114] → K (.inl (some (vR (some q23)))) σ) ∧ ((x0 = 5 → ∀ q27 : Nat, SCT G q27 [119, 97, 114, 109] → K (.inl (some (vR (some q27)))) σ) ∧ ((x0 = 6 → ∀ q31 : Nat, SCT G q31 [108, 105, 115, 116, 101, 110] → K (.inl (some (vR (some q31)))) σ) ∧ (x0 = 7 → ∀ q35 : Nat, SCT G q35 [100, 101, 97, 102] → K (.inl (some (vR (some q35)))) σ)))))))))) : At G mX1_keywordOf rX1_keywordOf 0 0 0 [some (vI x0)] [] σ K := by
  refine s_iload_n (i := 0) dX1_keywordOf_0 rfl rfl ?_
  by_cases q1 : x0.toInt < 0 ∨ 7 < x0.toInt
  · refine s_tableOut (tgt := 72) dX1_keywordOf_1 q1 (by decide) ?_
    have h := h.1 q1
    obtain ⟨q3, v4, z5, u6⟩ := txs_8 sok
    refine s_ldcS dX1_keywordOf_72 z5 ?_
    replace h := h q3 ⟨v4, u6⟩
    exact s_areturn dX1_keywordOf_74 rfl rfl (by decide) (by decide) h
  · replace h := h.2
    by_cases w20 : x0 = 0
    · refine s_tableIn (off := 47) (tgt := 48) dX1_keywordOf_1 (by rw [w20]; decide) (by rw [w20]; decide) (by rw [w20]; decide) (by decide) ?_
      have h := h.1 w20
      obtain ⟨q7, v8, z9, u10⟩ := txs_0 sok
      refine s_ldcS dX1_keywordOf_48 z9 ?_
      replace h := h q7 ⟨v8, u10⟩
      exact s_areturn dX1_keywordOf_50 rfl rfl (by decide) (by decide) h
    replace h := h.2
    by_cases w21 : x0 = 1
    · refine s_tableIn (off := 50) (tgt := 51) dX1_keywordOf_1 (by rw [w21]; decide) (by rw [w21]; decide) (by rw [w21]; decide) (by decide) ?_
      have h := h.1 w21
      obtain ⟨q11, v12, z13, u14⟩ := txs_1 sok
      refine s_ldcS dX1_keywordOf_51 z13 ?_
      replace h := h q11 ⟨v12, u14⟩
      exact s_areturn dX1_keywordOf_53 rfl rfl (by decide) (by decide) h
    replace h := h.2
    by_cases w22 : x0 = 2
    · refine s_tableIn (off := 53) (tgt := 54) dX1_keywordOf_1 (by rw [w22]; decide) (by rw [w22]; decide) (by rw [w22]; decide) (by decide) ?_
      have h := h.1 w22
      obtain ⟨q15, v16, z17, u18⟩ := txs_2 sok
      refine s_ldcS dX1_keywordOf_54 z17 ?_
      replace h := h q15 ⟨v16, u18⟩
      exact s_areturn dX1_keywordOf_56 rfl rfl (by decide) (by decide) h
    replace h := h.2
    by_cases w23 : x0 = 3
    · refine s_tableIn (off := 56) (tgt := 57) dX1_keywordOf_1 (by rw [w23]; decide) (by rw [w23]; decide) (by rw [w23]; decide) (by decide) ?_
      have h := h.1 w23
      obtain ⟨q19, v20, z21, u22⟩ := txs_3 sok
      refine s_ldcS dX1_keywordOf_57 z21 ?_
      replace h := h q19 ⟨v20, u22⟩
      exact s_areturn dX1_keywordOf_59 rfl rfl (by decide) (by decide) h
    replace h := h.2
    by_cases w24 : x0 = 4
    · refine s_tableIn (off := 59) (tgt := 60) dX1_keywordOf_1 (by rw [w24]; decide) (by rw [w24]; decide) (by rw [w24]; decide) (by decide) ?_
      have h := h.1 w24
      obtain ⟨q23, v24, z25, u26⟩ := txs_4 sok
      refine s_ldcS dX1_keywordOf_60 z25 ?_
      replace h := h q23 ⟨v24, u26⟩
      exact s_areturn dX1_keywordOf_62 rfl rfl (by decide) (by decide) h
    replace h := h.2
    by_cases w25 : x0 = 5
    · refine s_tableIn (off := 62) (tgt := 63) dX1_keywordOf_1 (by rw [w25]; decide) (by rw [w25]; decide) (by rw [w25]; decide) (by decide) ?_
      have h := h.1 w25
      obtain ⟨q27, v28, z29, u30⟩ := txs_5 sok
      refine s_ldcS dX1_keywordOf_63 z29 ?_
      replace h := h q27 ⟨v28, u30⟩
      exact s_areturn dX1_keywordOf_65 rfl rfl (by decide) (by decide) h
    replace h := h.2
    by_cases w26 : x0 = 6
    · refine s_tableIn (off := 65) (tgt := 66) dX1_keywordOf_1 (by rw [w26]; decide) (by rw [w26]; decide) (by rw [w26]; decide) (by decide) ?_
      have h := h.1 w26
      obtain ⟨q31, v32, z33, u34⟩ := txs_6 sok
      refine s_ldcS dX1_keywordOf_66 z33 ?_
      replace h := h q31 ⟨v32, u34⟩
      exact s_areturn dX1_keywordOf_68 rfl rfl (by decide) (by decide) h
    replace h := h.2
    by_cases w27 : x0 = 7
    · refine s_tableIn (off := 68) (tgt := 69) dX1_keywordOf_1 (by rw [w27]; decide) (by rw [w27]; decide) (by rw [w27]; decide) (by decide) ?_
      have h := h w27
      obtain ⟨q35, v36, z37, u38⟩ := txs_7 sok
      refine s_ldcS dX1_keywordOf_69 z37 ?_
      replace h := h q35 ⟨v36, u38⟩
      exact s_areturn dX1_keywordOf_71 rfl rfl (by decide) (by decide) h
    exact (tb_cover (x := x0) (lo := 0) (n := 8) (fun k hk => by match k, hk with | 0, _ => exact w20 | 1, _ => exact w21 | 2, _ => exact w22 | 3, _ => exact w23 | 4, _ => exact w24 | 5, _ => exact w25 | 6, _ => exact w26 | 7, _ => exact w27 | k + 8, hk => omega) (by decide) q1).elim
theorem eX1_keywordOf {G : GG} (gk : GOK G) (sok : SOK G) {σ : Mm} {K : RES → Mm → Prop} {x0 : Int32}
    (h : ((x0.toInt < 0 ∨ 7 < x0.toInt → ∀ q3 : Nat, SCT G q3 [112, 97, 115, 115] → K (.inl (some (vR (some q3)))) σ) ∧ ((x0 = 0 → ∀ q7 : Nat, SCT G q7 [106, 97, 114, 32] → K (.inl (some (vR (some q7)))) σ) ∧ ((x0 = 1 → ∀ q11 : Nat, SCT G q11 [115, 97, 121, 32] → K (.inl (some (vR (some q11)))) σ) ∧ ((x0 = 2 → ∀ q15 : Nat, SCT G q15 [100, 114, 111, 112, 32] → K (.inl (some (vR (some q15)))) σ) ∧ ((x0 = 3 → ∀ q19 : Nat, SCT G q19 [115, 104, 101, 108, 102] → K (.inl (some (vR (some q19)))) σ) ∧ ((x0 = 4 → ∀ q23 : Nat, SCT G q23 [104, 101, 97, 114] → K (.inl (some (vR (some q23)))) σ) ∧ ((x0 = 5 → ∀ q27 : Nat, SCT G q27 [119, 97, 114, 109] → K (.inl (some (vR (some q27)))) σ) ∧ ((x0 = 6 → ∀ q31 : Nat, SCT G q31 [108, 105, 115, 116, 101, 110] → K (.inl (some (vR (some q31)))) σ) ∧ (x0 = 7 → ∀ q35 : Nat, SCT G q35 [100, 101, 97, 102] → K (.inl (some (vR (some q35)))) σ)))))))))) : Runs G mX1_keywordOf rX1_keywordOf [(vI x0)] σ K := Runs.of (by decide) rfl (Nat.le_of_ble_eq_true rfl) (vX1_keywordOf_0 gk sok h)
