theorem vX1_init_0 {G : GG} (gk : GOK G) {uc us : Nat} {σ : Mm} {K : RES → Mm → Prop} {x0 : Option Nat}
    (h : ∃ a1, x0 = some a1 ∧ uc + 1 ≤ rX1_init.cells ∧ us + 60 ≤ rX1_init.slots ∧ ∀ σ4, σ4 = nw σ (53, 60) → (mt σ4 a1).1 = 2 ∧ ∀ σ6, σ6 = sr σ4 a1 0 (some (mz σ)) → ∀ σ7, σ7 = si σ6 a1 1 (0 : Int32) → ∀ σ8, σ8 = si σ7 a1 2 (0 : Int32) → (uc + 1) + 1 ≤ rX1_init.cells ∧ (us + 60) + 10 ≤ rX1_init.slots ∧ ∀ σ11, σ11 = nw σ8 (60, 10) → (mt σ11 a1).1 = 2 ∧ ∀ σ13, σ13 = sr σ11 a1 3 (some (mz σ8)) → ∀ σ14, σ14 = si σ13 a1 4 (0 : Int32) → At G mX1_init rX1_init ((uc + 1) + 1) ((us + 60) + 10) 38 [some (vR x0), some (vI (0 : Int32))] [] σ14 K) : At G mX1_init rX1_init uc us 0 [some (vR x0), none] [] σ K := by
  refine s_aload_n (i := 0) dX1_init_0 rfl rfl ?_
  obtain ⟨a1, ea1, h⟩ := h
  refine t_objInit gk dX1_init_1 w_249 (by decide) (by decide) ea1 ?_
  refine s_aload_n (i := 0) dX1_init_4 rfl rfl ?_
  refine s_bipush (v := 60) dX1_init_5 (by decide) ?_
  obtain ⟨u2, u3, h⟩ := h
  refine s_newa (j := 3) (N := 60) gk dX1_init_7 (by decide) (by decide) rfl w_283 (by decide) (by decide) (by decide) u2 u3 ?_
  replace h := h _ rfl
  generalize nw σ (53, 60) = σ4 at h ⊢
  obtain ⟨t5, h⟩ := h
  refine t_putR gk dX1_init_9 fX1_9 (Or.inr ⟨rfl, rfl, rfl⟩) rfl ea1 t5 (nf_rf rfl) (fun σ6 eσ6 mσ6 => ?_)
  replace h := h σ6 eσ6
  refine s_aload_n (i := 0) dX1_init_12 rfl rfl ?_
  refine s_iconst (v := 0) dX1_init_13 (by decide) ?_
  refine t_putI gk dX1_init_14 fX1_15 rfl rfl ea1 (by rw [mσ6]; exact t5) ⟨rfl, rfl⟩ (fun σ7 eσ7 mσ7 => ?_)
  replace h := h σ7 eσ7
  refine s_aload_n (i := 0) dX1_init_17 rfl rfl ?_
  refine s_iconst (v := 0) dX1_init_18 (by decide) ?_
  refine t_putI gk dX1_init_19 fX1_19 rfl rfl ea1 (by rw [mσ7, mσ6]; exact t5) ⟨rfl, rfl⟩ (fun σ8 eσ8 mσ8 => ?_)
  replace h := h σ8 eσ8
  refine s_aload_n (i := 0) dX1_init_22 rfl rfl ?_
  refine s_bipush (v := 10) dX1_init_23 (by decide) ?_
  obtain ⟨u9, u10, h⟩ := h
  refine s_anew (j := 10) (ci := 0) (N := 10) gk dX1_init_25 (by decide) (by decide) rfl w_250 (List.mem_of_getElem? (i := 259) (by decide +kernel)) (by decide) (by decide) (by decide) u9 u10 ?_
  replace h := h _ rfl
  generalize nw σ8 (60, 10) = σ11 at h ⊢
  obtain ⟨t12, h⟩ := h
  refine t_putR gk dX1_init_28 fX1_24 (Or.inr ⟨rfl, rfl, rfl⟩) rfl ea1 t12 (nf_rf rfl) (fun σ13 eσ13 mσ13 => ?_)
  replace h := h σ13 eσ13
  refine s_aload_n (i := 0) dX1_init_31 rfl rfl ?_
  refine s_iconst (v := 0) dX1_init_32 (by decide) ?_
  refine t_putI gk dX1_init_33 fX1_28 rfl rfl ea1 (by rw [mσ13]; exact t12) ⟨rfl, rfl⟩ (fun σ14 eσ14 mσ14 => ?_)
  replace h := h σ14 eσ14
  refine s_iconst (v := 0) dX1_init_36 (by decide) ?_
  refine s_istore_n (i := 1) (L' := [some (vR x0), some (vI (0 : Int32))]) dX1_init_37 rfl rfl (by decide) rfl ?_
  exact h
theorem eX1_init {G : GG} (gk : GOK G) {σ : Mm} {K : RES → Mm → Prop} {x0 : Option Nat}
    (h : ∃ a1, x0 = some a1 ∧ 0 + 1 ≤ rX1_init.cells ∧ 0 + 60 ≤ rX1_init.slots ∧ ∀ σ4, σ4 = nw σ (53, 60) → (mt σ4 a1).1 = 2 ∧ ∀ σ6, σ6 = sr σ4 a1 0 (some (mz σ)) → ∀ σ7, σ7 = si σ6 a1 1 (0 : Int32) → ∀ σ8, σ8 = si σ7 a1 2 (0 : Int32) → (0 + 1) + 1 ≤ rX1_init.cells ∧ (0 + 60) + 10 ≤ rX1_init.slots ∧ ∀ σ11, σ11 = nw σ8 (60, 10) → (mt σ11 a1).1 = 2 ∧ ∀ σ13, σ13 = sr σ11 a1 3 (some (mz σ8)) → ∀ σ14, σ14 = si σ13 a1 4 (0 : Int32) → At G mX1_init rX1_init ((0 + 1) + 1) ((0 + 60) + 10) 38 [some (vR x0), some (vI (0 : Int32))] [] σ14 K) : Runs G mX1_init rX1_init [(vR x0)] σ K := Runs.of (by decide) rfl (Nat.le_of_ble_eq_true rfl) (vX1_init_0 gk h)
theorem vX1_init_38 {G : GG} (gk : GOK G) {uc us : Nat} {σ : Mm} {K : RES → Mm → Prop} {x0 : Option Nat} {x1 : Int32}
    (h : ∃ a1, x0 = some a1 ∧ (mt σ a1).1 = 2 ∧ ∃ a3, mr σ a1 3 = some a3 ∧ ∃ n5, mt σ a3 = (60, n5) ∧ (((nI n5) ≤ x1 → uc ≤ rX1_init.cells ∧ us ≤ rX1_init.slots ∧ K (.inl none) σ) ∧ (¬ (nI n5) ≤ x1 → uc + 1 ≤ rX1_init.cells ∧ us + 5 ≤ rX1_init.slots ∧ ∀ σ11, σ11 = nw σ (1, 0) → (uc + 1) + rX0_init.cells ≤ rX1_init.cells ∧ (us + 5) + rX0_init.slots ≤ rX1_init.slots ∧ ∃ K12 : RES → Mm → Prop, Runs G mX0_init rX0_init [(vR (some (mz σ)))] σ11 K12 ∧ (∀ E t, ¬ K12 (.inr E) t) ∧ (∀ v t, K12 (.inl v) t → At G mX1_init rX1_init ((uc + 1) + 0) ((us + 5) + 0) 59 [some (vR x0), some (vI x1)] (v.toList ++ [(vR (some (mz σ))), (vI x1), (vR (mr σ a1 3))]) t K)))) : At G mX1_init rX1_init uc us 38 [some (vR x0), some (vI x1)] [] σ K := by
  refine s_iload_n (i := 1) dX1_init_38 rfl rfl ?_
  refine s_aload_n (i := 0) dX1_init_39 rfl rfl ?_
  obtain ⟨a1, ea1, h⟩ := h
  obtain ⟨t2, h⟩ := h
  refine t_getR gk dX1_init_40 fX1_24 rfl ea1 t2 ?_
  obtain ⟨a3, ea3, h⟩ := h
  obtain ⟨n5, t4, h⟩ := h
  refine t_alen (j := 10) gk dX1_init_43 (by decide) ea3 t4 ?_
  refine s_icmp_ge (tgt := 66) dX1_init_44 (by decide) (fun q6 => ?_) (fun q6 => ?_)
  · have h := h.1 q6
    obtain ⟨u7, u8, h⟩ := h
    exact s_return dX1_init_66 rfl u7 u8 h
  · have h := h.2 q6
    refine s_aload_n (i := 0) dX1_init_47 rfl rfl ?_
    refine t_getR gk dX1_init_48 fX1_24 rfl ea1 t2 ?_
    refine s_iload_n (i := 1) dX1_init_51 rfl rfl ?_
    obtain ⟨u9, u10, h⟩ := h
    refine t_new gk dX1_init_52 nX1_22 u9 u10 (fun σ11 eσ11 => ?_)
    replace h := h σ11 eσ11
    refine s_dup dX1_init_55 rfl ?_
    obtain ⟨u13, u14, h⟩ := h
    obtain ⟨K12, h1, h2, h3⟩ := h
    exact s_callIN (nA := 0) (host := "EchoPantry") (a := mz σ) (as := []) (S := [(vR (some (mz σ))), (vI x1), (vR (mr σ a1 3))]) gk dX1_init_56 (List.mem_of_getElem? (i := 261) (by decide +kernel)) w_255 w_9 ⟨by decide, by decide⟩ (by decide +kernel) w_254 rfl rfl rfl rfl (Nat.le_of_ble_eq_true rfl) ⟨by decide, by decide, u13, u14⟩ h1 h2 h3
theorem vX1_init_59 {G : GG} (gk : GOK G) {uc us : Nat} {σ : Mm} {K : RES → Mm → Prop} {x0 : Option Nat} {x1 : Int32} {s0 : Option Nat} {s1 : Int32} {s2 : Option Nat}
    (h : ∃ a1, s2 = some a1 ∧ ∃ n3, mt σ a1 = (60, n3) ∧ vp_in s1 n3 ∧ ∃ a6, s0 = some a6 ∧ (mt σ a6).1 = 1 ∧ ∀ σ5, σ5 = sr σ a1 s1.toNatClampNeg s0 → At G mX1_init rX1_init uc us 38 [some (vR x0), some (vI (x1 + 1))] [] σ5 K) : At G mX1_init rX1_init uc us 59 [some (vR x0), some (vI x1)] [(vR s0), (vI s1), (vR s2)] σ K := by
  obtain ⟨a1, ea1, h⟩ := h
  obtain ⟨n3, t2, h⟩ := h
  obtain ⟨c4, h⟩ := h
  obtain ⟨a6, ea6, h⟩ := h
  obtain ⟨t7, h⟩ := h
  refine t_aast (j := 10) (ci := 0) gk dX1_init_59 (by decide) (by decide) (by decide) rfl ea1 t2 ea6 t7 c4 (fun σ5 eσ5 mσ5 => ?_)
  replace h := h σ5 eσ5
  refine s_iinc (v := x1 + 1) (L' := [some (vR x0), some (vI (x1 + 1))]) dX1_init_60 rfl rfl rfl (by decide) rfl ?_
  refine s_goto (tgt := 38) dX1_init_63 (by decide) ?_
  exact h
theorem vX1_append_0 {G : GG} (gk : GOK G) {σ : Mm} {K : RES → Mm → Prop} {x0 : Option Nat} {x1 : Int32}
    (h : ∃ a1, x0 = some a1 ∧ (mt σ a1).1 = 2 ∧ (((mi σ a1 1) < 0 → K (.inl (some (vI (mi σ a1 1)))) σ) ∧ (¬ (mi σ a1 1) < 0 → ∃ a4, mr σ a1 0 = some a4 ∧ ∃ n6, mt σ a4 = (53, n6) ∧ (((nI n6) ≤ (mi σ a1 1) → K (.inl (some (vI (mi σ a1 1)))) σ) ∧ (¬ (nI n6) ≤ (mi σ a1 1) → vp_in (mi σ a1 1) n6 ∧ isC x1 ∧ ∀ σ9, σ9 = si σ a4 (mi σ a1 1).toNatClampNeg x1 → ∀ σ11, σ11 = si σ9 a1 1 ((mi σ9 a1 1) + (1 : Int32)) → K (.inl (some (vI (mi σ11 a1 1)))) σ11))))) : At G mX1_append rX1_append 0 0 0 [some (vR x0), some (vI x1)] [] σ K := by
  refine s_aload_n (i := 0) dX1_append_0 rfl rfl ?_
  obtain ⟨a1, ea1, h⟩ := h
  obtain ⟨t2, h⟩ := h
  refine t_getI gk dX1_append_1 fX1_15 rfl ea1 t2 ?_
  refine s_if_lt (tgt := 39) dX1_append_4 (by decide) (fun q3 => ?_) (fun q3 => ?_)
  · have h := h.1 q3
    refine s_aload_n (i := 0) dX1_append_39 rfl rfl ?_
    refine t_getI gk dX1_append_40 fX1_15 rfl ea1 t2 ?_
    exact s_ireturn dX1_append_43 rfl rfl (by decide) (by decide) h
  · have h := h.2 q3
    refine s_aload_n (i := 0) dX1_append_7 rfl rfl ?_
    refine t_getI gk dX1_append_8 fX1_15 rfl ea1 t2 ?_
    refine s_aload_n (i := 0) dX1_append_11 rfl rfl ?_
    refine t_getR gk dX1_append_12 fX1_9 rfl ea1 t2 ?_
    obtain ⟨a4, ea4, h⟩ := h
    obtain ⟨n6, t5, h⟩ := h
    refine t_alen (j := 3) gk dX1_append_15 (by decide) ea4 t5 ?_
    refine s_icmp_ge (tgt := 39) dX1_append_16 (by decide) (fun q7 => ?_) (fun q7 => ?_)
    · have h := h.1 q7
      refine s_aload_n (i := 0) dX1_append_39 rfl rfl ?_
      refine t_getI gk dX1_append_40 fX1_15 rfl ea1 t2 ?_
      exact s_ireturn dX1_append_43 rfl rfl (by decide) (by decide) h
    · have h := h.2 q7
      refine s_aload_n (i := 0) dX1_append_19 rfl rfl ?_
      refine t_getR gk dX1_append_20 fX1_9 rfl ea1 t2 ?_
      refine s_aload_n (i := 0) dX1_append_23 rfl rfl ?_
      refine t_getI gk dX1_append_24 fX1_15 rfl ea1 t2 ?_
      refine s_iload_n (i := 1) dX1_append_27 rfl rfl ?_
      obtain ⟨c8, h⟩ := h
      obtain ⟨c10, h⟩ := h
      refine t_cast gk dX1_append_28 ea4 t5 c8 (nf_c c10).1 (fun σ9 eσ9 mσ9 => ?_)
      replace h := h σ9 eσ9
      refine s_aload_n (i := 0) dX1_append_29 rfl rfl ?_
      refine s_dup dX1_append_30 rfl ?_
      refine t_getI gk dX1_append_31 fX1_15 rfl ea1 (by rw [mσ9]; exact t2) ?_
      refine s_iconst (v := 1) dX1_append_34 (by decide) ?_
      refine s_iadd dX1_append_35 ?_
      refine t_putI gk dX1_append_36 fX1_15 rfl rfl ea1 (by rw [mσ9]; exact t2) ⟨rfl, rfl⟩ (fun σ11 eσ11 mσ11 => ?_)
      replace h := h σ11 eσ11
      refine s_aload_n (i := 0) dX1_append_39 rfl rfl ?_
      refine t_getI gk dX1_append_40 fX1_15 rfl ea1 (by rw [mσ11, mσ9]; exact t2) ?_
      exact s_ireturn dX1_append_43 rfl rfl (by decide) (by decide) h
theorem eX1_append {G : GG} (gk : GOK G) {σ : Mm} {K : RES → Mm → Prop} {x0 : Option Nat} {x1 : Int32}
    (h : ∃ a1, x0 = some a1 ∧ (mt σ a1).1 = 2 ∧ (((mi σ a1 1) < 0 → K (.inl (some (vI (mi σ a1 1)))) σ) ∧ (¬ (mi σ a1 1) < 0 → ∃ a4, mr σ a1 0 = some a4 ∧ ∃ n6, mt σ a4 = (53, n6) ∧ (((nI n6) ≤ (mi σ a1 1) → K (.inl (some (vI (mi σ a1 1)))) σ) ∧ (¬ (nI n6) ≤ (mi σ a1 1) → vp_in (mi σ a1 1) n6 ∧ isC x1 ∧ ∀ σ9, σ9 = si σ a4 (mi σ a1 1).toNatClampNeg x1 → ∀ σ11, σ11 = si σ9 a1 1 ((mi σ9 a1 1) + (1 : Int32)) → K (.inl (some (vI (mi σ11 a1 1)))) σ11))))) : Runs G mX1_append rX1_append [(vR x0), (vI x1)] σ K := Runs.of (by decide) rfl (Nat.le_of_ble_eq_true rfl) (vX1_append_0 gk h)
theorem vX1_command_0 {G : GG} (gk : GOK G) {σ : Mm} {K : RES → Mm → Prop} {x0 : Option Nat} {x1 : Int32}
    (h : ((x1 < 0 → K (.inl (some (vR none))) σ) ∧ (¬ x1 < 0 → ∃ a2, x0 = some a2 ∧ (mt σ a2).1 = 2 ∧ ∃ a4, mr σ a2 3 = some a4 ∧ ∃ n6, mt σ a4 = (60, n6) ∧ ((x1 < (nI n6) → vp_in x1 n6 ∧ K (.inl (some (vR (mr σ a4 x1.toNatClampNeg)))) σ) ∧ (¬ x1 < (nI n6) → K (.inl (some (vR none))) σ))))) : At G mX1_command rX1_command 0 0 0 [some (vR x0), some (vI x1)] [] σ K := by
  refine s_iload_n (i := 1) dX1_command_0 rfl rfl ?_
  refine s_if_lt (tgt := 13) dX1_command_1 (by decide) (fun q1 => ?_) (fun q1 => ?_)
  · have h := h.1 q1
    refine s_null dX1_command_13 ?_
    refine s_goto (tgt := 23) dX1_command_14 (by decide) ?_
    exact s_areturn dX1_command_23 rfl rfl (by decide) (by decide) h
  · have h := h.2 q1
    refine s_iload_n (i := 1) dX1_command_4 rfl rfl ?_
    refine s_aload_n (i := 0) dX1_command_5 rfl rfl ?_
    obtain ⟨a2, ea2, h⟩ := h
    obtain ⟨t3, h⟩ := h
    refine t_getR gk dX1_command_6 fX1_24 rfl ea2 t3 ?_
    obtain ⟨a4, ea4, h⟩ := h
    obtain ⟨n6, t5, h⟩ := h
    refine t_alen (j := 10) gk dX1_command_9 (by decide) ea4 t5 ?_
    refine s_icmp_lt (tgt := 17) dX1_command_10 (by decide) (fun q7 => ?_) (fun q7 => ?_)
    · have h := h.1 q7
      refine s_aload_n (i := 0) dX1_command_17 rfl rfl ?_
      refine t_getR gk dX1_command_18 fX1_24 rfl ea2 t3 ?_
      refine s_iload_n (i := 1) dX1_command_21 rfl rfl ?_
      obtain ⟨c8, h⟩ := h
      refine t_aald (j := 10) gk dX1_command_22 (by decide) (by decide) ea4 t5 c8 ?_
      exact s_areturn dX1_command_23 rfl rfl (by decide) (by decide) h
    · have h := h.2 q7
      refine s_null dX1_command_13 ?_
      refine s_goto (tgt := 23) dX1_command_14 (by decide) ?_
      exact s_areturn dX1_command_23 rfl rfl (by decide) (by decide) h
theorem eX1_command {G : GG} (gk : GOK G) {σ : Mm} {K : RES → Mm → Prop} {x0 : Option Nat} {x1 : Int32}
    (h : ((x1 < 0 → K (.inl (some (vR none))) σ) ∧ (¬ x1 < 0 → ∃ a2, x0 = some a2 ∧ (mt σ a2).1 = 2 ∧ ∃ a4, mr σ a2 3 = some a4 ∧ ∃ n6, mt σ a4 = (60, n6) ∧ ((x1 < (nI n6) → vp_in x1 n6 ∧ K (.inl (some (vR (mr σ a4 x1.toNatClampNeg)))) σ) ∧ (¬ x1 < (nI n6) → K (.inl (some (vR none))) σ))))) : Runs G mX1_command rX1_command [(vR x0), (vI x1)] σ K := Runs.of (by decide) rfl (Nat.le_of_ble_eq_true rfl) (vX1_command_0 gk h)
theorem vX1_parse_0 {G : GG} (gk : GOK G) {σ : Mm} {K : RES → Mm → Prop} {x0 : Option Nat}
    (h : ∃ a1, x0 = some a1 ∧ (mt σ a1).1 = 2 ∧ ∀ σ3, σ3 = si σ a1 2 (0 : Int32) → ∀ σ4, σ4 = si σ3 a1 4 (0 : Int32) → ∃ a5, mr σ4 a1 3 = some a5 ∧ ∃ n7, mt σ a5 = (60, n7) ∧ At G mX1_parse rX1_parse 0 0 20 [some (vR x0), some (vR (mr σ4 a1 3)), some (vI (nI n7)), some (vI (0 : Int32)), none] [] σ4 K) : At G mX1_parse rX1_parse 0 0 0 [some (vR x0), none, none, none, none] [] σ K := by
  refine s_aload_n (i := 0) dX1_parse_0 rfl rfl ?_
  refine s_iconst (v := 0) dX1_parse_1 (by decide) ?_
  obtain ⟨a1, ea1, h⟩ := h
  obtain ⟨t2, h⟩ := h
  refine t_putI gk dX1_parse_2 fX1_19 rfl rfl ea1 t2 ⟨rfl, rfl⟩ (fun σ3 eσ3 mσ3 => ?_)
  replace h := h σ3 eσ3
  refine s_aload_n (i := 0) dX1_parse_5 rfl rfl ?_
  refine s_iconst (v := 0) dX1_parse_6 (by decide) ?_
  refine t_putI gk dX1_parse_7 fX1_28 rfl rfl ea1 (by rw [mσ3]; exact t2) ⟨rfl, rfl⟩ (fun σ4 eσ4 mσ4 => ?_)
  replace h := h σ4 eσ4
  refine s_aload_n (i := 0) dX1_parse_10 rfl rfl ?_
  refine t_getR gk dX1_parse_11 fX1_24 rfl ea1 (by rw [mσ4, mσ3]; exact t2) ?_
  refine s_astore_n (i := 1) (L' := [some (vR x0), some (vR (mr σ4 a1 3)), none, none, none]) dX1_parse_14 rfl rfl (by decide) rfl ?_
  refine s_aload_n (i := 1) dX1_parse_15 rfl rfl ?_
  obtain ⟨a5, ea5, h⟩ := h
  obtain ⟨n7, t6, h⟩ := h
  refine t_alen (j := 10) gk dX1_parse_16 (by decide) ea5 (by rw [mσ4, mσ3]; exact t6) ?_
  refine s_istore_n (i := 2) (L' := [some (vR x0), some (vR (mr σ4 a1 3)), some (vI (nI n7)), none, none]) dX1_parse_17 rfl rfl (by decide) rfl ?_
  refine s_iconst (v := 0) dX1_parse_18 (by decide) ?_
  refine s_istore_n (i := 3) (L' := [some (vR x0), some (vR (mr σ4 a1 3)), some (vI (nI n7)), some (vI (0 : Int32)), none]) dX1_parse_19 rfl rfl (by decide) rfl ?_
  exact h
theorem eX1_parse {G : GG} (gk : GOK G) {σ : Mm} {K : RES → Mm → Prop} {x0 : Option Nat}
    (h : ∃ a1, x0 = some a1 ∧ (mt σ a1).1 = 2 ∧ ∀ σ3, σ3 = si σ a1 2 (0 : Int32) → ∀ σ4, σ4 = si σ3 a1 4 (0 : Int32) → ∃ a5, mr σ4 a1 3 = some a5 ∧ ∃ n7, mt σ a5 = (60, n7) ∧ At G mX1_parse rX1_parse 0 0 20 [some (vR x0), some (vR (mr σ4 a1 3)), some (vI (nI n7)), some (vI (0 : Int32)), none] [] σ4 K) : Runs G mX1_parse rX1_parse [(vR x0)] σ K := Runs.of (by decide) rfl (Nat.le_of_ble_eq_true rfl) (vX1_parse_0 gk h)
theorem vX1_parse_20 {G : GG} (gk : GOK G) {σ : Mm} {K : RES → Mm → Prop} {x0 : Option Nat} {x1 : Option Nat} {x2 : Int32} {x3 : Int32}
    (h : ((x2 ≤ x3 → K (.inl (some (vI (0 : Int32)))) σ) ∧ (¬ x2 ≤ x3 → ∃ a2, x1 = some a2 ∧ ∃ n4, mt σ a2 = (60, n4) ∧ vp_in x3 n4 ∧ ∃ a6, x0 = some a6 ∧ (mt σ a6).1 = 2 ∧ Runs G mX1_readCommand rX1_readCommand [(vR x0), (vR (mr σ a2 x3.toNatClampNeg))] σ (bk G mX1_parse rX1_parse 0 0 36 [some (vR x0), some (vR x1), some (vI x2), some (vI x3), some (vR (mr σ a2 x3.toNatClampNeg))] [] K)))) : At G mX1_parse rX1_parse 0 0 20 [some (vR x0), some (vR x1), some (vI x2), some (vI x3), none] [] σ K := by
  refine s_iload_n (i := 3) dX1_parse_20 rfl rfl ?_
  refine s_iload_n (i := 2) dX1_parse_21 rfl rfl ?_
  refine s_icmp_ge (tgt := 81) dX1_parse_22 (by decide) (fun q1 => ?_) (fun q1 => ?_)
  · have h := h.1 q1
    refine s_iconst (v := 0) dX1_parse_81 (by decide) ?_
    exact s_ireturn dX1_parse_82 rfl rfl (by decide) (by decide) h
  · have h := h.2 q1
    refine s_aload_n (i := 1) dX1_parse_25 rfl rfl ?_
    refine s_iload_n (i := 3) dX1_parse_26 rfl rfl ?_
    obtain ⟨a2, ea2, h⟩ := h
    obtain ⟨n4, t3, h⟩ := h
    obtain ⟨c5, h⟩ := h
    refine t_aald (j := 10) gk dX1_parse_27 (by decide) (by decide) ea2 t3 c5 ?_
    refine s_astore (L' := [some (vR x0), some (vR x1), some (vI x2), some (vI x3), some (vR (mr σ a2 x3.toNatClampNeg))]) dX1_parse_28 rfl (by decide) rfl ?_
    refine s_aload_n (i := 0) dX1_parse_30 rfl rfl ?_
    refine s_aload dX1_parse_31 rfl ?_
    obtain ⟨a6, ea6, h⟩ := h
    obtain ⟨t7, h⟩ := h
    exact t_callV (ci := 1) (as := [(vR (mr σ a2 x3.toNatClampNeg))]) (S := []) gk dX1_parse_33 gX1_32 (by decide) rfl w_1462 w_1463 ea6 t7 rfl rfl (Nat.le_of_ble_eq_true rfl) (by decide) h
theorem vX1_parse_36 {G : GG} (gk : GOK G) {σ : Mm} {K : RES → Mm → Prop} {x0 : Option Nat} {x1 : Option Nat} {x2 : Int32} {x3 : Int32} {x4 : Option Nat} {s0 : Int32}
    (h : ((¬ s0 = 0 → ∃ a2, x0 = some a2 ∧ (mt σ a2).1 = 2 ∧ ∀ σ4, σ4 = si σ a2 4 ((mi σ a2 4) + (1 : Int32)) → (((mi σ4 a2 2) < (mi σ4 a2 1) → Runs G mX1_readSign rX1_readSign [(vR x0), (vI (59 : Int32))] σ4 (bk G mX1_parse rX1_parse 0 0 70 [some (vR x0), some (vR x1), some (vI x2), some (vI x3), some (vR x4)] [] K)) ∧ (¬ (mi σ4 a2 2) < (mi σ4 a2 1) → K (.inl (some (vI (1 : Int32)))) σ4))) ∧ (s0 = 0 → K (.inl (some (vI (0 : Int32)))) σ))) : At G mX1_parse rX1_parse 0 0 36 [some (vR x0), some (vR x1), some (vI x2), some (vI x3), some (vR x4)] [(vI s0)] σ K := by
  refine s_if_ne (tgt := 41) dX1_parse_36 (by decide) (fun q1 => ?_) (fun q1 => ?_)
  · have h := h.1 q1
    refine s_aload_n (i := 0) dX1_parse_41 rfl rfl ?_
    refine s_dup dX1_parse_42 rfl ?_
    obtain ⟨a2, ea2, h⟩ := h
    obtain ⟨t3, h⟩ := h
    refine t_getI gk dX1_parse_43 fX1_28 rfl ea2 t3 ?_
    refine s_iconst (v := 1) dX1_parse_46 (by decide) ?_
    refine s_iadd dX1_parse_47 ?_
    refine t_putI gk dX1_parse_48 fX1_28 rfl rfl ea2 t3 ⟨rfl, rfl⟩ (fun σ4 eσ4 mσ4 => ?_)
    replace h := h σ4 eσ4
    refine s_aload_n (i := 0) dX1_parse_51 rfl rfl ?_
    refine t_getI gk dX1_parse_52 fX1_19 rfl ea2 (by rw [mσ4]; exact t3) ?_
    refine s_aload_n (i := 0) dX1_parse_55 rfl rfl ?_
    refine t_getI gk dX1_parse_56 fX1_15 rfl ea2 (by rw [mσ4]; exact t3) ?_
    refine s_icmp_lt (tgt := 64) dX1_parse_59 (by decide) (fun q5 => ?_) (fun q5 => ?_)
    · have h := h.1 q5
      refine s_aload_n (i := 0) dX1_parse_64 rfl rfl ?_
      refine s_bipush (v := 59) dX1_parse_65 (by decide) ?_
      exact t_callV (ci := 1) (as := [(vI (59 : Int32))]) (S := []) gk dX1_parse_67 gX1_36 (by decide) rfl w_1501 w_1502 ea2 (by rw [mσ4]; exact t3) rfl rfl (Nat.le_of_ble_eq_true rfl) (by decide) h
    · have h := h.2 q5
      refine s_iconst (v := 1) dX1_parse_62 (by decide) ?_
      exact s_ireturn dX1_parse_63 rfl rfl (by decide) (by decide) h
  · have h := h.2 q1
    refine s_iconst (v := 0) dX1_parse_39 (by decide) ?_
    exact s_ireturn dX1_parse_40 rfl rfl (by decide) (by decide) h
theorem vX1_parse_70 {G : GG} (gk : GOK G) {σ : Mm} {K : RES → Mm → Prop} {x0 : Option Nat} {x1 : Option Nat} {x2 : Int32} {x3 : Int32} {x4 : Option Nat} {s0 : Int32}
    (h : ((¬ s0 = 0 → At G mX1_parse rX1_parse 0 0 20 [some (vR x0), some (vR x1), some (vI x2), some (vI (x3 + 1)), none] [] σ K) ∧ (s0 = 0 → K (.inl (some (vI (0 : Int32)))) σ))) : At G mX1_parse rX1_parse 0 0 70 [some (vR x0), some (vR x1), some (vI x2), some (vI x3), some (vR x4)] [(vI s0)] σ K := by
  refine s_if_ne (tgt := 75) dX1_parse_70 (by decide) (fun q1 => ?_) (fun q1 => ?_)
  · have h := h.1 q1
    refine s_iinc (v := x3 + 1) (L' := [some (vR x0), some (vR x1), some (vI x2), some (vI (x3 + 1)), some (vR x4)]) dX1_parse_75 rfl rfl rfl (by decide) rfl ?_
    refine s_goto (tgt := 20) dX1_parse_78 (by decide) ?_
    exact h.msk ⟨rfl, ⟨rfl, ⟨rfl, ⟨rfl, trivial⟩⟩⟩⟩
  · have h := h.2 q1
    refine s_iconst (v := 0) dX1_parse_73 (by decide) ?_
    exact s_ireturn dX1_parse_74 rfl rfl (by decide) (by decide) h
theorem vX1_readCommand_0 {G : GG} (gk : GOK G) {σ : Mm} {K : RES → Mm → Prop} {x0 : Option Nat} {x1 : Option Nat}
    (h : ∃ a1, x0 = some a1 ∧ (mt σ a1).1 = 2 ∧ Runs G mX1_readKeyword rX1_readKeyword [(vR x0)] σ (bk G mX1_readCommand rX1_readCommand 0 0 5 [some (vR x0), some (vR x1)] [(vR x1)] K)) : At G mX1_readCommand rX1_readCommand 0 0 0 [some (vR x0), some (vR x1)] [] σ K := by
  refine s_aload_n (i := 1) dX1_readCommand_0 rfl rfl ?_
  refine s_aload_n (i := 0) dX1_readCommand_1 rfl rfl ?_
  obtain ⟨a1, ea1, h⟩ := h
  obtain ⟨t2, h⟩ := h
  exact t_callV (ci := 1) (as := []) (S := [(vR x1)]) gk dX1_readCommand_2 gX1_40 (by decide) rfl w_1466 w_1467 ea1 t2 rfl rfl (Nat.le_of_ble_eq_true rfl) (by decide) h
theorem eX1_readCommand {G : GG} (gk : GOK G) {σ : Mm} {K : RES → Mm → Prop} {x0 : Option Nat} {x1 : Option Nat}
    (h : ∃ a1, x0 = some a1 ∧ (mt σ a1).1 = 2 ∧ Runs G mX1_readKeyword rX1_readKeyword [(vR x0)] σ (bk G mX1_readCommand rX1_readCommand 0 0 5 [some (vR x0), some (vR x1)] [(vR x1)] K)) : Runs G mX1_readCommand rX1_readCommand [(vR x0), (vR x1)] σ K := Runs.of (by decide) rfl (Nat.le_of_ble_eq_true rfl) (vX1_readCommand_0 gk h)
theorem vX1_readCommand_5 {G : GG} (gk : GOK G) {σ : Mm} {K : RES → Mm → Prop} {x0 : Option Nat} {x1 : Option Nat} {s0 : Int32} {s1 : Option Nat}
    (h : ∃ a1, s1 = some a1 ∧ (mt σ a1).1 = 1 ∧ ∀ σ3, σ3 = si σ a1 0 s0 → ∃ a4, x1 = some a4 ∧ (mt σ a4).1 = 1 ∧ (((mi σ3 a4 0).toInt < 0 ∨ 8 < (mi σ3 a4 0).toInt → K (.inl (some (vI (0 : Int32)))) σ3) ∧ (((mi σ3 a4 0) = 0 → ∃ a8, x0 = some a8 ∧ (mt σ a8).1 = 2 ∧ Runs G mX1_readLetter rX1_readLetter [(vR x0), (vR x1)] σ3 (bk G mX1_readCommand rX1_readCommand 0 0 69 [some (vR x0), some (vR x1)] [] K)) ∧ (((mi σ3 a4 0) = 1 → ∃ a10, x0 = some a10 ∧ (mt σ a10).1 = 2 ∧ Runs G mX1_readLetter rX1_readLetter [(vR x0), (vR x1)] σ3 (bk G mX1_readCommand rX1_readCommand 0 0 69 [some (vR x0), some (vR x1)] [] K)) ∧ (((mi σ3 a4 0) = 2 → ∃ a12, x0 = some a12 ∧ (mt σ a12).1 = 2 ∧ Runs G mX1_readLetter rX1_readLetter [(vR x0), (vR x1)] σ3 (bk G mX1_readCommand rX1_readCommand 0 0 91 [some (vR x0), some (vR x1)] [] K)) ∧ (((mi σ3 a4 0) = 3 → ∃ a14, x0 = some a14 ∧ (mt σ a14).1 = 2 ∧ Runs G mX1_readDigit rX1_readDigit [(vR x0), (vR x1)] σ3 (bk G mX1_readCommand rX1_readCommand 0 0 97 [some (vR x0), some (vR x1)] [] K)) ∧ (((mi σ3 a4 0) = 4 → ∃ a16, x0 = some a16 ∧ (mt σ a16).1 = 2 ∧ Runs G mX1_readDigit rX1_readDigit [(vR x0), (vR x1)] σ3 (bk G mX1_readCommand rX1_readCommand 0 0 136 [some (vR x0), some (vR x1)] [] K)) ∧ (((mi σ3 a4 0) = 5 → ∃ a18, x0 = some a18 ∧ (mt σ a18).1 = 2 ∧ Runs G mX1_readDigit rX1_readDigit [(vR x0), (vR x1)] σ3 (bk G mX1_readCommand rX1_readCommand 0 0 167 [some (vR x0), some (vR x1)] [] K)) ∧ (((mi σ3 a4 0) = 6 → ∃ a20, x0 = some a20 ∧ (mt σ a20).1 = 2 ∧ Runs G mX1_readDigit rX1_readDigit [(vR x0), (vR x1)] σ3 (bk G mX1_readCommand rX1_readCommand 0 0 206 [some (vR x0), some (vR x1)] [] K)) ∧ (((mi σ3 a4 0) = 7 → ∃ a22, x0 = some a22 ∧ (mt σ a22).1 = 2 ∧ Runs G mX1_readDigit rX1_readDigit [(vR x0), (vR x1)] σ3 (bk G mX1_readCommand rX1_readCommand 0 0 206 [some (vR x0), some (vR x1)] [] K)) ∧ ((mi σ3 a4 0) = 8 → ∃ a24, x0 = some a24 ∧ (mt σ a24).1 = 2 ∧ Runs G mX1_readNumber rX1_readNumber [(vR x0), (vR x1)] σ3 (bk G mX1_readCommand rX1_readCommand 0 0 212 [some (vR x0), some (vR x1)] [] K)))))))))))) : At G mX1_readCommand rX1_readCommand 0 0 5 [some (vR x0), some (vR x1)] [(vI s0), (vR s1)] σ K := by
  obtain ⟨a1, ea1, h⟩ := h
  obtain ⟨t2, h⟩ := h
  refine t_putI gk dX1_readCommand_5 fX1_44 rfl rfl ea1 t2 ⟨rfl, rfl⟩ (fun σ3 eσ3 mσ3 => ?_)
  replace h := h σ3 eσ3
  refine s_aload_n (i := 1) dX1_readCommand_8 rfl rfl ?_
  obtain ⟨a4, ea4, h⟩ := h
  obtain ⟨t5, h⟩ := h
  refine t_getI gk dX1_readCommand_9 fX1_44 rfl ea4 (by rw [mσ3]; exact t5) ?_
  by_cases q6 : (mi σ3 a4 0).toInt < 0 ∨ 8 < (mi σ3 a4 0).toInt
  · refine s_tableOut (tgt := 213) dX1_readCommand_12 q6 (by decide) ?_
    have h := h.1 q6
    refine s_iconst (v := 0) dX1_readCommand_213 (by decide) ?_
    exact s_ireturn dX1_readCommand_214 rfl rfl (by decide) (by decide) h
  · replace h := h.2
    by_cases w70 : (mi σ3 a4 0) = 0
    · refine s_tableIn (off := 52) (tgt := 64) dX1_readCommand_12 (by rw [w70]; decide) (by rw [w70]; decide) (by rw [w70]; decide) (by decide) ?_
      have h := h.1 w70
      refine s_aload_n (i := 0) dX1_readCommand_64 rfl rfl ?_
      refine s_aload_n (i := 1) dX1_readCommand_65 rfl rfl ?_
      obtain ⟨a8, ea8, h⟩ := h
      obtain ⟨t9, h⟩ := h
      exact t_callV (ci := 1) (as := [(vR x1)]) (S := []) gk dX1_readCommand_66 gX1_47 (by decide) rfl w_1493 w_1494 ea8 (by rw [mσ3]; exact t9) rfl rfl (Nat.le_of_ble_eq_true rfl) (by decide) h
    replace h := h.2
    by_cases w71 : (mi σ3 a4 0) = 1
    · refine s_tableIn (off := 52) (tgt := 64) dX1_readCommand_12 (by rw [w71]; decide) (by rw [w71]; decide) (by rw [w71]; decide) (by decide) ?_
      have h := h.1 w71
      refine s_aload_n (i := 0) dX1_readCommand_64 rfl rfl ?_
      refine s_aload_n (i := 1) dX1_readCommand_65 rfl rfl ?_
      obtain ⟨a10, ea10, h⟩ := h
      obtain ⟨t11, h⟩ := h
      exact t_callV (ci := 1) (as := [(vR x1)]) (S := []) gk dX1_readCommand_66 gX1_47 (by decide) rfl w_1493 w_1494 ea10 (by rw [mσ3]; exact t11) rfl rfl (Nat.le_of_ble_eq_true rfl) (by decide) h
    replace h := h.2
    by_cases w72 : (mi σ3 a4 0) = 2
    · refine s_tableIn (off := 74) (tgt := 86) dX1_readCommand_12 (by rw [w72]; decide) (by rw [w72]; decide) (by rw [w72]; decide) (by decide) ?_
      have h := h.1 w72
      refine s_aload_n (i := 0) dX1_readCommand_86 rfl rfl ?_
      refine s_aload_n (i := 1) dX1_readCommand_87 rfl rfl ?_
      obtain ⟨a12, ea12, h⟩ := h
      obtain ⟨t13, h⟩ := h
      exact t_callV (ci := 1) (as := [(vR x1)]) (S := []) gk dX1_readCommand_88 gX1_47 (by decide) rfl w_1493 w_1494 ea12 (by rw [mσ3]; exact t13) rfl rfl (Nat.le_of_ble_eq_true rfl) (by decide) h
    replace h := h.2
    by_cases w73 : (mi σ3 a4 0) = 3
    · refine s_tableIn (off := 80) (tgt := 92) dX1_readCommand_12 (by rw [w73]; decide) (by rw [w73]; decide) (by rw [w73]; decide) (by decide) ?_
      have h := h.1 w73
      refine s_aload_n (i := 0) dX1_readCommand_92 rfl rfl ?_
      refine s_aload_n (i := 1) dX1_readCommand_93 rfl rfl ?_
      obtain ⟨a14, ea14, h⟩ := h
      obtain ⟨t15, h⟩ := h
      exact t_callV (ci := 1) (as := [(vR x1)]) (S := []) gk dX1_readCommand_94 gX1_53 (by decide) rfl w_1508 w_1509 ea14 (by rw [mσ3]; exact t15) rfl rfl (Nat.le_of_ble_eq_true rfl) (by decide) h
    replace h := h.2
    by_cases w74 : (mi σ3 a4 0) = 4
    · refine s_tableIn (off := 119) (tgt := 131) dX1_readCommand_12 (by rw [w74]; decide) (by rw [w74]; decide) (by rw [w74]; decide) (by decide) ?_
      have h := h.1 w74
      refine s_aload_n (i := 0) dX1_readCommand_131 rfl rfl ?_
      refine s_aload_n (i := 1) dX1_readCommand_132 rfl rfl ?_
      obtain ⟨a16, ea16, h⟩ := h
      obtain ⟨t17, h⟩ := h
      exact t_callV (ci := 1) (as := [(vR x1)]) (S := []) gk dX1_readCommand_133 gX1_53 (by decide) rfl w_1508 w_1509 ea16 (by rw [mσ3]; exact t17) rfl rfl (Nat.le_of_ble_eq_true rfl) (by decide) h
    replace h := h.2
    by_cases w75 : (mi σ3 a4 0) = 5
    · refine s_tableIn (off := 150) (tgt := 162) dX1_readCommand_12 (by rw [w75]; decide) (by rw [w75]; decide) (by rw [w75]; decide) (by decide) ?_
      have h := h.1 w75
      refine s_aload_n (i := 0) dX1_readCommand_162 rfl rfl ?_
      refine s_aload_n (i := 1) dX1_readCommand_163 rfl rfl ?_
      obtain ⟨a18, ea18, h⟩ := h
      obtain ⟨t19, h⟩ := h
      exact t_callV (ci := 1) (as := [(vR x1)]) (S := []) gk dX1_readCommand_164 gX1_53 (by decide) rfl w_1508 w_1509 ea18 (by rw [mσ3]; exact t19) rfl rfl (Nat.le_of_ble_eq_true rfl) (by decide) h
    replace h := h.2
    by_cases w76 : (mi σ3 a4 0) = 6
    · refine s_tableIn (off := 189) (tgt := 201) dX1_readCommand_12 (by rw [w76]; decide) (by rw [w76]; decide) (by rw [w76]; decide) (by decide) ?_
      have h := h.1 w76
      refine s_aload_n (i := 0) dX1_readCommand_201 rfl rfl ?_
      refine s_aload_n (i := 1) dX1_readCommand_202 rfl rfl ?_
      obtain ⟨a20, ea20, h⟩ := h
      obtain ⟨t21, h⟩ := h
      exact t_callV (ci := 1) (as := [(vR x1)]) (S := []) gk dX1_readCommand_203 gX1_53 (by decide) rfl w_1508 w_1509 ea20 (by rw [mσ3]; exact t21) rfl rfl (Nat.le_of_ble_eq_true rfl) (by decide) h
    replace h := h.2
    by_cases w77 : (mi σ3 a4 0) = 7
    · refine s_tableIn (off := 189) (tgt := 201) dX1_readCommand_12 (by rw [w77]; decide) (by rw [w77]; decide) (by rw [w77]; decide) (by decide) ?_
      have h := h.1 w77
      refine s_aload_n (i := 0) dX1_readCommand_201 rfl rfl ?_
      refine s_aload_n (i := 1) dX1_readCommand_202 rfl rfl ?_
      obtain ⟨a22, ea22, h⟩ := h
      obtain ⟨t23, h⟩ := h
      exact t_callV (ci := 1) (as := [(vR x1)]) (S := []) gk dX1_readCommand_203 gX1_53 (by decide) rfl w_1508 w_1509 ea22 (by rw [mσ3]; exact t23) rfl rfl (Nat.le_of_ble_eq_true rfl) (by decide) h
    replace h := h.2
    by_cases w78 : (mi σ3 a4 0) = 8
    · refine s_tableIn (off := 195) (tgt := 207) dX1_readCommand_12 (by rw [w78]; decide) (by rw [w78]; decide) (by rw [w78]; decide) (by decide) ?_
      have h := h w78
      refine s_aload_n (i := 0) dX1_readCommand_207 rfl rfl ?_
      refine s_aload_n (i := 1) dX1_readCommand_208 rfl rfl ?_
      obtain ⟨a24, ea24, h⟩ := h
      obtain ⟨t25, h⟩ := h
      exact t_callV (ci := 1) (as := [(vR x1)]) (S := []) gk dX1_readCommand_209 gX1_50 (by decide) rfl w_1497 w_1498 ea24 (by rw [mσ3]; exact t25) rfl rfl (Nat.le_of_ble_eq_true rfl) (by decide) h
    exact (tb_cover (x := (mi σ3 a4 0)) (lo := 0) (n := 9) (fun k hk => by match k, hk with | 0, _ => exact w70 | 1, _ => exact w71 | 2, _ => exact w72 | 3, _ => exact w73 | 4, _ => exact w74 | 5, _ => exact w75 | 6, _ => exact w76 | 7, _ => exact w77 | 8, _ => exact w78 | k + 9, hk => omega) (by decide) q6).elim
theorem vX1_readCommand_69 {G : GG} (gk : GOK G) {σ : Mm} {K : RES → Mm → Prop} {x0 : Option Nat} {x1 : Option Nat} {s0 : Int32}
    (h : ((s0 = 0 → K (.inl (some (vI (0 : Int32)))) σ) ∧ (¬ s0 = 0 → ∃ a2, x0 = some a2 ∧ (mt σ a2).1 = 2 ∧ Runs G mX1_readNumber rX1_readNumber [(vR x0), (vR x1)] σ (bk G mX1_readCommand rX1_readCommand 0 0 77 [some (vR x0), some (vR x1)] [] K)))) : At G mX1_readCommand rX1_readCommand 0 0 69 [some (vR x0), some (vR x1)] [(vI s0)] σ K := by
  refine s_if_eq (tgt := 84) dX1_readCommand_69 (by decide) (fun q1 => ?_) (fun q1 => ?_)
  · have h := h.1 q1
    refine s_iconst (v := 0) dX1_readCommand_84 (by decide) ?_
    exact s_ireturn dX1_readCommand_85 rfl rfl (by decide) (by decide) h
  · have h := h.2 q1
    refine s_aload_n (i := 0) dX1_readCommand_72 rfl rfl ?_
    refine s_aload_n (i := 1) dX1_readCommand_73 rfl rfl ?_
    obtain ⟨a2, ea2, h⟩ := h
    obtain ⟨t3, h⟩ := h
    exact t_callV (ci := 1) (as := [(vR x1)]) (S := []) gk dX1_readCommand_74 gX1_50 (by decide) rfl w_1497 w_1498 ea2 t3 rfl rfl (Nat.le_of_ble_eq_true rfl) (by decide) h
theorem vX1_readCommand_77 {G : GG} (gk : GOK G) {σ : Mm} {K : RES → Mm → Prop} {x0 : Option Nat} {x1 : Option Nat} {s0 : Int32}
    (h : ((s0 = 0 → K (.inl (some (vI (0 : Int32)))) σ) ∧ (¬ s0 = 0 → K (.inl (some (vI (1 : Int32)))) σ))) : At G mX1_readCommand rX1_readCommand 0 0 77 [some (vR x0), some (vR x1)] [(vI s0)] σ K := by
  refine s_if_eq (tgt := 84) dX1_readCommand_77 (by decide) (fun q1 => ?_) (fun q1 => ?_)
  · have h := h.1 q1
    refine s_iconst (v := 0) dX1_readCommand_84 (by decide) ?_
    exact s_ireturn dX1_readCommand_85 rfl rfl (by decide) (by decide) h
  · have h := h.2 q1
    refine s_iconst (v := 1) dX1_readCommand_80 (by decide) ?_
    refine s_goto (tgt := 85) dX1_readCommand_81 (by decide) ?_
    exact s_ireturn dX1_readCommand_85 rfl rfl (by decide) (by decide) h
theorem vX1_readCommand_91 {G : GG} (gk : GOK G) {σ : Mm} {K : RES → Mm → Prop} {x0 : Option Nat} {x1 : Option Nat} {s0 : Int32}
    (h : isZ s0 ∧ K (.inl (some (vI s0))) σ) : At G mX1_readCommand rX1_readCommand 0 0 91 [some (vR x0), some (vR x1)] [(vI s0)] σ K := by
  obtain ⟨c1, h⟩ := h
  exact s_ireturn dX1_readCommand_91 rfl (nf_z c1).1 (by decide) (by decide) h
theorem vX1_readCommand_97 {G : GG} (gk : GOK G) {σ : Mm} {K : RES → Mm → Prop} {x0 : Option Nat} {x1 : Option Nat} {s0 : Int32}
    (h : ((s0 = 0 → K (.inl (some (vI (0 : Int32)))) σ) ∧ (¬ s0 = 0 → ∃ a2, x0 = some a2 ∧ (mt σ a2).1 = 2 ∧ Runs G mX1_readNumber rX1_readNumber [(vR x0), (vR x1)] σ (bk G mX1_readCommand rX1_readCommand 0 0 105 [some (vR x0), some (vR x1)] [] K)))) : At G mX1_readCommand rX1_readCommand 0 0 97 [some (vR x0), some (vR x1)] [(vI s0)] σ K := by
  refine s_if_eq (tgt := 129) dX1_readCommand_97 (by decide) (fun q1 => ?_) (fun q1 => ?_)
  · have h := h.1 q1
    refine s_iconst (v := 0) dX1_readCommand_129 (by decide) ?_
    exact s_ireturn dX1_readCommand_130 rfl rfl (by decide) (by decide) h
  · have h := h.2 q1
    refine s_aload_n (i := 0) dX1_readCommand_100 rfl rfl ?_
    refine s_aload_n (i := 1) dX1_readCommand_101 rfl rfl ?_
    obtain ⟨a2, ea2, h⟩ := h
    obtain ⟨t3, h⟩ := h
    exact t_callV (ci := 1) (as := [(vR x1)]) (S := []) gk dX1_readCommand_102 gX1_50 (by decide) rfl w_1497 w_1498 ea2 t3 rfl rfl (Nat.le_of_ble_eq_true rfl) (by decide) h
theorem vX1_readCommand_105 {G : GG} (gk : GOK G) {σ : Mm} {K : RES → Mm → Prop} {x0 : Option Nat} {x1 : Option Nat} {s0 : Int32}
    (h : ((s0 = 0 → K (.inl (some (vI (0 : Int32)))) σ) ∧ (¬ s0 = 0 → ∃ a2, x0 = some a2 ∧ (mt σ a2).1 = 2 ∧ Runs G mX1_readSign rX1_readSign [(vR x0), (vI (32 : Int32))] σ (bk G mX1_readCommand rX1_readCommand 0 0 114 [some (vR x0), some (vR x1)] [] K)))) : At G mX1_readCommand rX1_readCommand 0 0 105 [some (vR x0), some (vR x1)] [(vI s0)] σ K := by
  refine s_if_eq (tgt := 129) dX1_readCommand_105 (by decide) (fun q1 => ?_) (fun q1 => ?_)
  · have h := h.1 q1
    refine s_iconst (v := 0) dX1_readCommand_129 (by decide) ?_
    exact s_ireturn dX1_readCommand_130 rfl rfl (by decide) (by decide) h
  · have h := h.2 q1
    refine s_aload_n (i := 0) dX1_readCommand_108 rfl rfl ?_
    refine s_bipush (v := 32) dX1_readCommand_109 (by decide) ?_
    obtain ⟨a2, ea2, h⟩ := h
    obtain ⟨t3, h⟩ := h
    exact t_callV (ci := 1) (as := [(vI (32 : Int32))]) (S := []) gk dX1_readCommand_111 gX1_36 (by decide) rfl w_1501 w_1502 ea2 t3 rfl rfl (Nat.le_of_ble_eq_true rfl) (by decide) h
theorem vX1_readCommand_114 {G : GG} (gk : GOK G) {σ : Mm} {K : RES → Mm → Prop} {x0 : Option Nat} {x1 : Option Nat} {s0 : Int32}
    (h : ((s0 = 0 → K (.inl (some (vI (0 : Int32)))) σ) ∧ (¬ s0 = 0 → ∃ a2, x0 = some a2 ∧ (mt σ a2).1 = 2 ∧ Runs G mX1_readPolicy rX1_readPolicy [(vR x0), (vR x1)] σ (bk G mX1_readCommand rX1_readCommand 0 0 122 [some (vR x0), some (vR x1)] [] K)))) : At G mX1_readCommand rX1_readCommand 0 0 114 [some (vR x0), some (vR x1)] [(vI s0)] σ K := by
  refine s_if_eq (tgt := 129) dX1_readCommand_114 (by decide) (fun q1 => ?_) (fun q1 => ?_)
  · have h := h.1 q1
    refine s_iconst (v := 0) dX1_readCommand_129 (by decide) ?_
    exact s_ireturn dX1_readCommand_130 rfl rfl (by decide) (by decide) h
  · have h := h.2 q1
    refine s_aload_n (i := 0) dX1_readCommand_117 rfl rfl ?_
    refine s_aload_n (i := 1) dX1_readCommand_118 rfl rfl ?_
    obtain ⟨a2, ea2, h⟩ := h
    obtain ⟨t3, h⟩ := h
    exact t_callV (ci := 1) (as := [(vR x1)]) (S := []) gk dX1_readCommand_119 gX1_56 (by decide) rfl w_1512 w_1513 ea2 t3 rfl rfl (Nat.le_of_ble_eq_true rfl) (by decide) h
theorem vX1_readCommand_122 {G : GG} (gk : GOK G) {σ : Mm} {K : RES → Mm → Prop} {x0 : Option Nat} {x1 : Option Nat} {s0 : Int32}
    (h : ((s0 = 0 → K (.inl (some (vI (0 : Int32)))) σ) ∧ (¬ s0 = 0 → K (.inl (some (vI (1 : Int32)))) σ))) : At G mX1_readCommand rX1_readCommand 0 0 122 [some (vR x0), some (vR x1)] [(vI s0)] σ K := by
  refine s_if_eq (tgt := 129) dX1_readCommand_122 (by decide) (fun q1 => ?_) (fun q1 => ?_)
  · have h := h.1 q1
    refine s_iconst (v := 0) dX1_readCommand_129 (by decide) ?_
    exact s_ireturn dX1_readCommand_130 rfl rfl (by decide) (by decide) h
  · have h := h.2 q1
    refine s_iconst (v := 1) dX1_readCommand_125 (by decide) ?_
    refine s_goto (tgt := 130) dX1_readCommand_126 (by decide) ?_
    exact s_ireturn dX1_readCommand_130 rfl rfl (by decide) (by decide) h
theorem vX1_readCommand_136 {G : GG} (gk : GOK G) {σ : Mm} {K : RES → Mm → Prop} {x0 : Option Nat} {x1 : Option Nat} {s0 : Int32}
    (h : ((s0 = 0 → K (.inl (some (vI (0 : Int32)))) σ) ∧ (¬ s0 = 0 → ∃ a2, x0 = some a2 ∧ (mt σ a2).1 = 2 ∧ Runs G mX1_readSign rX1_readSign [(vR x0), (vI (32 : Int32))] σ (bk G mX1_readCommand rX1_readCommand 0 0 145 [some (vR x0), some (vR x1)] [] K)))) : At G mX1_readCommand rX1_readCommand 0 0 136 [some (vR x0), some (vR x1)] [(vI s0)] σ K := by
  refine s_if_eq (tgt := 160) dX1_readCommand_136 (by decide) (fun q1 => ?_) (fun q1 => ?_)
  · have h := h.1 q1
    refine s_iconst (v := 0) dX1_readCommand_160 (by decide) ?_
    exact s_ireturn dX1_readCommand_161 rfl rfl (by decide) (by decide) h
  · have h := h.2 q1
    refine s_aload_n (i := 0) dX1_readCommand_139 rfl rfl ?_
    refine s_bipush (v := 32) dX1_readCommand_140 (by decide) ?_
    obtain ⟨a2, ea2, h⟩ := h
    obtain ⟨t3, h⟩ := h
    exact t_callV (ci := 1) (as := [(vI (32 : Int32))]) (S := []) gk dX1_readCommand_142 gX1_36 (by decide) rfl w_1501 w_1502 ea2 t3 rfl rfl (Nat.le_of_ble_eq_true rfl) (by decide) h
theorem vX1_readCommand_145 {G : GG} (gk : GOK G) {σ : Mm} {K : RES → Mm → Prop} {x0 : Option Nat} {x1 : Option Nat} {s0 : Int32}
    (h : ((s0 = 0 → K (.inl (some (vI (0 : Int32)))) σ) ∧ (¬ s0 = 0 → ∃ a2, x0 = some a2 ∧ (mt σ a2).1 = 2 ∧ Runs G mX1_readLetter rX1_readLetter [(vR x0), (vR x1)] σ (bk G mX1_readCommand rX1_readCommand 0 0 153 [some (vR x0), some (vR x1)] [] K)))) : At G mX1_readCommand rX1_readCommand 0 0 145 [some (vR x0), some (vR x1)] [(vI s0)] σ K := by
  refine s_if_eq (tgt := 160) dX1_readCommand_145 (by decide) (fun q1 => ?_) (fun q1 => ?_)
  · have h := h.1 q1
    refine s_iconst (v := 0) dX1_readCommand_160 (by decide) ?_
    exact s_ireturn dX1_readCommand_161 rfl rfl (by decide) (by decide) h
  · have h := h.2 q1
    refine s_aload_n (i := 0) dX1_readCommand_148 rfl rfl ?_
    refine s_aload_n (i := 1) dX1_readCommand_149 rfl rfl ?_
    obtain ⟨a2, ea2, h⟩ := h
    obtain ⟨t3, h⟩ := h
    exact t_callV (ci := 1) (as := [(vR x1)]) (S := []) gk dX1_readCommand_150 gX1_47 (by decide) rfl w_1493 w_1494 ea2 t3 rfl rfl (Nat.le_of_ble_eq_true rfl) (by decide) h
theorem vX1_readCommand_153 {G : GG} (gk : GOK G) {σ : Mm} {K : RES → Mm → Prop} {x0 : Option Nat} {x1 : Option Nat} {s0 : Int32}
    (h : ((s0 = 0 → K (.inl (some (vI (0 : Int32)))) σ) ∧ (¬ s0 = 0 → K (.inl (some (vI (1 : Int32)))) σ))) : At G mX1_readCommand rX1_readCommand 0 0 153 [some (vR x0), some (vR x1)] [(vI s0)] σ K := by
  refine s_if_eq (tgt := 160) dX1_readCommand_153 (by decide) (fun q1 => ?_) (fun q1 => ?_)
  · have h := h.1 q1
    refine s_iconst (v := 0) dX1_readCommand_160 (by decide) ?_
    exact s_ireturn dX1_readCommand_161 rfl rfl (by decide) (by decide) h
  · have h := h.2 q1
    refine s_iconst (v := 1) dX1_readCommand_156 (by decide) ?_
    refine s_goto (tgt := 161) dX1_readCommand_157 (by decide) ?_
    exact s_ireturn dX1_readCommand_161 rfl rfl (by decide) (by decide) h
theorem vX1_readCommand_167 {G : GG} (gk : GOK G) {σ : Mm} {K : RES → Mm → Prop} {x0 : Option Nat} {x1 : Option Nat} {s0 : Int32}
    (h : ((s0 = 0 → K (.inl (some (vI (0 : Int32)))) σ) ∧ (¬ s0 = 0 → ∃ a2, x0 = some a2 ∧ (mt σ a2).1 = 2 ∧ Runs G mX1_readSign rX1_readSign [(vR x0), (vI (32 : Int32))] σ (bk G mX1_readCommand rX1_readCommand 0 0 176 [some (vR x0), some (vR x1)] [] K)))) : At G mX1_readCommand rX1_readCommand 0 0 167 [some (vR x0), some (vR x1)] [(vI s0)] σ K := by
  refine s_if_eq (tgt := 199) dX1_readCommand_167 (by decide) (fun q1 => ?_) (fun q1 => ?_)
  · have h := h.1 q1
    refine s_iconst (v := 0) dX1_readCommand_199 (by decide) ?_
    exact s_ireturn dX1_readCommand_200 rfl rfl (by decide) (by decide) h
  · have h := h.2 q1
    refine s_aload_n (i := 0) dX1_readCommand_170 rfl rfl ?_
    refine s_bipush (v := 32) dX1_readCommand_171 (by decide) ?_
    obtain ⟨a2, ea2, h⟩ := h
    obtain ⟨t3, h⟩ := h
    exact t_callV (ci := 1) (as := [(vI (32 : Int32))]) (S := []) gk dX1_readCommand_173 gX1_36 (by decide) rfl w_1501 w_1502 ea2 t3 rfl rfl (Nat.le_of_ble_eq_true rfl) (by decide) h
theorem vX1_readCommand_176 {G : GG} (gk : GOK G) {σ : Mm} {K : RES → Mm → Prop} {x0 : Option Nat} {x1 : Option Nat} {s0 : Int32}
    (h : ((s0 = 0 → K (.inl (some (vI (0 : Int32)))) σ) ∧ (¬ s0 = 0 → ∃ a2, x0 = some a2 ∧ (mt σ a2).1 = 2 ∧ Runs G mX1_readLetter rX1_readLetter [(vR x0), (vR x1)] σ (bk G mX1_readCommand rX1_readCommand 0 0 184 [some (vR x0), some (vR x1)] [] K)))) : At G mX1_readCommand rX1_readCommand 0 0 176 [some (vR x0), some (vR x1)] [(vI s0)] σ K := by
  refine s_if_eq (tgt := 199) dX1_readCommand_176 (by decide) (fun q1 => ?_) (fun q1 => ?_)
  · have h := h.1 q1
    refine s_iconst (v := 0) dX1_readCommand_199 (by decide) ?_
    exact s_ireturn dX1_readCommand_200 rfl rfl (by decide) (by decide) h
  · have h := h.2 q1
    refine s_aload_n (i := 0) dX1_readCommand_179 rfl rfl ?_
    refine s_aload_n (i := 1) dX1_readCommand_180 rfl rfl ?_
    obtain ⟨a2, ea2, h⟩ := h
    obtain ⟨t3, h⟩ := h
    exact t_callV (ci := 1) (as := [(vR x1)]) (S := []) gk dX1_readCommand_181 gX1_47 (by decide) rfl w_1493 w_1494 ea2 t3 rfl rfl (Nat.le_of_ble_eq_true rfl) (by decide) h
theorem vX1_readCommand_184 {G : GG} (gk : GOK G) {σ : Mm} {K : RES → Mm → Prop} {x0 : Option Nat} {x1 : Option Nat} {s0 : Int32}
    (h : ((s0 = 0 → K (.inl (some (vI (0 : Int32)))) σ) ∧ (¬ s0 = 0 → ∃ a2, x0 = some a2 ∧ (mt σ a2).1 = 2 ∧ Runs G mX1_readNumber rX1_readNumber [(vR x0), (vR x1)] σ (bk G mX1_readCommand rX1_readCommand 0 0 192 [some (vR x0), some (vR x1)] [] K)))) : At G mX1_readCommand rX1_readCommand 0 0 184 [some (vR x0), some (vR x1)] [(vI s0)] σ K := by
  refine s_if_eq (tgt := 199) dX1_readCommand_184 (by decide) (fun q1 => ?_) (fun q1 => ?_)
  · have h := h.1 q1
    refine s_iconst (v := 0) dX1_readCommand_199 (by decide) ?_
    exact s_ireturn dX1_readCommand_200 rfl rfl (by decide) (by decide) h
  · have h := h.2 q1
    refine s_aload_n (i := 0) dX1_readCommand_187 rfl rfl ?_
    refine s_aload_n (i := 1) dX1_readCommand_188 rfl rfl ?_
    obtain ⟨a2, ea2, h⟩ := h
    obtain ⟨t3, h⟩ := h
    exact t_callV (ci := 1) (as := [(vR x1)]) (S := []) gk dX1_readCommand_189 gX1_50 (by decide) rfl w_1497 w_1498 ea2 t3 rfl rfl (Nat.le_of_ble_eq_true rfl) (by decide) h
theorem vX1_readCommand_192 {G : GG} (gk : GOK G) {σ : Mm} {K : RES → Mm → Prop} {x0 : Option Nat} {x1 : Option Nat} {s0 : Int32}
    (h : ((s0 = 0 → K (.inl (some (vI (0 : Int32)))) σ) ∧ (¬ s0 = 0 → K (.inl (some (vI (1 : Int32)))) σ))) : At G mX1_readCommand rX1_readCommand 0 0 192 [some (vR x0), some (vR x1)] [(vI s0)] σ K := by
  refine s_if_eq (tgt := 199) dX1_readCommand_192 (by decide) (fun q1 => ?_) (fun q1 => ?_)
  · have h := h.1 q1
    refine s_iconst (v := 0) dX1_readCommand_199 (by decide) ?_
    exact s_ireturn dX1_readCommand_200 rfl rfl (by decide) (by decide) h
  · have h := h.2 q1
    refine s_iconst (v := 1) dX1_readCommand_195 (by decide) ?_
    refine s_goto (tgt := 200) dX1_readCommand_196 (by decide) ?_
    exact s_ireturn dX1_readCommand_200 rfl rfl (by decide) (by decide) h
theorem vX1_readCommand_206 {G : GG} (gk : GOK G) {σ : Mm} {K : RES → Mm → Prop} {x0 : Option Nat} {x1 : Option Nat} {s0 : Int32}
    (h : isZ s0 ∧ K (.inl (some (vI s0))) σ) : At G mX1_readCommand rX1_readCommand 0 0 206 [some (vR x0), some (vR x1)] [(vI s0)] σ K := by
  obtain ⟨c1, h⟩ := h
  exact s_ireturn dX1_readCommand_206 rfl (nf_z c1).1 (by decide) (by decide) h
theorem vX1_readCommand_212 {G : GG} (gk : GOK G) {σ : Mm} {K : RES → Mm → Prop} {x0 : Option Nat} {x1 : Option Nat} {s0 : Int32}
    (h : isZ s0 ∧ K (.inl (some (vI s0))) σ) : At G mX1_readCommand rX1_readCommand 0 0 212 [some (vR x0), some (vR x1)] [(vI s0)] σ K := by
  obtain ⟨c1, h⟩ := h
  exact s_ireturn dX1_readCommand_212 rfl (nf_z c1).1 (by decide) (by decide) h
theorem vX1_next_0 {G : GG} (gk : GOK G) {σ : Mm} {K : RES → Mm → Prop} {x0 : Option Nat}
    (h : ∃ a1, x0 = some a1 ∧ (mt σ a1).1 = 2 ∧ (((mi σ a1 2) < 0 → K (.inl (some (vI (0 : Int32)))) σ) ∧ (¬ (mi σ a1 2) < 0 → (((mi σ a1 1) ≤ (mi σ a1 2) → K (.inl (some (vI (0 : Int32)))) σ) ∧ (¬ (mi σ a1 1) ≤ (mi σ a1 2) → ∃ a5, mr σ a1 0 = some a5 ∧ ∃ n7, mt σ a5 = (53, n7) ∧ (((nI n7) ≤ (mi σ a1 2) → K (.inl (some (vI (0 : Int32)))) σ) ∧ (¬ (nI n7) ≤ (mi σ a1 2) → vp_in (mi σ a1 2) n7 ∧ isC (mi σ a5 (mi σ a1 2).toNatClampNeg) ∧ K (.inl (some (vI (mi σ a5 (mi σ a1 2).toNatClampNeg)))) σ))))))) : At G mX1_next rX1_next 0 0 0 [some (vR x0)] [] σ K := by
  refine s_aload_n (i := 0) dX1_next_0 rfl rfl ?_
  obtain ⟨a1, ea1, h⟩ := h
  obtain ⟨t2, h⟩ := h
  refine t_getI gk dX1_next_1 fX1_19 rfl ea1 t2 ?_
  refine s_if_lt (tgt := 42) dX1_next_4 (by decide) (fun q3 => ?_) (fun q3 => ?_)
  · have h := h.1 q3
    refine s_iconst (v := 0) dX1_next_42 (by decide) ?_
    exact s_ireturn dX1_next_43 rfl rfl (by decide) (by decide) h
  · have h := h.2 q3
    refine s_aload_n (i := 0) dX1_next_7 rfl rfl ?_
    refine t_getI gk dX1_next_8 fX1_19 rfl ea1 t2 ?_
    refine s_aload_n (i := 0) dX1_next_11 rfl rfl ?_
    refine t_getI gk dX1_next_12 fX1_15 rfl ea1 t2 ?_
    refine s_icmp_ge (tgt := 42) dX1_next_15 (by decide) (fun q4 => ?_) (fun q4 => ?_)
    · have h := h.1 q4
      refine s_iconst (v := 0) dX1_next_42 (by decide) ?_
      exact s_ireturn dX1_next_43 rfl rfl (by decide) (by decide) h
    · have h := h.2 q4
      refine s_aload_n (i := 0) dX1_next_18 rfl rfl ?_
      refine t_getI gk dX1_next_19 fX1_19 rfl ea1 t2 ?_
      refine s_aload_n (i := 0) dX1_next_22 rfl rfl ?_
      refine t_getR gk dX1_next_23 fX1_9 rfl ea1 t2 ?_
      obtain ⟨a5, ea5, h⟩ := h
      obtain ⟨n7, t6, h⟩ := h
      refine t_alen (j := 3) gk dX1_next_26 (by decide) ea5 t6 ?_
      refine s_icmp_ge (tgt := 42) dX1_next_27 (by decide) (fun q8 => ?_) (fun q8 => ?_)
      · have h := h.1 q8
        refine s_iconst (v := 0) dX1_next_42 (by decide) ?_
        exact s_ireturn dX1_next_43 rfl rfl (by decide) (by decide) h
      · have h := h.2 q8
        refine s_aload_n (i := 0) dX1_next_30 rfl rfl ?_
        refine t_getR gk dX1_next_31 fX1_9 rfl ea1 t2 ?_
        refine s_aload_n (i := 0) dX1_next_34 rfl rfl ?_
        refine t_getI gk dX1_next_35 fX1_19 rfl ea1 t2 ?_
        obtain ⟨c9, h⟩ := h
        refine t_cald gk dX1_next_38 ea5 t6 c9 ?_
        refine s_goto (tgt := 43) dX1_next_39 (by decide) ?_
        obtain ⟨c10, h⟩ := h
        exact s_ireturn dX1_next_43 rfl (nf_c c10).1 (by decide) (by decide) h
theorem eX1_next {G : GG} (gk : GOK G) {σ : Mm} {K : RES → Mm → Prop} {x0 : Option Nat}
    (h : ∃ a1, x0 = some a1 ∧ (mt σ a1).1 = 2 ∧ (((mi σ a1 2) < 0 → K (.inl (some (vI (0 : Int32)))) σ) ∧ (¬ (mi σ a1 2) < 0 → (((mi σ a1 1) ≤ (mi σ a1 2) → K (.inl (some (vI (0 : Int32)))) σ) ∧ (¬ (mi σ a1 1) ≤ (mi σ a1 2) → ∃ a5, mr σ a1 0 = some a5 ∧ ∃ n7, mt σ a5 = (53, n7) ∧ (((nI n7) ≤ (mi σ a1 2) → K (.inl (some (vI (0 : Int32)))) σ) ∧ (¬ (nI n7) ≤ (mi σ a1 2) → vp_in (mi σ a1 2) n7 ∧ isC (mi σ a5 (mi σ a1 2).toNatClampNeg) ∧ K (.inl (some (vI (mi σ a5 (mi σ a1 2).toNatClampNeg)))) σ))))))) : Runs G mX1_next rX1_next [(vR x0)] σ K := Runs.of (by decide) rfl (Nat.le_of_ble_eq_true rfl) (vX1_next_0 gk h)
theorem vX1_readKeyword_0 {G : GG} (gk : GOK G) {σ : Mm} {K : RES → Mm → Prop} {x0 : Option Nat}
    (h : ∃ a1, x0 = some a1 ∧ (mt σ a1).1 = 2 ∧ At G mX1_readKeyword rX1_readKeyword 0 0 9 [some (vR x0), some (vI (mi σ a1 2)), some (vI (0 : Int32)), some (vI (0 : Int32)), none, none] [] σ K) : At G mX1_readKeyword rX1_readKeyword 0 0 0 [some (vR x0), none, none, none, none, none] [] σ K := by
  refine s_aload_n (i := 0) dX1_readKeyword_0 rfl rfl ?_
  obtain ⟨a1, ea1, h⟩ := h
  obtain ⟨t2, h⟩ := h
  refine t_getI gk dX1_readKeyword_1 fX1_19 rfl ea1 t2 ?_
  refine s_istore_n (i := 1) (L' := [some (vR x0), some (vI (mi σ a1 2)), none, none, none, none]) dX1_readKeyword_4 rfl rfl (by decide) rfl ?_
  refine s_iconst (v := 0) dX1_readKeyword_5 (by decide) ?_
  refine s_istore_n (i := 2) (L' := [some (vR x0), some (vI (mi σ a1 2)), some (vI (0 : Int32)), none, none, none]) dX1_readKeyword_6 rfl rfl (by decide) rfl ?_
  refine s_iconst (v := 0) dX1_readKeyword_7 (by decide) ?_
  refine s_istore_n (i := 3) (L' := [some (vR x0), some (vI (mi σ a1 2)), some (vI (0 : Int32)), some (vI (0 : Int32)), none, none]) dX1_readKeyword_8 rfl rfl (by decide) rfl ?_
  exact h
theorem eX1_readKeyword {G : GG} (gk : GOK G) {σ : Mm} {K : RES → Mm → Prop} {x0 : Option Nat}
    (h : ∃ a1, x0 = some a1 ∧ (mt σ a1).1 = 2 ∧ At G mX1_readKeyword rX1_readKeyword 0 0 9 [some (vR x0), some (vI (mi σ a1 2)), some (vI (0 : Int32)), some (vI (0 : Int32)), none, none] [] σ K) : Runs G mX1_readKeyword rX1_readKeyword [(vR x0)] σ K := Runs.of (by decide) rfl (Nat.le_of_ble_eq_true rfl) (vX1_readKeyword_0 gk h)
theorem vX1_readKeyword_9 {G : GG} (gk : GOK G) {σ : Mm} {K : RES → Mm → Prop} {x0 : Option Nat} {x1 : Int32} {x2 : Int32} {x3 : Int32}
    (h : (((9 : Int32) ≤ x3 → ∃ a2, x0 = some a2 ∧ (mt σ a2).1 = 2 ∧ ∀ σ4, σ4 = si σ a2 2 (x1 + x2) → K (.inl (some (vI (-1 : Int32)))) σ4) ∧ (¬ (9 : Int32) ≤ x3 → Runs G mX1_keywordOf rX1_keywordOf [(vI x3)] σ (bk G mX1_readKeyword rX1_readKeyword 0 0 19 [some (vR x0), some (vI x1), some (vI x2), some (vI x3), none, none] [] K)))) : At G mX1_readKeyword rX1_readKeyword 0 0 9 [some (vR x0), some (vI x1), some (vI x2), some (vI x3), none, none] [] σ K := by
  refine s_iload_n (i := 3) dX1_readKeyword_9 rfl rfl ?_
  refine s_bipush (v := 9) dX1_readKeyword_10 (by decide) ?_
  refine s_icmp_ge (tgt := 63) dX1_readKeyword_12 (by decide) (fun q1 => ?_) (fun q1 => ?_)
  · have h := h.1 q1
    refine s_aload_n (i := 0) dX1_readKeyword_63 rfl rfl ?_
    refine s_iload_n (i := 1) dX1_readKeyword_64 rfl rfl ?_
    refine s_iload_n (i := 2) dX1_readKeyword_65 rfl rfl ?_
    refine s_iadd dX1_readKeyword_66 ?_
    obtain ⟨a2, ea2, h⟩ := h
    obtain ⟨t3, h⟩ := h
    refine t_putI gk dX1_readKeyword_67 fX1_19 rfl rfl ea2 t3 ⟨rfl, rfl⟩ (fun σ4 eσ4 mσ4 => ?_)
    replace h := h σ4 eσ4
    refine s_iconst (v := -1) dX1_readKeyword_70 (by decide) ?_
    exact s_ireturn dX1_readKeyword_71 rfl rfl (by decide) (by decide) h
  · have h := h.2 q1
    refine s_iload_n (i := 3) dX1_readKeyword_15 rfl rfl ?_
    exact s_callS (as := [(vI x3)]) (S := []) gk dX1_readKeyword_16 gX1_59 w_1470 rfl rfl (Nat.le_of_ble_eq_true rfl) (by decide) h
theorem vX1_readKeyword_19 {G : GG} (gk : GOK G) {σ : Mm} {K : RES → Mm → Prop} {x0 : Option Nat} {x1 : Int32} {x2 : Int32} {x3 : Int32} {s0 : Option Nat}
    (h : ∃ a1, x0 = some a1 ∧ (mt σ a1).1 = 2 ∧ Runs G mX1_countSame rX1_countSame [(vR x0), (vR s0), (vI x1)] σ (bk G mX1_readKeyword rX1_readKeyword 0 0 28 [some (vR x0), some (vI x1), some (vI x2), some (vI x3), some (vR s0), none] [] K)) : At G mX1_readKeyword rX1_readKeyword 0 0 19 [some (vR x0), some (vI x1), some (vI x2), some (vI x3), none, none] [(vR s0)] σ K := by
  refine s_astore (L' := [some (vR x0), some (vI x1), some (vI x2), some (vI x3), some (vR s0), none]) dX1_readKeyword_19 rfl (by decide) rfl ?_
  refine s_aload_n (i := 0) dX1_readKeyword_21 rfl rfl ?_
  refine s_aload dX1_readKeyword_22 rfl ?_
  refine s_iload_n (i := 1) dX1_readKeyword_24 rfl rfl ?_
  obtain ⟨a1, ea1, h⟩ := h
  obtain ⟨t2, h⟩ := h
  exact t_callV (ci := 1) (as := [(vR s0), (vI x1)]) (S := []) gk dX1_readKeyword_25 gX1_63 (by decide) rfl w_1482 w_1483 ea1 t2 rfl rfl (Nat.le_of_ble_eq_true rfl) (by decide) h
theorem vX1_readKeyword_37 {G : GG} (gk : GOK G) {σ : Mm} {K : RES → Mm → Prop} {x0 : Option Nat} {x1 : Int32} {x2 : Int32} {x3 : Int32} {x4 : Option Nat} {x5 : Int32} {s0 : Int32} {s1 : Int32}
    (h : ((¬ s1 = s0 → Runs G mJ9_max_7cf53 rJ9_max_7cf53 [(vI x2), (vI x5)] σ (bk G mX1_readKeyword rX1_readKeyword 0 0 56 [some (vR x0), some (vI x1), some (vI x2), some (vI x3), some (vR x4), some (vI x5)] [] K)) ∧ (s1 = s0 → ∃ a2, x0 = some a2 ∧ (mt σ a2).1 = 2 ∧ ∀ σ4, σ4 = si σ a2 2 (x1 + x5) → K (.inl (some (vI x3))) σ4))) : At G mX1_readKeyword rX1_readKeyword 0 0 37 [some (vR x0), some (vI x1), some (vI x2), some (vI x3), some (vR x4), some (vI x5)] [(vI s0), (vI s1)] σ K := by
  refine s_icmp_ne (tgt := 50) dX1_readKeyword_37 (by decide) (fun q1 => ?_) (fun q1 => ?_)
  · have h := h.1 q1
    refine s_iload_n (i := 2) dX1_readKeyword_50 rfl rfl ?_
    refine s_iload dX1_readKeyword_51 rfl ?_
    exact s_callS (as := [(vI x2), (vI x5)]) (S := []) gk dX1_readKeyword_53 gX1_71 w_1115 rfl rfl (Nat.le_of_ble_eq_true rfl) (by decide) h
  · have h := h.2 q1
    refine s_aload_n (i := 0) dX1_readKeyword_40 rfl rfl ?_
    refine s_iload_n (i := 1) dX1_readKeyword_41 rfl rfl ?_
    refine s_iload dX1_readKeyword_42 rfl ?_
    refine s_iadd dX1_readKeyword_44 ?_
    obtain ⟨a2, ea2, h⟩ := h
    obtain ⟨t3, h⟩ := h
    refine t_putI gk dX1_readKeyword_45 fX1_19 rfl rfl ea2 t3 ⟨rfl, rfl⟩ (fun σ4 eσ4 mσ4 => ?_)
    replace h := h σ4 eσ4
    refine s_iload_n (i := 3) dX1_readKeyword_48 rfl rfl ?_
    exact s_ireturn dX1_readKeyword_49 rfl rfl (by decide) (by decide) h
theorem vX1_readKeyword_56 {G : GG} (gk : GOK G) {σ : Mm} {K : RES → Mm → Prop} {x0 : Option Nat} {x1 : Int32} {x2 : Int32} {x3 : Int32} {x4 : Option Nat} {x5 : Int32} {s0 : Int32}
    (h : At G mX1_readKeyword rX1_readKeyword 0 0 9 [some (vR x0), some (vI x1), some (vI s0), some (vI (x3 + 1)), none, none] [] σ K) : At G mX1_readKeyword rX1_readKeyword 0 0 56 [some (vR x0), some (vI x1), some (vI x2), some (vI x3), some (vR x4), some (vI x5)] [(vI s0)] σ K := by
  refine s_istore_n (i := 2) (L' := [some (vR x0), some (vI x1), some (vI s0), some (vI x3), some (vR x4), some (vI x5)]) dX1_readKeyword_56 rfl rfl (by decide) rfl ?_
  refine s_iinc (v := x3 + 1) (L' := [some (vR x0), some (vI x1), some (vI s0), some (vI (x3 + 1)), some (vR x4), some (vI x5)]) dX1_readKeyword_57 rfl rfl rfl (by decide) rfl ?_
  refine s_goto (tgt := 9) dX1_readKeyword_60 (by decide) ?_
  exact h.msk ⟨rfl, ⟨rfl, ⟨rfl, ⟨rfl, trivial⟩⟩⟩⟩
theorem vX1_countSame_0 {G : GG} (gk : GOK G) {σ : Mm} {K : RES → Mm → Prop} {x0 : Option Nat} {x1 : Option Nat} {x2 : Int32}
    (h : At G mX1_countSame rX1_countSame 0 0 2 [some (vR x0), some (vR x1), some (vI x2), some (vI (0 : Int32))] [] σ K) : At G mX1_countSame rX1_countSame 0 0 0 [some (vR x0), some (vR x1), some (vI x2), none] [] σ K := by
  refine s_iconst (v := 0) dX1_countSame_0 (by decide) ?_
  refine s_istore_n (i := 3) (L' := [some (vR x0), some (vR x1), some (vI x2), some (vI (0 : Int32))]) dX1_countSame_1 rfl rfl (by decide) rfl ?_
  exact h
theorem eX1_countSame {G : GG} (gk : GOK G) {σ : Mm} {K : RES → Mm → Prop} {x0 : Option Nat} {x1 : Option Nat} {x2 : Int32}
    (h : At G mX1_countSame rX1_countSame 0 0 2 [some (vR x0), some (vR x1), some (vI x2), some (vI (0 : Int32))] [] σ K) : Runs G mX1_countSame rX1_countSame [(vR x0), (vR x1), (vI x2)] σ K := Runs.of (by decide) rfl (Nat.le_of_ble_eq_true rfl) (vX1_countSame_0 gk h)
theorem vX1_countSame_26 {G : GG} (gk : GOK G) {σ : Mm} {K : RES → Mm → Prop} {x0 : Option Nat} {x1 : Option Nat} {x2 : Int32} {x3 : Int32} {s0 : Int32} {s1 : Int32}
    (h : ((s1 = s0 → At G mX1_countSame rX1_countSame 0 0 2 [some (vR x0), some (vR x1), some (vI x2), some (vI (x3 + 1))] [] σ K) ∧ (¬ s1 = s0 → K (.inl (some (vI x3))) σ))) : At G mX1_countSame rX1_countSame 0 0 26 [some (vR x0), some (vR x1), some (vI x2), some (vI x3)] [(vI s0), (vI s1)] σ K := by
  refine s_icmp_eq (tgt := 31) dX1_countSame_26 (by decide) (fun q1 => ?_) (fun q1 => ?_)
  · have h := h.1 q1
    refine s_iinc (v := x3 + 1) (L' := [some (vR x0), some (vR x1), some (vI x2), some (vI (x3 + 1))]) dX1_countSame_31 rfl rfl rfl (by decide) rfl ?_
    refine s_goto (tgt := 2) dX1_countSame_34 (by decide) ?_
    exact h
  · have h := h.2 q1
    refine s_iload_n (i := 3) dX1_countSame_29 rfl rfl ?_
    exact s_ireturn dX1_countSame_30 rfl rfl (by decide) (by decide) h
theorem vX1_countSame_41 {G : GG} (gk : GOK G) {σ : Mm} {K : RES → Mm → Prop} {x0 : Option Nat} {x1 : Option Nat} {x2 : Int32} {x3 : Int32} {s0 : Int32}
    (h : K (.inl (some (vI s0))) σ) : At G mX1_countSame rX1_countSame 0 0 41 [some (vR x0), some (vR x1), some (vI x2), some (vI x3)] [(vI s0)] σ K := by
  exact s_ireturn dX1_countSame_41 rfl rfl (by decide) (by decide) h
theorem vX1_readSign_0 {G : GG} (gk : GOK G) {σ : Mm} {K : RES → Mm → Prop} {x0 : Option Nat} {x1 : Int32}
    (h : ∃ a1, x0 = some a1 ∧ (mt σ a1).1 = 2 ∧ Runs G mX1_next rX1_next [(vR x0)] σ (bk G mX1_readSign rX1_readSign 0 0 4 [some (vR x0), some (vI x1)] [] K)) : At G mX1_readSign rX1_readSign 0 0 0 [some (vR x0), some (vI x1)] [] σ K := by
  refine s_aload_n (i := 0) dX1_readSign_0 rfl rfl ?_
  obtain ⟨a1, ea1, h⟩ := h
  obtain ⟨t2, h⟩ := h
  exact t_callV (ci := 1) (as := []) (S := []) gk dX1_readSign_1 gX1_77 (by decide) rfl w_1487 w_1488 ea1 t2 rfl rfl (Nat.le_of_ble_eq_true rfl) (by decide) h
theorem eX1_readSign {G : GG} (gk : GOK G) {σ : Mm} {K : RES → Mm → Prop} {x0 : Option Nat} {x1 : Int32}
    (h : ∃ a1, x0 = some a1 ∧ (mt σ a1).1 = 2 ∧ Runs G mX1_next rX1_next [(vR x0)] σ (bk G mX1_readSign rX1_readSign 0 0 4 [some (vR x0), some (vI x1)] [] K)) : Runs G mX1_readSign rX1_readSign [(vR x0), (vI x1)] σ K := Runs.of (by decide) rfl (Nat.le_of_ble_eq_true rfl) (vX1_readSign_0 gk h)
theorem vX1_readSign_4 {G : GG} (gk : GOK G) {σ : Mm} {K : RES → Mm → Prop} {x0 : Option Nat} {x1 : Int32} {s0 : Int32}
    (h : ((s0 = x1 → ∃ a2, x0 = some a2 ∧ (mt σ a2).1 = 2 ∧ ∀ σ4, σ4 = si σ a2 2 ((mi σ a2 2) + (1 : Int32)) → K (.inl (some (vI (1 : Int32)))) σ4) ∧ (¬ s0 = x1 → K (.inl (some (vI (0 : Int32)))) σ))) : At G mX1_readSign rX1_readSign 0 0 4 [some (vR x0), some (vI x1)] [(vI s0)] σ K := by
  refine s_iload_n (i := 1) dX1_readSign_4 rfl rfl ?_
  refine s_icmp_eq (tgt := 10) dX1_readSign_5 (by decide) (fun q1 => ?_) (fun q1 => ?_)
  · have h := h.1 q1
    refine s_aload_n (i := 0) dX1_readSign_10 rfl rfl ?_
    refine s_dup dX1_readSign_11 rfl ?_
    obtain ⟨a2, ea2, h⟩ := h
    obtain ⟨t3, h⟩ := h
    refine t_getI gk dX1_readSign_12 fX1_19 rfl ea2 t3 ?_
    refine s_iconst (v := 1) dX1_readSign_15 (by decide) ?_
    refine s_iadd dX1_readSign_16 ?_
    refine t_putI gk dX1_readSign_17 fX1_19 rfl rfl ea2 t3 ⟨rfl, rfl⟩ (fun σ4 eσ4 mσ4 => ?_)
    replace h := h σ4 eσ4
    refine s_iconst (v := 1) dX1_readSign_20 (by decide) ?_
    exact s_ireturn dX1_readSign_21 rfl rfl (by decide) (by decide) h
  · have h := h.2 q1
    refine s_iconst (v := 0) dX1_readSign_8 (by decide) ?_
    exact s_ireturn dX1_readSign_9 rfl rfl (by decide) (by decide) h
theorem vX1_readLetter_0 {G : GG} (gk : GOK G) {σ : Mm} {K : RES → Mm → Prop} {x0 : Option Nat} {x1 : Option Nat}
    (h : ∃ a1, x0 = some a1 ∧ (mt σ a1).1 = 2 ∧ Runs G mX1_next rX1_next [(vR x0)] σ (bk G mX1_readLetter rX1_readLetter 0 0 4 [some (vR x0), some (vR x1), none] [] K)) : At G mX1_readLetter rX1_readLetter 0 0 0 [some (vR x0), some (vR x1), none] [] σ K := by
  refine s_aload_n (i := 0) dX1_readLetter_0 rfl rfl ?_
  obtain ⟨a1, ea1, h⟩ := h
  obtain ⟨t2, h⟩ := h
  exact t_callV (ci := 1) (as := []) (S := []) gk dX1_readLetter_1 gX1_77 (by decide) rfl w_1487 w_1488 ea1 t2 rfl rfl (Nat.le_of_ble_eq_true rfl) (by decide) h
theorem eX1_readLetter {G : GG} (gk : GOK G) {σ : Mm} {K : RES → Mm → Prop} {x0 : Option Nat} {x1 : Option Nat}
    (h : ∃ a1, x0 = some a1 ∧ (mt σ a1).1 = 2 ∧ Runs G mX1_next rX1_next [(vR x0)] σ (bk G mX1_readLetter rX1_readLetter 0 0 4 [some (vR x0), some (vR x1), none] [] K)) : Runs G mX1_readLetter rX1_readLetter [(vR x0), (vR x1)] σ K := Runs.of (by decide) rfl (Nat.le_of_ble_eq_true rfl) (vX1_readLetter_0 gk h)
theorem vX1_readLetter_4 {G : GG} (gk : GOK G) {σ : Mm} {K : RES → Mm → Prop} {x0 : Option Nat} {x1 : Option Nat} {s0 : Int32}
    (h : ((s0 < (97 : Int32) → K (.inl (some (vI (0 : Int32)))) σ) ∧ (¬ s0 < (97 : Int32) → ((s0 ≤ (122 : Int32) → ∃ a3, x1 = some a3 ∧ (mt σ a3).1 = 1 ∧ isC s0 ∧ ∀ σ5, σ5 = si σ a3 1 s0 → ∃ a7, x0 = some a7 ∧ (mt σ a7).1 = 2 ∧ ∀ σ9, σ9 = si σ5 a7 2 ((mi σ5 a7 2) + (1 : Int32)) → K (.inl (some (vI (1 : Int32)))) σ9) ∧ (¬ s0 ≤ (122 : Int32) → K (.inl (some (vI (0 : Int32)))) σ))))) : At G mX1_readLetter rX1_readLetter 0 0 4 [some (vR x0), some (vR x1), none] [(vI s0)] σ K := by
  refine s_istore_n (i := 2) (L' := [some (vR x0), some (vR x1), some (vI s0)]) dX1_readLetter_4 rfl rfl (by decide) rfl ?_
  refine s_iload_n (i := 2) dX1_readLetter_5 rfl rfl ?_
  refine s_bipush (v := 97) dX1_readLetter_6 (by decide) ?_
  refine s_icmp_lt (tgt := 17) dX1_readLetter_8 (by decide) (fun q1 => ?_) (fun q1 => ?_)
  · have h := h.1 q1
    refine s_iconst (v := 0) dX1_readLetter_17 (by decide) ?_
    exact s_ireturn dX1_readLetter_18 rfl rfl (by decide) (by decide) h
  · have h := h.2 q1
    refine s_iload_n (i := 2) dX1_readLetter_11 rfl rfl ?_
    refine s_bipush (v := 122) dX1_readLetter_12 (by decide) ?_
    refine s_icmp_le (tgt := 19) dX1_readLetter_14 (by decide) (fun q2 => ?_) (fun q2 => ?_)
    · have h := h.1 q2
      refine s_aload_n (i := 1) dX1_readLetter_19 rfl rfl ?_
      refine s_iload_n (i := 2) dX1_readLetter_20 rfl rfl ?_
      obtain ⟨a3, ea3, h⟩ := h
      obtain ⟨t4, h⟩ := h
      obtain ⟨c6, h⟩ := h
      refine t_putI gk dX1_readLetter_21 fX1_103 rfl rfl ea3 t4 (nf_c c6) (fun σ5 eσ5 mσ5 => ?_)
      replace h := h σ5 eσ5
      refine s_aload_n (i := 0) dX1_readLetter_24 rfl rfl ?_
      refine s_dup dX1_readLetter_25 rfl ?_
      obtain ⟨a7, ea7, h⟩ := h
      obtain ⟨t8, h⟩ := h
      refine t_getI gk dX1_readLetter_26 fX1_19 rfl ea7 (by rw [mσ5]; exact t8) ?_
      refine s_iconst (v := 1) dX1_readLetter_29 (by decide) ?_
      refine s_iadd dX1_readLetter_30 ?_
      refine t_putI gk dX1_readLetter_31 fX1_19 rfl rfl ea7 (by rw [mσ5]; exact t8) ⟨rfl, rfl⟩ (fun σ9 eσ9 mσ9 => ?_)
      replace h := h σ9 eσ9
      refine s_iconst (v := 1) dX1_readLetter_34 (by decide) ?_
      exact s_ireturn dX1_readLetter_35 rfl rfl (by decide) (by decide) h
    · have h := h.2 q2
      refine s_iconst (v := 0) dX1_readLetter_17 (by decide) ?_
      exact s_ireturn dX1_readLetter_18 rfl rfl (by decide) (by decide) h
theorem vX1_readPolicy_0 {G : GG} (gk : GOK G) {σ : Mm} {K : RES → Mm → Prop} {x0 : Option Nat} {x1 : Option Nat}
    (h : ∃ a1, x0 = some a1 ∧ (mt σ a1).1 = 2 ∧ Runs G mX1_next rX1_next [(vR x0)] σ (bk G mX1_readPolicy rX1_readPolicy 0 0 4 [some (vR x0), some (vR x1), none] [] K)) : At G mX1_readPolicy rX1_readPolicy 0 0 0 [some (vR x0), some (vR x1), none] [] σ K := by
  refine s_aload_n (i := 0) dX1_readPolicy_0 rfl rfl ?_
  obtain ⟨a1, ea1, h⟩ := h
  obtain ⟨t2, h⟩ := h
  exact t_callV (ci := 1) (as := []) (S := []) gk dX1_readPolicy_1 gX1_77 (by decide) rfl w_1487 w_1488 ea1 t2 rfl rfl (Nat.le_of_ble_eq_true rfl) (by decide) h
theorem eX1_readPolicy {G : GG} (gk : GOK G) {σ : Mm} {K : RES → Mm → Prop} {x0 : Option Nat} {x1 : Option Nat}
    (h : ∃ a1, x0 = some a1 ∧ (mt σ a1).1 = 2 ∧ Runs G mX1_next rX1_next [(vR x0)] σ (bk G mX1_readPolicy rX1_readPolicy 0 0 4 [some (vR x0), some (vR x1), none] [] K)) : Runs G mX1_readPolicy rX1_readPolicy [(vR x0), (vR x1)] σ K := Runs.of (by decide) rfl (Nat.le_of_ble_eq_true rfl) (vX1_readPolicy_0 gk h)
theorem vX1_readPolicy_4 {G : GG} (gk : GOK G) {σ : Mm} {K : RES → Mm → Prop} {x0 : Option Nat} {x1 : Option Nat} {s0 : Int32}
    (h : ((s0 = (114 : Int32) → ∃ a2, x1 = some a2 ∧ (mt σ a2).1 = 1 ∧ isC s0 ∧ ∀ σ4, σ4 = si σ a2 4 s0 → ∃ a6, x0 = some a6 ∧ (mt σ a6).1 = 2 ∧ ∀ σ8, σ8 = si σ4 a6 2 ((mi σ4 a6 2) + (1 : Int32)) → K (.inl (some (vI (1 : Int32)))) σ8) ∧ (¬ s0 = (114 : Int32) → ((s0 = (111 : Int32) → ∃ a10, x1 = some a10 ∧ (mt σ a10).1 = 1 ∧ isC s0 ∧ ∀ σ12, σ12 = si σ a10 4 s0 → ∃ a14, x0 = some a14 ∧ (mt σ a14).1 = 2 ∧ ∀ σ16, σ16 = si σ12 a14 2 ((mi σ12 a14 2) + (1 : Int32)) → K (.inl (some (vI (1 : Int32)))) σ16) ∧ (¬ s0 = (111 : Int32) → ((s0 = (108 : Int32) → ∃ a18, x1 = some a18 ∧ (mt σ a18).1 = 1 ∧ isC s0 ∧ ∀ σ20, σ20 = si σ a18 4 s0 → ∃ a22, x0 = some a22 ∧ (mt σ a22).1 = 2 ∧ ∀ σ24, σ24 = si σ20 a22 2 ((mi σ20 a22 2) + (1 : Int32)) → K (.inl (some (vI (1 : Int32)))) σ24) ∧ (¬ s0 = (108 : Int32) → K (.inl (some (vI (0 : Int32)))) σ))))))) : At G mX1_readPolicy rX1_readPolicy 0 0 4 [some (vR x0), some (vR x1), none] [(vI s0)] σ K := by
  refine s_istore_n (i := 2) (L' := [some (vR x0), some (vR x1), some (vI s0)]) dX1_readPolicy_4 rfl rfl (by decide) rfl ?_
  refine s_iload_n (i := 2) dX1_readPolicy_5 rfl rfl ?_
  refine s_bipush (v := 114) dX1_readPolicy_6 (by decide) ?_
  refine s_icmp_eq (tgt := 25) dX1_readPolicy_8 (by decide) (fun q1 => ?_) (fun q1 => ?_)
  · have h := h.1 q1
    refine s_aload_n (i := 1) dX1_readPolicy_25 rfl rfl ?_
    refine s_iload_n (i := 2) dX1_readPolicy_26 rfl rfl ?_
    obtain ⟨a2, ea2, h⟩ := h
    obtain ⟨t3, h⟩ := h
    obtain ⟨c5, h⟩ := h
    refine t_putI gk dX1_readPolicy_27 fX1_107 rfl rfl ea2 t3 (nf_c c5) (fun σ4 eσ4 mσ4 => ?_)
    replace h := h σ4 eσ4
    refine s_aload_n (i := 0) dX1_readPolicy_30 rfl rfl ?_
    refine s_dup dX1_readPolicy_31 rfl ?_
    obtain ⟨a6, ea6, h⟩ := h
    obtain ⟨t7, h⟩ := h
    refine t_getI gk dX1_readPolicy_32 fX1_19 rfl ea6 (by rw [mσ4]; exact t7) ?_
    refine s_iconst (v := 1) dX1_readPolicy_35 (by decide) ?_
    refine s_iadd dX1_readPolicy_36 ?_
    refine t_putI gk dX1_readPolicy_37 fX1_19 rfl rfl ea6 (by rw [mσ4]; exact t7) ⟨rfl, rfl⟩ (fun σ8 eσ8 mσ8 => ?_)
    replace h := h σ8 eσ8
    refine s_iconst (v := 1) dX1_readPolicy_40 (by decide) ?_
    exact s_ireturn dX1_readPolicy_41 rfl rfl (by decide) (by decide) h
  · have h := h.2 q1
    refine s_iload_n (i := 2) dX1_readPolicy_11 rfl rfl ?_
    refine s_bipush (v := 111) dX1_readPolicy_12 (by decide) ?_
    refine s_icmp_eq (tgt := 25) dX1_readPolicy_14 (by decide) (fun q9 => ?_) (fun q9 => ?_)
    · have h := h.1 q9
      refine s_aload_n (i := 1) dX1_readPolicy_25 rfl rfl ?_
      refine s_iload_n (i := 2) dX1_readPolicy_26 rfl rfl ?_
      obtain ⟨a10, ea10, h⟩ := h
      obtain ⟨t11, h⟩ := h
      obtain ⟨c13, h⟩ := h
      refine t_putI gk dX1_readPolicy_27 fX1_107 rfl rfl ea10 t11 (nf_c c13) (fun σ12 eσ12 mσ12 => ?_)
      replace h := h σ12 eσ12
      refine s_aload_n (i := 0) dX1_readPolicy_30 rfl rfl ?_
      refine s_dup dX1_readPolicy_31 rfl ?_
      obtain ⟨a14, ea14, h⟩ := h
      obtain ⟨t15, h⟩ := h
      refine t_getI gk dX1_readPolicy_32 fX1_19 rfl ea14 (by rw [mσ12]; exact t15) ?_
      refine s_iconst (v := 1) dX1_readPolicy_35 (by decide) ?_
      refine s_iadd dX1_readPolicy_36 ?_
      refine t_putI gk dX1_readPolicy_37 fX1_19 rfl rfl ea14 (by rw [mσ12]; exact t15) ⟨rfl, rfl⟩ (fun σ16 eσ16 mσ16 => ?_)
      replace h := h σ16 eσ16
      refine s_iconst (v := 1) dX1_readPolicy_40 (by decide) ?_
      exact s_ireturn dX1_readPolicy_41 rfl rfl (by decide) (by decide) h
    · have h := h.2 q9
      refine s_iload_n (i := 2) dX1_readPolicy_17 rfl rfl ?_
      refine s_bipush (v := 108) dX1_readPolicy_18 (by decide) ?_
      refine s_icmp_eq (tgt := 25) dX1_readPolicy_20 (by decide) (fun q17 => ?_) (fun q17 => ?_)
      · have h := h.1 q17
        refine s_aload_n (i := 1) dX1_readPolicy_25 rfl rfl ?_
        refine s_iload_n (i := 2) dX1_readPolicy_26 rfl rfl ?_
        obtain ⟨a18, ea18, h⟩ := h
        obtain ⟨t19, h⟩ := h
        obtain ⟨c21, h⟩ := h
        refine t_putI gk dX1_readPolicy_27 fX1_107 rfl rfl ea18 t19 (nf_c c21) (fun σ20 eσ20 mσ20 => ?_)
        replace h := h σ20 eσ20
        refine s_aload_n (i := 0) dX1_readPolicy_30 rfl rfl ?_
        refine s_dup dX1_readPolicy_31 rfl ?_
        obtain ⟨a22, ea22, h⟩ := h
        obtain ⟨t23, h⟩ := h
        refine t_getI gk dX1_readPolicy_32 fX1_19 rfl ea22 (by rw [mσ20]; exact t23) ?_
        refine s_iconst (v := 1) dX1_readPolicy_35 (by decide) ?_
        refine s_iadd dX1_readPolicy_36 ?_
        refine t_putI gk dX1_readPolicy_37 fX1_19 rfl rfl ea22 (by rw [mσ20]; exact t23) ⟨rfl, rfl⟩ (fun σ24 eσ24 mσ24 => ?_)
        replace h := h σ24 eσ24
        refine s_iconst (v := 1) dX1_readPolicy_40 (by decide) ?_
        exact s_ireturn dX1_readPolicy_41 rfl rfl (by decide) (by decide) h
      · have h := h.2 q17
        refine s_iconst (v := 0) dX1_readPolicy_23 (by decide) ?_
        exact s_ireturn dX1_readPolicy_24 rfl rfl (by decide) (by decide) h
theorem vX1_readDigit_0 {G : GG} (gk : GOK G) {σ : Mm} {K : RES → Mm → Prop} {x0 : Option Nat} {x1 : Option Nat}
    (h : ∃ a1, x0 = some a1 ∧ (mt σ a1).1 = 2 ∧ Runs G mX1_readSign rX1_readSign [(vR x0), (vI (32 : Int32))] σ (bk G mX1_readDigit rX1_readDigit 0 0 6 [some (vR x0), some (vR x1)] [] K)) : At G mX1_readDigit rX1_readDigit 0 0 0 [some (vR x0), some (vR x1)] [] σ K := by
  refine s_aload_n (i := 0) dX1_readDigit_0 rfl rfl ?_
  refine s_bipush (v := 32) dX1_readDigit_1 (by decide) ?_
  obtain ⟨a1, ea1, h⟩ := h
  obtain ⟨t2, h⟩ := h
  exact t_callV (ci := 1) (as := [(vI (32 : Int32))]) (S := []) gk dX1_readDigit_3 gX1_36 (by decide) rfl w_1501 w_1502 ea1 t2 rfl rfl (Nat.le_of_ble_eq_true rfl) (by decide) h
theorem eX1_readDigit {G : GG} (gk : GOK G) {σ : Mm} {K : RES → Mm → Prop} {x0 : Option Nat} {x1 : Option Nat}
    (h : ∃ a1, x0 = some a1 ∧ (mt σ a1).1 = 2 ∧ Runs G mX1_readSign rX1_readSign [(vR x0), (vI (32 : Int32))] σ (bk G mX1_readDigit rX1_readDigit 0 0 6 [some (vR x0), some (vR x1)] [] K)) : Runs G mX1_readDigit rX1_readDigit [(vR x0), (vR x1)] σ K := Runs.of (by decide) rfl (Nat.le_of_ble_eq_true rfl) (vX1_readDigit_0 gk h)
theorem vX1_readDigit_6 {G : GG} (gk : GOK G) {σ : Mm} {K : RES → Mm → Prop} {x0 : Option Nat} {x1 : Option Nat} {s0 : Int32}
    (h : ((s0 = 0 → K (.inl (some (vI (0 : Int32)))) σ) ∧ (¬ s0 = 0 → ∃ a2, x0 = some a2 ∧ (mt σ a2).1 = 2 ∧ Runs G mX1_next rX1_next [(vR x0)] σ (bk G mX1_readDigit rX1_readDigit 0 0 13 [some (vR x0), some (vR x1)] [] K)))) : At G mX1_readDigit rX1_readDigit 0 0 6 [some (vR x0), some (vR x1)] [(vI s0)] σ K := by
  refine s_if_eq (tgt := 19) dX1_readDigit_6 (by decide) (fun q1 => ?_) (fun q1 => ?_)
  · have h := h.1 q1
    refine s_iconst (v := 0) dX1_readDigit_19 (by decide) ?_
    exact s_ireturn dX1_readDigit_20 rfl rfl (by decide) (by decide) h
  · have h := h.2 q1
    refine s_aload_n (i := 0) dX1_readDigit_9 rfl rfl ?_
    obtain ⟨a2, ea2, h⟩ := h
    obtain ⟨t3, h⟩ := h
    exact t_callV (ci := 1) (as := []) (S := []) gk dX1_readDigit_10 gX1_77 (by decide) rfl w_1487 w_1488 ea2 t3 rfl rfl (Nat.le_of_ble_eq_true rfl) (by decide) h
theorem vX1_readDigit_13 {G : GG} (gk : GOK G) {σ : Mm} {K : RES → Mm → Prop} {x0 : Option Nat} {x1 : Option Nat} {s0 : Int32}
    (h : Runs G mX1_isDigit rX1_isDigit [(vI s0)] σ (bk G mX1_readDigit rX1_readDigit 0 0 16 [some (vR x0), some (vR x1)] [] K)) : At G mX1_readDigit rX1_readDigit 0 0 13 [some (vR x0), some (vR x1)] [(vI s0)] σ K := by
  exact s_callS (as := [(vI s0)]) (S := []) gk dX1_readDigit_13 gX1_110 w_1505 rfl rfl (Nat.le_of_ble_eq_true rfl) (by decide) h
theorem vX1_readDigit_16 {G : GG} (gk : GOK G) {σ : Mm} {K : RES → Mm → Prop} {x0 : Option Nat} {x1 : Option Nat} {s0 : Int32}
    (h : ((¬ s0 = 0 → ∃ a2, x0 = some a2 ∧ (mt σ a2).1 = 2 ∧ Runs G mX1_next rX1_next [(vR x0)] σ (bk G mX1_readDigit rX1_readDigit 0 0 26 [some (vR x0), some (vR x1)] [(vR x1)] K)) ∧ (s0 = 0 → K (.inl (some (vI (0 : Int32)))) σ))) : At G mX1_readDigit rX1_readDigit 0 0 16 [some (vR x0), some (vR x1)] [(vI s0)] σ K := by
  refine s_if_ne (tgt := 21) dX1_readDigit_16 (by decide) (fun q1 => ?_) (fun q1 => ?_)
  · have h := h.1 q1
    refine s_aload_n (i := 1) dX1_readDigit_21 rfl rfl ?_
    refine s_aload_n (i := 0) dX1_readDigit_22 rfl rfl ?_
    obtain ⟨a2, ea2, h⟩ := h
    obtain ⟨t3, h⟩ := h
    exact t_callV (ci := 1) (as := []) (S := [(vR x1)]) gk dX1_readDigit_23 gX1_77 (by decide) rfl w_1487 w_1488 ea2 t3 rfl rfl (Nat.le_of_ble_eq_true rfl) (by decide) h
  · have h := h.2 q1
    refine s_iconst (v := 0) dX1_readDigit_19 (by decide) ?_
    exact s_ireturn dX1_readDigit_20 rfl rfl (by decide) (by decide) h
theorem vX1_readDigit_26 {G : GG} (gk : GOK G) {σ : Mm} {K : RES → Mm → Prop} {x0 : Option Nat} {x1 : Option Nat} {s0 : Int32} {s1 : Option Nat}
    (h : ∃ a1, s1 = some a1 ∧ (mt σ a1).1 = 1 ∧ ∀ σ3, σ3 = si σ a1 2 (s0 - (48 : Int32)) → ∃ a4, x0 = some a4 ∧ (mt σ a4).1 = 2 ∧ ∀ σ6, σ6 = si σ3 a4 2 ((mi σ3 a4 2) + (1 : Int32)) → K (.inl (some (vI (1 : Int32)))) σ6) : At G mX1_readDigit rX1_readDigit 0 0 26 [some (vR x0), some (vR x1)] [(vI s0), (vR s1)] σ K := by
  refine s_bipush (v := 48) dX1_readDigit_26 (by decide) ?_
  refine s_isub dX1_readDigit_28 ?_
  obtain ⟨a1, ea1, h⟩ := h
  obtain ⟨t2, h⟩ := h
  refine t_putI gk dX1_readDigit_29 fX1_113 rfl rfl ea1 t2 ⟨rfl, rfl⟩ (fun σ3 eσ3 mσ3 => ?_)
  replace h := h σ3 eσ3
  refine s_aload_n (i := 0) dX1_readDigit_32 rfl rfl ?_
  refine s_dup dX1_readDigit_33 rfl ?_
  obtain ⟨a4, ea4, h⟩ := h
  obtain ⟨t5, h⟩ := h
  refine t_getI gk dX1_readDigit_34 fX1_19 rfl ea4 (by rw [mσ3]; exact t5) ?_
  refine s_iconst (v := 1) dX1_readDigit_37 (by decide) ?_
  refine s_iadd dX1_readDigit_38 ?_
  refine t_putI gk dX1_readDigit_39 fX1_19 rfl rfl ea4 (by rw [mσ3]; exact t5) ⟨rfl, rfl⟩ (fun σ6 eσ6 mσ6 => ?_)
  replace h := h σ6 eσ6
  refine s_iconst (v := 1) dX1_readDigit_42 (by decide) ?_
  exact s_ireturn dX1_readDigit_43 rfl rfl (by decide) (by decide) h
theorem vX1_readNumber_0 {G : GG} (gk : GOK G) {σ : Mm} {K : RES → Mm → Prop} {x0 : Option Nat} {x1 : Option Nat}
    (h : ∃ a1, x0 = some a1 ∧ (mt σ a1).1 = 2 ∧ Runs G mX1_readSign rX1_readSign [(vR x0), (vI (32 : Int32))] σ (bk G mX1_readNumber rX1_readNumber 0 0 6 [some (vR x0), some (vR x1)] [] K)) : At G mX1_readNumber rX1_readNumber 0 0 0 [some (vR x0), some (vR x1)] [] σ K := by
  refine s_aload_n (i := 0) dX1_readNumber_0 rfl rfl ?_
  refine s_bipush (v := 32) dX1_readNumber_1 (by decide) ?_
  obtain ⟨a1, ea1, h⟩ := h
  obtain ⟨t2, h⟩ := h
  exact t_callV (ci := 1) (as := [(vI (32 : Int32))]) (S := []) gk dX1_readNumber_3 gX1_36 (by decide) rfl w_1501 w_1502 ea1 t2 rfl rfl (Nat.le_of_ble_eq_true rfl) (by decide) h
theorem eX1_readNumber {G : GG} (gk : GOK G) {σ : Mm} {K : RES → Mm → Prop} {x0 : Option Nat} {x1 : Option Nat}
    (h : ∃ a1, x0 = some a1 ∧ (mt σ a1).1 = 2 ∧ Runs G mX1_readSign rX1_readSign [(vR x0), (vI (32 : Int32))] σ (bk G mX1_readNumber rX1_readNumber 0 0 6 [some (vR x0), some (vR x1)] [] K)) : Runs G mX1_readNumber rX1_readNumber [(vR x0), (vR x1)] σ K := Runs.of (by decide) rfl (Nat.le_of_ble_eq_true rfl) (vX1_readNumber_0 gk h)
theorem vX1_readNumber_6 {G : GG} (gk : GOK G) {σ : Mm} {K : RES → Mm → Prop} {x0 : Option Nat} {x1 : Option Nat} {s0 : Int32}
    (h : ((s0 = 0 → K (.inl (some (vI (0 : Int32)))) σ) ∧ (¬ s0 = 0 → ∃ a2, x0 = some a2 ∧ (mt σ a2).1 = 2 ∧ Runs G mX1_next rX1_next [(vR x0)] σ (bk G mX1_readNumber rX1_readNumber 0 0 13 [some (vR x0), some (vR x1)] [] K)))) : At G mX1_readNumber rX1_readNumber 0 0 6 [some (vR x0), some (vR x1)] [(vI s0)] σ K := by
  refine s_if_eq (tgt := 19) dX1_readNumber_6 (by decide) (fun q1 => ?_) (fun q1 => ?_)
  · have h := h.1 q1
    refine s_iconst (v := 0) dX1_readNumber_19 (by decide) ?_
    exact s_ireturn dX1_readNumber_20 rfl rfl (by decide) (by decide) h
  · have h := h.2 q1
    refine s_aload_n (i := 0) dX1_readNumber_9 rfl rfl ?_
    obtain ⟨a2, ea2, h⟩ := h
    obtain ⟨t3, h⟩ := h
    exact t_callV (ci := 1) (as := []) (S := []) gk dX1_readNumber_10 gX1_77 (by decide) rfl w_1487 w_1488 ea2 t3 rfl rfl (Nat.le_of_ble_eq_true rfl) (by decide) h
theorem vX1_readNumber_13 {G : GG} (gk : GOK G) {σ : Mm} {K : RES → Mm → Prop} {x0 : Option Nat} {x1 : Option Nat} {s0 : Int32}
    (h : Runs G mX1_isDigit rX1_isDigit [(vI s0)] σ (bk G mX1_readNumber rX1_readNumber 0 0 16 [some (vR x0), some (vR x1)] [] K)) : At G mX1_readNumber rX1_readNumber 0 0 13 [some (vR x0), some (vR x1)] [(vI s0)] σ K := by
  exact s_callS (as := [(vI s0)]) (S := []) gk dX1_readNumber_13 gX1_110 w_1505 rfl rfl (Nat.le_of_ble_eq_true rfl) (by decide) h
theorem vX1_readNumber_16 {G : GG} (gk : GOK G) {σ : Mm} {K : RES → Mm → Prop} {x0 : Option Nat} {x1 : Option Nat} {s0 : Int32}
    (h : ((¬ s0 = 0 → ∃ a2, x0 = some a2 ∧ (mt σ a2).1 = 2 ∧ Runs G mX1_next rX1_next [(vR x0)] σ (bk G mX1_readNumber rX1_readNumber 0 0 26 [some (vR x0), some (vR x1)] [(vR x1)] K)) ∧ (s0 = 0 → K (.inl (some (vI (0 : Int32)))) σ))) : At G mX1_readNumber rX1_readNumber 0 0 16 [some (vR x0), some (vR x1)] [(vI s0)] σ K := by
  refine s_if_ne (tgt := 21) dX1_readNumber_16 (by decide) (fun q1 => ?_) (fun q1 => ?_)
  · have h := h.1 q1
    refine s_aload_n (i := 1) dX1_readNumber_21 rfl rfl ?_
    refine s_aload_n (i := 0) dX1_readNumber_22 rfl rfl ?_
    obtain ⟨a2, ea2, h⟩ := h
    obtain ⟨t3, h⟩ := h
    exact t_callV (ci := 1) (as := []) (S := [(vR x1)]) gk dX1_readNumber_23 gX1_77 (by decide) rfl w_1487 w_1488 ea2 t3 rfl rfl (Nat.le_of_ble_eq_true rfl) (by decide) h
  · have h := h.2 q1
    refine s_iconst (v := 0) dX1_readNumber_19 (by decide) ?_
    exact s_ireturn dX1_readNumber_20 rfl rfl (by decide) (by decide) h
theorem vX1_readNumber_26 {G : GG} (gk : GOK G) {σ : Mm} {K : RES → Mm → Prop} {x0 : Option Nat} {x1 : Option Nat} {s0 : Int32} {s1 : Option Nat}
    (h : ∃ a1, s1 = some a1 ∧ (mt σ a1).1 = 1 ∧ ∀ σ3, σ3 = si σ a1 3 (s0 - (48 : Int32)) → ∃ a4, x0 = some a4 ∧ (mt σ a4).1 = 2 ∧ ∀ σ6, σ6 = si σ3 a4 2 ((mi σ3 a4 2) + (1 : Int32)) → Runs G mX1_next rX1_next [(vR x0)] σ6 (bk G mX1_readNumber rX1_readNumber 0 0 46 [some (vR x0), some (vR x1)] [] K)) : At G mX1_readNumber rX1_readNumber 0 0 26 [some (vR x0), some (vR x1)] [(vI s0), (vR s1)] σ K := by
  refine s_bipush (v := 48) dX1_readNumber_26 (by decide) ?_
  refine s_isub dX1_readNumber_28 ?_
  obtain ⟨a1, ea1, h⟩ := h
  obtain ⟨t2, h⟩ := h
  refine t_putI gk dX1_readNumber_29 fX1_116 rfl rfl ea1 t2 ⟨rfl, rfl⟩ (fun σ3 eσ3 mσ3 => ?_)
  replace h := h σ3 eσ3
  refine s_aload_n (i := 0) dX1_readNumber_32 rfl rfl ?_
  refine s_dup dX1_readNumber_33 rfl ?_
  obtain ⟨a4, ea4, h⟩ := h
  obtain ⟨t5, h⟩ := h
  refine t_getI gk dX1_readNumber_34 fX1_19 rfl ea4 (by rw [mσ3]; exact t5) ?_
  refine s_iconst (v := 1) dX1_readNumber_37 (by decide) ?_
  refine s_iadd dX1_readNumber_38 ?_
  refine t_putI gk dX1_readNumber_39 fX1_19 rfl rfl ea4 (by rw [mσ3]; exact t5) ⟨rfl, rfl⟩ (fun σ6 eσ6 mσ6 => ?_)
  replace h := h σ6 eσ6
  refine s_aload_n (i := 0) dX1_readNumber_42 rfl rfl ?_
  exact t_callV (ci := 1) (as := []) (S := []) gk dX1_readNumber_43 gX1_77 (by decide) rfl w_1487 w_1488 ea4 (by rw [mσ6, mσ3]; exact t5) rfl rfl (Nat.le_of_ble_eq_true rfl) (by decide) h
theorem vX1_readNumber_46 {G : GG} (gk : GOK G) {σ : Mm} {K : RES → Mm → Prop} {x0 : Option Nat} {x1 : Option Nat} {s0 : Int32}
    (h : Runs G mX1_isDigit rX1_isDigit [(vI s0)] σ (bk G mX1_readNumber rX1_readNumber 0 0 49 [some (vR x0), some (vR x1)] [] K)) : At G mX1_readNumber rX1_readNumber 0 0 46 [some (vR x0), some (vR x1)] [(vI s0)] σ K := by
  exact s_callS (as := [(vI s0)]) (S := []) gk dX1_readNumber_46 gX1_110 w_1505 rfl rfl (Nat.le_of_ble_eq_true rfl) (by decide) h
theorem vX1_readNumber_49 {G : GG} (gk : GOK G) {σ : Mm} {K : RES → Mm → Prop} {x0 : Option Nat} {x1 : Option Nat} {s0 : Int32}
    (h : ((s0 = 0 → K (.inl (some (vI (1 : Int32)))) σ) ∧ (¬ s0 = 0 → ∃ a2, x1 = some a2 ∧ (mt σ a2).1 = 1 ∧ ∃ a4, x0 = some a4 ∧ (mt σ a4).1 = 2 ∧ Runs G mX1_next rX1_next [(vR x0)] σ (bk G mX1_readNumber rX1_readNumber 0 0 64 [some (vR x0), some (vR x1)] [(vI ((mi σ a2 3) * (10 : Int32))), (vR x1)] K)))) : At G mX1_readNumber rX1_readNumber 0 0 49 [some (vR x0), some (vR x1)] [(vI s0)] σ K := by
  refine s_if_eq (tgt := 81) dX1_readNumber_49 (by decide) (fun q1 => ?_) (fun q1 => ?_)
  · have h := h.1 q1
    refine s_iconst (v := 1) dX1_readNumber_81 (by decide) ?_
    exact s_ireturn dX1_readNumber_82 rfl rfl (by decide) (by decide) h
  · have h := h.2 q1
    refine s_aload_n (i := 1) dX1_readNumber_52 rfl rfl ?_
    refine s_aload_n (i := 1) dX1_readNumber_53 rfl rfl ?_
    obtain ⟨a2, ea2, h⟩ := h
    obtain ⟨t3, h⟩ := h
    refine t_getI gk dX1_readNumber_54 fX1_116 rfl ea2 t3 ?_
    refine s_bipush (v := 10) dX1_readNumber_57 (by decide) ?_
    refine s_imul dX1_readNumber_59 ?_
    refine s_aload_n (i := 0) dX1_readNumber_60 rfl rfl ?_
    obtain ⟨a4, ea4, h⟩ := h
    obtain ⟨t5, h⟩ := h
    exact t_callV (ci := 1) (as := []) (S := [(vI ((mi σ a2 3) * (10 : Int32))), (vR x1)]) gk dX1_readNumber_61 gX1_77 (by decide) rfl w_1487 w_1488 ea4 t5 rfl rfl (Nat.le_of_ble_eq_true rfl) (by decide) h
theorem vX1_readNumber_64 {G : GG} (gk : GOK G) {σ : Mm} {K : RES → Mm → Prop} {x0 : Option Nat} {x1 : Option Nat} {s0 : Int32} {s1 : Int32} {s2 : Option Nat}
    (h : ∃ a1, s2 = some a1 ∧ (mt σ a1).1 = 1 ∧ ∀ σ3, σ3 = si σ a1 3 (s1 + (s0 - (48 : Int32))) → ∃ a4, x0 = some a4 ∧ (mt σ a4).1 = 2 ∧ ∀ σ6, σ6 = si σ3 a4 2 ((mi σ3 a4 2) + (1 : Int32)) → K (.inl (some (vI (1 : Int32)))) σ6) : At G mX1_readNumber rX1_readNumber 0 0 64 [some (vR x0), some (vR x1)] [(vI s0), (vI s1), (vR s2)] σ K := by
  refine s_bipush (v := 48) dX1_readNumber_64 (by decide) ?_
  refine s_isub dX1_readNumber_66 ?_
  refine s_iadd dX1_readNumber_67 ?_
  obtain ⟨a1, ea1, h⟩ := h
  obtain ⟨t2, h⟩ := h
  refine t_putI gk dX1_readNumber_68 fX1_116 rfl rfl ea1 t2 ⟨rfl, rfl⟩ (fun σ3 eσ3 mσ3 => ?_)
  replace h := h σ3 eσ3
  refine s_aload_n (i := 0) dX1_readNumber_71 rfl rfl ?_
  refine s_dup dX1_readNumber_72 rfl ?_
  obtain ⟨a4, ea4, h⟩ := h
  obtain ⟨t5, h⟩ := h
  refine t_getI gk dX1_readNumber_73 fX1_19 rfl ea4 (by rw [mσ3]; exact t5) ?_
  refine s_iconst (v := 1) dX1_readNumber_76 (by decide) ?_
  refine s_iadd dX1_readNumber_77 ?_
  refine t_putI gk dX1_readNumber_78 fX1_19 rfl rfl ea4 (by rw [mσ3]; exact t5) ⟨rfl, rfl⟩ (fun σ6 eσ6 mσ6 => ?_)
  replace h := h σ6 eσ6
  refine s_iconst (v := 1) dX1_readNumber_81 (by decide) ?_
  exact s_ireturn dX1_readNumber_82 rfl rfl (by decide) (by decide) h
theorem vX1_isDigit_0 {G : GG} (gk : GOK G) {σ : Mm} {K : RES → Mm → Prop} {x0 : Int32}
    (h : ((x0 < (48 : Int32) → K (.inl (some (vI (0 : Int32)))) σ) ∧ (¬ x0 < (48 : Int32) → (((57 : Int32) < x0 → K (.inl (some (vI (0 : Int32)))) σ) ∧ (¬ (57 : Int32) < x0 → K (.inl (some (vI (1 : Int32)))) σ))))) : At G mX1_isDigit rX1_isDigit 0 0 0 [some (vI x0)] [] σ K := by
  refine s_iload_n (i := 0) dX1_isDigit_0 rfl rfl ?_
  refine s_bipush (v := 48) dX1_isDigit_1 (by decide) ?_
  refine s_icmp_lt (tgt := 16) dX1_isDigit_3 (by decide) (fun q1 => ?_) (fun q1 => ?_)
  · have h := h.1 q1
    refine s_iconst (v := 0) dX1_isDigit_16 (by decide) ?_
    exact s_ireturn dX1_isDigit_17 rfl rfl (by decide) (by decide) h
  · have h := h.2 q1
    refine s_iload_n (i := 0) dX1_isDigit_6 rfl rfl ?_
    refine s_bipush (v := 57) dX1_isDigit_7 (by decide) ?_
    refine s_icmp_gt (tgt := 16) dX1_isDigit_9 (by decide) (fun q2 => ?_) (fun q2 => ?_)
    · have h := h.1 q2
      refine s_iconst (v := 0) dX1_isDigit_16 (by decide) ?_
      exact s_ireturn dX1_isDigit_17 rfl rfl (by decide) (by decide) h
    · have h := h.2 q2
      refine s_iconst (v := 1) dX1_isDigit_12 (by decide) ?_
      refine s_goto (tgt := 17) dX1_isDigit_13 (by decide) ?_
      exact s_ireturn dX1_isDigit_17 rfl rfl (by decide) (by decide) h
theorem eX1_isDigit {G : GG} (gk : GOK G) {σ : Mm} {K : RES → Mm → Prop} {x0 : Int32}
    (h : ((x0 < (48 : Int32) → K (.inl (some (vI (0 : Int32)))) σ) ∧ (¬ x0 < (48 : Int32) → (((57 : Int32) < x0 → K (.inl (some (vI (0 : Int32)))) σ) ∧ (¬ (57 : Int32) < x0 → K (.inl (some (vI (1 : Int32)))) σ))))) : Runs G mX1_isDigit rX1_isDigit [(vI x0)] σ K := Runs.of (by decide) rfl (Nat.le_of_ble_eq_true rfl) (vX1_isDigit_0 gk h)
