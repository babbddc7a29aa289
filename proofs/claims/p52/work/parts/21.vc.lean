theorem vX3_init_0 {G : GG} (gk : GOK G) {uc us : Nat} {σ : Mm} {K : RES → Mm → Prop} {x0 : Option Nat}
    (h : ∃ a1, x0 = some a1 ∧ uc + 1 ≤ rX3_init.cells ∧ us + 9 ≤ rX3_init.slots ∧ ∀ σ4, σ4 = nw σ (59, 9) → (mt σ4 a1).1 = 4 ∧ ∀ σ6, σ6 = sr σ4 a1 0 (some (mz σ)) → ∀ σ7, σ7 = si σ6 a1 1 (0 : Int32) → ∀ σ8, σ8 = si σ7 a1 2 (0 : Int32) → At G mX3_init rX3_init (uc + 1) (us + 9) 25 [some (vR x0), some (vI (0 : Int32))] [] σ8 K) : At G mX3_init rX3_init uc us 0 [some (vR x0), none] [] σ K := by
  refine s_aload_n (i := 0) dX3_init_0 rfl rfl ?_
  obtain ⟨a1, ea1, h⟩ := h
  refine t_objInit gk dX3_init_1 w_229 (by decide) (by decide) ea1 ?_
  refine s_aload_n (i := 0) dX3_init_4 rfl rfl ?_
  refine s_bipush (v := 9) dX3_init_5 (by decide) ?_
  obtain ⟨u2, u3, h⟩ := h
  refine s_anew (j := 9) (ci := 6) (N := 9) gk dX3_init_7 (by decide) (by decide) rfl w_230 (List.mem_of_getElem? (i := 239) (by decide +kernel)) (by decide) (by decide) (by decide) u2 u3 ?_
  replace h := h _ rfl
  generalize nw σ (59, 9) = σ4 at h ⊢
  obtain ⟨t5, h⟩ := h
  refine t_putR gk dX3_init_10 fX3_11 (Or.inr ⟨rfl, rfl, rfl⟩) rfl ea1 t5 (nf_rf rfl) (fun σ6 eσ6 mσ6 => ?_)
  replace h := h σ6 eσ6
  refine s_aload_n (i := 0) dX3_init_13 rfl rfl ?_
  refine s_iconst (v := 0) dX3_init_14 (by decide) ?_
  refine t_putI gk dX3_init_15 fX3_17 rfl rfl ea1 (by rw [mσ6]; exact t5) ⟨rfl, rfl⟩ (fun σ7 eσ7 mσ7 => ?_)
  replace h := h σ7 eσ7
  refine s_aload_n (i := 0) dX3_init_18 rfl rfl ?_
  refine s_iconst (v := 0) dX3_init_19 (by decide) ?_
  refine t_putI gk dX3_init_20 fX3_21 rfl rfl ea1 (by rw [mσ7, mσ6]; exact t5) ⟨rfl, rfl⟩ (fun σ8 eσ8 mσ8 => ?_)
  replace h := h σ8 eσ8
  refine s_iconst (v := 0) dX3_init_23 (by decide) ?_
  refine s_istore_n (i := 1) (L' := [some (vR x0), some (vI (0 : Int32))]) dX3_init_24 rfl rfl (by decide) rfl ?_
  exact h
theorem eX3_init {G : GG} (gk : GOK G) {σ : Mm} {K : RES → Mm → Prop} {x0 : Option Nat}
    (h : ∃ a1, x0 = some a1 ∧ 0 + 1 ≤ rX3_init.cells ∧ 0 + 9 ≤ rX3_init.slots ∧ ∀ σ4, σ4 = nw σ (59, 9) → (mt σ4 a1).1 = 4 ∧ ∀ σ6, σ6 = sr σ4 a1 0 (some (mz σ)) → ∀ σ7, σ7 = si σ6 a1 1 (0 : Int32) → ∀ σ8, σ8 = si σ7 a1 2 (0 : Int32) → At G mX3_init rX3_init (0 + 1) (0 + 9) 25 [some (vR x0), some (vI (0 : Int32))] [] σ8 K) : Runs G mX3_init rX3_init [(vR x0)] σ K := Runs.of (by decide) rfl (Nat.le_of_ble_eq_true rfl) (vX3_init_0 gk h)
theorem vX3_init_25 {G : GG} (gk : GOK G) {uc us : Nat} {σ : Mm} {K : RES → Mm → Prop} {x0 : Option Nat} {x1 : Int32}
    (h : ∃ a1, x0 = some a1 ∧ (mt σ a1).1 = 4 ∧ ∃ a3, mr σ a1 0 = some a3 ∧ ∃ n5, mt σ a3 = (59, n5) ∧ (((nI n5) ≤ x1 → uc ≤ rX3_init.cells ∧ us ≤ rX3_init.slots ∧ K (.inl none) σ) ∧ (¬ (nI n5) ≤ x1 → uc + 1 ≤ rX3_init.cells ∧ us + 9 ≤ rX3_init.slots ∧ ∀ σ11, σ11 = nw σ (7, 0) → (uc + 1) + rX6_init.cells ≤ rX3_init.cells ∧ (us + 9) + rX6_init.slots ≤ rX3_init.slots ∧ ∃ K12 : RES → Mm → Prop, Runs G mX6_init rX6_init [(vR (some (mz σ)))] σ11 K12 ∧ (∀ E t, ¬ K12 (.inr E) t) ∧ (∀ v t, K12 (.inl v) t → At G mX3_init rX3_init ((uc + 1) + 69) ((us + 9) + 442) 46 [some (vR x0), some (vI x1)] (v.toList ++ [(vR (some (mz σ))), (vI x1), (vR (mr σ a1 0))]) t K)))) : At G mX3_init rX3_init uc us 25 [some (vR x0), some (vI x1)] [] σ K := by
  refine s_iload_n (i := 1) dX3_init_25 rfl rfl ?_
  refine s_aload_n (i := 0) dX3_init_26 rfl rfl ?_
  obtain ⟨a1, ea1, h⟩ := h
  obtain ⟨t2, h⟩ := h
  refine t_getR gk dX3_init_27 fX3_11 rfl ea1 t2 ?_
  obtain ⟨a3, ea3, h⟩ := h
  obtain ⟨n5, t4, h⟩ := h
  refine t_alen (j := 9) gk dX3_init_30 (by decide) ea3 t4 ?_
  refine s_icmp_ge (tgt := 53) dX3_init_31 (by decide) (fun q6 => ?_) (fun q6 => ?_)
  · have h := h.1 q6
    obtain ⟨u7, u8, h⟩ := h
    exact s_return dX3_init_53 rfl u7 u8 h
  · have h := h.2 q6
    refine s_aload_n (i := 0) dX3_init_34 rfl rfl ?_
    refine t_getR gk dX3_init_35 fX3_11 rfl ea1 t2 ?_
    refine s_iload_n (i := 1) dX3_init_38 rfl rfl ?_
    obtain ⟨u9, u10, h⟩ := h
    refine t_new gk dX3_init_39 nX3_9 u9 u10 (fun σ11 eσ11 => ?_)
    replace h := h σ11 eσ11
    refine s_dup dX3_init_42 rfl ?_
    obtain ⟨u13, u14, h⟩ := h
    obtain ⟨K12, h1, h2, h3⟩ := h
    exact s_callI (a := mz σ) (as := []) (S := [(vR (some (mz σ))), (vI x1), (vR (mr σ a1 0))]) gk dX3_init_43 gX3_24 w_46 rfl rfl rfl rfl (Nat.le_of_ble_eq_true rfl) ⟨by decide, by decide, u13, u14⟩ h1 h2 h3
theorem vX3_init_46 {G : GG} (gk : GOK G) {uc us : Nat} {σ : Mm} {K : RES → Mm → Prop} {x0 : Option Nat} {x1 : Int32} {s0 : Option Nat} {s1 : Int32} {s2 : Option Nat}
    (h : ∃ a1, s2 = some a1 ∧ ∃ n3, mt σ a1 = (59, n3) ∧ vp_in s1 n3 ∧ ∃ a6, s0 = some a6 ∧ (mt σ a6).1 = 7 ∧ ∀ σ5, σ5 = sr σ a1 s1.toNatClampNeg s0 → At G mX3_init rX3_init uc us 25 [some (vR x0), some (vI (x1 + 1))] [] σ5 K) : At G mX3_init rX3_init uc us 46 [some (vR x0), some (vI x1)] [(vR s0), (vI s1), (vR s2)] σ K := by
  obtain ⟨a1, ea1, h⟩ := h
  obtain ⟨n3, t2, h⟩ := h
  obtain ⟨c4, h⟩ := h
  obtain ⟨a6, ea6, h⟩ := h
  obtain ⟨t7, h⟩ := h
  refine t_aast (j := 9) (ci := 6) gk dX3_init_46 (by decide) (by decide) (by decide) rfl ea1 t2 ea6 t7 c4 (fun σ5 eσ5 mσ5 => ?_)
  replace h := h σ5 eσ5
  refine s_iinc (v := x1 + 1) (L' := [some (vR x0), some (vI (x1 + 1))]) dX3_init_47 rfl rfl rfl (by decide) rfl ?_
  refine s_goto (tgt := 25) dX3_init_50 (by decide) ?_
  exact h
theorem vX3_row_0 {G : GG} (gk : GOK G) {σ : Mm} {K : RES → Mm → Prop} {x0 : Option Nat} {x1 : Int32}
    (h : ∃ a1, x0 = some a1 ∧ (mt σ a1).1 = 4 ∧ Runs G mJ9_floorMod_7cf53 rJ9_floorMod_7cf53 [(vI ((mi σ a1 1) + x1)), (vI (9 : Int32))] σ (bk G mX3_row rX3_row 0 0 15 [some (vR x0), some (vI x1)] [(vR (mr σ a1 0))] K)) : At G mX3_row rX3_row 0 0 0 [some (vR x0), some (vI x1)] [] σ K := by
  refine s_aload_n (i := 0) dX3_row_0 rfl rfl ?_
  obtain ⟨a1, ea1, h⟩ := h
  obtain ⟨t2, h⟩ := h
  refine t_getR gk dX3_row_1 fX3_11 rfl ea1 t2 ?_
  refine s_aload_n (i := 0) dX3_row_4 rfl rfl ?_
  refine t_getI gk dX3_row_5 fX3_17 rfl ea1 t2 ?_
  refine s_iload_n (i := 1) dX3_row_8 rfl rfl ?_
  refine s_iadd dX3_row_9 ?_
  refine s_bipush (v := 9) dX3_row_10 (by decide) ?_
  exact s_callS (as := [(vI ((mi σ a1 1) + x1)), (vI (9 : Int32))]) (S := [(vR (mr σ a1 0))]) gk dX3_row_12 gX3_25 w_525 rfl rfl (Nat.le_of_ble_eq_true rfl) (by decide) h
theorem eX3_row {G : GG} (gk : GOK G) {σ : Mm} {K : RES → Mm → Prop} {x0 : Option Nat} {x1 : Int32}
    (h : ∃ a1, x0 = some a1 ∧ (mt σ a1).1 = 4 ∧ Runs G mJ9_floorMod_7cf53 rJ9_floorMod_7cf53 [(vI ((mi σ a1 1) + x1)), (vI (9 : Int32))] σ (bk G mX3_row rX3_row 0 0 15 [some (vR x0), some (vI x1)] [(vR (mr σ a1 0))] K)) : Runs G mX3_row rX3_row [(vR x0), (vI x1)] σ K := Runs.of (by decide) rfl (Nat.le_of_ble_eq_true rfl) (vX3_row_0 gk h)
theorem vX3_row_15 {G : GG} (gk : GOK G) {σ : Mm} {K : RES → Mm → Prop} {x0 : Option Nat} {x1 : Int32} {s0 : Int32} {s1 : Option Nat}
    (h : ∃ a1, s1 = some a1 ∧ ∃ n3, mt σ a1 = (59, n3) ∧ vp_in s0 n3 ∧ K (.inl (some (vR (mr σ a1 s0.toNatClampNeg)))) σ) : At G mX3_row rX3_row 0 0 15 [some (vR x0), some (vI x1)] [(vI s0), (vR s1)] σ K := by
  obtain ⟨a1, ea1, h⟩ := h
  obtain ⟨n3, t2, h⟩ := h
  obtain ⟨c4, h⟩ := h
  refine t_aald (j := 9) gk dX3_row_15 (by decide) (by decide) ea1 t2 c4 ?_
  exact s_areturn dX3_row_16 rfl rfl (by decide) (by decide) h
theorem vX3_note_0 {G : GG} (gk : GOK G) {σ : Mm} {K : RES → Mm → Prop} {x0 : Option Nat} {x1 : Option Nat}
    (h : ∃ a1, x0 = some a1 ∧ (mt σ a1).1 = 4 ∧ Runs G mX3_keep rX3_keep [(vR x0), (vR x1)] σ (bk G mX3_note rX3_note 0 0 5 [some (vR x0), some (vR x1)] [] K)) : At G mX3_note rX3_note 0 0 0 [some (vR x0), some (vR x1)] [] σ K := by
  refine s_aload_n (i := 0) dX3_note_0 rfl rfl ?_
  refine s_aload_n (i := 1) dX3_note_1 rfl rfl ?_
  obtain ⟨a1, ea1, h⟩ := h
  obtain ⟨t2, h⟩ := h
  exact t_callV (ci := 3) (as := [(vR x1)]) (S := []) gk dX3_note_2 gX3_31 (by decide) rfl w_517 w_518 ea1 t2 rfl rfl (Nat.le_of_ble_eq_true rfl) (by decide) h
theorem eX3_note {G : GG} (gk : GOK G) {σ : Mm} {K : RES → Mm → Prop} {x0 : Option Nat} {x1 : Option Nat}
    (h : ∃ a1, x0 = some a1 ∧ (mt σ a1).1 = 4 ∧ Runs G mX3_keep rX3_keep [(vR x0), (vR x1)] σ (bk G mX3_note rX3_note 0 0 5 [some (vR x0), some (vR x1)] [] K)) : Runs G mX3_note rX3_note [(vR x0), (vR x1)] σ K := Runs.of (by decide) rfl (Nat.le_of_ble_eq_true rfl) (vX3_note_0 gk h)
theorem vX3_note_5 {G : GG} (gk : GOK G) {σ : Mm} {K : RES → Mm → Prop} {x0 : Option Nat} {x1 : Option Nat}
    (h : ∃ a1, x0 = some a1 ∧ (mt σ a1).1 = 4 ∧ Runs G mX3_confirm rX3_confirm [(vR x0)] σ (bk G mX3_note rX3_note 0 0 9 [some (vR x0), some (vR x1)] [] K)) : At G mX3_note rX3_note 0 0 5 [some (vR x0), some (vR x1)] [] σ K := by
  refine s_aload_n (i := 0) dX3_note_5 rfl rfl ?_
  obtain ⟨a1, ea1, h⟩ := h
  obtain ⟨t2, h⟩ := h
  exact t_callV (ci := 3) (as := []) (S := []) gk dX3_note_6 gX3_35 (by decide) rfl w_548 w_549 ea1 t2 rfl rfl (Nat.le_of_ble_eq_true rfl) (by decide) h
theorem vX3_note_9 {G : GG} (gk : GOK G) {σ : Mm} {K : RES → Mm → Prop} {x0 : Option Nat} {x1 : Option Nat}
    (h : K (.inl none) σ) : At G mX3_note rX3_note 0 0 9 [some (vR x0), some (vR x1)] [] σ K := by
  exact s_return dX3_note_9 rfl (by decide) (by decide) h
theorem vX3_keep_0 {G : GG} (gk : GOK G) {σ : Mm} {K : RES → Mm → Prop} {x0 : Option Nat} {x1 : Option Nat}
    (h : ∃ a1, x0 = some a1 ∧ (mt σ a1).1 = 4 ∧ Runs G mX3_row rX3_row [(vR x0), (vI (mi σ a1 2))] σ (bk G mX3_keep rX3_keep 0 0 8 [some (vR x0), some (vR x1)] [] K)) : At G mX3_keep rX3_keep 0 0 0 [some (vR x0), some (vR x1)] [] σ K := by
  refine s_aload_n (i := 0) dX3_keep_0 rfl rfl ?_
  refine s_aload_n (i := 0) dX3_keep_1 rfl rfl ?_
  obtain ⟨a1, ea1, h⟩ := h
  obtain ⟨t2, h⟩ := h
  refine t_getI gk dX3_keep_2 fX3_21 rfl ea1 t2 ?_
  exact t_callV (ci := 3) (as := [(vI (mi σ a1 2))]) (S := []) gk dX3_keep_5 gX3_38 (by decide) rfl w_521 w_522 ea1 t2 rfl rfl (Nat.le_of_ble_eq_true rfl) (by decide) h
theorem eX3_keep {G : GG} (gk : GOK G) {σ : Mm} {K : RES → Mm → Prop} {x0 : Option Nat} {x1 : Option Nat}
    (h : ∃ a1, x0 = some a1 ∧ (mt σ a1).1 = 4 ∧ Runs G mX3_row rX3_row [(vR x0), (vI (mi σ a1 2))] σ (bk G mX3_keep rX3_keep 0 0 8 [some (vR x0), some (vR x1)] [] K)) : Runs G mX3_keep rX3_keep [(vR x0), (vR x1)] σ K := Runs.of (by decide) rfl (Nat.le_of_ble_eq_true rfl) (vX3_keep_0 gk h)
theorem vX3_keep_8 {G : GG} (gk : GOK G) {σ : Mm} {K : RES → Mm → Prop} {x0 : Option Nat} {x1 : Option Nat} {s0 : Option Nat}
    (h : ∃ a1, s0 = some a1 ∧ (mt σ a1).1 = 7 ∧ Runs G mX6_copyFrom rX6_copyFrom [(vR s0), (vR x1)] σ (bk G mX3_keep rX3_keep 0 0 12 [some (vR x0), some (vR x1)] [] K)) : At G mX3_keep rX3_keep 0 0 8 [some (vR x0), some (vR x1)] [(vR s0)] σ K := by
  refine s_aload_n (i := 1) dX3_keep_8 rfl rfl ?_
  obtain ⟨a1, ea1, h⟩ := h
  obtain ⟨t2, h⟩ := h
  exact t_callV (ci := 6) (as := [(vR x1)]) (S := []) gk dX3_keep_9 gX3_42 (by decide) rfl w_528 w_529 ea1 t2 rfl rfl (Nat.le_of_ble_eq_true rfl) (by decide) h
theorem vX3_keep_12 {G : GG} (gk : GOK G) {σ : Mm} {K : RES → Mm → Prop} {x0 : Option Nat} {x1 : Option Nat}
    (h : K (.inl none) σ) : At G mX3_keep rX3_keep 0 0 12 [some (vR x0), some (vR x1)] [] σ K := by
  exact s_return dX3_keep_12 rfl (by decide) (by decide) h
theorem vX3_takeBack_0 {G : GG} (gk : GOK G) {σ : Mm} {K : RES → Mm → Prop} {x0 : Option Nat} {x1 : Option Nat}
    (h : ∃ a1, x0 = some a1 ∧ (mt σ a1).1 = 4 ∧ Runs G mX3_row rX3_row [(vR x0), (vI (mi σ a1 2))] σ (bk G mX3_takeBack rX3_takeBack 0 0 9 [some (vR x0), some (vR x1)] [(vR x1)] K)) : At G mX3_takeBack rX3_takeBack 0 0 0 [some (vR x0), some (vR x1)] [] σ K := by
  refine s_aload_n (i := 1) dX3_takeBack_0 rfl rfl ?_
  refine s_aload_n (i := 0) dX3_takeBack_1 rfl rfl ?_
  refine s_aload_n (i := 0) dX3_takeBack_2 rfl rfl ?_
  obtain ⟨a1, ea1, h⟩ := h
  obtain ⟨t2, h⟩ := h
  refine t_getI gk dX3_takeBack_3 fX3_21 rfl ea1 t2 ?_
  exact t_callV (ci := 3) (as := [(vI (mi σ a1 2))]) (S := [(vR x1)]) gk dX3_takeBack_6 gX3_38 (by decide) rfl w_521 w_522 ea1 t2 rfl rfl (Nat.le_of_ble_eq_true rfl) (by decide) h
theorem eX3_takeBack {G : GG} (gk : GOK G) {σ : Mm} {K : RES → Mm → Prop} {x0 : Option Nat} {x1 : Option Nat}
    (h : ∃ a1, x0 = some a1 ∧ (mt σ a1).1 = 4 ∧ Runs G mX3_row rX3_row [(vR x0), (vI (mi σ a1 2))] σ (bk G mX3_takeBack rX3_takeBack 0 0 9 [some (vR x0), some (vR x1)] [(vR x1)] K)) : Runs G mX3_takeBack rX3_takeBack [(vR x0), (vR x1)] σ K := Runs.of (by decide) rfl (Nat.le_of_ble_eq_true rfl) (vX3_takeBack_0 gk h)
theorem vX3_takeBack_9 {G : GG} (gk : GOK G) {σ : Mm} {K : RES → Mm → Prop} {x0 : Option Nat} {x1 : Option Nat} {s0 : Option Nat} {s1 : Option Nat}
    (h : ∃ a1, s1 = some a1 ∧ (mt σ a1).1 = 7 ∧ Runs G mX6_copyFrom rX6_copyFrom [(vR s1), (vR s0)] σ (bk G mX3_takeBack rX3_takeBack 0 0 12 [some (vR x0), some (vR x1)] [] K)) : At G mX3_takeBack rX3_takeBack 0 0 9 [some (vR x0), some (vR x1)] [(vR s0), (vR s1)] σ K := by
  obtain ⟨a1, ea1, h⟩ := h
  obtain ⟨t2, h⟩ := h
  exact t_callV (ci := 6) (as := [(vR s0)]) (S := []) gk dX3_takeBack_9 gX3_42 (by decide) rfl w_528 w_529 ea1 t2 rfl rfl (Nat.le_of_ble_eq_true rfl) (by decide) h
theorem vX3_takeBack_12 {G : GG} (gk : GOK G) {σ : Mm} {K : RES → Mm → Prop} {x0 : Option Nat} {x1 : Option Nat}
    (h : K (.inl none) σ) : At G mX3_takeBack rX3_takeBack 0 0 12 [some (vR x0), some (vR x1)] [] σ K := by
  exact s_return dX3_takeBack_12 rfl (by decide) (by decide) h
theorem vX3_confirm_0 {G : GG} (gk : GOK G) {σ : Mm} {K : RES → Mm → Prop} {x0 : Option Nat}
    (h : ∃ a1, x0 = some a1 ∧ (mt σ a1).1 = 4 ∧ (((8 : Int32) ≤ (mi σ a1 2) → Runs G mJ9_floorMod_7cf53 rJ9_floorMod_7cf53 [(vI ((mi σ a1 1) + (1 : Int32))), (vI (9 : Int32))] σ (bk G mX3_confirm rX3_confirm 0 0 34 [some (vR x0)] [(vR x0)] K)) ∧ (¬ (8 : Int32) ≤ (mi σ a1 2) → ∀ σ4, σ4 = si σ a1 2 ((mi σ a1 2) + (1 : Int32)) → K (.inl none) σ4))) : At G mX3_confirm rX3_confirm 0 0 0 [some (vR x0)] [] σ K := by
  refine s_aload_n (i := 0) dX3_confirm_0 rfl rfl ?_
  obtain ⟨a1, ea1, h⟩ := h
  obtain ⟨t2, h⟩ := h
  refine t_getI gk dX3_confirm_1 fX3_21 rfl ea1 t2 ?_
  refine s_bipush (v := 8) dX3_confirm_4 (by decide) ?_
  refine s_icmp_ge (tgt := 22) dX3_confirm_6 (by decide) (fun q3 => ?_) (fun q3 => ?_)
  · have h := h.1 q3
    refine s_aload_n (i := 0) dX3_confirm_22 rfl rfl ?_
    refine s_aload_n (i := 0) dX3_confirm_23 rfl rfl ?_
    refine t_getI gk dX3_confirm_24 fX3_17 rfl ea1 t2 ?_
    refine s_iconst (v := 1) dX3_confirm_27 (by decide) ?_
    refine s_iadd dX3_confirm_28 ?_
    refine s_bipush (v := 9) dX3_confirm_29 (by decide) ?_
    exact s_callS (as := [(vI ((mi σ a1 1) + (1 : Int32))), (vI (9 : Int32))]) (S := [(vR x0)]) gk dX3_confirm_31 gX3_25 w_525 rfl rfl (Nat.le_of_ble_eq_true rfl) (by decide) h
  · have h := h.2 q3
    refine s_aload_n (i := 0) dX3_confirm_9 rfl rfl ?_
    refine s_dup dX3_confirm_10 rfl ?_
    refine t_getI gk dX3_confirm_11 fX3_21 rfl ea1 t2 ?_
    refine s_iconst (v := 1) dX3_confirm_14 (by decide) ?_
    refine s_iadd dX3_confirm_15 ?_
    refine t_putI gk dX3_confirm_16 fX3_21 rfl rfl ea1 t2 ⟨rfl, rfl⟩ (fun σ4 eσ4 mσ4 => ?_)
    replace h := h σ4 eσ4
    refine s_goto (tgt := 37) dX3_confirm_19 (by decide) ?_
    exact s_return dX3_confirm_37 rfl (by decide) (by decide) h
theorem eX3_confirm {G : GG} (gk : GOK G) {σ : Mm} {K : RES → Mm → Prop} {x0 : Option Nat}
    (h : ∃ a1, x0 = some a1 ∧ (mt σ a1).1 = 4 ∧ (((8 : Int32) ≤ (mi σ a1 2) → Runs G mJ9_floorMod_7cf53 rJ9_floorMod_7cf53 [(vI ((mi σ a1 1) + (1 : Int32))), (vI (9 : Int32))] σ (bk G mX3_confirm rX3_confirm 0 0 34 [some (vR x0)] [(vR x0)] K)) ∧ (¬ (8 : Int32) ≤ (mi σ a1 2) → ∀ σ4, σ4 = si σ a1 2 ((mi σ a1 2) + (1 : Int32)) → K (.inl none) σ4))) : Runs G mX3_confirm rX3_confirm [(vR x0)] σ K := Runs.of (by decide) rfl (Nat.le_of_ble_eq_true rfl) (vX3_confirm_0 gk h)
theorem vX3_confirm_34 {G : GG} (gk : GOK G) {σ : Mm} {K : RES → Mm → Prop} {x0 : Option Nat} {s0 : Int32} {s1 : Option Nat}
    (h : ∃ a1, s1 = some a1 ∧ (mt σ a1).1 = 4 ∧ ∀ σ3, σ3 = si σ a1 1 s0 → K (.inl none) σ3) : At G mX3_confirm rX3_confirm 0 0 34 [some (vR x0)] [(vI s0), (vR s1)] σ K := by
  obtain ⟨a1, ea1, h⟩ := h
  obtain ⟨t2, h⟩ := h
  refine t_putI gk dX3_confirm_34 fX3_17 rfl rfl ea1 t2 ⟨rfl, rfl⟩ (fun σ3 eσ3 mσ3 => ?_)
  replace h := h σ3 eσ3
  exact s_return dX3_confirm_37 rfl (by decide) (by decide) h
theorem vX3_goBack_0 {G : GG} (gk : GOK G) {σ : Mm} {K : RES → Mm → Prop} {x0 : Option Nat} {x1 : Option Nat}
    (h : ∃ a1, x0 = some a1 ∧ (mt σ a1).1 = 4 ∧ ∀ σ3, σ3 = si σ a1 2 ((mi σ a1 2) - (1 : Int32)) → Runs G mX3_takeBack rX3_takeBack [(vR x0), (vR x1)] σ3 (bk G mX3_goBack rX3_goBack 0 0 15 [some (vR x0), some (vR x1)] [] K)) : At G mX3_goBack rX3_goBack 0 0 0 [some (vR x0), some (vR x1)] [] σ K := by
  refine s_aload_n (i := 0) dX3_goBack_0 rfl rfl ?_
  refine s_dup dX3_goBack_1 rfl ?_
  obtain ⟨a1, ea1, h⟩ := h
  obtain ⟨t2, h⟩ := h
  refine t_getI gk dX3_goBack_2 fX3_21 rfl ea1 t2 ?_
  refine s_iconst (v := 1) dX3_goBack_5 (by decide) ?_
  refine s_isub dX3_goBack_6 ?_
  refine t_putI gk dX3_goBack_7 fX3_21 rfl rfl ea1 t2 ⟨rfl, rfl⟩ (fun σ3 eσ3 mσ3 => ?_)
  replace h := h σ3 eσ3
  refine s_aload_n (i := 0) dX3_goBack_10 rfl rfl ?_
  refine s_aload_n (i := 1) dX3_goBack_11 rfl rfl ?_
  exact t_callV (ci := 3) (as := [(vR x1)]) (S := []) gk dX3_goBack_12 gX3_45 (by decide) rfl w_1530 w_1531 ea1 (by rw [mσ3]; exact t2) rfl rfl (Nat.le_of_ble_eq_true rfl) (by decide) h
theorem eX3_goBack {G : GG} (gk : GOK G) {σ : Mm} {K : RES → Mm → Prop} {x0 : Option Nat} {x1 : Option Nat}
    (h : ∃ a1, x0 = some a1 ∧ (mt σ a1).1 = 4 ∧ ∀ σ3, σ3 = si σ a1 2 ((mi σ a1 2) - (1 : Int32)) → Runs G mX3_takeBack rX3_takeBack [(vR x0), (vR x1)] σ3 (bk G mX3_goBack rX3_goBack 0 0 15 [some (vR x0), some (vR x1)] [] K)) : Runs G mX3_goBack rX3_goBack [(vR x0), (vR x1)] σ K := Runs.of (by decide) rfl (Nat.le_of_ble_eq_true rfl) (vX3_goBack_0 gk h)
theorem vX3_goBack_15 {G : GG} (gk : GOK G) {σ : Mm} {K : RES → Mm → Prop} {x0 : Option Nat} {x1 : Option Nat}
    (h : K (.inl none) σ) : At G mX3_goBack rX3_goBack 0 0 15 [some (vR x0), some (vR x1)] [] σ K := by
  exact s_return dX3_goBack_15 rfl (by decide) (by decide) h
theorem vX6_init_0 {G : GG} (gk : GOK G) {uc us : Nat} {σ : Mm} {K : RES → Mm → Prop} {x0 : Option Nat}
    (h : ∃ a1, x0 = some a1 ∧ uc + 1 ≤ rX6_init.cells ∧ us + 26 ≤ rX6_init.slots ∧ ∀ σ4, σ4 = nw σ (55, 26) → (mt σ4 a1).1 = 7 ∧ ∀ σ6, σ6 = sr σ4 a1 0 (some (mz σ)) → (uc + 1) + 1 ≤ rX6_init.cells ∧ (us + 26) + 4 ≤ rX6_init.slots ∧ ∀ σ9, σ9 = nw σ6 (56, 4) → (mt σ9 a1).1 = 7 ∧ ∀ σ11, σ11 = sr σ9 a1 1 (some (mz σ6)) → ((uc + 1) + 1) + 1 ≤ rX6_init.cells ∧ ((us + 26) + 4) + 8 ≤ rX6_init.slots ∧ ∀ σ14, σ14 = nw σ11 (57, 8) → (mt σ14 a1).1 = 7 ∧ ∀ σ16, σ16 = sr σ14 a1 2 (some (mz σ11)) → ∀ σ17, σ17 = si σ16 a1 3 (0 : Int32) → ∀ σ18, σ18 = si σ17 a1 4 (0 : Int32) → ∀ σ19, σ19 = si σ18 a1 5 (0 : Int32) → ∀ σ20, σ20 = si σ19 a1 6 (0 : Int32) → ∀ σ21, σ21 = si σ20 a1 7 (0 : Int32) → ∀ σ22, σ22 = si σ21 a1 8 (0 : Int32) → At G mX6_init rX6_init (((uc + 1) + 1) + 1) (((us + 26) + 4) + 8) 62 [some (vR x0), some (vI (0 : Int32))] [] σ22 K) : At G mX6_init rX6_init uc us 0 [some (vR x0), none] [] σ K := by
  refine s_aload_n (i := 0) dX6_init_0 rfl rfl ?_
  obtain ⟨a1, ea1, h⟩ := h
  refine t_objInit gk dX6_init_1 w_48 (by decide) (by decide) ea1 ?_
  refine s_aload_n (i := 0) dX6_init_4 rfl rfl ?_
  refine s_bipush (v := 26) dX6_init_5 (by decide) ?_
  obtain ⟨u2, u3, h⟩ := h
  refine s_anew (j := 5) (ci := 4) (N := 26) gk dX6_init_7 (by decide) (by decide) rfl w_49 (List.mem_of_getElem? (i := 58) (by decide +kernel)) (by decide) (by decide) (by decide) u2 u3 ?_
  replace h := h _ rfl
  generalize nw σ (55, 26) = σ4 at h ⊢
  obtain ⟨t5, h⟩ := h
  refine t_putR gk dX6_init_10 fX6_11 (Or.inr ⟨rfl, rfl, rfl⟩) rfl ea1 t5 (nf_rf rfl) (fun σ6 eσ6 mσ6 => ?_)
  replace h := h σ6 eσ6
  refine s_aload_n (i := 0) dX6_init_13 rfl rfl ?_
  refine s_iconst (v := 4) dX6_init_14 (by decide) ?_
  obtain ⟨u7, u8, h⟩ := h
  refine s_anew (j := 6) (ci := 5) (N := 4) gk dX6_init_15 (by decide) (by decide) rfl w_51 (List.mem_of_getElem? (i := 60) (by decide +kernel)) (by decide) (by decide) (by decide) u7 u8 ?_
  replace h := h _ rfl
  generalize nw σ6 (56, 4) = σ9 at h ⊢
  obtain ⟨t10, h⟩ := h
  refine t_putR gk dX6_init_18 fX6_19 (Or.inr ⟨rfl, rfl, rfl⟩) rfl ea1 t10 (nf_rf rfl) (fun σ11 eσ11 mσ11 => ?_)
  replace h := h σ11 eσ11
  refine s_aload_n (i := 0) dX6_init_21 rfl rfl ?_
  refine s_bipush (v := 8) dX6_init_22 (by decide) ?_
  obtain ⟨u12, u13, h⟩ := h
  refine s_anew (j := 7) (ci := 7) (N := 8) gk dX6_init_24 (by decide) (by decide) rfl w_53 (List.mem_of_getElem? (i := 62) (by decide +kernel)) (by decide) (by decide) (by decide) u12 u13 ?_
  replace h := h _ rfl
  generalize nw σ11 (57, 8) = σ14 at h ⊢
  obtain ⟨t15, h⟩ := h
  refine t_putR gk dX6_init_27 fX6_25 (Or.inr ⟨rfl, rfl, rfl⟩) rfl ea1 t15 (nf_rf rfl) (fun σ16 eσ16 mσ16 => ?_)
  replace h := h σ16 eσ16
  refine s_aload_n (i := 0) dX6_init_30 rfl rfl ?_
  refine s_iconst (v := 0) dX6_init_31 (by decide) ?_
  refine t_putI gk dX6_init_32 fX6_29 rfl rfl ea1 (by rw [mσ16]; exact t15) ⟨rfl, rfl⟩ (fun σ17 eσ17 mσ17 => ?_)
  replace h := h σ17 eσ17
  refine s_aload_n (i := 0) dX6_init_35 rfl rfl ?_
  refine s_iconst (v := 0) dX6_init_36 (by decide) ?_
  refine t_putI gk dX6_init_37 fX6_33 rfl rfl ea1 (by rw [mσ17, mσ16]; exact t15) ⟨rfl, rfl⟩ (fun σ18 eσ18 mσ18 => ?_)
  replace h := h σ18 eσ18
  refine s_aload_n (i := 0) dX6_init_40 rfl rfl ?_
  refine s_iconst (v := 0) dX6_init_41 (by decide) ?_
  refine t_putI gk dX6_init_42 fX6_36 rfl rfl ea1 (by rw [mσ18, mσ17, mσ16]; exact t15) ⟨rfl, rfl⟩ (fun σ19 eσ19 mσ19 => ?_)
  replace h := h σ19 eσ19
  refine s_aload_n (i := 0) dX6_init_45 rfl rfl ?_
  refine s_iconst (v := 0) dX6_init_46 (by decide) ?_
  refine t_putI gk dX6_init_47 fX6_39 rfl rfl ea1 (by rw [mσ19, mσ18, mσ17, mσ16]; exact t15) ⟨rfl, rfl⟩ (fun σ20 eσ20 mσ20 => ?_)
  replace h := h σ20 eσ20
  refine s_aload_n (i := 0) dX6_init_50 rfl rfl ?_
  refine s_iconst (v := 0) dX6_init_51 (by decide) ?_
  refine t_putI gk dX6_init_52 fX6_42 rfl rfl ea1 (by rw [mσ20, mσ19, mσ18, mσ17, mσ16]; exact t15) ⟨rfl, rfl⟩ (fun σ21 eσ21 mσ21 => ?_)
  replace h := h σ21 eσ21
  refine s_aload_n (i := 0) dX6_init_55 rfl rfl ?_
  refine s_iconst (v := 0) dX6_init_56 (by decide) ?_
  refine t_putI gk dX6_init_57 fX6_45 rfl rfl ea1 (by rw [mσ21, mσ20, mσ19, mσ18, mσ17, mσ16]; exact t15) ⟨rfl, rfl⟩ (fun σ22 eσ22 mσ22 => ?_)
  replace h := h σ22 eσ22
  refine s_iconst (v := 0) dX6_init_60 (by decide) ?_
  refine s_istore_n (i := 1) (L' := [some (vR x0), some (vI (0 : Int32))]) dX6_init_61 rfl rfl (by decide) rfl ?_
  exact h
theorem eX6_init {G : GG} (gk : GOK G) {σ : Mm} {K : RES → Mm → Prop} {x0 : Option Nat}
    (h : ∃ a1, x0 = some a1 ∧ 0 + 1 ≤ rX6_init.cells ∧ 0 + 26 ≤ rX6_init.slots ∧ ∀ σ4, σ4 = nw σ (55, 26) → (mt σ4 a1).1 = 7 ∧ ∀ σ6, σ6 = sr σ4 a1 0 (some (mz σ)) → (0 + 1) + 1 ≤ rX6_init.cells ∧ (0 + 26) + 4 ≤ rX6_init.slots ∧ ∀ σ9, σ9 = nw σ6 (56, 4) → (mt σ9 a1).1 = 7 ∧ ∀ σ11, σ11 = sr σ9 a1 1 (some (mz σ6)) → ((0 + 1) + 1) + 1 ≤ rX6_init.cells ∧ ((0 + 26) + 4) + 8 ≤ rX6_init.slots ∧ ∀ σ14, σ14 = nw σ11 (57, 8) → (mt σ14 a1).1 = 7 ∧ ∀ σ16, σ16 = sr σ14 a1 2 (some (mz σ11)) → ∀ σ17, σ17 = si σ16 a1 3 (0 : Int32) → ∀ σ18, σ18 = si σ17 a1 4 (0 : Int32) → ∀ σ19, σ19 = si σ18 a1 5 (0 : Int32) → ∀ σ20, σ20 = si σ19 a1 6 (0 : Int32) → ∀ σ21, σ21 = si σ20 a1 7 (0 : Int32) → ∀ σ22, σ22 = si σ21 a1 8 (0 : Int32) → At G mX6_init rX6_init (((0 + 1) + 1) + 1) (((0 + 26) + 4) + 8) 62 [some (vR x0), some (vI (0 : Int32))] [] σ22 K) : Runs G mX6_init rX6_init [(vR x0)] σ K := Runs.of (by decide) rfl (Nat.le_of_ble_eq_true rfl) (vX6_init_0 gk h)
theorem vX6_init_62 {G : GG} (gk : GOK G) {uc us : Nat} {σ : Mm} {K : RES → Mm → Prop} {x0 : Option Nat} {x1 : Int32}
    (h : ∃ a1, x0 = some a1 ∧ (mt σ a1).1 = 7 ∧ ∃ a3, mr σ a1 0 = some a3 ∧ ∃ n5, mt σ a3 = (55, n5) ∧ (((nI n5) ≤ x1 → At G mX6_init rX6_init uc us 92 [some (vR x0), some (vI (0 : Int32))] [] σ K) ∧ (¬ (nI n5) ≤ x1 → uc + 1 ≤ rX6_init.cells ∧ us + 4 ≤ rX6_init.slots ∧ ∀ σ9, σ9 = nw σ (5, 0) → (uc + 1) + rX4_init.cells ≤ rX6_init.cells ∧ (us + 4) + rX4_init.slots ≤ rX6_init.slots ∧ ∃ K10 : RES → Mm → Prop, Runs G mX4_init rX4_init [(vR (some (mz σ)))] σ9 K10 ∧ (∀ E t, ¬ K10 (.inr E) t) ∧ (∀ v t, K10 (.inl v) t → At G mX6_init rX6_init ((uc + 1) + 0) ((us + 4) + 0) 83 [some (vR x0), some (vI x1)] (v.toList ++ [(vR (some (mz σ))), (vI x1), (vR (mr σ a1 0))]) t K)))) : At G mX6_init rX6_init uc us 62 [some (vR x0), some (vI x1)] [] σ K := by
  refine s_iload_n (i := 1) dX6_init_62 rfl rfl ?_
  refine s_aload_n (i := 0) dX6_init_63 rfl rfl ?_
  obtain ⟨a1, ea1, h⟩ := h
  obtain ⟨t2, h⟩ := h
  refine t_getR gk dX6_init_64 fX6_11 rfl ea1 t2 ?_
  obtain ⟨a3, ea3, h⟩ := h
  obtain ⟨n5, t4, h⟩ := h
  refine t_alen (j := 5) gk dX6_init_67 (by decide) ea3 t4 ?_
  refine s_icmp_ge (tgt := 90) dX6_init_68 (by decide) (fun q6 => ?_) (fun q6 => ?_)
  · have h := h.1 q6
    refine s_iconst (v := 0) dX6_init_90 (by decide) ?_
    refine s_istore_n (i := 1) (L' := [some (vR x0), some (vI (0 : Int32))]) dX6_init_91 rfl rfl (by decide) rfl ?_
    exact h
  · have h := h.2 q6
    refine s_aload_n (i := 0) dX6_init_71 rfl rfl ?_
    refine t_getR gk dX6_init_72 fX6_11 rfl ea1 t2 ?_
    refine s_iload_n (i := 1) dX6_init_75 rfl rfl ?_
    obtain ⟨u7, u8, h⟩ := h
    refine t_new gk dX6_init_76 nX6_9 u7 u8 (fun σ9 eσ9 => ?_)
    replace h := h σ9 eσ9
    refine s_dup dX6_init_79 rfl ?_
    obtain ⟨u11, u12, h⟩ := h
    obtain ⟨K10, h1, h2, h3⟩ := h
    exact s_callIN (nA := 0) (host := "EchoPantry") (a := mz σ) (as := []) (S := [(vR (some (mz σ))), (vI x1), (vR (mr σ a1 0))]) gk dX6_init_80 (List.mem_of_getElem? (i := 64) (by decide +kernel)) w_58 w_3 ⟨by decide, by decide⟩ (by decide +kernel) w_57 rfl rfl rfl rfl (Nat.le_of_ble_eq_true rfl) ⟨by decide, by decide, u11, u12⟩ h1 h2 h3
theorem vX6_init_83 {G : GG} (gk : GOK G) {uc us : Nat} {σ : Mm} {K : RES → Mm → Prop} {x0 : Option Nat} {x1 : Int32} {s0 : Option Nat} {s1 : Int32} {s2 : Option Nat}
    (h : ∃ a1, s2 = some a1 ∧ ∃ n3, mt σ a1 = (55, n3) ∧ vp_in s1 n3 ∧ ∃ a6, s0 = some a6 ∧ (mt σ a6).1 = 5 ∧ ∀ σ5, σ5 = sr σ a1 s1.toNatClampNeg s0 → At G mX6_init rX6_init uc us 62 [some (vR x0), some (vI (x1 + 1))] [] σ5 K) : At G mX6_init rX6_init uc us 83 [some (vR x0), some (vI x1)] [(vR s0), (vI s1), (vR s2)] σ K := by
  obtain ⟨a1, ea1, h⟩ := h
  obtain ⟨n3, t2, h⟩ := h
  obtain ⟨c4, h⟩ := h
  obtain ⟨a6, ea6, h⟩ := h
  obtain ⟨t7, h⟩ := h
  refine t_aast (j := 5) (ci := 4) gk dX6_init_83 (by decide) (by decide) (by decide) rfl ea1 t2 ea6 t7 c4 (fun σ5 eσ5 mσ5 => ?_)
  replace h := h σ5 eσ5
  refine s_iinc (v := x1 + 1) (L' := [some (vR x0), some (vI (x1 + 1))]) dX6_init_84 rfl rfl rfl (by decide) rfl ?_
  refine s_goto (tgt := 62) dX6_init_87 (by decide) ?_
  exact h
theorem vX6_init_92 {G : GG} (gk : GOK G) {uc us : Nat} {σ : Mm} {K : RES → Mm → Prop} {x0 : Option Nat} {x1 : Int32}
    (h : ∃ a1, x0 = some a1 ∧ (mt σ a1).1 = 7 ∧ ∃ a3, mr σ a1 1 = some a3 ∧ ∃ n5, mt σ a3 = (56, n5) ∧ (((nI n5) ≤ x1 → At G mX6_init rX6_init uc us 122 [some (vR x0), some (vI (0 : Int32))] [] σ K) ∧ (¬ (nI n5) ≤ x1 → uc + 1 ≤ rX6_init.cells ∧ us + 7 ≤ rX6_init.slots ∧ ∀ σ9, σ9 = nw σ (6, 0) → (uc + 1) + rX5_init.cells ≤ rX6_init.cells ∧ (us + 7) + rX5_init.slots ≤ rX6_init.slots ∧ ∃ K10 : RES → Mm → Prop, Runs G mX5_init rX5_init [(vR (some (mz σ)))] σ9 K10 ∧ (∀ E t, ¬ K10 (.inr E) t) ∧ (∀ v t, K10 (.inl v) t → At G mX6_init rX6_init ((uc + 1) + 7) ((us + 7) + 60) 113 [some (vR x0), some (vI x1)] (v.toList ++ [(vR (some (mz σ))), (vI x1), (vR (mr σ a1 1))]) t K)))) : At G mX6_init rX6_init uc us 92 [some (vR x0), some (vI x1)] [] σ K := by
  refine s_iload_n (i := 1) dX6_init_92 rfl rfl ?_
  refine s_aload_n (i := 0) dX6_init_93 rfl rfl ?_
  obtain ⟨a1, ea1, h⟩ := h
  obtain ⟨t2, h⟩ := h
  refine t_getR gk dX6_init_94 fX6_19 rfl ea1 t2 ?_
  obtain ⟨a3, ea3, h⟩ := h
  obtain ⟨n5, t4, h⟩ := h
  refine t_alen (j := 6) gk dX6_init_97 (by decide) ea3 t4 ?_
  refine s_icmp_ge (tgt := 120) dX6_init_98 (by decide) (fun q6 => ?_) (fun q6 => ?_)
  · have h := h.1 q6
    refine s_iconst (v := 0) dX6_init_120 (by decide) ?_
    refine s_istore_n (i := 1) (L' := [some (vR x0), some (vI (0 : Int32))]) dX6_init_121 rfl rfl (by decide) rfl ?_
    exact h
  · have h := h.2 q6
    refine s_aload_n (i := 0) dX6_init_101 rfl rfl ?_
    refine t_getR gk dX6_init_102 fX6_19 rfl ea1 t2 ?_
    refine s_iload_n (i := 1) dX6_init_105 rfl rfl ?_
    obtain ⟨u7, u8, h⟩ := h
    refine t_new gk dX6_init_106 nX6_17 u7 u8 (fun σ9 eσ9 => ?_)
    replace h := h σ9 eσ9
    refine s_dup dX6_init_109 rfl ?_
    obtain ⟨u11, u12, h⟩ := h
    obtain ⟨K10, h1, h2, h3⟩ := h
    exact s_callI (a := mz σ) (as := []) (S := [(vR (some (mz σ))), (vI x1), (vR (mr σ a1 1))]) gk dX6_init_110 gX6_49 w_82 rfl rfl rfl rfl (Nat.le_of_ble_eq_true rfl) ⟨by decide, by decide, u11, u12⟩ h1 h2 h3
theorem vX6_init_113 {G : GG} (gk : GOK G) {uc us : Nat} {σ : Mm} {K : RES → Mm → Prop} {x0 : Option Nat} {x1 : Int32} {s0 : Option Nat} {s1 : Int32} {s2 : Option Nat}
    (h : ∃ a1, s2 = some a1 ∧ ∃ n3, mt σ a1 = (56, n3) ∧ vp_in s1 n3 ∧ ∃ a6, s0 = some a6 ∧ (mt σ a6).1 = 6 ∧ ∀ σ5, σ5 = sr σ a1 s1.toNatClampNeg s0 → At G mX6_init rX6_init uc us 92 [some (vR x0), some (vI (x1 + 1))] [] σ5 K) : At G mX6_init rX6_init uc us 113 [some (vR x0), some (vI x1)] [(vR s0), (vI s1), (vR s2)] σ K := by
  obtain ⟨a1, ea1, h⟩ := h
  obtain ⟨n3, t2, h⟩ := h
  obtain ⟨c4, h⟩ := h
  obtain ⟨a6, ea6, h⟩ := h
  obtain ⟨t7, h⟩ := h
  refine t_aast (j := 6) (ci := 5) gk dX6_init_113 (by decide) (by decide) (by decide) rfl ea1 t2 ea6 t7 c4 (fun σ5 eσ5 mσ5 => ?_)
  replace h := h σ5 eσ5
  refine s_iinc (v := x1 + 1) (L' := [some (vR x0), some (vI (x1 + 1))]) dX6_init_114 rfl rfl rfl (by decide) rfl ?_
  refine s_goto (tgt := 92) dX6_init_117 (by decide) ?_
  exact h
theorem vX6_init_122 {G : GG} (gk : GOK G) {uc us : Nat} {σ : Mm} {K : RES → Mm → Prop} {x0 : Option Nat} {x1 : Int32}
    (h : ∃ a1, x0 = some a1 ∧ (mt σ a1).1 = 7 ∧ ∃ a3, mr σ a1 2 = some a3 ∧ ∃ n5, mt σ a3 = (57, n5) ∧ (((nI n5) ≤ x1 → uc ≤ rX6_init.cells ∧ us ≤ rX6_init.slots ∧ K (.inl none) σ) ∧ (¬ (nI n5) ≤ x1 → uc + 1 ≤ rX6_init.cells ∧ us + 4 ≤ rX6_init.slots ∧ ∀ σ11, σ11 = nw σ (8, 0) → (uc + 1) + rX7_init.cells ≤ rX6_init.cells ∧ (us + 4) + rX7_init.slots ≤ rX6_init.slots ∧ ∃ K12 : RES → Mm → Prop, Runs G mX7_init rX7_init [(vR (some (mz σ)))] σ11 K12 ∧ (∀ E t, ¬ K12 (.inr E) t) ∧ (∀ v t, K12 (.inl v) t → At G mX6_init rX6_init ((uc + 1) + 0) ((us + 4) + 0) 143 [some (vR x0), some (vI x1)] (v.toList ++ [(vR (some (mz σ))), (vI x1), (vR (mr σ a1 2))]) t K)))) : At G mX6_init rX6_init uc us 122 [some (vR x0), some (vI x1)] [] σ K := by
  refine s_iload_n (i := 1) dX6_init_122 rfl rfl ?_
  refine s_aload_n (i := 0) dX6_init_123 rfl rfl ?_
  obtain ⟨a1, ea1, h⟩ := h
  obtain ⟨t2, h⟩ := h
  refine t_getR gk dX6_init_124 fX6_25 rfl ea1 t2 ?_
  obtain ⟨a3, ea3, h⟩ := h
  obtain ⟨n5, t4, h⟩ := h
  refine t_alen (j := 7) gk dX6_init_127 (by decide) ea3 t4 ?_
  refine s_icmp_ge (tgt := 150) dX6_init_128 (by decide) (fun q6 => ?_) (fun q6 => ?_)
  · have h := h.1 q6
    obtain ⟨u7, u8, h⟩ := h
    exact s_return dX6_init_150 rfl u7 u8 h
  · have h := h.2 q6
    refine s_aload_n (i := 0) dX6_init_131 rfl rfl ?_
    refine t_getR gk dX6_init_132 fX6_25 rfl ea1 t2 ?_
    refine s_iload_n (i := 1) dX6_init_135 rfl rfl ?_
    obtain ⟨u9, u10, h⟩ := h
    refine t_new gk dX6_init_136 nX6_23 u9 u10 (fun σ11 eσ11 => ?_)
    replace h := h σ11 eσ11
    refine s_dup dX6_init_139 rfl ?_
    obtain ⟨u13, u14, h⟩ := h
    obtain ⟨K12, h1, h2, h3⟩ := h
    exact s_callIN (nA := 0) (host := "EchoPantry") (a := mz σ) (as := []) (S := [(vR (some (mz σ))), (vI x1), (vR (mr σ a1 2))]) gk dX6_init_140 (List.mem_of_getElem? (i := 175) (by decide +kernel)) w_169 w_6 ⟨by decide, by decide⟩ (by decide +kernel) w_168 rfl rfl rfl rfl (Nat.le_of_ble_eq_true rfl) ⟨by decide, by decide, u13, u14⟩ h1 h2 h3
theorem vX6_init_143 {G : GG} (gk : GOK G) {uc us : Nat} {σ : Mm} {K : RES → Mm → Prop} {x0 : Option Nat} {x1 : Int32} {s0 : Option Nat} {s1 : Int32} {s2 : Option Nat}
    (h : ∃ a1, s2 = some a1 ∧ ∃ n3, mt σ a1 = (57, n3) ∧ vp_in s1 n3 ∧ ∃ a6, s0 = some a6 ∧ (mt σ a6).1 = 8 ∧ ∀ σ5, σ5 = sr σ a1 s1.toNatClampNeg s0 → At G mX6_init rX6_init uc us 122 [some (vR x0), some (vI (x1 + 1))] [] σ5 K) : At G mX6_init rX6_init uc us 143 [some (vR x0), some (vI x1)] [(vR s0), (vI s1), (vR s2)] σ K := by
  obtain ⟨a1, ea1, h⟩ := h
  obtain ⟨n3, t2, h⟩ := h
  obtain ⟨c4, h⟩ := h
  obtain ⟨a6, ea6, h⟩ := h
  obtain ⟨t7, h⟩ := h
  refine t_aast (j := 7) (ci := 7) gk dX6_init_143 (by decide) (by decide) (by decide) rfl ea1 t2 ea6 t7 c4 (fun σ5 eσ5 mσ5 => ?_)
  replace h := h σ5 eσ5
  refine s_iinc (v := x1 + 1) (L' := [some (vR x0), some (vI (x1 + 1))]) dX6_init_144 rfl rfl rfl (by decide) rfl ?_
  refine s_goto (tgt := 122) dX6_init_147 (by decide) ?_
  exact h
theorem vX6_copyFrom_0 {G : GG} (gk : GOK G) {σ : Mm} {K : RES → Mm → Prop} {x0 : Option Nat} {x1 : Option Nat}
    (h : At G mX6_copyFrom rX6_copyFrom 0 0 2 [some (vR x0), some (vR x1), some (vI (0 : Int32))] [] σ K) : At G mX6_copyFrom rX6_copyFrom 0 0 0 [some (vR x0), some (vR x1), none] [] σ K := by
  refine s_iconst (v := 0) dX6_copyFrom_0 (by decide) ?_
  refine s_istore_n (i := 2) (L' := [some (vR x0), some (vR x1), some (vI (0 : Int32))]) dX6_copyFrom_1 rfl rfl (by decide) rfl ?_
  exact h
theorem eX6_copyFrom {G : GG} (gk : GOK G) {σ : Mm} {K : RES → Mm → Prop} {x0 : Option Nat} {x1 : Option Nat}
    (h : At G mX6_copyFrom rX6_copyFrom 0 0 2 [some (vR x0), some (vR x1), some (vI (0 : Int32))] [] σ K) : Runs G mX6_copyFrom rX6_copyFrom [(vR x0), (vR x1)] σ K := Runs.of (by decide) rfl (Nat.le_of_ble_eq_true rfl) (vX6_copyFrom_0 gk h)
theorem vX6_copyFrom_2 {G : GG} (gk : GOK G) {σ : Mm} {K : RES → Mm → Prop} {x0 : Option Nat} {x1 : Option Nat} {x2 : Int32}
    (h : ∃ a1, x0 = some a1 ∧ (mt σ a1).1 = 7 ∧ ∃ a3, mr σ a1 0 = some a3 ∧ ∃ n5, mt σ a3 = (55, n5) ∧ (((nI n5) ≤ x2 → At G mX6_copyFrom rX6_copyFrom 0 0 43 [some (vR x0), some (vR x1), some (vI (0 : Int32))] [] σ K) ∧ (¬ (nI n5) ≤ x2 → ∃ a7, x1 = some a7 ∧ (mt σ a7).1 = 7 ∧ ∃ a9, mr σ a7 0 = some a9 ∧ ∃ n11, mt σ a9 = (55, n11) ∧ (((nI n11) ≤ x2 → At G mX6_copyFrom rX6_copyFrom 0 0 43 [some (vR x0), some (vR x1), some (vI (0 : Int32))] [] σ K) ∧ (¬ (nI n11) ≤ x2 → vp_in x2 n5 ∧ vp_in x2 n11 ∧ ∃ a15, mr σ a3 x2.toNatClampNeg = some a15 ∧ (mt σ a15).1 = 5 ∧ Runs G mX4_copyFrom rX4_copyFrom [(vR (mr σ a3 x2.toNatClampNeg)), (vR (mr σ a9 x2.toNatClampNeg))] σ (bk G mX6_copyFrom rX6_copyFrom 0 0 35 [some (vR x0), some (vR x1), some (vI x2)] [] K)))))) : At G mX6_copyFrom rX6_copyFrom 0 0 2 [some (vR x0), some (vR x1), some (vI x2)] [] σ K := by
  refine s_iload_n (i := 2) dX6_copyFrom_2 rfl rfl ?_
  refine s_aload_n (i := 0) dX6_copyFrom_3 rfl rfl ?_
  obtain ⟨a1, ea1, h⟩ := h
  obtain ⟨t2, h⟩ := h
  refine t_getR gk dX6_copyFrom_4 fX6_11 rfl ea1 t2 ?_
  obtain ⟨a3, ea3, h⟩ := h
  obtain ⟨n5, t4, h⟩ := h
  refine t_alen (j := 5) gk dX6_copyFrom_7 (by decide) ea3 t4 ?_
  refine s_icmp_ge (tgt := 41) dX6_copyFrom_8 (by decide) (fun q6 => ?_) (fun q6 => ?_)
  · have h := h.1 q6
    refine s_iconst (v := 0) dX6_copyFrom_41 (by decide) ?_
    refine s_istore_n (i := 2) (L' := [some (vR x0), some (vR x1), some (vI (0 : Int32))]) dX6_copyFrom_42 rfl rfl (by decide) rfl ?_
    exact h
  · have h := h.2 q6
    refine s_iload_n (i := 2) dX6_copyFrom_11 rfl rfl ?_
    refine s_aload_n (i := 1) dX6_copyFrom_12 rfl rfl ?_
    obtain ⟨a7, ea7, h⟩ := h
    obtain ⟨t8, h⟩ := h
    refine t_getR gk dX6_copyFrom_13 fX6_11 rfl ea7 t8 ?_
    obtain ⟨a9, ea9, h⟩ := h
    obtain ⟨n11, t10, h⟩ := h
    refine t_alen (j := 5) gk dX6_copyFrom_16 (by decide) ea9 t10 ?_
    refine s_icmp_ge (tgt := 41) dX6_copyFrom_17 (by decide) (fun q12 => ?_) (fun q12 => ?_)
    · have h := h.1 q12
      refine s_iconst (v := 0) dX6_copyFrom_41 (by decide) ?_
      refine s_istore_n (i := 2) (L' := [some (vR x0), some (vR x1), some (vI (0 : Int32))]) dX6_copyFrom_42 rfl rfl (by decide) rfl ?_
      exact h
    · have h := h.2 q12
      refine s_aload_n (i := 0) dX6_copyFrom_20 rfl rfl ?_
      refine t_getR gk dX6_copyFrom_21 fX6_11 rfl ea1 t2 ?_
      refine s_iload_n (i := 2) dX6_copyFrom_24 rfl rfl ?_
      obtain ⟨c13, h⟩ := h
      refine t_aald (j := 5) gk dX6_copyFrom_25 (by decide) (by decide) ea3 t4 c13 ?_
      refine s_aload_n (i := 1) dX6_copyFrom_26 rfl rfl ?_
      refine t_getR gk dX6_copyFrom_27 fX6_11 rfl ea7 t8 ?_
      refine s_iload_n (i := 2) dX6_copyFrom_30 rfl rfl ?_
      obtain ⟨c14, h⟩ := h
      refine t_aald (j := 5) gk dX6_copyFrom_31 (by decide) (by decide) ea9 t10 c14 ?_
      obtain ⟨a15, ea15, h⟩ := h
      obtain ⟨t16, h⟩ := h
      exact t_callV (ci := 4) (as := [(vR (mr σ a9 x2.toNatClampNeg))]) (S := []) gk dX6_copyFrom_32 gX6_51 (by decide) rfl w_532 w_533 ea15 t16 rfl rfl (Nat.le_of_ble_eq_true rfl) (by decide) h
theorem vX6_copyFrom_35 {G : GG} (gk : GOK G) {σ : Mm} {K : RES → Mm → Prop} {x0 : Option Nat} {x1 : Option Nat} {x2 : Int32}
    (h : At G mX6_copyFrom rX6_copyFrom 0 0 2 [some (vR x0), some (vR x1), some (vI (x2 + 1))] [] σ K) : At G mX6_copyFrom rX6_copyFrom 0 0 35 [some (vR x0), some (vR x1), some (vI x2)] [] σ K := by
  refine s_iinc (v := x2 + 1) (L' := [some (vR x0), some (vR x1), some (vI (x2 + 1))]) dX6_copyFrom_35 rfl rfl rfl (by decide) rfl ?_
  refine s_goto (tgt := 2) dX6_copyFrom_38 (by decide) ?_
  exact h
theorem vX6_copyFrom_43 {G : GG} (gk : GOK G) {σ : Mm} {K : RES → Mm → Prop} {x0 : Option Nat} {x1 : Option Nat} {x2 : Int32}
    (h : ∃ a1, x0 = some a1 ∧ (mt σ a1).1 = 7 ∧ ∃ a3, mr σ a1 1 = some a3 ∧ ∃ n5, mt σ a3 = (56, n5) ∧ (((nI n5) ≤ x2 → At G mX6_copyFrom rX6_copyFrom 0 0 84 [some (vR x0), some (vR x1), some (vI (0 : Int32))] [] σ K) ∧ (¬ (nI n5) ≤ x2 → ∃ a7, x1 = some a7 ∧ (mt σ a7).1 = 7 ∧ ∃ a9, mr σ a7 1 = some a9 ∧ ∃ n11, mt σ a9 = (56, n11) ∧ (((nI n11) ≤ x2 → At G mX6_copyFrom rX6_copyFrom 0 0 84 [some (vR x0), some (vR x1), some (vI (0 : Int32))] [] σ K) ∧ (¬ (nI n11) ≤ x2 → vp_in x2 n5 ∧ vp_in x2 n11 ∧ ∃ a15, mr σ a3 x2.toNatClampNeg = some a15 ∧ (mt σ a15).1 = 6 ∧ Runs G mX5_copyFrom rX5_copyFrom [(vR (mr σ a3 x2.toNatClampNeg)), (vR (mr σ a9 x2.toNatClampNeg))] σ (bk G mX6_copyFrom rX6_copyFrom 0 0 76 [some (vR x0), some (vR x1), some (vI x2)] [] K)))))) : At G mX6_copyFrom rX6_copyFrom 0 0 43 [some (vR x0), some (vR x1), some (vI x2)] [] σ K := by
  refine s_iload_n (i := 2) dX6_copyFrom_43 rfl rfl ?_
  refine s_aload_n (i := 0) dX6_copyFrom_44 rfl rfl ?_
  obtain ⟨a1, ea1, h⟩ := h
  obtain ⟨t2, h⟩ := h
  refine t_getR gk dX6_copyFrom_45 fX6_19 rfl ea1 t2 ?_
  obtain ⟨a3, ea3, h⟩ := h
  obtain ⟨n5, t4, h⟩ := h
  refine t_alen (j := 6) gk dX6_copyFrom_48 (by decide) ea3 t4 ?_
  refine s_icmp_ge (tgt := 82) dX6_copyFrom_49 (by decide) (fun q6 => ?_) (fun q6 => ?_)
  · have h := h.1 q6
    refine s_iconst (v := 0) dX6_copyFrom_82 (by decide) ?_
    refine s_istore_n (i := 2) (L' := [some (vR x0), some (vR x1), some (vI (0 : Int32))]) dX6_copyFrom_83 rfl rfl (by decide) rfl ?_
    exact h
  · have h := h.2 q6
    refine s_iload_n (i := 2) dX6_copyFrom_52 rfl rfl ?_
    refine s_aload_n (i := 1) dX6_copyFrom_53 rfl rfl ?_
    obtain ⟨a7, ea7, h⟩ := h
    obtain ⟨t8, h⟩ := h
    refine t_getR gk dX6_copyFrom_54 fX6_19 rfl ea7 t8 ?_
    obtain ⟨a9, ea9, h⟩ := h
    obtain ⟨n11, t10, h⟩ := h
    refine t_alen (j := 6) gk dX6_copyFrom_57 (by decide) ea9 t10 ?_
    refine s_icmp_ge (tgt := 82) dX6_copyFrom_58 (by decide) (fun q12 => ?_) (fun q12 => ?_)
    · have h := h.1 q12
      refine s_iconst (v := 0) dX6_copyFrom_82 (by decide) ?_
      refine s_istore_n (i := 2) (L' := [some (vR x0), some (vR x1), some (vI (0 : Int32))]) dX6_copyFrom_83 rfl rfl (by decide) rfl ?_
      exact h
    · have h := h.2 q12
      refine s_aload_n (i := 0) dX6_copyFrom_61 rfl rfl ?_
      refine t_getR gk dX6_copyFrom_62 fX6_19 rfl ea1 t2 ?_
      refine s_iload_n (i := 2) dX6_copyFrom_65 rfl rfl ?_
      obtain ⟨c13, h⟩ := h
      refine t_aald (j := 6) gk dX6_copyFrom_66 (by decide) (by decide) ea3 t4 c13 ?_
      refine s_aload_n (i := 1) dX6_copyFrom_67 rfl rfl ?_
      refine t_getR gk dX6_copyFrom_68 fX6_19 rfl ea7 t8 ?_
      refine s_iload_n (i := 2) dX6_copyFrom_71 rfl rfl ?_
      obtain ⟨c14, h⟩ := h
      refine t_aald (j := 6) gk dX6_copyFrom_72 (by decide) (by decide) ea9 t10 c14 ?_
      obtain ⟨a15, ea15, h⟩ := h
      obtain ⟨t16, h⟩ := h
      exact t_callV (ci := 5) (as := [(vR (mr σ a9 x2.toNatClampNeg))]) (S := []) gk dX6_copyFrom_73 gX6_55 (by decide) rfl w_536 w_537 ea15 t16 rfl rfl (Nat.le_of_ble_eq_true rfl) (by decide) h
theorem vX6_copyFrom_76 {G : GG} (gk : GOK G) {σ : Mm} {K : RES → Mm → Prop} {x0 : Option Nat} {x1 : Option Nat} {x2 : Int32}
    (h : At G mX6_copyFrom rX6_copyFrom 0 0 43 [some (vR x0), some (vR x1), some (vI (x2 + 1))] [] σ K) : At G mX6_copyFrom rX6_copyFrom 0 0 76 [some (vR x0), some (vR x1), some (vI x2)] [] σ K := by
  refine s_iinc (v := x2 + 1) (L' := [some (vR x0), some (vR x1), some (vI (x2 + 1))]) dX6_copyFrom_76 rfl rfl rfl (by decide) rfl ?_
  refine s_goto (tgt := 43) dX6_copyFrom_79 (by decide) ?_
  exact h
theorem vX6_copyFrom_84 {G : GG} (gk : GOK G) {σ : Mm} {K : RES → Mm → Prop} {x0 : Option Nat} {x1 : Option Nat} {x2 : Int32}
    (h : ∃ a1, x0 = some a1 ∧ (mt σ a1).1 = 7 ∧ ∃ a3, mr σ a1 2 = some a3 ∧ ∃ n5, mt σ a3 = (57, n5) ∧ (((nI n5) ≤ x2 → ∃ a7, x1 = some a7 ∧ (mt σ a7).1 = 7 ∧ ∀ σ9, σ9 = si σ a1 3 (mi σ a7 3) → ∀ σ10, σ10 = si σ9 a1 4 (mi σ9 a7 4) → ∀ σ11, σ11 = si σ10 a1 5 (mi σ10 a7 5) → ∀ σ12, σ12 = si σ11 a1 6 (mi σ11 a7 6) → ∀ σ13, σ13 = si σ12 a1 7 (mi σ12 a7 7) → ∀ σ14, σ14 = si σ13 a1 8 (mi σ13 a7 8) → K (.inl none) σ14) ∧ (¬ (nI n5) ≤ x2 → ∃ a15, x1 = some a15 ∧ (mt σ a15).1 = 7 ∧ ∃ a17, mr σ a15 2 = some a17 ∧ ∃ n19, mt σ a17 = (57, n19) ∧ (((nI n19) ≤ x2 → ∀ σ21, σ21 = si σ a1 3 (mi σ a15 3) → ∀ σ22, σ22 = si σ21 a1 4 (mi σ21 a15 4) → ∀ σ23, σ23 = si σ22 a1 5 (mi σ22 a15 5) → ∀ σ24, σ24 = si σ23 a1 6 (mi σ23 a15 6) → ∀ σ25, σ25 = si σ24 a1 7 (mi σ24 a15 7) → ∀ σ26, σ26 = si σ25 a1 8 (mi σ25 a15 8) → K (.inl none) σ26) ∧ (¬ (nI n19) ≤ x2 → vp_in x2 n5 ∧ vp_in x2 n19 ∧ ∃ a29, mr σ a3 x2.toNatClampNeg = some a29 ∧ (mt σ a29).1 = 8 ∧ Runs G mX7_copyFrom rX7_copyFrom [(vR (mr σ a3 x2.toNatClampNeg)), (vR (mr σ a17 x2.toNatClampNeg))] σ (bk G mX6_copyFrom rX6_copyFrom 0 0 117 [some (vR x0), some (vR x1), some (vI x2)] [] K)))))) : At G mX6_copyFrom rX6_copyFrom 0 0 84 [some (vR x0), some (vR x1), some (vI x2)] [] σ K := by
  refine s_iload_n (i := 2) dX6_copyFrom_84 rfl rfl ?_
  refine s_aload_n (i := 0) dX6_copyFrom_85 rfl rfl ?_
  obtain ⟨a1, ea1, h⟩ := h
  obtain ⟨t2, h⟩ := h
  refine t_getR gk dX6_copyFrom_86 fX6_25 rfl ea1 t2 ?_
  obtain ⟨a3, ea3, h⟩ := h
  obtain ⟨n5, t4, h⟩ := h
  refine t_alen (j := 7) gk dX6_copyFrom_89 (by decide) ea3 t4 ?_
  refine s_icmp_ge (tgt := 123) dX6_copyFrom_90 (by decide) (fun q6 => ?_) (fun q6 => ?_)
  · have h := h.1 q6
    refine s_aload_n (i := 0) dX6_copyFrom_123 rfl rfl ?_
    refine s_aload_n (i := 1) dX6_copyFrom_124 rfl rfl ?_
    obtain ⟨a7, ea7, h⟩ := h
    obtain ⟨t8, h⟩ := h
    refine t_getI gk dX6_copyFrom_125 fX6_29 rfl ea7 t8 ?_
    refine t_putI gk dX6_copyFrom_128 fX6_29 rfl rfl ea1 t2 ⟨rfl, rfl⟩ (fun σ9 eσ9 mσ9 => ?_)
    replace h := h σ9 eσ9
    refine s_aload_n (i := 0) dX6_copyFrom_131 rfl rfl ?_
    refine s_aload_n (i := 1) dX6_copyFrom_132 rfl rfl ?_
    refine t_getI gk dX6_copyFrom_133 fX6_33 rfl ea7 (by rw [mσ9]; exact t8) ?_
    refine t_putI gk dX6_copyFrom_136 fX6_33 rfl rfl ea1 (by rw [mσ9]; exact t2) ⟨rfl, rfl⟩ (fun σ10 eσ10 mσ10 => ?_)
    replace h := h σ10 eσ10
    refine s_aload_n (i := 0) dX6_copyFrom_139 rfl rfl ?_
    refine s_aload_n (i := 1) dX6_copyFrom_140 rfl rfl ?_
    refine t_getI gk dX6_copyFrom_141 fX6_36 rfl ea7 (by rw [mσ10, mσ9]; exact t8) ?_
    refine t_putI gk dX6_copyFrom_144 fX6_36 rfl rfl ea1 (by rw [mσ10, mσ9]; exact t2) ⟨rfl, rfl⟩ (fun σ11 eσ11 mσ11 => ?_)
    replace h := h σ11 eσ11
    refine s_aload_n (i := 0) dX6_copyFrom_147 rfl rfl ?_
    refine s_aload_n (i := 1) dX6_copyFrom_148 rfl rfl ?_
    refine t_getI gk dX6_copyFrom_149 fX6_39 rfl ea7 (by rw [mσ11, mσ10, mσ9]; exact t8) ?_
    refine t_putI gk dX6_copyFrom_152 fX6_39 rfl rfl ea1 (by rw [mσ11, mσ10, mσ9]; exact t2) ⟨rfl, rfl⟩ (fun σ12 eσ12 mσ12 => ?_)
    replace h := h σ12 eσ12
    refine s_aload_n (i := 0) dX6_copyFrom_155 rfl rfl ?_
    refine s_aload_n (i := 1) dX6_copyFrom_156 rfl rfl ?_
    refine t_getI gk dX6_copyFrom_157 fX6_42 rfl ea7 (by rw [mσ12, mσ11, mσ10, mσ9]; exact t8) ?_
    refine t_putI gk dX6_copyFrom_160 fX6_42 rfl rfl ea1 (by rw [mσ12, mσ11, mσ10, mσ9]; exact t2) ⟨rfl, rfl⟩ (fun σ13 eσ13 mσ13 => ?_)
    replace h := h σ13 eσ13
    refine s_aload_n (i := 0) dX6_copyFrom_163 rfl rfl ?_
    refine s_aload_n (i := 1) dX6_copyFrom_164 rfl rfl ?_
    refine t_getI gk dX6_copyFrom_165 fX6_45 rfl ea7 (by rw [mσ13, mσ12, mσ11, mσ10, mσ9]; exact t8) ?_
    refine t_putI gk dX6_copyFrom_168 fX6_45 rfl rfl ea1 (by rw [mσ13, mσ12, mσ11, mσ10, mσ9]; exact t2) ⟨rfl, rfl⟩ (fun σ14 eσ14 mσ14 => ?_)
    replace h := h σ14 eσ14
    exact s_return dX6_copyFrom_171 rfl (by decide) (by decide) h
  · have h := h.2 q6
    refine s_iload_n (i := 2) dX6_copyFrom_93 rfl rfl ?_
    refine s_aload_n (i := 1) dX6_copyFrom_94 rfl rfl ?_
    obtain ⟨a15, ea15, h⟩ := h
    obtain ⟨t16, h⟩ := h
    refine t_getR gk dX6_copyFrom_95 fX6_25 rfl ea15 t16 ?_
    obtain ⟨a17, ea17, h⟩ := h
    obtain ⟨n19, t18, h⟩ := h
    refine t_alen (j := 7) gk dX6_copyFrom_98 (by decide) ea17 t18 ?_
    refine s_icmp_ge (tgt := 123) dX6_copyFrom_99 (by decide) (fun q20 => ?_) (fun q20 => ?_)
    · have h := h.1 q20
      refine s_aload_n (i := 0) dX6_copyFrom_123 rfl rfl ?_
      refine s_aload_n (i := 1) dX6_copyFrom_124 rfl rfl ?_
      refine t_getI gk dX6_copyFrom_125 fX6_29 rfl ea15 t16 ?_
      refine t_putI gk dX6_copyFrom_128 fX6_29 rfl rfl ea1 t2 ⟨rfl, rfl⟩ (fun σ21 eσ21 mσ21 => ?_)
      replace h := h σ21 eσ21
      refine s_aload_n (i := 0) dX6_copyFrom_131 rfl rfl ?_
      refine s_aload_n (i := 1) dX6_copyFrom_132 rfl rfl ?_
      refine t_getI gk dX6_copyFrom_133 fX6_33 rfl ea15 (by rw [mσ21]; exact t16) ?_
      refine t_putI gk dX6_copyFrom_136 fX6_33 rfl rfl ea1 (by rw [mσ21]; exact t2) ⟨rfl, rfl⟩ (fun σ22 eσ22 mσ22 => ?_)
      replace h := h σ22 eσ22
      refine s_aload_n (i := 0) dX6_copyFrom_139 rfl rfl ?_
      refine s_aload_n (i := 1) dX6_copyFrom_140 rfl rfl ?_
      refine t_getI gk dX6_copyFrom_141 fX6_36 rfl ea15 (by rw [mσ22, mσ21]; exact t16) ?_
      refine t_putI gk dX6_copyFrom_144 fX6_36 rfl rfl ea1 (by rw [mσ22, mσ21]; exact t2) ⟨rfl, rfl⟩ (fun σ23 eσ23 mσ23 => ?_)
      replace h := h σ23 eσ23
      refine s_aload_n (i := 0) dX6_copyFrom_147 rfl rfl ?_
      refine s_aload_n (i := 1) dX6_copyFrom_148 rfl rfl ?_
      refine t_getI gk dX6_copyFrom_149 fX6_39 rfl ea15 (by rw [mσ23, mσ22, mσ21]; exact t16) ?_
      refine t_putI gk dX6_copyFrom_152 fX6_39 rfl rfl ea1 (by rw [mσ23, mσ22, mσ21]; exact t2) ⟨rfl, rfl⟩ (fun σ24 eσ24 mσ24 => ?_)
      replace h := h σ24 eσ24
      refine s_aload_n (i := 0) dX6_copyFrom_155 rfl rfl ?_
      refine s_aload_n (i := 1) dX6_copyFrom_156 rfl rfl ?_
      refine t_getI gk dX6_copyFrom_157 fX6_42 rfl ea15 (by rw [mσ24, mσ23, mσ22, mσ21]; exact t16) ?_
      refine t_putI gk dX6_copyFrom_160 fX6_42 rfl rfl ea1 (by rw [mσ24, mσ23, mσ22, mσ21]; exact t2) ⟨rfl, rfl⟩ (fun σ25 eσ25 mσ25 => ?_)
      replace h := h σ25 eσ25
      refine s_aload_n (i := 0) dX6_copyFrom_163 rfl rfl ?_
      refine s_aload_n (i := 1) dX6_copyFrom_164 rfl rfl ?_
      refine t_getI gk dX6_copyFrom_165 fX6_45 rfl ea15 (by rw [mσ25, mσ24, mσ23, mσ22, mσ21]; exact t16) ?_
      refine t_putI gk dX6_copyFrom_168 fX6_45 rfl rfl ea1 (by rw [mσ25, mσ24, mσ23, mσ22, mσ21]; exact t2) ⟨rfl, rfl⟩ (fun σ26 eσ26 mσ26 => ?_)
      replace h := h σ26 eσ26
      exact s_return dX6_copyFrom_171 rfl (by decide) (by decide) h
    · have h := h.2 q20
      refine s_aload_n (i := 0) dX6_copyFrom_102 rfl rfl ?_
      refine t_getR gk dX6_copyFrom_103 fX6_25 rfl ea1 t2 ?_
      refine s_iload_n (i := 2) dX6_copyFrom_106 rfl rfl ?_
      obtain ⟨c27, h⟩ := h
      refine t_aald (j := 7) gk dX6_copyFrom_107 (by decide) (by decide) ea3 t4 c27 ?_
      refine s_aload_n (i := 1) dX6_copyFrom_108 rfl rfl ?_
      refine t_getR gk dX6_copyFrom_109 fX6_25 rfl ea15 t16 ?_
      refine s_iload_n (i := 2) dX6_copyFrom_112 rfl rfl ?_
      obtain ⟨c28, h⟩ := h
      refine t_aald (j := 7) gk dX6_copyFrom_113 (by decide) (by decide) ea17 t18 c28 ?_
      obtain ⟨a29, ea29, h⟩ := h
      obtain ⟨t30, h⟩ := h
      exact t_callV (ci := 7) (as := [(vR (mr σ a17 x2.toNatClampNeg))]) (S := []) gk dX6_copyFrom_114 gX6_58 (by decide) rfl w_544 w_545 ea29 t30 rfl rfl (Nat.le_of_ble_eq_true rfl) (by decide) h
theorem vX6_copyFrom_117 {G : GG} (gk : GOK G) {σ : Mm} {K : RES → Mm → Prop} {x0 : Option Nat} {x1 : Option Nat} {x2 : Int32}
    (h : At G mX6_copyFrom rX6_copyFrom 0 0 84 [some (vR x0), some (vR x1), some (vI (x2 + 1))] [] σ K) : At G mX6_copyFrom rX6_copyFrom 0 0 117 [some (vR x0), some (vR x1), some (vI x2)] [] σ K := by
  refine s_iinc (v := x2 + 1) (L' := [some (vR x0), some (vR x1), some (vI (x2 + 1))]) dX6_copyFrom_117 rfl rfl rfl (by decide) rfl ?_
  refine s_goto (tgt := 84) dX6_copyFrom_120 (by decide) ?_
  exact h
theorem vX6_jarRow_0 {G : GG} (gk : GOK G) {σ : Mm} {K : RES → Mm → Prop} {x0 : Option Nat} {x1 : Int32}
    (h : (((x1 - (97 : Int32)) < 0 → K (.inl (some (vR none))) σ) ∧ (¬ (x1 - (97 : Int32)) < 0 → ∃ a2, x0 = some a2 ∧ (mt σ a2).1 = 7 ∧ ∃ a4, mr σ a2 0 = some a4 ∧ ∃ n6, mt σ a4 = (55, n6) ∧ (((x1 - (97 : Int32)) < (nI n6) → vp_in (x1 - (97 : Int32)) n6 ∧ K (.inl (some (vR (mr σ a4 (x1 - (97 : Int32)).toNatClampNeg)))) σ) ∧ (¬ (x1 - (97 : Int32)) < (nI n6) → K (.inl (some (vR none))) σ))))) : At G mX6_jarRow rX6_jarRow 0 0 0 [some (vR x0), some (vI x1), none] [] σ K := by
  refine s_iload_n (i := 1) dX6_jarRow_0 rfl rfl ?_
  refine s_bipush (v := 97) dX6_jarRow_1 (by decide) ?_
  refine s_isub dX6_jarRow_3 ?_
  refine s_istore_n (i := 2) (L' := [some (vR x0), some (vI x1), some (vI (x1 - (97 : Int32)))]) dX6_jarRow_4 rfl rfl (by decide) rfl ?_
  refine s_iload_n (i := 2) dX6_jarRow_5 rfl rfl ?_
  refine s_if_lt (tgt := 18) dX6_jarRow_6 (by decide) (fun q1 => ?_) (fun q1 => ?_)
  · have h := h.1 q1
    refine s_null dX6_jarRow_18 ?_
    refine s_goto (tgt := 28) dX6_jarRow_19 (by decide) ?_
    exact s_areturn dX6_jarRow_28 rfl rfl (by decide) (by decide) h
  · have h := h.2 q1
    refine s_iload_n (i := 2) dX6_jarRow_9 rfl rfl ?_
    refine s_aload_n (i := 0) dX6_jarRow_10 rfl rfl ?_
    obtain ⟨a2, ea2, h⟩ := h
    obtain ⟨t3, h⟩ := h
    refine t_getR gk dX6_jarRow_11 fX6_11 rfl ea2 t3 ?_
    obtain ⟨a4, ea4, h⟩ := h
    obtain ⟨n6, t5, h⟩ := h
    refine t_alen (j := 5) gk dX6_jarRow_14 (by decide) ea4 t5 ?_
    refine s_icmp_lt (tgt := 22) dX6_jarRow_15 (by decide) (fun q7 => ?_) (fun q7 => ?_)
    · have h := h.1 q7
      refine s_aload_n (i := 0) dX6_jarRow_22 rfl rfl ?_
      refine t_getR gk dX6_jarRow_23 fX6_11 rfl ea2 t3 ?_
      refine s_iload_n (i := 2) dX6_jarRow_26 rfl rfl ?_
      obtain ⟨c8, h⟩ := h
      refine t_aald (j := 5) gk dX6_jarRow_27 (by decide) (by decide) ea4 t5 c8 ?_
      exact s_areturn dX6_jarRow_28 rfl rfl (by decide) (by decide) h
    · have h := h.2 q7
      refine s_null dX6_jarRow_18 ?_
      refine s_goto (tgt := 28) dX6_jarRow_19 (by decide) ?_
      exact s_areturn dX6_jarRow_28 rfl rfl (by decide) (by decide) h
theorem eX6_jarRow {G : GG} (gk : GOK G) {σ : Mm} {K : RES → Mm → Prop} {x0 : Option Nat} {x1 : Int32}
    (h : (((x1 - (97 : Int32)) < 0 → K (.inl (some (vR none))) σ) ∧ (¬ (x1 - (97 : Int32)) < 0 → ∃ a2, x0 = some a2 ∧ (mt σ a2).1 = 7 ∧ ∃ a4, mr σ a2 0 = some a4 ∧ ∃ n6, mt σ a4 = (55, n6) ∧ (((x1 - (97 : Int32)) < (nI n6) → vp_in (x1 - (97 : Int32)) n6 ∧ K (.inl (some (vR (mr σ a4 (x1 - (97 : Int32)).toNatClampNeg)))) σ) ∧ (¬ (x1 - (97 : Int32)) < (nI n6) → K (.inl (some (vR none))) σ))))) : Runs G mX6_jarRow rX6_jarRow [(vR x0), (vI x1)] σ K := Runs.of (by decide) rfl (Nat.le_of_ble_eq_true rfl) (vX6_jarRow_0 gk h)
theorem vX6_findJar_0 {G : GG} (gk : GOK G) {σ : Mm} {K : RES → Mm → Prop} {x0 : Option Nat} {x1 : Int32}
    (h : ∃ a1, x0 = some a1 ∧ (mt σ a1).1 = 7 ∧ Runs G mX6_jarRow rX6_jarRow [(vR x0), (vI x1)] σ (bk G mX6_findJar rX6_findJar 0 0 5 [some (vR x0), some (vI x1), none] [] K)) : At G mX6_findJar rX6_findJar 0 0 0 [some (vR x0), some (vI x1), none] [] σ K := by
  refine s_aload_n (i := 0) dX6_findJar_0 rfl rfl ?_
  refine s_iload_n (i := 1) dX6_findJar_1 rfl rfl ?_
  obtain ⟨a1, ea1, h⟩ := h
  obtain ⟨t2, h⟩ := h
  exact t_callV (ci := 6) (as := [(vI x1)]) (S := []) gk dX6_findJar_2 gX6_61 (by decide) rfl w_387 w_388 ea1 t2 rfl rfl (Nat.le_of_ble_eq_true rfl) (by decide) h
theorem eX6_findJar {G : GG} (gk : GOK G) {σ : Mm} {K : RES → Mm → Prop} {x0 : Option Nat} {x1 : Int32}
    (h : ∃ a1, x0 = some a1 ∧ (mt σ a1).1 = 7 ∧ Runs G mX6_jarRow rX6_jarRow [(vR x0), (vI x1)] σ (bk G mX6_findJar rX6_findJar 0 0 5 [some (vR x0), some (vI x1), none] [] K)) : Runs G mX6_findJar rX6_findJar [(vR x0), (vI x1)] σ K := Runs.of (by decide) rfl (Nat.le_of_ble_eq_true rfl) (vX6_findJar_0 gk h)
theorem vX6_findJar_5 {G : GG} (gk : GOK G) {σ : Mm} {K : RES → Mm → Prop} {x0 : Option Nat} {x1 : Int32} {s0 : Option Nat}
    (h : ((s0 = none → K (.inl (some (vR none))) σ) ∧ (∀ a2, s0 = some a2 → (mt σ a2).1 = 5 ∧ (((mi σ a2 0) = 0 → K (.inl (some (vR none))) σ) ∧ (¬ (mi σ a2 0) = 0 → K (.inl (some (vR s0))) σ))))) : At G mX6_findJar rX6_findJar 0 0 5 [some (vR x0), some (vI x1), none] [(vR s0)] σ K := by
  refine s_astore_n (i := 2) (L' := [some (vR x0), some (vI x1), some (vR s0)]) dX6_findJar_5 rfl rfl (by decide) rfl ?_
  refine s_aload_n (i := 2) dX6_findJar_6 rfl rfl ?_
  refine s_ifnull (tgt := 21) dX6_findJar_7 (by decide) (fun q1 => ?_) (fun a2 ea2 => ?_)
  · have h := h.1 q1
    refine s_null dX6_findJar_21 ?_
    exact s_areturn dX6_findJar_22 rfl rfl (by decide) (by decide) h
  · have h := h.2 a2 ea2
    refine s_aload_n (i := 2) dX6_findJar_10 rfl rfl ?_
    obtain ⟨t3, h⟩ := h
    refine t_getI gk dX6_findJar_11 fX6_65 rfl ea2 t3 ?_
    refine s_if_eq (tgt := 21) dX6_findJar_14 (by decide) (fun q4 => ?_) (fun q4 => ?_)
    · have h := h.1 q4
      refine s_null dX6_findJar_21 ?_
      exact s_areturn dX6_findJar_22 rfl rfl (by decide) (by decide) h
    · have h := h.2 q4
      refine s_aload_n (i := 2) dX6_findJar_17 rfl rfl ?_
      refine s_goto (tgt := 22) dX6_findJar_18 (by decide) ?_
      exact s_areturn dX6_findJar_22 rfl rfl (by decide) (by decide) h
theorem vX6_findShelf_0 {G : GG} (gk : GOK G) {σ : Mm} {K : RES → Mm → Prop} {x0 : Option Nat} {x1 : Int32}
    (h : ((x1 < 0 → K (.inl (some (vR none))) σ) ∧ (¬ x1 < 0 → ∃ a2, x0 = some a2 ∧ (mt σ a2).1 = 7 ∧ ∃ a4, mr σ a2 1 = some a4 ∧ ∃ n6, mt σ a4 = (56, n6) ∧ ((x1 < (nI n6) → vp_in x1 n6 ∧ ∃ a9, mr σ a4 x1.toNatClampNeg = some a9 ∧ (mt σ a9).1 = 6 ∧ (((mi σ a9 0) = 0 → K (.inl (some (vR none))) σ) ∧ (¬ (mi σ a9 0) = 0 → K (.inl (some (vR (mr σ a4 x1.toNatClampNeg)))) σ))) ∧ (¬ x1 < (nI n6) → K (.inl (some (vR none))) σ))))) : At G mX6_findShelf rX6_findShelf 0 0 0 [some (vR x0), some (vI x1), none] [] σ K := by
  refine s_iload_n (i := 1) dX6_findShelf_0 rfl rfl ?_
  refine s_if_lt (tgt := 13) dX6_findShelf_1 (by decide) (fun q1 => ?_) (fun q1 => ?_)
  · have h := h.1 q1
    refine s_null dX6_findShelf_13 ?_
    exact s_areturn dX6_findShelf_14 rfl rfl (by decide) (by decide) h
  · have h := h.2 q1
    refine s_iload_n (i := 1) dX6_findShelf_4 rfl rfl ?_
    refine s_aload_n (i := 0) dX6_findShelf_5 rfl rfl ?_
    obtain ⟨a2, ea2, h⟩ := h
    obtain ⟨t3, h⟩ := h
    refine t_getR gk dX6_findShelf_6 fX6_19 rfl ea2 t3 ?_
    obtain ⟨a4, ea4, h⟩ := h
    obtain ⟨n6, t5, h⟩ := h
    refine t_alen (j := 6) gk dX6_findShelf_9 (by decide) ea4 t5 ?_
    refine s_icmp_lt (tgt := 15) dX6_findShelf_10 (by decide) (fun q7 => ?_) (fun q7 => ?_)
    · have h := h.1 q7
      refine s_aload_n (i := 0) dX6_findShelf_15 rfl rfl ?_
      refine t_getR gk dX6_findShelf_16 fX6_19 rfl ea2 t3 ?_
      refine s_iload_n (i := 1) dX6_findShelf_19 rfl rfl ?_
      obtain ⟨c8, h⟩ := h
      refine t_aald (j := 6) gk dX6_findShelf_20 (by decide) (by decide) ea4 t5 c8 ?_
      refine s_astore_n (i := 2) (L' := [some (vR x0), some (vI x1), some (vR (mr σ a4 x1.toNatClampNeg))]) dX6_findShelf_21 rfl rfl (by decide) rfl ?_
      refine s_aload_n (i := 2) dX6_findShelf_22 rfl rfl ?_
      obtain ⟨a9, ea9, h⟩ := h
      obtain ⟨t10, h⟩ := h
      refine t_getI gk dX6_findShelf_23 fX6_69 rfl ea9 t10 ?_
      refine s_if_eq (tgt := 33) dX6_findShelf_26 (by decide) (fun q11 => ?_) (fun q11 => ?_)
      · have h := h.1 q11
        refine s_null dX6_findShelf_33 ?_
        exact s_areturn dX6_findShelf_34 rfl rfl (by decide) (by decide) h
      · have h := h.2 q11
        refine s_aload_n (i := 2) dX6_findShelf_29 rfl rfl ?_
        refine s_goto (tgt := 34) dX6_findShelf_30 (by decide) ?_
        exact s_areturn dX6_findShelf_34 rfl rfl (by decide) (by decide) h
    · have h := h.2 q7
      refine s_null dX6_findShelf_13 ?_
      exact s_areturn dX6_findShelf_14 rfl rfl (by decide) (by decide) h
theorem eX6_findShelf {G : GG} (gk : GOK G) {σ : Mm} {K : RES → Mm → Prop} {x0 : Option Nat} {x1 : Int32}
    (h : ((x1 < 0 → K (.inl (some (vR none))) σ) ∧ (¬ x1 < 0 → ∃ a2, x0 = some a2 ∧ (mt σ a2).1 = 7 ∧ ∃ a4, mr σ a2 1 = some a4 ∧ ∃ n6, mt σ a4 = (56, n6) ∧ ((x1 < (nI n6) → vp_in x1 n6 ∧ ∃ a9, mr σ a4 x1.toNatClampNeg = some a9 ∧ (mt σ a9).1 = 6 ∧ (((mi σ a9 0) = 0 → K (.inl (some (vR none))) σ) ∧ (¬ (mi σ a9 0) = 0 → K (.inl (some (vR (mr σ a4 x1.toNatClampNeg)))) σ))) ∧ (¬ x1 < (nI n6) → K (.inl (some (vR none))) σ))))) : Runs G mX6_findShelf rX6_findShelf [(vR x0), (vI x1)] σ K := Runs.of (by decide) rfl (Nat.le_of_ble_eq_true rfl) (vX6_findShelf_0 gk h)
theorem vX6_findWarming_0 {G : GG} (gk : GOK G) {σ : Mm} {K : RES → Mm → Prop} {x0 : Option Nat} {x1 : Int32}
    (h : ((x1 < 0 → K (.inl (some (vR none))) σ) ∧ (¬ x1 < 0 → ∃ a2, x0 = some a2 ∧ (mt σ a2).1 = 7 ∧ ∃ a4, mr σ a2 2 = some a4 ∧ ∃ n6, mt σ a4 = (57, n6) ∧ ((x1 < (nI n6) → vp_in x1 n6 ∧ ∃ a9, mr σ a4 x1.toNatClampNeg = some a9 ∧ (mt σ a9).1 = 8 ∧ (((mi σ a9 0) = 0 → K (.inl (some (vR none))) σ) ∧ (¬ (mi σ a9 0) = 0 → K (.inl (some (vR (mr σ a4 x1.toNatClampNeg)))) σ))) ∧ (¬ x1 < (nI n6) → K (.inl (some (vR none))) σ))))) : At G mX6_findWarming rX6_findWarming 0 0 0 [some (vR x0), some (vI x1), none] [] σ K := by
  refine s_iload_n (i := 1) dX6_findWarming_0 rfl rfl ?_
  refine s_if_lt (tgt := 13) dX6_findWarming_1 (by decide) (fun q1 => ?_) (fun q1 => ?_)
  · have h := h.1 q1
    refine s_null dX6_findWarming_13 ?_
    exact s_areturn dX6_findWarming_14 rfl rfl (by decide) (by decide) h
  · have h := h.2 q1
    refine s_iload_n (i := 1) dX6_findWarming_4 rfl rfl ?_
    refine s_aload_n (i := 0) dX6_findWarming_5 rfl rfl ?_
    obtain ⟨a2, ea2, h⟩ := h
    obtain ⟨t3, h⟩ := h
    refine t_getR gk dX6_findWarming_6 fX6_25 rfl ea2 t3 ?_
    obtain ⟨a4, ea4, h⟩ := h
    obtain ⟨n6, t5, h⟩ := h
    refine t_alen (j := 7) gk dX6_findWarming_9 (by decide) ea4 t5 ?_
    refine s_icmp_lt (tgt := 15) dX6_findWarming_10 (by decide) (fun q7 => ?_) (fun q7 => ?_)
    · have h := h.1 q7
      refine s_aload_n (i := 0) dX6_findWarming_15 rfl rfl ?_
      refine t_getR gk dX6_findWarming_16 fX6_25 rfl ea2 t3 ?_
      refine s_iload_n (i := 1) dX6_findWarming_19 rfl rfl ?_
      obtain ⟨c8, h⟩ := h
      refine t_aald (j := 7) gk dX6_findWarming_20 (by decide) (by decide) ea4 t5 c8 ?_
      refine s_astore_n (i := 2) (L' := [some (vR x0), some (vI x1), some (vR (mr σ a4 x1.toNatClampNeg))]) dX6_findWarming_21 rfl rfl (by decide) rfl ?_
      refine s_aload_n (i := 2) dX6_findWarming_22 rfl rfl ?_
      obtain ⟨a9, ea9, h⟩ := h
      obtain ⟨t10, h⟩ := h
      refine t_getI gk dX6_findWarming_23 fX6_70 rfl ea9 t10 ?_
      refine s_if_eq (tgt := 33) dX6_findWarming_26 (by decide) (fun q11 => ?_) (fun q11 => ?_)
      · have h := h.1 q11
        refine s_null dX6_findWarming_33 ?_
        exact s_areturn dX6_findWarming_34 rfl rfl (by decide) (by decide) h
      · have h := h.2 q11
        refine s_aload_n (i := 2) dX6_findWarming_29 rfl rfl ?_
        refine s_goto (tgt := 34) dX6_findWarming_30 (by decide) ?_
        exact s_areturn dX6_findWarming_34 rfl rfl (by decide) (by decide) h
    · have h := h.2 q7
      refine s_null dX6_findWarming_13 ?_
      exact s_areturn dX6_findWarming_14 rfl rfl (by decide) (by decide) h
theorem eX6_findWarming {G : GG} (gk : GOK G) {σ : Mm} {K : RES → Mm → Prop} {x0 : Option Nat} {x1 : Int32}
    (h : ((x1 < 0 → K (.inl (some (vR none))) σ) ∧ (¬ x1 < 0 → ∃ a2, x0 = some a2 ∧ (mt σ a2).1 = 7 ∧ ∃ a4, mr σ a2 2 = some a4 ∧ ∃ n6, mt σ a4 = (57, n6) ∧ ((x1 < (nI n6) → vp_in x1 n6 ∧ ∃ a9, mr σ a4 x1.toNatClampNeg = some a9 ∧ (mt σ a9).1 = 8 ∧ (((mi σ a9 0) = 0 → K (.inl (some (vR none))) σ) ∧ (¬ (mi σ a9 0) = 0 → K (.inl (some (vR (mr σ a4 x1.toNatClampNeg)))) σ))) ∧ (¬ x1 < (nI n6) → K (.inl (some (vR none))) σ))))) : Runs G mX6_findWarming rX6_findWarming [(vR x0), (vI x1)] σ K := Runs.of (by decide) rfl (Nat.le_of_ble_eq_true rfl) (vX6_findWarming_0 gk h)
theorem vX6_newJarFault_0 {G : GG} (gk : GOK G) {σ : Mm} {K : RES → Mm → Prop} {x0 : Option Nat} {x1 : Int32} {x2 : Int32}
    (h : ((x1 < (97 : Int32) → K (.inl (some (vI (3 : Int32)))) σ) ∧ (¬ x1 < (97 : Int32) → (((122 : Int32) < x1 → K (.inl (some (vI (3 : Int32)))) σ) ∧ (¬ (122 : Int32) < x1 → ((x2 < 0 → K (.inl (some (vI (3 : Int32)))) σ) ∧ (¬ x2 < 0 → ((x2 ≤ (99 : Int32) → ∃ a5, x0 = some a5 ∧ (mt σ a5).1 = 7 ∧ Runs G mX6_countJars rX6_countJars [(vR x0)] σ (bk G mX6_newJarFault rX6_newJarFault 0 0 28 [some (vR x0), some (vI x1), some (vI x2)] [] K)) ∧ (¬ x2 ≤ (99 : Int32) → K (.inl (some (vI (3 : Int32)))) σ))))))))) : At G mX6_newJarFault rX6_newJarFault 0 0 0 [some (vR x0), some (vI x1), some (vI x2)] [] σ K := by
  refine s_iload_n (i := 1) dX6_newJarFault_0 rfl rfl ?_
  refine s_bipush (v := 97) dX6_newJarFault_1 (by decide) ?_
  refine s_icmp_lt (tgt := 22) dX6_newJarFault_3 (by decide) (fun q1 => ?_) (fun q1 => ?_)
  · have h := h.1 q1
    refine s_iconst (v := 3) dX6_newJarFault_22 (by decide) ?_
    exact s_ireturn dX6_newJarFault_23 rfl rfl (by decide) (by decide) h
  · have h := h.2 q1
    refine s_iload_n (i := 1) dX6_newJarFault_6 rfl rfl ?_
    refine s_bipush (v := 122) dX6_newJarFault_7 (by decide) ?_
    refine s_icmp_gt (tgt := 22) dX6_newJarFault_9 (by decide) (fun q2 => ?_) (fun q2 => ?_)
    · have h := h.1 q2
      refine s_iconst (v := 3) dX6_newJarFault_22 (by decide) ?_
      exact s_ireturn dX6_newJarFault_23 rfl rfl (by decide) (by decide) h
    · have h := h.2 q2
      refine s_iload_n (i := 2) dX6_newJarFault_12 rfl rfl ?_
      refine s_if_lt (tgt := 22) dX6_newJarFault_13 (by decide) (fun q3 => ?_) (fun q3 => ?_)
      · have h := h.1 q3
        refine s_iconst (v := 3) dX6_newJarFault_22 (by decide) ?_
        exact s_ireturn dX6_newJarFault_23 rfl rfl (by decide) (by decide) h
      · have h := h.2 q3
        refine s_iload_n (i := 2) dX6_newJarFault_16 rfl rfl ?_
        refine s_bipush (v := 99) dX6_newJarFault_17 (by decide) ?_
        refine s_icmp_le (tgt := 24) dX6_newJarFault_19 (by decide) (fun q4 => ?_) (fun q4 => ?_)
        · have h := h.1 q4
          refine s_aload_n (i := 0) dX6_newJarFault_24 rfl rfl ?_
          obtain ⟨a5, ea5, h⟩ := h
          obtain ⟨t6, h⟩ := h
          exact t_callV (ci := 6) (as := []) (S := []) gk dX6_newJarFault_25 gX6_71 (by decide) rfl w_379 w_380 ea5 t6 rfl rfl (Nat.le_of_ble_eq_true rfl) (by decide) h
        · have h := h.2 q4
          refine s_iconst (v := 3) dX6_newJarFault_22 (by decide) ?_
          exact s_ireturn dX6_newJarFault_23 rfl rfl (by decide) (by decide) h
theorem eX6_newJarFault {G : GG} (gk : GOK G) {σ : Mm} {K : RES → Mm → Prop} {x0 : Option Nat} {x1 : Int32} {x2 : Int32}
    (h : ((x1 < (97 : Int32) → K (.inl (some (vI (3 : Int32)))) σ) ∧ (¬ x1 < (97 : Int32) → (((122 : Int32) < x1 → K (.inl (some (vI (3 : Int32)))) σ) ∧ (¬ (122 : Int32) < x1 → ((x2 < 0 → K (.inl (some (vI (3 : Int32)))) σ) ∧ (¬ x2 < 0 → ((x2 ≤ (99 : Int32) → ∃ a5, x0 = some a5 ∧ (mt σ a5).1 = 7 ∧ Runs G mX6_countJars rX6_countJars [(vR x0)] σ (bk G mX6_newJarFault rX6_newJarFault 0 0 28 [some (vR x0), some (vI x1), some (vI x2)] [] K)) ∧ (¬ x2 ≤ (99 : Int32) → K (.inl (some (vI (3 : Int32)))) σ))))))))) : Runs G mX6_newJarFault rX6_newJarFault [(vR x0), (vI x1), (vI x2)] σ K := Runs.of (by decide) rfl (Nat.le_of_ble_eq_true rfl) (vX6_newJarFault_0 gk h)
theorem vX6_newJarFault_28 {G : GG} (gk : GOK G) {σ : Mm} {K : RES → Mm → Prop} {x0 : Option Nat} {x1 : Int32} {x2 : Int32} {s0 : Int32}
    (h : (((12 : Int32) ≤ s0 → K (.inl (some (vI (4 : Int32)))) σ) ∧ (¬ (12 : Int32) ≤ s0 → ∃ a2, x0 = some a2 ∧ (mt σ a2).1 = 7 ∧ Runs G mX6_findJar rX6_findJar [(vR x0), (vI x1)] σ (bk G mX6_newJarFault rX6_newJarFault 0 0 38 [some (vR x0), some (vI x1), some (vI x2)] [] K)))) : At G mX6_newJarFault rX6_newJarFault 0 0 28 [some (vR x0), some (vI x1), some (vI x2)] [(vI s0)] σ K := by
  refine s_bipush (v := 12) dX6_newJarFault_28 (by decide) ?_
  refine s_icmp_ge (tgt := 41) dX6_newJarFault_30 (by decide) (fun q1 => ?_) (fun q1 => ?_)
  · have h := h.1 q1
    refine s_iconst (v := 4) dX6_newJarFault_41 (by decide) ?_
    refine s_goto (tgt := 46) dX6_newJarFault_42 (by decide) ?_
    exact s_ireturn dX6_newJarFault_46 rfl rfl (by decide) (by decide) h
  · have h := h.2 q1
    refine s_aload_n (i := 0) dX6_newJarFault_33 rfl rfl ?_
    refine s_iload_n (i := 1) dX6_newJarFault_34 rfl rfl ?_
    obtain ⟨a2, ea2, h⟩ := h
    obtain ⟨t3, h⟩ := h
    exact t_callV (ci := 6) (as := [(vI x1)]) (S := []) gk dX6_newJarFault_35 gX6_75 (by decide) rfl w_383 w_384 ea2 t3 rfl rfl (Nat.le_of_ble_eq_true rfl) (by decide) h
theorem vX6_newJarFault_38 {G : GG} (gk : GOK G) {σ : Mm} {K : RES → Mm → Prop} {x0 : Option Nat} {x1 : Int32} {x2 : Int32} {s0 : Option Nat}
    (h : ((s0 = none → K (.inl (some (vI (0 : Int32)))) σ) ∧ (∀ a2, s0 = some a2 → K (.inl (some (vI (4 : Int32)))) σ))) : At G mX6_newJarFault rX6_newJarFault 0 0 38 [some (vR x0), some (vI x1), some (vI x2)] [(vR s0)] σ K := by
  refine s_ifnull (tgt := 45) dX6_newJarFault_38 (by decide) (fun q1 => ?_) (fun a2 ea2 => ?_)
  · have h := h.1 q1
    refine s_iconst (v := 0) dX6_newJarFault_45 (by decide) ?_
    exact s_ireturn dX6_newJarFault_46 rfl rfl (by decide) (by decide) h
  · have h := h.2 a2 ea2
    refine s_iconst (v := 4) dX6_newJarFault_41 (by decide) ?_
    refine s_goto (tgt := 46) dX6_newJarFault_42 (by decide) ?_
    exact s_ireturn dX6_newJarFault_46 rfl rfl (by decide) (by decide) h
theorem vX6_jarFault_0 {G : GG} (gk : GOK G) {σ : Mm} {K : RES → Mm → Prop} {x0 : Option Nat} {x1 : Int32}
    (h : ∃ a1, x0 = some a1 ∧ (mt σ a1).1 = 7 ∧ Runs G mX6_findJar rX6_findJar [(vR x0), (vI x1)] σ (bk G mX6_jarFault rX6_jarFault 0 0 5 [some (vR x0), some (vI x1)] [] K)) : At G mX6_jarFault rX6_jarFault 0 0 0 [some (vR x0), some (vI x1)] [] σ K := by
  refine s_aload_n (i := 0) dX6_jarFault_0 rfl rfl ?_
  refine s_iload_n (i := 1) dX6_jarFault_1 rfl rfl ?_
  obtain ⟨a1, ea1, h⟩ := h
  obtain ⟨t2, h⟩ := h
  exact t_callV (ci := 6) (as := [(vI x1)]) (S := []) gk dX6_jarFault_2 gX6_75 (by decide) rfl w_383 w_384 ea1 t2 rfl rfl (Nat.le_of_ble_eq_true rfl) (by decide) h
theorem eX6_jarFault {G : GG} (gk : GOK G) {σ : Mm} {K : RES → Mm → Prop} {x0 : Option Nat} {x1 : Int32}
    (h : ∃ a1, x0 = some a1 ∧ (mt σ a1).1 = 7 ∧ Runs G mX6_findJar rX6_findJar [(vR x0), (vI x1)] σ (bk G mX6_jarFault rX6_jarFault 0 0 5 [some (vR x0), some (vI x1)] [] K)) : Runs G mX6_jarFault rX6_jarFault [(vR x0), (vI x1)] σ K := Runs.of (by decide) rfl (Nat.le_of_ble_eq_true rfl) (vX6_jarFault_0 gk h)
theorem vX6_jarFault_5 {G : GG} (gk : GOK G) {σ : Mm} {K : RES → Mm → Prop} {x0 : Option Nat} {x1 : Int32} {s0 : Option Nat}
    (h : ((s0 = none → K (.inl (some (vI (2 : Int32)))) σ) ∧ (∀ a2, s0 = some a2 → K (.inl (some (vI (0 : Int32)))) σ))) : At G mX6_jarFault rX6_jarFault 0 0 5 [some (vR x0), some (vI x1)] [(vR s0)] σ K := by
  refine s_ifnonnull (tgt := 12) dX6_jarFault_5 (by decide) (fun a2 ea2 => ?_) (fun q1 => ?_)
  · have h := h.2 a2 ea2
    refine s_iconst (v := 0) dX6_jarFault_12 (by decide) ?_
    exact s_ireturn dX6_jarFault_13 rfl rfl (by decide) (by decide) h
  · have h := h.1 q1
    refine s_iconst (v := 2) dX6_jarFault_8 (by decide) ?_
    refine s_goto (tgt := 13) dX6_jarFault_9 (by decide) ?_
    exact s_ireturn dX6_jarFault_13 rfl rfl (by decide) (by decide) h
theorem vX6_wordFault_0 {G : GG} (gk : GOK G) {σ : Mm} {K : RES → Mm → Prop} {x0 : Option Nat} {x1 : Int32} {x2 : Int32}
    (h : ∃ a1, x0 = some a1 ∧ (mt σ a1).1 = 7 ∧ Runs G mX6_findJar rX6_findJar [(vR x0), (vI x1)] σ (bk G mX6_wordFault rX6_wordFault 0 0 5 [some (vR x0), some (vI x1), some (vI x2)] [] K)) : At G mX6_wordFault rX6_wordFault 0 0 0 [some (vR x0), some (vI x1), some (vI x2)] [] σ K := by
  refine s_aload_n (i := 0) dX6_wordFault_0 rfl rfl ?_
  refine s_iload_n (i := 1) dX6_wordFault_1 rfl rfl ?_
  obtain ⟨a1, ea1, h⟩ := h
  obtain ⟨t2, h⟩ := h
  exact t_callV (ci := 6) (as := [(vI x1)]) (S := []) gk dX6_wordFault_2 gX6_75 (by decide) rfl w_383 w_384 ea1 t2 rfl rfl (Nat.le_of_ble_eq_true rfl) (by decide) h
theorem eX6_wordFault {G : GG} (gk : GOK G) {σ : Mm} {K : RES → Mm → Prop} {x0 : Option Nat} {x1 : Int32} {x2 : Int32}
    (h : ∃ a1, x0 = some a1 ∧ (mt σ a1).1 = 7 ∧ Runs G mX6_findJar rX6_findJar [(vR x0), (vI x1)] σ (bk G mX6_wordFault rX6_wordFault 0 0 5 [some (vR x0), some (vI x1), some (vI x2)] [] K)) : Runs G mX6_wordFault rX6_wordFault [(vR x0), (vI x1), (vI x2)] σ K := Runs.of (by decide) rfl (Nat.le_of_ble_eq_true rfl) (vX6_wordFault_0 gk h)
theorem vX6_wordFault_5 {G : GG} (gk : GOK G) {σ : Mm} {K : RES → Mm → Prop} {x0 : Option Nat} {x1 : Int32} {x2 : Int32} {s0 : Option Nat}
    (h : ((s0 = none → K (.inl (some (vI (2 : Int32)))) σ) ∧ (∀ a2, s0 = some a2 → ((x2 < 0 → K (.inl (some (vI (3 : Int32)))) σ) ∧ (¬ x2 < 0 → ((x2 ≤ (99 : Int32) → K (.inl (some (vI (0 : Int32)))) σ) ∧ (¬ x2 ≤ (99 : Int32) → K (.inl (some (vI (3 : Int32)))) σ))))))) : At G mX6_wordFault rX6_wordFault 0 0 5 [some (vR x0), some (vI x1), some (vI x2)] [(vR s0)] σ K := by
  refine s_ifnonnull (tgt := 10) dX6_wordFault_5 (by decide) (fun a2 ea2 => ?_) (fun q1 => ?_)
  · have h := h.2 a2 ea2
    refine s_iload_n (i := 2) dX6_wordFault_10 rfl rfl ?_
    refine s_if_lt (tgt := 20) dX6_wordFault_11 (by decide) (fun q3 => ?_) (fun q3 => ?_)
    · have h := h.1 q3
      refine s_iconst (v := 3) dX6_wordFault_20 (by decide) ?_
      refine s_goto (tgt := 25) dX6_wordFault_21 (by decide) ?_
      exact s_ireturn dX6_wordFault_25 rfl rfl (by decide) (by decide) h
    · have h := h.2 q3
      refine s_iload_n (i := 2) dX6_wordFault_14 rfl rfl ?_
      refine s_bipush (v := 99) dX6_wordFault_15 (by decide) ?_
      refine s_icmp_le (tgt := 24) dX6_wordFault_17 (by decide) (fun q4 => ?_) (fun q4 => ?_)
      · have h := h.1 q4
        refine s_iconst (v := 0) dX6_wordFault_24 (by decide) ?_
        exact s_ireturn dX6_wordFault_25 rfl rfl (by decide) (by decide) h
      · have h := h.2 q4
        refine s_iconst (v := 3) dX6_wordFault_20 (by decide) ?_
        refine s_goto (tgt := 25) dX6_wordFault_21 (by decide) ?_
        exact s_ireturn dX6_wordFault_25 rfl rfl (by decide) (by decide) h
  · have h := h.1 q1
    refine s_iconst (v := 2) dX6_wordFault_8 (by decide) ?_
    exact s_ireturn dX6_wordFault_9 rfl rfl (by decide) (by decide) h
theorem vX6_newShelfFault_0 {G : GG} (gk : GOK G) {σ : Mm} {K : RES → Mm → Prop} {x0 : Option Nat} {x1 : Int32} {x2 : Int32} {x3 : Int32}
    (h : ((x1 < (1 : Int32) → K (.inl (some (vI (3 : Int32)))) σ) ∧ (¬ x1 < (1 : Int32) → (((6 : Int32) < x1 → K (.inl (some (vI (3 : Int32)))) σ) ∧ (¬ (6 : Int32) < x1 → ((x2 < (1 : Int32) → K (.inl (some (vI (3 : Int32)))) σ) ∧ (¬ x2 < (1 : Int32) → ((x2 ≤ (30 : Int32) → ((x3 = (114 : Int32) → ∃ a6, x0 = some a6 ∧ (mt σ a6).1 = 7 ∧ Runs G mX6_countShelves rX6_countShelves [(vR x0)] σ (bk G mX6_newShelfFault rX6_newShelfFault 0 0 48 [some (vR x0), some (vI x1), some (vI x2), some (vI x3)] [] K)) ∧ (¬ x3 = (114 : Int32) → ((x3 = (111 : Int32) → ∃ a9, x0 = some a9 ∧ (mt σ a9).1 = 7 ∧ Runs G mX6_countShelves rX6_countShelves [(vR x0)] σ (bk G mX6_newShelfFault rX6_newShelfFault 0 0 48 [some (vR x0), some (vI x1), some (vI x2), some (vI x3)] [] K)) ∧ (¬ x3 = (111 : Int32) → ((x3 = (108 : Int32) → ∃ a12, x0 = some a12 ∧ (mt σ a12).1 = 7 ∧ Runs G mX6_countShelves rX6_countShelves [(vR x0)] σ (bk G mX6_newShelfFault rX6_newShelfFault 0 0 48 [some (vR x0), some (vI x1), some (vI x2), some (vI x3)] [] K)) ∧ (¬ x3 = (108 : Int32) → K (.inl (some (vI (3 : Int32)))) σ))))))) ∧ (¬ x2 ≤ (30 : Int32) → K (.inl (some (vI (3 : Int32)))) σ))))))))) : At G mX6_newShelfFault rX6_newShelfFault 0 0 0 [some (vR x0), some (vI x1), some (vI x2), some (vI x3)] [] σ K := by
  refine s_iload_n (i := 1) dX6_newShelfFault_0 rfl rfl ?_
  refine s_iconst (v := 1) dX6_newShelfFault_1 (by decide) ?_
  refine s_icmp_lt (tgt := 22) dX6_newShelfFault_2 (by decide) (fun q1 => ?_) (fun q1 => ?_)
  · have h := h.1 q1
    refine s_iconst (v := 3) dX6_newShelfFault_22 (by decide) ?_
    exact s_ireturn dX6_newShelfFault_23 rfl rfl (by decide) (by decide) h
  · have h := h.2 q1
    refine s_iload_n (i := 1) dX6_newShelfFault_5 rfl rfl ?_
    refine s_bipush (v := 6) dX6_newShelfFault_6 (by decide) ?_
    refine s_icmp_gt (tgt := 22) dX6_newShelfFault_8 (by decide) (fun q2 => ?_) (fun q2 => ?_)
    · have h := h.1 q2
      refine s_iconst (v := 3) dX6_newShelfFault_22 (by decide) ?_
      exact s_ireturn dX6_newShelfFault_23 rfl rfl (by decide) (by decide) h
    · have h := h.2 q2
      refine s_iload_n (i := 2) dX6_newShelfFault_11 rfl rfl ?_
      refine s_iconst (v := 1) dX6_newShelfFault_12 (by decide) ?_
      refine s_icmp_lt (tgt := 22) dX6_newShelfFault_13 (by decide) (fun q3 => ?_) (fun q3 => ?_)
      · have h := h.1 q3
        refine s_iconst (v := 3) dX6_newShelfFault_22 (by decide) ?_
        exact s_ireturn dX6_newShelfFault_23 rfl rfl (by decide) (by decide) h
      · have h := h.2 q3
        refine s_iload_n (i := 2) dX6_newShelfFault_16 rfl rfl ?_
        refine s_bipush (v := 30) dX6_newShelfFault_17 (by decide) ?_
        refine s_icmp_le (tgt := 24) dX6_newShelfFault_19 (by decide) (fun q4 => ?_) (fun q4 => ?_)
        · have h := h.1 q4
          refine s_iload_n (i := 3) dX6_newShelfFault_24 rfl rfl ?_
          refine s_bipush (v := 114) dX6_newShelfFault_25 (by decide) ?_
          refine s_icmp_eq (tgt := 44) dX6_newShelfFault_27 (by decide) (fun q5 => ?_) (fun q5 => ?_)
          · have h := h.1 q5
            refine s_aload_n (i := 0) dX6_newShelfFault_44 rfl rfl ?_
            obtain ⟨a6, ea6, h⟩ := h
            obtain ⟨t7, h⟩ := h
            exact t_callV (ci := 6) (as := []) (S := []) gk dX6_newShelfFault_45 gX6_78 (by decide) rfl w_611 w_612 ea6 t7 rfl rfl (Nat.le_of_ble_eq_true rfl) (by decide) h
          · have h := h.2 q5
            refine s_iload_n (i := 3) dX6_newShelfFault_30 rfl rfl ?_
            refine s_bipush (v := 111) dX6_newShelfFault_31 (by decide) ?_
            refine s_icmp_eq (tgt := 44) dX6_newShelfFault_33 (by decide) (fun q8 => ?_) (fun q8 => ?_)
            · have h := h.1 q8
              refine s_aload_n (i := 0) dX6_newShelfFault_44 rfl rfl ?_
              obtain ⟨a9, ea9, h⟩ := h
              obtain ⟨t10, h⟩ := h
              exact t_callV (ci := 6) (as := []) (S := []) gk dX6_newShelfFault_45 gX6_78 (by decide) rfl w_611 w_612 ea9 t10 rfl rfl (Nat.le_of_ble_eq_true rfl) (by decide) h
            · have h := h.2 q8
              refine s_iload_n (i := 3) dX6_newShelfFault_36 rfl rfl ?_
              refine s_bipush (v := 108) dX6_newShelfFault_37 (by decide) ?_
              refine s_icmp_eq (tgt := 44) dX6_newShelfFault_39 (by decide) (fun q11 => ?_) (fun q11 => ?_)
              · have h := h.1 q11
                refine s_aload_n (i := 0) dX6_newShelfFault_44 rfl rfl ?_
                obtain ⟨a12, ea12, h⟩ := h
                obtain ⟨t13, h⟩ := h
                exact t_callV (ci := 6) (as := []) (S := []) gk dX6_newShelfFault_45 gX6_78 (by decide) rfl w_611 w_612 ea12 t13 rfl rfl (Nat.le_of_ble_eq_true rfl) (by decide) h
              · have h := h.2 q11
                refine s_iconst (v := 3) dX6_newShelfFault_42 (by decide) ?_
                exact s_ireturn dX6_newShelfFault_43 rfl rfl (by decide) (by decide) h
        · have h := h.2 q4
          refine s_iconst (v := 3) dX6_newShelfFault_22 (by decide) ?_
          exact s_ireturn dX6_newShelfFault_23 rfl rfl (by decide) (by decide) h
theorem eX6_newShelfFault {G : GG} (gk : GOK G) {σ : Mm} {K : RES → Mm → Prop} {x0 : Option Nat} {x1 : Int32} {x2 : Int32} {x3 : Int32}
    (h : ((x1 < (1 : Int32) → K (.inl (some (vI (3 : Int32)))) σ) ∧ (¬ x1 < (1 : Int32) → (((6 : Int32) < x1 → K (.inl (some (vI (3 : Int32)))) σ) ∧ (¬ (6 : Int32) < x1 → ((x2 < (1 : Int32) → K (.inl (some (vI (3 : Int32)))) σ) ∧ (¬ x2 < (1 : Int32) → ((x2 ≤ (30 : Int32) → ((x3 = (114 : Int32) → ∃ a6, x0 = some a6 ∧ (mt σ a6).1 = 7 ∧ Runs G mX6_countShelves rX6_countShelves [(vR x0)] σ (bk G mX6_newShelfFault rX6_newShelfFault 0 0 48 [some (vR x0), some (vI x1), some (vI x2), some (vI x3)] [] K)) ∧ (¬ x3 = (114 : Int32) → ((x3 = (111 : Int32) → ∃ a9, x0 = some a9 ∧ (mt σ a9).1 = 7 ∧ Runs G mX6_countShelves rX6_countShelves [(vR x0)] σ (bk G mX6_newShelfFault rX6_newShelfFault 0 0 48 [some (vR x0), some (vI x1), some (vI x2), some (vI x3)] [] K)) ∧ (¬ x3 = (111 : Int32) → ((x3 = (108 : Int32) → ∃ a12, x0 = some a12 ∧ (mt σ a12).1 = 7 ∧ Runs G mX6_countShelves rX6_countShelves [(vR x0)] σ (bk G mX6_newShelfFault rX6_newShelfFault 0 0 48 [some (vR x0), some (vI x1), some (vI x2), some (vI x3)] [] K)) ∧ (¬ x3 = (108 : Int32) → K (.inl (some (vI (3 : Int32)))) σ))))))) ∧ (¬ x2 ≤ (30 : Int32) → K (.inl (some (vI (3 : Int32)))) σ))))))))) : Runs G mX6_newShelfFault rX6_newShelfFault [(vR x0), (vI x1), (vI x2), (vI x3)] σ K := Runs.of (by decide) rfl (Nat.le_of_ble_eq_true rfl) (vX6_newShelfFault_0 gk h)
theorem vX6_newShelfFault_48 {G : GG} (gk : GOK G) {σ : Mm} {K : RES → Mm → Prop} {x0 : Option Nat} {x1 : Int32} {x2 : Int32} {x3 : Int32} {s0 : Int32}
    (h : ((s0 < (4 : Int32) → K (.inl (some (vI (0 : Int32)))) σ) ∧ (¬ s0 < (4 : Int32) → K (.inl (some (vI (4 : Int32)))) σ))) : At G mX6_newShelfFault rX6_newShelfFault 0 0 48 [some (vR x0), some (vI x1), some (vI x2), some (vI x3)] [(vI s0)] σ K := by
  refine s_iconst (v := 4) dX6_newShelfFault_48 (by decide) ?_
  refine s_icmp_lt (tgt := 56) dX6_newShelfFault_49 (by decide) (fun q1 => ?_) (fun q1 => ?_)
  · have h := h.1 q1
    refine s_iconst (v := 0) dX6_newShelfFault_56 (by decide) ?_
    exact s_ireturn dX6_newShelfFault_57 rfl rfl (by decide) (by decide) h
  · have h := h.2 q1
    refine s_iconst (v := 4) dX6_newShelfFault_52 (by decide) ?_
    refine s_goto (tgt := 57) dX6_newShelfFault_53 (by decide) ?_
    exact s_ireturn dX6_newShelfFault_57 rfl rfl (by decide) (by decide) h
theorem vX6_shelfFault_0 {G : GG} (gk : GOK G) {σ : Mm} {K : RES → Mm → Prop} {x0 : Option Nat} {x1 : Int32}
    (h : ∃ a1, x0 = some a1 ∧ (mt σ a1).1 = 7 ∧ Runs G mX6_findShelf rX6_findShelf [(vR x0), (vI x1)] σ (bk G mX6_shelfFault rX6_shelfFault 0 0 5 [some (vR x0), some (vI x1)] [] K)) : At G mX6_shelfFault rX6_shelfFault 0 0 0 [some (vR x0), some (vI x1)] [] σ K := by
  refine s_aload_n (i := 0) dX6_shelfFault_0 rfl rfl ?_
  refine s_iload_n (i := 1) dX6_shelfFault_1 rfl rfl ?_
  obtain ⟨a1, ea1, h⟩ := h
  obtain ⟨t2, h⟩ := h
  exact t_callV (ci := 6) (as := [(vI x1)]) (S := []) gk dX6_shelfFault_2 gX6_81 (by decide) rfl w_656 w_657 ea1 t2 rfl rfl (Nat.le_of_ble_eq_true rfl) (by decide) h
theorem eX6_shelfFault {G : GG} (gk : GOK G) {σ : Mm} {K : RES → Mm → Prop} {x0 : Option Nat} {x1 : Int32}
    (h : ∃ a1, x0 = some a1 ∧ (mt σ a1).1 = 7 ∧ Runs G mX6_findShelf rX6_findShelf [(vR x0), (vI x1)] σ (bk G mX6_shelfFault rX6_shelfFault 0 0 5 [some (vR x0), some (vI x1)] [] K)) : Runs G mX6_shelfFault rX6_shelfFault [(vR x0), (vI x1)] σ K := Runs.of (by decide) rfl (Nat.le_of_ble_eq_true rfl) (vX6_shelfFault_0 gk h)
theorem vX6_shelfFault_5 {G : GG} (gk : GOK G) {σ : Mm} {K : RES → Mm → Prop} {x0 : Option Nat} {x1 : Int32} {s0 : Option Nat}
    (h : ((s0 = none → K (.inl (some (vI (1 : Int32)))) σ) ∧ (∀ a2, s0 = some a2 → K (.inl (some (vI (0 : Int32)))) σ))) : At G mX6_shelfFault rX6_shelfFault 0 0 5 [some (vR x0), some (vI x1)] [(vR s0)] σ K := by
  refine s_ifnonnull (tgt := 12) dX6_shelfFault_5 (by decide) (fun a2 ea2 => ?_) (fun q1 => ?_)
  · have h := h.2 a2 ea2
    refine s_iconst (v := 0) dX6_shelfFault_12 (by decide) ?_
    exact s_ireturn dX6_shelfFault_13 rfl rfl (by decide) (by decide) h
  · have h := h.1 q1
    refine s_iconst (v := 1) dX6_shelfFault_8 (by decide) ?_
    refine s_goto (tgt := 13) dX6_shelfFault_9 (by decide) ?_
    exact s_ireturn dX6_shelfFault_13 rfl rfl (by decide) (by decide) h
theorem vX6_hearFault_0 {G : GG} (gk : GOK G) {σ : Mm} {K : RES → Mm → Prop} {x0 : Option Nat} {x1 : Int32} {x2 : Int32}
    (h : ∃ a1, x0 = some a1 ∧ (mt σ a1).1 = 7 ∧ Runs G mX6_findShelf rX6_findShelf [(vR x0), (vI x1)] σ (bk G mX6_hearFault rX6_hearFault 0 0 5 [some (vR x0), some (vI x1), some (vI x2)] [] K)) : At G mX6_hearFault rX6_hearFault 0 0 0 [some (vR x0), some (vI x1), some (vI x2)] [] σ K := by
  refine s_aload_n (i := 0) dX6_hearFault_0 rfl rfl ?_
  refine s_iload_n (i := 1) dX6_hearFault_1 rfl rfl ?_
  obtain ⟨a1, ea1, h⟩ := h
  obtain ⟨t2, h⟩ := h
  exact t_callV (ci := 6) (as := [(vI x1)]) (S := []) gk dX6_hearFault_2 gX6_81 (by decide) rfl w_656 w_657 ea1 t2 rfl rfl (Nat.le_of_ble_eq_true rfl) (by decide) h
theorem eX6_hearFault {G : GG} (gk : GOK G) {σ : Mm} {K : RES → Mm → Prop} {x0 : Option Nat} {x1 : Int32} {x2 : Int32}
    (h : ∃ a1, x0 = some a1 ∧ (mt σ a1).1 = 7 ∧ Runs G mX6_findShelf rX6_findShelf [(vR x0), (vI x1)] σ (bk G mX6_hearFault rX6_hearFault 0 0 5 [some (vR x0), some (vI x1), some (vI x2)] [] K)) : Runs G mX6_hearFault rX6_hearFault [(vR x0), (vI x1), (vI x2)] σ K := Runs.of (by decide) rfl (Nat.le_of_ble_eq_true rfl) (vX6_hearFault_0 gk h)
theorem vX6_hearFault_5 {G : GG} (gk : GOK G) {σ : Mm} {K : RES → Mm → Prop} {x0 : Option Nat} {x1 : Int32} {x2 : Int32} {s0 : Option Nat}
    (h : ((s0 = none → At G mX6_hearFault rX6_hearFault 0 0 17 [some (vR x0), some (vI x1), some (vI x2)] [(vI (1 : Int32))] σ K) ∧ (∀ a2, s0 = some a2 → ∃ a3, x0 = some a3 ∧ (mt σ a3).1 = 7 ∧ Runs G mX6_jarFault rX6_jarFault [(vR x0), (vI x2)] σ (bk G mX6_hearFault rX6_hearFault 0 0 17 [some (vR x0), some (vI x1), some (vI x2)] [] K)))) : At G mX6_hearFault rX6_hearFault 0 0 5 [some (vR x0), some (vI x1), some (vI x2)] [(vR s0)] σ K := by
  refine s_ifnonnull (tgt := 12) dX6_hearFault_5 (by decide) (fun a2 ea2 => ?_) (fun q1 => ?_)
  · have h := h.2 a2 ea2
    refine s_aload_n (i := 0) dX6_hearFault_12 rfl rfl ?_
    refine s_iload_n (i := 2) dX6_hearFault_13 rfl rfl ?_
    obtain ⟨a3, ea3, h⟩ := h
    obtain ⟨t4, h⟩ := h
    exact t_callV (ci := 6) (as := [(vI x2)]) (S := []) gk dX6_hearFault_14 gX6_85 (by decide) rfl w_660 w_661 ea3 t4 rfl rfl (Nat.le_of_ble_eq_true rfl) (by decide) h
  · have h := h.1 q1
    refine s_iconst (v := 1) dX6_hearFault_8 (by decide) ?_
    refine s_goto (tgt := 17) dX6_hearFault_9 (by decide) ?_
    exact h
theorem vX6_hearFault_17 {G : GG} (gk : GOK G) {σ : Mm} {K : RES → Mm → Prop} {x0 : Option Nat} {x1 : Int32} {x2 : Int32} {s0 : Int32}
    (h : K (.inl (some (vI s0))) σ) : At G mX6_hearFault rX6_hearFault 0 0 17 [some (vR x0), some (vI x1), some (vI x2)] [(vI s0)] σ K := by
  exact s_ireturn dX6_hearFault_17 rfl rfl (by decide) (by decide) h
theorem vX6_warmFault_0 {G : GG} (gk : GOK G) {σ : Mm} {K : RES → Mm → Prop} {x0 : Option Nat} {x1 : Int32} {x2 : Int32} {x3 : Int32}
    (h : ∃ a1, x0 = some a1 ∧ (mt σ a1).1 = 7 ∧ Runs G mX6_hearFault rX6_hearFault [(vR x0), (vI x1), (vI x2)] σ (bk G mX6_warmFault rX6_warmFault 0 0 6 [some (vR x0), some (vI x1), some (vI x2), some (vI x3), none] [] K)) : At G mX6_warmFault rX6_warmFault 0 0 0 [some (vR x0), some (vI x1), some (vI x2), some (vI x3), none] [] σ K := by
  refine s_aload_n (i := 0) dX6_warmFault_0 rfl rfl ?_
  refine s_iload_n (i := 1) dX6_warmFault_1 rfl rfl ?_
  refine s_iload_n (i := 2) dX6_warmFault_2 rfl rfl ?_
  obtain ⟨a1, ea1, h⟩ := h
  obtain ⟨t2, h⟩ := h
  exact t_callV (ci := 6) (as := [(vI x1), (vI x2)]) (S := []) gk dX6_warmFault_3 gX6_89 (by decide) rfl w_652 w_653 ea1 t2 rfl rfl (Nat.le_of_ble_eq_true rfl) (by decide) h
theorem eX6_warmFault {G : GG} (gk : GOK G) {σ : Mm} {K : RES → Mm → Prop} {x0 : Option Nat} {x1 : Int32} {x2 : Int32} {x3 : Int32}
    (h : ∃ a1, x0 = some a1 ∧ (mt σ a1).1 = 7 ∧ Runs G mX6_hearFault rX6_hearFault [(vR x0), (vI x1), (vI x2)] σ (bk G mX6_warmFault rX6_warmFault 0 0 6 [some (vR x0), some (vI x1), some (vI x2), some (vI x3), none] [] K)) : Runs G mX6_warmFault rX6_warmFault [(vR x0), (vI x1), (vI x2), (vI x3)] σ K := Runs.of (by decide) rfl (Nat.le_of_ble_eq_true rfl) (vX6_warmFault_0 gk h)
theorem vX6_warmFault_6 {G : GG} (gk : GOK G) {σ : Mm} {K : RES → Mm → Prop} {x0 : Option Nat} {x1 : Int32} {x2 : Int32} {x3 : Int32} {s0 : Int32}
    (h : ((s0 = 0 → ((x3 < (1 : Int32) → K (.inl (some (vI (3 : Int32)))) σ) ∧ (¬ x3 < (1 : Int32) → ((x3 ≤ (50 : Int32) → ∃ a4, x0 = some a4 ∧ (mt σ a4).1 = 7 ∧ Runs G mX6_countWarmings rX6_countWarmings [(vR x0)] σ (bk G mX6_warmFault rX6_warmFault 0 0 33 [some (vR x0), some (vI x1), some (vI x2), some (vI x3), some (vI s0)] [] K)) ∧ (¬ x3 ≤ (50 : Int32) → K (.inl (some (vI (3 : Int32)))) σ))))) ∧ (¬ s0 = 0 → K (.inl (some (vI s0))) σ))) : At G mX6_warmFault rX6_warmFault 0 0 6 [some (vR x0), some (vI x1), some (vI x2), some (vI x3), none] [(vI s0)] σ K := by
  refine s_istore (L' := [some (vR x0), some (vI x1), some (vI x2), some (vI x3), some (vI s0)]) dX6_warmFault_6 rfl (by decide) rfl ?_
  refine s_iload dX6_warmFault_8 rfl ?_
  refine s_if_eq (tgt := 16) dX6_warmFault_10 (by decide) (fun q1 => ?_) (fun q1 => ?_)
  · have h := h.1 q1
    refine s_iload_n (i := 3) dX6_warmFault_16 rfl rfl ?_
    refine s_iconst (v := 1) dX6_warmFault_17 (by decide) ?_
    refine s_icmp_lt (tgt := 27) dX6_warmFault_18 (by decide) (fun q2 => ?_) (fun q2 => ?_)
    · have h := h.1 q2
      refine s_iconst (v := 3) dX6_warmFault_27 (by decide) ?_
      exact s_ireturn dX6_warmFault_28 rfl rfl (by decide) (by decide) h
    · have h := h.2 q2
      refine s_iload_n (i := 3) dX6_warmFault_21 rfl rfl ?_
      refine s_bipush (v := 50) dX6_warmFault_22 (by decide) ?_
      refine s_icmp_le (tgt := 29) dX6_warmFault_24 (by decide) (fun q3 => ?_) (fun q3 => ?_)
      · have h := h.1 q3
        refine s_aload_n (i := 0) dX6_warmFault_29 rfl rfl ?_
        obtain ⟨a4, ea4, h⟩ := h
        obtain ⟨t5, h⟩ := h
        exact t_callV (ci := 6) (as := []) (S := []) gk dX6_warmFault_30 gX6_93 (by decide) rfl w_752 w_753 ea4 t5 rfl rfl (Nat.le_of_ble_eq_true rfl) (by decide) h
      · have h := h.2 q3
        refine s_iconst (v := 3) dX6_warmFault_27 (by decide) ?_
        exact s_ireturn dX6_warmFault_28 rfl rfl (by decide) (by decide) h
  · have h := h.2 q1
    refine s_iload dX6_warmFault_13 rfl ?_
    exact s_ireturn dX6_warmFault_15 rfl rfl (by decide) (by decide) h
theorem vX6_warmFault_33 {G : GG} (gk : GOK G) {σ : Mm} {K : RES → Mm → Prop} {x0 : Option Nat} {x1 : Int32} {x2 : Int32} {x3 : Int32} {x4 : Int32} {s0 : Int32}
    (h : ((s0 < (8 : Int32) → K (.inl (some (vI (0 : Int32)))) σ) ∧ (¬ s0 < (8 : Int32) → K (.inl (some (vI (4 : Int32)))) σ))) : At G mX6_warmFault rX6_warmFault 0 0 33 [some (vR x0), some (vI x1), some (vI x2), some (vI x3), some (vI x4)] [(vI s0)] σ K := by
  refine s_bipush (v := 8) dX6_warmFault_33 (by decide) ?_
  refine s_icmp_lt (tgt := 42) dX6_warmFault_35 (by decide) (fun q1 => ?_) (fun q1 => ?_)
  · have h := h.1 q1
    refine s_iconst (v := 0) dX6_warmFault_42 (by decide) ?_
    exact s_ireturn dX6_warmFault_43 rfl rfl (by decide) (by decide) h
  · have h := h.2 q1
    refine s_iconst (v := 4) dX6_warmFault_38 (by decide) ?_
    refine s_goto (tgt := 43) dX6_warmFault_39 (by decide) ?_
    exact s_ireturn dX6_warmFault_43 rfl rfl (by decide) (by decide) h
theorem vX6_passFault_0 {G : GG} (gk : GOK G) {σ : Mm} {K : RES → Mm → Prop} {x0 : Option Nat} {x1 : Int32}
    (h : ((x1 < (1 : Int32) → K (.inl (some (vI (3 : Int32)))) σ) ∧ (¬ x1 < (1 : Int32) → ((x1 ≤ (60 : Int32) → K (.inl (some (vI (0 : Int32)))) σ) ∧ (¬ x1 ≤ (60 : Int32) → K (.inl (some (vI (3 : Int32)))) σ))))) : At G mX6_passFault rX6_passFault 0 0 0 [some (vR x0), some (vI x1)] [] σ K := by
  refine s_iload_n (i := 1) dX6_passFault_0 rfl rfl ?_
  refine s_iconst (v := 1) dX6_passFault_1 (by decide) ?_
  refine s_icmp_lt (tgt := 11) dX6_passFault_2 (by decide) (fun q1 => ?_) (fun q1 => ?_)
  · have h := h.1 q1
    refine s_iconst (v := 3) dX6_passFault_11 (by decide) ?_
    refine s_goto (tgt := 16) dX6_passFault_12 (by decide) ?_
    exact s_ireturn dX6_passFault_16 rfl rfl (by decide) (by decide) h
  · have h := h.2 q1
    refine s_iload_n (i := 1) dX6_passFault_5 rfl rfl ?_
    refine s_bipush (v := 60) dX6_passFault_6 (by decide) ?_
    refine s_icmp_le (tgt := 15) dX6_passFault_8 (by decide) (fun q2 => ?_) (fun q2 => ?_)
    · have h := h.1 q2
      refine s_iconst (v := 0) dX6_passFault_15 (by decide) ?_
      exact s_ireturn dX6_passFault_16 rfl rfl (by decide) (by decide) h
    · have h := h.2 q2
      refine s_iconst (v := 3) dX6_passFault_11 (by decide) ?_
      refine s_goto (tgt := 16) dX6_passFault_12 (by decide) ?_
      exact s_ireturn dX6_passFault_16 rfl rfl (by decide) (by decide) h
theorem eX6_passFault {G : GG} (gk : GOK G) {σ : Mm} {K : RES → Mm → Prop} {x0 : Option Nat} {x1 : Int32}
    (h : ((x1 < (1 : Int32) → K (.inl (some (vI (3 : Int32)))) σ) ∧ (¬ x1 < (1 : Int32) → ((x1 ≤ (60 : Int32) → K (.inl (some (vI (0 : Int32)))) σ) ∧ (¬ x1 ≤ (60 : Int32) → K (.inl (some (vI (3 : Int32)))) σ))))) : Runs G mX6_passFault rX6_passFault [(vR x0), (vI x1)] σ K := Runs.of (by decide) rfl (Nat.le_of_ble_eq_true rfl) (vX6_passFault_0 gk h)
theorem vX6_countJars_0 {G : GG} (gk : GOK G) {σ : Mm} {K : RES → Mm → Prop} {x0 : Option Nat}
    (h : ∃ a1, x0 = some a1 ∧ (mt σ a1).1 = 7 ∧ ∃ a3, mr σ a1 0 = some a3 ∧ ∃ n5, mt σ a3 = (55, n5) ∧ At G mX6_countJars rX6_countJars 0 0 13 [some (vR x0), some (vI (0 : Int32)), some (vR (mr σ a1 0)), some (vI (nI n5)), some (vI (0 : Int32)), none] [] σ K) : At G mX6_countJars rX6_countJars 0 0 0 [some (vR x0), none, none, none, none, none] [] σ K := by
  refine s_iconst (v := 0) dX6_countJars_0 (by decide) ?_
  refine s_istore_n (i := 1) (L' := [some (vR x0), some (vI (0 : Int32)), none, none, none, none]) dX6_countJars_1 rfl rfl (by decide) rfl ?_
  refine s_aload_n (i := 0) dX6_countJars_2 rfl rfl ?_
  obtain ⟨a1, ea1, h⟩ := h
  obtain ⟨t2, h⟩ := h
  refine t_getR gk dX6_countJars_3 fX6_11 rfl ea1 t2 ?_
  refine s_astore_n (i := 2) (L' := [some (vR x0), some (vI (0 : Int32)), some (vR (mr σ a1 0)), none, none, none]) dX6_countJars_6 rfl rfl (by decide) rfl ?_
  refine s_aload_n (i := 2) dX6_countJars_7 rfl rfl ?_
  obtain ⟨a3, ea3, h⟩ := h
  obtain ⟨n5, t4, h⟩ := h
  refine t_alen (j := 5) gk dX6_countJars_8 (by decide) ea3 t4 ?_
  refine s_istore_n (i := 3) (L' := [some (vR x0), some (vI (0 : Int32)), some (vR (mr σ a1 0)), some (vI (nI n5)), none, none]) dX6_countJars_9 rfl rfl (by decide) rfl ?_
  refine s_iconst (v := 0) dX6_countJars_10 (by decide) ?_
  refine s_istore (L' := [some (vR x0), some (vI (0 : Int32)), some (vR (mr σ a1 0)), some (vI (nI n5)), some (vI (0 : Int32)), none]) dX6_countJars_11 rfl (by decide) rfl ?_
  exact h
theorem eX6_countJars {G : GG} (gk : GOK G) {σ : Mm} {K : RES → Mm → Prop} {x0 : Option Nat}
    (h : ∃ a1, x0 = some a1 ∧ (mt σ a1).1 = 7 ∧ ∃ a3, mr σ a1 0 = some a3 ∧ ∃ n5, mt σ a3 = (55, n5) ∧ At G mX6_countJars rX6_countJars 0 0 13 [some (vR x0), some (vI (0 : Int32)), some (vR (mr σ a1 0)), some (vI (nI n5)), some (vI (0 : Int32)), none] [] σ K) : Runs G mX6_countJars rX6_countJars [(vR x0)] σ K := Runs.of (by decide) rfl (Nat.le_of_ble_eq_true rfl) (vX6_countJars_0 gk h)
theorem vX6_countJars_13 {G : GG} (gk : GOK G) {σ : Mm} {K : RES → Mm → Prop} {x0 : Option Nat} {x1 : Int32} {x2 : Option Nat} {x3 : Int32} {x4 : Int32}
    (h : ((x3 ≤ x4 → K (.inl (some (vI x1))) σ) ∧ (¬ x3 ≤ x4 → ∃ a2, x2 = some a2 ∧ ∃ n4, mt σ a2 = (55, n4) ∧ vp_in x4 n4 ∧ ∃ a6, mr σ a2 x4.toNatClampNeg = some a6 ∧ (mt σ a6).1 = 5 ∧ (((mi σ a6 0) = 0 → At G mX6_countJars rX6_countJars 0 0 13 [some (vR x0), some (vI x1), some (vR x2), some (vI x3), some (vI (x4 + 1)), none] [] σ K) ∧ (¬ (mi σ a6 0) = 0 → At G mX6_countJars rX6_countJars 0 0 13 [some (vR x0), some (vI (x1 + 1)), some (vR x2), some (vI x3), some (vI (x4 + 1)), none] [] σ K))))) : At G mX6_countJars rX6_countJars 0 0 13 [some (vR x0), some (vI x1), some (vR x2), some (vI x3), some (vI x4), none] [] σ K := by
  refine s_iload dX6_countJars_13 rfl ?_
  refine s_iload_n (i := 3) dX6_countJars_15 rfl rfl ?_
  refine s_icmp_ge (tgt := 42) dX6_countJars_16 (by decide) (fun q1 => ?_) (fun q1 => ?_)
  · have h := h.1 q1
    refine s_iload_n (i := 1) dX6_countJars_42 rfl rfl ?_
    exact s_ireturn dX6_countJars_43 rfl rfl (by decide) (by decide) h
  · have h := h.2 q1
    refine s_aload_n (i := 2) dX6_countJars_19 rfl rfl ?_
    refine s_iload dX6_countJars_20 rfl ?_
    obtain ⟨a2, ea2, h⟩ := h
    obtain ⟨n4, t3, h⟩ := h
    obtain ⟨c5, h⟩ := h
    refine t_aald (j := 5) gk dX6_countJars_22 (by decide) (by decide) ea2 t3 c5 ?_
    refine s_astore (L' := [some (vR x0), some (vI x1), some (vR x2), some (vI x3), some (vI x4), some (vR (mr σ a2 x4.toNatClampNeg))]) dX6_countJars_23 rfl (by decide) rfl ?_
    refine s_aload dX6_countJars_25 rfl ?_
    obtain ⟨a6, ea6, h⟩ := h
    obtain ⟨t7, h⟩ := h
    refine t_getI gk dX6_countJars_27 fX6_65 rfl ea6 t7 ?_
    refine s_if_eq (tgt := 36) dX6_countJars_30 (by decide) (fun q8 => ?_) (fun q8 => ?_)
    · have h := h.1 q8
      refine s_iinc (v := x4 + 1) (L' := [some (vR x0), some (vI x1), some (vR x2), some (vI x3), some (vI (x4 + 1)), some (vR (mr σ a2 x4.toNatClampNeg))]) dX6_countJars_36 rfl rfl rfl (by decide) rfl ?_
      refine s_goto (tgt := 13) dX6_countJars_39 (by decide) ?_
      exact h.msk ⟨rfl, ⟨rfl, ⟨rfl, ⟨rfl, ⟨rfl, trivial⟩⟩⟩⟩⟩
    · have h := h.2 q8
      refine s_iinc (v := x1 + 1) (L' := [some (vR x0), some (vI (x1 + 1)), some (vR x2), some (vI x3), some (vI x4), some (vR (mr σ a2 x4.toNatClampNeg))]) dX6_countJars_33 rfl rfl rfl (by decide) rfl ?_
      refine s_iinc (v := x4 + 1) (L' := [some (vR x0), some (vI (x1 + 1)), some (vR x2), some (vI x3), some (vI (x4 + 1)), some (vR (mr σ a2 x4.toNatClampNeg))]) dX6_countJars_36 rfl rfl rfl (by decide) rfl ?_
      refine s_goto (tgt := 13) dX6_countJars_39 (by decide) ?_
      exact h.msk ⟨rfl, ⟨rfl, ⟨rfl, ⟨rfl, ⟨rfl, trivial⟩⟩⟩⟩⟩
theorem vX6_jarLetter_0 {G : GG} (gk : GOK G) {σ : Mm} {K : RES → Mm → Prop} {x0 : Option Nat} {x1 : Int32}
    (h : At G mX6_jarLetter rX6_jarLetter 0 0 5 [some (vR x0), some (vI x1), some (vI (0 : Int32)), some (vI (97 : Int32))] [] σ K) : At G mX6_jarLetter rX6_jarLetter 0 0 0 [some (vR x0), some (vI x1), none, none] [] σ K := by
  refine s_iconst (v := 0) dX6_jarLetter_0 (by decide) ?_
  refine s_istore_n (i := 2) (L' := [some (vR x0), some (vI x1), some (vI (0 : Int32)), none]) dX6_jarLetter_1 rfl rfl (by decide) rfl ?_
  refine s_bipush (v := 97) dX6_jarLetter_2 (by decide) ?_
  refine s_istore_n (i := 3) (L' := [some (vR x0), some (vI x1), some (vI (0 : Int32)), some (vI (97 : Int32))]) dX6_jarLetter_4 rfl rfl (by decide) rfl ?_
  exact h
theorem eX6_jarLetter {G : GG} (gk : GOK G) {σ : Mm} {K : RES → Mm → Prop} {x0 : Option Nat} {x1 : Int32}
    (h : At G mX6_jarLetter rX6_jarLetter 0 0 5 [some (vR x0), some (vI x1), some (vI (0 : Int32)), some (vI (97 : Int32))] [] σ K) : Runs G mX6_jarLetter rX6_jarLetter [(vR x0), (vI x1)] σ K := Runs.of (by decide) rfl (Nat.le_of_ble_eq_true rfl) (vX6_jarLetter_0 gk h)
theorem vX6_jarLetter_5 {G : GG} (gk : GOK G) {σ : Mm} {K : RES → Mm → Prop} {x0 : Option Nat} {x1 : Int32} {x2 : Int32} {x3 : Int32}
    (h : (((122 : Int32) < x3 → K (.inl (some (vI (32 : Int32)))) σ) ∧ (¬ (122 : Int32) < x3 → ∃ a2, x0 = some a2 ∧ (mt σ a2).1 = 7 ∧ Runs G mX6_findJar rX6_findJar [(vR x0), (vI x3)] σ (bk G mX6_jarLetter rX6_jarLetter 0 0 16 [some (vR x0), some (vI x1), some (vI x2), some (vI x3)] [] K)))) : At G mX6_jarLetter rX6_jarLetter 0 0 5 [some (vR x0), some (vI x1), some (vI x2), some (vI x3)] [] σ K := by
  refine s_iload_n (i := 3) dX6_jarLetter_5 rfl rfl ?_
  refine s_bipush (v := 122) dX6_jarLetter_6 (by decide) ?_
  refine s_icmp_gt (tgt := 37) dX6_jarLetter_8 (by decide) (fun q1 => ?_) (fun q1 => ?_)
  · have h := h.1 q1
    refine s_bipush (v := 32) dX6_jarLetter_37 (by decide) ?_
    exact s_ireturn dX6_jarLetter_39 rfl rfl (by decide) (by decide) h
  · have h := h.2 q1
    refine s_aload_n (i := 0) dX6_jarLetter_11 rfl rfl ?_
    refine s_iload_n (i := 3) dX6_jarLetter_12 rfl rfl ?_
    obtain ⟨a2, ea2, h⟩ := h
    obtain ⟨t3, h⟩ := h
    exact t_callV (ci := 6) (as := [(vI x3)]) (S := []) gk dX6_jarLetter_13 gX6_75 (by decide) rfl w_383 w_384 ea2 t3 rfl rfl (Nat.le_of_ble_eq_true rfl) (by decide) h
theorem vX6_jarLetter_16 {G : GG} (gk : GOK G) {σ : Mm} {K : RES → Mm → Prop} {x0 : Option Nat} {x1 : Int32} {x2 : Int32} {x3 : Int32} {s0 : Option Nat}
    (h : ((s0 = none → At G mX6_jarLetter rX6_jarLetter 0 0 5 [some (vR x0), some (vI x1), some (vI x2), some (vI (i2c (x3 + (1 : Int32))))] [] σ K) ∧ (∀ a2, s0 = some a2 → ((¬ x2 = x1 → At G mX6_jarLetter rX6_jarLetter 0 0 5 [some (vR x0), some (vI x1), some (vI (x2 + 1)), some (vI (i2c (x3 + (1 : Int32))))] [] σ K) ∧ (x2 = x1 → isC x3 ∧ K (.inl (some (vI x3))) σ))))) : At G mX6_jarLetter rX6_jarLetter 0 0 16 [some (vR x0), some (vI x1), some (vI x2), some (vI x3)] [(vR s0)] σ K := by
  refine s_ifnull (tgt := 29) dX6_jarLetter_16 (by decide) (fun q1 => ?_) (fun a2 ea2 => ?_)
  · have h := h.1 q1
    refine s_iload_n (i := 3) dX6_jarLetter_29 rfl rfl ?_
    refine s_iconst (v := 1) dX6_jarLetter_30 (by decide) ?_
    refine s_iadd dX6_jarLetter_31 ?_
    refine s_i2c (v := i2c (x3 + (1 : Int32))) dX6_jarLetter_32 rfl ?_
    refine s_istore_n (i := 3) (L' := [some (vR x0), some (vI x1), some (vI x2), some (vI (i2c (x3 + (1 : Int32))))]) dX6_jarLetter_33 rfl rfl (by decide) rfl ?_
    refine s_goto (tgt := 5) dX6_jarLetter_34 (by decide) ?_
    exact h
  · have h := h.2 a2 ea2
    refine s_iload_n (i := 2) dX6_jarLetter_19 rfl rfl ?_
    refine s_iload_n (i := 1) dX6_jarLetter_20 rfl rfl ?_
    refine s_icmp_ne (tgt := 26) dX6_jarLetter_21 (by decide) (fun q3 => ?_) (fun q3 => ?_)
    · have h := h.1 q3
      refine s_iinc (v := x2 + 1) (L' := [some (vR x0), some (vI x1), some (vI (x2 + 1)), some (vI x3)]) dX6_jarLetter_26 rfl rfl rfl (by decide) rfl ?_
      refine s_iload_n (i := 3) dX6_jarLetter_29 rfl rfl ?_
      refine s_iconst (v := 1) dX6_jarLetter_30 (by decide) ?_
      refine s_iadd dX6_jarLetter_31 ?_
      refine s_i2c (v := i2c (x3 + (1 : Int32))) dX6_jarLetter_32 rfl ?_
      refine s_istore_n (i := 3) (L' := [some (vR x0), some (vI x1), some (vI (x2 + 1)), some (vI (i2c (x3 + (1 : Int32))))]) dX6_jarLetter_33 rfl rfl (by decide) rfl ?_
      refine s_goto (tgt := 5) dX6_jarLetter_34 (by decide) ?_
      exact h
    · have h := h.2 q3
      refine s_iload_n (i := 3) dX6_jarLetter_24 rfl rfl ?_
      obtain ⟨c4, h⟩ := h
      exact s_ireturn dX6_jarLetter_25 rfl (nf_c c4).1 (by decide) (by decide) h
theorem vX6_putJar_0 {G : GG} (gk : GOK G) {σ : Mm} {K : RES → Mm → Prop} {x0 : Option Nat} {x1 : Int32} {x2 : Int32}
    (h : ∃ a1, x0 = some a1 ∧ (mt σ a1).1 = 7 ∧ Runs G mX6_jarRow rX6_jarRow [(vR x0), (vI x1)] σ (bk G mX6_putJar rX6_putJar 0 0 5 [some (vR x0), some (vI x1), some (vI x2), none] [] K)) : At G mX6_putJar rX6_putJar 0 0 0 [some (vR x0), some (vI x1), some (vI x2), none] [] σ K := by
  refine s_aload_n (i := 0) dX6_putJar_0 rfl rfl ?_
  refine s_iload_n (i := 1) dX6_putJar_1 rfl rfl ?_
  obtain ⟨a1, ea1, h⟩ := h
  obtain ⟨t2, h⟩ := h
  exact t_callV (ci := 6) (as := [(vI x1)]) (S := []) gk dX6_putJar_2 gX6_61 (by decide) rfl w_387 w_388 ea1 t2 rfl rfl (Nat.le_of_ble_eq_true rfl) (by decide) h
theorem eX6_putJar {G : GG} (gk : GOK G) {σ : Mm} {K : RES → Mm → Prop} {x0 : Option Nat} {x1 : Int32} {x2 : Int32}
    (h : ∃ a1, x0 = some a1 ∧ (mt σ a1).1 = 7 ∧ Runs G mX6_jarRow rX6_jarRow [(vR x0), (vI x1)] σ (bk G mX6_putJar rX6_putJar 0 0 5 [some (vR x0), some (vI x1), some (vI x2), none] [] K)) : Runs G mX6_putJar rX6_putJar [(vR x0), (vI x1), (vI x2)] σ K := Runs.of (by decide) rfl (Nat.le_of_ble_eq_true rfl) (vX6_putJar_0 gk h)
theorem vX6_putJar_5 {G : GG} (gk : GOK G) {σ : Mm} {K : RES → Mm → Prop} {x0 : Option Nat} {x1 : Int32} {x2 : Int32} {s0 : Option Nat}
    (h : ((s0 = none → ∃ a2, x0 = some a2 ∧ (mt σ a2).1 = 7 ∧ Runs G mX6_countJars rX6_countJars [(vR x0)] σ (bk G mX6_putJar rX6_putJar 0 0 43 [some (vR x0), some (vI x1), some (vI x2), some (vR s0)] [] K)) ∧ (∀ a4, s0 = some a4 → (mt σ a4).1 = 5 ∧ ∀ σ6, σ6 = si σ a4 0 (1 : Int32) → ∀ σ7, σ7 = si σ6 a4 2 (0 : Int32) → ∃ a8, x0 = some a8 ∧ (mt σ a8).1 = 7 ∧ Runs G mX4_speak rX4_speak [(vR s0), (vI x2), (vI (mi σ7 a8 4))] σ7 (bk G mX6_putJar rX6_putJar 0 0 29 [some (vR x0), some (vI x1), some (vI x2), some (vR s0)] [] K)))) : At G mX6_putJar rX6_putJar 0 0 5 [some (vR x0), some (vI x1), some (vI x2), none] [(vR s0)] σ K := by
  refine s_astore_n (i := 3) (L' := [some (vR x0), some (vI x1), some (vI x2), some (vR s0)]) dX6_putJar_5 rfl rfl (by decide) rfl ?_
  refine s_aload_n (i := 3) dX6_putJar_6 rfl rfl ?_
  refine s_ifnull (tgt := 39) dX6_putJar_7 (by decide) (fun q1 => ?_) (fun a4 ea4 => ?_)
  · have h := h.1 q1
    refine s_aload_n (i := 0) dX6_putJar_39 rfl rfl ?_
    obtain ⟨a2, ea2, h⟩ := h
    obtain ⟨t3, h⟩ := h
    exact t_callV (ci := 6) (as := []) (S := []) gk dX6_putJar_40 gX6_71 (by decide) rfl w_379 w_380 ea2 t3 rfl rfl (Nat.le_of_ble_eq_true rfl) (by decide) h
  · have h := h.2 a4 ea4
    refine s_aload_n (i := 3) dX6_putJar_10 rfl rfl ?_
    refine s_iconst (v := 1) dX6_putJar_11 (by decide) ?_
    obtain ⟨t5, h⟩ := h
    refine t_putI gk dX6_putJar_12 fX6_65 rfl rfl ea4 t5 ⟨rfl, rfl⟩ (fun σ6 eσ6 mσ6 => ?_)
    replace h := h σ6 eσ6
    refine s_aload_n (i := 3) dX6_putJar_15 rfl rfl ?_
    refine s_iconst (v := 0) dX6_putJar_16 (by decide) ?_
    refine t_putI gk dX6_putJar_17 fX6_96 rfl rfl ea4 (by rw [mσ6]; exact t5) ⟨rfl, rfl⟩ (fun σ7 eσ7 mσ7 => ?_)
    replace h := h σ7 eσ7
    refine s_aload_n (i := 3) dX6_putJar_20 rfl rfl ?_
    refine s_iload_n (i := 2) dX6_putJar_21 rfl rfl ?_
    refine s_aload_n (i := 0) dX6_putJar_22 rfl rfl ?_
    obtain ⟨a8, ea8, h⟩ := h
    obtain ⟨t9, h⟩ := h
    refine t_getI gk dX6_putJar_23 fX6_33 rfl ea8 (by rw [mσ7, mσ6]; exact t9) ?_
    exact t_callV (ci := 4) (as := [(vI x2), (vI (mi σ7 a8 4))]) (S := []) gk dX6_putJar_26 gX6_99 (by decide) rfl w_556 w_557 ea4 (by rw [mσ7, mσ6]; exact t5) rfl rfl (Nat.le_of_ble_eq_true rfl) (by decide) h
theorem vX6_putJar_29 {G : GG} (gk : GOK G) {σ : Mm} {K : RES → Mm → Prop} {x0 : Option Nat} {x1 : Int32} {x2 : Int32} {x3 : Option Nat}
    (h : ∃ a1, x0 = some a1 ∧ (mt σ a1).1 = 7 ∧ ∀ σ3, σ3 = si σ a1 4 ((mi σ a1 4) + (1 : Int32)) → Runs G mX6_countJars rX6_countJars [(vR x0)] σ3 (bk G mX6_putJar rX6_putJar 0 0 43 [some (vR x0), some (vI x1), some (vI x2), some (vR x3)] [] K)) : At G mX6_putJar rX6_putJar 0 0 29 [some (vR x0), some (vI x1), some (vI x2), some (vR x3)] [] σ K := by
  refine s_aload_n (i := 0) dX6_putJar_29 rfl rfl ?_
  refine s_dup dX6_putJar_30 rfl ?_
  obtain ⟨a1, ea1, h⟩ := h
  obtain ⟨t2, h⟩ := h
  refine t_getI gk dX6_putJar_31 fX6_33 rfl ea1 t2 ?_
  refine s_iconst (v := 1) dX6_putJar_34 (by decide) ?_
  refine s_iadd dX6_putJar_35 ?_
  refine t_putI gk dX6_putJar_36 fX6_33 rfl rfl ea1 t2 ⟨rfl, rfl⟩ (fun σ3 eσ3 mσ3 => ?_)
  replace h := h σ3 eσ3
  refine s_aload_n (i := 0) dX6_putJar_39 rfl rfl ?_
  exact t_callV (ci := 6) (as := []) (S := []) gk dX6_putJar_40 gX6_71 (by decide) rfl w_379 w_380 ea1 (by rw [mσ3]; exact t2) rfl rfl (Nat.le_of_ble_eq_true rfl) (by decide) h
theorem vX6_putJar_43 {G : GG} (gk : GOK G) {σ : Mm} {K : RES → Mm → Prop} {x0 : Option Nat} {x1 : Int32} {x2 : Int32} {x3 : Option Nat} {s0 : Int32}
    (h : K (.inl (some (vI s0))) σ) : At G mX6_putJar rX6_putJar 0 0 43 [some (vR x0), some (vI x1), some (vI x2), some (vR x3)] [(vI s0)] σ K := by
  exact s_ireturn dX6_putJar_43 rfl rfl (by decide) (by decide) h
theorem vX6_dropJar_0 {G : GG} (gk : GOK G) {σ : Mm} {K : RES → Mm → Prop} {x0 : Option Nat} {x1 : Int32}
    (h : ∃ a1, x0 = some a1 ∧ (mt σ a1).1 = 7 ∧ Runs G mX6_findJar rX6_findJar [(vR x0), (vI x1)] σ (bk G mX6_dropJar rX6_dropJar 0 0 5 [some (vR x0), some (vI x1), none, none, none, none, none, none] [] K)) : At G mX6_dropJar rX6_dropJar 0 0 0 [some (vR x0), some (vI x1), none, none, none, none, none, none] [] σ K := by
  refine s_aload_n (i := 0) dX6_dropJar_0 rfl rfl ?_
  refine s_iload_n (i := 1) dX6_dropJar_1 rfl rfl ?_
  obtain ⟨a1, ea1, h⟩ := h
  obtain ⟨t2, h⟩ := h
  exact t_callV (ci := 6) (as := [(vI x1)]) (S := []) gk dX6_dropJar_2 gX6_75 (by decide) rfl w_383 w_384 ea1 t2 rfl rfl (Nat.le_of_ble_eq_true rfl) (by decide) h
theorem eX6_dropJar {G : GG} (gk : GOK G) {σ : Mm} {K : RES → Mm → Prop} {x0 : Option Nat} {x1 : Int32}
    (h : ∃ a1, x0 = some a1 ∧ (mt σ a1).1 = 7 ∧ Runs G mX6_findJar rX6_findJar [(vR x0), (vI x1)] σ (bk G mX6_dropJar rX6_dropJar 0 0 5 [some (vR x0), some (vI x1), none, none, none, none, none, none] [] K)) : Runs G mX6_dropJar rX6_dropJar [(vR x0), (vI x1)] σ K := Runs.of (by decide) rfl (Nat.le_of_ble_eq_true rfl) (vX6_dropJar_0 gk h)
theorem vX6_dropJar_5 {G : GG} (gk : GOK G) {σ : Mm} {K : RES → Mm → Prop} {x0 : Option Nat} {x1 : Int32} {s0 : Option Nat}
    (h : ((s0 = none → ∃ a2, x0 = some a2 ∧ (mt σ a2).1 = 7 ∧ ∃ a4, mr σ a2 1 = some a4 ∧ ∃ n6, mt σ a4 = (56, n6) ∧ At G mX6_dropJar rX6_dropJar 0 0 31 [some (vR x0), some (vI x1), some (vR s0), some (vI (0 : Int32)), some (vR (mr σ a2 1)), some (vI (nI n6)), some (vI (0 : Int32)), none] [] σ K) ∧ (∀ a7, s0 = some a7 → (mt σ a7).1 = 5 ∧ ∀ σ9, σ9 = si σ a7 0 (0 : Int32) → ∃ a10, x0 = some a10 ∧ (mt σ a10).1 = 7 ∧ ∃ a12, mr σ9 a10 1 = some a12 ∧ ∃ n14, mt σ a12 = (56, n14) ∧ At G mX6_dropJar rX6_dropJar 0 0 31 [some (vR x0), some (vI x1), some (vR s0), some (vI (0 : Int32)), some (vR (mr σ9 a10 1)), some (vI (nI n14)), some (vI (0 : Int32)), none] [] σ9 K))) : At G mX6_dropJar rX6_dropJar 0 0 5 [some (vR x0), some (vI x1), none, none, none, none, none, none] [(vR s0)] σ K := by
  refine s_astore_n (i := 2) (L' := [some (vR x0), some (vI x1), some (vR s0), none, none, none, none, none]) dX6_dropJar_5 rfl rfl (by decide) rfl ?_
  refine s_aload_n (i := 2) dX6_dropJar_6 rfl rfl ?_
  refine s_ifnull (tgt := 15) dX6_dropJar_7 (by decide) (fun q1 => ?_) (fun a7 ea7 => ?_)
  · have h := h.1 q1
    refine s_iconst (v := 0) dX6_dropJar_15 (by decide) ?_
    refine s_istore_n (i := 3) (L' := [some (vR x0), some (vI x1), some (vR s0), some (vI (0 : Int32)), none, none, none, none]) dX6_dropJar_16 rfl rfl (by decide) rfl ?_
    refine s_aload_n (i := 0) dX6_dropJar_17 rfl rfl ?_
    obtain ⟨a2, ea2, h⟩ := h
    obtain ⟨t3, h⟩ := h
    refine t_getR gk dX6_dropJar_18 fX6_19 rfl ea2 t3 ?_
    refine s_astore (L' := [some (vR x0), some (vI x1), some (vR s0), some (vI (0 : Int32)), some (vR (mr σ a2 1)), none, none, none]) dX6_dropJar_21 rfl (by decide) rfl ?_
    refine s_aload dX6_dropJar_23 rfl ?_
    obtain ⟨a4, ea4, h⟩ := h
    obtain ⟨n6, t5, h⟩ := h
    refine t_alen (j := 6) gk dX6_dropJar_25 (by decide) ea4 t5 ?_
    refine s_istore (L' := [some (vR x0), some (vI x1), some (vR s0), some (vI (0 : Int32)), some (vR (mr σ a2 1)), some (vI (nI n6)), none, none]) dX6_dropJar_26 rfl (by decide) rfl ?_
    refine s_iconst (v := 0) dX6_dropJar_28 (by decide) ?_
    refine s_istore (L' := [some (vR x0), some (vI x1), some (vR s0), some (vI (0 : Int32)), some (vR (mr σ a2 1)), some (vI (nI n6)), some (vI (0 : Int32)), none]) dX6_dropJar_29 rfl (by decide) rfl ?_
    exact h
  · have h := h.2 a7 ea7
    refine s_aload_n (i := 2) dX6_dropJar_10 rfl rfl ?_
    refine s_iconst (v := 0) dX6_dropJar_11 (by decide) ?_
    obtain ⟨t8, h⟩ := h
    refine t_putI gk dX6_dropJar_12 fX6_65 rfl rfl ea7 t8 ⟨rfl, rfl⟩ (fun σ9 eσ9 mσ9 => ?_)
    replace h := h σ9 eσ9
    refine s_iconst (v := 0) dX6_dropJar_15 (by decide) ?_
    refine s_istore_n (i := 3) (L' := [some (vR x0), some (vI x1), some (vR s0), some (vI (0 : Int32)), none, none, none, none]) dX6_dropJar_16 rfl rfl (by decide) rfl ?_
    refine s_aload_n (i := 0) dX6_dropJar_17 rfl rfl ?_
    obtain ⟨a10, ea10, h⟩ := h
    obtain ⟨t11, h⟩ := h
    refine t_getR gk dX6_dropJar_18 fX6_19 rfl ea10 (by rw [mσ9]; exact t11) ?_
    refine s_astore (L' := [some (vR x0), some (vI x1), some (vR s0), some (vI (0 : Int32)), some (vR (mr σ9 a10 1)), none, none, none]) dX6_dropJar_21 rfl (by decide) rfl ?_
    refine s_aload dX6_dropJar_23 rfl ?_
    obtain ⟨a12, ea12, h⟩ := h
    obtain ⟨n14, t13, h⟩ := h
    refine t_alen (j := 6) gk dX6_dropJar_25 (by decide) ea12 (by rw [mσ9]; exact t13) ?_
    refine s_istore (L' := [some (vR x0), some (vI x1), some (vR s0), some (vI (0 : Int32)), some (vR (mr σ9 a10 1)), some (vI (nI n14)), none, none]) dX6_dropJar_26 rfl (by decide) rfl ?_
    refine s_iconst (v := 0) dX6_dropJar_28 (by decide) ?_
    refine s_istore (L' := [some (vR x0), some (vI x1), some (vR s0), some (vI (0 : Int32)), some (vR (mr σ9 a10 1)), some (vI (nI n14)), some (vI (0 : Int32)), none]) dX6_dropJar_29 rfl (by decide) rfl ?_
    exact h
theorem vX6_dropJar_31 {G : GG} (gk : GOK G) {σ : Mm} {K : RES → Mm → Prop} {x0 : Option Nat} {x1 : Int32} {x2 : Option Nat} {x3 : Int32} {x4 : Option Nat} {x5 : Int32} {x6 : Int32}
    (h : ((x5 ≤ x6 → K (.inl (some (vI x3))) σ) ∧ (¬ x5 ≤ x6 → ∃ a2, x4 = some a2 ∧ ∃ n4, mt σ a2 = (56, n4) ∧ vp_in x6 n4 ∧ ∃ a6, mr σ a2 x6.toNatClampNeg = some a6 ∧ (mt σ a6).1 = 6 ∧ Runs G mX5_find rX5_find [(vR (mr σ a2 x6.toNatClampNeg)), (vI x1)] σ (bk G mX6_dropJar rX6_dropJar 0 0 53 [some (vR x0), some (vI x1), some (vR x2), some (vI x3), some (vR x4), some (vI x5), some (vI x6), some (vR (mr σ a2 x6.toNatClampNeg))] [(vR (mr σ a2 x6.toNatClampNeg))] K)))) : At G mX6_dropJar rX6_dropJar 0 0 31 [some (vR x0), some (vI x1), some (vR x2), some (vI x3), some (vR x4), some (vI x5), some (vI x6), none] [] σ K := by
  refine s_iload dX6_dropJar_31 rfl ?_
  refine s_iload dX6_dropJar_33 rfl ?_
  refine s_icmp_ge (tgt := 68) dX6_dropJar_35 (by decide) (fun q1 => ?_) (fun q1 => ?_)
  · have h := h.1 q1
    refine s_iload_n (i := 3) dX6_dropJar_68 rfl rfl ?_
    exact s_ireturn dX6_dropJar_69 rfl rfl (by decide) (by decide) h
  · have h := h.2 q1
    refine s_aload dX6_dropJar_38 rfl ?_
    refine s_iload dX6_dropJar_40 rfl ?_
    obtain ⟨a2, ea2, h⟩ := h
    obtain ⟨n4, t3, h⟩ := h
    obtain ⟨c5, h⟩ := h
    refine t_aald (j := 6) gk dX6_dropJar_42 (by decide) (by decide) ea2 t3 c5 ?_
    refine s_astore (L' := [some (vR x0), some (vI x1), some (vR x2), some (vI x3), some (vR x4), some (vI x5), some (vI x6), some (vR (mr σ a2 x6.toNatClampNeg))]) dX6_dropJar_43 rfl (by decide) rfl ?_
    refine s_aload dX6_dropJar_45 rfl ?_
    refine s_aload dX6_dropJar_47 rfl ?_
    refine s_iload_n (i := 1) dX6_dropJar_49 rfl rfl ?_
    obtain ⟨a6, ea6, h⟩ := h
    obtain ⟨t7, h⟩ := h
    exact t_callV (ci := 5) (as := [(vI x1)]) (S := [(vR (mr σ a2 x6.toNatClampNeg))]) gk dX6_dropJar_50 gX6_103 (by decide) rfl w_668 w_669 ea6 t7 rfl rfl (Nat.le_of_ble_eq_true rfl) (by decide) h
theorem vX6_dropJar_53 {G : GG} (gk : GOK G) {σ : Mm} {K : RES → Mm → Prop} {x0 : Option Nat} {x1 : Int32} {x2 : Option Nat} {x3 : Int32} {x4 : Option Nat} {x5 : Int32} {x6 : Int32} {x7 : Option Nat} {s0 : Option Nat} {s1 : Option Nat}
    (h : ∃ a1, s1 = some a1 ∧ (mt σ a1).1 = 6 ∧ Runs G mX5_remove rX5_remove [(vR s1), (vR s0)] σ (bk G mX6_dropJar rX6_dropJar 0 0 56 [some (vR x0), some (vI x1), some (vR x2), some (vI x3), some (vR x4), some (vI x5), some (vI x6), some (vR x7)] [] K)) : At G mX6_dropJar rX6_dropJar 0 0 53 [some (vR x0), some (vI x1), some (vR x2), some (vI x3), some (vR x4), some (vI x5), some (vI x6), some (vR x7)] [(vR s0), (vR s1)] σ K := by
  obtain ⟨a1, ea1, h⟩ := h
  obtain ⟨t2, h⟩ := h
  exact t_callV (ci := 5) (as := [(vR s0)]) (S := []) gk dX6_dropJar_53 gX6_107 (by decide) rfl w_1416 w_1417 ea1 t2 rfl rfl (Nat.le_of_ble_eq_true rfl) (by decide) h
theorem vX6_dropJar_56 {G : GG} (gk : GOK G) {σ : Mm} {K : RES → Mm → Prop} {x0 : Option Nat} {x1 : Int32} {x2 : Option Nat} {x3 : Int32} {x4 : Option Nat} {x5 : Int32} {x6 : Int32} {x7 : Option Nat} {s0 : Int32}
    (h : ((s0 = 0 → At G mX6_dropJar rX6_dropJar 0 0 31 [some (vR x0), some (vI x1), some (vR x2), some (vI x3), some (vR x4), some (vI x5), some (vI (x6 + 1)), none] [] σ K) ∧ (¬ s0 = 0 → At G mX6_dropJar rX6_dropJar 0 0 31 [some (vR x0), some (vI x1), some (vR x2), some (vI (x3 + 1)), some (vR x4), some (vI x5), some (vI (x6 + 1)), none] [] σ K))) : At G mX6_dropJar rX6_dropJar 0 0 56 [some (vR x0), some (vI x1), some (vR x2), some (vI x3), some (vR x4), some (vI x5), some (vI x6), some (vR x7)] [(vI s0)] σ K := by
  refine s_if_eq (tgt := 62) dX6_dropJar_56 (by decide) (fun q1 => ?_) (fun q1 => ?_)
  · have h := h.1 q1
    refine s_iinc (v := x6 + 1) (L' := [some (vR x0), some (vI x1), some (vR x2), some (vI x3), some (vR x4), some (vI x5), some (vI (x6 + 1)), some (vR x7)]) dX6_dropJar_62 rfl rfl rfl (by decide) rfl ?_
    refine s_goto (tgt := 31) dX6_dropJar_65 (by decide) ?_
    exact h.msk ⟨rfl, ⟨rfl, ⟨rfl, ⟨rfl, ⟨rfl, ⟨rfl, ⟨rfl, trivial⟩⟩⟩⟩⟩⟩⟩
  · have h := h.2 q1
    refine s_iinc (v := x3 + 1) (L' := [some (vR x0), some (vI x1), some (vR x2), some (vI (x3 + 1)), some (vR x4), some (vI x5), some (vI x6), some (vR x7)]) dX6_dropJar_59 rfl rfl rfl (by decide) rfl ?_
    refine s_iinc (v := x6 + 1) (L' := [some (vR x0), some (vI x1), some (vR x2), some (vI (x3 + 1)), some (vR x4), some (vI x5), some (vI (x6 + 1)), some (vR x7)]) dX6_dropJar_62 rfl rfl rfl (by decide) rfl ?_
    refine s_goto (tgt := 31) dX6_dropJar_65 (by decide) ?_
    exact h.msk ⟨rfl, ⟨rfl, ⟨rfl, ⟨rfl, ⟨rfl, ⟨rfl, ⟨rfl, trivial⟩⟩⟩⟩⟩⟩⟩
theorem vX6_speak_0 {G : GG} (gk : GOK G) {σ : Mm} {K : RES → Mm → Prop} {x0 : Option Nat} {x1 : Int32} {x2 : Int32}
    (h : ∃ a1, x0 = some a1 ∧ (mt σ a1).1 = 7 ∧ Runs G mX6_findJar rX6_findJar [(vR x0), (vI x1)] σ (bk G mX6_speak rX6_speak 0 0 5 [some (vR x0), some (vI x1), some (vI x2), none, none, none, none, none, none] [] K)) : At G mX6_speak rX6_speak 0 0 0 [some (vR x0), some (vI x1), some (vI x2), none, none, none, none, none, none] [] σ K := by
  refine s_aload_n (i := 0) dX6_speak_0 rfl rfl ?_
  refine s_iload_n (i := 1) dX6_speak_1 rfl rfl ?_
  obtain ⟨a1, ea1, h⟩ := h
  obtain ⟨t2, h⟩ := h
  exact t_callV (ci := 6) (as := [(vI x1)]) (S := []) gk dX6_speak_2 gX6_75 (by decide) rfl w_383 w_384 ea1 t2 rfl rfl (Nat.le_of_ble_eq_true rfl) (by decide) h
theorem eX6_speak {G : GG} (gk : GOK G) {σ : Mm} {K : RES → Mm → Prop} {x0 : Option Nat} {x1 : Int32} {x2 : Int32}
    (h : ∃ a1, x0 = some a1 ∧ (mt σ a1).1 = 7 ∧ Runs G mX6_findJar rX6_findJar [(vR x0), (vI x1)] σ (bk G mX6_speak rX6_speak 0 0 5 [some (vR x0), some (vI x1), some (vI x2), none, none, none, none, none, none] [] K)) : Runs G mX6_speak rX6_speak [(vR x0), (vI x1), (vI x2)] σ K := Runs.of (by decide) rfl (Nat.le_of_ble_eq_true rfl) (vX6_speak_0 gk h)
theorem vX6_speak_5 {G : GG} (gk : GOK G) {σ : Mm} {K : RES → Mm → Prop} {x0 : Option Nat} {x1 : Int32} {x2 : Int32} {s0 : Option Nat}
    (h : ((s0 = none → K (.inl (some (vI (0 : Int32)))) σ) ∧ (∀ a2, s0 = some a2 → ∃ a3, x0 = some a3 ∧ (mt σ a3).1 = 7 ∧ (mt σ a2).1 = 5 ∧ Runs G mX4_speak rX4_speak [(vR s0), (vI x2), (vI (mi σ a3 4))] σ (bk G mX6_speak rX6_speak 0 0 21 [some (vR x0), some (vI x1), some (vI x2), some (vR s0), none, none, none, none, none] [] K)))) : At G mX6_speak rX6_speak 0 0 5 [some (vR x0), some (vI x1), some (vI x2), none, none, none, none, none, none] [(vR s0)] σ K := by
  refine s_astore_n (i := 3) (L' := [some (vR x0), some (vI x1), some (vI x2), some (vR s0), none, none, none, none, none]) dX6_speak_5 rfl rfl (by decide) rfl ?_
  refine s_aload_n (i := 3) dX6_speak_6 rfl rfl ?_
  refine s_ifnonnull (tgt := 12) dX6_speak_7 (by decide) (fun a2 ea2 => ?_) (fun q1 => ?_)
  · have h := h.2 a2 ea2
    refine s_aload_n (i := 3) dX6_speak_12 rfl rfl ?_
    refine s_iload_n (i := 2) dX6_speak_13 rfl rfl ?_
    refine s_aload_n (i := 0) dX6_speak_14 rfl rfl ?_
    obtain ⟨a3, ea3, h⟩ := h
    obtain ⟨t4, h⟩ := h
    refine t_getI gk dX6_speak_15 fX6_33 rfl ea3 t4 ?_
    obtain ⟨t5, h⟩ := h
    exact t_callV (ci := 4) (as := [(vI x2), (vI (mi σ a3 4))]) (S := []) gk dX6_speak_18 gX6_99 (by decide) rfl w_556 w_557 ea2 t5 rfl rfl (Nat.le_of_ble_eq_true rfl) (by decide) h
  · have h := h.1 q1
    refine s_iconst (v := 0) dX6_speak_10 (by decide) ?_
    exact s_ireturn dX6_speak_11 rfl rfl (by decide) (by decide) h
theorem vX6_speak_21 {G : GG} (gk : GOK G) {σ : Mm} {K : RES → Mm → Prop} {x0 : Option Nat} {x1 : Int32} {x2 : Int32} {x3 : Option Nat}
    (h : ∃ a1, x0 = some a1 ∧ (mt σ a1).1 = 7 ∧ ∀ σ3, σ3 = si σ a1 4 ((mi σ a1 4) + (1 : Int32)) → ∃ a4, mr σ3 a1 1 = some a4 ∧ ∃ n6, mt σ a4 = (56, n6) ∧ At G mX6_speak rX6_speak 0 0 48 [some (vR x0), some (vI x1), some (vI x2), some (vR x3), some (vI (0 : Int32)), some (vR (mr σ3 a1 1)), some (vI (nI n6)), some (vI (0 : Int32)), none] [] σ3 K) : At G mX6_speak rX6_speak 0 0 21 [some (vR x0), some (vI x1), some (vI x2), some (vR x3), none, none, none, none, none] [] σ K := by
  refine s_aload_n (i := 0) dX6_speak_21 rfl rfl ?_
  refine s_dup dX6_speak_22 rfl ?_
  obtain ⟨a1, ea1, h⟩ := h
  obtain ⟨t2, h⟩ := h
  refine t_getI gk dX6_speak_23 fX6_33 rfl ea1 t2 ?_
  refine s_iconst (v := 1) dX6_speak_26 (by decide) ?_
  refine s_iadd dX6_speak_27 ?_
  refine t_putI gk dX6_speak_28 fX6_33 rfl rfl ea1 t2 ⟨rfl, rfl⟩ (fun σ3 eσ3 mσ3 => ?_)
  replace h := h σ3 eσ3
  refine s_iconst (v := 0) dX6_speak_31 (by decide) ?_
  refine s_istore (L' := [some (vR x0), some (vI x1), some (vI x2), some (vR x3), some (vI (0 : Int32)), none, none, none, none]) dX6_speak_32 rfl (by decide) rfl ?_
  refine s_aload_n (i := 0) dX6_speak_34 rfl rfl ?_
  refine t_getR gk dX6_speak_35 fX6_19 rfl ea1 (by rw [mσ3]; exact t2) ?_
  refine s_astore (L' := [some (vR x0), some (vI x1), some (vI x2), some (vR x3), some (vI (0 : Int32)), some (vR (mr σ3 a1 1)), none, none, none]) dX6_speak_38 rfl (by decide) rfl ?_
  refine s_aload dX6_speak_40 rfl ?_
  obtain ⟨a4, ea4, h⟩ := h
  obtain ⟨n6, t5, h⟩ := h
  refine t_alen (j := 6) gk dX6_speak_42 (by decide) ea4 (by rw [mσ3]; exact t5) ?_
  refine s_istore (L' := [some (vR x0), some (vI x1), some (vI x2), some (vR x3), some (vI (0 : Int32)), some (vR (mr σ3 a1 1)), some (vI (nI n6)), none, none]) dX6_speak_43 rfl (by decide) rfl ?_
  refine s_iconst (v := 0) dX6_speak_45 (by decide) ?_
  refine s_istore (L' := [some (vR x0), some (vI x1), some (vI x2), some (vR x3), some (vI (0 : Int32)), some (vR (mr σ3 a1 1)), some (vI (nI n6)), some (vI (0 : Int32)), none]) dX6_speak_46 rfl (by decide) rfl ?_
  exact h
theorem vX6_speak_48 {G : GG} (gk : GOK G) {σ : Mm} {K : RES → Mm → Prop} {x0 : Option Nat} {x1 : Int32} {x2 : Int32} {x3 : Option Nat} {x4 : Int32} {x5 : Option Nat} {x6 : Int32} {x7 : Int32}
    (h : ((x6 ≤ x7 → K (.inl (some (vI x4))) σ) ∧ (¬ x6 ≤ x7 → ∃ a2, x5 = some a2 ∧ ∃ n4, mt σ a2 = (56, n4) ∧ vp_in x7 n4 ∧ ∃ a6, mr σ a2 x7.toNatClampNeg = some a6 ∧ (mt σ a6).1 = 6 ∧ (((mi σ a6 4) = 0 → At G mX6_speak rX6_speak 0 0 48 [some (vR x0), some (vI x1), some (vI x2), some (vR x3), some (vI x4), some (vR x5), some (vI x6), some (vI (x7 + 1)), none] [] σ K) ∧ (¬ (mi σ a6 4) = 0 → Runs G mX5_openLid rX5_openLid [(vR (mr σ a2 x7.toNatClampNeg)), (vI x1)] σ (bk G mX6_speak rX6_speak 0 0 76 [some (vR x0), some (vI x1), some (vI x2), some (vR x3), some (vI x4), some (vR x5), some (vI x6), some (vI x7), some (vR (mr σ a2 x7.toNatClampNeg))] [] K)))))) : At G mX6_speak rX6_speak 0 0 48 [some (vR x0), some (vI x1), some (vI x2), some (vR x3), some (vI x4), some (vR x5), some (vI x6), some (vI x7), none] [] σ K := by
  refine s_iload dX6_speak_48 rfl ?_
  refine s_iload dX6_speak_50 rfl ?_
  refine s_icmp_ge (tgt := 88) dX6_speak_52 (by decide) (fun q1 => ?_) (fun q1 => ?_)
  · have h := h.1 q1
    refine s_iload dX6_speak_88 rfl ?_
    exact s_ireturn dX6_speak_90 rfl rfl (by decide) (by decide) h
  · have h := h.2 q1
    refine s_aload dX6_speak_55 rfl ?_
    refine s_iload dX6_speak_57 rfl ?_
    obtain ⟨a2, ea2, h⟩ := h
    obtain ⟨n4, t3, h⟩ := h
    obtain ⟨c5, h⟩ := h
    refine t_aald (j := 6) gk dX6_speak_59 (by decide) (by decide) ea2 t3 c5 ?_
    refine s_astore (L' := [some (vR x0), some (vI x1), some (vI x2), some (vR x3), some (vI x4), some (vR x5), some (vI x6), some (vI x7), some (vR (mr σ a2 x7.toNatClampNeg))]) dX6_speak_60 rfl (by decide) rfl ?_
    refine s_aload dX6_speak_62 rfl ?_
    obtain ⟨a6, ea6, h⟩ := h
    obtain ⟨t7, h⟩ := h
    refine t_getI gk dX6_speak_64 fX6_111 rfl ea6 t7 ?_
    refine s_if_eq (tgt := 82) dX6_speak_67 (by decide) (fun q8 => ?_) (fun q8 => ?_)
    · have h := h.1 q8
      refine s_iinc (v := x7 + 1) (L' := [some (vR x0), some (vI x1), some (vI x2), some (vR x3), some (vI x4), some (vR x5), some (vI x6), some (vI (x7 + 1)), some (vR (mr σ a2 x7.toNatClampNeg))]) dX6_speak_82 rfl rfl rfl (by decide) rfl ?_
      refine s_goto (tgt := 48) dX6_speak_85 (by decide) ?_
      exact h.msk ⟨rfl, ⟨rfl, ⟨rfl, ⟨rfl, ⟨rfl, ⟨rfl, ⟨rfl, ⟨rfl, trivial⟩⟩⟩⟩⟩⟩⟩⟩
    · have h := h.2 q8
      refine s_aload dX6_speak_70 rfl ?_
      refine s_iload_n (i := 1) dX6_speak_72 rfl rfl ?_
      exact t_callV (ci := 5) (as := [(vI x1)]) (S := []) gk dX6_speak_73 gX6_114 (by decide) rfl w_736 w_737 ea6 t7 rfl rfl (Nat.le_of_ble_eq_true rfl) (by decide) h
theorem vX6_speak_76 {G : GG} (gk : GOK G) {σ : Mm} {K : RES → Mm → Prop} {x0 : Option Nat} {x1 : Int32} {x2 : Int32} {x3 : Option Nat} {x4 : Int32} {x5 : Option Nat} {x6 : Int32} {x7 : Int32} {x8 : Option Nat} {s0 : Int32}
    (h : ((s0 = 0 → At G mX6_speak rX6_speak 0 0 48 [some (vR x0), some (vI x1), some (vI x2), some (vR x3), some (vI x4), some (vR x5), some (vI x6), some (vI (x7 + 1)), none] [] σ K) ∧ (¬ s0 = 0 → At G mX6_speak rX6_speak 0 0 48 [some (vR x0), some (vI x1), some (vI x2), some (vR x3), some (vI (x4 + 1)), some (vR x5), some (vI x6), some (vI (x7 + 1)), none] [] σ K))) : At G mX6_speak rX6_speak 0 0 76 [some (vR x0), some (vI x1), some (vI x2), some (vR x3), some (vI x4), some (vR x5), some (vI x6), some (vI x7), some (vR x8)] [(vI s0)] σ K := by
  refine s_if_eq (tgt := 82) dX6_speak_76 (by decide) (fun q1 => ?_) (fun q1 => ?_)
  · have h := h.1 q1
    refine s_iinc (v := x7 + 1) (L' := [some (vR x0), some (vI x1), some (vI x2), some (vR x3), some (vI x4), some (vR x5), some (vI x6), some (vI (x7 + 1)), some (vR x8)]) dX6_speak_82 rfl rfl rfl (by decide) rfl ?_
    refine s_goto (tgt := 48) dX6_speak_85 (by decide) ?_
    exact h.msk ⟨rfl, ⟨rfl, ⟨rfl, ⟨rfl, ⟨rfl, ⟨rfl, ⟨rfl, ⟨rfl, trivial⟩⟩⟩⟩⟩⟩⟩⟩
  · have h := h.2 q1
    refine s_iinc (v := x4 + 1) (L' := [some (vR x0), some (vI x1), some (vI x2), some (vR x3), some (vI (x4 + 1)), some (vR x5), some (vI x6), some (vI x7), some (vR x8)]) dX6_speak_79 rfl rfl rfl (by decide) rfl ?_
    refine s_iinc (v := x7 + 1) (L' := [some (vR x0), some (vI x1), some (vI x2), some (vR x3), some (vI (x4 + 1)), some (vR x5), some (vI x6), some (vI (x7 + 1)), some (vR x8)]) dX6_speak_82 rfl rfl rfl (by decide) rfl ?_
    refine s_goto (tgt := 48) dX6_speak_85 (by decide) ?_
    exact h.msk ⟨rfl, ⟨rfl, ⟨rfl, ⟨rfl, ⟨rfl, ⟨rfl, ⟨rfl, ⟨rfl, trivial⟩⟩⟩⟩⟩⟩⟩⟩
theorem vX6_countShelves_0 {G : GG} (gk : GOK G) {σ : Mm} {K : RES → Mm → Prop} {x0 : Option Nat}
    (h : ∃ a1, x0 = some a1 ∧ (mt σ a1).1 = 7 ∧ ∃ a3, mr σ a1 1 = some a3 ∧ ∃ n5, mt σ a3 = (56, n5) ∧ At G mX6_countShelves rX6_countShelves 0 0 13 [some (vR x0), some (vI (0 : Int32)), some (vR (mr σ a1 1)), some (vI (nI n5)), some (vI (0 : Int32)), none] [] σ K) : At G mX6_countShelves rX6_countShelves 0 0 0 [some (vR x0), none, none, none, none, none] [] σ K := by
  refine s_iconst (v := 0) dX6_countShelves_0 (by decide) ?_
  refine s_istore_n (i := 1) (L' := [some (vR x0), some (vI (0 : Int32)), none, none, none, none]) dX6_countShelves_1 rfl rfl (by decide) rfl ?_
  refine s_aload_n (i := 0) dX6_countShelves_2 rfl rfl ?_
  obtain ⟨a1, ea1, h⟩ := h
  obtain ⟨t2, h⟩ := h
  refine t_getR gk dX6_countShelves_3 fX6_19 rfl ea1 t2 ?_
  refine s_astore_n (i := 2) (L' := [some (vR x0), some (vI (0 : Int32)), some (vR (mr σ a1 1)), none, none, none]) dX6_countShelves_6 rfl rfl (by decide) rfl ?_
  refine s_aload_n (i := 2) dX6_countShelves_7 rfl rfl ?_
  obtain ⟨a3, ea3, h⟩ := h
  obtain ⟨n5, t4, h⟩ := h
  refine t_alen (j := 6) gk dX6_countShelves_8 (by decide) ea3 t4 ?_
  refine s_istore_n (i := 3) (L' := [some (vR x0), some (vI (0 : Int32)), some (vR (mr σ a1 1)), some (vI (nI n5)), none, none]) dX6_countShelves_9 rfl rfl (by decide) rfl ?_
  refine s_iconst (v := 0) dX6_countShelves_10 (by decide) ?_
  refine s_istore (L' := [some (vR x0), some (vI (0 : Int32)), some (vR (mr σ a1 1)), some (vI (nI n5)), some (vI (0 : Int32)), none]) dX6_countShelves_11 rfl (by decide) rfl ?_
  exact h
theorem eX6_countShelves {G : GG} (gk : GOK G) {σ : Mm} {K : RES → Mm → Prop} {x0 : Option Nat}
    (h : ∃ a1, x0 = some a1 ∧ (mt σ a1).1 = 7 ∧ ∃ a3, mr σ a1 1 = some a3 ∧ ∃ n5, mt σ a3 = (56, n5) ∧ At G mX6_countShelves rX6_countShelves 0 0 13 [some (vR x0), some (vI (0 : Int32)), some (vR (mr σ a1 1)), some (vI (nI n5)), some (vI (0 : Int32)), none] [] σ K) : Runs G mX6_countShelves rX6_countShelves [(vR x0)] σ K := Runs.of (by decide) rfl (Nat.le_of_ble_eq_true rfl) (vX6_countShelves_0 gk h)
theorem vX6_countShelves_13 {G : GG} (gk : GOK G) {σ : Mm} {K : RES → Mm → Prop} {x0 : Option Nat} {x1 : Int32} {x2 : Option Nat} {x3 : Int32} {x4 : Int32}
    (h : ((x3 ≤ x4 → K (.inl (some (vI x1))) σ) ∧ (¬ x3 ≤ x4 → ∃ a2, x2 = some a2 ∧ ∃ n4, mt σ a2 = (56, n4) ∧ vp_in x4 n4 ∧ ∃ a6, mr σ a2 x4.toNatClampNeg = some a6 ∧ (mt σ a6).1 = 6 ∧ (((mi σ a6 0) = 0 → At G mX6_countShelves rX6_countShelves 0 0 13 [some (vR x0), some (vI x1), some (vR x2), some (vI x3), some (vI (x4 + 1)), none] [] σ K) ∧ (¬ (mi σ a6 0) = 0 → At G mX6_countShelves rX6_countShelves 0 0 13 [some (vR x0), some (vI (x1 + 1)), some (vR x2), some (vI x3), some (vI (x4 + 1)), none] [] σ K))))) : At G mX6_countShelves rX6_countShelves 0 0 13 [some (vR x0), some (vI x1), some (vR x2), some (vI x3), some (vI x4), none] [] σ K := by
  refine s_iload dX6_countShelves_13 rfl ?_
  refine s_iload_n (i := 3) dX6_countShelves_15 rfl rfl ?_
  refine s_icmp_ge (tgt := 42) dX6_countShelves_16 (by decide) (fun q1 => ?_) (fun q1 => ?_)
  · have h := h.1 q1
    refine s_iload_n (i := 1) dX6_countShelves_42 rfl rfl ?_
    exact s_ireturn dX6_countShelves_43 rfl rfl (by decide) (by decide) h
  · have h := h.2 q1
    refine s_aload_n (i := 2) dX6_countShelves_19 rfl rfl ?_
    refine s_iload dX6_countShelves_20 rfl ?_
    obtain ⟨a2, ea2, h⟩ := h
    obtain ⟨n4, t3, h⟩ := h
    obtain ⟨c5, h⟩ := h
    refine t_aald (j := 6) gk dX6_countShelves_22 (by decide) (by decide) ea2 t3 c5 ?_
    refine s_astore (L' := [some (vR x0), some (vI x1), some (vR x2), some (vI x3), some (vI x4), some (vR (mr σ a2 x4.toNatClampNeg))]) dX6_countShelves_23 rfl (by decide) rfl ?_
    refine s_aload dX6_countShelves_25 rfl ?_
    obtain ⟨a6, ea6, h⟩ := h
    obtain ⟨t7, h⟩ := h
    refine t_getI gk dX6_countShelves_27 fX6_69 rfl ea6 t7 ?_
    refine s_if_eq (tgt := 36) dX6_countShelves_30 (by decide) (fun q8 => ?_) (fun q8 => ?_)
    · have h := h.1 q8
      refine s_iinc (v := x4 + 1) (L' := [some (vR x0), some (vI x1), some (vR x2), some (vI x3), some (vI (x4 + 1)), some (vR (mr σ a2 x4.toNatClampNeg))]) dX6_countShelves_36 rfl rfl rfl (by decide) rfl ?_
      refine s_goto (tgt := 13) dX6_countShelves_39 (by decide) ?_
      exact h.msk ⟨rfl, ⟨rfl, ⟨rfl, ⟨rfl, ⟨rfl, trivial⟩⟩⟩⟩⟩
    · have h := h.2 q8
      refine s_iinc (v := x1 + 1) (L' := [some (vR x0), some (vI (x1 + 1)), some (vR x2), some (vI x3), some (vI x4), some (vR (mr σ a2 x4.toNatClampNeg))]) dX6_countShelves_33 rfl rfl rfl (by decide) rfl ?_
      refine s_iinc (v := x4 + 1) (L' := [some (vR x0), some (vI (x1 + 1)), some (vR x2), some (vI x3), some (vI (x4 + 1)), some (vR (mr σ a2 x4.toNatClampNeg))]) dX6_countShelves_36 rfl rfl rfl (by decide) rfl ?_
      refine s_goto (tgt := 13) dX6_countShelves_39 (by decide) ?_
      exact h.msk ⟨rfl, ⟨rfl, ⟨rfl, ⟨rfl, ⟨rfl, trivial⟩⟩⟩⟩⟩
theorem vX6_putShelf_0 {G : GG} (gk : GOK G) {σ : Mm} {K : RES → Mm → Prop} {x0 : Option Nat} {x1 : Int32} {x2 : Int32} {x3 : Int32}
    (h : ∃ a1, x0 = some a1 ∧ (mt σ a1).1 = 7 ∧ Runs G mX6_countShelves rX6_countShelves [(vR x0)] σ (bk G mX6_putShelf rX6_putShelf 0 0 4 [some (vR x0), some (vI x1), some (vI x2), some (vI x3), none] [] K)) : At G mX6_putShelf rX6_putShelf 0 0 0 [some (vR x0), some (vI x1), some (vI x2), some (vI x3), none] [] σ K := by
  refine s_aload_n (i := 0) dX6_putShelf_0 rfl rfl ?_
  obtain ⟨a1, ea1, h⟩ := h
  obtain ⟨t2, h⟩ := h
  exact t_callV (ci := 6) (as := []) (S := []) gk dX6_putShelf_1 gX6_78 (by decide) rfl w_611 w_612 ea1 t2 rfl rfl (Nat.le_of_ble_eq_true rfl) (by decide) h
theorem eX6_putShelf {G : GG} (gk : GOK G) {σ : Mm} {K : RES → Mm → Prop} {x0 : Option Nat} {x1 : Int32} {x2 : Int32} {x3 : Int32}
    (h : ∃ a1, x0 = some a1 ∧ (mt σ a1).1 = 7 ∧ Runs G mX6_countShelves rX6_countShelves [(vR x0)] σ (bk G mX6_putShelf rX6_putShelf 0 0 4 [some (vR x0), some (vI x1), some (vI x2), some (vI x3), none] [] K)) : Runs G mX6_putShelf rX6_putShelf [(vR x0), (vI x1), (vI x2), (vI x3)] σ K := Runs.of (by decide) rfl (Nat.le_of_ble_eq_true rfl) (vX6_putShelf_0 gk h)
theorem vX6_putShelf_4 {G : GG} (gk : GOK G) {σ : Mm} {K : RES → Mm → Prop} {x0 : Option Nat} {x1 : Int32} {x2 : Int32} {x3 : Int32} {s0 : Int32}
    (h : ∃ a1, x0 = some a1 ∧ (mt σ a1).1 = 7 ∧ ∃ a3, mr σ a1 1 = some a3 ∧ ∃ n5, mt σ a3 = (56, n5) ∧ (((nI n5) ≤ s0 → At G mX6_putShelf rX6_putShelf 0 0 29 [some (vR x0), some (vI x1), some (vI x2), some (vI x3), some (vI s0)] [] σ K) ∧ (¬ (nI n5) ≤ s0 → vp_in s0 n5 ∧ ∃ a8, mr σ a3 s0.toNatClampNeg = some a8 ∧ (mt σ a8).1 = 6 ∧ Runs G mX5_fill rX5_fill [(vR (mr σ a3 s0.toNatClampNeg)), (vI x1), (vI x2), (vI x3)] σ (bk G mX6_putShelf rX6_putShelf 0 0 29 [some (vR x0), some (vI x1), some (vI x2), some (vI x3), some (vI s0)] [] K)))) : At G mX6_putShelf rX6_putShelf 0 0 4 [some (vR x0), some (vI x1), some (vI x2), some (vI x3), none] [(vI s0)] σ K := by
  refine s_istore (L' := [some (vR x0), some (vI x1), some (vI x2), some (vI x3), some (vI s0)]) dX6_putShelf_4 rfl (by decide) rfl ?_
  refine s_iload dX6_putShelf_6 rfl ?_
  refine s_aload_n (i := 0) dX6_putShelf_8 rfl rfl ?_
  obtain ⟨a1, ea1, h⟩ := h
  obtain ⟨t2, h⟩ := h
  refine t_getR gk dX6_putShelf_9 fX6_19 rfl ea1 t2 ?_
  obtain ⟨a3, ea3, h⟩ := h
  obtain ⟨n5, t4, h⟩ := h
  refine t_alen (j := 6) gk dX6_putShelf_12 (by decide) ea3 t4 ?_
  refine s_icmp_ge (tgt := 29) dX6_putShelf_13 (by decide) (fun q6 => ?_) (fun q6 => ?_)
  · have h := h.1 q6
    exact h
  · have h := h.2 q6
    refine s_aload_n (i := 0) dX6_putShelf_16 rfl rfl ?_
    refine t_getR gk dX6_putShelf_17 fX6_19 rfl ea1 t2 ?_
    refine s_iload dX6_putShelf_20 rfl ?_
    obtain ⟨c7, h⟩ := h
    refine t_aald (j := 6) gk dX6_putShelf_22 (by decide) (by decide) ea3 t4 c7 ?_
    refine s_iload_n (i := 1) dX6_putShelf_23 rfl rfl ?_
    refine s_iload_n (i := 2) dX6_putShelf_24 rfl rfl ?_
    refine s_iload_n (i := 3) dX6_putShelf_25 rfl rfl ?_
    obtain ⟨a8, ea8, h⟩ := h
    obtain ⟨t9, h⟩ := h
    exact t_callV (ci := 5) (as := [(vI x1), (vI x2), (vI x3)]) (S := []) gk dX6_putShelf_26 gX6_118 (by decide) rfl w_619 w_620 ea8 t9 rfl rfl (Nat.le_of_ble_eq_true rfl) (by decide) h
theorem vX6_putShelf_29 {G : GG} (gk : GOK G) {σ : Mm} {K : RES → Mm → Prop} {x0 : Option Nat} {x1 : Int32} {x2 : Int32} {x3 : Int32} {x4 : Int32}
    (h : K (.inl (some (vI x4))) σ) : At G mX6_putShelf rX6_putShelf 0 0 29 [some (vR x0), some (vI x1), some (vI x2), some (vI x3), some (vI x4)] [] σ K := by
  refine s_iload dX6_putShelf_29 rfl ?_
  exact s_ireturn dX6_putShelf_31 rfl rfl (by decide) (by decide) h
theorem vX6_tune_0 {G : GG} (gk : GOK G) {σ : Mm} {K : RES → Mm → Prop} {x0 : Option Nat} {x1 : Int32} {x2 : Int32}
    (h : ∃ a1, x0 = some a1 ∧ (mt σ a1).1 = 7 ∧ Runs G mX6_findShelf rX6_findShelf [(vR x0), (vI x1)] σ (bk G mX6_tune rX6_tune 0 0 5 [some (vR x0), some (vI x1), some (vI x2), none] [] K)) : At G mX6_tune rX6_tune 0 0 0 [some (vR x0), some (vI x1), some (vI x2), none] [] σ K := by
  refine s_aload_n (i := 0) dX6_tune_0 rfl rfl ?_
  refine s_iload_n (i := 1) dX6_tune_1 rfl rfl ?_
  obtain ⟨a1, ea1, h⟩ := h
  obtain ⟨t2, h⟩ := h
  exact t_callV (ci := 6) (as := [(vI x1)]) (S := []) gk dX6_tune_2 gX6_81 (by decide) rfl w_656 w_657 ea1 t2 rfl rfl (Nat.le_of_ble_eq_true rfl) (by decide) h
theorem eX6_tune {G : GG} (gk : GOK G) {σ : Mm} {K : RES → Mm → Prop} {x0 : Option Nat} {x1 : Int32} {x2 : Int32}
    (h : ∃ a1, x0 = some a1 ∧ (mt σ a1).1 = 7 ∧ Runs G mX6_findShelf rX6_findShelf [(vR x0), (vI x1)] σ (bk G mX6_tune rX6_tune 0 0 5 [some (vR x0), some (vI x1), some (vI x2), none] [] K)) : Runs G mX6_tune rX6_tune [(vR x0), (vI x1), (vI x2)] σ K := Runs.of (by decide) rfl (Nat.le_of_ble_eq_true rfl) (vX6_tune_0 gk h)
theorem vX6_tune_5 {G : GG} (gk : GOK G) {σ : Mm} {K : RES → Mm → Prop} {x0 : Option Nat} {x1 : Int32} {x2 : Int32} {s0 : Option Nat}
    (h : ((s0 = none → K (.inl none) σ) ∧ (∀ a2, s0 = some a2 → (mt σ a2).1 = 6 ∧ isZ x2 ∧ ∀ σ4, σ4 = si σ a2 4 x2 → K (.inl none) σ4))) : At G mX6_tune rX6_tune 0 0 5 [some (vR x0), some (vI x1), some (vI x2), none] [(vR s0)] σ K := by
  refine s_astore_n (i := 3) (L' := [some (vR x0), some (vI x1), some (vI x2), some (vR s0)]) dX6_tune_5 rfl rfl (by decide) rfl ?_
  refine s_aload_n (i := 3) dX6_tune_6 rfl rfl ?_
  refine s_ifnull (tgt := 15) dX6_tune_7 (by decide) (fun q1 => ?_) (fun a2 ea2 => ?_)
  · have h := h.1 q1
    exact s_return dX6_tune_15 rfl (by decide) (by decide) h
  · have h := h.2 a2 ea2
    refine s_aload_n (i := 3) dX6_tune_10 rfl rfl ?_
    refine s_iload_n (i := 2) dX6_tune_11 rfl rfl ?_
    obtain ⟨t3, h⟩ := h
    obtain ⟨c5, h⟩ := h
    refine t_putI gk dX6_tune_12 fX6_111 rfl rfl ea2 t3 (nf_z c5) (fun σ4 eσ4 mσ4 => ?_)
    replace h := h σ4 eσ4
    exact s_return dX6_tune_15 rfl (by decide) (by decide) h
theorem vX6_rankByHits_0 {G : GG} (gk : GOK G) {σ : Mm} {K : RES → Mm → Prop} {x0 : Option Nat} {x1 : Int32}
    (h : ∃ a1, x0 = some a1 ∧ (mt σ a1).1 = 7 ∧ Runs G mX6_findShelf rX6_findShelf [(vR x0), (vI x1)] σ (bk G mX6_rankByHits rX6_rankByHits 0 0 5 [some (vR x0), some (vI x1), none, none, none, none] [] K)) : At G mX6_rankByHits rX6_rankByHits 0 0 0 [some (vR x0), some (vI x1), none, none, none, none] [] σ K := by
  refine s_aload_n (i := 0) dX6_rankByHits_0 rfl rfl ?_
  refine s_iload_n (i := 1) dX6_rankByHits_1 rfl rfl ?_
  obtain ⟨a1, ea1, h⟩ := h
  obtain ⟨t2, h⟩ := h
  exact t_callV (ci := 6) (as := [(vI x1)]) (S := []) gk dX6_rankByHits_2 gX6_81 (by decide) rfl w_656 w_657 ea1 t2 rfl rfl (Nat.le_of_ble_eq_true rfl) (by decide) h
theorem eX6_rankByHits {G : GG} (gk : GOK G) {σ : Mm} {K : RES → Mm → Prop} {x0 : Option Nat} {x1 : Int32}
    (h : ∃ a1, x0 = some a1 ∧ (mt σ a1).1 = 7 ∧ Runs G mX6_findShelf rX6_findShelf [(vR x0), (vI x1)] σ (bk G mX6_rankByHits rX6_rankByHits 0 0 5 [some (vR x0), some (vI x1), none, none, none, none] [] K)) : Runs G mX6_rankByHits rX6_rankByHits [(vR x0), (vI x1)] σ K := Runs.of (by decide) rfl (Nat.le_of_ble_eq_true rfl) (vX6_rankByHits_0 gk h)
theorem vX6_rankByHits_5 {G : GG} (gk : GOK G) {σ : Mm} {K : RES → Mm → Prop} {x0 : Option Nat} {x1 : Int32} {s0 : Option Nat}
    (h : At G mX6_rankByHits rX6_rankByHits 0 0 11 [some (vR x0), some (vI x1), some (vR s0), some (vI (0 : Int32)), some (vI (0 : Int32)), none] [] σ K) : At G mX6_rankByHits rX6_rankByHits 0 0 5 [some (vR x0), some (vI x1), none, none, none, none] [(vR s0)] σ K := by
  refine s_astore_n (i := 2) (L' := [some (vR x0), some (vI x1), some (vR s0), none, none, none]) dX6_rankByHits_5 rfl rfl (by decide) rfl ?_
  refine s_iconst (v := 0) dX6_rankByHits_6 (by decide) ?_
  refine s_istore_n (i := 3) (L' := [some (vR x0), some (vI x1), some (vR s0), some (vI (0 : Int32)), none, none]) dX6_rankByHits_7 rfl rfl (by decide) rfl ?_
  refine s_iconst (v := 0) dX6_rankByHits_8 (by decide) ?_
  refine s_istore (L' := [some (vR x0), some (vI x1), some (vR s0), some (vI (0 : Int32)), some (vI (0 : Int32)), none]) dX6_rankByHits_9 rfl (by decide) rfl ?_
  exact h
theorem vX6_rankByHits_11 {G : GG} (gk : GOK G) {σ : Mm} {K : RES → Mm → Prop} {x0 : Option Nat} {x1 : Int32} {x2 : Option Nat} {x3 : Int32} {x4 : Int32}
    (h : ∃ a1, x0 = some a1 ∧ (mt σ a1).1 = 7 ∧ ∃ a3, mr σ a1 1 = some a3 ∧ ∃ n5, mt σ a3 = (56, n5) ∧ (((nI n5) ≤ x4 → K (.inl (some (vI x3))) σ) ∧ (¬ (nI n5) ≤ x4 → Runs G mX6_findShelf rX6_findShelf [(vR x0), (vI x4)] σ (bk G mX6_rankByHits rX6_rankByHits 0 0 27 [some (vR x0), some (vI x1), some (vR x2), some (vI x3), some (vI x4), none] [] K)))) : At G mX6_rankByHits rX6_rankByHits 0 0 11 [some (vR x0), some (vI x1), some (vR x2), some (vI x3), some (vI x4), none] [] σ K := by
  refine s_iload dX6_rankByHits_11 rfl ?_
  refine s_aload_n (i := 0) dX6_rankByHits_13 rfl rfl ?_
  obtain ⟨a1, ea1, h⟩ := h
  obtain ⟨t2, h⟩ := h
  refine t_getR gk dX6_rankByHits_14 fX6_19 rfl ea1 t2 ?_
  obtain ⟨a3, ea3, h⟩ := h
  obtain ⟨n5, t4, h⟩ := h
  refine t_alen (j := 6) gk dX6_rankByHits_17 (by decide) ea3 t4 ?_
  refine s_icmp_ge (tgt := 77) dX6_rankByHits_18 (by decide) (fun q6 => ?_) (fun q6 => ?_)
  · have h := h.1 q6
    refine s_iload_n (i := 3) dX6_rankByHits_77 rfl rfl ?_
    exact s_ireturn dX6_rankByHits_78 rfl rfl (by decide) (by decide) h
  · have h := h.2 q6
    refine s_aload_n (i := 0) dX6_rankByHits_21 rfl rfl ?_
    refine s_iload dX6_rankByHits_22 rfl ?_
    exact t_callV (ci := 6) (as := [(vI x4)]) (S := []) gk dX6_rankByHits_24 gX6_81 (by decide) rfl w_656 w_657 ea1 t2 rfl rfl (Nat.le_of_ble_eq_true rfl) (by decide) h
theorem vX6_rankByHits_27 {G : GG} (gk : GOK G) {σ : Mm} {K : RES → Mm → Prop} {x0 : Option Nat} {x1 : Int32} {x2 : Option Nat} {x3 : Int32} {x4 : Int32} {s0 : Option Nat}
    (h : ((x2 = none → At G mX6_rankByHits rX6_rankByHits 0 0 11 [some (vR x0), some (vI x1), some (vR x2), some (vI x3), some (vI (x4 + 1)), none] [] σ K) ∧ (∀ a2, x2 = some a2 → ((s0 = none → At G mX6_rankByHits rX6_rankByHits 0 0 11 [some (vR x0), some (vI x1), some (vR x2), some (vI x3), some (vI (x4 + 1)), none] [] σ K) ∧ (∀ a4, s0 = some a4 → (mt σ a4).1 = 6 ∧ (mt σ a2).1 = 6 ∧ (((mi σ a2 5) < (mi σ a4 5) → At G mX6_rankByHits rX6_rankByHits 0 0 11 [some (vR x0), some (vI x1), some (vR x2), some (vI (x3 + 1)), some (vI (x4 + 1)), none] [] σ K) ∧ (¬ (mi σ a2 5) < (mi σ a4 5) → ((¬ (mi σ a4 5) = (mi σ a2 5) → At G mX6_rankByHits rX6_rankByHits 0 0 11 [some (vR x0), some (vI x1), some (vR x2), some (vI x3), some (vI (x4 + 1)), none] [] σ K) ∧ ((mi σ a4 5) = (mi σ a2 5) → ((x1 ≤ x4 → At G mX6_rankByHits rX6_rankByHits 0 0 11 [some (vR x0), some (vI x1), some (vR x2), some (vI x3), some (vI (x4 + 1)), none] [] σ K) ∧ (¬ x1 ≤ x4 → At G mX6_rankByHits rX6_rankByHits 0 0 11 [some (vR x0), some (vI x1), some (vR x2), some (vI (x3 + 1)), some (vI (x4 + 1)), none] [] σ K))))))))))) : At G mX6_rankByHits rX6_rankByHits 0 0 27 [some (vR x0), some (vI x1), some (vR x2), some (vI x3), some (vI x4), none] [(vR s0)] σ K := by
  refine s_astore (L' := [some (vR x0), some (vI x1), some (vR x2), some (vI x3), some (vI x4), some (vR s0)]) dX6_rankByHits_27 rfl (by decide) rfl ?_
  refine s_aload_n (i := 2) dX6_rankByHits_29 rfl rfl ?_
  refine s_ifnull (tgt := 71) dX6_rankByHits_30 (by decide) (fun q1 => ?_) (fun a2 ea2 => ?_)
  · have h := h.1 q1
    refine s_iinc (v := x4 + 1) (L' := [some (vR x0), some (vI x1), some (vR x2), some (vI x3), some (vI (x4 + 1)), some (vR s0)]) dX6_rankByHits_71 rfl rfl rfl (by decide) rfl ?_
    refine s_goto (tgt := 11) dX6_rankByHits_74 (by decide) ?_
    exact h.msk ⟨rfl, ⟨rfl, ⟨rfl, ⟨rfl, ⟨rfl, trivial⟩⟩⟩⟩⟩
  · have h := h.2 a2 ea2
    refine s_aload dX6_rankByHits_33 rfl ?_
    refine s_ifnull (tgt := 71) dX6_rankByHits_35 (by decide) (fun q3 => ?_) (fun a4 ea4 => ?_)
    · have h := h.1 q3
      refine s_iinc (v := x4 + 1) (L' := [some (vR x0), some (vI x1), some (vR x2), some (vI x3), some (vI (x4 + 1)), some (vR s0)]) dX6_rankByHits_71 rfl rfl rfl (by decide) rfl ?_
      refine s_goto (tgt := 11) dX6_rankByHits_74 (by decide) ?_
      exact h.msk ⟨rfl, ⟨rfl, ⟨rfl, ⟨rfl, ⟨rfl, trivial⟩⟩⟩⟩⟩
    · have h := h.2 a4 ea4
      refine s_aload dX6_rankByHits_38 rfl ?_
      obtain ⟨t5, h⟩ := h
      refine t_getI gk dX6_rankByHits_40 fX6_122 rfl ea4 t5 ?_
      refine s_aload_n (i := 2) dX6_rankByHits_43 rfl rfl ?_
      obtain ⟨t6, h⟩ := h
      refine t_getI gk dX6_rankByHits_44 fX6_122 rfl ea2 t6 ?_
      refine s_icmp_gt (tgt := 68) dX6_rankByHits_47 (by decide) (fun q7 => ?_) (fun q7 => ?_)
      · have h := h.1 q7
        refine s_iinc (v := x3 + 1) (L' := [some (vR x0), some (vI x1), some (vR x2), some (vI (x3 + 1)), some (vI x4), some (vR s0)]) dX6_rankByHits_68 rfl rfl rfl (by decide) rfl ?_
        refine s_iinc (v := x4 + 1) (L' := [some (vR x0), some (vI x1), some (vR x2), some (vI (x3 + 1)), some (vI (x4 + 1)), some (vR s0)]) dX6_rankByHits_71 rfl rfl rfl (by decide) rfl ?_
        refine s_goto (tgt := 11) dX6_rankByHits_74 (by decide) ?_
        exact h.msk ⟨rfl, ⟨rfl, ⟨rfl, ⟨rfl, ⟨rfl, trivial⟩⟩⟩⟩⟩
      · have h := h.2 q7
        refine s_aload dX6_rankByHits_50 rfl ?_
        refine t_getI gk dX6_rankByHits_52 fX6_122 rfl ea4 t5 ?_
        refine s_aload_n (i := 2) dX6_rankByHits_55 rfl rfl ?_
        refine t_getI gk dX6_rankByHits_56 fX6_122 rfl ea2 t6 ?_
        refine s_icmp_ne (tgt := 71) dX6_rankByHits_59 (by decide) (fun q8 => ?_) (fun q8 => ?_)
        · have h := h.1 q8
          refine s_iinc (v := x4 + 1) (L' := [some (vR x0), some (vI x1), some (vR x2), some (vI x3), some (vI (x4 + 1)), some (vR s0)]) dX6_rankByHits_71 rfl rfl rfl (by decide) rfl ?_
          refine s_goto (tgt := 11) dX6_rankByHits_74 (by decide) ?_
          exact h.msk ⟨rfl, ⟨rfl, ⟨rfl, ⟨rfl, ⟨rfl, trivial⟩⟩⟩⟩⟩
        · have h := h.2 q8
          refine s_iload dX6_rankByHits_62 rfl ?_
          refine s_iload_n (i := 1) dX6_rankByHits_64 rfl rfl ?_
          refine s_icmp_ge (tgt := 71) dX6_rankByHits_65 (by decide) (fun q9 => ?_) (fun q9 => ?_)
          · have h := h.1 q9
            refine s_iinc (v := x4 + 1) (L' := [some (vR x0), some (vI x1), some (vR x2), some (vI x3), some (vI (x4 + 1)), some (vR s0)]) dX6_rankByHits_71 rfl rfl rfl (by decide) rfl ?_
            refine s_goto (tgt := 11) dX6_rankByHits_74 (by decide) ?_
            exact h.msk ⟨rfl, ⟨rfl, ⟨rfl, ⟨rfl, ⟨rfl, trivial⟩⟩⟩⟩⟩
          · have h := h.2 q9
            refine s_iinc (v := x3 + 1) (L' := [some (vR x0), some (vI x1), some (vR x2), some (vI (x3 + 1)), some (vI x4), some (vR s0)]) dX6_rankByHits_68 rfl rfl rfl (by decide) rfl ?_
            refine s_iinc (v := x4 + 1) (L' := [some (vR x0), some (vI x1), some (vR x2), some (vI (x3 + 1)), some (vI (x4 + 1)), some (vR s0)]) dX6_rankByHits_71 rfl rfl rfl (by decide) rfl ?_
            refine s_goto (tgt := 11) dX6_rankByHits_74 (by decide) ?_
            exact h.msk ⟨rfl, ⟨rfl, ⟨rfl, ⟨rfl, ⟨rfl, trivial⟩⟩⟩⟩⟩
theorem vX6_isTrueByCount_0 {G : GG} (gk : GOK G) {σ : Mm} {K : RES → Mm → Prop} {x0 : Option Nat} {x1 : Option Nat}
    (h : ∃ a1, x1 = some a1 ∧ (mt σ a1).1 = 3 ∧ ∃ a3, x0 = some a3 ∧ (mt σ a3).1 = 7 ∧ Runs G mX6_findJar rX6_findJar [(vR x0), (vI (mi σ a1 1))] σ (bk G mX6_isTrueByCount rX6_isTrueByCount 0 0 8 [some (vR x0), some (vR x1), none] [] K)) : At G mX6_isTrueByCount rX6_isTrueByCount 0 0 0 [some (vR x0), some (vR x1), none] [] σ K := by
  refine s_aload_n (i := 0) dX6_isTrueByCount_0 rfl rfl ?_
  refine s_aload_n (i := 1) dX6_isTrueByCount_1 rfl rfl ?_
  obtain ⟨a1, ea1, h⟩ := h
  obtain ⟨t2, h⟩ := h
  refine t_getI gk dX6_isTrueByCount_2 fX6_125 rfl ea1 t2 ?_
  obtain ⟨a3, ea3, h⟩ := h
  obtain ⟨t4, h⟩ := h
  exact t_callV (ci := 6) (as := [(vI (mi σ a1 1))]) (S := []) gk dX6_isTrueByCount_5 gX6_75 (by decide) rfl w_383 w_384 ea3 t4 rfl rfl (Nat.le_of_ble_eq_true rfl) (by decide) h
theorem eX6_isTrueByCount {G : GG} (gk : GOK G) {σ : Mm} {K : RES → Mm → Prop} {x0 : Option Nat} {x1 : Option Nat}
    (h : ∃ a1, x1 = some a1 ∧ (mt σ a1).1 = 3 ∧ ∃ a3, x0 = some a3 ∧ (mt σ a3).1 = 7 ∧ Runs G mX6_findJar rX6_findJar [(vR x0), (vI (mi σ a1 1))] σ (bk G mX6_isTrueByCount rX6_isTrueByCount 0 0 8 [some (vR x0), some (vR x1), none] [] K)) : Runs G mX6_isTrueByCount rX6_isTrueByCount [(vR x0), (vR x1)] σ K := Runs.of (by decide) rfl (Nat.le_of_ble_eq_true rfl) (vX6_isTrueByCount_0 gk h)
theorem vX6_isTrueByCount_8 {G : GG} (gk : GOK G) {σ : Mm} {K : RES → Mm → Prop} {x0 : Option Nat} {x1 : Option Nat} {s0 : Option Nat}
    (h : ((s0 = none → K (.inl (some (vI (0 : Int32)))) σ) ∧ (∀ a2, s0 = some a2 → ∃ a3, x1 = some a3 ∧ (mt σ a3).1 = 3 ∧ (mt σ a2).1 = 5 ∧ ((¬ (mi σ a3 7) = (mi σ a2 2) → K (.inl (some (vI (0 : Int32)))) σ) ∧ ((mi σ a3 7) = (mi σ a2 2) → K (.inl (some (vI (1 : Int32)))) σ))))) : At G mX6_isTrueByCount rX6_isTrueByCount 0 0 8 [some (vR x0), some (vR x1), none] [(vR s0)] σ K := by
  refine s_astore_n (i := 2) (L' := [some (vR x0), some (vR x1), some (vR s0)]) dX6_isTrueByCount_8 rfl rfl (by decide) rfl ?_
  refine s_aload_n (i := 2) dX6_isTrueByCount_9 rfl rfl ?_
  refine s_ifnull (tgt := 28) dX6_isTrueByCount_10 (by decide) (fun q1 => ?_) (fun a2 ea2 => ?_)
  · have h := h.1 q1
    refine s_iconst (v := 0) dX6_isTrueByCount_28 (by decide) ?_
    exact s_ireturn dX6_isTrueByCount_29 rfl rfl (by decide) (by decide) h
  · have h := h.2 a2 ea2
    refine s_aload_n (i := 1) dX6_isTrueByCount_13 rfl rfl ?_
    obtain ⟨a3, ea3, h⟩ := h
    obtain ⟨t4, h⟩ := h
    refine t_getI gk dX6_isTrueByCount_14 fX6_131 rfl ea3 t4 ?_
    refine s_aload_n (i := 2) dX6_isTrueByCount_17 rfl rfl ?_
    obtain ⟨t5, h⟩ := h
    refine t_getI gk dX6_isTrueByCount_18 fX6_96 rfl ea2 t5 ?_
    refine s_icmp_ne (tgt := 28) dX6_isTrueByCount_21 (by decide) (fun q6 => ?_) (fun q6 => ?_)
    · have h := h.1 q6
      refine s_iconst (v := 0) dX6_isTrueByCount_28 (by decide) ?_
      exact s_ireturn dX6_isTrueByCount_29 rfl rfl (by decide) (by decide) h
    · have h := h.2 q6
      refine s_iconst (v := 1) dX6_isTrueByCount_24 (by decide) ?_
      refine s_goto (tgt := 29) dX6_isTrueByCount_25 (by decide) ?_
      exact s_ireturn dX6_isTrueByCount_29 rfl rfl (by decide) (by decide) h
theorem vX6_isTrueByOrder_0 {G : GG} (gk : GOK G) {σ : Mm} {K : RES → Mm → Prop} {x0 : Option Nat} {x1 : Option Nat}
    (h : ∃ a1, x1 = some a1 ∧ (mt σ a1).1 = 3 ∧ ∃ a3, x0 = some a3 ∧ (mt σ a3).1 = 7 ∧ Runs G mX6_findJar rX6_findJar [(vR x0), (vI (mi σ a1 1))] σ (bk G mX6_isTrueByOrder rX6_isTrueByOrder 0 0 8 [some (vR x0), some (vR x1), none] [] K)) : At G mX6_isTrueByOrder rX6_isTrueByOrder 0 0 0 [some (vR x0), some (vR x1), none] [] σ K := by
  refine s_aload_n (i := 0) dX6_isTrueByOrder_0 rfl rfl ?_
  refine s_aload_n (i := 1) dX6_isTrueByOrder_1 rfl rfl ?_
  obtain ⟨a1, ea1, h⟩ := h
  obtain ⟨t2, h⟩ := h
  refine t_getI gk dX6_isTrueByOrder_2 fX6_125 rfl ea1 t2 ?_
  obtain ⟨a3, ea3, h⟩ := h
  obtain ⟨t4, h⟩ := h
  exact t_callV (ci := 6) (as := [(vI (mi σ a1 1))]) (S := []) gk dX6_isTrueByOrder_5 gX6_75 (by decide) rfl w_383 w_384 ea3 t4 rfl rfl (Nat.le_of_ble_eq_true rfl) (by decide) h
theorem eX6_isTrueByOrder {G : GG} (gk : GOK G) {σ : Mm} {K : RES → Mm → Prop} {x0 : Option Nat} {x1 : Option Nat}
    (h : ∃ a1, x1 = some a1 ∧ (mt σ a1).1 = 3 ∧ ∃ a3, x0 = some a3 ∧ (mt σ a3).1 = 7 ∧ Runs G mX6_findJar rX6_findJar [(vR x0), (vI (mi σ a1 1))] σ (bk G mX6_isTrueByOrder rX6_isTrueByOrder 0 0 8 [some (vR x0), some (vR x1), none] [] K)) : Runs G mX6_isTrueByOrder rX6_isTrueByOrder [(vR x0), (vR x1)] σ K := Runs.of (by decide) rfl (Nat.le_of_ble_eq_true rfl) (vX6_isTrueByOrder_0 gk h)
theorem vX6_isTrueByOrder_8 {G : GG} (gk : GOK G) {σ : Mm} {K : RES → Mm → Prop} {x0 : Option Nat} {x1 : Option Nat} {s0 : Option Nat}
    (h : ((s0 = none → K (.inl (some (vI (0 : Int32)))) σ) ∧ (∀ a2, s0 = some a2 → ∃ a3, x1 = some a3 ∧ (mt σ a3).1 = 3 ∧ (mt σ a2).1 = 5 ∧ (((mi σ a3 4) ≤ (mi σ a2 3) → K (.inl (some (vI (0 : Int32)))) σ) ∧ (¬ (mi σ a3 4) ≤ (mi σ a2 3) → K (.inl (some (vI (1 : Int32)))) σ))))) : At G mX6_isTrueByOrder rX6_isTrueByOrder 0 0 8 [some (vR x0), some (vR x1), none] [(vR s0)] σ K := by
  refine s_astore_n (i := 2) (L' := [some (vR x0), some (vR x1), some (vR s0)]) dX6_isTrueByOrder_8 rfl rfl (by decide) rfl ?_
  refine s_aload_n (i := 2) dX6_isTrueByOrder_9 rfl rfl ?_
  refine s_ifnull (tgt := 28) dX6_isTrueByOrder_10 (by decide) (fun q1 => ?_) (fun a2 ea2 => ?_)
  · have h := h.1 q1
    refine s_iconst (v := 0) dX6_isTrueByOrder_28 (by decide) ?_
    exact s_ireturn dX6_isTrueByOrder_29 rfl rfl (by decide) (by decide) h
  · have h := h.2 a2 ea2
    refine s_aload_n (i := 1) dX6_isTrueByOrder_13 rfl rfl ?_
    obtain ⟨a3, ea3, h⟩ := h
    obtain ⟨t4, h⟩ := h
    refine t_getI gk dX6_isTrueByOrder_14 fX6_132 rfl ea3 t4 ?_
    refine s_aload_n (i := 2) dX6_isTrueByOrder_17 rfl rfl ?_
    obtain ⟨t5, h⟩ := h
    refine t_getI gk dX6_isTrueByOrder_18 fX6_135 rfl ea2 t5 ?_
    refine s_icmp_le (tgt := 28) dX6_isTrueByOrder_21 (by decide) (fun q6 => ?_) (fun q6 => ?_)
    · have h := h.1 q6
      refine s_iconst (v := 0) dX6_isTrueByOrder_28 (by decide) ?_
      exact s_ireturn dX6_isTrueByOrder_29 rfl rfl (by decide) (by decide) h
    · have h := h.2 q6
      refine s_iconst (v := 1) dX6_isTrueByOrder_24 (by decide) ?_
      refine s_goto (tgt := 29) dX6_isTrueByOrder_25 (by decide) ?_
      exact s_ireturn dX6_isTrueByOrder_29 rfl rfl (by decide) (by decide) h
theorem vX6_isSound_0 {G : GG} (gk : GOK G) {σ : Mm} {K : RES → Mm → Prop} {x0 : Option Nat} {x1 : Option Nat}
    (h : ∃ a1, x0 = some a1 ∧ (mt σ a1).1 = 7 ∧ Runs G mX6_isTrueByCount rX6_isTrueByCount [(vR x0), (vR x1)] σ (bk G mX6_isSound rX6_isSound 0 0 5 [some (vR x0), some (vR x1), none] [] K)) : At G mX6_isSound rX6_isSound 0 0 0 [some (vR x0), some (vR x1), none] [] σ K := by
  refine s_aload_n (i := 0) dX6_isSound_0 rfl rfl ?_
  refine s_aload_n (i := 1) dX6_isSound_1 rfl rfl ?_
  obtain ⟨a1, ea1, h⟩ := h
  obtain ⟨t2, h⟩ := h
  exact t_callV (ci := 6) (as := [(vR x1)]) (S := []) gk dX6_isSound_2 gX6_138 (by decide) rfl w_899 w_900 ea1 t2 rfl rfl (Nat.le_of_ble_eq_true rfl) (by decide) h
theorem eX6_isSound {G : GG} (gk : GOK G) {σ : Mm} {K : RES → Mm → Prop} {x0 : Option Nat} {x1 : Option Nat}
    (h : ∃ a1, x0 = some a1 ∧ (mt σ a1).1 = 7 ∧ Runs G mX6_isTrueByCount rX6_isTrueByCount [(vR x0), (vR x1)] σ (bk G mX6_isSound rX6_isSound 0 0 5 [some (vR x0), some (vR x1), none] [] K)) : Runs G mX6_isSound rX6_isSound [(vR x0), (vR x1)] σ K := Runs.of (by decide) rfl (Nat.le_of_ble_eq_true rfl) (vX6_isSound_0 gk h)
theorem vX6_isSound_5 {G : GG} (gk : GOK G) {σ : Mm} {K : RES → Mm → Prop} {x0 : Option Nat} {x1 : Option Nat} {s0 : Int32}
    (h : ∃ a1, x0 = some a1 ∧ (mt σ a1).1 = 7 ∧ Runs G mX6_isTrueByOrder rX6_isTrueByOrder [(vR x0), (vR x1)] σ (bk G mX6_isSound rX6_isSound 0 0 10 [some (vR x0), some (vR x1), none] [(vI s0)] K)) : At G mX6_isSound rX6_isSound 0 0 5 [some (vR x0), some (vR x1), none] [(vI s0)] σ K := by
  refine s_aload_n (i := 0) dX6_isSound_5 rfl rfl ?_
  refine s_aload_n (i := 1) dX6_isSound_6 rfl rfl ?_
  obtain ⟨a1, ea1, h⟩ := h
  obtain ⟨t2, h⟩ := h
  exact t_callV (ci := 6) (as := [(vR x1)]) (S := [(vI s0)]) gk dX6_isSound_7 gX6_141 (by decide) rfl w_917 w_918 ea1 t2 rfl rfl (Nat.le_of_ble_eq_true rfl) (by decide) h
theorem vX6_isSound_10 {G : GG} (gk : GOK G) {σ : Mm} {K : RES → Mm → Prop} {x0 : Option Nat} {x1 : Option Nat} {s0 : Int32} {s1 : Int32}
    (h : ((s1 = s0 → ∃ a2, x1 = some a2 ∧ (mt σ a2).1 = 3 ∧ ∃ a4, x0 = some a4 ∧ (mt σ a4).1 = 7 ∧ Runs G mX6_findJar rX6_findJar [(vR x0), (vI (mi σ a2 1))] σ (bk G mX6_isSound rX6_isSound 0 0 23 [some (vR x0), some (vR x1), none] [] K)) ∧ (¬ s1 = s0 → K (.inl (some (vI (0 : Int32)))) σ))) : At G mX6_isSound rX6_isSound 0 0 10 [some (vR x0), some (vR x1), none] [(vI s0), (vI s1)] σ K := by
  refine s_icmp_eq (tgt := 15) dX6_isSound_10 (by decide) (fun q1 => ?_) (fun q1 => ?_)
  · have h := h.1 q1
    refine s_aload_n (i := 0) dX6_isSound_15 rfl rfl ?_
    refine s_aload_n (i := 1) dX6_isSound_16 rfl rfl ?_
    obtain ⟨a2, ea2, h⟩ := h
    obtain ⟨t3, h⟩ := h
    refine t_getI gk dX6_isSound_17 fX6_125 rfl ea2 t3 ?_
    obtain ⟨a4, ea4, h⟩ := h
    obtain ⟨t5, h⟩ := h
    exact t_callV (ci := 6) (as := [(vI (mi σ a2 1))]) (S := []) gk dX6_isSound_20 gX6_75 (by decide) rfl w_383 w_384 ea4 t5 rfl rfl (Nat.le_of_ble_eq_true rfl) (by decide) h
  · have h := h.2 q1
    refine s_iconst (v := 0) dX6_isSound_13 (by decide) ?_
    exact s_ireturn dX6_isSound_14 rfl rfl (by decide) (by decide) h
theorem vX6_isSound_23 {G : GG} (gk : GOK G) {σ : Mm} {K : RES → Mm → Prop} {x0 : Option Nat} {x1 : Option Nat} {s0 : Option Nat}
    (h : ∃ a1, x0 = some a1 ∧ (mt σ a1).1 = 7 ∧ Runs G mX6_isTrueByCount rX6_isTrueByCount [(vR x0), (vR x1)] σ (bk G mX6_isSound rX6_isSound 0 0 29 [some (vR x0), some (vR x1), some (vR s0)] [] K)) : At G mX6_isSound rX6_isSound 0 0 23 [some (vR x0), some (vR x1), none] [(vR s0)] σ K := by
  refine s_astore_n (i := 2) (L' := [some (vR x0), some (vR x1), some (vR s0)]) dX6_isSound_23 rfl rfl (by decide) rfl ?_
  refine s_aload_n (i := 0) dX6_isSound_24 rfl rfl ?_
  refine s_aload_n (i := 1) dX6_isSound_25 rfl rfl ?_
  obtain ⟨a1, ea1, h⟩ := h
  obtain ⟨t2, h⟩ := h
  exact t_callV (ci := 6) (as := [(vR x1)]) (S := []) gk dX6_isSound_26 gX6_138 (by decide) rfl w_899 w_900 ea1 t2 rfl rfl (Nat.le_of_ble_eq_true rfl) (by decide) h
theorem vX6_isSound_29 {G : GG} (gk : GOK G) {σ : Mm} {K : RES → Mm → Prop} {x0 : Option Nat} {x1 : Option Nat} {x2 : Option Nat} {s0 : Int32}
    (h : ((s0 = 0 → K (.inl (some (vI (1 : Int32)))) σ) ∧ (¬ s0 = 0 → ((x2 = none → K (.inl (some (vI (0 : Int32)))) σ) ∧ (∀ a3, x2 = some a3 → (mt σ a3).1 = 5 ∧ ∃ a5, x1 = some a5 ∧ (mt σ a5).1 = 3 ∧ ((¬ (mi σ a3 1) = (mi σ a5 2) → K (.inl (some (vI (0 : Int32)))) σ) ∧ ((mi σ a3 1) = (mi σ a5 2) → K (.inl (some (vI (1 : Int32)))) σ))))))) : At G mX6_isSound rX6_isSound 0 0 29 [some (vR x0), some (vR x1), some (vR x2)] [(vI s0)] σ K := by
  refine s_if_eq (tgt := 47) dX6_isSound_29 (by decide) (fun q1 => ?_) (fun q1 => ?_)
  · have h := h.1 q1
    refine s_iconst (v := 1) dX6_isSound_47 (by decide) ?_
    refine s_goto (tgt := 52) dX6_isSound_48 (by decide) ?_
    exact s_ireturn dX6_isSound_52 rfl rfl (by decide) (by decide) h
  · have h := h.2 q1
    refine s_aload_n (i := 2) dX6_isSound_32 rfl rfl ?_
    refine s_ifnull (tgt := 51) dX6_isSound_33 (by decide) (fun q2 => ?_) (fun a3 ea3 => ?_)
    · have h := h.1 q2
      refine s_iconst (v := 0) dX6_isSound_51 (by decide) ?_
      exact s_ireturn dX6_isSound_52 rfl rfl (by decide) (by decide) h
    · have h := h.2 a3 ea3
      refine s_aload_n (i := 2) dX6_isSound_36 rfl rfl ?_
      obtain ⟨t4, h⟩ := h
      refine t_getI gk dX6_isSound_37 fX6_144 rfl ea3 t4 ?_
      refine s_aload_n (i := 1) dX6_isSound_40 rfl rfl ?_
      obtain ⟨a5, ea5, h⟩ := h
      obtain ⟨t6, h⟩ := h
      refine t_getI gk dX6_isSound_41 fX6_147 rfl ea5 t6 ?_
      refine s_icmp_ne (tgt := 51) dX6_isSound_44 (by decide) (fun q7 => ?_) (fun q7 => ?_)
      · have h := h.1 q7
        refine s_iconst (v := 0) dX6_isSound_51 (by decide) ?_
        exact s_ireturn dX6_isSound_52 rfl rfl (by decide) (by decide) h
      · have h := h.2 q7
        refine s_iconst (v := 1) dX6_isSound_47 (by decide) ?_
        refine s_goto (tgt := 52) dX6_isSound_48 (by decide) ?_
        exact s_ireturn dX6_isSound_52 rfl rfl (by decide) (by decide) h
theorem vX6_listenTo_0 {G : GG} (gk : GOK G) {σ : Mm} {K : RES → Mm → Prop} {x0 : Option Nat} {x1 : Int32} {x2 : Int32}
    (h : ∃ a1, x0 = some a1 ∧ (mt σ a1).1 = 7 ∧ Runs G mX6_findShelf rX6_findShelf [(vR x0), (vI x1)] σ (bk G mX6_listenTo rX6_listenTo 0 0 5 [some (vR x0), some (vI x1), some (vI x2), none, none, none, none, none] [] K)) : At G mX6_listenTo rX6_listenTo 0 0 0 [some (vR x0), some (vI x1), some (vI x2), none, none, none, none, none] [] σ K := by
  refine s_aload_n (i := 0) dX6_listenTo_0 rfl rfl ?_
  refine s_iload_n (i := 1) dX6_listenTo_1 rfl rfl ?_
  obtain ⟨a1, ea1, h⟩ := h
  obtain ⟨t2, h⟩ := h
  exact t_callV (ci := 6) (as := [(vI x1)]) (S := []) gk dX6_listenTo_2 gX6_81 (by decide) rfl w_656 w_657 ea1 t2 rfl rfl (Nat.le_of_ble_eq_true rfl) (by decide) h
theorem eX6_listenTo {G : GG} (gk : GOK G) {σ : Mm} {K : RES → Mm → Prop} {x0 : Option Nat} {x1 : Int32} {x2 : Int32}
    (h : ∃ a1, x0 = some a1 ∧ (mt σ a1).1 = 7 ∧ Runs G mX6_findShelf rX6_findShelf [(vR x0), (vI x1)] σ (bk G mX6_listenTo rX6_listenTo 0 0 5 [some (vR x0), some (vI x1), some (vI x2), none, none, none, none, none] [] K)) : Runs G mX6_listenTo rX6_listenTo [(vR x0), (vI x1), (vI x2)] σ K := Runs.of (by decide) rfl (Nat.le_of_ble_eq_true rfl) (vX6_listenTo_0 gk h)
theorem vX6_listenTo_5 {G : GG} (gk : GOK G) {σ : Mm} {K : RES → Mm → Prop} {x0 : Option Nat} {x1 : Int32} {x2 : Int32} {s0 : Option Nat}
    (h : ∃ a1, x0 = some a1 ∧ (mt σ a1).1 = 7 ∧ Runs G mX6_findJar rX6_findJar [(vR x0), (vI x2)] σ (bk G mX6_listenTo rX6_listenTo 0 0 11 [some (vR x0), some (vI x1), some (vI x2), some (vR s0), none, none, none, none] [] K)) : At G mX6_listenTo rX6_listenTo 0 0 5 [some (vR x0), some (vI x1), some (vI x2), none, none, none, none, none] [(vR s0)] σ K := by
  refine s_astore_n (i := 3) (L' := [some (vR x0), some (vI x1), some (vI x2), some (vR s0), none, none, none, none]) dX6_listenTo_5 rfl rfl (by decide) rfl ?_
  refine s_aload_n (i := 0) dX6_listenTo_6 rfl rfl ?_
  refine s_iload_n (i := 2) dX6_listenTo_7 rfl rfl ?_
  obtain ⟨a1, ea1, h⟩ := h
  obtain ⟨t2, h⟩ := h
  exact t_callV (ci := 6) (as := [(vI x2)]) (S := []) gk dX6_listenTo_8 gX6_75 (by decide) rfl w_383 w_384 ea1 t2 rfl rfl (Nat.le_of_ble_eq_true rfl) (by decide) h
theorem vX6_listenTo_11 {G : GG} (gk : GOK G) {σ : Mm} {K : RES → Mm → Prop} {x0 : Option Nat} {x1 : Int32} {x2 : Int32} {x3 : Option Nat} {s0 : Option Nat}
    (h : ((x3 = none → K (.inl (some (vI (0 : Int32)))) σ) ∧ (∀ a2, x3 = some a2 → ((s0 = none → K (.inl (some (vI (0 : Int32)))) σ) ∧ (∀ a4, s0 = some a4 → (mt σ a2).1 = 6 ∧ Runs G mX5_find rX5_find [(vR x3), (vI x2)] σ (bk G mX6_listenTo rX6_listenTo 0 0 29 [some (vR x0), some (vI x1), some (vI x2), some (vR x3), some (vR s0), none, none, none] [] K)))))) : At G mX6_listenTo rX6_listenTo 0 0 11 [some (vR x0), some (vI x1), some (vI x2), some (vR x3), none, none, none, none] [(vR s0)] σ K := by
  refine s_astore (L' := [some (vR x0), some (vI x1), some (vI x2), some (vR x3), some (vR s0), none, none, none]) dX6_listenTo_11 rfl (by decide) rfl ?_
  refine s_aload_n (i := 3) dX6_listenTo_13 rfl rfl ?_
  refine s_ifnull (tgt := 22) dX6_listenTo_14 (by decide) (fun q1 => ?_) (fun a2 ea2 => ?_)
  · have h := h.1 q1
    refine s_iconst (v := 0) dX6_listenTo_22 (by decide) ?_
    exact s_ireturn dX6_listenTo_23 rfl rfl (by decide) (by decide) h
  · have h := h.2 a2 ea2
    refine s_aload dX6_listenTo_17 rfl ?_
    refine s_ifnonnull (tgt := 24) dX6_listenTo_19 (by decide) (fun a4 ea4 => ?_) (fun q3 => ?_)
    · have h := h.2 a4 ea4
      refine s_aload_n (i := 3) dX6_listenTo_24 rfl rfl ?_
      refine s_iload_n (i := 2) dX6_listenTo_25 rfl rfl ?_
      obtain ⟨t5, h⟩ := h
      exact t_callV (ci := 5) (as := [(vI x2)]) (S := []) gk dX6_listenTo_26 gX6_103 (by decide) rfl w_668 w_669 ea2 t5 rfl rfl (Nat.le_of_ble_eq_true rfl) (by decide) h
    · have h := h.1 q3
      refine s_iconst (v := 0) dX6_listenTo_22 (by decide) ?_
      exact s_ireturn dX6_listenTo_23 rfl rfl (by decide) (by decide) h
theorem vX6_listenTo_29 {G : GG} (gk : GOK G) {σ : Mm} {K : RES → Mm → Prop} {x0 : Option Nat} {x1 : Int32} {x2 : Int32} {x3 : Option Nat} {x4 : Option Nat} {s0 : Option Nat}
    (h : ∃ a1, x0 = some a1 ∧ (mt σ a1).1 = 7 ∧ ∃ a3, x3 = some a3 ∧ (mt σ a3).1 = 6 ∧ Runs G mX5_outcome rX5_outcome [(vR x3), (vI x2), (vI (mi σ a1 3))] σ (bk G mX6_listenTo rX6_listenTo 0 0 40 [some (vR x0), some (vI x1), some (vI x2), some (vR x3), some (vR x4), some (vR s0), none, none] [] K)) : At G mX6_listenTo rX6_listenTo 0 0 29 [some (vR x0), some (vI x1), some (vI x2), some (vR x3), some (vR x4), none, none, none] [(vR s0)] σ K := by
  refine s_astore (L' := [some (vR x0), some (vI x1), some (vI x2), some (vR x3), some (vR x4), some (vR s0), none, none]) dX6_listenTo_29 rfl (by decide) rfl ?_
  refine s_aload_n (i := 3) dX6_listenTo_31 rfl rfl ?_
  refine s_iload_n (i := 2) dX6_listenTo_32 rfl rfl ?_
  refine s_aload_n (i := 0) dX6_listenTo_33 rfl rfl ?_
  obtain ⟨a1, ea1, h⟩ := h
  obtain ⟨t2, h⟩ := h
  refine t_getI gk dX6_listenTo_34 fX6_29 rfl ea1 t2 ?_
  obtain ⟨a3, ea3, h⟩ := h
  obtain ⟨t4, h⟩ := h
  exact t_callV (ci := 5) (as := [(vI x2), (vI (mi σ a1 3))]) (S := []) gk dX6_listenTo_37 gX6_148 (by decide) rfl w_672 w_673 ea3 t4 rfl rfl (Nat.le_of_ble_eq_true rfl) (by decide) h
theorem vX6_listenTo_40 {G : GG} (gk : GOK G) {σ : Mm} {K : RES → Mm → Prop} {x0 : Option Nat} {x1 : Int32} {x2 : Int32} {x3 : Option Nat} {x4 : Option Nat} {x5 : Option Nat} {s0 : Int32}
    (h : ∃ a1, x0 = some a1 ∧ (mt σ a1).1 = 7 ∧ Runs G mX6_countOutcome rX6_countOutcome [(vR x0), (vI s0)] σ (bk G mX6_listenTo rX6_listenTo 0 0 48 [some (vR x0), some (vI x1), some (vI x2), some (vR x3), some (vR x4), some (vR x5), some (vI s0), none] [] K)) : At G mX6_listenTo rX6_listenTo 0 0 40 [some (vR x0), some (vI x1), some (vI x2), some (vR x3), some (vR x4), some (vR x5), none, none] [(vI s0)] σ K := by
  refine s_istore (L' := [some (vR x0), some (vI x1), some (vI x2), some (vR x3), some (vR x4), some (vR x5), some (vI s0), none]) dX6_listenTo_40 rfl (by decide) rfl ?_
  refine s_aload_n (i := 0) dX6_listenTo_42 rfl rfl ?_
  refine s_iload dX6_listenTo_43 rfl ?_
  obtain ⟨a1, ea1, h⟩ := h
  obtain ⟨t2, h⟩ := h
  exact t_callV (ci := 6) (as := [(vI s0)]) (S := []) gk dX6_listenTo_45 gX6_152 (by decide) rfl w_685 w_686 ea1 t2 rfl rfl (Nat.le_of_ble_eq_true rfl) (by decide) h
theorem vX6_listenTo_48 {G : GG} (gk : GOK G) {σ : Mm} {K : RES → Mm → Prop} {x0 : Option Nat} {x1 : Int32} {x2 : Int32} {x3 : Option Nat} {x4 : Option Nat} {x5 : Option Nat} {x6 : Int32}
    (h : ((¬ x6 = (104 : Int32) → ∃ a2, x0 = some a2 ∧ (mt σ a2).1 = 7 ∧ Runs G mX6_fetch rX6_fetch [(vR x0), (vI x1), (vI x2)] σ (bk G mX6_listenTo rX6_listenTo 0 0 91 [some (vR x0), some (vI x1), some (vI x2), some (vR x3), some (vR x4), some (vR x5), some (vI x6), none] [] K)) ∧ (x6 = (104 : Int32) → ((x5 = none → ∃ a5, x0 = some a5 ∧ (mt σ a5).1 = 7 ∧ Runs G mX6_fetch rX6_fetch [(vR x0), (vI x1), (vI x2)] σ (bk G mX6_listenTo rX6_listenTo 0 0 91 [some (vR x0), some (vI x1), some (vI x2), some (vR x3), some (vR x4), some (vR x5), some (vI x6), none] [] K)) ∧ (∀ a7, x5 = some a7 → ∃ a8, x0 = some a8 ∧ (mt σ a8).1 = 7 ∧ ∃ a10, x3 = some a10 ∧ (mt σ a10).1 = 6 ∧ Runs G mX5_hit rX5_hit [(vR x3), (vR x5), (vI (mi σ a8 4))] σ (bk G mX6_listenTo rX6_listenTo 0 0 70 [some (vR x0), some (vI x1), some (vI x2), some (vR x3), some (vR x4), some (vR x5), some (vI x6), none] [] K)))))) : At G mX6_listenTo rX6_listenTo 0 0 48 [some (vR x0), some (vI x1), some (vI x2), some (vR x3), some (vR x4), some (vR x5), some (vI x6), none] [] σ K := by
  refine s_iload dX6_listenTo_48 rfl ?_
  refine s_bipush (v := 104) dX6_listenTo_50 (by decide) ?_
  refine s_icmp_ne (tgt := 85) dX6_listenTo_52 (by decide) (fun q1 => ?_) (fun q1 => ?_)
  · have h := h.1 q1
    refine s_aload_n (i := 0) dX6_listenTo_85 rfl rfl ?_
    refine s_iload_n (i := 1) dX6_listenTo_86 rfl rfl ?_
    refine s_iload_n (i := 2) dX6_listenTo_87 rfl rfl ?_
    obtain ⟨a2, ea2, h⟩ := h
    obtain ⟨t3, h⟩ := h
    exact t_callV (ci := 6) (as := [(vI x1), (vI x2)]) (S := []) gk dX6_listenTo_88 gX6_160 (by decide) rfl w_701 w_702 ea2 t3 rfl rfl (Nat.le_of_ble_eq_true rfl) (by decide) h
  · have h := h.2 q1
    refine s_aload dX6_listenTo_55 rfl ?_
    refine s_ifnull (tgt := 85) dX6_listenTo_57 (by decide) (fun q4 => ?_) (fun a7 ea7 => ?_)
    · have h := h.1 q4
      refine s_aload_n (i := 0) dX6_listenTo_85 rfl rfl ?_
      refine s_iload_n (i := 1) dX6_listenTo_86 rfl rfl ?_
      refine s_iload_n (i := 2) dX6_listenTo_87 rfl rfl ?_
      obtain ⟨a5, ea5, h⟩ := h
      obtain ⟨t6, h⟩ := h
      exact t_callV (ci := 6) (as := [(vI x1), (vI x2)]) (S := []) gk dX6_listenTo_88 gX6_160 (by decide) rfl w_701 w_702 ea5 t6 rfl rfl (Nat.le_of_ble_eq_true rfl) (by decide) h
    · have h := h.2 a7 ea7
      refine s_aload_n (i := 3) dX6_listenTo_60 rfl rfl ?_
      refine s_aload dX6_listenTo_61 rfl ?_
      refine s_aload_n (i := 0) dX6_listenTo_63 rfl rfl ?_
      obtain ⟨a8, ea8, h⟩ := h
      obtain ⟨t9, h⟩ := h
      refine t_getI gk dX6_listenTo_64 fX6_33 rfl ea8 t9 ?_
      obtain ⟨a10, ea10, h⟩ := h
      obtain ⟨t11, h⟩ := h
      exact t_callV (ci := 5) (as := [(vR x5), (vI (mi σ a8 4))]) (S := []) gk dX6_listenTo_67 gX6_156 (by decide) rfl w_689 w_690 ea10 t11 rfl rfl (Nat.le_of_ble_eq_true rfl) (by decide) h
theorem vX6_listenTo_70 {G : GG} (gk : GOK G) {σ : Mm} {K : RES → Mm → Prop} {x0 : Option Nat} {x1 : Int32} {x2 : Int32} {x3 : Option Nat} {x4 : Option Nat} {x5 : Option Nat} {x6 : Int32} {s0 : Int32}
    (h : ∃ a1, x0 = some a1 ∧ (mt σ a1).1 = 7 ∧ ∀ σ3, σ3 = si σ a1 4 ((mi σ a1 4) + (1 : Int32)) → K (.inl (some (vI s0))) σ3) : At G mX6_listenTo rX6_listenTo 0 0 70 [some (vR x0), some (vI x1), some (vI x2), some (vR x3), some (vR x4), some (vR x5), some (vI x6), none] [(vI s0)] σ K := by
  refine s_istore (L' := [some (vR x0), some (vI x1), some (vI x2), some (vR x3), some (vR x4), some (vR x5), some (vI x6), some (vI s0)]) dX6_listenTo_70 rfl (by decide) rfl ?_
  refine s_aload_n (i := 0) dX6_listenTo_72 rfl rfl ?_
  refine s_dup dX6_listenTo_73 rfl ?_
  obtain ⟨a1, ea1, h⟩ := h
  obtain ⟨t2, h⟩ := h
  refine t_getI gk dX6_listenTo_74 fX6_33 rfl ea1 t2 ?_
  refine s_iconst (v := 1) dX6_listenTo_77 (by decide) ?_
  refine s_iadd dX6_listenTo_78 ?_
  refine t_putI gk dX6_listenTo_79 fX6_33 rfl rfl ea1 t2 ⟨rfl, rfl⟩ (fun σ3 eσ3 mσ3 => ?_)
  replace h := h σ3 eσ3
  refine s_iload dX6_listenTo_82 rfl ?_
  exact s_ireturn dX6_listenTo_84 rfl rfl (by decide) (by decide) h
theorem vX6_listenTo_91 {G : GG} (gk : GOK G) {σ : Mm} {K : RES → Mm → Prop} {x0 : Option Nat} {x1 : Int32} {x2 : Int32} {x3 : Option Nat} {x4 : Option Nat} {x5 : Option Nat} {x6 : Int32} {s0 : Int32}
    (h : ∃ a1, x4 = some a1 ∧ (mt σ a1).1 = 5 ∧ K (.inl (some (vI (mi σ a1 1)))) σ) : At G mX6_listenTo rX6_listenTo 0 0 91 [some (vR x0), some (vI x1), some (vI x2), some (vR x3), some (vR x4), some (vR x5), some (vI x6), none] [(vI s0)] σ K := by
  refine s_pop dX6_listenTo_91 rfl ?_
  refine s_aload dX6_listenTo_92 rfl ?_
  obtain ⟨a1, ea1, h⟩ := h
  obtain ⟨t2, h⟩ := h
  refine t_getI gk dX6_listenTo_94 fX6_144 rfl ea1 t2 ?_
  exact s_ireturn dX6_listenTo_97 rfl rfl (by decide) (by decide) h
theorem vX6_countOutcome_0 {G : GG} (gk : GOK G) {σ : Mm} {K : RES → Mm → Prop} {x0 : Option Nat} {x1 : Int32}
    (h : ((¬ x1 = (104 : Int32) → ((¬ x1 = (99 : Int32) → ((¬ x1 = (101 : Int32) → ∃ a4, x0 = some a4 ∧ (mt σ a4).1 = 7 ∧ ∀ σ6, σ6 = si σ a4 8 ((mi σ a4 8) + (1 : Int32)) → K (.inl none) σ6) ∧ (x1 = (101 : Int32) → ∃ a7, x0 = some a7 ∧ (mt σ a7).1 = 7 ∧ ∀ σ9, σ9 = si σ a7 7 ((mi σ a7 7) + (1 : Int32)) → K (.inl none) σ9))) ∧ (x1 = (99 : Int32) → ∃ a10, x0 = some a10 ∧ (mt σ a10).1 = 7 ∧ ∀ σ12, σ12 = si σ a10 6 ((mi σ a10 6) + (1 : Int32)) → K (.inl none) σ12))) ∧ (x1 = (104 : Int32) → ∃ a13, x0 = some a13 ∧ (mt σ a13).1 = 7 ∧ ∀ σ15, σ15 = si σ a13 5 ((mi σ a13 5) + (1 : Int32)) → K (.inl none) σ15))) : At G mX6_countOutcome rX6_countOutcome 0 0 0 [some (vR x0), some (vI x1)] [] σ K := by
  refine s_iload_n (i := 1) dX6_countOutcome_0 rfl rfl ?_
  refine s_bipush (v := 104) dX6_countOutcome_1 (by decide) ?_
  refine s_icmp_ne (tgt := 19) dX6_countOutcome_3 (by decide) (fun q1 => ?_) (fun q1 => ?_)
  · have h := h.1 q1
    refine s_iload_n (i := 1) dX6_countOutcome_19 rfl rfl ?_
    refine s_bipush (v := 99) dX6_countOutcome_20 (by decide) ?_
    refine s_icmp_ne (tgt := 38) dX6_countOutcome_22 (by decide) (fun q2 => ?_) (fun q2 => ?_)
    · have h := h.1 q2
      refine s_iload_n (i := 1) dX6_countOutcome_38 rfl rfl ?_
      refine s_bipush (v := 101) dX6_countOutcome_39 (by decide) ?_
      refine s_icmp_ne (tgt := 57) dX6_countOutcome_41 (by decide) (fun q3 => ?_) (fun q3 => ?_)
      · have h := h.1 q3
        refine s_aload_n (i := 0) dX6_countOutcome_57 rfl rfl ?_
        refine s_dup dX6_countOutcome_58 rfl ?_
        obtain ⟨a4, ea4, h⟩ := h
        obtain ⟨t5, h⟩ := h
        refine t_getI gk dX6_countOutcome_59 fX6_45 rfl ea4 t5 ?_
        refine s_iconst (v := 1) dX6_countOutcome_62 (by decide) ?_
        refine s_iadd dX6_countOutcome_63 ?_
        refine t_putI gk dX6_countOutcome_64 fX6_45 rfl rfl ea4 t5 ⟨rfl, rfl⟩ (fun σ6 eσ6 mσ6 => ?_)
        replace h := h σ6 eσ6
        exact s_return dX6_countOutcome_67 rfl (by decide) (by decide) h
      · have h := h.2 q3
        refine s_aload_n (i := 0) dX6_countOutcome_44 rfl rfl ?_
        refine s_dup dX6_countOutcome_45 rfl ?_
        obtain ⟨a7, ea7, h⟩ := h
        obtain ⟨t8, h⟩ := h
        refine t_getI gk dX6_countOutcome_46 fX6_42 rfl ea7 t8 ?_
        refine s_iconst (v := 1) dX6_countOutcome_49 (by decide) ?_
        refine s_iadd dX6_countOutcome_50 ?_
        refine t_putI gk dX6_countOutcome_51 fX6_42 rfl rfl ea7 t8 ⟨rfl, rfl⟩ (fun σ9 eσ9 mσ9 => ?_)
        replace h := h σ9 eσ9
        refine s_goto (tgt := 67) dX6_countOutcome_54 (by decide) ?_
        exact s_return dX6_countOutcome_67 rfl (by decide) (by decide) h
    · have h := h.2 q2
      refine s_aload_n (i := 0) dX6_countOutcome_25 rfl rfl ?_
      refine s_dup dX6_countOutcome_26 rfl ?_
      obtain ⟨a10, ea10, h⟩ := h
      obtain ⟨t11, h⟩ := h
      refine t_getI gk dX6_countOutcome_27 fX6_39 rfl ea10 t11 ?_
      refine s_iconst (v := 1) dX6_countOutcome_30 (by decide) ?_
      refine s_iadd dX6_countOutcome_31 ?_
      refine t_putI gk dX6_countOutcome_32 fX6_39 rfl rfl ea10 t11 ⟨rfl, rfl⟩ (fun σ12 eσ12 mσ12 => ?_)
      replace h := h σ12 eσ12
      refine s_goto (tgt := 67) dX6_countOutcome_35 (by decide) ?_
      exact s_return dX6_countOutcome_67 rfl (by decide) (by decide) h
  · have h := h.2 q1
    refine s_aload_n (i := 0) dX6_countOutcome_6 rfl rfl ?_
    refine s_dup dX6_countOutcome_7 rfl ?_
    obtain ⟨a13, ea13, h⟩ := h
    obtain ⟨t14, h⟩ := h
    refine t_getI gk dX6_countOutcome_8 fX6_36 rfl ea13 t14 ?_
    refine s_iconst (v := 1) dX6_countOutcome_11 (by decide) ?_
    refine s_iadd dX6_countOutcome_12 ?_
    refine t_putI gk dX6_countOutcome_13 fX6_36 rfl rfl ea13 t14 ⟨rfl, rfl⟩ (fun σ15 eσ15 mσ15 => ?_)
    replace h := h σ15 eσ15
    refine s_goto (tgt := 67) dX6_countOutcome_16 (by decide) ?_
    exact s_return dX6_countOutcome_67 rfl (by decide) (by decide) h
theorem eX6_countOutcome {G : GG} (gk : GOK G) {σ : Mm} {K : RES → Mm → Prop} {x0 : Option Nat} {x1 : Int32}
    (h : ((¬ x1 = (104 : Int32) → ((¬ x1 = (99 : Int32) → ((¬ x1 = (101 : Int32) → ∃ a4, x0 = some a4 ∧ (mt σ a4).1 = 7 ∧ ∀ σ6, σ6 = si σ a4 8 ((mi σ a4 8) + (1 : Int32)) → K (.inl none) σ6) ∧ (x1 = (101 : Int32) → ∃ a7, x0 = some a7 ∧ (mt σ a7).1 = 7 ∧ ∀ σ9, σ9 = si σ a7 7 ((mi σ a7 7) + (1 : Int32)) → K (.inl none) σ9))) ∧ (x1 = (99 : Int32) → ∃ a10, x0 = some a10 ∧ (mt σ a10).1 = 7 ∧ ∀ σ12, σ12 = si σ a10 6 ((mi σ a10 6) + (1 : Int32)) → K (.inl none) σ12))) ∧ (x1 = (104 : Int32) → ∃ a13, x0 = some a13 ∧ (mt σ a13).1 = 7 ∧ ∀ σ15, σ15 = si σ a13 5 ((mi σ a13 5) + (1 : Int32)) → K (.inl none) σ15))) : Runs G mX6_countOutcome rX6_countOutcome [(vR x0), (vI x1)] σ K := Runs.of (by decide) rfl (Nat.le_of_ble_eq_true rfl) (vX6_countOutcome_0 gk h)
theorem vX6_fetch_0 {G : GG} (gk : GOK G) {σ : Mm} {K : RES → Mm → Prop} {x0 : Option Nat} {x1 : Int32} {x2 : Int32}
    (h : ∃ a1, x0 = some a1 ∧ (mt σ a1).1 = 7 ∧ Runs G mX6_findShelf rX6_findShelf [(vR x0), (vI x1)] σ (bk G mX6_fetch rX6_fetch 0 0 5 [some (vR x0), some (vI x1), some (vI x2), none, none] [] K)) : At G mX6_fetch rX6_fetch 0 0 0 [some (vR x0), some (vI x1), some (vI x2), none, none] [] σ K := by
  refine s_aload_n (i := 0) dX6_fetch_0 rfl rfl ?_
  refine s_iload_n (i := 1) dX6_fetch_1 rfl rfl ?_
  obtain ⟨a1, ea1, h⟩ := h
  obtain ⟨t2, h⟩ := h
  exact t_callV (ci := 6) (as := [(vI x1)]) (S := []) gk dX6_fetch_2 gX6_81 (by decide) rfl w_656 w_657 ea1 t2 rfl rfl (Nat.le_of_ble_eq_true rfl) (by decide) h
theorem eX6_fetch {G : GG} (gk : GOK G) {σ : Mm} {K : RES → Mm → Prop} {x0 : Option Nat} {x1 : Int32} {x2 : Int32}
    (h : ∃ a1, x0 = some a1 ∧ (mt σ a1).1 = 7 ∧ Runs G mX6_findShelf rX6_findShelf [(vR x0), (vI x1)] σ (bk G mX6_fetch rX6_fetch 0 0 5 [some (vR x0), some (vI x1), some (vI x2), none, none] [] K)) : Runs G mX6_fetch rX6_fetch [(vR x0), (vI x1), (vI x2)] σ K := Runs.of (by decide) rfl (Nat.le_of_ble_eq_true rfl) (vX6_fetch_0 gk h)
theorem vX6_fetch_5 {G : GG} (gk : GOK G) {σ : Mm} {K : RES → Mm → Prop} {x0 : Option Nat} {x1 : Int32} {x2 : Int32} {s0 : Option Nat}
    (h : ∃ a1, x0 = some a1 ∧ (mt σ a1).1 = 7 ∧ Runs G mX6_findJar rX6_findJar [(vR x0), (vI x2)] σ (bk G mX6_fetch rX6_fetch 0 0 11 [some (vR x0), some (vI x1), some (vI x2), some (vR s0), none] [] K)) : At G mX6_fetch rX6_fetch 0 0 5 [some (vR x0), some (vI x1), some (vI x2), none, none] [(vR s0)] σ K := by
  refine s_astore_n (i := 3) (L' := [some (vR x0), some (vI x1), some (vI x2), some (vR s0), none]) dX6_fetch_5 rfl rfl (by decide) rfl ?_
  refine s_aload_n (i := 0) dX6_fetch_6 rfl rfl ?_
  refine s_iload_n (i := 2) dX6_fetch_7 rfl rfl ?_
  obtain ⟨a1, ea1, h⟩ := h
  obtain ⟨t2, h⟩ := h
  exact t_callV (ci := 6) (as := [(vI x2)]) (S := []) gk dX6_fetch_8 gX6_75 (by decide) rfl w_383 w_384 ea1 t2 rfl rfl (Nat.le_of_ble_eq_true rfl) (by decide) h
theorem vX6_fetch_11 {G : GG} (gk : GOK G) {σ : Mm} {K : RES → Mm → Prop} {x0 : Option Nat} {x1 : Int32} {x2 : Int32} {x3 : Option Nat} {s0 : Option Nat}
    (h : ((x3 = none → K (.inl (some (vI (0 : Int32)))) σ) ∧ (∀ a2, x3 = some a2 → ((s0 = none → K (.inl (some (vI (0 : Int32)))) σ) ∧ (∀ a4, s0 = some a4 → ∃ a5, x0 = some a5 ∧ (mt σ a5).1 = 7 ∧ (mt σ a2).1 = 6 ∧ Runs G mX5_fetch rX5_fetch [(vR x3), (vI x2), (vR s0), (vI (mi σ a5 3)), (vI (mi σ a5 4))] σ (bk G mX6_fetch rX6_fetch 0 0 39 [some (vR x0), some (vI x1), some (vI x2), some (vR x3), some (vR s0)] [] K)))))) : At G mX6_fetch rX6_fetch 0 0 11 [some (vR x0), some (vI x1), some (vI x2), some (vR x3), none] [(vR s0)] σ K := by
  refine s_astore (L' := [some (vR x0), some (vI x1), some (vI x2), some (vR x3), some (vR s0)]) dX6_fetch_11 rfl (by decide) rfl ?_
  refine s_aload_n (i := 3) dX6_fetch_13 rfl rfl ?_
  refine s_ifnull (tgt := 22) dX6_fetch_14 (by decide) (fun q1 => ?_) (fun a2 ea2 => ?_)
  · have h := h.1 q1
    refine s_iconst (v := 0) dX6_fetch_22 (by decide) ?_
    exact s_ireturn dX6_fetch_23 rfl rfl (by decide) (by decide) h
  · have h := h.2 a2 ea2
    refine s_aload dX6_fetch_17 rfl ?_
    refine s_ifnonnull (tgt := 24) dX6_fetch_19 (by decide) (fun a4 ea4 => ?_) (fun q3 => ?_)
    · have h := h.2 a4 ea4
      refine s_aload_n (i := 3) dX6_fetch_24 rfl rfl ?_
      refine s_iload_n (i := 2) dX6_fetch_25 rfl rfl ?_
      refine s_aload dX6_fetch_26 rfl ?_
      refine s_aload_n (i := 0) dX6_fetch_28 rfl rfl ?_
      obtain ⟨a5, ea5, h⟩ := h
      obtain ⟨t6, h⟩ := h
      refine t_getI gk dX6_fetch_29 fX6_29 rfl ea5 t6 ?_
      refine s_aload_n (i := 0) dX6_fetch_32 rfl rfl ?_
      refine t_getI gk dX6_fetch_33 fX6_33 rfl ea5 t6 ?_
      obtain ⟨t7, h⟩ := h
      exact t_callV (ci := 5) (as := [(vI x2), (vR s0), (vI (mi σ a5 3)), (vI (mi σ a5 4))]) (S := []) gk dX6_fetch_36 gX6_164 (by decide) rfl w_705 w_706 ea2 t7 rfl rfl (Nat.le_of_ble_eq_true rfl) (by decide) h
    · have h := h.1 q3
      refine s_iconst (v := 0) dX6_fetch_22 (by decide) ?_
      exact s_ireturn dX6_fetch_23 rfl rfl (by decide) (by decide) h
theorem vX6_fetch_39 {G : GG} (gk : GOK G) {σ : Mm} {K : RES → Mm → Prop} {x0 : Option Nat} {x1 : Int32} {x2 : Int32} {x3 : Option Nat} {x4 : Option Nat}
    (h : ∃ a1, x0 = some a1 ∧ (mt σ a1).1 = 7 ∧ ∀ σ3, σ3 = si σ a1 4 ((mi σ a1 4) + (1 : Int32)) → K (.inl (some (vI (1 : Int32)))) σ3) : At G mX6_fetch rX6_fetch 0 0 39 [some (vR x0), some (vI x1), some (vI x2), some (vR x3), some (vR x4)] [] σ K := by
  refine s_aload_n (i := 0) dX6_fetch_39 rfl rfl ?_
  refine s_dup dX6_fetch_40 rfl ?_
  obtain ⟨a1, ea1, h⟩ := h
  obtain ⟨t2, h⟩ := h
  refine t_getI gk dX6_fetch_41 fX6_33 rfl ea1 t2 ?_
  refine s_iconst (v := 1) dX6_fetch_44 (by decide) ?_
  refine s_iadd dX6_fetch_45 ?_
  refine t_putI gk dX6_fetch_46 fX6_33 rfl rfl ea1 t2 ⟨rfl, rfl⟩ (fun σ3 eσ3 mσ3 => ?_)
  replace h := h σ3 eσ3
  refine s_iconst (v := 1) dX6_fetch_49 (by decide) ?_
  exact s_ireturn dX6_fetch_50 rfl rfl (by decide) (by decide) h
theorem vX6_countWarmings_0 {G : GG} (gk : GOK G) {σ : Mm} {K : RES → Mm → Prop} {x0 : Option Nat}
    (h : ∃ a1, x0 = some a1 ∧ (mt σ a1).1 = 7 ∧ ∃ a3, mr σ a1 2 = some a3 ∧ ∃ n5, mt σ a3 = (57, n5) ∧ At G mX6_countWarmings rX6_countWarmings 0 0 13 [some (vR x0), some (vI (0 : Int32)), some (vR (mr σ a1 2)), some (vI (nI n5)), some (vI (0 : Int32)), none] [] σ K) : At G mX6_countWarmings rX6_countWarmings 0 0 0 [some (vR x0), none, none, none, none, none] [] σ K := by
  refine s_iconst (v := 0) dX6_countWarmings_0 (by decide) ?_
  refine s_istore_n (i := 1) (L' := [some (vR x0), some (vI (0 : Int32)), none, none, none, none]) dX6_countWarmings_1 rfl rfl (by decide) rfl ?_
  refine s_aload_n (i := 0) dX6_countWarmings_2 rfl rfl ?_
  obtain ⟨a1, ea1, h⟩ := h
  obtain ⟨t2, h⟩ := h
  refine t_getR gk dX6_countWarmings_3 fX6_25 rfl ea1 t2 ?_
  refine s_astore_n (i := 2) (L' := [some (vR x0), some (vI (0 : Int32)), some (vR (mr σ a1 2)), none, none, none]) dX6_countWarmings_6 rfl rfl (by decide) rfl ?_
  refine s_aload_n (i := 2) dX6_countWarmings_7 rfl rfl ?_
  obtain ⟨a3, ea3, h⟩ := h
  obtain ⟨n5, t4, h⟩ := h
  refine t_alen (j := 7) gk dX6_countWarmings_8 (by decide) ea3 t4 ?_
  refine s_istore_n (i := 3) (L' := [some (vR x0), some (vI (0 : Int32)), some (vR (mr σ a1 2)), some (vI (nI n5)), none, none]) dX6_countWarmings_9 rfl rfl (by decide) rfl ?_
  refine s_iconst (v := 0) dX6_countWarmings_10 (by decide) ?_
  refine s_istore (L' := [some (vR x0), some (vI (0 : Int32)), some (vR (mr σ a1 2)), some (vI (nI n5)), some (vI (0 : Int32)), none]) dX6_countWarmings_11 rfl (by decide) rfl ?_
  exact h
theorem eX6_countWarmings {G : GG} (gk : GOK G) {σ : Mm} {K : RES → Mm → Prop} {x0 : Option Nat}
    (h : ∃ a1, x0 = some a1 ∧ (mt σ a1).1 = 7 ∧ ∃ a3, mr σ a1 2 = some a3 ∧ ∃ n5, mt σ a3 = (57, n5) ∧ At G mX6_countWarmings rX6_countWarmings 0 0 13 [some (vR x0), some (vI (0 : Int32)), some (vR (mr σ a1 2)), some (vI (nI n5)), some (vI (0 : Int32)), none] [] σ K) : Runs G mX6_countWarmings rX6_countWarmings [(vR x0)] σ K := Runs.of (by decide) rfl (Nat.le_of_ble_eq_true rfl) (vX6_countWarmings_0 gk h)
theorem vX6_countWarmings_13 {G : GG} (gk : GOK G) {σ : Mm} {K : RES → Mm → Prop} {x0 : Option Nat} {x1 : Int32} {x2 : Option Nat} {x3 : Int32} {x4 : Int32}
    (h : ((x3 ≤ x4 → K (.inl (some (vI x1))) σ) ∧ (¬ x3 ≤ x4 → ∃ a2, x2 = some a2 ∧ ∃ n4, mt σ a2 = (57, n4) ∧ vp_in x4 n4 ∧ ∃ a6, mr σ a2 x4.toNatClampNeg = some a6 ∧ (mt σ a6).1 = 8 ∧ (((mi σ a6 0) = 0 → At G mX6_countWarmings rX6_countWarmings 0 0 13 [some (vR x0), some (vI x1), some (vR x2), some (vI x3), some (vI (x4 + 1)), none] [] σ K) ∧ (¬ (mi σ a6 0) = 0 → At G mX6_countWarmings rX6_countWarmings 0 0 13 [some (vR x0), some (vI (x1 + 1)), some (vR x2), some (vI x3), some (vI (x4 + 1)), none] [] σ K))))) : At G mX6_countWarmings rX6_countWarmings 0 0 13 [some (vR x0), some (vI x1), some (vR x2), some (vI x3), some (vI x4), none] [] σ K := by
  refine s_iload dX6_countWarmings_13 rfl ?_
  refine s_iload_n (i := 3) dX6_countWarmings_15 rfl rfl ?_
  refine s_icmp_ge (tgt := 42) dX6_countWarmings_16 (by decide) (fun q1 => ?_) (fun q1 => ?_)
  · have h := h.1 q1
    refine s_iload_n (i := 1) dX6_countWarmings_42 rfl rfl ?_
    exact s_ireturn dX6_countWarmings_43 rfl rfl (by decide) (by decide) h
  · have h := h.2 q1
    refine s_aload_n (i := 2) dX6_countWarmings_19 rfl rfl ?_
    refine s_iload dX6_countWarmings_20 rfl ?_
    obtain ⟨a2, ea2, h⟩ := h
    obtain ⟨n4, t3, h⟩ := h
    obtain ⟨c5, h⟩ := h
    refine t_aald (j := 7) gk dX6_countWarmings_22 (by decide) (by decide) ea2 t3 c5 ?_
    refine s_astore (L' := [some (vR x0), some (vI x1), some (vR x2), some (vI x3), some (vI x4), some (vR (mr σ a2 x4.toNatClampNeg))]) dX6_countWarmings_23 rfl (by decide) rfl ?_
    refine s_aload dX6_countWarmings_25 rfl ?_
    obtain ⟨a6, ea6, h⟩ := h
    obtain ⟨t7, h⟩ := h
    refine t_getI gk dX6_countWarmings_27 fX6_70 rfl ea6 t7 ?_
    refine s_if_eq (tgt := 36) dX6_countWarmings_30 (by decide) (fun q8 => ?_) (fun q8 => ?_)
    · have h := h.1 q8
      refine s_iinc (v := x4 + 1) (L' := [some (vR x0), some (vI x1), some (vR x2), some (vI x3), some (vI (x4 + 1)), some (vR (mr σ a2 x4.toNatClampNeg))]) dX6_countWarmings_36 rfl rfl rfl (by decide) rfl ?_
      refine s_goto (tgt := 13) dX6_countWarmings_39 (by decide) ?_
      exact h.msk ⟨rfl, ⟨rfl, ⟨rfl, ⟨rfl, ⟨rfl, trivial⟩⟩⟩⟩⟩
    · have h := h.2 q8
      refine s_iinc (v := x1 + 1) (L' := [some (vR x0), some (vI (x1 + 1)), some (vR x2), some (vI x3), some (vI x4), some (vR (mr σ a2 x4.toNatClampNeg))]) dX6_countWarmings_33 rfl rfl rfl (by decide) rfl ?_
      refine s_iinc (v := x4 + 1) (L' := [some (vR x0), some (vI (x1 + 1)), some (vR x2), some (vI x3), some (vI (x4 + 1)), some (vR (mr σ a2 x4.toNatClampNeg))]) dX6_countWarmings_36 rfl rfl rfl (by decide) rfl ?_
      refine s_goto (tgt := 13) dX6_countWarmings_39 (by decide) ?_
      exact h.msk ⟨rfl, ⟨rfl, ⟨rfl, ⟨rfl, ⟨rfl, trivial⟩⟩⟩⟩⟩
theorem vX6_planWarming_0 {G : GG} (gk : GOK G) {σ : Mm} {K : RES → Mm → Prop} {x0 : Option Nat} {x1 : Int32} {x2 : Int32} {x3 : Int32}
    (h : ∃ a1, x0 = some a1 ∧ (mt σ a1).1 = 7 ∧ ∃ a3, mr σ a1 2 = some a3 ∧ ∃ n5, mt σ a3 = (57, n5) ∧ At G mX6_planWarming rX6_planWarming 0 0 25 [some (vR x0), some (vI x1), some (vI x2), some (vI x3), some (vI ((mi σ a1 3) + x3)), some (vI (0 : Int32)), some (vR (mr σ a1 2)), some (vI (nI n5)), some (vI (0 : Int32)), none] [] σ K) : At G mX6_planWarming rX6_planWarming 0 0 0 [some (vR x0), some (vI x1), some (vI x2), some (vI x3), none, none, none, none, none, none] [] σ K := by
  refine s_aload_n (i := 0) dX6_planWarming_0 rfl rfl ?_
  obtain ⟨a1, ea1, h⟩ := h
  obtain ⟨t2, h⟩ := h
  refine t_getI gk dX6_planWarming_1 fX6_29 rfl ea1 t2 ?_
  refine s_iload_n (i := 3) dX6_planWarming_4 rfl rfl ?_
  refine s_iadd dX6_planWarming_5 ?_
  refine s_istore (L' := [some (vR x0), some (vI x1), some (vI x2), some (vI x3), some (vI ((mi σ a1 3) + x3)), none, none, none, none, none]) dX6_planWarming_6 rfl (by decide) rfl ?_
  refine s_iconst (v := 0) dX6_planWarming_8 (by decide) ?_
  refine s_istore (L' := [some (vR x0), some (vI x1), some (vI x2), some (vI x3), some (vI ((mi σ a1 3) + x3)), some (vI (0 : Int32)), none, none, none, none]) dX6_planWarming_9 rfl (by decide) rfl ?_
  refine s_aload_n (i := 0) dX6_planWarming_11 rfl rfl ?_
  refine t_getR gk dX6_planWarming_12 fX6_25 rfl ea1 t2 ?_
  refine s_astore (L' := [some (vR x0), some (vI x1), some (vI x2), some (vI x3), some (vI ((mi σ a1 3) + x3)), some (vI (0 : Int32)), some (vR (mr σ a1 2)), none, none, none]) dX6_planWarming_15 rfl (by decide) rfl ?_
  refine s_aload dX6_planWarming_17 rfl ?_
  obtain ⟨a3, ea3, h⟩ := h
  obtain ⟨n5, t4, h⟩ := h
  refine t_alen (j := 7) gk dX6_planWarming_19 (by decide) ea3 t4 ?_
  refine s_istore (L' := [some (vR x0), some (vI x1), some (vI x2), some (vI x3), some (vI ((mi σ a1 3) + x3)), some (vI (0 : Int32)), some (vR (mr σ a1 2)), some (vI (nI n5)), none, none]) dX6_planWarming_20 rfl (by decide) rfl ?_
  refine s_iconst (v := 0) dX6_planWarming_22 (by decide) ?_
  refine s_istore (L' := [some (vR x0), some (vI x1), some (vI x2), some (vI x3), some (vI ((mi σ a1 3) + x3)), some (vI (0 : Int32)), some (vR (mr σ a1 2)), some (vI (nI n5)), some (vI (0 : Int32)), none]) dX6_planWarming_23 rfl (by decide) rfl ?_
  exact h
theorem eX6_planWarming {G : GG} (gk : GOK G) {σ : Mm} {K : RES → Mm → Prop} {x0 : Option Nat} {x1 : Int32} {x2 : Int32} {x3 : Int32}
    (h : ∃ a1, x0 = some a1 ∧ (mt σ a1).1 = 7 ∧ ∃ a3, mr σ a1 2 = some a3 ∧ ∃ n5, mt σ a3 = (57, n5) ∧ At G mX6_planWarming rX6_planWarming 0 0 25 [some (vR x0), some (vI x1), some (vI x2), some (vI x3), some (vI ((mi σ a1 3) + x3)), some (vI (0 : Int32)), some (vR (mr σ a1 2)), some (vI (nI n5)), some (vI (0 : Int32)), none] [] σ K) : Runs G mX6_planWarming rX6_planWarming [(vR x0), (vI x1), (vI x2), (vI x3)] σ K := Runs.of (by decide) rfl (Nat.le_of_ble_eq_true rfl) (vX6_planWarming_0 gk h)
theorem vX6_planWarming_25 {G : GG} (gk : GOK G) {σ : Mm} {K : RES → Mm → Prop} {x0 : Option Nat} {x1 : Int32} {x2 : Int32} {x3 : Int32} {x4 : Int32} {x5 : Int32} {x6 : Option Nat} {x7 : Int32} {x8 : Int32}
    (h : ((x7 ≤ x8 → ∃ a2, x0 = some a2 ∧ (mt σ a2).1 = 7 ∧ ∃ a4, mr σ a2 2 = some a4 ∧ ∃ n6, mt σ a4 = (57, n6) ∧ At G mX6_planWarming rX6_planWarming 0 0 80 [some (vR x0), some (vI x1), some (vI x2), some (vI x3), some (vI x4), some (vI x5), some (vR (mr σ a2 2)), some (vI (nI n6)), some (vI (0 : Int32)), none] [] σ K) ∧ (¬ x7 ≤ x8 → ∃ a7, x6 = some a7 ∧ ∃ n9, mt σ a7 = (57, n9) ∧ vp_in x8 n9 ∧ ∃ a11, mr σ a7 x8.toNatClampNeg = some a11 ∧ (mt σ a11).1 = 8 ∧ (((mi σ a11 0) = 0 → At G mX6_planWarming rX6_planWarming 0 0 25 [some (vR x0), some (vI x1), some (vI x2), some (vI x3), some (vI x4), some (vI x5), some (vR x6), some (vI x7), some (vI (x8 + 1)), none] [] σ K) ∧ (¬ (mi σ a11 0) = 0 → ((x4 < (mi σ a11 1) → At G mX6_planWarming rX6_planWarming 0 0 25 [some (vR x0), some (vI x1), some (vI x2), some (vI x3), some (vI x4), some (vI x5), some (vR x6), some (vI x7), some (vI (x8 + 1)), none] [] σ K) ∧ (¬ x4 < (mi σ a11 1) → At G mX6_planWarming rX6_planWarming 0 0 25 [some (vR x0), some (vI x1), some (vI x2), some (vI x3), some (vI x4), some (vI (x5 + 1)), some (vR x6), some (vI x7), some (vI (x8 + 1)), none] [] σ K))))))) : At G mX6_planWarming rX6_planWarming 0 0 25 [some (vR x0), some (vI x1), some (vI x2), some (vI x3), some (vI x4), some (vI x5), some (vR x6), some (vI x7), some (vI x8), none] [] σ K := by
  refine s_iload dX6_planWarming_25 rfl ?_
  refine s_iload dX6_planWarming_27 rfl ?_
  refine s_icmp_ge (tgt := 66) dX6_planWarming_29 (by decide) (fun q1 => ?_) (fun q1 => ?_)
  · have h := h.1 q1
    refine s_aload_n (i := 0) dX6_planWarming_66 rfl rfl ?_
    obtain ⟨a2, ea2, h⟩ := h
    obtain ⟨t3, h⟩ := h
    refine t_getR gk dX6_planWarming_67 fX6_25 rfl ea2 t3 ?_
    refine s_astore (L' := [some (vR x0), some (vI x1), some (vI x2), some (vI x3), some (vI x4), some (vI x5), some (vR (mr σ a2 2)), some (vI x7), some (vI x8), none]) dX6_planWarming_70 rfl (by decide) rfl ?_
    refine s_aload dX6_planWarming_72 rfl ?_
    obtain ⟨a4, ea4, h⟩ := h
    obtain ⟨n6, t5, h⟩ := h
    refine t_alen (j := 7) gk dX6_planWarming_74 (by decide) ea4 t5 ?_
    refine s_istore (L' := [some (vR x0), some (vI x1), some (vI x2), some (vI x3), some (vI x4), some (vI x5), some (vR (mr σ a2 2)), some (vI (nI n6)), some (vI x8), none]) dX6_planWarming_75 rfl (by decide) rfl ?_
    refine s_iconst (v := 0) dX6_planWarming_77 (by decide) ?_
    refine s_istore (L' := [some (vR x0), some (vI x1), some (vI x2), some (vI x3), some (vI x4), some (vI x5), some (vR (mr σ a2 2)), some (vI (nI n6)), some (vI (0 : Int32)), none]) dX6_planWarming_78 rfl (by decide) rfl ?_
    exact h
  · have h := h.2 q1
    refine s_aload dX6_planWarming_32 rfl ?_
    refine s_iload dX6_planWarming_34 rfl ?_
    obtain ⟨a7, ea7, h⟩ := h
    obtain ⟨n9, t8, h⟩ := h
    obtain ⟨c10, h⟩ := h
    refine t_aald (j := 7) gk dX6_planWarming_36 (by decide) (by decide) ea7 t8 c10 ?_
    refine s_astore (L' := [some (vR x0), some (vI x1), some (vI x2), some (vI x3), some (vI x4), some (vI x5), some (vR x6), some (vI x7), some (vI x8), some (vR (mr σ a7 x8.toNatClampNeg))]) dX6_planWarming_37 rfl (by decide) rfl ?_
    refine s_aload dX6_planWarming_39 rfl ?_
    obtain ⟨a11, ea11, h⟩ := h
    obtain ⟨t12, h⟩ := h
    refine t_getI gk dX6_planWarming_41 fX6_70 rfl ea11 t12 ?_
    refine s_if_eq (tgt := 60) dX6_planWarming_44 (by decide) (fun q13 => ?_) (fun q13 => ?_)
    · have h := h.1 q13
      refine s_iinc (v := x8 + 1) (L' := [some (vR x0), some (vI x1), some (vI x2), some (vI x3), some (vI x4), some (vI x5), some (vR x6), some (vI x7), some (vI (x8 + 1)), some (vR (mr σ a7 x8.toNatClampNeg))]) dX6_planWarming_60 rfl rfl rfl (by decide) rfl ?_
      refine s_goto (tgt := 25) dX6_planWarming_63 (by decide) ?_
      exact h.msk ⟨rfl, ⟨rfl, ⟨rfl, ⟨rfl, ⟨rfl, ⟨rfl, ⟨rfl, ⟨rfl, ⟨rfl, trivial⟩⟩⟩⟩⟩⟩⟩⟩⟩
    · have h := h.2 q13
      refine s_aload dX6_planWarming_47 rfl ?_
      refine t_getI gk dX6_planWarming_49 fX6_167 rfl ea11 t12 ?_
      refine s_iload dX6_planWarming_52 rfl ?_
      refine s_icmp_gt (tgt := 60) dX6_planWarming_54 (by decide) (fun q14 => ?_) (fun q14 => ?_)
      · have h := h.1 q14
        refine s_iinc (v := x8 + 1) (L' := [some (vR x0), some (vI x1), some (vI x2), some (vI x3), some (vI x4), some (vI x5), some (vR x6), some (vI x7), some (vI (x8 + 1)), some (vR (mr σ a7 x8.toNatClampNeg))]) dX6_planWarming_60 rfl rfl rfl (by decide) rfl ?_
        refine s_goto (tgt := 25) dX6_planWarming_63 (by decide) ?_
        exact h.msk ⟨rfl, ⟨rfl, ⟨rfl, ⟨rfl, ⟨rfl, ⟨rfl, ⟨rfl, ⟨rfl, ⟨rfl, trivial⟩⟩⟩⟩⟩⟩⟩⟩⟩
      · have h := h.2 q14
        refine s_iinc (v := x5 + 1) (L' := [some (vR x0), some (vI x1), some (vI x2), some (vI x3), some (vI x4), some (vI (x5 + 1)), some (vR x6), some (vI x7), some (vI x8), some (vR (mr σ a7 x8.toNatClampNeg))]) dX6_planWarming_57 rfl rfl rfl (by decide) rfl ?_
        refine s_iinc (v := x8 + 1) (L' := [some (vR x0), some (vI x1), some (vI x2), some (vI x3), some (vI x4), some (vI (x5 + 1)), some (vR x6), some (vI x7), some (vI (x8 + 1)), some (vR (mr σ a7 x8.toNatClampNeg))]) dX6_planWarming_60 rfl rfl rfl (by decide) rfl ?_
        refine s_goto (tgt := 25) dX6_planWarming_63 (by decide) ?_
        exact h.msk ⟨rfl, ⟨rfl, ⟨rfl, ⟨rfl, ⟨rfl, ⟨rfl, ⟨rfl, ⟨rfl, ⟨rfl, trivial⟩⟩⟩⟩⟩⟩⟩⟩⟩
theorem vX6_planWarming_80 {G : GG} (gk : GOK G) {σ : Mm} {K : RES → Mm → Prop} {x0 : Option Nat} {x1 : Int32} {x2 : Int32} {x3 : Int32} {x4 : Int32} {x5 : Int32} {x6 : Option Nat} {x7 : Int32} {x8 : Int32}
    (h : ((x7 ≤ x8 → ∃ a2, x0 = some a2 ∧ (mt σ a2).1 = 7 ∧ Runs G mX6_sortWarmings rX6_sortWarmings [(vR x0)] σ (bk G mX6_planWarming rX6_planWarming 0 0 140 [some (vR x0), some (vI x1), some (vI x2), some (vI x3), some (vI x4), some (vI x5), some (vR x6), some (vI x7), some (vI x8), none] [] K)) ∧ (¬ x7 ≤ x8 → ∃ a4, x6 = some a4 ∧ ∃ n6, mt σ a4 = (57, n6) ∧ vp_in x8 n6 ∧ ∃ a8, mr σ a4 x8.toNatClampNeg = some a8 ∧ (mt σ a8).1 = 8 ∧ ((¬ (mi σ a8 0) = 0 → At G mX6_planWarming rX6_planWarming 0 0 80 [some (vR x0), some (vI x1), some (vI x2), some (vI x3), some (vI x4), some (vI x5), some (vR x6), some (vI x7), some (vI (x8 + 1)), none] [] σ K) ∧ ((mi σ a8 0) = 0 → ∀ σ11, σ11 = si σ a8 0 (1 : Int32) → ∀ σ12, σ12 = si σ11 a8 1 x4 → ∀ σ13, σ13 = si σ12 a8 2 x1 → isC x2 ∧ ∀ σ14, σ14 = si σ13 a8 3 x2 → ∃ a16, x0 = some a16 ∧ (mt σ a16).1 = 7 ∧ Runs G mX6_sortWarmings rX6_sortWarmings [(vR x0)] σ14 (bk G mX6_planWarming rX6_planWarming 0 0 140 [some (vR x0), some (vI x1), some (vI x2), some (vI x3), some (vI x4), some (vI x5), some (vR x6), some (vI x7), some (vI x8), none] [] K)))))) : At G mX6_planWarming rX6_planWarming 0 0 80 [some (vR x0), some (vI x1), some (vI x2), some (vI x3), some (vI x4), some (vI x5), some (vR x6), some (vI x7), some (vI x8), none] [] σ K := by
  refine s_iload dX6_planWarming_80 rfl ?_
  refine s_iload dX6_planWarming_82 rfl ?_
  refine s_icmp_ge (tgt := 136) dX6_planWarming_84 (by decide) (fun q1 => ?_) (fun q1 => ?_)
  · have h := h.1 q1
    refine s_aload_n (i := 0) dX6_planWarming_136 rfl rfl ?_
    obtain ⟨a2, ea2, h⟩ := h
    obtain ⟨t3, h⟩ := h
    exact t_callV (ci := 6) (as := []) (S := []) gk dX6_planWarming_137 gX6_172 (by decide) rfl w_760 w_761 ea2 t3 rfl rfl (Nat.le_of_ble_eq_true rfl) (by decide) h
  · have h := h.2 q1
    refine s_aload dX6_planWarming_87 rfl ?_
    refine s_iload dX6_planWarming_89 rfl ?_
    obtain ⟨a4, ea4, h⟩ := h
    obtain ⟨n6, t5, h⟩ := h
    obtain ⟨c7, h⟩ := h
    refine t_aald (j := 7) gk dX6_planWarming_91 (by decide) (by decide) ea4 t5 c7 ?_
    refine s_astore (L' := [some (vR x0), some (vI x1), some (vI x2), some (vI x3), some (vI x4), some (vI x5), some (vR x6), some (vI x7), some (vI x8), some (vR (mr σ a4 x8.toNatClampNeg))]) dX6_planWarming_92 rfl (by decide) rfl ?_
    refine s_aload dX6_planWarming_94 rfl ?_
    obtain ⟨a8, ea8, h⟩ := h
    obtain ⟨t9, h⟩ := h
    refine t_getI gk dX6_planWarming_96 fX6_70 rfl ea8 t9 ?_
    refine s_if_ne (tgt := 130) dX6_planWarming_99 (by decide) (fun q10 => ?_) (fun q10 => ?_)
    · have h := h.1 q10
      refine s_iinc (v := x8 + 1) (L' := [some (vR x0), some (vI x1), some (vI x2), some (vI x3), some (vI x4), some (vI x5), some (vR x6), some (vI x7), some (vI (x8 + 1)), some (vR (mr σ a4 x8.toNatClampNeg))]) dX6_planWarming_130 rfl rfl rfl (by decide) rfl ?_
      refine s_goto (tgt := 80) dX6_planWarming_133 (by decide) ?_
      exact h.msk ⟨rfl, ⟨rfl, ⟨rfl, ⟨rfl, ⟨rfl, ⟨rfl, ⟨rfl, ⟨rfl, ⟨rfl, trivial⟩⟩⟩⟩⟩⟩⟩⟩⟩
    · have h := h.2 q10
      refine s_aload dX6_planWarming_102 rfl ?_
      refine s_iconst (v := 1) dX6_planWarming_104 (by decide) ?_
      refine t_putI gk dX6_planWarming_105 fX6_70 rfl rfl ea8 t9 ⟨rfl, rfl⟩ (fun σ11 eσ11 mσ11 => ?_)
      replace h := h σ11 eσ11
      refine s_aload dX6_planWarming_108 rfl ?_
      refine s_iload dX6_planWarming_110 rfl ?_
      refine t_putI gk dX6_planWarming_112 fX6_167 rfl rfl ea8 (by rw [mσ11]; exact t9) ⟨rfl, rfl⟩ (fun σ12 eσ12 mσ12 => ?_)
      replace h := h σ12 eσ12
      refine s_aload dX6_planWarming_115 rfl ?_
      refine s_iload_n (i := 1) dX6_planWarming_117 rfl rfl ?_
      refine t_putI gk dX6_planWarming_118 fX6_168 rfl rfl ea8 (by rw [mσ12, mσ11]; exact t9) ⟨rfl, rfl⟩ (fun σ13 eσ13 mσ13 => ?_)
      replace h := h σ13 eσ13
      refine s_aload dX6_planWarming_121 rfl ?_
      refine s_iload_n (i := 2) dX6_planWarming_123 rfl rfl ?_
      obtain ⟨c15, h⟩ := h
      refine t_putI gk dX6_planWarming_124 fX6_171 rfl rfl ea8 (by rw [mσ13, mσ12, mσ11]; exact t9) (nf_c c15) (fun σ14 eσ14 mσ14 => ?_)
      replace h := h σ14 eσ14
      refine s_goto (tgt := 136) dX6_planWarming_127 (by decide) ?_
      refine s_aload_n (i := 0) dX6_planWarming_136 rfl rfl ?_
      obtain ⟨a16, ea16, h⟩ := h
      obtain ⟨t17, h⟩ := h
      exact t_callV (ci := 6) (as := []) (S := []) gk dX6_planWarming_137 gX6_172 (by decide) rfl w_760 w_761 ea16 (by rw [mσ14, mσ13, mσ12, mσ11]; exact t17) rfl rfl (Nat.le_of_ble_eq_true rfl) (by decide) (h.msk ⟨rfl, ⟨rfl, ⟨rfl, ⟨rfl, ⟨rfl, ⟨rfl, ⟨rfl, ⟨rfl, ⟨rfl, trivial⟩⟩⟩⟩⟩⟩⟩⟩⟩)
theorem vX6_planWarming_140 {G : GG} (gk : GOK G) {σ : Mm} {K : RES → Mm → Prop} {x0 : Option Nat} {x1 : Int32} {x2 : Int32} {x3 : Int32} {x4 : Int32} {x5 : Int32} {x6 : Option Nat} {x7 : Int32} {x8 : Int32}
    (h : K (.inl (some (vI x5))) σ) : At G mX6_planWarming rX6_planWarming 0 0 140 [some (vR x0), some (vI x1), some (vI x2), some (vI x3), some (vI x4), some (vI x5), some (vR x6), some (vI x7), some (vI x8), none] [] σ K := by
  refine s_iload dX6_planWarming_140 rfl ?_
  exact s_ireturn dX6_planWarming_142 rfl rfl (by decide) (by decide) h
theorem vX6_removeWarming_0 {G : GG} (gk : GOK G) {σ : Mm} {K : RES → Mm → Prop} {x0 : Option Nat} {x1 : Option Nat}
    (h : ∃ a1, x1 = some a1 ∧ (mt σ a1).1 = 8 ∧ ∀ σ3, σ3 = si σ a1 0 (0 : Int32) → ∃ a4, x0 = some a4 ∧ (mt σ a4).1 = 7 ∧ Runs G mX6_sortWarmings rX6_sortWarmings [(vR x0)] σ3 (bk G mX6_removeWarming rX6_removeWarming 0 0 9 [some (vR x0), some (vR x1)] [] K)) : At G mX6_removeWarming rX6_removeWarming 0 0 0 [some (vR x0), some (vR x1)] [] σ K := by
  refine s_aload_n (i := 1) dX6_removeWarming_0 rfl rfl ?_
  refine s_iconst (v := 0) dX6_removeWarming_1 (by decide) ?_
  obtain ⟨a1, ea1, h⟩ := h
  obtain ⟨t2, h⟩ := h
  refine t_putI gk dX6_removeWarming_2 fX6_70 rfl rfl ea1 t2 ⟨rfl, rfl⟩ (fun σ3 eσ3 mσ3 => ?_)
  replace h := h σ3 eσ3
  refine s_aload_n (i := 0) dX6_removeWarming_5 rfl rfl ?_
  obtain ⟨a4, ea4, h⟩ := h
  obtain ⟨t5, h⟩ := h
  exact t_callV (ci := 6) (as := []) (S := []) gk dX6_removeWarming_6 gX6_172 (by decide) rfl w_760 w_761 ea4 (by rw [mσ3]; exact t5) rfl rfl (Nat.le_of_ble_eq_true rfl) (by decide) h
theorem eX6_removeWarming {G : GG} (gk : GOK G) {σ : Mm} {K : RES → Mm → Prop} {x0 : Option Nat} {x1 : Option Nat}
    (h : ∃ a1, x1 = some a1 ∧ (mt σ a1).1 = 8 ∧ ∀ σ3, σ3 = si σ a1 0 (0 : Int32) → ∃ a4, x0 = some a4 ∧ (mt σ a4).1 = 7 ∧ Runs G mX6_sortWarmings rX6_sortWarmings [(vR x0)] σ3 (bk G mX6_removeWarming rX6_removeWarming 0 0 9 [some (vR x0), some (vR x1)] [] K)) : Runs G mX6_removeWarming rX6_removeWarming [(vR x0), (vR x1)] σ K := Runs.of (by decide) rfl (Nat.le_of_ble_eq_true rfl) (vX6_removeWarming_0 gk h)
theorem vX6_removeWarming_9 {G : GG} (gk : GOK G) {σ : Mm} {K : RES → Mm → Prop} {x0 : Option Nat} {x1 : Option Nat}
    (h : K (.inl none) σ) : At G mX6_removeWarming rX6_removeWarming 0 0 9 [some (vR x0), some (vR x1)] [] σ K := by
  exact s_return dX6_removeWarming_9 rfl (by decide) (by decide) h
theorem vX6_sortWarmings_0 {G : GG} (gk : GOK G) {σ : Mm} {K : RES → Mm → Prop} {x0 : Option Nat}
    (h : At G mX6_sortWarmings rX6_sortWarmings 0 0 2 [some (vR x0), some (vI (1 : Int32)), none, none, none] [] σ K) : At G mX6_sortWarmings rX6_sortWarmings 0 0 0 [some (vR x0), none, none, none, none] [] σ K := by
  refine s_iconst (v := 1) dX6_sortWarmings_0 (by decide) ?_
  refine s_istore_n (i := 1) (L' := [some (vR x0), some (vI (1 : Int32)), none, none, none]) dX6_sortWarmings_1 rfl rfl (by decide) rfl ?_
  exact h
theorem eX6_sortWarmings {G : GG} (gk : GOK G) {σ : Mm} {K : RES → Mm → Prop} {x0 : Option Nat}
    (h : At G mX6_sortWarmings rX6_sortWarmings 0 0 2 [some (vR x0), some (vI (1 : Int32)), none, none, none] [] σ K) : Runs G mX6_sortWarmings rX6_sortWarmings [(vR x0)] σ K := Runs.of (by decide) rfl (Nat.le_of_ble_eq_true rfl) (vX6_sortWarmings_0 gk h)
theorem vX6_sortWarmings_2 {G : GG} (gk : GOK G) {σ : Mm} {K : RES → Mm → Prop} {x0 : Option Nat} {x1 : Int32}
    (h : ∃ a1, x0 = some a1 ∧ (mt σ a1).1 = 7 ∧ ∃ a3, mr σ a1 2 = some a3 ∧ ∃ n5, mt σ a3 = (57, n5) ∧ (((nI n5) ≤ x1 → K (.inl none) σ) ∧ (¬ (nI n5) ≤ x1 → At G mX6_sortWarmings rX6_sortWarmings 0 0 13 [some (vR x0), some (vI x1), some (vI x1), none, none] [] σ K))) : At G mX6_sortWarmings rX6_sortWarmings 0 0 2 [some (vR x0), some (vI x1), none, none, none] [] σ K := by
  refine s_iload_n (i := 1) dX6_sortWarmings_2 rfl rfl ?_
  refine s_aload_n (i := 0) dX6_sortWarmings_3 rfl rfl ?_
  obtain ⟨a1, ea1, h⟩ := h
  obtain ⟨t2, h⟩ := h
  refine t_getR gk dX6_sortWarmings_4 fX6_25 rfl ea1 t2 ?_
  obtain ⟨a3, ea3, h⟩ := h
  obtain ⟨n5, t4, h⟩ := h
  refine t_alen (j := 7) gk dX6_sortWarmings_7 (by decide) ea3 t4 ?_
  refine s_icmp_ge (tgt := 75) dX6_sortWarmings_8 (by decide) (fun q6 => ?_) (fun q6 => ?_)
  · have h := h.1 q6
    exact s_return dX6_sortWarmings_75 rfl (by decide) (by decide) h
  · have h := h.2 q6
    refine s_iload_n (i := 1) dX6_sortWarmings_11 rfl rfl ?_
    refine s_istore_n (i := 2) (L' := [some (vR x0), some (vI x1), some (vI x1), none, none]) dX6_sortWarmings_12 rfl rfl (by decide) rfl ?_
    exact h
theorem vX6_sortWarmings_13 {G : GG} (gk : GOK G) {σ : Mm} {K : RES → Mm → Prop} {x0 : Option Nat} {x1 : Int32} {x2 : Int32}
    (h : ((x2 ≤ 0 → At G mX6_sortWarmings rX6_sortWarmings 0 0 2 [some (vR x0), some (vI (x1 + 1)), none, none, none] [] σ K) ∧ (¬ x2 ≤ 0 → ∃ a2, x0 = some a2 ∧ (mt σ a2).1 = 7 ∧ ∃ a4, mr σ a2 2 = some a4 ∧ ∃ n6, mt σ a4 = (57, n6) ∧ vp_in x2 n6 ∧ vp_in (x2 - (1 : Int32)) n6 ∧ ∃ a9, mr σ a4 x2.toNatClampNeg = some a9 ∧ (mt σ a9).1 = 8 ∧ Runs G mX7_isBefore rX7_isBefore [(vR (mr σ a4 x2.toNatClampNeg)), (vR (mr σ a4 (x2 - (1 : Int32)).toNatClampNeg))] σ (bk G mX6_sortWarmings rX6_sortWarmings 0 0 40 [some (vR x0), some (vI x1), some (vI x2), some (vR (mr σ a4 x2.toNatClampNeg)), some (vR (mr σ a4 (x2 - (1 : Int32)).toNatClampNeg))] [] K)))) : At G mX6_sortWarmings rX6_sortWarmings 0 0 13 [some (vR x0), some (vI x1), some (vI x2), none, none] [] σ K := by
  refine s_iload_n (i := 2) dX6_sortWarmings_13 rfl rfl ?_
  refine s_if_le (tgt := 69) dX6_sortWarmings_14 (by decide) (fun q1 => ?_) (fun q1 => ?_)
  · have h := h.1 q1
    refine s_iinc (v := x1 + 1) (L' := [some (vR x0), some (vI (x1 + 1)), some (vI x2), none, none]) dX6_sortWarmings_69 rfl rfl rfl (by decide) rfl ?_
    refine s_goto (tgt := 2) dX6_sortWarmings_72 (by decide) ?_
    exact h.msk ⟨rfl, ⟨rfl, trivial⟩⟩
  · have h := h.2 q1
    refine s_aload_n (i := 0) dX6_sortWarmings_17 rfl rfl ?_
    obtain ⟨a2, ea2, h⟩ := h
    obtain ⟨t3, h⟩ := h
    refine t_getR gk dX6_sortWarmings_18 fX6_25 rfl ea2 t3 ?_
    refine s_iload_n (i := 2) dX6_sortWarmings_21 rfl rfl ?_
    obtain ⟨a4, ea4, h⟩ := h
    obtain ⟨n6, t5, h⟩ := h
    obtain ⟨c7, h⟩ := h
    refine t_aald (j := 7) gk dX6_sortWarmings_22 (by decide) (by decide) ea4 t5 c7 ?_
    refine s_astore_n (i := 3) (L' := [some (vR x0), some (vI x1), some (vI x2), some (vR (mr σ a4 x2.toNatClampNeg)), none]) dX6_sortWarmings_23 rfl rfl (by decide) rfl ?_
    refine s_aload_n (i := 0) dX6_sortWarmings_24 rfl rfl ?_
    refine t_getR gk dX6_sortWarmings_25 fX6_25 rfl ea2 t3 ?_
    refine s_iload_n (i := 2) dX6_sortWarmings_28 rfl rfl ?_
    refine s_iconst (v := 1) dX6_sortWarmings_29 (by decide) ?_
    refine s_isub dX6_sortWarmings_30 ?_
    obtain ⟨c8, h⟩ := h
    refine t_aald (j := 7) gk dX6_sortWarmings_31 (by decide) (by decide) ea4 t5 c8 ?_
    refine s_astore (L' := [some (vR x0), some (vI x1), some (vI x2), some (vR (mr σ a4 x2.toNatClampNeg)), some (vR (mr σ a4 (x2 - (1 : Int32)).toNatClampNeg))]) dX6_sortWarmings_32 rfl (by decide) rfl ?_
    refine s_aload_n (i := 3) dX6_sortWarmings_34 rfl rfl ?_
    refine s_aload dX6_sortWarmings_35 rfl ?_
    obtain ⟨a9, ea9, h⟩ := h
    obtain ⟨t10, h⟩ := h
    exact t_callV (ci := 7) (as := [(vR (mr σ a4 (x2 - (1 : Int32)).toNatClampNeg))]) (S := []) gk dX6_sortWarmings_37 gX6_175 (by decide) rfl w_764 w_765 ea9 t10 rfl rfl (Nat.le_of_ble_eq_true rfl) (by decide) h
theorem vX6_sortWarmings_40 {G : GG} (gk : GOK G) {σ : Mm} {K : RES → Mm → Prop} {x0 : Option Nat} {x1 : Int32} {x2 : Int32} {x3 : Option Nat} {x4 : Option Nat} {s0 : Int32}
    (h : ((¬ s0 = 0 → ∃ a2, x0 = some a2 ∧ (mt σ a2).1 = 7 ∧ ∃ a4, mr σ a2 2 = some a4 ∧ ∃ n6, mt σ a4 = (57, n6) ∧ vp_in x2 n6 ∧ ∃ a9, x4 = some a9 ∧ (mt σ a9).1 = 8 ∧ ∀ σ8, σ8 = sr σ a4 x2.toNatClampNeg x4 → ∃ a11, mr σ8 a2 2 = some a11 ∧ ∃ n13, mt σ a11 = (57, n13) ∧ vp_in (x2 - (1 : Int32)) n13 ∧ ∃ a16, x3 = some a16 ∧ (mt σ a16).1 = 8 ∧ ∀ σ15, σ15 = sr σ8 a11 (x2 - (1 : Int32)).toNatClampNeg x3 → At G mX6_sortWarmings rX6_sortWarmings 0 0 13 [some (vR x0), some (vI x1), some (vI (x2 + (-1))), none, none] [] σ15 K) ∧ (s0 = 0 → At G mX6_sortWarmings rX6_sortWarmings 0 0 2 [some (vR x0), some (vI (x1 + 1)), none, none, none] [] σ K))) : At G mX6_sortWarmings rX6_sortWarmings 0 0 40 [some (vR x0), some (vI x1), some (vI x2), some (vR x3), some (vR x4)] [(vI s0)] σ K := by
  refine s_if_ne (tgt := 46) dX6_sortWarmings_40 (by decide) (fun q1 => ?_) (fun q1 => ?_)
  · have h := h.1 q1
    refine s_aload_n (i := 0) dX6_sortWarmings_46 rfl rfl ?_
    obtain ⟨a2, ea2, h⟩ := h
    obtain ⟨t3, h⟩ := h
    refine t_getR gk dX6_sortWarmings_47 fX6_25 rfl ea2 t3 ?_
    refine s_iload_n (i := 2) dX6_sortWarmings_50 rfl rfl ?_
    refine s_aload dX6_sortWarmings_51 rfl ?_
    obtain ⟨a4, ea4, h⟩ := h
    obtain ⟨n6, t5, h⟩ := h
    obtain ⟨c7, h⟩ := h
    obtain ⟨a9, ea9, h⟩ := h
    obtain ⟨t10, h⟩ := h
    refine t_aast (j := 7) (ci := 7) gk dX6_sortWarmings_53 (by decide) (by decide) (by decide) rfl ea4 t5 ea9 t10 c7 (fun σ8 eσ8 mσ8 => ?_)
    replace h := h σ8 eσ8
    refine s_aload_n (i := 0) dX6_sortWarmings_54 rfl rfl ?_
    refine t_getR gk dX6_sortWarmings_55 fX6_25 rfl ea2 (by rw [mσ8]; exact t3) ?_
    refine s_iload_n (i := 2) dX6_sortWarmings_58 rfl rfl ?_
    refine s_iconst (v := 1) dX6_sortWarmings_59 (by decide) ?_
    refine s_isub dX6_sortWarmings_60 ?_
    refine s_aload_n (i := 3) dX6_sortWarmings_61 rfl rfl ?_
    obtain ⟨a11, ea11, h⟩ := h
    obtain ⟨n13, t12, h⟩ := h
    obtain ⟨c14, h⟩ := h
    obtain ⟨a16, ea16, h⟩ := h
    obtain ⟨t17, h⟩ := h
    refine t_aast (j := 7) (ci := 7) gk dX6_sortWarmings_62 (by decide) (by decide) (by decide) rfl ea11 (by rw [mσ8]; exact t12) ea16 (by rw [mσ8]; exact t17) c14 (fun σ15 eσ15 mσ15 => ?_)
    replace h := h σ15 eσ15
    refine s_iinc (v := x2 + (-1)) (L' := [some (vR x0), some (vI x1), some (vI (x2 + (-1))), some (vR x3), some (vR x4)]) dX6_sortWarmings_63 rfl rfl rfl (by decide) rfl ?_
    refine s_goto (tgt := 13) dX6_sortWarmings_66 (by decide) ?_
    exact h.msk ⟨rfl, ⟨rfl, ⟨rfl, trivial⟩⟩⟩
  · have h := h.2 q1
    refine s_goto (tgt := 69) dX6_sortWarmings_43 (by decide) ?_
    refine s_iinc (v := x1 + 1) (L' := [some (vR x0), some (vI (x1 + 1)), some (vI x2), some (vR x3), some (vR x4)]) dX6_sortWarmings_69 rfl rfl rfl (by decide) rfl ?_
    refine s_goto (tgt := 2) dX6_sortWarmings_72 (by decide) ?_
    exact h.msk ⟨rfl, ⟨rfl, trivial⟩⟩
theorem vX6_letPass_0 {G : GG} (gk : GOK G) {σ : Mm} {K : RES → Mm → Prop} {x0 : Option Nat} {x1 : Int32}
    (h : At G mX6_letPass rX6_letPass 0 0 4 [some (vR x0), some (vI x1), some (vI (0 : Int32)), some (vI (0 : Int32)), none, none, none, none] [] σ K) : At G mX6_letPass rX6_letPass 0 0 0 [some (vR x0), some (vI x1), none, none, none, none, none, none] [] σ K := by
  refine s_iconst (v := 0) dX6_letPass_0 (by decide) ?_
  refine s_istore_n (i := 2) (L' := [some (vR x0), some (vI x1), some (vI (0 : Int32)), none, none, none, none, none]) dX6_letPass_1 rfl rfl (by decide) rfl ?_
  refine s_iconst (v := 0) dX6_letPass_2 (by decide) ?_
  refine s_istore_n (i := 3) (L' := [some (vR x0), some (vI x1), some (vI (0 : Int32)), some (vI (0 : Int32)), none, none, none, none]) dX6_letPass_3 rfl rfl (by decide) rfl ?_
  exact h
theorem eX6_letPass {G : GG} (gk : GOK G) {σ : Mm} {K : RES → Mm → Prop} {x0 : Option Nat} {x1 : Int32}
    (h : At G mX6_letPass rX6_letPass 0 0 4 [some (vR x0), some (vI x1), some (vI (0 : Int32)), some (vI (0 : Int32)), none, none, none, none] [] σ K) : Runs G mX6_letPass rX6_letPass [(vR x0), (vI x1)] σ K := Runs.of (by decide) rfl (Nat.le_of_ble_eq_true rfl) (vX6_letPass_0 gk h)
theorem vX6_letPass_4 {G : GG} (gk : GOK G) {σ : Mm} {K : RES → Mm → Prop} {x0 : Option Nat} {x1 : Int32} {x2 : Int32} {x3 : Int32}
    (h : ((x1 ≤ x3 → K (.inl (some (vI x2))) σ) ∧ (¬ x1 ≤ x3 → ∃ a2, x0 = some a2 ∧ (mt σ a2).1 = 7 ∧ ∀ σ4, σ4 = si σ a2 3 ((mi σ a2 3) + (1 : Int32)) → ∃ a5, mr σ4 a2 2 = some a5 ∧ ∃ n7, mt σ a5 = (57, n7) ∧ At G mX6_letPass rX6_letPass 0 0 33 [some (vR x0), some (vI x1), some (vI x2), some (vI x3), some (vR (mr σ4 a2 2)), some (vI (nI n7)), some (vI (0 : Int32)), none] [] σ4 K))) : At G mX6_letPass rX6_letPass 0 0 4 [some (vR x0), some (vI x1), some (vI x2), some (vI x3), none, none, none, none] [] σ K := by
  refine s_iload_n (i := 3) dX6_letPass_4 rfl rfl ?_
  refine s_iload_n (i := 1) dX6_letPass_5 rfl rfl ?_
  refine s_icmp_ge (tgt := 114) dX6_letPass_6 (by decide) (fun q1 => ?_) (fun q1 => ?_)
  · have h := h.1 q1
    refine s_iload_n (i := 2) dX6_letPass_114 rfl rfl ?_
    exact s_ireturn dX6_letPass_115 rfl rfl (by decide) (by decide) h
  · have h := h.2 q1
    refine s_aload_n (i := 0) dX6_letPass_9 rfl rfl ?_
    refine s_dup dX6_letPass_10 rfl ?_
    obtain ⟨a2, ea2, h⟩ := h
    obtain ⟨t3, h⟩ := h
    refine t_getI gk dX6_letPass_11 fX6_29 rfl ea2 t3 ?_
    refine s_iconst (v := 1) dX6_letPass_14 (by decide) ?_
    refine s_iadd dX6_letPass_15 ?_
    refine t_putI gk dX6_letPass_16 fX6_29 rfl rfl ea2 t3 ⟨rfl, rfl⟩ (fun σ4 eσ4 mσ4 => ?_)
    replace h := h σ4 eσ4
    refine s_aload_n (i := 0) dX6_letPass_19 rfl rfl ?_
    refine t_getR gk dX6_letPass_20 fX6_25 rfl ea2 (by rw [mσ4]; exact t3) ?_
    refine s_astore (L' := [some (vR x0), some (vI x1), some (vI x2), some (vI x3), some (vR (mr σ4 a2 2)), none, none, none]) dX6_letPass_23 rfl (by decide) rfl ?_
    refine s_aload dX6_letPass_25 rfl ?_
    obtain ⟨a5, ea5, h⟩ := h
    obtain ⟨n7, t6, h⟩ := h
    refine t_alen (j := 7) gk dX6_letPass_27 (by decide) ea5 (by rw [mσ4]; exact t6) ?_
    refine s_istore (L' := [some (vR x0), some (vI x1), some (vI x2), some (vI x3), some (vR (mr σ4 a2 2)), some (vI (nI n7)), none, none]) dX6_letPass_28 rfl (by decide) rfl ?_
    refine s_iconst (v := 0) dX6_letPass_30 (by decide) ?_
    refine s_istore (L' := [some (vR x0), some (vI x1), some (vI x2), some (vI x3), some (vR (mr σ4 a2 2)), some (vI (nI n7)), some (vI (0 : Int32)), none]) dX6_letPass_31 rfl (by decide) rfl ?_
    exact h
theorem vX6_letPass_33 {G : GG} (gk : GOK G) {σ : Mm} {K : RES → Mm → Prop} {x0 : Option Nat} {x1 : Int32} {x2 : Int32} {x3 : Int32} {x4 : Option Nat} {x5 : Int32} {x6 : Int32}
    (h : ((x5 ≤ x6 → ∃ a2, x0 = some a2 ∧ (mt σ a2).1 = 7 ∧ Runs G mX6_sortWarmings rX6_sortWarmings [(vR x0)] σ (bk G mX6_letPass rX6_letPass 0 0 108 [some (vR x0), some (vI x1), some (vI x2), some (vI x3), some (vR x4), some (vI x5), some (vI x6), none] [] K)) ∧ (¬ x5 ≤ x6 → ∃ a4, x4 = some a4 ∧ ∃ n6, mt σ a4 = (57, n6) ∧ vp_in x6 n6 ∧ ∃ a8, mr σ a4 x6.toNatClampNeg = some a8 ∧ (mt σ a8).1 = 8 ∧ (((mi σ a8 0) = 0 → At G mX6_letPass rX6_letPass 0 0 33 [some (vR x0), some (vI x1), some (vI x2), some (vI x3), some (vR x4), some (vI x5), some (vI (x6 + 1)), none] [] σ K) ∧ (¬ (mi σ a8 0) = 0 → ∃ a11, x0 = some a11 ∧ (mt σ a11).1 = 7 ∧ ((¬ (mi σ a8 1) = (mi σ a11 3) → At G mX6_letPass rX6_letPass 0 0 33 [some (vR x0), some (vI x1), some (vI x2), some (vI x3), some (vR x4), some (vI x5), some (vI (x6 + 1)), none] [] σ K) ∧ ((mi σ a8 1) = (mi σ a11 3) → Runs G mX6_fetch rX6_fetch [(vR x0), (vI (mi σ a8 2)), (vI (mi σ a8 3))] σ (bk G mX6_letPass rX6_letPass 0 0 82 [some (vR x0), some (vI x1), some (vI x2), some (vI x3), some (vR x4), some (vI x5), some (vI x6), some (vR (mr σ a4 x6.toNatClampNeg))] [(vI x2)] K)))))))) : At G mX6_letPass rX6_letPass 0 0 33 [some (vR x0), some (vI x1), some (vI x2), some (vI x3), some (vR x4), some (vI x5), some (vI x6), none] [] σ K := by
  refine s_iload dX6_letPass_33 rfl ?_
  refine s_iload dX6_letPass_35 rfl ?_
  refine s_icmp_ge (tgt := 104) dX6_letPass_37 (by decide) (fun q1 => ?_) (fun q1 => ?_)
  · have h := h.1 q1
    refine s_aload_n (i := 0) dX6_letPass_104 rfl rfl ?_
    obtain ⟨a2, ea2, h⟩ := h
    obtain ⟨t3, h⟩ := h
    exact t_callV (ci := 6) (as := []) (S := []) gk dX6_letPass_105 gX6_172 (by decide) rfl w_760 w_761 ea2 t3 rfl rfl (Nat.le_of_ble_eq_true rfl) (by decide) h
  · have h := h.2 q1
    refine s_aload dX6_letPass_40 rfl ?_
    refine s_iload dX6_letPass_42 rfl ?_
    obtain ⟨a4, ea4, h⟩ := h
    obtain ⟨n6, t5, h⟩ := h
    obtain ⟨c7, h⟩ := h
    refine t_aald (j := 7) gk dX6_letPass_44 (by decide) (by decide) ea4 t5 c7 ?_
    refine s_astore (L' := [some (vR x0), some (vI x1), some (vI x2), some (vI x3), some (vR x4), some (vI x5), some (vI x6), some (vR (mr σ a4 x6.toNatClampNeg))]) dX6_letPass_45 rfl (by decide) rfl ?_
    refine s_aload dX6_letPass_47 rfl ?_
    obtain ⟨a8, ea8, h⟩ := h
    obtain ⟨t9, h⟩ := h
    refine t_getI gk dX6_letPass_49 fX6_70 rfl ea8 t9 ?_
    refine s_if_eq (tgt := 98) dX6_letPass_52 (by decide) (fun q10 => ?_) (fun q10 => ?_)
    · have h := h.1 q10
      refine s_iinc (v := x6 + 1) (L' := [some (vR x0), some (vI x1), some (vI x2), some (vI x3), some (vR x4), some (vI x5), some (vI (x6 + 1)), some (vR (mr σ a4 x6.toNatClampNeg))]) dX6_letPass_98 rfl rfl rfl (by decide) rfl ?_
      refine s_goto (tgt := 33) dX6_letPass_101 (by decide) ?_
      exact h.msk ⟨rfl, ⟨rfl, ⟨rfl, ⟨rfl, ⟨rfl, ⟨rfl, ⟨rfl, trivial⟩⟩⟩⟩⟩⟩⟩
    · have h := h.2 q10
      refine s_aload dX6_letPass_55 rfl ?_
      refine t_getI gk dX6_letPass_57 fX6_167 rfl ea8 t9 ?_
      refine s_aload_n (i := 0) dX6_letPass_60 rfl rfl ?_
      obtain ⟨a11, ea11, h⟩ := h
      obtain ⟨t12, h⟩ := h
      refine t_getI gk dX6_letPass_61 fX6_29 rfl ea11 t12 ?_
      refine s_icmp_ne (tgt := 98) dX6_letPass_64 (by decide) (fun q13 => ?_) (fun q13 => ?_)
      · have h := h.1 q13
        refine s_iinc (v := x6 + 1) (L' := [some (vR x0), some (vI x1), some (vI x2), some (vI x3), some (vR x4), some (vI x5), some (vI (x6 + 1)), some (vR (mr σ a4 x6.toNatClampNeg))]) dX6_letPass_98 rfl rfl rfl (by decide) rfl ?_
        refine s_goto (tgt := 33) dX6_letPass_101 (by decide) ?_
        exact h.msk ⟨rfl, ⟨rfl, ⟨rfl, ⟨rfl, ⟨rfl, ⟨rfl, ⟨rfl, trivial⟩⟩⟩⟩⟩⟩⟩
      · have h := h.2 q13
        refine s_iload_n (i := 2) dX6_letPass_67 rfl rfl ?_
        refine s_aload_n (i := 0) dX6_letPass_68 rfl rfl ?_
        refine s_aload dX6_letPass_69 rfl ?_
        refine t_getI gk dX6_letPass_71 fX6_168 rfl ea8 t9 ?_
        refine s_aload dX6_letPass_74 rfl ?_
        refine t_getI gk dX6_letPass_76 fX6_171 rfl ea8 t9 ?_
        exact t_callV (ci := 6) (as := [(vI (mi σ a8 2)), (vI (mi σ a8 3))]) (S := [(vI x2)]) gk dX6_letPass_79 gX6_160 (by decide) rfl w_701 w_702 ea11 t12 rfl rfl (Nat.le_of_ble_eq_true rfl) (by decide) h
theorem vX6_letPass_82 {G : GG} (gk : GOK G) {σ : Mm} {K : RES → Mm → Prop} {x0 : Option Nat} {x1 : Int32} {x2 : Int32} {x3 : Int32} {x4 : Option Nat} {x5 : Int32} {x6 : Int32} {x7 : Option Nat} {s0 : Int32} {s1 : Int32}
    (h : ((s0 = 0 → ∃ a2, x7 = some a2 ∧ (mt σ a2).1 = 8 ∧ ∀ σ4, σ4 = si σ a2 0 (0 : Int32) → At G mX6_letPass rX6_letPass 0 0 33 [some (vR x0), some (vI x1), some (vI (s1 + (0 : Int32))), some (vI x3), some (vR x4), some (vI x5), some (vI (x6 + 1)), none] [] σ4 K) ∧ (¬ s0 = 0 → ∃ a5, x7 = some a5 ∧ (mt σ a5).1 = 8 ∧ ∀ σ7, σ7 = si σ a5 0 (0 : Int32) → At G mX6_letPass rX6_letPass 0 0 33 [some (vR x0), some (vI x1), some (vI (s1 + (1 : Int32))), some (vI x3), some (vR x4), some (vI x5), some (vI (x6 + 1)), none] [] σ7 K))) : At G mX6_letPass rX6_letPass 0 0 82 [some (vR x0), some (vI x1), some (vI x2), some (vI x3), some (vR x4), some (vI x5), some (vI x6), some (vR x7)] [(vI s0), (vI s1)] σ K := by
  refine s_if_eq (tgt := 89) dX6_letPass_82 (by decide) (fun q1 => ?_) (fun q1 => ?_)
  · have h := h.1 q1
    refine s_iconst (v := 0) dX6_letPass_89 (by decide) ?_
    refine s_iadd dX6_letPass_90 ?_
    refine s_istore_n (i := 2) (L' := [some (vR x0), some (vI x1), some (vI (s1 + (0 : Int32))), some (vI x3), some (vR x4), some (vI x5), some (vI x6), some (vR x7)]) dX6_letPass_91 rfl rfl (by decide) rfl ?_
    refine s_aload dX6_letPass_92 rfl ?_
    refine s_iconst (v := 0) dX6_letPass_94 (by decide) ?_
    obtain ⟨a2, ea2, h⟩ := h
    obtain ⟨t3, h⟩ := h
    refine t_putI gk dX6_letPass_95 fX6_70 rfl rfl ea2 t3 ⟨rfl, rfl⟩ (fun σ4 eσ4 mσ4 => ?_)
    replace h := h σ4 eσ4
    refine s_iinc (v := x6 + 1) (L' := [some (vR x0), some (vI x1), some (vI (s1 + (0 : Int32))), some (vI x3), some (vR x4), some (vI x5), some (vI (x6 + 1)), some (vR x7)]) dX6_letPass_98 rfl rfl rfl (by decide) rfl ?_
    refine s_goto (tgt := 33) dX6_letPass_101 (by decide) ?_
    exact h.msk ⟨rfl, ⟨rfl, ⟨rfl, ⟨rfl, ⟨rfl, ⟨rfl, ⟨rfl, trivial⟩⟩⟩⟩⟩⟩⟩
  · have h := h.2 q1
    refine s_iconst (v := 1) dX6_letPass_85 (by decide) ?_
    refine s_goto (tgt := 90) dX6_letPass_86 (by decide) ?_
    refine s_iadd dX6_letPass_90 ?_
    refine s_istore_n (i := 2) (L' := [some (vR x0), some (vI x1), some (vI (s1 + (1 : Int32))), some (vI x3), some (vR x4), some (vI x5), some (vI x6), some (vR x7)]) dX6_letPass_91 rfl rfl (by decide) rfl ?_
    refine s_aload dX6_letPass_92 rfl ?_
    refine s_iconst (v := 0) dX6_letPass_94 (by decide) ?_
    obtain ⟨a5, ea5, h⟩ := h
    obtain ⟨t6, h⟩ := h
    refine t_putI gk dX6_letPass_95 fX6_70 rfl rfl ea5 t6 ⟨rfl, rfl⟩ (fun σ7 eσ7 mσ7 => ?_)
    replace h := h σ7 eσ7
    refine s_iinc (v := x6 + 1) (L' := [some (vR x0), some (vI x1), some (vI (s1 + (1 : Int32))), some (vI x3), some (vR x4), some (vI x5), some (vI (x6 + 1)), some (vR x7)]) dX6_letPass_98 rfl rfl rfl (by decide) rfl ?_
    refine s_goto (tgt := 33) dX6_letPass_101 (by decide) ?_
    exact h.msk ⟨rfl, ⟨rfl, ⟨rfl, ⟨rfl, ⟨rfl, ⟨rfl, ⟨rfl, trivial⟩⟩⟩⟩⟩⟩⟩
theorem vX6_letPass_108 {G : GG} (gk : GOK G) {σ : Mm} {K : RES → Mm → Prop} {x0 : Option Nat} {x1 : Int32} {x2 : Int32} {x3 : Int32} {x4 : Option Nat} {x5 : Int32} {x6 : Int32}
    (h : At G mX6_letPass rX6_letPass 0 0 4 [some (vR x0), some (vI x1), some (vI x2), some (vI (x3 + 1)), none, none, none, none] [] σ K) : At G mX6_letPass rX6_letPass 0 0 108 [some (vR x0), some (vI x1), some (vI x2), some (vI x3), some (vR x4), some (vI x5), some (vI x6), none] [] σ K := by
  refine s_iinc (v := x3 + 1) (L' := [some (vR x0), some (vI x1), some (vI x2), some (vI (x3 + 1)), some (vR x4), some (vI x5), some (vI x6), none]) dX6_letPass_108 rfl rfl rfl (by decide) rfl ?_
  refine s_goto (tgt := 4) dX6_letPass_111 (by decide) ?_
  exact h.msk ⟨rfl, ⟨rfl, ⟨rfl, ⟨rfl, trivial⟩⟩⟩⟩
