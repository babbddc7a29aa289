/-! ===== the JDK: J9_floorMod_7cf53, J9_max_7cf53 ===== -/
theorem dJ9_floorMod_7cf53_0 : decode mJ9_floorMod_7cf53.2.1 0 = .ok (.iload_n 0, 1) := by decide +kernel
theorem dJ9_floorMod_7cf53_1 : decode mJ9_floorMod_7cf53.2.1 1 = .ok (.iload_n 1, 1) := by decide +kernel
theorem dJ9_floorMod_7cf53_2 : decode mJ9_floorMod_7cf53.2.1 2 = .ok (.irem, 1) := by decide +kernel
theorem dJ9_floorMod_7cf53_3 : decode mJ9_floorMod_7cf53.2.1 3 = .ok (.istore_n 2, 1) := by decide +kernel
theorem dJ9_floorMod_7cf53_4 : decode mJ9_floorMod_7cf53.2.1 4 = .ok (.iload_n 0, 1) := by decide +kernel
theorem dJ9_floorMod_7cf53_5 : decode mJ9_floorMod_7cf53.2.1 5 = .ok (.iload_n 1, 1) := by decide +kernel
theorem dJ9_floorMod_7cf53_6 : decode mJ9_floorMod_7cf53.2.1 6 = .ok (.ixor, 1) := by decide +kernel
theorem dJ9_floorMod_7cf53_7 : decode mJ9_floorMod_7cf53.2.1 7 = .ok (.ifCond .ge 11, 3) := by decide +kernel
theorem dJ9_floorMod_7cf53_10 : decode mJ9_floorMod_7cf53.2.1 10 = .ok (.iload_n 2, 1) := by decide +kernel
theorem dJ9_floorMod_7cf53_11 : decode mJ9_floorMod_7cf53.2.1 11 = .ok (.ifCond .eq 7, 3) := by decide +kernel
theorem dJ9_floorMod_7cf53_14 : decode mJ9_floorMod_7cf53.2.1 14 = .ok (.iload_n 2, 1) := by decide +kernel
theorem dJ9_floorMod_7cf53_15 : decode mJ9_floorMod_7cf53.2.1 15 = .ok (.iload_n 1, 1) := by decide +kernel
theorem dJ9_floorMod_7cf53_16 : decode mJ9_floorMod_7cf53.2.1 16 = .ok (.iadd, 1) := by decide +kernel
theorem dJ9_floorMod_7cf53_17 : decode mJ9_floorMod_7cf53.2.1 17 = .ok (.ireturn, 1) := by decide +kernel
theorem dJ9_floorMod_7cf53_18 : decode mJ9_floorMod_7cf53.2.1 18 = .ok (.iload_n 2, 1) := by decide +kernel
theorem dJ9_floorMod_7cf53_19 : decode mJ9_floorMod_7cf53.2.1 19 = .ok (.ireturn, 1) := by decide +kernel
theorem dJ9_max_7cf53_0 : decode mJ9_max_7cf53.2.1 0 = .ok (.iload_n 0, 1) := by decide +kernel
theorem dJ9_max_7cf53_1 : decode mJ9_max_7cf53.2.1 1 = .ok (.iload_n 1, 1) := by decide +kernel
theorem dJ9_max_7cf53_2 : decode mJ9_max_7cf53.2.1 2 = .ok (.if_icmp .lt 7, 3) := by decide +kernel
theorem dJ9_max_7cf53_5 : decode mJ9_max_7cf53.2.1 5 = .ok (.iload_n 0, 1) := by decide +kernel
theorem dJ9_max_7cf53_6 : decode mJ9_max_7cf53.2.1 6 = .ok (.goto 4, 3) := by decide +kernel
theorem dJ9_max_7cf53_9 : decode mJ9_max_7cf53.2.1 9 = .ok (.iload_n 1, 1) := by decide +kernel
theorem dJ9_max_7cf53_10 : decode mJ9_max_7cf53.2.1 10 = .ok (.ireturn, 1) := by decide +kernel
theorem vJ9_floorMod_7cf53_0 {G : GG} (gk : GOK G) {σ : Mm} {K : RES → Mm → Prop} {x0 : Int32} {x1 : Int32}
    (h : ¬ x1 = 0 ∧ ((0 ≤ (x0 ^^^ x1) → K (.inl (some (vI (x0 - x0 / x1 * x1)))) σ) ∧ (¬ 0 ≤ (x0 ^^^ x1) → (((x0 - x0 / x1 * x1) = 0 → K (.inl (some (vI (x0 - x0 / x1 * x1)))) σ) ∧ (¬ (x0 - x0 / x1 * x1) = 0 → K (.inl (some (vI ((x0 - x0 / x1 * x1) + x1)))) σ))))) : At G mJ9_floorMod_7cf53 rJ9_floorMod_7cf53 0 0 0 [some (vI x0), some (vI x1), none] [] σ K := by
  refine s_iload_n (i := 0) dJ9_floorMod_7cf53_0 rfl rfl ?_
  refine s_iload_n (i := 1) dJ9_floorMod_7cf53_1 rfl rfl ?_
  obtain ⟨c1, h⟩ := h
  refine s_irem dJ9_floorMod_7cf53_2 c1 ?_
  refine s_istore_n (i := 2) (L' := [some (vI x0), some (vI x1), some (vI (x0 - x0 / x1 * x1))]) dJ9_floorMod_7cf53_3 rfl rfl (by decide) rfl ?_
  refine s_iload_n (i := 0) dJ9_floorMod_7cf53_4 rfl rfl ?_
  refine s_iload_n (i := 1) dJ9_floorMod_7cf53_5 rfl rfl ?_
  refine s_ixor dJ9_floorMod_7cf53_6 ?_
  refine s_if_ge (tgt := 18) dJ9_floorMod_7cf53_7 (by decide) (fun q2 => ?_) (fun q2 => ?_)
  · have h := h.1 q2
    refine s_iload_n (i := 2) dJ9_floorMod_7cf53_18 rfl rfl ?_
    exact s_ireturn dJ9_floorMod_7cf53_19 rfl rfl (by decide) (by decide) h
  · have h := h.2 q2
    refine s_iload_n (i := 2) dJ9_floorMod_7cf53_10 rfl rfl ?_
    refine s_if_eq (tgt := 18) dJ9_floorMod_7cf53_11 (by decide) (fun q3 => ?_) (fun q3 => ?_)
    · have h := h.1 q3
      refine s_iload_n (i := 2) dJ9_floorMod_7cf53_18 rfl rfl ?_
      exact s_ireturn dJ9_floorMod_7cf53_19 rfl rfl (by decide) (by decide) h
    · have h := h.2 q3
      refine s_iload_n (i := 2) dJ9_floorMod_7cf53_14 rfl rfl ?_
      refine s_iload_n (i := 1) dJ9_floorMod_7cf53_15 rfl rfl ?_
      refine s_iadd dJ9_floorMod_7cf53_16 ?_
      exact s_ireturn dJ9_floorMod_7cf53_17 rfl rfl (by decide) (by decide) h
theorem eJ9_floorMod_7cf53 {G : GG} (gk : GOK G) {σ : Mm} {K : RES → Mm → Prop} {x0 : Int32} {x1 : Int32}
    (h : ¬ x1 = 0 ∧ ((0 ≤ (x0 ^^^ x1) → K (.inl (some (vI (x0 - x0 / x1 * x1)))) σ) ∧ (¬ 0 ≤ (x0 ^^^ x1) → (((x0 - x0 / x1 * x1) = 0 → K (.inl (some (vI (x0 - x0 / x1 * x1)))) σ) ∧ (¬ (x0 - x0 / x1 * x1) = 0 → K (.inl (some (vI ((x0 - x0 / x1 * x1) + x1)))) σ))))) : Runs G mJ9_floorMod_7cf53 rJ9_floorMod_7cf53 [(vI x0), (vI x1)] σ K := Runs.ofF (by decide +kernel) rfl (Nat.le_of_ble_eq_true rfl) (vJ9_floorMod_7cf53_0 gk h)
theorem vJ9_max_7cf53_0 {G : GG} (gk : GOK G) {σ : Mm} {K : RES → Mm → Prop} {x0 : Int32} {x1 : Int32}
    (h : ((x0 < x1 → K (.inl (some (vI x1))) σ) ∧ (¬ x0 < x1 → K (.inl (some (vI x0))) σ))) : At G mJ9_max_7cf53 rJ9_max_7cf53 0 0 0 [some (vI x0), some (vI x1)] [] σ K := by
  refine s_iload_n (i := 0) dJ9_max_7cf53_0 rfl rfl ?_
  refine s_iload_n (i := 1) dJ9_max_7cf53_1 rfl rfl ?_
  refine s_icmp_lt (tgt := 9) dJ9_max_7cf53_2 (by decide) (fun q1 => ?_) (fun q1 => ?_)
  · have h := h.1 q1
    refine s_iload_n (i := 1) dJ9_max_7cf53_9 rfl rfl ?_
    exact s_ireturn dJ9_max_7cf53_10 rfl rfl (by decide) (by decide) h
  · have h := h.2 q1
    refine s_iload_n (i := 0) dJ9_max_7cf53_5 rfl rfl ?_
    refine s_goto (tgt := 10) dJ9_max_7cf53_6 (by decide) ?_
    exact s_ireturn dJ9_max_7cf53_10 rfl rfl (by decide) (by decide) h
theorem eJ9_max_7cf53 {G : GG} (gk : GOK G) {σ : Mm} {K : RES → Mm → Prop} {x0 : Int32} {x1 : Int32}
    (h : ((x0 < x1 → K (.inl (some (vI x1))) σ) ∧ (¬ x0 < x1 → K (.inl (some (vI x0))) σ))) : Runs G mJ9_max_7cf53 rJ9_max_7cf53 [(vI x0), (vI x1)] σ K := Runs.ofF (by decide +kernel) rfl (Nat.le_of_ble_eq_true rfl) (vJ9_max_7cf53_0 gk h)
