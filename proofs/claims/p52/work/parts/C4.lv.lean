/-! ===== the law, region by region ===== -/
theorem vL_warmings_0 {G : GG} (gk : GOK G) {uc us : Nat} {σ : Mm} {K : RES → Mm → Prop} {x0 : Option Nat}
    (h : ∃ a1, x0 = some a1 ∧ (mt σ a1).1 = 9 ∧ uc + 0 ≤ 100 ∧ us + 0 ≤ 600 ∧ Runs G mX8_warmingCount rX8_warmingCount [(vR x0)] σ (bk G mL_warmings rL_warmings (uc + 0) (us + 0) 4 [some (vR x0), none, none, none, none] [] K)) : At G mL_warmings rL_warmings uc us 0 [some (vR x0), none, none, none, none] [] σ K := by
  refine s_aload_n (i := 0) dL_warmings_0 rfl rfl ?_
  obtain ⟨a1, ea1, h⟩ := h
  obtain ⟨t2, h⟩ := h
  obtain ⟨u3, u4, h⟩ := h
  exact t_callV (rmY := rX8_warmingCount) (ci := 8) (as := []) (S := []) gk dL_warmings_1 gL_280 (by decide) rfl w_1030 w_1031 ea1 t2 rfl rfl (Nat.le_of_ble_eq_true rfl) ⟨by decide, by decide, u3, u4⟩ h
theorem eL_warmings {G : GG} (gk : GOK G) {σ : Mm} {K : RES → Mm → Prop} {x0 : Option Nat}
    (h : ∃ a1, x0 = some a1 ∧ (mt σ a1).1 = 9 ∧ 0 + 0 ≤ 100 ∧ 0 + 0 ≤ 600 ∧ Runs G mX8_warmingCount rX8_warmingCount [(vR x0)] σ (bk G mL_warmings rL_warmings (0 + 0) (0 + 0) 4 [some (vR x0), none, none, none, none] [] K)) : Runs G mL_warmings rL_warmings [(vR x0)] σ K := Runs.of (by decide) rfl (Nat.le_of_ble_eq_true rfl) (vL_warmings_0 gk h)
theorem vL_warmings_4 {G : GG} (gk : GOK G) {uc us : Nat} {σ : Mm} {K : RES → Mm → Prop} {x0 : Option Nat} {s0 : Int32}
    (h : At G mL_warmings rL_warmings uc us 7 [some (vR x0), some (vI s0), some (vI (0 : Int32)), none, none] [] σ K) : At G mL_warmings rL_warmings uc us 4 [some (vR x0), none, none, none, none] [(vI s0)] σ K := by
  refine s_istore_n (i := 1) (L' := [some (vR x0), some (vI s0), none, none, none]) dL_warmings_4 rfl rfl (by decide) rfl ?_
  refine s_iconst (v := 0) dL_warmings_5 (by decide) ?_
  refine s_istore_n (i := 2) (L' := [some (vR x0), some (vI s0), some (vI (0 : Int32)), none, none]) dL_warmings_6 rfl rfl (by decide) rfl ?_
  exact h
theorem vL_warmings_7 {G : GG} (gk : GOK G) {uc us : Nat} {σ : Mm} {K : RES → Mm → Prop} {x0 : Option Nat} {x1 : Int32} {x2 : Int32}
    (h : ((x1 ≤ x2 → ∃ a2, x0 = some a2 ∧ (mt σ a2).1 = 9 ∧ uc + 0 ≤ 100 ∧ us + 0 ≤ 600 ∧ Runs G mX8_hits rX8_hits [(vR x0)] σ (bk G mL_warmings rL_warmings (uc + 0) (us + 0) 67 [some (vR x0), some (vI x1), some (vI (0 : Int32)), none, none] [] K)) ∧ (¬ x1 ≤ x2 → uc + 1 ≤ 100 ∧ us + 6 ≤ 600 ∧ RunsH G mL_minuteAt hL_minuteAt rL_minuteAt [(vR x0), (vI x2)] σ (bk G mL_warmings rL_warmings (uc + 1) (us + 6) 17 [some (vR x0), some (vI x1), some (vI x2), none, none] [] K)))) : At G mL_warmings rL_warmings uc us 7 [some (vR x0), some (vI x1), some (vI x2), none, none] [] σ K := by
  refine s_iload_n (i := 2) dL_warmings_7 rfl rfl ?_
  refine s_iload_n (i := 1) dL_warmings_8 rfl rfl ?_
  refine s_icmp_ge (tgt := 61) dL_warmings_9 (by decide) (fun q1 => ?_) (fun q1 => ?_)
  · have h := h.1 q1
    refine s_iconst (v := 0) dL_warmings_61 (by decide) ?_
    refine s_istore_n (i := 2) (L' := [some (vR x0), some (vI x1), some (vI (0 : Int32)), none, none]) dL_warmings_62 rfl rfl (by decide) rfl ?_
    refine s_aload_n (i := 0) dL_warmings_63 rfl rfl ?_
    obtain ⟨a2, ea2, h⟩ := h
    obtain ⟨t3, h⟩ := h
    obtain ⟨u4, u5, h⟩ := h
    exact t_callV (rmY := rX8_hits) (ci := 8) (as := []) (S := []) gk dL_warmings_64 gL_289 (by decide) rfl w_1058 w_1059 ea2 t3 rfl rfl (Nat.le_of_ble_eq_true rfl) ⟨by decide, by decide, u4, u5⟩ h
  · have h := h.2 q1
    refine s_aload_n (i := 0) dL_warmings_12 rfl rfl ?_
    refine s_iload_n (i := 2) dL_warmings_13 rfl rfl ?_
    obtain ⟨u6, u7, h⟩ := h
    exact s_callSH (as := [(vR x0), (vI x2)]) (S := []) gk dL_warmings_14 (kL_minuteAt _ _ w_1034) w_1035 rfl rfl (Nat.le_of_ble_eq_true rfl) ⟨by decide, by decide, u6, u7⟩ h
theorem vL_warmings_17 {G : GG} (gk : GOK G) {uc us : Nat} {σ : Mm} {K : RES → Mm → Prop} {x0 : Option Nat} {x1 : Int32} {x2 : Int32} {s0 : Int32}
    (h : ∃ a1, x0 = some a1 ∧ (mt σ a1).1 = 9 ∧ uc + 0 ≤ 100 ∧ us + 0 ≤ 600 ∧ Runs G mX8_time rX8_time [(vR x0)] σ (bk G mL_warmings rL_warmings (uc + 0) (us + 0) 21 [some (vR x0), some (vI x1), some (vI x2), none, none] [(vI s0)] K)) : At G mL_warmings rL_warmings uc us 17 [some (vR x0), some (vI x1), some (vI x2), none, none] [(vI s0)] σ K := by
  refine s_aload_n (i := 0) dL_warmings_17 rfl rfl ?_
  obtain ⟨a1, ea1, h⟩ := h
  obtain ⟨t2, h⟩ := h
  obtain ⟨u3, u4, h⟩ := h
  exact t_callV (rmY := rX8_time) (ci := 8) (as := []) (S := [(vI s0)]) gk dL_warmings_18 gL_277 (by decide) rfl w_929 w_930 ea1 t2 rfl rfl (Nat.le_of_ble_eq_true rfl) ⟨by decide, by decide, u3, u4⟩ h
theorem vL_warmings_21 {G : GG} (gk : GOK G) {uc us : Nat} {σ : Mm} {K : RES → Mm → Prop} {x0 : Option Nat} {x1 : Int32} {x2 : Int32} {s0 : Int32} {s1 : Int32}
    (h : ((s1 ≤ s0 → uc ≤ 100 ∧ us ≤ 600 ∧ K (.inl (some (vI (0 : Int32)))) σ) ∧ (¬ s1 ≤ s0 → ((x2 ≤ 0 → uc + 1 ≤ 100 ∧ us + 6 ≤ 600 ∧ RunsH G mL_warmedAt hL_warmedAt rL_warmedAt [(vR x0), (vI x2)] σ (bk G mL_warmings rL_warmings (uc + 1) (us + 6) 48 [some (vR x0), some (vI x1), some (vI x2), none, none] [] K)) ∧ (¬ x2 ≤ 0 → uc + 1 ≤ 100 ∧ us + 6 ≤ 600 ∧ RunsH G mL_minuteAt hL_minuteAt rL_minuteAt [(vR x0), (vI x2)] σ (bk G mL_warmings rL_warmings (uc + 1) (us + 6) 33 [some (vR x0), some (vI x1), some (vI x2), none, none] [] K)))))) : At G mL_warmings rL_warmings uc us 21 [some (vR x0), some (vI x1), some (vI x2), none, none] [(vI s0), (vI s1)] σ K := by
  refine s_icmp_le (tgt := 53) dL_warmings_21 (by decide) (fun q1 => ?_) (fun q1 => ?_)
  · have h := h.1 q1
    refine s_iconst (v := 0) dL_warmings_53 (by decide) ?_
    obtain ⟨u2, u3, h⟩ := h
    exact s_ireturn dL_warmings_54 rfl rfl u2 u3 h
  · have h := h.2 q1
    refine s_iload_n (i := 2) dL_warmings_24 rfl rfl ?_
    refine s_if_le (tgt := 43) dL_warmings_25 (by decide) (fun q4 => ?_) (fun q4 => ?_)
    · have h := h.1 q4
      refine s_aload_n (i := 0) dL_warmings_43 rfl rfl ?_
      refine s_iload_n (i := 2) dL_warmings_44 rfl rfl ?_
      obtain ⟨u5, u6, h⟩ := h
      exact s_callSH (as := [(vR x0), (vI x2)]) (S := []) gk dL_warmings_45 (kL_warmedAt _ _ w_1050) w_1051 rfl rfl (Nat.le_of_ble_eq_true rfl) ⟨by decide, by decide, u5, u6⟩ h
    · have h := h.2 q4
      refine s_aload_n (i := 0) dL_warmings_28 rfl rfl ?_
      refine s_iload_n (i := 2) dL_warmings_29 rfl rfl ?_
      obtain ⟨u7, u8, h⟩ := h
      exact s_callSH (as := [(vR x0), (vI x2)]) (S := []) gk dL_warmings_30 (kL_minuteAt _ _ w_1034) w_1035 rfl rfl (Nat.le_of_ble_eq_true rfl) ⟨by decide, by decide, u7, u8⟩ h
theorem vL_warmings_33 {G : GG} (gk : GOK G) {uc us : Nat} {σ : Mm} {K : RES → Mm → Prop} {x0 : Option Nat} {x1 : Int32} {x2 : Int32} {s0 : Int32}
    (h : uc + 1 ≤ 100 ∧ us + 6 ≤ 600 ∧ RunsH G mL_minuteAt hL_minuteAt rL_minuteAt [(vR x0), (vI (x2 - (1 : Int32)))] σ (bk G mL_warmings rL_warmings (uc + 1) (us + 6) 40 [some (vR x0), some (vI x1), some (vI x2), none, none] [(vI s0)] K)) : At G mL_warmings rL_warmings uc us 33 [some (vR x0), some (vI x1), some (vI x2), none, none] [(vI s0)] σ K := by
  refine s_aload_n (i := 0) dL_warmings_33 rfl rfl ?_
  refine s_iload_n (i := 2) dL_warmings_34 rfl rfl ?_
  refine s_iconst (v := 1) dL_warmings_35 (by decide) ?_
  refine s_isub dL_warmings_36 ?_
  obtain ⟨u1, u2, h⟩ := h
  exact s_callSH (as := [(vR x0), (vI (x2 - (1 : Int32)))]) (S := [(vI s0)]) gk dL_warmings_37 (kL_minuteAt _ _ w_1034) w_1035 rfl rfl (Nat.le_of_ble_eq_true rfl) ⟨by decide, by decide, u1, u2⟩ h
theorem vL_warmings_40 {G : GG} (gk : GOK G) {uc us : Nat} {σ : Mm} {K : RES → Mm → Prop} {x0 : Option Nat} {x1 : Int32} {x2 : Int32} {s0 : Int32} {s1 : Int32}
    (h : ((s1 < s0 → uc ≤ 100 ∧ us ≤ 600 ∧ K (.inl (some (vI (0 : Int32)))) σ) ∧ (¬ s1 < s0 → uc + 1 ≤ 100 ∧ us + 6 ≤ 600 ∧ RunsH G mL_warmedAt hL_warmedAt rL_warmedAt [(vR x0), (vI x2)] σ (bk G mL_warmings rL_warmings (uc + 1) (us + 6) 48 [some (vR x0), some (vI x1), some (vI x2), none, none] [] K)))) : At G mL_warmings rL_warmings uc us 40 [some (vR x0), some (vI x1), some (vI x2), none, none] [(vI s0), (vI s1)] σ K := by
  refine s_icmp_lt (tgt := 53) dL_warmings_40 (by decide) (fun q1 => ?_) (fun q1 => ?_)
  · have h := h.1 q1
    refine s_iconst (v := 0) dL_warmings_53 (by decide) ?_
    obtain ⟨u2, u3, h⟩ := h
    exact s_ireturn dL_warmings_54 rfl rfl u2 u3 h
  · have h := h.2 q1
    refine s_aload_n (i := 0) dL_warmings_43 rfl rfl ?_
    refine s_iload_n (i := 2) dL_warmings_44 rfl rfl ?_
    obtain ⟨u4, u5, h⟩ := h
    exact s_callSH (as := [(vR x0), (vI x2)]) (S := []) gk dL_warmings_45 (kL_warmedAt _ _ w_1050) w_1051 rfl rfl (Nat.le_of_ble_eq_true rfl) ⟨by decide, by decide, u4, u5⟩ h
theorem vL_warmings_48 {G : GG} (gk : GOK G) {uc us : Nat} {σ : Mm} {K : RES → Mm → Prop} {x0 : Option Nat} {x1 : Int32} {x2 : Int32} {s0 : Int32}
    (h : (((97 : Int32) ≤ s0 → At G mL_warmings rL_warmings uc us 7 [some (vR x0), some (vI x1), some (vI (x2 + 1)), none, none] [] σ K) ∧ (¬ (97 : Int32) ≤ s0 → uc ≤ 100 ∧ us ≤ 600 ∧ K (.inl (some (vI (0 : Int32)))) σ))) : At G mL_warmings rL_warmings uc us 48 [some (vR x0), some (vI x1), some (vI x2), none, none] [(vI s0)] σ K := by
  refine s_bipush (v := 97) dL_warmings_48 (by decide) ?_
  refine s_icmp_ge (tgt := 55) dL_warmings_50 (by decide) (fun q1 => ?_) (fun q1 => ?_)
  · have h := h.1 q1
    refine s_iinc (v := x2 + 1) (L' := [some (vR x0), some (vI x1), some (vI (x2 + 1)), none, none]) dL_warmings_55 rfl rfl rfl (by decide) rfl ?_
    refine s_goto (tgt := 7) dL_warmings_58 (by decide) ?_
    exact h
  · have h := h.2 q1
    refine s_iconst (v := 0) dL_warmings_53 (by decide) ?_
    obtain ⟨u2, u3, h⟩ := h
    exact s_ireturn dL_warmings_54 rfl rfl u2 u3 h
theorem vL_warmings_67 {G : GG} (gk : GOK G) {uc us : Nat} {σ : Mm} {K : RES → Mm → Prop} {x0 : Option Nat} {x1 : Int32} {x2 : Int32} {s0 : Int32}
    (h : uc + 1 ≤ 100 ∧ us + 6 ≤ 600 ∧ RunsH G mL_misses hL_misses rL_misses [(vR x0), (vI (99 : Int32))] σ (bk G mL_warmings rL_warmings (uc + 1) (us + 6) 73 [some (vR x0), some (vI x1), some (vI x2), none, none] [(vI s0)] K)) : At G mL_warmings rL_warmings uc us 67 [some (vR x0), some (vI x1), some (vI x2), none, none] [(vI s0)] σ K := by
  refine s_aload_n (i := 0) dL_warmings_67 rfl rfl ?_
  refine s_bipush (v := 99) dL_warmings_68 (by decide) ?_
  obtain ⟨u1, u2, h⟩ := h
  exact s_callSH (as := [(vR x0), (vI (99 : Int32))]) (S := [(vI s0)]) gk dL_warmings_70 (kL_misses _ _ w_1061) w_1062 rfl rfl (Nat.le_of_ble_eq_true rfl) ⟨by decide, by decide, u1, u2⟩ h
theorem vL_warmings_73 {G : GG} (gk : GOK G) {uc us : Nat} {σ : Mm} {K : RES → Mm → Prop} {x0 : Option Nat} {x1 : Int32} {x2 : Int32} {s0 : Int32} {s1 : Int32}
    (h : uc + 1 ≤ 100 ∧ us + 6 ≤ 600 ∧ RunsH G mL_misses hL_misses rL_misses [(vR x0), (vI (101 : Int32))] σ (bk G mL_warmings rL_warmings (uc + 1) (us + 6) 80 [some (vR x0), some (vI x1), some (vI x2), none, none] [(vI (s1 + s0))] K)) : At G mL_warmings rL_warmings uc us 73 [some (vR x0), some (vI x1), some (vI x2), none, none] [(vI s0), (vI s1)] σ K := by
  refine s_iadd dL_warmings_73 ?_
  refine s_aload_n (i := 0) dL_warmings_74 rfl rfl ?_
  refine s_bipush (v := 101) dL_warmings_75 (by decide) ?_
  obtain ⟨u1, u2, h⟩ := h
  exact s_callSH (as := [(vR x0), (vI (101 : Int32))]) (S := [(vI (s1 + s0))]) gk dL_warmings_77 (kL_misses _ _ w_1061) w_1062 rfl rfl (Nat.le_of_ble_eq_true rfl) ⟨by decide, by decide, u1, u2⟩ h
theorem vL_warmings_80 {G : GG} (gk : GOK G) {uc us : Nat} {σ : Mm} {K : RES → Mm → Prop} {x0 : Option Nat} {x1 : Int32} {x2 : Int32} {s0 : Int32} {s1 : Int32}
    (h : uc + 1 ≤ 100 ∧ us + 6 ≤ 600 ∧ RunsH G mL_misses hL_misses rL_misses [(vR x0), (vI (111 : Int32))] σ (bk G mL_warmings rL_warmings (uc + 1) (us + 6) 87 [some (vR x0), some (vI x1), some (vI x2), none, none] [(vI (s1 + s0))] K)) : At G mL_warmings rL_warmings uc us 80 [some (vR x0), some (vI x1), some (vI x2), none, none] [(vI s0), (vI s1)] σ K := by
  refine s_iadd dL_warmings_80 ?_
  refine s_aload_n (i := 0) dL_warmings_81 rfl rfl ?_
  refine s_bipush (v := 111) dL_warmings_82 (by decide) ?_
  obtain ⟨u1, u2, h⟩ := h
  exact s_callSH (as := [(vR x0), (vI (111 : Int32))]) (S := [(vI (s1 + s0))]) gk dL_warmings_84 (kL_misses _ _ w_1061) w_1062 rfl rfl (Nat.le_of_ble_eq_true rfl) ⟨by decide, by decide, u1, u2⟩ h
theorem vL_warmings_87 {G : GG} (gk : GOK G) {uc us : Nat} {σ : Mm} {K : RES → Mm → Prop} {x0 : Option Nat} {x1 : Int32} {x2 : Int32} {s0 : Int32} {s1 : Int32}
    (h : At G mL_warmings rL_warmings uc us 92 [some (vR x0), some (vI x1), some (vI x2), some (vI (s1 + s0)), some (vI (0 : Int32))] [] σ K) : At G mL_warmings rL_warmings uc us 87 [some (vR x0), some (vI x1), some (vI x2), none, none] [(vI s0), (vI s1)] σ K := by
  refine s_iadd dL_warmings_87 ?_
  refine s_istore_n (i := 3) (L' := [some (vR x0), some (vI x1), some (vI x2), some (vI (s1 + s0)), none]) dL_warmings_88 rfl rfl (by decide) rfl ?_
  refine s_iconst (v := 0) dL_warmings_89 (by decide) ?_
  refine s_istore (L' := [some (vR x0), some (vI x1), some (vI x2), some (vI (s1 + s0)), some (vI (0 : Int32))]) dL_warmings_90 rfl (by decide) rfl ?_
  exact h
theorem vL_warmings_92 {G : GG} (gk : GOK G) {uc us : Nat} {σ : Mm} {K : RES → Mm → Prop} {x0 : Option Nat} {x1 : Int32} {x2 : Int32} {x3 : Int32} {x4 : Int32}
    (h : ∃ a1, x0 = some a1 ∧ (mt σ a1).1 = 9 ∧ uc + 0 ≤ 100 ∧ us + 0 ≤ 600 ∧ Runs G mX8_shelfCount rX8_shelfCount [(vR x0)] σ (bk G mL_warmings rL_warmings (uc + 0) (us + 0) 98 [some (vR x0), some (vI x1), some (vI x2), some (vI x3), some (vI x4)] [(vI x4)] K)) : At G mL_warmings rL_warmings uc us 92 [some (vR x0), some (vI x1), some (vI x2), some (vI x3), some (vI x4)] [] σ K := by
  refine s_iload dL_warmings_92 rfl ?_
  refine s_aload_n (i := 0) dL_warmings_94 rfl rfl ?_
  obtain ⟨a1, ea1, h⟩ := h
  obtain ⟨t2, h⟩ := h
  obtain ⟨u3, u4, h⟩ := h
  exact t_callV (rmY := rX8_shelfCount) (ci := 8) (as := []) (S := [(vI x4)]) gk dL_warmings_95 gL_221 (by decide) rfl w_830 w_831 ea1 t2 rfl rfl (Nat.le_of_ble_eq_true rfl) ⟨by decide, by decide, u3, u4⟩ h
theorem vL_warmings_98 {G : GG} (gk : GOK G) {uc us : Nat} {σ : Mm} {K : RES → Mm → Prop} {x0 : Option Nat} {x1 : Int32} {x2 : Int32} {x3 : Int32} {x4 : Int32} {s0 : Int32} {s1 : Int32}
    (h : ((s0 ≤ s1 → ((x3 = 0 → (((1 : Int32) = 0 → uc ≤ 100 ∧ us ≤ 600 ∧ K (.inl (some (vI (0 : Int32)))) σ) ∧ (¬ (1 : Int32) = 0 → ∃ a6, x0 = some a6 ∧ (mt σ a6).1 = 9 ∧ uc + 0 ≤ 100 ∧ us + 0 ≤ 600 ∧ Runs G mX8_shelfCount rX8_shelfCount [(vR x0)] σ (bk G mL_warmings rL_warmings (uc + 0) (us + 0) 156 [some (vR x0), some (vI x1), some (vI x2), some (vI x3), some (vI (1 : Int32))] [(vI (1 : Int32)), (vI x2)] K)))) ∧ (¬ x3 = 0 → ∃ a10, x0 = some a10 ∧ (mt σ a10).1 = 9 ∧ uc + 1 ≤ 100 ∧ us + 6 ≤ 600 ∧ Runs G mX8_hitShare rX8_hitShare [(vR x0)] σ (bk G mL_warmings rL_warmings (uc + 1) (us + 6) 126 [some (vR x0), some (vI x1), some (vI x2), some (vI x3), some (vI x4)] [] K)))) ∧ (¬ s0 ≤ s1 → uc + 1 ≤ 100 ∧ us + 6 ≤ 600 ∧ RunsH G mL_byHits hL_byHits rL_byHits [(vR x0), (vI x4)] σ (bk G mL_warmings rL_warmings (uc + 1) (us + 6) 109 [some (vR x0), some (vI x1), some (vI x2), some (vI x3), some (vI x4)] [(vI (1 : Int32)), (vI x2)] K)))) : At G mL_warmings rL_warmings uc us 98 [some (vR x0), some (vI x1), some (vI x2), some (vI x3), some (vI x4)] [(vI s0), (vI s1)] σ K := by
  refine s_icmp_ge (tgt := 118) dL_warmings_98 (by decide) (fun q1 => ?_) (fun q1 => ?_)
  · have h := h.1 q1
    refine s_iload_n (i := 3) dL_warmings_118 rfl rfl ?_
    refine s_if_eq (tgt := 138) dL_warmings_119 (by decide) (fun q2 => ?_) (fun q2 => ?_)
    · have h := h.1 q2
      refine s_iconst (v := 1) dL_warmings_138 (by decide) ?_
      refine s_goto (tgt := 143) dL_warmings_139 (by decide) ?_
      refine s_istore (L' := [some (vR x0), some (vI x1), some (vI x2), some (vI x3), some (vI (1 : Int32))]) dL_warmings_143 rfl (by decide) rfl ?_
      refine s_iload dL_warmings_145 rfl ?_
      refine s_if_eq (tgt := 216) dL_warmings_147 (by decide) (fun q3 => ?_) (fun q3 => ?_)
      · have h := h.1 q3
        refine s_iconst (v := 0) dL_warmings_216 (by decide) ?_
        obtain ⟨u4, u5, h⟩ := h
        exact s_ireturn dL_warmings_217 rfl rfl u4 u5 h
      · have h := h.2 q3
        refine s_iload_n (i := 2) dL_warmings_150 rfl rfl ?_
        refine s_iconst (v := 1) dL_warmings_151 (by decide) ?_
        refine s_aload_n (i := 0) dL_warmings_152 rfl rfl ?_
        obtain ⟨a6, ea6, h⟩ := h
        obtain ⟨t7, h⟩ := h
        obtain ⟨u8, u9, h⟩ := h
        exact t_callV (rmY := rX8_shelfCount) (ci := 8) (as := []) (S := [(vI (1 : Int32)), (vI x2)]) gk dL_warmings_153 gL_221 (by decide) rfl w_830 w_831 ea6 t7 rfl rfl (Nat.le_of_ble_eq_true rfl) ⟨by decide, by decide, u8, u9⟩ h
    · have h := h.2 q2
      refine s_aload_n (i := 0) dL_warmings_122 rfl rfl ?_
      obtain ⟨a10, ea10, h⟩ := h
      obtain ⟨t11, h⟩ := h
      obtain ⟨u12, u13, h⟩ := h
      exact t_callV (rmY := rX8_hitShare) (ci := 8) (as := []) (S := []) gk dL_warmings_123 gL_297 (by decide) rfl w_1082 w_1083 ea10 t11 rfl rfl (Nat.le_of_ble_eq_true rfl) ⟨by decide, by decide, u12, u13⟩ h
  · have h := h.2 q1
    refine s_iload_n (i := 2) dL_warmings_101 rfl rfl ?_
    refine s_iconst (v := 1) dL_warmings_102 (by decide) ?_
    refine s_aload_n (i := 0) dL_warmings_103 rfl rfl ?_
    refine s_iload dL_warmings_104 rfl ?_
    obtain ⟨u14, u15, h⟩ := h
    exact s_callSH (as := [(vR x0), (vI x4)]) (S := [(vI (1 : Int32)), (vI x2)]) gk dL_warmings_106 (kL_byHits _ _ w_1069) w_1070 rfl rfl (Nat.le_of_ble_eq_true rfl) ⟨by decide, by decide, u14, u15⟩ h
theorem vL_warmings_109 {G : GG} (gk : GOK G) {uc us : Nat} {σ : Mm} {K : RES → Mm → Prop} {x0 : Option Nat} {x1 : Int32} {x2 : Int32} {x3 : Int32} {x4 : Int32} {s0 : Int32} {s1 : Int32} {s2 : Int32}
    (h : At G mL_warmings rL_warmings uc us 92 [some (vR x0), some (vI x1), some (vI (s2 ||| (s1 <<< (s0 &&& 31)))), some (vI x3), some (vI (x4 + 1))] [] σ K) : At G mL_warmings rL_warmings uc us 109 [some (vR x0), some (vI x1), some (vI x2), some (vI x3), some (vI x4)] [(vI s0), (vI s1), (vI s2)] σ K := by
  refine s_ishl dL_warmings_109 ?_
  refine s_ior dL_warmings_110 ?_
  refine s_istore_n (i := 2) (L' := [some (vR x0), some (vI x1), some (vI (s2 ||| (s1 <<< (s0 &&& 31)))), some (vI x3), some (vI x4)]) dL_warmings_111 rfl rfl (by decide) rfl ?_
  refine s_iinc (v := x4 + 1) (L' := [some (vR x0), some (vI x1), some (vI (s2 ||| (s1 <<< (s0 &&& 31)))), some (vI x3), some (vI (x4 + 1))]) dL_warmings_112 rfl rfl rfl (by decide) rfl ?_
  refine s_goto (tgt := 92) dL_warmings_115 (by decide) ?_
  exact h
theorem vL_warmings_126 {G : GG} (gk : GOK G) {uc us : Nat} {σ : Mm} {K : RES → Mm → Prop} {x0 : Option Nat} {x1 : Int32} {x2 : Int32} {x3 : Int32} {x4 : Int32} {s0 : UInt32}
    (h : ∃ a1, x0 = some a1 ∧ (mt σ a1).1 = 9 ∧ uc + 0 ≤ 100 ∧ us + 0 ≤ 600 ∧ Runs G mX8_hits rX8_hits [(vR x0)] σ (bk G mL_warmings rL_warmings (uc + 0) (us + 0) 130 [some (vR x0), some (vI x1), some (vI x2), some (vI x3), some (vI x4)] [(vF s0)] K)) : At G mL_warmings rL_warmings uc us 126 [some (vR x0), some (vI x1), some (vI x2), some (vI x3), some (vI x4)] [(vF s0)] σ K := by
  refine s_aload_n (i := 0) dL_warmings_126 rfl rfl ?_
  obtain ⟨a1, ea1, h⟩ := h
  obtain ⟨t2, h⟩ := h
  obtain ⟨u3, u4, h⟩ := h
  exact t_callV (rmY := rX8_hits) (ci := 8) (as := []) (S := [(vF s0)]) gk dL_warmings_127 gL_289 (by decide) rfl w_1058 w_1059 ea1 t2 rfl rfl (Nat.le_of_ble_eq_true rfl) ⟨by decide, by decide, u3, u4⟩ h
theorem vL_warmings_130 {G : GG} (gk : GOK G) {uc us : Nat} {σ : Mm} {K : RES → Mm → Prop} {x0 : Option Nat} {x1 : Int32} {x2 : Int32} {x3 : Int32} {x4 : Int32} {s0 : Int32} {s1 : UInt32}
    (h : vf_n32 (FP.fdiv (FP.i2f s0) (FP.i2f x3)) ∧ ((¬ (Op.cmpValue (FP.fcmp s1 (FP.fdiv (FP.i2f s0) (FP.i2f x3))) .l) = 0 → (((0 : Int32) = 0 → uc ≤ 100 ∧ us ≤ 600 ∧ K (.inl (some (vI (0 : Int32)))) σ) ∧ (¬ (0 : Int32) = 0 → ∃ a6, x0 = some a6 ∧ (mt σ a6).1 = 9 ∧ uc + 0 ≤ 100 ∧ us + 0 ≤ 600 ∧ Runs G mX8_shelfCount rX8_shelfCount [(vR x0)] σ (bk G mL_warmings rL_warmings (uc + 0) (us + 0) 156 [some (vR x0), some (vI x1), some (vI x2), some (vI x3), some (vI (0 : Int32))] [(vI (1 : Int32)), (vI x2)] K)))) ∧ ((Op.cmpValue (FP.fcmp s1 (FP.fdiv (FP.i2f s0) (FP.i2f x3))) .l) = 0 → (((1 : Int32) = 0 → uc ≤ 100 ∧ us ≤ 600 ∧ K (.inl (some (vI (0 : Int32)))) σ) ∧ (¬ (1 : Int32) = 0 → ∃ a13, x0 = some a13 ∧ (mt σ a13).1 = 9 ∧ uc + 0 ≤ 100 ∧ us + 0 ≤ 600 ∧ Runs G mX8_shelfCount rX8_shelfCount [(vR x0)] σ (bk G mL_warmings rL_warmings (uc + 0) (us + 0) 156 [some (vR x0), some (vI x1), some (vI x2), some (vI x3), some (vI (1 : Int32))] [(vI (1 : Int32)), (vI x2)] K)))))) : At G mL_warmings rL_warmings uc us 130 [some (vR x0), some (vI x1), some (vI x2), some (vI x3), some (vI x4)] [(vI s0), (vF s1)] σ K := by
  refine s_i2f dL_warmings_130 ?_
  refine s_iload_n (i := 3) dL_warmings_131 rfl rfl ?_
  refine s_i2f dL_warmings_132 ?_
  obtain ⟨c1, h⟩ := h
  refine s_fdiv dL_warmings_133 c1 ?_
  refine s_fcmp dL_warmings_134 ?_
  refine s_if_ne (tgt := 142) dL_warmings_135 (by decide) (fun q2 => ?_) (fun q2 => ?_)
  · have h := h.1 q2
    refine s_iconst (v := 0) dL_warmings_142 (by decide) ?_
    refine s_istore (L' := [some (vR x0), some (vI x1), some (vI x2), some (vI x3), some (vI (0 : Int32))]) dL_warmings_143 rfl (by decide) rfl ?_
    refine s_iload dL_warmings_145 rfl ?_
    refine s_if_eq (tgt := 216) dL_warmings_147 (by decide) (fun q3 => ?_) (fun q3 => ?_)
    · have h := h.1 q3
      refine s_iconst (v := 0) dL_warmings_216 (by decide) ?_
      obtain ⟨u4, u5, h⟩ := h
      exact s_ireturn dL_warmings_217 rfl rfl u4 u5 h
    · have h := h.2 q3
      refine s_iload_n (i := 2) dL_warmings_150 rfl rfl ?_
      refine s_iconst (v := 1) dL_warmings_151 (by decide) ?_
      refine s_aload_n (i := 0) dL_warmings_152 rfl rfl ?_
      obtain ⟨a6, ea6, h⟩ := h
      obtain ⟨t7, h⟩ := h
      obtain ⟨u8, u9, h⟩ := h
      exact t_callV (rmY := rX8_shelfCount) (ci := 8) (as := []) (S := [(vI (1 : Int32)), (vI x2)]) gk dL_warmings_153 gL_221 (by decide) rfl w_830 w_831 ea6 t7 rfl rfl (Nat.le_of_ble_eq_true rfl) ⟨by decide, by decide, u8, u9⟩ h
  · have h := h.2 q2
    refine s_iconst (v := 1) dL_warmings_138 (by decide) ?_
    refine s_goto (tgt := 143) dL_warmings_139 (by decide) ?_
    refine s_istore (L' := [some (vR x0), some (vI x1), some (vI x2), some (vI x3), some (vI (1 : Int32))]) dL_warmings_143 rfl (by decide) rfl ?_
    refine s_iload dL_warmings_145 rfl ?_
    refine s_if_eq (tgt := 216) dL_warmings_147 (by decide) (fun q10 => ?_) (fun q10 => ?_)
    · have h := h.1 q10
      refine s_iconst (v := 0) dL_warmings_216 (by decide) ?_
      obtain ⟨u11, u12, h⟩ := h
      exact s_ireturn dL_warmings_217 rfl rfl u11 u12 h
    · have h := h.2 q10
      refine s_iload_n (i := 2) dL_warmings_150 rfl rfl ?_
      refine s_iconst (v := 1) dL_warmings_151 (by decide) ?_
      refine s_aload_n (i := 0) dL_warmings_152 rfl rfl ?_
      obtain ⟨a13, ea13, h⟩ := h
      obtain ⟨t14, h⟩ := h
      obtain ⟨u15, u16, h⟩ := h
      exact t_callV (rmY := rX8_shelfCount) (ci := 8) (as := []) (S := [(vI (1 : Int32)), (vI x2)]) gk dL_warmings_153 gL_221 (by decide) rfl w_830 w_831 ea13 t14 rfl rfl (Nat.le_of_ble_eq_true rfl) ⟨by decide, by decide, u15, u16⟩ h
theorem vL_warmings_156 {G : GG} (gk : GOK G) {uc us : Nat} {σ : Mm} {K : RES → Mm → Prop} {x0 : Option Nat} {x1 : Int32} {x2 : Int32} {x3 : Int32} {x4 : Int32} {s0 : Int32} {s1 : Int32} {s2 : Int32}
    (h : ((¬ s2 = ((s1 <<< (s0 &&& 31)) - (1 : Int32)) → uc ≤ 100 ∧ us ≤ 600 ∧ K (.inl (some (vI (0 : Int32)))) σ) ∧ (s2 = ((s1 <<< (s0 &&& 31)) - (1 : Int32)) → (((8 : Int32) < x1 → uc ≤ 100 ∧ us ≤ 600 ∧ K (.inl (some (vI (0 : Int32)))) σ) ∧ (¬ (8 : Int32) < x1 → uc + 1 ≤ 100 ∧ us + 6 ≤ 600 ∧ RunsH G mL_minuteAt hL_minuteAt rL_minuteAt [(vR x0), (vI x1)] σ (bk G mL_warmings rL_warmings (uc + 1) (us + 6) 173 [some (vR x0), some (vI x1), some (vI x2), some (vI x3), some (vI x4)] [] K)))))) : At G mL_warmings rL_warmings uc us 156 [some (vR x0), some (vI x1), some (vI x2), some (vI x3), some (vI x4)] [(vI s0), (vI s1), (vI s2)] σ K := by
  refine s_ishl dL_warmings_156 ?_
  refine s_iconst (v := 1) dL_warmings_157 (by decide) ?_
  refine s_isub dL_warmings_158 ?_
  refine s_icmp_ne (tgt := 216) dL_warmings_159 (by decide) (fun q1 => ?_) (fun q1 => ?_)
  · have h := h.1 q1
    refine s_iconst (v := 0) dL_warmings_216 (by decide) ?_
    obtain ⟨u2, u3, h⟩ := h
    exact s_ireturn dL_warmings_217 rfl rfl u2 u3 h
  · have h := h.2 q1
    refine s_iload_n (i := 1) dL_warmings_162 rfl rfl ?_
    refine s_bipush (v := 8) dL_warmings_163 (by decide) ?_
    refine s_icmp_gt (tgt := 216) dL_warmings_165 (by decide) (fun q4 => ?_) (fun q4 => ?_)
    · have h := h.1 q4
      refine s_iconst (v := 0) dL_warmings_216 (by decide) ?_
      obtain ⟨u5, u6, h⟩ := h
      exact s_ireturn dL_warmings_217 rfl rfl u5 u6 h
    · have h := h.2 q4
      refine s_aload_n (i := 0) dL_warmings_168 rfl rfl ?_
      refine s_iload_n (i := 1) dL_warmings_169 rfl rfl ?_
      obtain ⟨u7, u8, h⟩ := h
      exact s_callSH (as := [(vR x0), (vI x1)]) (S := []) gk dL_warmings_170 (kL_minuteAt _ _ w_1034) w_1035 rfl rfl (Nat.le_of_ble_eq_true rfl) ⟨by decide, by decide, u7, u8⟩ h
theorem vL_warmings_173 {G : GG} (gk : GOK G) {uc us : Nat} {σ : Mm} {K : RES → Mm → Prop} {x0 : Option Nat} {x1 : Int32} {x2 : Int32} {x3 : Int32} {x4 : Int32} {s0 : Int32}
    (h : ((¬ s0 = (-11 : Int32) → uc ≤ 100 ∧ us ≤ 600 ∧ K (.inl (some (vI (0 : Int32)))) σ) ∧ (s0 = (-11 : Int32) → uc + 1 ≤ 100 ∧ us + 6 ≤ 600 ∧ RunsH G mL_warmedAt hL_warmedAt rL_warmedAt [(vR x0), (vI (-1 : Int32))] σ (bk G mL_warmings rL_warmings (uc + 1) (us + 6) 183 [some (vR x0), some (vI x1), some (vI x2), some (vI x3), some (vI x4)] [] K)))) : At G mL_warmings rL_warmings uc us 173 [some (vR x0), some (vI x1), some (vI x2), some (vI x3), some (vI x4)] [(vI s0)] σ K := by
  refine s_bipush (v := -11) dL_warmings_173 (by decide) ?_
  refine s_icmp_ne (tgt := 216) dL_warmings_175 (by decide) (fun q1 => ?_) (fun q1 => ?_)
  · have h := h.1 q1
    refine s_iconst (v := 0) dL_warmings_216 (by decide) ?_
    obtain ⟨u2, u3, h⟩ := h
    exact s_ireturn dL_warmings_217 rfl rfl u2 u3 h
  · have h := h.2 q1
    refine s_aload_n (i := 0) dL_warmings_178 rfl rfl ?_
    refine s_iconst (v := -1) dL_warmings_179 (by decide) ?_
    obtain ⟨u4, u5, h⟩ := h
    exact s_callSH (as := [(vR x0), (vI (-1 : Int32))]) (S := []) gk dL_warmings_180 (kL_warmedAt _ _ w_1050) w_1051 rfl rfl (Nat.le_of_ble_eq_true rfl) ⟨by decide, by decide, u4, u5⟩ h
theorem vL_warmings_183 {G : GG} (gk : GOK G) {uc us : Nat} {σ : Mm} {K : RES → Mm → Prop} {x0 : Option Nat} {x1 : Int32} {x2 : Int32} {x3 : Int32} {x4 : Int32} {s0 : Int32}
    (h : ((¬ s0 = (-11 : Int32) → uc ≤ 100 ∧ us ≤ 600 ∧ K (.inl (some (vI (0 : Int32)))) σ) ∧ (s0 = (-11 : Int32) → uc + 1 ≤ 100 ∧ us + 6 ≤ 600 ∧ RunsH G mL_misses hL_misses rL_misses [(vR x0), (vI (104 : Int32))] σ (bk G mL_warmings rL_warmings (uc + 1) (us + 6) 194 [some (vR x0), some (vI x1), some (vI x2), some (vI x3), some (vI x4)] [] K)))) : At G mL_warmings rL_warmings uc us 183 [some (vR x0), some (vI x1), some (vI x2), some (vI x3), some (vI x4)] [(vI s0)] σ K := by
  refine s_bipush (v := -11) dL_warmings_183 (by decide) ?_
  refine s_icmp_ne (tgt := 216) dL_warmings_185 (by decide) (fun q1 => ?_) (fun q1 => ?_)
  · have h := h.1 q1
    refine s_iconst (v := 0) dL_warmings_216 (by decide) ?_
    obtain ⟨u2, u3, h⟩ := h
    exact s_ireturn dL_warmings_217 rfl rfl u2 u3 h
  · have h := h.2 q1
    refine s_aload_n (i := 0) dL_warmings_188 rfl rfl ?_
    refine s_bipush (v := 104) dL_warmings_189 (by decide) ?_
    obtain ⟨u4, u5, h⟩ := h
    exact s_callSH (as := [(vR x0), (vI (104 : Int32))]) (S := []) gk dL_warmings_191 (kL_misses _ _ w_1061) w_1062 rfl rfl (Nat.le_of_ble_eq_true rfl) ⟨by decide, by decide, u4, u5⟩ h
theorem vL_warmings_194 {G : GG} (gk : GOK G) {uc us : Nat} {σ : Mm} {K : RES → Mm → Prop} {x0 : Option Nat} {x1 : Int32} {x2 : Int32} {x3 : Int32} {x4 : Int32} {s0 : Int32}
    (h : ((¬ s0 = (-12 : Int32) → uc ≤ 100 ∧ us ≤ 600 ∧ K (.inl (some (vI (0 : Int32)))) σ) ∧ (s0 = (-12 : Int32) → ∃ a4, x0 = some a4 ∧ (mt σ a4).1 = 9 ∧ uc + 0 ≤ 100 ∧ us + 0 ≤ 600 ∧ Runs G mX8_shelfCount rX8_shelfCount [(vR x0)] σ (bk G mL_warmings rL_warmings (uc + 0) (us + 0) 204 [some (vR x0), some (vI x1), some (vI x2), some (vI x3), some (vI x4)] [(vR x0)] K)))) : At G mL_warmings rL_warmings uc us 194 [some (vR x0), some (vI x1), some (vI x2), some (vI x3), some (vI x4)] [(vI s0)] σ K := by
  refine s_bipush (v := -12) dL_warmings_194 (by decide) ?_
  refine s_icmp_ne (tgt := 216) dL_warmings_196 (by decide) (fun q1 => ?_) (fun q1 => ?_)
  · have h := h.1 q1
    refine s_iconst (v := 0) dL_warmings_216 (by decide) ?_
    obtain ⟨u2, u3, h⟩ := h
    exact s_ireturn dL_warmings_217 rfl rfl u2 u3 h
  · have h := h.2 q1
    refine s_aload_n (i := 0) dL_warmings_199 rfl rfl ?_
    refine s_aload_n (i := 0) dL_warmings_200 rfl rfl ?_
    obtain ⟨a4, ea4, h⟩ := h
    obtain ⟨t5, h⟩ := h
    obtain ⟨u6, u7, h⟩ := h
    exact t_callV (rmY := rX8_shelfCount) (ci := 8) (as := []) (S := [(vR x0)]) gk dL_warmings_201 gL_221 (by decide) rfl w_830 w_831 ea4 t5 rfl rfl (Nat.le_of_ble_eq_true rfl) ⟨by decide, by decide, u6, u7⟩ h
theorem vL_warmings_204 {G : GG} (gk : GOK G) {uc us : Nat} {σ : Mm} {K : RES → Mm → Prop} {x0 : Option Nat} {x1 : Int32} {x2 : Int32} {x3 : Int32} {x4 : Int32} {s0 : Int32} {s1 : Option Nat}
    (h : uc + 1 ≤ 100 ∧ us + 6 ≤ 600 ∧ RunsH G mL_byHits hL_byHits rL_byHits [(vR s1), (vI s0)] σ (bk G mL_warmings rL_warmings (uc + 1) (us + 6) 207 [some (vR x0), some (vI x1), some (vI x2), some (vI x3), some (vI x4)] [] K)) : At G mL_warmings rL_warmings uc us 204 [some (vR x0), some (vI x1), some (vI x2), some (vI x3), some (vI x4)] [(vI s0), (vR s1)] σ K := by
  obtain ⟨u1, u2, h⟩ := h
  exact s_callSH (as := [(vR s1), (vI s0)]) (S := []) gk dL_warmings_204 (kL_byHits _ _ w_1069) w_1070 rfl rfl (Nat.le_of_ble_eq_true rfl) ⟨by decide, by decide, u1, u2⟩ h
theorem vL_warmings_207 {G : GG} (gk : GOK G) {uc us : Nat} {σ : Mm} {K : RES → Mm → Prop} {x0 : Option Nat} {x1 : Int32} {x2 : Int32} {x3 : Int32} {x4 : Int32} {s0 : Int32}
    (h : ((¬ s0 = (-13 : Int32) → uc ≤ 100 ∧ us ≤ 600 ∧ K (.inl (some (vI (0 : Int32)))) σ) ∧ (s0 = (-13 : Int32) → uc ≤ 100 ∧ us ≤ 600 ∧ K (.inl (some (vI (1 : Int32)))) σ))) : At G mL_warmings rL_warmings uc us 207 [some (vR x0), some (vI x1), some (vI x2), some (vI x3), some (vI x4)] [(vI s0)] σ K := by
  refine s_bipush (v := -13) dL_warmings_207 (by decide) ?_
  refine s_icmp_ne (tgt := 216) dL_warmings_209 (by decide) (fun q1 => ?_) (fun q1 => ?_)
  · have h := h.1 q1
    refine s_iconst (v := 0) dL_warmings_216 (by decide) ?_
    obtain ⟨u2, u3, h⟩ := h
    exact s_ireturn dL_warmings_217 rfl rfl u2 u3 h
  · have h := h.2 q1
    refine s_iconst (v := 1) dL_warmings_212 (by decide) ?_
    refine s_goto (tgt := 217) dL_warmings_213 (by decide) ?_
    obtain ⟨u4, u5, h⟩ := h
    exact s_ireturn dL_warmings_217 rfl rfl u4 u5 h
theorem vL_sum_0 {G : GG} (gk : GOK G) {uc us : Nat} {σ : Mm} {K : RES → Mm → Prop} {x0 : Option Nat}
    (h : ∃ a1, x0 = some a1 ∧ (mt σ a1).1 = 9 ∧ uc + 0 ≤ 500 ∧ us + 0 ≤ 3000 ∧ Runs G mX8_time rX8_time [(vR x0)] σ (bk G mL_sum rL_sum (uc + 0) (us + 0) 7 [some (vR x0), none, none, none, none, none] [(vL (7 : Int64))] K)) : At G mL_sum rL_sum uc us 0 [some (vR x0), none, none, none, none, none] [] σ K := by
  refine s_ldc2 gk dL_sum_0 w_1395 ?_
  refine s_aload_n (i := 0) dL_sum_3 rfl rfl ?_
  obtain ⟨a1, ea1, h⟩ := h
  obtain ⟨t2, h⟩ := h
  obtain ⟨u3, u4, h⟩ := h
  exact t_callV (rmY := rX8_time) (ci := 8) (as := []) (S := [(vL (7 : Int64))]) gk dL_sum_4 gL_277 (by decide) rfl w_929 w_930 ea1 t2 rfl rfl (Nat.le_of_ble_eq_true rfl) ⟨by decide, by decide, u3, u4⟩ h
theorem eL_sum {G : GG} (gk : GOK G) {σ : Mm} {K : RES → Mm → Prop} {x0 : Option Nat}
    (h : ∃ a1, x0 = some a1 ∧ (mt σ a1).1 = 9 ∧ 0 + 0 ≤ 500 ∧ 0 + 0 ≤ 3000 ∧ Runs G mX8_time rX8_time [(vR x0)] σ (bk G mL_sum rL_sum (0 + 0) (0 + 0) 7 [some (vR x0), none, none, none, none, none] [(vL (7 : Int64))] K)) : Runs G mL_sum rL_sum [(vR x0)] σ K := Runs.of (by decide) rfl (Nat.le_of_ble_eq_true rfl) (vL_sum_0 gk h)
theorem vL_sum_7 {G : GG} (gk : GOK G) {uc us : Nat} {σ : Mm} {K : RES → Mm → Prop} {x0 : Option Nat} {s0 : Int32} {s1 : Int64}
    (h : ∃ a1, x0 = some a1 ∧ (mt σ a1).1 = 9 ∧ uc + 0 ≤ 500 ∧ us + 0 ≤ 3000 ∧ Runs G mX8_hits rX8_hits [(vR x0)] σ (bk G mL_sum rL_sum (uc + 0) (us + 0) 19 [some (vR x0), some (vL (s1 + s0.toInt64)), none, none, none, none] [(vL ((31 : Int64) * (s1 + s0.toInt64)))] K)) : At G mL_sum rL_sum uc us 7 [some (vR x0), none, none, none, none, none] [(vI s0), (vL s1)] σ K := by
  refine s_i2l (v := s0.toInt64) dL_sum_7 rfl ?_
  refine s_ladd dL_sum_8 ?_
  refine s_lstore_n (i := 1) (L' := [some (vR x0), some (vL (s1 + s0.toInt64)), none, none, none, none]) dL_sum_9 rfl rfl (by decide) rfl ?_
  refine s_ldc2 gk dL_sum_10 w_1396 ?_
  refine s_lload_n (i := 1) dL_sum_13 rfl rfl ?_
  refine s_lmul dL_sum_14 ?_
  refine s_aload_n (i := 0) dL_sum_15 rfl rfl ?_
  obtain ⟨a1, ea1, h⟩ := h
  obtain ⟨t2, h⟩ := h
  obtain ⟨u3, u4, h⟩ := h
  exact t_callV (rmY := rX8_hits) (ci := 8) (as := []) (S := [(vL ((31 : Int64) * (s1 + s0.toInt64)))]) gk dL_sum_16 gL_289 (by decide) rfl w_1058 w_1059 ea1 t2 rfl rfl (Nat.le_of_ble_eq_true rfl) ⟨by decide, by decide, u3, u4⟩ h
theorem vL_sum_19 {G : GG} (gk : GOK G) {uc us : Nat} {σ : Mm} {K : RES → Mm → Prop} {x0 : Option Nat} {x1 : Int64} {s0 : Int32} {s1 : Int64}
    (h : ∃ a1, x0 = some a1 ∧ (mt σ a1).1 = 9 ∧ uc + 1 ≤ 500 ∧ us + 6 ≤ 3000 ∧ Runs G mX8_misses rX8_misses [(vR x0), (vI (99 : Int32))] σ (bk G mL_sum rL_sum (uc + 1) (us + 6) 36 [some (vR x0), some (vL (s1 + s0.toInt64)), none, none, none, none] [(vI (1000 : Int32)), (vL ((31 : Int64) * (s1 + s0.toInt64)))] K)) : At G mL_sum rL_sum uc us 19 [some (vR x0), some (vL x1), none, none, none, none] [(vI s0), (vL s1)] σ K := by
  refine s_i2l (v := s0.toInt64) dL_sum_19 rfl ?_
  refine s_ladd dL_sum_20 ?_
  refine s_lstore_n (i := 1) (L' := [some (vR x0), some (vL (s1 + s0.toInt64)), none, none, none, none]) dL_sum_21 rfl rfl (by decide) rfl ?_
  refine s_ldc2 gk dL_sum_22 w_1396 ?_
  refine s_lload_n (i := 1) dL_sum_25 rfl rfl ?_
  refine s_lmul dL_sum_26 ?_
  refine s_sipush (v := 1000) dL_sum_27 (by decide) ?_
  refine s_aload_n (i := 0) dL_sum_30 rfl rfl ?_
  refine s_bipush (v := 99) dL_sum_31 (by decide) ?_
  obtain ⟨a1, ea1, h⟩ := h
  obtain ⟨t2, h⟩ := h
  obtain ⟨u3, u4, h⟩ := h
  exact t_callV (rmY := rX8_misses) (ci := 8) (as := [(vI (99 : Int32))]) (S := [(vI (1000 : Int32)), (vL ((31 : Int64) * (s1 + s0.toInt64)))]) gk dL_sum_33 gL_120 (by decide) rfl w_1065 w_1066 ea1 t2 rfl rfl (Nat.le_of_ble_eq_true rfl) ⟨by decide, by decide, u3, u4⟩ h
theorem vL_sum_36 {G : GG} (gk : GOK G) {uc us : Nat} {σ : Mm} {K : RES → Mm → Prop} {x0 : Option Nat} {x1 : Int64} {s0 : Int32} {s1 : Int32} {s2 : Int64}
    (h : ∃ a1, x0 = some a1 ∧ (mt σ a1).1 = 9 ∧ uc + 1 ≤ 500 ∧ us + 6 ≤ 3000 ∧ Runs G mX8_misses rX8_misses [(vR x0), (vI (101 : Int32))] σ (bk G mL_sum rL_sum (uc + 1) (us + 6) 47 [some (vR x0), some (vL x1), none, none, none, none] [(vI (30 : Int32)), (vL (s2 + ((s1 * s0).toInt64)))] K)) : At G mL_sum rL_sum uc us 36 [some (vR x0), some (vL x1), none, none, none, none] [(vI s0), (vI s1), (vL s2)] σ K := by
  refine s_imul dL_sum_36 ?_
  refine s_i2l (v := (s1 * s0).toInt64) dL_sum_37 rfl ?_
  refine s_ladd dL_sum_38 ?_
  refine s_bipush (v := 30) dL_sum_39 (by decide) ?_
  refine s_aload_n (i := 0) dL_sum_41 rfl rfl ?_
  refine s_bipush (v := 101) dL_sum_42 (by decide) ?_
  obtain ⟨a1, ea1, h⟩ := h
  obtain ⟨t2, h⟩ := h
  obtain ⟨u3, u4, h⟩ := h
  exact t_callV (rmY := rX8_misses) (ci := 8) (as := [(vI (101 : Int32))]) (S := [(vI (30 : Int32)), (vL (s2 + ((s1 * s0).toInt64)))]) gk dL_sum_44 gL_120 (by decide) rfl w_1065 w_1066 ea1 t2 rfl rfl (Nat.le_of_ble_eq_true rfl) ⟨by decide, by decide, u3, u4⟩ h
theorem vL_sum_47 {G : GG} (gk : GOK G) {uc us : Nat} {σ : Mm} {K : RES → Mm → Prop} {x0 : Option Nat} {x1 : Int64} {s0 : Int32} {s1 : Int32} {s2 : Int64}
    (h : ∃ a1, x0 = some a1 ∧ (mt σ a1).1 = 9 ∧ uc + 1 ≤ 500 ∧ us + 6 ≤ 3000 ∧ Runs G mX8_misses rX8_misses [(vR x0), (vI (111 : Int32))] σ (bk G mL_sum rL_sum (uc + 1) (us + 6) 56 [some (vR x0), some (vL x1), none, none, none, none] [(vL (s2 + ((s1 * s0).toInt64)))] K)) : At G mL_sum rL_sum uc us 47 [some (vR x0), some (vL x1), none, none, none, none] [(vI s0), (vI s1), (vL s2)] σ K := by
  refine s_imul dL_sum_47 ?_
  refine s_i2l (v := (s1 * s0).toInt64) dL_sum_48 rfl ?_
  refine s_ladd dL_sum_49 ?_
  refine s_aload_n (i := 0) dL_sum_50 rfl rfl ?_
  refine s_bipush (v := 111) dL_sum_51 (by decide) ?_
  obtain ⟨a1, ea1, h⟩ := h
  obtain ⟨t2, h⟩ := h
  obtain ⟨u3, u4, h⟩ := h
  exact t_callV (rmY := rX8_misses) (ci := 8) (as := [(vI (111 : Int32))]) (S := [(vL (s2 + ((s1 * s0).toInt64)))]) gk dL_sum_53 gL_120 (by decide) rfl w_1065 w_1066 ea1 t2 rfl rfl (Nat.le_of_ble_eq_true rfl) ⟨by decide, by decide, u3, u4⟩ h
theorem vL_sum_56 {G : GG} (gk : GOK G) {uc us : Nat} {σ : Mm} {K : RES → Mm → Prop} {x0 : Option Nat} {x1 : Int64} {s0 : Int32} {s1 : Int64}
    (h : At G mL_sum rL_sum uc us 61 [some (vR x0), some (vL (s1 + s0.toInt64)), none, some (vI (0 : Int32)), none, none] [] σ K) : At G mL_sum rL_sum uc us 56 [some (vR x0), some (vL x1), none, none, none, none] [(vI s0), (vL s1)] σ K := by
  refine s_i2l (v := s0.toInt64) dL_sum_56 rfl ?_
  refine s_ladd dL_sum_57 ?_
  refine s_lstore_n (i := 1) (L' := [some (vR x0), some (vL (s1 + s0.toInt64)), none, none, none, none]) dL_sum_58 rfl rfl (by decide) rfl ?_
  refine s_iconst (v := 0) dL_sum_59 (by decide) ?_
  refine s_istore_n (i := 3) (L' := [some (vR x0), some (vL (s1 + s0.toInt64)), none, some (vI (0 : Int32)), none, none]) dL_sum_60 rfl rfl (by decide) rfl ?_
  exact h
theorem vL_sum_61 {G : GG} (gk : GOK G) {uc us : Nat} {σ : Mm} {K : RES → Mm → Prop} {x0 : Option Nat} {x1 : Int64} {x3 : Int32}
    (h : ∃ a1, x0 = some a1 ∧ (mt σ a1).1 = 9 ∧ uc + 0 ≤ 500 ∧ us + 0 ≤ 3000 ∧ Runs G mX8_jarCount rX8_jarCount [(vR x0)] σ (bk G mL_sum rL_sum (uc + 0) (us + 0) 66 [some (vR x0), some (vL x1), none, some (vI x3), none, none] [(vI x3)] K)) : At G mL_sum rL_sum uc us 61 [some (vR x0), some (vL x1), none, some (vI x3), none, none] [] σ K := by
  refine s_iload_n (i := 3) dL_sum_61 rfl rfl ?_
  refine s_aload_n (i := 0) dL_sum_62 rfl rfl ?_
  obtain ⟨a1, ea1, h⟩ := h
  obtain ⟨t2, h⟩ := h
  obtain ⟨u3, u4, h⟩ := h
  exact t_callV (rmY := rX8_jarCount) (ci := 8) (as := []) (S := [(vI x3)]) gk dL_sum_63 gL_214 (by decide) rfl w_798 w_799 ea1 t2 rfl rfl (Nat.le_of_ble_eq_true rfl) ⟨by decide, by decide, u3, u4⟩ h
theorem vL_sum_66 {G : GG} (gk : GOK G) {uc us : Nat} {σ : Mm} {K : RES → Mm → Prop} {x0 : Option Nat} {x1 : Int64} {x3 : Int32} {s0 : Int32} {s1 : Int32}
    (h : ((s0 ≤ s1 → At G mL_sum rL_sum uc us 105 [some (vR x0), some (vL x1), none, some (vI (0 : Int32)), none, none] [] σ K) ∧ (¬ s0 ≤ s1 → ∃ a2, x0 = some a2 ∧ (mt σ a2).1 = 9 ∧ uc + 1 ≤ 500 ∧ us + 6 ≤ 3000 ∧ Runs G mX8_jarAt rX8_jarAt [(vR x0), (vI x3)] σ (bk G mL_sum rL_sum (uc + 1) (us + 6) 82 [some (vR x0), some (vL x1), none, some (vI x3), none, none] [(vI (200 : Int32)), (vL ((37 : Int64) * x1))] K)))) : At G mL_sum rL_sum uc us 66 [some (vR x0), some (vL x1), none, some (vI x3), none, none] [(vI s0), (vI s1)] σ K := by
  refine s_icmp_ge (tgt := 103) dL_sum_66 (by decide) (fun q1 => ?_) (fun q1 => ?_)
  · have h := h.1 q1
    refine s_iconst (v := 0) dL_sum_103 (by decide) ?_
    refine s_istore_n (i := 3) (L' := [some (vR x0), some (vL x1), none, some (vI (0 : Int32)), none, none]) dL_sum_104 rfl rfl (by decide) rfl ?_
    exact h
  · have h := h.2 q1
    refine s_ldc2 gk dL_sum_69 w_1397 ?_
    refine s_lload_n (i := 1) dL_sum_72 rfl rfl ?_
    refine s_lmul dL_sum_73 ?_
    refine s_sipush (v := 200) dL_sum_74 (by decide) ?_
    refine s_aload_n (i := 0) dL_sum_77 rfl rfl ?_
    refine s_iload_n (i := 3) dL_sum_78 rfl rfl ?_
    obtain ⟨a2, ea2, h⟩ := h
    obtain ⟨t3, h⟩ := h
    obtain ⟨u4, u5, h⟩ := h
    exact t_callV (rmY := rX8_jarAt) (ci := 8) (as := [(vI x3)]) (S := [(vI (200 : Int32)), (vL ((37 : Int64) * x1))]) gk dL_sum_79 gL_27 (by decide) rfl w_818 w_819 ea2 t3 rfl rfl (Nat.le_of_ble_eq_true rfl) ⟨by decide, by decide, u4, u5⟩ h
theorem vL_sum_82 {G : GG} (gk : GOK G) {uc us : Nat} {σ : Mm} {K : RES → Mm → Prop} {x0 : Option Nat} {x1 : Int64} {x3 : Int32} {s0 : Int32} {s1 : Int32} {s2 : Int64}
    (h : ∃ a1, x0 = some a1 ∧ (mt σ a1).1 = 9 ∧ uc + 1 ≤ 500 ∧ us + 6 ≤ 3000 ∧ Runs G mX8_jarAt rX8_jarAt [(vR x0), (vI x3)] σ (bk G mL_sum rL_sum (uc + 1) (us + 6) 91 [some (vR x0), some (vL x1), none, some (vI x3), none, none] [(vR x0), (vL (s2 + ((s1 * s0).toInt64)))] K)) : At G mL_sum rL_sum uc us 82 [some (vR x0), some (vL x1), none, some (vI x3), none, none] [(vI s0), (vI s1), (vL s2)] σ K := by
  refine s_imul dL_sum_82 ?_
  refine s_i2l (v := (s1 * s0).toInt64) dL_sum_83 rfl ?_
  refine s_ladd dL_sum_84 ?_
  refine s_aload_n (i := 0) dL_sum_85 rfl rfl ?_
  refine s_aload_n (i := 0) dL_sum_86 rfl rfl ?_
  refine s_iload_n (i := 3) dL_sum_87 rfl rfl ?_
  obtain ⟨a1, ea1, h⟩ := h
  obtain ⟨t2, h⟩ := h
  obtain ⟨u3, u4, h⟩ := h
  exact t_callV (rmY := rX8_jarAt) (ci := 8) (as := [(vI x3)]) (S := [(vR x0), (vL (s2 + ((s1 * s0).toInt64)))]) gk dL_sum_88 gL_27 (by decide) rfl w_818 w_819 ea1 t2 rfl rfl (Nat.le_of_ble_eq_true rfl) ⟨by decide, by decide, u3, u4⟩ h
theorem vL_sum_91 {G : GG} (gk : GOK G) {uc us : Nat} {σ : Mm} {K : RES → Mm → Prop} {x0 : Option Nat} {x1 : Int64} {x3 : Int32} {s0 : Int32} {s1 : Option Nat} {s2 : Int64}
    (h : ∃ a1, s1 = some a1 ∧ (mt σ a1).1 = 9 ∧ uc + 1 ≤ 500 ∧ us + 6 ≤ 3000 ∧ Runs G mX8_wordOf rX8_wordOf [(vR s1), (vI s0)] σ (bk G mL_sum rL_sum (uc + 1) (us + 6) 94 [some (vR x0), some (vL x1), none, some (vI x3), none, none] [(vL s2)] K)) : At G mL_sum rL_sum uc us 91 [some (vR x0), some (vL x1), none, some (vI x3), none, none] [(vI s0), (vR s1), (vL s2)] σ K := by
  obtain ⟨a1, ea1, h⟩ := h
  obtain ⟨t2, h⟩ := h
  obtain ⟨u3, u4, h⟩ := h
  exact t_callV (rmY := rX8_wordOf) (ci := 8) (as := [(vI s0)]) (S := [(vL s2)]) gk dL_sum_91 gL_33 (by decide) rfl w_806 w_807 ea1 t2 rfl rfl (Nat.le_of_ble_eq_true rfl) ⟨by decide, by decide, u3, u4⟩ h
theorem vL_sum_94 {G : GG} (gk : GOK G) {uc us : Nat} {σ : Mm} {K : RES → Mm → Prop} {x0 : Option Nat} {x1 : Int64} {x3 : Int32} {s0 : Int32} {s1 : Int64}
    (h : At G mL_sum rL_sum uc us 61 [some (vR x0), some (vL (s1 + s0.toInt64)), none, some (vI (x3 + 1)), none, none] [] σ K) : At G mL_sum rL_sum uc us 94 [some (vR x0), some (vL x1), none, some (vI x3), none, none] [(vI s0), (vL s1)] σ K := by
  refine s_i2l (v := s0.toInt64) dL_sum_94 rfl ?_
  refine s_ladd dL_sum_95 ?_
  refine s_lstore_n (i := 1) (L' := [some (vR x0), some (vL (s1 + s0.toInt64)), none, some (vI x3), none, none]) dL_sum_96 rfl rfl (by decide) rfl ?_
  refine s_iinc (v := x3 + 1) (L' := [some (vR x0), some (vL (s1 + s0.toInt64)), none, some (vI (x3 + 1)), none, none]) dL_sum_97 rfl rfl rfl (by decide) rfl ?_
  refine s_goto (tgt := 61) dL_sum_100 (by decide) ?_
  exact h
theorem vL_sum_105 {G : GG} (gk : GOK G) {uc us : Nat} {σ : Mm} {K : RES → Mm → Prop} {x0 : Option Nat} {x1 : Int64} {x3 : Int32}
    (h : ∃ a1, x0 = some a1 ∧ (mt σ a1).1 = 9 ∧ uc + 0 ≤ 500 ∧ us + 0 ≤ 3000 ∧ Runs G mX8_shelfCount rX8_shelfCount [(vR x0)] σ (bk G mL_sum rL_sum (uc + 0) (us + 0) 110 [some (vR x0), some (vL x1), none, some (vI x3), none, none] [(vI x3)] K)) : At G mL_sum rL_sum uc us 105 [some (vR x0), some (vL x1), none, some (vI x3), none, none] [] σ K := by
  refine s_iload_n (i := 3) dL_sum_105 rfl rfl ?_
  refine s_aload_n (i := 0) dL_sum_106 rfl rfl ?_
  obtain ⟨a1, ea1, h⟩ := h
  obtain ⟨t2, h⟩ := h
  obtain ⟨u3, u4, h⟩ := h
  exact t_callV (rmY := rX8_shelfCount) (ci := 8) (as := []) (S := [(vI x3)]) gk dL_sum_107 gL_221 (by decide) rfl w_830 w_831 ea1 t2 rfl rfl (Nat.le_of_ble_eq_true rfl) ⟨by decide, by decide, u3, u4⟩ h
theorem vL_sum_110 {G : GG} (gk : GOK G) {uc us : Nat} {σ : Mm} {K : RES → Mm → Prop} {x0 : Option Nat} {x1 : Int64} {x3 : Int32} {s0 : Int32} {s1 : Int32}
    (h : ((s0 ≤ s1 → At G mL_sum rL_sum uc us 301 [some (vR x0), some (vL x1), none, some (vI (0 : Int32)), none, none] [] σ K) ∧ (¬ s0 ≤ s1 → ∃ a2, x0 = some a2 ∧ (mt σ a2).1 = 9 ∧ uc + 1 ≤ 500 ∧ us + 6 ≤ 3000 ∧ Runs G mX8_capacityOf rX8_capacityOf [(vR x0), (vI x3)] σ (bk G mL_sum rL_sum (uc + 1) (us + 6) 126 [some (vR x0), some (vL x1), none, some (vI x3), none, none] [(vI (1000 : Int32)), (vL ((41 : Int64) * x1))] K)))) : At G mL_sum rL_sum uc us 110 [some (vR x0), some (vL x1), none, some (vI x3), none, none] [(vI s0), (vI s1)] σ K := by
  refine s_icmp_ge (tgt := 299) dL_sum_110 (by decide) (fun q1 => ?_) (fun q1 => ?_)
  · have h := h.1 q1
    refine s_iconst (v := 0) dL_sum_299 (by decide) ?_
    refine s_istore_n (i := 3) (L' := [some (vR x0), some (vL x1), none, some (vI (0 : Int32)), none, none]) dL_sum_300 rfl rfl (by decide) rfl ?_
    exact h
  · have h := h.2 q1
    refine s_ldc2 gk dL_sum_113 w_1398 ?_
    refine s_lload_n (i := 1) dL_sum_116 rfl rfl ?_
    refine s_lmul dL_sum_117 ?_
    refine s_sipush (v := 1000) dL_sum_118 (by decide) ?_
    refine s_aload_n (i := 0) dL_sum_121 rfl rfl ?_
    refine s_iload_n (i := 3) dL_sum_122 rfl rfl ?_
    obtain ⟨a2, ea2, h⟩ := h
    obtain ⟨t3, h⟩ := h
    obtain ⟨u4, u5, h⟩ := h
    exact t_callV (rmY := rX8_capacityOf) (ci := 8) (as := [(vI x3)]) (S := [(vI (1000 : Int32)), (vL ((41 : Int64) * x1))]) gk dL_sum_123 gL_44 (by decide) rfl w_961 w_962 ea2 t3 rfl rfl (Nat.le_of_ble_eq_true rfl) ⟨by decide, by decide, u4, u5⟩ h
theorem vL_sum_126 {G : GG} (gk : GOK G) {uc us : Nat} {σ : Mm} {K : RES → Mm → Prop} {x0 : Option Nat} {x1 : Int64} {x3 : Int32} {s0 : Int32} {s1 : Int32} {s2 : Int64}
    (h : ∃ a1, x0 = some a1 ∧ (mt σ a1).1 = 9 ∧ uc + 1 ≤ 500 ∧ us + 6 ≤ 3000 ∧ Runs G mX8_lifetimeOf rX8_lifetimeOf [(vR x0), (vI x3)] σ (bk G mL_sum rL_sum (uc + 1) (us + 6) 136 [some (vR x0), some (vL x1), none, some (vI x3), none, none] [(vI (10 : Int32)), (vL (s2 + ((s1 * s0).toInt64)))] K)) : At G mL_sum rL_sum uc us 126 [some (vR x0), some (vL x1), none, some (vI x3), none, none] [(vI s0), (vI s1), (vL s2)] σ K := by
  refine s_imul dL_sum_126 ?_
  refine s_i2l (v := (s1 * s0).toInt64) dL_sum_127 rfl ?_
  refine s_ladd dL_sum_128 ?_
  refine s_bipush (v := 10) dL_sum_129 (by decide) ?_
  refine s_aload_n (i := 0) dL_sum_131 rfl rfl ?_
  refine s_iload_n (i := 3) dL_sum_132 rfl rfl ?_
  obtain ⟨a1, ea1, h⟩ := h
  obtain ⟨t2, h⟩ := h
  obtain ⟨u3, u4, h⟩ := h
  exact t_callV (rmY := rX8_lifetimeOf) (ci := 8) (as := [(vI x3)]) (S := [(vI (10 : Int32)), (vL (s2 + ((s1 * s0).toInt64)))]) gk dL_sum_133 gL_48 (by decide) rfl w_906 w_907 ea1 t2 rfl rfl (Nat.le_of_ble_eq_true rfl) ⟨by decide, by decide, u3, u4⟩ h
theorem vL_sum_136 {G : GG} (gk : GOK G) {uc us : Nat} {σ : Mm} {K : RES → Mm → Prop} {x0 : Option Nat} {x1 : Int64} {x3 : Int32} {s0 : Int32} {s1 : Int32} {s2 : Int64}
    (h : ∃ a1, x0 = some a1 ∧ (mt σ a1).1 = 9 ∧ uc + 1 ≤ 500 ∧ us + 6 ≤ 3000 ∧ Runs G mX8_isListening rX8_isListening [(vR x0), (vI x3)] σ (bk G mL_sum rL_sum (uc + 1) (us + 6) 144 [some (vR x0), some (vL x1), none, some (vI x3), none, none] [(vL (s2 + ((s1 * s0).toInt64)))] K)) : At G mL_sum rL_sum uc us 136 [some (vR x0), some (vL x1), none, some (vI x3), none, none] [(vI s0), (vI s1), (vL s2)] σ K := by
  refine s_imul dL_sum_136 ?_
  refine s_i2l (v := (s1 * s0).toInt64) dL_sum_137 rfl ?_
  refine s_ladd dL_sum_138 ?_
  refine s_aload_n (i := 0) dL_sum_139 rfl rfl ?_
  refine s_iload_n (i := 3) dL_sum_140 rfl rfl ?_
  obtain ⟨a1, ea1, h⟩ := h
  obtain ⟨t2, h⟩ := h
  obtain ⟨u3, u4, h⟩ := h
  exact t_callV (rmY := rX8_isListening) (ci := 8) (as := [(vI x3)]) (S := [(vL (s2 + ((s1 * s0).toInt64)))]) gk dL_sum_141 gL_54 (by decide) rfl w_1023 w_1024 ea1 t2 rfl rfl (Nat.le_of_ble_eq_true rfl) ⟨by decide, by decide, u3, u4⟩ h
theorem vL_sum_144 {G : GG} (gk : GOK G) {uc us : Nat} {σ : Mm} {K : RES → Mm → Prop} {x0 : Option Nat} {x1 : Int64} {x3 : Int32} {s0 : Int32} {s1 : Int64}
    (h : ((s0 = 0 → ∃ a2, x0 = some a2 ∧ (mt σ a2).1 = 9 ∧ uc + 1 ≤ 500 ∧ us + 6 ≤ 3000 ∧ Runs G mX8_policyOf rX8_policyOf [(vR x0), (vI x3)] σ (bk G mL_sum rL_sum (uc + 1) (us + 6) 168 [some (vR x0), some (vL (s1 + ((0 : Int32).toInt64))), none, some (vI x3), none, none] [(vI (200 : Int32)), (vL ((43 : Int64) * (s1 + ((0 : Int32).toInt64))))] K)) ∧ (¬ s0 = 0 → ∃ a6, x0 = some a6 ∧ (mt σ a6).1 = 9 ∧ uc + 1 ≤ 500 ∧ us + 6 ≤ 3000 ∧ Runs G mX8_policyOf rX8_policyOf [(vR x0), (vI x3)] σ (bk G mL_sum rL_sum (uc + 1) (us + 6) 168 [some (vR x0), some (vL (s1 + ((1 : Int32).toInt64))), none, some (vI x3), none, none] [(vI (200 : Int32)), (vL ((43 : Int64) * (s1 + ((1 : Int32).toInt64))))] K)))) : At G mL_sum rL_sum uc us 144 [some (vR x0), some (vL x1), none, some (vI x3), none, none] [(vI s0), (vL s1)] σ K := by
  refine s_if_eq (tgt := 151) dL_sum_144 (by decide) (fun q1 => ?_) (fun q1 => ?_)
  · have h := h.1 q1
    refine s_iconst (v := 0) dL_sum_151 (by decide) ?_
    refine s_i2l (v := (0 : Int32).toInt64) dL_sum_152 rfl ?_
    refine s_ladd dL_sum_153 ?_
    refine s_lstore_n (i := 1) (L' := [some (vR x0), some (vL (s1 + ((0 : Int32).toInt64))), none, some (vI x3), none, none]) dL_sum_154 rfl rfl (by decide) rfl ?_
    refine s_ldc2 gk dL_sum_155 w_1399 ?_
    refine s_lload_n (i := 1) dL_sum_158 rfl rfl ?_
    refine s_lmul dL_sum_159 ?_
    refine s_sipush (v := 200) dL_sum_160 (by decide) ?_
    refine s_aload_n (i := 0) dL_sum_163 rfl rfl ?_
    refine s_iload_n (i := 3) dL_sum_164 rfl rfl ?_
    obtain ⟨a2, ea2, h⟩ := h
    obtain ⟨t3, h⟩ := h
    obtain ⟨u4, u5, h⟩ := h
    exact t_callV (rmY := rX8_policyOf) (ci := 8) (as := [(vI x3)]) (S := [(vI (200 : Int32)), (vL ((43 : Int64) * (s1 + ((0 : Int32).toInt64))))]) gk dL_sum_165 gL_51 (by decide) rfl w_979 w_980 ea2 t3 rfl rfl (Nat.le_of_ble_eq_true rfl) ⟨by decide, by decide, u4, u5⟩ h
  · have h := h.2 q1
    refine s_iconst (v := 1) dL_sum_147 (by decide) ?_
    refine s_goto (tgt := 152) dL_sum_148 (by decide) ?_
    refine s_i2l (v := (1 : Int32).toInt64) dL_sum_152 rfl ?_
    refine s_ladd dL_sum_153 ?_
    refine s_lstore_n (i := 1) (L' := [some (vR x0), some (vL (s1 + ((1 : Int32).toInt64))), none, some (vI x3), none, none]) dL_sum_154 rfl rfl (by decide) rfl ?_
    refine s_ldc2 gk dL_sum_155 w_1399 ?_
    refine s_lload_n (i := 1) dL_sum_158 rfl rfl ?_
    refine s_lmul dL_sum_159 ?_
    refine s_sipush (v := 200) dL_sum_160 (by decide) ?_
    refine s_aload_n (i := 0) dL_sum_163 rfl rfl ?_
    refine s_iload_n (i := 3) dL_sum_164 rfl rfl ?_
    obtain ⟨a6, ea6, h⟩ := h
    obtain ⟨t7, h⟩ := h
    obtain ⟨u8, u9, h⟩ := h
    exact t_callV (rmY := rX8_policyOf) (ci := 8) (as := [(vI x3)]) (S := [(vI (200 : Int32)), (vL ((43 : Int64) * (s1 + ((1 : Int32).toInt64))))]) gk dL_sum_165 gL_51 (by decide) rfl w_979 w_980 ea6 t7 rfl rfl (Nat.le_of_ble_eq_true rfl) ⟨by decide, by decide, u8, u9⟩ h
theorem vL_sum_168 {G : GG} (gk : GOK G) {uc us : Nat} {σ : Mm} {K : RES → Mm → Prop} {x0 : Option Nat} {x1 : Int64} {x3 : Int32} {s0 : Int32} {s1 : Int32} {s2 : Int64}
    (h : uc + 2 ≤ 500 ∧ us + 12 ≤ 3000 ∧ RunsH G mL_victimOf hL_victimOf rL_victimOf [(vR x0), (vI x3)] σ (bk G mL_sum rL_sum (uc + 2) (us + 12) 176 [some (vR x0), some (vL x1), none, some (vI x3), none, none] [(vL (s2 + ((s1 * s0).toInt64)))] K)) : At G mL_sum rL_sum uc us 168 [some (vR x0), some (vL x1), none, some (vI x3), none, none] [(vI s0), (vI s1), (vL s2)] σ K := by
  refine s_imul dL_sum_168 ?_
  refine s_i2l (v := (s1 * s0).toInt64) dL_sum_169 rfl ?_
  refine s_ladd dL_sum_170 ?_
  refine s_aload_n (i := 0) dL_sum_171 rfl rfl ?_
  refine s_iload_n (i := 3) dL_sum_172 rfl rfl ?_
  obtain ⟨u1, u2, h⟩ := h
  exact s_callSH (as := [(vR x0), (vI x3)]) (S := [(vL (s2 + ((s1 * s0).toInt64)))]) gk dL_sum_173 (kL_victimOf _ _ w_940) w_941 rfl rfl (Nat.le_of_ble_eq_true rfl) ⟨by decide, by decide, u1, u2⟩ h
theorem vL_sum_176 {G : GG} (gk : GOK G) {uc us : Nat} {σ : Mm} {K : RES → Mm → Prop} {x0 : Option Nat} {x1 : Int64} {x3 : Int32} {s0 : Int32} {s1 : Int64}
    (h : At G mL_sum rL_sum uc us 182 [some (vR x0), some (vL (s1 + s0.toInt64)), none, some (vI x3), some (vI (0 : Int32)), none] [] σ K) : At G mL_sum rL_sum uc us 176 [some (vR x0), some (vL x1), none, some (vI x3), none, none] [(vI s0), (vL s1)] σ K := by
  refine s_i2l (v := s0.toInt64) dL_sum_176 rfl ?_
  refine s_ladd dL_sum_177 ?_
  refine s_lstore_n (i := 1) (L' := [some (vR x0), some (vL (s1 + s0.toInt64)), none, some (vI x3), none, none]) dL_sum_178 rfl rfl (by decide) rfl ?_
  refine s_iconst (v := 0) dL_sum_179 (by decide) ?_
  refine s_istore (L' := [some (vR x0), some (vL (s1 + s0.toInt64)), none, some (vI x3), some (vI (0 : Int32)), none]) dL_sum_180 rfl (by decide) rfl ?_
  exact h
theorem vL_sum_182 {G : GG} (gk : GOK G) {uc us : Nat} {σ : Mm} {K : RES → Mm → Prop} {x0 : Option Nat} {x1 : Int64} {x3 : Int32} {x4 : Int32}
    (h : ∃ a1, x0 = some a1 ∧ (mt σ a1).1 = 9 ∧ uc + 1 ≤ 500 ∧ us + 6 ≤ 3000 ∧ Runs G mX8_echoCount rX8_echoCount [(vR x0), (vI x3)] σ (bk G mL_sum rL_sum (uc + 1) (us + 6) 189 [some (vR x0), some (vL x1), none, some (vI x3), some (vI x4), none] [(vI x4)] K)) : At G mL_sum rL_sum uc us 182 [some (vR x0), some (vL x1), none, some (vI x3), some (vI x4), none] [] σ K := by
  refine s_iload dL_sum_182 rfl ?_
  refine s_aload_n (i := 0) dL_sum_184 rfl rfl ?_
  refine s_iload_n (i := 3) dL_sum_185 rfl rfl ?_
  obtain ⟨a1, ea1, h⟩ := h
  obtain ⟨t2, h⟩ := h
  obtain ⟨u3, u4, h⟩ := h
  exact t_callV (rmY := rX8_echoCount) (ci := 8) (as := [(vI x3)]) (S := [(vI x4)]) gk dL_sum_186 gL_58 (by decide) rfl w_953 w_954 ea1 t2 rfl rfl (Nat.le_of_ble_eq_true rfl) ⟨by decide, by decide, u3, u4⟩ h
theorem vL_sum_189 {G : GG} (gk : GOK G) {uc us : Nat} {σ : Mm} {K : RES → Mm → Prop} {x0 : Option Nat} {x1 : Int64} {x3 : Int32} {x4 : Int32} {s0 : Int32} {s1 : Int32}
    (h : ((s0 ≤ s1 → At G mL_sum rL_sum uc us 105 [some (vR x0), some (vL x1), none, some (vI (x3 + 1)), none, none] [] σ K) ∧ (¬ s0 ≤ s1 → ∃ a2, x0 = some a2 ∧ (mt σ a2).1 = 9 ∧ uc + 2 ≤ 500 ∧ us + 12 ≤ 3000 ∧ Runs G mX8_echoAt rX8_echoAt [(vR x0), (vI x3), (vI x4)] σ (bk G mL_sum rL_sum (uc + 2) (us + 12) 199 [some (vR x0), some (vL x1), none, some (vI x3), some (vI x4), none] [] K)))) : At G mL_sum rL_sum uc us 189 [some (vR x0), some (vL x1), none, some (vI x3), some (vI x4), none] [(vI s0), (vI s1)] σ K := by
  refine s_icmp_ge (tgt := 293) dL_sum_189 (by decide) (fun q1 => ?_) (fun q1 => ?_)
  · have h := h.1 q1
    refine s_iinc (v := x3 + 1) (L' := [some (vR x0), some (vL x1), none, some (vI (x3 + 1)), some (vI x4), none]) dL_sum_293 rfl rfl rfl (by decide) rfl ?_
    refine s_goto (tgt := 105) dL_sum_296 (by decide) ?_
    exact h.msk ⟨rfl, ⟨rfl, ⟨rfl, trivial⟩⟩⟩
  · have h := h.2 q1
    refine s_aload_n (i := 0) dL_sum_192 rfl rfl ?_
    refine s_iload_n (i := 3) dL_sum_193 rfl rfl ?_
    refine s_iload dL_sum_194 rfl ?_
    obtain ⟨a2, ea2, h⟩ := h
    obtain ⟨t3, h⟩ := h
    obtain ⟨u4, u5, h⟩ := h
    exact t_callV (rmY := rX8_echoAt) (ci := 8) (as := [(vI x3), (vI x4)]) (S := []) gk dL_sum_196 gL_61 (by decide) rfl w_880 w_881 ea2 t3 rfl rfl (Nat.le_of_ble_eq_true rfl) ⟨by decide, by decide, u4, u5⟩ h
theorem vL_sum_199 {G : GG} (gk : GOK G) {uc us : Nat} {σ : Mm} {K : RES → Mm → Prop} {x0 : Option Nat} {x1 : Int64} {x3 : Int32} {x4 : Int32} {s0 : Int32}
    (h : ∃ a1, x0 = some a1 ∧ (mt σ a1).1 = 9 ∧ uc + 2 ≤ 500 ∧ us + 12 ≤ 3000 ∧ Runs G mX8_echoOf rX8_echoOf [(vR x0), (vI x3), (vI s0)] σ (bk G mL_sum rL_sum (uc + 2) (us + 12) 221 [some (vR x0), some (vL x1), none, some (vI x3), some (vI x4), some (vI s0)] [(vL (((47 : Int64) * x1) + (((1000 : Int32) * s0).toInt64)))] K)) : At G mL_sum rL_sum uc us 199 [some (vR x0), some (vL x1), none, some (vI x3), some (vI x4), none] [(vI s0)] σ K := by
  refine s_istore (L' := [some (vR x0), some (vL x1), none, some (vI x3), some (vI x4), some (vI s0)]) dL_sum_199 rfl (by decide) rfl ?_
  refine s_ldc2 gk dL_sum_201 w_1400 ?_
  refine s_lload_n (i := 1) dL_sum_204 rfl rfl ?_
  refine s_lmul dL_sum_205 ?_
  refine s_sipush (v := 1000) dL_sum_206 (by decide) ?_
  refine s_iload dL_sum_209 rfl ?_
  refine s_imul dL_sum_211 ?_
  refine s_i2l (v := ((1000 : Int32) * s0).toInt64) dL_sum_212 rfl ?_
  refine s_ladd dL_sum_213 ?_
  refine s_aload_n (i := 0) dL_sum_214 rfl rfl ?_
  refine s_iload_n (i := 3) dL_sum_215 rfl rfl ?_
  refine s_iload dL_sum_216 rfl ?_
  obtain ⟨a1, ea1, h⟩ := h
  obtain ⟨t2, h⟩ := h
  obtain ⟨u3, u4, h⟩ := h
  exact t_callV (rmY := rX8_echoOf) (ci := 8) (as := [(vI x3), (vI s0)]) (S := [(vL (((47 : Int64) * x1) + (((1000 : Int32) * s0).toInt64)))]) gk dL_sum_218 gL_69 (by decide) rfl w_846 w_847 ea1 t2 rfl rfl (Nat.le_of_ble_eq_true rfl) ⟨by decide, by decide, u3, u4⟩ h
theorem vL_sum_221 {G : GG} (gk : GOK G) {uc us : Nat} {σ : Mm} {K : RES → Mm → Prop} {x0 : Option Nat} {x1 : Int64} {x3 : Int32} {x4 : Int32} {x5 : Int32} {s0 : Int32} {s1 : Int64}
    (h : ∃ a1, x0 = some a1 ∧ (mt σ a1).1 = 9 ∧ uc + 2 ≤ 500 ∧ us + 12 ≤ 3000 ∧ Runs G mX8_ageOf rX8_ageOf [(vR x0), (vI x3), (vI x5)] σ (bk G mL_sum rL_sum (uc + 2) (us + 12) 238 [some (vR x0), some (vL (s1 + s0.toInt64)), none, some (vI x3), some (vI x4), some (vI x5)] [(vI (100 : Int32)), (vL ((53 : Int64) * (s1 + s0.toInt64)))] K)) : At G mL_sum rL_sum uc us 221 [some (vR x0), some (vL x1), none, some (vI x3), some (vI x4), some (vI x5)] [(vI s0), (vL s1)] σ K := by
  refine s_i2l (v := s0.toInt64) dL_sum_221 rfl ?_
  refine s_ladd dL_sum_222 ?_
  refine s_lstore_n (i := 1) (L' := [some (vR x0), some (vL (s1 + s0.toInt64)), none, some (vI x3), some (vI x4), some (vI x5)]) dL_sum_223 rfl rfl (by decide) rfl ?_
  refine s_ldc2 gk dL_sum_224 w_1401 ?_
  refine s_lload_n (i := 1) dL_sum_227 rfl rfl ?_
  refine s_lmul dL_sum_228 ?_
  refine s_bipush (v := 100) dL_sum_229 (by decide) ?_
  refine s_aload_n (i := 0) dL_sum_231 rfl rfl ?_
  refine s_iload_n (i := 3) dL_sum_232 rfl rfl ?_
  refine s_iload dL_sum_233 rfl ?_
  obtain ⟨a1, ea1, h⟩ := h
  obtain ⟨t2, h⟩ := h
  obtain ⟨u3, u4, h⟩ := h
  exact t_callV (rmY := rX8_ageOf) (ci := 8) (as := [(vI x3), (vI x5)]) (S := [(vI (100 : Int32)), (vL ((53 : Int64) * (s1 + s0.toInt64)))]) gk dL_sum_235 gL_73 (by decide) rfl w_858 w_859 ea1 t2 rfl rfl (Nat.le_of_ble_eq_true rfl) ⟨by decide, by decide, u3, u4⟩ h
theorem vL_sum_238 {G : GG} (gk : GOK G) {uc us : Nat} {σ : Mm} {K : RES → Mm → Prop} {x0 : Option Nat} {x1 : Int64} {x3 : Int32} {x4 : Int32} {x5 : Int32} {s0 : Int32} {s1 : Int32} {s2 : Int64}
    (h : ∃ a1, x0 = some a1 ∧ (mt σ a1).1 = 9 ∧ uc + 2 ≤ 500 ∧ us + 12 ≤ 3000 ∧ Runs G mX8_hitsOf rX8_hitsOf [(vR x0), (vI x3), (vI x5)] σ (bk G mL_sum rL_sum (uc + 2) (us + 12) 249 [some (vR x0), some (vL x1), none, some (vI x3), some (vI x4), some (vI x5)] [(vI (4 : Int32)), (vL (s2 + ((s1 * s0).toInt64)))] K)) : At G mL_sum rL_sum uc us 238 [some (vR x0), some (vL x1), none, some (vI x3), some (vI x4), some (vI x5)] [(vI s0), (vI s1), (vL s2)] σ K := by
  refine s_imul dL_sum_238 ?_
  refine s_i2l (v := (s1 * s0).toInt64) dL_sum_239 rfl ?_
  refine s_ladd dL_sum_240 ?_
  refine s_iconst (v := 4) dL_sum_241 (by decide) ?_
  refine s_aload_n (i := 0) dL_sum_242 rfl rfl ?_
  refine s_iload_n (i := 3) dL_sum_243 rfl rfl ?_
  refine s_iload dL_sum_244 rfl ?_
  obtain ⟨a1, ea1, h⟩ := h
  obtain ⟨t2, h⟩ := h
  obtain ⟨u3, u4, h⟩ := h
  exact t_callV (rmY := rX8_hitsOf) (ci := 8) (as := [(vI x3), (vI x5)]) (S := [(vI (4 : Int32)), (vL (s2 + ((s1 * s0).toInt64)))]) gk dL_sum_246 gL_76 (by decide) rfl w_866 w_867 ea1 t2 rfl rfl (Nat.le_of_ble_eq_true rfl) ⟨by decide, by decide, u3, u4⟩ h
theorem vL_sum_249 {G : GG} (gk : GOK G) {uc us : Nat} {σ : Mm} {K : RES → Mm → Prop} {x0 : Option Nat} {x1 : Int64} {x3 : Int32} {x4 : Int32} {x5 : Int32} {s0 : Int32} {s1 : Int32} {s2 : Int64}
    (h : ∃ a1, x0 = some a1 ∧ (mt σ a1).1 = 9 ∧ uc + 2 ≤ 500 ∧ us + 12 ≤ 3000 ∧ Runs G mX8_isOpen rX8_isOpen [(vR x0), (vI x3), (vI x5)] σ (bk G mL_sum rL_sum (uc + 2) (us + 12) 259 [some (vR x0), some (vL x1), none, some (vI x3), some (vI x4), some (vI x5)] [(vL (s2 + ((s1 * s0).toInt64)))] K)) : At G mL_sum rL_sum uc us 249 [some (vR x0), some (vL x1), none, some (vI x3), some (vI x4), some (vI x5)] [(vI s0), (vI s1), (vL s2)] σ K := by
  refine s_imul dL_sum_249 ?_
  refine s_i2l (v := (s1 * s0).toInt64) dL_sum_250 rfl ?_
  refine s_ladd dL_sum_251 ?_
  refine s_aload_n (i := 0) dL_sum_252 rfl rfl ?_
  refine s_iload_n (i := 3) dL_sum_253 rfl rfl ?_
  refine s_iload dL_sum_254 rfl ?_
  obtain ⟨a1, ea1, h⟩ := h
  obtain ⟨t2, h⟩ := h
  obtain ⟨u3, u4, h⟩ := h
  exact t_callV (rmY := rX8_isOpen) (ci := 8) (as := [(vI x3), (vI x5)]) (S := [(vL (s2 + ((s1 * s0).toInt64)))]) gk dL_sum_256 gL_82 (by decide) rfl w_873 w_874 ea1 t2 rfl rfl (Nat.le_of_ble_eq_true rfl) ⟨by decide, by decide, u3, u4⟩ h
theorem vL_sum_259 {G : GG} (gk : GOK G) {uc us : Nat} {σ : Mm} {K : RES → Mm → Prop} {x0 : Option Nat} {x1 : Int64} {x3 : Int32} {x4 : Int32} {x5 : Int32} {s0 : Int32} {s1 : Int64}
    (h : ((s0 = 0 → ∃ a2, x0 = some a2 ∧ (mt σ a2).1 = 9 ∧ uc + 2 ≤ 500 ∧ us + 12 ≤ 3000 ∧ Runs G mX8_isTrue rX8_isTrue [(vR x0), (vI x3), (vI x5)] σ (bk G mL_sum rL_sum (uc + 2) (us + 12) 276 [some (vR x0), some (vL x1), none, some (vI x3), some (vI x4), some (vI x5)] [(vL (s1 + ((0 : Int32).toInt64)))] K)) ∧ (¬ s0 = 0 → ∃ a6, x0 = some a6 ∧ (mt σ a6).1 = 9 ∧ uc + 2 ≤ 500 ∧ us + 12 ≤ 3000 ∧ Runs G mX8_isTrue rX8_isTrue [(vR x0), (vI x3), (vI x5)] σ (bk G mL_sum rL_sum (uc + 2) (us + 12) 276 [some (vR x0), some (vL x1), none, some (vI x3), some (vI x4), some (vI x5)] [(vL (s1 + ((2 : Int32).toInt64)))] K)))) : At G mL_sum rL_sum uc us 259 [some (vR x0), some (vL x1), none, some (vI x3), some (vI x4), some (vI x5)] [(vI s0), (vL s1)] σ K := by
  refine s_if_eq (tgt := 266) dL_sum_259 (by decide) (fun q1 => ?_) (fun q1 => ?_)
  · have h := h.1 q1
    refine s_iconst (v := 0) dL_sum_266 (by decide) ?_
    refine s_i2l (v := (0 : Int32).toInt64) dL_sum_267 rfl ?_
    refine s_ladd dL_sum_268 ?_
    refine s_aload_n (i := 0) dL_sum_269 rfl rfl ?_
    refine s_iload_n (i := 3) dL_sum_270 rfl rfl ?_
    refine s_iload dL_sum_271 rfl ?_
    obtain ⟨a2, ea2, h⟩ := h
    obtain ⟨t3, h⟩ := h
    obtain ⟨u4, u5, h⟩ := h
    exact t_callV (rmY := rX8_isTrue) (ci := 8) (as := [(vI x3), (vI x5)]) (S := [(vL (s1 + ((0 : Int32).toInt64)))]) gk dL_sum_273 gL_85 (by decide) rfl w_895 w_896 ea2 t3 rfl rfl (Nat.le_of_ble_eq_true rfl) ⟨by decide, by decide, u4, u5⟩ h
  · have h := h.2 q1
    refine s_iconst (v := 2) dL_sum_262 (by decide) ?_
    refine s_goto (tgt := 267) dL_sum_263 (by decide) ?_
    refine s_i2l (v := (2 : Int32).toInt64) dL_sum_267 rfl ?_
    refine s_ladd dL_sum_268 ?_
    refine s_aload_n (i := 0) dL_sum_269 rfl rfl ?_
    refine s_iload_n (i := 3) dL_sum_270 rfl rfl ?_
    refine s_iload dL_sum_271 rfl ?_
    obtain ⟨a6, ea6, h⟩ := h
    obtain ⟨t7, h⟩ := h
    obtain ⟨u8, u9, h⟩ := h
    exact t_callV (rmY := rX8_isTrue) (ci := 8) (as := [(vI x3), (vI x5)]) (S := [(vL (s1 + ((2 : Int32).toInt64)))]) gk dL_sum_273 gL_85 (by decide) rfl w_895 w_896 ea6 t7 rfl rfl (Nat.le_of_ble_eq_true rfl) ⟨by decide, by decide, u8, u9⟩ h
theorem vL_sum_276 {G : GG} (gk : GOK G) {uc us : Nat} {σ : Mm} {K : RES → Mm → Prop} {x0 : Option Nat} {x1 : Int64} {x3 : Int32} {x4 : Int32} {x5 : Int32} {s0 : Int32} {s1 : Int64}
    (h : ((s0 = 0 → At G mL_sum rL_sum uc us 182 [some (vR x0), some (vL (s1 + ((0 : Int32).toInt64))), none, some (vI x3), some (vI (x4 + 1)), none] [] σ K) ∧ (¬ s0 = 0 → At G mL_sum rL_sum uc us 182 [some (vR x0), some (vL (s1 + ((1 : Int32).toInt64))), none, some (vI x3), some (vI (x4 + 1)), none] [] σ K))) : At G mL_sum rL_sum uc us 276 [some (vR x0), some (vL x1), none, some (vI x3), some (vI x4), some (vI x5)] [(vI s0), (vL s1)] σ K := by
  refine s_if_eq (tgt := 283) dL_sum_276 (by decide) (fun q1 => ?_) (fun q1 => ?_)
  · have h := h.1 q1
    refine s_iconst (v := 0) dL_sum_283 (by decide) ?_
    refine s_i2l (v := (0 : Int32).toInt64) dL_sum_284 rfl ?_
    refine s_ladd dL_sum_285 ?_
    refine s_lstore_n (i := 1) (L' := [some (vR x0), some (vL (s1 + ((0 : Int32).toInt64))), none, some (vI x3), some (vI x4), some (vI x5)]) dL_sum_286 rfl rfl (by decide) rfl ?_
    refine s_iinc (v := x4 + 1) (L' := [some (vR x0), some (vL (s1 + ((0 : Int32).toInt64))), none, some (vI x3), some (vI (x4 + 1)), some (vI x5)]) dL_sum_287 rfl rfl rfl (by decide) rfl ?_
    refine s_goto (tgt := 182) dL_sum_290 (by decide) ?_
    exact h.msk ⟨rfl, ⟨rfl, ⟨rfl, ⟨rfl, trivial⟩⟩⟩⟩
  · have h := h.2 q1
    refine s_iconst (v := 1) dL_sum_279 (by decide) ?_
    refine s_goto (tgt := 284) dL_sum_280 (by decide) ?_
    refine s_i2l (v := (1 : Int32).toInt64) dL_sum_284 rfl ?_
    refine s_ladd dL_sum_285 ?_
    refine s_lstore_n (i := 1) (L' := [some (vR x0), some (vL (s1 + ((1 : Int32).toInt64))), none, some (vI x3), some (vI x4), some (vI x5)]) dL_sum_286 rfl rfl (by decide) rfl ?_
    refine s_iinc (v := x4 + 1) (L' := [some (vR x0), some (vL (s1 + ((1 : Int32).toInt64))), none, some (vI x3), some (vI (x4 + 1)), some (vI x5)]) dL_sum_287 rfl rfl rfl (by decide) rfl ?_
    refine s_goto (tgt := 182) dL_sum_290 (by decide) ?_
    exact h.msk ⟨rfl, ⟨rfl, ⟨rfl, ⟨rfl, trivial⟩⟩⟩⟩
theorem vL_sum_301 {G : GG} (gk : GOK G) {uc us : Nat} {σ : Mm} {K : RES → Mm → Prop} {x0 : Option Nat} {x1 : Int64} {x3 : Int32}
    (h : ∃ a1, x0 = some a1 ∧ (mt σ a1).1 = 9 ∧ uc + 0 ≤ 500 ∧ us + 0 ≤ 3000 ∧ Runs G mX8_warmingCount rX8_warmingCount [(vR x0)] σ (bk G mL_sum rL_sum (uc + 0) (us + 0) 306 [some (vR x0), some (vL x1), none, some (vI x3), none, none] [(vI x3)] K)) : At G mL_sum rL_sum uc us 301 [some (vR x0), some (vL x1), none, some (vI x3), none, none] [] σ K := by
  refine s_iload_n (i := 3) dL_sum_301 rfl rfl ?_
  refine s_aload_n (i := 0) dL_sum_302 rfl rfl ?_
  obtain ⟨a1, ea1, h⟩ := h
  obtain ⟨t2, h⟩ := h
  obtain ⟨u3, u4, h⟩ := h
  exact t_callV (rmY := rX8_warmingCount) (ci := 8) (as := []) (S := [(vI x3)]) gk dL_sum_303 gL_280 (by decide) rfl w_1030 w_1031 ea1 t2 rfl rfl (Nat.le_of_ble_eq_true rfl) ⟨by decide, by decide, u3, u4⟩ h
theorem vL_sum_306 {G : GG} (gk : GOK G) {uc us : Nat} {σ : Mm} {K : RES → Mm → Prop} {x0 : Option Nat} {x1 : Int64} {x3 : Int32} {s0 : Int32} {s1 : Int32}
    (h : ((s0 ≤ s1 → uc ≤ 500 ∧ us ≤ 3000 ∧ K (.inl (some (vL x1))) σ) ∧ (¬ s0 ≤ s1 → ∃ a4, x0 = some a4 ∧ (mt σ a4).1 = 9 ∧ uc + 1 ≤ 500 ∧ us + 6 ≤ 3000 ∧ Runs G mX8_warmingMinute rX8_warmingMinute [(vR x0), (vI x3)] σ (bk G mL_sum rL_sum (uc + 1) (us + 6) 322 [some (vR x0), some (vL x1), none, some (vI x3), none, none] [(vI (200 : Int32)), (vL ((59 : Int64) * x1))] K)))) : At G mL_sum rL_sum uc us 306 [some (vR x0), some (vL x1), none, some (vI x3), none, none] [(vI s0), (vI s1)] σ K := by
  refine s_icmp_ge (tgt := 339) dL_sum_306 (by decide) (fun q1 => ?_) (fun q1 => ?_)
  · have h := h.1 q1
    refine s_lload_n (i := 1) dL_sum_339 rfl rfl ?_
    obtain ⟨u2, u3, h⟩ := h
    exact s_lreturn dL_sum_340 rfl u2 u3 h
  · have h := h.2 q1
    refine s_ldc2 gk dL_sum_309 w_1402 ?_
    refine s_lload_n (i := 1) dL_sum_312 rfl rfl ?_
    refine s_lmul dL_sum_313 ?_
    refine s_sipush (v := 200) dL_sum_314 (by decide) ?_
    refine s_aload_n (i := 0) dL_sum_317 rfl rfl ?_
    refine s_iload_n (i := 3) dL_sum_318 rfl rfl ?_
    obtain ⟨a4, ea4, h⟩ := h
    obtain ⟨t5, h⟩ := h
    obtain ⟨u6, u7, h⟩ := h
    exact t_callV (rmY := rX8_warmingMinute) (ci := 8) (as := [(vI x3)]) (S := [(vI (200 : Int32)), (vL ((59 : Int64) * x1))]) gk dL_sum_319 gL_114 (by decide) rfl w_1038 w_1039 ea4 t5 rfl rfl (Nat.le_of_ble_eq_true rfl) ⟨by decide, by decide, u6, u7⟩ h
theorem vL_sum_322 {G : GG} (gk : GOK G) {uc us : Nat} {σ : Mm} {K : RES → Mm → Prop} {x0 : Option Nat} {x1 : Int64} {x3 : Int32} {s0 : Int32} {s1 : Int32} {s2 : Int64}
    (h : ∃ a1, x0 = some a1 ∧ (mt σ a1).1 = 9 ∧ uc + 1 ≤ 500 ∧ us + 6 ≤ 3000 ∧ Runs G mX8_warmingJar rX8_warmingJar [(vR x0), (vI x3)] σ (bk G mL_sum rL_sum (uc + 1) (us + 6) 330 [some (vR x0), some (vL x1), none, some (vI x3), none, none] [(vL (s2 + ((s1 * s0).toInt64)))] K)) : At G mL_sum rL_sum uc us 322 [some (vR x0), some (vL x1), none, some (vI x3), none, none] [(vI s0), (vI s1), (vL s2)] σ K := by
  refine s_imul dL_sum_322 ?_
  refine s_i2l (v := (s1 * s0).toInt64) dL_sum_323 rfl ?_
  refine s_ladd dL_sum_324 ?_
  refine s_aload_n (i := 0) dL_sum_325 rfl rfl ?_
  refine s_iload_n (i := 3) dL_sum_326 rfl rfl ?_
  obtain ⟨a1, ea1, h⟩ := h
  obtain ⟨t2, h⟩ := h
  obtain ⟨u3, u4, h⟩ := h
  exact t_callV (rmY := rX8_warmingJar) (ci := 8) (as := [(vI x3)]) (S := [(vL (s2 + ((s1 * s0).toInt64)))]) gk dL_sum_327 gL_117 (by decide) rfl w_1054 w_1055 ea1 t2 rfl rfl (Nat.le_of_ble_eq_true rfl) ⟨by decide, by decide, u3, u4⟩ h
theorem vL_sum_330 {G : GG} (gk : GOK G) {uc us : Nat} {σ : Mm} {K : RES → Mm → Prop} {x0 : Option Nat} {x1 : Int64} {x3 : Int32} {s0 : Int32} {s1 : Int64}
    (h : At G mL_sum rL_sum uc us 301 [some (vR x0), some (vL (s1 + s0.toInt64)), none, some (vI (x3 + 1)), none, none] [] σ K) : At G mL_sum rL_sum uc us 330 [some (vR x0), some (vL x1), none, some (vI x3), none, none] [(vI s0), (vL s1)] σ K := by
  refine s_i2l (v := s0.toInt64) dL_sum_330 rfl ?_
  refine s_ladd dL_sum_331 ?_
  refine s_lstore_n (i := 1) (L' := [some (vR x0), some (vL (s1 + s0.toInt64)), none, some (vI x3), none, none]) dL_sum_332 rfl rfl (by decide) rfl ?_
  refine s_iinc (v := x3 + 1) (L' := [some (vR x0), some (vL (s1 + s0.toInt64)), none, some (vI (x3 + 1)), none, none]) dL_sum_333 rfl rfl rfl (by decide) rfl ?_
  refine s_goto (tgt := 301) dL_sum_336 (by decide) ?_
  exact h
theorem vL_law_0 {G : GG} (gk : GOK G) {uc us : Nat} {σ : Mm} {K : RES → Mm → Prop} {x0 : Option Nat} {x1 : Option Nat}
    (h : uc + 10000 ≤ 688979 ∧ us + 200000 ≤ 7023351 ∧ Runs G mL_drawn rL_drawn [(vR x0)] σ (bk G mL_law rL_law (uc + 10000) (us + 200000) 4 [some (vR x0), some (vR x1)] [] K)) : At G mL_law rL_law uc us 0 [some (vR x0), some (vR x1)] [] σ K := by
  refine s_aload_n (i := 0) dL_law_0 rfl rfl ?_
  obtain ⟨u1, u2, h⟩ := h
  exact s_callS (as := [(vR x0)]) (S := []) gk dL_law_1 gL_193 w_33 rfl rfl (Nat.le_of_ble_eq_true rfl) ⟨by decide, by decide, u1, u2⟩ h
theorem eL_law {G : GG} (gk : GOK G) {σ : Mm} {K : RES → Mm → Prop} {x0 : Option Nat} {x1 : Option Nat}
    (h : 0 + 10000 ≤ 688979 ∧ 0 + 200000 ≤ 7023351 ∧ Runs G mL_drawn rL_drawn [(vR x0)] σ (bk G mL_law rL_law (0 + 10000) (0 + 200000) 4 [some (vR x0), some (vR x1)] [] K)) : Runs G mL_law rL_law [(vR x0), (vR x1)] σ K := Runs.of (by decide) rfl (Nat.le_of_ble_eq_true rfl) (vL_law_0 gk h)
theorem vL_law_4 {G : GG} (gk : GOK G) {uc us : Nat} {σ : Mm} {K : RES → Mm → Prop} {x0 : Option Nat} {x1 : Option Nat} {s0 : Option Nat}
    (h : ((s0 = none → uc ≤ 688979 ∧ us ≤ 7023351 ∧ K (.inl (some (vI (0 : Int32)))) σ) ∧ (∀ a4, s0 = some a4 → uc + 100 ≤ 688979 ∧ us + 600 ≤ 7023351 ∧ Runs G mL_jars rL_jars [(vR s0)] σ (bk G mL_law rL_law (uc + 100) (us + 600) 13 [some (vR x0), some (vR s0)] [] K)))) : At G mL_law rL_law uc us 4 [some (vR x0), some (vR x1)] [(vR s0)] σ K := by
  refine s_astore_n (i := 1) (L' := [some (vR x0), some (vR s0)]) dL_law_4 rfl rfl (by decide) rfl ?_
  refine s_aload_n (i := 1) dL_law_5 rfl rfl ?_
  refine s_ifnull (tgt := 49) dL_law_6 (by decide) (fun q1 => ?_) (fun a4 ea4 => ?_)
  · have h := h.1 q1
    refine s_iconst (v := 0) dL_law_49 (by decide) ?_
    obtain ⟨u2, u3, h⟩ := h
    exact s_ireturn dL_law_50 rfl rfl u2 u3 h
  · have h := h.2 a4 ea4
    refine s_aload_n (i := 1) dL_law_9 rfl rfl ?_
    obtain ⟨u5, u6, h⟩ := h
    exact s_callS (as := [(vR s0)]) (S := []) gk dL_law_10 gL_197 w_795 rfl rfl (Nat.le_of_ble_eq_true rfl) ⟨by decide, by decide, u5, u6⟩ h
theorem vL_law_13 {G : GG} (gk : GOK G) {uc us : Nat} {σ : Mm} {K : RES → Mm → Prop} {x0 : Option Nat} {x1 : Option Nat} {s0 : Int32}
    (h : ((s0 = 0 → uc ≤ 688979 ∧ us ≤ 7023351 ∧ K (.inl (some (vI (0 : Int32)))) σ) ∧ (¬ s0 = 0 → uc + 6000 ≤ 688979 ∧ us + 36000 ≤ 7023351 ∧ Runs G mL_shelves rL_shelves [(vR x1)] σ (bk G mL_law rL_law (uc + 6000) (us + 36000) 20 [some (vR x0), some (vR x1)] [] K)))) : At G mL_law rL_law uc us 13 [some (vR x0), some (vR x1)] [(vI s0)] σ K := by
  refine s_if_eq (tgt := 49) dL_law_13 (by decide) (fun q1 => ?_) (fun q1 => ?_)
  · have h := h.1 q1
    refine s_iconst (v := 0) dL_law_49 (by decide) ?_
    obtain ⟨u2, u3, h⟩ := h
    exact s_ireturn dL_law_50 rfl rfl u2 u3 h
  · have h := h.2 q1
    refine s_aload_n (i := 1) dL_law_16 rfl rfl ?_
    obtain ⟨u4, u5, h⟩ := h
    exact s_callS (as := [(vR x1)]) (S := []) gk dL_law_17 gL_201 w_827 rfl rfl (Nat.le_of_ble_eq_true rfl) ⟨by decide, by decide, u4, u5⟩ h
theorem vL_law_20 {G : GG} (gk : GOK G) {uc us : Nat} {σ : Mm} {K : RES → Mm → Prop} {x0 : Option Nat} {x1 : Option Nat} {s0 : Int32}
    (h : ((s0 = 0 → uc ≤ 688979 ∧ us ≤ 7023351 ∧ K (.inl (some (vI (0 : Int32)))) σ) ∧ (¬ s0 = 0 → uc + 100 ≤ 688979 ∧ us + 600 ≤ 7023351 ∧ Runs G mL_warmings rL_warmings [(vR x1)] σ (bk G mL_law rL_law (uc + 100) (us + 600) 27 [some (vR x0), some (vR x1)] [] K)))) : At G mL_law rL_law uc us 20 [some (vR x0), some (vR x1)] [(vI s0)] σ K := by
  refine s_if_eq (tgt := 49) dL_law_20 (by decide) (fun q1 => ?_) (fun q1 => ?_)
  · have h := h.1 q1
    refine s_iconst (v := 0) dL_law_49 (by decide) ?_
    obtain ⟨u2, u3, h⟩ := h
    exact s_ireturn dL_law_50 rfl rfl u2 u3 h
  · have h := h.2 q1
    refine s_aload_n (i := 1) dL_law_23 rfl rfl ?_
    obtain ⟨u4, u5, h⟩ := h
    exact s_callS (as := [(vR x1)]) (S := []) gk dL_law_24 gL_204 w_1027 rfl rfl (Nat.le_of_ble_eq_true rfl) ⟨by decide, by decide, u4, u5⟩ h
theorem vL_law_27 {G : GG} (gk : GOK G) {uc us : Nat} {σ : Mm} {K : RES → Mm → Prop} {x0 : Option Nat} {x1 : Option Nat} {s0 : Int32}
    (h : ((s0 = 0 → uc ≤ 688979 ∧ us ≤ 7023351 ∧ K (.inl (some (vI (0 : Int32)))) σ) ∧ (¬ s0 = 0 → uc + 3000 ≤ 688979 ∧ us + 150000 ≤ 7023351 ∧ Runs G mL_lines rL_lines [(vR x1)] σ (bk G mL_law rL_law (uc + 3000) (us + 150000) 34 [some (vR x0), some (vR x1)] [] K)))) : At G mL_law rL_law uc us 27 [some (vR x0), some (vR x1)] [(vI s0)] σ K := by
  refine s_if_eq (tgt := 49) dL_law_27 (by decide) (fun q1 => ?_) (fun q1 => ?_)
  · have h := h.1 q1
    refine s_iconst (v := 0) dL_law_49 (by decide) ?_
    obtain ⟨u2, u3, h⟩ := h
    exact s_ireturn dL_law_50 rfl rfl u2 u3 h
  · have h := h.2 q1
    refine s_aload_n (i := 1) dL_law_30 rfl rfl ?_
    obtain ⟨u4, u5, h⟩ := h
    exact s_callS (as := [(vR x1)]) (S := []) gk dL_law_31 gL_207 w_1087 rfl rfl (Nat.le_of_ble_eq_true rfl) ⟨by decide, by decide, u4, u5⟩ h
theorem vL_law_34 {G : GG} (gk : GOK G) {uc us : Nat} {σ : Mm} {K : RES → Mm → Prop} {x0 : Option Nat} {x1 : Option Nat} {s0 : Int32}
    (h : ((s0 = 0 → uc ≤ 688979 ∧ us ≤ 7023351 ∧ K (.inl (some (vI (0 : Int32)))) σ) ∧ (¬ s0 = 0 → uc + 12000 ≤ 688979 ∧ us + 80000 ≤ 7023351 ∧ Runs G mL_undone rL_undone [(vR x0), (vR x1)] σ (bk G mL_law rL_law (uc + 12000) (us + 80000) 42 [some (vR x0), some (vR x1)] [] K)))) : At G mL_law rL_law uc us 34 [some (vR x0), some (vR x1)] [(vI s0)] σ K := by
  refine s_if_eq (tgt := 49) dL_law_34 (by decide) (fun q1 => ?_) (fun q1 => ?_)
  · have h := h.1 q1
    refine s_iconst (v := 0) dL_law_49 (by decide) ?_
    obtain ⟨u2, u3, h⟩ := h
    exact s_ireturn dL_law_50 rfl rfl u2 u3 h
  · have h := h.2 q1
    refine s_aload_n (i := 0) dL_law_37 rfl rfl ?_
    refine s_aload_n (i := 1) dL_law_38 rfl rfl ?_
    obtain ⟨u4, u5, h⟩ := h
    exact s_callS (as := [(vR x0), (vR x1)]) (S := []) gk dL_law_39 gL_210 w_1390 rfl rfl (Nat.le_of_ble_eq_true rfl) ⟨by decide, by decide, u4, u5⟩ h
theorem vL_law_42 {G : GG} (gk : GOK G) {uc us : Nat} {σ : Mm} {K : RES → Mm → Prop} {x0 : Option Nat} {x1 : Option Nat} {s0 : Int32}
    (h : ((s0 = 0 → uc ≤ 688979 ∧ us ≤ 7023351 ∧ K (.inl (some (vI (0 : Int32)))) σ) ∧ (¬ s0 = 0 → uc ≤ 688979 ∧ us ≤ 7023351 ∧ K (.inl (some (vI (1 : Int32)))) σ))) : At G mL_law rL_law uc us 42 [some (vR x0), some (vR x1)] [(vI s0)] σ K := by
  refine s_if_eq (tgt := 49) dL_law_42 (by decide) (fun q1 => ?_) (fun q1 => ?_)
  · have h := h.1 q1
    refine s_iconst (v := 0) dL_law_49 (by decide) ?_
    obtain ⟨u2, u3, h⟩ := h
    exact s_ireturn dL_law_50 rfl rfl u2 u3 h
  · have h := h.2 q1
    refine s_iconst (v := 1) dL_law_45 (by decide) ?_
    refine s_goto (tgt := 50) dL_law_46 (by decide) ?_
    obtain ⟨u4, u5, h⟩ := h
    exact s_ireturn dL_law_50 rfl rfl u4 u5 h
