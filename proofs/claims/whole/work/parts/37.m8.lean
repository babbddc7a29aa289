/-! ===== the model: questions ===== -/
theorem th_r {σ : Mm} {a : Nat} {t : Int32} : mr (th σ a t) = mr σ := rfl
theorem th_t {σ : Mm} {a : Nat} {t : Int32} : mt (th σ a t) = mt σ := rfl
section MK
variable {G : GG} {σ : Mm} {K : RES → Mm → Prop} {a : Nat}
theorem kX9_capacityOf (gk : GOK G) (hM : MS σ a) {x : Int32} (hB : shB (mi σ (a + 1))) (h1 : ¬ shP (mi σ (a + 1)) x → ∀ z : Int32, K (.inl (some (vI z))) (th σ a 1)) (hk : ∀ k : Nat, k < 4 → x = nI k → nI k < mi σ (a + 1) 0 → K (.inl (some (vI (mi σ (a + 1) (86 + 187 * k))))) (th σ a 0)) : Runs G mX9_capacityOf rX9_capacityOf [vR (some a), vI x] σ K := by
  refine eX9_capacityOf gk ⟨_, rfl, hM.ty, kX9_isShelf gk hM (vX9_capacityOf_6 gk ⟨_, rfl, hM.ty, kX9_isThere gk hM (vX9_capacityOf_9 gk ⟨fun q => ?_, fun q => ⟨_, rfl, hM.ty, ?_⟩⟩)⟩)⟩
  · rw [bP_t (p := ¬ _) (bP_0.mp q)]; exact h1 (bP_0.mp q) _
  · obtain ⟨k, hk4, rfl, hk0⟩ := shP_k hB (bP_n q)
    rw [bP_f (p := ¬ _) (fun z => z (bP_n q))]
    have h9 := hk k hk4 rfl hk0
    refine kX9_of (j := 0) gk hM.th (by omega) (vX9_capacityOf_18 gk ?_)
    rw [th_1]
    exact h9
theorem kX9_lifetimeOf (gk : GOK G) (hM : MS σ a) {x : Int32} (hB : shB (mi σ (a + 1))) (h1 : ¬ shP (mi σ (a + 1)) x → ∀ z : Int32, K (.inl (some (vI z))) (th σ a 1)) (hk : ∀ k : Nat, k < 4 → x = nI k → nI k < mi σ (a + 1) 0 → K (.inl (some (vI (mi σ (a + 1) (86 + 187 * k + 1))))) (th σ a 0)) : Runs G mX9_lifetimeOf rX9_lifetimeOf [vR (some a), vI x] σ K := by
  refine eX9_lifetimeOf gk ⟨_, rfl, hM.ty, kX9_isShelf gk hM (vX9_lifetimeOf_6 gk ⟨_, rfl, hM.ty, kX9_isThere gk hM (vX9_lifetimeOf_9 gk ⟨fun q => ?_, fun q => ⟨_, rfl, hM.ty, ?_⟩⟩)⟩)⟩
  · rw [bP_t (p := ¬ _) (bP_0.mp q)]; exact h1 (bP_0.mp q) _
  · obtain ⟨k, hk4, rfl, hk0⟩ := shP_k hB (bP_n q)
    rw [bP_f (p := ¬ _) (fun z => z (bP_n q))]
    have h9 := hk k hk4 rfl hk0
    refine kX9_of (j := 1) gk hM.th (by omega) (vX9_lifetimeOf_18 gk ?_)
    rw [th_1]
    exact h9
theorem isC_i2c (x : Int32) : isC (i2c x) := by
  unfold i2c
  rw [pk_char]
  exact isC_nI (Nat.mod_lt _ (by omega))
theorem kX9_policyOf (gk : GOK G) (hM : MS σ a) {x : Int32} (hB : shB (mi σ (a + 1))) (h1 : ¬ shP (mi σ (a + 1)) x → ∀ z : Int32, K (.inl (some (vI z))) (th σ a 1)) (hk : ∀ k : Nat, k < 4 → x = nI k → nI k < mi σ (a + 1) 0 → K (.inl (some (vI (i2c (mi σ (a + 1) (86 + 187 * k + 2)))))) (th σ a 0)) : Runs G mX9_policyOf rX9_policyOf [vR (some a), vI x] σ K := by
  refine eX9_policyOf gk ⟨_, rfl, hM.ty, kX9_isShelf gk hM (vX9_policyOf_6 gk ⟨_, rfl, hM.ty, kX9_isThere gk hM (vX9_policyOf_9 gk ⟨fun q => ?_, fun q => ⟨_, rfl, hM.ty, ?_⟩⟩)⟩)⟩
  · rw [bP_t (p := ¬ _) (bP_0.mp q)]; exact h1 (bP_0.mp q) _
  · obtain ⟨k, hk4, rfl, hk0⟩ := shP_k hB (bP_n q)
    rw [bP_f (p := ¬ _) (fun z => z (bP_n q))]
    have h9 := hk k hk4 rfl hk0
    refine kX9_of (j := 2) gk hM.th (by omega) (vX9_policyOf_18 gk ?_)
    rw [th_1]
    exact ⟨isC_i2c _, h9⟩
theorem cs_bP {p : Prop} {x : Prop} {A B : Int32 → Prop} (h : A (bP p)) (e : x = A (bP p)) : x := by rw [e]; exact h
theorem kX9_isListening (gk : GOK G) (hM : MS σ a) {x : Int32} (hB : shB (mi σ (a + 1))) (h1 : ¬ shP (mi σ (a + 1)) x → ∀ z : Int32, K (.inl (some (vI z))) (th σ a 1)) (hk : ∀ k : Nat, k < 4 → x = nI k → nI k < mi σ (a + 1) 0 → K (.inl (some (vI (bP (mi σ (a + 1) (86 + 187 * k + 3) = 1))))) (th σ a 0)) : Runs G mX9_isListening rX9_isListening [vR (some a), vI x] σ K := by
  refine eX9_isListening gk ⟨_, rfl, hM.ty, kX9_isShelf gk hM (vX9_isListening_6 gk ⟨_, rfl, hM.ty, kX9_isThere gk hM (vX9_isListening_9 gk ⟨fun q => ?_, fun q => ⟨_, rfl, hM.ty, ?_⟩⟩)⟩)⟩
  · rw [bP_t (p := ¬ _) (bP_0.mp q)]; exact h1 (bP_0.mp q) _
  · obtain ⟨k, hk4, rfl, hk0⟩ := shP_k hB (bP_n q)
    rw [bP_f (p := ¬ _) (fun z => z (bP_n q))]
    have h9 := hk k hk4 rfl hk0
    refine kX9_of (j := 3) gk hM.th (by omega) (vX9_isListening_18 gk ?_)
    rw [th_1]
    exact ⟨fun q => by rw [bP_f q] at h9; exact h9, fun q => by rw [bP_t q] at h9; exact h9⟩
theorem kX9_echoCount (gk : GOK G) (hM : MS σ a) {x : Int32} (hB : shB (mi σ (a + 1))) (h1 : ¬ shP (mi σ (a + 1)) x → ∀ z : Int32, K (.inl (some (vI z))) (th σ a 1)) (hk : ∀ k : Nat, k < 4 → x = nI k → nI k < mi σ (a + 1) 0 → K (.inl (some (vI (nI (ecN (mi σ (a + 1)) k))))) (th σ a 0)) : Runs G mX9_echoCount rX9_echoCount [vR (some a), vI x] σ K := by
  refine eX9_echoCount gk ⟨_, rfl, hM.ty, kX9_isShelf gk hM (vX9_echoCount_6 gk ⟨_, rfl, hM.ty, kX9_isThere gk hM (vX9_echoCount_9 gk ⟨fun q => ?_, fun q => ⟨_, rfl, hM.ty, ?_⟩⟩)⟩)⟩
  · rw [bP_t (p := ¬ _) (bP_0.mp q)]; exact h1 (bP_0.mp q) _
  · obtain ⟨k, hk4, rfl, hk0⟩ := shP_k hB (bP_n q)
    rw [bP_f (p := ¬ _) (fun z => z (bP_n q))]
    have h9 := hk k hk4 rfl hk0
    refine kX9_echoes gk hM.th hk4 (vX9_echoCount_17 gk ?_)
    rw [th_1]
    exact h9
theorem kX9_hasEcho (gk : GOK G) (hM : MS σ a) {x y : Int32} (hB : shB (mi σ (a + 1))) (h1 : ¬ shP (mi σ (a + 1)) x → ∀ z : Int32, K (.inl (some (vI z))) (th σ a 1)) (hk : ∀ k : Nat, k < 4 → x = nI k → nI k < mi σ (a + 1) 0 → K (.inl (some (vI (bP (ecP (mi σ (a + 1)) k y))))) (th σ a 0)) : Runs G mX9_hasEcho rX9_hasEcho [vR (some a), vI x, vI y] σ K := by
  refine eX9_hasEcho gk ⟨_, rfl, hM.ty, kX9_isShelf gk hM (vX9_hasEcho_6 gk ⟨_, rfl, hM.ty, kX9_isThere gk hM (vX9_hasEcho_9 gk ⟨fun q => ?_, fun q => ⟨_, rfl, hM.ty, ?_⟩⟩)⟩)⟩
  · rw [bP_t (p := ¬ _) (bP_0.mp q)]; exact h1 (bP_0.mp q) _
  · obtain ⟨k, hk4, rfl, hk0⟩ := shP_k hB (bP_n q)
    rw [bP_f (p := ¬ _) (fun z => z (bP_n q))]
    have h9 := hk k hk4 rfl hk0
    refine kX9_isEcho gk hM.th hk4 (vX9_hasEcho_18 gk ?_)
    rw [th_1]
    exact ⟨fun q => by rw [bP_f (bP_0.mp q)] at h9; exact h9, fun q => by rw [bP_t (bP_n q)] at h9; exact h9⟩
theorem i20 : ((2 : Int32) = 0) = False := eq_false (by decide)
theorem kX9_asks (gk : GOK G) (hM : MS σ a) {x y : Int32} (hB : shB (mi σ (a + 1))) (h1 : ¬ shP (mi σ (a + 1)) x → K (.inl (some (vI 0))) (th σ a 1)) (h2 : ∀ k : Nat, k < 4 → x = nI k → nI k < mi σ (a + 1) 0 → ¬ ecP (mi σ (a + 1)) k y → K (.inl (some (vI 0))) (th σ a 2)) (hk : ∀ k l : Nat, k < 4 → l < 26 → x = nI k → y = nI (97 + l) → nI k < mi σ (a + 1) 0 → mi σ (a + 1) (eX k l) = 1 → K (.inl (some (vI 1))) (th σ a 0)) : Runs G mX9_asks rX9_asks [vR (some a), vI x, vI y] σ K := by
  refine eX9_asks gk ⟨_, rfl, hM.ty, kX9_isShelf gk hM (vX9_asks_6 gk ⟨fun q => ⟨_, rfl, hM.ty, ?_⟩, fun q => ?_⟩)⟩
  · obtain ⟨k, hk4, rfl, hk0⟩ := shP_k hB (bP_n q)
    refine kX9_isEcho gk hM hk4 (vX9_asks_19 gk ⟨fun q2 => ?_, fun q2 => ?_⟩)
    · obtain ⟨l, hl, rfl, hp⟩ := bP_n q2
      simp (disch := omega) only [forall_eq, exists_eq_left', Option.some.injEq, Prod.mk.injEq, true_and, and_true, hM.ty, hM.r0, hM.t0, sS_r, sS_t, si_sS, sS_sS, sS_s, nA0, nA1, nA2, nA3, nA4, nA5, nA6, nI_clamp, lc0, lc1, lc2, lc3, lc4, lc5, lc6, lc7, lc8, vinT, vi0, vi1, vi2, vi3, vi4, vi5, vi6, vi7, pk_us, pk_un, true_implies, not_true_eq_false, not_false_eq_true, false_implies, i00, i01, i10, i11, Nat.add_zero]
      exact hk k l hk4 hl rfl rfl hk0 hp
    · simp (disch := omega) only [forall_eq, exists_eq_left', Option.some.injEq, Prod.mk.injEq, true_and, and_true, hM.ty, hM.r0, hM.t0, sS_r, sS_t, si_sS, sS_sS, sS_s, nA0, nA1, nA2, nA3, nA4, nA5, nA6, nI_clamp, lc0, lc1, lc2, lc3, lc4, lc5, lc6, lc7, lc8, vinT, vi0, vi1, vi2, vi3, vi4, vi5, vi6, vi7, pk_us, pk_un, true_implies, not_true_eq_false, not_false_eq_true, false_implies, i00, i01, i10, i11, Nat.add_zero, i20]
      exact h2 k hk4 rfl hk0 (bP_0.mp q2)
  · simp (disch := omega) only [forall_eq, exists_eq_left', Option.some.injEq, Prod.mk.injEq, true_and, and_true, hM.ty, hM.r0, hM.t0, sS_r, sS_t, si_sS, sS_sS, sS_s, nA0, nA1, nA2, nA3, nA4, nA5, nA6, nI_clamp, lc0, lc1, lc2, lc3, lc4, lc5, lc6, lc7, lc8, vinT, vi0, vi1, vi2, vi3, vi4, vi5, vi6, vi7, pk_us, pk_un, true_implies, not_true_eq_false, not_false_eq_true, false_implies, i00, i01, i10, i11, Nat.add_zero]
    exact h1 (bP_0.mp q)
theorem kX9_echoOf (gk : GOK G) (hM : MS σ a) {x y : Int32} (hB : shB (mi σ (a + 1))) (h1 : ¬ shP (mi σ (a + 1)) x → ∀ z : Int32, K (.inl (some (vI z))) (th σ a 1)) (h2 : ∀ k : Nat, k < 4 → x = nI k → nI k < mi σ (a + 1) 0 → ¬ ecP (mi σ (a + 1)) k y → ∀ z : Int32, K (.inl (some (vI z))) (th σ a 2)) (hk : ∀ k l : Nat, k < 4 → l < 26 → x = nI k → y = nI (97 + l) → nI k < mi σ (a + 1) 0 → mi σ (a + 1) (eX k l) = 1 → K (.inl (some (vI (mi σ (a + 1) (eX k l + 1))))) (th σ a 0)) : Runs G mX9_echoOf rX9_echoOf [vR (some a), vI x, vI y] σ K := by
  refine eX9_echoOf gk ⟨_, rfl, hM.ty, kX9_asks gk hM hB (fun q => vX9_echoOf_6 gk ⟨fun _ => h1 q _, fun z => absurd rfl z⟩) (fun k hk4 e hk0 q => vX9_echoOf_6 gk ⟨fun _ => h2 k hk4 e hk0 q _, fun z => absurd rfl z⟩) fun k l hk4 hl ex ey hk0 hp => ?_⟩
  subst ex ey
  have h9 := hk k l hk4 hl rfl rfl hk0 hp
  have he : eX k l = 91 + 187 * k + 7 * l := rfl
  refine vX9_echoOf_6 gk ⟨fun z => absurd z (by decide), fun _ => ⟨_, rfl, hM.ty, ?_⟩⟩
  refine kX9_echo gk (vX9_echoOf_18 gk ?_)
  simp (disch := omega) only [forall_eq, exists_eq_left', Option.some.injEq, Prod.mk.injEq, true_and, and_true, hM.ty, hM.r0, hM.t0, sS_r, sS_t, si_sS, sS_sS, sS_s, nA0, nA1, nA2, nA3, nA4, nA5, nA6, nI_clamp, lc0, lc1, lc2, lc3, lc4, lc5, lc6, lc7, lc8, vinT, vi0, vi1, vi2, vi3, vi4, vi5, vi6, vi7, pk_us, pk_un, true_implies, not_true_eq_false, not_false_eq_true, false_implies, i00, i01, i10, i11, Nat.add_zero, th_r, th_t, th_1]
  exact h9
theorem kX9_ageOf (gk : GOK G) (hM : MS σ a) {x y : Int32} (hB : shB (mi σ (a + 1))) (h1 : ¬ shP (mi σ (a + 1)) x → ∀ z : Int32, K (.inl (some (vI z))) (th σ a 1)) (h2 : ∀ k : Nat, k < 4 → x = nI k → nI k < mi σ (a + 1) 0 → ¬ ecP (mi σ (a + 1)) k y → ∀ z : Int32, K (.inl (some (vI z))) (th σ a 2)) (hk : ∀ k l : Nat, k < 4 → l < 26 → x = nI k → y = nI (97 + l) → nI k < mi σ (a + 1) 0 → mi σ (a + 1) (eX k l) = 1 → K (.inl (some (vI (mi σ (a + 1) 2 - mi σ (a + 1) (eX k l + 2))))) (th σ a 0)) : Runs G mX9_ageOf rX9_ageOf [vR (some a), vI x, vI y] σ K := by
  refine eX9_ageOf gk ⟨_, rfl, hM.ty, kX9_asks gk hM hB (fun q => vX9_ageOf_6 gk ⟨fun _ => h1 q _, fun z => absurd rfl z⟩) (fun k hk4 e hk0 q => vX9_ageOf_6 gk ⟨fun _ => h2 k hk4 e hk0 q _, fun z => absurd rfl z⟩) fun k l hk4 hl ex ey hk0 hp => ?_⟩
  subst ex ey
  have h9 := hk k l hk4 hl rfl rfl hk0 hp
  have he : eX k l = 91 + 187 * k + 7 * l := rfl
  refine vX9_ageOf_6 gk ⟨fun z => absurd z (by decide), fun _ => ⟨_, rfl, hM.ty, ?_⟩⟩
  refine kX9_age gk hM.th hk4 hl (vX9_ageOf_15 gk ?_)
  rw [th_1]
  exact h9
theorem kX9_hitsOf (gk : GOK G) (hM : MS σ a) {x y : Int32} (hB : shB (mi σ (a + 1))) (h1 : ¬ shP (mi σ (a + 1)) x → ∀ z : Int32, K (.inl (some (vI z))) (th σ a 1)) (h2 : ∀ k : Nat, k < 4 → x = nI k → nI k < mi σ (a + 1) 0 → ¬ ecP (mi σ (a + 1)) k y → ∀ z : Int32, K (.inl (some (vI z))) (th σ a 2)) (hk : ∀ k l : Nat, k < 4 → l < 26 → x = nI k → y = nI (97 + l) → nI k < mi σ (a + 1) 0 → mi σ (a + 1) (eX k l) = 1 → K (.inl (some (vI (mi σ (a + 1) (eX k l + 5))))) (th σ a 0)) : Runs G mX9_hitsOf rX9_hitsOf [vR (some a), vI x, vI y] σ K := by
  refine eX9_hitsOf gk ⟨_, rfl, hM.ty, kX9_asks gk hM hB (fun q => vX9_hitsOf_6 gk ⟨fun _ => h1 q _, fun z => absurd rfl z⟩) (fun k hk4 e hk0 q => vX9_hitsOf_6 gk ⟨fun _ => h2 k hk4 e hk0 q _, fun z => absurd rfl z⟩) fun k l hk4 hl ex ey hk0 hp => ?_⟩
  subst ex ey
  have h9 := hk k l hk4 hl rfl rfl hk0 hp
  have he : eX k l = 91 + 187 * k + 7 * l := rfl
  refine vX9_hitsOf_6 gk ⟨fun z => absurd z (by decide), fun _ => ⟨_, rfl, hM.ty, ?_⟩⟩
  refine kX9_echo gk (vX9_hitsOf_18 gk ?_)
  simp (disch := omega) only [forall_eq, exists_eq_left', Option.some.injEq, Prod.mk.injEq, true_and, and_true, hM.ty, hM.r0, hM.t0, sS_r, sS_t, si_sS, sS_sS, sS_s, nA0, nA1, nA2, nA3, nA4, nA5, nA6, nI_clamp, lc0, lc1, lc2, lc3, lc4, lc5, lc6, lc7, lc8, vinT, vi0, vi1, vi2, vi3, vi4, vi5, vi6, vi7, pk_us, pk_un, true_implies, not_true_eq_false, not_false_eq_true, false_implies, i00, i01, i10, i11, Nat.add_zero, th_r, th_t, th_1]
  exact h9
theorem kX9_isExpired (gk : GOK G) (hM : MS σ a) {x y : Int32} (hB : shB (mi σ (a + 1))) (h1 : ¬ shP (mi σ (a + 1)) x → ∀ z : Int32, K (.inl (some (vI z))) (th σ a 1)) (h2 : ∀ k : Nat, k < 4 → x = nI k → nI k < mi σ (a + 1) 0 → ¬ ecP (mi σ (a + 1)) k y → ∀ z : Int32, K (.inl (some (vI z))) (th σ a 2)) (hk : ∀ k l : Nat, k < 4 → l < 26 → x = nI k → y = nI (97 + l) → nI k < mi σ (a + 1) 0 → mi σ (a + 1) (eX k l) = 1 → K (.inl (some (vI (bP (ovP (mi σ (a + 1)) k l))))) (th σ a 0)) : Runs G mX9_isExpired rX9_isExpired [vR (some a), vI x, vI y] σ K := by
  refine eX9_isExpired gk ⟨_, rfl, hM.ty, kX9_asks gk hM hB (fun q => vX9_isExpired_6 gk ⟨fun _ => h1 q _, fun z => absurd rfl z⟩) (fun k hk4 e hk0 q => vX9_isExpired_6 gk ⟨fun _ => h2 k hk4 e hk0 q _, fun z => absurd rfl z⟩) fun k l hk4 hl ex ey hk0 hp => ?_⟩
  subst ex ey
  have h9 := hk k l hk4 hl rfl rfl hk0 hp
  have he : eX k l = 91 + 187 * k + 7 * l := rfl
  refine vX9_isExpired_6 gk ⟨fun z => absurd z (by decide), fun _ => ⟨_, rfl, hM.ty, ?_⟩⟩
  refine kX9_isOver gk hM.th hk4 hl (vX9_isExpired_15 gk ?_)
  rw [th_1]
  exact ⟨fun q => by rw [bP_f (bP_0.mp q)] at h9; exact h9, fun q => by rw [bP_t (bP_n q)] at h9; exact h9⟩
theorem kX9_isOpen (gk : GOK G) (hM : MS σ a) {x y : Int32} (hB : shB (mi σ (a + 1))) (h1 : ¬ shP (mi σ (a + 1)) x → ∀ z : Int32, K (.inl (some (vI z))) (th σ a 1)) (h2 : ∀ k : Nat, k < 4 → x = nI k → nI k < mi σ (a + 1) 0 → ¬ ecP (mi σ (a + 1)) k y → ∀ z : Int32, K (.inl (some (vI z))) (th σ a 2)) (hk : ∀ k l : Nat, k < 4 → l < 26 → x = nI k → y = nI (97 + l) → nI k < mi σ (a + 1) 0 → mi σ (a + 1) (eX k l) = 1 → K (.inl (some (vI (bP (mi σ (a + 1) (eX k l + 6) = 1))))) (th σ a 0)) : Runs G mX9_isOpen rX9_isOpen [vR (some a), vI x, vI y] σ K := by
  refine eX9_isOpen gk ⟨_, rfl, hM.ty, kX9_asks gk hM hB (fun q => vX9_isOpen_6 gk ⟨fun _ => h1 q _, fun z => absurd rfl z⟩) (fun k hk4 e hk0 q => vX9_isOpen_6 gk ⟨fun _ => h2 k hk4 e hk0 q _, fun z => absurd rfl z⟩) fun k l hk4 hl ex ey hk0 hp => ?_⟩
  subst ex ey
  have h9 := hk k l hk4 hl rfl rfl hk0 hp
  have he : eX k l = 91 + 187 * k + 7 * l := rfl
  refine vX9_isOpen_6 gk ⟨fun z => absurd z (by decide), fun _ => ⟨_, rfl, hM.ty, ?_⟩⟩
  refine kX9_echo gk (vX9_isOpen_18 gk ?_)
  simp (disch := omega) only [forall_eq, exists_eq_left', Option.some.injEq, Prod.mk.injEq, true_and, and_true, hM.ty, hM.r0, hM.t0, sS_r, sS_t, si_sS, sS_sS, sS_s, nA0, nA1, nA2, nA3, nA4, nA5, nA6, nI_clamp, lc0, lc1, lc2, lc3, lc4, lc5, lc6, lc7, lc8, vinT, vi0, vi1, vi2, vi3, vi4, vi5, vi6, vi7, pk_us, pk_un, true_implies, not_true_eq_false, not_false_eq_true, false_implies, i00, i01, i10, i11, Nat.add_zero, th_r, th_t, th_1]
  exact ⟨fun q => by rw [bP_f q] at h9; exact h9, fun q => by rw [bP_t q] at h9; exact h9⟩
theorem kX9_isTrue (gk : GOK G) (hM : MS σ a) {x y : Int32} (hB : shB (mi σ (a + 1))) (h1 : ¬ shP (mi σ (a + 1)) x → ∀ z : Int32, K (.inl (some (vI z))) (th σ a 1)) (h2 : ∀ k : Nat, k < 4 → x = nI k → nI k < mi σ (a + 1) 0 → ¬ ecP (mi σ (a + 1)) k y → ∀ z : Int32, K (.inl (some (vI z))) (th σ a 2)) (hk : ∀ k l : Nat, k < 4 → l < 26 → x = nI k → y = nI (97 + l) → nI k < mi σ (a + 1) 0 → mi σ (a + 1) (eX k l) = 1 → K (.inl (some (vI (bP (mi σ (a + 1) (8 + 3 * l + 2) < mi σ (a + 1) (eX k l + 3)))))) (th σ a 0)) : Runs G mX9_isTrue rX9_isTrue [vR (some a), vI x, vI y] σ K := by
  refine eX9_isTrue gk ⟨_, rfl, hM.ty, kX9_asks gk hM hB (fun q => vX9_isTrue_6 gk ⟨fun _ => h1 q _, fun z => absurd rfl z⟩) (fun k hk4 e hk0 q => vX9_isTrue_6 gk ⟨fun _ => h2 k hk4 e hk0 q _, fun z => absurd rfl z⟩) fun k l hk4 hl ex ey hk0 hp => ?_⟩
  subst ex ey
  have h9 := hk k l hk4 hl rfl rfl hk0 hp
  have he : eX k l = 91 + 187 * k + 7 * l := rfl
  refine vX9_isTrue_6 gk ⟨fun z => absurd z (by decide), fun _ => ⟨_, rfl, hM.ty, ?_⟩⟩
  refine kX9_echo gk (vX9_isTrue_18 gk ?_)
  simp (disch := omega) only [forall_eq, exists_eq_left', Option.some.injEq, Prod.mk.injEq, true_and, and_true, hM.ty, hM.r0, hM.t0, sS_r, sS_t, si_sS, sS_sS, sS_s, nA0, nA1, nA2, nA3, nA4, nA5, nA6, nI_clamp, lc0, lc1, lc2, lc3, lc4, lc5, lc6, lc7, lc8, vinT, vi0, vi1, vi2, vi3, vi4, vi5, vi6, vi7, pk_us, pk_un, true_implies, not_true_eq_false, not_false_eq_true, false_implies, i00, i01, i10, i11, Nat.add_zero, th_r, th_t, th_1]
  refine kX9_jar gk (vX9_isTrue_29 gk ?_)
  simp (disch := omega) only [forall_eq, exists_eq_left', Option.some.injEq, Prod.mk.injEq, true_and, and_true, hM.ty, hM.r0, hM.t0, sS_r, sS_t, si_sS, sS_sS, sS_s, nA0, nA1, nA2, nA3, nA4, nA5, nA6, nI_clamp, lc0, lc1, lc2, lc3, lc4, lc5, lc6, lc7, lc8, vinT, vi0, vi1, vi2, vi3, vi4, vi5, vi6, vi7, pk_us, pk_un, true_implies, not_true_eq_false, not_false_eq_true, false_implies, i00, i01, i10, i11, Nat.add_zero, th_r, th_t, th_1]
  exact ⟨fun q => by rw [bP_f (Int32.not_lt.mpr q)] at h9; exact h9, fun q => by rw [bP_t (Int32.not_le.mp q)] at h9; exact h9⟩
theorem kX9_victimOf (gk : GOK G) (hM : MS σ a) {x : Int32} (hB : shB (mi σ (a + 1))) (h1 : ¬ shP (mi σ (a + 1)) x → ∀ z : Int32, isC z → K (.inl (some (vI z))) (th σ a 1)) (h2 : ∀ k : Nat, k < 4 → x = nI k → nI k < mi σ (a + 1) 0 → ecN (mi σ (a + 1)) k = 0 → ∀ z : Int32, isC z → K (.inl (some (vI z))) (th σ a 2)) (hk : ∀ k v : Nat, k < 4 → v < 26 → x = nI k → nI k < mi σ (a + 1) 0 → vcN (mi σ (a + 1)) k 26 = some v → K (.inl (some (vI (nI (97 + v))))) (th σ a 0)) : Runs G mX9_victimOf rX9_victimOf [vR (some a), vI x] σ K := by
  have c32 : isC 32 := isC_nI (q := 32) (by omega)
  refine eX9_victimOf gk ⟨_, rfl, hM.ty, kX9_isShelf gk hM (vX9_victimOf_6 gk ⟨fun q => ⟨_, rfl, hM.ty, ?_⟩, fun q => ?_⟩)⟩
  · obtain ⟨k, hk4, rfl, hk0⟩ := shP_k hB (bP_n q)
    have hle := cnt_le (fun l => mi σ (a + 1) (eX k l) = 1) 26
    refine kX9_echoes gk hM hk4 (vX9_victimOf_18 gk ⟨fun q2 => ?_, fun q2 => ?_⟩)
    · have e0 : (0 : Int32) ≤ 0 := by decide
      simp (disch := omega) only [forall_eq, exists_eq_left', Option.some.injEq, Prod.mk.injEq, true_and, and_true, hM.ty, hM.r0, hM.t0, sS_r, sS_t, si_sS, sS_sS, sS_s, nA0, nA1, nA2, nA3, nA4, nA5, nA6, nI_clamp, lc0, lc1, lc2, lc3, lc4, lc5, lc6, lc7, lc8, vinT, vi0, vi1, vi2, vi3, vi4, vi5, vi6, vi7, pk_us, pk_un, true_implies, not_true_eq_false, not_false_eq_true, false_implies, i00, i01, i10, i11, Nat.add_zero, th_r, th_t, th_1, e0]
      refine kX9_victim gk hM.th hk4 (vX9_victimOf_46 gk ?_)
      rw [sS_n (show a + 1 ≠ a by omega)]
      cases hv : vcN (mi σ (a + 1)) k 26 with
      | none =>
        have := vcN_none hv
        exact absurd (show nI (ecN (mi σ (a + 1)) k) = 0 by unfold ecN; rw [this]; rfl) q2
      | some v =>
        have hv2 := (vcN_lt hv).1
        have h9 := hk k v hk4 hv2 rfl hk0 hv
        refine ⟨isC_i2c _, ?_⟩
        rw [show i2c (vcI (some v)) = nI (97 + v) from by unfold i2c vcI; rw [pk_char, pk_tn (by omega), Nat.mod_eq_of_lt (by omega)]]
        exact h9
    · have e0 : ((2 : Int32) ≤ 0) = False := eq_false (by decide)
      simp (disch := omega) only [forall_eq, exists_eq_left', Option.some.injEq, Prod.mk.injEq, true_and, and_true, hM.ty, hM.r0, hM.t0, sS_r, sS_t, si_sS, sS_sS, sS_s, nA0, nA1, nA2, nA3, nA4, nA5, nA6, nI_clamp, lc0, lc1, lc2, lc3, lc4, lc5, lc6, lc7, lc8, vinT, vi0, vi1, vi2, vi3, vi4, vi5, vi6, vi7, pk_us, pk_un, true_implies, not_true_eq_false, not_false_eq_true, false_implies, i00, i01, i10, i11, Nat.add_zero, th_r, th_t, th_1, e0]
      exact h2 k hk4 rfl hk0 ((nI_eq (b := 0) (by unfold ecN; omega) (by omega)).mp q2) _ c32
  · have e0 : ((1 : Int32) ≤ 0) = False := eq_false (by decide)
    simp (disch := omega) only [forall_eq, exists_eq_left', Option.some.injEq, Prod.mk.injEq, true_and, and_true, hM.ty, hM.r0, hM.t0, sS_r, sS_t, si_sS, sS_sS, sS_s, nA0, nA1, nA2, nA3, nA4, nA5, nA6, nI_clamp, lc0, lc1, lc2, lc3, lc4, lc5, lc6, lc7, lc8, vinT, vi0, vi1, vi2, vi3, vi4, vi5, vi6, vi7, pk_us, pk_un, true_implies, not_true_eq_false, not_false_eq_true, false_implies, i00, i01, i10, i11, Nat.add_zero, th_r, th_t, th_1, e0]
    exact h1 (bP_0.mp q) _ c32
theorem kX9_outcomeOf (gk : GOK G) (hM : MS σ a) {x y : Int32} (hB : shB (mi σ (a + 1))) (h1 : ¬ shP (mi σ (a + 1)) x → ∀ z : Int32, isC z → K (.inl (some (vI z))) (th σ a 1)) (h2 : shP (mi σ (a + 1)) x → ¬ jrP (mi σ (a + 1)) y → ∀ z : Int32, isC z → K (.inl (some (vI z))) (th σ a 2)) (hk : ∀ k l : Nat, k < 4 → l < 26 → x = nI k → y = nI (97 + l) → nI k < mi σ (a + 1) 0 → mi σ (a + 1) (8 + 3 * l) = 1 → K (.inl (some (vI (ouP (mi σ (a + 1)) k l)))) (th σ a 0)) : Runs G mX9_outcomeOf rX9_outcomeOf [vR (some a), vI x, vI y] σ K := by
  have c32 : isC 32 := isC_nI (q := 32) (by omega)
  have hend : ∀ t z : Int32, isC z → K (.inl (some (vI z))) (th σ a t) → At G mX9_outcomeOf rX9_outcomeOf 0 0 47 [some (vR (some a)), some (vI x), some (vI y)] [vI z] (th σ a t) K := fun t z hz h => vX9_outcomeOf_47 gk ⟨hz, h⟩
  refine eX9_outcomeOf gk ⟨_, rfl, hM.ty, kX9_isShelf gk hM (vX9_outcomeOf_6 gk ⟨fun q => ⟨_, rfl, hM.ty, ?_⟩, fun q => ?_⟩)⟩
  · refine kX9_isJar gk hM (vX9_outcomeOf_18 gk ⟨fun q2 => ?_, fun q2 => ?_⟩)
    · obtain ⟨k, hk4, rfl, hk0⟩ := shP_k hB (bP_n q)
      obtain ⟨l, hl, rfl, hp⟩ := bP_n q2
      have e0 : (0 : Int32) ≤ 0 := by decide
      simp (disch := omega) only [forall_eq, exists_eq_left', Option.some.injEq, Prod.mk.injEq, true_and, and_true, hM.ty, hM.r0, hM.t0, sS_r, sS_t, si_sS, sS_sS, sS_s, nA0, nA1, nA2, nA3, nA4, nA5, nA6, nI_clamp, lc0, lc1, lc2, lc3, lc4, lc5, lc6, lc7, lc8, vinT, vi0, vi1, vi2, vi3, vi4, vi5, vi6, vi7, pk_us, pk_un, true_implies, not_true_eq_false, not_false_eq_true, false_implies, i00, i01, i10, i11, Nat.add_zero, th_r, th_t, th_1, e0]
      refine kX9_outcome gk hM.th hk4 hl ?_
      rw [th_1]
      have h9 := hk k l hk4 hl rfl rfl hk0 hp
      refine hend 0 _ ?_ h9
      show isC (ouP (mi σ (a + 1)) k l)
      rcases ouP_c (mi σ (a + 1)) k l with e | e | e | e <;> rw [e]
      · exact isC_nI (q := 104) (by omega)
      · exact isC_nI (q := 99) (by omega)
      · exact isC_nI (q := 101) (by omega)
      · exact isC_nI (q := 111) (by omega)
    · have e0 : ((2 : Int32) ≤ 0) = False := eq_false (by decide)
      simp (disch := omega) only [forall_eq, exists_eq_left', Option.some.injEq, Prod.mk.injEq, true_and, and_true, hM.ty, hM.r0, hM.t0, sS_r, sS_t, si_sS, sS_sS, sS_s, nA0, nA1, nA2, nA3, nA4, nA5, nA6, nI_clamp, lc0, lc1, lc2, lc3, lc4, lc5, lc6, lc7, lc8, vinT, vi0, vi1, vi2, vi3, vi4, vi5, vi6, vi7, pk_us, pk_un, true_implies, not_true_eq_false, not_false_eq_true, false_implies, i00, i01, i10, i11, Nat.add_zero, th_r, th_t, th_1, e0]
      exact hend _ _ c32 (h2 (bP_n q) (bP_0.mp q2) _ c32)
  · have e0 : ((1 : Int32) ≤ 0) = False := eq_false (by decide)
    simp (disch := omega) only [forall_eq, exists_eq_left', Option.some.injEq, Prod.mk.injEq, true_and, and_true, hM.ty, hM.r0, hM.t0, sS_r, sS_t, si_sS, sS_sS, sS_s, nA0, nA1, nA2, nA3, nA4, nA5, nA6, nI_clamp, lc0, lc1, lc2, lc3, lc4, lc5, lc6, lc7, lc8, vinT, vi0, vi1, vi2, vi3, vi4, vi5, vi6, vi7, pk_us, pk_un, true_implies, not_true_eq_false, not_false_eq_true, false_implies, i00, i01, i10, i11, Nat.add_zero, th_r, th_t, th_1, e0]
    exact hend _ _ c32 (h1 (bP_0.mp q) _ c32)
theorem kX9_wordOf (gk : GOK G) (hM : MS σ a) {x : Int32} (h1 : ¬ jrP (mi σ (a + 1)) x → ∀ z : Int32, K (.inl (some (vI z))) (th σ a 1)) (hk : ∀ l : Nat, l < 26 → x = nI (97 + l) → mi σ (a + 1) (8 + 3 * l) = 1 → K (.inl (some (vI (mi σ (a + 1) (8 + 3 * l + 1))))) (th σ a 0)) : Runs G mX9_wordOf rX9_wordOf [vR (some a), vI x] σ K := by
  refine eX9_wordOf gk ⟨_, rfl, hM.ty, kX9_isJar gk hM (vX9_wordOf_6 gk ⟨_, rfl, hM.ty, kX9_isThere gk hM (vX9_wordOf_9 gk ⟨fun q => ?_, fun q => ⟨_, rfl, hM.ty, ?_⟩⟩)⟩)⟩
  · rw [bP_t (p := ¬ _) (bP_0.mp q)]; exact h1 (bP_0.mp q) _
  · obtain ⟨l, hl, rfl, hp⟩ := bP_n q
    rw [bP_f (p := ¬ _) (fun z => z ⟨l, hl, rfl, hp⟩)]
    refine kX9_jar gk (vX9_wordOf_20 gk ?_)
    simp (disch := omega) only [forall_eq, exists_eq_left', Option.some.injEq, Prod.mk.injEq, true_and, and_true, hM.ty, hM.r0, hM.t0, sS_r, sS_t, si_sS, sS_sS, sS_s, nA0, nA1, nA2, nA3, nA4, nA5, nA6, nI_clamp, lc0, lc1, lc2, lc3, lc4, lc5, lc6, lc7, lc8, vinT, vi0, vi1, vi2, vi3, vi4, vi5, vi6, vi7, pk_us, pk_un, true_implies, not_true_eq_false, not_false_eq_true, false_implies, i00, i01, i10, i11, Nat.add_zero, th_r, th_t, th_1]
    exact hk l hl rfl hp
theorem kX9_warmingMinute (gk : GOK G) (hM : MS σ a) {x : Int32} {n : Nat} (hn : n ≤ 8) (h1n : mi σ (a + 1) 1 = nI n) (h1 : ¬ (∃ i : Nat, i < n ∧ x = nI i) → ∀ z : Int32, isC z → K (.inl (some (vI z))) (th σ a 1)) (hk : ∀ i : Nat, i < n → x = nI i → K (.inl (some (vI (mi σ (a + 1) (834 + 3 * i))))) (th σ a 0)) : Runs G mX9_warmingMinute rX9_warmingMinute [vR (some a), vI x] σ K := by
  refine eX9_warmingMinute gk ⟨_, rfl, hM.ty, kX9_isWarming gk hM (vX9_warmingMinute_6 gk ⟨_, rfl, hM.ty, kX9_isThere gk hM (vX9_warmingMinute_9 gk ⟨fun q => ?_, fun q => ?_⟩)⟩)⟩
  · rw [bP_t (p := ¬ _) (bP_0.mp q)]; exact h1 (fun z => bP_0.mp q ((waP_n hn h1n).mpr z)) _ (by first | exact isC_nI (q := 32) (by omega) | exact isC_nI (q := 0) (by omega))
  · obtain ⟨i, hi, rfl⟩ := (waP_n hn h1n).mp (bP_n q)
    rw [bP_f (p := ¬ _) (fun z => z (bP_n q))]
    simp (disch := omega) only [forall_eq, exists_eq_left', Option.some.injEq, Prod.mk.injEq, true_and, and_true, hM.ty, hM.r0, hM.t0, sS_r, sS_t, si_sS, sS_sS, sS_s, nA0, nA1, nA2, nA3, nA4, nA5, nA6, nI_clamp, lc0, lc1, lc2, lc3, lc4, lc5, lc6, lc7, lc8, vinT, vi0, vi1, vi2, vi3, vi4, vi5, vi6, vi7, pk_us, pk_un, true_implies, not_true_eq_false, not_false_eq_true, false_implies, i00, i01, i10, i11, Nat.add_zero, th_r, th_t, th_1, ix_wa]
    exact hk i hi rfl
theorem kX9_warmingJar (gk : GOK G) (hM : MS σ a) {x : Int32} {n : Nat} (hn : n ≤ 8) (h1n : mi σ (a + 1) 1 = nI n) (h1 : ¬ (∃ i : Nat, i < n ∧ x = nI i) → ∀ z : Int32, isC z → K (.inl (some (vI z))) (th σ a 1)) (hk : ∀ i : Nat, i < n → x = nI i → K (.inl (some (vI (i2c (mi σ (a + 1) (834 + 3 * i + 2)))))) (th σ a 0)) : Runs G mX9_warmingJar rX9_warmingJar [vR (some a), vI x] σ K := by
  refine eX9_warmingJar gk ⟨_, rfl, hM.ty, kX9_isWarming gk hM (vX9_warmingJar_6 gk ⟨_, rfl, hM.ty, kX9_isThere gk hM (vX9_warmingJar_9 gk ⟨fun q => ?_, fun q => ?_⟩)⟩)⟩
  · rw [bP_t (p := ¬ _) (bP_0.mp q)]; exact h1 (fun z => bP_0.mp q ((waP_n hn h1n).mpr z)) _ (by first | exact isC_nI (q := 32) (by omega) | exact isC_nI (q := 0) (by omega))
  · obtain ⟨i, hi, rfl⟩ := (waP_n hn h1n).mp (bP_n q)
    rw [bP_f (p := ¬ _) (fun z => z (bP_n q))]
    simp (disch := omega) only [forall_eq, exists_eq_left', Option.some.injEq, Prod.mk.injEq, true_and, and_true, hM.ty, hM.r0, hM.t0, sS_r, sS_t, si_sS, sS_sS, sS_s, nA0, nA1, nA2, nA3, nA4, nA5, nA6, nI_clamp, lc0, lc1, lc2, lc3, lc4, lc5, lc6, lc7, lc8, vinT, vi0, vi1, vi2, vi3, vi4, vi5, vi6, vi7, pk_us, pk_un, true_implies, not_true_eq_false, not_false_eq_true, false_implies, i00, i01, i10, i11, Nat.add_zero, th_r, th_t, th_1, ix_wa]
    exact ⟨isC_i2c _, hk i hi rfl⟩
theorem kX9_jarCount (gk : GOK G) (hM : MS σ a) (hk : K (.inl (some (vI (nI (jrN (mi σ (a + 1))))))) (th σ a 0)) : Runs G mX9_jarCount rX9_jarCount [vR (some a)] σ K := by
  refine eX9_jarCount gk ?_
  simp (disch := omega) only [forall_eq, exists_eq_left', Option.some.injEq, Prod.mk.injEq, true_and, and_true, hM.ty, hM.r0, hM.t0, sS_r, sS_t, si_sS, sS_sS, sS_s, nA0, nA1, nA2, nA3, nA4, nA5, nA6, nI_clamp, lc0, lc1, lc2, lc3, lc4, lc5, lc6, lc7, lc8, vinT, vi0, vi1, vi2, vi3, vi4, vi5, vi6, vi7, pk_us, pk_un, true_implies, not_true_eq_false, not_false_eq_true, false_implies, i00, i01, i10, i11, Nat.add_zero, th_r, th_t, th_1]
  refine kX9_jars gk hM.sS (vX9_jarCount_9 gk ?_)
  rw [sS_n (by omega)]
  exact hk
theorem kX9_shelfCount (gk : GOK G) (hM : MS σ a) (hk : K (.inl (some (vI (mi σ (a + 1) 0)))) (th σ a 0)) : Runs G mX9_shelfCount rX9_shelfCount [vR (some a)] σ K := by
  refine eX9_shelfCount gk ?_
  simp (disch := omega) only [forall_eq, exists_eq_left', Option.some.injEq, Prod.mk.injEq, true_and, and_true, hM.ty, hM.r0, hM.t0, sS_r, sS_t, si_sS, sS_sS, sS_s, nA0, nA1, nA2, nA3, nA4, nA5, nA6, nI_clamp, lc0, lc1, lc2, lc3, lc4, lc5, lc6, lc7, lc8, vinT, vi0, vi1, vi2, vi3, vi4, vi5, vi6, vi7, pk_us, pk_un, true_implies, not_true_eq_false, not_false_eq_true, false_implies, i00, i01, i10, i11, Nat.add_zero, th_r, th_t, th_1]
  rw [sS_n (show a + 1 ≠ a by omega)]
  exact hk
theorem kX9_time (gk : GOK G) (hM : MS σ a) (hk : K (.inl (some (vI (mi σ (a + 1) 2)))) (th σ a 0)) : Runs G mX9_time rX9_time [vR (some a)] σ K := by
  refine eX9_time gk ?_
  simp (disch := omega) only [forall_eq, exists_eq_left', Option.some.injEq, Prod.mk.injEq, true_and, and_true, hM.ty, hM.r0, hM.t0, sS_r, sS_t, si_sS, sS_sS, sS_s, nA0, nA1, nA2, nA3, nA4, nA5, nA6, nI_clamp, lc0, lc1, lc2, lc3, lc4, lc5, lc6, lc7, lc8, vinT, vi0, vi1, vi2, vi3, vi4, vi5, vi6, vi7, pk_us, pk_un, true_implies, not_true_eq_false, not_false_eq_true, false_implies, i00, i01, i10, i11, Nat.add_zero, th_r, th_t, th_1]
  rw [sS_n (show a + 1 ≠ a by omega)]
  exact hk
theorem kX9_warmingCount (gk : GOK G) (hM : MS σ a) (hk : K (.inl (some (vI (mi σ (a + 1) 1)))) (th σ a 0)) : Runs G mX9_warmingCount rX9_warmingCount [vR (some a)] σ K := by
  refine eX9_warmingCount gk ?_
  simp (disch := omega) only [forall_eq, exists_eq_left', Option.some.injEq, Prod.mk.injEq, true_and, and_true, hM.ty, hM.r0, hM.t0, sS_r, sS_t, si_sS, sS_sS, sS_s, nA0, nA1, nA2, nA3, nA4, nA5, nA6, nI_clamp, lc0, lc1, lc2, lc3, lc4, lc5, lc6, lc7, lc8, vinT, vi0, vi1, vi2, vi3, vi4, vi5, vi6, vi7, pk_us, pk_un, true_implies, not_true_eq_false, not_false_eq_true, false_implies, i00, i01, i10, i11, Nat.add_zero, th_r, th_t, th_1]
  rw [sS_n (show a + 1 ≠ a by omega)]
  exact hk
theorem kX9_hits (gk : GOK G) (hM : MS σ a) (hk : K (.inl (some (vI (mi σ (a + 1) 4)))) (th σ a 0)) : Runs G mX9_hits rX9_hits [vR (some a)] σ K := by
  refine eX9_hits gk ?_
  simp (disch := omega) only [forall_eq, exists_eq_left', Option.some.injEq, Prod.mk.injEq, true_and, and_true, hM.ty, hM.r0, hM.t0, sS_r, sS_t, si_sS, sS_sS, sS_s, nA0, nA1, nA2, nA3, nA4, nA5, nA6, nI_clamp, lc0, lc1, lc2, lc3, lc4, lc5, lc6, lc7, lc8, vinT, vi0, vi1, vi2, vi3, vi4, vi5, vi6, vi7, pk_us, pk_un, true_implies, not_true_eq_false, not_false_eq_true, false_implies, i00, i01, i10, i11, Nat.add_zero, th_r, th_t, th_1]
  rw [sS_n (show a + 1 ≠ a by omega)]
  exact hk
theorem kX9_isConsistent (gk : GOK G) (hM : MS σ a) (hk : K (.inl (some (vI (1)))) (th σ a 0)) : Runs G mX9_isConsistent rX9_isConsistent [vR (some a)] σ K := by
  refine eX9_isConsistent gk ?_
  simp (disch := omega) only [forall_eq, exists_eq_left', Option.some.injEq, Prod.mk.injEq, true_and, and_true, hM.ty, hM.r0, hM.t0, sS_r, sS_t, si_sS, sS_sS, sS_s, nA0, nA1, nA2, nA3, nA4, nA5, nA6, nI_clamp, lc0, lc1, lc2, lc3, lc4, lc5, lc6, lc7, lc8, vinT, vi0, vi1, vi2, vi3, vi4, vi5, vi6, vi7, pk_us, pk_un, true_implies, not_true_eq_false, not_false_eq_true, false_implies, i00, i01, i10, i11, Nat.add_zero, th_r, th_t, th_1]
  exact hk
theorem kX9_thrown (gk : GOK G) (hM : MS σ a) (hk : K (.inl (some (vI (mi σ a 6)))) σ) : Runs G mX9_thrown rX9_thrown [vR (some a)] σ K := by
  refine eX9_thrown gk ?_
  simp (disch := omega) only [forall_eq, exists_eq_left', Option.some.injEq, Prod.mk.injEq, true_and, and_true, hM.ty, hM.r0, hM.t0, sS_r, sS_t, si_sS, sS_sS, sS_s, nA0, nA1, nA2, nA3, nA4, nA5, nA6, nI_clamp, lc0, lc1, lc2, lc3, lc4, lc5, lc6, lc7, lc8, vinT, vi0, vi1, vi2, vi3, vi4, vi5, vi6, vi7, pk_us, pk_un, true_implies, not_true_eq_false, not_false_eq_true, false_implies, i00, i01, i10, i11, Nat.add_zero, th_r, th_t, th_1]
  exact hk
end MK
