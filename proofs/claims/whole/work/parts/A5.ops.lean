/-! ===== a question, asked of both ===== -/
section OPS
variable {G : GG} {σ : Mm} {x b0 L c : Nat} {xs : Nat → Int32}
theorem shP_m {P : Nat → Int32} {s : Int32} {k : Nat} (hB : shB P) (hk : k < 4) (e : s = nI k) (h : nI k < P 0) : shP P s := by rw [e]; exact shP_lt hB hk h
theorem u4 {s : Int32} {k k' : Nat} (h : k < 4) (h' : k' < 4) (e : s = nI k) (e' : s = nI k') : k' = k := (nI_eq (by omega) (by omega)).mp (e'.symm.trans e)
theorem u26 {s : Int32} {k k' : Nat} (h : k < 26) (h' : k' < 26) (e : s = nI (97 + k)) (e' : s = nI (97 + k')) : k' = k := li h' h (e'.symm.trans e)
theorem uN {s : Int32} {k k' n : Nat} (hn : n ≤ 60) (h : k < n) (h' : k' < n) (e : s = nI k) (e' : s = nI k') : k' = k := (nI_eq (by omega) (by omega)).mp (e'.symm.trans e)
theorem uS {α : Type} {o : Option α} {v v' : α} (e : o = some v) (e' : o = some v') : v' = v := Option.some.inj (e'.symm.trans e)
theorem φBz {v : Int32} (h : isZ v) : φB (bP (v = 1)) (if v = 0 then 0 else 1) := by
  rcases h with e | e
  · rw [e, bP_f (by decide)]; rfl
  · rw [e, bP_t rfl]; rfl
theorem jrN26 {P : Nat → Int32} : jrN P ≤ 26 := cnt_le _ _
theorem ecN26 {P : Nat → Int32} {k : Nat} : ecN P k ≤ 26 := cnt_le _ _
theorem cnt_no {p : Nat → Prop} : ∀ {n : Nat}, cnt p n = 0 → ∀ l, l < n → ¬ p l
  | 0, _, l, hl => absurd hl (Nat.not_lt_zero _)
  | n + 1, h, l, hl => by
    by_cases hp : p n
    · rw [cnt_t hp] at h; omega
    · rw [cnt_f hp] at h
      rcases Nat.lt_or_ge l n with q | q
      · exact cnt_no h l q
      · rw [show l = n by omega]; exact hp
theorem vc_n0 {P : Nat → Int32} {k v : Nat} (h : vcN P k 26 = some v) : ecN P k ≠ 0 := fun e => by
  obtain ⟨h1, h2⟩ := vcN_lt h
  exact cnt_no (p := fun l => P (eX k l) = 1) e v h1 h2
theorem i2c_c {v : Int32} (h : isC v) : i2c v = v := by
  obtain ⟨k, hk, rfl⟩ : ∃ k : Nat, k < 65536 ∧ v = nI k := ⟨v.toInt.toNat, by have := h.1; have := h.2; omega, by rw [← Int32.toInt_inj, nI_toInt (by have := h.1; have := h.2; omega)]; have := h.1; omega⟩
  exact i2c_nI hk
theorem kX9_isTrueZ {K : RES → Mm → Prop} {a : Nat} (gk : GOK G) (hM : MS σ a) {x y : Int32} (hB : shB (mi σ (a + 1))) (h1 : ¬ shP (mi σ (a + 1)) x → ∀ z : Int32, isZ z → K (.inl (some (vI z))) (th σ a 1)) (h2 : ∀ k : Nat, k < 4 → x = nI k → nI k < mi σ (a + 1) 0 → ¬ ecP (mi σ (a + 1)) k y → ∀ z : Int32, isZ z → K (.inl (some (vI z))) (th σ a 2)) (hk : ∀ k l : Nat, k < 4 → l < 26 → x = nI k → y = nI (97 + l) → nI k < mi σ (a + 1) 0 → mi σ (a + 1) (eX k l) = 1 → K (.inl (some (vI (bP (mi σ (a + 1) (8 + 3 * l + 2) < mi σ (a + 1) (eX k l + 3)))))) (th σ a 0)) : Runs G mX9_isTrue rX9_isTrue [vR (some a), vI x, vI y] σ K := by
  refine eX9_isTrue gk ⟨_, rfl, hM.ty, kX9_asks gk hM hB (fun q => vX9_isTrue_6 gk ⟨fun _ => h1 q _ (Or.inl rfl), fun z => absurd rfl z⟩) (fun k hk4 e hk0 q => vX9_isTrue_6 gk ⟨fun _ => h2 k hk4 e hk0 q _ (Or.inl rfl), fun z => absurd rfl z⟩) fun k l hk4 hl ex ey hk0 hp => ?_⟩
  subst ex ey
  have h9 := hk k l hk4 hl rfl rfl hk0 hp
  have he : eX k l = 91 + 187 * k + 7 * l := rfl
  refine vX9_isTrue_6 gk ⟨fun z => absurd z (by decide), fun _ => ⟨_, rfl, hM.ty, ?_⟩⟩
  refine kX9_echo gk (vX9_isTrue_18 gk ?_)
  simp (disch := omega) only [forall_eq, exists_eq_left', Option.some.injEq, Prod.mk.injEq, true_and, and_true, hM.ty, hM.r0, hM.t0, sS_r, sS_t, si_sS, sS_sS, sS_s, nA0, nA1, nA2, nA3, nA4, nA5, nA6, nI_clamp, lc0, lc1, lc2, lc3, lc4, lc5, lc6, lc7, lc8, vinT, vi0, vi1, vi2, vi3, vi4, vi5, vi6, vi7, pk_us, pk_un, true_implies, not_true_eq_false, not_false_eq_true, false_implies, i00, i01, i10, i11, Nat.add_zero, th_r, th_t, th_1]
  refine kX9_jar gk (vX9_isTrue_29 gk ?_)
  simp (disch := omega) only [forall_eq, exists_eq_left', Option.some.injEq, Prod.mk.injEq, true_and, and_true, hM.ty, hM.r0, hM.t0, sS_r, sS_t, si_sS, sS_sS, sS_s, nA0, nA1, nA2, nA3, nA4, nA5, nA6, nI_clamp, lc0, lc1, lc2, lc3, lc4, lc5, lc6, lc7, lc8, vinT, vi0, vi1, vi2, vi3, vi4, vi5, vi6, vi7, pk_us, pk_un, true_implies, not_true_eq_false, not_false_eq_true, false_implies, i00, i01, i10, i11, Nat.add_zero, th_r, th_t, th_1]
  exact ⟨fun q => by rw [bP_f (Int32.not_lt.mpr q)] at h9; exact h9, fun q => by rw [bP_t (Int32.not_le.mp q)] at h9; exact h9⟩
theorem kX9_isTrueBySteps {K : RES → Mm → Prop} {a : Nat} (gk : GOK G) (hM : MS σ a) {x y : Int32} (hB : shB (mi σ (a + 1))) (h1 : ¬ shP (mi σ (a + 1)) x → ∀ z : Int32, isZ z → K (.inl (some (vI z))) (th σ a 1)) (h2 : ∀ k : Nat, k < 4 → x = nI k → nI k < mi σ (a + 1) 0 → ¬ ecP (mi σ (a + 1)) k y → ∀ z : Int32, isZ z → K (.inl (some (vI z))) (th σ a 2)) (hk : ∀ k l : Nat, k < 4 → l < 26 → x = nI k → y = nI (97 + l) → nI k < mi σ (a + 1) 0 → mi σ (a + 1) (eX k l) = 1 → K (.inl (some (vI (bP (mi σ (a + 1) (8 + 3 * l + 2) < mi σ (a + 1) (eX k l + 3)))))) (th σ a 0)) : Runs G mX9_isTrueBySteps rX9_isTrueBySteps [vR (some a), vI x, vI y] σ K :=
  eX9_isTrueBySteps gk ⟨_, rfl, hM.ty, kX9_isTrueZ gk hM hB (fun g z hz => vX9_isTrueBySteps_6 gk ⟨hz, h1 g z hz⟩) (fun k q1 q2 q3 g z hz => vX9_isTrueBySteps_6 gk ⟨hz, h2 k q1 q2 q3 g z hz⟩) fun k l q1 q2 q3 q4 q5 q6 => vX9_isTrueBySteps_6 gk ⟨bP_z _, hk k l q1 q2 q3 q4 q5 q6⟩⟩
theorem kX9_victimByScan {K : RES → Mm → Prop} {a : Nat} (gk : GOK G) (hM : MS σ a) {x : Int32} (hB : shB (mi σ (a + 1))) (h1 : ¬ shP (mi σ (a + 1)) x → ∀ z : Int32, isC z → K (.inl (some (vI z))) (th σ a 1)) (h2 : ∀ k : Nat, k < 4 → x = nI k → nI k < mi σ (a + 1) 0 → ecN (mi σ (a + 1)) k = 0 → ∀ z : Int32, isC z → K (.inl (some (vI z))) (th σ a 2)) (hk : ∀ k v : Nat, k < 4 → v < 26 → x = nI k → nI k < mi σ (a + 1) 0 → vcN (mi σ (a + 1)) k 26 = some v → K (.inl (some (vI (nI (97 + v))))) (th σ a 0)) : Runs G mX9_victimByScan rX9_victimByScan [vR (some a), vI x] σ K :=
  eX9_victimByScan gk ⟨_, rfl, hM.ty, kX9_victimOf gk hM hB (fun g z hz => vX9_victimByScan_5 gk ⟨hz, h1 g z hz⟩) (fun k q1 q2 q3 g z hz => vX9_victimByScan_5 gk ⟨hz, h2 k q1 q2 q3 g z hz⟩) fun k v q1 q2 q3 q4 q5 => vX9_victimByScan_5 gk ⟨isC_nI (by omega), hk k v q1 q2 q3 q4 q5⟩⟩
theorem op_capacityOf (ok : OKS G) (h : LI b0 L xs x c σ) {s : Int32} : RunsH G mL_capacityOf hL_capacityOf rL_capacityOf [vR (some x), vI s, vR (some (x + 796))] σ (HR (MDg φI b0 L xs G x (c + 1) mX9_capacityOf rX9_capacityOf [vR (some (x + 788)), vI s])) := by
  obtain ⟨gk, nk, hst, sok⟩ := ok
  obtain ⟨A, b, hC, hM, hb, hE⟩ := h
  have hR : RS σ (x + 1) (mi σ (x + 788 + 1)) b := by rw [hM.2.1]; exact hC.2.1
  have hB := hR.pg.shB
  refine hL_capacityOf_run gk nk hC.1.1 (c_capacityOf gk hst hC.1 hR (fun g kk => ⟨0, rfl, ev1 hE hM FE.refl SA.sk, fun K' hK' => kX9_capacityOf (σ := sk σ kk) gk hM.1 hB (fun _ z => th_end hE hC hM hb SA.sk rfl (nz1 0 (by omega)) hK') (fun k' q1 q2 q3 => absurd (shP_m hB q1 q2 q3) g)⟩) (fun k k4 e kP => ⟨_, rfl, hE.2.2.2.1, ev1 hE hM FE.refl SA.sl, fun K' hK' => kX9_capacityOf (σ := sl σ (x + 796) 0 _) gk hM.1 hB (fun g => absurd (shP_m hB k4 e kP) g) (fun k' q1 q2 _ => by obtain rfl := u4 k4 q1 e q2; exact th_end hE hC hM hb SA.sl rfl (fun _ => ml_s) hK')⟩))
theorem op_lifetimeOf (ok : OKS G) (h : LI b0 L xs x c σ) {s : Int32} : RunsH G mL_lifetimeOf hL_lifetimeOf rL_lifetimeOf [vR (some x), vI s, vR (some (x + 796))] σ (HR (MDg φI b0 L xs G x (c + 1) mX9_lifetimeOf rX9_lifetimeOf [vR (some (x + 788)), vI s])) := by
  obtain ⟨gk, nk, hst, sok⟩ := ok
  obtain ⟨A, b, hC, hM, hb, hE⟩ := h
  have hR : RS σ (x + 1) (mi σ (x + 788 + 1)) b := by rw [hM.2.1]; exact hC.2.1
  have hB := hR.pg.shB
  refine hL_lifetimeOf_run gk nk hC.1.1 (c_lifetimeOf gk hst hC.1 hR (fun g kk => ⟨0, rfl, ev1 hE hM FE.refl SA.sk, fun K' hK' => kX9_lifetimeOf (σ := sk σ kk) gk hM.1 hB (fun _ z => th_end hE hC hM hb SA.sk rfl (nz1 0 (by omega)) hK') (fun k' q1 q2 q3 => absurd (shP_m hB q1 q2 q3) g)⟩) (fun k k4 e kP => ⟨_, rfl, hE.2.2.2.1, ev1 hE hM FE.refl SA.sl, fun K' hK' => kX9_lifetimeOf (σ := sl σ (x + 796) 0 _) gk hM.1 hB (fun g => absurd (shP_m hB k4 e kP) g) (fun k' q1 q2 _ => by obtain rfl := u4 k4 q1 e q2; exact th_end hE hC hM hb SA.sl rfl (fun _ => ml_s) hK')⟩))
theorem op_echoCount (ok : OKS G) (h : LI b0 L xs x c σ) {s : Int32} : RunsH G mL_echoCount hL_echoCount rL_echoCount [vR (some x), vI s, vR (some (x + 796))] σ (HR (MDg φI b0 L xs G x (c + 1) mX9_echoCount rX9_echoCount [vR (some (x + 788)), vI s])) := by
  obtain ⟨gk, nk, hst, sok⟩ := ok
  obtain ⟨A, b, hC, hM, hb, hE⟩ := h
  have hR : RS σ (x + 1) (mi σ (x + 788 + 1)) b := by rw [hM.2.1]; exact hC.2.1
  have hB := hR.pg.shB
  refine hL_echoCount_run gk nk hC.1.1 (c_echoCount gk hst hC.1 hR (fun g kk => ⟨0, rfl, ev1 hE hM FE.refl SA.sk, fun K' hK' => kX9_echoCount (σ := sk σ kk) gk hM.1 hB (fun _ z => th_end hE hC hM hb SA.sk rfl (nz1 0 (by omega)) hK') (fun k' q1 q2 q3 => absurd (shP_m hB q1 q2 q3) g)⟩) (fun k k4 e kP => ⟨_, rfl, hE.2.2.2.1, ev1 hE hM FE.refl SA.sl, fun K' hK' => kX9_echoCount (σ := sl σ (x + 796) 0 _) gk hM.1 hB (fun g => absurd (shP_m hB k4 e kP) g) (fun k' q1 q2 _ => by obtain rfl := u4 k4 q1 e q2; exact th_end hE hC hM hb SA.sl rfl (fun _ => ml_s) hK')⟩))
theorem op_hasEcho (ok : OKS G) (h : LI b0 L xs x c σ) {s y : Int32} : RunsH G mL_hasEcho hL_hasEcho rL_hasEcho [vR (some x), vI s, vI y, vR (some (x + 796))] σ (HR (MDg φB b0 L xs G x (c + 1) mX9_hasEcho rX9_hasEcho [vR (some (x + 788)), vI s, vI y])) := by
  obtain ⟨gk, nk, hst, sok⟩ := ok
  obtain ⟨A, b, hC, hM, hb, hE⟩ := h
  have hR : RS σ (x + 1) (mi σ (x + 788 + 1)) b := by rw [hM.2.1]; exact hC.2.1
  have hB := hR.pg.shB
  refine hL_hasEcho_run gk nk hC.1.1 (c_hasEcho gk hst hC.1 hR (fun g kk => ⟨0, rfl, ev1 hE hM FE.refl SA.sk, fun K' hK' => kX9_hasEcho (σ := sk σ kk) gk hM.1 hB (fun _ z => th_end hE hC hM hb SA.sk rfl (nz1 0 (by omega)) hK') (fun k' q1 q2 q3 => absurd (shP_m hB q1 q2 q3) g)⟩) (fun k k4 e kP => ⟨_, rfl, hE.2.2.2.1, ev1 hE hM FE.refl SA.sl, fun K' hK' => kX9_hasEcho (σ := sl σ (x + 796) 0 _) gk hM.1 hB (fun g => absurd (shP_m hB k4 e kP) g) (fun k' q1 q2 _ => by obtain rfl := u4 k4 q1 e q2; exact th_end hE hC hM hb SA.sl rfl (fun _ => ml_s) hK')⟩))
theorem op_policyOf (ok : OKS G) (h : LI b0 L xs x c σ) {s : Int32} : RunsH G mL_policyOf hL_policyOf rL_policyOf [vR (some x), vI s, vR (some (x + 796))] σ (HR (MDg φI b0 L xs G x (c + 1) mX9_policyOf rX9_policyOf [vR (some (x + 788)), vI s])) := by
  obtain ⟨gk, nk, hst, sok⟩ := ok
  obtain ⟨A, b, hC, hM, hb, hE⟩ := h
  have hR : RS σ (x + 1) (mi σ (x + 788 + 1)) b := by rw [hM.2.1]; exact hC.2.1
  have hB := hR.pg.shB
  obtain ⟨n, m, bb, hP, hW⟩ := hR.pg
  have kn : ∀ k, k < 4 → nI k < mi σ (x + 788 + 1) 0 → k < n := fun k k4 q => by
    rw [hP.1.2] at q
    exact (nI_ltI (by omega) (by have := hP.1.1; omega)).mp q
  refine hL_policyOf_run gk nk hC.1.1 (c_policyOf gk hst hC.1 hR (fun g kk => ⟨0, rfl, ev1 hE hM FE.refl SA.sk, fun K' hK' => kX9_policyOf (σ := sk σ kk) gk hM.1 hB (fun _ z => th_end hE hC hM hb SA.sk rfl (nz1 0 (by omega)) hK') (fun k' q1 q2 q3 => absurd (shP_m hB q1 q2 q3) g)⟩) (fun k k4 e kP => ⟨_, rfl, hE.2.2.2.1, ev1 hE hM FE.refl SA.sl, fun K' hK' => kX9_policyOf (σ := sl σ (x + 796) 0 _) gk hM.1 hB (fun g => absurd (shP_m hB k4 e kP) g) (fun k' q1 q2 _ => by obtain rfl := u4 k4 q1 e q2; exact th_end hE hC hM hb SA.sl rfl (fun _ => by rw [ml_s]; exact congrArg Int32.toInt64 (i2c_c (hP.2.2.2.1 _ (kn _ k4 kP)).2.2.1).symm) hK')⟩))
theorem op_isListening (ok : OKS G) (h : LI b0 L xs x c σ) {s : Int32} : RunsH G mL_isListening hL_isListening rL_isListening [vR (some x), vI s, vR (some (x + 796))] σ (HR (MDg φB b0 L xs G x (c + 1) mX9_isListening rX9_isListening [vR (some (x + 788)), vI s])) := by
  obtain ⟨gk, nk, hst, sok⟩ := ok
  obtain ⟨A, b, hC, hM, hb, hE⟩ := h
  have hR : RS σ (x + 1) (mi σ (x + 788 + 1)) b := by rw [hM.2.1]; exact hC.2.1
  have hB := hR.pg.shB
  obtain ⟨n, m, bb, hP, hW⟩ := hR.pg
  have kn : ∀ k, k < 4 → nI k < mi σ (x + 788 + 1) 0 → k < n := fun k k4 q => by
    rw [hP.1.2] at q
    exact (nI_ltI (by omega) (by have := hP.1.1; omega)).mp q
  refine hL_isListening_run gk nk hC.1.1 (c_isListening gk hst hC.1 hR (fun g kk => ⟨0, rfl, ev1 hE hM FE.refl SA.sk, fun K' hK' => kX9_isListening (σ := sk σ kk) gk hM.1 hB (fun _ z => th_end hE hC hM hb SA.sk rfl (nz1 0 (by omega)) hK') (fun k' q1 q2 q3 => absurd (shP_m hB q1 q2 q3) g)⟩) (fun k k4 e kP => ⟨_, rfl, hE.2.2.2.1, ev1 hE hM FE.refl SA.sl, fun K' hK' => kX9_isListening (σ := sl σ (x + 796) 0 _) gk hM.1 hB (fun g => absurd (shP_m hB k4 e kP) g) (fun k' q1 q2 _ => by obtain rfl := u4 k4 q1 e q2; exact th_end hE hC hM hb SA.sl rfl (fun _ => by rw [ml_s]; exact φBz (hP.2.2.2.1 _ (kn _ k4 kP)).2.2.2.1) hK')⟩))
theorem op_echoOf (ok : OKS G) (h : LI b0 L xs x c σ) {s y : Int32} : RunsH G mL_echoOf hL_echoOf rL_echoOf [vR (some x), vI s, vI y, vR (some (x + 796))] σ (HR (MDg φI b0 L xs G x (c + 1) mX9_echoOf rX9_echoOf [vR (some (x + 788)), vI s, vI y])) := by
  obtain ⟨gk, nk, hst, sok⟩ := ok
  obtain ⟨A, b, hC, hM, hb, hE⟩ := h
  have hR : RS σ (x + 1) (mi σ (x + 788 + 1)) b := by rw [hM.2.1]; exact hC.2.1
  have hB := hR.pg.shB
  refine hL_echoOf_run gk nk hC.1.1 (c_echoOf gk hst hC.1 hR (fun g kk => ⟨0, rfl, ev1 hE hM FE.refl SA.sk, fun K' hK' => kX9_echoOf (σ := sk σ kk) gk hM.1 hB (fun _ z => th_end hE hC hM hb SA.sk rfl (nz1 0 (by omega)) hK') (fun k' q1 q2 q3 _ => absurd (shP_m hB q1 q2 q3) g) (fun k' l' q1 _ q2 _ q3 _ => absurd (shP_m hB q1 q2 q3) g)⟩) (fun k k4 e kP g kk => ⟨1, rfl, ev1 hE hM FE.refl SA.sk, fun K' hK' => kX9_echoOf (σ := sk σ kk) gk hM.1 hB (fun g' => absurd (shP_m hB k4 e kP) g') (fun _ _ _ _ _ z => th_end hE hC hM hb SA.sk rfl (nz1 1 (by omega)) hK') (fun k' l' q1 q2 q3 q4 _ q6 => by obtain rfl := u4 k4 q1 e q3; exact absurd ⟨l', q2, q4, q6⟩ g)⟩) (fun k l k4 l26 e el kP p1 => ⟨_, rfl, hE.2.2.2.1, ev1 hE hM FE.refl SA.sl, fun K' hK' => kX9_echoOf (σ := sl σ (x + 796) 0 _) gk hM.1 hB (fun g' => absurd (shP_m hB k4 e kP) g') (fun k' q1 q2 _ g' => by obtain rfl := u4 k4 q1 e q2; exact absurd ⟨l, l26, el, p1⟩ g') (fun k' l' q1 q2 q3 q4 _ _ => by obtain rfl := u4 k4 q1 e q3; obtain rfl := u26 l26 q2 el q4; exact th_end hE hC hM hb SA.sl rfl (fun _ => ml_s) hK')⟩))
theorem op_ageOf (ok : OKS G) (h : LI b0 L xs x c σ) {s y : Int32} : RunsH G mL_ageOf hL_ageOf rL_ageOf [vR (some x), vI s, vI y, vR (some (x + 796))] σ (HR (MDg φI b0 L xs G x (c + 1) mX9_ageOf rX9_ageOf [vR (some (x + 788)), vI s, vI y])) := by
  obtain ⟨gk, nk, hst, sok⟩ := ok
  obtain ⟨A, b, hC, hM, hb, hE⟩ := h
  have hR : RS σ (x + 1) (mi σ (x + 788 + 1)) b := by rw [hM.2.1]; exact hC.2.1
  have hB := hR.pg.shB
  refine hL_ageOf_run gk nk hC.1.1 (c_ageOf gk hst hC.1 hR (fun g kk => ⟨0, rfl, ev1 hE hM FE.refl SA.sk, fun K' hK' => kX9_ageOf (σ := sk σ kk) gk hM.1 hB (fun _ z => th_end hE hC hM hb SA.sk rfl (nz1 0 (by omega)) hK') (fun k' q1 q2 q3 _ => absurd (shP_m hB q1 q2 q3) g) (fun k' l' q1 _ q2 _ q3 _ => absurd (shP_m hB q1 q2 q3) g)⟩) (fun k k4 e kP g kk => ⟨1, rfl, ev1 hE hM FE.refl SA.sk, fun K' hK' => kX9_ageOf (σ := sk σ kk) gk hM.1 hB (fun g' => absurd (shP_m hB k4 e kP) g') (fun _ _ _ _ _ z => th_end hE hC hM hb SA.sk rfl (nz1 1 (by omega)) hK') (fun k' l' q1 q2 q3 q4 _ q6 => by obtain rfl := u4 k4 q1 e q3; exact absurd ⟨l', q2, q4, q6⟩ g)⟩) (fun k l k4 l26 e el kP p1 => ⟨_, rfl, hE.2.2.2.1, ev1 hE hM FE.refl SA.sl, fun K' hK' => kX9_ageOf (σ := sl σ (x + 796) 0 _) gk hM.1 hB (fun g' => absurd (shP_m hB k4 e kP) g') (fun k' q1 q2 _ g' => by obtain rfl := u4 k4 q1 e q2; exact absurd ⟨l, l26, el, p1⟩ g') (fun k' l' q1 q2 q3 q4 _ _ => by obtain rfl := u4 k4 q1 e q3; obtain rfl := u26 l26 q2 el q4; exact th_end hE hC hM hb SA.sl rfl (fun _ => ml_s) hK')⟩))
theorem op_hitsOf (ok : OKS G) (h : LI b0 L xs x c σ) {s y : Int32} : RunsH G mL_hitsOf hL_hitsOf rL_hitsOf [vR (some x), vI s, vI y, vR (some (x + 796))] σ (HR (MDg φI b0 L xs G x (c + 1) mX9_hitsOf rX9_hitsOf [vR (some (x + 788)), vI s, vI y])) := by
  obtain ⟨gk, nk, hst, sok⟩ := ok
  obtain ⟨A, b, hC, hM, hb, hE⟩ := h
  have hR : RS σ (x + 1) (mi σ (x + 788 + 1)) b := by rw [hM.2.1]; exact hC.2.1
  have hB := hR.pg.shB
  refine hL_hitsOf_run gk nk hC.1.1 (c_hitsOf gk hst hC.1 hR (fun g kk => ⟨0, rfl, ev1 hE hM FE.refl SA.sk, fun K' hK' => kX9_hitsOf (σ := sk σ kk) gk hM.1 hB (fun _ z => th_end hE hC hM hb SA.sk rfl (nz1 0 (by omega)) hK') (fun k' q1 q2 q3 _ => absurd (shP_m hB q1 q2 q3) g) (fun k' l' q1 _ q2 _ q3 _ => absurd (shP_m hB q1 q2 q3) g)⟩) (fun k k4 e kP g kk => ⟨1, rfl, ev1 hE hM FE.refl SA.sk, fun K' hK' => kX9_hitsOf (σ := sk σ kk) gk hM.1 hB (fun g' => absurd (shP_m hB k4 e kP) g') (fun _ _ _ _ _ z => th_end hE hC hM hb SA.sk rfl (nz1 1 (by omega)) hK') (fun k' l' q1 q2 q3 q4 _ q6 => by obtain rfl := u4 k4 q1 e q3; exact absurd ⟨l', q2, q4, q6⟩ g)⟩) (fun k l k4 l26 e el kP p1 => ⟨_, rfl, hE.2.2.2.1, ev1 hE hM FE.refl SA.sl, fun K' hK' => kX9_hitsOf (σ := sl σ (x + 796) 0 _) gk hM.1 hB (fun g' => absurd (shP_m hB k4 e kP) g') (fun k' q1 q2 _ g' => by obtain rfl := u4 k4 q1 e q2; exact absurd ⟨l, l26, el, p1⟩ g') (fun k' l' q1 q2 q3 q4 _ _ => by obtain rfl := u4 k4 q1 e q3; obtain rfl := u26 l26 q2 el q4; exact th_end hE hC hM hb SA.sl rfl (fun _ => ml_s) hK')⟩))
theorem op_isExpired (ok : OKS G) (h : LI b0 L xs x c σ) {s y : Int32} : RunsH G mL_isExpired hL_isExpired rL_isExpired [vR (some x), vI s, vI y, vR (some (x + 796))] σ (HR (MDg φB b0 L xs G x (c + 1) mX9_isExpired rX9_isExpired [vR (some (x + 788)), vI s, vI y])) := by
  obtain ⟨gk, nk, hst, sok⟩ := ok
  obtain ⟨A, b, hC, hM, hb, hE⟩ := h
  have hR : RS σ (x + 1) (mi σ (x + 788 + 1)) b := by rw [hM.2.1]; exact hC.2.1
  have hB := hR.pg.shB
  refine hL_isExpired_run gk nk hC.1.1 (c_isExpired gk hst hC.1 hR (fun g kk => ⟨0, rfl, ev1 hE hM FE.refl SA.sk, fun K' hK' => kX9_isExpired (σ := sk σ kk) gk hM.1 hB (fun _ z => th_end hE hC hM hb SA.sk rfl (nz1 0 (by omega)) hK') (fun k' q1 q2 q3 _ => absurd (shP_m hB q1 q2 q3) g) (fun k' l' q1 _ q2 _ q3 _ => absurd (shP_m hB q1 q2 q3) g)⟩) (fun k k4 e kP g kk => ⟨1, rfl, ev1 hE hM FE.refl SA.sk, fun K' hK' => kX9_isExpired (σ := sk σ kk) gk hM.1 hB (fun g' => absurd (shP_m hB k4 e kP) g') (fun _ _ _ _ _ z => th_end hE hC hM hb SA.sk rfl (nz1 1 (by omega)) hK') (fun k' l' q1 q2 q3 q4 _ q6 => by obtain rfl := u4 k4 q1 e q3; exact absurd ⟨l', q2, q4, q6⟩ g)⟩) (fun k l k4 l26 e el kP p1 => ⟨_, rfl, hE.2.2.2.1, ev1 hE hM FE.refl SA.sl, fun K' hK' => kX9_isExpired (σ := sl σ (x + 796) 0 _) gk hM.1 hB (fun g' => absurd (shP_m hB k4 e kP) g') (fun k' q1 q2 _ g' => by obtain rfl := u4 k4 q1 e q2; exact absurd ⟨l, l26, el, p1⟩ g') (fun k' l' q1 q2 q3 q4 _ _ => by obtain rfl := u4 k4 q1 e q3; obtain rfl := u26 l26 q2 el q4; exact th_end hE hC hM hb SA.sl rfl (fun _ => ml_s) hK')⟩))
theorem op_isTrue (ok : OKS G) (h : LI b0 L xs x c σ) {s y : Int32} : RunsH G mL_isTrue hL_isTrue rL_isTrue [vR (some x), vI s, vI y, vR (some (x + 796))] σ (HR (MDg φB b0 L xs G x (c + 1) mX9_isTrue rX9_isTrue [vR (some (x + 788)), vI s, vI y])) := by
  obtain ⟨gk, nk, hst, sok⟩ := ok
  obtain ⟨A, b, hC, hM, hb, hE⟩ := h
  have hR : RS σ (x + 1) (mi σ (x + 788 + 1)) b := by rw [hM.2.1]; exact hC.2.1
  have hB := hR.pg.shB
  refine hL_isTrue_run gk nk hC.1.1 (c_isTrue gk hst hC.1 hR (fun g kk => ⟨0, rfl, ev1 hE hM FE.refl SA.sk, fun K' hK' => kX9_isTrue (σ := sk σ kk) gk hM.1 hB (fun _ z => th_end hE hC hM hb SA.sk rfl (nz1 0 (by omega)) hK') (fun k' q1 q2 q3 _ => absurd (shP_m hB q1 q2 q3) g) (fun k' l' q1 _ q2 _ q3 _ => absurd (shP_m hB q1 q2 q3) g)⟩) (fun k k4 e kP g kk => ⟨1, rfl, ev1 hE hM FE.refl SA.sk, fun K' hK' => kX9_isTrue (σ := sk σ kk) gk hM.1 hB (fun g' => absurd (shP_m hB k4 e kP) g') (fun _ _ _ _ _ z => th_end hE hC hM hb SA.sk rfl (nz1 1 (by omega)) hK') (fun k' l' q1 q2 q3 q4 _ q6 => by obtain rfl := u4 k4 q1 e q3; exact absurd ⟨l', q2, q4, q6⟩ g)⟩) (fun k l k4 l26 e el kP p1 => ⟨_, rfl, hE.2.2.2.1, ev1 hE hM FE.refl SA.sl, fun K' hK' => kX9_isTrue (σ := sl σ (x + 796) 0 _) gk hM.1 hB (fun g' => absurd (shP_m hB k4 e kP) g') (fun k' q1 q2 _ g' => by obtain rfl := u4 k4 q1 e q2; exact absurd ⟨l, l26, el, p1⟩ g') (fun k' l' q1 q2 q3 q4 _ _ => by obtain rfl := u4 k4 q1 e q3; obtain rfl := u26 l26 q2 el q4; exact th_end hE hC hM hb SA.sl rfl (fun _ => ml_s) hK')⟩))
theorem op_isTrueBySteps (ok : OKS G) (h : LI b0 L xs x c σ) {s y : Int32} : RunsH G mL_isTrueBySteps hL_isTrueBySteps rL_isTrueBySteps [vR (some x), vI s, vI y, vR (some (x + 796))] σ (HR (MDg φB b0 L xs G x (c + 1) mX9_isTrueBySteps rX9_isTrueBySteps [vR (some (x + 788)), vI s, vI y])) := by
  obtain ⟨gk, nk, hst, sok⟩ := ok
  obtain ⟨A, b, hC, hM, hb, hE⟩ := h
  have hR : RS σ (x + 1) (mi σ (x + 788 + 1)) b := by rw [hM.2.1]; exact hC.2.1
  have hB := hR.pg.shB
  refine hL_isTrueBySteps_run gk nk hC.1.1 (c_isTrueBySteps gk hst hC.1 hR (fun g kk => ⟨0, rfl, ev1 hE hM FE.refl SA.sk, fun K' hK' => kX9_isTrueBySteps (σ := sk σ kk) gk hM.1 hB (fun _ z _ => th_end hE hC hM hb SA.sk rfl (nz1 0 (by omega)) hK') (fun k' q1 q2 q3 _ => absurd (shP_m hB q1 q2 q3) g) (fun k' l' q1 _ q2 _ q3 _ => absurd (shP_m hB q1 q2 q3) g)⟩) (fun k k4 e kP g kk => ⟨1, rfl, ev1 hE hM FE.refl SA.sk, fun K' hK' => kX9_isTrueBySteps (σ := sk σ kk) gk hM.1 hB (fun g' => absurd (shP_m hB k4 e kP) g') (fun _ _ _ _ _ z _ => th_end hE hC hM hb SA.sk rfl (nz1 1 (by omega)) hK') (fun k' l' q1 q2 q3 q4 _ q6 => by obtain rfl := u4 k4 q1 e q3; exact absurd ⟨l', q2, q4, q6⟩ g)⟩) (fun k l k4 l26 e el kP p1 => ⟨_, rfl, hE.2.2.2.1, ev1 hE hM FE.refl SA.sl, fun K' hK' => kX9_isTrueBySteps (σ := sl σ (x + 796) 0 _) gk hM.1 hB (fun g' => absurd (shP_m hB k4 e kP) g') (fun k' q1 q2 _ g' => by obtain rfl := u4 k4 q1 e q2; exact absurd ⟨l, l26, el, p1⟩ g') (fun k' l' q1 q2 q3 q4 _ _ => by obtain rfl := u4 k4 q1 e q3; obtain rfl := u26 l26 q2 el q4; exact th_end hE hC hM hb SA.sl rfl (fun _ => ml_s) hK')⟩))
theorem op_isOpen (ok : OKS G) (h : LI b0 L xs x c σ) {s y : Int32} : RunsH G mL_isOpen hL_isOpen rL_isOpen [vR (some x), vI s, vI y, vR (some (x + 796))] σ (HR (MDg φB b0 L xs G x (c + 1) mX9_isOpen rX9_isOpen [vR (some (x + 788)), vI s, vI y])) := by
  obtain ⟨gk, nk, hst, sok⟩ := ok
  obtain ⟨A, b, hC, hM, hb, hE⟩ := h
  have hR : RS σ (x + 1) (mi σ (x + 788 + 1)) b := by rw [hM.2.1]; exact hC.2.1
  have hB := hR.pg.shB
  obtain ⟨n, m, bb, hP, hW⟩ := hR.pg
  have kn : ∀ k, k < 4 → nI k < mi σ (x + 788 + 1) 0 → k < n := fun k k4 q => by
    rw [hP.1.2] at q
    exact (nI_ltI (by omega) (by have := hP.1.1; omega)).mp q
  refine hL_isOpen_run gk nk hC.1.1 (c_isOpen gk hst hC.1 hR (fun g kk => ⟨0, rfl, ev1 hE hM FE.refl SA.sk, fun K' hK' => kX9_isOpen (σ := sk σ kk) gk hM.1 hB (fun _ z => th_end hE hC hM hb SA.sk rfl (nz1 0 (by omega)) hK') (fun k' q1 q2 q3 _ => absurd (shP_m hB q1 q2 q3) g) (fun k' l' q1 _ q2 _ q3 _ => absurd (shP_m hB q1 q2 q3) g)⟩) (fun k k4 e kP g kk => ⟨1, rfl, ev1 hE hM FE.refl SA.sk, fun K' hK' => kX9_isOpen (σ := sk σ kk) gk hM.1 hB (fun g' => absurd (shP_m hB k4 e kP) g') (fun _ _ _ _ _ z => th_end hE hC hM hb SA.sk rfl (nz1 1 (by omega)) hK') (fun k' l' q1 q2 q3 q4 _ q6 => by obtain rfl := u4 k4 q1 e q3; exact absurd ⟨l', q2, q4, q6⟩ g)⟩) (fun k l k4 l26 e el kP p1 => ⟨_, rfl, hE.2.2.2.1, ev1 hE hM FE.refl SA.sl, fun K' hK' => kX9_isOpen (σ := sl σ (x + 796) 0 _) gk hM.1 hB (fun g' => absurd (shP_m hB k4 e kP) g') (fun k' q1 q2 _ g' => by obtain rfl := u4 k4 q1 e q2; exact absurd ⟨l, l26, el, p1⟩ g') (fun k' l' q1 q2 q3 q4 _ _ => by obtain rfl := u4 k4 q1 e q3; obtain rfl := u26 l26 q2 el q4; exact th_end hE hC hM hb SA.sl rfl (fun _ => by rw [ml_s]; exact φBz ((hP.2.2.2.2.1 _ _ (kn _ k4 kP) l26).2 p1).2.2.2.2.2.2.2.2.1) hK')⟩))
theorem op_echoAt (ok : OKS G) (h : LI b0 L xs x c σ) {s y : Int32} : RunsH G mL_echoAt hL_echoAt rL_echoAt [vR (some x), vI s, vI y, vR (some (x + 796))] σ (HR (MDg φI b0 L xs G x (c + 1) mX9_echoAt rX9_echoAt [vR (some (x + 788)), vI s, vI y])) := by
  obtain ⟨gk, nk, hst, sok⟩ := ok
  obtain ⟨A, b, hC, hM, hb, hE⟩ := h
  have hR : RS σ (x + 1) (mi σ (x + 788 + 1)) b := by rw [hM.2.1]; exact hC.2.1
  have hB := hR.pg.shB
  refine hL_echoAt_run gk nk hC.1.1 (c_echoAt gk hst hC.1 hR (fun g kk => ⟨0, rfl, ev1 hE hM FE.refl SA.sk, fun K' hK' => kX9_echoAt (σ := sk σ kk) gk hM.1 hB (fun _ z _ => th_end hE hC hM hb SA.sk rfl (nz1 0 (by omega)) hK') (fun k' q1 q2 q3 _ => absurd (shP_m hB q1 q2 q3) g) (fun k' i' l' q1 q2 q3 _ _ _ _ => absurd (shP_m hB q1 q2 q3) g)⟩) (fun k k4 e kP g kk => ⟨1, rfl, ev1 hE hM FE.refl SA.sk, fun K' hK' => kX9_echoAt (σ := sk σ kk) gk hM.1 hB (fun g' => absurd (shP_m hB k4 e kP) g') (fun _ _ _ _ _ z _ => th_end hE hC hM hb SA.sk rfl (nz1 1 (by omega)) hK') (fun k' i' l' q1 q2 q3 q4 q5 _ _ => by obtain rfl := u4 k4 q1 e q2; exact absurd ⟨i', q4, q5⟩ g)⟩) (fun k i l k4 e kP hi ei l26 hn => ⟨_, rfl, hE.2.2.2.1, ev1 hE hM FE.refl SA.sl, fun K' hK' => kX9_echoAt (σ := sl σ (x + 796) 0 _) gk hM.1 hB (fun g' => absurd (shP_m hB k4 e kP) g') (fun k' q1 q2 _ g' => by obtain rfl := u4 k4 q1 e q2; exact absurd ⟨i, hi, ei⟩ g') (fun k' i' l' q1 q2 q3 q4 q5 q6 q7 => by obtain rfl := u4 k4 q1 e q2; obtain rfl := uN (Nat.le_trans ecN26 (by decide)) hi q4 ei q5; obtain rfl := uS hn q7; exact th_end hE hC hM hb SA.sl rfl (fun _ => ml_s) hK')⟩))
theorem op_jarAt (ok : OKS G) (h : LI b0 L xs x c σ) {s : Int32} : RunsH G mL_jarAt hL_jarAt rL_jarAt [vR (some x), vI s, vR (some (x + 796))] σ (HR (MDg φI b0 L xs G x (c + 1) mX9_jarAt rX9_jarAt [vR (some (x + 788)), vI s])) := by
  obtain ⟨gk, nk, hst, sok⟩ := ok
  obtain ⟨A, b, hC, hM, hb, hE⟩ := h
  have hR : RS σ (x + 1) (mi σ (x + 788 + 1)) b := by rw [hM.2.1]; exact hC.2.1
  have hB := hR.pg.shB
  refine hL_jarAt_run gk nk hC.1.1 (c_jarAt gk hst hC.1 hR (fun g kk => ⟨0, rfl, ev1 hE hM FE.refl SA.sk, fun K' hK' => kX9_jarAt (σ := sk σ kk) gk hM.1 (fun _ z _ => th_end hE hC hM hb SA.sk rfl (nz1 0 (by omega)) hK') (fun i' l' q1 q2 _ _ => absurd ⟨i', q1, q2⟩ g)⟩) (fun i l hi ei l26 hn => ⟨_, rfl, hE.2.2.2.1, ev1 hE hM FE.refl SA.sl, fun K' hK' => kX9_jarAt (σ := sl σ (x + 796) 0 _) gk hM.1 (fun g => absurd ⟨i, hi, ei⟩ g) (fun i' l' q1 q2 q3 q4 => by obtain rfl := uN (Nat.le_trans jrN26 (by decide)) hi q1 ei q2; obtain rfl := uS hn q4; exact th_end hE hC hM hb SA.sl rfl (fun _ => ml_s) hK')⟩))
theorem op_wordOf (ok : OKS G) (h : LI b0 L xs x c σ) {y : Int32} (hc : isC y) : RunsH G mL_wordOf hL_wordOf rL_wordOf [vR (some x), vI y, vR (some (x + 796))] σ (HR (MDg φI b0 L xs G x (c + 1) mX9_wordOf rX9_wordOf [vR (some (x + 788)), vI y])) := by
  obtain ⟨gk, nk, hst, sok⟩ := ok
  obtain ⟨A, b, hC, hM, hb, hE⟩ := h
  have hR : RS σ (x + 1) (mi σ (x + 788 + 1)) b := by rw [hM.2.1]; exact hC.2.1
  have hB := hR.pg.shB
  refine hL_wordOf_run gk nk hC.1.1 (c_wordOf gk hst hC.1 hR hc (fun g kk => ⟨0, rfl, ev1 hE hM FE.refl SA.sk, fun K' hK' => kX9_wordOf (σ := sk σ kk) gk hM.1 (fun _ z => th_end hE hC hM hb SA.sk rfl (nz1 0 (by omega)) hK') (fun l' q1 q2 q3 => absurd ⟨l', q1, q2, q3⟩ g)⟩) (fun l l26 el p => ⟨_, rfl, hE.2.2.2.1, ev1 hE hM FE.refl SA.sl, fun K' hK' => kX9_wordOf (σ := sl σ (x + 796) 0 _) gk hM.1 (fun g => absurd ⟨l, l26, el, p⟩ g) (fun l' q1 q2 _ => by obtain rfl := u26 l26 q1 el q2; exact th_end hE hC hM hb SA.sl rfl (fun _ => ml_s) hK')⟩))
theorem op_outcomeOf (ok : OKS G) (h : LI b0 L xs x c σ) {s y : Int32} (hc : isC y) : RunsH G mL_outcomeOf hL_outcomeOf rL_outcomeOf [vR (some x), vI s, vI y, vR (some (x + 796))] σ (HR (MDg φI b0 L xs G x (c + 1) mX9_outcomeOf rX9_outcomeOf [vR (some (x + 788)), vI s, vI y])) := by
  obtain ⟨gk, nk, hst, sok⟩ := ok
  obtain ⟨A, b, hC, hM, hb, hE⟩ := h
  have hR : RS σ (x + 1) (mi σ (x + 788 + 1)) b := by rw [hM.2.1]; exact hC.2.1
  have hB := hR.pg.shB
  refine hL_outcomeOf_run gk nk hC.1.1 (c_outcomeOf gk hst hC.1 hR hc (fun g kk => ⟨0, rfl, ev1 hE hM FE.refl SA.sk, fun K' hK' => kX9_outcomeOf (σ := sk σ kk) gk hM.1 hB (fun _ z _ => th_end hE hC hM hb SA.sk rfl (nz1 0 (by omega)) hK') (fun q _ => absurd q g) (fun k' l' q1 _ q2 _ q3 _ => absurd (shP_m hB q1 q2 q3) g)⟩) (fun h0 g kk => ⟨1, rfl, ev1 hE hM FE.refl SA.sk, fun K' hK' => kX9_outcomeOf (σ := sk σ kk) gk hM.1 hB (fun q => absurd h0 q) (fun _ _ z _ => th_end hE hC hM hb SA.sk rfl (nz1 1 (by omega)) hK') (fun k' l' _ q2 _ q4 _ q6 => absurd ⟨l', q2, q4, q6⟩ g)⟩) (fun k l k4 l26 e el kP p1 => ⟨_, rfl, hE.2.2.2.1, ev1 hE hM FE.refl SA.sl, fun K' hK' => kX9_outcomeOf (σ := sl σ (x + 796) 0 _) gk hM.1 hB (fun g' => absurd (shP_m hB k4 e kP) g') (fun _ g' => absurd ⟨l, l26, el, p1⟩ g') (fun k' l' q1 q2 q3 q4 _ _ => by obtain rfl := u4 k4 q1 e q3; obtain rfl := u26 l26 q2 el q4; exact th_end hE hC hM hb SA.sl rfl (fun _ => ml_s) hK')⟩))
theorem op_victimOf (ok : OKS G) (h : LI b0 L xs x c σ) {s : Int32} (hc5 : c ≤ 512) : RunsH G mL_victimOf hL_victimOf rL_victimOf [vR (some x), vI s, vR (some (x + 796))] σ (HR (MDg φI b0 L xs G x (c + 1) mX9_victimOf rX9_victimOf [vR (some (x + 788)), vI s])) := by
  obtain ⟨gk, nk, hst, sok⟩ := ok
  obtain ⟨A, b, hC, hM, hb, hE⟩ := h
  have hR : RS σ (x + 1) (mi σ (x + 788 + 1)) b := by rw [hM.2.1]; exact hC.2.1
  have hB := hR.pg.shB
  have hbb : b < 2 ^ 29 := Nat.lt_of_lt_of_le (hb.lt hc5) (by decide)
  refine hL_victimOf_run gk nk hC.1.1 (c_victimOf gk hst hbb hC.1 hR (fun g kk => ⟨0, rfl, ev1 hE hM FE.refl SA.sk, fun K' hK' => kX9_victimOf (σ := sk σ kk) gk hM.1 hB (fun _ z _ => th_end hE hC hM hb SA.sk rfl (nz1 0 (by omega)) hK') (fun k' q1 q2 q3 _ => absurd (shP_m hB q1 q2 q3) g) (fun k' v' q1 _ q2 q3 _ => absurd (shP_m hB q1 q2 q3) g)⟩) (fun k k4 e kP g kk => ⟨1, rfl, ev1 hE hM FE.refl SA.sk, fun K' hK' => kX9_victimOf (σ := sk σ kk) gk hM.1 hB (fun g' => absurd (shP_m hB k4 e kP) g') (fun _ _ _ _ _ z _ => th_end hE hC hM hb SA.sk rfl (nz1 1 (by omega)) hK') (fun k' v' q1 _ q3 _ q5 => by obtain rfl := u4 k4 q1 e q3; exact absurd g (vc_n0 q5))⟩) (fun k v k4 v26 e kP hv => ⟨_, rfl, hE.2.2.2.1, ev1 hE hM FE.refl SA.sl, fun K' hK' => kX9_victimOf (σ := sl σ (x + 796) 0 _) gk hM.1 hB (fun g' => absurd (shP_m hB k4 e kP) g') (fun k' q1 q2 _ g' => by obtain rfl := u4 k4 q1 e q2; exact absurd g' (vc_n0 hv)) (fun k' v' q1 q2 q3 _ q5 => by obtain rfl := u4 k4 q1 e q3; obtain rfl := uS hv q5; exact th_end hE hC hM hb SA.sl rfl (fun _ => ml_s) hK')⟩))
theorem op_victimByScan (ok : OKS G) (h : LI b0 L xs x c σ) {s : Int32} (hc5 : c ≤ 512) : RunsH G mL_victimByScan hL_victimByScan rL_victimByScan [vR (some x), vI s, vR (some (x + 796))] σ (HR (MDg φI b0 L xs G x (c + 1) mX9_victimByScan rX9_victimByScan [vR (some (x + 788)), vI s])) := by
  obtain ⟨gk, nk, hst, sok⟩ := ok
  obtain ⟨A, b, hC, hM, hb, hE⟩ := h
  have hR : RS σ (x + 1) (mi σ (x + 788 + 1)) b := by rw [hM.2.1]; exact hC.2.1
  have hB := hR.pg.shB
  have hbb : b < 2 ^ 29 := Nat.lt_of_lt_of_le (hb.lt hc5) (by decide)
  refine hL_victimByScan_run gk nk hC.1.1 (c_victimByScan gk hst hbb hC.1 hR (fun g kk => ⟨0, rfl, ev1 hE hM FE.refl SA.sk, fun K' hK' => kX9_victimByScan (σ := sk σ kk) gk hM.1 hB (fun _ z _ => th_end hE hC hM hb SA.sk rfl (nz1 0 (by omega)) hK') (fun k' q1 q2 q3 _ => absurd (shP_m hB q1 q2 q3) g) (fun k' v' q1 _ q2 q3 _ => absurd (shP_m hB q1 q2 q3) g)⟩) (fun k k4 e kP g kk => ⟨1, rfl, ev1 hE hM FE.refl SA.sk, fun K' hK' => kX9_victimByScan (σ := sk σ kk) gk hM.1 hB (fun g' => absurd (shP_m hB k4 e kP) g') (fun _ _ _ _ _ z _ => th_end hE hC hM hb SA.sk rfl (nz1 1 (by omega)) hK') (fun k' v' q1 _ q3 _ q5 => by obtain rfl := u4 k4 q1 e q3; exact absurd g (vc_n0 q5))⟩) (fun k v k4 v26 e kP hv => ⟨_, rfl, hE.2.2.2.1, ev1 hE hM FE.refl SA.sl, fun K' hK' => kX9_victimByScan (σ := sl σ (x + 796) 0 _) gk hM.1 hB (fun g' => absurd (shP_m hB k4 e kP) g') (fun k' q1 q2 _ g' => by obtain rfl := u4 k4 q1 e q2; exact absurd g' (vc_n0 hv)) (fun k' v' q1 q2 q3 _ q5 => by obtain rfl := u4 k4 q1 e q3; obtain rfl := uS hv q5; exact th_end hE hC hM hb SA.sl rfl (fun _ => ml_s) hK')⟩))
theorem op_warmingMinute (ok : OKS G) (h : LI b0 L xs x c σ) {s : Int32} : RunsH G mL_warmingMinute hL_warmingMinute rL_warmingMinute [vR (some x), vI s, vR (some (x + 796))] σ (HR (MDg φI b0 L xs G x (c + 1) mX9_warmingMinute rX9_warmingMinute [vR (some (x + 788)), vI s])) := by
  obtain ⟨gk, nk, hst, sok⟩ := ok
  obtain ⟨A, b, hC, hM, hb, hE⟩ := h
  have hR : RS σ (x + 1) (mi σ (x + 788 + 1)) b := by rw [hM.2.1]; exact hC.2.1
  have hB := hR.pg.shB
  obtain ⟨n, m, bb, hP, ⟨hm8, hP1⟩, hW⟩ := hR.pg
  refine hL_warmingMinute_run gk nk hC.1.1 (c_warmingMinute gk hst hC.1 hR hP1 hm8 (fun g kk => ⟨0, rfl, ev1 hE hM FE.refl SA.sk, fun K' hK' => kX9_warmingMinute (σ := sk σ kk) gk hM.1 hm8 hP1 (fun _ z _ => th_end hE hC hM hb SA.sk rfl (nz1 0 (by omega)) hK') (fun i' q1 q2 => absurd ⟨i', q1, q2⟩ g)⟩) (fun i hi e => ⟨_, rfl, hE.2.2.2.1, ev1 hE hM FE.refl SA.sl, fun K' hK' => kX9_warmingMinute (σ := sl σ (x + 796) 0 _) gk hM.1 hm8 hP1 (fun g => absurd ⟨i, hi, e⟩ g) (fun i' q1 q2 => by obtain rfl := uN (Nat.le_trans hm8 (by decide)) hi q1 e q2; exact th_end hE hC hM hb SA.sl rfl (fun _ => ml_s) hK')⟩))
theorem op_warmingJar (ok : OKS G) (h : LI b0 L xs x c σ) {s : Int32} : RunsH G mL_warmingJar hL_warmingJar rL_warmingJar [vR (some x), vI s, vR (some (x + 796))] σ (HR (MDg φI b0 L xs G x (c + 1) mX9_warmingJar rX9_warmingJar [vR (some (x + 788)), vI s])) := by
  obtain ⟨gk, nk, hst, sok⟩ := ok
  obtain ⟨A, b, hC, hM, hb, hE⟩ := h
  have hR : RS σ (x + 1) (mi σ (x + 788 + 1)) b := by rw [hM.2.1]; exact hC.2.1
  have hB := hR.pg.shB
  obtain ⟨n, m, bb, hP, ⟨hm8, hP1⟩, hW⟩ := hR.pg
  refine hL_warmingJar_run gk nk hC.1.1 (c_warmingJar gk hst hC.1 hR hP1 hm8 (fun g kk => ⟨0, rfl, ev1 hE hM FE.refl SA.sk, fun K' hK' => kX9_warmingJar (σ := sk σ kk) gk hM.1 hm8 hP1 (fun _ z _ => th_end hE hC hM hb SA.sk rfl (nz1 0 (by omega)) hK') (fun i' q1 q2 => absurd ⟨i', q1, q2⟩ g)⟩) (fun i hi e => ⟨_, rfl, hE.2.2.2.1, ev1 hE hM FE.refl SA.sl, fun K' hK' => kX9_warmingJar (σ := sl σ (x + 796) 0 _) gk hM.1 hm8 hP1 (fun g => absurd ⟨i, hi, e⟩ g) (fun i' q1 q2 => by obtain rfl := uN (Nat.le_trans hm8 (by decide)) hi q1 e q2; exact th_end hE hC hM hb SA.sl rfl (fun _ => ml_s) hK')⟩))
theorem op_misses (ok : OKS G) (h : LI b0 L xs x c σ) {y : Int32} : RunsH G mL_misses hL_misses rL_misses [vR (some x), vI y, vR (some (x + 796))] σ (HR (MDg φI b0 L xs G x (c + 1) mX9_misses rX9_misses [vR (some (x + 788)), vI y])) := by
  obtain ⟨gk, nk, hst, sok⟩ := ok
  obtain ⟨A, b, hC, hM, hb, hE⟩ := h
  have hR : RS σ (x + 1) (mi σ (x + 788 + 1)) b := by rw [hM.2.1]; exact hC.2.1
  have hB := hR.pg.shB
  refine hL_misses_run gk nk hC.1.1 (c_misses gk hst hC.1 hR (fun a1 a2 a3 kk => ⟨0, rfl, ev1 hE hM FE.refl SA.sk, fun K' hK' => kX9_misses (σ := sk σ kk) gk hM.1 (fun _ _ _ z => th_end hE hC hM hb SA.sk rfl (nz1 0 (by omega)) hK') (fun g => absurd g a1) (fun g => absurd g a2) (fun g => absurd g a3)⟩) (fun g => ⟨_, rfl, hE.2.2.2.1, ev1 hE hM FE.refl SA.sl, fun K' hK' => kX9_misses (σ := sl σ (x + 796) 0 _) gk hM.1 (fun a1 _ _ => absurd g a1) (fun _ => th_end hE hC hM hb SA.sl rfl (fun _ => ml_s) hK') (fun g2 => absurd (g.symm.trans g2) (by decide)) (fun g2 => absurd (g.symm.trans g2) (by decide))⟩) (fun g => ⟨_, rfl, hE.2.2.2.1, ev1 hE hM FE.refl SA.sl, fun K' hK' => kX9_misses (σ := sl σ (x + 796) 0 _) gk hM.1 (fun _ a1 _ => absurd g a1) (fun g2 => absurd (g.symm.trans g2) (by decide)) (fun _ => th_end hE hC hM hb SA.sl rfl (fun _ => ml_s) hK') (fun g2 => absurd (g.symm.trans g2) (by decide))⟩) (fun g => ⟨_, rfl, hE.2.2.2.1, ev1 hE hM FE.refl SA.sl, fun K' hK' => kX9_misses (σ := sl σ (x + 796) 0 _) gk hM.1 (fun _ _ a1 => absurd g a1) (fun g2 => absurd (g.symm.trans g2) (by decide)) (fun g2 => absurd (g.symm.trans g2) (by decide)) (fun _ => th_end hE hC hM hb SA.sl rfl (fun _ => ml_s) hK')⟩))
theorem op_shelfByHits (ok : OKS G) (h : LI b0 L xs x c σ) {s : Int32} (hc5 : c ≤ 512) : RunsH G mL_shelfByHits hL_shelfByHits rL_shelfByHits [vR (some x), vI s, vR (some (x + 796))] σ (HR (MDg φI b0 L xs G x (c + 1) mX9_shelfByHits rX9_shelfByHits [vR (some (x + 788)), vI s])) := by
  obtain ⟨gk, nk, hst, sok⟩ := ok
  obtain ⟨A, b, hC, hM, hb, hE⟩ := h
  have hR : RS σ (x + 1) (mi σ (x + 788 + 1)) b := by rw [hM.2.1]; exact hC.2.1
  have hB := hR.pg.shB
  have hbb : b < 2 ^ 29 := Nat.lt_of_lt_of_le (hb.lt hc5) (by decide)
  obtain ⟨n, m, bb, ⟨⟨hn, hP0⟩, hP⟩, hW⟩ := hR.pg
  refine hL_shelfByHits_run gk nk hC.1.1 (c_shelfByHits gk hst hbb hC.1 hR hP0 hn (fun g kk => ⟨0, rfl, ev1 hE hM FE.refl SA.sk, fun K' hK' => kX9_shelfByHits (σ := sk σ kk) gk hM.1 hn hP0 (fun _ z => th_end hE hC hM hb SA.sk rfl (nz1 0 (by omega)) hK') (fun r' q1 q2 => absurd (by rw [q2]; exact shP_of hn hP0 q1) g)⟩) (fun r hr e => ⟨_, rfl, hE.2.2.2.1, ev1 hE hM FE.refl SA.sl, fun K' hK' => kX9_shelfByHits (σ := sl σ (x + 796) 0 _) gk hM.1 hn hP0 (fun g => absurd (by rw [e]; exact shP_of hn hP0 hr) g) (fun r' q1 q2 => by obtain rfl := uN (Nat.le_trans hn (by decide)) hr q1 e q2; exact th_end hE hC hM hb SA.sl rfl (fun _ => ml_s) hK')⟩))
end OPS
