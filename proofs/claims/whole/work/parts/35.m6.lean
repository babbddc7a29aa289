/-! ===== the model: shelves, hearing, warming, time ===== -/
section MI
variable {G : GG} {σ : Mm} {K : RES → Mm → Prop} {a : Nat}
def fl0 (P : Nat → Int32) (b i : Nat) : Nat → Int32 := fun j => if b ≤ j ∧ j < b + i then 0 else P j
theorem fl0_s {P : Nat → Int32} {b i : Nat} : upd (fl0 P b i) (b + i) 0 = fl0 P b (i + 1) := by
  funext j
  unfold upd fl0
  by_cases h : j = b + i
  · rw [if_pos h, if_pos (by omega)]
  · rw [if_neg h]
    by_cases h2 : b ≤ j ∧ j < b + i
    · rw [if_pos h2, if_pos (by omega)]
    · rw [if_neg h2, if_neg (by omega)]
theorem fl0_o {P : Nat → Int32} {b i j : Nat} (h : j < b ∨ b + i ≤ j) : fl0 P b i j = P j := if_neg (by omega)
theorem fl0_0 {P : Nat → Int32} {b : Nat} : fl0 P b 0 = P := funext fun j => if_neg (by omega)
/-- a new shelf -/
def aS (P : Nat → Int32) (n : Nat) (c f p : Int32) : Nat → Int32 := upd (upd (upd (upd (upd (fl0 P (86 + 187 * n) 187) (86 + 187 * n) c) (86 + 187 * n + 1) f) (86 + 187 * n + 2) p) (86 + 187 * n + 3) 1) 0 (nI (n + 1))
def plP (p : Int32) : Prop := p = 114 ∨ p = 111 ∨ p = 108
theorem ix_sh0 (k : Nat) : (86 : Int32) + (187 : Int32) * nI k = nI (86 + 187 * k) := by
  rw [show (86 : Int32) = nI 86 from rfl, show (187 : Int32) = nI 187 from rfl, pk_mul, nI_add]
theorem kX9_doAddShelf_90 (gk : GOK G) (hM : MS σ a) {n : Nat} {c f p z : Int32} {P : Nat → Int32} (hn : n < 4) (h0 : P 0 = nI n) (hk : K (.inl (some (vI (nI n)))) (sS σ (a + 1) (aS P n c f p))) : ∀ (d i : Nat), i + d = 187 → At G mX9_doAddShelf rX9_doAddShelf 0 0 90 [some (vR (some a)), some (vI c), some (vI f), some (vI p), some (vI (nI n)), some (vI z), some (vI (nI (86 + 187 * n))), some (vI (nI i))] [] (sS σ (a + 1) (fl0 P (86 + 187 * n) i)) K
  | 0, i, h => by
    obtain rfl : i = 187 := by omega
    refine vX9_doAddShelf_90 gk ⟨fun _ => ?_, fun q => absurd (by decide) q⟩
    have e : fl0 P (86 + 187 * n) 187 0 = nI n := (fl0_o (by omega)).trans h0
    simp (disch := omega) only [forall_eq, exists_eq_left', Option.some.injEq, Prod.mk.injEq, true_and, and_true, hM.ty, hM.r0, hM.t0, sS_r, sS_t, si_sS, sS_sS, sS_s, nA0, nA1, nA2, nA3, nA4, nA5, nA6, nI_clamp, lc0, lc1, lc2, lc3, lc4, lc5, lc6, lc7, lc8, vinT, vi0, vi1, vi2, vi3, vi4, vi5, vi6, vi7, pk_us, pk_un, true_implies, not_true_eq_false, not_false_eq_true, false_implies, i00, i01, i10, i11, Nat.add_zero, e]
    exact hk
  | d + 1, i, h => by
    have ih := kX9_doAddShelf_90 gk hM (z := z) hn h0 hk d (i + 1) (by omega)
    refine vX9_doAddShelf_90 gk ⟨fun q => absurd q (nI_ge (a := i) (b := 187) (by omega) (by omega)), fun _ => ?_⟩
    simp (disch := omega) only [forall_eq, exists_eq_left', Option.some.injEq, Prod.mk.injEq, true_and, and_true, hM.ty, hM.r0, hM.t0, sS_r, sS_t, si_sS, sS_sS, sS_s, nA0, nA1, nA2, nA3, nA4, nA5, nA6, nI_clamp, lc0, lc1, lc2, lc3, lc4, lc5, lc6, lc7, lc8, vinT, vi0, vi1, vi2, vi3, vi4, vi5, vi6, vi7, pk_us, pk_un, true_implies, not_true_eq_false, not_false_eq_true, false_implies, i00, i01, i10, i11, Nat.add_zero, nI_add, fl0_s]
    exact ih
theorem kX9_doAddShelf (gk : GOK G) (hM : MS σ a) {c f p : Int32} {n : Nat} (hn : n ≤ 4) (h0 : mi σ (a + 1) 0 = nI n) (h1 : ¬ (¬ c < 1 ∧ ¬ 6 < c ∧ ¬ f < 1 ∧ ¬ 30 < f ∧ plP p) → K (.inl (some (vI 0))) (th σ a 1)) (h2 : ¬ c < 1 ∧ ¬ 6 < c ∧ ¬ f < 1 ∧ ¬ 30 < f ∧ plP p → n = 4 → K (.inl (some (vI 0))) (th σ a 2))
    (hk : ¬ c < 1 ∧ ¬ 6 < c ∧ ¬ f < 1 ∧ ¬ 30 < f ∧ plP p → n < 4 → K (.inl (some (vI (nI n)))) (sS σ (a + 1) (aS (mi σ (a + 1)) n c f p))) : Runs G mX9_doAddShelf rX9_doAddShelf [vR (some a), vI c, vI f, vI p] σ K := by
  have hf : ∀ z : Int32, ¬ (¬ c < 1 ∧ ¬ 6 < c ∧ ¬ f < 1 ∧ ¬ 30 < f ∧ plP p) → Runs G mX9_fails rX9_fails [vR (some a), vI 1] σ (bk G mX9_doAddShelf rX9_doAddShelf 0 0 63 [some (vR (some a)), some (vI c), some (vI f), some (vI p), some (vI (nI n)), some (vI z), none, none] [] K) := fun z q => kX9_fails gk hM (vX9_doAddShelf_63 gk (h1 q))
  have hg : ∀ z : Int32, (¬ c < 1 ∧ ¬ 6 < c ∧ ¬ f < 1 ∧ ¬ 30 < f ∧ plP p) → (¬ nI n = 4 → At G mX9_doAddShelf rX9_doAddShelf 0 0 90 [some (vR (some a)), some (vI c), some (vI f), some (vI p), some (vI (nI n)), some (vI z), some (vI (nI (86 + 187 * n))), some (vI 0)] [] σ K) ∧ (nI n = 4 → Runs G mX9_fails rX9_fails [vR (some a), vI 2] σ (bk G mX9_doAddShelf rX9_doAddShelf 0 0 75 [some (vR (some a)), some (vI c), some (vI f), some (vI p), some (vI (nI n)), some (vI z), none, none] [] K)) := fun z q => by
    refine ⟨fun h => ?_, fun h => kX9_fails gk hM (vX9_doAddShelf_75 gk (h2 q ((nI_eq (by omega) (by omega)).mp h)))⟩
    have h4 : n < 4 := by
      have : n ≠ 4 := fun e => h (by rw [e]; rfl)
      omega
    have := kX9_doAddShelf_90 gk hM (z := z) (P := mi σ (a + 1)) h4 h0 (hk q h4) 187 0 rfl
    rw [fl0_0, sS_id] at this
    exact this
  refine eX9_doAddShelf gk ?_
  simp (disch := omega) only [forall_eq, exists_eq_left', Option.some.injEq, Prod.mk.injEq, true_and, and_true, hM.ty, hM.r0, hM.t0, sS_r, sS_t, si_sS, sS_sS, sS_s, nA0, nA1, nA2, nA3, nA4, nA5, nA6, nI_clamp, lc0, lc1, lc2, lc3, lc4, lc5, lc6, lc7, lc8, vinT, vi0, vi1, vi2, vi3, vi4, vi5, vi6, vi7, pk_us, pk_un, true_implies, not_true_eq_false, not_false_eq_true, false_implies, i00, i01, i10, i11, Nat.add_zero]
  refine kX9_in gk (vX9_doAddShelf_15 gk ?_)
  simp (disch := omega) only [forall_eq, exists_eq_left', Option.some.injEq, Prod.mk.injEq, true_and, and_true, hM.ty, hM.r0, hM.t0, sS_r, sS_t, si_sS, sS_sS, sS_s, nA0, nA1, nA2, nA3, nA4, nA5, nA6, nI_clamp, lc0, lc1, lc2, lc3, lc4, lc5, lc6, lc7, lc8, vinT, vi0, vi1, vi2, vi3, vi4, vi5, vi6, vi7, pk_us, pk_un, true_implies, not_true_eq_false, not_false_eq_true, false_implies, i00, i01, i10, i11, Nat.add_zero, ix_sh0, h0]
  refine ⟨fun q => hf _ (fun z => bP_0.mp q ⟨z.1, z.2.1⟩), fun q => kX9_in gk (vX9_doAddShelf_25 gk ?_)⟩
  simp (disch := omega) only [forall_eq, exists_eq_left', Option.some.injEq, Prod.mk.injEq, true_and, and_true, hM.ty, hM.r0, hM.t0, sS_r, sS_t, si_sS, sS_sS, sS_s, nA0, nA1, nA2, nA3, nA4, nA5, nA6, nI_clamp, lc0, lc1, lc2, lc3, lc4, lc5, lc6, lc7, lc8, vinT, vi0, vi1, vi2, vi3, vi4, vi5, vi6, vi7, pk_us, pk_un, true_implies, not_true_eq_false, not_false_eq_true, false_implies, i00, i01, i10, i11, Nat.add_zero, ix_sh0, h0]
  refine ⟨fun q2 => hf _ (fun z => bP_0.mp q2 ⟨z.2.2.1, z.2.2.2.1⟩), fun q2 => ?_⟩
  have e1 := bP_n q
  have e2 := bP_n q2
  refine ⟨fun q3 => hg _ ⟨e1.1, e1.2, e2.1, e2.2, Or.inl q3⟩, fun q3 => ⟨fun q4 => hg _ ⟨e1.1, e1.2, e2.1, e2.2, Or.inr (Or.inl q4)⟩, fun q4 => ⟨fun q5 => hf _ (fun z => z.2.2.2.2.elim q3 (fun y => y.elim q4 q5)), fun q5 => hg _ ⟨e1.1, e1.2, e2.1, e2.2, Or.inr (Or.inr q5)⟩⟩⟩⟩
theorem kX9_doListen (gk : GOK G) (hM : MS σ a) {x y : Int32} (hB : shB (mi σ (a + 1))) (h1 : ¬ shP (mi σ (a + 1)) x → K (.inl (some (vI 0))) (th σ a 1)) (hk : ∀ k : Nat, k < 4 → x = nI k → nI k < mi σ (a + 1) 0 → K (.inl (some (vI (mi σ (a + 1) (86 + 187 * k + 3))))) (sS σ (a + 1) (upd (mi σ (a + 1)) (86 + 187 * k + 3) (if y = 0 then 0 else 1)))) : Runs G mX9_doListen rX9_doListen [vR (some a), vI x, vI y] σ K := by
  refine eX9_doListen gk ⟨_, rfl, hM.ty, kX9_isShelf gk hM (vX9_doListen_5 gk ⟨fun q => ⟨_, rfl, hM.ty, ?_⟩, fun q => ⟨_, rfl, hM.ty, kX9_fails gk hM (vX9_doListen_13 gk (h1 (bP_0.mp q)))⟩⟩)⟩
  obtain ⟨k, hk4, rfl, hk0⟩ := shP_k hB (bP_n q)
  have := hk k hk4 rfl hk0
  refine kX9_of (j := 3) gk hM (by omega) (vX9_doListen_20 gk ?_)
  simp (disch := omega) only [forall_eq, exists_eq_left', Option.some.injEq, Prod.mk.injEq, true_and, and_true, hM.ty, hM.r0, hM.t0, sS_r, sS_t, si_sS, sS_sS, sS_s, nA0, nA1, nA2, nA3, nA4, nA5, nA6, nI_clamp, lc0, lc1, lc2, lc3, lc4, lc5, lc6, lc7, lc8, vinT, vi0, vi1, vi2, vi3, vi4, vi5, vi6, vi7, pk_us, pk_un, true_implies, not_true_eq_false, not_false_eq_true, false_implies, i00, i01, i10, i11, Nat.add_zero, ix_sh0]
  refine ⟨fun q => ?_, fun q => ?_⟩
  · rw [if_pos q] at this; exact this
  · rw [if_neg q] at this; exact this
/-- an echo that is heard -/
def htP (P : Nat → Int32) (k l : Nat) : Nat → Int32 := upd (upd (upd (upd (upd P (eX k l + 5) (P (eX k l + 5) + 1)) (eX k l + 4) (P 3)) 3 (P 3 + 1)) 4 (P 4 + 1)) (86 + 187 * k + 4) (P (86 + 187 * k + 4) + 1)
/-- what hearing is -/
noncomputable def ouP (P : Nat → Int32) (k l : Nat) : Int32 := @ite _ (P (eX k l) = 1) (Classical.propDecidable _) (@ite _ (ovP P k l) (Classical.propDecidable _) 101 (if P (eX k l + 6) = 1 then 111 else 104)) 99
theorem ouP_c (P : Nat → Int32) (k l : Nat) : ouP P k l = 104 ∨ ouP P k l = 99 ∨ ouP P k l = 101 ∨ ouP P k l = 111 := by
  unfold ouP
  split
  · split
    · exact Or.inr (Or.inr (Or.inl rfl))
    · split
      · exact Or.inr (Or.inr (Or.inr rfl))
      · exact Or.inl rfl
  · exact Or.inr (Or.inl rfl)
noncomputable def heP (P : Nat → Int32) (k l : Nat) : Nat → Int32 := if ouP P k l = 104 then htP P k l else if ouP P k l = 99 then ftP (upd P 5 (P 5 + 1)) k l else if ouP P k l = 101 then ftP (upd P 6 (P 6 + 1)) k l else ftP (upd P 7 (P 7 + 1)) k l
theorem kX9_doHear (gk : GOK G) (hM : MS σ a) {x y : Int32} (hB : shB (mi σ (a + 1))) (hC : ∀ k : Nat, nI k < mi σ (a + 1) 0 → mi σ (a + 1) (86 + 187 * k) ≠ 0) (h1 : ¬ shP (mi σ (a + 1)) x → K (.inl (some (vI 0))) (th σ a 1)) (h2 : shP (mi σ (a + 1)) x → ¬ jrP (mi σ (a + 1)) y → K (.inl (some (vI 0))) (th σ a 2))
    (hk : ∀ k l : Nat, k < 4 → l < 26 → x = nI k → y = nI (97 + l) → nI k < mi σ (a + 1) 0 → mi σ (a + 1) (8 + 3 * l) = 1 → K (.inl (some (vI (heP (mi σ (a + 1)) k l (eX k l + 1))))) (sS σ (a + 1) (heP (mi σ (a + 1)) k l))) : Runs G mX9_doHear rX9_doHear [vR (some a), vI x, vI y] σ K := by
  refine eX9_doHear gk ⟨_, rfl, hM.ty, kX9_isShelf gk hM (vX9_doHear_5 gk ⟨fun q => ⟨_, rfl, hM.ty, kX9_isJar gk hM (vX9_doHear_19 gk ⟨fun q2 => ⟨_, rfl, hM.ty, ?_⟩, fun q2 => ⟨_, rfl, hM.ty, kX9_fails gk hM (vX9_doHear_27 gk (h2 (bP_n q) (bP_0.mp q2)))⟩⟩)⟩, fun q => ⟨_, rfl, hM.ty, kX9_fails gk hM (vX9_doHear_13 gk (h1 (bP_0.mp q)))⟩⟩)⟩
  obtain ⟨k, hk4, rfl, hk0⟩ := shP_k hB (bP_n q)
  obtain ⟨l, hl, rfl, hp⟩ := bP_n q2
  have he : eX k l = 91 + 187 * k + 7 * l := rfl
  have hk2 := hk k l hk4 hl rfl rfl hk0 hp
  have hend : ∀ z : Int32, At G mX9_doHear rX9_doHear 0 0 155 [some (vR (some a)), some (vI (nI k)), some (vI (nI (97 + l))), some (vI z)] [] (sS σ (a + 1) (heP (mi σ (a + 1)) k l)) K := fun z => by
    refine vX9_doHear_155 gk ⟨_, rfl, hM.ty, kX9_echo gk (vX9_doHear_164 gk ?_)⟩
    simp (disch := omega) only [forall_eq, exists_eq_left', Option.some.injEq, Prod.mk.injEq, true_and, and_true, hM.ty, hM.r0, hM.t0, sS_r, sS_t, si_sS, sS_sS, sS_s, nA0, nA1, nA2, nA3, nA4, nA5, nA6, nI_clamp, lc0, lc1, lc2, lc3, lc4, lc5, lc6, lc7, lc8, vinT, vi0, vi1, vi2, vi3, vi4, vi5, vi6, vi7, pk_us, pk_un, true_implies, not_true_eq_false, not_false_eq_true, false_implies, i00, i01, i10, i11, Nat.add_zero]
    exact hk2
  have hft : ∀ (z : Int32) (c : Nat), c < 8 → 4 < c → heP (mi σ (a + 1)) k l = ftP (upd (mi σ (a + 1)) c (mi σ (a + 1) c + 1)) k l → Runs G mX9_fetches rX9_fetches [vR (some a), vI (nI k), vI (nI (97 + l))] (sS σ (a + 1) (upd (mi σ (a + 1)) c (mi σ (a + 1) c + 1))) (bk G mX9_doHear rX9_doHear 0 0 155 [some (vR (some a)), some (vI (nI k)), some (vI (nI (97 + l))), some (vI z)] [] K) := fun z c hc hc4 e => by
    refine kX9_fetches gk hM.sS hk4 hl ?_ ?_
    · rw [sS_s, pk_un (by omega)]; exact hC k hk0
    · rw [sS_s, sS_sS, ← e]
      exact hend z
  refine kX9_outcome gk hM hk4 hl (vX9_doHear_34 gk ?_)
  rw [show (@ite _ (mi σ (a + 1) (eX k l) = 1) (Classical.propDecidable _) (@ite _ (ovP (mi σ (a + 1)) k l) (Classical.propDecidable _) 101 (if mi σ (a + 1) (eX k l + 6) = 1 then 111 else 104)) 99) = ouP (mi σ (a + 1)) k l from rfl]
  simp (disch := omega) only [forall_eq, exists_eq_left', Option.some.injEq, Prod.mk.injEq, true_and, and_true, hM.ty, hM.r0, hM.t0, sS_r, sS_t, si_sS, sS_sS, sS_s, nA0, nA1, nA2, nA3, nA4, nA5, nA6, nI_clamp, lc0, lc1, lc2, lc3, lc4, lc5, lc6, lc7, lc8, vinT, vi0, vi1, vi2, vi3, vi4, vi5, vi6, vi7, pk_us, pk_un, true_implies, not_true_eq_false, not_false_eq_true, false_implies, i00, i01, i10, i11, Nat.add_zero]
  refine ⟨fun z1 => ⟨fun z2 => ⟨fun z3 => ?_, fun z3 => ?_⟩, fun z2 => ?_⟩, fun z1 => kX9_echo gk (vX9_doHear_50 gk ?_)⟩
  · exact hft _ 7 (by omega) (by omega) (by unfold heP; rw [if_neg z1, if_neg z2, if_neg z3])
  · exact hft _ 6 (by omega) (by omega) (by unfold heP; rw [if_neg z1, if_neg z2, if_pos z3])
  · exact hft _ 5 (by omega) (by omega) (by unfold heP; rw [if_neg z1, if_pos z2])
  · simp (disch := omega) only [forall_eq, exists_eq_left', Option.some.injEq, Prod.mk.injEq, true_and, and_true, hM.ty, hM.r0, hM.t0, sS_r, sS_t, si_sS, sS_sS, sS_s, nA0, nA1, nA2, nA3, nA4, nA5, nA6, nI_clamp, lc0, lc1, lc2, lc3, lc4, lc5, lc6, lc7, lc8, vinT, vi0, vi1, vi2, vi3, vi4, vi5, vi6, vi7, pk_us, pk_un, true_implies, not_true_eq_false, not_false_eq_true, false_implies, i00, i01, i10, i11, Nat.add_zero]
    refine kX9_echo gk (vX9_doHear_66 gk ?_)
    simp (disch := omega) only [forall_eq, exists_eq_left', Option.some.injEq, Prod.mk.injEq, true_and, and_true, hM.ty, hM.r0, hM.t0, sS_r, sS_t, si_sS, sS_sS, sS_s, nA0, nA1, nA2, nA3, nA4, nA5, nA6, nI_clamp, lc0, lc1, lc2, lc3, lc4, lc5, lc6, lc7, lc8, vinT, vi0, vi1, vi2, vi3, vi4, vi5, vi6, vi7, pk_us, pk_un, true_implies, not_true_eq_false, not_false_eq_true, false_implies, i00, i01, i10, i11, Nat.add_zero, ix_sh0]
    have e : heP (mi σ (a + 1)) k l = htP (mi σ (a + 1)) k l := by unfold heP; rw [if_pos z1]
    have := hend (ouP (mi σ (a + 1)) k l)
    rw [e] at this
    exact this
theorem kX9_isWarming (gk : GOK G) (hM : MS σ a) {x : Int32} (hk : K (.inl (some (vI (bP (¬ x < 0 ∧ ¬ mi σ (a + 1) 1 - 1 < x))))) σ) : Runs G mX9_isWarming rX9_isWarming [vR (some a), vI x] σ K := by
  refine eX9_isWarming gk ?_
  simp (disch := omega) only [forall_eq, exists_eq_left', Option.some.injEq, Prod.mk.injEq, true_and, and_true, hM.ty, hM.r0, hM.t0, sS_r, sS_t, si_sS, sS_sS, sS_s, nA0, nA1, nA2, nA3, nA4, nA5, nA6, nI_clamp, lc0, lc1, lc2, lc3, lc4, lc5, lc6, lc7, lc8, vinT, vi0, vi1, vi2, vi3, vi4, vi5, vi6, vi7, pk_us, pk_un, true_implies, not_true_eq_false, not_false_eq_true, false_implies, i00, i01, i10, i11, Nat.add_zero]
  exact kX9_in gk (vX9_isWarming_13 gk ⟨bP_z _, hk⟩)
def waP (P : Nat → Int32) (x : Int32) : Prop := ¬ x < 0 ∧ ¬ P 1 - 1 < x
theorem ix_wa (i : Nat) : (834 : Int32) + (3 : Int32) * nI i = nI (834 + 3 * i) := by
  rw [show (834 : Int32) = nI 834 from rfl, show (3 : Int32) = nI 3 from rfl, pk_mul, nI_add]
theorem waP_n {P : Nat → Int32} {x : Int32} {n : Nat} (hn : n ≤ 8) (h1 : P 1 = nI n) : waP P x ↔ ∃ i : Nat, i < n ∧ x = nI i := by
  unfold waP
  rw [h1]
  constructor
  · intro ⟨q1, q2⟩
    obtain ⟨i, hi, rfl⟩ := nI_of q1
    refine ⟨i, ?_, rfl⟩
    rcases Nat.eq_zero_or_pos n with h | h
    · subst h
      exfalso
      have h4 : nI i ≤ -1 := Int32.not_lt.mp q2
      rw [Int32.le_iff_toInt_le, nI_toInt hi] at h4
      have : ((-1 : Int32)).toInt = -1 := by decide
      omega
    · rw [show nI n - 1 = nI (n - 1) from pk_sub (b := 1) h, nI_ltI (by omega) hi] at q2
      omega
  · intro ⟨i, hi, e⟩
    subst e
    refine ⟨nI_pos (by omega), ?_⟩
    rw [show nI n - 1 = nI (n - 1) from pk_sub (b := 1) (by omega), nI_ltI (by omega) (by omega)]
    omega
/-- the warming at i of n is taken out -/
def cwP (P : Nat → Int32) (i n : Nat) : Nat → Int32 := va_cpy (upd P 1 (nI (n - 1))) (upd P 1 (nI (n - 1))) (834 + 3 * i + 3) (834 + 3 * i) (3 * (n - 1 - i))
theorem kX9_doCancel (gk : GOK G) (hM : MS σ a) {x : Int32} {n : Nat} (hn : n ≤ 8) (h1n : mi σ (a + 1) 1 = nI n) (h1 : ¬ (∃ i : Nat, i < n ∧ x = nI i) → K (.inl (some (vI 0))) (th σ a 1)) (hk : ∀ i : Nat, i < n → x = nI i → K (.inl (some (vI (nI (n - 1))))) (sS σ (a + 1) (cwP (mi σ (a + 1)) i n))) : Runs G mX9_doCancel rX9_doCancel [vR (some a), vI x] σ K := by
  refine eX9_doCancel gk ⟨_, rfl, hM.ty, kX9_isWarming gk hM (vX9_doCancel_5 gk ⟨fun q => ?_, fun q => ⟨_, rfl, hM.ty, kX9_fails gk hM (vX9_doCancel_13 gk (h1 (fun z => bP_0.mp q ((waP_n hn h1n).mpr z))))⟩⟩)⟩
  obtain ⟨i, hi, rfl⟩ := (waP_n hn h1n).mp (bP_n q)
  have e1 : nI n - 1 = nI (n - 1) := pk_sub (b := 1) (by omega)
  have e2 : nI (n - 1) - nI i = nI (n - 1 - i) := pk_sub (by omega)
  have e3 : (3 : Int32) * nI (n - 1 - i) = nI (3 * (n - 1 - i)) := pk_mul 3 _
  simp (disch := omega) only [forall_eq, exists_eq_left', Option.some.injEq, Prod.mk.injEq, true_and, and_true, hM.ty, hM.r0, hM.t0, sS_r, sS_t, si_sS, sS_sS, sS_s, nA0, nA1, nA2, nA3, nA4, nA5, nA6, nI_clamp, lc0, lc1, lc2, lc3, lc4, lc5, lc6, lc7, lc8, vinT, vi0, vi1, vi2, vi3, vi4, vi5, vi6, vi7, pk_us, pk_un, true_implies, not_true_eq_false, not_false_eq_true, false_implies, i00, i01, i10, i11, Nat.add_zero, ix_wa, h1n, e1, e2, e3, cpI_sS]
  have e4 : va_cpy (upd (mi σ (a + 1)) 1 (nI (n - 1))) (upd (mi σ (a + 1)) 1 (nI (n - 1))) (834 + 3 * i + 3) (834 + 3 * i) (3 * (n - 1 - i)) 1 = nI (n - 1) := (pk_cpy_out (by omega)).trans pk_us
  rw [e4]
  exact ⟨⟨⟨nI_pos (by omega), nI_pos (by omega), nI_pos (by omega)⟩, by omega, by omega⟩, hk i hi rfl⟩
def wsP (m : Int32) : Nat → (Nat → Int32) → Nat × (Nat → Int32)
  | 0, Q => (0, Q)
  | i + 1, Q => if Q (834 + 3 * i) ≤ m then (i + 1, Q) else wsP m i (va_cpy Q Q (834 + 3 * i) (834 + 3 * (i + 1)) 3)
def wtP (Q : Nat → Int32) (i : Nat) (m x y : Int32) : Nat → Int32 := upd (upd (upd (upd Q (834 + 3 * i) m) (834 + 3 * i + 1) x) (834 + 3 * i + 2) y) 1 (Q 1 + 1)
theorem kX9_doWarm_79 (gk : GOK G) (hM : MS σ a) {x y z m : Int32} : ∀ (i : Nat) (Q : Nat → Int32), i < 8 → K (.inl (some (vI (nI (wsP m i Q).1)))) (sS σ (a + 1) (wtP (wsP m i Q).2 (wsP m i Q).1 m x y)) → At G mX9_doWarm rX9_doWarm 0 0 79 [some (vR (some a)), some (vI x), some (vI y), some (vI z), some (vI m), some (vI (nI i))] [] (sS σ (a + 1) Q) K
  | 0, Q, hi, hk => by
    refine vX9_doWarm_79 gk ⟨fun _ => ?_, fun q => absurd (by decide) q⟩
    simp (disch := omega) only [forall_eq, exists_eq_left', Option.some.injEq, Prod.mk.injEq, true_and, and_true, hM.ty, hM.r0, hM.t0, sS_r, sS_t, si_sS, sS_sS, sS_s, nA0, nA1, nA2, nA3, nA4, nA5, nA6, nI_clamp, lc0, lc1, lc2, lc3, lc4, lc5, lc6, lc7, lc8, vinT, vi0, vi1, vi2, vi3, vi4, vi5, vi6, vi7, pk_us, pk_un, true_implies, not_true_eq_false, not_false_eq_true, false_implies, i00, i01, i10, i11, Nat.add_zero, ix_wa]
    exact hk
  | i + 1, Q, hi, hk => by
    have e1 : nI (i + 1) - 1 = nI i := nI_pred i
    refine vX9_doWarm_79 gk ⟨fun q => absurd q (nI_nle (by omega) (by omega)), fun _ => ?_⟩
    simp (disch := omega) only [forall_eq, exists_eq_left', Option.some.injEq, Prod.mk.injEq, true_and, and_true, hM.ty, hM.r0, hM.t0, sS_r, sS_t, si_sS, sS_sS, sS_s, nA0, nA1, nA2, nA3, nA4, nA5, nA6, nI_clamp, lc0, lc1, lc2, lc3, lc4, lc5, lc6, lc7, lc8, vinT, vi0, vi1, vi2, vi3, vi4, vi5, vi6, vi7, pk_us, pk_un, true_implies, not_true_eq_false, not_false_eq_true, false_implies, i00, i01, i10, i11, Nat.add_zero, ix_wa, e1, cpI_sS]
    refine ⟨fun q => ?_, fun q => ?_⟩
    · simp only [wsP, q, if_true] at hk
      exact hk
    · simp only [wsP, q, if_false] at hk
      refine ⟨⟨⟨nI_pos (by omega), nI_pos (by omega), by decide⟩, by omega, by omega⟩, ?_⟩
      rw [pk_m1]
      exact kX9_doWarm_79 gk hM i _ (by omega) hk
theorem kX9_doWarm (gk : GOK G) (hM : MS σ a) {x y z : Int32} {n : Nat} (hB : shB (mi σ (a + 1))) (hn : n ≤ 8) (h1n : mi σ (a + 1) 1 = nI n) (h1 : ¬ shP (mi σ (a + 1)) x → K (.inl (some (vI 0))) (th σ a 1)) (h2 : shP (mi σ (a + 1)) x → ¬ jrP (mi σ (a + 1)) y → K (.inl (some (vI 0))) (th σ a 2))
    (h3 : shP (mi σ (a + 1)) x → jrP (mi σ (a + 1)) y → ¬ (¬ z < 1 ∧ ¬ 50 < z) → K (.inl (some (vI 0))) (th σ a 3)) (h4 : shP (mi σ (a + 1)) x → jrP (mi σ (a + 1)) y → ¬ z < 1 → ¬ 50 < z → n = 8 → K (.inl (some (vI 0))) (th σ a 4))
    (hk : ∀ k l : Nat, k < 4 → l < 26 → x = nI k → y = nI (97 + l) → nI k < mi σ (a + 1) 0 → mi σ (a + 1) (8 + 3 * l) = 1 → ¬ z < 1 → ¬ 50 < z → n < 8 → K (.inl (some (vI (nI (wsP (mi σ (a + 1) 2 + z) n (mi σ (a + 1))).1)))) (sS σ (a + 1) (wtP (wsP (mi σ (a + 1) 2 + z) n (mi σ (a + 1))).2 (wsP (mi σ (a + 1) 2 + z) n (mi σ (a + 1))).1 (mi σ (a + 1) 2 + z) x y))) : Runs G mX9_doWarm rX9_doWarm [vR (some a), vI x, vI y, vI z] σ K := by
  refine eX9_doWarm gk ⟨_, rfl, hM.ty, kX9_isShelf gk hM (vX9_doWarm_5 gk ⟨fun q => ⟨_, rfl, hM.ty, kX9_isJar gk hM (vX9_doWarm_19 gk ⟨fun q2 => kX9_in gk (vX9_doWarm_35 gk ⟨fun q3 => ?_, fun q3 => ⟨_, rfl, hM.ty, kX9_fails gk hM (vX9_doWarm_43 gk (h3 (bP_n q) (bP_n q2) (bP_0.mp q3)))⟩⟩), fun q2 => ⟨_, rfl, hM.ty, kX9_fails gk hM (vX9_doWarm_27 gk (h2 (bP_n q) (bP_0.mp q2)))⟩⟩)⟩, fun q => ⟨_, rfl, hM.ty, kX9_fails gk hM (vX9_doWarm_13 gk (h1 (bP_0.mp q)))⟩⟩)⟩
  simp (disch := omega) only [forall_eq, exists_eq_left', Option.some.injEq, Prod.mk.injEq, true_and, and_true, hM.ty, hM.r0, hM.t0, sS_r, sS_t, si_sS, sS_sS, sS_s, nA0, nA1, nA2, nA3, nA4, nA5, nA6, nI_clamp, lc0, lc1, lc2, lc3, lc4, lc5, lc6, lc7, lc8, vinT, vi0, vi1, vi2, vi3, vi4, vi5, vi6, vi7, pk_us, pk_un, true_implies, not_true_eq_false, not_false_eq_true, false_implies, i00, i01, i10, i11, Nat.add_zero, h1n]
  refine ⟨fun q4 => ?_, fun q4 => kX9_fails gk hM (vX9_doWarm_60 gk (h4 (bP_n q) (bP_n q2) (bP_n q3).1 (bP_n q3).2 ((nI_eq (by omega) (by omega)).mp q4)))⟩
  obtain ⟨k, hk4, rfl, hk0⟩ := shP_k hB (bP_n q)
  obtain ⟨l, hl, rfl, hp⟩ := bP_n q2
  have h8 : n < 8 := by
    have : n ≠ 8 := fun e => q4 (by rw [e]; rfl)
    omega
  have := kX9_doWarm_79 gk hM (z := z) n _ h8 (hk k l hk4 hl rfl rfl hk0 hp (bP_n q3).1 (bP_n q3).2 h8)
  rw [sS_id] at this
  exact this
end MI
