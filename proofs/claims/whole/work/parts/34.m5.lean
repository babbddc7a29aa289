/-! ===== the model: what its modifications do ===== -/
theorem upd_same {f : Nat → Int32} {k : Nat} {x : Int32} (h : f k = x) : upd f k x = f := by
  funext j
  unfold upd
  split
  · next q => rw [q, h]
  · rfl
section MH
variable {G : GG} {σ : Mm} {K : RES → Mm → Prop} {a : Nat}
def aJ (P : Nat → Int32) (l : Nat) (w : Int32) : Nat → Int32 := upd (upd (upd (upd P (8 + 3 * l) 1) (8 + 3 * l + 1) w) (8 + 3 * l + 2) (P 3)) 3 (P 3 + 1)
theorem kX9_doAddJar (gk : GOK G) (hM : MS σ a) {x w : Int32} (h1 : ¬ (isL x ∧ ¬ w < 0 ∧ ¬ 99 < w) → K (.inl (some (vI 0))) (th σ a 1)) (h2 : isL x → ¬ w < 0 → ¬ 99 < w → (jrN (mi σ (a + 1)) = 12 ∨ jrP (mi σ (a + 1)) x) → K (.inl (some (vI 0))) (th σ a 2))
    (hk : ∀ l : Nat, l < 26 → x = nI (97 + l) → ¬ w < 0 → ¬ 99 < w → jrN (mi σ (a + 1)) ≠ 12 → ¬ mi σ (a + 1) (8 + 3 * l) = 1 → K (.inl (some (vI (nI (jrN (aJ (mi σ (a + 1)) l w)))))) (sS σ (a + 1) (aJ (mi σ (a + 1)) l w))) : Runs G mX9_doAddJar rX9_doAddJar [vR (some a), vI x, vI w] σ K := by
  have hf1 : ¬ (isL x ∧ ¬ w < 0 ∧ ¬ 99 < w) → Runs G mX9_fails rX9_fails [vR (some a), vI 1] σ (bk G mX9_doAddJar rX9_doAddJar 0 0 22 [some (vR (some a)), some (vI x), some (vI w)] [] K) := fun q => kX9_fails gk hM (vX9_doAddJar_22 gk (h1 q))
  refine eX9_doAddJar gk (kX9_isLetter gk (vX9_doAddJar_4 gk ⟨fun q => ⟨_, rfl, hM.ty, hf1 (fun z => bP_0.mp q z.1)⟩, fun q => kX9_in gk (vX9_doAddJar_14 gk ⟨fun q2 => ⟨_, rfl, hM.ty, kX9_jars gk hM (vX9_doAddJar_27 gk ⟨fun q3 => ⟨_, rfl, hM.ty, kX9_fails gk hM (vX9_doAddJar_45 gk ?_)⟩, fun q3 => ⟨_, rfl, hM.ty, kX9_isJar gk hM (vX9_doAddJar_37 gk ⟨fun q4 => ?_, fun q4 => ⟨_, rfl, hM.ty, kX9_fails gk hM (vX9_doAddJar_45 gk ?_)⟩⟩)⟩⟩)⟩, fun q2 => ⟨_, rfl, hM.ty, hf1 (fun z => bP_0.mp q2 z.2)⟩⟩)⟩))
  · have := cnt_le (fun l => mi σ (a + 1) (8 + 3 * l) = 1) 26
    refine h2 (bP_n q) (bP_n q2).1 (bP_n q2).2 (Or.inl ((nI_eq (by unfold jrN; omega) (by omega)).mp q3))
  · obtain ⟨l, hl, rfl⟩ := bP_n q
    have hnj : ¬ mi σ (a + 1) (8 + 3 * l) = 1 := fun z => bP_0.mp q4 ((jrP_l hl).mpr z)
    have hk2 := hk l hl rfl (bP_n q2).1 (bP_n q2).2 (fun z => q3 (by rw [z]; rfl)) hnj
    refine ⟨_, rfl, hM.ty, kX9_jar gk (vX9_doAddJar_54 gk ?_)⟩
    simp (disch := omega) only [forall_eq, exists_eq_left', Option.some.injEq, Prod.mk.injEq, true_and, and_true, hM.ty, hM.r0, hM.t0, sS_r, sS_t, si_sS, sS_sS, sS_s, nA0, nA1, nA2, nA3, nA4, nA5, nA6, nI_clamp, lc0, lc1, lc2, lc3, lc4, lc5, lc6, lc7, lc8, vinT, vi0, vi1, vi2, vi3, vi4, vi5, vi6, vi7, pk_us, pk_un, true_implies, not_true_eq_false, not_false_eq_true, false_implies, i00, i01, i10, i11, Nat.add_zero]
    refine kX9_jar gk (vX9_doAddJar_64 gk ?_)
    simp (disch := omega) only [forall_eq, exists_eq_left', Option.some.injEq, Prod.mk.injEq, true_and, and_true, hM.ty, hM.r0, hM.t0, sS_r, sS_t, si_sS, sS_sS, sS_s, nA0, nA1, nA2, nA3, nA4, nA5, nA6, nI_clamp, lc0, lc1, lc2, lc3, lc4, lc5, lc6, lc7, lc8, vinT, vi0, vi1, vi2, vi3, vi4, vi5, vi6, vi7, pk_us, pk_un, true_implies, not_true_eq_false, not_false_eq_true, false_implies, i00, i01, i10, i11, Nat.add_zero]
    refine kX9_jar gk (vX9_doAddJar_76 gk ?_)
    simp (disch := omega) only [forall_eq, exists_eq_left', Option.some.injEq, Prod.mk.injEq, true_and, and_true, hM.ty, hM.r0, hM.t0, sS_r, sS_t, si_sS, sS_sS, sS_s, nA0, nA1, nA2, nA3, nA4, nA5, nA6, nI_clamp, lc0, lc1, lc2, lc3, lc4, lc5, lc6, lc7, lc8, vinT, vi0, vi1, vi2, vi3, vi4, vi5, vi6, vi7, pk_us, pk_un, true_implies, not_true_eq_false, not_false_eq_true, false_implies, i00, i01, i10, i11, Nat.add_zero]
    refine kX9_jars gk hM.sS (vX9_doAddJar_99 gk ?_)
    rw [sS_s]
    exact hk2
  · exact h2 (bP_n q) (bP_n q2).1 (bP_n q2).2 (Or.inr (bP_n q4))
def rmP (P : Nat → Int32) (l : Nat) : Nat → Nat → Int32
  | 0 => upd P (8 + 3 * l) 0
  | k + 1 => upd (rmP P l k) (eX k l) 0
def rmC (P : Nat → Int32) (l : Nat) : Nat → Int32
  | 0 => 0
  | k + 1 => rmC P l k + P (eX k l)
theorem rmP_o {P : Nat → Int32} {l : Nat} : ∀ {k j : Nat}, j ≠ 8 + 3 * l → (∀ i, i < k → j ≠ eX i l) → rmP P l k j = P j
  | 0, j, h, _ => pk_un h
  | k + 1, j, h, h2 => (pk_un (h2 k (by omega))).trans (rmP_o h fun i hi => h2 i (by omega))
theorem kX9_doRemoveJar_28 (gk : GOK G) {l n : Nat} (hl : l < 26) (hn : n ≤ 4) {P : Nat → Int32} (h0 : P 0 = nI n) (hk : K (.inl (some (vI (rmC P l n)))) (sS σ (a + 1) (rmP P l n))) (hM : MS σ a) : ∀ (d k : Nat), k + d = n → At G mX9_doRemoveJar rX9_doRemoveJar 0 0 28 [some (vR (some a)), some (vI (nI (97 + l))), some (vI (rmC P l k)), some (vI (nI k))] [] (sS σ (a + 1) (rmP P l k)) K
  | 0, k, h => by
    obtain rfl : k = n := by omega
    refine vX9_doRemoveJar_28 gk ?_
    have e : rmP P l k 0 = nI k := (rmP_o (by omega) (fun i _ => by unfold eX; omega)).trans h0
    simp (disch := omega) only [forall_eq, exists_eq_left', Option.some.injEq, Prod.mk.injEq, true_and, and_true, hM.ty, hM.r0, hM.t0, sS_r, sS_t, si_sS, sS_sS, sS_s, nA0, nA1, nA2, nA3, nA4, nA5, nA6, nI_clamp, lc0, lc1, lc2, lc3, lc4, lc5, lc6, lc7, lc8, vinT, vi0, vi1, vi2, vi3, vi4, vi5, vi6, vi7, pk_us, pk_un, true_implies, not_true_eq_false, not_false_eq_true, false_implies, i00, i01, i10, i11, Nat.add_zero, e]
    exact ⟨fun _ => hk, fun q => absurd (nI_le (Nat.le_refl _) (by omega)) q⟩
  | d + 1, k, h => by
    have ih := kX9_doRemoveJar_28 gk hl hn h0 hk hM d (k + 1) (by omega)
    have e : rmP P l k 0 = nI n := (rmP_o (by omega) (fun i _ => by unfold eX; omega)).trans h0
    have he : eX k l = 91 + 187 * k + 7 * l := rfl
    have e2 : rmP P l k (eX k l) = P (eX k l) := rmP_o (by omega) (fun i _ => by unfold eX; omega)
    refine vX9_doRemoveJar_28 gk ?_
    simp (disch := omega) only [forall_eq, exists_eq_left', Option.some.injEq, Prod.mk.injEq, true_and, and_true, hM.ty, hM.r0, hM.t0, sS_r, sS_t, si_sS, sS_sS, sS_s, nA0, nA1, nA2, nA3, nA4, nA5, nA6, nI_clamp, lc0, lc1, lc2, lc3, lc4, lc5, lc6, lc7, lc8, vinT, vi0, vi1, vi2, vi3, vi4, vi5, vi6, vi7, pk_us, pk_un, true_implies, not_true_eq_false, not_false_eq_true, false_implies, i00, i01, i10, i11, Nat.add_zero, e]
    refine ⟨fun q => absurd q (nI_ge (by omega) (by omega)), fun _ => kX9_echo gk (vX9_doRemoveJar_48 gk ?_)⟩
    simp (disch := omega) only [forall_eq, exists_eq_left', Option.some.injEq, Prod.mk.injEq, true_and, and_true, hM.ty, hM.r0, hM.t0, sS_r, sS_t, si_sS, sS_sS, sS_s, nA0, nA1, nA2, nA3, nA4, nA5, nA6, nI_clamp, lc0, lc1, lc2, lc3, lc4, lc5, lc6, lc7, lc8, vinT, vi0, vi1, vi2, vi3, vi4, vi5, vi6, vi7, pk_us, pk_un, true_implies, not_true_eq_false, not_false_eq_true, false_implies, i00, i01, i10, i11, Nat.add_zero, e2]
    refine kX9_echo gk (vX9_doRemoveJar_60 gk ?_)
    simp (disch := omega) only [forall_eq, exists_eq_left', Option.some.injEq, Prod.mk.injEq, true_and, and_true, hM.ty, hM.r0, hM.t0, sS_r, sS_t, si_sS, sS_sS, sS_s, nA0, nA1, nA2, nA3, nA4, nA5, nA6, nI_clamp, lc0, lc1, lc2, lc3, lc4, lc5, lc6, lc7, lc8, vinT, vi0, vi1, vi2, vi3, vi4, vi5, vi6, vi7, pk_us, pk_un, true_implies, not_true_eq_false, not_false_eq_true, false_implies, i00, i01, i10, i11, Nat.add_zero, e2]
    exact ih
theorem kX9_doRemoveJar (gk : GOK G) (hM : MS σ a) {x : Int32} {n : Nat} (hn : n ≤ 4) (h0 : mi σ (a + 1) 0 = nI n) (h1 : ¬ jrP (mi σ (a + 1)) x → K (.inl (some (vI 0))) (th σ a 1))
    (hk : ∀ l : Nat, l < 26 → x = nI (97 + l) → mi σ (a + 1) (8 + 3 * l) = 1 → K (.inl (some (vI (rmC (mi σ (a + 1)) l n)))) (sS σ (a + 1) (rmP (mi σ (a + 1)) l n))) : Runs G mX9_doRemoveJar rX9_doRemoveJar [vR (some a), vI x] σ K := by
  refine eX9_doRemoveJar gk ⟨_, rfl, hM.ty, kX9_isJar gk hM (vX9_doRemoveJar_5 gk ⟨fun q => ?_, fun q => ⟨_, rfl, hM.ty, kX9_fails gk hM (vX9_doRemoveJar_13 gk (h1 (bP_0.mp q)))⟩⟩)⟩
  obtain ⟨l, hl, rfl, hp⟩ := bP_n q
  refine ⟨_, rfl, hM.ty, kX9_jar gk (vX9_doRemoveJar_24 gk ?_)⟩
  simp (disch := omega) only [forall_eq, exists_eq_left', Option.some.injEq, Prod.mk.injEq, true_and, and_true, hM.ty, hM.r0, hM.t0, sS_r, sS_t, si_sS, sS_sS, sS_s, nA0, nA1, nA2, nA3, nA4, nA5, nA6, nI_clamp, lc0, lc1, lc2, lc3, lc4, lc5, lc6, lc7, lc8, vinT, vi0, vi1, vi2, vi3, vi4, vi5, vi6, vi7, pk_us, pk_un, true_implies, not_true_eq_false, not_false_eq_true, false_implies, i00, i01, i10, i11, Nat.add_zero]
  exact kX9_doRemoveJar_28 gk hl hn h0 (hk l hl rfl hp) hM n 0 (by omega)
def syI (P : Nat → Int32) (l k : Nat) : Prop := P (86 + 187 * k + 3) = 1 ∧ P (eX k l) = 1 ∧ P (eX k l + 6) = 0
def sy0 (P : Nat → Int32) (l : Nat) (w : Int32) : Nat → Int32 := upd (upd (upd P (8 + 3 * l + 1) w) (8 + 3 * l + 2) (P 3)) 3 (P 3 + 1)
noncomputable def syP (P : Nat → Int32) (l : Nat) (w : Int32) : Nat → Nat → Int32
  | 0 => sy0 P l w
  | k + 1 => @ite _ (syI P l k) (Classical.propDecidable _) (upd (syP P l w k) (eX k l + 6) 1) (syP P l w k)
theorem syP_o {P : Nat → Int32} {l : Nat} {w : Int32} : ∀ {k j : Nat}, j ≠ 8 + 3 * l + 1 → j ≠ 8 + 3 * l + 2 → j ≠ 3 → (∀ i, i < k → j ≠ eX i l + 6) → syP P l w k j = P j
  | 0, j, h1, h2, h3, _ => by unfold syP sy0; rw [pk_un h3, pk_un h2, pk_un h1]
  | k + 1, j, h1, h2, h3, h4 => by
    have ih := syP_o (P := P) (l := l) (w := w) (k := k) h1 h2 h3 fun i hi => h4 i (by omega)
    by_cases q : syI P l k
    · simp only [syP, q, if_true]
      rw [pk_un (h4 k (by omega))]
      exact ih
    · simp only [syP, q, if_false]
      exact ih
theorem kX9_doSay_74 (gk : GOK G) {l n : Nat} {w : Int32} (hl : l < 26) (hn : n ≤ 4) {P : Nat → Int32} (h0 : P 0 = nI n) (hk : K (.inl (some (vI (nI (cnt (syI P l) n))))) (sS σ (a + 1) (syP P l w n))) (hM : MS σ a) : ∀ (d k : Nat), k + d = n → At G mX9_doSay rX9_doSay 0 0 74 [some (vR (some a)), some (vI (nI (97 + l))), some (vI w), some (vI (nI (cnt (syI P l) k))), some (vI (nI k)), none, none] [] (sS σ (a + 1) (syP P l w k)) K
  | 0, k, h => by
    obtain rfl : k = n := by omega
    refine vX9_doSay_74 gk ?_
    have e : syP P l w k 0 = nI k := (syP_o (by omega) (by omega) (by omega) (fun i _ => by unfold eX; omega)).trans h0
    simp (disch := omega) only [forall_eq, exists_eq_left', Option.some.injEq, Prod.mk.injEq, true_and, and_true, hM.ty, hM.r0, hM.t0, sS_r, sS_t, si_sS, sS_sS, sS_s, nA0, nA1, nA2, nA3, nA4, nA5, nA6, nI_clamp, lc0, lc1, lc2, lc3, lc4, lc5, lc6, lc7, lc8, vinT, vi0, vi1, vi2, vi3, vi4, vi5, vi6, vi7, pk_us, pk_un, true_implies, not_true_eq_false, not_false_eq_true, false_implies, i00, i01, i10, i11, Nat.add_zero, e]
    exact ⟨fun _ => hk, fun q => absurd (nI_le (Nat.le_refl _) (by omega)) q⟩
  | d + 1, k, h => by
    have ih := kX9_doSay_74 gk hl hn h0 hk hM d (k + 1) (by omega)
    have he : eX k l = 91 + 187 * k + 7 * l := rfl
    have e : syP P l w k 0 = nI n := (syP_o (by omega) (by omega) (by omega) (fun i _ => by unfold eX; omega)).trans h0
    have e1 : syP P l w k (86 + 187 * k + 3) = P (86 + 187 * k + 3) := syP_o (by omega) (by omega) (by omega) (fun i _ => by unfold eX; omega)
    have e2 : syP P l w k (eX k l) = P (eX k l) := syP_o (by omega) (by omega) (by omega) (fun i _ => by unfold eX; omega)
    have e3 : syP P l w k (eX k l + 6) = P (eX k l + 6) := syP_o (by omega) (by omega) (by omega) (fun i _ => by unfold eX; omega)
    have c1 : ¬ syI P l k → At G mX9_doSay rX9_doSay 0 0 74 [some (vR (some a)), some (vI (nI (97 + l))), some (vI w), some (vI (nI (cnt (syI P l) k))), some (vI (nI (k + 1))), none, none] [] (sS σ (a + 1) (upd (syP P l w k) (eX k l + 6) (P (eX k l + 6)))) K := fun q => by
      rw [upd_same e3]
      rw [cnt_f q] at ih
      simp only [syP, q, if_false] at ih
      exact ih
    have c2 : syI P l k → At G mX9_doSay rX9_doSay 0 0 74 [some (vR (some a)), some (vI (nI (97 + l))), some (vI w), some (vI (nI (cnt (syI P l) k + 1))), some (vI (nI (k + 1))), none, none] [] (sS σ (a + 1) (upd (syP P l w k) (eX k l + 6) 1)) K := fun q => by
      rw [cnt_t q] at ih
      simp only [syP, q, if_true] at ih
      exact ih
    refine vX9_doSay_74 gk ?_
    simp (disch := omega) only [forall_eq, exists_eq_left', Option.some.injEq, Prod.mk.injEq, true_and, and_true, hM.ty, hM.r0, hM.t0, sS_r, sS_t, si_sS, sS_sS, sS_s, nA0, nA1, nA2, nA3, nA4, nA5, nA6, nI_clamp, lc0, lc1, lc2, lc3, lc4, lc5, lc6, lc7, lc8, vinT, vi0, vi1, vi2, vi3, vi4, vi5, vi6, vi7, pk_us, pk_un, true_implies, not_true_eq_false, not_false_eq_true, false_implies, i00, i01, i10, i11, Nat.add_zero, e]
    refine ⟨fun q => absurd q (nI_ge (by omega) (by omega)), fun _ => kX9_echo gk (vX9_doSay_91 gk ⟨_, rfl, hM.ty, kX9_of (j := 3) gk hM.sS (by omega) (vX9_doSay_100 gk ?_)⟩)⟩
    simp (disch := omega) only [forall_eq, exists_eq_left', Option.some.injEq, Prod.mk.injEq, true_and, and_true, hM.ty, hM.r0, hM.t0, sS_r, sS_t, si_sS, sS_sS, sS_s, nA0, nA1, nA2, nA3, nA4, nA5, nA6, nI_clamp, lc0, lc1, lc2, lc3, lc4, lc5, lc6, lc7, lc8, vinT, vi0, vi1, vi2, vi3, vi4, vi5, vi6, vi7, pk_us, pk_un, true_implies, not_true_eq_false, not_false_eq_true, false_implies, i00, i01, i10, i11, Nat.add_zero, e1, e2, e3]
    exact ⟨fun q => c1 (fun z => q z.1), fun q => ⟨fun q2 => c1 (fun z => q2 z.2.1), fun q2 => ⟨fun q3 => c1 (fun z => q3 z.2.2), fun q3 => c2 ⟨q, q2, q3⟩⟩⟩⟩
theorem kX9_doSay (gk : GOK G) (hM : MS σ a) {x w : Int32} {n : Nat} (hn : n ≤ 4) (h0 : mi σ (a + 1) 0 = nI n) (h1 : ¬ jrP (mi σ (a + 1)) x → K (.inl (some (vI 0))) (th σ a 1)) (h2 : jrP (mi σ (a + 1)) x → ¬ (¬ w < 0 ∧ ¬ 99 < w) → K (.inl (some (vI 0))) (th σ a 2))
    (hk : ∀ l : Nat, l < 26 → x = nI (97 + l) → mi σ (a + 1) (8 + 3 * l) = 1 → ¬ w < 0 → ¬ 99 < w → K (.inl (some (vI (nI (cnt (syI (mi σ (a + 1)) l) n))))) (sS σ (a + 1) (syP (mi σ (a + 1)) l w n))) : Runs G mX9_doSay rX9_doSay [vR (some a), vI x, vI w] σ K := by
  refine eX9_doSay gk ⟨_, rfl, hM.ty, kX9_isJar gk hM (vX9_doSay_5 gk ⟨fun q => kX9_in gk (vX9_doSay_21 gk ⟨fun q2 => ?_, fun q2 => ⟨_, rfl, hM.ty, kX9_fails gk hM (vX9_doSay_29 gk (h2 (bP_n q) (bP_0.mp q2)))⟩⟩), fun q => ⟨_, rfl, hM.ty, kX9_fails gk hM (vX9_doSay_13 gk (h1 (bP_0.mp q)))⟩⟩)⟩
  obtain ⟨l, hl, rfl, hp⟩ := bP_n q
  refine ⟨_, rfl, hM.ty, kX9_jar gk (vX9_doSay_40 gk ?_)⟩
  simp (disch := omega) only [forall_eq, exists_eq_left', Option.some.injEq, Prod.mk.injEq, true_and, and_true, hM.ty, hM.r0, hM.t0, sS_r, sS_t, si_sS, sS_sS, sS_s, nA0, nA1, nA2, nA3, nA4, nA5, nA6, nI_clamp, lc0, lc1, lc2, lc3, lc4, lc5, lc6, lc7, lc8, vinT, vi0, vi1, vi2, vi3, vi4, vi5, vi6, vi7, pk_us, pk_un, true_implies, not_true_eq_false, not_false_eq_true, false_implies, i00, i01, i10, i11, Nat.add_zero]
  refine kX9_jar gk (vX9_doSay_52 gk ?_)
  simp (disch := omega) only [forall_eq, exists_eq_left', Option.some.injEq, Prod.mk.injEq, true_and, and_true, hM.ty, hM.r0, hM.t0, sS_r, sS_t, si_sS, sS_sS, sS_s, nA0, nA1, nA2, nA3, nA4, nA5, nA6, nI_clamp, lc0, lc1, lc2, lc3, lc4, lc5, lc6, lc7, lc8, vinT, vi0, vi1, vi2, vi3, vi4, vi5, vi6, vi7, pk_us, pk_un, true_implies, not_true_eq_false, not_false_eq_true, false_implies, i00, i01, i10, i11, Nat.add_zero]
  exact kX9_doSay_74 gk hl hn h0 (hk l hl rfl hp (bP_n q2).1 (bP_n q2).2) hM n 0 (by omega)
end MH
