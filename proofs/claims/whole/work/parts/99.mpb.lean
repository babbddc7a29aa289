/-! ===== the model's modifications ===== -/
section MPB
variable {G : GG} {σ : Mm} {K : RES → Mm → Prop} {a : Nat} {A : AS}
theorem endF (gk : GOK G) (hM : MS σ a) {t x : Int32} (ht : ¬ t ≤ 0) (hk : K (.inl (some (vI 0))) (mF σ a t)) : Runs G mX9_ends rX9_ends [vR (some a), vI x] (th (kp σ a) a t) K := by
  have e : kp σ a = sS (kp σ a) (a + 1) (mi σ (a + 1)) := by
    have : mi (kp σ a) (a + 1) = mi σ (a + 1) := kp_1
    rw [← this]; exact sS_id.symm
  rw [e]
  exact kX9_endsF gk hM ht (by rw [mF2_id]; exact hk)
theorem m_addJar (gk : GOK G) (hV : MIV σ a A) {x w : Int32} (h1 : ¬ (isL x ∧ ¬ w < 0 ∧ ¬ 99 < w) → ∀ σ', MIV σ' a A → Fb σ σ' a (a + 8) → mi σ' a 6 = 1 → K (.inl (some (vI 0))) σ') (h2 : isL x → ¬ w < 0 → ¬ 99 < w → (jrN (aP A) = 12 ∨ jrP (aP A) x) → ∀ σ', MIV σ' a A → Fb σ σ' a (a + 8) → mi σ' a 6 = 2 → K (.inl (some (vI 0))) σ') (hk : ∀ l : Nat, l < 26 → x = nI (97 + l) → ¬ w < 0 → ¬ 99 < w → jrN (aP A) ≠ 12 → ¬ aP A (8 + 3 * l) = 1 → ∀ σ', MIV σ' a (Am A (aJ (aP A) l w)) → Fb σ σ' a (a + 8) → mi σ' a 6 = 0 → K (.inl (some (vI (nI (jrN (aJ (aP A) l w)))))) σ') : Runs G mX9_addJar rX9_addJar [vR (some a), vI x, vI w] σ K := by
  have hM := hV.1
  have hj := hV.2.2.1.1
  have hn := hV.2.2.1.2.1
  have e1 : mi (kp σ a) (a + 1) = aP A := kp_1.trans hV.2.1
  refine eX9_addJar gk ⟨_, rfl, hM.ty, kX9_keep gk hM (vX9_addJar_4 gk ⟨_, rfl, hM.kp.ty, ?_⟩)⟩
  refine kX9_doAddJar gk hM.kp ?_ ?_ ?_
  · exact fun q => vX9_addJar_11 gk ⟨_, rfl, hM.kp.th.ty, endF gk hM (by decide) (vX9_addJar_14 gk (h1 q _ (mv_mF hV 1).1 (mv_mF hV 1).2.1 (mv_mF hV 1).2.2))⟩
  · rw [e1]; exact fun q1 q2 q3 q4 => vX9_addJar_11 gk ⟨_, rfl, hM.kp.th.ty, endF gk hM (by decide) (vX9_addJar_14 gk (h2 q1 q2 q3 q4 _ (mv_mF hV 2).1 (mv_mF hV 2).2.1 (mv_mF hV 2).2.2))⟩
  · rw [e1]; exact fun l hl q1 q2 q3 q4 q5 => vX9_addJar_11 gk ⟨_, rfl, hM.kp.sS.ty, kX9_endsK gk hM hj hn (vX9_addJar_14 gk (hk l hl q1 q2 q3 q4 q5 _ (mv_mK hV _).1 (mv_mK hV _).2.1 (mv_mK hV _).2.2))⟩
theorem m_removeJar (gk : GOK G) (hV : MIV σ a A) {x : Int32} {n : Nat} (hn4 : n ≤ 4) (h0 : aP A 0 = nI n) (h1 : ¬ jrP (aP A) x → ∀ σ', MIV σ' a A → Fb σ σ' a (a + 8) → mi σ' a 6 = 1 → K (.inl (some (vI 0))) σ') (hk : ∀ l : Nat, l < 26 → x = nI (97 + l) → aP A (8 + 3 * l) = 1 → ∀ σ', MIV σ' a (Am A (rmP (aP A) l n)) → Fb σ σ' a (a + 8) → mi σ' a 6 = 0 → K (.inl (some (vI (rmC (aP A) l n)))) σ') : Runs G mX9_removeJar rX9_removeJar [vR (some a), vI x] σ K := by
  have hM := hV.1
  have hj := hV.2.2.1.1
  have hn := hV.2.2.1.2.1
  have e1 : mi (kp σ a) (a + 1) = aP A := kp_1.trans hV.2.1
  refine eX9_removeJar gk ⟨_, rfl, hM.ty, kX9_keep gk hM (vX9_removeJar_4 gk ⟨_, rfl, hM.kp.ty, ?_⟩)⟩
  refine kX9_doRemoveJar gk hM.kp hn4 (by rw [e1]; exact h0) ?_ ?_
  · rw [e1]; exact fun q => vX9_removeJar_10 gk ⟨_, rfl, hM.kp.th.ty, endF gk hM (by decide) (vX9_removeJar_13 gk (h1 q _ (mv_mF hV 1).1 (mv_mF hV 1).2.1 (mv_mF hV 1).2.2))⟩
  · rw [e1]; exact fun l hl q1 q2 => vX9_removeJar_10 gk ⟨_, rfl, hM.kp.sS.ty, kX9_endsK gk hM hj hn (vX9_removeJar_13 gk (hk l hl q1 q2 _ (mv_mK hV _).1 (mv_mK hV _).2.1 (mv_mK hV _).2.2))⟩
theorem m_say (gk : GOK G) (hV : MIV σ a A) {x w : Int32} {n : Nat} (hn4 : n ≤ 4) (h0 : aP A 0 = nI n) (h1 : ¬ jrP (aP A) x → ∀ σ', MIV σ' a A → Fb σ σ' a (a + 8) → mi σ' a 6 = 1 → K (.inl (some (vI 0))) σ') (h2 : jrP (aP A) x → ¬ (¬ w < 0 ∧ ¬ 99 < w) → ∀ σ', MIV σ' a A → Fb σ σ' a (a + 8) → mi σ' a 6 = 2 → K (.inl (some (vI 0))) σ') (hk : ∀ l : Nat, l < 26 → x = nI (97 + l) → aP A (8 + 3 * l) = 1 → ¬ w < 0 → ¬ 99 < w → ∀ σ', MIV σ' a (Am A (syP (aP A) l w n)) → Fb σ σ' a (a + 8) → mi σ' a 6 = 0 → K (.inl (some (vI (nI (cnt (syI (aP A) l) n))))) σ') : Runs G mX9_say rX9_say [vR (some a), vI x, vI w] σ K := by
  have hM := hV.1
  have hj := hV.2.2.1.1
  have hn := hV.2.2.1.2.1
  have e1 : mi (kp σ a) (a + 1) = aP A := kp_1.trans hV.2.1
  refine eX9_say gk ⟨_, rfl, hM.ty, kX9_keep gk hM (vX9_say_4 gk ⟨_, rfl, hM.kp.ty, ?_⟩)⟩
  refine kX9_doSay gk hM.kp hn4 (by rw [e1]; exact h0) ?_ ?_ ?_
  · rw [e1]; exact fun q => vX9_say_11 gk ⟨_, rfl, hM.kp.th.ty, endF gk hM (by decide) (vX9_say_14 gk (h1 q _ (mv_mF hV 1).1 (mv_mF hV 1).2.1 (mv_mF hV 1).2.2))⟩
  · rw [e1]; exact fun q1 q2 => vX9_say_11 gk ⟨_, rfl, hM.kp.th.ty, endF gk hM (by decide) (vX9_say_14 gk (h2 q1 q2 _ (mv_mF hV 2).1 (mv_mF hV 2).2.1 (mv_mF hV 2).2.2))⟩
  · rw [e1]; exact fun l hl q1 q2 q3 q4 => vX9_say_11 gk ⟨_, rfl, hM.kp.sS.ty, kX9_endsK gk hM hj hn (vX9_say_14 gk (hk l hl q1 q2 q3 q4 _ (mv_mK hV _).1 (mv_mK hV _).2.1 (mv_mK hV _).2.2))⟩
theorem m_addShelf (gk : GOK G) (hV : MIV σ a A) {c f p : Int32} {n : Nat} (hn4 : n ≤ 4) (h0 : aP A 0 = nI n) (h1 : ¬ (¬ c < 1 ∧ ¬ 6 < c ∧ ¬ f < 1 ∧ ¬ 30 < f ∧ plP p) → ∀ σ', MIV σ' a A → Fb σ σ' a (a + 8) → mi σ' a 6 = 1 → K (.inl (some (vI 0))) σ') (h2 : ¬ c < 1 ∧ ¬ 6 < c ∧ ¬ f < 1 ∧ ¬ 30 < f ∧ plP p → n = 4 → ∀ σ', MIV σ' a A → Fb σ σ' a (a + 8) → mi σ' a 6 = 2 → K (.inl (some (vI 0))) σ') (hk : ¬ c < 1 ∧ ¬ 6 < c ∧ ¬ f < 1 ∧ ¬ 30 < f ∧ plP p → n < 4 → ∀ σ', MIV σ' a (Am A (aS (aP A) n c f p)) → Fb σ σ' a (a + 8) → mi σ' a 6 = 0 → K (.inl (some (vI (nI n)))) σ') : Runs G mX9_addShelf rX9_addShelf [vR (some a), vI c, vI f, vI p] σ K := by
  have hM := hV.1
  have hj := hV.2.2.1.1
  have hn := hV.2.2.1.2.1
  have e1 : mi (kp σ a) (a + 1) = aP A := kp_1.trans hV.2.1
  refine eX9_addShelf gk ⟨_, rfl, hM.ty, kX9_keep gk hM (vX9_addShelf_4 gk ⟨_, rfl, hM.kp.ty, ?_⟩)⟩
  refine kX9_doAddShelf gk hM.kp hn4 (by rw [e1]; exact h0) ?_ ?_ ?_
  · exact fun q => vX9_addShelf_12 gk ⟨_, rfl, hM.kp.th.ty, endF gk hM (by decide) (vX9_addShelf_15 gk (h1 q _ (mv_mF hV 1).1 (mv_mF hV 1).2.1 (mv_mF hV 1).2.2))⟩
  · exact fun q1 q2 => vX9_addShelf_12 gk ⟨_, rfl, hM.kp.th.ty, endF gk hM (by decide) (vX9_addShelf_15 gk (h2 q1 q2 _ (mv_mF hV 2).1 (mv_mF hV 2).2.1 (mv_mF hV 2).2.2))⟩
  · rw [e1]; exact fun q1 q2 => vX9_addShelf_12 gk ⟨_, rfl, hM.kp.sS.ty, kX9_endsK gk hM hj hn (vX9_addShelf_15 gk (hk q1 q2 _ (mv_mK hV _).1 (mv_mK hV _).2.1 (mv_mK hV _).2.2))⟩
theorem m_hear (gk : GOK G) (hV : MIV σ a A) {x y : Int32} (hP : PG (aP A)) (h1 : ¬ shP (aP A) x → ∀ σ', MIV σ' a A → Fb σ σ' a (a + 8) → mi σ' a 6 = 1 → K (.inl (some (vI 0))) σ') (h2 : shP (aP A) x → ¬ jrP (aP A) y → ∀ σ', MIV σ' a A → Fb σ σ' a (a + 8) → mi σ' a 6 = 2 → K (.inl (some (vI 0))) σ') (hk : ∀ k l : Nat, k < 4 → l < 26 → x = nI k → y = nI (97 + l) → nI k < aP A 0 → aP A (8 + 3 * l) = 1 → ∀ σ', MIV σ' a (Am A (heP (aP A) k l)) → Fb σ σ' a (a + 8) → mi σ' a 6 = 0 → K (.inl (some (vI (heP (aP A) k l (eX k l + 1))))) σ') : Runs G mX9_hear rX9_hear [vR (some a), vI x, vI y] σ K := by
  have hM := hV.1
  have hj := hV.2.2.1.1
  have hn := hV.2.2.1.2.1
  have e1 : mi (kp σ a) (a + 1) = aP A := kp_1.trans hV.2.1
  refine eX9_hear gk ⟨_, rfl, hM.ty, kX9_keep gk hM (vX9_hear_4 gk ⟨_, rfl, hM.kp.ty, ?_⟩)⟩
  refine kX9_doHear2 gk hM.kp (by rw [e1]; exact hP.shB) (by rw [e1]; exact hP.cap) ?_ ?_ ?_
  · rw [e1]; exact fun q => vX9_hear_11 gk ⟨_, rfl, hM.kp.th.ty, endF gk hM (by decide) (vX9_hear_14 gk (h1 q _ (mv_mF hV 1).1 (mv_mF hV 1).2.1 (mv_mF hV 1).2.2))⟩
  · rw [e1]; exact fun q1 q2 => vX9_hear_11 gk ⟨_, rfl, hM.kp.th.ty, endF gk hM (by decide) (vX9_hear_14 gk (h2 q1 q2 _ (mv_mF hV 2).1 (mv_mF hV 2).2.1 (mv_mF hV 2).2.2))⟩
  · rw [e1]; exact fun k l q0 hl q1 q2 q3 q4 => vX9_hear_11 gk ⟨_, rfl, hM.kp.sS.ty, kX9_endsK gk hM hj hn (vX9_hear_14 gk (hk k l q0 hl q1 q2 q3 q4 _ (mv_mK hV _).1 (mv_mK hV _).2.1 (mv_mK hV _).2.2))⟩
theorem m_warm (gk : GOK G) (hV : MIV σ a A) {x y z : Int32} (hP : PG (aP A)) {n : Nat} (hn8 : n ≤ 8) (h0 : aP A 1 = nI n) (h1 : ¬ shP (aP A) x → ∀ σ', MIV σ' a A → Fb σ σ' a (a + 8) → mi σ' a 6 = 1 → K (.inl (some (vI 0))) σ') (h2 : shP (aP A) x → ¬ jrP (aP A) y → ∀ σ', MIV σ' a A → Fb σ σ' a (a + 8) → mi σ' a 6 = 2 → K (.inl (some (vI 0))) σ') (h3 : shP (aP A) x → jrP (aP A) y → ¬ (¬ z < 1 ∧ ¬ 50 < z) → ∀ σ', MIV σ' a A → Fb σ σ' a (a + 8) → mi σ' a 6 = 3 → K (.inl (some (vI 0))) σ') (h4 : shP (aP A) x → jrP (aP A) y → ¬ z < 1 → ¬ 50 < z → n = 8 → ∀ σ', MIV σ' a A → Fb σ σ' a (a + 8) → mi σ' a 6 = 4 → K (.inl (some (vI 0))) σ') (hk : ∀ k l : Nat, k < 4 → l < 26 → x = nI k → y = nI (97 + l) → nI k < aP A 0 → aP A (8 + 3 * l) = 1 → ¬ z < 1 → ¬ 50 < z → n < 8 → ∀ σ', MIV σ' a (Am A (wtP (wsP (aP A 2 + z) n (aP A)).2 (wsP (aP A 2 + z) n (aP A)).1 (aP A 2 + z) x y)) → Fb σ σ' a (a + 8) → mi σ' a 6 = 0 → K (.inl (some (vI (nI (wsP (aP A 2 + z) n (aP A)).1)))) σ') : Runs G mX9_warm rX9_warm [vR (some a), vI x, vI y, vI z] σ K := by
  have hM := hV.1
  have hj := hV.2.2.1.1
  have hn := hV.2.2.1.2.1
  have e1 : mi (kp σ a) (a + 1) = aP A := kp_1.trans hV.2.1
  refine eX9_warm gk ⟨_, rfl, hM.ty, kX9_keep gk hM (vX9_warm_4 gk ⟨_, rfl, hM.kp.ty, ?_⟩)⟩
  refine kX9_doWarm gk hM.kp (by rw [e1]; exact hP.shB) hn8 (by rw [e1]; exact h0) ?_ ?_ ?_ ?_ ?_
  · rw [e1]; exact fun q => vX9_warm_12 gk ⟨_, rfl, hM.kp.th.ty, endF gk hM (by decide) (vX9_warm_15 gk (h1 q _ (mv_mF hV 1).1 (mv_mF hV 1).2.1 (mv_mF hV 1).2.2))⟩
  · rw [e1]; exact fun q1 q2 => vX9_warm_12 gk ⟨_, rfl, hM.kp.th.ty, endF gk hM (by decide) (vX9_warm_15 gk (h2 q1 q2 _ (mv_mF hV 2).1 (mv_mF hV 2).2.1 (mv_mF hV 2).2.2))⟩
  · rw [e1]; exact fun q1 q2 q3 => vX9_warm_12 gk ⟨_, rfl, hM.kp.th.ty, endF gk hM (by decide) (vX9_warm_15 gk (h3 q1 q2 q3 _ (mv_mF hV 3).1 (mv_mF hV 3).2.1 (mv_mF hV 3).2.2))⟩
  · rw [e1]; exact fun q1 q2 q3 q4 q5 => vX9_warm_12 gk ⟨_, rfl, hM.kp.th.ty, endF gk hM (by decide) (vX9_warm_15 gk (h4 q1 q2 q3 q4 q5 _ (mv_mF hV 4).1 (mv_mF hV 4).2.1 (mv_mF hV 4).2.2))⟩
  · rw [e1]; exact fun k l q0 hl q1 q2 q3 q4 q5 q6 q7 => vX9_warm_12 gk ⟨_, rfl, hM.kp.sS.ty, kX9_endsK gk hM hj hn (vX9_warm_15 gk (hk k l q0 hl q1 q2 q3 q4 q5 q6 q7 _ (mv_mK hV _).1 (mv_mK hV _).2.1 (mv_mK hV _).2.2))⟩
theorem m_cancelWarming (gk : GOK G) (hV : MIV σ a A) {x : Int32} {n : Nat} (hn8 : n ≤ 8) (h0 : aP A 1 = nI n) (h1 : ¬ (∃ i : Nat, i < n ∧ x = nI i) → ∀ σ', MIV σ' a A → Fb σ σ' a (a + 8) → mi σ' a 6 = 1 → K (.inl (some (vI 0))) σ') (hk : ∀ i : Nat, i < n → x = nI i → ∀ σ', MIV σ' a (Am A (cwP (aP A) i n)) → Fb σ σ' a (a + 8) → mi σ' a 6 = 0 → K (.inl (some (vI (nI (n - 1))))) σ') : Runs G mX9_cancelWarming rX9_cancelWarming [vR (some a), vI x] σ K := by
  have hM := hV.1
  have hj := hV.2.2.1.1
  have hn := hV.2.2.1.2.1
  have e1 : mi (kp σ a) (a + 1) = aP A := kp_1.trans hV.2.1
  refine eX9_cancelWarming gk ⟨_, rfl, hM.ty, kX9_keep gk hM (vX9_cancelWarming_4 gk ⟨_, rfl, hM.kp.ty, ?_⟩)⟩
  refine kX9_doCancel gk hM.kp hn8 (by rw [e1]; exact h0) ?_ ?_
  · exact fun q => vX9_cancelWarming_10 gk ⟨_, rfl, hM.kp.th.ty, endF gk hM (by decide) (vX9_cancelWarming_13 gk (h1 q _ (mv_mF hV 1).1 (mv_mF hV 1).2.1 (mv_mF hV 1).2.2))⟩
  · rw [e1]; exact fun i q0 q1 => vX9_cancelWarming_10 gk ⟨_, rfl, hM.kp.sS.ty, kX9_endsK gk hM hj hn (vX9_cancelWarming_13 gk (hk i q0 q1 _ (mv_mK hV _).1 (mv_mK hV _).2.1 (mv_mK hV _).2.2))⟩
theorem m_pass (gk : GOK G) (hV : MIV σ a A) {x : Int32} (hP : PG (aP A)) (h1 : ¬ (¬ x < 1 ∧ ¬ 60 < x) → ∀ σ', MIV σ' a A → Fb σ σ' a (a + 8) → mi σ' a 6 = 1 → K (.inl (some (vI 0))) σ') (hk : ∀ m : Nat, m ≤ 60 → x = nI m → 0 < m → ∀ σ', MIV σ' a (Am A ((pP (aP A) m).1)) → Fb σ σ' a (a + 8) → mi σ' a 6 = 0 → K (.inl (some (vI (nI (pP (aP A) m).2)))) σ') : Runs G mX9_pass rX9_pass [vR (some a), vI x] σ K := by
  have hM := hV.1
  have hj := hV.2.2.1.1
  have hn := hV.2.2.1.2.1
  have e1 : mi (kp σ a) (a + 1) = aP A := kp_1.trans hV.2.1
  refine eX9_pass gk ⟨_, rfl, hM.ty, kX9_keep gk hM (vX9_pass_4 gk ⟨_, rfl, hM.kp.ty, ?_⟩)⟩
  refine kX9_doPass gk hM.kp (by rw [e1]; exact Classical.choose_spec hP.wok) ?_ ?_
  · exact fun q => vX9_pass_10 gk ⟨_, rfl, hM.kp.th.ty, endF gk hM (by decide) (vX9_pass_13 gk (h1 q _ (mv_mF hV 1).1 (mv_mF hV 1).2.1 (mv_mF hV 1).2.2))⟩
  · rw [e1]; exact fun m q0 q1 q2 => vX9_pass_10 gk ⟨_, rfl, hM.kp.sS.ty, kX9_endsK gk hM hj hn (vX9_pass_13 gk (hk m q0 q1 q2 _ (mv_mK hV _).1 (mv_mK hV _).2.1 (mv_mK hV _).2.2))⟩
theorem m_setListening (gk : GOK G) (hV : MIV σ a A) {x y : Int32} (hy : isZ y) (hP : PG (aP A)) (h1 : ¬ shP (aP A) x → ∀ σ', MIV σ' a A → Fb σ σ' a (a + 8) → mi σ' a 6 = 1 → ∀ z : Int32, K (.inl (some (vI z))) σ') (hk : ∀ k : Nat, k < 4 → x = nI k → nI k < aP A 0 → isZ (aP A (86 + 187 * k + 3)) → ∀ σ', MIV σ' a (Am A (upd (aP A) (86 + 187 * k + 3) y)) → Fb σ σ' a (a + 8) → mi σ' a 6 = 0 → K (.inl (some (vI (aP A (86 + 187 * k + 3))))) σ') : Runs G mX9_setListening rX9_setListening [vR (some a), vI x, vI y] σ K := by
  have hM := hV.1
  have hj := hV.2.2.1.1
  have hn := hV.2.2.1.2.1
  have e1 : mi (kp σ a) (a + 1) = aP A := kp_1.trans hV.2.1
  have ey : (if y = 0 then (0 : Int32) else 1) = y := by rcases hy with rfl | rfl <;> rfl
  refine eX9_setListening gk ⟨_, rfl, hM.ty, kX9_keep gk hM (vX9_setListening_4 gk ⟨_, rfl, hM.kp.ty, ?_⟩)⟩
  refine kX9_doListen gk hM.kp (by rw [e1]; exact hP.shB) ?_ ?_
  · rw [e1]
    exact fun q => vX9_setListening_11 gk ⟨_, rfl, hM.kp.th.ty, endF gk hM (by decide) (vX9_setListening_14 gk ⟨fun _ => h1 q _ (mv_mF hV 1).1 (mv_mF hV 1).2.1 (mv_mF hV 1).2.2 _, fun z => absurd z (by decide)⟩)⟩
  · rw [e1, ey]
    intro k q0 q1 q2
    obtain ⟨n, m, b, hPI, -⟩ := hP
    have hkn : k < n := by
      rw [hPI.1.2] at q2
      exact (nI_ltI (by omega) (by have := hPI.1.1; omega)).mp q2
    have hz := (hPI.2.2.2.1 k hkn).2.2.2.1
    have h9 := hk k q0 q1 q2 hz _ (mv_mK hV _).1 (mv_mK hV _).2.1 (mv_mK hV _).2.2
    refine vX9_setListening_11 gk ⟨_, rfl, hM.kp.sS.ty, kX9_endsK gk hM hj hn (vX9_setListening_14 gk ⟨fun z => ?_, fun z => ?_⟩)⟩
    · rcases hz with z0 | z1
      · rw [z0] at h9; exact h9
      · exact absurd z1 z
    · rw [z] at h9; exact h9
end MPB
