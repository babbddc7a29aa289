/-! ===== the class: what a shelf is asked ===== -/
/-- there is an echo in the row at e -/
def isE (σ : Mm) (e : Nat) : Bool := decide (¬ mi σ e 0 = 0)
theorem isE_t {σ : Mm} {e : Nat} : isE σ e = true ↔ ¬ mi σ e 0 = 0 := decide_eq_true_iff
theorem isE_f {σ : Mm} {e : Nat} : isE σ e = false ↔ mi σ e 0 = 0 := by unfold isE; simp
def isEc (σ : Mm) (c : Int32) (e : Nat) : Bool := decide (¬ mi σ e 0 = 0 ∧ mi σ e 1 = c)
def fndE (σ : Mm) (L : List Nat) (c : Int32) : Option Nat := L.find? (isEc σ c)
def ageL (σ : Mm) (m : Int32) : List Nat → Int32
  | [] => 0
  | e :: L => if mi σ e 0 = 0 then ageL σ m L else (m - mi σ e 3) + ageL σ m L
section SI
variable {G : GG} {σ : Mm} {K : RES → Mm → Prop} {h : Nat} {L : List Nat}
theorem shS.ty (hS : shS σ h L) : (mt σ h).1 = 6 := hS.1
theorem shS.r (hS : shS σ h L) : mr σ h 6 = some (h + 1) := hS.2.1
theorem shS.t (hS : shS σ h L) : mt σ (h + 1) = (58, 6) := hS.2.2.1
theorem shS.l (hS : shS σ h L) : L.length = 6 := hS.2.2.2.1
theorem shS.at (hS : shS σ h L) {i e : Nat} (hi : L[i]? = some e) : mr σ (h + 1) i = some e := hS.2.2.2.2.1 i e hi
theorem shS.e (hS : shS σ h L) {e : Nat} (hi : e ∈ L) : (mt σ e).1 = 3 := hS.2.2.2.2.2 e hi
theorem shS.mv {σ' : Mm} (hS : shS σ h L) (h1 : mr σ' = mr σ) (h2 : mt σ' = mt σ) : shS σ' h L := by unfold shS; rw [h1, h2]; exact hS
theorem shS.so {L' : List Nat} (hS : shS σ h L) (hp : L'.Perm L) : shS (sO σ (h + 1) L') h L' := ⟨hS.1, by rw [sO_n (by omega)]; exact hS.2.1, hS.2.2.1, by rw [hp.length_eq]; exact hS.l, fun i e hi => sO_at hi, fun e he => hS.e (hp.mem_iff.mp he)⟩
theorem shS.mid {pre R : List Nat} {e : Nat} (hS : shS σ h (pre ++ e :: R)) : mr σ (h + 1) pre.length = some e ∧ (mt σ e).1 = 3 ∧ pre.length < 6 := by
  refine ⟨hS.at l_at0, hS.e (by simp), ?_⟩
  have := hS.l
  simp at this
  omega
theorem kX2_age (gk : GOK G) {e : Nat} {m : Int32} (ht : (mt σ e).1 = 3) (hk : K (.inl (some (vI (m - mi σ e 3)))) σ) : Runs G mX2_age rX2_age [vR (some e), vI m] σ K := eX2_age gk ⟨_, rfl, ht, hk⟩
theorem kX5_countEchoes_13 (gk : GOK G) : ∀ (R pre : List Nat) (c : Nat), shS σ h (pre ++ R) → K (.inl (some (vI (nI (c + R.countP (isE σ)))))) σ → At G mX5_countEchoes rX5_countEchoes 0 0 13 [some (vR (some h)), some (vI (nI c)), some (vR (some (h + 1))), some (vI (nI 6)), some (vI (nI pre.length)), none] [] σ K
  | [], pre, c, hS, hk => by
    have hl := hS.l
    rw [List.append_nil] at hl
    exact vX5_countEchoes_13 gk ⟨fun _ => hk, fun q => absurd (nI_le (by omega) (by omega)) q⟩
  | e :: R, pre, c, hS, hk => by
    obtain ⟨h1, h2, h3⟩ := hS.mid
    have ew : pre ++ e :: R = (pre ++ [e]) ++ R := by simp
    rw [ew] at hS
    have el : (pre ++ [e]).length = pre.length + 1 := by simp
    refine vX5_countEchoes_13 gk ⟨fun q => absurd q (nI_ge h3 (by omega)), fun _ => ⟨_, rfl, 6, hS.t, vp_in_nI h3 (by omega), e, ?_, h2, fun q => ?_, fun q => ?_⟩⟩
    · rw [nI_clamp (by omega)]; exact h1
    · have := kX5_countEchoes_13 gk R (pre ++ [e]) c hS (by rw [List.countP_cons_of_neg (by rw [isE_f.mpr q]; decide)] at hk; exact hk)
      rw [el] at this
      rw [nA1]; exact this
    · have := kX5_countEchoes_13 gk R (pre ++ [e]) (c + 1) hS (by rw [List.countP_cons_of_pos (isE_t.mpr q)] at hk; rw [show c + 1 + R.countP (isE σ) = c + (R.countP (isE σ) + 1) by omega]; exact hk)
      rw [el] at this
      rw [nA1, nA1]; exact this
theorem kX5_countEchoes (gk : GOK G) (hS : shS σ h L) (hk : K (.inl (some (vI (nI (L.countP (isE σ)))))) σ) : Runs G mX5_countEchoes rX5_countEchoes [vR (some h)] σ K := by
  refine eX5_countEchoes gk ⟨_, rfl, hS.ty, _, hS.r, _, hS.t, ?_⟩
  rw [hS.r]
  exact kX5_countEchoes_13 gk L [] 0 hS (by rw [Nat.zero_add]; exact hk)
theorem kX5_find_11 (gk : GOK G) {c : Int32} : ∀ (R pre : List Nat), shS σ h (pre ++ R) → K (.inl (some (vR (fndE σ R c)))) σ → At G mX5_find rX5_find 0 0 11 [some (vR (some h)), some (vI c), some (vR (some (h + 1))), some (vI (nI 6)), some (vI (nI pre.length)), none] [] σ K
  | [], pre, hS, hk => by
    have hl := hS.l
    rw [List.append_nil] at hl
    exact vX5_find_11 gk ⟨fun _ => hk, fun q => absurd (nI_le (by omega) (by omega)) q⟩
  | e :: R, pre, hS, hk => by
    obtain ⟨h1, h2, h3⟩ := hS.mid
    have ew : pre ++ e :: R = (pre ++ [e]) ++ R := by simp
    rw [ew] at hS
    have el : (pre ++ [e]).length = pre.length + 1 := by simp
    have hn : ¬ (¬ mi σ e 0 = 0 ∧ mi σ e 1 = c) → At G mX5_find rX5_find 0 0 11 [some (vR (some h)), some (vI c), some (vR (some (h + 1))), some (vI (nI 6)), some (vI (nI (pre.length + 1))), none] [] σ K := fun q => by
      have := kX5_find_11 gk R (pre ++ [e]) hS (by unfold fndE at hk ⊢; rw [List.find?_cons_of_neg (by unfold isEc; simpa using q)] at hk; exact hk)
      rw [el] at this
      exact this
    refine vX5_find_11 gk ⟨fun q => absurd q (nI_ge h3 (by omega)), fun _ => ⟨_, rfl, 6, hS.t, vp_in_nI h3 (by omega), e, ?_, h2, fun q => ?_, fun q => ⟨fun q2 => ?_, fun q2 => ?_⟩⟩⟩
    · rw [nI_clamp (by omega)]; exact h1
    · rw [nA1]; exact hn (fun z => z.1 q)
    · rw [nA1]; exact hn (fun z => q2 z.2)
    · unfold fndE at hk
      rw [List.find?_cons_of_pos (by unfold isEc; simpa using ⟨q, q2⟩)] at hk
      rw [nI_clamp (by omega), h1]
      exact hk
theorem kX5_find (gk : GOK G) (hS : shS σ h L) {c : Int32} (hk : K (.inl (some (vR (fndE σ L c)))) σ) : Runs G mX5_find rX5_find [vR (some h), vI c] σ K := by
  refine eX5_find gk ⟨_, rfl, hS.ty, _, hS.r, _, hS.t, ?_⟩
  rw [hS.r]
  exact kX5_find_11 gk L [] hS hk
theorem fndE_some {c : Int32} {e : Nat} (hf : fndE σ L c = some e) : e ∈ L ∧ ¬ mi σ e 0 = 0 ∧ mi σ e 1 = c := by
  refine ⟨List.mem_of_find?_eq_some hf, ?_⟩
  have := List.find?_some hf
  simpa [isEc] using this
theorem fndE_none {c : Int32} (hf : fndE σ L c = none) {e : Nat} (he : e ∈ L) : ¬ (¬ mi σ e 0 = 0 ∧ mi σ e 1 = c) := by
  have := List.find?_eq_none.mp hf e he
  simpa [isEc] using this
theorem kX5_sumOfAges_14 (gk : GOK G) {m : Int32} : ∀ (R pre : List Nat) (c : Int32), shS σ h (pre ++ R) → K (.inl (some (vI (c + ageL σ m R)))) σ → At G mX5_sumOfAges rX5_sumOfAges 0 0 14 [some (vR (some h)), some (vI m), some (vI c), some (vR (some (h + 1))), some (vI (nI 6)), some (vI (nI pre.length)), none] [] σ K
  | [], pre, c, hS, hk => by
    have hl := hS.l
    rw [List.append_nil] at hl
    refine vX5_sumOfAges_14 gk ⟨fun _ => ?_, fun q => absurd (nI_le (by omega) (by omega)) q⟩
    rw [ageL, i_add0] at hk; exact hk
  | e :: R, pre, c, hS, hk => by
    obtain ⟨h1, h2, h3⟩ := hS.mid
    have ew : pre ++ e :: R = (pre ++ [e]) ++ R := by simp
    rw [ew] at hS
    have el : (pre ++ [e]).length = pre.length + 1 := by simp
    refine vX5_sumOfAges_14 gk ⟨fun q => absurd q (nI_ge h3 (by omega)), fun _ => ⟨_, rfl, 6, hS.t, vp_in_nI h3 (by omega), e, ?_, h2, fun q => ?_, fun q => ?_⟩⟩
    · rw [nI_clamp (by omega)]; exact h1
    · have := kX5_sumOfAges_14 gk R (pre ++ [e]) c hS (by rw [ageL, if_pos q] at hk; exact hk)
      rw [el] at this
      rw [nA1]; exact this
    · have := kX5_sumOfAges_14 gk R (pre ++ [e]) (c + (m - mi σ e 3)) hS (by rw [ageL, if_neg q] at hk; rw [Int32.add_assoc]; exact hk)
      rw [el] at this
      rw [nI_clamp (by omega), h1]
      refine kX2_age gk h2 (vX5_sumOfAges_42 gk ?_)
      rw [nA1]; exact this
theorem kX5_sumOfAges (gk : GOK G) (hS : shS σ h L) {m : Int32} (hk : K (.inl (some (vI (ageL σ m L)))) σ) : Runs G mX5_sumOfAges rX5_sumOfAges [vR (some h), vI m] σ K := by
  refine eX5_sumOfAges gk ⟨_, rfl, hS.ty, _, hS.r, _, hS.t, ?_⟩
  rw [hS.r]
  exact kX5_sumOfAges_14 gk L [] 0 hS (by rw [Int32.zero_add]; exact hk)
theorem kX5_hasOutlived (gk : GOK G) (ht : (mt σ h).1 = 6) {e : Nat} {m : Int32} (he : (mt σ e).1 = 3) (hk : K (.inl (some (vI (bP (¬ m - mi σ e 3 < mi σ h 2))))) σ) : Runs G mX5_hasOutlived rX5_hasOutlived [vR (some h), vR (some e), vI m] σ K := by
  refine eX5_hasOutlived gk ⟨_, rfl, he, kX2_age gk he (vX5_hasOutlived_5 gk ⟨_, rfl, ht, fun q => ?_, fun q => ?_⟩)⟩
  · rw [bP_f (fun z => z q)] at hk; exact hk
  · rw [bP_t q] at hk; exact hk
theorem kX5_outcome (gk : GOK G) (hS : shS σ h L) {c m : Int32} (hn : fndE σ L c = none → K (.inl (some (vI 99))) σ) (hk : ∀ e, fndE σ L c = some e → K (.inl (some (vI (if m - mi σ e 3 < mi σ h 2 then (if mi σ e 8 = 0 then 104 else 111) else 101)))) σ) : Runs G mX5_outcome rX5_outcome [vR (some h), vI c, vI m] σ K := by
  refine eX5_outcome gk ⟨_, rfl, hS.ty, kX5_find gk hS (vX5_outcome_5 gk ⟨hn, fun e he => ?_⟩)⟩
  have h9 := hk e he
  have h3 := hS.e (fndE_some he).1
  rw [he]
  refine ⟨_, rfl, hS.ty, kX5_hasOutlived gk hS.ty h3 (vX5_outcome_19 gk ⟨fun q => ⟨_, rfl, h3, fun q2 => ?_, fun q2 => ?_⟩, fun q => ?_⟩)⟩
  · rw [if_pos (Decidable.not_not.mp (bP_0.mp q)), if_pos q2] at h9; exact h9
  · rw [if_pos (Decidable.not_not.mp (bP_0.mp q)), if_neg q2] at h9; exact h9
  · rw [if_neg (bP_n q)] at h9; exact h9
theorem kX5_firstInOrder (gk : GOK G) {x : Nat} {R : List Nat} (hS : shS σ h (x :: R)) (hk : K (.inl (some (vR (if mi σ x 0 = 0 then none else some x)))) σ) : Runs G mX5_firstInOrder rX5_firstInOrder [vR (some h)] σ K := by
  have h1 : mr σ (h + 1) 0 = some x := hS.at rfl
  refine eX5_firstInOrder gk ⟨_, rfl, hS.ty, _, hS.r, 6, hS.t, vp_in_nI (n := 0) (by omega) (by omega), x, h1, hS.e (List.mem_cons_self ..), fun q => ?_, fun q => ?_⟩
  · rw [if_pos q] at hk; exact hk
  · rw [if_neg q] at hk
    rw [show (0 : Int32).toNatClampNeg = 0 by decide, h1]; exact hk
/-- the scan's choice -/
noncomputable def scnE (σ : Mm) (p : Int32) : Option Nat → List Nat → Option Nat
  | b, [] => b
  | none, e :: R => if mi σ e 0 = 0 then scnE σ p none R else scnE σ p (some e) R
  | some b, e :: R => if mi σ e 0 = 0 then scnE σ p (some b) R else @ite _ (bfE σ p e b) (Classical.propDecidable _) (scnE σ p (some e) R) (scnE σ p (some b) R)
theorem kX5_firstByScan_13 (gk : GOK G) : ∀ (R pre : List Nat) (b : Option Nat), (∀ x, b = some x → (mt σ x).1 = 3) → shS σ h (pre ++ R) → K (.inl (some (vR (scnE σ (mi σ h 3) b R)))) σ → At G mX5_firstByScan rX5_firstByScan 0 0 13 [some (vR (some h)), some (vR b), some (vR (some (h + 1))), some (vI (nI 6)), some (vI (nI pre.length)), none] [] σ K
  | [], pre, b, hb, hS, hk => by
    have hl := hS.l
    rw [List.append_nil] at hl
    refine vX5_firstByScan_13 gk ⟨fun _ => ?_, fun q => absurd (nI_le (by omega) (by omega)) q⟩
    cases b <;> exact hk
  | e :: R, pre, b, hb, hS, hk => by
    obtain ⟨h1, h2, h3⟩ := hS.mid
    have ew : pre ++ e :: R = (pre ++ [e]) ++ R := by simp
    have hS' := hS
    rw [ew] at hS
    have el : (pre ++ [e]).length = pre.length + 1 := by simp
    refine vX5_firstByScan_13 gk ⟨fun q => absurd q (nI_ge h3 (by omega)), fun _ => ⟨_, rfl, 6, hS.t, vp_in_nI h3 (by omega), e, ?_, h2, fun q => ?_, fun q => ⟨fun q2 => ?_, fun x q2 => ?_⟩⟩⟩
    · rw [nI_clamp (by omega)]; exact h1
    · have := kX5_firstByScan_13 gk R (pre ++ [e]) b hb hS (by cases b <;> (rw [scnE, if_pos q] at hk; exact hk))
      rw [el] at this
      rw [nA1]; exact this
    · subst q2
      have := kX5_firstByScan_13 gk R (pre ++ [e]) (some e) (fun x hx => by cases hx; exact h2) hS (by rw [scnE, if_neg q] at hk; exact hk)
      rw [el] at this
      rw [nI_clamp (by omega), h1, nA1]; exact this
    · subst q2
      rw [nI_clamp (by omega), h1]
      refine ⟨_, rfl, hS.ty, kX5_isBefore gk hS.ty h2 (hb x rfl) (vX5_firstByScan_44 gk ⟨fun q3 => ?_, fun q3 => ?_⟩)⟩
      · have := kX5_firstByScan_13 gk R (pre ++ [e]) (some x) hb hS (by simp only [scnE, q, bP_0.mp q3, if_false] at hk; exact hk)
        rw [el] at this
        rw [nA1]; exact this
      · have := kX5_firstByScan_13 gk R (pre ++ [e]) (some e) (fun x hx => by cases hx; exact h2) hS (by simp only [scnE, q, bP_n q3, if_false, if_true] at hk; exact hk)
        rw [el] at this
        rw [nA1]; exact this
theorem kX5_firstByScan (gk : GOK G) (hS : shS σ h L) (hk : K (.inl (some (vR (scnE σ (mi σ h 3) none L)))) σ) : Runs G mX5_firstByScan rX5_firstByScan [vR (some h)] σ K := by
  refine eX5_firstByScan gk ⟨_, rfl, hS.ty, _, hS.r, _, hS.t, ?_⟩
  rw [hS.r]
  exact kX5_firstByScan_13 gk L [] none (fun _ hx => by cases hx) hS hk
/-- the first of n places so, counted as x -/
noncomputable def nthX (p : Nat → Prop) (x : Int32) : Nat → Nat → Nat → Int32
  | 0, _, _ => 32
  | d + 1, l, c => @ite _ (p l) (Classical.propDecidable _) (if nI c = x then nI (97 + l) else nthX p x d (l + 1) (c + 1)) (nthX p x d (l + 1) c)
theorem i2c_nx {l : Nat} (h : l < 26) : i2c (nI (97 + l) + 1) = nI (97 + (l + 1)) := by rw [nx, i2c_nI (by omega)]
theorem kX5_letterAt_5 (gk : GOK G) (hS : shS σ h L) {x : Int32} : ∀ (d l c : Nat), l + d = 26 → K (.inl (some (vI (nthX (fun l => (fndE σ L (nI (97 + l))).isSome = true) x d l c)))) σ → At G mX5_letterAt rX5_letterAt 0 0 5 [some (vR (some h)), some (vI x), some (vI (nI c)), some (vI (nI (97 + l)))] [] σ K
  | 0, l, c, hl, hk => by
    obtain rfl : l = 26 := by omega
    exact vX5_letterAt_5 gk ⟨fun _ => hk, fun q => absurd (by decide) q⟩
  | d + 1, l, c, hl, hk => by
    refine vX5_letterAt_5 gk ⟨fun q => absurd q (let_le (by omega)), fun _ => ⟨_, rfl, hS.ty, kX5_find gk hS (vX5_letterAt_16 gk ⟨fun q => ?_, fun e q => ⟨fun q2 => ?_, fun q2 => ?_⟩⟩)⟩⟩
    · rw [i2c_nx (by omega)]
      refine kX5_letterAt_5 gk hS d (l + 1) c (by omega) ?_
      simp only [nthX, q, Option.isSome_none, if_false, Bool.false_eq_true] at hk
      exact hk
    · rw [i2c_nx (by omega), nA1]
      refine kX5_letterAt_5 gk hS d (l + 1) (c + 1) (by omega) ?_
      simp only [nthX, q, Option.isSome_some, if_true, q2, if_false] at hk
      exact hk
    · simp only [nthX, q, Option.isSome_some, if_true, q2] at hk
      exact ⟨isC_nI (by omega), hk⟩
theorem kX5_letterAt (gk : GOK G) (hS : shS σ h L) {x : Int32} (hk : K (.inl (some (vI (nthX (fun l => (fndE σ L (nI (97 + l))).isSome = true) x 26 0 0)))) σ) : Runs G mX5_letterAt rX5_letterAt [vR (some h), vI x] σ K := eX5_letterAt gk (kX5_letterAt_5 gk hS 26 0 0 rfl hk)
end SI
