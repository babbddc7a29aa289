/-! ===== the class: its questions, further ===== -/
section UB
variable {G : GG} {σ : Mm} {K : RES → Mm → Prop} {x b : Nat} {P : Nat → Int32}
theorem l_cons {L : List Nat} (h : L.length = 6) : ∃ e R, L = e :: R := by
  cases L with
  | nil => cases h
  | cons e R => exact ⟨e, R, rfl⟩
theorem c_victim (gk : GOK G) (hst : STR G) (hb : b < 2 ^ 29) {k n : Nat} {ω : List Nat} {ρ : Nat → List Nat} (hV : RV σ (x + 1) P b n ω ρ) (hkn : k < n) {R : Option Nat → Prop} (h2 : ecN P k = 0 → R none) (hk : ∀ (v e : Nat), v < 26 → vcN P k 26 = some v → (mt σ e).1 = 3 → mi σ e 1 = nI (97 + v) → R (some e)) : (∀ e L, ρ k = e :: L → R (if mi σ e 0 = 0 then none else some e)) ∧ R (scnE σ (mi σ (x + 1 + 30 + 8 * k) 3) none (ρ k)) := by
  obtain ⟨e, L, hL⟩ := l_cons (hV.ss hkn).l
  obtain ⟨f1, f2, f3⟩ := hV.first hb hkn hL
  have hm : R (if mi σ e 0 = 0 then none else some e) := by
    by_cases q : mi σ e 0 = 0
    · rw [if_pos q]; exact h2 (f1.mp q)
    · rw [if_neg q]
      obtain ⟨v, hv, h3, h4, h5⟩ := f2 q
      exact hk v e hv h3 ((hV.ss hkn).e (by rw [hL]; exact List.mem_cons_self ..)) h4
  refine ⟨fun e' L' hL' => ?_, ?_⟩
  · rw [hL] at hL'
    cases hL'
    exact hm
  · rw [hL, f3]; exact hm
theorem c_victimOf (gk : GOK G) (hst : STR G) (hb : b < 2 ^ 29) (hX : CS σ x) (h : RS σ (x + 1) P b) {s : Int32} (h1 : ¬ shP P s → ∀ k, K (.inr "java/lang/IndexOutOfBoundsException") (sk σ k)) (h2 : ∀ k : Nat, k < 4 → s = nI k → nI k < P 0 → ecN P k = 0 → ∀ k, K (.inr "java/util/NoSuchElementException") (sk σ k)) (hk : ∀ k v : Nat, k < 4 → v < 26 → s = nI k → nI k < P 0 → vcN P k 26 = some v → K (.inl (some (vI (nI (97 + v))))) σ) : Runs G mX8_victimOf rX8_victimOf [vR (some x), vI s] σ K := by
  refine eX8_victimOf gk ⟨_, rfl, hX.1, cWantShelf gk hst hX h h1 fun k n ω ρ m hV hW hJ hkn es => vX8_victimOf_5 gk ⟨_, rfl, (hV.ss hkn).ty, ?_⟩⟩
  have hn4 := hV.n4
  have h0 : nI k < P 0 := by rw [hV.p0]; exact nI_lt hkn (by omega)
  obtain ⟨e, L, hL⟩ := l_cons (hV.ss hkn).l
  refine kX5_firstInOrder gk (x := e) (R := L) (by rw [← hL]; exact hV.ss hkn) ?_
  exact (c_victim gk hst hb hV hkn (R := fun r => At G mX8_victimOf rX8_victimOf 1 6 8 [some (vR (some x)), some (vI s), none] [vR r] σ K) (fun q => vX8_victimOf_8 gk hst ⟨fun _ => h2 k (by omega) es h0 q, fun a z => (by cases z)⟩) fun v e hv hvc hte e1 => vX8_victimOf_8 gk hst ⟨fun z => (by cases z), fun a z => by
    cases z
    refine ⟨hte, ?_, ?_⟩
    · rw [e1]; exact isC_nI (by omega)
    · rw [e1]; exact hk k v (by omega) hv es h0 hvc⟩).1 e L hL
theorem c_victimByScan (gk : GOK G) (hst : STR G) (hb : b < 2 ^ 29) (hX : CS σ x) (h : RS σ (x + 1) P b) {s : Int32} (h1 : ¬ shP P s → ∀ k, K (.inr "java/lang/IndexOutOfBoundsException") (sk σ k)) (h2 : ∀ k : Nat, k < 4 → s = nI k → nI k < P 0 → ecN P k = 0 → ∀ k, K (.inr "java/util/NoSuchElementException") (sk σ k)) (hk : ∀ k v : Nat, k < 4 → v < 26 → s = nI k → nI k < P 0 → vcN P k 26 = some v → K (.inl (some (vI (nI (97 + v))))) σ) : Runs G mX8_victimByScan rX8_victimByScan [vR (some x), vI s] σ K := by
  refine eX8_victimByScan gk ⟨_, rfl, hX.1, cWantShelf gk hst hX h h1 fun k n ω ρ m hV hW hJ hkn es => vX8_victimByScan_5 gk ⟨_, rfl, (hV.ss hkn).ty, kX5_firstByScan gk (hV.ss hkn) ?_⟩⟩
  have hn4 := hV.n4
  have h0 : nI k < P 0 := by rw [hV.p0]; exact nI_lt hkn (by omega)
  exact (c_victim gk hst hb hV hkn (R := fun r => At G mX8_victimByScan rX8_victimByScan 1 6 8 [some (vR (some x)), some (vI s), none] [vR r] σ K) (fun q => vX8_victimByScan_8 gk hst ⟨fun _ => h2 k (by omega) es h0 q, fun a z => (by cases z)⟩) fun v e hv hvc hte e1 => vX8_victimByScan_8 gk hst ⟨fun z => (by cases z), fun a z => by
    cases z
    refine ⟨hte, ?_, ?_⟩
    · rw [e1]; exact isC_nI (by omega)
    · rw [e1]; exact hk k v (by omega) hv es h0 hvc⟩).2
theorem RV.ou {st n k l : Nat} {ω : List Nat} {ρ : Nat → List Nat} (hV : RV σ st P b n ω ρ) (hk : k < n) (hl : l < 26) : ouP P k l = (match fndE σ (ρ k) (nI (97 + l)) with | none => 99 | some e => if mi σ st 3 - mi σ e 3 < mi σ (st + 30 + 8 * k) 2 then (if mi σ e 8 = 0 then 104 else 111) else 101) := by
  have hEA := hV.ea hk
  unfold ouP
  by_cases hp : P (eX k l) = 1
  · obtain ⟨e, hf, he, e0, e1, hv⟩ := hEA.find1 hl hp
    rw [hf]
    simp only [hp, if_true]
    rw [hV.g3, hV.h2 hk, hv.2.2.1, hv.2.2.2.2.2.2.1]
    have ez := (hEA.2.1 e he).2.1
    rw [hv.2.2.2.2.2.2.1] at ez
    by_cases ho : ovP P k l
    · simp only [ho, if_true]
      rw [if_neg ho]
    · simp only [ho, if_false]
      rw [if_pos (Decidable.not_not.mp ho)]
      rcases ez with z | z <;> rw [z] <;> rfl
  · have hf := hEA.find0 (x := nI (97 + l)) (fun z => hp ((ecP_l hl).mp z))
    rw [hf]
    simp only [hp, if_false]
theorem ouP_isC {k l : Nat} : isC (ouP P k l) := by
  rcases ouP_c P k l with z | z | z | z <;> rw [z]
  · exact isC_nI (q := 104) (by omega)
  · exact isC_nI (q := 99) (by omega)
  · exact isC_nI (q := 101) (by omega)
  · exact isC_nI (q := 111) (by omega)
theorem c_outcomeOf (gk : GOK G) (hst : STR G) (hX : CS σ x) (h : RS σ (x + 1) P b) {s y : Int32} (hc : isC y) (h1 : ¬ shP P s → ∀ k, K (.inr "java/lang/IndexOutOfBoundsException") (sk σ k)) (h2 : shP P s → ¬ jrP P y → ∀ k, K (.inr "java/util/NoSuchElementException") (sk σ k)) (hk : ∀ k l : Nat, k < 4 → l < 26 → s = nI k → y = nI (97 + l) → nI k < P 0 → P (8 + 3 * l) = 1 → K (.inl (some (vI (ouP P k l)))) σ) : Runs G mX8_outcomeOf rX8_outcomeOf [vR (some x), vI s, vI y] σ K := by
  obtain ⟨ω, ρ, n, m, hV, hW, hJ⟩ := id h
  have hn4 := hV.n4
  refine eX8_outcomeOf gk ⟨_, rfl, hX.1, _, hX.2.1, hV.s.ty, ?_⟩
  rw [hX.2.1]
  refine kX6_hearFault gk hV hc (fun q => vX8_outcomeOf_9 gk (kX8_refuse gk hst (fun z => absurd z (by decide)) (fun _ => h1 q) (fun z => absurd z (by decide)) (fun z => absurd z (by decide)) (fun z => absurd z (by decide)) (by decide))) (fun q q2 => vX8_outcomeOf_9 gk (kX8_refuse gk hst (fun z => absurd z (by decide)) (fun z => absurd z (by decide)) (fun _ => h2 q q2) (fun z => absurd z (by decide)) (fun z => absurd z (by decide)) (by decide))) fun k l hkn hl es ey hp => vX8_outcomeOf_9 gk (kX8_refuse gk hst (fun _ => ?_) (fun z => absurd z (by decide)) (fun z => absurd z (by decide)) (fun z => absurd z (by decide)) (fun z => absurd z (by decide)) (by decide))
  refine vX8_outcomeOf_12 gk ⟨_, rfl, hX.1, cWantShelf gk hst hX h (fun q => absurd (es ▸ hV.sh hkn) q) fun k' n' ω' ρ' m' hV' _ _ hkn' e' => ?_⟩
  obtain rfl : k' = k := (nI_eq (by have := hV'.n4; omega) (by omega)).mp (e'.symm.trans es)
  have h9 := hk k' l (by omega) hl es ey (by rw [hV.p0]; exact nI_lt hkn (by omega)) hp
  have hou := hV'.ou hkn' hl
  refine vX8_outcomeOf_17 gk ⟨_, rfl, hX.1, _, hX.2.1, hV.s.ty, _, rfl, (hV'.ss hkn').ty, ?_⟩
  rw [ey]
  have fin : ∀ v, v = ouP P k' l → At G mX8_outcomeOf rX8_outcomeOf 2 12 28 [some (vR (some x)), some (vI s), some (vI (nI (97 + l)))] [vI v] σ K := fun v e => by
    rw [e]
    exact vX8_outcomeOf_28 gk ⟨ouP_isC, h9⟩
  refine kX5_outcome gk (hV'.ss hkn') (fun hf => fin _ ?_) (fun e hf => fin _ ?_)
  · rw [hou, hf]
  · rw [hou, hf]
theorem c_warmingMinute (gk : GOK G) (hst : STR G) (hX : CS σ x) (h : RS σ (x + 1) P b) {s : Int32} {m : Nat} (hP1 : P 1 = nI m) (hm8 : m ≤ 8) (h1 : ¬ (∃ i : Nat, i < m ∧ s = nI i) → ∀ k, K (.inr "java/lang/IndexOutOfBoundsException") (sk σ k)) (hk : ∀ i : Nat, i < m → s = nI i → K (.inl (some (vI (P (834 + 3 * i))))) σ) : Runs G mX8_warmingMinute rX8_warmingMinute [vR (some x), vI s] σ K := by
  refine eX8_warmingMinute gk ⟨_, rfl, hX.1, cWantWarming gk hst hX h hP1 hm8 h1 fun i e n ω ρ hV hW hJ hi es he => ?_⟩
  obtain ⟨X, F, hω, hXl, hR⟩ := hW.split
  have hr := (hR.at hω he).1 (by omega)
  refine vX8_warmingMinute_5 gk ⟨_, rfl, hV.s.2.2.2.2.2 e (List.mem_of_getElem? he), ?_⟩
  rw [hr.2.1]
  exact hk i hi es
theorem c_warmingJar (gk : GOK G) (hst : STR G) (hX : CS σ x) (h : RS σ (x + 1) P b) {s : Int32} {m : Nat} (hP1 : P 1 = nI m) (hm8 : m ≤ 8) (h1 : ¬ (∃ i : Nat, i < m ∧ s = nI i) → ∀ k, K (.inr "java/lang/IndexOutOfBoundsException") (sk σ k)) (hk : ∀ i : Nat, i < m → s = nI i → K (.inl (some (vI (i2c (P (834 + 3 * i + 2)))))) σ) : Runs G mX8_warmingJar rX8_warmingJar [vR (some x), vI s] σ K := by
  refine eX8_warmingJar gk ⟨_, rfl, hX.1, cWantWarming gk hst hX h hP1 hm8 h1 fun i e n ω ρ hV hW hJ hi es he => ?_⟩
  obtain ⟨X, F, hω, hXl, hR⟩ := hW.split
  have hr := (hR.at hω he).1 (by omega)
  obtain ⟨l, hl, el⟩ := (hW.2.2.1 i hi).2.2.2
  have h9 := hk i hi es
  refine vX8_warmingJar_5 gk ⟨_, rfl, hV.s.2.2.2.2.2 e (List.mem_of_getElem? he), ?_⟩
  rw [hr.2.2.2, el]
  rw [el, i2c_l hl] at h9
  exact ⟨isC_nI (by omega), h9⟩
theorem NB.nI {y : Int32} {b : Nat} (h : NB y b) : ∃ q, q ≤ b ∧ y = nI q := by
  obtain ⟨q, hq, e⟩ := nI_of (x := y) (fun z => by rw [Int32.lt_iff_toInt_lt] at z; have := h.1; exact absurd z (by show ¬ y.toInt < (0 : Int32).toInt; have e0 : (0 : Int32).toInt = 0 := rfl; omega))
  have := h.2
  rw [e, nI_toInt hq] at this
  exact ⟨q, by omega, e⟩
theorem hsP_n (hP : NB (P 4) b ∧ NB (P 5) b ∧ NB (P 6) b ∧ NB (P 7) b) : ∃ q r, q ≤ b ∧ P 4 = nI q ∧ hsP P = nI r ∧ r ≤ 4 * b := by
  obtain ⟨q4, a4, e4⟩ := hP.1.nI
  obtain ⟨q5, a5, e5⟩ := hP.2.1.nI
  obtain ⟨q6, a6, e6⟩ := hP.2.2.1.nI
  obtain ⟨q7, a7, e7⟩ := hP.2.2.2.nI
  refine ⟨q4, q4 + q5 + q6 + q7, a4, e4, ?_, by omega⟩
  unfold hsP
  rw [e4, e5, e6, e7, nI_add, nI_add, nI_add]
theorem c_hitShare (gk : GOK G) (hst : STR G) (hb : b < 2 ^ 21) (hX : CS σ x) (h : RS σ (x + 1) P b) (h1 : hsP P ≤ 0 → ∀ k, K (.inr "java/lang/ArithmeticException") (sk σ k)) (hk : ¬ hsP P ≤ 0 → vf_n32 (FP.fdiv (FP.i2f (P 4)) (FP.i2f (hsP P))) → K (.inl (some (vF (FP.fdiv (FP.i2f (P 4)) (FP.i2f (hsP P)))))) σ) : Runs G mX8_hitShare rX8_hitShare [vR (some x)] σ K := by
  obtain ⟨ω, ρ, n, m, hV, hW, hJ⟩ := id h
  obtain ⟨q, r, hq, e4, es, hr⟩ := hsP_n ⟨hV.pi.2.1.2.2.1, hV.pi.2.1.2.2.2.1, hV.pi.2.1.2.2.2.2.1, hV.pi.2.1.2.2.2.2.2⟩
  refine eX8_hitShare gk hst ⟨_, rfl, hX.1, _, hX.2.1, hV.s.ty, ?_⟩
  rw [hV.g5, hV.g6, hV.g7, hV.g8]
  show (¬ hsP P = 0 → _) ∧ (hsP P = 0 → _)
  have hz : hsP P ≤ 0 ↔ hsP P = 0 := by
    rw [es]
    refine ⟨fun z => ?_, fun z => by rw [z]; exact Int32.le_refl _⟩
    rcases Nat.eq_zero_or_pos r with y | y
    · rw [y]; rfl
    · exact absurd z (nI_nle y (by omega))
  refine ⟨fun z => ?_, fun z => h1 (hz.mpr z)⟩
  have hn : vf_n32 (FP.fdiv (FP.i2f (P 4)) (FP.i2f (hsP P))) := by
    rw [e4, es]
    refine nn_f (by omega) (by omega) ?_
    rcases Nat.eq_zero_or_pos r with y | y
    · exact absurd (by rw [es, y]; rfl) z
    · exact y
  exact ⟨hn, hk (fun y => z (hz.mp y)) hn⟩
theorem isErr {v : Int32} (h : v = -1 ∨ ∃ q : Nat, q < 2 ^ 31 ∧ v = nI q) : v < 0 ↔ v = -1 := by
  rcases h with z | ⟨q, hq, z⟩
  · rw [z]; decide
  · rw [z]
    refine ⟨fun y => absurd y (nI_pos hq), fun y => ?_⟩
    rw [y]; decide
end UB
