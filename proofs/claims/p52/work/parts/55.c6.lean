/-! ===== the class: a State's faults and further questions ===== -/
section SF
variable {G : GG} {σ : Mm} {K : RES → Mm → Prop} {st b n m : Nat} {ω : List Nat} {ρ : Nat → List Nat} {P : Nat → Int32}
theorem RV.s (h : RV σ st P b n ω ρ) : stS σ st ω ρ := h.1
theorem RV.pi (h : RV σ st P b n ω ρ) : PI P n b := h.2.1
theorem RV.j (h : RV σ st P b n ω ρ) : JV (vJ σ st) P b := h.2.2.1
theorem RV.g (h : RV σ st P b n ω ρ) : GV (vG σ st) P := h.2.2.2.1
theorem RV.e (h : RV σ st P b n ω ρ) {k : Nat} (hk : k < n) : HV (vH σ st k) P k ∧ EV (vJ σ st) P k (P (86 + 187 * k + 2)) (vE σ (ρ k)) := h.2.2.2.2.1 k hk
theorem RV.nn (h : RV σ st P b n ω ρ) {k : Nat} (hk : k < 4) (hk2 : n ≤ k) : HN (vH σ st k) ∧ EN (vE σ (ρ k)) := h.2.2.2.2.2 k hk hk2
theorem RV.n4 (h : RV σ st P b n ω ρ) : n ≤ 4 := h.pi.1.1
theorem RV.p0 (h : RV σ st P b n ω ρ) : P 0 = nI n := h.pi.1.2
theorem RV.z (h : RV σ st P b n ω ρ) : ∀ l, l < 26 → isZ (P (8 + 3 * l)) := fun l hl => (h.pi.2.2.1 l hl).1
theorem RV.j0 (h : RV σ st P b n ω ρ) {l : Nat} (hl : l < 26) : mi σ (st + 4 + l) 0 = P (8 + 3 * l) := (h.j l hl).1
theorem RV.j1 (h : RV σ st P b n ω ρ) {l : Nat} (hl : l < 26) : mi σ (st + 4 + l) 1 = P (8 + 3 * l + 1) := (h.j l hl).2.1
theorem RV.j3 (h : RV σ st P b n ω ρ) {l : Nat} (hl : l < 26) : mi σ (st + 4 + l) 3 = P (8 + 3 * l + 2) := (h.j l hl).2.2.1
theorem RV.g3 (h : RV σ st P b n ω ρ) : mi σ st 3 = P 2 := h.g.1
theorem RV.g4 (h : RV σ st P b n ω ρ) : mi σ st 4 = P 3 := h.g.2.1
theorem RV.g5 (h : RV σ st P b n ω ρ) : mi σ st 5 = P 4 := h.g.2.2.1
theorem RV.g6 (h : RV σ st P b n ω ρ) : mi σ st 6 = P 5 := h.g.2.2.2.1
theorem RV.g7 (h : RV σ st P b n ω ρ) : mi σ st 7 = P 6 := h.g.2.2.2.2.1
theorem RV.g8 (h : RV σ st P b n ω ρ) : mi σ st 8 = P 7 := h.g.2.2.2.2.2
theorem cFindJar (gk : GOK G) (h : RV σ st P b n ω ρ) {x : Int32} (hc : isC x) (h0 : ¬ jrP P x → K (.inl (some (vR none))) σ) (hk : ∀ l : Nat, l < 26 → x = nI (97 + l) → P (8 + 3 * l) = 1 → K (.inl (some (vR (some (st + 4 + l))))) σ) : Runs G mX6_findJar rX6_findJar [vR (some st), vI x] σ K := kX6_findJar gk h.s h.j hc h.z h0 hk
theorem cFindShelf (gk : GOK G) (h : RV σ st P b n ω ρ) {x : Int32} (h0 : ¬ shP P x → K (.inl (some (vR none))) σ) (hk : ∀ k : Nat, k < n → x = nI k → K (.inl (some (vR (some (st + 30 + 8 * k))))) σ) : Runs G mX6_findShelf rX6_findShelf [vR (some st), vI x] σ K := kX6_findShelf gk h.s h.2 h0 hk
theorem RV.sh (h : RV σ st P b n ω ρ) {k : Nat} (hk : k < n) : shP P (nI k) := (shP_n h.n4 h.p0 (by have := h.n4; omega)).mpr hk
theorem RV.shk (h : RV σ st P b n ω ρ) {x : Int32} (q : shP P x) : ∃ k, k < n ∧ x = nI k := by
  obtain ⟨k, hk, e, -⟩ := shP_k ⟨n, h.n4, h.p0⟩ q
  subst e
  exact ⟨k, (shP_n h.n4 h.p0 (by omega)).mp q, rfl⟩
theorem kX6_newJarFault (gk : GOK G) (h : RV σ st P b n ω ρ) {x w : Int32} (hc : isC x) (h3 : ¬ (isL x ∧ ¬ w < 0 ∧ ¬ 99 < w) → K (.inl (some (vI 3))) σ) (h4 : isL x → ¬ w < 0 → ¬ 99 < w → (jrN P = 12 ∨ jrP P x) → K (.inl (some (vI 4))) σ) (h0 : ∀ l : Nat, l < 26 → x = nI (97 + l) → ¬ w < 0 → ¬ 99 < w → jrN P ≠ 12 → ¬ P (8 + 3 * l) = 1 → K (.inl (some (vI 0))) σ) : Runs G mX6_newJarFault rX6_newJarFault [vR (some st), vI x, vI w] σ K := by
  have h12 := h.pi.2.2.2.2.2.2
  refine eX6_newJarFault gk ⟨fun q => h3 (fun z => (isL_iff.mp z.1).1 q), fun q1 => ⟨fun q => h3 (fun z => (isL_iff.mp z.1).2 q), fun q2 => ⟨fun q => h3 (fun z => z.2.1 q), fun q3 => ⟨fun q4 => ⟨_, rfl, h.s.ty, kX6_countJars gk h.s h.j h.z (vX6_newJarFault_28 gk ⟨fun q5 => h4 (isL_iff.mpr ⟨q1, q2⟩) q3 (Int32.not_lt.mpr q4) (Or.inl ?_), fun q5 => ⟨_, rfl, h.s.ty, cFindJar gk h hc (fun q6 => vX6_newJarFault_38 gk ⟨fun _ => ?_, fun _ q => (by cases q)⟩) fun l hl e hp => vX6_newJarFault_38 gk ⟨fun q => (by cases q), fun _ _ => h4 (isL_iff.mpr ⟨q1, q2⟩) q3 (Int32.not_lt.mpr q4) (Or.inr ⟨l, hl, e, hp⟩)⟩⟩⟩)⟩, fun q => h3 (fun z => q (Int32.not_lt.mp z.2.2))⟩⟩⟩⟩
  · have : 12 ≤ jrN P := (nI_leI (a := 12) (by omega) (by omega)).mp q5
    omega
  · obtain ⟨l, hl, e⟩ := isL_iff.mpr ⟨q1, q2⟩
    exact h0 l hl e q3 (Int32.not_lt.mpr q4) (fun z => q5 (by rw [z]; decide)) (fun z => q6 ⟨l, hl, e, z⟩)
theorem kX6_jarFault (gk : GOK G) (h : RV σ st P b n ω ρ) {x : Int32} (hc : isC x) (h2 : ¬ jrP P x → K (.inl (some (vI 2))) σ) (h0 : ∀ l : Nat, l < 26 → x = nI (97 + l) → P (8 + 3 * l) = 1 → K (.inl (some (vI 0))) σ) : Runs G mX6_jarFault rX6_jarFault [vR (some st), vI x] σ K :=
  eX6_jarFault gk ⟨_, rfl, h.s.ty, cFindJar gk h hc (fun q6 => vX6_jarFault_5 gk ⟨fun _ => h2 q6, fun _ q => (by cases q)⟩) fun l hl e hp => vX6_jarFault_5 gk ⟨fun q => (by cases q), fun _ _ => h0 l hl e hp⟩⟩
theorem kX6_wordFault (gk : GOK G) (h : RV σ st P b n ω ρ) {x w : Int32} (hc : isC x) (h2 : ¬ jrP P x → K (.inl (some (vI 2))) σ) (h3 : jrP P x → ¬ (¬ w < 0 ∧ ¬ 99 < w) → K (.inl (some (vI 3))) σ) (h0 : ∀ l : Nat, l < 26 → x = nI (97 + l) → P (8 + 3 * l) = 1 → ¬ w < 0 → ¬ 99 < w → K (.inl (some (vI 0))) σ) : Runs G mX6_wordFault rX6_wordFault [vR (some st), vI x, vI w] σ K :=
  eX6_wordFault gk ⟨_, rfl, h.s.ty, cFindJar gk h hc (fun q6 => vX6_wordFault_5 gk ⟨fun _ => h2 q6, fun _ q => (by cases q)⟩) fun l hl e hp => vX6_wordFault_5 gk ⟨fun q => (by cases q), fun _ _ => ⟨fun q => h3 ⟨l, hl, e, hp⟩ (fun z => z.1 q), fun q => ⟨fun q2 => h0 l hl e hp q (Int32.not_lt.mpr q2), fun q2 => h3 ⟨l, hl, e, hp⟩ (fun z => q2 (Int32.not_lt.mp z.2))⟩⟩⟩⟩
theorem kX6_newShelfFault (gk : GOK G) (h : RV σ st P b n ω ρ) {c f p : Int32} (h3 : ¬ (¬ c < 1 ∧ ¬ 6 < c ∧ ¬ f < 1 ∧ ¬ 30 < f ∧ plP p) → K (.inl (some (vI 3))) σ) (h4 : ¬ c < 1 ∧ ¬ 6 < c ∧ ¬ f < 1 ∧ ¬ 30 < f ∧ plP p → n = 4 → K (.inl (some (vI 4))) σ) (h0 : ¬ c < 1 ∧ ¬ 6 < c ∧ ¬ f < 1 ∧ ¬ 30 < f ∧ plP p → n < 4 → K (.inl (some (vI 0))) σ) : Runs G mX6_newShelfFault rX6_newShelfFault [vR (some st), vI c, vI f, vI p] σ K := by
  have hn := h.n4
  have g : ¬ c < 1 ∧ ¬ 6 < c ∧ ¬ f < 1 ∧ ¬ 30 < f ∧ plP p → Runs G mX6_countShelves rX6_countShelves [vR (some st)] σ (bk G mX6_newShelfFault rX6_newShelfFault 0 0 48 [some (vR (some st)), some (vI c), some (vI f), some (vI p)] [] K) := fun q => by
    refine kX6_countShelves gk h.s h.2 (vX6_newShelfFault_48 gk ⟨fun q2 => h0 q ?_, fun q2 => h4 q ?_⟩)
    · exact (nI_ltI (b := 4) (by omega) (by omega)).mp q2
    · have : ¬ n < 4 := fun z => q2 ((nI_ltI (b := 4) (by omega) (by omega)).mpr z)
      omega
  refine eX6_newShelfFault gk ⟨fun q => h3 (fun z => z.1 q), fun q1 => ⟨fun q => h3 (fun z => z.2.1 q), fun q2 => ⟨fun q => h3 (fun z => z.2.2.1 q), fun q3 => ⟨fun q4 => ⟨fun q5 => ⟨_, rfl, h.s.ty, g ⟨q1, q2, q3, Int32.not_lt.mpr q4, Or.inl q5⟩⟩, fun q5 => ⟨fun q6 => ⟨_, rfl, h.s.ty, g ⟨q1, q2, q3, Int32.not_lt.mpr q4, Or.inr (Or.inl q6)⟩⟩, fun q6 => ⟨fun q7 => ⟨_, rfl, h.s.ty, g ⟨q1, q2, q3, Int32.not_lt.mpr q4, Or.inr (Or.inr q7)⟩⟩, fun q7 => h3 (fun z => z.2.2.2.2.elim q5 (fun y => y.elim q6 q7))⟩⟩⟩, fun q => h3 (fun z => q (Int32.not_lt.mp z.2.2.2.1))⟩⟩⟩⟩
theorem kX6_shelfFault (gk : GOK G) (h : RV σ st P b n ω ρ) {x : Int32} (h1 : ¬ shP P x → K (.inl (some (vI 1))) σ) (h0 : ∀ k : Nat, k < n → x = nI k → K (.inl (some (vI 0))) σ) : Runs G mX6_shelfFault rX6_shelfFault [vR (some st), vI x] σ K :=
  eX6_shelfFault gk ⟨_, rfl, h.s.ty, cFindShelf gk h (fun q6 => vX6_shelfFault_5 gk ⟨fun _ => h1 q6, fun _ q => (by cases q)⟩) fun k hk e => vX6_shelfFault_5 gk ⟨fun q => (by cases q), fun _ _ => h0 k hk e⟩⟩
theorem kX6_hearFault (gk : GOK G) (h : RV σ st P b n ω ρ) {x y : Int32} (hc : isC y) (h1 : ¬ shP P x → K (.inl (some (vI 1))) σ) (h2 : shP P x → ¬ jrP P y → K (.inl (some (vI 2))) σ) (h0 : ∀ k l : Nat, k < n → l < 26 → x = nI k → y = nI (97 + l) → P (8 + 3 * l) = 1 → K (.inl (some (vI 0))) σ) : Runs G mX6_hearFault rX6_hearFault [vR (some st), vI x, vI y] σ K :=
  eX6_hearFault gk ⟨_, rfl, h.s.ty, cFindShelf gk h (fun q6 => vX6_hearFault_5 gk ⟨fun _ => vX6_hearFault_17 gk (h1 q6), fun _ q => (by cases q)⟩) fun k hk e => vX6_hearFault_5 gk ⟨fun q => (by cases q), fun _ _ => ⟨_, rfl, h.s.ty, kX6_jarFault gk h hc (fun q => vX6_hearFault_17 gk (h2 (by rw [e]; exact h.sh hk) q)) fun l hl e2 hp => vX6_hearFault_17 gk (h0 k l hk hl e e2 hp)⟩⟩⟩
theorem kX6_warmFault (gk : GOK G) (h : RV σ st P b n ω ρ) (hm : m ≤ 8) (hW : WV (vW σ ω) P m) {x y z : Int32} (hc : isC y) (h1 : ¬ shP P x → K (.inl (some (vI 1))) σ) (h2 : shP P x → ¬ jrP P y → K (.inl (some (vI 2))) σ) (h3 : shP P x → jrP P y → ¬ (¬ z < 1 ∧ ¬ 50 < z) → K (.inl (some (vI 3))) σ) (h4 : shP P x → jrP P y → ¬ z < 1 → ¬ 50 < z → m = 8 → K (.inl (some (vI 4))) σ) (h0 : ∀ k l : Nat, k < n → l < 26 → x = nI k → y = nI (97 + l) → P (8 + 3 * l) = 1 → ¬ z < 1 → ¬ 50 < z → m < 8 → K (.inl (some (vI 0))) σ) : Runs G mX6_warmFault rX6_warmFault [vR (some st), vI x, vI y, vI z] σ K := by
  refine eX6_warmFault gk ⟨_, rfl, h.s.ty, kX6_hearFault gk h hc (fun q => vX6_warmFault_6 gk ⟨fun w => absurd w (by decide), fun _ => h1 q⟩) (fun q q2 => vX6_warmFault_6 gk ⟨fun w => absurd w (by decide), fun _ => h2 q q2⟩) fun k l hk hl ex ey hp => vX6_warmFault_6 gk ⟨fun _ => ?_, fun w => absurd rfl w⟩⟩
  have s1 : shP P x := by rw [ex]; exact h.sh hk
  have s2 : jrP P y := ⟨l, hl, ey, hp⟩
  refine ⟨fun q => h3 s1 s2 (fun w => w.1 q), fun q1 => ⟨fun q2 => ⟨_, rfl, h.s.ty, kX6_countWarmings gk h.s hm hW (vX6_warmFault_33 gk ⟨fun q3 => h0 k l hk hl ex ey hp q1 (Int32.not_lt.mpr q2) ?_, fun q3 => h4 s1 s2 q1 (Int32.not_lt.mpr q2) ?_⟩)⟩, fun q2 => h3 s1 s2 (fun w => q2 (Int32.not_lt.mp w.2))⟩⟩
  · exact (nI_ltI (b := 8) (by omega) (by omega)).mp q3
  · have : ¬ m < 8 := fun z => q3 ((nI_ltI (b := 8) (by omega) (by omega)).mpr z)
    omega
theorem kX6_passFault (gk : GOK G) {x : Int32} (h3 : ¬ (¬ x < 1 ∧ ¬ 60 < x) → K (.inl (some (vI 3))) σ) (h0 : ¬ x < 1 → ¬ 60 < x → K (.inl (some (vI 0))) σ) : Runs G mX6_passFault rX6_passFault [vR (some st), vI x] σ K :=
  eX6_passFault gk ⟨fun q => h3 (fun z => z.1 q), fun q => ⟨fun q2 => h0 q (Int32.not_lt.mpr q2), fun q2 => h3 (fun z => q2 (Int32.not_lt.mp z.2))⟩⟩
theorem kX6_jarLetter_5 (gk : GOK G) (h : RV σ st P b n ω ρ) {x : Int32} : ∀ (d l c : Nat), l + d = 26 → K (.inl (some (vI (nthX (jP P) x d l c)))) σ → At G mX6_jarLetter rX6_jarLetter 0 0 5 [some (vR (some st)), some (vI x), some (vI (nI c)), some (vI (nI (97 + l)))] [] σ K
  | 0, l, c, hl, hk => by
    obtain rfl : l = 26 := by omega
    exact vX6_jarLetter_5 gk ⟨fun _ => hk, fun q => absurd (by decide) q⟩
  | d + 1, l, c, hl, hk => by
    refine vX6_jarLetter_5 gk ⟨fun q => absurd q (let_le (by omega)), fun _ => ⟨_, rfl, h.s.ty, cFindJar gk h (isC_nI (by omega)) (fun q6 => vX6_jarLetter_16 gk ⟨fun _ => ?_, fun _ q => (by cases q)⟩) fun l' hl' e hp => vX6_jarLetter_16 gk ⟨fun q => (by cases q), fun _ _ => ⟨fun q2 => ?_, fun q2 => ?_⟩⟩⟩⟩
    · rw [i2c_nx (by omega)]
      have hn : ¬ jP P l := fun z => q6 ⟨l, by omega, rfl, z⟩
      simp only [nthX, hn, if_false] at hk
      exact kX6_jarLetter_5 gk h d (l + 1) c (by omega) hk
    · rw [i2c_nx (by omega), nA1]
      have := nIl_inj (show l < 26 by omega) hl' e
      subst this
      have hn : jP P l := hp
      simp only [nthX, hn, if_true, q2, if_false] at hk
      exact kX6_jarLetter_5 gk h d (l + 1) (c + 1) (by omega) hk
    · have := nIl_inj (show l < 26 by omega) hl' e
      subst this
      have hn : jP P l := hp
      simp only [nthX, hn, if_true, q2] at hk
      exact ⟨isC_nI (by omega), hk⟩
theorem kX6_jarLetter (gk : GOK G) (h : RV σ st P b n ω ρ) {x : Int32} (hk : K (.inl (some (vI (nthX (jP P) x 26 0 0)))) σ) : Runs G mX6_jarLetter rX6_jarLetter [vR (some st), vI x] σ K := eX6_jarLetter gk (kX6_jarLetter_5 gk h 26 0 0 rfl hk)
theorem nthX_nth {p : Nat → Prop} {i : Nat} (hi : i < 2 ^ 30) : ∀ (d l : Nat), l + d = 26 → cnt p l ≤ i → nthX p (nI i) d l (cnt p l) = (match nth p i 26 with | none => 32 | some v => nI (97 + v))
  | 0, l, h, hc => by
    obtain rfl : l = 26 := by omega
    cases hv : nth p i 26 with
    | none => rfl
    | some v =>
      exfalso
      have h1 := nth_lt hv
      have h2 : ∀ k, v < k → cnt p v + 1 ≤ cnt p k := fun k hk => by
        induction k with
        | zero => omega
        | succ k ih =>
          by_cases e : v = k
          · subst e; rw [cnt_t h1.2.1]; omega
          · have := ih (by omega)
            have : cnt p k ≤ cnt p (k + 1) := by
              by_cases q : p k
              · rw [cnt_t q]; omega
              · rw [cnt_f q]; omega
            omega
      have := h2 26 h1.1
      omega
  | d + 1, l, h, hc => by
    have hle := cnt_le p l
    by_cases q : p l
    · simp only [nthX, q, if_true]
      by_cases q2 : nI (cnt p l) = nI i
      · rw [if_pos q2]
        have e := (nI_eq (by omega) (by omega)).mp q2
        have hu : ∀ k, nth p i (l + 1 + k) = some l := fun k => by
          induction k with
          | zero => exact nth_t q e
          | succ k ih =>
            rw [show l + 1 + (k + 1) = (l + 1 + k) + 1 by omega, nth_f, ih]
            intro z
            have h3 : ∀ k, cnt p l + 1 ≤ cnt p (l + 1 + k) := fun k => by
              induction k with
              | zero => show _ ≤ cnt p (l + 1); rw [cnt_t q]; omega
              | succ k ih =>
                have : cnt p (l + 1 + k) ≤ cnt p (l + 1 + k + 1) := by
                  by_cases q : p (l + 1 + k)
                  · rw [cnt_t q]; omega
                  · rw [cnt_f q]; omega
                rw [show l + 1 + (k + 1) = l + 1 + k + 1 by omega]
                omega
            have := h3 k
            omega
        have := hu d
        rw [show l + 1 + d = 26 by omega] at this
        rw [this]
      · rw [if_neg q2]
        have ih := nthX_nth (p := p) hi d (l + 1) (by omega) (by
          rw [cnt_t q]
          have : cnt p l ≠ i := fun z => q2 (by rw [z])
          omega)
        rw [cnt_t q] at ih
        exact ih
    · simp only [nthX, q, if_false]
      have ih := nthX_nth (p := p) hi d (l + 1) (by omega) (by rw [cnt_f q]; exact hc)
      rw [cnt_f q] at ih
      exact ih
theorem nthX_neg {p : Nat → Prop} {x : Int32} (hx : x < 0) : ∀ (d l c : Nat), c + d < 2 ^ 31 → nthX p x d l c = 32
  | 0, l, c, _ => rfl
  | d + 1, l, c, h => by
    by_cases q : p l
    · simp only [nthX, q, if_true]
      rw [if_neg (fun z => by rw [← z] at hx; exact nI_pos (by omega) hx)]
      exact nthX_neg hx d (l + 1) (c + 1) (by omega)
    · simp only [nthX, q, if_false]
      exact nthX_neg hx d (l + 1) c (by omega)
end SF
