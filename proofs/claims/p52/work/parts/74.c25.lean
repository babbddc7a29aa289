/-! ===== the class: its object; its questions ===== -/
/-- the pantry at x: its state at x + 1, history at x + 71, snapshot at x + 703, text at x + 773, line at x + 786 -/
def CS (σ : Mm) (x : Nat) : Prop := (mt σ x).1 = 9 ∧ mr σ x 0 = some (x + 1) ∧ mr σ x 1 = some (x + 71) ∧ mr σ x 2 = some (x + 703) ∧ mr σ x 4 = some (x + 773) ∧ mr σ x 7 = some (x + 786)
theorem CS.loc {σ σ' : Mm} {x : Nat} (h : CS σ x) (h1 : mr σ' x = mr σ x) (h2 : mt σ' x = mt σ x) : CS σ' x := by
  unfold CS; rw [h1, h2]; exact h
theorem shP_lt {P : Nat → Int32} {k : Nat} (hB : shB P) (hk : k < 4) (h : nI k < P 0) : shP P (nI k) := by
  obtain ⟨n, hn, e⟩ := hB
  rw [e] at h
  exact (shP_n hn e (by omega)).mpr ((nI_ltI (by omega) (by omega)).mp h)
section UA
variable {G : GG} {σ : Mm} {K : RES → Mm → Prop} {x b : Nat} {P : Nat → Int32}
theorem RS.shB (h : RS σ x P b) : shB P := by
  obtain ⟨ω, ρ, n, m, hV, hW, hJ⟩ := h
  exact ⟨n, hV.n4, hV.p0⟩
theorem kX8_refuse (gk : GOK G) (hst : STR G) {z : Int32} (h0 : z = 0 → K (.inl none) σ) (h1 : z = 1 → ∀ k, K (.inr "java/lang/IndexOutOfBoundsException") (sk σ k)) (h2 : z = 2 → ∀ k, K (.inr "java/util/NoSuchElementException") (sk σ k)) (h3 : z = 3 → ∀ k, K (.inr "java/lang/IllegalArgumentException") (sk σ k)) (h4 : z = 4 → ∀ k, K (.inr "java/lang/IllegalStateException") (sk σ k)) (hz : z = 0 ∨ z = 1 ∨ z = 2 ∨ z = 3 ∨ z = 4) : Runs G mX8_refuse rX8_refuse [vI z] σ K :=
  eX8_refuse gk hst ⟨fun q1 => ⟨fun q2 => ⟨fun q3 => ⟨fun q4 => h0 (by rcases hz with z | z | z | z | z <;> first | exact z | exact absurd z (by assumption)), h4⟩, h3⟩, h2⟩, h1⟩
theorem cWantShelf (gk : GOK G) (hst : STR G) (hX : CS σ x) (h : RS σ (x + 1) P b) {s : Int32} (h1 : ¬ shP P s → ∀ k, K (.inr "java/lang/IndexOutOfBoundsException") (sk σ k)) (hk : ∀ k n ω ρ m, RV σ (x + 1) P b n ω ρ → RW σ ω P n m b → EJ P n → k < n → s = nI k → K (.inl (some (vR (some (x + 1 + 30 + 8 * k))))) σ) : Runs G mX8_wantShelf rX8_wantShelf [vR (some x), vI s] σ K := by
  obtain ⟨ω, ρ, n, m, hV, hW, hJ⟩ := h
  refine eX8_wantShelf gk ⟨_, rfl, hX.1, _, hX.2.1, hV.s.ty, ?_⟩
  rw [hX.2.1]
  exact cFindShelf gk hV (fun q => vX8_wantShelf_8 gk hst ⟨fun _ => h1 q, fun a z => (by cases z)⟩) fun k hkn e => vX8_wantShelf_8 gk hst ⟨fun z => (by cases z), fun a z => hk k n ω ρ m hV hW hJ hkn e⟩
theorem cWantEcho (gk : GOK G) (hst : STR G) (hX : CS σ x) (h : RS σ (x + 1) P b) {s y : Int32} (h1 : ¬ shP P s → ∀ k, K (.inr "java/lang/IndexOutOfBoundsException") (sk σ k)) (h2 : ∀ k : Nat, k < 4 → s = nI k → nI k < P 0 → ¬ ecP P k y → ∀ k, K (.inr "java/util/NoSuchElementException") (sk σ k)) (hk : ∀ k l e n ω ρ m, RV σ (x + 1) P b n ω ρ → RW σ ω P n m b → EJ P n → k < n → l < 26 → s = nI k → y = nI (97 + l) → P (eX k l) = 1 → fndE σ (ρ k) y = some e → K (.inl (some (vR (some e)))) σ) : Runs G mX8_wantEcho rX8_wantEcho [vR (some x), vI s, vI y] σ K := by
  refine eX8_wantEcho gk ⟨_, rfl, hX.1, cWantShelf gk hst hX h h1 fun k n ω ρ m hV hW hJ hkn es => vX8_wantEcho_5 gk ⟨_, rfl, (hV.ss hkn).ty, kX5_find gk (hV.ss hkn) ?_⟩⟩
  have hn4 := hV.n4
  by_cases q : ecP P k y
  · obtain ⟨l, hl, ey, hp⟩ := q
    obtain ⟨e, hf, he, -⟩ := (hV.ea hkn).find1 hl hp
    rw [ey, hf]
    refine vX8_wantEcho_9 gk hst ⟨fun z => (by cases z), fun a z => hk k l e n ω ρ m hV hW hJ hkn hl es ey hp (by rw [ey]; exact hf)⟩
  · rw [(hV.ea hkn).find0 q]
    exact vX8_wantEcho_9 gk hst ⟨fun _ => h2 k (by omega) es (by rw [hV.p0]; exact nI_lt hkn (by omega)) q, fun a z => (by cases z)⟩
theorem cWantWarming (gk : GOK G) (hst : STR G) (hX : CS σ x) (h : RS σ (x + 1) P b) {s : Int32} {m : Nat} (hP1 : P 1 = nI m) (hm8 : m ≤ 8) (h1 : ¬ (∃ i : Nat, i < m ∧ s = nI i) → ∀ k, K (.inr "java/lang/IndexOutOfBoundsException") (sk σ k)) (hk : ∀ i e n ω ρ, RV σ (x + 1) P b n ω ρ → RW σ ω P n m b → EJ P n → i < m → s = nI i → ω[i]? = some e → K (.inl (some (vR (some e)))) σ) : Runs G mX8_wantWarming rX8_wantWarming [vR (some x), vI s] σ K := by
  obtain ⟨ω, ρ, n, m', hV, hW, hJ⟩ := h
  have hm := hW.2.1
  have : m' = m := (nI_eq (by omega) (by omega)).mp (hm.2.symm.trans hP1)
  subst this
  refine eX8_wantWarming gk ⟨_, rfl, hX.1, _, hX.2.1, hV.s.ty, ?_⟩
  rw [hX.2.1]
  exact kX6_findWarming gk hV.s hm8 hW.1 (fun q => vX8_wantWarming_8 gk hst ⟨fun _ => h1 q, fun a z => (by cases z)⟩) fun i e hi es he => vX8_wantWarming_8 gk hst ⟨fun z => (by cases z), fun a z => hk i e n ω ρ hV hW hJ hi es he⟩
theorem cWantJar (gk : GOK G) (hst : STR G) (hX : CS σ x) (h : RS σ (x + 1) P b) {y : Int32} (hc : isC y) (h1 : ¬ jrP P y → ∀ k, K (.inr "java/util/NoSuchElementException") (sk σ k)) (hk : ∀ l n ω ρ, RV σ (x + 1) P b n ω ρ → l < 26 → y = nI (97 + l) → P (8 + 3 * l) = 1 → K (.inl (some (vR (some (x + 1 + 4 + l))))) σ) : Runs G mX8_wantJar rX8_wantJar [vR (some x), vI y] σ K := by
  obtain ⟨ω, ρ, n, m, hV, hW, hJ⟩ := h
  refine eX8_wantJar gk ⟨_, rfl, hX.1, _, hX.2.1, hV.s.ty, ?_⟩
  rw [hX.2.1]
  exact cFindJar gk hV hc (fun q => vX8_wantJar_8 gk hst ⟨fun _ => h1 q, fun a z => (by cases z)⟩) fun l hl e hp => vX8_wantJar_8 gk hst ⟨fun z => (by cases z), fun a z => hk l n ω ρ hV hl e hp⟩
theorem c_jarCount (gk : GOK G) (hX : CS σ x) (h : RS σ (x + 1) P b) (hk : K (.inl (some (vI (nI (jrN P))))) σ) : Runs G mX8_jarCount rX8_jarCount [vR (some x)] σ K := by
  obtain ⟨ω, ρ, n, m, hV, hW, hJ⟩ := h
  refine eX8_jarCount gk ⟨_, rfl, hX.1, _, hX.2.1, hV.s.ty, ?_⟩
  rw [hX.2.1]
  exact kX6_countJars gk hV.s hV.j hV.z (vX8_jarCount_7 gk hk)
theorem c_shelfCount (gk : GOK G) (hX : CS σ x) (h : RS σ (x + 1) P b) (hk : K (.inl (some (vI (P 0)))) σ) : Runs G mX8_shelfCount rX8_shelfCount [vR (some x)] σ K := by
  obtain ⟨ω, ρ, n, m, hV, hW, hJ⟩ := h
  refine eX8_shelfCount gk ⟨_, rfl, hX.1, _, hX.2.1, hV.s.ty, ?_⟩
  rw [hX.2.1]
  exact kX6_countShelves gk hV.s hV.2 (vX8_shelfCount_7 gk (by rw [← hV.p0]; exact hk))
theorem c_warmingCount (gk : GOK G) (hX : CS σ x) (h : RS σ (x + 1) P b) (hk : K (.inl (some (vI (P 1)))) σ) : Runs G mX8_warmingCount rX8_warmingCount [vR (some x)] σ K := by
  obtain ⟨ω, ρ, n, m, hV, hW, hJ⟩ := h
  refine eX8_warmingCount gk ⟨_, rfl, hX.1, _, hX.2.1, hV.s.ty, ?_⟩
  rw [hX.2.1]
  exact kX6_countWarmings gk hV.s hW.2.1.1 hW.1 (vX8_warmingCount_7 gk (by rw [← hW.2.1.2]; exact hk))
theorem c_time (gk : GOK G) (hX : CS σ x) (h : RS σ (x + 1) P b) (hk : K (.inl (some (vI (P 2)))) σ) : Runs G mX8_time rX8_time [vR (some x)] σ K := by
  obtain ⟨ω, ρ, n, m, hV, hW, hJ⟩ := h
  exact eX8_time gk ⟨_, rfl, hX.1, _, hX.2.1, hV.s.ty, by rw [hV.g3]; exact hk⟩
theorem c_hits (gk : GOK G) (hX : CS σ x) (h : RS σ (x + 1) P b) (hk : K (.inl (some (vI (P 4)))) σ) : Runs G mX8_hits rX8_hits [vR (some x)] σ K := by
  obtain ⟨ω, ρ, n, m, hV, hW, hJ⟩ := h
  exact eX8_hits gk ⟨_, rfl, hX.1, _, hX.2.1, hV.s.ty, by rw [hV.g5]; exact hk⟩
theorem c_misses (gk : GOK G) (hst : STR G) (hX : CS σ x) (h : RS σ (x + 1) P b) {y : Int32} (h1 : ¬ y = 99 → ¬ y = 101 → ¬ y = 111 → ∀ k, K (.inr "java/lang/IllegalArgumentException") (sk σ k)) (hc : y = 99 → K (.inl (some (vI (P 5)))) σ) (he : y = 101 → K (.inl (some (vI (P 6)))) σ) (ho : y = 111 → K (.inl (some (vI (P 7)))) σ) : Runs G mX8_misses rX8_misses [vR (some x), vI y] σ K := by
  obtain ⟨ω, ρ, n, m, hV, hW, hJ⟩ := h
  exact eX8_misses gk hst ⟨fun q1 => ⟨fun q2 => ⟨fun q3 => h1 q1 q2 q3, fun q3 => ⟨_, rfl, hX.1, _, hX.2.1, hV.s.ty, by rw [hV.g8]; exact ho q3⟩⟩, fun q2 => ⟨_, rfl, hX.1, _, hX.2.1, hV.s.ty, by rw [hV.g7]; exact he q2⟩⟩, fun q1 => ⟨_, rfl, hX.1, _, hX.2.1, hV.s.ty, by rw [hV.g6]; exact hc q1⟩⟩
theorem nthX_big {p : Nat → Prop} {i : Nat} (hi : i < 2 ^ 31) : ∀ (d l c : Nat), c + d ≤ i → nthX p (nI i) d l c = 32
  | 0, l, c, _ => rfl
  | d + 1, l, c, h => by
    by_cases q : p l
    · simp only [nthX, q, if_true]
      rw [if_neg (fun z => by have := (nI_eq (by omega) (by omega)).mp z; omega)]
      exact nthX_big hi d (l + 1) (c + 1) (by omega)
    · simp only [nthX, q, if_false]
      exact nthX_big hi d (l + 1) c (by omega)
/-- the place of a letter, by both ways -/
theorem nthX_at {p : Nat → Prop} {s : Int32} (R : Int32 → Prop) (h1 : ¬ (∃ i : Nat, i < cnt p 26 ∧ s = nI i) → R 32) (hk : ∀ i l : Nat, i < cnt p 26 → s = nI i → l < 26 → nth p i 26 = some l → R (nI (97 + l))) : R (nthX p s 26 0 0) := by
  have hc := cnt_le p 26
  by_cases hn : s < 0
  · rw [nthX_neg hn 26 0 0 (by omega)]
    refine h1 fun z => ?_
    obtain ⟨i, hi, rfl⟩ := z
    exact nI_pos (by omega) hn
  · obtain ⟨i, hi, rfl⟩ := nI_of hn
    by_cases hb : i < cnt p 26
    · obtain ⟨l, hl⟩ := nth_ex hb
      have := nthX_nth (p := p) (i := i) (by omega) 26 0 rfl (Nat.zero_le _)
      rw [show cnt p 0 = 0 from rfl, hl] at this
      rw [this]
      exact hk i l hb rfl (nth_lt hl).1 hl
    · have e : nthX p (nI i) 26 0 0 = 32 := by
        by_cases h30 : i < 2 ^ 30
        · have := nthX_nth (p := p) (i := i) h30 26 0 rfl (Nat.zero_le _)
          rw [show cnt p 0 = 0 from rfl] at this
          rw [this]
          cases hn : nth p i 26 with
          | none => rfl
          | some v =>
            obtain ⟨a1, a2, a3⟩ := nth_lt hn
            exfalso
            have : ∀ d v, v + d = 25 → p v → cnt p v < cnt p 26 := fun d => by
              intro v hv hp
              have h2 : cnt p (v + 1) = cnt p v + 1 := cnt_t hp
              have h3 : ∀ e k, cnt p k ≤ cnt p (k + e) := fun e => by
                induction e with
                | zero => intro k; exact Nat.le_refl _
                | succ e ih =>
                  intro k
                  have := ih k
                  rw [← Nat.add_assoc, cnt]
                  omega
              have h4 := h3 d (v + 1)
              rw [show v + 1 + d = 26 by omega] at h4
              omega
            have := this (25 - v) v (by omega) a2
            omega
        · exact nthX_big hi 26 0 0 (by omega)
      rw [e]
      refine h1 fun z => ?_
      obtain ⟨i', hi', e'⟩ := z
      have := (nI_eq (by omega) (by omega)).mp e'
      omega
theorem nIl_32 {l : Nat} (h : l < 26) : ¬ nI (97 + l) = 32 := fun z => by
  have := (nI_eq (a := 97 + l) (b := 32) (by omega) (by omega)).mp z
  omega
theorem c_jarAt (gk : GOK G) (hst : STR G) (hX : CS σ x) (h : RS σ (x + 1) P b) {s : Int32} (h1 : ¬ (∃ i : Nat, i < jrN P ∧ s = nI i) → ∀ k, K (.inr "java/lang/IndexOutOfBoundsException") (sk σ k)) (hk : ∀ i l : Nat, i < jrN P → s = nI i → l < 26 → nth (jP P) i 26 = some l → K (.inl (some (vI (nI (97 + l))))) σ) : Runs G mX8_jarAt rX8_jarAt [vR (some x), vI s] σ K := by
  obtain ⟨ω, ρ, n, m, hV, hW, hJ⟩ := h
  refine eX8_jarAt gk ⟨_, rfl, hX.1, _, hX.2.1, hV.s.ty, ?_⟩
  rw [hX.2.1]
  refine kX6_jarLetter gk hV ?_
  exact nthX_at (p := jP P) (s := s) (fun v => At G mX8_jarAt rX8_jarAt 0 0 8 [some (vR (some x)), some (vI s), none] [vI v] σ K) (fun q => vX8_jarAt_8 gk hst ⟨fun z => absurd rfl z, fun _ => h1 q⟩) fun i l hi es hl hn => vX8_jarAt_8 gk hst ⟨fun z => ⟨isC_nI (by omega), hk i l hi es hl hn⟩, fun z => absurd z (nIl_32 hl)⟩
theorem c_wordOf (gk : GOK G) (hst : STR G) (hX : CS σ x) (h : RS σ (x + 1) P b) {y : Int32} (hc : isC y) (h1 : ¬ jrP P y → ∀ k, K (.inr "java/util/NoSuchElementException") (sk σ k)) (hk : ∀ l : Nat, l < 26 → y = nI (97 + l) → P (8 + 3 * l) = 1 → K (.inl (some (vI (P (8 + 3 * l + 1))))) σ) : Runs G mX8_wordOf rX8_wordOf [vR (some x), vI y] σ K := by
  refine eX8_wordOf gk ⟨_, rfl, hX.1, cWantJar gk hst hX h hc h1 fun l n ω ρ hV hl e hp => vX8_wordOf_5 gk ⟨_, rfl, (hV.s.j hl).2, ?_⟩⟩
  rw [hV.j1 hl]
  exact hk l hl e hp
theorem c_capacityOf (gk : GOK G) (hst : STR G) (hX : CS σ x) (h : RS σ (x + 1) P b) {s : Int32} (h1 : ¬ shP P s → ∀ k, K (.inr "java/lang/IndexOutOfBoundsException") (sk σ k)) (hk : ∀ k : Nat, k < 4 → s = nI k → nI k < P 0 → K (.inl (some (vI (P (86 + 187 * k))))) σ) : Runs G mX8_capacityOf rX8_capacityOf [vR (some x), vI s] σ K := by
  refine eX8_capacityOf gk ⟨_, rfl, hX.1, cWantShelf gk hst hX h h1 fun k n ω ρ m hV hW hJ hkn e => vX8_capacityOf_5 gk ⟨_, rfl, (hV.ss hkn).ty, ?_⟩⟩
  have hn4 := hV.n4
  have h9 := hk k (by omega) e (by rw [hV.p0]; exact nI_lt hkn (by omega))
  rw [hV.h1 hkn]; exact h9
theorem c_lifetimeOf (gk : GOK G) (hst : STR G) (hX : CS σ x) (h : RS σ (x + 1) P b) {s : Int32} (h1 : ¬ shP P s → ∀ k, K (.inr "java/lang/IndexOutOfBoundsException") (sk σ k)) (hk : ∀ k : Nat, k < 4 → s = nI k → nI k < P 0 → K (.inl (some (vI (P (86 + 187 * k + 1))))) σ) : Runs G mX8_lifetimeOf rX8_lifetimeOf [vR (some x), vI s] σ K := by
  refine eX8_lifetimeOf gk ⟨_, rfl, hX.1, cWantShelf gk hst hX h h1 fun k n ω ρ m hV hW hJ hkn e => vX8_lifetimeOf_5 gk ⟨_, rfl, (hV.ss hkn).ty, ?_⟩⟩
  have hn4 := hV.n4
  have h9 := hk k (by omega) e (by rw [hV.p0]; exact nI_lt hkn (by omega))
  rw [hV.h2 hkn]; exact h9
theorem c_policyOf (gk : GOK G) (hst : STR G) (hX : CS σ x) (h : RS σ (x + 1) P b) {s : Int32} (h1 : ¬ shP P s → ∀ k, K (.inr "java/lang/IndexOutOfBoundsException") (sk σ k)) (hk : ∀ k : Nat, k < 4 → s = nI k → nI k < P 0 → K (.inl (some (vI (P (86 + 187 * k + 2))))) σ) : Runs G mX8_policyOf rX8_policyOf [vR (some x), vI s] σ K := by
  refine eX8_policyOf gk ⟨_, rfl, hX.1, cWantShelf gk hst hX h h1 fun k n ω ρ m hV hW hJ hkn e => vX8_policyOf_5 gk ⟨_, rfl, (hV.ss hkn).ty, ?_⟩⟩
  have hn4 := hV.n4
  have h9 := hk k (by omega) e (by rw [hV.p0]; exact nI_lt hkn (by omega))
  rw [hV.h3 hkn]; exact ⟨(hV.pi.2.2.2.1 k hkn).2.2.1, h9⟩
theorem c_isListening (gk : GOK G) (hst : STR G) (hX : CS σ x) (h : RS σ (x + 1) P b) {s : Int32} (h1 : ¬ shP P s → ∀ k, K (.inr "java/lang/IndexOutOfBoundsException") (sk σ k)) (hk : ∀ k : Nat, k < 4 → s = nI k → nI k < P 0 → K (.inl (some (vI (P (86 + 187 * k + 3))))) σ) : Runs G mX8_isListening rX8_isListening [vR (some x), vI s] σ K := by
  refine eX8_isListening gk ⟨_, rfl, hX.1, cWantShelf gk hst hX h h1 fun k n ω ρ m hV hW hJ hkn e => vX8_isListening_5 gk ⟨_, rfl, (hV.ss hkn).ty, ?_⟩⟩
  have hn4 := hV.n4
  have h9 := hk k (by omega) e (by rw [hV.p0]; exact nI_lt hkn (by omega))
  rw [hV.h4 hkn]; exact ⟨(hV.pi.2.2.2.1 k hkn).2.2.2.1, h9⟩
theorem c_echoCount (gk : GOK G) (hst : STR G) (hX : CS σ x) (h : RS σ (x + 1) P b) {s : Int32} (h1 : ¬ shP P s → ∀ k, K (.inr "java/lang/IndexOutOfBoundsException") (sk σ k)) (hk : ∀ k : Nat, k < 4 → s = nI k → nI k < P 0 → K (.inl (some (vI (nI (ecN P k))))) σ) : Runs G mX8_echoCount rX8_echoCount [vR (some x), vI s] σ K := by
  refine eX8_echoCount gk ⟨_, rfl, hX.1, cWantShelf gk hst hX h h1 fun k n ω ρ m hV hW hJ hkn e => vX8_echoCount_5 gk ⟨_, rfl, (hV.ss hkn).ty, ?_⟩⟩
  have hn4 := hV.n4
  have h9 := hk k (by omega) e (by rw [hV.p0]; exact nI_lt hkn (by omega))
  refine kX5_countEchoes gk (hV.ss hkn) (vX8_echoCount_8 gk ?_); rw [(hV.ea hkn).count (hV.nd (by omega))]; exact h9
theorem c_echoAt (gk : GOK G) (hst : STR G) (hX : CS σ x) (h : RS σ (x + 1) P b) {s y : Int32} (h1 : ¬ shP P s → ∀ k, K (.inr "java/lang/IndexOutOfBoundsException") (sk σ k)) (h2 : ∀ k : Nat, k < 4 → s = nI k → nI k < P 0 → ¬ (∃ i : Nat, i < ecN P k ∧ y = nI i) → ∀ k, K (.inr "java/util/NoSuchElementException") (sk σ k)) (hk : ∀ k i l : Nat, k < 4 → s = nI k → nI k < P 0 → i < ecN P k → y = nI i → l < 26 → nth (eP P k) i 26 = some l → K (.inl (some (vI (nI (97 + l))))) σ) : Runs G mX8_echoAt rX8_echoAt [vR (some x), vI s, vI y] σ K := by
  refine eX8_echoAt gk ⟨_, rfl, hX.1, cWantShelf gk hst hX h h1 fun k n ω ρ m hV hW hJ hkn e => vX8_echoAt_5 gk ⟨_, rfl, (hV.ss hkn).ty, kX5_letterAt gk (hV.ss hkn) ?_⟩⟩
  have hn4 := hV.n4
  have h0 : nI k < P 0 := by rw [hV.p0]; exact nI_lt hkn (by omega)
  have hpe : (fun l => (fndE σ (ρ k) (nI (97 + l))).isSome = true) = fun l => (if l < 26 then eP P k l else (fndE σ (ρ k) (nI (97 + l))).isSome = true) := funext fun l => by
    by_cases z : l < 26
    · rw [if_pos z]
      refine propext ⟨fun q => ?_, fun q => ?_⟩
      · by_cases w : P (eX k l) = 1
        · exact w
        · rw [(hV.ea hkn).find0 (x := nI (97 + l)) (fun y => w ((ecP_l z).mp y))] at q
          cases q
      · obtain ⟨e, hf, -⟩ := (hV.ea hkn).find1 z (show P (eX k l) = 1 from q)
        rw [hf]; rfl
    · rw [if_neg z]
  have hcn : cnt (fun l => (fndE σ (ρ k) (nI (97 + l))).isSome = true) 26 = ecN P k := by
    rw [hpe]
    exact cnt_congr fun i hi => by rw [if_pos hi]; exact Iff.rfl
  have hnt : ∀ i, nth (fun l => (fndE σ (ρ k) (nI (97 + l))).isSome = true) i 26 = nth (eP P k) i 26 := fun i => by
    rw [hpe]
    exact nth_congr fun j hj => by rw [if_pos hj]
  refine nthX_at (p := fun l => (fndE σ (ρ k) (nI (97 + l))).isSome = true) (s := y) (fun v => At G mX8_echoAt rX8_echoAt 1 6 9 [some (vR (some x)), some (vI s), some (vI y), none] [vI v] σ K) (fun q => vX8_echoAt_9 gk hst ⟨fun z => absurd rfl z, fun _ => h2 k (by omega) e h0 (by rw [hcn] at q; exact q)⟩) fun i l hi es hl hn => vX8_echoAt_9 gk hst ⟨fun z => ⟨isC_nI (by omega), hk k i l (by omega) e h0 (by rw [hcn] at hi; exact hi) es hl (by rw [← hnt]; exact hn)⟩, fun z => absurd z (nIl_32 hl)⟩
theorem c_hasEcho (gk : GOK G) (hst : STR G) (hX : CS σ x) (h : RS σ (x + 1) P b) {s y : Int32} (h1 : ¬ shP P s → ∀ k, K (.inr "java/lang/IndexOutOfBoundsException") (sk σ k)) (hk : ∀ k : Nat, k < 4 → s = nI k → nI k < P 0 → K (.inl (some (vI (bP (ecP P k y))))) σ) : Runs G mX8_hasEcho rX8_hasEcho [vR (some x), vI s, vI y] σ K := by
  refine eX8_hasEcho gk ⟨_, rfl, hX.1, cWantShelf gk hst hX h h1 fun k n ω ρ m hV hW hJ hkn e => vX8_hasEcho_5 gk ⟨_, rfl, (hV.ss hkn).ty, kX5_find gk (hV.ss hkn) ?_⟩⟩
  have hn4 := hV.n4
  have h9 := hk k (by omega) e (by rw [hV.p0]; exact nI_lt hkn (by omega))
  by_cases q : ecP P k y
  · obtain ⟨l, hl, ey, hp⟩ := id q
    obtain ⟨e, hf, he, -⟩ := (hV.ea hkn).find1 hl hp
    rw [bP_t q] at h9
    rw [ey, hf]
    exact vX8_hasEcho_9 gk ⟨fun z => (by cases z), fun a z => h9⟩
  · rw [bP_f q] at h9
    rw [(hV.ea hkn).find0 q]
    exact vX8_hasEcho_9 gk ⟨fun z => h9, fun a z => (by cases z)⟩
theorem c_echoOf (gk : GOK G) (hst : STR G) (hX : CS σ x) (h : RS σ (x + 1) P b) {s y : Int32} (h1 : ¬ shP P s → ∀ k, K (.inr "java/lang/IndexOutOfBoundsException") (sk σ k)) (h2 : ∀ k : Nat, k < 4 → s = nI k → nI k < P 0 → ¬ ecP P k y → ∀ k, K (.inr "java/util/NoSuchElementException") (sk σ k)) (hk : ∀ k l : Nat, k < 4 → l < 26 → s = nI k → y = nI (97 + l) → nI k < P 0 → P (eX k l) = 1 → K (.inl (some (vI (P (eX k l + 1))))) σ) : Runs G mX8_echoOf rX8_echoOf [vR (some x), vI s, vI y] σ K := by
  refine eX8_echoOf gk ⟨_, rfl, hX.1, cWantEcho gk hst hX h h1 h2 fun k l e n ω ρ m hV hW hJ hkn hl es ey hp hf => ?_⟩
  have hn4 := hV.n4
  have h9 := hk k l (by omega) hl es ey (by rw [hV.p0]; exact nI_lt hkn (by omega)) hp
  obtain ⟨e', hf', hem, e0, e1, hv⟩ := (hV.ea hkn).find1 hl hp
  rw [ey, hf'] at hf
  cases hf
  have hte := (hV.ss hkn).e hem
  exact vX8_echoOf_6 gk ⟨_, rfl, hte, by rw [hv.2.1]; exact h9⟩
theorem c_ageOf (gk : GOK G) (hst : STR G) (hX : CS σ x) (h : RS σ (x + 1) P b) {s y : Int32} (h1 : ¬ shP P s → ∀ k, K (.inr "java/lang/IndexOutOfBoundsException") (sk σ k)) (h2 : ∀ k : Nat, k < 4 → s = nI k → nI k < P 0 → ¬ ecP P k y → ∀ k, K (.inr "java/util/NoSuchElementException") (sk σ k)) (hk : ∀ k l : Nat, k < 4 → l < 26 → s = nI k → y = nI (97 + l) → nI k < P 0 → P (eX k l) = 1 → K (.inl (some (vI (P 2 - P (eX k l + 2))))) σ) : Runs G mX8_ageOf rX8_ageOf [vR (some x), vI s, vI y] σ K := by
  refine eX8_ageOf gk ⟨_, rfl, hX.1, cWantEcho gk hst hX h h1 h2 fun k l e n ω ρ m hV hW hJ hkn hl es ey hp hf => ?_⟩
  have hn4 := hV.n4
  have h9 := hk k l (by omega) hl es ey (by rw [hV.p0]; exact nI_lt hkn (by omega)) hp
  obtain ⟨e', hf', hem, e0, e1, hv⟩ := (hV.ea hkn).find1 hl hp
  rw [ey, hf'] at hf
  cases hf
  have hte := (hV.ss hkn).e hem
  exact vX8_ageOf_6 gk ⟨_, rfl, hX.1, _, hX.2.1, hV.s.ty, _, rfl, hte, kX2_age gk hte (vX8_ageOf_16 gk (by rw [hV.g3, hv.2.2.1]; exact h9))⟩
theorem c_hitsOf (gk : GOK G) (hst : STR G) (hX : CS σ x) (h : RS σ (x + 1) P b) {s y : Int32} (h1 : ¬ shP P s → ∀ k, K (.inr "java/lang/IndexOutOfBoundsException") (sk σ k)) (h2 : ∀ k : Nat, k < 4 → s = nI k → nI k < P 0 → ¬ ecP P k y → ∀ k, K (.inr "java/util/NoSuchElementException") (sk σ k)) (hk : ∀ k l : Nat, k < 4 → l < 26 → s = nI k → y = nI (97 + l) → nI k < P 0 → P (eX k l) = 1 → K (.inl (some (vI (P (eX k l + 5))))) σ) : Runs G mX8_hitsOf rX8_hitsOf [vR (some x), vI s, vI y] σ K := by
  refine eX8_hitsOf gk ⟨_, rfl, hX.1, cWantEcho gk hst hX h h1 h2 fun k l e n ω ρ m hV hW hJ hkn hl es ey hp hf => ?_⟩
  have hn4 := hV.n4
  have h9 := hk k l (by omega) hl es ey (by rw [hV.p0]; exact nI_lt hkn (by omega)) hp
  obtain ⟨e', hf', hem, e0, e1, hv⟩ := (hV.ea hkn).find1 hl hp
  rw [ey, hf'] at hf
  cases hf
  have hte := (hV.ss hkn).e hem
  exact vX8_hitsOf_6 gk ⟨_, rfl, hte, by rw [hv.2.2.2.2.2.1]; exact h9⟩
theorem c_isOpen (gk : GOK G) (hst : STR G) (hX : CS σ x) (h : RS σ (x + 1) P b) {s y : Int32} (h1 : ¬ shP P s → ∀ k, K (.inr "java/lang/IndexOutOfBoundsException") (sk σ k)) (h2 : ∀ k : Nat, k < 4 → s = nI k → nI k < P 0 → ¬ ecP P k y → ∀ k, K (.inr "java/util/NoSuchElementException") (sk σ k)) (hk : ∀ k l : Nat, k < 4 → l < 26 → s = nI k → y = nI (97 + l) → nI k < P 0 → P (eX k l) = 1 → K (.inl (some (vI (P (eX k l + 6))))) σ) : Runs G mX8_isOpen rX8_isOpen [vR (some x), vI s, vI y] σ K := by
  refine eX8_isOpen gk ⟨_, rfl, hX.1, cWantEcho gk hst hX h h1 h2 fun k l e n ω ρ m hV hW hJ hkn hl es ey hp hf => ?_⟩
  have hn4 := hV.n4
  have h9 := hk k l (by omega) hl es ey (by rw [hV.p0]; exact nI_lt hkn (by omega)) hp
  obtain ⟨e', hf', hem, e0, e1, hv⟩ := (hV.ea hkn).find1 hl hp
  rw [ey, hf'] at hf
  cases hf
  have hte := (hV.ss hkn).e hem
  exact vX8_isOpen_6 gk ⟨_, rfl, hte, ((hV.ea hkn).2.1 _ hem).2.1, by rw [hv.2.2.2.2.2.2.1]; exact h9⟩
theorem c_isExpired (gk : GOK G) (hst : STR G) (hX : CS σ x) (h : RS σ (x + 1) P b) {s y : Int32} (h1 : ¬ shP P s → ∀ k, K (.inr "java/lang/IndexOutOfBoundsException") (sk σ k)) (h2 : ∀ k : Nat, k < 4 → s = nI k → nI k < P 0 → ¬ ecP P k y → ∀ k, K (.inr "java/util/NoSuchElementException") (sk σ k)) (hk : ∀ k l : Nat, k < 4 → l < 26 → s = nI k → y = nI (97 + l) → nI k < P 0 → P (eX k l) = 1 → K (.inl (some (vI (bP (ovP P k l))))) σ) : Runs G mX8_isExpired rX8_isExpired [vR (some x), vI s, vI y] σ K := by
  refine eX8_isExpired gk ⟨_, rfl, hX.1, cWantEcho gk hst hX h h1 h2 fun k l e n ω ρ m hV hW hJ hkn hl es ey hp hf => ?_⟩
  have hn4 := hV.n4
  have h9 := hk k l (by omega) hl es ey (by rw [hV.p0]; exact nI_lt hkn (by omega)) hp
  obtain ⟨e', hf', hem, e0, e1, hv⟩ := (hV.ea hkn).find1 hl hp
  rw [ey, hf'] at hf
  cases hf
  have hte := (hV.ss hkn).e hem
  refine vX8_isExpired_6 gk ⟨_, rfl, hX.1, cWantShelf gk hst hX h (fun q => absurd (es ▸ hV.sh hkn) q) fun k' n' ω' ρ' m' hV' _ _ hkn' e' => ?_⟩; obtain rfl : k' = k := (nI_eq (by have := hV'.n4; omega) (by omega)).mp (e'.symm.trans es); refine vX8_isExpired_12 gk ⟨_, rfl, hX.1, _, hX.2.1, hV.s.ty, _, rfl, (hV'.ss hkn').ty, kX5_hasOutlived gk (hV'.ss hkn').ty hte (vX8_isExpired_23 gk ⟨bP_z _, ?_⟩)⟩; rw [hV.g3, hv.2.2.1, hV'.h2 hkn']; exact h9
theorem kX6_isTrueByCount (gk : GOK G) {st n k l e : Nat} {ω : List Nat} {ρ : Nat → List Nat} (hV : RV σ st P b n ω ρ) (hJ : EJ P n) (hkn : k < n) (hl : l < 26) (hp : P (eX k l) = 1) (hem : e ∈ ρ k) (e1 : mi σ e 1 = nI (97 + l)) (hv : eV (vJ σ st) P k l (mi σ e)) (hK : K (.inl (some (vI (bP (P (8 + 3 * l + 2) < P (eX k l + 3)))))) σ) : Runs G mX6_isTrueByCount rX6_isTrueByCount [vR (some st), vR (some e)] σ K := by
  have hte := (hV.ss hkn).e hem
  have hjt := (hV.s.j hl).2
  have hj2 : vJ σ st l 2 = mi σ (st + 4 + l) 2 := nr_s (by omega)
  have hiff := hv.2.2.2.2.2.2.2.2.2
  refine eX6_isTrueByCount gk ⟨_, rfl, hte, _, rfl, hV.s.ty, ?_⟩
  rw [e1]
  refine cFindJar gk hV (isC_nI (by omega)) (fun q => absurd ((jrP_l hl).mpr (hJ k l hkn hl hp)) q) fun l' hl' el _ => ?_
  obtain rfl := nIl_inj hl hl' el
  refine vX6_isTrueByCount_8 gk ⟨fun z => (by cases z), fun a z => ?_⟩
  cases z
  refine ⟨_, rfl, hte, hjt, fun q => ?_, fun q => ?_⟩
  · rw [bP_f (fun z => q (by rw [← hj2]; exact hiff.mpr z))] at hK; exact hK
  · rw [bP_t (hiff.mp (by rw [hj2]; exact q))] at hK; exact hK
theorem kX6_isTrueByOrder (gk : GOK G) {st n k l e : Nat} {ω : List Nat} {ρ : Nat → List Nat} (hV : RV σ st P b n ω ρ) (hJ : EJ P n) (hkn : k < n) (hl : l < 26) (hp : P (eX k l) = 1) (hem : e ∈ ρ k) (e1 : mi σ e 1 = nI (97 + l)) (hv : eV (vJ σ st) P k l (mi σ e)) (hK : K (.inl (some (vI (bP (P (8 + 3 * l + 2) < P (eX k l + 3)))))) σ) : Runs G mX6_isTrueByOrder rX6_isTrueByOrder [vR (some st), vR (some e)] σ K := by
  have hte := (hV.ss hkn).e hem
  have hjt := (hV.s.j hl).2
  refine eX6_isTrueByOrder gk ⟨_, rfl, hte, _, rfl, hV.s.ty, ?_⟩
  rw [e1]
  refine cFindJar gk hV (isC_nI (by omega)) (fun q => absurd ((jrP_l hl).mpr (hJ k l hkn hl hp)) q) fun l' hl' el _ => ?_
  obtain rfl := nIl_inj hl hl' el
  refine vX6_isTrueByOrder_8 gk ⟨fun z => (by cases z), fun a z => ?_⟩
  cases z
  refine ⟨_, rfl, hte, hjt, ?_⟩
  rw [hv.2.2.2.1, hV.j3 hl]
  refine ⟨fun q => ?_, fun q => ?_⟩
  · rw [bP_f (fun z => Int32.not_lt.mpr q z)] at hK; exact hK
  · rw [bP_t (Int32.not_le.mp q)] at hK; exact hK
theorem c_isTrue (gk : GOK G) (hst : STR G) (hX : CS σ x) (h : RS σ (x + 1) P b) {s y : Int32} (h1 : ¬ shP P s → ∀ k, K (.inr "java/lang/IndexOutOfBoundsException") (sk σ k)) (h2 : ∀ k : Nat, k < 4 → s = nI k → nI k < P 0 → ¬ ecP P k y → ∀ k, K (.inr "java/util/NoSuchElementException") (sk σ k)) (hk : ∀ k l : Nat, k < 4 → l < 26 → s = nI k → y = nI (97 + l) → nI k < P 0 → P (eX k l) = 1 → K (.inl (some (vI (bP (P (8 + 3 * l + 2) < P (eX k l + 3)))))) σ) : Runs G mX8_isTrue rX8_isTrue [vR (some x), vI s, vI y] σ K := by
  refine eX8_isTrue gk ⟨_, rfl, hX.1, cWantEcho gk hst hX h h1 h2 fun k l e n ω ρ m hV hW hJ hkn hl es ey hp hf => ?_⟩
  have hn4 := hV.n4
  have h9 := hk k l (by omega) hl es ey (by rw [hV.p0]; exact nI_lt hkn (by omega)) hp
  obtain ⟨e', hf', hem, e0, e1, hv⟩ := (hV.ea hkn).find1 hl hp
  rw [ey, hf'] at hf
  cases hf
  have hte := (hV.ss hkn).e hem
  rw [hX.2.1]; exact vX8_isTrue_10 gk ⟨_, rfl, hV.s.ty, kX6_isTrueByCount gk hV hJ hkn hl hp hem e1 hv (vX8_isTrue_13 gk ⟨bP_z _, h9⟩)⟩
theorem c_isTrueBySteps (gk : GOK G) (hst : STR G) (hX : CS σ x) (h : RS σ (x + 1) P b) {s y : Int32} (h1 : ¬ shP P s → ∀ k, K (.inr "java/lang/IndexOutOfBoundsException") (sk σ k)) (h2 : ∀ k : Nat, k < 4 → s = nI k → nI k < P 0 → ¬ ecP P k y → ∀ k, K (.inr "java/util/NoSuchElementException") (sk σ k)) (hk : ∀ k l : Nat, k < 4 → l < 26 → s = nI k → y = nI (97 + l) → nI k < P 0 → P (eX k l) = 1 → K (.inl (some (vI (bP (P (8 + 3 * l + 2) < P (eX k l + 3)))))) σ) : Runs G mX8_isTrueBySteps rX8_isTrueBySteps [vR (some x), vI s, vI y] σ K := by
  refine eX8_isTrueBySteps gk ⟨_, rfl, hX.1, cWantEcho gk hst hX h h1 h2 fun k l e n ω ρ m hV hW hJ hkn hl es ey hp hf => ?_⟩
  have hn4 := hV.n4
  have h9 := hk k l (by omega) hl es ey (by rw [hV.p0]; exact nI_lt hkn (by omega)) hp
  obtain ⟨e', hf', hem, e0, e1, hv⟩ := (hV.ea hkn).find1 hl hp
  rw [ey, hf'] at hf
  cases hf
  have hte := (hV.ss hkn).e hem
  rw [hX.2.1]; exact vX8_isTrueBySteps_10 gk ⟨_, rfl, hV.s.ty, kX6_isTrueByOrder gk hV hJ hkn hl hp hem e1 hv (vX8_isTrueBySteps_13 gk ⟨bP_z _, h9⟩)⟩
end UA
