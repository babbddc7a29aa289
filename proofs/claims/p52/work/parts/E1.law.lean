/-! ===== the law's small methods ===== -/
def KS (K : RES → Mm → Prop) (r : RES) (σ : Mm) : Prop := ∀ j, K r (sk σ j)
theorem KS.sk {K : RES → Mm → Prop} {r : RES} {σ : Mm} (h : KS K r σ) (j : Nat) : KS K r (sk σ j) := fun i => by rw [sk_sk]; exact h _
theorem KS.at {K : RES → Mm → Prop} {r : RES} {σ : Mm} (h : KS K r σ) : K r σ := h 0
theorem zo_bP (p : Prop) : zo (bP p) = bP p := by
  by_cases h : p
  · rw [bP_t h]; rfl
  · rw [bP_f h]; rfl
theorem zo_z {y : Int32} (h : isZ y) : zo y = y := by
  rcases h with h | h <;> subst h <;> rfl
theorem bPn {p : Prop} (h : ¬ bP p = 0) : p := Classical.byContradiction fun q => h (bP_f q)
theorem nth_at {p : Nat → Prop} {l : Nat} (hp : p l) : ∀ {n : Nat}, l < n → nth p (cnt p l) n = some l := by
  intro n
  induction n with
  | zero => intro h; omega
  | succ n ih =>
    intro h
    by_cases e : l = n
    · subst e
      exact nth_t hp rfl
    · have h2 : l < n := by omega
      rw [nth_f ?_]
      · exact ih h2
      · intro ⟨q1, q2⟩
        have h3 := cnt_up p (show l + 1 ≤ n by omega)
        have h4 : cnt p (l + 1) = cnt p l + 1 := cnt_t hp
        omega
section LAW1
variable {G : GG} {σ : Mm} {K : RES → Mm → Prop} {x b n : Nat} {A : AS}
theorem i_le {y z : Int32} : y ≤ z ↔ y.toInt ≤ z.toInt := Int32.le_iff_toInt_le
theorem i_lt {y z : Int32} : y < z ↔ y.toInt < z.toInt := Int32.lt_iff_toInt_lt
/-- an echo's age: at least 0, at most the time -/
theorem QS.age (hQ : QS σ x A b n) {k l : Nat} (hk : k < n) (hl : l < 26) (hp : aP A (eX k l) = 1) : (aP A 2 - aP A (eX k l + 2)).toInt = (aP A 2).toInt - (aP A (eX k l + 2)).toInt ∧ 0 ≤ (aP A (eX k l + 2)).toInt ∧ (aP A (eX k l + 2)).toInt ≤ (aP A 2).toInt ∧ (aP A 2).toInt < 2 ^ 21 := by
  have hP := hQ.pi.1
  have h1 := (hP.2.2.2.2.1 k l hk hl).2 hp
  have h2 := hP.2.1.1
  have hb := hQ.2.1
  have h3 := h2.2
  refine ⟨?_, h1.2.1, h1.2.2.1, by omega⟩
  rw [Int32.toInt_sub]
  exact Int.bmod_eq_of_le (by simp; omega) (by simp; omega)
theorem t_isEcho (ok : OKS G) (hQ : QS σ x A b n) {k l : Nat} (hk : k < n) (hl : l < 26) (hp : aP A (eX k l) = 1) (hK : KS K (.inl (some (vI 1))) σ) : Runs G mL_isEcho rL_isEcho [vR (some x), vI (nI k), vI (nI (97 + l))] σ K := by
  obtain ⟨g1, g2, g3, g4⟩ := hQ.age hk hl hp
  have hP := hQ.pi.1
  have hj : aP A (8 + 3 * l) = 1 := hQ.pi.2 k l hk hl hp
  have hj2 := hP.2.2.1 l hl
  have he := (hP.2.2.2.2.1 k l hk hl).2 hp
  refine eL_isEcho ok.1 ⟨by omega, by omega, q_isTrue ok hQ hk hl fun j => ?_⟩
  replace hQ := hQ.sk j
  replace hK := hK.sk j
  generalize sk σ j = σ at hQ hK ⊢
  rw [qE_t hp, zo_bP]
  refine vL_isEcho_6 ok.1 ⟨by omega, by omega, q_ageOf ok hQ hk hl fun j => ?_⟩
  replace hQ := hQ.sk j
  replace hK := hK.sk j
  generalize sk σ j = σ at hQ hK ⊢
  rw [qE_t hp]
  refine vL_isEcho_13 ok.1 ⟨by omega, by omega, q_lifetimeOf ok hQ hk fun j => ?_⟩
  replace hQ := hQ.sk j
  replace hK := hK.sk j
  generalize sk σ j = σ at hQ hK ⊢
  have rest : ∀ (x4 : Int32), (x4 = bP (ovP (aP A) k l)) → RunsH G mL_bySteps hL_bySteps rL_bySteps [vR (some x), vI (nI k), vI (nI (97 + l))] σ (bk G mL_isEcho rL_isEcho (0 + 2 + 2 + 1 + 2) (0 + 12 + 12 + 6 + 12) 35 [some (vR (some x)), some (vI (nI k)), some (vI (nI (97 + l))), some (vI (bP (aP A (8 + 3 * l + 2) < aP A (eX k l + 3)))), some (vI x4), none] [vI (bP (aP A (8 + 3 * l + 2) < aP A (eX k l + 3)))] K) := by
    intro x4 e4
    refine q_bySteps ok hQ hk hl fun j => ?_
    replace hQ := hQ.sk j
    replace hK := hK.sk j
    generalize sk σ j = σ at hQ hK ⊢
    rw [qE_t hp, zo_bP]
    refine vL_isEcho_35 ok.1 ⟨fun z => absurd rfl z, fun _ => ⟨by omega, by omega, q_isExpired ok hQ hk hl fun j => ?_⟩⟩
    replace hQ := hQ.sk j
    replace hK := hK.sk j
    generalize sk σ j = σ at hQ hK ⊢
    rw [qE_t hp, zo_bP]
    have r2 : RunsH G mL_wordOf hL_wordOf rL_wordOf [vR (some x), vI (nI (97 + l))] σ (bk G mL_isEcho rL_isEcho (0 + 2 + 2 + 1 + 2 + 3 + 1) (0 + 12 + 12 + 6 + 12 + 18 + 6) 62 [some (vR (some x)), some (vI (nI k)), some (vI (nI (97 + l))), some (vI (bP (aP A (8 + 3 * l + 2) < aP A (eX k l + 3)))), some (vI x4), none] [] K) := by
      refine q_wordOf ok hQ hl fun j => ?_
      replace hQ := hQ.sk j
      replace hK := hK.sk j
      generalize sk σ j = σ at hQ hK ⊢
      have ew : qW (aP A) l = aP A (8 + 3 * l + 1) := if_pos hj
      rw [ew]
      have w0 : ¬ aP A (8 + 3 * l + 1) < 0 := fun z => by
        have h9 := hj2.2.1.1
        rw [i_lt, Int32.toInt_zero] at z
        omega
      have fin : ∀ σ, QS σ x A b n → KS K (.inl (some (vI 1))) σ → ∀ uc us, uc + 2 ≤ 20 → us + 12 ≤ 120 → RunsH G mL_ageOf hL_ageOf rL_ageOf [vR (some x), vI (nI k), vI (nI (97 + l))] σ (bk G mL_isEcho rL_isEcho (uc + 2) (us + 12) 101 [some (vR (some x)), some (vI (nI k)), some (vI (nI (97 + l))), some (vI (bP (aP A (8 + 3 * l + 2) < aP A (eX k l + 3)))), some (vI x4), some (vI 1)] [] K) := by
        intro σ hQ hK uc us hu1 hu2
        refine q_ageOf ok hQ hk hl fun j => ?_
        replace hQ := hQ.sk j
        replace hK := hK.sk j
        generalize sk σ j = σ at hQ hK ⊢
        rw [qE_t hp]
        refine vL_isEcho_101 ok.1 ⟨_, rfl, hQ.1.1.1, by omega, by omega, c_time ok.1 hQ.1.1 hQ.1.2.1 ?_⟩
        refine vL_isEcho_105 ok.1 ⟨fun z => ?_, fun _ => ⟨by omega, by omega, hK.at⟩⟩
        rw [i_lt, g1] at z
        omega
      refine vL_isEcho_62 ok.1 ⟨fun z => absurd z w0, fun _ => ⟨fun z => absurd z (by decide), fun _ => ⟨fun _ => ⟨by omega, by omega, fin _ hQ hK _ _ (by omega) (by omega)⟩, fun ht => ⟨by omega, by omega, q_echoOf ok hQ hk hl fun j => ?_⟩⟩⟩⟩
      replace hQ := hQ.sk j
      replace hK := hK.sk j
      generalize sk σ j = σ at hQ hK ⊢
      rw [qE_t hp]
      refine vL_isEcho_87 ok.1 ⟨by omega, by omega, q_wordOf ok hQ hl fun j => ?_⟩
      replace hQ := hQ.sk j
      replace hK := hK.sk j
      generalize sk σ j = σ at hQ hK ⊢
      rw [ew]
      exact vL_isEcho_92 ok.1 ⟨fun z => absurd (he.2.2.2.2.2.2.2.2.2 (bPn ht)) z, fun _ => ⟨by omega, by omega, fin _ hQ hK _ _ (by omega) (by omega)⟩⟩
    refine vL_isEcho_44 ok.1 ⟨fun z => ⟨fun y => absurd (e4.symm.trans z) y, fun _ => ⟨by omega, by omega, r2⟩⟩, fun z => ⟨fun y => ?_, fun _ => ⟨by omega, by omega, r2⟩⟩⟩
    rw [e4] at z
    exact absurd (bP_t (bPn z)) y
  refine vL_isEcho_18 ok.1 ⟨fun z => ⟨by omega, by omega, rest 0 ?_⟩, fun z => ⟨by omega, by omega, rest 1 ?_⟩⟩
  · exact (bP_f fun y => y z).symm
  · exact (bP_t z).symm
theorem QS.ec (hQ : QS σ x A b n) {k : Nat} (hk : k < n) : ecN (aP A) k ≤ 6 := by
  have h := hQ.pi.1.2.2.2.1 k hk
  have h1 := h.2.1
  have h2 := h.2.2.2.2.2
  omega
theorem t_isFewest (ok : OKS G) (hQ : QS σ x A b n) {k v : Nat} (hk : k < n) (hv : vcN (aP A) k 26 = some v) (hp : aP A (86 + 187 * k + 2) = 108) (hK : KS K (.inl (some (vI 1))) σ) : Runs G mL_isFewest rL_isFewest [vR (some x), vI (nI k), vI (nI (97 + v))] σ K := by
  have he6 := hQ.ec hk
  obtain ⟨hv26, hvp⟩ := vcN_lt hv
  have hbest := vcN_ok hQ.pi.1 (Nat.lt_of_lt_of_le hQ.2.1 (by decide)) hk 26 v (Nat.le_refl _) hv
  rw [hp] at hbest
  have loop : ∀ d i uc us, i + d = ecN (aP A) k → uc + 7 * d + 1 ≤ 60 → us + 42 * d + 6 ≤ 400 → At G mL_isFewest rL_isFewest uc us 5 [some (vR (some x)), some (vI (nI k)), some (vI (nI (97 + v))), some (vI 1), some (vI (nI i))] [] σ K := by
    intro d
    induction d with
    | zero =>
      intro i uc us hi hu1 hu2
      refine vL_isFewest_5 ok.1 ⟨_, rfl, hQ.1.1.1, by omega, by omega, d_echoCount ok hQ hk ?_⟩
      exact vL_isFewest_12 ok.1 ⟨fun _ => ⟨by omega, by omega, Or.inr rfl, hK.at⟩, fun z => absurd (nI_le (by omega) (by omega)) z⟩
    | succ d ih =>
      intro i uc us hi hu1 hu2
      have hik : i < ecN (aP A) k := by omega
      obtain ⟨l, hl⟩ := nth_ex (p := eP (aP A) k) (n := 26) hik
      obtain ⟨hl26, hlp, -⟩ := nth_lt hl
      refine vL_isFewest_5 ok.1 ⟨_, rfl, hQ.1.1.1, by omega, by omega, d_echoCount ok hQ hk ?_⟩
      refine vL_isFewest_12 ok.1 ⟨fun z => absurd z (nI_ge (by omega) (by omega)), fun _ => ⟨fun z => absurd z (by decide), fun _ => ⟨_, rfl, hQ.1.1.1, by omega, by omega, d_hitsOf ok hQ hk hv26 hvp ?_⟩⟩⟩
      refine vL_isFewest_25 ok.1 ⟨_, rfl, hQ.1.1.1, by omega, by omega, d_echoAt ok hQ hk hik hl ?_⟩
      refine vL_isFewest_34 ok.1 ⟨_, rfl, hQ.1.1.1, by omega, by omega, d_hitsOf ok hQ hk hl26 hlp ?_⟩
      refine vL_isFewest_37 ok.1 ⟨fun z => absurd (Or.inr (Or.inl ⟨rfl, z⟩)) (hbest l hl26 hlp), fun _ => ?_⟩
      rw [show nI i + 1 = nI (i + 1) from nI_1 _]
      exact ih (i + 1) _ _ (by omega) (by omega) (by omega)
  refine eL_isFewest ok.1 ?_
  exact loop (ecN (aP A) k) 0 0 0 (by omega) (by omega) (by omega)
/-- the i-th number that the law reads out of a script of L ints -/
def cV (L : Nat) (xs : Nat → Int32) (i : Nat) : Int32 := if i < L then xs i else 40503 * nI i
theorem t_cell (ok : OKS G) {a L i : Nat} (ht : mt σ a = (99, L)) (hL : L < 2 ^ 31) (hi : i < 2 ^ 31) (hK : K (.inl (some (vI (cV L (mi σ a) i)))) σ) : Runs G mL_cell rL_cell [vR (some a), vI (nI i)] σ K := by
  refine eL_cell ok.1 ⟨_, rfl, L, ht, fun z => ?_, fun z => ?_⟩
  · have : ¬ i < L := fun q => nI_ge q (by omega) z
    rw [cV, if_neg this] at hK
    exact hK
  · have h : i < L := Nat.lt_of_not_le fun q => z (nI_le q (by omega))
    rw [cV, if_pos h] at hK
    rw [nI_clamp (by omega)]
    exact ⟨nI_in h (by omega), hK⟩
theorem QS.jr (hQ : QS σ x A b n) : jrN (aP A) ≤ 12 := hQ.pi.1.2.2.2.2.2.2
theorem t_jars (ok : OKS G) (hQ : QS σ x A b n) (hK : KS K (.inl (some (vI 1))) σ) : Runs G mL_jars rL_jars [vR (some x)] σ K := by
  have hj := hQ.jr
  have loop : ∀ d l uc us σ, l + d = 26 → uc + 2 * d + 4 ≤ 100 → us + 12 * d + 24 ≤ 600 → QS σ x A b n → KS K (.inl (some (vI 1))) σ → At G mL_jars rL_jars uc us 10 [some (vR (some x)), some (vI (nI (jrN (aP A)))), some (vI (nI (cnt (jP (aP A)) l))), some (vI (nI (97 + l))), none] [] σ K := by
    intro d
    induction d with
    | zero =>
      intro l uc us σ hl hu1 hu2 hQ hK
      obtain rfl : l = 26 := by omega
      refine vL_jars_10 ok.1 ⟨fun _ => ⟨fun z => absurd rfl z, fun _ => ⟨by omega, by omega, o_jarAt ok hQ (fun ⟨i, hi, e⟩ => by have := (nI_eq (by omega) (by omega)).mp e; omega) fun j => ?_⟩⟩, fun z => absurd (by decide) z⟩
      replace hQ := hQ.sk j
      replace hK := hK.sk j
      generalize sk σ j = σ at hQ hK ⊢
      refine vL_jars_78 ok.1 ⟨fun z => absurd rfl z, fun _ => ⟨by omega, by omega, o_jarAt ok hQ (fun ⟨i, hi, e⟩ => nI_pos (n := i) (by omega) (by rw [← e]; decide)) fun j => ?_⟩⟩
      replace hQ := hQ.sk j
      replace hK := hK.sk j
      generalize sk σ j = σ at hQ hK ⊢
      refine vL_jars_88 ok.1 ⟨fun z => absurd rfl z, fun _ => ⟨by omega, by omega, o_wordOf ok hQ (y := 65) (isC_nI (q := 65) (by decide)) (fun ⟨l, hl, e⟩ => by have := (nI_eq (a := 65) (by decide) (by omega)).mp e; omega) fun j => ?_⟩⟩
      replace hQ := hQ.sk j
      replace hK := hK.sk j
      generalize sk σ j = σ at hQ hK ⊢
      refine vL_jars_99 ok.1 ⟨fun z => absurd rfl z, fun _ => ⟨by omega, by omega, o_wordOf ok hQ (y := 123) (isC_nI (q := 123) (by decide)) (fun ⟨l, hl, e⟩ => by have := (nI_eq (a := 123) (by decide) (by omega)).mp e; omega) fun j => ?_⟩⟩
      replace hQ := hQ.sk j
      replace hK := hK.sk j
      generalize sk σ j = σ at hQ hK ⊢
      exact vL_jars_110 ok.1 ⟨fun z => absurd rfl z, fun _ => ⟨by omega, by omega, hK.at⟩⟩
    | succ d ih =>
      intro l uc us σ hl hu1 hu2 hQ hK
      have hl26 : l < 26 := by omega
      have ec : i2c (nI (97 + l) + 1) = nI (97 + (l + 1)) := by
        rw [nI_1 _]
        exact i2c_nI (by omega)
      refine vL_jars_10 ok.1 ⟨fun z => absurd z (nI_nlt (a := 122) (by omega) (by decide)), fun _ => ⟨by omega, by omega, q_wordOf ok hQ hl26 fun j => ?_⟩⟩
      replace hQ := hQ.sk j
      replace hK := hK.sk j
      generalize sk σ j = σ at hQ hK ⊢
      by_cases hp : aP A (8 + 3 * l) = 1
      · have ew : qW (aP A) l = aP A (8 + 3 * l + 1) := if_pos hp
        rw [ew]
        have w0 : ¬ aP A (8 + 3 * l + 1) < 0 := fun z => by
          have h9 := (hQ.pi.1.2.2.1 l hl26).2.1.1
          rw [i_lt, Int32.toInt_zero] at z
          omega
        have hcl : cnt (jP (aP A)) l < jrN (aP A) := by
          have h1 : cnt (jP (aP A)) (l + 1) = cnt (jP (aP A)) l + 1 := cnt_t hp
          have h2 := cnt_up (jP (aP A)) (show l + 1 ≤ 26 by omega)
          have h3 : cnt (jP (aP A)) 26 = jrN (aP A) := rfl
          omega
        have hnth : nth (jP (aP A)) (cnt (jP (aP A)) l) 26 = some l := nth_at hp hl26
        refine vL_jars_21 ok.1 ⟨fun z => absurd z w0, fun _ => ⟨fun z => absurd z (by decide), fun _ => ⟨by omega, by omega, q_jarAt ok hQ hcl hnth fun j => ?_⟩⟩⟩
        replace hQ := hQ.sk j
        replace hK := hK.sk j
        generalize sk σ j = σ at hQ hK ⊢
        refine vL_jars_41 ok.1 ⟨fun _ => ⟨fun z => absurd z (by decide), fun _ => ?_⟩, fun z => absurd rfl z⟩
        rw [ec, show nI (cnt (jP (aP A)) l) + 1 = nI (cnt (jP (aP A)) l + 1) from nI_1 _, ← (cnt_t hp : cnt (jP (aP A)) (l + 1) = _)]
        exact ih (l + 1) _ _ _ (by omega) (by omega) (by omega) hQ hK
      · have ew : qW (aP A) l = -13 := if_neg hp
        rw [ew]
        refine vL_jars_21 ok.1 ⟨fun _ => ⟨fun _ => ⟨fun _ => ?_, fun z => absurd rfl z⟩, fun z => absurd rfl z⟩, fun z => absurd (by decide) z⟩
        rw [ec, Int32.add_zero, ← (cnt_f hp : cnt (jP (aP A)) (l + 1) = _)]
        exact ih (l + 1) _ _ _ (by omega) (by omega) (by omega) hQ hK
  refine eL_jars ok.1 ⟨_, rfl, hQ.1.1.1, by omega, by omega, c_jarCount ok.1 hQ.1.1 hQ.1.2.1 (vL_jars_4 ok.1 ?_)⟩
  exact loop 26 0 _ _ σ (by omega) (by omega) (by omega) hQ hK
end LAW1
