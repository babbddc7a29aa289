/-! ===== the law's method shelves ===== -/
theorem hE_t {P : Nat → Int32} {k l : Nat} (hl : l < 26) (h : P (eX k l) = 1) : zo (bP (ecP P k (nI (97 + l)))) = 1 := by
  rw [zo_bP]; exact bP_t ⟨l, hl, rfl, h⟩
theorem hE_f {P : Nat → Int32} {k l : Nat} (hl : l < 26) (h : ¬ P (eX k l) = 1) : zo (bP (ecP P k (nI (97 + l)))) = 0 := by
  rw [zo_bP]; exact bP_f fun ⟨l', hl', e, h'⟩ => h (by rw [nIl_inj hl hl' e]; exact h')
theorem nn0 {v : Int32} (h : 0 ≤ v.toInt) : ¬ v < 0 := fun z => by
  rw [i_lt, Int32.toInt_zero] at z
  omega
theorem zo_nn {v : Int32} : ¬ zo v < 0 := by
  unfold zo
  by_cases h : v = 0
  · rw [if_pos h]; decide
  · rw [if_neg h]; decide
theorem n13 : (-13 : Int32) < 0 := by decide
theorem agL_t {P : Nat → Int32} {k l : Nat} {c : Int32} (h : P (eX k l) = 1) : agL P k c (l + 1) = agL P k c l + (P 2 - P (eX k l + 2)) := by
  conv => lhs; unfold agL
  rw [if_pos h]
theorem agL_f {P : Nat → Int32} {k l : Nat} {c : Int32} (h : ¬ P (eX k l) = 1) : agL P k c (l + 1) = agL P k c l := by
  conv => lhs; unfold agL
  rw [if_neg h]
section SHV
variable {G : GG} {σ : Mm} {K : RES → Mm → Prop} {x b n : Nat} {A : AS} {uc us : Nat}
theorem sh_let (ok : OKS G) {k l : Nat} {ev c : Int32} (hQ : QS σ x A b n) (hk : k < n) (hl : l < 26) (hu1 : uc + 48 ≤ 6000) (hu2 : us + 288 ≤ 36000) (hK : KS K (.inl (some (vI 1))) σ)
    (kk : ∀ σ', QS σ' x A b n → KS K (.inl (some (vI 1))) σ' → At G mL_shelves rL_shelves (uc + 48) (us + 288) 25 [some (vR (some x)), some (vI (nI n)), some (vI ev), some (vI (agL (aP A) k c (l + 1))), some (vI (nI k)), some (vI (nI (cnt (eP (aP A) k) (l + 1)))), some (vI (nI (97 + (l + 1)))), none, none] [] σ' K) :
    At G mL_shelves rL_shelves uc us 25 [some (vR (some x)), some (vI (nI n)), some (vI ev), some (vI (agL (aP A) k c l)), some (vI (nI k)), some (vI (nI (cnt (eP (aP A) k) l))), some (vI (nI (97 + l))), none, none] [] σ K := by
  have hP := hQ.pi.1
  have hn4 := hQ.2.2.2.1
  have eci : i2c (nI (97 + l) + 1) = nI (97 + (l + 1)) := i2c_nx hl
  refine vL_shelves_25 ok.1 ⟨fun z => absurd z (nI_nlt (a := 122) (by omega) (by decide)), fun _ => ⟨by omega, by omega, q_hasEcho ok hQ hk fun j => ?_⟩⟩
  replace hQ := hQ.sk j
  replace hK := hK.sk j
  generalize sk σ j = σ at hQ hK ⊢
  by_cases hp : aP A (eX k l) = 1
  · obtain ⟨g1, g2, g3, g4⟩ := hQ.age hk hl hp
    have he := (hP.2.2.2.2.1 k l hk hl).2 hp
    have hj : aP A (8 + 3 * l) = 1 := hQ.pi.2 k l hk hl hp
    have hj2 := hP.2.2.1 l hl
    have a0 : ¬ (aP A 2 - aP A (eX k l + 2)) < 0 := nn0 (by omega)
    have hcl : cnt (eP (aP A) k) l < ecN (aP A) k := by
      have h1 : cnt (eP (aP A) k) (l + 1) = cnt (eP (aP A) k) l + 1 := cnt_t hp
      have h2 := cnt_up (eP (aP A) k) (show l + 1 ≤ 26 by omega)
      have h3 : cnt (eP (aP A) k) 26 = ecN (aP A) k := rfl
      omega
    have hnth : nth (eP (aP A) k) (cnt (eP (aP A) k) l) 26 = some l := nth_at hp hl
    rw [hE_t hl hp]
    refine vL_shelves_40 ok.1 ⟨fun z => absurd rfl z, fun _ => ⟨by omega, by omega, q_echoOf ok hQ hk hl fun j => ?_⟩⟩
    replace hQ := hQ.sk j
    replace hK := hK.sk j
    generalize sk σ j = σ at hQ hK ⊢
    rw [qE_t hp]
    refine vL_shelves_61 ok.1 ⟨fun z => absurd z (nn0 he.1.1), fun _ => ⟨fun z => absurd rfl z, fun _ => ⟨by omega, by omega, q_ageOf ok hQ hk hl fun j => ?_⟩⟩⟩
    replace hQ := hQ.sk j
    replace hK := hK.sk j
    generalize sk σ j = σ at hQ hK ⊢
    rw [qE_t hp]
    refine vL_shelves_82 ok.1 ⟨fun z => absurd z a0, fun _ => ⟨fun z => absurd rfl z, fun _ => ⟨by omega, by omega, q_hitsOf ok hQ hk hl fun j => ?_⟩⟩⟩
    replace hQ := hQ.sk j
    replace hK := hK.sk j
    generalize sk σ j = σ at hQ hK ⊢
    rw [qE_t hp]
    refine vL_shelves_103 ok.1 ⟨fun z => absurd z (nn0 he.2.2.2.2.2.2.2.1.1), fun _ => ⟨fun z => absurd rfl z, fun _ => ⟨by omega, by omega, q_isOpen ok hQ hk hl fun j => ?_⟩⟩⟩
    replace hQ := hQ.sk j
    replace hK := hK.sk j
    generalize sk σ j = σ at hQ hK ⊢
    rw [qE_t hp]
    refine vL_shelves_124 ok.1 ⟨fun z => absurd z zo_nn, fun _ => ⟨fun _ => ⟨fun z => absurd z (by decide), fun _ => ⟨by omega, by omega, q_echoAt ok hQ hk hcl hnth fun j => ?_⟩⟩, fun z => absurd rfl z⟩⟩
    replace hQ := hQ.sk j
    replace hK := hK.sk j
    generalize sk σ j = σ at hQ hK ⊢
    refine vL_shelves_150 ok.1 ⟨fun z => absurd rfl z, fun _ => ⟨by omega, by omega, t_isEcho ok hQ hk hl hp fun j => ?_⟩⟩
    replace hQ := hQ.sk j
    replace hK := hK.sk j
    generalize sk σ j = σ at hQ hK ⊢
    refine vL_shelves_163 ok.1 ⟨fun _ => ⟨fun _ => ⟨by omega, by omega, q_wordOf ok hQ hl fun j => ?_⟩, fun z => absurd z (by decide)⟩, fun z => absurd z (by decide)⟩
    replace hQ := hQ.sk j
    replace hK := hK.sk j
    generalize sk σ j = σ at hQ hK ⊢
    have ew : qW (aP A) l = aP A (8 + 3 * l + 1) := if_pos hj
    rw [ew]
    have w0 : 0 ≤ aP A (8 + 3 * l + 1) := by
      rw [i_le, Int32.toInt_zero]
      exact hj2.2.1.1
    refine vL_shelves_220 ok.1 ⟨fun _ => ⟨fun _ => ⟨by omega, by omega, q_isExpired ok hQ hk hl fun j => ?_⟩, fun z => absurd z (by decide)⟩, fun z => absurd w0 z⟩
    replace hQ := hQ.sk j
    replace hK := hK.sk j
    generalize sk σ j = σ at hQ hK ⊢
    rw [qE_t hp, zo_bP]
    have fin : ∀ (σ : Mm) (x8 : Int32) (uc' us' : Nat), QS σ x A b n → KS K (.inl (some (vI 1))) σ → x8 = ouP (aP A) k l → uc' + 4 ≤ uc + 48 → us' + 24 ≤ us + 288 → RunsH G mL_outcome hL_outcome rL_outcome [vR (some x), vI (nI k), vI (nI (97 + l))] σ (bk G mL_shelves rL_shelves (uc' + 2) (us' + 12) 284 [some (vR (some x)), some (vI (nI n)), some (vI ev), some (vI (agL (aP A) k c l)), some (vI (nI k)), some (vI (nI (cnt (eP (aP A) k) l))), some (vI (nI (97 + l))), some (vI 1), some (vI x8)] [] K) := by
      intro σ x8 uc' us' hQ hK e8 h1 h2
      refine q_outcome ok hQ hk hl fun j => ?_
      replace hQ := hQ.sk j
      replace hK := hK.sk j
      generalize sk σ j = σ at hQ hK ⊢
      have eo : qO (aP A) k l = ouP (aP A) k l := if_pos hj
      rw [eo]
      refine vL_shelves_284 ok.1 ⟨fun _ => ⟨fun z => absurd z (by decide), fun _ => ⟨fun z => absurd z (by decide), fun _ => ⟨by omega, by omega, q_ageOf ok hQ hk hl fun j => ?_⟩⟩⟩, fun z => absurd e8.symm z⟩
      replace hQ := hQ.sk j
      replace hK := hK.sk j
      generalize sk σ j = σ at hQ hK ⊢
      rw [qE_t hp]
      refine vL_shelves_320 ok.1 ?_
      rw [eci, show nI (cnt (eP (aP A) k) l) + 1 = nI (cnt (eP (aP A) k) l + 1) from nI_1 _, ← (cnt_t hp : cnt (eP (aP A) k) (l + 1) = _), ← agL_t hp]
      exact (kk _ hQ hK).widen (by omega) (by omega)
    have eou : ouP (aP A) k l = @ite _ (ovP (aP A) k l) (Classical.propDecidable _) 101 (if aP A (eX k l + 6) = 1 then 111 else 104) := if_pos hp
    by_cases hov : ovP (aP A) k l
    · rw [bP_t hov]
      refine vL_shelves_246 ok.1 ⟨fun z => absurd rfl z, fun _ => ⟨by omega, by omega, fin _ _ _ _ hQ hK ?_ (by omega) (by omega)⟩⟩
      rw [eou]; exact (if_pos hov).symm
    · rw [bP_f hov]
      refine vL_shelves_246 ok.1 ⟨fun _ => ⟨by omega, by omega, q_isOpen ok hQ hk hl fun j => ?_⟩, fun z => absurd z (by decide)⟩
      replace hQ := hQ.sk j
      replace hK := hK.sk j
      generalize sk σ j = σ at hQ hK ⊢
      rw [qE_t hp]
      have hz : isZ (aP A (eX k l + 6)) := he.2.2.2.2.2.2.2.2.1
      rw [zo_z hz]
      refine vL_shelves_263 ok.1 ⟨fun z => ⟨by omega, by omega, fin _ _ _ _ hQ hK ?_ (by omega) (by omega)⟩, fun z => ⟨by omega, by omega, fin _ _ _ _ hQ hK ?_ (by omega) (by omega)⟩⟩
      · rw [eou, if_neg hov, if_neg z]
      · rw [eou, if_neg hov, if_pos z]
  · rw [hE_f hl hp]
    refine vL_shelves_40 ok.1 ⟨fun _ => ⟨by omega, by omega, q_echoOf ok hQ hk hl fun j => ?_⟩, fun z => absurd z (by decide)⟩
    replace hQ := hQ.sk j
    replace hK := hK.sk j
    generalize sk σ j = σ at hQ hK ⊢
    rw [qE_f hp]
    refine vL_shelves_61 ok.1 ⟨fun _ => ⟨fun z => absurd rfl z, fun _ => ⟨by omega, by omega, q_ageOf ok hQ hk hl fun j => ?_⟩⟩, fun z => absurd n13 z⟩
    replace hQ := hQ.sk j
    replace hK := hK.sk j
    generalize sk σ j = σ at hQ hK ⊢
    rw [qE_f hp]
    refine vL_shelves_82 ok.1 ⟨fun _ => ⟨fun z => absurd rfl z, fun _ => ⟨by omega, by omega, q_hitsOf ok hQ hk hl fun j => ?_⟩⟩, fun z => absurd n13 z⟩
    replace hQ := hQ.sk j
    replace hK := hK.sk j
    generalize sk σ j = σ at hQ hK ⊢
    rw [qE_f hp]
    refine vL_shelves_103 ok.1 ⟨fun _ => ⟨fun z => absurd rfl z, fun _ => ⟨by omega, by omega, q_isOpen ok hQ hk hl fun j => ?_⟩⟩, fun z => absurd n13 z⟩
    replace hQ := hQ.sk j
    replace hK := hK.sk j
    generalize sk σ j = σ at hQ hK ⊢
    rw [qE_f hp]
    refine vL_shelves_124 ok.1 ⟨fun _ => ⟨fun _ => ⟨fun _ => ⟨fun z => absurd rfl z, fun _ => ⟨by omega, by omega, q_isTrue ok hQ hk hl fun j => ?_⟩⟩, fun z => absurd rfl z⟩, fun z => absurd rfl z⟩, fun z => absurd n13 z⟩
    replace hQ := hQ.sk j
    replace hK := hK.sk j
    generalize sk σ j = σ at hQ hK ⊢
    rw [qE_f hp]
    refine vL_shelves_181 ok.1 ⟨fun z => absurd rfl z, fun _ => ⟨by omega, by omega, q_bySteps ok hQ hk hl fun j => ?_⟩⟩
    replace hQ := hQ.sk j
    replace hK := hK.sk j
    generalize sk σ j = σ at hQ hK ⊢
    rw [qE_f hp]
    refine vL_shelves_194 ok.1 ⟨fun z => absurd rfl z, fun _ => ⟨by omega, by omega, q_isExpired ok hQ hk hl fun j => ?_⟩⟩
    replace hQ := hQ.sk j
    replace hK := hK.sk j
    generalize sk σ j = σ at hQ hK ⊢
    rw [qE_f hp]
    refine vL_shelves_207 ok.1 ⟨fun _ => ⟨by omega, by omega, q_wordOf ok hQ hl fun j => ?_⟩, fun z => absurd rfl z⟩
    replace hQ := hQ.sk j
    replace hK := hK.sk j
    generalize sk σ j = σ at hQ hK ⊢
    have fin : ∀ (σ : Mm) (x8 : Int32) (uc' us' : Nat), QS σ x A b n → KS K (.inl (some (vI 1))) σ → x8 = qO (aP A) k l → uc' + 4 ≤ uc + 48 → us' + 24 ≤ us + 288 → RunsH G mL_outcome hL_outcome rL_outcome [vR (some x), vI (nI k), vI (nI (97 + l))] σ (bk G mL_shelves rL_shelves (uc' + 2) (us' + 12) 284 [some (vR (some x)), some (vI (nI n)), some (vI ev), some (vI (agL (aP A) k c l)), some (vI (nI k)), some (vI (nI (cnt (eP (aP A) k) l))), some (vI (nI (97 + l))), some (vI 0), some (vI x8)] [] K) := by
      intro σ x8 uc' us' hQ hK e8 h1 h2
      refine q_outcome ok hQ hk hl fun j => ?_
      replace hQ := hQ.sk j
      replace hK := hK.sk j
      generalize sk σ j = σ at hQ hK ⊢
      refine vL_shelves_284 ok.1 ⟨fun _ => ⟨fun _ => ⟨fun _ => ?_, fun z => absurd rfl z⟩, fun z => absurd rfl z⟩, fun z => absurd e8.symm z⟩
      rw [eci, Int32.add_zero, Int32.add_zero, ← (cnt_f hp : cnt (eP (aP A) k) (l + 1) = _), ← agL_f (c := c) hp]
      exact (kk _ hQ hK).widen (by omega) (by omega)
    by_cases hj : aP A (8 + 3 * l) = 1
    · have ew : qW (aP A) l = aP A (8 + 3 * l + 1) := if_pos hj
      have eo : qO (aP A) k l = 99 := (if_pos hj).trans (if_neg hp)
      rw [ew]
      have w0 : 0 ≤ aP A (8 + 3 * l + 1) := by
        rw [i_le, Int32.toInt_zero]
        exact (hP.2.2.1 l hl).2.1.1
      exact vL_shelves_220 ok.1 ⟨fun _ => ⟨fun z => absurd rfl z, fun _ => ⟨by omega, by omega, fin _ _ _ _ hQ hK eo.symm (by omega) (by omega)⟩⟩, fun z => absurd w0 z⟩
    · have ew : qW (aP A) l = -13 := if_neg hj
      have eo : qO (aP A) k l = -13 := if_neg hj
      rw [ew]
      exact vL_shelves_220 ok.1 ⟨fun z => absurd z (by decide), fun _ => ⟨by omega, by omega, fin _ _ _ _ hQ hK eo.symm (by omega) (by omega)⟩⟩
end SHV
