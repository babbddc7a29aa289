/-! ===== shelves: a shelf's end, and the end ===== -/
theorem nn_v32 {r : UInt32} (h : vf_n32 r) : FP.Core.val32 r ≠ .nan := fun z => by
  have h1 : FP.Core.infBits FP.Core.b32 < FP.Core.mag FP.Core.b32 r.toNat := (FP.Core.decode_nan _).mp z
  have e1 : FP.Core.infBits FP.Core.b32 = 2139095040 := by decide
  have e2 : FP.Core.half FP.Core.b32 = 2 ^ 31 := by decide
  unfold FP.Core.mag at h1
  rw [e1, e2] at h1
  unfold vf_n32 at h
  rw [UInt32.le_iff_toNat_le, UInt32.toNat_and] at h
  have e3 : (0x7fffffff : UInt32).toNat = 2 ^ 31 - 1 := by decide
  have e4 : (0x7f800000 : UInt32).toNat = 2139095040 := by decide
  rw [e3, e4, Nat.and_two_pow_sub_one_eq_mod] at h
  omega
theorem nn_v64 {r : UInt64} (h : vf_n64 r) : FP.Core.val64 r ≠ .nan := fun z => by
  have h1 : FP.Core.infBits FP.Core.b64 < FP.Core.mag FP.Core.b64 r.toNat := (FP.Core.decode_nan _).mp z
  have e1 : FP.Core.infBits FP.Core.b64 = 9218868437227405312 := by decide +kernel
  have e2 : FP.Core.half FP.Core.b64 = 2 ^ 63 := by decide +kernel
  unfold FP.Core.mag at h1
  rw [e1, e2] at h1
  unfold vf_n64 at h
  rw [UInt64.le_iff_toNat_le, UInt64.toNat_and] at h
  have e3 : (0x7fffffffffffffff : UInt64).toNat = 2 ^ 63 - 1 := by decide
  have e4 : (0x7ff0000000000000 : UInt64).toNat = 9218868437227405312 := by decide
  rw [e3, e4, Nat.and_two_pow_sub_one_eq_mod] at h
  omega
theorem dc_self {r : UInt64} {op : CmpOp} (h : vf_n64 r) : Op.cmpValue (FP.dcmp r r) op = 0 := by
  rw [show FP.dcmp r r = some .eq from FP.Core.dcmp_self (nn_v64 h)]
  rfl
theorem fc_self {r : UInt32} {op : CmpOp} (h : vf_n32 r) : Op.cmpValue (FP.fcmp r r) op = 0 := by
  rw [show FP.fcmp r r = some .eq from FP.Core.fcmp_self (nn_v32 h)]
  rfl
section SHW
variable {G : GG} {σ : Mm} {K : RES → Mm → Prop} {x b n : Nat} {A : AS} {uc us : Nat}
theorem sh_cons (ok : OKS G) {e g : Int32} (hQ : QS σ x A b n) (hn0 : 0 < n) (hu1 : uc + 40 ≤ 6000) (hu2 : us + 240 ≤ 36000) (hK : KS K (.inl (some (vI 1))) σ) : Runs G mX8_isConsistent rX8_isConsistent [vR (some x)] σ (bk G mL_shelves rL_shelves (uc + 0) (us + 0) 494 [some (vR (some x)), some (vI (nI n)), some (vI e), some (vI g), some (vI 1), none, none, none, none] [] K) := by
  refine c_isConsistent ok.1 (Nat.lt_of_lt_of_le hQ.2.1 (by decide)) hQ.1.1 hQ.1.2.1 ?_
  refine vL_shelves_494 ok.1 ⟨fun z => absurd z (by decide), fun _ => ⟨by omega, by omega, o_capacityOf ok hQ hQ.no fun j => ?_⟩⟩
  replace hQ := hQ.sk j
  replace hK := hK.sk j
  generalize sk σ j = σ at hQ hK ⊢
  refine vL_shelves_502 ok.1 ⟨fun z => absurd rfl z, fun _ => ⟨by omega, by omega, o_lifetimeOf ok hQ hQ.no fun j => ?_⟩⟩
  replace hQ := hQ.sk j
  replace hK := hK.sk j
  generalize sk σ j = σ at hQ hK ⊢
  refine vL_shelves_512 ok.1 ⟨fun z => absurd rfl z, fun _ => ⟨by omega, by omega, o_policyOf ok hQ hQ.no fun j => ?_⟩⟩
  replace hQ := hQ.sk j
  replace hK := hK.sk j
  generalize sk σ j = σ at hQ hK ⊢
  refine vL_shelves_522 ok.1 ⟨fun z => absurd rfl z, fun _ => ⟨by omega, by omega, o_isListening ok hQ sh_m1 fun j => ?_⟩⟩
  replace hQ := hQ.sk j
  replace hK := hK.sk j
  generalize sk σ j = σ at hQ hK ⊢
  refine vL_shelves_532 ok.1 ⟨fun z => absurd rfl z, fun _ => ⟨by omega, by omega, o_echoCount ok hQ hQ.no fun j => ?_⟩⟩
  replace hQ := hQ.sk j
  replace hK := hK.sk j
  generalize sk σ j = σ at hQ hK ⊢
  refine vL_shelves_542 ok.1 ⟨fun z => absurd rfl z, fun _ => ⟨by omega, by omega, o_echoAt ok hQ hQ.no fun j => ?_⟩⟩
  replace hQ := hQ.sk j
  replace hK := hK.sk j
  generalize sk σ j = σ at hQ hK ⊢
  refine vL_shelves_553 ok.1 ⟨fun z => absurd rfl z, fun _ => ⟨by omega, by omega, o_hasEcho ok hQ hQ.no fun j => ?_⟩⟩
  replace hQ := hQ.sk j
  replace hK := hK.sk j
  generalize sk σ j = σ at hQ hK ⊢
  refine vL_shelves_565 ok.1 ⟨fun z => absurd rfl z, fun _ => ⟨by omega, by omega, o_echoOf ok hQ hQ.no fun j => ?_⟩⟩
  replace hQ := hQ.sk j
  replace hK := hK.sk j
  generalize sk σ j = σ at hQ hK ⊢
  refine vL_shelves_577 ok.1 ⟨fun z => absurd rfl z, fun _ => ⟨by omega, by omega, o_ageOf ok hQ hQ.no fun j => ?_⟩⟩
  replace hQ := hQ.sk j
  replace hK := hK.sk j
  generalize sk σ j = σ at hQ hK ⊢
  refine vL_shelves_589 ok.1 ⟨fun z => absurd rfl z, fun _ => ⟨by omega, by omega, o_hitsOf ok hQ hQ.no fun j => ?_⟩⟩
  replace hQ := hQ.sk j
  replace hK := hK.sk j
  generalize sk σ j = σ at hQ hK ⊢
  refine vL_shelves_601 ok.1 ⟨fun z => absurd rfl z, fun _ => ⟨by omega, by omega, o_isExpired ok hQ hQ.no fun j => ?_⟩⟩
  replace hQ := hQ.sk j
  replace hK := hK.sk j
  generalize sk σ j = σ at hQ hK ⊢
  refine vL_shelves_613 ok.1 ⟨fun z => absurd rfl z, fun _ => ⟨by omega, by omega, o_isOpen ok hQ hQ.no fun j => ?_⟩⟩
  replace hQ := hQ.sk j
  replace hK := hK.sk j
  generalize sk σ j = σ at hQ hK ⊢
  refine vL_shelves_625 ok.1 ⟨fun z => absurd rfl z, fun _ => ⟨by omega, by omega, o_isTrue ok hQ hQ.no fun j => ?_⟩⟩
  replace hQ := hQ.sk j
  replace hK := hK.sk j
  generalize sk σ j = σ at hQ hK ⊢
  refine vL_shelves_637 ok.1 ⟨fun z => absurd rfl z, fun _ => ⟨by omega, by omega, o_bySteps ok hQ hQ.no fun j => ?_⟩⟩
  replace hQ := hQ.sk j
  replace hK := hK.sk j
  generalize sk σ j = σ at hQ hK ⊢
  refine vL_shelves_649 ok.1 ⟨fun z => absurd rfl z, fun _ => ⟨by omega, by omega, o_victimOf ok hQ hQ.no fun j => ?_⟩⟩
  replace hQ := hQ.sk j
  replace hK := hK.sk j
  generalize sk σ j = σ at hQ hK ⊢
  refine vL_shelves_659 ok.1 ⟨fun z => absurd rfl z, fun _ => ⟨by omega, by omega, o_byScan ok hQ hQ.no fun j => ?_⟩⟩
  replace hQ := hQ.sk j
  replace hK := hK.sk j
  generalize sk σ j = σ at hQ hK ⊢
  refine vL_shelves_669 ok.1 ⟨fun z => absurd rfl z, fun _ => ⟨by omega, by omega, o_outcome ok hQ (y := 97) (isC_nI (q := 97) (by decide)) hQ.no fun j => ?_⟩⟩
  replace hQ := hQ.sk j
  replace hK := hK.sk j
  generalize sk σ j = σ at hQ hK ⊢
  refine vL_shelves_681 ok.1 ⟨fun z => absurd rfl z, fun _ => ⟨by omega, by omega, q_hasEcho ok hQ (k := 0) (y := 63) hn0 fun j => ?_⟩⟩
  replace hQ := hQ.sk j
  replace hK := hK.sk j
  generalize sk σ j = σ at hQ hK ⊢
  have e63 : zo (bP (ecP (aP A) 0 63)) = 0 := by
    rw [zo_bP]
    exact bP_f fun ⟨l, hl, e, _⟩ => by
      have := (nI_eq (a := 63) (by decide) (by omega)).mp e
      omega
  rw [e63]
  exact vL_shelves_693 ok.1 ⟨fun z => absurd rfl z, fun _ => ⟨by omega, by omega, hK.at⟩⟩
theorem sh_end (ok : OKS G) {k : Nat} {ev g : Int32} (hQ : QS σ x A b n) (hk : k < n) (hu1 : uc + 80 ≤ 6000) (hu2 : us + 600 ≤ 36000) (hK : KS K (.inl (some (vI 1))) σ)
    (kk : ∀ σ', QS σ' x A b n → KS K (.inl (some (vI 1))) σ' → At G mL_shelves rL_shelves (uc + 80) (us + 600) 12 [some (vR (some x)), some (vI (nI n)), some (vI (ev + nI (ecN (aP A) k))), some (vI g), some (vI (nI (k + 1))), none, none, none, none] [] σ' K) :
    At G mL_shelves rL_shelves uc us 25 [some (vR (some x)), some (vI (nI n)), some (vI ev), some (vI g), some (vI (nI k)), some (vI (nI (ecN (aP A) k))), some (vI (nI 123)), none, none] [] σ K := by
  have hn4 := hQ.2.2.2.1
  have he6 := hQ.ec hk
  have hP := hQ.pi.1.2.2.2.1 k hk
  have ek : nI k + 1 = nI (k + 1) := nI_1 _
  refine vL_shelves_25 ok.1 ⟨fun _ => ⟨by omega, by omega, q_victimOf ok hQ hk fun j => ?_⟩, fun z => absurd (by decide) z⟩
  replace hQ := hQ.sk j
  replace hK := hK.sk j
  generalize sk σ j = σ at hQ hK ⊢
  refine vL_shelves_347 ok.1 ⟨by omega, by omega, q_echoCount ok hQ hk fun j => ?_⟩
  replace hQ := hQ.sk j
  replace hK := hK.sk j
  generalize sk σ j = σ at hQ hK ⊢
  refine vL_shelves_355 ok.1 ⟨fun z => absurd rfl z, fun _ => ⟨by omega, by omega, q_capacityOf ok hQ hk fun j => ?_⟩⟩
  replace hQ := hQ.sk j
  replace hK := hK.sk j
  generalize sk σ j = σ at hQ hK ⊢
  refine vL_shelves_368 ok.1 ⟨fun z => ?_, fun _ => ⟨by omega, by omega, q_byScan ok hQ hk fun j => ?_⟩⟩
  · rw [i_lt, nI_toInt (by omega)] at z
    have := hP.2.2.2.2.2
    omega
  replace hQ := hQ.sk j
  replace hK := hK.sk j
  generalize sk σ j = σ at hQ hK ⊢
  cases hv : vcN (aP A) k 26 with
  | none =>
    have e0 : ecN (aP A) k = 0 := vcN_none hv
    refine vL_shelves_377 ok.1 ⟨fun z => absurd rfl z, fun _ => ⟨fun z => absurd (by rw [e0]; rfl) z, fun _ => ⟨fun _ => ⟨by omega, by omega, e_echoAt ok hQ hk fun j => ?_⟩, fun z => absurd rfl z⟩⟩⟩
    replace hQ := hQ.sk j
    replace hK := hK.sk j
    generalize sk σ j = σ at hQ hK ⊢
    refine vL_shelves_418 ok.1 ⟨fun _ => ⟨fun _ => ?_, fun z => absurd (by rw [e0]; decide) z⟩, fun z => absurd rfl z⟩
    rw [ek]
    exact (kk _ hQ hK).widen (by omega) (by omega)
  | some v =>
    obtain ⟨hv26, hvp⟩ := vcN_lt hv
    have h0 : 0 < ecN (aP A) k := by
      rcases Nat.eq_zero_or_pos (ecN (aP A) k) with y | y
      · exact absurd hvp (vc_no y hv26)
      · exact y
    refine vL_shelves_377 ok.1 ⟨fun z => absurd rfl z, fun _ => ⟨fun _ => ⟨by omega, by omega, q_hasEcho ok hQ hk fun j => ?_⟩, fun z => absurd z (nI_ne0 h0 (by omega))⟩⟩
    replace hQ := hQ.sk j
    replace hK := hK.sk j
    generalize sk σ j = σ at hQ hK ⊢
    rw [show i2c (qV (some v)) = nI (97 + v) from i2c_l hv26, hE_t hv26 hvp]
    refine vL_shelves_406 ok.1 ⟨fun z => absurd rfl z, fun _ => ⟨by omega, by omega, e_echoAt ok hQ hk fun j => ?_⟩⟩
    replace hQ := hQ.sk j
    replace hK := hK.sk j
    generalize sk σ j = σ at hQ hK ⊢
    refine vL_shelves_418 ok.1 ⟨fun _ => ⟨fun z => absurd z (nI_nle h0 (by omega)), fun _ => ⟨by omega, by omega, q_policyOf ok hQ hk fun j => ?_⟩⟩, fun z => absurd rfl z⟩
    replace hQ := hQ.sk j
    replace hK := hK.sk j
    generalize sk σ j = σ at hQ hK ⊢
    refine vL_shelves_436 ok.1 ⟨fun _ => ?_, fun hpo => ⟨by omega, by omega, ?_⟩⟩
    · rw [ek]
      exact (kk _ hQ hK).widen (by omega) (by omega)
    · rw [show i2c (qV (some v)) = nI (97 + v) from i2c_l hv26]
      refine t_isFewest ok hQ hk hv hpo fun j => ?_
      replace hQ := hQ.sk j
      replace hK := hK.sk j
      generalize sk σ j = σ at hQ hK ⊢
      refine vL_shelves_450 ok.1 ⟨fun _ => ?_, fun z => absurd z (by decide)⟩
      rw [ek]
      exact (kk _ hQ hK).widen (by omega) (by omega)
set_option maxRecDepth 50000 in
theorem t_shelves (ok : OKS G) (hQ : QS σ x A b n) (hn0 : 0 < n) (hK : KS K (.inl (some (vI 1))) σ) : Runs G mL_shelves rL_shelves [vR (some x)] σ K := by
  have hn4 := hQ.2.2.2.1
  have fin : ∀ σ uc us, QS σ x A b n → KS K (.inl (some (vI 1))) σ → uc + 50 ≤ 6000 → us + 300 ≤ 36000 → At G mL_shelves rL_shelves uc us 12 [some (vR (some x)), some (vI (nI n)), some (vI (nI (ecS (aP A) n))), some (vI (agS (aP A) n)), some (vI (nI n)), none, none, none, none] [] σ K := by
    intro σ uc us hQ hK hu1 hu2
    refine vL_shelves_12 ok.1 ⟨fun _ => ⟨fun _ => ⟨fun z => absurd z (by decide), fun _ => ⟨_, rfl, hQ.1.1.1, by omega, by omega, sh_cons ok hQ hn0 (by omega) (by omega) hK⟩⟩, fun z => ⟨_, rfl, hQ.1.1.1, by omega, by omega, c_meanAge ok.1 ok.2.2.1 hQ.2.1 hQ.1.1 hQ.1.2.1 hQ.2.2.1 hn4 (fun y => absurd (by rw [y]; rfl) z) fun _ hv => ?_⟩⟩, fun z => absurd (nI_le (Nat.le_refl _) (by omega)) z⟩
    exact vL_shelves_469 ok.1 ⟨hv, fun z => absurd (dc_self hv) z, fun _ => ⟨fun z => absurd z (by decide), fun _ => ⟨_, rfl, hQ.1.1.1, by omega, by omega, sh_cons ok hQ hn0 (by omega) (by omega) hK⟩⟩⟩
  have letters : ∀ d l k σ uc us, l + d = 26 → k < n → QS σ x A b n → KS K (.inl (some (vI 1))) σ → uc + 48 * d + 80 ≤ 6000 → us + 288 * d + 600 ≤ 36000 → (∀ σ, QS σ x A b n → KS K (.inl (some (vI 1))) σ → At G mL_shelves rL_shelves (uc + 48 * d + 80) (us + 288 * d + 600) 12 [some (vR (some x)), some (vI (nI n)), some (vI (nI (ecS (aP A) (k + 1)))), some (vI (agS (aP A) (k + 1))), some (vI (nI (k + 1))), none, none, none, none] [] σ K) → At G mL_shelves rL_shelves uc us 25 [some (vR (some x)), some (vI (nI n)), some (vI (nI (ecS (aP A) k))), some (vI (agL (aP A) k (agS (aP A) k) l)), some (vI (nI k)), some (vI (nI (cnt (eP (aP A) k) l))), some (vI (nI (97 + l))), none, none] [] σ K := by
    intro d
    induction d with
    | zero =>
      intro l k σ uc us hl hk hQ hK hu1 hu2 kk
      obtain rfl : l = 26 := by omega
      refine sh_end ok hQ hk (by omega) (by omega) hK fun σ' hQ' hK' => ?_
      rw [nI_add]
      exact kk σ' hQ' hK'
    | succ d ih =>
      intro l k σ uc us hl hk hQ hK hu1 hu2 kk
      refine sh_let ok hQ hk (by omega) (by omega) (by omega) hK fun σ' hQ' hK' => ?_
      refine ih (l + 1) k σ' _ _ (by omega) hk hQ' hK' (by omega) (by omega) fun σ'' hQ'' hK'' => ?_
      rw [show uc + 48 + 48 * d + 80 = uc + 48 * (d + 1) + 80 by omega, show us + 288 + 288 * d + 600 = us + 288 * (d + 1) + 600 by omega]
      exact kk σ'' hQ'' hK''
  have loop : ∀ d k σ uc us, k + d = n → QS σ x A b n → KS K (.inl (some (vI 1))) σ → uc + 1400 * d ≤ 5700 → us + 8400 * d ≤ 34000 → At G mL_shelves rL_shelves uc us 12 [some (vR (some x)), some (vI (nI n)), some (vI (nI (ecS (aP A) k))), some (vI (agS (aP A) k)), some (vI (nI k)), none, none, none, none] [] σ K := by
    intro d
    induction d with
    | zero =>
      intro k σ uc us hd hQ hK hu1 hu2
      obtain rfl : k = n := by omega
      exact fin σ uc us hQ hK (by omega) (by omega)
    | succ d ih =>
      intro k σ uc us hd hQ hK hu1 hu2
      refine vL_shelves_12 ok.1 ⟨fun z => absurd z (nI_ge (by omega) (by omega)), fun _ => ?_⟩
      have u1 : uc + 72 + 48 * 26 + 80 ≤ 6000 := by
        rw [show 48 * 26 = 1248 from rfl]
        omega
      have u2 : us + 312 + 288 * 26 + 600 ≤ 36000 := by
        rw [show 288 * 26 = 7488 from rfl]
        omega
      have u3 : k < n := by omega
      refine At.widen (letters 26 0 k σ (uc + 72) (us + 312) rfl u3 hQ hK u1 u2 fun σ' hQ' hK' => ?_) (Nat.le_add_right _ _) (Nat.le_add_right _ _)
      exact ih (k + 1) σ' _ _ (by omega) hQ' hK' (by omega) (by omega)
  refine eL_shelves ok.1 ⟨_, rfl, hQ.1.1.1, by omega, by omega, c_shelfCount ok.1 hQ.1.1 hQ.1.2.1 ?_⟩
  rw [hQ.2.2.1]
  exact vL_shelves_4 ok.1 (loop n 0 σ _ _ (by omega) hQ hK (by omega) (by omega))
end SHW
