/-! ===== drawn: the loops ===== -/
theorem lbp : LB7 [114, 111, 108] := by unfold LB7 LT7; decide +kernel
theorem plP3 : ∀ j, j < 3 → plP (([114, 111, 108] : List Int32).getD j 0) := by unfold plP; decide
section DRM
variable {G : GG} {σ0 : Mm} {K : RES → Mm → Prop} {a L x J S : Nat}
set_option maxRecDepth 50000 in
/-- the 14 calls -/
theorem dr_calls (ok : OKS G) (hL : L < 2 ^ 31) (hJ0 : 0 < J) (hJ : J ≤ 7) (hS0 : 0 < S) (hS : S ≤ 4) (x2 : Int32) (hK : ∀ σ' A' b', b' < 2 ^ 19 → DI σ0 σ' a L x A' b' J S → K (.inl (some (vR (some x)))) σ') : ∀ d i (σ : Mm) A b uc us, i + d = 14 → DI σ0 σ a L x A b J S → b + 540 * d < 2 ^ 19 → uc + 2 * d + 2 ≤ 10000 → us + 12 * d + 12 ≤ 200000 → At G mL_drawn rL_drawn uc us 151 [some (vR (some a)), some (vR (some x)), some (vI x2), some (vI (nI J)), some (vI (nI S)), some (vI (nI i)), none, none, none, none] [] σ K := by
  intro d
  induction d with
  | zero =>
    intro i σ A b uc us hi h hb hu1 hu2
    exact vL_drawn_151 ok.1 ⟨fun _ => ⟨by omega, by omega, hK σ A b (by omega) h⟩, fun z => absurd (nI_le (a := 14) (by omega) (by omega)) z⟩
  | succ d ih =>
    intro i σ A b uc us hi h hb hu1 hu2
    have hb21 : b < 2 ^ 21 := by omega
    have e11 : (11 : Int32) + nI i = nI (11 + i) := nI_add 11 i
    refine vL_drawn_151 ok.1 ⟨fun z => absurd z (nI_ge (b := 14) (by omega) (by omega)), fun _ => ⟨by omega, by omega, ?_⟩⟩
    rw [e11]
    refine t_cell ok h.2.2.2.2.1 hL (by omega) ?_
    generalize cV L (mi σ a) (11 + i) = w
    obtain ⟨c, hc, ec⟩ := us_ex w
    obtain ⟨c3, hc3, e3⟩ := us_n hc 3
    obtain ⟨c6, hc6, e6⟩ := us_n hc 6
    obtain ⟨c9, hc9, e9⟩ := us_n hc 9
    have rJ : nI c3 - nI c3 / nI J * nI J = nI (c3 % J) := i_rem (by omega) (by omega) rfl
    have rS : nI c6 - nI c6 / nI S * nI S = nI (c6 % S) := i_rem (by omega) (by omega) rfl
    have r9 : (1 : Int32) + (nI c9 - nI c9 / 9 * 9) = nI (1 + c9 % 9) := by
      rw [i_rem (k := 9) (q := 9) (by omega) (by decide) rfl]
      exact nI_add 1 _
    have r4 : (1 : Int32) + (nI c9 - nI c9 / 4 * 4) = nI (1 + c9 % 4) := by
      rw [i_rem (k := 4) (q := 4) (by omega) (by decide) rfl]
      exact nI_add 1 _
    have r100 : nI c9 - nI c9 / 100 * 100 = nI (c9 % 100) := i_rem (by omega) (by decide) rfl
    have lJ := Nat.mod_lt c3 hJ0
    have lS := Nat.mod_lt c6 hS0
    have l9 := Nat.mod_lt c9 (show 0 < 9 by decide)
    have l4 := Nat.mod_lt c9 (show 0 < 4 by decide)
    have l100 := Nat.mod_lt c9 (show 0 < 100 by decide)
    have ey : i2c ((97 : Int32) + (3 : Int32) * nI (c3 % J)) = nI (97 + 3 * (c3 % J)) := by
      rw [show (3 : Int32) * nI (c3 % J) = nI (3 * (c3 % J)) from nI_mul 3 _, show (97 : Int32) + nI (3 * (c3 % J)) = nI (97 + 3 * (c3 % J)) from nI_add 97 _]
      exact i2c_nI (by omega)
    have dk : ∀ {K' : RES → Mm → Prop} (x6 x7 x8 : Int32), (∀ v σ', At G mL_drawn rL_drawn (uc + 1) (us + 6) 318 [some (vR (some a)), some (vR (some x)), some (vI x2), some (vI (nI J)), some (vI (nI S)), some (vI (nI i)), some (vI x6), some (vI x7), some (vI x8), none] [vI v] σ' K → K' (.inl (some (vI v))) σ') → DK K' σ0 a L x b J S := fun x6 x7 x8 hh v σ' A' h1 h2 hD => by
      refine hh v σ' (vL_drawn_318 ok.1 ⟨fun z => absurd z h1, fun _ => ⟨fun _ => ?_, fun z => absurd z h2⟩⟩)
      rw [show nI i + 1 = nI (i + 1) from nI_1 _]
      exact ih (i + 1) σ' A' (b + 540) _ _ (by omega) hD (by omega) (by omega) (by omega)
    refine vL_drawn_167 ok.1 ?_
    rw [ec, e3, e6, e9, rJ, rS, r9, r4, r100, ey]
    refine ⟨nI_ne0 hJ0 (by omega), nI_ne0 hS0 (by omega), fun _ => ⟨fun _ => ⟨fun _ => ⟨fun _ => ⟨fun _ => ⟨by omega, by omega, ?_⟩, fun _ => ⟨by omega, by omega, ?_⟩⟩, fun _ => ⟨by omega, by omega, ?_⟩⟩, fun _ => ⟨by omega, by omega, ?_⟩⟩, fun _ => ⟨by omega, by omega, ?_⟩⟩, fun _ => ⟨by omega, by omega, ?_⟩⟩
    · exact d_listen ok h hS lS (Or.inl rfl) (dk _ _ _ fun v σ' hh => hh)
    · exact d_listen ok h hS lS (Or.inr rfl) (dk _ _ _ fun v σ' hh => hh)
    · exact d_pass ok h hb21 (by omega) (by omega) (dk _ _ _ fun v σ' hh => vL_drawn_294 ok.1 hh)
    · exact d_warm ok h hJ hS hb21 lS lJ (by omega) (by omega) (dk _ _ _ fun v σ' hh => vL_drawn_268 ok.1 hh)
    · exact d_say ok h hJ hS hb21 lJ (by omega) (dk _ _ _ fun v σ' hh => vL_drawn_238 ok.1 hh)
    · exact d_hear ok h hJ hS hb21 lS lJ (dk _ _ _ fun v σ' hh => vL_drawn_212 ok.1 hh)
set_option maxRecDepth 50000 in
/-- the shelves -/
theorem dr_shelves (ok : OKS G) (hL : L < 2 ^ 31) (hJ0 : 0 < J) (hJ : J ≤ 7) (hS0 : 0 < S) (hS : S ≤ 3) (x2 : Int32) (hK : ∀ σ' A' b', b' < 2 ^ 19 → DI σ0 σ' a L x A' b' J S → K (.inl (some (vR (some x)))) σ') : ∀ d m (σ : Mm) A b uc us, m + d = S → DI σ0 σ a L x A b J m → b + 540 * 14 < 2 ^ 19 → uc + 2 * d + 40 ≤ 10000 → us + 12 * d + 240 ≤ 200000 → At G mL_drawn rL_drawn uc us 84 [some (vR (some a)), some (vR (some x)), some (vI x2), some (vI (nI J)), some (vI (nI S)), some (vI (nI m)), none, none, none, none] [] σ K := by
  intro d
  induction d with
  | zero =>
    intro m σ A b uc us hi h hb hu1 hu2
    obtain rfl : m = S := by omega
    exact vL_drawn_84 ok.1 ⟨fun _ => dr_calls ok hL hJ0 hJ hS0 (by omega) x2 hK 14 0 σ A b uc us rfl h hb (by omega) (by omega), fun z => absurd (nI_le (by omega) (by omega)) z⟩
  | succ d ih =>
    intro m σ A b uc us hi h hb hu1 hu2
    have e8 : (8 : Int32) + nI m = nI (8 + m) := nI_add 8 m
    refine vL_drawn_84 ok.1 ⟨fun z => absurd z (nI_ge (by omega) (by omega)), fun _ => ⟨by omega, by omega, ?_⟩⟩
    rw [e8]
    refine t_cell ok h.2.2.2.2.1 hL (by omega) ?_
    generalize cV L (mi σ a) (8 + m) = w
    obtain ⟨c, hc, ec⟩ := us_ex w
    obtain ⟨c3, hc3, e3⟩ := us_n hc 3
    obtain ⟨c7, hc7, e7⟩ := us_n hc 7
    have r9 : (1 : Int32) + (nI c3 - nI c3 / 9 * 9) = nI (1 + c3 % 9) := by
      rw [i_rem (k := 9) (q := 9) (by omega) (by decide) rfl]
      exact nI_add 1 _
    have r4 : (1 : Int32) + (nI c - nI c / 4 * 4) = nI (1 + c % 4) := by
      rw [i_rem (k := 4) (q := 4) (by omega) (by decide) rfl]
      exact nI_add 1 _
    have r3 : nI c7 - nI c7 / 3 * 3 = nI (c7 % 3) := i_rem (by omega) (by decide) rfl
    have l9 := Nat.mod_lt c3 (show 0 < 9 by decide)
    have l4 := Nat.mod_lt c (show 0 < 4 by decide)
    have l3 := Nat.mod_lt c7 (show 0 < 3 by decide)
    refine vL_drawn_100 ok.1 ok.2.2.2 ?_
    rw [ec, e3, e7, r9, r4, r3]
    refine fun q hq => ⟨hq.o, by omega, by omega, kT_charAt ok.1 ok.2.2.2 hq l3 (by decide) lbp ?_⟩
    refine vL_drawn_132 ok.1 ⟨by omega, by omega, d_addShelf ok h (by omega) (by omega) (by omega) (by omega) (by omega) (plP3 _ l3) fun σ' A' h' => ?_⟩
    refine vL_drawn_135 ok.1 ⟨fun _ => ?_, fun z => absurd rfl z⟩
    rw [show nI m + 1 = nI (m + 1) from nI_1 _]
    exact ih (m + 1) σ' A' b _ _ (by omega) h' hb (by omega) (by omega)
set_option maxRecDepth 50000 in
/-- the jars -/
theorem dr_jars (ok : OKS G) (hL : L < 2 ^ 31) (hJ0 : 0 < J) (hJ : J ≤ 7) (hS0 : 0 < S) (hS : S ≤ 3) (x2 : Int32) (hK : ∀ σ' A' b', b' < 2 ^ 19 → DI σ0 σ' a L x A' b' J S → K (.inl (some (vR (some x)))) σ') : ∀ d k (σ : Mm) A b uc us, k + d = J → DI σ0 σ a L x A b k 0 → b + d + 540 * 14 < 2 ^ 19 → uc + 2 * d + 60 ≤ 10000 → us + 12 * d + 400 ≤ 200000 → At G mL_drawn rL_drawn uc us 35 [some (vR (some a)), some (vR (some x)), some (vI x2), some (vI (nI J)), some (vI (nI S)), some (vI (nI k)), none, none, none, none] [] σ K := by
  intro d
  induction d with
  | zero =>
    intro k σ A b uc us hi h hb hu1 hu2
    obtain rfl : k = J := by omega
    exact vL_drawn_35 ok.1 ⟨fun _ => dr_shelves ok hL hJ0 hJ hS0 hS x2 hK S 0 σ A b uc us (by omega) h (by omega) (by omega) (by omega), fun z => absurd (nI_le (by omega) (by omega)) z⟩
  | succ d ih =>
    intro k σ A b uc us hi h hb hu1 hu2
    have e1 : (1 : Int32) + nI k = nI (1 + k) := nI_add 1 k
    have ey : i2c ((97 : Int32) + (3 : Int32) * nI k) = nI (97 + 3 * k) := by
      rw [show (3 : Int32) * nI k = nI (3 * k) from nI_mul 3 _, show (97 : Int32) + nI (3 * k) = nI (97 + 3 * k) from nI_add 97 _]
      exact i2c_nI (by omega)
    refine vL_drawn_35 ok.1 ⟨fun z => absurd z (nI_ge (by omega) (by omega)), fun _ => ⟨by omega, by omega, ?_⟩⟩
    rw [e1, ey]
    refine t_cell ok h.2.2.2.2.1 hL (by omega) ?_
    generalize cV L (mi σ a) (1 + k) = w
    obtain ⟨c, hc, ec⟩ := us_ex w
    have r100 : nI c - nI c / 100 * 100 = nI (c % 100) := i_rem hc (by decide) rfl
    have l100 := Nat.mod_lt c (show 0 < 100 by decide)
    refine vL_drawn_58 ok.1 ?_
    rw [ec, r100]
    refine ⟨by omega, by omega, d_addJar ok h (by omega) (by omega) (by omega) fun σ' A' h' => ?_⟩
    refine vL_drawn_66 ok.1 ⟨fun _ => ?_, fun z => absurd (nI_1 k).symm z⟩
    rw [show nI k + 1 = nI (k + 1) from nI_1 _]
    exact ih (k + 1) σ' A' (b + 1) _ _ (by omega) h' (by omega) (by omega) (by omega)
set_option maxRecDepth 50000 in
theorem t_drawn (ok : OKS G) (ha : mt σ0 a = (99, L)) (hz : a < mz σ0) (hL : L < 2 ^ 31) (hK : ∀ σ' x A' b' n, b' < 2 ^ 19 → 0 < n → QS σ' x A' b' n → mt σ' a = (99, L) → a < x → K (.inl (some (vR (some x)))) σ') : Runs G mL_drawn rL_drawn [vR (some a)] σ0 K := by
  refine eL_drawn ok.1 ⟨by decide, by decide, fun σ3 e3 => ⟨by decide, by decide, ?_⟩⟩
  refine ⟨fun r t => r = .inl none ∧ DI σ0 t a L (mz σ0) A0 0 0 0, c_init ok.1 ok.2.2.2 (by rw [e3]; show (if mz σ0 = mz σ0 then (9, 0) else _ : Nat × Nat).1 = 9; rw [if_pos rfl]) (by rw [e3]; funext j; exact if_pos rfl) (by rw [e3]; rfl) (fun σ' hC hN ez => ⟨rfl, hC, ⟨rfl, fun l hl => ⟨fun z => absurd z (by show ¬ (0 : Int32) = 1; decide), fun ⟨i, h1, _⟩ => absurd h1 (Nat.not_lt_zero _)⟩⟩, ?_, by omega, ?_, hz⟩), (fun E t z => by cases z.1), fun v t z => ?_⟩
  · refine (Fr2.bl (σ := σ0) (σ' := σ3) (x := mz σ0) (by rw [e3]; exact Fr2.nw _) (Nat.le_refl _)).trans fun q hq => ⟨(hN q hq).1, (hN q hq).2.2.2.2⟩
  · rw [(hN a hz).2.2.2.2, e3]
    show (if a = mz σ0 then _ else _) = _
    rw [if_neg (by omega)]
    exact ha
  · obtain ⟨e, h⟩ := z
    cases e
    refine vL_drawn_7 ok.1 ⟨by decide, by decide, t_cell ok (i := 0) h.2.2.2.2.1 hL (by decide) ?_⟩
    generalize cV L (mi t a) 0 = w
    obtain ⟨c, hc, ec⟩ := us_ex w
    obtain ⟨c3, hc3, e3⟩ := us_n hc 3
    have r6 : (2 : Int32) + (nI c - nI c / 6 * 6) = nI (2 + c % 6) := by
      rw [i_rem (k := 6) (q := 6) hc (by decide) rfl]
      exact nI_add 2 _
    have r3 : (1 : Int32) + (nI c3 - nI c3 / 3 * 3) = nI (1 + c3 % 3) := by
      rw [i_rem (k := 3) (q := 3) (by omega) (by decide) rfl]
      exact nI_add 1 _
    have l6 := Nat.mod_lt c (show 0 < 6 by decide)
    have l3 := Nat.mod_lt c3 (show 0 < 3 by decide)
    refine vL_drawn_13 ok.1 ?_
    rw [ec, e3, r6, r3]
    exact dr_jars ok hL (by omega) (by omega) (by omega) (by omega) _ (fun σ' A' b' hb h' => hK σ' _ A' b' _ hb (by omega) ⟨h'.1, by omega, h'.2.1.1, by omega, h'.2.2.2.1⟩ h'.2.2.2.2.1 h'.2.2.2.2.2) (2 + c % 6) 0 t A0 0 _ _ (by omega) h (by omega) (by omega) (by omega)
end DRM
