/-! ===== the law's method spells ===== -/
section SPL
variable {G : GG} {σ : Mm} {K : RES → Mm → Prop} {x b n : Nat} {A : AS}
theorem SVw.sk {q w N : Nat} {f : Nat → Int32} (h : SVw G σ q w N f) (j : Nat) : SVw G (sk σ j) q w N f := by
  refine ⟨h.1, h.2.1, ?_⟩
  rcases h.2.2 with h | ⟨v, hv, h1, h2, h3, h4, ⟨h5, h5'⟩, h6⟩
  · exact Or.inl h
  · exact Or.inr ⟨v, hv, h1, h2, h3, h4, ⟨Nat.lt_of_lt_of_le h5 (Nat.le_add_right _ _), Nat.lt_of_lt_of_le h5' (Nat.le_add_right _ _)⟩, h6⟩
theorem kS_charAt (gk : GOK G) (sok : SOK G) {q w N i : Nat} {f : Nat → Int32} (hs : SVw G σ q w N f) (hi : i < N) (h : K (.inl (some (vI (f i)))) σ) : Runs G mJ0_charAt_5068e rJ0_charAt_5068e [vR (some q), vI (nI i)] σ K := by
  obtain ⟨b0, b1⟩ := hs.1 i hi
  obtain ⟨c0, c1⟩ := i2c_of b0 b1
  have := hs.2.1
  rcases hs.2.2 with ⟨v, hs⟩ | ⟨v, -, hs⟩
  · exact kJ0_charAt gk sok hs hi (by omega) c0 c1 h
  · exact kM_charAt gk sok hs hi (by omega) c0 c1 h
theorem t_spells (ok : OKS G) (hQ : QS σ x A b n) {q w : Nat} {f : Nat → Int32} (hs : SVw G σ q w (aln A) f) (he : ∀ j, j < aln A → f j = alt A j) (hK : KS K (.inl (some (vI 1))) σ) : Runs G mL_spells rL_spells [vR (some x), vI (nI (aln A)), vR (some q)] σ K := by
  have h60 := hs.2.1
  have loop : ∀ d i (σ : Mm) (uc us : Nat), i + d = aln A → QS σ x A b n → SVw G σ q w (aln A) f → KS K (.inl (some (vI 1))) σ → uc + d + 2 ≤ 100 → us + 6 * d + 12 ≤ 600 → At G mL_spells rL_spells uc us 17 [some (vR (some x)), some (vI (nI (aln A))), some (vR (some q)), some (vI 1), some (vI (nI i))] [] σ K := by
    intro d
    induction d with
    | zero =>
      intro i σ uc us hi hQ hs hK hu1 hu2
      refine vL_spellsS_17 ok.1 ⟨_, rfl, hs.o, by omega, by omega, kS_length ok.1 ok.2.2.2 hs ?_⟩
      refine vL_spellsS_23 ok.1 ⟨fun _ => ⟨fun z => absurd z (by decide), fun _ => ⟨by omega, by omega, o_lineAt ok hQ fun j => ?_⟩⟩, fun z => absurd (nI_le (by omega) (by omega)) z⟩
      replace hQ := hQ.sk j
      replace hK := hK.sk j
      generalize sk σ j = σ at hQ hK ⊢
      exact vL_spellsS_66 ok.1 ⟨fun z => absurd rfl z, fun _ => ⟨by omega, by omega, hK.at⟩⟩
    | succ d ih =>
      intro i σ uc us hi hQ hs hK hu1 hu2
      have hin : i < aln A := by omega
      refine vL_spellsS_17 ok.1 ⟨_, rfl, hs.o, by omega, by omega, kS_length ok.1 ok.2.2.2 hs ?_⟩
      refine vL_spellsS_23 ok.1 ⟨fun z => absurd z (nI_ge (by omega) (by omega)), fun _ => ⟨fun z => absurd z (by decide), fun _ => ⟨by omega, by omega, q_lineAt ok hQ hin fun j => ?_⟩⟩⟩
      replace hs := hs.sk j
      replace hQ := hQ.sk j
      replace hK := hK.sk j
      generalize _root_.Jvm.Pilot.CEchoPantryLaw_law_r7337_af6445.sk σ j = σ at hQ hK hs ⊢
      refine vL_spellsS_36 ok.1 ⟨_, rfl, hs.o, by omega, by omega, kS_charAt ok.1 ok.2.2.2 hs hin ?_⟩
      refine vL_spellsS_42 ok.1 ⟨fun z => absurd (he i hin).symm z, fun _ => ?_⟩
      rw [show nI i + 1 = nI (i + 1) from nI_1 _]
      exact ih (i + 1) σ _ _ (by omega) hQ hs hK (by omega) (by omega)
  refine eL_spellsS ok.1 ⟨_, rfl, hs.o, by omega, by omega, kS_length ok.1 ok.2.2.2 hs ?_⟩
  exact vL_spellsS_5 ok.1 ⟨fun z => absurd rfl z, fun _ => loop (aln A) 0 σ _ _ (by omega) hQ hs hK (by omega) (by omega)⟩
end SPL
