/-! ===== the law's method warmings ===== -/
def sB (a : Nat) : Int32 := (1 : Int32) <<< (nI a &&& 31)
theorem or1 : ∀ a, a < 1 → (0 : Int32) ||| sB a = sB 1 - 1 := by decide +kernel
theorem or2 : ∀ a, a < 2 → ∀ b, b < 2 → a ≠ b → ((0 : Int32) ||| sB a) ||| sB b = sB 2 - 1 := by decide +kernel
theorem or3 : ∀ a, a < 3 → ∀ b, b < 3 → ∀ c, c < 3 → (a ≠ b ∧ a ≠ c ∧ b ≠ c) → (((0 : Int32) ||| sB a) ||| sB b) ||| sB c = sB 3 - 1 := by decide +kernel
def o4 (a b c d : Nat) : Bool := (decide (a = b) || decide (a = c) || decide (a = d) || decide (b = c) || decide (b = d) || decide (c = d)) || decide (((((0 : Int32) ||| sB a) ||| sB b) ||| sB c) ||| sB d = sB 4 - 1)
theorem or4b : ((List.range 4).all fun a => (List.range 4).all fun b => (List.range 4).all fun c => (List.range 4).all fun d => o4 a b c d) = true := by decide +kernel
theorem or4 (a : Nat) (ha : a < 4) (b : Nat) (hb : b < 4) (c : Nat) (hc : c < 4) (d : Nat) (hd : d < 4) (h : a ≠ b ∧ a ≠ c ∧ a ≠ d ∧ b ≠ c ∧ b ≠ d ∧ c ≠ d) : ((((0 : Int32) ||| sB a) ||| sB b) ||| sB c) ||| sB d = sB 4 - 1 := by
  have h1 := List.all_eq_true.mp (List.all_eq_true.mp (List.all_eq_true.mp (List.all_eq_true.mp or4b a (List.mem_range.mpr ha)) b (List.mem_range.mpr hb)) c (List.mem_range.mpr hc)) d (List.mem_range.mpr hd)
  unfold o4 at h1
  simp only [Bool.or_eq_true, decide_eq_true_eq] at h1
  obtain ⟨h2, h3, h4, h5, h6, h7⟩ := h
  rcases h1 with (((((h1 | h1) | h1) | h1) | h1) | h1) | h1
  · exact absurd h1 h2
  · exact absurd h1 h3
  · exact absurd h1 h4
  · exact absurd h1 h5
  · exact absurd h1 h6
  · exact absurd h1 h7
  · exact h1
/-- the shelves of the first ranks, as bits -/
noncomputable def orR (P : Nat → Int32) (n : Nat) : Nat → Int32
  | 0 => 0
  | i + 1 => orR P n i ||| ((1 : Int32) <<< (sbh P n i n &&& 31))
theorem orR_n {P : Nat → Int32} {n b : Nat} (hP : PI P n b) (hb : b < 2 ^ 29) : orR P n n = sB n - 1 := by
  have hn4 := hP.1.1
  have hg : ∀ r, ∃ k, r < n → (k < n ∧ cnt (rkP P k) n = r ∧ sbh P n r n = nI k) := fun r => by
    by_cases hr : r < n
    · obtain ⟨k, hk, hc⟩ := rk_ex hP hb hr
      exact ⟨k, fun _ => ⟨hk, hc, sbh_at hP hb hk hc n hk (Nat.le_refl _)⟩⟩
    · exact ⟨0, fun q => absurd q hr⟩
  obtain ⟨g, hg⟩ := Classical.axiomOfChoice hg
  have hi : ∀ r s, r < n → s < n → r ≠ s → g r ≠ g s := fun r s hr hs hne e => hne (by rw [← (hg r hr).2.1, ← (hg s hs).2.1, e])
  have e1 : ∀ i, i < n → orR P n (i + 1) = orR P n i ||| sB (g i) := fun i hi => by
    show orR P n i ||| ((1 : Int32) <<< (sbh P n i n &&& 31)) = _
    rw [(hg i hi).2.2]
    rfl
  match n, hn4, hg, hi, e1 with
  | 0, _, _, _, _ => show (0 : Int32) = sB 0 - 1; decide
  | 1, _, hg, hi, e1 => rw [e1 0 (by omega)]; exact or1 _ (hg 0 (by omega)).1
  | 2, _, hg, hi, e1 => rw [e1 1 (by omega), e1 0 (by omega)]; exact or2 _ (hg 0 (by omega)).1 _ (hg 1 (by omega)).1 (hi 0 1 (by omega) (by omega) (by omega))
  | 3, _, hg, hi, e1 => rw [e1 2 (by omega), e1 1 (by omega), e1 0 (by omega)]; exact or3 _ (hg 0 (by omega)).1 _ (hg 1 (by omega)).1 _ (hg 2 (by omega)).1 ⟨hi 0 1 (by omega) (by omega) (by omega), hi 0 2 (by omega) (by omega) (by omega), hi 1 2 (by omega) (by omega) (by omega)⟩
  | 4, _, hg, hi, e1 => rw [e1 3 (by omega), e1 2 (by omega), e1 1 (by omega), e1 0 (by omega)]; exact or4 _ (hg 0 (by omega)).1 _ (hg 1 (by omega)).1 _ (hg 2 (by omega)).1 _ (hg 3 (by omega)).1 ⟨hi 0 1 (by omega) (by omega) (by omega), hi 0 2 (by omega) (by omega) (by omega), hi 0 3 (by omega) (by omega) (by omega), hi 1 2 (by omega) (by omega) (by omega), hi 1 3 (by omega) (by omega) (by omega), hi 2 3 (by omega) (by omega) (by omega)⟩
  | k + 5, h, _, _, _ => omega
section WRM
variable {G : GG} {σ : Mm} {K : RES → Mm → Prop} {x b n : Nat} {A : AS}
theorem t_warmings (ok : OKS G) (hQ : QS σ x A b n) (hK : KS K (.inl (some (vI 1))) σ) : Runs G mL_warmings rL_warmings [vR (some x)] σ K := by
  have hn4 := hQ.2.2.2.1
  obtain ⟨m, hW⟩ := hQ.pw
  have hm8 := hW.1.1
  have hP1 := hW.1.2
  have hb := hQ.2.1
  have hPI := hQ.pi.1
  -- the end: the places that are none
  have fin : ∀ (σ : Mm) (uc us : Nat) (x3 x4 : Int32), QS σ x A b n → KS K (.inl (some (vI 1))) σ → uc + 6 ≤ 100 → us + 36 ≤ 600 → Runs G mX8_shelfCount rX8_shelfCount [vR (some x)] σ (bk G mL_warmings rL_warmings (uc + 0) (us + 0) 156 [some (vR (some x)), some (vI (nI m)), some (vI (orR (aP A) n n)), some (vI x3), some (vI x4)] [vI 1, vI (orR (aP A) n n)] K) := by
    intro σ uc us x3 x4 hQ hK hu1 hu2
    refine c_shelfCount ok.1 hQ.1.1 hQ.1.2.1 ?_
    rw [hQ.2.2.1]
    refine vL_warmings_156 ok.1 ⟨fun z => absurd (orR_n hPI (Nat.lt_of_lt_of_le hb (by decide))) z, fun _ => ⟨fun z => absurd z (nI_nlt (a := 8) (by omega) (by decide)), fun _ => ⟨by omega, by omega, o_minuteAt ok hQ hP1 hm8 (fun ⟨i, hi, e⟩ => by have := (nI_eq (by omega) (by omega)).mp e; omega) fun j => ?_⟩⟩⟩
    replace hQ := hQ.sk j
    replace hK := hK.sk j
    generalize sk σ j = σ at hQ hK ⊢
    refine vL_warmings_173 ok.1 ⟨fun z => absurd rfl z, fun _ => ⟨by omega, by omega, o_warmedAt ok hQ hP1 hm8 (fun ⟨i, hi, e⟩ => nI_pos (n := i) (by omega) (by rw [← e]; decide)) fun j => ?_⟩⟩
    replace hQ := hQ.sk j
    replace hK := hK.sk j
    generalize sk σ j = σ at hQ hK ⊢
    refine vL_warmings_183 ok.1 ⟨fun z => absurd rfl z, fun _ => ⟨by omega, by omega, q_misses_h ok hQ fun j => ?_⟩⟩
    replace hQ := hQ.sk j
    replace hK := hK.sk j
    generalize sk σ j = σ at hQ hK ⊢
    refine vL_warmings_194 ok.1 ⟨fun z => absurd rfl z, fun _ => ⟨_, rfl, hQ.1.1.1, by omega, by omega, c_shelfCount ok.1 hQ.1.1 hQ.1.2.1 ?_⟩⟩
    rw [hQ.2.2.1]
    refine vL_warmings_204 ok.1 ⟨by omega, by omega, o_byHits ok hQ hQ.no fun j => ?_⟩
    replace hQ := hQ.sk j
    replace hK := hK.sk j
    generalize sk σ j = σ at hQ hK ⊢
    exact vL_warmings_207 ok.1 ⟨fun z => absurd rfl z, fun _ => ⟨by omega, by omega, hK.at⟩⟩
  -- the ranks
  have ranks : ∀ d i (σ : Mm) (uc us : Nat), i + d = n → QS σ x A b n → KS K (.inl (some (vI 1))) σ → uc + d + 10 ≤ 100 → us + 6 * d + 60 ≤ 600 → At G mL_warmings rL_warmings uc us 92 [some (vR (some x)), some (vI (nI m)), some (vI (orR (aP A) n i)), some (vI (hsP (aP A))), some (vI (nI i))] [] σ K := by
    intro d
    induction d with
    | zero =>
      intro i σ uc us hi hQ hK hu1 hu2
      obtain rfl : i = n := by omega
      refine vL_warmings_92 ok.1 ⟨_, rfl, hQ.1.1.1, by omega, by omega, c_shelfCount ok.1 hQ.1.1 hQ.1.2.1 ?_⟩
      rw [hQ.2.2.1]
      refine vL_warmings_98 ok.1 ⟨fun _ => ⟨fun _ => ⟨fun z => absurd z (by decide), fun _ => ⟨_, rfl, hQ.1.1.1, by omega, by omega, fin σ _ _ _ _ hQ hK (by omega) (by omega)⟩⟩, fun hs => ⟨_, rfl, hQ.1.1.1, by omega, by omega, c_hitShare ok.1 ok.2.2.1 hb hQ.1.1 hQ.1.2.1 (fun z => ?_) fun _ hv => ?_⟩⟩, fun z => absurd (nI_le (Nat.le_refl _) (by omega)) z⟩
      · obtain ⟨q, r, hq, e4, er, hr⟩ := hsP_n hPI.2.1.2.2
        rw [er] at z hs
        refine absurd z (nI_nle ?_ (by omega))
        rcases Nat.eq_zero_or_pos r with y | y
        · exact absurd (by rw [y]; rfl) hs
        · exact y
      · refine vL_warmings_126 ok.1 ⟨_, rfl, hQ.1.1.1, by omega, by omega, c_hits ok.1 hQ.1.1 hQ.1.2.1 ?_⟩
        exact vL_warmings_130 ok.1 ⟨hv, fun z => absurd (fc_self hv) z, fun _ => ⟨fun z => absurd z (by decide), fun _ => ⟨_, rfl, hQ.1.1.1, by omega, by omega, fin σ _ _ _ _ hQ hK (by omega) (by omega)⟩⟩⟩
    | succ d ih =>
      intro i σ uc us hi hQ hK hu1 hu2
      refine vL_warmings_92 ok.1 ⟨_, rfl, hQ.1.1.1, by omega, by omega, c_shelfCount ok.1 hQ.1.1 hQ.1.2.1 ?_⟩
      rw [hQ.2.2.1]
      refine vL_warmings_98 ok.1 ⟨fun z => absurd z (nI_ge (by omega) (by omega)), fun _ => ⟨by omega, by omega, q_byHits ok hQ (by omega) fun j => ?_⟩⟩
      replace hQ := hQ.sk j
      replace hK := hK.sk j
      generalize sk σ j = σ at hQ hK ⊢
      refine vL_warmings_109 ok.1 ?_
      rw [show nI i + 1 = nI (i + 1) from nI_1 _]
      exact ih (i + 1) σ _ _ (by omega) hQ hK (by omega) (by omega)
  -- the warmings
  have loop : ∀ d i (σ : Mm) (uc us : Nat), i + d = m → QS σ x A b n → KS K (.inl (some (vI 1))) σ → uc + 4 * d + 30 ≤ 100 → us + 24 * d + 180 ≤ 600 → At G mL_warmings rL_warmings uc us 7 [some (vR (some x)), some (vI (nI m)), some (vI (nI i)), none, none] [] σ K := by
    intro d
    induction d with
    | zero =>
      intro i σ uc us hi hQ hK hu1 hu2
      obtain rfl : i = m := by omega
      refine vL_warmings_7 ok.1 ⟨fun _ => ⟨_, rfl, hQ.1.1.1, by omega, by omega, c_hits ok.1 hQ.1.1 hQ.1.2.1 ?_⟩, fun z => absurd (nI_le (Nat.le_refl _) (by omega)) z⟩
      refine vL_warmings_67 ok.1 ⟨by omega, by omega, q_misses_c ok hQ fun j => ?_⟩
      replace hQ := hQ.sk j
      replace hK := hK.sk j
      generalize sk σ j = σ at hQ hK ⊢
      refine vL_warmings_73 ok.1 ⟨by omega, by omega, q_misses_e ok hQ fun j => ?_⟩
      replace hQ := hQ.sk j
      replace hK := hK.sk j
      generalize sk σ j = σ at hQ hK ⊢
      refine vL_warmings_80 ok.1 ⟨by omega, by omega, q_misses_o ok hQ fun j => ?_⟩
      replace hQ := hQ.sk j
      replace hK := hK.sk j
      generalize sk σ j = σ at hQ hK ⊢
      exact vL_warmings_87 ok.1 (ranks n 0 σ _ _ (by omega) hQ hK (by omega) (by omega))
    | succ d ih =>
      intro i σ uc us hi hQ hK hu1 hu2
      have him : i < m := by omega
      have hw := hW.2.1 i him
      refine vL_warmings_7 ok.1 ⟨fun z => absurd z (nI_ge (by omega) (by omega)), fun _ => ⟨by omega, by omega, q_minuteAt ok hQ hP1 hm8 him fun j => ?_⟩⟩
      replace hQ := hQ.sk j
      replace hK := hK.sk j
      generalize sk σ j = σ at hQ hK ⊢
      refine vL_warmings_17 ok.1 ⟨_, rfl, hQ.1.1.1, by omega, by omega, c_time ok.1 hQ.1.1 hQ.1.2.1 ?_⟩
      have wd : ∀ (σ : Mm) (uc us : Nat), QS σ x A b n → KS K (.inl (some (vI 1))) σ → uc + 4 * d + 31 ≤ 100 → us + 24 * d + 186 ≤ 600 → RunsH G mL_warmedAt hL_warmedAt rL_warmedAt [vR (some x), vI (nI i)] σ (bk G mL_warmings rL_warmings (uc + 1) (us + 6) 48 [some (vR (some x)), some (vI (nI m)), some (vI (nI i)), none, none] [] K) := by
        intro σ uc us hQ hK hu1 hu2
        refine q_warmedAt ok hQ hP1 hm8 him fun j => ?_
        replace hQ := hQ.sk j
        replace hK := hK.sk j
        generalize sk σ j = σ at hQ hK ⊢
        obtain ⟨l, hl, el⟩ := hw.2.2.2
        rw [el, i2c_l hl]
        refine vL_warmings_48 ok.1 ⟨fun _ => ?_, fun z => absurd (nI_le (a := 97) (by omega) (by omega)) z⟩
        rw [show nI i + 1 = nI (i + 1) from nI_1 _]
        exact ih (i + 1) σ _ _ (by omega) hQ hK (by omega) (by omega)
      refine vL_warmings_21 ok.1 ⟨fun z => ?_, fun _ => ⟨fun _ => ⟨by omega, by omega, wd σ _ _ hQ hK (by omega) (by omega)⟩, fun h0 => ⟨by omega, by omega, q_minuteAt ok hQ hP1 hm8 him fun j => ?_⟩⟩⟩
      · have h9 := hw.1
        rw [i_le] at z
        omega
      replace hQ := hQ.sk j
      replace hK := hK.sk j
      generalize sk σ j = σ at hQ hK ⊢
      have hi0 : 0 < i := by
        rcases Nat.eq_zero_or_pos i with y | y
        · exact absurd (by rw [y]; decide) h0
        · exact y
      have ei : nI i - 1 = nI (i - 1) := nI_sub' (b := 1) hi0
      refine vL_warmings_33 ok.1 ?_
      rw [ei]
      refine ⟨by omega, by omega, q_minuteAt ok hQ hP1 hm8 (show i - 1 < m by omega) fun j => ?_⟩
      replace hQ := hQ.sk j
      replace hK := hK.sk j
      generalize sk σ j = σ at hQ hK ⊢
      refine vL_warmings_40 ok.1 ⟨fun z => ?_, fun _ => ⟨by omega, by omega, wd σ _ _ hQ hK (by omega) (by omega)⟩⟩
      have h9 := hW.2.2 (i - 1) (by omega)
      rw [show i - 1 + 1 = i by omega] at h9
      rw [i_lt] at z
      omega
  refine eL_warmings ok.1 ⟨_, rfl, hQ.1.1.1, by omega, by omega, c_warmingCount ok.1 hQ.1.1 hQ.1.2.1 ?_⟩
  rw [hP1]
  exact vL_warmings_4 ok.1 (loop m 0 σ _ _ (by omega) hQ hK (by omega) (by omega))
end WRM
