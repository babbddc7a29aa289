/-! ===== the law's method sum ===== -/
noncomputable def jl (P : Nat → Int32) (i : Nat) : Nat := (nth (jP P) i 26).getD 0
noncomputable def el (P : Nat → Int32) (k i : Nat) : Nat := (nth (eP P k) i 26).getD 0
def z2 (z : Int32) : Int32 := if z = 0 then 0 else 2
noncomputable def smJ (P : Nat → Int32) : Nat → Nat → Int64 → Int64
  | 0, _, h => h
  | d + 1, i, h => smJ P d (i + 1) ((37 : Int64) * h + ((200 : Int32) * nI (97 + jl P i)).toInt64 + (P (8 + 3 * jl P i + 1)).toInt64)
noncomputable def smX (P : Nat → Int32) (k l : Nat) (h : Int64) : Int64 :=
  (53 : Int64) * ((47 : Int64) * h + ((1000 : Int32) * nI (97 + l)).toInt64 + (P (eX k l + 1)).toInt64) + ((100 : Int32) * (P 2 - P (eX k l + 2))).toInt64 + ((4 : Int32) * P (eX k l + 5)).toInt64 + (z2 (P (eX k l + 6))).toInt64 + (zo (bP (P (8 + 3 * l + 2) < P (eX k l + 3)))).toInt64
noncomputable def smE (P : Nat → Int32) (k : Nat) : Nat → Nat → Int64 → Int64
  | 0, _, h => h
  | d + 1, i, h => smE P k d (i + 1) (smX P k (el P k i) h)
noncomputable def smY (P : Nat → Int32) (k : Nat) (h : Int64) : Int64 :=
  (43 : Int64) * ((41 : Int64) * h + ((1000 : Int32) * P (86 + 187 * k)).toInt64 + ((10 : Int32) * P (86 + 187 * k + 1)).toInt64 + (zo (P (86 + 187 * k + 3))).toInt64) + ((200 : Int32) * P (86 + 187 * k + 2)).toInt64 + (qV (vcN P k 26)).toInt64
noncomputable def smS (P : Nat → Int32) : Nat → Nat → Int64 → Int64
  | 0, _, h => h
  | d + 1, k, h => smS P d (k + 1) (smE P k (ecN P k) 0 (smY P k h))
noncomputable def smW (P : Nat → Int32) : Nat → Nat → Int64 → Int64
  | 0, _, h => h
  | d + 1, i, h => smW P d (i + 1) ((59 : Int64) * h + ((200 : Int32) * P (834 + 3 * i)).toInt64 + (i2c (P (834 + 3 * i + 2))).toInt64)
noncomputable def smH (P : Nat → Int32) : Int64 := (31 : Int64) * ((31 : Int64) * ((7 : Int64) + (P 2).toInt64) + (P 4).toInt64) + ((1000 : Int32) * P 5).toInt64 + ((30 : Int32) * P 6).toInt64 + (P 7).toInt64
/-- what the law's sum answers of a state -/
noncomputable def SUM (P : Nat → Int32) : Int64 := smW P (P 1).toNatClampNeg 0 (smS P (P 0).toNatClampNeg 0 (smJ P (jrN P) 0 (smH P)))
section SUMS
variable {G : GG} {σ : Mm} {K : RES → Mm → Prop} {x b n : Nat} {A : AS}
theorem t_sum (ok : OKS G) (hQ : QS σ x A b n) (hK : KS K (.inl (some (vL (SUM (aP A))))) σ) : Runs G mL_sum rL_sum [vR (some x)] σ K := by
  have hn4 := hQ.2.2.2.1
  obtain ⟨m, hW⟩ := hQ.pw
  have hm8 := hW.1.1
  have hP1 := hW.1.2
  have hj12 := hQ.jr
  have em : (aP A 1).toNatClampNeg = m := by rw [hP1, nI_clamp (by omega)]
  have en : (aP A 0).toNatClampNeg = n := by rw [hQ.2.2.1, nI_clamp (by omega)]
  generalize eS : SUM (aP A) = R at hK
  -- the warmings
  have wloop : ∀ d i (h : Int64) (σ : Mm) (uc us : Nat), i + d = m → smW (aP A) d i h = R → QS σ x A b n → KS K (.inl (some (vL R))) σ → uc + 2 * d ≤ 500 → us + 12 * d ≤ 3000 → At G mL_sum rL_sum uc us 301 [some (vR (some x)), some (vL h), none, some (vI (nI i)), none, none] [] σ K := by
    intro d
    induction d with
    | zero =>
      intro i h σ uc us hi eh hQ hK hu1 hu2
      obtain rfl : i = m := by omega
      refine vL_sum_301 ok.1 ⟨_, rfl, hQ.1.1.1, by omega, by omega, c_warmingCount ok.1 hQ.1.1 hQ.1.2.1 ?_⟩
      rw [hP1]
      refine vL_sum_306 ok.1 ⟨fun _ => ⟨by omega, by omega, ?_⟩, fun z => absurd (nI_le (Nat.le_refl _) (by omega)) z⟩
      rw [show h = R from eh]
      exact hK.at
    | succ d ih =>
      intro i h σ uc us hi eh hQ hK hu1 hu2
      have him : i < m := by omega
      refine vL_sum_301 ok.1 ⟨_, rfl, hQ.1.1.1, by omega, by omega, c_warmingCount ok.1 hQ.1.1 hQ.1.2.1 ?_⟩
      rw [hP1]
      refine vL_sum_306 ok.1 ⟨fun z => absurd z (nI_ge (by omega) (by omega)), fun _ => ⟨_, rfl, hQ.1.1.1, by omega, by omega, d_warmingMinute ok hQ hP1 hm8 him ?_⟩⟩
      refine vL_sum_322 ok.1 ⟨_, rfl, hQ.1.1.1, by omega, by omega, d_warmingJar ok hQ hP1 hm8 him ?_⟩
      refine vL_sum_330 ok.1 ?_
      rw [show nI i + 1 = nI (i + 1) from nI_1 _]
      exact ih (i + 1) _ σ _ _ (by omega) eh hQ hK (by omega) (by omega)
  -- the echoes of a shelf
  have eloop : ∀ d i k (h : Int64) (σ : Mm) (uc us : Nat), k < n → i + d = ecN (aP A) k → QS σ x A b n → KS K (.inl (some (vL R))) σ → uc + 13 * d + 1 ≤ 500 → us + 78 * d + 6 ≤ 3000 → (∀ σ, QS σ x A b n → KS K (.inl (some (vL R))) σ → At G mL_sum rL_sum (uc + 13 * d + 1) (us + 78 * d + 6) 105 [some (vR (some x)), some (vL (smE (aP A) k d i h)), none, some (vI (nI (k + 1))), none, none] [] σ K) → At G mL_sum rL_sum uc us 182 [some (vR (some x)), some (vL h), none, some (vI (nI k)), some (vI (nI i)), none] [] σ K := by
    intro d
    induction d with
    | zero =>
      intro i k h σ uc us hk hi hQ hK hu1 hu2 kk
      have he6 := hQ.ec hk
      refine vL_sum_182 ok.1 ⟨_, rfl, hQ.1.1.1, by omega, by omega, d_echoCount ok hQ hk ?_⟩
      refine vL_sum_189 ok.1 ⟨fun _ => ?_, fun z => absurd (nI_le (by omega) (by omega)) z⟩
      rw [show nI k + 1 = nI (k + 1) from nI_1 _]
      exact (kk σ hQ hK).widen (by omega) (by omega)
    | succ d ih =>
      intro i k h σ uc us hk hi hQ hK hu1 hu2 kk
      have he6 := hQ.ec hk
      have hik : i < ecN (aP A) k := by omega
      obtain ⟨l, hl⟩ := nth_ex (p := eP (aP A) k) (n := 26) hik
      obtain ⟨hl26, hlp, -⟩ := nth_lt hl
      have eel : el (aP A) k i = l := by show (nth (eP (aP A) k) i 26).getD 0 = l; rw [hl]; rfl
      refine vL_sum_182 ok.1 ⟨_, rfl, hQ.1.1.1, by omega, by omega, d_echoCount ok hQ hk ?_⟩
      refine vL_sum_189 ok.1 ⟨fun z => absurd z (nI_ge (by omega) (by omega)), fun _ => ⟨_, rfl, hQ.1.1.1, by omega, by omega, d_echoAt ok hQ hk hik hl ?_⟩⟩
      refine vL_sum_199 ok.1 ⟨_, rfl, hQ.1.1.1, by omega, by omega, d_echoOf ok hQ hk hl26 hlp ?_⟩
      refine vL_sum_221 ok.1 ⟨_, rfl, hQ.1.1.1, by omega, by omega, d_ageOf ok hQ hk hl26 hlp ?_⟩
      refine vL_sum_238 ok.1 ⟨_, rfl, hQ.1.1.1, by omega, by omega, d_hitsOf ok hQ hk hl26 hlp ?_⟩
      refine vL_sum_249 ok.1 ⟨_, rfl, hQ.1.1.1, by omega, by omega, d_isOpen ok hQ hk hl26 hlp ?_⟩
      have last : ∀ (g : Int64) (uc' us' : Nat), uc' = uc + 11 → us' = us + 66 → g + (zo (bP (aP A (8 + 3 * l + 2) < aP A (eX k l + 3)))).toInt64 = smX (aP A) k l h → Runs G mX8_isTrue rX8_isTrue [vR (some x), vI (nI k), vI (nI (97 + l))] σ (bk G mL_sum rL_sum (uc' + 2) (us' + 12) 276 [some (vR (some x)), some (vL ((47 : Int64) * h + ((1000 : Int32) * nI (97 + l)).toInt64 + (aP A (eX k l + 1)).toInt64)), none, some (vI (nI k)), some (vI (nI i)), some (vI (nI (97 + l)))] [vL g] K) := by
        intro g uc' us' e1 e2 eg
        subst e1 e2
        have next : At G mL_sum rL_sum (uc + 11 + 2) (us + 66 + 12) 182 [some (vR (some x)), some (vL (smX (aP A) k l h)), none, some (vI (nI k)), some (vI (nI (i + 1))), none] [] σ K := by
          refine ih (i + 1) k _ σ _ _ hk (by omega) hQ hK (by omega) (by omega) fun σ' hQ' hK' => ?_
          have := kk σ' hQ' hK'
          rw [show smE (aP A) k (d + 1) i h = smE (aP A) k d (i + 1) (smX (aP A) k (el (aP A) k i) h) from rfl, eel] at this
          exact this.widen (by omega) (by omega)
        refine d_isTrue ok hQ hk hl26 hlp ?_
        refine vL_sum_276 ok.1 ⟨fun z => ?_, fun z => ?_⟩
        · rw [show nI i + 1 = nI (i + 1) from nI_1 _]
          rw [z] at eg
          rw [show g + (0 : Int32).toInt64 = smX (aP A) k l h from eg]
          exact next
        · rw [show nI i + 1 = nI (i + 1) from nI_1 _]
          rw [show zo (bP (aP A (8 + 3 * l + 2) < aP A (eX k l + 3))) = 1 from if_neg z] at eg
          rw [eg]
          exact next
      refine vL_sum_259 ok.1 ⟨fun z => ⟨_, rfl, hQ.1.1.1, by omega, by omega, last _ _ _ (by omega) (by omega) ?_⟩, fun z => ⟨_, rfl, hQ.1.1.1, by omega, by omega, last _ _ _ (by omega) (by omega) ?_⟩⟩
      · show _ = smX _ _ _ _
        unfold smX
        rw [show z2 (aP A (eX k l + 6)) = 0 from if_pos z]
      · show _ = smX _ _ _ _
        unfold smX
        rw [show z2 (aP A (eX k l + 6)) = 2 from if_neg z]
  -- the shelves
  have sloop : ∀ d k (h : Int64) (σ : Mm) (uc us : Nat), k + d = n → smW (aP A) m 0 (smS (aP A) d k h) = R → QS σ x A b n → KS K (.inl (some (vL R))) σ → uc + 90 * d + 20 ≤ 500 → us + 540 * d + 120 ≤ 3000 → At G mL_sum rL_sum uc us 105 [some (vR (some x)), some (vL h), none, some (vI (nI k)), none, none] [] σ K := by
    intro d
    induction d with
    | zero =>
      intro k h σ uc us hd eh hQ hK hu1 hu2
      obtain rfl : k = n := by omega
      refine vL_sum_105 ok.1 ⟨_, rfl, hQ.1.1.1, by omega, by omega, c_shelfCount ok.1 hQ.1.1 hQ.1.2.1 ?_⟩
      rw [hQ.2.2.1]
      refine vL_sum_110 ok.1 ⟨fun _ => ?_, fun z => absurd (nI_le (Nat.le_refl _) (by omega)) z⟩
      exact wloop m 0 h σ _ _ (by omega) eh hQ hK (by omega) (by omega)
    | succ d ih =>
      intro k h σ uc us hd eh hQ hK hu1 hu2
      have hk : k < n := by omega
      have he6 := hQ.ec hk
      refine vL_sum_105 ok.1 ⟨_, rfl, hQ.1.1.1, by omega, by omega, c_shelfCount ok.1 hQ.1.1 hQ.1.2.1 ?_⟩
      rw [hQ.2.2.1]
      refine vL_sum_110 ok.1 ⟨fun z => absurd z (nI_ge (by omega) (by omega)), fun _ => ⟨_, rfl, hQ.1.1.1, by omega, by omega, d_capacityOf ok hQ hk ?_⟩⟩
      refine vL_sum_126 ok.1 ⟨_, rfl, hQ.1.1.1, by omega, by omega, d_lifetimeOf ok hQ hk ?_⟩
      refine vL_sum_136 ok.1 ⟨_, rfl, hQ.1.1.1, by omega, by omega, d_isListening ok hQ hk ?_⟩
      have last : ∀ (g : Int64) (uc' us' : Nat), uc' = uc + 3 → us' = us + 18 → (43 : Int64) * g + ((200 : Int32) * aP A (86 + 187 * k + 2)).toInt64 + (qV (vcN (aP A) k 26)).toInt64 = smY (aP A) k h → Runs G mX8_policyOf rX8_policyOf [vR (some x), vI (nI k)] σ (bk G mL_sum rL_sum (uc' + 1) (us' + 6) 168 [some (vR (some x)), some (vL g), none, some (vI (nI k)), none, none] [vI 200, vL ((43 : Int64) * g)] K) := by
        intro g uc' us' e1 e2 eg
        subst e1 e2
        refine d_policyOf ok hQ hk ?_
        refine vL_sum_168 ok.1 ⟨by omega, by omega, q_victimOf ok hQ hk fun j => ?_⟩
        replace hQ := hQ.sk j
        replace hK := hK.sk j
        generalize sk σ j = σ at hQ hK ⊢
        refine vL_sum_176 ok.1 ?_
        rw [eg]
        refine (eloop (ecN (aP A) k) 0 k _ σ (uc + 6) (us + 36) hk (by omega) hQ hK (by omega) (by omega) fun σ' hQ' hK' => ?_).widen (by omega) (by omega)
        exact (ih (k + 1) _ σ' (uc + 90) (us + 540) (by omega) eh hQ' hK' (by omega) (by omega)).widen (by omega) (by omega)
      refine vL_sum_144 ok.1 ⟨fun z => ⟨_, rfl, hQ.1.1.1, by omega, by omega, last _ _ _ (by omega) (by omega) ?_⟩, fun z => ⟨_, rfl, hQ.1.1.1, by omega, by omega, last _ _ _ (by omega) (by omega) ?_⟩⟩
      · show _ = smY _ _ _
        unfold smY
        rw [show zo (aP A (86 + 187 * k + 3)) = 0 from if_pos z]
      · show _ = smY _ _ _
        unfold smY
        rw [show zo (aP A (86 + 187 * k + 3)) = 1 from if_neg z]
  -- the jars
  have jloop : ∀ d i (h : Int64) (σ : Mm) (uc us : Nat), i + d = jrN (aP A) → smW (aP A) m 0 (smS (aP A) n 0 (smJ (aP A) d i h)) = R → QS σ x A b n → KS K (.inl (some (vL R))) σ → uc + 3 * d + 390 ≤ 500 → us + 18 * d + 2340 ≤ 3000 → At G mL_sum rL_sum uc us 61 [some (vR (some x)), some (vL h), none, some (vI (nI i)), none, none] [] σ K := by
    intro d
    induction d with
    | zero =>
      intro i h σ uc us hi eh hQ hK hu1 hu2
      refine vL_sum_61 ok.1 ⟨_, rfl, hQ.1.1.1, by omega, by omega, c_jarCount ok.1 hQ.1.1 hQ.1.2.1 ?_⟩
      refine vL_sum_66 ok.1 ⟨fun _ => ?_, fun z => absurd (nI_le (by omega) (by omega)) z⟩
      exact sloop n 0 h σ _ _ (by omega) eh hQ hK (by omega) (by omega)
    | succ d ih =>
      intro i h σ uc us hi eh hQ hK hu1 hu2
      have hij : i < jrN (aP A) := by omega
      obtain ⟨l, hl⟩ := nth_ex (p := jP (aP A)) (n := 26) hij
      obtain ⟨hl26, hlp, -⟩ := nth_lt hl
      have ejl : jl (aP A) i = l := by show (nth (jP (aP A)) i 26).getD 0 = l; rw [hl]; rfl
      refine vL_sum_61 ok.1 ⟨_, rfl, hQ.1.1.1, by omega, by omega, c_jarCount ok.1 hQ.1.1 hQ.1.2.1 ?_⟩
      refine vL_sum_66 ok.1 ⟨fun z => absurd z (nI_ge (by omega) (by omega)), fun _ => ⟨_, rfl, hQ.1.1.1, by omega, by omega, d_jarAt ok hQ hij hl ?_⟩⟩
      refine vL_sum_82 ok.1 ⟨_, rfl, hQ.1.1.1, by omega, by omega, d_jarAt ok hQ hij hl ?_⟩
      refine vL_sum_91 ok.1 ⟨_, rfl, hQ.1.1.1, by omega, by omega, d_wordOf ok hQ hl26 hlp ?_⟩
      refine vL_sum_94 ok.1 ?_
      rw [show nI i + 1 = nI (i + 1) from nI_1 _]
      refine ih (i + 1) _ σ _ _ (by omega) ?_ hQ hK (by omega) (by omega)
      rw [← ejl]
      exact eh
  refine eL_sum ok.1 ⟨_, rfl, hQ.1.1.1, by omega, by omega, c_time ok.1 hQ.1.1 hQ.1.2.1 ?_⟩
  refine vL_sum_7 ok.1 ⟨_, rfl, hQ.1.1.1, by omega, by omega, c_hits ok.1 hQ.1.1 hQ.1.2.1 ?_⟩
  refine vL_sum_19 ok.1 ⟨_, rfl, hQ.1.1.1, by omega, by omega, d_misses_c ok hQ ?_⟩
  refine vL_sum_36 ok.1 ⟨_, rfl, hQ.1.1.1, by omega, by omega, d_misses_e ok hQ ?_⟩
  refine vL_sum_47 ok.1 ⟨_, rfl, hQ.1.1.1, by omega, by omega, d_misses_o ok hQ ?_⟩
  refine vL_sum_56 ok.1 (jloop (jrN (aP A)) 0 _ σ _ _ (by omega) ?_ hQ hK (by omega) (by omega))
  rw [← eS]
  unfold SUM
  rw [em, en]
  rfl
end SUMS
