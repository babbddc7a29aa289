/-! ===== the class: what is done to jars ===== -/
theorem eX_ge (k l : Nat) : 91 ≤ eX k l := by unfold eX; omega
theorem PI_jar {P P' : Nat → Int32} {n b b' : Nat} (hP : PI P n b) (hbb : b ≤ b') (ee : ∀ j, 86 ≤ j → P' j = P j) (e0 : P' 0 = P 0) (e2 : P' 2 = P 2) (e4 : P' 4 = P 4) (e5 : P' 5 = P 5) (e6 : P' 6 = P 6) (e7 : P' 7 = P 7) (h3 : NB (P' 3) b') (h3' : (P 3).toInt ≤ (P' 3).toInt)
    (hj : ∀ l, l < 26 → isZ (P' (8 + 3 * l)) ∧ NB (P' (8 + 3 * l + 1)) 99 ∧ 0 ≤ (P' (8 + 3 * l + 2)).toInt ∧ (P' (8 + 3 * l + 2)).toInt ≤ (P' 3).toInt ∧ (P' (8 + 3 * l) = 1 → (P' (8 + 3 * l + 2)).toInt < (P' 3).toInt)) (hN : jrN P' ≤ 12)
    (hw : ∀ k l, k < n → l < 26 → P (eX k l) = 1 → P' (8 + 3 * l + 2) < P (eX k l + 3) → P (eX k l + 1) = P' (8 + 3 * l + 1)) : PI P' n b' := by
  obtain ⟨h1, h2, hj0, h4, h5, h6, h7⟩ := hP.mono hbb
  have ex : ∀ k l i, P' (eX k l + i) = P (eX k l + i) := fun k l i => ee _ (by have := eX_ge k l; omega)
  have ex0 : ∀ k l, P' (eX k l) = P (eX k l) := fun k l => ex k l 0
  have ec : ∀ k, ecN P' k = ecN P k := fun k => cnt_congr fun l _ => by rw [ex0]
  refine ⟨by rw [e0]; exact h1, ⟨by rw [e2]; exact h2.1, h3, by rw [e4]; exact h2.2.2.1, by rw [e5]; exact h2.2.2.2.1, by rw [e6]; exact h2.2.2.2.2.1, by rw [e7]; exact h2.2.2.2.2.2⟩, hj, fun k hk => ?_, fun k l hk hl => ?_, fun k l l' hk hl hl' => ?_, hN⟩
  · rw [ec, ee _ (by omega), ee _ (by omega), ee _ (by omega), ee _ (by omega)]; exact h4 k hk
  · rw [ex0, ex, ex, ex, ex, ex, ex, e2]
    refine ⟨(h5 k l hk hl).1, fun q => ?_⟩
    obtain ⟨a2, a3, a4, a5, a6, a7, a8, a9, a10, a11⟩ := (h5 k l hk hl).2 q
    exact ⟨a2, a3, a4, a5, by omega, a7, by omega, a9, a10, hw k l hk hl q⟩
  · rw [ex0, ex0, ex, ex, ex, ex]; exact h6 k l l' hk hl hl'
theorem VV2_jar {J J' : Nat → Nat → Int32} {H : Nat → Nat → Int32} {E : Nat → List (Nat → Int32)} {g g' P P' : Nat → Int32} {n b b' : Nat} (hV : VV2 J H E g P n b) (hP' : PI P' n b') (ee : ∀ j, 86 ≤ j → P' j = P j) (hJ : JV J' P' b') (hG : GV g' P')
    (hc : ∀ k l, k < n → l < 26 → P (eX k l) = 1 → ∀ t : Int32, t.toInt ≤ (J l 2).toInt → 0 ≤ t.toInt → (t = J l 2 ↔ P (8 + 3 * l + 2) < P (eX k l + 3)) → t.toInt ≤ (J' l 2).toInt ∧ (t = J' l 2 ↔ P' (8 + 3 * l + 2) < P (eX k l + 3))) : VV2 J' H E g' P' n b' := by
  obtain ⟨hP, -, -, hE, hN⟩ := hV
  have ex : ∀ k l i, P' (eX k l + i) = P (eX k l + i) := fun k l i => ee _ (by have := eX_ge k l; omega)
  have ex0 : ∀ k l, P' (eX k l) = P (eX k l) := fun k l => ex k l 0
  refine ⟨hP', hJ, hG, fun k hk => ⟨?_, ?_⟩, hN⟩
  · unfold HV
    rw [ee _ (by omega), ee _ (by omega), ee _ (by omega), ee _ (by omega), ee _ (by omega)]; exact (hE k hk).1
  · rw [ee _ (by omega)]
    obtain ⟨a1, a2, a3, a4, a5, a6⟩ := (hE k hk).2
    refine ⟨a1, a2, fun r hr h0 => ?_, fun l hl h1 => a4 l hl (by rw [← ex0]; exact h1), a5, a6⟩
    obtain ⟨l, hl, q, c1, c2, c3, c4, c5, c6, c7, c8, c9, c10⟩ := a3 r hr h0
    refine ⟨l, hl, q, ?_⟩
    unfold eV
    rw [ex0, ex, ex, ex, ex, ex, ex]
    have := hc k l hk hl c1 _ c8 c9 c10
    exact ⟨c1, c2, c3, c4, c5, c6, c7, this.1, c9, this.2⟩
theorem cnt_one {p q : Nat → Prop} {l : Nat} (hp : ¬ p l) (hq : q l) (h : ∀ i, i ≠ l → (p i ↔ q i)) : ∀ n, l < n → cnt q n = cnt p n + 1
  | 0, hn => by omega
  | n + 1, hn => by
    by_cases e : l = n
    · subst e
      rw [cnt_t hq, cnt_f hp, cnt_congr (fun i hi => h i (by omega))]
    · have ih := cnt_one hp hq h n (by omega)
      by_cases z : p n
      · rw [cnt_t z, cnt_t ((h n (Ne.symm e)).mp z), ih]
      · rw [cnt_f z, cnt_f (fun w => z ((h n (Ne.symm e)).mpr w)), ih]
section SL
variable {G : GG} {σ : Mm} {K : RES → Mm → Prop} {st b n m : Nat} {ω : List Nat} {ρ : Nat → List Nat} {P : Nat → Int32}
theorem vJ_cg {σ' : Mm} {l : Nat} (h : mi σ' (st + 4 + l) = mi σ (st + 4 + l)) : vJ σ' st l = vJ σ st l := by unfold vJ; rw [h]
theorem vH_cg {σ' : Mm} {k : Nat} (h : mi σ' (st + 30 + 8 * k) = mi σ (st + 30 + 8 * k)) : vH σ' st k = vH σ st k := by unfold vH; rw [h]
theorem vE_cg {σ' : Mm} {L : List Nat} (h : ∀ e, e ∈ L → mi σ' e = mi σ e) : vE σ' L = vE σ L := List.map_congr_left fun e he => by rw [h e he]
theorem vW_cg {σ' : Mm} {L : List Nat} (h : ∀ e, e ∈ L → mi σ' e = mi σ e) : vW σ' L = vW σ L := List.map_congr_left fun e he => by rw [h e he]
theorem vG_cg {σ' : Mm} (h : mi σ' st = mi σ st) : vG σ' st = vG σ st := by unfold vG; rw [h]
/-- the values with other functions in their places -/
theorem VV2.ch {J J' : Nat → Nat → Int32} {H H' : Nat → Nat → Int32} {E E' : Nat → List (Nat → Int32)} {g : Nat → Int32} (hV : VV2 J H E g P n b) (h1 : ∀ l, l < 26 → J' l = J l) (h2 : ∀ k, k < 4 → H' k = H k) (h3 : ∀ k, k < 4 → E' k = E k) : VV2 J' H' E' g P n b := by
  obtain ⟨hP, hJ, hG, hE, hN⟩ := hV
  have hn := hP.1.1
  refine ⟨hP, fun l hl => by rw [h1 l hl]; exact hJ l hl, hG, fun k hk => ?_, fun k hk hk2 => by rw [h2 k hk, h3 k hk]; exact hN k hk hk2⟩
  rw [h2 k (by omega), h3 k (by omega)]
  refine ⟨(hE k hk).1, ?_⟩
  obtain ⟨a1, a2, a3, a4, a5, a6⟩ := (hE k hk).2
  refine ⟨a1, a2, fun r hr h0 => ?_, a4, a5, a6⟩
  obtain ⟨l, hl, q1, q2⟩ := a3 r hr h0
  refine ⟨l, hl, q1, ?_⟩
  unfold eV
  rw [h1 l hl]
  exact q2
theorem aJ_o {l j : Nat} {w : Int32} (h3 : j ≠ 3) (h0 : j ≠ 8 + 3 * l) (h1 : j ≠ 8 + 3 * l + 1) (h2 : j ≠ 8 + 3 * l + 2) : aJ P l w j = P j := by unfold aJ; rw [pk_un h3, pk_un h2, pk_un h1, pk_un h0]
theorem aJ_0 {l : Nat} {w : Int32} : aJ P l w (8 + 3 * l) = 1 := by unfold aJ; rw [pk_un (by omega), pk_un (by omega), pk_un (by omega), pk_us]
theorem aJ_1 {l : Nat} {w : Int32} : aJ P l w (8 + 3 * l + 1) = w := by unfold aJ; rw [pk_un (by omega), pk_un (by omega), pk_us]
theorem aJ_2 {l : Nat} {w : Int32} : aJ P l w (8 + 3 * l + 2) = P 3 := by unfold aJ; rw [pk_un (by omega), pk_us]
theorem aJ_3 {l : Nat} {w : Int32} : aJ P l w 3 = P 3 + 1 := by unfold aJ; rw [pk_us]
theorem wNB {w : Int32} (h1 : ¬ w < 0) (h2 : ¬ 99 < w) : NB w 99 := by
  rw [Int32.lt_iff_toInt_lt] at h1 h2
  have e0 : (0 : Int32).toInt = 0 := rfl
  have e1 : (99 : Int32).toInt = 99 := rfl
  exact ⟨by omega, by omega⟩
theorem PI_aJ {l : Nat} {w : Int32} (hP : PI P n b) (hJ : EJ P n) (hb : b < 2 ^ 29) (hl : l < 26) (hw : NB w 99) (hno : ¬ P (8 + 3 * l) = 1) (h12 : jrN P ≠ 12) : PI (aJ P l w) n (b + 1) := by
  have h3 := hP.2.1.2.1
  have e3 : (P 3 + 1).toInt = (P 3).toInt + 1 := add1_i h3.1 (by have := h3.2; omega)
  have h3a := h3.1
  have h3b := h3.2
  refine PI_jar hP (by omega) (fun j hj => aJ_o (by omega) (by omega) (by omega) (by omega)) (aJ_o (by omega) (by omega) (by omega) (by omega)) (aJ_o (by omega) (by omega) (by omega) (by omega)) (aJ_o (by omega) (by omega) (by omega) (by omega)) (aJ_o (by omega) (by omega) (by omega) (by omega)) (aJ_o (by omega) (by omega) (by omega) (by omega)) (aJ_o (by omega) (by omega) (by omega) (by omega)) ?_ ?_ (fun l' hl' => ?_) ?_ (fun k l' hk hl' h1 => ?_)
  · rw [aJ_3]; exact ⟨by omega, by omega⟩
  · rw [aJ_3]; omega
  · by_cases e : l' = l
    · subst e
      rw [aJ_0, aJ_1, aJ_2, aJ_3]
      exact ⟨Or.inr rfl, hw, h3.1, by omega, fun _ => by omega⟩
    · rw [aJ_o (by omega) (by omega) (by omega) (by omega), aJ_o (by omega) (by omega) (by omega) (by omega), aJ_o (by omega) (by omega) (by omega) (by omega), aJ_3]
      obtain ⟨c1, c2, c3, c4, c5⟩ := hP.2.2.1 l' hl'
      exact ⟨c1, c2, c3, by omega, fun q => by have := c5 q; omega⟩
  · have h9 := hP.2.2.2.2.2.2
    have : jrN (aJ P l w) = jrN P + 1 := cnt_one (l := l) hno aJ_0 (fun i hi => by rw [aJ_o (by omega) (by omega) (by omega) (by omega)]) 26 hl
    omega
  · have hl2 : l' ≠ l := fun z => hno (by rw [← z]; exact hJ k l' hk hl' h1)
    rw [aJ_o (by omega) (by omega) (by omega) (by omega), aJ_o (by omega) (by omega) (by omega) (by omega)]
    exact ((hP.2.2.2.2.1 k l' hk hl').2 h1).2.2.2.2.2.2.2.2.2
theorem EJ_jar {P' : Nat → Int32} (hJ : EJ P n) (ee : ∀ j, 86 ≤ j → P' j = P j) (h : ∀ l, l < 26 → P (8 + 3 * l) = 1 → P' (8 + 3 * l) = 1) : EJ P' n := fun k l hk hl q => h l hl (hJ k l hk hl (by rw [← ee (eX k l) (by have := eX_ge k l; omega)]; exact q))
theorem PW_jar {P' : Nat → Int32} {b' : Nat} (h : PW P n m b) (hb : b ≤ b') (ee : ∀ j, 86 ≤ j → P' j = P j) (e1 : P' 1 = P 1) (e2 : P' 2 = P 2) : PW P' n m b' := by
  obtain ⟨h1, h7, h8⟩ := h.mono hb
  refine ⟨by rw [e1]; exact h1, fun i hi => ?_, fun i hi => ?_⟩
  · rw [e2, ee (834 + 3 * i) (by omega), ee (834 + 3 * i + 1) (by omega), ee (834 + 3 * i + 2) (by omega)]; exact h7 i hi
  · rw [ee (834 + 3 * i) (by omega), ee (834 + 3 * (i + 1)) (by omega)]; exact h8 i hi
theorem WV_jar {P' : Nat → Int32} {W : List (Nat → Int32)} (h : WV W P m) (ee : ∀ j, 86 ≤ j → P' j = P j) : WV W P' m := ⟨h.1, h.2.1, fun i w hi => by rw [ee _ (by omega), ee _ (by omega), ee _ (by omega)]; exact h.2.2 i w hi⟩
theorem kX6_putJar (gk : GOK G) (hb : b < 2 ^ 29) (h : RS σ st P b) {l : Nat} {w : Int32} (hl : l < 26) (hw : NB w 99) (hno : ¬ P (8 + 3 * l) = 1) (h12 : jrN P ≠ 12) (hk : ∀ σ', RS σ' st (aJ P l w) (b + 1) → Fr σ σ' st → K (.inl (some (vI (nI (jrN (aJ P l w)))))) σ') : Runs G mX6_putJar rX6_putJar [vR (some st), vI (nI (97 + l)), vI w] σ K := by
  obtain ⟨ω, ρ, n, m, hV, ⟨hW, hPW⟩, hJ⟩ := h
  have hS := hV.1
  have ee : ∀ j, 86 ≤ j → aJ P l w j = P j := fun j hj => aJ_o (by omega) (by omega) (by omega) (by omega)
  have e1 : aJ P l w 1 = P 1 := aJ_o (by omega) (by omega) (by omega) (by omega)
  have e2 : aJ P l w 2 = P 2 := aJ_o (by omega) (by omega) (by omega) (by omega)
  have hP' := PI_aJ hV.2.1 hJ hb hl hw hno h12
  have ht := (hS.j hl).2
  refine eX6_putJar gk ⟨_, rfl, hS.ty, kX6_jarRow gk hS (isC_nI (by omega)) (fun q => absurd ⟨l, hl, rfl⟩ q) fun l' hl' el => vX6_putJar_5 gk ⟨fun q => (by cases q), fun a4 q => ?_⟩⟩
  have := nIl_inj hl hl' el
  subst this
  cases q
  refine ⟨ht, fun σ1 q1 σ2 q2 => ⟨st, rfl, hS.ty, ?_⟩⟩
  rw [si_sS] at q1
  subst q1
  rw [si_sS, sS_s, sS_sS] at q2
  subst q2
  refine kX4_speak gk ht (vX6_putJar_29 gk ⟨st, rfl, hS.ty, fun σ3 q3 => ?_⟩)
  rw [si_sS] at q3
  have hne : st ≠ st + 4 + l := by omega
  simp (disch := omega) only [sS_sS, sS_s, pk_us, pk_un, sS_n hne] at q3 ⊢
  obtain ⟨F, hF⟩ : ∃ F, F = upd (upd (upd (upd (upd (mi σ (st + 4 + l)) 0 1) 2 0) 1 w) 2 (0 + 1)) 3 (mi σ st 4) := ⟨_, rfl⟩
  rw [← hF] at q3
  have hV' : VV2 (vJ σ3 st) (vH σ3 st) (fun k => vE σ3 (ρ k)) (vG σ3 st) (aJ P l w) n (b + 1) := by
    have base := VV2_jar (J' := vJ σ3 st) (g' := vG σ3 st) hV.2 hP' ee ?_ ?_ ?_
    · refine base.ch (fun _ _ => rfl) (fun k hk => vH_cg ?_) (fun k hk => vE_cg fun e he => ?_)
      · rw [q3, sS_n (by omega), sS_n (by omega)]
      · have := hS.e hk he
        rw [q3, sS_n (by omega), sS_n (by omega)]
    · intro l' hl'
      by_cases z : l' = l
      · subst z
        rw [aJ_0, aJ_1, aJ_2]
        have eJ : vJ σ3 st l' = nr 4 F := by unfold vJ; rw [q3, sS_n (by omega), sS_s]
        rw [eJ, hF]
        refine ⟨rfl, rfl, hV.g4, ?_⟩
        show NB (0 + 1) (b + 1)
        exact ⟨by decide, by show (1 : Int) ≤ _; omega⟩
      · rw [vJ_cg (σ := σ) (by rw [q3, sS_n (by omega), sS_n (by omega)]), aJ_o (by omega) (by omega) (by omega) (by omega), aJ_o (by omega) (by omega) (by omega) (by omega), aJ_o (by omega) (by omega) (by omega) (by omega)]
        exact (hV.j.mono (by omega)) l' hl'
    · have eg : ∀ i, i < 9 → 3 ≤ i → i ≠ 4 → vG σ3 st i = vG σ st i := fun i h9 h3 h4 => by
        unfold vG
        rw [if_pos ⟨h3, h9⟩, if_pos ⟨h3, h9⟩, q3, sS_s, pk_un h4]
      have g := hV.g
      unfold GV
      rw [eg 3 (by omega) (by omega) (by omega), eg 5 (by omega) (by omega) (by omega), eg 6 (by omega) (by omega) (by omega), eg 7 (by omega) (by omega) (by omega), eg 8 (by omega) (by omega) (by omega), e2, aJ_3, aJ_o (show (4 : Nat) ≠ 3 by omega) (by omega) (by omega) (by omega), aJ_o (show (5 : Nat) ≠ 3 by omega) (by omega) (by omega) (by omega), aJ_o (show (6 : Nat) ≠ 3 by omega) (by omega) (by omega) (by omega), aJ_o (show (7 : Nat) ≠ 3 by omega) (by omega) (by omega) (by omega)]
      refine ⟨g.1, ?_, g.2.2⟩
      show mi σ3 st 4 = _
      rw [q3, sS_s, pk_us, hV.g4]
    · intro k l' hk hl' h1 t t1 t2 t3
      have hne : l' ≠ l := fun z => hno (by rw [← z]; exact hJ k l' hk hl' h1)
      rw [vJ_cg (σ := σ) (by rw [q3, sS_n (by omega), sS_n (by omega)]), aJ_o (by omega) (by omega) (by omega) (by omega)]
      exact ⟨t1, t3⟩
  have hS' : stS σ3 st ω ρ := hS.mv (by rw [q3]; rfl) (by rw [q3]; rfl)
  have hFr : Fr σ σ3 st := by
    rw [q3]
    exact (Fr.sS (by omega) (by omega)).trans (Fr.sS (by omega) (by omega))
  refine kX6_countJars gk hS' hV'.2.1 (fun l hl => (hP'.2.2.1 l hl).1) (vX6_putJar_43 gk (hk σ3 ⟨ω, ρ, n, m, ⟨hS', hV'⟩, ⟨?_, PW_jar hPW (by omega) ee e1 e2⟩, EJ_jar hJ ee fun l' hl' q => ?_⟩ hFr))
  · rw [vW_cg (σ := σ) (fun e he => by have := hS.w he; rw [q3, sS_n (by omega), sS_n (by omega)])]
    exact WV_jar hW ee
  · by_cases z : l' = l
    · rw [z, aJ_0]
    · rw [aJ_o (by omega) (by omega) (by omega) (by omega)]; exact q
end SL
