/-! ===== the class: a State's rows against another row of the model; a State's questions ===== -/
theorem PI.cg {P Q : Nat → Int32} {n b : Nat} (e : ∀ k, k < 858 → Q k = P k) (h : PI P n b) : PI Q n b := by
  obtain ⟨h1, h2, h3, h4, h5, h6, h7⟩ := h
  have hn := h1.1
  have ee : ∀ k l i, k < 4 → l < 26 → i < 7 → Q (eX k l + i) = P (eX k l + i) := fun k l i hk hl hi => e _ (by unfold eX; omega)
  have ec : ∀ k, k < 4 → ecN Q k = ecN P k := fun k hk => cnt_congr fun l hl => by rw [show Q (eX k l) = P (eX k l) from ee k l 0 hk hl (by omega)]
  refine ⟨?_, ?_, fun l hl => ?_, fun k hk => ?_, fun k l hk hl => ?_, fun k l l' hk hl hl' => ?_, ?_⟩
  · rw [e 0 (by omega)]; exact h1
  · rw [e 2 (by omega), e 3 (by omega), e 4 (by omega), e 5 (by omega), e 6 (by omega), e 7 (by omega)]; exact h2
  · rw [e (8 + 3 * l) (by omega), e (8 + 3 * l + 1) (by omega), e (8 + 3 * l + 2) (by omega), e 3 (by omega)]; exact h3 l hl
  · rw [ec k (by omega), e (86 + 187 * k) (by omega), e (86 + 187 * k + 2) (by omega), e (86 + 187 * k + 3) (by omega), e (86 + 187 * k + 4) (by omega)]; exact h4 k hk
  · rw [show Q (eX k l) = P (eX k l) from ee k l 0 (by omega) hl (by omega), ee k l 1 (by omega) hl (by omega), ee k l 2 (by omega) hl (by omega), ee k l 3 (by omega) hl (by omega), ee k l 4 (by omega) hl (by omega), ee k l 5 (by omega) hl (by omega), ee k l 6 (by omega) hl (by omega), e (8 + 3 * l + 1) (by omega), e (8 + 3 * l + 2) (by omega), e 2 (by omega), e 3 (by omega)]
    exact h5 k l hk hl
  · rw [show Q (eX k l) = P (eX k l) from ee k l 0 (by omega) hl (by omega), show Q (eX k l') = P (eX k l') from ee k l' 0 (by omega) hl' (by omega), ee k l 3 (by omega) hl (by omega), ee k l 4 (by omega) hl (by omega), ee k l' 3 (by omega) hl' (by omega), ee k l' 4 (by omega) hl' (by omega)]
    exact h6 k l l' hk hl hl'
  · rw [show jrN Q = jrN P from cnt_congr fun l hl => by rw [e (8 + 3 * l) (by omega)]]; exact h7
theorem PW.cg {P Q : Nat → Int32} {n m b : Nat} (e : ∀ k, k < 858 → Q k = P k) (h : PW P n m b) : PW Q n m b := by
  obtain ⟨h1, h7, h8⟩ := h
  have hm := h1.1
  refine ⟨by rw [e 1 (by omega)]; exact h1, fun i hi => ?_, fun i hi => ?_⟩
  · rw [e (834 + 3 * i) (by omega), e (834 + 3 * i + 1) (by omega), e (834 + 3 * i + 2) (by omega), e 2 (by omega)]; exact h7 i hi
  · rw [e (834 + 3 * i) (by omega), e (834 + 3 * (i + 1)) (by omega)]; exact h8 i hi
theorem EJ.cg {P Q : Nat → Int32} {n : Nat} (hn : n ≤ 4) (e : ∀ k, k < 858 → Q k = P k) (h : EJ P n) : EJ Q n := fun k l hk hl => by
  rw [e (eX k l) (by unfold eX; omega), e (8 + 3 * l) (by omega)]
  exact h k l hk hl
theorem EV.cg {J : Nat → Nat → Int32} {P Q : Nat → Int32} {k : Nat} {p : Int32} {rs : List (Nat → Int32)} (hk : k < 4) (e : ∀ k, k < 858 → Q k = P k) (h : EV J P k p rs) : EV J Q k p rs := by
  have ee : ∀ l i, l < 26 → i < 7 → Q (eX k l + i) = P (eX k l + i) := fun l i hl hi => e _ (by unfold eX; omega)
  obtain ⟨a1, a2, a3, a4, a5, a6⟩ := h
  refine ⟨a1, a2, fun r hr h0 => ?_, fun l hl h1 => a4 l hl (by rw [← show Q (eX k l) = P (eX k l) from ee l 0 hl (by omega)]; exact h1), a5, a6⟩
  obtain ⟨l, hl, q, h9⟩ := a3 r hr h0
  refine ⟨l, hl, q, ?_⟩
  unfold eV
  rw [show Q (eX k l) = P (eX k l) from ee l 0 hl (by omega), ee l 1 hl (by omega), ee l 2 hl (by omega), ee l 3 hl (by omega), ee l 4 hl (by omega), ee l 5 hl (by omega), ee l 6 hl (by omega), e (8 + 3 * l + 2) (by omega)]
  exact h9
theorem VV2.cg {J : Nat → Nat → Int32} {H : Nat → Nat → Int32} {E : Nat → List (Nat → Int32)} {g P Q : Nat → Int32} {n b : Nat} (e : ∀ k, k < 858 → Q k = P k) (h : VV2 J H E g P n b) : VV2 J H E g Q n b := by
  obtain ⟨hP, hJ, hG, hE, hN⟩ := h
  have hn := hP.1.1
  refine ⟨hP.cg e, fun l hl => ?_, ?_, fun k hk => ⟨?_, ?_⟩, hN⟩
  · rw [e (8 + 3 * l) (by omega), e (8 + 3 * l + 1) (by omega), e (8 + 3 * l + 2) (by omega)]; exact hJ l hl
  · unfold GV; rw [e 2 (by omega), e 3 (by omega), e 4 (by omega), e 5 (by omega), e 6 (by omega), e 7 (by omega)]; exact hG
  · unfold HV; rw [e (86 + 187 * k) (by omega), e (86 + 187 * k + 1) (by omega), e (86 + 187 * k + 2) (by omega), e (86 + 187 * k + 3) (by omega), e (86 + 187 * k + 4) (by omega)]; exact (hE k hk).1
  · rw [e (86 + 187 * k + 2) (by omega)]; exact (hE k hk).2.cg (by omega) e
theorem WV.cg {W : List (Nat → Int32)} {P Q : Nat → Int32} {m : Nat} (hm : m ≤ 8) (e : ∀ k, k < 858 → Q k = P k) (hW : WV W P m) : WV W Q m := ⟨hW.1, hW.2.1, fun i w hi => ⟨fun him => by
  rw [e (834 + 3 * i) (by omega), e (834 + 3 * i + 1) (by omega), e (834 + 3 * i + 2) (by omega)]; exact (hW.2.2 i w hi).1 him, (hW.2.2 i w hi).2⟩⟩
theorem RS.cg {σ : Mm} {st b : Nat} {P Q : Nat → Int32} (e : ∀ k, k < 858 → Q k = P k) (h : RS σ st P b) : RS σ st Q b := by
  obtain ⟨ω, ρ, n, m, ⟨hS, hV⟩, ⟨hW, hPW⟩, hJ⟩ := h
  exact ⟨ω, ρ, n, m, ⟨hS, hV.cg e⟩, ⟨hW.cg hPW.1.1 e, hPW.cg e⟩, hJ.cg hV.1.1.1 e⟩
theorem NB.mono {x : Int32} {b b' : Nat} (h : NB x b) (hb : b ≤ b') : NB x b' := ⟨h.1, by have := h.2; omega⟩
theorem PI.mono {P : Nat → Int32} {n b b' : Nat} (h : PI P n b) (hb : b ≤ b') : PI P n b' := by
  obtain ⟨h1, h2, h3, h4, h5, h6, h7⟩ := h
  refine ⟨h1, ⟨h2.1.mono hb, h2.2.1.mono hb, h2.2.2.1.mono hb, h2.2.2.2.1.mono hb, h2.2.2.2.2.1.mono hb, h2.2.2.2.2.2.mono hb⟩, h3, fun k hk => ?_, fun k l hk hl => ⟨(h5 k l hk hl).1, fun q => ?_⟩, h6, h7⟩
  · obtain ⟨a1, a2, a3, a4, a5, a6⟩ := h4 k hk
    exact ⟨a1, a2, a3, a4, a5.mono hb, a6⟩
  · obtain ⟨a2, a3, a4, a5, a6, a7, a8, a9, a10⟩ := (h5 k l hk hl).2 q
    exact ⟨a2, a3, a4, a5, a6, a7, a8, a9.mono hb, a10⟩
theorem JV.mono {J : Nat → Nat → Int32} {P : Nat → Int32} {b b' : Nat} (hJ : JV J P b) (hb : b ≤ b') : JV J P b' := fun l hl => ⟨(hJ l hl).1, (hJ l hl).2.1, (hJ l hl).2.2.1, (hJ l hl).2.2.2.mono hb⟩
theorem PW.mono {P : Nat → Int32} {n m b b' : Nat} (h : PW P n m b) (hb : b ≤ b') : PW P n m b' := ⟨h.1, fun i hi => by
  obtain ⟨a1, a2, a3⟩ := h.2.1 i hi
  exact ⟨a1, by omega, a3⟩, h.2.2⟩
theorem RV.mono {σ : Mm} {st b b' n : Nat} {P : Nat → Int32} {ω : List Nat} {ρ : Nat → List Nat} (h : RV σ st P b n ω ρ) (hb : b ≤ b') : RV σ st P b' n ω ρ := by
  obtain ⟨hS, hP, hJ, hG, hE, hN⟩ := h
  exact ⟨hS, hP.mono hb, hJ.mono hb, hG, hE, hN⟩
theorem RS.mono {σ : Mm} {st b b' : Nat} {P : Nat → Int32} (h : RS σ st P b) (hb : b ≤ b') : RS σ st P b' := by
  obtain ⟨ω, ρ, n, m, hV, ⟨hW, hPW⟩, hJ⟩ := h
  exact ⟨ω, ρ, n, m, hV.mono hb, ⟨hW, hPW.mono hb⟩, hJ⟩
section SQ
variable {G : GG} {σ : Mm} {K : RES → Mm → Prop} {st b n m : Nat} {ω : List Nat} {ρ : Nat → List Nat} {P : Nat → Int32}
theorem isC_ok {x : Int32} (h : isC x) : ∃ q : Nat, q < 65536 ∧ x = nI q := isC_n h
theorem kX6_jarRow (gk : GOK G) (hS : stS σ st ω ρ) {x : Int32} (hc : isC x) (h0 : ¬ isL x → K (.inl (some (vR none))) σ) (hk : ∀ l : Nat, l < 26 → x = nI (97 + l) → K (.inl (some (vR (some (st + 4 + l))))) σ) : Runs G mX6_jarRow rX6_jarRow [vR (some st), vI x] σ K := by
  obtain ⟨q, hq, rfl⟩ := isC_n hc
  refine eX6_jarRow gk ⟨fun h => h0 ?_, fun h => ⟨_, rfl, hS.ty, _, hS.r0, _, hS.t0, fun h2 => ?_, fun h2 => h0 ?_⟩⟩
  · rintro ⟨l, hl, e⟩
    have := (nI_eq (by omega) (by omega)).mp e
    subst this
    rw [show (97 : Int32) = nI 97 from rfl, pk_sub (by omega)] at h
    exact nI_pos (by omega) h
  · have h97 : 97 ≤ q := by
      rcases Nat.lt_or_ge q 97 with z | z
      · exact absurd (pk_sneg (a := q) (b := 97) (by omega) z) h
      · exact z
    rw [show (97 : Int32) = nI 97 from rfl, pk_sub h97] at h2 ⊢
    have hl : q - 97 < 26 := (nI_ltI (by omega) (by omega)).mp h2
    rw [nI_clamp (by omega), (hS.j hl).1]
    exact ⟨vp_in_nI hl (by omega), hk (q - 97) hl (by rw [show 97 + (q - 97) = q by omega])⟩
  · rintro ⟨l, hl, e⟩
    have := (nI_eq (by omega) (by omega)).mp e
    subst this
    rw [show (97 : Int32) = nI 97 from rfl, pk_sub (by omega), nI_ltI (by omega) (by omega)] at h2
    omega
theorem kX6_findJar (gk : GOK G) (hS : stS σ st ω ρ) (hJ : JV (vJ σ st) P b) {x : Int32} (hc : isC x) (hZ : ∀ l, l < 26 → isZ (P (8 + 3 * l))) (h0 : ¬ jrP P x → K (.inl (some (vR none))) σ) (hk : ∀ l : Nat, l < 26 → x = nI (97 + l) → P (8 + 3 * l) = 1 → K (.inl (some (vR (some (st + 4 + l))))) σ) : Runs G mX6_findJar rX6_findJar [vR (some st), vI x] σ K := by
  refine eX6_findJar gk ⟨_, rfl, hS.ty, kX6_jarRow gk hS hc (fun q => vX6_findJar_5 gk ⟨fun _ => h0 (fun ⟨l, hl, e, _⟩ => q ⟨l, hl, e⟩), fun _ q => by cases q⟩) fun l hl e => vX6_findJar_5 gk ⟨fun q => (by cases q), fun a2 q => ?_⟩⟩
  cases q
  have ej : mi σ (st + 4 + l) 0 = P (8 + 3 * l) := (hJ l hl).1
  refine ⟨(hS.j hl).2, fun q => h0 fun ⟨l', hl', e', h'⟩ => ?_, fun q => hk l hl e ?_⟩
  · rw [e] at e'
    have := nIl_inj hl hl' e'
    subst this
    rw [ej, h'] at q
    exact absurd q (by decide)
  · rw [ej] at q
    exact (isZ01 (hZ l hl)).mp q
/-- a shelf's number against the row P of n shelves -/
theorem kX6_findShelf (gk : GOK G) (hS : stS σ st ω ρ) (hV : VV2 (vJ σ st) (vH σ st) (fun k => vE σ (ρ k)) (vG σ st) P n b) {x : Int32} (h0 : ¬ shP P x → K (.inl (some (vR none))) σ) (hk : ∀ k : Nat, k < n → x = nI k → K (.inl (some (vR (some (st + 30 + 8 * k))))) σ) : Runs G mX6_findShelf rX6_findShelf [vR (some st), vI x] σ K := by
  obtain ⟨hP, hJ, hG, hE, hN⟩ := hV
  have hn := hP.1.1
  have hP0 := hP.1.2
  refine eX6_findShelf gk ⟨fun q => h0 fun z => z.1 q, fun q => ⟨_, rfl, hS.ty, _, hS.r1, _, hS.t1, fun q2 => ?_, fun q2 => h0 fun z => ?_⟩⟩
  · obtain ⟨k, hk31, rfl⟩ := nI_of q
    have hk4 : k < 4 := (nI_ltI hk31 (by omega)).mp q2
    refine ⟨vp_in_nI hk4 (by omega), st + 30 + 8 * k, ?_, (hS.s hk4).2.1.ty, fun q3 => h0 fun z => ?_, fun q3 => ?_⟩
    · rw [nI_clamp (by omega)]; exact (hS.s hk4).1
    · have hkn := (shP_n hn hP0 (by omega)).mp z
      have e : mi σ (st + 30 + 8 * k) 0 = 1 := (hE k hkn).1.1
      rw [q3] at e
      exact absurd e (by decide)
    · have hkn : k < n := by
        rcases Nat.lt_or_ge k n with z | z
        · exact z
        · exact absurd (hN k hk4 z).1.1 q3
      rw [nI_clamp (by omega), (hS.s hk4).1]
      exact hk k hkn rfl
  · obtain ⟨k, hk4, rfl, -⟩ := shP_k ⟨n, hn, hP0⟩ z
    exact q2 ((nI_ltI (by omega) (by omega)).mpr hk4)
theorem WV.at {W : List (Nat → Int32)} (h : WV W P m) {i : Nat} (hi : i < 8) : ∃ w, W[i]? = some w := ⟨W[i]'(by rw [h.1]; exact hi), List.getElem?_eq_getElem _⟩
theorem stS.wat (hS : stS σ st ω ρ) {i : Nat} (hi : i < 8) : ∃ e, ω[i]? = some e ∧ mr σ (st + 3) i = some e ∧ (mt σ e).1 = 8 ∧ (vW σ ω)[i]? = some (nr 4 (mi σ e)) := by
  have hl := hS.wl
  have h1 : ω[i]? = some (ω[i]'(by rw [hl]; exact hi)) := List.getElem?_eq_getElem _
  refine ⟨ω[i]'(by rw [hl]; exact hi), h1, hS.2.2.2.1 i _ h1, hS.2.2.2.2.2 _ (List.getElem_mem _), ?_⟩
  unfold vW
  rw [List.getElem?_map, h1]
  rfl
theorem kX6_findWarming (gk : GOK G) (hS : stS σ st ω ρ) (hm : m ≤ 8) (hW : WV (vW σ ω) P m) {x : Int32} (h0 : ¬ (∃ i : Nat, i < m ∧ x = nI i) → K (.inl (some (vR none))) σ) (hk : ∀ (i e : Nat), i < m → x = nI i → ω[i]? = some e → K (.inl (some (vR (some e)))) σ) : Runs G mX6_findWarming rX6_findWarming [vR (some st), vI x] σ K := by
  refine eX6_findWarming gk ⟨fun q => h0 fun ⟨i, hi, e⟩ => ?_, fun q => ⟨_, rfl, hS.ty, _, hS.r2, _, hS.t2, fun q2 => ?_, fun q2 => h0 fun ⟨i, hi, e⟩ => ?_⟩⟩
  · rw [e] at q; exact nI_pos (by omega) q
  · obtain ⟨i, hi31, rfl⟩ := nI_of q
    have hi8 : i < 8 := (nI_ltI hi31 (by omega)).mp q2
    obtain ⟨e, e1, e2, e3, e4⟩ := hS.wat hi8
    refine ⟨vp_in_nI hi8 (by omega), e, ?_, e3, fun q3 => h0 fun ⟨i', hi', e'⟩ => ?_, fun q3 => ?_⟩
    · rw [nI_clamp (by omega)]; exact e2
    · have := (nI_eq (by omega) (by omega)).mp e'
      subst this
      have h9 : mi σ e 0 = 1 := ((hW.2.2 i _ e4).1 hi').1
      rw [q3] at h9
      exact absurd h9 (by decide)
    · have him : i < m := by
        rcases Nat.lt_or_ge i m with z | z
        · exact z
        · exact absurd ((hW.2.2 i _ e4).2 z) q3
      rw [nI_clamp (by omega), e2]
      exact hk i e him rfl e1
  · rw [e] at q2; exact q2 ((nI_ltI (by omega) (by omega)).mpr (by omega))
theorem kX6_countJars_13 (gk : GOK G) (hS : stS σ st ω ρ) (hJ : JV (vJ σ st) P b) (hZ : ∀ l, l < 26 → isZ (P (8 + 3 * l))) (hk : K (.inl (some (vI (nI (jrN P))))) σ) : ∀ (d l : Nat), l + d = 26 → At G mX6_countJars rX6_countJars 0 0 13 [some (vR (some st)), some (vI (nI (cnt (fun l => P (8 + 3 * l) = 1) l))), some (vR (some (st + 1))), some (vI (nI 26)), some (vI (nI l)), none] [] σ K
  | 0, l, h => by
    obtain rfl : l = 26 := by omega
    exact vX6_countJars_13 gk ⟨fun _ => hk, fun q => absurd (by decide) q⟩
  | d + 1, l, h => by
    have ih := kX6_countJars_13 gk hS hJ hZ hk d (l + 1) (by omega)
    have hl : l < 26 := by omega
    have ej : mi σ (st + 4 + l) 0 = P (8 + 3 * l) := (hJ l hl).1
    refine vX6_countJars_13 gk ⟨fun q => absurd q (nI_ge hl (by omega)), fun _ => ⟨_, rfl, _, hS.t0, vp_in_nI hl (by omega), st + 4 + l, ?_, (hS.j hl).2, fun q => ?_, fun q => ?_⟩⟩
    · rw [nI_clamp (by omega)]; exact (hS.j hl).1
    · rw [ej] at q
      rw [cnt_f (by rw [q]; decide)] at ih
      rw [nA1]; exact ih
    · rw [ej] at q
      rw [cnt_t ((isZ01 (hZ l hl)).mp q)] at ih
      rw [nA1, nA1]; exact ih
theorem kX6_countJars (gk : GOK G) (hS : stS σ st ω ρ) (hJ : JV (vJ σ st) P b) (hZ : ∀ l, l < 26 → isZ (P (8 + 3 * l))) (hk : K (.inl (some (vI (nI (jrN P))))) σ) : Runs G mX6_countJars rX6_countJars [vR (some st)] σ K := by
  refine eX6_countJars gk ⟨_, rfl, hS.ty, _, hS.r0, _, hS.t0, ?_⟩
  rw [hS.r0]
  exact kX6_countJars_13 gk hS hJ hZ hk 26 0 rfl
theorem kX6_countShelves_13 (gk : GOK G) (hS : stS σ st ω ρ) (hn : n ≤ 4) (h1 : ∀ k, k < n → mi σ (st + 30 + 8 * k) 0 = 1) (h2 : ∀ k, k < 4 → n ≤ k → mi σ (st + 30 + 8 * k) 0 = 0) (hk : K (.inl (some (vI (nI n)))) σ) : ∀ (d k : Nat), k + d = 4 → At G mX6_countShelves rX6_countShelves 0 0 13 [some (vR (some st)), some (vI (nI (min k n))), some (vR (some (st + 2))), some (vI (nI 4)), some (vI (nI k)), none] [] σ K
  | 0, k, h => by
    obtain rfl : k = 4 := by omega
    rw [show min 4 n = n by omega]
    exact vX6_countShelves_13 gk ⟨fun _ => hk, fun q => absurd (by decide) q⟩
  | d + 1, k, h => by
    have ih := kX6_countShelves_13 gk hS hn h1 h2 hk d (k + 1) (by omega)
    have hk4 : k < 4 := by omega
    refine vX6_countShelves_13 gk ⟨fun q => absurd q (nI_ge hk4 (by omega)), fun _ => ⟨_, rfl, _, hS.t1, vp_in_nI hk4 (by omega), st + 30 + 8 * k, ?_, (hS.s hk4).2.1.ty, fun q => ?_, fun q => ?_⟩⟩
    · rw [nI_clamp (by omega)]; exact (hS.s hk4).1
    · have hkn : n ≤ k := by
        rcases Nat.lt_or_ge k n with z | z
        · rw [h1 k z] at q; exact absurd q (by decide)
        · exact z
      rw [show min (k + 1) n = n by omega] at ih
      rw [show min k n = n by omega, nA1]; exact ih
    · have hkn : k < n := by
        rcases Nat.lt_or_ge k n with z | z
        · exact z
        · exact absurd (h2 k hk4 z) q
      rw [show min (k + 1) n = k + 1 by omega] at ih
      rw [show min k n = k by omega, nA1]; exact ih
theorem kX6_countShelves (gk : GOK G) (hS : stS σ st ω ρ) (hV : VV2 (vJ σ st) (vH σ st) (fun k => vE σ (ρ k)) (vG σ st) P n b) (hk : K (.inl (some (vI (nI n)))) σ) : Runs G mX6_countShelves rX6_countShelves [vR (some st)] σ K := by
  refine eX6_countShelves gk ⟨_, rfl, hS.ty, _, hS.r1, _, hS.t1, ?_⟩
  rw [hS.r1]
  have := kX6_countShelves_13 gk hS hV.1.1.1 (fun k hk => (hV.2.2.2.1 k hk).1.1) (fun k hk hk2 => (hV.2.2.2.2 k hk hk2).1.1) hk 4 0 rfl
  rw [show min 0 n = 0 by omega] at this
  exact this
theorem kX6_countWarmings_13 (gk : GOK G) (hS : stS σ st ω ρ) (hm : m ≤ 8) (hW : WV (vW σ ω) P m) (hk : K (.inl (some (vI (nI m)))) σ) : ∀ (d i : Nat), i + d = 8 → At G mX6_countWarmings rX6_countWarmings 0 0 13 [some (vR (some st)), some (vI (nI (min i m))), some (vR (some (st + 3))), some (vI (nI 8)), some (vI (nI i)), none] [] σ K
  | 0, i, h => by
    obtain rfl : i = 8 := by omega
    rw [show min 8 m = m by omega]
    exact vX6_countWarmings_13 gk ⟨fun _ => hk, fun q => absurd (by decide) q⟩
  | d + 1, i, h => by
    have ih := kX6_countWarmings_13 gk hS hm hW hk d (i + 1) (by omega)
    have hi8 : i < 8 := by omega
    obtain ⟨e, e1, e2, e3, e4⟩ := hS.wat hi8
    have e5 := hW.2.2 i _ e4
    refine vX6_countWarmings_13 gk ⟨fun q => absurd q (nI_ge hi8 (by omega)), fun _ => ⟨_, rfl, _, hS.t2, vp_in_nI hi8 (by omega), e, ?_, e3, fun q => ?_, fun q => ?_⟩⟩
    · rw [nI_clamp (by omega)]; exact e2
    · have him : m ≤ i := by
        rcases Nat.lt_or_ge i m with z | z
        · have : mi σ e 0 = 1 := (e5.1 z).1
          rw [this] at q; exact absurd q (by decide)
        · exact z
      rw [show min (i + 1) m = m by omega] at ih
      rw [show min i m = m by omega, nA1]; exact ih
    · have him : i < m := by
        rcases Nat.lt_or_ge i m with z | z
        · exact z
        · exact absurd (e5.2 z) q
      rw [show min (i + 1) m = i + 1 by omega] at ih
      rw [show min i m = i by omega, nA1]; exact ih
theorem kX6_countWarmings (gk : GOK G) (hS : stS σ st ω ρ) (hm : m ≤ 8) (hW : WV (vW σ ω) P m) (hk : K (.inl (some (vI (nI m)))) σ) : Runs G mX6_countWarmings rX6_countWarmings [vR (some st)] σ K := by
  refine eX6_countWarmings gk ⟨_, rfl, hS.ty, _, hS.r2, _, hS.t2, ?_⟩
  rw [hS.r2]
  have := kX6_countWarmings_13 gk hS hm hW hk 8 0 rfl
  rw [show min 0 m = 0 by omega] at this
  exact this
end SQ
