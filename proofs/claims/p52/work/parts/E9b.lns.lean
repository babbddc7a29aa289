/-! ===== the law's method lines ===== -/
def EQn (n : Nat) (f g : Nat → Int32) : Prop := ∀ j, j < n → f j = g j
theorem EQn.text {n : Nat} {t f g : Nat → Int32} (h : EQn n f g) : EQn (0 + n) (apT t 0 n f) g := fun j hj => by
  unfold apT
  rw [if_pos ⟨Nat.zero_le _, hj⟩]
  exact h j (by omega)
theorem EQn.nil {n : Nat} {f g : Nat → Int32} (h : EQn n f g) {c : Nat → Int32} : EQn (n + 0) (apT f n 0 c) g := fun j hj => by
  unfold apT
  rw [if_neg (by omega)]
  exact h j (by omega)
theorem EQn.one {n : Nat} {f g c : Nat → Int32} (h : EQn n f g) : EQn (n + 1) (apT f n 1 c) (upd g n (c 0)) := fun j hj => by
  unfold apT upd
  by_cases e : j = n
  · rw [if_pos (by omega), if_pos e, show j - n = 0 by omega]
  · rw [if_neg (by omega), if_neg e]
    exact h j (by omega)
theorem EQn.up {n : Nat} {f g : Nat → Int32} (h : EQn n f g) {c : Int32} : EQn (n + 1) (upd f n c) (upd g n c) := fun j hj => by
  unfold upd
  by_cases e : j = n
  · rw [if_pos e, if_pos e]
  · rw [if_neg e, if_neg e]
    exact h j (by omega)
theorem EQn.dg {n k : Nat} {f g : Nat → Int32} (h : EQn n f g) : EQn (n + dgN k) (dgT f n k) (dgT g n k) := fun j hj => by
  unfold dgN at hj
  unfold dgT upd
  by_cases e : k ≤ 9
  · rw [if_pos e, if_pos e]
    rw [if_pos e] at hj
    by_cases e2 : j = n
    · rw [if_pos e2, if_pos e2]
    · rw [if_neg e2, if_neg e2]
      exact h j (by omega)
  · rw [if_neg e, if_neg e]
    rw [if_neg e] at hj
    by_cases e1 : j = n + 1
    · rw [if_pos e1, if_pos e1]
    · rw [if_neg e1, if_neg e1]
      by_cases e2 : j = n
      · rw [if_pos e2, if_pos e2]
      · rw [if_neg e2, if_neg e2]
        exact h j (by omega)
theorem lnP_c {P : Nat → Int32} {k l : Nat} : ∀ {m}, l ≤ m → cnt (eP P k) l = cnt (eP P k) m → lnP P k l = lnP P k m := by
  intro m
  induction m with
  | zero => intro h _; rw [Nat.le_zero.mp h]
  | succ m ih =>
    intro h e
    by_cases q : l = m + 1
    · rw [q]
    · by_cases hp : P (eX k m) = 1
      · have h1 : cnt (eP P k) (m + 1) = cnt (eP P k) m + 1 := cnt_t hp
        have h2 := cnt_up (eP P k) (show l ≤ m by omega)
        omega
      · have h1 : cnt (eP P k) (m + 1) = cnt (eP P k) m := cnt_f hp
        rw [ih (by omega) (by omega)]
        exact (if_neg hp).symm
theorem lnP_eq {P : Nat → Int32} {k l m : Nat} (e : cnt (eP P k) l = cnt (eP P k) m) : lnP P k l = lnP P k m := by
  rcases Nat.le_total l m with h | h
  · exact lnP_c h e
  · exact (lnP_c h e.symm).symm
theorem apG_pos (l w : Nat) (o q : Bool) (L : Ln) : 0 < (apG l w o q L).1 := by
  have e1 : 0 < (apn (apc (if 0 < L.1 then apc L 32 else L) (nI (97 + l))) w).1 := by
    show 0 < (if 0 < L.1 then apc L 32 else L).1 + 1 + dgN w
    omega
  have e : ∀ (b : Bool) (L : Ln) (c : Int32), 0 < L.1 → 0 < (apq b L c).1 := fun b L c h => by
    unfold apq
    split
    · exact Nat.succ_pos _
    · exact h
  exact e _ _ _ (e _ _ _ e1)
theorem lnP_pos {P : Nat → Int32} {k : Nat} : ∀ l, 0 < cnt (eP P k) l → 0 < (lnP P k l).1
  | 0, h => absurd h (Nat.lt_irrefl _)
  | l + 1, h => by
    show 0 < (if P (eX k l) = 1 then _ else _ : Ln).1
    by_cases hp : P (eX k l) = 1
    · rw [if_pos hp]; exact apG_pos _ _ _ _ _
    · rw [if_neg hp]
      exact lnP_pos l (by rw [(cnt_f hp : cnt (eP P k) (l + 1) = _)] at h; exact h)
/-- the text so far: the n letters f, made since σ0 (or none) -/
def TXT (G : GG) (σ0 σ : Mm) (q n : Nat) (f : Nat → Int32) : Prop := LT7 n f ∧ n ≤ 60 ∧ ((n = 0 ∧ SCT G q []) ∨ ∃ v, MSt σ q v n f ∧ mz σ0 ≤ q ∧ mz σ0 ≤ v)
theorem lbn : LB7 [] := fun j hj => absurd hj (Nat.not_lt_zero _)
theorem lb126 : LB7 [126] := by unfold LB7 LT7; decide +kernel
theorem lb33 : LB7 [33] := by unfold LB7 LT7; decide +kernel
section LNS
variable {G : GG} {σ : Mm} {K : RES → Mm → Prop} {x b n : Nat} {A : AS}
theorem TB.fr {σ0 : Mm} {c m : Nat} {t : Nat → Int32} (h : TB σ0 σ c m t) : Fr2 σ0 σ := by
  obtain ⟨v, m, hS, hF, -⟩ := h
  exact hF
/-- text behind text -/
theorem TB.appendX (ok : OKS G) {σ0 σs : Mm} {c : Nat} {t : Nat → Int32} (h : TB σ0 σ c 0 t) {q N : Nat} {f : Nat → Int32} (hq : TXT G σs σ0 q N f) (hk : ∀ σ', TB σ0 σ' c (0 + N) (apT t 0 N f) → K (.inl (some (vR (some c)))) σ') : Runs G mJ4_append_15ec4 rJ4_append_15ec4_b [vR (some c), vR (some q)] σ K := by
  rcases hq.2.2 with ⟨hn, hc⟩ | ⟨v, hm, -, -⟩
  · subst hn
    refine h.appendK ok.1 ok.2.2.2 hc lbn (by decide) fun σ' hT => hk σ' ?_
    have e : (apT t 0 ([] : List Int32).length fun j => ([] : List Int32).getD j 0) = apT t 0 0 f := by
      funext i
      unfold apT
      rw [if_neg (by simp), if_neg (by omega)]
    rw [e] at hT
    exact hT
  · have := hq.2.1
    exact h.appendM ok.1 ok.2.2.2 hm hq.1 (by omega) hk
set_option maxRecDepth 50000 in
/-- one echo more -/
theorem ln_step (ok : OKS G) {σs : Mm} {k i l q : Nat} {f : Nat → Int32} {L : Ln} {uc us : Nat} (hQ : QS σ x A b n) (hl : LV σ x) (hF : Fr2 σs σ) (hk : k < n) (hi : i < ecN (aP A) k) (hnt : nth (eP (aP A) k) i 26 = some l) (eL : L = lnP (aP A) k l) (hT : TXT G σs σ q L.1 f) (hE : EQn L.1 f L.2) (hu1 : uc + 40 ≤ 3000) (hu2 : us + 2000 ≤ 150000)
    (kk : ∀ σ' q' f', QS σ' x A b n → LV σ' x → Fr2 σs σ' → TXT G σs σ' q' (lnP (aP A) k (l + 1)).1 f' → EQn (lnP (aP A) k (l + 1)).1 f' (lnP (aP A) k (l + 1)).2 → At G mL_lines rL_lines (uc + 40) (us + 2000) 16 [some (vR (some x)), some (vI (nI k)), some (vR (some q')), some (vI (nI (i + 1))), none] [] σ' K) :
    At G mL_lines rL_lines uc us 16 [some (vR (some x)), some (vI (nI k)), some (vR (some q)), some (vI (nI i)), none] [] σ K := by
  have he6 := hQ.ec hk
  obtain ⟨hl26, hlp, hcl⟩ := nth_lt hnt
  have hlp : aP A (eX k l) = 1 := hlp
  have hP := (hQ.pi.1.2.2.2.2.1 k l hk hl26).2 hlp
  have hz := hQ.2.2.2.2
  have qs : ∀ {σ'}, Fr2 σ σ' → QS σ' x A b n := fun hf => hQ.fr hl hf
  have hlen : (lnP (aP A) k l).1 ≤ 6 * i := by
    have h1 := lnP_len (aP A) k l
    have h2 : cnt (fun l => aP A (eX k l) = 1) l = i := hcl
    omega
  have hL0 : 0 < i → 0 < (lnP (aP A) k l).1 := fun h => lnP_pos l (by rw [hcl]; exact h)
  have hnx : lnP (aP A) k (l + 1) = apG l (wdN (aP A) k l) (ovB (aP A) k l) (decide (aP A (eX k l + 6) = 1)) (lnP (aP A) k l) := if_pos hlp
  have hcc : 0 ≤ (nI (97 + l)).toInt ∧ (nI (97 + l)).toInt < 128 := by rw [nI_toInt (by omega)]; omega
  have hw : aP A (eX k l + 1) = nI (wdN (aP A) k l) ∧ wdN (aP A) k l ≤ 99 := by
    have h1 := hP.1.1
    have h2 := hP.1.2
    obtain ⟨q, hq, e⟩ := nI_of (x := aP A (eX k l + 1)) (nn0 h1)
    have e2 : wdN (aP A) k l = q := by unfold wdN; rw [e, nI_clamp hq]
    rw [e, nI_toInt hq] at h2
    rw [e2]
    exact ⟨e, by omega⟩
  have hdg := dgN_le (wdN (aP A) k l)
  subst eL
  generalize hw0 : wdN (aP A) k l = w at hw hdg hnx
  generalize hL0' : lnP (aP A) k l = L at hT hE hlen hL0 hnx
  refine vL_lines_16 ok.1 ⟨_, rfl, hQ.1.1.1, by omega, by omega, d_echoCount ok hQ hk ?_⟩
  refine vL_lines_22 ok.1 ⟨fun z => absurd z (nI_ge (by omega) (by omega)), fun _ => ⟨_, rfl, hQ.1.1.1, by omega, by omega, d_echoAt ok hQ hk hi hnt ?_⟩⟩
  refine vL_lines_31 ok.1 ⟨by omega, by omega, fun σ3 e3 => ⟨by omega, by omega, ?_⟩⟩
  rw [e3]
  refine ⟨fun r t' => ∃ z, r = .inl none ∧ TB σ t' (mz σ) 0 z, TB.init ok.1 ok.2.2.2 Fr2.refl fun σ' hT => ⟨zf, rfl, hT⟩, (fun E t' z => by obtain ⟨_, z, _⟩ := z; cases z), fun v t' z => ?_⟩
  obtain ⟨z0, e, T0⟩ := z
  cases e
  refine vL_lines_40 ok.1 ⟨_, rfl, T0.ty, by omega, by omega, T0.appendX ok hT fun σ1 T1 => ?_⟩
  have E1 := hE.text (t := z0)
  -- from behind the sign between
  have rest : ∀ (σ2 : Mm) (L2 : Ln) (n2 : Nat) (t2 : Nat → Int32), L2 = (if 0 < L.1 then apc L 32 else L) → n2 = L2.1 → TB σ σ2 (mz σ) n2 t2 → EQn n2 t2 L2.2 → At G mL_lines rL_lines (uc + 12) (us + 500) 60 [some (vR (some x)), some (vI (nI k)), some (vR (some q)), some (vI (nI i)), some (vI (nI (97 + l)))] [vR (some (mz σ))] σ2 K := by
    intro σ2 L2 n2 t2 eL2 en T2 E2
    have hn2 : n2 ≤ L.1 + 1 := by
      rw [en, eL2]
      split
      · exact Nat.le_refl _
      · omega
    refine vL_lines_60 ok.1 ⟨_, rfl, T2.ty, by omega, by omega, T2.appendC ok.1 ok.2.2.2 hcc.1 hcc.2 (by omega) fun σ3 T3 => ?_⟩
    have E3 := E2.up (c := nI (97 + l))
    have hQ3 := qs T3.fr
    refine vL_lines_65 ok.1 ⟨_, rfl, hQ3.1.1.1, by omega, by omega, d_echoOf ok hQ3 hk hl26 hlp ?_⟩
    rw [hw.1]
    refine vL_lines_72 ok.1 ⟨_, rfl, T3.ty, by omega, by omega, T3.appendI ok.1 ok.2.2.2 hw.2 (by omega) fun σ4 T4 => ?_⟩
    have E4 := E3.dg (k := w)
    have hQ4 := qs T4.fr
    refine vL_lines_75 ok.1 ⟨_, rfl, hQ4.1.1.1, by omega, by omega, d_isExpired ok hQ4 hk hl26 hlp ?_⟩
    -- from behind the first mark
    have last : ∀ (σ5 : Mm) (L5 : Ln) (n5 : Nat) (t5 : Nat → Int32), L5 = apq (ovB (aP A) k l) (apn (apc L2 (nI (97 + l))) w) 126 → n5 = L5.1 → TB σ σ5 (mz σ) n5 t5 → EQn n5 t5 L5.2 → At G mL_lines rL_lines (uc + 25) (us + 1100) 97 [some (vR (some x)), some (vI (nI k)), some (vR (some q)), some (vI (nI i)), some (vI (nI (97 + l)))] [vR (some (mz σ))] σ5 K := by
      intro σ5 L5 n5 t5 eL5 en5 T5 E5
      have hn5 : n5 ≤ L.1 + 5 := by
        have h9 := apq_len (ovB (aP A) k l) (apn (apc L2 (nI (97 + l))) w) 126
        have h8 : (apn (apc L2 (nI (97 + l))) w).1 = L2.1 + 1 + dgN w := rfl
        rw [en5, eL5]
        omega
      have hQ5 := qs T5.fr
      refine vL_lines_97 ok.1 ⟨_, rfl, hQ5.1.1.1, by omega, by omega, d_isOpen ok hQ5 hk hl26 hlp ?_⟩
      have fin : ∀ (σ6 : Mm) (n6 : Nat) (t6 : Nat → Int32), n6 = (lnP (aP A) k (l + 1)).1 → TB σ σ6 (mz σ) n6 t6 → EQn n6 t6 (lnP (aP A) k (l + 1)).2 → At G mL_lines rL_lines (uc + 32) (us + 1500) 119 [some (vR (some x)), some (vI (nI k)), some (vR (some q)), some (vI (nI i)), some (vI (nI (97 + l)))] [vR (some (mz σ))] σ6 K := by
        intro σ6 n6 t6 en6 T6 E6
        have h60 : n6 ≤ 60 := by
          have h9 := apG_len l w (ovB (aP A) k l) (decide (aP A (eX k l + 6) = 1)) L
          rw [en6, hnx]
          omega
        refine vL_lines_119 ok.1 ⟨_, rfl, T6.ty, by omega, by omega, T6.toS ok.1 ok.2.2.2 fun σ7 q7 v7 hM hL7 hF7 hq7 hv7 => ?_⟩
        refine vL_lines_122 ok.1 ?_
        rw [show nI i + 1 = nI (i + 1) from nI_1 _]
        subst en6
        have hzz := hF.2
        exact (kk σ7 q7 t6 (qs hF7) (hl.fy hz hF7.fy) (hF.trans hF7) ⟨hL7, h60, Or.inr ⟨v7, hM, by omega, by omega⟩⟩ E6).widen (by omega) (by omega)
      have hzo : isZ (aP A (eX k l + 6)) := hP.2.2.2.2.2.2.2.2.1
      refine vL_lines_104 ok.1 ok.2.2.2 ⟨fun z q2 hq2 => ⟨_, rfl, T5.ty, by omega, by omega, T5.appendK ok.1 ok.2.2.2 hq2 lbn (by show n5 + 0 ≤ 60; omega) fun σ6 T6 => ?_⟩, fun z q2 hq2 => ⟨_, rfl, T5.ty, by omega, by omega, T5.appendK ok.1 ok.2.2.2 hq2 lb33 (by show n5 + 1 ≤ 60; omega) fun σ6 T6 => ?_⟩⟩
      · have e9 : lnP (aP A) k (l + 1) = L5 := by
          rw [hnx, eL5, eL2]
          have : decide (aP A (eX k l + 6) = 1) = false := decide_eq_false (by rw [z]; decide)
          unfold apG
          rw [this]
          rfl
        exact (fin σ6 _ _ (by rw [e9, ← en5]; rfl) T6 (by rw [e9]; exact E5.nil)).widen (by omega) (by omega)
      · have e9 : lnP (aP A) k (l + 1) = apc L5 33 := by
          rw [hnx, eL5, eL2]
          have : decide (aP A (eX k l + 6) = 1) = true := decide_eq_true (hzo.resolve_left z)
          unfold apG
          rw [this]
          rfl
        exact (fin σ6 _ _ (by rw [e9, en5]; rfl) T6 (by rw [e9]; show EQn _ _ (upd L5.2 L5.1 33); rw [← en5]; exact E5.one)).widen (by omega) (by omega)
    have hn4 : n2 + 1 + dgN w ≤ 60 := by omega
    refine vL_lines_82 ok.1 ok.2.2.2 ⟨fun z q2 hq2 => ⟨_, rfl, T4.ty, by omega, by omega, T4.appendK ok.1 ok.2.2.2 hq2 lbn (by show n2 + 1 + dgN w + 0 ≤ 60; omega) fun σ5 T5 => ?_⟩, fun z q2 hq2 => ⟨_, rfl, T4.ty, by omega, by omega, T4.appendK ok.1 ok.2.2.2 hq2 lb126 (by show n2 + 1 + dgN w + 1 ≤ 60; omega) fun σ5 T5 => ?_⟩⟩
    · have eo : ovB (aP A) k l = false := by
        unfold ovB
        exact @decide_eq_false _ (Classical.propDecidable _) (bP_0.mp z)
      refine (last σ5 (apn (apc L2 (nI (97 + l))) w) _ _ (by rw [eo]; rfl) (by rw [en]; rfl) T5 ?_).widen (by omega) (by omega)
      show EQn _ _ (dgT (upd L2.2 L2.1 (nI (97 + l))) (L2.1 + 1) w)
      rw [← en]
      exact E4.nil
    · have eo : ovB (aP A) k l = true := by
        unfold ovB
        exact @decide_eq_true _ (Classical.propDecidable _) (bPn z)
      refine (last σ5 (apc (apn (apc L2 (nI (97 + l))) w) 126) _ _ (by rw [eo]; rfl) (by rw [en]; rfl) T5 ?_).widen (by omega) (by omega)
      show EQn _ _ (upd (dgT (upd L2.2 L2.1 (nI (97 + l))) (L2.1 + 1) w) (L2.1 + 1 + dgN w) 126)
      rw [← en]
      exact E4.one
  refine vL_lines_44 ok.1 ok.2.2.2 ⟨fun z q2 hq2 => ⟨_, rfl, T1.ty, by omega, by omega, T1.appendK ok.1 ok.2.2.2 hq2 lb3 (by show 0 + L.1 + 1 ≤ 60; omega) fun σ2 T2 => ?_⟩, fun z q2 hq2 => ⟨_, rfl, T1.ty, by omega, by omega, T1.appendK ok.1 ok.2.2.2 hq2 lbn (by show 0 + L.1 + 0 ≤ 60; omega) fun σ2 T2 => ?_⟩⟩
  · have i0 : 0 < i := by
      rcases Nat.eq_zero_or_pos i with y | y
      · exact absurd (by rw [y]; rfl) z
      · exact y
    have hp := hL0 i0
    refine (rest σ2 (apc L 32) _ _ (by rw [if_pos hp]) (by show 0 + L.1 + 1 = L.1 + 1; omega) T2 ?_).widen (by omega) (by omega)
    have h9 := E1.one (c := fun j => ([32] : List Int32).getD j 0)
    show EQn _ _ (upd L.2 L.1 32)
    rw [show upd L.2 L.1 32 = upd L.2 (0 + L.1) 32 by rw [Nat.zero_add]]
    exact h9
  · have i0 : i = 0 := by
      rcases Nat.eq_zero_or_pos i with y | y
      · exact y
      · exact absurd z (nI_ne0 y (by omega))
    have hp : ¬ 0 < L.1 := by omega
    refine (rest σ2 L _ _ (by rw [if_neg hp]) (by show 0 + L.1 + 0 = L.1; omega) T2 E1.nil).widen (by omega) (by omega)
end LNS
