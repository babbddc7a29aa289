/-! ===== the model: writeShelf, lineAt ===== -/
def LM (σ : Mm) (a : Nat) (L : Ln) : Prop := MS σ a ∧ mi σ a 8 = nI L.1 ∧ ∀ i, i < L.1 → mi σ (a + 5) i = L.2 i
def FrP (σ σ' : Mm) (a : Nat) : Prop := (∀ q, q ≠ a → q ≠ a + 5 → mi σ' q = mi σ q) ∧ (∀ k, k ≠ 8 → mi σ' a k = mi σ a k) ∧ mr σ' = mr σ ∧ ml σ' = ml σ ∧ md σ' = md σ ∧ mt σ' = mt σ ∧ mz σ' = mz σ
section LIM
variable {G : GG} {σ σ' σ0 : Mm} {K : RES → Mm → Prop} {a k : Nat} {A : AS} {L : Ln} {P : Nat → Int32}
theorem FrP.refl : FrP σ σ a := ⟨fun _ _ _ => rfl, fun _ _ => rfl, rfl, rfl, rfl, rfl, rfl⟩
theorem FrP.trans {σ'' : Mm} (h : FrP σ σ' a) (h' : FrP σ' σ'' a) : FrP σ σ'' a := by
  obtain ⟨a1, a2, a3, a4, a5, a6, a7⟩ := h
  obtain ⟨b1, b2, b3, b4, b5, b6, b7⟩ := h'
  exact ⟨fun q h1 h2 => (b1 q h1 h2).trans (a1 q h1 h2), fun k h1 => (b2 k h1).trans (a2 k h1), b3.trans a3, b4.trans a4, b5.trans a5, b6.trans a6, b7.trans a7⟩
theorem kX9_says (gk : GOK G) (hL : LM σ a L) (hn : L.1 < 60) {q : Nat} (hq : q < 65536) (hk : ∀ σ', LM σ' a (apc L (nI q)) → FrP σ σ' a → K (.inl none) σ') : Runs G mX9_says rX9_says [vR (some a), vI (nI q)] σ K := by
  obtain ⟨hM, h8, ht⟩ := hL
  refine eX9_says gk ⟨_, rfl, hM.ty, _, hM.r7, 60, hM.t7, ?_⟩
  rw [h8, i2c_nI hq, nI_clamp (by omega)]
  refine ⟨nI_in hn (by decide), isC_nI hq, fun σ1 s1 σ2 s2 => hk σ2 ⟨?_, ?_, fun i hi => ?_⟩ ?_⟩
  · rw [s2, s1]; exact hM.mv rfl rfl
  · have e : mi σ1 a 8 = nI L.1 := by rw [s1]; exact (u2_a (by omega)).trans h8
    rw [s2, e, nI_1]; exact u2_s
  · have hi : i < L.1 + 1 := hi
    have e : mi σ2 (a + 5) i = mi σ1 (a + 5) i := by rw [s2]; exact u2_a (by omega)
    rw [e, s1]
    show u2 (mi σ) (a + 5) L.1 (nI q) (a + 5) i = upd L.2 L.1 (nI q) i
    by_cases z : i = L.1
    · rw [z, u2_s, pk_us]
    · rw [u2_k z, pk_un z]; exact ht i (by omega)
  · rw [s2, s1]
    exact ⟨fun q h1 h2 => funext fun j => (u2_a h1).trans (u2_a h2), fun j h2 => (u2_k h2).trans (u2_a (by omega)), rfl, rfl, rfl, rfl, rfl⟩
theorem dg_all : ∀ k, k < 100 → (48 : Int32) + (nI k - nI k / 10 * 10) = nI (48 + k % 10) ∧ nI k / 10 = nI (k / 10) := by decide +kernel
theorem kX9_saysNumberB (gk : GOK G) (hL : LM σ a L) (hn : L.1 < 60) {w : Nat} (hw : w ≤ 9) (hk : ∀ σ', LM σ' a (apc L (nI (48 + w))) → FrP σ σ' a → K (.inl none) σ') : Runs G mX9_saysNumber rX9_saysNumberB [vR (some a), vI (nI w)] σ K := by
  refine eX9_saysNumberB gk ⟨fun _ => vX9_saysNumberB_14 gk ⟨_, rfl, hL.1.ty, ?_⟩, fun z => absurd (nI_le hw (by decide)) z⟩
  rw [(dg_all w (by omega)).1, Nat.mod_eq_of_lt (by omega)]
  exact kX9_says gk hL hn (by omega) fun σ1 h1 h2 => vX9_saysNumberB_25 gk (hk σ1 h1 h2)
theorem kX9_saysNumber (gk : GOK G) (hL : LM σ a L) (hn : L.1 < 59) {w : Nat} (hw : w ≤ 99) (hk : ∀ σ', LM σ' a (apn L w) → FrP σ σ' a → K (.inl none) σ') : Runs G mX9_saysNumber rX9_saysNumber [vR (some a), vI (nI w)] σ K := by
  unfold apn dgN dgT at hk
  by_cases h9 : w ≤ 9
  · rw [if_pos h9, if_pos h9] at hk
    refine eX9_saysNumber gk ⟨fun _ => vX9_saysNumber_14 gk ⟨_, rfl, hL.1.ty, ?_⟩, fun z => absurd (nI_le h9 (by decide)) z⟩
    rw [(dg_all w (by omega)).1, Nat.mod_eq_of_lt (by omega)]
    exact kX9_says gk hL (by omega) (by omega) fun σ1 h1 h2 => vX9_saysNumber_25 gk (hk σ1 h1 h2)
  · rw [if_neg h9, if_neg h9] at hk
    refine eX9_saysNumber gk ⟨fun z => absurd z (nI_ge (a := 9) (by omega) (by omega)), fun _ => ⟨_, rfl, hL.1.ty, ?_⟩⟩
    rw [(dg_all w (by omega)).2]
    refine kX9_saysNumberB gk hL (by omega) (by omega) fun σ1 h1 h2 => vX9_saysNumber_14 gk ⟨_, rfl, h1.1.ty, ?_⟩
    rw [(dg_all w (by omega)).1]
    exact kX9_says gk h1 (by show L.1 + 1 < 60; omega) (by omega) fun σ2 h3 h4 => vX9_saysNumber_25 gk (hk σ2 h3 (h2.trans h4))
/-- what is so of a row, for its lines -/
theorem PI.w {n b l : Nat} (h : PI P n b) (hk : k < n) (hl : l < 26) (hp : P (eX k l) = 1) : P (eX k l + 1) = nI (wdN P k l) ∧ wdN P k l ≤ 99 := by
  have hw : 0 ≤ (P (eX k l + 1)).toInt ∧ (P (eX k l + 1)).toInt ≤ 99 := ((h.2.2.2.2.1 k l hk hl).2 hp).1
  have e : wdN P k l = (P (eX k l + 1)).toInt.toNat := rfl
  refine ⟨?_, by omega⟩
  rw [← Int32.toInt_inj, nI_toInt (by omega)]
  omega
theorem kX9_writeShelf_22 (gk : GOK G) {n b : Nat} (hP : PI P n b) (hk : k < n) (hK : ∀ σ', LM σ' a (lnP P k 26) → FrP σ0 σ' a → K (.inl (some (vI (nI (lnP P k 26).1)))) σ') :
    ∀ (d l : Nat), l + d = 26 → ∀ σ, FrP σ0 σ a → LM σ a (lnP P k l) → mi σ (a + 1) = P → At G mX9_writeShelf rX9_writeShelf 0 0 22 [some (vR (some a)), some (vI (nI k)), some (vI (nI (97 + l)))] [] σ K
  | d, l, hd, σ, hF, hL, eP => by
    have hn4 := hP.1.1
    have hcap := hP.2.2.2.1 k hk
    have hc26 : cnt (fun l => P (eX k l) = 1) 26 ≤ 6 := by
      have h1 := hcap.2.2.2.2.2
      have h2 : ecN P k = cnt (fun l => P (eX k l) = 1) 26 := rfl
      rw [h2] at h1
      have := hcap.2.1
      omega
    have hcl : cnt (fun l => P (eX k l) = 1) l ≤ 6 := Nat.le_trans (cnt_up _ (by omega)) hc26
    have hlen := lnP_len P k l
    match d, hd with
    | 0, hd =>
      obtain rfl : l = 26 := by omega
      refine vX9_writeShelf_22 gk ⟨fun _ => ⟨_, rfl, hL.1.ty, ?_⟩, fun z => absurd (by decide) z⟩
      rw [hL.2.1]
      exact hK σ hL hF
    | d + 1, hd =>
      have hl : l < 26 := by omega
      have next : ∀ σ1, FrP σ σ1 a → LM σ1 a (lnP P k (l + 1)) → At G mX9_writeShelf rX9_writeShelf 0 0 109 [some (vR (some a)), some (vI (nI k)), some (vI (nI (97 + l)))] [] σ1 K := fun σ1 hF1 hL1 => vX9_writeShelf_109 gk (by
        rw [nx]
        exact kX9_writeShelf_22 gk hP hk hK d (l + 1) (by omega) σ1 (hF.trans hF1) hL1 (by rw [hF1.1 _ (by omega) (by omega)]; exact eP))
      refine vX9_writeShelf_22 gk ⟨fun z => absurd z (nI_nlt (a := 122) (b := 97 + l) (by omega) (by decide)), fun _ => ⟨_, rfl, hL.1.ty, kX9_isEcho gk hL.1 (by omega) ?_⟩⟩
      rw [eP]
      by_cases hp : P (eX k l) = 1
      · have hec : ecP P k (nI (97 + l)) := (ecP_l hl).mpr hp
        have hcs : cnt (fun l => P (eX k l) = 1) (l + 1) = cnt (fun l => P (eX k l) = 1) l + 1 := cnt_t (p := fun l => P (eX k l) = 1) hp
        have hcu := cnt_up (fun l => P (eX k l) = 1) (show l + 1 ≤ 26 by omega)
        have hL30 : (lnP P k l).1 ≤ 30 := by omega
        obtain ⟨ew, hw⟩ := hP.w hk hl hp
        have hdw := dgN_le (wdN P k l)
        have heX : eX k l + 6 < 858 := by unfold eX; omega
        rw [bP_t hec]
        refine vX9_writeShelf_34 gk ⟨fun z => absurd z (by decide), fun _ => ⟨_, rfl, hL.1.ty, ?_⟩⟩
        rw [hL.2.1]
        -- from the letter on
        have R : ∀ (σ1 : Mm) (M : Ln), M.1 ≤ 31 → FrP σ σ1 a → LM σ1 a M → apq (decide (P (eX k l + 6) = 1)) (apq (ovB P k l) (apn (apc M (nI (97 + l))) (wdN P k l)) 126) 33 = lnP P k (l + 1) → At G mX9_writeShelf rX9_writeShelf 0 0 50 [some (vR (some a)), some (vI (nI k)), some (vI (nI (97 + l)))] [] σ1 K := by
          intro σ1 M hM hF1 hL1 eM
          refine vX9_writeShelf_50 gk ⟨_, rfl, hL1.1.ty, kX9_says gk hL1 (by omega) (by omega) fun σ2 hL2 hF2 => vX9_writeShelf_55 gk ⟨_, rfl, hL2.1.ty, kX9_echo gk ?_⟩⟩
          have F2 := hF1.trans hF2
          have e2 : mi σ2 (a + 1) = P := by rw [F2.1 _ (by omega) (by omega)]; exact eP
          refine vX9_writeShelf_65 gk ⟨_, hL2.1.r0, 858, hL2.1.t0, ?_⟩
          rw [nI_1, nI_clamp (by omega)]
          refine ⟨nI_in (by omega) (by decide), _, rfl, hL2.1.ty, ?_⟩
          rw [e2, ew]
          refine kX9_saysNumber gk hL2 (by show M.1 + 1 < 59; omega) hw fun σ3 hL3 hF3 => vX9_writeShelf_71 gk ⟨_, rfl, hL3.1.ty, kX9_isOver gk hL3.1 (by omega) hl ?_⟩
          have F3 := F2.trans hF3
          have e3 : mi σ3 (a + 1) = P := by rw [F3.1 _ (by omega) (by omega)]; exact eP
          rw [e3]
          have l3 : (apn (apc M (nI (97 + l))) (wdN P k l)).1 ≤ 34 := by show M.1 + 1 + dgN _ ≤ 34; omega
          -- from the mark of the lid on
          have Q : ∀ (σ4 : Mm) (N : Ln), N.1 ≤ 35 → FrP σ σ4 a → LM σ4 a N → apq (decide (P (eX k l + 6) = 1)) N 33 = lnP P k (l + 1) → At G mX9_writeShelf rX9_writeShelf 0 0 86 [some (vR (some a)), some (vI (nI k)), some (vI (nI (97 + l)))] [] σ4 K := by
            intro σ4 N hN F4 hL4 eN
            have e4 : mi σ4 (a + 1) = P := by rw [F4.1 _ (by omega) (by omega)]; exact eP
            refine vX9_writeShelf_86 gk ⟨_, rfl, hL4.1.ty, kX9_echo gk (vX9_writeShelf_95 gk ⟨_, hL4.1.r0, 858, hL4.1.t0, ?_⟩)⟩
            rw [show nI (eX k l) + 6 = nI (eX k l + 6) from nI_add _ 6, nI_clamp (by omega), e4]
            refine ⟨nI_in (by omega) (by decide), fun z => ?_, fun z => ⟨_, rfl, hL4.1.ty, kX9_says (q := 33) gk hL4 (by omega) (by decide) fun σ5 hL5 hF5 => next σ5 (F4.trans hF5) ?_⟩⟩
            · unfold apq at eN
              rw [if_neg (fun q => z (of_decide_eq_true q))] at eN
              exact next σ4 F4 (eN ▸ hL4)
            · unfold apq at eN
              rw [if_pos (decide_eq_true z)] at eN
              exact eN ▸ hL5
          by_cases ho : ovP P k l
          · rw [bP_t ho]
            refine vX9_writeShelf_77 gk ⟨fun z => absurd z (by decide), fun _ => ⟨_, rfl, hL3.1.ty, kX9_says (q := 126) gk hL3 (by omega) (by decide) fun σ4 hL4 hF4 => Q σ4 _ (by show _ + 1 ≤ 35; omega) (F3.trans hF4) hL4 ?_⟩⟩
            rw [show ovB P k l = true from @decide_eq_true _ (Classical.propDecidable _) ho] at eM
            exact eM
          · rw [bP_f ho]
            refine vX9_writeShelf_77 gk ⟨fun _ => Q σ3 _ (by omega) F3 hL3 ?_, fun z => absurd rfl z⟩
            rw [show ovB P k l = false from @decide_eq_false _ (Classical.propDecidable _) ho] at eM
            exact eM
        have eG : lnP P k (l + 1) = apG l (wdN P k l) (ovB P k l) (decide (P (eX k l + 6) = 1)) (lnP P k l) := if_pos hp
        refine ⟨fun z => ?_, fun z => kX9_says (q := 32) gk hL (by omega) (by decide) fun σ1 hL1 hF1 => ?_⟩
        · have h0 : ¬ 0 < (lnP P k l).1 := fun q => nI_nle q (by omega) z
          refine R σ (lnP P k l) (by omega) FrP.refl hL ?_
          rw [eG]
          unfold apG
          rw [if_neg h0]
        · have h0 : 0 < (lnP P k l).1 := Nat.pos_of_ne_zero fun q => z (by rw [q]; decide)
          refine R σ1 (apc (lnP P k l) 32) (by show (lnP P k l).1 + 1 ≤ 31; omega) hF1 hL1 ?_
          rw [eG]
          unfold apG
          rw [if_pos h0]
      · have hec : ¬ ecP P k (nI (97 + l)) := fun z => hp ((ecP_l hl).mp z)
        rw [bP_f hec]
        refine vX9_writeShelf_34 gk ⟨fun _ => next σ FrP.refl ?_, fun z => absurd rfl z⟩
        have eG : lnP P k (l + 1) = lnP P k l := if_neg hp
        rw [eG]
        exact hL
end LIM
