/-! ===== the class: writeShelf, lineAt ===== -/
theorem Runs.ofHK {G : GG} {M : SIG} {rm : Room} {as : List VV} {σ : Mm} {K : RES → Mm → Prop} (h : (∀ q, mz σ ≤ q → (mt σ q).1 = 0) → Runs G M rm as σ K) : Runs G M rm as σ K := by
  intro p e ha hc hk s m args below hf happ hP hT
  obtain ⟨_, hH, _⟩ := id hP
  exact h (fun q hq => hk_free hH hq) p e ha hc hk s m args below hf happ hP hT
section LIO
variable {G : GG} {σ σs : Mm} {K : RES → Mm → Prop} {x b n k : Nat} {A : AS} {ω : List Nat} {ρ : Nat → List Nat} {P : Nat → Int32}
theorem bP_dec (p : Prop) : decide (bP p = 1) = @decide p (Classical.propDecidable _) := by
  by_cases h : p
  · rw [bP_t h, @decide_eq_true _ (Classical.propDecidable _) h]
    rfl
  · rw [bP_f h, @decide_eq_false _ (Classical.propDecidable _) h]
    rfl
theorem kX8_writeShelf_17 (gk : GOK G) (sok : SOK G) {s : Int32} (hX : CS σs x) (hV : RV σs (x + 1) P b n ω ρ) (hk : k < n) (hK : ∀ σ', LB σ' x (lnP P k 26) → FrX σs σ' x → K (.inl (some (vI (nI (lnP P k 26).1)))) σ') :
    ∀ (d l : Nat), l + d = 26 → ∀ σ, FrX σs σ x → LB σ x (lnP P k l) → At G mX8_writeShelf rX8_writeShelf (1 + 5 * cnt (fun l => P (eX k l) = 1) l) (6 + 700 * cnt (fun l => P (eX k l) = 1) l) 17 [some (vR (some x)), some (vI s), some (vR (some (x + 1 + 30 + 8 * k))), some (vI (nI (97 + l))), none] [] σ K
  | d, l, hd, σ, hF, hB => by
    have hn4 := hV.n4
    have e : ∀ q, q < x + 786 → mi σ q = mi σs q ∧ mr σ q = mr σs q ∧ mt σ q = mt σs q := fun q hq => by
      obtain ⟨a1, a2, -⟩ := hF.1 q (by omega) (by omega) (by omega)
      exact ⟨a1, a2, hF.2.1 q (by omega)⟩
    have hX2 : CS σ x := hX.loc (e x (by omega)).2.1 (e x (by omega)).2.2
    have hV2 : RV σ (x + 1) P b n ω ρ := hV.loc fun q q1 q2 => e q (by omega)
    have hcap := (hV.pi.2.2.2.1 k hk)
    have hc26 : cnt (fun l => P (eX k l) = 1) 26 ≤ 6 := by
      have h1 := hcap.2.2.2.2.2
      have h2 : ecN P k = cnt (fun l => P (eX k l) = 1) 26 := rfl
      rw [h2] at h1
      have := hcap.2.1
      omega
    have hcl : cnt (fun l => P (eX k l) = 1) l ≤ 6 := Nat.le_trans (cnt_up _ (by omega)) hc26
    have hlen := lnP_len P k l
    match d, hd with
    | 0, hd =>
      obtain rfl : l = 26 := by omega
      refine vX8_writeShelf_17 gk ⟨fun _ => ⟨_, rfl, hX2.1, _, hX2.2.2.2.2.2, hB.ty, by show 1 + 5 * _ + 0 ≤ 31; omega, by show 6 + 700 * _ + 0 ≤ 4206; omega, ?_⟩, fun z => absurd (by decide) z⟩
      rw [hX2.2.2.2.2.2]
      exact kLBl gk hB (vX8_writeShelf_69 gk ⟨by show 1 + 5 * _ + 0 ≤ 31; omega, by show 6 + 700 * _ + 0 ≤ 4206; omega, hK σ hB hF⟩)
    | d + 1, hd =>
      have hl : l < 26 := by omega
      have hss := hV2.ss hk
      have hEA := hV2.ea hk
      refine vX8_writeShelf_17 gk ⟨fun z => absurd z (nI_nlt (a := 122) (b := 97 + l) (by omega) (by decide)), fun _ => ⟨_, rfl, hss.1, by show 1 + 5 * _ + 0 ≤ 31; omega, by show 6 + 700 * _ + 0 ≤ 4206; omega, kX5_find gk hss ?_⟩⟩
      by_cases hp : P (eX k l) = 1
      · obtain ⟨a, hf, ha, a0, a1, hv⟩ := hEA.find1 hl hp
        have ht := hss.2.2.2.2.2 a ha
        have hae := hV2.s.e (by omega : k < 4) ha
        have hpe := (hV.pi.2.2.2.2.1 k l hk hl).2 hp
        have hcs : cnt (fun l => P (eX k l) = 1) (l + 1) = cnt (fun l => P (eX k l) = 1) l + 1 := cnt_t (p := fun l => P (eX k l) = 1) hp
        have hcu := cnt_up (fun l => P (eX k l) = 1) (show l + 1 ≤ 26 by omega)
        rw [hf]
        refine vX8_writeShelf_28 gk ⟨(fun z => by cases z), fun a2 ea => ?_⟩
        cases ea
        refine ⟨_, rfl, hX2.1, _, hX2.2.1, hV2.s.ty, _, rfl, hss.1, by show 1 + 5 * _ + 0 + 0 ≤ 31; omega, by show 6 + 700 * _ + 0 + 0 ≤ 4206; omega, kX5_hasOutlived gk hss.1 ht ?_⟩
        rw [hV2.g3, hV2.h2 hk, hv.2.2.1]
        have ez := (hEA.2.1 a ha).2.1
        have hw : 0 ≤ (P (eX k l + 1)).toInt ∧ (P (eX k l + 1)).toInt ≤ 99 := hpe.1
        have ew : mi σ a 2 = nI (wdN P k l) := by
          rw [hv.2.1]
          unfold wdN
          rw [← Int32.toInt_inj]
          have : (P (eX k l + 1)).toNatClampNeg = (P (eX k l + 1)).toInt.toNat := rfl
          rw [this, nI_toInt (by omega)]
          omega
        have hw2 : wdN P k l ≤ 99 := by
          show (P (eX k l + 1)).toInt.toNat ≤ 99
          omega
        refine vX8_writeShelf_51 gk ⟨_, rfl, hX2.1, by show 1 + 5 * _ + 0 + 0 + 5 ≤ 31; omega, by show 6 + 700 * _ + 0 + 0 + 700 ≤ 4206; omega, kX8_writeEcho gk sok hX2 hB (by omega) (by omega) ht hl hw2 a1 ew (bP_z _) ez fun σ1 hB1 hF1 => vX8_writeShelf_54 gk ?_⟩
        rw [i2c_nx hl]
        have hB2 : LB σ1 x (lnP P k (l + 1)) := by
          rw [bP_dec, hv.2.2.2.2.2.2.1] at hB1
          show LB σ1 x (if P (eX k l) = 1 then _ else _)
          rw [if_pos hp]
          exact hB1
        have := kX8_writeShelf_17 (s := s) gk sok hX hV hk hK d (l + 1) (by omega) σ1 (hF.trans hF1) hB2
        refine At.widen this ?_ ?_
        · rw [hcs]; show 1 + 5 * _ + 0 + 0 + 5 ≤ _; omega
        · rw [hcs]; show 6 + 700 * _ + 0 + 0 + 700 ≤ _; omega
      · rw [hEA.find0 (x := nI (97 + l)) (fun z => hp ((ecP_l hl).mp z))]
        refine vX8_writeShelf_28 gk ⟨fun _ => vX8_writeShelf_54 gk ?_, (fun a2 z => by cases z)⟩
        rw [i2c_nx hl]
        have hcs : cnt (fun l => P (eX k l) = 1) (l + 1) = cnt (fun l => P (eX k l) = 1) l := cnt_f (p := fun l => P (eX k l) = 1) hp
        have hB2 : LB σ x (lnP P k (l + 1)) := by
          show LB σ x (if P (eX k l) = 1 then _ else _)
          rw [if_neg hp]
          exact hB
        have := kX8_writeShelf_17 (s := s) gk sok hX hV hk hK d (l + 1) (by omega) σ hF hB2
        rw [hcs] at this
        exact this
theorem c_writeShelf (gk : GOK G) (sok : SOK G) (hst : STR G) (hz : x + 788 ≤ mz σ) (hC : CIV σ x A b) {s : Int32} (h1 : ¬ shP (aP A) s → ∀ k, K (.inr "java/lang/IndexOutOfBoundsException") (sk σ k)) (hk : ∀ k : Nat, k < 4 → s = nI k → nI k < aP A 0 → (lnP (aP A) k 26).1 ≤ 36 → ∀ σ', CIV σ' x (Aln A (lnP (aP A) k 26).1 (lnP (aP A) k 26).2) b → FrX σ σ' x → K (.inl (some (vI (nI (lnP (aP A) k 26).1)))) σ') : Runs G mX8_writeShelf rX8_writeShelf [vR (some x), vI s] σ K := by
  refine Runs.ofHK fun hZ => ?_
  obtain ⟨hX, hR, hH, hS, hE, hT, hL⟩ := id hC
  have hB : LB σ x (aln A, alt A) := LN.lb hL hz hZ
  refine eX8_writeShelf gk ⟨_, rfl, hX.1, by decide, by decide, cWantShelf gk hst hX hR h1 fun k n ω ρ m hV hW hJ hkn es => vX8_writeShelf_5 gk ⟨_, rfl, hX.1, _, hX.2.2.2.2.2, hB.ty, by decide, by decide, ?_⟩⟩
  have hn4 := hV.n4
  rw [hX.2.2.2.2.2]
  obtain ⟨v, m', hSB, hv, -⟩ := hB
  refine kJ4_setLength0 gk hSB fun σ1 hS1 hF1 hz1 => vX8_writeShelf_14 gk ?_
  have hB1 : LB σ1 x (lnP (aP A) k 0) := ⟨v, m', ⟨hS1.1, hS1.2.1, hS1.2.2.1, hS1.2.2.2.1, hS1.2.2.2.2.1, Nat.zero_le _, hS1.2.2.2.2.2.2.1, hS1.2.2.2.2.2.2.2.1, fun i hi => absurd hi (Nat.not_lt_zero _), hS1.2.2.2.2.2.2.2.2.2⟩, hv, by rw [hz1]; exact hz⟩
  have hcap := hV.pi.2.2.2.1 k hkn
  have hlen : (lnP (aP A) k 26).1 ≤ 36 := by
    have h1 := hcap.2.2.2.2.2
    have h2 : ecN (aP A) k = cnt (fun l => aP A (eX k l) = 1) 26 := rfl
    rw [h2] at h1
    have := hcap.2.1
    have := lnP_len (aP A) k 26
    omega
  refine kX8_writeShelf_17 gk sok hX hV hkn (fun σ' hB' hF' => ?_) 26 0 rfl σ1 (hF1.tox hv hz hSB.2.2.2.1 hS1.2.2.2.1 hS1.2.2.2.2.2.2.2.1.2 (Or.inl rfl)) hB1
  have e : ∀ q, q < x + 786 → mi σ' q = mi σ q ∧ mr σ' q = mr σ q ∧ mt σ' q = mt σ q := fun q hq => by
    obtain ⟨a1, a2, -⟩ := hF'.1 q (by omega) (by omega) (by omega)
    exact ⟨a1, a2, hF'.2.1 q (by omega)⟩
  obtain ⟨x1, x2, x3⟩ := e x (by omega)
  exact hk k (by omega) es (by rw [hV.p0]; exact nI_lt hkn (by omega)) hlen σ' ⟨hX.loc x2 x3, hR.loc fun q q1 q2 => e q (by omega), hH.loc fun q q1 q2 => e q (by omega), hS.loc (by rw [x1]) fun q q1 q2 => e q (by omega), by rw [x1]; exact hE, hT.loc fun q q1 q2 => e q (by omega), LB.ln hB' (Nat.le_trans hlen (by decide))⟩ hF'
theorem c_lineAt (gk : GOK G) (sok : SOK G) (hst : STR G) (hz : x + 788 ≤ mz σ) (hC : CIV σ x A b) {i : Int32} (h1 : ¬ (∃ q : Nat, q < aln A ∧ i = nI q) → ∀ k, K (.inr "java/lang/IndexOutOfBoundsException") (sk σ k)) (hk : ∀ q : Nat, q < aln A → i = nI q → isC (alt A q) → K (.inl (some (vI (alt A q)))) σ) : Runs G mX8_lineAt rX8_lineAt [vR (some x), vI i] σ K := by
  refine Runs.ofHK fun hZ => ?_
  obtain ⟨hX, hR, hH, hS, hE, hT, hL⟩ := id hC
  have hB : LB σ x (aln A, alt A) := LN.lb hL hz hZ
  have hn60 : aln A ≤ 60 := hL.2.2.2.1
  refine eX8_lineAt gk hst ⟨fun z => h1 fun ⟨q, hq, e⟩ => nI_pos (by omega) (e ▸ z), fun z => ⟨_, rfl, hX.1, _, hX.2.2.2.2.2, hB.ty, ?_⟩⟩
  rw [hX.2.2.2.2.2]
  refine kLBl gk hB (vX8_lineAt_12 gk hst ⟨fun z2 => ⟨_, rfl, hX.1, _, hX.2.2.2.2.2, hB.ty, ?_⟩, fun z2 => h1 fun ⟨q, hq, e⟩ => z2 (by rw [e]; exact nI_lt hq (by omega))⟩)
  have hi : ∃ q : Nat, q < aln A ∧ i = nI q := by
    rw [Int32.lt_iff_toInt_lt, Int32.toInt_zero] at z
    rw [Int32.lt_iff_toInt_lt, nI_toInt (by show aln A < _; omega)] at z2
    have z2 : i.toInt < (aln A : Int) := z2
    exact ⟨i.toInt.toNat, by omega, by rw [← Int32.toInt_inj, nI_toInt (by omega)]; omega⟩
  obtain ⟨q, hq, e⟩ := hi
  rw [hX.2.2.2.2.2, e]
  obtain ⟨v, m, hSB, -⟩ := hB
  have hb := (hSB.2.2.2.2.2.2.2.2.1 q hq).2
  have hc := (byc hb.1 hb.2).2
  exact kJ4_charAt gk sok hSB hq (vX8_lineAt_34 gk ⟨hc, hk q hq e hc⟩)
end LIO
