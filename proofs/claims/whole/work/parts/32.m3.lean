/-! ===== the model: victims, fetching ===== -/
theorem nA0 (x : Nat) : nI x + (0 : Int32) = nI (x + 0) := nI_add x 0
theorem nA1 (x : Nat) : nI x + (1 : Int32) = nI (x + 1) := nI_add x 1
theorem nA2 (x : Nat) : nI x + (2 : Int32) = nI (x + 2) := nI_add x 2
theorem nA3 (x : Nat) : nI x + (3 : Int32) = nI (x + 3) := nI_add x 3
theorem nA4 (x : Nat) : nI x + (4 : Int32) = nI (x + 4) := nI_add x 4
theorem nA5 (x : Nat) : nI x + (5 : Int32) = nI (x + 5) := nI_add x 5
theorem nA6 (x : Nat) : nI x + (6 : Int32) = nI (x + 6) := nI_add x 6
theorem lc0 : (0 : Int32).toNatClampNeg = 0 := by decide
theorem lc1 : (1 : Int32).toNatClampNeg = 1 := by decide
theorem lc2 : (2 : Int32).toNatClampNeg = 2 := by decide
theorem lc3 : (3 : Int32).toNatClampNeg = 3 := by decide
theorem lc4 : (4 : Int32).toNatClampNeg = 4 := by decide
theorem lc5 : (5 : Int32).toNatClampNeg = 5 := by decide
theorem lc6 : (6 : Int32).toNatClampNeg = 6 := by decide
theorem lc7 : (7 : Int32).toNatClampNeg = 7 := by decide
theorem lc8 : (8 : Int32).toNatClampNeg = 8 := by decide
section MF
variable {G : GG} {σ : Mm} {K : RES → Mm → Prop} {a k : Nat}
theorem kX9_goesFirst (gk : GOK G) (hM : MS σ a) (hk4 : k < 4) {l m : Nat} (hl : l < 26) (hm : m < 26) (hk : K (.inl (some (vI (bP (gF (mi σ (a + 1)) k l m))))) σ) : Runs G mX9_goesFirst rX9_goesFirst [vR (some a), vI (nI k), vI (nI (97 + l)), vI (nI (97 + m))] σ K := by
  refine eX9_goesFirst gk (kX9_echo gk (vX9_goesFirst_5 gk (kX9_echo gk (vX9_goesFirst_12 gk ⟨a, rfl, hM.ty, kX9_of (j := 2) gk hM (by omega) (vX9_goesFirst_20 gk ⟨fun q => ⟨a, rfl, hM.ty, kX9_of (j := 2) gk hM (by omega) (vX9_goesFirst_53 gk ⟨fun q2 => ?_, fun q2 => ?_⟩)⟩, fun q => ?_⟩)⟩))))
  · refine ⟨fun h => absurd h (by decide), fun _ => ⟨fun h => absurd rfl h, fun _ => ⟨_, rfl, hM.ty, _, hM.r0, _, hM.t0, ?_⟩⟩⟩
    have e : byM (mi σ (a + 1)) k l m = 0 := by unfold byM; rw [if_neg q, if_neg q2]
    simp only [nA0, nA1, nA2, nA3, nA4, nA5, nA6, nI_clamp (show eX k l + 3 < 2 ^ 31 by unfold eX; omega), nI_clamp (show eX k m + 3 < 2 ^ 31 by unfold eX; omega)]
    refine ⟨vin (by unfold eX; omega), vin (by unfold eX; omega), fun h => ?_, fun h => ?_⟩
    · rw [bP_f (by unfold gF; rw [e]; exact fun z => z.elim (fun y => absurd y (by decide)) (fun y => absurd y.2 (Int32.not_lt.mpr h)))] at hk; exact hk
    · rw [bP_t (by unfold gF; rw [e]; exact Or.inr ⟨rfl, Int32.not_le.mp h⟩)] at hk; exact hk
  · refine ⟨_, rfl, hM.ty, _, hM.r0, _, hM.t0, ?_⟩
    simp only [nA0, nA1, nA2, nA3, nA4, nA5, nA6, nI_clamp (show eX k l + 5 < 2 ^ 31 by unfold eX; omega), nI_clamp (show eX k m + 5 < 2 ^ 31 by unfold eX; omega), nI_clamp (show eX k l + 3 < 2 ^ 31 by unfold eX; omega), nI_clamp (show eX k m + 3 < 2 ^ 31 by unfold eX; omega)]
    have e : byM (mi σ (a + 1)) k l m = mi σ (a + 1) (eX k m + 5) - mi σ (a + 1) (eX k l + 5) := by unfold byM; rw [if_neg q, if_pos q2]
    rw [← e]
    refine ⟨vin (by unfold eX; omega), vin (by unfold eX; omega), fun h => ?_, fun h => ⟨fun h2 => ?_, fun h2 => ⟨vin (by unfold eX; omega), vin (by unfold eX; omega), fun h3 => ?_, fun h3 => ?_⟩⟩⟩
    · rw [bP_t (show gF (mi σ (a + 1)) k l m from Or.inl h)] at hk; exact hk
    · rw [bP_f (show ¬ gF (mi σ (a + 1)) k l m from fun z => z.elim h (fun y => h2 y.1))] at hk; exact hk
    · rw [bP_f (show ¬ gF (mi σ (a + 1)) k l m from fun z => z.elim h (fun y => absurd y.2 (Int32.not_lt.mpr h3)))] at hk; exact hk
    · rw [bP_t (show gF (mi σ (a + 1)) k l m from Or.inr ⟨h2, Int32.not_le.mp h3⟩)] at hk; exact hk
  · refine ⟨_, rfl, hM.ty, _, hM.r0, _, hM.t0, ?_⟩
    simp only [nA0, nA1, nA2, nA3, nA4, nA5, nA6, nI_clamp (show eX k l + 4 < 2 ^ 31 by unfold eX; omega), nI_clamp (show eX k m + 4 < 2 ^ 31 by unfold eX; omega), nI_clamp (show eX k l + 3 < 2 ^ 31 by unfold eX; omega), nI_clamp (show eX k m + 3 < 2 ^ 31 by unfold eX; omega)]
    have e : byM (mi σ (a + 1)) k l m = mi σ (a + 1) (eX k m + 4) - mi σ (a + 1) (eX k l + 4) := by unfold byM; rw [if_pos q]
    rw [← e]
    refine ⟨vin (by unfold eX; omega), vin (by unfold eX; omega), fun h => ?_, fun h => ⟨fun h2 => ?_, fun h2 => ⟨vin (by unfold eX; omega), vin (by unfold eX; omega), fun h3 => ?_, fun h3 => ?_⟩⟩⟩
    · rw [bP_t (show gF (mi σ (a + 1)) k l m from Or.inl h)] at hk; exact hk
    · rw [bP_f (show ¬ gF (mi σ (a + 1)) k l m from fun z => z.elim h (fun y => h2 y.1))] at hk; exact hk
    · rw [bP_f (show ¬ gF (mi σ (a + 1)) k l m from fun z => z.elim h (fun y => absurd y.2 (Int32.not_lt.mpr h3)))] at hk; exact hk
    · rw [bP_t (show gF (mi σ (a + 1)) k l m from Or.inr ⟨h2, Int32.not_le.mp h3⟩)] at hk; exact hk
theorem bP_n {p : Prop} (h : ¬ bP p = 0) : p := by
  by_cases q : p
  · exact q
  · exact absurd (bP_f q) h
theorem vcI_neg {P : Nat → Int32} {n : Nat} (hn : n ≤ 26) (h : vcI (vcN P k n) < 0) : vcN P k n = none := by
  cases hv : vcN P k n with
  | none => rfl
  | some b =>
    rw [hv] at h
    have := (vcN_lt hv).1
    exact absurd h (nI_pos (by omega))
theorem vcI_some {P : Nat → Int32} {n : Nat} (h : ¬ vcI (vcN P k n) < 0) : ∃ b, vcN P k n = some b := by
  cases hv : vcN P k n with
  | none => rw [hv] at h; exact absurd (by decide) h
  | some b => exact ⟨b, rfl⟩
theorem kX9_victim_5 (gk : GOK G) (hM : MS σ a) (hk4 : k < 4) (hk : K (.inl (some (vI (vcI (vcN (mi σ (a + 1)) k 26))))) σ) : ∀ (d l : Nat), l + d = 26 → At G mX9_victim rX9_victim 0 0 5 [some (vR (some a)), some (vI (nI k)), some (vI (vcI (vcN (mi σ (a + 1)) k l))), some (vI (nI (97 + l)))] [] σ K
  | 0, l, h => by
    obtain rfl : l = 26 := by omega
    exact vX9_victim_5 gk ⟨fun _ => hk, fun q => absurd (by decide) q⟩
  | d + 1, l, h => by
    have ih := kX9_victim_5 gk hM hk4 hk d (l + 1) (by omega)
    refine vX9_victim_5 gk ⟨fun q => absurd q (let_le (by omega)), fun _ => ⟨a, rfl, hM.ty, kX9_isEcho gk hM hk4 (vX9_victim_17 gk ⟨fun q => ?_, fun q => ?_⟩)⟩⟩
    · have e : vcN (mi σ (a + 1)) k (l + 1) = vcN (mi σ (a + 1)) k l := by
        have : ¬ mi σ (a + 1) (eX k l) = 1 := fun z => bP_0.mp q ((ecP_l (by omega)).mpr z)
        simp only [vcN, this, if_false]
      rw [e] at ih
      rw [nx]; exact ih
    · have hp : mi σ (a + 1) (eX k l) = 1 := (ecP_l (by omega)).mp (bP_n q)
      refine ⟨fun h2 => ?_, fun h2 => ?_⟩
      · have e : vcN (mi σ (a + 1)) k (l + 1) = some l := by
          have := vcI_neg (by omega) h2
          simp only [vcN, hp, if_true, this]
        rw [e] at ih
        rw [nx]; exact ih
      · obtain ⟨b, hb⟩ := vcI_some h2
        have hb2 := vcN_lt hb
        rw [hb]
        refine ⟨a, rfl, hM.ty, kX9_goesFirst gk hM hk4 (by omega) (by omega) (vX9_victim_31 gk ⟨fun h3 => ?_, fun h3 => ?_⟩)⟩
        · have e : vcN (mi σ (a + 1)) k (l + 1) = some b := by
            simp only [vcN, hp, if_true, hb, bP_0.mp h3, if_false]
          rw [e] at ih
          rw [nx]; exact ih
        · have e : vcN (mi σ (a + 1)) k (l + 1) = some l := by
            simp only [vcN, hp, if_true, hb, bP_n h3]
          rw [e] at ih
          rw [nx]; exact ih
theorem kX9_victim (gk : GOK G) (hM : MS σ a) (hk4 : k < 4) (hk : K (.inl (some (vI (vcI (vcN (mi σ (a + 1)) k 26))))) σ) : Runs G mX9_victim rX9_victim [vR (some a), vI (nI k)] σ K := eX9_victim gk (kX9_victim_5 gk hM hk4 hk 26 0 rfl)
/-- what an echo of l on k reads behind a fetching -/
def fx2 (P : Nat → Int32) (k l : Nat) : Nat → Int32 := upd (upd (upd (upd (upd (upd (upd P (eX k l) 1) (eX k l + 1) (P (8 + 3 * l + 1))) (eX k l + 2) (P 2)) (eX k l + 3) (P 3)) (eX k l + 4) (P 3)) (eX k l + 5) 0) (eX k l + 6) 0
def fx3 (P : Nat → Int32) (k l : Nat) : Nat → Int32 := upd (fx2 P k l) 3 (P 3 + 1)
noncomputable def fx1 (P : Nat → Int32) (k l : Nat) : Nat → Int32 := if nI (ecN (upd P (eX k l) 0) k) = P (86 + 187 * k) then (match vcN (upd P (eX k l) 0) k 26 with | none => P | some v => upd (upd P (eX k l) 0) (eX k v) 0) else upd P (eX k l) 0
noncomputable def ftP (P : Nat → Int32) (k l : Nat) : Nat → Int32 := fx3 (fx1 P k l) k l
theorem kX9_outcome (gk : GOK G) (hM : MS σ a) (hk4 : k < 4) {l : Nat} (hl : l < 26) (hk : K (.inl (some (vI (@ite _ (mi σ (a + 1) (eX k l) = 1) (Classical.propDecidable _) (@ite _ (ovP (mi σ (a + 1)) k l) (Classical.propDecidable _) 101 (if mi σ (a + 1) (eX k l + 6) = 1 then 111 else 104)) 99)))) σ) : Runs G mX9_outcome rX9_outcome [vR (some a), vI (nI k), vI (nI (97 + l))] σ K := by
  refine eX9_outcome gk ⟨a, rfl, hM.ty, kX9_isEcho gk hM hk4 (vX9_outcome_6 gk ⟨fun q => ⟨a, rfl, hM.ty, kX9_isOver gk hM hk4 hl (vX9_outcome_20 gk ⟨fun q2 => ⟨a, rfl, hM.ty, kX9_echo gk (vX9_outcome_37 gk ⟨_, hM.r0, _, hM.t0, ?_⟩)⟩, fun q2 => ?_⟩)⟩, fun q => ?_⟩)⟩
  · have hp := (ecP_l hl).mp (bP_n q)
    simp only [hp, if_true, bP_0.mp q2, if_false] at hk
    rw [nA6, nI_clamp (by unfold eX; omega)]
    refine ⟨vin (by unfold eX; omega), fun h => ?_, fun h => ?_⟩
    · rw [if_neg h] at hk; exact hk
    · rw [if_pos h] at hk; exact hk
  · have hp := (ecP_l hl).mp (bP_n q)
    simp only [hp, if_true, bP_n q2] at hk
    exact hk
  · have hp : ¬ mi σ (a + 1) (eX k l) = 1 := fun z => bP_0.mp q ((ecP_l hl).mpr z)
    simp only [hp, if_false] at hk
    exact hk
theorem kX9_fetches_45 (gk : GOK G) (hM : MS σ a) (hk4 : k < 4) {l : Nat} (hl : l < 26) (hk : K (.inl none) (sS σ (a + 1) (fx3 (mi σ (a + 1)) k l))) : At G mX9_fetches rX9_fetches 0 0 45 [some (vR (some a)), some (vI (nI k)), some (vI (nI (97 + l))), none] [vI (nI (eX k l))] σ K := by
  have he : eX k l = 91 + 187 * k + 7 * l := rfl
  refine vX9_fetches_45 gk ⟨_, rfl, hM.ty, _, hM.r0, _, hM.t0, vin (by omega), fun σ1 e1 => ?_⟩
  rw [si_sS, nI_clamp (by omega)] at e1
  subst e1
  refine kX9_jar gk (vX9_fetches_68 gk ⟨_, hM.r0, _, hM.t0, ?_⟩)
  simp (disch := omega) only [nA0, nA1, nA2, nA3, nA4, nA5, nA6, nI_clamp]
  refine ⟨vin (by omega), _, hM.r0, _, hM.t0, vin (by omega), fun σ2 e2 => ?_⟩
  rw [si_sS, sS_sS, sS_s] at e2
  subst e2
  refine ⟨_, rfl, hM.ty, _, hM.r0, _, hM.t0, vin (n := 2) (by omega), vin (by omega), fun σ3 e3 => ?_⟩
  rw [si_sS, sS_sS, sS_s] at e3
  subst e3
  refine ⟨_, hM.r0, _, hM.t0, vin (n := 3) (by omega), vin (by omega), fun σ4 e4 => ?_⟩
  rw [si_sS, sS_sS, sS_s] at e4
  subst e4
  refine ⟨_, hM.r0, _, hM.t0, vin (n := 3) (by omega), vin (by omega), fun σ5 e5 => ?_⟩
  rw [si_sS, sS_sS, sS_s] at e5
  subst e5
  refine ⟨_, hM.r0, _, hM.t0, vin (by omega), fun σ6 e6 => ?_⟩
  rw [si_sS, sS_sS, sS_s] at e6
  subst e6
  refine ⟨_, hM.r0, _, hM.t0, vin (by omega), fun σ7 e7 => ?_⟩
  rw [si_sS, sS_sS, sS_s] at e7
  subst e7
  refine ⟨_, hM.r0, _, hM.t0, vin (n := 3) (by omega), vin (n := 3) (by omega), fun σ8 e8 => ?_⟩
  rw [si_sS, sS_sS, sS_s] at e8
  subst e8
  have e2 : (2 : Int32).toNatClampNeg = 2 := by decide
  have e3 : (3 : Int32).toNatClampNeg = 3 := by decide
  simp (disch := omega) only [e2, e3, pk_us, pk_un] 
  unfold fx3 fx2 at hk
  exact hk
theorem kX9_fetches (gk : GOK G) (hM : MS σ a) (hk4 : k < 4) {l : Nat} (hl : l < 26) (hc : mi σ (a + 1) (86 + 187 * k) ≠ 0) (hk : K (.inl none) (sS σ (a + 1) (ftP (mi σ (a + 1)) k l))) : Runs G mX9_fetches rX9_fetches [vR (some a), vI (nI k), vI (nI (97 + l))] σ K := by
  have he : eX k l = 91 + 187 * k + 7 * l := rfl
  refine eX9_fetches gk ⟨_, rfl, hM.ty, kX9_echo gk (vX9_fetches_9 gk ⟨_, hM.r0, _, hM.t0, vin (by omega), fun σ1 e1 => ?_⟩)⟩
  rw [si_sS, nI_clamp (by omega)] at e1
  subst e1
  have hM1 : MS (sS σ (a + 1) (upd (mi σ (a + 1)) (eX k l) 0)) a := hM.sS
  refine ⟨_, rfl, hM.ty, kX9_echoes gk hM1 hk4 (vX9_fetches_16 gk ⟨_, rfl, hM.ty, kX9_of (j := 0) gk hM1 (by omega) (vX9_fetches_22 gk ⟨fun q => ?_, fun q => ⟨_, rfl, hM.ty, kX9_victim gk hM1 hk4 (vX9_fetches_35 gk ?_)⟩⟩)⟩)⟩
  · simp (disch := omega) only [sS_s, pk_un, Nat.add_zero] at q
    refine kX9_echo gk (kX9_fetches_45 gk hM1 hk4 hl ?_)
    rw [sS_sS, sS_s]
    unfold ftP fx1 at hk
    rw [if_neg q] at hk
    exact hk
  · simp (disch := omega) only [sS_s, pk_un, Nat.add_zero] at q ⊢
    unfold ftP fx1 at hk
    rw [if_pos q] at hk
    cases hv : vcN (upd (mi σ (a + 1)) (eX k l) 0) k 26 with
    | none =>
      have := vcN_none hv
      rw [show ecN (upd (mi σ (a + 1)) (eX k l) 0) k = 0 from this] at q
      exact absurd q.symm hc
    | some v =>
      have hv2 := vcN_lt hv
      have he2 : eX k v = 91 + 187 * k + 7 * v := rfl
      simp only [hv] at hk
      refine kX9_echo gk (vX9_fetches_38 gk ⟨_, hM.r0, _, hM.t0, vin (by omega), fun σ2 e2 => ?_⟩)
      rw [si_sS, nI_clamp (by omega), sS_sS, sS_s] at e2
      subst e2
      refine kX9_echo gk (kX9_fetches_45 gk hM.sS hk4 hl ?_)
      rw [sS_sS, sS_s]
      exact hk
end MF
