/-! ===== a shelf's line ===== -/
abbrev Ln : Type := Nat × (Nat → Int32)
def apc (L : Ln) (c : Int32) : Ln := (L.1 + 1, upd L.2 L.1 c)
def apn (L : Ln) (k : Nat) : Ln := (L.1 + dgN k, dgT L.2 L.1 k)
def apq (b : Bool) (L : Ln) (c : Int32) : Ln := if b = true then apc L c else L
/-- an echo of letter l and word w behind the line, outlived or not, its lid open or not -/
def apG (l w : Nat) (o q : Bool) (L : Ln) : Ln := apq q (apq o (apn (apc (if 0 < L.1 then apc L 32 else L) (nI (97 + l))) w) 126) 33
def wdN (P : Nat → Int32) (k l : Nat) : Nat := (P (eX k l + 1)).toNatClampNeg
noncomputable def ovB (P : Nat → Int32) (k l : Nat) : Bool := @decide (ovP P k l) (Classical.propDecidable _)
noncomputable def lnP (P : Nat → Int32) (k : Nat) : Nat → Ln
  | 0 => (0, zf)
  | l + 1 => if P (eX k l) = 1 then apG l (wdN P k l) (ovB P k l) (decide (P (eX k l + 6) = 1)) (lnP P k l) else lnP P k l
theorem dgN_le (k : Nat) : dgN k ≤ 2 := by unfold dgN; split <;> omega
theorem apq_len (b : Bool) (L : Ln) (c : Int32) : (apq b L c).1 ≤ L.1 + 1 := by
  unfold apq
  split
  · exact Nat.le_refl _
  · omega
theorem apG_len (l w : Nat) (o q : Bool) (L : Ln) : (apG l w o q L).1 ≤ L.1 + 6 := by
  have h := dgN_le w
  have e1 : (if 0 < L.1 then apc L 32 else L).1 ≤ L.1 + 1 := by split <;> simp [apc]
  have e3 : (apn (apc (if 0 < L.1 then apc L 32 else L) (nI (97 + l))) w).1 ≤ L.1 + 4 := by
    show (if 0 < L.1 then apc L 32 else L).1 + 1 + dgN w ≤ _
    omega
  have e4 := apq_len o (apn (apc (if 0 < L.1 then apc L 32 else L) (nI (97 + l))) w) 126
  have e5 := apq_len q (apq o (apn (apc (if 0 < L.1 then apc L 32 else L) (nI (97 + l))) w) 126) 33
  unfold apG
  omega
theorem lnP_len (P : Nat → Int32) (k : Nat) : ∀ l, (lnP P k l).1 ≤ 6 * cnt (fun l => P (eX k l) = 1) l
  | 0 => Nat.zero_le _
  | l + 1 => by
    have ih := lnP_len P k l
    show (if P (eX k l) = 1 then _ else _ : Ln).1 ≤ _
    by_cases h : P (eX k l) = 1
    · rw [if_pos h, cnt_t (p := fun l => P (eX k l) = 1) h]
      have := apG_len l (wdN P k l) (ovB P k l) (decide (P (eX k l + 6) = 1)) (lnP P k l)
      omega
    · rw [if_neg h, cnt_f (p := fun l => P (eX k l) = 1) h]
      exact ih
theorem cnt_up (p : Nat → Prop) : ∀ {m n : Nat}, m ≤ n → cnt p m ≤ cnt p n := by
  intro m n h
  induction n with
  | zero => rw [Nat.le_zero.mp h]; exact Nat.le_refl _
  | succ n ih =>
    by_cases e : m = n + 1
    · rw [e]; exact Nat.le_refl _
    · have := ih (by omega)
      by_cases q : p n
      · rw [cnt_t q]; omega
      · rw [cnt_f q]; exact this
/-- nothing before the line's own cells but the builder has changed -/
def FrN (σ σ' : Mm) (x : Nat) : Prop := ∀ v, mr σ (x + 786) 0 = some v → v < mz σ → (∀ q, q < mz σ → q ≠ x + 786 → q ≠ v → mi σ' q = mi σ q ∧ mr σ' q = mr σ q ∧ mt σ' q = mt σ q) ∧ ∃ v', mr σ' (x + 786) 0 = some v' ∧ v' < mz σ' ∧ (v' = v ∨ mz σ ≤ v')
def FrX (σ σ' : Mm) (x : Nat) : Prop := (∀ q, q < x + 788 → q ≠ x + 786 → q ≠ x + 787 → mi σ' q = mi σ q ∧ mr σ' q = mr σ q ∧ ml σ' q = ml σ q ∧ md σ' q = md σ q) ∧ (∀ q, q < x + 788 → mt σ' q = mt σ q) ∧ mz σ ≤ mz σ' ∧ FrN σ σ' x
/-- the line as the builder holds it -/
def LB (σ : Mm) (x : Nat) (L : Ln) : Prop := ∃ v m, SBL σ (x + 786) v m L.1 L.2 ∧ (v = x + 787 ∨ x + 788 ≤ v) ∧ x + 788 ≤ mz σ
section LIN
variable {G : GG} {σ σ' : Mm} {K : RES → Mm → Prop} {x b : Nat} {A : AS} {L : Ln}
theorem FrX.refl : FrX σ σ x := ⟨fun _ _ _ _ => ⟨rfl, rfl, rfl, rfl⟩, fun _ _ => rfl, Nat.le_refl _, fun v e h => ⟨fun _ _ _ _ => ⟨rfl, rfl, rfl⟩, v, e, h, Or.inl rfl⟩⟩
theorem FrX.trans {σ'' : Mm} (h : FrX σ σ' x) (h' : FrX σ' σ'' x) : FrX σ σ'' x := ⟨fun q h1 h2 h3 => by
  obtain ⟨a1, a2, a3, a4⟩ := h.1 q h1 h2 h3
  obtain ⟨b1, b2, b3, b4⟩ := h'.1 q h1 h2 h3
  exact ⟨b1.trans a1, b2.trans a2, b3.trans a3, b4.trans a4⟩, fun q hq => (h'.2.1 q hq).trans (h.2.1 q hq), Nat.le_trans h.2.2.1 h'.2.2.1, fun v e hv => by
  obtain ⟨a, v1, e1, h1, o1⟩ := h.2.2.2 v e hv
  obtain ⟨b, v2, e2, h2, o2⟩ := h'.2.2.2 v1 e1 h1
  have hz := h.2.2.1
  refine ⟨fun q q1 q2 q3 => ?_, v2, e2, h2, by omega⟩
  obtain ⟨a1, a2, a3⟩ := a q q1 q2 q3
  obtain ⟨b1, b2, b3⟩ := b q (by omega) q2 (by omega)
  exact ⟨b1.trans a1, b2.trans a2, b3.trans a3⟩⟩
theorem FrL.tox {v v' : Nat} (h : FrL σ σ' (x + 786) v) (hv : v = x + 787 ∨ x + 788 ≤ v) (hz : x + 788 ≤ mz σ) (e0 : mr σ (x + 786) 0 = some v) (e1 : mr σ' (x + 786) 0 = some v') (e2 : v' < mz σ') (e3 : v' = v ∨ v' = mz σ) : FrX σ σ' x :=
  ⟨fun q h1 h2 h3 => h.1 q (by omega) h2 (by omega), fun q hq => h.2.1 q (by omega), h.2.2, fun v0 f0 hv0 => by
  cases e0.symm.trans f0
  refine ⟨fun q q1 q2 q3 => ?_, v', e1, e2, by omega⟩
  obtain ⟨a1, a2, -, -⟩ := h.1 q q1 q2 q3
  exact ⟨a1, a2, h.2.1 q q1⟩⟩
theorem LN.lb (h : LN σ x L.1 L.2) (hz : x + 788 ≤ mz σ) (hk : ∀ q, mz σ ≤ q → (mt σ q).1 = 0) : LB σ x L := by
  obtain ⟨h1, h2, h3, h4, v, cap, h5, h6, ⟨h7, h7'⟩, h8, h9, h10⟩ := h
  refine ⟨v, cap, ⟨h1, h2, h3, h5, h6, h7, h7', ⟨by omega, ?_⟩, h9, h10⟩, h8, hz⟩
  rcases Nat.lt_or_ge v (mz σ) with q | q
  · exact q
  · have := hk v q
    rw [h6] at this; cases this
theorem LB.ln (h : LB σ x L) (hn : L.1 ≤ 60) : LN σ x L.1 L.2 := by
  obtain ⟨v, m, ⟨h1, h2, h3, h4, h5, h6, h7, -, h9, h10⟩, hv, -⟩ := h
  exact ⟨h1, h2, h3, hn, v, m, h4, h5, ⟨h6, h7⟩, hv, h9, h10⟩
/-- one letter more -/
theorem kLBc (gk : GOK G) (sok : SOK G) (h : LB σ x L) (hn : L.1 < 60) {c : Int32} (h0 : 0 ≤ c.toInt) (h1 : c.toInt < 128) (hk : ∀ σ', LB σ' x (apc L c) → FrX σ σ' x → K (.inl (some (vR (some (x + 786))))) σ') : Runs G mJ4_append_cf468 rJ4_append_cf468 [vR (some (x + 786)), vI c] σ K := by
  obtain ⟨v, m, hS, hv, hz⟩ := h
  exact kJ4_appendC gk sok hS hn h0 h1 fun σ' v' m' a1 a2 a3 => hk σ' ⟨v', m', a1, by omega, Nat.le_trans hz a3.2.2⟩ (a3.tox hv hz hS.2.2.2.1 a1.2.2.2.1 a1.2.2.2.2.2.2.2.1.2 a2)
theorem kLBn (gk : GOK G) (sok : SOK G) (h : LB σ x L) (hn : L.1 < 59) {k : Nat} (h9 : k ≤ 99) (hk : ∀ σ', LB σ' x (apn L k) → FrX σ σ' x → K (.inl (some (vR (some (x + 786))))) σ') : Runs G mJ4_append_bf812 rJ4_append_bf812 [vR (some (x + 786)), vI (nI k)] σ K := by
  obtain ⟨v, m, hS, hv, hz⟩ := h
  exact kJ4_appendI gk sok hS hn h9 fun σ' v' m' a1 a2 a3 => hk σ' ⟨v', m', a1, by omega, Nat.le_trans hz a3.2.2⟩ (a3.tox hv hz hS.2.2.2.1 a1.2.2.2.1 a1.2.2.2.2.2.2.2.1.2 a2)
theorem kLBl (gk : GOK G) (h : LB σ x L) (hk : K (.inl (some (vI (nI L.1)))) σ) : Runs G mJ4_length_8abf5 rJ4_length_8abf5 [vR (some (x + 786))] σ K := by
  obtain ⟨v, m, hS, -⟩ := h
  exact kJ4_length gk hS hk
theorem LB.ty (h : LB σ x L) : (mt σ (x + 786)).1 = 11 := by
  obtain ⟨v, m, hS, -⟩ := h
  exact hS.1
/-- EchoPantry.writeEcho -/
theorem kX8_writeEcho (gk : GOK G) (sok : SOK G) (hX : CS σ x) (hL : LB σ x L) (hn : L.1 ≤ 50) {e l w : Nat} {z : Int32} (he : e < x + 786) (het : (mt σ e).1 = 3) (hl : l < 26) (hw : w ≤ 99) (e1 : mi σ e 1 = nI (97 + l)) (e2 : mi σ e 2 = nI w) (hz : isZ z) (e8 : isZ (mi σ e 8)) (hk : ∀ σ', LB σ' x (apG l w (decide (z = 1)) (decide (mi σ e 8 = 1)) L) → FrX σ σ' x → K (.inl none) σ') : Runs G mX8_writeEcho rX8_writeEcho [vR (some x), vR (some e), vI z] σ K := by
  have c0 : 0 ≤ (nI (97 + l)).toInt ∧ (nI (97 + l)).toInt < 128 := by rw [nI_toInt (by omega)]; omega
  have B0 : ∀ {σ' : Mm}, FrX σ σ' x → mi σ' e = mi σ e ∧ (mt σ' e).1 = 3 ∧ CS σ' x := fun {σ'} hF => by
    obtain ⟨a1, a2, a3, a4⟩ := hF.1 e (by omega) (by omega) (by omega)
    obtain ⟨b1, b2, b3, b4⟩ := hF.1 x (by omega) (by omega) (by omega)
    exact ⟨a1, by rw [hF.2.1 e (by omega)]; exact het, hX.loc b2 (hF.2.1 x (by omega))⟩
  have hd := dgN_le w
  -- the last letter
  have T : ∀ (uc us : Nat) (σ1 : Mm) (M : Ln), uc ≤ 5 → us ≤ 700 → M.1 ≤ 58 → LB σ1 x M → FrX σ σ1 x → (∀ σ', LB σ' x (apq (decide (mi σ e 8 = 1)) M 33) → FrX σ σ' x → K (.inl none) σ') → ((mi σ1 e 8 = 0 → K (.inl none) σ1) ∧ (¬ mi σ1 e 8 = 0 → ∃ a5, some x = some a5 ∧ (mt σ1 a5).1 = 9 ∧ ∃ a7, mr σ1 a5 7 = some a7 ∧ (mt σ1 a7).1 = 11 ∧ Runs G mJ4_append_cf468 rJ4_append_cf468 [vR (mr σ1 a5 7), vI 33] σ1 (bk G mX8_writeEcho rX8_writeEcho uc us 69 [some (vR (some x)), some (vR (some e)), some (vI z)] [] K))) := by
    intro uc us σ1 M hu1 hu2 hM hB hF hK
    obtain ⟨q1, q2, q3⟩ := B0 hF
    rw [q1]
    refine ⟨fun q => ?_, fun q => ⟨_, rfl, q3.1, _, q3.2.2.2.2.2, hB.ty, ?_⟩⟩
    · have := hK σ1
      rw [q] at this
      exact this hB hF
    · have q8 : mi σ e 8 = 1 := e8.elim (fun z => absurd z q) id
      rw [q3.2.2.2.2.2]
      refine kLBc gk sok hB (by omega) (by decide) (by decide) fun σ2 hB2 hF2 => At.widen (vX8_writeEcho_69 gk ?_) hu1 hu2
      have := hK σ2
      rw [q8] at this
      exact this hB2 (hF.trans hF2)
  -- letter, word, the marks
  have R : ∀ (uc us : Nat) (σ1 : Mm) (M : Ln), uc ≤ 2 → us ≤ 280 → M.1 ≤ 51 → LB σ1 x M → FrX σ σ1 x → (∀ σ', LB σ' x (apq (decide (mi σ e 8 = 1)) (apq (decide (z = 1)) (apn (apc M (nI (97 + l))) w) 126) 33) → FrX σ σ' x → K (.inl none) σ') → Runs G mJ4_append_cf468 rJ4_append_cf468 [vR (some (x + 786)), vI (nI (97 + l))] σ1 (bk G mX8_writeEcho rX8_writeEcho uc us 31 [some (vR (some x)), some (vR (some e)), some (vI z)] [] K) := by
    intro uc us σ1 M hu1 hu2 hM hB hF hK
    refine kLBc gk sok hB (by omega) c0.1 c0.2 fun σ2 hB2 hF2 => ?_
    have F2 := hF.trans hF2
    obtain ⟨q1, q2, q3⟩ := B0 F2
    refine At.widen (vX8_writeEcho_31 gk ?_) hu1 hu2
    refine ⟨_, rfl, q2, _, rfl, hB2.ty, ?_⟩
    rw [q1, e2]
    refine kLBn gk sok hB2 (by show M.1 + 1 < 59; omega) hw fun σ3 hB3 hF3 => ?_
    have F3 := F2.trans hF3
    obtain ⟨r1, r2, r3⟩ := B0 F3
    have hlen : (apn (apc M (nI (97 + l))) w).1 ≤ 54 := by show M.1 + 1 + dgN w ≤ 54; omega
    refine vX8_writeEcho_38 gk ⟨fun q => ⟨_, rfl, r2, ?_⟩, fun q => ⟨_, rfl, r3.1, _, r3.2.2.2.2.2, hB3.ty, ?_⟩⟩
    · refine T _ _ σ3 _ (by decide) (by decide) (by omega) hB3 F3 ?_
      rw [q] at hK
      exact hK
    · have q8 : z = 1 := hz.elim (fun z => absurd z q) id
      rw [r3.2.2.2.2.2]
      refine kLBc gk sok hB3 (by omega) (by decide) (by decide) fun σ4 hB4 hF4 => ?_
      have F4 := F3.trans hF4
      obtain ⟨s1, s2, s3⟩ := B0 F4
      refine vX8_writeEcho_52 gk ⟨_, rfl, s2, T _ _ σ4 _ (by decide) (by decide) (by show (apn (apc M (nI (97 + l))) w).1 + 1 ≤ 58; omega) hB4 F4 ?_⟩
      rw [q8] at hK
      exact hK
  refine eX8_writeEcho gk ⟨_, rfl, hX.1, _, hX.2.2.2.2.2, hL.ty, ?_⟩
  rw [hX.2.2.2.2.2]
  refine kLBl gk hL (vX8_writeEcho_7 gk ⟨fun q => ⟨_, rfl, hX.1, _, rfl, het, _, hX.2.2.2.2.2, hL.ty, ?_⟩, fun q => ⟨_, rfl, hX.1, _, hX.2.2.2.2.2, hL.ty, ?_⟩⟩)
  · rw [hX.2.2.2.2.2, e1]
    have h0 : ¬ 0 < L.1 := fun z => nI_nle z (by omega) q
    refine R _ _ σ L (by decide) (by decide) (by omega) hL FrX.refl ?_
    unfold apG at hk
    rw [if_neg h0] at hk
    exact hk
  · rw [hX.2.2.2.2.2]
    have h0 : 0 < L.1 := Nat.pos_of_ne_zero fun z => q (by rw [z]; decide)
    refine kLBc gk sok hL (by omega) (by decide) (by decide) fun σ1 hB1 hF1 => ?_
    obtain ⟨q1, q2, q3⟩ := B0 hF1
    refine vX8_writeEcho_19 gk ⟨_, rfl, q3.1, _, rfl, q2, _, q3.2.2.2.2.2, hB1.ty, ?_⟩
    rw [q3.2.2.2.2.2, q1, e1]
    refine R _ _ σ1 (apc L 32) (by decide) (by decide) (by show L.1 + 1 ≤ 51; omega) hB1 hF1 ?_
    unfold apG at hk
    rw [if_pos h0] at hk
    exact hk
end LIN
