/-! ===== the JDK's strings and builder: contracts ===== -/
section STRC
variable {G : GG} {σ : Mm} {K : RES → Mm → Prop}
theorem shr0' (x : Int32) : x >>> ((0 : Int32) &&& 31) = x := by
  have : ((0 : Int32) &&& 31) = 0 := rfl
  rw [this]; exact Int32.shiftRight_zero
theorem shl0' (x : Int32) : x <<< ((0 : Int32) &&& 31) = x := by
  have : ((0 : Int32) &&& 31) = 0 := rfl
  rw [this]; exact Int32.shiftLeft_zero
theorem kJ0_coder (gk : GOK G) (sok : SOK G) {q v n : Nat} {f : Nat → Int32} (hs : STV G q v n f) (h : K (.inl (some (vI 0))) σ) : Runs G mJ0_coder_7d493 rJ0_coder_7d493 [vR (some q)] σ K := by
  refine Runs.ofF (by decide +kernel) rfl (Nat.le_of_ble_eq_true rfl) ?_
  refine s_getZ (v := vI 1) gk dJ0_coder_7d493_0 w_568 sok.1 ?_
  refine s_if_eq (tgt := 13) dJ0_coder_7d493_3 (by decide) (fun q => absurd q (by decide)) (fun _ => ?_)
  refine s_aload_n (i := 0) dJ0_coder_7d493_6 rfl rfl ?_
  refine s_getO gk dJ0_coder_7d493_7 w_1295 hs.2.1 ?_
  refine s_goto (tgt := 14) dJ0_coder_7d493_10 (by decide) ?_
  exact s_ireturn dJ0_coder_7d493_14 rfl rfl (Nat.zero_le _) (Nat.zero_le _) h
theorem kJ0_isLatin1 (gk : GOK G) (sok : SOK G) {q v n : Nat} {f : Nat → Int32} (hs : STV G q v n f) (h : K (.inl (some (vI 1))) σ) : Runs G mJ0_isLatin1_aae02 rJ0_isLatin1_aae02 [vR (some q)] σ K := by
  refine Runs.ofF (by decide +kernel) rfl (Nat.le_of_ble_eq_true rfl) ?_
  refine s_getZ (v := vI 1) gk dJ0_isLatin1_aae02_0 w_568 sok.1 ?_
  refine s_if_eq (tgt := 17) dJ0_isLatin1_aae02_3 (by decide) (fun q => absurd q (by decide)) (fun _ => ?_)
  refine s_aload_n (i := 0) dJ0_isLatin1_aae02_6 rfl rfl ?_
  refine s_getO gk dJ0_isLatin1_aae02_7 w_1295 hs.2.1 ?_
  refine s_if_ne (tgt := 17) dJ0_isLatin1_aae02_10 (by decide) (fun q => absurd rfl q) (fun _ => ?_)
  refine s_iconst (v := 1) dJ0_isLatin1_aae02_13 (by decide) ?_
  refine s_goto (tgt := 18) dJ0_isLatin1_aae02_14 (by decide) ?_
  exact s_ireturn dJ0_isLatin1_aae02_18 rfl rfl (Nat.zero_le _) (Nat.zero_le _) h
/-- String.length of a constant -/
theorem kJ0_length (gk : GOK G) (sok : SOK G) {q v n : Nat} {f : Nat → Int32} (hs : STV G q v n f) (h : K (.inl (some (vI (nI n)))) σ) : Runs G mJ0_length_8abf5 rJ0_length_8abf5 [vR (some q)] σ K := by
  refine Runs.ofF (by decide +kernel) rfl (Nat.le_of_ble_eq_true rfl) ?_
  refine s_aload_n (i := 0) dJ0_length_8abf5_0 rfl rfl ?_
  refine s_getO gk dJ0_length_8abf5_1 w_1294 hs.2.2.1 ?_
  refine s_lenT dJ0_length_8abf5_4 hs.2.2.2 ?_
  refine s_aload_n (i := 0) dJ0_length_8abf5_5 rfl rfl ?_
  refine s_callVS (rmY := rJ0_coder_7d493) (as := []) (S := [vI (nI n)]) gk dJ0_length_8abf5_6 gJ0_335 w_1163 w_1164 hs.1 rfl rfl (Nat.le_of_ble_eq_true rfl) (by decide) ?_
  refine kJ0_coder gk sok hs ?_
  show At G _ _ _ _ _ _ _ _ _
  refine s_ishr dJ0_length_8abf5_9 ?_
  rw [shr0']
  exact s_ireturn dJ0_length_8abf5_10 rfl rfl (Nat.zero_le _) (Nat.zero_le _) h
theorem kJ3_checkIndex (gk : GOK G) {i n : Nat} {r : Option Nat} (hi : i < n) (hn : n < 2 ^ 31) (h : K (.inl (some (vI (nI i)))) σ) : Runs G mJ3_checkIndex_8e157 rJ3_checkIndex_8e157 [vI (nI i), vI (nI n), vR r] σ K :=
  eJ3_checkIndex_8e157 gk ⟨fun z => absurd z (nI_pos (by omega)), fun _ => ⟨fun _ => h, fun z => absurd (nI_lt hi (by omega)) z⟩⟩
theorem kJ0_checkIndex (gk : GOK G) (sok : SOK G) {i n : Nat} (hi : i < n) (hn : n < 2 ^ 31) (h : K (.inl none) σ) : Runs G mJ0_checkIndex_df160 rJ0_checkIndex_df160 [vI (nI i), vI (nI n)] σ K :=
  eJ0_checkIndex_df160 gk sok fun r => kJ3_checkIndex gk hi hn (vJ0_checkIndex_df160_8 gk h)
theorem kJ1_charAt (gk : GOK G) (sok : SOK G) {v n i : Nat} {f : Nat → Int32} (hs : qT G v n f) (hi : i < n) (hn : n < 2 ^ 31) (hc : i2c (f i &&& 255) = f i) (hC : isC (f i)) (h : K (.inl (some (vI (f i)))) σ) : Runs G mJ1_charAt_3b067 rJ1_charAt_3b067 [vR (some v), vI (nI i)] σ K := by
  refine Runs.ofF (by decide +kernel) rfl (Nat.le_of_ble_eq_true rfl) ?_
  refine s_iload_n (i := 1) dJ1_charAt_3b067_0 rfl rfl ?_
  refine s_aload_n (i := 0) dJ1_charAt_3b067_1 rfl rfl ?_
  refine s_lenT dJ1_charAt_3b067_2 hs ?_
  refine s_callS (rmY := rJ0_checkIndex_df160) (as := [vI (nI i), vI (nI n)]) (S := []) gk dJ1_charAt_3b067_3 gJ1_9 w_573 rfl rfl (Nat.le_of_ble_eq_true rfl) (by decide) ?_
  refine kJ0_checkIndex gk sok hi hn ?_
  show At G _ _ _ _ _ _ _ _ _
  refine s_aload_n (i := 0) dJ1_charAt_3b067_6 rfl rfl ?_
  refine s_iload_n (i := 1) dJ1_charAt_3b067_7 rfl rfl ?_
  refine s_balT dJ1_charAt_3b067_8 hs (nI_in hi hn) ?_
  refine s_sipush (v := 255) dJ1_charAt_3b067_9 (by decide) ?_
  refine s_iand dJ1_charAt_3b067_12 ?_
  refine s_i2c (v := f i) dJ1_charAt_3b067_13 (by rw [nI_clamp (by omega)]; exact hc) ?_
  exact s_ireturn dJ1_charAt_3b067_14 rfl (nf_c hC).1 (Nat.zero_le _) (Nat.zero_le _) h
/-- String.charAt of a constant -/
theorem kJ0_charAt (gk : GOK G) (sok : SOK G) {q v n i : Nat} {f : Nat → Int32} (hs : STV G q v n f) (hi : i < n) (hn : n < 2 ^ 31) (hc : i2c (f i &&& 255) = f i) (hC : isC (f i)) (h : K (.inl (some (vI (f i)))) σ) : Runs G mJ0_charAt_5068e rJ0_charAt_5068e [vR (some q), vI (nI i)] σ K := by
  refine Runs.ofF (by decide +kernel) rfl (Nat.le_of_ble_eq_true rfl) ?_
  refine s_aload_n (i := 0) dJ0_charAt_5068e_0 rfl rfl ?_
  refine s_callVS (rmY := rJ0_isLatin1_aae02) (as := []) (S := []) gk dJ0_charAt_5068e_1 gJ0_492 w_565 w_566 hs.1 rfl rfl (Nat.le_of_ble_eq_true rfl) (by decide) ?_
  refine kJ0_isLatin1 gk sok hs ?_
  show At G _ _ _ _ _ _ _ _ _
  refine s_if_eq (tgt := 16) dJ0_charAt_5068e_4 (by decide) (fun q => absurd q (by decide)) (fun _ => ?_)
  refine s_aload_n (i := 0) dJ0_charAt_5068e_7 rfl rfl ?_
  refine s_getO gk dJ0_charAt_5068e_8 w_1294 hs.2.2.1 ?_
  refine s_iload_n (i := 1) dJ0_charAt_5068e_11 rfl rfl ?_
  refine s_callS (rmY := rJ1_charAt_3b067) (as := [vR (some v), vI (nI i)]) (S := []) gk dJ0_charAt_5068e_12 gJ0_495 w_570 rfl rfl (Nat.le_of_ble_eq_true rfl) (by decide) ?_
  refine kJ1_charAt gk sok hs.2.2.2 hi hn hc hC ?_
  show At G _ _ _ _ _ _ _ _ _
  exact s_ireturn dJ0_charAt_5068e_15 rfl (nf_c hC).1 (Nat.zero_le _) (Nat.zero_le _) h
/-! the builder -/
theorem kJ9_max (gk : GOK G) {a b : Nat} (ha : a < 2 ^ 31) (hb : b < 2 ^ 31) (h : K (.inl (some (vI (nI (max a b))))) σ) : Runs G mJ9_max_7cf53 rJ9_max_7cf53 [vI (nI a), vI (nI b)] σ K := by
  refine eJ9_max_7cf53 gk ⟨fun z => ?_, fun z => ?_⟩
  · have := (nI_ltI ha hb).mp z
    rw [Nat.max_eq_right (by omega)] at h
    exact h
  · have : ¬ a < b := fun q => z ((nI_ltI ha hb).mpr q)
    rw [Nat.max_eq_left (by omega)] at h
    exact h
theorem kJ9_min (gk : GOK G) {a b : Nat} (ha : a < 2 ^ 31) (hb : b < 2 ^ 31) (h : K (.inl (some (vI (nI (min a b))))) σ) : Runs G mJ9_min_7cf53 rJ9_min_7cf53 [vI (nI a), vI (nI b)] σ K := by
  refine eJ9_min_7cf53 gk ⟨fun z => ?_, fun z => ?_⟩
  · have := (nI_ltI hb ha).mp z
    rw [Nat.min_eq_right (by omega)] at h
    exact h
  · have : ¬ b < a := fun q => z ((nI_ltI hb ha).mpr q)
    rw [Nat.min_eq_left (by omega)] at h
    exact h
theorem nI_sub' {a b : Nat} (h : b ≤ a) : nI a - nI b = nI (a - b) := by
  have e : nI a = nI (a - b) + nI b := by rw [nI_add, Nat.sub_add_cancel h]
  rw [e, Int32.add_sub_cancel]
/-- the builder at b: v its bytes, m of them, n of these its letters t -/
def SBL (σ : Mm) (b v m n : Nat) (t : Nat → Int32) : Prop := (mt σ b).1 = 11 ∧ mi σ b 1 = 0 ∧ mi σ b 3 = nI n ∧ mr σ b 0 = some v ∧ mt σ v = (54, m) ∧ n ≤ m ∧ m ≤ 140 ∧ (b < mz σ ∧ v < mz σ) ∧ (∀ i, i < n → mi σ v i = t i ∧ 0 ≤ (t i).toInt ∧ (t i).toInt < 128) ∧ ∀ i, i < m → 0 ≤ (mi σ v i).toInt ∧ (mi σ v i).toInt < 128
theorem kJ5_isLatin1 (gk : GOK G) (sok : SOK G) {b : Nat} (h1 : (mt σ b).1 = 11) (h2 : mi σ b 1 = 0) (h : K (.inl (some (vI 1))) σ) : Runs G mJ5_isLatin1_aae02 rJ5_isLatin1_aae02 [vR (some b)] σ K :=
  eJ5_isLatin1_aae02 gk sok ⟨fun z => absurd z (by decide), fun _ => ⟨_, rfl, h1, fun z => absurd h2 z, fun _ => h⟩⟩
theorem byte_n {x : Int32} (h0 : 0 ≤ x.toInt) (h1 : x.toInt < 128) : ∃ k : Nat, k < 128 ∧ x = nI k := ⟨x.toInt.toNat, by omega, by rw [← Int32.toInt_inj, nI_toInt (by omega)]; omega⟩
theorem kJ8_newLength (gk : GOK G) {m d : Nat} (hm : m ≤ 60) (hd : 0 < d ∧ d ≤ m + 2) (h : K (.inl (some (vI (nI (2 * m + 2))))) σ) : Runs G mJ8_newLength_cabcc rJ8_newLength_cabcc [vI (nI m), vI (nI d), vI (nI (m + 2))] σ K := by
  refine eJ8_newLength_cabcc gk (kJ9_max gk (by omega) (by omega) ?_)
  rw [Nat.max_eq_right (by omega)]
  refine vJ8_newLength_cabcc_6 gk ?_
  rw [nI_add, show m + (m + 2) = 2 * m + 2 by omega]
  exact ⟨fun z => absurd z (nI_nle (by omega) (by omega)), fun _ => ⟨fun z => absurd z (nI_nlt (a := 2147483639) (by omega) (by decide)), fun _ => h⟩⟩
theorem kJ5_newCapacity (gk : GOK G) {b v m q : Nat} (h1 : (mt σ b).1 = 11) (h2 : mi σ b 1 = 0) (h3 : mr σ b 0 = some v) (h4 : mt σ v = (54, m)) (hm : m ≤ 60) (hq : m < q ∧ q ≤ 2 * m + 2) (h : K (.inl (some (vI (nI (2 * m + 2))))) σ) : Runs G mJ5_newCapacity_0f7a4 rJ5_newCapacity_0f7a4 [vR (some b), vI (nI q)] σ K := by
  refine eJ5_newCapacity_0f7a4 gk ⟨_, rfl, h1, v, h3, m, h4, ?_⟩
  rw [h2, shl0', shl0', nI_sub' (by omega), show (2 : Int32) = nI 2 from rfl, nI_add]
  refine kJ8_newLength gk hm (by omega) ?_
  refine vJ5_newCapacity_0f7a4_32 gk ⟨fun _ => ⟨_, rfl, h1, ?_⟩, fun z => ?_⟩
  · rw [h2, shr0']; exact h
  · have := (nI_eq (a := 2 * m + 2) (b := 2147483647) (by omega) (by decide)).mp z
    omega
theorem kJ7_copyOf (gk : GOK G) {v m q : Nat} (h4 : mt σ v = (54, m)) (hv : v < mz σ) (hm : m < q) (hq : q ≤ 140) (hf : ∀ i, i < m → isB (mi σ v i)) (h : ∀ σ', σ' = cpI (nw σ (54, q)) v 0 (mz σ) 0 m → K (.inl (some (vR (some (mz σ))))) σ') : Runs G mJ7_copyOf_9075b rJ7_copyOf_9075b_b [vR (some v), vI (nI q)] σ K := by
  have e1 : (nI q).toNatClampNeg = q := nI_clamp (by omega)
  refine eJ7_copyOf_9075b_b gk ⟨v, rfl, m, h4, fun z => ⟨⟨nI_pos (by omega), by rw [e1]; omega, by rw [e1]; omega⟩, fun σ1 s1 => ⟨m, ?_, ?_⟩⟩, fun z => ?_⟩
  · rw [s1]
    show (if v = mz σ then _ else mt σ v) = _
    rw [if_neg (by omega), h4]
  · refine kJ9_min gk (by omega) (by omega) ?_
    rw [Nat.min_eq_left (by omega)]
    have e2 : (nI m).toNatClampNeg = m := nI_clamp (by omega)
    have e0 : (0 : Int32).toNatClampNeg = 0 := rfl
    rw [e1] at s1
    refine vJ7_copyOf_9075b_b_28 gk ⟨v, rfl, m, ?_, mz σ, rfl, q, ?_, ⟨⟨by decide, by decide, nI_pos (by omega)⟩, by rw [e0, e2]; omega, by rw [e0, e2]; omega⟩, fun i hi => ?_, fun σ2 s2 => h σ2 ?_⟩
    · rw [s1]
      show (if v = mz σ then _ else mt σ v) = _
      rw [if_neg (by omega), h4]
    · rw [s1]
      show (if mz σ = mz σ then _ else _) = _
      rw [if_pos rfl]
    · rw [e2] at hi
      rw [s1, e0]
      show fits .byte (.int (if v = mz σ then 0 else mi σ v (0 + i))) = true
      rw [if_neg (by omega), Nat.zero_add]
      exact (hf i hi).2
    · rw [s2, s1, e0, e2]
  · have := (nI_eq (by omega) (by omega)).mp z
    omega
/-- AbstractStringBuilder.ensureCapacityInternal that finds room -/
theorem kJ5_ensure0 (gk : GOK G) {b v m q : Nat} (h1 : (mt σ b).1 = 11) (h2 : mi σ b 1 = 0) (h3 : mr σ b 0 = some v) (h4 : mt σ v = (54, m)) (hm : m ≤ 140) (hq : q ≤ m) (h : K (.inl none) σ) : Runs G mJ5_ensureCapacityInternal_d00df rJ5_ensureCapacityInternal_d00df [vR (some b), vI (nI q)] σ K := by
  refine eJ5_ensureCapacityInternal_d00df gk ⟨_, rfl, h1, v, h3, m, h4, ?_⟩
  rw [h2, shr0']
  have hd : nI q - nI m ≤ 0 := by
    have e : (nI q - nI m).toInt = (q : Int) - m := by
      rw [Int32.toInt_sub, nI_toInt (by omega), nI_toInt (by omega)]
      exact Int.bmod_eq_of_le (by simp; omega) (by simp; omega)
    rw [Int32.le_iff_toInt_le, e, Int32.toInt_zero]; omega
  exact ⟨fun _ => h, fun z => absurd hd z⟩
/-- the builder grown: its bytes copied to a new row of 2m+2 -/
def grS (σ : Mm) (b v m : Nat) : Mm := sr (cpI (nw σ (54, 2 * m + 2)) v 0 (mz σ) 0 m) b 0 (some (mz σ))
theorem kJ5_ensure (gk : GOK G) {b v m q : Nat} (h1 : (mt σ b).1 = 11) (h2 : mi σ b 1 = 0) (h3 : mr σ b 0 = some v) (h4 : mt σ v = (54, m)) (hb : b < mz σ ∧ v < mz σ) (hm : m ≤ 140) (hq : q ≤ m ∨ (m ≤ 60 ∧ q ≤ 2 * m + 2 ∧ ∀ i, i < m → isB (mi σ v i))) (hk : q ≤ m → K (.inl none) σ) (hg : m < q → K (.inl none) (grS σ b v m)) : Runs G mJ5_ensureCapacityInternal_d00df rJ5_ensureCapacityInternal_d00df_b [vR (some b), vI (nI q)] σ K := by
  refine eJ5_ensureCapacityInternal_d00df_b gk ⟨_, rfl, h1, v, h3, m, h4, ?_⟩
  rw [h2, shr0']
  have hq2 : q ≤ 400 := by omega
  have e : (nI q - nI m).toInt = (q : Int) - m := by
    rw [Int32.toInt_sub, nI_toInt (by omega), nI_toInt (by omega)]
    exact Int.bmod_eq_of_le (by simp; omega) (by simp; omega)
  refine ⟨fun z => hk ?_, fun z => ?_⟩
  · rw [Int32.le_iff_toInt_le, e, Int32.toInt_zero] at z; omega
  · rw [Int32.le_iff_toInt_le, e, Int32.toInt_zero] at z
    have hq' : m < q := by omega
    obtain ⟨g1, g2, g3⟩ := hq.resolve_left (by omega)
    refine kJ5_newCapacity gk h1 h2 h3 h4 g1 ⟨hq', g2⟩ ?_
    refine vJ5_ensureCapacityInternal_d00df_b_27 gk ⟨_, rfl, h1, ?_⟩
    rw [h2, shl0', h3]
    refine kJ7_copyOf gk h4 hb.2 (by omega) (by omega) g3 fun σ1 s1 => vJ5_ensureCapacityInternal_d00df_b_35 gk ⟨_, rfl, ?_, fun σ2 s2 => ?_⟩
    · rw [s1]
      show (if b = mz σ then _ else mt σ b).1 = 11
      rw [if_neg (by omega), h1]
    · rw [s2, s1]
      exact hg hq'
/-- what an append may touch -/
def FrL (σ σ' : Mm) (b v : Nat) : Prop := (∀ q, q < mz σ → q ≠ b → q ≠ v → mi σ' q = mi σ q ∧ mr σ' q = mr σ q ∧ ml σ' q = ml σ q ∧ md σ' q = md σ q) ∧ (∀ q, q < mz σ → mt σ' q = mt σ q) ∧ mz σ ≤ mz σ'
theorem SBL.ne {b v m n : Nat} {t : Nat → Int32} (h : SBL σ b v m n t) : b ≠ v := fun e => by
  have h1 := h.1
  rw [e, h.2.2.2.2.1] at h1
  cases h1
theorem isB_of {x : Int32} (h0 : 0 ≤ x.toInt) (h1 : x.toInt < 128) : isB x := by
  obtain ⟨k, hk, rfl⟩ := byte_n h0 h1
  exact isB_nI hk
theorem i8_of {x : Int32} (h0 : 0 ≤ x.toInt) (h1 : x.toInt < 128) : x.toInt8.toInt32 = x := (isB_of h0 h1).1
theorem SBL.grow {b v m n : Nat} {t : Nat → Int32} (h : SBL σ b v m n t) (hm : m ≤ 60) : SBL (grS σ b v m) b (mz σ) (2 * m + 2) n t ∧ FrL σ (grS σ b v m) b v := by
  have hne := h.ne
  obtain ⟨h1, h2, h3, h4, h5, h6, h7, ⟨h8, h8'⟩, h9⟩ := h
  have hbz : b ≠ mz σ := by omega
  have hvz : v ≠ mz σ := by omega
  refine ⟨⟨?_, ?_, ?_, ?_, ?_, by omega, by omega, ⟨by show b < mz σ + 1; omega, by show mz σ < mz σ + 1; omega⟩, fun i hi => ⟨?_, (h9.1 i hi).2⟩, fun i hi => ?_⟩, fun q hq hqb hqv => ⟨?_, ?_, ?_, ?_⟩, fun q hq => ?_, by show mz σ ≤ mz σ + 1; omega⟩
  · show (if b = mz σ then _ else mt σ b).1 = 11
    rw [if_neg hbz, h1]
  · show (if b = mz σ then _ else if b = mz σ then 0 else mi σ b 1) = 0
    rw [if_neg hbz, if_neg hbz, h2]
  · show (if b = mz σ then _ else if b = mz σ then 0 else mi σ b 3) = nI n
    rw [if_neg hbz, if_neg hbz, h3]
  · exact u2_s
  · show (if mz σ = mz σ then _ else _) = _
    rw [if_pos rfl]
  · show (if mz σ = mz σ then va_cpy (fun j => if v = mz σ then 0 else mi σ v j) _ 0 0 m i else _) = t i
    rw [if_pos rfl]
    unfold va_cpy
    rw [if_pos (by omega)]
    show (if v = mz σ then 0 else mi σ v (0 + (i - 0))) = t i
    rw [if_neg hvz, show 0 + (i - 0) = i by omega, (h9.1 i hi).1]
  · have e : mi (grS σ b v m) (mz σ) i = va_cpy (fun j => if v = mz σ then 0 else mi σ v j) (fun j => if mz σ = mz σ then 0 else mi σ (mz σ) j) 0 0 m i := if_pos rfl
    rw [e]
    by_cases him : i < m
    · rw [pk_cpy_in (by omega) (by omega), if_neg hvz, show 0 + (i - 0) = i by omega]
      exact h9.2 i him
    · rw [pk_cpy_out (by omega), if_pos rfl]
      decide
  · funext k
    show (if q = mz σ then _ else if q = mz σ then 0 else mi σ q k) = mi σ q k
    rw [if_neg (by omega), if_neg (by omega)]
  · funext k
    show u2 (fun q j => if q = mz σ then none else mr σ q j) b 0 (some (mz σ)) q k = mr σ q k
    rw [u2_a hqb, if_neg (by omega)]
  · funext k
    show (if q = mz σ then 0 else ml σ q k) = ml σ q k
    rw [if_neg (by omega)]
  · funext k
    show (if q = mz σ then 0 else md σ q k) = md σ q k
    rw [if_neg (by omega)]
  · show (if q = mz σ then _ else mt σ q) = mt σ q
    rw [if_neg (by omega)]
/-- the letter c put behind the n letters -/
def apS (σ : Mm) (b v n : Nat) (c : Int32) : Mm := si (si σ b 3 (nI (n + 1))) v n c
theorem SBL.app {b v m n : Nat} {t : Nat → Int32} {c : Int32} (h : SBL σ b v m n t) (hn : n < m) (h0 : 0 ≤ c.toInt) (h1 : c.toInt < 128) : SBL (apS σ b v n c) b v m (n + 1) (upd t n c) ∧ FrL σ (apS σ b v n c) b v := by
  have hne := h.ne
  obtain ⟨q1, q2, q3, q4, q5, q6, q7, q8, q9⟩ := h
  refine ⟨⟨q1, ?_, ?_, q4, q5, hn, q7, q8, fun i hi => ?_, fun i hi => ?_⟩, fun q hq hqb hqv => ⟨?_, rfl, rfl, rfl⟩, fun q hq => rfl, Nat.le_refl _⟩
  · show u2 (u2 (mi σ) b 3 (nI (n + 1))) v n c b 1 = 0
    rw [u2_a hne, u2_k (by decide), q2]
  · show u2 (u2 (mi σ) b 3 (nI (n + 1))) v n c b 3 = _
    rw [u2_a hne, u2_s]
  · show u2 (u2 (mi σ) b 3 (nI (n + 1))) v n c v i = _ ∧ _
    by_cases e : i = n
    · subst e
      rw [u2_s, pk_us]
      exact ⟨rfl, h0, h1⟩
    · rw [u2_k e, u2_a (Ne.symm hne), pk_un e]
      exact q9.1 i (by omega)
  · by_cases e : i = n
    · have e2 : mi (apS σ b v n c) v i = c := by rw [e]; exact u2_s
      rw [e2]
      exact ⟨h0, h1⟩
    · have e2 : mi (apS σ b v n c) v i = mi σ v i := (u2_k e).trans (u2_a (Ne.symm hne))
      rw [e2]
      exact q9.2 i hi
  · funext k
    show u2 (u2 (mi σ) b 3 (nI (n + 1))) v n c q k = _
    rw [u2_a hqv, u2_a hqb]
theorem FrL.trans {σ' σ'' : Mm} {b v v' : Nat} (h : FrL σ σ' b v) (h' : FrL σ' σ'' b v') (hv : v' = v ∨ mz σ ≤ v') : FrL σ σ'' b v := by
  refine ⟨fun q hq hqb hqv => ?_, fun q hq => ?_, Nat.le_trans h.2.2 h'.2.2⟩
  · obtain ⟨a1, a2, a3, a4⟩ := h.1 q hq hqb hqv
    obtain ⟨b1, b2, b3, b4⟩ := h'.1 q (by have := h.2.2; omega) hqb (by omega)
    exact ⟨b1.trans a1, b2.trans a2, b3.trans a3, b4.trans a4⟩
  · rw [h'.2.1 q (by have := h.2.2; omega), h.2.1 q hq]
/-- AbstractStringBuilder.append(char) of a letter below 128 -/
theorem kJ5_appendC (gk : GOK G) (sok : SOK G) {b v m n : Nat} {t : Nat → Int32} {c : Int32} (hL : SBL σ b v m n t) (hn : n < 60) (h0 : 0 ≤ c.toInt) (h1 : c.toInt < 128)
    (h : ∀ σ' v' m', SBL σ' b v' m' (n + 1) (upd t n c) → (v' = v ∨ v' = mz σ) → FrL σ σ' b v → K (.inl (some (vR (some b)))) σ') : Runs G mJ5_append_3fe6f rJ5_append_3fe6f_b [vR (some b), vI c] σ K := by
  have rest : ∀ σ1 v1 m1, SBL σ1 b v1 m1 n t → n < m1 → (v1 = v ∨ v1 = mz σ) → FrL σ σ1 b v → At G mJ5_append_3fe6f rJ5_append_3fe6f_b 1 140 10 [some (vR (some b)), some (vI c)] [] σ1 K := by
    intro σ1 v1 m1 H hm1 hv1 hF
    have H2 := H.app (c := c) hm1 h0 h1
    obtain ⟨q1, q2, q3, q4, q5, q6, q7, q8, q9⟩ := H
    have hc := i8_of h0 h1
    have hcb := isB_of h0 h1
    refine vJ5_append_3fe6f_b_10 gk ⟨_, rfl, q1, kJ5_isLatin1 gk sok q1 q2 ?_⟩
    refine vJ5_append_3fe6f_b_14 gk ⟨fun z => absurd z (by decide), fun _ => eJ1_canEncode_fc78d gk ⟨fun z => ?_, fun _ => ?_⟩⟩
    · rw [Int32.lt_iff_toInt_lt] at z
      have : ((255 : Int32)).toInt = 255 := by decide
      omega
    · refine vJ5_append_3fe6f_b_21 gk ⟨fun z => absurd z (by decide), fun _ => ⟨_, rfl, q1, fun σ2 s2 => ⟨v1, q4, m1, q5, ?_, ?_, fun σ3 s3 => ?_⟩⟩⟩
      · rw [q3]; exact nI_in hm1 (by omega)
      · rw [hc]; exact hcb
      · have e : σ3 = apS σ1 b v1 n c := by
          rw [s3, s2, q3, hc, nI_clamp (by omega), nI_1]
          rfl
        rw [e]
        refine h _ v1 m1 H2.1 hv1 (hF.trans H2.2 ?_)
        omega
  obtain ⟨q1, q2, q3, q4, q5, q6, q7, q8, q9⟩ := id hL
  refine eJ5_append_3fe6f_b gk ⟨_, rfl, q1, ?_⟩
  rw [q3, nI_1]
  by_cases hnm : n < m
  · exact kJ5_ensure gk q1 q2 q4 q5 q8 q7 (Or.inl hnm) (fun _ => rest _ _ _ hL hnm (Or.inl rfl) ⟨fun _ _ _ _ => ⟨rfl, rfl, rfl, rfl⟩, fun _ _ => rfl, Nat.le_refl _⟩) (fun z => by omega)
  · have e : n = m := by omega
    subst e
    have hg := hL.grow (by omega)
    exact kJ5_ensure gk q1 q2 q4 q5 q8 q7 (Or.inr ⟨by omega, by omega, fun i hi => isB_of (q9.2 i hi).1 (q9.2 i hi).2⟩) (fun z => by omega) (fun _ => rest _ _ _ hg.1 (by omega) (Or.inr rfl) hg.2)
/-- StringBuilder.append(char) -/
theorem kJ4_appendC (gk : GOK G) (sok : SOK G) {b v m n : Nat} {t : Nat → Int32} {c : Int32} (hL : SBL σ b v m n t) (hn : n < 60) (h0 : 0 ≤ c.toInt) (h1 : c.toInt < 128)
    (h : ∀ σ' v' m', SBL σ' b v' m' (n + 1) (upd t n c) → (v' = v ∨ v' = mz σ) → FrL σ σ' b v → K (.inl (some (vR (some b)))) σ') : Runs G mJ4_append_cf468 rJ4_append_cf468 [vR (some b), vI c] σ K := by
  refine eJ4_append_cf468 gk ⟨_, rfl, hL.1, fun r t' => r = .inl (some (vR (some b))) ∧ K r t', kJ5_appendC gk sok hL hn h0 h1 fun σ' v' m' a1 a2 a3 => ⟨rfl, h σ' v' m' a1 a2 a3⟩, (fun E t' z => by cases z.1), fun v' t' z => ?_⟩
  obtain ⟨e, z⟩ := z
  cases e
  exact vJ4_append_cf468_5 gk z
def dgN (k : Nat) : Nat := if k ≤ 9 then 1 else 2
theorem sz_all : ∀ k, k < 100 → (10 ≤ k → -nI k ≤ (-10 : Int32)) ∧ (k ≤ 9 → ¬ -nI k ≤ (-10 : Int32)) ∧ ¬ -nI k ≤ (10 : Int32) * (-10) := by decide +kernel
theorem kJ6_stringSize (gk : GOK G) {k : Nat} (hk : k ≤ 99) (h : K (.inl (some (vI (nI (dgN k))))) σ) : Runs G mJ6_stringSize_0f7a4 rJ6_stringSize_0f7a4 [vI (nI k)] σ K := by
  obtain ⟨e1, e2, e3⟩ := sz_all k (by omega)
  refine eJ6_stringSize_0f7a4 gk ⟨fun z => absurd z (nI_pos (by omega)), fun _ => ?_⟩
  unfold dgN at h
  by_cases h9 : k ≤ 9
  · rw [if_pos h9] at h
    exact vJ6_stringSize_0f7a4_16 gk ⟨fun z => absurd z (by decide), fun _ => ⟨fun z => absurd z (e2 h9), fun _ => h⟩⟩
  · rw [if_neg h9] at h
    exact vJ6_stringSize_0f7a4_16 gk ⟨fun z => absurd z (by decide), fun _ => ⟨fun _ => vJ6_stringSize_0f7a4_16 gk ⟨fun z => absurd z (by decide), fun _ => ⟨fun z => absurd z e3, fun _ => h⟩⟩, fun z => absurd (e1 (by omega)) z⟩⟩
theorem neg_all : ∀ k, k < 100 → (-100 : Int32) < -nI k ∧ (k ≤ 9 → (-9 : Int32) ≤ -nI k) ∧ (10 ≤ k → ¬ (-9 : Int32) ≤ -nI k) ∧ -(-nI k) = nI k := by decide +kernel
/-- the digits of k written from n on -/
def dgS (σ : Mm) (v n k : Nat) : Mm := if k ≤ 9 then si σ v n (nI (48 + k)) else si (si σ v (n + 1) (nI (48 + k % 10))) v n (nI (48 + k / 10))
theorem kJ6_getChars (gk : GOK G) (sok : SOK G) {k n v m : Nat} (hk : k ≤ 99) (ht : mt σ v = (54, m)) (hn : n + dgN k ≤ m) (hm : m ≤ 140) (h : ∀ z : Int32, K (.inl (some (vI z))) (dgS σ v n k)) : Runs G mJ6_getChars_ba4f3 rJ6_getChars_ba4f3 [vI (nI k), vI (nI (n + dgN k)), vR (some v)] σ K := by
  obtain ⟨e1, e2, e2', e3⟩ := neg_all k (by omega)
  have ep : ∀ q, q < 200 → nI (q + 1) + (-1) = nI q := fun q hq => by rw [show (-1 : Int32) = -nI 1 from by decide, ← Int32.sub_eq_add_neg]; exact nI_sub' (by omega)
  refine eJ6_getChars_ba4f3 gk ⟨fun _ => ⟨fun z => absurd rfl z, fun _ => ?_⟩, fun z => absurd (nI_pos' (by omega)) z⟩
  refine vJ6_getChars_ba4f3_22 gk sok ⟨fun _ => ?_, fun z => absurd e1 z⟩
  unfold dgN at hn ⊢
  unfold dgS at h
  rw [e3]
  have b1 : isB (dOnes k) := isB_nI (by omega)
  have b2 : isB (dTens k) := isB_nI (by omega)
  by_cases h9 : k ≤ 9
  · rw [if_pos h9] at hn ⊢
    simp only [if_pos h9] at h
    rw [ep n (by omega)]
    refine ⟨nI_in (by omega) (by decide), _, rfl, m, ht, nI_in (by omega) (by omega), by rw [nI_clamp (by omega)]; exact b1, fun σ1 s1 => ⟨fun _ => ⟨fun _ => ?_, fun z => absurd rfl z⟩, fun z => absurd (e2 h9) z⟩⟩
    rw [nI_clamp (by omega), nI_clamp (by omega)] at s1
    have : dOnes k = nI (48 + k) := by unfold dOnes; rw [Nat.mod_eq_of_lt (by omega)]
    rw [this] at s1
    rw [s1]
    exact h _
  · rw [if_neg h9] at hn ⊢
    simp only [if_neg h9] at h
    rw [ep (n + 1) (by omega), ep n (by omega)]
    refine ⟨nI_in (by omega) (by decide), _, rfl, m, ht, nI_in (by omega) (by omega), by rw [nI_clamp (by omega)]; exact b1, fun σ1 s1 => ⟨fun z => absurd z (e2' (by omega)), fun _ => ⟨nI_in (by omega) (by decide), nI_in (by omega) (by omega), by rw [nI_clamp (by omega)]; exact b2, fun σ2 s2 => ⟨fun _ => ?_, fun z => absurd rfl z⟩⟩⟩⟩
    rw [nI_clamp (by omega), nI_clamp (by omega)] at s1 s2
    rw [s2, s1]
    exact h _
/-- the digits of k behind the letters t -/
def dgT (t : Nat → Int32) (n k : Nat) : Nat → Int32 := if k ≤ 9 then upd t n (nI (48 + k)) else upd (upd t n (nI (48 + k / 10))) (n + 1) (nI (48 + k % 10))
/-- the builder with the digits of k behind its letters -/
def apD (σ : Mm) (b v n k : Nat) : Mm := si (dgS σ v n k) b 3 (nI (n + dgN k))
theorem SBL.appD {b v m n k : Nat} {t : Nat → Int32} (h : SBL σ b v m n t) (hk : k ≤ 99) (hn : n + dgN k ≤ m) : SBL (apD σ b v n k) b v m (n + dgN k) (dgT t n k) ∧ FrL σ (apD σ b v n k) b v := by
  have hne := h.ne
  obtain ⟨q1, q2, q3, q4, q5, q6, q7, q8, q9⟩ := h
  have d0 : ∀ j, j < 10 → 0 ≤ (nI (48 + j)).toInt ∧ (nI (48 + j)).toInt < 128 := fun j hj => by rw [nI_toInt (by omega)]; omega
  have er : mr (apD σ b v n k) = mr σ ∧ mt (apD σ b v n k) = mt σ ∧ mz (apD σ b v n k) = mz σ ∧ ml (apD σ b v n k) = ml σ ∧ md (apD σ b v n k) = md σ := by
    unfold apD dgS
    split <;> exact ⟨rfl, rfl, rfl, rfl, rfl⟩
  have eb : ∀ j, j ≠ 3 → mi (apD σ b v n k) b j = mi σ b j := fun j hj => by
    unfold apD dgS
    refine (u2_k hj).trans ?_
    split
    · exact u2_a hne
    · exact (u2_a hne).trans (u2_a hne)
  have eq' : ∀ q, q ≠ b → q ≠ v → mi (apD σ b v n k) q = mi σ q := fun q h1 h2 => funext fun j => by
    unfold apD dgS
    refine (u2_a h1).trans ?_
    split
    · exact u2_a h2
    · exact (u2_a h2).trans (u2_a h2)
  have ev : ∀ i, mi (apD σ b v n k) v i = if k ≤ 9 then (if i = n then nI (48 + k) else mi σ v i) else (if i = n then nI (48 + k / 10) else if i = n + 1 then nI (48 + k % 10) else mi σ v i) := fun i => by
    unfold apD dgS
    refine (u2_a (Ne.symm hne)).trans ?_
    by_cases h9 : k ≤ 9
    · rw [if_pos h9, if_pos h9]
      by_cases e : i = n
      · rw [if_pos e, e]; exact u2_s
      · rw [if_neg e]; exact u2_k e
    · rw [if_neg h9, if_neg h9]
      by_cases e : i = n
      · rw [if_pos e, e]; exact u2_s
      · rw [if_neg e]
        refine (u2_k e).trans ?_
        by_cases e2 : i = n + 1
        · rw [if_pos e2, e2]; exact u2_s
        · rw [if_neg e2]; exact u2_k e2
  have bt : ∀ i, i < m → 0 ≤ (mi (apD σ b v n k) v i).toInt ∧ (mi (apD σ b v n k) v i).toInt < 128 := fun i hi => by
    rw [ev i]
    split
    · split
      · exact d0 k (by omega)
      · exact q9.2 i hi
    · split
      · exact d0 _ (by omega)
      · split
        · exact d0 _ (by omega)
        · exact q9.2 i hi
  have et : ∀ i, i < n + dgN k → mi (apD σ b v n k) v i = dgT t n k i := fun i hi => by
    rw [ev i]
    unfold dgT
    unfold dgN at hi
    by_cases h9 : k ≤ 9
    · rw [if_pos h9] at hi
      rw [if_pos h9, if_pos h9]
      by_cases e : i = n
      · rw [if_pos e, e, pk_us]
      · rw [if_neg e, pk_un e, (q9.1 i (by omega)).1]
    · rw [if_neg h9] at hi
      rw [if_neg h9, if_neg h9]
      by_cases e : i = n
      · rw [if_pos e, e, pk_un (by omega), pk_us]
      · rw [if_neg e]
        by_cases e2 : i = n + 1
        · rw [if_pos e2, e2, pk_us]
        · rw [if_neg e2, pk_un e2, pk_un e, (q9.1 i (by omega)).1]
  refine ⟨⟨by rw [er.2.1]; exact q1, by rw [eb 1 (by decide)]; exact q2, u2_s, by rw [er.1]; exact q4, by rw [er.2.1]; exact q5, hn, q7, by rw [er.2.2.1]; exact q8, fun i hi => ⟨et i hi, ?_⟩, bt⟩, fun q hq h1 h2 => ⟨eq' q h1 h2, by rw [er.1], by rw [er.2.2.2.1], by rw [er.2.2.2.2]⟩, fun q _ => by rw [er.2.1], by rw [er.2.2.1]; exact Nat.le_refl _⟩
  rw [← et i hi]
  exact bt i (by omega)
/-- AbstractStringBuilder.append(int) of two digits at most -/
theorem kJ5_appendI (gk : GOK G) (sok : SOK G) {b v m n k : Nat} {t : Nat → Int32} (hL : SBL σ b v m n t) (hn : n < 59) (hk : k ≤ 99)
    (h : ∀ σ' v' m', SBL σ' b v' m' (n + dgN k) (dgT t n k) → (v' = v ∨ v' = mz σ) → FrL σ σ' b v → K (.inl (some (vR (some b)))) σ') : Runs G mJ5_append_c97b9 rJ5_append_c97b9_b [vR (some b), vI (nI k)] σ K := by
  have hd : dgN k ≤ 2 := by unfold dgN; split <;> omega
  have hd1 : 1 ≤ dgN k := by unfold dgN; split <;> omega
  have rest : ∀ σ1 v1 m1, SBL σ1 b v1 m1 n t → n + dgN k ≤ m1 → (v1 = v ∨ v1 = mz σ) → FrL σ σ1 b v → At G mJ5_append_c97b9 rJ5_append_c97b9_b 1 140 17 [some (vR (some b)), some (vI (nI k)), some (vI (nI n)), some (vI (nI (n + dgN k)))] [] σ1 K := by
    intro σ1 v1 m1 H hm1 hv1 hF
    have H2 := H.appD hk hm1
    obtain ⟨q1, q2, q3, q4, q5, q6, q7, q8, q9⟩ := id H
    refine vJ5_append_c97b9_b_17 gk ⟨_, rfl, q1, kJ5_isLatin1 gk sok q1 q2 ?_⟩
    refine vJ5_append_c97b9_b_21 gk ⟨fun z => absurd z (by decide), fun _ => ⟨_, rfl, q1, ?_⟩⟩
    rw [q4]
    refine kJ6_getChars gk sok hk q5 hm1 q7 fun z => vJ5_append_c97b9_b_33 gk ⟨_, rfl, ?_, fun σ2 s2 => ?_⟩
    · unfold dgS; split <;> exact q1
    · rw [s2]
      refine h _ v1 m1 H2.1 hv1 (hF.trans H2.2 ?_)
      omega
  obtain ⟨q1, q2, q3, q4, q5, q6, q7, q8, q9⟩ := id hL
  refine eJ5_append_c97b9_b gk ⟨_, rfl, q1, ?_⟩
  rw [q3]
  refine kJ6_stringSize gk hk (vJ5_append_c97b9_b_10 gk ⟨_, rfl, q1, ?_⟩)
  rw [nI_add]
  by_cases hnm : n + dgN k ≤ m
  · exact kJ5_ensure gk q1 q2 q4 q5 q8 q7 (Or.inl hnm) (fun _ => rest _ _ _ hL hnm (Or.inl rfl) ⟨fun _ _ _ _ => ⟨rfl, rfl, rfl, rfl⟩, fun _ _ => rfl, Nat.le_refl _⟩) (fun z => by omega)
  · have hg := hL.grow (by omega)
    exact kJ5_ensure gk q1 q2 q4 q5 q8 q7 (Or.inr ⟨by omega, by omega, fun i hi => isB_of (q9.2 i hi).1 (q9.2 i hi).2⟩) (fun z => by omega) (fun _ => rest _ _ _ hg.1 (by omega) (Or.inr rfl) hg.2)
/-- StringBuilder.append(int) of two digits at most -/
theorem kJ4_appendI (gk : GOK G) (sok : SOK G) {b v m n k : Nat} {t : Nat → Int32} (hL : SBL σ b v m n t) (hn : n < 59) (hk : k ≤ 99)
    (h : ∀ σ' v' m', SBL σ' b v' m' (n + dgN k) (dgT t n k) → (v' = v ∨ v' = mz σ) → FrL σ σ' b v → K (.inl (some (vR (some b)))) σ') : Runs G mJ4_append_bf812 rJ4_append_bf812 [vR (some b), vI (nI k)] σ K := by
  refine eJ4_append_bf812 gk ⟨_, rfl, hL.1, fun r t' => r = .inl (some (vR (some b))) ∧ K r t', kJ5_appendI gk sok hL hn hk fun σ' v' m' a1 a2 a3 => ⟨rfl, h σ' v' m' a1 a2 a3⟩, (fun E t' z => by cases z.1), fun v' t' z => ?_⟩
  obtain ⟨e, z⟩ := z
  cases e
  exact vJ4_append_bf812_5 gk z
/-- StringBuilder.length() -/
theorem kJ4_length (gk : GOK G) {b v m n : Nat} {t : Nat → Int32} (hL : SBL σ b v m n t) (h : K (.inl (some (vI (nI n)))) σ) : Runs G mJ4_length_8abf5 rJ4_length_8abf5 [vR (some b)] σ K := by
  refine eJ4_length_8abf5 gk ⟨_, rfl, hL.1, fun r t' => r = .inl (some (vI (nI n))) ∧ K r t', eJ5_length_8abf5 gk ⟨_, rfl, hL.1, ?_⟩, (fun E t' z => by cases z.1), fun v' t' z => ?_⟩
  · rw [hL.2.2.1]; exact ⟨rfl, h⟩
  · obtain ⟨e, z⟩ := z
    cases e
    exact vJ4_length_8abf5_4 gk z
theorem byc_all : ∀ k, k < 128 → i2c (nI k &&& 255) = nI k := by decide +kernel
theorem byc {x : Int32} (h0 : 0 ≤ x.toInt) (h1 : x.toInt < 128) : i2c (x &&& 255) = x ∧ isC x := by
  obtain ⟨k, hk, rfl⟩ := byte_n h0 h1
  exact ⟨byc_all k hk, isC_nI (by omega)⟩
/-- StringBuilder.charAt() inside -/
theorem kJ4_charAt (gk : GOK G) (sok : SOK G) {b v m n i : Nat} {t : Nat → Int32} (hL : SBL σ b v m n t) (hi : i < n) (h : K (.inl (some (vI (t i)))) σ) : Runs G mJ4_charAt_5068e rJ4_charAt_5068e [vR (some b), vI (nI i)] σ K := by
  obtain ⟨q1, q2, q3, q4, q5, q6, q7, q8, q9⟩ := id hL
  obtain ⟨g1, g2⟩ := byc (q9.1 i hi).2.1 (q9.1 i hi).2.2
  refine eJ4_charAt_5068e gk ⟨_, rfl, q1, fun r t' => r = .inl (some (vI (t i))) ∧ K r t', eJ5_charAt_5068e gk ⟨_, rfl, q1, v, q4, m, q5, ?_⟩, (fun E t' z => by cases z.1), fun v' t' z => ?_⟩
  · rw [q2, shr0', q3, q4]
    refine kJ9_min gk (by omega) (by omega) ?_
    rw [Nat.min_eq_left q6]
    refine vJ5_charAt_5068e_21 gk (kJ0_checkIndex gk sok hi (by omega) ?_)
    refine vJ5_charAt_5068e_29 gk ⟨fun z => absurd rfl z, fun _ => ⟨v, rfl, m, q5, nI_in (by omega) (by omega), ?_⟩⟩
    rw [nI_clamp (by omega), (q9.1 i hi).1, g1]
    exact ⟨g2, rfl, h⟩
  · obtain ⟨e, z⟩ := z
    cases e
    exact vJ4_charAt_5068e_5 gk ⟨g2, z⟩
/-- StringBuilder.setLength(0) -/
theorem kJ4_setLength0 (gk : GOK G) {b v m n : Nat} {t : Nat → Int32} (hL : SBL σ b v m n t) (h : ∀ σ', SBL σ' b v m 0 t → FrL σ σ' b v → mz σ' = mz σ → K (.inl none) σ') : Runs G mJ4_setLength_d00df rJ4_setLength_d00df [vR (some b), vI 0] σ K := by
  obtain ⟨q1, q2, q3, q4, q5, q6, q7, q8, q9⟩ := id hL
  have hne := hL.ne
  refine eJ4_setLength_d00df gk ⟨_, rfl, q1, fun r t' => r = .inl none ∧ K r t', eJ5_setLength_d00df_b gk ⟨fun _ => ⟨_, rfl, q1, ?_⟩, fun z => absurd (by decide) z⟩, (fun E t' z => by cases z.1), fun v' t' z => ?_⟩
  · refine kJ5_ensure0 (q := 0) gk q1 q2 q4 q5 q7 (Nat.zero_le _) ?_
    refine vJ5_setLength_d00df_b_18 gk ⟨_, rfl, q1, fun _ => ⟨fun _ σ1 s1 => ⟨rfl, h σ1 ?_ ?_ ?_⟩, fun _ σ1 s1 σ2 s2 => ⟨rfl, h σ2 ?_ ?_ ?_⟩⟩, fun z => absurd ?_ z⟩
    · rw [s1]
      refine ⟨q1, ?_, u2_s, q4, q5, Nat.zero_le _, q7, q8, fun i hi => absurd hi (Nat.not_lt_zero _), fun i hi => ?_⟩
      · show u2 (mi σ) b 3 0 b 1 = 0
        rw [u2_k (by decide), q2]
      · rw [show mi (si σ b 3 0) v i = mi σ v i from u2_a (Ne.symm hne)]
        exact q9.2 i hi
    · rw [s1]
      refine ⟨fun q hq hqb hqv => ⟨funext fun k => u2_a hqb, rfl, rfl, rfl⟩, fun q hq => rfl, Nat.le_refl _⟩
    · rw [s1]; rfl
    · rw [s2, s1]
      refine ⟨q1, ?_, u2_s, q4, q5, Nat.zero_le _, q7, q8, fun i hi => absurd hi (Nat.not_lt_zero _), fun i hi => ?_⟩
      · show u2 (u2 (mi σ) b 2 1) b 3 0 b 1 = 0
        rw [u2_k (by decide), u2_k (by decide), q2]
      · rw [show mi (si (si σ b 2 1) b 3 0) v i = mi σ v i from (u2_a (Ne.symm hne)).trans (u2_a (Ne.symm hne))]
        exact q9.2 i hi
    · rw [s2, s1]
      refine ⟨fun q hq hqb hqv => ⟨funext fun k => (u2_a hqb).trans (u2_a hqb), rfl, rfl, rfl⟩, fun q hq => rfl, Nat.le_refl _⟩
    · rw [s2, s1]; rfl
    · rw [q3]; exact nI_pos' (by omega)
  · obtain ⟨e, z⟩ := z
    cases e
    exact vJ4_setLength_d00df_5 gk z
/-- StringBuilder() -/
theorem kJ4_init (gk : GOK G) (sok : SOK G) {b : Nat} (h1 : (mt σ b).1 = 11) (hb : b < mz σ) (h : ∀ σ', σ' = si (sr (nw σ (54, 16)) b 0 (some (mz σ))) b 1 0 → K (.inl none) σ') : Runs G mJ4_init_da8c8 rJ4_init_da8c8 [vR (some b)] σ K := by
  have e16 : ((16 : Int32)).toNatClampNeg = 16 := by decide
  refine eJ4_init_da8c8 gk ⟨_, rfl, fun r t' => r = .inl none ∧ K r t', eJ5_init_d00df_b gk sok ⟨_, rfl, fun z => absurd z (by decide), fun _ => ⟨⟨by decide, by decide, by decide⟩, fun σ1 s1 => ⟨?_, fun σ2 s2 σ3 s3 => ⟨rfl, h _ ?_⟩⟩⟩⟩, (fun E t' z => by cases z.1), fun v' t' z => ?_⟩
  · rw [s1]
    show (if b = mz σ then _ else mt σ b).1 = 11
    rw [if_neg (by omega), h1]
  · rw [s3, s2, s1, e16]
  · obtain ⟨e, z⟩ := z
    cases e
    exact vJ4_init_da8c8_6 gk z
end STRC
