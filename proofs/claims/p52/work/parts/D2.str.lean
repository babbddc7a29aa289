/-! ===== texts that the law makes: contracts ===== -/
section STRM
variable {G : GG} {σ : Mm} {K : RES → Mm → Prop}
theorem i2c_all : ∀ k, k < 128 → i2c (nI k &&& 255) = nI k := by decide +kernel
theorem i2c_of {x : Int32} (h0 : 0 ≤ x.toInt) (h1 : x.toInt < 128) : i2c (x &&& 255) = x ∧ isC x := by
  obtain ⟨k, hk, rfl⟩ := byte_n h0 h1
  exact ⟨i2c_all k hk, isC_nI (by omega)⟩
/-- letters of seven bits -/
def LT7 (n : Nat) (f : Nat → Int32) : Prop := ∀ j, j < n → 0 ≤ (f j).toInt ∧ (f j).toInt < 128
/-- a String of ours at q, its bytes at v: the n letters f -/
def MSt (σ : Mm) (q v n : Nat) (f : Nat → Int32) : Prop := (mt σ q).1 = 10 ∧ mr σ q 0 = some v ∧ mi σ q 1 = 0 ∧ mt σ v = (54, n) ∧ (q < mz σ ∧ v < mz σ) ∧ ∀ j, j < n → mi σ v j = f j
/-- a String, of the start or ours, its bytes not at w -/
def SVw (G : GG) (σ : Mm) (q w n : Nat) (f : Nat → Int32) : Prop := LT7 n f ∧ n ≤ 60 ∧ ((∃ v, STV G q v n f) ∨ ∃ v, v ≠ w ∧ MSt σ q v n f)
theorem SVw.o {q w n : Nat} {f : Nat → Int32} (h : SVw G σ q w n f) : oSV G σ q := by
  rcases h.2.2 with ⟨v, h⟩ | ⟨v, -, h⟩
  · exact Or.inl h.1
  · exact Or.inr h.1
theorem kM_coder (gk : GOK G) (sok : SOK G) {q v n : Nat} {f : Nat → Int32} (hs : MSt σ q v n f) (h : K (.inl (some (vI 0))) σ) : Runs G mJ0_coder_7d493 rJ0_coder_7d493 [vR (some q)] σ K :=
  eJ0_coder_7d493 gk sok ⟨fun z => absurd z (by decide), fun _ => ⟨_, rfl, hs.1, by rw [hs.2.2.1]; exact isB_nI (k := 0) (by decide), by rw [hs.2.2.1]; exact h⟩⟩
theorem kM_isLatin1 (gk : GOK G) (sok : SOK G) {q v n : Nat} {f : Nat → Int32} (hs : MSt σ q v n f) (h : K (.inl (some (vI 1))) σ) : Runs G mJ0_isLatin1_aae02 rJ0_isLatin1_aae02 [vR (some q)] σ K :=
  eJ0_isLatin1_aae02 gk sok ⟨fun z => absurd z (by decide), fun _ => ⟨_, rfl, hs.1, fun z => absurd hs.2.2.1 z, fun _ => h⟩⟩
theorem kM_length (gk : GOK G) (sok : SOK G) {q v n : Nat} {f : Nat → Int32} (hs : MSt σ q v n f) (h : K (.inl (some (vI (nI n)))) σ) : Runs G mJ0_length_8abf5 rJ0_length_8abf5 [vR (some q)] σ K := by
  refine eJ0_length_8abf5 gk ⟨_, rfl, hs.1, v, hs.2.1, n, hs.2.2.2.1, kM_coder gk sok hs (vJ0_length_8abf5_9 gk ?_)⟩
  rw [shr0']
  exact h
theorem kM_charAt (gk : GOK G) (sok : SOK G) {q v n i : Nat} {f : Nat → Int32} (hs : MSt σ q v n f) (hi : i < n) (hn : n < 2 ^ 31) (hc : i2c (f i &&& 255) = f i) (hC : isC (f i)) (h : K (.inl (some (vI (f i)))) σ) : Runs G mJ0_charAt_5068e rJ0_charAt_5068e [vR (some q), vI (nI i)] σ K := by
  refine eJ0_charAt_5068e gk ⟨_, rfl, hs.1, kM_isLatin1 gk sok hs (vJ0_charAt_5068e_4 gk ⟨fun z => absurd z (by decide), fun _ => ⟨_, rfl, hs.1, ?_⟩⟩)⟩
  have e : mi σ v (nI i).toNatClampNeg = f i := by rw [nI_clamp (by omega)]; exact hs.2.2.2.2.2 i hi
  rw [hs.2.1]
  refine eJ1_charAt_3b067 gk ⟨_, rfl, n, hs.2.2.2.1, kJ0_checkIndex gk sok hi hn (vJ1_charAt_3b067_6 gk ⟨_, rfl, n, hs.2.2.2.1, nI_in hi hn, ?_⟩)⟩
  rw [e, hc]
  exact ⟨hC, vJ0_charAt_5068e_15 gk ⟨hC, h⟩⟩
theorem kS_length (gk : GOK G) (sok : SOK G) {q w n : Nat} {f : Nat → Int32} (hs : SVw G σ q w n f) (h : K (.inl (some (vI (nI n)))) σ) : Runs G mJ0_length_8abf5 rJ0_length_8abf5 [vR (some q)] σ K := by
  rcases hs.2.2 with ⟨v, hs⟩ | ⟨v, -, hs⟩
  · exact kJ0_length gk sok hs h
  · exact kM_length gk sok hs h
theorem kS_coder (gk : GOK G) (sok : SOK G) {q w n : Nat} {f : Nat → Int32} (hs : SVw G σ q w n f) (h : K (.inl (some (vI 0))) σ) : Runs G mJ0_coder_7d493 rJ0_coder_7d493 [vR (some q)] σ K := by
  rcases hs.2.2 with ⟨v, hs⟩ | ⟨v, -, hs⟩
  · exact kJ0_coder gk sok hs h
  · exact kM_coder gk sok hs h
theorem cpy_congr {f f' g : Nat → Int32} {sp dp n : Nat} (h : ∀ j, j < n → f (sp + j) = f' (sp + j)) : va_cpy f g sp dp n = va_cpy f' g sp dp n := by
  funext k
  unfold va_cpy
  by_cases hk : dp ≤ k ∧ k < dp + n
  · rw [if_pos hk, if_pos hk]; exact h _ (by omega)
  · rw [if_neg hk, if_neg hk]
theorem cpI_F {a0 a sp dp n : Nat} {f : Nat → Int32} (h : ∀ j, j < n → mi σ a0 (sp + j) = f (sp + j)) : cpI σ a0 sp a dp n = cpF σ f sp a dp n := by
  unfold cpI cpF
  rw [cpy_congr h]
theorem kS_getBytes (gk : GOK G) (sok : SOK G) {q w n i m : Nat} {f : Nat → Int32} (hs : SVw G σ q w n f) (hw : mt σ w = (54, m)) (him : i + n ≤ m) (hm : m ≤ 140) (h : K (.inl none) (cpF σ f 0 w i n)) : Runs G mJ0_getBytes_840e7 rJ0_getBytes_840e7 [vR (some q), vR (some w), vI (nI i), vI 0] σ K := by
  have hlt := hs.1
  have hn60 := hs.2.1
  have c1 : (nI n).toNatClampNeg = n := nI_clamp (by omega)
  have c2 : (nI i).toNatClampNeg = i := nI_clamp (by omega)
  have c0 : (0 : Int32).toNatClampNeg = 0 := rfl
  have hfit : ∀ j, j < n → fits .byte (.int (f j)) = true := fun j hj => (isB_of (hlt j hj).1 (hlt j hj).2).2
  rcases hs.2.2 with ⟨v, hs⟩ | ⟨v, hvw, hs⟩
  · refine Runs.ofF (by decide +kernel) rfl (Nat.le_of_ble_eq_true rfl) ?_
    refine s_aload_n (i := 0) dJ0_getBytes_840e7_0 rfl rfl ?_
    refine s_callVS (rmY := rJ0_coder_7d493) (as := []) (S := []) gk dJ0_getBytes_840e7_1 gJ0_335 w_1163 w_1164 hs.1 rfl rfl (Nat.le_of_ble_eq_true rfl) (by decide) ?_
    refine kJ0_coder gk sok hs ?_
    show At G _ _ _ _ _ _ _ _ _
    refine s_iload_n (i := 3) dJ0_getBytes_840e7_4 rfl rfl ?_
    refine s_icmp_ne (tgt := 28) dJ0_getBytes_840e7_5 (by decide) (fun z => absurd rfl z) (fun _ => ?_)
    refine s_aload_n (i := 0) dJ0_getBytes_840e7_8 rfl rfl ?_
    refine s_getO gk dJ0_getBytes_840e7_9 w_1294 hs.2.2.1 ?_
    refine s_iconst (v := 0) dJ0_getBytes_840e7_12 (by decide) ?_
    refine s_aload_n (i := 1) dJ0_getBytes_840e7_13 rfl rfl ?_
    refine s_iload_n (i := 2) dJ0_getBytes_840e7_14 rfl rfl ?_
    refine s_iload_n (i := 3) dJ0_getBytes_840e7_15 rfl rfl ?_
    refine s_ishl dJ0_getBytes_840e7_16 ?_
    rw [shl0']
    refine s_aload_n (i := 0) dJ0_getBytes_840e7_17 rfl rfl ?_
    refine s_getO gk dJ0_getBytes_840e7_18 w_1294 hs.2.2.1 ?_
    refine s_lenT dJ0_getBytes_840e7_21 hs.2.2.2 ?_
    refine s_copyT gk dJ0_getBytes_840e7_22 w_1198 w_1137 w_1136 w_28 hs.2.2.2 hw (by decide) (nI_pos (by omega)) (nI_pos (by omega)) (by rw [c0, c1]; omega) (by rw [c1, c2]; omega) (fun j hj => by rw [c0, Nat.zero_add]; rw [c1] at hj; exact hfit j hj) rfl (by decide) (by decide) ?_
    refine s_goto (tgt := 43) dJ0_getBytes_840e7_25 (by decide) ?_
    rw [c0, c1, c2]
    exact s_return dJ0_getBytes_840e7_43 rfl (by decide) (by decide) h
  · refine eJ0_getBytes_840e7 gk ⟨_, rfl, hs.1, kM_coder gk sok hs (vJ0_getBytes_840e7_4 gk ⟨fun z => absurd rfl z, fun _ => ⟨_, rfl, hs.1, v, hs.2.1, n, hs.2.2.2.1, w, rfl, m, hw, ?_⟩⟩)⟩
    rw [shl0', c0, c1, c2]
    refine ⟨⟨⟨by decide, nI_pos (by omega), nI_pos (by omega)⟩, by omega, by omega⟩, fun j hj => ?_, fun σ17 e => ?_⟩
    · rw [Nat.zero_add, hs.2.2.2.2.2 j hj]; exact hfit j hj
    · rw [e, cpI_F (f := f) (fun j hj => by rw [Nat.zero_add]; exact hs.2.2.2.2.2 j hj)]
      exact h
theorem kJ5_inflateIf (gk : GOK G) (sok : SOK G) {b q w n : Nat} {f : Nat → Int32} (h1 : (mt σ b).1 = 11) (h2 : mi σ b 1 = 0) (hs : SVw G σ q w n f) (h : K (.inl none) σ) : Runs G mJ5_inflateIfNeededFor_a7421 rJ5_inflateIfNeededFor_a7421 [vR (some b), vR (some q)] σ K := by
  refine eJ5_inflateIfNeededFor_a7421 gk sok ⟨fun z => absurd z (by decide), fun _ => ⟨_, rfl, h1, _, rfl, hs.o, ?_⟩⟩
  rw [h2]
  exact kS_coder gk sok hs (vJ5_inflateIfNeededFor_a7421_14 gk ⟨fun _ => h, fun z => absurd rfl z⟩)
theorem kJ5_putStringAt (gk : GOK G) (sok : SOK G) {b v m i q n : Nat} {f : Nat → Int32} (h1 : (mt σ b).1 = 11) (h2 : mi σ b 1 = 0) (h3 : mr σ b 0 = some v) (h4 : mt σ v = (54, m)) (hm : m ≤ 140) (hs : SVw G σ q v n f) (him : i + n ≤ m) (h : K (.inl none) (cpF σ f 0 v i n)) : Runs G mJ5_putStringAt_47b60 rJ5_putStringAt_47b60 [vR (some b), vI (nI i), vR (some q)] σ K := by
  refine eJ5_putStringAt_47b60 gk ⟨_, rfl, h1, kJ5_inflateIf gk sok h1 h2 hs (vJ5_putStringAt_47b60_5 gk ⟨_, rfl, h1, _, rfl, hs.o, ?_⟩)⟩
  rw [h2, h3]
  exact kS_getBytes gk sok hs h4 him hm (vJ5_putStringAt_47b60_18 gk h)
/-- how many the builder holds room for, grown from m so that q fit -/
def gcap (m q : Nat) : Nat := m + max (q - m) (m + 2)
theorem kJ8_newLength2 (gk : GOK G) {m d : Nat} (hm : m ≤ 60) (hd : 0 < d ∧ d ≤ 60) (h : K (.inl (some (vI (nI (m + max d (m + 2)))))) σ) : Runs G mJ8_newLength_cabcc rJ8_newLength_cabcc [vI (nI m), vI (nI d), vI (nI (m + 2))] σ K := by
  refine eJ8_newLength_cabcc gk (kJ9_max gk (by omega) (by omega) ?_)
  refine vJ8_newLength_cabcc_6 gk ?_
  rw [nI_add]
  exact ⟨fun z => absurd z (nI_nle (by omega) (by omega)), fun _ => ⟨fun z => absurd z (nI_nlt (a := 2147483639) (by omega) (by decide)), fun _ => h⟩⟩
theorem kJ5_newCapacity2 (gk : GOK G) {b v m q : Nat} (h1 : (mt σ b).1 = 11) (h2 : mi σ b 1 = 0) (h3 : mr σ b 0 = some v) (h4 : mt σ v = (54, m)) (hm : m ≤ 60) (hq : m < q ∧ q ≤ 60) (h : K (.inl (some (vI (nI (gcap m q))))) σ) : Runs G mJ5_newCapacity_0f7a4 rJ5_newCapacity_0f7a4 [vR (some b), vI (nI q)] σ K := by
  refine eJ5_newCapacity_0f7a4 gk ⟨_, rfl, h1, v, h3, m, h4, ?_⟩
  rw [h2, shl0', shl0', nI_sub' (by omega), show (2 : Int32) = nI 2 from rfl, nI_add]
  refine kJ8_newLength2 gk hm (by omega) ?_
  have hg : gcap m q < 2147483647 := by unfold gcap; omega
  refine vJ5_newCapacity_0f7a4_32 gk ⟨fun _ => ⟨_, rfl, h1, ?_⟩, fun z => ?_⟩
  · rw [h2, shr0']; exact h
  · have := (nI_eq (a := gcap m q) (b := 2147483647) (by omega) (by decide)).mp z
    omega
def grC (σ : Mm) (b v m c : Nat) : Mm := sr (cpI (nw σ (54, c)) v 0 (mz σ) 0 m) b 0 (some (mz σ))
theorem kJ5_ensure2 (gk : GOK G) {b v m q : Nat} (h1 : (mt σ b).1 = 11) (h2 : mi σ b 1 = 0) (h3 : mr σ b 0 = some v) (h4 : mt σ v = (54, m)) (hb : b < mz σ ∧ v < mz σ) (hm : m ≤ 140) (hq : q ≤ 60) (hB : ∀ i, i < m → isB (mi σ v i)) (hk : q ≤ m → K (.inl none) σ) (hg : m < q → K (.inl none) (grC σ b v m (gcap m q))) : Runs G mJ5_ensureCapacityInternal_d00df rJ5_ensureCapacityInternal_d00df_b [vR (some b), vI (nI q)] σ K := by
  refine eJ5_ensureCapacityInternal_d00df_b gk ⟨_, rfl, h1, v, h3, m, h4, ?_⟩
  rw [h2, shr0']
  have e : (nI q - nI m).toInt = (q : Int) - m := by
    rw [Int32.toInt_sub, nI_toInt (by omega), nI_toInt (by omega)]
    exact Int.bmod_eq_of_le (by simp; omega) (by simp; omega)
  refine ⟨fun z => hk ?_, fun z => ?_⟩
  · rw [Int32.le_iff_toInt_le, e, Int32.toInt_zero] at z; omega
  · rw [Int32.le_iff_toInt_le, e, Int32.toInt_zero] at z
    have hq' : m < q := by omega
    have hc : m < gcap m q ∧ gcap m q ≤ 140 := by unfold gcap; omega
    refine kJ5_newCapacity2 gk h1 h2 h3 h4 (by omega) ⟨hq', hq⟩ ?_
    refine vJ5_ensureCapacityInternal_d00df_b_27 gk ⟨_, rfl, h1, ?_⟩
    rw [h2, shl0', h3]
    refine kJ7_copyOf gk h4 hb.2 hc.1 hc.2 hB fun σ1 s1 => vJ5_ensureCapacityInternal_d00df_b_35 gk ⟨_, rfl, ?_, fun σ2 s2 => ?_⟩
    · rw [s1]
      show (if b = mz σ then _ else mt σ b).1 = 11
      rw [if_neg (by omega), h1]
    · rw [s2, s1]
      exact hg hq'
theorem SBL.growC {b v m n c : Nat} {t : Nat → Int32} (h : SBL σ b v m n t) (hc : m ≤ c ∧ c ≤ 140) : SBL (grC σ b v m c) b (mz σ) c n t ∧ FrL σ (grC σ b v m c) b v := by
  have hne := h.ne
  obtain ⟨h1, h2, h3, h4, h5, h6, h7, ⟨h8, h8'⟩, h9⟩ := h
  have hbz : b ≠ mz σ := by omega
  have hvz : v ≠ mz σ := by omega
  refine ⟨⟨?_, ?_, ?_, ?_, ?_, by omega, by omega, ⟨by show b < mz σ + 1; omega, by show mz σ < mz σ + 1; omega⟩, fun i hi => ⟨?_, (h9.1 i hi).2⟩, fun i hi => ?_⟩, fun q hq hqb hqv => ⟨?_, ?_, ?_, ?_⟩, fun q hq => ?_, by show mz σ ≤ mz σ + 1; omega⟩
  · show (if b = mz σ then _ else mt σ b).1 = 11
    rw [if_neg hbz, h1]
  · show (if b = mz σ then _ else if b = mz σ then 0 else mi σ b 1) = 0
    rw [if_neg hbz, if_neg hbz, h2]
  · show (if b = mz σ then _ else if b = mz σ then 0 else mi σ b 3) = nI n
    rw [if_neg hbz, if_neg hbz, h3]
  · exact u2_s
  · show (if mz σ = mz σ then _ else _) = _
    rw [if_pos rfl]
  · show (if mz σ = mz σ then va_cpy (fun j => if v = mz σ then 0 else mi σ v j) _ 0 0 m i else _) = t i
    rw [if_pos rfl]
    unfold va_cpy
    rw [if_pos (by omega)]
    show (if v = mz σ then 0 else mi σ v (0 + (i - 0))) = t i
    rw [if_neg hvz, show 0 + (i - 0) = i by omega, (h9.1 i hi).1]
  · have e : mi (grC σ b v m c) (mz σ) i = va_cpy (fun j => if v = mz σ then 0 else mi σ v j) (fun j => if mz σ = mz σ then 0 else mi σ (mz σ) j) 0 0 m i := if_pos rfl
    rw [e]
    by_cases him : i < m
    · rw [pk_cpy_in (by omega) (by omega), if_neg hvz, show 0 + (i - 0) = i by omega]
      exact h9.2 i him
    · rw [pk_cpy_out (by omega), if_pos rfl]
      decide
  · funext k
    show (if q = mz σ then _ else if q = mz σ then 0 else mi σ q k) = mi σ q k
    rw [if_neg (by omega), if_neg (by omega)]
  · funext k
    show u2 (fun q j => if q = mz σ then none else mr σ q j) b 0 (some (mz σ)) q k = mr σ q k
    rw [u2_a hqb, if_neg (by omega)]
  · funext k
    show (if q = mz σ then 0 else ml σ q k) = ml σ q k
    rw [if_neg (by omega)]
  · funext k
    show (if q = mz σ then 0 else md σ q k) = md σ q k
    rw [if_neg (by omega)]
  · show (if q = mz σ then _ else mt σ q) = mt σ q
    rw [if_neg (by omega)]
/-- k letters f put behind the n letters t -/
def apT (t : Nat → Int32) (n k : Nat) (f : Nat → Int32) : Nat → Int32 := fun i => if n ≤ i ∧ i < n + k then f (i - n) else t i
def apF (σ : Mm) (b v n k : Nat) (f : Nat → Int32) : Mm := si (cpF σ f 0 v n k) b 3 (nI (n + k))
theorem SBL.appF {b v m n k : Nat} {t f : Nat → Int32} (h : SBL σ b v m n t) (hn : n + k ≤ m) (hf : LT7 k f) : SBL (apF σ b v n k f) b v m (n + k) (apT t n k f) ∧ FrL σ (apF σ b v n k f) b v := by
  have hne := h.ne
  obtain ⟨q1, q2, q3, q4, q5, q6, q7, q8, q9⟩ := h
  have ev : ∀ i, mi (apF σ b v n k f) v i = va_cpy f (mi σ v) 0 n k i := fun i => (u2_a (Ne.symm hne)).trans (if_pos rfl)
  have eb : ∀ i, i ≠ 3 → mi (apF σ b v n k f) b i = mi σ b i := fun i hi => (u2_k hi).trans (if_neg hne)
  refine ⟨⟨q1, ?_, u2_s, q4, q5, hn, q7, q8, fun i hi => ?_, fun i hi => ?_⟩, fun q hq hqb hqv => ⟨?_, rfl, rfl, rfl⟩, fun q hq => rfl, Nat.le_refl _⟩
  · rw [eb 1 (by decide), q2]
  · rw [ev]
    unfold va_cpy apT
    by_cases e : n ≤ i ∧ i < n + k
    · rw [if_pos e, if_pos e, Nat.zero_add]
      exact ⟨rfl, hf _ (by omega)⟩
    · rw [if_neg e, if_neg e]
      exact q9.1 i (by omega)
  · rw [ev]
    unfold va_cpy
    by_cases e : n ≤ i ∧ i < n + k
    · rw [if_pos e, Nat.zero_add]
      exact hf _ (by omega)
    · rw [if_neg e]
      exact q9.2 i hi
  · funext j
    exact (u2_a hqb).trans (if_neg hqv)
theorem MSt.fr {σ' : Mm} {q v n b w : Nat} {f : Nat → Int32} (h : MSt σ q v n f) (hF : FrL σ σ' b w) (hb : (mt σ b).1 = 11) (hw : (mt σ w).1 = 54) (hvw : v ≠ w) : MSt σ' q v n f := by
  obtain ⟨h1, h2, h3, h4, ⟨h5, h5'⟩, h6⟩ := h
  have hqb : q ≠ b := fun e => by rw [e, hb] at h1; cases h1
  have hqw : q ≠ w := fun e => by rw [e, hw] at h1; cases h1
  have hvb : v ≠ b := fun e => by rw [e] at h4; rw [h4] at hb; cases hb
  obtain ⟨a1, a2, -, -⟩ := hF.1 q h5 hqb hqw
  obtain ⟨b1, -, -, -⟩ := hF.1 v h5' hvb hvw
  exact ⟨by rw [hF.2.1 q h5]; exact h1, by rw [a2]; exact h2, by rw [a1]; exact h3, by rw [hF.2.1 v h5']; exact h4, ⟨Nat.lt_of_lt_of_le h5 hF.2.2, Nat.lt_of_lt_of_le h5' hF.2.2⟩, fun j hj => by rw [b1]; exact h6 j hj⟩
/-- AbstractStringBuilder.append(String) -/
theorem kJ5_appendS (gk : GOK G) (sok : SOK G) {b v m n q k : Nat} {t f : Nat → Int32} (hL : SBL σ b v m n t) (hn : n + k ≤ 60) (hs : SVw G σ q v k f)
    (h : ∀ σ' v' m', SBL σ' b v' m' (n + k) (apT t n k f) → (v' = v ∨ v' = mz σ) → FrL σ σ' b v → K (.inl (some (vR (some b)))) σ') : Runs G mJ5_append_cf1ce rJ5_append_cf1ce_b [vR (some b), vR (some q)] σ K := by
  have rest : ∀ σ1 v1 m1, SBL σ1 b v1 m1 n t → n + k ≤ m1 → SVw G σ1 q v1 k f → (v1 = v ∨ v1 = mz σ) → FrL σ σ1 b v → At G mJ5_append_cf1ce rJ5_append_cf1ce_b 1 140 24 [some (vR (some b)), some (vR (some q)), some (vI (nI k))] [] σ1 K := by
    intro σ1 v1 m1 H hm1 hs1 hv1 hF
    have H2 := H.appF hm1 hs1.1
    have hne := H.ne
    obtain ⟨q1, q2, q3, q4, q5, q6, q7, q8, q9⟩ := H
    refine vJ5_append_cf1ce_b_24 gk ⟨_, rfl, q1, ?_⟩
    rw [q3]
    refine kJ5_putStringAt gk sok q1 q2 q4 q5 q7 hs1 hm1 (vJ5_append_cf1ce_b_33 gk ⟨_, rfl, q1, fun σ3 s3 => ?_⟩)
    have e3 : mi (cpF σ1 f 0 v1 n k) b 3 = nI n := (if_neg hne).trans q3
    rw [e3, nI_add] at s3
    rw [s3]
    exact h _ v1 m1 H2.1 hv1 (hF.trans H2.2 (by omega))
  obtain ⟨q1, q2, q3, q4, q5, q6, q7, q8, q9⟩ := id hL
  have hB : ∀ i, i < m → isB (mi σ v i) := fun i hi => isB_of (q9.2 i hi).1 (q9.2 i hi).2
  refine eJ5_append_cf1ce_b gk ⟨(fun z => nomatch z), fun a e => ?_⟩
  cases e
  refine ⟨hs.o, kS_length gk sok hs (vJ5_append_cf1ce_b_13 gk ⟨_, rfl, q1, ?_⟩)⟩
  rw [q3, nI_add]
  refine kJ5_ensure2 gk q1 q2 q4 q5 q8 q7 hn hB (fun z => rest _ _ _ hL z hs (Or.inl rfl) ⟨fun _ _ _ _ => ⟨rfl, rfl, rfl, rfl⟩, fun _ _ => rfl, Nat.le_refl _⟩) (fun z => ?_)
  have hc : n + k ≤ gcap m (n + k) ∧ m ≤ gcap m (n + k) ∧ gcap m (n + k) ≤ 140 := by unfold gcap; omega
  have hg := hL.growC hc.2
  refine rest _ _ _ hg.1 hc.1 ⟨hs.1, hs.2.1, ?_⟩ (Or.inr rfl) hg.2
  rcases hs.2.2 with ⟨v1, hs⟩ | ⟨v1, hv1, hs⟩
  · exact Or.inl ⟨v1, hs⟩
  · exact Or.inr ⟨v1, Nat.ne_of_lt hs.2.2.2.2.1.2, hs.fr hg.2 q1 (by rw [q5]) hv1⟩
/-- StringBuilder.append(String) -/
theorem kJ4_appendS (gk : GOK G) (sok : SOK G) {b v m n q k : Nat} {t f : Nat → Int32} (hL : SBL σ b v m n t) (hn : n + k ≤ 60) (hs : SVw G σ q v k f)
    (h : ∀ σ' v' m', SBL σ' b v' m' (n + k) (apT t n k f) → (v' = v ∨ v' = mz σ) → FrL σ σ' b v → K (.inl (some (vR (some b)))) σ') : Runs G mJ4_append_15ec4 rJ4_append_15ec4_b [vR (some b), vR (some q)] σ K := by
  refine eJ4_append_15ec4_b gk ⟨_, rfl, hL.1, fun r t' => r = .inl (some (vR (some b))) ∧ K r t', kJ5_appendS gk sok hL hn hs fun σ' v' m' a1 a2 a3 => ⟨rfl, h σ' v' m' a1 a2 a3⟩, (fun E t' z => by cases z.1), fun v' t' z => ?_⟩
  obtain ⟨e, z⟩ := z
  cases e
  exact vJ4_append_15ec4_b_5 gk z
/-- nothing old has changed, two cells are new -/
def Fr2 (σ σ' : Mm) : Prop := (∀ q, q < mz σ → mi σ' q = mi σ q ∧ mr σ' q = mr σ q ∧ ml σ' q = ml σ q ∧ md σ' q = md σ q ∧ mt σ' q = mt σ q) ∧ mz σ ≤ mz σ'
theorem kJ7_copyOfRange (gk : GOK G) {v m n : Nat} (h4 : mt σ v = (54, m)) (hv : v < mz σ) (hn : n ≤ m) (hm : m ≤ 140) (hB : ∀ i, i < m → isB (mi σ v i)) (h : K (.inl (some (vR (some (mz σ))))) (cpI (nw σ (54, n)) v 0 (mz σ) 0 n)) : Runs G mJ7_copyOfRange_39247 rJ7_copyOfRange_39247_b [vR (some v), vI 0, vI (nI n)] σ K := by
  refine eJ7_copyOfRange_39247_b gk ⟨fun z => absurd rfl z, fun _ => ⟨_, rfl, m, h4, fun z => ?_, fun z => ?_⟩⟩
  · have e := (nI_eq (by omega) (by omega)).mp z
    subst e
    exact ⟨⟨by omega, fun i hi => (hB i hi).2⟩, fun σ7 e => by rw [e]; exact h⟩
  · refine eJ7_copyOfRangeByte_39247_b gk (eJ7_checkLength_df160_b gk ⟨fun _ => vJ7_copyOfRangeByte_39247_b_5 gk ?_, fun z => absurd (nI_le (a := 0) (Nat.zero_le n) (by omega)) z⟩)
    have e0 : nI n - 0 = nI n := by rw [Int32.sub_zero]
    have e1 : nI m - 0 = nI m := by rw [Int32.sub_zero]
    have c1 : (nI n).toNatClampNeg = n := nI_clamp (by omega)
    have c0 : (0 : Int32).toNatClampNeg = 0 := rfl
    rw [e0, c1]
    refine ⟨⟨nI_pos (by omega), by omega, by omega⟩, fun σ2 s2 => ⟨_, rfl, m, ?_, ?_⟩⟩
    · rw [s2]
      show (if v = mz σ then _ else mt σ v) = _
      rw [if_neg (by omega), h4]
    · rw [e1]
      refine kJ9_min gk (by omega) (by omega) ?_
      rw [Nat.min_eq_right hn]
      refine vJ7_copyOfRangeByte_39247_b_27 gk ⟨_, rfl, m, ?_, _, rfl, n, ?_, ⟨⟨by decide, by decide, nI_pos (by omega)⟩, by rw [c0, c1]; omega, by rw [c0, c1]; omega⟩, fun i hi => ?_, fun σ9 s9 => vJ7_copyOfRange_39247_b_16 gk ?_⟩
      · rw [s2]
        show (if v = mz σ then _ else mt σ v) = _
        rw [if_neg (by omega), h4]
      · rw [s2]
        exact if_pos rfl
      · rw [c1] at hi
        rw [s2, c0, Nat.zero_add]
        show fits .byte (.int (if v = mz σ then 0 else mi σ v i)) = true
        rw [if_neg (by omega)]
        exact (hB i (by omega)).2
      · rw [s9, s2, c0, c1]
        exact h
/-- StringBuilder.toString -/
theorem kJ4_toString (gk : GOK G) (sok : SOK G) {b v m n : Nat} {t : Nat → Int32} (hL : SBL σ b v m n t) (h : ∀ σ', MSt σ' (mz σ) (mz σ + 1) n t → Fr2 σ σ' → K (.inl (some (vR (some (mz σ))))) σ') : Runs G mJ4_toString_0e30d rJ4_toString_0e30d_b [vR (some b)] σ K := by
  obtain ⟨q1, q2, q3, q4, q5, q6, q7, ⟨q8, q8'⟩, q9⟩ := id hL
  refine eJ4_toString_0e30d_b gk fun σ1 s1 => ?_
  have hb1 : mt σ1 b = mt σ b ∧ mr σ1 b = mr σ b ∧ mi σ1 b = mi σ b := by
    rw [s1]
    refine ⟨if_neg (by omega), ?_, ?_⟩
    · funext k; exact if_neg (by omega)
    · funext k; exact if_neg (by omega)
  have hv1 : mt σ1 v = mt σ v ∧ mi σ1 v = mi σ v := by
    rw [s1]
    refine ⟨if_neg (by omega), ?_⟩
    funext k; exact if_neg (by omega)
  have hz1 : mz σ1 = mz σ + 1 := by rw [s1]; rfl
  have ht1 : mt σ1 (mz σ) = (10, 0) := by rw [s1]; exact if_pos rfl
  have hL1 : SBL σ1 b v m n t := ⟨by rw [hb1.1]; exact q1, by rw [hb1.2.2]; exact q2, by rw [hb1.2.2]; exact q3, by rw [hb1.2.1]; exact q4, by rw [hv1.1]; exact q5, q6, q7, ⟨by omega, by omega⟩, fun i hi => by rw [hv1.2]; exact q9.1 i hi, fun i hi => by rw [hv1.2]; exact q9.2 i hi⟩
  refine ⟨fun r t' => r = .inl none ∧ K (.inl (some (vR (some (mz σ))))) t', ?_, (fun E t' z => by cases z.1), fun v' t' z => ?_⟩
  · refine eJ0_init_81219_b gk ⟨_, rfl, fun r t' => r = .inl none ∧ K (.inl (some (vR (some (mz σ))))) t', ?_, (fun E t' z => by cases z.1), fun v' t' z => ?_⟩
    · refine eJ0_init_db425_b gk ⟨_, rfl, _, rfl, hL1.1, eJ5_getValue_6d5f1 gk ⟨_, rfl, hL1.1, vJ0_init_db425_b_8 gk ⟨_, rfl, hL1.1, fun r t' => r = .inl (some (vI (nI n))) ∧ t' = σ1, kJ4_length gk hL1 ⟨rfl, rfl⟩, (fun E t' z => by cases z.1), fun v' t' z => ?_⟩⟩⟩
      obtain ⟨e, e2⟩ := z
      cases e
      rw [e2]
      rw [hL1.2.2.2.1]
      refine vJ0_init_db425_b_13 gk ⟨_, rfl, hL1.1, kJ5_isLatin1 gk sok hL1.1 hL1.2.1 (vJ0_init_db425_b_19 gk sok ⟨fun z => absurd z (by decide), fun _ => ⟨_, rfl, by rw [ht1], fun σ2 s2 => ?_⟩⟩)⟩
      have hz2 : mz σ2 = mz σ + 1 := by rw [s2]; exact hz1
      have hv2 : mt σ2 v = mt σ v ∧ mi σ2 v = mi σ v := by
        rw [s2]
        refine ⟨hv1.1, ?_⟩
        rw [← hv1.2]
        funext k
        exact u2_a (by omega)
      refine kJ7_copyOfRange gk (by rw [hv2.1]; exact q5) (by omega) q6 q7 (fun i hi => by rw [hv2.2]; exact isB_of (q9.2 i hi).1 (q9.2 i hi).2) (vJ0_init_db425_b_35 gk ⟨_, rfl, ?_, fun σ3 s3 => ⟨rfl, h σ3 ⟨?_, ?_, ?_, ?_, ⟨?_, ?_⟩, fun j hj => ?_⟩ ⟨fun q hq => ⟨?_, ?_, ?_, ?_, ?_⟩, ?_⟩⟩⟩)
      · show (if mz σ = mz σ2 then _ else mt σ2 (mz σ)).1 = 10
        rw [if_neg (by omega), s2]
        show (mt σ1 (mz σ)).1 = 10
        rw [ht1]
      · rw [s3]
        show (if mz σ = mz σ2 then _ else mt σ2 (mz σ)).1 = 10
        rw [if_neg (by omega), s2]
        show (mt σ1 (mz σ)).1 = 10
        rw [ht1]
      · rw [s3, hz2]; exact u2_s
      · rw [s3]
        show (if mz σ = mz σ2 then _ else (if mz σ = mz σ2 then 0 else mi σ2 (mz σ) 1)) = 0
        rw [if_neg (by omega), if_neg (by omega), s2]
        exact u2_s
      · rw [s3]
        show (if mz σ + 1 = mz σ2 then _ else _) = _
        rw [if_pos hz2.symm]
      · rw [s3]
        show mz σ < mz σ2 + 1
        omega
      · rw [s3]
        show mz σ + 1 < mz σ2 + 1
        omega
      · rw [s3]
        show (if mz σ + 1 = mz σ2 then va_cpy (fun j => if v = mz σ2 then 0 else mi σ2 v j) _ 0 0 n j else _) = t j
        rw [if_pos hz2.symm, pk_cpy_in (by omega) (by omega), if_neg (by omega), hv2.2, show 0 + (j - 0) = j by omega]
        exact (q9.1 j hj).1
      · rw [s3]
        funext k
        show (if q = mz σ2 then _ else (if q = mz σ2 then 0 else mi σ2 q k)) = mi σ q k
        rw [if_neg (by omega), if_neg (by omega), s2]
        show u2 (mi σ1) (mz σ) 1 0 q k = _
        rw [u2_a (by omega), s1]
        exact if_neg (by omega)
      · rw [s3]
        funext k
        show u2 (fun q j => if q = mz σ2 then none else mr σ2 q j) (mz σ) 0 _ q k = mr σ q k
        rw [u2_a (by omega), if_neg (by omega), s2]
        show mr σ1 q k = _
        rw [s1]
        exact if_neg (by omega)
      · rw [s3]
        funext k
        show (if q = mz σ2 then 0 else ml σ2 q k) = ml σ q k
        rw [if_neg (by omega), s2]
        show ml σ1 q k = _
        rw [s1]
        exact if_neg (by omega)
      · rw [s3]
        funext k
        show (if q = mz σ2 then 0 else md σ2 q k) = md σ q k
        rw [if_neg (by omega), s2]
        show md σ1 q k = _
        rw [s1]
        exact if_neg (by omega)
      · rw [s3]
        show (if q = mz σ2 then _ else mt σ2 q) = mt σ q
        rw [if_neg (by omega), s2]
        show mt σ1 q = _
        rw [s1]
        exact if_neg (by omega)
      · rw [s3]
        show mz σ ≤ mz σ2 + 1
        omega
    · obtain ⟨e, z⟩ := z
      cases e
      exact vJ0_init_81219_b_6 gk ⟨rfl, z⟩
  · obtain ⟨e, z⟩ := z
    cases e
    exact vJ4_toString_0e30d_b_8 gk z
end STRM
