/-! ===== the model: echoes ===== -/
theorem lit (n : Nat) : (OfNat.ofNat n : Int32) = nI n := rfl
theorem ix_echo (k l : Nat) : (86 : Int32) + (187 : Int32) * nI k + (5 : Int32) + (7 : Int32) * (nI (97 + l) - (97 : Int32)) = nI (91 + 187 * k + 7 * l) := by
  rw [show (97 : Int32) = nI 97 from rfl, pk_sub (by omega), show (86 : Int32) = nI 86 from rfl, show (187 : Int32) = nI 187 from rfl, show (5 : Int32) = nI 5 from rfl, show (7 : Int32) = nI 7 from rfl, pk_mul, pk_mul, nI_add, nI_add, nI_add]
  congr 1; omega
theorem ix_shelf (k j : Nat) : (86 : Int32) + (187 : Int32) * nI k + nI j = nI (86 + 187 * k + j) := by
  rw [show (86 : Int32) = nI 86 from rfl, show (187 : Int32) = nI 187 from rfl, pk_mul, nI_add, nI_add]
theorem ix_add (n : Nat) (j : Nat) : nI n + nI j = nI (n + j) := nI_add n j
/-- how many of the first n are so -/
noncomputable def cnt (p : Nat → Prop) : Nat → Nat
  | 0 => 0
  | n + 1 => cnt p n + @ite Nat (p n) (Classical.propDecidable _) 1 0
theorem cnt_t {p : Nat → Prop} {n : Nat} (h : p n) : cnt p (n + 1) = cnt p n + 1 := by simp [cnt, h]
theorem cnt_f {p : Nat → Prop} {n : Nat} (h : ¬ p n) : cnt p (n + 1) = cnt p n := by simp [cnt, h]
theorem cnt_le (p : Nat → Prop) : ∀ n, cnt p n ≤ n
  | 0 => Nat.le_refl _
  | n + 1 => by
    have := cnt_le p n
    by_cases h : p n
    · rw [cnt_t h]; omega
    · rw [cnt_f h]; omega
theorem cnt_ex {p : Nat → Prop} : ∀ {n : Nat}, 0 < cnt p n → ∃ i, i < n ∧ p i
  | 0, h => by simp [cnt] at h
  | n + 1, h => by
    by_cases hp : p n
    · exact ⟨n, by omega, hp⟩
    · rw [cnt_f hp] at h
      obtain ⟨i, hi, q⟩ := cnt_ex h
      exact ⟨i, by omega, q⟩
theorem cnt_congr {p q : Nat → Prop} : ∀ {n : Nat}, (∀ i, i < n → (p i ↔ q i)) → cnt p n = cnt q n
  | 0, _ => rfl
  | n + 1, h => by
    have ih := cnt_congr (p := p) (q := q) (n := n) fun i hi => h i (by omega)
    by_cases hp : p n
    · rw [cnt_t hp, cnt_t ((h n (by omega)).mp hp), ih]
    · rw [cnt_f hp, cnt_f (fun z => hp ((h n (by omega)).mpr z)), ih]
/-- an echo's place j, for the letter l on the shelf k; a shelf's place j -/
def eX (k l : Nat) : Nat := 91 + 187 * k + 7 * l
/-- there is an echo of this letter on the shelf k -/
def ecP (P : Nat → Int32) (k : Nat) (x : Int32) : Prop := ∃ l : Nat, l < 26 ∧ x = nI (97 + l) ∧ P (eX k l) = 1
theorem ecP_l {P : Nat → Int32} {k l : Nat} (hl : l < 26) : ecP P k (nI (97 + l)) ↔ P (eX k l) = 1 := ⟨fun ⟨m, hm, e, h⟩ => by rw [nIl_inj hl hm e]; exact h, fun h => ⟨l, hl, rfl, h⟩⟩
noncomputable def ecN (P : Nat → Int32) (k : Nat) : Nat := cnt (fun l => P (eX k l) = 1) 26
noncomputable def jrN (P : Nat → Int32) : Nat := cnt (fun l => P (8 + 3 * l) = 1) 26
/-- x is the number of a shelf -/
def shP (P : Nat → Int32) (x : Int32) : Prop := ¬ x < 0 ∧ ¬ P 0 - 1 < x
def byM (P : Nat → Int32) (k l m : Nat) : Int32 := if P (86 + 187 * k + 2) = 114 then P (eX k m + 4) - P (eX k l + 4) else if P (86 + 187 * k + 2) = 108 then P (eX k m + 5) - P (eX k l + 5) else 0
/-- the echo of l goes ahead of that of m -/
def gF (P : Nat → Int32) (k l m : Nat) : Prop := 0 < byM P k l m ∨ (byM P k l m = 0 ∧ P (eX k l + 3) < P (eX k m + 3))
noncomputable def vcN (P : Nat → Int32) (k : Nat) : Nat → Option Nat
  | 0 => none
  | n + 1 => @ite _ (P (eX k n) = 1) (Classical.propDecidable _) (match vcN P k n with
    | none => some n
    | some b => @ite _ (gF P k n b) (Classical.propDecidable _) (some n) (some b)) (vcN P k n)
def vcI : Option Nat → Int32
  | none => -1
  | some l => nI (97 + l)
theorem vcN_lt {P : Nat → Int32} {k : Nat} : ∀ {n b : Nat}, vcN P k n = some b → b < n ∧ P (eX k b) = 1
  | 0, b, h => by simp [vcN] at h
  | n + 1, b, h => by
    unfold vcN at h
    by_cases he : P (eX k n) = 1
    · simp only [he, if_true] at h
      cases hv : vcN P k n with
      | none =>
        rw [hv] at h
        cases h
        exact ⟨by omega, he⟩
      | some c =>
        rw [hv] at h
        have ih := vcN_lt hv
        by_cases hg : gF P k n c
        · simp only [hg, if_true] at h
          cases h
          exact ⟨by omega, he⟩
        · simp only [hg, if_false] at h
          cases h
          exact ⟨by omega, ih.2⟩
    · simp only [he, if_false] at h
      have ih := vcN_lt h
      exact ⟨by omega, ih.2⟩
theorem vcN_none {P : Nat → Int32} {k : Nat} : ∀ {n : Nat}, vcN P k n = none → cnt (fun l => P (eX k l) = 1) n = 0
  | 0, _ => rfl
  | n + 1, h => by
    unfold vcN at h
    by_cases he : P (eX k n) = 1
    · exfalso
      simp only [he, if_true] at h
      cases hv : vcN P k n with
      | none => rw [hv] at h; cases h
      | some c =>
        rw [hv] at h
        by_cases hg : gF P k n c
        · simp only [hg, if_true] at h; cases h
        · simp only [hg, if_false] at h; cases h
    · simp only [he, if_false] at h
      rw [cnt_f he]
      exact vcN_none h
section ME
variable {G : GG} {σ : Mm} {K : RES → Mm → Prop} {a k : Nat}
theorem vin {n : Nat} (h : n < 858) : vp_in (nI n) 858 := vp_in_nI h (by omega)
theorem kX9_echo (gk : GOK G) {l : Nat} (hk : K (.inl (some (vI (nI (eX k l))))) σ) : Runs G mX9_echo rX9_echo [vI (nI k), vI (nI (97 + l))] σ K := by
  refine eX9_echo gk ?_
  rw [ix_echo]; exact hk
theorem kX9_of (gk : GOK G) (hM : MS σ a) {j : Nat} (h : 86 + 187 * k + j < 858) (hk : K (.inl (some (vI (mi σ (a + 1) (86 + 187 * k + j))))) σ) : Runs G mX9_of rX9_of [vR (some a), vI (nI k), vI (nI j)] σ K := by
  refine eX9_of gk ⟨a, rfl, hM.ty, a + 1, hM.r0, 858, hM.t0, ?_⟩
  rw [ix_shelf, nI_clamp (by omega)]
  exact ⟨vin h, hk⟩
theorem kX9_isShelf (gk : GOK G) (hM : MS σ a) {x : Int32} (hk : K (.inl (some (vI (bP (shP (mi σ (a + 1)) x))))) σ) : Runs G mX9_isShelf rX9_isShelf [vR (some a), vI x] σ K := by
  refine eX9_isShelf gk ⟨a, rfl, hM.ty, a + 1, hM.r0, 858, hM.t0, vin (n := 0) (by omega), kX9_in gk (vX9_isShelf_13 gk ⟨bP_z _, hk⟩)⟩
theorem kX9_isEcho (gk : GOK G) (hM : MS σ a) (hk4 : k < 4) {x : Int32} (hk : K (.inl (some (vI (bP (ecP (mi σ (a + 1)) k x))))) σ) : Runs G mX9_isEcho rX9_isEcho [vR (some a), vI (nI k), vI x] σ K := by
  refine eX9_isEcho gk (kX9_isLetter gk (vX9_isEcho_4 gk ⟨fun h => ?_, fun h => ?_⟩))
  · rw [bP_f (fun ⟨l, q1, q2, _⟩ => bP_0.mp h ⟨l, q1, q2⟩)] at hk; exact hk
  · have h1 : isL x := by
      by_cases q : isL x
      · exact q
      · exact absurd (bP_f q) h
    obtain ⟨l, hl, rfl⟩ := h1
    refine ⟨a, rfl, hM.ty, kX9_echo gk (vX9_isEcho_16 gk ⟨a + 1, hM.r0, 858, hM.t0, vin (by unfold eX; omega), ?_⟩)⟩
    rw [nI_clamp (by unfold eX; omega)]
    rw [bP_iff (ecP_l hl)] at hk
    exact ⟨fun q => by rw [bP_f q] at hk; exact hk, fun q => by rw [bP_t q] at hk; exact hk⟩
theorem nx {l : Nat} : nI (97 + l) + 1 = nI (97 + (l + 1)) := nI_1 (97 + l)
theorem kX9_jars_5 (gk : GOK G) (hM : MS σ a) (hk : K (.inl (some (vI (nI (jrN (mi σ (a + 1))))))) σ) : ∀ (d l : Nat), l + d = 26 → At G mX9_jars rX9_jars 0 0 5 [some (vR (some a)), some (vI (nI (cnt (fun l => mi σ (a + 1) (8 + 3 * l) = 1) l))), some (vI (nI (97 + l)))] [] σ K
  | 0, l, h => by
    obtain rfl : l = 26 := by omega
    refine vX9_jars_5 gk ⟨fun _ => hk, fun q => absurd ?_ q⟩
    decide
  | d + 1, l, h => by
    have ih := kX9_jars_5 gk hM hk d (l + 1) (by omega)
    refine vX9_jars_5 gk ⟨fun q => absurd q (let_le (by omega)), fun _ => ⟨a, rfl, hM.ty, kX9_isJar gk hM (vX9_jars_17 gk ⟨fun q => ?_, fun q => ?_⟩)⟩⟩
    · rw [cnt_f (fun z => bP_0.mp q ((jrP_l (by omega)).mpr z))] at ih
      rw [nx, show (0 : Int32) = nI 0 from rfl, nI_add]
      exact ih
    · have hp : mi σ (a + 1) (8 + 3 * l) = 1 := by
        by_cases z : mi σ (a + 1) (8 + 3 * l) = 1
        · exact z
        · exact absurd (bP_f (fun y => z ((jrP_l (by omega)).mp y))) q
      rw [cnt_t hp] at ih
      rw [nx, show (1 : Int32) = nI 1 from rfl, nI_add]
      exact ih
theorem kX9_jars (gk : GOK G) (hM : MS σ a) (hk : K (.inl (some (vI (nI (jrN (mi σ (a + 1))))))) σ) : Runs G mX9_jars rX9_jars [vR (some a)] σ K := eX9_jars gk (kX9_jars_5 gk hM hk 26 0 rfl)
theorem kX9_echoes_5 (gk : GOK G) (hM : MS σ a) (hk4 : k < 4) (hk : K (.inl (some (vI (nI (ecN (mi σ (a + 1)) k))))) σ) : ∀ (d l : Nat), l + d = 26 → At G mX9_echoes rX9_echoes 0 0 5 [some (vR (some a)), some (vI (nI k)), some (vI (nI (cnt (fun l => mi σ (a + 1) (eX k l) = 1) l))), some (vI (nI (97 + l)))] [] σ K
  | 0, l, h => by
    obtain rfl : l = 26 := by omega
    refine vX9_echoes_5 gk ⟨fun _ => hk, fun q => absurd ?_ q⟩
    decide
  | d + 1, l, h => by
    have ih := kX9_echoes_5 gk hM hk4 hk d (l + 1) (by omega)
    refine vX9_echoes_5 gk ⟨fun q => absurd q (let_le (by omega)), fun _ => ⟨a, rfl, hM.ty, kX9_isEcho gk hM hk4 (vX9_echoes_18 gk ⟨fun q => ?_, fun q => ?_⟩)⟩⟩
    · rw [cnt_f (fun z => bP_0.mp q ((ecP_l (by omega)).mpr z))] at ih
      rw [nx, show (0 : Int32) = nI 0 from rfl, nI_add]
      exact ih
    · have hp : mi σ (a + 1) (eX k l) = 1 := by
        by_cases z : mi σ (a + 1) (eX k l) = 1
        · exact z
        · exact absurd (bP_f (fun y => z ((ecP_l (by omega)).mp y))) q
      rw [cnt_t hp] at ih
      rw [nx, show (1 : Int32) = nI 1 from rfl, nI_add]
      exact ih
theorem kX9_echoes (gk : GOK G) (hM : MS σ a) (hk4 : k < 4) (hk : K (.inl (some (vI (nI (ecN (mi σ (a + 1)) k))))) σ) : Runs G mX9_echoes rX9_echoes [vR (some a), vI (nI k)] σ K := eX9_echoes gk (kX9_echoes_5 gk hM hk4 hk 26 0 rfl)
theorem kX9_age (gk : GOK G) (hM : MS σ a) (hk4 : k < 4) {l : Nat} (hl : l < 26) (hk : K (.inl (some (vI (mi σ (a + 1) 2 - mi σ (a + 1) (eX k l + 2))))) σ) : Runs G mX9_age rX9_age [vR (some a), vI (nI k), vI (nI (97 + l))] σ K := by
  refine eX9_age gk ⟨a, rfl, hM.ty, a + 1, hM.r0, 858, hM.t0, vin (n := 2) (by omega), kX9_echo gk (vX9_age_15 gk ⟨a + 1, hM.r0, 858, hM.t0, ?_⟩)⟩
  rw [show (2 : Int32) = nI 2 from rfl, nI_add, nI_clamp (n := 2) (by omega), nI_clamp (n := eX k l + 2) (by unfold eX; omega)]
  exact ⟨vin (by unfold eX; omega), hk⟩
/-- the echo of l on k is expired -/
def ovP (P : Nat → Int32) (k l : Nat) : Prop := ¬ P 2 - P (eX k l + 2) < P (86 + 187 * k + 1)
theorem kX9_isOver (gk : GOK G) (hM : MS σ a) (hk4 : k < 4) {l : Nat} (hl : l < 26) (hk : K (.inl (some (vI (bP (ovP (mi σ (a + 1)) k l))))) σ) : Runs G mX9_isOver rX9_isOver [vR (some a), vI (nI k), vI (nI (97 + l))] σ K := by
  refine eX9_isOver gk ⟨a, rfl, hM.ty, kX9_age gk hM hk4 hl (vX9_isOver_6 gk ⟨a, rfl, hM.ty, kX9_of (j := 1) gk hM (by omega) (vX9_isOver_12 gk ⟨fun q => ?_, fun q => ?_⟩)⟩)⟩
  · rw [bP_f (show ¬ ovP (mi σ (a + 1)) k l from fun z => z q)] at hk; exact hk
  · rw [bP_t (show ovP (mi σ (a + 1)) k l from q)] at hk; exact hk
end ME
