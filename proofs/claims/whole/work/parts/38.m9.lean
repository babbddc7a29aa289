/-! ===== the model: questions with loops, statistics, undo, snapshots ===== -/
noncomputable def nth (p : Nat → Prop) (i : Nat) : Nat → Option Nat
  | 0 => none
  | n + 1 => @ite _ (p n ∧ cnt p n = i) (Classical.propDecidable _) (some n) (nth p i n)
theorem nth_t {p : Nat → Prop} {i n : Nat} (h : p n) (h2 : cnt p n = i) : nth p i (n + 1) = some n := by simp only [nth, h, h2, and_self, if_true]
theorem nth_f {p : Nat → Prop} {i n : Nat} (h : ¬ (p n ∧ cnt p n = i)) : nth p i (n + 1) = nth p i n := by simp only [nth, h, if_false]
theorem nth_lt {p : Nat → Prop} {i : Nat} : ∀ {n l : Nat}, nth p i n = some l → l < n ∧ p l ∧ cnt p l = i
  | 0, l, h => by simp [nth] at h
  | n + 1, l, h => by
    by_cases q : p n ∧ cnt p n = i
    · rw [nth_t q.1 q.2] at h
      cases h
      exact ⟨by omega, q⟩
    · rw [nth_f q] at h
      have := nth_lt h
      exact ⟨by omega, this.2⟩
theorem nth_ex {p : Nat → Prop} {i : Nat} : ∀ {n : Nat}, i < cnt p n → ∃ l, nth p i n = some l
  | 0, h => by simp [cnt] at h
  | n + 1, h => by
    by_cases q : p n ∧ cnt p n = i
    · exact ⟨n, nth_t q.1 q.2⟩
    · rw [nth_f q]
      refine nth_ex ?_
      by_cases hp : p n
      · rw [cnt_t hp] at h
        have : cnt p n ≠ i := fun z => q ⟨hp, z⟩
        omega
      · rw [cnt_f hp] at h; exact h
theorem nth_congr {p q : Nat → Prop} {i : Nat} : ∀ {n : Nat}, (∀ j, j < n → (p j ↔ q j)) → nth p i n = nth q i n
  | 0, _ => rfl
  | n + 1, h => by
    have ih := nth_congr (p := p) (q := q) (i := i) (n := n) fun j hj => h j (by omega)
    have e := cnt_congr (p := p) (q := q) (n := n) fun j hj => h j (by omega)
    by_cases z : p n ∧ cnt p n = i
    · rw [nth_t z.1 z.2, nth_t ((h n (by omega)).mp z.1) (by rw [← e]; exact z.2)]
    · rw [nth_f z, nth_f (fun y => z ⟨(h n (by omega)).mpr y.1, by rw [e]; exact y.2⟩), ih]
def nthV : Option Nat → Int32
  | none => 32
  | some l => nI (97 + l)
theorem i2c_nI {q : Nat} (h : q < 65536) : i2c (nI q) = nI q := by
  unfold i2c
  rw [pk_char, pk_tn (by omega), Nat.mod_eq_of_lt h]
theorem i2c_l {l : Nat} (h : l < 26) : i2c (nI (97 + l)) = nI (97 + l) := i2c_nI (by omega)
theorem inN {x : Int32} {n : Nat} (hn : n < 2 ^ 30) : (¬ x < 0 ∧ ¬ nI n - 1 < x) ↔ ∃ i : Nat, i < n ∧ x = nI i := by
  constructor
  · intro ⟨q1, q2⟩
    obtain ⟨i, hi, rfl⟩ := nI_of q1
    refine ⟨i, ?_, rfl⟩
    rcases Nat.eq_zero_or_pos n with h | h
    · subst h
      exfalso
      have h4 : nI i ≤ -1 := Int32.not_lt.mp q2
      rw [Int32.le_iff_toInt_le, nI_toInt hi] at h4
      have : ((-1 : Int32)).toInt = -1 := by decide
      omega
    · rw [show nI n - 1 = nI (n - 1) from pk_sub (b := 1) h, nI_ltI (by omega) hi] at q2
      omega
  · intro ⟨i, hi, e⟩
    subst e
    refine ⟨nI_pos (by omega), ?_⟩
    rw [show nI n - 1 = nI (n - 1) from pk_sub (b := 1) (by omega), nI_ltI (by omega) (by omega)]
    omega
section ML
variable {G : GG} {σ : Mm} {K : RES → Mm → Prop} {a : Nat}
def jP (P : Nat → Int32) (l : Nat) : Prop := P (8 + 3 * l) = 1
def eP (P : Nat → Int32) (k l : Nat) : Prop := P (eX k l) = 1
theorem kX9_jarAt_26 (gk : GOK G) (hM : MS σ a) {i : Nat} (hi : i < 2 ^ 30) {z : Int32} (hz : ¬ z = 0) (hk : K (.inl (some (vI (i2c (nthV (nth (jP (mi σ (a + 1))) i 26)))))) σ) : ∀ (d l : Nat), l + d = 26 → At G mX9_jarAt rX9_jarAt 0 0 26 [some (vR (some a)), some (vI (nI i)), some (vI z), some (vI (nthV (nth (jP (mi σ (a + 1))) i l))), some (vI (nI (cnt (jP (mi σ (a + 1))) l))), some (vI (nI (97 + l)))] [] σ K
  | 0, l, h => by
    obtain rfl : l = 26 := by omega
    exact vX9_jarAt_26 gk ⟨fun _ => ⟨isC_i2c _, hk⟩, fun q => absurd (by decide) q⟩
  | d + 1, l, h => by
    have ih := kX9_jarAt_26 gk hM hi hz hk d (l + 1) (by omega)
    have hc := cnt_le (jP (mi σ (a + 1))) l
    have hj : jrP (mi σ (a + 1)) (nI (97 + l)) ↔ jP (mi σ (a + 1)) l := jrP_l (by omega)
    have h2 : ∀ y : Option Nat, (nth (jP (mi σ (a + 1))) i (l + 1) = y) → At G mX9_jarAt rX9_jarAt 0 0 67 [some (vR (some a)), some (vI (nI i)), some (vI z), some (vI (nthV y)), some (vI (nI (cnt (jP (mi σ (a + 1))) l))), some (vI (nI (97 + l)))] [vI (bP (jrP (mi σ (a + 1)) (nI (97 + l)))), vI (nI (cnt (jP (mi σ (a + 1))) l))] σ K := fun y hy => by
      refine vX9_jarAt_67 gk ⟨fun q => ?_, fun q => ?_⟩
      · rw [hy, cnt_f (fun w => bP_0.mp q (hj.mpr w))] at ih
        rw [nx, nA0]; exact ih
      · rw [hy, cnt_t (hj.mp (bP_n q))] at ih
        rw [nx, nA1]; exact ih
    refine vX9_jarAt_26 gk ⟨fun q => absurd q (let_le (by omega)), fun _ => ⟨fun q => absurd q hz, fun _ => ⟨_, rfl, hM.ty, kX9_isJar gk hM (vX9_jarAt_43 gk ⟨fun q => ⟨_, rfl, hM.ty, kX9_isJar gk hM (h2 _ ?_)⟩, fun q => ⟨fun q2 => ⟨_, rfl, hM.ty, kX9_isJar gk hM (h2 _ ?_)⟩, fun q2 => ⟨_, rfl, hM.ty, kX9_isJar gk hM (h2 (some l) ?_)⟩⟩⟩)⟩⟩⟩
    · exact nth_f fun w => bP_0.mp q (hj.mpr w.1)
    · exact nth_f fun w => q2 (by rw [w.2])
    · exact nth_t (hj.mp (bP_n q)) ((nI_eq (by omega) (by omega)).mp q2)
theorem kX9_jarAt (gk : GOK G) (hM : MS σ a) {x : Int32} (h1 : ¬ (∃ i : Nat, i < jrN (mi σ (a + 1)) ∧ x = nI i) → ∀ z : Int32, isC z → K (.inl (some (vI z))) (th σ a 1)) (hk : ∀ i l : Nat, i < jrN (mi σ (a + 1)) → x = nI i → l < 26 → nth (jP (mi σ (a + 1))) i 26 = some l → K (.inl (some (vI (nI (97 + l))))) (th σ a 0)) : Runs G mX9_jarAt rX9_jarAt [vR (some a), vI x] σ K := by
  have hle : jrN (mi σ (a + 1)) ≤ 26 := cnt_le _ 26
  refine eX9_jarAt gk ⟨_, rfl, hM.ty, kX9_jars gk hM (vX9_jarAt_7 gk (kX9_in gk (vX9_jarAt_12 gk ⟨_, rfl, hM.ty, kX9_isThere gk hM (vX9_jarAt_15 gk ?_)⟩)))⟩
  by_cases q : ∃ i : Nat, i < jrN (mi σ (a + 1)) ∧ x = nI i
  · obtain ⟨i, hi, rfl⟩ := q
    have hq := (inN (by omega)).mpr ⟨i, hi, rfl⟩
    obtain ⟨l, hl⟩ := nth_ex (p := jP (mi σ (a + 1))) (n := 26) hi
    have hl2 := (nth_lt hl).1
    have h9 := hk i l hi rfl hl2 hl
    rw [bP_f (p := ¬ _) (fun z => z hq), bP_t hq]
    have := kX9_jarAt_26 gk (σ := th σ a 0) hM.th (K := K) (i := i) (z := 1) (by omega) (by decide) (by rw [th_1, hl]; show K (.inl (some (vI (i2c (nI (97 + l)))))) _; rw [i2c_l hl2]; exact h9) 26 0 rfl
    exact this
  · have hq : ¬ (¬ x < 0 ∧ ¬ nI (jrN (mi σ (a + 1))) - 1 < x) := fun z => q ((inN (by omega)).mp z)
    rw [bP_t (p := ¬ _) hq, bP_f hq]
    refine vX9_jarAt_26 gk ⟨fun w => absurd w (by decide), fun _ => ⟨fun _ => ⟨isC_i2c _, h1 q _ (isC_i2c _)⟩, fun w => absurd rfl w⟩⟩
theorem kX9_echoAt_46 (gk : GOK G) (hM : MS σ a) {i k : Nat} (hk4 : k < 4) (hi : i < 2 ^ 30) (hz : mi σ a 6 = 0) (hk : K (.inl (some (vI (i2c (nthV (nth (eP (mi σ (a + 1)) k) i 26)))))) σ) : ∀ (d l : Nat), l + d = 26 → At G mX9_echoAt rX9_echoAt 0 0 46 [some (vR (some a)), some (vI (nI k)), some (vI (nI i)), some (vI (nthV (nth (eP (mi σ (a + 1)) k) i l))), some (vI (nI (cnt (eP (mi σ (a + 1)) k) l))), some (vI (nI (97 + l)))] [] σ K
  | 0, l, h => by
    obtain rfl : l = 26 := by omega
    exact vX9_echoAt_46 gk ⟨fun _ => ⟨isC_i2c _, hk⟩, fun q => absurd (by decide) q⟩
  | d + 1, l, h => by
    have ih := kX9_echoAt_46 gk hM hk4 hi hz hk d (l + 1) (by omega)
    have hc := cnt_le (eP (mi σ (a + 1)) k) l
    have hj : ecP (mi σ (a + 1)) k (nI (97 + l)) ↔ eP (mi σ (a + 1)) k l := ecP_l (by omega)
    have h2 : ∀ y : Option Nat, (nth (eP (mi σ (a + 1)) k) i (l + 1) = y) → At G mX9_echoAt rX9_echoAt 0 0 92 [some (vR (some a)), some (vI (nI k)), some (vI (nI i)), some (vI (nthV y)), some (vI (nI (cnt (eP (mi σ (a + 1)) k) l))), some (vI (nI (97 + l)))] [vI (bP (ecP (mi σ (a + 1)) k (nI (97 + l)))), vI (nI (cnt (eP (mi σ (a + 1)) k) l))] σ K := fun y hy => by
      refine vX9_echoAt_92 gk ⟨fun q => ?_, fun q => ?_⟩
      · rw [hy, cnt_f (fun w => bP_0.mp q (hj.mpr w))] at ih
        rw [nx, nA0]; exact ih
      · rw [hy, cnt_t (hj.mp (bP_n q))] at ih
        rw [nx, nA1]; exact ih
    refine vX9_echoAt_46 gk ⟨fun q => absurd q (let_le (by omega)), fun _ => ⟨_, rfl, hM.ty, fun q => absurd hz q, fun _ => kX9_isEcho gk hM hk4 (vX9_echoAt_67 gk ⟨fun q => ⟨_, rfl, hM.ty, kX9_isEcho gk hM hk4 (h2 _ ?_)⟩, fun q => ⟨fun q2 => ⟨_, rfl, hM.ty, kX9_isEcho gk hM hk4 (h2 _ ?_)⟩, fun q2 => ⟨_, rfl, hM.ty, kX9_isEcho gk hM hk4 (h2 (some l) ?_)⟩⟩⟩)⟩⟩
    · exact nth_f fun w => bP_0.mp q (hj.mpr w.1)
    · exact nth_f fun w => q2 (by rw [w.2])
    · exact nth_t (hj.mp (bP_n q)) ((nI_eq (by omega) (by omega)).mp q2)
theorem th_6 {σ : Mm} {a : Nat} {t : Int32} : mi (th σ a t) a 6 = t := (congrFun sS_s 6).trans pk_us
theorem kX9_echoAt (gk : GOK G) (hM : MS σ a) {x y : Int32} (hB : shB (mi σ (a + 1))) (h1 : ¬ shP (mi σ (a + 1)) x → ∀ z : Int32, isC z → K (.inl (some (vI z))) (th σ a 1)) (h2 : ∀ k : Nat, k < 4 → x = nI k → nI k < mi σ (a + 1) 0 → ¬ (∃ i : Nat, i < ecN (mi σ (a + 1)) k ∧ y = nI i) → ∀ z : Int32, isC z → K (.inl (some (vI z))) (th σ a 2)) (hk : ∀ k i l : Nat, k < 4 → x = nI k → nI k < mi σ (a + 1) 0 → i < ecN (mi σ (a + 1)) k → y = nI i → l < 26 → nth (eP (mi σ (a + 1)) k) i 26 = some l → K (.inl (some (vI (nI (97 + l))))) (th σ a 0)) : Runs G mX9_echoAt rX9_echoAt [vR (some a), vI x, vI y] σ K := by
  have hf : ∀ (t : Int32), ¬ t = 0 → (∀ z : Int32, isC z → K (.inl (some (vI z))) (th σ a t)) → At G mX9_echoAt rX9_echoAt 0 0 46 [some (vR (some a)), some (vI x), some (vI y), some (vI 32), some (vI 0), some (vI 97)] [] (th σ a t) K := fun t ht h => vX9_echoAt_46 gk ⟨fun w => absurd w (by decide), fun _ => ⟨_, rfl, hM.ty, fun _ => ⟨isC_i2c _, h _ (isC_i2c _)⟩, fun q => absurd (th_6.symm.trans q) ht⟩⟩
  refine eX9_echoAt gk ⟨_, rfl, hM.ty, kX9_isShelf gk hM (vX9_echoAt_6 gk ⟨fun q => ⟨_, rfl, hM.ty, ?_⟩, fun q => ⟨_, rfl, hM.ty, fun σ1 e => ?_⟩⟩)⟩
  · obtain ⟨k, hk4, rfl, hk0⟩ := shP_k hB (bP_n q)
    have hle : ecN (mi σ (a + 1)) k ≤ 26 := cnt_le _ 26
    refine kX9_echoes gk hM hk4 (vX9_echoAt_20 gk (kX9_in gk (vX9_echoAt_25 gk ⟨fun q2 => ⟨_, rfl, hM.ty, fun σ1 e => ?_⟩, fun q2 => ⟨_, rfl, hM.ty, fun σ1 e => ?_⟩⟩)))
    · obtain ⟨i, hi, rfl⟩ := (inN (by omega)).mp (bP_n q2)
      obtain ⟨l, hl⟩ := nth_ex (p := eP (mi σ (a + 1)) k) (n := 26) hi
      have hl2 := (nth_lt hl).1
      have h9 := hk k i l hk4 rfl hk0 hi rfl hl2 hl
      rw [si_sS] at e
      subst e
      exact kX9_echoAt_46 gk (σ := th σ a 0) hM.th (i := i) hk4 (by omega) th_6 (by rw [th_1, hl]; show K (.inl (some (vI (i2c (nI (97 + l)))))) _; rw [i2c_l hl2]; exact h9) 26 0 rfl
    · rw [si_sS] at e
      subst e
      exact hf 2 (by decide) (h2 k hk4 rfl hk0 (fun z => bP_0.mp q2 ((inN (by omega)).mpr z)))
  · rw [si_sS] at e
    subst e
    exact hf 1 (by decide) (h1 (bP_0.mp q))
end ML
