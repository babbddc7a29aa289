/-! ===== the class: mean age, the order by hits, whether it is consistent ===== -/
section UC
variable {G : GG} {σ : Mm} {K : RES → Mm → Prop} {x b : Nat} {P : Nat → Int32}
/-- a row without echoes -/
theorem EN.z {L : List Nat} (h : EN (vE σ L)) {e : Nat} (he : e ∈ L) : mi σ e 0 = 0 := by
  have := (h.2 (nr 9 (mi σ e)) (List.mem_map.mpr ⟨e, he, rfl⟩)).1
  rw [nr_s (by omega)] at this
  exact this
theorem cntP_z {L : List Nat} (h : ∀ e, e ∈ L → mi σ e 0 = 0) : L.countP (isE σ) = 0 := by
  rw [List.countP_eq_zero]
  exact fun e he => by rw [isE_f.mpr (h e he)]; decide
theorem ageL_z {m : Int32} : ∀ L : List Nat, (∀ e, e ∈ L → mi σ e 0 = 0) → ageL σ m L = 0
  | [], _ => rfl
  | e :: L, h => by
    unfold ageL
    rw [if_pos (h e (List.mem_cons_self ..))]
    exact ageL_z L fun f hf => h f (List.mem_cons_of_mem _ hf)
theorem scnE_z {p : Int32} : ∀ L : List Nat, (∀ e, e ∈ L → mi σ e 0 = 0) → scnE σ p none L = none
  | [], _ => rfl
  | e :: L, h => by
    unfold scnE
    rw [if_pos (h e (List.mem_cons_self ..))]
    exact scnE_z L fun f hf => h f (List.mem_cons_of_mem _ hf)
theorem agL_n {n k : Nat} (hP : PI P n b) (hb : b < 2 ^ 21) (hk : k < n) {c : Nat} (hc : c ≤ 2 ^ 29) : ∀ l, l ≤ 26 → ∃ q, q ≤ c + l * b ∧ agL P k (nI c) l = nI q
  | 0, _ => ⟨c, by omega, rfl⟩
  | l + 1, hl => by
    obtain ⟨q, hq, e⟩ := agL_n hP hb hk hc l (by omega)
    unfold agL
    rw [e]
    have hmul : l * b ≤ 26 * b := Nat.mul_le_mul_right b (by omega)
    by_cases z : P (eX k l) = 1
    · rw [if_pos z]
      obtain ⟨-, a2, a3, -⟩ := (hP.2.2.2.2.1 k l hk (by omega)).2 z
      have h2 := hP.2.1.1
      have hd : (P 2 - P (eX k l + 2)).toInt = (P 2).toInt - (P (eX k l + 2)).toInt := sub_i (by have := h2.1; have := h2.2; omega) (by have := h2.1; have := h2.2; omega)
      have hnb : NB (P 2 - P (eX k l + 2)) b := ⟨by omega, by have := h2.2; omega⟩
      obtain ⟨t, ht, et⟩ := hnb.nI
      rw [et, nI_add]
      refine ⟨q + t, ?_, rfl⟩
      rw [Nat.add_mul]; omega
    · rw [if_neg z]
      refine ⟨q, ?_, rfl⟩
      rw [Nat.add_mul]; omega
theorem agS_n {n : Nat} (hP : PI P n b) (hb : b < 2 ^ 21) : ∀ k, k ≤ n → ∃ q, q ≤ k * (26 * b) ∧ agS P k = nI q
  | 0, _ => ⟨0, by omega, rfl⟩
  | k + 1, hk => by
    have hn := hP.1.1
    obtain ⟨q, hq, e⟩ := agS_n hP hb k (by omega)
    have hm : k * (26 * b) ≤ 4 * (26 * b) := Nat.mul_le_mul_right _ (by omega)
    unfold agS
    rw [e]
    obtain ⟨r, hr, e2⟩ := agL_n hP hb (k := k) (by omega) (c := q) (by omega) 26 (by omega)
    refine ⟨r, ?_, e2⟩
    rw [Nat.add_mul]; omega
theorem c_meanAge_19 (gk : GOK G) (hst : STR G) {n : Nat} {ω : List Nat} {ρ : Nat → List Nat} (hX : CS σ x) (hV : RV σ (x + 1) P b n ω ρ) (h1 : ecS P n = 0 → ∀ k, K (.inr "java/lang/ArithmeticException") (sk σ k)) (hk : 0 < ecS P n → vf_n64 (FP.ddiv (FP.i2d (agS P n)) (FP.i2d (nI (ecS P n)))) ∧ K (.inl (some (vD (FP.ddiv (FP.i2d (agS P n)) (FP.i2d (nI (ecS P n))))))) σ) : ∀ (d k : Nat), k + d = 4 → At G mX8_meanAge rX8_meanAge 0 0 19 [some (vR (some x)), some (vI (nI (ecS P (min k n)))), some (vI (agS P (min k n))), some (vR (some (x + 1 + 2))), some (vI (nI 4)), some (vI (nI k)), none] [] σ K
  | 0, k, h => by
    obtain rfl : k = 4 := by omega
    have hn := hV.n4
    have hle := ecS_le P n
    rw [show min 4 n = n by omega]
    refine vX8_meanAge_19 gk hst ⟨fun _ => ⟨fun z => ?_, fun z => h1 ?_⟩, fun z => absurd (Int32.le_refl _) z⟩
    · refine hk ?_
      rcases Nat.eq_zero_or_pos (ecS P n) with y | y
      · exact absurd (by rw [y]; rfl) z
      · exact y
    · exact (nI_eq (by omega) (by omega)).mp z
  | d + 1, k, h => by
    have ih := c_meanAge_19 gk hst hX hV h1 hk d (k + 1) (by omega)
    have hk4 : k < 4 := by omega
    have hs := hV.s.s hk4
    refine vX8_meanAge_19 gk hst ⟨fun z => absurd z (nI_ge (by omega) (by omega)), fun _ => ⟨_, rfl, 4, hV.s.t1, vp_in_nI hk4 (by omega), ?_⟩⟩
    rw [nI_clamp (by omega), hs.1]
    refine ⟨_, rfl, hs.2.1.ty, kX5_countEchoes gk hs.2.1 (vX8_meanAge_38 gk ⟨_, rfl, hX.1, _, hX.2.1, hV.s.ty, _, rfl, hs.2.1.ty, kX5_sumOfAges gk hs.2.1 (vX8_meanAge_53 gk ?_)⟩)⟩
    rw [nA1, nI_add, hV.g3]
    by_cases q : k < n
    · rw [(hV.ea q).count (hV.nd hk4), (hV.ea q).ages (hV.nd hk4), show min k n = k by omega]
      rw [show min (k + 1) n = k + 1 by omega] at ih
      exact ih
    · have hz : ∀ e, e ∈ ρ k → mi σ e 0 = 0 := fun e he => EN.z (hV.nn hk4 (by omega)).2 he
      rw [cntP_z hz, ageL_z _ hz, i_add0, Nat.add_zero, show min k n = n by omega]
      rw [show min (k + 1) n = n by omega] at ih
      exact ih
theorem c_meanAge (gk : GOK G) (hst : STR G) (hb : b < 2 ^ 21) (hX : CS σ x) (h : RS σ (x + 1) P b) {n : Nat} (h0 : P 0 = nI n) (hn : n ≤ 4) (h1 : ecS P n = 0 → ∀ k, K (.inr "java/lang/ArithmeticException") (sk σ k)) (hk : 0 < ecS P n → vf_n64 (FP.ddiv (FP.i2d (agS P n)) (FP.i2d (nI (ecS P n)))) → K (.inl (some (vD (FP.ddiv (FP.i2d (agS P n)) (FP.i2d (nI (ecS P n))))))) σ) : Runs G mX8_meanAge rX8_meanAge [vR (some x)] σ K := by
  obtain ⟨ω, ρ, n', m, hV, hW, hJ⟩ := id h
  have hn4 := hV.n4
  obtain rfl : n' = n := (nI_eq (by omega) (by omega)).mp (hV.p0.symm.trans h0)
  refine eX8_meanAge gk ⟨_, rfl, hX.1, _, hX.2.1, hV.s.ty, _, hV.s.r1, 4, hV.s.t1, ?_⟩
  rw [hV.s.r1]
  have hle := ecS_le P n'
  have := c_meanAge_19 gk hst hX hV h1 (fun z => ?_) 4 0 rfl
  · rw [Nat.zero_min] at this
    exact this
  · obtain ⟨q, hq, e⟩ := agS_n hV.pi hb n' (Nat.le_refl _)
    have hm : n' * (26 * b) ≤ 4 * (26 * b) := Nat.mul_le_mul_right _ (by omega)
    have hf : vf_n64 (FP.ddiv (FP.i2d (agS P n')) (FP.i2d (nI (ecS P n')))) := by
      rw [e]
      exact nn_d (by omega) (by omega) z
    exact ⟨hf, hk z hf⟩
theorem rk_iff {n i j : Nat} (hP : PI P n b) (hb : b < 2 ^ 29) (hi : i < n) (hj : j < n) : rkP P i j ↔ (htK P i).toInt < (htK P j).toInt ∨ ((htK P i).toInt = (htK P j).toInt ∧ j < i) := by
  have a := (hP.2.2.2.1 i hi).2.2.2.2.1
  have c := (hP.2.2.2.1 j hj).2.2.2.2.1
  have hd : (htK P j - htK P i).toInt = (htK P j).toInt - (htK P i).toInt := sub_i (by unfold htK; have := a.1; have := a.2; have := c.1; have := c.2; omega) (by unfold htK; have := a.1; have := a.2; have := c.1; have := c.2; omega)
  unfold rkP
  rw [Int32.lt_iff_toInt_lt, ← Int32.toInt_inj, hd]
  have e0 : (0 : Int32).toInt = 0 := rfl
  rw [e0]
  omega
theorem cnt_ltS {p q : Nat → Prop} : ∀ {n : Nat}, (∀ i, i < n → p i → q i) → (∃ i, i < n ∧ q i ∧ ¬ p i) → cnt p n < cnt q n
  | 0, _, ⟨i, hi, _⟩ => by omega
  | n + 1, h, ⟨i, hi, hq, hp⟩ => by
    have hle : ∀ m, m ≤ n + 1 → cnt p m ≤ cnt q m := fun m => by
      induction m with
      | zero => intro _; exact Nat.le_refl _
      | succ m ih =>
        intro hm
        have := ih (by omega)
        by_cases z : p m
        · rw [cnt_t z, cnt_t (h m (by omega) z)]; omega
        · rw [cnt_f z]
          by_cases w : q m
          · rw [cnt_t w]; omega
          · rw [cnt_f w]; omega
    by_cases z : i = n
    · subst z
      rw [cnt_f hp, cnt_t hq]
      have := hle i (by omega)
      omega
    · have ih := cnt_ltS (p := p) (q := q) (n := n) (fun j hj => h j (by omega)) ⟨i, by omega, hq, hp⟩
      by_cases w : p n
      · rw [cnt_t w, cnt_t (h n (by omega) w)]; omega
      · rw [cnt_f w]
        by_cases v : q n
        · rw [cnt_t v]; omega
        · rw [cnt_f v]; omega
theorem cnt_all : ∀ n, cnt (fun _ => True) n = n
  | 0 => rfl
  | n + 1 => by rw [cnt_t (p := fun _ => True) trivial, cnt_all n]
theorem rk_lt {n k : Nat} (hP : PI P n b) (hb : b < 2 ^ 29) (hk : k < n) : cnt (rkP P k) n < n := by
  have := cnt_ltS (p := rkP P k) (q := fun _ => True) (n := n) (fun _ _ _ => trivial) ⟨k, hk, trivial, fun z => by
    have := (rk_iff hP hb hk hk).mp z
    omega⟩
  rw [cnt_all] at this
  exact this
theorem rk_inj {n i j : Nat} (hP : PI P n b) (hb : b < 2 ^ 29) (hi : i < n) (hj : j < n) (hne : i ≠ j) : cnt (rkP P i) n ≠ cnt (rkP P j) n := by
  have key : ∀ i j, i < n → j < n → rkP P i j → cnt (rkP P j) n < cnt (rkP P i) n := fun i j hi hj hr => by
    have h1 := (rk_iff hP hb hi hj).mp hr
    refine cnt_ltS (fun o ho z => ?_) ⟨j, hj, hr, fun z => ?_⟩
    · have h2 := (rk_iff hP hb hj ho).mp z
      exact (rk_iff hP hb hi ho).mpr (by omega)
    · have := (rk_iff hP hb hj hj).mp z
      omega
  by_cases q : rkP P i j
  · have := key i j hi hj q; omega
  · have hq : ¬ ((htK P i).toInt < (htK P j).toInt ∨ ((htK P i).toInt = (htK P j).toInt ∧ j < i)) := fun z => q ((rk_iff hP hb hi hj).mpr z)
    have : rkP P j i := (rk_iff hP hb hj hi).mpr (by omega)
    have := key j i hj hi this; omega
theorem rk_ex {n r : Nat} (hP : PI P n b) (hb : b < 2 ^ 29) (hr : r < n) : ∃ k, k < n ∧ cnt (rkP P k) n = r := by
  have hn := hP.1.1
  refine Classical.byContradiction fun hno => ?_
  have h1 : ∀ k, k < n → cnt (rkP P k) n ≠ r := fun k hk z => hno ⟨k, hk, z⟩
  have h2 : ∀ k, k < n → cnt (rkP P k) n < n := fun k hk => rk_lt hP hb hk
  have h3 : ∀ i j, i < n → j < n → i ≠ j → cnt (rkP P i) n ≠ cnt (rkP P j) n := fun i j hi hj hne => rk_inj hP hb hi hj hne
  generalize (fun k => cnt (rkP P k) n) = f at *
  rcases (show n = 1 ∨ n = 2 ∨ n = 3 ∨ n = 4 by omega) with z | z | z | z <;> subst z
  · have := h1 0 (by omega); have := h2 0 (by omega); omega
  · have := h1 0 (by omega); have := h1 1 (by omega); have := h2 0 (by omega); have := h2 1 (by omega); have := h3 0 1 (by omega) (by omega) (by omega); omega
  · have := h1 0 (by omega); have := h1 1 (by omega); have := h1 2 (by omega); have := h2 0 (by omega); have := h2 1 (by omega); have := h2 2 (by omega); have := h3 0 1 (by omega) (by omega) (by omega); have := h3 0 2 (by omega) (by omega) (by omega); have := h3 1 2 (by omega) (by omega) (by omega); omega
  · have := h1 0 (by omega); have := h1 1 (by omega); have := h1 2 (by omega); have := h1 3 (by omega); have := h2 0 (by omega); have := h2 1 (by omega); have := h2 2 (by omega); have := h2 3 (by omega); have := h3 0 1 (by omega) (by omega) (by omega); have := h3 0 2 (by omega) (by omega) (by omega); have := h3 0 3 (by omega) (by omega) (by omega); have := h3 1 2 (by omega) (by omega) (by omega); have := h3 1 3 (by omega) (by omega) (by omega); have := h3 2 3 (by omega) (by omega) (by omega); omega
theorem sbh_at {n r k : Nat} (hP : PI P n b) (hb : b < 2 ^ 29) (hk : k < n) (hc : cnt (rkP P k) n = r) : ∀ m, k < m → m ≤ n → sbh P n r m = nI k
  | 0, h, _ => by omega
  | m + 1, h, hm => by
    unfold sbh
    by_cases z : m = k
    · subst z; rw [if_pos hc]
    · rw [if_neg (fun y => rk_inj hP hb (show m < n by omega) hk z (y.trans hc.symm))]
      exact sbh_at hP hb hk hc m (by omega) (by omega)
theorem kX6_rankByHits_11 (gk : GOK G) {st n k : Nat} {ω : List Nat} {ρ : Nat → List Nat} (hb : b < 2 ^ 29) (hV : RV σ st P b n ω ρ) (hk : k < n) (hK : K (.inl (some (vI (nI (cnt (rkP P k) n))))) σ) : ∀ (d i : Nat), i + d = 4 → At G mX6_rankByHits rX6_rankByHits 0 0 11 [some (vR (some st)), some (vI (nI k)), some (vR (some (st + 30 + 8 * k))), some (vI (nI (cnt (rkP P k) (min i n)))), some (vI (nI i)), none] [] σ K
  | 0, i, h => by
    obtain rfl : i = 4 := by omega
    have hn := hV.n4
    rw [show min 4 n = n by omega]
    exact vX6_rankByHits_11 gk ⟨_, rfl, hV.s.ty, _, hV.s.r1, 4, hV.s.t1, fun _ => hK, fun z => absurd (Int32.le_refl _) z⟩
  | d + 1, i, h => by
    have ih := kX6_rankByHits_11 gk hb hV hk hK d (i + 1) (by omega)
    have hn := hV.n4
    refine vX6_rankByHits_11 gk ⟨_, rfl, hV.s.ty, _, hV.s.r1, 4, hV.s.t1, fun z => absurd z (nI_ge (by omega) (by omega)), fun _ => cFindShelf gk hV (fun q => ?_) fun i' hi' e => ?_⟩
    · have hin : ¬ i < n := fun z => q (hV.sh z)
      rw [show min (i + 1) n = n by omega] at ih
      rw [show min i n = n by omega]
      refine vX6_rankByHits_27 gk ⟨fun z => (by cases z), fun a z => ⟨fun _ => ?_, fun a2 z2 => (by cases z2)⟩⟩
      rw [nA1]; exact ih
    · obtain rfl : i = i' := (nI_eq (by omega) (by omega)).mp e
      rw [show min (i + 1) n = i + 1 by omega] at ih
      rw [show min i n = i by omega]
      have hr := rk_iff hV.pi hb hk hi'
      refine vX6_rankByHits_27 gk ⟨fun z => (by cases z), fun a z => ⟨fun z => (by cases z), fun a2 z2 => ?_⟩⟩
      cases z; cases z2
      refine ⟨(hV.ss hi').ty, (hV.ss hk).ty, ?_⟩
      rw [hV.h5 hk, hV.h5 hi']
      show (htK P k < htK P i → _) ∧ (¬ htK P k < htK P i → (¬ htK P i = htK P k → _) ∧ (htK P i = htK P k → _))
      refine ⟨fun q => ?_, fun q => ⟨fun q2 => ?_, fun q2 => ⟨fun q3 => ?_, fun q3 => ?_⟩⟩⟩
      · rw [Int32.lt_iff_toInt_lt] at q
        rw [cnt_t (hr.mpr (Or.inl q))] at ih
        rw [nA1, nA1]; exact ih
      · rw [cnt_f (fun z => by
          rcases hr.mp z with y | y
          · exact q (Int32.lt_iff_toInt_lt.mpr y)
          · exact q2 (Int32.toInt_inj.mp y.1.symm))] at ih
        rw [nA1]; exact ih
      · have hki : k ≤ i := (nI_leI (by omega) (by omega)).mp q3
        rw [cnt_f (fun z => by
          rcases hr.mp z with y | y
          · exact q (Int32.lt_iff_toInt_lt.mpr y)
          · omega)] at ih
        rw [nA1]; exact ih
      · have hki : ¬ k ≤ i := fun z => q3 (nI_le z (by omega))
        rw [cnt_t (hr.mpr (Or.inr ⟨by rw [q2], by omega⟩))] at ih
        rw [nA1, nA1]; exact ih
theorem kX6_rankByHits (gk : GOK G) {st n k : Nat} {ω : List Nat} {ρ : Nat → List Nat} (hb : b < 2 ^ 29) (hV : RV σ st P b n ω ρ) (hk : k < n) (hK : K (.inl (some (vI (nI (cnt (rkP P k) n))))) σ) : Runs G mX6_rankByHits rX6_rankByHits [vR (some st), vI (nI k)] σ K := by
  have hn := hV.n4
  refine eX6_rankByHits gk ⟨_, rfl, hV.s.ty, cFindShelf gk hV (fun q => absurd (hV.sh hk) q) fun k' hk' e => vX6_rankByHits_5 gk ?_⟩
  obtain rfl : k = k' := (nI_eq (by omega) (by omega)).mp e
  have := kX6_rankByHits_11 gk hb hV hk hK 4 0 rfl
  rw [Nat.zero_min] at this
  exact this
theorem c_shelfByHits_2 (gk : GOK G) (hst : STR G) (hb : b < 2 ^ 29) (hX : CS σ x) {n : Nat} {ω : List Nat} {ρ : Nat → List Nat} (hV : RV σ (x + 1) P b n ω ρ) {s : Int32} (h1 : (∀ k, k < n → nI (cnt (rkP P k) n) ≠ s) → ∀ k, K (.inr "java/util/NoSuchElementException") (sk σ k)) (hk : ∀ k, k < n → nI (cnt (rkP P k) n) = s → K (.inl (some (vI (nI k)))) σ) : ∀ (d k : Nat), k + d = 4 → (∀ k', k' < k → k' < n → nI (cnt (rkP P k') n) ≠ s) → At G mX8_shelfByHits rX8_shelfByHits 0 0 2 [some (vR (some x)), some (vI s), some (vI (nI k))] [] σ K
  | 0, k, h, hno => by
    obtain rfl : k = 4 := by omega
    have hn := hV.n4
    exact vX8_shelfByHits_2 gk hst ⟨fun _ => h1 fun k hk => hno k (by omega) hk, fun z => absurd (by decide) z⟩
  | d + 1, k, h, hno => by
    have hn := hV.n4
    refine vX8_shelfByHits_2 gk hst ⟨fun z => absurd z (nI_ge (b := 4) (by omega) (by omega)), fun _ => ⟨_, rfl, hX.1, _, hX.2.1, hV.s.ty, ?_⟩⟩
    rw [hX.2.1]
    refine cFindShelf gk hV (fun q => vX8_shelfByHits_15 gk ⟨fun _ => ?_, fun a z => (by cases z)⟩) fun k' hk' e => vX8_shelfByHits_15 gk ⟨fun z => (by cases z), fun a z => ⟨_, rfl, hX.1, _, hX.2.1, hV.s.ty, ?_⟩⟩
    · rw [nA1]
      exact c_shelfByHits_2 gk hst hb hX hV h1 hk d (k + 1) (by omega) fun k' h1 h2 => by
        by_cases z : k' = k
        · subst z; exact absurd (hV.sh h2) q
        · exact hno k' (by omega) h2
    · obtain rfl : k = k' := (nI_eq (by omega) (by omega)).mp e
      rw [hX.2.1]
      refine kX6_rankByHits gk hb hV hk' (vX8_shelfByHits_26 gk ⟨fun q => ?_, fun q => hk k hk' q⟩)
      rw [nA1]
      exact c_shelfByHits_2 gk hst hb hX hV h1 hk d (k + 1) (by omega) fun k' h1 h2 => by
        by_cases z : k' = k
        · subst z; exact q
        · exact hno k' (by omega) h2
theorem c_shelfByHits (gk : GOK G) (hst : STR G) (hb : b < 2 ^ 29) (hX : CS σ x) (h : RS σ (x + 1) P b) {s : Int32} {n : Nat} (h0 : P 0 = nI n) (hn : n ≤ 4) (h1 : ¬ shP P s → ∀ k, K (.inr "java/util/NoSuchElementException") (sk σ k)) (hk : ∀ r : Nat, r < n → s = nI r → K (.inl (some (vI (sbh P n r n)))) σ) : Runs G mX8_shelfByHits rX8_shelfByHits [vR (some x), vI s] σ K := by
  obtain ⟨ω, ρ, n', m, hV, hW, hJ⟩ := id h
  have hn4 := hV.n4
  obtain rfl : n' = n := (nI_eq (by omega) (by omega)).mp (hV.p0.symm.trans h0)
  refine eX8_shelfByHits gk (c_shelfByHits_2 gk hst hb hX hV (fun hno => ?_) (fun k hkn e => ?_) 4 0 rfl fun k' hk' => by omega)
  · refine h1 fun z => ?_
    obtain ⟨r, hr, e⟩ := hV.shk z
    obtain ⟨k, hk2, hc⟩ := rk_ex hV.pi hb hr
    exact hno k hk2 (by rw [hc, e])
  · have hlt := rk_lt hV.pi hb hkn
    have := hk _ hlt e.symm
    rw [sbh_at hV.pi hb hkn rfl n' hkn (Nat.le_refl _)] at this
    exact this
theorem kX6_isSound (gk : GOK G) {st n k l e : Nat} {ω : List Nat} {ρ : Nat → List Nat} (hV : RV σ st P b n ω ρ) (hJ : EJ P n) (hkn : k < n) (hl : l < 26) (hp : P (eX k l) = 1) (hem : e ∈ ρ k) (e1 : mi σ e 1 = nI (97 + l)) (hv : eV (vJ σ st) P k l (mi σ e)) (hK : K (.inl (some (vI 1))) σ) : Runs G mX6_isSound rX6_isSound [vR (some st), vR (some e)] σ K := by
  have hte := (hV.ss hkn).e hem
  have hjt := (hV.s.j hl).2
  refine eX6_isSound gk ⟨_, rfl, hV.s.ty, kX6_isTrueByCount gk hV hJ hkn hl hp hem e1 hv (vX6_isSound_5 gk ⟨_, rfl, hV.s.ty, kX6_isTrueByOrder gk hV hJ hkn hl hp hem e1 hv (vX6_isSound_10 gk ⟨fun _ => ⟨_, rfl, hte, _, rfl, hV.s.ty, ?_⟩, fun z => absurd rfl z⟩)⟩)⟩
  rw [e1]
  refine cFindJar gk hV (isC_nI (by omega)) (fun q => absurd ((jrP_l hl).mpr (hJ k l hkn hl hp)) q) fun l' hl' el _ => ?_
  obtain rfl := nIl_inj hl hl' el
  refine vX6_isSound_23 gk ⟨_, rfl, hV.s.ty, kX6_isTrueByCount gk hV hJ hkn hl hp hem e1 hv (vX6_isSound_29 gk ⟨fun _ => hK, fun q => ⟨fun z => (by cases z), fun a z => ?_⟩⟩)⟩
  cases z
  refine ⟨hjt, _, rfl, hte, fun z => ?_, fun _ => hK⟩
  exfalso
  rw [hV.j1 hl, hv.2.1] at z
  exact z ((((hV.pi.2.2.2.2.1 k l hkn hl).2 hp).2.2.2.2.2.2.2.2.2 (bP_n q)).symm)
theorem c_isConsistent_66 (gk : GOK G) (hX : CS σ x) {n k : Nat} {ω : List Nat} {ρ : Nat → List Nat} (hV : RV σ (x + 1) P b n ω ρ) (hJ : EJ P n) (hk4 : k < 4) (hK : At G mX8_isConsistent rX8_isConsistent 0 0 13 [some (vR (some x)), some (vR (some (x + 1 + 2))), some (vI (nI 4)), some (vI (nI (k + 1))), none, none, none, none, none] [] σ K) : ∀ (d i : Nat), i + d = 6 → At G mX8_isConsistent rX8_isConsistent 0 0 66 [some (vR (some x)), some (vR (some (x + 1 + 2))), some (vI (nI 4)), some (vI (nI k)), some (vR (some (x + 1 + 30 + 8 * k))), some (vR (some (x + 1 + 30 + 8 * k + 1))), some (vI (nI 6)), some (vI (nI i)), none] [] σ K
  | 0, i, h => by
    obtain rfl : i = 6 := by omega
    refine vX8_isConsistent_66 gk ⟨fun _ => ?_, fun z => absurd (Int32.le_refl _) z⟩
    rw [nA1]; exact hK
  | d + 1, i, h => by
    have ih := c_isConsistent_66 gk hX hV hJ hk4 hK d (i + 1) (by omega)
    have hs := (hV.s.s hk4).2.1
    have hLi : (ρ k)[i]? = some ((ρ k)[i]'(by rw [hs.l]; omega)) := List.getElem?_eq_getElem _
    generalize (ρ k)[i]'(by rw [hs.l]; omega) = e at hLi
    have hem := List.mem_of_getElem? hLi
    refine vX8_isConsistent_66 gk ⟨fun z => absurd z (nI_ge (by omega) (by omega)), fun _ => ⟨_, rfl, 6, hs.t, vp_in_nI (by omega) (by omega), ?_⟩⟩
    rw [nI_clamp (by omega), hs.at hLi]
    refine ⟨e, rfl, hs.e hem, fun _ => by rw [nA1]; exact ih, fun q => ⟨_, rfl, hX.1, _, hX.2.1, hV.s.ty, ?_⟩⟩
    rw [hX.2.1]
    by_cases hkn : k < n
    · have hEA := hV.ea hkn
      obtain ⟨l, hl, e1, hv⟩ := hEA.2.2.1 e hem ((hEA.one hem).mp q)
      refine kX6_isSound gk hV hJ hkn hl hv.1 hem e1 hv (vX8_isConsistent_97 gk ⟨fun _ => ?_, fun z => absurd z (by decide)⟩)
      rw [nA1]; exact ih
    · exact absurd (EN.z (hV.nn hk4 (by omega)).2 hem) q
theorem c_isConsistent_13 (gk : GOK G) (hb : b < 2 ^ 29) (hX : CS σ x) {n : Nat} {ω : List Nat} {ρ : Nat → List Nat} (hV : RV σ (x + 1) P b n ω ρ) (hJ : EJ P n) (hK : K (.inl (some (vI 1))) σ) : ∀ (d k : Nat), k + d = 4 → At G mX8_isConsistent rX8_isConsistent 0 0 13 [some (vR (some x)), some (vR (some (x + 1 + 2))), some (vI (nI 4)), some (vI (nI k)), none, none, none, none, none] [] σ K
  | 0, k, h => by
    obtain rfl : k = 4 := by omega
    exact vX8_isConsistent_13 gk ⟨fun _ => hK, fun z => absurd (Int32.le_refl _) z⟩
  | d + 1, k, h => by
    have ih := c_isConsistent_13 gk hb hX hV hJ hK d (k + 1) (by omega)
    have hk4 : k < 4 := by omega
    have hs := hV.s.s hk4
    obtain ⟨e, L, hL⟩ := l_cons hs.2.1.l
    have hscan : scnE σ (mi σ (x + 1 + 30 + 8 * k) 3) none (ρ k) = if mi σ e 0 = 0 then none else some e := by
      by_cases q : k < n
      · rw [hL]; exact (hV.first hb q hL).2.2
      · have hz : ∀ f, f ∈ ρ k → mi σ f 0 = 0 := fun f hf => EN.z (hV.nn hk4 (by omega)).2 hf
        rw [scnE_z _ hz, if_pos (hz e (by rw [hL]; exact List.mem_cons_self ..))]
    have hcnt : nI ((ρ k).countP (isE σ)) ≤ mi σ (x + 1 + 30 + 8 * k) 1 := by
      by_cases q : k < n
      · rw [(hV.ea q).count (hV.nd hk4), hV.h1 q, Int32.le_iff_toInt_le]
        have := (hV.pi.2.2.2.1 k q).2.2.2.2.2
        have h26 := cnt_le (fun l => P (eX k l) = 1) 26
        rw [nI_toInt (show ecN P k < 2 ^ 31 by unfold ecN; omega)]
        exact this
      · rw [cntP_z fun f hf => EN.z (hV.nn hk4 (by omega)).2 hf]
        have := (hV.nn hk4 (by omega)).1.2.1
        unfold vH at this
        rw [nr_s (by omega)] at this
        rw [this]
        exact Int32.le_refl _
    refine vX8_isConsistent_13 gk ⟨fun z => absurd z (nI_ge (by omega) (by omega)), fun _ => ⟨_, rfl, 4, hV.s.t1, vp_in_nI hk4 (by omega), ?_⟩⟩
    rw [nI_clamp (by omega), hs.1]
    refine ⟨_, rfl, hs.2.1.ty, kX5_firstInOrder gk (x := e) (R := L) (by rw [← hL]; exact hs.2.1) (vX8_isConsistent_28 gk ⟨_, rfl, hs.2.1.ty, kX5_firstByScan gk hs.2.1 ?_⟩)⟩
    rw [hscan]
    refine vX8_isConsistent_33 gk ⟨fun z => absurd rfl z, fun _ => ⟨_, rfl, hs.2.1.ty, kX5_countEchoes gk hs.2.1 (vX8_isConsistent_41 gk ⟨_, rfl, hs.2.1.ty, fun _ => ⟨_, hs.2.1.r, 6, hs.2.1.t, ?_⟩, fun z => absurd hcnt z⟩)⟩⟩
    rw [hs.2.1.r]
    exact c_isConsistent_66 gk hX hV hJ hk4 ih 6 0 rfl
theorem c_isConsistent (gk : GOK G) (hb : b < 2 ^ 29) (hX : CS σ x) (h : RS σ (x + 1) P b) (hK : K (.inl (some (vI 1))) σ) : Runs G mX8_isConsistent rX8_isConsistent [vR (some x)] σ K := by
  obtain ⟨ω, ρ, n, m, hV, hW, hJ⟩ := h
  refine eX8_isConsistent gk ⟨_, rfl, hX.1, _, hX.2.1, hV.s.ty, _, hV.s.r1, 4, hV.s.t1, ?_⟩
  rw [hV.s.r1]
  exact c_isConsistent_13 gk hb hX hV hJ hK 4 0 rfl
end UC
