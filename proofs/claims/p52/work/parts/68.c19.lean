/-! ===== the class: a warming planned ===== -/
theorem wsP_ok {m : Int32} : ∀ (n : Nat) (Q : Nat → Int32), (wsP m n Q).1 ≤ n ∧ (∀ j, j < 834 + 3 * (wsP m n Q).1 → (wsP m n Q).2 j = Q j) ∧ (∀ j, 834 + 3 * n + 3 ≤ j → (wsP m n Q).2 j = Q j) ∧ (∀ j, 834 + 3 * (wsP m n Q).1 ≤ j → j < 834 + 3 * n → (wsP m n Q).2 (j + 3) = Q j) ∧ (∀ i, (wsP m n Q).1 ≤ i → i < n → ¬ Q (834 + 3 * i) ≤ m) ∧ ((wsP m n Q).1 = 0 ∨ Q (834 + 3 * ((wsP m n Q).1 - 1)) ≤ m)
  | 0, Q => ⟨Nat.le_refl _, fun _ _ => rfl, fun _ _ => rfl, fun j h1 h2 => by omega, fun i h1 h2 => by omega, Or.inl rfl⟩
  | i + 1, Q => by
    unfold wsP
    by_cases q : Q (834 + 3 * i) ≤ m
    · rw [if_pos q]
      exact ⟨Nat.le_refl _, fun _ _ => rfl, fun _ _ => rfl, fun j h1 h2 => by omega, fun t h1 h2 => by omega, Or.inr (by rw [Nat.add_sub_cancel]; exact q)⟩
    · rw [if_neg q]
      have ho : ∀ j, j < 834 + 3 * (i + 1) ∨ 834 + 3 * (i + 1) + 3 ≤ j → va_cpy Q Q (834 + 3 * i) (834 + 3 * (i + 1)) 3 j = Q j := fun j hj => pk_cpy_out hj
      have hin : ∀ j, 834 + 3 * i ≤ j → j < 834 + 3 * i + 3 → va_cpy Q Q (834 + 3 * i) (834 + 3 * (i + 1)) 3 (j + 3) = Q j := fun j h1 h2 => by
        rw [pk_cpy_in (by omega) (by omega), show 834 + 3 * i + (j + 3 - (834 + 3 * (i + 1))) = j by omega]
      obtain ⟨a1, a2, a3, a4, a5, a6⟩ := wsP_ok (m := m) i (va_cpy Q Q (834 + 3 * i) (834 + 3 * (i + 1)) 3)
      generalize wsP m i (va_cpy Q Q (834 + 3 * i) (834 + 3 * (i + 1)) 3) = r at *
      refine ⟨by omega, fun j hj => ?_, fun j hj => ?_, fun j h1 h2 => ?_, fun t h1 h2 => ?_, ?_⟩
      · rw [a2 j hj, ho j (by omega)]
      · rw [a3 j (by omega), ho j (by omega)]
      · by_cases z : j < 834 + 3 * i
        · rw [a4 j h1 z, ho j (by omega)]
        · rw [a3 (j + 3) (by omega), hin j (by omega) (by omega)]
      · by_cases z : t = i
        · subst z; exact q
        · have := a5 t h1 (by omega)
          rw [ho _ (by omega)] at this
          exact this
      · rcases a6 with z | z
        · exact Or.inl z
        · right
          rw [ho _ (by omega)] at z
          exact z
theorem cnt_lt (i0 : Nat) : ∀ n, cnt (fun i => i < i0) n = min n i0
  | 0 => by simp [cnt]
  | n + 1 => by
    by_cases q : n < i0
    · rw [cnt_t (p := fun i => i < i0) q, cnt_lt i0 n]; omega
    · rw [cnt_f (p := fun i => i < i0) q, cnt_lt i0 n]; omega
section SY
variable {G : GG} {σ : Mm} {K : RES → Mm → Prop} {st b n m : Nat} {ω : List Nat} {ρ : Nat → List Nat} {P : Nat → Int32}
/-- a row of the warmings by its place -/
theorem WR.at {X F : List Nat} (h : WR σ X F P) (hω : ω = X ++ F) {j e : Nat} (he : ω[j]? = some e) : (j < X.length → mi σ e 0 = 1 ∧ mi σ e 1 = P (834 + 3 * j) ∧ mi σ e 2 = P (834 + 3 * j + 1) ∧ mi σ e 3 = P (834 + 3 * j + 2)) ∧ (X.length ≤ j → mi σ e 0 = 0) := by
  subst hω
  refine ⟨fun q => ?_, fun q => ?_⟩
  · rw [List.getElem?_append_left q] at he
    exact h.1 j e he
  · rw [List.getElem?_append_right q] at he
    exact h.2.1 e (List.mem_of_getElem? he)
theorem kX6_planWarming_25 (gk : GOK G) (hS : stS σ st ω ρ) {X F : List Nat} (hR : WR σ X F P) (hω : ω = X ++ F) {x1 x2 x3 due : Int32} (hk : At G mX6_planWarming rX6_planWarming 0 0 80 [some (vR (some st)), some (vI x1), some (vI x2), some (vI x3), some (vI due), some (vI (nI (cnt (fun i => i < X.length ∧ P (834 + 3 * i) ≤ due) 8))), some (vR (some (st + 3))), some (vI (nI 8)), some (vI 0), none] [] σ K) : ∀ (d j : Nat), j + d = 8 → At G mX6_planWarming rX6_planWarming 0 0 25 [some (vR (some st)), some (vI x1), some (vI x2), some (vI x3), some (vI due), some (vI (nI (cnt (fun i => i < X.length ∧ P (834 + 3 * i) ≤ due) j))), some (vR (some (st + 3))), some (vI (nI 8)), some (vI (nI j)), none] [] σ K
  | 0, j, h => by
    obtain rfl : j = 8 := by omega
    refine vX6_planWarming_25 gk ⟨fun _ => ⟨_, rfl, hS.ty, _, hS.r2, 8, hS.t2, ?_⟩, fun q => absurd (Int32.le_refl _) q⟩
    rw [hS.r2]
    exact hk
  | d + 1, j, h => by
    have ih := kX6_planWarming_25 gk hS hR hω hk d (j + 1) (by omega)
    obtain ⟨e, he, hr, ht, -⟩ := hS.wat (i := j) (by omega)
    obtain ⟨w1, w2⟩ := hR.at hω he
    have hno : (¬ (j < X.length ∧ P (834 + 3 * j) ≤ due)) → At G mX6_planWarming rX6_planWarming 0 0 25 [some (vR (some st)), some (vI x1), some (vI x2), some (vI x3), some (vI due), some (vI (nI (cnt (fun i => i < X.length ∧ P (834 + 3 * i) ≤ due) j))), some (vR (some (st + 3))), some (vI (nI 8)), some (vI (nI j + 1)), none] [] σ K := fun q => by
      rw [cnt_f (p := fun i => i < X.length ∧ P (834 + 3 * i) ≤ due) q] at ih
      rw [nA1]
      exact ih
    refine vX6_planWarming_25 gk ⟨fun q => absurd q (nI_ge (by omega) (by omega)), fun _ => ⟨_, rfl, 8, hS.t2, vp_in_nI (by omega) (by omega), ?_⟩⟩
    rw [nI_clamp (by omega), hr]
    refine ⟨e, rfl, ht, fun q => hno fun z => ?_, fun q => ⟨fun q2 => hno fun z => ?_, fun q2 => ?_⟩⟩
    · rw [(w1 z.1).1] at q; exact absurd q (by decide)
    · rw [(w1 z.1).2.1] at q2
      exact Int32.not_lt.mpr z.2 q2
    · have hj : j < X.length := by
        rcases Nat.lt_or_ge j X.length with z | z
        · exact z
        · exact absurd (w2 z) q
      rw [(w1 hj).2.1] at q2
      rw [cnt_t (p := fun i => i < X.length ∧ P (834 + 3 * i) ≤ due) ⟨hj, Int32.not_lt.mp q2⟩] at ih
      rw [nA1, nA1]
      exact ih
theorem kX6_planWarming_80 (gk : GOK G) (hS : stS σ st ω ρ) {X F : List Nat} {e : Nat} (hR : WR σ X (e :: F) P) (hω : ω = X ++ e :: F) {x1 x2 x3 due x5 : Int32} (hc : isC x2) (hk : Runs G mX6_sortWarmings rX6_sortWarmings [vR (some st)] (sS σ e (upd (upd (upd (upd (mi σ e) 0 1) 1 due) 2 x1) 3 x2)) (fun r t => r = .inl none ∧ K (.inl (some (vI x5))) t)) : ∀ (d j : Nat), j + d = X.length → At G mX6_planWarming rX6_planWarming 0 0 80 [some (vR (some st)), some (vI x1), some (vI x2), some (vI x3), some (vI due), some (vI x5), some (vR (some (st + 3))), some (vI (nI 8)), some (vI (nI j)), none] [] σ K
  | 0, j, h => by
    obtain rfl : j = X.length := by omega
    have hX8 : X.length < 8 := by have := hS.wl; rw [hω, List.length_append, List.length_cons] at this; omega
    obtain ⟨e', he, hr, ht, -⟩ := hS.wat (i := X.length) hX8
    have he9 : e' = e := by
      rw [hω, List.getElem?_append_right (Nat.le_refl _)] at he
      simpa using he.symm
    subst he9
    have e0 := (hR.at hω he).2 (Nat.le_refl _)
    refine vX6_planWarming_80 gk ⟨fun q => absurd q (nI_ge (by omega) (by omega)), fun _ => ⟨_, rfl, 8, hS.t2, vp_in_nI (by omega) (by omega), ?_⟩⟩
    rw [nI_clamp (by omega), hr]
    refine ⟨e', rfl, ht, fun q => absurd e0 q, fun _ σ1 q1 σ2 q2 σ3 q3 => ⟨hc, fun σ4 q4 => ⟨_, rfl, ?_, ?_⟩⟩⟩
    · exact hS.ty
    · have es : σ4 = sS σ e' (upd (upd (upd (upd (mi σ e') 0 1) 1 due) 2 x1) 3 x2) := by
        rw [q4, q3, q2, q1]
        simp only [si_sS, sS_sS, sS_s]
      rw [es]
      refine hk.mono fun r t z => ?_
      obtain ⟨rfl, z⟩ := z
      exact vX6_planWarming_140 gk z
  | d + 1, j, h => by
    have ih := kX6_planWarming_80 gk hS hR hω (x3 := x3) hc hk d (j + 1) (by omega)
    have hX8 : X.length < 8 := by have := hS.wl; rw [hω, List.length_append, List.length_cons] at this; omega
    obtain ⟨e', he, hr, ht, -⟩ := hS.wat (i := j) (by omega)
    have e0 := (hR.at hω he).1 (by omega)
    refine vX6_planWarming_80 gk ⟨fun q => absurd q (nI_ge (by omega) (by omega)), fun _ => ⟨_, rfl, 8, hS.t2, vp_in_nI (by omega) (by omega), ?_⟩⟩
    rw [nI_clamp (by omega), hr]
    refine ⟨e', rfl, ht, fun q => ?_, fun q => ?_⟩
    · rw [nA1]; exact ih
    · rw [e0.1] at q; exact absurd q (by decide)
theorem kX6_planWarming (gk : GOK G) (hb : b < 2 ^ 29) (hV : RV σ st P b n ω ρ) (hW : RW σ ω P n m b) (hJ : EJ P n) {k l : Nat} {z : Int32} (hk : k < n) (hl : l < 26) (hm : m < 8) (hz1 : ¬ z < 1) (hz2 : ¬ 50 < z) (hK : ∀ σ', RS σ' st (wtP (wsP (P 2 + z) m P).2 (wsP (P 2 + z) m P).1 (P 2 + z) (nI k) (nI (97 + l))) b → Fr σ σ' st → K (.inl (some (vI (nI (wsP (P 2 + z) m P).1)))) σ') : Runs G mX6_planWarming rX6_planWarming [vR (some st), vI (nI k), vI (nI (97 + l)), vI z] σ K := by
  have hS := hV.s
  have hnd := hS.wnd
  obtain ⟨X, F, hω, hX, hR⟩ := hW.split
  have hP2 := hV.pi.2.1.1
  have hzz : 1 ≤ z.toInt ∧ z.toInt ≤ 50 := by
    rw [Int32.lt_iff_toInt_lt] at hz1 hz2
    have e1 : (1 : Int32).toInt = 1 := rfl
    have e50 : (50 : Int32).toInt = 50 := rfl
    omega
  have hdue : (P 2 + z).toInt = (P 2).toInt + z.toInt := add_i (by have := hP2.1; omega) (by have := hP2.2; omega)
  obtain ⟨w1, w2, w3, w4, w5, w6⟩ := wsP_ok (m := P 2 + z) m P
  generalize hr1 : wsP (P 2 + z) m P = r at *
  obtain ⟨i0, Q⟩ := r
  generalize hdd : P 2 + z = due at *
  dsimp only at w1 w2 w3 w4 w5 w6 hK
  have hcn : cnt (fun i => i < X.length ∧ P (834 + 3 * i) ≤ due) 8 = i0 := by
    rw [cnt_congr (q := fun i => i < i0) (n := 8) fun i hi => ?_, cnt_lt]
    · omega
    · refine ⟨fun q => ?_, fun q => ⟨by omega, ?_⟩⟩
      · rcases Nat.lt_or_ge i i0 with y | y
        · exact y
        · exact absurd q.2 (w5 i y (by omega))
      · rcases w6 with y | y
        · omega
        · have := hW.2.le (i := i) (j := i0 - 1) (by omega) (by omega)
          rw [Int32.le_iff_toInt_le] at y ⊢
          omega
  cases F with
  | nil =>
    have := hS.wl
    rw [hω, List.append_nil] at this
    omega
  | cons e F =>
    have heω : e ∈ ω := by rw [hω]; simp
    have hwe := hS.w heω
    generalize hT : wtP Q i0 due (nI k) (nI (97 + l)) = T at *
    have hTo : ∀ j, j ≠ 1 → j < 834 + 3 * i0 → T j = P j := fun j h1 h2 => by
      rw [← hT]; unfold wtP
      rw [pk_un h1, pk_un (by omega), pk_un (by omega), pk_un (by omega), w2 j h2]
    have hTi : ∀ c, c < 3 → T (834 + 3 * i0 + c) = if c = 0 then due else if c = 1 then nI k else nI (97 + l) := fun c hc => by
      rw [← hT]; unfold wtP
      rcases (show c = 0 ∨ c = 1 ∨ c = 2 by omega) with y | y | y <;> subst y
      · rw [pk_un (by omega), pk_un (by omega), pk_un (by omega)]; exact pk_us
      · rw [pk_un (by omega), pk_un (by omega), pk_us]; rfl
      · rw [pk_un (by omega), pk_us]; rfl
    have hTh : ∀ j, 834 + 3 * i0 ≤ j → j < 834 + 3 * m → T (j + 3) = P j := fun j h1 h2 => by
      rw [← hT]; unfold wtP
      rw [pk_un (by omega), pk_un (by omega), pk_un (by omega), pk_un (by omega), w4 j h1 h2]
    have hT1 : T 1 = nI (m + 1) := by
      rw [← hT]; unfold wtP
      rw [pk_us, w2 1 (by omega), hW.2.1.2, nA1]
    have hT2 : T 2 = P 2 := hTo 2 (by omega) (by omega)
    generalize hA : X.take i0 = A
    generalize hB : X.drop i0 = B
    have hXs : X = A ++ B := by rw [← hA, ← hB]; exact (List.take_append_drop i0 X).symm
    have hAl : A.length = i0 := by rw [← hA, List.length_take]; omega
    have hBl : A.length + B.length = m := by rw [← hX, hXs, List.length_append]
    have hdj : ∀ x, x ∈ A ∨ x ∈ B ∨ x ∈ F → x ≠ e := fun x hx y => by
      subst y
      rw [hω, hXs] at hnd
      have h1 := List.nodup_append.mp hnd
      rcases hx with q | q | q
      · exact h1.2.2 x (List.mem_append_left _ q) x (by simp) rfl
      · exact h1.2.2 x (List.mem_append_right _ q) x (by simp) rfl
      · exact (List.nodup_cons.mp h1.2.1).1 q
    generalize hf : upd (upd (upd (upd (mi σ e) 0 1) 1 due) 2 (nI k)) 3 (nI (97 + l)) = f
    have f0 : f 0 = 1 := by rw [← hf, pk_un (by omega), pk_un (by omega), pk_un (by omega), pk_us]
    have f1 : f 1 = due := by rw [← hf, pk_un (by omega), pk_un (by omega), pk_us]
    have f2 : f 2 = nI k := by rw [← hf, pk_un (by omega), pk_us]
    have f3 : f 3 = nI (97 + l) := by rw [← hf, pk_us]
    have hXr : ∀ j x, X[j]? = some x → mi (sS σ e f) x 0 = 1 ∧ mi (sS σ e f) x 1 = P (834 + 3 * j) ∧ mi (sS σ e f) x 2 = P (834 + 3 * j + 1) ∧ mi (sS σ e f) x 3 = P (834 + 3 * j + 2) := fun j x hx => by
      have hm9 : x ∈ A ∨ x ∈ B := List.mem_append.mp (by rw [← hXs]; exact List.mem_of_getElem? hx)
      rw [sS_n (hdj x (hm9.imp id Or.inl))]
      exact hR.1 j x hx
    have hR1 : WR (sS σ e f) (A ++ e :: B) F T := by
      refine ⟨fun j x hx => ?_, fun x hx => ?_, fun x hx => ?_⟩
      · rcases Nat.lt_trichotomy j i0 with y | y | y
        · rw [List.getElem?_append_left (by omega)] at hx
          rw [hTo _ (by omega) (by omega), hTo _ (by omega) (by omega), hTo _ (by omega) (by omega)]
          exact hXr j x (by rw [hXs, List.getElem?_append_left (by omega)]; exact hx)
        · rw [List.getElem?_append_right (by omega), show j - A.length = 0 by omega] at hx
          obtain rfl : e = x := by simpa using hx
          subst y
          rw [sS_s, f0, f1, f2, f3, hTi 1 (by omega), hTi 2 (by omega), show T (834 + 3 * j) = due from hTi 0 (by omega)]
          exact ⟨rfl, rfl, rfl, rfl⟩
        · rw [List.getElem?_append_right (by omega), show j - A.length = (j - 1 - A.length) + 1 by omega, List.getElem?_cons_succ] at hx
          have hjl := (List.getElem?_eq_some_iff.mp hx).1
          have := hXr (j - 1) x (by rw [hXs, List.getElem?_append_right (by omega)]; exact hx)
          rw [show 834 + 3 * j = 834 + 3 * (j - 1) + 3 by omega, show 834 + 3 * (j - 1) + 3 + 1 = 834 + 3 * (j - 1) + 1 + 3 by omega, show 834 + 3 * (j - 1) + 3 + 2 = 834 + 3 * (j - 1) + 2 + 3 by omega, hTh _ (by omega) (by omega), hTh _ (by omega) (by omega), hTh _ (by omega) (by omega)]
          exact this
      · rw [sS_n (hdj x (Or.inr (Or.inr hx)))]
        exact hR.2.1 x (List.mem_cons_of_mem _ hx)
      · by_cases y : x = e
        · subst y; rw [sS_s, f3]; exact isC_nI (by omega)
        · rw [sS_n y]
          refine hR.2.2 x ?_
          rw [hXs]
          simp at hx ⊢
          rcases hx with q | q | q | q
          · exact Or.inl q
          · exact absurd q y
          · exact Or.inr (Or.inl q)
          · exact Or.inr (Or.inr (Or.inr q))
    have hlen : (A ++ e :: B).length = m + 1 := by simp; omega
    have hPW : PW T n (m + 1) b := by
      obtain ⟨⟨h1, h2⟩, h3, h4⟩ := hW.2
      have g : ∀ i, i < m + 1 → (P 2).toInt < (T (834 + 3 * i)).toInt ∧ (T (834 + 3 * i)).toInt ≤ (b : Int) + 50 ∧ (∃ k, k < n ∧ T (834 + 3 * i + 1) = nI k) ∧ ∃ l, l < 26 ∧ T (834 + 3 * i + 2) = nI (97 + l) := fun i hi => by
        rcases Nat.lt_trichotomy i i0 with y | y | y
        · rw [hTo _ (by omega) (by omega), hTo _ (by omega) (by omega), hTo _ (by omega) (by omega)]
          exact h3 i (by omega)
        · subst y
          rw [hTi 1 (by omega), hTi 2 (by omega), show T (834 + 3 * i) = due from hTi 0 (by omega)]
          refine ⟨by omega, by have := hP2.2; omega, ⟨k, hk, rfl⟩, ⟨l, hl, rfl⟩⟩
        · rw [show 834 + 3 * i = 834 + 3 * (i - 1) + 3 by omega, show 834 + 3 * (i - 1) + 3 + 1 = 834 + 3 * (i - 1) + 1 + 3 by omega, show 834 + 3 * (i - 1) + 3 + 2 = 834 + 3 * (i - 1) + 2 + 3 by omega, hTh _ (by omega) (by omega), hTh _ (by omega) (by omega), hTh _ (by omega) (by omega)]
          exact h3 (i - 1) (by omega)
      refine ⟨⟨by omega, hT1⟩, fun i hi => by rw [hT2]; exact g i hi, fun i hi => ?_⟩
      rcases Nat.lt_trichotomy (i + 1) i0 with y | y | y
      · rw [hTo _ (by omega) (by omega), hTo _ (by omega) (by omega)]
        exact h4 i (by omega)
      · rw [hTo _ (by omega) (by omega), show T (834 + 3 * (i + 1)) = due from by rw [y]; exact hTi 0 (by omega)]
        rcases w6 with q | q
        · omega
        · rw [show i0 - 1 = i by omega, Int32.le_iff_toInt_le] at q
          exact q
      · by_cases q : i = i0
        · subst q
          rw [show T (834 + 3 * i) = due from hTi 0 (by omega), show 834 + 3 * (i + 1) = 834 + 3 * i + 3 by omega, hTh _ (by omega) (by omega)]
          have := w5 i (by omega) (by omega)
          rw [Int32.le_iff_toInt_le] at this
          omega
        · rw [show 834 + 3 * i = 834 + 3 * (i - 1) + 3 by omega, show 834 + 3 * (i + 1) = 834 + 3 * i + 3 by omega, hTh _ (by omega) (by omega), hTh _ (by omega) (by omega)]
          have := h4 (i - 1) (by omega)
          rw [show i - 1 + 1 = i by omega] at this
          exact this
    have hsX : srtd (ltW (sS σ e f)) (A ++ B) := by
      have : WR (sS σ e f) X [] P := ⟨hXr, fun x hx => (by cases hx), fun x hx => by
        rw [List.append_nil] at hx
        have hm9 : x ∈ A ∨ x ∈ B := List.mem_append.mp (by rw [← hXs]; exact hx)
        rw [sS_n (hdj x (hm9.imp id Or.inl))]
        exact hR.2.2 x (List.mem_append_left _ hx)⟩
      rw [← hXs]
      exact this.srt fun i j hij hj => hW.2.le hij (by omega)
    have hsort : isR (ltW (sS σ e f)) [] ω = (A ++ e :: B) ++ F := by
      rw [hω, hXs, show (A ++ B) ++ e :: F = A ++ (B ++ e :: F) by simp, sort_put hR1.2.1 hsX (fun y hy q => ?_) (fun y hy => ?_)]
      · simp
      · obtain ⟨j, hj⟩ := List.getElem?_of_mem hy
        have hjl := (List.getElem?_eq_some_iff.mp hj).1
        have hx := hXr j y (by rw [hXs, List.getElem?_append_left (by omega)]; exact hj)
        rcases q.2 with q | q
        · rw [hx.1] at q; exact absurd q (by decide)
        · rw [hx.2.1, sS_s, f1, Int32.lt_iff_toInt_lt] at q
          rcases w6 with w | w
          · omega
          · have := hW.2.le (i := j) (j := i0 - 1) (by omega) (by omega)
            rw [Int32.le_iff_toInt_le] at w
            omega
      · obtain ⟨j, hj⟩ := List.getElem?_of_mem hy
        have hjl := (List.getElem?_eq_some_iff.mp hj).1
        have hx := hXr (i0 + j) y (by rw [hXs, List.getElem?_append_right (by omega), show i0 + j - A.length = j by omega]; exact hj)
        refine ⟨by rw [sS_s, f0]; decide, Or.inr ?_⟩
        rw [hx.2.1, sS_s, f1]
        exact Int32.not_le.mp (w5 (i0 + j) (by omega) (by omega))
    have hS1 : stS (sS σ e f) st ω ρ := hS.mv rfl rfl
    have hT9 : ∀ j, j < 834 → j ≠ 1 → T j = P j := fun j h1 h2 => hTo j h2 (by omega)
    have hV1 : RV (sS σ e f) st T b n ω ρ := hV.warm hS1 (fun q h1 h2 => sS_n (by omega)) hT9
    have hp : ((A ++ e :: B) ++ F).Perm ω := by
      rw [hω, hXs]
      have h1 : (A ++ e :: B ++ F).Perm (A ++ (e :: (B ++ F))) := by simp
      have h2 : (A ++ (e :: (B ++ F))).Perm (A ++ (B ++ e :: F)) := (List.perm_middle (l₁ := B) (a := e) (l₂ := F)).symm.append_left A
      have h3 : (A ++ (B ++ e :: F)).Perm (A ++ B ++ e :: F) := by simp
      exact h1.trans (h2.trans h3)
    refine eX6_planWarming gk ⟨_, rfl, hS.ty, _, hS.r2, 8, hS.t2, ?_⟩
    rw [hS.r2, hV.g3, hdd]
    refine kX6_planWarming_25 gk hS (X := X) (F := e :: F) hR hω ?_ 8 0 rfl
    rw [hcn]
    refine kX6_planWarming_80 gk hS hR hω (isC_nI (by omega)) ?_ X.length 0 (by omega)
    rw [hf]
    refine kX6_sortWarmings gk hS1.was ⟨rfl, ?_⟩
    rw [hsort]
    exact hK _ (RS_fin hV1 hp hR1 (by rw [hlen]; exact hPW) (hJ.cgw hV.n4 hT9)) ((Fr.sS (by omega) (by omega)).trans (Fr.sO (by omega) (by omega)))
end SY
