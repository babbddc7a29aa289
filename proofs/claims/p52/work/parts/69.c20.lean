/-! ===== the class: time ===== -/
section SZ
variable {G : GG} {σ : Mm} {K : RES → Mm → Prop} {st b n m : Nat} {ω : List Nat} {ρ : Nat → List Nat} {P Q : Nat → Int32}
/-- the model's m warmings, within a minute -/
def PL (Q : Nat → Int32) (n m b : Nat) : Prop := (m ≤ 8 ∧ Q 1 = nI m) ∧
  (∀ i, i < m → (Q 2).toInt ≤ (Q (834 + 3 * i)).toInt ∧ (Q (834 + 3 * i)).toInt ≤ (b : Int) + 50 ∧ (∃ k, k < n ∧ Q (834 + 3 * i + 1) = nI k) ∧ (∃ l, l < 26 ∧ Q (834 + 3 * i + 2) = nI (97 + l))) ∧
  (∀ i, i + 1 < m → (Q (834 + 3 * i)).toInt ≤ (Q (834 + 3 * (i + 1))).toInt)
theorem PL.le (h : PL Q n m b) {i : Nat} : ∀ {j : Nat}, i ≤ j → j < m → (Q (834 + 3 * i)).toInt ≤ (Q (834 + 3 * j)).toInt
  | 0, hij, hj => by
    obtain rfl : i = 0 := by omega
    exact Int.le_refl _
  | j + 1, hij, hj => by
    by_cases z : i = j + 1
    · subst z; exact Int.le_refl _
    · have := h.le (i := i) (j := j) (by omega) (by omega)
      have := h.2.2 j hj
      omega
theorem PL.mono {b' : Nat} (h : PL Q n m b) (hb : b ≤ b') : PL Q n m b' := ⟨h.1, fun i hi => by
  obtain ⟨a1, a2, a3⟩ := h.2.1 i hi
  exact ⟨a1, by omega, a3⟩, h.2.2⟩
theorem PL.pw (h : PL Q n m b) (hs : 0 < m → ¬ Q 834 = Q 2) : PW Q n m b := ⟨h.1, fun i hi => by
  obtain ⟨a1, a2, a3⟩ := h.2.1 i hi
  refine ⟨?_, a2, a3⟩
  have h0 := (h.2.1 0 (by omega)).1
  have hl := h.le (i := 0) (j := i) (by omega) hi
  have hne : ¬ (Q 834).toInt = (Q 2).toInt := fun z => hs (by omega) (Int32.toInt_inj.mp z)
  rw [show 834 + 3 * 0 = 834 from rfl] at h0 hl
  omega, h.2.2⟩
theorem PL.pop (h : PL Q n (m + 1) b) {Q1 : Nat → Int32} (e1 : Q1 1 = nI m) (e2 : Q1 2 = Q 2) (e : ∀ j, 834 ≤ j → j < 834 + 3 * m → Q1 j = Q (j + 3)) : PL Q1 n m b := by
  refine ⟨⟨by have := h.1.1; omega, e1⟩, fun i hi => ?_, fun i hi => ?_⟩
  · rw [e2, e (834 + 3 * i) (by omega) (by omega), e (834 + 3 * i + 1) (by omega) (by omega), e (834 + 3 * i + 2) (by omega) (by omega)]
    have := h.2.1 (i + 1) (by omega)
    rw [show 834 + 3 * (i + 1) = 834 + 3 * i + 3 by omega, show 834 + 3 * i + 3 + 1 = 834 + 3 * i + 1 + 3 by omega, show 834 + 3 * i + 3 + 2 = 834 + 3 * i + 2 + 3 by omega] at this
    exact this
  · rw [e (834 + 3 * i) (by omega) (by omega), e (834 + 3 * (i + 1)) (by omega) (by omega)]
    have := h.2.2 (i + 1) (by omega)
    rw [show 834 + 3 * (i + 1) = 834 + 3 * i + 3 by omega, show 834 + 3 * (i + 1 + 1) = 834 + 3 * i + 3 + 3 by omega] at this
    rw [show 834 + 3 * (i + 1) = 834 + 3 * i + 3 by omega]
    exact this
/-- a fetching when there is no such jar -/
theorem kX6_fetch0 (gk : GOK G) (hV : RV σ st P b n ω ρ) {k l : Nat} (hk : k < n) (hl : l < 26) (hj : ¬ P (8 + 3 * l) = 1) (hK : K (.inl (some (vI 0))) σ) : Runs G mX6_fetch rX6_fetch [vR (some st), vI (nI k), vI (nI (97 + l))] σ K := by
  refine eX6_fetch gk ⟨_, rfl, hV.s.ty, cFindShelf gk hV (fun q => absurd (hV.sh hk) q) fun k' hk' ek => vX6_fetch_5 gk ⟨_, rfl, hV.s.ty, cFindJar gk hV (isC_nI (by omega)) (fun q => vX6_fetch_11 gk ⟨fun _ => hK, fun a _ => ⟨fun _ => hK, fun a2 q2 => by cases q2⟩⟩) fun l' hl' el q => ?_⟩⟩
  have := nIl_inj hl hl' el
  subst this
  exact absurd q hj
theorem kX6_letPass_33s (gk : GOK G) (hS : stS σ st ω ρ) {x1 x2 x3 : Int32} {j0 : Nat} (hno : ∀ i e, j0 ≤ i → ω[i]? = some e → mi σ e 0 = 0 ∨ ¬ mi σ e 1 = mi σ st 3) (hk : At G mX6_letPass rX6_letPass 0 0 33 [some (vR (some st)), some (vI x1), some (vI x2), some (vI x3), some (vR (some (st + 3))), some (vI (nI 8)), some (vI (nI 8)), none] [] σ K) : ∀ (d j : Nat), j0 ≤ j → j + d = 8 → At G mX6_letPass rX6_letPass 0 0 33 [some (vR (some st)), some (vI x1), some (vI x2), some (vI x3), some (vR (some (st + 3))), some (vI (nI 8)), some (vI (nI j)), none] [] σ K
  | 0, j, _, h => by
    obtain rfl : j = 8 := by omega
    exact hk
  | d + 1, j, h0, h => by
    have ih := kX6_letPass_33s gk hS hno hk d (j + 1) (by omega) (by omega)
    obtain ⟨e, he, hr, ht, -⟩ := hS.wat (i := j) (by omega)
    refine vX6_letPass_33 gk ⟨fun q => absurd q (nI_ge (by omega) (by omega)), fun _ => ⟨_, rfl, 8, hS.t2, vp_in_nI (by omega) (by omega), ?_⟩⟩
    rw [nI_clamp (by omega), hr]
    refine ⟨e, rfl, ht, fun q => ?_, fun q => ⟨_, rfl, hS.ty, fun q2 => ?_, fun q2 => ?_⟩⟩
    · rw [nA1]; exact ih
    · rw [nA1]; exact ih
    · rcases hno j e h0 he with z | z
      · exact absurd z q
      · exact absurd q2 z
theorem kX6_letPass_33 (gk : GOK G) {x1 x3 : Int32} {F : List Nat} {σ0 : Mm} {b0 : Nat} (hb : b0 < 2 ^ 28) (hn4 : n ≤ 4) : ∀ (m : Nat) (X E : List Nat) (σ : Mm) (ρ : Nat → List Nat) (Q : Nat → Int32) (c b : Nat), X.length = m → ω = E ++ (X ++ F) → b + m ≤ b0 → RV σ st Q b n ω ρ → EJ Q n → (∀ e, e ∈ E → mi σ e 0 = 0 ∧ isC (mi σ e 3)) → WR σ X F Q → PL Q n m b → Fr σ0 σ st →
    (∀ (σ' : Mm) (ρ' : Nat → List Nat) (X' E' : List Nat), ω = E' ++ (X' ++ F) → RV σ' st (pI m Q c).1 b0 n ω ρ' → EJ (pI m Q c).1 n → (∀ e, e ∈ E' → mi σ' e 0 = 0 ∧ isC (mi σ' e 3)) → WR σ' X' F (pI m Q c).1 → PW (pI m Q c).1 n X'.length b0 → Fr σ0 σ' st → At G mX6_letPass rX6_letPass 0 0 33 [some (vR (some st)), some (vI x1), some (vI (nI (pI m Q c).2)), some (vI x3), some (vR (some (st + 3))), some (vI (nI 8)), some (vI (nI 8)), none] [] σ' K) →
    At G mX6_letPass rX6_letPass 0 0 33 [some (vR (some st)), some (vI x1), some (vI (nI c)), some (vI x3), some (vR (some (st + 3))), some (vI (nI 8)), some (vI (nI E.length)), none] [] σ K
  | 0, X, E, σ, ρ, Q, c, b, hX, hω, hbm, hV, hJ, hE, hR, hP, hF, hk => by
    have hl := hV.s.wl
    have hl' := hl
    rw [hω, List.length_append] at hl'
    refine kX6_letPass_33s gk hV.s (j0 := E.length) (fun i e hi he => ?_) (hk σ ρ X E hω (hV.mono (by omega)) hJ hE hR (by rw [hX]; exact (hP.pw (fun z => by omega)).mono (by omega)) hF) (8 - E.length) E.length (Nat.le_refl _) (by omega)
    left
    rw [hω, List.getElem?_append_right hi] at he
    have : X = [] := List.length_eq_zero_iff.mp hX
    subst this
    exact hR.2.1 e (List.mem_of_getElem? he)
  | m + 1, [], E, σ, ρ, Q, c, b, hX, hω, hbm, hV, hJ, hE, hR, hP, hF, hk => by cases hX
  | m + 1, x :: X, E, σ, ρ, Q, c, b, hX, hω, hbm, hV, hJ, hE, hR, hP, hF, hk => by
    have hX : X.length = m := by simpa using hX
    have hS := hV.s
    have hnd := hS.wnd
    have hl := hS.wl
    have hl' := hl
    rw [hω, List.length_append, List.length_append, List.length_cons] at hl'
    have hat : ω[E.length]? = some x := by rw [hω, List.getElem?_append_right (Nat.le_refl _)]; simp
    have hxω := List.mem_of_getElem? hat
    have hwx := hS.w hxω
    have hrow := hR.1 0 x rfl
    rw [show 834 + 3 * 0 = 834 from rfl] at hrow
    obtain ⟨q1, q2, ⟨k, hk4, ek⟩, ⟨l, hl26, el⟩⟩ := hP.2.1 0 (by omega)
    rw [show 834 + 3 * 0 = 834 from rfl] at q1 q2 ek el
    have ek : Q 835 = nI k := ek
    have el : Q 836 = nI (97 + l) := el
    by_cases hnow : Q 834 = Q 2
    · have hcw : ∀ j, j < 834 → j ≠ 1 → cwP Q 0 (m + 1) j = Q j := fun j h1 h2 => cwP_lo h2 (by omega)
      have hch : ∀ j, 834 ≤ j → j < 834 + 3 * m → cwP Q 0 (m + 1) j = Q (j + 3) := fun j h1 h2 => cwP_hi (by omega) (by omega)
      have hV1 : RV σ st (cwP Q 0 (m + 1)) b n ω ρ := hV.warm hS (fun _ _ _ => rfl) hcw
      have hJ1 : EJ (cwP Q 0 (m + 1)) n := hJ.cgw hn4 hcw
      have hP1 : PL (cwP Q 0 (m + 1)) n m b := hP.pop cwP_1 (hcw 2 (by omega) (by omega)) hch
      have hne : ∀ y, y ∈ E ∨ y ∈ X ∨ y ∈ F → y ≠ x := fun y hy z => by
        subst z
        rw [hω] at hnd
        have h1 := List.nodup_append.mp hnd
        rcases hy with q | q | q
        · exact h1.2.2 y q y (by simp) rfl
        · exact (List.nodup_cons.mp h1.2.1).1 (List.mem_append_left _ q)
        · exact (List.nodup_cons.mp h1.2.1).1 (List.mem_append_right _ q)
      have hω1 : ω = (E ++ [x]) ++ (X ++ F) := by rw [hω]; simp
      have hEl : (E ++ [x]).length = E.length + 1 := by simp
      have hmem : ∀ y, y ∈ E ∨ y ∈ X ∨ y ∈ F → y ∈ ω := fun y hy => by
        rw [hω]; simp; rcases hy with q | q | q
        · exact Or.inl q
        · exact Or.inr (Or.inr (Or.inl q))
        · exact Or.inr (Or.inr (Or.inr q))
      -- behind the fetching: the row x is let go
      have go : ∀ (σ1 : Mm) (ρ1 : Nat → List Nat) (Q1 : Nat → Int32) (c1 : Nat), RV σ1 st Q1 (b + 1) n ω ρ1 → EJ Q1 n → PL Q1 n m (b + 1) → (∀ j, 834 ≤ j → j < 834 + 3 * m → Q1 j = Q (j + 3)) → (∀ q, st + 62 ≤ q → q < st + 70 → mi σ1 q = mi σ q) → Fr σ0 σ1 st → pI (m + 1) Q c = pI m Q1 c1 → At G mX6_letPass rX6_letPass 0 0 33 [some (vR (some st)), some (vI x1), some (vI (nI c1)), some (vI x3), some (vR (some (st + 3))), some (vI (nI 8)), some (vI (nI (E.length + 1))), none] [] (si σ1 x 0 0) K := fun σ1 ρ1 Q1 c1 hVn hJn hPn hQn hq hFn hpI => by
        rw [si_sS]
        have hS1 := hVn.s
        have hrw : ∀ y, y ∈ E ∨ y ∈ X ∨ y ∈ F → mi (sS σ1 x (upd (mi σ1 x) 0 0)) y = mi σ y := fun y hy => by
          have := hS.w (hmem y hy)
          rw [sS_n (hne y hy), hq y (by omega) (by omega)]
        have ih := kX6_letPass_33 gk (x1 := x1) (x3 := x3) (F := F) (σ0 := σ0) hb hn4 m X (E ++ [x]) (sS σ1 x (upd (mi σ1 x) 0 0)) ρ1 Q1 c1 (b + 1) hX hω1 (by omega) (hVn.warm (hS1.mv rfl rfl) (fun q h1 h2 => sS_n (by omega)) (fun _ _ _ => rfl)) hJn (fun y hy => ?_) ⟨fun j y hy => ?_, fun y hy => ?_, fun y hy => ?_⟩ hPn (hFn.trans (Fr.sS (by omega) (by omega))) (by rw [← hpI]; exact hk)
        · rw [hEl] at ih
          exact ih
        · rcases List.mem_append.mp hy with q | q
          · rw [hrw y (Or.inl q)]; exact hE y q
          · obtain rfl : y = x := by simpa using q
            rw [sS_s, pk_us, pk_un (by omega), hq y (by omega) (by omega)]
            exact ⟨rfl, hR.2.2 y (by simp)⟩
        · have hjl := (List.getElem?_eq_some_iff.mp hy).1
          rw [hrw y (Or.inr (Or.inl (List.mem_of_getElem? hy))), hQn _ (by omega) (by omega), hQn _ (by omega) (by omega), hQn _ (by omega) (by omega)]
          have := hR.1 (j + 1) y (by rw [List.getElem?_cons_succ]; exact hy)
          rw [show 834 + 3 * (j + 1) = 834 + 3 * j + 3 by omega, show 834 + 3 * j + 3 + 1 = 834 + 3 * j + 1 + 3 by omega, show 834 + 3 * j + 3 + 2 = 834 + 3 * j + 2 + 3 by omega] at this
          exact this
        · rw [hrw y (Or.inr (Or.inr hy))]; exact hR.2.1 y hy
        · have hy' : y ∈ X ∨ y ∈ F := List.mem_append.mp hy
          rw [hrw y (Or.inr hy')]
          exact hR.2.2 y (by rcases hy' with q | q <;> simp [q])
      refine vX6_letPass_33 gk ⟨fun q => absurd q (nI_ge (by omega) (by omega)), fun _ => ⟨_, rfl, 8, hS.t2, vp_in_nI (by omega) (by omega), ?_⟩⟩
      rw [nI_clamp (by omega), (hS.2.2.2.1 _ _ hat)]
      have htx := hS.2.2.2.2.2 x hxω
      refine ⟨x, rfl, htx, fun q => ?_, fun q => ⟨_, rfl, hS.ty, fun q2 => ?_, fun q2 => ?_⟩⟩
      · rw [hrow.1] at q; exact absurd q (by decide)
      · rw [hrow.2.1, hV.g3] at q2; exact absurd hnow q2
      · rw [hrow.2.2.1, hrow.2.2.2, ek, el]
        have hcj : cwP Q 0 (m + 1) (8 + 3 * l) = Q (8 + 3 * l) := hcw _ (by omega) (by omega)
        by_cases hj : Q (8 + 3 * l) = 1
        · refine kX6_fetch gk (by omega) hV1 hk4 hl26 (by rw [hcj]; exact hj) fun σ1 ρ1 hVn hFn hq => vX6_letPass_82 gk ⟨fun z => absurd z (by decide), fun _ => ⟨_, rfl, ?_, fun σ2 e2 => ?_⟩⟩
          · rw [hFn.2.2.2.1]; exact htx
          have fo : ∀ j, j ≠ 3 → (j < 91 ∨ 834 ≤ j) → ftP (cwP Q 0 (m + 1)) k l j = cwP Q 0 (m + 1) j := fun j h3 hj => ftP_o hl26 h3 fun m9 _ i _ => by unfold eX; omega
          have hQn : ∀ j, 834 ≤ j → j < 834 + 3 * m → ftP (cwP Q 0 (m + 1)) k l j = Q (j + 3) := fun j h1 h2 => by rw [fo j (by omega) (by omega), hch j h1 h2]
          have hJn : EJ (ftP (cwP Q 0 (m + 1)) k l) n := fun k' l' hk' hl' q => by
            rw [fo _ (by omega) (by omega)]
            rcases ftP_there hl26 hl' q with z | z
            · rw [z.2, hcj]; exact hj
            · exact hJ1 k' l' hk' hl' z
          have hPn : PL (ftP (cwP Q 0 (m + 1)) k l) n m (b + 1) := (hP.pop (Q1 := ftP (cwP Q 0 (m + 1)) k l) (by rw [fo 1 (by omega) (by omega)]; exact cwP_1) (by rw [fo 2 (by omega) (by omega)]; exact hcw 2 (by omega) (by omega)) hQn).mono (by omega)
          rw [nA1, nA1, e2]
          refine go σ1 ρ1 _ (c + 1) hVn hJn hPn hQn hq (hF.trans hFn) ?_
          rw [pI, if_pos hnow, if_pos (by rw [el]; exact (jrP_l hl26).mpr (by rw [hcj]; exact hj)), ek, el, nI_clamp (by omega), nI_clamp (by omega), show 97 + l - 97 = l by omega]
        · refine kX6_fetch0 gk hV1 hk4 hl26 (by rw [hcj]; exact hj) (vX6_letPass_82 gk ⟨fun _ => ⟨_, rfl, htx, fun σ2 e2 => ?_⟩, fun z => absurd rfl z⟩)
          rw [i_add0, nA1, e2]
          refine go σ ρ _ c (hV1.mono (by omega)) hJ1 (hP1.mono (by omega)) hch (fun _ _ _ => rfl) hF ?_
          rw [pI, if_pos hnow, if_neg (by rw [el]; exact fun z => hj (by rw [← hcj]; exact (jrP_l hl26).mp z))]
    · have hpI : pI (m + 1) Q c = (Q, c) := by rw [pI, if_neg hnow]
      rw [hpI] at hk
      refine kX6_letPass_33s gk hS (j0 := E.length) (fun i e hi he => ?_) (hk σ ρ (x :: X) E hω (hV.mono (by omega)) hJ hE hR (by rw [List.length_cons, hX]; exact (hP.pw (fun _ => hnow)).mono (by omega)) hF) (8 - E.length) E.length (Nat.le_refl _) (by omega)
      rw [hω, List.getElem?_append_right hi] at he
      by_cases z : i - E.length < (x :: X).length
      · right
        rw [List.getElem?_append_left z] at he
        rw [(hR.1 _ e he).2.1, hV.g3]
        intro q
        have hp := hP.pw (fun _ => hnow)
        have := (hp.2.1 (i - E.length) (by simpa [hX] using z)).1
        rw [q] at this
        omega
      · left
        rw [List.getElem?_append_right (by omega)] at he
        exact hR.2.1 e (List.mem_of_getElem? he)
/-- a minute passes -/
theorem RV.tick (h : RV σ st P b n ω ρ) (hb : b < 2 ^ 29) : RV (sS σ st (upd (mi σ st) 3 (mi σ st 3 + 1))) st (upd P 2 (P 2 + 1)) (b + 1) n ω ρ := by
  have h2 := h.pi.2.1
  have e1 : (P 2 + 1).toInt = (P 2).toInt + 1 := add1_i h2.1.1 (by have := h2.1.2; omega)
  have u : ∀ j, j ≠ 2 → upd P 2 (P 2 + 1) j = P j := fun j hj => pk_un hj
  have hP' : PI (upd P 2 (P 2 + 1)) n (b + 1) := by
    refine PI_g h.pi (by omega) (fun j hj => u j (by omega)) (u 0 (by omega)) ⟨?_, ?_, ?_, ?_, ?_, ?_⟩ ?_ ?_
    · rw [pk_us]; exact ⟨by have := h2.1.1; omega, by have := h2.1.2; omega⟩
    · rw [u 3 (by omega)]; exact h2.2.1.mono (by omega)
    · rw [u 4 (by omega)]; exact h2.2.2.1.mono (by omega)
    · rw [u 5 (by omega)]; exact h2.2.2.2.1.mono (by omega)
    · rw [u 6 (by omega)]; exact h2.2.2.2.2.1.mono (by omega)
    · rw [u 7 (by omega)]; exact h2.2.2.2.2.2.mono (by omega)
    · rw [pk_us]; omega
    · rw [u 3 (by omega)]; omega
  refine h.glob (by omega) hP' (fun j hj => u j (by omega)) ?_
  obtain ⟨g3, g4, g5, g6, g7, g8⟩ := h.g
  have w1 : ∀ (τ : Mm) i, 3 ≤ i → i < 9 → vG τ st i = mi τ st i := fun τ i a c => if_pos ⟨a, c⟩
  rw [w1 σ 3 (by omega) (by omega)] at g3
  rw [w1 σ 4 (by omega) (by omega)] at g4
  rw [w1 σ 5 (by omega) (by omega)] at g5
  rw [w1 σ 6 (by omega) (by omega)] at g6
  rw [w1 σ 7 (by omega) (by omega)] at g7
  rw [w1 σ 8 (by omega) (by omega)] at g8
  unfold GV
  rw [w1 _ 3 (by omega) (by omega), w1 _ 4 (by omega) (by omega), w1 _ 5 (by omega) (by omega), w1 _ 6 (by omega) (by omega), w1 _ 7 (by omega) (by omega), w1 _ 8 (by omega) (by omega), sS_s, pk_us, pk_us, u 3 (by omega), u 4 (by omega), u 5 (by omega), u 6 (by omega), u 7 (by omega), pk_un (by omega), pk_un (by omega), pk_un (by omega), pk_un (by omega), pk_un (by omega), g3, g4, g5, g6, g7, g8]
  exact ⟨rfl, rfl, rfl, rfl, rfl, rfl⟩
theorem kX6_letPass_4 (gk : GOK G) {σ0 : Mm} {x : Nat} (hx : x ≤ 60) (hb : b < 2 ^ 27) (hk : ∀ σ', RS σ' st (pP P x).1 (b + 9 * x) → Fr σ0 σ' st → K (.inl (some (vI (nI (pP P x).2)))) σ') : ∀ (d i : Nat), i + d = x → ∀ (σ : Mm), RS σ st (pP P i).1 (b + 9 * i) → Fr σ0 σ st → At G mX6_letPass rX6_letPass 0 0 4 [some (vR (some st)), some (vI (nI x)), some (vI (nI (pP P i).2)), some (vI (nI i)), none, none, none, none] [] σ K
  | 0, i, h, σ, hR, hF => by
    obtain rfl : i = x := by omega
    exact vX6_letPass_4 gk ⟨fun _ => hk σ hR hF, fun q => absurd (Int32.le_refl _) q⟩
  | d + 1, i, h, σ, hR, hF => by
    obtain ⟨ω, ρ, n, m, hV, hW, hJ⟩ := hR
    have hS := hV.s
    have hm := hW.2.1
    generalize hQ : (pP P i).1 = Q at hV hW hJ hm
    generalize hc : (pP P i).2 = c
    have hstep : pP P (i + 1) = pI m (upd Q 2 (Q 2 + 1)) c := by
      rw [pP, hQ, hc, hm.2, nI_clamp (by omega)]
    have h2 := hV.pi.2.1
    have e1 : (Q 2 + 1).toInt = (Q 2).toInt + 1 := add1_i h2.1.1 (by have := h2.1.2; omega)
    have hV1 := hV.tick (by omega)
    have u : ∀ j, j ≠ 2 → upd Q 2 (Q 2 + 1) j = Q j := fun j hj => pk_un hj
    have hJ1 : EJ (upd Q 2 (Q 2 + 1)) n := fun k l hk hl => by
      rw [u _ (by have := eX_ge k l; omega), u _ (by omega)]
      exact hJ k l hk hl
    obtain ⟨X, F, hω, hX, hWR⟩ := hW.split
    have hP1 : PL (upd Q 2 (Q 2 + 1)) n m (b + 9 * i + 1) := by
      refine ⟨by rw [u 1 (by omega)]; exact hm, fun j hj => ?_, fun j hj => ?_⟩
      · rw [pk_us, u _ (by omega), u _ (by omega), u _ (by omega)]
        obtain ⟨a1, a2, a3⟩ := hW.2.2.1 j hj
        exact ⟨by omega, by omega, a3⟩
      · rw [u _ (by omega), u _ (by omega)]
        exact hW.2.2.2 j hj
    have hWR1 : WR (sS σ st (upd (mi σ st) 3 (mi σ st 3 + 1))) X F (upd Q 2 (Q 2 + 1)) := by
      have h0 : WR σ X F (upd Q 2 (Q 2 + 1)) := ⟨fun j y hy => by rw [u _ (by omega), u _ (by omega), u _ (by omega)]; exact hWR.1 j y hy, hWR.2.1, hWR.2.2⟩
      exact h0.mem fun y hy => by
        have := hS.w (by rw [hω]; exact hy)
        exact sS_n (by omega)
    refine vX6_letPass_4 gk ⟨fun q => absurd q (nI_ge (by omega) (by omega)), fun _ => ⟨_, rfl, hS.ty, fun σ1 es => ?_⟩⟩
    rw [si_sS] at es
    subst es
    have hr2 : mr (sS σ st (upd (mi σ st) 3 (mi σ st 3 + 1))) st 2 = some (st + 3) := hS.r2
    refine ⟨_, hr2, 8, hS.t2, ?_⟩
    rw [hr2]
    refine kX6_letPass_33 gk (E := []) (σ0 := σ0) (b0 := b + 9 * i + 1 + 8) (by omega) hV.n4 m X _ ρ _ c (b + 9 * i + 1) hX hω (by omega) hV1 hJ1 (fun e he => by cases he) hWR1 hP1 (hF.trans (Fr.sS (by omega) (by omega))) fun σ2 ρ2 X2 E2 hω2 hV2 hJ2 hE2 hR2 hP2 hF2 => ?_
    rw [← hstep] at hV2 hJ2 hR2 hP2 ⊢
    have hS2 := hV2.s
    have hR3 : WR σ2 X2 (E2 ++ F) (pP P (i + 1)).1 := by
      refine ⟨hR2.1, fun y hy => ?_, fun y hy => ?_⟩
      · rcases List.mem_append.mp hy with q | q
        · exact (hE2 y q).1
        · exact hR2.2.1 y q
      · simp at hy
        rcases hy with q | q | q
        · exact hR2.2.2 y (by simp [q])
        · exact (hE2 y q).2
        · exact hR2.2.2 y (by simp [q])
    have hsrt : srtd (ltW σ2) X2 := hR3.srt fun i j hij hj => hP2.le hij hj
    have hsort : isR (ltW σ2) [] ω = X2 ++ (E2 ++ F) := by
      have := sort_gap (σ := σ2) (A := []) (E := E2) (B := X2) (F := F) (fun y hy => (hE2 y hy).1) hR2.2.1 (fun y hy => ?_) (by simpa using hsrt)
      · rw [hω2]; simpa using this
      · obtain ⟨j, hj⟩ := List.getElem?_of_mem hy
        rw [(hR2.1 j y hj).1]; decide
    refine vX6_letPass_33 gk ⟨fun _ => ⟨_, rfl, hS2.ty, kX6_sortWarmings gk hS2.was (vX6_letPass_108 gk ?_)⟩, fun q => absurd (Int32.le_refl _) q⟩
    rw [hsort, nA1]
    have hp : (X2 ++ (E2 ++ F)).Perm ω := by
      rw [hω2, ← List.append_assoc, ← List.append_assoc]
      exact List.perm_append_comm.append_right F
    refine kX6_letPass_4 gk hx hb hk d (i + 1) (by omega) _ ?_ (hF2.trans (Fr.sO (by omega) (by omega)))
    have := RS_fin hV2 hp hR3 hP2 hJ2
    rw [show b + 9 * (i + 1) = b + 9 * i + 1 + 8 by omega]
    exact this
theorem kX6_letPass (gk : GOK G) (hb : b < 2 ^ 27) (h : RS σ st P b) {x : Nat} (hx : x ≤ 60) (hk : ∀ σ', RS σ' st (pP P x).1 (b + 9 * x) → Fr σ σ' st → K (.inl (some (vI (nI (pP P x).2)))) σ') : Runs G mX6_letPass rX6_letPass [vR (some st), vI (nI x)] σ K :=
  eX6_letPass gk (kX6_letPass_4 gk hx hb hk x 0 (by omega) σ h Fr.refl)
end SZ
