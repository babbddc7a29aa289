/-! ===== the class: warmings planned and taken out ===== -/
theorem PI.cgw {P Q : Nat → Int32} {n b : Nat} (e0 : ∀ k, k < 834 → k ≠ 1 → Q k = P k) (h : PI P n b) : PI Q n b := by
  have e : ∀ k, (k < 834 ∧ k ≠ 1) → Q k = P k := fun k z => e0 k z.1 z.2
  obtain ⟨h1, h2, h3, h4, h5, h6, h7⟩ := h
  have hn := h1.1
  have ee : ∀ k l i, k < 4 → l < 26 → i < 7 → Q (eX k l + i) = P (eX k l + i) := fun k l i hk hl hi => e _ (by unfold eX; omega)
  have ec : ∀ k, k < 4 → ecN Q k = ecN P k := fun k hk => cnt_congr fun l hl => by rw [show Q (eX k l) = P (eX k l) from ee k l 0 hk hl (by omega)]
  refine ⟨?_, ?_, fun l hl => ?_, fun k hk => ?_, fun k l hk hl => ?_, fun k l l' hk hl hl' => ?_, ?_⟩
  · rw [e 0 (by omega)]; exact h1
  · rw [e 2 (by omega), e 3 (by omega), e 4 (by omega), e 5 (by omega), e 6 (by omega), e 7 (by omega)]; exact h2
  · rw [e (8 + 3 * l) (by omega), e (8 + 3 * l + 1) (by omega), e (8 + 3 * l + 2) (by omega), e 3 (by omega)]; exact h3 l hl
  · rw [ec k (by omega), e (86 + 187 * k) (by omega), e (86 + 187 * k + 2) (by omega), e (86 + 187 * k + 3) (by omega), e (86 + 187 * k + 4) (by omega)]; exact h4 k hk
  · rw [show Q (eX k l) = P (eX k l) from ee k l 0 (by omega) hl (by omega), ee k l 1 (by omega) hl (by omega), ee k l 2 (by omega) hl (by omega), ee k l 3 (by omega) hl (by omega), ee k l 4 (by omega) hl (by omega), ee k l 5 (by omega) hl (by omega), ee k l 6 (by omega) hl (by omega), e (8 + 3 * l + 1) (by omega), e (8 + 3 * l + 2) (by omega), e 2 (by omega), e 3 (by omega)]
    exact h5 k l hk hl
  · rw [show Q (eX k l) = P (eX k l) from ee k l 0 (by omega) hl (by omega), show Q (eX k l') = P (eX k l') from ee k l' 0 (by omega) hl' (by omega), ee k l 3 (by omega) hl (by omega), ee k l 4 (by omega) hl (by omega), ee k l' 3 (by omega) hl' (by omega), ee k l' 4 (by omega) hl' (by omega)]
    exact h6 k l l' hk hl hl'
  · rw [show jrN Q = jrN P from cnt_congr fun l hl => by rw [e (8 + 3 * l) (by omega)]]; exact h7
theorem EJ.cgw {P Q : Nat → Int32} {n : Nat} (hn : n ≤ 4) (e0 : ∀ k, k < 834 → k ≠ 1 → Q k = P k) (h : EJ P n) : EJ Q n := fun k l hk hl => by
  rw [e0 (eX k l) (by unfold eX; omega) (by unfold eX; omega), e0 (8 + 3 * l) (by omega) (by omega)]
  exact h k l hk hl
theorem EV.cgw {J : Nat → Nat → Int32} {P Q : Nat → Int32} {k : Nat} {p : Int32} {rs : List (Nat → Int32)} (hk : k < 4) (e0 : ∀ k, k < 834 → k ≠ 1 → Q k = P k) (h : EV J P k p rs) : EV J Q k p rs := by
  have e : ∀ k, (k < 834 ∧ k ≠ 1) → Q k = P k := fun k z => e0 k z.1 z.2
  have ee : ∀ l i, l < 26 → i < 7 → Q (eX k l + i) = P (eX k l + i) := fun l i hl hi => e _ (by unfold eX; omega)
  obtain ⟨a1, a2, a3, a4, a5, a6⟩ := h
  refine ⟨a1, a2, fun r hr h0 => ?_, fun l hl h1 => a4 l hl (by rw [← show Q (eX k l) = P (eX k l) from ee l 0 hl (by omega)]; exact h1), a5, a6⟩
  obtain ⟨l, hl, q, h9⟩ := a3 r hr h0
  refine ⟨l, hl, q, ?_⟩
  unfold eV
  rw [show Q (eX k l) = P (eX k l) from ee l 0 hl (by omega), ee l 1 hl (by omega), ee l 2 hl (by omega), ee l 3 hl (by omega), ee l 4 hl (by omega), ee l 5 hl (by omega), ee l 6 hl (by omega), e (8 + 3 * l + 2) (by omega)]
  exact h9
theorem VV2.cgw {J : Nat → Nat → Int32} {H : Nat → Nat → Int32} {E : Nat → List (Nat → Int32)} {g P Q : Nat → Int32} {n b : Nat} (e0 : ∀ k, k < 834 → k ≠ 1 → Q k = P k) (h : VV2 J H E g P n b) : VV2 J H E g Q n b := by
  have e : ∀ k, (k < 834 ∧ k ≠ 1) → Q k = P k := fun k z => e0 k z.1 z.2
  obtain ⟨hP, hJ, hG, hE, hN⟩ := h
  have hn := hP.1.1
  refine ⟨hP.cgw e0, fun l hl => ?_, ?_, fun k hk => ⟨?_, ?_⟩, hN⟩
  · rw [e (8 + 3 * l) (by omega), e (8 + 3 * l + 1) (by omega), e (8 + 3 * l + 2) (by omega)]; exact hJ l hl
  · unfold GV; rw [e 2 (by omega), e 3 (by omega), e 4 (by omega), e 5 (by omega), e 6 (by omega), e 7 (by omega)]; exact hG
  · unfold HV; rw [e (86 + 187 * k) (by omega), e (86 + 187 * k + 1) (by omega), e (86 + 187 * k + 2) (by omega), e (86 + 187 * k + 3) (by omega), e (86 + 187 * k + 4) (by omega)]; exact (hE k hk).1
  · rw [e (86 + 187 * k + 2) (by omega)]; exact (hE k hk).2.cgw (by omega) e0
section SX
variable {G : GG} {σ : Mm} {K : RES → Mm → Prop} {st b n m : Nat} {ω : List Nat} {ρ : Nat → List Nat} {P : Nat → Int32}
theorem stS.was (hS : stS σ st ω ρ) : waS σ st ω := ⟨hS.ty, hS.r2, hS.t2, hS.wl, hS.2.2.2.1, hS.2.2.2.2.2⟩
theorem stS.sow (h : stS σ st ω ρ) {L : List Nat} (hp : L.Perm ω) : stS (sO σ (st + 3) L) st L ρ := by
  have er : ∀ q, q ≠ st + 3 → mr (sO σ (st + 3) L) q = mr σ q := fun q hq => sO_n hq
  refine ⟨by rw [er st (by omega)]; exact h.1, fun l hl => by rw [er (st + 1) (by omega)]; exact h.2.1 l hl, fun k hk => ?_, fun i e he => sO_at he, hp.trans h.2.2.2.2.1, fun e he => h.2.2.2.2.2 e (hp.mem_iff.mp he)⟩
  rw [er (st + 2) (by omega)]
  have hs := h.s hk
  refine ⟨hs.1, ?_, hs.2.2⟩
  unfold shS
  rw [er (st + 30 + 8 * k) (by omega), er (st + 30 + 8 * k + 1) (by omega)]
  exact hs.2.1
theorem stS.wnd (h : stS σ st ω ρ) : ω.Nodup := h.2.2.2.2.1.nodup_iff.mpr List.nodup_range'
/-- the warmings' cells and places apart -/
theorem RV.warm (h : RV σ st P b n ω ρ) {σ' : Mm} {ω' : List Nat} {P' : Nat → Int32} (hS' : stS σ' st ω' ρ) (hq : ∀ q, st ≤ q → q < st + 62 → mi σ' q = mi σ q) (e : ∀ j, j < 834 → j ≠ 1 → P' j = P j) : RV σ' st P' b n ω' ρ := by
  have hV : VV2 (vJ σ' st) (vH σ' st) (fun k => vE σ' (ρ k)) (vG σ st) P' n b := (h.2.cgw e).ch (fun l hl => vJ_cg (hq _ (by omega) (by omega))) (fun k hk => vH_cg (hq _ (by omega) (by omega))) (fun k hk => vE_cg fun x hx => by
    have := hS'.e hk hx
    exact hq x (by omega) (by omega))
  refine ⟨hS', ?_⟩
  rw [vG_cg (σ := σ) (hq st (by omega) (by omega))]
  exact hV
/-- the rows of X are the model's warmings, those of F are free -/
def WR (σ : Mm) (X F : List Nat) (P : Nat → Int32) : Prop := (∀ j x, X[j]? = some x → mi σ x 0 = 1 ∧ mi σ x 1 = P (834 + 3 * j) ∧ mi σ x 2 = P (834 + 3 * j + 1) ∧ mi σ x 3 = P (834 + 3 * j + 2)) ∧ (∀ x, x ∈ F → mi σ x 0 = 0) ∧ (∀ x, x ∈ X ++ F → isC (mi σ x 3))
theorem RW.split (h : RW σ ω P n m b) : ∃ X F, ω = X ++ F ∧ X.length = m ∧ WR σ X F P := by
  obtain ⟨⟨h1, h2, h3⟩, hP⟩ := h
  have hm := hP.1.1
  have hl : ω.length = 8 := by simpa [vW] using h1
  have hv : ∀ i x, ω[i]? = some x → (vW σ ω)[i]? = some (nr 4 (mi σ x)) := fun i x hx => by unfold vW; rw [List.getElem?_map, hx]; rfl
  refine ⟨ω.take m, ω.drop m, (List.take_append_drop m ω).symm, by rw [List.length_take]; omega, fun j x hx => ?_, fun x hx => ?_, fun x hx => ?_⟩
  · have hj : j < m := by
      have := (List.getElem?_eq_some_iff.mp hx).1
      rw [List.length_take] at this
      omega
    rw [List.getElem?_take_of_lt hj] at hx
    have := (h3 j _ (hv j x hx)).1 hj
    rw [nr_s (by omega), nr_s (by omega), nr_s (by omega), nr_s (by omega)] at this
    exact this
  · obtain ⟨j, hj⟩ := List.getElem?_of_mem hx
    rw [List.getElem?_drop] at hj
    have := (h3 (m + j) _ (hv _ x hj)).2 (by omega)
    rw [nr_s (by omega)] at this
    exact this
  · rw [List.take_append_drop] at hx
    have := h2 _ (List.mem_map.mpr ⟨x, hx, rfl⟩)
    rw [nr_s (by omega)] at this
    exact this
/-- ordered again: X ++ F are the rows -/
theorem RS_fin {σ1 : Mm} {Q : Nat → Int32} (hV : RV σ1 st Q b n ω ρ) {X F : List Nat} (hp : (X ++ F).Perm ω) (hR : WR σ1 X F Q) (hPW : PW Q n X.length b) (hJ : EJ Q n) : RS (sO σ1 (st + 3) (X ++ F)) st Q b := by
  have hl : (X ++ F).length = 8 := hp.length_eq.trans hV.s.wl
  refine ⟨X ++ F, ρ, n, X.length, hV.warm (hV.s.sow hp) (fun q _ _ => rfl) (fun _ _ _ => rfl), ⟨⟨by unfold vW; rw [List.length_map]; exact hl, fun w hw => ?_, fun i w hi => ?_⟩, hPW⟩, hJ⟩
  · obtain ⟨x, hx, rfl⟩ := List.mem_map.mp hw
    rw [nr_s (by omega)]
    exact hR.2.2 x hx
  · unfold vW at hi
    rw [List.getElem?_map, Option.map_eq_some_iff] at hi
    obtain ⟨x, hx, rfl⟩ := hi
    refine ⟨fun him => ?_, fun him => ?_⟩
    · rw [nr_s (by omega), nr_s (by omega), nr_s (by omega), nr_s (by omega)]
      rw [List.getElem?_append_left him] at hx
      exact hR.1 i x hx
    · rw [nr_s (by omega)]
      rw [List.getElem?_append_right him] at hx
      exact hR.2.1 x (List.mem_of_getElem? hx)
theorem PW.le (h : PW P n m b) {i : Nat} : ∀ {j : Nat}, i ≤ j → j < m → (P (834 + 3 * i)).toInt ≤ (P (834 + 3 * j)).toInt
  | 0, hij, hj => by
    obtain rfl : i = 0 := by omega
    exact Int.le_refl _
  | j + 1, hij, hj => by
    by_cases z : i = j + 1
    · subst z; exact Int.le_refl _
    · have := h.le (i := i) (j := j) (by omega) (by omega)
      have := h.2.2 j hj
      omega
/-- rows with the model's minutes, in their order -/
theorem WR.srt {X F : List Nat} (h : WR σ X F P) (hle : ∀ i j, i ≤ j → j < X.length → (P (834 + 3 * i)).toInt ≤ (P (834 + 3 * j)).toInt) : srtd (ltW σ) X := by
  refine List.pairwise_iff_getElem.mpr fun i j hi hj hij q => ?_
  have a := h.1 i X[i] (List.getElem?_eq_getElem hi)
  have c := h.1 j X[j] (List.getElem?_eq_getElem hj)
  rcases q.2 with z | z
  · rw [a.1] at z; exact absurd z (by decide)
  · rw [a.2.1, c.2.1, Int32.lt_iff_toInt_lt] at z
    have := hle i j (by omega) hj
    omega
/-- another memory with the same rows -/
theorem WR.mem {σ' : Mm} {X F : List Nat} (h : WR σ X F P) (e : ∀ x, x ∈ X ++ F → mi σ' x = mi σ x) : WR σ' X F P :=
  ⟨fun j x hx => by rw [e x (List.mem_append_left _ (List.mem_of_getElem? hx))]; exact h.1 j x hx, fun x hx => by rw [e x (List.mem_append_right _ hx)]; exact h.2.1 x hx, fun x hx => by rw [e x hx]; exact h.2.2 x hx⟩
theorem cw_PW {i : Nat} (h : PW P n m b) (hi : i < m) : PW (cwP P i m) n (m - 1) b := by
  obtain ⟨⟨h1, h2⟩, h3, h4⟩ := h
  have ev : ∀ j c, j < m - 1 → c < 3 → cwP P i m (834 + 3 * j + c) = P (834 + 3 * (if j < i then j else j + 1) + c) := fun j c hj hc => by
    by_cases z : j < i
    · rw [cwP_lo (by omega) (by omega), if_pos z]
    · rw [cwP_hi (by omega) (by omega), if_neg z, show 834 + 3 * j + c + 3 = 834 + 3 * (j + 1) + c by omega]
  have ev0 : ∀ j, j < m - 1 → cwP P i m (834 + 3 * j) = P (834 + 3 * (if j < i then j else j + 1)) := fun j hj => ev j 0 hj (by omega)
  have e2 : cwP P i m 2 = P 2 := cwP_lo (by omega) (by omega)
  refine ⟨⟨by omega, cwP_1⟩, fun j hj => ?_, fun j hj => ?_⟩
  · rw [e2, ev0 j hj, ev j 1 hj (by omega), ev j 2 hj (by omega)]
    exact h3 _ (by split <;> omega)
  · rw [ev0 j (by omega), ev0 (j + 1) hj]
    refine PW.le ⟨⟨h1, h2⟩, h3, h4⟩ ?_ ?_
    · split <;> split <;> omega
    · split <;> omega
theorem kX6_removeWarming (gk : GOK G) (hV : RV σ st P b n ω ρ) (hW : RW σ ω P n m b) (hJ : EJ P n) {i e : Nat} (hi : i < m) (he : ω[i]? = some e) (hk : ∀ σ', RS σ' st (cwP P i m) b → Fr σ σ' st → K (.inl none) σ') : Runs G mX6_removeWarming rX6_removeWarming [vR (some st), vR (some e)] σ K := by
  have hS := hV.s
  have heω := List.mem_of_getElem? he
  have hwe := hS.w heω
  obtain ⟨X, F, hω, hX, hR⟩ := hW.split
  have hnd := hS.wnd
  have heX : X[i]? = some e := by rw [hω, List.getElem?_append_left (by omega)] at he; exact he
  obtain ⟨hiX, hei⟩ := List.getElem?_eq_some_iff.mp heX
  have hXs : X = X.take i ++ e :: X.drop (i + 1) := by
    rw [← hei, List.getElem_cons_drop]
    exact (List.take_append_drop i X).symm
  generalize hA : X.take i = A at hXs
  generalize hB : X.drop (i + 1) = B at hXs
  have hAl : A.length = i := by rw [← hA, List.length_take]; omega
  have hBl : A.length + B.length + 1 = m := by rw [← hX, hXs]; simp; omega
  have hω2 : ω = A ++ ([e] ++ (B ++ F)) := by rw [hω, hXs]; simp
  have hdj : ∀ x, x ∈ A ∨ x ∈ B ∨ x ∈ F → x ≠ e := fun x hx z => by
    subst z
    rw [hω2] at hnd
    have h1 := List.nodup_append.mp hnd
    rcases hx with q | q
    · exact h1.2.2 x q x (by simp) rfl
    · have h2 := (List.nodup_cons.mp h1.2.1).1
      exact h2 (by simpa using q)
  have hR1 : WR (sS σ e (upd (mi σ e) 0 0)) (A ++ B) (e :: F) (cwP P i m) := by
    refine ⟨fun j x hx => ?_, fun x hx => ?_, fun x hx => ?_⟩
    · have hjl := (List.getElem?_eq_some_iff.mp hx).1
      rw [List.length_append] at hjl
      have hxm : x ∈ A ∨ x ∈ B := List.mem_append.mp (List.mem_of_getElem? hx)
      rw [sS_n (hdj x (hxm.imp id Or.inl))]
      by_cases z : j < i
      · rw [List.getElem?_append_left (by omega)] at hx
        rw [cwP_lo (by omega) (by omega), cwP_lo (by omega) (by omega), cwP_lo (by omega) (by omega)]
        refine hR.1 j x ?_
        rw [hXs, List.getElem?_append_left (by omega)]
        exact hx
      · rw [List.getElem?_append_right (by omega)] at hx
        rw [cwP_hi (by omega) (by omega), cwP_hi (by omega) (by omega), cwP_hi (by omega) (by omega)]
        have := hR.1 (j + 1) x (by
          rw [hXs, List.getElem?_append_right (by omega), show j + 1 - A.length = j - A.length + 1 by omega, List.getElem?_cons_succ]
          exact hx)
        rw [show 834 + 3 * (j + 1) = 834 + 3 * j + 3 by omega, show 834 + 3 * j + 3 + 1 = 834 + 3 * j + 1 + 3 by omega, show 834 + 3 * j + 3 + 2 = 834 + 3 * j + 2 + 3 by omega] at this
        exact this
    · rcases List.mem_cons.mp hx with q | q
      · subst q; rw [sS_s, pk_us]
      · rw [sS_n (hdj x (Or.inr (Or.inr q)))]; exact hR.2.1 x q
    · by_cases z : x = e
      · subst z; rw [sS_s, pk_un (by omega)]; exact hR.2.2 x (by rw [← hω]; exact heω)
      · rw [sS_n z]
        refine hR.2.2 x ?_
        rw [hXs]
        simp at hx ⊢
        rcases hx with q | q | q | q
        · exact Or.inl q
        · exact Or.inr (Or.inr (Or.inl q))
        · exact absurd q z
        · exact Or.inr (Or.inr (Or.inr q))
  have hPW := cw_PW hW.2 hi
  have hlen : (A ++ B).length = m - 1 := by rw [List.length_append]; omega
  have hsrt : srtd (ltW (sS σ e (upd (mi σ e) 0 0))) (A ++ B) := hR1.srt fun i j hij hj => hPW.le hij (by omega)
  have hsort : isR (ltW (sS σ e (upd (mi σ e) 0 0))) [] ω = (A ++ B) ++ (e :: F) := by
    rw [hω2, sort_gap (fun x hx => by
      obtain rfl : x = e := by simpa using hx
      rw [sS_s, pk_us]) (fun x hx => hR1.2.1 x (List.mem_cons_of_mem _ hx)) (fun x hx => ?_) hsrt]
    · simp
    · obtain ⟨j, hj⟩ := List.getElem?_of_mem (List.mem_append_right A hx)
      rw [(hR1.1 j x hj).1]; decide
  refine eX6_removeWarming gk ⟨_, rfl, hS.2.2.2.2.2 e heω, fun σ1 e1 => ⟨_, rfl, ?_, ?_⟩⟩
  · exact hS.ty
  rw [si_sS] at e1
  subst e1
  have hS1 : stS (sS σ e (upd (mi σ e) 0 0)) st ω ρ := hS.mv rfl rfl
  refine kX6_sortWarmings gk hS1.was (vX6_removeWarming_9 gk ?_)
  rw [hsort]
  have hV1 : RV (sS σ e (upd (mi σ e) 0 0)) st (cwP P i m) b n ω ρ := hV.warm hS1 (fun q h1 h2 => sS_n (by omega)) (fun j h1 h2 => cwP_lo h2 (by omega))
  have hp : ((A ++ B) ++ (e :: F)).Perm ω := by
    rw [hω2]
    simpa using (List.perm_middle (l₁ := B) (a := e) (l₂ := F)).append_left A
  exact hk _ (RS_fin hV1 hp hR1 (by rw [hlen]; exact hPW) (hJ.cgw hV.n4 fun j h1 h2 => cwP_lo h2 (by omega))) ((Fr.sS (by omega) (by omega)).trans (Fr.sO (by omega) (by omega)))
end SX
