/-! ===== the class: what is done to one shelf; a jar dropped ===== -/
def oSh (k j : Nat) : Prop := j < 86 + 187 * k ∨ 273 + 187 * k ≤ j
theorem oSh_eX {k k' l i : Nat} (h : k' ≠ k) (hl : l < 26) (hi : i < 7) : oSh k (eX k' l + i) := by
  unfold oSh eX
  rcases Nat.lt_or_ge k' k with q | q <;> omega
theorem oSh_hd {k k' i : Nat} (h : k' ≠ k) (hi : i < 187) : oSh k (86 + 187 * k' + i) := by
  unfold oSh
  rcases Nat.lt_or_ge k' k with q | q <;> omega
theorem PI_sh {P P' : Nat → Int32} {n b b' k : Nat} (hP : PI P n b) (hbb : b ≤ b') (hk : k < n) (eo : ∀ j, 8 ≤ j → oSh k j → P' j = P j) (e0 : P' 0 = P 0) (hg : NB (P' 2) b' ∧ NB (P' 3) b' ∧ NB (P' 4) b' ∧ NB (P' 5) b' ∧ NB (P' 6) b' ∧ NB (P' 7) b') (h2 : (P 2).toInt ≤ (P' 2).toInt) (h3 : (P 3).toInt ≤ (P' 3).toInt)
    (hs : 1 ≤ (P' (86 + 187 * k)).toInt ∧ (P' (86 + 187 * k)).toInt ≤ 6 ∧ isC (P' (86 + 187 * k + 2)) ∧ isZ (P' (86 + 187 * k + 3)) ∧ NB (P' (86 + 187 * k + 4)) b' ∧ (ecN P' k : Int) ≤ (P' (86 + 187 * k)).toInt)
    (he : ∀ l, l < 26 → isZ (P' (eX k l)) ∧ (P' (eX k l) = 1 → NB (P' (eX k l + 1)) 99 ∧ 0 ≤ (P' (eX k l + 2)).toInt ∧ (P' (eX k l + 2)).toInt ≤ (P' 2).toInt ∧ 0 ≤ (P' (eX k l + 3)).toInt ∧ (P' (eX k l + 3)).toInt < (P' 3).toInt ∧ 0 ≤ (P' (eX k l + 4)).toInt ∧ (P' (eX k l + 4)).toInt < (P' 3).toInt ∧ NB (P' (eX k l + 5)) b' ∧ isZ (P' (eX k l + 6)) ∧ (P (8 + 3 * l + 2) < P' (eX k l + 3) → P' (eX k l + 1) = P (8 + 3 * l + 1))))
    (hd : ∀ l l', l < 26 → l' < 26 → l ≠ l' → P' (eX k l) = 1 → P' (eX k l') = 1 → P' (eX k l + 3) ≠ P' (eX k l' + 3) ∧ P' (eX k l + 4) ≠ P' (eX k l' + 4)) : PI P' n b' := by
  obtain ⟨h1, -, hj, h4, h5, h6, h7⟩ := hP.mono hbb
  have hn := h1.1
  have ej : ∀ j, 8 ≤ j → j < 86 → P' j = P j := fun j h h' => eo j h (by unfold oSh; omega)
  have ex : ∀ k' l i, k' ≠ k → l < 26 → i < 7 → P' (eX k' l + i) = P (eX k' l + i) := fun k' l i h hl hi => eo _ (by have := eX_ge k' l; omega) (oSh_eX h hl hi)
  have ex0 : ∀ k' l, k' ≠ k → l < 26 → P' (eX k' l) = P (eX k' l) := fun k' l h hl => ex k' l 0 h hl (by omega)
  have eh : ∀ k' i, k' ≠ k → i < 187 → P' (86 + 187 * k' + i) = P (86 + 187 * k' + i) := fun k' i h hi => eo _ (by omega) (oSh_hd h hi)
  have eh0 : ∀ k', k' ≠ k → P' (86 + 187 * k') = P (86 + 187 * k') := fun k' h => eh k' 0 h (by omega)
  refine ⟨by rw [e0]; exact h1, hg, fun l hl => ?_, fun k' hk' => ?_, fun k' l hk' hl => ?_, fun k' l l' hk' hl hl' => ?_, ?_⟩
  · rw [ej (8 + 3 * l) (by omega) (by omega), ej (8 + 3 * l + 1) (by omega) (by omega), ej (8 + 3 * l + 2) (by omega) (by omega)]
    obtain ⟨c1, c2, c3, c4, c5⟩ := hj l hl
    exact ⟨c1, c2, c3, by omega, fun q => by have := c5 q; omega⟩
  · by_cases z : k' = k
    · subst z; exact hs
    · rw [show ecN P' k' = ecN P k' from cnt_congr fun l hl => by rw [ex0 k' l z hl], eh0 k' z, eh k' 2 z (by omega), eh k' 3 z (by omega), eh k' 4 z (by omega)]
      exact h4 k' hk'
  · rw [ej (8 + 3 * l + 1) (by omega) (by omega), ej (8 + 3 * l + 2) (by omega) (by omega)]
    by_cases z : k' = k
    · subst z; exact he l hl
    · rw [ex0 k' l z hl, ex k' l 1 z hl (by omega), ex k' l 2 z hl (by omega), ex k' l 3 z hl (by omega), ex k' l 4 z hl (by omega), ex k' l 5 z hl (by omega), ex k' l 6 z hl (by omega)]
      refine ⟨(h5 k' l hk' hl).1, fun q => ?_⟩
      obtain ⟨a2, a3, a4, a5, a6, a7, a8, a9, a10, a11⟩ := (h5 k' l hk' hl).2 q
      exact ⟨a2, a3, by omega, a5, by omega, a7, by omega, a9, a10, a11⟩
  · by_cases z : k' = k
    · subst z; exact hd l l' hl hl'
    · rw [ex0 k' l z hl, ex0 k' l' z hl', ex k' l 3 z hl (by omega), ex k' l 4 z hl (by omega), ex k' l' 3 z hl' (by omega), ex k' l' 4 z hl' (by omega)]
      exact h6 k' l l' hk' hl hl'
  · rw [show jrN P' = jrN P from cnt_congr fun l hl => by rw [ej (8 + 3 * l) (by omega) (by omega)]]; exact h7
theorem VV2_sh {J : Nat → Nat → Int32} {H H' : Nat → Nat → Int32} {E E' : Nat → List (Nat → Int32)} {g g' P P' : Nat → Int32} {n b b' k : Nat} (hV : VV2 J H E g P n b) (hbb : b ≤ b') (hP' : PI P' n b') (eo : ∀ j, 8 ≤ j → oSh k j → P' j = P j) (hG : GV g' P') (hH : HV (H' k) P' k) (hE' : EV J P' k (P' (86 + 187 * k + 2)) (E' k)) (eH : ∀ k', k' < 4 → k' ≠ k → H' k' = H k') (eE : ∀ k', k' < 4 → k' ≠ k → E' k' = E k') (hk : k < n) : VV2 J H' E' g' P' n b' := by
  obtain ⟨hP, hJ, -, hE, hN⟩ := hV
  have ej : ∀ j, 8 ≤ j → j < 86 → P' j = P j := fun j h h' => eo j h (by unfold oSh; omega)
  have ex : ∀ k' l i, k' ≠ k → l < 26 → i < 7 → P' (eX k' l + i) = P (eX k' l + i) := fun k' l i h hl hi => eo _ (by have := eX_ge k' l; omega) (oSh_eX h hl hi)
  have ex0 : ∀ k' l, k' ≠ k → l < 26 → P' (eX k' l) = P (eX k' l) := fun k' l h hl => ex k' l 0 h hl (by omega)
  have eh : ∀ k' i, k' ≠ k → i < 187 → P' (86 + 187 * k' + i) = P (86 + 187 * k' + i) := fun k' i h hi => eo _ (by omega) (oSh_hd h hi)
  have eh0 : ∀ k', k' ≠ k → P' (86 + 187 * k') = P (86 + 187 * k') := fun k' h => eh k' 0 h (by omega)
  refine ⟨hP', fun l hl => ?_, hG, fun k' hk' => ?_, fun k' hk' hk2 => ?_⟩
  · rw [ej (8 + 3 * l) (by omega) (by omega), ej (8 + 3 * l + 1) (by omega) (by omega), ej (8 + 3 * l + 2) (by omega) (by omega)]
    exact hJ.mono hbb l hl
  · by_cases z : k' = k
    · subst z; exact ⟨hH, hE'⟩
    · have hn := hP.1.1
      rw [eH k' (by omega) z, eE k' (by omega) z]
      refine ⟨?_, ?_⟩
      · unfold HV
        rw [eh0 k' z, eh k' 1 z (by omega), eh k' 2 z (by omega), eh k' 3 z (by omega), eh k' 4 z (by omega)]
        exact (hE k' hk').1
      · rw [eh k' 2 z (by omega)]
        obtain ⟨a1, a2, a3, a4, a5, a6⟩ := (hE k' hk').2
        refine ⟨a1, a2, fun r hr h0 => ?_, fun l hl h1 => a4 l hl (by rw [← ex0 k' l z hl]; exact h1), a5, a6⟩
        obtain ⟨l, hl, q, h9⟩ := a3 r hr h0
        refine ⟨l, hl, q, ?_⟩
        unfold eV
        rw [ex0 k' l z hl, ex k' l 1 z hl (by omega), ex k' l 2 z hl (by omega), ex k' l 3 z hl (by omega), ex k' l 4 z hl (by omega), ex k' l 5 z hl (by omega), ex k' l 6 z hl (by omega), ej (8 + 3 * l + 2) (by omega) (by omega)]
        exact h9
  · have z : k' ≠ k := by omega
    rw [eH k' hk' z, eE k' hk' z]
    exact hN k' hk' hk2
/-- without the order -/
def EB (σ : Mm) (J : Nat → Nat → Int32) (P : Nat → Int32) (k : Nat) (L : List Nat) : Prop :=
  L.length = 6 ∧ (∀ e, e ∈ L → isZ (mi σ e 0) ∧ isZ (mi σ e 8) ∧ isC (mi σ e 1)) ∧ (∀ e, e ∈ L → mi σ e 0 = 1 → ∃ l, l < 26 ∧ mi σ e 1 = nI (97 + l) ∧ eV J P k l (mi σ e)) ∧
  (∀ l, l < 26 → P (eX k l) = 1 → ∃ e, e ∈ L ∧ mi σ e 0 = 1 ∧ mi σ e 1 = nI (97 + l)) ∧ L.Pairwise (fun e f => mi σ e 0 = 1 → mi σ f 0 = 1 → mi σ e 1 ≠ mi σ f 1)
theorem EB.perm {σ : Mm} {J : Nat → Nat → Int32} {P : Nat → Int32} {k : Nat} {L L' : List Nat} (h : EB σ J P k L) (hp : L'.Perm L) : EB σ J P k L' := by
  obtain ⟨h1, h2, h3, h4, h5⟩ := h
  refine ⟨by rw [hp.length_eq]; exact h1, fun e he => h2 e (hp.mem_iff.mp he), fun e he => h3 e (hp.mem_iff.mp he), fun l hl q => ?_, ?_⟩
  · obtain ⟨e, he, q'⟩ := h4 l hl q
    exact ⟨e, hp.mem_iff.mpr he, q'⟩
  · exact (hp.pairwise_iff (fun {x y} r hy hx q => r hx hy q.symm)).mpr h5
theorem EB.ea {σ : Mm} {J : Nat → Nat → Int32} {P : Nat → Int32} {k : Nat} {L : List Nat} {p : Int32} (h : EB σ J P k L) (hs : srtd (ltE σ p) L) : EA σ J P k p L := ⟨h.1, h.2.1, h.2.2.1, h.2.2.2.1, h.2.2.2.2, hs⟩
theorem EA.eb {σ : Mm} {J : Nat → Nat → Int32} {P : Nat → Int32} {k : Nat} {L : List Nat} {p : Int32} (h : EA σ J P k p L) : EB σ J P k L := ⟨h.1, h.2.1, h.2.2.1, h.2.2.2.1, h.2.2.2.2.1⟩
theorem eX_ne {k l l' i j : Nat} (h : l' ≠ l) (hi : i < 7) (hj : j < 7) : eX k l' + i ≠ eX k l + j := by
  unfold eX
  rcases Nat.lt_or_ge l' l with q | q <;> omega
theorem eV_cg {J : Nat → Nat → Int32} {P P' : Nat → Int32} {k l : Nat} {r : Nat → Int32} (h : eV J P k l r) (e : ∀ i, i < 7 → P' (eX k l + i) = P (eX k l + i)) (e2 : P' (8 + 3 * l + 2) = P (8 + 3 * l + 2)) : eV J P' k l r := by
  unfold eV
  rw [show P' (eX k l) = P (eX k l) from e 0 (by omega), e 1 (by omega), e 2 (by omega), e 3 (by omega), e 4 (by omega), e 5 (by omega), e 6 (by omega), e2]
  exact h
theorem EB.rm {σ : Mm} {J : Nat → Nat → Int32} {P : Nat → Int32} {k l e : Nat} {L : List Nat} (h : EB σ J P k L) (hl : l < 26) (he : e ∈ L) (e0 : mi σ e 0 = 1) (e1 : mi σ e 1 = nI (97 + l)) : EB (sS σ e (upd (mi σ e) 0 0)) J (upd P (eX k l) 0) k L := by
  obtain ⟨h1, h2, h3, h4, h5⟩ := h
  have s : ∀ f, f ≠ e → mi (sS σ e (upd (mi σ e) 0 0)) f = mi σ f := fun f hf => sS_n hf
  have se : mi (sS σ e (upd (mi σ e) 0 0)) e = upd (mi σ e) 0 0 := sS_s
  refine ⟨h1, fun f hf => ?_, fun f hf f0 => ?_, fun l' hl' q => ?_, ?_⟩
  · by_cases z : f = e
    · subst z; rw [se, pk_us, pk_un (show (8 : Nat) ≠ 0 by omega), pk_un (show (1 : Nat) ≠ 0 by omega)]
      exact ⟨Or.inl rfl, (h2 f hf).2⟩
    · rw [s f z]; exact h2 f hf
  · have z : f ≠ e := fun z => by rw [z, se, pk_us] at f0; exact absurd f0 (by decide)
    rw [s f z] at f0 ⊢
    obtain ⟨l', hl', q, h9⟩ := h3 f hf f0
    refine ⟨l', hl', q, eV_cg h9 (fun i hi => pk_un ?_) (pk_un (by have := eX_ge k l; omega))⟩
    refine eX_ne (j := 0) (fun w => ?_) hi (by omega)
    subst w
    exact pw_mem h5 (fun a b r hb ha q => r ha hb q.symm) hf he z f0 e0 (q.trans e1.symm)
  · have hne : l' ≠ l := fun w => by subst w; rw [pk_us] at q; exact absurd q (by decide)
    rw [pk_un (show eX k l' ≠ eX k l from eX_ne (i := 0) (j := 0) hne (by omega) (by omega))] at q
    obtain ⟨f, hf, f0, q'⟩ := h4 l' hl' q
    have z : f ≠ e := fun z => by rw [z, e1] at q'; exact hne (nIl_inj hl' hl q'.symm)
    exact ⟨f, hf, by rw [s f z]; exact f0, by rw [s f z]; exact q'⟩
  · refine h5.imp_of_mem fun {f g} hf hg r f0 g0 => ?_
    have zf : f ≠ e := fun z => by rw [z, se, pk_us] at f0; exact absurd f0 (by decide)
    have zg : g ≠ e := fun z => by rw [z, se, pk_us] at g0; exact absurd g0 (by decide)
    rw [s f zf] at f0 ⊢
    rw [s g zg] at g0 ⊢
    exact r f0 g0
theorem cnt_mono {p q : Nat → Prop} (h : ∀ i, p i → q i) : ∀ n, cnt p n ≤ cnt q n
  | 0 => Nat.le_refl _
  | n + 1 => by
    have ih := cnt_mono h n
    by_cases z : p n
    · rw [cnt_t z, cnt_t (h n z)]; omega
    · rw [cnt_f z]
      by_cases w : q n
      · rw [cnt_t w]; omega
      · rw [cnt_f w]; exact ih
theorem PI_rm {P : Nat → Int32} {n b k l : Nat} (hP : PI P n b) (hk : k < n) (hl : l < 26) : PI (upd P (eX k l) 0) n b := by
  have hge := eX_ge k l
  obtain ⟨h1, h2, h3, h4, h5, h6, h7⟩ := hP
  have e : ∀ j, j ≠ eX k l → upd P (eX k l) 0 j = P j := fun j h => pk_un h
  have ed : ∀ i, i < 5 → upd P (eX k l) 0 (86 + 187 * k + i) = P (86 + 187 * k + i) := fun i hi => e _ (by unfold eX; omega)
  refine PI_sh (k := k) ⟨h1, h2, h3, h4, h5, h6, h7⟩ (Nat.le_refl _) hk (fun j h8 ho => e j (fun z => by unfold oSh at ho; unfold eX at z; omega)) (e 0 (by omega)) (by rw [e 2 (by omega), e 3 (by omega), e 4 (by omega), e 5 (by omega), e 6 (by omega), e 7 (by omega)]; exact h2) (by rw [e 2 (by omega)]; omega) (by rw [e 3 (by omega)]; omega) ?_ (fun l' hl' => ?_) (fun l1 l2 hl1 hl2 hne q1 q2 => ?_)
  · rw [show upd P (eX k l) 0 (86 + 187 * k) = P (86 + 187 * k) from ed 0 (by omega), ed 2 (by omega), ed 3 (by omega), ed 4 (by omega)]
    obtain ⟨a1, a2, a3, a4, a5, a6⟩ := h4 k hk
    have : ecN (upd P (eX k l) 0) k ≤ ecN P k := cnt_mono (fun i q => by
      by_cases z : eX k i = eX k l
      · rw [z, pk_us] at q; exact absurd q (by decide)
      · rw [e _ z] at q; exact q) 26
    exact ⟨a1, a2, a3, a4, a5, by omega⟩
  · rw [e 2 (by omega), e 3 (by omega)]
    by_cases z : l' = l
    · subst z
      rw [pk_us]
      exact ⟨Or.inl rfl, fun q => absurd q (by decide)⟩
    · rw [e (eX k l') (eX_ne (i := 0) (j := 0) z (by omega) (by omega)), e (eX k l' + 1) (eX_ne (j := 0) z (by omega) (by omega)), e (eX k l' + 2) (eX_ne (j := 0) z (by omega) (by omega)), e (eX k l' + 3) (eX_ne (j := 0) z (by omega) (by omega)), e (eX k l' + 4) (eX_ne (j := 0) z (by omega) (by omega)), e (eX k l' + 5) (eX_ne (j := 0) z (by omega) (by omega)), e (eX k l' + 6) (eX_ne (j := 0) z (by omega) (by omega))]
      exact h5 k l' hk hl'
  · have z1 : l1 ≠ l := fun w => by subst w; rw [pk_us] at q1; exact absurd q1 (by decide)
    have z2 : l2 ≠ l := fun w => by subst w; rw [pk_us] at q2; exact absurd q2 (by decide)
    rw [e (eX k l1) (eX_ne (i := 0) (j := 0) z1 (by omega) (by omega))] at q1
    rw [e (eX k l2) (eX_ne (i := 0) (j := 0) z2 (by omega) (by omega))] at q2
    rw [e (eX k l1 + 3) (eX_ne (j := 0) z1 (by omega) (by omega)), e (eX k l1 + 4) (eX_ne (j := 0) z1 (by omega) (by omega)), e (eX k l2 + 3) (eX_ne (j := 0) z2 (by omega) (by omega)), e (eX k l2 + 4) (eX_ne (j := 0) z2 (by omega) (by omega))]
    exact h6 k l1 l2 hk hl1 hl2 hne q1 q2
