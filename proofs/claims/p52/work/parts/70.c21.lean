/-! ===== the class: a State copied ===== -/
/-- nothing but whole numbers within the 70 cells from st on has changed -/
def Fi (σ σ' : Mm) (st : Nat) : Prop := (∀ q, q < st ∨ st + 70 ≤ q → mi σ' q = mi σ q) ∧ mr σ' = mr σ ∧ ml σ' = ml σ ∧ md σ' = md σ ∧ mt σ' = mt σ ∧ mz σ' = mz σ
theorem Fi.fr {σ σ' : Mm} {st : Nat} (h : Fi σ σ' st) : Fr σ σ' st := ⟨fun q hq => ⟨h.1 q hq, by rw [h.2.1]⟩, h.2.2⟩
theorem Fi.refl {σ : Mm} {st : Nat} : Fi σ σ st := ⟨fun _ _ => rfl, rfl, rfl, rfl, rfl, rfl⟩
theorem Fi.trans {σ σ' σ'' : Mm} {st : Nat} (h : Fi σ σ' st) (h' : Fi σ' σ'' st) : Fi σ σ'' st := ⟨fun q hq => (h'.1 q hq).trans (h.1 q hq), h'.2.1.trans h.2.1, h'.2.2.1.trans h.2.2.1, h'.2.2.2.1.trans h.2.2.2.1, h'.2.2.2.2.1.trans h.2.2.2.2.1, h'.2.2.2.2.2.trans h.2.2.2.2.2⟩
theorem Fi.sS {σ : Mm} {st e : Nat} {f : Nat → Int32} (h1 : st ≤ e) (h2 : e < st + 70) : Fi σ (sS σ e f) st := ⟨fun q hq => sS_n (by omega), rfl, rfl, rfl, rfl, rfl⟩
theorem nr_cp {n : Nat} {f g : Nat → Int32} : nr n (cpR n f g) = nr n g := by
  funext k
  unfold nr cpR
  by_cases h : k < n
  · rw [if_pos h, if_pos h, if_pos h]
  · rw [if_neg h, if_neg h]
theorem nd_ne {L : List Nat} (h : L.Nodup) {i j e : Nat} (hi : L[i]? = some e) (hj : L[j]? = some e) : i = j := by
  obtain ⟨h1, h2⟩ := List.getElem?_eq_some_iff.mp hi
  obtain ⟨h3, h4⟩ := List.getElem?_eq_some_iff.mp hj
  rcases Nat.lt_trichotomy i j with q | q | q
  · exact absurd (h2.trans h4.symm) (List.pairwise_iff_getElem.mp h i j h1 h3 q)
  · exact q
  · exact absurd (h4.trans h2.symm) (List.pairwise_iff_getElem.mp h j i h3 h1 q)
/-- copied within a shelf up to its place i -/
def C5 (σ σ' : Mm) (h h2 : Nat) (L L2 : List Nat) (i : Nat) : Prop := (∀ q, q ≠ h → q ∉ L → mi σ' q = mi σ q) ∧ (mr σ' = mr σ ∧ ml σ' = ml σ ∧ md σ' = md σ ∧ mt σ' = mt σ ∧ mz σ' = mz σ) ∧ nr 6 (mi σ' h) = nr 6 (mi σ h2) ∧ ∀ (j e e2 : Nat), j < i → L[j]? = some e → L2[j]? = some e2 → nr 9 (mi σ' e) = nr 9 (mi σ e2)
section TA
variable {G : GG} {σ : Mm} {K : RES → Mm → Prop} {st so b n m : Nat} {ω : List Nat} {ρ : Nat → List Nat} {P : Nat → Int32}
theorem kX5_copyFrom_50 (gk : GOK G) {h h2 : Nat} {L L2 : List Nat} (hS : shS σ h L) (hS2 : shS σ h2 L2) (hd : ∀ q, q = h2 ∨ q ∈ L2 → q ≠ h ∧ q ∉ L) (hnd : L.Nodup) (hh : h ∉ L) (he : ∀ e, e ∈ L2 → isZ (mi σ e 0) ∧ isC (mi σ e 1) ∧ isZ (mi σ e 8)) (hk : ∀ σ', C5 σ σ' h h2 L L2 6 → K (.inl none) σ') : ∀ (d i : Nat), i + d = 6 → ∀ σ', C5 σ σ' h h2 L L2 i → At G mX5_copyFrom rX5_copyFrom 0 0 50 [some (vR (some h)), some (vR (some h2)), some (vI (nI i))] [] σ' K
  | 0, i, hi, σ', hc => by
    obtain rfl : i = 6 := by omega
    have hs := hS.mv hc.2.1.1 hc.2.1.2.2.2.1
    exact vX5_copyFrom_50 gk ⟨_, rfl, hs.ty, _, hs.r, 6, hs.t, fun _ => hk σ' hc, fun q => absurd (Int32.le_refl _) q⟩
  | d + 1, i, hi, σ', hc => by
    have hs := hS.mv hc.2.1.1 hc.2.1.2.2.2.1
    have hs2 := hS2.mv hc.2.1.1 hc.2.1.2.2.2.1
    have h6 : i < 6 := by omega
    have hLi : L[i]? = some (L[i]'(by rw [hs.l]; exact h6)) := List.getElem?_eq_getElem _
    have hL2i : L2[i]? = some (L2[i]'(by rw [hs2.l]; exact h6)) := List.getElem?_eq_getElem _
    generalize L[i]'(by rw [hs.l]; exact h6) = e at hLi
    generalize L2[i]'(by rw [hs2.l]; exact h6) = e2 at hL2i
    have hm := List.mem_of_getElem? hLi
    have hm2 := List.mem_of_getElem? hL2i
    obtain ⟨n1, n2⟩ := hd e2 (Or.inr hm2)
    have hv : mi σ' e2 = mi σ e2 := hc.1 e2 n1 n2
    have hne : e2 ≠ e := fun z => n2 (by rw [z]; exact hm)
    obtain ⟨z0, z1, z8⟩ := he e2 hm2
    have hge : ¬ nI 6 ≤ nI i := nI_ge h6 (by omega)
    refine vX5_copyFrom_50 gk ⟨_, rfl, hs.ty, _, hs.r, 6, hs.t, fun q => absurd q hge, fun _ => ⟨_, rfl, hs2.ty, _, hs2.r, 6, hs2.t, fun q => absurd q hge, fun _ => ⟨vp_in_nI h6 (by omega), vp_in_nI h6 (by omega), ?_⟩⟩⟩
    rw [nI_clamp (by omega), hs.at hLi, hs2.at hL2i]
    refine ⟨e, rfl, hs.e hm, kX2_copyFrom gk (hs.e hm) (hs2.e hm2) hne (by rw [hv]; exact z0) (by rw [hv]; exact z1) (by rw [hv]; exact z8) (vX5_copyFrom_83 gk ?_)⟩
    rw [nA1]
    refine kX5_copyFrom_50 gk hS hS2 hd hnd hh he hk d (i + 1) (by omega) _ ⟨fun q q1 q2 => ?_, hc.2.1, ?_, fun j f f2 hj hf hf2 => ?_⟩
    · rw [sS_n (fun z => q2 (by rw [z]; exact hm))]; exact hc.1 q q1 q2
    · rw [sS_n (fun z => hh (by rw [z]; exact hm))]; exact hc.2.2.1
    · by_cases z : j = i
      · subst z
        rw [hLi] at hf; rw [hL2i] at hf2
        cases hf; cases hf2
        rw [sS_s, nr_cp, hv]
      · rw [sS_n (fun y => z (nd_ne hnd hf (by rw [y]; exact hLi)))]
        exact hc.2.2.2 j f f2 (by omega) hf hf2
theorem kX5_copyFrom (gk : GOK G) {h h2 : Nat} {L L2 : List Nat} (hS : shS σ h L) (hS2 : shS σ h2 L2) (hd : ∀ q, q = h2 ∨ q ∈ L2 → q ≠ h ∧ q ∉ L) (hnd : L.Nodup) (hh : h ∉ L) (hz : isZ (mi σ h2 0)) (hc3 : isC (mi σ h2 3)) (hz4 : isZ (mi σ h2 4)) (he : ∀ e, e ∈ L2 → isZ (mi σ e 0) ∧ isC (mi σ e 1) ∧ isZ (mi σ e 8)) (hk : ∀ σ', C5 σ σ' h h2 L L2 6 → K (.inl none) σ') : Runs G mX5_copyFrom rX5_copyFrom [vR (some h), vR (some h2)] σ K := by
  have hne : h2 ≠ h := (hd h2 (Or.inl rfl)).1
  have ht := hS.ty
  have ht2 := hS2.ty
  refine eX5_copyFrom gk ?_
  simp only [exists_eq_left', Option.some.injEq, ht, ht2, true_and, forall_eq, si_sS, sS_sS, sS_s, sS_t, sS_n hne, hz, hc3, hz4, cpR_u0, cpR_u]
  refine kX5_copyFrom_50 gk hS hS2 hd hnd hh he hk 6 0 rfl _ ⟨fun q q1 _ => sS_n q1, ⟨rfl, rfl, rfl, rfl, rfl⟩, ?_, fun j e e2 hj => by omega⟩
  rw [sS_s, nr_cp]
/-- what a source State gives: its flags and letters are such -/
theorem RV.fl (h : RV σ st P b n ω ρ) : (∀ l, l < 26 → isZ (mi σ (st + 4 + l) 0)) ∧ ∀ k, k < 4 → (isZ (mi σ (st + 30 + 8 * k) 0) ∧ isC (mi σ (st + 30 + 8 * k) 3) ∧ isZ (mi σ (st + 30 + 8 * k) 4)) ∧ ∀ e, e ∈ ρ k → isZ (mi σ e 0) ∧ isC (mi σ e 1) ∧ isZ (mi σ e 8) := by
  refine ⟨fun l hl => by rw [h.j0 hl]; exact h.z l hl, fun k hk => ?_⟩
  by_cases q : k < n
  · have hE := (h.ea q).2.1
    obtain ⟨p1, p2, p3, p4, -⟩ := h.pi.2.2.2.1 k q
    refine ⟨⟨by rw [h.h0 q]; exact Or.inr rfl, by rw [h.h3 q]; exact p3, by rw [h.h4 q]; exact p4⟩, fun e he => ⟨(hE e he).1, (hE e he).2.2, (hE e he).2.1⟩⟩
  · obtain ⟨hH, hN⟩ := h.nn hk (by omega)
    obtain ⟨a1, a2, a3, a4⟩ := hH
    unfold vH at a1 a2 a3 a4
    rw [nr_s (by omega)] at a1 a3 a4
    refine ⟨⟨by rw [a1]; exact Or.inl rfl, a4, by rw [a3]; exact Or.inl rfl⟩, fun e he => ?_⟩
    obtain ⟨b1, b2, b3⟩ := hN.2 (nr 9 (mi σ e)) (List.mem_map.mpr ⟨e, he, rfl⟩)
    rw [nr_s (by omega)] at b1 b2 b3
    exact ⟨by rw [b1]; exact Or.inl rfl, b3, b2⟩
theorem RW.fl (h : RW σ ω P n m b) : ∀ e, e ∈ ω → isZ (mi σ e 0) ∧ isC (mi σ e 3) := fun e he => by
  obtain ⟨X, F, hω, hX, hR⟩ := h.split
  refine ⟨?_, hR.2.2 e (by rw [← hω]; exact he)⟩
  rw [hω] at he
  rcases List.mem_append.mp he with q | q
  · obtain ⟨j, hj⟩ := List.getElem?_of_mem q
    rw [(hR.1 j e hj).1]; exact Or.inr rfl
  · rw [hR.2.1 e q]; exact Or.inl rfl
/-- copied so far: l jars, k shelves, i warmings -/
def C6 (σ σ' : Mm) (st so : Nat) (ω' ω : List Nat) (ρ' ρ : Nat → List Nat) (l k i : Nat) : Prop := Fi σ σ' st ∧ (∀ l', l' < l → nr 4 (mi σ' (st + 4 + l')) = nr 4 (mi σ (so + 4 + l'))) ∧
  (∀ k', k' < k → nr 6 (mi σ' (st + 30 + 8 * k')) = nr 6 (mi σ (so + 30 + 8 * k')) ∧ ∀ (j e e2 : Nat), (ρ' k')[j]? = some e → (ρ k')[j]? = some e2 → nr 9 (mi σ' e) = nr 9 (mi σ e2)) ∧
  ∀ (j e e2 : Nat), j < i → ω'[j]? = some e → ω[j]? = some e2 → nr 4 (mi σ' e) = nr 4 (mi σ e2)
theorem RS.copied {σ' : Mm} {ω' : List Nat} {ρ' : Nat → List Nat} (hS : stS σ st ω' ρ') (hV : RV σ so P b n ω ρ) (hW : RW σ ω P n m b) (hJ : EJ P n) (hc : C6 σ σ' st so ω' ω ρ' ρ 26 4 8) (hg : ∀ k, 3 ≤ k → k < 9 → mi σ' st k = mi σ so k) : RS σ' st P b := by
  have hS' : stS σ' st ω' ρ' := hS.mv hc.1.2.1 hc.1.2.2.2.2.1
  have hSo := hV.s
  have eE : ∀ k, k < 4 → vE σ' (ρ' k) = vE σ (ρ k) := fun k hk => by
    have l1 : (ρ' k).length = 6 := (hS.s hk).2.1.l
    have l2 : (ρ k).length = 6 := (hSo.s hk).2.1.l
    refine List.ext_getElem (by unfold vE; rw [List.length_map, List.length_map, l1, l2]) fun j h1 h2 => ?_
    unfold vE at h1 h2 ⊢
    rw [List.getElem_map, List.getElem_map]
    rw [List.length_map] at h1 h2
    exact (hc.2.2.1 k hk).2 j _ _ (List.getElem?_eq_getElem h1) (List.getElem?_eq_getElem h2)
  have eW : vW σ' ω' = vW σ ω := by
    have l1 := hS.wl
    have l2 := hSo.wl
    refine List.ext_getElem (by unfold vW; rw [List.length_map, List.length_map, l1, l2]) fun j h1 h2 => ?_
    unfold vW at h1 h2 ⊢
    rw [List.getElem_map, List.getElem_map]
    rw [List.length_map] at h1 h2
    exact hc.2.2.2 j _ _ (by omega) (List.getElem?_eq_getElem h1) (List.getElem?_eq_getElem h2)
  have eG : vG σ' st = vG σ so := by
    funext k
    unfold vG
    by_cases q : 3 ≤ k ∧ k < 9
    · rw [if_pos q, if_pos q]; exact hg k q.1 q.2
    · rw [if_neg q, if_neg q]
  refine ⟨ω', ρ', n, m, ⟨hS', ?_⟩, ⟨by rw [eW]; exact hW.1, hW.2⟩, hJ⟩
  rw [eG]
  exact hV.2.ch (fun l hl => hc.2.1 l hl) (fun k hk => (hc.2.2.1 k hk).1) eE
theorem kX6_copyFrom_84 (gk : GOK G) {ω' : List Nat} {ρ' : Nat → List Nat} (hap : so + 70 ≤ st ∨ st + 70 ≤ so) (hS : stS σ st ω' ρ') (hV : RV σ so P b n ω ρ) (hW : RW σ ω P n m b) (hJ : EJ P n) (hk : ∀ σ', RS σ' st P b → Fi σ σ' st → K (.inl none) σ') : ∀ (d i : Nat), i + d = 8 → ∀ σ', C6 σ σ' st so ω' ω ρ' ρ 26 4 i → At G mX6_copyFrom rX6_copyFrom 0 0 84 [some (vR (some st)), some (vR (some so)), some (vI (nI i))] [] σ' K
  | 0, i, hi, σ', hc => by
    obtain rfl : i = 8 := by omega
    have hs := hS.mv hc.1.2.1 hc.1.2.2.2.2.1
    have hs2 := hV.s.mv hc.1.2.1 hc.1.2.2.2.2.1
    have hne : so ≠ st := by omega
    have hv : mi σ' so = mi σ so := hc.1.1 so (by omega)
    refine vX6_copyFrom_84 gk ⟨_, rfl, hs.ty, _, hs.r2, 8, hs.t2, fun _ => ⟨_, rfl, hs2.ty, ?_⟩, fun q => absurd (Int32.le_refl _) q⟩
    simp (disch := omega) only [forall_eq, si_sS, sS_sS, sS_s, sS_n hne]
    refine hk _ (RS.copied hS hV hW hJ ⟨hc.1.trans (Fi.sS (by omega) (by omega)), fun l hl => by rw [sS_n (by omega)]; exact hc.2.1 l hl, fun k hk => ⟨by rw [sS_n (by omega)]; exact (hc.2.2.1 k hk).1, fun j e e2 h1 h2 => ?_⟩, fun j e e2 hj h1 h2 => ?_⟩ fun k h3 h9 => ?_) (hc.1.trans (Fi.sS (by omega) (by omega)))
    · have := hS.e hk (List.mem_of_getElem? h1)
      rw [sS_n (by omega)]
      exact (hc.2.2.1 k hk).2 j e e2 h1 h2
    · have := hS.w (List.mem_of_getElem? h1)
      rw [sS_n (by omega)]
      exact hc.2.2.2 j e e2 hj h1 h2
    · rw [sS_s, hv]
      rcases (show k = 3 ∨ k = 4 ∨ k = 5 ∨ k = 6 ∨ k = 7 ∨ k = 8 by omega) with z | z | z | z | z | z <;> subst z <;> simp (disch := omega) only [pk_un, pk_us]
  | d + 1, i, hi, σ', hc => by
    have hs := hS.mv hc.1.2.1 hc.1.2.2.2.2.1
    have hs2 := hV.s.mv hc.1.2.1 hc.1.2.2.2.2.1
    have h8 : i < 8 := by omega
    obtain ⟨e, hLi, hr, ht, -⟩ := hs.wat h8
    obtain ⟨e2, hL2i, hr2, ht2, -⟩ := hs2.wat h8
    have hm := List.mem_of_getElem? hLi
    have hm2 := List.mem_of_getElem? hL2i
    have hwe := hS.w hm
    have hwe2 := hV.s.w hm2
    have hv : mi σ' e2 = mi σ e2 := hc.1.1 e2 (by omega)
    obtain ⟨z0, z3⟩ := hW.fl e2 hm2
    have hge : ¬ nI 8 ≤ nI i := nI_ge h8 (by omega)
    refine vX6_copyFrom_84 gk ⟨_, rfl, hs.ty, _, hs.r2, 8, hs.t2, fun q => absurd q hge, fun _ => ⟨_, rfl, hs2.ty, _, hs2.r2, 8, hs2.t2, fun q => absurd q hge, fun _ => ⟨vp_in_nI h8 (by omega), vp_in_nI h8 (by omega), ?_⟩⟩⟩
    rw [nI_clamp (by omega), hr, hr2]
    refine ⟨e, rfl, ht, kX7_copyFrom gk ht ht2 (by omega) (by rw [hv]; exact z0) (by rw [hv]; exact z3) (vX6_copyFrom_117 gk ?_)⟩
    rw [nA1]
    refine kX6_copyFrom_84 gk hap hS hV hW hJ hk d (i + 1) (by omega) _ ⟨hc.1.trans (Fi.sS (by omega) (by omega)), fun l hl => by rw [sS_n (by omega)]; exact hc.2.1 l hl, fun k hk => ⟨by rw [sS_n (by omega)]; exact (hc.2.2.1 k hk).1, fun j f f2 h1 h2 => ?_⟩, fun j f f2 hj h1 h2 => ?_⟩
    · have := hS.e hk (List.mem_of_getElem? h1)
      rw [sS_n (by omega)]
      exact (hc.2.2.1 k hk).2 j f f2 h1 h2
    · by_cases z : j = i
      · subst z
        rw [hLi] at h1; rw [hL2i] at h2
        cases h1; cases h2
        rw [sS_s, nr_cp, hv]
      · rw [sS_n (fun y => z (nd_ne hS.wnd h1 (by rw [y]; exact hLi)))]
        exact hc.2.2.2 j f f2 (by omega) h1 h2
theorem kX6_copyFrom_43 (gk : GOK G) {ω' : List Nat} {ρ' : Nat → List Nat} (hap : so + 70 ≤ st ∨ st + 70 ≤ so) (hS : stS σ st ω' ρ') (hV : RV σ so P b n ω ρ) (hW : RW σ ω P n m b) (hJ : EJ P n) (hk : ∀ σ', RS σ' st P b → Fi σ σ' st → K (.inl none) σ') : ∀ (d k : Nat), k + d = 4 → ∀ σ', C6 σ σ' st so ω' ω ρ' ρ 26 k 0 → At G mX6_copyFrom rX6_copyFrom 0 0 43 [some (vR (some st)), some (vR (some so)), some (vI (nI k))] [] σ' K
  | 0, k, hi, σ', hc => by
    obtain rfl : k = 4 := by omega
    have hs := hS.mv hc.1.2.1 hc.1.2.2.2.2.1
    exact vX6_copyFrom_43 gk ⟨_, rfl, hs.ty, _, hs.r1, 4, hs.t1, fun _ => kX6_copyFrom_84 gk hap hS hV hW hJ hk 8 0 rfl σ' hc, fun q => absurd (Int32.le_refl _) q⟩
  | d + 1, k, hi, σ', hc => by
    have hs := hS.mv hc.1.2.1 hc.1.2.2.2.2.1
    have hs2 := hV.s.mv hc.1.2.1 hc.1.2.2.2.2.1
    have h4 : k < 4 := by omega
    have a1 := hs.s h4
    have a2 := hs2.s h4
    have hge : ¬ nI 4 ≤ nI k := nI_ge h4 (by omega)
    have hv : ∀ q, so ≤ q → q < so + 70 → mi σ' q = mi σ q := fun q h1 h2 => hc.1.1 q (by omega)
    obtain ⟨⟨f0, f3, f4⟩, fe⟩ := hV.fl.2 k h4
    refine vX6_copyFrom_43 gk ⟨_, rfl, hs.ty, _, hs.r1, 4, hs.t1, fun q => absurd q hge, fun _ => ⟨_, rfl, hs2.ty, _, hs2.r1, 4, hs2.t1, fun q => absurd q hge, fun _ => ⟨vp_in_nI h4 (by omega), vp_in_nI h4 (by omega), ?_⟩⟩⟩
    rw [nI_clamp (by omega), a1.1, a2.1]
    have hnd : (ρ' k).Nodup := a1.2.2.nodup_iff.mpr List.nodup_range'
    refine ⟨_, rfl, a1.2.1.ty, kX5_copyFrom gk a1.2.1 a2.2.1 (fun q hq => ?_) hnd (fun z => ?_) (by rw [hv _ (by omega) (by omega)]; exact f0) (by rw [hv _ (by omega) (by omega)]; exact f3) (by rw [hv _ (by omega) (by omega)]; exact f4) (fun e he => ?_) fun σ1 h5 => vX6_copyFrom_76 gk ?_⟩
    · have hq2 : so ≤ q ∧ q < so + 70 := by
        rcases hq with z | z
        · omega
        · have := hV.s.e h4 z; omega
      refine ⟨by omega, fun z => ?_⟩
      have := hS.e h4 z
      omega
    · have := hS.e h4 z; omega
    · have := hV.s.e h4 he
      rw [hv e (by omega) (by omega)]
      exact fe e he
    · rw [nA1]
      have hq9 : ∀ q, q ≠ st + 30 + 8 * k → ¬ (st + 32 + 8 * k ≤ q ∧ q < st + 38 + 8 * k) → mi σ1 q = mi σ' q := fun q q1 q2 => h5.1 q q1 fun z => q2 (hS.e h4 z)
      refine kX6_copyFrom_43 gk hap hS hV hW hJ hk d (k + 1) (by omega) σ1 ⟨hc.1.trans ⟨fun q hq => hq9 q (by omega) (by omega), h5.2.1⟩, fun l hl => by rw [hq9 _ (by omega) (by omega)]; exact hc.2.1 l hl, fun k' hk' => ?_, fun j e e2 hj => by omega⟩
      by_cases z : k' = k
      · subst z
        refine ⟨by rw [h5.2.2.1, hv _ (by omega) (by omega)], fun j e e2 h1 h2 => ?_⟩
        have hl := (List.getElem?_eq_some_iff.mp h1).1
        rw [(hS.s h4).2.1.l] at hl
        have := hV.s.e h4 (List.mem_of_getElem? h2)
        rw [h5.2.2.2 j e e2 hl h1 h2, hv e2 (by omega) (by omega)]
      · refine ⟨by rw [hq9 _ (by omega) (by omega)]; exact (hc.2.2.1 k' (by omega)).1, fun j e e2 h1 h2 => ?_⟩
        have := hS.e (show k' < 4 by omega) (List.mem_of_getElem? h1)
        rw [hq9 e (by omega) (by omega)]
        exact (hc.2.2.1 k' (by omega)).2 j e e2 h1 h2
theorem kX6_copyFrom_2 (gk : GOK G) {ω' : List Nat} {ρ' : Nat → List Nat} (hap : so + 70 ≤ st ∨ st + 70 ≤ so) (hS : stS σ st ω' ρ') (hV : RV σ so P b n ω ρ) (hW : RW σ ω P n m b) (hJ : EJ P n) (hk : ∀ σ', RS σ' st P b → Fi σ σ' st → K (.inl none) σ') : ∀ (d l : Nat), l + d = 26 → ∀ σ', C6 σ σ' st so ω' ω ρ' ρ l 0 0 → At G mX6_copyFrom rX6_copyFrom 0 0 2 [some (vR (some st)), some (vR (some so)), some (vI (nI l))] [] σ' K
  | 0, l, hi, σ', hc => by
    obtain rfl : l = 26 := by omega
    have hs := hS.mv hc.1.2.1 hc.1.2.2.2.2.1
    exact vX6_copyFrom_2 gk ⟨_, rfl, hs.ty, _, hs.r0, 26, hs.t0, fun _ => kX6_copyFrom_43 gk hap hS hV hW hJ hk 4 0 rfl σ' hc, fun q => absurd (Int32.le_refl _) q⟩
  | d + 1, l, hi, σ', hc => by
    have hs := hS.mv hc.1.2.1 hc.1.2.2.2.2.1
    have hs2 := hV.s.mv hc.1.2.1 hc.1.2.2.2.2.1
    have h26 : l < 26 := by omega
    have a1 := hs.j h26
    have a2 := hs2.j h26
    have hge : ¬ nI 26 ≤ nI l := nI_ge h26 (by omega)
    have hv : mi σ' (so + 4 + l) = mi σ (so + 4 + l) := hc.1.1 _ (by omega)
    refine vX6_copyFrom_2 gk ⟨_, rfl, hs.ty, _, hs.r0, 26, hs.t0, fun q => absurd q hge, fun _ => ⟨_, rfl, hs2.ty, _, hs2.r0, 26, hs2.t0, fun q => absurd q hge, fun _ => ⟨vp_in_nI h26 (by omega), vp_in_nI h26 (by omega), ?_⟩⟩⟩
    rw [nI_clamp (by omega), a1.1, a2.1]
    refine ⟨_, rfl, a1.2, kX4_copyFrom gk a1.2 a2.2 (by omega) (by rw [hv]; exact hV.fl.1 l h26) (vX6_copyFrom_35 gk ?_)⟩
    rw [nA1]
    refine kX6_copyFrom_2 gk hap hS hV hW hJ hk d (l + 1) (by omega) _ ⟨hc.1.trans (Fi.sS (by omega) (by omega)), fun l' hl' => ?_, fun k' hk' => by omega, fun j e e2 hj => by omega⟩
    by_cases z : l' = l
    · subst z; rw [sS_s, nr_cp, hv]
    · rw [sS_n (by omega)]; exact hc.2.1 l' (by omega)
/-- a State's shape, whatever its values -/
def SHP (σ : Mm) (st : Nat) : Prop := ∃ ω ρ, stS σ st ω ρ
theorem RS.shp (h : RS σ st P b) : SHP σ st := by
  obtain ⟨ω, ρ, n, m, hV, -, -⟩ := h
  exact ⟨ω, ρ, hV.s⟩
theorem kX6_copyFrom (gk : GOK G) (hap : so + 70 ≤ st ∨ st + 70 ≤ so) (hS : SHP σ st) (h : RS σ so P b) (hk : ∀ σ', RS σ' st P b → Fi σ σ' st → K (.inl none) σ') : Runs G mX6_copyFrom rX6_copyFrom [vR (some st), vR (some so)] σ K := by
  obtain ⟨ω', ρ', hS⟩ := hS
  obtain ⟨ω, ρ, n, m, hV, hW, hJ⟩ := h
  exact eX6_copyFrom gk (kX6_copyFrom_2 gk hap hS hV hW hJ hk 26 0 rfl σ ⟨Fi.refl, fun l hl => by omega, fun k hk => by omega, fun j e e2 hj => by omega⟩)
end TA
