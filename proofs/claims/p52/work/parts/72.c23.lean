/-! ===== the class: what is made new ===== -/
def zf : Nat → Int32 := fun _ => 0
theorem zf_u {k : Nat} : upd zf k 0 = zf := funext fun j => by unfold upd zf; split <;> rfl
theorem zc_u {c k : Nat} {x : Int32} (h : k ≠ c) : upd (upd zf c x) k 0 = upd zf c x := funext fun j => by
  unfold upd zf
  by_cases q : j = k
  · rw [if_pos q, if_neg (by omega)]
  · rw [if_neg q]
section NW
variable {σ : Mm} {t : Nat × Nat} {q a b k j : Nat} {x : Option Nat}
theorem nw_i (h : q ≠ mz σ) : mi (nw σ t) q = mi σ q := funext fun _ => if_neg h
theorem nw_is : mi (nw σ t) (mz σ) = zf := funext fun _ => if_pos rfl
theorem nw_r (h : q ≠ mz σ) : mr (nw σ t) q = mr σ q := funext fun _ => if_neg h
theorem nw_l (h : q ≠ mz σ) : ml (nw σ t) q = ml σ q := funext fun _ => if_neg h
theorem nw_d (h : q ≠ mz σ) : md (nw σ t) q = md σ q := funext fun _ => if_neg h
theorem nw_t (h : q ≠ mz σ) : mt (nw σ t) q = mt σ q := if_neg h
theorem nw_ts : mt (nw σ t) (mz σ) = t := if_pos rfl
theorem nw_z : mz (nw σ t) = mz σ + 1 := rfl
theorem sr_s : mr (sr σ a k x) a k = x := u2_s
theorem sr_k (h : j ≠ k) : mr (sr σ a k x) a j = mr σ a j := u2_k h
theorem sr_a (h : b ≠ a) : mr (sr σ a k x) b = mr σ b := funext fun _ => u2_a h
theorem sr_i : mi (sr σ a k x) = mi σ := rfl
theorem sr_t : mt (sr σ a k x) = mt σ := rfl
theorem sr_z : mz (sr σ a k x) = mz σ := rfl
end NW
/-- nothing below lo has changed -/
def Na (σ σ' : Mm) (lo : Nat) : Prop := ∀ q, q < lo → mi σ' q = mi σ q ∧ mr σ' q = mr σ q ∧ ml σ' q = ml σ q ∧ md σ' q = md σ q ∧ mt σ' q = mt σ q
theorem Na.refl {σ : Mm} {lo : Nat} : Na σ σ lo := fun _ _ => ⟨rfl, rfl, rfl, rfl, rfl⟩
theorem Na.trans {σ σ' σ'' : Mm} {lo : Nat} (h : Na σ σ' lo) (h' : Na σ' σ'' lo) : Na σ σ'' lo := fun q hq => by
  obtain ⟨a1, a2, a3, a4, a5⟩ := h q hq
  obtain ⟨b1, b2, b3, b4, b5⟩ := h' q hq
  exact ⟨b1.trans a1, b2.trans a2, b3.trans a3, b4.trans a4, b5.trans a5⟩
theorem Na.mono {σ σ' : Mm} {lo lo' : Nat} (h : Na σ σ' lo) (hl : lo' ≤ lo) : Na σ σ' lo' := fun q hq => h q (by omega)
theorem Na.nw {σ : Mm} {t : Nat × Nat} {lo : Nat} (h : lo ≤ mz σ) : Na σ (nw σ t) lo := fun q hq => ⟨nw_i (by omega), nw_r (by omega), nw_l (by omega), nw_d (by omega), nw_t (by omega)⟩
theorem Na.sS {σ : Mm} {e lo : Nat} {f : Nat → Int32} (h : lo ≤ e) : Na σ (sS σ e f) lo := fun q hq => ⟨sS_n (by omega), rfl, rfl, rfl, rfl⟩
theorem Na.sr {σ : Mm} {e k lo : Nat} {x : Option Nat} (h : lo ≤ e) : Na σ (sr σ e k x) lo := fun q hq => ⟨rfl, sr_a (by omega), rfl, rfl, rfl⟩
section LOC
variable {σ σ' : Mm} {st hi so b n m j : Nat} {ω : List Nat} {ρ : Nat → List Nat} {P : Nat → Int32} {W : Nat → Nat → Int32}
/-- the same State in a memory that is the same there -/
theorem stS.loc (h : stS σ st ω ρ) (h1 : ∀ q, st ≤ q → q < st + 70 → mr σ' q = mr σ q ∧ mt σ' q = mt σ q) : stS σ' st ω ρ := by
  obtain ⟨⟨a1, a2, a3, a4, a5, a6, a7⟩, hj, hs, hw1, hw2, hw3⟩ := id h
  have e : ∀ q, st ≤ q → q < st + 70 → mr σ' q = mr σ q := fun q a c => (h1 q a c).1
  have e2 : ∀ q, st ≤ q → q < st + 70 → mt σ' q = mt σ q := fun q a c => (h1 q a c).2
  refine ⟨⟨by rw [e2 st (by omega) (by omega)]; exact a1, by rw [e st (by omega) (by omega)]; exact a2, by rw [e2 _ (by omega) (by omega)]; exact a3, by rw [e st (by omega) (by omega)]; exact a4, by rw [e2 _ (by omega) (by omega)]; exact a5, by rw [e st (by omega) (by omega)]; exact a6, by rw [e2 _ (by omega) (by omega)]; exact a7⟩, fun l hl => ?_, fun k hk => ?_, fun i x hx => ?_, hw2, fun x hx => ?_⟩
  · rw [e _ (by omega) (by omega), e2 _ (by omega) (by omega)]; exact hj l hl
  · obtain ⟨b1, ⟨b2, b3, b4, b5, b6, b7⟩, b8⟩ := hs k hk
    refine ⟨by rw [e _ (by omega) (by omega)]; exact b1, ⟨by rw [e2 _ (by omega) (by omega)]; exact b2, by rw [e _ (by omega) (by omega)]; exact b3, by rw [e2 _ (by omega) (by omega)]; exact b4, b5, fun i x hx => ?_, fun x hx => ?_⟩, b8⟩
    · rw [e _ (by omega) (by omega)]; exact b6 i x hx
    · have := h.e hk hx
      rw [e2 _ (by omega) (by omega)]; exact b7 x hx
  · rw [e _ (by omega) (by omega)]; exact hw1 i x hx
  · have := h.w hx
    rw [e2 _ (by omega) (by omega)]; exact hw3 x hx
theorem RV.loc (h : RV σ st P b n ω ρ) (h1 : ∀ q, st ≤ q → q < st + 70 → mi σ' q = mi σ q ∧ mr σ' q = mr σ q ∧ mt σ' q = mt σ q) : RV σ' st P b n ω ρ := by
  have h2 := RV.fr (σ' := (mi σ', mr σ', ml σ', md σ', mt σ, mz σ')) h (fun q a c => ⟨(h1 q a c).1, (h1 q a c).2.1⟩) rfl
  exact ⟨h.s.loc fun q a c => (h1 q a c).2, h2.2⟩
theorem RS.loc (h : RS σ st P b) (h1 : ∀ q, st ≤ q → q < st + 70 → mi σ' q = mi σ q ∧ mr σ' q = mr σ q ∧ mt σ' q = mt σ q) : RS σ' st P b := by
  obtain ⟨ω, ρ, n, m, hV, hW, hJ⟩ := h
  refine ⟨ω, ρ, n, m, hV.loc h1, ⟨?_, hW.2⟩, hJ⟩
  rw [vW_cg (σ := σ) fun e he => ?_]
  · exact hW.1
  · have := hV.s.w he
    exact (h1 e (by omega) (by omega)).1
theorem SHP.loc (h : SHP σ st) (h1 : ∀ q, st ≤ q → q < st + 70 → mr σ' q = mr σ q ∧ mt σ' q = mt σ q) : SHP σ' st := by
  obtain ⟨ω, ρ, h⟩ := h
  exact ⟨ω, ρ, h.loc h1⟩
theorem HSh.loc (h : HSh σ hi) (h1 : ∀ q, hi ≤ q → q < hi + 632 → mr σ' q = mr σ q ∧ mt σ' q = mt σ q) : HSh σ' hi := by
  obtain ⟨a1, a2, a3, a4⟩ := h
  refine ⟨by rw [(h1 hi (by omega) (by omega)).2]; exact a1, by rw [(h1 hi (by omega) (by omega)).1]; exact a2, by rw [(h1 (hi + 1) (by omega) (by omega)).2]; exact a3, fun i hi9 => ⟨by rw [(h1 (hi + 1) (by omega) (by omega)).1]; exact (a4 i hi9).1, (a4 i hi9).2.loc (fun q q1 q2 => h1 q (by omega) (by omega))⟩⟩
theorem HI.loc (h : HI σ hi W j b) (h1 : ∀ q, hi ≤ q → q < hi + 632 → mi σ' q = mi σ q ∧ mr σ' q = mr σ q ∧ mt σ' q = mt σ q) : HI σ' hi W j b := by
  obtain ⟨hS, f, c1, c2, c3, c4, c5⟩ := h
  exact ⟨hS.loc (fun q a c => (h1 q a c).2), f, c1, by rw [(h1 hi (by omega) (by omega)).1]; exact c2, c3, by rw [(h1 hi (by omega) (by omega)).1]; exact c4, fun i hij => (c5 i hij).loc (fun q q1 q2 => h1 q (by omega) (by omega))⟩
end LOC
section TC
variable {G : GG} {σ : Mm} {K : RES → Mm → Prop} {a : Nat}
theorem kX0_init (gk : GOK G) (he : (mt σ a).1 = 1) (hK : ∀ f, K (.inl none) (sS σ a f)) : Runs G mX0_init rX0_init [vR (some a)] σ K := by
  refine eX0_init gk ?_
  simp only [exists_eq_left', Option.some.injEq, he, true_and, forall_eq, si_sS, sS_sS, sS_s, sS_t]
  exact hK _
theorem kX2_init (gk : GOK G) (he : (mt σ a).1 = 3) (hz : mi σ a = zf) (hK : K (.inl none) (sS σ a (upd zf 1 32))) : Runs G mX2_init rX2_init [vR (some a)] σ K := by
  refine eX2_init gk ?_
  simp (disch := decide) only [exists_eq_left', Option.some.injEq, he, true_and, forall_eq, si_sS, sS_sS, sS_s, sS_t, hz, zf_u, zc_u]
  exact hK
theorem kX4_init (gk : GOK G) (he : (mt σ a).1 = 5) (hz : mi σ a = zf) (hK : K (.inl none) σ) : Runs G mX4_init rX4_init [vR (some a)] σ K := by
  refine eX4_init gk ?_
  simp only [exists_eq_left', Option.some.injEq, he, true_and, forall_eq, si_sS, sS_sS, sS_s, sS_t, hz, zf_u]
  rw [← hz, sS_id]
  exact hK
theorem kX7_init (gk : GOK G) (he : (mt σ a).1 = 8) (hz : mi σ a = zf) (hK : K (.inl none) (sS σ a (upd zf 3 32))) : Runs G mX7_init rX7_init [vR (some a)] σ K := by
  refine eX7_init gk ?_
  simp (disch := decide) only [exists_eq_left', Option.some.injEq, he, true_and, forall_eq, si_sS, sS_sS, sS_s, sS_t, hz, zf_u, zc_u]
  exact hK
/-- a shelf at a with i of its echoes -/
def I5 (σ0 σ : Mm) (a i : Nat) : Prop := Na σ0 σ a ∧ mz σ = a + 2 + i ∧ (mt σ a = mt σ0 a ∧ (mt σ a).1 = 6) ∧ mr σ a 6 = some (a + 1) ∧ mt σ (a + 1) = (58, 6) ∧ mi σ a = upd zf 3 32 ∧ ∀ j, j < i → mr σ (a + 1) j = some (a + 2 + j) ∧ (mt σ (a + 2 + j)).1 = 3 ∧ mi σ (a + 2 + j) = upd zf 1 32
theorem kX5_init_46 (gk : GOK G) {σ0 : Mm} (hK : ∀ σ', I5 σ0 σ' a 6 → K (.inl none) σ') : ∀ (d i : Nat), i + d = 6 → ∀ σ, I5 σ0 σ a i → At G mX5_init rX5_init (1 + i) (6 + 9 * i) 46 [some (vR (some a)), some (vI (nI i))] [] σ K
  | 0, i, h, σ, hI => by
    obtain rfl : i = 6 := by omega
    exact vX5_init_46 gk ⟨_, rfl, hI.2.2.1.2, _, hI.2.2.2.1, 6, hI.2.2.2.2.1, fun _ => ⟨by decide, by decide, hK σ hI⟩, fun q => absurd (Int32.le_refl _) q⟩
  | d + 1, i, h, σ, hI => by
    obtain ⟨h1, h2, h3, h4, h5, h6, h7⟩ := id hI
    refine vX5_init_46 gk ⟨_, rfl, h3.2, _, h4, 6, h5, fun q => absurd q (nI_ge (by omega) (by omega)), fun _ => ⟨by show 1 + i + 1 ≤ 7; omega, by show 6 + 9 * i + 9 ≤ 60; omega, fun σ1 e1 => ⟨by show 1 + i + 1 + 0 ≤ 7; omega, by show 6 + 9 * i + 9 + 0 ≤ 60; omega, fun r t => r = .inl none ∧ t = sS σ1 (mz σ) (upd zf 1 32), ?_, fun E t z => (by cases z.1), fun v t z => ?_⟩⟩⟩
    · subst e1
      exact kX2_init gk (by rw [nw_ts]) nw_is ⟨rfl, rfl⟩
    · obtain ⟨z1, z2⟩ := z
      cases z1
      subst z2 e1
      rw [h4]
      have hq : ∀ q, q ≠ mz σ → mi (sS (nw σ (3, 0)) (mz σ) (upd zf 1 32)) q = mi σ q := fun q hq => by rw [sS_n hq, nw_i hq]
      refine vX5_init_67 gk ⟨a + 1, rfl, 6, by rw [sS_t, nw_t (by omega)]; exact h5, vp_in_nI (by omega) (by omega), _, rfl, by rw [sS_t, nw_ts], fun σ2 e2 => ?_⟩
      rw [nI_clamp (by omega)] at e2
      subst e2
      rw [nA1, Nat.add_zero, Nat.add_zero, show 1 + i + 1 = 1 + (i + 1) by omega, show 6 + 9 * i + 9 = 6 + 9 * (i + 1) by omega]
      refine kX5_init_46 gk hK d (i + 1) (by omega) _ ⟨h1.trans (((Na.nw (by omega)).trans (Na.sS (by omega))).trans (Na.sr (by omega))), ?_, ⟨?_, ?_⟩, ?_, ?_, ?_, fun j hj => ?_⟩
      · show mz σ + 1 = _; omega
      · rw [sr_t, sS_t, nw_t (by omega)]; exact h3.1
      · rw [sr_t, sS_t, nw_t (by omega)]; exact h3.2
      · rw [sr_a (by omega), sS_r, nw_r (by omega)]; exact h4
      · rw [sr_t, sS_t, nw_t (by omega)]; exact h5
      · rw [sr_i, hq _ (by omega)]; exact h6
      · rw [sr_i, sr_t, sS_t]
        by_cases z : j = i
        · subst z
          rw [sr_s, ← h2, nw_ts, sS_s]
          exact ⟨rfl, rfl, rfl⟩
        · rw [sr_k z, sS_r, nw_r (by omega), nw_t (by omega), hq _ (by omega)]
          exact h7 j (by omega)
theorem kX5_init (gk : GOK G) (ht : (mt σ a).1 = 6) (hz : mi σ a = zf) (hm : mz σ = a + 1) (hK : ∀ σ', I5 σ σ' a 6 → K (.inl none) σ') : Runs G mX5_init rX5_init [vR (some a)] σ K := by
  refine eX5_init gk ⟨_, rfl, ht, ?_⟩
  simp (disch := decide) only [forall_eq, si_sS, sS_sS, sS_s, hz, zf_u, zc_u]
  refine ⟨by decide, by decide, ?_, ?_⟩
  · rw [nw_t (by show a ≠ mz σ; omega)]; exact ht
  · refine kX5_init_46 gk hK 6 0 rfl _ ⟨((Na.sS (by omega)).trans (Na.nw (by show a ≤ mz σ; omega))).trans (Na.sr (by omega)), by show mz σ + 1 = a + 2 + 0; omega, ⟨?_, ?_⟩, ?_, ?_, ?_, fun j hj => by omega⟩
    · rw [sr_t, nw_t (by show a ≠ mz σ; omega)]; rfl
    · rw [sr_t, nw_t (by show a ≠ mz σ; omega)]; exact ht
    · rw [sr_s]; show some (mz σ) = _; rw [hm]
    · rw [sr_t, ← hm]; exact nw_ts
    · rw [sr_i, nw_i (by show a ≠ mz σ; omega), sS_s]
theorem l_rng {s n i e : Nat} (h : (List.range' s n)[i]? = some e) : i < n ∧ e = s + i := by
  obtain ⟨h1, h2⟩ := List.getElem?_eq_some_iff.mp h
  rw [List.length_range'] at h1
  rw [List.getElem_range', Nat.one_mul] at h2
  exact ⟨h1, h2.symm⟩
/-- a State at a: its head, l jars, k shelves, i warmings -/
def I6 (σ0 σ : Mm) (a l k i : Nat) : Prop := Na σ0 σ a ∧ mz σ = a + 4 + l + 8 * k + i ∧ mt σ a = mt σ0 a ∧
  ((mt σ a).1 = 7 ∧ mr σ a 0 = some (a + 1) ∧ mt σ (a + 1) = (55, 26) ∧ mr σ a 1 = some (a + 2) ∧ mt σ (a + 2) = (56, 4) ∧ mr σ a 2 = some (a + 3) ∧ mt σ (a + 3) = (57, 8)) ∧ mi σ a = zf ∧
  (∀ j, j < l → mr σ (a + 1) j = some (a + 4 + j) ∧ (mt σ (a + 4 + j)).1 = 5 ∧ mi σ (a + 4 + j) = zf) ∧
  (∀ j, j < k → mr σ (a + 2) j = some (a + 30 + 8 * j) ∧ shS σ (a + 30 + 8 * j) (List.range' (a + 32 + 8 * j) 6) ∧ mi σ (a + 30 + 8 * j) = upd zf 3 32 ∧ ∀ x, x < 6 → mi σ (a + 32 + 8 * j + x) = upd zf 1 32) ∧
  (∀ j, j < i → mr σ (a + 3) j = some (a + 62 + j) ∧ (mt σ (a + 62 + j)).1 = 8 ∧ mi σ (a + 62 + j) = upd zf 3 32)
theorem I6.rs {σ0 : Mm} (h : I6 σ0 σ a 26 4 8) : RS σ a zf 0 := by
  obtain ⟨h1, h2, h3, h4, h5, h6, h7, h8⟩ := h
  have n10 : ¬ (0 : Int32) = 1 := by decide
  have nb : NB 0 0 := ⟨by decide, by decide⟩
  have t0 : (0 : Int) ≤ (0 : Int32).toInt := by decide
  have t0' : (0 : Int32).toInt ≤ (0 : Int32).toInt := by decide
  have t99 : (0 : Int32).toInt ≤ ((99 : Nat) : Int) := by decide
  refine ⟨List.range' (a + 62) 8, fun k => List.range' (a + 32 + 8 * k) 6, 0, 0, ⟨⟨h4, fun l hl => ⟨(h6 l hl).1, (h6 l hl).2.1⟩, fun k hk => ⟨(h7 k hk).1, (h7 k hk).2.1, List.Perm.refl _⟩, fun i e he => ?_, List.Perm.refl _, fun e he => ?_⟩, ⟨⟨by omega, rfl⟩, ⟨nb, nb, nb, nb, nb, nb⟩, fun l hl => ⟨Or.inl rfl, ⟨t0, t99⟩, t0, t0', fun z => absurd z n10⟩, fun k hk => by omega, fun k l hk => by omega, fun k l l' hk => by omega, ?_⟩, fun l hl => ?_, ?_, fun k hk => by omega, fun k hk _ => ?_⟩, ⟨⟨by unfold vW; rw [List.length_map, List.length_range'], fun w hw => ?_, fun i w hw => ⟨fun z => by omega, fun _ => ?_⟩⟩, ⟨by omega, rfl⟩, fun i hi => by omega, fun i hi => by omega⟩, fun k l hk => by omega⟩
  · obtain ⟨e1, e2⟩ := l_rng he
    rw [e2]; exact (h8 i e1).1
  · have := List.mem_range'_1.mp he
    have := (h8 (e - (a + 62)) (by omega)).2.1
    rw [show a + 62 + (e - (a + 62)) = e by omega] at this
    exact this
  · unfold jrN
    rw [cnt_z (p := fun l => zf (8 + 3 * l) = 1) fun i hi => n10]
    omega
  · unfold vJ
    rw [(h6 l hl).2.2, nr_s (by omega), nr_s (by omega), nr_s (by omega), nr_s (by omega)]
    exact ⟨rfl, rfl, rfl, nb⟩
  · unfold GV vG
    rw [h5]
    exact ⟨rfl, rfl, rfl, rfl, rfl, rfl⟩
  · obtain ⟨-, g1, g2, g3⟩ := h7 k hk
    refine ⟨?_, ?_, fun r hr => ?_⟩
    · unfold vH HN
      rw [g2, nr_s (by omega), nr_s (by omega), nr_s (by omega), nr_s (by omega), pk_us]
      exact ⟨rfl, rfl, rfl, isC_nI (q := 32) (by omega)⟩
    · unfold vE; rw [List.length_map, List.length_range']
    · obtain ⟨e, he, rfl⟩ := List.mem_map.mp hr
      have := List.mem_range'_1.mp he
      have g9 := g3 (e - (a + 32 + 8 * k)) (by omega)
      rw [show a + 32 + 8 * k + (e - (a + 32 + 8 * k)) = e by omega] at g9
      rw [g9, nr_s (by omega), nr_s (by omega), nr_s (by omega), pk_us]
      exact ⟨rfl, Or.inl rfl, isC_nI (q := 32) (by omega)⟩
  · obtain ⟨e, he, rfl⟩ := List.mem_map.mp hw
    have := List.mem_range'_1.mp he
    have g9 := (h8 (e - (a + 62)) (by omega)).2.2
    rw [show a + 62 + (e - (a + 62)) = e by omega] at g9
    rw [g9, nr_s (by omega), pk_us]
    exact isC_nI (q := 32) (by omega)
  · unfold vW at hw
    rw [List.getElem?_map, Option.map_eq_some_iff] at hw
    obtain ⟨e, he, rfl⟩ := hw
    obtain ⟨e1, e2⟩ := l_rng he
    rw [e2, (h8 i e1).2.2, nr_s (by omega)]
    rfl
/-- what is said of cells below z holds in a memory that is the same there -/
theorem I6.up {σ0 σ1 : Mm} {l k i z : Nat} (h : I6 σ0 σ a l k i) (hz : mz σ1 = z) (e : ∀ q, q < mz σ → mi σ1 q = mi σ q ∧ mr σ1 q = mr σ q ∧ ml σ1 q = ml σ q ∧ md σ1 q = md σ q ∧ mt σ1 q = mt σ q) (hlk : l = 26 ∨ k = 0) (hki : k = 4 ∨ i = 0) : Na σ0 σ1 a ∧ mz σ1 = z ∧ mt σ1 a = mt σ0 a ∧
  ((mt σ1 a).1 = 7 ∧ mr σ1 a 0 = some (a + 1) ∧ mt σ1 (a + 1) = (55, 26) ∧ mr σ1 a 1 = some (a + 2) ∧ mt σ1 (a + 2) = (56, 4) ∧ mr σ1 a 2 = some (a + 3) ∧ mt σ1 (a + 3) = (57, 8)) ∧ mi σ1 a = zf ∧
  (∀ j, j < l → mr σ1 (a + 1) j = some (a + 4 + j) ∧ (mt σ1 (a + 4 + j)).1 = 5 ∧ mi σ1 (a + 4 + j) = zf) ∧
  (∀ j, j < k → mr σ1 (a + 2) j = some (a + 30 + 8 * j) ∧ shS σ1 (a + 30 + 8 * j) (List.range' (a + 32 + 8 * j) 6) ∧ mi σ1 (a + 30 + 8 * j) = upd zf 3 32 ∧ ∀ x, x < 6 → mi σ1 (a + 32 + 8 * j + x) = upd zf 1 32) ∧
  (∀ j, j < i → mr σ1 (a + 3) j = some (a + 62 + j) ∧ (mt σ1 (a + 62 + j)).1 = 8 ∧ mi σ1 (a + 62 + j) = upd zf 3 32) := by
  obtain ⟨h1, h2, h3, h4, h5, h6, h7, h8⟩ := h
  have ei : ∀ q, q < mz σ → mi σ1 q = mi σ q := fun q hq => (e q hq).1
  have er : ∀ q, q < mz σ → mr σ1 q = mr σ q := fun q hq => (e q hq).2.1
  have et : ∀ q, q < mz σ → mt σ1 q = mt σ q := fun q hq => (e q hq).2.2.2.2
  refine ⟨h1.trans fun q hq => e q (by omega), hz, by rw [et _ (by omega)]; exact h3, ?_, by rw [ei _ (by omega)]; exact h5, fun j hj => ?_, fun j hj => ?_, fun j hj => ?_⟩
  · rw [et a (by omega), et (a + 1) (by omega), et (a + 2) (by omega), et (a + 3) (by omega), er a (by omega)]
    exact h4
  · rw [er _ (by omega), et _ (by omega), ei _ (by omega)]
    exact h6 j hj
  · obtain ⟨g1, ⟨s1, s2, s3, s4, s5, s6⟩, g2, g3⟩ := h7 j hj
    refine ⟨by rw [er _ (by omega)]; exact g1, ⟨by rw [et _ (by omega)]; exact s1, by rw [er _ (by omega)]; exact s2, by rw [et _ (by omega)]; exact s3, s4, fun x y hx => by rw [er _ (by omega)]; exact s5 x y hx, fun y hy => ?_⟩, by rw [ei _ (by omega)]; exact g2, fun x hx => by rw [ei _ (by omega)]; exact g3 x hx⟩
    have := List.mem_range'_1.mp hy
    rw [et _ (by omega)]; exact s6 y hy
  · rw [er _ (by omega), et _ (by omega), ei _ (by omega)]
    exact h8 j hj
end TC
