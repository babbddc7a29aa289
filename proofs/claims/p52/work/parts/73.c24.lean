/-! ===== the class: a State, a history, a text made new ===== -/
section TD
variable {G : GG} {σ : Mm} {K : RES → Mm → Prop} {a : Nat}
theorem kX6_init_122 (gk : GOK G) {σ0 : Mm} (hK : ∀ σ', I6 σ0 σ' a 26 4 8 → K (.inl none) σ') : ∀ (d i : Nat), i + d = 8 → ∀ σ, I6 σ0 σ a 26 4 i → At G mX6_init rX6_init (61 + i) (410 + 4 * i) 122 [some (vR (some a)), some (vI (nI i))] [] σ K
  | 0, i, h, σ, hI => by
    obtain rfl : i = 8 := by omega
    obtain ⟨h1, h2, h3, ⟨b1, b2, b3, b4, b5, b6, b7⟩, h5, h6, h7, h8⟩ := id hI
    exact vX6_init_122 gk ⟨_, rfl, b1, _, b6, 8, b7, fun _ => ⟨by decide, by decide, hK σ hI⟩, fun q => absurd (Int32.le_refl _) q⟩
  | d + 1, i, h, σ, hI => by
    obtain ⟨h1, h2, h3, ⟨b1, b2, b3, b4, b5, b6, b7⟩, h5, h6, h7, h8⟩ := id hI
    refine vX6_init_122 gk ⟨_, rfl, b1, _, b6, 8, b7, fun q => absurd q (nI_ge (by omega) (by omega)), fun _ => ⟨by show 61 + i + 1 ≤ 69; omega, by show 410 + 4 * i + 4 ≤ 442; omega, fun σ1 e1 => ⟨by show 61 + i + 1 + 0 ≤ 69; omega, by show 410 + 4 * i + 4 + 0 ≤ 442; omega, fun r t => r = .inl none ∧ t = sS σ1 (mz σ) (upd zf 3 32), ?_, fun E t z => (by cases z.1), fun v t z => ?_⟩⟩⟩
    · subst e1
      exact kX7_init gk (by rw [nw_ts]) nw_is ⟨rfl, rfl⟩
    · obtain ⟨z1, z2⟩ := z
      cases z1
      subst z2 e1
      rw [b6]
      have hq : ∀ q, q ≠ mz σ → mi (sS (nw σ (8, 0)) (mz σ) (upd zf 3 32)) q = mi σ q := fun q hq => by rw [sS_n hq, nw_i hq]
      refine vX6_init_143 gk ⟨a + 3, rfl, 8, by rw [sS_t, nw_t (by omega)]; exact b7, vp_in_nI (by omega) (by omega), _, rfl, by rw [sS_t, nw_ts], fun σ2 e2 => ?_⟩
      rw [nI_clamp (by omega)] at e2
      subst e2
      rw [nA1, Nat.add_zero, Nat.add_zero, show 61 + i + 1 = 61 + (i + 1) by omega, show 410 + 4 * i + 4 = 410 + 4 * (i + 1) by omega]
      refine kX6_init_122 gk hK d (i + 1) (by omega) _ ?_
      have hup := hI.up (σ1 := sS (nw σ (8, 0)) (mz σ) (upd zf 3 32)) rfl (fun q hq9 => ⟨hq q (by omega), by rw [sS_r, nw_r (by omega)], by show ml (nw σ (8, 0)) q = _; rw [nw_l (by omega)], by show md (nw σ (8, 0)) q = _; rw [nw_d (by omega)], by rw [sS_t, nw_t (by omega)]⟩) (Or.inl rfl) (Or.inl rfl)
      obtain ⟨u1, u2, u3, u4, u5, u6, u7, u8⟩ := hup
      refine ⟨u1.trans (Na.sr (by omega)), by show mz σ + 1 = _; omega, u3, ?_, u5, fun j hj => ?_, fun j hj => ?_, fun j hj => ?_⟩
      · rw [sr_t, sr_a (by omega)]; exact u4
      · rw [sr_t, sr_a (by omega), sr_i]; exact u6 j hj
      · rw [sr_a (by omega), sr_i]
        refine ⟨(u7 j hj).1, ?_, (u7 j hj).2.2⟩
        unfold shS
        rw [sr_t, sr_a (by omega), sr_a (by omega)]
        exact (u7 j hj).2.1
      · rw [sr_i, sr_t]
        by_cases z : j = i
        · subst z
          rw [sr_s, sS_t, show a + 62 + j = mz σ by omega, nw_ts, sS_s]
          exact ⟨rfl, rfl, rfl⟩
        · rw [sr_k z]
          exact u8 j (by omega)
theorem kX6_init_92 (gk : GOK G) {σ0 : Mm} (hK : ∀ σ', I6 σ0 σ' a 26 4 8 → K (.inl none) σ') : ∀ (d k : Nat), k + d = 4 → ∀ σ, I6 σ0 σ a 26 k 0 → At G mX6_init rX6_init (29 + 8 * k) (142 + 67 * k) 92 [some (vR (some a)), some (vI (nI k))] [] σ K
  | 0, k, h, σ, hI => by
    obtain rfl : k = 4 := by omega
    obtain ⟨h1, h2, h3, ⟨b1, b2, b3, b4, b5, b6, b7⟩, h5, h6, h7, h8⟩ := id hI
    exact vX6_init_92 gk ⟨_, rfl, b1, _, b4, 4, b5, fun _ => kX6_init_122 gk hK 8 0 rfl σ hI, fun q => absurd (Int32.le_refl _) q⟩
  | d + 1, k, h, σ, hI => by
    obtain ⟨h1, h2, h3, ⟨b1, b2, b3, b4, b5, b6, b7⟩, h5, h6, h7, h8⟩ := id hI
    refine vX6_init_92 gk ⟨_, rfl, b1, _, b4, 4, b5, fun q => absurd q (nI_ge (by omega) (by omega)), fun _ => ⟨by show 29 + 8 * k + 1 ≤ 69; omega, by show 142 + 67 * k + 7 ≤ 442; omega, fun σ1 e1 => ⟨by show 29 + 8 * k + 1 + 7 ≤ 69; omega, by show 142 + 67 * k + 7 + 60 ≤ 442; omega, fun r t => r = .inl none ∧ I5 σ1 t (mz σ) 6, ?_, fun E t z => (by cases z.1), fun v t z => ?_⟩⟩⟩
    · subst e1
      exact kX5_init gk (by rw [nw_ts]) nw_is rfl fun σ' h' => ⟨rfl, h'⟩
    · obtain ⟨z1, z2⟩ := z
      cases z1
      subst e1
      obtain ⟨g1, g2, g3, g4, g5, g6, g7⟩ := z2
      rw [b4]
      have hz : mz σ = a + 30 + 8 * k := by omega
      have hlow : ∀ q, q < mz σ → mi t q = mi σ q ∧ mr t q = mr σ q ∧ ml t q = ml σ q ∧ md t q = md σ q ∧ mt t q = mt σ q := fun q hq => by
        obtain ⟨c1, c2, c3, c4, c5⟩ := g1 q hq
        exact ⟨c1.trans (nw_i (by omega)), c2.trans (nw_r (by omega)), c3.trans (nw_l (by omega)), c4.trans (nw_d (by omega)), c5.trans (nw_t (by omega))⟩
      refine vX6_init_113 gk ⟨a + 2, rfl, 4, by rw [(hlow (a + 2) (by omega)).2.2.2.2]; exact b5, vp_in_nI (by omega) (by omega), _, rfl, g3.2, fun σ2 e2 => ?_⟩
      rw [nI_clamp (by omega)] at e2
      subst e2
      rw [nA1, show 29 + 8 * k + 1 + 7 = 29 + 8 * (k + 1) by omega, show 142 + 67 * k + 7 + 60 = 142 + 67 * (k + 1) by omega]
      refine kX6_init_92 gk hK d (k + 1) (by omega) _ ?_
      obtain ⟨u1, u2, u3, u4, u5, u6, u7, u8⟩ := hI.up (σ1 := t) g2 hlow (Or.inl rfl) (Or.inr rfl)
      refine ⟨u1.trans (Na.sr (by omega)), by show mz t = _; omega, u3, ?_, u5, fun j hj => ?_, fun j hj => ?_, fun j hj => by omega⟩
      · rw [sr_t, sr_a (by omega)]; exact u4
      · rw [sr_t, sr_a (by omega), sr_i]; exact u6 j hj
      · rw [sr_i]
        unfold shS
        rw [sr_t, sr_a (b := a + 30 + 8 * j) (by omega), sr_a (b := a + 30 + 8 * j + 1) (by omega)]
        by_cases z : j = k
        · subst z
          rw [sr_s]
          rw [hz] at g3 g4 g5 g6 g7 ⊢
          refine ⟨rfl, ⟨g3.2, g4, g5, by rw [List.length_range'], fun i e he => ?_, fun e he => ?_⟩, g6, fun x hx => ?_⟩
          · obtain ⟨e1, e2⟩ := l_rng he
            rw [(g7 i e1).1, e2]
            exact congrArg some (by omega)
          · have := List.mem_range'_1.mp he
            have g9 := (g7 (e - (a + 32 + 8 * j)) (by omega)).2.1
            rw [show a + 30 + 8 * j + 2 + (e - (a + 32 + 8 * j)) = e by omega] at g9
            exact g9
          · have g9 := (g7 x hx).2.2
            rw [show a + 30 + 8 * j + 2 + x = a + 32 + 8 * j + x by omega] at g9
            exact g9
        · rw [sr_k z]
          exact u7 j (by omega)
theorem kX6_init_62 (gk : GOK G) {σ0 : Mm} (hK : ∀ σ', I6 σ0 σ' a 26 4 8 → K (.inl none) σ') : ∀ (d l : Nat), l + d = 26 → ∀ σ, I6 σ0 σ a l 0 0 → At G mX6_init rX6_init (3 + l) (38 + 4 * l) 62 [some (vR (some a)), some (vI (nI l))] [] σ K
  | 0, l, h, σ, hI => by
    obtain rfl : l = 26 := by omega
    obtain ⟨h1, h2, h3, ⟨b1, b2, b3, b4, b5, b6, b7⟩, h5, h6, h7, h8⟩ := id hI
    exact vX6_init_62 gk ⟨_, rfl, b1, _, b2, 26, b3, fun _ => kX6_init_92 gk hK 4 0 rfl σ hI, fun q => absurd (Int32.le_refl _) q⟩
  | d + 1, l, h, σ, hI => by
    obtain ⟨h1, h2, h3, ⟨b1, b2, b3, b4, b5, b6, b7⟩, h5, h6, h7, h8⟩ := id hI
    refine vX6_init_62 gk ⟨_, rfl, b1, _, b2, 26, b3, fun q => absurd q (nI_ge (by omega) (by omega)), fun _ => ⟨by show 3 + l + 1 ≤ 69; omega, by show 38 + 4 * l + 4 ≤ 442; omega, fun σ1 e1 => ⟨by show 3 + l + 1 + 0 ≤ 69; omega, by show 38 + 4 * l + 4 + 0 ≤ 442; omega, fun r t => r = .inl none ∧ t = σ1, ?_, fun E t z => (by cases z.1), fun v t z => ?_⟩⟩⟩
    · subst e1
      exact kX4_init gk (by rw [nw_ts]) nw_is ⟨rfl, rfl⟩
    · obtain ⟨z1, z2⟩ := z
      cases z1
      subst z2 e1
      rw [b2]
      refine vX6_init_83 gk ⟨a + 1, rfl, 26, by rw [nw_t (by omega)]; exact b3, vp_in_nI (by omega) (by omega), _, rfl, by rw [nw_ts], fun σ2 e2 => ?_⟩
      rw [nI_clamp (by omega)] at e2
      subst e2
      rw [nA1, Nat.add_zero, Nat.add_zero, show 3 + l + 1 = 3 + (l + 1) by omega, show 38 + 4 * l + 4 = 38 + 4 * (l + 1) by omega]
      refine kX6_init_62 gk hK d (l + 1) (by omega) _ ?_
      obtain ⟨u1, u2, u3, u4, u5, u6, u7, u8⟩ := hI.up (σ1 := nw σ (5, 0)) rfl (fun q hq9 => ⟨nw_i (by omega), nw_r (by omega), nw_l (by omega), nw_d (by omega), nw_t (by omega)⟩) (Or.inr rfl) (Or.inr rfl)
      refine ⟨u1.trans (Na.sr (by omega)), by show mz σ + 1 = _; omega, u3, ?_, u5, fun j hj => ?_, fun j hj => by omega, fun j hj => by omega⟩
      · rw [sr_t, sr_a (by omega)]; exact u4
      · rw [sr_i, sr_t]
        by_cases z : j = l
        · subst z
          rw [sr_s, show a + 4 + j = mz σ by omega, nw_ts, nw_is]
          exact ⟨rfl, rfl, rfl⟩
        · rw [sr_k z]
          exact u6 j (by omega)
theorem kX6_init (gk : GOK G) (ht : (mt σ a).1 = 7) (hz : mi σ a = zf) (hm : mz σ = a + 1) (hK : ∀ σ', I6 σ σ' a 26 4 8 → K (.inl none) σ') : Runs G mX6_init rX6_init [vR (some a)] σ K := by
  refine eX6_init gk ⟨_, rfl, by decide, by decide, fun σ1 e1 => ⟨?_, fun σ2 e2 => ⟨by decide, by decide, fun σ3 e3 => ⟨?_, fun σ4 e4 => ⟨by decide, by decide, fun σ5 e5 => ⟨?_, fun σ6 e6 => ?_⟩⟩⟩⟩⟩⟩
  · rw [e1, nw_t (by omega)]; exact ht
  · subst e1 e2 e3
    rw [nw_t (by show a ≠ mz σ + 1; omega), sr_t, nw_t (by omega)]; exact ht
  · subst e1 e2 e3 e4 e5
    rw [nw_t (by show a ≠ mz σ + 1 + 1; omega), sr_t, nw_t (by show a ≠ mz σ + 1; omega), sr_t, nw_t (by omega)]; exact ht
  · have z2 : mz σ2 = a + 2 := by rw [e2, e1]; show mz σ + 1 = _; omega
    have z4 : mz σ4 = a + 3 := by rw [e4, e3]; show mz σ2 + 1 = _; omega
    have z6 : mz σ6 = a + 4 := by rw [e6, e5]; show mz σ4 + 1 = _; omega
    have n2 : ∀ q, q ≠ a → q ≠ a + 1 → mt σ2 q = mt σ q := fun q q1 q2 => by rw [e2, e1, sr_t, nw_t (by omega)]
    have y2 : mt σ2 a = mt σ a ∧ mt σ2 (a + 1) = (55, 26) ∧ mi σ2 a = zf ∧ mr σ2 a 0 = some (a + 1) := by
      subst e2 e1
      refine ⟨by rw [sr_t, nw_t (by omega)], by rw [sr_t, ← hm, nw_ts], by rw [sr_i, nw_i (by omega)]; exact hz, by rw [sr_s, hm]⟩
    have y4 : mt σ4 a = mt σ a ∧ mt σ4 (a + 1) = (55, 26) ∧ mt σ4 (a + 2) = (56, 4) ∧ mi σ4 a = zf ∧ mr σ4 a 0 = some (a + 1) ∧ mr σ4 a 1 = some (a + 2) := by
      subst e4 e3
      refine ⟨by rw [sr_t, nw_t (by omega)]; exact y2.1, by rw [sr_t, nw_t (by omega)]; exact y2.2.1, by rw [sr_t, ← z2, nw_ts], by rw [sr_i, nw_i (by omega)]; exact y2.2.2.1, by rw [sr_k (by omega), nw_r (by omega)]; exact y2.2.2.2, by rw [sr_s, z2]⟩
    have y6 : mt σ6 a = mt σ a ∧ mt σ6 (a + 1) = (55, 26) ∧ mt σ6 (a + 2) = (56, 4) ∧ mt σ6 (a + 3) = (57, 8) ∧ mi σ6 a = zf ∧ mr σ6 a 0 = some (a + 1) ∧ mr σ6 a 1 = some (a + 2) ∧ mr σ6 a 2 = some (a + 3) := by
      subst e6 e5
      refine ⟨by rw [sr_t, nw_t (by omega)]; exact y4.1, by rw [sr_t, nw_t (by omega)]; exact y4.2.1, by rw [sr_t, nw_t (by omega)]; exact y4.2.2.1, by rw [sr_t, ← z4, nw_ts], by rw [sr_i, nw_i (by omega)]; exact y4.2.2.2.1, by rw [sr_k (by omega), nw_r (by omega)]; exact y4.2.2.2.2.1, by rw [sr_k (by omega), nw_r (by omega)]; exact y4.2.2.2.2.2, by rw [sr_s, z4]⟩
    have hna : Na σ σ6 a := by
      have p2 : Na σ σ2 a := by subst e2 e1; exact (Na.nw (by omega)).trans (Na.sr (by omega))
      have p4 : Na σ2 σ4 a := by subst e4 e3; exact (Na.nw (by omega)).trans (Na.sr (by omega))
      have p6 : Na σ4 σ6 a := by subst e6 e5; exact (Na.nw (by omega)).trans (Na.sr (by omega))
      exact (p2.trans p4).trans p6
    intro t1 f1 t2 f2 t3 f3 t4 f4 t5 f5 t6 f6
    have e9 : t6 = σ6 := by
      rw [f6, f5, f4, f3, f2, f1]
      simp only [si_sS, sS_sS, sS_s, y6.2.2.2.2.1, zf_u]
      rw [← y6.2.2.2.2.1, sS_id]
    rw [e9]
    exact kX6_init_62 gk hK 26 0 rfl σ6 ⟨hna, by omega, y6.1, ⟨by rw [y6.1]; exact ht, y6.2.2.2.2.2.1, y6.2.1, y6.2.2.2.2.2.2.1, y6.2.2.1, y6.2.2.2.2.2.2.2, y6.2.2.2.1⟩, y6.2.2.2.2.1, fun j hj => by omega, fun j hj => by omega, fun j hj => by omega⟩
/-- a history at a with i of its States -/
def I3 (σ0 σ : Mm) (a i : Nat) : Prop := Na σ0 σ a ∧ mz σ = a + 2 + 70 * i ∧ (mt σ a = mt σ0 a ∧ (mt σ a).1 = 4) ∧ mr σ a 0 = some (a + 1) ∧ mt σ (a + 1) = (59, 9) ∧ mi σ a = zf ∧ ∀ j, j < i → mr σ (a + 1) j = some (a + 2 + 70 * j) ∧ SHP σ (a + 2 + 70 * j)
theorem kX3_init_25 (gk : GOK G) {σ0 : Mm} (hK : ∀ σ', I3 σ0 σ' a 9 → K (.inl none) σ') : ∀ (d i : Nat), i + d = 9 → ∀ σ, I3 σ0 σ a i → At G mX3_init rX3_init (1 + 70 * i) (9 + 451 * i) 25 [some (vR (some a)), some (vI (nI i))] [] σ K
  | 0, i, h, σ, hI => by
    obtain rfl : i = 9 := by omega
    exact vX3_init_25 gk ⟨_, rfl, hI.2.2.1.2, _, hI.2.2.2.1, 9, hI.2.2.2.2.1, fun _ => ⟨by decide, by decide, hK σ hI⟩, fun q => absurd (Int32.le_refl _) q⟩
  | d + 1, i, h, σ, hI => by
    obtain ⟨h1, h2, h3, h4, h5, h6, h7⟩ := id hI
    refine vX3_init_25 gk ⟨_, rfl, h3.2, _, h4, 9, h5, fun q => absurd q (nI_ge (by omega) (by omega)), fun _ => ⟨by show 1 + 70 * i + 1 ≤ 631; omega, by show 9 + 451 * i + 9 ≤ 4068; omega, fun σ1 e1 => ⟨by show 1 + 70 * i + 1 + 69 ≤ 631; omega, by show 9 + 451 * i + 9 + 442 ≤ 4068; omega, fun r t => r = .inl none ∧ I6 σ1 t (mz σ) 26 4 8, ?_, fun E t z => (by cases z.1), fun v t z => ?_⟩⟩⟩
    · subst e1
      exact kX6_init gk (by rw [nw_ts]) nw_is rfl fun σ' h' => ⟨rfl, h'⟩
    · obtain ⟨z1, z2⟩ := z
      cases z1
      subst e1
      have hsh := z2.rs.shp
      obtain ⟨g1, g2, g3, g4, -⟩ := z2
      rw [h4]
      have hlow : ∀ q, q < mz σ → mi t q = mi σ q ∧ mr t q = mr σ q ∧ ml t q = ml σ q ∧ md t q = md σ q ∧ mt t q = mt σ q := fun q hq => by
        obtain ⟨c1, c2, c3, c4, c5⟩ := g1 q hq
        exact ⟨c1.trans (nw_i (by omega)), c2.trans (nw_r (by omega)), c3.trans (nw_l (by omega)), c4.trans (nw_d (by omega)), c5.trans (nw_t (by omega))⟩
      refine vX3_init_46 gk ⟨a + 1, rfl, 9, by rw [(hlow (a + 1) (by omega)).2.2.2.2]; exact h5, vp_in_nI (by omega) (by omega), _, rfl, g4.1, fun σ2 e2 => ?_⟩
      rw [nI_clamp (by omega)] at e2
      subst e2
      rw [nA1, show 1 + 70 * i + 1 + 69 = 1 + 70 * (i + 1) by omega, show 9 + 451 * i + 9 + 442 = 9 + 451 * (i + 1) by omega]
      have ha := hlow a (by omega)
      refine kX3_init_25 gk hK d (i + 1) (by omega) _ ⟨(h1.trans fun q hq => hlow q (by omega)).trans (Na.sr (by omega)), by show mz t = _; omega, ⟨?_, ?_⟩, ?_, ?_, ?_, fun j hj => ?_⟩
      · rw [sr_t, ha.2.2.2.2]; exact h3.1
      · rw [sr_t, ha.2.2.2.2]; exact h3.2
      · rw [sr_a (by omega), ha.2.1]; exact h4
      · rw [sr_t, (hlow (a + 1) (by omega)).2.2.2.2]; exact h5
      · rw [sr_i, ha.1]; exact h6
      · by_cases z : j = i
        · subst z
          rw [sr_s, ← h2]
          exact ⟨rfl, hsh.loc fun q q1 q2 => ⟨sr_a (by omega), rfl⟩⟩
        · rw [sr_k z, (hlow (a + 1) (by omega)).2.1]
          refine ⟨(h7 j (by omega)).1, (h7 j (by omega)).2.loc fun q q1 q2 => ⟨by rw [sr_a (by omega), (hlow q (by omega)).2.1], by rw [sr_t, (hlow q (by omega)).2.2.2.2]⟩⟩
theorem kX3_init (gk : GOK G) (ht : (mt σ a).1 = 4) (hz : mi σ a = zf) (hm : mz σ = a + 1) (hK : ∀ σ', I3 σ σ' a 9 → K (.inl none) σ') : Runs G mX3_init rX3_init [vR (some a)] σ K := by
  refine eX3_init gk ⟨_, rfl, by decide, by decide, fun σ1 e1 => ⟨?_, fun σ2 e2 σ3 e3 σ4 e4 => ?_⟩⟩
  · rw [e1, nw_t (by omega)]; exact ht
  · have e9 : σ4 = σ2 := by
      have : mi σ2 a = zf := by rw [e2, sr_i, e1, nw_i (by omega)]; exact hz
      rw [e4, e3]
      simp only [si_sS, sS_sS, sS_s, this, zf_u]
      rw [← this, sS_id]
    rw [e9]
    subst e2 e1
    refine kX3_init_25 gk hK 9 0 rfl _ ⟨(Na.nw (by omega)).trans (Na.sr (by omega)), by show mz σ + 1 = _; omega, ⟨by rw [sr_t, nw_t (by omega)], by rw [sr_t, nw_t (by omega)]; exact ht⟩, by rw [sr_s, hm], by rw [sr_t, ← hm, nw_ts], by rw [sr_i, nw_i (by omega)]; exact hz, fun j hj => by omega⟩
theorem I3.hi {σ0 : Mm} {W : Nat → Nat → Int32} (h : I3 σ0 σ a 9) : HI σ a W 0 0 := by
  obtain ⟨h1, h2, h3, h4, h5, h6, h7⟩ := h
  exact ⟨⟨h3.2, h4, h5, h7⟩, 0, by omega, by rw [h6]; rfl, by omega, by rw [h6]; rfl, fun i hi => by omega⟩
/-- a text at a: its characters at a + 1, its row of commands at a + 2, they behind -/
def TSh (σ : Mm) (a : Nat) : Prop := (mt σ a).1 = 2 ∧ mr σ a 0 = some (a + 1) ∧ mt σ (a + 1) = (53, 60) ∧ mr σ a 3 = some (a + 2) ∧ mt σ (a + 2) = (60, 10) ∧ ∀ i, i < 10 → mr σ (a + 2) i = some (a + 3 + i) ∧ (mt σ (a + 3 + i)).1 = 1
def I1 (σ0 σ : Mm) (a i : Nat) : Prop := Na σ0 σ a ∧ mz σ = a + 3 + i ∧ (mt σ a = mt σ0 a ∧ (mt σ a).1 = 2) ∧ mi σ a = zf ∧ (mr σ a 0 = some (a + 1) ∧ mt σ (a + 1) = (53, 60) ∧ mr σ a 3 = some (a + 2) ∧ mt σ (a + 2) = (60, 10)) ∧ ∀ j, j < i → mr σ (a + 2) j = some (a + 3 + j) ∧ (mt σ (a + 3 + j)).1 = 1
theorem kX1_init_38 (gk : GOK G) {σ0 : Mm} (hK : ∀ σ', I1 σ0 σ' a 10 → K (.inl none) σ') : ∀ (d i : Nat), i + d = 10 → ∀ σ, I1 σ0 σ a i → At G mX1_init rX1_init (2 + i) (70 + 5 * i) 38 [some (vR (some a)), some (vI (nI i))] [] σ K
  | 0, i, h, σ, hI => by
    obtain rfl : i = 10 := by omega
    exact vX1_init_38 gk ⟨_, rfl, hI.2.2.1.2, _, hI.2.2.2.2.1.2.2.1, 10, hI.2.2.2.2.1.2.2.2, fun _ => ⟨by decide, by decide, hK σ hI⟩, fun q => absurd (Int32.le_refl _) q⟩
  | d + 1, i, h, σ, hI => by
    obtain ⟨h1, h2, h3, h4, h5, h7⟩ := id hI
    refine vX1_init_38 gk ⟨_, rfl, h3.2, _, h5.2.2.1, 10, h5.2.2.2, fun q => absurd q (nI_ge (by omega) (by omega)), fun _ => ⟨by show 2 + i + 1 ≤ 12; omega, by show 70 + 5 * i + 5 ≤ 120; omega, fun σ1 e1 => ⟨by show 2 + i + 1 + 0 ≤ 12; omega, by show 70 + 5 * i + 5 + 0 ≤ 120; omega, fun r t => r = .inl none ∧ ∃ f, t = sS σ1 (mz σ) f, ?_, fun E t z => (by cases z.1), fun v t z => ?_⟩⟩⟩
    · subst e1
      exact kX0_init gk (by rw [nw_ts]) fun f => ⟨rfl, f, rfl⟩
    · obtain ⟨z1, f, z2⟩ := z
      cases z1
      subst z2 e1
      rw [h5.2.2.1]
      have hq : ∀ q, q ≠ mz σ → mi (sS (nw σ (1, 0)) (mz σ) f) q = mi σ q := fun q hq => by rw [sS_n hq, nw_i hq]
      refine vX1_init_59 gk ⟨a + 2, rfl, 10, by rw [sS_t, nw_t (by omega)]; exact h5.2.2.2, vp_in_nI (by omega) (by omega), _, rfl, by rw [sS_t, nw_ts], fun σ2 e2 => ?_⟩
      rw [nI_clamp (by omega)] at e2
      subst e2
      rw [nA1, Nat.add_zero, Nat.add_zero, show 2 + i + 1 = 2 + (i + 1) by omega, show 70 + 5 * i + 5 = 70 + 5 * (i + 1) by omega]
      refine kX1_init_38 gk hK d (i + 1) (by omega) _ ⟨h1.trans (((Na.nw (by omega)).trans (Na.sS (by omega))).trans (Na.sr (by omega))), ?_, ⟨?_, ?_⟩, ?_, ?_, fun j hj => ?_⟩
      · show mz σ + 1 = _; omega
      · rw [sr_t, sS_t, nw_t (by omega)]; exact h3.1
      · rw [sr_t, sS_t, nw_t (by omega)]; exact h3.2
      · rw [sr_i, hq _ (by omega)]; exact h4
      · rw [sr_t, sS_t, nw_t (by omega), nw_t (by omega), sr_a (by omega), sS_r, nw_r (by omega)]; exact h5
      · rw [sr_t, sS_t]
        by_cases z : j = i
        · subst z
          rw [sr_s, ← h2, nw_ts]
          exact ⟨rfl, rfl⟩
        · rw [sr_k z, sS_r, nw_r (by omega), nw_t (by omega)]
          exact h7 j (by omega)
theorem kX1_init (gk : GOK G) (ht : (mt σ a).1 = 2) (hz : mi σ a = zf) (hm : mz σ = a + 1) (hK : ∀ σ', I1 σ σ' a 10 → K (.inl none) σ') : Runs G mX1_init rX1_init [vR (some a)] σ K := by
  refine eX1_init gk ⟨_, rfl, by decide, by decide, fun σ1 e1 => ⟨?_, fun σ2 e2 σ3 e3 σ4 e4 => ?_⟩⟩
  · rw [e1, nw_t (by omega)]; exact ht
  · have y0 : mi σ2 a = zf := by rw [e2, sr_i, e1, nw_i (by omega)]; exact hz
    have e9 : σ4 = σ2 := by
      rw [e4, e3]
      simp only [si_sS, sS_sS, sS_s, y0, zf_u]
      rw [← y0, sS_id]
    rw [e9]
    have z2 : mz σ2 = a + 2 := by rw [e2, e1]; show mz σ + 1 = _; omega
    have y2 : mt σ2 a = mt σ a ∧ mt σ2 (a + 1) = (53, 60) ∧ mr σ2 a 0 = some (a + 1) := by
      subst e2 e1
      exact ⟨by rw [sr_t, nw_t (by omega)], by rw [sr_t, ← hm, nw_ts], by rw [sr_s, hm]⟩
    refine ⟨by decide, by decide, fun σ5 e5 => ⟨?_, fun σ6 e6 σ7 e7 => ?_⟩⟩
    · rw [e5, nw_t (by omega), y2.1]; exact ht
    · have y6 : mi σ6 a = zf := by rw [e6, sr_i, e5, nw_i (by omega)]; exact y0
      have e8 : σ7 = σ6 := by
        rw [e7]
        simp only [si_sS, y6, zf_u]
        rw [← y6, sS_id]
      rw [e8]
      have hna : Na σ σ6 a := by
        have p2 : Na σ σ2 a := by subst e2 e1; exact (Na.nw (by omega)).trans (Na.sr (by omega))
        have p4 : Na σ2 σ6 a := by subst e6 e5; exact (Na.nw (by omega)).trans (Na.sr (by omega))
        exact p2.trans p4
      refine kX1_init_38 gk hK 10 0 rfl _ ⟨hna, ?_, ?_, y6, ?_, fun j hj => by omega⟩
      · rw [e6, e5]; show mz σ2 + 1 = _; omega
      · subst e6 e5
        rw [sr_t, nw_t (by omega), y2.1]
        exact ⟨rfl, ht⟩
      · subst e6 e5
        refine ⟨by rw [sr_k (by omega), nw_r (by omega)]; exact y2.2.2, by rw [sr_t, nw_t (by omega)]; exact y2.2.1, by rw [sr_s, z2], by rw [sr_t, ← z2, nw_ts]⟩
end TD
