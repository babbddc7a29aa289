/-! ===== the model: undo, snapshots, typing ===== -/
section MPC
variable {G : GG} {σ : Mm} {K : RES → Mm → Prop} {a : Nat} {A : AS}
theorem jrN_cg {P Q : Nat → Int32} (e : ∀ k, k < 858 → Q k = P k) : jrN Q = jrN P := cnt_congr fun i hi => by rw [e _ (by omega)]
theorem m_undo (gk : GOK G) (hV : MIV σ a A) (h1 : aj A = 0 → ∀ σ', MIV σ' a A → Fb σ σ' a (a + 8) → mi σ' a 6 = 1 → ∀ z : Int32, K (.inl (some (vI z))) σ') (hk : 0 < aj A → ∀ σ' B, MIV σ' a B → AE (Asn A (aW A (aj A - 1)) (aj A - 1) (asv A) (aV A)) B → Fb σ σ' a (a + 8) → mi σ' a 6 = 0 → K (.inl (some (vI (nI (aj A - 1))))) σ') : Runs G mX9_undo rX9_undo [vR (some a)] σ K := by
  obtain ⟨g1, g2, ⟨g3, g4, g5⟩, ⟨g6, g7, g8⟩, ⟨g9, g10⟩, ⟨g11, g12, g13⟩, ⟨g14, g15, g16⟩⟩ := id hV
  refine kX9_undo gk g1 g3 g4 (fun z => h1 z _ (mv_th hV 1).1 (mv_th hV 1).2.1 (mv_th hV 1).2.2) fun hpos => ?_
  have m0 : mi (mU σ a (aj A - 1)) a = upd (upd (mi σ a) 6 0) 5 (nI (aj A - 1)) := (sS_n (by omega)).trans sS_s
  have m1 : mi (mU σ a (aj A - 1)) (a + 1) = va_cpy (mi σ (a + 4)) (aP A) (858 * (aj A - 1)) 0 858 := by
    show mi (sS _ _ _) _ = _
    rw [sS_s, g2]
  have mn : ∀ q, q ≠ a → q ≠ a + 1 → mi (mU σ a (aj A - 1)) q = mi σ q := fun q h0 h1 => (sS_n h1).trans (sS_n h0)
  have mk : ∀ k, k ≠ 5 → k ≠ 6 → mi (mU σ a (aj A - 1)) a k = mi σ a k := fun k h5 h6 => by rw [m0, pk_un h5, pk_un h6]
  refine hk hpos _ (Asn A (va_cpy (mi σ (a + 4)) (aP A) (858 * (aj A - 1)) 0 858) (aj A - 1) (asv A) (aV A)) ⟨g1.mv rfl rfl, m1, ⟨by show aj A - 1 ≤ 8; omega, by rw [m0, pk_us]; rfl, fun i k hi hk => ?_⟩, ⟨(mk 3 (by decide) (by decide)).trans g6, g7, by rw [mn _ (by omega) (by omega)]; exact g8⟩, ⟨(mk 13 (by decide) (by decide)).trans g9, (mk 14 (by decide) (by decide)).trans g10⟩, ⟨(mk 10 (by decide) (by decide)).trans g11, g12, by rw [mn _ (by omega) (by omega)]; exact g13⟩, ⟨(mk 8 (by decide) (by decide)).trans g14, g15, by rw [mn _ (by omega) (by omega)]; exact g16⟩⟩ ⟨fun k hk => ?_, rfl, fun _ _ _ _ => rfl, rfl, fun _ _ => rfl, rfl⟩ ⟨fun q hq => mn q (by omega) (by omega), rfl, rfl, rfl, rfl, rfl⟩ (by rw [m0, pk_un (by decide), pk_us])
  · have hi : i < aj A - 1 := hi
    rw [mn _ (by omega) (by omega)]
    exact g5 i k (by omega) hk
  · show va_cpy (mi σ (a + 4)) (aP A) (858 * (aj A - 1)) 0 858 k = aW A (aj A - 1) k
    rw [pk_cpy_in (by omega) (by omega), Nat.sub_zero]
    exact g5 _ k (by omega) hk
theorem m_save (gk : GOK G) (hV : MIV σ a A) (hk : ∀ σ', MIV σ' a (Asn A (aP A) (aj A) 1 (aP A)) → Fb σ σ' a (a + 8) → mi σ' a 6 = 0 → K (.inl (some (vI (nI (jrN (aP A)))))) σ') : Runs G mX9_save rX9_save [vR (some a)] σ K := by
  obtain ⟨g1, g2, ⟨g3, g4, g5⟩, ⟨g6, g7, g8⟩, ⟨g9, g10⟩, ⟨g11, g12, g13⟩, ⟨g14, g15, g16⟩⟩ := id hV
  refine kX9_save gk g1 ?_
  rw [g2]
  have m0 : mi (mV σ a) a = upd (upd (mi σ a) 6 0) 3 1 := (sS_n (by omega)).trans sS_s
  have m3 : mi (mV σ a) (a + 3) = cpA (aP A) (mi σ (a + 3)) := by
    show mi (sS _ _ _) _ = _
    rw [sS_s, g2]
  have mn : ∀ q, q ≠ a → q ≠ a + 3 → mi (mV σ a) q = mi σ q := fun q h0 h1 => (sS_n h1).trans (sS_n h0)
  have mk : ∀ k, k ≠ 3 → k ≠ 6 → mi (mV σ a) a k = mi σ a k := fun k h5 h6 => by rw [m0, pk_un h5, pk_un h6]
  exact hk _ ⟨g1.mv rfl rfl, (mn _ (by omega) (by omega)).trans g2, ⟨g3, (mk 5 (by decide) (by decide)).trans g4, by rw [mn _ (by omega) (by omega)]; exact g5⟩, ⟨by rw [m0, pk_us]; rfl, Or.inr rfl, fun k hk => by rw [m3, cpA_in hk]; rfl⟩, ⟨(mk 13 (by decide) (by decide)).trans g9, (mk 14 (by decide) (by decide)).trans g10⟩, ⟨(mk 10 (by decide) (by decide)).trans g11, g12, by rw [mn _ (by omega) (by omega)]; exact g13⟩, ⟨(mk 8 (by decide) (by decide)).trans g14, g15, by rw [mn _ (by omega) (by omega)]; exact g16⟩⟩ ⟨fun q hq => mn q (by omega) (by omega), rfl, rfl, rfl, rfl, rfl⟩ (by rw [m0, pk_un (by decide), pk_us])
theorem m_restore (gk : GOK G) (hV : MIV σ a A) (h1 : asv A = 0 → ∀ σ', MIV σ' a A → Fb σ σ' a (a + 8) → mi σ' a 6 = 1 → ∀ z : Int32, K (.inl (some (vI z))) σ') (hk : ¬ asv A = 0 → ∀ σ' B, MIV σ' a B → AE (Asn A (aV A) 0 (asv A) (aV A)) B → Fb σ σ' a (a + 8) → mi σ' a 6 = 0 → K (.inl (some (vI (nI (jrN (aV A)))))) σ') : Runs G mX9_restore rX9_restore [vR (some a)] σ K := by
  obtain ⟨g1, g2, ⟨g3, g4, g5⟩, ⟨g6, g7, g8⟩, ⟨g9, g10⟩, ⟨g11, g12, g13⟩, ⟨g14, g15, g16⟩⟩ := id hV
  refine kX9_restore gk g1 (fun z => h1 (g6.symm.trans z) _ (mv_th hV 1).1 (mv_th hV 1).2.1 (mv_th hV 1).2.2) fun z => ?_
  have eP : ∀ k, k < 858 → cpA (mi σ (a + 3)) (mi σ (a + 1)) k = aV A k := fun k hk => by rw [cpA_in hk]; exact g8 k hk
  rw [jrN_cg eP]
  have m0 : mi (mW σ a) a = upd (upd (mi σ a) 6 0) 5 0 := (sS_n (by omega)).trans sS_s
  have m1 : mi (mW σ a) (a + 1) = cpA (mi σ (a + 3)) (mi σ (a + 1)) := by
    show mi (sS _ _ _) _ = _
    rw [sS_s]
  have mn : ∀ q, q ≠ a → q ≠ a + 1 → mi (mW σ a) q = mi σ q := fun q h0 h1 => (sS_n h1).trans (sS_n h0)
  have mk : ∀ k, k ≠ 5 → k ≠ 6 → mi (mW σ a) a k = mi σ a k := fun k h5 h6 => by rw [m0, pk_un h5, pk_un h6]
  exact hk (fun q => z (g6.trans q)) _ (Asn A (cpA (mi σ (a + 3)) (mi σ (a + 1))) 0 (asv A) (aV A)) ⟨g1.mv rfl rfl, m1, ⟨Nat.zero_le _, by rw [m0, pk_us]; rfl, fun i k hi => absurd hi (Nat.not_lt_zero _)⟩, ⟨(mk 3 (by decide) (by decide)).trans g6, g7, by rw [mn _ (by omega) (by omega)]; exact g8⟩, ⟨(mk 13 (by decide) (by decide)).trans g9, (mk 14 (by decide) (by decide)).trans g10⟩, ⟨(mk 10 (by decide) (by decide)).trans g11, g12, by rw [mn _ (by omega) (by omega)]; exact g13⟩, ⟨(mk 8 (by decide) (by decide)).trans g14, g15, by rw [mn _ (by omega) (by omega)]; exact g16⟩⟩ ⟨fun k hk => eP k hk, rfl, fun _ _ _ _ => rfl, rfl, fun _ _ => rfl, rfl⟩ ⟨fun q hq => mn q (by omega) (by omega), rfl, rfl, rfl, rfl, rfl⟩ (by rw [m0, pk_un (by decide), pk_us])
theorem m_type (gk : GOK G) (hV : MIV σ a A) {c : Int32} (hc : isC c) (h1 : ¬ (¬ c < 32 ∧ ¬ 126 < c) → ∀ σ', MIV σ' a A → Fb σ σ' a (a + 8) → mi σ' a 6 = 1 → K (.inl (some (vI 0))) σ') (h2 : ¬ c < 32 → ¬ 126 < c → atn A = 60 → ∀ σ', MIV σ' a A → Fb σ σ' a (a + 8) → mi σ' a 6 = 2 → K (.inl (some (vI 0))) σ') (hk : ¬ c < 32 → ¬ 126 < c → atn A < 60 → ∀ σ', MIV σ' a (Atx A (atn A + 1) (upd (atx A) (atn A) c)) → Fb σ σ' a (a + 8) → mi σ' a 6 = 0 → K (.inl (some (vI (nI (atn A + 1))))) σ') : Runs G mX9_type rX9_type [vR (some a), vI c] σ K := by
  obtain ⟨g1, g2, ⟨g3, g4, g5⟩, ⟨g6, g7, g8⟩, ⟨g9, g10⟩, ⟨g11, g12, g13⟩, ⟨g14, g15, g16⟩⟩ := id hV
  refine eX9_type gk (kX9_in gk (vX9_type_9 gk ⟨fun z => ⟨_, rfl, g1.ty, fun z2 => ⟨_, rfl, g1.ty, fun σ1 s1 => ⟨fun _ => ?_, fun z3 => ?_⟩⟩, fun z2 => ⟨_, rfl, g1.ty, fun σ1 s1 => ⟨fun z3 => ?_, fun _ => ?_⟩⟩⟩, fun z => ⟨_, rfl, g1.ty, fun σ1 s1 => ⟨_, rfl, g1.ty, fun z3 => ?_, fun _ => ?_⟩⟩⟩))
  · have hin := bP_n z
    rw [si_sS] at s1
    have s1 : σ1 = th σ a 0 := s1
    obtain ⟨q1, q2, q3⟩ := mv_th hV 0
    have hn : atn A < 60 := by
      rw [g11] at z2
      rcases Nat.lt_or_ge (atn A) 60 with h | h
      · exact h
      · exact absurd (show nI (atn A) = 60 by rw [show atn A = 60 by omega]; rfl) z2
    have e10 : mi σ1 a 10 = nI (atn A) := by rw [s1]; exact (th_k (by decide)).trans g11
    refine ⟨a + 6, by rw [s1]; exact q1.1.r9, 60, g1.t9, ?_⟩
    rw [e10, nI_clamp (by omega)]
    refine ⟨nI_in hn (by decide), hc, fun σ2 s2 σ3 s3 => ?_⟩
    have e2 : mi σ2 a 10 = nI (atn A) := by rw [s2]; exact (u2_a (by omega)).trans e10
    rw [e2, nI_1] at s3
    have e3 : mi σ3 a 10 = nI (atn A + 1) := by rw [s3]; exact u2_s
    rw [e3]
    have k3 : ∀ k, k ≠ 10 → mi σ3 a k = mi (th σ a 0) a k := fun k hk => by rw [s3, s2, s1]; exact (u2_k hk).trans (u2_a (by omega))
    have n3 : ∀ q, q ≠ a → q ≠ a + 6 → mi σ3 q = mi σ q := fun q h0 h6 => by
      rw [s3, s2, s1]
      funext j
      exact ((u2_a h0).trans (u2_a h6)).trans (congrFun (sS_n h0) j)
    have t3 : mi σ3 (a + 6) = upd (mi σ (a + 6)) (atn A) c := by
      rw [s3, s2, s1]
      funext j
      refine (u2_a (by omega)).trans ?_
      show u2 (mi (th σ a 0)) (a + 6) (atn A) c (a + 6) j = _
      have e6 : mi (th σ a 0) (a + 6) = mi σ (a + 6) := th_s
      by_cases hj : j = atn A
      · rw [hj, u2_s, pk_us]
      · rw [u2_k hj, pk_un hj, e6]
    have kk : ∀ k, k ≠ 10 → k ≠ 6 → mi σ3 a k = mi σ a k := fun k h1 h2 => (k3 k h1).trans (th_k h2)
    have hcc : 32 ≤ c.toInt ∧ c.toInt ≤ 126 := by
      obtain ⟨p1, p2⟩ := hin
      rw [Int32.lt_iff_toInt_lt] at p1 p2
      have e1 : ((32 : Int32)).toInt = 32 := by decide
      have e2 : ((126 : Int32)).toInt = 126 := by decide
      omega
    refine hk hin.1 hin.2 hn σ3 ⟨?_, (n3 _ (by omega) (by omega)).trans g2, ⟨g3, (kk 5 (by decide) (by decide)).trans g4, by rw [n3 _ (by omega) (by omega)]; exact g5⟩, ⟨(kk 3 (by decide) (by decide)).trans g6, g7, by rw [n3 _ (by omega) (by omega)]; exact g8⟩, ⟨(kk 13 (by decide) (by decide)).trans g9, (kk 14 (by decide) (by decide)).trans g10⟩, ⟨e3, by show atn A + 1 ≤ 60; omega, fun i hi => ?_⟩, ⟨(kk 8 (by decide) (by decide)).trans g14, g15, by rw [n3 _ (by omega) (by omega)]; exact g16⟩⟩ ⟨fun q hq => n3 q (by omega) (by omega), by rw [s3, s2, s1]; rfl, by rw [s3, s2, s1]; rfl, by rw [s3, s2, s1]; rfl, by rw [s3, s2, s1]; rfl, by rw [s3, s2, s1]; rfl⟩ ((k3 6 (by decide)).trans q3)
    · rw [s3, s2, s1]; exact (g1.th (t := 0)).mv rfl rfl
    · have hi : i < atn A + 1 := hi
      rw [t3]
      show upd (mi σ (a + 6)) (atn A) c i = upd (atx A) (atn A) c i ∧ 32 ≤ (upd (atx A) (atn A) c i).toInt ∧ (upd (atx A) (atn A) c i).toInt ≤ 126
      by_cases e : i = atn A
      · rw [e, pk_us, pk_us]; exact ⟨rfl, hcc⟩
      · rw [pk_un e, pk_un e]; exact g13 i (by omega)
  · have e6 : mi σ1 a 6 = 0 := by rw [s1]; exact u2_s
    exact absurd (by rw [e6]; decide) z3
  · have e6 : mi σ1 a 6 = 2 := by rw [s1]; exact u2_s
    rw [e6] at z3
    exact absurd z3 (by decide)
  · have hin := bP_n z
    rw [si_sS] at s1
    have s1 : σ1 = th σ a 2 := s1
    rw [g11] at z2
    rw [s1]
    exact h2 hin.1 hin.2 ((nI_eq (b := 60) (by omega) (by decide)).mp z2) _ (mv_th hV 2).1 (mv_th hV 2).2.1 (mv_th hV 2).2.2
  · have e6 : mi σ1 a 6 = 1 := by rw [s1]; exact u2_s
    rw [e6] at z3
    exact absurd z3 (by decide)
  · rw [si_sS] at s1
    have s1 : σ1 = th σ a 1 := s1
    rw [s1]
    exact h1 (bP_0.mp z) _ (mv_th hV 1).1 (mv_th hV 1).2.1 (mv_th hV 1).2.2
end MPC
