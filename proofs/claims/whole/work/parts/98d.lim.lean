section LIN2
variable {G : GG} {σ σ' : Mm} {K : RES → Mm → Prop} {a : Nat} {A : AS} {L : Ln}
theorem mv_P (h : MIV σ a A) (hF : FrP σ σ' a) (hL : LM σ' a L) (h60 : L.1 ≤ 60) : MIV σ' a (Aln A L.1 L.2) ∧ Fb σ σ' a (a + 8) := by
  obtain ⟨g1, g2, ⟨g3, g4, g5⟩, ⟨g6, g7, g8⟩, ⟨g9, g10⟩, ⟨g11, g12, g13⟩, ⟨g14, g15, g16⟩⟩ := h
  obtain ⟨f1, f2, f3⟩ := id hF
  refine ⟨⟨hL.1, (f1 _ (by omega) (by omega)).trans g2, ⟨g3, (f2 5 (by decide)).trans g4, by rw [f1 _ (by omega) (by omega)]; exact g5⟩, ⟨(f2 3 (by decide)).trans g6, g7, by rw [f1 _ (by omega) (by omega)]; exact g8⟩, ⟨(f2 13 (by decide)).trans g9, (f2 14 (by decide)).trans g10⟩, ⟨(f2 10 (by decide)).trans g11, g12, by rw [f1 _ (by omega) (by omega)]; exact g13⟩, ⟨hL.2.1, h60, hL.2.2⟩⟩, fun q hq => f1 q (by omega) (by omega), f3⟩
theorem kX9_writeShelf (gk : GOK G) (hV : MIV σ a A) {n b : Nat} (hP : PI (aP A) n b) {s : Int32} (h1 : ¬ shP (aP A) s → K (.inl (some (vI 0))) (th σ a 1)) (hk : ∀ k : Nat, k < 4 → s = nI k → nI k < aP A 0 → ∀ σ', MIV σ' a (Aln A (lnP (aP A) k 26).1 (lnP (aP A) k 26).2) → Fb σ σ' a (a + 8) → mi σ' a 6 = 0 → K (.inl (some (vI (nI (lnP (aP A) k 26).1)))) σ') : Runs G mX9_writeShelf rX9_writeShelf [vR (some a), vI s] σ K := by
  have hM := hV.1
  have eP := hV.2.1
  have hn4 := hP.1.1
  refine eX9_writeShelf gk ⟨_, rfl, hM.ty, kX9_isShelf gk hM (vX9_writeShelf_6 gk ⟨_, rfl, hM.ty, kX9_isThere gk hM (vX9_writeShelf_9 gk ⟨fun z => ⟨_, rfl, hM.ty, fun σ1 s1 => ?_⟩, fun z => ?_⟩)⟩)⟩
  · have hs : shP (aP A) s := by rw [← eP]; exact bP_n z
    have h0 : (bP (¬ shP (mi σ (a + 1)) s)) = 0 := by rw [eP]; exact bP_f (fun q => q hs)
    obtain ⟨k, hk4, rfl, hk0⟩ := shP_k ⟨n, hP.1⟩ hs
    have hkn : k < n := by
      rw [hP.1.2] at hk0
      exact (nI_ltI (by omega) (by omega)).mp hk0
    rw [h0, si_sS] at s1
    obtain ⟨q1, q2, q3⟩ := mv_th hV 0
    have hM1 : MS σ1 a := by rw [s1]; exact q1.1.sS
    have f1 : FrP (th σ a 0) σ1 a := by
      rw [s1]
      exact ⟨fun q h1 h2 => sS_n h1, fun j hj => by rw [sS_s, pk_un hj], rfl, rfl, rfl, rfl, rfl⟩
    have hL0 : LM σ1 a (lnP (aP A) k 0) := ⟨hM1, by rw [s1, sS_s, pk_us]; rfl, fun i hi => absurd hi (Nat.not_lt_zero _)⟩
    have hcap := hP.2.2.2.1 k hkn
    have hlen : (lnP (aP A) k 26).1 ≤ 36 := by
      have h1 := hcap.2.2.2.2.2
      have h2 : ecN (aP A) k = cnt (fun l => aP A (eX k l) = 1) 26 := rfl
      rw [h2] at h1
      have := hcap.2.1
      have := lnP_len (aP A) k 26
      omega
    refine kX9_writeShelf_22 gk hP hkn (fun σ' hL' hF' => ?_) 26 0 rfl σ1 f1 hL0 (by rw [f1.1 _ (by omega) (by omega)]; exact q1.2.1)
    obtain ⟨p1, p2⟩ := mv_P q1 hF' hL' (by omega)
    exact hk k hk4 rfl hk0 σ' p1 (q2.trans p2) ((hF'.2.1 6 (by decide)).trans q3)
  · have hs : ¬ shP (aP A) s := by rw [← eP]; exact bP_0.mp z
    rw [bP_t (p := ¬ _) (by rw [eP]; exact hs)]
    exact h1 hs
theorem kX9_lineAt (gk : GOK G) (hV : MIV σ a A) {i : Int32} (hc : ∀ q, q < aln A → isC (alt A q)) (h1 : ¬ (∃ q : Nat, q < aln A ∧ i = nI q) → K (.inl (some (vI 32))) (th σ a 1)) (hk : ∀ q : Nat, q < aln A → i = nI q → K (.inl (some (vI (alt A q)))) (th σ a 0)) : Runs G mX9_lineAt rX9_lineAt [vR (some a), vI i] σ K := by
  obtain ⟨g1, g2, ⟨g3, g4, g5⟩, ⟨g6, g7, g8⟩, ⟨g9, g10⟩, ⟨g11, g12, g13⟩, ⟨g14, g15, g16⟩⟩ := id hV
  have hiff : (¬ i < 0 ∧ ¬ mi σ a 8 - 1 < i) ↔ ∃ q : Nat, q < aln A ∧ i = nI q := by
    rw [g14]
    have e : (nI (aln A) - 1).toInt = (aln A : Int) - 1 := by
      rw [Int32.toInt_sub, nI_toInt (by omega)]
      exact Int.bmod_eq_of_le (by simp; omega) (by simp; omega)
    rw [Int32.lt_iff_toInt_lt, Int32.lt_iff_toInt_lt, e, Int32.toInt_zero]
    constructor
    · intro ⟨q1, q2⟩
      exact ⟨i.toInt.toNat, by omega, by rw [← Int32.toInt_inj, nI_toInt (by omega)]; omega⟩
    · intro ⟨q, hq, e⟩
      rw [e, nI_toInt (by omega)]
      omega
  refine eX9_lineAt gk ⟨_, rfl, g1.ty, kX9_in gk (vX9_lineAt_12 gk ⟨_, rfl, g1.ty, kX9_isThere gk g1 (vX9_lineAt_15 gk ⟨fun z => ?_, fun z => ⟨_, rfl, g1.th.ty, ?_⟩⟩)⟩)⟩
  · have hno := bP_0.mp z
    rw [bP_t (p := ¬ _) hno]
    exact h1 fun q => hno (hiff.mpr q)
  · have hyes := bP_n z
    obtain ⟨q, hq, e⟩ := hiff.mp hyes
    rw [bP_f (p := ¬ _) (fun z => z hyes)]
    refine ⟨_, g1.th.r7, 60, g1.th.t7, by rw [e]; exact nI_in (by omega) (by decide), ?_⟩
    rw [e, nI_clamp (by omega), show mi (th σ a 0) (a + 5) q = alt A q from (congrFun th_s q).trans (g16 q hq)]
    exact ⟨hc q hq, hk q hq e⟩
end LIN2
