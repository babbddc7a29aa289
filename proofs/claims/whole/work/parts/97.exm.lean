/-! ===== the model: execute ===== -/
section EXM
variable {G : GG} {σ σ' τ : Mm} {K : RES → Mm → Prop} {a : Nat} {A : AS} {n : Nat} {T : Nat → Int32}
theorem Nx_uniq {k : Nat} (hk : k < 9) {F P P1 P2 : Nat → Int32} (h1 : Nx k F P P1) (h2 : Nx k F P P2) : P1 = P2 := by
  have nn : ∀ {n n' : Nat}, n ≤ 4 → n' ≤ 4 → P 0 = nI n → P 0 = nI n' → n = n' := fun h h' e e' => (nI_eq (by omega) (by omega)).mp (e.symm.trans e')
  match k, hk with
  | 0, _ =>
    obtain ⟨l, hl, g1, -, -, -, -, rfl⟩ := h1
    obtain ⟨l', hl', g1', -, -, -, -, rfl⟩ := h2
    rw [li hl hl' (g1.symm.trans g1')]
  | 1, _ =>
    obtain ⟨l, n, hn, hp, hl, g1, -, -, -, rfl⟩ := h1
    obtain ⟨l', n', hn', hp', hl', g1', -, -, -, rfl⟩ := h2
    rw [li hl hl' (g1.symm.trans g1'), nn hn hn' hp hp']
  | 2, _ =>
    obtain ⟨l, n, hn, hp, hl, g1, -, rfl⟩ := h1
    obtain ⟨l', n', hn', hp', hl', g1', -, rfl⟩ := h2
    rw [li hl hl' (g1.symm.trans g1'), nn hn hn' hp hp']
  | 3, _ =>
    obtain ⟨-, n, hn, hp, rfl⟩ := h1
    obtain ⟨-, n', hn', hp', rfl⟩ := h2
    rw [nn (by omega) (by omega) hp hp']
  | 4, _ =>
    obtain ⟨k, l, n, hn, hp, hk, hl, e2, g1, -, rfl⟩ := h1
    obtain ⟨k', l', n', hn', hp', hk', hl', e2', g1', -, rfl⟩ := h2
    rw [li hl hl' (g1.symm.trans g1'), show k = k' from (nI_eq (by omega) (by omega)).mp (e2.symm.trans e2')]
  | 5, _ =>
    obtain ⟨k, l, n, m, hn, hp, hm, hm8, hk, hl, e2, g1, -, -, -, rfl⟩ := h1
    obtain ⟨k', l', n', m', hn', hp', hm', hm8', hk', hl', e2', g1', -, -, -, rfl⟩ := h2
    rw [li hl hl' (g1.symm.trans g1'), show k = k' from (nI_eq (by omega) (by omega)).mp (e2.symm.trans e2'), show m = m' from (nI_eq (by omega) (by omega)).mp (hm.symm.trans hm')]
  | 6, _ =>
    obtain ⟨k, n, hn, hp, hk, e2, rfl⟩ := h1
    obtain ⟨k', n', hn', hp', hk', e2', rfl⟩ := h2
    rw [show k = k' from (nI_eq (by omega) (by omega)).mp (e2.symm.trans e2')]
  | 7, _ =>
    obtain ⟨k, n, hn, hp, hk, e2, rfl⟩ := h1
    obtain ⟨k', n', hn', hp', hk', e2', rfl⟩ := h2
    rw [show k = k' from (nI_eq (by omega) (by omega)).mp (e2.symm.trans e2')]
  | 8, _ =>
    obtain ⟨m, h0, hm, e, rfl⟩ := h1
    obtain ⟨m', h0', hm', e', rfl⟩ := h2
    rw [show m = m' from (nI_eq (by omega) (by omega)).mp (e.symm.trans e')]
theorem flt_eq {t z : Int32} {Q : Nat → Int32} : th (si (th (sS (kp τ a) (a + 1) Q) a t) a 14 z) a 2 = th (sS (kp (si τ a 14 z) a) (a + 1) Q) a 2 := by
  have e0 : ∀ τ : Mm, mi (kp τ a) a = upd (mi τ a) 6 0 := fun τ => (sS_n (by omega)).trans sS_s
  refine Prod.ext (funext fun b => funext fun k => ?_) rfl
  show mi (th (si (th (sS (kp τ a) (a + 1) Q) a t) a 14 z) a 2) b k = mi (th (sS (kp (si τ a 14 z) a) (a + 1) Q) a 2) b k
  rw [si_sS, si_sS]
  by_cases h0 : b = a
  · subst h0
    have l1 : mi (th (sS (th (sS (kp τ b) (b + 1) Q) b t) b (upd (mi (th (sS (kp τ b) (b + 1) Q) b t) b) 14 z)) b 2) b = upd (upd (upd (upd (mi τ b) 6 0) 6 t) 14 z) 6 2 := by
      refine sS_s.trans ?_
      rw [sS_s]
      have : mi (th (sS (kp τ b) (b + 1) Q) b t) b = upd (upd (mi τ b) 6 0) 6 t := by
        refine sS_s.trans ?_
        rw [sS_n (by omega), e0]
      rw [this]
    have l2 : mi (th (sS (kp (sS τ b (upd (mi τ b) 14 z)) b) (b + 1) Q) b 2) b = upd (upd (upd (mi τ b) 14 z) 6 0) 6 2 := by
      refine sS_s.trans ?_
      rw [sS_n (by omega), e0, sS_s]
    rw [l1, l2]
    by_cases k6 : k = 6
    · rw [k6, pk_us, pk_us]
    · rw [pk_un k6, pk_un k6, pk_un k6]
      by_cases k14 : k = 14
      · rw [k14, pk_us, pk_us]
      · rw [pk_un k14, pk_un k14, pk_un k6, pk_un k6]
  · have q1 : ∀ X : Mm, ∀ t : Int32, mi (th X a t) b = mi X b := fun X t => sS_n h0
    rw [q1, q1, sS_n h0, q1]
    by_cases h1 : b = a + 1
    · subst h1
      rw [sS_s, sS_s]
    · rw [sS_n h1, sS_n h1]
      by_cases h2 : b = a + 2
      · subst h2
        have q2 : ∀ X : Mm, mi (kp X a) (a + 2) = cpA (mi X (a + 1)) (mi X (a + 2)) := fun X => sS_s
        rw [q2, q2, sS_n (show a + 1 ≠ a by omega), sS_n (show a + 2 ≠ a by omega)]
      · have q2 : ∀ X : Mm, mi (kp X a) b = mi X b := fun X => (sS_n h2).trans (sS_n h0)
        rw [q2, q2, sS_n h0]
/-- the pantry behind the reading -/
theorem mv_N (h : MIV σ a A) (hF : FrN σ τ a) {ea : Int32} (h13 : mi τ a 13 = ea) (h10 : mi τ a 10 = 0) : MIV τ a (Aer (Atx A 0 (atx A)) ea (afa A)) ∧ Fb σ τ a (a + 8) := by
  obtain ⟨g1, g2, ⟨g3, g4, g5⟩, ⟨g6, g7, g8⟩, ⟨g9, g10⟩, ⟨g11, g12, g13⟩, ⟨g14, g15, g16⟩⟩ := h
  obtain ⟨f1, f2, f3⟩ := id hF
  have k : ∀ k, k ≠ 10 → k ≠ 11 → k ≠ 12 → k ≠ 13 → k ≠ 16 → mi τ a k = mi σ a k := f2
  refine ⟨⟨hF.ms g1, (f1 _ (by omega) (by omega)).trans g2, ⟨g3, (k 5 (by decide) (by decide) (by decide) (by decide) (by decide)).trans g4, by rw [f1 _ (by omega) (by omega)]; exact g5⟩, ⟨(k 3 (by decide) (by decide) (by decide) (by decide) (by decide)).trans g6, g7, by rw [f1 _ (by omega) (by omega)]; exact g8⟩, ⟨h13, (k 14 (by decide) (by decide) (by decide) (by decide) (by decide)).trans g10⟩, ⟨h10, Nat.zero_le _, fun i hi => absurd hi (Nat.not_lt_zero _)⟩, ⟨(k 8 (by decide) (by decide) (by decide) (by decide) (by decide)).trans g14, g15, by rw [f1 _ (by omega) (by omega)]; exact g16⟩⟩, fun q hq => f1 q (by omega) (by omega), f3⟩
theorem do_126 (gk : GOK G) (hM : MS τ a) {j m e : Nat} (hj : j ≤ 8) (hn : mi τ a 5 = nI j) (hm : m < 59) (h16 : mi τ a 16 = nI m) (hR : ∀ t, t < m → RowT τ a n T t) {R : Nat → Nat → Int32} (he : e ≤ m) (hN : ∀ t, t < e → Nx (KT n T t) (CT n T t) (R t) (R (t + 1))) (hP : ∀ t, t ≤ e → PG (R t))
    (hend : e = m → K (.inl (some (vI (nI m)))) (mK τ a j (R m))) (hf : e < m → (∀ P', ¬ Nx (KT n T e) (CT n T e) (R e) P') ∧ K (.inl (some (vI 0))) (mF2 (si τ a 14 (nI e)) a 2 (R e))) :
    ∀ (d i : Nat), i + d = e → At G mX9_execute rX9_execute 0 0 126 [some (vR (some a)), some (vI (nI i))] [] (sS (kp τ a) (a + 1) (R i)) K
  | d, i, hd => by
    have hM2 : MS (sS (kp τ a) (a + 1) (R i)) a := hM.kp.sS
    have e0 : mi (sS (kp τ a) (a + 1) (R i)) a = upd (mi τ a) 6 0 := (sS_n (by omega)).trans ((sS_n (by omega)).trans sS_s)
    have e1 : mi (sS (kp τ a) (a + 1) (R i)) (a + 1) = R i := sS_s
    have e7 : mi (sS (kp τ a) (a + 1) (R i)) (a + 7) = mi τ (a + 7) := (sS_n (by omega)).trans ((sS_n (by omega)).trans (sS_n (by omega)))
    refine vX9_execute_126 gk ⟨_, rfl, hM2.ty, ?_⟩
    rw [e0, pk_un (show (16 : Nat) ≠ 6 by decide), h16]
    by_cases him : i = m
    · subst him
      have hem : e = i := by omega
      exact ⟨fun _ => kX9_endsK gk hM hj hn (vX9_execute_175 gk (hend hem)), fun z => absurd (Int32.le_refl _) z⟩
    · have him : i < m := by omega
      refine ⟨fun z => absurd z (nI_ge him (by omega)), fun _ => kX9_does (F := CT n T i) gk hM2 (by rw [e1]; exact hP i (by omega)) (kd_lt (n := n) (T := T) (sp n T i)) (by omega) (by rw [e7]; exact (hR i him).1) (by rw [e7]; exact (hR i him).2 zf) (fun hno t ht => ?_) fun P' hN' => ?_⟩
      · rw [e1] at hno
        by_cases hie : i = e
        · subst hie
          obtain ⟨-, hKf⟩ := hf him
          refine vX9_execute_139 gk ⟨_, rfl, hM2.th.ty, ?_⟩
          rw [th_6']
          refine ⟨fun z => absurd z ht, fun _ σ4 s4 => kX9_fails gk (by rw [s4, si_sS]; exact hM2.th.sS) (vX9_execute_157 gk ⟨_, rfl, (by rw [s4, si_sS]; exact hM2.th.sS.th.ty), ?_⟩)⟩
          rw [s4, flt_eq]
          have hMt : MS (si τ a 14 (nI i)) a := by rw [si_sS]; exact hM.sS
          exact kX9_endsF gk hMt (by decide) (vX9_execute_160 gk hKf)
        · exact absurd (hN i (by omega)) (hno _)
      · rw [e1] at hN'
        have hie : i < e := by
          rcases Nat.lt_or_ge i e with h | h
          · exact h
          · have : i = e := by omega
            subst this
            exact absurd hN' ((hf him).1 P')
        obtain rfl : P' = R (i + 1) := Nx_uniq (kd_lt (n := n) (T := T) (sp n T i)) hN' (hN i hie)
        rw [sS_sS]
        refine vX9_execute_139 gk ⟨_, rfl, hM.kp.sS.ty, ?_⟩
        have e2 : mi (sS (kp τ a) (a + 1) (R (i + 1))) a 6 = 0 := by
          have : mi (sS (kp τ a) (a + 1) (R (i + 1))) a = upd (mi τ a) 6 0 := (sS_n (by omega)).trans ((sS_n (by omega)).trans sS_s)
          rw [this, pk_us]
        rw [e2]
        refine ⟨fun _ => ?_, fun z => absurd (by decide) z⟩
        rw [nI_1]
        match d, hd with
        | 0, hd => omega
        | d + 1, hd => exact do_126 gk hM hj hn hm h16 hR he hN hP hend hf d (i + 1) (by omega)
theorem exe_start (gk : GOK G) (sok : SOK G) (hV : MIV σ a A)
    (hb : ¬ (par (atn A) (atx A) 10 0).2.1 = true → ∀ τ, mi τ a 13 = nI (par (atn A) (atx A) 10 0).1 → mi τ a 10 = 0 → FrN σ τ a → Runs G mX9_fails rX9_fails [vR (some a), vI 1] τ (bk G mX9_execute rX9_execute 0 0 119 [some (vR (some a)), none] [] K))
    (hk : (par (atn A) (atx A) 10 0).2.1 = true → ∀ τ, mi τ a 13 = mi σ a 13 → mi τ a 10 = 0 → mi τ a 16 = nI (par (atn A) (atx A) 10 0).2.2 → (∀ t, t < (par (atn A) (atx A) 10 0).2.2 → RowT τ a (atn A) (atx A) t) → FrN σ τ a → Runs G mX9_keep rX9_keep [vR (some a)] τ (bk G mX9_execute rX9_execute 0 0 124 [some (vR (some a)), none] [] K)) : Runs G mX9_execute rX9_execute [vR (some a)] σ K := by
  obtain ⟨g1, g2, ⟨g3, g4, g5⟩, ⟨g6, g7, g8⟩, ⟨g9, g10⟩, ⟨g11, g12, g13⟩, ⟨g14, g15, g16⟩⟩ := hV
  refine eX9_execute gk ⟨_, rfl, g1.ty, fun σ3 s3 σ4 s4 σ5 s5 => ?_⟩
  have F5 : FrN σ σ5 a := by rw [s5, s4, s3]; exact ((FrN.si (by simp)).trans (FrN.si (by simp))).trans (FrN.si (by simp))
  have k5 : ∀ k, k ≠ 11 → k ≠ 12 → k ≠ 16 → mi σ5 a k = mi σ a k := fun k h1 h2 h3 => by rw [s5, s4, s3]; exact (u2_k h3).trans ((u2_k h2).trans (u2_k h1))
  have hX : MX σ5 σ5 a (atn A) (atx A) (sp (atn A) (atx A) 0) true := ⟨F5.ms g1, (k5 10 (by decide) (by decide) (by decide)).trans g11, g12, fun i hi => by rw [F5.1 _ (by omega) (by omega)]; exact g13 i hi, ⟨by rw [s5, s4, s3]; exact (u2_k (by decide)).trans ((u2_k (by decide)).trans u2_s), Nat.zero_le _⟩, by rw [s5, s4]; exact (u2_k (by decide)).trans u2_s, fun _ _ _ => rfl, rfl, rfl, rfl, rfl, rfl⟩
  refine kX9_readCommand (m := 0) gk sok hX (by decide) (by rw [s5]; exact u2_s) fun σ6 hE => ?_
  exact rd_19 gk sok g12 9 0 rfl (fun t ht => absurd ht (Nat.not_lt_zero _)) (Nat.zero_le _) hb hk σ6 (hE.rd F5 (k5 13 (by decide) (by decide) (by decide)) fun t ht => absurd ht (Nat.not_lt_zero _))
/-- execute: a text that is malformed -/
theorem kX9_execute1 (gk : GOK G) (sok : SOK G) (hV : MIV σ a A) (hr : ¬ (par (atn A) (atx A) 10 0).2.1 = true) (hK : ∀ σ', MIV σ' a (Aer (Atx A 0 (atx A)) (nI (par (atn A) (atx A) 10 0).1) (afa A)) → Fb σ σ' a (a + 8) → mi σ' a 6 = 1 → K (.inl (some (vI 0))) σ') : Runs G mX9_execute rX9_execute [vR (some a)] σ K := by
  refine exe_start gk sok hV (fun _ τ h13 h10 hF => ?_) fun z => absurd z hr
  obtain ⟨q1, q2⟩ := mv_N hV hF h13 h10
  obtain ⟨p1, p2, p3⟩ := mv_th q1 1
  exact kX9_fails gk q1.1 (vX9_execute_119 gk (hK _ p1 (q2.trans p2) p3))
/-- execute: a command that fails -/
theorem kX9_execute2 (gk : GOK G) (sok : SOK G) (hV : MIV σ a A) (hr : (par (atn A) (atx A) 10 0).2.1 = true) {e : Nat} {R : Nat → Nat → Int32} (he : e < (par (atn A) (atx A) 10 0).2.2) (hR0 : R 0 = aP A) (hN : ∀ t, t < e → Nx (KT (atn A) (atx A) t) (CT (atn A) (atx A) t) (R t) (R (t + 1))) (hno : ∀ P', ¬ Nx (KT (atn A) (atx A) e) (CT (atn A) (atx A) e) (R e) P') (hP : ∀ t, t ≤ e → PG (R t))
    (hK : ∀ σ', MIV σ' a (cpA (aP A) (R e), (Aer (Atx A 0 (atx A)) (aea A) (nI e)).2) → Fb σ σ' a (a + 8) → mi σ' a 6 = 2 → K (.inl (some (vI 0))) σ') : Runs G mX9_execute rX9_execute [vR (some a)] σ K := by
  have hp := par_ok 10 0 hr
  refine exe_start gk sok hV (fun z => absurd hr z) fun _ τ h13 h10 h16 hRow hF => ?_
  obtain ⟨q1, q2⟩ := mv_N hV hF (h13.trans hV.2.2.2.2.1.1) h10
  refine kX9_keep gk q1.1 (vX9_execute_124 gk ?_)
  have e0 : kp τ a = sS (kp τ a) (a + 1) (R 0) := by
    have : mi (kp τ a) (a + 1) = R 0 := by rw [kp_1, hR0]; exact q1.2.1
    rw [← this]; exact sS_id.symm
  rw [e0]
  refine do_126 gk q1.1 q1.2.2.1.1 q1.2.2.1.2.1 (by omega) h16 hRow (Nat.le_of_lt he) hN hP (fun z => by omega) (fun _ => ⟨hno, ?_⟩) e 0 (Nat.zero_add _)
  have q3 : MIV (si τ a 14 (nI e)) a (Aer (Atx A 0 (atx A)) (aea A) (nI e)) := by
    obtain ⟨g1, g2, ⟨g3, g4, g5⟩, ⟨g6, g7, g8⟩, ⟨g9, g10⟩, ⟨g11, g12, g13⟩, ⟨g14, g15, g16⟩⟩ := q1
    rw [si_sS]
    have k : ∀ k, k ≠ 14 → mi (sS τ a (upd (mi τ a) 14 (nI e))) a k = mi τ a k := fun k h => by rw [sS_s, pk_un h]
    refine ⟨g1.sS, (sS_n (by omega)).trans g2, ⟨g3, (k 5 (by decide)).trans g4, by rw [sS_n (by omega)]; exact g5⟩, ⟨(k 3 (by decide)).trans g6, g7, by rw [sS_n (by omega)]; exact g8⟩, ⟨(k 13 (by decide)).trans g9, by rw [sS_s, pk_us]; rfl⟩, ⟨(k 10 (by decide)).trans g11, g12, by rw [sS_n (by omega)]; exact g13⟩, ⟨(k 8 (by decide)).trans g14, g15, by rw [sS_n (by omega)]; exact g16⟩⟩
  obtain ⟨p1, p2, p3⟩ := mv_mF2 q3 2 (R e)
  refine hK _ p1 ((q2.trans ?_).trans p2) p3
  rw [si_sS]
  exact Fb.sS (by omega) (by omega)
/-- execute: all commands carried out -/
theorem kX9_execute3 (gk : GOK G) (sok : SOK G) (hV : MIV σ a A) (hr : (par (atn A) (atx A) 10 0).2.1 = true) {R : Nat → Nat → Int32} (hR0 : R 0 = aP A) (hN : ∀ t, t < (par (atn A) (atx A) 10 0).2.2 → Nx (KT (atn A) (atx A) t) (CT (atn A) (atx A) t) (R t) (R (t + 1))) (hP : ∀ t, t ≤ (par (atn A) (atx A) 10 0).2.2 → PG (R t))
    (hK : ∀ σ', MIV σ' a (Atx (Am A (R (par (atn A) (atx A) 10 0).2.2)) 0 (atx A)) → Fb σ σ' a (a + 8) → mi σ' a 6 = 0 → K (.inl (some (vI (nI (par (atn A) (atx A) 10 0).2.2)))) σ') : Runs G mX9_execute rX9_execute [vR (some a)] σ K := by
  have hp := par_ok 10 0 hr
  refine exe_start gk sok hV (fun z => absurd hr z) fun _ τ h13 h10 h16 hRow hF => ?_
  obtain ⟨q1, q2⟩ := mv_N hV hF (h13.trans hV.2.2.2.2.1.1) h10
  refine kX9_keep gk q1.1 (vX9_execute_124 gk ?_)
  have e0 : kp τ a = sS (kp τ a) (a + 1) (R 0) := by
    have : mi (kp τ a) (a + 1) = R 0 := by rw [kp_1, hR0]; exact q1.2.1
    rw [← this]; exact sS_id.symm
  rw [e0]
  obtain ⟨p1, p2, p3⟩ := mv_mK q1 (R (par (atn A) (atx A) 10 0).2.2)
  exact do_126 gk q1.1 q1.2.2.1.1 q1.2.2.1.2.1 (by omega) h16 hRow (Nat.le_refl _) hN hP (fun _ => hK _ p1 (q2.trans p2) p3) (fun z => by omega) _ 0 (Nat.zero_add _)
end EXM
