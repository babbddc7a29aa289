/-! ===== the model: time ===== -/
theorem fx3_o {P : Nat → Int32} {k l j : Nat} (h3 : j ≠ 3) (h : ∀ i, i < 7 → j ≠ eX k l + i) : fx3 P k l j = P j := by
  unfold fx3 fx2
  rw [pk_un h3, pk_un (h 6 (by omega)), pk_un (h 5 (by omega)), pk_un (h 4 (by omega)), pk_un (h 3 (by omega)), pk_un (h 2 (by omega)), pk_un (h 1 (by omega)), pk_un (show j ≠ eX k l from h 0 (by omega))]
theorem fx1_o {P : Nat → Int32} {k l j : Nat} (hl : l < 26) (h : ∀ m, m < 26 → j ≠ eX k m) : fx1 P k l j = P j := by
  unfold fx1
  split
  · cases hv : vcN (upd P (eX k l) 0) k 26 with
    | none => rfl
    | some v =>
      have := (vcN_lt hv).1
      show upd (upd P (eX k l) 0) (eX k v) 0 j = P j
      rw [pk_un (h v this), pk_un (h l hl)]
  · exact pk_un (h l hl)
theorem ftP_o {P : Nat → Int32} {k l j : Nat} (hl : l < 26) (h3 : j ≠ 3) (h : ∀ m, m < 26 → ∀ i, i < 7 → j ≠ eX k m + i) : ftP P k l j = P j := by
  unfold ftP
  rw [fx3_o h3 (h l hl), fx1_o hl (fun m hm => h m hm 0 (by omega))]
theorem eX_off {k l i j : Nat} (h : j < 91 + 187 * k ∨ 273 + 187 * k ≤ j) (hl : l < 26) (hi : i < 7) : j ≠ eX k l + i := by unfold eX; omega
theorem eX_cap {k l i k' w : Nat} (hl : l < 26) (hi : i < 7) (hw : w < 5) : 86 + 187 * k' + w ≠ eX k l + i := by
  unfold eX
  rcases Nat.lt_trichotomy k k' with h | h | h <;> omega
theorem ftP_cap {P : Nat → Int32} {k l k' w : Nat} (hl : l < 26) (hw : w < 5) : ftP P k l (86 + 187 * k' + w) = P (86 + 187 * k' + w) := ftP_o hl (by omega) fun m hm i hi => eX_cap hm hi hw
def WOK (Q : Nat → Int32) (n : Nat) : Prop := n ≤ 8 ∧ Q 1 = nI n ∧ ∀ i, i < n → ∃ k l : Nat, k < 4 ∧ l < 26 ∧ Q (834 + 3 * i + 1) = nI k ∧ Q (834 + 3 * i + 2) = nI (97 + l) ∧ Q (86 + 187 * k) ≠ 0
theorem cwP_lo {P : Nat → Int32} {i n j : Nat} (h1 : j ≠ 1) (h : j < 834 + 3 * i) : cwP P i n j = P j := (pk_cpy_out (by omega)).trans (pk_un h1)
theorem cwP_1 {P : Nat → Int32} {i n : Nat} : cwP P i n 1 = nI (n - 1) := (pk_cpy_out (by omega)).trans pk_us
theorem cwP_hi {P : Nat → Int32} {i n j : Nat} (h : 834 + 3 * i ≤ j) (h2 : j < 834 + 3 * (n - 1)) : cwP P i n j = P (j + 3) := by
  unfold cwP
  rw [pk_cpy_in (by omega) (by omega), pk_un (by omega)]
  congr 1; omega
theorem WOK.cw {Q : Nat → Int32} {n : Nat} (h : WOK Q (n + 1)) : WOK (cwP Q 0 (n + 1)) n := by
  refine ⟨by have := h.1; omega, cwP_1, fun i hi => ?_⟩
  obtain ⟨k, l, hk, hl, e1, e2, e3⟩ := h.2.2 (i + 1) (by omega)
  have hn := h.1
  refine ⟨k, l, hk, hl, ?_, ?_, ?_⟩
  · rw [cwP_hi (by omega) (by omega), show 834 + 3 * i + 1 + 3 = 834 + 3 * (i + 1) + 1 by omega]; exact e1
  · rw [cwP_hi (by omega) (by omega), show 834 + 3 * i + 2 + 3 = 834 + 3 * (i + 1) + 2 by omega]; exact e2
  · rw [cwP_lo (by omega) (by omega)]; exact e3
theorem WOK.ft {Q : Nat → Int32} {n k l : Nat} (h : WOK Q n) (hk : k < 4) (hl : l < 26) : WOK (ftP Q k l) n := by
  refine ⟨h.1, ?_, fun i hi => ?_⟩
  · rw [ftP_o hl (by omega) (fun m hm i hi => eX_off (by omega) hm hi)]; exact h.2.1
  · obtain ⟨k', l', hk', hl', e1, e2, e3⟩ := h.2.2 i hi
    refine ⟨k', l', hk', hl', ?_, ?_, ?_⟩
    · rw [ftP_o hl (by omega) (fun m hm i hi => eX_off (by omega) hm hi)]; exact e1
    · rw [ftP_o hl (by omega) (fun m hm i hi => eX_off (by omega) hm hi)]; exact e2
    · have := ftP_cap (P := Q) (k := k) (k' := k') (w := 0) hl (by omega)
      rw [Nat.add_zero] at this
      rw [this]; exact e3
theorem WOK.tm {Q : Nat → Int32} {n : Nat} {x : Int32} (h : WOK Q n) : WOK (upd Q 2 x) n := by
  refine ⟨h.1, (pk_un (by omega)).trans h.2.1, fun i hi => ?_⟩
  obtain ⟨k, l, hk, hl, e1, e2, e3⟩ := h.2.2 i hi
  exact ⟨k, l, hk, hl, (pk_un (by omega)).trans e1, (pk_un (by omega)).trans e2, fun z => e3 ((pk_un (by omega)).symm.trans z)⟩
noncomputable def pI : Nat → (Nat → Int32) → Nat → (Nat → Int32) × Nat
  | 0, Q, c => (Q, c)
  | n + 1, Q, c => if Q 834 = Q 2 then @ite _ (jrP (cwP Q 0 (n + 1)) (Q 836)) (Classical.propDecidable _) (pI n (ftP (cwP Q 0 (n + 1)) (Q 835).toNatClampNeg ((Q 836).toNatClampNeg - 97)) (c + 1)) (pI n (cwP Q 0 (n + 1)) c) else (Q, c)
noncomputable def pP (P : Nat → Int32) : Nat → (Nat → Int32) × Nat
  | 0 => (P, 0)
  | j + 1 => pI ((pP P j).1 1).toNatClampNeg (upd (pP P j).1 2 ((pP P j).1 2 + 1)) (pP P j).2
theorem pI_ok : ∀ (n : Nat) (Q : Nat → Int32) (c : Nat), WOK Q n → ∃ n', WOK (pI n Q c).1 n'
  | 0, Q, c, h => ⟨0, h⟩
  | n + 1, Q, c, h => by
    unfold pI
    split
    · split
      · obtain ⟨k, l, hk, hl, e1, e2, e3⟩ := h.2.2 0 (by omega)
        rw [show (Q 835).toNatClampNeg = k by rw [show Q 835 = nI k from e1, nI_clamp (by omega)], show (Q 836).toNatClampNeg - 97 = l by rw [show Q 836 = nI (97 + l) from e2, nI_clamp (by omega)]; omega]
        exact pI_ok n _ _ (h.cw.ft hk hl)
      · exact pI_ok n _ _ h.cw
    · exact ⟨n + 1, h⟩
theorem pP_ok {P : Nat → Int32} {n : Nat} (h : WOK P n) : ∀ j, ∃ n', WOK (pP P j).1 n'
  | 0 => ⟨n, h⟩
  | j + 1 => by
    obtain ⟨n', h'⟩ := pP_ok h j
    unfold pP
    rw [h'.2.1, nI_clamp (by have := h'.1; omega)]
    exact pI_ok n' _ _ h'.tm
section MJ
variable {G : GG} {σ : Mm} {K : RES → Mm → Prop} {a : Nat}
theorem kX9_doPass_35 (gk : GOK G) (hM : MS σ a) {x y : Int32} : ∀ (n : Nat) (Q : Nat → Int32) (c : Nat), WOK Q n → At G mX9_doPass rX9_doPass 0 0 20 [some (vR (some a)), some (vI x), some (vI (nI (pI n Q c).2)), some (vI (y + 1)), none, none, none] [] (sS σ (a + 1) (pI n Q c).1) K → At G mX9_doPass rX9_doPass 0 0 35 [some (vR (some a)), some (vI x), some (vI (nI c)), some (vI y), none, none, none] [] (sS σ (a + 1) Q) K
  | 0, Q, c, h, hk => by
    refine vX9_doPass_35 gk ?_
    have e := h.2.1
    simp (disch := omega) only [forall_eq, exists_eq_left', Option.some.injEq, Prod.mk.injEq, true_and, and_true, hM.ty, hM.r0, hM.t0, sS_r, sS_t, si_sS, sS_sS, sS_s, nA0, nA1, nA2, nA3, nA4, nA5, nA6, nI_clamp, lc0, lc1, lc2, lc3, lc4, lc5, lc6, lc7, lc8, vinT, vi0, vi1, vi2, vi3, vi4, vi5, vi6, vi7, pk_us, pk_un, true_implies, not_true_eq_false, not_false_eq_true, false_implies, i00, i01, i10, i11, Nat.add_zero, e]
    exact ⟨fun _ => hk, fun q => absurd (by decide) q⟩
  | n + 1, Q, c, h, hk => by
    refine vX9_doPass_35 gk ?_
    have e := h.2.1
    have hn := h.1
    obtain ⟨k, l, hk4, hl, e1, e2, e3⟩ := h.2.2 0 (by omega)
    have e1 : Q 835 = nI k := e1
    have e2 : Q 836 = nI (97 + l) := e2
    have v4 : vp_in 834 858 = True := vinT (n := 834) (by omega)
    have v5 : vp_in 835 858 = True := vinT (n := 835) (by omega)
    have v6 : vp_in 836 858 = True := vinT (n := 836) (by omega)
    have c4 : (834 : Int32).toNatClampNeg = 834 := by decide
    have c5 : (835 : Int32).toNatClampNeg = 835 := by decide
    have c6 : (836 : Int32).toNatClampNeg = 836 := by decide
    simp (disch := omega) only [forall_eq, exists_eq_left', Option.some.injEq, Prod.mk.injEq, true_and, and_true, hM.ty, hM.r0, hM.t0, sS_r, sS_t, si_sS, sS_sS, sS_s, nA0, nA1, nA2, nA3, nA4, nA5, nA6, nI_clamp, lc0, lc1, lc2, lc3, lc4, lc5, lc6, lc7, lc8, vinT, vi0, vi1, vi2, vi3, vi4, vi5, vi6, vi7, pk_us, pk_un, true_implies, not_true_eq_false, not_false_eq_true, false_implies, i00, i01, i10, i11, Nat.add_zero, e, e1, e2, v4, v5, v6, c4, c5, c6]
    unfold pI at hk
    refine ⟨fun q => absurd q (nI_nle (by omega) (by omega)), fun _ => ⟨fun q => ?_, fun q => ?_⟩⟩
    · rw [if_neg q] at hk
      exact hk
    · rw [if_pos q, e1, e2, nI_clamp (show k < 2 ^ 31 by omega), nI_clamp (show 97 + l < 2 ^ 31 by omega), show 97 + l - 97 = l by omega] at hk
      refine kX9_doCancel gk hM.sS (n := n + 1) hn (by rw [sS_s]; exact e) (fun z => absurd ⟨0, by omega, rfl⟩ z) fun i hi ei => ?_
      obtain rfl : i = 0 := ((nI_eq (by omega) (by omega)).mp (show nI 0 = nI i from ei)).symm
      rw [sS_s, sS_sS]
      refine vX9_doPass_86 gk ⟨_, rfl, hM.ty, kX9_isJar gk hM.sS (vX9_doPass_94 gk ⟨fun q2 => ?_, fun q2 => ⟨_, rfl, hM.ty, ?_⟩⟩)⟩
      · rw [sS_s] at q2
        simp only [bP_0.mp q2, if_false] at hk
        have := kX9_doPass_35 gk hM (x := x) (y := y) n _ _ h.cw hk
        exact this.sub rfl (by simp)
      · rw [sS_s] at q2
        simp only [bP_n q2, if_true] at hk
        have e4 : cwP Q 0 (n + 1) (86 + 187 * k) = Q (86 + 187 * k) := cwP_lo (by omega) (by omega)
        refine kX9_fetches gk hM.sS hk4 hl (by rw [sS_s, e4]; exact e3) (vX9_doPass_105 gk ?_)
        rw [sS_s, sS_sS, nA1]
        exact kX9_doPass_35 gk hM (x := x) (y := y) n _ _ (h.cw.ft hk4 hl) hk
theorem kX9_doPass_20 (gk : GOK G) (hM : MS σ a) {m n : Nat} (hm : m ≤ 60) {P : Nat → Int32} (hW : WOK P n) (hk : K (.inl (some (vI (nI (pP P m).2)))) (sS σ (a + 1) (pP P m).1)) : ∀ (d j : Nat), j + d = m → At G mX9_doPass rX9_doPass 0 0 20 [some (vR (some a)), some (vI (nI m)), some (vI (nI (pP P j).2)), some (vI (nI j)), none, none, none] [] (sS σ (a + 1) (pP P j).1) K
  | 0, j, h => by
    obtain rfl : j = m := by omega
    exact vX9_doPass_20 gk ⟨fun _ => hk, fun q => absurd (nI_le (Nat.le_refl _) (by omega)) q⟩
  | d + 1, j, h => by
    have ih := kX9_doPass_20 gk hM hm hW hk d (j + 1) (by omega)
    refine vX9_doPass_20 gk ⟨fun q => absurd q (nI_ge (by omega) (by omega)), fun _ => ?_⟩
    simp (disch := omega) only [forall_eq, exists_eq_left', Option.some.injEq, Prod.mk.injEq, true_and, and_true, hM.ty, hM.r0, hM.t0, sS_r, sS_t, si_sS, sS_sS, sS_s, nA0, nA1, nA2, nA3, nA4, nA5, nA6, nI_clamp, lc0, lc1, lc2, lc3, lc4, lc5, lc6, lc7, lc8, vinT, vi0, vi1, vi2, vi3, vi4, vi5, vi6, vi7, pk_us, pk_un, true_implies, not_true_eq_false, not_false_eq_true, false_implies, i00, i01, i10, i11, Nat.add_zero]
    obtain ⟨n', h'⟩ := pP_ok hW j
    refine kX9_doPass_35 gk hM n' _ _ h'.tm ?_
    have e : pP P (j + 1) = pI n' (upd (pP P j).1 2 ((pP P j).1 2 + 1)) (pP P j).2 := by
      show pI _ _ _ = _
      rw [h'.2.1, nI_clamp (by have := h'.1; omega)]
    rw [← e, nA1]
    exact ih
theorem kX9_doPass (gk : GOK G) (hM : MS σ a) {x : Int32} {n : Nat} (hW : WOK (mi σ (a + 1)) n) (h1 : ¬ (¬ x < 1 ∧ ¬ 60 < x) → K (.inl (some (vI 0))) (th σ a 1)) (hk : ∀ m : Nat, m ≤ 60 → x = nI m → 0 < m → K (.inl (some (vI (nI (pP (mi σ (a + 1)) m).2)))) (sS σ (a + 1) (pP (mi σ (a + 1)) m).1)) : Runs G mX9_doPass rX9_doPass [vR (some a), vI x] σ K := by
  refine eX9_doPass gk (kX9_in gk (vX9_doPass_7 gk ⟨fun q => ?_, fun q => ⟨_, rfl, hM.ty, kX9_fails gk hM (vX9_doPass_15 gk (h1 (bP_0.mp q)))⟩⟩))
  have q1 := bP_n q
  have hx : ¬ x < 0 := fun z => q1.1 (Int32.lt_trans z (by decide))
  obtain ⟨m, hm, rfl⟩ := nI_of hx
  have hm60 : m ≤ 60 := by
    have := q1.2
    rw [show (60 : Int32) = nI 60 from rfl, nI_ltI (by omega) hm] at this
    omega
  have hm0 : 0 < m := by
    have := q1.1
    rw [show (1 : Int32) = nI 1 from rfl, nI_ltI hm (by omega)] at this
    omega
  have := kX9_doPass_20 gk hM hm60 hW (hk m hm60 rfl hm0) m 0 (by omega)
  rw [show (pP (mi σ (a + 1)) 0).1 = mi σ (a + 1) from rfl, sS_id] at this
  exact this
end MJ
