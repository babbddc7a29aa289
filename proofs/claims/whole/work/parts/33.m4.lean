/-! ===== the model: keeping, ending, its modifications ===== -/
theorem vinT {n : Nat} (h : n < 858) : vp_in (nI n) 858 = True := eq_true (vin h)
theorem vi0 : vp_in 0 858 = True := eq_true (vin (n := 0) (by omega))
theorem vi1 : vp_in 1 858 = True := eq_true (vin (n := 1) (by omega))
theorem vi2 : vp_in 2 858 = True := eq_true (vin (n := 2) (by omega))
theorem vi3 : vp_in 3 858 = True := eq_true (vin (n := 3) (by omega))
theorem vi4 : vp_in 4 858 = True := eq_true (vin (n := 4) (by omega))
theorem vi5 : vp_in 5 858 = True := eq_true (vin (n := 5) (by omega))
theorem vi6 : vp_in 6 858 = True := eq_true (vin (n := 6) (by omega))
theorem vi7 : vp_in 7 858 = True := eq_true (vin (n := 7) (by omega))
theorem i00 : ((0 : Int32) = 0) = True := eq_true rfl
theorem i11 : ((1 : Int32) = 1) = True := eq_true rfl
theorem i01 : ((0 : Int32) = 1) = False := eq_false (by decide)
theorem i10 : ((1 : Int32) = 0) = False := eq_false (by decide)
/-- the model's 'thrown' is t -/
def th (σ : Mm) (a : Nat) (t : Int32) : Mm := sS σ a (upd (mi σ a) 6 t)
theorem MS.th {σ : Mm} {a : Nat} {t : Int32} (h : MS σ a) : MS (th σ a t) a := h.sS
theorem th_s {σ : Mm} {a j : Nat} {t : Int32} : mi (th σ a t) (a + (j + 1)) = mi σ (a + (j + 1)) := sS_n (by omega)
theorem th_1 {σ : Mm} {a : Nat} {t : Int32} : mi (th σ a t) (a + 1) = mi σ (a + 1) := sS_n (by omega)
def shB (P : Nat → Int32) : Prop := ∃ n : Nat, n ≤ 4 ∧ P 0 = nI n
theorem shP_k {P : Nat → Int32} {x : Int32} (hB : shB P) (h : shP P x) : ∃ k : Nat, k < 4 ∧ x = nI k ∧ nI k < P 0 := by
  obtain ⟨n, hn, e⟩ := hB
  obtain ⟨h1, h2⟩ := h
  rw [e] at h2
  obtain ⟨k, hk, rfl⟩ := nI_of h1
  have h3 := Int32.not_lt.mp h2
  rcases Nat.eq_zero_or_pos n with h0 | h0
  · subst h0
    exfalso
    have h4 : nI k ≤ -1 := h3
    rw [Int32.le_iff_toInt_le, nI_toInt hk] at h4
    have : ((-1 : Int32)).toInt = -1 := by decide
    omega
  · have e2 : nI n - 1 = nI (n - 1) := pk_sub (b := 1) h0
    rw [e2, nI_leI hk (by omega)] at h3
    refine ⟨k, by omega, rfl, ?_⟩
    rw [e, nI_ltI hk (by omega)]
    omega
theorem shP_n {P : Nat → Int32} {k n : Nat} (hn : n ≤ 4) (e : P 0 = nI n) (hk : k < 2 ^ 31) : shP P (nI k) ↔ k < n := by
  constructor
  · intro h
    obtain ⟨j, hj, e1, h2⟩ := shP_k ⟨n, hn, e⟩ h
    rw [e, nI_ltI (by omega) (by omega)] at h2
    have := (nI_eq hk (by omega)).mp e1
    omega
  · intro h
    refine ⟨nI_pos hk, ?_⟩
    rw [e, show nI n - 1 = nI (n - 1) from pk_sub (b := 1) (by omega), nI_ltI (by omega) hk]
    omega
section MG
variable {G : GG} {σ : Mm} {K : RES → Mm → Prop} {a : Nat}
theorem kX9_isThere (gk : GOK G) (hM : MS σ a) {p : Prop} (hk : K (.inl (some (vI (bP p)))) (th σ a (bP (¬ p)))) : Runs G mX9_isThere rX9_isThere [vR (some a), vI (bP p)] σ K := by
  refine eX9_isThere gk ⟨fun q => ⟨_, rfl, hM.ty, fun σ1 e => ?_⟩, fun q => ⟨_, rfl, hM.ty, fun σ1 e => ?_⟩⟩
  · rw [si_sS] at e
    rw [bP_t (p := ¬ p) (bP_0.mp q)] at hk
    subst e
    exact ⟨bP_z _, hk⟩
  · rw [si_sS] at e
    rw [bP_f (p := ¬ p) (fun z => z (bP_n q))] at hk
    subst e
    exact ⟨bP_z _, hk⟩
theorem kX9_fails (gk : GOK G) (hM : MS σ a) {x : Int32} (hk : K (.inl (some (vI 0))) (th σ a x)) : Runs G mX9_fails rX9_fails [vR (some a), vI x] σ K := by
  refine eX9_fails gk ?_
  simp (disch := omega) only [forall_eq, exists_eq_left', Option.some.injEq, Prod.mk.injEq, true_and, and_true, hM.ty, hM.r0, hM.t0, sS_r, sS_t, si_sS, sS_sS, sS_s, nA0, nA1, nA2, nA3, nA4, nA5, nA6, nI_clamp, lc0, lc1, lc2, lc3, lc4, lc5, lc6, lc7, lc8, vinT, vi0, vi1, vi2, vi3, vi4, vi5, vi6, vi7, pk_us, pk_un, true_implies, not_true_eq_false, not_false_eq_true, false_implies, i00, i01, i10, i11, Nat.add_zero]
  exact hk
def cpA (P B : Nat → Int32) : Nat → Int32 := va_cpy P B 0 0 858
theorem cpA_in {P B : Nat → Int32} {k : Nat} (h : k < 858) : cpA P B k = P k := by
  unfold cpA va_cpy
  rw [if_pos ⟨by omega, by omega⟩]
  simp
theorem cpA_back {P B : Nat → Int32} : cpA (cpA P B) P = P := by
  funext k
  by_cases h : k < 858
  · rw [cpA_in h, cpA_in h]
  · unfold cpA va_cpy
    rw [if_neg (by omega)]
theorem cpA_dn {P B Q : Nat → Int32} {k : Nat} (h : k < 858) : cpA (cpA P B) Q k = P k := by rw [cpA_in h, cpA_in h]
theorem cpI_sS {σ : Mm} {a0 sp b dp n : Nat} : cpI σ a0 sp b dp n = sS σ b (va_cpy (mi σ a0) (mi σ b) sp dp n) := rfl
/-- the memory behind keep() -/
def kp (σ : Mm) (a : Nat) : Mm := sS (th σ a 0) (a + 2) (cpA (mi σ (a + 1)) (mi σ (a + 2)))
theorem MS.kp {σ : Mm} {a : Nat} (h : MS σ a) : MS (kp σ a) a := h.th.sS
theorem kp_1 {σ : Mm} {a : Nat} : mi (kp σ a) (a + 1) = mi σ (a + 1) := (sS_n (by omega)).trans th_1
theorem cl858 : (858 : Int32).toNatClampNeg = 858 := by decide
theorem kX9_keep (gk : GOK G) (hM : MS σ a) (hk : K (.inl none) (kp σ a)) : Runs G mX9_keep rX9_keep [vR (some a)] σ K := by
  refine eX9_keep gk ?_
  simp (disch := omega) only [forall_eq, exists_eq_left', Option.some.injEq, Prod.mk.injEq, true_and, and_true, hM.ty, hM.r0, hM.t0, sS_r, sS_t, si_sS, sS_sS, sS_s, nA0, nA1, nA2, nA3, nA4, nA5, nA6, nI_clamp, lc0, lc1, lc2, lc3, lc4, lc5, lc6, lc7, lc8, vinT, vi0, vi1, vi2, vi3, vi4, vi5, vi6, vi7, pk_us, pk_un, true_implies, not_true_eq_false, not_false_eq_true, false_implies, i00, i01, i10, i11, Nat.add_zero, hM.r1, hM.t1, cpI_sS, cl858]
  rw [sS_n (show a + 1 ≠ a by omega), sS_n (show a + 2 ≠ a by omega)]
  exact ⟨⟨by decide, by omega, by omega⟩, hk⟩
/-- a modification that threw -/
def mF (σ : Mm) (a : Nat) (t : Int32) : Mm := sS (th σ a t) (a + 2) (cpA (mi σ (a + 1)) (mi σ (a + 2)))
def psh (j : Nat) (B past : Nat → Int32) : Nat → Int32 := if j = 8 then va_cpy B (va_cpy past past 858 0 6006) 0 6006 858 else va_cpy B past 0 (858 * j) 858
def pshN (j : Nat) : Nat := if j = 8 then 8 else j + 1
/-- a modification that was made: s is now P -/
def mK (σ : Mm) (a j : Nat) (P : Nat → Int32) : Mm := sS (sS (sS (kp σ a) (a + 1) P) (a + 4) (psh j (mi (kp σ a) (a + 2)) (mi σ (a + 4)))) a (upd (mi (kp σ a) a) 5 (nI (pshN j)))
/-- and behind Q, which is taken back -/
def mF2 (σ : Mm) (a : Nat) (t : Int32) (Q : Nat → Int32) : Mm := sS (mF σ a t) (a + 1) (cpA (mi σ (a + 1)) Q)
theorem cpA_id {P : Nat → Int32} : cpA P P = P := by
  funext k
  unfold cpA va_cpy
  split
  · congr 1; omega
  · rfl
theorem mF2_id {σ : Mm} {a : Nat} {t : Int32} : mF2 σ a t (mi σ (a + 1)) = mF σ a t := by
  unfold mF2
  rw [cpA_id]
  have e : mi (mF σ a t) (a + 1) = mi σ (a + 1) := (sS_n (by omega)).trans th_1
  rw [← e]
  exact sS_id
theorem kX9_endsF (gk : GOK G) (hM : MS σ a) {t x : Int32} (ht : ¬ t ≤ 0) {Q : Nat → Int32} (hk : K (.inl (some (vI 0))) (mF2 σ a t Q)) : Runs G mX9_ends rX9_ends [vR (some a), vI x] (th (sS (kp σ a) (a + 1) Q) a t) K := by
  have hM2 : MS (th (sS (kp σ a) (a + 1) Q) a t) a := hM.kp.sS.th
  refine eX9_ends gk ⟨_, rfl, hM.ty, fun h => absurd h ?_, fun _ => ?_⟩
  · rw [show mi (th (sS (kp σ a) (a + 1) Q) a t) a 6 = t from (congrFun sS_s 6).trans pk_us]
    exact ht
  · refine ⟨_, hM2.r1, _, hM2.t1, _, hM2.r0, _, hM2.t0, ⟨by decide, by decide, by decide⟩, fun σ1 e => ?_⟩
    have e2 : σ1 = mF2 σ a t Q := by
      rw [e, cpI_sS]
      unfold mF2 th kp mF th sS
      show (_, _) = (_, _)
      refine Prod.ext ?_ rfl
      funext b k
      simp only [mi]
      by_cases h1 : b = a + 1
      · subst h1
        by_cases hk : k < 858
        · simp [va_cpy, cpA, lc0, cl858, hk]
        · simp [va_cpy, cpA, lc0, cl858, hk]
      · by_cases h2 : b = a + 2
        · subst h2; simp [cpA]
        · by_cases h3 : b = a
          · subst h3
            simp [upd]
            split
            · rfl
            · rfl
          · simp [h1, h2, h3]
    rw [e2]
    exact hk
theorem cl6006 : (6006 : Int32).toNatClampNeg = 6006 := by decide
theorem kX9_endsK (gk : GOK G) (hM : MS σ a) {x : Int32} {Q : Nat → Int32} {j : Nat} (hj : j ≤ 8) (hn : mi σ a 5 = nI j) (hk : K (.inl (some (vI x))) (mK σ a j Q)) : Runs G mX9_ends rX9_ends [vR (some a), vI x] (sS (kp σ a) (a + 1) Q) K := by
  have hM2 : MS (sS (kp σ a) (a + 1) Q) a := hM.kp.sS
  have ea : mi (sS (kp σ a) (a + 1) Q) a = upd (mi σ a) 6 0 := by
    rw [sS_n (by omega)]
    exact (sS_n (by omega)).trans sS_s
  have eb : mi (sS (kp σ a) (a + 1) Q) (a + 2) = mi (kp σ a) (a + 2) := sS_n (by omega)
  have ep : mi (sS (kp σ a) (a + 1) Q) (a + 4) = mi σ (a + 4) := (sS_n (by omega)).trans ((sS_n (by omega)).trans (sS_n (by omega)))
  have ek : mi (kp σ a) a = upd (mi σ a) 6 0 := (sS_n (by omega)).trans sS_s
  unfold mK psh pshN at hk
  rw [ek] at hk
  refine eX9_ends gk ⟨_, rfl, hM.ty, fun _ => ⟨fun h => ?_, fun h => ?_⟩, fun h => absurd ?_ h⟩
  · rw [ea, pk_un (by omega), hn] at h
    have h8 : j ≠ 8 := fun z => h (by rw [z]; rfl)
    rw [if_neg h8, if_neg h8] at hk
    refine ⟨_, hM2.r1, _, hM2.t1, _, hM2.r4, _, hM2.t4, ?_⟩
    rw [ea, pk_un (show (5 : Nat) ≠ 6 by omega), hn, show (858 : Int32) * nI j = nI (858 * j) from pk_mul 858 j, nI_clamp (by omega), lc0, cl858]
    refine ⟨⟨⟨by decide, nI_pos (by omega), by decide⟩, by omega, by omega⟩, fun σ1 e => ?_⟩
    rw [cpI_sS, eb, ep] at e
    subst e
    intro σ2 e
    rw [si_sS] at e
    rw [sS_n (show a ≠ a + 4 by omega), ea, pk_un (show (5 : Nat) ≠ 6 by omega), hn, nI_1] at e
    subst e
    exact hk
  · rw [ea, pk_un (by omega), hn] at h
    have h8 : j = 8 := (nI_eq (by omega) (by omega)).mp h
    subst h8
    rw [if_pos rfl, if_pos rfl] at hk
    refine ⟨_, hM2.r4, _, hM2.t4, ⟨by decide, by decide, by decide⟩, fun σ1 e => ?_⟩
    rw [cpI_sS, ep, lc0, cl858, cl6006] at e
    subst e
    intro σ2 e
    rw [si_sS, sS_n (show a ≠ a + 4 by omega), ea, pk_un (show (5 : Nat) ≠ 6 by omega), hn, show nI 8 - 1 = nI 7 from nI_pred 7] at e
    subst e
    refine ⟨_, hM2.r1, _, hM2.t1, _, hM2.r4, _, hM2.t4, ?_⟩
    rw [sS_s, pk_us, show (858 : Int32) * nI 7 = nI 6006 from pk_mul 858 7, nI_clamp (by omega), lc0, cl858]
    refine ⟨⟨⟨by decide, nI_pos (by omega), by decide⟩, by omega, by omega⟩, fun σ1 e => ?_⟩
    rw [cpI_sS, sS_n (show a + 2 ≠ a by omega), sS_n (show a + 2 ≠ a + 4 by omega), eb, sS_n (show a + 4 ≠ a by omega), sS_s] at e
    subst e
    intro σ2 e
    rw [si_sS, sS_n (show a ≠ a + 4 by omega), sS_s, pk_us, show nI 7 + 1 = nI 8 from nI_1 7] at e
    rw [sS_cm (show a ≠ a + 4 by omega), sS_sS, sS_sS] at e
    have e9 : upd (upd (upd (mi σ a) 6 0) 5 (nI 7)) 5 (nI 8) = upd (upd (mi σ a) 6 0) 5 (nI 8) := by
      funext k; unfold upd; split <;> rfl
    rw [e9] at e
    subst e
    exact hk
  · rw [ea, pk_us]; decide
end MG
