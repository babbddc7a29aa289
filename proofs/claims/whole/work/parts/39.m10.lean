/-! ===== the model: statistics, undo, snapshots ===== -/
section MN
variable {G : GG} {σ : Mm} {K : RES → Mm → Prop} {a : Nat}
def hsP (P : Nat → Int32) : Int32 := P 4 + P 5 + P 6 + P 7
theorem kX9_misses (gk : GOK G) (hM : MS σ a) {x : Int32} (h1 : ¬ x = 99 → ¬ x = 101 → ¬ x = 111 → ∀ z : Int32, K (.inl (some (vI z))) (th σ a 1)) (hc : x = 99 → K (.inl (some (vI (mi σ (a + 1) 5)))) (th σ a 0)) (he : x = 101 → K (.inl (some (vI (mi σ (a + 1) 6)))) (th σ a 0)) (ho : x = 111 → K (.inl (some (vI (mi σ (a + 1) 7)))) (th σ a 0)) : Runs G mX9_misses rX9_misses [vR (some a), vI x] σ K := by
  have b1 : (1 : Int32) = bP True := (bP_t trivial).symm
  have b0 : (0 : Int32) = bP False := (bP_f id).symm
  have g : ∀ (c : Nat), c < 8 → 4 < c → K (.inl (some (vI (mi σ (a + 1) c)))) (th σ a 0) → Runs G mX9_isThere rX9_isThere [vR (some a), vI 1] σ (bk G mX9_misses rX9_misses 0 0 47 [some (vR (some a)), some (vI x), some (vI (nI c))] [] K) := fun c hc hc2 h9 => by
    rw [show (vI 1 : VV) = vI (bP True) by rw [← b1]]
    refine kX9_isThere gk hM ?_
    rw [bP_f (p := ¬ True) (fun z => z trivial)]
    refine vX9_misses_47 gk ⟨fun q => absurd (b1.trans q) (by decide), fun _ => ?_⟩
    simp (disch := omega) only [forall_eq, exists_eq_left', Option.some.injEq, Prod.mk.injEq, true_and, and_true, hM.ty, hM.r0, hM.t0, sS_r, sS_t, si_sS, sS_sS, sS_s, nA0, nA1, nA2, nA3, nA4, nA5, nA6, nI_clamp, lc0, lc1, lc2, lc3, lc4, lc5, lc6, lc7, lc8, vinT, vi0, vi1, vi2, vi3, vi4, vi5, vi6, vi7, pk_us, pk_un, true_implies, not_true_eq_false, not_false_eq_true, false_implies, i00, i01, i10, i11, Nat.add_zero, th_r, th_t, th_1]
    exact h9
  refine eX9_misses gk ⟨fun q1 => ⟨fun q2 => ⟨fun q3 => ⟨fun _ => ⟨_, rfl, hM.ty, ?_⟩, fun q => absurd (by decide) q⟩, fun q3 => ⟨fun q => absurd q (by decide), fun _ => ⟨_, rfl, hM.ty, g 7 (by omega) (by omega) (ho q3)⟩⟩⟩, fun q2 => ⟨fun q => absurd q (by decide), fun _ => ⟨_, rfl, hM.ty, g 6 (by omega) (by omega) (he q2)⟩⟩⟩, fun q1 => ⟨fun q => absurd q (by decide), fun _ => ⟨_, rfl, hM.ty, g 5 (by omega) (by omega) (hc q1)⟩⟩⟩
  rw [show (vI 0 : VV) = vI (bP False) by rw [← b0]]
  refine kX9_isThere gk hM ?_
  rw [bP_t (p := ¬ False) id]
  exact vX9_misses_47 gk ⟨fun _ => h1 q1 q2 q3 _, fun q => absurd b0.symm q⟩
theorem kX9_it1 (gk : GOK G) (hM : MS σ a) (hk : K (.inl (some (vI 1))) (th σ a 0)) : Runs G mX9_isThere rX9_isThere [vR (some a), vI 1] σ K := by
  have b1 : (1 : Int32) = bP True := (bP_t trivial).symm
  rw [show (vI 1 : VV) = vI (bP True) by rw [← b1]]
  refine kX9_isThere gk hM ?_
  rw [bP_f (p := ¬ True) (fun z => z trivial), ← b1]
  exact hk
theorem kX9_it0 (gk : GOK G) (hM : MS σ a) (hk : K (.inl (some (vI 0))) (th σ a 1)) : Runs G mX9_isThere rX9_isThere [vR (some a), vI 0] σ K := by
  have b0 : (0 : Int32) = bP False := (bP_f id).symm
  rw [show (vI 0 : VV) = vI (bP False) by rw [← b0]]
  refine kX9_isThere gk hM ?_
  rw [bP_t (p := ¬ False) id, ← b0]
  exact hk
theorem kX9_hitShare (gk : GOK G) (hM : MS σ a) (hF : ¬ hsP (mi σ (a + 1)) ≤ 0 → vf_n32 (FP.fdiv (FP.i2f (mi σ (a + 1) 4)) (FP.i2f (hsP (mi σ (a + 1)))))) (h1 : hsP (mi σ (a + 1)) ≤ 0 → ∀ z : UInt32, K (.inl (some (vF z))) (th σ a 1)) (hk : ¬ hsP (mi σ (a + 1)) ≤ 0 → K (.inl (some (vF (FP.fdiv (FP.i2f (mi σ (a + 1) 4)) (FP.i2f (hsP (mi σ (a + 1)))))))) (th σ a 0)) : Runs G mX9_hitShare rX9_hitShare [vR (some a)] σ K := by
  refine eX9_hitShare gk ?_
  simp (disch := omega) only [forall_eq, exists_eq_left', Option.some.injEq, Prod.mk.injEq, true_and, and_true, hM.ty, hM.r0, hM.t0, sS_r, sS_t, si_sS, sS_sS, sS_s, nA0, nA1, nA2, nA3, nA4, nA5, nA6, nI_clamp, lc0, lc1, lc2, lc3, lc4, lc5, lc6, lc7, lc8, vinT, vi0, vi1, vi2, vi3, vi4, vi5, vi6, vi7, pk_us, pk_un, true_implies, not_true_eq_false, not_false_eq_true, false_implies, i00, i01, i10, i11, Nat.add_zero, th_r, th_t, th_1]
  refine ⟨fun q => kX9_it0 gk hM (vX9_hitShare_43 gk ⟨fun _ => h1 q _, fun z => absurd rfl z⟩), fun q => kX9_it1 gk hM (vX9_hitShare_43 gk ⟨fun z => absurd z (by decide), fun _ => ?_⟩)⟩
  simp (disch := omega) only [forall_eq, exists_eq_left', Option.some.injEq, Prod.mk.injEq, true_and, and_true, hM.ty, hM.r0, hM.t0, sS_r, sS_t, si_sS, sS_sS, sS_s, nA0, nA1, nA2, nA3, nA4, nA5, nA6, nI_clamp, lc0, lc1, lc2, lc3, lc4, lc5, lc6, lc7, lc8, vinT, vi0, vi1, vi2, vi3, vi4, vi5, vi6, vi7, pk_us, pk_un, true_implies, not_true_eq_false, not_false_eq_true, false_implies, i00, i01, i10, i11, Nat.add_zero, th_r, th_t, th_1]
  exact ⟨hF q, hk q⟩
noncomputable def agL (P : Nat → Int32) (k : Nat) (c : Int32) : Nat → Int32
  | 0 => c
  | l + 1 => if P (eX k l) = 1 then agL P k c l + (P 2 - P (eX k l + 2)) else agL P k c l
noncomputable def agS (P : Nat → Int32) : Nat → Int32
  | 0 => 0
  | k + 1 => agL P k (agS P k) 26
noncomputable def ecS (P : Nat → Int32) : Nat → Nat
  | 0 => 0
  | k + 1 => ecS P k + ecN P k
theorem i_add0 (x : Int32) : x + 0 = x := Int32.add_zero x
theorem kX9_meanAge_20 (gk : GOK G) (hM : MS σ a) {k c : Nat} (hk4 : k < 4) {s : Int32} (hk : At G mX9_meanAge rX9_meanAge 0 0 6 [some (vR (some a)), some (vI (nI (c + ecN (mi σ (a + 1)) k))), some (vI (agL (mi σ (a + 1)) k s 26)), some (vI (nI (k + 1))), none] [] σ K) : ∀ (d l : Nat), l + d = 26 → At G mX9_meanAge rX9_meanAge 0 0 20 [some (vR (some a)), some (vI (nI (c + cnt (fun l => mi σ (a + 1) (eX k l) = 1) l))), some (vI (agL (mi σ (a + 1)) k s l)), some (vI (nI k)), some (vI (nI (97 + l)))] [] σ K
  | 0, l, h => by
    obtain rfl : l = 26 := by omega
    exact vX9_meanAge_20 gk ⟨fun _ => by rw [nA1]; exact hk, fun q => absurd (by decide) q⟩
  | d + 1, l, h => by
    have ih := kX9_meanAge_20 gk hM hk4 hk d (l + 1) (by omega)
    have hj : ecP (mi σ (a + 1)) k (nI (97 + l)) ↔ mi σ (a + 1) (eX k l) = 1 := ecP_l (by omega)
    refine vX9_meanAge_20 gk ⟨fun q => absurd q (let_le (by omega)), fun _ => ⟨_, rfl, hM.ty, kX9_isEcho gk hM hk4 (vX9_meanAge_35 gk ⟨fun q => ⟨_, rfl, hM.ty, kX9_isEcho gk hM hk4 (vX9_meanAge_53 gk ⟨fun _ => ?_, fun q2 => absurd q q2⟩)⟩, fun q => ⟨_, rfl, hM.ty, kX9_isEcho gk hM hk4 (vX9_meanAge_53 gk ⟨fun q2 => absurd q2 q, fun _ => ⟨_, rfl, hM.ty, kX9_age gk hM hk4 (by omega) (vX9_meanAge_63 gk ?_)⟩⟩)⟩⟩)⟩⟩
    · have hp : ¬ mi σ (a + 1) (eX k l) = 1 := fun w => bP_0.mp q (hj.mpr w)
      rw [cnt_f hp, agL, if_neg hp] at ih
      rw [nx, nA0, i_add0]
      exact ih
    · have hp := hj.mp (bP_n q)
      rw [cnt_t hp, agL, if_pos hp] at ih
      rw [nx, nA1]
      exact ih
theorem kX9_meanAge_6 (gk : GOK G) (hM : MS σ a) {n : Nat} (hn : n ≤ 4) (h0 : mi σ (a + 1) 0 = nI n) (hF : 0 < ecS (mi σ (a + 1)) n → vf_n64 (FP.ddiv (FP.i2d (agS (mi σ (a + 1)) n)) (FP.i2d (nI (ecS (mi σ (a + 1)) n))))) (h1 : ecS (mi σ (a + 1)) n = 0 → ∀ z : UInt64, K (.inl (some (vD z))) (th σ a 1)) (hk : 0 < ecS (mi σ (a + 1)) n → K (.inl (some (vD (FP.ddiv (FP.i2d (agS (mi σ (a + 1)) n)) (FP.i2d (nI (ecS (mi σ (a + 1)) n))))))) (th σ a 0)) (hS : ecS (mi σ (a + 1)) n < 2 ^ 31) : ∀ (d k : Nat), k + d = n → At G mX9_meanAge rX9_meanAge 0 0 6 [some (vR (some a)), some (vI (nI (ecS (mi σ (a + 1)) k))), some (vI (agS (mi σ (a + 1)) k)), some (vI (nI k)), none] [] σ K
  | 0, k, h => by
    obtain rfl : k = n := by omega
    refine vX9_meanAge_6 gk ?_
    simp (disch := omega) only [forall_eq, exists_eq_left', Option.some.injEq, Prod.mk.injEq, true_and, and_true, hM.ty, hM.r0, hM.t0, sS_r, sS_t, si_sS, sS_sS, sS_s, nA0, nA1, nA2, nA3, nA4, nA5, nA6, nI_clamp, lc0, lc1, lc2, lc3, lc4, lc5, lc6, lc7, lc8, vinT, vi0, vi1, vi2, vi3, vi4, vi5, vi6, vi7, pk_us, pk_un, true_implies, not_true_eq_false, not_false_eq_true, false_implies, i00, i01, i10, i11, Nat.add_zero, th_r, th_t, th_1, h0]
    refine ⟨fun _ => ⟨fun q => kX9_it0 gk hM (vX9_meanAge_94 gk ⟨fun _ => h1 ?_ _, fun z => absurd rfl z⟩), fun q => kX9_it1 gk hM (vX9_meanAge_94 gk ⟨fun z => absurd z (by decide), fun _ => ⟨hF ?_, hk ?_⟩⟩)⟩, fun q => absurd (nI_le (Nat.le_refl _) (by omega)) q⟩
    · rw [show (0 : Int32) = nI 0 from rfl, nI_leI hS (by omega)] at q
      omega
    · rw [show (0 : Int32) = nI 0 from rfl, nI_leI hS (by omega)] at q
      omega
    · rw [show (0 : Int32) = nI 0 from rfl, nI_leI hS (by omega)] at q
      omega
  | d + 1, k, h => by
    have ih := kX9_meanAge_6 gk hM hn h0 hF h1 hk hS d (k + 1) (by omega)
    refine vX9_meanAge_6 gk ?_
    simp (disch := omega) only [forall_eq, exists_eq_left', Option.some.injEq, Prod.mk.injEq, true_and, and_true, hM.ty, hM.r0, hM.t0, sS_r, sS_t, si_sS, sS_sS, sS_s, nA0, nA1, nA2, nA3, nA4, nA5, nA6, nI_clamp, lc0, lc1, lc2, lc3, lc4, lc5, lc6, lc7, lc8, vinT, vi0, vi1, vi2, vi3, vi4, vi5, vi6, vi7, pk_us, pk_un, true_implies, not_true_eq_false, not_false_eq_true, false_implies, i00, i01, i10, i11, Nat.add_zero, th_r, th_t, th_1, h0]
    refine ⟨fun q => absurd q (nI_ge (by omega) (by omega)), fun _ => ?_⟩
    exact kX9_meanAge_20 gk hM (by omega) ih 26 0 rfl
theorem ecS_le (P : Nat → Int32) : ∀ n, ecS P n ≤ 26 * n
  | 0 => Nat.le_refl _
  | n + 1 => by
    have := ecS_le P n
    have h2 : ecN P n ≤ 26 := cnt_le _ 26
    unfold ecS
    omega
theorem kX9_meanAge (gk : GOK G) (hM : MS σ a) {n : Nat} (hn : n ≤ 4) (h0 : mi σ (a + 1) 0 = nI n) (hF : 0 < ecS (mi σ (a + 1)) n → vf_n64 (FP.ddiv (FP.i2d (agS (mi σ (a + 1)) n)) (FP.i2d (nI (ecS (mi σ (a + 1)) n))))) (h1 : ecS (mi σ (a + 1)) n = 0 → ∀ z : UInt64, K (.inl (some (vD z))) (th σ a 1)) (hk : 0 < ecS (mi σ (a + 1)) n → K (.inl (some (vD (FP.ddiv (FP.i2d (agS (mi σ (a + 1)) n)) (FP.i2d (nI (ecS (mi σ (a + 1)) n))))))) (th σ a 0)) : Runs G mX9_meanAge rX9_meanAge [vR (some a)] σ K :=
  eX9_meanAge gk (kX9_meanAge_6 gk hM hn h0 hF h1 hk (by have := ecS_le (mi σ (a + 1)) n; omega) n 0 (by omega))
def htK (P : Nat → Int32) (k : Nat) : Int32 := P (86 + 187 * k + 4)
def rkP (P : Nat → Int32) (one other : Nat) : Prop := 0 < htK P other - htK P one ∨ (htK P other - htK P one = 0 ∧ other < one)
noncomputable def sbh (P : Nat → Int32) (n r : Nat) : Nat → Int32
  | 0 => 0
  | one + 1 => if cnt (rkP P one) n = r then nI one else sbh P n r one
theorem kX9_shelfByHits_36 (gk : GOK G) (hM : MS σ a) {n r one : Nat} {f z : Int32} (hn : n ≤ 4) (ho : one < 4) (hr : r < 4) (h0 : mi σ (a + 1) 0 = nI n) (hk : At G mX9_shelfByHits rX9_shelfByHits 0 0 15 [some (vR (some a)), some (vI (nI r)), some (vI (if cnt (rkP (mi σ (a + 1)) one) n = r then nI one else f)), some (vI z), some (vI (nI (one + 1))), none, none, none] [] σ K) : ∀ (d o : Nat), o + d = n → At G mX9_shelfByHits rX9_shelfByHits 0 0 36 [some (vR (some a)), some (vI (nI r)), some (vI f), some (vI z), some (vI (nI one)), some (vI (nI (cnt (rkP (mi σ (a + 1)) one) o))), some (vI (nI o)), none] [] σ K
  | 0, o, h => by
    obtain rfl : o = n := by omega
    have hc := cnt_le (rkP (mi σ (a + 1)) one) o
    refine vX9_shelfByHits_36 gk ?_
    simp (disch := omega) only [forall_eq, exists_eq_left', Option.some.injEq, Prod.mk.injEq, true_and, and_true, hM.ty, hM.r0, hM.t0, sS_r, sS_t, si_sS, sS_sS, sS_s, nA0, nA1, nA2, nA3, nA4, nA5, nA6, nI_clamp, lc0, lc1, lc2, lc3, lc4, lc5, lc6, lc7, lc8, vinT, vi0, vi1, vi2, vi3, vi4, vi5, vi6, vi7, pk_us, pk_un, true_implies, not_true_eq_false, not_false_eq_true, false_implies, i00, i01, i10, i11, Nat.add_zero, th_r, th_t, th_1, h0]
    refine ⟨fun _ => ⟨fun q => ?_, fun q => ?_⟩, fun q => absurd (nI_le (Nat.le_refl _) (by omega)) q⟩
    · rw [if_neg (fun z => q (by rw [z]))] at hk
      exact hk
    · rw [if_pos ((nI_eq (by omega) (by omega)).mp q)] at hk
      exact hk
  | d + 1, o, h => by
    have ih := kX9_shelfByHits_36 gk hM hn ho hr h0 hk d (o + 1) (by omega)
    refine vX9_shelfByHits_36 gk ?_
    simp (disch := omega) only [forall_eq, exists_eq_left', Option.some.injEq, Prod.mk.injEq, true_and, and_true, hM.ty, hM.r0, hM.t0, sS_r, sS_t, si_sS, sS_sS, sS_s, nA0, nA1, nA2, nA3, nA4, nA5, nA6, nI_clamp, lc0, lc1, lc2, lc3, lc4, lc5, lc6, lc7, lc8, vinT, vi0, vi1, vi2, vi3, vi4, vi5, vi6, vi7, pk_us, pk_un, true_implies, not_true_eq_false, not_false_eq_true, false_implies, i00, i01, i10, i11, Nat.add_zero, th_r, th_t, th_1, h0]
    refine ⟨fun q => absurd q (nI_ge (by omega) (by omega)), fun _ => kX9_of (j := 4) gk hM (by omega) (vX9_shelfByHits_54 gk ⟨_, rfl, hM.ty, kX9_of (j := 4) gk hM (by omega) (vX9_shelfByHits_61 gk ?_)⟩)⟩
    simp (disch := omega) only [forall_eq, exists_eq_left', Option.some.injEq, Prod.mk.injEq, true_and, and_true, hM.ty, hM.r0, hM.t0, sS_r, sS_t, si_sS, sS_sS, sS_s, nA0, nA1, nA2, nA3, nA4, nA5, nA6, nI_clamp, lc0, lc1, lc2, lc3, lc4, lc5, lc6, lc7, lc8, vinT, vi0, vi1, vi2, vi3, vi4, vi5, vi6, vi7, pk_us, pk_un, true_implies, not_true_eq_false, not_false_eq_true, false_implies, i00, i01, i10, i11, Nat.add_zero, th_r, th_t, th_1]
    have c1 : ¬ rkP (mi σ (a + 1)) one o → At G mX9_shelfByHits rX9_shelfByHits 0 0 36 [some (vR (some a)), some (vI (nI r)), some (vI f), some (vI z), some (vI (nI one)), some (vI (nI (cnt (rkP (mi σ (a + 1)) one) o))), some (vI (nI (o + 1))), none] [] σ K := fun q => by
      rw [cnt_f q] at ih
      exact ih
    have c2 : rkP (mi σ (a + 1)) one o → At G mX9_shelfByHits rX9_shelfByHits 0 0 36 [some (vR (some a)), some (vI (nI r)), some (vI f), some (vI z), some (vI (nI one)), some (vI (nI (cnt (rkP (mi σ (a + 1)) one) o + 1))), some (vI (nI (o + 1))), none] [] σ K := fun q => by
      rw [cnt_t q] at ih
      exact ih
    refine ⟨fun q => c2 (Or.inl q), fun q => ⟨fun q2 => c1 (fun w => w.elim q (fun y => q2 y.1)), fun q2 => ⟨fun q3 => c1 (fun w => w.elim q (fun y => ?_)), fun q3 => c2 (Or.inr ⟨q2, ?_⟩)⟩⟩⟩
    · rw [nI_leI (by omega) (by omega)] at q3
      exact absurd y.2 (by omega)
    · rw [nI_leI (by omega) (by omega)] at q3
      omega
theorem kX9_shelfByHits_15 (gk : GOK G) (hM : MS σ a) {n r : Nat} {z : Int32} (hz : ¬ z = 0) (hn : n ≤ 4) (hr : r < 4) (h0 : mi σ (a + 1) 0 = nI n) (hk : K (.inl (some (vI (sbh (mi σ (a + 1)) n r n)))) σ) : ∀ (d one : Nat), one + d = n → At G mX9_shelfByHits rX9_shelfByHits 0 0 15 [some (vR (some a)), some (vI (nI r)), some (vI (sbh (mi σ (a + 1)) n r one)), some (vI z), some (vI (nI one)), none, none, none] [] σ K
  | 0, one, h => by
    obtain rfl : one = n := by omega
    refine vX9_shelfByHits_15 gk ?_
    simp (disch := omega) only [forall_eq, exists_eq_left', Option.some.injEq, Prod.mk.injEq, true_and, and_true, hM.ty, hM.r0, hM.t0, sS_r, sS_t, si_sS, sS_sS, sS_s, nA0, nA1, nA2, nA3, nA4, nA5, nA6, nI_clamp, lc0, lc1, lc2, lc3, lc4, lc5, lc6, lc7, lc8, vinT, vi0, vi1, vi2, vi3, vi4, vi5, vi6, vi7, pk_us, pk_un, true_implies, not_true_eq_false, not_false_eq_true, false_implies, i00, i01, i10, i11, Nat.add_zero, th_r, th_t, th_1, h0]
    exact ⟨fun _ => hk, fun q => absurd (nI_le (Nat.le_refl _) (by omega)) q⟩
  | d + 1, one, h => by
    have ih := kX9_shelfByHits_15 gk hM hz hn hr h0 hk d (one + 1) (by omega)
    refine vX9_shelfByHits_15 gk ?_
    simp (disch := omega) only [forall_eq, exists_eq_left', Option.some.injEq, Prod.mk.injEq, true_and, and_true, hM.ty, hM.r0, hM.t0, sS_r, sS_t, si_sS, sS_sS, sS_s, nA0, nA1, nA2, nA3, nA4, nA5, nA6, nI_clamp, lc0, lc1, lc2, lc3, lc4, lc5, lc6, lc7, lc8, vinT, vi0, vi1, vi2, vi3, vi4, vi5, vi6, vi7, pk_us, pk_un, true_implies, not_true_eq_false, not_false_eq_true, false_implies, i00, i01, i10, i11, Nat.add_zero, th_r, th_t, th_1, h0]
    refine ⟨fun q => absurd q (nI_ge (by omega) (by omega)), fun _ => ⟨fun q => absurd q hz, fun _ => ?_⟩⟩
    exact kX9_shelfByHits_36 gk hM hn (by omega) hr h0 ih n 0 (by omega)
theorem kX9_shelfByHits (gk : GOK G) (hM : MS σ a) {x : Int32} {n : Nat} (hn : n ≤ 4) (h0 : mi σ (a + 1) 0 = nI n) (h1 : ¬ shP (mi σ (a + 1)) x → ∀ z : Int32, K (.inl (some (vI z))) (th σ a 1)) (hk : ∀ r : Nat, r < n → x = nI r → K (.inl (some (vI (sbh (mi σ (a + 1)) n r n)))) (th σ a 0)) : Runs G mX9_shelfByHits rX9_shelfByHits [vR (some a), vI x] σ K := by
  refine eX9_shelfByHits gk ⟨_, rfl, hM.ty, kX9_isShelf gk hM (vX9_shelfByHits_8 gk ⟨_, rfl, hM.ty, kX9_isThere gk hM (vX9_shelfByHits_11 gk ?_)⟩)⟩
  by_cases q : shP (mi σ (a + 1)) x
  · obtain ⟨r, hr4, rfl, hr0⟩ := shP_k ⟨n, hn, h0⟩ q
    have hrn := (shP_n hn h0 (by omega)).mp q
    rw [bP_t q, bP_f (p := ¬ _) (fun z => z q)]
    have := kX9_shelfByHits_15 gk (σ := th σ a 0) hM.th (z := 1) (by decide) hn hr4 (by rw [th_1]; exact h0) (by rw [th_1]; exact hk r hrn rfl) n 0 (by omega)
    exact this
  · rw [bP_f q, bP_t (p := ¬ _) q]
    refine vX9_shelfByHits_15 gk ?_
    simp (disch := omega) only [forall_eq, exists_eq_left', Option.some.injEq, Prod.mk.injEq, true_and, and_true, hM.ty, hM.r0, hM.t0, sS_r, sS_t, si_sS, sS_sS, sS_s, nA0, nA1, nA2, nA3, nA4, nA5, nA6, nI_clamp, lc0, lc1, lc2, lc3, lc4, lc5, lc6, lc7, lc8, vinT, vi0, vi1, vi2, vi3, vi4, vi5, vi6, vi7, pk_us, pk_un, true_implies, not_true_eq_false, not_false_eq_true, false_implies, i00, i01, i10, i11, Nat.add_zero, th_r, th_t, th_1, h0]
    exact ⟨fun _ => h1 q _, fun _ => h1 q _⟩
/-- undone: s is the last one kept -/
def mU (σ : Mm) (a j : Nat) : Mm := sS (sS σ a (upd (upd (mi σ a) 6 0) 5 (nI j))) (a + 1) (va_cpy (mi σ (a + 4)) (mi σ (a + 1)) (858 * j) 0 858)
theorem kX9_undo (gk : GOK G) (hM : MS σ a) {j : Nat} (hj : j ≤ 8) (hn : mi σ a 5 = nI j) (h1 : j = 0 → ∀ z : Int32, K (.inl (some (vI z))) (th σ a 1)) (hk : 0 < j → K (.inl (some (vI (nI (j - 1))))) (mU σ a (j - 1))) : Runs G mX9_undo rX9_undo [vR (some a)] σ K := by
  have e0 : (0 : Int32) ≤ 0 := by decide
  have e1 : ((1 : Int32) ≤ 0) = False := eq_false (by decide)
  refine eX9_undo gk ⟨_, rfl, hM.ty, fun q => ?_, fun q => ?_⟩
  · rw [hn] at q
    have hj0 : 0 < j := Nat.pos_of_ne_zero fun z => q (by rw [z]; rfl)
    have e5 : nI j - 1 = nI (j - 1) := pk_sub (b := 1) hj0
    have e6 : (858 : Int32) * nI (j - 1) = nI (858 * (j - 1)) := pk_mul 858 _
    simp (disch := omega) only [forall_eq, exists_eq_left', Option.some.injEq, Prod.mk.injEq, true_and, and_true, hM.ty, hM.r0, hM.t0, sS_r, sS_t, si_sS, sS_sS, sS_s, nA0, nA1, nA2, nA3, nA4, nA5, nA6, nI_clamp, lc0, lc1, lc2, lc3, lc4, lc5, lc6, lc7, lc8, vinT, vi0, vi1, vi2, vi3, vi4, vi5, vi6, vi7, pk_us, pk_un, true_implies, not_true_eq_false, not_false_eq_true, false_implies, i00, i01, i10, i11, Nat.add_zero, th_r, th_t, th_1, e0, hn, e5, e6, hM.r4, hM.t4, cpI_sS, cl858]
    rw [sS_n (show a + 4 ≠ a by omega), sS_n (show a + 1 ≠ a by omega), sS_n (show a ≠ a + 1 by omega), sS_s, pk_us]
    exact ⟨⟨⟨nI_pos (by omega), by decide, by decide⟩, by omega, by omega⟩, hk hj0⟩
  · rw [hn] at q
    simp (disch := omega) only [forall_eq, exists_eq_left', Option.some.injEq, Prod.mk.injEq, true_and, and_true, hM.ty, hM.r0, hM.t0, sS_r, sS_t, si_sS, sS_sS, sS_s, nA0, nA1, nA2, nA3, nA4, nA5, nA6, nI_clamp, lc0, lc1, lc2, lc3, lc4, lc5, lc6, lc7, lc8, vinT, vi0, vi1, vi2, vi3, vi4, vi5, vi6, vi7, pk_us, pk_un, true_implies, not_true_eq_false, not_false_eq_true, false_implies, i00, i01, i10, i11, Nat.add_zero, th_r, th_t, th_1, e1]
    exact h1 ((nI_eq (b := 0) (by omega) (by omega)).mp q) _
/-- saved -/
def mV (σ : Mm) (a : Nat) : Mm := sS (sS σ a (upd (upd (mi σ a) 6 0) 3 1)) (a + 3) (cpA (mi σ (a + 1)) (mi σ (a + 3)))
theorem kX9_save (gk : GOK G) (hM : MS σ a) (hk : K (.inl (some (vI (nI (jrN (mi σ (a + 1))))))) (mV σ a)) : Runs G mX9_save rX9_save [vR (some a)] σ K := by
  refine eX9_save gk ?_
  simp (disch := omega) only [forall_eq, exists_eq_left', Option.some.injEq, Prod.mk.injEq, true_and, and_true, hM.ty, hM.r0, hM.t0, sS_r, sS_t, si_sS, sS_sS, sS_s, nA0, nA1, nA2, nA3, nA4, nA5, nA6, nI_clamp, lc0, lc1, lc2, lc3, lc4, lc5, lc6, lc7, lc8, vinT, vi0, vi1, vi2, vi3, vi4, vi5, vi6, vi7, pk_us, pk_un, true_implies, not_true_eq_false, not_false_eq_true, false_implies, i00, i01, i10, i11, Nat.add_zero, th_r, th_t, th_1, hM.r2, hM.t2, cpI_sS, cl858]
  rw [sS_n (show a + 1 ≠ a by omega), sS_n (show a + 3 ≠ a by omega), sS_n (show a ≠ a + 3 by omega), sS_s, sS_cm (show a + 3 ≠ a by omega), sS_sS]
  refine ⟨⟨by decide, by omega, by omega⟩, kX9_jars gk hM.sS.sS (vX9_save_30 gk ?_)⟩
  rw [sS_n (show a + 1 ≠ a + 3 by omega), sS_n (show a + 1 ≠ a by omega)]
  exact hk
/-- restored -/
def mW (σ : Mm) (a : Nat) : Mm := sS (sS σ a (upd (upd (mi σ a) 6 0) 5 0)) (a + 1) (cpA (mi σ (a + 3)) (mi σ (a + 1)))
theorem kX9_restore (gk : GOK G) (hM : MS σ a) (h1 : mi σ a 3 = 0 → ∀ z : Int32, K (.inl (some (vI z))) (th σ a 1)) (hk : ¬ mi σ a 3 = 0 → K (.inl (some (vI (nI (jrN (cpA (mi σ (a + 3)) (mi σ (a + 1)))))))) (mW σ a)) : Runs G mX9_restore rX9_restore [vR (some a)] σ K := by
  have e0 : (0 : Int32) ≤ 0 := by decide
  have e1 : ((1 : Int32) ≤ 0) = False := eq_false (by decide)
  refine eX9_restore gk ⟨_, rfl, hM.ty, fun q => ?_, fun q => ?_⟩
  · simp (disch := omega) only [forall_eq, exists_eq_left', Option.some.injEq, Prod.mk.injEq, true_and, and_true, hM.ty, hM.r0, hM.t0, sS_r, sS_t, si_sS, sS_sS, sS_s, nA0, nA1, nA2, nA3, nA4, nA5, nA6, nI_clamp, lc0, lc1, lc2, lc3, lc4, lc5, lc6, lc7, lc8, vinT, vi0, vi1, vi2, vi3, vi4, vi5, vi6, vi7, pk_us, pk_un, true_implies, not_true_eq_false, not_false_eq_true, false_implies, i00, i01, i10, i11, Nat.add_zero, th_r, th_t, th_1, e1]
    exact h1 q _
  · simp (disch := omega) only [forall_eq, exists_eq_left', Option.some.injEq, Prod.mk.injEq, true_and, and_true, hM.ty, hM.r0, hM.t0, sS_r, sS_t, si_sS, sS_sS, sS_s, nA0, nA1, nA2, nA3, nA4, nA5, nA6, nI_clamp, lc0, lc1, lc2, lc3, lc4, lc5, lc6, lc7, lc8, vinT, vi0, vi1, vi2, vi3, vi4, vi5, vi6, vi7, pk_us, pk_un, true_implies, not_true_eq_false, not_false_eq_true, false_implies, i00, i01, i10, i11, Nat.add_zero, th_r, th_t, th_1, e0, hM.r2, hM.t2, cpI_sS, cl858]
    rw [sS_n (show a + 3 ≠ a by omega), sS_n (show a + 1 ≠ a by omega), sS_n (show a ≠ a + 1 by omega), sS_s, sS_cm (show a + 1 ≠ a by omega), sS_sS]
    refine ⟨⟨by decide, by omega, by omega⟩, kX9_jars gk hM.sS.sS (vX9_restore_50 gk ?_)⟩
    rw [sS_s]
    exact hk q
theorem kX9_errorPosition (gk : GOK G) (hM : MS σ a) (h1 : mi σ a 13 < 0 → ∀ z : Int32, K (.inl (some (vI z))) (th σ a 1)) (hk : ¬ mi σ a 13 < 0 → K (.inl (some (vI (mi σ a 13)))) (th σ a 0)) : Runs G mX9_errorPosition rX9_errorPosition [vR (some a)] σ K := by
  refine eX9_errorPosition gk ⟨_, rfl, hM.ty, fun q => kX9_it0 gk hM (vX9_errorPosition_16 gk ⟨fun _ => h1 q _, fun z => absurd rfl z⟩), fun q => kX9_it1 gk hM (vX9_errorPosition_16 gk ⟨fun z => absurd z (by decide), fun _ => ⟨_, rfl, hM.ty, ?_⟩⟩)⟩
  rw [show mi (th σ a 0) a 13 = mi σ a 13 from (congrFun sS_s 13).trans (pk_un (by omega))]
  exact hk q
theorem kX9_failedCommand (gk : GOK G) (hM : MS σ a) (h1 : mi σ a 14 < 0 → ∀ z : Int32, K (.inl (some (vI z))) (th σ a 1)) (hk : ¬ mi σ a 14 < 0 → K (.inl (some (vI (mi σ a 14)))) (th σ a 0)) : Runs G mX9_failedCommand rX9_failedCommand [vR (some a)] σ K := by
  refine eX9_failedCommand gk ⟨_, rfl, hM.ty, fun q => kX9_it0 gk hM (vX9_failedCommand_16 gk ⟨fun _ => h1 q _, fun z => absurd rfl z⟩), fun q => kX9_it1 gk hM (vX9_failedCommand_16 gk ⟨fun z => absurd z (by decide), fun _ => ⟨_, rfl, hM.ty, ?_⟩⟩)⟩
  rw [show mi (th σ a 0) a 14 = mi σ a 14 from (congrFun sS_s 14).trans (pk_un (by omega))]
  exact hk q
end MN
