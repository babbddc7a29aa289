/-! ===== the model as a whole ===== -/
def MIV (σ : Mm) (a : Nat) (A : AS) : Prop := MS σ a ∧ mi σ (a + 1) = aP A ∧ (aj A ≤ 8 ∧ mi σ a 5 = nI (aj A) ∧ ∀ i k, i < aj A → k < 858 → mi σ (a + 4) (858 * i + k) = aW A i k) ∧ (mi σ a 3 = asv A ∧ isZ (asv A) ∧ ∀ k, k < 858 → mi σ (a + 3) k = aV A k) ∧ (mi σ a 13 = aea A ∧ mi σ a 14 = afa A) ∧ (mi σ a 10 = nI (atn A) ∧ atn A ≤ 60 ∧ ∀ i, i < atn A → mi σ (a + 6) i = atx A i ∧ 32 ≤ (atx A i).toInt ∧ (atx A i).toInt ≤ 126) ∧ (mi σ a 8 = nI (aln A) ∧ aln A ≤ 60 ∧ ∀ i, i < aln A → mi σ (a + 5) i = alt A i)
/-- the same pantry, its rows told alike where it matters -/
def AE (A B : AS) : Prop := (∀ k, k < 858 → aP B k = aP A k) ∧ aj B = aj A ∧ (∀ i k, i < aj A → k < 858 → aW B i k = aW A i k) ∧ asv B = asv A ∧ (∀ k, k < 858 → aV B k = aV A k) ∧ B.2.2.2.2.2 = A.2.2.2.2.2
section MV
variable {σ σ' : Mm} {a : Nat} {A : AS}
theorem AE.refl : AE A A := ⟨fun _ _ => rfl, rfl, fun _ _ _ _ => rfl, rfl, fun _ _ => rfl, rfl⟩
/-- nothing that the pantry's row tells of has changed but what is said -/
theorem mv_to (h : MIV σ a A) (h1 : mr σ' = mr σ) (h2 : mt σ' = mt σ) {P : Nat → Int32} (e1 : mi σ' (a + 1) = P) (e3 : mi σ' (a + 3) = mi σ (a + 3)) (e4 : mi σ' (a + 4) = mi σ (a + 4)) (e5 : mi σ' (a + 5) = mi σ (a + 5)) (e6 : mi σ' (a + 6) = mi σ (a + 6)) (e0 : ∀ k, k = 3 ∨ k = 5 ∨ k = 8 ∨ k = 10 ∨ k = 13 ∨ k = 14 → mi σ' a k = mi σ a k) : MIV σ' a (P, A.2) := by
  obtain ⟨g1, g2, ⟨g3, g4, g5⟩, ⟨g6, g7, g8⟩, ⟨g9, g10⟩, ⟨g11, g12, g13⟩, ⟨g14, g15, g16⟩⟩ := h
  exact ⟨g1.mv h1 h2, e1, ⟨g3, (e0 5 (by simp)).trans g4, by rw [e4]; exact g5⟩, ⟨(e0 3 (by simp)).trans g6, g7, by rw [e3]; exact g8⟩, ⟨(e0 13 (by simp)).trans g9, (e0 14 (by simp)).trans g10⟩, ⟨(e0 10 (by simp)).trans g11, g12, by rw [e6]; exact g13⟩, ⟨(e0 8 (by simp)).trans g14, g15, by rw [e5]; exact g16⟩⟩
theorem th_k {t : Int32} {k : Nat} (h : k ≠ 6) : mi (th σ a t) a k = mi σ a k := by
  have : mi (th σ a t) a = upd (mi σ a) 6 t := sS_s
  rw [this, pk_un h]
theorem th_6' {t : Int32} : mi (th σ a t) a 6 = t := by
  have : mi (th σ a t) a = upd (mi σ a) 6 t := sS_s
  rw [this, pk_us]
theorem mv_th (h : MIV σ a A) (t : Int32) : MIV (th σ a t) a A ∧ Fb σ (th σ a t) a (a + 8) ∧ mi (th σ a t) a 6 = t :=
  ⟨mv_to (σ' := th σ a t) h rfl rfl (th_1.trans h.2.1) th_s th_s th_s th_s fun k hk => th_k (by omega), Fb.sS (by omega) (by omega), th_6'⟩
theorem mv_mF (h : MIV σ a A) (t : Int32) : MIV (mF σ a t) a A ∧ Fb σ (mF σ a t) a (a + 8) ∧ mi (mF σ a t) a 6 = t := by
  obtain ⟨h1, h2, h3⟩ := mv_th h t
  refine ⟨mv_to (σ' := mF σ a t) h1 rfl rfl ((sS_n (by omega)).trans h1.2.1) (sS_n (by omega)) (sS_n (by omega)) (sS_n (by omega)) (sS_n (by omega)) fun k hk => ?_, h2.trans (Fb.sS (by omega) (by omega)), ?_⟩
  · exact congrFun (sS_n (by omega)) k
  · exact (congrFun (sS_n (show a ≠ a + 2 by omega)) 6).trans h3
theorem mv_mF2 (h : MIV σ a A) (t : Int32) (Q : Nat → Int32) : MIV (mF2 σ a t Q) a (cpA (aP A) Q, A.2) ∧ Fb σ (mF2 σ a t Q) a (a + 8) ∧ mi (mF2 σ a t Q) a 6 = t := by
  obtain ⟨h1, h2, h3⟩ := mv_mF h t
  refine ⟨mv_to (σ' := mF2 σ a t Q) h1 rfl rfl (by show mi (sS _ _ _) _ = _; rw [sS_s, h.2.1]) (sS_n (by omega)) (sS_n (by omega)) (sS_n (by omega)) (sS_n (by omega)) fun k hk => ?_, h2.trans (Fb.sS (by omega) (by omega)), ?_⟩
  · exact congrFun (sS_n (by omega)) k
  · exact (congrFun (sS_n (show a ≠ a + 1 by omega)) 6).trans h3
theorem psh_at {j i k : Nat} {B past : Nat → Int32} (hj : j ≤ 8) (hi : i < pshN j) (hk : k < 858) : psh j B past (858 * i + k) = if j = 8 then (if i = 7 then B k else past (858 * (i + 1) + k)) else (if i = j then B k else past (858 * i + k)) := by
  unfold pshN at hi
  unfold psh
  by_cases e : j = 8
  · rw [if_pos e, if_pos e]
    rw [if_pos e] at hi
    by_cases e7 : i = 7
    · rw [if_pos e7, e7, pk_cpy_in (by omega) (by omega), show 0 + (858 * 7 + k - 6006) = k by omega]
    · rw [if_neg e7, pk_cpy_out (by omega), pk_cpy_in (by omega) (by omega), show 858 + (858 * i + k - 0) = 858 * (i + 1) + k by omega]
  · rw [if_neg e, if_neg e]
    rw [if_neg e] at hi
    by_cases ei : i = j
    · rw [if_pos ei, ei, pk_cpy_in (by omega) (by omega), show 0 + (858 * j + k - 858 * j) = k by omega]
    · rw [if_neg ei, pk_cpy_out (Or.inl (by
        have : 858 * i + 858 ≤ 858 * j := by
          have : i + 1 ≤ j := by omega
          calc 858 * i + 858 = 858 * (i + 1) := by omega
            _ ≤ 858 * j := Nat.mul_le_mul_left _ this
        omega))]
/-- a modification that was made -/
theorem mv_mK (h : MIV σ a A) (P : Nat → Int32) : MIV (mK σ a (aj A) P) a (Am A P) ∧ Fb σ (mK σ a (aj A) P) a (a + 8) ∧ mi (mK σ a (aj A) P) a 6 = 0 := by
  obtain ⟨g1, g2, ⟨g3, g4, g5⟩, ⟨g6, g7, g8⟩, ⟨g9, g10⟩, ⟨g11, g12, g13⟩, ⟨g14, g15, g16⟩⟩ := h
  have ka : mi (kp σ a) a = upd (mi σ a) 6 0 := (sS_n (by omega)).trans sS_s
  have k2 : mi (kp σ a) (a + 2) = cpA (mi σ (a + 1)) (mi σ (a + 2)) := sS_s
  have kn : ∀ q, q ≠ a → q ≠ a + 2 → mi (kp σ a) q = mi σ q := fun q h1 h2 => (sS_n h2).trans (sS_n h1)
  have m0 : mi (mK σ a (aj A) P) a = upd (upd (mi σ a) 6 0) 5 (nI (pshN (aj A))) := by
    show mi (sS _ a _) a = _
    rw [sS_s, ka]
  have m1 : mi (mK σ a (aj A) P) (a + 1) = P := (sS_n (by omega)).trans ((sS_n (by omega)).trans sS_s)
  have m4 : mi (mK σ a (aj A) P) (a + 4) = psh (aj A) (cpA (mi σ (a + 1)) (mi σ (a + 2))) (mi σ (a + 4)) := by
    refine (sS_n (by omega)).trans ?_
    rw [sS_s, k2]
  have mn : ∀ q, q ≠ a → q ≠ a + 1 → q ≠ a + 2 → q ≠ a + 4 → mi (mK σ a (aj A) P) q = mi σ q := fun q h0 h1 h2 h4 => (sS_n h0).trans ((sS_n h4).trans ((sS_n h1).trans (kn q h0 h2)))
  have mk : ∀ k, k ≠ 5 → k ≠ 6 → mi (mK σ a (aj A) P) a k = mi σ a k := fun k h5 h6 => by rw [m0, pk_un h5, pk_un h6]
  refine ⟨⟨g1.mv rfl rfl, m1, ⟨?_, ?_, fun i k hi hk => ?_⟩, ⟨(mk 3 (by decide) (by decide)).trans g6, g7, fun k hk => ?_⟩, ⟨(mk 13 (by decide) (by decide)).trans g9, (mk 14 (by decide) (by decide)).trans g10⟩, ⟨(mk 10 (by decide) (by decide)).trans g11, g12, ?_⟩, ⟨(mk 8 (by decide) (by decide)).trans g14, g15, ?_⟩⟩, ⟨fun q hq => mn q (by omega) (by omega) (by omega) (by omega), rfl, rfl, rfl, rfl, rfl⟩, ?_⟩
  · show pshN (aj A) ≤ 8
    unfold pshN; split <;> omega
  · rw [m0, pk_us]; rfl
  · have hi : i < pshN (aj A) := hi
    rw [m4, psh_at g3 hi hk]
    show _ = pushW (aW A) (aj A) (aP A) i k
    unfold pushW
    unfold pshN at hi
    by_cases e : aj A = 8
    · rw [if_pos e, if_pos e]
      rw [if_pos e] at hi
      by_cases e7 : i = 7
      · rw [if_pos e7, if_pos e7, cpA_in hk, g2]
      · rw [if_neg e7, if_neg e7]; exact g5 (i + 1) k (by omega) hk
    · rw [if_neg e, if_neg e]
      rw [if_neg e] at hi
      by_cases ei : i = aj A
      · rw [if_pos ei, if_pos ei, cpA_in hk, g2]
      · rw [if_neg ei, if_neg ei]; exact g5 i k (by omega) hk
  · rw [mn _ (by omega) (by omega) (by omega) (by omega)]; exact g8 k hk
  · rw [mn _ (by omega) (by omega) (by omega) (by omega)]; exact g13
  · rw [mn _ (by omega) (by omega) (by omega) (by omega)]; exact g16
  · rw [m0, pk_un (by decide), pk_us]
end MV
