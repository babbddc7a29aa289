/-! ===== the class's parse ===== -/
def TE (σ0 σ : Mm) (a n : Nat) (T : Nat → Int32) (r : Nat × Bool × Nat) : Prop := TQ σ a n T r.1 ∧ Fb σ0 σ a (a + 13) ∧ (r.2.1 = true → mi σ a 4 = nI r.2.2 ∧ r.2.2 ≤ 10 ∧ ∀ i, i < r.2.2 → ∃ f, ∀ k, k < 5 → mi σ (a + 3 + i) k = FU n T (sp n T i) f k)
section PRS
variable {G : GG} {σ0 σ : Mm} {K : RES → Mm → Prop} {a j n p : Nat} {T f : Nat → Int32}
theorem CQ.refl (h : TQ σ a n T p) (hj : j < 10) : CQ σ σ a j n T p (fun k => mi σ (a + 3 + j) k) := ⟨h, hj, fun _ _ => rfl, fun _ _ _ _ => rfl, rfl, rfl, rfl, rfl, rfl⟩
theorem CQ.fb (h : CQ σ0 σ a j n T p f) : Fb σ0 σ a (a + 13) := ⟨fun q hq => funext fun k => h.2.2.2.1 q k (by have := h.2.1; omega) (by omega), h.2.2.2.2.1, h.2.2.2.2.2.1, h.2.2.2.2.2.2.1, h.2.2.2.2.2.2.2.1, h.2.2.2.2.2.2.2.2⟩
theorem TQ.set4 {x : Int32} (h : TQ σ a n T p) : TQ (si σ a 4 x) a n T p := by
  obtain ⟨h1, h2, h3, h4, h5, h6⟩ := h
  exact ⟨h1, (u2_k (by decide)).trans h2, h3, fun i hi => ⟨(u2_a (by omega)).trans (h4 i hi).1, (h4 i hi).2⟩, (u2_k (by decide)).trans h5, h6⟩
theorem Fb.si {k : Nat} {x : Int32} {q lo hi : Nat} (h1 : lo ≤ q) (h2 : q < hi) : Fb σ (si σ q k x) lo hi := ⟨fun r hr => funext fun k => u2_a (by omega), rfl, rfl, rfl, rfl, rfl⟩
theorem sp_s (m : Nat) : sp n T (m + 1) = (run n T (fu (kd n T (sp n T m))) (sp n T m)).1 + 1 := rfl
theorem par_s (d m : Nat) : par n T (d + 1) m = (if (run n T (fu (kd n T (sp n T m))) (sp n T m)).2 = true then (if n ≤ (run n T (fu (kd n T (sp n T m))) (sp n T m)).1 then ((run n T (fu (kd n T (sp n T m))) (sp n T m)).1, true, m + 1) else if isAt n T (run n T (fu (kd n T (sp n T m))) (sp n T m)).1 59 then par n T d (m + 1) else ((run n T (fu (kd n T (sp n T m))) (sp n T m)).1, false, m + 1)) else ((run n T (fu (kd n T (sp n T m))) (sp n T m)).1, false, m)) := rfl
theorem kX1_parse_20 (gk : GOK G) (sok : SOK G) : ∀ (d m : Nat), m + d = 10 → (∀ σ', TE σ0 σ' a n T (par n T d m) → K (.inl (some (vI (if (par n T d m).2.1 = true then 1 else 0)))) σ') → ∀ σ, TQ σ a n T (sp n T m) → Fb σ0 σ a (a + 13) → mi σ a 4 = nI m → (∀ i, i < m → ∃ f, ∀ k, k < 5 → mi σ (a + 3 + i) k = FU n T (sp n T i) f k) → At G mX1_parse rX1_parse 0 0 20 [some (vR (some a)), some (vR (some (a + 2))), some (vI (nI 10)), some (vI (nI m)), none] [] σ K
  | 0, m, hd, hk, σ, h, hF, h4, hc => by
    obtain rfl : m = 10 := by omega
    refine vX1_parse_20 gk ⟨fun _ => hk σ ⟨h, hF, fun z => by cases z⟩, fun z => absurd (Int32.le_refl _) z⟩
  | d + 1, m, hd, hk, σ, h, hF, h4, hc => by
    have hm : m < 10 := by omega
    have hTS := h.1
    refine vX1_parse_20 gk ⟨fun z => absurd z (nI_ge (by omega) (by decide)), fun _ => ⟨_, rfl, 10, hTS.2.2.2.2.1, nI_in hm (by decide), _, rfl, hTS.1, ?_⟩⟩
    rw [nI_clamp (by omega), (hTS.2.2.2.2.2 m hm).1]
    rw [par_s] at hk
    refine kX1_readCommand gk sok (CQ.refl h hm) (fun r σ1 h1 => ?_) fun r σ1 f1 h1 => ?_
    · rw [if_pos r] at hk
      refine vX1_parse_36 gk ⟨fun _ => ⟨_, rfl, h1.ty, fun σ2 s2 => ?_⟩, fun z => absurd z (by decide)⟩
      have e4 : mi σ1 a 4 = nI m := (h1.2.2.2.1 a 4 (by omega) (by omega)).trans h4
      rw [e4, nI_1] at s2
      have q2 : TQ σ2 a n T _ := s2 ▸ h1.1.set4
      have F2 : Fb σ0 σ2 a (a + 13) := hF.trans (h1.fb.trans (s2 ▸ Fb.si (Nat.le_refl _) (by omega)))
      have c2 : ∀ i, i < m + 1 → ∃ f, ∀ k, k < 5 → mi σ2 (a + 3 + i) k = FU n T (sp n T i) f k := by
        intro i hi
        have e : ∀ k, mi σ2 (a + 3 + i) k = mi σ1 (a + 3 + i) k := fun k => by rw [s2]; exact u2_a (by omega)
        by_cases ei : i = m
        · subst ei
          exact ⟨_, fun k hk => (e k).trans (h1.2.2.1 k hk)⟩
        · obtain ⟨f, hf⟩ := hc i (by omega)
          exact ⟨f, fun k hk => ((e k).trans (h1.2.2.2.1 _ k (by omega) (by omega))).trans (hf k hk)⟩
      have e24 : mi σ2 a 4 = nI (m + 1) := by rw [s2]; exact u2_s
      have hpn := h1.pn
      rw [q2.2.2.2.2.1, q2.2.1]
      refine ⟨fun z => ?_, fun z => ?_⟩
      · have hlt := (nI_ltI (by omega) (by omega)).mp z
        rw [if_neg (by omega)] at hk
        refine kX1_readSign gk (by decide) (CQ.refl q2 hm) fun σ3 h3 => ?_
        rw [run1] at h3 ⊢
        by_cases q : isAt n T (run n T (fu (kd n T (sp n T m))) (sp n T m)).1 59
        · have q' : iOk n T (run n T (fu (kd n T (sp n T m))) (sp n T m)).1 (iSg 59) = true := decide_eq_true q
          rw [if_pos q'] at h3 ⊢
          rw [if_pos q] at hk
          refine vX1_parse_70 gk ⟨fun _ => ?_, fun z => absurd z (by rw [if_pos rfl]; decide)⟩
          rw [nI_1]
          refine kX1_parse_20 gk sok d (m + 1) (by omega) hk σ3 h3.1 (F2.trans h3.fb) ?_ fun i hi => ?_
          · rw [h3.2.2.2.1 a 4 (by omega) (by omega), e24]
          · obtain ⟨f, hf⟩ := c2 i hi
            refine ⟨f, fun k hk => ?_⟩
            by_cases ei : i = m
            · rw [ei]
              rw [ei] at hf
              rw [h3.2.2.1 k hk, runF1, if_pos q']
              exact hf k hk
            · rw [h3.2.2.2.1 _ k (by omega) (by omega)]
              exact hf k hk
        · have q' : ¬ iOk n T (run n T (fu (kd n T (sp n T m))) (sp n T m)).1 (iSg 59) = true := fun z => q (of_decide_eq_true z)
          rw [if_neg q'] at h3 ⊢
          rw [if_neg q] at hk
          exact vX1_parse_70 gk ⟨fun z => absurd rfl z, fun _ => hk σ3 ⟨h3.1, F2.trans h3.fb, fun z => by cases z⟩⟩
      · have hge : ¬ (run n T (fu (kd n T (sp n T m))) (sp n T m)).1 < n := fun q => z (nI_lt q (by omega))
        rw [if_pos (by omega)] at hk
        exact hk σ2 ⟨q2, F2, fun _ => ⟨e24, by show m + 1 ≤ 10; omega, c2⟩⟩
    · rw [if_neg r] at hk
      exact vX1_parse_36 gk ⟨fun z => absurd rfl z, fun _ => hk σ1 ⟨h1.1, hF.trans h1.fb, fun z => by cases z⟩⟩
/-- CommandText.parse() -/
theorem kX1_parse (gk : GOK G) (sok : SOK G) (h1 : TSh σ a) (h2 : mi σ a 1 = nI n) (h3 : n ≤ 60) (h4 : ∀ i, i < n → mi σ (a + 1) i = T i ∧ 32 ≤ (T i).toInt ∧ (T i).toInt ≤ 126) (hk : ∀ σ', TE σ σ' a n T (par n T 10 0) → K (.inl (some (vI (if (par n T 10 0).2.1 = true then 1 else 0)))) σ') : Runs G mX1_parse rX1_parse [vR (some a)] σ K := by
  refine eX1_parse gk ⟨_, rfl, h1.1, fun σ1 s1 σ2 s2 => ⟨a + 2, ?_, 10, h1.2.2.2.2.1, ?_⟩⟩
  · rw [s2, s1]; exact h1.2.2.2.1
  · have e : mr σ2 a 3 = some (a + 2) := by rw [s2, s1]; exact h1.2.2.2.1
    rw [e]
    refine kX1_parse_20 gk sok 10 0 rfl hk σ2 ?_ ?_ ?_ fun i hi => absurd hi (Nat.not_lt_zero _)
    · rw [s2, s1]
      exact ⟨h1, ((u2_k (by decide)).trans (u2_k (by decide))).trans h2, h3, fun i hi => ⟨((u2_a (by omega)).trans (u2_a (by omega))).trans (h4 i hi).1, (h4 i hi).2⟩, (u2_k (by decide)).trans u2_s, Nat.zero_le _⟩
    · rw [s2, s1]
      exact (Fb.si (Nat.le_refl _) (by omega)).trans (Fb.si (Nat.le_refl _) (by omega))
    · rw [s2]; exact u2_s
end PRS
