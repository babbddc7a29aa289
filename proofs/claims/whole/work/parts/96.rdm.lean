/-! ===== the model reads a text ===== -/
def FrN (σ σ' : Mm) (a : Nat) : Prop := (∀ q, q ≠ a → q ≠ a + 7 → mi σ' q = mi σ q) ∧ (∀ k, k ≠ 10 → k ≠ 11 → k ≠ 12 → k ≠ 13 → k ≠ 16 → mi σ' a k = mi σ a k) ∧ mr σ' = mr σ ∧ ml σ' = ml σ ∧ md σ' = md σ ∧ mt σ' = mt σ ∧ mz σ' = mz σ
section RDM
variable {G : GG} {σ σ' σ0 : Mm} {K : RES → Mm → Prop} {a n : Nat} {T : Nat → Int32}
theorem FrN.trans {σ'' : Mm} (h : FrN σ σ' a) (h' : FrN σ' σ'' a) : FrN σ σ'' a := by
  obtain ⟨a1, a2, a3, a4, a5, a6, a7⟩ := h
  obtain ⟨b1, b2, b3, b4, b5, b6, b7⟩ := h'
  exact ⟨fun q h1 h2 => (b1 q h1 h2).trans (a1 q h1 h2), fun k h1 h2 h3 h4 h5 => (b2 k h1 h2 h3 h4 h5).trans (a2 k h1 h2 h3 h4 h5), b3.trans a3, b4.trans a4, b5.trans a5, b6.trans a6, b7.trans a7⟩
theorem FrM.toN {m : Nat} (h : FrM σ σ' a m) : FrN σ σ' a := by
  obtain ⟨a1, a2, -, a4, a5, a6, a7, a8⟩ := h
  exact ⟨fun q h1 h2 => funext fun k => a1 q h1 h2 k, fun k _ h1 h2 _ h3 => a2 k h1 h2 h3, a4, a5, a6, a7, a8⟩
theorem FrN.si {k : Nat} {z : Int32} (hk : k = 10 ∨ k = 11 ∨ k = 12 ∨ k = 13 ∨ k = 16) : FrN σ (si σ a k z) a :=
  ⟨fun q h1 _ => funext fun j => u2_a h1, fun j h1 h2 h3 h4 h5 => u2_k (by omega), rfl, rfl, rfl, rfl, rfl⟩
theorem FrN.ms (h : FrN σ σ' a) (hM : MS σ a) : MS σ' a := hM.mv h.2.2.1 h.2.2.2.2.2.1
theorem MA_cg {k : Nat} (hk : k < 9) {F r r' : Nat → Int32} {t : Nat} (h : MA k F r t) (e : ∀ i, i < 4 → r' (t + i) = r (t + i)) : MA k F r' t := by
  have e1 := e 1 (by decide)
  have e2 := e 2 (by decide)
  have e3 := e 3 (by decide)
  match k, hk with
  | 0, _ => exact ⟨e1.trans h.1, e2.trans h.2⟩
  | 1, _ => exact ⟨e1.trans h.1, e2.trans h.2⟩
  | 2, _ => exact e1.trans h
  | 3, _ => exact ⟨e1.trans h.1, e2.trans h.2.1, e3.trans h.2.2⟩
  | 4, _ => exact ⟨e1.trans h.1, e2.trans h.2⟩
  | 5, _ => exact ⟨e1.trans h.1, e2.trans h.2.1, e3.trans h.2.2⟩
  | 6, _ => exact e1.trans h
  | 7, _ => exact e1.trans h
  | 8, _ => exact e1.trans h
/-- the t-th command stands in the model's row -/
def RowT (σ : Mm) (a n : Nat) (T : Nat → Int32) (t : Nat) : Prop := mi σ (a + 7) (4 * t) = cdk (KT n T t) ∧ ∀ f, MA (KT n T t) (FU n T (sp n T t) f) (mi σ (a + 7)) (4 * t)
theorem RowT.mv {t : Nat} (h : RowT σ a n T t) (e : ∀ i, i < 4 → mi σ' (a + 7) (4 * t + i) = mi σ (a + 7) (4 * t + i)) : RowT σ' a n T t :=
  ⟨(e 0 (by decide)).trans h.1, fun f => MA_cg (kd_lt _) (h.2 f) e⟩
/-- command m has been read, those before it too -/
def RD (σ0 σ : Mm) (a n : Nat) (T : Nat → Int32) (m : Nat) : Prop := MX σ σ a n T (run n T (fu (KT n T m)) (sp n T m)).1 (run n T (fu (KT n T m)) (sp n T m)).2 ∧ FrN σ0 σ a ∧ mi σ a 16 = nI (m + 1) ∧ mi σ a 13 = mi σ0 a 13 ∧ (∀ t, t < m → RowT σ a n T t) ∧ ((run n T (fu (KT n T m)) (sp n T m)).2 = true → RowT σ a n T m)
theorem EQ.rd {σs : Mm} {m : Nat} (h : EQ σs σ a n T (sp n T m) m) (hF : FrN σ0 σs a) (h13 : mi σs a 13 = mi σ0 a 13) (hR : ∀ t, t < m → RowT σs a n T t) : RD σ0 σ a n T m := by
  obtain ⟨h1, h2, h3, h4⟩ := id h
  refine ⟨h1, hF.trans h2.toN, h3, (h2.2.1 13 (by decide) (by decide) (by decide)).trans h13, fun t ht => (hR t ht).mv fun i hi => h2.2.2.1 _ (by omega), fun hok => ⟨(h.ma hok zf).1, fun f => (h.ma hok f).2⟩⟩
theorem chB {p : Nat} {ok : Bool} {σ1 σ2 σ3 : Mm} (h : MX σ σ a n T p ok) (e1 : σ1 = si σ a 12 1) (e2 : σ2 = si σ1 a 13 (mi σ1 a 11)) (e3 : σ3 = si σ2 a 10 0) : mi σ1 a 12 = 1 ∧ mi σ3 a 12 = 1 ∧ mi σ3 a 13 = nI p ∧ mi σ3 a 10 = 0 ∧ FrN σ σ3 a := by
  have q1 : mi σ1 a 11 = nI p := by rw [e1]; exact (u2_k (by decide)).trans h.at'
  refine ⟨by rw [e1]; exact u2_s, ?_, ?_, by rw [e3]; exact u2_s, ?_⟩
  · rw [e3, e2, e1]; exact (u2_k (by decide)).trans ((u2_k (by decide)).trans u2_s)
  · rw [e3, e2, ← q1]; exact (u2_k (by decide)).trans u2_s
  · rw [e3, e2, e1]
    exact ((FrN.si (by simp)).trans (FrN.si (by simp))).trans (FrN.si (by simp))
theorem chK {p : Nat} {ok : Bool} {σ1 σ2 σ3 : Mm} (h : MX σ σ a n T p ok) (e1 : σ1 = si σ a 12 0) (e2 : σ2 = si σ1 a 13 (mi σ1 a 13)) (e3 : σ3 = si σ2 a 10 0) : mi σ1 a 12 = 0 ∧ mi σ3 a 12 = 0 ∧ mi σ3 a 13 = mi σ a 13 ∧ mi σ3 a 10 = 0 ∧ mi σ3 a 16 = mi σ a 16 ∧ (∀ k, mi σ3 (a + 7) k = mi σ (a + 7) k) ∧ FrN σ σ3 a := by
  have q1 : mi σ1 a 13 = mi σ a 13 := by rw [e1]; exact u2_k (by decide)
  refine ⟨by rw [e1]; exact u2_s, ?_, ?_, by rw [e3]; exact u2_s, ?_, fun k => ?_, ?_⟩
  · rw [e3, e2, e1]; exact (u2_k (by decide)).trans ((u2_k (by decide)).trans u2_s)
  · rw [e3, e2, q1]; exact (u2_k (by decide)).trans u2_s
  · rw [e3, e2, e1]; exact (u2_k (by decide)).trans ((u2_k (by decide)).trans (u2_k (by decide)))
  · rw [e3, e2, e1]; exact (u2_a (by omega)).trans ((u2_a (by omega)).trans (u2_a (by omega)))
  · rw [e3, e2, e1]
    exact ((FrN.si (by simp)).trans (FrN.si (by simp))).trans (FrN.si (by simp))
theorem sp_7 : ∀ m, (∀ t, t < m → (run n T (fu (KT n T t)) (sp n T t)).2 = true) → 7 * m ≤ sp n T m
  | 0, _ => Nat.le_refl _
  | m + 1, h => by
    have h1 := sp_7 m fun t ht => h t (by omega)
    have h2 := run_len _ _ (h m (by omega))
    have h3 := fu_len (KT n T m) (kd_lt _)
    rw [sp_s]
    show 7 * (m + 1) ≤ (run n T (fu (KT n T m)) (sp n T m)).1 + 1
    omega
theorem rd_19 (gk : GOK G) (sok : SOK G) (hn : n ≤ 60) : ∀ (d m : Nat), m + d = 9 → (∀ t, t < m → (run n T (fu (KT n T t)) (sp n T t)).2 = true) → sp n T m ≤ n →
    (¬ (par n T (d + 1) m).2.1 = true → ∀ τ, mi τ a 13 = nI (par n T (d + 1) m).1 → mi τ a 10 = 0 → FrN σ0 τ a → Runs G mX9_fails rX9_fails [vR (some a), vI 1] τ (bk G mX9_execute rX9_execute 0 0 119 [some (vR (some a)), none] [] K)) →
    ((par n T (d + 1) m).2.1 = true → ∀ τ, mi τ a 13 = mi σ0 a 13 → mi τ a 10 = 0 → mi τ a 16 = nI (par n T (d + 1) m).2.2 → (∀ t, t < (par n T (d + 1) m).2.2 → RowT τ a n T t) → FrN σ0 τ a → Runs G mX9_keep rX9_keep [vR (some a)] τ (bk G mX9_execute rX9_execute 0 0 124 [some (vR (some a)), none] [] K)) →
    ∀ σ, RD σ0 σ a n T m → At G mX9_execute rX9_execute 0 0 19 [some (vR (some a)), none] [] σ K
  | d, m, hd, hall, hsp, hb, hk, σ, h => by
    obtain ⟨h1, h2, h3, h13, hR, hRm⟩ := id h
    have hs7 := sp_7 m hall
    rw [par_s] at hb hk
    refine vX9_execute_19 gk ⟨_, rfl, h1.ty, ?_⟩
    rw [h1.w]
    by_cases hr : (run n T (fu (KT n T m)) (sp n T m)).2 = true
    · have hr' : (run n T (fu (kd n T (sp n T m))) (sp n T m)).2 = true := hr
      rw [if_pos hr'] at hb hk
      rw [if_pos hr]
      have hl := run_len _ _ hr
      have h6 := fu_len (KT n T m) (kd_lt _)
      have hpn := h1.pn
      refine ⟨fun z => absurd rfl z, fun _ => kX9_behind (d := 0) gk (by decide) h1 (vX9_execute_31 gk ⟨fun z => ⟨_, rfl, h1.ty, ?_⟩, fun z => ?_⟩)⟩
      · have h59 : ¬ isAt n T (run n T (fu (KT n T m)) (sp n T m)).1 59 := fun q => z ((cu_at (by decide)).mpr q)
        rw [h1.w, if_pos hr, h1.2.1, h1.at']
        refine ⟨fun z => absurd rfl z, fun _ => ⟨fun z1 σ1 e1 => ?_, fun z1 σ1 e1 => ?_⟩⟩
        · have hge : n ≤ (run n T (fu (KT n T m)) (sp n T m)).1 := (nI_leI (by omega) (by omega)).mp z1
          have hge' : n ≤ (run n T (fu (kd n T (sp n T m))) (sp n T m)).1 := hge
          rw [if_pos hge'] at hk
          refine ⟨fun _ σ2 e2 σ3 e3 => ?_, fun z => absurd (by rw [e1]; exact u2_s) z⟩
          obtain ⟨c1, c2, c3, c4, c5, c6, c7⟩ := chK h1 e1 e2 e3
          refine ⟨fun _ => hk rfl σ3 (c3.trans h13) c4 (c5.trans h3) (fun t ht => ?_) (h2.trans c7), fun z => absurd c2 z⟩
          have ht : t < m + 1 := ht
          by_cases et : t = m
          · rw [et]; exact (hRm hr).mv fun i _ => c6 _
          · exact (hR t (by omega)).mv fun i _ => c6 _
        · have hlt : ¬ n ≤ (run n T (fu (KT n T m)) (sp n T m)).1 := fun q => z1 ((nI_leI (by omega) (by omega)).mpr q)
          have hlt' : ¬ n ≤ (run n T (fu (kd n T (sp n T m))) (sp n T m)).1 := hlt
          have h59' : ¬ isAt n T (run n T (fu (kd n T (sp n T m))) (sp n T m)).1 59 := h59
          rw [if_neg hlt', if_neg h59'] at hb
          refine ⟨fun z => absurd z (by rw [e1]; show ¬ u2 _ _ _ _ _ _ = 0; rw [u2_s]; decide), fun _ σ2 e2 σ3 e3 => ?_⟩
          obtain ⟨c1, c2, c3, c4, c5⟩ := chB h1 e1 e2 e3
          exact ⟨fun z => absurd z (by rw [c2]; decide), fun _ => hb (fun z => by cases z) σ3 c3 c4 (h2.trans c5)⟩
      · have h59 : isAt n T (run n T (fu (KT n T m)) (sp n T m)).1 59 := (cu_at (by decide)).mp z
        have h59' : isAt n T (run n T (fu (kd n T (sp n T m))) (sp n T m)).1 59 := h59
        have hlt' : ¬ n ≤ (run n T (fu (kd n T (sp n T m))) (sp n T m)).1 := by have := h59'.1; omega
        rw [if_neg hlt', if_pos h59'] at hb hk
        match d, hd with
        | 0, hd => have := h59.1; omega
        | d + 1, hd =>
          refine ⟨_, rfl, h1.ty, fun σ1 e1 => ?_⟩
          rw [h1.at', nI_1] at e1
          have q1 : MX σ σ1 a n T (sp n T (m + 1)) true := by
            have := h1.set11 (q := (run n T (fu (KT n T m)) (sp n T m)).1 + 1) h59.1
            rw [← e1, hr] at this
            exact this
          have F1 : FrN σ σ1 a := by rw [e1]; exact FrN.si (by simp)
          refine kX9_readCommand gk sok q1.base (by omega) ?_ fun σ2 hE => vX9_execute_50 gk (rd_19 gk sok hn d (m + 1) (by omega) (fun t ht => ?_) (by rw [sp_s]; exact h59.1) hb hk σ2 (hE.rd (h2.trans F1) ?_ fun t ht => ?_))
          · rw [e1]; exact (u2_k (by decide)).trans h3
          · by_cases et : t = m
            · rw [et]; exact hr
            · exact hall t (by omega)
          · rw [e1]; exact (u2_k (by decide)).trans h13
          · have e7 : ∀ k, mi σ1 (a + 7) k = mi σ (a + 7) k := fun k => by rw [e1]; exact u2_a (by omega)
            by_cases et : t = m
            · rw [et]; exact (hRm hr).mv fun i _ => e7 _
            · exact (hR t (by omega)).mv fun i _ => e7 _
    · have hr' : ¬ (run n T (fu (kd n T (sp n T m))) (sp n T m)).2 = true := hr
      rw [if_neg hr'] at hb
      rw [if_neg hr]
      refine ⟨fun _ => ⟨fun _ σ1 e1 => ⟨fun z => absurd z (by rw [e1]; show ¬ u2 _ _ _ _ _ _ = 0; rw [u2_s]; decide), fun _ σ2 e2 σ3 e3 => ?_⟩, fun z => absurd z (by decide)⟩, fun z => absurd z (by decide)⟩
      obtain ⟨c1, c2, c3, c4, c5⟩ := chB h1 e1 e2 e3
      exact ⟨fun z => absurd z (by rw [c2]; decide), fun _ => hb (fun z => by cases z) σ3 c3 c4 (h2.trans c5)⟩
end RDM
