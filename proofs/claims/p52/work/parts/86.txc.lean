/-! ===== the class's text, read ===== -/
def TQ (σ : Mm) (a n : Nat) (T : Nat → Int32) (p : Nat) : Prop := TSh σ a ∧ mi σ a 1 = nI n ∧ n ≤ 60 ∧ (∀ i, i < n → mi σ (a + 1) i = T i ∧ 32 ≤ (T i).toInt ∧ (T i).toInt ≤ 126) ∧ mi σ a 2 = nI p ∧ p ≤ n
def CQ (σ0 σ : Mm) (a j n : Nat) (T : Nat → Int32) (p : Nat) (f : Nat → Int32) : Prop := TQ σ a n T p ∧ j < 10 ∧ (∀ i, i < 5 → mi σ (a + 3 + j) i = f i) ∧ (∀ q k, q ≠ a + 3 + j → ¬ (q = a ∧ k = 2) → mi σ q k = mi σ0 q k) ∧ mr σ = mr σ0 ∧ ml σ = ml σ0 ∧ md σ = md σ0 ∧ mt σ = mt σ0 ∧ mz σ = mz σ0
def nxC (n : Nat) (T : Nat → Int32) (p : Nat) : Int32 := if p < n then T p else 0
section TXC
variable {G : GG} {σ0 σ : Mm} {K : RES → Mm → Prop} {a j n p : Nat} {T f : Nat → Int32}
theorem TQ.set2 {q : Nat} (h : TQ σ a n T p) (hq : q ≤ n) : TQ (si σ a 2 (nI q)) a n T q := by
  obtain ⟨h1, h2, h3, h4, h5, h6⟩ := h
  refine ⟨h1, ?_, h3, fun i hi => ?_, u2_s, hq⟩
  · exact (u2_k (by decide)).trans h2
  · exact ⟨(u2_a (by omega)).trans (h4 i hi).1, (h4 i hi).2⟩
theorem TQ.cmd {i : Nat} {x : Int32} (h : TQ σ a n T p) : TQ (si σ (a + 3 + j) i x) a n T p := by
  obtain ⟨h1, h2, h3, h4, h5, h6⟩ := h
  exact ⟨h1, (u2_a (by omega)).trans h2, h3, fun i hi => ⟨(u2_a (by omega)).trans (h4 i hi).1, (h4 i hi).2⟩, (u2_a (by omega)).trans h5, h6⟩
theorem CQ.set2 {q : Nat} (h : CQ σ0 σ a j n T p f) (hq : q ≤ n) : CQ σ0 (si σ a 2 (nI q)) a j n T q f := by
  obtain ⟨h1, hj, h2, h3, h4, h5, h6, h7, h8⟩ := h
  refine ⟨h1.set2 hq, hj, fun i hi => (u2_a (by omega)).trans (h2 i hi), fun q k hq hk => ?_, h4, h5, h6, h7, h8⟩
  refine Eq.trans ?_ (h3 q k hq hk)
  exact if_neg hk
theorem CQ.cmd {i : Nat} {x : Int32} (h : CQ σ0 σ a j n T p f) : CQ σ0 (si σ (a + 3 + j) i x) a j n T p (upd f i x) := by
  obtain ⟨h1, hj, h2, h3, h4, h5, h6, h7, h8⟩ := h
  refine ⟨h1.cmd, hj, fun k hk => ?_, fun q k hq hk => ?_, h4, h5, h6, h7, h8⟩
  · by_cases e : k = i
    · subst e
      rw [pk_us]; exact u2_s
    · rw [pk_un e]; exact (u2_k e).trans (h2 k hk)
  · exact (u2_a hq).trans (h3 q k hq hk)
theorem CQ.ty (h : CQ σ0 σ a j n T p f) : (mt σ a).1 = 2 := h.1.1.1
theorem CQ.tyc (h : CQ σ0 σ a j n T p f) : (mt σ (a + 3 + j)).1 = 1 := (h.1.1.2.2.2.2.2 j h.2.1).2
theorem CQ.at' (h : CQ σ0 σ a j n T p f) : mi σ a 2 = nI p := h.1.2.2.2.2.1
theorem CQ.pn (h : CQ σ0 σ a j n T p f) : p ≤ n ∧ n ≤ 60 := ⟨h.1.2.2.2.2.2, h.1.2.2.1⟩
theorem CQ.ch (h : CQ σ0 σ a j n T p f) : ∀ i, i < n → 32 ≤ (T i).toInt ∧ (T i).toInt ≤ 126 := fun i hi => (h.1.2.2.2.1 i hi).2
theorem i48_all : ∀ k, k < 127 → (nI k).toInt = k := fun k h => nI_toInt (by omega)
theorem ch_C {x : Int32} (h : 32 ≤ x.toInt ∧ x.toInt ≤ 126) : isC x := by
  obtain ⟨k, hk, rfl⟩ := byte_n (x := x) (by omega) (by omega)
  exact isC_nI (by omega)
theorem kX1_next (gk : GOK G) (h : TQ σ a n T p) (hk : K (.inl (some (vI (nxC n T p)))) σ) : Runs G mX1_next rX1_next [vR (some a)] σ K := by
  obtain ⟨h1, h2, h3, h4, h5, h6⟩ := h
  refine eX1_next gk ⟨_, rfl, h1.1, ?_⟩
  rw [h5, h2]
  refine ⟨fun z => absurd z (nI_pos (by omega)), fun _ => ⟨fun z => ?_, fun z => ⟨a + 1, h1.2.1, 60, h1.2.2.1, fun q => ?_, fun _ => ?_⟩⟩⟩
  · have := (nI_leI (by omega) (by omega)).mp z
    unfold nxC at hk
    rw [if_neg (by omega)] at hk
    exact hk
  · have h9 : ¬ n ≤ p := fun q => z ((nI_leI (by omega) (by omega)).mpr q)
    have := (nI_leI (by omega) (by omega)).mp q
    omega
  · have h9 : ¬ n ≤ p := fun q => z ((nI_leI (by omega) (by omega)).mpr q)
    unfold nxC at hk
    rw [if_pos (by omega)] at hk
    rw [nI_clamp (by omega), (h4 p (by omega)).1]
    exact ⟨nI_in (by omega) (by decide), ch_C (h4 p (by omega)).2, hk⟩
theorem nx_at {c : Int32} (hc : c ≠ 0) : nxC n T p = c ↔ isAt n T p c := by
  unfold nxC
  by_cases h : p < n
  · rw [if_pos h]; exact ⟨fun z => ⟨h, z⟩, fun z => z.2⟩
  · rw [if_neg h]; exact ⟨fun z => absurd z.symm hc, fun z => absurd z.1 h⟩
theorem nx_le : (¬ nxC n T p < 97 ∧ nxC n T p ≤ 122) ↔ isLe n T p := by
  unfold nxC
  by_cases h : p < n
  · rw [if_pos h, Int32.lt_iff_toInt_lt, Int32.le_iff_toInt_le]
    have e1 : ((97 : Int32)).toInt = 97 := by decide
    have e2 : ((122 : Int32)).toInt = 122 := by decide
    rw [e1, e2]
    exact ⟨fun z => ⟨h, by omega, z.2⟩, fun z => ⟨by omega, z.2.2⟩⟩
  · rw [if_neg h]; exact ⟨fun z => absurd (by decide) z.1, fun z => absurd z.1 h⟩
theorem nx_di : (¬ nxC n T p < 48 ∧ ¬ 57 < nxC n T p) ↔ isD n T p := by
  unfold nxC
  by_cases h : p < n
  · rw [if_pos h, Int32.lt_iff_toInt_lt, Int32.lt_iff_toInt_lt]
    have e1 : ((48 : Int32)).toInt = 48 := by decide
    have e2 : ((57 : Int32)).toInt = 57 := by decide
    rw [e1, e2]
    exact ⟨fun z => ⟨h, by omega, by omega⟩, fun z => ⟨by omega, by omega⟩⟩
  · rw [if_neg h]; exact ⟨fun z => absurd (by decide) z.1, fun z => absurd z.1 h⟩
theorem nx_po : (nxC n T p = 114 ∨ nxC n T p = 111 ∨ nxC n T p = 108) ↔ isPo n T p := by
  rw [nx_at (by decide), nx_at (by decide), nx_at (by decide)]
  refine ⟨fun z => ?_, fun z => ?_⟩
  · rcases z with z | z | z
    · exact ⟨z.1, Or.inl z.2⟩
    · exact ⟨z.1, Or.inr (Or.inl z.2)⟩
    · exact ⟨z.1, Or.inr (Or.inr z.2)⟩
  · rcases z with ⟨h, z | z | z⟩
    · exact Or.inl ⟨h, z⟩
    · exact Or.inr (Or.inl ⟨h, z⟩)
    · exact Or.inr (Or.inr ⟨h, z⟩)
theorem nx_p (h : p < n) : nxC n T p = T p := if_pos h
/-- a list of signs read by the class: what its 'read' methods do -/
def RdC (G : GG) (M : SIG) (rm : Room) (as : List VV) (a j : Nat) (l : List It) : Prop := ∀ {σ0 σ : Mm} {n p : Nat} {T f : Nat → Int32} {K : RES → Mm → Prop}, CQ σ0 σ a j n T p f → (∀ σ', CQ σ0 σ' a j n T (run n T l p).1 (runF n T l p f) → K (.inl (some (vI (if (run n T l p).2 = true then 1 else 0)))) σ') → Runs G M rm as σ K
theorem run1 {i : It} : run n T [i] p = if iOk n T p i = true then (p + iW n T p i, true) else (p, false) := rfl
theorem runF1 {i : It} : runF n T [i] p f = if iOk n T p i = true then iU n T p f i else f := rfl
theorem kX1_readSign (gk : GOK G) {c : Int32} (hc : c ≠ 0) : RdC G mX1_readSign rX1_readSign [vR (some a), vI c] a j [iSg c] := by
  intro σ0 σ n p T f K h hk
  refine eX1_readSign gk ⟨_, rfl, h.ty, kX1_next gk h.1 ?_⟩
  refine vX1_readSign_4 gk ⟨fun z => ⟨_, rfl, h.ty, fun σ1 s1 => ?_⟩, fun z => ?_⟩
  · have q : isAt n T p c := (nx_at hc).mp z
    have q' : iOk n T p (iSg c) = true := decide_eq_true q
    have h9 := hk σ1
    rw [run1, runF1, if_pos q', if_pos q'] at h9
    rw [h.at', nI_1] at s1
    exact h9 (s1 ▸ h.set2 q.1)
  · have q : ¬ isAt n T p c := fun q => z ((nx_at hc).mpr q)
    have q' : ¬ iOk n T p (iSg c) = true := fun z => q (of_decide_eq_true z)
    have h9 := hk σ
    rw [run1, runF1, if_neg q', if_neg q'] at h9
    exact h9 h
theorem kX1_readLetter (gk : GOK G) : RdC G mX1_readLetter rX1_readLetter [vR (some a), vR (some (a + 3 + j))] a j [iLe] := by
  intro σ0 σ n p T f K h hk
  have no : ¬ isLe n T p → K (.inl (some (vI 0))) σ := fun q => by
    have q' : ¬ iOk n T p iLe = true := fun z => q (of_decide_eq_true z)
    have h9 := hk σ
    rw [run1, runF1, if_neg q', if_neg q'] at h9
    exact h9 h
  refine eX1_readLetter gk ⟨_, rfl, h.ty, kX1_next gk h.1 ?_⟩
  refine vX1_readLetter_4 gk ⟨fun z => no fun q => (nx_le.mpr q).1 z, fun z => ⟨fun z2 => ?_, fun z2 => no fun q => z2 (nx_le.mpr q).2⟩⟩
  have q : isLe n T p := nx_le.mp ⟨z, z2⟩
  have q' : iOk n T p iLe = true := decide_eq_true q
  rw [nx_p q.1]
  refine ⟨_, rfl, h.tyc, ch_C (h.ch p q.1), fun σ1 s1 => ?_⟩
  have h1 : CQ σ0 σ1 a j n T p (upd f 1 (T p)) := s1 ▸ h.cmd
  refine ⟨_, rfl, h.ty, fun σ2 s2 => ?_⟩
  have h9 := hk σ2
  rw [run1, runF1, if_pos q', if_pos q'] at h9
  rw [h1.at', nI_1] at s2
  exact h9 (s2 ▸ h1.set2 q.1)
theorem kX1_readPolicy (gk : GOK G) : RdC G mX1_readPolicy rX1_readPolicy [vR (some a), vR (some (a + 3 + j))] a j [iPo] := by
  intro σ0 σ n p T f K h hk
  have no : ¬ isPo n T p → K (.inl (some (vI 0))) σ := fun q => by
    have q' : ¬ iOk n T p iPo = true := fun z => q (of_decide_eq_true z)
    have h9 := hk σ
    rw [run1, runF1, if_neg q', if_neg q'] at h9
    exact h9 h
  have yes : isPo n T p → ∃ a2, some (a + 3 + j) = some a2 ∧ (mt σ a2).1 = 1 ∧ isC (nxC n T p) ∧ ∀ σ4, σ4 = si σ a2 4 (nxC n T p) → ∃ a6, some a = some a6 ∧ (mt σ a6).1 = 2 ∧ ∀ σ8, σ8 = si σ4 a6 2 ((mi σ4 a6 2) + 1) → K (.inl (some (vI 1))) σ8 := fun q => by
    have q' : iOk n T p iPo = true := decide_eq_true q
    rw [nx_p q.1]
    refine ⟨_, rfl, h.tyc, ch_C (h.ch p q.1), fun σ1 s1 => ?_⟩
    have h1 : CQ σ0 σ1 a j n T p (upd f 4 (T p)) := s1 ▸ h.cmd
    refine ⟨_, rfl, h.ty, fun σ2 s2 => ?_⟩
    have h9 := hk σ2
    rw [run1, runF1, if_pos q', if_pos q'] at h9
    rw [h1.at', nI_1] at s2
    exact h9 (s2 ▸ h1.set2 q.1)
  refine eX1_readPolicy gk ⟨_, rfl, h.ty, kX1_next gk h.1 ?_⟩
  refine vX1_readPolicy_4 gk ⟨fun z => yes (nx_po.mp (Or.inl z)), fun z1 => ⟨fun z => yes (nx_po.mp (Or.inr (Or.inl z))), fun z2 => ⟨fun z => yes (nx_po.mp (Or.inr (Or.inr z))), fun z3 => no fun q => ?_⟩⟩⟩
  rcases nx_po.mpr q with z | z | z
  · exact z1 z
  · exact z2 z
  · exact z3 z
theorem kX1_isDigit (gk : GOK G) (h1 : isD n T p → K (.inl (some (vI 1))) σ) (h0 : ¬ isD n T p → K (.inl (some (vI 0))) σ) : Runs G mX1_isDigit rX1_isDigit [vI (nxC n T p)] σ K :=
  eX1_isDigit gk ⟨fun z => h0 fun q => (nx_di.mpr q).1 z, fun z => ⟨fun z2 => h0 fun q => (nx_di.mpr q).2 z2, fun z2 => h1 (nx_di.mp ⟨z, z2⟩)⟩⟩
theorem run_cons {i : It} {l : List It} : run n T (i :: l) p = if iOk n T p i = true then run n T l (p + iW n T p i) else (p, false) := rfl
theorem runF_cons {i : It} {l : List It} : runF n T (i :: l) p f = if iOk n T p i = true then runF n T l (p + iW n T p i) (iU n T p f i) else f := rfl
theorem kX1_readDigit (gk : GOK G) : RdC G mX1_readDigit rX1_readDigit [vR (some a), vR (some (a + 3 + j))] a j [iSg 32, iDi] := by
  intro σ0 σ n p T f K h hk
  refine eX1_readDigit gk ⟨_, rfl, h.ty, kX1_readSign gk (by decide) h fun σ1 h1 => ?_⟩
  rw [run1, runF1] at h1
  have h9 := fun σ => hk σ
  simp only [run_cons, runF_cons] at h9
  by_cases q : iOk n T p (iSg 32) = true
  · rw [if_pos q, if_pos q] at h1
    simp only [run1, q, if_true] at h9 ⊢
    have h1 : CQ σ0 σ1 a j n T (p + 1) f := h1
    refine vX1_readDigit_6 gk ⟨fun z => absurd z (by decide), fun _ => ⟨_, rfl, h1.ty, kX1_next gk h1.1 (vX1_readDigit_13 gk (kX1_isDigit gk (fun d => ?_) fun d => ?_))⟩⟩
    · have d' : iOk n T (p + 1) iDi = true := decide_eq_true d
      refine vX1_readDigit_16 gk ⟨fun _ => ⟨_, rfl, h1.ty, kX1_next gk h1.1 (vX1_readDigit_26 gk ⟨_, rfl, h1.tyc, fun σ2 s2 => ?_⟩)⟩, fun z => absurd z (by decide)⟩
      rw [nx_p d.1] at s2
      have h2 : CQ σ0 σ2 a j n T (p + 1) (upd f 2 (T (p + 1) - 48)) := s2 ▸ h1.cmd
      refine ⟨_, rfl, h1.ty, fun σ3 s3 => ?_⟩
      rw [h2.at', nI_1] at s3
      have e : iW n T p (iSg 32) = 1 := rfl
      have h9 := h9 σ3
      rw [e, if_pos d', if_pos d'] at h9
      exact h9 (s3 ▸ h2.set2 d.1)
    · have d' : ¬ iOk n T (p + 1) iDi = true := fun z => d (of_decide_eq_true z)
      refine vX1_readDigit_16 gk ⟨fun z => absurd rfl z, fun _ => ?_⟩
      have e : iW n T p (iSg 32) = 1 := rfl
      have h9 := h9 σ1
      rw [e, if_neg d', if_neg d'] at h9
      exact h9 h1
  · rw [if_neg q, if_neg q] at h1
    simp only [run1, q] at h9 ⊢
    exact vX1_readDigit_6 gk ⟨fun _ => h9 σ1 h1, fun z => absurd rfl z⟩
theorem kX1_readNumber (gk : GOK G) : RdC G mX1_readNumber rX1_readNumber [vR (some a), vR (some (a + 3 + j))] a j [iSg 32, iNu] := by
  intro σ0 σ n p T f K h hk
  refine eX1_readNumber gk ⟨_, rfl, h.ty, kX1_readSign gk (by decide) h fun σ1 h1 => ?_⟩
  rw [run1, runF1] at h1
  have h9 := fun σ => hk σ
  simp only [run_cons, runF_cons] at h9
  by_cases q : iOk n T p (iSg 32) = true
  · rw [if_pos q, if_pos q] at h1
    simp only [run1, q, if_true] at h9 ⊢
    have h1 : CQ σ0 σ1 a j n T (p + 1) f := h1
    have e : iW n T p (iSg 32) = 1 := rfl
    refine vX1_readNumber_6 gk ⟨fun z => absurd z (by decide), fun _ => ⟨_, rfl, h1.ty, kX1_next gk h1.1 (vX1_readNumber_13 gk (kX1_isDigit gk (fun d => ?_) fun d => ?_))⟩⟩
    · have d' : iOk n T (p + 1) iNu = true := decide_eq_true d
      rw [e] at h9
      simp only [d', if_true] at h9
      refine vX1_readNumber_16 gk ⟨fun _ => ⟨_, rfl, h1.ty, kX1_next gk h1.1 (vX1_readNumber_26 gk ⟨_, rfl, h1.tyc, fun σ2 s2 => ?_⟩)⟩, fun z => absurd z (by decide)⟩
      rw [nx_p d.1] at s2
      have h2 : CQ σ0 σ2 a j n T (p + 1) (upd f 3 (T (p + 1) - 48)) := s2 ▸ h1.cmd
      refine ⟨_, rfl, h1.ty, fun σ3 s3 => ?_⟩
      rw [h2.at', nI_1] at s3
      have h3 : CQ σ0 σ3 a j n T (p + 1 + 1) (upd f 3 (T (p + 1) - 48)) := s3 ▸ h2.set2 d.1
      refine kX1_next gk h3.1 (vX1_readNumber_46 gk (kX1_isDigit gk (fun d2 => ?_) fun d2 => ?_))
      · refine vX1_readNumber_49 gk ⟨fun z => absurd z (by decide), fun _ => ⟨_, rfl, h3.tyc, _, rfl, h3.ty, kX1_next gk h3.1 (vX1_readNumber_64 gk ⟨_, rfl, h3.tyc, fun σ4 s4 => ?_⟩)⟩⟩
        rw [nx_p d2.1, h3.2.2.1 3 (by decide), pk_us] at s4
        have h4 := s4 ▸ h3.cmd (i := 3) (x := (T (p + 1) - 48) * 10 + (T (p + 1 + 1) - 48))
        refine ⟨_, rfl, h3.ty, fun σ5 s5 => ?_⟩
        rw [h4.at', nI_1] at s5
        have h5 := s5 ▸ h4.set2 (q := p + 1 + 1 + 1) d2.1
        have e2 : iW n T (p + 1) iNu = 2 := if_pos d2
        have e3 : iU n T (p + 1) (iU n T p f (iSg 32)) iNu = upd (upd f 3 (T (p + 1) - 48)) 3 ((T (p + 1) - 48) * 10 + (T (p + 1 + 1) - 48)) := by
          show upd f 3 (nv n T (p + 1)) = _
          rw [show ∀ x y : Int32, upd (upd f 3 x) 3 y = upd f 3 y from fun x y => funext fun i => by unfold upd; split <;> rfl]
          unfold nv
          rw [if_pos d2]
        have h9 := h9 σ5
        rw [e2] at h9
        simp only [run, runF, if_true] at h9
        rw [e3] at h9
        exact h9 h5
      · refine vX1_readNumber_49 gk ⟨fun _ => ?_, fun z => absurd rfl z⟩
        have e2 : iW n T (p + 1) iNu = 1 := if_neg d2
        have e3 : iU n T (p + 1) (iU n T p f (iSg 32)) iNu = upd f 3 (T (p + 1) - 48) := by
          show upd f 3 (nv n T (p + 1)) = _
          unfold nv
          rw [if_neg d2]
        have h9 := h9 σ3
        rw [e2] at h9
        simp only [run, runF, if_true] at h9
        rw [e3] at h9
        exact h9 h3
    · have d' : ¬ iOk n T (p + 1) iNu = true := fun z => d (of_decide_eq_true z)
      refine vX1_readNumber_16 gk ⟨fun z => absurd rfl z, fun _ => ?_⟩
      have h9 := h9 σ1
      rw [e, if_neg d', if_neg d'] at h9
      exact h9 h1
  · rw [if_neg q, if_neg q] at h1
    simp only [run1, q] at h9 ⊢
    exact vX1_readNumber_6 gk ⟨fun _ => h9 σ1 h1, fun z => absurd rfl z⟩
/-- how many signs of a constant stand at start -/
theorem kX1_countSame_2 (gk : GOK G) (sok : SOK G) {q v : Nat} {bs : List Int32} (hs : STV G q v bs.length (fun i => bs.getD i 0)) (hb : ∀ i, i < bs.length → bs.getD i 0 ≠ 0 ∧ 0 ≤ (bs.getD i 0).toInt ∧ (bs.getD i 0).toInt < 128) (hl : bs.length < 100) {p0 : Nat} (hk : ∀ σ' p', CQ σ0 σ' a j n T p' f → K (.inl (some (vI (nI (cs n T bs p0))))) σ') :
    ∀ (d i : Nat), i + d = bs.length → cs n T bs p0 = i + cs n T (bs.drop i) (p0 + i) → p0 + i ≤ n → ∀ σ p, CQ σ0 σ a j n T p f → At G mX1_countSame rX1_countSame 0 0 2 [some (vR (some a)), some (vR (some q)), some (vI (nI p0)), some (vI (nI i))] [] σ K
  | 0, i, hd, hc, hi, σ, p, h => by
    have e : i = bs.length := by omega
    refine vX1_countSame_2 gk ⟨q, rfl, hs.1, kJ0_length gk sok hs (vX1_countSame_7 gk ⟨fun _ => ⟨q, rfl, hs.1, kJ0_length gk sok hs (vX1_countSame_41 gk ?_)⟩, fun z => absurd (nI_le (by omega) (by omega)) z⟩)⟩
    have h9 := hk σ p h
    rw [hc, e, List.drop_length] at h9
    exact h9
  | d + 1, i, hd, hc, hi, σ, p, h => by
    have hpn := h.pn
    have hil : i < bs.length := by omega
    refine vX1_countSame_2 gk ⟨q, rfl, hs.1, kJ0_length gk sok hs (vX1_countSame_7 gk ⟨fun z => absurd z (nI_ge (by omega) (by omega)), fun _ => ⟨_, rfl, h.ty, fun σ1 s1 => ?_⟩⟩)⟩
    rw [nI_add] at s1
    have h1 : CQ σ0 σ1 a j n T (p0 + i) f := s1 ▸ h.set2 hi
    have hbi := hb i hil
    have hby := byc hbi.2.1 hbi.2.2
    have hdr : bs.drop i = bs.getD i 0 :: bs.drop (i + 1) := by
      rw [List.drop_eq_getElem_cons hil, List.getD_eq_getElem?_getD, List.getElem?_eq_getElem hil]
      rfl
    refine kX1_next gk h1.1 (vX1_countSame_21 gk ⟨q, rfl, hs.1, kJ0_charAt gk sok hs hil (by omega) hby.1 hby.2 (vX1_countSame_26 gk ⟨fun z => ?_, fun z => ?_⟩)⟩)
    · have q2 : isAt n T (p0 + i) (bs.getD i 0) := (nx_at hbi.1).mp z
      rw [nI_1]
      refine kX1_countSame_2 gk sok hs hb hl hk d (i + 1) (by omega) ?_ q2.1 σ1 _ h1
      rw [hc, hdr, cs_1 q2]
      show i + (1 + cs n T (bs.drop (i + 1)) (p0 + i + 1)) = i + 1 + cs n T (bs.drop (i + 1)) (p0 + (i + 1))
      rw [show p0 + i + 1 = p0 + (i + 1) by omega]
      omega
    · have q2 : ¬ isAt n T (p0 + i) (bs.getD i 0) := fun q2 => z ((nx_at hbi.1).mpr q2)
      have h9 := hk σ1 _ h1
      rw [hc, hdr, cs_0 q2] at h9
      exact h9
theorem kX1_countSame (gk : GOK G) (sok : SOK G) {q v : Nat} {bs : List Int32} (hs : STV G q v bs.length (fun i => bs.getD i 0)) (hb : ∀ i, i < bs.length → bs.getD i 0 ≠ 0 ∧ 0 ≤ (bs.getD i 0).toInt ∧ (bs.getD i 0).toInt < 128) (hl : bs.length < 100) {p0 : Nat} (h : CQ σ0 σ a j n T p f) (hp : p0 ≤ n) (hk : ∀ σ' p', CQ σ0 σ' a j n T p' f → K (.inl (some (vI (nI (cs n T bs p0))))) σ') : Runs G mX1_countSame rX1_countSame [vR (some a), vR (some q), vI (nI p0)] σ K :=
  eX1_countSame gk (kX1_countSame_2 gk sok hs hb hl hk bs.length 0 (by omega) (by simp) hp σ p h)
theorem kw_b : ∀ k, k < 9 → ∀ i, i < (kw k).length → (kw k).getD i 0 ≠ 0 ∧ 0 ≤ ((kw k).getD i 0).toInt ∧ ((kw k).getD i 0).toInt < 128 := by decide +kernel
theorem kw_l : ∀ k, k < 9 → (kw k).length < 100 ∧ 0 < (kw k).length := by decide +kernel
theorem kX1_keywordOf (gk : GOK G) (sok : SOK G) {k : Nat} (hk : k < 9) (h : ∀ q v, STV G q v (kw k).length (fun i => (kw k).getD i 0) → K (.inl (some (vR (some q)))) σ) : Runs G mX1_keywordOf rX1_keywordOf [vI (nI k)] σ K := by
  refine eX1_keywordOf gk sok ?_
  rw [nI_toInt (by omega)]
  refine ⟨fun z q s => ?_, fun z q s => ?_, fun z q s => ?_, fun z q s => ?_, fun z q s => ?_, fun z q s => ?_, fun z q s => ?_, fun z q s => ?_, fun z q s => ?_⟩
  · obtain rfl : k = 8 := by omega
    obtain ⟨v, s⟩ := s
    exact h q v s
  all_goals
    obtain ⟨v, s⟩ := s
  · obtain rfl : k = 0 := (nI_eq (by omega) (by omega)).mp z
    exact h q v s
  · obtain rfl : k = 1 := (nI_eq (by omega) (by omega)).mp z
    exact h q v s
  · obtain rfl : k = 2 := (nI_eq (by omega) (by omega)).mp z
    exact h q v s
  · obtain rfl : k = 3 := (nI_eq (by omega) (by omega)).mp z
    exact h q v s
  · obtain rfl : k = 4 := (nI_eq (by omega) (by omega)).mp z
    exact h q v s
  · obtain rfl : k = 5 := (nI_eq (by omega) (by omega)).mp z
    exact h q v s
  · obtain rfl : k = 6 := (nI_eq (by omega) (by omega)).mp z
    exact h q v s
  · obtain rfl : k = 7 := (nI_eq (by omega) (by omega)).mp z
    exact h q v s
theorem kX1_readKeyword_9 (gk : GOK G) (sok : SOK G) {p0 : Nat} (hp : p0 ≤ n) (hk1 : cs n T (kw (kd n T p0)) p0 = (kw (kd n T p0)).length → ∀ σ', CQ σ0 σ' a j n T (p0 + (kw (kd n T p0)).length) f → K (.inl (some (vI (nI (kd n T p0))))) σ') (hk0 : cs n T (kw (kd n T p0)) p0 ≠ (kw (kd n T p0)).length → ∀ σ', CQ σ0 σ' a j n T (p0 + cs n T (kw (kd n T p0)) p0) f → K (.inl (some (vI (-1)))) σ') :
    ∀ (d i m : Nat), i + d = 9 → (∀ k, k < i → cs n T (kw k) p0 ≤ m ∧ cs n T (kw k) p0 < (kw k).length) → (m = 0 ∨ ∃ k, k < i ∧ m = cs n T (kw k) p0) → ∀ σ p, CQ σ0 σ a j n T p f → At G mX1_readKeyword rX1_readKeyword 0 0 9 [some (vR (some a)), some (vI (nI p0)), some (vI (nI m)), some (vI (nI i)), none, none] [] σ K
  | 0, i, m, hd, hm, hm', σ, p, h => by
    obtain rfl : i = 9 := by omega
    have hkd := kd_lt (n := n) (T := T) p0
    have e : m = cs n T (kw (kd n T p0)) p0 := by
      have h1 := (hm _ hkd).1
      rcases hm' with rfl | ⟨k, hk, rfl⟩
      · omega
      · by_cases e : k = kd n T p0
        · rw [e]
        · have := (kw_best p0 k hk e).1; omega
    refine vX1_readKeyword_9 gk ⟨fun _ => ⟨_, rfl, h.ty, fun σ1 s1 => ?_⟩, fun z => absurd (Int32.le_refl _) z⟩
    rw [nI_add, e] at s1
    exact hk0 (Nat.ne_of_lt (hm _ hkd).2) σ1 (s1 ▸ h.set2 (cs_n _ _ hp))
  | d + 1, i, m, hd, hm, hm', σ, p, h => by
    have hi : i < 9 := by omega
    have hpn := h.pn
    refine vX1_readKeyword_9 gk ⟨fun z => absurd z (nI_ge (a := i) (b := 9) (by omega) (by decide)), fun _ => kX1_keywordOf gk sok hi fun q v hs => vX1_readKeyword_19 gk ⟨_, rfl, h.ty, kX1_countSame gk sok hs (kw_b i hi) (kw_l i hi).1 h hp fun σ1 p1 h1 => vX1_readKeyword_28 gk ⟨q, rfl, hs.1, kJ0_length gk sok hs (vX1_readKeyword_37 gk ⟨fun z => ?_, fun z => ⟨_, rfl, h1.ty, fun σ2 s2 => ?_⟩⟩)⟩⟩⟩
    · have hc := cs_le (n := n) (T := T) (kw i) p0
      have hl := (kw_l i hi).1
      have hne : cs n T (kw i) p0 ≠ (kw i).length := fun e => z (by rw [e])
      have hm2 : m < 100 := by
        rcases hm' with rfl | ⟨k, hk, rfl⟩
        · decide
        · have := (hm k hk).2; have := (kw_l k (by omega)).1; omega
      refine kJ9_max gk (by omega) (by omega) (vX1_readKeyword_56 gk ?_)
      rw [nI_1]
      refine kX1_readKeyword_9 gk sok hp hk1 hk0 d (i + 1) (max m (cs n T (kw i) p0)) (by omega) (fun k hk => ?_) ?_ σ1 p1 h1
      · by_cases e : k = i
        · subst e
          exact ⟨Nat.le_max_right _ _, by omega⟩
        · have := hm k (by omega)
          exact ⟨Nat.le_trans this.1 (Nat.le_max_left _ _), this.2⟩
      · by_cases e : m ≤ cs n T (kw i) p0
        · rw [Nat.max_eq_right e]
          exact Or.inr ⟨i, by omega, rfl⟩
        · rw [Nat.max_eq_left (by omega)]
          rcases hm' with h0 | ⟨k, hk, e⟩
          · exact Or.inl h0
          · exact Or.inr ⟨k, by omega, e⟩
    · have hc := cs_le (n := n) (T := T) (kw i) p0
      have hl := (kw_l i hi).1
      have e : cs n T (kw i) p0 = (kw i).length := (nI_eq (by omega) (by omega)).mp z
      have ek : i = kd n T p0 := Classical.byContradiction fun q => by
        have := (kw_best p0 i hi q).2; omega
      rw [nI_add, e] at s2
      rw [ek] at e s2
      rw [ek]
      have h2 := h1.set2 (q := p0 + (kw (kd n T p0)).length) (by rw [← e]; exact cs_n _ _ hp)
      exact hk1 e σ2 (s2 ▸ h2)
theorem kX1_readKeyword (gk : GOK G) (sok : SOK G) (h : CQ σ0 σ a j n T p f) (hk1 : cs n T (kw (kd n T p)) p = (kw (kd n T p)).length → ∀ σ', CQ σ0 σ' a j n T (p + (kw (kd n T p)).length) f → K (.inl (some (vI (nI (kd n T p))))) σ') (hk0 : cs n T (kw (kd n T p)) p ≠ (kw (kd n T p)).length → ∀ σ', CQ σ0 σ' a j n T (p + cs n T (kw (kd n T p)) p) f → K (.inl (some (vI (-1)))) σ') : Runs G mX1_readKeyword rX1_readKeyword [vR (some a)] σ K := by
  refine eX1_readKeyword gk ⟨_, rfl, h.ty, ?_⟩
  rw [h.at']
  exact kX1_readKeyword_9 gk sok h.pn.1 hk1 hk0 9 0 0 rfl (fun k hk => absurd hk (Nat.not_lt_zero _)) (Or.inl rfl) σ p h
theorem run_t {l m : List It} (h : (run n T l p).2 = true) : run n T (l ++ m) p = run n T m (run n T l p).1 := by rw [run_app, if_pos h]
theorem run_f {l m : List It} (h : ¬ (run n T l p).2 = true) : run n T (l ++ m) p = run n T l p := by rw [run_app, if_neg h]
theorem runF_t {l m : List It} (h : (run n T l p).2 = true) : runF n T (l ++ m) p f = runF n T m (run n T l p).1 (runF n T l p f) := by rw [runF_app, if_pos h]
theorem runF_f {l m : List It} (h : ¬ (run n T l p).2 = true) : runF n T (l ++ m) p f = runF n T l p f := by rw [runF_app, if_neg h]
/-- one list of signs, then another: what 'A && B' does -/
def OutC (σ0 : Mm) (a j n : Nat) (T : Nat → Int32) (l : List It) (p : Nat) (f : Nat → Int32) (K : RES → Mm → Prop) : Prop := ∀ σ', CQ σ0 σ' a j n T (run n T l p).1 (runF n T l p f) → K (.inl (some (vI (if (run n T l p).2 = true then 1 else 0)))) σ'
theorem out_and {M : SIG} {rm : Room} {as : List VV} {l m : List It} (hk : OutC σ0 a j n T (l ++ m) p f K) {K' : RES → Mm → Prop} (hA : OutC σ0 a j n T l p f K' → Runs G M rm as σ K')
    (hf : ∀ σ', K (.inl (some (vI 0))) σ' → K' (.inl (some (vI 0))) σ') (ht : ∀ σ' p' f', CQ σ0 σ' a j n T p' f' → OutC σ0 a j n T m p' f' K → K' (.inl (some (vI 1))) σ') : Runs G M rm as σ K' := by
  refine hA fun σ1 h1 => ?_
  by_cases q : (run n T l p).2 = true
  · rw [if_pos q]
    refine ht σ1 _ _ h1 fun σ2 h2 => ?_
    have := hk σ2
    rw [run_t q, runF_t q] at this
    exact this h2
  · rw [if_neg q]
    refine hf σ1 ?_
    have := hk σ1
    rw [run_f q, runF_f q, if_neg q] at this
    exact this h1
theorem fin01 {c : Prop} [Decidable c] {P : Int32 → Prop} (h : P (if c then 1 else 0)) : ((if c then (1 : Int32) else 0) = 0 → P 0) ∧ (¬ (if c then (1 : Int32) else 0) = 0 → P 1) := by
  split at h
  · rename_i q
    rw [if_pos q]
    exact ⟨fun z => absurd z (by decide), fun _ => h⟩
  · rename_i q
    rw [if_neg q]
    exact ⟨fun _ => h, fun z => absurd rfl z⟩
theorem isZ_01 {c : Prop} [Decidable c] : isZ (if c then (1 : Int32) else 0) := by
  split
  · exact Or.inr rfl
  · exact Or.inl rfl
theorem kX1_readCommand_5 (gk : GOK G) {k : Nat} (hk : k < 9) (h : CQ σ0 σ a j n T p f) (hO : OutC σ0 a j n T (its k) p (upd f 0 (nI k)) K) : At G mX1_readCommand rX1_readCommand 0 0 5 [some (vR (some a)), some (vR (some (a + 3 + j)))] [vI (nI k), vR (some (a + 3 + j))] σ K := by
  refine vX1_readCommand_5 gk ⟨_, rfl, h.tyc, fun σ1 s1 => ⟨_, rfl, h.tyc, ?_⟩⟩
  have h1 : CQ σ0 σ1 a j n T p (upd f 0 (nI k)) := s1 ▸ h.cmd
  have e : mi σ1 (a + 3 + j) 0 = nI k := by rw [h1.2.2.1 0 (by decide), pk_us]
  rw [e, nI_toInt (by omega)]
  -- the last list of signs of each kind
  have L : ∀ {σ' : Mm} {p' : Nat} {f' : Nat → Int32} {l : List It} {K' : RES → Mm → Prop}, (∀ s0 σ'', isZ s0 → ((s0 = 0 → K (.inl (some (vI 0))) σ'') ∧ (¬ s0 = 0 → K (.inl (some (vI 1))) σ'')) → K (.inl (some (vI s0))) σ'' → K' (.inl (some (vI s0))) σ'') → CQ σ0 σ' a j n T p' f' → OutC σ0 a j n T l p' f' K → OutC σ0 a j n T l p' f' K' := fun hK' _ ho σ'' h'' => hK' _ _ isZ_01 (fin01 (P := fun x => K (.inl (some (vI x))) σ'') (ho σ'' h'')) (ho σ'' h'')
  have A0 : OutC σ0 a j n T ([iLe] ++ [iSg 32, iNu]) p (upd f 0 (nI k)) K → ∃ a8, some a = some a8 ∧ (mt σ a8).1 = 2 ∧ Runs G mX1_readLetter rX1_readLetter [vR (some a), vR (some (a + 3 + j))] σ1 (bk G mX1_readCommand rX1_readCommand 0 0 69 [some (vR (some a)), some (vR (some (a + 3 + j)))] [] K) := fun ho => ⟨_, rfl, h.ty, out_and ho (fun hA => kX1_readLetter gk h1 hA) (fun σ' z => vX1_readCommand_69 gk ⟨fun _ => z, fun z => absurd rfl z⟩) fun σ2 p2 f2 h2 ho2 => vX1_readCommand_69 gk ⟨fun z => absurd z (by decide), fun _ => ⟨_, rfl, h2.ty, kX1_readNumber gk h2 (L (fun s0 _ _ z _ => vX1_readCommand_77 gk z) h2 ho2)⟩⟩⟩
  have A6 : OutC σ0 a j n T [iSg 32, iDi] p (upd f 0 (nI k)) K → ∃ a8, some a = some a8 ∧ (mt σ a8).1 = 2 ∧ Runs G mX1_readDigit rX1_readDigit [vR (some a), vR (some (a + 3 + j))] σ1 (bk G mX1_readCommand rX1_readCommand 0 0 206 [some (vR (some a)), some (vR (some (a + 3 + j)))] [] K) := fun ho => ⟨_, rfl, h.ty, kX1_readDigit gk h1 (L (fun s0 _ z1 _ z => vX1_readCommand_206 gk ⟨z1, z⟩) h1 ho)⟩
  refine ⟨fun z => by omega, fun z => ?_, fun z => ?_, fun z => ?_, fun z => ?_, fun z => ?_, fun z => ?_, fun z => ?_, fun z => ?_, fun z => ?_⟩
  · obtain rfl : k = 0 := (nI_eq (by omega) (by omega)).mp z
    exact A0 hO
  · obtain rfl : k = 1 := (nI_eq (by omega) (by omega)).mp z
    exact A0 hO
  · obtain rfl : k = 2 := (nI_eq (by omega) (by omega)).mp z
    exact ⟨_, rfl, h.ty, kX1_readLetter gk h1 (L (l := [iLe]) (fun s0 _ z1 _ z => vX1_readCommand_91 gk ⟨z1, z⟩) h1 hO)⟩
  · obtain rfl : k = 3 := (nI_eq (by omega) (by omega)).mp z
    have ho : OutC σ0 a j n T ([iSg 32, iDi] ++ ([iSg 32, iNu] ++ ([iSg 32] ++ [iPo]))) p (upd f 0 (nI 3)) K := hO
    refine ⟨_, rfl, h.ty, out_and ho (fun hA => kX1_readDigit gk h1 hA) (fun σ' z => vX1_readCommand_97 gk ⟨fun _ => z, fun z => absurd rfl z⟩) fun σ2 p2 f2 h2 ho2 => vX1_readCommand_97 gk ⟨fun z => absurd z (by decide), fun _ => ⟨_, rfl, h2.ty, ?_⟩⟩⟩
    refine out_and ho2 (fun hA => kX1_readNumber gk h2 hA) (fun σ' z => vX1_readCommand_105 gk ⟨fun _ => z, fun z => absurd rfl z⟩) fun σ3 p3 f3 h3 ho3 => vX1_readCommand_105 gk ⟨fun z => absurd z (by decide), fun _ => ⟨_, rfl, h3.ty, ?_⟩⟩
    refine out_and ho3 (fun hA => kX1_readSign gk (by decide) h3 hA) (fun σ' z => vX1_readCommand_114 gk ⟨fun _ => z, fun z => absurd rfl z⟩) fun σ4 p4 f4 h4 ho4 => vX1_readCommand_114 gk ⟨fun z => absurd z (by decide), fun _ => ⟨_, rfl, h4.ty, ?_⟩⟩
    exact kX1_readPolicy gk h4 (L (l := [iPo]) (fun s0 _ _ z _ => vX1_readCommand_122 gk z) h4 ho4)
  · obtain rfl : k = 4 := (nI_eq (by omega) (by omega)).mp z
    have ho : OutC σ0 a j n T ([iSg 32, iDi] ++ ([iSg 32] ++ [iLe])) p (upd f 0 (nI 4)) K := hO
    refine ⟨_, rfl, h.ty, out_and ho (fun hA => kX1_readDigit gk h1 hA) (fun σ' z => vX1_readCommand_136 gk ⟨fun _ => z, fun z => absurd rfl z⟩) fun σ2 p2 f2 h2 ho2 => vX1_readCommand_136 gk ⟨fun z => absurd z (by decide), fun _ => ⟨_, rfl, h2.ty, ?_⟩⟩⟩
    refine out_and ho2 (fun hA => kX1_readSign gk (by decide) h2 hA) (fun σ' z => vX1_readCommand_145 gk ⟨fun _ => z, fun z => absurd rfl z⟩) fun σ3 p3 f3 h3 ho3 => vX1_readCommand_145 gk ⟨fun z => absurd z (by decide), fun _ => ⟨_, rfl, h3.ty, ?_⟩⟩
    exact kX1_readLetter gk h3 (L (l := [iLe]) (fun s0 _ _ z _ => vX1_readCommand_153 gk z) h3 ho3)
  · obtain rfl : k = 5 := (nI_eq (by omega) (by omega)).mp z
    have ho : OutC σ0 a j n T ([iSg 32, iDi] ++ ([iSg 32] ++ ([iLe] ++ [iSg 32, iNu]))) p (upd f 0 (nI 5)) K := hO
    refine ⟨_, rfl, h.ty, out_and ho (fun hA => kX1_readDigit gk h1 hA) (fun σ' z => vX1_readCommand_167 gk ⟨fun _ => z, fun z => absurd rfl z⟩) fun σ2 p2 f2 h2 ho2 => vX1_readCommand_167 gk ⟨fun z => absurd z (by decide), fun _ => ⟨_, rfl, h2.ty, ?_⟩⟩⟩
    refine out_and ho2 (fun hA => kX1_readSign gk (by decide) h2 hA) (fun σ' z => vX1_readCommand_176 gk ⟨fun _ => z, fun z => absurd rfl z⟩) fun σ3 p3 f3 h3 ho3 => vX1_readCommand_176 gk ⟨fun z => absurd z (by decide), fun _ => ⟨_, rfl, h3.ty, ?_⟩⟩
    refine out_and ho3 (fun hA => kX1_readLetter gk h3 hA) (fun σ' z => vX1_readCommand_184 gk ⟨fun _ => z, fun z => absurd rfl z⟩) fun σ4 p4 f4 h4 ho4 => vX1_readCommand_184 gk ⟨fun z => absurd z (by decide), fun _ => ⟨_, rfl, h4.ty, ?_⟩⟩
    exact kX1_readNumber gk h4 (L (fun s0 _ _ z _ => vX1_readCommand_192 gk z) h4 ho4)
  · obtain rfl : k = 6 := (nI_eq (by omega) (by omega)).mp z
    exact A6 hO
  · obtain rfl : k = 7 := (nI_eq (by omega) (by omega)).mp z
    exact A6 hO
  · obtain rfl : k = 8 := (nI_eq (by omega) (by omega)).mp z
    exact ⟨_, rfl, h.ty, kX1_readNumber gk h1 (L (fun s0 _ z1 _ z => vX1_readCommand_212 gk ⟨z1, z⟩) h1 hO)⟩
/-- what a command that stands at p leaves in its object -/
def FU (n : Nat) (T : Nat → Int32) (p : Nat) (f : Nat → Int32) : Nat → Int32 := runF n T (its (kd n T p)) (p + (kw (kd n T p)).length) (upd f 0 (nI (kd n T p)))
theorem kX1_readCommand (gk : GOK G) (sok : SOK G) (h : CQ σ0 σ a j n T p f) (h1 : (run n T (fu (kd n T p)) p).2 = true → ∀ σ', CQ σ0 σ' a j n T (run n T (fu (kd n T p)) p).1 (FU n T p f) → K (.inl (some (vI 1))) σ') (h0 : ¬ (run n T (fu (kd n T p)) p).2 = true → ∀ σ' f', CQ σ0 σ' a j n T (run n T (fu (kd n T p)) p).1 f' → K (.inl (some (vI 0))) σ') : Runs G mX1_readCommand rX1_readCommand [vR (some a), vR (some (a + 3 + j))] σ K := by
  obtain ⟨r1, r2⟩ := run_sg (n := n) (T := T) (kw (kd n T p)) p
  refine eX1_readCommand gk ⟨_, rfl, h.ty, kX1_readKeyword gk sok h (fun q σ1 hc => ?_) fun q σ1 hc => ?_⟩
  · refine kX1_readCommand_5 gk (kd_lt p) hc fun σ2 h2 => ?_
    have e : run n T (fu (kd n T p)) p = run n T (its (kd n T p)) (p + (kw (kd n T p)).length) := by
      unfold fu
      rw [run_t (r2.mpr q), r1, q]
    rw [e] at h1 h0
    by_cases w : (run n T (its (kd n T p)) (p + (kw (kd n T p)).length)).2 = true
    · rw [if_pos w]
      exact h1 w σ2 h2
    · rw [if_neg w]
      exact h0 w σ2 _ h2
  · have w : ¬ (run n T ((kw (kd n T p)).map iSg) p).2 = true := fun z => q (r2.mp z)
    have e : run n T (fu (kd n T p)) p = run n T ((kw (kd n T p)).map iSg) p := by
      unfold fu
      rw [run_f w]
    rw [e] at h0
    rw [r1] at h0
    refine vX1_readCommand_5 gk ⟨_, rfl, hc.tyc, fun σ2 s2 => ⟨_, rfl, hc.tyc, ?_⟩⟩
    have h2 : CQ σ0 σ2 a j n T _ (upd f 0 (-1)) := s2 ▸ hc.cmd
    have e2 : mi σ2 (a + 3 + j) 0 = -1 := by rw [h2.2.2.1 0 (by decide), pk_us]
    rw [e2]
    exact ⟨fun _ => h0 w σ2 _ h2, fun z => absurd z (by decide), fun z => absurd z (by decide), fun z => absurd z (by decide), fun z => absurd z (by decide), fun z => absurd z (by decide), fun z => absurd z (by decide), fun z => absurd z (by decide), fun z => absurd z (by decide), fun z => absurd z (by decide)⟩
end TXC
