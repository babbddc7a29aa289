/-! ===== the class: undo, snapshots, typing ===== -/
/-- with another row, history, snapshot -/
def Asn (A : AS) (P : Nat → Int32) (j : Nat) (sv : Int32) (V : Nat → Int32) : AS := (P, aW A, j, sv, V, A.2.2.2.2.2)
/-- with another text -/
def Atx (A : AS) (n : Nat) (t : Nat → Int32) : AS := (A.1, A.2.1, A.2.2.1, A.2.2.2.1, A.2.2.2.2.1, A.2.2.2.2.2.1, A.2.2.2.2.2.2.1, n, t, A.2.2.2.2.2.2.2.2.2)
/-- with another error position, failed command -/
def Aer (A : AS) (ea fa : Int32) : AS := (A.1, A.2.1, A.2.2.1, A.2.2.2.1, A.2.2.2.2.1, ea, fa, A.2.2.2.2.2.2.2)
/-- with another line -/
def Aln (A : AS) (n : Nat) (t : Nat → Int32) : AS := (A.1, A.2.1, A.2.2.1, A.2.2.2.1, A.2.2.2.2.1, A.2.2.2.2.2.1, A.2.2.2.2.2.2.1, A.2.2.2.2.2.2.2.1, A.2.2.2.2.2.2.2.2.1, n, t)
section UE
variable {G : GG} {σ : Mm} {K : RES → Mm → Prop} {x b : Nat} {A : AS}
theorem RS.ty {P : Nat → Int32} {st : Nat} (h : RS σ st P b) : (mt σ st).1 = 7 := by
  obtain ⟨ω, ρ, n, m, hV, -⟩ := h
  exact hV.s.ty
theorem SHP.ty {st : Nat} (h : SHP σ st) : (mt σ st).1 = 7 := by
  obtain ⟨ω, ρ, h⟩ := h
  exact h.ty
theorem cCountJars (gk : GOK G) {st : Nat} {P : Nat → Int32} (h : RS σ st P b) (hk : K (.inl (some (vI (nI (jrN P))))) σ) : Runs G mX6_countJars rX6_countJars [vR (some st)] σ K := by
  obtain ⟨ω, ρ, n, m, hV, -⟩ := h
  exact kX6_countJars gk hV.s hV.j hV.z hk
theorem c_undo (gk : GOK G) (hst : STR G) (hC : CIV σ x A b) (h1 : aj A = 0 → ∀ k, K (.inr "java/lang/IllegalStateException") (sk σ k)) (hk : 0 < aj A → ∀ σ', CIV σ' x (Asn A (aW A (aj A - 1)) (aj A - 1) (asv A) (aV A)) b → Fc σ σ' x → K (.inl (some (vI (nI (aj A - 1))))) σ') : Runs G mX8_undo rX8_undo [vR (some x)] σ K := by
  obtain ⟨hX, hR, hH, hS, hE, hT, hL⟩ := id hC
  obtain ⟨hSh, f, c1, c2, c3, c4, c5⟩ := id hH
  refine eX8_undo gk hst ⟨_, rfl, hX.1, _, hX.2.2.1, hSh.1, fun q => ?_, fun q => h1 ?_⟩
  · have hj : 0 < aj A := by
      rcases Nat.eq_zero_or_pos (aj A) with z | z
      · rw [c2, z] at q; exact absurd rfl q
      · exact z
    rw [hX.2.1, hX.2.2.1]
    refine kX3_goBack gk (j := aj A - 1) (by rw [show aj A - 1 + 1 = aj A by omega]; exact hH) hR.shp (by omega) fun σ1 hH1 hR1 g1 g2 g3 g4 => ?_
    have e : ∀ q, q ≠ x + 71 → q < x + 1 ∨ x + 71 ≤ q → mi σ1 q = mi σ q ∧ mr σ1 q = mr σ q ∧ mt σ1 q = mt σ q := fun q q1 q2 => ⟨g1 q q1 (by omega), by rw [g2], by rw [g3]⟩
    obtain ⟨a1, a2, a3⟩ := e x (by omega) (by omega)
    have hX1 : CS σ1 x := hX.loc a2 a3
    obtain ⟨hSh1, f1, d1, d2, -⟩ := id hH1
    refine vX8_undo_32 gk ⟨_, rfl, hX1.1, _, hX1.2.2.1, hSh1.1, ?_⟩
    rw [d2]
    exact hk hj σ1 ⟨hX1, hR1, hH1, hS.loc (by rw [a1]) fun q q1 q2 => e q (by omega) (by omega), by rw [a1]; exact hE, hT.loc fun q q1 q2 => e q (by omega) (by omega), hL.loc fun q q1 => e q (by omega) (by omega)⟩ ⟨fun q hq => by
      obtain ⟨a1, a2, a3⟩ := e q (by omega) (by omega)
      exact ⟨a1, a2⟩, g4.1, g4.2.1, g3, g4.2.2⟩
  · rw [c2] at q
    exact (nI_eq (by omega) (by omega)).mp q
theorem c_type (gk : GOK G) (hst : STR G) (hC : CIV σ x A b) {c : Int32} (hc : isC c) (h1 : ¬ (¬ c < 32 ∧ ¬ 126 < c) → ∀ k, K (.inr "java/lang/IllegalArgumentException") (sk σ k)) (h2 : ¬ c < 32 → ¬ 126 < c → atn A = 60 → ∀ k, K (.inr "java/lang/IllegalStateException") (sk σ k)) (hk : ¬ c < 32 → ¬ 126 < c → atn A < 60 → ∀ σ', CIV σ' x (Atx A (atn A + 1) (upd (atx A) (atn A) c)) b → Fc σ σ' x → K (.inl (some (vI (nI (atn A + 1))))) σ') : Runs G mX8_type rX8_type [vR (some x), vI c] σ K := by
  obtain ⟨hX, hR, hH, hS, hE, hT, hL⟩ := id hC
  obtain ⟨t1, t2, t3, t4⟩ := id hT
  obtain ⟨s1, s2, s3, s4, s5, s6⟩ := id t1
  refine eX8_type gk hst ⟨fun q => h1 fun z => z.1 q, fun q => ⟨fun q2 => ⟨_, rfl, hX.1, _, hX.2.2.2.2.1, s1, fun q3 => ?_, fun q3 => ?_⟩, fun q2 => h1 fun z => q2 (Int32.not_lt.mp z.2)⟩⟩
  · rw [t2] at q3
    have hn : atn A < 60 := (nI_ltI (a := atn A) (b := 60) (by omega) (by omega)).mp q3
    have q2' : ¬ 126 < c := Int32.not_lt.mpr q2
    rw [hX.2.2.2.2.1]
    refine eX1_append gk ⟨_, rfl, s1, fun z => ?_, fun _ => ⟨_, s2, 60, s3, fun z => ?_, fun _ => ⟨?_, hc, fun σ1 e1 σ2 e2 => vX8_type_54 gk ?_⟩⟩⟩
    · rw [t2] at z; exact absurd z (nI_pos (by omega))
    · rw [t2] at z; exact absurd z (nI_ge hn (by omega))
    · rw [t2]; exact vp_in_nI hn (by omega)
    · rw [t2, nI_clamp (by omega), si_sS] at e1
      subst e1
      rw [si_sS, sS_n (show x + 773 ≠ x + 773 + 1 by omega), t2, nA1] at e2
      subst e2
      rw [sS_s, pk_us]
      have e : ∀ q, q ≠ x + 773 → q ≠ x + 774 → mi (sS (sS σ (x + 773 + 1) (upd (mi σ (x + 773 + 1)) (atn A) c)) (x + 773) (upd (mi σ (x + 773)) 1 (nI (atn A + 1)))) q = mi σ q := fun q q1 q2 => by rw [sS_n q1, sS_n (by omega)]
      have hcc : 32 ≤ c.toInt ∧ c.toInt ≤ 126 := by
        rw [Int32.lt_iff_toInt_lt] at q q2'
        have e1 : (32 : Int32).toInt = 32 := rfl
        have e2 : (126 : Int32).toInt = 126 := rfl
        omega
      refine hk q q2' hn _ ⟨hX.loc rfl rfl, hR.loc fun q q1 q2 => ⟨e q (by omega) (by omega), rfl, rfl⟩, hH.loc fun q q1 q2 => ⟨e q (by omega) (by omega), rfl, rfl⟩, hS.loc (by rw [e x (by omega) (by omega)]) fun q q1 q2 => ⟨e q (by omega) (by omega), rfl, rfl⟩, by rw [e x (by omega) (by omega)]; exact hE, ⟨t1, by rw [sS_s, pk_us]; rfl, by show atn A + 1 ≤ 60; omega, fun i hi => ?_⟩, hL.loc fun q q1 => ⟨e q (by omega) (by omega), rfl, rfl⟩⟩ ⟨fun q hq => ⟨e q (by omega) (by omega), rfl⟩, rfl, rfl, rfl, rfl⟩
      have hi' : i < atn A + 1 := hi
      rw [sS_n (show x + 774 ≠ x + 773 by omega), show x + 774 = x + 773 + 1 by omega, sS_s]
      show upd _ _ _ i = upd (atx A) (atn A) c i ∧ 32 ≤ (upd (atx A) (atn A) c i).toInt ∧ (upd (atx A) (atn A) c i).toInt ≤ 126
      by_cases z : i = atn A
      · subst z
        rw [pk_us, pk_us]
        exact ⟨rfl, hcc⟩
      · rw [pk_un z, pk_un z]
        exact t4 i (by omega)
  · rw [t2] at q3
    refine h2 q (Int32.not_lt.mpr q2) ?_
    have : ¬ atn A < 60 := fun z => q3 (nI_lt (a := atn A) (b := 60) z (by omega))
    omega
end UE
