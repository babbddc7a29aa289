/-! ===== rows that are alike where it matters ===== -/
section CG
variable {σ σ' : Mm} {x st b : Nat} {P Q : Nat → Int32} {A B : AS}
theorem RS.cr (h : RS σ st P b) (e : ∀ k, k < 858 → Q k = P k) : RS σ st Q b := by
  obtain ⟨ω, ρ, n, m, ⟨hS, hV⟩, ⟨hW, hP⟩, hJ⟩ := h
  have hn := hV.1.1.1
  obtain ⟨⟨p1, p2⟩, p3, p4⟩ := hP
  refine ⟨ω, ρ, n, m, ⟨hS, hV.cgw fun k hk _ => e k (by omega)⟩, ⟨⟨hW.1, hW.2.1, fun i w hw => ?_⟩, ⟨p1, by rw [e 1 (by decide)]; exact p2⟩, fun i hi => ?_, fun i hi => ?_⟩, hJ.cgw hn fun k hk _ => e k (by omega)⟩
  · obtain ⟨a1, a2⟩ := hW.2.2 i w hw
    refine ⟨fun hi => ?_, a2⟩
    rw [e _ (by omega), e _ (by omega), e _ (by omega)]
    exact a1 hi
  · rw [e 2 (by decide), e _ (by omega), e _ (by omega), e _ (by omega)]
    exact p3 i hi
  · rw [e _ (by omega), e _ (by omega)]
    exact p4 i hi
theorem CIV.cg (h : CIV σ x A b) (e : AE A B) : CIV σ x B b := by
  obtain ⟨h1, h2, ⟨hS, f, c1, c2, c3, c4, c5⟩, ⟨s1, s2, s3, s4⟩, h5, h6, h7⟩ := h
  obtain ⟨e1, e2, e3, e4, e5, e6⟩ := e
  have x5 : aea B = aea A := by show B.2.2.2.2.2.1 = A.2.2.2.2.2.1; rw [e6]
  have x6 : afa B = afa A := by show B.2.2.2.2.2.2.1 = A.2.2.2.2.2.2.1; rw [e6]
  have x7 : atn B = atn A := by show B.2.2.2.2.2.2.2.1 = A.2.2.2.2.2.2.2.1; rw [e6]
  have x8 : atx B = atx A := by show B.2.2.2.2.2.2.2.2.1 = A.2.2.2.2.2.2.2.2.1; rw [e6]
  have x9 : aln B = aln A := by show B.2.2.2.2.2.2.2.2.2.1 = A.2.2.2.2.2.2.2.2.2.1; rw [e6]
  have x10 : alt B = alt A := by show B.2.2.2.2.2.2.2.2.2.2 = A.2.2.2.2.2.2.2.2.2.2; rw [e6]
  refine ⟨h1, h2.cr e1, ⟨hS, f, by rw [e2]; exact c1, by rw [e2]; exact c2, c3, c4, fun i hi => (c5 i (by rw [← e2]; exact hi)).cr fun k hk => e3 i k (by rw [← e2]; exact hi) hk⟩, ⟨s1, by rw [e4]; exact s2, by rw [e4]; exact s3, fun z => (s4 (by rw [← e4]; exact z)).cr e5⟩, by rw [x5, x6]; exact h5, by rw [x7, x8]; exact h6, by rw [x9, x10]; exact h7⟩
end CG
