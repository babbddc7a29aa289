/-! ===== a command, on both sides ===== -/
/-- what the model's methods ask of its row -/
def PG (P : Nat → Int32) : Prop := ∃ n m b : Nat, PI P n b ∧ PW P n m b
theorem RS.pg {σ : Mm} {st b : Nat} {P : Nat → Int32} (h : RS σ st P b) : PG P := by
  obtain ⟨ω, ρ, n, m, hV, hW, -⟩ := h
  exact ⟨n, m, b, hV.pi, hW.2⟩
theorem nz_of {x : Int32} (h : 1 ≤ x.toInt) : x ≠ 0 := fun e => by rw [e, Int32.toInt_zero] at h; omega
theorem PG.cap {P : Nat → Int32} (h : PG P) : ∀ k : Nat, k < 4 → nI k < P 0 → P (86 + 187 * k) ≠ 0 := by
  obtain ⟨n, m, b, hP, -⟩ := h
  intro k hk4 hk
  rw [hP.1.2] at hk
  have := (nI_ltI (by omega) (by have := hP.1.1; omega)).mp hk
  exact nz_of (hP.2.2.2.1 k this).1
theorem PG.wok {P : Nat → Int32} (h : PG P) : ∃ m, WOK P m := by
  obtain ⟨n, m, b, hP, hW⟩ := h
  refine ⟨m, hW.1.1, hW.1.2, fun i hi => ?_⟩
  obtain ⟨-, -, ⟨k, hk, ek⟩, ⟨l, hl, el⟩⟩ := hW.2.1 i hi
  have := hP.1.1
  exact ⟨k, l, by omega, hl, ek, el, nz_of (hP.2.2.2.1 k hk).1⟩
theorem PG.shB {P : Nat → Int32} (h : PG P) : shB P := by
  obtain ⟨n, m, b, hP, -⟩ := h
  exact ⟨n, hP.1⟩
/-- the command of kind k with the parameters F makes P' of P -/
def Nx : Nat → (Nat → Int32) → (Nat → Int32) → (Nat → Int32) → Prop
  | 0, F, P, P' => ∃ l, l < 26 ∧ F 1 = nI (97 + l) ∧ ¬ F 3 < 0 ∧ ¬ 99 < F 3 ∧ jrN P ≠ 12 ∧ ¬ P (8 + 3 * l) = 1 ∧ P' = aJ P l (F 3)
  | 1, F, P, P' => ∃ l n, n ≤ 4 ∧ P 0 = nI n ∧ l < 26 ∧ F 1 = nI (97 + l) ∧ P (8 + 3 * l) = 1 ∧ ¬ F 3 < 0 ∧ ¬ 99 < F 3 ∧ P' = syP P l (F 3) n
  | 2, F, P, P' => ∃ l n, n ≤ 4 ∧ P 0 = nI n ∧ l < 26 ∧ F 1 = nI (97 + l) ∧ P (8 + 3 * l) = 1 ∧ P' = rmP P l n
  | 3, F, P, P' => (¬ F 2 < 1 ∧ ¬ 6 < F 2 ∧ ¬ F 3 < 1 ∧ ¬ 30 < F 3 ∧ plP (F 4)) ∧ ∃ n, n < 4 ∧ P 0 = nI n ∧ P' = aS P n (F 2) (F 3) (F 4)
  | 4, F, P, P' => ∃ k l n, n ≤ 4 ∧ P 0 = nI n ∧ k < n ∧ l < 26 ∧ F 2 = nI k ∧ F 1 = nI (97 + l) ∧ P (8 + 3 * l) = 1 ∧ P' = heP P k l
  | 5, F, P, P' => ∃ k l n m, n ≤ 4 ∧ P 0 = nI n ∧ P 1 = nI m ∧ m < 8 ∧ k < n ∧ l < 26 ∧ F 2 = nI k ∧ F 1 = nI (97 + l) ∧ P (8 + 3 * l) = 1 ∧ ¬ F 3 < 1 ∧ ¬ 50 < F 3 ∧ P' = wtP (wsP (P 2 + F 3) m P).2 (wsP (P 2 + F 3) m P).1 (P 2 + F 3) (nI k) (nI (97 + l))
  | 6, F, P, P' => ∃ k n, n ≤ 4 ∧ P 0 = nI n ∧ k < n ∧ F 2 = nI k ∧ P' = upd P (86 + 187 * k + 3) 1
  | 7, F, P, P' => ∃ k n, n ≤ 4 ∧ P 0 = nI n ∧ k < n ∧ F 2 = nI k ∧ P' = upd P (86 + 187 * k + 3) 0
  | _, F, P, P' => ∃ m, 0 < m ∧ m ≤ 60 ∧ F 3 = nI m ∧ P' = (pP P m).1
section CMD
variable {G : GG} {σ : Mm} {K : RES → Mm → Prop} {x b a cm : Nat} {P F : Nat → Int32}
theorem bpos {x : Nat} (h : x < 2 ^ 31) (h0 : ¬ nI x < 1) : 0 < x := Nat.pos_of_ne_zero fun e => h0 (by rw [e]; decide)
theorem b60 {y : Int32} (h1 : ¬ y < 1) (h2 : ¬ 60 < y) : ∃ m : Nat, 0 < m ∧ m ≤ 60 ∧ y = nI m := by
  rw [Int32.lt_iff_toInt_lt] at h1 h2
  have e1 : ((1 : Int32)).toInt = 1 := by decide
  have e2 : ((60 : Int32)).toInt = 60 := by decide
  rw [e1] at h1
  rw [e2] at h2
  exact ⟨y.toInt.toNat, by omega, by omega, by rw [← Int32.toInt_inj, nI_toInt (by omega)]; omega⟩
theorem nI_60 {m : Nat} (h0 : 0 < m) (h : m ≤ 60) : ¬ nI m < 1 ∧ ¬ 60 < nI m := ⟨nI_nlt (a := m) (b := 1) (by omega) (by omega), nI_nlt (a := 60) (b := m) (by omega) (by decide)⟩
theorem shP_of {k n : Nat} (hn : n ≤ 4) (h0 : P 0 = nI n) (hk : k < n) : shP P (nI k) := (shP_n hn h0 (by omega)).mpr hk
theorem jrP_of {l : Nat} (hl : l < 26) (h : P (8 + 3 * l) = 1) : jrP P (nI (97 + l)) := ⟨l, hl, rfl, h⟩
theorem li {l l' : Nat} (hl : l < 26) (hl' : l' < 26) (e : nI (97 + l) = nI (97 + l')) : l = l' := by
  have := (nI_eq (by omega) (by omega)).mp e; omega
/-- EchoPantry.faultOf -/
theorem kX8_faultOf (gk : GOK G) (hX : CS σ x) (hR : RS σ (x + 1) P b) {k : Nat} (hk : k < 9) (hc : (mt σ cm).1 = 1) (h0 : mi σ cm 0 = nI k) (hF : ∀ i, 1 ≤ i → i < 5 → mi σ cm i = F i) (hC : (k = 0 ∨ k = 1 ∨ k = 2 ∨ k = 4 ∨ k = 5) → isC (mi σ cm 1)) (hb : (∀ P', ¬ Nx k F P P') → ∀ z : Int32, z ≠ 0 → K (.inl (some (vI z))) σ) (hg : ∀ P', Nx k F P P' → K (.inl (some (vI 0))) σ) : Runs G mX8_faultOf rX8_faultOf [vR (some x), vR (some cm)] σ K := by
  obtain ⟨ω, ρ, n, m, hV, hW, hJ⟩ := id hR
  have hst := hV.s.ty
  have hn4 := hV.n4
  have hp0 := hV.p0
  have q0 : ∀ (Y : Prop), Y → ∃ a5, some x = some a5 ∧ (mt σ a5).1 = 9 ∧ ∃ a7, mr σ a5 0 = some a7 ∧ (mt σ a7).1 = 7 ∧ Y := fun Y y => ⟨_, rfl, hX.1, _, hX.2.1, hst, y⟩
  have e1 := hF 1 (by decide) (by decide)
  have e2 := hF 2 (by decide) (by decide)
  have e3 := hF 3 (by decide) (by decide)
  have e4 := hF 4 (by decide) (by decide)
  have ne3 : (3 : Int32) ≠ 0 := by decide
  have ne4 : (4 : Int32) ≠ 0 := by decide
  have ne2 : (2 : Int32) ≠ 0 := by decide
  have ne1 : (1 : Int32) ≠ 0 := by decide
  refine eX8_faultOf gk ⟨_, rfl, hc, ?_⟩
  rw [h0, nI_toInt (by omega)]
  refine ⟨fun z => by omega, fun z => ⟨_, rfl, hX.1, _, hX.2.1, hst, ?_⟩, fun z => ⟨_, rfl, hX.1, _, hX.2.1, hst, ?_⟩, fun z => ⟨_, rfl, hX.1, _, hX.2.1, hst, ?_⟩, fun z => ⟨_, rfl, hX.1, _, hX.2.1, hst, ?_⟩, fun z => ⟨_, rfl, hX.1, _, hX.2.1, hst, ?_⟩, fun z => ⟨_, rfl, hX.1, _, hX.2.1, hst, ?_⟩, fun z => ⟨_, rfl, hX.1, _, hX.2.1, hst, ?_⟩, fun z => ⟨_, rfl, hX.1, _, hX.2.1, hst, ?_⟩, fun z => ⟨_, rfl, hX.1, _, hX.2.1, hst, ?_⟩⟩ <;> rw [hX.2.1]
  · obtain rfl : k = 0 := (nI_eq (by omega) (by omega)).mp z
    refine kX6_newJarFault gk hV (hC (by decide)) (fun q => vX8_faultOf_71 gk (hb (fun P' ⟨l, hl, g1, g2, g3, g4, g5, g6⟩ => q ⟨⟨l, hl, e1.trans g1⟩, by rw [e3]; exact g2, by rw [e3]; exact g3⟩) _ ne3)) (fun q1 q2 q3 q4 => vX8_faultOf_71 gk (hb (fun P' ⟨l, hl, g1, g2, g3, g4, g5, g6⟩ => ?_) _ ne4)) fun l hl ey q1 q2 q3 q4 => vX8_faultOf_71 gk (hg _ ⟨l, hl, e1 ▸ ey, e3 ▸ q1, e3 ▸ q2, q3, q4, rfl⟩)
    rcases q4 with q4 | ⟨l', hl', el', q4⟩
    · exact g4 q4
    · obtain rfl := li hl hl' (g1.symm.trans (e1.symm.trans el'))
      exact g5 q4
  · obtain rfl : k = 1 := (nI_eq (by omega) (by omega)).mp z
    exact kX6_wordFault gk hV (hC (by decide)) (fun q => vX8_faultOf_87 gk (hb (fun P' ⟨l, n, g1, g2, g3, g4, g5, g6⟩ => q (by rw [e1, g4]; exact jrP_of g3 g5)) _ ne2)) (fun q1 q2 => vX8_faultOf_87 gk (hb (fun P' ⟨l, n, g1, g2, g3, g4, g5, g6, g7, g8⟩ => q2 ⟨by rw [e3]; exact g6, by rw [e3]; exact g7⟩) _ ne3)) fun l hl ey q1 q2 q3 => vX8_faultOf_87 gk (hg _ ⟨l, n, hn4, hp0, hl, e1 ▸ ey, q1, e3 ▸ q2, e3 ▸ q3, rfl⟩)
  · obtain rfl : k = 2 := (nI_eq (by omega) (by omega)).mp z
    exact kX6_jarFault gk hV (hC (by decide)) (fun q => vX8_faultOf_99 gk (hb (fun P' ⟨l, n, g1, g2, g3, g4, g5, g6⟩ => q (by rw [e1, g4]; exact jrP_of g3 g5)) _ ne2)) fun l hl ey q1 => vX8_faultOf_99 gk (hg _ ⟨l, n, hn4, hp0, hl, e1 ▸ ey, q1, rfl⟩)
  · obtain rfl : k = 3 := (nI_eq (by omega) (by omega)).mp z
    rw [e2, e3, e4]
    refine kX6_newShelfFault gk hV (fun q => vX8_faultOf_119 gk (hb (fun P' ⟨g1, _⟩ => q g1) _ ne3)) (fun q1 q2 => vX8_faultOf_119 gk (hb (fun P' ⟨g1, n', g2, g3, _⟩ => ?_) _ ne4)) fun q1 q2 => vX8_faultOf_119 gk (hg _ ⟨q1, n, q2, hp0, rfl⟩)
    have := (nI_eq (by omega) (by omega)).mp (g3.symm.trans hp0)
    omega
  · obtain rfl : k = 4 := (nI_eq (by omega) (by omega)).mp z
    exact kX6_hearFault gk hV (hC (by decide)) (fun q => vX8_faultOf_135 gk (hb (fun P' ⟨k, l, n, g1, g2, g3, g4, g5, g6, g7, g8⟩ => q (by rw [e2, g5]; exact shP_of g1 g2 g3)) _ ne1)) (fun _ q => vX8_faultOf_135 gk (hb (fun P' ⟨k, l, n, g1, g2, g3, g4, g5, g6, g7, g8⟩ => q (by rw [e1, g6]; exact jrP_of g4 g7)) _ ne2)) fun k l hk hl ex ey q1 => vX8_faultOf_135 gk (hg _ ⟨k, l, n, hn4, hp0, hk, hl, e2 ▸ ex, e1 ▸ ey, q1, rfl⟩)
  · obtain rfl : k = 5 := (nI_eq (by omega) (by omega)).mp z
    refine kX6_warmFault gk hV hW.2.1.1 hW.1 (hC (by decide)) (fun q => vX8_faultOf_155 gk (hb (fun P' ⟨k, l, n, m', g1, g2, g3, g4, g5, g6, g7, g8, g9, g10, g11, g12⟩ => q (by rw [e2, g7]; exact shP_of g1 g2 g5)) _ ne1)) (fun _ q => vX8_faultOf_155 gk (hb (fun P' ⟨k, l, n, m', g1, g2, g3, g4, g5, g6, g7, g8, g9, g10, g11, g12⟩ => q (by rw [e1, g8]; exact jrP_of g6 g9)) _ ne2)) (fun _ _ q => vX8_faultOf_155 gk (hb (fun P' ⟨k, l, n, m', g1, g2, g3, g4, g5, g6, g7, g8, g9, g10, g11, g12⟩ => q ⟨by rw [e3]; exact g10, by rw [e3]; exact g11⟩) _ ne3)) (fun _ _ _ _ q => vX8_faultOf_155 gk (hb (fun P' ⟨k, l, n, m', g1, g2, g3, g4, g5, g6, g7, g8, g9, g10, g11, g12⟩ => ?_) _ ne4)) fun k l hk hl ex ey q1 q2 q3 q4 => vX8_faultOf_155 gk (hg _ ⟨k, l, n, m, hn4, hp0, hW.2.1.2, q4, hk, hl, e2 ▸ ex, e1 ▸ ey, q1, e3 ▸ q2, e3 ▸ q3, rfl⟩)
    have := (nI_eq (by omega) (by have := hW.2.1.1; omega)).mp (g3.symm.trans hW.2.1.2)
    omega
  · obtain rfl : k = 6 := (nI_eq (by omega) (by omega)).mp z
    exact kX6_shelfFault gk hV (fun q => vX8_faultOf_167 gk (hb (fun P' ⟨k, n, g1, g2, g3, g4, g5⟩ => q (by rw [e2, g4]; exact shP_of g1 g2 g3)) _ ne1)) fun k hk ex => vX8_faultOf_167 gk (hg _ ⟨k, n, hn4, hp0, hk, e2 ▸ ex, rfl⟩)
  · obtain rfl : k = 7 := (nI_eq (by omega) (by omega)).mp z
    exact kX6_shelfFault gk hV (fun q => vX8_faultOf_167 gk (hb (fun P' ⟨k, n, g1, g2, g3, g4, g5⟩ => q (by rw [e2, g4]; exact shP_of g1 g2 g3)) _ ne1)) fun k hk ex => vX8_faultOf_167 gk (hg _ ⟨k, n, hn4, hp0, hk, e2 ▸ ex, rfl⟩)
  · obtain rfl : k = 8 := (nI_eq (by omega) (by omega)).mp z
    rw [e3]
    refine kX6_passFault gk (fun q => vX8_faultOf_179 gk (hb (fun P' ⟨m, g1, g2, g3, g4⟩ => q (by rw [g3]; exact nI_60 g1 g2)) _ ne3)) fun q1 q2 => vX8_faultOf_179 gk ?_
    obtain ⟨m', h1, h2, h3⟩ := b60 q1 q2
    exact hg _ ⟨m', h1, h2, h3, rfl⟩
theorem kX6_tune (gk : GOK G) {st : Nat} (h : RS σ st P b) {k n : Nat} (hn : n ≤ 4) (h0 : P 0 = nI n) (hk : k < n) {y : Int32} (hy : isZ y) (hK : ∀ σ', RS σ' st (upd P (86 + 187 * k + 3) y) b → Fr σ σ' st → K (.inl none) σ') : Runs G mX6_tune rX6_tune [vR (some st), vI (nI k), vI y] σ K := by
  obtain ⟨ω, ρ, n', m, hV, hW, hJ⟩ := id h
  obtain rfl : n' = n := (nI_eq (by have := hV.n4; omega) (by omega)).mp (hV.p0.symm.trans h0)
  refine eX6_tune gk ⟨_, rfl, hV.s.ty, ?_⟩
  refine kX6_findShelf gk hV.s hV.2 (fun q => absurd (shP_of hn h0 hk) q) fun k' hk' e => vX6_tune_5 gk ⟨(fun z => by cases z), fun a2 ea => ?_⟩
  cases ea
  obtain rfl : k = k' := (nI_eq (by omega) (by omega)).mp e
  refine ⟨(hV.ss hk).ty, hy, fun σ1 s1 => ?_⟩
  rw [si_sS] at s1
  subst s1
  exact hK _ (h.ear h0 hn hk hy) (Fr.sS (by omega) (by omega))
/-- EchoPantry.carryOut of what may be carried out -/
theorem kX8_carryOut (gk : GOK G) (hb : b < 2 ^ 27) (hX : CS σ x) (hR : RS σ (x + 1) P b) {k : Nat} (hk : k < 9) (hc : (mt σ cm).1 = 1) (h0 : mi σ cm 0 = nI k) (hF : ∀ i, 1 ≤ i → i < 5 → mi σ cm i = F i) {P' : Nat → Int32} (hN : Nx k F P P') (hK : ∀ σ', RS σ' (x + 1) P' (b + 540) → Fr σ σ' (x + 1) → K (.inl none) σ') : Runs G mX8_carryOut rX8_carryOut [vR (some x), vR (some cm)] σ K := by
  obtain ⟨ω, ρ, n, m, hV, hW, hJ⟩ := id hR
  have hst := hV.s.ty
  have hn4 := hV.n4
  have hp0 := hV.p0
  have e1 := hF 1 (by decide) (by decide)
  have e2 := hF 2 (by decide) (by decide)
  have e3 := hF 3 (by decide) (by decide)
  have e4 := hF 4 (by decide) (by decide)
  refine eX8_carryOut gk ⟨_, rfl, hc, ?_⟩
  rw [h0, nI_toInt (by omega)]
  refine ⟨fun z => by omega, fun z => ⟨_, rfl, hX.1, _, hX.2.1, hst, ?_⟩, fun z => ⟨_, rfl, hX.1, _, hX.2.1, hst, ?_⟩, fun z => ⟨_, rfl, hX.1, _, hX.2.1, hst, ?_⟩, fun z => ⟨_, rfl, hX.1, _, hX.2.1, hst, ?_⟩, fun z => ⟨_, rfl, hX.1, _, hX.2.1, hst, ?_⟩, fun z => ⟨_, rfl, hX.1, _, hX.2.1, hst, ?_⟩, fun z => ⟨_, rfl, hX.1, _, hX.2.1, hst, ?_⟩, fun z => ⟨_, rfl, hX.1, _, hX.2.1, hst, ?_⟩, fun z => ⟨_, rfl, hX.1, _, hX.2.1, hst, ?_⟩⟩ <;> rw [hX.2.1]
  · obtain rfl : k = 0 := (nI_eq (by omega) (by omega)).mp z
    obtain ⟨l, hl, g1, g2, g3, g4, g5, rfl⟩ := hN
    rw [e1, e3, g1]
    exact kX6_putJar gk (by omega) hR hl (wNB g2 g3) g5 g4 fun σ1 hR1 hF1 => vX8_carryOut_71 gk (hK σ1 (hR1.mono (by omega)) hF1)
  · obtain rfl : k = 1 := (nI_eq (by omega) (by omega)).mp z
    obtain ⟨l, n1, g1, g2, g3, g4, g5, g6, g7, rfl⟩ := hN
    rw [e1, e3, g4]
    refine kX6_speak gk (by omega) hR g3 g5 (wNB g6 g7) fun σ1 n2 hn2 h02 hR1 hF1 => vX8_carryOut_90 gk (hK σ1 ?_ hF1)
    obtain rfl : n1 = n2 := (nI_eq (by omega) (by omega)).mp (g2.symm.trans h02)
    exact hR1.mono (by omega)
  · obtain rfl : k = 2 := (nI_eq (by omega) (by omega)).mp z
    obtain ⟨l, n1, g1, g2, g3, g4, g5, rfl⟩ := hN
    rw [e1, g4]
    refine kX6_dropJar gk (by omega) hR g3 g5 fun σ1 n2 hn2 h02 hR1 hF1 => vX8_carryOut_105 gk (hK σ1 ?_ hF1)
    obtain rfl : n1 = n2 := (nI_eq (by omega) (by omega)).mp (g2.symm.trans h02)
    exact hR1.mono (by omega)
  · obtain rfl : k = 3 := (nI_eq (by omega) (by omega)).mp z
    obtain ⟨g1, n1, g2, g3, rfl⟩ := hN
    rw [e2, e3, e4]
    exact kX6_putShelf gk hR g1 g3 g2 fun σ1 hR1 hF1 => vX8_carryOut_128 gk (hK σ1 (hR1.mono (by omega)) hF1)
  · obtain rfl : k = 4 := (nI_eq (by omega) (by omega)).mp z
    obtain ⟨k, l, n1, g1, g2, g3, g4, g5, g6, g7, rfl⟩ := hN
    rw [e2, e1, g5, g6]
    exact kX6_listenTo gk (by omega) hR g2 g1 g3 g4 g7 fun σ1 hR1 hF1 => vX8_carryOut_147 gk (hK σ1 (hR1.mono (by omega)) hF1)
  · obtain rfl : k = 5 := (nI_eq (by omega) (by omega)).mp z
    obtain ⟨k, l, n1, m1, g1, g2, g3, g4, g5, g6, g7, g8, g9, g10, g11, rfl⟩ := hN
    rw [e2, e1, e3, g7, g8]
    obtain rfl : n1 = n := (nI_eq (by omega) (by omega)).mp (g2.symm.trans hp0)
    obtain rfl : m1 = m := (nI_eq (by omega) (by have := hW.2.1.1; omega)).mp (g3.symm.trans hW.2.1.2)
    exact kX6_planWarming gk (by omega) hV hW hJ g5 g6 g4 g10 g11 fun σ1 hR1 hF1 => vX8_carryOut_170 gk (hK σ1 (hR1.mono (by omega)) hF1)
  · obtain rfl : k = 6 := (nI_eq (by omega) (by omega)).mp z
    obtain ⟨k, n1, g1, g2, g3, g4, rfl⟩ := hN
    rw [e2, g4]
    exact kX6_tune gk hR g1 g2 g3 (Or.inr rfl) fun σ1 hR1 hF1 => vX8_carryOut_186 gk (hK σ1 (hR1.mono (by omega)) hF1)
  · obtain rfl : k = 7 := (nI_eq (by omega) (by omega)).mp z
    obtain ⟨k, n1, g1, g2, g3, g4, rfl⟩ := hN
    rw [e2, g4]
    exact kX6_tune gk hR g1 g2 g3 (Or.inl rfl) fun σ1 hR1 hF1 => vX8_carryOut_201 gk (hK σ1 (hR1.mono (by omega)) hF1)
  · obtain rfl : k = 8 := (nI_eq (by omega) (by omega)).mp z
    obtain ⟨m1, g1, g2, g3, rfl⟩ := hN
    rw [e3, g3]
    exact kX6_letPass gk hb hR g2 fun σ1 hR1 hF1 => vX8_carryOut_215 gk (hK σ1 (hR1.mono (by omega)) hF1)
end CMD
