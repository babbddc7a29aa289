/-! ===== the class: what it holds as a whole; its modifications ===== -/
/-- what a pantry is: its row; the rows it can go back to, how many; whether saved, the saved row; error position, failed command; the text's length and letters; the line's -/
abbrev AS : Type := (Nat → Int32) × (Nat → Nat → Int32) × Nat × Int32 × (Nat → Int32) × Int32 × Int32 × Nat × (Nat → Int32) × Nat × (Nat → Int32)
abbrev aP (A : AS) : Nat → Int32 := A.1
abbrev aW (A : AS) : Nat → Nat → Int32 := A.2.1
abbrev aj (A : AS) : Nat := A.2.2.1
abbrev asv (A : AS) : Int32 := A.2.2.2.1
abbrev aV (A : AS) : Nat → Int32 := A.2.2.2.2.1
abbrev aea (A : AS) : Int32 := A.2.2.2.2.2.1
abbrev afa (A : AS) : Int32 := A.2.2.2.2.2.2.1
abbrev atn (A : AS) : Nat := A.2.2.2.2.2.2.2.1
abbrev atx (A : AS) : Nat → Int32 := A.2.2.2.2.2.2.2.2.1
abbrev aln (A : AS) : Nat := A.2.2.2.2.2.2.2.2.2.1
abbrev alt (A : AS) : Nat → Int32 := A.2.2.2.2.2.2.2.2.2.2
/-- the line of n letters t -/
def LN (σ : Mm) (x n : Nat) (t : Nat → Int32) : Prop := (mt σ (x + 786)).1 = 11 ∧ mi σ (x + 786) 1 = 0 ∧ mi σ (x + 786) 3 = nI n ∧ n ≤ 60 ∧ ∃ v cap, mr σ (x + 786) 0 = some v ∧ mt σ v = (54, cap) ∧ (n ≤ cap ∧ cap ≤ 140) ∧ (v = x + 787 ∨ x + 788 ≤ v) ∧ (∀ i, i < n → mi σ v i = t i ∧ 0 ≤ (t i).toInt ∧ (t i).toInt < 128) ∧ ∀ i, i < cap → 0 ≤ (mi σ v i).toInt ∧ (mi σ v i).toInt < 128
def SNP (σ : Mm) (x : Nat) (sv : Int32) (V : Nat → Int32) (b : Nat) : Prop := SHP σ (x + 703) ∧ mi σ x 3 = sv ∧ isZ sv ∧ (sv = 1 → RS σ (x + 703) V b)
def TXP (σ : Mm) (x tn : Nat) (tx : Nat → Int32) : Prop := TSh σ (x + 773) ∧ mi σ (x + 773) 1 = nI tn ∧ tn ≤ 60 ∧ ∀ i, i < tn → mi σ (x + 774) i = tx i ∧ 32 ≤ (tx i).toInt ∧ (tx i).toInt ≤ 126
def CIV (σ : Mm) (x : Nat) (A : AS) (b : Nat) : Prop := CS σ x ∧ RS σ (x + 1) (aP A) b ∧ HI σ (x + 71) (aW A) (aj A) b ∧ SNP σ x (asv A) (aV A) b ∧ (mi σ x 5 = aea A ∧ mi σ x 6 = afa A) ∧ TXP σ x (atn A) (atx A) ∧ LN σ x (aln A) (alt A)
/-- nothing outside the pantry's cells, its line's aside, has changed -/
def Fc (σ σ' : Mm) (x : Nat) : Prop := (∀ q, q < x ∨ x + 786 ≤ q → mi σ' q = mi σ q ∧ mr σ' q = mr σ q) ∧ ml σ' = ml σ ∧ md σ' = md σ ∧ mt σ' = mt σ ∧ mz σ' = mz σ
theorem Fc.refl {σ : Mm} {x : Nat} : Fc σ σ x := ⟨fun _ _ => ⟨rfl, rfl⟩, rfl, rfl, rfl, rfl⟩
theorem Fc.trans {σ σ' σ'' : Mm} {x : Nat} (h : Fc σ σ' x) (h' : Fc σ' σ'' x) : Fc σ σ'' x := ⟨fun q hq => ⟨(h'.1 q hq).1.trans (h.1 q hq).1, (h'.1 q hq).2.trans (h.1 q hq).2⟩, h'.2.1.trans h.2.1, h'.2.2.1.trans h.2.2.1, h'.2.2.2.1.trans h.2.2.2.1, h'.2.2.2.2.trans h.2.2.2.2⟩
theorem Fb.fc {σ σ' : Mm} {lo hi x : Nat} (h : Fb σ σ' lo hi) (h1 : x ≤ lo) (h2 : hi ≤ x + 786) : Fc σ σ' x := ⟨fun q hq => ⟨h.1 q (by omega), by rw [h.2.1]⟩, h.2.2⟩
theorem Fr.fc {σ σ' : Mm} {st x : Nat} (h : Fr σ σ' st) (h1 : x ≤ st) (h2 : st + 70 ≤ x + 786) : Fc σ σ' x := ⟨fun q hq => h.1 q (by omega), h.2⟩
theorem LN.loc {σ σ' : Mm} {x n : Nat} {t : Nat → Int32} (h : LN σ x n t) (e : ∀ q, x + 786 ≤ q → mi σ' q = mi σ q ∧ mr σ' q = mr σ q ∧ mt σ' q = mt σ q) : LN σ' x n t := by
  obtain ⟨h1, h2, h3, h4, v, cap, h5, h6, h7, h8, h9⟩ := h
  obtain ⟨a1, a2, a3⟩ := e (x + 786) (by omega)
  obtain ⟨b1, b2, b3⟩ := e v (by omega)
  exact ⟨by rw [a3]; exact h1, by rw [a1]; exact h2, by rw [a1]; exact h3, h4, v, cap, by rw [a2]; exact h5, by rw [b3]; exact h6, h7, h8, fun i hi => by rw [b1]; exact h9.1 i hi, fun i hi => by rw [b1]; exact h9.2 i hi⟩
theorem TSh.loc {σ σ' : Mm} {a : Nat} (h : TSh σ a) (e : ∀ q, a ≤ q → q < a + 13 → mr σ' q = mr σ q ∧ mt σ' q = mt σ q) : TSh σ' a := by
  obtain ⟨h1, h2, h3, h4, h5, h6⟩ := h
  exact ⟨by rw [(e a (by omega) (by omega)).2]; exact h1, by rw [(e a (by omega) (by omega)).1]; exact h2, by rw [(e (a + 1) (by omega) (by omega)).2]; exact h3, by rw [(e a (by omega) (by omega)).1]; exact h4, by rw [(e (a + 2) (by omega) (by omega)).2]; exact h5, fun i hi => by rw [(e (a + 2) (by omega) (by omega)).1, (e (a + 3 + i) (by omega) (by omega)).2]; exact h6 i hi⟩
theorem TXP.loc {σ σ' : Mm} {x tn : Nat} {tx : Nat → Int32} (h : TXP σ x tn tx) (e : ∀ q, x + 773 ≤ q → q < x + 786 → mi σ' q = mi σ q ∧ mr σ' q = mr σ q ∧ mt σ' q = mt σ q) : TXP σ' x tn tx :=
  ⟨h.1.loc fun q q1 q2 => (e q (by omega) (by omega)).2, by rw [(e (x + 773) (by omega) (by omega)).1]; exact h.2.1, h.2.2.1, fun i hi => by rw [(e (x + 774) (by omega) (by omega)).1]; exact h.2.2.2 i hi⟩
theorem SNP.loc {σ σ' : Mm} {x b : Nat} {sv : Int32} {V : Nat → Int32} (h : SNP σ x sv V b) (e0 : mi σ' x 3 = mi σ x 3) (e : ∀ q, x + 703 ≤ q → q < x + 773 → mi σ' q = mi σ q ∧ mr σ' q = mr σ q ∧ mt σ' q = mt σ q) : SNP σ' x sv V b :=
  ⟨h.1.loc fun q q1 q2 => (e q (by omega) (by omega)).2, by rw [e0]; exact h.2.1, h.2.2.1, fun z => (h.2.2.2 z).loc fun q q1 q2 => e q (by omega) (by omega)⟩
theorem SNP.mono {σ : Mm} {x b b' : Nat} {sv : Int32} {V : Nat → Int32} (h : SNP σ x sv V b) (hb : b ≤ b') : SNP σ x sv V b' := ⟨h.1, h.2.1, h.2.2.1, fun z => (h.2.2.2 z).mono hb⟩
/-- a modification: the row is now P -/
def Am (A : AS) (P : Nat → Int32) : AS := (P, pushW (aW A) (aj A) (aP A), pshN (aj A), A.2.2.2)
section UD
variable {G : GG} {σ : Mm} {K : RES → Mm → Prop} {x b : Nat} {A : AS}
/-- the pantry in a memory that is the same there -/
theorem CIV.loc {σ' : Mm} (h : CIV σ x A b) (e : ∀ q, x ≤ q → q < x + 788 ∨ x + 788 ≤ q → mi σ' q = mi σ q ∧ mr σ' q = mr σ q ∧ mt σ' q = mt σ q) : CIV σ' x A b := by
  obtain ⟨h1, h2, h3, h4, h5, h6, h7⟩ := h
  obtain ⟨a1, a2, a3⟩ := e x (by omega) (by omega)
  refine ⟨h1.loc a2 a3, h2.loc fun q q1 q2 => e q (by omega) (by omega), h3.loc fun q q1 q2 => e q (by omega) (by omega), h4.loc (by rw [a1]) fun q q1 q2 => e q (by omega) (by omega), by rw [a1]; exact h5, h6.loc fun q q1 q2 => e q (by omega) (by omega), ?_⟩
  obtain ⟨g1, g2, g3, g4, v, cap, g5, g6, g7, g8, g9⟩ := h7
  obtain ⟨c1, c2, c3⟩ := e (x + 786) (by omega) (by omega)
  obtain ⟨d1, d2, d3⟩ := e v (by omega) (by omega)
  exact ⟨by rw [c3]; exact g1, by rw [c1]; exact g2, by rw [c1]; exact g3, g4, v, cap, by rw [c2]; exact g5, by rw [d3]; exact g6, g7, g8, fun i hi => by rw [d1]; exact g9.1 i hi, fun i hi => by rw [d1]; exact g9.2 i hi⟩
theorem CIV.mono {b' : Nat} (h : CIV σ x A b) (hb : b ≤ b') : CIV σ x A b' := ⟨h.1, h.2.1.mono hb, h.2.2.1.mono hb, h.2.2.2.1.mono hb, h.2.2.2.2⟩
theorem CIV.noted {σ1 : Mm} (hC : CIV σ x A b) (hF : Fb σ σ1 (x + 71) (x + 703)) : CS σ1 x ∧ RS σ1 (x + 1) (aP A) b :=
  ⟨hC.1.loc (by rw [hF.2.1]) (by rw [hF.2.2.2.2.1]), hC.2.1.fr (fun q q1 q2 => ⟨hF.1 q (by omega), by rw [hF.2.1]⟩) hF.2.2.2.2.1⟩
theorem CIV.mod {σ1 σ2 : Mm} {b' j' : Nat} {W' : Nat → Nat → Int32} {P' : Nat → Int32} (hC : CIV σ x A b) (hbb : b ≤ b') (hF1 : Fb σ σ1 (x + 71) (x + 703)) (hH : HI σ1 (x + 71) W' j' b) (hF2 : Fr σ1 σ2 (x + 1)) (hR : RS σ2 (x + 1) P' b') : CIV σ2 x (P', W', j', A.2.2.2) b' ∧ Fc σ σ2 x := by
  have hFc : Fc σ σ2 x := (hF1.fc (by omega) (by omega)).trans (hF2.fc (by omega) (by omega))
  obtain ⟨h1, h2, h3, h4, h5, h6, h7⟩ := hC
  have e : ∀ q, q < x + 1 ∨ (x + 703 ≤ q) → mi σ2 q = mi σ q ∧ mr σ2 q = mr σ q ∧ mt σ2 q = mt σ q := fun q hq => by
    obtain ⟨b1, b2⟩ := hF2.1 q (by omega)
    refine ⟨b1.trans (hF1.1 q (by omega)), ?_, by rw [hFc.2.2.2.1]⟩
    rw [b2, hF1.2.1]
  obtain ⟨a1, a2, a3⟩ := e x (by omega)
  refine ⟨⟨h1.loc a2 a3, hR, ?_, (h4.loc (by rw [a1]) fun q q1 q2 => e q (by omega)).mono hbb, by rw [a1]; exact h5, h6.loc fun q q1 q2 => e q (by omega), h7.loc fun q q1 => e q (by omega)⟩, hFc⟩
  exact (hH.fr (fun q q1 q2 => hF2.1 q (by omega)) hF2.2.2.2.1).mono hbb
theorem rf0 (gk : GOK G) (hst : STR G) (h : K (.inl none) σ) : Runs G mX8_refuse rX8_refuse [vI 0] σ K := kX8_refuse gk hst (fun _ => h) (fun z => absurd z (by decide)) (fun z => absurd z (by decide)) (fun z => absurd z (by decide)) (fun z => absurd z (by decide)) (by decide)
theorem rf1 (gk : GOK G) (hst : STR G) (h : ∀ k, K (.inr "java/lang/IndexOutOfBoundsException") (sk σ k)) : Runs G mX8_refuse rX8_refuse [vI 1] σ K := kX8_refuse gk hst (fun z => absurd z (by decide)) (fun _ => h) (fun z => absurd z (by decide)) (fun z => absurd z (by decide)) (fun z => absurd z (by decide)) (by decide)
theorem rf2 (gk : GOK G) (hst : STR G) (h : ∀ k, K (.inr "java/util/NoSuchElementException") (sk σ k)) : Runs G mX8_refuse rX8_refuse [vI 2] σ K := kX8_refuse gk hst (fun z => absurd z (by decide)) (fun z => absurd z (by decide)) (fun _ => h) (fun z => absurd z (by decide)) (fun z => absurd z (by decide)) (by decide)
theorem rf3 (gk : GOK G) (hst : STR G) (h : ∀ k, K (.inr "java/lang/IllegalArgumentException") (sk σ k)) : Runs G mX8_refuse rX8_refuse [vI 3] σ K := kX8_refuse gk hst (fun z => absurd z (by decide)) (fun z => absurd z (by decide)) (fun z => absurd z (by decide)) (fun _ => h) (fun z => absurd z (by decide)) (by decide)
theorem rf4 (gk : GOK G) (hst : STR G) (h : ∀ k, K (.inr "java/lang/IllegalStateException") (sk σ k)) : Runs G mX8_refuse rX8_refuse [vI 4] σ K := kX8_refuse gk hst (fun z => absurd z (by decide)) (fun z => absurd z (by decide)) (fun z => absurd z (by decide)) (fun z => absurd z (by decide)) (fun _ => h) (by decide)
theorem c_addJar (gk : GOK G) (hst : STR G) (hb : b < 2 ^ 29) (hC : CIV σ x A b) {y w : Int32} (hc : isC y) (h1 : ¬ (isL y ∧ ¬ w < 0 ∧ ¬ 99 < w) → ∀ k, K (.inr "java/lang/IllegalArgumentException") (sk σ k)) (h2 : isL y → ¬ w < 0 → ¬ 99 < w → (jrN (aP A) = 12 ∨ jrP (aP A) y) → ∀ k, K (.inr "java/lang/IllegalStateException") (sk σ k))
    (hk : ∀ l : Nat, l < 26 → y = nI (97 + l) → ¬ w < 0 → ¬ 99 < w → jrN (aP A) ≠ 12 → ¬ aP A (8 + 3 * l) = 1 → ∀ σ', CIV σ' x (Am A (aJ (aP A) l w)) (b + 1) → Fc σ σ' x → K (.inl (some (vI (nI (jrN (aJ (aP A) l w)))))) σ') : Runs G mX8_addJar rX8_addJar [vR (some x), vI y, vI w] σ K := by
  have hX := hC.1
  obtain ⟨ω, ρ, n, m, hV, hW, hJ⟩ := id hC.2.1
  refine eX8_addJar gk ⟨_, rfl, hX.1, _, hX.2.1, hV.s.ty, ?_⟩
  rw [hX.2.1]
  refine kX6_newJarFault gk hV hc (fun q => vX8_addJar_9 gk (rf3 gk hst (h1 q))) (fun q1 q2 q3 q4 => vX8_addJar_9 gk (rf4 gk hst (h2 q1 q2 q3 q4))) fun l hl ey q1 q2 q3 q4 => vX8_addJar_9 gk (rf0 gk hst (vX8_addJar_12 gk ⟨_, rfl, hX.1, _, hX.2.2.1, hC.2.2.1.1.1, ?_⟩))
  rw [hX.2.1, hX.2.2.1]
  refine kX3_note gk hC.2.2.1 hC.2.1 (by omega) fun σ1 hH1 hF1 => ?_
  obtain ⟨hX1, hR1⟩ := hC.noted hF1
  refine vX8_addJar_23 gk ⟨_, rfl, hX1.1, _, hX1.2.1, by obtain ⟨ω, ρ, n, m, hV, -⟩ := hR1; exact hV.s.ty, ?_⟩
  rw [hX1.2.1, ey]
  refine kX6_putJar gk hb hR1 hl (wNB q1 q2) q4 q3 fun σ2 hR2 hF2 => vX8_addJar_32 gk ?_
  obtain ⟨g1, g2⟩ := hC.mod (Nat.le_succ b) hF1 hH1 hF2 hR2
  exact hk l hl ey q1 q2 q3 q4 σ2 g1 g2
theorem c_removeJar (gk : GOK G) (hst : STR G) (hb : b < 2 ^ 29) (hC : CIV σ x A b) {y : Int32} (hc : isC y) (h1 : ¬ jrP (aP A) y → ∀ k, K (.inr "java/util/NoSuchElementException") (sk σ k))
    (hk : ∀ l n : Nat, n ≤ 4 → aP A 0 = nI n → l < 26 → y = nI (97 + l) → aP A (8 + 3 * l) = 1 → ∀ σ', CIV σ' x (Am A (rmP (aP A) l n)) b → Fc σ σ' x → K (.inl (some (vI (rmC (aP A) l n)))) σ') : Runs G mX8_removeJar rX8_removeJar [vR (some x), vI y] σ K := by
  have hX := hC.1
  obtain ⟨ω, ρ, n, m, hV, hW, hJ⟩ := id hC.2.1
  refine eX8_removeJar gk ⟨_, rfl, hX.1, _, hX.2.1, hV.s.ty, ?_⟩
  rw [hX.2.1]
  refine kX6_jarFault gk hV hc (fun q => vX8_removeJar_8 gk (rf2 gk hst (h1 q))) fun l hl ey q1 => vX8_removeJar_8 gk (rf0 gk hst (vX8_removeJar_11 gk ⟨_, rfl, hX.1, _, hX.2.2.1, hC.2.2.1.1.1, ?_⟩))
  rw [hX.2.1, hX.2.2.1]
  refine kX3_note gk hC.2.2.1 hC.2.1 (by omega) fun σ1 hH1 hF1 => ?_
  obtain ⟨hX1, hR1⟩ := hC.noted hF1
  refine vX8_removeJar_22 gk ⟨_, rfl, hX1.1, _, hX1.2.1, by obtain ⟨ω, ρ, n, m, hV, -⟩ := hR1; exact hV.s.ty, ?_⟩
  rw [hX1.2.1, ey]
  refine kX6_dropJar gk hb hR1 hl q1 fun σ2 n2 hn2 h02 hR2 hF2 => vX8_removeJar_30 gk ?_
  obtain ⟨g1, g2⟩ := hC.mod (Nat.le_refl b) hF1 hH1 hF2 hR2
  exact hk l n2 hn2 h02 hl ey q1 σ2 g1 g2
theorem c_say (gk : GOK G) (hst : STR G) (hb : b < 2 ^ 29) (hC : CIV σ x A b) {y w : Int32} (hc : isC y) (h1 : ¬ jrP (aP A) y → ∀ k, K (.inr "java/util/NoSuchElementException") (sk σ k)) (h2 : jrP (aP A) y → ¬ (¬ w < 0 ∧ ¬ 99 < w) → ∀ k, K (.inr "java/lang/IllegalArgumentException") (sk σ k))
    (hk : ∀ l n : Nat, n ≤ 4 → aP A 0 = nI n → l < 26 → y = nI (97 + l) → aP A (8 + 3 * l) = 1 → ¬ w < 0 → ¬ 99 < w → ∀ σ', CIV σ' x (Am A (syP (aP A) l w n)) (b + 1) → Fc σ σ' x → K (.inl (some (vI (nI (cnt (syI (aP A) l) n))))) σ') : Runs G mX8_say rX8_say [vR (some x), vI y, vI w] σ K := by
  have hX := hC.1
  obtain ⟨ω, ρ, n, m, hV, hW, hJ⟩ := id hC.2.1
  refine eX8_say gk ⟨_, rfl, hX.1, _, hX.2.1, hV.s.ty, ?_⟩
  rw [hX.2.1]
  refine kX6_wordFault gk hV hc (fun q => vX8_say_9 gk (rf2 gk hst (h1 q))) (fun q1 q2 => vX8_say_9 gk (rf3 gk hst (h2 q1 q2))) fun l hl ey q1 q2 q3 => vX8_say_9 gk (rf0 gk hst (vX8_say_12 gk ⟨_, rfl, hX.1, _, hX.2.2.1, hC.2.2.1.1.1, ?_⟩))
  rw [hX.2.1, hX.2.2.1]
  refine kX3_note gk hC.2.2.1 hC.2.1 (by omega) fun σ1 hH1 hF1 => ?_
  obtain ⟨hX1, hR1⟩ := hC.noted hF1
  refine vX8_say_23 gk ⟨_, rfl, hX1.1, _, hX1.2.1, by obtain ⟨ω, ρ, n, m, hV, -⟩ := hR1; exact hV.s.ty, ?_⟩
  rw [hX1.2.1, ey]
  refine kX6_speak gk hb hR1 hl q1 (wNB q2 q3) fun σ2 n2 hn2 h02 hR2 hF2 => vX8_say_32 gk ?_
  obtain ⟨g1, g2⟩ := hC.mod (Nat.le_succ b) hF1 hH1 hF2 hR2
  exact hk l n2 hn2 h02 hl ey q1 q2 q3 σ2 g1 g2
theorem c_addShelf (gk : GOK G) (hst : STR G) (hC : CIV σ x A b) {c f p : Int32} {n : Nat} (h0 : aP A 0 = nI n) (hn : n ≤ 4) (h1 : ¬ (¬ c < 1 ∧ ¬ 6 < c ∧ ¬ f < 1 ∧ ¬ 30 < f ∧ plP p) → ∀ k, K (.inr "java/lang/IllegalArgumentException") (sk σ k)) (h2 : ¬ c < 1 ∧ ¬ 6 < c ∧ ¬ f < 1 ∧ ¬ 30 < f ∧ plP p → n = 4 → ∀ k, K (.inr "java/lang/IllegalStateException") (sk σ k))
    (hk : ¬ c < 1 ∧ ¬ 6 < c ∧ ¬ f < 1 ∧ ¬ 30 < f ∧ plP p → n < 4 → ∀ σ', CIV σ' x (Am A (aS (aP A) n c f p)) b → Fc σ σ' x → K (.inl (some (vI (nI n)))) σ') : Runs G mX8_addShelf rX8_addShelf [vR (some x), vI c, vI f, vI p] σ K := by
  have hX := hC.1
  obtain ⟨ω, ρ, n', m, hV, hW, hJ⟩ := id hC.2.1
  have hn4 := hV.n4
  obtain rfl : n' = n := (nI_eq (by omega) (by omega)).mp (hV.p0.symm.trans h0)
  refine eX8_addShelf gk ⟨_, rfl, hX.1, _, hX.2.1, hV.s.ty, ?_⟩
  rw [hX.2.1]
  refine kX6_newShelfFault gk hV (fun q => vX8_addShelf_10 gk (rf3 gk hst (h1 q))) (fun q1 q2 => vX8_addShelf_10 gk (rf4 gk hst (h2 q1 q2))) fun q1 q2 => vX8_addShelf_10 gk (rf0 gk hst (vX8_addShelf_13 gk ⟨_, rfl, hX.1, _, hX.2.2.1, hC.2.2.1.1.1, ?_⟩))
  rw [hX.2.1, hX.2.2.1]
  refine kX3_note gk hC.2.2.1 hC.2.1 (by omega) fun σ1 hH1 hF1 => ?_
  obtain ⟨hX1, hR1⟩ := hC.noted hF1
  refine vX8_addShelf_24 gk ⟨_, rfl, hX1.1, _, hX1.2.1, by obtain ⟨ω, ρ, n, m, hV, -⟩ := hR1; exact hV.s.ty, ?_⟩
  rw [hX1.2.1]
  refine kX6_putShelf gk hR1 q1 h0 q2 fun σ2 hR2 hF2 => vX8_addShelf_34 gk ?_
  obtain ⟨g1, g2⟩ := hC.mod (Nat.le_refl b) hF1 hH1 hF2 hR2
  exact hk q1 q2 σ2 g1 g2
theorem c_setListening (gk : GOK G) (hst : STR G) (hC : CIV σ x A b) {s y : Int32} (hy : isZ y) (h1 : ¬ shP (aP A) s → ∀ k, K (.inr "java/lang/IndexOutOfBoundsException") (sk σ k))
    (hk : ∀ k : Nat, k < 4 → s = nI k → nI k < aP A 0 → isZ (aP A (86 + 187 * k + 3)) → ∀ σ', CIV σ' x (Am A (upd (aP A) (86 + 187 * k + 3) y)) b → Fc σ σ' x → K (.inl (some (vI (aP A (86 + 187 * k + 3))))) σ') : Runs G mX8_setListening rX8_setListening [vR (some x), vI s, vI y] σ K := by
  have hX := hC.1
  refine eX8_setListening gk ⟨_, rfl, hX.1, cWantShelf gk hst hX hC.2.1 h1 fun k n ω ρ m hV hW hJ hkn es => vX8_setListening_5 gk ⟨_, rfl, hX.1, _, hX.2.2.1, hC.2.2.1.1.1, ?_⟩⟩
  have hn4 := hV.n4
  rw [hX.2.1, hX.2.2.1]
  refine kX3_note gk hC.2.2.1 hC.2.1 (by omega) fun σ1 hH1 hF1 => ?_
  obtain ⟨hX1, hR1⟩ := hC.noted hF1
  have hV1 : RV σ1 (x + 1) (aP A) b n ω ρ := hV.fr (fun q q1 q2 => ⟨hF1.1 q (by omega), by rw [hF1.2.1]⟩) hF1.2.2.2.2.1
  have hz := (hV.pi.2.2.2.1 k hkn).2.2.2.1
  refine vX8_setListening_17 gk ⟨_, rfl, (hV1.ss hkn).ty, hy, fun σ2 e2 => ⟨by rw [hV1.h4 hkn]; exact hz, ?_⟩⟩
  rw [si_sS] at e2
  subst e2
  rw [hV1.h4 hkn]
  obtain ⟨g1, g2⟩ := hC.mod (Nat.le_refl b) hF1 hH1 (Fr.sS (by omega) (by omega)) (hR1.ear hV.p0 hn4 hkn hy)
  exact hk k (by omega) es (by rw [hV.p0]; exact nI_lt hkn (by omega)) hz _ g1 g2
theorem c_hear (gk : GOK G) (hst : STR G) (hb : b < 2 ^ 28) (hC : CIV σ x A b) {s y : Int32} (hc : isC y) (h1 : ¬ shP (aP A) s → ∀ k, K (.inr "java/lang/IndexOutOfBoundsException") (sk σ k)) (h2 : shP (aP A) s → ¬ jrP (aP A) y → ∀ k, K (.inr "java/util/NoSuchElementException") (sk σ k))
    (hk : ∀ k l : Nat, k < 4 → l < 26 → s = nI k → y = nI (97 + l) → nI k < aP A 0 → aP A (8 + 3 * l) = 1 → ∀ σ', CIV σ' x (Am A (heP (aP A) k l)) (b + 2) → Fc σ σ' x → K (.inl (some (vI (heP (aP A) k l (eX k l + 1))))) σ') : Runs G mX8_hear rX8_hear [vR (some x), vI s, vI y] σ K := by
  have hX := hC.1
  obtain ⟨ω, ρ, n, m, hV, hW, hJ⟩ := id hC.2.1
  have hn4 := hV.n4
  refine eX8_hear gk ⟨_, rfl, hX.1, _, hX.2.1, hV.s.ty, ?_⟩
  rw [hX.2.1]
  refine kX6_hearFault gk hV hc (fun q => vX8_hear_9 gk (rf1 gk hst (h1 q))) (fun q1 q2 => vX8_hear_9 gk (rf2 gk hst (h2 q1 q2))) fun k l hkn hl es ey q1 => vX8_hear_9 gk (rf0 gk hst (vX8_hear_12 gk ⟨_, rfl, hX.1, _, hX.2.2.1, hC.2.2.1.1.1, ?_⟩))
  rw [hX.2.1, hX.2.2.1]
  refine kX3_note gk hC.2.2.1 hC.2.1 (by omega) fun σ1 hH1 hF1 => ?_
  obtain ⟨hX1, hR1⟩ := hC.noted hF1
  refine vX8_hear_23 gk ⟨_, rfl, hX1.1, _, hX1.2.1, by obtain ⟨ω, ρ, n, m, hV, -⟩ := hR1; exact hV.s.ty, ?_⟩
  rw [hX1.2.1, es, ey]
  refine kX6_listenTo gk hb hR1 hV.p0 hn4 hkn hl q1 fun σ2 hR2 hF2 => vX8_hear_32 gk ?_
  obtain ⟨g1, g2⟩ := hC.mod (Nat.le_add_right b 2) hF1 hH1 hF2 hR2
  exact hk k l (by omega) hl es ey (by rw [hV.p0]; exact nI_lt hkn (by omega)) q1 σ2 g1 g2
theorem c_warm (gk : GOK G) (hst : STR G) (hb : b < 2 ^ 29) (hC : CIV σ x A b) {s y z : Int32} {m : Nat} (hP1 : aP A 1 = nI m) (hm8 : m ≤ 8) (hc : isC y) (h1 : ¬ shP (aP A) s → ∀ k, K (.inr "java/lang/IndexOutOfBoundsException") (sk σ k)) (h2 : shP (aP A) s → ¬ jrP (aP A) y → ∀ k, K (.inr "java/util/NoSuchElementException") (sk σ k)) (h3 : shP (aP A) s → jrP (aP A) y → ¬ (¬ z < 1 ∧ ¬ 50 < z) → ∀ k, K (.inr "java/lang/IllegalArgumentException") (sk σ k)) (h4 : shP (aP A) s → jrP (aP A) y → ¬ z < 1 → ¬ 50 < z → m = 8 → ∀ k, K (.inr "java/lang/IllegalStateException") (sk σ k))
    (hk : ∀ k l : Nat, k < 4 → l < 26 → s = nI k → y = nI (97 + l) → nI k < aP A 0 → aP A (8 + 3 * l) = 1 → ¬ z < 1 → ¬ 50 < z → m < 8 → ∀ σ', CIV σ' x (Am A (wtP (wsP (aP A 2 + z) m (aP A)).2 (wsP (aP A 2 + z) m (aP A)).1 (aP A 2 + z) s y)) b → Fc σ σ' x → K (.inl (some (vI (nI (wsP (aP A 2 + z) m (aP A)).1)))) σ') : Runs G mX8_warm rX8_warm [vR (some x), vI s, vI y, vI z] σ K := by
  have hX := hC.1
  obtain ⟨ω, ρ, n, m', hV, hW, hJ⟩ := id hC.2.1
  have hn4 := hV.n4
  have hm' := hW.2.1
  obtain rfl : m' = m := (nI_eq (by omega) (by omega)).mp (hm'.2.symm.trans hP1)
  refine eX8_warm gk ⟨_, rfl, hX.1, _, hX.2.1, hV.s.ty, ?_⟩
  rw [hX.2.1]
  refine kX6_warmFault gk hV hm8 hW.1 hc (fun q => vX8_warm_10 gk (rf1 gk hst (h1 q))) (fun q1 q2 => vX8_warm_10 gk (rf2 gk hst (h2 q1 q2))) (fun q1 q2 q3 => vX8_warm_10 gk (rf3 gk hst (h3 q1 q2 q3))) (fun q1 q2 q3 q4 q5 => vX8_warm_10 gk (rf4 gk hst (h4 q1 q2 q3 q4 q5))) fun k l hkn hl es ey q1 q2 q3 q4 => vX8_warm_10 gk (rf0 gk hst (vX8_warm_13 gk ⟨_, rfl, hX.1, _, hX.2.2.1, hC.2.2.1.1.1, ?_⟩))
  rw [hX.2.1, hX.2.2.1]
  refine kX3_note gk hC.2.2.1 hC.2.1 (by omega) fun σ1 hH1 hF1 => ?_
  obtain ⟨hX1, hR1⟩ := hC.noted hF1
  obtain ⟨ω1, ρ1, n1, m1, hV1, hW1, hJ1⟩ := hR1
  have hn14 := hV1.n4
  obtain rfl : m1 = m' := (nI_eq (by have := hW1.2.1.1; omega) (by omega)).mp (hW1.2.1.2.symm.trans hP1)
  obtain rfl : n1 = n := (nI_eq (by omega) (by omega)).mp (hV1.p0.symm.trans hV.p0)
  refine vX8_warm_24 gk ⟨_, rfl, hX1.1, _, hX1.2.1, hV1.s.ty, ?_⟩
  rw [hX1.2.1, es, ey]
  refine kX6_planWarming gk hb hV1 hW1 hJ1 hkn hl q4 q2 q3 fun σ2 hR2 hF2 => vX8_warm_34 gk ?_
  obtain ⟨g1, g2⟩ := hC.mod (Nat.le_refl b) hF1 hH1 hF2 hR2
  have := hk k l (by omega) hl es ey (by rw [hV.p0]; exact nI_lt hkn (by omega)) q1 q2 q3 q4 σ2
  rw [es, ey] at this
  exact this g1 g2
theorem c_cancelWarming (gk : GOK G) (hst : STR G) (hC : CIV σ x A b) {s : Int32} {m : Nat} (hP1 : aP A 1 = nI m) (hm8 : m ≤ 8) (h1 : ¬ (∃ i : Nat, i < m ∧ s = nI i) → ∀ k, K (.inr "java/lang/IndexOutOfBoundsException") (sk σ k))
    (hk : ∀ i : Nat, i < m → s = nI i → ∀ σ', CIV σ' x (Am A (cwP (aP A) i m)) b → Fc σ σ' x → K (.inl (some (vI (nI (m - 1))))) σ') : Runs G mX8_cancelWarming rX8_cancelWarming [vR (some x), vI s] σ K := by
  have hX := hC.1
  refine eX8_cancelWarming gk ⟨_, rfl, hX.1, cWantWarming gk hst hX hC.2.1 hP1 hm8 h1 fun i e n ω ρ hV hW hJ hi es he => vX8_cancelWarming_5 gk ⟨_, rfl, hX.1, _, hX.2.2.1, hC.2.2.1.1.1, ?_⟩⟩
  rw [hX.2.1, hX.2.2.1]
  refine kX3_note gk hC.2.2.1 hC.2.1 (by omega) fun σ1 hH1 hF1 => ?_
  obtain ⟨hX1, hR1⟩ := hC.noted hF1
  have hV1 : RV σ1 (x + 1) (aP A) b n ω ρ := hV.fr (fun q q1 q2 => ⟨hF1.1 q (by omega), by rw [hF1.2.1]⟩) hF1.2.2.2.2.1
  have hW1 : RW σ1 ω (aP A) n m b := hW.mem hV.s (fun q q1 q2 => hF1.1 q (by omega)) hW.1 hW.2
  refine vX8_cancelWarming_17 gk ⟨_, rfl, hX1.1, _, hX1.2.1, hV1.s.ty, ?_⟩
  rw [hX1.2.1]
  refine kX6_removeWarming gk hV1 hW1 hJ hi he fun σ2 hR2 hF2 => ?_
  obtain ⟨g1, g2⟩ := hC.mod (Nat.le_refl b) hF1 hH1 hF2 hR2
  obtain ⟨ω2, ρ2, n2, m2, hV2, hW2, hJ2⟩ := hR2
  refine vX8_cancelWarming_25 gk ⟨_, rfl, g1.1.1, _, g1.1.2.1, hV2.s.ty, ?_⟩
  rw [g1.1.2.1]
  refine kX6_countWarmings gk hV2.s hW2.2.1.1 hW2.1 (vX8_cancelWarming_32 gk ?_)
  have e2 : nI m2 = nI (m - 1) := hW2.2.1.2.symm.trans cwP_1
  rw [e2]
  exact hk i hi es σ2 g1 g2
theorem c_pass (gk : GOK G) (hst : STR G) (hb : b < 2 ^ 27) (hC : CIV σ x A b) {y : Int32} (h1 : ¬ (¬ y < 1 ∧ ¬ 60 < y) → ∀ k, K (.inr "java/lang/IllegalArgumentException") (sk σ k))
    (hk : ∀ i : Nat, i ≤ 60 → y = nI i → 0 < i → ∀ σ', CIV σ' x (Am A (pP (aP A) i).1) (b + 540) → Fc σ σ' x → K (.inl (some (vI (nI (pP (aP A) i).2)))) σ') : Runs G mX8_pass rX8_pass [vR (some x), vI y] σ K := by
  have hX := hC.1
  have hty : ∀ σ', RS σ' (x + 1) (aP A) b → (mt σ' (x + 1)).1 = 7 := fun σ' h => by obtain ⟨ω, ρ, n, m, hV, -⟩ := h; exact hV.s.ty
  refine eX8_pass gk ⟨_, rfl, hX.1, _, hX.2.1, hty _ hC.2.1, ?_⟩
  rw [hX.2.1]
  refine kX6_passFault gk (fun q => vX8_pass_8 gk (rf3 gk hst (h1 q))) fun q1 q2 => vX8_pass_8 gk (rf0 gk hst (vX8_pass_11 gk ⟨_, rfl, hX.1, _, hX.2.2.1, hC.2.2.1.1.1, ?_⟩))
  obtain ⟨i, hi, ei⟩ : ∃ i : Nat, i ≤ 60 ∧ y = nI i := nI_of2 (M := 60) (n := 60) rfl (fun z => q1 (by rw [Int32.lt_iff_toInt_lt] at z ⊢; exact Int.lt_trans z (by decide))) (Int32.not_lt.mp q2)
  have hi0 : 0 < i := by
    rcases Nat.eq_zero_or_pos i with z | z
    · rw [ei, z] at q1; exact absurd (by decide) q1
    · exact z
  rw [hX.2.1, hX.2.2.1]
  refine kX3_note gk hC.2.2.1 hC.2.1 (by omega) fun σ1 hH1 hF1 => ?_
  obtain ⟨hX1, hR1⟩ := hC.noted hF1
  refine vX8_pass_22 gk ⟨_, rfl, hX1.1, _, hX1.2.1, hty _ hR1, ?_⟩
  rw [hX1.2.1, ei]
  refine kX6_letPass gk hb hR1 hi fun σ2 hR2 hF2 => vX8_pass_30 gk ?_
  obtain ⟨g1, g2⟩ := hC.mod (b' := b + 540) (by omega) hF1 hH1 hF2 (hR2.mono (by omega))
  exact hk i hi ei hi0 σ2 g1 g2
end UD
