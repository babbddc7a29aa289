/-! ===== the class: a State's shape, its values, and what they have to do with the model's row P ===== -/
/-- a whole number from 0 to b -/
def NB (x : Int32) (b : Nat) : Prop := 0 ≤ x.toInt ∧ x.toInt ≤ (b : Int)
def nr (n : Nat) (f : Nat → Int32) : Nat → Int32 := fun k => if k < n then f k else 0
theorem nr_s {n k : Nat} {f : Nat → Int32} (h : k < n) : nr n f k = f k := if_pos h
def bfR (p : Int32) (r s : Nat → Int32) : Prop := (p = 114 ∧ r 5 < s 5) ∨ (p = 108 ∧ r 6 < s 6) ∨ (p = 108 ∧ r 6 = s 6 ∧ r 4 < s 4) ∨ (¬ p = 114 ∧ ¬ p = 108 ∧ r 4 < s 4)
def ltR (p : Int32) (r s : Nat → Int32) : Prop := ¬ r 0 = 0 ∧ (s 0 = 0 ∨ bfR p r s)
def srR (p : Int32) (rs : List (Nat → Int32)) : Prop := rs.Pairwise fun r s => ¬ ltR p s r
/-- where the things of a State at st lie -/
def stS (σ : Mm) (st : Nat) (ω : List Nat) (ρ : Nat → List Nat) : Prop :=
  ((mt σ st).1 = 7 ∧ mr σ st 0 = some (st + 1) ∧ mt σ (st + 1) = (55, 26) ∧ mr σ st 1 = some (st + 2) ∧ mt σ (st + 2) = (56, 4) ∧ mr σ st 2 = some (st + 3) ∧ mt σ (st + 3) = (57, 8)) ∧
  (∀ l, l < 26 → mr σ (st + 1) l = some (st + 4 + l) ∧ (mt σ (st + 4 + l)).1 = 5) ∧
  (∀ k, k < 4 → mr σ (st + 2) k = some (st + 30 + 8 * k) ∧ shS σ (st + 30 + 8 * k) (ρ k) ∧ (ρ k).Perm (List.range' (st + 32 + 8 * k) 6)) ∧
  ((∀ i e, ω[i]? = some e → mr σ (st + 3) i = some e) ∧ ω.Perm (List.range' (st + 62) 8) ∧ ∀ e, e ∈ ω → (mt σ e).1 = 8)
def vJ (σ : Mm) (st l : Nat) : Nat → Int32 := nr 4 (mi σ (st + 4 + l))
def vH (σ : Mm) (st k : Nat) : Nat → Int32 := nr 6 (mi σ (st + 30 + 8 * k))
def vE (σ : Mm) (L : List Nat) : List (Nat → Int32) := L.map fun e => nr 9 (mi σ e)
def vW (σ : Mm) (L : List Nat) : List (Nat → Int32) := L.map fun e => nr 4 (mi σ e)
def vG (σ : Mm) (st : Nat) : Nat → Int32 := fun k => if 3 ≤ k ∧ k < 9 then mi σ st k else 0
/-- the jar of number l -/
def JV (J : Nat → Nat → Int32) (P : Nat → Int32) (b : Nat) : Prop := ∀ l, l < 26 → J l 0 = P (8 + 3 * l) ∧ J l 1 = P (8 + 3 * l + 1) ∧ J l 3 = P (8 + 3 * l + 2) ∧ NB (J l 2) b
/-- one echo: its row against the model's places -/
def eV (J : Nat → Nat → Int32) (P : Nat → Int32) (k l : Nat) (r : Nat → Int32) : Prop := P (eX k l) = 1 ∧ r 2 = P (eX k l + 1) ∧ r 3 = P (eX k l + 2) ∧ r 4 = P (eX k l + 3) ∧ r 5 = P (eX k l + 4) ∧ r 6 = P (eX k l + 5) ∧ r 8 = P (eX k l + 6) ∧ (r 7).toInt ≤ (J l 2).toInt ∧ 0 ≤ (r 7).toInt ∧ (r 7 = J l 2 ↔ P (8 + 3 * l + 2) < P (eX k l + 3))
/-- the echoes of the shelf k -/
def EV (J : Nat → Nat → Int32) (P : Nat → Int32) (k : Nat) (p : Int32) (rs : List (Nat → Int32)) : Prop :=
  rs.length = 6 ∧ (∀ r, r ∈ rs → isZ (r 0) ∧ isZ (r 8) ∧ isC (r 1)) ∧ (∀ r, r ∈ rs → r 0 = 1 → ∃ l, l < 26 ∧ r 1 = nI (97 + l) ∧ eV J P k l r) ∧
  (∀ l, l < 26 → P (eX k l) = 1 → ∃ r, r ∈ rs ∧ r 0 = 1 ∧ r 1 = nI (97 + l)) ∧ rs.Pairwise (fun r s => r 0 = 1 → s 0 = 1 → r 1 ≠ s 1) ∧ srR p rs
/-- a shelf that isn't there -/
def EN (rs : List (Nat → Int32)) : Prop := rs.length = 6 ∧ (∀ r, r ∈ rs → r 0 = 0 ∧ isZ (r 8) ∧ isC (r 1))
def HV (H : Nat → Int32) (P : Nat → Int32) (k : Nat) : Prop := H 0 = 1 ∧ H 1 = P (86 + 187 * k) ∧ H 2 = P (86 + 187 * k + 1) ∧ H 3 = P (86 + 187 * k + 2) ∧ H 4 = P (86 + 187 * k + 3) ∧ H 5 = P (86 + 187 * k + 4)
def HN (H : Nat → Int32) : Prop := H 0 = 0 ∧ H 1 = 0 ∧ H 4 = 0 ∧ isC (H 3)
def GV (g : Nat → Int32) (P : Nat → Int32) : Prop := g 3 = P 2 ∧ g 4 = P 3 ∧ g 5 = P 4 ∧ g 6 = P 5 ∧ g 7 = P 6 ∧ g 8 = P 7
def WV (W : List (Nat → Int32)) (P : Nat → Int32) (m : Nat) : Prop := W.length = 8 ∧ (∀ w, w ∈ W → isC (w 3)) ∧ ∀ i w, W[i]? = some w → (i < m → w 0 = 1 ∧ w 1 = P (834 + 3 * i) ∧ w 2 = P (834 + 3 * i + 1) ∧ w 3 = P (834 + 3 * i + 2)) ∧ (m ≤ i → w 0 = 0)
/-- what is so of the model's row, with n shelves, all steps, minutes and counts at most b -/
def PI (P : Nat → Int32) (n b : Nat) : Prop :=
  (n ≤ 4 ∧ P 0 = nI n) ∧ (NB (P 2) b ∧ NB (P 3) b ∧ NB (P 4) b ∧ NB (P 5) b ∧ NB (P 6) b ∧ NB (P 7) b) ∧
  (∀ l, l < 26 → isZ (P (8 + 3 * l)) ∧ NB (P (8 + 3 * l + 1)) 99 ∧ 0 ≤ (P (8 + 3 * l + 2)).toInt ∧ (P (8 + 3 * l + 2)).toInt ≤ (P 3).toInt ∧ (P (8 + 3 * l) = 1 → (P (8 + 3 * l + 2)).toInt < (P 3).toInt)) ∧
  (∀ k, k < n → 1 ≤ (P (86 + 187 * k)).toInt ∧ (P (86 + 187 * k)).toInt ≤ 6 ∧ isC (P (86 + 187 * k + 2)) ∧ isZ (P (86 + 187 * k + 3)) ∧ NB (P (86 + 187 * k + 4)) b ∧ (ecN P k : Int) ≤ (P (86 + 187 * k)).toInt) ∧
  (∀ k l, k < n → l < 26 → isZ (P (eX k l)) ∧ (P (eX k l) = 1 → NB (P (eX k l + 1)) 99 ∧ 0 ≤ (P (eX k l + 2)).toInt ∧ (P (eX k l + 2)).toInt ≤ (P 2).toInt ∧ 0 ≤ (P (eX k l + 3)).toInt ∧ (P (eX k l + 3)).toInt < (P 3).toInt ∧ 0 ≤ (P (eX k l + 4)).toInt ∧ (P (eX k l + 4)).toInt < (P 3).toInt ∧ NB (P (eX k l + 5)) b ∧ isZ (P (eX k l + 6)) ∧ (P (8 + 3 * l + 2) < P (eX k l + 3) → P (eX k l + 1) = P (8 + 3 * l + 1)))) ∧
  (∀ k l l', k < n → l < 26 → l' < 26 → l ≠ l' → P (eX k l) = 1 → P (eX k l') = 1 → P (eX k l + 3) ≠ P (eX k l' + 3) ∧ P (eX k l + 4) ≠ P (eX k l' + 4)) ∧ jrN P ≤ 12
/-- the model's m warmings -/
def PW (P : Nat → Int32) (n m b : Nat) : Prop := (m ≤ 8 ∧ P 1 = nI m) ∧
  (∀ i, i < m → (P 2).toInt < (P (834 + 3 * i)).toInt ∧ (P (834 + 3 * i)).toInt ≤ (b : Int) + 50 ∧ (∃ k, k < n ∧ P (834 + 3 * i + 1) = nI k) ∧ (∃ l, l < 26 ∧ P (834 + 3 * i + 2) = nI (97 + l))) ∧
  (∀ i, i + 1 < m → (P (834 + 3 * i)).toInt ≤ (P (834 + 3 * (i + 1))).toInt)
/-- no echo without its jar -/
def EJ (P : Nat → Int32) (n : Nat) : Prop := ∀ k l, k < n → l < 26 → P (eX k l) = 1 → P (8 + 3 * l) = 1
/-- the values of a State, the warmings aside, are those of the model's row -/
def VV2 (J : Nat → Nat → Int32) (H : Nat → Nat → Int32) (E : Nat → List (Nat → Int32)) (g : Nat → Int32) (P : Nat → Int32) (n b : Nat) : Prop :=
  PI P n b ∧ JV J P b ∧ GV g P ∧ (∀ k, k < n → HV (H k) P k ∧ EV J P k (P (86 + 187 * k + 2)) (E k)) ∧ ∀ k, k < 4 → n ≤ k → HN (H k) ∧ EN (E k)
/-- shape and values -/
def RV (σ : Mm) (st : Nat) (P : Nat → Int32) (b n : Nat) (ω : List Nat) (ρ : Nat → List Nat) : Prop := stS σ st ω ρ ∧ VV2 (vJ σ st) (vH σ st) (fun k => vE σ (ρ k)) (vG σ st) P n b
def RW (σ : Mm) (ω : List Nat) (P : Nat → Int32) (n m b : Nat) : Prop := WV (vW σ ω) P m ∧ PW P n m b
/-- the State at st is the model's row P -/
def RS (σ : Mm) (st : Nat) (P : Nat → Int32) (b : Nat) : Prop := ∃ (ω : List Nat) (ρ : Nat → List Nat) (n m : Nat), RV σ st P b n ω ρ ∧ RW σ ω P n m b ∧ EJ P n
/-- nothing but the 70 cells from st on has changed -/
def Fr (σ σ' : Mm) (st : Nat) : Prop := (∀ q, q < st ∨ st + 70 ≤ q → mi σ' q = mi σ q ∧ mr σ' q = mr σ q) ∧ ml σ' = ml σ ∧ md σ' = md σ ∧ mt σ' = mt σ ∧ mz σ' = mz σ
theorem Fr.refl {σ : Mm} {st : Nat} : Fr σ σ st := ⟨fun _ _ => ⟨rfl, rfl⟩, rfl, rfl, rfl, rfl⟩
theorem Fr.trans {σ σ' σ'' : Mm} {st : Nat} (h : Fr σ σ' st) (h' : Fr σ' σ'' st) : Fr σ σ'' st := ⟨fun q hq => ⟨((h'.1 q hq).1).trans (h.1 q hq).1, ((h'.1 q hq).2).trans (h.1 q hq).2⟩, h'.2.1.trans h.2.1, h'.2.2.1.trans h.2.2.1, h'.2.2.2.1.trans h.2.2.2.1, h'.2.2.2.2.trans h.2.2.2.2⟩
theorem Fr.sS {σ : Mm} {st e : Nat} {f : Nat → Int32} (h1 : st ≤ e) (h2 : e < st + 70) : Fr σ (sS σ e f) st := ⟨fun q hq => ⟨sS_n (by omega), rfl⟩, rfl, rfl, rfl, rfl⟩
theorem Fr.sO {σ : Mm} {st o : Nat} {L : List Nat} (h1 : st ≤ o) (h2 : o < st + 70) : Fr σ (sO σ o L) st := ⟨fun q hq => ⟨rfl, sO_n (by omega)⟩, rfl, rfl, rfl, rfl⟩
theorem isZ01 {x : Int32} (h : isZ x) : ¬ x = 0 ↔ x = 1 := by
  rcases h with h | h <;> subst h <;> decide
theorem mem_rng {a n e : Nat} : e ∈ List.range' a n ↔ a ≤ e ∧ e < a + n := by
  rw [List.mem_range'_1]
theorem stS.ty {σ : Mm} {st : Nat} {ω : List Nat} {ρ : Nat → List Nat} (h : stS σ st ω ρ) : (mt σ st).1 = 7 := h.1.1
theorem stS.r0 {σ : Mm} {st : Nat} {ω : List Nat} {ρ : Nat → List Nat} (h : stS σ st ω ρ) : mr σ st 0 = some (st + 1) := h.1.2.1
theorem stS.t0 {σ : Mm} {st : Nat} {ω : List Nat} {ρ : Nat → List Nat} (h : stS σ st ω ρ) : mt σ (st + 1) = (55, 26) := h.1.2.2.1
theorem stS.r1 {σ : Mm} {st : Nat} {ω : List Nat} {ρ : Nat → List Nat} (h : stS σ st ω ρ) : mr σ st 1 = some (st + 2) := h.1.2.2.2.1
theorem stS.t1 {σ : Mm} {st : Nat} {ω : List Nat} {ρ : Nat → List Nat} (h : stS σ st ω ρ) : mt σ (st + 2) = (56, 4) := h.1.2.2.2.2.1
theorem stS.r2 {σ : Mm} {st : Nat} {ω : List Nat} {ρ : Nat → List Nat} (h : stS σ st ω ρ) : mr σ st 2 = some (st + 3) := h.1.2.2.2.2.2.1
theorem stS.t2 {σ : Mm} {st : Nat} {ω : List Nat} {ρ : Nat → List Nat} (h : stS σ st ω ρ) : mt σ (st + 3) = (57, 8) := h.1.2.2.2.2.2.2
theorem stS.j {σ : Mm} {st : Nat} {ω : List Nat} {ρ : Nat → List Nat} (h : stS σ st ω ρ) {l : Nat} (hl : l < 26) : mr σ (st + 1) l = some (st + 4 + l) ∧ (mt σ (st + 4 + l)).1 = 5 := h.2.1 l hl
theorem stS.s {σ : Mm} {st : Nat} {ω : List Nat} {ρ : Nat → List Nat} (h : stS σ st ω ρ) {k : Nat} (hk : k < 4) : mr σ (st + 2) k = some (st + 30 + 8 * k) ∧ shS σ (st + 30 + 8 * k) (ρ k) ∧ (ρ k).Perm (List.range' (st + 32 + 8 * k) 6) := h.2.2.1 k hk
theorem stS.e {σ : Mm} {st : Nat} {ω : List Nat} {ρ : Nat → List Nat} (h : stS σ st ω ρ) {k e : Nat} (hk : k < 4) (he : e ∈ ρ k) : st + 32 + 8 * k ≤ e ∧ e < st + 38 + 8 * k := by
  have := mem_rng.mp ((h.s hk).2.2.mem_iff.mp he)
  omega
theorem stS.w {σ : Mm} {st : Nat} {ω : List Nat} {ρ : Nat → List Nat} (h : stS σ st ω ρ) {e : Nat} (he : e ∈ ω) : st + 62 ≤ e ∧ e < st + 70 := by
  have := mem_rng.mp (h.2.2.2.2.1.mem_iff.mp he)
  omega
theorem stS.wl {σ : Mm} {st : Nat} {ω : List Nat} {ρ : Nat → List Nat} (h : stS σ st ω ρ) : ω.length = 8 := by
  have := h.2.2.2.2.1.length_eq
  simpa using this
/-- the shape in another memory whose references are the same -/
theorem stS.mv {σ σ' : Mm} {st : Nat} {ω : List Nat} {ρ : Nat → List Nat} (h : stS σ st ω ρ) (h1 : mr σ' = mr σ) (h2 : mt σ' = mt σ) : stS σ' st ω ρ := by unfold stS shS; rw [h1, h2]; exact h
theorem stS.fr {σ σ' : Mm} {st : Nat} {ω : List Nat} {ρ : Nat → List Nat} (h : stS σ st ω ρ) (h1 : ∀ q, st ≤ q → q < st + 70 → mr σ' q = mr σ q) (h2 : mt σ' = mt σ) : stS σ' st ω ρ := by
  have e0 := h1 st (by omega) (by omega)
  have e1 := h1 (st + 1) (by omega) (by omega)
  have e2 := h1 (st + 2) (by omega) (by omega)
  have e3 := h1 (st + 3) (by omega) (by omega)
  refine ⟨by rw [e0, h2]; exact h.1, fun l hl => by rw [e1, h2]; exact h.2.1 l hl, fun k hk => ?_, by rw [e3, h2]; exact h.2.2.2⟩
  have := h.s hk
  rw [e2]
  refine ⟨this.1, ?_, this.2.2⟩
  unfold shS
  rw [h1 (st + 30 + 8 * k) (by omega) (by omega), h1 (st + 30 + 8 * k + 1) (by omega) (by omega), h2]
  exact this.2.1
theorem RV.fr {σ σ' : Mm} {st b n : Nat} {P : Nat → Int32} {ω : List Nat} {ρ : Nat → List Nat} (h : RV σ st P b n ω ρ) (h1 : ∀ q, st ≤ q → q < st + 70 → mi σ' q = mi σ q ∧ mr σ' q = mr σ q) (h2 : mt σ' = mt σ) : RV σ' st P b n ω ρ := by
  obtain ⟨hS, hV⟩ := h
  refine ⟨hS.fr (fun q a b => (h1 q a b).2) h2, ?_⟩
  have eJ : ∀ l, l < 26 → vJ σ' st l = vJ σ st l := fun l hl => by unfold vJ; rw [(h1 _ (by omega) (by omega)).1]
  have eH : ∀ k, k < 4 → vH σ' st k = vH σ st k := fun k hk => by unfold vH; rw [(h1 _ (by omega) (by omega)).1]
  have eE : ∀ k, k < 4 → vE σ' (ρ k) = vE σ (ρ k) := fun k hk => by
    unfold vE
    refine List.map_congr_left fun e he => ?_
    have := hS.e hk he
    rw [(h1 e (by omega) (by omega)).1]
  have eG : vG σ' st = vG σ st := by unfold vG; rw [(h1 st (by omega) (by omega)).1]
  obtain ⟨hP, hJ, hG, hE, hN⟩ := hV
  have hn := hP.1.1
  refine ⟨hP, fun l hl => by rw [eJ l hl]; exact hJ l hl, by rw [eG]; exact hG, fun k hk => ?_, fun k hk hk2 => ?_⟩
  · rw [eH k (by omega)]
    refine ⟨(hE k hk).1, ?_⟩
    show EV _ _ _ _ (vE σ' (ρ k))
    rw [eE k (by omega)]
    obtain ⟨a1, a2, a3, a4, a5, a6⟩ := (hE k hk).2
    refine ⟨a1, a2, fun r hr h0 => ?_, a4, a5, a6⟩
    obtain ⟨l, hl, q1, q2⟩ := a3 r hr h0
    refine ⟨l, hl, q1, ?_⟩
    unfold eV
    rw [eJ l hl]
    exact q2
  · rw [eH k hk]
    refine ⟨(hN k hk hk2).1, ?_⟩
    show EN (vE σ' (ρ k))
    rw [eE k hk]
    exact (hN k hk hk2).2
theorem RS.fr {σ σ' : Mm} {st b : Nat} {P : Nat → Int32} (h : RS σ st P b) (h1 : ∀ q, st ≤ q → q < st + 70 → mi σ' q = mi σ q ∧ mr σ' q = mr σ q) (h2 : mt σ' = mt σ) : RS σ' st P b := by
  obtain ⟨ω, ρ, n, m, hV, hW, hJ⟩ := h
  have eW : vW σ' ω = vW σ ω := by
    unfold vW
    refine List.map_congr_left fun e he => ?_
    have := hV.1.w he
    rw [(h1 e (by omega) (by omega)).1]
  refine ⟨ω, ρ, n, m, hV.fr h1 h2, ?_, hJ⟩
  unfold RW
  rw [eW]
  exact hW
