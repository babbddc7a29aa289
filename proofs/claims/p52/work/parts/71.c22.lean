/-! ===== the class: the history ===== -/
theorem xor_pos {a c : Nat} (ha : a < 2 ^ 31) (hc : c < 2 ^ 31) : 0 ≤ (nI a ^^^ nI c) := by
  have m1 : ∀ n : Nat, n < 2 ^ 31 → (nI n).toBitVec.msb = false := fun n hn => by
    rw [BitVec.msb_eq_false_iff_two_mul_lt, pk_tn (by omega)]
    omega
  rw [Int32.le_iff_toInt_le]
  show (0 : Int) ≤ ((nI a).toBitVec ^^^ (nI c).toBitVec).toInt
  rw [BitVec.toInt_eq_toNat_of_msb (by rw [BitVec.msb_xor, m1 a ha, m1 c hc]; rfl)]
  omega
theorem kJ9_floorMod {G : GG} {σ : Mm} {K : RES → Mm → Prop} (gk : GOK G) {a : Nat} (ha : a < 2 ^ 31) (hK : K (.inl (some (vI (nI (a % 9))))) σ) : Runs G mJ9_floorMod_7cf53 rJ9_floorMod_7cf53 [vI (nI a), vI 9] σ K := by
  have e : nI a - nI a / 9 * 9 = nI (a % 9) := pk_rem (d := 9) ha (by omega) (by omega)
  refine eJ9_floorMod_7cf53 gk ⟨by decide, fun _ => ?_, fun q => absurd (xor_pos (c := 9) ha (by omega)) q⟩
  rw [e]; exact hK
/-- nothing but whole numbers in the cells from lo to hi has changed -/
def Fb (σ σ' : Mm) (lo hi : Nat) : Prop := (∀ q, q < lo ∨ hi ≤ q → mi σ' q = mi σ q) ∧ mr σ' = mr σ ∧ ml σ' = ml σ ∧ md σ' = md σ ∧ mt σ' = mt σ ∧ mz σ' = mz σ
theorem Fb.refl {σ : Mm} {lo hi : Nat} : Fb σ σ lo hi := ⟨fun _ _ => rfl, rfl, rfl, rfl, rfl, rfl⟩
theorem Fb.trans {σ σ' σ'' : Mm} {lo hi : Nat} (h : Fb σ σ' lo hi) (h' : Fb σ' σ'' lo hi) : Fb σ σ'' lo hi := ⟨fun q hq => (h'.1 q hq).trans (h.1 q hq), h'.2.1.trans h.2.1, h'.2.2.1.trans h.2.2.1, h'.2.2.2.1.trans h.2.2.2.1, h'.2.2.2.2.1.trans h.2.2.2.2.1, h'.2.2.2.2.2.trans h.2.2.2.2.2⟩
theorem Fb.mono {σ σ' : Mm} {lo hi lo' hi' : Nat} (h : Fb σ σ' lo hi) (h1 : lo' ≤ lo) (h2 : hi ≤ hi') : Fb σ σ' lo' hi' := ⟨fun q hq => h.1 q (by omega), h.2⟩
theorem Fb.sS {σ : Mm} {lo hi e : Nat} {f : Nat → Int32} (h1 : lo ≤ e) (h2 : e < hi) : Fb σ (sS σ e f) lo hi := ⟨fun q hq => sS_n (by omega), rfl, rfl, rfl, rfl, rfl⟩
theorem Fi.fb {σ σ' : Mm} {st lo hi : Nat} (h : Fi σ σ' st) (h1 : lo ≤ st) (h2 : st + 70 ≤ hi) : Fb σ σ' lo hi := ⟨fun q hq => h.1 q (by omega), h.2⟩
theorem SHP.mv {σ σ' : Mm} {st : Nat} (h : SHP σ st) (h1 : mr σ' = mr σ) (h2 : mt σ' = mt σ) : SHP σ' st := by
  obtain ⟨ω, ρ, h⟩ := h
  exact ⟨ω, ρ, h.mv h1 h2⟩
theorem SHP.fr {σ σ' : Mm} {st : Nat} (h : SHP σ st) (h1 : ∀ q, st ≤ q → q < st + 70 → mr σ' q = mr σ q) (h2 : mt σ' = mt σ) : SHP σ' st := by
  obtain ⟨ω, ρ, h⟩ := h
  exact ⟨ω, ρ, h.fr h1 h2⟩
/-- the history at hi: its row at hi + 1, its nine States behind -/
def HSh (σ : Mm) (hi : Nat) : Prop := (mt σ hi).1 = 4 ∧ mr σ hi 0 = some (hi + 1) ∧ mt σ (hi + 1) = (59, 9) ∧ ∀ i, i < 9 → mr σ (hi + 1) i = some (hi + 2 + 70 * i) ∧ SHP σ (hi + 2 + 70 * i)
/-- it keeps j States W, the first in row f -/
def HV2 (σ : Mm) (hi : Nat) (W : Nat → Nat → Int32) (f j b : Nat) : Prop := j ≤ 8 ∧ mi σ hi 2 = nI j ∧ f < 9 ∧ mi σ hi 1 = nI f ∧ ∀ i, i < j → RS σ (hi + 2 + 70 * ((f + i) % 9)) (W i) b
def HI (σ : Mm) (hi : Nat) (W : Nat → Nat → Int32) (j b : Nat) : Prop := HSh σ hi ∧ ∃ f, HV2 σ hi W f j b
theorem HSh.fr {σ σ' : Mm} {hi : Nat} (h : HSh σ hi) (h1 : ∀ q, hi ≤ q → q < hi + 632 → mr σ' q = mr σ q) (h2 : mt σ' = mt σ) : HSh σ' hi := by
  obtain ⟨a1, a2, a3, a4⟩ := h
  refine ⟨by rw [h2]; exact a1, by rw [h1 hi (by omega) (by omega)]; exact a2, by rw [h2]; exact a3, fun i hi9 => ⟨by rw [h1 (hi + 1) (by omega) (by omega)]; exact (a4 i hi9).1, (a4 i hi9).2.fr (fun q q1 q2 => h1 q (by omega) (by omega)) h2⟩⟩
theorem HI.fr {σ σ' : Mm} {hi j b : Nat} {W : Nat → Nat → Int32} (h : HI σ hi W j b) (h1 : ∀ q, hi ≤ q → q < hi + 632 → mi σ' q = mi σ q ∧ mr σ' q = mr σ q) (h2 : mt σ' = mt σ) : HI σ' hi W j b := by
  obtain ⟨hS, f, c1, c2, c3, c4, c5⟩ := h
  exact ⟨hS.fr (fun q a c => (h1 q a c).2) h2, f, c1, by rw [(h1 hi (by omega) (by omega)).1]; exact c2, c3, by rw [(h1 hi (by omega) (by omega)).1]; exact c4, fun i hij => (c5 i hij).fr (fun q q1 q2 => h1 q (by omega) (by omega)) h2⟩
theorem HI.mono {σ : Mm} {hi j b b' : Nat} {W : Nat → Nat → Int32} (h : HI σ hi W j b) (hb : b ≤ b') : HI σ hi W j b' := by
  obtain ⟨hS, f, c1, c2, c3, c4, c5⟩ := h
  exact ⟨hS, f, c1, c2, c3, c4, fun i hij => (c5 i hij).mono hb⟩
theorem HI.cg {σ : Mm} {hi j b : Nat} {W W' : Nat → Nat → Int32} (h : HI σ hi W j b) (e : ∀ i, i < j → ∀ k, k < 858 → W' i k = W i k) : HI σ hi W' j b := by
  obtain ⟨hS, f, c1, c2, c3, c4, c5⟩ := h
  exact ⟨hS, f, c1, c2, c3, c4, fun i hij => (c5 i hij).cg (e i hij)⟩
/-- one State more is kept -/
def pushW (W : Nat → Nat → Int32) (j : Nat) (P : Nat → Int32) : Nat → Nat → Int32 := if j = 8 then fun i => if i = 7 then P else W (i + 1) else fun i => if i = j then P else W i
section TB
variable {G : GG} {σ : Mm} {K : RES → Mm → Prop} {hi so b f j : Nat} {W : Nat → Nat → Int32} {P : Nat → Int32}
theorem kX3_row (gk : GOK G) (hS : HSh σ hi) (hf : f < 9) (h1 : mi σ hi 1 = nI f) {i : Nat} (hi9 : i < 9) (hK : K (.inl (some (vR (some (hi + 2 + 70 * ((f + i) % 9)))))) σ) : Runs G mX3_row rX3_row [vR (some hi), vI (nI i)] σ K := by
  obtain ⟨a1, a2, a3, a4⟩ := hS
  have hm : (f + i) % 9 < 9 := Nat.mod_lt _ (by omega)
  refine eX3_row gk ⟨_, rfl, a1, ?_⟩
  rw [h1, nI_add]
  refine kJ9_floorMod gk (by omega) (vX3_row_15 gk ⟨_, a2, 9, a3, vp_in_nI hm (by omega), ?_⟩)
  rw [nI_clamp (by omega), (a4 _ hm).1]
  exact hK
/-- the State at so goes into the row behind -/
theorem kX3_keep (gk : GOK G) (hS : HSh σ hi) (hV : HV2 σ hi W f j b) (hR : RS σ so P b) (hap : so + 70 ≤ hi ∨ hi + 632 ≤ so) (hK : ∀ σ', HSh σ' hi → HV2 σ' hi W f j b → RS σ' (hi + 2 + 70 * ((f + j) % 9)) P b → Fb σ σ' hi (hi + 632) → K (.inl none) σ') : Runs G mX3_keep rX3_keep [vR (some hi), vR (some so)] σ K := by
  obtain ⟨c1, c2, c3, c4, c5⟩ := id hV
  have hm : (f + j) % 9 < 9 := Nat.mod_lt _ (by omega)
  have hsh := (hS.2.2.2 _ hm).2
  refine eX3_keep gk ⟨_, rfl, hS.1, ?_⟩
  rw [c2]
  refine kX3_row gk hS c3 c4 (by omega) (vX3_keep_8 gk ⟨_, rfl, ?_, kX6_copyFrom gk (by omega) hsh hR fun σ' hR' hF => vX3_keep_12 gk ?_⟩)
  · obtain ⟨ω, ρ, h⟩ := hsh
    exact h.ty
  · refine hK σ' (hS.fr (fun q _ _ => by rw [hF.2.1]) hF.2.2.2.2.1) ⟨c1, by rw [hF.1 hi (by omega)]; exact c2, c3, by rw [hF.1 hi (by omega)]; exact c4, fun i hij => ?_⟩ hR' (hF.fb (by omega) (by omega))
    have hne : (f + i) % 9 ≠ (f + j) % 9 := by omega
    have hm2 : (f + i) % 9 < 9 := Nat.mod_lt _ (by omega)
    exact (c5 i hij).fr (fun q q1 q2 => ⟨hF.1 q (by omega), by rw [hF.2.1]⟩) hF.2.2.2.2.1
theorem kX3_confirm (gk : GOK G) (hS : HSh σ hi) (hV : HV2 σ hi W f j b) (hR : RS σ (hi + 2 + 70 * ((f + j) % 9)) P b) (hK : ∀ σ', HI σ' hi (pushW W j P) (pshN j) b → Fb σ σ' hi (hi + 632) → K (.inl none) σ') : Runs G mX3_confirm rX3_confirm [vR (some hi)] σ K := by
  obtain ⟨c1, c2, c3, c4, c5⟩ := id hV
  have keep : ∀ (F : Nat → Int32) st X, hi + 2 ≤ st → RS σ st X b → RS (sS σ hi F) st X b := fun F st X h h2 => h2.fr (fun q q1 q2 => ⟨sS_n (by omega), rfl⟩) rfl
  refine eX3_confirm gk ⟨_, rfl, hS.1, fun q => ?_, fun q σ1 e1 => ?_⟩
  · rw [c2] at q
    have hj : j = 8 := by
      have : ¬ j < 8 := fun z => nI_ge z (by omega) q
      omega
    subst hj
    rw [c4, nA1]
    refine kJ9_floorMod gk (by omega) (vX3_confirm_34 gk ⟨_, rfl, hS.1, fun σ1 e1 => ?_⟩)
    rw [si_sS] at e1
    subst e1
    refine hK _ ⟨hS.fr (fun _ _ _ => rfl) rfl, (f + 1) % 9, by unfold pshN; simp, ?_, Nat.mod_lt _ (by omega), ?_, fun i hij => ?_⟩ (Fb.sS (by omega) (by omega))
    · rw [sS_s, pk_un (by omega), c2]; rfl
    · rw [sS_s, pk_us]
    · have hi8 : i < 8 := by unfold pshN at hij; simpa using hij
      have e9 : ((f + 1) % 9 + i) % 9 = (f + (i + 1)) % 9 := by omega
      rw [e9]
      unfold pushW
      rw [if_pos rfl]
      by_cases z : i = 7
      · subst z
        rw [if_pos rfl]
        exact keep _ _ _ (by omega) hR
      · rw [if_neg z]
        exact keep _ _ _ (by omega) (c5 (i + 1) (by omega))
  · rw [c2] at q
    have hj : j < 8 := by
      rcases Nat.lt_or_ge j 8 with z | z
      · exact z
      · exact absurd (nI_le (by omega) (by omega)) q
    rw [si_sS] at e1
    subst e1
    have hp : pshN j = j + 1 := by unfold pshN; rw [if_neg (by omega)]
    rw [hp] at hK
    refine hK _ ⟨hS.fr (fun _ _ _ => rfl) rfl, f, by omega, by rw [sS_s, pk_us, c2, nA1], c3, by rw [sS_s, pk_un (by omega)]; exact c4, fun i hij => ?_⟩ (Fb.sS (by omega) (by omega))
    unfold pushW
    rw [if_neg (by omega)]
    by_cases z : i = j
    · subst z
      rw [if_pos rfl]
      exact keep _ _ _ (by omega) hR
    · rw [if_neg z]
      exact keep _ _ _ (by omega) (c5 i (by omega))
theorem kX3_note (gk : GOK G) (hH : HI σ hi W j b) (hR : RS σ so P b) (hap : so + 70 ≤ hi ∨ hi + 632 ≤ so) (hK : ∀ σ', HI σ' hi (pushW W j P) (pshN j) b → Fb σ σ' hi (hi + 632) → K (.inl none) σ') : Runs G mX3_note rX3_note [vR (some hi), vR (some so)] σ K := by
  obtain ⟨hS, f, hV⟩ := hH
  refine eX3_note gk ⟨_, rfl, hS.1, kX3_keep gk hS hV hR hap fun σ1 hS1 hV1 hR1 hF1 => vX3_note_5 gk ⟨_, rfl, hS1.1, kX3_confirm gk hS1 hV1 hR1 fun σ2 hH2 hF2 => vX3_note_9 gk (hK σ2 hH2 (hF1.trans hF2))⟩⟩
theorem kX3_takeBack (gk : GOK G) (hS : HSh σ hi) (hf : f < 9) (h1 : mi σ hi 1 = nI f) (h2 : mi σ hi 2 = nI j) (hj : j < 9) (hR : RS σ (hi + 2 + 70 * ((f + j) % 9)) P b) (hso : SHP σ so) (hap : so + 70 ≤ hi ∨ hi + 632 ≤ so) (hK : ∀ σ', RS σ' so P b → Fi σ σ' so → K (.inl none) σ') : Runs G mX3_takeBack rX3_takeBack [vR (some hi), vR (some so)] σ K := by
  have hm : (f + j) % 9 < 9 := Nat.mod_lt _ (by omega)
  refine eX3_takeBack gk ⟨_, rfl, hS.1, ?_⟩
  rw [h2]
  refine kX3_row gk hS hf h1 hj (vX3_takeBack_9 gk ⟨_, rfl, ?_, kX6_copyFrom gk (by omega) hso hR fun σ' hR' hF => vX3_takeBack_12 gk (hK σ' hR' hF)⟩)
  obtain ⟨ω, ρ, h⟩ := hso
  exact h.ty
theorem kX3_goBack (gk : GOK G) (hH : HI σ hi W (j + 1) b) (hso : SHP σ so) (hap : so + 70 ≤ hi ∨ hi + 632 ≤ so) (hK : ∀ σ', HI σ' hi W j b → RS σ' so (W j) b → (∀ q, q ≠ hi → (q < so ∨ so + 70 ≤ q) → mi σ' q = mi σ q) → mr σ' = mr σ → mt σ' = mt σ → (ml σ' = ml σ ∧ md σ' = md σ ∧ mz σ' = mz σ) → K (.inl none) σ') : Runs G mX3_goBack rX3_goBack [vR (some hi), vR (some so)] σ K := by
  obtain ⟨hS, f, c1, c2, c3, c4, c5⟩ := hH
  refine eX3_goBack gk ⟨_, rfl, hS.1, fun σ1 e1 => ?_⟩
  rw [si_sS, c2, nI_pred] at e1
  subst e1
  have keep : ∀ (F : Nat → Int32) st X, hi + 2 ≤ st → RS σ st X b → RS (sS σ hi F) st X b := fun F st X h h2 => h2.fr (fun q q1 q2 => ⟨sS_n (by omega), rfl⟩) rfl
  have hS1 : HSh (sS σ hi (upd (mi σ hi) 2 (nI j))) hi := hS.fr (fun _ _ _ => rfl) rfl
  refine kX3_takeBack gk hS1 c3 (by rw [sS_s, pk_un (by omega)]; exact c4) (by rw [sS_s, pk_us]) (by omega) (keep _ _ _ (by omega) (c5 j (by omega))) (hso.mv rfl rfl) hap fun σ' hR' hF => vX3_goBack_15 gk ?_
  refine hK σ' ⟨hS1.fr (fun q _ _ => by rw [hF.2.1]) hF.2.2.2.2.1, f, by omega, by rw [hF.1 hi (by omega), sS_s, pk_us], c3, by rw [hF.1 hi (by omega), sS_s, pk_un (by omega)]; exact c4, fun i hij => ?_⟩ hR' (fun q q1 q2 => by rw [hF.1 q q2, sS_n q1]) hF.2.1 hF.2.2.2.2.1 ⟨hF.2.2.1, hF.2.2.2.1, hF.2.2.2.2.2⟩
  have hm : (f + i) % 9 < 9 := Nat.mod_lt _ (by omega)
  exact (keep _ _ _ (by omega) (c5 i (by omega))).fr (fun q q1 q2 => ⟨hF.1 q (by omega), by rw [hF.2.1]⟩) hF.2.2.2.2.1
end TB
