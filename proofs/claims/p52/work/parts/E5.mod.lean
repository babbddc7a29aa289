/-! ===== what the law changes: what stays ===== -/
/-- the same jars, the same number of shelves -/
def LK (P Q : Nat → Int32) : Prop := Q 0 = P 0 ∧ ∀ l, l < 26 → Q (8 + 3 * l) = P (8 + 3 * l)
theorem LK.refl {P : Nat → Int32} : LK P P := ⟨rfl, fun _ _ => rfl⟩
theorem LK.trans {P Q R : Nat → Int32} (h : LK P Q) (h' : LK Q R) : LK P R := ⟨h'.1.trans h.1, fun l hl => (h'.2 l hl).trans (h.2 l hl)⟩
theorem LK.up {P Q : Nat → Int32} {j : Nat} {v : Int32} (h : LK P Q) (h0 : j ≠ 0) (hj : ∀ l, l < 26 → j ≠ 8 + 3 * l) : LK P (upd Q j v) := ⟨(pk_un (Ne.symm h0)).trans h.1, fun l hl => (pk_un (Ne.symm (hj l hl))).trans (h.2 l hl)⟩
theorem LK.ft {P : Nat → Int32} {k l : Nat} (hl : l < 26) : LK P (ftP P k l) := ⟨ftP_o hl (by omega) fun m hm i hi => by unfold eX; omega, fun l' hl' => ftP_o hl (by omega) fun m hm i hi => by unfold eX; omega⟩
theorem LK.ht {P : Nat → Int32} {k l : Nat} : LK P (htP P k l) := by
  unfold htP
  refine LK.up (LK.up (LK.up (LK.up (LK.up LK.refl ?_ ?_) ?_ ?_) ?_ ?_) ?_ ?_) ?_ ?_ <;> first | omega | (intro l' _; omega) | (unfold eX; omega) | (intro l' _; unfold eX; omega)
theorem LK.he {P : Nat → Int32} {k l : Nat} (hl : l < 26) : LK P (heP P k l) := by
  unfold heP
  have u : ∀ j v, j = 5 ∨ j = 6 ∨ j = 7 → LK P (ftP (upd P j v) k l) := fun j v hj => LK.trans (LK.up LK.refl (by omega) (fun l' _ => by omega)) (LK.ft hl)
  split
  · exact LK.ht
  · split
    · exact u _ _ (by omega)
    · split
      · exact u _ _ (by omega)
      · exact u _ _ (by omega)
theorem LK.sy {P : Nat → Int32} {l n : Nat} {w : Int32} (hl : l < 26) : LK P (syP P l w n) := ⟨syP_o (by omega) (by omega) (by omega) fun i hi => by unfold eX; omega, fun l' hl' => syP_o (by omega) (by omega) (by omega) fun i hi => by unfold eX; omega⟩
theorem LK.wt {P : Nat → Int32} {m : Nat} {t s y : Int32} : LK P (wtP (wsP t m P).2 (wsP t m P).1 t s y) := by
  obtain ⟨h1, h2, -⟩ := wsP_ok (m := t) m P
  have h : LK P (wsP t m P).2 := ⟨h2 0 (by omega), fun l hl => h2 _ (by omega)⟩
  unfold wtP
  exact ((((h.up (by omega) (fun l' _ => by omega)).up (by omega) (fun l' _ => by omega)).up (by omega) (fun l' _ => by omega)).up (by omega) (fun l' _ => by omega))
theorem LK.ear {P : Nat → Int32} {k : Nat} {y : Int32} : LK P (upd P (86 + 187 * k + 3) y) := LK.up LK.refl (by omega) fun l' _ => by omega
theorem LK.cw {P : Nat → Int32} {n : Nat} : LK P (cwP P 0 n) := ⟨cwP_lo (by omega) (by omega), fun l hl => cwP_lo (by omega) (by omega)⟩
theorem pI_lk : ∀ (n : Nat) (Q : Nat → Int32) (c : Nat), WOK Q n → LK Q (pI n Q c).1 ∧ (pI n Q c).2 ≤ c + n
  | 0, Q, c, h => ⟨LK.refl, Nat.le_refl _⟩
  | n + 1, Q, c, h => by
    unfold pI
    split
    · split
      · obtain ⟨k, l, hk, hl, e1, e2, e3⟩ := h.2.2 0 (by omega)
        rw [show (Q 835).toNatClampNeg = k by rw [show Q 835 = nI k from e1, nI_clamp (by omega)], show (Q 836).toNatClampNeg - 97 = l by rw [show Q 836 = nI (97 + l) from e2, nI_clamp (by omega)]; omega]
        have ih := pI_lk n (ftP (cwP Q 0 (n + 1)) k l) (c + 1) (h.cw.ft hk hl)
        exact ⟨(LK.cw.trans (LK.ft hl)).trans ih.1, by omega⟩
      · have ih := pI_lk n (cwP Q 0 (n + 1)) c h.cw
        exact ⟨LK.cw.trans ih.1, by omega⟩
    · exact ⟨LK.refl, by omega⟩
theorem pP_lk {P : Nat → Int32} {n : Nat} (h : WOK P n) : ∀ j, LK P (pP P j).1 ∧ (pP P j).2 ≤ 8 * j
  | 0 => ⟨LK.refl, Nat.le_refl _⟩
  | j + 1 => by
    obtain ⟨n', h'⟩ := pP_ok h j
    obtain ⟨i1, i2⟩ := pP_lk h j
    have e : ((pP P j).1 1).toNatClampNeg = n' := by rw [h'.2.1, nI_clamp (by have := h'.1; omega)]
    have hh := pI_lk n' (upd (pP P j).1 2 ((pP P j).1 2 + 1)) (pP P j).2 h'.tm
    unfold pP
    rw [e]
    have h8 := h'.1
    exact ⟨(i1.trans (LK.up LK.refl (by omega) fun l' _ => by omega)).trans hh.1, by omega⟩
theorem WOK_of {P : Nat → Int32} {n m b : Nat} (hP : PI P n b) (hW : PW P n m b) : WOK P m := by
  refine ⟨hW.1.1, hW.1.2, fun i hi => ?_⟩
  obtain ⟨-, -, ⟨k, hk, ek⟩, ⟨l, hl, e2⟩⟩ := hW.2.1 i hi
  have hn4 := hP.1.1
  refine ⟨k, l, by omega, hl, ek, e2, fun z => ?_⟩
  have := (hP.2.2.2.1 k hk).1
  rw [z, Int32.toInt_zero] at this
  omega
theorem rmC_n {P : Nat → Int32} {n b l : Nat} (hP : PI P n b) (hl : l < 26) : ∀ k, k ≤ n → ∃ q, q ≤ k ∧ rmC P l k = nI q
  | 0, _ => ⟨0, Nat.le_refl _, rfl⟩
  | k + 1, hk => by
    obtain ⟨q, hq, e⟩ := rmC_n hP hl k (by omega)
    have hz := (hP.2.2.2.2.1 k l (by omega) hl).1
    unfold rmC
    rw [e]
    rcases hz with h | h
    · exact ⟨q, by omega, by rw [h, Int32.add_zero]⟩
    · exact ⟨q + 1, by omega, by rw [h]; exact nI_1 _⟩
/-- nothing but the class's cells has changed of what was there -/
def FY (σ σ' : Mm) (x : Nat) : Prop := (∀ q, q < mz σ → q < x ∨ x + 786 ≤ q → mi σ' q = mi σ q ∧ mr σ' q = mr σ q) ∧ (∀ q, q < mz σ → ml σ' q = ml σ q ∧ mt σ' q = mt σ q) ∧ mz σ ≤ mz σ'
theorem FY.refl {σ : Mm} {x : Nat} : FY σ σ x := ⟨fun _ _ _ => ⟨rfl, rfl⟩, fun _ _ => ⟨rfl, rfl⟩, Nat.le_refl _⟩
theorem FY.trans {σ σ' σ'' : Mm} {x : Nat} (h : FY σ σ' x) (h' : FY σ' σ'' x) : FY σ σ'' x := by
  have hz := h.2.2
  refine ⟨fun q h1 h2 => ?_, fun q h1 => ?_, Nat.le_trans h.2.2 h'.2.2⟩
  · obtain ⟨a1, a2⟩ := h.1 q h1 h2
    obtain ⟨b1, b2⟩ := h'.1 q (by omega) h2
    exact ⟨b1.trans a1, b2.trans a2⟩
  · obtain ⟨a1, a2⟩ := h.2.1 q h1
    obtain ⟨b1, b2⟩ := h'.2.1 q (by omega)
    exact ⟨b1.trans a1, b2.trans a2⟩
theorem FY.sk {σ : Mm} {x : Nat} (j : Nat) : FY σ (sk σ j) x := ⟨fun _ _ _ => ⟨rfl, rfl⟩, fun _ _ => ⟨rfl, rfl⟩, Nat.le_add_right _ _⟩
theorem Fc.fy {σ σ' : Mm} {x : Nat} (h : Fc σ σ' x) : FY σ σ' x := ⟨fun q _ h2 => h.1 q h2, fun q _ => ⟨by rw [h.2.1], by rw [h.2.2.2.1]⟩, by rw [h.2.2.2.2]; exact Nat.le_refl _⟩
/-- no modification -/
def OK1 (A A' : AS) : Prop := aP A' = aP A ∧ aW A' = aW A ∧ aj A' = aj A
/-- one modification more -/
def OK2 (A A' : AS) : Prop := aW A' = pushW (aW A) (aj A) (aP A) ∧ aj A' = pshN (aj A)
/-- what the law owes behind a call that may change the state: it threw and nothing has changed, or it is one step to be undone -/
def MK (K : RES → Mm → Prop) (σ : Mm) (x : Nat) (A : AS) (b : Nat) : Prop :=
  (∀ (v : Int32) (σ' : Mm) (A' : AS), v < 0 → CIV σ' x A' b → OK1 A A' → FY σ σ' x → K (.inl (some (vI v))) σ') ∧
  (∀ (v : Int32) (σ' : Mm) (A' : AS), ¬ v < 0 → CIV σ' x A' (b + 5400) → OK2 A A' → FY σ σ' x → K (.inl (some (vI v))) σ')
section MODS
variable {G : GG} {σ : Mm} {K : RES → Mm → Prop} {x b : Nat} {A : AS}
theorem MK.bad (h : MK K σ x A b) (hC : CIV σ x A b) {c : Int32} (hc : c < 0) (j : Nat) : K (.inl (some (vI c))) (sk σ j) := h.1 c _ A hc (hC.sk j) ⟨rfl, rfl, rfl⟩ (FY.sk j)
theorem MK.am (h : MK K σ x A b) {σ' : Mm} {P' : Nat → Int32} {b' : Nat} {v : Int32} (hb' : b' ≤ b + 5400) (hC' : CIV σ' x (Am A P') b') (hF : Fc σ σ' x) (hv : ¬ v < 0) : K (.inl (some (vI v))) σ' := h.2 v σ' _ hv (hC'.mono hb') ⟨rfl, rfl⟩ hF.fy
theorem n_addJar (ok : OKS G) (hC : CIV σ x A b) (hb : b < 2 ^ 21) {y w : Int32} (hc : isC y) (h : MK K σ x A b) : RunsH G mL_addJar hL_addJar rL_addJar [vR (some x), vI y, vI w] σ K :=
  hL_addJar_run ok.1 ok.2.1 hC.1.1 (c_addJar ok.1 ok.2.2.1 (Nat.lt_of_lt_of_le hb (by decide)) hC hc (fun _ j => ⟨0, -1, rfl, h.bad hC (by decide) j⟩) (fun _ _ _ _ j => ⟨1, -2, rfl, h.bad hC (by decide) j⟩) (fun l hl e _ _ _ _ σ' hC' hF => ⟨_, rfl, h.am (by omega) hC' hF (nI_pos (by have := cnt_le (fun l' => aJ (aP A) l w (8 + 3 * l') = 1) 26; unfold jrN; omega))⟩))
theorem n_removeJar (ok : OKS G) (hC : CIV σ x A b) (hb : b < 2 ^ 21) {y : Int32} (hc : isC y) (h : MK K σ x A b) : RunsH G mL_removeJar hL_removeJar rL_removeJar [vR (some x), vI y] σ K := by
  refine hL_removeJar_run ok.1 ok.2.1 hC.1.1 (c_removeJar ok.1 ok.2.2.1 (Nat.lt_of_lt_of_le hb (by decide)) hC hc (fun _ j => ⟨0, -1, rfl, h.bad hC (by decide) j⟩) (fun l n hn h0 hl e _ σ' hC' hF => ⟨_, rfl, h.am (by omega) hC' hF ?_⟩))
  obtain ⟨n', m, hP, -, -⟩ := hC.pi
  have e : n' = n := (nI_eq (by have := hP.1.1; omega) (by omega)).mp (hP.1.2.symm.trans h0)
  subst e
  obtain ⟨q, hq, e⟩ := rmC_n hP hl n' (Nat.le_refl _)
  show ¬ rmC (aP A) l n' < 0
  rw [e]
  exact nI_pos (by omega)
theorem n_say (ok : OKS G) (hC : CIV σ x A b) (hb : b < 2 ^ 21) {y w : Int32} (hc : isC y) (h : MK K σ x A b) : RunsH G mL_say hL_say rL_say [vR (some x), vI y, vI w] σ K :=
  hL_say_run ok.1 ok.2.1 hC.1.1 (c_say ok.1 ok.2.2.1 (Nat.lt_of_lt_of_le hb (by decide)) hC hc (fun _ j => ⟨0, -1, rfl, h.bad hC (by decide) j⟩) (fun _ _ j => ⟨1, -2, rfl, h.bad hC (by decide) j⟩) (fun l n hn h0 hl e _ _ _ σ' hC' hF => ⟨_, rfl, h.am (by omega) hC' hF (nI_pos (by have := cnt_le (syI (aP A) l) n; omega))⟩))
theorem n_addShelf (ok : OKS G) (hC : CIV σ x A b) {c f p : Int32} (h : MK K σ x A b) : RunsH G mL_addShelf hL_addShelf rL_addShelf [vR (some x), vI c, vI f, vI p] σ K := by
  obtain ⟨n, m, hP, -, -⟩ := hC.pi
  exact hL_addShelf_run ok.1 ok.2.1 hC.1.1 (c_addShelf ok.1 ok.2.2.1 hC hP.1.2 hP.1.1 (fun _ j => ⟨0, -1, rfl, h.bad hC (by decide) j⟩) (fun _ _ j => ⟨1, -2, rfl, h.bad hC (by decide) j⟩) (fun _ hn4 σ' hC' hF => ⟨_, rfl, h.am (by omega) hC' hF (nI_pos (by omega))⟩))
theorem n_listen (ok : OKS G) (hC : CIV σ x A b) {s y : Int32} (hy : isZ y) (h : MK K σ x A b) : RunsH G mL_listen hL_listen rL_listen [vR (some x), vI s, vI y] σ K :=
  hL_listen_run ok.1 ok.2.1 hC.1.1 (c_setListening ok.1 ok.2.2.1 hC hy (fun _ j => ⟨0, -1, rfl, h.bad hC (by decide) j⟩) (fun k _ _ _ _ σ' hC' hF => ⟨_, rfl, h.am (by omega) hC' hF zo_nn⟩))
/-- what hear answers is a word -/
theorem he_nn {σ' : Mm} {b' k l n : Nat} (hC' : CIV σ' x (Am A (heP (aP A) k l)) b') (h0 : aP A 0 = nI n) (hn : n ≤ 4) (hk : k < n) (hl : l < 26) : ¬ heP (aP A) k l (eX k l + 1) < 0 := by
  obtain ⟨n', m, hP, -, -⟩ := hC'.pi
  have hP : PI (heP (aP A) k l) n' b' := hP
  have e0 : heP (aP A) k l 0 = nI n := (LK.he hl).1.trans h0
  have e : n' = n := (nI_eq (by have := hP.1.1; omega) (by omega)).mp (hP.1.2.symm.trans e0)
  subst e
  have h1 : heP (aP A) k l (eX k l) = 1 := by
    have hft : ∀ Q : Nat → Int32, ftP Q k l (eX k l) = 1 := fun Q => fx3_e.1
    unfold heP
    split
    · next q =>
      have hp : aP A (eX k l) = 1 := Classical.byContradiction fun z => by
        unfold ouP at q
        rw [if_neg z] at q
        exact absurd q (by decide)
      unfold htP
      rw [pk_un (by unfold eX; omega), pk_un (by unfold eX; omega), pk_un (by unfold eX; omega), pk_un (by omega), pk_un (by omega)]
      exact hp
    · split
      · exact hft _
      · split
        · exact hft _
        · exact hft _
  exact nn0 ((hP.2.2.2.2.1 k l hk hl).2 h1).1.1
theorem n_hear (ok : OKS G) (hC : CIV σ x A b) (hb : b < 2 ^ 21) {s y : Int32} (hc : isC y) (h : MK K σ x A b) : RunsH G mL_hear hL_hear rL_hear [vR (some x), vI s, vI y] σ K := by
  obtain ⟨n, m, hP, -, -⟩ := hC.pi
  refine hL_hear_run ok.1 ok.2.1 hC.1.1 (c_hear ok.1 ok.2.2.1 (Nat.lt_of_lt_of_le hb (by decide)) hC hc (fun _ j => ⟨0, -1, rfl, h.bad hC (by decide) j⟩) (fun _ _ j => ⟨1, -2, rfl, h.bad hC (by decide) j⟩) (fun k l hk4 hl e e1 h0 _ σ' hC' hF => ⟨_, rfl, h.am (by omega) hC' hF ?_⟩))
  refine he_nn hC' hP.1.2 hP.1.1 ?_ hl
  rw [hP.1.2] at h0
  exact (nI_ltI (by omega) (by have := hP.1.1; omega)).mp h0
theorem n_warm (ok : OKS G) (hC : CIV σ x A b) (hb : b < 2 ^ 21) {s y z : Int32} (hc : isC y) (h : MK K σ x A b) : RunsH G mL_warm hL_warm rL_warm [vR (some x), vI s, vI y, vI z] σ K := by
  obtain ⟨n, m, hP, hW, -⟩ := hC.pi
  refine hL_warm_run ok.1 ok.2.1 hC.1.1 (c_warm ok.1 ok.2.2.1 (Nat.lt_of_lt_of_le hb (by decide)) hC hW.1.2 hW.1.1 hc (fun _ j => ⟨0, -1, rfl, h.bad hC (by decide) j⟩) (fun _ _ j => ⟨1, -2, rfl, h.bad hC (by decide) j⟩) (fun _ _ _ j => ⟨2, -3, rfl, h.bad hC (by decide) j⟩) (fun _ _ _ _ _ j => ⟨3, -4, rfl, h.bad hC (by decide) j⟩) (fun k l hk4 hl e e1 h0 _ _ _ hm σ' hC' hF => ⟨_, rfl, h.am (by omega) hC' hF (nI_pos ?_)⟩))
  have := (wsP_ok (m := aP A 2 + z) m (aP A)).1
  omega
theorem n_cancel (ok : OKS G) (hC : CIV σ x A b) {s : Int32} (h : MK K σ x A b) : RunsH G mL_cancel hL_cancel rL_cancel [vR (some x), vI s] σ K := by
  obtain ⟨n, m, hP, hW, -⟩ := hC.pi
  have hm8 := hW.1.1
  exact hL_cancel_run ok.1 ok.2.1 hC.1.1 (c_cancelWarming ok.1 ok.2.2.1 hC hW.1.2 hW.1.1 (fun _ j => ⟨0, -1, rfl, h.bad hC (by decide) j⟩) (fun i hi e σ' hC' hF => ⟨_, rfl, h.am (by omega) hC' hF (nI_pos (by omega))⟩))
theorem n_pass (ok : OKS G) (hC : CIV σ x A b) (hb : b < 2 ^ 21) {y : Int32} (h : MK K σ x A b) : RunsH G mL_pass hL_pass rL_pass [vR (some x), vI y] σ K := by
  obtain ⟨n, m, hP, hW, -⟩ := hC.pi
  exact hL_pass_run ok.1 ok.2.1 hC.1.1 (c_pass ok.1 ok.2.2.1 (Nat.lt_of_lt_of_le hb (by decide)) hC (fun _ j => ⟨0, -1, rfl, h.bad hC (by decide) j⟩) (fun i hi e _ σ' hC' hF => ⟨_, rfl, h.am (by omega) hC' hF (nI_pos (by have := (pP_lk (WOK_of hP hW) i).2; omega))⟩))
theorem n_undo (ok : OKS G) (hC : CIV σ x A b) (h0 : 0 < aj A) (h : ∀ σ', CIV σ' x (Asn A (aW A (aj A - 1)) (aj A - 1) (asv A) (aV A)) b → FY σ σ' x → K (.inl (some (vI (nI (aj A - 1))))) σ') : RunsH G mL_undo hL_undo rL_undo [vR (some x)] σ K :=
  hL_undo_run ok.1 ok.2.1 hC.1.1 (c_undo ok.1 ok.2.2.1 hC (fun z => absurd z (by omega)) (fun _ σ' hC' hF => ⟨_, rfl, h σ' hC' hF.fy⟩))
end MODS
