/-! ===== lines: the shelves ===== -/
section LNM
variable {G : GG} {σ : Mm} {K : RES → Mm → Prop} {x b n : Nat} {A : AS}
theorem o_writeShelf (ok : OKS G) (hQ : QS σ x A b n) {s : Int32} (hs : ¬ shP (aP A) s) (h : ∀ j, K (.inl (some (vI (-11)))) (sk σ j)) : RunsH G mL_writeShelf hL_writeShelf rL_writeShelf [vR (some x), vI s] σ K :=
  hL_writeShelf_run ok.1 ok.2.1 hQ.1.1.1 (c_writeShelf ok.1 ok.2.2.2 ok.2.2.1 hQ.2.2.2.2 hQ.1 (fun _ j => ⟨0, -11, rfl, h j⟩) (fun k' hk4 e e2 => absurd (by rw [e]; exact shP_lt hQ.shB hk4 e2) hs))
/-- what is below the class's object stays -/
def BL (σ0 σ : Mm) (x : Nat) : Prop := ∀ q, q < x → mi σ q = mi σ0 q ∧ mt σ q = mt σ0 q
theorem BL.trans {σ0 σ σ' : Mm} (h : BL σ0 σ x) (h' : BL σ σ' x) : BL σ0 σ' x := fun q hq => ⟨(h' q hq).1.trans (h q hq).1, (h' q hq).2.trans (h q hq).2⟩
theorem BL.sk (j : Nat) : BL σ (sk σ j) x := fun _ _ => ⟨rfl, rfl⟩
theorem Fr2.bl {σ' : Mm} (h : Fr2 σ σ') (hz : x ≤ mz σ) : BL σ σ' x := fun q hq => ⟨(h.1 q (by omega)).1, (h.1 q (by omega)).2.2.2.2⟩
theorem FrX.bl {σ' : Mm} (h : FrX σ σ' x) : BL σ σ' x := fun q hq => ⟨(h.1 q (by omega) (by omega) (by omega)).1, h.2.1 q (by omega)⟩
theorem FY.bl {σ' : Mm} (h : FY σ σ' x) (hz : x ≤ mz σ) : BL σ σ' x := fun q hq => ⟨(h.1 q (by omega) (Or.inl hq)).1, (h.2.1 q (by omega)).2⟩
theorem LV.sk (h : LV σ x) (j : Nat) : LV (sk σ j) x := by
  obtain ⟨v, e, hv⟩ := h
  exact ⟨v, e, Nat.lt_of_lt_of_le hv (Nat.le_add_right _ _)⟩
set_option maxRecDepth 50000 in
theorem ln_row (ok : OKS G) {k U V : Nat} (hk : k < n) {σs : Mm} (hU : U ≤ 3000) (hV : V ≤ 150000) (hls : LV σs x) (hzs : x + 788 ≤ mz σs)
    (kk : ∀ σ' N f, QS σ' x (Aln A N f) b n → LV σ' x → BL σs σ' x → At G mL_lines rL_lines U V 2 [some (vR (some x)), some (vI (nI (k + 1))), none, none, none] [] σ' K) : ∀ d i l (σ : Mm) q f uc us, i + d = ecN (aP A) k → cnt (eP (aP A) k) l = i → QS σ x A b n → LV σ x → Fr2 σs σ → TXT G σs σ q (lnP (aP A) k l).1 f → EQn (lnP (aP A) k l).1 f (lnP (aP A) k l).2 → uc + 40 * d + 140 ≤ U → us + 2000 * d + 5000 ≤ V → At G mL_lines rL_lines uc us 16 [some (vR (some x)), some (vI (nI k)), some (vR (some q)), some (vI (nI i)), none] [] σ K := by
  intro d
  induction d with
  | zero =>
    intro i l σ q f uc us hi hc hQ hl hF hT hE hu1 hu2
    have he6 := hQ.ec hk
    have el : lnP (aP A) k l = lnP (aP A) k 26 := lnP_eq (hc.trans hi)
    rw [el] at hT hE
    refine vL_lines_16 ok.1 ⟨_, rfl, hQ.1.1.1, by omega, by omega, d_echoCount ok hQ hk ?_⟩
    refine vL_lines_22 ok.1 ⟨fun _ => ⟨by omega, by omega, ?_⟩, fun z => absurd (nI_le (by omega) (by omega)) z⟩
    refine hL_writeShelf_run ok.1 ok.2.1 hQ.1.1.1 (c_writeShelf ok.1 ok.2.2.2 ok.2.2.1 hQ.2.2.2.2 hQ.1 (fun z => absurd (hQ.sh hk) z) fun k' hk4 e e0 h36 σ' hC hX => ⟨_, rfl, ?_⟩)
    obtain rfl := hQ.kk hk hk4 e
    have hQ' : QS σ' x (Aln A (lnP (aP A) k 26).1 (lnP (aP A) k 26).2) b n := ⟨hC, hQ.2.1, hQ.2.2.1, hQ.2.2.2.1, Nat.le_trans hQ.2.2.2.2 hX.2.2.1⟩
    obtain ⟨v0, e0', hv0⟩ := hls
    have hv : mr σ (x + 786) 0 = some v0 := by rw [(hF.1 (x + 786) (by omega)).2.1]; exact e0'
    obtain ⟨hfr, v', ev', hv', hvv⟩ := hX.2.2.2 v0 hv (Nat.lt_of_lt_of_le hv0 hF.2)
    have hl' : LV σ' x := ⟨v', ev', hv'⟩
    have hbl : BL σs σ' x := (hF.bl (by omega)).trans hX.bl
    have hS : ∃ w g, SVw G σ' q w (lnP (aP A) k 26).1 g ∧ ∀ j, j < (lnP (aP A) k 26).1 → g j = (lnP (aP A) k 26).2 j := by
      obtain ⟨t1, t2, t3⟩ := hT
      rcases t3 with ⟨t3, v, t4⟩ | ⟨v, ⟨h1, h2, h3, h4, ⟨h5, h5'⟩, h6⟩, t5, t6⟩
      · refine ⟨0, fun j => ([] : List Int32).getD j 0, ⟨fun j hj => by omega, by omega, Or.inl ⟨v, ?_⟩⟩, fun j hj => by omega⟩
        rw [t3]; exact t4
      · obtain ⟨a1, a2, a3⟩ := hfr q h5 (by omega) (by omega)
        obtain ⟨b1, b2, b3⟩ := hfr v h5' (by omega) (by omega)
        refine ⟨v + 1, f, ⟨t1, t2, Or.inr ⟨v, by omega, by rw [a3]; exact h1, by rw [a2]; exact h2, by rw [a1]; exact h3, by rw [b3]; exact h4, ⟨Nat.lt_of_lt_of_le h5 hX.2.2.1, Nat.lt_of_lt_of_le h5' hX.2.2.1⟩, fun j hj => by rw [b1]; exact h6 j hj⟩⟩, hE⟩
    obtain ⟨w, g, hS, hg⟩ := hS
    refine vL_lines_135 ok.1 ⟨by omega, by omega, t_spells (A := Aln A (lnP (aP A) k 26).1 (lnP (aP A) k 26).2) ok hQ' hS hg fun j => ?_⟩
    refine vL_lines_139 ok.1 ⟨fun _ => ?_, fun z => absurd z (by decide)⟩
    rw [show nI k + 1 = nI (k + 1) from nI_1 _]
    exact (kk (_root_.Jvm.Pilot.CEchoPantryLaw_law_r7337_af6445.sk σ' j) _ _ (hQ'.sk j) (hl'.sk j) (hbl.trans (BL.sk j))).widen (by omega) (by omega)
  | succ d ih =>
    intro i l σ q f uc us hi hc hQ hl hF hT hE hu1 hu2
    obtain ⟨l', hnt⟩ := nth_ex (p := eP (aP A) k) (n := 26) (i := i) (show i < ecN (aP A) k by omega)
    obtain ⟨hl26, hlp, hcl⟩ := nth_lt hnt
    exact ln_step ok (l := l') hQ hl hF hk (by omega) hnt (lnP_eq (hc.trans hcl.symm)) hT hE (by omega) (by omega) fun σ' q' f' hQ' hl' hF' hT' hE' => ih (i + 1) (l' + 1) σ' q' f' _ _ (by omega) (by rw [cnt_t hlp, hcl]) hQ' hl' hF' hT' hE' (by omega) (by omega)
set_option maxRecDepth 50000 in
theorem ln_rows (ok : OKS G) {σ0 : Mm} : ∀ d k (σ : Mm) (A : AS) uc us, k + d = n → QS σ x A b n → LV σ x → BL σ0 σ x → (∀ σ' N f, QS σ' x (Aln A N f) b n → BL σ0 σ' x → K (.inl (some (vI 1))) σ') → uc + 500 * d + 100 ≤ 3000 → us + 20000 * d + 9000 ≤ 150000 → At G mL_lines rL_lines uc us 2 [some (vR (some x)), some (vI (nI k)), none, none, none] [] σ K := by
  intro d
  induction d with
  | zero =>
    intro k σ A uc us hi hQ hl hb hK hu1 hu2
    obtain rfl : k = n := by omega
    have hn4 := hQ.2.2.2.1
    refine vL_lines_2 ok.1 ⟨_, rfl, hQ.1.1.1, by omega, by omega, c_shelfCount ok.1 hQ.1.1 hQ.1.2.1 ?_⟩
    rw [hQ.2.2.1]
    refine vL_lines_7 ok.1 ok.2.2.2 ⟨fun _ => ⟨_, rfl, hQ.1.1.1, by omega, by omega, c_shelfCount ok.1 hQ.1.1 hQ.1.2.1 ?_⟩, fun z => absurd (nI_le (by omega) (by omega)) z⟩
    rw [hQ.2.2.1]
    refine vL_lines_155 ok.1 ⟨by omega, by omega, o_writeShelf ok hQ hQ.no fun j => ?_⟩
    refine vL_lines_158 ok.1 ⟨fun z => absurd rfl z, fun _ => ⟨by omega, by omega, o_writeShelf ok (hQ.sk j) sh_m1 fun j' => ?_⟩⟩
    exact vL_lines_168 ok.1 ⟨fun z => absurd rfl z, fun _ => ⟨by omega, by omega, hK _ (aln A) (alt A) ((hQ.sk j).sk j') ((hb.trans (BL.sk j)).trans (BL.sk j'))⟩⟩
  | succ d ih =>
    intro k σ A uc us hi hQ hl hb hK hu1 hu2
    have hn4 := hQ.2.2.2.1
    have he6 := hQ.ec (k := k) (by omega)
    refine vL_lines_2 ok.1 ⟨_, rfl, hQ.1.1.1, by omega, by omega, c_shelfCount ok.1 hQ.1.1 hQ.1.2.1 ?_⟩
    rw [hQ.2.2.1]
    refine vL_lines_7 ok.1 ok.2.2.2 ⟨fun z => absurd z (nI_ge (by omega) (by omega)), fun _ q hq => ?_⟩
    exact ln_row (U := uc + 500) (V := us + 20000) ok (show k < n by omega) (by omega) (by omega) hl hQ.2.2.2.2 (fun σ' N f hQ' hl' hb' => ih (k + 1) σ' (Aln A N f) _ _ (by omega) hQ' hl' (hb.trans hb') (fun σ'' N' f' h1 h2 => hK σ'' N' f' h1 h2) (by omega) (by omega)) (ecN (aP A) k) 0 0 σ q (fun _ => 0) _ _ (by omega) rfl hQ hl Fr2.refl ⟨fun j hj => absurd hj (Nat.not_lt_zero _), Nat.zero_le _, Or.inl ⟨rfl, hq⟩⟩ (fun j hj => absurd hj (Nat.not_lt_zero _)) (by omega) (by omega)
set_option maxRecDepth 50000 in
theorem t_lines (ok : OKS G) (hQ : QS σ x A b n) (hK : ∀ σ' N f, QS σ' x (Aln A N f) b n → BL σ σ' x → K (.inl (some (vI 1))) σ') : Runs G mL_lines rL_lines [vR (some x)] σ K := by
  refine Runs.ofHK fun hZ => ?_
  have hn4 := hQ.2.2.2.1
  exact eL_lines ok.1 (ln_rows ok n 0 σ A 0 0 (by omega) hQ (LV.of hQ.1 hZ) (fun q _ => ⟨rfl, rfl⟩) hK (by omega) (by omega))
end LNM
