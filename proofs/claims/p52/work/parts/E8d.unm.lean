/-! ===== undone: the loop ===== -/
section UNM
variable {G : GG} {σ : Mm} {K : RES → Mm → Prop} {x a L s : Nat}
theorem UI.ms {b n dn : Nat} {A : AS} (h : UI σ x a L s A b n dn) : ∃ m, m = mi σ a := ⟨_, rfl⟩
set_option maxRecDepth 50000 in
theorem un_loop (ok : OKS G) (hL : L < 2 ^ 31) (hK : ∀ τ, K (.inl (some (vI 1))) τ) : ∀ d i dn σ A b n uc us, i + d = 7 → dn ≤ i → UI σ x a L s A b n dn → b + 5400 * d < 2 ^ 20 → uc + 1130 * d + 3520 ≤ 12000 → us + 7900 * d + 21060 ≤ 80000 → At G mL_undone rL_undone uc us 10 [some (vR (some a)), some (vR (some x)), some (vR (some s)), some (vI (nI dn)), some (vI (nI i)), none, none, none, none] [] σ K := by
  intro d
  induction d with
  | zero =>
    intro i dn σ A b n uc us hi hd h hb hu1 hu2
    refine vL_undone_10 ok.1 ⟨fun _ => ?_, fun z => absurd (nI_le (a := 7) (by omega) (by omega)) z⟩
    exact un_back ok hK _ dn σ A b n uc us h (by omega) (by omega) (by omega)
  | succ d ih =>
    intro i dn σ A b n uc us hi hd h hb hu1 hu2
    have e25 : (25 : Int32) + nI i = nI (25 + i) := nI_add 25 i
    refine vL_undone_10 ok.1 ⟨fun z => absurd z (nI_ge (b := 7) (by omega) (by omega)), fun _ => ⟨by omega, by omega, ?_⟩⟩
    rw [e25]
    refine t_cell ok h.2.1.1 hL (by omega) ?_
    generalize cV L (mi σ a) (25 + i) = w
    obtain ⟨c1, hc1, ec⟩ := us_ex w
    obtain ⟨e1, he1, ee⟩ := us_n hc1 4
    have r18 : (97 : Int32) + (nI e1 - nI e1 / 18 * 18) = nI (97 + e1 % 18) := by
      rw [i_rem (k := 18) (q := 18) (by omega) (by decide) rfl]
      exact nI_add 97 _
    have e18 : e1 % 18 < 18 := Nat.mod_lt _ (by decide)
    refine vL_undone_26 ok.1 ?_
    rw [ec, ee, r18, i2c_nI (by omega)]
    refine ⟨by omega, by omega, t_sum ok h.1 fun j => ?_⟩
    have hj := h.sk j
    generalize _root_.Jvm.Pilot.CEchoPantryLaw_law_r7337_af6445.sk σ j = σ1 at hj ⊢
    obtain ⟨hsl, hsv⟩ := hj.sl (SUM (aP A))
    refine un_step ok (A := A) (b := b) (n := n) (U := uc + 620) (V := us + 4900) hc1 (by omega) hsl hsv (by omega) (by omega) (by omega) (by omega) (by omega) (by omega) (fun σ' A' b' n' dn' h1 h2 hU' => ?_) σ1 _ rfl hj.2.2.1.1
    exact ih (i + 1) dn' σ' A' b' n' _ _ (by omega) (by omega) hU' (by omega) (by omega) (by omega)
set_option maxRecDepth 50000 in
theorem t_undone (ok : OKS G) {A : AS} {b n : Nat} (hQ : QS σ x A b n) (hb : b < 2 ^ 19) (ha : mt σ a = (99, L)) (hax : a < x) (hL : L < 2 ^ 31) (hK : ∀ τ, K (.inl (some (vI 1))) τ) : Runs G mL_undone rL_undone [vR (some a), vR (some x)] σ K := by
  refine Runs.ofHK fun hZ => ?_
  have hz := hQ.2.2.2.2
  refine eL_undone ok.1 ⟨by omega, by omega, fun σ3 e3 => ?_⟩
  have hF : Fr2 σ σ3 := by rw [e3]; exact Fr2.nw _
  have hl := LV.of hQ.1 hZ
  refine un_loop ok hL hK 7 0 0 σ3 A b n _ _ (by omega) (Nat.le_refl _) ⟨hQ.fr hl hF, ⟨by rw [(hF.1 a (by omega)).2.2.2.2]; exact ha, hax⟩, ⟨by rw [e3]; exact if_pos rfl, by rw [e3]; exact Nat.lt_succ_self _, by omega⟩, ⟨Nat.zero_le _, hQ.1.j8⟩, hl.fy hz hF.fy, fun t ht => absurd ht (Nat.not_lt_zero _)⟩ (by omega) (by omega) (by omega)
end UNM
