/-! ===== the law's method execute ===== -/
section EXE
variable {G : GG} {σ : Mm} {K : RES → Mm → Prop} {x b : Nat} {A : AS}
theorem MSt.fy {σ' : Mm} {q v n : Nat} {f : Nat → Int32} (h : MSt σ q v n f) (hF : FY σ σ' x) (hq : x + 786 ≤ q) (hv : x + 786 ≤ v) : MSt σ' q v n f := by
  obtain ⟨h1, h2, h3, h4, ⟨h5, h5'⟩, h6⟩ := h
  obtain ⟨a1, a2⟩ := hF.1 q h5 (Or.inr hq)
  obtain ⟨b1, b2⟩ := hF.1 v h5' (Or.inr hv)
  exact ⟨by rw [(hF.2.1 q h5).2]; exact h1, by rw [a2]; exact h2, by rw [a1]; exact h3, by rw [(hF.2.1 v h5').2]; exact h4, ⟨Nat.lt_of_lt_of_le h5 hF.2.2, Nat.lt_of_lt_of_le h5' hF.2.2⟩, fun j hj => by rw [b1]; exact h6 j hj⟩
theorem t_exec (ok : OKS G) (hC : CIV σ x A b) (hb : b < 2 ^ 21) {q v n : Nat} {f : Nat → Int32} (hs : MSt σ q v n f) (hlt : LT7 n f) (hn : n ≤ 60) (hq : x + 786 ≤ q) (hv : x + 786 ≤ v) (h : MK K σ x A b) : Runs G mL_execute rL_execute [vR (some x), vR (some q)] σ K := by
  have loop : ∀ d i σ' A' uc us, i + d = n → CIV σ' x A' b → OK1 A A' → FY σ σ' x → uc + d + 2 ≤ 100 → us + 6 * d + 12 ≤ 600 → At G mL_execute rL_execute uc us 2 [some (vR (some x)), some (vR (some q)), some (vI (nI i))] [] σ' K := by
    intro d
    induction d with
    | zero =>
      intro i σ' A' uc us hi hC' hO hF hu1 hu2
      have hs' := hs.fy hF hq hv
      refine vL_execute_2 ok.1 ⟨_, rfl, hs'.1, by omega, by omega, kM_length ok.1 ok.2.2.2 hs' ?_⟩
      refine vL_execute_7 ok.1 ⟨fun _ => ⟨by omega, by omega, ?_⟩, fun z => absurd (nI_le (by omega) (by omega)) z⟩
      refine hL_executes_run ok.1 ok.2.1 hC'.1.1 (c_execute ok.1 ok.2.2.2 ok.2.2.1 (Nat.lt_of_lt_of_le hb (by decide)) hC' (fun _ τ hCt hFt k => ⟨0, -1, rfl, ?_⟩) (fun _ i R _ _ _ _ _ τ hCt hFt k => ⟨1, -2, rfl, ?_⟩) (fun hpar R _ _ _ τ hCt hFt => ⟨_, rfl, ?_⟩))
      · exact vL_execute_38 ok.1 ⟨by omega, by omega, h.1 (-1) _ _ (by decide) (hCt.sk k) ⟨hO.1, hO.2.1, hO.2.2⟩ ((hF.trans hFt.fy).trans (FY.sk k))⟩
      · exact vL_execute_38 ok.1 ⟨by omega, by omega, h.1 (-2) _ _ (by decide) (hCt.sk k) ⟨hO.1, hO.2.1, hO.2.2⟩ ((hF.trans hFt.fy).trans (FY.sk k))⟩
      · have h10 := (par_ok 10 0 hpar).1
        refine vL_execute_38 ok.1 ⟨by omega, by omega, h.2 _ _ _ (nI_pos (by omega)) (hCt.mono (by omega)) ⟨?_, ?_⟩ (hF.trans hFt.fy)⟩
        · show pushW (aW A') (aj A') (aP A') = _
          rw [hO.1, hO.2.1, hO.2.2]
        · show pshN (aj A') = _
          rw [hO.2.2]
    | succ d ih =>
      intro i σ' A' uc us hi hC' hO hF hu1 hu2
      have hs' := hs.fy hF hq hv
      have hin : i < n := by omega
      obtain ⟨f0, f1⟩ := hlt i hin
      obtain ⟨c0, c1⟩ := i2c_of f0 f1
      refine vL_execute_2 ok.1 ⟨_, rfl, hs'.1, by omega, by omega, kM_length ok.1 ok.2.2.2 hs' ?_⟩
      refine vL_execute_7 ok.1 ⟨fun z => absurd z (nI_ge (by omega) (by omega)), fun _ => ⟨_, rfl, hs'.1, by omega, by omega, kM_charAt ok.1 ok.2.2.2 hs' hin (by omega) c0 c1 ?_⟩⟩
      refine vL_execute_16 ok.1 ⟨by omega, by omega, ?_⟩
      have cont : ∀ (w : Int32) (τ : Mm) (B : AS), CIV τ x B b → OK1 A B → FY σ τ x → At G mL_execute rL_execute (uc + 0 + 0 + 1) (us + 0 + 0 + 6) 19 [some (vR (some x)), some (vR (some q)), some (vI (nI i))] [vI w] τ K := by
        intro w τ B hCt hOt hFt
        refine vL_execute_19 ok.1 ⟨fun _ => ?_, fun _ => ⟨by omega, by omega, h.1 (-9) _ _ (by decide) hCt hOt hFt⟩⟩
        rw [show nI i + 1 = nI (i + 1) from nI_1 _]
        exact ih (i + 1) τ B _ _ (by omega) hCt hOt hFt (by omega) (by omega)
      exact hL_type_run ok.1 ok.2.1 hC'.1.1 (c_type ok.1 ok.2.2.1 hC' c1 (fun _ k => ⟨0, -12, rfl, cont _ _ _ (hC'.sk k) hO (hF.trans (FY.sk k))⟩) (fun _ _ _ k => ⟨1, -14, rfl, cont _ _ _ (hC'.sk k) hO (hF.trans (FY.sk k))⟩) (fun _ _ _ τ hCt hFt => ⟨_, rfl, cont _ _ _ hCt ⟨hO.1, hO.2.1, hO.2.2⟩ (hF.trans hFt.fy)⟩))
  exact eL_execute ok.1 (loop n 0 σ A 0 0 (by omega) hC ⟨rfl, rfl, rfl⟩ FY.refl (by omega) (by omega))
end EXE
