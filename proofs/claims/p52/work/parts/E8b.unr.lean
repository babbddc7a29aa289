/-! ===== undone runs ===== -/
theorem lg_self {a : Int64} : lg_cmp a a = 0 := by
  unfold lg_cmp
  simp
theorem QS.sl {σ : Mm} {x b n : Nat} {A : AS} (h : QS σ x A b n) (s k : Nat) (v : Int64) : QS (sl σ s k v) x A b n := ⟨h.1.loc fun _ _ _ => ⟨rfl, rfl, rfl⟩, h.2.1, h.2.2.1, h.2.2.2.1, h.2.2.2.2⟩
theorem i_nn0 {v : Int32} : ¬ 0 ≤ v ↔ v < 0 := by
  rw [i_le, i_lt, Int32.toInt_zero]
  omega
section UNR
variable {G : GG} {K : RES → Mm → Prop} {x a L s : Nat}
theorem UI.sl {σ : Mm} {b n dn : Nat} {A : AS} (h : UI σ x a L s A b n dn) (v : Int64) : UI (sl σ s dn v) x a L s A b n dn ∧ ml (sl σ s dn v) s dn = v :=
  ⟨⟨h.1.sl s dn v, h.2.1, h.2.2.1, h.2.2.2.1, h.2.2.2.2.1, fun t ht => by
    have e : ml (_root_.Jvm.Pilot.CEchoPantryLaw_law_r7337_af6445.sl σ s dn v) s t = ml σ s t := u2_k (by omega)
    rw [e]; exact h.2.2.2.2.2 t ht⟩, u2_s⟩
set_option maxRecDepth 50000 in
/-- the way back -/
theorem un_back (ok : OKS G) (hK : ∀ τ, K (.inl (some (vI 1))) τ) (x3 : Int32) : ∀ dn σ A b n uc us, UI σ x a L s A b n dn → dn ≤ 7 → uc + 501 * dn ≤ 12000 → us + 3006 * dn ≤ 80000 → At G mL_undone rL_undone uc us 413 [some (vR (some a)), some (vR (some x)), some (vR (some s)), some (vI x3), some (vI (nI dn - 1)), none, none, none, none] [] σ K := by
  intro dn
  induction dn with
  | zero =>
    intro σ A b n uc us h hd hu1 hu2
    exact vL_undone_413 ok.1 ⟨fun _ => ⟨by omega, by omega, hK _⟩, fun z => absurd (by decide) z⟩
  | succ dn ih =>
    intro σ A b n uc us h hd hu1 hu2
    rw [nI_pred]
    obtain ⟨hQ, ⟨h1, h2⟩, ⟨h3, h4, h5⟩, ⟨h6, h7⟩, h8, h9⟩ := id h
    refine vL_undone_413 ok.1 ⟨fun z => absurd z (nI_pos (by omega)), fun _ => ⟨by omega, by omega, n_undo ok hQ.1 (by omega) fun σ' hC' hF => ?_⟩⟩
    have hz := hQ.2.2.2.2
    obtain ⟨n', hQ'⟩ := hC'.qs hQ.2.1 (Nat.le_trans hz hF.2.2)
    refine vL_undone_422 ok.1 ⟨fun z => absurd z (nI_pos (by omega)), fun _ => ⟨by omega, by omega, t_sum ok hQ' fun j => ?_⟩⟩
    have hU : UI σ' x a L s (Asn A (aW A (aj A - 1)) (aj A - 1) (asv A) (aV A)) b n' dn := by
      refine ⟨hQ', ⟨by rw [(hF.2.1 a (by omega)).2]; exact h1, h2⟩, ⟨by rw [(hF.2.1 s h4).2]; exact h3, Nat.lt_of_lt_of_le h4 hF.2.2, h5⟩, ⟨show dn ≤ aj A - 1 by omega, show aj A - 1 ≤ 8 by omega⟩, h8.fy hz hF, fun t ht => ?_⟩
      rw [(hF.2.1 s h4).1]
      show _ = SUM (aW A (aj A - 1 - dn + t))
      rw [h9 t (by omega), show aj A - (dn + 1) + t = aj A - 1 - dn + t by omega]
    have e1 : ml (sk σ' j) s (nI dn).toNatClampNeg = SUM (aW A (aj A - 1)) := by
      rw [nI_clamp (by omega)]
      show ml σ' s dn = _
      rw [(hF.2.1 s h4).1, h9 dn (by omega), show aj A - (dn + 1) + dn = aj A - 1 by omega]
    refine vL_undone_429 ok.1 ⟨s, rfl, 9, (hU.sk j).2.2.1.1, nI_in (by omega) (by decide), fun _ => ?_, fun z => ?_⟩
    · have := ih (sk σ' j) _ b n' (uc + 1 + 500) (us + 6 + 3000) (hU.sk j) (by omega) (by omega) (by omega)
      rw [show nI dn + (-1) = nI dn - 1 from (Int32.sub_eq_add_neg _ _).symm]
      exact this
    · rw [e1] at z
      exact absurd lg_self z
end UNR
