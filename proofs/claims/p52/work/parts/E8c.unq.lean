/-! ===== undone: the calls ===== -/
section UNQ
variable {G : GG} {σ : Mm} {K : RES → Mm → Prop} {x a L s : Nat}
theorem lb1 : LB7 [104, 101, 97, 114, 32, 48, 32, 97, 59, 115, 97, 121, 32, 100, 32] := by unfold LB7 LT7; decide +kernel
theorem lb2 : LB7 [59, 119, 97, 114, 109, 32, 48, 32] := by unfold LB7 LT7; decide +kernel
theorem lb3 : LB7 [32] := by unfold LB7 LT7; decide +kernel
theorem lb4 : LB7 [59, 112, 97, 115, 115, 32] := by unfold LB7 LT7; decide +kernel
theorem chk4 : ∀ j, j < 4 → i2c (([114, 111, 108, 120] : List Int32).getD j 0 &&& 255) = ([114, 111, 108, 120] : List Int32).getD j 0 ∧ 0 ≤ (([114, 111, 108, 120] : List Int32).getD j 0).toInt ∧ (([114, 111, 108, 120] : List Int32).getD j 0).toInt < 128 := by decide +kernel
/-- a text constant's letter -/
theorem kT_charAt (gk : GOK G) (sok : SOK G) {q i : Nat} {bs : List Int32} (hq : SCT G q bs) (hi : i < bs.length) (hn : bs.length ≤ 60) (hb : LB7 bs) (h : K (.inl (some (vI (bs.getD i 0)))) σ) : Runs G mJ0_charAt_5068e rJ0_charAt_5068e [vR (some q), vI (nI i)] σ K := by
  obtain ⟨v, hv⟩ := hq
  obtain ⟨b0, b1⟩ := hb i hi
  obtain ⟨c0, c1⟩ := i2c_of b0 b1
  exact kJ0_charAt gk sok hv hi (by omega) c0 c1 h
theorem SCT.o {q : Nat} {bs : List Int32} (h : SCT G q bs) : oO G "java/lang/String" q := by
  obtain ⟨v, hv⟩ := h
  exact hv.1
theorem lbr : LB7 [114, 111, 108, 120] := by unfold LB7 LT7; decide +kernel
/-- what is owed behind a call of the switch -/
def NX (G : GG) (K : RES → Mm → Prop) (a x s dn i : Nat) (c e l : Int32) (U V : Nat) (v : Int32) (σ : Mm) : Prop :=
  ((0 ≤ v → ((0 ≤ v → At G mL_undone rL_undone U V 10 [some (vR (some a)), some (vR (some x)), some (vR (some s)), some (vI (nI dn + 1)), some (vI (nI i + 1)), none, none, none, none] [] σ K) ∧ (¬ 0 ≤ v → At G mL_undone rL_undone U V 10 [some (vR (some a)), some (vR (some x)), some (vR (some s)), some (vI (nI dn + 0)), some (vI (nI i + 1)), none, none, none, none] [] σ K))) ∧ (¬ 0 ≤ v → U + 500 ≤ 12000 ∧ V + 3000 ≤ 80000 ∧ Runs G mL_sum rL_sum [vR (some x)] σ (bk G mL_undone rL_undone (U + 500) (V + 3000) 380 [some (vR (some a)), some (vR (some x)), some (vR (some s)), some (vI (nI dn)), some (vI (nI i)), some (vI c), some (vI e), some (vI l), some (vI v)] [] K)))
set_option maxRecDepth 50000 in
theorem un_step (ok : OKS G) {A : AS} {b n dn i c1 e1 : Nat} {U V uc us : Nat} (hc1 : c1 < 2 ^ 31) (he1 : e1 < 2 ^ 31) (h : UI σ x a L s A b n dn) (hs : ml σ s dn = SUM (aP A)) (hd : dn ≤ 6) (hb : b + 5400 < 2 ^ 21) (hU : uc + 120 ≤ U) (hV : us + 1900 ≤ V) (hU2 : U + 500 ≤ 12000) (hV2 : V + 3000 ≤ 80000)
    (kk : ∀ σ' A' b' n' dn' , dn' ≤ dn + 1 → b' ≤ b + 5400 → UI σ' x a L s A' b' n' dn' → At G mL_undone rL_undone (U + 500) (V + 3000) 10 [some (vR (some a)), some (vR (some x)), some (vR (some s)), some (vI (nI dn')), some (vI (nI (i + 1))), none, none, none, none] [] σ' K)
    (σ0 : Mm) (v0 : Int64) (hσ : σ = sl σ0 s dn v0) (hs9 : mt σ0 s = (51, 9)) : At G mL_undone rL_undone uc us 53 [some (vR (some a)), some (vR (some x)), some (vR (some s)), some (vI (nI dn)), some (vI (nI i)), some (vI (nI c1)), some (vI (nI e1)), some (vI (nI (97 + e1 % 18))), none] [vL v0, vI (nI dn), vR (some s)] σ0 K := by
  have hQ := h.1
  have hC := hQ.1
  have hb21 := hQ.2.1
  have e18 : e1 % 18 < 18 := Nat.mod_lt _ (by decide)
  have hlc : isC (nI (97 + e1 % 18)) := isC_nI (by omega)
  -- behind a call
  have nx : ∀ (v : Int32) (σ' : Mm), (v < 0 ∧ ∃ A', CIV σ' x A' b ∧ OK1 A A' ∧ FY σ σ' x) ∨ (¬ v < 0 ∧ ∃ A', CIV σ' x A' (b + 5400) ∧ OK2 A A' ∧ FY σ σ' x) → NX G K a x s dn i (nI c1) (nI e1) (nI (97 + e1 % 18)) U V v σ' := by
    intro v σ' hv
    rcases hv with ⟨hv, A', hC', hO, hF⟩ | ⟨hv, A', hC', hO, hF⟩
    · obtain ⟨n', hU'⟩ := h.bad hC' hO hF
      have hv' : ¬ 0 ≤ v := i_nn0.mpr hv
      refine ⟨fun z => absurd z hv', fun _ => ⟨hU2, hV2, t_sum ok hU'.1 fun j => ?_⟩⟩
      have hUj := hU'.sk j
      have e1' : ml (sk σ' j) s (nI dn).toNatClampNeg = SUM (aP A') := by
        rw [nI_clamp (by omega)]
        show ml σ' s dn = _
        rw [(hF.2.1 s h.2.2.1.2.1).1, hs, hO.1]
      refine vL_undone_380 ok.1 ⟨s, rfl, 9, hUj.2.2.1.1, nI_in (by omega) (by decide), fun _ => ⟨fun z => absurd z hv', fun _ => ?_⟩, fun z => ?_⟩
      · rw [Int32.add_zero, show nI i + 1 = nI (i + 1) from nI_1 _]
        exact kk _ A' b n' dn (by omega) (by omega) hUj
      · rw [e1'] at z
        exact absurd lg_self z
    · obtain ⟨n', hU'⟩ := h.good hs (by omega) hb hC' hO hF
      have hv' : 0 ≤ v := Classical.byContradiction fun z => hv (i_nn0.mp z)
      refine ⟨fun _ => ⟨fun _ => ?_, fun z => absurd hv' z⟩, fun z => absurd hv' z⟩
      rw [show nI dn + 1 = nI (dn + 1) from nI_1 _, show nI i + 1 = nI (i + 1) from nI_1 _]
      exact (kk _ A' _ n' (dn + 1) (by omega) (by omega) hU').widen (by omega) (by omega)
  have mk : ∀ {K' : RES → Mm → Prop}, (∀ v σ', NX G K a x s dn i (nI c1) (nI e1) (nI (97 + e1 % 18)) U V v σ' → K' (.inl (some (vI v))) σ') → MK K' σ x A b := fun hk =>
    ⟨fun v σ' A' hv hC' hO hF => hk v σ' (nx v σ' (Or.inl ⟨hv, A', hC', hO, hF⟩)), fun v σ' A' hv hC' hO hF => hk v σ' (nx v σ' (Or.inr ⟨hv, A', hC', hO, hF⟩))⟩
  have r10 : nI c1 - nI c1 / 10 * 10 = nI (c1 % 10) := i_rem hc1 (by decide) rfl
  refine vL_undone_53 ok.1 ok.2.2.2 ⟨s, rfl, 9, hs9, nI_in (by omega) (by decide), fun σ5 e5 => ?_⟩
  rw [nI_clamp (by omega), ← hσ] at e5
  subst e5
  refine ⟨fun _ => ⟨by omega, by omega, fun σ10 e10 => ⟨by omega, by omega, ?_⟩⟩, fun _ => ⟨by omega, by omega, n_addJar ok hC hb21 hlc (mk fun v σ' hn => At.widen (vL_undone_121 ok.1 hn) (by omega) (by omega))⟩,
    fun _ => ⟨by omega, by omega, n_removeJar ok hC hb21 hlc (mk fun v σ' hn => At.widen (vL_undone_132 ok.1 hn) (by omega) (by omega))⟩, fun _ => ⟨by omega, by omega, n_say ok hC hb21 hlc (mk fun v σ' hn => At.widen (vL_undone_150 ok.1 hn) (by omega) (by omega))⟩,
    fun _ q hq => ⟨hq.o, by omega, by omega, ?_⟩, fun _ => ⟨fun _ => ⟨by omega, by omega, n_listen ok hC (Or.inl rfl) (mk fun v σ' hn => At.widen (vL_undone_212 ok.1 hn) (by omega) (by omega))⟩, fun _ => ⟨by omega, by omega, n_listen ok hC (Or.inr rfl) (mk fun v σ' hn => At.widen (vL_undone_212 ok.1 hn) (by omega) (by omega))⟩⟩,
    fun _ => ⟨by omega, by omega, n_hear ok hC hb21 hlc (mk fun v σ' hn => At.widen (vL_undone_229 ok.1 hn) (by omega) (by omega))⟩, fun _ => ⟨by omega, by omega, n_hear ok hC hb21 hlc (mk fun v σ' hn => At.widen (vL_undone_229 ok.1 hn) (by omega) (by omega))⟩,
    fun _ => ⟨by omega, by omega, n_warm ok hC hb21 hlc (mk fun v σ' hn => At.widen (vL_undone_254 ok.1 hn) (by omega) (by omega))⟩, fun _ => ⟨fun _ => ⟨by omega, by omega, n_pass ok hC hb21 (mk fun v σ' hn => At.widen (vL_undone_290 ok.1 hn) (by omega) (by omega))⟩, fun _ => ⟨by omega, by omega, n_cancel ok hC (mk fun v σ' hn => At.widen (vL_undone_276 ok.1 (vL_undone_290 ok.1 hn)) (by omega) (by omega))⟩⟩⟩
  · -- the text
    rw [e10]
    obtain ⟨a7, ha7, e7⟩ := us_n he1 7
    obtain ⟨a4, ha4, e4⟩ := us_n he1 4
    have r100 : nI e1 - nI e1 / 100 * 100 = nI (e1 % 100) := i_rem he1 (by decide) rfl
    have r9 : (1 : Int32) + (nI a7 - nI a7 / 9 * 9) = nI (1 + a7 % 9) := by
      rw [i_rem (k := 9) (q := 9) (by omega) (by decide) rfl]
      exact nI_add 1 _
    have r12 : nI a4 - nI a4 / 12 * 12 = nI (a4 % 12) := i_rem (by omega) (by decide) rfl
    have l100 := Nat.mod_lt e1 (show 0 < 100 by decide)
    have l9 := Nat.mod_lt a7 (show 0 < 9 by decide)
    have l12 := Nat.mod_lt a4 (show 0 < 12 by decide)
    have d1 := dgN_le (e1 % 100)
    have d2 := dgN_le (1 + a7 % 9)
    have d3 := dgN_le (a4 % 12)
    have L1 : ([104, 101, 97, 114, 32, 48, 32, 97, 59, 115, 97, 121, 32, 100, 32] : List Int32).length = 15 := rfl
    have L2 : ([59, 119, 97, 114, 109, 32, 48, 32] : List Int32).length = 8 := rfl
    have L3 : ([32] : List Int32).length = 1 := rfl
    have L4 : ([59, 112, 97, 115, 115, 32] : List Int32).length = 6 := rfl
    have hco : 0 ≤ (nI (97 + e1 % 18)).toInt ∧ (nI (97 + e1 % 18)).toInt < 128 := by rw [nI_toInt (by omega)]; omega
    refine ⟨fun r t' => ∃ z, r = .inl none ∧ TB σ5 t' (mz σ5) 0 z, TB.init ok.1 ok.2.2.2 Fr2.refl fun σ' hT => ⟨zf, rfl, hT⟩, (fun E t' z => by obtain ⟨_, z, _⟩ := z; cases z), fun v t' z => ?_⟩
    obtain ⟨z0, e, T0⟩ := z
    cases e
    refine vL_undone_303 ok.1 ok.2.2.2 fun q1 hq1 => ⟨_, rfl, T0.ty, by omega, by omega, T0.appendK ok.1 ok.2.2.2 hq1 lb1 (by omega) fun σ1 T1 => ?_⟩
    refine vL_undone_309 ok.1 ⟨_, rfl, T1.ty, by omega, by omega, ?_⟩
    rw [r100]
    refine T1.appendI ok.1 ok.2.2.2 (by omega) (by omega) fun σ2 T2 => ?_
    refine vL_undone_317 ok.1 ok.2.2.2 fun q3 hq3 => ⟨_, rfl, T2.ty, by omega, by omega, T2.appendK ok.1 ok.2.2.2 hq3 lb2 (by omega) fun σ3 T3 => ?_⟩
    refine vL_undone_323 ok.1 ⟨_, rfl, T3.ty, by omega, by omega, T3.appendC ok.1 ok.2.2.2 hco.1 hco.2 (by omega) fun σ4 T4 => ?_⟩
    refine vL_undone_328 ok.1 ok.2.2.2 fun q5 hq5 => ⟨_, rfl, T4.ty, by omega, by omega, T4.appendK ok.1 ok.2.2.2 hq5 lb3 (by omega) fun τ5 T5 => ?_⟩
    refine vL_undone_334 ok.1 ⟨_, rfl, T5.ty, by omega, by omega, ?_⟩
    rw [e7, r9]
    refine T5.appendI ok.1 ok.2.2.2 (by omega) (by omega) fun σ6 T6 => ?_
    refine vL_undone_347 ok.1 ok.2.2.2 fun q7 hq7 => ⟨_, rfl, T6.ty, by omega, by omega, T6.appendK ok.1 ok.2.2.2 hq7 lb4 (by omega) fun σ7 T7 => ?_⟩
    refine vL_undone_353 ok.1 ⟨_, rfl, T7.ty, by omega, by omega, ?_⟩
    rw [e4, r12]
    refine T7.appendI ok.1 ok.2.2.2 (by omega) (by omega) fun σ8 T8 => ?_
    refine vL_undone_363 ok.1 ⟨_, rfl, T8.ty, by omega, by omega, T8.toS ok.1 ok.2.2.2 fun σ9 q v hM hL7 hF hq hv => ?_⟩
    have hz := hQ.2.2.2.2
    have hQ9 := hQ.fr h.2.2.2.2.1 hF
    refine vL_undone_366 ok.1 ⟨by omega, by omega, t_exec ok hQ9.1 hb21 hM hL7 (by omega) (by omega) (by omega) ⟨fun w τ B hw hCt hO hFt => ?_, fun w τ B hw hCt hO hFt => ?_⟩⟩
    · exact At.widen (vL_undone_369 ok.1 (nx w τ (Or.inl ⟨hw, B, hCt, hO, hF.fy.trans hFt⟩))) (by omega) (by omega)
    · exact At.widen (vL_undone_369 ok.1 (nx w τ (Or.inr ⟨hw, B, hCt, hO, hF.fy.trans hFt⟩))) (by omega) (by omega)
  · -- addShelf
    obtain ⟨a8, ha8, e8⟩ := us_n he1 8
    rw [e8, i_rem (k := 4) (q := 4) (by omega) (by decide) rfl]
    refine kT_charAt ok.1 ok.2.2.2 hq (Nat.mod_lt _ (by decide)) (by decide) lbr ?_
    refine vL_undone_181 ok.1 ⟨by omega, by omega, n_addShelf ok hC (mk fun v σ' hn => At.widen (vL_undone_184 ok.1 hn) (by omega) (by omega))⟩
end UNQ
