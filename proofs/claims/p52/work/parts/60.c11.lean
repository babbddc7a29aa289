/-! ===== the class: one shelf's change, carried to its State; a jar dropped ===== -/
def ρu (ρ : Nat → List Nat) (k : Nat) (L : List Nat) : Nat → List Nat := fun k' => if k' = k then L else ρ k'
theorem ρu_s {ρ : Nat → List Nat} {k : Nat} {L : List Nat} : ρu ρ k L k = L := if_pos rfl
theorem ρu_n {ρ : Nat → List Nat} {k k' : Nat} {L : List Nat} (h : k' ≠ k) : ρu ρ k L k' = ρ k' := if_neg h
section SM
variable {G : GG} {σ : Mm} {K : RES → Mm → Prop} {st b n m : Nat} {ω : List Nat} {ρ : Nat → List Nat} {P : Nat → Int32}
theorem stS.so (h : stS σ st ω ρ) {k : Nat} {L : List Nat} (hk : k < 4) (hp : L.Perm (ρ k)) : stS (sO σ (st + 30 + 8 * k + 1) L) st ω (ρu ρ k L) := by
  have er : ∀ q, q ≠ st + 30 + 8 * k + 1 → mr (sO σ (st + 30 + 8 * k + 1) L) q = mr σ q := fun q hq => sO_n hq
  refine ⟨by rw [er st (by omega)]; exact h.1, fun l hl => by rw [er (st + 1) (by omega)]; exact h.2.1 l hl, fun k' hk' => ?_, by rw [er (st + 3) (by omega)]; exact h.2.2.2⟩
  rw [er (st + 2) (by omega)]
  have hs := h.s hk'
  by_cases z : k' = k
  · subst z
    rw [ρu_s]
    exact ⟨hs.1, hs.2.1.so hp, hp.trans hs.2.2⟩
  · rw [ρu_n z]
    refine ⟨hs.1, ?_, hs.2.2⟩
    unfold shS
    rw [er (st + 30 + 8 * k') (by omega), er (st + 30 + 8 * k' + 1) (by omega)]
    exact hs.2.1
theorem RV.shelf (h : RV σ st P b n ω ρ) {k b' : Nat} {σ1 : Mm} {P' : Nat → Int32} {L' : List Nat} (hbb : b ≤ b') (hk : k < n) (h1 : mr σ1 = mr σ) (h2 : mt σ1 = mt σ) (hq : ∀ q, st < q → q < st + 70 → q ≠ st + 30 + 8 * k → ¬ (st + 32 + 8 * k ≤ q ∧ q < st + 38 + 8 * k) → mi σ1 q = mi σ q) (hP' : PI P' n b') (eo : ∀ j, 8 ≤ j → oSh k j → P' j = P j) (hG : GV (vG σ1 st) P') (hH : HV (vH σ1 st k) P' k) (hB : EB σ1 (vJ σ st) P' k (ρ k)) (hp : L'.Perm (ρ k)) (hs : srtd (ltE σ1 (P' (86 + 187 * k + 2))) L') : RV (sO σ1 (st + 30 + 8 * k + 1) L') st P' b' n ω (ρu ρ k L') := by
  have hn := h.n4
  have hS1 : stS σ1 st ω ρ := h.1.mv h1 h2
  refine ⟨hS1.so (by omega) hp, ?_⟩
  have base := VV2_sh (H' := vH (sO σ1 (st + 30 + 8 * k + 1) L') st) (E' := fun k' => if k' = k then vE σ1 L' else vE σ (ρ k')) (g' := vG σ1 st) h.2 hbb hP' eo hG hH ?_ (fun k' hk' z => ?_) (fun k' _ z => ?_) hk
  · refine base.ch (fun l hl => ?_) (fun _ _ => rfl) (fun k' hk' => ?_)
    · exact vJ_cg (hq _ (by omega) (by omega) (by omega) (by omega))
    · by_cases z : k' = k
      · subst z
        simp only [ρu_s, if_true]
        rfl
      · simp only [ρu_n z, if_neg z]
        refine vE_cg fun e he => ?_
        have := h.1.e hk' he
        exact hq e (by omega) (by omega) (by omega) (by omega)
  · rw [if_pos rfl]
    exact EA_iff.mpr ((hB.perm hp).ea hs)
  · exact vH_cg (hq _ (by omega) (by omega) (by omega) (by omega))
  · rw [if_neg z]
theorem RW.mem {σ' : Mm} {b' : Nat} {P' : Nat → Int32} (h : RW σ ω P n m b) (hS : stS σ st ω ρ) (hq : ∀ q, st + 62 ≤ q → q < st + 70 → mi σ' q = mi σ q) (hW : WV (vW σ ω) P' m) (hPW : PW P' n m b') : RW σ' ω P' n m b' := by
  refine ⟨?_, hPW⟩
  rw [vW_cg (σ := σ) fun e he => ?_]
  · exact hW
  · have := hS.w he
    exact hq e (by omega) (by omega)
/-- the loop over the shelves of dropJar -/
theorem kX6_dropJar_31 (gk : GOK G) {l : Nat} (hl : l < 26) {P0 : Nat → Int32} {σ0 : Mm} {jr : Option Nat} (hn : n ≤ 4) (hk : ∀ σ' ρ', RV σ' st (rmP P0 l n) b n ω ρ' → Fr σ0 σ' st → (∀ q, st + 62 ≤ q → q < st + 70 → mi σ' q = mi σ0 q) → K (.inl (some (vI (rmC P0 l n)))) σ') : ∀ (d k : Nat), k + d = 4 → ∀ (σ : Mm) (ρ : Nat → List Nat), RV σ st (rmP P0 l (min k n)) b n ω ρ → Fr σ0 σ st → (∀ q, st + 62 ≤ q → q < st + 70 → mi σ q = mi σ0 q) → At G mX6_dropJar rX6_dropJar 0 0 31 [some (vR (some st)), some (vI (nI (97 + l))), some (vR jr), some (vI (rmC P0 l (min k n))), some (vR (some (st + 2))), some (vI (nI 4)), some (vI (nI k)), none] [] σ K
  | 0, k, h, σ, ρ, hV, hF, hQ => by
    obtain rfl : k = 4 := by omega
    rw [show min 4 n = n by omega] at hV ⊢
    exact vX6_dropJar_31 gk ⟨fun _ => hk σ ρ hV hF hQ, fun q => absurd (by decide) q⟩
  | d + 1, k, h, σ, ρ, hV, hF, hQ => by
    have ih := kX6_dropJar_31 gk hl (jr := jr) hn hk d (k + 1) (by omega)
    have hk4 : k < 4 := by omega
    have hs := hV.s.s hk4
    refine vX6_dropJar_31 gk ⟨fun q => absurd q (nI_ge hk4 (by omega)), fun _ => ⟨_, rfl, _, hV.s.t1, vp_in_nI hk4 (by omega), st + 30 + 8 * k, ?_, hs.2.1.ty, ?_⟩⟩
    · rw [nI_clamp (by omega)]; exact hs.1
    rw [nI_clamp (by omega), hs.1]
    have nxt : ∀ (x : Int32) (σ' : Mm) (ρ' : Nat → List Nat), x = rmC P0 l (min (k + 1) n) → RV σ' st (rmP P0 l (min (k + 1) n)) b n ω ρ' → Fr σ σ' st → (∀ q, st + 62 ≤ q → q < st + 70 → mi σ' q = mi σ q) → At G mX6_dropJar rX6_dropJar 0 0 31 [some (vR (some st)), some (vI (nI (97 + l))), some (vR jr), some (vI x), some (vR (some (st + 2))), some (vI (nI 4)), some (vI (nI k + 1)), none] [] σ' K := fun x σ' ρ' hx hV' hF' hQ' => by
      rw [nA1, hx]
      exact ih σ' ρ' hV' (hF.trans hF') (fun q a c => (hQ' q a c).trans (hQ q a c))
    by_cases hkn : k < n
    · have e1 : min k n = k := by omega
      have e2 : min (k + 1) n = k + 1 := by omega
      rw [e1] at hV ⊢
      rw [e2] at nxt
      have hEA := hV.ea hkn
      have hP0 : rmP P0 l k (eX k l) = P0 (eX k l) := rmP_o (by have := eX_ge k l; omega) (fun i hi => by unfold eX; omega)
      by_cases hp : rmP P0 l k (eX k l) = 1
      · obtain ⟨e, hf, he, e0, e1', -⟩ := hEA.find1 hl hp
        refine kX5_find gk hs.2.1 (vX6_dropJar_53 gk ⟨_, rfl, hs.2.1.ty, kX5_remove gk hs.2.1 (r := fndE σ (ρ k) (nI (97 + l))) (fun x hx => (fndE_some hx).1) (fun q => by rw [hf] at q; cases q) fun x L' hx hp' hs' => vX6_dropJar_56 gk ⟨fun q => absurd q (by decide), fun _ => ?_⟩⟩)
        rw [hf] at hx
        cases hx
        have hee := hV.s.e hk4 he
        have hPI := PI_rm (P := rmP P0 l k) hV.pi hkn hl
        have ep : rmP P0 l (k + 1) = upd (rmP P0 l k) (eX k l) 0 := rfl
        have eo : ∀ j, 8 ≤ j → oSh k j → upd (rmP P0 l k) (eX k l) 0 j = rmP P0 l k j := fun j _ ho => pk_un (fun z => by unfold oSh at ho; unfold eX at z; omega)
        have ed : ∀ i, i < 5 → upd (rmP P0 l k) (eX k l) 0 (86 + 187 * k + i) = rmP P0 l k (86 + 187 * k + i) := fun i hi => pk_un (by unfold eX; omega)
        have hge := eX_ge k l
        refine nxt _ _ (ρu ρ k L') ?_ ?_ ((Fr.sS (by omega) (by omega)).trans (Fr.sO (by omega) (by omega))) (fun q a c => by rw [sO_i, sS_n (by omega)])
        · rw [rmC, ← hP0, hp]
        · rw [ep]
          refine hV.shelf (σ1 := sS σ e (upd (mi σ e) 0 0)) (Nat.le_refl _) hkn rfl rfl (fun q a1 a2 a3 a4 => sS_n (by omega)) hPI eo ?_ ?_ (hEA.eb.rm hl he e0 e1') hp' ?_
          · rw [vG_cg (σ := σ) (sS_n (by omega))]
            unfold GV
            rw [pk_un (show (2 : Nat) ≠ eX k l by omega), pk_un (show (3 : Nat) ≠ eX k l by omega), pk_un (show (4 : Nat) ≠ eX k l by omega), pk_un (show (5 : Nat) ≠ eX k l by omega), pk_un (show (6 : Nat) ≠ eX k l by omega), pk_un (show (7 : Nat) ≠ eX k l by omega)]
            exact hV.g
          · rw [vH_cg (σ := σ) (sS_n (by omega))]
            unfold HV
            rw [show upd (rmP P0 l k) (eX k l) 0 (86 + 187 * k) = rmP P0 l k (86 + 187 * k) from ed 0 (by omega), ed 1 (by omega), ed 2 (by omega), ed 3 (by omega), ed 4 (by omega)]
            exact (hV.e hkn).1
          · rw [ed 2 (by omega), ← hV.h3 hkn]
            exact hs'
      · have hz := (hV.pi.2.2.2.2.1 k l hkn hl).1
        have hp0 : rmP P0 l k (eX k l) = 0 := hz.elim id (fun z => absurd z hp)
        have hf := hEA.find0 (x := nI (97 + l)) (fun z => hp ((ecP_l hl).mp z))
        refine kX5_find gk hs.2.1 (vX6_dropJar_53 gk ⟨_, rfl, hs.2.1.ty, kX5_remove gk hs.2.1 (r := fndE σ (ρ k) (nI (97 + l))) (fun x hx => (fndE_some hx).1) (fun _ => vX6_dropJar_56 gk ⟨fun _ => ?_, fun q => absurd rfl q⟩) (fun x L' hx => by rw [hf] at hx; cases hx)⟩)
        refine nxt _ σ ρ ?_ ?_ Fr.refl (fun _ _ _ => rfl)
        · rw [rmC, ← hP0, hp0, i_add0]
        · show RV σ st (upd (rmP P0 l k) (eX k l) 0) b n ω ρ
          rw [upd_same hp0]
          exact hV
    · have e1 : min k n = n := by omega
      have e2 : min (k + 1) n = n := by omega
      rw [e1] at hV ⊢
      rw [e2] at nxt
      have hN := (hV.nn hk4 (by omega)).2
      have hf : fndE σ (ρ k) (nI (97 + l)) = none := by
        refine List.find?_eq_none.mpr fun e he => ?_
        have := (hN.2 (nr 9 (mi σ e)) (List.mem_map_of_mem (f := fun e => nr 9 (mi σ e)) he)).1
        have h0 : mi σ e 0 = 0 := this
        simp [isEc, h0]
      refine kX5_find gk hs.2.1 (vX6_dropJar_53 gk ⟨_, rfl, hs.2.1.ty, kX5_remove gk hs.2.1 (r := fndE σ (ρ k) (nI (97 + l))) (fun x hx => (fndE_some hx).1) (fun _ => vX6_dropJar_56 gk ⟨fun _ => nxt _ σ ρ rfl hV Fr.refl (fun _ _ _ => rfl), fun q => absurd rfl q⟩) (fun x L' hx => by rw [hf] at hx; cases hx)⟩)
theorem kX6_dropJar (gk : GOK G) (hb : b < 2 ^ 29) (h : RS σ st P b) {l : Nat} (hl : l < 26) (hp : P (8 + 3 * l) = 1) (hk : ∀ σ' n, n ≤ 4 → P 0 = nI n → RS σ' st (rmP P l n) b → Fr σ σ' st → K (.inl (some (vI (rmC P l n)))) σ') : Runs G mX6_dropJar rX6_dropJar [vR (some st), vI (nI (97 + l))] σ K := by
  obtain ⟨ω, ρ, n, m, hV, ⟨hW, hPW⟩, hJ⟩ := h
  have hS := hV.1
  have hn := hV.n4
  have ht := (hS.j hl).2
  refine eX6_dropJar gk ⟨_, rfl, hS.ty, cFindJar gk hV (isC_nI (by omega)) (fun q => absurd ⟨l, hl, rfl, hp⟩ q) fun l' hl' el _ => vX6_dropJar_5 gk ⟨fun q => (by cases q), fun a q => ?_⟩⟩
  have := nIl_inj hl hl' el
  subst this
  cases q
  refine ⟨ht, fun σ1 q1 => ⟨st, rfl, hS.ty, st + 2, by rw [q1]; exact hS.r1, 4, hS.t1, ?_⟩⟩
  rw [si_sS] at q1
  rw [show mr σ1 st 1 = some (st + 2) by rw [q1]; exact hS.r1]
  have e : ∀ j, j ≠ 8 + 3 * l → upd P (8 + 3 * l) 0 j = P j := fun j hj => pk_un hj
  have hP' : PI (upd P (8 + 3 * l) 0) n b := by
    refine PI_jar hV.2.1 (Nat.le_refl _) (fun j hj => e j (by omega)) (e 0 (by omega)) (e 2 (by omega)) (e 4 (by omega)) (e 5 (by omega)) (e 6 (by omega)) (e 7 (by omega)) (by rw [e 3 (by omega)]; exact hV.2.1.2.1.2.1) (by rw [e 3 (by omega)]; omega) (fun l' hl' => ?_) ?_ (fun k l' hk hl' h1 => ?_)
    · rw [e (8 + 3 * l' + 1) (by omega), e (8 + 3 * l' + 2) (by omega), e 3 (by omega)]
      obtain ⟨c1, c2, c3, c4, c5⟩ := hV.2.1.2.2.1 l' hl'
      by_cases z : l' = l
      · subst z; rw [pk_us]; exact ⟨Or.inl rfl, c2, c3, c4, fun q => absurd q (by decide)⟩
      · rw [e (8 + 3 * l') (by omega)]; exact ⟨c1, c2, c3, c4, c5⟩
    · have := hV.2.1.2.2.2.2.2.2
      have h2 : jrN (upd P (8 + 3 * l) 0) ≤ jrN P := cnt_mono (fun i q => by
        by_cases z : 8 + 3 * i = 8 + 3 * l
        · rw [z, pk_us] at q; exact absurd q (by decide)
        · rw [e _ z] at q; exact q) 26
      omega
    · rw [e (8 + 3 * l' + 1) (by omega), e (8 + 3 * l' + 2) (by omega)]
      exact ((hV.2.1.2.2.2.2.1 k l' hk hl').2 h1).2.2.2.2.2.2.2.2.2
  have hV1 : RV σ1 st (upd P (8 + 3 * l) 0) b n ω ρ := by
    refine ⟨hS.mv (by rw [q1]; rfl) (by rw [q1]; rfl), ?_⟩
    have base := VV2_jar (J' := vJ σ1 st) (g' := vG σ st) hV.2 hP' (fun j hj => e j (by omega)) ?_ ?_ ?_
    · have eg : vG σ1 st = vG σ st := vG_cg (by rw [q1, sS_n (by omega)])
      rw [eg]
      refine base.ch (fun _ _ => rfl) (fun k hk => vH_cg ?_) (fun k hk => vE_cg fun x hx => ?_)
      · rw [q1, sS_n (by omega)]
      · have := hS.e hk hx
        rw [q1, sS_n (by omega)]
    · intro l' hl'
      rw [e (8 + 3 * l' + 1) (by omega), e (8 + 3 * l' + 2) (by omega)]
      by_cases z : l' = l
      · subst z
        have eJ : vJ σ1 st l' = nr 4 (upd (mi σ (st + 4 + l')) 0 0) := by unfold vJ; rw [q1, sS_s]
        rw [eJ, pk_us]
        exact ⟨rfl, (hV.j l' hl').2⟩
      · rw [vJ_cg (σ := σ) (by rw [q1, sS_n (by omega)]), e (8 + 3 * l') (by omega)]
        exact hV.j l' hl'
    · unfold GV
      rw [e 2 (by omega), e 3 (by omega), e 4 (by omega), e 5 (by omega), e 6 (by omega), e 7 (by omega)]
      exact hV.g
    · intro k l' hk hl' h1 t t1 t2 t3
      have e2 : vJ σ1 st l' 2 = vJ σ st l' 2 := by
        by_cases z : l' = l
        · subst z
          have eJ : vJ σ1 st l' = nr 4 (upd (mi σ (st + 4 + l')) 0 0) := by unfold vJ; rw [q1, sS_s]
          rw [eJ]
          rfl
        · rw [vJ_cg (σ := σ) (by rw [q1, sS_n (by omega)])]
      rw [e2, e (8 + 3 * l' + 2) (by omega)]
      exact ⟨t1, t3⟩
  have hF1 : Fr σ σ1 st := by rw [q1]; exact Fr.sS (by omega) (by omega)
  refine kX6_dropJar_31 gk hl (P0 := P) (σ0 := σ1) hn (fun σ' ρ' hV' hF' hQ' => ?_) 4 0 rfl σ1 ρ hV1 Fr.refl (fun _ _ _ => rfl)
  have o86 : ∀ j, 834 ≤ j → rmP P l n j = P j := fun j hj => rmP_o (by omega) (fun i hi => by unfold eX; omega)
  refine hk σ' n hn hV.p0 ⟨ω, ρ', n, m, hV', RW.mem (P' := rmP P l n) ⟨hW, hPW⟩ hS (fun q a c => ?_) ?_ ?_, fun k l' hk' hl' q => ?_⟩ (hF1.trans hF')
  · rw [hQ' q a c, q1, sS_n (by omega)]
  · exact ⟨hW.1, hW.2.1, fun i w hi => by rw [o86 _ (by omega), o86 _ (by omega), o86 _ (by omega)]; exact hW.2.2 i w hi⟩
  · have lo : ∀ j, j < 8 → rmP P l n j = P j := fun j hj => rmP_o (by omega) (fun i hi => by unfold eX; omega)
    obtain ⟨p1, p7, p8⟩ := hPW
    refine ⟨by rw [lo 1 (by omega)]; exact p1, fun i hi => ?_, fun i hi => ?_⟩
    · rw [lo 2 (by omega), o86 (834 + 3 * i) (by omega), o86 (834 + 3 * i + 1) (by omega), o86 (834 + 3 * i + 2) (by omega)]; exact p7 i hi
    · rw [o86 (834 + 3 * i) (by omega), o86 (834 + 3 * (i + 1)) (by omega)]; exact p8 i hi
  · by_cases z : l' = l
    · subst z
      exfalso
      have : ∀ n, k < n → rmP P l' n (eX k l') = 0 := fun n => by
        induction n with
        | zero => intro h; omega
        | succ n ih =>
          intro hk
          by_cases w : k = n
          · subst w; exact pk_us
          · exact (pk_un (by unfold eX; omega)).trans (ih (by omega))
      rw [this n hk'] at q
      exact absurd q (by decide)
    · have e1 : rmP P l n (eX k l') = P (eX k l') := rmP_o (by have := eX_ge k l'; omega) (fun i hi => by
        by_cases w : i = k
        · subst w; exact eX_ne (i := 0) (j := 0) z (by omega) (by omega)
        · have := eX_ge k l'
          unfold eX
          rcases Nat.lt_or_ge i k with y | y <;> omega)
      have e2 : rmP P l n (8 + 3 * l') = P (8 + 3 * l') := rmP_o (by omega) (fun i hi => by have := eX_ge i l; omega)
      rw [e1] at q
      rw [e2]
      exact hJ k l' hk' hl' q
end SM
