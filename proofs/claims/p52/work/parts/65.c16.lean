/-! ===== the class: State.listenTo ===== -/
section ST1
variable {G : GG} {σ : Mm} {K : RES → Mm → Prop} {st b n m : Nat} {ω : List Nat} {ρ : Nat → List Nat} {P : Nat → Int32}
theorem htP_hQ {k l : Nat} : htP P k l = hQ (upd P 4 (P 4 + 1)) k l := by
  have hge := eX_ge k l
  unfold htP hQ
  rw [pk_un (show eX k l + 5 ≠ 4 by omega), pk_un (show (3 : Nat) ≠ 4 by omega), pk_un (show 86 + 187 * k + 4 ≠ 4 by omega)]
  rw [upd_cm (show (3 : Nat) ≠ 4 by omega), upd_cm (show eX k l + 4 ≠ 4 by omega), upd_cm (show eX k l + 5 ≠ 4 by omega)]
theorem cnt1 {Q : Nat → Int32} (hQ : ∀ j, 4 ≤ j → j ≤ 7 → NB (Q j) b) (hb : b < 2 ^ 29) {c : Nat} (h4 : 4 ≤ c) (h7 : c ≤ 7) : ∀ j, 4 ≤ j → j ≤ 7 → NB (upd Q c (Q c + 1) j) (b + 1) := fun j a d => by
  by_cases z : j = c
  · subst z
    have h := hQ j a d
    have h1 := h.1
    have h2 := h.2
    rw [pk_us]
    have : (Q j + 1).toInt = (Q j).toInt + 1 := add1_i h1 (by omega)
    exact ⟨by omega, by omega⟩
  · rw [pk_un z]; exact (hQ j a d).mono (by omega)
theorem PI_c {c : Nat} (hP : PI P n b) (hb : b < 2 ^ 29) (h4 : 4 ≤ c) (h7 : c ≤ 7) : PI (upd P c (P c + 1)) n (b + 1) := by
  have h2 := hP.2.1
  have hc := cnt1 (Q := P) (b := b) (fun j a d => by
    rcases (show j = 4 ∨ j = 5 ∨ j = 6 ∨ j = 7 by omega) with e | e | e | e <;> subst e
    · exact h2.2.2.1
    · exact h2.2.2.2.1
    · exact h2.2.2.2.2.1
    · exact h2.2.2.2.2.2) hb h4 h7
  refine PI_g hP (by omega) (fun j hj => pk_un (by omega)) (pk_un (by omega)) ⟨?_, ?_, hc 4 (by omega) (by omega), hc 5 (by omega) (by omega), hc 6 (by omega) (by omega), hc 7 (by omega) (by omega)⟩ ?_ ?_
  · rw [pk_un (by omega)]; exact h2.1.mono (by omega)
  · rw [pk_un (by omega)]; exact h2.2.1.mono (by omega)
  · rw [pk_un (by omega)]; omega
  · rw [pk_un (by omega)]; omega
/-- a counter of the State goes up -/
theorem RV.cnt (h : RV σ st P b n ω ρ) (hb : b < 2 ^ 29) {c : Nat} (h4 : 4 ≤ c) (h7 : c ≤ 7) : RV (sS σ st (upd (mi σ st) (c + 1) (mi σ st (c + 1) + 1))) st (upd P c (P c + 1)) (b + 1) n ω ρ := by
  refine h.glob (by omega) (PI_c h.pi hb h4 h7) (fun j hj => pk_un (by omega)) ?_
  obtain ⟨g3, g4, g5, g6, g7, g8⟩ := h.g
  have e : ∀ i, i < 9 → 3 ≤ i → vG (sS σ st (upd (mi σ st) (c + 1) (mi σ st (c + 1) + 1))) st i = if i = c + 1 then vG σ st i + 1 else vG σ st i := fun i h9 h3 => by
    have w1 : ∀ τ : Mm, vG τ st i = mi τ st i := fun τ => if_pos ⟨h3, h9⟩
    rw [w1, w1, sS_s]
    by_cases z : i = c + 1
    · rw [if_pos z, z, pk_us]
    · rw [pk_un z, if_neg z]
  unfold GV
  rw [e 3 (by omega) (by omega), e 4 (by omega) (by omega), e 5 (by omega) (by omega), e 6 (by omega) (by omega), e 7 (by omega) (by omega), e 8 (by omega) (by omega), g3, g4, g5, g6, g7, g8]
  have u : ∀ j, upd P c (P c + 1) j = if j = c then P j + 1 else P j := fun j => by
    by_cases z : j = c
    · subst z; rw [pk_us, if_pos rfl]
    · rw [pk_un z, if_neg z]
  rw [u 2, u 3, u 4, u 5, u 6, u 7]
  refine ⟨?_, ?_, ?_, ?_, ?_, ?_⟩
  · rw [if_neg (by omega), if_neg (by omega)]
  · rw [if_neg (by omega), if_neg (by omega)]
  all_goals
    first
    | (by_cases z : c = 4
       · subst z; rfl
       · by_cases z : c = 5
         · subst z; rfl
         · by_cases z : c = 6
           · subst z; rfl
           · have z : c = 7 := by omega
             subst z; rfl)
theorem ftP_there {k l k' l' : Nat} (hl : l < 26) (hl' : l' < 26) (h : ftP P k l (eX k' l') = 1) : (k' = k ∧ l' = l) ∨ P (eX k' l') = 1 := by
  by_cases zk : k' = k
  · subst zk
    by_cases zl : l' = l
    · exact Or.inl ⟨rfl, zl⟩
    · right
      unfold ftP at h
      rw [show fx3 (fx1 P k' l) k' l (eX k' l') = fx1 P k' l (eX k' l') from fx3_x (i := 0) zl (by omega)] at h
      unfold fx1 at h
      by_cases q : nI (ecN (upd P (eX k' l) 0) k') = P (86 + 187 * k')
      · rw [if_pos q] at h
        cases hv : vcN (upd P (eX k' l) 0) k' 26 with
        | none => rw [hv] at h; exact h
        | some v =>
          rw [hv] at h
          have h : upd (upd P (eX k' l) 0) (eX k' v) 0 (eX k' l') = 1 := h
          by_cases zv : eX k' l' = eX k' v
          · rw [zv, pk_us] at h; exact absurd h (by decide)
          · rw [pk_un zv, pk_un (show eX k' l' ≠ eX k' l from eX_ne (i := 0) (j := 0) zl (by omega) (by omega))] at h
            exact h
      · rw [if_neg q, pk_un (show eX k' l' ≠ eX k' l from eX_ne (i := 0) (j := 0) zl (by omega) (by omega))] at h
        exact h
  · right
    rw [ftP_o hl (by have := eX_ge k' l'; omega) (fun m hm i hi => ?_)] at h
    · exact h
    · have := oSh_eX (l := l') (i := 0) zk hl' (by omega)
      unfold oSh at this
      unfold eX at *
      omega
theorem kX6_listenTo (gk : GOK G) (hb : b < 2 ^ 28) (h : RS σ st P b) {k l n : Nat} (h0 : P 0 = nI n) (hn4 : n ≤ 4) (hk : k < n) (hl : l < 26) (hj : P (8 + 3 * l) = 1) (hK : ∀ σ', RS σ' st (heP P k l) (b + 2) → Fr σ σ' st → K (.inl (some (vI (heP P k l (eX k l + 1))))) σ') : Runs G mX6_listenTo rX6_listenTo [vR (some st), vI (nI k), vI (nI (97 + l))] σ K := by
  obtain ⟨ω, ρ, n', m, hV, hW, hJ⟩ := h
  have hn' := hV.n4
  have := (nI_eq (by omega) (by omega)).mp (hV.p0.symm.trans h0)
  subst this
  have hS := hV.s
  have hk4 : k < 4 := by omega
  have hs := hS.s hk4
  have hEA := hV.ea hk
  have hge := eX_ge k l
  have hou : ouP P k l = (match fndE σ (ρ k) (nI (97 + l)) with | none => 99 | some e => if mi σ st 3 - mi σ e 3 < mi σ (st + 30 + 8 * k) 2 then (if mi σ e 8 = 0 then 104 else 111) else 101) := by
    unfold ouP
    by_cases hp : P (eX k l) = 1
    · obtain ⟨e, hf, he, e0, e1, hv⟩ := hEA.find1 hl hp
      rw [hf]
      simp only [hp, if_true]
      rw [hV.g3, hV.h2 hk, hv.2.2.1, hv.2.2.2.2.2.2.1]
      have ez := (hEA.2.1 e he).2.1
      rw [hv.2.2.2.2.2.2.1] at ez
      by_cases ho : ovP P k l
      · simp only [ho, if_true]
        rw [if_neg ho]
      · simp only [ho, if_false]
        rw [if_pos (Decidable.not_not.mp ho)]
        rcases ez with z | z <;> rw [z] <;> rfl
    · have hf := hEA.find0 (x := nI (97 + l)) (fun z => hp ((ecP_l hl).mp z))
      rw [hf]
      simp only [hp, if_false]
  -- the end, whatever was counted
  have fin : ∀ (σ' : Mm) (ρ' : Nat → List Nat), RV σ' st (heP P k l) (b + 2) n' ω ρ' → Fr σ σ' st → (∀ q, st + 62 ≤ q → q < st + 70 → mi σ' q = mi σ q) → (∀ j, 834 ≤ j → heP P k l j = P j) → heP P k l 1 = P 1 → heP P k l 2 = P 2 → (∀ l', l' < 26 → heP P k l (8 + 3 * l') = P (8 + 3 * l')) → (∀ k' l', k' < n' → l' < 26 → heP P k l (eX k' l') = 1 → (k' = k ∧ l' = l) ∨ P (eX k' l') = 1) → K (.inl (some (vI (heP P k l (eX k l + 1))))) σ' := fun σ' ρ' hV' hF hq a1 a2 a3 a4 a5 =>
    hK σ' (RS.of hV' hS hW hJ (by omega) hq a1 a2 a3 a4 fun k' l' hk' hl' q => (a5 k' l' hk' hl' q).elim (fun z => by rw [z.2]; exact hj) (fun z => hJ k' l' hk' hl' z)) hF
  -- fetching behind the counter c
  have ftc : ∀ (c : Nat) (x5 : Option Nat) (x6 : Int32), 4 ≤ c → c ≤ 7 → heP P k l = ftP (upd P c (P c + 1)) k l → Runs G mX6_fetch rX6_fetch [vR (some st), vI (nI k), vI (nI (97 + l))] (sS σ st (upd (mi σ st) (c + 1) (mi σ st (c + 1) + 1))) (bk G mX6_listenTo rX6_listenTo 0 0 91 [some (vR (some st)), some (vI (nI k)), some (vI (nI (97 + l))), some (vR (some (st + 30 + 8 * k))), some (vR (some (st + 4 + l))), some (vR x5), some (vI x6), none] [] K) := fun c x5 x6 h4 h7 eh => by
    have hV1 := hV.cnt (by omega) h4 h7
    refine kX6_fetch gk (by omega) hV1 hk hl (by rw [pk_un (by omega)]; exact hj) fun σ' ρ' hV' hF hq => vX6_listenTo_91 gk ⟨_, rfl, (hV'.s.j hl).2, ?_⟩
    rw [hV'.j1 hl]
    have o : ∀ j, j < 91 → j ≠ 3 → ftP (upd P c (P c + 1)) k l j = upd P c (P c + 1) j := fun j hj h3 => ftP_o hl h3 (fun m _ i _ => by have := eX_ge k m; omega)
    have e9 : heP P k l (eX k l + 1) = ftP (upd P c (P c + 1)) k l (8 + 3 * l + 1) := by
      rw [eh]
      have f1 := (fx3_e (P := fx1 (upd P c (P c + 1)) k l) (k := k) (l := l)).2.1
      show fx3 (fx1 (upd P c (P c + 1)) k l) k l (eX k l + 1) = _
      rw [f1, o _ (by omega) (by omega)]
      exact fx1_o hl (fun m _ => by have := eX_ge k m; omega)
    rw [← e9]
    rw [← eh] at hV'
    refine fin σ' ρ' hV' ((Fr.sS (by omega) (by omega)).trans hF) (fun q a1 a2 => by rw [hq q a1 a2, sS_n (by omega)]) (fun j hj => ?_) ?_ ?_ (fun l' hl' => ?_) (fun k' l' hk' hl' q => ?_)
    · rw [eh, ftP_o hl (by omega) (fun m hm i hi => by unfold eX; omega), pk_un (by omega)]
    · rw [eh, o 1 (by omega) (by omega), pk_un (by omega)]
    · rw [eh, o 2 (by omega) (by omega), pk_un (by omega)]
    · rw [eh, o _ (by omega) (by omega), pk_un (by omega)]
    · rw [eh] at q
      refine (ftP_there hl hl' q).imp id fun z => ?_
      rw [pk_un (by have := eX_ge k' l'; omega)] at z
      exact z
  refine eX6_listenTo gk ⟨_, rfl, hS.ty, cFindShelf gk hV (fun q => absurd (hV.sh hk) q) fun k' hk' ek => vX6_listenTo_5 gk ⟨_, rfl, hS.ty, cFindJar gk hV (isC_nI (by omega)) (fun q => absurd ⟨l, hl, rfl, hj⟩ q) fun l' hl' el _ => vX6_listenTo_11 gk ⟨fun q => (by cases q), fun a q => ⟨fun q2 => (by cases q2), fun a2 q2 => ?_⟩⟩⟩⟩
  have := (nI_eq (by omega) (by omega)).mp ek
  subst this
  have := nIl_inj hl hl' el
  subst this
  cases q
  refine ⟨hs.2.1.ty, kX5_find gk hs.2.1 (vX6_listenTo_29 gk ⟨_, rfl, hS.ty, _, rfl, hs.2.1.ty, ?_⟩)⟩
  -- the outcome is the model's
  have hcount : ∀ x5 : Option Nat, x5 = fndE σ (ρ k) (nI (97 + l)) → At G mX6_listenTo rX6_listenTo 0 0 40 [some (vR (some st)), some (vI (nI k)), some (vI (nI (97 + l))), some (vR (some (st + 30 + 8 * k))), some (vR (some (st + 4 + l))), some (vR x5), none, none] [vI (ouP P k l)] σ K := fun x5 hx5 => by
    refine vX6_listenTo_40 gk ⟨_, rfl, hS.ty, eX6_countOutcome gk ⟨fun z1 => ⟨fun z2 => ⟨fun z3 => ⟨_, rfl, hS.ty, fun σ1 q1 => ?_⟩, fun z3 => ⟨_, rfl, hS.ty, fun σ1 q1 => ?_⟩⟩, fun z2 => ⟨_, rfl, hS.ty, fun σ1 q1 => ?_⟩⟩, fun z1 => ⟨_, rfl, hS.ty, fun σ1 q1 => ?_⟩⟩⟩
    · rw [si_sS] at q1
      subst q1
      refine vX6_listenTo_48 gk ⟨fun _ => ⟨_, rfl, hS.ty, ftc 7 _ _ (by omega) (by omega) ?_⟩, fun z => absurd z z1⟩
      unfold heP; rw [if_neg z1, if_neg z2, if_neg z3]
    · rw [si_sS] at q1
      subst q1
      refine vX6_listenTo_48 gk ⟨fun _ => ⟨_, rfl, hS.ty, ftc 6 _ _ (by omega) (by omega) ?_⟩, fun z => absurd z z1⟩
      unfold heP; rw [if_neg z1, if_neg z2, if_pos z3]
    · rw [si_sS] at q1
      subst q1
      refine vX6_listenTo_48 gk ⟨fun _ => ⟨_, rfl, hS.ty, ftc 5 _ _ (by omega) (by omega) ?_⟩, fun z => absurd z z1⟩
      unfold heP; rw [if_neg z1, if_pos z2]
    · rw [si_sS] at q1
      subst q1
      have eh : heP P k l = hQ (upd P 4 (P 4 + 1)) k l := by unfold heP; rw [if_pos z1, htP_hQ]
      have hV1 := hV.cnt (c := 4) (by omega) (by omega) (by omega)
      have hes : ∃ e, x5 = some e := by
        cases x5 with
        | none =>
          rw [← hx5] at hou
          rw [hou] at z1
          exact absurd (show (99 : Int32) = 104 from z1) (by decide)
        | some e => exact ⟨e, rfl⟩
      obtain ⟨e, he⟩ := hes
      refine vX6_listenTo_48 gk ⟨fun z => absurd z1 z, fun _ => ⟨fun q => (by rw [he] at q; cases q), fun a q => ⟨_, rfl, hS.ty, _, rfl, hs.2.1.ty, ?_⟩⟩⟩
      have hfe : fndE (sS σ st (upd (mi σ st) (4 + 1) (mi σ st (4 + 1) + 1))) (ρ k) (nI (97 + l)) = some e := by
        rw [← he, hx5]
        unfold fndE
        have : ∀ (L : List Nat), (∀ f, f ∈ L → f ≠ st) → L.find? (isEc (sS σ st (upd (mi σ st) (4 + 1) (mi σ st (4 + 1) + 1))) (nI (97 + l))) = L.find? (isEc σ (nI (97 + l))) := fun L => by
          induction L with
          | nil => intro _; rfl
          | cons f L ih =>
            intro hf
            have e1 : isEc (sS σ st (upd (mi σ st) (4 + 1) (mi σ st (4 + 1) + 1))) (nI (97 + l)) f = isEc σ (nI (97 + l)) f := by
              unfold isEc
              rw [sS_n (hf f (List.mem_cons_self ..))]
            rw [List.find?_cons, List.find?_cons, e1, ih fun g hg => hf g (List.mem_cons_of_mem _ hg)]
        exact this _ fun f hf => by have := hS.e hk4 hf; omega
      rw [he]
      refine cHit gk (by omega) hV1 hk hl hfe fun σ1 ρ' hV' hF hq hmt => vX6_listenTo_70 gk ⟨_, rfl, by rw [hmt]; exact hS.ty, fun σ2 q2 => ?_⟩
      rw [si_sS] at q2
      subst q2
      rw [← eh] at hV'
      have x1 : upd P 4 (P 4 + 1) (eX k l + 1) = heP P k l (eX k l + 1) := by
        rw [eh, hQ_e (i := 1) hl hl (by omega) (by omega) (by omega)]
      rw [x1]
      have o : ∀ j, j ≠ 3 → j ≠ 4 → j < 86 → heP P k l j = P j := fun j a c d => by
        rw [eh, hQ_o a (by omega) (by omega) (by omega), pk_un c]
      refine fin _ ρ' hV' ((Fr.sS (by omega) (by omega)).trans hF) (fun q a1 a2 => by rw [hq q a1 a2, sS_n (by omega)]) (fun j hj => ?_) (o 1 (by omega) (by omega) (by omega)) (o 2 (by omega) (by omega) (by omega)) (fun l' hl' => o _ (by omega) (by omega) (by omega)) (fun k' l' hk' hl' q => Or.inr ?_)
      · rw [eh, hQ_o (by omega) (by unfold eX; omega) (by unfold eX; omega) (by omega), pk_un (by omega)]
      · rw [eh, hQ_o (by have := eX_ge k' l'; omega) ?_ ?_ ?_, pk_un (by have := eX_ge k' l'; omega)] at q
        · exact q
        · unfold eX; rcases Nat.lt_trichotomy k k' with y | y | y <;> omega
        · unfold eX; rcases Nat.lt_trichotomy k k' with y | y | y <;> omega
        · unfold eX; rcases Nat.lt_trichotomy k k' with y | y | y <;> omega
  refine kX5_outcome gk hs.2.1 (fun hf => ?_) (fun e hf => ?_)
  · have := hcount _ rfl
    rw [hou, hf] at this
    rw [hf]
    exact this
  · have := hcount _ rfl
    rw [hou, hf] at this
    rw [hf]
    exact this
end ST1
