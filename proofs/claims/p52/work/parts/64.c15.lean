/-! ===== the class: an echo is fetched ===== -/
section SS
variable {G : GG} {σ : Mm} {K : RES → Mm → Prop} {st b n m : Nat} {ω : List Nat} {ρ : Nat → List Nat} {P : Nat → Int32}
theorem fx3_3 {k l : Nat} : fx3 P k l 3 = P 3 + 1 := by unfold fx3; rw [pk_us]
theorem fx3_e {k l : Nat} : fx3 P k l (eX k l) = 1 ∧ fx3 P k l (eX k l + 1) = P (8 + 3 * l + 1) ∧ fx3 P k l (eX k l + 2) = P 2 ∧ fx3 P k l (eX k l + 3) = P 3 ∧ fx3 P k l (eX k l + 4) = P 3 ∧ fx3 P k l (eX k l + 5) = 0 ∧ fx3 P k l (eX k l + 6) = 0 := by
  have hge := eX_ge k l
  unfold fx3 fx2
  refine ⟨?_, ?_, ?_, ?_, ?_, ?_, ?_⟩
  · rw [pk_un (by omega), pk_un (by omega), pk_un (by omega), pk_un (by omega), pk_un (by omega), pk_un (by omega), pk_un (by omega), pk_us]
  · rw [pk_un (by omega), pk_un (by omega), pk_un (by omega), pk_un (by omega), pk_un (by omega), pk_un (by omega), pk_us]
  · rw [pk_un (by omega), pk_un (by omega), pk_un (by omega), pk_un (by omega), pk_un (by omega), pk_us]
  · rw [pk_un (by omega), pk_un (by omega), pk_un (by omega), pk_un (by omega), pk_us]
  · rw [pk_un (by omega), pk_un (by omega), pk_un (by omega), pk_us]
  · rw [pk_un (by omega), pk_un (by omega), pk_us]
  · rw [pk_un (by omega), pk_us]
theorem fx3_x {k l l' i : Nat} (h : l' ≠ l) (hi : i < 7) : fx3 P k l (eX k l' + i) = P (eX k l' + i) := fx3_o (by have := eX_ge k l'; omega) (fun j hj => eX_ne h hi hj)
theorem fx3_lo {k l j : Nat} (h3 : j ≠ 3) (h : j < 91) : fx3 P k l j = P j := fx3_o h3 (fun i _ => by have := eX_ge k l; omega)
theorem fx3_sh {k l j : Nat} (h3 : 8 ≤ j) (hl : l < 26) (h : oSh k j) : fx3 P k l j = P j := fx3_o (by omega) (fun i hi z => by unfold oSh at h; unfold eX at z; omega)
theorem fx3_h {k l i : Nat} (hi : i < 5) : fx3 P k l (86 + 187 * k + i) = P (86 + 187 * k + i) := fx3_o (by omega) (fun j hj => by unfold eX; omega)
theorem PI_fx3 {k l : Nat} (hP : PI P n b) (hb : b < 2 ^ 29) (hk : k < n) (hl : l < 26) (hj : P (8 + 3 * l) = 1) (h0 : ¬ P (eX k l) = 1) (hc : (ecN P k : Int) < (P (86 + 187 * k)).toInt) : PI (fx3 P k l) n (b + 1) := by
  have hP0 := hP
  obtain ⟨h1, h2, h3, h4, h5, h6, h7⟩ := hP
  have h3b := h2.2.1
  have i3 : (P 3 + 1).toInt = (P 3).toInt + 1 := add1_i h3b.1 (by have := h3b.2; omega)
  have b1 := h3b.1
  have b2 := h3b.2
  obtain ⟨f0, f1, f2, f3, f4, f5, f6⟩ := fx3_e (P := P) (k := k) (l := l)
  refine PI_sh (k := k) hP0 (show b ≤ b + 1 by omega) hk (fun j h8 ho => fx3_sh h8 hl ho) (fx3_lo (by omega) (by omega)) ?_ (by rw [fx3_lo (show (2 : Nat) ≠ 3 by omega) (by omega)]; omega) (by rw [fx3_3]; omega) ?_ (fun l' hl' => ?_) (fun l1 l2 hl1 hl2 hne q1 q2 => ?_)
  · rw [fx3_lo (show (2 : Nat) ≠ 3 by omega) (by omega), fx3_3, fx3_lo (show (4 : Nat) ≠ 3 by omega) (by omega), fx3_lo (show (5 : Nat) ≠ 3 by omega) (by omega), fx3_lo (show (6 : Nat) ≠ 3 by omega) (by omega), fx3_lo (show (7 : Nat) ≠ 3 by omega) (by omega)]
    exact ⟨h2.1.mono (by omega), ⟨by omega, by omega⟩, h2.2.2.1.mono (by omega), h2.2.2.2.1.mono (by omega), h2.2.2.2.2.1.mono (by omega), h2.2.2.2.2.2.mono (by omega)⟩
  · obtain ⟨a1, a2, a3, a4, a5, a6⟩ := h4 k hk
    rw [show fx3 P k l (86 + 187 * k) = P (86 + 187 * k) from fx3_h (i := 0) (by omega), fx3_h (i := 2) (by omega), fx3_h (i := 3) (by omega), fx3_h (i := 4) (by omega)]
    have : ecN (fx3 P k l) k = ecN P k + 1 := cnt_one (l := l) h0 f0 (fun i hi => by rw [show fx3 P k l (eX k i) = P (eX k i) from fx3_x (i := 0) hi (by omega)]) 26 hl
    exact ⟨a1, a2, a3, a4, a5.mono (by omega), by omega⟩
  · rw [fx3_lo (show (2 : Nat) ≠ 3 by omega) (by omega), fx3_3]
    by_cases z : l' = l
    · subst z
      rw [f0, f1, f2, f3, f4, f5, f6]
      obtain ⟨j1, j2, j3, j4, j5⟩ := h3 l' hl'
      refine ⟨Or.inr rfl, fun _ => ⟨j2, h2.1.1, by omega, b1, by omega, b1, by omega, ⟨by decide, by show (0 : Int) ≤ _; omega⟩, Or.inl rfl, fun _ => rfl⟩⟩
    · rw [show fx3 P k l (eX k l') = P (eX k l') from fx3_x (i := 0) z (by omega), fx3_x z (by omega), fx3_x z (by omega), fx3_x z (by omega), fx3_x z (by omega), fx3_x z (by omega), fx3_x z (by omega)]
      refine ⟨(h5 k l' hk hl').1, fun q => ?_⟩
      obtain ⟨a2, a3, a4, a5, a6, a7, a8, a9, a10, a11⟩ := (h5 k l' hk hl').2 q
      exact ⟨a2, a3, by omega, a5, by omega, a7, by omega, a9.mono (by omega), a10, a11⟩
  · by_cases z1 : l1 = l
    · subst z1
      rw [show fx3 P k l1 (eX k l2) = P (eX k l2) from fx3_x (i := 0) (Ne.symm hne) (by omega)] at q2
      rw [f3, f4, fx3_x (Ne.symm hne) (by omega), fx3_x (Ne.symm hne) (by omega)]
      have r2 := (h5 k l2 hk hl2).2 q2
      refine ⟨fun e => ?_, fun e => ?_⟩
      · have := r2.2.2.2.2.1
        rw [← e] at this
        omega
      · have := r2.2.2.2.2.2.2.1
        rw [← e] at this
        omega
    · rw [show fx3 P k l (eX k l1) = P (eX k l1) from fx3_x (i := 0) z1 (by omega)] at q1
      rw [fx3_x z1 (by omega), fx3_x z1 (by omega)]
      have r1 := (h5 k l1 hk hl1).2 q1
      by_cases z2 : l2 = l
      · subst z2
        rw [f3, f4]
        refine ⟨fun e => ?_, fun e => ?_⟩
        · have := r1.2.2.2.2.1
          rw [e] at this
          omega
        · have := r1.2.2.2.2.2.2.1
          rw [e] at this
          omega
      · rw [show fx3 P k l (eX k l2) = P (eX k l2) from fx3_x (i := 0) z2 (by omega)] at q2
        rw [fx3_x z2 (by omega), fx3_x z2 (by omega)]
        exact h6 k l1 l2 hk hl1 hl2 hne q1 q2
theorem EB.fill {J : Nat → Nat → Int32} {k l r : Nat} {L : List Nat} {t : Int32} (h : EB σ J P k L) (hnd : L.Nodup) (hl : l < 26) (hr : r ∈ L) (r0 : mi σ r 0 = 0) (h0 : ¬ P (eX k l) = 1) (ht : t = J l 2) (ht0 : 0 ≤ t.toInt) (hs : P (8 + 3 * l + 2) < P 3) : EB (sS σ r (flR (mi σ r) (nI (97 + l)) (P (8 + 3 * l + 1)) (P 2) (P 3) t)) J (fx3 P k l) k L := by
  obtain ⟨h1, h2, h3, h4, h5⟩ := h
  obtain ⟨F, hF⟩ : ∃ F, F = flR (mi σ r) (nI (97 + l)) (P (8 + 3 * l + 1)) (P 2) (P 3) t := ⟨_, rfl⟩
  rw [← hF]
  have s : ∀ f, f ≠ r → mi (sS σ r F) f = mi σ f := fun f hf => sS_n hf
  have se : mi (sS σ r F) r = F := sS_s
  have F0 : F 0 = 1 := by rw [hF]; rfl
  have F1 : F 1 = nI (97 + l) := by rw [hF]; rfl
  have F8 : F 8 = 0 := by rw [hF]; rfl
  have hge := eX_ge k l
  obtain ⟨f0, f1, f2, f3, f4, f5, f6⟩ := fx3_e (P := P) (k := k) (l := l)
  have lne : ∀ f, f ∈ L → mi σ f 0 = 1 → ∀ l', mi σ f 1 = nI (97 + l') → l' < 26 → l' ≠ l := fun f hf e0 l' e1 hl' w => by
    subst w
    obtain ⟨l2, hl2, q, h9⟩ := h3 f hf e0
    have := nIl_inj hl' hl2 (e1.symm.trans q)
    subst this
    exact h0 h9.1
  refine ⟨h1, fun f hf => ?_, fun f hf e0 => ?_, fun l' hl' q => ?_, ?_⟩
  · by_cases z : f = r
    · subst z; rw [se, F0, F1, F8]; exact ⟨Or.inr rfl, Or.inl rfl, isC_nI (by omega)⟩
    · rw [s f z]; exact h2 f hf
  · by_cases z : f = r
    · subst z
      rw [se]
      refine ⟨l, hl, F1, ?_⟩
      unfold eV
      rw [f0, f1, f2, f3, f4, f5, f6, fx3_lo (show 8 + 3 * l + 2 ≠ 3 by omega) (by omega), hF]
      refine ⟨rfl, rfl, rfl, rfl, rfl, rfl, rfl, ?_, ?_, ?_⟩
      · show t.toInt ≤ _; rw [ht]; exact Int.le_refl _
      · exact ht0
      · show t = _ ↔ _
        exact ⟨fun _ => hs, fun _ => ht⟩
    · rw [s f z] at e0 ⊢
      obtain ⟨l', hl', q, h9⟩ := h3 f hf e0
      have hne := lne f hf e0 l' q hl'
      exact ⟨l', hl', q, eV_cg h9 (fun i hi => fx3_x hne hi) (fx3_lo (by omega) (by omega))⟩
  · by_cases w : l' = l
    · subst w
      exact ⟨r, hr, by rw [se]; exact F0, by rw [se]; exact F1⟩
    · rw [show fx3 P k l (eX k l') = P (eX k l') from fx3_x (i := 0) w (by omega)] at q
      obtain ⟨f, hf, e0, e1⟩ := h4 l' hl' q
      have z : f ≠ r := fun z => by subst z; rw [r0] at e0; exact absurd e0 (by decide)
      exact ⟨f, hf, by rw [s f z]; exact e0, by rw [s f z]; exact e1⟩
  · refine (h5.and hnd).imp_of_mem fun {f g} hf hg rn e0 g0 => ?_
    obtain ⟨rr, hfg⟩ := rn
    by_cases z : f = r
    · subst z
      have w : g ≠ f := Ne.symm hfg
      rw [s g w] at g0 ⊢
      rw [se, F1]
      obtain ⟨l', hl', q, -⟩ := h3 g hg g0
      intro e
      exact lne g hg g0 l' q hl' (nIl_inj hl' hl (q.symm.trans e.symm))
    · rw [s f z] at e0 ⊢
      by_cases w : g = r
      · subst w
        rw [se, F1]
        obtain ⟨l', hl', q, -⟩ := h3 f hf e0
        intro e
        exact lne f hf e0 l' q hl' (nIl_inj hl' hl (q.symm.trans e))
      · rw [s g w] at g0 ⊢
        exact rr e0 g0
/-- room is made: what is there afterwards -/
theorem cRoom (hV : RV σ st P b n ω ρ) (hb : b < 2 ^ 29) {k l : Nat} (hk : k < n) (hl : l < 26) : EB (remM σ (remE σ (st + 30 + 8 * k) (ρ k) (nI (97 + l)))) (vJ σ st) (fx1 P k l) k (ρ k) ∧ PI (fx1 P k l) n b ∧ ¬ fx1 P k l (eX k l) = 1 ∧ (ecN (fx1 P k l) k : Int) < (P (86 + 187 * k)).toInt := by
  have hn := hV.n4
  have hk4 : k < 4 := by omega
  have hEA := hV.ea hk
  have hnd := hV.nd (k := k) hk4
  have hc := hEA.count hnd
  have hP := hV.pi
  obtain ⟨a1, a2, a3, a4, a5, a6⟩ := hP.2.2.2.1 k hk
  have hz := (hP.2.2.2.2.1 k l hk hl).1
  have hle : ecN P k ≤ 26 := cnt_le _ 26
  have nIi : ∀ x : Nat, x ≤ 26 → (nI x).toInt = (x : Int) := fun x hx => nI_toInt (by omega)
  by_cases hp : P (eX k l) = 1
  · obtain ⟨e, hf, he, e0, e1, hv⟩ := hEA.find1 hl hp
    have hr : remE σ (st + 30 + 8 * k) (ρ k) (nI (97 + l)) = some e := by unfold remE; rw [hf]
    have hn1 : ecN P k = ecN (upd P (eX k l) 0) k + 1 := cnt_one (p := fun i => upd P (eX k l) 0 (eX k i) = 1) (q := fun i => P (eX k i) = 1) (l := l) (by show ¬ upd P (eX k l) 0 (eX k l) = 1; rw [pk_us]; decide) hp (fun i hi => by show upd P (eX k l) 0 (eX k i) = 1 ↔ _; rw [pk_un (show eX k i ≠ eX k l from eX_ne (i := 0) (j := 0) hi (by omega) (by omega))]) 26 hl
    have hfx : fx1 P k l = upd P (eX k l) 0 := by
      unfold fx1
      rw [if_neg]
      intro q
      have := congrArg Int32.toInt q
      rw [nIi _ (by omega)] at this
      omega
    rw [hr, hfx]
    refine ⟨hEA.eb.rm hl he e0 e1, PI_rm hP hk hl, by rw [pk_us]; decide, by omega⟩
  · have hp0 : P (eX k l) = 0 := hz.elim id (fun z => absurd z hp)
    have hu : upd P (eX k l) 0 = P := upd_same hp0
    have hf := hEA.find0 (x := nI (97 + l)) (fun z => hp ((ecP_l hl).mp z))
    cases hL : ρ k with
    | nil => have := (hV.ss hk).l; rw [hL] at this; simp at this
    | cons x R =>
      obtain ⟨g1, g2, -⟩ := hV.first hb hk hL
      rw [hL] at hf hc hEA
      have h1 := hV.h1 hk
      by_cases hcap : ecN P k = (P (86 + 187 * k)).toInt.toNat
      · have hpos : ecN P k ≠ 0 := by omega
        have hx : ¬ mi σ x 0 = 0 := fun z => hpos (g1.mp z)
        obtain ⟨v, hv, hvc, hvx, hvp⟩ := g2 hx
        have hr : remE σ (st + 30 + 8 * k) (x :: R) (nI (97 + l)) = some x := by
          unfold remE
          rw [hf]
          simp only
          rw [if_neg, if_neg hx]
          rw [hc, h1, Int32.lt_iff_toInt_lt, nIi _ hle]
          omega
        have hfx : fx1 P k l = upd P (eX k v) 0 := by
          unfold fx1
          rw [hu, if_pos, hvc]
          rw [← Int32.toInt_inj, nIi _ hle]
          omega
        have hvl : v ≠ l := fun w => by subst w; exact hp hvp
        have hn1 : ecN P k = ecN (upd P (eX k v) 0) k + 1 := cnt_one (p := fun i => upd P (eX k v) 0 (eX k i) = 1) (q := fun i => P (eX k i) = 1) (l := v) (by show ¬ upd P (eX k v) 0 (eX k v) = 1; rw [pk_us]; decide) hvp (fun i hi => by show upd P (eX k v) 0 (eX k i) = 1 ↔ _; rw [pk_un (show eX k i ≠ eX k v from eX_ne (i := 0) (j := 0) hi (by omega) (by omega))]) 26 hv
        rw [hr, hfx]
        refine ⟨hEA.eb.rm hv (List.mem_cons_self ..) ((hEA.one (List.mem_cons_self ..)).mp hx) hvx, PI_rm hP hk hv, ?_, by omega⟩
        rw [pk_un (show eX k l ≠ eX k v from eX_ne (i := 0) (j := 0) (Ne.symm hvl) (by omega) (by omega))]
        exact hp
      · have hr : remE σ (st + 30 + 8 * k) (x :: R) (nI (97 + l)) = none := by
          unfold remE
          rw [hf]
          simp only
          rw [if_pos]
          rw [hc, h1, Int32.lt_iff_toInt_lt, nIi _ hle]
          omega
        have hfx : fx1 P k l = P := by
          unfold fx1
          rw [hu, if_neg]
          intro q
          have := congrArg Int32.toInt q
          rw [nIi _ hle] at this
          omega
        rw [hr, hfx]
        exact ⟨hEA.eb, hP, hp, by omega⟩
/-- State.fetch, with the shelf and the jar there -/
theorem kX6_fetch (gk : GOK G) (hb : b < 2 ^ 29) (hV : RV σ st P b n ω ρ) {k l : Nat} (hk : k < n) (hl : l < 26) (hj : P (8 + 3 * l) = 1) (hK : ∀ σ' ρ', RV σ' st (ftP P k l) (b + 1) n ω ρ' → Fr σ σ' st → (∀ q, st + 62 ≤ q → q < st + 70 → mi σ' q = mi σ q) → K (.inl (some (vI 1))) σ') : Runs G mX6_fetch rX6_fetch [vR (some st), vI (nI k), vI (nI (97 + l))] σ K := by
  have hn := hV.n4
  have hk4 : k < 4 := by omega
  have hs := hV.s.s hk4
  have hS := hV.s
  have hEA := hV.ea hk
  have hnd := hV.nd (k := k) hk4
  obtain ⟨hB, hP1, h0, hcap⟩ := cRoom hV hb hk hl
  obtain ⟨a1, a2, a3, a4, a5, a6⟩ := hV.pi.2.2.2.1 k hk
  have hjt := (hS.j hl).2
  -- the places that making room leaves
  have o1 : ∀ j, (∀ m, m < 26 → j ≠ eX k m) → fx1 P k l j = P j := fun j h => fx1_o hl h
  have lo1 : ∀ j, j < 91 → fx1 P k l j = P j := fun j h => o1 j (fun m _ => by have := eX_ge k m; omega)
  have hd1 : ∀ i, i < 5 → fx1 P k l (86 + 187 * k + i) = P (86 + 187 * k + i) := fun i hi => o1 _ (fun m _ => by unfold eX; omega)
  have hrm : ∀ e, remE σ (st + 30 + 8 * k) (ρ k) (nI (97 + l)) = some e → e ∈ ρ k := fun e he => remE_mem he
  obtain ⟨σ1, hσ1⟩ : ∃ σ1, σ1 = remM σ (remE σ (st + 30 + 8 * k) (ρ k) (nI (97 + l))) := ⟨_, rfl⟩
  have m1 : mr σ1 = mr σ ∧ mt σ1 = mt σ := by
    rw [hσ1]
    cases remE σ (st + 30 + 8 * k) (ρ k) (nI (97 + l)) <;> exact ⟨rfl, rfl⟩
  have q1 : ∀ a, ¬ (st + 32 + 8 * k ≤ a ∧ a < st + 38 + 8 * k) → mi σ1 a = mi σ a := fun a ha => by
    rw [hσ1]
    cases hr : remE σ (st + 30 + 8 * k) (ρ k) (nI (97 + l)) with
    | none => rfl
    | some e =>
      have := hS.e hk4 (hrm e hr)
      exact sS_n (by omega)
  have hFr1 : Fr σ σ1 st := by
    rw [hσ1]
    cases hr : remE σ (st + 30 + 8 * k) (ρ k) (nI (97 + l)) with
    | none => exact Fr.refl
    | some e =>
      have := hS.e hk4 (hrm e hr)
      exact Fr.sS (by omega) (by omega)
  rw [← hσ1] at hB
  have hfree : ∃ e, e ∈ ρ k ∧ mi σ1 e 0 = 0 := by
    have hcnt : (ρ k).countP (isE σ1) = ecN (fx1 P k l) k := by
      have hE1 : EA σ1 (vJ σ st) (fx1 P k l) k 0 (isR (ltE σ1 0) [] (ρ k)) := (hB.perm (isR_perm (ρ k) [])).ea (isR_srtd ltE_as ltE_nt _ _ List.Pairwise.nil)
      have := hE1.count ((isR_perm (ρ k) []).nodup_iff.mpr hnd)
      rw [← this]
      exact ((isR_perm (ρ k) []).countP_eq _).symm
    have hlt : (ρ k).countP (isE σ1) < (ρ k).length := by rw [hcnt, hs.2.1.l]; omega
    by_cases hall : ∃ e, e ∈ ρ k ∧ mi σ1 e 0 = 0
    · exact hall
    · exfalso
      have : (ρ k).countP (isE σ1) = (ρ k).length := List.countP_eq_length.mpr fun e he => isE_t.mpr fun z => hall ⟨e, he, z⟩
      omega
  refine eX6_fetch gk ⟨_, rfl, hS.ty, cFindShelf gk hV (fun q => absurd (hV.sh hk) q) fun k' hk' ek => vX6_fetch_5 gk ⟨_, rfl, hS.ty, cFindJar gk hV (isC_nI (by omega)) (fun q => absurd ⟨l, hl, rfl, hj⟩ q) fun l' hl' el _ => vX6_fetch_11 gk ⟨fun q => (by cases q), fun a q => ⟨fun q2 => (by cases q2), fun a2 q2 => ⟨_, rfl, hS.ty, ?_, ?_⟩⟩⟩⟩⟩
  · have := (nI_eq (by omega) (by omega)).mp ek
    subst this
    cases q
    exact hs.2.1.ty
  have := (nI_eq (by omega) (by omega)).mp ek
  subst this
  have := nIl_inj hl hl' el
  subst this
  refine kX5_fetch gk hjt (isC_nI (by omega)) hs.2.1 (by rw [← hσ1]; exact hfree) fun σ1' e L' hs1 hfe hp hsr => vX6_fetch_39 gk ⟨st, rfl, by show (mt σ1' st).1 = 7; rw [hs1, ← hσ1, m1.2]; exact hS.ty, fun σ3 q3 => ?_⟩
  rw [← hσ1] at hs1
  subst hs1
  have her : e ∈ ρ k := List.mem_of_find?_eq_some hfe
  have he0 : mi σ1' e 0 = 0 := by
    have := List.find?_some hfe
    simpa [isE] using this
  have hee := hS.e hk4 her
  have g3 := hV.g3
  have g4 := hV.g4
  have j1 := hV.j1 hl
  rw [j1, g3, g4] at q3 hsr
  have ej2 : mi σ (st + 4 + l) 2 = vJ σ st l 2 := rfl
  rw [ej2] at q3 hsr
  have eF : flR (mi σ1' e) (nI (97 + l)) (P (8 + 3 * l + 1)) (P 2) (P 3) (vJ σ st l 2) = flR (mi σ1' e) (nI (97 + l)) (fx1 P k l (8 + 3 * l + 1)) (fx1 P k l 2) (fx1 P k l 3) (vJ σ st l 2) := by
    rw [lo1 _ (by omega), lo1 _ (by omega), lo1 _ (by omega)]
  rw [eF] at q3 hsr
  obtain ⟨F, hF⟩ : ∃ F, F = flR (mi σ1' e) (nI (97 + l)) (fx1 P k l (8 + 3 * l + 1)) (fx1 P k l 2) (fx1 P k l 3) (vJ σ st l 2) := ⟨_, rfl⟩
  have hjl := hV.pi.2.2.1 l hl
  have hJ2 := (hV.j l hl).2.2.2
  have hB2 : EB (sS σ1' e F) (vJ σ st) (fx3 (fx1 P k l) k l) k (ρ k) := by
    rw [hF]
    refine hB.fill hnd hl her he0 h0 rfl hJ2.1 ?_
    rw [lo1 _ (by omega), lo1 _ (by omega), Int32.lt_iff_toInt_lt]
    exact hjl.2.2.2.2 hj
  rw [← hF] at q3 hsr
  rw [si_sS] at q3
  have qst : mi (sO (sS σ1' e F) (st + 30 + 8 * k + 1) L') st = mi σ st := by rw [sO_i, sS_n (by omega), q1 st (by omega)]
  rw [qst, sO_sS] at q3
  obtain ⟨σ2, hσ2⟩ : ∃ σ2, σ2 = sS (sS σ1' e F) st (upd (mi σ st) 4 (mi σ st 4 + 1)) := ⟨_, rfl⟩
  rw [← hσ2] at q3
  have qq : ∀ a, a ≠ st → ¬ (st + 32 + 8 * k ≤ a ∧ a < st + 38 + 8 * k) → mi σ2 a = mi σ a := fun a h0 ha => by
    rw [hσ2, sS_n h0, sS_n (by omega), q1 a ha]
  have q2st : mi σ2 st = upd (mi σ st) 4 (mi σ st 4 + 1) := by rw [hσ2, sS_s]
  have qe : ∀ f, f ∈ ρ k → mi σ2 f = mi (sS σ1' e F) f := fun f hf => by
    have := hS.e hk4 hf
    rw [hσ2, sS_n (by omega)]
  have hcap1 : (ecN (fx1 P k l) k : Int) < (fx1 P k l (86 + 187 * k)).toInt := by rw [show fx1 P k l (86 + 187 * k) = P (86 + 187 * k) from hd1 0 (by omega)]; exact hcap
  have hPI : PI (ftP P k l) n (b + 1) := PI_fx3 hP1 hb hk hl (by rw [lo1 _ (by omega)]; exact hj) h0 hcap1
  have lo : ∀ j, j ≠ 3 → j < 91 → ftP P k l j = P j := fun j a c => (fx3_lo a c).trans (lo1 j c)
  have h3 : ftP P k l 3 = P 3 + 1 := by unfold ftP; rw [fx3_3, lo1 3 (by omega)]
  have hd : ∀ i, i < 5 → ftP P k l (86 + 187 * k + i) = P (86 + 187 * k + i) := fun i hi => (fx3_h hi).trans (hd1 i hi)
  have g := hV.g
  rw [q3]
  refine hK _ (ρu ρ k L') ?_ ?_ (fun a a1 a2 => by rw [sO_i]; exact qq a (by omega) (by omega))
  · refine hV.shelf (σ1 := σ2) (by omega) hk (by rw [hσ2]; exact m1.1) (by rw [hσ2]; exact m1.2) (fun a c1 c2 c3 c4 => qq a (by omega) c4) hPI (fun j h8 ho => ?_) ?_ ?_ ?_ hp ?_
    · unfold ftP
      rw [fx3_sh h8 hl ho]
      exact o1 j (fun m hm z => by unfold oSh at ho; unfold eX at z; omega)
    · have eg : ∀ i, i < 9 → 3 ≤ i → i ≠ 4 → vG σ2 st i = vG σ st i := fun i h9 h3 h4 => by
        unfold vG
        rw [if_pos ⟨h3, h9⟩, if_pos ⟨h3, h9⟩, q2st, pk_un h4]
      unfold GV
      rw [eg 3 (by omega) (by omega) (by omega), eg 5 (by omega) (by omega) (by omega), eg 6 (by omega) (by omega) (by omega), eg 7 (by omega) (by omega) (by omega), eg 8 (by omega) (by omega) (by omega), lo 2 (by omega) (by omega), h3, lo 4 (by omega) (by omega), lo 5 (by omega) (by omega), lo 6 (by omega) (by omega), lo 7 (by omega) (by omega)]
      refine ⟨g.1, ?_, g.2.2⟩
      show mi σ2 st 4 = _
      rw [q2st, pk_us, g4]
    · rw [vH_cg (σ := σ) (qq _ (by omega) (by omega))]
      unfold HV
      rw [show ftP P k l (86 + 187 * k) = P (86 + 187 * k) from hd 0 (by omega), hd 1 (by omega), hd 2 (by omega), hd 3 (by omega), hd 4 (by omega)]
      exact (hV.e hk).1
    · obtain ⟨b1, b2, b3, b4, b5⟩ := hB2
      refine ⟨b1, fun f hf => by rw [qe f hf]; exact b2 f hf, fun f hf f0 => ?_, fun l' hl' z => ?_, b5.imp_of_mem fun {x y} hx hy r => by rw [qe x hx, qe y hy]; exact r⟩
      · rw [qe f hf] at f0 ⊢
        exact b3 f hf f0
      · obtain ⟨f, hf, z1, z2⟩ := b4 l' hl' z
        exact ⟨f, hf, by rw [qe f hf]; exact z1, by rw [qe f hf]; exact z2⟩
    · rw [hd 2 (by omega), ← hV.h3 hk]
      refine srtd_cg hsr fun f hf => ?_
      rw [qe f (hp.mem_iff.mp hf)]
      exact ⟨rfl, rfl, rfl, rfl⟩
  · rw [hσ2]
    exact ((hFr1.trans (Fr.sS (by omega) (by omega))).trans (Fr.sS (by omega) (by omega))).trans (Fr.sO (by omega) (by omega))
end SS
