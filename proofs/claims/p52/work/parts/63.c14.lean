/-! ===== the class: an echo is heard; an echo is fetched ===== -/
theorem upd_cm {f : Nat → Int32} {i j : Nat} {x y : Int32} (h : i ≠ j) : upd (upd f i x) j y = upd (upd f j y) i x := by
  funext k
  unfold upd
  by_cases h1 : k = j
  · subst h1; rw [if_pos rfl, if_neg (Ne.symm h), if_pos rfl]
  · rw [if_neg h1, if_neg h1]
theorem sO_sS {σ : Mm} {o e : Nat} {L : List Nat} {f : Nat → Int32} : sS (sO σ o L) e f = sO (sS σ e f) o L := rfl
theorem PI_g {P P' : Nat → Int32} {n b b' : Nat} (hP : PI P n b) (hbb : b ≤ b') (eo : ∀ j, 8 ≤ j → P' j = P j) (e0 : P' 0 = P 0) (hg : NB (P' 2) b' ∧ NB (P' 3) b' ∧ NB (P' 4) b' ∧ NB (P' 5) b' ∧ NB (P' 6) b' ∧ NB (P' 7) b') (h2 : (P 2).toInt ≤ (P' 2).toInt) (h3 : (P 3).toInt ≤ (P' 3).toInt) : PI P' n b' := by
  obtain ⟨h1, -, hj, h4, h5, h6, h7⟩ := hP.mono hbb
  have ex : ∀ k l i, P' (eX k l + i) = P (eX k l + i) := fun k l i => eo _ (by have := eX_ge k l; omega)
  have ex0 : ∀ k l, P' (eX k l) = P (eX k l) := fun k l => ex k l 0
  refine ⟨by rw [e0]; exact h1, hg, fun l hl => ?_, fun k hk => ?_, fun k l hk hl => ?_, fun k l l' hk hl hl' => ?_, ?_⟩
  · rw [eo _ (by omega), eo _ (by omega), eo _ (by omega)]
    obtain ⟨c1, c2, c3, c4, c5⟩ := hj l hl
    exact ⟨c1, c2, c3, by omega, fun q => by have := c5 q; omega⟩
  · rw [show ecN P' k = ecN P k from cnt_congr fun l _ => by rw [ex0], eo _ (by omega), eo _ (by omega), eo _ (by omega), eo _ (by omega)]; exact h4 k hk
  · rw [ex0, ex, ex, ex, ex, ex, ex, eo (8 + 3 * l + 1) (by omega), eo (8 + 3 * l + 2) (by omega)]
    refine ⟨(h5 k l hk hl).1, fun q => ?_⟩
    obtain ⟨a2, a3, a4, a5, a6, a7, a8, a9, a10, a11⟩ := (h5 k l hk hl).2 q
    exact ⟨a2, a3, by omega, a5, by omega, a7, by omega, a9, a10, a11⟩
  · rw [ex0, ex0, ex, ex, ex, ex]; exact h6 k l l' hk hl hl'
  · rw [show jrN P' = jrN P from cnt_congr fun l hl => by rw [eo _ (by omega)]]; exact h7
section SR
variable {G : GG} {σ : Mm} {K : RES → Mm → Prop} {st b n m : Nat} {ω : List Nat} {ρ : Nat → List Nat} {P : Nat → Int32}
theorem RV.glob (h : RV σ st P b n ω ρ) {b' : Nat} {P' : Nat → Int32} {F : Nat → Int32} (hbb : b ≤ b') (hP' : PI P' n b') (eo : ∀ j, 8 ≤ j → P' j = P j) (hG : GV (vG (sS σ st F) st) P') : RV (sS σ st F) st P' b' n ω ρ := by
  have hn := h.n4
  have ex : ∀ k l i, P' (eX k l + i) = P (eX k l + i) := fun k l i => eo _ (by have := eX_ge k l; omega)
  have ex0 : ∀ k l, P' (eX k l) = P (eX k l) := fun k l => ex k l 0
  refine ⟨h.1.mv rfl rfl, hP', fun l hl => ?_, hG, fun k hk => ⟨?_, ?_⟩, fun k hk hk2 => ?_⟩
  · rw [vJ_cg (σ := σ) (sS_n (by omega)), eo (8 + 3 * l) (by omega), eo (8 + 3 * l + 1) (by omega), eo (8 + 3 * l + 2) (by omega)]
    exact h.j.mono hbb l hl
  · rw [vH_cg (σ := σ) (sS_n (by omega))]
    unfold HV
    rw [eo _ (by omega), eo _ (by omega), eo _ (by omega), eo _ (by omega), eo _ (by omega)]
    exact (h.e hk).1
  · show EV _ _ _ _ (vE (sS σ st F) (ρ k))
    rw [vE_cg (σ := σ) fun e he => sS_n (by have := h.s.e (show k < 4 by omega) he; omega), eo (86 + 187 * k + 2) (by omega)]
    obtain ⟨a1, a2, a3, a4, a5, a6⟩ := (h.e hk).2
    refine ⟨a1, a2, fun r hr h0 => ?_, fun l hl e => a4 l hl (by rw [← ex0]; exact e), a5, a6⟩
    obtain ⟨l, hl, q1, h9⟩ := a3 r hr h0
    refine ⟨l, hl, q1, ?_⟩
    have h9' := eV_cg (P' := P') h9 (fun i hi => ex k l i) (eo _ (by omega))
    unfold eV at h9' ⊢
    rw [vJ_cg (σ := σ) (sS_n (by omega))]
    exact h9'
  · rw [vH_cg (σ := σ) (sS_n (by omega))]
    show _ ∧ EN (vE (sS σ st F) (ρ k))
    rw [vE_cg (σ := σ) fun e he => sS_n (by have := h.s.e hk he; omega)]
    exact h.nn hk hk2
/-- a shelf's echo is heard, the counter aside -/
def hQ (Q : Nat → Int32) (k l : Nat) : Nat → Int32 := upd (upd (upd (upd Q (eX k l + 5) (Q (eX k l + 5) + 1)) (eX k l + 4) (Q 3)) 3 (Q 3 + 1)) (86 + 187 * k + 4) (Q (86 + 187 * k + 4) + 1)
theorem hQ_o {k l j : Nat} (h3 : j ≠ 3) (h4 : j ≠ eX k l + 4) (h5 : j ≠ eX k l + 5) (h6 : j ≠ 86 + 187 * k + 4) : hQ P k l j = P j := by unfold hQ; rw [pk_un h6, pk_un h3, pk_un h4, pk_un h5]
theorem hQ_3 {k l : Nat} : hQ P k l 3 = P 3 + 1 := by unfold hQ; rw [pk_un (by omega), pk_us]
theorem hQ_4 {k l : Nat} : hQ P k l (eX k l + 4) = P 3 := by unfold hQ; rw [pk_un (by unfold eX; omega), pk_un (by omega), pk_us]
theorem hQ_5 {k l : Nat} : hQ P k l (eX k l + 5) = P (eX k l + 5) + 1 := by unfold hQ; rw [pk_un (by unfold eX; omega), pk_un (by omega), pk_un (by omega), pk_us]
theorem hQ_6 {k l : Nat} : hQ P k l (86 + 187 * k + 4) = P (86 + 187 * k + 4) + 1 := by unfold hQ; rw [pk_us]
theorem hQ_e {k l l' i : Nat} (hl : l < 26) (hl' : l' < 26) (hi : i < 7) (h4 : l' = l → i ≠ 4) (h5 : l' = l → i ≠ 5) : hQ P k l (eX k l' + i) = P (eX k l' + i) := by
  refine hQ_o (by have := eX_ge k l'; omega) ?_ ?_ (by unfold eX; omega)
  · by_cases z : l' = l
    · subst z; have := h4 rfl; omega
    · exact eX_ne z hi (by omega)
  · by_cases z : l' = l
    · subst z; have := h5 rfl; omega
    · exact eX_ne z hi (by omega)
theorem PI_hQ {k l : Nat} (hP : PI P n b) (hb : b < 2 ^ 29) (hk : k < n) (hl : l < 26) (hp : P (eX k l) = 1) : PI (hQ P k l) n (b + 1) := by
  have hP0 := hP
  obtain ⟨h1, h2, h3, h4, h5, h6, h7⟩ := hP
  have h3b := h2.2.1
  have i3 : (P 3 + 1).toInt = (P 3).toInt + 1 := add1_i h3b.1 (by have := h3b.2; omega)
  have b1 := h3b.1
  have b2 := h3b.2
  have hge := eX_ge k l
  have lo : ∀ j, j ≠ 3 → j < 86 → hQ P k l j = P j := fun j a c => hQ_o a (by omega) (by omega) (by omega)
  have x0 : ∀ l', l' < 26 → hQ P k l (eX k l') = P (eX k l') := fun l' hl' => hQ_e (i := 0) hl hl' (by omega) (by omega) (by omega)
  have xi : ∀ l' i, l' < 26 → i < 7 → i ≠ 4 → i ≠ 5 → hQ P k l (eX k l' + i) = P (eX k l' + i) := fun l' i hl' hi a c => hQ_e hl hl' hi (fun _ => a) (fun _ => c)
  have hd : ∀ i, i < 4 → hQ P k l (86 + 187 * k + i) = P (86 + 187 * k + i) := fun i hi => hQ_o (by omega) (by unfold eX; omega) (by unfold eX; omega) (by omega)
  refine PI_sh (k := k) hP0 (show b ≤ b + 1 by omega) hk (fun j h8 ho => hQ_o (by omega) (fun z => by unfold oSh at ho; unfold eX at z; omega) (fun z => by unfold oSh at ho; unfold eX at z; omega) (fun z => by unfold oSh at ho; omega)) (lo 0 (by omega) (by omega)) ?_ (by rw [lo 2 (by omega) (by omega)]; omega) (by rw [hQ_3]; omega) ?_ (fun l' hl' => ?_) (fun l1 l2 hl1 hl2 hne q1 q2 => ?_)
  · rw [lo 2 (by omega) (by omega), hQ_3, lo 4 (by omega) (by omega), lo 5 (by omega) (by omega), lo 6 (by omega) (by omega), lo 7 (by omega) (by omega)]
    exact ⟨h2.1.mono (by omega), ⟨by omega, by omega⟩, h2.2.2.1.mono (by omega), h2.2.2.2.1.mono (by omega), h2.2.2.2.2.1.mono (by omega), h2.2.2.2.2.2.mono (by omega)⟩
  · obtain ⟨a1, a2, a3, a4, a5, a6⟩ := h4 k hk
    rw [show hQ P k l (86 + 187 * k) = P (86 + 187 * k) from hd 0 (by omega), hd 2 (by omega), hd 3 (by omega), hQ_6, show ecN (hQ P k l) k = ecN P k from cnt_congr fun i hi => by rw [x0 i hi]]
    have c1 := a5.1
    have c2 := a5.2
    have i5 : (P (86 + 187 * k + 4) + 1).toInt = (P (86 + 187 * k + 4)).toInt + 1 := add1_i c1 (by omega)
    exact ⟨a1, a2, a3, a4, ⟨by omega, by omega⟩, a6⟩
  · rw [x0 l' hl', xi l' 1 hl' (by omega) (by omega) (by omega), xi l' 2 hl' (by omega) (by omega) (by omega), xi l' 3 hl' (by omega) (by omega) (by omega), xi l' 6 hl' (by omega) (by omega) (by omega), hQ_3, lo 2 (by omega) (by omega)]
    refine ⟨(h5 k l' hk hl').1, fun q => ?_⟩
    obtain ⟨a2, a3, a4, a5, a6, a7, a8, a9, a10, a11⟩ := (h5 k l' hk hl').2 q
    by_cases z : l' = l
    · subst z
      rw [hQ_4, hQ_5]
      have c1 := a9.1
      have c2 := a9.2
      have i5 : (P (eX k l' + 5) + 1).toInt = (P (eX k l' + 5)).toInt + 1 := add1_i c1 (by omega)
      exact ⟨a2, a3, a4, a5, by omega, b1, by omega, ⟨by omega, by omega⟩, a10, a11⟩
    · rw [hQ_e (i := 4) hl hl' (by omega) (fun w => absurd w z) (fun w => absurd w z), hQ_e (i := 5) hl hl' (by omega) (fun w => absurd w z) (fun w => absurd w z)]
      exact ⟨a2, a3, a4, a5, by omega, a7, by omega, a9.mono (by omega), a10, a11⟩
  · rw [x0 l1 hl1] at q1
    rw [x0 l2 hl2] at q2
    have d := h6 k l1 l2 hk hl1 hl2 hne q1 q2
    have r1 := (h5 k l1 hk hl1).2 q1
    have r2 := (h5 k l2 hk hl2).2 q2
    rw [xi l1 3 hl1 (by omega) (by omega) (by omega), xi l2 3 hl2 (by omega) (by omega) (by omega)]
    refine ⟨d.1, ?_⟩
    by_cases z1 : l1 = l
    · subst z1
      rw [hQ_4, hQ_e (i := 4) hl hl2 (by omega) (fun w => absurd w.symm hne) (fun w => absurd w.symm hne)]
      intro e
      have := r2.2.2.2.2.2.2.1
      rw [← e] at this
      omega
    · by_cases z2 : l2 = l
      · subst z2
        rw [hQ_4, hQ_e (i := 4) hl hl1 (by omega) (fun w => absurd w hne) (fun w => absurd w hne)]
        intro e
        have := r1.2.2.2.2.2.2.1
        rw [e] at this
        omega
      · rw [hQ_e (i := 4) hl hl1 (by omega) (fun w => absurd w z1) (fun w => absurd w z1), hQ_e (i := 4) hl hl2 (by omega) (fun w => absurd w z2) (fun w => absurd w z2)]
        exact d.2
theorem cHit (gk : GOK G) (hb : b < 2 ^ 29) (hV : RV σ st P b n ω ρ) {k l e : Nat} (hk : k < n) (hl : l < 26) (he : fndE σ (ρ k) (nI (97 + l)) = some e) (hK : ∀ σ1, (∀ ρ', RV (sS σ1 st (upd (mi σ1 st) 4 (mi σ1 st 4 + 1))) st (hQ P k l) (b + 1) n ω ρ' → Fr σ (sS σ1 st (upd (mi σ1 st) 4 (mi σ1 st 4 + 1))) st → (∀ q, st + 62 ≤ q → q < st + 70 → mi (sS σ1 st (upd (mi σ1 st) 4 (mi σ1 st 4 + 1))) q = mi σ q) → mt σ1 = mt σ → K (.inl (some (vI (P (eX k l + 1))))) σ1)) : Runs G mX5_hit rX5_hit [vR (some (st + 30 + 8 * k)), vR (some e), vI (mi σ st 4)] σ K := by
  have hn := hV.n4
  have hk4 : k < 4 := by omega
  have hs := hV.s.s hk4
  have hEA := hV.ea hk
  obtain ⟨he1, he2, he3⟩ := fndE_some he
  have e0 := (hEA.one he1).mp he2
  obtain ⟨l', hl', ql, hv⟩ := hEA.2.2.1 e he1 e0
  have := nIl_inj hl hl' (he3.symm.trans ql)
  subst this
  have hee := hV.s.e hk4 he1
  refine kX5_hit gk hs.2.1 he1 fun L' hp hsr => ?_
  rw [hv.2.1]
  obtain ⟨Fe, hFe⟩ : ∃ F, F = upd (upd (mi σ e) 6 (mi σ e 6 + 1)) 5 (mi σ st 4) := ⟨_, rfl⟩
  obtain ⟨Fh, hFh⟩ : ∃ F, F = upd (mi σ (st + 30 + 8 * k)) 5 (mi σ (st + 30 + 8 * k) 5 + 1) := ⟨_, rfl⟩
  rw [← hFe, ← hFh] at hsr ⊢
  have q : ∀ a, a ≠ st + 30 + 8 * k → a ≠ e → mi (sS (sS σ e Fe) (st + 30 + 8 * k) Fh) a = mi σ a := fun a h1 h2 => by rw [sS_n h1, sS_n h2]
  have qst : mi (sO (sS (sS σ e Fe) (st + 30 + 8 * k) Fh) (st + 30 + 8 * k + 1) L') st = mi σ st := q st (by omega) (by omega)
  refine hK _ (ρu ρ k L') ?_ ?_ ?_ rfl
  · rw [qst, sO_sS]
    obtain ⟨σ1, hσ1⟩ : ∃ σ1, σ1 = sS (sS (sS σ e Fe) (st + 30 + 8 * k) Fh) st (upd (mi σ st) 4 (mi σ st 4 + 1)) := ⟨_, rfl⟩
    rw [← hσ1]
    have qq : ∀ a, a ≠ st → a ≠ st + 30 + 8 * k → a ≠ e → mi σ1 a = mi σ a := fun a h0 h1 h2 => by rw [hσ1, sS_n h0]; exact q a h1 h2
    have q1 : mi σ1 st = upd (mi σ st) 4 (mi σ st 4 + 1) := by rw [hσ1, sS_s]
    have q2 : mi σ1 (st + 30 + 8 * k) = Fh := by rw [hσ1, sS_n (by omega), sS_s]
    have q3 : mi σ1 e = Fe := by rw [hσ1, sS_n (by omega), sS_n (by omega), sS_s]
    have hge := eX_ge k l
    have g4 := hV.g4
    have g := hV.g
    have lo : ∀ j, j ≠ 3 → j < 86 → hQ P k l j = P j := fun j a c => hQ_o a (by omega) (by omega) (by omega)
    have x0 : ∀ l', l' < 26 → hQ P k l (eX k l') = P (eX k l') := fun l' hl' => hQ_e (i := 0) hl hl' (by omega) (by omega) (by omega)
    have hd : ∀ i, i < 4 → hQ P k l (86 + 187 * k + i) = P (86 + 187 * k + i) := fun i hi => hQ_o (by omega) (by unfold eX; omega) (by unfold eX; omega) (by omega)
    refine hV.shelf (σ1 := σ1) (by omega) hk (by rw [hσ1]; rfl) (by rw [hσ1]; rfl) (fun a a1 a2 a3 a4 => qq a (by omega) a3 (by omega)) (PI_hQ hV.pi hb hk hl hv.1) (fun j h8 ho => hQ_o (by omega) (fun z => by unfold oSh at ho; unfold eX at z; omega) (fun z => by unfold oSh at ho; unfold eX at z; omega) (fun z => by unfold oSh at ho; omega)) ?_ ?_ ?_ hp ?_
    · have eg : ∀ i, i < 9 → 3 ≤ i → i ≠ 4 → vG σ1 st i = vG σ st i := fun i h9 h3 h4 => by
        unfold vG
        rw [if_pos ⟨h3, h9⟩, if_pos ⟨h3, h9⟩, q1, pk_un h4]
      unfold GV
      rw [eg 3 (by omega) (by omega) (by omega), eg 5 (by omega) (by omega) (by omega), eg 6 (by omega) (by omega) (by omega), eg 7 (by omega) (by omega) (by omega), eg 8 (by omega) (by omega) (by omega), lo 2 (by omega) (by omega), hQ_3, lo 4 (by omega) (by omega), lo 5 (by omega) (by omega), lo 6 (by omega) (by omega), lo 7 (by omega) (by omega)]
      refine ⟨g.1, ?_, g.2.2⟩
      show mi σ1 st 4 = _
      rw [q1, pk_us, g4]
    · have eH : vH σ1 st k = nr 6 Fh := by unfold vH; rw [q2]
      rw [eH, hFh]
      unfold HV
      rw [show hQ P k l (86 + 187 * k) = P (86 + 187 * k) from hd 0 (by omega), hd 1 (by omega), hd 2 (by omega), hd 3 (by omega), hQ_6]
      obtain ⟨a0, a1, a2, a3, a4, a5⟩ := (hV.e hk).1
      refine ⟨a0, a1, a2, a3, a4, ?_⟩
      show mi σ (st + 30 + 8 * k) 5 + 1 = _
      rw [hV.h5 hk]
    · obtain ⟨b1, b2, b3, b4, b5⟩ := hEA.eb
      have r0 : ∀ f, f ∈ ρ k → ∀ i, i ≠ 5 → i ≠ 6 → mi σ1 f i = mi σ f i := fun f hf i i5 i6 => by
        by_cases z : f = e
        · subst z; rw [q3, hFe, pk_un i5, pk_un i6]
        · rw [qq f (by have := hV.s.e hk4 hf; omega) (by have := hV.s.e hk4 hf; omega) z]
      refine ⟨b1, fun f hf => by rw [r0 f hf 0 (by omega) (by omega), r0 f hf 8 (by omega) (by omega), r0 f hf 1 (by omega) (by omega)]; exact b2 f hf, fun f hf f0 => ?_, fun l' hl' z => ?_, ?_⟩
      · rw [r0 f hf 0 (by omega) (by omega)] at f0
        obtain ⟨l', hl', qf, h9⟩ := b3 f hf f0
        refine ⟨l', hl', by rw [r0 f hf 1 (by omega) (by omega)]; exact qf, ?_⟩
        unfold eV at h9 ⊢
        rw [r0 f hf 2 (by omega) (by omega), r0 f hf 3 (by omega) (by omega), r0 f hf 4 (by omega) (by omega), r0 f hf 8 (by omega) (by omega), r0 f hf 7 (by omega) (by omega), x0 l' hl', hQ_e (i := 1) hl hl' (by omega) (by omega) (by omega), hQ_e (i := 2) hl hl' (by omega) (by omega) (by omega), hQ_e (i := 3) hl hl' (by omega) (by omega) (by omega), hQ_e (i := 6) hl hl' (by omega) (by omega) (by omega), lo (8 + 3 * l' + 2) (by omega) (by omega)]
        obtain ⟨c1, c2, c3, c4, c5, c6, c7, c8⟩ := h9
        by_cases z : f = e
        · subst z
          have := nIl_inj hl hl' (he3.symm.trans qf)
          subst this
          rw [q3, hFe, hQ_4, hQ_5, pk_us, pk_un (show (6 : Nat) ≠ 5 by omega), pk_us]
          exact ⟨c1, c2, c3, c4, g4, by rw [c6], c7, c8⟩
        · have hne : l' ≠ l := fun w => by subst w; exact z (hEA.uniq hf he1 f0 e0 (qf.trans he3.symm))
          rw [qq f (by have := hV.s.e hk4 hf; omega) (by have := hV.s.e hk4 hf; omega) z, hQ_e (i := 4) hl hl' (by omega) (fun w => absurd w hne) (fun w => absurd w hne), hQ_e (i := 5) hl hl' (by omega) (fun w => absurd w hne) (fun w => absurd w hne)]
          exact ⟨c1, c2, c3, c4, c5, c6, c7, c8⟩
      · rw [x0 l' hl'] at z
        obtain ⟨f, hf, z1, z2⟩ := b4 l' hl' z
        exact ⟨f, hf, by rw [r0 f hf 0 (by omega) (by omega)]; exact z1, by rw [r0 f hf 1 (by omega) (by omega)]; exact z2⟩
      · refine b5.imp_of_mem fun {x y} hx hy r => ?_
        rw [r0 x hx 0 (by omega) (by omega), r0 y hy 0 (by omega) (by omega), r0 x hx 1 (by omega) (by omega), r0 y hy 1 (by omega) (by omega)]
        exact r
    · rw [hd 2 (by omega), ← hV.h3 hk]
      refine srtd_cg hsr fun f hf => ?_
      have hf' := hp.mem_iff.mp hf
      have := hV.s.e hk4 hf'
      have e9 : mi σ1 f = mi (sS (sS σ e Fe) (st + 30 + 8 * k) Fh) f := by rw [hσ1, sS_n (by omega)]
      rw [e9]
      exact ⟨rfl, rfl, rfl, rfl⟩
  · rw [qst, sO_sS]
    exact (((Fr.sS (by omega) (by omega)).trans (Fr.sS (by omega) (by omega))).trans (Fr.sS (by omega) (by omega))).trans (Fr.sO (by omega) (by omega))
  · intro a a1 a2
    rw [sS_n (by omega)]
    exact q a (by omega) (by omega)
end SR
