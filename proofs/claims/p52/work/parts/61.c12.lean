/-! ===== the class: a jar speaks ===== -/
section SN
variable {G : GG} {σ : Mm} {K : RES → Mm → Prop} {st b n m : Nat} {ω : List Nat} {ρ : Nat → List Nat} {P : Nat → Int32}
theorem RV.stay (h : RV σ st P b n ω ρ) {k b' : Nat} {σ1 : Mm} {P' : Nat → Int32} (hbb : b ≤ b') (hk : k < n) (h1 : mr σ1 = mr σ) (h2 : mt σ1 = mt σ) (hq : ∀ q, st < q → q < st + 70 → q ≠ st + 30 + 8 * k → ¬ (st + 32 + 8 * k ≤ q ∧ q < st + 38 + 8 * k) → mi σ1 q = mi σ q) (hP' : PI P' n b') (eo : ∀ j, 8 ≤ j → oSh k j → P' j = P j) (hG : GV (vG σ1 st) P') (hH : HV (vH σ1 st k) P' k) (hB : EB σ1 (vJ σ st) P' k (ρ k)) (hs : srtd (ltE σ1 (P' (86 + 187 * k + 2))) (ρ k)) : RV σ1 st P' b' n ω ρ := by
  have := h.shelf hbb hk h1 h2 hq hP' eo hG hH hB (List.Perm.refl _) hs
  have e1 : ρu ρ k (ρ k) = ρ := by
    funext k'
    unfold ρu
    split
    · next z => rw [z]
    · rfl
  have e2 : sO σ1 (st + 30 + 8 * k + 1) (ρ k) = σ1 := sO_id fun i e hi => by rw [h1]; exact (h.ss hk).at hi
  rw [e1, e2] at this
  exact this
theorem EB.opn {J : Nat → Nat → Int32} {k l e : Nat} {L : List Nat} (h : EB σ J P k L) (hl : l < 26) (he : e ∈ L) (e0 : mi σ e 0 = 1) (e1 : mi σ e 1 = nI (97 + l)) : EB (sS σ e (upd (mi σ e) 8 1)) J (upd P (eX k l + 6) 1) k L := by
  obtain ⟨h1, h2, h3, h4, h5⟩ := h
  have s : ∀ f, f ≠ e → mi (sS σ e (upd (mi σ e) 8 1)) f = mi σ f := fun f hf => sS_n hf
  have se : mi (sS σ e (upd (mi σ e) 8 1)) e = upd (mi σ e) 8 1 := sS_s
  have s0 : ∀ f, mi (sS σ e (upd (mi σ e) 8 1)) f 0 = mi σ f 0 := fun f => by
    by_cases z : f = e
    · subst z; rw [se, pk_un (by omega)]
    · rw [s f z]
  have s1 : ∀ f, mi (sS σ e (upd (mi σ e) 8 1)) f 1 = mi σ f 1 := fun f => by
    by_cases z : f = e
    · subst z; rw [se, pk_un (by omega)]
    · rw [s f z]
  have e0' : ∀ l', upd P (eX k l + 6) 1 (eX k l') = P (eX k l') := fun l' => by
    by_cases z : l' = l
    · subst z; exact pk_un (by omega)
    · exact pk_un (eX_ne (i := 0) z (by omega) (by omega))
  refine ⟨h1, fun f hf => ?_, fun f hf f0 => ?_, fun l' hl' q => ?_, ?_⟩
  · rw [s0, s1]
    refine ⟨(h2 f hf).1, ?_, (h2 f hf).2.2⟩
    by_cases z : f = e
    · subst z; rw [se, pk_us]; exact Or.inr rfl
    · rw [s f z]; exact (h2 f hf).2.1
  · rw [s0] at f0
    obtain ⟨l', hl', q, h9⟩ := h3 f hf f0
    refine ⟨l', hl', by rw [s1]; exact q, ?_⟩
    by_cases z : f = e
    · subst z
      have := nIl_inj hl hl' (e1.symm.trans q)
      subst this
      rw [se]
      unfold eV at h9 ⊢
      rw [e0', pk_un (show eX k l + 1 ≠ eX k l + 6 by omega), pk_un (show eX k l + 2 ≠ eX k l + 6 by omega), pk_un (show eX k l + 3 ≠ eX k l + 6 by omega), pk_un (show eX k l + 4 ≠ eX k l + 6 by omega), pk_un (show eX k l + 5 ≠ eX k l + 6 by omega), pk_us, pk_us, pk_un (show 8 + 3 * l + 2 ≠ eX k l + 6 by have := eX_ge k l; omega), pk_un (show (2 : Nat) ≠ 8 by omega), pk_un (show (3 : Nat) ≠ 8 by omega), pk_un (show (4 : Nat) ≠ 8 by omega), pk_un (show (5 : Nat) ≠ 8 by omega), pk_un (show (6 : Nat) ≠ 8 by omega), pk_un (show (7 : Nat) ≠ 8 by omega)]
      exact ⟨h9.1, h9.2.1, h9.2.2.1, h9.2.2.2.1, h9.2.2.2.2.1, h9.2.2.2.2.2.1, rfl, h9.2.2.2.2.2.2.2⟩
    · rw [s f z]
      refine eV_cg h9 (fun i hi => pk_un (eX_ne (fun w => ?_) hi (by omega))) (pk_un (by have := eX_ge k l; omega))
      subst w
      exact pw_mem h5 (fun a b r hb ha q => r ha hb q.symm) hf he z f0 e0 (q.trans e1.symm)
  · rw [e0'] at q
    obtain ⟨f, hf, f0, q'⟩ := h4 l' hl' q
    exact ⟨f, hf, by rw [s0]; exact f0, by rw [s1]; exact q'⟩
  · refine h5.imp fun {f g} r f0 g0 => ?_
    rw [s0] at f0 g0
    rw [s1, s1]
    exact r f0 g0
theorem srtd_cg {σ1 : Mm} {p : Int32} {L : List Nat} (h : srtd (ltE σ p) L) (e : ∀ f, f ∈ L → mi σ1 f 0 = mi σ f 0 ∧ mi σ1 f 4 = mi σ f 4 ∧ mi σ1 f 5 = mi σ f 5 ∧ mi σ1 f 6 = mi σ f 6) : srtd (ltE σ1 p) L := by
  unfold srtd at *
  refine h.imp_of_mem fun {f g} hf hg r q => r ?_
  obtain ⟨a0, a4, a5, a6⟩ := e f hf
  obtain ⟨b0, b4, b5, b6⟩ := e g hg
  unfold ltE bfE at *
  rw [a0, a4, a5, a6, b0, b4, b5, b6] at q
  exact q
theorem PI_open {k l : Nat} (hP : PI P n b) (hk : k < n) (hl : l < 26) : PI (upd P (eX k l + 6) 1) n b := by
  have hge := eX_ge k l
  have hP0 := hP
  obtain ⟨h1, h2, h3, h4, h5, h6, h7⟩ := hP
  have e : ∀ j, j ≠ eX k l + 6 → upd P (eX k l + 6) 1 j = P j := fun j h => pk_un h
  have e0' : ∀ l', upd P (eX k l + 6) 1 (eX k l') = P (eX k l') := fun l' => by
    by_cases z : l' = l
    · subst z; exact pk_un (by omega)
    · exact pk_un (eX_ne (i := 0) z (by omega) (by omega))
  have ei : ∀ l' i, i < 6 → upd P (eX k l + 6) 1 (eX k l' + i) = P (eX k l' + i) := fun l' i hi => by
    by_cases z : l' = l
    · subst z; exact pk_un (by omega)
    · exact pk_un (eX_ne z (by omega) (by omega))
  have ed : ∀ i, i < 5 → upd P (eX k l + 6) 1 (86 + 187 * k + i) = P (86 + 187 * k + i) := fun i hi => e _ (by unfold eX; omega)
  refine PI_sh (k := k) hP0 (Nat.le_refl _) hk (fun j h8 ho => e j (fun z => by unfold oSh at ho; unfold eX at z; omega)) (e 0 (by omega)) (by rw [e 2 (by omega), e 3 (by omega), e 4 (by omega), e 5 (by omega), e 6 (by omega), e 7 (by omega)]; exact h2) (by rw [e 2 (by omega)]; omega) (by rw [e 3 (by omega)]; omega) ?_ (fun l' hl' => ?_) (fun l1 l2 hl1 hl2 hne q1 q2 => ?_)
  · rw [show upd P (eX k l + 6) 1 (86 + 187 * k) = P (86 + 187 * k) from ed 0 (by omega), ed 2 (by omega), ed 3 (by omega), ed 4 (by omega), show ecN (upd P (eX k l + 6) 1) k = ecN P k from cnt_congr fun i _ => by rw [e0']]
    exact h4 k hk
  · rw [e 2 (by omega), e 3 (by omega), e0', ei l' 1 (by omega), ei l' 2 (by omega), ei l' 3 (by omega), ei l' 4 (by omega), ei l' 5 (by omega)]
    refine ⟨(h5 k l' hk hl').1, fun q => ?_⟩
    obtain ⟨a2, a3, a4, a5, a6, a7, a8, a9, a10, a11⟩ := (h5 k l' hk hl').2 q
    refine ⟨a2, a3, a4, a5, a6, a7, a8, a9, ?_, a11⟩
    by_cases z : l' = l
    · subst z; rw [pk_us]; exact Or.inr rfl
    · rw [pk_un (eX_ne z (by omega) (by omega))]; exact a10
  · rw [e0'] at q1 q2
    rw [ei l1 3 (by omega), ei l1 4 (by omega), ei l2 3 (by omega), ei l2 4 (by omega)]
    exact h6 k l1 l2 hk hl1 hl2 hne q1 q2
theorem kX6_speak_48 (gk : GOK G) {l : Nat} {w : Int32} (hl : l < 26) {P0 : Nat → Int32} {σ0 : Mm} {jr : Option Nat} (hn : n ≤ 4) (hk : ∀ σ', RV σ' st (syP P0 l w n) b n ω ρ → Fr σ0 σ' st → (∀ q, st + 62 ≤ q → q < st + 70 → mi σ' q = mi σ0 q) → K (.inl (some (vI (nI (cnt (syI P0 l) n))))) σ') : ∀ (d k : Nat), k + d = 4 → ∀ (σ : Mm), RV σ st (syP P0 l w (min k n)) b n ω ρ → Fr σ0 σ st → (∀ q, st + 62 ≤ q → q < st + 70 → mi σ q = mi σ0 q) → At G mX6_speak rX6_speak 0 0 48 [some (vR (some st)), some (vI (nI (97 + l))), some (vI w), some (vR jr), some (vI (nI (cnt (syI P0 l) (min k n)))), some (vR (some (st + 2))), some (vI (nI 4)), some (vI (nI k)), none] [] σ K
  | 0, k, h, σ, hV, hF, hQ => by
    obtain rfl : k = 4 := by omega
    rw [show min 4 n = n by omega] at hV ⊢
    exact vX6_speak_48 gk ⟨fun _ => hk σ hV hF hQ, fun q => absurd (by decide) q⟩
  | d + 1, k, h, σ, hV, hF, hQ => by
    have ih := kX6_speak_48 gk hl (jr := jr) hn hk d (k + 1) (by omega)
    have hk4 : k < 4 := by omega
    have hs := hV.s.s hk4
    have nxt : ∀ (x : Nat) (σ' : Mm), x = cnt (syI P0 l) (min (k + 1) n) → RV σ' st (syP P0 l w (min (k + 1) n)) b n ω ρ → Fr σ σ' st → (∀ q, st + 62 ≤ q → q < st + 70 → mi σ' q = mi σ q) → At G mX6_speak rX6_speak 0 0 48 [some (vR (some st)), some (vI (nI (97 + l))), some (vI w), some (vR jr), some (vI (nI x)), some (vR (some (st + 2))), some (vI (nI 4)), some (vI (nI k + 1)), none] [] σ' K := fun x σ' hx hV' hF' hQ' => by
      rw [nA1, hx]
      exact ih σ' hV' (hF.trans hF') (fun q a c => (hQ' q a c).trans (hQ q a c))
    refine vX6_speak_48 gk ⟨fun q => absurd q (nI_ge hk4 (by omega)), fun _ => ⟨_, rfl, _, hV.s.t1, vp_in_nI hk4 (by omega), st + 30 + 8 * k, ?_, hs.2.1.ty, fun q => ?_, fun q => ?_⟩⟩
    · rw [nI_clamp (by omega)]; exact hs.1
    · -- doesn't listen
      by_cases hkn : k < n
      · rw [show min k n = k by omega] at hV ⊢
        rw [show min (k + 1) n = k + 1 by omega] at nxt
        have h4 := hV.h4 hkn
        rw [q, syP_o (by omega) (by omega) (by omega) (fun i _ => by unfold eX; omega)] at h4
        have hno : ¬ syI P0 l k := fun z => by rw [z.1] at h4; exact absurd h4 (by decide)
        refine nxt _ σ (by rw [cnt_f hno]) ?_ Fr.refl (fun _ _ _ => rfl)
        rw [show syP P0 l w (k + 1) = syP P0 l w k by simp only [syP, hno, if_false]]
        exact hV
      · rw [show min k n = n by omega] at hV ⊢
        rw [show min (k + 1) n = n by omega] at nxt
        exact nxt _ σ rfl hV Fr.refl (fun _ _ _ => rfl)
    · have hkn : k < n := by
        rcases Nat.lt_or_ge k n with z | z
        · exact z
        · have : mi σ (st + 30 + 8 * k) 4 = 0 := (hV.nn hk4 z).1.2.2.1
          exact absurd this q
      rw [show min k n = k by omega] at hV ⊢
      rw [show min (k + 1) n = k + 1 by omega] at nxt
      have h4 := hV.h4 hkn
      have hz4 : isZ (syP P0 l w k (86 + 187 * k + 3)) := (hV.pi.2.2.2.1 k hkn).2.2.2.1
      rw [h4] at q
      have q1 := (isZ01 hz4).mp q
      rw [syP_o (by omega) (by omega) (by omega) (fun i _ => by unfold eX; omega)] at q1
      have hge := eX_ge k l
      have c0 : syP P0 l w k (eX k l) = P0 (eX k l) := syP_o (by omega) (by omega) (by omega) (fun i _ => by unfold eX; omega)
      have c6 : syP P0 l w k (eX k l + 6) = P0 (eX k l + 6) := syP_o (by omega) (by omega) (by omega) (fun i _ => by unfold eX; omega)
      have hEA := hV.ea hkn
      rw [nI_clamp (by omega), hs.1]
      refine kX5_openLid gk hs.2.1 (fun hno => vX6_speak_76 gk ⟨fun _ => ?_, fun z => absurd rfl z⟩) (fun e he he8 => vX6_speak_76 gk ⟨fun z => absurd z (by decide), fun _ => ?_⟩)
      · have hno' : ¬ syI P0 l k := fun z => by
          obtain ⟨e, hf, he, e0, e1, hv⟩ := hEA.find1 hl (c0.trans z.2.1)
          have := hno e hf
          rw [hv.2.2.2.2.2.2.1, c6, z.2.2] at this
          exact this rfl
        refine nxt _ σ (by rw [cnt_f hno']) ?_ Fr.refl (fun _ _ _ => rfl)
        rw [show syP P0 l w (k + 1) = syP P0 l w k by simp only [syP, hno', if_false]]
        exact hV
      · obtain ⟨he1, he2, he3⟩ := fndE_some he
        have e0 := (hEA.one he1).mp he2
        obtain ⟨l', hl', ql, hv⟩ := hEA.2.2.1 e he1 e0
        have := nIl_inj hl hl' (he3.symm.trans ql)
        subst this
        have hyes : syI P0 l k := ⟨q1, c0.symm.trans hv.1, by rw [← c6, ← hv.2.2.2.2.2.2.1]; exact he8⟩
        have hee := hV.s.e hk4 he1
        have eo : ∀ j, 8 ≤ j → oSh k j → upd (syP P0 l w k) (eX k l + 6) 1 j = syP P0 l w k j := fun j _ ho => pk_un (fun z => by unfold oSh at ho; unfold eX at z; omega)
        have ed : ∀ i, i < 5 → upd (syP P0 l w k) (eX k l + 6) 1 (86 + 187 * k + i) = syP P0 l w k (86 + 187 * k + i) := fun i hi => pk_un (by unfold eX; omega)
        rw [nA1]
        refine nxt _ _ (by rw [cnt_t hyes]) ?_ (Fr.sS (by omega) (by omega)) (fun q a c => by rw [sS_n (by omega)])
        rw [show syP P0 l w (k + 1) = upd (syP P0 l w k) (eX k l + 6) 1 by simp only [syP, hyes, if_true]]
        refine hV.stay (σ1 := sS σ e (upd (mi σ e) 8 1)) (Nat.le_refl _) hkn rfl rfl (fun q a1 a2 a3 a4 => sS_n (by omega)) (PI_open hV.pi hkn hl) eo ?_ ?_ (hEA.eb.opn hl he1 e0 ql) ?_
        · rw [vG_cg (σ := σ) (sS_n (by omega))]
          unfold GV
          rw [pk_un (show (2 : Nat) ≠ eX k l + 6 by omega), pk_un (show (3 : Nat) ≠ eX k l + 6 by omega), pk_un (show (4 : Nat) ≠ eX k l + 6 by omega), pk_un (show (5 : Nat) ≠ eX k l + 6 by omega), pk_un (show (6 : Nat) ≠ eX k l + 6 by omega), pk_un (show (7 : Nat) ≠ eX k l + 6 by omega)]
          exact hV.g
        · rw [vH_cg (σ := σ) (sS_n (by omega))]
          unfold HV
          rw [show upd (syP P0 l w k) (eX k l + 6) 1 (86 + 187 * k) = syP P0 l w k (86 + 187 * k) from ed 0 (by omega), ed 1 (by omega), ed 2 (by omega), ed 3 (by omega), ed 4 (by omega)]
          exact (hV.e hkn).1
        · rw [ed 2 (by omega)]
          refine srtd_cg hEA.2.2.2.2.2 fun f hf => ?_
          by_cases z : f = e
          · subst z
            rw [sS_s]
            exact ⟨pk_un (by omega), pk_un (by omega), pk_un (by omega), pk_un (by omega)⟩
          · rw [sS_n z]
            exact ⟨rfl, rfl, rfl, rfl⟩
theorem kX6_speak (gk : GOK G) (hb : b < 2 ^ 29) (h : RS σ st P b) {l : Nat} {w : Int32} (hl : l < 26) (hp : P (8 + 3 * l) = 1) (hw : NB w 99) (hk : ∀ σ' n, n ≤ 4 → P 0 = nI n → RS σ' st (syP P l w n) (b + 1) → Fr σ σ' st → K (.inl (some (vI (nI (cnt (syI P l) n))))) σ') : Runs G mX6_speak rX6_speak [vR (some st), vI (nI (97 + l)), vI w] σ K := by
  obtain ⟨ω, ρ, n, m, hV, ⟨hW, hPW⟩, hJ⟩ := h
  have hS := hV.1
  have hn := hV.n4
  have ht := (hS.j hl).2
  have e : ∀ j, j ≠ 3 → j ≠ 8 + 3 * l + 1 → j ≠ 8 + 3 * l + 2 → sy0 P l w j = P j := fun j a c d => by unfold sy0; rw [pk_un a, pk_un d, pk_un c]
  have e1 : sy0 P l w (8 + 3 * l + 1) = w := by unfold sy0; rw [pk_un (by omega), pk_un (by omega), pk_us]
  have e2 : sy0 P l w (8 + 3 * l + 2) = P 3 := by unfold sy0; rw [pk_un (by omega), pk_us]
  have e3 : sy0 P l w 3 = P 3 + 1 := by unfold sy0; rw [pk_us]
  have h3 := hV.2.1.2.1.2.1
  have h3a := h3.1
  have h3b := h3.2
  have i3 : (P 3 + 1).toInt = (P 3).toInt + 1 := add1_i h3.1 (by omega)
  have hP' : PI (sy0 P l w) n (b + 1) := by
    refine PI_jar hV.2.1 (by omega) (fun j hj => e j (by omega) (by omega) (by omega)) (e 0 (by omega) (by omega) (by omega)) (e 2 (by omega) (by omega) (by omega)) (e 4 (by omega) (by omega) (by omega)) (e 5 (by omega) (by omega) (by omega)) (e 6 (by omega) (by omega) (by omega)) (e 7 (by omega) (by omega) (by omega)) (by rw [e3]; exact ⟨by omega, by omega⟩) (by rw [e3]; omega) (fun l' hl' => ?_) ?_ (fun k l' hk hl' h1 => ?_)
    · obtain ⟨c1, c2, c3, c4, c5⟩ := hV.2.1.2.2.1 l' hl'
      rw [e (8 + 3 * l') (by omega) (by omega) (by omega), e3]
      by_cases z : l' = l
      · subst z; rw [e1, e2]; exact ⟨c1, hw, h3.1, by omega, fun q => by omega⟩
      · rw [e (8 + 3 * l' + 1) (by omega) (by omega) (by omega), e (8 + 3 * l' + 2) (by omega) (by omega) (by omega)]
        exact ⟨c1, c2, c3, by omega, fun q => by have := c5 q; omega⟩
    · rw [show jrN (sy0 P l w) = jrN P from cnt_congr fun i hi => by rw [e (8 + 3 * i) (by omega) (by omega) (by omega)]]
      exact hV.2.1.2.2.2.2.2.2
    · have h9 := (hV.2.1.2.2.2.2.1 k l' hk hl').2 h1
      by_cases z : l' = l
      · subst z; rw [e2]
        intro q
        rw [Int32.lt_iff_toInt_lt] at q
        have := h9.2.2.2.2.1
        omega
      · rw [e (8 + 3 * l' + 1) (by omega) (by omega) (by omega), e (8 + 3 * l' + 2) (by omega) (by omega) (by omega)]
        exact h9.2.2.2.2.2.2.2.2.2
  refine eX6_speak gk ⟨_, rfl, hS.ty, cFindJar gk hV (isC_nI (by omega)) (fun q => absurd ⟨l, hl, rfl, hp⟩ q) fun l' hl' el _ => vX6_speak_5 gk ⟨fun q => (by cases q), fun a q => ?_⟩⟩
  have := nIl_inj hl hl' el
  subst this
  cases q
  refine ⟨st, rfl, hS.ty, ht, kX4_speak gk ht (vX6_speak_21 gk ⟨st, rfl, hS.ty, fun σ3 q3 => ⟨st + 2, by rw [q3]; exact hS.r1, 4, hS.t1, ?_⟩⟩)⟩
  rw [si_sS] at q3
  have hne : st ≠ st + 4 + l := by omega
  simp (disch := omega) only [sS_n hne] at q3
  obtain ⟨F, hF⟩ : ∃ F, F = upd (upd (upd (mi σ (st + 4 + l)) 1 w) 2 (mi σ (st + 4 + l) 2 + 1)) 3 (mi σ st 4) := ⟨_, rfl⟩
  rw [← hF] at q3
  rw [show mr σ3 st 1 = some (st + 2) by rw [q3]; exact hS.r1]
  have hJl := (hV.j l hl).2.2.2
  have i2 : (vJ σ st l 2 + 1).toInt = (vJ σ st l 2).toInt + 1 := add1_i hJl.1 (by have := hJl.2; omega)
  have eJl : ∀ l', l' < 26 → l' ≠ l → vJ σ3 st l' = vJ σ st l' := fun l' hl' z => vJ_cg (by rw [q3, sS_n (by omega), sS_n (by omega)])
  have eJs : vJ σ3 st l = nr 4 F := by unfold vJ; rw [q3, sS_n (by omega), sS_s]
  have eJ2 : vJ σ3 st l 2 = vJ σ st l 2 + 1 := by rw [eJs, hF]; rfl
  have hV1 : RV σ3 st (sy0 P l w) (b + 1) n ω ρ := by
    refine ⟨hS.mv (by rw [q3]; rfl) (by rw [q3]; rfl), ?_⟩
    have base := VV2_jar (J' := vJ σ3 st) (g' := vG σ3 st) hV.2 hP' (fun j hj => e j (by omega) (by omega) (by omega)) ?_ ?_ ?_
    · refine base.ch (fun _ _ => rfl) (fun k hk => vH_cg ?_) (fun k hk => vE_cg fun x hx => ?_)
      · rw [q3, sS_n (by omega), sS_n (by omega)]
      · have := hS.e hk hx
        rw [q3, sS_n (by omega), sS_n (by omega)]
    · intro l' hl'
      rw [e (8 + 3 * l') (by omega) (by omega) (by omega)]
      by_cases z : l' = l
      · subst z
        rw [e1, e2, eJ2]
        refine ⟨?_, ?_, ?_, ?_⟩
        · rw [eJs, hF]; exact (hV.j l' hl').1
        · rw [eJs, hF]; rfl
        · rw [eJs, hF]; exact hV.g4
        · have := hJl.1
          have := hJl.2
          exact ⟨by omega, by omega⟩
      · rw [eJl l' hl' z, e (8 + 3 * l' + 1) (by omega) (by omega) (by omega), e (8 + 3 * l' + 2) (by omega) (by omega) (by omega)]
        exact (hV.j.mono (by omega)) l' hl'
    · have eg : ∀ i, i < 9 → 3 ≤ i → i ≠ 4 → vG σ3 st i = vG σ st i := fun i h9 h3 h4 => by
        unfold vG
        rw [if_pos ⟨h3, h9⟩, if_pos ⟨h3, h9⟩, q3, sS_s, pk_un h4]
      have g := hV.g
      unfold GV
      rw [eg 3 (by omega) (by omega) (by omega), eg 5 (by omega) (by omega) (by omega), eg 6 (by omega) (by omega) (by omega), eg 7 (by omega) (by omega) (by omega), eg 8 (by omega) (by omega) (by omega), e 2 (by omega) (by omega) (by omega), e3, e 4 (by omega) (by omega) (by omega), e 5 (by omega) (by omega) (by omega), e 6 (by omega) (by omega) (by omega), e 7 (by omega) (by omega) (by omega)]
      refine ⟨g.1, ?_, g.2.2⟩
      show mi σ3 st 4 = _
      rw [q3, sS_s, pk_us, hV.g4]
    · intro k l' hkk hl' h1 t t1 t2 t3
      by_cases z : l' = l
      · subst z
        rw [eJ2, e2]
        have h9 := (hV.2.1.2.2.2.2.1 k l' hkk hl').2 h1
        refine ⟨by omega, fun q => ?_, fun q => ?_⟩
        · rw [q] at t1; omega
        · rw [Int32.lt_iff_toInt_lt] at q
          have := h9.2.2.2.2.1
          omega
      · rw [eJl l' hl' z, e (8 + 3 * l' + 2) (by omega) (by omega) (by omega)]
        exact ⟨t1, t3⟩
  have hF1 : Fr σ σ3 st := by rw [q3]; exact (Fr.sS (by omega) (by omega)).trans (Fr.sS (by omega) (by omega))
  refine kX6_speak_48 gk hl (P0 := P) (w := w) (σ0 := σ3) (n := n) (b := b + 1) hn (fun σ' hV' hF' hQ' => ?_) 4 0 rfl σ3 hV1 Fr.refl (fun _ _ _ => rfl)
  have o86 : ∀ j, 834 ≤ j → syP P l w n j = P j := fun j hj => syP_o (by omega) (by omega) (by omega) (fun i hi => by unfold eX; omega)
  refine hk σ' n hn hV.p0 ⟨ω, ρ, n, m, hV', RW.mem (P' := syP P l w n) ⟨hW, hPW⟩ hS (fun q a c => ?_) ?_ ?_, fun k l' hk' hl' q => ?_⟩ (hF1.trans hF')
  · rw [hQ' q a c, q3, sS_n (by omega), sS_n (by omega)]
  · exact ⟨hW.1, hW.2.1, fun i w hi => by rw [o86 _ (by omega), o86 _ (by omega), o86 _ (by omega)]; exact hW.2.2 i w hi⟩
  · have lo : ∀ j, j < 3 → syP P l w n j = P j := fun j hj => syP_o (by omega) (by omega) (by omega) (fun i hi => by have := eX_ge i l; omega)
    obtain ⟨p1, p7, p8⟩ := hPW.mono (show b ≤ b + 1 by omega)
    refine ⟨by rw [lo 1 (by omega)]; exact p1, fun i hi => ?_, fun i hi => ?_⟩
    · rw [lo 2 (by omega), o86 (834 + 3 * i) (by omega), o86 (834 + 3 * i + 1) (by omega), o86 (834 + 3 * i + 2) (by omega)]; exact p7 i hi
    · rw [o86 (834 + 3 * i) (by omega), o86 (834 + 3 * (i + 1)) (by omega)]; exact p8 i hi
  · have e1 : syP P l w n (eX k l') = P (eX k l') := syP_o (by have := eX_ge k l'; omega) (by have := eX_ge k l'; omega) (by have := eX_ge k l'; omega) (fun i hi => by
      by_cases w : i = k
      · subst w
        by_cases z : l' = l
        · subst z; omega
        · exact eX_ne (i := 0) z (by omega) (by omega)
      · unfold eX
        rcases Nat.lt_or_ge i k with y | y <;> omega)
    have e2 : syP P l w n (8 + 3 * l') = P (8 + 3 * l') := syP_o (by omega) (by omega) (by omega) (fun i hi => by have := eX_ge i l; omega)
    rw [e1] at q
    rw [e2]
    exact hJ k l' hk' hl' q
end SN
