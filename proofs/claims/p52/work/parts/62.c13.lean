/-! ===== the class: a new shelf; a shelf's ears ===== -/
section SP
variable {G : GG} {σ : Mm} {K : RES → Mm → Prop} {st b n m : Nat} {ω : List Nat} {ρ : Nat → List Nat} {P : Nat → Int32}
theorem aS_o {j : Nat} {c f p : Int32} (h0 : j ≠ 0) (ho : oSh n j) : aS P n c f p j = P j := by
  unfold oSh at ho
  unfold aS
  rw [pk_un h0, pk_un (by omega), pk_un (by omega), pk_un (by omega), pk_un (by omega), fl0_o (by omega)]
theorem aS_i {i : Nat} {c f p : Int32} (h : 4 ≤ i) (h2 : i < 187) : aS P n c f p (86 + 187 * n + i) = 0 := by
  unfold aS
  rw [pk_un (by omega), pk_un (by omega), pk_un (by omega), pk_un (by omega), pk_un (by omega)]
  unfold fl0
  exact if_pos ⟨by omega, by omega⟩
theorem aS_0 {c f p : Int32} : aS P n c f p (86 + 187 * n) = c := by unfold aS; rw [pk_un (by omega), pk_un (by omega), pk_un (by omega), pk_un (by omega), pk_us]
theorem aS_1 {c f p : Int32} : aS P n c f p (86 + 187 * n + 1) = f := by unfold aS; rw [pk_un (by omega), pk_un (by omega), pk_un (by omega), pk_us]
theorem aS_2 {c f p : Int32} : aS P n c f p (86 + 187 * n + 2) = p := by unfold aS; rw [pk_un (by omega), pk_un (by omega), pk_us]
theorem aS_3 {c f p : Int32} : aS P n c f p (86 + 187 * n + 3) = 1 := by unfold aS; rw [pk_un (by omega), pk_us]
theorem aS_n {c f p : Int32} : aS P n c f p 0 = nI (n + 1) := by unfold aS; rw [pk_us]
theorem eX_i (k l i : Nat) : eX k l + i = 86 + 187 * k + (5 + 7 * l + i) := by unfold eX; omega
theorem plP_c {p : Int32} (h : plP p) : isC p := by
  rcases h with e | e | e <;> subst e
  · exact isC_nI (q := 114) (by omega)
  · exact isC_nI (q := 111) (by omega)
  · exact isC_nI (q := 108) (by omega)
theorem cnt_z {p : Nat → Prop} : ∀ {n : Nat}, (∀ i, i < n → ¬ p i) → cnt p n = 0
  | 0, _ => rfl
  | n + 1, h => by rw [cnt_f (h n (by omega))]; exact cnt_z fun i hi => h i (by omega)
theorem PI_aS {c f p : Int32} (hP : PI P n b) (hn4 : n < 4) (h : ¬ c < 1 ∧ ¬ 6 < c ∧ ¬ f < 1 ∧ ¬ 30 < f ∧ plP p) : PI (aS P n c f p) (n + 1) b := by
  obtain ⟨h1, h2, h3, h4, h5, h6, h7⟩ := hP
  have lo : ∀ j, j ≠ 0 → j < 86 → aS P n c f p j = P j := fun j h0 hj => aS_o h0 (by unfold oSh; omega)
  have ex : ∀ k' l i, k' ≠ n → l < 26 → i < 7 → aS P n c f p (eX k' l + i) = P (eX k' l + i) := fun k' l i h hl hi => aS_o (by have := eX_ge k' l; omega) (oSh_eX h hl hi)
  have ex0 : ∀ k' l, k' ≠ n → l < 26 → aS P n c f p (eX k' l) = P (eX k' l) := fun k' l h hl => ex k' l 0 h hl (by omega)
  have eh : ∀ k' i, k' ≠ n → i < 187 → aS P n c f p (86 + 187 * k' + i) = P (86 + 187 * k' + i) := fun k' i h hi => aS_o (by omega) (oSh_hd h hi)
  have en0 : ∀ l, l < 26 → aS P n c f p (eX n l) = 0 := fun l hl => by rw [show eX n l = eX n l + 0 from rfl, eX_i]; exact aS_i (by omega) (by omega)
  have hc1 := h.1
  have hc6 := h.2.1
  rw [Int32.lt_iff_toInt_lt] at hc1 hc6
  have i1 : (1 : Int32).toInt = 1 := rfl
  have i6 : (6 : Int32).toInt = 6 := rfl
  refine ⟨⟨by omega, aS_n⟩, by rw [lo 2 (by omega) (by omega), lo 3 (by omega) (by omega), lo 4 (by omega) (by omega), lo 5 (by omega) (by omega), lo 6 (by omega) (by omega), lo 7 (by omega) (by omega)]; exact h2, fun l hl => ?_, fun k hk => ?_, fun k l hk hl => ?_, fun k l l' hk hl hl' => ?_, ?_⟩
  · rw [lo (8 + 3 * l) (by omega) (by omega), lo (8 + 3 * l + 1) (by omega) (by omega), lo (8 + 3 * l + 2) (by omega) (by omega), lo 3 (by omega) (by omega)]; exact h3 l hl
  · by_cases z : k = n
    · subst z
      rw [aS_0, aS_2, aS_3, aS_i (by omega) (by omega)]
      have : ecN (aS P k c f p) k = 0 := cnt_z fun l hl q => by rw [en0 l hl] at q; exact absurd q (by decide)
      rw [this]
      exact ⟨by omega, by omega, plP_c h.2.2.2.2, Or.inr rfl, ⟨by decide, by show (0 : Int) ≤ _; omega⟩, by omega⟩
    · rw [show ecN (aS P n c f p) k = ecN P k from cnt_congr fun l hl => by rw [ex0 k l z hl], show aS P n c f p (86 + 187 * k) = P (86 + 187 * k) from eh k 0 z (by omega), eh k 2 z (by omega), eh k 3 z (by omega), eh k 4 z (by omega)]
      exact h4 k (by omega)
  · by_cases z : k = n
    · subst z
      rw [en0 l hl]
      exact ⟨Or.inl rfl, fun q => absurd q (by decide)⟩
    · rw [ex0 k l z hl, ex k l 1 z hl (by omega), ex k l 2 z hl (by omega), ex k l 3 z hl (by omega), ex k l 4 z hl (by omega), ex k l 5 z hl (by omega), ex k l 6 z hl (by omega), lo (8 + 3 * l + 1) (by omega) (by omega), lo (8 + 3 * l + 2) (by omega) (by omega), lo 2 (by omega) (by omega), lo 3 (by omega) (by omega)]
      exact h5 k l (by omega) hl
  · by_cases z : k = n
    · subst z
      rw [en0 l hl]
      exact fun _ q => absurd q (by decide)
    · rw [ex0 k l z hl, ex0 k l' z hl', ex k l 3 z hl (by omega), ex k l 4 z hl (by omega), ex k l' 3 z hl' (by omega), ex k l' 4 z hl' (by omega)]
      exact h6 k l l' (by omega) hl hl'
  · rw [show jrN (aS P n c f p) = jrN P from cnt_congr fun l hl => by rw [lo (8 + 3 * l) (by omega) (by omega)]]; exact h7
theorem kX6_putShelf (gk : GOK G) (h : RS σ st P b) {c f p : Int32} (hc : ¬ c < 1 ∧ ¬ 6 < c ∧ ¬ f < 1 ∧ ¬ 30 < f ∧ plP p) {n : Nat} (h0 : P 0 = nI n) (hn4 : n < 4) (hk : ∀ σ', RS σ' st (aS P n c f p) b → Fr σ σ' st → K (.inl (some (vI (nI n)))) σ') : Runs G mX6_putShelf rX6_putShelf [vR (some st), vI c, vI f, vI p] σ K := by
  obtain ⟨ω, ρ, n', m, hV, ⟨hW, hPW⟩, hJ⟩ := h
  have hn' := hV.n4
  have := (nI_eq (by omega) (by omega)).mp (hV.p0.symm.trans h0)
  subst this
  have hS := hV.1
  have hs := hS.s hn4
  have hNN := hV.nn hn4 (Nat.le_refl _)
  refine eX6_putShelf gk ⟨_, rfl, hS.ty, kX6_countShelves gk hS hV.2 (vX6_putShelf_4 gk ⟨_, rfl, hS.ty, _, hS.r1, _, hS.t1, fun q => absurd q (nI_ge hn4 (by omega)), fun _ => ⟨vp_in_nI hn4 (by omega), st + 30 + 8 * n', ?_, hs.2.1.ty, ?_⟩⟩)⟩
  · rw [nI_clamp (by omega)]; exact hs.1
  rw [nI_clamp (by omega), hs.1]
  refine kX5_fill gk hs.2.1.ty (plP_c hc.2.2.2.2) (vX6_putShelf_29 gk ?_)
  obtain ⟨F, hF⟩ : ∃ F, F = upd (upd (upd (upd (upd (upd (mi σ (st + 30 + 8 * n')) 0 1) 1 c) 2 f) 3 p) 4 1) 5 0 := ⟨_, rfl⟩
  rw [← hF]
  have lo : ∀ j, j ≠ 0 → j < 86 → aS P n' c f p j = P j := fun j h0 hj => aS_o h0 (by unfold oSh; omega)
  have hi : ∀ j, 834 ≤ j → aS P n' c f p j = P j := fun j hj => aS_o (by omega) (by unfold oSh; omega)
  have ex : ∀ k' l i, k' ≠ n' → l < 26 → i < 7 → aS P n' c f p (eX k' l + i) = P (eX k' l + i) := fun k' l i h hl hi => aS_o (by have := eX_ge k' l; omega) (oSh_eX h hl hi)
  have ex0 : ∀ k' l, k' ≠ n' → l < 26 → aS P n' c f p (eX k' l) = P (eX k' l) := fun k' l h hl => ex k' l 0 h hl (by omega)
  have eh : ∀ k' i, k' ≠ n' → i < 187 → aS P n' c f p (86 + 187 * k' + i) = P (86 + 187 * k' + i) := fun k' i h hi => aS_o (by omega) (oSh_hd h hi)
  have en0 : ∀ l, l < 26 → aS P n' c f p (eX n' l) = 0 := fun l hl => by rw [show eX n' l = eX n' l + 0 from rfl, eX_i]; exact aS_i (by omega) (by omega)
  have hP' := PI_aS hV.2.1 hn4 hc
  have q : ∀ a, a ≠ st + 30 + 8 * n' → mi (sS σ (st + 30 + 8 * n') F) a = mi σ a := fun a h => sS_n h
  have hS' : stS (sS σ (st + 30 + 8 * n') F) st ω ρ := hS.mv rfl rfl
  refine hk _ ⟨ω, ρ, n' + 1, m, ⟨hS', hP', ?_, ?_, fun k hk => ?_, fun k hk hk2 => ?_⟩, ⟨by rw [vW_cg (σ := σ) fun e he => q e (by have := hS.w he; omega)]; exact ⟨hW.1, hW.2.1, fun i w hi' => by rw [hi _ (by omega), hi _ (by omega), hi _ (by omega)]; exact hW.2.2 i w hi'⟩, ?_⟩, fun k l hk hl e => ?_⟩ (Fr.sS (by omega) (by omega))
  · intro l hl
    rw [vJ_cg (σ := σ) (q _ (by omega)), lo (8 + 3 * l) (by omega) (by omega), lo (8 + 3 * l + 1) (by omega) (by omega), lo (8 + 3 * l + 2) (by omega) (by omega)]
    exact hV.j l hl
  · rw [vG_cg (σ := σ) (q _ (by omega))]
    unfold GV
    rw [lo 2 (by omega) (by omega), lo 3 (by omega) (by omega), lo 4 (by omega) (by omega), lo 5 (by omega) (by omega), lo 6 (by omega) (by omega), lo 7 (by omega) (by omega)]
    exact hV.g
  · by_cases z : k = n'
    · subst z
      refine ⟨?_, ?_⟩
      · have eH : vH (sS σ (st + 30 + 8 * k) F) st k = nr 6 F := by unfold vH; rw [sS_s]
        rw [eH, hF]
        unfold HV
        rw [aS_0, aS_1, aS_2, aS_3, aS_i (by omega) (by omega)]
        exact ⟨rfl, rfl, rfl, rfl, rfl, rfl⟩
      · show EV _ _ _ _ (vE (sS σ (st + 30 + 8 * k) F) (ρ k))
        rw [vE_cg (σ := σ) fun e he => q e (by have := hS.e hn4 he; omega)]
        have hz := hNN.2
        refine ⟨hz.1, fun r hr => ?_, fun r hr h0 => ?_, fun l hl e => ?_, ?_, ?_⟩
        · obtain ⟨a1, a2, a3⟩ := hz.2 r hr
          exact ⟨Or.inl a1, a2, a3⟩
        · rw [(hz.2 r hr).1] at h0; exact absurd h0 (by decide)
        · rw [en0 l hl] at e; exact absurd e (by decide)
        · refine List.pairwise_of_forall_mem_list fun r hr s hs h0 => ?_
          rw [(hz.2 r hr).1] at h0; exact absurd h0 (by decide)
        · refine List.pairwise_of_forall_mem_list fun r hr s hs h0 => ?_
          exact h0.1 (hz.2 s hs).1
    · have hkn : k < n' := by omega
      refine ⟨?_, ?_⟩
      · rw [vH_cg (σ := σ) (q _ (by omega))]
        unfold HV
        rw [show aS P n' c f p (86 + 187 * k) = P (86 + 187 * k) from eh k 0 z (by omega), eh k 1 z (by omega), eh k 2 z (by omega), eh k 3 z (by omega), eh k 4 z (by omega)]
        exact (hV.e hkn).1
      · show EV _ _ _ _ (vE (sS σ (st + 30 + 8 * n') F) (ρ k))
        rw [vE_cg (σ := σ) fun e he => q e (by have := hS.e (show k < 4 by omega) he; omega), eh k 2 z (by omega)]
        obtain ⟨a1, a2, a3, a4, a5, a6⟩ := (hV.e hkn).2
        refine ⟨a1, a2, fun r hr h0 => ?_, fun l hl e => a4 l hl (by rw [← ex0 k l z hl]; exact e), a5, a6⟩
        obtain ⟨l, hl, q1, h9⟩ := a3 r hr h0
        refine ⟨l, hl, q1, ?_⟩
        have h9' := eV_cg (P' := aS P n' c f p) h9 (fun i hi => ex k l i z hl hi) (lo _ (by omega) (by omega))
        unfold eV at h9' ⊢
        rw [vJ_cg (σ := σ) (q _ (by omega))]
        exact h9'
  · rw [vH_cg (σ := σ) (q _ (by omega))]
    show _ ∧ EN (vE (sS σ (st + 30 + 8 * n') F) (ρ k))
    rw [vE_cg (σ := σ) fun e he => q e (by have := hS.e hk he; omega)]
    exact hV.nn hk (by omega)
  · obtain ⟨p1, p7, p8⟩ := hPW
    refine ⟨by rw [lo 1 (by omega) (by omega)]; exact p1, fun i hi' => ?_, fun i hi' => ?_⟩
    · rw [lo 2 (by omega) (by omega), hi (834 + 3 * i) (by omega), hi (834 + 3 * i + 1) (by omega), hi (834 + 3 * i + 2) (by omega)]
      obtain ⟨c1, c2, ⟨k, c3, c4⟩, c5⟩ := p7 i hi'
      exact ⟨c1, c2, ⟨k, by omega, c4⟩, c5⟩
    · rw [hi (834 + 3 * i) (by omega), hi (834 + 3 * (i + 1)) (by omega)]; exact p8 i hi'
  · by_cases z : k = n'
    · subst z; rw [en0 l hl] at e; exact absurd e (by decide)
    · rw [ex0 k l z hl] at e
      rw [lo (8 + 3 * l) (by omega) (by omega)]
      exact hJ k l (by omega) hl e
/-- places that neither the warmings nor the jars' flags nor the echoes' flags know -/
theorem RS.of {σ' : Mm} {b' : Nat} {P' : Nat → Int32} {ρ' : Nat → List Nat} (hV' : RV σ' st P' b' n ω ρ') (hS : stS σ st ω ρ) (hW : RW σ ω P n m b) (hJ : EJ P n) (hb : b ≤ b') (hq : ∀ q, st + 62 ≤ q → q < st + 70 → mi σ' q = mi σ q) (hi : ∀ j, 834 ≤ j → P' j = P j) (e1 : P' 1 = P 1) (e2 : P' 2 = P 2) (ej : ∀ l, l < 26 → P' (8 + 3 * l) = P (8 + 3 * l)) (ee : ∀ k l, k < n → l < 26 → P' (eX k l) = 1 → P (8 + 3 * l) = 1) : RS σ' st P' b' := by
  obtain ⟨hW1, hPW⟩ := hW
  refine ⟨ω, ρ', n, m, hV', RW.mem (P' := P') (b' := b') ⟨hW1, hPW⟩ hS hq ⟨hW1.1, hW1.2.1, fun i w hi' => by rw [hi _ (by omega), hi _ (by omega), hi _ (by omega)]; exact hW1.2.2 i w hi'⟩ ?_, fun k l hk hl q => by rw [ej l hl]; exact ee k l hk hl q⟩
  obtain ⟨p1, p7, p8⟩ := hPW.mono hb
  refine ⟨by rw [e1]; exact p1, fun i hi' => ?_, fun i hi' => ?_⟩
  · rw [e2, hi (834 + 3 * i) (by omega), hi (834 + 3 * i + 1) (by omega), hi (834 + 3 * i + 2) (by omega)]; exact p7 i hi'
  · rw [hi (834 + 3 * i) (by omega), hi (834 + 3 * (i + 1)) (by omega)]; exact p8 i hi'
theorem RS.ear (h : RS σ st P b) {k n : Nat} (h0 : P 0 = nI n) (hn : n ≤ 4) (hk : k < n) {y : Int32} (hy : isZ y) : RS (sS σ (st + 30 + 8 * k) (upd (mi σ (st + 30 + 8 * k)) 4 y)) st (upd P (86 + 187 * k + 3) y) b := by
  obtain ⟨ω, ρ, n', m, hV, hW, hJ⟩ := h
  have hn' := hV.n4
  have := (nI_eq (by omega) (by omega)).mp (hV.p0.symm.trans h0)
  subst this
  have hS := hV.1
  have e : ∀ j, j ≠ 86 + 187 * k + 3 → upd P (86 + 187 * k + 3) y j = P j := fun j hj => pk_un hj
  have ex : ∀ k' l i, l < 26 → i < 7 → upd P (86 + 187 * k + 3) y (eX k' l + i) = P (eX k' l + i) := fun k' l i hl hi => e _ (Ne.symm (eX_cap (w := 3) hl hi (by omega)))
  have ex0 : ∀ k' l, l < 26 → upd P (86 + 187 * k + 3) y (eX k' l) = P (eX k' l) := fun k' l hl => ex k' l 0 hl (by omega)
  have hP := hV.pi
  obtain ⟨h1, h2, h3, h4, h5, h6, h7⟩ := hV.pi
  have hP' : PI (upd P (86 + 187 * k + 3) y) n' b := by
    refine PI_sh (k := k) hP (Nat.le_refl _) hk (fun j h8 ho => e j (fun z => by unfold oSh at ho; omega)) (e 0 (by omega)) (by rw [e 2 (by omega), e 3 (by omega), e 4 (by omega), e 5 (by omega), e 6 (by omega), e 7 (by omega)]; exact h2) (by rw [e 2 (by omega)]; omega) (by rw [e 3 (by omega)]; omega) ?_ (fun l' hl' => ?_) (fun l1 l2 hl1 hl2 hne => ?_)
    · rw [e (86 + 187 * k) (by omega), e (86 + 187 * k + 2) (by omega), pk_us, e (86 + 187 * k + 4) (by omega), show ecN (upd P (86 + 187 * k + 3) y) k = ecN P k from cnt_congr fun l hl => by rw [ex0 k l hl]]
      obtain ⟨a1, a2, a3, a4, a5, a6⟩ := h4 k hk
      exact ⟨a1, a2, a3, hy, a5, a6⟩
    · rw [ex0 k l' hl', ex k l' 1 hl' (by omega), ex k l' 2 hl' (by omega), ex k l' 3 hl' (by omega), ex k l' 4 hl' (by omega), ex k l' 5 hl' (by omega), ex k l' 6 hl' (by omega), e 2 (by omega), e 3 (by omega)]
      exact h5 k l' hk hl'
    · rw [ex0 k l1 hl1, ex0 k l2 hl2, ex k l1 3 hl1 (by omega), ex k l1 4 hl1 (by omega), ex k l2 3 hl2 (by omega), ex k l2 4 hl2 (by omega)]
      exact h6 k l1 l2 hk hl1 hl2 hne
  have hEA := hV.ea hk
  have q : ∀ a, a ≠ st + 30 + 8 * k → mi (sS σ (st + 30 + 8 * k) (upd (mi σ (st + 30 + 8 * k)) 4 y)) a = mi σ a := fun a h => sS_n h
  have hk4 : k < 4 := by omega
  refine RS.of (hV.stay (σ1 := sS σ (st + 30 + 8 * k) (upd (mi σ (st + 30 + 8 * k)) 4 y)) (Nat.le_refl _) hk rfl rfl (fun a a1 a2 a3 a4 => q a a3) hP' (fun j h8 ho => e j (fun z => by unfold oSh at ho; omega)) ?_ ?_ ?_ ?_) hS hW hJ (Nat.le_refl _) (fun a a1 a2 => q a (by omega)) (fun j hj => e j (by omega)) (e 1 (by omega)) (e 2 (by omega)) (fun l hl => e _ (by omega)) (fun k' l hk' hl z => hJ k' l hk' hl (by rw [← ex0 k' l hl]; exact z))
  · rw [vG_cg (σ := σ) (q _ (by omega))]
    unfold GV
    rw [e 2 (by omega), e 3 (by omega), e 4 (by omega), e 5 (by omega), e 6 (by omega), e 7 (by omega)]
    exact hV.g
  · have eH : vH (sS σ (st + 30 + 8 * k) (upd (mi σ (st + 30 + 8 * k)) 4 y)) st k = nr 6 (upd (mi σ (st + 30 + 8 * k)) 4 y) := by unfold vH; rw [sS_s]
    rw [eH]
    unfold HV
    rw [e (86 + 187 * k) (by omega), e (86 + 187 * k + 1) (by omega), e (86 + 187 * k + 2) (by omega), pk_us, e (86 + 187 * k + 4) (by omega)]
    obtain ⟨a0, a1, a2, a3, a4, a5⟩ := (hV.e hk).1
    exact ⟨a0, a1, a2, a3, rfl, a5⟩
  · obtain ⟨b1, b2, b3, b4, b5⟩ := hEA.eb
    have qe : ∀ x, x ∈ ρ k → mi (sS σ (st + 30 + 8 * k) (upd (mi σ (st + 30 + 8 * k)) 4 y)) x = mi σ x := fun x hx => q x (by have := hS.e hk4 hx; omega)
    refine ⟨b1, fun x hx => by rw [qe x hx]; exact b2 x hx, fun x hx h0 => ?_, fun l hl z => ?_, ?_⟩
    · rw [qe x hx] at h0 ⊢
      obtain ⟨l, hl, q1, h9⟩ := b3 x hx h0
      exact ⟨l, hl, q1, eV_cg h9 (fun i hi => ex k l i hl hi) (e _ (by omega))⟩
    · rw [ex0 k l hl] at z
      obtain ⟨x, hx, z1, z2⟩ := b4 l hl z
      exact ⟨x, hx, by rw [qe x hx]; exact z1, by rw [qe x hx]; exact z2⟩
    · refine b5.imp_of_mem fun {x y} hx hy r => ?_
      rw [qe x hx, qe y hy]
      exact r
  · rw [e (86 + 187 * k + 2) (by omega)]
    exact srtd_cg hEA.2.2.2.2.2 fun f hf => by rw [q f (by have := hS.e hk4 hf; omega)]; exact ⟨rfl, rfl, rfl, rfl⟩
end SP
