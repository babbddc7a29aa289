/-! ===== the class: execute ===== -/
def upd' (R : Nat → Nat → Int32) (i : Nat) (P : Nat → Int32) : Nat → Nat → Int32 := fun t => if t = i then P else R t
theorem upd'_s {R : Nat → Nat → Int32} {i : Nat} {P : Nat → Int32} : upd' R i P i = P := if_pos rfl
theorem upd'_n {R : Nat → Nat → Int32} {i t : Nat} {P : Nat → Int32} (h : t ≠ i) : upd' R i P t = R t := if_neg h
section EXE
variable {G : GG} {σ σs : Mm} {K : RES → Mm → Prop} {x b : Nat} {A : AS} {n : Nat} {T : Nat → Int32}
/-- the kind and the parameters of the t-th command -/
def KT (n : Nat) (T : Nat → Int32) (t : Nat) : Nat := kd n T (sp n T t)
def CT (n : Nat) (T : Nat → Int32) (t : Nat) : Nat → Int32 := FU n T (sp n T t) zf
theorem par_ok : ∀ (d m : Nat), (par n T d m).2.1 = true → (par n T d m).2.2 ≤ m + d ∧ (par n T d m).1 ≤ n ∧ m < (par n T d m).2.2 ∧ (∀ t, m ≤ t → t < (par n T d m).2.2 → (run n T (fu (KT n T t)) (sp n T t)).2 = true) ∧ ((sp n T m) + 6 * ((par n T d m).2.2 - m) ≤ n ∨ n < sp n T m)
  | 0, m, h => by cases h
  | d + 1, m, h => by
    rw [par_s] at h ⊢
    by_cases q : (run n T (fu (kd n T (sp n T m))) (sp n T m)).2 = true
    · rw [if_pos q] at h ⊢
      have hl := run_len _ _ q
      have h6 := fu_len (kd n T (sp n T m)) (kd_lt _)
      have hn := run_n (n := n) (T := T) (fu (kd n T (sp n T m))) (sp n T m)
      by_cases q1 : n ≤ (run n T (fu (kd n T (sp n T m))) (sp n T m)).1
      · rw [if_pos q1]
        by_cases hs : sp n T m ≤ n
        · have := hn hs
          refine ⟨by show m + 1 ≤ _; omega, this, Nat.lt_succ_self _, fun t h1 h2 => ?_, Or.inl (by show sp n T m + 6 * (m + 1 - m) ≤ n; omega)⟩
          obtain rfl : t = m := by have : t < m + 1 := h2; omega
          exact q
        · exact absurd q (fun q => by
            have : ¬ (run n T (fu (kd n T (sp n T m))) (sp n T m)).2 = true := by
              have hk := kd_lt (n := n) (T := T) (sp n T m)
              have e : (fu (kd n T (sp n T m))).length ≠ 0 := by omega
              generalize fu (kd n T (sp n T m)) = l at e
              cases l with
              | nil => exact absurd rfl e
              | cons i l =>
                intro z
                have := iOk_lt (run_hd z).1
                omega
            exact this q)
      · rw [if_neg q1] at h ⊢
        by_cases q2 : isAt n T (run n T (fu (kd n T (sp n T m))) (sp n T m)).1 59
        · rw [if_pos q2] at h ⊢
          obtain ⟨g1, g2, g3, g4, g5⟩ := par_ok d (m + 1) h
          refine ⟨by omega, g2, by omega, fun t h1 h2 => ?_, ?_⟩
          · by_cases e : t = m
            · rw [e]; exact q
            · exact g4 t (by omega) h2
          · rw [sp_s] at g5
            have := q2.1
            omega
        · rw [if_neg q2] at h; cases h
    · rw [if_neg q] at h; cases h
/-- the parameters that a kind looks at -/
theorem Nx_congr {k : Nat} (hk : k < 9) {F F' P P' : Nat → Int32} (h : Nx k F P P') (e : ∀ i, i < (tg (its k)).length → F ((tg (its k)).getD i 0) = F' ((tg (its k)).getD i 0)) : Nx k F' P P' := by
  match k, hk with
  | 0, _ =>
    have e1 : F 1 = F' 1 := e 0 (by decide)
    have e3 : F 3 = F' 3 := e 1 (by decide)
    simp only [Nx, e1, e3] at h ⊢
    exact h
  | 1, _ =>
    have e1 : F 1 = F' 1 := e 0 (by decide)
    have e3 : F 3 = F' 3 := e 1 (by decide)
    simp only [Nx, e1, e3] at h ⊢
    exact h
  | 2, _ =>
    have e1 : F 1 = F' 1 := e 0 (by decide)
    simp only [Nx, e1] at h ⊢
    exact h
  | 3, _ =>
    have e2 : F 2 = F' 2 := e 0 (by decide)
    have e3 : F 3 = F' 3 := e 1 (by decide)
    have e4 : F 4 = F' 4 := e 2 (by decide)
    simp only [Nx, e2, e3, e4] at h ⊢
    exact h
  | 4, _ =>
    have e2 : F 2 = F' 2 := e 0 (by decide)
    have e1 : F 1 = F' 1 := e 1 (by decide)
    simp only [Nx, e1, e2] at h ⊢
    exact h
  | 5, _ =>
    have e2 : F 2 = F' 2 := e 0 (by decide)
    have e1 : F 1 = F' 1 := e 1 (by decide)
    have e3 : F 3 = F' 3 := e 2 (by decide)
    simp only [Nx, e1, e2, e3] at h ⊢
    exact h
  | 6, _ =>
    have e2 : F 2 = F' 2 := e 0 (by decide)
    simp only [Nx, e2] at h ⊢
    exact h
  | 7, _ =>
    have e2 : F 2 = F' 2 := e 0 (by decide)
    simp only [Nx, e2] at h ⊢
    exact h
  | 8, _ =>
    have e3 : F 3 = F' 3 := e 0 (by decide)
    simp only [Nx, e3] at h ⊢
    exact h
theorem FU_eq {p : Nat} {f g : Nat → Int32} (h : (run n T (fu (kd n T p)) p).2 = true) : ∀ i, i < (tg (its (kd n T p))).length → FU n T p f ((tg (its (kd n T p))).getD i 0) = FU n T p g ((tg (its (kd n T p))).getD i 0) := fun i hi => (FU_val h hi).trans (FU_val h hi).symm
/-- the pantry put together behind an execute -/
theorem CIV.mk {σf : Mm} {b' j' : Nat} {P' : Nat → Int32} {W' : Nat → Nat → Int32} {ea fa : Int32} (hC : CIV σs x A b) (hbb : b ≤ b') (e : ∀ q, q < x ∨ (x + 703 ≤ q ∧ (q < x + 773 ∨ x + 786 ≤ q)) → mi σf q = mi σs q) (er : ∀ q, q < x + 1 ∨ x + 71 ≤ q → mr σf q = mr σs q) (e2 : ml σf = ml σs ∧ md σf = md σs ∧ mt σf = mt σs ∧ mz σf = mz σs) (e3 : mi σf x 3 = mi σs x 3) (e5 : mi σf x 5 = ea ∧ mi σf x 6 = fa) (e6 : mi σf (x + 773) 1 = 0) (hR : RS σf (x + 1) P' b') (hH : HI σf (x + 71) W' j' b') : CIV σf x (P', W', j', asv A, aV A, ea, fa, 0, atx A, aln A, alt A) b' ∧ Fc σs σf x := by
  obtain ⟨h1, h2, h3, h4, h5, h6, h7⟩ := hC
  obtain ⟨g1, g2, g3, g4⟩ := e2
  have et : ∀ q, mt σf q = mt σs q := fun q => by rw [g3]
  refine ⟨⟨h1.loc (er x (by omega)) (et x), hR, hH, (h4.loc e3 fun q q1 q2 => ⟨e q (by omega), er q (by omega), et q⟩).mono hbb, e5, ⟨h6.1.loc fun q q1 q2 => ⟨er q (by omega), et q⟩, e6, Nat.zero_le _, fun i hi => absurd hi (Nat.not_lt_zero _)⟩, h7.loc fun q q1 => ⟨e q (by omega), er q (by omega), et q⟩⟩, fun q hq => ⟨e q (by omega), er q (by omega)⟩, g1, g2, g3, g4⟩
theorem c_exe_55 (gk : GOK G) (hst : STR G) (hC : CIV σs x A b) {σ6 : Mm} {f m : Nat} {x1 : Int32} (hb : b < 2 ^ 26) (hm : m ≤ 10) (hT : ∀ i, i < n → isC (T i)) (hr : ∀ t, t < m → (run n T (fu (KT n T t)) (sp n T t)).2 = true)
    (e : ∀ q, q < x + 1 ∨ (x + 703 ≤ q ∧ (q < x + 773 ∨ x + 786 ≤ q)) → mi σ6 q = mi σs q) (er : mr σ6 = mr σs) (e2 : ml σ6 = ml σs ∧ md σ6 = md σs ∧ mt σ6 = mt σs ∧ mz σ6 = mz σs) (e1 : mi σ6 (x + 773) 1 = 0) (e4 : mi σ6 (x + 773) 4 = nI m) (hO : ∀ t, t < m → ∃ g, ∀ k, k < 5 → mi σ6 (x + 776 + t) k = FU n T (sp n T t) g k) (hS6 : HSh σ6 (x + 71)) (hV6 : HV2 σ6 (x + 71) (aW A) f (aj A) b) (hK6 : RS σ6 (x + 71 + 2 + 70 * ((f + aj A) % 9)) (aP A) b)
    (h2 : ∀ (i : Nat) (R : Nat → Nat → Int32), i < m → R 0 = aP A → (∀ t, t < i → Nx (KT n T t) (CT n T t) (R t) (R (t + 1))) → (∀ P', ¬ Nx (KT n T i) (CT n T i) (R i) P') → (∀ t, t ≤ i → PG (R t)) → ∀ σ', CIV σ' x (Aer (Atx A 0 (atx A)) (aea A) (nI i)) b → Fc σs σ' x → ∀ k, K (.inr "java/lang/IllegalStateException") (sk σ' k))
    (hk : ∀ R : Nat → Nat → Int32, R 0 = aP A → (∀ t, t < m → Nx (KT n T t) (CT n T t) (R t) (R (t + 1))) → (∀ t, t ≤ m → PG (R t)) → ∀ σ', CIV σ' x (Atx (Am A (R m)) 0 (atx A)) (b + 540 * m) → Fc σs σ' x → K (.inl (some (vI (nI m)))) σ') :
    ∀ (d i : Nat), i + d = m → ∀ (σ : Mm) (R : Nat → Nat → Int32), Fr σ6 σ (x + 1) → RS σ (x + 1) (R i) (b + 540 * i) → R 0 = aP A → (∀ t, t < i → Nx (KT n T t) (CT n T t) (R t) (R (t + 1))) → (∀ t, t ≤ i → PG (R t)) → At G mX8_execute rX8_execute 0 0 55 [some (vR (some x)), some (vI x1), some (vI (nI i)), none] [] σ K
  | d, i, hd, σ, R, hF, hR, hR0, hN, hP => by
    have hX6 : CS σ6 x := hC.1.loc (by rw [er]) (by rw [e2.2.2.1])
    have hTS6 : TSh σ6 (x + 773) := hC.2.2.2.2.2.1.1.loc fun q _ _ => ⟨by rw [er], by rw [e2.2.2.1]⟩
    have L : ∀ q, q < x + 1 ∨ x + 71 ≤ q → mi σ q = mi σ6 q ∧ mr σ q = mr σ6 q ∧ mt σ q = mt σ6 q := fun q hq => ⟨(hF.1 q (by omega)).1, (hF.1 q (by omega)).2, by rw [hF.2.2.2.1]⟩
    have hX : CS σ x := hX6.loc (L x (by omega)).2.1 (L x (by omega)).2.2
    have hTS : TSh σ (x + 773) := hTS6.loc fun q q1 q2 => (L q (by omega)).2
    have hS : HSh σ (x + 71) := hS6.loc fun q q1 q2 => (L q (by omega)).2
    have hV : HV2 σ (x + 71) (aW A) f (aj A) b := ⟨hV6.1, by rw [(L (x + 71) (by omega)).1]; exact hV6.2.1, hV6.2.2.1, by rw [(L (x + 71) (by omega)).1]; exact hV6.2.2.2.1, fun t ht => (hV6.2.2.2.2 t ht).loc fun q q1 q2 => L q (by omega)⟩
    have hKp : RS σ (x + 71 + 2 + 70 * ((f + aj A) % 9)) (aP A) b := hK6.loc fun q q1 q2 => L q (by omega)
    have m4 : mi σ (x + 773) 4 = nI m := by rw [(L (x + 773) (by omega)).1]; exact e4
    refine vX8_execute_55 gk ⟨_, rfl, hX.1, _, hX.2.2.2.2.1, hTS.1, ?_⟩
    rw [m4]
    match d, hd with
    | 0, hd =>
      obtain rfl : i = m := by omega
      refine ⟨fun _ => ⟨_, hX.2.2.1, hS.1, ?_⟩, fun z => absurd (Int32.le_refl _) z⟩
      rw [hX.2.2.1]
      refine kX3_confirm gk hS hV hKp fun σ7 hH7 hF7 => ?_
      have L7 : ∀ q, q < x + 71 ∨ x + 703 ≤ q → mi σ7 q = mi σ q := fun q hq => hF7.1 q (by omega)
      have hc := hC.mk (σf := σ7) (b' := b + 540 * i) (by omega) (fun q hq => by rw [L7 q (by omega), (L q (by omega)).1, e q (by omega)]) (fun q hq => by rw [hF7.2.1, (L q hq).2.1, er]) ⟨by rw [hF7.2.2.1, hF.2.1, e2.1], by rw [hF7.2.2.2.1, hF.2.2.1, e2.2.1], by rw [hF7.2.2.2.2.1, hF.2.2.2.1, e2.2.2.1], by rw [hF7.2.2.2.2.2, hF.2.2.2.2, e2.2.2.2]⟩ (by rw [L7 x (by omega), (L x (by omega)).1, e x (by omega)]) (ea := aea A) (fa := afa A) (by rw [L7 x (by omega), (L x (by omega)).1, e x (by omega)]; exact hC.2.2.2.2.1) (by rw [L7 _ (by omega), (L (x + 773) (by omega)).1, e1]) (hR.loc fun q q1 q2 => ⟨L7 q (by omega), by rw [hF7.2.1], by rw [hF7.2.2.2.2.1]⟩) (hH7.mono (by omega))
      have hX7 : CS σ7 x := hc.1.1
      refine vX8_execute_132 gk ⟨_, rfl, hX7.1, _, hX7.2.2.2.2.1, hc.1.2.2.2.2.2.1.1.1, ?_⟩
      rw [L7 _ (by omega), m4]
      exact hk R hR0 hN hP σ7 hc.1 hc.2
    | d + 1, hd =>
      have him : i < m := by omega
      refine ⟨fun z => absurd z (nI_ge him (by omega)), fun _ => ?_⟩
      rw [hX.2.2.2.2.1]
      refine eX1_command gk ⟨fun z => absurd z (nI_pos (by omega)), fun _ => ⟨_, rfl, hTS.1, _, hTS.2.2.2.1, 10, hTS.2.2.2.2.1, fun _ => ⟨nI_in (by omega) (by decide), ?_⟩, fun z => absurd (nI_lt (a := i) (b := 10) (by omega) (by decide)) z⟩⟩
      rw [nI_clamp (by omega), (hTS.2.2.2.2.2 i (by omega)).1]
      refine vX8_execute_74 gk ⟨(fun z => by cases z), fun a6 ea => ?_⟩
      cases ea
      obtain ⟨g, hg⟩ := hO i him
      have hcm : ∀ k, k < 5 → mi σ (x + 773 + 3 + i) k = FU n T (sp n T i) g k := fun k hk => by rw [show x + 773 + 3 + i = x + 776 + i by omega, (L (x + 776 + i) (by omega)).1]; exact hg k hk
      have hty := (hTS.2.2.2.2.2 i (by omega)).2
      have hkt := kd_lt (n := n) (T := T) (sp n T i)
      have c1 : ∀ P', Nx (kd n T (sp n T i)) (FU n T (sp n T i) g) (R i) P' ↔ Nx (KT n T i) (CT n T i) (R i) P' := fun P' => ⟨fun h => Nx_congr hkt h (FU_eq (hr i him)), fun h => Nx_congr hkt h (FU_eq (hr i him))⟩
      have hb2 : b + 540 * i < 2 ^ 27 := by omega
      refine ⟨_, rfl, hX.1, kX8_faultOf (F := FU n T (sp n T i) g) gk hX hR hkt hty (by rw [hcm 0 (by decide)]; exact FU_0) (fun k _ hk => hcm k hk) (fun q => by rw [hcm 1 (by decide)]; exact FU_C hT (hr i him) q) (fun hno z hz => ?_) fun P' hN' => ?_⟩
      · refine vX8_execute_84 gk ⟨fun q => absurd q hz, fun _ => ⟨_, rfl, hX.1, _, hX.2.2.1, hS.1, ?_⟩⟩
        rw [hX.2.1, hX.2.2.1]
        refine kX3_takeBack gk hS hV.2.2.1 hV.2.2.2.1 hV.2.1 (by have := hV.1; omega) hKp hR.shp (by omega) fun σ7 hR7 hF7 => ?_
        have L7 : ∀ q, q < x + 1 ∨ x + 71 ≤ q → mi σ7 q = mi σ q := fun q hq => hF7.1 q (by omega)
        have hX7 : CS σ7 x := hX.loc (by rw [hF7.2.1]) (by rw [hF7.2.2.2.2.1])
        refine vX8_execute_98 gk hst ⟨_, rfl, hX7.1, fun σ8 s8 => ?_⟩
        rw [si_sS] at s8
        have L8 : ∀ q, q ≠ x → mi σ8 q = mi σ7 q := fun q hq => by rw [s8, sS_n hq]
        have R8 : mr σ8 = mr σ7 ∧ ml σ8 = ml σ7 ∧ md σ8 = md σ7 ∧ mt σ8 = mt σ7 ∧ mz σ8 = mz σ7 := by rw [s8]; exact ⟨rfl, rfl, rfl, rfl, rfl⟩
        have x8 : mi σ8 x = upd (mi σs x) 6 (nI i) := by rw [s8, sS_s, L7 x (by omega), (L x (by omega)).1, e x (by omega)]
        have hH8 : HI σ8 (x + 71) (aW A) (aj A) b := by
          have H : HI σ (x + 71) (aW A) (aj A) b := ⟨hS, f, hV⟩
          exact H.loc fun q q1 q2 => ⟨(L8 q (by omega)).trans (L7 q (by omega)), by rw [R8.1, hF7.2.1], by rw [R8.2.2.2.1, hF7.2.2.2.2.1]⟩
        have hc := hC.mk (σf := σ8) (b' := b) (Nat.le_refl b) (fun q hq => by rw [L8 q (by omega), L7 q (by omega), (L q (by omega)).1, e q (by omega)]) (fun q hq => by rw [R8.1, hF7.2.1, (L q hq).2.1, er]) ⟨by rw [R8.2.1, hF7.2.2.1, hF.2.1, e2.1], by rw [R8.2.2.1, hF7.2.2.2.1, hF.2.2.1, e2.2.1], by rw [R8.2.2.2.1, hF7.2.2.2.2.1, hF.2.2.2.1, e2.2.2.1], by rw [R8.2.2.2.2, hF7.2.2.2.2.2, hF.2.2.2.2, e2.2.2.2]⟩ (by rw [x8, pk_un (by decide)]) (ea := aea A) (fa := nI i) (by rw [x8, pk_us, pk_un (by decide)]; exact ⟨hC.2.2.2.2.1.1, rfl⟩) (by rw [L8 _ (by omega), L7 _ (by omega), (L (x + 773) (by omega)).1, e1]) (hR7.loc fun q q1 q2 => ⟨L8 q (by omega), by rw [R8.1], by rw [R8.2.2.2.1]⟩) hH8
        exact h2 i R him hR0 hN (fun P' z => hno P' ((c1 P').mpr z)) hP σ8 hc.1 hc.2
      · refine vX8_execute_84 gk ⟨fun _ => ⟨_, rfl, hX.1, ?_⟩, fun z => absurd rfl z⟩
        refine kX8_carryOut (F := FU n T (sp n T i) g) gk hb2 hX hR hkt hty (by rw [hcm 0 (by decide)]; exact FU_0) (fun k _ hk => hcm k hk) hN' fun σ7 hR7 hF7 => vX8_execute_119 gk ?_
        rw [nI_1]
        have eR : ∀ t, t ≤ i → upd' R (i + 1) P' t = R t := fun t ht => upd'_n (by omega)
        have eS : upd' R (i + 1) P' (i + 1) = P' := upd'_s
        refine c_exe_55 gk hst hC hb hm hT hr e er e2 e1 e4 hO hS6 hV6 hK6 h2 hk d (i + 1) (by omega) σ7 (upd' R (i + 1) P') (hF.trans hF7) ?_ (by rw [eR 0 (Nat.zero_le _)]; exact hR0) (fun t ht => ?_) fun t ht => ?_
        · rw [eS, show b + 540 * (i + 1) = b + 540 * i + 540 by omega]; exact hR7
        · by_cases et : t = i
          · rw [et, eR i (Nat.le_refl _), eS]; exact (c1 P').mp hN'
          · rw [eR t (by omega), eR (t + 1) (by omega)]; exact hN t (by omega)
        · by_cases et : t = i + 1
          · rw [et, eS]; exact hR7.pg
          · rw [eR t (by omega)]; exact hP t (by omega)
theorem c_execute (gk : GOK G) (sok : SOK G) (hst : STR G) (hb : b < 2 ^ 26) (hC : CIV σs x A b)
    (h1 : ¬ (par (atn A) (atx A) 10 0).2.1 = true → ∀ σ', CIV σ' x (Aer (Atx A 0 (atx A)) (nI (par (atn A) (atx A) 10 0).1) (afa A)) b → Fc σs σ' x → ∀ k, K (.inr "java/lang/IllegalArgumentException") (sk σ' k))
    (h2 : (par (atn A) (atx A) 10 0).2.1 = true → ∀ (i : Nat) (R : Nat → Nat → Int32), i < (par (atn A) (atx A) 10 0).2.2 → R 0 = aP A → (∀ t, t < i → Nx (KT (atn A) (atx A) t) (CT (atn A) (atx A) t) (R t) (R (t + 1))) → (∀ P', ¬ Nx (KT (atn A) (atx A) i) (CT (atn A) (atx A) i) (R i) P') → (∀ t, t ≤ i → PG (R t)) → ∀ σ', CIV σ' x (Aer (Atx A 0 (atx A)) (aea A) (nI i)) b → Fc σs σ' x → ∀ k, K (.inr "java/lang/IllegalStateException") (sk σ' k))
    (hk : (par (atn A) (atx A) 10 0).2.1 = true → ∀ R : Nat → Nat → Int32, R 0 = aP A → (∀ t, t < (par (atn A) (atx A) 10 0).2.2 → Nx (KT (atn A) (atx A) t) (CT (atn A) (atx A) t) (R t) (R (t + 1))) → (∀ t, t ≤ (par (atn A) (atx A) 10 0).2.2 → PG (R t)) → ∀ σ', CIV σ' x (Atx (Am A (R (par (atn A) (atx A) 10 0).2.2)) 0 (atx A)) (b + 540 * (par (atn A) (atx A) 10 0).2.2) → Fc σs σ' x → K (.inl (some (vI (nI (par (atn A) (atx A) 10 0).2.2)))) σ') : Runs G mX8_execute rX8_execute [vR (some x)] σs K := by
  obtain ⟨hX, hR, hH, hS, hE, hT, hL⟩ := id hC
  obtain ⟨t1, t2, t3, t4⟩ := id hT
  refine eX8_execute gk ⟨_, rfl, hX.1, _, hX.2.2.2.2.1, t1.1, ?_⟩
  rw [hX.2.2.2.2.1]
  refine kX1_parse gk sok t1 t2 t3 t4 fun σ1 hTE => ?_
  obtain ⟨hQ, hFb, hOk⟩ := hTE
  have L1 : ∀ q, q < x + 773 ∨ x + 786 ≤ q → mi σ1 q = mi σs q := fun q hq => hFb.1 q (by omega)
  have hX1 : CS σ1 x := hX.loc (by rw [hFb.2.1]) (by rw [hFb.2.2.2.2.1])
  refine vX8_execute_7 gk hst ⟨_, rfl, hX1.1, _, hX1.2.2.2.2.1, hQ.1.1, fun σ5 s5 => ⟨fun z => ?_, fun z => ?_⟩⟩
  · have hok : (par (atn A) (atx A) 10 0).2.1 = true := Classical.byContradiction fun q => z (if_neg q)
    rw [si_sS] at s5
    have L5 : ∀ q, q ≠ x + 773 → mi σ5 q = mi σ1 q := fun q hq => by rw [s5, sS_n hq]
    have R5 : mr σ5 = mr σ1 ∧ ml σ5 = ml σ1 ∧ md σ5 = md σ1 ∧ mt σ5 = mt σ1 ∧ mz σ5 = mz σ1 := by rw [s5]; exact ⟨rfl, rfl, rfl, rfl, rfl⟩
    have l5 : ∀ q, q < x + 773 ∨ x + 786 ≤ q → mi σ5 q = mi σs q ∧ mr σ5 q = mr σs q ∧ mt σ5 q = mt σs q := fun q hq => ⟨(L5 q (by omega)).trans (L1 q hq), by rw [R5.1, hFb.2.1], by rw [R5.2.2.2.1, hFb.2.2.2.2.1]⟩
    have hX5 : CS σ5 x := hX.loc (l5 x (by omega)).2.1 (l5 x (by omega)).2.2
    have hR5 : RS σ5 (x + 1) (aP A) b := hR.loc fun q q1 q2 => l5 q (by omega)
    have hH5 : HI σ5 (x + 71) (aW A) (aj A) b := hH.loc fun q q1 q2 => l5 q (by omega)
    obtain ⟨hS5, f, hV5⟩ := id hH5
    refine ⟨_, hX5.2.2.1, by rw [← R5.2.2.2.1]; exact hS5.1, ?_⟩
    rw [hX5.2.1, hX5.2.2.1]
    refine kX3_keep gk hS5 hV5 hR5 (by omega) fun σ6 hS6 hV6 hK6 hF6 => vX8_execute_53 gk ?_
    obtain ⟨p1, p2, p3, p4, -⟩ := par_ok 10 0 hok
    obtain ⟨m4, -, hO⟩ := hOk hok
    have L6 : ∀ q, q < x + 71 ∨ x + 703 ≤ q → mi σ6 q = mi σ5 q := fun q hq => hF6.1 q (by omega)
    have x5 : mi σ5 (x + 773) = upd (mi σ1 (x + 773)) 1 0 := by rw [s5, sS_s]
    refine c_exe_55 gk hst hC hb (by omega) (fun i hi => ch_C (t4 i hi).2) (fun t ht => p4 t (Nat.zero_le _) ht) (fun q hq => by rw [L6 q (by omega), (l5 q (by omega)).1]) (by rw [hF6.2.1, R5.1, hFb.2.1]) ⟨by rw [hF6.2.2.1, R5.2.1, hFb.2.2.1], by rw [hF6.2.2.2.1, R5.2.2.1, hFb.2.2.2.1], by rw [hF6.2.2.2.2.1, R5.2.2.2.1, hFb.2.2.2.2.1], by rw [hF6.2.2.2.2.2, R5.2.2.2.2, hFb.2.2.2.2.2]⟩ (by rw [L6 _ (by omega), x5, pk_us]) (by rw [L6 _ (by omega), x5, pk_un (by decide)]; exact m4) (fun t ht => ?_) hS6 hV6 hK6 (h2 hok) (hk hok) _ 0 (Nat.zero_add _) σ6 (fun _ => aP A) Fr.refl ?_ rfl (fun t ht => absurd ht (Nat.not_lt_zero _)) fun t ht => hR.pg
    · obtain ⟨g, hg⟩ := hO t ht
      refine ⟨g, fun k hk => ?_⟩
      rw [L6 _ (by omega), L5 _ (by omega), show x + 776 + t = x + 773 + 3 + t by omega]
      exact hg k hk
    · exact hR5.loc fun q q1 q2 => ⟨L6 q (by omega), by rw [hF6.2.1], by rw [hF6.2.2.2.2.1]⟩
  · have hok : ¬ (par (atn A) (atx A) 10 0).2.1 = true := fun q => by
      rw [if_pos q] at z; exact absurd z (by decide)
    rw [si_sS] at s5
    have L5 : ∀ q, q ≠ x + 773 → mi σ5 q = mi σ1 q := fun q hq => by rw [s5, sS_n hq]
    have R5 : mr σ5 = mr σ1 ∧ ml σ5 = ml σ1 ∧ md σ5 = md σ1 ∧ mt σ5 = mt σ1 ∧ mz σ5 = mz σ1 := by rw [s5]; exact ⟨rfl, rfl, rfl, rfl, rfl⟩
    have x5 : mi σ5 (x + 773) = upd (mi σ1 (x + 773)) 1 0 := by rw [s5, sS_s]
    refine ⟨_, by rw [R5.1]; exact hX1.2.2.2.2.1, hQ.1.1, fun σ8 s8 => ?_⟩
    rw [si_sS, x5, pk_un (by decide), hQ.2.2.2.2.1] at s8
    have L8 : ∀ q, q ≠ x → mi σ8 q = mi σ5 q := fun q hq => by rw [s8, sS_n hq]
    have R8 : mr σ8 = mr σ5 ∧ ml σ8 = ml σ5 ∧ md σ8 = md σ5 ∧ mt σ8 = mt σ5 ∧ mz σ8 = mz σ5 := by rw [s8]; exact ⟨rfl, rfl, rfl, rfl, rfl⟩
    have x8 : mi σ8 x = upd (mi σs x) 5 (nI (par (atn A) (atx A) 10 0).1) := by rw [s8, sS_s, L5 x (by omega), L1 x (by omega)]
    have l8 : ∀ q, q ≠ x → q < x + 773 ∨ x + 786 ≤ q → mi σ8 q = mi σs q := fun q h hq => by rw [L8 q h, L5 q (by omega), L1 q hq]
    have er : mr σ8 = mr σs := by rw [R8.1, R5.1, hFb.2.1]
    have et : mt σ8 = mt σs := by rw [R8.2.2.2.1, R5.2.2.2.1, hFb.2.2.2.2.1]
    have hc := hC.mk (σf := σ8) (b' := b) (Nat.le_refl b) (fun q hq => l8 q (by omega) (by omega)) (fun q hq => by rw [er]) ⟨by rw [R8.2.1, R5.2.1, hFb.2.2.1], by rw [R8.2.2.1, R5.2.2.1, hFb.2.2.2.1], et, by rw [R8.2.2.2.2, R5.2.2.2.2, hFb.2.2.2.2.2]⟩ (by rw [x8, pk_un (by decide)]) (ea := nI (par (atn A) (atx A) 10 0).1) (fa := afa A) (by rw [x8, pk_us, pk_un (by decide)]; exact ⟨rfl, hE.2⟩) (by rw [L8 _ (by omega), x5, pk_us]) (hR.loc fun q q1 q2 => ⟨l8 q (by omega) (by omega), by rw [er], by rw [et]⟩) (hH.loc fun q q1 q2 => ⟨l8 q (by omega) (by omega), by rw [er], by rw [et]⟩)
    exact h1 hok σ8 hc.1 hc.2
end EXE
