/-! ===== the law's body ===== -/
theorem RunsH.mono {G : GG} {M : SIG} {hh : List (Nat × Nat × Nat × Nat)} {rm : Room} {as : List VV} {σ : Mm} {K K' : RES → Mm → Prop} (h : RunsH G M hh rm as σ K) (hK : ∀ r t, K r t → K' r t) : RunsH G M hh rm as σ K' := by
  intro p e ha hc hk s m args below hf happ hP hT
  obtain ⟨k, o, h1, h2, h3, h4⟩ := h p e ha hc hk s m args below hf happ hP hT
  refine ⟨k, o, h1, h2, h3, ?_⟩
  rcases h4 with ⟨⟨v, t, q1, q2, q3⟩, q⟩ | ⟨q, q0, E, ce, L, ⟨t, q1, q2⟩, q3⟩
  · exact Or.inl ⟨⟨v, t, q1, hK _ _ q2, q3⟩, q⟩
  · exact Or.inr ⟨q, q0, E, ce, L, ⟨t, hK _ _ q1, q2⟩, q3⟩
def zb (v : Int32) : Int32 := if v = 0 then 0 else 1
theorem zb_z (v : Int32) : isZ (zb v) := by
  unfold zb isZ
  split
  · exact Or.inl rfl
  · exact Or.inr rfl
section LAW
variable {G : GG} {σ : Mm} {K : RES → Mm → Prop} {rm : Room} {uc us b0 Ln x c : Nat} {xs : Nat → Int32} {S : List VV} {L : List (Option VV)}
theorem law_ld {q j : Nat} (hd : LDA q j) (hv : Int32.ofInt (j : Int) = nI j) (hp : mt σ b0 = (99, Ln)) (hx : mi σ b0 = xs) (h0 : L[0]? = some (some (vR (some b0)))) (h5 : L[5]? = some (some (vI (nI (4 * c))))) (hc : 4 * c + 4 ≤ Ln) (hj : j < 4) (hL : Ln ≤ 2048) (k : At G mL_law rm uc us (q + 6) L (vI (xs (4 * c + j)) :: S) σ K) : At G mL_law rm uc us q L S σ K := by
  obtain ⟨d0, d1, d3, d4, d5⟩ := hd
  refine s_aload_n (i := 0) d0 rfl h0 ?_
  refine s_iload d1 h5 ?_
  refine s_iconst d3 hv ?_
  refine s_iadd d4 ?_
  rw [nI_add]
  refine s_sld d5 hp (vp_in_nI (by omega) (by omega)) ?_
  rw [hx, nI_clamp (by omega)]
  exact k
theorem law_zb {q : Nat} {v : Int32} (hd : ZBD q) (k : At G mL_law rm uc us (q + 8) L (vI (zb v) :: S) σ K) : At G mL_law rm uc us q L (vI v :: S) σ K := by
  obtain ⟨d0, d3, d4, d7⟩ := hd
  unfold zb at k
  refine s_if_eq (tgt := q + 7) d0 (by omega) (fun g => ?_) (fun g => ?_)
  · rw [if_pos g] at k
    exact s_iconst d7 (by decide) k
  · rw [if_neg g] at k
    exact s_iconst d3 (by decide) (s_goto (tgt := q + 8) d4 (by omega) k)
/-- the last locals are nobody's -/
theorem law_end {pc : Nat} {l0 l1 l2 l3 l4 l5 p q r : Option VV} (h : At G mL_law rm uc us pc [l0, l1, l2, l3, l4, l5, none, none, none] S σ K) : At G mL_law rm uc us pc [l0, l1, l2, l3, l4, l5, p, q, r] S σ K :=
  At.sub h rfl fun i v hi => by
    match i, hi with
    | 0, hi => exact hi
    | 1, hi => exact hi
    | 2, hi => exact hi
    | 3, hi => exact hi
    | 4, hi => exact hi
    | 5, hi => exact hi
    | 6, hi => cases hi
    | 7, hi => cases hi
    | 8, hi => cases hi
    | n + 9, hi => cases hi
theorem law_th {A : AS} {b : Nat} (hE : EVL b0 Ln xs σ x) (hC : CIV σ x A b) (hM : MIV σ (x + 788) A) (hb : BA A b c) : LI b0 Ln xs x (c + 1) (th σ (x + 788) 0) := by
  obtain ⟨m1, m2, m3⟩ := mv_th hM 0
  exact (LI.fin (c := c + 1) hE FE.refl SA.refl m2.fm hC m1 hb.up).1
theorem lg_self {a : Int64} : lg_cmp a a = 0 := by
  unfold lg_cmp
  simp
theorem ev_tail {σ2 : Mm} (h : LI b0 Ln xs x c σ2) : (mt σ2 (x + 788)).1 = 10 ∧ mt σ2 (x + 796) = (51, 1) ∧ mt σ2 (x + 797) = (52, 1) ∧ MS σ2 (x + 788) := by
  obtain ⟨A, b, hC, hM, hb, hE⟩ := h
  exact ⟨hM.1.ty, hE.2.2.2.1, hE.2.2.2.2.1, hM.1⟩
variable {σ2 : Mm} {z : Int32}
theorem le0 {a b : Nat} (h : b ≤ 0) : a + b ≤ a := by omega
variable {l0 l1 l4 l5 : Option VV}
theorem law_tI (gk : GOK G) {q : Nat} {off : Int} (hd : TLI q off) (ho : (((q + 30 : Nat) : Int) + off = (2975 : Nat))) {w : Int32} (h2 : LI b0 Ln xs x (c + 1) σ2) (h6 : mi σ2 (x + 788) 6 = z) (hφ : z = 0 → φI w (ml σ2 (x + 796) 0)) (huc : uc + 31 ≤ 603072) (hus : us + 4206 ≤ 7198826) (k : At G mL_law room_1 (uc + 31) (us + 4206) 2975 [l0, l1, some (vR (some (x + 788))), some (vR (some (x + 796))), l4, l5, none, none, none] [] σ2 K) : At G mL_law room_1 (uc + 31) (us + 4206) q [l0, l1, some (vR (some (x + 788))), some (vR (some (x + 796))), l4, l5, some (vI z), none, none] [vI w] σ2 K := by
  obtain ⟨d0, d2, d3, d6, d8, d13, d15, d18, d19, d20, d21, d23, d24, d25, d30⟩ := hd
  have ht := ev_tail h2
  revert k
  generalize uc + 31 = uc at huc ⊢
  generalize us + 4206 = us at hus ⊢
  intro k
  refine s_istore d0 rfl (Nat.le_of_ble_eq_true rfl) rfl ?_
  refine s_aload_n (i := 2) d2 rfl rfl ?_
  refine s_callV (ci := 9) (Y := mX9_thrown) (rmY := rX9_thrown) (as := []) (S := []) gk d3 gL_170 (by decide) rfl w_1591 w_1592 ht.1 rfl rfl (by decide) ⟨Nat.le_of_ble_eq_true rfl, Nat.le_of_ble_eq_true rfl, Nat.le_trans (le0 (Nat.le_of_ble_eq_true rfl)) huc, Nat.le_trans (le0 (Nat.le_of_ble_eq_true rfl)) hus⟩ (kX9_thrown gk ht.2.2.2 ?_)
  rw [h6]
  refine At.widen (uc' := uc) (us' := us) (?_ : At G mL_law room_1 _ _ (q + 6) _ [vI _] _ K) (le0 (Nat.le_of_ble_eq_true rfl)) (le0 (Nat.le_of_ble_eq_true rfl))
  refine s_iload d6 rfl ?_
  refine s_icmp_eq (tgt := q + 13) d8 (by omega) (fun _ => ?_) (fun g => absurd rfl g)
  refine s_iload d13 rfl ?_
  have hk := s_goto (tgt := 2975) (L := [l0, l1, some (vR (some (x + 788))), some (vR (some (x + 796))), l4, l5, some (vI z), some (vI w), none]) d30 ho (law_end k)
  refine s_if_ne (tgt := q + 30) d15 (by omega) (fun _ => hk) (fun g => ?_)
  refine s_aload_n (i := 3) d18 rfl rfl ?_
  refine s_iconst (v := 0) d19 (by decide) ?_
  refine s_lald gk d20 ht.2.1 vin1 ?_
  refine s_iload d21 rfl ?_
  refine s_i2l d23 rfl ?_
  refine s_lcmp d24 ?_
  refine s_if_eq (tgt := q + 30) d25 (by omega) (fun _ => hk) (fun g' => absurd ?_ g')
  have e : ml σ2 (x + 796) 0 = w.toInt64 := hφ g
  show lg_cmp (ml σ2 (x + 796) 0) w.toInt64 = 0
  rw [e]; exact lg_self
theorem law_tB (gk : GOK G) {q : Nat} {off : Int} (hd : TLB q off) (ho : (((q + 37 : Nat) : Int) + off = (2975 : Nat))) {w : Int32} (h2 : LI b0 Ln xs x (c + 1) σ2) (h6 : mi σ2 (x + 788) 6 = z) (hφ : z = 0 → φB w (ml σ2 (x + 796) 0)) (huc : uc + 31 ≤ 603072) (hus : us + 4206 ≤ 7198826) (k : At G mL_law room_1 (uc + 31) (us + 4206) 2975 [l0, l1, some (vR (some (x + 788))), some (vR (some (x + 796))), l4, l5, none, none, none] [] σ2 K) : At G mL_law room_1 (uc + 31) (us + 4206) q [l0, l1, some (vR (some (x + 788))), some (vR (some (x + 796))), l4, l5, some (vI z), none, none] [vI w] σ2 K := by
  obtain ⟨d0, d2, d3, d6, d8, d13, d15, d18, d19, d20, d21, d23, d26, d27, d30, d31, d32, d37⟩ := hd
  have ht := ev_tail h2
  revert k
  generalize uc + 31 = uc at huc ⊢
  generalize us + 4206 = us at hus ⊢
  intro k
  refine s_istore d0 rfl (Nat.le_of_ble_eq_true rfl) rfl ?_
  refine s_aload_n (i := 2) d2 rfl rfl ?_
  refine s_callV (ci := 9) (Y := mX9_thrown) (rmY := rX9_thrown) (as := []) (S := []) gk d3 gL_170 (by decide) rfl w_1591 w_1592 ht.1 rfl rfl (by decide) ⟨Nat.le_of_ble_eq_true rfl, Nat.le_of_ble_eq_true rfl, Nat.le_trans (le0 (Nat.le_of_ble_eq_true rfl)) huc, Nat.le_trans (le0 (Nat.le_of_ble_eq_true rfl)) hus⟩ (kX9_thrown gk ht.2.2.2 ?_)
  rw [h6]
  refine At.widen (uc' := uc) (us' := us) (?_ : At G mL_law room_1 _ _ (q + 6) _ [vI _] _ K) (le0 (Nat.le_of_ble_eq_true rfl)) (le0 (Nat.le_of_ble_eq_true rfl))
  refine s_iload d6 rfl ?_
  refine s_icmp_eq (tgt := q + 13) d8 (by omega) (fun _ => ?_) (fun g => absurd rfl g)
  refine s_iload d13 rfl ?_
  have hk := s_goto (tgt := 2975) (L := [l0, l1, some (vR (some (x + 788))), some (vR (some (x + 796))), l4, l5, some (vI z), some (vI w), none]) d37 ho (law_end k)
  refine s_if_ne (tgt := q + 37) d15 (by omega) (fun _ => hk) (fun g => ?_)
  refine s_aload_n (i := 3) d18 rfl rfl ?_
  refine s_iconst (v := 0) d19 (by decide) ?_
  refine s_lald gk d20 ht.2.1 vin1 ?_
  refine s_iload d21 rfl ?_
  have e : ml σ2 (x + 796) 0 = if w = 0 then 0 else 1 := hφ g
  have fin : ∀ v : Int64, ml σ2 (x + 796) 0 = v → At G mL_law room_1 uc us (q + 31) [l0, l1, some (vR (some (x + 788))), some (vR (some (x + 796))), l4, l5, some (vI z), some (vI w), none] [vL v, vL (ml σ2 (x + 796) 0)] σ2 K := fun v hv => by
    refine s_lcmp d31 ?_
    refine s_if_eq (tgt := q + 37) d32 (by omega) (fun _ => hk) (fun g' => absurd ?_ g')
    rw [hv]; exact lg_self
  refine s_if_eq (tgt := q + 30) d23 (by omega) (fun g0 => ?_) (fun g0 => ?_)
  · exact s_lconst d30 rfl (fin _ (by rw [e, if_pos g0]; rfl))
  · exact s_lconst d26 rfl (s_goto (tgt := q + 31) d27 (by omega) (fin _ (by rw [e, if_neg g0]; rfl)))
/-- a double's store -/
theorem lcs_st2 {ls : Array Slot} {n : Nat} {L : List (Option VV)} {i : Nat} {v : VV} (h : lcs ls n L) (hc : wide v = true) (ho : okS L i = true) (hi : i + 1 < n) : ∃ ls', storeLocals ls i (em v) = some ls' ∧ lcs ls' n ((L.set i (some v)).set (i + 1) none) := by
  have hc1 : (em v).category = 2 := by
    rcases v with y | r | y | y | y
    · cases hc
    · cases hc
    · rfl
    · cases hc
    · rfl
  obtain ⟨ls', e1, e2⟩ := lv_store2 (l := []) (v := em v) ⟨h.1, h.2.2.1, fun q hq => by cases hq⟩ hi hc1
  refine ⟨ls', e1, e2.1, by rw [List.length_set, List.length_set]; exact h.2.1, e2.2.1, fun j w hj => ?_⟩
  by_cases hj1 : i + 1 = j
  · subst hj1
    rw [List.getElem?_set_self (by rw [List.length_set, h.2.1]; exact hi)] at hj
    cases hj
  rw [List.getElem?_set_ne hj1] at hj
  by_cases hji : i = j
  · subst hji
    rw [List.getElem?_set_self (by rw [h.2.1]; omega)] at hj
    cases hj
    exact e2.2.2 (i, em v) (by simp)
  · rw [List.getElem?_set_ne hji] at hj
    obtain ⟨ls2, f1, f2⟩ := lv_store2 (v := em v) (lcs_all h j w hj) hi hc1
    rw [e1] at f1
    cases f1
    refine f2.2.2 (j, em w) (List.mem_cons_of_mem _ (List.mem_filter.mpr ⟨List.mem_singleton.mpr rfl, ?_⟩))
    simp only [Bool.and_eq_true, Bool.not_eq_true', beq_eq_false_iff_ne, ne_eq, Bool.and_eq_false_iff]
    refine ⟨fun q => hji q.symm, fun q => hj1 q.symm, ?_⟩
    by_cases hp : j + 1 = i
    · right
      have hw : wide w = false := by
        unfold okS at ho
        rw [show i - 1 = j by omega, hj] at ho
        simp only [Bool.or_eq_true, beq_iff_eq, Bool.not_eq_true'] at ho
        rcases ho with ho | ho
        · omega
        · exact ho
      rw [em_c1 hw]; decide
    · exact Or.inl hp
theorem s_dstore {M : SIG} {pc i : Nat} {y : UInt64} {L' : List (Option VV)} (hd : decode M.2.1 pc = .ok (.dstore i, 2)) (ho : okS L i = true) (hn : i + 1 < M.2.2.1) (hl : (L.set i (some (vD y))).set (i + 1) none = L') (k : At G M rm uc us (pc + 2) L' S σ K) : At G M rm uc us pc L (vD y :: S) σ K := by
  subst hl
  intro p e s m args below meth c H locs ls C h1 h2 h3 h4
  obtain ⟨ls', e', h'⟩ := lcs_st2 (v := vD y) h4 rfl ho hn
  intro T hT X
  obtain ⟨t, a, b⟩ := k p e s m args below meth c H locs ls' C h1 h2 h3 h' T hT X
  refine ⟨t, ?_, b⟩
  have hx := C.1
  have hb := C.2.1
  have e' : storeLocals ls i (.double y) = some ls' := e'
  simp only [List.map_cons, em]
  jvm_step X.here [X.here.top, ↓top_set X.here.top, hx, hb, hd, Op.dstore.sem, e']
  exact a
theorem law_tF (gk : GOK G) {w : UInt32} (h2 : LI b0 Ln xs x (c + 1) σ2) (h6 : mi σ2 (x + 788) 6 = z) (hφ : z = 0 → vf_n32 w ∧ vf_n64 (FP.f2d w) ∧ md σ2 (x + 797) 0 = FP.f2d w) (huc : uc + 31 ≤ 603072) (hus : us + 4206 ≤ 7198826) (k : At G mL_law room_1 (uc + 31) (us + 4206) 2975 [l0, l1, some (vR (some (x + 788))), some (vR (some (x + 796))), some (vR (some (x + 797))), l5, none, none, none] [] σ2 K) : At G mL_law room_1 (uc + 31) (us + 4206) 2384 [l0, l1, some (vR (some (x + 788))), some (vR (some (x + 796))), some (vR (some (x + 797))), l5, some (vI z), none, none] [vF w] σ2 K := by
  have ht := ev_tail h2
  revert k
  generalize uc + 31 = uc at huc ⊢
  generalize us + 4206 = us at hus ⊢
  intro k
  refine s_fstore dL_law_2384 rfl (Nat.le_of_ble_eq_true rfl) rfl ?_
  refine s_aload_n (i := 2) dL_law_2386 rfl rfl ?_
  refine s_callV (ci := 9) (Y := mX9_thrown) (rmY := rX9_thrown) (as := []) (S := []) gk dL_law_2387 gL_170 (by decide) rfl w_1591 w_1592 ht.1 rfl rfl (by decide) ⟨Nat.le_of_ble_eq_true rfl, Nat.le_of_ble_eq_true rfl, Nat.le_trans (le0 (Nat.le_of_ble_eq_true rfl)) huc, Nat.le_trans (le0 (Nat.le_of_ble_eq_true rfl)) hus⟩ (kX9_thrown gk ht.2.2.2 ?_)
  rw [h6]
  refine At.widen (uc' := uc) (us' := us) (?_ : At G mL_law room_1 _ _ 2390 _ [vI _] _ K) (le0 (Nat.le_of_ble_eq_true rfl)) (le0 (Nat.le_of_ble_eq_true rfl))
  refine s_iload dL_law_2390 rfl ?_
  refine s_icmp_eq (tgt := 2397) dL_law_2392 rfl (fun _ => ?_) (fun g => absurd rfl g)
  refine s_iload dL_law_2397 rfl ?_
  have hk := s_goto (tgt := 2975) (L := [l0, l1, some (vR (some (x + 788))), some (vR (some (x + 796))), some (vR (some (x + 797))), l5, some (vI z), some (vF w), none]) dL_law_2435 rfl (law_end k)
  refine s_if_ne (tgt := 2435) dL_law_2399 rfl (fun _ => hk) (fun g => ?_)
  obtain ⟨n1, n2, e⟩ := hφ g
  refine s_aload dL_law_2402 rfl ?_
  refine s_iconst (v := 0) dL_law_2404 (by decide) ?_
  refine s_dald gk dL_law_2405 ht.2.2.1 vin1 ?_
  refine s_fload dL_law_2406 rfl ?_
  refine s_f2d dL_law_2408 n2 ?_
  refine s_dcmp dL_law_2409 ?_
  refine s_if_eq (tgt := 2435) dL_law_2410 rfl (fun _ => hk) (fun g' => absurd ?_ g')
  show Op.cmpValue (FP.dcmp (md σ2 (x + 797) 0) (FP.f2d w)) _ = 0
  rw [e]; exact dc_self n2
theorem law_tD (gk : GOK G) {w : UInt64} (h2 : LI b0 Ln xs x (c + 1) σ2) (h6 : mi σ2 (x + 788) 6 = z) (hφ : z = 0 → vf_n64 w ∧ md σ2 (x + 797) 0 = w) (huc : uc + 31 ≤ 603072) (hus : us + 4206 ≤ 7198826) (k : At G mL_law room_1 (uc + 31) (us + 4206) 2975 [l0, l1, some (vR (some (x + 788))), some (vR (some (x + 796))), some (vR (some (x + 797))), l5, none, none, none] [] σ2 K) : At G mL_law room_1 (uc + 31) (us + 4206) 2450 [l0, l1, some (vR (some (x + 788))), some (vR (some (x + 796))), some (vR (some (x + 797))), l5, some (vI z), none, none] [vD w] σ2 K := by
  have ht := ev_tail h2
  revert k
  generalize uc + 31 = uc at huc ⊢
  generalize us + 4206 = us at hus ⊢
  intro k
  refine s_dstore dL_law_2450 rfl (Nat.le_of_ble_eq_true rfl) rfl ?_
  refine s_aload_n (i := 2) dL_law_2452 rfl rfl ?_
  refine s_callV (ci := 9) (Y := mX9_thrown) (rmY := rX9_thrown) (as := []) (S := []) gk dL_law_2453 gL_170 (by decide) rfl w_1591 w_1592 ht.1 rfl rfl (by decide) ⟨Nat.le_of_ble_eq_true rfl, Nat.le_of_ble_eq_true rfl, Nat.le_trans (le0 (Nat.le_of_ble_eq_true rfl)) huc, Nat.le_trans (le0 (Nat.le_of_ble_eq_true rfl)) hus⟩ (kX9_thrown gk ht.2.2.2 ?_)
  rw [h6]
  refine At.widen (uc' := uc) (us' := us) (?_ : At G mL_law room_1 _ _ 2456 _ [vI _] _ K) (le0 (Nat.le_of_ble_eq_true rfl)) (le0 (Nat.le_of_ble_eq_true rfl))
  refine s_iload dL_law_2456 rfl ?_
  refine s_icmp_eq (tgt := 2463) dL_law_2458 rfl (fun _ => ?_) (fun g => absurd rfl g)
  refine s_iload dL_law_2463 rfl ?_
  have hk := s_goto (tgt := 2975) (L := [l0, l1, some (vR (some (x + 788))), some (vR (some (x + 796))), some (vR (some (x + 797))), l5, some (vI z), some (vD w), none]) dL_law_2500 rfl (law_end k)
  refine s_if_ne (tgt := 2500) dL_law_2465 rfl (fun _ => hk) (fun g => ?_)
  obtain ⟨n2, e⟩ := hφ g
  refine s_aload dL_law_2468 rfl ?_
  refine s_iconst (v := 0) dL_law_2470 (by decide) ?_
  refine s_dald gk dL_law_2471 ht.2.2.1 vin1 ?_
  refine s_dload dL_law_2472 rfl ?_
  refine s_dcmp dL_law_2474 ?_
  refine s_if_eq (tgt := 2500) dL_law_2475 rfl (fun _ => hk) (fun g' => absurd ?_ g')
  show Op.cmpValue (FP.dcmp (md σ2 (x + 797) 0) w) _ = 0
  rw [e]; exact dc_self n2
theorem law_c0 (ok : OKS G) (h : LI b0 Ln xs x c σ) (hcL : 4 * c + 4 ≤ Ln) (hL : Ln ≤ 2048) (huc : uc + 31 ≤ 603072) (hus : us + 4206 ≤ 7198826) (kk : ∀ σ', LI b0 Ln xs x (c + 1) σ' → At G mL_law room_1 (uc + 31) (us + 4206) 2975 [some (vR (some b0)), some (vR (some x)), some (vR (some (x + 788))), some (vR (some (x + 796))), some (vR (some (x + 797))), some (vI (nI (4 * c))), none, none, none] [] σ' K) : At G mL_law room_1 uc us 256 [some (vR (some b0)), some (vR (some x)), some (vR (some (x + 788))), some (vR (some (x + 796))), some (vR (some (x + 797))), some (vI (nI (4 * c))), none, none, none] [] σ K := by
  have gk := ok.1
  have hc5 : c ≤ 512 := by omega
  obtain ⟨A0, B0, hC0, hM0, hb0, hE0⟩ := id h
  have p1 := hE0.2.1
  have p2 := hE0.2.2.1
  refine s_aload_n (i := 1) dL_law_256 rfl rfl ?_
  refine law_ld (j := 1) lda_257 rfl p1 p2 rfl rfl hcL (by decide) hL ?_
  refine s_i2c (v := i2c _) dL_law_263 rfl ?_
  refine law_ld (j := 2) lda_264 rfl p1 p2 rfl rfl hcL (by decide) hL ?_
  refine s_aload_n (i := 3) dL_law_270 rfl rfl ?_
  refine s_callSH (Y := mL_addJar) (hh := hL_addJar) (rmY := rL_addJar) (as := [vR (some x), vI (i2c (xs (4 * c + 1))), vI (xs (4 * c + 2)), vR (some (x + 796))]) (S := []) gk dL_law_271 (kL_addJar _ _ w_455) w_456 rfl rfl (by decide) ⟨Nat.le_of_ble_eq_true rfl, Nat.le_of_ble_eq_true rfl, Nat.le_trans (Nat.add_le_add_left (Nat.le_of_ble_eq_true rfl) _) huc, Nat.le_trans (Nat.add_le_add_left (Nat.le_of_ble_eq_true rfl) _) hus⟩ ?_
  refine (op_addJar ok h hc5 (isC_i2c _)).mono fun r σ1 h1 => ?_
  obtain ⟨z, rfl, ⟨q1, q2, q3⟩, hrun⟩ := h1
  refine At.widen (uc' := uc + 31) (us' := us + 4206) (?_ : At G mL_law room_1 _ _ 274 _ [vI z] σ1 K) (Nat.add_le_add_left (Nat.le_of_ble_eq_true rfl) _) (Nat.add_le_add_left (Nat.le_of_ble_eq_true rfl) _)
  refine s_istore dL_law_274 rfl (Nat.le_of_ble_eq_true rfl) rfl ?_
  refine s_aload_n (i := 2) dL_law_276 rfl rfl ?_
  refine law_ld (j := 1) lda_277 rfl q1 q2 rfl rfl hcL (by decide) hL ?_
  refine s_i2c (v := i2c _) dL_law_283 rfl ?_
  refine law_ld (j := 2) lda_284 rfl q1 q2 rfl rfl hcL (by decide) hL ?_
  refine s_callV (ci := 9) (Y := mX9_addJar) (rmY := rX9_addJar) (as := [vI (i2c (xs (4 * c + 1))), vI (xs (4 * c + 2))]) (S := []) gk dL_law_290 gL_169 (by decide) rfl w_1595 w_1596 q3 rfl rfl (by decide) ⟨Nat.le_of_ble_eq_true rfl, Nat.le_of_ble_eq_true rfl, Nat.le_trans (le0 (Nat.le_of_ble_eq_true rfl)) huc, Nat.le_trans (le0 (Nat.le_of_ble_eq_true rfl)) hus⟩ (hrun _ fun w σ2 h2 h6 hφ => ?_)
  exact At.widen (uc' := uc + 31) (us' := us + 4206) (law_tI gk tli_293 rfl h2 h6 hφ huc hus (kk σ2 h2)) (le0 (Nat.le_of_ble_eq_true rfl)) (le0 (Nat.le_of_ble_eq_true rfl))
theorem law_c1 (ok : OKS G) (h : LI b0 Ln xs x c σ) (hcL : 4 * c + 4 ≤ Ln) (hL : Ln ≤ 2048) (huc : uc + 31 ≤ 603072) (hus : us + 4206 ≤ 7198826) (kk : ∀ σ', LI b0 Ln xs x (c + 1) σ' → At G mL_law room_1 (uc + 31) (us + 4206) 2975 [some (vR (some b0)), some (vR (some x)), some (vR (some (x + 788))), some (vR (some (x + 796))), some (vR (some (x + 797))), some (vI (nI (4 * c))), none, none, none] [] σ' K) : At G mL_law room_1 uc us 326 [some (vR (some b0)), some (vR (some x)), some (vR (some (x + 788))), some (vR (some (x + 796))), some (vR (some (x + 797))), some (vI (nI (4 * c))), none, none, none] [] σ K := by
  have gk := ok.1
  have hc5 : c ≤ 512 := by omega
  obtain ⟨A0, B0, hC0, hM0, hb0, hE0⟩ := id h
  have p1 := hE0.2.1
  have p2 := hE0.2.2.1
  refine s_aload_n (i := 1) dL_law_326 rfl rfl ?_
  refine law_ld (j := 1) lda_327 rfl p1 p2 rfl rfl hcL (by decide) hL ?_
  refine s_i2c (v := i2c _) dL_law_333 rfl ?_
  refine s_aload_n (i := 3) dL_law_334 rfl rfl ?_
  refine s_callSH (Y := mL_removeJar) (hh := hL_removeJar) (rmY := rL_removeJar) (as := [vR (some x), vI (i2c (xs (4 * c + 1))), vR (some (x + 796))]) (S := []) gk dL_law_335 (kL_removeJar _ _ w_619) w_620 rfl rfl (by decide) ⟨Nat.le_of_ble_eq_true rfl, Nat.le_of_ble_eq_true rfl, Nat.le_trans (Nat.add_le_add_left (Nat.le_of_ble_eq_true rfl) _) huc, Nat.le_trans (Nat.add_le_add_left (Nat.le_of_ble_eq_true rfl) _) hus⟩ ?_
  refine (op_removeJar ok h hc5 (isC_i2c _)).mono fun r σ1 h1 => ?_
  obtain ⟨z, rfl, ⟨q1, q2, q3⟩, hrun⟩ := h1
  refine At.widen (uc' := uc + 31) (us' := us + 4206) (?_ : At G mL_law room_1 _ _ 338 _ [vI z] σ1 K) (Nat.add_le_add_left (Nat.le_of_ble_eq_true rfl) _) (Nat.add_le_add_left (Nat.le_of_ble_eq_true rfl) _)
  refine s_istore dL_law_338 rfl (Nat.le_of_ble_eq_true rfl) rfl ?_
  refine s_aload_n (i := 2) dL_law_340 rfl rfl ?_
  refine law_ld (j := 1) lda_341 rfl q1 q2 rfl rfl hcL (by decide) hL ?_
  refine s_i2c (v := i2c _) dL_law_347 rfl ?_
  refine s_callV (ci := 9) (Y := mX9_removeJar) (rmY := rX9_removeJar) (as := [vI (i2c (xs (4 * c + 1)))]) (S := []) gk dL_law_348 gL_176 (by decide) rfl w_1633 w_1634 q3 rfl rfl (by decide) ⟨Nat.le_of_ble_eq_true rfl, Nat.le_of_ble_eq_true rfl, Nat.le_trans (le0 (Nat.le_of_ble_eq_true rfl)) huc, Nat.le_trans (le0 (Nat.le_of_ble_eq_true rfl)) hus⟩ (hrun _ fun w σ2 h2 h6 hφ => ?_)
  exact At.widen (uc' := uc + 31) (us' := us + 4206) (law_tI gk tli_351 rfl h2 h6 hφ huc hus (kk σ2 h2)) (le0 (Nat.le_of_ble_eq_true rfl)) (le0 (Nat.le_of_ble_eq_true rfl))
theorem law_c2 (ok : OKS G) (h : LI b0 Ln xs x c σ) (hcL : 4 * c + 4 ≤ Ln) (hL : Ln ≤ 2048) (huc : uc + 31 ≤ 603072) (hus : us + 4206 ≤ 7198826) (kk : ∀ σ', LI b0 Ln xs x (c + 1) σ' → At G mL_law room_1 (uc + 31) (us + 4206) 2975 [some (vR (some b0)), some (vR (some x)), some (vR (some (x + 788))), some (vR (some (x + 796))), some (vR (some (x + 797))), some (vI (nI (4 * c))), none, none, none] [] σ' K) : At G mL_law room_1 uc us 384 [some (vR (some b0)), some (vR (some x)), some (vR (some (x + 788))), some (vR (some (x + 796))), some (vR (some (x + 797))), some (vI (nI (4 * c))), none, none, none] [] σ K := by
  have gk := ok.1
  have hc5 : c ≤ 512 := by omega
  obtain ⟨A0, B0, hC0, hM0, hb0, hE0⟩ := id h
  have p1 := hE0.2.1
  have p2 := hE0.2.2.1
  refine s_aload_n (i := 1) dL_law_384 rfl rfl ?_
  refine law_ld (j := 1) lda_385 rfl p1 p2 rfl rfl hcL (by decide) hL ?_
  refine s_i2c (v := i2c _) dL_law_391 rfl ?_
  refine law_ld (j := 2) lda_392 rfl p1 p2 rfl rfl hcL (by decide) hL ?_
  refine s_aload_n (i := 3) dL_law_398 rfl rfl ?_
  refine s_callSH (Y := mL_say) (hh := hL_say) (rmY := rL_say) (as := [vR (some x), vI (i2c (xs (4 * c + 1))), vI (xs (4 * c + 2)), vR (some (x + 796))]) (S := []) gk dL_law_399 (kL_say _ _ w_647) w_648 rfl rfl (by decide) ⟨Nat.le_of_ble_eq_true rfl, Nat.le_of_ble_eq_true rfl, Nat.le_trans (Nat.add_le_add_left (Nat.le_of_ble_eq_true rfl) _) huc, Nat.le_trans (Nat.add_le_add_left (Nat.le_of_ble_eq_true rfl) _) hus⟩ ?_
  refine (op_say ok h hc5 (isC_i2c _)).mono fun r σ1 h1 => ?_
  obtain ⟨z, rfl, ⟨q1, q2, q3⟩, hrun⟩ := h1
  refine At.widen (uc' := uc + 31) (us' := us + 4206) (?_ : At G mL_law room_1 _ _ 402 _ [vI z] σ1 K) (Nat.add_le_add_left (Nat.le_of_ble_eq_true rfl) _) (Nat.add_le_add_left (Nat.le_of_ble_eq_true rfl) _)
  refine s_istore dL_law_402 rfl (Nat.le_of_ble_eq_true rfl) rfl ?_
  refine s_aload_n (i := 2) dL_law_404 rfl rfl ?_
  refine law_ld (j := 1) lda_405 rfl q1 q2 rfl rfl hcL (by decide) hL ?_
  refine s_i2c (v := i2c _) dL_law_411 rfl ?_
  refine law_ld (j := 2) lda_412 rfl q1 q2 rfl rfl hcL (by decide) hL ?_
  refine s_callV (ci := 9) (Y := mX9_say) (rmY := rX9_say) (as := [vI (i2c (xs (4 * c + 1))), vI (xs (4 * c + 2))]) (S := []) gk dL_law_418 gL_179 (by decide) rfl w_1644 w_1645 q3 rfl rfl (by decide) ⟨Nat.le_of_ble_eq_true rfl, Nat.le_of_ble_eq_true rfl, Nat.le_trans (le0 (Nat.le_of_ble_eq_true rfl)) huc, Nat.le_trans (le0 (Nat.le_of_ble_eq_true rfl)) hus⟩ (hrun _ fun w σ2 h2 h6 hφ => ?_)
  exact At.widen (uc' := uc + 31) (us' := us + 4206) (law_tI gk tli_421 rfl h2 h6 hφ huc hus (kk σ2 h2)) (le0 (Nat.le_of_ble_eq_true rfl)) (le0 (Nat.le_of_ble_eq_true rfl))
theorem law_c3 (ok : OKS G) (h : LI b0 Ln xs x c σ) (hcL : 4 * c + 4 ≤ Ln) (hL : Ln ≤ 2048) (huc : uc + 31 ≤ 603072) (hus : us + 4206 ≤ 7198826) (kk : ∀ σ', LI b0 Ln xs x (c + 1) σ' → At G mL_law room_1 (uc + 31) (us + 4206) 2975 [some (vR (some b0)), some (vR (some x)), some (vR (some (x + 788))), some (vR (some (x + 796))), some (vR (some (x + 797))), some (vI (nI (4 * c))), none, none, none] [] σ' K) : At G mL_law room_1 uc us 454 [some (vR (some b0)), some (vR (some x)), some (vR (some (x + 788))), some (vR (some (x + 796))), some (vR (some (x + 797))), some (vI (nI (4 * c))), none, none, none] [] σ K := by
  have gk := ok.1
  have hc5 : c ≤ 512 := by omega
  obtain ⟨A, b, hC, hM, hb, hE⟩ := id h
  have hR : RS σ (x + 1) (mi σ (x + 788 + 1)) b := by rw [hM.2.1]; exact hC.2.1
  have hbl := hb.lt hc5
  refine s_aload_n (i := 1) dL_law_454 rfl rfl ?_
  refine s_callV (ci := 8) (Y := mX8_jarCount) (rmY := rX8_jarCount) (as := []) (S := []) gk dL_law_455 gL_180 (by decide) rfl w_360 w_361 hC.1.1 rfl rfl (by decide) ⟨Nat.le_of_ble_eq_true rfl, Nat.le_of_ble_eq_true rfl, Nat.le_trans (Nat.add_le_add_left (Nat.le_of_ble_eq_true rfl) _) huc, Nat.le_trans (Nat.add_le_add_left (Nat.le_of_ble_eq_true rfl) _) hus⟩ (c_jarCount gk hC.1 hR ?_)
  refine At.widen (uc' := uc + 31) (us' := us + 4206) (?_ : At G mL_law room_1 _ _ 458 _ [vI _] σ K) (Nat.add_le_add_left (Nat.le_of_ble_eq_true rfl) _) (Nat.add_le_add_left (Nat.le_of_ble_eq_true rfl) _)
  refine s_aload_n (i := 2) dL_law_458 rfl rfl ?_
  refine s_callV (ci := 9) (Y := mX9_jarCount) (rmY := rX9_jarCount) (as := []) (S := [vI _]) gk dL_law_459 gL_183 (by decide) rfl w_1656 w_1657 hM.1.ty rfl rfl (Nat.le_of_ble_eq_true rfl) ⟨Nat.le_of_ble_eq_true rfl, Nat.le_of_ble_eq_true rfl, Nat.le_trans (le0 (Nat.le_of_ble_eq_true rfl)) huc, Nat.le_trans (le0 (Nat.le_of_ble_eq_true rfl)) hus⟩ (kX9_jarCount gk hM.1 ?_)
  refine At.widen (uc' := uc + 31) (us' := us + 4206) (?_ : At G mL_law room_1 _ _ 462 _ [vI _, vI _] _ K) (le0 (Nat.le_of_ble_eq_true rfl)) (le0 (Nat.le_of_ble_eq_true rfl))
  exact s_icmp_eq (tgt := 2975) dL_law_462 rfl (fun _ => kk _ (law_th hE hC hM hb)) (fun g => absurd rfl g)
theorem law_c4 (ok : OKS G) (h : LI b0 Ln xs x c σ) (hcL : 4 * c + 4 ≤ Ln) (hL : Ln ≤ 2048) (huc : uc + 31 ≤ 603072) (hus : us + 4206 ≤ 7198826) (kk : ∀ σ', LI b0 Ln xs x (c + 1) σ' → At G mL_law room_1 (uc + 31) (us + 4206) 2975 [some (vR (some b0)), some (vR (some x)), some (vR (some (x + 788))), some (vR (some (x + 796))), some (vR (some (x + 797))), some (vI (nI (4 * c))), none, none, none] [] σ' K) : At G mL_law room_1 uc us 467 [some (vR (some b0)), some (vR (some x)), some (vR (some (x + 788))), some (vR (some (x + 796))), some (vR (some (x + 797))), some (vI (nI (4 * c))), none, none, none] [] σ K := by
  have gk := ok.1
  have hc5 : c ≤ 512 := by omega
  obtain ⟨A0, B0, hC0, hM0, hb0, hE0⟩ := id h
  have p1 := hE0.2.1
  have p2 := hE0.2.2.1
  refine s_aload_n (i := 1) dL_law_467 rfl rfl ?_
  refine law_ld (j := 1) lda_468 rfl p1 p2 rfl rfl hcL (by decide) hL ?_
  refine s_aload_n (i := 3) dL_law_474 rfl rfl ?_
  refine s_callSH (Y := mL_jarAt) (hh := hL_jarAt) (rmY := rL_jarAt) (as := [vR (some x), vI (xs (4 * c + 1)), vR (some (x + 796))]) (S := []) gk dL_law_475 (kL_jarAt _ _ w_667) w_668 rfl rfl (by decide) ⟨Nat.le_of_ble_eq_true rfl, Nat.le_of_ble_eq_true rfl, Nat.le_trans (Nat.add_le_add_left (Nat.le_of_ble_eq_true rfl) _) huc, Nat.le_trans (Nat.add_le_add_left (Nat.le_of_ble_eq_true rfl) _) hus⟩ ?_
  refine (op_jarAt ok h).mono fun r σ1 h1 => ?_
  obtain ⟨z, rfl, ⟨q1, q2, q3⟩, hrun⟩ := h1
  refine At.widen (uc' := uc + 31) (us' := us + 4206) (?_ : At G mL_law room_1 _ _ 478 _ [vI z] σ1 K) (Nat.add_le_add_left (Nat.le_of_ble_eq_true rfl) _) (Nat.add_le_add_left (Nat.le_of_ble_eq_true rfl) _)
  refine s_istore dL_law_478 rfl (Nat.le_of_ble_eq_true rfl) rfl ?_
  refine s_aload_n (i := 2) dL_law_480 rfl rfl ?_
  refine law_ld (j := 1) lda_481 rfl q1 q2 rfl rfl hcL (by decide) hL ?_
  refine s_callV (ci := 9) (Y := mX9_jarAt) (rmY := rX9_jarAt) (as := [vI (xs (4 * c + 1))]) (S := []) gk dL_law_487 gL_187 (by decide) rfl w_1660 w_1661 q3 rfl rfl (by decide) ⟨Nat.le_of_ble_eq_true rfl, Nat.le_of_ble_eq_true rfl, Nat.le_trans (le0 (Nat.le_of_ble_eq_true rfl)) huc, Nat.le_trans (le0 (Nat.le_of_ble_eq_true rfl)) hus⟩ (hrun _ fun w σ2 h2 h6 hφ => ?_)
  exact At.widen (uc' := uc + 31) (us' := us + 4206) (law_tI gk tli_490 rfl h2 h6 hφ huc hus (kk σ2 h2)) (le0 (Nat.le_of_ble_eq_true rfl)) (le0 (Nat.le_of_ble_eq_true rfl))
theorem law_c5 (ok : OKS G) (h : LI b0 Ln xs x c σ) (hcL : 4 * c + 4 ≤ Ln) (hL : Ln ≤ 2048) (huc : uc + 31 ≤ 603072) (hus : us + 4206 ≤ 7198826) (kk : ∀ σ', LI b0 Ln xs x (c + 1) σ' → At G mL_law room_1 (uc + 31) (us + 4206) 2975 [some (vR (some b0)), some (vR (some x)), some (vR (some (x + 788))), some (vR (some (x + 796))), some (vR (some (x + 797))), some (vI (nI (4 * c))), none, none, none] [] σ' K) : At G mL_law room_1 uc us 523 [some (vR (some b0)), some (vR (some x)), some (vR (some (x + 788))), some (vR (some (x + 796))), some (vR (some (x + 797))), some (vI (nI (4 * c))), none, none, none] [] σ K := by
  have gk := ok.1
  have hc5 : c ≤ 512 := by omega
  obtain ⟨A0, B0, hC0, hM0, hb0, hE0⟩ := id h
  have p1 := hE0.2.1
  have p2 := hE0.2.2.1
  refine s_aload_n (i := 1) dL_law_523 rfl rfl ?_
  refine law_ld (j := 1) lda_524 rfl p1 p2 rfl rfl hcL (by decide) hL ?_
  refine s_i2c (v := i2c _) dL_law_530 rfl ?_
  refine s_aload_n (i := 3) dL_law_531 rfl rfl ?_
  refine s_callSH (Y := mL_wordOf) (hh := hL_wordOf) (rmY := rL_wordOf) (as := [vR (some x), vI (i2c (xs (4 * c + 1))), vR (some (x + 796))]) (S := []) gk dL_law_532 (kL_wordOf _ _ w_700) w_701 rfl rfl (by decide) ⟨Nat.le_of_ble_eq_true rfl, Nat.le_of_ble_eq_true rfl, Nat.le_trans (Nat.add_le_add_left (Nat.le_of_ble_eq_true rfl) _) huc, Nat.le_trans (Nat.add_le_add_left (Nat.le_of_ble_eq_true rfl) _) hus⟩ ?_
  refine (op_wordOf ok h (isC_i2c _)).mono fun r σ1 h1 => ?_
  obtain ⟨z, rfl, ⟨q1, q2, q3⟩, hrun⟩ := h1
  refine At.widen (uc' := uc + 31) (us' := us + 4206) (?_ : At G mL_law room_1 _ _ 535 _ [vI z] σ1 K) (Nat.add_le_add_left (Nat.le_of_ble_eq_true rfl) _) (Nat.add_le_add_left (Nat.le_of_ble_eq_true rfl) _)
  refine s_istore dL_law_535 rfl (Nat.le_of_ble_eq_true rfl) rfl ?_
  refine s_aload_n (i := 2) dL_law_537 rfl rfl ?_
  refine law_ld (j := 1) lda_538 rfl q1 q2 rfl rfl hcL (by decide) hL ?_
  refine s_i2c (v := i2c _) dL_law_544 rfl ?_
  refine s_callV (ci := 9) (Y := mX9_wordOf) (rmY := rX9_wordOf) (as := [vI (i2c (xs (4 * c + 1)))]) (S := []) gk dL_law_545 gL_190 (by decide) rfl w_1668 w_1669 q3 rfl rfl (by decide) ⟨Nat.le_of_ble_eq_true rfl, Nat.le_of_ble_eq_true rfl, Nat.le_trans (le0 (Nat.le_of_ble_eq_true rfl)) huc, Nat.le_trans (le0 (Nat.le_of_ble_eq_true rfl)) hus⟩ (hrun _ fun w σ2 h2 h6 hφ => ?_)
  exact At.widen (uc' := uc + 31) (us' := us + 4206) (law_tI gk tli_548 rfl h2 h6 hφ huc hus (kk σ2 h2)) (le0 (Nat.le_of_ble_eq_true rfl)) (le0 (Nat.le_of_ble_eq_true rfl))
theorem law_c6 (ok : OKS G) (h : LI b0 Ln xs x c σ) (hcL : 4 * c + 4 ≤ Ln) (hL : Ln ≤ 2048) (huc : uc + 31 ≤ 603072) (hus : us + 4206 ≤ 7198826) (kk : ∀ σ', LI b0 Ln xs x (c + 1) σ' → At G mL_law room_1 (uc + 31) (us + 4206) 2975 [some (vR (some b0)), some (vR (some x)), some (vR (some (x + 788))), some (vR (some (x + 796))), some (vR (some (x + 797))), some (vI (nI (4 * c))), none, none, none] [] σ' K) : At G mL_law room_1 uc us 581 [some (vR (some b0)), some (vR (some x)), some (vR (some (x + 788))), some (vR (some (x + 796))), some (vR (some (x + 797))), some (vI (nI (4 * c))), none, none, none] [] σ K := by
  have gk := ok.1
  have hc5 : c ≤ 512 := by omega
  obtain ⟨A0, B0, hC0, hM0, hb0, hE0⟩ := id h
  have p1 := hE0.2.1
  have p2 := hE0.2.2.1
  refine s_aload_n (i := 1) dL_law_581 rfl rfl ?_
  refine law_ld (j := 1) lda_582 rfl p1 p2 rfl rfl hcL (by decide) hL ?_
  refine law_ld (j := 2) lda_588 rfl p1 p2 rfl rfl hcL (by decide) hL ?_
  refine law_ld (j := 3) lda_594 rfl p1 p2 rfl rfl hcL (by decide) hL ?_
  refine s_i2c (v := i2c _) dL_law_600 rfl ?_
  refine s_aload_n (i := 3) dL_law_601 rfl rfl ?_
  refine s_callSH (Y := mL_addShelf) (hh := hL_addShelf) (rmY := rL_addShelf) (as := [vR (some x), vI (xs (4 * c + 1)), vI (xs (4 * c + 2)), vI (i2c (xs (4 * c + 3))), vR (some (x + 796))]) (S := []) gk dL_law_602 (kL_addShelf _ _ w_712) w_713 rfl rfl (by decide) ⟨Nat.le_of_ble_eq_true rfl, Nat.le_of_ble_eq_true rfl, Nat.le_trans (Nat.add_le_add_left (Nat.le_of_ble_eq_true rfl) _) huc, Nat.le_trans (Nat.add_le_add_left (Nat.le_of_ble_eq_true rfl) _) hus⟩ ?_
  refine (op_addShelf ok h hc5).mono fun r σ1 h1 => ?_
  obtain ⟨z, rfl, ⟨q1, q2, q3⟩, hrun⟩ := h1
  refine At.widen (uc' := uc + 31) (us' := us + 4206) (?_ : At G mL_law room_1 _ _ 605 _ [vI z] σ1 K) (Nat.add_le_add_left (Nat.le_of_ble_eq_true rfl) _) (Nat.add_le_add_left (Nat.le_of_ble_eq_true rfl) _)
  refine s_istore dL_law_605 rfl (Nat.le_of_ble_eq_true rfl) rfl ?_
  refine s_aload_n (i := 2) dL_law_607 rfl rfl ?_
  refine law_ld (j := 1) lda_608 rfl q1 q2 rfl rfl hcL (by decide) hL ?_
  refine law_ld (j := 2) lda_614 rfl q1 q2 rfl rfl hcL (by decide) hL ?_
  refine law_ld (j := 3) lda_620 rfl q1 q2 rfl rfl hcL (by decide) hL ?_
  refine s_i2c (v := i2c _) dL_law_626 rfl ?_
  refine s_callV (ci := 9) (Y := mX9_addShelf) (rmY := rX9_addShelf) (as := [vI (xs (4 * c + 1)), vI (xs (4 * c + 2)), vI (i2c (xs (4 * c + 3)))]) (S := []) gk dL_law_627 gL_194 (by decide) rfl w_1672 w_1673 q3 rfl rfl (by decide) ⟨Nat.le_of_ble_eq_true rfl, Nat.le_of_ble_eq_true rfl, Nat.le_trans (le0 (Nat.le_of_ble_eq_true rfl)) huc, Nat.le_trans (le0 (Nat.le_of_ble_eq_true rfl)) hus⟩ (hrun _ fun w σ2 h2 h6 hφ => ?_)
  exact At.widen (uc' := uc + 31) (us' := us + 4206) (law_tI gk tli_630 rfl h2 h6 hφ huc hus (kk σ2 h2)) (le0 (Nat.le_of_ble_eq_true rfl)) (le0 (Nat.le_of_ble_eq_true rfl))
theorem law_c7 (ok : OKS G) (h : LI b0 Ln xs x c σ) (hcL : 4 * c + 4 ≤ Ln) (hL : Ln ≤ 2048) (huc : uc + 31 ≤ 603072) (hus : us + 4206 ≤ 7198826) (kk : ∀ σ', LI b0 Ln xs x (c + 1) σ' → At G mL_law room_1 (uc + 31) (us + 4206) 2975 [some (vR (some b0)), some (vR (some x)), some (vR (some (x + 788))), some (vR (some (x + 796))), some (vR (some (x + 797))), some (vI (nI (4 * c))), none, none, none] [] σ' K) : At G mL_law room_1 uc us 663 [some (vR (some b0)), some (vR (some x)), some (vR (some (x + 788))), some (vR (some (x + 796))), some (vR (some (x + 797))), some (vI (nI (4 * c))), none, none, none] [] σ K := by
  have gk := ok.1
  have hc5 : c ≤ 512 := by omega
  obtain ⟨A0, B0, hC0, hM0, hb0, hE0⟩ := id h
  have p1 := hE0.2.1
  have p2 := hE0.2.2.1
  refine s_aload_n (i := 1) dL_law_663 rfl rfl ?_
  refine law_ld (j := 1) lda_664 rfl p1 p2 rfl rfl hcL (by decide) hL ?_
  refine law_ld (j := 2) lda_670 rfl p1 p2 rfl rfl hcL (by decide) hL ?_
  refine law_zb zbd_676 ?_
  refine s_aload_n (i := 3) dL_law_684 rfl rfl ?_
  refine s_callSH (Y := mL_setListening) (hh := hL_setListening) (rmY := rL_setListening) (as := [vR (some x), vI (xs (4 * c + 1)), vI (zb (xs (4 * c + 2))), vR (some (x + 796))]) (S := []) gk dL_law_685 (kL_setListening _ _ w_732) w_733 rfl rfl (by decide) ⟨Nat.le_of_ble_eq_true rfl, Nat.le_of_ble_eq_true rfl, Nat.le_trans (Nat.add_le_add_left (Nat.le_of_ble_eq_true rfl) _) huc, Nat.le_trans (Nat.add_le_add_left (Nat.le_of_ble_eq_true rfl) _) hus⟩ ?_
  refine (op_setListening ok h hc5 (zb_z _)).mono fun r σ1 h1 => ?_
  obtain ⟨z, rfl, ⟨q1, q2, q3⟩, hrun⟩ := h1
  refine At.widen (uc' := uc + 31) (us' := us + 4206) (?_ : At G mL_law room_1 _ _ 688 _ [vI z] σ1 K) (Nat.add_le_add_left (Nat.le_of_ble_eq_true rfl) _) (Nat.add_le_add_left (Nat.le_of_ble_eq_true rfl) _)
  refine s_istore dL_law_688 rfl (Nat.le_of_ble_eq_true rfl) rfl ?_
  refine s_aload_n (i := 2) dL_law_690 rfl rfl ?_
  refine law_ld (j := 1) lda_691 rfl q1 q2 rfl rfl hcL (by decide) hL ?_
  refine law_ld (j := 2) lda_697 rfl q1 q2 rfl rfl hcL (by decide) hL ?_
  refine law_zb zbd_703 ?_
  refine s_callV (ci := 9) (Y := mX9_setListening) (rmY := rX9_setListening) (as := [vI (xs (4 * c + 1)), vI (zb (xs (4 * c + 2)))]) (S := []) gk dL_law_711 gL_198 (by decide) rfl w_1680 w_1681 q3 rfl rfl (by decide) ⟨Nat.le_of_ble_eq_true rfl, Nat.le_of_ble_eq_true rfl, Nat.le_trans (le0 (Nat.le_of_ble_eq_true rfl)) huc, Nat.le_trans (le0 (Nat.le_of_ble_eq_true rfl)) hus⟩ (hrun _ fun w σ2 h2 h6 hφ => ?_)
  exact At.widen (uc' := uc + 31) (us' := us + 4206) (law_tB gk tlb_714 rfl h2 h6 hφ huc hus (kk σ2 h2)) (le0 (Nat.le_of_ble_eq_true rfl)) (le0 (Nat.le_of_ble_eq_true rfl))
theorem law_c8 (ok : OKS G) (h : LI b0 Ln xs x c σ) (hcL : 4 * c + 4 ≤ Ln) (hL : Ln ≤ 2048) (huc : uc + 31 ≤ 603072) (hus : us + 4206 ≤ 7198826) (kk : ∀ σ', LI b0 Ln xs x (c + 1) σ' → At G mL_law room_1 (uc + 31) (us + 4206) 2975 [some (vR (some b0)), some (vR (some x)), some (vR (some (x + 788))), some (vR (some (x + 796))), some (vR (some (x + 797))), some (vI (nI (4 * c))), none, none, none] [] σ' K) : At G mL_law room_1 uc us 754 [some (vR (some b0)), some (vR (some x)), some (vR (some (x + 788))), some (vR (some (x + 796))), some (vR (some (x + 797))), some (vI (nI (4 * c))), none, none, none] [] σ K := by
  have gk := ok.1
  have hc5 : c ≤ 512 := by omega
  obtain ⟨A, b, hC, hM, hb, hE⟩ := id h
  have hR : RS σ (x + 1) (mi σ (x + 788 + 1)) b := by rw [hM.2.1]; exact hC.2.1
  have hbl := hb.lt hc5
  refine s_aload_n (i := 1) dL_law_754 rfl rfl ?_
  refine s_callV (ci := 8) (Y := mX8_shelfCount) (rmY := rX8_shelfCount) (as := []) (S := []) gk dL_law_755 gL_199 (by decide) rfl w_368 w_369 hC.1.1 rfl rfl (by decide) ⟨Nat.le_of_ble_eq_true rfl, Nat.le_of_ble_eq_true rfl, Nat.le_trans (Nat.add_le_add_left (Nat.le_of_ble_eq_true rfl) _) huc, Nat.le_trans (Nat.add_le_add_left (Nat.le_of_ble_eq_true rfl) _) hus⟩ (c_shelfCount gk hC.1 hR ?_)
  refine At.widen (uc' := uc + 31) (us' := us + 4206) (?_ : At G mL_law room_1 _ _ 758 _ [vI _] σ K) (Nat.add_le_add_left (Nat.le_of_ble_eq_true rfl) _) (Nat.add_le_add_left (Nat.le_of_ble_eq_true rfl) _)
  refine s_aload_n (i := 2) dL_law_758 rfl rfl ?_
  refine s_callV (ci := 9) (Y := mX9_shelfCount) (rmY := rX9_shelfCount) (as := []) (S := [vI _]) gk dL_law_759 gL_202 (by decide) rfl w_1692 w_1693 hM.1.ty rfl rfl (Nat.le_of_ble_eq_true rfl) ⟨Nat.le_of_ble_eq_true rfl, Nat.le_of_ble_eq_true rfl, Nat.le_trans (le0 (Nat.le_of_ble_eq_true rfl)) huc, Nat.le_trans (le0 (Nat.le_of_ble_eq_true rfl)) hus⟩ (kX9_shelfCount gk hM.1 ?_)
  refine At.widen (uc' := uc + 31) (us' := us + 4206) (?_ : At G mL_law room_1 _ _ 762 _ [vI _, vI _] _ K) (le0 (Nat.le_of_ble_eq_true rfl)) (le0 (Nat.le_of_ble_eq_true rfl))
  exact s_icmp_eq (tgt := 2975) dL_law_762 rfl (fun _ => kk _ (law_th hE hC hM hb)) (fun g => absurd rfl g)
theorem law_c9 (ok : OKS G) (h : LI b0 Ln xs x c σ) (hcL : 4 * c + 4 ≤ Ln) (hL : Ln ≤ 2048) (huc : uc + 31 ≤ 603072) (hus : us + 4206 ≤ 7198826) (kk : ∀ σ', LI b0 Ln xs x (c + 1) σ' → At G mL_law room_1 (uc + 31) (us + 4206) 2975 [some (vR (some b0)), some (vR (some x)), some (vR (some (x + 788))), some (vR (some (x + 796))), some (vR (some (x + 797))), some (vI (nI (4 * c))), none, none, none] [] σ' K) : At G mL_law room_1 uc us 767 [some (vR (some b0)), some (vR (some x)), some (vR (some (x + 788))), some (vR (some (x + 796))), some (vR (some (x + 797))), some (vI (nI (4 * c))), none, none, none] [] σ K := by
  have gk := ok.1
  have hc5 : c ≤ 512 := by omega
  obtain ⟨A0, B0, hC0, hM0, hb0, hE0⟩ := id h
  have p1 := hE0.2.1
  have p2 := hE0.2.2.1
  refine s_aload_n (i := 1) dL_law_767 rfl rfl ?_
  refine law_ld (j := 1) lda_768 rfl p1 p2 rfl rfl hcL (by decide) hL ?_
  refine s_aload_n (i := 3) dL_law_774 rfl rfl ?_
  refine s_callSH (Y := mL_capacityOf) (hh := hL_capacityOf) (rmY := rL_capacityOf) (as := [vR (some x), vI (xs (4 * c + 1)), vR (some (x + 796))]) (S := []) gk dL_law_775 (kL_capacityOf _ _ w_747) w_748 rfl rfl (by decide) ⟨Nat.le_of_ble_eq_true rfl, Nat.le_of_ble_eq_true rfl, Nat.le_trans (Nat.add_le_add_left (Nat.le_of_ble_eq_true rfl) _) huc, Nat.le_trans (Nat.add_le_add_left (Nat.le_of_ble_eq_true rfl) _) hus⟩ ?_
  refine (op_capacityOf ok h).mono fun r σ1 h1 => ?_
  obtain ⟨z, rfl, ⟨q1, q2, q3⟩, hrun⟩ := h1
  refine At.widen (uc' := uc + 31) (us' := us + 4206) (?_ : At G mL_law room_1 _ _ 778 _ [vI z] σ1 K) (Nat.add_le_add_left (Nat.le_of_ble_eq_true rfl) _) (Nat.add_le_add_left (Nat.le_of_ble_eq_true rfl) _)
  refine s_istore dL_law_778 rfl (Nat.le_of_ble_eq_true rfl) rfl ?_
  refine s_aload_n (i := 2) dL_law_780 rfl rfl ?_
  refine law_ld (j := 1) lda_781 rfl q1 q2 rfl rfl hcL (by decide) hL ?_
  refine s_callV (ci := 9) (Y := mX9_capacityOf) (rmY := rX9_capacityOf) (as := [vI (xs (4 * c + 1))]) (S := []) gk dL_law_787 gL_205 (by decide) rfl w_1696 w_1697 q3 rfl rfl (by decide) ⟨Nat.le_of_ble_eq_true rfl, Nat.le_of_ble_eq_true rfl, Nat.le_trans (le0 (Nat.le_of_ble_eq_true rfl)) huc, Nat.le_trans (le0 (Nat.le_of_ble_eq_true rfl)) hus⟩ (hrun _ fun w σ2 h2 h6 hφ => ?_)
  exact At.widen (uc' := uc + 31) (us' := us + 4206) (law_tI gk tli_790 rfl h2 h6 hφ huc hus (kk σ2 h2)) (le0 (Nat.le_of_ble_eq_true rfl)) (le0 (Nat.le_of_ble_eq_true rfl))
theorem law_c10 (ok : OKS G) (h : LI b0 Ln xs x c σ) (hcL : 4 * c + 4 ≤ Ln) (hL : Ln ≤ 2048) (huc : uc + 31 ≤ 603072) (hus : us + 4206 ≤ 7198826) (kk : ∀ σ', LI b0 Ln xs x (c + 1) σ' → At G mL_law room_1 (uc + 31) (us + 4206) 2975 [some (vR (some b0)), some (vR (some x)), some (vR (some (x + 788))), some (vR (some (x + 796))), some (vR (some (x + 797))), some (vI (nI (4 * c))), none, none, none] [] σ' K) : At G mL_law room_1 uc us 823 [some (vR (some b0)), some (vR (some x)), some (vR (some (x + 788))), some (vR (some (x + 796))), some (vR (some (x + 797))), some (vI (nI (4 * c))), none, none, none] [] σ K := by
  have gk := ok.1
  have hc5 : c ≤ 512 := by omega
  obtain ⟨A0, B0, hC0, hM0, hb0, hE0⟩ := id h
  have p1 := hE0.2.1
  have p2 := hE0.2.2.1
  refine s_aload_n (i := 1) dL_law_823 rfl rfl ?_
  refine law_ld (j := 1) lda_824 rfl p1 p2 rfl rfl hcL (by decide) hL ?_
  refine s_aload_n (i := 3) dL_law_830 rfl rfl ?_
  refine s_callSH (Y := mL_lifetimeOf) (hh := hL_lifetimeOf) (rmY := rL_lifetimeOf) (as := [vR (some x), vI (xs (4 * c + 1)), vR (some (x + 796))]) (S := []) gk dL_law_831 (kL_lifetimeOf _ _ w_754) w_755 rfl rfl (by decide) ⟨Nat.le_of_ble_eq_true rfl, Nat.le_of_ble_eq_true rfl, Nat.le_trans (Nat.add_le_add_left (Nat.le_of_ble_eq_true rfl) _) huc, Nat.le_trans (Nat.add_le_add_left (Nat.le_of_ble_eq_true rfl) _) hus⟩ ?_
  refine (op_lifetimeOf ok h).mono fun r σ1 h1 => ?_
  obtain ⟨z, rfl, ⟨q1, q2, q3⟩, hrun⟩ := h1
  refine At.widen (uc' := uc + 31) (us' := us + 4206) (?_ : At G mL_law room_1 _ _ 834 _ [vI z] σ1 K) (Nat.add_le_add_left (Nat.le_of_ble_eq_true rfl) _) (Nat.add_le_add_left (Nat.le_of_ble_eq_true rfl) _)
  refine s_istore dL_law_834 rfl (Nat.le_of_ble_eq_true rfl) rfl ?_
  refine s_aload_n (i := 2) dL_law_836 rfl rfl ?_
  refine law_ld (j := 1) lda_837 rfl q1 q2 rfl rfl hcL (by decide) hL ?_
  refine s_callV (ci := 9) (Y := mX9_lifetimeOf) (rmY := rX9_lifetimeOf) (as := [vI (xs (4 * c + 1))]) (S := []) gk dL_law_843 gL_208 (by decide) rfl w_1700 w_1701 q3 rfl rfl (by decide) ⟨Nat.le_of_ble_eq_true rfl, Nat.le_of_ble_eq_true rfl, Nat.le_trans (le0 (Nat.le_of_ble_eq_true rfl)) huc, Nat.le_trans (le0 (Nat.le_of_ble_eq_true rfl)) hus⟩ (hrun _ fun w σ2 h2 h6 hφ => ?_)
  exact At.widen (uc' := uc + 31) (us' := us + 4206) (law_tI gk tli_846 rfl h2 h6 hφ huc hus (kk σ2 h2)) (le0 (Nat.le_of_ble_eq_true rfl)) (le0 (Nat.le_of_ble_eq_true rfl))
theorem law_c11 (ok : OKS G) (h : LI b0 Ln xs x c σ) (hcL : 4 * c + 4 ≤ Ln) (hL : Ln ≤ 2048) (huc : uc + 31 ≤ 603072) (hus : us + 4206 ≤ 7198826) (kk : ∀ σ', LI b0 Ln xs x (c + 1) σ' → At G mL_law room_1 (uc + 31) (us + 4206) 2975 [some (vR (some b0)), some (vR (some x)), some (vR (some (x + 788))), some (vR (some (x + 796))), some (vR (some (x + 797))), some (vI (nI (4 * c))), none, none, none] [] σ' K) : At G mL_law room_1 uc us 879 [some (vR (some b0)), some (vR (some x)), some (vR (some (x + 788))), some (vR (some (x + 796))), some (vR (some (x + 797))), some (vI (nI (4 * c))), none, none, none] [] σ K := by
  have gk := ok.1
  have hc5 : c ≤ 512 := by omega
  obtain ⟨A0, B0, hC0, hM0, hb0, hE0⟩ := id h
  have p1 := hE0.2.1
  have p2 := hE0.2.2.1
  refine s_aload_n (i := 1) dL_law_879 rfl rfl ?_
  refine law_ld (j := 1) lda_880 rfl p1 p2 rfl rfl hcL (by decide) hL ?_
  refine s_aload_n (i := 3) dL_law_886 rfl rfl ?_
  refine s_callSH (Y := mL_policyOf) (hh := hL_policyOf) (rmY := rL_policyOf) (as := [vR (some x), vI (xs (4 * c + 1)), vR (some (x + 796))]) (S := []) gk dL_law_887 (kL_policyOf _ _ w_761) w_762 rfl rfl (by decide) ⟨Nat.le_of_ble_eq_true rfl, Nat.le_of_ble_eq_true rfl, Nat.le_trans (Nat.add_le_add_left (Nat.le_of_ble_eq_true rfl) _) huc, Nat.le_trans (Nat.add_le_add_left (Nat.le_of_ble_eq_true rfl) _) hus⟩ ?_
  refine (op_policyOf ok h).mono fun r σ1 h1 => ?_
  obtain ⟨z, rfl, ⟨q1, q2, q3⟩, hrun⟩ := h1
  refine At.widen (uc' := uc + 31) (us' := us + 4206) (?_ : At G mL_law room_1 _ _ 890 _ [vI z] σ1 K) (Nat.add_le_add_left (Nat.le_of_ble_eq_true rfl) _) (Nat.add_le_add_left (Nat.le_of_ble_eq_true rfl) _)
  refine s_istore dL_law_890 rfl (Nat.le_of_ble_eq_true rfl) rfl ?_
  refine s_aload_n (i := 2) dL_law_892 rfl rfl ?_
  refine law_ld (j := 1) lda_893 rfl q1 q2 rfl rfl hcL (by decide) hL ?_
  refine s_callV (ci := 9) (Y := mX9_policyOf) (rmY := rX9_policyOf) (as := [vI (xs (4 * c + 1))]) (S := []) gk dL_law_899 gL_211 (by decide) rfl w_1704 w_1705 q3 rfl rfl (by decide) ⟨Nat.le_of_ble_eq_true rfl, Nat.le_of_ble_eq_true rfl, Nat.le_trans (le0 (Nat.le_of_ble_eq_true rfl)) huc, Nat.le_trans (le0 (Nat.le_of_ble_eq_true rfl)) hus⟩ (hrun _ fun w σ2 h2 h6 hφ => ?_)
  exact At.widen (uc' := uc + 31) (us' := us + 4206) (law_tI gk tli_902 rfl h2 h6 hφ huc hus (kk σ2 h2)) (le0 (Nat.le_of_ble_eq_true rfl)) (le0 (Nat.le_of_ble_eq_true rfl))
theorem law_c12 (ok : OKS G) (h : LI b0 Ln xs x c σ) (hcL : 4 * c + 4 ≤ Ln) (hL : Ln ≤ 2048) (huc : uc + 31 ≤ 603072) (hus : us + 4206 ≤ 7198826) (kk : ∀ σ', LI b0 Ln xs x (c + 1) σ' → At G mL_law room_1 (uc + 31) (us + 4206) 2975 [some (vR (some b0)), some (vR (some x)), some (vR (some (x + 788))), some (vR (some (x + 796))), some (vR (some (x + 797))), some (vI (nI (4 * c))), none, none, none] [] σ' K) : At G mL_law room_1 uc us 935 [some (vR (some b0)), some (vR (some x)), some (vR (some (x + 788))), some (vR (some (x + 796))), some (vR (some (x + 797))), some (vI (nI (4 * c))), none, none, none] [] σ K := by
  have gk := ok.1
  have hc5 : c ≤ 512 := by omega
  obtain ⟨A0, B0, hC0, hM0, hb0, hE0⟩ := id h
  have p1 := hE0.2.1
  have p2 := hE0.2.2.1
  refine s_aload_n (i := 1) dL_law_935 rfl rfl ?_
  refine law_ld (j := 1) lda_936 rfl p1 p2 rfl rfl hcL (by decide) hL ?_
  refine s_aload_n (i := 3) dL_law_942 rfl rfl ?_
  refine s_callSH (Y := mL_isListening) (hh := hL_isListening) (rmY := rL_isListening) (as := [vR (some x), vI (xs (4 * c + 1)), vR (some (x + 796))]) (S := []) gk dL_law_943 (kL_isListening _ _ w_768) w_769 rfl rfl (by decide) ⟨Nat.le_of_ble_eq_true rfl, Nat.le_of_ble_eq_true rfl, Nat.le_trans (Nat.add_le_add_left (Nat.le_of_ble_eq_true rfl) _) huc, Nat.le_trans (Nat.add_le_add_left (Nat.le_of_ble_eq_true rfl) _) hus⟩ ?_
  refine (op_isListening ok h).mono fun r σ1 h1 => ?_
  obtain ⟨z, rfl, ⟨q1, q2, q3⟩, hrun⟩ := h1
  refine At.widen (uc' := uc + 31) (us' := us + 4206) (?_ : At G mL_law room_1 _ _ 946 _ [vI z] σ1 K) (Nat.add_le_add_left (Nat.le_of_ble_eq_true rfl) _) (Nat.add_le_add_left (Nat.le_of_ble_eq_true rfl) _)
  refine s_istore dL_law_946 rfl (Nat.le_of_ble_eq_true rfl) rfl ?_
  refine s_aload_n (i := 2) dL_law_948 rfl rfl ?_
  refine law_ld (j := 1) lda_949 rfl q1 q2 rfl rfl hcL (by decide) hL ?_
  refine s_callV (ci := 9) (Y := mX9_isListening) (rmY := rX9_isListening) (as := [vI (xs (4 * c + 1))]) (S := []) gk dL_law_955 gL_214 (by decide) rfl w_1708 w_1709 q3 rfl rfl (by decide) ⟨Nat.le_of_ble_eq_true rfl, Nat.le_of_ble_eq_true rfl, Nat.le_trans (le0 (Nat.le_of_ble_eq_true rfl)) huc, Nat.le_trans (le0 (Nat.le_of_ble_eq_true rfl)) hus⟩ (hrun _ fun w σ2 h2 h6 hφ => ?_)
  exact At.widen (uc' := uc + 31) (us' := us + 4206) (law_tB gk tlb_958 rfl h2 h6 hφ huc hus (kk σ2 h2)) (le0 (Nat.le_of_ble_eq_true rfl)) (le0 (Nat.le_of_ble_eq_true rfl))
theorem law_c13 (ok : OKS G) (h : LI b0 Ln xs x c σ) (hcL : 4 * c + 4 ≤ Ln) (hL : Ln ≤ 2048) (huc : uc + 31 ≤ 603072) (hus : us + 4206 ≤ 7198826) (kk : ∀ σ', LI b0 Ln xs x (c + 1) σ' → At G mL_law room_1 (uc + 31) (us + 4206) 2975 [some (vR (some b0)), some (vR (some x)), some (vR (some (x + 788))), some (vR (some (x + 796))), some (vR (some (x + 797))), some (vI (nI (4 * c))), none, none, none] [] σ' K) : At G mL_law room_1 uc us 998 [some (vR (some b0)), some (vR (some x)), some (vR (some (x + 788))), some (vR (some (x + 796))), some (vR (some (x + 797))), some (vI (nI (4 * c))), none, none, none] [] σ K := by
  have gk := ok.1
  have hc5 : c ≤ 512 := by omega
  obtain ⟨A0, B0, hC0, hM0, hb0, hE0⟩ := id h
  have p1 := hE0.2.1
  have p2 := hE0.2.2.1
  refine s_aload_n (i := 1) dL_law_998 rfl rfl ?_
  refine law_ld (j := 1) lda_999 rfl p1 p2 rfl rfl hcL (by decide) hL ?_
  refine s_aload_n (i := 3) dL_law_1005 rfl rfl ?_
  refine s_callSH (Y := mL_echoCount) (hh := hL_echoCount) (rmY := rL_echoCount) (as := [vR (some x), vI (xs (4 * c + 1)), vR (some (x + 796))]) (S := []) gk dL_law_1006 (kL_echoCount _ _ w_775) w_776 rfl rfl (by decide) ⟨Nat.le_of_ble_eq_true rfl, Nat.le_of_ble_eq_true rfl, Nat.le_trans (Nat.add_le_add_left (Nat.le_of_ble_eq_true rfl) _) huc, Nat.le_trans (Nat.add_le_add_left (Nat.le_of_ble_eq_true rfl) _) hus⟩ ?_
  refine (op_echoCount ok h).mono fun r σ1 h1 => ?_
  obtain ⟨z, rfl, ⟨q1, q2, q3⟩, hrun⟩ := h1
  refine At.widen (uc' := uc + 31) (us' := us + 4206) (?_ : At G mL_law room_1 _ _ 1009 _ [vI z] σ1 K) (Nat.add_le_add_left (Nat.le_of_ble_eq_true rfl) _) (Nat.add_le_add_left (Nat.le_of_ble_eq_true rfl) _)
  refine s_istore dL_law_1009 rfl (Nat.le_of_ble_eq_true rfl) rfl ?_
  refine s_aload_n (i := 2) dL_law_1011 rfl rfl ?_
  refine law_ld (j := 1) lda_1012 rfl q1 q2 rfl rfl hcL (by decide) hL ?_
  refine s_callV (ci := 9) (Y := mX9_echoCount) (rmY := rX9_echoCount) (as := [vI (xs (4 * c + 1))]) (S := []) gk dL_law_1018 gL_217 (by decide) rfl w_1712 w_1713 q3 rfl rfl (by decide) ⟨Nat.le_of_ble_eq_true rfl, Nat.le_of_ble_eq_true rfl, Nat.le_trans (le0 (Nat.le_of_ble_eq_true rfl)) huc, Nat.le_trans (le0 (Nat.le_of_ble_eq_true rfl)) hus⟩ (hrun _ fun w σ2 h2 h6 hφ => ?_)
  exact At.widen (uc' := uc + 31) (us' := us + 4206) (law_tI gk tli_1021 rfl h2 h6 hφ huc hus (kk σ2 h2)) (le0 (Nat.le_of_ble_eq_true rfl)) (le0 (Nat.le_of_ble_eq_true rfl))
theorem law_c14 (ok : OKS G) (h : LI b0 Ln xs x c σ) (hcL : 4 * c + 4 ≤ Ln) (hL : Ln ≤ 2048) (huc : uc + 31 ≤ 603072) (hus : us + 4206 ≤ 7198826) (kk : ∀ σ', LI b0 Ln xs x (c + 1) σ' → At G mL_law room_1 (uc + 31) (us + 4206) 2975 [some (vR (some b0)), some (vR (some x)), some (vR (some (x + 788))), some (vR (some (x + 796))), some (vR (some (x + 797))), some (vI (nI (4 * c))), none, none, none] [] σ' K) : At G mL_law room_1 uc us 1054 [some (vR (some b0)), some (vR (some x)), some (vR (some (x + 788))), some (vR (some (x + 796))), some (vR (some (x + 797))), some (vI (nI (4 * c))), none, none, none] [] σ K := by
  have gk := ok.1
  have hc5 : c ≤ 512 := by omega
  obtain ⟨A0, B0, hC0, hM0, hb0, hE0⟩ := id h
  have p1 := hE0.2.1
  have p2 := hE0.2.2.1
  refine s_aload_n (i := 1) dL_law_1054 rfl rfl ?_
  refine law_ld (j := 1) lda_1055 rfl p1 p2 rfl rfl hcL (by decide) hL ?_
  refine law_ld (j := 2) lda_1061 rfl p1 p2 rfl rfl hcL (by decide) hL ?_
  refine s_aload_n (i := 3) dL_law_1067 rfl rfl ?_
  refine s_callSH (Y := mL_echoAt) (hh := hL_echoAt) (rmY := rL_echoAt) (as := [vR (some x), vI (xs (4 * c + 1)), vI (xs (4 * c + 2)), vR (some (x + 796))]) (S := []) gk dL_law_1068 (kL_echoAt _ _ w_782) w_783 rfl rfl (by decide) ⟨Nat.le_of_ble_eq_true rfl, Nat.le_of_ble_eq_true rfl, Nat.le_trans (Nat.add_le_add_left (Nat.le_of_ble_eq_true rfl) _) huc, Nat.le_trans (Nat.add_le_add_left (Nat.le_of_ble_eq_true rfl) _) hus⟩ ?_
  refine (op_echoAt ok h).mono fun r σ1 h1 => ?_
  obtain ⟨z, rfl, ⟨q1, q2, q3⟩, hrun⟩ := h1
  refine At.widen (uc' := uc + 31) (us' := us + 4206) (?_ : At G mL_law room_1 _ _ 1071 _ [vI z] σ1 K) (Nat.add_le_add_left (Nat.le_of_ble_eq_true rfl) _) (Nat.add_le_add_left (Nat.le_of_ble_eq_true rfl) _)
  refine s_istore dL_law_1071 rfl (Nat.le_of_ble_eq_true rfl) rfl ?_
  refine s_aload_n (i := 2) dL_law_1073 rfl rfl ?_
  refine law_ld (j := 1) lda_1074 rfl q1 q2 rfl rfl hcL (by decide) hL ?_
  refine law_ld (j := 2) lda_1080 rfl q1 q2 rfl rfl hcL (by decide) hL ?_
  refine s_callV (ci := 9) (Y := mX9_echoAt) (rmY := rX9_echoAt) (as := [vI (xs (4 * c + 1)), vI (xs (4 * c + 2))]) (S := []) gk dL_law_1086 gL_221 (by decide) rfl w_1724 w_1725 q3 rfl rfl (by decide) ⟨Nat.le_of_ble_eq_true rfl, Nat.le_of_ble_eq_true rfl, Nat.le_trans (le0 (Nat.le_of_ble_eq_true rfl)) huc, Nat.le_trans (le0 (Nat.le_of_ble_eq_true rfl)) hus⟩ (hrun _ fun w σ2 h2 h6 hφ => ?_)
  exact At.widen (uc' := uc + 31) (us' := us + 4206) (law_tI gk tli_1089 rfl h2 h6 hφ huc hus (kk σ2 h2)) (le0 (Nat.le_of_ble_eq_true rfl)) (le0 (Nat.le_of_ble_eq_true rfl))
theorem law_c15 (ok : OKS G) (h : LI b0 Ln xs x c σ) (hcL : 4 * c + 4 ≤ Ln) (hL : Ln ≤ 2048) (huc : uc + 31 ≤ 603072) (hus : us + 4206 ≤ 7198826) (kk : ∀ σ', LI b0 Ln xs x (c + 1) σ' → At G mL_law room_1 (uc + 31) (us + 4206) 2975 [some (vR (some b0)), some (vR (some x)), some (vR (some (x + 788))), some (vR (some (x + 796))), some (vR (some (x + 797))), some (vI (nI (4 * c))), none, none, none] [] σ' K) : At G mL_law room_1 uc us 1122 [some (vR (some b0)), some (vR (some x)), some (vR (some (x + 788))), some (vR (some (x + 796))), some (vR (some (x + 797))), some (vI (nI (4 * c))), none, none, none] [] σ K := by
  have gk := ok.1
  have hc5 : c ≤ 512 := by omega
  obtain ⟨A0, B0, hC0, hM0, hb0, hE0⟩ := id h
  have p1 := hE0.2.1
  have p2 := hE0.2.2.1
  refine s_aload_n (i := 1) dL_law_1122 rfl rfl ?_
  refine law_ld (j := 1) lda_1123 rfl p1 p2 rfl rfl hcL (by decide) hL ?_
  refine law_ld (j := 2) lda_1129 rfl p1 p2 rfl rfl hcL (by decide) hL ?_
  refine s_i2c (v := i2c _) dL_law_1135 rfl ?_
  refine s_aload_n (i := 3) dL_law_1136 rfl rfl ?_
  refine s_callSH (Y := mL_hasEcho) (hh := hL_hasEcho) (rmY := rL_hasEcho) (as := [vR (some x), vI (xs (4 * c + 1)), vI (i2c (xs (4 * c + 2))), vR (some (x + 796))]) (S := []) gk dL_law_1137 (kL_hasEcho _ _ w_794) w_795 rfl rfl (by decide) ⟨Nat.le_of_ble_eq_true rfl, Nat.le_of_ble_eq_true rfl, Nat.le_trans (Nat.add_le_add_left (Nat.le_of_ble_eq_true rfl) _) huc, Nat.le_trans (Nat.add_le_add_left (Nat.le_of_ble_eq_true rfl) _) hus⟩ ?_
  refine (op_hasEcho ok h).mono fun r σ1 h1 => ?_
  obtain ⟨z, rfl, ⟨q1, q2, q3⟩, hrun⟩ := h1
  refine At.widen (uc' := uc + 31) (us' := us + 4206) (?_ : At G mL_law room_1 _ _ 1140 _ [vI z] σ1 K) (Nat.add_le_add_left (Nat.le_of_ble_eq_true rfl) _) (Nat.add_le_add_left (Nat.le_of_ble_eq_true rfl) _)
  refine s_istore dL_law_1140 rfl (Nat.le_of_ble_eq_true rfl) rfl ?_
  refine s_aload_n (i := 2) dL_law_1142 rfl rfl ?_
  refine law_ld (j := 1) lda_1143 rfl q1 q2 rfl rfl hcL (by decide) hL ?_
  refine law_ld (j := 2) lda_1149 rfl q1 q2 rfl rfl hcL (by decide) hL ?_
  refine s_i2c (v := i2c _) dL_law_1155 rfl ?_
  refine s_callV (ci := 9) (Y := mX9_hasEcho) (rmY := rX9_hasEcho) (as := [vI (xs (4 * c + 1)), vI (i2c (xs (4 * c + 2)))]) (S := []) gk dL_law_1156 gL_225 (by decide) rfl w_1728 w_1729 q3 rfl rfl (by decide) ⟨Nat.le_of_ble_eq_true rfl, Nat.le_of_ble_eq_true rfl, Nat.le_trans (le0 (Nat.le_of_ble_eq_true rfl)) huc, Nat.le_trans (le0 (Nat.le_of_ble_eq_true rfl)) hus⟩ (hrun _ fun w σ2 h2 h6 hφ => ?_)
  exact At.widen (uc' := uc + 31) (us' := us + 4206) (law_tB gk tlb_1159 rfl h2 h6 hφ huc hus (kk σ2 h2)) (le0 (Nat.le_of_ble_eq_true rfl)) (le0 (Nat.le_of_ble_eq_true rfl))
theorem law_c16 (ok : OKS G) (h : LI b0 Ln xs x c σ) (hcL : 4 * c + 4 ≤ Ln) (hL : Ln ≤ 2048) (huc : uc + 31 ≤ 603072) (hus : us + 4206 ≤ 7198826) (kk : ∀ σ', LI b0 Ln xs x (c + 1) σ' → At G mL_law room_1 (uc + 31) (us + 4206) 2975 [some (vR (some b0)), some (vR (some x)), some (vR (some (x + 788))), some (vR (some (x + 796))), some (vR (some (x + 797))), some (vI (nI (4 * c))), none, none, none] [] σ' K) : At G mL_law room_1 uc us 1199 [some (vR (some b0)), some (vR (some x)), some (vR (some (x + 788))), some (vR (some (x + 796))), some (vR (some (x + 797))), some (vI (nI (4 * c))), none, none, none] [] σ K := by
  have gk := ok.1
  have hc5 : c ≤ 512 := by omega
  obtain ⟨A0, B0, hC0, hM0, hb0, hE0⟩ := id h
  have p1 := hE0.2.1
  have p2 := hE0.2.2.1
  refine s_aload_n (i := 1) dL_law_1199 rfl rfl ?_
  refine law_ld (j := 1) lda_1200 rfl p1 p2 rfl rfl hcL (by decide) hL ?_
  refine law_ld (j := 2) lda_1206 rfl p1 p2 rfl rfl hcL (by decide) hL ?_
  refine s_i2c (v := i2c _) dL_law_1212 rfl ?_
  refine s_aload_n (i := 3) dL_law_1213 rfl rfl ?_
  refine s_callSH (Y := mL_echoOf) (hh := hL_echoOf) (rmY := rL_echoOf) (as := [vR (some x), vI (xs (4 * c + 1)), vI (i2c (xs (4 * c + 2))), vR (some (x + 796))]) (S := []) gk dL_law_1214 (kL_echoOf _ _ w_802) w_803 rfl rfl (by decide) ⟨Nat.le_of_ble_eq_true rfl, Nat.le_of_ble_eq_true rfl, Nat.le_trans (Nat.add_le_add_left (Nat.le_of_ble_eq_true rfl) _) huc, Nat.le_trans (Nat.add_le_add_left (Nat.le_of_ble_eq_true rfl) _) hus⟩ ?_
  refine (op_echoOf ok h).mono fun r σ1 h1 => ?_
  obtain ⟨z, rfl, ⟨q1, q2, q3⟩, hrun⟩ := h1
  refine At.widen (uc' := uc + 31) (us' := us + 4206) (?_ : At G mL_law room_1 _ _ 1217 _ [vI z] σ1 K) (Nat.add_le_add_left (Nat.le_of_ble_eq_true rfl) _) (Nat.add_le_add_left (Nat.le_of_ble_eq_true rfl) _)
  refine s_istore dL_law_1217 rfl (Nat.le_of_ble_eq_true rfl) rfl ?_
  refine s_aload_n (i := 2) dL_law_1219 rfl rfl ?_
  refine law_ld (j := 1) lda_1220 rfl q1 q2 rfl rfl hcL (by decide) hL ?_
  refine law_ld (j := 2) lda_1226 rfl q1 q2 rfl rfl hcL (by decide) hL ?_
  refine s_i2c (v := i2c _) dL_law_1232 rfl ?_
  refine s_callV (ci := 9) (Y := mX9_echoOf) (rmY := rX9_echoOf) (as := [vI (xs (4 * c + 1)), vI (i2c (xs (4 * c + 2)))]) (S := []) gk dL_law_1233 gL_228 (by decide) rfl w_1732 w_1733 q3 rfl rfl (by decide) ⟨Nat.le_of_ble_eq_true rfl, Nat.le_of_ble_eq_true rfl, Nat.le_trans (le0 (Nat.le_of_ble_eq_true rfl)) huc, Nat.le_trans (le0 (Nat.le_of_ble_eq_true rfl)) hus⟩ (hrun _ fun w σ2 h2 h6 hφ => ?_)
  exact At.widen (uc' := uc + 31) (us' := us + 4206) (law_tI gk tli_1236 rfl h2 h6 hφ huc hus (kk σ2 h2)) (le0 (Nat.le_of_ble_eq_true rfl)) (le0 (Nat.le_of_ble_eq_true rfl))
theorem law_c17 (ok : OKS G) (h : LI b0 Ln xs x c σ) (hcL : 4 * c + 4 ≤ Ln) (hL : Ln ≤ 2048) (huc : uc + 31 ≤ 603072) (hus : us + 4206 ≤ 7198826) (kk : ∀ σ', LI b0 Ln xs x (c + 1) σ' → At G mL_law room_1 (uc + 31) (us + 4206) 2975 [some (vR (some b0)), some (vR (some x)), some (vR (some (x + 788))), some (vR (some (x + 796))), some (vR (some (x + 797))), some (vI (nI (4 * c))), none, none, none] [] σ' K) : At G mL_law room_1 uc us 1269 [some (vR (some b0)), some (vR (some x)), some (vR (some (x + 788))), some (vR (some (x + 796))), some (vR (some (x + 797))), some (vI (nI (4 * c))), none, none, none] [] σ K := by
  have gk := ok.1
  have hc5 : c ≤ 512 := by omega
  obtain ⟨A0, B0, hC0, hM0, hb0, hE0⟩ := id h
  have p1 := hE0.2.1
  have p2 := hE0.2.2.1
  refine s_aload_n (i := 1) dL_law_1269 rfl rfl ?_
  refine law_ld (j := 1) lda_1270 rfl p1 p2 rfl rfl hcL (by decide) hL ?_
  refine law_ld (j := 2) lda_1276 rfl p1 p2 rfl rfl hcL (by decide) hL ?_
  refine s_i2c (v := i2c _) dL_law_1282 rfl ?_
  refine s_aload_n (i := 3) dL_law_1283 rfl rfl ?_
  refine s_callSH (Y := mL_ageOf) (hh := hL_ageOf) (rmY := rL_ageOf) (as := [vR (some x), vI (xs (4 * c + 1)), vI (i2c (xs (4 * c + 2))), vR (some (x + 796))]) (S := []) gk dL_law_1284 (kL_ageOf _ _ w_814) w_815 rfl rfl (by decide) ⟨Nat.le_of_ble_eq_true rfl, Nat.le_of_ble_eq_true rfl, Nat.le_trans (Nat.add_le_add_left (Nat.le_of_ble_eq_true rfl) _) huc, Nat.le_trans (Nat.add_le_add_left (Nat.le_of_ble_eq_true rfl) _) hus⟩ ?_
  refine (op_ageOf ok h).mono fun r σ1 h1 => ?_
  obtain ⟨z, rfl, ⟨q1, q2, q3⟩, hrun⟩ := h1
  refine At.widen (uc' := uc + 31) (us' := us + 4206) (?_ : At G mL_law room_1 _ _ 1287 _ [vI z] σ1 K) (Nat.add_le_add_left (Nat.le_of_ble_eq_true rfl) _) (Nat.add_le_add_left (Nat.le_of_ble_eq_true rfl) _)
  refine s_istore dL_law_1287 rfl (Nat.le_of_ble_eq_true rfl) rfl ?_
  refine s_aload_n (i := 2) dL_law_1289 rfl rfl ?_
  refine law_ld (j := 1) lda_1290 rfl q1 q2 rfl rfl hcL (by decide) hL ?_
  refine law_ld (j := 2) lda_1296 rfl q1 q2 rfl rfl hcL (by decide) hL ?_
  refine s_i2c (v := i2c _) dL_law_1302 rfl ?_
  refine s_callV (ci := 9) (Y := mX9_ageOf) (rmY := rX9_ageOf) (as := [vI (xs (4 * c + 1)), vI (i2c (xs (4 * c + 2)))]) (S := []) gk dL_law_1303 gL_231 (by decide) rfl w_1740 w_1741 q3 rfl rfl (by decide) ⟨Nat.le_of_ble_eq_true rfl, Nat.le_of_ble_eq_true rfl, Nat.le_trans (le0 (Nat.le_of_ble_eq_true rfl)) huc, Nat.le_trans (le0 (Nat.le_of_ble_eq_true rfl)) hus⟩ (hrun _ fun w σ2 h2 h6 hφ => ?_)
  exact At.widen (uc' := uc + 31) (us' := us + 4206) (law_tI gk tli_1306 rfl h2 h6 hφ huc hus (kk σ2 h2)) (le0 (Nat.le_of_ble_eq_true rfl)) (le0 (Nat.le_of_ble_eq_true rfl))
theorem law_c18 (ok : OKS G) (h : LI b0 Ln xs x c σ) (hcL : 4 * c + 4 ≤ Ln) (hL : Ln ≤ 2048) (huc : uc + 31 ≤ 603072) (hus : us + 4206 ≤ 7198826) (kk : ∀ σ', LI b0 Ln xs x (c + 1) σ' → At G mL_law room_1 (uc + 31) (us + 4206) 2975 [some (vR (some b0)), some (vR (some x)), some (vR (some (x + 788))), some (vR (some (x + 796))), some (vR (some (x + 797))), some (vI (nI (4 * c))), none, none, none] [] σ' K) : At G mL_law room_1 uc us 1339 [some (vR (some b0)), some (vR (some x)), some (vR (some (x + 788))), some (vR (some (x + 796))), some (vR (some (x + 797))), some (vI (nI (4 * c))), none, none, none] [] σ K := by
  have gk := ok.1
  have hc5 : c ≤ 512 := by omega
  obtain ⟨A0, B0, hC0, hM0, hb0, hE0⟩ := id h
  have p1 := hE0.2.1
  have p2 := hE0.2.2.1
  refine s_aload_n (i := 1) dL_law_1339 rfl rfl ?_
  refine law_ld (j := 1) lda_1340 rfl p1 p2 rfl rfl hcL (by decide) hL ?_
  refine law_ld (j := 2) lda_1346 rfl p1 p2 rfl rfl hcL (by decide) hL ?_
  refine s_i2c (v := i2c _) dL_law_1352 rfl ?_
  refine s_aload_n (i := 3) dL_law_1353 rfl rfl ?_
  refine s_callSH (Y := mL_hitsOf) (hh := hL_hitsOf) (rmY := rL_hitsOf) (as := [vR (some x), vI (xs (4 * c + 1)), vI (i2c (xs (4 * c + 2))), vR (some (x + 796))]) (S := []) gk dL_law_1354 (kL_hitsOf _ _ w_825) w_826 rfl rfl (by decide) ⟨Nat.le_of_ble_eq_true rfl, Nat.le_of_ble_eq_true rfl, Nat.le_trans (Nat.add_le_add_left (Nat.le_of_ble_eq_true rfl) _) huc, Nat.le_trans (Nat.add_le_add_left (Nat.le_of_ble_eq_true rfl) _) hus⟩ ?_
  refine (op_hitsOf ok h).mono fun r σ1 h1 => ?_
  obtain ⟨z, rfl, ⟨q1, q2, q3⟩, hrun⟩ := h1
  refine At.widen (uc' := uc + 31) (us' := us + 4206) (?_ : At G mL_law room_1 _ _ 1357 _ [vI z] σ1 K) (Nat.add_le_add_left (Nat.le_of_ble_eq_true rfl) _) (Nat.add_le_add_left (Nat.le_of_ble_eq_true rfl) _)
  refine s_istore dL_law_1357 rfl (Nat.le_of_ble_eq_true rfl) rfl ?_
  refine s_aload_n (i := 2) dL_law_1359 rfl rfl ?_
  refine law_ld (j := 1) lda_1360 rfl q1 q2 rfl rfl hcL (by decide) hL ?_
  refine law_ld (j := 2) lda_1366 rfl q1 q2 rfl rfl hcL (by decide) hL ?_
  refine s_i2c (v := i2c _) dL_law_1372 rfl ?_
  refine s_callV (ci := 9) (Y := mX9_hitsOf) (rmY := rX9_hitsOf) (as := [vI (xs (4 * c + 1)), vI (i2c (xs (4 * c + 2)))]) (S := []) gk dL_law_1373 gL_234 (by decide) rfl w_1748 w_1749 q3 rfl rfl (by decide) ⟨Nat.le_of_ble_eq_true rfl, Nat.le_of_ble_eq_true rfl, Nat.le_trans (le0 (Nat.le_of_ble_eq_true rfl)) huc, Nat.le_trans (le0 (Nat.le_of_ble_eq_true rfl)) hus⟩ (hrun _ fun w σ2 h2 h6 hφ => ?_)
  exact At.widen (uc' := uc + 31) (us' := us + 4206) (law_tI gk tli_1376 rfl h2 h6 hφ huc hus (kk σ2 h2)) (le0 (Nat.le_of_ble_eq_true rfl)) (le0 (Nat.le_of_ble_eq_true rfl))
theorem law_c19 (ok : OKS G) (h : LI b0 Ln xs x c σ) (hcL : 4 * c + 4 ≤ Ln) (hL : Ln ≤ 2048) (huc : uc + 31 ≤ 603072) (hus : us + 4206 ≤ 7198826) (kk : ∀ σ', LI b0 Ln xs x (c + 1) σ' → At G mL_law room_1 (uc + 31) (us + 4206) 2975 [some (vR (some b0)), some (vR (some x)), some (vR (some (x + 788))), some (vR (some (x + 796))), some (vR (some (x + 797))), some (vI (nI (4 * c))), none, none, none] [] σ' K) : At G mL_law room_1 uc us 1409 [some (vR (some b0)), some (vR (some x)), some (vR (some (x + 788))), some (vR (some (x + 796))), some (vR (some (x + 797))), some (vI (nI (4 * c))), none, none, none] [] σ K := by
  have gk := ok.1
  have hc5 : c ≤ 512 := by omega
  obtain ⟨A0, B0, hC0, hM0, hb0, hE0⟩ := id h
  have p1 := hE0.2.1
  have p2 := hE0.2.2.1
  refine s_aload_n (i := 1) dL_law_1409 rfl rfl ?_
  refine law_ld (j := 1) lda_1410 rfl p1 p2 rfl rfl hcL (by decide) hL ?_
  refine law_ld (j := 2) lda_1416 rfl p1 p2 rfl rfl hcL (by decide) hL ?_
  refine s_i2c (v := i2c _) dL_law_1422 rfl ?_
  refine s_aload_n (i := 3) dL_law_1423 rfl rfl ?_
  refine s_callSH (Y := mL_isExpired) (hh := hL_isExpired) (rmY := rL_isExpired) (as := [vR (some x), vI (xs (4 * c + 1)), vI (i2c (xs (4 * c + 2))), vR (some (x + 796))]) (S := []) gk dL_law_1424 (kL_isExpired _ _ w_832) w_833 rfl rfl (by decide) ⟨Nat.le_of_ble_eq_true rfl, Nat.le_of_ble_eq_true rfl, Nat.le_trans (Nat.add_le_add_left (Nat.le_of_ble_eq_true rfl) _) huc, Nat.le_trans (Nat.add_le_add_left (Nat.le_of_ble_eq_true rfl) _) hus⟩ ?_
  refine (op_isExpired ok h).mono fun r σ1 h1 => ?_
  obtain ⟨z, rfl, ⟨q1, q2, q3⟩, hrun⟩ := h1
  refine At.widen (uc' := uc + 31) (us' := us + 4206) (?_ : At G mL_law room_1 _ _ 1427 _ [vI z] σ1 K) (Nat.add_le_add_left (Nat.le_of_ble_eq_true rfl) _) (Nat.add_le_add_left (Nat.le_of_ble_eq_true rfl) _)
  refine s_istore dL_law_1427 rfl (Nat.le_of_ble_eq_true rfl) rfl ?_
  refine s_aload_n (i := 2) dL_law_1429 rfl rfl ?_
  refine law_ld (j := 1) lda_1430 rfl q1 q2 rfl rfl hcL (by decide) hL ?_
  refine law_ld (j := 2) lda_1436 rfl q1 q2 rfl rfl hcL (by decide) hL ?_
  refine s_i2c (v := i2c _) dL_law_1442 rfl ?_
  refine s_callV (ci := 9) (Y := mX9_isExpired) (rmY := rX9_isExpired) (as := [vI (xs (4 * c + 1)), vI (i2c (xs (4 * c + 2)))]) (S := []) gk dL_law_1443 gL_237 (by decide) rfl w_1752 w_1753 q3 rfl rfl (by decide) ⟨Nat.le_of_ble_eq_true rfl, Nat.le_of_ble_eq_true rfl, Nat.le_trans (le0 (Nat.le_of_ble_eq_true rfl)) huc, Nat.le_trans (le0 (Nat.le_of_ble_eq_true rfl)) hus⟩ (hrun _ fun w σ2 h2 h6 hφ => ?_)
  exact At.widen (uc' := uc + 31) (us' := us + 4206) (law_tB gk tlb_1446 rfl h2 h6 hφ huc hus (kk σ2 h2)) (le0 (Nat.le_of_ble_eq_true rfl)) (le0 (Nat.le_of_ble_eq_true rfl))
theorem law_c20 (ok : OKS G) (h : LI b0 Ln xs x c σ) (hcL : 4 * c + 4 ≤ Ln) (hL : Ln ≤ 2048) (huc : uc + 31 ≤ 603072) (hus : us + 4206 ≤ 7198826) (kk : ∀ σ', LI b0 Ln xs x (c + 1) σ' → At G mL_law room_1 (uc + 31) (us + 4206) 2975 [some (vR (some b0)), some (vR (some x)), some (vR (some (x + 788))), some (vR (some (x + 796))), some (vR (some (x + 797))), some (vI (nI (4 * c))), none, none, none] [] σ' K) : At G mL_law room_1 uc us 1486 [some (vR (some b0)), some (vR (some x)), some (vR (some (x + 788))), some (vR (some (x + 796))), some (vR (some (x + 797))), some (vI (nI (4 * c))), none, none, none] [] σ K := by
  have gk := ok.1
  have hc5 : c ≤ 512 := by omega
  obtain ⟨A0, B0, hC0, hM0, hb0, hE0⟩ := id h
  have p1 := hE0.2.1
  have p2 := hE0.2.2.1
  refine s_aload_n (i := 1) dL_law_1486 rfl rfl ?_
  refine law_ld (j := 1) lda_1487 rfl p1 p2 rfl rfl hcL (by decide) hL ?_
  refine law_ld (j := 2) lda_1493 rfl p1 p2 rfl rfl hcL (by decide) hL ?_
  refine s_i2c (v := i2c _) dL_law_1499 rfl ?_
  refine s_aload_n (i := 3) dL_law_1500 rfl rfl ?_
  refine s_callSH (Y := mL_isOpen) (hh := hL_isOpen) (rmY := rL_isOpen) (as := [vR (some x), vI (xs (4 * c + 1)), vI (i2c (xs (4 * c + 2))), vR (some (x + 796))]) (S := []) gk dL_law_1501 (kL_isOpen _ _ w_844) w_845 rfl rfl (by decide) ⟨Nat.le_of_ble_eq_true rfl, Nat.le_of_ble_eq_true rfl, Nat.le_trans (Nat.add_le_add_left (Nat.le_of_ble_eq_true rfl) _) huc, Nat.le_trans (Nat.add_le_add_left (Nat.le_of_ble_eq_true rfl) _) hus⟩ ?_
  refine (op_isOpen ok h).mono fun r σ1 h1 => ?_
  obtain ⟨z, rfl, ⟨q1, q2, q3⟩, hrun⟩ := h1
  refine At.widen (uc' := uc + 31) (us' := us + 4206) (?_ : At G mL_law room_1 _ _ 1504 _ [vI z] σ1 K) (Nat.add_le_add_left (Nat.le_of_ble_eq_true rfl) _) (Nat.add_le_add_left (Nat.le_of_ble_eq_true rfl) _)
  refine s_istore dL_law_1504 rfl (Nat.le_of_ble_eq_true rfl) rfl ?_
  refine s_aload_n (i := 2) dL_law_1506 rfl rfl ?_
  refine law_ld (j := 1) lda_1507 rfl q1 q2 rfl rfl hcL (by decide) hL ?_
  refine law_ld (j := 2) lda_1513 rfl q1 q2 rfl rfl hcL (by decide) hL ?_
  refine s_i2c (v := i2c _) dL_law_1519 rfl ?_
  refine s_callV (ci := 9) (Y := mX9_isOpen) (rmY := rX9_isOpen) (as := [vI (xs (4 * c + 1)), vI (i2c (xs (4 * c + 2)))]) (S := []) gk dL_law_1520 gL_240 (by decide) rfl w_1760 w_1761 q3 rfl rfl (by decide) ⟨Nat.le_of_ble_eq_true rfl, Nat.le_of_ble_eq_true rfl, Nat.le_trans (le0 (Nat.le_of_ble_eq_true rfl)) huc, Nat.le_trans (le0 (Nat.le_of_ble_eq_true rfl)) hus⟩ (hrun _ fun w σ2 h2 h6 hφ => ?_)
  exact At.widen (uc' := uc + 31) (us' := us + 4206) (law_tB gk tlb_1523 rfl h2 h6 hφ huc hus (kk σ2 h2)) (le0 (Nat.le_of_ble_eq_true rfl)) (le0 (Nat.le_of_ble_eq_true rfl))
theorem law_c21 (ok : OKS G) (h : LI b0 Ln xs x c σ) (hcL : 4 * c + 4 ≤ Ln) (hL : Ln ≤ 2048) (huc : uc + 31 ≤ 603072) (hus : us + 4206 ≤ 7198826) (kk : ∀ σ', LI b0 Ln xs x (c + 1) σ' → At G mL_law room_1 (uc + 31) (us + 4206) 2975 [some (vR (some b0)), some (vR (some x)), some (vR (some (x + 788))), some (vR (some (x + 796))), some (vR (some (x + 797))), some (vI (nI (4 * c))), none, none, none] [] σ' K) : At G mL_law room_1 uc us 1563 [some (vR (some b0)), some (vR (some x)), some (vR (some (x + 788))), some (vR (some (x + 796))), some (vR (some (x + 797))), some (vI (nI (4 * c))), none, none, none] [] σ K := by
  have gk := ok.1
  have hc5 : c ≤ 512 := by omega
  obtain ⟨A0, B0, hC0, hM0, hb0, hE0⟩ := id h
  have p1 := hE0.2.1
  have p2 := hE0.2.2.1
  refine s_aload_n (i := 1) dL_law_1563 rfl rfl ?_
  refine law_ld (j := 1) lda_1564 rfl p1 p2 rfl rfl hcL (by decide) hL ?_
  refine law_ld (j := 2) lda_1570 rfl p1 p2 rfl rfl hcL (by decide) hL ?_
  refine s_i2c (v := i2c _) dL_law_1576 rfl ?_
  refine s_aload_n (i := 3) dL_law_1577 rfl rfl ?_
  refine s_callSH (Y := mL_isTrue) (hh := hL_isTrue) (rmY := rL_isTrue) (as := [vR (some x), vI (xs (4 * c + 1)), vI (i2c (xs (4 * c + 2))), vR (some (x + 796))]) (S := []) gk dL_law_1578 (kL_isTrue _ _ w_851) w_852 rfl rfl (by decide) ⟨Nat.le_of_ble_eq_true rfl, Nat.le_of_ble_eq_true rfl, Nat.le_trans (Nat.add_le_add_left (Nat.le_of_ble_eq_true rfl) _) huc, Nat.le_trans (Nat.add_le_add_left (Nat.le_of_ble_eq_true rfl) _) hus⟩ ?_
  refine (op_isTrue ok h).mono fun r σ1 h1 => ?_
  obtain ⟨z, rfl, ⟨q1, q2, q3⟩, hrun⟩ := h1
  refine At.widen (uc' := uc + 31) (us' := us + 4206) (?_ : At G mL_law room_1 _ _ 1581 _ [vI z] σ1 K) (Nat.add_le_add_left (Nat.le_of_ble_eq_true rfl) _) (Nat.add_le_add_left (Nat.le_of_ble_eq_true rfl) _)
  refine s_istore dL_law_1581 rfl (Nat.le_of_ble_eq_true rfl) rfl ?_
  refine s_aload_n (i := 2) dL_law_1583 rfl rfl ?_
  refine law_ld (j := 1) lda_1584 rfl q1 q2 rfl rfl hcL (by decide) hL ?_
  refine law_ld (j := 2) lda_1590 rfl q1 q2 rfl rfl hcL (by decide) hL ?_
  refine s_i2c (v := i2c _) dL_law_1596 rfl ?_
  refine s_callV (ci := 9) (Y := mX9_isTrue) (rmY := rX9_isTrue) (as := [vI (xs (4 * c + 1)), vI (i2c (xs (4 * c + 2)))]) (S := []) gk dL_law_1597 gL_243 (by decide) rfl w_1764 w_1765 q3 rfl rfl (by decide) ⟨Nat.le_of_ble_eq_true rfl, Nat.le_of_ble_eq_true rfl, Nat.le_trans (le0 (Nat.le_of_ble_eq_true rfl)) huc, Nat.le_trans (le0 (Nat.le_of_ble_eq_true rfl)) hus⟩ (hrun _ fun w σ2 h2 h6 hφ => ?_)
  exact At.widen (uc' := uc + 31) (us' := us + 4206) (law_tB gk tlb_1600 rfl h2 h6 hφ huc hus (kk σ2 h2)) (le0 (Nat.le_of_ble_eq_true rfl)) (le0 (Nat.le_of_ble_eq_true rfl))
theorem law_c22 (ok : OKS G) (h : LI b0 Ln xs x c σ) (hcL : 4 * c + 4 ≤ Ln) (hL : Ln ≤ 2048) (huc : uc + 31 ≤ 603072) (hus : us + 4206 ≤ 7198826) (kk : ∀ σ', LI b0 Ln xs x (c + 1) σ' → At G mL_law room_1 (uc + 31) (us + 4206) 2975 [some (vR (some b0)), some (vR (some x)), some (vR (some (x + 788))), some (vR (some (x + 796))), some (vR (some (x + 797))), some (vI (nI (4 * c))), none, none, none] [] σ' K) : At G mL_law room_1 uc us 1640 [some (vR (some b0)), some (vR (some x)), some (vR (some (x + 788))), some (vR (some (x + 796))), some (vR (some (x + 797))), some (vI (nI (4 * c))), none, none, none] [] σ K := by
  have gk := ok.1
  have hc5 : c ≤ 512 := by omega
  obtain ⟨A0, B0, hC0, hM0, hb0, hE0⟩ := id h
  have p1 := hE0.2.1
  have p2 := hE0.2.2.1
  refine s_aload_n (i := 1) dL_law_1640 rfl rfl ?_
  refine law_ld (j := 1) lda_1641 rfl p1 p2 rfl rfl hcL (by decide) hL ?_
  refine law_ld (j := 2) lda_1647 rfl p1 p2 rfl rfl hcL (by decide) hL ?_
  refine s_i2c (v := i2c _) dL_law_1653 rfl ?_
  refine s_aload_n (i := 3) dL_law_1654 rfl rfl ?_
  refine s_callSH (Y := mL_isTrueBySteps) (hh := hL_isTrueBySteps) (rmY := rL_isTrueBySteps) (as := [vR (some x), vI (xs (4 * c + 1)), vI (i2c (xs (4 * c + 2))), vR (some (x + 796))]) (S := []) gk dL_law_1655 (kL_isTrueBySteps _ _ w_859) w_860 rfl rfl (by decide) ⟨Nat.le_of_ble_eq_true rfl, Nat.le_of_ble_eq_true rfl, Nat.le_trans (Nat.add_le_add_left (Nat.le_of_ble_eq_true rfl) _) huc, Nat.le_trans (Nat.add_le_add_left (Nat.le_of_ble_eq_true rfl) _) hus⟩ ?_
  refine (op_isTrueBySteps ok h).mono fun r σ1 h1 => ?_
  obtain ⟨z, rfl, ⟨q1, q2, q3⟩, hrun⟩ := h1
  refine At.widen (uc' := uc + 31) (us' := us + 4206) (?_ : At G mL_law room_1 _ _ 1658 _ [vI z] σ1 K) (Nat.add_le_add_left (Nat.le_of_ble_eq_true rfl) _) (Nat.add_le_add_left (Nat.le_of_ble_eq_true rfl) _)
  refine s_istore dL_law_1658 rfl (Nat.le_of_ble_eq_true rfl) rfl ?_
  refine s_aload_n (i := 2) dL_law_1660 rfl rfl ?_
  refine law_ld (j := 1) lda_1661 rfl q1 q2 rfl rfl hcL (by decide) hL ?_
  refine law_ld (j := 2) lda_1667 rfl q1 q2 rfl rfl hcL (by decide) hL ?_
  refine s_i2c (v := i2c _) dL_law_1673 rfl ?_
  refine s_callV (ci := 9) (Y := mX9_isTrueBySteps) (rmY := rX9_isTrueBySteps) (as := [vI (xs (4 * c + 1)), vI (i2c (xs (4 * c + 2)))]) (S := []) gk dL_law_1674 gL_246 (by decide) rfl w_1768 w_1769 q3 rfl rfl (by decide) ⟨Nat.le_of_ble_eq_true rfl, Nat.le_of_ble_eq_true rfl, Nat.le_trans (le0 (Nat.le_of_ble_eq_true rfl)) huc, Nat.le_trans (le0 (Nat.le_of_ble_eq_true rfl)) hus⟩ (hrun _ fun w σ2 h2 h6 hφ => ?_)
  exact At.widen (uc' := uc + 31) (us' := us + 4206) (law_tB gk tlb_1677 rfl h2 h6 hφ huc hus (kk σ2 h2)) (le0 (Nat.le_of_ble_eq_true rfl)) (le0 (Nat.le_of_ble_eq_true rfl))
theorem law_c23 (ok : OKS G) (h : LI b0 Ln xs x c σ) (hcL : 4 * c + 4 ≤ Ln) (hL : Ln ≤ 2048) (huc : uc + 31 ≤ 603072) (hus : us + 4206 ≤ 7198826) (kk : ∀ σ', LI b0 Ln xs x (c + 1) σ' → At G mL_law room_1 (uc + 31) (us + 4206) 2975 [some (vR (some b0)), some (vR (some x)), some (vR (some (x + 788))), some (vR (some (x + 796))), some (vR (some (x + 797))), some (vI (nI (4 * c))), none, none, none] [] σ' K) : At G mL_law room_1 uc us 1717 [some (vR (some b0)), some (vR (some x)), some (vR (some (x + 788))), some (vR (some (x + 796))), some (vR (some (x + 797))), some (vI (nI (4 * c))), none, none, none] [] σ K := by
  have gk := ok.1
  have hc5 : c ≤ 512 := by omega
  obtain ⟨A0, B0, hC0, hM0, hb0, hE0⟩ := id h
  have p1 := hE0.2.1
  have p2 := hE0.2.2.1
  refine s_aload_n (i := 1) dL_law_1717 rfl rfl ?_
  refine law_ld (j := 1) lda_1718 rfl p1 p2 rfl rfl hcL (by decide) hL ?_
  refine s_aload_n (i := 3) dL_law_1724 rfl rfl ?_
  refine s_callSH (Y := mL_victimOf) (hh := hL_victimOf) (rmY := rL_victimOf) (as := [vR (some x), vI (xs (4 * c + 1)), vR (some (x + 796))]) (S := []) gk dL_law_1725 (kL_victimOf _ _ w_867) w_868 rfl rfl (by decide) ⟨Nat.le_of_ble_eq_true rfl, Nat.le_of_ble_eq_true rfl, Nat.le_trans (Nat.add_le_add_left (Nat.le_of_ble_eq_true rfl) _) huc, Nat.le_trans (Nat.add_le_add_left (Nat.le_of_ble_eq_true rfl) _) hus⟩ ?_
  refine (op_victimOf ok h hc5).mono fun r σ1 h1 => ?_
  obtain ⟨z, rfl, ⟨q1, q2, q3⟩, hrun⟩ := h1
  refine At.widen (uc' := uc + 31) (us' := us + 4206) (?_ : At G mL_law room_1 _ _ 1728 _ [vI z] σ1 K) (Nat.add_le_add_left (Nat.le_of_ble_eq_true rfl) _) (Nat.add_le_add_left (Nat.le_of_ble_eq_true rfl) _)
  refine s_istore dL_law_1728 rfl (Nat.le_of_ble_eq_true rfl) rfl ?_
  refine s_aload_n (i := 2) dL_law_1730 rfl rfl ?_
  refine law_ld (j := 1) lda_1731 rfl q1 q2 rfl rfl hcL (by decide) hL ?_
  refine s_callV (ci := 9) (Y := mX9_victimOf) (rmY := rX9_victimOf) (as := [vI (xs (4 * c + 1))]) (S := []) gk dL_law_1737 gL_249 (by decide) rfl w_1773 w_1774 q3 rfl rfl (by decide) ⟨Nat.le_of_ble_eq_true rfl, Nat.le_of_ble_eq_true rfl, Nat.le_trans (le0 (Nat.le_of_ble_eq_true rfl)) huc, Nat.le_trans (le0 (Nat.le_of_ble_eq_true rfl)) hus⟩ (hrun _ fun w σ2 h2 h6 hφ => ?_)
  exact At.widen (uc' := uc + 31) (us' := us + 4206) (law_tI gk tli_1740 rfl h2 h6 hφ huc hus (kk σ2 h2)) (le0 (Nat.le_of_ble_eq_true rfl)) (le0 (Nat.le_of_ble_eq_true rfl))
theorem law_c24 (ok : OKS G) (h : LI b0 Ln xs x c σ) (hcL : 4 * c + 4 ≤ Ln) (hL : Ln ≤ 2048) (huc : uc + 31 ≤ 603072) (hus : us + 4206 ≤ 7198826) (kk : ∀ σ', LI b0 Ln xs x (c + 1) σ' → At G mL_law room_1 (uc + 31) (us + 4206) 2975 [some (vR (some b0)), some (vR (some x)), some (vR (some (x + 788))), some (vR (some (x + 796))), some (vR (some (x + 797))), some (vI (nI (4 * c))), none, none, none] [] σ' K) : At G mL_law room_1 uc us 1773 [some (vR (some b0)), some (vR (some x)), some (vR (some (x + 788))), some (vR (some (x + 796))), some (vR (some (x + 797))), some (vI (nI (4 * c))), none, none, none] [] σ K := by
  have gk := ok.1
  have hc5 : c ≤ 512 := by omega
  obtain ⟨A0, B0, hC0, hM0, hb0, hE0⟩ := id h
  have p1 := hE0.2.1
  have p2 := hE0.2.2.1
  refine s_aload_n (i := 1) dL_law_1773 rfl rfl ?_
  refine law_ld (j := 1) lda_1774 rfl p1 p2 rfl rfl hcL (by decide) hL ?_
  refine s_aload_n (i := 3) dL_law_1780 rfl rfl ?_
  refine s_callSH (Y := mL_victimByScan) (hh := hL_victimByScan) (rmY := rL_victimByScan) (as := [vR (some x), vI (xs (4 * c + 1)), vR (some (x + 796))]) (S := []) gk dL_law_1781 (kL_victimByScan _ _ w_875) w_876 rfl rfl (by decide) ⟨Nat.le_of_ble_eq_true rfl, Nat.le_of_ble_eq_true rfl, Nat.le_trans (Nat.add_le_add_left (Nat.le_of_ble_eq_true rfl) _) huc, Nat.le_trans (Nat.add_le_add_left (Nat.le_of_ble_eq_true rfl) _) hus⟩ ?_
  refine (op_victimByScan ok h hc5).mono fun r σ1 h1 => ?_
  obtain ⟨z, rfl, ⟨q1, q2, q3⟩, hrun⟩ := h1
  refine At.widen (uc' := uc + 31) (us' := us + 4206) (?_ : At G mL_law room_1 _ _ 1784 _ [vI z] σ1 K) (Nat.add_le_add_left (Nat.le_of_ble_eq_true rfl) _) (Nat.add_le_add_left (Nat.le_of_ble_eq_true rfl) _)
  refine s_istore dL_law_1784 rfl (Nat.le_of_ble_eq_true rfl) rfl ?_
  refine s_aload_n (i := 2) dL_law_1786 rfl rfl ?_
  refine law_ld (j := 1) lda_1787 rfl q1 q2 rfl rfl hcL (by decide) hL ?_
  refine s_callV (ci := 9) (Y := mX9_victimByScan) (rmY := rX9_victimByScan) (as := [vI (xs (4 * c + 1))]) (S := []) gk dL_law_1793 gL_252 (by decide) rfl w_1785 w_1786 q3 rfl rfl (by decide) ⟨Nat.le_of_ble_eq_true rfl, Nat.le_of_ble_eq_true rfl, Nat.le_trans (le0 (Nat.le_of_ble_eq_true rfl)) huc, Nat.le_trans (le0 (Nat.le_of_ble_eq_true rfl)) hus⟩ (hrun _ fun w σ2 h2 h6 hφ => ?_)
  exact At.widen (uc' := uc + 31) (us' := us + 4206) (law_tI gk tli_1796 rfl h2 h6 hφ huc hus (kk σ2 h2)) (le0 (Nat.le_of_ble_eq_true rfl)) (le0 (Nat.le_of_ble_eq_true rfl))
theorem law_c25 (ok : OKS G) (h : LI b0 Ln xs x c σ) (hcL : 4 * c + 4 ≤ Ln) (hL : Ln ≤ 2048) (huc : uc + 31 ≤ 603072) (hus : us + 4206 ≤ 7198826) (kk : ∀ σ', LI b0 Ln xs x (c + 1) σ' → At G mL_law room_1 (uc + 31) (us + 4206) 2975 [some (vR (some b0)), some (vR (some x)), some (vR (some (x + 788))), some (vR (some (x + 796))), some (vR (some (x + 797))), some (vI (nI (4 * c))), none, none, none] [] σ' K) : At G mL_law room_1 uc us 1829 [some (vR (some b0)), some (vR (some x)), some (vR (some (x + 788))), some (vR (some (x + 796))), some (vR (some (x + 797))), some (vI (nI (4 * c))), none, none, none] [] σ K := by
  have gk := ok.1
  have hc5 : c ≤ 512 := by omega
  obtain ⟨A0, B0, hC0, hM0, hb0, hE0⟩ := id h
  have p1 := hE0.2.1
  have p2 := hE0.2.2.1
  refine s_aload_n (i := 1) dL_law_1829 rfl rfl ?_
  refine law_ld (j := 1) lda_1830 rfl p1 p2 rfl rfl hcL (by decide) hL ?_
  refine law_ld (j := 2) lda_1836 rfl p1 p2 rfl rfl hcL (by decide) hL ?_
  refine s_i2c (v := i2c _) dL_law_1842 rfl ?_
  refine s_aload_n (i := 3) dL_law_1843 rfl rfl ?_
  refine s_callSH (Y := mL_hear) (hh := hL_hear) (rmY := rL_hear) (as := [vR (some x), vI (xs (4 * c + 1)), vI (i2c (xs (4 * c + 2))), vR (some (x + 796))]) (S := []) gk dL_law_1844 (kL_hear _ _ w_882) w_883 rfl rfl (by decide) ⟨Nat.le_of_ble_eq_true rfl, Nat.le_of_ble_eq_true rfl, Nat.le_trans (Nat.add_le_add_left (Nat.le_of_ble_eq_true rfl) _) huc, Nat.le_trans (Nat.add_le_add_left (Nat.le_of_ble_eq_true rfl) _) hus⟩ ?_
  refine (op_hear ok h hc5 (isC_i2c _)).mono fun r σ1 h1 => ?_
  obtain ⟨z, rfl, ⟨q1, q2, q3⟩, hrun⟩ := h1
  refine At.widen (uc' := uc + 31) (us' := us + 4206) (?_ : At G mL_law room_1 _ _ 1847 _ [vI z] σ1 K) (Nat.add_le_add_left (Nat.le_of_ble_eq_true rfl) _) (Nat.add_le_add_left (Nat.le_of_ble_eq_true rfl) _)
  refine s_istore dL_law_1847 rfl (Nat.le_of_ble_eq_true rfl) rfl ?_
  refine s_aload_n (i := 2) dL_law_1849 rfl rfl ?_
  refine law_ld (j := 1) lda_1850 rfl q1 q2 rfl rfl hcL (by decide) hL ?_
  refine law_ld (j := 2) lda_1856 rfl q1 q2 rfl rfl hcL (by decide) hL ?_
  refine s_i2c (v := i2c _) dL_law_1862 rfl ?_
  refine s_callV (ci := 9) (Y := mX9_hear) (rmY := rX9_hear) (as := [vI (xs (4 * c + 1)), vI (i2c (xs (4 * c + 2)))]) (S := []) gk dL_law_1863 gL_255 (by decide) rfl w_1790 w_1791 q3 rfl rfl (by decide) ⟨Nat.le_of_ble_eq_true rfl, Nat.le_of_ble_eq_true rfl, Nat.le_trans (le0 (Nat.le_of_ble_eq_true rfl)) huc, Nat.le_trans (le0 (Nat.le_of_ble_eq_true rfl)) hus⟩ (hrun _ fun w σ2 h2 h6 hφ => ?_)
  exact At.widen (uc' := uc + 31) (us' := us + 4206) (law_tI gk tli_1866 rfl h2 h6 hφ huc hus (kk σ2 h2)) (le0 (Nat.le_of_ble_eq_true rfl)) (le0 (Nat.le_of_ble_eq_true rfl))
theorem law_c26 (ok : OKS G) (h : LI b0 Ln xs x c σ) (hcL : 4 * c + 4 ≤ Ln) (hL : Ln ≤ 2048) (huc : uc + 31 ≤ 603072) (hus : us + 4206 ≤ 7198826) (kk : ∀ σ', LI b0 Ln xs x (c + 1) σ' → At G mL_law room_1 (uc + 31) (us + 4206) 2975 [some (vR (some b0)), some (vR (some x)), some (vR (some (x + 788))), some (vR (some (x + 796))), some (vR (some (x + 797))), some (vI (nI (4 * c))), none, none, none] [] σ' K) : At G mL_law room_1 uc us 1899 [some (vR (some b0)), some (vR (some x)), some (vR (some (x + 788))), some (vR (some (x + 796))), some (vR (some (x + 797))), some (vI (nI (4 * c))), none, none, none] [] σ K := by
  have gk := ok.1
  have hc5 : c ≤ 512 := by omega
  obtain ⟨A0, B0, hC0, hM0, hb0, hE0⟩ := id h
  have p1 := hE0.2.1
  have p2 := hE0.2.2.1
  refine s_aload_n (i := 1) dL_law_1899 rfl rfl ?_
  refine law_ld (j := 1) lda_1900 rfl p1 p2 rfl rfl hcL (by decide) hL ?_
  refine law_ld (j := 2) lda_1906 rfl p1 p2 rfl rfl hcL (by decide) hL ?_
  refine s_i2c (v := i2c _) dL_law_1912 rfl ?_
  refine s_aload_n (i := 3) dL_law_1913 rfl rfl ?_
  refine s_callSH (Y := mL_outcomeOf) (hh := hL_outcomeOf) (rmY := rL_outcomeOf) (as := [vR (some x), vI (xs (4 * c + 1)), vI (i2c (xs (4 * c + 2))), vR (some (x + 796))]) (S := []) gk dL_law_1914 (kL_outcomeOf _ _ w_926) w_927 rfl rfl (by decide) ⟨Nat.le_of_ble_eq_true rfl, Nat.le_of_ble_eq_true rfl, Nat.le_trans (Nat.add_le_add_left (Nat.le_of_ble_eq_true rfl) _) huc, Nat.le_trans (Nat.add_le_add_left (Nat.le_of_ble_eq_true rfl) _) hus⟩ ?_
  refine (op_outcomeOf ok h (isC_i2c _)).mono fun r σ1 h1 => ?_
  obtain ⟨z, rfl, ⟨q1, q2, q3⟩, hrun⟩ := h1
  refine At.widen (uc' := uc + 31) (us' := us + 4206) (?_ : At G mL_law room_1 _ _ 1917 _ [vI z] σ1 K) (Nat.add_le_add_left (Nat.le_of_ble_eq_true rfl) _) (Nat.add_le_add_left (Nat.le_of_ble_eq_true rfl) _)
  refine s_istore dL_law_1917 rfl (Nat.le_of_ble_eq_true rfl) rfl ?_
  refine s_aload_n (i := 2) dL_law_1919 rfl rfl ?_
  refine law_ld (j := 1) lda_1920 rfl q1 q2 rfl rfl hcL (by decide) hL ?_
  refine law_ld (j := 2) lda_1926 rfl q1 q2 rfl rfl hcL (by decide) hL ?_
  refine s_i2c (v := i2c _) dL_law_1932 rfl ?_
  refine s_callV (ci := 9) (Y := mX9_outcomeOf) (rmY := rX9_outcomeOf) (as := [vI (xs (4 * c + 1)), vI (i2c (xs (4 * c + 2)))]) (S := []) gk dL_law_1933 gL_258 (by decide) rfl w_1806 w_1807 q3 rfl rfl (by decide) ⟨Nat.le_of_ble_eq_true rfl, Nat.le_of_ble_eq_true rfl, Nat.le_trans (le0 (Nat.le_of_ble_eq_true rfl)) huc, Nat.le_trans (le0 (Nat.le_of_ble_eq_true rfl)) hus⟩ (hrun _ fun w σ2 h2 h6 hφ => ?_)
  exact At.widen (uc' := uc + 31) (us' := us + 4206) (law_tI gk tli_1936 rfl h2 h6 hφ huc hus (kk σ2 h2)) (le0 (Nat.le_of_ble_eq_true rfl)) (le0 (Nat.le_of_ble_eq_true rfl))
theorem law_c27 (ok : OKS G) (h : LI b0 Ln xs x c σ) (hcL : 4 * c + 4 ≤ Ln) (hL : Ln ≤ 2048) (huc : uc + 31 ≤ 603072) (hus : us + 4206 ≤ 7198826) (kk : ∀ σ', LI b0 Ln xs x (c + 1) σ' → At G mL_law room_1 (uc + 31) (us + 4206) 2975 [some (vR (some b0)), some (vR (some x)), some (vR (some (x + 788))), some (vR (some (x + 796))), some (vR (some (x + 797))), some (vI (nI (4 * c))), none, none, none] [] σ' K) : At G mL_law room_1 uc us 1969 [some (vR (some b0)), some (vR (some x)), some (vR (some (x + 788))), some (vR (some (x + 796))), some (vR (some (x + 797))), some (vI (nI (4 * c))), none, none, none] [] σ K := by
  have gk := ok.1
  have hc5 : c ≤ 512 := by omega
  obtain ⟨A0, B0, hC0, hM0, hb0, hE0⟩ := id h
  have p1 := hE0.2.1
  have p2 := hE0.2.2.1
  refine s_aload_n (i := 1) dL_law_1969 rfl rfl ?_
  refine law_ld (j := 1) lda_1970 rfl p1 p2 rfl rfl hcL (by decide) hL ?_
  refine law_ld (j := 2) lda_1976 rfl p1 p2 rfl rfl hcL (by decide) hL ?_
  refine s_i2c (v := i2c _) dL_law_1982 rfl ?_
  refine law_ld (j := 3) lda_1983 rfl p1 p2 rfl rfl hcL (by decide) hL ?_
  refine s_aload_n (i := 3) dL_law_1989 rfl rfl ?_
  refine s_callSH (Y := mL_warm) (hh := hL_warm) (rmY := rL_warm) (as := [vR (some x), vI (xs (4 * c + 1)), vI (i2c (xs (4 * c + 2))), vI (xs (4 * c + 3)), vR (some (x + 796))]) (S := []) gk dL_law_1990 (kL_warm _ _ w_934) w_935 rfl rfl (by decide) ⟨Nat.le_of_ble_eq_true rfl, Nat.le_of_ble_eq_true rfl, Nat.le_trans (Nat.add_le_add_left (Nat.le_of_ble_eq_true rfl) _) huc, Nat.le_trans (Nat.add_le_add_left (Nat.le_of_ble_eq_true rfl) _) hus⟩ ?_
  refine (op_warm ok h hc5 (isC_i2c _)).mono fun r σ1 h1 => ?_
  obtain ⟨z, rfl, ⟨q1, q2, q3⟩, hrun⟩ := h1
  refine At.widen (uc' := uc + 31) (us' := us + 4206) (?_ : At G mL_law room_1 _ _ 1993 _ [vI z] σ1 K) (Nat.add_le_add_left (Nat.le_of_ble_eq_true rfl) _) (Nat.add_le_add_left (Nat.le_of_ble_eq_true rfl) _)
  refine s_istore dL_law_1993 rfl (Nat.le_of_ble_eq_true rfl) rfl ?_
  refine s_aload_n (i := 2) dL_law_1995 rfl rfl ?_
  refine law_ld (j := 1) lda_1996 rfl q1 q2 rfl rfl hcL (by decide) hL ?_
  refine law_ld (j := 2) lda_2002 rfl q1 q2 rfl rfl hcL (by decide) hL ?_
  refine s_i2c (v := i2c _) dL_law_2008 rfl ?_
  refine law_ld (j := 3) lda_2009 rfl q1 q2 rfl rfl hcL (by decide) hL ?_
  refine s_callV (ci := 9) (Y := mX9_warm) (rmY := rX9_warm) (as := [vI (xs (4 * c + 1)), vI (i2c (xs (4 * c + 2))), vI (xs (4 * c + 3))]) (S := []) gk dL_law_2015 gL_262 (by decide) rfl w_1810 w_1811 q3 rfl rfl (by decide) ⟨Nat.le_of_ble_eq_true rfl, Nat.le_of_ble_eq_true rfl, Nat.le_trans (le0 (Nat.le_of_ble_eq_true rfl)) huc, Nat.le_trans (le0 (Nat.le_of_ble_eq_true rfl)) hus⟩ (hrun _ fun w σ2 h2 h6 hφ => ?_)
  exact At.widen (uc' := uc + 31) (us' := us + 4206) (law_tI gk tli_2018 rfl h2 h6 hφ huc hus (kk σ2 h2)) (le0 (Nat.le_of_ble_eq_true rfl)) (le0 (Nat.le_of_ble_eq_true rfl))
theorem law_c28 (ok : OKS G) (h : LI b0 Ln xs x c σ) (hcL : 4 * c + 4 ≤ Ln) (hL : Ln ≤ 2048) (huc : uc + 31 ≤ 603072) (hus : us + 4206 ≤ 7198826) (kk : ∀ σ', LI b0 Ln xs x (c + 1) σ' → At G mL_law room_1 (uc + 31) (us + 4206) 2975 [some (vR (some b0)), some (vR (some x)), some (vR (some (x + 788))), some (vR (some (x + 796))), some (vR (some (x + 797))), some (vI (nI (4 * c))), none, none, none] [] σ' K) : At G mL_law room_1 uc us 2051 [some (vR (some b0)), some (vR (some x)), some (vR (some (x + 788))), some (vR (some (x + 796))), some (vR (some (x + 797))), some (vI (nI (4 * c))), none, none, none] [] σ K := by
  have gk := ok.1
  have hc5 : c ≤ 512 := by omega
  obtain ⟨A0, B0, hC0, hM0, hb0, hE0⟩ := id h
  have p1 := hE0.2.1
  have p2 := hE0.2.2.1
  refine s_aload_n (i := 1) dL_law_2051 rfl rfl ?_
  refine law_ld (j := 1) lda_2052 rfl p1 p2 rfl rfl hcL (by decide) hL ?_
  refine s_aload_n (i := 3) dL_law_2058 rfl rfl ?_
  refine s_callSH (Y := mL_cancelWarming) (hh := hL_cancelWarming) (rmY := rL_cancelWarming) (as := [vR (some x), vI (xs (4 * c + 1)), vR (some (x + 796))]) (S := []) gk dL_law_2059 (kL_cancelWarming _ _ w_959) w_960 rfl rfl (by decide) ⟨Nat.le_of_ble_eq_true rfl, Nat.le_of_ble_eq_true rfl, Nat.le_trans (Nat.add_le_add_left (Nat.le_of_ble_eq_true rfl) _) huc, Nat.le_trans (Nat.add_le_add_left (Nat.le_of_ble_eq_true rfl) _) hus⟩ ?_
  refine (op_cancelWarming ok h hc5).mono fun r σ1 h1 => ?_
  obtain ⟨z, rfl, ⟨q1, q2, q3⟩, hrun⟩ := h1
  refine At.widen (uc' := uc + 31) (us' := us + 4206) (?_ : At G mL_law room_1 _ _ 2062 _ [vI z] σ1 K) (Nat.add_le_add_left (Nat.le_of_ble_eq_true rfl) _) (Nat.add_le_add_left (Nat.le_of_ble_eq_true rfl) _)
  refine s_istore dL_law_2062 rfl (Nat.le_of_ble_eq_true rfl) rfl ?_
  refine s_aload_n (i := 2) dL_law_2064 rfl rfl ?_
  refine law_ld (j := 1) lda_2065 rfl q1 q2 rfl rfl hcL (by decide) hL ?_
  refine s_callV (ci := 9) (Y := mX9_cancelWarming) (rmY := rX9_cancelWarming) (as := [vI (xs (4 * c + 1))]) (S := []) gk dL_law_2071 gL_265 (by decide) rfl w_1818 w_1819 q3 rfl rfl (by decide) ⟨Nat.le_of_ble_eq_true rfl, Nat.le_of_ble_eq_true rfl, Nat.le_trans (le0 (Nat.le_of_ble_eq_true rfl)) huc, Nat.le_trans (le0 (Nat.le_of_ble_eq_true rfl)) hus⟩ (hrun _ fun w σ2 h2 h6 hφ => ?_)
  exact At.widen (uc' := uc + 31) (us' := us + 4206) (law_tI gk tli_2074 rfl h2 h6 hφ huc hus (kk σ2 h2)) (le0 (Nat.le_of_ble_eq_true rfl)) (le0 (Nat.le_of_ble_eq_true rfl))
theorem law_c29 (ok : OKS G) (h : LI b0 Ln xs x c σ) (hcL : 4 * c + 4 ≤ Ln) (hL : Ln ≤ 2048) (huc : uc + 31 ≤ 603072) (hus : us + 4206 ≤ 7198826) (kk : ∀ σ', LI b0 Ln xs x (c + 1) σ' → At G mL_law room_1 (uc + 31) (us + 4206) 2975 [some (vR (some b0)), some (vR (some x)), some (vR (some (x + 788))), some (vR (some (x + 796))), some (vR (some (x + 797))), some (vI (nI (4 * c))), none, none, none] [] σ' K) : At G mL_law room_1 uc us 2107 [some (vR (some b0)), some (vR (some x)), some (vR (some (x + 788))), some (vR (some (x + 796))), some (vR (some (x + 797))), some (vI (nI (4 * c))), none, none, none] [] σ K := by
  have gk := ok.1
  have hc5 : c ≤ 512 := by omega
  obtain ⟨A0, B0, hC0, hM0, hb0, hE0⟩ := id h
  have p1 := hE0.2.1
  have p2 := hE0.2.2.1
  refine s_aload_n (i := 1) dL_law_2107 rfl rfl ?_
  refine law_ld (j := 1) lda_2108 rfl p1 p2 rfl rfl hcL (by decide) hL ?_
  refine s_aload_n (i := 3) dL_law_2114 rfl rfl ?_
  refine s_callSH (Y := mL_pass) (hh := hL_pass) (rmY := rL_pass) (as := [vR (some x), vI (xs (4 * c + 1)), vR (some (x + 796))]) (S := []) gk dL_law_2115 (kL_pass _ _ w_979) w_980 rfl rfl (by decide) ⟨Nat.le_of_ble_eq_true rfl, Nat.le_of_ble_eq_true rfl, Nat.le_trans (Nat.add_le_add_left (Nat.le_of_ble_eq_true rfl) _) huc, Nat.le_trans (Nat.add_le_add_left (Nat.le_of_ble_eq_true rfl) _) hus⟩ ?_
  refine (op_pass ok h hc5).mono fun r σ1 h1 => ?_
  obtain ⟨z, rfl, ⟨q1, q2, q3⟩, hrun⟩ := h1
  refine At.widen (uc' := uc + 31) (us' := us + 4206) (?_ : At G mL_law room_1 _ _ 2118 _ [vI z] σ1 K) (Nat.add_le_add_left (Nat.le_of_ble_eq_true rfl) _) (Nat.add_le_add_left (Nat.le_of_ble_eq_true rfl) _)
  refine s_istore dL_law_2118 rfl (Nat.le_of_ble_eq_true rfl) rfl ?_
  refine s_aload_n (i := 2) dL_law_2120 rfl rfl ?_
  refine law_ld (j := 1) lda_2121 rfl q1 q2 rfl rfl hcL (by decide) hL ?_
  refine s_callV (ci := 9) (Y := mX9_pass) (rmY := rX9_pass) (as := [vI (xs (4 * c + 1))]) (S := []) gk dL_law_2127 gL_268 (by decide) rfl w_1830 w_1831 q3 rfl rfl (by decide) ⟨Nat.le_of_ble_eq_true rfl, Nat.le_of_ble_eq_true rfl, Nat.le_trans (le0 (Nat.le_of_ble_eq_true rfl)) huc, Nat.le_trans (le0 (Nat.le_of_ble_eq_true rfl)) hus⟩ (hrun _ fun w σ2 h2 h6 hφ => ?_)
  exact At.widen (uc' := uc + 31) (us' := us + 4206) (law_tI gk tli_2130 rfl h2 h6 hφ huc hus (kk σ2 h2)) (le0 (Nat.le_of_ble_eq_true rfl)) (le0 (Nat.le_of_ble_eq_true rfl))
theorem law_c30 (ok : OKS G) (h : LI b0 Ln xs x c σ) (hcL : 4 * c + 4 ≤ Ln) (hL : Ln ≤ 2048) (huc : uc + 31 ≤ 603072) (hus : us + 4206 ≤ 7198826) (kk : ∀ σ', LI b0 Ln xs x (c + 1) σ' → At G mL_law room_1 (uc + 31) (us + 4206) 2975 [some (vR (some b0)), some (vR (some x)), some (vR (some (x + 788))), some (vR (some (x + 796))), some (vR (some (x + 797))), some (vI (nI (4 * c))), none, none, none] [] σ' K) : At G mL_law room_1 uc us 2163 [some (vR (some b0)), some (vR (some x)), some (vR (some (x + 788))), some (vR (some (x + 796))), some (vR (some (x + 797))), some (vI (nI (4 * c))), none, none, none] [] σ K := by
  have gk := ok.1
  have hc5 : c ≤ 512 := by omega
  obtain ⟨A, b, hC, hM, hb, hE⟩ := id h
  have hR : RS σ (x + 1) (mi σ (x + 788 + 1)) b := by rw [hM.2.1]; exact hC.2.1
  have hbl := hb.lt hc5
  refine s_aload_n (i := 1) dL_law_2163 rfl rfl ?_
  refine s_callV (ci := 8) (Y := mX8_time) (rmY := rX8_time) (as := []) (S := []) gk dL_law_2164 gL_269 (by decide) rfl w_376 w_377 hC.1.1 rfl rfl (by decide) ⟨Nat.le_of_ble_eq_true rfl, Nat.le_of_ble_eq_true rfl, Nat.le_trans (Nat.add_le_add_left (Nat.le_of_ble_eq_true rfl) _) huc, Nat.le_trans (Nat.add_le_add_left (Nat.le_of_ble_eq_true rfl) _) hus⟩ (c_time gk hC.1 hR ?_)
  refine At.widen (uc' := uc + 31) (us' := us + 4206) (?_ : At G mL_law room_1 _ _ 2167 _ [vI _] σ K) (Nat.add_le_add_left (Nat.le_of_ble_eq_true rfl) _) (Nat.add_le_add_left (Nat.le_of_ble_eq_true rfl) _)
  refine s_aload_n (i := 2) dL_law_2167 rfl rfl ?_
  refine s_callV (ci := 9) (Y := mX9_time) (rmY := rX9_time) (as := []) (S := [vI _]) gk dL_law_2168 gL_272 (by decide) rfl w_1838 w_1839 hM.1.ty rfl rfl (Nat.le_of_ble_eq_true rfl) ⟨Nat.le_of_ble_eq_true rfl, Nat.le_of_ble_eq_true rfl, Nat.le_trans (le0 (Nat.le_of_ble_eq_true rfl)) huc, Nat.le_trans (le0 (Nat.le_of_ble_eq_true rfl)) hus⟩ (kX9_time gk hM.1 ?_)
  refine At.widen (uc' := uc + 31) (us' := us + 4206) (?_ : At G mL_law room_1 _ _ 2171 _ [vI _, vI _] _ K) (le0 (Nat.le_of_ble_eq_true rfl)) (le0 (Nat.le_of_ble_eq_true rfl))
  exact s_icmp_eq (tgt := 2975) dL_law_2171 rfl (fun _ => kk _ (law_th hE hC hM hb)) (fun g => absurd rfl g)
theorem law_c31 (ok : OKS G) (h : LI b0 Ln xs x c σ) (hcL : 4 * c + 4 ≤ Ln) (hL : Ln ≤ 2048) (huc : uc + 31 ≤ 603072) (hus : us + 4206 ≤ 7198826) (kk : ∀ σ', LI b0 Ln xs x (c + 1) σ' → At G mL_law room_1 (uc + 31) (us + 4206) 2975 [some (vR (some b0)), some (vR (some x)), some (vR (some (x + 788))), some (vR (some (x + 796))), some (vR (some (x + 797))), some (vI (nI (4 * c))), none, none, none] [] σ' K) : At G mL_law room_1 uc us 2176 [some (vR (some b0)), some (vR (some x)), some (vR (some (x + 788))), some (vR (some (x + 796))), some (vR (some (x + 797))), some (vI (nI (4 * c))), none, none, none] [] σ K := by
  have gk := ok.1
  have hc5 : c ≤ 512 := by omega
  obtain ⟨A, b, hC, hM, hb, hE⟩ := id h
  have hR : RS σ (x + 1) (mi σ (x + 788 + 1)) b := by rw [hM.2.1]; exact hC.2.1
  have hbl := hb.lt hc5
  refine s_aload_n (i := 1) dL_law_2176 rfl rfl ?_
  refine s_callV (ci := 8) (Y := mX8_warmingCount) (rmY := rX8_warmingCount) (as := []) (S := []) gk dL_law_2177 gL_273 (by decide) rfl w_380 w_381 hC.1.1 rfl rfl (by decide) ⟨Nat.le_of_ble_eq_true rfl, Nat.le_of_ble_eq_true rfl, Nat.le_trans (Nat.add_le_add_left (Nat.le_of_ble_eq_true rfl) _) huc, Nat.le_trans (Nat.add_le_add_left (Nat.le_of_ble_eq_true rfl) _) hus⟩ (c_warmingCount gk hC.1 hR ?_)
  refine At.widen (uc' := uc + 31) (us' := us + 4206) (?_ : At G mL_law room_1 _ _ 2180 _ [vI _] σ K) (Nat.add_le_add_left (Nat.le_of_ble_eq_true rfl) _) (Nat.add_le_add_left (Nat.le_of_ble_eq_true rfl) _)
  refine s_aload_n (i := 2) dL_law_2180 rfl rfl ?_
  refine s_callV (ci := 9) (Y := mX9_warmingCount) (rmY := rX9_warmingCount) (as := []) (S := [vI _]) gk dL_law_2181 gL_276 (by decide) rfl w_1842 w_1843 hM.1.ty rfl rfl (Nat.le_of_ble_eq_true rfl) ⟨Nat.le_of_ble_eq_true rfl, Nat.le_of_ble_eq_true rfl, Nat.le_trans (le0 (Nat.le_of_ble_eq_true rfl)) huc, Nat.le_trans (le0 (Nat.le_of_ble_eq_true rfl)) hus⟩ (kX9_warmingCount gk hM.1 ?_)
  refine At.widen (uc' := uc + 31) (us' := us + 4206) (?_ : At G mL_law room_1 _ _ 2184 _ [vI _, vI _] _ K) (le0 (Nat.le_of_ble_eq_true rfl)) (le0 (Nat.le_of_ble_eq_true rfl))
  exact s_icmp_eq (tgt := 2975) dL_law_2184 rfl (fun _ => kk _ (law_th hE hC hM hb)) (fun g => absurd rfl g)
theorem law_c32 (ok : OKS G) (h : LI b0 Ln xs x c σ) (hcL : 4 * c + 4 ≤ Ln) (hL : Ln ≤ 2048) (huc : uc + 31 ≤ 603072) (hus : us + 4206 ≤ 7198826) (kk : ∀ σ', LI b0 Ln xs x (c + 1) σ' → At G mL_law room_1 (uc + 31) (us + 4206) 2975 [some (vR (some b0)), some (vR (some x)), some (vR (some (x + 788))), some (vR (some (x + 796))), some (vR (some (x + 797))), some (vI (nI (4 * c))), none, none, none] [] σ' K) : At G mL_law room_1 uc us 2189 [some (vR (some b0)), some (vR (some x)), some (vR (some (x + 788))), some (vR (some (x + 796))), some (vR (some (x + 797))), some (vI (nI (4 * c))), none, none, none] [] σ K := by
  have gk := ok.1
  have hc5 : c ≤ 512 := by omega
  obtain ⟨A0, B0, hC0, hM0, hb0, hE0⟩ := id h
  have p1 := hE0.2.1
  have p2 := hE0.2.2.1
  refine s_aload_n (i := 1) dL_law_2189 rfl rfl ?_
  refine law_ld (j := 1) lda_2190 rfl p1 p2 rfl rfl hcL (by decide) hL ?_
  refine s_aload_n (i := 3) dL_law_2196 rfl rfl ?_
  refine s_callSH (Y := mL_warmingMinute) (hh := hL_warmingMinute) (rmY := rL_warmingMinute) (as := [vR (some x), vI (xs (4 * c + 1)), vR (some (x + 796))]) (S := []) gk dL_law_2197 (kL_warmingMinute _ _ w_994) w_995 rfl rfl (by decide) ⟨Nat.le_of_ble_eq_true rfl, Nat.le_of_ble_eq_true rfl, Nat.le_trans (Nat.add_le_add_left (Nat.le_of_ble_eq_true rfl) _) huc, Nat.le_trans (Nat.add_le_add_left (Nat.le_of_ble_eq_true rfl) _) hus⟩ ?_
  refine (op_warmingMinute ok h).mono fun r σ1 h1 => ?_
  obtain ⟨z, rfl, ⟨q1, q2, q3⟩, hrun⟩ := h1
  refine At.widen (uc' := uc + 31) (us' := us + 4206) (?_ : At G mL_law room_1 _ _ 2200 _ [vI z] σ1 K) (Nat.add_le_add_left (Nat.le_of_ble_eq_true rfl) _) (Nat.add_le_add_left (Nat.le_of_ble_eq_true rfl) _)
  refine s_istore dL_law_2200 rfl (Nat.le_of_ble_eq_true rfl) rfl ?_
  refine s_aload_n (i := 2) dL_law_2202 rfl rfl ?_
  refine law_ld (j := 1) lda_2203 rfl q1 q2 rfl rfl hcL (by decide) hL ?_
  refine s_callV (ci := 9) (Y := mX9_warmingMinute) (rmY := rX9_warmingMinute) (as := [vI (xs (4 * c + 1))]) (S := []) gk dL_law_2209 gL_279 (by decide) rfl w_1846 w_1847 q3 rfl rfl (by decide) ⟨Nat.le_of_ble_eq_true rfl, Nat.le_of_ble_eq_true rfl, Nat.le_trans (le0 (Nat.le_of_ble_eq_true rfl)) huc, Nat.le_trans (le0 (Nat.le_of_ble_eq_true rfl)) hus⟩ (hrun _ fun w σ2 h2 h6 hφ => ?_)
  exact At.widen (uc' := uc + 31) (us' := us + 4206) (law_tI gk tli_2212 rfl h2 h6 hφ huc hus (kk σ2 h2)) (le0 (Nat.le_of_ble_eq_true rfl)) (le0 (Nat.le_of_ble_eq_true rfl))
theorem law_c33 (ok : OKS G) (h : LI b0 Ln xs x c σ) (hcL : 4 * c + 4 ≤ Ln) (hL : Ln ≤ 2048) (huc : uc + 31 ≤ 603072) (hus : us + 4206 ≤ 7198826) (kk : ∀ σ', LI b0 Ln xs x (c + 1) σ' → At G mL_law room_1 (uc + 31) (us + 4206) 2975 [some (vR (some b0)), some (vR (some x)), some (vR (some (x + 788))), some (vR (some (x + 796))), some (vR (some (x + 797))), some (vI (nI (4 * c))), none, none, none] [] σ' K) : At G mL_law room_1 uc us 2245 [some (vR (some b0)), some (vR (some x)), some (vR (some (x + 788))), some (vR (some (x + 796))), some (vR (some (x + 797))), some (vI (nI (4 * c))), none, none, none] [] σ K := by
  have gk := ok.1
  have hc5 : c ≤ 512 := by omega
  obtain ⟨A0, B0, hC0, hM0, hb0, hE0⟩ := id h
  have p1 := hE0.2.1
  have p2 := hE0.2.2.1
  refine s_aload_n (i := 1) dL_law_2245 rfl rfl ?_
  refine law_ld (j := 1) lda_2246 rfl p1 p2 rfl rfl hcL (by decide) hL ?_
  refine s_aload_n (i := 3) dL_law_2252 rfl rfl ?_
  refine s_callSH (Y := mL_warmingJar) (hh := hL_warmingJar) (rmY := rL_warmingJar) (as := [vR (some x), vI (xs (4 * c + 1)), vR (some (x + 796))]) (S := []) gk dL_law_2253 (kL_warmingJar _ _ w_1001) w_1002 rfl rfl (by decide) ⟨Nat.le_of_ble_eq_true rfl, Nat.le_of_ble_eq_true rfl, Nat.le_trans (Nat.add_le_add_left (Nat.le_of_ble_eq_true rfl) _) huc, Nat.le_trans (Nat.add_le_add_left (Nat.le_of_ble_eq_true rfl) _) hus⟩ ?_
  refine (op_warmingJar ok h).mono fun r σ1 h1 => ?_
  obtain ⟨z, rfl, ⟨q1, q2, q3⟩, hrun⟩ := h1
  refine At.widen (uc' := uc + 31) (us' := us + 4206) (?_ : At G mL_law room_1 _ _ 2256 _ [vI z] σ1 K) (Nat.add_le_add_left (Nat.le_of_ble_eq_true rfl) _) (Nat.add_le_add_left (Nat.le_of_ble_eq_true rfl) _)
  refine s_istore dL_law_2256 rfl (Nat.le_of_ble_eq_true rfl) rfl ?_
  refine s_aload_n (i := 2) dL_law_2258 rfl rfl ?_
  refine law_ld (j := 1) lda_2259 rfl q1 q2 rfl rfl hcL (by decide) hL ?_
  refine s_callV (ci := 9) (Y := mX9_warmingJar) (rmY := rX9_warmingJar) (as := [vI (xs (4 * c + 1))]) (S := []) gk dL_law_2265 gL_282 (by decide) rfl w_1850 w_1851 q3 rfl rfl (by decide) ⟨Nat.le_of_ble_eq_true rfl, Nat.le_of_ble_eq_true rfl, Nat.le_trans (le0 (Nat.le_of_ble_eq_true rfl)) huc, Nat.le_trans (le0 (Nat.le_of_ble_eq_true rfl)) hus⟩ (hrun _ fun w σ2 h2 h6 hφ => ?_)
  exact At.widen (uc' := uc + 31) (us' := us + 4206) (law_tI gk tli_2268 rfl h2 h6 hφ huc hus (kk σ2 h2)) (le0 (Nat.le_of_ble_eq_true rfl)) (le0 (Nat.le_of_ble_eq_true rfl))
theorem law_c34 (ok : OKS G) (h : LI b0 Ln xs x c σ) (hcL : 4 * c + 4 ≤ Ln) (hL : Ln ≤ 2048) (huc : uc + 31 ≤ 603072) (hus : us + 4206 ≤ 7198826) (kk : ∀ σ', LI b0 Ln xs x (c + 1) σ' → At G mL_law room_1 (uc + 31) (us + 4206) 2975 [some (vR (some b0)), some (vR (some x)), some (vR (some (x + 788))), some (vR (some (x + 796))), some (vR (some (x + 797))), some (vI (nI (4 * c))), none, none, none] [] σ' K) : At G mL_law room_1 uc us 2301 [some (vR (some b0)), some (vR (some x)), some (vR (some (x + 788))), some (vR (some (x + 796))), some (vR (some (x + 797))), some (vI (nI (4 * c))), none, none, none] [] σ K := by
  have gk := ok.1
  have hc5 : c ≤ 512 := by omega
  obtain ⟨A, b, hC, hM, hb, hE⟩ := id h
  have hR : RS σ (x + 1) (mi σ (x + 788 + 1)) b := by rw [hM.2.1]; exact hC.2.1
  have hbl := hb.lt hc5
  refine s_aload_n (i := 1) dL_law_2301 rfl rfl ?_
  refine s_callV (ci := 8) (Y := mX8_hits) (rmY := rX8_hits) (as := []) (S := []) gk dL_law_2302 gL_283 (by decide) rfl w_388 w_389 hC.1.1 rfl rfl (by decide) ⟨Nat.le_of_ble_eq_true rfl, Nat.le_of_ble_eq_true rfl, Nat.le_trans (Nat.add_le_add_left (Nat.le_of_ble_eq_true rfl) _) huc, Nat.le_trans (Nat.add_le_add_left (Nat.le_of_ble_eq_true rfl) _) hus⟩ (c_hits gk hC.1 hR ?_)
  refine At.widen (uc' := uc + 31) (us' := us + 4206) (?_ : At G mL_law room_1 _ _ 2305 _ [vI _] σ K) (Nat.add_le_add_left (Nat.le_of_ble_eq_true rfl) _) (Nat.add_le_add_left (Nat.le_of_ble_eq_true rfl) _)
  refine s_aload_n (i := 2) dL_law_2305 rfl rfl ?_
  refine s_callV (ci := 9) (Y := mX9_hits) (rmY := rX9_hits) (as := []) (S := [vI _]) gk dL_law_2306 gL_286 (by decide) rfl w_1854 w_1855 hM.1.ty rfl rfl (Nat.le_of_ble_eq_true rfl) ⟨Nat.le_of_ble_eq_true rfl, Nat.le_of_ble_eq_true rfl, Nat.le_trans (le0 (Nat.le_of_ble_eq_true rfl)) huc, Nat.le_trans (le0 (Nat.le_of_ble_eq_true rfl)) hus⟩ (kX9_hits gk hM.1 ?_)
  refine At.widen (uc' := uc + 31) (us' := us + 4206) (?_ : At G mL_law room_1 _ _ 2309 _ [vI _, vI _] _ K) (le0 (Nat.le_of_ble_eq_true rfl)) (le0 (Nat.le_of_ble_eq_true rfl))
  exact s_icmp_eq (tgt := 2975) dL_law_2309 rfl (fun _ => kk _ (law_th hE hC hM hb)) (fun g => absurd rfl g)
theorem law_c35 (ok : OKS G) (h : LI b0 Ln xs x c σ) (hcL : 4 * c + 4 ≤ Ln) (hL : Ln ≤ 2048) (huc : uc + 31 ≤ 603072) (hus : us + 4206 ≤ 7198826) (kk : ∀ σ', LI b0 Ln xs x (c + 1) σ' → At G mL_law room_1 (uc + 31) (us + 4206) 2975 [some (vR (some b0)), some (vR (some x)), some (vR (some (x + 788))), some (vR (some (x + 796))), some (vR (some (x + 797))), some (vI (nI (4 * c))), none, none, none] [] σ' K) : At G mL_law room_1 uc us 2314 [some (vR (some b0)), some (vR (some x)), some (vR (some (x + 788))), some (vR (some (x + 796))), some (vR (some (x + 797))), some (vI (nI (4 * c))), none, none, none] [] σ K := by
  have gk := ok.1
  have hc5 : c ≤ 512 := by omega
  obtain ⟨A0, B0, hC0, hM0, hb0, hE0⟩ := id h
  have p1 := hE0.2.1
  have p2 := hE0.2.2.1
  refine s_aload_n (i := 1) dL_law_2314 rfl rfl ?_
  refine law_ld (j := 1) lda_2315 rfl p1 p2 rfl rfl hcL (by decide) hL ?_
  refine s_i2c (v := i2c _) dL_law_2321 rfl ?_
  refine s_aload_n (i := 3) dL_law_2322 rfl rfl ?_
  refine s_callSH (Y := mL_misses) (hh := hL_misses) (rmY := rL_misses) (as := [vR (some x), vI (i2c (xs (4 * c + 1))), vR (some (x + 796))]) (S := []) gk dL_law_2323 (kL_misses _ _ w_1008) w_1009 rfl rfl (by decide) ⟨Nat.le_of_ble_eq_true rfl, Nat.le_of_ble_eq_true rfl, Nat.le_trans (Nat.add_le_add_left (Nat.le_of_ble_eq_true rfl) _) huc, Nat.le_trans (Nat.add_le_add_left (Nat.le_of_ble_eq_true rfl) _) hus⟩ ?_
  refine (op_misses ok h).mono fun r σ1 h1 => ?_
  obtain ⟨z, rfl, ⟨q1, q2, q3⟩, hrun⟩ := h1
  refine At.widen (uc' := uc + 31) (us' := us + 4206) (?_ : At G mL_law room_1 _ _ 2326 _ [vI z] σ1 K) (Nat.add_le_add_left (Nat.le_of_ble_eq_true rfl) _) (Nat.add_le_add_left (Nat.le_of_ble_eq_true rfl) _)
  refine s_istore dL_law_2326 rfl (Nat.le_of_ble_eq_true rfl) rfl ?_
  refine s_aload_n (i := 2) dL_law_2328 rfl rfl ?_
  refine law_ld (j := 1) lda_2329 rfl q1 q2 rfl rfl hcL (by decide) hL ?_
  refine s_i2c (v := i2c _) dL_law_2335 rfl ?_
  refine s_callV (ci := 9) (Y := mX9_misses) (rmY := rX9_misses) (as := [vI (i2c (xs (4 * c + 1)))]) (S := []) gk dL_law_2336 gL_289 (by decide) rfl w_1858 w_1859 q3 rfl rfl (by decide) ⟨Nat.le_of_ble_eq_true rfl, Nat.le_of_ble_eq_true rfl, Nat.le_trans (le0 (Nat.le_of_ble_eq_true rfl)) huc, Nat.le_trans (le0 (Nat.le_of_ble_eq_true rfl)) hus⟩ (hrun _ fun w σ2 h2 h6 hφ => ?_)
  exact At.widen (uc' := uc + 31) (us' := us + 4206) (law_tI gk tli_2339 rfl h2 h6 hφ huc hus (kk σ2 h2)) (le0 (Nat.le_of_ble_eq_true rfl)) (le0 (Nat.le_of_ble_eq_true rfl))
theorem law_c36 (ok : OKS G) (h : LI b0 Ln xs x c σ) (hcL : 4 * c + 4 ≤ Ln) (hL : Ln ≤ 2048) (huc : uc + 31 ≤ 603072) (hus : us + 4206 ≤ 7198826) (kk : ∀ σ', LI b0 Ln xs x (c + 1) σ' → At G mL_law room_1 (uc + 31) (us + 4206) 2975 [some (vR (some b0)), some (vR (some x)), some (vR (some (x + 788))), some (vR (some (x + 796))), some (vR (some (x + 797))), some (vI (nI (4 * c))), none, none, none] [] σ' K) : At G mL_law room_1 uc us 2372 [some (vR (some b0)), some (vR (some x)), some (vR (some (x + 788))), some (vR (some (x + 796))), some (vR (some (x + 797))), some (vI (nI (4 * c))), none, none, none] [] σ K := by
  have gk := ok.1
  have hc5 : c ≤ 512 := by omega
  obtain ⟨A0, B0, hC0, hM0, hb0, hE0⟩ := id h
  have p1 := hE0.2.1
  have p2 := hE0.2.2.1
  refine s_aload_n (i := 1) dL_law_2372 rfl rfl ?_
  refine s_aload dL_law_2373 rfl ?_
  refine s_callSH (Y := mL_hitShare) (hh := hL_hitShare) (rmY := rL_hitShare) (as := [vR (some x), vR (some (x + 797))]) (S := []) gk dL_law_2375 (kL_hitShare _ _ w_1016) w_1017 rfl rfl (by decide) ⟨Nat.le_of_ble_eq_true rfl, Nat.le_of_ble_eq_true rfl, Nat.le_trans (Nat.add_le_add_left (Nat.le_of_ble_eq_true rfl) _) huc, Nat.le_trans (Nat.add_le_add_left (Nat.le_of_ble_eq_true rfl) _) hus⟩ ?_
  refine (op_hitShare ok h hc5).mono fun r σ1 h1 => ?_
  obtain ⟨z, rfl, ⟨q1, q2, q3⟩, hrun⟩ := h1
  refine At.widen (uc' := uc + 31) (us' := us + 4206) (?_ : At G mL_law room_1 _ _ 2378 _ [vI z] σ1 K) (Nat.add_le_add_left (Nat.le_of_ble_eq_true rfl) _) (Nat.add_le_add_left (Nat.le_of_ble_eq_true rfl) _)
  refine s_istore dL_law_2378 rfl (Nat.le_of_ble_eq_true rfl) rfl ?_
  refine s_aload_n (i := 2) dL_law_2380 rfl rfl ?_
  refine s_callV (ci := 9) (Y := mX9_hitShare) (rmY := rX9_hitShare) (as := []) (S := []) gk dL_law_2381 gL_293 (by decide) rfl w_1862 w_1863 q3 rfl rfl (by decide) ⟨Nat.le_of_ble_eq_true rfl, Nat.le_of_ble_eq_true rfl, Nat.le_trans (le0 (Nat.le_of_ble_eq_true rfl)) huc, Nat.le_trans (le0 (Nat.le_of_ble_eq_true rfl)) hus⟩ (hrun _ fun w σ2 h2 h6 hφ => ?_)
  exact At.widen (uc' := uc + 31) (us' := us + 4206) (law_tF gk h2 h6 hφ huc hus (kk σ2 h2)) (le0 (Nat.le_of_ble_eq_true rfl)) (le0 (Nat.le_of_ble_eq_true rfl))
theorem law_c37 (ok : OKS G) (h : LI b0 Ln xs x c σ) (hcL : 4 * c + 4 ≤ Ln) (hL : Ln ≤ 2048) (huc : uc + 31 ≤ 603072) (hus : us + 4206 ≤ 7198826) (kk : ∀ σ', LI b0 Ln xs x (c + 1) σ' → At G mL_law room_1 (uc + 31) (us + 4206) 2975 [some (vR (some b0)), some (vR (some x)), some (vR (some (x + 788))), some (vR (some (x + 796))), some (vR (some (x + 797))), some (vI (nI (4 * c))), none, none, none] [] σ' K) : At G mL_law room_1 uc us 2438 [some (vR (some b0)), some (vR (some x)), some (vR (some (x + 788))), some (vR (some (x + 796))), some (vR (some (x + 797))), some (vI (nI (4 * c))), none, none, none] [] σ K := by
  have gk := ok.1
  have hc5 : c ≤ 512 := by omega
  obtain ⟨A0, B0, hC0, hM0, hb0, hE0⟩ := id h
  have p1 := hE0.2.1
  have p2 := hE0.2.2.1
  refine s_aload_n (i := 1) dL_law_2438 rfl rfl ?_
  refine s_aload dL_law_2439 rfl ?_
  refine s_callSH (Y := mL_meanAge) (hh := hL_meanAge) (rmY := rL_meanAge) (as := [vR (some x), vR (some (x + 797))]) (S := []) gk dL_law_2441 (kL_meanAge _ _ w_1040) w_1041 rfl rfl (by decide) ⟨Nat.le_of_ble_eq_true rfl, Nat.le_of_ble_eq_true rfl, Nat.le_trans (Nat.add_le_add_left (Nat.le_of_ble_eq_true rfl) _) huc, Nat.le_trans (Nat.add_le_add_left (Nat.le_of_ble_eq_true rfl) _) hus⟩ ?_
  refine (op_meanAge ok h hc5).mono fun r σ1 h1 => ?_
  obtain ⟨z, rfl, ⟨q1, q2, q3⟩, hrun⟩ := h1
  refine At.widen (uc' := uc + 31) (us' := us + 4206) (?_ : At G mL_law room_1 _ _ 2444 _ [vI z] σ1 K) (Nat.add_le_add_left (Nat.le_of_ble_eq_true rfl) _) (Nat.add_le_add_left (Nat.le_of_ble_eq_true rfl) _)
  refine s_istore dL_law_2444 rfl (Nat.le_of_ble_eq_true rfl) rfl ?_
  refine s_aload_n (i := 2) dL_law_2446 rfl rfl ?_
  refine s_callV (ci := 9) (Y := mX9_meanAge) (rmY := rX9_meanAge) (as := []) (S := []) gk dL_law_2447 gL_296 (by decide) rfl w_1866 w_1867 q3 rfl rfl (by decide) ⟨Nat.le_of_ble_eq_true rfl, Nat.le_of_ble_eq_true rfl, Nat.le_trans (le0 (Nat.le_of_ble_eq_true rfl)) huc, Nat.le_trans (le0 (Nat.le_of_ble_eq_true rfl)) hus⟩ (hrun _ fun w σ2 h2 h6 hφ => ?_)
  exact At.widen (uc' := uc + 31) (us' := us + 4206) (law_tD gk h2 h6 hφ huc hus (kk σ2 h2)) (le0 (Nat.le_of_ble_eq_true rfl)) (le0 (Nat.le_of_ble_eq_true rfl))
theorem law_c38 (ok : OKS G) (h : LI b0 Ln xs x c σ) (hcL : 4 * c + 4 ≤ Ln) (hL : Ln ≤ 2048) (huc : uc + 31 ≤ 603072) (hus : us + 4206 ≤ 7198826) (kk : ∀ σ', LI b0 Ln xs x (c + 1) σ' → At G mL_law room_1 (uc + 31) (us + 4206) 2975 [some (vR (some b0)), some (vR (some x)), some (vR (some (x + 788))), some (vR (some (x + 796))), some (vR (some (x + 797))), some (vI (nI (4 * c))), none, none, none] [] σ' K) : At G mL_law room_1 uc us 2503 [some (vR (some b0)), some (vR (some x)), some (vR (some (x + 788))), some (vR (some (x + 796))), some (vR (some (x + 797))), some (vI (nI (4 * c))), none, none, none] [] σ K := by
  have gk := ok.1
  have hc5 : c ≤ 512 := by omega
  obtain ⟨A0, B0, hC0, hM0, hb0, hE0⟩ := id h
  have p1 := hE0.2.1
  have p2 := hE0.2.2.1
  refine s_aload_n (i := 1) dL_law_2503 rfl rfl ?_
  refine law_ld (j := 1) lda_2504 rfl p1 p2 rfl rfl hcL (by decide) hL ?_
  refine s_aload_n (i := 3) dL_law_2510 rfl rfl ?_
  refine s_callSH (Y := mL_shelfByHits) (hh := hL_shelfByHits) (rmY := rL_shelfByHits) (as := [vR (some x), vI (xs (4 * c + 1)), vR (some (x + 796))]) (S := []) gk dL_law_2511 (kL_shelfByHits _ _ w_1052) w_1053 rfl rfl (by decide) ⟨Nat.le_of_ble_eq_true rfl, Nat.le_of_ble_eq_true rfl, Nat.le_trans (Nat.add_le_add_left (Nat.le_of_ble_eq_true rfl) _) huc, Nat.le_trans (Nat.add_le_add_left (Nat.le_of_ble_eq_true rfl) _) hus⟩ ?_
  refine (op_shelfByHits ok h hc5).mono fun r σ1 h1 => ?_
  obtain ⟨z, rfl, ⟨q1, q2, q3⟩, hrun⟩ := h1
  refine At.widen (uc' := uc + 31) (us' := us + 4206) (?_ : At G mL_law room_1 _ _ 2514 _ [vI z] σ1 K) (Nat.add_le_add_left (Nat.le_of_ble_eq_true rfl) _) (Nat.add_le_add_left (Nat.le_of_ble_eq_true rfl) _)
  refine s_istore dL_law_2514 rfl (Nat.le_of_ble_eq_true rfl) rfl ?_
  refine s_aload_n (i := 2) dL_law_2516 rfl rfl ?_
  refine law_ld (j := 1) lda_2517 rfl q1 q2 rfl rfl hcL (by decide) hL ?_
  refine s_callV (ci := 9) (Y := mX9_shelfByHits) (rmY := rX9_shelfByHits) (as := [vI (xs (4 * c + 1))]) (S := []) gk dL_law_2523 gL_299 (by decide) rfl w_1870 w_1871 q3 rfl rfl (by decide) ⟨Nat.le_of_ble_eq_true rfl, Nat.le_of_ble_eq_true rfl, Nat.le_trans (le0 (Nat.le_of_ble_eq_true rfl)) huc, Nat.le_trans (le0 (Nat.le_of_ble_eq_true rfl)) hus⟩ (hrun _ fun w σ2 h2 h6 hφ => ?_)
  exact At.widen (uc' := uc + 31) (us' := us + 4206) (law_tI gk tli_2526 rfl h2 h6 hφ huc hus (kk σ2 h2)) (le0 (Nat.le_of_ble_eq_true rfl)) (le0 (Nat.le_of_ble_eq_true rfl))
theorem law_c39 (ok : OKS G) (h : LI b0 Ln xs x c σ) (hcL : 4 * c + 4 ≤ Ln) (hL : Ln ≤ 2048) (huc : uc + 31 ≤ 603072) (hus : us + 4206 ≤ 7198826) (kk : ∀ σ', LI b0 Ln xs x (c + 1) σ' → At G mL_law room_1 (uc + 31) (us + 4206) 2975 [some (vR (some b0)), some (vR (some x)), some (vR (some (x + 788))), some (vR (some (x + 796))), some (vR (some (x + 797))), some (vI (nI (4 * c))), none, none, none] [] σ' K) : At G mL_law room_1 uc us 2559 [some (vR (some b0)), some (vR (some x)), some (vR (some (x + 788))), some (vR (some (x + 796))), some (vR (some (x + 797))), some (vI (nI (4 * c))), none, none, none] [] σ K := by
  have gk := ok.1
  have hc5 : c ≤ 512 := by omega
  obtain ⟨A0, B0, hC0, hM0, hb0, hE0⟩ := id h
  have p1 := hE0.2.1
  have p2 := hE0.2.2.1
  refine s_aload_n (i := 1) dL_law_2559 rfl rfl ?_
  refine law_ld (j := 1) lda_2560 rfl p1 p2 rfl rfl hcL (by decide) hL ?_
  refine s_aload_n (i := 3) dL_law_2566 rfl rfl ?_
  refine s_callSH (Y := mL_writeShelf) (hh := hL_writeShelf) (rmY := rL_writeShelf) (as := [vR (some x), vI (xs (4 * c + 1)), vR (some (x + 796))]) (S := []) gk dL_law_2567 (kL_writeShelf _ _ w_1064) w_1065 rfl rfl (by decide) ⟨Nat.le_of_ble_eq_true rfl, Nat.le_of_ble_eq_true rfl, Nat.le_trans (Nat.add_le_add_left (Nat.le_of_ble_eq_true rfl) _) huc, Nat.le_trans (Nat.add_le_add_left (Nat.le_of_ble_eq_true rfl) _) hus⟩ ?_
  refine (op_writeShelf ok h hc5).mono fun r σ1 h1 => ?_
  obtain ⟨z, rfl, ⟨q1, q2, q3⟩, hrun⟩ := h1
  refine At.widen (uc' := uc + 31) (us' := us + 4206) (?_ : At G mL_law room_1 _ _ 2570 _ [vI z] σ1 K) (Nat.add_le_add_left (Nat.le_of_ble_eq_true rfl) _) (Nat.add_le_add_left (Nat.le_of_ble_eq_true rfl) _)
  refine s_istore dL_law_2570 rfl (Nat.le_of_ble_eq_true rfl) rfl ?_
  refine s_aload_n (i := 2) dL_law_2572 rfl rfl ?_
  refine law_ld (j := 1) lda_2573 rfl q1 q2 rfl rfl hcL (by decide) hL ?_
  refine s_callV (ci := 9) (Y := mX9_writeShelf) (rmY := rX9_writeShelf) (as := [vI (xs (4 * c + 1))]) (S := []) gk dL_law_2579 gL_302 (by decide) rfl w_1878 w_1879 q3 rfl rfl (by decide) ⟨Nat.le_of_ble_eq_true rfl, Nat.le_of_ble_eq_true rfl, Nat.le_trans (le0 (Nat.le_of_ble_eq_true rfl)) huc, Nat.le_trans (le0 (Nat.le_of_ble_eq_true rfl)) hus⟩ (hrun _ fun w σ2 h2 h6 hφ => ?_)
  exact At.widen (uc' := uc + 31) (us' := us + 4206) (law_tI gk tli_2582 rfl h2 h6 hφ huc hus (kk σ2 h2)) (le0 (Nat.le_of_ble_eq_true rfl)) (le0 (Nat.le_of_ble_eq_true rfl))
theorem law_c40 (ok : OKS G) (h : LI b0 Ln xs x c σ) (hcL : 4 * c + 4 ≤ Ln) (hL : Ln ≤ 2048) (huc : uc + 31 ≤ 603072) (hus : us + 4206 ≤ 7198826) (kk : ∀ σ', LI b0 Ln xs x (c + 1) σ' → At G mL_law room_1 (uc + 31) (us + 4206) 2975 [some (vR (some b0)), some (vR (some x)), some (vR (some (x + 788))), some (vR (some (x + 796))), some (vR (some (x + 797))), some (vI (nI (4 * c))), none, none, none] [] σ' K) : At G mL_law room_1 uc us 2615 [some (vR (some b0)), some (vR (some x)), some (vR (some (x + 788))), some (vR (some (x + 796))), some (vR (some (x + 797))), some (vI (nI (4 * c))), none, none, none] [] σ K := by
  have gk := ok.1
  have hc5 : c ≤ 512 := by omega
  obtain ⟨A0, B0, hC0, hM0, hb0, hE0⟩ := id h
  have p1 := hE0.2.1
  have p2 := hE0.2.2.1
  refine s_aload_n (i := 1) dL_law_2615 rfl rfl ?_
  refine law_ld (j := 1) lda_2616 rfl p1 p2 rfl rfl hcL (by decide) hL ?_
  refine s_aload_n (i := 3) dL_law_2622 rfl rfl ?_
  refine s_callSH (Y := mL_lineAt) (hh := hL_lineAt) (rmY := rL_lineAt) (as := [vR (some x), vI (xs (4 * c + 1)), vR (some (x + 796))]) (S := []) gk dL_law_2623 (kL_lineAt _ _ w_1356) w_1357 rfl rfl (by decide) ⟨Nat.le_of_ble_eq_true rfl, Nat.le_of_ble_eq_true rfl, Nat.le_trans (Nat.add_le_add_left (Nat.le_of_ble_eq_true rfl) _) huc, Nat.le_trans (Nat.add_le_add_left (Nat.le_of_ble_eq_true rfl) _) hus⟩ ?_
  refine (op_lineAt ok h hc5).mono fun r σ1 h1 => ?_
  obtain ⟨z, rfl, ⟨q1, q2, q3⟩, hrun⟩ := h1
  refine At.widen (uc' := uc + 31) (us' := us + 4206) (?_ : At G mL_law room_1 _ _ 2626 _ [vI z] σ1 K) (Nat.add_le_add_left (Nat.le_of_ble_eq_true rfl) _) (Nat.add_le_add_left (Nat.le_of_ble_eq_true rfl) _)
  refine s_istore dL_law_2626 rfl (Nat.le_of_ble_eq_true rfl) rfl ?_
  refine s_aload_n (i := 2) dL_law_2628 rfl rfl ?_
  refine law_ld (j := 1) lda_2629 rfl q1 q2 rfl rfl hcL (by decide) hL ?_
  refine s_callV (ci := 9) (Y := mX9_lineAt) (rmY := rX9_lineAt) (as := [vI (xs (4 * c + 1))]) (S := []) gk dL_law_2635 gL_305 (by decide) rfl w_1890 w_1891 q3 rfl rfl (by decide) ⟨Nat.le_of_ble_eq_true rfl, Nat.le_of_ble_eq_true rfl, Nat.le_trans (le0 (Nat.le_of_ble_eq_true rfl)) huc, Nat.le_trans (le0 (Nat.le_of_ble_eq_true rfl)) hus⟩ (hrun _ fun w σ2 h2 h6 hφ => ?_)
  exact At.widen (uc' := uc + 31) (us' := us + 4206) (law_tI gk tli_2638 rfl h2 h6 hφ huc hus (kk σ2 h2)) (le0 (Nat.le_of_ble_eq_true rfl)) (le0 (Nat.le_of_ble_eq_true rfl))
theorem law_c41 (ok : OKS G) (h : LI b0 Ln xs x c σ) (hcL : 4 * c + 4 ≤ Ln) (hL : Ln ≤ 2048) (huc : uc + 31 ≤ 603072) (hus : us + 4206 ≤ 7198826) (kk : ∀ σ', LI b0 Ln xs x (c + 1) σ' → At G mL_law room_1 (uc + 31) (us + 4206) 2975 [some (vR (some b0)), some (vR (some x)), some (vR (some (x + 788))), some (vR (some (x + 796))), some (vR (some (x + 797))), some (vI (nI (4 * c))), none, none, none] [] σ' K) : At G mL_law room_1 uc us 2671 [some (vR (some b0)), some (vR (some x)), some (vR (some (x + 788))), some (vR (some (x + 796))), some (vR (some (x + 797))), some (vI (nI (4 * c))), none, none, none] [] σ K := by
  have gk := ok.1
  have hc5 : c ≤ 512 := by omega
  obtain ⟨A, b, hC, hM, hb, hE⟩ := id h
  have hR : RS σ (x + 1) (mi σ (x + 788 + 1)) b := by rw [hM.2.1]; exact hC.2.1
  have hbl := hb.lt hc5
  refine s_aload_n (i := 1) dL_law_2671 rfl rfl ?_
  refine s_callV (ci := 8) (Y := mX8_isConsistent) (rmY := rX8_isConsistent) (as := []) (S := []) gk dL_law_2672 gL_306 (by decide) rfl w_392 w_393 hC.1.1 rfl rfl (by decide) ⟨Nat.le_of_ble_eq_true rfl, Nat.le_of_ble_eq_true rfl, Nat.le_trans (Nat.add_le_add_left (Nat.le_of_ble_eq_true rfl) _) huc, Nat.le_trans (Nat.add_le_add_left (Nat.le_of_ble_eq_true rfl) _) hus⟩ (c_isConsistent gk (Nat.lt_of_lt_of_le hbl (by decide)) hC.1 hR ?_)
  refine At.widen (uc' := uc + 31) (us' := us + 4206) (?_ : At G mL_law room_1 _ _ 2675 _ [vI _] σ K) (Nat.add_le_add_left (Nat.le_of_ble_eq_true rfl) _) (Nat.add_le_add_left (Nat.le_of_ble_eq_true rfl) _)
  refine s_aload_n (i := 2) dL_law_2675 rfl rfl ?_
  refine s_callV (ci := 9) (Y := mX9_isConsistent) (rmY := rX9_isConsistent) (as := []) (S := [vI _]) gk dL_law_2676 gL_310 (by decide) rfl w_1874 w_1875 hM.1.ty rfl rfl (Nat.le_of_ble_eq_true rfl) ⟨Nat.le_of_ble_eq_true rfl, Nat.le_of_ble_eq_true rfl, Nat.le_trans (le0 (Nat.le_of_ble_eq_true rfl)) huc, Nat.le_trans (le0 (Nat.le_of_ble_eq_true rfl)) hus⟩ (kX9_isConsistent gk hM.1 ?_)
  refine At.widen (uc' := uc + 31) (us' := us + 4206) (?_ : At G mL_law room_1 _ _ 2679 _ [vI _, vI _] _ K) (le0 (Nat.le_of_ble_eq_true rfl)) (le0 (Nat.le_of_ble_eq_true rfl))
  exact s_icmp_eq (tgt := 2975) dL_law_2679 rfl (fun _ => kk _ (law_th hE hC hM hb)) (fun g => absurd rfl g)
theorem law_c42 (ok : OKS G) (h : LI b0 Ln xs x c σ) (hcL : 4 * c + 4 ≤ Ln) (hL : Ln ≤ 2048) (huc : uc + 31 ≤ 603072) (hus : us + 4206 ≤ 7198826) (kk : ∀ σ', LI b0 Ln xs x (c + 1) σ' → At G mL_law room_1 (uc + 31) (us + 4206) 2975 [some (vR (some b0)), some (vR (some x)), some (vR (some (x + 788))), some (vR (some (x + 796))), some (vR (some (x + 797))), some (vI (nI (4 * c))), none, none, none] [] σ' K) : At G mL_law room_1 uc us 2684 [some (vR (some b0)), some (vR (some x)), some (vR (some (x + 788))), some (vR (some (x + 796))), some (vR (some (x + 797))), some (vI (nI (4 * c))), none, none, none] [] σ K := by
  have gk := ok.1
  have hc5 : c ≤ 512 := by omega
  obtain ⟨A0, B0, hC0, hM0, hb0, hE0⟩ := id h
  have p1 := hE0.2.1
  have p2 := hE0.2.2.1
  refine s_aload_n (i := 1) dL_law_2684 rfl rfl ?_
  refine law_ld (j := 1) lda_2685 rfl p1 p2 rfl rfl hcL (by decide) hL ?_
  refine s_i2c (v := i2c _) dL_law_2691 rfl ?_
  refine s_aload_n (i := 3) dL_law_2692 rfl rfl ?_
  refine s_callSH (Y := mL_type) (hh := hL_type) (rmY := rL_type) (as := [vR (some x), vI (i2c (xs (4 * c + 1))), vR (some (x + 796))]) (S := []) gk dL_law_2693 (kL_type _ _ w_1374) w_1375 rfl rfl (by decide) ⟨Nat.le_of_ble_eq_true rfl, Nat.le_of_ble_eq_true rfl, Nat.le_trans (Nat.add_le_add_left (Nat.le_of_ble_eq_true rfl) _) huc, Nat.le_trans (Nat.add_le_add_left (Nat.le_of_ble_eq_true rfl) _) hus⟩ ?_
  refine (op_type ok h hc5 (isC_i2c _)).mono fun r σ1 h1 => ?_
  obtain ⟨z, rfl, ⟨q1, q2, q3⟩, hrun⟩ := h1
  refine At.widen (uc' := uc + 31) (us' := us + 4206) (?_ : At G mL_law room_1 _ _ 2696 _ [vI z] σ1 K) (Nat.add_le_add_left (Nat.le_of_ble_eq_true rfl) _) (Nat.add_le_add_left (Nat.le_of_ble_eq_true rfl) _)
  refine s_istore dL_law_2696 rfl (Nat.le_of_ble_eq_true rfl) rfl ?_
  refine s_aload_n (i := 2) dL_law_2698 rfl rfl ?_
  refine law_ld (j := 1) lda_2699 rfl q1 q2 rfl rfl hcL (by decide) hL ?_
  refine s_i2c (v := i2c _) dL_law_2705 rfl ?_
  refine s_callV (ci := 9) (Y := mX9_type) (rmY := rX9_type) (as := [vI (i2c (xs (4 * c + 1)))]) (S := []) gk dL_law_2706 gL_313 (by decide) rfl w_1894 w_1895 q3 rfl rfl (by decide) ⟨Nat.le_of_ble_eq_true rfl, Nat.le_of_ble_eq_true rfl, Nat.le_trans (le0 (Nat.le_of_ble_eq_true rfl)) huc, Nat.le_trans (le0 (Nat.le_of_ble_eq_true rfl)) hus⟩ (hrun _ fun w σ2 h2 h6 hφ => ?_)
  exact At.widen (uc' := uc + 31) (us' := us + 4206) (law_tI gk tli_2709 rfl h2 h6 hφ huc hus (kk σ2 h2)) (le0 (Nat.le_of_ble_eq_true rfl)) (le0 (Nat.le_of_ble_eq_true rfl))
theorem law_c43 (ok : OKS G) (h : LI b0 Ln xs x c σ) (hcL : 4 * c + 4 ≤ Ln) (hL : Ln ≤ 2048) (huc : uc + 31 ≤ 603072) (hus : us + 4206 ≤ 7198826) (kk : ∀ σ', LI b0 Ln xs x (c + 1) σ' → At G mL_law room_1 (uc + 31) (us + 4206) 2975 [some (vR (some b0)), some (vR (some x)), some (vR (some (x + 788))), some (vR (some (x + 796))), some (vR (some (x + 797))), some (vI (nI (4 * c))), none, none, none] [] σ' K) : At G mL_law room_1 uc us 2742 [some (vR (some b0)), some (vR (some x)), some (vR (some (x + 788))), some (vR (some (x + 796))), some (vR (some (x + 797))), some (vI (nI (4 * c))), none, none, none] [] σ K := by
  have gk := ok.1
  have hc5 : c ≤ 512 := by omega
  obtain ⟨A0, B0, hC0, hM0, hb0, hE0⟩ := id h
  have p1 := hE0.2.1
  have p2 := hE0.2.2.1
  refine s_aload_n (i := 1) dL_law_2742 rfl rfl ?_
  refine s_aload_n (i := 3) dL_law_2743 rfl rfl ?_
  refine s_callSH (Y := mL_execute) (hh := hL_execute) (rmY := rL_execute) (as := [vR (some x), vR (some (x + 796))]) (S := []) gk dL_law_2744 (kL_execute _ _ w_1387) w_1388 rfl rfl (by decide) ⟨Nat.le_of_ble_eq_true rfl, Nat.le_of_ble_eq_true rfl, Nat.le_trans (Nat.add_le_add_left (Nat.le_of_ble_eq_true rfl) _) huc, Nat.le_trans (Nat.add_le_add_left (Nat.le_of_ble_eq_true rfl) _) hus⟩ ?_
  refine (op_execute ok h hc5).mono fun r σ1 h1 => ?_
  obtain ⟨z, rfl, ⟨q1, q2, q3⟩, hrun⟩ := h1
  refine At.widen (uc' := uc + 31) (us' := us + 4206) (?_ : At G mL_law room_1 _ _ 2747 _ [vI z] σ1 K) (Nat.add_le_add_left (Nat.le_of_ble_eq_true rfl) _) (Nat.add_le_add_left (Nat.le_of_ble_eq_true rfl) _)
  refine s_istore dL_law_2747 rfl (Nat.le_of_ble_eq_true rfl) rfl ?_
  refine s_aload_n (i := 2) dL_law_2749 rfl rfl ?_
  refine s_callV (ci := 9) (Y := mX9_execute) (rmY := rX9_execute) (as := []) (S := []) gk dL_law_2750 gL_317 (by decide) rfl w_1898 w_1899 q3 rfl rfl (by decide) ⟨Nat.le_of_ble_eq_true rfl, Nat.le_of_ble_eq_true rfl, Nat.le_trans (le0 (Nat.le_of_ble_eq_true rfl)) huc, Nat.le_trans (le0 (Nat.le_of_ble_eq_true rfl)) hus⟩ (hrun _ fun w σ2 h2 h6 hφ => ?_)
  exact At.widen (uc' := uc + 31) (us' := us + 4206) (law_tI gk tli_2753 rfl h2 h6 hφ huc hus (kk σ2 h2)) (le0 (Nat.le_of_ble_eq_true rfl)) (le0 (Nat.le_of_ble_eq_true rfl))
theorem law_c44 (ok : OKS G) (h : LI b0 Ln xs x c σ) (hcL : 4 * c + 4 ≤ Ln) (hL : Ln ≤ 2048) (huc : uc + 31 ≤ 603072) (hus : us + 4206 ≤ 7198826) (kk : ∀ σ', LI b0 Ln xs x (c + 1) σ' → At G mL_law room_1 (uc + 31) (us + 4206) 2975 [some (vR (some b0)), some (vR (some x)), some (vR (some (x + 788))), some (vR (some (x + 796))), some (vR (some (x + 797))), some (vI (nI (4 * c))), none, none, none] [] σ' K) : At G mL_law room_1 uc us 2786 [some (vR (some b0)), some (vR (some x)), some (vR (some (x + 788))), some (vR (some (x + 796))), some (vR (some (x + 797))), some (vI (nI (4 * c))), none, none, none] [] σ K := by
  have gk := ok.1
  have hc5 : c ≤ 512 := by omega
  obtain ⟨A0, B0, hC0, hM0, hb0, hE0⟩ := id h
  have p1 := hE0.2.1
  have p2 := hE0.2.2.1
  refine s_aload_n (i := 1) dL_law_2786 rfl rfl ?_
  refine s_aload_n (i := 3) dL_law_2787 rfl rfl ?_
  refine s_callSH (Y := mL_errorPosition) (hh := hL_errorPosition) (rmY := rL_errorPosition) (as := [vR (some x), vR (some (x + 796))]) (S := []) gk dL_law_2788 (kL_errorPosition _ _ w_1494) w_1495 rfl rfl (by decide) ⟨Nat.le_of_ble_eq_true rfl, Nat.le_of_ble_eq_true rfl, Nat.le_trans (Nat.add_le_add_left (Nat.le_of_ble_eq_true rfl) _) huc, Nat.le_trans (Nat.add_le_add_left (Nat.le_of_ble_eq_true rfl) _) hus⟩ ?_
  refine (op_errorPosition ok h).mono fun r σ1 h1 => ?_
  obtain ⟨z, rfl, ⟨q1, q2, q3⟩, hrun⟩ := h1
  refine At.widen (uc' := uc + 31) (us' := us + 4206) (?_ : At G mL_law room_1 _ _ 2791 _ [vI z] σ1 K) (Nat.add_le_add_left (Nat.le_of_ble_eq_true rfl) _) (Nat.add_le_add_left (Nat.le_of_ble_eq_true rfl) _)
  refine s_istore dL_law_2791 rfl (Nat.le_of_ble_eq_true rfl) rfl ?_
  refine s_aload_n (i := 2) dL_law_2793 rfl rfl ?_
  refine s_callV (ci := 9) (Y := mX9_errorPosition) (rmY := rX9_errorPosition) (as := []) (S := []) gk dL_law_2794 gL_320 (by decide) rfl w_1946 w_1947 q3 rfl rfl (by decide) ⟨Nat.le_of_ble_eq_true rfl, Nat.le_of_ble_eq_true rfl, Nat.le_trans (le0 (Nat.le_of_ble_eq_true rfl)) huc, Nat.le_trans (le0 (Nat.le_of_ble_eq_true rfl)) hus⟩ (hrun _ fun w σ2 h2 h6 hφ => ?_)
  exact At.widen (uc' := uc + 31) (us' := us + 4206) (law_tI gk tli_2797 rfl h2 h6 hφ huc hus (kk σ2 h2)) (le0 (Nat.le_of_ble_eq_true rfl)) (le0 (Nat.le_of_ble_eq_true rfl))
theorem law_c45 (ok : OKS G) (h : LI b0 Ln xs x c σ) (hcL : 4 * c + 4 ≤ Ln) (hL : Ln ≤ 2048) (huc : uc + 31 ≤ 603072) (hus : us + 4206 ≤ 7198826) (kk : ∀ σ', LI b0 Ln xs x (c + 1) σ' → At G mL_law room_1 (uc + 31) (us + 4206) 2975 [some (vR (some b0)), some (vR (some x)), some (vR (some (x + 788))), some (vR (some (x + 796))), some (vR (some (x + 797))), some (vI (nI (4 * c))), none, none, none] [] σ' K) : At G mL_law room_1 uc us 2830 [some (vR (some b0)), some (vR (some x)), some (vR (some (x + 788))), some (vR (some (x + 796))), some (vR (some (x + 797))), some (vI (nI (4 * c))), none, none, none] [] σ K := by
  have gk := ok.1
  have hc5 : c ≤ 512 := by omega
  obtain ⟨A0, B0, hC0, hM0, hb0, hE0⟩ := id h
  have p1 := hE0.2.1
  have p2 := hE0.2.2.1
  refine s_aload_n (i := 1) dL_law_2830 rfl rfl ?_
  refine s_aload_n (i := 3) dL_law_2831 rfl rfl ?_
  refine s_callSH (Y := mL_failedCommand) (hh := hL_failedCommand) (rmY := rL_failedCommand) (as := [vR (some x), vR (some (x + 796))]) (S := []) gk dL_law_2832 (kL_failedCommand _ _ w_1502) w_1503 rfl rfl (by decide) ⟨Nat.le_of_ble_eq_true rfl, Nat.le_of_ble_eq_true rfl, Nat.le_trans (Nat.add_le_add_left (Nat.le_of_ble_eq_true rfl) _) huc, Nat.le_trans (Nat.add_le_add_left (Nat.le_of_ble_eq_true rfl) _) hus⟩ ?_
  refine (op_failedCommand ok h).mono fun r σ1 h1 => ?_
  obtain ⟨z, rfl, ⟨q1, q2, q3⟩, hrun⟩ := h1
  refine At.widen (uc' := uc + 31) (us' := us + 4206) (?_ : At G mL_law room_1 _ _ 2835 _ [vI z] σ1 K) (Nat.add_le_add_left (Nat.le_of_ble_eq_true rfl) _) (Nat.add_le_add_left (Nat.le_of_ble_eq_true rfl) _)
  refine s_istore dL_law_2835 rfl (Nat.le_of_ble_eq_true rfl) rfl ?_
  refine s_aload_n (i := 2) dL_law_2837 rfl rfl ?_
  refine s_callV (ci := 9) (Y := mX9_failedCommand) (rmY := rX9_failedCommand) (as := []) (S := []) gk dL_law_2838 gL_323 (by decide) rfl w_1950 w_1951 q3 rfl rfl (by decide) ⟨Nat.le_of_ble_eq_true rfl, Nat.le_of_ble_eq_true rfl, Nat.le_trans (le0 (Nat.le_of_ble_eq_true rfl)) huc, Nat.le_trans (le0 (Nat.le_of_ble_eq_true rfl)) hus⟩ (hrun _ fun w σ2 h2 h6 hφ => ?_)
  exact At.widen (uc' := uc + 31) (us' := us + 4206) (law_tI gk tli_2841 rfl h2 h6 hφ huc hus (kk σ2 h2)) (le0 (Nat.le_of_ble_eq_true rfl)) (le0 (Nat.le_of_ble_eq_true rfl))
theorem law_c46 (ok : OKS G) (h : LI b0 Ln xs x c σ) (hcL : 4 * c + 4 ≤ Ln) (hL : Ln ≤ 2048) (huc : uc + 31 ≤ 603072) (hus : us + 4206 ≤ 7198826) (kk : ∀ σ', LI b0 Ln xs x (c + 1) σ' → At G mL_law room_1 (uc + 31) (us + 4206) 2975 [some (vR (some b0)), some (vR (some x)), some (vR (some (x + 788))), some (vR (some (x + 796))), some (vR (some (x + 797))), some (vI (nI (4 * c))), none, none, none] [] σ' K) : At G mL_law room_1 uc us 2874 [some (vR (some b0)), some (vR (some x)), some (vR (some (x + 788))), some (vR (some (x + 796))), some (vR (some (x + 797))), some (vI (nI (4 * c))), none, none, none] [] σ K := by
  have gk := ok.1
  have hc5 : c ≤ 512 := by omega
  obtain ⟨A0, B0, hC0, hM0, hb0, hE0⟩ := id h
  have p1 := hE0.2.1
  have p2 := hE0.2.2.1
  refine s_aload_n (i := 1) dL_law_2874 rfl rfl ?_
  refine s_aload_n (i := 3) dL_law_2875 rfl rfl ?_
  refine s_callSH (Y := mL_undo) (hh := hL_undo) (rmY := rL_undo) (as := [vR (some x), vR (some (x + 796))]) (S := []) gk dL_law_2876 (kL_undo _ _ w_1510) w_1511 rfl rfl (by decide) ⟨Nat.le_of_ble_eq_true rfl, Nat.le_of_ble_eq_true rfl, Nat.le_trans (Nat.add_le_add_left (Nat.le_of_ble_eq_true rfl) _) huc, Nat.le_trans (Nat.add_le_add_left (Nat.le_of_ble_eq_true rfl) _) hus⟩ ?_
  refine (op_undo ok h hc5).mono fun r σ1 h1 => ?_
  obtain ⟨z, rfl, ⟨q1, q2, q3⟩, hrun⟩ := h1
  refine At.widen (uc' := uc + 31) (us' := us + 4206) (?_ : At G mL_law room_1 _ _ 2879 _ [vI z] σ1 K) (Nat.add_le_add_left (Nat.le_of_ble_eq_true rfl) _) (Nat.add_le_add_left (Nat.le_of_ble_eq_true rfl) _)
  refine s_istore dL_law_2879 rfl (Nat.le_of_ble_eq_true rfl) rfl ?_
  refine s_aload_n (i := 2) dL_law_2881 rfl rfl ?_
  refine s_callV (ci := 9) (Y := mX9_undo) (rmY := rX9_undo) (as := []) (S := []) gk dL_law_2882 gL_326 (by decide) rfl w_1954 w_1955 q3 rfl rfl (by decide) ⟨Nat.le_of_ble_eq_true rfl, Nat.le_of_ble_eq_true rfl, Nat.le_trans (le0 (Nat.le_of_ble_eq_true rfl)) huc, Nat.le_trans (le0 (Nat.le_of_ble_eq_true rfl)) hus⟩ (hrun _ fun w σ2 h2 h6 hφ => ?_)
  exact At.widen (uc' := uc + 31) (us' := us + 4206) (law_tI gk tli_2885 rfl h2 h6 hφ huc hus (kk σ2 h2)) (le0 (Nat.le_of_ble_eq_true rfl)) (le0 (Nat.le_of_ble_eq_true rfl))
theorem law_c47 (ok : OKS G) (h : LI b0 Ln xs x c σ) (hcL : 4 * c + 4 ≤ Ln) (hL : Ln ≤ 2048) (huc : uc + 31 ≤ 603072) (hus : us + 4206 ≤ 7198826) (kk : ∀ σ', LI b0 Ln xs x (c + 1) σ' → At G mL_law room_1 (uc + 31) (us + 4206) 2975 [some (vR (some b0)), some (vR (some x)), some (vR (some (x + 788))), some (vR (some (x + 796))), some (vR (some (x + 797))), some (vI (nI (4 * c))), none, none, none] [] σ' K) : At G mL_law room_1 uc us 2918 [some (vR (some b0)), some (vR (some x)), some (vR (some (x + 788))), some (vR (some (x + 796))), some (vR (some (x + 797))), some (vI (nI (4 * c))), none, none, none] [] σ K := by
  have gk := ok.1
  have hc5 : c ≤ 512 := by omega
  obtain ⟨A, b, hC, hM, hb, hE⟩ := id h
  have hR : RS σ (x + 1) (mi σ (x + 788 + 1)) b := by rw [hM.2.1]; exact hC.2.1
  have hbl := hb.lt hc5
  refine s_aload_n (i := 1) dL_law_2918 rfl rfl ?_
  refine s_callV (ci := 8) (Y := mX8_save) (rmY := rX8_save) (as := []) (S := []) gk dL_law_2919 gL_327 (by decide) rfl w_432 w_433 hC.1.1 rfl rfl (by decide) ⟨Nat.le_of_ble_eq_true rfl, Nat.le_of_ble_eq_true rfl, Nat.le_trans (Nat.add_le_add_left (Nat.le_of_ble_eq_true rfl) _) huc, Nat.le_trans (Nat.add_le_add_left (Nat.le_of_ble_eq_true rfl) _) hus⟩ (c_save gk hC fun σ1 hC1 hF1 => ?_)
  refine At.widen (uc' := uc + 31) (us' := us + 4206) (?_ : At G mL_law room_1 _ _ 2922 _ [vI _] σ1 K) (Nat.add_le_add_left (Nat.le_of_ble_eq_true rfl) _) (Nat.add_le_add_left (Nat.le_of_ble_eq_true rfl) _)
  have hM1 := hM.fe hF1.fe
  refine s_aload_n (i := 2) dL_law_2922 rfl rfl ?_
  refine s_callV (ci := 9) (Y := mX9_save) (rmY := rX9_save) (as := []) (S := [vI _]) gk dL_law_2923 gL_330 (by decide) rfl w_1958 w_1959 hM1.1.ty rfl rfl (Nat.le_of_ble_eq_true rfl) ⟨Nat.le_of_ble_eq_true rfl, Nat.le_of_ble_eq_true rfl, Nat.le_trans (le0 (Nat.le_of_ble_eq_true rfl)) huc, Nat.le_trans (le0 (Nat.le_of_ble_eq_true rfl)) hus⟩ (m_save gk hM1 fun σ2 hV hFb _ => ?_)
  refine At.widen (uc' := uc + 31) (us' := us + 4206) (?_ : At G mL_law room_1 _ _ 2926 _ [vI _, vI _] _ K) (le0 (Nat.le_of_ble_eq_true rfl)) (le0 (Nat.le_of_ble_eq_true rfl))
  exact s_icmp_eq (tgt := 2975) dL_law_2926 rfl (fun _ => kk _ (LI.fin (c := c + 1) hE hF1.fe SA.refl hFb.fm hC1 hV hb.asn).1) (fun g => absurd rfl g)
theorem law_c48 (ok : OKS G) (h : LI b0 Ln xs x c σ) (hcL : 4 * c + 4 ≤ Ln) (hL : Ln ≤ 2048) (huc : uc + 31 ≤ 603072) (hus : us + 4206 ≤ 7198826) (kk : ∀ σ', LI b0 Ln xs x (c + 1) σ' → At G mL_law room_1 (uc + 31) (us + 4206) 2975 [some (vR (some b0)), some (vR (some x)), some (vR (some (x + 788))), some (vR (some (x + 796))), some (vR (some (x + 797))), some (vI (nI (4 * c))), none, none, none] [] σ' K) : At G mL_law room_1 uc us 2931 [some (vR (some b0)), some (vR (some x)), some (vR (some (x + 788))), some (vR (some (x + 796))), some (vR (some (x + 797))), some (vI (nI (4 * c))), none, none, none] [] σ K := by
  have gk := ok.1
  have hc5 : c ≤ 512 := by omega
  obtain ⟨A0, B0, hC0, hM0, hb0, hE0⟩ := id h
  have p1 := hE0.2.1
  have p2 := hE0.2.2.1
  refine s_aload_n (i := 1) dL_law_2931 rfl rfl ?_
  refine s_aload_n (i := 3) dL_law_2932 rfl rfl ?_
  refine s_callSH (Y := mL_restore) (hh := hL_restore) (rmY := rL_restore) (as := [vR (some x), vR (some (x + 796))]) (S := []) gk dL_law_2933 (kL_restore _ _ w_1523) w_1524 rfl rfl (by decide) ⟨Nat.le_of_ble_eq_true rfl, Nat.le_of_ble_eq_true rfl, Nat.le_trans (Nat.add_le_add_left (Nat.le_of_ble_eq_true rfl) _) huc, Nat.le_trans (Nat.add_le_add_left (Nat.le_of_ble_eq_true rfl) _) hus⟩ ?_
  refine (op_restore ok h hc5).mono fun r σ1 h1 => ?_
  obtain ⟨z, rfl, ⟨q1, q2, q3⟩, hrun⟩ := h1
  refine At.widen (uc' := uc + 31) (us' := us + 4206) (?_ : At G mL_law room_1 _ _ 2936 _ [vI z] σ1 K) (Nat.add_le_add_left (Nat.le_of_ble_eq_true rfl) _) (Nat.add_le_add_left (Nat.le_of_ble_eq_true rfl) _)
  refine s_istore dL_law_2936 rfl (Nat.le_of_ble_eq_true rfl) rfl ?_
  refine s_aload_n (i := 2) dL_law_2938 rfl rfl ?_
  refine s_callV (ci := 9) (Y := mX9_restore) (rmY := rX9_restore) (as := []) (S := []) gk dL_law_2939 gL_333 (by decide) rfl w_1962 w_1963 q3 rfl rfl (by decide) ⟨Nat.le_of_ble_eq_true rfl, Nat.le_of_ble_eq_true rfl, Nat.le_trans (le0 (Nat.le_of_ble_eq_true rfl)) huc, Nat.le_trans (le0 (Nat.le_of_ble_eq_true rfl)) hus⟩ (hrun _ fun w σ2 h2 h6 hφ => ?_)
  exact At.widen (uc' := uc + 31) (us' := us + 4206) (law_tI gk tli_2942 rfl h2 h6 hφ huc hus (kk σ2 h2)) (le0 (Nat.le_of_ble_eq_true rfl)) (le0 (Nat.le_of_ble_eq_true rfl))
end LAW
