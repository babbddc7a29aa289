/-! ===== the law's loop, its entry ===== -/
theorem At.ofHK {G : GG} {M : SIG} {rm : Room} {uc us pc : Nat} {L : List (Option VV)} {S : List VV} {σ : Mm} {K : RES → Mm → Prop} (h : (∀ q, mz σ ≤ q → (mt σ q).1 = 0) → At G M rm uc us pc L S σ K) : At G M rm uc us pc L S σ K :=
  fun p e s m args below meth c H locs ls C h1 h2 h3 h4 => h (fun q hq => hk_free h3 hq) p e s m args below meth c H locs ls C h1 h2 h3 h4
theorem and63 (z : Int32) : ∃ k : Nat, k < 64 ∧ z &&& 63 = nI k := by
  refine ⟨z.toBitVec.toNat % 64, Nat.mod_lt _ (by decide), ?_⟩
  apply Int32.toBitVec_inj.mp
  apply BitVec.eq_of_toNat_eq
  have e : (63 : Int32).toBitVec = 63#32 := rfl
  have e2 : (nI (z.toBitVec.toNat % 64)).toBitVec = BitVec.ofNat 32 (z.toBitVec.toNat % 64) := rfl
  rw [Int32.toBitVec_and, e, e2, BitVec.toNat_and, show (63#32).toNat = 2 ^ 6 - 1 from rfl, Nat.and_two_pow_sub_one_eq_mod, BitVec.toNat_ofNat]
  have : z.toBitVec.toNat % 64 < 64 := Nat.mod_lt _ (by decide)
  omega
section LOOP
variable {G : GG} {σ : Mm} {K : RES → Mm → Prop} {uc us b0 Ln x c : Nat} {xs : Nat → Int32}
theorem st1 {u d n N : Nat} (h : u + n * (d + 1) ≤ N) : u + n ≤ N ∧ u + n + n * d ≤ N := by
  rw [Nat.mul_add, Nat.mul_one] at h
  omega
theorem law_up (h : LI b0 Ln xs x c σ) : LI b0 Ln xs x (c + 1) σ := by
  obtain ⟨A, b, hC, hM, hb, hE⟩ := h
  exact ⟨A, b, hC, hM, hb.up, hE⟩
theorem law_if (hL : Ln ≤ 2048) (hc : 4 * c ≤ Ln) : (nI Ln - 4 < nI (4 * c)) ↔ Ln < 4 * c + 4 := by
  have e : (nI Ln - 4 : Int32).toInt = (Ln : Int) - 4 := by
    have e4 : (4 : Int32).toInt = 4 := by decide
    rw [Int32.toInt_sub, nI_toInt (by omega), e4]
    exact Int.bmod_eq_of_le (by omega) (by omega)
  rw [Int32.lt_iff_toInt_lt, e, nI_toInt (by omega)]
  omega
theorem law_loop (ok : OKS G) (hL : Ln ≤ 2048) (hK : ∀ t, K (.inl (some (vI 1))) t) : ∀ (d c uc us : Nat) (σ : Mm), Ln < 4 * (c + d) → 4 * c ≤ Ln → LI b0 Ln xs x c σ → uc + 31 * d ≤ 603072 → us + 4206 * d ≤ 7198826 → At G mL_law room_1 uc us 28 [some (vR (some b0)), some (vR (some x)), some (vR (some (x + 788))), some (vR (some (x + 796))), some (vR (some (x + 797))), some (vI (nI (4 * c))), none, none, none] [] σ K
  | d, c, uc, us, σ, hd, hc, h, huc, hus => by
    have gk := ok.1
    obtain ⟨A0, B0, hC0, hM0, hb0, hE0⟩ := id h
    refine s_iload dL_law_28 rfl ?_
    refine s_aload_n (i := 0) dL_law_30 rfl rfl ?_
    refine s_slen dL_law_31 hE0.2.1 rfl ?_
    refine s_iconst (v := 4) dL_law_32 (by decide) ?_
    refine s_isub dL_law_33 ?_
    refine s_icmp_gt (tgt := 2981) dL_law_34 rfl (fun _ => ?_) (fun g => ?_)
    · exact s_iconst (v := 1) dL_law_2981 (by decide) (s_ireturn dL_law_2982 rfl rfl (Nat.le_trans (Nat.le_add_right _ _) huc) (Nat.le_trans (Nat.le_add_right _ _) hus) (hK _))
    rw [law_if hL hc] at g
    match d, hd, huc, hus with
    | 0, hd, _, _ => omega
    | d + 1, hd, huc, hus =>
    have hcL : 4 * c + 4 ≤ Ln := by omega
    have huc1 := (st1 huc).1
    have hus1 := (st1 hus).1
    have kk : ∀ σ', LI b0 Ln xs x (c + 1) σ' → At G mL_law room_1 (uc + 31) (us + 4206) 2975 [some (vR (some b0)), some (vR (some x)), some (vR (some (x + 788))), some (vR (some (x + 796))), some (vR (some (x + 797))), some (vI (nI (4 * c))), none, none, none] [] σ' K := fun σ' h' => by
      refine s_iinc (v := nI (4 * (c + 1))) dL_law_2975 rfl (nI_add (4 * c) 4) rfl (Nat.le_of_ble_eq_true rfl) rfl ?_
      refine s_goto (tgt := 28) dL_law_2978 rfl ?_
      exact law_loop ok hL hK d (c + 1) (uc + 31) (us + 4206) σ' (by omega) (by omega) h' (st1 huc).2 (st1 hus).2
    refine s_aload_n (i := 0) dL_law_37 rfl rfl ?_
    refine s_iload dL_law_38 rfl ?_
    refine s_sld dL_law_40 hE0.2.1 (vp_in_nI (by omega) (by omega)) ?_
    refine s_bipush (v := 63) dL_law_41 (by decide) ?_
    refine s_iand dL_law_43 ?_
    obtain ⟨k, hk, e⟩ := and63 (mi σ b0 (nI (4 * c)).toNatClampNeg)
    rw [e]
    match k, hk with
    | 0, _ => exact s_tableIn (off := 212) (tgt := 256) dL_law_44 (by decide) (by decide) rfl rfl (law_c0 ok h hcL hL huc1 hus1 kk)
    | 1, _ => exact s_tableIn (off := 282) (tgt := 326) dL_law_44 (by decide) (by decide) rfl rfl (law_c1 ok h hcL hL huc1 hus1 kk)
    | 2, _ => exact s_tableIn (off := 340) (tgt := 384) dL_law_44 (by decide) (by decide) rfl rfl (law_c2 ok h hcL hL huc1 hus1 kk)
    | 3, _ => exact s_tableIn (off := 410) (tgt := 454) dL_law_44 (by decide) (by decide) rfl rfl (law_c3 ok h hcL hL huc1 hus1 kk)
    | 4, _ => exact s_tableIn (off := 423) (tgt := 467) dL_law_44 (by decide) (by decide) rfl rfl (law_c4 ok h hcL hL huc1 hus1 kk)
    | 5, _ => exact s_tableIn (off := 479) (tgt := 523) dL_law_44 (by decide) (by decide) rfl rfl (law_c5 ok h hcL hL huc1 hus1 kk)
    | 6, _ => exact s_tableIn (off := 537) (tgt := 581) dL_law_44 (by decide) (by decide) rfl rfl (law_c6 ok h hcL hL huc1 hus1 kk)
    | 7, _ => exact s_tableIn (off := 619) (tgt := 663) dL_law_44 (by decide) (by decide) rfl rfl (law_c7 ok h hcL hL huc1 hus1 kk)
    | 8, _ => exact s_tableIn (off := 710) (tgt := 754) dL_law_44 (by decide) (by decide) rfl rfl (law_c8 ok h hcL hL huc1 hus1 kk)
    | 9, _ => exact s_tableIn (off := 723) (tgt := 767) dL_law_44 (by decide) (by decide) rfl rfl (law_c9 ok h hcL hL huc1 hus1 kk)
    | 10, _ => exact s_tableIn (off := 779) (tgt := 823) dL_law_44 (by decide) (by decide) rfl rfl (law_c10 ok h hcL hL huc1 hus1 kk)
    | 11, _ => exact s_tableIn (off := 835) (tgt := 879) dL_law_44 (by decide) (by decide) rfl rfl (law_c11 ok h hcL hL huc1 hus1 kk)
    | 12, _ => exact s_tableIn (off := 891) (tgt := 935) dL_law_44 (by decide) (by decide) rfl rfl (law_c12 ok h hcL hL huc1 hus1 kk)
    | 13, _ => exact s_tableIn (off := 954) (tgt := 998) dL_law_44 (by decide) (by decide) rfl rfl (law_c13 ok h hcL hL huc1 hus1 kk)
    | 14, _ => exact s_tableIn (off := 1010) (tgt := 1054) dL_law_44 (by decide) (by decide) rfl rfl (law_c14 ok h hcL hL huc1 hus1 kk)
    | 15, _ => exact s_tableIn (off := 1078) (tgt := 1122) dL_law_44 (by decide) (by decide) rfl rfl (law_c15 ok h hcL hL huc1 hus1 kk)
    | 16, _ => exact s_tableIn (off := 1155) (tgt := 1199) dL_law_44 (by decide) (by decide) rfl rfl (law_c16 ok h hcL hL huc1 hus1 kk)
    | 17, _ => exact s_tableIn (off := 1225) (tgt := 1269) dL_law_44 (by decide) (by decide) rfl rfl (law_c17 ok h hcL hL huc1 hus1 kk)
    | 18, _ => exact s_tableIn (off := 1295) (tgt := 1339) dL_law_44 (by decide) (by decide) rfl rfl (law_c18 ok h hcL hL huc1 hus1 kk)
    | 19, _ => exact s_tableIn (off := 1365) (tgt := 1409) dL_law_44 (by decide) (by decide) rfl rfl (law_c19 ok h hcL hL huc1 hus1 kk)
    | 20, _ => exact s_tableIn (off := 1442) (tgt := 1486) dL_law_44 (by decide) (by decide) rfl rfl (law_c20 ok h hcL hL huc1 hus1 kk)
    | 21, _ => exact s_tableIn (off := 1519) (tgt := 1563) dL_law_44 (by decide) (by decide) rfl rfl (law_c21 ok h hcL hL huc1 hus1 kk)
    | 22, _ => exact s_tableIn (off := 1596) (tgt := 1640) dL_law_44 (by decide) (by decide) rfl rfl (law_c22 ok h hcL hL huc1 hus1 kk)
    | 23, _ => exact s_tableIn (off := 1673) (tgt := 1717) dL_law_44 (by decide) (by decide) rfl rfl (law_c23 ok h hcL hL huc1 hus1 kk)
    | 24, _ => exact s_tableIn (off := 1729) (tgt := 1773) dL_law_44 (by decide) (by decide) rfl rfl (law_c24 ok h hcL hL huc1 hus1 kk)
    | 25, _ => exact s_tableIn (off := 1785) (tgt := 1829) dL_law_44 (by decide) (by decide) rfl rfl (law_c25 ok h hcL hL huc1 hus1 kk)
    | 26, _ => exact s_tableIn (off := 1855) (tgt := 1899) dL_law_44 (by decide) (by decide) rfl rfl (law_c26 ok h hcL hL huc1 hus1 kk)
    | 27, _ => exact s_tableIn (off := 1925) (tgt := 1969) dL_law_44 (by decide) (by decide) rfl rfl (law_c27 ok h hcL hL huc1 hus1 kk)
    | 28, _ => exact s_tableIn (off := 2007) (tgt := 2051) dL_law_44 (by decide) (by decide) rfl rfl (law_c28 ok h hcL hL huc1 hus1 kk)
    | 29, _ => exact s_tableIn (off := 2063) (tgt := 2107) dL_law_44 (by decide) (by decide) rfl rfl (law_c29 ok h hcL hL huc1 hus1 kk)
    | 30, _ => exact s_tableIn (off := 2119) (tgt := 2163) dL_law_44 (by decide) (by decide) rfl rfl (law_c30 ok h hcL hL huc1 hus1 kk)
    | 31, _ => exact s_tableIn (off := 2132) (tgt := 2176) dL_law_44 (by decide) (by decide) rfl rfl (law_c31 ok h hcL hL huc1 hus1 kk)
    | 32, _ => exact s_tableIn (off := 2145) (tgt := 2189) dL_law_44 (by decide) (by decide) rfl rfl (law_c32 ok h hcL hL huc1 hus1 kk)
    | 33, _ => exact s_tableIn (off := 2201) (tgt := 2245) dL_law_44 (by decide) (by decide) rfl rfl (law_c33 ok h hcL hL huc1 hus1 kk)
    | 34, _ => exact s_tableIn (off := 2257) (tgt := 2301) dL_law_44 (by decide) (by decide) rfl rfl (law_c34 ok h hcL hL huc1 hus1 kk)
    | 35, _ => exact s_tableIn (off := 2270) (tgt := 2314) dL_law_44 (by decide) (by decide) rfl rfl (law_c35 ok h hcL hL huc1 hus1 kk)
    | 36, _ => exact s_tableIn (off := 2328) (tgt := 2372) dL_law_44 (by decide) (by decide) rfl rfl (law_c36 ok h hcL hL huc1 hus1 kk)
    | 37, _ => exact s_tableIn (off := 2394) (tgt := 2438) dL_law_44 (by decide) (by decide) rfl rfl (law_c37 ok h hcL hL huc1 hus1 kk)
    | 38, _ => exact s_tableIn (off := 2459) (tgt := 2503) dL_law_44 (by decide) (by decide) rfl rfl (law_c38 ok h hcL hL huc1 hus1 kk)
    | 39, _ => exact s_tableIn (off := 2515) (tgt := 2559) dL_law_44 (by decide) (by decide) rfl rfl (law_c39 ok h hcL hL huc1 hus1 kk)
    | 40, _ => exact s_tableIn (off := 2571) (tgt := 2615) dL_law_44 (by decide) (by decide) rfl rfl (law_c40 ok h hcL hL huc1 hus1 kk)
    | 41, _ => exact s_tableIn (off := 2627) (tgt := 2671) dL_law_44 (by decide) (by decide) rfl rfl (law_c41 ok h hcL hL huc1 hus1 kk)
    | 42, _ => exact s_tableIn (off := 2640) (tgt := 2684) dL_law_44 (by decide) (by decide) rfl rfl (law_c42 ok h hcL hL huc1 hus1 kk)
    | 43, _ => exact s_tableIn (off := 2698) (tgt := 2742) dL_law_44 (by decide) (by decide) rfl rfl (law_c43 ok h hcL hL huc1 hus1 kk)
    | 44, _ => exact s_tableIn (off := 2742) (tgt := 2786) dL_law_44 (by decide) (by decide) rfl rfl (law_c44 ok h hcL hL huc1 hus1 kk)
    | 45, _ => exact s_tableIn (off := 2786) (tgt := 2830) dL_law_44 (by decide) (by decide) rfl rfl (law_c45 ok h hcL hL huc1 hus1 kk)
    | 46, _ => exact s_tableIn (off := 2830) (tgt := 2874) dL_law_44 (by decide) (by decide) rfl rfl (law_c46 ok h hcL hL huc1 hus1 kk)
    | 47, _ => exact s_tableIn (off := 2874) (tgt := 2918) dL_law_44 (by decide) (by decide) rfl rfl (law_c47 ok h hcL hL huc1 hus1 kk)
    | 48, _ => exact s_tableIn (off := 2887) (tgt := 2931) dL_law_44 (by decide) (by decide) rfl rfl (law_c48 ok h hcL hL huc1 hus1 kk)
    | k + 49, hk => exact s_tableOut (tgt := 2975) dL_law_44 (Or.inr (by rw [nI_toInt (by omega)]; omega)) rfl (At.widen (kk _ (law_up h)) (Nat.le_add_right _ _) (Nat.le_add_right _ _))
/-- the first cells of the model in another memory -/
theorem MIV.na {σ' : Mm} {a : Nat} {A : AS} (h : MIV σ a A) (hN : ∀ q, a ≤ q → q < a + 8 → mi σ' q = mi σ q ∧ mr σ' q = mr σ q ∧ mt σ' q = mt σ q) : MIV σ' a A := by
  obtain ⟨g1, g2, ⟨g3, g4, g5⟩, ⟨g6, g7, g8⟩, ⟨g9, g10⟩, ⟨g11, g12, g13⟩, ⟨g14, g15, g16⟩⟩ := h
  have e : ∀ j, j < 8 → mi σ' (a + j) = mi σ (a + j) ∧ mr σ' (a + j) = mr σ (a + j) ∧ mt σ' (a + j) = mt σ (a + j) := fun j hj => hN (a + j) (by omega) (by omega)
  have e0 : mi σ' a = mi σ a ∧ mr σ' a = mr σ a ∧ mt σ' a = mt σ a := e 0 (by omega)
  refine ⟨?_, by rw [(e 1 (by omega)).1]; exact g2, ⟨g3, by rw [e0.1]; exact g4, by rw [(e 4 (by omega)).1]; exact g5⟩, ⟨by rw [e0.1]; exact g6, g7, by rw [(e 3 (by omega)).1]; exact g8⟩, ⟨by rw [e0.1]; exact g9, by rw [e0.1]; exact g10⟩, ⟨by rw [e0.1]; exact g11, g12, by rw [(e 6 (by omega)).1]; exact g13⟩, ⟨by rw [e0.1]; exact g14, g15, by rw [(e 5 (by omega)).1]; exact g16⟩⟩
  unfold MS at g1 ⊢
  rw [e0.2.1, e0.2.2, (e 1 (by omega)).2.2, (e 2 (by omega)).2.2, (e 3 (by omega)).2.2, (e 4 (by omega)).2.2, (e 5 (by omega)).2.2, (e 6 (by omega)).2.2, (e 7 (by omega)).2.2]
  exact g1
/-- a new pantry, in a memory that is the same below its end -/
theorem CIV.na {σ' : Mm} {A : AS} {b : Nat} (h : CIV σ x A b) (hf : ∀ q, x + 788 ≤ q → (mt σ q).1 = 0) (e : ∀ q, q < x + 788 → mi σ' q = mi σ q ∧ mr σ' q = mr σ q ∧ mt σ' q = mt σ q) : CIV σ' x A b := by
  obtain ⟨h1, h2, h3, h4, h5, h6, h7⟩ := h
  obtain ⟨a1, a2, a3⟩ := e x (by omega)
  refine ⟨h1.loc a2 a3, h2.loc fun q q1 q2 => e q (by omega), h3.loc fun q q1 q2 => e q (by omega), h4.loc (by rw [a1]) fun q q1 q2 => e q (by omega), by rw [a1]; exact h5, h6.loc fun q q1 q2 => e q (by omega), ?_⟩
  obtain ⟨g1, g2, g3, g4, v, cap, g5, g6, g7, g8, g9⟩ := h7
  obtain ⟨c1, c2, c3⟩ := e (x + 786) (by omega)
  have hv : v < x + 788 := by
    rcases Nat.lt_or_ge v (x + 788) with q | q
    · exact q
    · have := hf v q
      rw [g6] at this
      exact absurd (show (54 : Nat) = 0 from this) (by decide)
  obtain ⟨d1, d2, d3⟩ := e v hv
  exact ⟨by rw [c3]; exact g1, by rw [c1]; exact g2, by rw [c1]; exact g3, g4, v, cap, by rw [c2]; exact g5, by rw [d3]; exact g6, g7, g8, fun i hi => by rw [d1]; exact g9.1 i hi, fun i hi => by rw [d1]; exact g9.2 i hi⟩
theorem law_all (ok : OKS G) (hL : Ln ≤ 2048) (hK : ∀ t, K (.inl (some (vI 1))) t) (hbx : b0 < mz σ) (ht : mt σ b0 = (99, Ln)) (hi : mi σ b0 = xs) : At G mL_law room_1 0 0 0 [some (vR (some b0)), none, none, none, none, none, none, none, none] [] σ K := by
  have gk := ok.1
  have nx : ∀ {E : String} {t : Mm} {P : Mm → Prop}, ¬ (fun (r : RES) (t : Mm) => r = .inl none ∧ P t) (.inr E) t := fun h => by cases h.1
  refine s_new gk dL_law_0 nL_8 (Nat.le_of_ble_eq_true rfl) (Nat.le_of_ble_eq_true rfl) ?_
  refine s_dup dL_law_3 rfl ?_
  obtain ⟨x, hx⟩ : ∃ x, mz σ = x := ⟨_, rfl⟩
  rw [hx] at hbx ⊢
  have N1 : Na σ (nw σ (8 + 1, 0)) x := Na.nw (by omega)
  have z1 : mz (nw σ (8 + 1, 0)) = x + 1 := by rw [nw_z, hx]
  have t1 : mt (nw σ (8 + 1, 0)) x = (9, 0) := by rw [← hx]; exact nw_ts
  have i1 : mi (nw σ (8 + 1, 0)) x = zf := by rw [← hx]; exact nw_is
  generalize nw σ (8 + 1, 0) = σ1 at N1 z1 t1 i1 ⊢
  refine s_callI (Y := mX8_init) (rmY := rX8_init) (as := []) (S := [vR (some x)]) (K' := fun r t => r = .inl none ∧ CIV t x A0 0 ∧ Na σ1 t x ∧ mz t = x + 788) gk dL_law_4 gL_160 w_36 rfl rfl rfl rfl (Nat.le_of_ble_eq_true rfl) ⟨Nat.le_of_ble_eq_true rfl, Nat.le_of_ble_eq_true rfl, Nat.le_of_ble_eq_true rfl, Nat.le_of_ble_eq_true rfl⟩ (c_init gk ok.2.2.2 (by rw [t1]) i1 z1 fun σ' q1 q2 q3 => ⟨rfl, q1, q2, q3⟩) (fun E t h => by cases h.1) fun v σ2 h2 => ?_
  obtain ⟨e, C2, N2, z2⟩ := h2
  cases e
  refine At.ofHK fun hf => ?_
  refine (?_ : At G mL_law room_1 _ _ 7 _ [vR (some x)] σ2 K)
  refine s_astore_n (i := 1) dL_law_7 rfl rfl (Nat.le_of_ble_eq_true rfl) rfl ?_
  refine s_new gk dL_law_8 nL_161 (Nat.le_of_ble_eq_true rfl) (Nat.le_of_ble_eq_true rfl) ?_
  refine s_dup dL_law_11 rfl ?_
  rw [z2]
  have N3 : Na σ2 (nw σ2 (9 + 1, 0)) (x + 788) := Na.nw (by omega)
  have z3 : mz (nw σ2 (9 + 1, 0)) = x + 788 + 1 := by rw [nw_z, z2]
  have t3 : mt (nw σ2 (9 + 1, 0)) (x + 788) = (10, 0) := by rw [← z2]; exact nw_ts
  have i3 : mi (nw σ2 (9 + 1, 0)) (x + 788) = zf := by rw [← z2]; exact nw_is
  generalize nw σ2 (9 + 1, 0) = σ3 at N3 z3 t3 i3 ⊢
  refine s_callI (Y := mX9_init) (rmY := rX9_init) (as := []) (S := [vR (some (x + 788))]) (K' := fun r t => r = .inl none ∧ MIV t (x + 788) A0 ∧ Na σ3 t (x + 788) ∧ mz t = x + 788 + 8) gk dL_law_12 gL_163 w_1534 rfl rfl rfl rfl (Nat.le_of_ble_eq_true rfl) ⟨Nat.le_of_ble_eq_true rfl, Nat.le_of_ble_eq_true rfl, Nat.le_of_ble_eq_true rfl, Nat.le_of_ble_eq_true rfl⟩ (m_init gk (by rw [t3]) i3 z3 fun σ' q1 q2 q3 => ⟨rfl, q1, q2, q3⟩) (fun E t h => by cases h.1) fun v σ4 h4 => ?_
  obtain ⟨e, M4, N4, z4⟩ := h4
  cases e
  refine (?_ : At G mL_law room_1 _ _ 15 _ [vR (some (x + 788))] σ4 K)
  refine s_astore_n (i := 2) dL_law_15 rfl rfl (Nat.le_of_ble_eq_true rfl) rfl ?_
  refine s_iconst (v := 1) dL_law_16 (by decide) ?_
  refine s_newa (j := 1) (N := 1) gk dL_law_17 (by decide) (by decide) rfl w_1965 (by decide) (by decide) (by decide) (Nat.le_of_ble_eq_true rfl) (Nat.le_of_ble_eq_true rfl) ?_
  have z4' : mz σ4 = x + 796 := z4
  rw [z4']
  have N5 : Na σ4 (nw σ4 (50 + 1, 1)) (x + 796) := Na.nw (by omega)
  have z5 : mz (nw σ4 (50 + 1, 1)) = x + 797 := by rw [nw_z, z4']
  have t5 : mt (nw σ4 (50 + 1, 1)) (x + 796) = (51, 1) := by rw [← z4']; exact nw_ts
  generalize nw σ4 (50 + 1, 1) = σ5 at N5 z5 t5 ⊢
  refine s_astore_n (i := 3) dL_law_19 rfl rfl (Nat.le_of_ble_eq_true rfl) rfl ?_
  refine s_iconst (v := 1) dL_law_20 (by decide) ?_
  refine s_newa (j := 2) (N := 1) gk dL_law_21 (by decide) (by decide) rfl w_1966 (by decide) (by decide) (by decide) (Nat.le_of_ble_eq_true rfl) (Nat.le_of_ble_eq_true rfl) ?_
  rw [z5]
  have N6 : Na σ5 (nw σ5 (50 + 2, 1)) (x + 797) := Na.nw (by omega)
  have z6 : mz (nw σ5 (50 + 2, 1)) = x + 798 := by rw [nw_z, z5]
  have t6 : mt (nw σ5 (50 + 2, 1)) (x + 797) = (52, 1) := by rw [← z5]; exact nw_ts
  generalize nw σ5 (50 + 2, 1) = σ6 at N6 z6 t6 ⊢
  refine s_astore dL_law_23 rfl (Nat.le_of_ble_eq_true rfl) rfl ?_
  refine s_iconst (v := 0) dL_law_25 (by decide) ?_
  refine s_istore dL_law_26 rfl (Nat.le_of_ble_eq_true rfl) rfl ?_
  have N46 : Na σ4 σ6 (x + 796) := N5.trans (N6.mono (by omega))
  have N26 : Na σ2 σ6 (x + 788) := (N3.trans N4).trans (N46.mono (by omega))
  have N06 : Na σ σ6 x := (N1.trans N2).trans (N26.mono (by omega))
  refine At.widen (uc' := 1000) (us' := 20000) ?_ (Nat.le_of_ble_eq_true rfl) (Nat.le_of_ble_eq_true rfl)
  refine law_loop (xs := xs) (b0 := b0) ok hL hK (Ln / 4 + 1) 0 1000 20000 σ6 (by omega) (by omega) ⟨A0, 0, ?_, ?_, ⟨?_, ?_⟩, hbx, ?_, ?_, ?_, t6, ?_⟩ (by omega) (by omega)
  · exact C2.na (fun q hq => hf q (by rw [z2]; exact hq)) fun q hq => by
      obtain ⟨q1, q2, -, -, q5⟩ := N26 q hq
      exact ⟨q1, q2, q5⟩
  · exact M4.na fun q q0 hq => by
      obtain ⟨q1, q2, -, -, q5⟩ := N46 q (by omega)
      exact ⟨q1, q2, q5⟩
  · exact Nat.le_refl _
  · exact ⟨Or.inl rfl, Or.inl rfl⟩
  · rw [(N06 b0 hbx).2.2.2.2]; exact ht
  · rw [(N06 b0 hbx).1]; exact hi
  · rw [(N6 (x + 796) (by omega)).2.2.2.2]; exact t5
  · omega
end LOOP
