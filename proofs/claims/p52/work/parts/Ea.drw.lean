/-! ===== the law's method drawn ===== -/
/-- jars say words of the letters 0, 3 .. 3(k-1); there are m shelves -/
def JS (P : Nat → Int32) (k m : Nat) : Prop := P 0 = nI m ∧ ∀ l, l < 26 → (P (8 + 3 * l) = 1 ↔ ∃ i, i < k ∧ l = 3 * i)
theorem JS.lk {P Q : Nat → Int32} {k m : Nat} (h : JS P k m) (hL : LK P Q) : JS Q k m := ⟨hL.1.trans h.1, fun l hl => by rw [hL.2 l hl]; exact h.2 l hl⟩
theorem cnt_3 {k : Nat} : ∀ n, cnt (fun l => ∃ i, i < k ∧ l = 3 * i) n = min k ((n + 2) / 3)
  | 0 => by
    show 0 = _
    omega
  | n + 1 => by
    have ih := cnt_3 (k := k) n
    by_cases h : ∃ i, i < k ∧ n = 3 * i
    · rw [cnt_t (p := fun l => ∃ i, i < k ∧ l = 3 * i) h, ih]
      obtain ⟨i, h1, h2⟩ := h
      omega
    · rw [cnt_f (p := fun l => ∃ i, i < k ∧ l = 3 * i) h, ih]
      have h3 : ¬ (n / 3 < k ∧ n = 3 * (n / 3)) := fun z => h ⟨n / 3, z⟩
      omega
theorem JS.n {P : Nat → Int32} {k m : Nat} (h : JS P k m) (hk : k ≤ 9) : jrN P = k := by
  unfold jrN
  rw [cnt_congr (q := fun l => ∃ i, i < k ∧ l = 3 * i) fun i hi => h.2 i hi, cnt_3]
  omega
theorem JS.jar {P : Nat → Int32} {k m : Nat} {w : Int32} (h : JS P k m) (hk : 3 * k < 26) : JS (aJ P (3 * k) w) (k + 1) m := by
  refine ⟨?_, fun l hl => ?_⟩
  · unfold aJ
    rw [pk_un (by omega), pk_un (by omega), pk_un (by omega), pk_un (by omega)]
    exact h.1
  · unfold aJ
    rw [pk_un (by omega), pk_un (by omega), pk_un (by omega)]
    by_cases e : l = 3 * k
    · subst e
      rw [pk_us]
      exact ⟨fun _ => ⟨k, by omega, rfl⟩, fun _ => rfl⟩
    · rw [pk_un (by omega), h.2 l hl]
      exact ⟨fun ⟨i, h1, h2⟩ => ⟨i, by omega, h2⟩, fun ⟨i, h1, h2⟩ => ⟨i, by omega, h2⟩⟩
theorem JS.shelf {P : Nat → Int32} {k m : Nat} {c f p : Int32} (h : JS P k m) : JS (aS P m c f p) k (m + 1) := by
  refine ⟨pk_us, fun l hl => ?_⟩
  unfold aS
  rw [pk_un (by omega), pk_un (by omega), pk_un (by omega), pk_un (by omega), pk_un (by omega), fl0_o (by omega)]
  exact h.2 l hl
theorem JS.jp {P : Nat → Int32} {k m i : Nat} (h : JS P k m) (hi : i < k) (h26 : 3 * i < 26) : jrP P (nI (97 + 3 * i)) := ⟨3 * i, h26, rfl, (h.2 _ h26).mpr ⟨i, hi, rfl⟩⟩
def DI (σ0 σ : Mm) (a L x : Nat) (A : AS) (b k m : Nat) : Prop := CIV σ x A b ∧ JS (aP A) k m ∧ BL σ0 σ x ∧ x + 788 ≤ mz σ ∧ mt σ a = (99, L) ∧ a < x
section DRW
variable {G : GG} {σ σ0 : Mm} {K : RES → Mm → Prop} {a L x b k m : Nat} {A : AS}
theorem DI.sk (h : DI σ0 σ a L x A b k m) (j : Nat) : DI σ0 (sk σ j) a L x A b k m := ⟨h.1.sk j, h.2.1, h.2.2.1.trans (BL.sk j), Nat.le_trans h.2.2.2.1 (Nat.le_add_right _ _), h.2.2.2.2.1, h.2.2.2.2.2⟩
theorem DI.fc (h : DI σ0 σ a L x A b k m) {σ' : Mm} {A' : AS} {b' k' m' : Nat} (hC : CIV σ' x A' b') (hF : Fc σ σ' x) (hJ : JS (aP A') k' m') : DI σ0 σ' a L x A' b' k' m' := by
  have hf := hF.fy
  have hz := h.2.2.2.1
  have hax := h.2.2.2.2.2
  exact ⟨hC, hJ, h.2.2.1.trans (hf.bl (by omega)), Nat.le_trans hz hf.2.2, by rw [(hf.2.1 a (by omega)).2]; exact h.2.2.2.2.1, hax⟩
theorem DI.mono (h : DI σ0 σ a L x A b k m) {b' : Nat} (hb : b ≤ b') : DI σ0 σ a L x A b' k m := ⟨h.1.mono hb, h.2⟩
theorem ne1 {v : Int32} (h : ¬ v < 0) : v ≠ -1 := fun e => by rw [e] at h; exact h (by decide)
theorem ne2 {v : Int32} (h : ¬ v < 0) : v ≠ -2 := fun e => by rw [e] at h; exact h (by decide)
/-- behind one of the 14 calls -/
def DK (K : RES → Mm → Prop) (σ0 : Mm) (a L x b J S : Nat) : Prop := ∀ (v : Int32) (σ' : Mm) (A' : AS), v ≠ -1 → v ≠ -2 → DI σ0 σ' a L x A' (b + 540) J S → K (.inl (some (vI v))) σ'
theorem DK.ok (h : DK K σ0 a L x b k m) {v : Int32} {σ' : Mm} {A' : AS} {b' : Nat} (hv : ¬ v < 0) (hD : DI σ0 σ' a L x A' b' k m) (hb : b' ≤ b + 540) : K (.inl (some (vI v))) σ' := h v σ' A' (ne1 hv) (ne2 hv) (hD.mono hb)
theorem DI.shp (h : DI σ0 σ a L x A b k m) (hm : m ≤ 4) {s : Nat} (hs : s < m) : shP (aP A) (nI s) := (shP_n hm h.2.1.1 (by omega)).mpr hs
theorem d_hear (ok : OKS G) (h : DI σ0 σ a L x A b k m) (hk7 : k ≤ 7) (hm4 : m ≤ 4) (hb : b < 2 ^ 21) {s i : Nat} (hs : s < m) (hi : i < k) (hK : DK K σ0 a L x b k m) : RunsH G mL_hear hL_hear rL_hear [vR (some x), vI (nI s), vI (nI (97 + 3 * i))] σ K := by
  have hC := h.1
  refine hL_hear_run ok.1 ok.2.1 hC.1.1 (c_hear ok.1 ok.2.2.1 (Nat.lt_of_lt_of_le hb (by decide)) hC (isC_nI (by omega)) (fun z => absurd (h.shp hm4 hs) z) (fun _ z => absurd (h.2.1.jp hi (by omega)) z) (fun k' l hk4 hl e e1 h0 _ σ' hC' hF => ⟨_, rfl, hK.ok ?_ (h.fc hC' hF (h.2.1.lk (LK.he hl))) (by omega)⟩))
  refine he_nn hC' h.2.1.1 hm4 ?_ hl
  rw [h.2.1.1] at h0
  exact (nI_ltI (by omega) (by omega)).mp h0
theorem d_say (ok : OKS G) (h : DI σ0 σ a L x A b k m) (hk7 : k ≤ 7) (hm4 : m ≤ 4) (hb : b < 2 ^ 21) {i w : Nat} (hi : i < k) (hw : w ≤ 99) (hK : DK K σ0 a L x b k m) : RunsH G mL_say hL_say rL_say [vR (some x), vI (nI (97 + 3 * i)), vI (nI w)] σ K := by
  have hC := h.1
  exact hL_say_run ok.1 ok.2.1 hC.1.1 (c_say ok.1 ok.2.2.1 (Nat.lt_of_lt_of_le hb (by decide)) hC (isC_nI (by omega)) (fun z => absurd (h.2.1.jp hi (by omega)) z) (fun _ z => absurd ⟨nI_pos (by omega), nI_nlt (a := 99) (b := w) (by omega) (by decide)⟩ z) (fun l n hn h0 hl e _ _ _ σ' hC' hF => ⟨_, rfl, hK.ok (nI_pos (by have := cnt_le (syI (aP A) l) n; omega)) (h.fc hC' hF (h.2.1.lk (LK.sy hl))) (by omega)⟩))
theorem d_warm (ok : OKS G) (h : DI σ0 σ a L x A b k m) (hk7 : k ≤ 7) (hm4 : m ≤ 4) (hb : b < 2 ^ 21) {s i z : Nat} (hs : s < m) (hi : i < k) (hz0 : 0 < z) (hz : z ≤ 50) (hK : DK K σ0 a L x b k m) : RunsH G mL_warm hL_warm rL_warm [vR (some x), vI (nI s), vI (nI (97 + 3 * i)), vI (nI z)] σ K := by
  have hC := h.1
  obtain ⟨n', m', hP, hW, -⟩ := hC.pi
  refine hL_warm_run ok.1 ok.2.1 hC.1.1 (c_warm ok.1 ok.2.2.1 (Nat.lt_of_lt_of_le hb (by decide)) hC hW.1.2 hW.1.1 (isC_nI (by omega)) (fun z => absurd (h.shp hm4 hs) z) (fun _ z => absurd (h.2.1.jp hi (by omega)) z) (fun _ _ q => absurd ⟨nI_nlt (a := z) (b := 1) (by omega) (by omega), nI_nlt (a := 50) (b := z) (by omega) (by decide)⟩ q) (fun _ _ _ _ _ j => ⟨3, -4, rfl, hK (-4) _ A (by decide) (by decide) ((h.sk j).mono (by omega))⟩) (fun k' l hk4 hl e e1 h0 _ _ _ hm σ' hC' hF => ⟨_, rfl, hK.ok (nI_pos ?_) (h.fc hC' hF (h.2.1.lk LK.wt)) (by omega)⟩))
  have := (wsP_ok (m := aP A 2 + nI z) m' (aP A)).1
  omega
theorem d_pass (ok : OKS G) (h : DI σ0 σ a L x A b k m) (hb : b < 2 ^ 21) {i : Nat} (hi0 : 0 < i) (hi : i ≤ 60) (hK : DK K σ0 a L x b k m) : RunsH G mL_pass hL_pass rL_pass [vR (some x), vI (nI i)] σ K := by
  have hC := h.1
  obtain ⟨n', m', hP, hW, -⟩ := hC.pi
  exact hL_pass_run ok.1 ok.2.1 hC.1.1 (c_pass ok.1 ok.2.2.1 (Nat.lt_of_lt_of_le hb (by decide)) hC (fun z => absurd (nI_60 hi0 hi) z) (fun i' hi' e _ σ' hC' hF => ⟨_, rfl, hK.ok (nI_pos (by have := (pP_lk (WOK_of hP hW) i').2; omega)) (h.fc hC' hF (h.2.1.lk (pP_lk (WOK_of hP hW) i').1)) (by omega)⟩))
theorem d_listen (ok : OKS G) (h : DI σ0 σ a L x A b k m) (hm4 : m ≤ 4) {s : Nat} {y : Int32} (hs : s < m) (hy : isZ y) (hK : DK K σ0 a L x b k m) : RunsH G mL_listen hL_listen rL_listen [vR (some x), vI (nI s), vI y] σ K := by
  have hC := h.1
  exact hL_listen_run ok.1 ok.2.1 hC.1.1 (c_setListening ok.1 ok.2.2.1 hC hy (fun z => absurd (h.shp hm4 hs) z) (fun k' _ _ _ _ σ' hC' hF => ⟨_, rfl, hK.ok zo_nn (h.fc hC' hF (h.2.1.lk LK.ear)) (by omega)⟩))
theorem d_addJar (ok : OKS G) (h : DI σ0 σ a L x A b k m) (hk7 : k ≤ 6) (hb : b < 2 ^ 21) {w : Nat} (hw : w ≤ 99) (hK : ∀ σ' A', DI σ0 σ' a L x A' (b + 1) (k + 1) m → K (.inl (some (vI (nI (k + 1))))) σ') : RunsH G mL_addJar hL_addJar rL_addJar [vR (some x), vI (nI (97 + 3 * k)), vI (nI w)] σ K := by
  have hC := h.1
  refine hL_addJar_run ok.1 ok.2.1 hC.1.1 (c_addJar ok.1 ok.2.2.1 (Nat.lt_of_lt_of_le hb (by decide)) hC (isC_nI (by omega)) (fun z => absurd ⟨⟨3 * k, by omega, rfl⟩, nI_pos (by omega), nI_nlt (a := 99) (b := w) (by omega) (by decide)⟩ z) (fun _ _ _ z => ?_) (fun l hl e _ _ _ _ σ' hC' hF => ⟨_, rfl, ?_⟩))
  · exfalso
    rcases z with z | ⟨l, hl, e, hp⟩
    · rw [h.2.1.n (by omega)] at z
      omega
    · obtain rfl := nIl_inj (by omega) hl e
      obtain ⟨i, h1, h2⟩ := (h.2.1.2 _ hl).mp hp
      omega
  · obtain rfl := nIl_inj (by omega) hl e
    have hJ := h.2.1.jar (w := nI w) (by omega)
    show K (.inl (some (vI (nI (jrN (aJ (aP A) (3 * k) (nI w))))))) σ'
    rw [hJ.n (by omega)]
    exact hK σ' _ (h.fc hC' hF hJ)
theorem d_addShelf (ok : OKS G) (h : DI σ0 σ a L x A b k m) (hm : m < 4) {c f : Nat} {p : Int32} (hc0 : 0 < c) (hc : c ≤ 6) (hf0 : 0 < f) (hf : f ≤ 30) (hp : plP p) (hK : ∀ σ' A', DI σ0 σ' a L x A' b k (m + 1) → K (.inl (some (vI (nI m)))) σ') : RunsH G mL_addShelf hL_addShelf rL_addShelf [vR (some x), vI (nI c), vI (nI f), vI p] σ K := by
  have hC := h.1
  exact hL_addShelf_run ok.1 ok.2.1 hC.1.1 (c_addShelf ok.1 ok.2.2.1 hC h.2.1.1 (by omega) (fun z => absurd ⟨nI_nlt (a := c) (b := 1) (by omega) (by omega), nI_nlt (a := 6) (b := c) (by omega) (by decide), nI_nlt (a := f) (b := 1) (by omega) (by omega), nI_nlt (a := 30) (b := f) (by omega) (by decide), hp⟩ z) (fun _ z => absurd z (by omega)) (fun _ hn4 σ' hC' hF => ⟨_, rfl, hK σ' _ (h.fc hC' hF h.2.1.shelf)⟩))
end DRW
