/-! ===== the layouts' words ===== -/
theorem tb_of (ws : List Cond) (ps : List Nat) (hp : ws = ps.filterMap (fun i => lw_tbl[i]?)) (hg : ws.all goodWord = true) : ∀ w ∈ ws, w ∈ TBL := fun w h => by
  have h1 := List.all_eq_true.mp hg w h
  rw [hp] at h
  obtain ⟨i, -, hi⟩ := List.mem_filterMap.mp h
  exact tb_in i hi h1
theorem ly_X0 : ∀ w ∈ u_ws RX0 TX0 5, w ∈ TBL := tb_of _ [280, 282, 284, 286, 288] (by decide +kernel) (by decide +kernel)
theorem ly_X1 : ∀ w ∈ u_ws RX1 TX1 5, w ∈ TBL := tb_of _ [300, 302, 304, 306, 308] (by decide +kernel) (by decide +kernel)
theorem ly_X2 : ∀ w ∈ u_ws RX2 TX2 9, w ∈ TBL := tb_of _ [125, 127, 129, 131, 133, 135, 137, 139, 141] (by decide +kernel) (by decide +kernel)
theorem ly_X3 : ∀ w ∈ u_ws RX3 TX3 3, w ∈ TBL := tb_of _ [245, 247, 249] (by decide +kernel) (by decide +kernel)
theorem ly_X4 : ∀ w ∈ u_ws RX4 TX4 4, w ∈ TBL := tb_of _ [79, 81, 83, 85] (by decide +kernel) (by decide +kernel)
theorem ly_X5 : ∀ w ∈ u_ws RX5 TX5 7, w ∈ TBL := tb_of _ [159, 161, 163, 165, 167, 169, 171] (by decide +kernel) (by decide +kernel)
theorem ly_X6 : ∀ w ∈ u_ws RX6 TX6 9, w ∈ TBL := tb_of _ [213, 215, 217, 219, 221, 223, 225, 227, 229] (by decide +kernel) (by decide +kernel)
theorem ly_X7 : ∀ w ∈ u_ws RX7 TX7 4, w ∈ TBL := tb_of _ [189, 191, 193, 195] (by decide +kernel) (by decide +kernel)
theorem ly_X8 : ∀ w ∈ u_ws RX8 TX8 8, w ∈ TBL := tb_of _ [352, 354, 356, 358, 360, 362, 364, 366] (by decide +kernel) (by decide +kernel)
theorem ly_J0 : ∀ w ∈ u_ws RJ0 TJ0 4, w ∈ TBL := tb_of _ [650, 652, 1304, 1306] (by decide +kernel) (by decide +kernel)
theorem ly_J4 : ∀ w ∈ u_ws RJ4 TJ4 4, w ∈ TBL := tb_of _ [334, 336, 338, 340] (by decide +kernel) (by decide +kernel)
theorem ly_all {c : Nat} (h : c < 11) : ∀ w ∈ u_ws (clN c) (clT c) (clK c), w ∈ TBL := cl_ind (P := fun c => ∀ w ∈ u_ws (clN c) (clT c) (clK c), w ∈ TBL) h ly_X0 ly_X1 ly_X2 ly_X3 ly_X4 ly_X5 ly_X6 ly_X7 ly_X8 ly_J0 ly_J4
/-! ===== the memory's rows ===== -/
theorem tb_s {G : GG} (gk : GOK G) {s : State} {args : Array Value} (hW : (gs G).WarmedH s.vm) : ∀ w ∈ TBL, w.before args s = true := fun w h => word_at hW (good_of_word (List.mem_filter.mp h).2) (gk.2.1 w (List.mem_filter.mp h).1)
theorem atT_obj {G : GG} {σ : Mm} {a ci n : Nat} {H : Heap} (hc : ci < 11) : atT G σ a (ci + 1, n) H ↔ (gs G).heap.size ≤ a ∧ t_OB a ((gD G).1 ci) (clK ci) ((gD G).2 ci) H (fun k => fv σ a ci k) := by
  unfold atT
  simp only [Nat.add_sub_cancel]
  rw [if_neg (by omega), if_pos (by omega)]
  exact ⟨fun h => h.2, fun h => ⟨hc, h⟩⟩
theorem atT_arr {G : GG} {σ : Mm} {a j n : Nat} {H : Heap} (hj : j < 11) : atT G σ a (50 + j, n) H ↔ (gs G).heap.size ≤ a ∧ H[a]? = some (arrV (gA G j) n (fun i => ev σ a j i)) := by
  unfold atT
  simp only [Nat.add_sub_cancel_left]
  rw [if_neg (by omega), if_neg (by omega), if_neg (by omega)]
  exact ⟨fun h => h.2, fun h => ⟨hj, h⟩⟩
theorem atT_scr {G : GG} {σ : Mm} {a n : Nat} {H : Heap} : atT G σ a (99, n) H ↔ ∃ scr : Cell, H[a]? = some scr ∧ (gs G).isArrayOf scr .int ∧ scr.vm ≠ .unknown ∧ scr.slots.size = n ∧ ∀ j : Nat, j < n → scr.slots[j]? = some (.int (mi σ a j)) := by
  unfold atT
  simp
theorem hk_obj {G : GG} {σ : Mm} {H : Heap} (h : HK G σ H) {a ci : Nat} (hc : ci < 11) (ht : (mt σ a).1 = ci + 1) : (gs G).heap.size ≤ a ∧ t_OB a ((gD G).1 ci) (clK ci) ((gD G).2 ci) H (fun k => fv σ a ci k) := by
  have h1 := h.2.2.2 a
  rw [show mt σ a = (ci + 1, (mt σ a).2) by rw [← ht]] at h1
  exact (atT_obj hc).mp h1
theorem hk_arr {G : GG} {σ : Mm} {H : Heap} (h : HK G σ H) {a j n : Nat} (hj : j < 11) (ht : mt σ a = (50 + j, n)) : (gs G).heap.size ≤ a ∧ H[a]? = some (arrV (gA G j) n (fun i => ev σ a j i)) := by
  have h1 := h.2.2.2 a
  rw [ht] at h1
  exact (atT_arr hj).mp h1
def smA (σ σ' : Mm) (b : Nat) : Prop := (∀ k, mi σ' b k = mi σ b k) ∧ (∀ k, mr σ' b k = mr σ b k) ∧ (∀ k, ml σ' b k = ml σ b k) ∧ ∀ k, md σ' b k = md σ b k
theorem fv_same {σ σ' : Mm} {b : Nat} (e : smA σ σ' b) (c k : Nat) : fv σ' b c k = fv σ b c k := by unfold fv; rw [e.1, e.2.1]
theorem ev_same {σ σ' : Mm} {b : Nat} (e : smA σ σ' b) (j i : Nat) : ev σ' b j i = ev σ b j i := by
  unfold ev
  rw [e.1, e.2.1, e.2.2.1]
theorem atT_same {G : GG} {σ σ' : Mm} {b : Nat} {t : Nat × Nat} {H H' : Heap} (h : atT G σ b t H) (e : smA σ σ' b) (hq : H'[b]? = H[b]?) : atT G σ' b t H' := by
  have f1 : (fun k => fv σ' b (t.1 - 1) k) = fun k => fv σ b (t.1 - 1) k := funext fun k => fv_same e _ k
  have f2 : (fun i => ev σ' b (t.1 - 50) i) = fun i => ev σ b (t.1 - 50) i := funext fun k => ev_same e _ k
  unfold atT at h ⊢
  rw [f1, f2, hq]
  split
  · trivial
  · rename_i h0
    rw [if_neg h0] at h
    split
    · rename_i h1
      rw [if_pos h1] at h
      exact ⟨h.1, h.2.1, h.2.2.kept hq⟩
    · rename_i h1
      rw [if_neg h1] at h
      split
      · rename_i h2
        rw [if_pos h2] at h
        obtain ⟨scr, g1, g2, g3, g4, g5⟩ := h
        exact ⟨scr, g1, g2, g3, g4, fun j hj => by rw [g5 j hj, e.1]⟩
      · rename_i h2
        rw [if_neg h2] at h
        exact h
theorem hk_put {G : GG} {σ σ' : Mm} {H H' : Heap} (h : HK G σ H) {a : Nat} (ha : (gs G).heap.size ≤ a) (e1 : mt σ' = mt σ) (e2 : mz σ' = mz σ) (e : ∀ b, b ≠ a → smA σ σ' b) (z : H'.size = H.size) (oq : ∀ q, q ≠ a → H'[q]? = H[q]?) (hn : atT G σ' a (mt σ a) H') : HK G σ' H' := by
  refine ⟨z.trans (h.1.trans e2.symm), by rw [e2]; exact h.2.1, fun q hq => ?_, fun b => ?_⟩
  · rw [oq q (by omega)]; exact h.2.2.1 q hq
  · rw [e1]
    by_cases hb : b = a
    · subst hb; exact hn
    · exact atT_same (h.2.2.2 b) (e b hb) (oq b hb)
theorem sm_si {σ : Mm} {a k : Nat} {x : Int32} {b : Nat} (h : b ≠ a) : smA σ (si σ a k x) b := ⟨fun j => u2_a h, fun _ => rfl, fun _ => rfl, fun _ => rfl⟩
theorem sm_sr {σ : Mm} {a k : Nat} {x : Option Nat} {b : Nat} (h : b ≠ a) : smA σ (sr σ a k x) b := ⟨fun _ => rfl, fun j => u2_a h, fun _ => rfl, fun _ => rfl⟩
theorem sm_sl {σ : Mm} {a k : Nat} {x : Int64} {b : Nat} (h : b ≠ a) : smA σ (sl σ a k x) b := ⟨fun _ => rfl, fun _ => rfl, fun j => u2_a h, fun _ => rfl⟩
theorem sm_sd {σ : Mm} {a k : Nat} {x : UInt64} {b : Nat} (h : b ≠ a) : smA σ (sd σ a k x) b := ⟨fun _ => rfl, fun _ => rfl, fun _ => rfl, fun j => u2_a h⟩
/-- the class's part of the start's facts, in the method's own state -/
theorem gk_cls {G : GG} (gk : GOK G) {s : State} (hW : (gs G).WarmedH s.vm) {c : Nat} (hc : c < 11) : u_Kn s (clN c) (clT c) (clK c) ((gD G).1 c) ((gD G).2 c) := u_Kn_moved hW.alike (gk.2.2.1 c hc)
theorem gk_arr {G : GG} (gk : GOK G) {s : State} (hW : (gs G).WarmedH s.vm) {j : Nat} (hj : j < 11) : ArrOfT s (gA G j) (arT j) ∧ va_RA s (gA G j) (arT j) := ⟨arrOfT_moved hW.alike (gk.2.2.2.1 j hj).1, (gk.2.2.2.1 j hj).2.moved hW.alike⟩
/-- the field's word: own's pool row idx is field k of class ci -/
def fOk (own : String) (idx ci k : Nat) : Prop := ci < 11 ∧ k < clK ci ∧ Cond.fieldLink own idx (clT ci k).1 (clT ci k).2.1 (clT ci k).2.2.1 ∈ TBL
section RWM
variable {G : GG} {M : SIG} {rm : Room} {uc us pc : Nat} {L : List (Option VV)} {S : List VV} {σ : Mm} {K : RES → Mm → Prop}
theorem s_get (gk : GOK G) {idx ci k a : Nat} {v : VV} (hd : decode M.2.1 pc = .ok (.getfield idx, 3)) (hf : fOk M.1.cls idx ci k) (ht : (mt σ a).1 = ci + 1) (hv : fv σ a ci k = em v) (kk : At G M rm uc us (pc + 3) L (v :: S) σ K) : At G M rm uc us pc L (vR (some a) :: S) σ K := by
  intro p e s m args below meth c H locs ls C h1 h2 h3 h4
  obtain ⟨hx, hb, -, -, hown, -, -, -, hW⟩ := id C
  obtain ⟨-, cell, q1, q2, q3, q4⟩ := hk_obj h3 hf.1 ht
  obtain ⟨hS, hfc, kC, hkC, hkind⟩ := gk_cls gk hW hf.1
  obtain ⟨cf, kf, fi, f, hi, hsl⟩ := hS k hf.2.1
  have hts := tb_s gk (args := args) hW
  refine W.getf hx hb hown (hts _ hf.2.2) hi (u_facts hfc hkC (u_lays hts (ly_all hf.1) hf.2.1) hi).1 q1 (by rw [q3]; exact fun h => by cases h) (v := em v) ?_ rfl rfl hd (kk p e s m args below meth c H locs ls C h1 h2 h3 h4)
  rw [hsl, q4 k hf.2.1]
  exact congrArg some hv
theorem s_getI (gk : GOK G) {idx ci k a : Nat} (hd : decode M.2.1 pc = .ok (.getfield idx, 3)) (hf : fOk M.1.cls idx ci k) (hr : rfT (clY ci k) = false) (ht : (mt σ a).1 = ci + 1) (kk : At G M rm uc us (pc + 3) L (vI (mi σ a k) :: S) σ K) : At G M rm uc us pc L (vR (some a) :: S) σ K :=
  s_get gk hd hf ht (by unfold fv; rw [hr]; rfl) kk
theorem s_getR (gk : GOK G) {idx ci k a : Nat} (hd : decode M.2.1 pc = .ok (.getfield idx, 3)) (hf : fOk M.1.cls idx ci k) (hr : rfT (clY ci k) = true) (ht : (mt σ a).1 = ci + 1) (kk : At G M rm uc us (pc + 3) L (vR (mr σ a k) :: S) σ K) : At G M rm uc us pc L (vR (some a) :: S) σ K :=
  s_get gk hd hf ht (by unfold fv; rw [hr]; rfl) kk
theorem fv_si {σ : Mm} {a ci k : Nat} {x : Int32} (hr : rfT (clY ci k) = false) (j : Nat) : updV (fun j => fv σ a ci j) k (.int x) j = fv (si σ a k x) a ci j := by
  unfold updV fv
  by_cases h : j = k
  · subst h
    rw [if_pos rfl, hr]
    simp [si, mi, u2]
  · rw [if_neg h]
    simp [si, mi, mr, u2, h]
theorem fv_sr {σ : Mm} {a ci k : Nat} {x : Option Nat} (hr : rfT (clY ci k) = true) (j : Nat) : updV (fun j => fv σ a ci j) k (va_rf x) j = fv (sr σ a k x) a ci j := by
  unfold updV fv
  by_cases h : j = k
  · subst h
    rw [if_pos rfl, hr]
    simp [sr, mr, u2]
  · rw [if_neg h]
    simp [sr, mi, mr, u2, h]
theorem cl_apart {G : GG} (gk : GOK G) {s : State} (hW : (gs G).WarmedH s.vm) {args : Array Value} {ci : Nat} (hc : ci < 11) : ∀ x y, x < clK ci → y < clK ci → x ≠ y → (gD G).2 ci x ≠ (gD G).2 ci y := by
  intro x y hx hy hne
  obtain ⟨hS, -⟩ := gk_cls gk hW hc
  have hts := tb_s gk (args := args) hW
  obtain ⟨_, _, _, fa, hia, ea⟩ := hS x hx
  obtain ⟨_, _, _, fb, hib, eb⟩ := hS y hy
  rw [← ea, ← eb]
  refine u_apart (u_lays hts (ly_all hc) hx) (u_lays hts (ly_all hc) hy) hia hib ?_
  rw [(State.fieldFound?_type hia (cl_ty hc x hx)).1, (State.fieldFound?_type hib (cl_ty hc y hy)).1]
  exact cl_nm hc x hx y hy hne
theorem s_put (gk : GOK G) {idx ci k a : Nat} {v : VV} {σ' : Mm} (hd : decode M.2.1 pc = .ok (.putfield idx, 3)) (hf : fOk M.1.cls idx ci k) (hfin : (clT ci k).2.2.2 = false ∨ ((clT ci k).2.2.2 = true ∧ M.1.name = "<init>" ∧ (clT ci k).1 = M.1.cls)) (ht : (mt σ a).1 = ci + 1) (hn : narrow (clY ci k) (em v) = em v) (hfit : fits (clY ci k) (em v) = true)
    (e1 : mt σ' = mt σ) (e2 : mz σ' = mz σ) (e3 : ∀ b, b ≠ a → smA σ σ' b) (e4 : ∀ j, updV (fun j => fv σ a ci j) k (em v) j = fv σ' a ci j) (kk : At G M rm uc us (pc + 3) L S σ' K) : At G M rm uc us pc L (v :: vR (some a) :: S) σ K := by
  intro p e s m args below meth c H locs ls C h1 h2 h3 h4
  obtain ⟨hx, hb, -, -, hown, -, -, hnm, hW⟩ := id C
  obtain ⟨hN, cell, q1, q2, q3, q4⟩ := hk_obj h3 hf.1 ht
  obtain ⟨hS, hfc, kC, hkC, hkind⟩ := gk_cls gk hW hf.1
  obtain ⟨cf, kf, fi, f, hi, hsl⟩ := hS k hf.2.1
  have hts := tb_s gk (args := args) hW
  have hty := cl_ty hf.1 k hf.2.1
  have hap := cl_apart gk hW (args := args) hf.1
  have hst := (u_facts hfc hkC (u_lays hts (ly_all hf.1) hf.2.1) hi).1
  have hlay := hts _ (ly_all hf.1 _ (u_in_lay hf.2.1))
  have fin : ∀ H' : Heap, H'[a]? = some (cell.setSlot f.slot (em v)) → H'.size = H.size → (∀ q, q ≠ a → H'[q]? = H[q]?) → W p (gl G) e rm s m args below meth c H' (locs ++ [⟨a, f.slot⟩]) uc us (vx_MQ below (QcG G K) (XCG G K) args s rm.cells rm.slots (frG G)) (F0 m (pc + 3) ls (S.map em)) := by
    intro H' g1 g2 g3
    refine kk p e s m args below meth c H' _ ls C (by rw [g2]; exact h1) (fun z hz => ?_) (hk_put h3 hN e1 e2 e3 g2 g3 ?_) h4
    · rcases List.mem_append.mp hz with h | h
      · exact h2 z h
      · rw [List.mem_singleton.mp h]; exact hN
    · rw [show mt σ a = (ci + 1, (mt σ a).2) by rw [← ht]]
      rw [hsl] at g1
      exact (atT_obj hf.1).mpr ⟨hN, t_OB.to (V := updV (fun j => fv σ a ci j) k (em v)) ⟨_, g1, q2, q3, t_set q4 hap hf.2.1 (em v)⟩ (fun j _ => e4 j)⟩
  unfold u_lay at hlay
  rcases hfin with hfin | ⟨hfin, hini, hdecl⟩
  · rw [if_neg (by rw [hfin]; decide)] at hlay
    have h6 := u_store hfc hkC hkind hlay hi hty hn hfit
    exact W.putK hx hb (f := f) ⟨hown, hts _ hf.2.2, ⟨_, _, _, hi⟩, hst⟩ (by rw [q2]; exact h6) q1 q3 (by rw [hsl]; exact k2_hasslot (q4 k hf.2.1)) rfl rfl hd fin
  · rw [if_pos hfin] at hlay
    have hcf : m.cls = cf := by
      obtain ⟨_, _, c', _, _, _, -, -, hf', -, -, -, hown2, -⟩ := Cond.laysFinal_spec hlay
      have g1 : c' = cf := by have := hi.symm.trans hf'; simp at this; exact this.1.symm
      rw [hdecl] at hown2
      rw [← g1]; exact Option.some.inj (hown.symm.trans hown2)
    have h6 := u_fits hfc hkC hkind (Or.inr hlay) hi hty hn hfit
    exact W.putFinK hx hb hown (hts _ hf.2.2) hi hst hcf (hnm.1.trans hini) (by rw [q2]; exact h6) q1 q3 (by rw [hsl]; exact k2_hasslot (q4 k hf.2.1)) rfl rfl hd fin
theorem s_putI (gk : GOK G) {idx ci k a : Nat} {x : Int32} (hd : decode M.2.1 pc = .ok (.putfield idx, 3)) (hf : fOk M.1.cls idx ci k) (hfin : (clT ci k).2.2.2 = false) (hr : rfT (clY ci k) = false) (ht : (mt σ a).1 = ci + 1) (hn : narrow (clY ci k) (.int x) = .int x ∧ fits (clY ci k) (.int x) = true) (kk : At G M rm uc us (pc + 3) L S (si σ a k x) K) : At G M rm uc us pc L (vI x :: vR (some a) :: S) σ K :=
  s_put (σ' := si σ a k x) gk hd hf (Or.inl hfin) ht hn.1 hn.2 rfl rfl (fun _ h => sm_si h) (fv_si hr) kk
theorem s_putR (gk : GOK G) {idx ci k a : Nat} {x : Option Nat} (hd : decode M.2.1 pc = .ok (.putfield idx, 3)) (hf : fOk M.1.cls idx ci k) (hfin : (clT ci k).2.2.2 = false ∨ ((clT ci k).2.2.2 = true ∧ M.1.name = "<init>" ∧ (clT ci k).1 = M.1.cls)) (hr : rfT (clY ci k) = true) (ht : (mt σ a).1 = ci + 1) (hn : narrow (clY ci k) (va_rf x) = va_rf x ∧ fits (clY ci k) (va_rf x) = true) (kk : At G M rm uc us (pc + 3) L S (sr σ a k x) K) : At G M rm uc us pc L (vR x :: vR (some a) :: S) σ K :=
  s_put (σ' := sr σ a k x) gk hd hf hfin ht hn.1 hn.2 rfl rfl (fun _ h => sm_sr h) (fv_sr hr) kk
theorem s_alen (gk : GOK G) {a j n : Nat} {v : Int32} (hd : decode M.2.1 pc = .ok (.arraylength, 1)) (hj : j < 11) (ht : mt σ a = (50 + j, n)) (hv : nI n = v) (kk : At G M rm uc us (pc + 1) L (vI v :: S) σ K) : At G M rm uc us pc L (vR (some a) :: S) σ K := by
  intro p e s m args below meth c H locs ls C h1 h2 h3 h4
  obtain ⟨-, q1⟩ := hk_arr h3 hj ht
  exact W.alen (n := v) C.1 C.2.1 q1 ((gk_arr gk C.2.2.2.2.2.2.2.2 hj).1 n _) (by rw [arrV_size]; exact hv) rfl rfl hd (kk p e s m args below meth c H locs ls C h1 h2 h3 h4)
theorem s_slen {a n : Nat} {v : Int32} (hd : decode M.2.1 pc = .ok (.arraylength, 1)) (ht : mt σ a = (99, n)) (hv : nI n = v) (kk : At G M rm uc us (pc + 1) L (vI v :: S) σ K) : At G M rm uc us pc L (vR (some a) :: S) σ K := by
  intro p e s m args below meth c H locs ls C h1 h2 h3 h4
  have q := h3.2.2.2 a
  rw [ht] at q
  obtain ⟨scr, g1, g2, g3, g4, g5⟩ := atT_scr.mp q
  exact W.alen (n := v) C.1 C.2.1 g1 (State.isArrayOf_alike C.2.2.2.2.2.2.2.2.alike g2) (by rw [g4]; exact hv) rfl rfl hd (kk p e s m args below meth c H locs ls C h1 h2 h3 h4)
theorem s_sld {a n : Nat} {i : Int32} (hd : decode M.2.1 pc = .ok (.iaload, 1)) (ht : mt σ a = (99, n)) (hin : vp_in i n) (kk : At G M rm uc us (pc + 1) L (vI (mi σ a i.toNatClampNeg) :: S) σ K) : At G M rm uc us pc L (vI i :: vR (some a) :: S) σ K := by
  intro p e s m args below meth c H locs ls C h1 h2 h3 h4
  have q := h3.2.2.2 a
  rw [ht] at q
  obtain ⟨scr, g1, g2, g3, g4, g5⟩ := atT_scr.mp q
  have hlt : i.toNatClampNeg < n := Nat.not_le.mp fun q => hin (Or.inr q)
  exact W.iald (v := .int (mi σ a i.toNatClampNeg)) C.1 C.2.1 g1 (State.isArrayOf_alike C.2.2.2.2.2.2.2.2.alike g2) g3 (by rw [g4]; exact hin) (g5 _ hlt) rfl rfl hd (kk p e s m args below meth c H locs ls C h1 h2 h3 h4)
theorem av_in {i : Int32} {n : Nat} (cA : ClassId) (f : Nat → Value) (hin : vp_in i n) : ¬ (i < 0 ∨ (arrV cA n f).slots.size ≤ i.toNatClampNeg) := by rw [arrV_size]; exact hin
theorem av_lt {i : Int32} {n : Nat} (hin : vp_in i n) : i.toNatClampNeg < n := Nat.not_le.mp fun q => hin (Or.inr q)
theorem av_kn (cA : ClassId) (n : Nat) (f : Nat → Value) : (arrV cA n f).vm ≠ .unknown := fun q => by cases q
theorem s_cald (gk : GOK G) {a n : Nat} {i : Int32} (hd : decode M.2.1 pc = .ok (.caload, 1)) (ht : mt σ a = (53, n)) (hin : vp_in i n) (kk : At G M rm uc us (pc + 1) L (vI (mi σ a i.toNatClampNeg) :: S) σ K) : At G M rm uc us pc L (vI i :: vR (some a) :: S) σ K := by
  intro p e s m args below meth c H locs ls C h1 h2 h3 h4
  obtain ⟨-, q1⟩ := hk_arr (j := 3) h3 (by decide) ht
  exact W.cald (v := .int (mi σ a i.toNatClampNeg)) C.1 C.2.1 q1 ((gk_arr gk C.2.2.2.2.2.2.2.2 (j := 3) (by decide)).1 n _) (av_kn _ _ _) (av_in _ _ hin) (by rw [arrV_read _ _ (av_lt hin)]; rfl) rfl rfl hd (kk p e s m args below meth c H locs ls C h1 h2 h3 h4)
theorem s_bald (gk : GOK G) {a n : Nat} {i : Int32} (hd : decode M.2.1 pc = .ok (.baload, 1)) (ht : mt σ a = (54, n)) (hin : vp_in i n) (kk : At G M rm uc us (pc + 1) L (vI (mi σ a i.toNatClampNeg) :: S) σ K) : At G M rm uc us pc L (vI i :: vR (some a) :: S) σ K := by
  intro p e s m args below meth c H locs ls C h1 h2 h3 h4
  obtain ⟨-, q1⟩ := hk_arr (j := 4) h3 (by decide) ht
  exact W.bald (v := .int (mi σ a i.toNatClampNeg)) C.1 C.2.1 q1 ((gk_arr gk C.2.2.2.2.2.2.2.2 (j := 4) (by decide)).1 n _) (av_kn _ _ _) (av_in _ _ hin) (by rw [arrV_read _ _ (av_lt hin)]; rfl) rfl rfl hd (kk p e s m args below meth c H locs ls C h1 h2 h3 h4)
theorem s_lald (gk : GOK G) {a n : Nat} {i : Int32} (hd : decode M.2.1 pc = .ok (.laload, 1)) (ht : mt σ a = (51, n)) (hin : vp_in i n) (kk : At G M rm uc us (pc + 1) L (vL (ml σ a i.toNatClampNeg) :: S) σ K) : At G M rm uc us pc L (vI i :: vR (some a) :: S) σ K := by
  intro p e s m args below meth c H locs ls C h1 h2 h3 h4
  obtain ⟨-, q1⟩ := hk_arr (j := 1) h3 (by decide) ht
  exact W.lald (v := .long (ml σ a i.toNatClampNeg)) C.1 C.2.1 q1 ((gk_arr gk C.2.2.2.2.2.2.2.2 (j := 1) (by decide)).1 n _) (av_kn _ _ _) (av_in _ _ hin) (by rw [arrV_read _ _ (av_lt hin)]; rfl) rfl rfl hd (kk p e s m args below meth c H locs ls C h1 h2 h3 h4)
theorem rf_arr {j : Nat} (h5 : 5 ≤ j) : ∃ C, arT j = .object C := by
  unfold arT
  match j, h5 with
  | 5, _ => exact ⟨_, rfl⟩
  | 6, _ => exact ⟨_, rfl⟩
  | 7, _ => exact ⟨_, rfl⟩
  | 8, _ => exact ⟨_, rfl⟩
  | 9, _ => exact ⟨_, rfl⟩
  | n + 10, _ => exact ⟨_, rfl⟩
theorem ev_rf {σ : Mm} {a j i : Nat} (h5 : 5 ≤ j) : ev σ a j i = va_rf (mr σ a i) := by
  unfold ev
  match j, h5 with
  | n + 5, _ => rfl
theorem s_aald (gk : GOK G) {a n j : Nat} {i : Int32} (hd : decode M.2.1 pc = .ok (.aaload, 1)) (hj : j < 11) (h5 : 5 ≤ j) (ht : mt σ a = (50 + j, n)) (hin : vp_in i n) (kk : At G M rm uc us (pc + 1) L (vR (mr σ a i.toNatClampNeg) :: S) σ K) : At G M rm uc us pc L (vI i :: vR (some a) :: S) σ K := by
  intro p e s m args below meth c H locs ls C h1 h2 h3 h4
  obtain ⟨-, q1⟩ := hk_arr h3 hj ht
  obtain ⟨Cn, hC⟩ := rf_arr h5
  exact W.aald (v := va_rf (mr σ a i.toNatClampNeg)) (ty := arT j) C.1 C.2.1 q1 ((gk_arr gk C.2.2.2.2.2.2.2.2 hj).1 n _) (by rw [hC]; rfl) (av_kn _ _ _) (av_in _ _ hin) (by rw [arrV_read _ _ (av_lt hin), ev_rf h5]) rfl rfl hd (kk p e s m args below meth c H locs ls C h1 h2 h3 h4)
/-- behind a store into an array -/
theorem s_ast (gk : GOK G) {a n j k st : Nat} {v : Value} {σ' : Mm} {locs : List Loc} {H H' : Heap} {p : Program} {e : Env} {s : State} {m : MethodId} {args : Array Value} {below : List Frame} {meth : Method} {c : Code} {ls : Array Slot} (C : CX G M p s m meth c) (h1 : s.heap.size ≤ H.size) (h2 : ∀ z ∈ locs, frG G z.base) (h3 : HK G σ H) (h4 : lcs ls M.2.2.1 L) (hj : j < 11) (ht : mt σ a = (50 + j, n))
    (g1 : H'[a]? = some ((arrV (gA G j) n (fun i => ev σ a j i)).setSlot k v)) (g2 : H'.size = H.size) (g3 : ∀ q, q ≠ a → H'[q]? = H[q]?) (e1 : mt σ' = mt σ) (e2 : mz σ' = mz σ) (e3 : ∀ b, b ≠ a → smA σ σ' b) (e4 : ∀ i, updV (fun i => ev σ a j i) k v i = ev σ' a j i) (kk : At G M rm uc us st L S σ' K) :
    W p (gl G) e rm s m args below meth c H' (locs ++ [⟨a, k⟩]) uc us (vx_MQ below (QcG G K) (XCG G K) args s rm.cells rm.slots (frG G)) (F0 m st ls (S.map em)) := by
  have hN := (hk_arr h3 hj ht).1
  refine kk p e s m args below meth c H' _ ls C (by rw [g2]; exact h1) (fun z hz => ?_) (hk_put h3 hN e1 e2 e3 g2 g3 ?_) h4
  · rcases List.mem_append.mp hz with h | h
    · exact h2 z h
    · rw [List.mem_singleton.mp h]; exact hN
  · rw [ht]
    refine (atT_arr hj).mpr ⟨hN, ?_⟩
    rw [g1, arrV_store]
    congr 2
    exact funext e4
theorem s_cast (gk : GOK G) {a n : Nat} {i x : Int32} (hd : decode M.2.1 pc = .ok (.castore, 1)) (ht : mt σ a = (53, n)) (hin : vp_in i n) (hx : narrow .char (.int x) = .int x) (kk : At G M rm uc us (pc + 1) L S (si σ a i.toNatClampNeg x) K) : At G M rm uc us pc L (vI x :: vI i :: vR (some a) :: S) σ K := by
  intro p e s m args below meth c H locs ls C h1 h2 h3 h4
  obtain ⟨-, q1⟩ := hk_arr (j := 3) h3 (by decide) ht
  refine W.cast C.1 C.2.1 q1 ((gk_arr gk C.2.2.2.2.2.2.2.2 (j := 3) (by decide)).1 n _) (av_kn _ _ _) (av_in _ _ hin) rfl rfl hd fun H' g1 g2 g3 => s_ast (σ' := si σ a i.toNatClampNeg x) (j := 3) gk C h1 h2 h3 h4 (by decide) ht g1 g2 g3 rfl rfl (fun _ h => sm_si h) (fun q => ?_) kk
  rw [hx]
  by_cases h : q = i.toNatClampNeg <;> simp [updV, ev, si, mi, u2, h]
theorem s_bast (gk : GOK G) {a n : Nat} {i x : Int32} (hd : decode M.2.1 pc = .ok (.bastore, 1)) (ht : mt σ a = (54, n)) (hin : vp_in i n) (hx : narrow .byte (.int x) = .int x) (kk : At G M rm uc us (pc + 1) L S (si σ a i.toNatClampNeg x) K) : At G M rm uc us pc L (vI x :: vI i :: vR (some a) :: S) σ K := by
  intro p e s m args below meth c H locs ls C h1 h2 h3 h4
  obtain ⟨-, q1⟩ := hk_arr (j := 4) h3 (by decide) ht
  refine W.bast C.1 C.2.1 q1 ((gk_arr gk C.2.2.2.2.2.2.2.2 (j := 4) (by decide)).1 n _) (av_kn _ _ _) (av_in _ _ hin) rfl rfl hd fun H' g1 g2 g3 => s_ast (σ' := si σ a i.toNatClampNeg x) (j := 4) gk C h1 h2 h3 h4 (by decide) ht g1 g2 g3 rfl rfl (fun _ h => sm_si h) (fun q => ?_) kk
  rw [hx]
  by_cases h : q = i.toNatClampNeg <;> simp [updV, ev, si, mi, u2, h]
theorem s_last (gk : GOK G) {a n : Nat} {i : Int32} {x : Int64} (hd : decode M.2.1 pc = .ok (.lastore, 1)) (ht : mt σ a = (51, n)) (hin : vp_in i n) (kk : At G M rm uc us (pc + 1) L S (sl σ a i.toNatClampNeg x) K) : At G M rm uc us pc L (vL x :: vI i :: vR (some a) :: S) σ K := by
  intro p e s m args below meth c H locs ls C h1 h2 h3 h4
  obtain ⟨-, q1⟩ := hk_arr (j := 1) h3 (by decide) ht
  refine W.last C.1 C.2.1 q1 ((gk_arr gk C.2.2.2.2.2.2.2.2 (j := 1) (by decide)).1 n _) (av_kn _ _ _) (av_in _ _ hin) rfl rfl hd fun H' g1 g2 g3 => s_ast (σ' := sl σ a i.toNatClampNeg x) (j := 1) gk C h1 h2 h3 h4 (by decide) ht g1 g2 g3 rfl rfl (fun _ h => sm_sl h) (fun q => ?_) kk
  by_cases h : q = i.toNatClampNeg <;> simp [updV, ev, sl, ml, u2, h]
/-- an object of class ci into an array of that class -/
theorem s_aast (gk : GOK G) {a n j ci v : Nat} {i : Int32} (hd : decode M.2.1 pc = .ok (.aastore, 1)) (hj : j < 11) (h5 : 5 ≤ j) (hc : ci < 11) (hjc : arT j = .object (clN ci)) (ht : mt σ a = (50 + j, n)) (hv : (mt σ v).1 = ci + 1) (hin : vp_in i n) (kk : At G M rm uc us (pc + 1) L S (sr σ a i.toNatClampNeg (some v)) K) : At G M rm uc us pc L (vR (some v) :: vI i :: vR (some a) :: S) σ K := by
  intro p e s m args below meth c H locs ls C h1 h2 h3 h4
  obtain ⟨-, q1⟩ := hk_arr h3 hj ht
  obtain ⟨-, cellV, g1, g2, g3, -⟩ := hk_obj h3 hc hv
  have hcls := (gk_cls gk C.2.2.2.2.2.2.2.2 hc).2
  have hra := (gk_arr gk C.2.2.2.2.2.2.2.2 hj).2
  rw [hjc] at hra
  obtain ⟨kA, comp, k1, k2, k3, -⟩ := hra
  have hcomp : comp = (gD G).1 ci := Option.some.inj (k3.symm.trans hcls.1)
  subst hcomp
  obtain ⟨kC, hkC, -⟩ := hcls.2
  refine W.aast C.1 C.2.1 q1 (fun q h => by cases h) (av_kn _ _ _) k1 k2 rfl hkC ⟨fun q => hin (Or.inl q), by rw [arrV_size]; exact av_lt hin⟩ g1 (fun q h => by rw [g3] at h; cases h) (by rw [g2]; exact hkC) (by rw [g2]; exact va_assign hcls) rfl rfl hd fun H' g1 g2 g3 => s_ast (σ' := sr σ a i.toNatClampNeg (some v)) (j := j) gk C h1 h2 h3 h4 hj ht g1 g2 g3 rfl rfl (fun _ h => sm_sr h) (fun q => ?_) kk
  by_cases h : q = i.toNatClampNeg
  · subst h; rw [ev_rf h5]; simp [updV, sr, mr, u2, va_rf]
  · rw [ev_rf h5]; simp [updV, ev_rf h5, sr, mr, u2, h]
end RWM

