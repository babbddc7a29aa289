/-! ===== the rows again, a reference by an equation ===== -/
def i2c (x : Int32) : Int32 := (x.toUInt32 % 65536).toInt32
section RWR
variable {G : GG} {M : SIG} {rm : Room} {uc us pc : Nat} {L : List (Option VV)} {S : List VV} {σ : Mm} {K : RES → Mm → Prop}
theorem t_getI (gk : GOK G) {idx ci k a : Nat} {r : Option Nat} (hd : decode M.2.1 pc = .ok (.getfield idx, 3)) (hf : fOk M.1.cls idx ci k) (hr : rfT (clY ci k) = false) (e : r = some a) (ht : (mt σ a).1 = ci + 1) (kk : At G M rm uc us (pc + 3) L (vI (mi σ a k) :: S) σ K) : At G M rm uc us pc L (vR r :: S) σ K := by
  subst e; exact s_getI gk hd hf hr ht kk
theorem t_getR (gk : GOK G) {idx ci k a : Nat} {r : Option Nat} (hd : decode M.2.1 pc = .ok (.getfield idx, 3)) (hf : fOk M.1.cls idx ci k) (hr : rfT (clY ci k) = true) (e : r = some a) (ht : (mt σ a).1 = ci + 1) (kk : At G M rm uc us (pc + 3) L (vR (mr σ a k) :: S) σ K) : At G M rm uc us pc L (vR r :: S) σ K := by
  subst e; exact s_getR gk hd hf hr ht kk
theorem t_putI (gk : GOK G) {idx ci k a : Nat} {r : Option Nat} {x : Int32} (hd : decode M.2.1 pc = .ok (.putfield idx, 3)) (hf : fOk M.1.cls idx ci k) (hfin : (clT ci k).2.2.2 = false) (hr : rfT (clY ci k) = false) (e : r = some a) (ht : (mt σ a).1 = ci + 1) (hn : narrow (clY ci k) (.int x) = .int x ∧ fits (clY ci k) (.int x) = true) (kk : ∀ σ', σ' = si σ a k x → mt σ' = mt σ → At G M rm uc us (pc + 3) L S σ' K) : At G M rm uc us pc L (vI x :: vR r :: S) σ K := by
  subst e; exact s_putI gk hd hf hfin hr ht hn (kk _ rfl rfl)
theorem t_putR (gk : GOK G) {idx ci k a : Nat} {r : Option Nat} {x : Option Nat} (hd : decode M.2.1 pc = .ok (.putfield idx, 3)) (hf : fOk M.1.cls idx ci k) (hfin : (clT ci k).2.2.2 = false ∨ ((clT ci k).2.2.2 = true ∧ M.1.name = "<init>" ∧ (clT ci k).1 = M.1.cls)) (hr : rfT (clY ci k) = true) (e : r = some a) (ht : (mt σ a).1 = ci + 1) (hn : narrow (clY ci k) (va_rf x) = va_rf x ∧ fits (clY ci k) (va_rf x) = true) (kk : ∀ σ', σ' = sr σ a k x → mt σ' = mt σ → At G M rm uc us (pc + 3) L S σ' K) : At G M rm uc us pc L (vR x :: vR r :: S) σ K := by
  subst e; exact s_putR gk hd hf hfin hr ht hn (kk _ rfl rfl)
theorem t_alen (gk : GOK G) {a j n : Nat} {r : Option Nat} (hd : decode M.2.1 pc = .ok (.arraylength, 1)) (hj : j < 11) (e : r = some a) (ht : mt σ a = (50 + j, n)) (kk : At G M rm uc us (pc + 1) L (vI (nI n) :: S) σ K) : At G M rm uc us pc L (vR r :: S) σ K := by
  subst e; exact s_alen gk hd hj ht rfl kk
theorem t_cald (gk : GOK G) {a n : Nat} {r : Option Nat} {i : Int32} (hd : decode M.2.1 pc = .ok (.caload, 1)) (e : r = some a) (ht : mt σ a = (53, n)) (hin : vp_in i n) (kk : At G M rm uc us (pc + 1) L (vI (mi σ a i.toNatClampNeg) :: S) σ K) : At G M rm uc us pc L (vI i :: vR r :: S) σ K := by
  subst e; exact s_cald gk hd ht hin kk
theorem t_aald (gk : GOK G) {a n j : Nat} {r : Option Nat} {i : Int32} (hd : decode M.2.1 pc = .ok (.aaload, 1)) (hj : j < 11) (h5 : 5 ≤ j) (e : r = some a) (ht : mt σ a = (50 + j, n)) (hin : vp_in i n) (kk : At G M rm uc us (pc + 1) L (vR (mr σ a i.toNatClampNeg) :: S) σ K) : At G M rm uc us pc L (vI i :: vR r :: S) σ K := by
  subst e; exact s_aald gk hd hj h5 ht hin kk
theorem t_cast (gk : GOK G) {a n : Nat} {r : Option Nat} {i x : Int32} (hd : decode M.2.1 pc = .ok (.castore, 1)) (e : r = some a) (ht : mt σ a = (53, n)) (hin : vp_in i n) (hx : narrow .char (.int x) = .int x) (kk : ∀ σ', σ' = si σ a i.toNatClampNeg x → mt σ' = mt σ → At G M rm uc us (pc + 1) L S σ' K) : At G M rm uc us pc L (vI x :: vI i :: vR r :: S) σ K := by
  subst e; exact s_cast gk hd ht hin hx (kk _ rfl rfl)
theorem t_aast (gk : GOK G) {a n j ci v : Nat} {r q : Option Nat} {i : Int32} (hd : decode M.2.1 pc = .ok (.aastore, 1)) (hj : j < 11) (h5 : 5 ≤ j) (hc : ci < 11) (hjc : arT j = .object (clN ci)) (e : r = some a) (ht : mt σ a = (50 + j, n)) (eq : q = some v) (hv : (mt σ v).1 = ci + 1) (hin : vp_in i n) (kk : ∀ σ', σ' = sr σ a i.toNatClampNeg q → mt σ' = mt σ → At G M rm uc us (pc + 1) L S σ' K) : At G M rm uc us pc L (vR q :: vI i :: vR r :: S) σ K := by
  subst e; subst eq; exact s_aast gk hd hj h5 hc hjc ht hv hin (kk _ rfl rfl)
theorem t_callV (gk : GOK G) {idx nA ci a : Nat} {r : Option Nat} {Y : SIG} {rmY : Room} {as : List VV} {S0 : List VV} (hd : decode M.2.1 pc = .ok (.invokevirtual idx, 3)) (hy : yOk M.1.cls idx nA Y) (hc : ci < 11) (hyc : Y.1.cls = clN ci) (w1 : Cond.instanceMethod Y.1 ∈ TBL) (w2 : Cond.selects Y.1.cls Y.1 Y.1 ∈ TBL) (e : r = some a) (ht : (mt σ a).1 = ci + 1) (hst : S0 = as.reverse ++ vR r :: S) (hl : as.length = nA) (hs4 : S.length ≤ 4)
    (hR : rmY.frames + 1 ≤ rm.frames ∧ 8 + (Y.2.2.1 + 11) + rmY.locals ≤ rm.locals ∧ uc + rmY.cells ≤ rm.cells ∧ us + rmY.slots ≤ rm.slots) (hrun : Runs G Y rmY (vR r :: as) σ (bk G M rm (uc + rmY.cells) (us + rmY.slots) (pc + 3) L S K)) : At G M rm uc us pc L S0 σ K := by
  subst e; exact s_callV gk hd hy hc hyc w1 w2 ht hst hl hs4 hR hrun
theorem t_new (gk : GOK G) {idx ci : Nat} (hd : decode M.2.1 pc = .ok (.new idx, 3)) (hn : nOk M.1.cls idx ci) (g1 : uc + 1 ≤ rm.cells) (g2 : us + clK ci ≤ rm.slots) (kk : ∀ σ', σ' = nw σ (ci + 1, 0) → At G M rm (uc + 1) (us + clK ci) (pc + 3) L (vR (some (mz σ)) :: S) σ' K) : At G M rm uc us pc L S σ K := s_new gk hd hn g1 g2 (kk _ rfl)
end RWR
/-- fewer locals known, place by place -/
def subL : List (Option VV) → List (Option VV) → Prop
  | [], [] => True
  | none :: l', _ :: l => subL l' l
  | some v :: l', some w :: l => v = w ∧ subL l' l
  | _, _ => False
theorem subL_ok : ∀ (L' L : List (Option VV)), subL L' L → L'.length = L.length ∧ ∀ (i : Nat) (v : VV), L'[i]? = some (some v) → L[i]? = some (some v)
  | [], [], _ => ⟨rfl, fun i v h => by simp at h⟩
  | none :: l', x :: l, h => by
    obtain ⟨h1, h2⟩ := subL_ok l' l (by simpa [subL] using h)
    refine ⟨by simp [h1], fun i v hi => ?_⟩
    cases i with
    | zero => simp at hi
    | succ i => simpa using h2 i v (by simpa using hi)
  | some v :: l', some w :: l, h => by
    obtain ⟨h0, h⟩ : v = w ∧ subL l' l := by simpa [subL] using h
    obtain ⟨h1, h2⟩ := subL_ok l' l h
    refine ⟨by simp [h1], fun i v' hi => ?_⟩
    cases i with
    | zero => simpa [h0] using hi
    | succ i => simpa using h2 i v' (by simpa using hi)
  | [], _ :: _, h => by simp [subL] at h
  | some _ :: _, [], h => by simp [subL] at h
  | some _ :: _, none :: _, h => by simp [subL] at h
  | none :: _, [], h => by simp [subL] at h
section RWN
variable {G : GG} {M : SIG} {rm : Room} {uc us pc : Nat} {L L' : List (Option VV)} {S : List VV} {σ : Mm} {K : RES → Mm → Prop}
theorem At.msk (h : At G M rm uc us pc L' S σ K) (hs : subL L' L) : At G M rm uc us pc L S σ K := h.sub (subL_ok _ _ hs).1 (subL_ok _ _ hs).2
theorem Runs.msk {Y : SIG} {rmY : Room} {as : List VV} (h : Runs G Y rmY as σ (bk G M rm uc us pc L' S K)) (hs : subL L' L) : Runs G Y rmY as σ (bk G M rm uc us pc L S K) := h.mono fun r t h => by
  cases r with
  | inl v => exact At.msk h hs
  | inr E => exact h
end RWN
def isZ (x : Int32) : Prop := x = 0 ∨ x = 1
def isC (x : Int32) : Prop := 0 ≤ x.toInt ∧ x.toInt < 65536
theorem nf_z {x : Int32} (h : isZ x) : narrow .boolean (.int x) = .int x ∧ fits .boolean (.int x) = true := by
  rcases h with rfl | rfl <;> exact ⟨rfl, rfl⟩
theorem isC_n {x : Int32} (h : isC x) : ∃ q : Nat, q < 65536 ∧ x = nI q := by
  refine ⟨x.toInt.toNat, by have := h.1; have := h.2; omega, ?_⟩
  apply Int32.toInt_inj.mp
  rw [nI_toInt (by have := h.1; have := h.2; omega)]
  have := h.1
  omega
theorem isC_nI {q : Nat} (h : q < 65536) : isC (nI q) := by
  unfold isC
  rw [nI_toInt (by omega)]
  omega
theorem nf_c {x : Int32} (h : isC x) : narrow .char (.int x) = .int x ∧ fits .char (.int x) = true := by
  obtain ⟨q, hq, rfl⟩ := isC_n h
  exact pk_charN hq
theorem nf_rf {ty : FieldType} {r : Option Nat} (h : rfT ty = true) : narrow ty (va_rf r) = va_rf r ∧ fits ty (va_rf r) = true := by
  cases r <;> cases ty <;> first | exact ⟨rfl, rfl⟩ | cases h
theorem tb_cover {x : Int32} {lo : Int} {n : Nat} (hk : ∀ k : Nat, k < n → ¬ x = Int32.ofInt (lo + k)) (hr : -2147483648 ≤ lo ∧ lo + n ≤ 2147483647) (q : ¬ (x.toInt < lo ∨ lo + n - 1 < x.toInt)) : False := by
  have h1 : (x.toInt - lo).toNat < n := by omega
  refine hk _ h1 ?_
  apply Int32.toInt_inj.mp
  rw [Int32.toInt_ofInt]
  have h2 := Int32.le_toInt x
  have h3 := Int32.toInt_lt x
  rw [show lo + ((x.toInt - lo).toNat : Int) = x.toInt by omega]
  have hs : (Int32.size : Int) = 4294967296 := rfl
  rw [Int.bmod_eq_of_le] <;> rw [hs] <;> omega
