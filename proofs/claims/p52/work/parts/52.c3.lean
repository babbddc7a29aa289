/-! ===== the class: what is done to a shelf ===== -/
def flR (f : Nat → Int32) (c w m s t : Int32) : Nat → Int32 := upd (upd (upd (upd (upd (upd (upd (upd (upd f 0 1) 1 c) 2 w) 3 m) 4 s) 5 s) 6 0) 7 t) 8 0
def cpR (n : Nat) (f g : Nat → Int32) : Nat → Int32 := fun k => if k < n then g k else f k
theorem cpR_s {n k : Nat} {f g : Nat → Int32} (h : k < n) : cpR n f g k = g k := if_pos h
theorem cpR_0 {f g : Nat → Int32} : cpR 0 f g = f := funext fun k => if_neg (by omega)
theorem cpR_u {n : Nat} {f g : Nat → Int32} : upd (cpR n f g) n (g n) = cpR (n + 1) f g := by
  funext k
  unfold upd cpR
  by_cases h : k = n
  · subst h; rw [if_pos rfl, if_pos (by omega)]
  · rw [if_neg h]
    by_cases h2 : k < n
    · rw [if_pos h2, if_pos (by omega)]
    · rw [if_neg h2, if_neg (by omega)]
theorem cpR_u0 {f g : Nat → Int32} : upd f 0 (g 0) = cpR 1 f g := by
  have := cpR_u (n := 0) (f := f) (g := g)
  rw [cpR_0] at this
  exact this
section SJ
variable {G : GG} {σ : Mm} {K : RES → Mm → Prop} {h : Nat} {L : List Nat}
theorem kX2_fill (gk : GOK G) {e j : Nat} {c m s : Int32} (he : (mt σ e).1 = 3) (hj : (mt σ j).1 = 5) (hc : isC c) (hk : K (.inl none) (sS σ e (flR (mi σ e) c (mi σ j 1) m s (mi σ j 2)))) : Runs G mX2_fill rX2_fill [vR (some e), vI c, vR (some j), vI m, vI s] σ K := by
  have hne : j ≠ e := fun q => by rw [q, he] at hj; cases hj
  refine eX2_fill gk ?_
  simp only [exists_eq_left', Option.some.injEq, he, hj, true_and, forall_eq, si_sS, sS_sS, sS_s, sS_t, sS_n hne, hc]
  exact hk
theorem kX2_copyFrom (gk : GOK G) {e e2 : Nat} (he : (mt σ e).1 = 3) (he2 : (mt σ e2).1 = 3) (hne : e2 ≠ e) (hz : isZ (mi σ e2 0)) (hc : isC (mi σ e2 1)) (hz2 : isZ (mi σ e2 8)) (hk : K (.inl none) (sS σ e (cpR 9 (mi σ e) (mi σ e2)))) : Runs G mX2_copyFrom rX2_copyFrom [vR (some e), vR (some e2)] σ K := by
  refine eX2_copyFrom gk ?_
  simp only [exists_eq_left', Option.some.injEq, he, he2, true_and, forall_eq, si_sS, sS_sS, sS_s, sS_t, sS_n hne, hc, hz, hz2, cpR_u0, cpR_u]
  exact hk
theorem kX4_copyFrom (gk : GOK G) {e e2 : Nat} (he : (mt σ e).1 = 5) (he2 : (mt σ e2).1 = 5) (hne : e2 ≠ e) (hz : isZ (mi σ e2 0)) (hk : K (.inl none) (sS σ e (cpR 4 (mi σ e) (mi σ e2)))) : Runs G mX4_copyFrom rX4_copyFrom [vR (some e), vR (some e2)] σ K := by
  refine eX4_copyFrom gk ?_
  simp only [exists_eq_left', Option.some.injEq, he, he2, true_and, forall_eq, si_sS, sS_sS, sS_s, sS_t, sS_n hne, hz, cpR_u0, cpR_u]
  exact hk
theorem kX7_copyFrom (gk : GOK G) {e e2 : Nat} (he : (mt σ e).1 = 8) (he2 : (mt σ e2).1 = 8) (hne : e2 ≠ e) (hz : isZ (mi σ e2 0)) (hc : isC (mi σ e2 3)) (hk : K (.inl none) (sS σ e (cpR 4 (mi σ e) (mi σ e2)))) : Runs G mX7_copyFrom rX7_copyFrom [vR (some e), vR (some e2)] σ K := by
  refine eX7_copyFrom gk ?_
  simp only [exists_eq_left', Option.some.injEq, he, he2, true_and, forall_eq, si_sS, sS_sS, sS_s, sS_t, sS_n hne, hz, hc, cpR_u0, cpR_u]
  exact hk
theorem kX4_speak (gk : GOK G) {e : Nat} {w s : Int32} (he : (mt σ e).1 = 5) (hk : K (.inl none) (sS σ e (upd (upd (upd (mi σ e) 1 w) 2 (mi σ e 2 + 1)) 3 s))) : Runs G mX4_speak rX4_speak [vR (some e), vI w, vI s] σ K := by
  refine eX4_speak gk ?_
  simp (disch := omega) only [exists_eq_left', Option.some.injEq, he, true_and, forall_eq, si_sS, sS_sS, sS_s, sS_t, pk_un]
  exact hk
theorem kX5_fill (gk : GOK G) {c f p : Int32} (he : (mt σ h).1 = 6) (hc : isC p) (hk : K (.inl none) (sS σ h (upd (upd (upd (upd (upd (upd (mi σ h) 0 1) 1 c) 2 f) 3 p) 4 1) 5 0))) : Runs G mX5_fill rX5_fill [vR (some h), vI c, vI f, vI p] σ K := by
  refine eX5_fill gk ?_
  simp only [exists_eq_left', Option.some.injEq, he, true_and, forall_eq, si_sS, sS_sS, sS_s, sS_t, hc]
  exact hk
theorem sS_shS {e : Nat} {f : Nat → Int32} (hS : shS σ h L) : shS (sS σ e f) h L := hS
theorem kX5_remove (gk : GOK G) (hS : shS σ h L) {r : Option Nat} (hr : ∀ e, r = some e → e ∈ L) (h0 : r = none → K (.inl (some (vI 0))) σ) (hk : ∀ (e : Nat) (L' : List Nat), r = some e → L'.Perm L → srtd (ltE (sS σ e (upd (mi σ e) 0 0)) (mi σ h 3)) L' → K (.inl (some (vI 1))) (sO (sS σ e (upd (mi σ e) 0 0)) (h + 1) L')) : Runs G mX5_remove rX5_remove [vR (some h), vR r] σ K := by
  refine eX5_remove gk ⟨h0, fun e q => ⟨hS.e (hr e q), fun σ1 e1 => ?_⟩⟩
  rw [si_sS] at e1
  subst e1
  have hne : h ≠ e := fun z => by have := hS.e (hr e q); rw [← z, hS.ty] at this; cases this
  refine ⟨_, rfl, hS.ty, kX5_sort gk (sS_shS hS) fun L' hp hs => vX5_remove_15 gk (hk e L' q hp ?_)⟩
  rw [sS_n hne] at hs
  exact hs
theorem kX5_hit (gk : GOK G) (hS : shS σ h L) {e : Nat} {s : Int32} (he : e ∈ L) (hk : ∀ L' : List Nat, L'.Perm L → srtd (ltE (sS (sS σ e (upd (upd (mi σ e) 6 (mi σ e 6 + 1)) 5 s)) h (upd (mi σ h) 5 (mi σ h 5 + 1))) (mi σ h 3)) L' → K (.inl (some (vI (mi σ e 2)))) (sO (sS (sS σ e (upd (upd (mi σ e) 6 (mi σ e 6 + 1)) 5 s)) h (upd (mi σ h) 5 (mi σ h 5 + 1))) (h + 1) L')) : Runs G mX5_hit rX5_hit [vR (some h), vR (some e), vI s] σ K := by
  have h3 := hS.e he
  have hne : h ≠ e := fun z => by rw [← z, hS.ty] at h3; cases h3
  refine eX5_hit gk ?_
  simp only [exists_eq_left', Option.some.injEq, h3, hS.ty, true_and, forall_eq, si_sS, sS_sS, sS_s, sS_t, sS_n hne]
  refine kX5_sort gk (sS_shS (sS_shS hS)) fun L' hp hs => vX5_hit_29 gk ⟨_, rfl, h3, ?_⟩
  rw [sS_s, pk_un (by omega)] at hs
  have := hk L' hp hs
  have e2 : mi (sO (sS (sS σ e (upd (upd (mi σ e) 6 (mi σ e 6 + 1)) 5 s)) h (upd (mi σ h) 5 (mi σ h 5 + 1))) (h + 1) L') e 2 = mi σ e 2 := by
    rw [sO_i, sS_n (Ne.symm hne), sS_s, pk_un (by omega), pk_un (by omega)]
  rw [e2]
  exact this
theorem kX5_openLid (gk : GOK G) (hS : shS σ h L) {c : Int32} (h0 : (∀ e, fndE σ L c = some e → ¬ mi σ e 8 = 0) → K (.inl (some (vI 0))) σ) (hk : ∀ e, fndE σ L c = some e → mi σ e 8 = 0 → K (.inl (some (vI 1))) (sS σ e (upd (mi σ e) 8 1))) : Runs G mX5_openLid rX5_openLid [vR (some h), vI c] σ K := by
  refine eX5_openLid gk ⟨_, rfl, hS.ty, kX5_find gk hS (vX5_openLid_5 gk ⟨fun q => h0 (fun e he => by rw [q] at he; cases he), fun e q => ⟨hS.e (fndE_some q).1, fun q2 σ1 e1 => ?_, fun q2 => h0 fun e' he' => ?_⟩⟩)⟩
  · rw [si_sS] at e1
    subst e1
    exact hk e q q2
  · rw [q] at he'; cases he'; exact q2
/-- the echo that makes room -/
def remE (σ : Mm) (h : Nat) (L : List Nat) (c : Int32) : Option Nat := match fndE σ L c with
  | some e => some e
  | none => if nI (L.countP (isE σ)) < mi σ h 1 then none else (match L with
    | [] => none
    | x :: _ => if mi σ x 0 = 0 then none else some x)
def remM (σ : Mm) : Option Nat → Mm
  | none => σ
  | some e => sS σ e (upd (mi σ e) 0 0)
theorem remM_shS (hS : shS σ h L) : ∀ r, shS (remM σ r) h L
  | none => hS
  | some _ => hS
theorem remE_mem {c : Int32} {e : Nat} (hr : remE σ h L c = some e) : e ∈ L := by
  unfold remE at hr
  cases hf : fndE σ L c with
  | some x => rw [hf] at hr; cases hr; exact (fndE_some hf).1
  | none =>
    rw [hf] at hr
    cases L with
    | nil =>
      simp only at hr
      split at hr <;> cases hr
    | cons x R =>
      simp only at hr
      split at hr
      · cases hr
      · split at hr
        · cases hr
        · cases hr; exact List.mem_cons_self ..
theorem kX5_fetch_54 (gk : GOK G) {j : Nat} (hj : (mt σ j).1 = 5) {c m s : Int32} {r : Option Nat} (hc : isC c) (hk : ∀ (e : Nat) (L' : List Nat), L.find? (fun e => !isE σ e) = some e → L'.Perm L → srtd (ltE (sS σ e (flR (mi σ e) c (mi σ j 1) m s (mi σ j 2))) (mi σ h 3)) L' → K (.inl none) (sO (sS σ e (flR (mi σ e) c (mi σ j 1) m s (mi σ j 2))) (h + 1) L')) : ∀ (R pre : List Nat), L = pre ++ R → (∀ e, e ∈ pre → ¬ mi σ e 0 = 0) → (∃ e, e ∈ R ∧ mi σ e 0 = 0) → shS σ h (pre ++ R) → At G mX5_fetch rX5_fetch 0 0 54 [some (vR (some h)), some (vI c), some (vR (some j)), some (vI m), some (vI s), some (vR r), some (vR (some (h + 1))), some (vI (nI 6)), some (vI (nI pre.length)), none] [] σ K
  | [], pre, hL, hp, hx, hS => by
    obtain ⟨e, he, -⟩ := hx
    cases he
  | e :: R, pre, hL, hp, hx, hS => by
    obtain ⟨h1, h2, h3⟩ := hS.mid
    have ew : pre ++ e :: R = (pre ++ [e]) ++ R := by simp
    have el : (pre ++ [e]).length = pre.length + 1 := by simp
    refine vX5_fetch_54 gk ⟨fun q => absurd q (nI_ge h3 (by omega)), fun _ => ⟨_, rfl, 6, hS.t, vp_in_nI h3 (by omega), e, ?_, h2, fun q => ?_, fun q => ?_⟩⟩
    · rw [nI_clamp (by omega)]; exact h1
    · have hx' : ∃ e, e ∈ R ∧ mi σ e 0 = 0 := by
        obtain ⟨x, hx1, hx2⟩ := hx
        rcases List.mem_cons.mp hx1 with z | z
        · subst z; exact absurd hx2 q
        · exact ⟨x, z, hx2⟩
      have := kX5_fetch_54 gk hj (r := r) hc hk R (pre ++ [e]) (by rw [hL, ew]) (fun x hx => by
        rcases List.mem_append.mp hx with z | z
        · exact hp x z
        · obtain rfl : x = e := by simpa using z
          exact q) hx' (by rw [← ew]; exact hS)
      rw [el] at this
      rw [nA1]; exact this
    · rw [nI_clamp (by omega), h1]
      have hf : L.find? (fun e => !isE σ e) = some e := by
        rw [hL, List.find?_append, List.find?_eq_none.mpr (fun x hx => by have := hp x hx; simp [isE, this]), List.find?_cons_of_pos (by simp [isE, q])]
        rfl
      have hne : h ≠ e := fun z => by rw [← z, hS.ty] at h2; cases h2
      refine kX2_fill gk h2 hj hc (vX5_fetch_86 gk ⟨_, rfl, hS.ty, kX5_sort gk (sS_shS hS) fun L' hp' hs => vX5_fetch_99 gk (hk e L' hf ?_ ?_)⟩)
      · rw [hL]; exact hp'
      · rw [sS_n hne] at hs; exact hs
theorem kX5_fetch (gk : GOK G) {j : Nat} (hj : (mt σ j).1 = 5) {c m s : Int32} (hc : isC c) (hS : shS σ h L) (hfr : ∃ e, e ∈ L ∧ mi (remM σ (remE σ h L c)) e 0 = 0) (hk : ∀ (σ1 : Mm) (e : Nat) (L' : List Nat), σ1 = remM σ (remE σ h L c) → L.find? (fun e => !isE σ1 e) = some e → L'.Perm L → srtd (ltE (sS σ1 e (flR (mi σ1 e) c (mi σ j 1) m s (mi σ j 2))) (mi σ h 3)) L' → K (.inl none) (sO (sS σ1 e (flR (mi σ1 e) c (mi σ j 1) m s (mi σ j 2))) (h + 1) L')) : Runs G mX5_fetch rX5_fetch [vR (some h), vI c, vR (some j), vI m, vI s] σ K := by
  have go : ∀ (r : Option Nat), r = remE σ h L c → At G mX5_fetch rX5_fetch 0 0 54 [some (vR (some h)), some (vI c), some (vR (some j)), some (vI m), some (vI s), some (vR r), some (vR (some (h + 1))), some (vI (nI 6)), some (vI (nI 0)), none] [] (remM σ r) K := fun r hr => by
    have hjr : mi (remM σ r) j = mi σ j := by
      cases r with
      | none => rfl
      | some e =>
        have h3 := hS.e (remE_mem hr.symm)
        exact sS_n fun z => by rw [z, h3] at hj; cases hj
    have hhr : mi (remM σ r) h = mi σ h := by
      cases r with
      | none => rfl
      | some e =>
        have h3 := hS.e (remE_mem hr.symm)
        exact sS_n fun z => by rw [← z, hS.ty] at h3; cases h3
    refine kX5_fetch_54 gk (σ := remM σ r) (L := L) (by cases r <;> exact hj) hc (fun e L' hf hp hs => ?_) L [] rfl (fun _ q => by cases q) (by rw [hr]; exact hfr) (remM_shS hS r)
    rw [hjr, hhr] at hs
    rw [hjr]
    exact hk (remM σ r) e L' (by rw [hr]) hf hp hs
  refine eX5_fetch gk ⟨_, rfl, hS.ty, kX5_find gk hS (vX5_fetch_5 gk ⟨fun q => ⟨_, rfl, hS.ty, kX5_countEchoes gk hS (vX5_fetch_16 gk ⟨_, rfl, hS.ty, fun q2 => ⟨fun _ => ⟨_, hS.r, _, hS.t, ?_⟩, fun e q3 => ?_⟩, fun q2 => ?_⟩)⟩, fun e q => ⟨hS.e (fndE_some q).1, fun σ1 e1 => ?_⟩⟩)⟩
  · have hr : none = remE σ h L c := by unfold remE; rw [q]; simp only; rw [if_pos q2]
    rw [q, hS.r]
    exact go none hr
  · rw [q] at q3; cases q3
  · cases L with
    | nil => have := hS.l; simp at this
    | cons x R =>
      refine kX5_firstInOrder gk hS (vX5_fetch_27 gk ⟨fun q3 => ⟨_, rfl, hS.ty, _, hS.r, _, hS.t, ?_⟩, fun e q3 => ⟨?_, fun σ1 e1 => ?_⟩⟩)
      · have hr : none = remE σ h (x :: R) c := by unfold remE; rw [q]; simp only; rw [if_neg q2, q3]
        rw [q3, hS.r]
        exact go none hr
      · have hr : some e = remE σ h (x :: R) c := by unfold remE; rw [q]; simp only; rw [if_neg q2, q3]
        exact hS.e (remE_mem hr.symm)
      · have hr : some e = remE σ h (x :: R) c := by unfold remE; rw [q]; simp only; rw [if_neg q2, q3]
        rw [si_sS] at e1
        subst e1
        refine ⟨_, rfl, hS.ty, _, hS.r, _, hS.t, ?_⟩
        rw [q3, show mr (sS σ e (upd (mi σ e) 0 0)) h 6 = some (h + 1) from hS.r]
        exact go (some e) hr
  · have hr : some e = remE σ h L c := by unfold remE; rw [q]
    rw [si_sS] at e1
    subst e1
    refine ⟨_, rfl, hS.ty, _, hS.r, _, hS.t, ?_⟩
    rw [q, show mr (sS σ e (upd (mi σ e) 0 0)) h 6 = some (h + 1) from hS.r]
    exact go (some e) hr
end SJ
