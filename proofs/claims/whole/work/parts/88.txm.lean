/-! ===== the model's text, read ===== -/
def MX (σ0 σ : Mm) (a n : Nat) (T : Nat → Int32) (p : Nat) (ok : Bool) : Prop := MS σ a ∧ mi σ a 10 = nI n ∧ n ≤ 60 ∧ (∀ i, i < n → mi σ (a + 6) i = T i ∧ 32 ≤ (T i).toInt ∧ (T i).toInt ≤ 126) ∧ (mi σ a 11 = nI p ∧ p ≤ n) ∧ mi σ a 12 = (if ok = true then 0 else 1) ∧ (∀ q k, ¬ (q = a ∧ (k = 11 ∨ k = 12)) → mi σ q k = mi σ0 q k) ∧ mr σ = mr σ0 ∧ ml σ = ml σ0 ∧ md σ = md σ0 ∧ mt σ = mt σ0 ∧ mz σ = mz σ0
def cuM (n : Nat) (T : Nat → Int32) (p : Nat) : Int32 := if p < n then T p else -1
def mrun (n : Nat) (T : Nat → Int32) (l : List It) (p : Nat) (ok : Bool) : Nat × Bool := if ok = true then run n T l p else (p, false)
section TXM
variable {G : GG} {σ0 σ : Mm} {K : RES → Mm → Prop} {a n p : Nat} {T f : Nat → Int32} {ok : Bool}
theorem mrun_f {l : List It} : mrun n T l p false = (p, false) := rfl
theorem mrun_t {l : List It} : mrun n T l p true = run n T l p := rfl
theorem mrun_app {l m : List It} : mrun n T (l ++ m) p ok = mrun n T m (mrun n T l p ok).1 (mrun n T l p ok).2 := by
  cases ok
  · rfl
  · rw [mrun_t, mrun_t, run_app]
    by_cases h : (run n T l p).2 = true
    · rw [if_pos h, h]; rfl
    · have h' : (run n T l p).2 = false := by simpa using h
      rw [if_neg h, h']
      exact Prod.ext rfl h'
theorem mrun_n {l : List It} (h : p ≤ n) : (mrun n T l p ok).1 ≤ n := by
  cases ok
  · exact h
  · exact run_n l p h
theorem MX.set {q : Nat} {ok' : Bool} {x : Int32} (h : MX σ0 σ a n T p ok) (hq : q ≤ n) (hx : x = if ok' = true then 0 else 1) : MX σ0 (si (si σ a 12 x) a 11 (nI q)) a n T q ok' := by
  obtain ⟨h1, h2, h3, h4, h5, h6, h7, h8⟩ := h
  refine ⟨h1.mv rfl rfl, ?_, h3, fun i hi => ⟨?_, (h4 i hi).2⟩, ⟨u2_s, hq⟩, ?_, fun q' k hk => ?_, h8⟩
  · exact ((u2_k (by decide)).trans (u2_k (by decide))).trans h2
  · exact ((u2_a (by omega)).trans (u2_a (by omega))).trans (h4 i hi).1
  · rw [← hx]; exact (u2_k (by decide)).trans u2_s
  · refine Eq.trans ?_ (h7 q' k hk)
    exact (if_neg (fun z => hk ⟨z.1, Or.inl z.2⟩)).trans (if_neg (fun z => hk ⟨z.1, Or.inr z.2⟩))
theorem MX.set12 {ok' : Bool} {x : Int32} (h : MX σ0 σ a n T p ok) (hx : x = if ok' = true then 0 else 1) : MX σ0 (si σ a 12 x) a n T p ok' := by
  obtain ⟨h1, h2, h3, h4, h5, h6, h7, h8⟩ := h
  refine ⟨h1.mv rfl rfl, ?_, h3, fun i hi => ⟨?_, (h4 i hi).2⟩, ⟨?_, h5.2⟩, ?_, fun q' k hk => ?_, h8⟩
  · exact (u2_k (by decide)).trans h2
  · exact (u2_a (by omega)).trans (h4 i hi).1
  · exact (u2_k (by decide)).trans h5.1
  · rw [← hx]; exact u2_s
  · exact (if_neg (fun z => hk ⟨z.1, Or.inr z.2⟩)).trans (h7 q' k hk)
theorem MX.set11 {q : Nat} (h : MX σ0 σ a n T p ok) (hq : q ≤ n) : MX σ0 (si σ a 11 (nI q)) a n T q ok := by
  obtain ⟨h1, h2, h3, h4, h5, h6, h7, h8⟩ := h
  refine ⟨h1.mv rfl rfl, ?_, h3, fun i hi => ⟨?_, (h4 i hi).2⟩, ⟨u2_s, hq⟩, ?_, fun q' k hk => ?_, h8⟩
  · exact (u2_k (by decide)).trans h2
  · exact (u2_a (by omega)).trans (h4 i hi).1
  · exact (u2_k (by decide)).trans h6
  · exact (if_neg (fun z => hk ⟨z.1, Or.inl z.2⟩)).trans (h7 q' k hk)
theorem MX.ty (h : MX σ0 σ a n T p ok) : (mt σ a).1 = 10 := h.1.ty
theorem MX.at' (h : MX σ0 σ a n T p ok) : mi σ a 11 = nI p := h.2.2.2.2.1.1
theorem MX.pn (h : MX σ0 σ a n T p ok) : p ≤ n ∧ n ≤ 60 := ⟨h.2.2.2.2.1.2, h.2.2.1⟩
theorem MX.w (h : MX σ0 σ a n T p ok) : mi σ a 12 = if ok = true then 0 else 1 := h.2.2.2.2.2.1
theorem MX.ch (h : MX σ0 σ a n T p ok) : ∀ i, i < n → 32 ≤ (T i).toInt ∧ (T i).toInt ≤ 126 := fun i hi => (h.2.2.2.1 i hi).2
theorem cu_at {c : Int32} (hc : c ≠ -1) : cuM n T p = c ↔ isAt n T p c := by
  unfold cuM
  by_cases h : p < n
  · rw [if_pos h]; exact ⟨fun z => ⟨h, z⟩, fun z => z.2⟩
  · rw [if_neg h]; exact ⟨fun z => absurd z.symm hc, fun z => absurd z.1 h⟩
theorem cu_p (h : p < n) : cuM n T p = T p := if_pos h
theorem cu_di : (¬ cuM n T p < 48 ∧ ¬ 57 < cuM n T p) ↔ isD n T p := by
  unfold cuM
  by_cases h : p < n
  · rw [if_pos h, Int32.lt_iff_toInt_lt, Int32.lt_iff_toInt_lt]
    have e1 : ((48 : Int32)).toInt = 48 := by decide
    have e2 : ((57 : Int32)).toInt = 57 := by decide
    rw [e1, e2]
    exact ⟨fun z => ⟨h, by omega, by omega⟩, fun z => ⟨by omega, by omega⟩⟩
  · rw [if_neg h]; exact ⟨fun z => absurd (by decide) z.1, fun z => absurd z.1 h⟩
theorem cu_le : (¬ cuM n T p < 97 ∧ ¬ 122 < cuM n T p) ↔ isLe n T p := by
  unfold cuM
  by_cases h : p < n
  · rw [if_pos h, Int32.lt_iff_toInt_lt, Int32.lt_iff_toInt_lt]
    have e1 : ((97 : Int32)).toInt = 97 := by decide
    have e2 : ((122 : Int32)).toInt = 122 := by decide
    rw [e1, e2]
    exact ⟨fun z => ⟨h, by omega, by omega⟩, fun z => ⟨by omega, by omega⟩⟩
  · rw [if_neg h]; exact ⟨fun z => absurd (by decide) z.1, fun z => absurd z.1 h⟩
theorem kX9_behind (gk : GOK G) {d : Nat} (hd : d < 100) (h : MX σ0 σ a n T p ok) (hk : K (.inl (some (vI (cuM n T (p + d))))) σ) : Runs G mX9_behind rX9_behind [vR (some a), vI (nI d)] σ K := by
  obtain ⟨h1, h2, h3, h4, h5, h6, h7, h8⟩ := h
  refine eX9_behind gk ⟨_, rfl, h1.ty, ?_⟩
  rw [h2, h5.1, nI_add]
  refine ⟨fun z => ?_, fun z => ⟨a + 6, h1.r9, 60, h1.t9, ?_, ?_⟩⟩
  · have := (nI_leI (by omega) (by omega)).mp z
    unfold cuM at hk
    rw [if_neg (by omega)] at hk
    exact hk
  · have h9 : ¬ n ≤ p + d := fun q => z ((nI_leI (by omega) (by omega)).mpr q)
    exact nI_in (by omega) (by decide)
  · have h9 : ¬ n ≤ p + d := fun q => z ((nI_leI (by omega) (by omega)).mpr q)
    rw [nI_clamp (by omega), (h4 _ (by omega)).1]
    rw [cu_p (by omega)] at hk
    exact hk
theorem kX9_skip_2 (gk : GOK G) (sok : SOK G) {q v : Nat} {bs : List Int32} (hs : STV G q v bs.length (fun i => bs.getD i 0)) (hb : ∀ i, i < bs.length → bs.getD i 0 ≠ -1 ∧ 0 ≤ (bs.getD i 0).toInt ∧ (bs.getD i 0).toInt < 128) (hl : bs.length < 100) :
    ∀ (d i : Nat), i + d = bs.length → ∀ σ p ok, MX σ0 σ a n T p ok → (∀ σ', MX σ0 σ' a n T (mrun n T ((bs.drop i).map iSg) p ok).1 (mrun n T ((bs.drop i).map iSg) p ok).2 → K (.inl none) σ') → At G mX9_skip rX9_skip 0 0 2 [some (vR (some a)), some (vR (some q)), some (vI (nI i))] [] σ K
  | 0, i, hd, σ, p, ok, h, hk => by
    have e : i = bs.length := by omega
    refine vX9_skip_2 gk ⟨q, rfl, hs.1, kJ0_length gk sok hs (vX9_skip_7 gk ⟨fun _ => ?_, fun z => absurd (nI_le (by omega) (by omega)) z⟩)⟩
    rw [e, List.drop_length] at hk
    refine hk σ ?_
    cases ok <;> exact h
  | d + 1, i, hd, σ, p, ok, h, hk => by
    have hpn := h.pn
    have hil : i < bs.length := by omega
    have hbi := hb i hil
    have hby := byc hbi.2.1 hbi.2.2
    have hdr : bs.drop i = bs.getD i 0 :: bs.drop (i + 1) := by
      rw [List.drop_eq_getElem_cons hil, List.getD_eq_getElem?_getD, List.getElem?_eq_getElem hil]
      rfl
    refine vX9_skip_2 gk ⟨q, rfl, hs.1, kJ0_length gk sok hs (vX9_skip_7 gk ⟨fun z => absurd z (nI_ge (by omega) (by omega)), fun _ => ⟨_, rfl, h.ty, ?_⟩⟩)⟩
    rw [h.w]
    cases ok with
    | false => exact ⟨fun _ => hk σ h, fun z => absurd z (by decide)⟩
    | true =>
      refine ⟨fun z => absurd rfl z, fun _ => kX9_behind (d := 0) gk (by decide) h (vX9_skip_23 gk ⟨q, rfl, hs.1, kJ0_charAt gk sok hs hil (by omega) hby.1 hby.2 (vX9_skip_28 gk ⟨fun z => ?_, fun z => ?_⟩)⟩)⟩
      · have q2 : isAt n T p (bs.getD i 0) := (cu_at hbi.1).mp z
        have q' : iOk n T p (iSg (bs.getD i 0)) = true := decide_eq_true q2
        refine ⟨_, rfl, h.ty, fun σ1 s1 => ⟨_, rfl, h.ty, ?_⟩⟩
        have e1 : mi σ1 a 12 = 0 := by rw [s1]; exact u2_s
        have e2 : mi σ1 a 11 = nI p := by rw [s1]; exact (u2_k (by decide)).trans h.at'
        rw [e1, e2, nI_1, nI_1]
        refine ⟨fun _ σ2 s2 => ?_, fun z => absurd rfl z⟩
        rw [s1] at s2
        have h2 : MX σ0 σ2 a n T (p + 1) true := s2 ▸ h.set q2.1 rfl
        refine kX9_skip_2 gk sok hs hb hl d (i + 1) (by omega) σ2 (p + 1) true h2 fun σ' hq => hk σ' ?_
        rw [hdr, List.map_cons, mrun_t, run_cons, if_pos q']
        exact hq
      · have q2 : ¬ isAt n T p (bs.getD i 0) := fun q2 => z ((cu_at hbi.1).mpr q2)
        have q' : ¬ iOk n T p (iSg (bs.getD i 0)) = true := fun z => q2 (of_decide_eq_true z)
        refine ⟨_, rfl, h.ty, fun σ1 s1 => ⟨_, rfl, h.ty, ?_⟩⟩
        have e1 : mi σ1 a 12 = 1 := by rw [s1]; exact u2_s
        have e2 : mi σ1 a 11 = nI p := by rw [s1]; exact (u2_k (by decide)).trans h.at'
        rw [e1, e2, nI_1, nI_1, show nI p + 0 = nI p from Int32.add_zero _]
        refine ⟨fun z => absurd z (by decide), fun _ σ2 s2 => ?_⟩
        rw [s1] at s2
        have h2 : MX σ0 σ2 a n T p false := s2 ▸ h.set hpn.1 rfl
        refine kX9_skip_2 gk sok hs hb hl d (i + 1) (by omega) σ2 p false h2 fun σ' hq => hk σ' ?_
        rw [hdr, List.map_cons, mrun_t, run_cons, if_neg q']
        exact hq
/-- the model's skip -/
theorem kX9_skip (gk : GOK G) (sok : SOK G) {q : Nat} {bs : List Int32} (hs : SCT G q bs) (hb : ∀ i, i < bs.length → bs.getD i 0 ≠ -1 ∧ 0 ≤ (bs.getD i 0).toInt ∧ (bs.getD i 0).toInt < 128) (hl : bs.length < 100) (h : MX σ0 σ a n T p ok) (hk : ∀ σ', MX σ0 σ' a n T (mrun n T (bs.map iSg) p ok).1 (mrun n T (bs.map iSg) p ok).2 → K (.inl none) σ') : Runs G mX9_skip rX9_skip [vR (some a), vR (some q)] σ K := by
  obtain ⟨v, hs⟩ := hs
  exact eX9_skip gk (kX9_skip_2 gk sok hs hb hl bs.length 0 (by omega) σ p ok h hk)
theorem kX9_isDigit (gk : GOK G) (h : MX σ0 σ a n T p ok) (h1 : ok = true → isD n T p → K (.inl (some (vI 1))) σ) (h0 : ¬ (ok = true ∧ isD n T p) → K (.inl (some (vI 0))) σ) : Runs G mX9_isDigit rX9_isDigit [vR (some a)] σ K := by
  refine eX9_isDigit gk ⟨_, rfl, h.ty, ?_⟩
  rw [h.w]
  cases ok with
  | false => exact ⟨fun _ => h0 (fun z => by cases z.1), fun z => absurd z (by decide)⟩
  | true =>
    refine ⟨fun z => absurd rfl z, fun _ => kX9_behind (d := 0) gk (by decide) h (vX9_isDigit_12 gk (kX9_in gk (vX9_isDigit_19 gk ⟨fun z => ?_, fun z => ?_⟩)))⟩
    · refine h0 fun q => ?_
      rw [Nat.add_zero, bP_t (cu_di.mpr q.2)] at z
      exact absurd z (by decide)
    · refine h1 rfl (cu_di.mp ?_)
      exact bP_n z
/-- a list of signs read by the model, that answers a value -/
def RdM (G : GG) (M : SIG) (rm : Room) (as : List VV) (a : Nat) (l : List It) (val : Nat → (Nat → Int32) → Nat → Int32) : Prop := ∀ {σ0 σ : Mm} {n p : Nat} {T : Nat → Int32} {ok : Bool} {K : RES → Mm → Prop}, MX σ0 σ a n T p ok → (∀ σ' z, MX σ0 σ' a n T (mrun n T l p ok).1 (mrun n T l p ok).2 → ((mrun n T l p ok).2 = true → z = val n T (p + 1)) → K (.inl (some (vI z))) σ') → Runs G M rm as σ K
theorem sc32 : ∀ i, i < ([32] : List Int32).length → ([32] : List Int32).getD i 0 ≠ -1 ∧ 0 ≤ (([32] : List Int32).getD i 0).toInt ∧ (([32] : List Int32).getD i 0).toInt < 128 := by decide
theorem mrun2 {i j : It} : mrun n T [i, j] p ok = mrun n T [j] (mrun n T [i] p ok).1 (mrun n T [i] p ok).2 := mrun_app (l := [i]) (m := [j])
theorem mrun1_t {i : It} (h : iOk n T p i = true) : mrun n T [i] p true = (p + iW n T p i, true) := by
  rw [mrun_t, run1, if_pos h]
theorem mrun1_f {i : It} (h : ¬ iOk n T p i = true) : mrun n T [i] p true = (p, false) := by
  rw [mrun_t, run1, if_neg h]
/-- where a blank has been read -/
theorem mrun_sg1 {c : Int32} (h : (mrun n T [iSg c] p ok).2 = true) : (mrun n T [iSg c] p ok).1 = p + 1 := by
  cases ok
  · cases h
  · by_cases q : iOk n T p (iSg c) = true
    · rw [mrun1_t q]; rfl
    · rw [mrun1_f q] at h; cases h
theorem kX9_rn33_f (gk : GOK G) {m x y : Int32} (h : MX σ0 σ a n T p false) (hk : K (.inl (some (vI x))) σ) : At G mX9_readNumber rX9_readNumber 0 0 33 [some (vR (some a)), some (vI m), some (vI x), some (vI y)] [] σ K :=
  vX9_readNumber_33 gk ⟨fun _ => hk, fun _ => ⟨_, rfl, h.ty, kX9_isDigit gk h (fun z => by cases z) fun _ => vX9_readNumber_42 gk ⟨fun _ => hk, fun z => absurd rfl z⟩⟩⟩
/-- readNumber behind its blank -/
theorem kX9_rn6 (gk : GOK G) {m : Int32} (h : MX σ0 σ a n T p ok) (hf : ¬ (ok = true ∧ isD n T p) → ∀ σ', MX σ0 σ' a n T p false → At G mX9_readNumber rX9_readNumber 0 0 33 [some (vR (some a)), some (vI m), some (vI 0), some (vI 0)] [] σ' K) (ht : ok = true → isD n T p → ∀ σ', MX σ0 σ' a n T p true → At G mX9_readNumber rX9_readNumber 0 0 33 [some (vR (some a)), some (vI m), some (vI 0), some (vI 0)] [] σ' K) : At G mX9_readNumber rX9_readNumber 0 0 6 [some (vR (some a)), some (vI m), none, none] [] σ K := by
  refine vX9_readNumber_6 gk ⟨_, rfl, h.ty, ?_⟩
  rw [h.w]
  cases ok with
  | false => exact ⟨fun _ σ1 s1 => hf (fun z => by cases z.1) σ1 (s1 ▸ h.set12 rfl), fun z => absurd z (by decide)⟩
  | true =>
    refine ⟨fun z => absurd rfl z, fun _ => kX9_isDigit gk h (fun _ d => vX9_readNumber_18 gk ⟨fun _ => ⟨_, rfl, h.ty, fun σ1 s1 => ht rfl d σ1 (s1 ▸ h.set12 rfl)⟩, fun z => absurd z (by decide)⟩) fun d => vX9_readNumber_18 gk ⟨fun z => absurd rfl z, fun _ => ⟨_, rfl, h.ty, fun σ1 s1 => hf d σ1 (s1 ▸ h.set12 rfl)⟩⟩⟩
theorem nv10 (x y : Int32) : ((10 : Int32) * ((((10 : Int32) * 0) + x) - 48) + y) - 48 = (x - 48) * 10 + (y - 48) := by
  rw [Int32.mul_zero, Int32.zero_add, Int32.mul_comm, Int32.sub_eq_add_neg, Int32.add_assoc, ← Int32.sub_eq_add_neg]
theorem nv1 (x : Int32) : ((((10 : Int32) * 0) + x) - 48) = x - 48 := by rw [Int32.mul_zero, Int32.zero_add]
theorem kX9_readNumber1 (gk : GOK G) (sok : SOK G) : RdM G mX9_readNumber rX9_readNumber [vR (some a), vI 1] a [iSg 32, iDi] (fun n T q => T q - 48) := by
  intro σ0 σ n p T ok K h hk
  rw [mrun2] at hk
  refine eX9_readNumber gk sok fun q hq => ⟨_, rfl, h.ty, kX9_skip gk sok hq sc32 (by decide) h fun σ1 h1 => ?_⟩
  have h1 : MX σ0 σ1 a n T (mrun n T [iSg 32] p ok).1 (mrun n T [iSg 32] p ok).2 := h1
  have hs := mrun_sg1 (n := n) (T := T) (p := p) (ok := ok) (c := 32)
  generalize mrun n T [iSg 32] p ok = r at hk h1 hs
  obtain ⟨p1, ok1⟩ := r
  refine kX9_rn6 gk h1 (fun z σ2 h2 => kX9_rn33_f gk h2 ?_) fun e d σ2 h2 => ?_
  · have e : mrun n T [iDi] p1 ok1 = (p1, false) := by
      cases ok1
      · rfl
      · exact mrun1_f fun z2 => z ⟨rfl, of_decide_eq_true z2⟩
    have hk := hk σ2 0
    rw [e] at hk
    exact hk h2 fun z => by cases z
  · have d' : iOk n T p1 iDi = true := decide_eq_true d
    have e2 : mrun n T [iDi] p1 ok1 = (p1 + 1, true) := by
      have e : ok1 = true := e
      rw [e, mrun1_t d']; rfl
    have hp : p1 = p + 1 := hs e
    rw [e2] at hk
    refine vX9_readNumber_33 gk ⟨fun z => absurd z (by decide), fun _ => ⟨_, rfl, h2.ty, kX9_isDigit gk h2 (fun _ _ => vX9_readNumber_42 gk ⟨fun z => absurd z (by decide), fun _ => ⟨_, rfl, h2.ty, _, h2.1.r9, 60, h2.1.t9, ?_, fun σ3 s3 => ?_⟩⟩) fun z => absurd ⟨rfl, d⟩ z⟩⟩
    · rw [h2.at']; exact nI_in (by have := d.1; have := h2.pn; omega) (by decide)
    · rw [h2.at', nI_1] at s3
      have h3 := s3 ▸ h2.set11 (q := p1 + 1) d.1
      rw [h2.at', nI_clamp (by have := d.1; have := h2.pn; omega), (h2.2.2.2.1 p1 d.1).1, nv1]
      refine vX9_readNumber_33 gk ⟨fun _ => hk σ3 _ h3 fun _ => by rw [hp], fun z => absurd (by decide) z⟩
theorem kX9_readNumber2 (gk : GOK G) (sok : SOK G) : RdM G mX9_readNumber rX9_readNumber [vR (some a), vI 2] a [iSg 32, iNu] nv := by
  intro σ0 σ n p T ok K h hk
  rw [mrun2] at hk
  refine eX9_readNumber gk sok fun q hq => ⟨_, rfl, h.ty, kX9_skip gk sok hq sc32 (by decide) h fun σ1 h1 => ?_⟩
  have h1 : MX σ0 σ1 a n T (mrun n T [iSg 32] p ok).1 (mrun n T [iSg 32] p ok).2 := h1
  have hs := mrun_sg1 (n := n) (T := T) (p := p) (ok := ok) (c := 32)
  generalize mrun n T [iSg 32] p ok = r at hk h1 hs
  obtain ⟨p1, ok1⟩ := r
  refine kX9_rn6 gk h1 (fun z σ2 h2 => kX9_rn33_f gk h2 ?_) fun e d σ2 h2 => ?_
  · have e : mrun n T [iNu] p1 ok1 = (p1, false) := by
      cases ok1
      · rfl
      · exact mrun1_f fun z2 => z ⟨rfl, of_decide_eq_true z2⟩
    have hk := hk σ2 0
    rw [e] at hk
    exact hk h2 fun z => by cases z
  · have d' : iOk n T p1 iNu = true := decide_eq_true d
    have e2 : mrun n T [iNu] p1 ok1 = (p1 + iW n T p1 iNu, true) := by
      have e : ok1 = true := e
      rw [e, mrun1_t d']
    have hp : p1 = p + 1 := hs e
    rw [e2] at hk
    refine vX9_readNumber_33 gk ⟨fun z => absurd z (by decide), fun _ => ⟨_, rfl, h2.ty, kX9_isDigit gk h2 (fun _ _ => vX9_readNumber_42 gk ⟨fun z => absurd z (by decide), fun _ => ⟨_, rfl, h2.ty, _, h2.1.r9, 60, h2.1.t9, ?_, fun σ3 s3 => ?_⟩⟩) fun z => absurd ⟨rfl, d⟩ z⟩⟩
    · rw [h2.at']; exact nI_in (by have := d.1; have := h2.pn; omega) (by decide)
    · rw [h2.at', nI_1] at s3
      have h3 := s3 ▸ h2.set11 (q := p1 + 1) d.1
      rw [h2.at', nI_clamp (by have := d.1; have := h2.pn; omega), (h2.2.2.2.1 p1 d.1).1]
      refine vX9_readNumber_33 gk ⟨fun z => absurd z (by decide), fun _ => ⟨_, rfl, h3.ty, kX9_isDigit gk h3 (fun _ d2 => vX9_readNumber_42 gk ⟨fun z => absurd z (by decide), fun _ => ⟨_, rfl, h3.ty, _, h3.1.r9, 60, h3.1.t9, ?_, fun σ4 s4 => ?_⟩⟩) fun d2 => vX9_readNumber_42 gk ⟨fun _ => ?_, fun z => absurd rfl z⟩⟩⟩
      · rw [h3.at']; exact nI_in (by have := d2.1; have := h2.pn; omega) (by decide)
      · rw [h3.at', nI_1] at s4
        have h4 := s4 ▸ h3.set11 (q := p1 + 1 + 1) d2.1
        rw [h3.at', nI_clamp (by have := d2.1; have := h2.pn; omega), (h3.2.2.2.1 _ d2.1).1, nv10]
        have e3 : iW n T p1 iNu = 2 := if_pos d2
        rw [e3] at hk
        refine vX9_readNumber_33 gk ⟨fun _ => hk σ4 _ h4 fun _ => ?_, fun z => absurd (by decide) z⟩
        rw [← hp]
        unfold nv
        rw [if_pos d2]
      · have d3 : ¬ isD n T (p1 + 1) := fun q => d2 ⟨rfl, q⟩
        have e3 : iW n T p1 iNu = 1 := if_neg d3
        rw [e3] at hk
        rw [nv1]
        refine hk σ3 _ h3 fun _ => ?_
        rw [← hp]
        unfold nv
        rw [if_neg d3]
/-- readLetter, of any letter -/
theorem kX9_rl_end (gk : GOK G) {x0 : Int32} {val : Nat → (Nat → Int32) → Nat → Int32} {p1 : Nat} {ok1 : Bool} {it : It} (h1 : MX σ0 σ a n T p1 ok1) (hT : ¬ (ok1 = true ∧ iOk n T p1 it = true) → ∀ σ', MX σ0 σ' a n T p1 false → K (.inl (some (vI (cuM n T p1)))) σ') (hE : ok1 = true → iOk n T p1 it = true → ∀ σ', MX σ0 σ' a n T (p1 + 1) true → K (.inl (some (vI (cuM n T p1)))) σ')
    (hx : (x0 = 0 ∧ it = iLe) ∨ (x0 = 1 ∧ it = iPo)) : At G mX9_readLetter rX9_readLetter 0 0 11 [some (vR (some a)), some (vI x0), none] [vI (cuM n T p1)] σ K := by
  have no : ¬ (ok1 = true ∧ iOk n T p1 it = true) → ∀ σ1, σ1 = si σ a 12 1 → ((mi σ1 a 12 = 0 → ∀ σ6, σ6 = si σ1 a 11 ((mi σ1 a 11) + 1) → K (.inl (some (vI (cuM n T p1)))) σ6) ∧ (¬ mi σ1 a 12 = 0 → ∀ σ7, σ7 = si σ1 a 11 ((mi σ1 a 11) + 0) → K (.inl (some (vI (cuM n T p1)))) σ7)) := by
    intro z σ1 s1
    have e1 : mi σ1 a 12 = 1 := by rw [s1]; exact u2_s
    have e2 : mi σ1 a 11 = nI p1 := by rw [s1]; exact (u2_k (by decide)).trans h1.at'
    rw [e1, e2, show nI p1 + 0 = nI p1 from Int32.add_zero _]
    refine ⟨fun q => absurd q (by decide), fun _ σ2 s2 => hT z σ2 ?_⟩
    rw [s1] at s2
    exact s2 ▸ h1.set h1.pn.1 rfl
  have yes : ok1 = true → iOk n T p1 it = true → ∀ σ1, σ1 = si σ a 12 0 → ((mi σ1 a 12 = 0 → ∀ σ6, σ6 = si σ1 a 11 ((mi σ1 a 11) + 1) → K (.inl (some (vI (cuM n T p1)))) σ6) ∧ (¬ mi σ1 a 12 = 0 → ∀ σ7, σ7 = si σ1 a 11 ((mi σ1 a 11) + 0) → K (.inl (some (vI (cuM n T p1)))) σ7)) := by
    intro z1 z2 σ1 s1
    have e1 : mi σ1 a 12 = 0 := by rw [s1]; exact u2_s
    have e2 : mi σ1 a 11 = nI p1 := by rw [s1]; exact (u2_k (by decide)).trans h1.at'
    rw [e1, e2, nI_1]
    refine ⟨fun _ σ2 s2 => hE z1 z2 σ2 ?_, fun q => absurd rfl q⟩
    rw [s1] at s2
    exact s2 ▸ h1.set (iOk_lt z2) rfl
  refine vX9_readLetter_11 gk ⟨_, rfl, h1.ty, ?_⟩
  rw [h1.w]
  cases ok1 with
  | false => exact ⟨fun _ => no (fun z => by cases z.1), fun z => absurd z (by decide)⟩
  | true =>
    refine ⟨fun z => absurd rfl z, fun _ => ?_⟩
    rcases hx with ⟨rfl, rfl⟩ | ⟨rfl, rfl⟩
    · refine ⟨fun _ => kX9_isLetter gk (vX9_readLetter_49 gk ⟨fun z => ⟨_, rfl, h1.ty, fun σ1 s1 => ⟨_, rfl, h1.ty, yes rfl (decide_eq_true (cu_le.mp (isL_iff.mp (bP_n z)))) σ1 s1⟩⟩, fun z => ⟨_, rfl, h1.ty, fun σ1 s1 => ⟨_, rfl, h1.ty, no (fun q => bP_0.mp z (isL_iff.mpr (cu_le.mpr (of_decide_eq_true q.2)))) σ1 s1⟩⟩⟩), fun z => absurd rfl z⟩
    · have hp : ∀ c : Int32, c ≠ -1 → cuM n T p1 = c → (c = 114 ∨ c = 111 ∨ c = 108) → iOk n T p1 iPo = true := fun c hc e h3 => decide_eq_true ⟨((cu_at hc).mp e).1, by rw [((cu_at hc).mp e).2]; exact h3⟩
      refine ⟨fun z => absurd z (by decide), fun _ => ⟨fun z => yes rfl (hp _ (by decide) z (Or.inl rfl)), fun z1 => ⟨fun z => yes rfl (hp _ (by decide) z (Or.inr (Or.inl rfl))), fun z2 => ⟨fun z => yes rfl (hp _ (by decide) z (Or.inr (Or.inr rfl))), fun z3 => no fun q => ?_⟩⟩⟩⟩
      have q2 : isPo n T p1 := of_decide_eq_true q.2
      rw [cu_p q2.1] at z1 z2 z3
      rcases q2.2 with e | e | e
      · exact z1 e
      · exact z2 e
      · exact z3 e
theorem kX9_readLetter (gk : GOK G) (sok : SOK G) {x0 : Int32} {it : It} (hx : (x0 = 0 ∧ it = iLe) ∨ (x0 = 1 ∧ it = iPo)) : RdM G mX9_readLetter rX9_readLetter [vR (some a), vI x0] a [iSg 32, it] (fun _ T q => T q) := by
  intro σ0 σ n p T ok K h hk
  rw [mrun2] at hk
  refine eX9_readLetter gk sok fun q hq => ⟨_, rfl, h.ty, kX9_skip gk sok hq sc32 (by decide) h fun σ1 h1 => vX9_readLetter_6 gk ⟨_, rfl, MX.ty h1, kX9_behind (d := 0) gk (by decide) h1 ?_⟩⟩
  have h1 : MX σ0 σ1 a n T (mrun n T [iSg 32] p ok).1 (mrun n T [iSg 32] p ok).2 := h1
  have hs := mrun_sg1 (n := n) (T := T) (p := p) (ok := ok) (c := 32)
  show At G _ _ 0 0 11 [some (vR (some a)), some (vI x0), none] [vI (cuM n T (mrun n T [iSg 32] p ok).1)] σ1 K
  generalize mrun n T [iSg 32] p ok = r at hk h1 hs
  obtain ⟨p1, ok1⟩ := r
  have ew : iW n T p1 it = 1 := by rcases hx with ⟨-, rfl⟩ | ⟨-, rfl⟩ <;> rfl
  refine kX9_rl_end (it := it) (val := fun _ T q => T q) gk h1 (fun z σ2 h2 => ?_) (fun e z σ2 h2 => ?_) hx
  · have e : mrun n T [it] p1 ok1 = (p1, false) := by
      cases ok1
      · rfl
      · exact mrun1_f fun z2 => z ⟨rfl, z2⟩
    have hk := hk σ2 (cuM n T p1)
    rw [e] at hk
    exact hk h2 fun z => by cases z
  · have e2 : mrun n T [it] p1 ok1 = (p1 + 1, true) := by
      have e : ok1 = true := e
      rw [e, mrun1_t z, ew]
    have hp : p1 = p + 1 := hs e
    rw [e2] at hk
    refine hk σ2 _ h2 fun _ => ?_
    show cuM n T p1 = T (p + 1)
    rw [← hp, cu_p (iOk_lt z)]
def wdM (n : Nat) (T : Nat → Int32) (p : Nat) : Int32 := if isAt n T p 115 ∧ isAt n T (p + 1) 104 then 102 else if isAt n T p 100 ∧ isAt n T (p + 1) 101 then 122 else cuM n T p
theorem kX9_word (gk : GOK G) (h : MX σ0 σ a n T p ok) (hk : K (.inl (some (vI (wdM n T p)))) σ) : Runs G mX9_word rX9_word [vR (some a)] σ K := by
  refine eX9_word gk ⟨_, rfl, h.ty, kX9_behind (d := 0) gk (by decide) h (vX9_word_5 gk ⟨_, rfl, h.ty, kX9_behind (d := 1) gk (by decide) h (vX9_word_11 gk ?_)⟩)⟩
  rw [Nat.add_zero, cu_at (p := p) (by decide), cu_at (p := p) (by decide), cu_at (p := p + 1) (by decide), cu_at (p := p + 1) (by decide)]
  unfold wdM at hk
  have r : ¬ (isAt n T p 115 ∧ isAt n T (p + 1) 104) → ((¬ isAt n T p 100 → K (.inl (some (vI (cuM n T p)))) σ) ∧ (isAt n T p 100 → ((¬ isAt n T (p + 1) 101 → K (.inl (some (vI (cuM n T p)))) σ) ∧ (isAt n T (p + 1) 101 → K (.inl (some (vI 122))) σ)))) := fun z => by
    rw [if_neg z] at hk
    refine ⟨fun z1 => ?_, fun z1 => ⟨fun z2 => ?_, fun z2 => ?_⟩⟩
    · rw [if_neg (fun q => z1 q.1)] at hk; exact hk
    · rw [if_neg (fun q => z2 q.2)] at hk; exact hk
    · rw [if_pos ⟨z1, z2⟩] at hk; exact hk
  refine ⟨fun z => r fun q => z q.1, fun z => ⟨fun z1 => r fun q => z1 q.2, fun z1 => ?_⟩⟩
  rw [if_pos ⟨z, z1⟩] at hk
  exact hk
end TXM
