/-! ===== the model's text, read ===== -/
def MX (σ0 σ : Mm) (a n : Nat) (T : Nat → Int32) (p : Nat) (ok : Bool) : Prop := MS σ a ∧ mi σ a 10 = nI n ∧ n ≤ 60 ∧ (∀ i, i < n → mi σ (a + 6) i = T i ∧ 32 ≤ (T i).toInt ∧ (T i).toInt ≤ 126) ∧ (mi σ a 11 = nI p ∧ p ≤ n) ∧ mi σ a 12 = (if ok = true then 0 else 1) ∧ (∀ q k, ¬ (q = a ∧ (k = 11 ∨ k = 12)) → mi σ q k = mi σ0 q k) ∧ mr σ = mr σ0 ∧ ml σ = ml σ0 ∧ md σ = md σ0 ∧ mt σ = mt σ0 ∧ mz σ = mz σ0
def cuM (n : Nat) (T : Nat → Int32) (p : Nat) : Int32 := if p < n then T p else -1
def mrun (n : Nat) (T : Nat → Int32) (l : List It) (p : Nat) (ok : Bool) : Nat × Bool := if ok = true then run n T l p else (p, false)
section TXM
variable {G : GG} {σ0 σ : Mm} {K : RES → Mm → Prop} {a n p : Nat} {T f : Nat → Int32} {ok : Bool}
theorem mrun_f {l : List It} : mrun n T l p false = (p, false) := rfl
theorem mrun_t {l : List It} : mrun n T l p true = run n T l p := rfl
theorem mrun_app {l m : List It} : mrun n T (l ++ m) p ok = mrun n T m (mrun n T l p ok).1 (mrun n T l p ok).2 := by
  cases ok
  · rfl
  · rw [mrun_t, mrun_t, run_app]
    by_cases h : (run n T l p).2 = true
    · rw [if_pos h, h]; rfl
    · have h' : (run n T l p).2 = false := by simpa using h
      rw [if_neg h, h']
      exact Prod.ext rfl h'
theorem mrun_n {l : List It} (h : p ≤ n) : (mrun n T l p ok).1 ≤ n := by
  cases ok
  · exact h
  · exact run_n l p h
theorem MX.set {q : Nat} {ok' : Bool} {x : Int32} (h : MX σ0 σ a n T p ok) (hq : q ≤ n) (hx : x = if ok' = true then 0 else 1) : MX σ0 (si (si σ a 12 x) a 11 (nI q)) a n T q ok' := by
  obtain ⟨h1, h2, h3, h4, h5, h6, h7, h8⟩ := h
  refine ⟨h1.mv rfl rfl, ?_, h3, fun i hi => ⟨?_, (h4 i hi).2⟩, ⟨u2_s, hq⟩, ?_, fun q' k hk => ?_, h8⟩
  · exact ((u2_k (by decide)).trans (u2_k (by decide))).trans h2
  · exact ((u2_a (by omega)).trans (u2_a (by omega))).trans (h4 i hi).1
  · rw [← hx]; exact (u2_k (by decide)).trans u2_s
  · refine Eq.trans ?_ (h7 q' k hk)
    exact (if_neg (fun z => hk ⟨z.1, Or.inl z.2⟩)).trans (if_neg (fun z => hk ⟨z.1, Or.inr z.2⟩))
theorem MX.set12 {ok' : Bool} {x : Int32} (h : MX σ0 σ a n T p ok) (hx : x = if ok' = true then 0 else 1) : MX σ0 (si σ a 12 x) a n T p ok' := by
  obtain ⟨h1, h2, h3, h4, h5, h6, h7, h8⟩ := h
  refine ⟨h1.mv rfl rfl, ?_, h3, fun i hi => ⟨?_, (h4 i hi).2⟩, ⟨?_, h5.2⟩, ?_, fun q' k hk => ?_, h8⟩
  · exact (u2_k (by decide)).trans h2
  · exact (u2_a (by omega)).trans (h4 i hi).1
  · exact (u2_k (by decide)).trans h5.1
  · rw [← hx]; exact u2_s
  · exact (if_neg (fun z => hk ⟨z.1, Or.inr z.2⟩)).trans (h7 q' k hk)
theorem MX.set11 {q : Nat} (h : MX σ0 σ a n T p ok) (hq : q ≤ n) : MX σ0 (si σ a 11 (nI q)) a n T q ok := by
  obtain ⟨h1, h2, h3, h4, h5, h6, h7, h8⟩ := h
  refine ⟨h1.mv rfl rfl, ?_, h3, fun i hi => ⟨?_, (h4 i hi).2⟩, ⟨u2_s, hq⟩, ?_, fun q' k hk => ?_, h8⟩
  · exact (u2_k (by decide)).trans h2
  · exact (u2_a (by omega)).trans (h4 i hi).1
  · exact (u2_k (by decide)).trans h6
  · exact (if_neg (fun z => hk ⟨z.1, Or.inl z.2⟩)).trans (h7 q' k hk)
theorem MX.ty (h : MX σ0 σ a n T p ok) : (mt σ a).1 = 10 := h.1.ty
theorem MX.at' (h : MX σ0 σ a n T p ok) : mi σ a 11 = nI p := h.2.2.2.2.1.1
theorem MX.pn (h : MX σ0 σ a n T p ok) : p ≤ n ∧ n ≤ 60 := ⟨h.2.2.2.2.1.2, h.2.2.1⟩
theorem MX.w (h : MX σ0 σ a n T p ok) : mi σ a 12 = if ok = true then 0 else 1 := h.2.2.2.2.2.1
theorem MX.ch (h : MX σ0 σ a n T p ok) : ∀ i, i < n → 32 ≤ (T i).toInt ∧ (T i).toInt ≤ 126 := fun i hi => (h.2.2.2.1 i hi).2
theorem cu_at {c : Int32} (hc : c ≠ -1) : cuM n T p = c ↔ isAt n T p c := by
  unfold cuM
  by_cases h : p < n
  · rw [if_pos h]; exact ⟨fun z => ⟨h, z⟩, fun z => z.2⟩
  · rw [if_neg h]; exact ⟨fun z => absurd z.symm hc, fun z => absurd z.1 h⟩
theorem cu_p (h : p < n) : cuM n T p = T p := if_pos h
theorem cu_di : (¬ cuM n T p < 48 ∧ ¬ 57 < cuM n T p) ↔ isD n T p := by
  unfold cuM
  by_cases h : p < n
  · rw [if_pos h, Int32.lt_iff_toInt_lt, Int32.lt_iff_toInt_lt]
    have e1 : ((48 : Int32)).toInt = 48 := by decide
    have e2 : ((57 : Int32)).toInt = 57 := by decide
    rw [e1, e2]
    exact ⟨fun z => ⟨h, by omega, by omega⟩, fun z => ⟨by omega, by omega⟩⟩
  · rw [if_neg h]; exact ⟨fun z => absurd (by decide) z.1, fun z => absurd z.1 h⟩
theorem cu_le : (¬ cuM n T p < 97 ∧ ¬ 122 < cuM n T p) ↔ isLe n T p := by
  unfold cuM
  by_cases h : p < n
  · rw [if_pos h, Int32.lt_iff_toInt_lt, Int32.lt_iff_toInt_lt]
    have e1 : ((97 : Int32)).toInt = 97 := by decide
    have e2 : ((122 : Int32)).toInt = 122 := by decide
    rw [e1, e2]
    exact ⟨fun z => ⟨h, by omega, by omega⟩, fun z => ⟨by omega, by omega⟩⟩
  · rw [if_neg h]; exact ⟨fun z => absurd (by decide) z.1, fun z => absurd z.1 h⟩
/-- a list of signs read by the model, that answers a value -/
def RdM (G : GG) (M : SIG) (rm : Room) (as : List VV) (a : Nat) (l : List It) (val : Nat → (Nat → Int32) → Nat → Int32) : Prop := ∀ {σ0 σ : Mm} {n p : Nat} {T : Nat → Int32} {ok : Bool} {K : RES → Mm → Prop}, MX σ0 σ a n T p ok → (∀ σ' z, MX σ0 σ' a n T (mrun n T l p ok).1 (mrun n T l p ok).2 → ((mrun n T l p ok).2 = true → z = val n T (p + 1)) → K (.inl (some (vI z))) σ') → Runs G M rm as σ K
theorem sc32 : ∀ i, i < ([32] : List Int32).length → ([32] : List Int32).getD i 0 ≠ -1 ∧ 0 ≤ (([32] : List Int32).getD i 0).toInt ∧ (([32] : List Int32).getD i 0).toInt < 128 := by decide
theorem mrun2 {i j : It} : mrun n T [i, j] p ok = mrun n T [j] (mrun n T [i] p ok).1 (mrun n T [i] p ok).2 := mrun_app (l := [i]) (m := [j])
theorem mrun1_t {i : It} (h : iOk n T p i = true) : mrun n T [i] p true = (p + iW n T p i, true) := by
  rw [mrun_t, run1, if_pos h]
theorem mrun1_f {i : It} (h : ¬ iOk n T p i = true) : mrun n T [i] p true = (p, false) := by
  rw [mrun_t, run1, if_neg h]
/-- where a blank has been read -/
theorem mrun_sg1 {c : Int32} (h : (mrun n T [iSg c] p ok).2 = true) : (mrun n T [iSg c] p ok).1 = p + 1 := by
  cases ok
  · cases h
  · by_cases q : iOk n T p (iSg c) = true
    · rw [mrun1_t q]; rfl
    · rw [mrun1_f q] at h; cases h
theorem nv10 (x y : Int32) : ((10 : Int32) * ((((10 : Int32) * 0) + x) - 48) + y) - 48 = (x - 48) * 10 + (y - 48) := by
  rw [Int32.mul_zero, Int32.zero_add, Int32.mul_comm, Int32.sub_eq_add_neg, Int32.add_assoc, ← Int32.sub_eq_add_neg]
theorem nv1 (x : Int32) : ((((10 : Int32) * 0) + x) - 48) = x - 48 := by rw [Int32.mul_zero, Int32.zero_add]
def wdM (n : Nat) (T : Nat → Int32) (p : Nat) : Int32 := if isAt n T p 115 ∧ isAt n T (p + 1) 104 then 102 else if isAt n T p 100 ∧ isAt n T (p + 1) 101 then 122 else cuM n T p
end TXM
