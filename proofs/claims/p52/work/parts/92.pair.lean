/-! ===== what a command's parameters are, on both sides ===== -/
def tg : List It → List Nat
  | [] => []
  | i :: l => (if i.1 = 0 then [] else [i.1]) ++ tg l
section PAIR
variable {n : Nat} {T : Nat → Int32}
theorem iU_ne {p t : Nat} {f : Nat → Int32} {i : It} (h4 : i.1 ≤ 4) (h : i.1 = 0 ∨ t ≠ i.1) : iU n T p f i t = f t := by
  unfold iU
  by_cases c0 : i.1 = 0
  · rw [if_pos c0]
  by_cases c1 : i.1 = 1
  · rw [if_neg c0, if_pos c1, pk_un (by omega)]
  by_cases c2 : i.1 = 2
  · rw [if_neg c0, if_neg c1, if_pos c2, pk_un (by omega)]
  by_cases c3 : i.1 = 3
  · rw [if_neg c0, if_neg c1, if_neg c2, if_pos c3, pk_un (by omega)]
  · rw [if_neg c0, if_neg c1, if_neg c2, if_neg c3, pk_un (by omega)]
theorem iU_eq {p : Nat} {f : Nat → Int32} {i : It} (h4 : i.1 ≤ 4) (h : i.1 ≠ 0) : iU n T p f i i.1 = iV n T p i := by
  unfold iU iV
  rw [if_neg h]
  by_cases c1 : i.1 = 1
  · rw [if_pos c1, c1, pk_us]; rfl
  by_cases c2 : i.1 = 2
  · rw [if_neg c1, if_pos c2, c2, pk_us]; rfl
  by_cases c3 : i.1 = 3
  · rw [if_neg c1, if_neg c2, if_pos c3, if_pos c3, c3, pk_us]
  · have c4 : i.1 = 4 := by omega
    rw [if_neg c1, if_neg c2, if_neg c3, if_neg c3, if_neg c2, c4, pk_us]
theorem runF_ne (l : List It) : ∀ p f t, (∀ i, i ∈ l → i.1 ≤ 4) → t ∉ tg l → runF n T l p f t = f t := by
  induction l with
  | nil => intro p f t _ _; rfl
  | cons i l ih =>
    intro p f t h4 ht
    rw [runF_cons]
    have hi : i.1 = 0 ∨ t ≠ i.1 := by
      by_cases c0 : i.1 = 0
      · exact Or.inl c0
      · refine Or.inr fun e => ht ?_
        show t ∈ (if i.1 = 0 then [] else [i.1]) ++ tg l
        rw [if_neg c0, e]
        exact List.mem_cons_self
    split
    · rw [ih _ _ _ (fun j hj => h4 j (List.mem_cons_of_mem _ hj)) (fun hm => ht (List.mem_append_right _ hm))]
      exact iU_ne (h4 i List.mem_cons_self) hi
    · rfl
theorem run_hd {i : It} {l : List It} {p : Nat} (h : (run n T (i :: l) p).2 = true) : iOk n T p i = true ∧ (run n T l (p + iW n T p i)).2 = true := by
  rw [run_cons] at h
  by_cases q : iOk n T p i = true
  · rw [if_pos q] at h; exact ⟨q, h⟩
  · rw [if_neg q] at h; cases h
theorem runF_val (l : List It) : (∀ i, i ∈ l → i.1 ≤ 4) → (tg l).Nodup → ∀ p f, (run n T l p).2 = true → ∀ i, i < (tg l).length → runF n T l p f ((tg l).getD i 0) = (vls n T l p).getD i 0 := by
  induction l with
  | nil => intro _ _ p f _ i hi; exact absurd hi (Nat.not_lt_zero _)
  | cons j l ih =>
    intro h4 hd p f hr i hi
    obtain ⟨q, hr⟩ := run_hd hr
    rw [runF_cons, if_pos q]
    have h4' : ∀ i, i ∈ l → i.1 ≤ 4 := fun i hi => h4 i (List.mem_cons_of_mem _ hi)
    by_cases c0 : j.1 = 0
    · have e1 : tg (j :: l) = tg l := by show (if j.1 = 0 then [] else [j.1]) ++ tg l = _; rw [if_pos c0]; rfl
      have e2 : vls n T (j :: l) p = vls n T l (p + iW n T p j) := by show (if j.1 = 0 then [] else [iV n T p j]) ++ _ = _; rw [if_pos c0]; rfl
      rw [e1] at hd hi ⊢
      rw [e2]
      exact ih h4' hd _ _ hr i hi
    · have e1 : tg (j :: l) = j.1 :: tg l := by show (if j.1 = 0 then [] else [j.1]) ++ tg l = _; rw [if_neg c0]; rfl
      have e2 : vls n T (j :: l) p = iV n T p j :: vls n T l (p + iW n T p j) := by show (if j.1 = 0 then [] else [iV n T p j]) ++ _ = _; rw [if_neg c0]; rfl
      rw [e1] at hd hi ⊢
      rw [e2]
      have hd2 := List.nodup_cons.mp hd
      match i, hi with
      | 0, _ =>
        show runF n T l _ _ j.1 = iV n T p j
        rw [runF_ne l _ _ _ h4' hd2.1]
        exact iU_eq (h4 j List.mem_cons_self) c0
      | i + 1, hi => exact ih h4' hd2.2 _ _ hr i (by simpa using hi)
theorem runF_C (hT : ∀ i, i < n → isC (T i)) (l : List It) : (∀ i, i ∈ l → i.1 ≤ 4) → ∀ p f, (run n T l p).2 = true → (isC (f 1) ∨ 1 ∈ tg l) → isC (runF n T l p f 1) := by
  induction l with
  | nil => intro _ p f _ h; exact h.elim id fun h => by cases h
  | cons j l ih =>
    intro h4 p f hr h
    obtain ⟨q, hr⟩ := run_hd hr
    rw [runF_cons, if_pos q]
    refine ih (fun i hi => h4 i (List.mem_cons_of_mem _ hi)) _ _ hr ?_
    by_cases c1 : j.1 = 1
    · refine Or.inl ?_
      have e : iU n T p f j 1 = T p := by
        have := iU_eq (n := n) (T := T) (p := p) (f := f) (h4 j List.mem_cons_self) (by omega : j.1 ≠ 0)
        rw [c1] at this
        rw [this]
        unfold iV
        rw [if_neg (by omega), if_neg (by omega)]
      rw [e]
      exact hT p (iOk_lt q)
    · rcases h with h | h
      · refine Or.inl ?_
        rw [iU_ne (h4 j List.mem_cons_self) (Or.inr (Ne.symm c1))]
        exact h
      · refine Or.inr ?_
        have h : 1 ∈ (if j.1 = 0 then [] else [j.1]) ++ tg l := h
        rcases List.mem_append.mp h with h | h
        · split at h
          · cases h
          · exact absurd (List.mem_singleton.mp h).symm c1
        · exact h
theorem its4 : ∀ k, k < 9 → ∀ i, i ∈ its k → i.1 ≤ 4 := by
  intro k hk
  match k, hk with
  | 0, _ => decide
  | 1, _ => decide
  | 2, _ => decide
  | 3, _ => decide
  | 4, _ => decide
  | 5, _ => decide
  | 6, _ => decide
  | 7, _ => decide
  | 8, _ => decide
theorem itsD : ∀ k, k < 9 → (tg (its k)).Nodup := by
  intro k hk
  match k, hk with
  | 0, _ => decide
  | 1, _ => decide
  | 2, _ => decide
  | 3, _ => decide
  | 4, _ => decide
  | 5, _ => decide
  | 6, _ => decide
  | 7, _ => decide
  | 8, _ => decide
/-- behind its keyword -/
theorem fu_ok {k p : Nat} (h : (run n T (fu k) p).2 = true) : (run n T (its k) (p + (kw k).length)).2 = true ∧ vls n T (fu k) p = vls n T (its k) (p + (kw k).length) := by
  have h1 := run_sg (n := n) (T := T) (kw k) p
  have hk : (run n T ((kw k).map iSg) p).2 = true := Classical.byContradiction fun q => by
    unfold fu at h
    rw [run_f q] at h
    exact q h
  have e : (run n T ((kw k).map iSg) p).1 = p + (kw k).length := by rw [h1.1, h1.2.mp hk]
  unfold fu at h ⊢
  rw [run_t hk, e] at h
  exact ⟨h, by rw [vls_app _ _ _ hk, vls_sg, e]; rfl⟩
theorem FU_val {p i : Nat} {f : Nat → Int32} (h : (run n T (fu (kd n T p)) p).2 = true) (hi : i < (tg (its (kd n T p))).length) : FU n T p f ((tg (its (kd n T p))).getD i 0) = (vls n T (fu (kd n T p)) p).getD i 0 := by
  obtain ⟨h1, h2⟩ := fu_ok h
  rw [h2]
  exact runF_val _ (its4 _ (kd_lt p)) (itsD _ (kd_lt p)) _ _ h1 i hi
theorem FU_C {p : Nat} {f : Nat → Int32} (hT : ∀ i, i < n → isC (T i)) (h : (run n T (fu (kd n T p)) p).2 = true) (hk : kd n T p = 0 ∨ kd n T p = 1 ∨ kd n T p = 2 ∨ kd n T p = 4 ∨ kd n T p = 5) : isC (FU n T p f 1) := by
  refine runF_C hT _ (its4 _ (kd_lt p)) _ _ (fu_ok h).1 (Or.inr ?_)
  rcases hk with e | e | e | e | e <;> rw [e] <;> decide
theorem FU_0 {p : Nat} {f : Nat → Int32} : FU n T p f 0 = nI (kd n T p) := by
  unfold FU
  rw [runF_ne _ _ _ _ (its4 _ (kd_lt p)), pk_us]
  have := kd_lt (n := n) (T := T) p
  generalize kd n T p = k at this ⊢
  match k, this with
  | 0, _ => decide
  | 1, _ => decide
  | 2, _ => decide
  | 3, _ => decide
  | 4, _ => decide
  | 5, _ => decide
  | 6, _ => decide
  | 7, _ => decide
  | 8, _ => decide
theorem vls_len (l : List It) : ∀ p, (vls n T l p).length = (tg l).length := by
  induction l with
  | nil => intro p; rfl
  | cons j l ih =>
    intro p
    show ((if j.1 = 0 then [] else [iV n T p j]) ++ _).length = ((if j.1 = 0 then [] else [j.1]) ++ tg l).length
    rw [List.length_append, List.length_append, ih]
    split <;> rfl
/-- the model's row of a command holds the parameters that the class's object holds -/
theorem EQ.ma {σs σ : Mm} {a p m : Nat} (h : EQ σs σ a n T p m) (hr : (run n T (fu (kd n T p)) p).2 = true) (f : Nat → Int32) : mi σ (a + 7) (4 * m) = cdk (kd n T p) ∧ MA (kd n T p) (FU n T p f) (mi σ (a + 7)) (4 * m) := by
  obtain ⟨cd, c, hcd, hc, h0, hi⟩ := h.2.2.2 hr
  have hlen : c.length = (tg (its (kd n T p))).length := by rw [hc, (fu_ok hr).2, vls_len]
  have hv : ∀ i, i < (tg (its (kd n T p))).length → mi σ (a + 7) (4 * m + 1 + i) = FU n T p f ((tg (its (kd n T p))).getD i 0) := fun i h => by
    rw [hi i (by omega), FU_val hr h, hc]
  have hk := kd_lt (n := n) (T := T) p
  generalize FU n T p f = F at hv ⊢
  rw [h0, hcd]
  generalize kd n T p = k at hk hv ⊢
  match k, hk with
  | 0, _ => exact ⟨rfl, hv 0 (by decide), hv 1 (by decide)⟩
  | 1, _ => exact ⟨rfl, hv 0 (by decide), hv 1 (by decide)⟩
  | 2, _ => exact ⟨rfl, hv 0 (by decide)⟩
  | 3, _ => exact ⟨rfl, hv 0 (by decide), hv 1 (by decide), hv 2 (by decide)⟩
  | 4, _ => exact ⟨rfl, hv 0 (by decide), hv 1 (by decide)⟩
  | 5, _ => exact ⟨rfl, hv 0 (by decide), hv 1 (by decide), hv 2 (by decide)⟩
  | 6, _ => exact ⟨rfl, hv 0 (by decide)⟩
  | 7, _ => exact ⟨rfl, hv 0 (by decide)⟩
  | 8, _ => exact ⟨rfl, hv 0 (by decide)⟩
end PAIR
