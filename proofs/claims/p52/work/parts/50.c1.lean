/-! ===== the class: rows of references as lists; sorting by insertion ===== -/
/-- the row of references at o begins with the list L -/
def sO (σ : Mm) (o : Nat) (L : List Nat) : Mm := (mi σ, fun b j => if b = o then (match L[j]? with | some e => some e | none => mr σ b j) else mr σ b j, ml σ, md σ, mt σ, mz σ)
theorem sO_i {σ : Mm} {o : Nat} {L : List Nat} : mi (sO σ o L) = mi σ := rfl
theorem sO_t {σ : Mm} {o : Nat} {L : List Nat} : mt (sO σ o L) = mt σ := rfl
theorem sO_z {σ : Mm} {o : Nat} {L : List Nat} : mz (sO σ o L) = mz σ := rfl
theorem sO_at {σ : Mm} {o i e : Nat} {L : List Nat} (h : L[i]? = some e) : mr (sO σ o L) o i = some e := by
  show (if o = o then _ else _) = _
  rw [if_pos rfl, h]
theorem sO_out {σ : Mm} {o i : Nat} {L : List Nat} (h : L.length ≤ i) : mr (sO σ o L) o i = mr σ o i := by
  show (if o = o then _ else _) = _
  rw [if_pos rfl, List.getElem?_eq_none h]
theorem sO_n {σ : Mm} {o b : Nat} {L : List Nat} (h : b ≠ o) : mr (sO σ o L) b = mr σ b := funext fun j => if_neg h
theorem sO_sO {σ : Mm} {o : Nat} {L L' : List Nat} (h : L.length = L'.length) : sO (sO σ o L) o L' = sO σ o L' := by
  refine Prod.ext rfl (Prod.ext ?_ rfl)
  funext b j
  show (if b = o then _ else _) = (if b = o then _ else _)
  by_cases hb : b = o
  · subst hb
    rw [if_pos rfl, if_pos rfl]
    cases hj : L'[j]? with
    | some e => rfl
    | none =>
      have : L'.length ≤ j := List.getElem?_eq_none_iff.mp hj
      exact sO_out (by omega)
  · rw [if_neg hb, if_neg hb]
    show mr (sO σ o L) b j = _
    rw [sO_n hb]
theorem sO_id {σ : Mm} {o : Nat} {L : List Nat} (h : ∀ i e, L[i]? = some e → mr σ o i = some e) : sO σ o L = σ := by
  refine Prod.ext rfl (Prod.ext ?_ rfl)
  funext b j
  show (if b = o then _ else mr σ b j) = mr σ b j
  by_cases hb : b = o
  · subst hb
    rw [if_pos rfl]
    cases hj : L[j]? with
    | some e => exact (h j e hj).symm
    | none => rfl
  · rw [if_neg hb]
theorem l_at0 {A B : List Nat} {x : Nat} : (A ++ x :: B)[A.length]? = some x := by simp
theorem l_at1 {A B : List Nat} {x y : Nat} : (A ++ y :: x :: B)[A.length + 1]? = some x := by simp
theorem sO_swap {σ : Mm} {o x y : Nat} {A B : List Nat} : sr (sr (sO σ o (A ++ y :: x :: B)) o (A.length + 1) (some y)) o A.length (some x) = sO σ o (A ++ x :: y :: B) := by
  refine Prod.ext rfl (Prod.ext ?_ rfl)
  funext b j
  show u2 (u2 (mr (sO σ o (A ++ y :: x :: B))) o (A.length + 1) (some y)) o A.length (some x) b j = mr (sO σ o (A ++ x :: y :: B)) b j
  by_cases hb : b = o
  · subst hb
    by_cases h0 : j = A.length
    · subst h0
      rw [u2_s, sO_at l_at0]
    · rw [u2_k h0]
      by_cases h1 : j = A.length + 1
      · subst h1
        rw [u2_s, sO_at l_at1]
      · rw [u2_k h1]
        have e : (A ++ y :: x :: B)[j]? = (A ++ x :: y :: B)[j]? := by
          by_cases h2 : j < A.length
          · rw [List.getElem?_append_left h2, List.getElem?_append_left h2]
          · rw [List.getElem?_append_right (by omega), List.getElem?_append_right (by omega)]
            obtain ⟨d, hd⟩ : ∃ d, j - A.length = d + 2 := ⟨j - A.length - 2, by omega⟩
            rw [hd]
            rfl
        show (if b = b then _ else _) = (if b = b then _ else _)
        rw [if_pos rfl, if_pos rfl, e]
  · rw [u2_a hb, u2_a hb, sO_n hb, sO_n hb]
/-- x goes down the list A (its end first) as long as it is before -/
noncomputable def bubR (lt : Nat → Nat → Prop) : List Nat → Nat → List Nat
  | [], x => [x]
  | y :: A, x => @ite _ (lt x y) (Classical.propDecidable _) (bubR lt A x ++ [y]) (A.reverse ++ [y, x])
noncomputable def isR (lt : Nat → Nat → Prop) : List Nat → List Nat → List Nat
  | pre, [] => pre
  | pre, x :: R => isR lt (bubR lt pre.reverse x) R
theorem bubR_t {lt : Nat → Nat → Prop} {A : List Nat} {x y : Nat} (h : lt x y) : bubR lt (y :: A) x = bubR lt A x ++ [y] := by simp only [bubR, h, if_true]
theorem bubR_f {lt : Nat → Nat → Prop} {A : List Nat} {x y : Nat} (h : ¬ lt x y) : bubR lt (y :: A) x = A.reverse ++ [y, x] := by simp only [bubR, h, if_false]
theorem bubR_perm {lt : Nat → Nat → Prop} {x : Nat} : ∀ A : List Nat, (bubR lt A x).Perm (x :: A)
  | [] => List.Perm.refl _
  | y :: A => by
    by_cases h : lt x y
    · rw [bubR_t h]
      refine ((bubR_perm A).append_right [y]).trans ?_
      have : (x :: A ++ [y]).Perm (y :: x :: A) := List.perm_append_comm
      exact this.trans (List.Perm.swap x y A)
    · rw [bubR_f h]
      have h1 : (A.reverse ++ [y, x]).Perm ([y, x] ++ A.reverse) := List.perm_append_comm
      refine h1.trans ?_
      have h2 : ([y, x] ++ A.reverse).Perm ([y, x] ++ A) := (List.reverse_perm A).append_left _
      exact h2.trans (List.Perm.swap x y A)
theorem bubR_len {lt : Nat → Nat → Prop} {x : Nat} {A : List Nat} : (bubR lt A x).length = A.length + 1 := (bubR_perm A).length_eq
theorem isR_perm {lt : Nat → Nat → Prop} : ∀ R pre : List Nat, (isR lt pre R).Perm (pre ++ R)
  | [], pre => by rw [isR, List.append_nil]
  | x :: R, pre => by
    rw [isR]
    refine (isR_perm R _).trans ?_
    have h1 : (bubR lt pre.reverse x ++ R).Perm ((x :: pre.reverse) ++ R) := (bubR_perm _).append_right R
    refine h1.trans ?_
    have h2 : (x :: pre.reverse ++ R).Perm (x :: pre ++ R) := ((List.reverse_perm pre).cons x).append_right R
    refine h2.trans ?_
    exact (List.perm_middle (a := x) (l₁ := pre) (l₂ := R)).symm
/-- sorted: none is before an earlier one -/
def srtd (lt : Nat → Nat → Prop) (L : List Nat) : Prop := L.Pairwise fun a b => ¬ lt b a
theorem bubR_srtd {lt : Nat → Nat → Prop} (as : ∀ a b, lt a b → ¬ lt b a) (nt : ∀ a b c, ¬ lt a b → ¬ lt b c → ¬ lt a c) {x : Nat} : ∀ A : List Nat, srtd lt A.reverse → srtd lt (bubR lt A x)
  | [], _ => List.pairwise_singleton _ _
  | y :: A, h => by
    have h' : srtd lt (A.reverse ++ [y]) := by simpa using h
    obtain ⟨hA, -, hy⟩ := List.pairwise_append.mp h'
    by_cases q : lt x y
    · rw [bubR_t q]
      refine List.pairwise_append.mpr ⟨bubR_srtd as nt A hA, List.pairwise_singleton _ _, fun a ha b hb => ?_⟩
      obtain rfl : b = y := by simpa using hb
      have ha' := (bubR_perm A).mem_iff.mp ha
      rcases List.mem_cons.mp ha' with e | e
      · subst e; exact as _ _ q
      · exact hy a (by simpa using e) b (by simp)
    · rw [bubR_f q]
      refine List.pairwise_append.mpr ⟨hA, ?_, fun a ha b hb => ?_⟩
      · simp [q]
      · have h1 := hy a ha y (by simp)
        rcases List.mem_cons.mp hb with e | e
        · subst e; exact h1
        · obtain rfl : b = x := by simpa using e
          exact nt _ _ _ q h1
theorem isR_srtd {lt : Nat → Nat → Prop} (as : ∀ a b, lt a b → ¬ lt b a) (nt : ∀ a b c, ¬ lt a b → ¬ lt b c → ¬ lt a c) : ∀ R pre : List Nat, srtd lt pre → srtd lt (isR lt pre R)
  | [], pre, h => h
  | x :: R, pre, h => by
    rw [isR]
    exact isR_srtd as nt R _ (bubR_srtd as nt _ (by rw [List.reverse_reverse]; exact h))
/-- the echo at a is ahead of that at b, by the policy p -/
def bfE (σ : Mm) (p : Int32) (a b : Nat) : Prop := (p = 114 ∧ mi σ a 5 < mi σ b 5) ∨ (p = 108 ∧ mi σ a 6 < mi σ b 6) ∨ (p = 108 ∧ mi σ a 6 = mi σ b 6 ∧ mi σ a 4 < mi σ b 4) ∨ (¬ p = 114 ∧ ¬ p = 108 ∧ mi σ a 4 < mi σ b 4)
def ltE (σ : Mm) (p : Int32) (a b : Nat) : Prop := ¬ mi σ a 0 = 0 ∧ (mi σ b 0 = 0 ∨ bfE σ p a b)
theorem bfE_as {σ : Mm} {p : Int32} {a b : Nat} (h : bfE σ p a b) : ¬ bfE σ p b a := by
  unfold bfE at *
  have e1 : (114 : Int32).toInt = 114 := rfl
  have e2 : (108 : Int32).toInt = 108 := rfl
  simp only [Int32.lt_iff_toInt_lt, ← Int32.toInt_inj, e1, e2] at *
  omega
theorem bfE_nt {σ : Mm} {p : Int32} {a b c : Nat} (h : ¬ bfE σ p a b) (h2 : ¬ bfE σ p b c) : ¬ bfE σ p a c := by
  unfold bfE at *
  have e1 : (114 : Int32).toInt = 114 := rfl
  have e2 : (108 : Int32).toInt = 108 := rfl
  simp only [Int32.lt_iff_toInt_lt, ← Int32.toInt_inj, e1, e2] at *
  omega
theorem ltE_as {σ : Mm} {p : Int32} (a b : Nat) (h : ltE σ p a b) : ¬ ltE σ p b a := fun q => by
  rcases h.2 with e | e
  · exact q.1 e
  · rcases q.2 with e2 | e2
    · exact h.1 e2
    · exact bfE_as e e2
theorem ltE_nt {σ : Mm} {p : Int32} (a b c : Nat) (h : ¬ ltE σ p a b) (h2 : ¬ ltE σ p b c) : ¬ ltE σ p a c := fun q => by
  have hb : ¬ (mi σ b 0 = 0 ∨ bfE σ p a b) := fun z => h ⟨q.1, z⟩
  have hb0 : ¬ mi σ b 0 = 0 := fun z => hb (Or.inl z)
  have hc : ¬ (mi σ c 0 = 0 ∨ bfE σ p b c) := fun z => h2 ⟨hb0, z⟩
  rcases q.2 with e | e
  · exact hc (Or.inl e)
  · exact bfE_nt (fun z => hb (Or.inr z)) (fun z => hc (Or.inr z)) e
section SH
variable {G : GG} {σ : Mm} {K : RES → Mm → Prop} {h : Nat}
/-- a shelf at h: its order row at h + 1 -/
def shS (σ : Mm) (h : Nat) (L : List Nat) : Prop := (mt σ h).1 = 6 ∧ mr σ h 6 = some (h + 1) ∧ mt σ (h + 1) = (58, 6) ∧ L.length = 6 ∧ (∀ i e, L[i]? = some e → mr σ (h + 1) i = some e) ∧ ∀ e, e ∈ L → (mt σ e).1 = 3
theorem kX5_isBefore (gk : GOK G) (ht : (mt σ h).1 = 6) {a b : Nat} (ha : (mt σ a).1 = 3) (hb : (mt σ b).1 = 3) (hk : K (.inl (some (vI (bP (bfE σ (mi σ h 3) a b))))) σ) : Runs G mX5_isBefore rX5_isBefore [vR (some h), vR (some a), vR (some b)] σ K := by
  have c1 : bfE σ (mi σ h 3) a b → K (.inl (some (vI 1))) σ := fun z => by rw [bP_t z] at hk; exact hk
  have c0 : ¬ bfE σ (mi σ h 3) a b → K (.inl (some (vI 0))) σ := fun z => by rw [bP_f z] at hk; exact hk
  refine eX5_isBefore gk ⟨_, rfl, ht, fun q => ⟨fun q2 => ⟨_, rfl, ha, _, rfl, hb, fun q3 => c0 ?_, fun q3 => c1 ?_⟩, fun q2 => ⟨_, rfl, ha, _, rfl, hb, fun q3 => ⟨fun q4 => c0 ?_, fun q4 => c1 ?_⟩, fun q3 => ⟨fun q4 => c0 ?_, fun q4 => c1 ?_⟩⟩⟩, fun q => ⟨_, rfl, ha, _, rfl, hb, fun q3 => c0 ?_, fun q3 => c1 ?_⟩⟩
  all_goals
    unfold bfE
    have e1 : (114 : Int32).toInt = 114 := rfl
    have e2 : (108 : Int32).toInt = 108 := rfl
    simp only [Int32.lt_iff_toInt_lt, Int32.le_iff_toInt_le, ← Int32.toInt_inj, e1, e2] at *
    omega
theorem kX5_sort_13 (gk : GOK G) {ht : (mt σ h).1 = 6} (hr : mr σ h 6 = some (h + 1)) (ht2 : mt σ (h + 1) = (58, 6)) {en : Int32} {B : List Nat} {x : Nat} (hx : (mt σ x).1 = 3) : ∀ A : List Nat, A.length + B.length + 1 = 6 → (∀ e, e ∈ A → (mt σ e).1 = 3) → At G mX5_sort rX5_sort 0 0 2 [some (vR (some h)), some (vI (en + 1)), none, none, none] [] (sO σ (h + 1) (bubR (ltE σ (mi σ h 3)) A x ++ B)) K → At G mX5_sort rX5_sort 0 0 13 [some (vR (some h)), some (vI en), some (vI (nI A.length)), none, none] [] (sO σ (h + 1) (A.reverse ++ x :: B)) K
  | [], _, _, hk => vX5_sort_13 gk ⟨fun _ => hk, fun q => absurd (by decide) q⟩
  | y :: A, hl, hA, hk => by
    have hl' : A.length + 1 + B.length + 1 = 6 := hl
    have e1 : nI (A.length + 1) - 1 = nI A.length := nI_pred _
    have ew : (y :: A).reverse ++ x :: B = A.reverse ++ y :: x :: B := by simp
    have er : ∀ L, mr (sO σ (h + 1) L) h 6 = some (h + 1) := fun L => by rw [sO_n (by omega)]; exact hr
    have ey : mr (sO σ (h + 1) (A.reverse ++ y :: x :: B)) (h + 1) A.length = some y := sO_at (by have := l_at0 (A := A.reverse) (x := y) (B := x :: B); simpa using this)
    have ex : mr (sO σ (h + 1) (A.reverse ++ y :: x :: B)) (h + 1) (A.length + 1) = some x := sO_at (by have := l_at1 (A := A.reverse) (x := x) (y := y) (B := B); simpa using this)
    have esw : sr (sr (sO σ (h + 1) (A.reverse ++ y :: x :: B)) (h + 1) (A.length + 1) (some y)) (h + 1) A.length (some x) = sO σ (h + 1) (A.reverse ++ x :: y :: B) := by
      have := sO_swap (σ := σ) (o := h + 1) (x := x) (y := y) (A := A.reverse) (B := B)
      simpa using this
    have hstop : ¬ ltE σ (mi σ h 3) x y → At G mX5_sort rX5_sort 0 0 2 [some (vR (some h)), some (vI (en + 1)), none, none, none] [] (sO σ (h + 1) (A.reverse ++ y :: x :: B)) K := fun q => by
      rw [bubR_f q] at hk
      simpa using hk
    have hgo : ltE σ (mi σ h 3) x y → At G mX5_sort rX5_sort 0 0 13 [some (vR (some h)), some (vI en), some (vI (nI A.length)), none, none] [] (sO σ (h + 1) (A.reverse ++ x :: y :: B)) K := fun q => by
      rw [bubR_t q] at hk
      refine kX5_sort_13 gk (ht := ht) hr ht2 hx A ?_ (fun e he => hA e (List.mem_cons_of_mem _ he)) ?_
      · simp; omega
      · simpa using hk
    have hy := hA y (List.mem_cons_self ..)
    rw [ew]
    have v1 : vp_in (nI (A.length + 1)) 6 := vp_in_nI (by omega) (by omega)
    have v0 : vp_in (nI A.length) 6 := vp_in_nI (by omega) (by omega)
    refine vX5_sort_13 gk ⟨fun q => absurd q (nI_nle (by simp) (by simp; omega)), fun _ => ?_⟩
    show ∃ a2, some h = some a2 ∧ _
    simp only [List.length_cons, e1]
    refine ⟨h, rfl, ht, h + 1, er _, 6, ht2, v1, v0, ?_⟩
    rw [nI_clamp (by omega), nI_clamp (by omega), ex, ey]
    refine ⟨x, rfl, hx, fun q => hstop (fun z => z.1 q), fun q => ⟨y, rfl, hy, fun q2 => ⟨v1, fun σ1 es => ⟨h + 1, ?_, 6, ht2, v0, fun σ2 es2 => ?_⟩⟩, fun q2 => kX5_isBefore gk (σ := sO σ (h + 1) (A.reverse ++ y :: x :: B)) ht hx hy (vX5_sort_56 gk ⟨fun q3 => ⟨h, rfl, ht, h + 1, er _, 6, ht2, v1, y, rfl, hy, fun σ1 es => ⟨h + 1, ?_, 6, ht2, by rw [e1]; exact v0, x, rfl, hx, fun σ2 es2 => ?_⟩⟩, fun q3 => hstop (fun z => z.2.elim q2 (bP_0.mp q3))⟩)⟩⟩
    · rw [es]; exact (u2_a (by omega)).trans (er _)
    · rw [es2, es, pk_m1, esw]
      exact hgo ⟨q, Or.inl q2⟩
    · rw [es]; exact (u2_a (by omega)).trans (er _)
    · rw [es2, es, pk_m1, e1, nI_clamp (by omega), nI_clamp (by omega), esw]
      exact hgo ⟨q, Or.inr (bP_n q3)⟩
theorem kX5_sort_2 (gk : GOK G) (ht : (mt σ h).1 = 6) (hr : mr σ h 6 = some (h + 1)) (ht2 : mt σ (h + 1) = (58, 6)) : ∀ R pre : List Nat, pre.length + R.length = 6 → (∀ e, e ∈ pre → (mt σ e).1 = 3) → (∀ e, e ∈ R → (mt σ e).1 = 3) → K (.inl none) (sO σ (h + 1) (isR (ltE σ (mi σ h 3)) pre R)) → At G mX5_sort rX5_sort 0 0 2 [some (vR (some h)), some (vI (nI pre.length)), none, none, none] [] (sO σ (h + 1) (pre ++ R)) K
  | [], pre, hl, hp, hR, hk => by
    have hl : pre.length = 6 := by simpa using hl
    rw [List.append_nil]
    refine vX5_sort_2 gk ⟨h, rfl, ht, h + 1, ?_, 6, ht2, fun _ => hk, fun q => absurd (nI_le (by omega) (by omega)) q⟩
    rw [sO_n (by omega)]; exact hr
  | x :: R, pre, hl, hp, hR, hk => by
    have hl : pre.length + (R.length + 1) = 6 := by simpa using hl
    refine vX5_sort_2 gk ⟨h, rfl, ht, h + 1, ?_, 6, ht2, fun q => absurd q (nI_ge (by omega) (by omega)), fun _ => ?_⟩
    · rw [sO_n (by omega)]; exact hr
    · have := kX5_sort_13 gk (K := K) (ht := ht) hr ht2 (en := nI pre.length) (B := R) (hR x (List.mem_cons_self ..)) pre.reverse (by simp; omega) (fun e he => hp e (by simpa using he)) ?_
      · simpa using this
      · have ih := kX5_sort_2 gk ht hr ht2 R (bubR (ltE σ (mi σ h 3)) pre.reverse x) (by rw [bubR_len]; simp; omega) (fun e he => ?_) (fun e he => hR e (List.mem_cons_of_mem _ he)) hk
        · rw [nA1]
          have e9 : (bubR (ltE σ (mi σ h 3)) pre.reverse x).length = pre.length + 1 := by rw [bubR_len]; simp
          rw [e9] at ih
          exact ih
        · rcases List.mem_cons.mp ((bubR_perm _).mem_iff.mp he) with e2 | e2
          · subst e2; exact hR _ (List.mem_cons_self ..)
          · exact hp e (by simpa using e2)
theorem kX5_sort (gk : GOK G) {L : List Nat} (hS : shS σ h L) (hk : ∀ L' : List Nat, L'.Perm L → srtd (ltE σ (mi σ h 3)) L' → K (.inl none) (sO σ (h + 1) L')) : Runs G mX5_sort rX5_sort [vR (some h)] σ K := by
  obtain ⟨ht, hr, ht2, hl, hL, h3⟩ := hS
  cases L with
  | nil => simp at hl
  | cons x R =>
    have := kX5_sort_2 gk (K := K) ht hr ht2 R [x] (by simpa [Nat.add_comm] using hl) (fun e he => h3 e (by simp at he; simp [he])) (fun e he => h3 e (List.mem_cons_of_mem _ he)) (hk _ (isR_perm R [x]) (isR_srtd ltE_as ltE_nt R [x] (List.pairwise_singleton _ _)))
    rw [show [x] ++ R = x :: R from rfl, sO_id hL] at this
    exact eX5_sort gk this
end SH
