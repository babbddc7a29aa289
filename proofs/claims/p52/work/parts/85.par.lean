/-! ===== a text, read ===== -/
abbrev isAt (n : Nat) (T : Nat → Int32) (p : Nat) (c : Int32) : Prop := p < n ∧ T p = c
abbrev isD (n : Nat) (T : Nat → Int32) (p : Nat) : Prop := p < n ∧ 48 ≤ (T p).toInt ∧ (T p).toInt ≤ 57
abbrev isLe (n : Nat) (T : Nat → Int32) (p : Nat) : Prop := p < n ∧ 97 ≤ (T p).toInt ∧ (T p).toInt ≤ 122
abbrev isPo (n : Nat) (T : Nat → Int32) (p : Nat) : Prop := p < n ∧ (T p = 114 ∨ T p = 111 ∨ T p = 108)
/-- what is read: a sign, a letter, a digit, a number, a policy -/
abbrev It : Type := Nat × Int32
abbrev iSg (c : Int32) : It := (0, c)
abbrev iLe : It := (1, 0)
abbrev iDi : It := (2, 0)
abbrev iNu : It := (3, 0)
abbrev iPo : It := (4, 0)
def iOk (n : Nat) (T : Nat → Int32) (p : Nat) (i : It) : Bool := if i.1 = 0 then decide (isAt n T p i.2) else if i.1 = 1 then decide (isLe n T p) else if i.1 = 2 then decide (isD n T p) else if i.1 = 3 then decide (isD n T p) else decide (isPo n T p)
def iW (n : Nat) (T : Nat → Int32) (p : Nat) (i : It) : Nat := if i.1 = 3 then (if isD n T (p + 1) then 2 else 1) else 1
def nv (n : Nat) (T : Nat → Int32) (p : Nat) : Int32 := if isD n T (p + 1) then (T p - 48) * 10 + (T (p + 1) - 48) else T p - 48
def iU (n : Nat) (T : Nat → Int32) (p : Nat) (f : Nat → Int32) (i : It) : Nat → Int32 := if i.1 = 0 then f else if i.1 = 1 then upd f 1 (T p) else if i.1 = 2 then upd f 2 (T p - 48) else if i.1 = 3 then upd f 3 (nv n T p) else upd f 4 (T p)
def run (n : Nat) (T : Nat → Int32) : List It → Nat → Nat × Bool
  | [], p => (p, true)
  | i :: l, p => if iOk n T p i = true then run n T l (p + iW n T p i) else (p, false)
def runF (n : Nat) (T : Nat → Int32) : List It → Nat → (Nat → Int32) → Nat → Int32
  | [], _, f => f
  | i :: l, p, f => if iOk n T p i = true then runF n T l (p + iW n T p i) (iU n T p f i) else f
section PAR
variable {n : Nat} {T : Nat → Int32}
theorem run_app (l m : List It) : ∀ p, run n T (l ++ m) p = if (run n T l p).2 = true then run n T m (run n T l p).1 else run n T l p := by
  induction l with
  | nil => intro p; rfl
  | cons i l ih =>
    intro p
    simp only [List.cons_append, run]
    split
    · exact ih _
    · rfl
theorem runF_app (l m : List It) : ∀ p f, runF n T (l ++ m) p f = if (run n T l p).2 = true then runF n T m (run n T l p).1 (runF n T l p f) else runF n T l p f := by
  induction l with
  | nil => intro p f; rfl
  | cons i l ih =>
    intro p f
    simp only [List.cons_append, run, runF]
    split
    · exact ih _ _
    · rfl
theorem iW_pos (p : Nat) (i : It) : 1 ≤ iW n T p i := by
  unfold iW
  split
  · split <;> omega
  · omega
theorem iOk_lt {p : Nat} {i : It} (h : iOk n T p i = true) : p < n := by
  unfold iOk at h
  by_cases c0 : i.1 = 0
  · rw [if_pos c0] at h; exact (of_decide_eq_true h).1
  by_cases c1 : i.1 = 1
  · rw [if_neg c0, if_pos c1] at h; exact (of_decide_eq_true h).1
  by_cases c2 : i.1 = 2
  · rw [if_neg c0, if_neg c1, if_pos c2] at h; exact (of_decide_eq_true h).1
  by_cases c3 : i.1 = 3
  · rw [if_neg c0, if_neg c1, if_neg c2, if_pos c3] at h; exact (of_decide_eq_true h).1
  · rw [if_neg c0, if_neg c1, if_neg c2, if_neg c3] at h; exact (of_decide_eq_true h).1
theorem iW_n {p : Nat} {i : It} (h : iOk n T p i = true) : p + iW n T p i ≤ n := by
  have := iOk_lt h
  unfold iW
  split
  · split
    · rename_i q; have := q.1; omega
    · omega
  · omega
theorem run_le (l : List It) : ∀ p, p ≤ (run n T l p).1 := by
  induction l with
  | nil => intro p; exact Nat.le_refl _
  | cons i l ih =>
    intro p
    simp only [run]
    split
    · exact Nat.le_trans (Nat.le_add_right _ _) (ih _)
    · exact Nat.le_refl _
theorem run_n (l : List It) : ∀ p, p ≤ n → (run n T l p).1 ≤ n := by
  induction l with
  | nil => intro p h; exact h
  | cons i l ih =>
    intro p h
    simp only [run]
    split
    · rename_i q
      exact ih _ (iW_n q)
    · exact h
theorem run_len (l : List It) : ∀ p, (run n T l p).2 = true → p + l.length ≤ (run n T l p).1 := by
  induction l with
  | nil => intro p _; exact Nat.le_refl _
  | cons i l ih =>
    intro p h
    simp only [run] at h ⊢
    split
    · rename_i q
      rw [if_pos q] at h
      have := ih _ h
      have := iW_pos (n := n) (T := T) p i
      simp only [List.length_cons]
      omega
    · rename_i q
      rw [if_neg q] at h
      cases h
/-- how many signs of kw stand at p -/
def cs (n : Nat) (T : Nat → Int32) : List Int32 → Nat → Nat
  | [], _ => 0
  | b :: l, p => if isAt n T p b then 1 + cs n T l (p + 1) else 0
theorem cs_le (kw : List Int32) : ∀ p, cs n T kw p ≤ kw.length := by
  induction kw with
  | nil => intro p; exact Nat.le_refl _
  | cons b l ih =>
    intro p
    simp only [cs, List.length_cons]
    split
    · have := ih (p + 1); omega
    · omega
theorem cs_n (kw : List Int32) : ∀ p, p ≤ n → p + cs n T kw p ≤ n := by
  induction kw with
  | nil => intro p h; exact h
  | cons b l ih =>
    intro p h
    simp only [cs]
    split
    · rename_i q
      have := ih (p + 1) q.1; omega
    · omega
theorem run_sg (kw : List Int32) : ∀ p, (run n T (kw.map iSg) p).1 = p + cs n T kw p ∧ ((run n T (kw.map iSg) p).2 = true ↔ cs n T kw p = kw.length) := by
  induction kw with
  | nil => intro p; exact ⟨rfl, fun _ => rfl, fun _ => rfl⟩
  | cons b l ih =>
    intro p
    have e1 : run n T ((b :: l).map iSg) p = if iOk n T p (iSg b) = true then run n T (l.map iSg) (p + 1) else (p, false) := rfl
    have e2 : cs n T (b :: l) p = if isAt n T p b then 1 + cs n T l (p + 1) else 0 := rfl
    rw [e1, e2, List.length_cons]
    by_cases q : isAt n T p b
    · rw [if_pos (show iOk n T p (iSg b) = true from decide_eq_true q), if_pos q, (ih (p + 1)).1, (ih (p + 1)).2]
      exact ⟨by omega, by omega⟩
    · rw [if_neg (show ¬ iOk n T p (iSg b) = true from fun z => q (of_decide_eq_true z)), if_neg q]
      exact ⟨rfl, (fun z => by cases z), fun z => by omega⟩
theorem runF_sg (kw : List Int32) : ∀ p f, runF n T (kw.map iSg) p f = f := by
  induction kw with
  | nil => intro p f; rfl
  | cons b l ih =>
    intro p f
    simp only [List.map_cons, runF]
    split
    · exact ih _ _
    · rfl
/-- the keywords, by the kind -/
def kwT : List (List Int32) := [[106, 97, 114, 32], [115, 97, 121, 32], [100, 114, 111, 112, 32], [115, 104, 101, 108, 102], [104, 101, 97, 114], [119, 97, 114, 109], [108, 105, 115, 116, 101, 110], [100, 101, 97, 102], [112, 97, 115, 115]]
def kw (k : Nat) : List Int32 := kwT.getD k [112, 97, 115, 115]
def itT : List (List It) := [[iLe, iSg 32, iNu], [iLe, iSg 32, iNu], [iLe], [iSg 32, iDi, iSg 32, iNu, iSg 32, iPo], [iSg 32, iDi, iSg 32, iLe], [iSg 32, iDi, iSg 32, iLe, iSg 32, iNu], [iSg 32, iDi], [iSg 32, iDi], [iSg 32, iNu]]
def its (k : Nat) : List It := itT.getD k [iSg 32, iNu]
/-- the kind of the command that can begin at p -/
def kd (n : Nat) (T : Nat → Int32) (p : Nat) : Nat :=
  if isAt n T p 106 then 0 else if isAt n T p 115 then (if isAt n T (p + 1) 104 then 3 else 1) else if isAt n T p 100 then (if isAt n T (p + 1) 101 then 7 else 2) else if isAt n T p 104 then 4 else if isAt n T p 119 then 5 else if isAt n T p 108 then 6 else 8
theorem kd_lt (p : Nat) : kd n T p < 9 := by
  unfold kd
  repeat' split
  all_goals omega
theorem at_u {p : Nat} {c d : Int32} (h : isAt n T p c) (hd : c ≠ d) : ¬ isAt n T p d := fun q => hd (h.2.symm.trans q.2)
theorem cs_0 {b : Int32} {l : List Int32} {p : Nat} (h : ¬ isAt n T p b) : cs n T (b :: l) p = 0 := if_neg h
theorem cs_1 {b : Int32} {l : List Int32} {p : Nat} (h : isAt n T p b) : cs n T (b :: l) p = 1 + cs n T l (p + 1) := if_pos h
/-- the first sign of each keyword -/
theorem kw_all {P : Nat → List Int32 → Prop} (k : Nat) (hk : k < 9) (h0 : P 0 [106, 97, 114, 32]) (h1 : P 1 [115, 97, 121, 32]) (h2 : P 2 [100, 114, 111, 112, 32]) (h3 : P 3 [115, 104, 101, 108, 102]) (h4 : P 4 [104, 101, 97, 114]) (h5 : P 5 [119, 97, 114, 109]) (h6 : P 6 [108, 105, 115, 116, 101, 110]) (h7 : P 7 [100, 101, 97, 102]) (h8 : P 8 [112, 97, 115, 115]) : P k (kw k) := by
  match k, hk with
  | 0, _ => exact h0
  | 1, _ => exact h1
  | 2, _ => exact h2
  | 3, _ => exact h3
  | 4, _ => exact h4
  | 5, _ => exact h5
  | 6, _ => exact h6
  | 7, _ => exact h7
  | 8, _ => exact h8
/-- no other keyword goes on farther than the one that can begin -/
theorem kw_best (p k : Nat) (hk : k < 9) (hne : k ≠ kd n T p) : cs n T (kw k) p ≤ cs n T (kw (kd n T p)) p ∧ cs n T (kw k) p < (kw k).length := by
  have z0 : ∀ {b : Int32} {l : List Int32}, ¬ isAt n T p b → cs n T (b :: l) p ≤ cs n T (kw (kd n T p)) p ∧ cs n T (b :: l) p < (b :: l).length := fun h => by
    rw [cs_0 h]
    exact ⟨Nat.zero_le _, by simp⟩
  by_cases c0 : isAt n T p 106
  · have e : kd n T p = 0 := by unfold kd; rw [if_pos c0]
    revert hne
    refine kw_all (P := fun k w => k ≠ kd n T p → cs n T w p ≤ cs n T (kw (kd n T p)) p ∧ cs n T w p < w.length) k hk ?_ ?_ ?_ ?_ ?_ ?_ ?_ ?_ ?_ <;> intro hne
    · exact absurd e.symm hne
    all_goals exact z0 (at_u c0 (by decide))
  by_cases c1 : isAt n T p 115
  · by_cases c2 : isAt n T (p + 1) 104
    · have e : kd n T p = 3 := by unfold kd; rw [if_neg c0, if_pos c1, if_pos c2]
      revert hne
      refine kw_all (P := fun k w => k ≠ kd n T p → cs n T w p ≤ cs n T (kw (kd n T p)) p ∧ cs n T w p < w.length) k hk ?_ ?_ ?_ ?_ ?_ ?_ ?_ ?_ ?_ <;> intro hne
      · exact z0 c0
      · rw [cs_1 c1, cs_0 (at_u c2 (by decide)), e]
        refine ⟨?_, by decide⟩
        show 1 + 0 ≤ cs n T [115, 104, 101, 108, 102] p
        rw [cs_1 c1]; omega
      · exact z0 (at_u c1 (by decide))
      · exact absurd e.symm hne
      all_goals exact z0 (at_u c1 (by decide))
    · have e : kd n T p = 1 := by unfold kd; rw [if_neg c0, if_pos c1, if_neg c2]
      revert hne
      refine kw_all (P := fun k w => k ≠ kd n T p → cs n T w p ≤ cs n T (kw (kd n T p)) p ∧ cs n T w p < w.length) k hk ?_ ?_ ?_ ?_ ?_ ?_ ?_ ?_ ?_ <;> intro hne
      · exact z0 c0
      · exact absurd e.symm hne
      · exact z0 (at_u c1 (by decide))
      · rw [cs_1 c1, cs_0 c2, e]
        refine ⟨?_, by decide⟩
        show 1 + 0 ≤ cs n T [115, 97, 121, 32] p
        rw [cs_1 c1]; omega
      all_goals exact z0 (at_u c1 (by decide))
  by_cases c3 : isAt n T p 100
  · by_cases c2 : isAt n T (p + 1) 101
    · have e : kd n T p = 7 := by unfold kd; rw [if_neg c0, if_neg c1, if_pos c3, if_pos c2]
      revert hne
      refine kw_all (P := fun k w => k ≠ kd n T p → cs n T w p ≤ cs n T (kw (kd n T p)) p ∧ cs n T w p < w.length) k hk ?_ ?_ ?_ ?_ ?_ ?_ ?_ ?_ ?_ <;> intro hne
      · exact z0 c0
      · exact z0 c1
      · rw [cs_1 c3, cs_0 (at_u c2 (by decide)), e]
        refine ⟨?_, by decide⟩
        show 1 + 0 ≤ cs n T [100, 101, 97, 102] p
        rw [cs_1 c3]; omega
      · exact z0 c1
      · exact z0 (at_u c3 (by decide))
      · exact z0 (at_u c3 (by decide))
      · exact z0 (at_u c3 (by decide))
      · exact absurd e.symm hne
      · exact z0 (at_u c3 (by decide))
    · have e : kd n T p = 2 := by unfold kd; rw [if_neg c0, if_neg c1, if_pos c3, if_neg c2]
      revert hne
      refine kw_all (P := fun k w => k ≠ kd n T p → cs n T w p ≤ cs n T (kw (kd n T p)) p ∧ cs n T w p < w.length) k hk ?_ ?_ ?_ ?_ ?_ ?_ ?_ ?_ ?_ <;> intro hne
      · exact z0 c0
      · exact z0 c1
      · exact absurd e.symm hne
      · exact z0 c1
      · exact z0 (at_u c3 (by decide))
      · exact z0 (at_u c3 (by decide))
      · exact z0 (at_u c3 (by decide))
      · rw [cs_1 c3, cs_0 c2, e]
        refine ⟨?_, by decide⟩
        show 1 + 0 ≤ cs n T [100, 114, 111, 112, 32] p
        rw [cs_1 c3]; omega
      · exact z0 (at_u c3 (by decide))
  by_cases c4 : isAt n T p 104
  · have e : kd n T p = 4 := by unfold kd; rw [if_neg c0, if_neg c1, if_neg c3, if_pos c4]
    revert hne
    refine kw_all (P := fun k w => k ≠ kd n T p → cs n T w p ≤ cs n T (kw (kd n T p)) p ∧ cs n T w p < w.length) k hk ?_ ?_ ?_ ?_ ?_ ?_ ?_ ?_ ?_ <;> intro hne
    · exact z0 c0
    · exact z0 c1
    · exact z0 c3
    · exact z0 c1
    · exact absurd e.symm hne
    all_goals exact z0 (at_u c4 (by decide))
  by_cases c5 : isAt n T p 119
  · have e : kd n T p = 5 := by unfold kd; rw [if_neg c0, if_neg c1, if_neg c3, if_neg c4, if_pos c5]
    revert hne
    refine kw_all (P := fun k w => k ≠ kd n T p → cs n T w p ≤ cs n T (kw (kd n T p)) p ∧ cs n T w p < w.length) k hk ?_ ?_ ?_ ?_ ?_ ?_ ?_ ?_ ?_ <;> intro hne
    · exact z0 c0
    · exact z0 c1
    · exact z0 c3
    · exact z0 c1
    · exact z0 c4
    · exact absurd e.symm hne
    all_goals exact z0 (at_u c5 (by decide))
  by_cases c6 : isAt n T p 108
  · have e : kd n T p = 6 := by unfold kd; rw [if_neg c0, if_neg c1, if_neg c3, if_neg c4, if_neg c5, if_pos c6]
    revert hne
    refine kw_all (P := fun k w => k ≠ kd n T p → cs n T w p ≤ cs n T (kw (kd n T p)) p ∧ cs n T w p < w.length) k hk ?_ ?_ ?_ ?_ ?_ ?_ ?_ ?_ ?_ <;> intro hne
    · exact z0 c0
    · exact z0 c1
    · exact z0 c3
    · exact z0 c1
    · exact z0 c4
    · exact z0 c5
    · exact absurd e.symm hne
    all_goals exact z0 (at_u c6 (by decide))
  · have e : kd n T p = 8 := by unfold kd; rw [if_neg c0, if_neg c1, if_neg c3, if_neg c4, if_neg c5, if_neg c6]
    revert hne
    refine kw_all (P := fun k w => k ≠ kd n T p → cs n T w p ≤ cs n T (kw (kd n T p)) p ∧ cs n T w p < w.length) k hk ?_ ?_ ?_ ?_ ?_ ?_ ?_ ?_ ?_ <;> intro hne
    · exact z0 c0
    · exact z0 c1
    · exact z0 c3
    · exact z0 c1
    · exact z0 c4
    · exact z0 c5
    · exact z0 c6
    · exact z0 c3
    · exact absurd e.symm hne
/-- a command that stands at p: its signs -/
def fu (k : Nat) : List It := (kw k).map iSg ++ its k
theorem fu_len (k : Nat) (hk : k < 9) : 6 ≤ (fu k).length := by
  match k, hk with
  | 0, _ => decide
  | 1, _ => decide
  | 2, _ => decide
  | 3, _ => decide
  | 4, _ => decide
  | 5, _ => decide
  | 6, _ => decide
  | 7, _ => decide
  | 8, _ => decide
/-- where the j-th command begins -/
def sp (n : Nat) (T : Nat → Int32) : Nat → Nat
  | 0 => 0
  | j + 1 => (run n T (fu (kd n T (sp n T j))) (sp n T j)).1 + 1
/-- the reading from the m-th command on, d more at most: where it ends, well or not, how many commands -/
def par (n : Nat) (T : Nat → Int32) : Nat → Nat → Nat × Bool × Nat
  | 0, m => (sp n T m, false, m)
  | d + 1, m =>
    let r := run n T (fu (kd n T (sp n T m))) (sp n T m)
    if r.2 = true then (if n ≤ r.1 then (r.1, true, m + 1) else if isAt n T r.1 59 then par n T d (m + 1) else (r.1, false, m + 1)) else (r.1, false, m)
end PAR
