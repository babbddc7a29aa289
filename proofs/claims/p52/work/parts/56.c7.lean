/-! ===== the class: a shelf's echoes against the model's places ===== -/
theorem bfR_as {p : Int32} {a b : Nat → Int32} (h : bfR p a b) : ¬ bfR p b a := by
  unfold bfR at *
  have e1 : (114 : Int32).toInt = 114 := rfl
  have e2 : (108 : Int32).toInt = 108 := rfl
  simp only [Int32.lt_iff_toInt_lt, ← Int32.toInt_inj, e1, e2] at *
  omega
theorem bfR_nt {p : Int32} {a b c : Nat → Int32} (h : ¬ bfR p a b) (h2 : ¬ bfR p b c) : ¬ bfR p a c := by
  unfold bfR at *
  have e1 : (114 : Int32).toInt = 114 := rfl
  have e2 : (108 : Int32).toInt = 108 := rfl
  simp only [Int32.lt_iff_toInt_lt, ← Int32.toInt_inj, e1, e2] at *
  omega
theorem bfR_cg {p : Int32} {a b a' b' : Nat → Int32} (h4 : a 4 = a' 4) (h5 : a 5 = a' 5) (h6 : a 6 = a' 6) (k4 : b 4 = b' 4) (k5 : b 5 = b' 5) (k6 : b 6 = b' 6) : bfR p a b ↔ bfR p a' b' := by
  unfold bfR
  rw [h4, h5, h6, k4, k5, k6]
/-- the model's echo as a row -/
def pr (P : Nat → Int32) (k l : Nat) : Nat → Int32 := fun i => P (eX k l + (i - 1))
/-- a list of addresses against the places of the shelf k -/
def EA (σ : Mm) (J : Nat → Nat → Int32) (P : Nat → Int32) (k : Nat) (p : Int32) (L : List Nat) : Prop :=
  L.length = 6 ∧ (∀ e, e ∈ L → isZ (mi σ e 0) ∧ isZ (mi σ e 8) ∧ isC (mi σ e 1)) ∧ (∀ e, e ∈ L → mi σ e 0 = 1 → ∃ l, l < 26 ∧ mi σ e 1 = nI (97 + l) ∧ eV J P k l (mi σ e)) ∧
  (∀ l, l < 26 → P (eX k l) = 1 → ∃ e, e ∈ L ∧ mi σ e 0 = 1 ∧ mi σ e 1 = nI (97 + l)) ∧ L.Pairwise (fun e f => mi σ e 0 = 1 → mi σ f 0 = 1 → mi σ e 1 ≠ mi σ f 1) ∧ srtd (ltE σ p) L
theorem EA_iff {σ : Mm} {J : Nat → Nat → Int32} {P : Nat → Int32} {k : Nat} {p : Int32} {L : List Nat} : EV J P k p (vE σ L) ↔ EA σ J P k p L := by
  unfold EV EA vE srR srtd
  rw [List.length_map, List.pairwise_map, List.pairwise_map]
  constructor
  · rintro ⟨h1, h2, h3, h4, h5, h6⟩
    refine ⟨h1, fun e he => h2 (nr 9 (mi σ e)) (List.mem_map_of_mem (f := fun e => nr 9 (mi σ e)) he), fun e he h0 => ?_, fun l hl hp => ?_, h5, h6⟩
    · obtain ⟨l, hl, q, h9⟩ := h3 (nr 9 (mi σ e)) (List.mem_map_of_mem (f := fun e => nr 9 (mi σ e)) he) h0
      exact ⟨l, hl, q, h9⟩
    · obtain ⟨r, hr, h0, q⟩ := h4 l hl hp
      obtain ⟨e, he, rfl⟩ := List.mem_map.mp hr
      exact ⟨e, he, h0, q⟩
  · rintro ⟨h1, h2, h3, h4, h5, h6⟩
    refine ⟨h1, fun r hr => ?_, fun r hr h0 => ?_, fun l hl hp => ?_, h5, h6⟩
    · obtain ⟨e, he, rfl⟩ := List.mem_map.mp hr
      exact h2 e he
    · obtain ⟨e, he, rfl⟩ := List.mem_map.mp hr
      obtain ⟨l, hl, q, h9⟩ := h3 e he h0
      exact ⟨l, hl, q, h9⟩
    · obtain ⟨e, he, h0, q⟩ := h4 l hl hp
      exact ⟨_, List.mem_map_of_mem he, h0, q⟩
theorem pw_mem {α : Type} {R : α → α → Prop} {L : List α} (h : L.Pairwise R) (hs : ∀ a b, R a b → R b a) {a b : α} (ha : a ∈ L) (hb : b ∈ L) (hne : a ≠ b) : R a b := by
  induction h with
  | nil => cases ha
  | cons h1 _ ih =>
    rcases List.mem_cons.mp ha with e | e
    · rcases List.mem_cons.mp hb with f | f
      · exact absurd (e.trans f.symm) hne
      · subst e; exact h1 b f
    · rcases List.mem_cons.mp hb with f | f
      · subst f; exact hs _ _ (h1 a e)
      · exact ih e f
section SK
variable {G : GG} {σ : Mm} {J : Nat → Nat → Int32} {P : Nat → Int32} {k : Nat} {p : Int32} {L : List Nat}
theorem EA.one (h : EA σ J P k p L) {e : Nat} (he : e ∈ L) : ¬ mi σ e 0 = 0 ↔ mi σ e 0 = 1 := isZ01 (h.2.1 e he).1
theorem EA.uniq (h : EA σ J P k p L) {e f : Nat} (he : e ∈ L) (hf : f ∈ L) (e0 : mi σ e 0 = 1) (f0 : mi σ f 0 = 1) (q : mi σ e 1 = mi σ f 1) : e = f := by
  by_cases z : e = f
  · exact z
  · exact absurd q (pw_mem h.2.2.2.2.1 (fun a b r hb ha q => r ha hb q.symm) he hf z e0 f0)
theorem EA.find0 (h : EA σ J P k p L) {x : Int32} (hx : ¬ ecP P k x) : fndE σ L x = none := by
  refine List.find?_eq_none.mpr fun e he => ?_
  unfold isEc
  simp only [decide_eq_true_eq]
  rintro ⟨q1, q2⟩
  obtain ⟨l, hl, q, h9⟩ := h.2.2.1 e he ((h.one he).mp q1)
  exact hx ⟨l, hl, q2.symm.trans q, h9.1⟩
theorem EA.find1 (h : EA σ J P k p L) {l : Nat} (hl : l < 26) (hp : P (eX k l) = 1) : ∃ e, fndE σ L (nI (97 + l)) = some e ∧ e ∈ L ∧ mi σ e 0 = 1 ∧ mi σ e 1 = nI (97 + l) ∧ eV J P k l (mi σ e) := by
  obtain ⟨e, he, h0, q⟩ := h.2.2.2.1 l hl hp
  cases hf : fndE σ L (nI (97 + l)) with
  | none => exact absurd ⟨(h.one he).mpr h0, q⟩ (fndE_none hf he)
  | some f =>
    obtain ⟨q1, q2, q3⟩ := fndE_some hf
    have := h.uniq q1 he ((h.one q1).mp q2) h0 (q3.trans q.symm)
    subst this
    obtain ⟨l', hl', q', h9⟩ := h.2.2.1 f q1 h0
    have := nIl_inj hl hl' (q.symm.trans q')
    subst this
    exact ⟨f, rfl, q1, h0, q, h9⟩
def lIx (σ : Mm) (e : Nat) : Nat := (mi σ e 1).toNatClampNeg - 97
theorem lIx_l {e l : Nat} (hl : l < 26) (h : mi σ e 1 = nI (97 + l)) : lIx σ e = l := by
  unfold lIx
  rw [h, nI_clamp (by omega)]
  omega
/-- the letters of the echoes there, both ways -/
theorem EA.perm (h : EA σ J P k p L) (hnd : L.Nodup) : ((L.filter (isE σ)).map (lIx σ)).Perm ((List.range 26).filter fun l => decide (P (eX k l) = 1)) := by
  refine (List.perm_ext_iff_of_nodup ?_ (List.nodup_range.sublist List.filter_sublist)).mpr fun l => ?_
  · unfold List.Nodup
    rw [List.pairwise_map]
    have h1 : (L.filter (isE σ)).Pairwise (fun e f => e ≠ f) := hnd.sublist List.filter_sublist
    refine h1.imp_of_mem fun {e f} he hf hne q => hne ?_
    obtain ⟨he1, he2⟩ := List.mem_filter.mp he
    obtain ⟨hf1, hf2⟩ := List.mem_filter.mp hf
    have e0 := (h.one he1).mp (isE_t.mp he2)
    have f0 := (h.one hf1).mp (isE_t.mp hf2)
    obtain ⟨l, hl, q1, -⟩ := h.2.2.1 e he1 e0
    obtain ⟨l', hl', q2, -⟩ := h.2.2.1 f hf1 f0
    rw [lIx_l hl q1, lIx_l hl' q2] at q
    subst q
    exact h.uniq he1 hf1 e0 f0 (q1.trans q2.symm)
  · rw [List.mem_map, List.mem_filter, List.mem_range]
    constructor
    · rintro ⟨e, he, q⟩
      obtain ⟨he1, he2⟩ := List.mem_filter.mp he
      obtain ⟨l', hl', q1, h9⟩ := h.2.2.1 e he1 ((h.one he1).mp (isE_t.mp he2))
      rw [lIx_l hl' q1] at q
      subst q
      exact ⟨hl', by simpa using h9.1⟩
    · rintro ⟨hl, q⟩
      obtain ⟨e, he, h0, q1⟩ := h.2.2.2.1 l hl (by simpa using q)
      exact ⟨e, List.mem_filter.mpr ⟨he, isE_t.mpr ((h.one he).mpr h0)⟩, lIx_l hl q1⟩
theorem cnt_range {f : Nat → Int32} : ∀ n, cnt (fun l => f l = 1) n = (List.range n).countP fun l => decide (f l = 1)
  | 0 => rfl
  | n + 1 => by
    rw [List.range_succ, List.countP_append, ← cnt_range n]
    by_cases q : f n = 1
    · rw [cnt_t (p := fun l => f l = 1) q]; simp [q]
    · rw [cnt_f (p := fun l => f l = 1) q]; simp [q]
theorem EA.count (h : EA σ J P k p L) (hnd : L.Nodup) : L.countP (isE σ) = ecN P k := by
  have h1 := (h.perm hnd).length_eq
  rw [List.length_map, ← List.countP_eq_length_filter, ← List.countP_eq_length_filter] at h1
  unfold ecN
  rw [h1, cnt_range (f := fun l => P (eX k l))]
def smI (g : Nat → Int32) : List Nat → Int32
  | [] => 0
  | e :: L => g e + smI g L
theorem smI_perm {g : Nat → Int32} {A B : List Nat} (h : A.Perm B) : smI g A = smI g B := by
  induction h with
  | nil => rfl
  | cons x _ ih => rw [smI, smI, ih]
  | swap x y l => simp only [smI]; rw [← Int32.add_assoc, ← Int32.add_assoc, Int32.add_comm (g y)]
  | trans _ _ i1 i2 => exact i1.trans i2
theorem smI_map {g : Nat → Int32} {f : Nat → Nat} : ∀ L : List Nat, smI g (L.map f) = smI (fun e => g (f e)) L
  | [] => rfl
  | e :: L => by rw [List.map_cons, smI, smI, smI_map L]
theorem smI_cg {g g' : Nat → Int32} : ∀ L : List Nat, (∀ e, e ∈ L → g e = g' e) → smI g L = smI g' L
  | [], _ => rfl
  | e :: L, h => by rw [smI, smI, h e (List.mem_cons_self ..), smI_cg L fun x hx => h x (List.mem_cons_of_mem _ hx)]
theorem smI_app {g : Nat → Int32} {B : List Nat} : ∀ A : List Nat, smI g (A ++ B) = smI g A + smI g B
  | [] => by rw [List.nil_append, smI, Int32.zero_add]
  | e :: A => by rw [List.cons_append, smI, smI, smI_app A, Int32.add_assoc]
theorem ageL_sm {m : Int32} : ∀ L : List Nat, ageL σ m L = smI (fun e => m - mi σ e 3) (L.filter (isE σ))
  | [] => rfl
  | e :: L => by
    by_cases q : mi σ e 0 = 0
    · rw [ageL, if_pos q, List.filter_cons_of_neg (by rw [isE_f.mpr q]; decide), ageL_sm L]
    · rw [ageL, if_neg q, List.filter_cons_of_pos (isE_t.mpr q), smI, ageL_sm L]
theorem agL_sm {c : Int32} : ∀ n, agL P k c n = c + smI (fun l => P 2 - P (eX k l + 2)) ((List.range n).filter fun l => decide (P (eX k l) = 1))
  | 0 => by rw [agL]; exact (Int32.add_zero c).symm
  | n + 1 => by
    rw [agL, List.range_succ, List.filter_append, smI_app, ← Int32.add_assoc, ← agL_sm n]
    by_cases q : P (eX k n) = 1
    · rw [if_pos q]
      simp only [List.filter_cons, List.filter_nil, q, decide_true, if_true, smI, Int32.add_zero]
    · rw [if_neg q]
      simp only [List.filter_cons, List.filter_nil, q, decide_false, smI, Int32.add_zero, Bool.false_eq_true, if_false]
theorem EA.ages (h : EA σ J P k p L) (hnd : L.Nodup) {c : Int32} : c + ageL σ (P 2) L = agL P k c 26 := by
  rw [ageL_sm, agL_sm, ← smI_perm (h.perm hnd), smI_map]
  congr 1
  refine smI_cg _ fun e he => ?_
  obtain ⟨he1, he2⟩ := List.mem_filter.mp he
  obtain ⟨l, hl, q1, h9⟩ := h.2.2.1 e he1 ((h.one he1).mp (isE_t.mp he2))
  rw [lIx_l hl q1, h9.2.2.1]
/-- the scan comes to a row that none is ahead of -/
theorem scn_ok : ∀ (R : List Nat) (b : Option Nat), (∀ x, b = some x → ¬ mi σ x 0 = 0) → (match scnE σ p b R with
    | none => b = none ∧ ∀ e, e ∈ R → mi σ e 0 = 0
    | some y => ¬ mi σ y 0 = 0 ∧ (b = some y ∨ y ∈ R) ∧ (∀ x, b = some x → ¬ bfE σ p x y) ∧ ∀ e, e ∈ R → ¬ mi σ e 0 = 0 → ¬ bfE σ p e y)
  | [], none, _ => by simp [scnE]
  | [], some b, hb => by
    show _ ∧ _
    refine ⟨hb b rfl, Or.inl rfl, fun x hx => ?_, fun e he => by cases he⟩
    cases hx
    exact fun q => bfE_as q q
  | e :: R, none, hb => by
    by_cases q : mi σ e 0 = 0
    · have ih := scn_ok R none hb
      rw [show scnE σ p none (e :: R) = scnE σ p none R from by rw [scnE, if_pos q]]
      cases hv : scnE σ p none R with
      | none =>
        rw [hv] at ih
        exact ⟨rfl, fun x hx => (List.mem_cons.mp hx).elim (fun z => by rw [z]; exact q) (ih.2 x)⟩
      | some y =>
        rw [hv] at ih
        refine ⟨ih.1, Or.inr (List.mem_cons_of_mem _ (ih.2.1.elim (fun z => by cases z) id)), fun x hx => (by cases hx), fun x hx h0 => ?_⟩
        rcases List.mem_cons.mp hx with z | z
        · rw [z] at h0; exact absurd q h0
        · exact ih.2.2.2 x z h0
    · have ih := scn_ok R (some e) (fun x hx => by cases hx; exact q)
      rw [show scnE σ p none (e :: R) = scnE σ p (some e) R from by rw [scnE, if_neg q]]
      cases hv : scnE σ p (some e) R with
      | none => rw [hv] at ih; cases ih.1
      | some y =>
        rw [hv] at ih
        refine ⟨ih.1, Or.inr (ih.2.1.elim (fun z => by cases z; exact List.mem_cons_self ..) (List.mem_cons_of_mem _)), fun x hx => (by cases hx), fun x hx h0 => ?_⟩
        rcases List.mem_cons.mp hx with z | z
        · rw [z]; exact ih.2.2.1 e rfl
        · exact ih.2.2.2 x z h0
  | e :: R, some b, hb => by
    by_cases q : mi σ e 0 = 0
    · have ih := scn_ok R (some b) hb
      rw [show scnE σ p (some b) (e :: R) = scnE σ p (some b) R from by rw [scnE, if_pos q]]
      cases hv : scnE σ p (some b) R with
      | none => rw [hv] at ih; cases ih.1
      | some y =>
        rw [hv] at ih
        refine ⟨ih.1, ih.2.1.elim Or.inl (fun z => Or.inr (List.mem_cons_of_mem _ z)), ih.2.2.1, fun x hx h0 => ?_⟩
        rcases List.mem_cons.mp hx with z | z
        · rw [z] at h0; exact absurd q h0
        · exact ih.2.2.2 x z h0
    · by_cases q2 : bfE σ p e b
      · have ih := scn_ok R (some e) (fun x hx => by cases hx; exact q)
        rw [show scnE σ p (some b) (e :: R) = scnE σ p (some e) R from by simp only [scnE, q, q2, if_true, if_false]]
        cases hv : scnE σ p (some e) R with
        | none => rw [hv] at ih; cases ih.1
        | some y =>
          rw [hv] at ih
          refine ⟨ih.1, Or.inr (ih.2.1.elim (fun z => by cases z; exact List.mem_cons_self ..) (List.mem_cons_of_mem _)), fun x hx => ?_, fun x hx h0 => ?_⟩
          · cases hx
            exact bfE_nt (bfE_as q2) (ih.2.2.1 e rfl)
          · rcases List.mem_cons.mp hx with z | z
            · rw [z]; exact ih.2.2.1 e rfl
            · exact ih.2.2.2 x z h0
      · have ih := scn_ok R (some b) hb
        rw [show scnE σ p (some b) (e :: R) = scnE σ p (some b) R from by simp only [scnE, q, q2, if_false]]
        cases hv : scnE σ p (some b) R with
        | none => rw [hv] at ih; cases ih.1
        | some y =>
          rw [hv] at ih
          refine ⟨ih.1, ih.2.1.elim Or.inl (fun z => Or.inr (List.mem_cons_of_mem _ z)), ih.2.2.1, fun x hx h0 => ?_⟩
          rcases List.mem_cons.mp hx with z | z
          · rw [z]; exact bfE_nt q2 (ih.2.2.1 b rfl)
          · exact ih.2.2.2 x z h0
end SK
