/-! ===== the class: the row of warmings, sorted ===== -/
theorem isR_app {lt : Nat → Nat → Prop} : ∀ R1 pre R2 : List Nat, isR lt pre (R1 ++ R2) = isR lt (isR lt pre R1) R2
  | [], pre, R2 => rfl
  | x :: R1, pre, R2 => by
    show isR lt (bubR lt pre.reverse x) (R1 ++ R2) = isR lt (isR lt (bubR lt pre.reverse x) R1) R2
    exact isR_app R1 _ R2
theorem bubR_gap {lt : Nat → Nat → Prop} {x : Nat} {B : List Nat} (hB : ∀ y, y ∈ B → ¬ lt x y) : ∀ E : List Nat, (∀ y, y ∈ E → lt x y) → bubR lt (E ++ B) x = B.reverse ++ x :: E.reverse
  | [], _ => by
    cases B with
    | nil => rfl
    | cons y B =>
      show bubR lt (y :: B) x = _
      rw [bubR_f (hB y (List.mem_cons_self ..))]
      simp
  | e :: E, h => by
    show bubR lt (e :: (E ++ B)) x = _
    rw [bubR_t (h e (List.mem_cons_self ..)), bubR_gap hB E fun y hy => h y (List.mem_cons_of_mem _ hy)]
    simp
theorem isR_gap {lt : Nat → Nat → Prop} {E : List Nat} : ∀ B A : List Nat, srtd lt (A ++ B) → (∀ b, b ∈ B → ∀ y, y ∈ E → lt b y) → isR lt (A ++ E) B = A ++ (B ++ E)
  | [], A, _, _ => rfl
  | b :: B, A, hs, h => by
    have h1 : bubR lt (A ++ E).reverse b = A ++ b :: E := by
      have hb : ∀ y, y ∈ A.reverse → ¬ lt b y := fun y hy => (List.pairwise_append.mp hs).2.2 y (by simpa using hy) b (List.mem_cons_self ..)
      have := bubR_gap (lt := lt) (x := b) (B := A.reverse) hb E.reverse fun y hy => h b (List.mem_cons_self ..) y (by simpa using hy)
      rw [List.reverse_append]
      simpa using this
    show isR lt (bubR lt (A ++ E).reverse b) B = _
    rw [h1]
    have ih := isR_gap (lt := lt) (E := E) B (A ++ [b]) (by simpa using hs) fun c hc => h c (List.mem_cons_of_mem _ hc)
    simpa using ih
theorem isR_srt {lt : Nat → Nat → Prop} {A B : List Nat} (hs : srtd lt (A ++ B)) : isR lt A B = A ++ B := by
  have := isR_gap (lt := lt) (E := []) B A hs (fun b _ y hy => by cases hy)
  simpa using this
/-- the warming at a is ahead of that at b -/
def ltW (σ : Mm) (a b : Nat) : Prop := ¬ mi σ a 0 = 0 ∧ (mi σ b 0 = 0 ∨ mi σ a 1 < mi σ b 1)
theorem ltW_n {σ : Mm} {a b : Nat} (h : mi σ a 0 = 0) : ¬ ltW σ a b := fun z => z.1 h
theorem ltW_as {σ : Mm} {a b : Nat} (h : ltW σ a b) : ¬ ltW σ b a := fun q => by
  rcases h.2 with e | e
  · exact q.1 e
  · rcases q.2 with e2 | e2
    · exact h.1 e2
    · exact Int32.lt_irrefl (Int32.lt_trans e e2)
/-- gone rows go behind -/
theorem sort_gap {σ : Mm} {A E B F : List Nat} (hE : ∀ e, e ∈ E → mi σ e 0 = 0) (hF : ∀ e, e ∈ F → mi σ e 0 = 0) (hB : ∀ e, e ∈ B → ¬ mi σ e 0 = 0) (hs : srtd (ltW σ) (A ++ B)) : isR (ltW σ) [] (A ++ (E ++ (B ++ F))) = A ++ (B ++ (E ++ F)) := by
  have n1 : ∀ X Y : List Nat, (∀ e, e ∈ Y → mi σ e 0 = 0) → srtd (ltW σ) X → srtd (ltW σ) (X ++ Y) := fun X Y hY hX =>
    List.pairwise_append.mpr ⟨hX, List.pairwise_of_forall_mem_list fun a _ b hb => ltW_n (hY b hb), fun a _ b hb => ltW_n (hY b hb)⟩
  have hA : srtd (ltW σ) A := (List.pairwise_append.mp hs).1
  rw [isR_app, isR_app, isR_app]
  rw [isR_srt (A := []) (B := A) (by simpa using hA), List.nil_append, isR_srt (n1 A E hE hA), isR_gap B A hs (fun b hb y hy => ⟨hB b hb, Or.inl (hE y hy)⟩)]
  rw [isR_srt]
  · simp
  · refine n1 _ F hF ?_
    have := n1 (A ++ B) E hE hs
    simpa using this
/-- a new row goes ahead of the later ones -/
theorem sort_put {σ : Mm} {A1 A2 F : List Nat} {e : Nat} (hF : ∀ e, e ∈ F → mi σ e 0 = 0) (hs : srtd (ltW σ) (A1 ++ A2)) (h1 : ∀ y, y ∈ A1 → ¬ ltW σ e y) (h2 : ∀ y, y ∈ A2 → ltW σ e y) : isR (ltW σ) [] (A1 ++ (A2 ++ (e :: F))) = A1 ++ (e :: (A2 ++ F)) := by
  obtain ⟨p1, p2, p3⟩ := List.pairwise_append.mp hs
  have c1 : srtd (ltW σ) (A1 ++ [e]) := List.pairwise_append.mpr ⟨p1, List.pairwise_singleton _ _, fun a ha b hb => by
    obtain rfl : b = e := by simpa using hb
    exact h1 a ha⟩
  rw [show A1 ++ (A2 ++ (e :: F)) = (A1 ++ A2) ++ ([e] ++ F) by simp, isR_app, isR_app]
  rw [isR_srt (A := []) (B := A1 ++ A2) (by simpa using hs), List.nil_append, isR_gap [e] A1 c1 (fun b hb y hy => by
    obtain rfl : b = e := by simpa using hb
    exact h2 y hy)]
  rw [isR_srt]
  · simp
  · refine List.pairwise_append.mpr ⟨?_, List.pairwise_of_forall_mem_list fun a _ b hb => ltW_n (hF b hb), fun a _ b hb => ltW_n (hF b hb)⟩
    refine List.pairwise_append.mpr ⟨p1, List.pairwise_append.mpr ⟨List.pairwise_singleton _ _, p2, fun a ha b hb => ?_⟩, fun a ha b hb => ?_⟩
    · obtain rfl : a = e := by simpa using ha
      exact ltW_as (h2 b hb)
    · rcases List.mem_append.mp hb with q | q
      · obtain rfl : b = e := by simpa using q
        exact h1 a ha
      · exact p3 a ha b q
section SW
variable {G : GG} {σ : Mm} {K : RES → Mm → Prop} {st : Nat}
theorem kX7_isBefore (gk : GOK G) {a b : Nat} (ha : (mt σ a).1 = 8) (hb : (mt σ b).1 = 8) (hk : K (.inl (some (vI (bP (ltW σ a b))))) σ) : Runs G mX7_isBefore rX7_isBefore [vR (some a), vR (some b)] σ K := by
  refine eX7_isBefore gk ⟨_, rfl, ha, fun q => ?_, fun q => ⟨_, rfl, hb, fun q2 => ?_, fun q2 => ⟨fun q3 => ?_, fun q3 => ?_⟩⟩⟩
  · rw [bP_f (fun z => z.1 q)] at hk; exact hk
  · rw [bP_t ⟨q, Or.inl q2⟩] at hk; exact hk
  · rw [bP_f (fun z => z.2.elim q2 (fun z2 => Int32.not_lt.mpr q3 z2))] at hk; exact hk
  · rw [bP_t ⟨q, Or.inr (Int32.not_le.mp q3)⟩] at hk; exact hk
/-- the row of warmings at st + 3 -/
def waS (σ : Mm) (st : Nat) (L : List Nat) : Prop := (mt σ st).1 = 7 ∧ mr σ st 2 = some (st + 3) ∧ mt σ (st + 3) = (57, 8) ∧ L.length = 8 ∧ (∀ i e, L[i]? = some e → mr σ (st + 3) i = some e) ∧ ∀ e, e ∈ L → (mt σ e).1 = 8
theorem kX6_sortWarmings_13 (gk : GOK G) (ht : (mt σ st).1 = 7) (hr : mr σ st 2 = some (st + 3)) (ht2 : mt σ (st + 3) = (57, 8)) {en : Int32} {B : List Nat} {x : Nat} (hx : (mt σ x).1 = 8) : ∀ A : List Nat, A.length + B.length + 1 = 8 → (∀ e, e ∈ A → (mt σ e).1 = 8) → At G mX6_sortWarmings rX6_sortWarmings 0 0 2 [some (vR (some st)), some (vI (en + 1)), none, none, none] [] (sO σ (st + 3) (bubR (ltW σ) A x ++ B)) K → At G mX6_sortWarmings rX6_sortWarmings 0 0 13 [some (vR (some st)), some (vI en), some (vI (nI A.length)), none, none] [] (sO σ (st + 3) (A.reverse ++ x :: B)) K
  | [], _, _, hk => vX6_sortWarmings_13 gk ⟨fun _ => hk, fun q => absurd (by decide) q⟩
  | y :: A, hl, hA, hk => by
    have hl' : A.length + 1 + B.length + 1 = 8 := hl
    have e1 : nI (A.length + 1) - 1 = nI A.length := nI_pred _
    have ew : (y :: A).reverse ++ x :: B = A.reverse ++ y :: x :: B := by simp
    have er : ∀ L, mr (sO σ (st + 3) L) st 2 = some (st + 3) := fun L => by rw [sO_n (by omega)]; exact hr
    have ey : mr (sO σ (st + 3) (A.reverse ++ y :: x :: B)) (st + 3) A.length = some y := sO_at (by have := l_at0 (A := A.reverse) (x := y) (B := x :: B); simpa using this)
    have ex : mr (sO σ (st + 3) (A.reverse ++ y :: x :: B)) (st + 3) (A.length + 1) = some x := sO_at (by have := l_at1 (A := A.reverse) (x := x) (y := y) (B := B); simpa using this)
    have esw : sr (sr (sO σ (st + 3) (A.reverse ++ y :: x :: B)) (st + 3) (A.length + 1) (some y)) (st + 3) A.length (some x) = sO σ (st + 3) (A.reverse ++ x :: y :: B) := by
      have := sO_swap (σ := σ) (o := st + 3) (x := x) (y := y) (A := A.reverse) (B := B)
      simpa using this
    have hstop : ¬ ltW σ x y → At G mX6_sortWarmings rX6_sortWarmings 0 0 2 [some (vR (some st)), some (vI (en + 1)), none, none, none] [] (sO σ (st + 3) (A.reverse ++ y :: x :: B)) K := fun q => by
      rw [bubR_f q] at hk
      simpa using hk
    have hgo : ltW σ x y → At G mX6_sortWarmings rX6_sortWarmings 0 0 13 [some (vR (some st)), some (vI en), some (vI (nI A.length)), none, none] [] (sO σ (st + 3) (A.reverse ++ x :: y :: B)) K := fun q => by
      rw [bubR_t q] at hk
      refine kX6_sortWarmings_13 gk ht hr ht2 hx A ?_ (fun e he => hA e (List.mem_cons_of_mem _ he)) ?_
      · simp; omega
      · simpa using hk
    have hy := hA y (List.mem_cons_self ..)
    rw [ew]
    have v1 : vp_in (nI (A.length + 1)) 8 := vp_in_nI (by omega) (by omega)
    have v0 : vp_in (nI A.length) 8 := vp_in_nI (by omega) (by omega)
    refine vX6_sortWarmings_13 gk ⟨fun q => absurd q (nI_nle (by simp) (by simp; omega)), fun _ => ?_⟩
    show ∃ a2, some st = some a2 ∧ _
    simp only [List.length_cons, e1]
    refine ⟨st, rfl, ht, st + 3, er _, 8, ht2, v1, v0, ?_⟩
    rw [nI_clamp (by omega), nI_clamp (by omega), ex, ey]
    refine ⟨x, rfl, hx, kX7_isBefore gk (σ := sO σ (st + 3) (A.reverse ++ y :: x :: B)) hx hy (vX6_sortWarmings_40 gk ⟨fun q3 => ⟨st, rfl, ht, st + 3, er _, 8, ht2, v1, y, rfl, hy, fun σ1 es => ⟨st + 3, ?_, 8, ?_, by rw [e1]; exact v0, x, rfl, ?_, fun σ2 es2 => ?_⟩⟩, fun q3 => hstop (bP_0.mp q3)⟩)⟩
    · rw [es]; exact (u2_a (by omega)).trans (er _)
    · exact ht2
    · exact hx
    · rw [es2, es, pk_m1, e1, nI_clamp (by omega), nI_clamp (by omega), esw]
      exact hgo (bP_n q3)
theorem kX6_sortWarmings_2 (gk : GOK G) (ht : (mt σ st).1 = 7) (hr : mr σ st 2 = some (st + 3)) (ht2 : mt σ (st + 3) = (57, 8)) : ∀ R pre : List Nat, pre.length + R.length = 8 → (∀ e, e ∈ pre → (mt σ e).1 = 8) → (∀ e, e ∈ R → (mt σ e).1 = 8) → K (.inl none) (sO σ (st + 3) (isR (ltW σ) pre R)) → At G mX6_sortWarmings rX6_sortWarmings 0 0 2 [some (vR (some st)), some (vI (nI pre.length)), none, none, none] [] (sO σ (st + 3) (pre ++ R)) K
  | [], pre, hl, hp, hR, hk => by
    have hl : pre.length = 8 := by simpa using hl
    rw [List.append_nil]
    refine vX6_sortWarmings_2 gk ⟨st, rfl, ht, st + 3, ?_, 8, ht2, fun _ => hk, fun q => absurd (nI_le (by omega) (by omega)) q⟩
    rw [sO_n (by omega)]; exact hr
  | x :: R, pre, hl, hp, hR, hk => by
    have hl : pre.length + (R.length + 1) = 8 := by simpa using hl
    refine vX6_sortWarmings_2 gk ⟨st, rfl, ht, st + 3, ?_, 8, ht2, fun q => absurd q (nI_ge (by omega) (by omega)), fun _ => ?_⟩
    · rw [sO_n (by omega)]; exact hr
    · have := kX6_sortWarmings_13 gk (K := K) ht hr ht2 (en := nI pre.length) (B := R) (hR x (List.mem_cons_self ..)) pre.reverse (by simp; omega) (fun e he => hp e (by simpa using he)) ?_
      · simpa using this
      · have ih := kX6_sortWarmings_2 gk ht hr ht2 R (bubR (ltW σ) pre.reverse x) (by rw [bubR_len]; simp; omega) (fun e he => ?_) (fun e he => hR e (List.mem_cons_of_mem _ he)) hk
        · rw [nA1]
          have e9 : (bubR (ltW σ) pre.reverse x).length = pre.length + 1 := by rw [bubR_len]; simp
          rw [e9] at ih
          exact ih
        · rcases List.mem_cons.mp ((bubR_perm _).mem_iff.mp he) with e2 | e2
          · subst e2; exact hR _ (List.mem_cons_self ..)
          · exact hp e (by simpa using e2)
theorem kX6_sortWarmings (gk : GOK G) {L : List Nat} (hS : waS σ st L) (hk : K (.inl none) (sO σ (st + 3) (isR (ltW σ) [] L))) : Runs G mX6_sortWarmings rX6_sortWarmings [vR (some st)] σ K := by
  obtain ⟨ht, hr, ht2, hl, hL, h3⟩ := hS
  cases L with
  | nil => simp at hl
  | cons x R =>
    have := kX6_sortWarmings_2 gk (K := K) ht hr ht2 R [x] (by simpa [Nat.add_comm] using hl) (fun e he => h3 e (by simp at he; simp [he])) (fun e he => h3 e (List.mem_cons_of_mem _ he)) hk
    rw [show [x] ++ R = x :: R from rfl, sO_id hL] at this
    exact eX6_sortWarmings gk this
end SW
