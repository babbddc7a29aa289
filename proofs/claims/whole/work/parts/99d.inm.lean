/-! ===== a new model ===== -/
section INM
variable {G : GG} {σ : Mm} {K : RES → Mm → Prop} {m : Nat}
/-- one array more: what the steps nw, sr do to the row m and the cells made since -/
def AQi (σ0 σ : Mm) (m k : Nat) (f : Nat → Int32) (g : Nat → Option Nat) (ts : List (Nat × Nat)) : Prop :=
  XR σ0 σ m f g ∧ mz σ = m + 1 + k ∧ ts.length = k ∧ (∀ i, i < k → mi σ (m + 1 + i) = zf ∧ mt σ (m + 1 + i) = ts.getD i (0, 0)) ∧ Na σ0 σ m
theorem AQi.step {σ0 : Mm} {f : Nat → Int32} {g : Nat → Option Nat} {ts : List (Nat × Nat)} {k c : Nat} {t : Nat × Nat} (h : AQi σ0 σ m k f g ts) :
    AQi σ0 (sr (nw σ t) m c (some (mz σ))) m (k + 1) f (updR g c (some (m + 1 + k))) (ts ++ [t]) := by
  obtain ⟨h1, h2, h3, h4, h5⟩ := h
  refine ⟨?_, by show mz σ + 1 = _; omega, by rw [List.length_append, h3]; rfl, fun i hi => ?_, h5.trans ((Na.nw (by omega)).trans (Na.sr (Nat.le_refl _)))⟩
  · rw [h2]; exact (h1.nw (by omega)).sr
  · show mi (nw σ t) (m + 1 + i) = zf ∧ mt (nw σ t) (m + 1 + i) = _
    by_cases e : i = k
    · subst e
      rw [← h2]
      refine ⟨nw_is, ?_⟩
      rw [nw_ts, List.getD_eq_getElem?_getD, List.getElem?_append_right (by omega), h3, Nat.sub_self]; rfl
    · rw [nw_i (by omega), nw_t (by omega), List.getD_eq_getElem?_getD, List.getElem?_append_left (by omega), ← List.getD_eq_getElem?_getD]
      exact h4 i (by omega)
theorem AQi.si {σ0 : Mm} {f : Nat → Int32} {g : Nat → Option Nat} {ts : List (Nat × Nat)} {k c : Nat} {z : Int32} (h : AQi σ0 σ m k f g ts) :
    AQi σ0 (si σ m c z) m k (upd f c z) g ts := by
  obtain ⟨h1, h2, h3, h4, h5⟩ := h
  refine ⟨h1.si, h2, h3, fun i hi => ⟨?_, (h4 i hi).2⟩, h5.trans (Na.si (Nat.le_refl _))⟩
  funext j
  have : mi (_root_.Jvm.Pilot.CEchoPantryLaw_law_r3023_ee65ee.si σ m c z) (m + 1 + i) j = mi σ (m + 1 + i) j := u2_a (by omega)
  rw [this, (h4 i hi).1]
theorem AQi.tx {σ0 : Mm} {f : Nat → Int32} {g : Nat → Option Nat} {ts : List (Nat × Nat)} {k : Nat} (h : AQi σ0 σ m k f g ts) (ht : (mt σ0 m).1 = 10) : (mt σ m).1 = 10 := by rw [h.1.1]; exact ht
theorem m_init (gk : GOK G) (ht : (mt σ m).1 = 10) (hz : mi σ m = zf) (hm : mz σ = m + 1) (hK : ∀ σ', MIV σ' m A0 → Na σ σ' m → mz σ' = m + 8 → K (.inl none) σ') : Runs G mX9_init rX9_init [vR (some m)] σ K := by
  have r0 : AQi σ σ m 0 zf (mr σ m) [] := ⟨⟨rfl, hz, rfl⟩, hm, rfl, fun i hi => absurd hi (Nat.not_lt_zero _), Na.refl⟩
  refine eX9_init gk ⟨m, rfl, fun s1 e1 => ⟨by rw [e1, nw_t (by omega)]; exact ht, fun s2 e2 => ?_⟩⟩
  have r1 := e2 ▸ e1 ▸ r0.step (c := 0) (t := (50, 858))
  refine fun s3 e3 => ⟨by rw [e3, nw_t (by have := r1.2.1; omega)]; exact r1.tx ht, fun s4 e4 => ?_⟩
  have r2 := e4 ▸ e3 ▸ r1.step (c := 1) (t := (50, 858))
  refine fun s5 e5 => ⟨by rw [e5, nw_t (by have := r2.2.1; omega)]; exact r2.tx ht, fun s6 e6 => ?_⟩
  have r3 := e6 ▸ e5 ▸ r2.step (c := 2) (t := (50, 858))
  refine fun s7 e7 => ⟨by rw [e7, nw_t (by have := r3.2.1; omega)]; exact r3.tx ht, fun s8 e8 => ?_⟩
  have r4 := e8 ▸ e7 ▸ r3.step (c := 4) (t := (50, 6864))
  refine fun s9 e9 => ⟨by rw [e9, nw_t (by have := r4.2.1; omega)]; exact r4.tx ht, fun s10 e10 => ?_⟩
  have r5 := e10 ▸ e9 ▸ r4.step (c := 7) (t := (53, 60))
  refine fun s11 e11 => ⟨by rw [e11, nw_t (by have := r5.2.1; omega)]; exact r5.tx ht, fun s12 e12 => ?_⟩
  have r6 := e12 ▸ e11 ▸ r5.step (c := 9) (t := (53, 60))
  refine fun s13 e13 s14 e14 => ?_
  have r7 := e14 ▸ (e13 ▸ r6.si (c := 13) (z := -1)).si (c := 14) (z := -1)
  refine fun s15 e15 => ⟨by rw [e15, nw_t (by have := r7.2.1; omega)]; exact r7.tx ht, fun s16 e16 => ?_⟩
  have r8 := e16 ▸ e15 ▸ r7.step (c := 15) (t := (50, 240))
  obtain ⟨⟨q1, q2, q3⟩, q4, q5, q6, q7⟩ := r8
  have g0 := q6 0 (by omega)
  have g1 := q6 1 (by omega)
  have g2 := q6 2 (by omega)
  have g3 := q6 3 (by omega)
  have g4 := q6 4 (by omega)
  have g5 := q6 5 (by omega)
  have g6 := q6 6 (by omega)
  refine hK s16 ⟨⟨by rw [q1]; exact ht, ⟨by rw [q3]; rfl, g0.2⟩, ⟨by rw [q3]; rfl, g1.2⟩, ⟨by rw [q3]; rfl, g2.2⟩, ?_⟩, g0.1, ⟨Nat.zero_le _, by rw [q2]; rfl, fun i k hi => absurd hi (Nat.not_lt_zero _)⟩, ⟨by rw [q2]; rfl, Or.inl rfl, fun k _ => by rw [show m + 3 = m + 1 + 2 from rfl, g2.1]; rfl⟩, ⟨by rw [q2]; rfl, by rw [q2]; rfl⟩, ⟨by rw [q2]; rfl, Nat.zero_le _, fun i hi => absurd hi (Nat.not_lt_zero _)⟩, ⟨by rw [q2]; rfl, Nat.zero_le _, fun i hi => absurd hi (Nat.not_lt_zero _)⟩⟩ q7 q4
  exact ⟨⟨by rw [q3]; rfl, g3.2⟩, ⟨by rw [q3]; rfl, g4.2⟩, ⟨by rw [q3]; rfl, g5.2⟩, by rw [q3]; rfl, g6.2⟩
end INM
