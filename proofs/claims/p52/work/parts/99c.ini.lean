/-! ===== a new pantry ===== -/
def A0 : AS := (zf, (fun _ => zf), 0, 0, zf, -1, -1, 0, zf, 0, zf)
section INI
variable {G : GG} {σ : Mm} {K : RES → Mm → Prop} {x : Nat}
/-- the object's own row: its type, whole numbers, references -/
def XR (σ0 σ : Mm) (x : Nat) (f : Nat → Int32) (g : Nat → Option Nat) : Prop := mt σ x = mt σ0 x ∧ mi σ x = f ∧ mr σ x = g
def updR (g : Nat → Option Nat) (k : Nat) (r : Option Nat) : Nat → Option Nat := fun j => if j = k then r else g j
/-- cells from x + 1 up to lo are the same -/
def Ny (σ σ' : Mm) (x lo : Nat) : Prop := ∀ q, x < q → q < lo → mi σ' q = mi σ q ∧ mr σ' q = mr σ q ∧ mt σ' q = mt σ q
theorem Ny.trans {σ' σ'' : Mm} {lo : Nat} (h : Ny σ σ' x lo) (h' : Ny σ' σ'' x lo) : Ny σ σ'' x lo := fun q h1 h2 => by
  obtain ⟨a1, a2, a3⟩ := h q h1 h2
  obtain ⟨b1, b2, b3⟩ := h' q h1 h2
  exact ⟨b1.trans a1, b2.trans a2, b3.trans a3⟩
theorem Na.ny {σ' : Mm} {lo hi : Nat} (h : Na σ σ' hi) (hl : lo ≤ hi) : Ny σ σ' x lo := fun q _ h2 => by
  obtain ⟨a1, a2, -, -, a5⟩ := h q (by omega)
  exact ⟨a1, a2, a5⟩
theorem Ny.sr {k lo : Nat} {r : Option Nat} : Ny σ (sr σ x k r) x lo := fun q h1 _ => ⟨rfl, funext fun j => u2_a (by omega), rfl⟩
theorem Ny.si {k lo : Nat} {z : Int32} : Ny σ (si σ x k z) x lo := fun q h1 _ => ⟨funext fun j => u2_a (by omega), rfl, rfl⟩
theorem Ny.nw {lo : Nat} {t : Nat × Nat} (h : lo ≤ mz σ) : Ny σ (nw σ t) x lo := fun q _ h2 => ⟨nw_i (by omega), nw_r (by omega), nw_t (by omega)⟩
theorem Ny.mono {σ' : Mm} {lo lo' : Nat} (h : Ny σ σ' x lo) (hl : lo' ≤ lo) : Ny σ σ' x lo' := fun q h1 h2 => h q h1 (by omega)
theorem XR.na {σ0 σ' : Mm} {f : Nat → Int32} {g : Nat → Option Nat} {hi : Nat} (h : XR σ0 σ x f g) (hN : Na σ σ' hi) (hh : x < hi) : XR σ0 σ' x f g := by
  obtain ⟨a1, a2, -, -, a5⟩ := hN x hh
  exact ⟨a5.trans h.1, a1.trans h.2.1, a2.trans h.2.2⟩
theorem XR.sr {σ0 : Mm} {f : Nat → Int32} {g : Nat → Option Nat} {k : Nat} {r : Option Nat} (h : XR σ0 σ x f g) : XR σ0 (sr σ x k r) x f (updR g k r) :=
  ⟨h.1, h.2.1, funext fun j => by
    show u2 (mr σ) x k r x j = _
    unfold updR
    by_cases e : j = k
    · rw [e, u2_s, if_pos rfl]
    · rw [u2_k e, if_neg e, h.2.2]⟩
theorem XR.si {σ0 : Mm} {f : Nat → Int32} {g : Nat → Option Nat} {k : Nat} {z : Int32} (h : XR σ0 σ x f g) : XR σ0 (si σ x k z) x (upd f k z) g :=
  ⟨h.1, funext fun j => by
    show u2 (mi σ) x k z x j = _
    by_cases e : j = k
    · rw [e, u2_s, pk_us]
    · rw [u2_k e, pk_un e, h.2.1], h.2.2⟩
theorem XR.nw {σ0 : Mm} {f : Nat → Int32} {g : Nat → Option Nat} {t : Nat × Nat} (h : XR σ0 σ x f g) (hz : x ≠ mz σ) : XR σ0 (nw σ t) x f g :=
  ⟨(nw_t hz).trans h.1, (nw_i hz).trans h.2.1, (nw_r hz).trans h.2.2⟩
theorem Na.si {lo k : Nat} {z : Int32} (h : lo ≤ x) : Na σ (si σ x k z) lo := by rw [si_sS]; exact Na.sS h
theorem zf_b (i : Nat) : 0 ≤ (zf i).toInt ∧ (zf i).toInt ≤ 127 := by
  have e : (zf i).toInt = 0 := rfl
  rw [e]; omega
theorem sb_new {u t : Mm} {b : Nat} (hz : mz u = b + 1) (h1 : mi u b = zf) (h2 : mt u b = (11, 0)) (e : t = si (sr (nw u (54, 16)) b 0 (some (b + 1))) b 1 0) :
    mt t b = (11, 0) ∧ mi t b = upd zf 1 0 ∧ mr t b 0 = some (b + 1) ∧ mt t (b + 1) = (54, 16) ∧ mi t (b + 1) = zf := by
  have n1 : mi (nw u (54, 16)) b = zf := (nw_i (t := (54, 16)) (by omega : b ≠ mz u)).trans h1
  have n2 : mt (nw u (54, 16)) b = (11, 0) := (nw_t (t := (54, 16)) (by omega : b ≠ mz u)).trans h2
  have n3 : mi (nw u (54, 16)) (b + 1) = zf := by rw [← hz]; exact nw_is
  have n4 : mt (nw u (54, 16)) (b + 1) = (54, 16) := by rw [← hz]; exact nw_ts
  rw [e]
  generalize nw u (54, 16) = w at n1 n2 n3 n4
  refine ⟨n2, funext fun j => ?_, ?_, n4, funext fun j => ?_⟩
  · show u2 (mi w) b 1 0 b j = _
    by_cases e : j = 1
    · rw [e, u2_s, pk_us]
    · rw [u2_k e, pk_un e, n1]
  · show u2 (mr w) b 0 (some (b + 1)) b 0 = _
    exact u2_s
  · show u2 (mi w) b 1 0 (b + 1) j = _
    rw [u2_a (by omega), n3]
theorem c_init (gk : GOK G) (sok : SOK G) (ht : (mt σ x).1 = 9) (hz : mi σ x = zf) (hm : mz σ = x + 1) (hK : ∀ σ', CIV σ' x A0 0 → Na σ σ' x → mz σ' = x + 788 → K (.inl none) σ') : Runs G mX8_init rX8_init [vR (some x)] σ K := by
  refine eX8_init gk ⟨x, rfl, fun s1 e1 => ⟨fun r t => r = .inl none ∧ I6 s1 t (x + 1) 26 4 8, ?_, (fun E t z => by cases z.1), fun v t1 z => ?_⟩⟩
  · rw [hm]
    refine kX6_init gk (by rw [e1, ← hm, nw_ts]) (by rw [e1, ← hm]; exact nw_is) (by rw [e1, nw_z, hm]) fun σ' h => ⟨rfl, h⟩
  obtain ⟨ev, h1⟩ := z
  cases ev
  have X1 : XR σ t1 x zf (mr σ x) := (XR.nw (σ0 := σ) ⟨rfl, hz, rfl⟩ (by omega)).na (e1 ▸ h1.1) (by omega)
  have z1 : mz t1 = x + 71 := h1.2.1
  have R1 : RS t1 (x + 1) zf 0 := h1.rs
  have N1 : Na σ t1 x := (Na.nw (t := (7, 0)) (by omega)).trans ((e1 ▸ h1.1 : Na (nw σ (7, 0)) t1 (x + 1)).mono (by omega))
  rw [hm]
  refine vX8_init_12 gk ⟨x, rfl, by rw [X1.1]; exact ht, fun s2 e2 s3 e3 => ⟨fun r t => r = .inl none ∧ I3 s3 t (x + 71) 9, ?_, (fun E t z => by cases z.1), fun v t2 z => ?_⟩⟩
  · have zz : mz s2 = x + 71 := by rw [e2]; exact z1
    rw [zz]
    refine kX3_init gk (by rw [e3, ← zz, nw_ts]) (by rw [e3, ← zz]; exact nw_is) (by rw [e3, nw_z, zz]) fun σ' h => ⟨rfl, h⟩
  obtain ⟨ev, h2⟩ := z
  cases ev
  have zz2 : mz s2 = x + 71 := by rw [e2]; exact z1
  have X2 : XR σ t2 x zf (updR (mr σ x) 0 (some (x + 1))) := by
    have : XR σ s2 x zf (updR (mr σ x) 0 (some (x + 1))) := e2 ▸ X1.sr
    exact (this.nw (t := (4, 0)) (by omega)).na (e3 ▸ h2.1) (by omega)
  have z2 : mz t2 = x + 703 := h2.2.1
  have Y2 : Ny t1 t2 x (x + 71) := by
    have y1 : Ny t1 s2 x (x + 71) := e2 ▸ Ny.sr
    exact (y1.trans (Ny.nw (t := (4, 0)) (by omega))).trans (Na.ny (e3 ▸ h2.1) (by omega))
  have N2 : Na t1 t2 x := by
    have n1 : Na t1 s2 x := e2 ▸ Na.sr (Nat.le_refl _)
    exact (n1.trans (Na.nw (t := (4, 0)) (by omega))).trans ((e3 ▸ h2.1 : Na (nw s2 (4, 0)) t2 (x + 71)).mono (by omega))
  have H2 : HI t2 (x + 71) (fun _ => zf) 0 0 := h2.hi
  rw [zz2]
  refine vX8_init_23 gk ⟨x, rfl, by rw [X2.1]; exact ht, fun s4 e4 s5 e5 => ⟨fun r t => r = .inl none ∧ I6 s5 t (x + 703) 26 4 8, ?_, (fun E t z => by cases z.1), fun v t3 z => ?_⟩⟩
  · have zz : mz s4 = x + 703 := by rw [e4]; exact z2
    rw [zz]
    refine kX6_init gk (by rw [e5, ← zz, nw_ts]) (by rw [e5, ← zz]; exact nw_is) (by rw [e5, nw_z, zz]) fun σ' h => ⟨rfl, h⟩
  obtain ⟨ev, h3⟩ := z
  cases ev
  have zz4 : mz s4 = x + 703 := by rw [e4]; exact z2
  have X3 : XR σ t3 x zf (updR (updR (mr σ x) 0 (some (x + 1))) 1 (some (x + 71))) := by
    have : XR σ s4 x zf (updR (updR (mr σ x) 0 (some (x + 1))) 1 (some (x + 71))) := e4 ▸ X2.sr
    exact (this.nw (t := (7, 0)) (by omega)).na (e5 ▸ h3.1) (by omega)
  have z3 : mz t3 = x + 773 := h3.2.1
  have Y3 : Ny t2 t3 x (x + 703) := by
    have y1 : Ny t2 s4 x (x + 703) := e4 ▸ Ny.sr
    exact (y1.trans (Ny.nw (t := (7, 0)) (by omega))).trans (Na.ny (e5 ▸ h3.1) (by omega))
  have N3 : Na t2 t3 x := by
    have n1 : Na t2 s4 x := e4 ▸ Na.sr (Nat.le_refl _)
    exact (n1.trans (Na.nw (t := (7, 0)) (by omega))).trans ((e5 ▸ h3.1 : Na (nw s4 (7, 0)) t3 (x + 703)).mono (by omega))
  have S3 : SHP t3 (x + 703) := (h3.rs).shp
  rw [zz4]
  refine vX8_init_34 gk ⟨x, rfl, by rw [X3.1]; exact ht, fun s6 e6 => ⟨x, rfl, by rw [X3.1]; exact ht, fun s7 e7 s8 e8 => ⟨fun r t => r = .inl none ∧ I1 s8 t (x + 773) 10, ?_, (fun E t z => by cases z.1), fun v t4 z => ?_⟩⟩⟩
  · have zz : mz s7 = x + 773 := by rw [e7, e6]; exact z3
    rw [zz]
    refine kX1_init gk (by rw [e8, ← zz, nw_ts]) (by rw [e8, ← zz]; exact nw_is) (by rw [e8, nw_z, zz]) fun σ' h => ⟨rfl, h⟩
  obtain ⟨ev, h4⟩ := z
  cases ev
  have zz7 : mz s7 = x + 773 := by rw [e7, e6]; exact z3
  have X4 : XR σ t4 x (upd zf 3 0) (updR (updR (updR (mr σ x) 0 (some (x + 1))) 1 (some (x + 71))) 2 (some (x + 703))) := by
    have a1 : XR σ s6 x zf (updR (updR (updR (mr σ x) 0 (some (x + 1))) 1 (some (x + 71))) 2 (some (x + 703))) := e6 ▸ X3.sr
    have a2 : XR σ s7 x (upd zf 3 0) (updR (updR (updR (mr σ x) 0 (some (x + 1))) 1 (some (x + 71))) 2 (some (x + 703))) := e7 ▸ a1.si
    exact (a2.nw (t := (2, 0)) (by omega)).na (e8 ▸ h4.1) (by omega)
  have z4 : mz t4 = x + 786 := h4.2.1
  have Y4 : Ny t3 t4 x (x + 773) := by
    have y1 : Ny t3 s6 x (x + 773) := e6 ▸ Ny.sr
    have y2 : Ny s6 s7 x (x + 773) := e7 ▸ Ny.si
    exact ((y1.trans y2).trans (Ny.nw (t := (2, 0)) (by omega))).trans (Na.ny (e8 ▸ h4.1) (by omega))
  have N4 : Na t3 t4 x := by
    have n1 : Na t3 s6 x := e6 ▸ Na.sr (Nat.le_refl _)
    have n2 : Na s6 s7 x := e7 ▸ Na.si (Nat.le_refl _)
    exact ((n1.trans n2).trans (Na.nw (t := (2, 0)) (by omega))).trans ((e8 ▸ h4.1 : Na (nw s7 (2, 0)) t4 (x + 773)).mono (by omega))
  rw [zz7]
  refine vX8_init_50 gk ⟨x, rfl, by rw [X4.1]; exact ht, fun s9 e9 => ⟨x, rfl, by rw [X4.1]; exact ht, fun s10 e10 s11 e11 s12 e12 => ⟨fun r t => r = .inl none ∧ t = si (sr (nw s12 (54, 16)) (x + 786) 0 (some (mz s12))) (x + 786) 1 0, ?_, (fun E t z => by cases z.1), fun v t5 z => ?_⟩⟩⟩
  · have zz : mz s11 = x + 786 := by rw [e11, e10, e9]; exact z4
    rw [zz]
    refine kJ4_init gk sok (by rw [e12, ← zz, nw_ts]) (by rw [e12, nw_z, zz]; omega) fun σ' h => ⟨rfl, h⟩
  obtain ⟨ev, h5⟩ := z
  cases ev
  have zz11 : mz s11 = x + 786 := by rw [e11, e10, e9]; exact z4
  have zz12 : mz s12 = x + 787 := by rw [e12, nw_z, zz11]
  rw [zz12] at h5
  rw [zz11]
  have X5 : XR σ t5 x (upd (upd (upd zf 3 0) 5 (-1)) 6 (-1)) (updR (updR (updR (updR (mr σ x) 0 (some (x + 1))) 1 (some (x + 71))) 2 (some (x + 703))) 4 (some (x + 773))) := by
    have a1 : XR σ s9 x (upd zf 3 0) (updR (updR (updR (updR (mr σ x) 0 (some (x + 1))) 1 (some (x + 71))) 2 (some (x + 703))) 4 (some (x + 773))) := e9 ▸ X4.sr
    have a2 := e10 ▸ a1.si (k := 5) (z := -1)
    have a3 := e11 ▸ a2.si (k := 6) (z := -1)
    have a4 : XR σ s12 x _ _ := e12 ▸ a3.nw (t := (11, 0)) (by omega)
    have a5 := a4.nw (t := (54, 16)) (by omega)
    rw [h5]
    exact ⟨a5.1, (funext fun j => u2_a (by omega) : mi (si (sr (nw s12 (54, 16)) (x + 786) 0 (some (x + 787))) (x + 786) 1 0) x = mi (nw s12 (54, 16)) x).trans a5.2.1, (funext fun j => u2_a (by omega) : mr (sr (nw s12 (54, 16)) (x + 786) 0 (some (x + 787))) x = mr (nw s12 (54, 16)) x).trans a5.2.2⟩
  have Y5 : Ny t4 t5 x (x + 786) := by
    have y1 : Ny t4 s9 x (x + 786) := e9 ▸ Ny.sr
    have y2 : Ny s9 s10 x (x + 786) := e10 ▸ Ny.si
    have y3 : Ny s10 s11 x (x + 786) := e11 ▸ Ny.si
    have y4 : Ny s11 s12 x (x + 786) := e12 ▸ Ny.nw (by omega)
    refine (((y1.trans y2).trans y3).trans y4).trans ((Ny.nw (t := (54, 16)) (by omega)).trans ?_)
    rw [h5]
    exact fun q h1 h2 => ⟨funext fun j => u2_a (by omega), funext fun j => u2_a (by omega), rfl⟩
  have N5 : Na t4 t5 x := by
    have n1 : Na t4 s9 x := e9 ▸ Na.sr (Nat.le_refl _)
    have n2 : Na s9 s10 x := e10 ▸ Na.si (Nat.le_refl _)
    have n3 : Na s10 s11 x := e11 ▸ Na.si (Nat.le_refl _)
    have n4 : Na s11 s12 x := e12 ▸ Na.nw (by omega)
    refine (((n1.trans n2).trans n3).trans n4).trans ((Na.nw (t := (54, 16)) (by omega)).trans ?_)
    rw [h5]
    exact (Na.sr (by omega)).trans (Na.si (by omega))
  refine vX8_init_71 gk ⟨x, rfl, by rw [X5.1]; exact ht, fun s13 e13 => ?_⟩
  have X6 := e13 ▸ X5.sr (k := 7) (r := some (x + 786))
  have Y6 : ∀ lo, Ny t5 s13 x lo := fun lo => e13 ▸ Ny.sr
  have N6 : Na t5 s13 x := e13 ▸ Na.sr (Nat.le_refl _)
  -- the builder
  have B0 : mi s12 (x + 786) = zf ∧ mt s12 (x + 786) = (11, 0) := by rw [e12, ← zz11]; exact ⟨nw_is, nw_ts⟩
  have c1 : mi s13 (x + 786) = mi t5 (x + 786) ∧ mr s13 (x + 786) = mr t5 (x + 786) ∧ mt s13 (x + 786) = mt t5 (x + 786) := Y6 (x + 787) _ (by omega) (by omega)
  have c2 : mi s13 (x + 787) = mi t5 (x + 787) ∧ mr s13 (x + 787) = mr t5 (x + 787) ∧ mt s13 (x + 787) = mt t5 (x + 787) := Y6 (x + 788) _ (by omega) (by omega)
  obtain ⟨d1, d2, d3, d4, d5⟩ := sb_new zz12 B0.1 B0.2 h5
  have b1 : mt s13 (x + 786) = (11, 0) := c1.2.2.trans d1
  have b2 : mi s13 (x + 786) = upd zf 1 0 := c1.1.trans d2
  have b3 : mr s13 (x + 786) 0 = some (x + 787) := (congrFun c1.2.1 0).trans d3
  have b4 : mt s13 (x + 787) = (54, 16) := c2.2.2.trans d4
  have b5 : mi s13 (x + 787) = zf := c2.1.trans d5
  refine hK s13 ⟨⟨by rw [X6.1]; exact ht, by rw [X6.2.2]; rfl, by rw [X6.2.2]; rfl, by rw [X6.2.2]; rfl, by rw [X6.2.2]; rfl, by rw [X6.2.2]; rfl⟩, ?_, ?_, ⟨?_, by rw [X6.2.1]; rfl, Or.inl rfl, fun z => absurd z (by decide)⟩, by rw [X6.2.1]; exact ⟨rfl, rfl⟩, ⟨?_, ?_, Nat.zero_le _, fun i hi => absurd hi (Nat.not_lt_zero _)⟩, ⟨by rw [b1], by rw [b2]; rfl, by rw [b2]; rfl, Nat.zero_le _, x + 787, 16, b3, b4, ⟨Nat.zero_le _, by decide⟩, Or.inl rfl, fun i hi => absurd hi (Nat.not_lt_zero _), fun i hi => by rw [b5]; have := zf_b i; omega⟩⟩ (((((N1.trans N2).trans N3).trans N4).trans N5).trans N6) ?_
  · exact R1.loc fun q q1 q2 => ((((Y2.trans (Y3.mono (by omega))).trans (Y4.mono (by omega))).trans (Y5.mono (by omega))).trans (Y6 _)) q (by omega) (by omega)
  · exact H2.loc fun q q1 q2 => (((Y3.trans (Y4.mono (by omega))).trans (Y5.mono (by omega))).trans (Y6 _)) q (by omega) (by omega)
  · exact S3.loc fun q q1 q2 => (((Y4.trans (Y5.mono (by omega))).trans (Y6 _)) q (by omega) (by omega)).2
  · have T4 : TSh t4 (x + 773) := ⟨h4.2.2.1.2, h4.2.2.2.2.1.1, h4.2.2.2.2.1.2.1, h4.2.2.2.2.1.2.2.1, h4.2.2.2.2.1.2.2.2, h4.2.2.2.2.2⟩
    exact T4.loc fun q q1 q2 => ((Y5.trans (Y6 _)) q (by omega) (by omega)).2
  · rw [((Y5.trans (Y6 _)) (x + 773) (by omega) (by omega)).1, h4.2.2.2.1]; rfl
  · rw [e13, h5]
    show mz s12 + 1 = _
    rw [zz12]
end INI
