/-! ===== the law's loop: what holds at its head ===== -/
/-- the script, the two answers' cells -/
def EVL (b0 L : Nat) (xs : Nat → Int32) (σ : Mm) (x : Nat) : Prop := b0 < x ∧ mt σ b0 = (99, L) ∧ mi σ b0 = xs ∧ mt σ (x + 796) = (51, 1) ∧ mt σ (x + 797) = (52, 1) ∧ x + 798 ≤ mz σ
/-- nothing but the class's object has changed, and what lies behind -/
def FE (σ σ' : Mm) (x : Nat) : Prop := (∀ q, q < x ∨ (x + 788 ≤ q ∧ q < x + 798) → mi σ' q = mi σ q ∧ mr σ' q = mr σ q ∧ ml σ' q = ml σ q ∧ md σ' q = md σ q ∧ mt σ' q = mt σ q) ∧ mz σ ≤ mz σ'
/-- nothing but the model has changed -/
def FM (σ σ' : Mm) (a : Nat) : Prop := (∀ q, q < a ∨ a + 8 ≤ q → mi σ' q = mi σ q) ∧ mr σ' = mr σ ∧ ml σ' = ml σ ∧ md σ' = md σ ∧ mt σ' = mt σ ∧ mz σ ≤ mz σ'
/-- but the next address and the answers' cells the same -/
def SA (σ σ' : Mm) (x : Nat) : Prop := (∀ q, mi σ' q = mi σ q) ∧ mr σ' = mr σ ∧ mt σ' = mt σ ∧ mz σ ≤ mz σ'
section LI
variable {σ σ' σ1 σ2 : Mm} {x b0 L c b' : Nat} {xs : Nat → Int32} {A A' : AS}
theorem FE.refl : FE σ σ x := ⟨fun _ _ => ⟨rfl, rfl, rfl, rfl, rfl⟩, Nat.le_refl _⟩
theorem Fc.fe (h : Fc σ σ' x) : FE σ σ' x := by
  obtain ⟨h1, h2, h3, h4, h5⟩ := h
  refine ⟨fun q hq => ?_, Nat.le_of_eq h5.symm⟩
  obtain ⟨a1, a2⟩ := h1 q (by omega)
  exact ⟨a1, a2, by rw [h2], by rw [h3], by rw [h4]⟩
theorem FrX.fe (h : FrX σ σ' x) : FE σ σ' x := by
  obtain ⟨h1, h2, h3⟩ := h
  refine ⟨fun q hq => ?_, h3⟩
  obtain ⟨a1, a2, a3, a4⟩ := h1 q (by omega) (by omega) (by omega)
  exact ⟨a1, a2, a3, a4, h2 q (by omega)⟩
theorem SA.refl : SA σ σ x := ⟨fun _ => rfl, rfl, rfl, Nat.le_refl _⟩
theorem SA.sk {k : Nat} : SA σ (sk σ k) x := ⟨fun _ => rfl, rfl, rfl, Nat.le_add_right _ _⟩
theorem SA.sl {a k : Nat} {z : Int64} : SA σ (sl σ a k z) x := ⟨fun _ => rfl, rfl, rfl, Nat.le_refl _⟩
theorem SA.sd {a k : Nat} {z : UInt64} : SA σ (sd σ a k z) x := ⟨fun _ => rfl, rfl, rfl, Nat.le_refl _⟩
theorem Fb.fm {a : Nat} (h : Fb σ σ' a (a + 8)) : FM σ σ' a := ⟨h.1, h.2.1, h.2.2.1, h.2.2.2.1, h.2.2.2.2.1, Nat.le_of_eq h.2.2.2.2.2.symm⟩
/-- the model stays where only the class has changed -/
theorem MIV.fe (h : MIV σ (x + 788) A) (hF : FE σ σ' x) : MIV σ' (x + 788) A := by
  obtain ⟨g1, g2, ⟨g3, g4, g5⟩, ⟨g6, g7, g8⟩, ⟨g9, g10⟩, ⟨g11, g12, g13⟩, ⟨g14, g15, g16⟩⟩ := h
  have e : ∀ j, j < 8 → mi σ' (x + 788 + j) = mi σ (x + 788 + j) ∧ mr σ' (x + 788 + j) = mr σ (x + 788 + j) ∧ mt σ' (x + 788 + j) = mt σ (x + 788 + j) := fun j hj => by
    obtain ⟨a1, a2, -, -, a5⟩ := hF.1 (x + 788 + j) (by omega)
    exact ⟨a1, a2, a5⟩
  have e0 : mi σ' (x + 788) = mi σ (x + 788) ∧ mr σ' (x + 788) = mr σ (x + 788) ∧ mt σ' (x + 788) = mt σ (x + 788) := e 0 (by omega)
  refine ⟨?_, by rw [(e 1 (by omega)).1]; exact g2, ⟨g3, by rw [e0.1]; exact g4, by rw [(e 4 (by omega)).1]; exact g5⟩, ⟨by rw [e0.1]; exact g6, g7, by rw [(e 3 (by omega)).1]; exact g8⟩, ⟨by rw [e0.1]; exact g9, by rw [e0.1]; exact g10⟩, ⟨by rw [e0.1]; exact g11, g12, by rw [(e 6 (by omega)).1]; exact g13⟩, ⟨by rw [e0.1]; exact g14, g15, by rw [(e 5 (by omega)).1]; exact g16⟩⟩
  unfold MS at g1 ⊢
  rw [e0.2.1, e0.2.2, (e 1 (by omega)).2.2, (e 2 (by omega)).2.2, (e 3 (by omega)).2.2, (e 4 (by omega)).2.2, (e 5 (by omega)).2.2, (e 6 (by omega)).2.2, (e 7 (by omega)).2.2]
  exact g1
theorem MIV.sa {a : Nat} (h : MIV σ a A) (hF : SA σ σ' x) : MIV σ' a A := by
  have h1 : mi σ' = mi σ := funext hF.1
  unfold MIV at h ⊢
  rw [h1]
  exact ⟨h.1.mv hF.2.1 hF.2.2.1, h.2⟩
/-- error position and failed command: none, or small -/
def EVA (A : AS) : Prop := (aea A = -1 ∨ ∃ q : Nat, q < 2 ^ 31 ∧ aea A = nI q) ∧ (afa A = -1 ∨ ∃ q : Nat, q < 2 ^ 31 ∧ afa A = nI q)
/-- the steps told, the letters typed: no more than the calls pay for -/
def BA (A : AS) (b c : Nat) : Prop := b + 100 * atn A ≤ 600 * c ∧ EVA A
theorem BA.up (h : BA A b' c) : BA A b' (c + 1) := ⟨by have := h.1; omega, h.2⟩
theorem BA.lt (h : BA A b' c) (hc : c ≤ 512) : b' < 2 ^ 20 := by have := h.1; omega
theorem BA.am {P : Nat → Int32} {b : Nat} (h : BA A b c) (hb : b' ≤ b + 540) : BA (Am A P) b' (c + 1) := ⟨(by have := h.1; omega : b' + 100 * atn A ≤ 600 * (c + 1)), h.2⟩
theorem BA.asn {P V : Nat → Int32} {j : Nat} {sv : Int32} (h : BA A b' c) : BA (Asn A P j sv V) b' (c + 1) := ⟨(by have := h.1; omega : b' + 100 * atn A ≤ 600 * (c + 1)), h.2⟩
theorem BA.aln {n : Nat} {t : Nat → Int32} (h : BA A b' c) : BA (Aln A n t) b' (c + 1) := ⟨(by have := h.1; omega : b' + 100 * atn A ≤ 600 * (c + 1)), h.2⟩
theorem BA.atx {n : Nat} {t : Nat → Int32} (h : BA A b' c) (hn : n ≤ atn A + 1) : BA (Atx A n t) b' (c + 1) := ⟨(by have := h.1; omega : b' + 100 * n ≤ 600 * (c + 1)), h.2⟩
theorem BA.aer {ea fa : Int32} (h : BA A b' c) (h1 : ea = -1 ∨ ∃ q : Nat, q < 2 ^ 31 ∧ ea = nI q) (h2 : fa = -1 ∨ ∃ q : Nat, q < 2 ^ 31 ∧ fa = nI q) : BA (Aer A ea fa) b' c := ⟨h.1, h1, h2⟩
theorem BA.cg {B : AS} (h : BA A b' c) (e : AE A B) : BA B b' c := by
  have e6 : B.2.2.2.2.2 = A.2.2.2.2.2 := e.2.2.2.2.2
  have e1 : atn B = atn A := congrArg (fun z => z.2.2.1) e6
  have e2 : aea B = aea A := congrArg (fun z => z.1) e6
  have e3 : afa B = afa A := congrArg (fun z => z.2.1) e6
  refine ⟨by rw [e1]; exact h.1, ?_⟩
  unfold EVA
  rw [e2, e3]
  exact h.2
/-- at the head of the loop, c calls made -/
def LI (b0 L : Nat) (xs : Nat → Int32) (x c : Nat) (σ : Mm) : Prop := ∃ (A : AS) (b : Nat), CIV σ x A b ∧ MIV σ (x + 788) A ∧ BA A b c ∧ EVL b0 L xs σ x
theorem LI.fin (hE : EVL b0 L xs σ x) (hF : FE σ σ' x) (hS : SA σ' σ1 x) (hm : FM σ1 σ2 (x + 788)) (hC : CIV σ' x A' b') (hM : MIV σ2 (x + 788) A') (hb : BA A' b' c) : LI b0 L xs x c σ2 ∧ ml σ2 = ml σ1 ∧ md σ2 = md σ1 := by
  obtain ⟨E1, E2, E3, E4, E5, E6⟩ := hE
  obtain ⟨m1, m2, m3, m4, m5, m6⟩ := hm
  obtain ⟨s1, s2, s3, s4⟩ := hS
  have f0 := hF.1 b0 (by omega)
  have f6 := hF.1 (x + 796) (by omega)
  have f7 := hF.1 (x + 797) (by omega)
  have fz := hF.2
  refine ⟨⟨A', b', hC.loc fun q q1 q2 => ?_, hM, hb, E1, ?_, ?_, ?_, ?_, ?_⟩, m3, m4⟩
  · exact ⟨(m1 q (by omega)).trans (s1 q), by rw [m2, s2], by rw [m5, s3]⟩
  · rw [m5, s3, f0.2.2.2.2]; exact E2
  · rw [m1 b0 (by omega), s1, f0.1]; exact E3
  · rw [m5, s3, f6.2.2.2.2]; exact E4
  · rw [m5, s3, f7.2.2.2.2]; exact E5
  · omega
/-- what the law reads between the two calls -/
def PR (b0 L : Nat) (xs : Nat → Int32) (x : Nat) (σ : Mm) : Prop := mt σ b0 = (99, L) ∧ mi σ b0 = xs ∧ (mt σ (x + 788)).1 = 10
theorem ev1 (hE : EVL b0 L xs σ x) (hM : MIV σ (x + 788) A) (hF : FE σ σ' x) (hS : SA σ' σ1 x) : PR b0 L xs x σ1 := by
  obtain ⟨E1, E2, E3, E4, E5, E6⟩ := hE
  obtain ⟨s1, s2, s3, s4⟩ := hS
  have f0 := hF.1 b0 (by omega)
  have f8 := hF.1 (x + 788) (by omega)
  exact ⟨by rw [s3, f0.2.2.2.2]; exact E2, by rw [s1, f0.1]; exact E3, by rw [s3, f8.2.2.2.2]; exact hM.1.ty⟩
/-- what the model owes: its end fits the class's code z, its answer the class's -/
def φI (w : Int32) (u : Int64) : Prop := u = w.toInt64
def φB (w : Int32) (u : Int64) : Prop := u = if w = 0 then 0 else 1
def MDg (φ : Int32 → Int64 → Prop) (b0 L : Nat) (xs : Nat → Int32) (G : GG) (x c : Nat) (Y : SIG) (rm : Room) (as : List VV) (z : Int32) (σ1 : Mm) : Prop := PR b0 L xs x σ1 ∧ ∀ K' : RES → Mm → Prop, (∀ (w : Int32) (σ2 : Mm), LI b0 L xs x c σ2 → mi σ2 (x + 788) 6 = z → (z = 0 → φ w (ml σ2 (x + 796) 0)) → K' (.inl (some (vI w))) σ2) → Runs G Y rm as σ1 K'
def MDF (b0 L : Nat) (xs : Nat → Int32) (G : GG) (x c : Nat) (Y : SIG) (rm : Room) (as : List VV) (z : Int32) (σ1 : Mm) : Prop := PR b0 L xs x σ1 ∧ ∀ K' : RES → Mm → Prop, (∀ (w : UInt32) (σ2 : Mm), LI b0 L xs x c σ2 → mi σ2 (x + 788) 6 = z → (z = 0 → vf_n32 w ∧ vf_n64 (FP.f2d w) ∧ md σ2 (x + 797) 0 = FP.f2d w) → K' (.inl (some (vF w))) σ2) → Runs G Y rm as σ1 K'
def MDD (b0 L : Nat) (xs : Nat → Int32) (G : GG) (x c : Nat) (Y : SIG) (rm : Room) (as : List VV) (z : Int32) (σ1 : Mm) : Prop := PR b0 L xs x σ1 ∧ ∀ K' : RES → Mm → Prop, (∀ (w : UInt64) (σ2 : Mm), LI b0 L xs x c σ2 → mi σ2 (x + 788) 6 = z → (z = 0 → vf_n64 w ∧ md σ2 (x + 797) 0 = w) → K' (.inl (some (vD w))) σ2) → Runs G Y rm as σ1 K'
/-- what the start brings -/
def OKS (G : GG) : Prop := GOK G ∧ NOK G ∧ STR G ∧ SOK G
theorem md_end {φ : Int32 → Int64 → Prop} {K' : RES → Mm → Prop} {z z' w : Int32} (hE : EVL b0 L xs σ x) (hF : FE σ σ' x) (hS : SA σ' σ1 x) (hC : CIV σ' x A' b') (hb : BA A' b' c) (hM : MIV σ2 (x + 788) A') (hm : Fb σ1 σ2 (x + 788) (x + 788 + 8)) (ht : mi σ2 (x + 788) 6 = z') (hz : z' = z) (hφ : z = 0 → φ w (ml σ1 (x + 796) 0))
    (hK' : ∀ (w : Int32) (σ2 : Mm), LI b0 L xs x c σ2 → mi σ2 (x + 788) 6 = z → (z = 0 → φ w (ml σ2 (x + 796) 0)) → K' (.inl (some (vI w))) σ2) : K' (.inl (some (vI w))) σ2 := by
  obtain ⟨l1, l2, l3⟩ := LI.fin (c := c) hE hF hS hm.fm hC hM hb
  exact hK' _ _ l1 (ht.trans hz) fun z0 => by rw [l2]; exact hφ z0
/-- a question: nothing has changed but what is said -/
theorem th_end {φ : Int32 → Int64 → Prop} {K' : RES → Mm → Prop} {z t w : Int32} (hE : EVL b0 L xs σ x) (hC : CIV σ x A b') (hM : MIV σ (x + 788) A) (hb : BA A b' c) (hS : SA σ σ1 x) (hz : t = z) (hφ : z = 0 → φ w (ml σ1 (x + 796) 0))
    (hK' : ∀ (w : Int32) (σ2 : Mm), LI b0 L xs x (c + 1) σ2 → mi σ2 (x + 788) 6 = z → (z = 0 → φ w (ml σ2 (x + 796) 0)) → K' (.inl (some (vI w))) σ2) : K' (.inl (some (vI w))) (th σ1 (x + 788) t) := by
  obtain ⟨m1, m2, m3⟩ := mv_th (hM.sa hS) t
  exact md_end (c := c + 1) hE FE.refl hS hC hb.up m1 m2 m3 hz hφ hK'
theorem thF_end {K' : RES → Mm → Prop} {z t : Int32} {w : UInt32} (hE : EVL b0 L xs σ x) (hC : CIV σ x A b') (hM : MIV σ (x + 788) A) (hb : BA A b' c) (hS : SA σ σ1 x) (hz : t = z) (hφ : z = 0 → vf_n32 w ∧ vf_n64 (FP.f2d w) ∧ md σ1 (x + 797) 0 = FP.f2d w)
    (hK' : ∀ (w : UInt32) (σ2 : Mm), LI b0 L xs x (c + 1) σ2 → mi σ2 (x + 788) 6 = z → (z = 0 → vf_n32 w ∧ vf_n64 (FP.f2d w) ∧ md σ2 (x + 797) 0 = FP.f2d w) → K' (.inl (some (vF w))) σ2) : K' (.inl (some (vF w))) (th σ1 (x + 788) t) := by
  obtain ⟨m1, m2, m3⟩ := mv_th (hM.sa hS) t
  obtain ⟨l1, l2, l3⟩ := LI.fin (c := c + 1) hE FE.refl hS m2.fm hC m1 hb.up
  exact hK' _ _ l1 (m3.trans hz) fun z0 => by rw [l3]; exact hφ z0
theorem thD_end {K' : RES → Mm → Prop} {z t : Int32} {w : UInt64} (hE : EVL b0 L xs σ x) (hC : CIV σ x A b') (hM : MIV σ (x + 788) A) (hb : BA A b' c) (hS : SA σ σ1 x) (hz : t = z) (hφ : z = 0 → vf_n64 w ∧ md σ1 (x + 797) 0 = w)
    (hK' : ∀ (w : UInt64) (σ2 : Mm), LI b0 L xs x (c + 1) σ2 → mi σ2 (x + 788) 6 = z → (z = 0 → vf_n64 w ∧ md σ2 (x + 797) 0 = w) → K' (.inl (some (vD w))) σ2) : K' (.inl (some (vD w))) (th σ1 (x + 788) t) := by
  obtain ⟨m1, m2, m3⟩ := mv_th (hM.sa hS) t
  obtain ⟨l1, l2, l3⟩ := LI.fin (c := c + 1) hE FE.refl hS m2.fm hC m1 hb.up
  exact hK' _ _ l1 (m3.trans hz) fun z0 => by rw [l3]; exact hφ z0
theorem ml_s {a : Nat} {u : Int64} : ml (sl σ a 0 u) a 0 = u := u2_s
theorem md_s {a : Nat} {u : UInt64} : md (sd σ a 0 u) a 0 = u := u2_s
theorem nz1 {P : Prop} (i : Nat) (h : i < 100) : nI (i + 1) = 0 → P := fun e => absurd ((nI_eq (a := i + 1) (b := 0) (by omega) (by omega)).mp e) (by omega)
end LI
