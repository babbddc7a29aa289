/-! ===== what the law's questions answer ===== -/
def OKS (G : GG) : Prop := GOK G ∧ NOK G ∧ STR G ∧ SOK G
/-- the class's object at x, as A says, with n shelves -/
def QS (σ : Mm) (x : Nat) (A : AS) (b n : Nat) : Prop := CIV σ x A b ∧ b < 2 ^ 21 ∧ aP A 0 = nI n ∧ n ≤ 4 ∧ x + 788 ≤ mz σ
theorem CIV.sk {σ : Mm} {x b : Nat} {A : AS} (h : CIV σ x A b) (k : Nat) : CIV (sk σ k) x A b := h.loc fun _ _ _ => ⟨rfl, rfl, rfl⟩
theorem QS.sk {σ : Mm} {x b n : Nat} {A : AS} (h : QS σ x A b n) (k : Nat) : QS (sk σ k) x A b n := ⟨h.1.sk k, h.2.1, h.2.2.1, h.2.2.2.1, Nat.le_trans h.2.2.2.2 (Nat.le_add_right _ _)⟩
theorem sk_sk (σ : Mm) (j k : Nat) : sk (sk σ j) k = sk σ (j + k) := by
  show (_, _, _, _, _, _) = (_, _, _, _, _, _)
  rw [← Nat.add_assoc]
  rfl
/-- of an echo that is there: v; of one that isn't: -13 -/
def qE (P : Nat → Int32) (k l : Nat) (v : Int32) : Int32 := if P (eX k l) = 1 then v else -13
def qV : Option Nat → Int32
  | some v => nI (97 + v)
  | none => -13
def qW (P : Nat → Int32) (l : Nat) : Int32 := if P (8 + 3 * l) = 1 then P (8 + 3 * l + 1) else -13
noncomputable def qO (P : Nat → Int32) (k l : Nat) : Int32 := if P (8 + 3 * l) = 1 then ouP P k l else -13
section QRY
variable {G : GG} {σ : Mm} {K : RES → Mm → Prop} {x b n : Nat} {A : AS}
theorem CIV.pi (h : CIV σ x A b) : ∃ n m, PI (aP A) n b ∧ PW (aP A) n m b ∧ EJ (aP A) n := by
  obtain ⟨ω, ρ, n, m, hV, hW, hJ⟩ := h.2.1
  exact ⟨n, m, hV.2.1, hW.2, hJ⟩
theorem QS.pi (h : QS σ x A b n) : PI (aP A) n b ∧ EJ (aP A) n := by
  obtain ⟨n', m, hP, hW, hJ⟩ := h.1.pi
  have e : n' = n := (nI_eq (by have := hP.1.1; omega) (by have := h.2.2.2.1; omega)).mp (hP.1.2.symm.trans h.2.2.1)
  subst e
  exact ⟨hP, hJ⟩
theorem QS.pw (h : QS σ x A b n) : ∃ m, PW (aP A) n m b := by
  obtain ⟨n', m, hP, hW, hJ⟩ := h.1.pi
  have e : n' = n := (nI_eq (by have := hP.1.1; omega) (by have := h.2.2.2.1; omega)).mp (hP.1.2.symm.trans h.2.2.1)
  subst e
  exact ⟨m, hW⟩
theorem QS.shB (h : QS σ x A b n) : shB (aP A) := ⟨n, h.2.2.2.1, h.2.2.1⟩
theorem QS.sh (h : QS σ x A b n) {k : Nat} (hk : k < n) : shP (aP A) (nI k) := (shP_n h.2.2.2.1 h.2.2.1 (by have := h.2.2.2.1; omega)).mpr hk
theorem QS.kk (h : QS σ x A b n) {k k' : Nat} (hk : k < n) (hk' : k' < 4) (e : nI k = nI k') : k = k' := (nI_eq (by have := h.2.2.2.1; omega) (by omega)).mp e
theorem QS.lt (h : QS σ x A b n) {k : Nat} (hk : k < 4) (e : nI k < aP A 0) : k < n := by
  have := h.2.2.2.1
  rw [h.2.2.1] at e
  exact (nI_ltI (by omega) (by omega)).mp e
theorem QS.k0 (h : QS σ x A b n) {k : Nat} (hk : k < n) : nI k < aP A 0 := by
  have := h.2.2.2.1
  rw [h.2.2.1]
  exact (nI_ltI (by omega) (by omega)).mpr hk
theorem QS.no (h : QS σ x A b n) : ¬ shP (aP A) (nI n) := fun q => Nat.lt_irrefl _ ((shP_n h.2.2.2.1 h.2.2.1 (by have := h.2.2.2.1; omega)).mp q)
theorem sh_m1 {P : Nat → Int32} : ¬ shP P (-1) := fun q => q.1 (by decide)
theorem lt26 {l : Nat} (hl : l < 26) : isC (nI (97 + l)) := isC_nI (by omega)
theorem qE_t {P : Nat → Int32} {k l : Nat} {v : Int32} (h : P (eX k l) = 1) : qE P k l v = v := if_pos h
theorem qE_f {P : Nat → Int32} {k l : Nat} {v : Int32} (h : ¬ P (eX k l) = 1) : qE P k l v = -13 := if_neg h
theorem q_capacityOf (ok : OKS G) (hQ : QS σ x A b n) {k : Nat} (hk : k < n) (h : ∀ j, K (.inl (some (vI (aP A (86 + 187 * k))))) (sk σ j)) : RunsH G mL_capacityOf hL_capacityOf rL_capacityOf [vR (some x), vI (nI k)] σ K :=
  hL_capacityOf_run ok.1 ok.2.1 hQ.1.1.1 (c_capacityOf ok.1 ok.2.2.1 hQ.1.1 hQ.1.2.1 (fun q => absurd (hQ.sh hk) q) (fun k' hk4 e e2 => by obtain rfl := hQ.kk hk hk4 e; exact ⟨_, rfl, h 0⟩))
theorem o_capacityOf (ok : OKS G) (hQ : QS σ x A b n) {s : Int32} (hs : ¬ shP (aP A) s) (h : ∀ j, K (.inl (some (vI (-11)))) (sk σ j)) : RunsH G mL_capacityOf hL_capacityOf rL_capacityOf [vR (some x), vI (s)] σ K :=
  hL_capacityOf_run ok.1 ok.2.1 hQ.1.1.1 (c_capacityOf ok.1 ok.2.2.1 hQ.1.1 hQ.1.2.1 (fun _ j => ⟨0, -11, rfl, h j⟩) (fun k' hk4 e e2 => absurd (by rw [e]; exact shP_lt hQ.shB hk4 e2) hs))
theorem d_capacityOf (ok : OKS G) (hQ : QS σ x A b n) {k : Nat} (hk : k < n) (h : K (.inl (some (vI (aP A (86 + 187 * k))))) σ) : Runs G mX8_capacityOf rX8_capacityOf [vR (some x), vI (nI k)] σ K :=
  c_capacityOf ok.1 ok.2.2.1 hQ.1.1 hQ.1.2.1 (fun q => absurd (hQ.sh hk) q) (fun k' hk4 e e2 => by obtain rfl := hQ.kk hk hk4 e; exact h)
theorem q_lifetimeOf (ok : OKS G) (hQ : QS σ x A b n) {k : Nat} (hk : k < n) (h : ∀ j, K (.inl (some (vI (aP A (86 + 187 * k + 1))))) (sk σ j)) : RunsH G mL_lifetimeOf hL_lifetimeOf rL_lifetimeOf [vR (some x), vI (nI k)] σ K :=
  hL_lifetimeOf_run ok.1 ok.2.1 hQ.1.1.1 (c_lifetimeOf ok.1 ok.2.2.1 hQ.1.1 hQ.1.2.1 (fun q => absurd (hQ.sh hk) q) (fun k' hk4 e e2 => by obtain rfl := hQ.kk hk hk4 e; exact ⟨_, rfl, h 0⟩))
theorem o_lifetimeOf (ok : OKS G) (hQ : QS σ x A b n) {s : Int32} (hs : ¬ shP (aP A) s) (h : ∀ j, K (.inl (some (vI (-11)))) (sk σ j)) : RunsH G mL_lifetimeOf hL_lifetimeOf rL_lifetimeOf [vR (some x), vI (s)] σ K :=
  hL_lifetimeOf_run ok.1 ok.2.1 hQ.1.1.1 (c_lifetimeOf ok.1 ok.2.2.1 hQ.1.1 hQ.1.2.1 (fun _ j => ⟨0, -11, rfl, h j⟩) (fun k' hk4 e e2 => absurd (by rw [e]; exact shP_lt hQ.shB hk4 e2) hs))
theorem d_lifetimeOf (ok : OKS G) (hQ : QS σ x A b n) {k : Nat} (hk : k < n) (h : K (.inl (some (vI (aP A (86 + 187 * k + 1))))) σ) : Runs G mX8_lifetimeOf rX8_lifetimeOf [vR (some x), vI (nI k)] σ K :=
  c_lifetimeOf ok.1 ok.2.2.1 hQ.1.1 hQ.1.2.1 (fun q => absurd (hQ.sh hk) q) (fun k' hk4 e e2 => by obtain rfl := hQ.kk hk hk4 e; exact h)
theorem q_policyOf (ok : OKS G) (hQ : QS σ x A b n) {k : Nat} (hk : k < n) (h : ∀ j, K (.inl (some (vI (aP A (86 + 187 * k + 2))))) (sk σ j)) : RunsH G mL_policyOf hL_policyOf rL_policyOf [vR (some x), vI (nI k)] σ K :=
  hL_policyOf_run ok.1 ok.2.1 hQ.1.1.1 (c_policyOf ok.1 ok.2.2.1 hQ.1.1 hQ.1.2.1 (fun q => absurd (hQ.sh hk) q) (fun k' hk4 e e2 => by obtain rfl := hQ.kk hk hk4 e; exact ⟨_, rfl, h 0⟩))
theorem o_policyOf (ok : OKS G) (hQ : QS σ x A b n) {s : Int32} (hs : ¬ shP (aP A) s) (h : ∀ j, K (.inl (some (vI (-11)))) (sk σ j)) : RunsH G mL_policyOf hL_policyOf rL_policyOf [vR (some x), vI (s)] σ K :=
  hL_policyOf_run ok.1 ok.2.1 hQ.1.1.1 (c_policyOf ok.1 ok.2.2.1 hQ.1.1 hQ.1.2.1 (fun _ j => ⟨0, -11, rfl, h j⟩) (fun k' hk4 e e2 => absurd (by rw [e]; exact shP_lt hQ.shB hk4 e2) hs))
theorem d_policyOf (ok : OKS G) (hQ : QS σ x A b n) {k : Nat} (hk : k < n) (h : K (.inl (some (vI (aP A (86 + 187 * k + 2))))) σ) : Runs G mX8_policyOf rX8_policyOf [vR (some x), vI (nI k)] σ K :=
  c_policyOf ok.1 ok.2.2.1 hQ.1.1 hQ.1.2.1 (fun q => absurd (hQ.sh hk) q) (fun k' hk4 e e2 => by obtain rfl := hQ.kk hk hk4 e; exact h)
theorem q_isListening (ok : OKS G) (hQ : QS σ x A b n) {k : Nat} (hk : k < n) (h : ∀ j, K (.inl (some (vI (zo (aP A (86 + 187 * k + 3)))))) (sk σ j)) : RunsH G mL_isListening hL_isListening rL_isListening [vR (some x), vI (nI k)] σ K :=
  hL_isListening_run ok.1 ok.2.1 hQ.1.1.1 (c_isListening ok.1 ok.2.2.1 hQ.1.1 hQ.1.2.1 (fun q => absurd (hQ.sh hk) q) (fun k' hk4 e e2 => by obtain rfl := hQ.kk hk hk4 e; exact ⟨_, rfl, h 0⟩))
theorem o_isListening (ok : OKS G) (hQ : QS σ x A b n) {s : Int32} (hs : ¬ shP (aP A) s) (h : ∀ j, K (.inl (some (vI (-11)))) (sk σ j)) : RunsH G mL_isListening hL_isListening rL_isListening [vR (some x), vI (s)] σ K :=
  hL_isListening_run ok.1 ok.2.1 hQ.1.1.1 (c_isListening ok.1 ok.2.2.1 hQ.1.1 hQ.1.2.1 (fun _ j => ⟨0, -11, rfl, h j⟩) (fun k' hk4 e e2 => absurd (by rw [e]; exact shP_lt hQ.shB hk4 e2) hs))
theorem d_isListening (ok : OKS G) (hQ : QS σ x A b n) {k : Nat} (hk : k < n) (h : K (.inl (some (vI (aP A (86 + 187 * k + 3))))) σ) : Runs G mX8_isListening rX8_isListening [vR (some x), vI (nI k)] σ K :=
  c_isListening ok.1 ok.2.2.1 hQ.1.1 hQ.1.2.1 (fun q => absurd (hQ.sh hk) q) (fun k' hk4 e e2 => by obtain rfl := hQ.kk hk hk4 e; exact h)
theorem q_echoCount (ok : OKS G) (hQ : QS σ x A b n) {k : Nat} (hk : k < n) (h : ∀ j, K (.inl (some (vI (nI (ecN (aP A) k))))) (sk σ j)) : RunsH G mL_echoCount hL_echoCount rL_echoCount [vR (some x), vI (nI k)] σ K :=
  hL_echoCount_run ok.1 ok.2.1 hQ.1.1.1 (c_echoCount ok.1 ok.2.2.1 hQ.1.1 hQ.1.2.1 (fun q => absurd (hQ.sh hk) q) (fun k' hk4 e e2 => by obtain rfl := hQ.kk hk hk4 e; exact ⟨_, rfl, h 0⟩))
theorem o_echoCount (ok : OKS G) (hQ : QS σ x A b n) {s : Int32} (hs : ¬ shP (aP A) s) (h : ∀ j, K (.inl (some (vI (-11)))) (sk σ j)) : RunsH G mL_echoCount hL_echoCount rL_echoCount [vR (some x), vI (s)] σ K :=
  hL_echoCount_run ok.1 ok.2.1 hQ.1.1.1 (c_echoCount ok.1 ok.2.2.1 hQ.1.1 hQ.1.2.1 (fun _ j => ⟨0, -11, rfl, h j⟩) (fun k' hk4 e e2 => absurd (by rw [e]; exact shP_lt hQ.shB hk4 e2) hs))
theorem d_echoCount (ok : OKS G) (hQ : QS σ x A b n) {k : Nat} (hk : k < n) (h : K (.inl (some (vI (nI (ecN (aP A) k))))) σ) : Runs G mX8_echoCount rX8_echoCount [vR (some x), vI (nI k)] σ K :=
  c_echoCount ok.1 ok.2.2.1 hQ.1.1 hQ.1.2.1 (fun q => absurd (hQ.sh hk) q) (fun k' hk4 e e2 => by obtain rfl := hQ.kk hk hk4 e; exact h)
theorem q_hasEcho (ok : OKS G) (hQ : QS σ x A b n) {k : Nat} {y : Int32} (hk : k < n) (h : ∀ j, K (.inl (some (vI (zo (bP (ecP (aP A) k y)))))) (sk σ j)) : RunsH G mL_hasEcho hL_hasEcho rL_hasEcho [vR (some x), vI (nI k), vI (y)] σ K :=
  hL_hasEcho_run ok.1 ok.2.1 hQ.1.1.1 (c_hasEcho ok.1 ok.2.2.1 hQ.1.1 hQ.1.2.1 (fun q => absurd (hQ.sh hk) q) (fun k' hk4 e e2 => by obtain rfl := hQ.kk hk hk4 e; exact ⟨_, rfl, h 0⟩))
theorem o_hasEcho (ok : OKS G) (hQ : QS σ x A b n) {s y : Int32} (hs : ¬ shP (aP A) s) (h : ∀ j, K (.inl (some (vI (-11)))) (sk σ j)) : RunsH G mL_hasEcho hL_hasEcho rL_hasEcho [vR (some x), vI (s), vI (y)] σ K :=
  hL_hasEcho_run ok.1 ok.2.1 hQ.1.1.1 (c_hasEcho ok.1 ok.2.2.1 hQ.1.1 hQ.1.2.1 (fun _ j => ⟨0, -11, rfl, h j⟩) (fun k' hk4 e e2 => absurd (by rw [e]; exact shP_lt hQ.shB hk4 e2) hs))
theorem q_echoOf (ok : OKS G) (hQ : QS σ x A b n) {k l : Nat} (hk : k < n) (hl : l < 26) (h : ∀ j, K (.inl (some (vI (qE (aP A) k l (aP A (eX k l + 1)))))) (sk σ j)) : RunsH G mL_echoOf hL_echoOf rL_echoOf [vR (some x), vI (nI k), vI (nI (97 + l))] σ K :=
  hL_echoOf_run ok.1 ok.2.1 hQ.1.1.1 (c_echoOf ok.1 ok.2.2.1 hQ.1.1 hQ.1.2.1 (fun q => absurd (hQ.sh hk) q) (fun k' hk4 e e2 q j => by obtain rfl := hQ.kk hk hk4 e; have := h j; rw [qE_f fun hp => q ⟨l, hl, rfl, hp⟩] at this; exact ⟨1, -13, rfl, this⟩) (fun k' l' hk4 hl' e e1 e2 hp => by obtain rfl := hQ.kk hk hk4 e; obtain rfl := nIl_inj hl hl' e1; have := h 0; rw [qE_t hp] at this; exact ⟨_, rfl, this⟩))
theorem o_echoOf (ok : OKS G) (hQ : QS σ x A b n) {s y : Int32} (hs : ¬ shP (aP A) s) (h : ∀ j, K (.inl (some (vI (-11)))) (sk σ j)) : RunsH G mL_echoOf hL_echoOf rL_echoOf [vR (some x), vI (s), vI (y)] σ K :=
  hL_echoOf_run ok.1 ok.2.1 hQ.1.1.1 (c_echoOf ok.1 ok.2.2.1 hQ.1.1 hQ.1.2.1 (fun _ j => ⟨0, -11, rfl, h j⟩) (fun k' hk4 e e2 => absurd (by rw [e]; exact shP_lt hQ.shB hk4 e2) hs) (fun k' l' hk4 hl' e e1 e2 hp => absurd (by rw [e]; exact shP_lt hQ.shB hk4 e2) hs))
theorem d_echoOf (ok : OKS G) (hQ : QS σ x A b n) {k l : Nat} (hk : k < n) (hl : l < 26) (hp : aP A (eX k l) = 1) (h : K (.inl (some (vI (aP A (eX k l + 1))))) σ) : Runs G mX8_echoOf rX8_echoOf [vR (some x), vI (nI k), vI (nI (97 + l))] σ K :=
  c_echoOf ok.1 ok.2.2.1 hQ.1.1 hQ.1.2.1 (fun q => absurd (hQ.sh hk) q) (fun k' hk4 e e2 q => by obtain rfl := hQ.kk hk hk4 e; exact absurd ⟨l, hl, rfl, hp⟩ q) (fun k' l' hk4 hl' e e1 e2 hp => by obtain rfl := hQ.kk hk hk4 e; obtain rfl := nIl_inj hl hl' e1; exact h)
theorem q_ageOf (ok : OKS G) (hQ : QS σ x A b n) {k l : Nat} (hk : k < n) (hl : l < 26) (h : ∀ j, K (.inl (some (vI (qE (aP A) k l (aP A 2 - aP A (eX k l + 2)))))) (sk σ j)) : RunsH G mL_ageOf hL_ageOf rL_ageOf [vR (some x), vI (nI k), vI (nI (97 + l))] σ K :=
  hL_ageOf_run ok.1 ok.2.1 hQ.1.1.1 (c_ageOf ok.1 ok.2.2.1 hQ.1.1 hQ.1.2.1 (fun q => absurd (hQ.sh hk) q) (fun k' hk4 e e2 q j => by obtain rfl := hQ.kk hk hk4 e; have := h j; rw [qE_f fun hp => q ⟨l, hl, rfl, hp⟩] at this; exact ⟨1, -13, rfl, this⟩) (fun k' l' hk4 hl' e e1 e2 hp => by obtain rfl := hQ.kk hk hk4 e; obtain rfl := nIl_inj hl hl' e1; have := h 0; rw [qE_t hp] at this; exact ⟨_, rfl, this⟩))
theorem o_ageOf (ok : OKS G) (hQ : QS σ x A b n) {s y : Int32} (hs : ¬ shP (aP A) s) (h : ∀ j, K (.inl (some (vI (-11)))) (sk σ j)) : RunsH G mL_ageOf hL_ageOf rL_ageOf [vR (some x), vI (s), vI (y)] σ K :=
  hL_ageOf_run ok.1 ok.2.1 hQ.1.1.1 (c_ageOf ok.1 ok.2.2.1 hQ.1.1 hQ.1.2.1 (fun _ j => ⟨0, -11, rfl, h j⟩) (fun k' hk4 e e2 => absurd (by rw [e]; exact shP_lt hQ.shB hk4 e2) hs) (fun k' l' hk4 hl' e e1 e2 hp => absurd (by rw [e]; exact shP_lt hQ.shB hk4 e2) hs))
theorem d_ageOf (ok : OKS G) (hQ : QS σ x A b n) {k l : Nat} (hk : k < n) (hl : l < 26) (hp : aP A (eX k l) = 1) (h : K (.inl (some (vI (aP A 2 - aP A (eX k l + 2))))) σ) : Runs G mX8_ageOf rX8_ageOf [vR (some x), vI (nI k), vI (nI (97 + l))] σ K :=
  c_ageOf ok.1 ok.2.2.1 hQ.1.1 hQ.1.2.1 (fun q => absurd (hQ.sh hk) q) (fun k' hk4 e e2 q => by obtain rfl := hQ.kk hk hk4 e; exact absurd ⟨l, hl, rfl, hp⟩ q) (fun k' l' hk4 hl' e e1 e2 hp => by obtain rfl := hQ.kk hk hk4 e; obtain rfl := nIl_inj hl hl' e1; exact h)
theorem q_hitsOf (ok : OKS G) (hQ : QS σ x A b n) {k l : Nat} (hk : k < n) (hl : l < 26) (h : ∀ j, K (.inl (some (vI (qE (aP A) k l (aP A (eX k l + 5)))))) (sk σ j)) : RunsH G mL_hitsOf hL_hitsOf rL_hitsOf [vR (some x), vI (nI k), vI (nI (97 + l))] σ K :=
  hL_hitsOf_run ok.1 ok.2.1 hQ.1.1.1 (c_hitsOf ok.1 ok.2.2.1 hQ.1.1 hQ.1.2.1 (fun q => absurd (hQ.sh hk) q) (fun k' hk4 e e2 q j => by obtain rfl := hQ.kk hk hk4 e; have := h j; rw [qE_f fun hp => q ⟨l, hl, rfl, hp⟩] at this; exact ⟨1, -13, rfl, this⟩) (fun k' l' hk4 hl' e e1 e2 hp => by obtain rfl := hQ.kk hk hk4 e; obtain rfl := nIl_inj hl hl' e1; have := h 0; rw [qE_t hp] at this; exact ⟨_, rfl, this⟩))
theorem o_hitsOf (ok : OKS G) (hQ : QS σ x A b n) {s y : Int32} (hs : ¬ shP (aP A) s) (h : ∀ j, K (.inl (some (vI (-11)))) (sk σ j)) : RunsH G mL_hitsOf hL_hitsOf rL_hitsOf [vR (some x), vI (s), vI (y)] σ K :=
  hL_hitsOf_run ok.1 ok.2.1 hQ.1.1.1 (c_hitsOf ok.1 ok.2.2.1 hQ.1.1 hQ.1.2.1 (fun _ j => ⟨0, -11, rfl, h j⟩) (fun k' hk4 e e2 => absurd (by rw [e]; exact shP_lt hQ.shB hk4 e2) hs) (fun k' l' hk4 hl' e e1 e2 hp => absurd (by rw [e]; exact shP_lt hQ.shB hk4 e2) hs))
theorem d_hitsOf (ok : OKS G) (hQ : QS σ x A b n) {k l : Nat} (hk : k < n) (hl : l < 26) (hp : aP A (eX k l) = 1) (h : K (.inl (some (vI (aP A (eX k l + 5))))) σ) : Runs G mX8_hitsOf rX8_hitsOf [vR (some x), vI (nI k), vI (nI (97 + l))] σ K :=
  c_hitsOf ok.1 ok.2.2.1 hQ.1.1 hQ.1.2.1 (fun q => absurd (hQ.sh hk) q) (fun k' hk4 e e2 q => by obtain rfl := hQ.kk hk hk4 e; exact absurd ⟨l, hl, rfl, hp⟩ q) (fun k' l' hk4 hl' e e1 e2 hp => by obtain rfl := hQ.kk hk hk4 e; obtain rfl := nIl_inj hl hl' e1; exact h)
theorem q_isOpen (ok : OKS G) (hQ : QS σ x A b n) {k l : Nat} (hk : k < n) (hl : l < 26) (h : ∀ j, K (.inl (some (vI (qE (aP A) k l (zo (aP A (eX k l + 6))))))) (sk σ j)) : RunsH G mL_isOpen hL_isOpen rL_isOpen [vR (some x), vI (nI k), vI (nI (97 + l))] σ K :=
  hL_isOpen_run ok.1 ok.2.1 hQ.1.1.1 (c_isOpen ok.1 ok.2.2.1 hQ.1.1 hQ.1.2.1 (fun q => absurd (hQ.sh hk) q) (fun k' hk4 e e2 q j => by obtain rfl := hQ.kk hk hk4 e; have := h j; rw [qE_f fun hp => q ⟨l, hl, rfl, hp⟩] at this; exact ⟨1, -13, rfl, this⟩) (fun k' l' hk4 hl' e e1 e2 hp => by obtain rfl := hQ.kk hk hk4 e; obtain rfl := nIl_inj hl hl' e1; have := h 0; rw [qE_t hp] at this; exact ⟨_, rfl, this⟩))
theorem o_isOpen (ok : OKS G) (hQ : QS σ x A b n) {s y : Int32} (hs : ¬ shP (aP A) s) (h : ∀ j, K (.inl (some (vI (-11)))) (sk σ j)) : RunsH G mL_isOpen hL_isOpen rL_isOpen [vR (some x), vI (s), vI (y)] σ K :=
  hL_isOpen_run ok.1 ok.2.1 hQ.1.1.1 (c_isOpen ok.1 ok.2.2.1 hQ.1.1 hQ.1.2.1 (fun _ j => ⟨0, -11, rfl, h j⟩) (fun k' hk4 e e2 => absurd (by rw [e]; exact shP_lt hQ.shB hk4 e2) hs) (fun k' l' hk4 hl' e e1 e2 hp => absurd (by rw [e]; exact shP_lt hQ.shB hk4 e2) hs))
theorem d_isOpen (ok : OKS G) (hQ : QS σ x A b n) {k l : Nat} (hk : k < n) (hl : l < 26) (hp : aP A (eX k l) = 1) (h : K (.inl (some (vI (aP A (eX k l + 6))))) σ) : Runs G mX8_isOpen rX8_isOpen [vR (some x), vI (nI k), vI (nI (97 + l))] σ K :=
  c_isOpen ok.1 ok.2.2.1 hQ.1.1 hQ.1.2.1 (fun q => absurd (hQ.sh hk) q) (fun k' hk4 e e2 q => by obtain rfl := hQ.kk hk hk4 e; exact absurd ⟨l, hl, rfl, hp⟩ q) (fun k' l' hk4 hl' e e1 e2 hp => by obtain rfl := hQ.kk hk hk4 e; obtain rfl := nIl_inj hl hl' e1; exact h)
theorem q_isExpired (ok : OKS G) (hQ : QS σ x A b n) {k l : Nat} (hk : k < n) (hl : l < 26) (h : ∀ j, K (.inl (some (vI (qE (aP A) k l (zo (bP (ovP (aP A) k l))))))) (sk σ j)) : RunsH G mL_isExpired hL_isExpired rL_isExpired [vR (some x), vI (nI k), vI (nI (97 + l))] σ K :=
  hL_isExpired_run ok.1 ok.2.1 hQ.1.1.1 (c_isExpired ok.1 ok.2.2.1 hQ.1.1 hQ.1.2.1 (fun q => absurd (hQ.sh hk) q) (fun k' hk4 e e2 q j => by obtain rfl := hQ.kk hk hk4 e; have := h j; rw [qE_f fun hp => q ⟨l, hl, rfl, hp⟩] at this; exact ⟨1, -13, rfl, this⟩) (fun k' l' hk4 hl' e e1 e2 hp => by obtain rfl := hQ.kk hk hk4 e; obtain rfl := nIl_inj hl hl' e1; have := h 0; rw [qE_t hp] at this; exact ⟨_, rfl, this⟩))
theorem o_isExpired (ok : OKS G) (hQ : QS σ x A b n) {s y : Int32} (hs : ¬ shP (aP A) s) (h : ∀ j, K (.inl (some (vI (-11)))) (sk σ j)) : RunsH G mL_isExpired hL_isExpired rL_isExpired [vR (some x), vI (s), vI (y)] σ K :=
  hL_isExpired_run ok.1 ok.2.1 hQ.1.1.1 (c_isExpired ok.1 ok.2.2.1 hQ.1.1 hQ.1.2.1 (fun _ j => ⟨0, -11, rfl, h j⟩) (fun k' hk4 e e2 => absurd (by rw [e]; exact shP_lt hQ.shB hk4 e2) hs) (fun k' l' hk4 hl' e e1 e2 hp => absurd (by rw [e]; exact shP_lt hQ.shB hk4 e2) hs))
theorem d_isExpired (ok : OKS G) (hQ : QS σ x A b n) {k l : Nat} (hk : k < n) (hl : l < 26) (hp : aP A (eX k l) = 1) (h : K (.inl (some (vI (bP (ovP (aP A) k l))))) σ) : Runs G mX8_isExpired rX8_isExpired [vR (some x), vI (nI k), vI (nI (97 + l))] σ K :=
  c_isExpired ok.1 ok.2.2.1 hQ.1.1 hQ.1.2.1 (fun q => absurd (hQ.sh hk) q) (fun k' hk4 e e2 q => by obtain rfl := hQ.kk hk hk4 e; exact absurd ⟨l, hl, rfl, hp⟩ q) (fun k' l' hk4 hl' e e1 e2 hp => by obtain rfl := hQ.kk hk hk4 e; obtain rfl := nIl_inj hl hl' e1; exact h)
theorem q_isTrue (ok : OKS G) (hQ : QS σ x A b n) {k l : Nat} (hk : k < n) (hl : l < 26) (h : ∀ j, K (.inl (some (vI (qE (aP A) k l (zo (bP (aP A (8 + 3 * l + 2) < aP A (eX k l + 3)))))))) (sk σ j)) : RunsH G mL_isTrue hL_isTrue rL_isTrue [vR (some x), vI (nI k), vI (nI (97 + l))] σ K :=
  hL_isTrue_run ok.1 ok.2.1 hQ.1.1.1 (c_isTrue ok.1 ok.2.2.1 hQ.1.1 hQ.1.2.1 (fun q => absurd (hQ.sh hk) q) (fun k' hk4 e e2 q j => by obtain rfl := hQ.kk hk hk4 e; have := h j; rw [qE_f fun hp => q ⟨l, hl, rfl, hp⟩] at this; exact ⟨1, -13, rfl, this⟩) (fun k' l' hk4 hl' e e1 e2 hp => by obtain rfl := hQ.kk hk hk4 e; obtain rfl := nIl_inj hl hl' e1; have := h 0; rw [qE_t hp] at this; exact ⟨_, rfl, this⟩))
theorem o_isTrue (ok : OKS G) (hQ : QS σ x A b n) {s y : Int32} (hs : ¬ shP (aP A) s) (h : ∀ j, K (.inl (some (vI (-11)))) (sk σ j)) : RunsH G mL_isTrue hL_isTrue rL_isTrue [vR (some x), vI (s), vI (y)] σ K :=
  hL_isTrue_run ok.1 ok.2.1 hQ.1.1.1 (c_isTrue ok.1 ok.2.2.1 hQ.1.1 hQ.1.2.1 (fun _ j => ⟨0, -11, rfl, h j⟩) (fun k' hk4 e e2 => absurd (by rw [e]; exact shP_lt hQ.shB hk4 e2) hs) (fun k' l' hk4 hl' e e1 e2 hp => absurd (by rw [e]; exact shP_lt hQ.shB hk4 e2) hs))
theorem d_isTrue (ok : OKS G) (hQ : QS σ x A b n) {k l : Nat} (hk : k < n) (hl : l < 26) (hp : aP A (eX k l) = 1) (h : K (.inl (some (vI (bP (aP A (8 + 3 * l + 2) < aP A (eX k l + 3)))))) σ) : Runs G mX8_isTrue rX8_isTrue [vR (some x), vI (nI k), vI (nI (97 + l))] σ K :=
  c_isTrue ok.1 ok.2.2.1 hQ.1.1 hQ.1.2.1 (fun q => absurd (hQ.sh hk) q) (fun k' hk4 e e2 q => by obtain rfl := hQ.kk hk hk4 e; exact absurd ⟨l, hl, rfl, hp⟩ q) (fun k' l' hk4 hl' e e1 e2 hp => by obtain rfl := hQ.kk hk hk4 e; obtain rfl := nIl_inj hl hl' e1; exact h)
theorem q_bySteps (ok : OKS G) (hQ : QS σ x A b n) {k l : Nat} (hk : k < n) (hl : l < 26) (h : ∀ j, K (.inl (some (vI (qE (aP A) k l (zo (bP (aP A (8 + 3 * l + 2) < aP A (eX k l + 3)))))))) (sk σ j)) : RunsH G mL_bySteps hL_bySteps rL_bySteps [vR (some x), vI (nI k), vI (nI (97 + l))] σ K :=
  hL_bySteps_run ok.1 ok.2.1 hQ.1.1.1 (c_isTrueBySteps ok.1 ok.2.2.1 hQ.1.1 hQ.1.2.1 (fun q => absurd (hQ.sh hk) q) (fun k' hk4 e e2 q j => by obtain rfl := hQ.kk hk hk4 e; have := h j; rw [qE_f fun hp => q ⟨l, hl, rfl, hp⟩] at this; exact ⟨1, -13, rfl, this⟩) (fun k' l' hk4 hl' e e1 e2 hp => by obtain rfl := hQ.kk hk hk4 e; obtain rfl := nIl_inj hl hl' e1; have := h 0; rw [qE_t hp] at this; exact ⟨_, rfl, this⟩))
theorem o_bySteps (ok : OKS G) (hQ : QS σ x A b n) {s y : Int32} (hs : ¬ shP (aP A) s) (h : ∀ j, K (.inl (some (vI (-11)))) (sk σ j)) : RunsH G mL_bySteps hL_bySteps rL_bySteps [vR (some x), vI (s), vI (y)] σ K :=
  hL_bySteps_run ok.1 ok.2.1 hQ.1.1.1 (c_isTrueBySteps ok.1 ok.2.2.1 hQ.1.1 hQ.1.2.1 (fun _ j => ⟨0, -11, rfl, h j⟩) (fun k' hk4 e e2 => absurd (by rw [e]; exact shP_lt hQ.shB hk4 e2) hs) (fun k' l' hk4 hl' e e1 e2 hp => absurd (by rw [e]; exact shP_lt hQ.shB hk4 e2) hs))
theorem d_isTrueBySteps (ok : OKS G) (hQ : QS σ x A b n) {k l : Nat} (hk : k < n) (hl : l < 26) (hp : aP A (eX k l) = 1) (h : K (.inl (some (vI (bP (aP A (8 + 3 * l + 2) < aP A (eX k l + 3)))))) σ) : Runs G mX8_isTrueBySteps rX8_isTrueBySteps [vR (some x), vI (nI k), vI (nI (97 + l))] σ K :=
  c_isTrueBySteps ok.1 ok.2.2.1 hQ.1.1 hQ.1.2.1 (fun q => absurd (hQ.sh hk) q) (fun k' hk4 e e2 q => by obtain rfl := hQ.kk hk hk4 e; exact absurd ⟨l, hl, rfl, hp⟩ q) (fun k' l' hk4 hl' e e1 e2 hp => by obtain rfl := hQ.kk hk hk4 e; obtain rfl := nIl_inj hl hl' e1; exact h)
theorem q_echoAt (ok : OKS G) (hQ : QS σ x A b n) {k i l : Nat} (hk : k < n) (hi : i < ecN (aP A) k) (hl : nth (eP (aP A) k) i 26 = some l) (h : ∀ j, K (.inl (some (vI (nI (97 + l))))) (sk σ j)) : RunsH G mL_echoAt hL_echoAt rL_echoAt [vR (some x), vI (nI k), vI (nI i)] σ K :=
  hL_echoAt_run ok.1 ok.2.1 hQ.1.1.1 (c_echoAt ok.1 ok.2.2.1 hQ.1.1 hQ.1.2.1 (fun q => absurd (hQ.sh hk) q) (fun k' hk4 e e2 q => by obtain rfl := hQ.kk hk hk4 e; exact absurd ⟨i, hi, rfl⟩ q) (fun k' i' l' hk4 e e2 hi' e1 hl' hn' => by obtain rfl := hQ.kk hk hk4 e; obtain rfl := (nI_eq (by have := cnt_le (fun l => aP A (eX k l) = 1) 26; unfold ecN at hi; omega) (by have := cnt_le (fun l => aP A (eX k l) = 1) 26; unfold ecN at hi'; omega)).mp e1; cases hl.symm.trans hn'; exact ⟨_, rfl, h 0⟩))
theorem d_echoAt (ok : OKS G) (hQ : QS σ x A b n) {k i l : Nat} (hk : k < n) (hi : i < ecN (aP A) k) (hl : nth (eP (aP A) k) i 26 = some l) (h : K (.inl (some (vI (nI (97 + l))))) σ) : Runs G mX8_echoAt rX8_echoAt [vR (some x), vI (nI k), vI (nI i)] σ K :=
  c_echoAt ok.1 ok.2.2.1 hQ.1.1 hQ.1.2.1 (fun q => absurd (hQ.sh hk) q) (fun k' hk4 e e2 q => by obtain rfl := hQ.kk hk hk4 e; exact absurd ⟨i, hi, rfl⟩ q) (fun k' i' l' hk4 e e2 hi' e1 hl' hn' => by obtain rfl := hQ.kk hk hk4 e; obtain rfl := (nI_eq (by have := cnt_le (fun l => aP A (eX k l) = 1) 26; unfold ecN at hi; omega) (by have := cnt_le (fun l => aP A (eX k l) = 1) 26; unfold ecN at hi'; omega)).mp e1; cases hl.symm.trans hn'; exact h)
theorem e_echoAt (ok : OKS G) (hQ : QS σ x A b n) {k : Nat} (hk : k < n) (h : ∀ j, K (.inl (some (vI (-13)))) (sk σ j)) : RunsH G mL_echoAt hL_echoAt rL_echoAt [vR (some x), vI (nI k), vI (nI (ecN (aP A) k))] σ K :=
  hL_echoAt_run ok.1 ok.2.1 hQ.1.1.1 (c_echoAt ok.1 ok.2.2.1 hQ.1.1 hQ.1.2.1 (fun q => absurd (hQ.sh hk) q) (fun k' hk4 e e2 q j => ⟨1, -13, rfl, h j⟩) (fun k' i' l' hk4 e e2 hi' e1 hl' hn' => by obtain rfl := hQ.kk hk hk4 e; have := (nI_eq (by have := cnt_le (fun l => aP A (eX k l) = 1) 26; unfold ecN; omega) (by have := cnt_le (fun l => aP A (eX k l) = 1) 26; unfold ecN at hi'; omega)).mp e1; omega))
theorem o_echoAt (ok : OKS G) (hQ : QS σ x A b n) {s y : Int32} (hs : ¬ shP (aP A) s) (h : ∀ j, K (.inl (some (vI (-11)))) (sk σ j)) : RunsH G mL_echoAt hL_echoAt rL_echoAt [vR (some x), vI (s), vI (y)] σ K :=
  hL_echoAt_run ok.1 ok.2.1 hQ.1.1.1 (c_echoAt ok.1 ok.2.2.1 hQ.1.1 hQ.1.2.1 (fun _ j => ⟨0, -11, rfl, h j⟩) (fun k' hk4 e e2 => absurd (by rw [e]; exact shP_lt hQ.shB hk4 e2) hs) (fun k' i' l' hk4 e e2 => absurd (by rw [e]; exact shP_lt hQ.shB hk4 e2) hs))
theorem vc_no {P : Nat → Int32} {k v : Nat} (h : ecN P k = 0) (hv : v < 26) : ¬ P (eX k v) = 1 := fun hp => by
  have h1 : cnt (fun _ => False) 26 < cnt (fun l => P (eX k l) = 1) 26 := cnt_ltS (fun _ _ z => z.elim) ⟨v, hv, hp, id⟩
  have h2 : cnt (fun l => P (eX k l) = 1) 26 = 0 := h
  omega
theorem q_victimOf (ok : OKS G) (hQ : QS σ x A b n) {k : Nat} (hk : k < n) (h : ∀ j, K (.inl (some (vI (qV (vcN (aP A) k 26))))) (sk σ j)) : RunsH G mL_victimOf hL_victimOf rL_victimOf [vR (some x), vI (nI k)] σ K :=
  hL_victimOf_run ok.1 ok.2.1 hQ.1.1.1 (c_victimOf ok.1 ok.2.2.1 (Nat.lt_trans hQ.2.1 (by decide)) hQ.1.1 hQ.1.2.1 (fun q => absurd (hQ.sh hk) q) (fun k' hk4 e e2 q j => by obtain rfl := hQ.kk hk hk4 e; have h9 := h j; cases hv : vcN (aP A) k 26 with | none => (rw [hv] at h9; exact ⟨1, -13, rfl, h9⟩) | some v => (have := cnt_z (p := fun l => aP A (eX k l) = 1) (n := 26); exact absurd (vcN_lt hv).2 (vc_no q (vcN_lt hv).1))) (fun k' v hk4 hv26 e e2 hv => by obtain rfl := hQ.kk hk hk4 e; have h9 := h 0; rw [hv] at h9; exact ⟨_, rfl, h9⟩))
theorem o_victimOf (ok : OKS G) (hQ : QS σ x A b n) {s : Int32} (hs : ¬ shP (aP A) s) (h : ∀ j, K (.inl (some (vI (-11)))) (sk σ j)) : RunsH G mL_victimOf hL_victimOf rL_victimOf [vR (some x), vI (s)] σ K :=
  hL_victimOf_run ok.1 ok.2.1 hQ.1.1.1 (c_victimOf ok.1 ok.2.2.1 (Nat.lt_trans hQ.2.1 (by decide)) hQ.1.1 hQ.1.2.1 (fun _ j => ⟨0, -11, rfl, h j⟩) (fun k' hk4 e e2 => absurd (by rw [e]; exact shP_lt hQ.shB hk4 e2) hs) (fun k' v hk4 hv26 e e2 => absurd (by rw [e]; exact shP_lt hQ.shB hk4 e2) hs))
theorem q_byScan (ok : OKS G) (hQ : QS σ x A b n) {k : Nat} (hk : k < n) (h : ∀ j, K (.inl (some (vI (qV (vcN (aP A) k 26))))) (sk σ j)) : RunsH G mL_byScan hL_byScan rL_byScan [vR (some x), vI (nI k)] σ K :=
  hL_byScan_run ok.1 ok.2.1 hQ.1.1.1 (c_victimByScan ok.1 ok.2.2.1 (Nat.lt_trans hQ.2.1 (by decide)) hQ.1.1 hQ.1.2.1 (fun q => absurd (hQ.sh hk) q) (fun k' hk4 e e2 q j => by obtain rfl := hQ.kk hk hk4 e; have h9 := h j; cases hv : vcN (aP A) k 26 with | none => (rw [hv] at h9; exact ⟨1, -13, rfl, h9⟩) | some v => (have := cnt_z (p := fun l => aP A (eX k l) = 1) (n := 26); exact absurd (vcN_lt hv).2 (vc_no q (vcN_lt hv).1))) (fun k' v hk4 hv26 e e2 hv => by obtain rfl := hQ.kk hk hk4 e; have h9 := h 0; rw [hv] at h9; exact ⟨_, rfl, h9⟩))
theorem o_byScan (ok : OKS G) (hQ : QS σ x A b n) {s : Int32} (hs : ¬ shP (aP A) s) (h : ∀ j, K (.inl (some (vI (-11)))) (sk σ j)) : RunsH G mL_byScan hL_byScan rL_byScan [vR (some x), vI (s)] σ K :=
  hL_byScan_run ok.1 ok.2.1 hQ.1.1.1 (c_victimByScan ok.1 ok.2.2.1 (Nat.lt_trans hQ.2.1 (by decide)) hQ.1.1 hQ.1.2.1 (fun _ j => ⟨0, -11, rfl, h j⟩) (fun k' hk4 e e2 => absurd (by rw [e]; exact shP_lt hQ.shB hk4 e2) hs) (fun k' v hk4 hv26 e e2 => absurd (by rw [e]; exact shP_lt hQ.shB hk4 e2) hs))
theorem q_outcome (ok : OKS G) (hQ : QS σ x A b n) {k l : Nat} (hk : k < n) (hl : l < 26) (h : ∀ j, K (.inl (some (vI (qO (aP A) k l)))) (sk σ j)) : RunsH G mL_outcome hL_outcome rL_outcome [vR (some x), vI (nI k), vI (nI (97 + l))] σ K :=
  hL_outcome_run ok.1 ok.2.1 hQ.1.1.1 (c_outcomeOf ok.1 ok.2.2.1 hQ.1.1 hQ.1.2.1 (lt26 hl) (fun q => absurd (hQ.sh hk) q) (fun _ q j => by have h9 := h j; unfold qO at h9; rw [if_neg fun hp => q ⟨l, hl, rfl, hp⟩] at h9; exact ⟨1, -13, rfl, h9⟩) (fun k' l' hk4 hl' e e1 e2 hp => by obtain rfl := hQ.kk hk hk4 e; obtain rfl := nIl_inj hl hl' e1; have h9 := h 0; unfold qO at h9; rw [if_pos hp] at h9; exact ⟨_, rfl, h9⟩))
theorem o_outcome (ok : OKS G) (hQ : QS σ x A b n) {s y : Int32} (hy : isC y) (hs : ¬ shP (aP A) s) (h : ∀ j, K (.inl (some (vI (-11)))) (sk σ j)) : RunsH G mL_outcome hL_outcome rL_outcome [vR (some x), vI (s), vI (y)] σ K :=
  hL_outcome_run ok.1 ok.2.1 hQ.1.1.1 (c_outcomeOf ok.1 ok.2.2.1 hQ.1.1 hQ.1.2.1 hy (fun _ j => ⟨0, -11, rfl, h j⟩) (fun q => absurd q hs) (fun k' l' hk4 hl' e e1 e2 hp => absurd (by rw [e]; exact shP_lt hQ.shB hk4 e2) hs))
theorem q_wordOf (ok : OKS G) (hQ : QS σ x A b n) {l : Nat} (hl : l < 26) (h : ∀ j, K (.inl (some (vI (qW (aP A) l)))) (sk σ j)) : RunsH G mL_wordOf hL_wordOf rL_wordOf [vR (some x), vI (nI (97 + l))] σ K :=
  hL_wordOf_run ok.1 ok.2.1 hQ.1.1.1 (c_wordOf ok.1 ok.2.2.1 hQ.1.1 hQ.1.2.1 (lt26 hl) (fun q j => by have h9 := h j; unfold qW at h9; rw [if_neg fun hp => q ⟨l, hl, rfl, hp⟩] at h9; exact ⟨0, -13, rfl, h9⟩) (fun l' hl' e1 hp => by obtain rfl := nIl_inj hl hl' e1; have h9 := h 0; unfold qW at h9; rw [if_pos hp] at h9; exact ⟨_, rfl, h9⟩))
theorem o_wordOf (ok : OKS G) (hQ : QS σ x A b n) {y : Int32} (hy : isC y) (hn : ¬ isL y) (h : ∀ j, K (.inl (some (vI (-13)))) (sk σ j)) : RunsH G mL_wordOf hL_wordOf rL_wordOf [vR (some x), vI (y)] σ K :=
  hL_wordOf_run ok.1 ok.2.1 hQ.1.1.1 (c_wordOf ok.1 ok.2.2.1 hQ.1.1 hQ.1.2.1 hy (fun q j => ⟨0, -13, rfl, h j⟩) (fun l' hl' e1 hp => absurd ⟨l', hl', e1⟩ hn))
theorem d_wordOf (ok : OKS G) (hQ : QS σ x A b n) {l : Nat} (hl : l < 26) (hp : aP A (8 + 3 * l) = 1) (h : K (.inl (some (vI (aP A (8 + 3 * l + 1))))) σ) : Runs G mX8_wordOf rX8_wordOf [vR (some x), vI (nI (97 + l))] σ K :=
  c_wordOf ok.1 ok.2.2.1 hQ.1.1 hQ.1.2.1 (lt26 hl) (fun q => absurd ⟨l, hl, rfl, hp⟩ q) (fun l' hl' e1 hp => by obtain rfl := nIl_inj hl hl' e1; exact h)
theorem q_jarAt (ok : OKS G) (hQ : QS σ x A b n) {i l : Nat} (hi : i < jrN (aP A)) (hl : nth (jP (aP A)) i 26 = some l) (h : ∀ j, K (.inl (some (vI (nI (97 + l))))) (sk σ j)) : RunsH G mL_jarAt hL_jarAt rL_jarAt [vR (some x), vI (nI i)] σ K :=
  hL_jarAt_run ok.1 ok.2.1 hQ.1.1.1 (c_jarAt ok.1 ok.2.2.1 hQ.1.1 hQ.1.2.1 (fun q => absurd ⟨i, hi, rfl⟩ q) (fun i' l' hi' e1 hl' hn' => by obtain rfl := (nI_eq (by have := cnt_le (fun l => aP A (8 + 3 * l) = 1) 26; unfold jrN at hi; omega) (by have := cnt_le (fun l => aP A (8 + 3 * l) = 1) 26; unfold jrN at hi'; omega)).mp e1; cases hl.symm.trans hn'; exact ⟨_, rfl, h 0⟩))
theorem d_jarAt (ok : OKS G) (hQ : QS σ x A b n) {i l : Nat} (hi : i < jrN (aP A)) (hl : nth (jP (aP A)) i 26 = some l) (h : K (.inl (some (vI (nI (97 + l))))) σ) : Runs G mX8_jarAt rX8_jarAt [vR (some x), vI (nI i)] σ K :=
  c_jarAt ok.1 ok.2.2.1 hQ.1.1 hQ.1.2.1 (fun q => absurd ⟨i, hi, rfl⟩ q) (fun i' l' hi' e1 hl' hn' => by obtain rfl := (nI_eq (by have := cnt_le (fun l => aP A (8 + 3 * l) = 1) 26; unfold jrN at hi; omega) (by have := cnt_le (fun l => aP A (8 + 3 * l) = 1) 26; unfold jrN at hi'; omega)).mp e1; cases hl.symm.trans hn'; exact h)
theorem o_jarAt (ok : OKS G) (hQ : QS σ x A b n) {s : Int32} (hs : ¬ ∃ i : Nat, i < jrN (aP A) ∧ s = nI i) (h : ∀ j, K (.inl (some (vI (-11)))) (sk σ j)) : RunsH G mL_jarAt hL_jarAt rL_jarAt [vR (some x), vI (s)] σ K :=
  hL_jarAt_run ok.1 ok.2.1 hQ.1.1.1 (c_jarAt ok.1 ok.2.2.1 hQ.1.1 hQ.1.2.1 (fun _ j => ⟨0, -11, rfl, h j⟩) (fun i' l' hi' e1 hl' hn' => absurd ⟨i', hi', e1⟩ hs))
theorem q_minuteAt (ok : OKS G) (hQ : QS σ x A b n) {m i : Nat} (hP1 : aP A 1 = nI m) (hm8 : m ≤ 8) (hi : i < m) (h : ∀ j, K (.inl (some (vI (aP A (834 + 3 * i))))) (sk σ j)) : RunsH G mL_minuteAt hL_minuteAt rL_minuteAt [vR (some x), vI (nI i)] σ K :=
  hL_minuteAt_run ok.1 ok.2.1 hQ.1.1.1 (c_warmingMinute ok.1 ok.2.2.1 hQ.1.1 hQ.1.2.1 hP1 hm8 (fun q => absurd ⟨i, hi, rfl⟩ q) (fun i' hi' e1 => by obtain rfl := (nI_eq (by omega) (by omega)).mp e1; exact ⟨_, rfl, h 0⟩))
theorem d_warmingMinute (ok : OKS G) (hQ : QS σ x A b n) {m i : Nat} (hP1 : aP A 1 = nI m) (hm8 : m ≤ 8) (hi : i < m) (h : K (.inl (some (vI (aP A (834 + 3 * i))))) σ) : Runs G mX8_warmingMinute rX8_warmingMinute [vR (some x), vI (nI i)] σ K :=
  c_warmingMinute ok.1 ok.2.2.1 hQ.1.1 hQ.1.2.1 hP1 hm8 (fun q => absurd ⟨i, hi, rfl⟩ q) (fun i' hi' e1 => by obtain rfl := (nI_eq (by omega) (by omega)).mp e1; exact h)
theorem o_minuteAt (ok : OKS G) (hQ : QS σ x A b n) {m : Nat} {s : Int32} (hP1 : aP A 1 = nI m) (hm8 : m ≤ 8) (hs : ¬ ∃ i : Nat, i < m ∧ s = nI i) (h : ∀ j, K (.inl (some (vI (-11)))) (sk σ j)) : RunsH G mL_minuteAt hL_minuteAt rL_minuteAt [vR (some x), vI (s)] σ K :=
  hL_minuteAt_run ok.1 ok.2.1 hQ.1.1.1 (c_warmingMinute ok.1 ok.2.2.1 hQ.1.1 hQ.1.2.1 hP1 hm8 (fun _ j => ⟨0, -11, rfl, h j⟩) (fun i' hi' e1 => absurd ⟨i', hi', e1⟩ hs))
theorem q_warmedAt (ok : OKS G) (hQ : QS σ x A b n) {m i : Nat} (hP1 : aP A 1 = nI m) (hm8 : m ≤ 8) (hi : i < m) (h : ∀ j, K (.inl (some (vI (i2c (aP A (834 + 3 * i + 2)))))) (sk σ j)) : RunsH G mL_warmedAt hL_warmedAt rL_warmedAt [vR (some x), vI (nI i)] σ K :=
  hL_warmedAt_run ok.1 ok.2.1 hQ.1.1.1 (c_warmingJar ok.1 ok.2.2.1 hQ.1.1 hQ.1.2.1 hP1 hm8 (fun q => absurd ⟨i, hi, rfl⟩ q) (fun i' hi' e1 => by obtain rfl := (nI_eq (by omega) (by omega)).mp e1; exact ⟨_, rfl, h 0⟩))
theorem d_warmingJar (ok : OKS G) (hQ : QS σ x A b n) {m i : Nat} (hP1 : aP A 1 = nI m) (hm8 : m ≤ 8) (hi : i < m) (h : K (.inl (some (vI (i2c (aP A (834 + 3 * i + 2)))))) σ) : Runs G mX8_warmingJar rX8_warmingJar [vR (some x), vI (nI i)] σ K :=
  c_warmingJar ok.1 ok.2.2.1 hQ.1.1 hQ.1.2.1 hP1 hm8 (fun q => absurd ⟨i, hi, rfl⟩ q) (fun i' hi' e1 => by obtain rfl := (nI_eq (by omega) (by omega)).mp e1; exact h)
theorem o_warmedAt (ok : OKS G) (hQ : QS σ x A b n) {m : Nat} {s : Int32} (hP1 : aP A 1 = nI m) (hm8 : m ≤ 8) (hs : ¬ ∃ i : Nat, i < m ∧ s = nI i) (h : ∀ j, K (.inl (some (vI (-11)))) (sk σ j)) : RunsH G mL_warmedAt hL_warmedAt rL_warmedAt [vR (some x), vI (s)] σ K :=
  hL_warmedAt_run ok.1 ok.2.1 hQ.1.1.1 (c_warmingJar ok.1 ok.2.2.1 hQ.1.1 hQ.1.2.1 hP1 hm8 (fun _ j => ⟨0, -11, rfl, h j⟩) (fun i' hi' e1 => absurd ⟨i', hi', e1⟩ hs))
theorem q_misses_c (ok : OKS G) (hQ : QS σ x A b n)  (h : ∀ j, K (.inl (some (vI (aP A 5)))) (sk σ j)) : RunsH G mL_misses hL_misses rL_misses [vR (some x), vI (99)] σ K :=
  hL_misses_run ok.1 ok.2.1 hQ.1.1.1 (c_misses ok.1 ok.2.2.1 hQ.1.1 hQ.1.2.1 (y := 99) (fun q _ _ => absurd rfl q) (fun _ => ⟨_, rfl, h 0⟩) (fun q => absurd q (by decide)) (fun q => absurd q (by decide)))
theorem d_misses_c (ok : OKS G) (hQ : QS σ x A b n)  (h : K (.inl (some (vI (aP A 5)))) σ) : Runs G mX8_misses rX8_misses [vR (some x), vI (99)] σ K :=
  c_misses ok.1 ok.2.2.1 hQ.1.1 hQ.1.2.1 (y := 99) (fun q _ _ => absurd rfl q) (fun _ => h) (fun q => absurd q (by decide)) (fun q => absurd q (by decide))
theorem q_misses_e (ok : OKS G) (hQ : QS σ x A b n)  (h : ∀ j, K (.inl (some (vI (aP A 6)))) (sk σ j)) : RunsH G mL_misses hL_misses rL_misses [vR (some x), vI (101)] σ K :=
  hL_misses_run ok.1 ok.2.1 hQ.1.1.1 (c_misses ok.1 ok.2.2.1 hQ.1.1 hQ.1.2.1 (y := 101) (fun _ q _ => absurd rfl q) (fun q => absurd q (by decide)) (fun _ => ⟨_, rfl, h 0⟩) (fun q => absurd q (by decide)))
theorem d_misses_e (ok : OKS G) (hQ : QS σ x A b n)  (h : K (.inl (some (vI (aP A 6)))) σ) : Runs G mX8_misses rX8_misses [vR (some x), vI (101)] σ K :=
  c_misses ok.1 ok.2.2.1 hQ.1.1 hQ.1.2.1 (y := 101) (fun _ q _ => absurd rfl q) (fun q => absurd q (by decide)) (fun _ => h) (fun q => absurd q (by decide))
theorem q_misses_o (ok : OKS G) (hQ : QS σ x A b n)  (h : ∀ j, K (.inl (some (vI (aP A 7)))) (sk σ j)) : RunsH G mL_misses hL_misses rL_misses [vR (some x), vI (111)] σ K :=
  hL_misses_run ok.1 ok.2.1 hQ.1.1.1 (c_misses ok.1 ok.2.2.1 hQ.1.1 hQ.1.2.1 (y := 111) (fun _ _ q => absurd rfl q) (fun q => absurd q (by decide)) (fun q => absurd q (by decide)) (fun _ => ⟨_, rfl, h 0⟩))
theorem d_misses_o (ok : OKS G) (hQ : QS σ x A b n)  (h : K (.inl (some (vI (aP A 7)))) σ) : Runs G mX8_misses rX8_misses [vR (some x), vI (111)] σ K :=
  c_misses ok.1 ok.2.2.1 hQ.1.1 hQ.1.2.1 (y := 111) (fun _ _ q => absurd rfl q) (fun q => absurd q (by decide)) (fun q => absurd q (by decide)) (fun _ => h)
theorem q_misses_h (ok : OKS G) (hQ : QS σ x A b n)  (h : ∀ j, K (.inl (some (vI (-12)))) (sk σ j)) : RunsH G mL_misses hL_misses rL_misses [vR (some x), vI (104)] σ K :=
  hL_misses_run ok.1 ok.2.1 hQ.1.1.1 (c_misses ok.1 ok.2.2.1 hQ.1.1 hQ.1.2.1 (y := 104) (fun _ _ _ j => ⟨0, -12, rfl, h j⟩) (fun q => absurd q (by decide)) (fun q => absurd q (by decide)) (fun q => absurd q (by decide)))
theorem q_byHits (ok : OKS G) (hQ : QS σ x A b n) {r : Nat} (hr : r < n) (h : ∀ j, K (.inl (some (vI (sbh (aP A) n r n)))) (sk σ j)) : RunsH G mL_byHits hL_byHits rL_byHits [vR (some x), vI (nI r)] σ K :=
  hL_byHits_run ok.1 ok.2.1 hQ.1.1.1 (c_shelfByHits ok.1 ok.2.2.1 (Nat.lt_trans hQ.2.1 (by decide)) hQ.1.1 hQ.1.2.1 hQ.2.2.1 hQ.2.2.2.1 (fun q => absurd (hQ.sh hr) q) (fun r' hr' e => by obtain rfl := (nI_eq (by have := hQ.2.2.2.1; omega) (by have := hQ.2.2.2.1; omega)).mp e; exact ⟨_, rfl, h 0⟩))
theorem o_byHits (ok : OKS G) (hQ : QS σ x A b n) {s : Int32} (hs : ¬ shP (aP A) s) (h : ∀ j, K (.inl (some (vI (-13)))) (sk σ j)) : RunsH G mL_byHits hL_byHits rL_byHits [vR (some x), vI (s)] σ K :=
  hL_byHits_run ok.1 ok.2.1 hQ.1.1.1 (c_shelfByHits ok.1 ok.2.2.1 (Nat.lt_trans hQ.2.1 (by decide)) hQ.1.1 hQ.1.2.1 hQ.2.2.1 hQ.2.2.2.1 (fun _ j => ⟨0, -13, rfl, h j⟩) (fun r' hr' e => absurd (by rw [e]; exact hQ.sh hr') hs))
theorem q_lineAt (ok : OKS G) (hQ : QS σ x A b n) {i : Nat} (hi : i < aln A) (h : ∀ j, K (.inl (some (vI (alt A i)))) (sk σ j)) : RunsH G mL_lineAt hL_lineAt rL_lineAt [vR (some x), vI (nI i)] σ K :=
  hL_lineAt_run ok.1 ok.2.1 hQ.1.1.1 (c_lineAt ok.1 ok.2.2.2 ok.2.2.1 hQ.2.2.2.2 hQ.1 (fun q => absurd ⟨i, hi, rfl⟩ q) (fun i' hi' e1 _ => by have h60 := hQ.1.2.2.2.2.2.2.2.2.2.1; obtain rfl := (nI_eq (by omega) (by omega)).mp e1; exact ⟨_, rfl, h 0⟩))
theorem o_lineAt (ok : OKS G) (hQ : QS σ x A b n) (h : ∀ j, K (.inl (some (vI (-11)))) (sk σ j)) : RunsH G mL_lineAt hL_lineAt rL_lineAt [vR (some x), vI (nI (aln A))] σ K :=
  hL_lineAt_run ok.1 ok.2.1 hQ.1.1.1 (c_lineAt ok.1 ok.2.2.2 ok.2.2.1 hQ.2.2.2.2 hQ.1 (fun _ j => ⟨0, -11, rfl, h j⟩) (fun i' hi' e1 _ => by have h60 := hQ.1.2.2.2.2.2.2.2.2.2.1; have := (nI_eq (by omega) (by omega)).mp e1; omega))
end QRY
