/-! ===== throws, copies ===== -/
def cpI (σ : Mm) (a0 sp a dp n : Nat) : Mm := (fun b k => if b = a then va_cpy (mi σ a0) (mi σ a) sp dp n k else mi σ b k, mr σ, ml σ, md σ, mt σ, mz σ)
section RWX
variable {G : GG} {M : SIG} {rm : Room} {uc us pc : Nat} {L : List (Option VV)} {S : List VV} {σ : Mm} {K : RES → Mm → Prop}
theorem s_throw (gk : GOK G) (hst : STR G) {ik is ic : Nat} {cls text : String} {names : List String} (h : tOk M.1.cls ik is ic cls text names)
    (d0 : decode M.2.1 pc = .ok (.new ik, 3)) (d3 : decode M.2.1 (pc + 3) = .ok (.dup, 1)) (d4 : decode M.2.1 (pc + 4) = .ok (.ldc is, 2)) (d6 : decode M.2.1 (pc + 6) = .ok (.invokespecial ic, 3)) (d9 : decode M.2.1 (pc + 9) = .ok (.athrow, 1))
    (g1 : names.length + 3 < rm.frames) (g2 : 13 * (names.length + 1) + 43 ≤ rm.locals) (g3 : uc + 1 ≤ rm.cells) (g4 : us + 6 ≤ rm.slots) (hk : ∀ k, K (.inr cls) (sk σ k)) : At G M rm uc us pc L [] σ K := by
  intro p e s m args below meth c H locs ls C h1 h2 h3 h4
  obtain ⟨hx, hb, -, hml, hown, hlk, hex, ⟨-, hsz, hq0⟩, hW⟩ := id C
  have hts := tb_s gk (args := args) hW
  obtain ⟨sa, hsa⟩ := hst _ _ _ h.2.2.2.2.1
  have hS : va_S (fun q => (gs G).heap.size ≤ q) s.heap H locs := ⟨h1, fun q hq hA => by rw [h3.2.2.1 q (by omega), hq0 q (by omega)], h2⟩
  exact vx_throwS hx hb gk.1 hown h.1 h.2.1 (hts _ h.2.2.1) (hts _ h.2.2.2.1) (vk_R.warm hW hsa) (thr_at gk hW h) (thr_ot h) (A := fun q => (gs G).heap.size ≤ q) (H := H) (locs := locs) (zq_s hW gk.2.2.2.2.1 hq0) (zq_s hW gk.2.2.2.2.2 hq0) hS (by rw [hml]; exact h4.1) d0 d3 d4 d6 d9 (fun x hx => absurd hx (hex x)) g1 (by simpa using g2) g3 g4 hlk (fun t _ hz ho => ⟨sk σ (t.heap.size - H.size), hk _, hk_sk h3 hz ho, by omega⟩) h2 g3 g4
theorem s_throwW (gk : GOK G) (hst : STR G) {ik is ic : Nat} {cls text : String} {names : List String} (h : tOk M.1.cls ik is ic cls text names)
    (d0 : decode M.2.1 pc = .ok (.new ik, 3)) (d3 : decode M.2.1 (pc + 3) = .ok (.dup, 1)) (d4 : decode M.2.1 (pc + 4) = .ok (.ldc_w is, 3)) (d7 : decode M.2.1 (pc + 7) = .ok (.invokespecial ic, 3)) (d10 : decode M.2.1 (pc + 10) = .ok (.athrow, 1))
    (g1 : names.length + 3 < rm.frames) (g2 : 13 * (names.length + 1) + 43 ≤ rm.locals) (g3 : uc + 1 ≤ rm.cells) (g4 : us + 6 ≤ rm.slots) (hk : ∀ k, K (.inr cls) (sk σ k)) : At G M rm uc us pc L [] σ K := by
  intro p e s m args below meth c H locs ls C h1 h2 h3 h4
  obtain ⟨hx, hb, -, hml, hown, hlk, hex, ⟨-, hsz, hq0⟩, hW⟩ := id C
  have hts := tb_s gk (args := args) hW
  obtain ⟨sa, hsa⟩ := hst _ _ _ h.2.2.2.2.1
  have hS : va_S (fun q => (gs G).heap.size ≤ q) s.heap H locs := ⟨h1, fun q hq hA => by rw [h3.2.2.1 q (by omega), hq0 q (by omega)], h2⟩
  exact vx_throwSW hx hb gk.1 hown h.1 h.2.1 (hts _ h.2.2.1) (hts _ h.2.2.2.1) (vk_R.warm hW hsa) (thr_at gk hW h) (thr_ot h) (A := fun q => (gs G).heap.size ≤ q) (H := H) (locs := locs) (zq_s hW gk.2.2.2.2.1 hq0) (zq_s hW gk.2.2.2.2.2 hq0) hS (by rw [hml]; exact h4.1) d0 d3 d4 d7 d10 (fun x hx => absurd hx (hex x)) g1 (by simpa using g2) g3 g4 hlk (fun t _ hz ho => ⟨sk σ (t.heap.size - H.size), hk _, hk_sk h3 hz ho, by omega⟩) h2 g3 g4
theorem i_nn {z : Int32} (hz : ¬ z < 0) : z.toInt = (z.toNatClampNeg : Int) := by
  have hz0 : (0 : Int) ≤ z.toInt := by
    have := Int32.not_lt.mp hz
    simpa using Int32.le_iff_toInt_le.mp this
  show z.toInt = ((z.toInt.toNat : Nat) : Int)
  omega
end RWX
