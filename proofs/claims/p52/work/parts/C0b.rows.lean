/-! ===== longs in arrays ===== -/
section RWD
variable {G : GG} {M : SIG} {rm : Room} {uc us pc : Nat} {L : List (Option VV)} {S : List VV} {σ : Mm} {K : RES → Mm → Prop}
theorem t_lald (gk : GOK G) {a n : Nat} {r : Option Nat} {i : Int32} (hd : decode M.2.1 pc = .ok (.laload, 1)) (e : r = some a) (ht : mt σ a = (51, n)) (hin : vp_in i n) (kk : At G M rm uc us (pc + 1) L (vL (ml σ a i.toNatClampNeg) :: S) σ K) : At G M rm uc us pc L (vI i :: vR r :: S) σ K := by
  subst e
  exact s_lald gk hd ht hin kk
theorem t_last (gk : GOK G) {a n : Nat} {r : Option Nat} {i : Int32} {x : Int64} (hd : decode M.2.1 pc = .ok (.lastore, 1)) (e : r = some a) (ht : mt σ a = (51, n)) (hin : vp_in i n) (kk : At G M rm uc us (pc + 1) L S (sl σ a i.toNatClampNeg x) K) : At G M rm uc us pc L (vL x :: vI i :: vR r :: S) σ K := by
  subst e
  exact s_last gk hd ht hin kk
end RWD
