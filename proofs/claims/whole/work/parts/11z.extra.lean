theorem t_objInit {G : GG} {M : SIG} {rm : Room} {uc us pc : Nat} {L : List (Option VV)} {σ : Mm} {K : RES → Mm → Prop} (gk : GOK G) {idx a : Nat} {r : Option Nat} (hd : decode M.2.1 pc = .ok (.invokespecial idx, 3)) (hw : Cond.methodLink M.1.cls idx Lib.objectInit ∈ TBL) (g1 : 1 ≤ rm.frames) (g2 : 12 ≤ rm.locals) (e : r = some a) (kk : At G M rm uc us (pc + 3) L [] σ K) : At G M rm uc us pc L [vR r] σ K := by
  subst e
  exact s_objInit gk hd hw w_39 w_40 rfl g1 g2 kk
