theorem w_41 : (Jvm.Cond.instanceMethod ({ cls := "java/lang/Object", name := "<init>", desc := "()V" } : Jvm.MethodName)) ∈ TBL := tk_1 (List.mem_of_getElem? (i := 41) rfl) rfl
theorem w_42 : (Jvm.Cond.code ({ cls := "java/lang/Object", name := "<init>", desc := "()V" } : Jvm.MethodName) object_method_1_code (1 : Nat) (Option.none : Option Jvm.ClassFile.FieldType)) ∈ TBL := tk_1 (List.mem_of_getElem? (i := 42) rfl) rfl
theorem t_objInit {G : GG} {M : SIG} {rm : Room} {uc us pc : Nat} {L : List (Option VV)} {σ : Mm} {K : RES → Mm → Prop} (gk : GOK G) {idx a : Nat} {r : Option Nat} (hd : decode M.2.1 pc = .ok (.invokespecial idx, 3)) (hw : Cond.methodLink M.1.cls idx Lib.objectInit ∈ TBL) (g1 : 1 ≤ rm.frames) (g2 : 12 ≤ rm.locals) (e : r = some a) (kk : At G M rm uc us (pc + 3) L [] σ K) : At G M rm uc us pc L [vR r] σ K := by
  subst e
  exact s_objInit gk hd hw w_41 w_42 rfl g1 g2 kk
