/-! ===== 'throw new cls(text)' where cls's constructor calls its superclass's by any pool row: the kit's row for row 7 (vx_throwS), said for row ix; it calls the same laws of the library ===== -/
def thW (own : String) (ic : Nat) (X : String) (ix : Nat) (rx : ByteArray) (Y : String) (r : List String) : List Cond :=
  Bundle.throwableAtoms ++ (Bundle.throwableSAtoms ++ (Bundle.passSAtoms X Y ix rx ++ (Bundle.chainSAtoms Y r ++
  [.methodLink own ic (Bundle.initS X), .instantiable X 6, .castable X X, .selects X Bundle.tFill0 Bundle.tFill0, .selects X Bundle.tFill Bundle.tFill,
   .lays X Bundle.tN "cause" "Ljava/lang/Throwable;", .lays X Bundle.tN "stackTrace" Bundle.steD, .lays X Bundle.tN "suppressedExceptions" Bundle.listD, .lays X Bundle.tN "detailMessage" "Ljava/lang/String;",
   .isRef (.static Bundle.tN "UNASSIGNED_STACK" Bundle.steD), .isRef (.static Bundle.tN "SUPPRESSED_SENTINEL" Bundle.listD),
   .fieldLink Bundle.tN 198 Bundle.tN "backtrace" "Ljava/lang/Object;", .lays Bundle.tN Bundle.tN "backtrace" "Ljava/lang/Object;", .lays X Bundle.tN "backtrace" "Ljava/lang/Object;"])))
section THR
variable {p : Program} {l : Launch} {e : Env} {R : Room} {s : State} {m₀ : MethodId} {args : Array Value} {below : List Frame} {meth : Method} {c : Code} {W : State} {locs : List Loc} {cells slots : Nat}
set_option maxHeartbeats 2000000 in
/-- from 'invokespecial' on: the constructors' chain, and the throw that leaves the method (no stack traces) -/
theorem th_ctor (X : Stand p l e R s m₀ args below meth c W locs cells slots) (hexec : p.tables.exec = Jvm.exec) (htr : e.platform.stackTraces = false) {own cls Y0 : String} {r : List String} {ic ix : Nat} {rx : ByteArray}
    (x0 : decode rx 0 = .ok (.aload_n 0, 1)) (x1 : decode rx 1 = .ok (.aload_n 1, 1)) (x2 : decode rx 2 = .ok (.invokespecial ix, 3)) (x5 : decode rx 5 = .ok (.return_, 1))
    (hown : s.vm.findClass own = some m₀.cls) (hcls : Bundle.fit cls = true) (hY0 : Bundle.fit Y0 = true) (hnames : ∀ n ∈ r, Bundle.fit n = true) (h : ∀ a ∈ thW own ic cls ix rx Y0 r, a.before args s = true)
    (hlocs : ∀ x ∈ locs, ∀ cell, s.heap[x.base]? = some cell → cell.vm.isStatics = false)
    {a : Addr} {cX : ClassId} {kX : Class} (hfoundX : s.vm.findClass cls = some cX) (hkX : s.vm.classes[cX]? = some kX) (hcell : W.heap[a]? = some (freshCell cX kX)) (hnew : s.heap.size ≤ a) {msg : Value} (hmsg : msg.isRef = true)
    {g : JFrame} (hg : g.method = m₀) (hsize : g.locals.size = c.maxLocals) (hlocked : g.locked = none) (hentered : g.entered = []) {rest : List Value} (hstack : g.stack = msg :: .ref a :: .ref a :: rest)
    (hd6 : decode c.code g.pc = .ok (.invokespecial ic, 3)) (hd9 : decode c.code (g.pc + 3) = .ok (.athrow, 1)) (hout : ∀ x ∈ c.exceptionTable.toList, covers x (g.pc + 3) = false)
    (hRframes : r.length + 4 < R.frames) (hRlocals : 2 * g.monitorRoom + ((Value.ref a :: rest).map fun v => v.category).sum + (13 * (r.length + 2) + 42) ≤ R.locals) (hlocks : meth.locks = false) :
    ∃ U : State, Steps p.tables e below (W.setTop g) U ∧ U.status = .running ∧ Ended U below (.threw a) ∧ s.WarmedH U.vm ∧ s.sameButNew ({ U with vm := s.vm } : State) locs cells slots ∧ ∃ ce : Cell, U.heap[a]? = some ce ∧ s.vm.findClass cls = some ce.cls ∧ ce.vm = .none := by
  have howns : e.platform.frameOwnsMonitors = true := by rw [X.admits.platform]
  have hfin : e.platform.finalization = false := by rw [X.admits.platform]
  have hpl : e.platform.magicAccessors = ({} : Platform).magicAccessors := by rw [X.admits.platform]
  have hq : ∀ x, x ∈ thW own ic cls ix rx Y0 r → x.holds args s none s [] = true := fun x hx => h x hx
  obtain ⟨T, Z0, L, -, Y⟩ := ThrowableC.of_atoms (args := args) howns hfin hpl (fun x hx => h x (List.mem_append_left _ hx))
  obtain ⟨Z, M, LZ, LM, hnZ⟩ := Init0T.ofS_atoms (args := args) hpl L Y (fun x hx => h x (List.mem_append_right _ (List.mem_append_left _ hx)))
  obtain ⟨P1, L1, hP1m, hs1⟩ := PassC.ofS_atoms (args := args) (s := s) hpl (X := cls) (Y := Y0) (Bundle.fit_spec hcls).1 (Bundle.fit_spec hY0).2 x0 x1 x2 x5 (fun x hx => h x (List.mem_append_right _ (List.mem_append_right _ (List.mem_append_left _ hx))))
  obtain ⟨P2, Ps, hlen, L2, hL, hP2m, hsup2, hpass⟩ := Bundle.chainS (args := args) hpl hnZ r Y0 hY0 hnames (fun x hx => h x (List.mem_append_right _ (List.mem_append_right _ (List.mem_append_right _ (List.mem_append_left _ hx)))))
  have tail : ∀ {x : Cond}, x ∈ ([.methodLink own ic (Bundle.initS cls), .instantiable cls 6, .castable cls cls, .selects cls Bundle.tFill0 Bundle.tFill0, .selects cls Bundle.tFill Bundle.tFill,
      .lays cls Bundle.tN "cause" "Ljava/lang/Throwable;", .lays cls Bundle.tN "stackTrace" Bundle.steD, .lays cls Bundle.tN "suppressedExceptions" Bundle.listD, .lays cls Bundle.tN "detailMessage" "Ljava/lang/String;",
      .isRef (.static Bundle.tN "UNASSIGNED_STACK" Bundle.steD), .isRef (.static Bundle.tN "SUPPRESSED_SENTINEL" Bundle.listD),
      .fieldLink Bundle.tN 198 Bundle.tN "backtrace" "Ljava/lang/Object;", .lays Bundle.tN Bundle.tN "backtrace" "Ljava/lang/Object;", .lays cls Bundle.tN "backtrace" "Ljava/lang/Object;"] : List Cond) → x.before args s = true :=
    fun hx => h _ (List.mem_append_right _ (List.mem_append_right _ (List.mem_append_right _ (List.mem_append_right _ hx))))
  have hfound : s.vm.findClass cls = some P1.m.cls := findClass_of_methodNamed hP1m
  cases Option.some.inj (hfoundX.symm.trans hfound)
  obtain ⟨c1, k1, hc1, hk, hord, -, -, hn6⟩ := Cond.instantiable_spec (tail (x := .instantiable cls 6) (by simp))
  cases Option.some.inj (hc1.symm.trans hfound)
  cases Option.some.inj (hkX.symm.trans hk)
  have hsel0 : selectMethod e.platform s.vm P1.m.cls T.fill0 = .method T.fill0 := by
    obtain ⟨c2, r2, m2, q1, q2, q3, q4, -⟩ := Cond.selects_spec (tail (x := .selects cls Bundle.tFill0 Bundle.tFill0) (by simp))
    cases Option.some.inj (q1.symm.trans hfound)
    cases Option.some.inj (q2.symm.trans (State.methodFound?_of_named Y.fill0 (by decide)))
    cases Option.some.inj (q3.symm.trans Y.fill0)
    rw [Launch.admits_selectMethod X.admits]; exact q4
  have hselF : selectMethod e.platform s.vm P1.m.cls T.fill = .method T.fill := by
    obtain ⟨c2, r2, m2, q1, q2, q3, q4, -⟩ := Cond.selects_spec (tail (x := .selects cls Bundle.tFill Bundle.tFill) (by simp))
    cases Option.some.inj (q1.symm.trans hfound)
    cases Option.some.inj (q2.symm.trans (State.methodFound?_of_named Y.fill (by decide)))
    cases Option.some.inj (q3.symm.trans Y.fill)
    rw [Launch.admits_selectMethod X.admits]; exact q4
  obtain ⟨cS0, hcS0, hiss⟩ := Y.statics
  obtain ⟨u0, hu0⟩ := Cond.staticRefV Y.unassigned L.unassignedStatic L.statics hcS0 hiss (tail (x := .isRef (.static Bundle.tN "UNASSIGNED_STACK" Bundle.steD)) (by simp))
  obtain ⟨sen, hsen⟩ := Cond.staticRefV Y.sentinel L.sentinelStatic L.statics hcS0 hiss (tail (x := .isRef (.static Bundle.tN "SUPPRESSED_SENTINEL" Bundle.listD)) (by simp))
  obtain ⟨ci9, i9, fB, hk9, hg9, ha9, hsB, -, hnB, htB, hffB⟩ := Cond.ownField (t := .object "java/lang/Object") Y.found L.cls (by decide +kernel) (tail (x := .fieldLink Bundle.tN 198 Bundle.tN "backtrace" "Ljava/lang/Object;") (by simp)) (tail (x := .lays Bundle.tN Bundle.tN "backtrace" "Ljava/lang/Object;") (by simp)) e.platform hpl
  obtain ⟨cS, hcS, heS, -, hkeep⟩ := X.same.2.2.2.2.2 T.aS cS0 hcS0
  have hcS : W.heap[T.aS]? = some cS := hcS
  have hno : ∀ i, (⟨T.aS, i⟩ : Loc) ∉ locs := fun i hm => by
    have h9 := hlocs _ hm cS0 hcS0
    rw [hiss] at h9; cases h9
  have hkn : cS.vm ≠ .unknown := by
    rw [heS]; intro hu
    rw [show cS0.vm = .unknown from hu] at hiss
    cases hiss
  have hne : T.aS ≠ a := Nat.ne_of_lt (Nat.lt_of_lt_of_le (Array.getElem?_eq_some_iff.mp hcS0).1 hnew)
  obtain ⟨iM, hffM⟩ := Y.msg
  obtain ⟨tyC, dC, hdC, hdnC⟩ := Cond.laysAt hfound hk Y.cause (tail (x := .lays cls Bundle.tN "cause" "Ljava/lang/Throwable;") (by simp))
  obtain ⟨tyS, dS, hdS, hdnS⟩ := Cond.laysAt hfound hk Y.stack (tail (x := .lays cls Bundle.tN "stackTrace" Bundle.steD) (by simp))
  obtain ⟨tyP, dP, hdP, hdnP⟩ := Cond.laysAt hfound hk Y.supp (tail (x := .lays cls Bundle.tN "suppressedExceptions" Bundle.listD) (by simp))
  obtain ⟨tyM, dM, hdM, hdnM⟩ := Cond.laysAt hfound hk hffM (tail (x := .lays cls Bundle.tN "detailMessage" "Ljava/lang/String;") (by simp))
  obtain ⟨tyB, dB, hdB, hdnB⟩ := Cond.laysAt hfound hk hffB (tail (x := .lays cls Bundle.tN "backtrace" "Ljava/lang/Object;") (by simp))
  have bC := Cond.laysApart hdB hdC hdnB hdnC (by rw [hnB, Y.causeName]; decide)
  have bS := Cond.laysApart hdB hdS hdnB hdnS (by rw [hnB, Y.stackName]; decide)
  have bP := Cond.laysApart hdB hdP hdnB hdnP (by rw [hnB, Y.suppName]; decide)
  have hskip : SkipFacts T e.platform s (fun u => u) u0 ((preparedCellV T.toThrowableT (freshCell P1.m.cls kX) a u0 sen).withEntry W.cur) :=
    ⟨{ ci198 := ci9, i198 := i9, fBack := fB }, ⟨hk9, hg9, ha9, hsB⟩, by
      have h9 := fresh_default (c := P1.m.cls) tyB
      rw [htB] at h9
      simpa [preparedCellV, Cell.setSlot, Cell.withEntry, Array.getElem?_setIfInBounds, bC, bS, bP, bC.symm, bS.symm, bP.symm, defaultValue] using h9, fun _ _ => rfl⟩
  obtain ⟨tm, mC, cdC, kC, vm₁, hnC, -, -, -, -, -, -, -, hW₁, st1⟩ := Steps.initColdS (tb := p.tables) (e := e) (below := below) (s := s) (U := W) X.here hexec X.warmed hpl hown (t := Bundle.initS cls) rfl rfl (Bundle.fit_spec hcls).2
    (tail (x := .methodLink own ic (Bundle.initS cls)) (by simp)) (h (.instanceMethod (Bundle.initS cls)) (List.mem_append_right _ (List.mem_append_right _ (List.mem_append_left _ (by simp [Bundle.passSAtoms]))))) (bytes := rx) (maxL := 2) (h (.code (Bundle.initS cls) rx 2 none) (List.mem_append_right _ (List.mem_append_right _ (List.mem_append_left _ (by simp [Bundle.passSAtoms])))))
    (f := g) hg (a := a) (msg := msg) (rest := .ref a :: rest) hstack hd6
  cases Option.some.inj (hnC.symm.trans hP1m)
  have X₁ := X.noted hW₁
  obtain ⟨vm₂, X₂, st2⟩ := X₁.ctorMessageOffV hexec (g := { g with stack := .ref a :: rest }) hg hsize T L Z LZ M LM (P1 :: P2 :: Ps)
    (fun P hP => by
      rcases List.mem_cons.mp hP with rfl | hP
      · exact L1
      · rcases List.mem_cons.mp hP with rfl | hP
        · exact L2
        · exact hL P hP) ⟨Option.some.inj (hs1.symm.trans hP2m), hsup2, hpass⟩ (u0 := u0) (sen := sen) (self := a) hmsg (cell := freshCell P1.m.cls kX) (cellS := cS)
    hcell (fun _ => by simp) (by simp) rfl rfl hsel0 hselF hcS hne hkn (by rw [hkeep _ (hno _)]; exact hu0) (by rw [hkeep _ (hno _)]; exact hsen)
    (Takes.of_laid hk hord tyC (by rw [Y.causeType]; rfl)) (Takes.of_laid hk hord tyS (by rw [Y.stackType]; exact fits_refV_array _ u0)) (Takes.of_laid hk hord tyP (by rw [Y.suppType]; exact fits_refV_object _ sen))
    (Takes.of_laid hk hord tyM (by rw [Y.msgType]; exact fits_refV_object _ ⟨msg, hmsg⟩)) Y.objLocals hskip htr [] hd6
    (by simp only [List.length_cons, hlen]; omega) (by simp only [List.length_cons, hlen]; exact hRlocals)
  obtain ⟨hwalk, hrun, hended, hWU, hsame⟩ := X₂.athrowLeaves hexec (g := { g with stack := .ref a :: rest, pc := g.pc + 3 }) hg hlocked hentered hout (a := a) (rest := rest) rfl hd9
  have hlt : a < ((W.setVm vm₁).setVm vm₂).heap.size := (Array.getElem?_eq_some_iff.mp hcell).1
  have hU := heapAt_setCell_self (s := (W.setVm vm₁).setVm vm₂) (plainBareV T.toThrowableT (freshCell P1.m.cls kX) a u0 sen msg) hlt
  refine ⟨_, st1 _ (fun acts => ?_), hrun, hended, hWU, hsame.weaken (fun y hy hlt' => ?_) (Nat.le_refl _) (Nat.le_refl _), _, hU, hfound, rfl⟩
  · rw [doInvoke_state]
    exact st2 _ hwalk
  · rcases List.mem_append.mp hy with h1 | h1
    · exact h1
    · exfalso
      have hb : y.base = a := by
        simp only [List.mem_cons, List.not_mem_nil, or_false] at h1
        rcases h1 with rfl | rfl | rfl | rfl | rfl <;> rfl
      rw [hb] at hlt'
      exact Nat.not_lt.mpr hnew hlt'
end THR

/-- a word of a throw: one of the four that speak of the heap, or one of the tables' that stays -/
def tw : Cond → Bool
  | .castable _ _ => true
  | .declares _ => true
  | _ => false
def thP (w : Cond) : Prop := w = .isRef (.static Bundle.tN "UNASSIGNED_STACK" Bundle.steD) ∨ w = .isRef (.static Bundle.tN "SUPPRESSED_SENTINEL" Bundle.listD) ∨ w = .laysStatic Bundle.tN "UNASSIGNED_STACK" Bundle.steD ∨ w = .laysStatic Bundle.tN "SUPPRESSED_SENTINEL" Bundle.listD ∨ (w ∈ lw_tbl ∧ (goodWord w || tw w) = true)
/-- the class X may be thrown by own, its constructor at own's pool row ic -/
def thX (own : String) (ic : Nat) (X : String) (ix : Nat) (rx : ByteArray) : Prop :=
  decode rx 0 = .ok (.aload_n 0, 1) ∧ decode rx 1 = .ok (.aload_n 1, 1) ∧ decode rx 2 = .ok (.invokespecial ix, 3) ∧ decode rx 5 = .ok (.return_, 1) ∧ Bundle.fit X = true ∧ ∀ w ∈ thW own ic X ix rx "java/lang/RuntimeException" ["java/lang/Exception"], thP w
theorem thW_all {own X Y : String} {ic ix : Nat} {rx : ByteArray} {r : List String} (h1 : ∀ w ∈ Bundle.throwableAtoms, thP w) (h2 : ∀ w ∈ Bundle.throwableSAtoms, thP w) (h3 : ∀ w ∈ Bundle.passSAtoms X Y ix rx, thP w) (h4 : ∀ w ∈ Bundle.chainSAtoms Y r, thP w) (h5 : ∀ w ∈ ([.methodLink own ic (Bundle.initS X), .instantiable X 6, .castable X X, .selects X Bundle.tFill0 Bundle.tFill0, .selects X Bundle.tFill Bundle.tFill,
   .lays X Bundle.tN "cause" "Ljava/lang/Throwable;", .lays X Bundle.tN "stackTrace" Bundle.steD, .lays X Bundle.tN "suppressedExceptions" Bundle.listD, .lays X Bundle.tN "detailMessage" "Ljava/lang/String;",
   .isRef (.static Bundle.tN "UNASSIGNED_STACK" Bundle.steD), .isRef (.static Bundle.tN "SUPPRESSED_SENTINEL" Bundle.listD),
   .fieldLink Bundle.tN 198 Bundle.tN "backtrace" "Ljava/lang/Object;", .lays Bundle.tN Bundle.tN "backtrace" "Ljava/lang/Object;", .lays X Bundle.tN "backtrace" "Ljava/lang/Object;"] : List Cond), thP w) : ∀ w ∈ thW own ic X ix rx Y r, thP w :=
  List.forall_mem_append.mpr ⟨h1, List.forall_mem_append.mpr ⟨h2, List.forall_mem_append.mpr ⟨h3, List.forall_mem_append.mpr ⟨h4, h5⟩⟩⟩⟩
theorem tl_1 {w : Cond} (h : w ∈ tables_1_1) : w ∈ lw_tbl := List.mem_append_right _ (show w ∈ tables_1 from (List.mem_append_left _ h))
theorem tl_2 {w : Cond} (h : w ∈ tables_1_2) : w ∈ lw_tbl := List.mem_append_right _ (show w ∈ tables_1 from (List.mem_append_right _ (List.mem_append_left _ h)))
theorem tl_3 {w : Cond} (h : w ∈ tables_1_3) : w ∈ lw_tbl := List.mem_append_right _ (show w ∈ tables_1 from (List.mem_append_right _ (List.mem_append_right _ (List.mem_append_left _ h))))
theorem tl_4 {w : Cond} (h : w ∈ tables_1_4) : w ∈ lw_tbl := List.mem_append_right _ (show w ∈ tables_1 from (List.mem_append_right _ (List.mem_append_right _ (List.mem_append_right _ (List.mem_append_left _ h)))))
theorem tl_5 {w : Cond} (h : w ∈ tables_1_5) : w ∈ lw_tbl := List.mem_append_right _ (show w ∈ tables_1 from (List.mem_append_right _ (List.mem_append_right _ (List.mem_append_right _ (List.mem_append_right _ (List.mem_append_left _ h))))))
theorem tl_6 {w : Cond} (h : w ∈ tables_1_6) : w ∈ lw_tbl := List.mem_append_right _ (show w ∈ tables_1 from (List.mem_append_right _ (List.mem_append_right _ (List.mem_append_right _ (List.mem_append_right _ (List.mem_append_right _ (List.mem_append_left _ h)))))))
theorem tl_7 {w : Cond} (h : w ∈ tables_1_7) : w ∈ lw_tbl := List.mem_append_right _ (show w ∈ tables_1 from (List.mem_append_right _ (List.mem_append_right _ (List.mem_append_right _ (List.mem_append_right _ (List.mem_append_right _ (List.mem_append_right _ (h))))))))
theorem th_A : ∀ w ∈ Bundle.throwableAtoms, thP w := List.forall_mem_cons.mpr ⟨Or.inr (Or.inr (Or.inr (Or.inr ⟨tl_1 (List.mem_of_getElem? (i := 14) rfl), rfl⟩))), List.forall_mem_cons.mpr ⟨Or.inr (Or.inr (Or.inr (Or.inr ⟨tl_2 (List.mem_of_getElem? (i := 175) rfl), rfl⟩))), List.forall_mem_cons.mpr ⟨Or.inr (Or.inr (Or.inr (Or.inr ⟨tl_2 (List.mem_of_getElem? (i := 184) rfl), rfl⟩))), List.forall_mem_cons.mpr ⟨Or.inr (Or.inr (Or.inr (Or.inr ⟨tl_2 (List.mem_of_getElem? (i := 192) rfl), rfl⟩))), List.forall_mem_cons.mpr ⟨Or.inr (Or.inr (Or.inr (Or.inr ⟨tl_2 (List.mem_of_getElem? (i := 195) rfl), rfl⟩))), List.forall_mem_cons.mpr ⟨Or.inr (Or.inr (Or.inr (Or.inr ⟨tl_2 (List.mem_of_getElem? (i := 197) rfl), rfl⟩))), List.forall_mem_cons.mpr ⟨Or.inr (Or.inr (Or.inr (Or.inr ⟨tl_2 (List.mem_of_getElem? (i := 176) rfl), rfl⟩))), List.forall_mem_cons.mpr ⟨Or.inr (Or.inr (Or.inr (Or.inr ⟨tl_2 (List.mem_of_getElem? (i := 177) rfl), rfl⟩))), List.forall_mem_cons.mpr ⟨Or.inr (Or.inr (Or.inr (Or.inr ⟨tl_1 (List.mem_of_getElem? (i := 41) rfl), rfl⟩))), List.forall_mem_cons.mpr ⟨Or.inr (Or.inr (Or.inr (Or.inr ⟨tl_1 (List.mem_of_getElem? (i := 42) rfl), rfl⟩))), List.forall_mem_cons.mpr ⟨Or.inr (Or.inr (Or.inr (Or.inr ⟨tl_2 (List.mem_of_getElem? (i := 178) rfl), rfl⟩))), List.forall_mem_cons.mpr ⟨Or.inr (Or.inr (Or.inr (Or.inr ⟨tl_2 (List.mem_of_getElem? (i := 183) rfl), rfl⟩))), List.forall_mem_cons.mpr ⟨Or.inr (Or.inr (Or.inr (Or.inr ⟨tl_2 (List.mem_of_getElem? (i := 193) rfl), rfl⟩))), List.forall_mem_cons.mpr ⟨Or.inr (Or.inr (Or.inr (Or.inr ⟨tl_2 (List.mem_of_getElem? (i := 213) rfl), rfl⟩))), List.forall_mem_cons.mpr ⟨Or.inr (Or.inr (Or.inr (Or.inr ⟨tl_2 (List.mem_of_getElem? (i := 165) rfl), rfl⟩))), List.forall_mem_cons.mpr ⟨Or.inr (Or.inr (Or.inr (Or.inr ⟨tl_2 (List.mem_of_getElem? (i := 214) rfl), rfl⟩))), List.forall_mem_cons.mpr ⟨Or.inr (Or.inr (Or.inr (Or.inr ⟨tl_2 (List.mem_of_getElem? (i := 167) rfl), rfl⟩))), List.forall_mem_cons.mpr ⟨Or.inr (Or.inr (Or.inr (Or.inr ⟨tl_2 (List.mem_of_getElem? (i := 215) rfl), rfl⟩))), List.forall_mem_cons.mpr ⟨Or.inr (Or.inr (Or.inr (Or.inr ⟨tl_2 (List.mem_of_getElem? (i := 169) rfl), rfl⟩))), List.forall_mem_cons.mpr ⟨Or.inr (Or.inr (Or.inr (Or.inr ⟨tl_2 (List.mem_of_getElem? (i := 179) rfl), rfl⟩))), List.forall_mem_cons.mpr ⟨Or.inr (Or.inr (Or.inl rfl)), List.forall_mem_cons.mpr ⟨Or.inr (Or.inr (Or.inr (Or.inr ⟨tl_2 (List.mem_of_getElem? (i := 181) rfl), rfl⟩))), List.forall_mem_cons.mpr ⟨Or.inr (Or.inr (Or.inr (Or.inl rfl))), List.forall_mem_cons.mpr ⟨Or.inr (Or.inr (Or.inr (Or.inr ⟨tl_2 (List.mem_of_getElem? (i := 171) rfl), rfl⟩))), fun _ h => absurd h List.not_mem_nil⟩⟩⟩⟩⟩⟩⟩⟩⟩⟩⟩⟩⟩⟩⟩⟩⟩⟩⟩⟩⟩⟩⟩⟩
theorem th_A2 : ∀ w ∈ Bundle.throwableSAtoms, thP w := List.forall_mem_cons.mpr ⟨Or.inr (Or.inr (Or.inr (Or.inr ⟨tl_2 (List.mem_of_getElem? (i := 209) rfl), rfl⟩))), List.forall_mem_cons.mpr ⟨Or.inr (Or.inr (Or.inr (Or.inr ⟨tl_2 (List.mem_of_getElem? (i := 210) rfl), rfl⟩))), List.forall_mem_cons.mpr ⟨Or.inr (Or.inr (Or.inr (Or.inr ⟨tl_2 (List.mem_of_getElem? (i := 212) rfl), rfl⟩))), List.forall_mem_cons.mpr ⟨Or.inr (Or.inr (Or.inr (Or.inr ⟨tl_2 (List.mem_of_getElem? (i := 171) rfl), rfl⟩))), fun _ h => absurd h List.not_mem_nil⟩⟩⟩⟩
theorem th_B : ∀ w ∈ Bundle.chainSAtoms "java/lang/RuntimeException" ["java/lang/Exception"], thP w := List.forall_mem_cons.mpr ⟨Or.inr (Or.inr (Or.inr (Or.inr ⟨tl_2 (List.mem_of_getElem? (i := 203) rfl), rfl⟩))), List.forall_mem_cons.mpr ⟨Or.inr (Or.inr (Or.inr (Or.inr ⟨tl_2 (List.mem_of_getElem? (i := 204) rfl), rfl⟩))), List.forall_mem_cons.mpr ⟨Or.inr (Or.inr (Or.inr (Or.inr ⟨tl_2 (List.mem_of_getElem? (i := 205) rfl), rfl⟩))), List.forall_mem_cons.mpr ⟨Or.inr (Or.inr (Or.inr (Or.inr ⟨tl_2 (List.mem_of_getElem? (i := 206) rfl), rfl⟩))), List.forall_mem_cons.mpr ⟨Or.inr (Or.inr (Or.inr (Or.inr ⟨tl_2 (List.mem_of_getElem? (i := 159) rfl), rfl⟩))), List.forall_mem_cons.mpr ⟨Or.inr (Or.inr (Or.inr (Or.inr ⟨tl_2 (List.mem_of_getElem? (i := 206) rfl), rfl⟩))), List.forall_mem_cons.mpr ⟨Or.inr (Or.inr (Or.inr (Or.inr ⟨tl_2 (List.mem_of_getElem? (i := 207) rfl), rfl⟩))), List.forall_mem_cons.mpr ⟨Or.inr (Or.inr (Or.inr (Or.inr ⟨tl_2 (List.mem_of_getElem? (i := 208) rfl), rfl⟩))), List.forall_mem_cons.mpr ⟨Or.inr (Or.inr (Or.inr (Or.inr ⟨tl_2 (List.mem_of_getElem? (i := 209) rfl), rfl⟩))), List.forall_mem_cons.mpr ⟨Or.inr (Or.inr (Or.inr (Or.inr ⟨tl_2 (List.mem_of_getElem? (i := 161) rfl), rfl⟩))), fun _ h => absurd h List.not_mem_nil⟩⟩⟩⟩⟩⟩⟩⟩⟩⟩
theorem thx_91_a : ∀ w ∈ Bundle.passSAtoms "java/lang/IndexOutOfBoundsException" "java/lang/RuntimeException" 7 prog_23_method_2_code, thP w := List.forall_mem_cons.mpr ⟨Or.inr (Or.inr (Or.inr (Or.inr ⟨tl_2 (List.mem_of_getElem? (i := 200) rfl), rfl⟩))), List.forall_mem_cons.mpr ⟨Or.inr (Or.inr (Or.inr (Or.inr ⟨tl_2 (List.mem_of_getElem? (i := 201) rfl), rfl⟩))), List.forall_mem_cons.mpr ⟨Or.inr (Or.inr (Or.inr (Or.inr ⟨tl_2 (List.mem_of_getElem? (i := 202) rfl), rfl⟩))), List.forall_mem_cons.mpr ⟨Or.inr (Or.inr (Or.inr (Or.inr ⟨tl_2 (List.mem_of_getElem? (i := 203) rfl), rfl⟩))), List.forall_mem_cons.mpr ⟨Or.inr (Or.inr (Or.inr (Or.inr ⟨tl_2 (List.mem_of_getElem? (i := 157) rfl), rfl⟩))), fun _ h => absurd h List.not_mem_nil⟩⟩⟩⟩⟩
theorem thx_91 : thX RX8 91 "java/lang/IndexOutOfBoundsException" 7 prog_23_method_2_code := ⟨by decide +kernel, by decide +kernel, by decide +kernel, by decide +kernel, by decide +kernel, thW_all th_A th_A2 thx_91_a th_B (List.forall_mem_cons.mpr ⟨Or.inr (Or.inr (Or.inr (Or.inr ⟨tl_2 (List.mem_of_getElem? (i := 199) rfl), rfl⟩))), List.forall_mem_cons.mpr ⟨Or.inr (Or.inr (Or.inr (Or.inr ⟨tl_2 (List.mem_of_getElem? (i := 154) rfl), rfl⟩))), List.forall_mem_cons.mpr ⟨Or.inr (Or.inr (Or.inr (Or.inr ⟨tl_2 (List.mem_of_getElem? (i := 155) rfl), rfl⟩))), List.forall_mem_cons.mpr ⟨Or.inr (Or.inr (Or.inr (Or.inr ⟨tl_2 (List.mem_of_getElem? (i := 162) rfl), rfl⟩))), List.forall_mem_cons.mpr ⟨Or.inr (Or.inr (Or.inr (Or.inr ⟨tl_2 (List.mem_of_getElem? (i := 163) rfl), rfl⟩))), List.forall_mem_cons.mpr ⟨Or.inr (Or.inr (Or.inr (Or.inr ⟨tl_2 (List.mem_of_getElem? (i := 164) rfl), rfl⟩))), List.forall_mem_cons.mpr ⟨Or.inr (Or.inr (Or.inr (Or.inr ⟨tl_2 (List.mem_of_getElem? (i := 166) rfl), rfl⟩))), List.forall_mem_cons.mpr ⟨Or.inr (Or.inr (Or.inr (Or.inr ⟨tl_2 (List.mem_of_getElem? (i := 168) rfl), rfl⟩))), List.forall_mem_cons.mpr ⟨Or.inr (Or.inr (Or.inr (Or.inr ⟨tl_2 (List.mem_of_getElem? (i := 170) rfl), rfl⟩))), List.forall_mem_cons.mpr ⟨Or.inl rfl, List.forall_mem_cons.mpr ⟨Or.inr (Or.inl rfl), List.forall_mem_cons.mpr ⟨Or.inr (Or.inr (Or.inr (Or.inr ⟨tl_2 (List.mem_of_getElem? (i := 174) rfl), rfl⟩))), List.forall_mem_cons.mpr ⟨Or.inr (Or.inr (Or.inr (Or.inr ⟨tl_2 (List.mem_of_getElem? (i := 173) rfl), rfl⟩))), List.forall_mem_cons.mpr ⟨Or.inr (Or.inr (Or.inr (Or.inr ⟨tl_2 (List.mem_of_getElem? (i := 172) rfl), rfl⟩))), fun _ h => absurd h List.not_mem_nil⟩⟩⟩⟩⟩⟩⟩⟩⟩⟩⟩⟩⟩⟩)⟩
theorem thx_142_a : ∀ w ∈ Bundle.passSAtoms "java/util/NoSuchElementException" "java/lang/RuntimeException" 13 prog_38_method_4_code, thP w := List.forall_mem_cons.mpr ⟨Or.inr (Or.inr (Or.inr (Or.inr ⟨tl_2 (List.mem_of_getElem? (i := 235) rfl), rfl⟩))), List.forall_mem_cons.mpr ⟨Or.inr (Or.inr (Or.inr (Or.inr ⟨tl_2 (List.mem_of_getElem? (i := 236) rfl), rfl⟩))), List.forall_mem_cons.mpr ⟨Or.inr (Or.inr (Or.inr (Or.inr ⟨tl_2 (List.mem_of_getElem? (i := 237) rfl), rfl⟩))), List.forall_mem_cons.mpr ⟨Or.inr (Or.inr (Or.inr (Or.inr ⟨tl_2 (List.mem_of_getElem? (i := 203) rfl), rfl⟩))), List.forall_mem_cons.mpr ⟨Or.inr (Or.inr (Or.inr (Or.inr ⟨tl_2 (List.mem_of_getElem? (i := 157) rfl), rfl⟩))), fun _ h => absurd h List.not_mem_nil⟩⟩⟩⟩⟩
theorem thx_142 : thX RX8 142 "java/util/NoSuchElementException" 13 prog_38_method_4_code := ⟨by decide +kernel, by decide +kernel, by decide +kernel, by decide +kernel, by decide +kernel, thW_all th_A th_A2 thx_142_a th_B (List.forall_mem_cons.mpr ⟨Or.inr (Or.inr (Or.inr (Or.inr ⟨tl_2 (List.mem_of_getElem? (i := 234) rfl), rfl⟩))), List.forall_mem_cons.mpr ⟨Or.inr (Or.inr (Or.inr (Or.inr ⟨tl_2 (List.mem_of_getElem? (i := 225) rfl), rfl⟩))), List.forall_mem_cons.mpr ⟨Or.inr (Or.inr (Or.inr (Or.inr ⟨tl_2 (List.mem_of_getElem? (i := 226) rfl), rfl⟩))), List.forall_mem_cons.mpr ⟨Or.inr (Or.inr (Or.inr (Or.inr ⟨tl_2 (List.mem_of_getElem? (i := 227) rfl), rfl⟩))), List.forall_mem_cons.mpr ⟨Or.inr (Or.inr (Or.inr (Or.inr ⟨tl_2 (List.mem_of_getElem? (i := 191) rfl), rfl⟩))), List.forall_mem_cons.mpr ⟨Or.inr (Or.inr (Or.inr (Or.inr ⟨tl_2 (List.mem_of_getElem? (i := 228) rfl), rfl⟩))), List.forall_mem_cons.mpr ⟨Or.inr (Or.inr (Or.inr (Or.inr ⟨tl_2 (List.mem_of_getElem? (i := 229) rfl), rfl⟩))), List.forall_mem_cons.mpr ⟨Or.inr (Or.inr (Or.inr (Or.inr ⟨tl_2 (List.mem_of_getElem? (i := 230) rfl), rfl⟩))), List.forall_mem_cons.mpr ⟨Or.inr (Or.inr (Or.inr (Or.inr ⟨tl_2 (List.mem_of_getElem? (i := 231) rfl), rfl⟩))), List.forall_mem_cons.mpr ⟨Or.inl rfl, List.forall_mem_cons.mpr ⟨Or.inr (Or.inl rfl), List.forall_mem_cons.mpr ⟨Or.inr (Or.inr (Or.inr (Or.inr ⟨tl_2 (List.mem_of_getElem? (i := 174) rfl), rfl⟩))), List.forall_mem_cons.mpr ⟨Or.inr (Or.inr (Or.inr (Or.inr ⟨tl_2 (List.mem_of_getElem? (i := 173) rfl), rfl⟩))), List.forall_mem_cons.mpr ⟨Or.inr (Or.inr (Or.inr (Or.inr ⟨tl_2 (List.mem_of_getElem? (i := 232) rfl), rfl⟩))), fun _ h => absurd h List.not_mem_nil⟩⟩⟩⟩⟩⟩⟩⟩⟩⟩⟩⟩⟩⟩)⟩
theorem thx_245_a : ∀ w ∈ Bundle.passSAtoms "java/lang/IllegalArgumentException" "java/lang/RuntimeException" 7 prog_21_method_2_code, thP w := List.forall_mem_cons.mpr ⟨Or.inr (Or.inr (Or.inr (Or.inr ⟨tl_3 (List.mem_of_getElem? (i := 11) rfl), rfl⟩))), List.forall_mem_cons.mpr ⟨Or.inr (Or.inr (Or.inr (Or.inr ⟨tl_3 (List.mem_of_getElem? (i := 12) rfl), rfl⟩))), List.forall_mem_cons.mpr ⟨Or.inr (Or.inr (Or.inr (Or.inr ⟨tl_3 (List.mem_of_getElem? (i := 13) rfl), rfl⟩))), List.forall_mem_cons.mpr ⟨Or.inr (Or.inr (Or.inr (Or.inr ⟨tl_2 (List.mem_of_getElem? (i := 203) rfl), rfl⟩))), List.forall_mem_cons.mpr ⟨Or.inr (Or.inr (Or.inr (Or.inr ⟨tl_2 (List.mem_of_getElem? (i := 157) rfl), rfl⟩))), fun _ h => absurd h List.not_mem_nil⟩⟩⟩⟩⟩
theorem thx_245 : thX RX8 245 "java/lang/IllegalArgumentException" 7 prog_21_method_2_code := ⟨by decide +kernel, by decide +kernel, by decide +kernel, by decide +kernel, by decide +kernel, thW_all th_A th_A2 thx_245_a th_B (List.forall_mem_cons.mpr ⟨Or.inr (Or.inr (Or.inr (Or.inr ⟨tl_3 (List.mem_of_getElem? (i := 10) rfl), rfl⟩))), List.forall_mem_cons.mpr ⟨Or.inr (Or.inr (Or.inr (Or.inr ⟨tl_3 (List.mem_of_getElem? (i := 1) rfl), rfl⟩))), List.forall_mem_cons.mpr ⟨Or.inr (Or.inr (Or.inr (Or.inr ⟨tl_3 (List.mem_of_getElem? (i := 2) rfl), rfl⟩))), List.forall_mem_cons.mpr ⟨Or.inr (Or.inr (Or.inr (Or.inr ⟨tl_3 (List.mem_of_getElem? (i := 3) rfl), rfl⟩))), List.forall_mem_cons.mpr ⟨Or.inr (Or.inr (Or.inr (Or.inr ⟨tl_2 (List.mem_of_getElem? (i := 188) rfl), rfl⟩))), List.forall_mem_cons.mpr ⟨Or.inr (Or.inr (Or.inr (Or.inr ⟨tl_3 (List.mem_of_getElem? (i := 4) rfl), rfl⟩))), List.forall_mem_cons.mpr ⟨Or.inr (Or.inr (Or.inr (Or.inr ⟨tl_3 (List.mem_of_getElem? (i := 5) rfl), rfl⟩))), List.forall_mem_cons.mpr ⟨Or.inr (Or.inr (Or.inr (Or.inr ⟨tl_3 (List.mem_of_getElem? (i := 6) rfl), rfl⟩))), List.forall_mem_cons.mpr ⟨Or.inr (Or.inr (Or.inr (Or.inr ⟨tl_3 (List.mem_of_getElem? (i := 7) rfl), rfl⟩))), List.forall_mem_cons.mpr ⟨Or.inl rfl, List.forall_mem_cons.mpr ⟨Or.inr (Or.inl rfl), List.forall_mem_cons.mpr ⟨Or.inr (Or.inr (Or.inr (Or.inr ⟨tl_2 (List.mem_of_getElem? (i := 174) rfl), rfl⟩))), List.forall_mem_cons.mpr ⟨Or.inr (Or.inr (Or.inr (Or.inr ⟨tl_2 (List.mem_of_getElem? (i := 173) rfl), rfl⟩))), List.forall_mem_cons.mpr ⟨Or.inr (Or.inr (Or.inr (Or.inr ⟨tl_3 (List.mem_of_getElem? (i := 8) rfl), rfl⟩))), fun _ h => absurd h List.not_mem_nil⟩⟩⟩⟩⟩⟩⟩⟩⟩⟩⟩⟩⟩⟩)⟩
theorem thx_301_a : ∀ w ∈ Bundle.passSAtoms "java/lang/IllegalStateException" "java/lang/RuntimeException" 7 prog_22_method_2_code, thP w := List.forall_mem_cons.mpr ⟨Or.inr (Or.inr (Or.inr (Or.inr ⟨tl_3 (List.mem_of_getElem? (i := 27) rfl), rfl⟩))), List.forall_mem_cons.mpr ⟨Or.inr (Or.inr (Or.inr (Or.inr ⟨tl_3 (List.mem_of_getElem? (i := 28) rfl), rfl⟩))), List.forall_mem_cons.mpr ⟨Or.inr (Or.inr (Or.inr (Or.inr ⟨tl_3 (List.mem_of_getElem? (i := 29) rfl), rfl⟩))), List.forall_mem_cons.mpr ⟨Or.inr (Or.inr (Or.inr (Or.inr ⟨tl_2 (List.mem_of_getElem? (i := 203) rfl), rfl⟩))), List.forall_mem_cons.mpr ⟨Or.inr (Or.inr (Or.inr (Or.inr ⟨tl_2 (List.mem_of_getElem? (i := 157) rfl), rfl⟩))), fun _ h => absurd h List.not_mem_nil⟩⟩⟩⟩⟩
theorem thx_301 : thX RX8 301 "java/lang/IllegalStateException" 7 prog_22_method_2_code := ⟨by decide +kernel, by decide +kernel, by decide +kernel, by decide +kernel, by decide +kernel, thW_all th_A th_A2 thx_301_a th_B (List.forall_mem_cons.mpr ⟨Or.inr (Or.inr (Or.inr (Or.inr ⟨tl_3 (List.mem_of_getElem? (i := 26) rfl), rfl⟩))), List.forall_mem_cons.mpr ⟨Or.inr (Or.inr (Or.inr (Or.inr ⟨tl_3 (List.mem_of_getElem? (i := 17) rfl), rfl⟩))), List.forall_mem_cons.mpr ⟨Or.inr (Or.inr (Or.inr (Or.inr ⟨tl_3 (List.mem_of_getElem? (i := 18) rfl), rfl⟩))), List.forall_mem_cons.mpr ⟨Or.inr (Or.inr (Or.inr (Or.inr ⟨tl_3 (List.mem_of_getElem? (i := 19) rfl), rfl⟩))), List.forall_mem_cons.mpr ⟨Or.inr (Or.inr (Or.inr (Or.inr ⟨tl_2 (List.mem_of_getElem? (i := 189) rfl), rfl⟩))), List.forall_mem_cons.mpr ⟨Or.inr (Or.inr (Or.inr (Or.inr ⟨tl_3 (List.mem_of_getElem? (i := 20) rfl), rfl⟩))), List.forall_mem_cons.mpr ⟨Or.inr (Or.inr (Or.inr (Or.inr ⟨tl_3 (List.mem_of_getElem? (i := 21) rfl), rfl⟩))), List.forall_mem_cons.mpr ⟨Or.inr (Or.inr (Or.inr (Or.inr ⟨tl_3 (List.mem_of_getElem? (i := 22) rfl), rfl⟩))), List.forall_mem_cons.mpr ⟨Or.inr (Or.inr (Or.inr (Or.inr ⟨tl_3 (List.mem_of_getElem? (i := 23) rfl), rfl⟩))), List.forall_mem_cons.mpr ⟨Or.inl rfl, List.forall_mem_cons.mpr ⟨Or.inr (Or.inl rfl), List.forall_mem_cons.mpr ⟨Or.inr (Or.inr (Or.inr (Or.inr ⟨tl_2 (List.mem_of_getElem? (i := 174) rfl), rfl⟩))), List.forall_mem_cons.mpr ⟨Or.inr (Or.inr (Or.inr (Or.inr ⟨tl_2 (List.mem_of_getElem? (i := 173) rfl), rfl⟩))), List.forall_mem_cons.mpr ⟨Or.inr (Or.inr (Or.inr (Or.inr ⟨tl_3 (List.mem_of_getElem? (i := 24) rfl), rfl⟩))), fun _ h => absurd h List.not_mem_nil⟩⟩⟩⟩⟩⟩⟩⟩⟩⟩⟩⟩⟩⟩)⟩
theorem thx_250_a : ∀ w ∈ Bundle.passSAtoms "java/lang/ArithmeticException" "java/lang/RuntimeException" 7 prog_15_method_2_code, thP w := List.forall_mem_cons.mpr ⟨Or.inr (Or.inr (Or.inr (Or.inr ⟨tl_5 (List.mem_of_getElem? (i := 44) rfl), rfl⟩))), List.forall_mem_cons.mpr ⟨Or.inr (Or.inr (Or.inr (Or.inr ⟨tl_5 (List.mem_of_getElem? (i := 45) rfl), rfl⟩))), List.forall_mem_cons.mpr ⟨Or.inr (Or.inr (Or.inr (Or.inr ⟨tl_5 (List.mem_of_getElem? (i := 46) rfl), rfl⟩))), List.forall_mem_cons.mpr ⟨Or.inr (Or.inr (Or.inr (Or.inr ⟨tl_2 (List.mem_of_getElem? (i := 203) rfl), rfl⟩))), List.forall_mem_cons.mpr ⟨Or.inr (Or.inr (Or.inr (Or.inr ⟨tl_2 (List.mem_of_getElem? (i := 157) rfl), rfl⟩))), fun _ h => absurd h List.not_mem_nil⟩⟩⟩⟩⟩
theorem thx_250 : thX RX8 250 "java/lang/ArithmeticException" 7 prog_15_method_2_code := ⟨by decide +kernel, by decide +kernel, by decide +kernel, by decide +kernel, by decide +kernel, thW_all th_A th_A2 thx_250_a th_B (List.forall_mem_cons.mpr ⟨Or.inr (Or.inr (Or.inr (Or.inr ⟨tl_5 (List.mem_of_getElem? (i := 43) rfl), rfl⟩))), List.forall_mem_cons.mpr ⟨Or.inr (Or.inr (Or.inr (Or.inr ⟨tl_5 (List.mem_of_getElem? (i := 34) rfl), rfl⟩))), List.forall_mem_cons.mpr ⟨Or.inr (Or.inr (Or.inr (Or.inr ⟨tl_5 (List.mem_of_getElem? (i := 35) rfl), rfl⟩))), List.forall_mem_cons.mpr ⟨Or.inr (Or.inr (Or.inr (Or.inr ⟨tl_5 (List.mem_of_getElem? (i := 36) rfl), rfl⟩))), List.forall_mem_cons.mpr ⟨Or.inr (Or.inr (Or.inr (Or.inr ⟨tl_2 (List.mem_of_getElem? (i := 186) rfl), rfl⟩))), List.forall_mem_cons.mpr ⟨Or.inr (Or.inr (Or.inr (Or.inr ⟨tl_5 (List.mem_of_getElem? (i := 37) rfl), rfl⟩))), List.forall_mem_cons.mpr ⟨Or.inr (Or.inr (Or.inr (Or.inr ⟨tl_5 (List.mem_of_getElem? (i := 38) rfl), rfl⟩))), List.forall_mem_cons.mpr ⟨Or.inr (Or.inr (Or.inr (Or.inr ⟨tl_5 (List.mem_of_getElem? (i := 39) rfl), rfl⟩))), List.forall_mem_cons.mpr ⟨Or.inr (Or.inr (Or.inr (Or.inr ⟨tl_5 (List.mem_of_getElem? (i := 40) rfl), rfl⟩))), List.forall_mem_cons.mpr ⟨Or.inl rfl, List.forall_mem_cons.mpr ⟨Or.inr (Or.inl rfl), List.forall_mem_cons.mpr ⟨Or.inr (Or.inr (Or.inr (Or.inr ⟨tl_2 (List.mem_of_getElem? (i := 174) rfl), rfl⟩))), List.forall_mem_cons.mpr ⟨Or.inr (Or.inr (Or.inr (Or.inr ⟨tl_2 (List.mem_of_getElem? (i := 173) rfl), rfl⟩))), List.forall_mem_cons.mpr ⟨Or.inr (Or.inr (Or.inr (Or.inr ⟨tl_5 (List.mem_of_getElem? (i := 41) rfl), rfl⟩))), fun _ h => absurd h List.not_mem_nil⟩⟩⟩⟩⟩⟩⟩⟩⟩⟩⟩⟩⟩⟩)⟩
section THS
variable {G : GG} {M : SIG} {rm : Room} {uc us pc : Nat} {L : List (Option VV)} {S : List VV} {σ : Mm} {K : RES → Mm → Prop}
theorem th_words (gk : GOK G) {own cls : String} {ic ix : Nat} {rx : ByteArray} (h : thX own ic cls ix rx) {s : State} {args : Array Value} (hW : (gs G).WarmedH s.vm)
    (hU : vx_Zq Bundle.tN "UNASSIGNED_STACK" Bundle.steD (fun q => (gs G).heap.size ≤ q) s s.heap) (hN : vx_Zq Bundle.tN "SUPPRESSED_SENTINEL" Bundle.listD (fun q => (gs G).heap.size ≤ q) s s.heap) : ∀ w ∈ thW own ic cls ix rx "java/lang/RuntimeException" ["java/lang/Exception"], w.before args s = true := by
  intro w hw
  rcases h.2.2.2.2.2 w hw with rfl | rfl | rfl | rfl | ⟨hm, hg⟩
  · exact vx_isRefq hU.1
  · exact vx_isRefq hN.1
  · exact hU.2.word
  · exact hN.2.word
  · by_cases g : goodWord w = true
    · exact tb_s gk hW _ (List.mem_filter.mpr ⟨hm, g⟩)
    · have g' : tw w = true := by simpa [Bool.or_eq_true, g] using hg
      have h0 := gk.2.1 _ hm
      cases w <;> first | exact va_Nw.use rfl (va_Nw.warmC hW h0) | exact va_Nw.use rfl (va_Nw.warmD hW h0) | exact absurd g' (by simp [tw])
/-- 'throw new cls(text)', in a method without a table: ww tells the form of ldc -/
theorem s_thr0 (gk : GOK G) (hst : STR G) {ik is ic ix l : Nat} {rx : ByteArray} {cls text : String} (h : thX M.1.cls ic cls ix rx) (w1 : Cond.classLink M.1.cls ik cls ∈ TBL) (w2 : Cond.initialized cls ∈ TBL) (w3 : Cond.stringRef M.1.cls is text ∈ lw_tbl)
    (d0 : decode M.2.1 pc = .ok (.new ik, 3)) (d3 : decode M.2.1 (pc + 3) = .ok (.dup, 1)) (d4 : (decode M.2.1 (pc + 4) = .ok (.ldc is, 2) ∧ l = 2) ∨ (decode M.2.1 (pc + 4) = .ok (.ldc_w is, 3) ∧ l = 3)) (d6 : decode M.2.1 (pc + 4 + l) = .ok (.invokespecial ic, 3)) (d9 : decode M.2.1 (pc + 4 + l + 3) = .ok (.athrow, 1))
    (g1 : 5 < rm.frames) (g2 : 82 ≤ rm.locals) (g3 : uc + 1 ≤ rm.cells) (g4 : us + 6 ≤ rm.slots) (hk : ∀ k, K (.inr cls) (sk σ k)) : At G M rm uc us pc L [] σ K := by
  intro p e s m args below meth c H locs ls C h1 h2 h3 h4
  obtain ⟨hx, hb, -, hml, hown, hlk, hex, ⟨-, hsz, hq0⟩, hW⟩ := id C
  have hts := tb_s gk (args := args) hW
  obtain ⟨sa, hsa⟩ := hst _ _ _ w3
  intro T hT X
  have htr : e.platform.stackTraces = false := (show e.platform.stackTraces = (gl G).stackTraces by rw [X.admits.platform]).trans gk.1
  have Y := vx_rebase X (R' := { frames := rm.frames, locals := rm.locals, cells := 1, slots := 6 }) (Nat.le_refl _) (Nat.le_refl _) g3 g4
  obtain ⟨s', hA⟩ : ∃ z, z = (T.setVm s.vm).setFrames (.invoking m args :: below) := ⟨_, rfl⟩
  rw [← hA] at Y
  have hvm : s'.vm = s.vm := by rw [hA]; rfl
  have hhp : s'.heap = H := by rw [hA]; exact hT
  have hW0 : s.WarmedH s'.vm := by rw [hvm]; exact State.WarmedH.refl s
  have hWs' : (gs G).WarmedH s'.vm := by rw [hvm]; exact hW
  have hts' := tb_s gk (args := args) hWs'
  have hwd := th_words gk h (args := args) hWs' (zq_s (H := s'.heap) hWs' gk.2.2.2.2.1 (by rw [hhp]; exact h3.2.2.1)) (zq_s (H := s'.heap) hWs' gk.2.2.2.2.2 (by rw [hhp]; exact h3.2.2.1))
  have hown' : s'.vm.findClass M.1.cls = some m.cls := by rw [hvm]; exact hown
  have hins : (Cond.instantiable cls 6).before args s' = true := hwd _ (by simp [thW])
  obtain ⟨vm₁, cX, kX, hfX, hkX, -, -, X₁, st1⟩ := Y.newCold hx (own := M.1.cls) (C := cls) (index := ik) (n := 6) hown' (hts' _ w1) hins (hts' _ w2)
    (g := F0 m pc ls []) rfl (by rw [hb]; exact d0) (Nat.le_refl _) (Nat.le_refl _)
  generalize hT1 : (T.setVm vm₁).pushCell { cls := cX, slots := kX.instanceTypes.map defaultValue, vm := .none } = T1 at X₁ st1
  have hcellA : T1.heap[T.heap.size]? = some (freshCell cX kX) := by rw [← hT1]; exact State.heap_pushCell_size _ _
  have d3' : decode c.code (pc + 3) = .ok (.dup, 1) := by rw [hb]; exact d3
  have hstr' : vk_R M.1.cls is text sa s' := vk_R.warm hWs' hsa
  obtain ⟨U, hsteps, hrun, hend, hWU, hsame, ce, hce, hfc, hcv⟩ := th_ctor X₁ hx htr (own := M.1.cls) (cls := cls) (Y0 := "java/lang/RuntimeException") (r := ["java/lang/Exception"]) h.1 h.2.1 h.2.2.1 h.2.2.2.1 hown' h.2.2.2.2.1 (by decide +kernel) (by decide +kernel) hwd (fun x hx => nomatch hx) hfX hkX hcellA (by rw [hhp, hT]; exact Nat.le_refl _) (msg := .ref sa) rfl
    (g := { method := m, pc := pc + 4 + l, locals := ls, stack := .ref sa :: .ref T.heap.size :: .ref T.heap.size :: [], locked := none }) rfl (by rw [hml]; exact h4.1) rfl rfl (rest := []) rfl
    (by rw [hb]; exact d6) (by rw [hb]; exact d9) (fun x hx => absurd hx (hex x)) (by simpa using g1) (by simp only [List.map_cons, List.map_nil, List.sum_cons, List.sum_nil, Value.category, JFrame.monitorRoom, List.length_cons, List.length_nil]; simp; omega) hlk
  obtain ⟨f1, f2⟩ := vx_frame hsame
  rw [hhp] at f1 f2
  have hWs : s.WarmedH U.vm := State.WarmedH.trans hW0 hWU
  have hcl : s.vm.findClass cls = some ce.cls := by
    rw [hvm] at hfc
    exact hfc
  have hall : s.sameButNew ({ U with vm := s.vm } : State) locs rm.cells rm.slots := by
    subst hA
    obtain ⟨e1, e2⟩ := hsame
    rw [State.setFrames_setFrames] at e1
    have h2' : (T.setVm s.vm).sameButNew ({ U with vm := s.vm } : State) [] (0 + 1) (0 + 6) := ⟨e1, e2⟩
    have h3' := X.same.trans h2'
    rw [List.append_nil] at h3'
    exact h3'.mono g3 g4
  have ho : ∀ q : Nat, q < H.size → U.heap[q]? = H[q]? := fun q hq => f2 q hq (fun z hz => nomatch hz)
  refine ⟨U, ?_, .threw T.heap.size, hrun, hend, Or.inr ⟨T.heap.size, rfl, cls, ce, locs, ⟨sk σ (U.heap.size - H.size), hk _, hk_sk h3 f1 ho, by omega⟩, hce, hcv, hcl, hWs, hall, h2⟩⟩
  refine st1 _ ?_
  show Steps p.tables e below (T1.setTop { method := m, pc := pc + 3, locals := ls, stack := .ref T.heap.size :: [], locked := none }) _
  jvm_step X₁.here [X₁.here.top, hx, d3', Value.category]
  rcases d4 with ⟨d4, rfl⟩ | ⟨d4, rfl⟩
  · exact X₁.ldcString hx (own := M.1.cls) (text := text) (index := is) (a := sa) hown' hstr'.1 hstr'.2
      (g := { method := m, pc := pc + 4, locals := ls, stack := .ref T.heap.size :: .ref T.heap.size :: [], locked := none }) rfl (by rw [hb]; exact d4) _ hsteps
  · exact X₁.ldcStringW hx (own := M.1.cls) (text := text) (index := is) (a := sa) hown' hstr'.1 hstr'.2
      (g := { method := m, pc := pc + 4, locals := ls, stack := .ref T.heap.size :: .ref T.heap.size :: [], locked := none }) rfl (by rw [hb]; exact d4) _ hsteps
end THS
