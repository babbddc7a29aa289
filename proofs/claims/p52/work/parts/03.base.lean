/-! ===== values, memory, what a heap holds, a method's run as one predicate ===== -/
abbrev VV : Type := Int32 ⊕ (Option Nat ⊕ (Int64 ⊕ (UInt32 ⊕ UInt64)))
abbrev vI (x : Int32) : VV := .inl x
abbrev vR (r : Option Nat) : VV := .inr (.inl r)
abbrev vL (x : Int64) : VV := .inr (.inr (.inl x))
abbrev vF (x : UInt32) : VV := .inr (.inr (.inr (.inl x)))
abbrev vD (x : UInt64) : VV := .inr (.inr (.inr (.inr x)))
def em : VV → Value
  | .inl x => .int x
  | .inr (.inl r) => va_rf r
  | .inr (.inr (.inl x)) => .long x
  | .inr (.inr (.inr (.inl x))) => .float x
  | .inr (.inr (.inr (.inr x))) => .double x
def wide : VV → Bool
  | .inr (.inr (.inl _)) => true
  | .inr (.inr (.inr (.inr _))) => true
  | _ => false
/-- the memory: whole numbers, references, longs, doubles by address and slot; each address's type (0: not ours) and length; the next address -/
abbrev Mm : Type := (Nat → Nat → Int32) × (Nat → Nat → Option Nat) × (Nat → Nat → Int64) × (Nat → Nat → UInt64) × (Nat → Nat × Nat) × Nat
def mi (σ : Mm) : Nat → Nat → Int32 := σ.1
def mr (σ : Mm) : Nat → Nat → Option Nat := σ.2.1
def ml (σ : Mm) : Nat → Nat → Int64 := σ.2.2.1
def md (σ : Mm) : Nat → Nat → UInt64 := σ.2.2.2.1
def mt (σ : Mm) : Nat → Nat × Nat := σ.2.2.2.2.1
def mz (σ : Mm) : Nat := σ.2.2.2.2.2
def u2 {α : Type} (f : Nat → Nat → α) (a k : Nat) (x : α) : Nat → Nat → α := fun b j => if b = a ∧ j = k then x else f b j
def si (σ : Mm) (a k : Nat) (x : Int32) : Mm := (u2 (mi σ) a k x, mr σ, ml σ, md σ, mt σ, mz σ)
def sr (σ : Mm) (a k : Nat) (x : Option Nat) : Mm := (mi σ, u2 (mr σ) a k x, ml σ, md σ, mt σ, mz σ)
def sl (σ : Mm) (a k : Nat) (x : Int64) : Mm := (mi σ, mr σ, u2 (ml σ) a k x, md σ, mt σ, mz σ)
def sd (σ : Mm) (a k : Nat) (x : UInt64) : Mm := (mi σ, mr σ, ml σ, u2 (md σ) a k x, mt σ, mz σ)
/-- a new cell at the next address, all zero -/
def nw (σ : Mm) (t : Nat × Nat) : Mm := (fun b j => if b = mz σ then 0 else mi σ b j, fun b j => if b = mz σ then none else mr σ b j, fun b j => if b = mz σ then 0 else ml σ b j, fun b j => if b = mz σ then 0 else md σ b j, fun b => if b = mz σ then t else mt σ b, mz σ + 1)
/-- cells that are nobody's: an exception's -/
def sk (σ : Mm) (k : Nat) : Mm := (mi σ, mr σ, ml σ, md σ, mt σ, mz σ + k)
theorem u2_s {α : Type} {f : Nat → Nat → α} {a k : Nat} {x : α} : u2 f a k x a k = x := if_pos ⟨rfl, rfl⟩
theorem u2_a {α : Type} {f : Nat → Nat → α} {a k b j : Nat} {x : α} (h : b ≠ a) : u2 f a k x b j = f b j := if_neg fun q => h q.1
theorem u2_k {α : Type} {f : Nat → Nat → α} {a k b j : Nat} {x : α} (h : j ≠ k) : u2 f a k x b j = f b j := if_neg fun q => h q.2
-- the classes, by number
def clN : Nat → String := fun c => match c with
  | 0 => RX0 | 1 => RX1 | 2 => RX2 | 3 => RX3 | 4 => RX4 | 5 => RX5 | 6 => RX6 | 7 => RX7 | 8 => RX8 | 9 => RJ0 | _ => RJ4
def clT : Nat → u_T := fun c => match c with
  | 0 => TX0 | 1 => TX1 | 2 => TX2 | 3 => TX3 | 4 => TX4 | 5 => TX5 | 6 => TX6 | 7 => TX7 | 8 => TX8 | 9 => TJ0 | _ => TJ4
def clK : Nat → Nat := fun c => match c with
  | 0 => 5 | 1 => 5 | 2 => 9 | 3 => 3 | 4 => 4 | 5 => 7 | 6 => 9 | 7 => 4 | 8 => 8 | 9 => 4 | _ => 4
def clY : Nat → Nat → FieldType := fun c => match c with
  | 0 => tyX0 | 1 => tyX1 | 2 => tyX2 | 3 => tyX3 | 4 => tyX4 | 5 => tyX5 | 6 => tyX6 | 7 => tyX7 | 8 => tyX8 | 9 => tyJ0 | _ => tyJ4
theorem cl_ind {P : Nat → Prop} {c : Nat} (h : c < 11) (h0 : P 0) (h1 : P 1) (h2 : P 2) (h3 : P 3) (h4 : P 4) (h5 : P 5) (h6 : P 6) (h7 : P 7) (h8 : P 8) (h9 : P 9) (h10 : P 10) : P c := by
  match c, h with
  | 0, _ => exact h0
  | 1, _ => exact h1
  | 2, _ => exact h2
  | 3, _ => exact h3
  | 4, _ => exact h4
  | 5, _ => exact h5
  | 6, _ => exact h6
  | 7, _ => exact h7
  | 8, _ => exact h8
  | 9, _ => exact h9
  | 10, _ => exact h10
  | n + 11, h => omega
theorem cl_nm {c : Nat} (h : c < 11) : ∀ a, a < clK c → ∀ b, b < clK c → a ≠ b → (clT c a).2.1 ≠ (clT c b).2.1 := cl_ind (P := fun c => ∀ a, a < clK c → ∀ b, b < clK c → a ≠ b → (clT c a).2.1 ≠ (clT c b).2.1) h nmX0 nmX1 nmX2 nmX3 nmX4 nmX5 nmX6 nmX7 nmX8 nmJ0 nmJ4
theorem cl_ty {c : Nat} (h : c < 11) : ∀ k, k < clK c → parseFieldDescriptor (clT c k).2.2.1 = some (clY c k) := cl_ind (P := fun c => ∀ k, k < clK c → parseFieldDescriptor (clT c k).2.2.1 = some (clY c k)) h tyX0_ok tyX1_ok tyX2_ok tyX3_ok tyX4_ok tyX5_ok tyX6_ok tyX7_ok tyX8_ok tyJ0_ok tyJ4_ok
def rfT : FieldType → Bool
  | .object _ => true
  | .array _ => true
  | _ => false
-- the arrays, by number
def arT : Nat → FieldType := fun j => match j with
  | 0 => .long | 1 => .long | 2 => .long | 3 => .char | 4 => .byte | 5 => .object RX4 | 6 => .object RX5 | 7 => .object RX7 | 8 => .object RX2 | 9 => .object RX6 | _ => .object RX0
/-- a launch, the law's start, the classes' numbers and slots, the arrays' classes -/
abbrev GG : Type := Launch × State × va_G × (Nat → ClassId)
abbrev gl (G : GG) : Launch := G.1
abbrev gs (G : GG) : State := G.2.1
abbrev gD (G : GG) : va_G := G.2.2.1
abbrev gA (G : GG) : Nat → ClassId := G.2.2.2
def fv (σ : Mm) (a c k : Nat) : Value := if rfT (clY c k) = true then va_rf (mr σ a k) else .int (mi σ a k)
def ev (σ : Mm) (a j i : Nat) : Value := match j with
  | 0 => .long (ml σ a i)
  | 1 => .long (ml σ a i)
  | 2 => .long (ml σ a i)
  | 3 => .int (mi σ a i)
  | 4 => .int (mi σ a i)
  | _ => va_rf (mr σ a i)
/-- what the heap holds at an address of type t: 1.. an object of class t - 1; 50.. an array; 99 the script, which nobody writes -/
def atT (G : GG) (σ : Mm) (a : Nat) (t : Nat × Nat) (H : Heap) : Prop :=
  if t.1 = 0 then True
  else if t.1 < 50 then t.1 - 1 < 11 ∧ (gs G).heap.size ≤ a ∧ t_OB a ((gD G).1 (t.1 - 1)) (clK (t.1 - 1)) ((gD G).2 (t.1 - 1)) H (fun k => fv σ a (t.1 - 1) k)
  else if t.1 = 99 then ∃ scr : Cell, H[a]? = some scr ∧ (gs G).isArrayOf scr .int ∧ scr.vm ≠ .unknown ∧ scr.slots.size = t.2 ∧ ∀ j : Nat, j < t.2 → scr.slots[j]? = some (.int (mi σ a j))
  else t.1 - 50 < 11 ∧ (gs G).heap.size ≤ a ∧ H[a]? = some (arrV (gA G (t.1 - 50)) t.2 (fun i => ev σ a (t.1 - 50) i))
def HK (G : GG) (σ : Mm) (H : Heap) : Prop := H.size = mz σ ∧ (gs G).heap.size ≤ mz σ ∧ (∀ q : Nat, q < (gs G).heap.size → H[q]? = (gs G).heap[q]?) ∧ ∀ a : Nat, atT G σ a (mt σ a) H
def TBL : List Cond := lw_tbl.filter goodWord
theorem tb_in {w : Cond} (i : Nat) (h : lw_tbl[i]? = some w) (g : goodWord w = true) : w ∈ TBL := List.mem_filter.mpr ⟨List.mem_of_getElem? h, g⟩
/-- what is so of the start and stays so -/
def GOK (G : GG) : Prop := (gl G).stackTraces = false ∧ (∀ w ∈ lw_tbl, w.before #[] (gs G) = true) ∧
  (∀ c, c < 11 → u_Kn (gs G) (clN c) (clT c) (clK c) ((gD G).1 c) ((gD G).2 c)) ∧
  (∀ j, j < 11 → ArrOfT (gs G) (gA G j) (arT j) ∧ va_RA (gs G) (gA G j) (arT j)) ∧
  vx_Zq Bundle.tN "UNASSIGNED_STACK" Bundle.steD (fun q => (gs G).heap.size ≤ q) (gs G) (gs G).heap ∧ vx_Zq Bundle.tN "SUPPRESSED_SENTINEL" Bundle.listD (fun q => (gs G).heap.size ≤ q) (gs G) (gs G).heap
/-- a method: its name, code, locals, answer -/
abbrev SIG : Type := MethodName × ByteArray × Nat × Option FieldType
abbrev RES : Type := Option VV ⊕ String
def frG (G : GG) : Addr → Prop := fun q => (gs G).heap.size ≤ q
def QcG (G : GG) (K : RES → Mm → Prop) : Array Value → State → Outcome → State → Prop := fun _ st o t => ∃ (v : Option VV) (σ' : Mm), o = .returned (v.map em) ∧ K (.inl v) σ' ∧ HK G σ' t.heap ∧ st.heap.size ≤ t.heap.size
def XCG (G : GG) (K : RES → Mm → Prop) : String → State → State → Prop := fun E st t => ∃ σ' : Mm, K (.inr E) σ' ∧ HK G σ' t.heap ∧ st.heap.size ≤ t.heap.size
/-- the method M, called with these values in this memory, comes to an end that K says -/
def Runs (G : GG) (M : SIG) (rm : Room) (as : List VV) (σ : Mm) (K : RES → Mm → Prop) : Prop :=
  vx_Met (gl G) M.1 [Cond.code M.1 M.2.1 M.2.2.1 M.2.2.2] rm (fun v U => v = (as.map em).toArray ∧ HK G σ U.heap ∧ (gs G).WarmedH U.vm) (QcG G K) (XCG G K) rm.cells rm.slots (frG G)
def CX (G : GG) (M : SIG) (p : Program) (s : State) (m : MethodId) (meth : Method) (c : Code) : Prop :=
  p.tables.exec = Jvm.exec ∧ c.code = M.2.1 ∧ meth.sig.returnType = M.2.2.2 ∧ c.maxLocals = M.2.2.1 ∧ s.vm.findClass M.1.cls = some m.cls ∧ meth.locks = false ∧ (∀ x ∈ c.exceptionTable.toList, False) ∧ (meth.name = M.1.name ∧ (gs G).heap.size ≤ s.heap.size ∧ ∀ q, q < (gs G).heap.size → s.heap[q]? = (gs G).heap[q]?) ∧ (gs G).WarmedH s.vm
def lcs (ls : Array Slot) (n : Nat) (L : List (Option VV)) : Prop := ls.size = n ∧ L.length = n ∧ lv_wf ls ∧ ∀ (i : Nat) (v : VV), L[i]? = some (some v) → ls[i]? = some (.val (em v))
/-- the method M, standing at pc with these locals, this stack, this memory, uc cells and us slots made at most, comes to an end that K says -/
def At (G : GG) (M : SIG) (rm : Room) (uc us pc : Nat) (L : List (Option VV)) (S : List VV) (σ : Mm) (K : RES → Mm → Prop) : Prop :=
  ∀ (p : Program) (e : Env) (s : State) (m : MethodId) (args : Array Value) (below : List Frame) (meth : Method) (c : Code) (H : Heap) (locs : List Loc) (ls : Array Slot),
    CX G M p s m meth c → s.heap.size ≤ H.size → (∀ z ∈ locs, frG G z.base) → HK G σ H → lcs ls M.2.2.1 L →
    W p (gl G) e rm s m args below meth c H locs uc us (vx_MQ below (QcG G K) (XCG G K) args s rm.cells rm.slots (frG G)) (F0 m pc ls (S.map em))
theorem em_c1 {v : VV} (h : wide v = false) : (em v).category = 1 := by
  rcases v with x | r | x | x | x
  · rfl
  · cases r <;> rfl
  · cases h
  · rfl
  · cases h
theorem lg_em (as : List VV) (hw : as.all (fun v => !wide v) = true) : lg_sl (as.map em) = as.map (fun v => Slot.val (em v)) := by
  induction as with
  | nil => rfl
  | cons v l ih =>
    simp only [List.all_cons, Bool.and_eq_true, Bool.not_eq_true'] at hw
    have h1 := em_c1 hw.1
    have h2 := ih (by simpa using hw.2)
    simp only [lg_sl, List.map_cons, List.flatMap_cons] at h2 ⊢
    rw [if_neg (by rw [h1]; decide), h2]
    rfl
theorem lcs_entry (as : List VV) (n : Nat) (hw : as.all (fun v => !wide v) = true) (hn : as.length ≤ n) : lcs ((lg_sl (as.map em) ++ List.replicate (n - (lg_sl (as.map em)).length) Slot.unset).toArray) n (as.map some ++ List.replicate (n - as.length) none) := by
  have hsl := lg_em as hw
  have h : (lg_sl (as.map em)).length ≤ n := by rw [hsl]; simpa using hn
  have e := lv_entry (as.map em) h
  refine ⟨e.1, by simp; omega, e.2.1, fun i v hv => ?_⟩
  rw [hsl]
  by_cases hi : i < as.length
  · rw [List.getElem?_append_left (by simpa using hi)] at hv
    simp only [List.getElem?_map, Option.map_eq_some_iff, Option.some.injEq, exists_eq_right] at hv
    obtain ⟨h1, h2⟩ := List.getElem?_eq_some_iff.mp hv
    simp [List.getElem?_append_left, hi, h2]
  · rw [List.getElem?_append_right (by simpa using hi)] at hv
    simp [List.getElem?_replicate] at hv
theorem Runs.of {G : GG} {M : SIG} {rm : Room} {as : List VV} {σ : Mm} {K : RES → Mm → Prop} (hy : plainName M.1.cls = true) (hw : as.all (fun v => !wide v) = true) (hn : as.length ≤ M.2.2.1)
    (h : At G M rm 0 0 0 (as.map some ++ List.replicate (M.2.2.1 - as.length) none) [] σ K) : Runs G M rm as σ K := by
  refine vx_ofW (cc := M.2.1) (maxL := M.2.2.1) (ret := M.2.2.2) hy rfl ?_
  intro p e s m args below meth c s₁ B hml hex hv
  obtain ⟨rfl, hH, hW⟩ := hv
  have h9 := h p e s m (as.map em).toArray below meth c s.heap [] _ ⟨B.exec, B.bytes, B.returns, hml, findClass_of_methodNamed B.named, B.notSynchronized, hex, ⟨(name_of_methodNamed B.named B.method).1, by rw [hH.1]; exact hH.2.1, hH.2.2.1⟩, hW⟩ (Nat.le_refl _) (fun _ h => by cases h) hH (lcs_entry as M.2.2.1 hw hn)
  rw [lg_entry_eq]
  exact h9
theorem Runs.mono {G : GG} {M : SIG} {rm : Room} {as : List VV} {σ : Mm} {K K' : RES → Mm → Prop} (h : Runs G M rm as σ K) (hK : ∀ r t, K r t → K' r t) : Runs G M rm as σ K' := by
  intro p e ha hc hk s m args below hf happ hP hT
  obtain ⟨k, o, h1, h2, h3, h4⟩ := h p e ha hc hk s m args below hf happ hP hT
  refine ⟨k, o, h1, h2, h3, ?_⟩
  rcases h4 with ⟨⟨v, t, q1, q2, q3⟩, q⟩ | ⟨q, q0, E, ce, L, ⟨t, q1, q2⟩, q3⟩
  · exact Or.inl ⟨⟨v, t, q1, hK _ _ q2, q3⟩, q⟩
  · exact Or.inr ⟨q, q0, E, ce, L, ⟨t, hK _ _ q1, q2⟩, q3⟩
theorem At.mono {G : GG} {M : SIG} {rm : Room} {uc us pc : Nat} {L : List (Option VV)} {S : List VV} {σ : Mm} {K K' : RES → Mm → Prop} (h : At G M rm uc us pc L S σ K) (hK : ∀ r t, K r t → K' r t) : At G M rm uc us pc L S σ K' := by
  intro p e s m args below meth c H locs ls C h1 h2 h3 h4 T hT X
  obtain ⟨t, a, o, b1, b2, h4⟩ := h p e s m args below meth c H locs ls C h1 h2 h3 h4 T hT X
  refine ⟨t, a, o, b1, b2, ?_⟩
  rcases h4 with ⟨⟨v, t, q1, q2, q3⟩, q⟩ | ⟨q, q0, E, ce, L, ⟨t, q1, q2⟩, q3⟩
  · exact Or.inl ⟨⟨v, t, q1, hK _ _ q2, q3⟩, q⟩
  · exact Or.inr ⟨q, q0, E, ce, L, ⟨t, hK _ _ q1, q2⟩, q3⟩
/-- fewer locals known -/
theorem At.sub {G : GG} {M : SIG} {rm : Room} {uc us pc : Nat} {L L' : List (Option VV)} {S : List VV} {σ : Mm} {K : RES → Mm → Prop} (h : At G M rm uc us pc L' S σ K) (hl : L'.length = L.length) (hs : ∀ (i : Nat) (v : VV), L'[i]? = some (some v) → L[i]? = some (some v)) : At G M rm uc us pc L S σ K :=
  fun p e s m args below meth c H locs ls C h1 h2 h3 h4 => h p e s m args below meth c H locs ls C h1 h2 h3 ⟨h4.1, hl.trans h4.2.1, h4.2.2.1, fun i v q => h4.2.2.2 i v (hs i v q)⟩
theorem At.widen {G : GG} {M : SIG} {rm : Room} {uc us uc' us' pc : Nat} {L : List (Option VV)} {S : List VV} {σ : Mm} {K : RES → Mm → Prop} (h : At G M rm uc' us' pc L S σ K) (h1 : uc ≤ uc') (h2 : us ≤ us') : At G M rm uc us pc L S σ K :=
  fun p e s m args below meth c H locs ls C q1 q2 q3 q4 => W.widen h1 h2 (h p e s m args below meth c H locs ls C q1 q2 q3 q4)
