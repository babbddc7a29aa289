/-! ===== one instruction, one row: numbers, stack, jumps ===== -/
section RWT
variable {G : GG} {M : SIG} {rm : Room} {uc us pc : Nat} {L : List (Option VV)} {S : List VV} {σ : Mm} {K : RES → Mm → Prop}

theorem s_iadd {x y : Int32} (hd : decode M.2.1 pc = .ok (.iadd, 1)) (k : At G M rm uc us (pc + 1) L (vI (x + y) :: S) σ K) : At G M rm uc us pc L (vI y :: vI x :: S) σ K :=
  fun p e s m args below meth c H locs ls C h1 h2 h3 h4 => lv_iadd C.1 C.2.1 hd  (k p e s m args below meth c H locs ls C h1 h2 h3 h4)
theorem s_isub {x y : Int32} (hd : decode M.2.1 pc = .ok (.isub, 1)) (k : At G M rm uc us (pc + 1) L (vI (x - y) :: S) σ K) : At G M rm uc us pc L (vI y :: vI x :: S) σ K :=
  fun p e s m args below meth c H locs ls C h1 h2 h3 h4 => lv_isub C.1 C.2.1 hd  (k p e s m args below meth c H locs ls C h1 h2 h3 h4)
theorem s_imul {x y : Int32} (hd : decode M.2.1 pc = .ok (.imul, 1)) (k : At G M rm uc us (pc + 1) L (vI (x * y) :: S) σ K) : At G M rm uc us pc L (vI y :: vI x :: S) σ K :=
  fun p e s m args below meth c H locs ls C h1 h2 h3 h4 => lv_imul C.1 C.2.1 hd  (k p e s m args below meth c H locs ls C h1 h2 h3 h4)
theorem s_iand {x y : Int32} (hd : decode M.2.1 pc = .ok (.iand, 1)) (k : At G M rm uc us (pc + 1) L (vI (x &&& y) :: S) σ K) : At G M rm uc us pc L (vI y :: vI x :: S) σ K :=
  fun p e s m args below meth c H locs ls C h1 h2 h3 h4 => lv_iand C.1 C.2.1 hd  (k p e s m args below meth c H locs ls C h1 h2 h3 h4)
theorem s_idiv {x y : Int32} (hd : decode M.2.1 pc = .ok (.idiv, 1)) (hne : ¬ y = 0) (k : At G M rm uc us (pc + 1) L (vI (x / y) :: S) σ K) : At G M rm uc us pc L (vI y :: vI x :: S) σ K :=
  fun p e s m args below meth c H locs ls C h1 h2 h3 h4 => lv_idiv C.1 C.2.1 hd hne (k p e s m args below meth c H locs ls C h1 h2 h3 h4)
theorem s_irem {x y : Int32} (hd : decode M.2.1 pc = .ok (.irem, 1)) (hne : ¬ y = 0) (k : At G M rm uc us (pc + 1) L (vI (x - x / y * y) :: S) σ K) : At G M rm uc us pc L (vI y :: vI x :: S) σ K :=
  fun p e s m args below meth c H locs ls C h1 h2 h3 h4 => lv_irem C.1 C.2.1 hd hne (k p e s m args below meth c H locs ls C h1 h2 h3 h4)
theorem s_i2c {x v : Int32} (hd : decode M.2.1 pc = .ok (.i2c, 1)) (hv : (x.toUInt32 % 65536).toInt32 = v) (k : At G M rm uc us (pc + 1) L (vI v :: S) σ K) : At G M rm uc us pc L (vI x :: S) σ K :=
  fun p e s m args below meth c H locs ls C h1 h2 h3 h4 => lv_i2c C.1 C.2.1 hd hv (k p e s m args below meth c H locs ls C h1 h2 h3 h4)
theorem s_i2b {x v : Int32} (hd : decode M.2.1 pc = .ok (.i2b, 1)) (hv : x.toInt8.toInt32 = v) (k : At G M rm uc us (pc + 1) L (vI v :: S) σ K) : At G M rm uc us pc L (vI x :: S) σ K :=
  fun p e s m args below meth c H locs ls C h1 h2 h3 h4 => lv_i2b C.1 C.2.1 hd hv (k p e s m args below meth c H locs ls C h1 h2 h3 h4)
theorem s_i2l {x : Int32} {v : Int64} (hd : decode M.2.1 pc = .ok (.i2l, 1)) (hv : x.toInt64 = v) (k : At G M rm uc us (pc + 1) L (vL v :: S) σ K) : At G M rm uc us pc L (vI x :: S) σ K :=
  fun p e s m args below meth c H locs ls C h1 h2 h3 h4 => lv_i2l C.1 C.2.1 hd hv (k p e s m args below meth c H locs ls C h1 h2 h3 h4)
theorem s_i2f {x : Int32} (hd : decode M.2.1 pc = .ok (.i2f, 1)) (k : At G M rm uc us (pc + 1) L (vF (FP.i2f x) :: S) σ K) : At G M rm uc us pc L (vI x :: S) σ K :=
  fun p e s m args below meth c H locs ls C h1 h2 h3 h4 => lv_i2f C.1 C.2.1 hd  (k p e s m args below meth c H locs ls C h1 h2 h3 h4)
theorem s_i2d {x : Int32} (hd : decode M.2.1 pc = .ok (.i2d, 1)) (k : At G M rm uc us (pc + 1) L (vD (FP.i2d x) :: S) σ K) : At G M rm uc us pc L (vI x :: S) σ K :=
  fun p e s m args below meth c H locs ls C h1 h2 h3 h4 => lv_i2d C.1 C.2.1 hd  (k p e s m args below meth c H locs ls C h1 h2 h3 h4)
theorem s_f2d {x : UInt32} (hd : decode M.2.1 pc = .ok (.f2d, 1)) (hn : vf_n64 (FP.f2d x)) (k : At G M rm uc us (pc + 1) L (vD (FP.f2d x) :: S) σ K) : At G M rm uc us pc L (vF x :: S) σ K :=
  fun p e s m args below meth c H locs ls C h1 h2 h3 h4 => lv_f2d C.1 C.2.1 hd hn (k p e s m args below meth c H locs ls C h1 h2 h3 h4)
theorem s_fdiv {x y : UInt32} (hd : decode M.2.1 pc = .ok (.fdiv, 1)) (hn : vf_n32 (FP.fdiv x y)) (k : At G M rm uc us (pc + 1) L (vF (FP.fdiv x y) :: S) σ K) : At G M rm uc us pc L (vF y :: vF x :: S) σ K :=
  fun p e s m args below meth c H locs ls C h1 h2 h3 h4 => lv_fdiv C.1 C.2.1 hd hn (k p e s m args below meth c H locs ls C h1 h2 h3 h4)
theorem s_ddiv {x y : UInt64} (hd : decode M.2.1 pc = .ok (.ddiv, 1)) (hn : vf_n64 (FP.ddiv x y)) (k : At G M rm uc us (pc + 1) L (vD (FP.ddiv x y) :: S) σ K) : At G M rm uc us pc L (vD y :: vD x :: S) σ K :=
  fun p e s m args below meth c H locs ls C h1 h2 h3 h4 => lv_ddiv C.1 C.2.1 hd hn (k p e s m args below meth c H locs ls C h1 h2 h3 h4)
theorem s_lcmp {x y : Int64} (hd : decode M.2.1 pc = .ok (.lcmp, 1)) (k : At G M rm uc us (pc + 1) L (vI (lg_cmp x y) :: S) σ K) : At G M rm uc us pc L (vL y :: vL x :: S) σ K :=
  fun p e s m args below meth c H locs ls C h1 h2 h3 h4 => W.lcmp C.1 C.2.1 hd  (k p e s m args below meth c H locs ls C h1 h2 h3 h4)
theorem s_dcmp {x y : UInt64} {op : CmpOp} (hd : decode M.2.1 pc = .ok (.dcmp op, 1)) (k : At G M rm uc us (pc + 1) L (vI (Op.cmpValue (FP.dcmp x y) op) :: S) σ K) : At G M rm uc us pc L (vD y :: vD x :: S) σ K :=
  fun p e s m args below meth c H locs ls C h1 h2 h3 h4 => lv_dcmp C.1 C.2.1 hd  (k p e s m args below meth c H locs ls C h1 h2 h3 h4)
theorem s_fcmp {x y : UInt32} {op : CmpOp} (hd : decode M.2.1 pc = .ok (.fcmp op, 1)) (k : At G M rm uc us (pc + 1) L (vI (Op.cmpValue (FP.fcmp x y) op) :: S) σ K) : At G M rm uc us pc L (vF y :: vF x :: S) σ K :=
  fun p e s m args below meth c H locs ls C h1 h2 h3 h4 => lv_fcmp C.1 C.2.1 hd  (k p e s m args below meth c H locs ls C h1 h2 h3 h4)
theorem s_dup {v : VV} (hd : decode M.2.1 pc = .ok (.dup, 1)) (hw : wide v = false) (k : At G M rm uc us (pc + 1) L (v :: v :: S) σ K) : At G M rm uc us pc L (v :: S) σ K :=
  fun p e s m args below meth c H locs ls C h1 h2 h3 h4 => lv_dup C.1 C.2.1 hd (em_c1 hw) (k p e s m args below meth c H locs ls C h1 h2 h3 h4)
theorem s_pop {v : VV} (hd : decode M.2.1 pc = .ok (.pop, 1)) (hw : wide v = false) (k : At G M rm uc us (pc + 1) L (S) σ K) : At G M rm uc us pc L (v :: S) σ K :=
  fun p e s m args below meth c H locs ls C h1 h2 h3 h4 => lv_pop C.1 C.2.1 hd (em_c1 hw) (k p e s m args below meth c H locs ls C h1 h2 h3 h4)
theorem s_dup_x1 {v w : VV} (hd : decode M.2.1 pc = .ok (.dup_x1, 1)) (hw : wide v = false) (hw2 : wide w = false) (k : At G M rm uc us (pc + 1) L (v :: w :: v :: S) σ K) : At G M rm uc us pc L (v :: w :: S) σ K :=
  fun p e s m args below meth c H locs ls C h1 h2 h3 h4 => lv_dup_x1 C.1 C.2.1 hd (em_c1 hw) (em_c1 hw2) (k p e s m args below meth c H locs ls C h1 h2 h3 h4)
theorem s_dup2 {v w : VV} (hd : decode M.2.1 pc = .ok (.dup2, 1)) (hw : wide v = false) (hw2 : wide w = false) (k : At G M rm uc us (pc + 1) L (v :: w :: v :: w :: S) σ K) : At G M rm uc us pc L (v :: w :: S) σ K :=
  fun p e s m args below meth c H locs ls C h1 h2 h3 h4 => lv_dup2_11 C.1 C.2.1 hd (em_c1 hw) (em_c1 hw2) (k p e s m args below meth c H locs ls C h1 h2 h3 h4)
theorem s_if_eq {x : Int32} {off : Int} {tgt : Nat} (hd : decode M.2.1 pc = .ok (.ifCond .eq off, 3)) (ht : (pc : Int) + off = (tgt : Int)) (kt : x = 0 → At G M rm uc us tgt L S σ K) (kf : ¬ x = 0 → At G M rm uc us (pc + 3) L S σ K) : At G M rm uc us pc L (vI x :: S) σ K :=
  fun p e s m args below meth c H locs ls C h1 h2 h3 h4 => lv_if_eq C.1 C.2.1 hd ht (fun q => kt q p e s m args below meth c H locs ls C h1 h2 h3 h4) (fun q => kf q p e s m args below meth c H locs ls C h1 h2 h3 h4)
theorem s_icmp_eq {x y : Int32} {off : Int} {tgt : Nat} (hd : decode M.2.1 pc = .ok (.if_icmp .eq off, 3)) (ht : (pc : Int) + off = (tgt : Int)) (kt : x = y → At G M rm uc us tgt L S σ K) (kf : ¬ x = y → At G M rm uc us (pc + 3) L S σ K) : At G M rm uc us pc L (vI y :: vI x :: S) σ K :=
  fun p e s m args below meth c H locs ls C h1 h2 h3 h4 => lv_icmp_eq C.1 C.2.1 hd ht (fun q => kt q p e s m args below meth c H locs ls C h1 h2 h3 h4) (fun q => kf q p e s m args below meth c H locs ls C h1 h2 h3 h4)
theorem s_if_ne {x : Int32} {off : Int} {tgt : Nat} (hd : decode M.2.1 pc = .ok (.ifCond .ne off, 3)) (ht : (pc : Int) + off = (tgt : Int)) (kt : ¬ x = 0 → At G M rm uc us tgt L S σ K) (kf : x = 0 → At G M rm uc us (pc + 3) L S σ K) : At G M rm uc us pc L (vI x :: S) σ K :=
  fun p e s m args below meth c H locs ls C h1 h2 h3 h4 => lv_if_ne C.1 C.2.1 hd ht (fun q => kt q p e s m args below meth c H locs ls C h1 h2 h3 h4) (fun q => kf q p e s m args below meth c H locs ls C h1 h2 h3 h4)
theorem s_icmp_ne {x y : Int32} {off : Int} {tgt : Nat} (hd : decode M.2.1 pc = .ok (.if_icmp .ne off, 3)) (ht : (pc : Int) + off = (tgt : Int)) (kt : ¬ x = y → At G M rm uc us tgt L S σ K) (kf : x = y → At G M rm uc us (pc + 3) L S σ K) : At G M rm uc us pc L (vI y :: vI x :: S) σ K :=
  fun p e s m args below meth c H locs ls C h1 h2 h3 h4 => lv_icmp_ne C.1 C.2.1 hd ht (fun q => kt q p e s m args below meth c H locs ls C h1 h2 h3 h4) (fun q => kf q p e s m args below meth c H locs ls C h1 h2 h3 h4)
theorem s_if_lt {x : Int32} {off : Int} {tgt : Nat} (hd : decode M.2.1 pc = .ok (.ifCond .lt off, 3)) (ht : (pc : Int) + off = (tgt : Int)) (kt : x < 0 → At G M rm uc us tgt L S σ K) (kf : ¬ x < 0 → At G M rm uc us (pc + 3) L S σ K) : At G M rm uc us pc L (vI x :: S) σ K :=
  fun p e s m args below meth c H locs ls C h1 h2 h3 h4 => lv_if_lt C.1 C.2.1 hd ht (fun q => kt q p e s m args below meth c H locs ls C h1 h2 h3 h4) (fun q => kf q p e s m args below meth c H locs ls C h1 h2 h3 h4)
theorem s_icmp_lt {x y : Int32} {off : Int} {tgt : Nat} (hd : decode M.2.1 pc = .ok (.if_icmp .lt off, 3)) (ht : (pc : Int) + off = (tgt : Int)) (kt : x < y → At G M rm uc us tgt L S σ K) (kf : ¬ x < y → At G M rm uc us (pc + 3) L S σ K) : At G M rm uc us pc L (vI y :: vI x :: S) σ K :=
  fun p e s m args below meth c H locs ls C h1 h2 h3 h4 => lv_icmp_lt C.1 C.2.1 hd ht (fun q => kt q p e s m args below meth c H locs ls C h1 h2 h3 h4) (fun q => kf q p e s m args below meth c H locs ls C h1 h2 h3 h4)
theorem s_if_ge {x : Int32} {off : Int} {tgt : Nat} (hd : decode M.2.1 pc = .ok (.ifCond .ge off, 3)) (ht : (pc : Int) + off = (tgt : Int)) (kt : 0 ≤ x → At G M rm uc us tgt L S σ K) (kf : ¬ 0 ≤ x → At G M rm uc us (pc + 3) L S σ K) : At G M rm uc us pc L (vI x :: S) σ K :=
  fun p e s m args below meth c H locs ls C h1 h2 h3 h4 => lv_if_ge C.1 C.2.1 hd ht (fun q => kt q p e s m args below meth c H locs ls C h1 h2 h3 h4) (fun q => kf q p e s m args below meth c H locs ls C h1 h2 h3 h4)
theorem s_icmp_ge {x y : Int32} {off : Int} {tgt : Nat} (hd : decode M.2.1 pc = .ok (.if_icmp .ge off, 3)) (ht : (pc : Int) + off = (tgt : Int)) (kt : y ≤ x → At G M rm uc us tgt L S σ K) (kf : ¬ y ≤ x → At G M rm uc us (pc + 3) L S σ K) : At G M rm uc us pc L (vI y :: vI x :: S) σ K :=
  fun p e s m args below meth c H locs ls C h1 h2 h3 h4 => lv_icmp_ge C.1 C.2.1 hd ht (fun q => kt q p e s m args below meth c H locs ls C h1 h2 h3 h4) (fun q => kf q p e s m args below meth c H locs ls C h1 h2 h3 h4)
theorem s_if_gt {x : Int32} {off : Int} {tgt : Nat} (hd : decode M.2.1 pc = .ok (.ifCond .gt off, 3)) (ht : (pc : Int) + off = (tgt : Int)) (kt : 0 < x → At G M rm uc us tgt L S σ K) (kf : ¬ 0 < x → At G M rm uc us (pc + 3) L S σ K) : At G M rm uc us pc L (vI x :: S) σ K :=
  fun p e s m args below meth c H locs ls C h1 h2 h3 h4 => lv_if_gt C.1 C.2.1 hd ht (fun q => kt q p e s m args below meth c H locs ls C h1 h2 h3 h4) (fun q => kf q p e s m args below meth c H locs ls C h1 h2 h3 h4)
theorem s_icmp_gt {x y : Int32} {off : Int} {tgt : Nat} (hd : decode M.2.1 pc = .ok (.if_icmp .gt off, 3)) (ht : (pc : Int) + off = (tgt : Int)) (kt : y < x → At G M rm uc us tgt L S σ K) (kf : ¬ y < x → At G M rm uc us (pc + 3) L S σ K) : At G M rm uc us pc L (vI y :: vI x :: S) σ K :=
  fun p e s m args below meth c H locs ls C h1 h2 h3 h4 => lv_icmp_gt C.1 C.2.1 hd ht (fun q => kt q p e s m args below meth c H locs ls C h1 h2 h3 h4) (fun q => kf q p e s m args below meth c H locs ls C h1 h2 h3 h4)
theorem s_if_le {x : Int32} {off : Int} {tgt : Nat} (hd : decode M.2.1 pc = .ok (.ifCond .le off, 3)) (ht : (pc : Int) + off = (tgt : Int)) (kt : x ≤ 0 → At G M rm uc us tgt L S σ K) (kf : ¬ x ≤ 0 → At G M rm uc us (pc + 3) L S σ K) : At G M rm uc us pc L (vI x :: S) σ K :=
  fun p e s m args below meth c H locs ls C h1 h2 h3 h4 => lv_if_le C.1 C.2.1 hd ht (fun q => kt q p e s m args below meth c H locs ls C h1 h2 h3 h4) (fun q => kf q p e s m args below meth c H locs ls C h1 h2 h3 h4)
theorem s_icmp_le {x y : Int32} {off : Int} {tgt : Nat} (hd : decode M.2.1 pc = .ok (.if_icmp .le off, 3)) (ht : (pc : Int) + off = (tgt : Int)) (kt : x ≤ y → At G M rm uc us tgt L S σ K) (kf : ¬ x ≤ y → At G M rm uc us (pc + 3) L S σ K) : At G M rm uc us pc L (vI y :: vI x :: S) σ K :=
  fun p e s m args below meth c H locs ls C h1 h2 h3 h4 => lv_icmp_le C.1 C.2.1 hd ht (fun q => kt q p e s m args below meth c H locs ls C h1 h2 h3 h4) (fun q => kf q p e s m args below meth c H locs ls C h1 h2 h3 h4)
theorem s_goto {off : Int} {tgt : Nat} (hd : decode M.2.1 pc = .ok (.goto off, 3)) (ht : (pc : Int) + off = (tgt : Int)) (k : At G M rm uc us tgt L S σ K) : At G M rm uc us pc L S σ K :=
  fun p e s m args below meth c H locs ls C h1 h2 h3 h4 => lv_goto C.1 C.2.1 hd ht (k p e s m args below meth c H locs ls C h1 h2 h3 h4)
theorem s_acmp_eq {rx ry : Option Nat} {off : Int} {tgt : Nat} (hd : decode M.2.1 pc = .ok (.if_acmp .eq off, 3)) (ht : (pc : Int) + off = (tgt : Int)) (kt : rx = ry → At G M rm uc us tgt L S σ K) (kf : ¬ rx = ry → At G M rm uc us (pc + 3) L S σ K) : At G M rm uc us pc L (vR ry :: vR rx :: S) σ K :=
  fun p e s m args below meth c H locs ls C h1 h2 h3 h4 => lv_acmp_eq C.1 C.2.1 hd ht (fun q => kt q p e s m args below meth c H locs ls C h1 h2 h3 h4) (fun q => kf q p e s m args below meth c H locs ls C h1 h2 h3 h4)
theorem s_acmp_ne {rx ry : Option Nat} {off : Int} {tgt : Nat} (hd : decode M.2.1 pc = .ok (.if_acmp .ne off, 3)) (ht : (pc : Int) + off = (tgt : Int)) (kt : ¬ rx = ry → At G M rm uc us tgt L S σ K) (kf : rx = ry → At G M rm uc us (pc + 3) L S σ K) : At G M rm uc us pc L (vR ry :: vR rx :: S) σ K :=
  fun p e s m args below meth c H locs ls C h1 h2 h3 h4 => lv_acmp_ne C.1 C.2.1 hd ht (fun q => kt q p e s m args below meth c H locs ls C h1 h2 h3 h4) (fun q => kf q p e s m args below meth c H locs ls C h1 h2 h3 h4)
theorem s_ifnull {r : Option Nat} {off : Int} {tgt : Nat} (hd : decode M.2.1 pc = .ok (.ifnull off, 3)) (ht : (pc : Int) + off = (tgt : Int)) (kt : r = none → At G M rm uc us tgt L S σ K) (kf : ∀ a, r = some a → At G M rm uc us (pc + 3) L S σ K) : At G M rm uc us pc L (vR r :: S) σ K := by
  intro p e s m args below meth c H locs ls C h1 h2 h3 h4
  cases r with
  | none => exact lv_ifnullN C.1 C.2.1 hd ht (kt rfl p e s m args below meth c H locs ls C h1 h2 h3 h4)
  | some a => exact lv_ifnull C.1 C.2.1 hd (kf a rfl p e s m args below meth c H locs ls C h1 h2 h3 h4)
theorem s_ifnonnull {r : Option Nat} {off : Int} {tgt : Nat} (hd : decode M.2.1 pc = .ok (.ifnonnull off, 3)) (ht : (pc : Int) + off = (tgt : Int)) (kt : ∀ a, r = some a → At G M rm uc us tgt L S σ K) (kf : r = none → At G M rm uc us (pc + 3) L S σ K) : At G M rm uc us pc L (vR r :: S) σ K := by
  intro p e s m args below meth c H locs ls C h1 h2 h3 h4
  cases r with
  | none => exact lv_ifnonnullN C.1 C.2.1 hd (kf rfl p e s m args below meth c H locs ls C h1 h2 h3 h4)
  | some a => exact lv_ifnonnull C.1 C.2.1 hd ht (kt a rfl p e s m args below meth c H locs ls C h1 h2 h3 h4)
theorem s_tableOut {dflt lo hi : Int} {offs : Array Int} {len : Nat} {x : Int32} {tgt : Nat} (hd : decode M.2.1 pc = .ok (.tableswitch dflt lo hi offs, len)) (h : x.toInt < lo ∨ hi < x.toInt) (ht : (pc : Int) + dflt = (tgt : Int)) (k : At G M rm uc us tgt L S σ K) : At G M rm uc us pc L (vI x :: S) σ K :=
  fun p e s m args below meth c H locs ls C h1 h2 h3 h4 => lv_tableOut C.1 C.2.1 hd h ht (k p e s m args below meth c H locs ls C h1 h2 h3 h4)
theorem s_tableIn {dflt lo hi : Int} {offs : Array Int} {len : Nat} {x : Int32} {off : Int} {tgt : Nat} (hd : decode M.2.1 pc = .ok (.tableswitch dflt lo hi offs, len)) (g1 : ¬ x.toInt < lo) (g2 : ¬ hi < x.toInt) (ho : offs[(x.toInt - lo).toNat]? = some off) (ht : (pc : Int) + off = (tgt : Int)) (k : At G M rm uc us tgt L S σ K) : At G M rm uc us pc L (vI x :: S) σ K :=
  fun p e s m args below meth c H locs ls C h1 h2 h3 h4 => lv_tableIn C.1 C.2.1 hd g1 g2 ho ht (k p e s m args below meth c H locs ls C h1 h2 h3 h4)
end RWT
