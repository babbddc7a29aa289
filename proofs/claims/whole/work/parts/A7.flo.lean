/-! ===== hitShare, meanAge: a float's, a double's answer ===== -/
theorem nn_v32 {r : UInt32} (h : vf_n32 r) : FP.Core.val32 r ≠ .nan := fun z => by
  have h1 : FP.Core.infBits FP.Core.b32 < FP.Core.mag FP.Core.b32 r.toNat := (FP.Core.decode_nan _).mp z
  have e1 : FP.Core.infBits FP.Core.b32 = 2139095040 := by decide
  have e2 : FP.Core.half FP.Core.b32 = 2 ^ 31 := by decide
  unfold FP.Core.mag at h1
  rw [e1, e2] at h1
  unfold vf_n32 at h
  rw [UInt32.le_iff_toNat_le, UInt32.toNat_and] at h
  have e3 : (0x7fffffff : UInt32).toNat = 2 ^ 31 - 1 := by decide
  have e4 : (0x7f800000 : UInt32).toNat = 2139095040 := by decide
  rw [e3, e4, Nat.and_two_pow_sub_one_eq_mod] at h
  omega
theorem nn_v64 {r : UInt64} (h : vf_n64 r) : FP.Core.val64 r ≠ .nan := fun z => by
  have h1 : FP.Core.infBits FP.Core.b64 < FP.Core.mag FP.Core.b64 r.toNat := (FP.Core.decode_nan _).mp z
  have e1 : FP.Core.infBits FP.Core.b64 = 9218868437227405312 := by decide +kernel
  have e2 : FP.Core.half FP.Core.b64 = 2 ^ 63 := by decide +kernel
  unfold FP.Core.mag at h1
  rw [e1, e2] at h1
  unfold vf_n64 at h
  rw [UInt64.le_iff_toNat_le, UInt64.toNat_and] at h
  have e3 : (0x7fffffffffffffff : UInt64).toNat = 2 ^ 63 - 1 := by decide
  have e4 : (0x7ff0000000000000 : UInt64).toNat = 9218868437227405312 := by decide
  rw [e3, e4, Nat.and_two_pow_sub_one_eq_mod] at h
  omega
theorem vf_f2d {r : UInt32} (h : vf_n32 r) : vf_n64 (FP.f2d r) := by
  have h1 := nn_v32 h
  rw [FP.f2d_core ((FP.Core.notNaN_iff32 r).mpr h1)]
  refine nn_n64 ?_
  rw [FP.Core.val64_f2d]
  exact fun z => h1 (FP.Core.round_nan.mp z)
theorem dc_self {r : UInt64} {op : CmpOp} (h : vf_n64 r) : Op.cmpValue (FP.dcmp r r) op = 0 := by
  rw [show FP.dcmp r r = some .eq from FP.Core.dcmp_self (nn_v64 h)]
  rfl
section OPF
variable {G : GG} {σ : Mm} {x b0 L c : Nat} {xs : Nat → Int32}
theorem op_hitShare (ok : OKS G) (h : LI b0 L xs x c σ) (hc5 : c ≤ 512) : RunsH G mL_hitShare hL_hitShare rL_hitShare [vR (some x), vR (some (x + 797))] σ (HR (MDF b0 L xs G x (c + 1) mX9_hitShare rX9_hitShare [vR (some (x + 788))])) := by
  obtain ⟨gk, nk, hst, sok⟩ := ok
  obtain ⟨A, b, hC, hM, hb, hE⟩ := h
  have hR : RS σ (x + 1) (mi σ (x + 788 + 1)) b := by rw [hM.2.1]; exact hC.2.1
  have hbl := hb.lt hc5
  refine hL_hitShare_run gk nk hC.1.1 (c_hitShare gk hst (Nat.lt_of_lt_of_le hbl (by decide)) hC.1 hR (fun g kk => ⟨0, rfl, ev1 hE hM FE.refl SA.sk, fun K' hK' => kX9_hitShare (σ := sk σ kk) gk hM.1 (fun q => absurd g q) (fun _ z => thF_end hE hC hM hb SA.sk rfl (nz1 0 (by omega)) hK') (fun q => absurd g q)⟩) (fun g hn => ⟨_, rfl, vf_f2d hn, hE.2.2.2.2.1, ev1 hE hM FE.refl SA.sd, fun K' hK' => kX9_hitShare (σ := sd σ (x + 797) 0 _) gk hM.1 (fun _ => hn) (fun q => absurd q g) (fun _ => thF_end hE hC hM hb SA.sd rfl (fun _ => ⟨hn, vf_f2d hn, md_s⟩) hK')⟩))
theorem op_meanAge (ok : OKS G) (h : LI b0 L xs x c σ) (hc5 : c ≤ 512) : RunsH G mL_meanAge hL_meanAge rL_meanAge [vR (some x), vR (some (x + 797))] σ (HR (MDD b0 L xs G x (c + 1) mX9_meanAge rX9_meanAge [vR (some (x + 788))])) := by
  obtain ⟨gk, nk, hst, sok⟩ := ok
  obtain ⟨A, b, hC, hM, hb, hE⟩ := h
  have hR : RS σ (x + 1) (mi σ (x + 788 + 1)) b := by rw [hM.2.1]; exact hC.2.1
  have hbl := hb.lt hc5
  obtain ⟨n, m, bb, ⟨⟨hn, hP0⟩, hP⟩, hW⟩ := hR.pg
  refine hL_meanAge_run gk nk hC.1.1 (c_meanAge gk hst (Nat.lt_of_lt_of_le hbl (by decide)) hC.1 hR hP0 hn (fun g kk => ⟨0, rfl, ev1 hE hM FE.refl SA.sk, fun K' hK' => kX9_meanAge (σ := sk σ kk) gk hM.1 hn hP0 (fun q => absurd q (Nat.not_lt.mpr (Nat.le_of_eq g))) (fun _ z => thD_end hE hC hM hb SA.sk rfl (nz1 0 (by omega)) hK') (fun q => absurd q (Nat.not_lt.mpr (Nat.le_of_eq g)))⟩) (fun g hv => ⟨_, rfl, hE.2.2.2.2.1, ev1 hE hM FE.refl SA.sd, fun K' hK' => kX9_meanAge (σ := sd σ (x + 797) 0 _) gk hM.1 hn hP0 (fun _ => hv) (fun q => absurd q (Nat.ne_of_gt g)) (fun _ => thD_end hE hC hM hb SA.sd rfl (fun _ => ⟨hv, md_s⟩) hK')⟩))
end OPF
