/-! ===== the law ===== -/
section LAWA
variable {G : GG} {σ : Mm} {K : RES → Mm → Prop} {b0 Ln : Nat}
theorem law_all (ok : OKS G) (hL : Ln < 2 ^ 31) (hK : ∀ t, K (.inl (some (vI 1))) t) (hbx : b0 < mz σ) (ht : mt σ b0 = (99, Ln)) : At G mL_law room_1 0 0 0 [some (vR (some b0)), none] [] σ K := by
  refine s_aload_n (i := 0) dL_law_0 rfl rfl ?_
  refine s_callS (as := [vR (some b0)]) (S := []) ok.1 dL_law_1 gL_193 w_33 rfl rfl (Nat.le_of_ble_eq_true rfl) ⟨by decide, by decide, (by decide : 0 + 10000 ≤ 688979), (by decide : 0 + 200000 ≤ 7023351)⟩ (t_drawn ok ht hbx hL fun σ' x A b n hb hn hQ ha hax => ?_)
  refine s_astore_n (i := 1) (L' := [some (vR (some b0)), some (vR (some x))]) dL_law_4 rfl rfl (by decide) rfl ?_
  refine s_aload_n (i := 1) dL_law_5 rfl rfl ?_
  refine s_ifnull (tgt := 49) dL_law_6 (by decide) (fun q => by cases q) (fun a4 ea4 => ?_)
  refine s_aload_n (i := 1) dL_law_9 rfl rfl ?_
  refine s_callS (rmY := rL_jars) (as := [vR (some x)]) (S := []) ok.1 dL_law_10 gL_197 w_795 rfl rfl (Nat.le_of_ble_eq_true rfl) ⟨by decide, by decide, Nat.le_of_ble_eq_true rfl, Nat.le_of_ble_eq_true rfl⟩ (t_jars ok hQ fun j1 => ?_)
  refine vL_law_13 ok.1 ⟨fun z => absurd z (by decide), fun _ => ⟨by decide, by decide, t_shelves ok (hQ.sk j1) hn fun j2 => ?_⟩⟩
  refine vL_law_20 ok.1 ⟨fun z => absurd z (by decide), fun _ => ⟨by decide, by decide, t_warmings ok ((hQ.sk j1).sk j2) fun j3 => ?_⟩⟩
  refine vL_law_27 ok.1 ⟨fun z => absurd z (by decide), fun _ => ⟨by decide, by decide, t_lines ok (((hQ.sk j1).sk j2).sk j3) fun σ2 N f hQ2 hB => ?_⟩⟩
  refine vL_law_34 ok.1 ⟨fun z => absurd z (by decide), fun _ => ⟨by decide, by decide, t_undone ok hQ2 hb (by rw [(hB b0 hax).2]; exact ha) hax hL fun τ => ?_⟩⟩
  exact vL_law_42 ok.1 ⟨fun z => absurd z (by decide), fun _ => ⟨by decide, by decide, hK τ⟩⟩
end LAWA
