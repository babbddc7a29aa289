/-! ===== a modification, made on both sides ===== -/
section OPM
variable {G : GG} {σ : Mm} {x b0 L c : Nat} {xs : Nat → Int32}
theorem par_pos {n : Nat} {T : Nat → Int32} : ∀ d m, sp n T m ≤ n → (par n T d m).1 ≤ n
  | 0, m, h => h
  | d + 1, m, h => by
    have hn := run_n (n := n) (T := T) (fu (kd n T (sp n T m))) (sp n T m) h
    rw [par_s]
    split
    · split
      · exact hn
      · split
        · rename_i q
          exact par_pos d (m + 1) (by rw [sp_s]; exact q.1)
        · exact hn
    · exact hn
theorem par_6 {n : Nat} {T : Nat → Int32} (h : (par n T 10 0).2.1 = true) : 6 * (par n T 10 0).2.2 ≤ n ∧ (par n T 10 0).2.2 ≤ 10 := by
  obtain ⟨h1, -, h3, -, h5⟩ := par_ok 10 0 h
  have h0 : sp n T 0 = 0 := rfl
  rw [h0] at h5
  omega
theorem BA.exe {A : AS} {P t : Nat → Int32} {b q : Nat} (h : BA A b c) (hq : 6 * q ≤ atn A) : BA (Atx (Am A P) 0 t) (b + 540 * q) (c + 1) := ⟨(by have := h.1; omega : b + 540 * q + 100 * 0 ≤ 600 * (c + 1)), h.2⟩
theorem mt6 {σ σ' : Mm} (hE : EVL b0 L xs σ x) (h : FE σ σ' x) : mt σ' (x + 796) = (51, 1) := by rw [(h.1 _ (by omega)).2.2.2.2]; exact hE.2.2.2.1
theorem cpA_lt {P Q : Nat → Int32} {k : Nat} (h : k < 858) : cpA P Q k = P k := cpA_in h
theorem AE.exe {A : AS} {Q : Nat → Int32} : AE A (cpA (aP A) Q, A.2) := ⟨fun _ h => cpA_lt h, rfl, fun _ _ _ _ => rfl, rfl, fun _ _ => rfl, rfl⟩
theorem ps_ok {i : Nat} {s : Int32} (hi : i ≤ 60) (e : s = nI i) (h0 : 0 < i) : ¬ s < 1 ∧ ¬ 60 < s := by
  rw [e]
  exact ⟨fun z => by rw [show (1 : Int32) = nI 1 from rfl, nI_ltI (by omega) (by omega)] at z; omega, fun z => by rw [show (60 : Int32) = nI 60 from rfl, nI_ltI (by omega) (by omega)] at z; omega⟩
theorem op_addJar (ok : OKS G) (h : LI b0 L xs x c σ) {y w : Int32} (hc5 : c ≤ 512) (hc : isC y) : RunsH G mL_addJar hL_addJar rL_addJar [vR (some x), vI y, vI w, vR (some (x + 796))] σ (HR (MDg φI b0 L xs G x (c + 1) mX9_addJar rX9_addJar [vR (some (x + 788)), vI y, vI w])) := by
  obtain ⟨gk, nk, hst, sok⟩ := ok
  obtain ⟨A, b, hC, hM, hb, hE⟩ := h
  have hbl := hb.lt hc5
  have hPG := hC.2.1.pg
  have hB := hPG.shB
  obtain ⟨n, m, bb, ⟨⟨hn, hP0⟩, -⟩, ⟨hm8, hP1⟩, -⟩ := id hPG
  refine hL_addJar_run gk nk hC.1.1 (c_addJar gk hst (Nat.lt_of_lt_of_le hbl (by decide)) hC hc (fun g kk => ⟨0, rfl, ev1 hE hM FE.refl SA.sk, fun K' hK' => m_addJar (σ := sk σ kk) gk (hM.sa (x := x) SA.sk) (fun _ σ2 hV hF ht => md_end (c := c + 1) hE FE.refl SA.sk hC hb.up hV hF ht rfl (nz1 0 (by omega)) hK') (fun a1 a2 a3 => absurd ⟨a1, a2, a3⟩ g) (fun l' q1 q2 q3 q4 _ _ => absurd ⟨⟨l', q1, q2⟩, q3, q4⟩ g)⟩) (fun g1 g2 g3 g4 kk => ⟨1, rfl, ev1 hE hM FE.refl SA.sk, fun K' hK' => m_addJar (σ := sk σ kk) gk (hM.sa (x := x) SA.sk) (fun g => absurd ⟨g1, g2, g3⟩ g) (fun _ _ _ _ σ2 hV hF ht => md_end (c := c + 1) hE FE.refl SA.sk hC hb.up hV hF ht rfl (nz1 1 (by omega)) hK') (fun l' q1 q2 q3 q4 q5 q6 => absurd g4 (fun z => z.elim q5 (fun ⟨l2, r1, r2, r3⟩ => by obtain rfl := u26 q1 r1 q2 r2; exact q6 r3)))⟩) (fun l l26 e g1 g2 g3 g4 σ' hC' hF' => ⟨_, rfl, mt6 hE hF'.fe, ev1 hE hM hF'.fe SA.sl, fun K' hK' => m_addJar (σ := sl σ' (x + 796) 0 _) gk ((hM.fe hF'.fe).sa (x := x) SA.sl) (fun g => absurd ⟨⟨l, l26, e⟩, g1, g2⟩ g) (fun _ _ _ q => absurd q (fun z => z.elim g3 (fun ⟨l2, r1, r2, r3⟩ => by obtain rfl := u26 l26 r1 e r2; exact g4 r3))) (fun l' q1 q2 _ _ _ _ σ2 hV hF ht => by obtain rfl := u26 l26 q1 e q2; exact (fun σ2 hV hF ht => md_end (c := c + 1) hE hF'.fe SA.sl hC' (hb.am (by omega)) hV hF ht rfl (fun _ => ml_s) hK') σ2 hV hF ht)⟩))
theorem op_removeJar (ok : OKS G) (h : LI b0 L xs x c σ) {y : Int32} (hc5 : c ≤ 512) (hc : isC y) : RunsH G mL_removeJar hL_removeJar rL_removeJar [vR (some x), vI y, vR (some (x + 796))] σ (HR (MDg φI b0 L xs G x (c + 1) mX9_removeJar rX9_removeJar [vR (some (x + 788)), vI y])) := by
  obtain ⟨gk, nk, hst, sok⟩ := ok
  obtain ⟨A, b, hC, hM, hb, hE⟩ := h
  have hbl := hb.lt hc5
  have hPG := hC.2.1.pg
  have hB := hPG.shB
  obtain ⟨n, m, bb, ⟨⟨hn, hP0⟩, -⟩, ⟨hm8, hP1⟩, -⟩ := id hPG
  refine hL_removeJar_run gk nk hC.1.1 (c_removeJar gk hst (Nat.lt_of_lt_of_le hbl (by decide)) hC hc (fun g kk => ⟨0, rfl, ev1 hE hM FE.refl SA.sk, fun K' hK' => m_removeJar (σ := sk σ kk) gk (hM.sa (x := x) SA.sk) (n := n) hn hP0 (fun _ σ2 hV hF ht => md_end (c := c + 1) hE FE.refl SA.sk hC hb.up hV hF ht rfl (nz1 0 (by omega)) hK') (fun l' q1 q2 q3 => absurd ⟨l', q1, q2, q3⟩ g)⟩) (fun l n' hn' h0' l26 e p σ' hC' hF' => ⟨_, rfl, mt6 hE hF'.fe, ev1 hE hM hF'.fe SA.sl, fun K' hK' => m_removeJar (σ := sl σ' (x + 796) 0 _) gk ((hM.fe hF'.fe).sa (x := x) SA.sl) (n := n') hn' h0' (fun g => absurd ⟨l, l26, e, p⟩ g) (fun l' q1 q2 _ σ2 hV hF ht => by obtain rfl := u26 l26 q1 e q2; exact (fun σ2 hV hF ht => md_end (c := c + 1) hE hF'.fe SA.sl hC' (hb.am (by omega)) hV hF ht rfl (fun _ => ml_s) hK') σ2 hV hF ht)⟩))
theorem op_say (ok : OKS G) (h : LI b0 L xs x c σ) {y w : Int32} (hc5 : c ≤ 512) (hc : isC y) : RunsH G mL_say hL_say rL_say [vR (some x), vI y, vI w, vR (some (x + 796))] σ (HR (MDg φI b0 L xs G x (c + 1) mX9_say rX9_say [vR (some (x + 788)), vI y, vI w])) := by
  obtain ⟨gk, nk, hst, sok⟩ := ok
  obtain ⟨A, b, hC, hM, hb, hE⟩ := h
  have hbl := hb.lt hc5
  have hPG := hC.2.1.pg
  have hB := hPG.shB
  obtain ⟨n, m, bb, ⟨⟨hn, hP0⟩, -⟩, ⟨hm8, hP1⟩, -⟩ := id hPG
  refine hL_say_run gk nk hC.1.1 (c_say gk hst (Nat.lt_of_lt_of_le hbl (by decide)) hC hc (fun g kk => ⟨0, rfl, ev1 hE hM FE.refl SA.sk, fun K' hK' => m_say (σ := sk σ kk) gk (hM.sa (x := x) SA.sk) (n := n) hn hP0 (fun _ σ2 hV hF ht => md_end (c := c + 1) hE FE.refl SA.sk hC hb.up hV hF ht rfl (nz1 0 (by omega)) hK') (fun q => absurd q g) (fun l' q1 q2 q3 => absurd ⟨l', q1, q2, q3⟩ g)⟩) (fun g1 g2 kk => ⟨1, rfl, ev1 hE hM FE.refl SA.sk, fun K' hK' => m_say (σ := sk σ kk) gk (hM.sa (x := x) SA.sk) (n := n) hn hP0 (fun g => absurd g1 g) (fun _ _ σ2 hV hF ht => md_end (c := c + 1) hE FE.refl SA.sk hC hb.up hV hF ht rfl (nz1 1 (by omega)) hK') (fun l' q1 q2 q3 q4 q5 => absurd ⟨q4, q5⟩ g2)⟩) (fun l n' hn' h0' l26 e p g1 g2 σ' hC' hF' => ⟨_, rfl, mt6 hE hF'.fe, ev1 hE hM hF'.fe SA.sl, fun K' hK' => m_say (σ := sl σ' (x + 796) 0 _) gk ((hM.fe hF'.fe).sa (x := x) SA.sl) (n := n') hn' h0' (fun g => absurd ⟨l, l26, e, p⟩ g) (fun _ q => absurd ⟨g1, g2⟩ q) (fun l' q1 q2 _ _ _ σ2 hV hF ht => by obtain rfl := u26 l26 q1 e q2; exact (fun σ2 hV hF ht => md_end (c := c + 1) hE hF'.fe SA.sl hC' (hb.am (by omega)) hV hF ht rfl (fun _ => ml_s) hK') σ2 hV hF ht)⟩))
theorem op_addShelf (ok : OKS G) (h : LI b0 L xs x c σ) {s y z : Int32} (hc5 : c ≤ 512) : RunsH G mL_addShelf hL_addShelf rL_addShelf [vR (some x), vI s, vI y, vI z, vR (some (x + 796))] σ (HR (MDg φI b0 L xs G x (c + 1) mX9_addShelf rX9_addShelf [vR (some (x + 788)), vI s, vI y, vI z])) := by
  obtain ⟨gk, nk, hst, sok⟩ := ok
  obtain ⟨A, b, hC, hM, hb, hE⟩ := h
  have hbl := hb.lt hc5
  have hPG := hC.2.1.pg
  have hB := hPG.shB
  obtain ⟨n, m, bb, ⟨⟨hn, hP0⟩, -⟩, ⟨hm8, hP1⟩, -⟩ := id hPG
  refine hL_addShelf_run gk nk hC.1.1 (c_addShelf gk hst hC hP0 hn (fun g kk => ⟨0, rfl, ev1 hE hM FE.refl SA.sk, fun K' hK' => m_addShelf (σ := sk σ kk) gk (hM.sa (x := x) SA.sk) (n := n) hn hP0 (fun _ σ2 hV hF ht => md_end (c := c + 1) hE FE.refl SA.sk hC hb.up hV hF ht rfl (nz1 0 (by omega)) hK') (fun q => absurd q g) (fun q => absurd q g)⟩) (fun g1 g2 kk => ⟨1, rfl, ev1 hE hM FE.refl SA.sk, fun K' hK' => m_addShelf (σ := sk σ kk) gk (hM.sa (x := x) SA.sk) (n := n) hn hP0 (fun g => absurd g1 g) (fun _ _ σ2 hV hF ht => md_end (c := c + 1) hE FE.refl SA.sk hC hb.up hV hF ht rfl (nz1 1 (by omega)) hK') (fun _ q => absurd q (by omega))⟩) (fun g1 g2 σ' hC' hF' => ⟨_, rfl, mt6 hE hF'.fe, ev1 hE hM hF'.fe SA.sl, fun K' hK' => m_addShelf (σ := sl σ' (x + 796) 0 _) gk ((hM.fe hF'.fe).sa (x := x) SA.sl) (n := n) hn hP0 (fun g => absurd g1 g) (fun _ q => absurd q (by omega)) (fun _ _ σ2 hV hF ht => md_end (c := c + 1) hE hF'.fe SA.sl hC' (hb.am (by omega)) hV hF ht rfl (fun _ => ml_s) hK')⟩))
theorem op_setListening (ok : OKS G) (h : LI b0 L xs x c σ) {s y : Int32} (hc5 : c ≤ 512) (hy : isZ y) : RunsH G mL_setListening hL_setListening rL_setListening [vR (some x), vI s, vI y, vR (some (x + 796))] σ (HR (MDg φB b0 L xs G x (c + 1) mX9_setListening rX9_setListening [vR (some (x + 788)), vI s, vI y])) := by
  obtain ⟨gk, nk, hst, sok⟩ := ok
  obtain ⟨A, b, hC, hM, hb, hE⟩ := h
  have hbl := hb.lt hc5
  have hPG := hC.2.1.pg
  have hB := hPG.shB
  obtain ⟨n, m, bb, ⟨⟨hn, hP0⟩, -⟩, ⟨hm8, hP1⟩, -⟩ := id hPG
  refine hL_setListening_run gk nk hC.1.1 (c_setListening gk hst hC hy (fun g kk => ⟨0, rfl, ev1 hE hM FE.refl SA.sk, fun K' hK' => m_setListening (σ := sk σ kk) gk (hM.sa (x := x) SA.sk) hy hPG (fun _ σ2 hV hF ht z => md_end (c := c + 1) hE FE.refl SA.sk hC hb.up hV hF ht rfl (nz1 0 (by omega)) hK') (fun k' q1 q2 q3 => absurd (shP_m hB q1 q2 q3) g)⟩) (fun k k4 e kP hz σ' hC' hF' => ⟨_, rfl, mt6 hE hF'.fe, ev1 hE hM hF'.fe SA.sl, fun K' hK' => m_setListening (σ := sl σ' (x + 796) 0 _) gk ((hM.fe hF'.fe).sa (x := x) SA.sl) hy hPG (fun g => absurd (shP_m hB k4 e kP) g) (fun k' q1 q2 _ _ σ2 hV hF ht => by obtain rfl := u4 k4 q1 e q2; exact (fun σ2 hV hF ht => md_end (c := c + 1) hE hF'.fe SA.sl hC' (hb.am (by omega)) hV hF ht rfl (fun _ => ml_s) hK') σ2 hV hF ht)⟩))
theorem op_hear (ok : OKS G) (h : LI b0 L xs x c σ) {s y : Int32} (hc5 : c ≤ 512) (hc : isC y) : RunsH G mL_hear hL_hear rL_hear [vR (some x), vI s, vI y, vR (some (x + 796))] σ (HR (MDg φI b0 L xs G x (c + 1) mX9_hear rX9_hear [vR (some (x + 788)), vI s, vI y])) := by
  obtain ⟨gk, nk, hst, sok⟩ := ok
  obtain ⟨A, b, hC, hM, hb, hE⟩ := h
  have hbl := hb.lt hc5
  have hPG := hC.2.1.pg
  have hB := hPG.shB
  obtain ⟨n, m, bb, ⟨⟨hn, hP0⟩, -⟩, ⟨hm8, hP1⟩, -⟩ := id hPG
  refine hL_hear_run gk nk hC.1.1 (c_hear gk hst (Nat.lt_of_lt_of_le hbl (by decide)) hC hc (fun g kk => ⟨0, rfl, ev1 hE hM FE.refl SA.sk, fun K' hK' => m_hear (σ := sk σ kk) gk (hM.sa (x := x) SA.sk) hPG (fun _ σ2 hV hF ht => md_end (c := c + 1) hE FE.refl SA.sk hC hb.up hV hF ht rfl (nz1 0 (by omega)) hK') (fun q => absurd q g) (fun k' l' q1 _ q2 _ q3 _ => absurd (shP_m hB q1 q2 q3) g)⟩) (fun g1 g2 kk => ⟨1, rfl, ev1 hE hM FE.refl SA.sk, fun K' hK' => m_hear (σ := sk σ kk) gk (hM.sa (x := x) SA.sk) hPG (fun g => absurd g1 g) (fun _ _ σ2 hV hF ht => md_end (c := c + 1) hE FE.refl SA.sk hC hb.up hV hF ht rfl (nz1 1 (by omega)) hK') (fun k' l' _ q2 _ q4 _ q6 => absurd ⟨l', q2, q4, q6⟩ g2)⟩) (fun k l k4 l26 e el kP p σ' hC' hF' => ⟨_, rfl, mt6 hE hF'.fe, ev1 hE hM hF'.fe SA.sl, fun K' hK' => m_hear (σ := sl σ' (x + 796) 0 _) gk ((hM.fe hF'.fe).sa (x := x) SA.sl) hPG (fun g => absurd (shP_m hB k4 e kP) g) (fun _ g => absurd ⟨l, l26, el, p⟩ g) (fun k' l' q1 q2 q3 q4 _ _ σ2 hV hF ht => by obtain rfl := u4 k4 q1 e q3; obtain rfl := u26 l26 q2 el q4; exact (fun σ2 hV hF ht => md_end (c := c + 1) hE hF'.fe SA.sl hC' (hb.am (by omega)) hV hF ht rfl (fun _ => ml_s) hK') σ2 hV hF ht)⟩))
theorem op_warm (ok : OKS G) (h : LI b0 L xs x c σ) {s y z : Int32} (hc5 : c ≤ 512) (hc : isC y) : RunsH G mL_warm hL_warm rL_warm [vR (some x), vI s, vI y, vI z, vR (some (x + 796))] σ (HR (MDg φI b0 L xs G x (c + 1) mX9_warm rX9_warm [vR (some (x + 788)), vI s, vI y, vI z])) := by
  obtain ⟨gk, nk, hst, sok⟩ := ok
  obtain ⟨A, b, hC, hM, hb, hE⟩ := h
  have hbl := hb.lt hc5
  have hPG := hC.2.1.pg
  have hB := hPG.shB
  obtain ⟨n, m, bb, ⟨⟨hn, hP0⟩, -⟩, ⟨hm8, hP1⟩, -⟩ := id hPG
  refine hL_warm_run gk nk hC.1.1 (c_warm gk hst (Nat.lt_of_lt_of_le hbl (by decide)) hC hP1 hm8 hc (fun g kk => ⟨0, rfl, ev1 hE hM FE.refl SA.sk, fun K' hK' => m_warm (σ := sk σ kk) gk (hM.sa (x := x) SA.sk) hPG hm8 hP1 (fun _ σ2 hV hF ht => md_end (c := c + 1) hE FE.refl SA.sk hC hb.up hV hF ht rfl (nz1 0 (by omega)) hK') (fun q => absurd q g) (fun q => absurd q g) (fun q => absurd q g) (fun k' l' q1 _ q2 _ q3 _ => absurd (shP_m hB q1 q2 q3) g)⟩) (fun g1 g2 kk => ⟨1, rfl, ev1 hE hM FE.refl SA.sk, fun K' hK' => m_warm (σ := sk σ kk) gk (hM.sa (x := x) SA.sk) hPG hm8 hP1 (fun g => absurd g1 g) (fun _ _ σ2 hV hF ht => md_end (c := c + 1) hE FE.refl SA.sk hC hb.up hV hF ht rfl (nz1 1 (by omega)) hK') (fun _ q => absurd q g2) (fun _ q => absurd q g2) (fun k' l' _ q2 _ q4 _ q6 => absurd ⟨l', q2, q4, q6⟩ g2)⟩) (fun g1 g2 g3 kk => ⟨2, rfl, ev1 hE hM FE.refl SA.sk, fun K' hK' => m_warm (σ := sk σ kk) gk (hM.sa (x := x) SA.sk) hPG hm8 hP1 (fun g => absurd g1 g) (fun _ g => absurd g2 g) (fun _ _ _ σ2 hV hF ht => md_end (c := c + 1) hE FE.refl SA.sk hC hb.up hV hF ht rfl (nz1 2 (by omega)) hK') (fun _ _ q3 q4 => absurd ⟨q3, q4⟩ g3) (fun k' l' _ _ _ _ _ _ q7 q8 => absurd ⟨q7, q8⟩ g3)⟩) (fun g1 g2 g3 g4 g5 kk => ⟨3, rfl, ev1 hE hM FE.refl SA.sk, fun K' hK' => m_warm (σ := sk σ kk) gk (hM.sa (x := x) SA.sk) hPG hm8 hP1 (fun g => absurd g1 g) (fun _ g => absurd g2 g) (fun _ _ g => absurd ⟨g3, g4⟩ g) (fun _ _ _ _ _ σ2 hV hF ht => md_end (c := c + 1) hE FE.refl SA.sk hC hb.up hV hF ht rfl (nz1 3 (by omega)) hK') (fun k' l' _ _ _ _ _ _ _ _ q => absurd q (by omega))⟩) (fun k l k4 l26 e el kP p g1 g2 g3 σ' hC' hF' => ⟨_, rfl, mt6 hE hF'.fe, ev1 hE hM hF'.fe SA.sl, fun K' hK' => m_warm (σ := sl σ' (x + 796) 0 _) gk ((hM.fe hF'.fe).sa (x := x) SA.sl) hPG hm8 hP1 (fun g => absurd (shP_m hB k4 e kP) g) (fun _ g => absurd ⟨l, l26, el, p⟩ g) (fun _ _ g => absurd ⟨g1, g2⟩ g) (fun _ _ _ _ q => absurd q (by omega)) (fun _ _ _ _ _ _ _ _ _ _ _ σ2 hV hF ht => md_end (c := c + 1) hE hF'.fe SA.sl hC' (hb.am (by omega)) hV hF ht rfl (fun _ => ml_s) hK')⟩))
theorem op_cancelWarming (ok : OKS G) (h : LI b0 L xs x c σ) {s : Int32} (hc5 : c ≤ 512) : RunsH G mL_cancelWarming hL_cancelWarming rL_cancelWarming [vR (some x), vI s, vR (some (x + 796))] σ (HR (MDg φI b0 L xs G x (c + 1) mX9_cancelWarming rX9_cancelWarming [vR (some (x + 788)), vI s])) := by
  obtain ⟨gk, nk, hst, sok⟩ := ok
  obtain ⟨A, b, hC, hM, hb, hE⟩ := h
  have hbl := hb.lt hc5
  have hPG := hC.2.1.pg
  have hB := hPG.shB
  obtain ⟨n, m, bb, ⟨⟨hn, hP0⟩, -⟩, ⟨hm8, hP1⟩, -⟩ := id hPG
  refine hL_cancelWarming_run gk nk hC.1.1 (c_cancelWarming gk hst hC hP1 hm8 (fun g kk => ⟨0, rfl, ev1 hE hM FE.refl SA.sk, fun K' hK' => m_cancelWarming (σ := sk σ kk) gk (hM.sa (x := x) SA.sk) hm8 hP1 (fun _ σ2 hV hF ht => md_end (c := c + 1) hE FE.refl SA.sk hC hb.up hV hF ht rfl (nz1 0 (by omega)) hK') (fun i' q1 q2 => absurd ⟨i', q1, q2⟩ g)⟩) (fun i hi e σ' hC' hF' => ⟨_, rfl, mt6 hE hF'.fe, ev1 hE hM hF'.fe SA.sl, fun K' hK' => m_cancelWarming (σ := sl σ' (x + 796) 0 _) gk ((hM.fe hF'.fe).sa (x := x) SA.sl) hm8 hP1 (fun g => absurd ⟨i, hi, e⟩ g) (fun i' q1 q2 σ2 hV hF ht => by obtain rfl := uN (Nat.le_trans hm8 (by decide)) hi q1 e q2; exact (fun σ2 hV hF ht => md_end (c := c + 1) hE hF'.fe SA.sl hC' (hb.am (by omega)) hV hF ht rfl (fun _ => ml_s) hK') σ2 hV hF ht)⟩))
theorem op_pass (ok : OKS G) (h : LI b0 L xs x c σ) {s : Int32} (hc5 : c ≤ 512) : RunsH G mL_pass hL_pass rL_pass [vR (some x), vI s, vR (some (x + 796))] σ (HR (MDg φI b0 L xs G x (c + 1) mX9_pass rX9_pass [vR (some (x + 788)), vI s])) := by
  obtain ⟨gk, nk, hst, sok⟩ := ok
  obtain ⟨A, b, hC, hM, hb, hE⟩ := h
  have hbl := hb.lt hc5
  have hPG := hC.2.1.pg
  have hB := hPG.shB
  obtain ⟨n, m, bb, ⟨⟨hn, hP0⟩, -⟩, ⟨hm8, hP1⟩, -⟩ := id hPG
  refine hL_pass_run gk nk hC.1.1 (c_pass gk hst (Nat.lt_of_lt_of_le hbl (by decide)) hC (fun g kk => ⟨0, rfl, ev1 hE hM FE.refl SA.sk, fun K' hK' => m_pass (σ := sk σ kk) gk (hM.sa (x := x) SA.sk) hPG (fun _ σ2 hV hF ht => md_end (c := c + 1) hE FE.refl SA.sk hC hb.up hV hF ht rfl (nz1 0 (by omega)) hK') (fun i' q1 q2 q3 => absurd (ps_ok q1 q2 q3) g)⟩) (fun i hi e i0 σ' hC' hF' => ⟨_, rfl, mt6 hE hF'.fe, ev1 hE hM hF'.fe SA.sl, fun K' hK' => m_pass (σ := sl σ' (x + 796) 0 _) gk ((hM.fe hF'.fe).sa (x := x) SA.sl) hPG (fun g => absurd (ps_ok hi e i0) g) (fun i' q1 q2 _ σ2 hV hF ht => by obtain rfl : i' = i := (nI_eq (by omega) (by omega)).mp (q2.symm.trans e); exact (fun σ2 hV hF ht => md_end (c := c + 1) hE hF'.fe SA.sl hC' (hb.am (by omega)) hV hF ht rfl (fun _ => ml_s) hK') σ2 hV hF ht)⟩))
theorem op_type (ok : OKS G) (h : LI b0 L xs x c σ) {y : Int32} (hc5 : c ≤ 512) (hc : isC y) : RunsH G mL_type hL_type rL_type [vR (some x), vI y, vR (some (x + 796))] σ (HR (MDg φI b0 L xs G x (c + 1) mX9_type rX9_type [vR (some (x + 788)), vI y])) := by
  obtain ⟨gk, nk, hst, sok⟩ := ok
  obtain ⟨A, b, hC, hM, hb, hE⟩ := h
  have hbl := hb.lt hc5
  have hPG := hC.2.1.pg
  have hB := hPG.shB
  obtain ⟨n, m, bb, ⟨⟨hn, hP0⟩, -⟩, ⟨hm8, hP1⟩, -⟩ := id hPG
  refine hL_type_run gk nk hC.1.1 (c_type gk hst hC hc (fun g kk => ⟨0, rfl, ev1 hE hM FE.refl SA.sk, fun K' hK' => m_type (σ := sk σ kk) gk (hM.sa (x := x) SA.sk) hc (fun _ σ2 hV hF ht => md_end (c := c + 1) hE FE.refl SA.sk hC hb.up hV hF ht rfl (nz1 0 (by omega)) hK') (fun q1 q2 => absurd ⟨q1, q2⟩ g) (fun q1 q2 => absurd ⟨q1, q2⟩ g)⟩) (fun g1 g2 g3 kk => ⟨1, rfl, ev1 hE hM FE.refl SA.sk, fun K' hK' => m_type (σ := sk σ kk) gk (hM.sa (x := x) SA.sk) hc (fun g => absurd ⟨g1, g2⟩ g) (fun _ _ _ σ2 hV hF ht => md_end (c := c + 1) hE FE.refl SA.sk hC hb.up hV hF ht rfl (nz1 1 (by omega)) hK') (fun _ _ q => absurd q (by omega))⟩) (fun g1 g2 g3 σ' hC' hF' => ⟨_, rfl, mt6 hE hF'.fe, ev1 hE hM hF'.fe SA.sl, fun K' hK' => m_type (σ := sl σ' (x + 796) 0 _) gk ((hM.fe hF'.fe).sa (x := x) SA.sl) hc (fun g => absurd ⟨g1, g2⟩ g) (fun _ _ q => absurd q (by omega)) (fun _ _ _ σ2 hV hF ht => md_end (c := c + 1) hE hF'.fe SA.sl hC' (hb.atx (Nat.le_refl _)) hV hF ht rfl (fun _ => ml_s) hK')⟩))
theorem op_undo (ok : OKS G) (h : LI b0 L xs x c σ) (hc5 : c ≤ 512) : RunsH G mL_undo hL_undo rL_undo [vR (some x), vR (some (x + 796))] σ (HR (MDg φI b0 L xs G x (c + 1) mX9_undo rX9_undo [vR (some (x + 788))])) := by
  obtain ⟨gk, nk, hst, sok⟩ := ok
  obtain ⟨A, b, hC, hM, hb, hE⟩ := h
  have hbl := hb.lt hc5
  have hPG := hC.2.1.pg
  have hB := hPG.shB
  obtain ⟨n, m, bb, ⟨⟨hn, hP0⟩, -⟩, ⟨hm8, hP1⟩, -⟩ := id hPG
  refine hL_undo_run gk nk hC.1.1 (c_undo gk hst hC (fun g kk => ⟨0, rfl, ev1 hE hM FE.refl SA.sk, fun K' hK' => m_undo (σ := sk σ kk) gk (hM.sa (x := x) SA.sk) (fun _ σ2 hV hF ht z => md_end (c := c + 1) hE FE.refl SA.sk hC hb.up hV hF ht rfl (nz1 0 (by omega)) hK') (fun q => absurd q (by omega))⟩) (fun g σ' hC' hF' => ⟨_, rfl, mt6 hE hF'.fe, ev1 hE hM hF'.fe SA.sl, fun K' hK' => m_undo (σ := sl σ' (x + 796) 0 _) gk ((hM.fe hF'.fe).sa (x := x) SA.sl) (fun q => absurd q (by omega)) (fun _ σ2 B hV hA hF ht => (fun σ2 hV hF ht => md_end (c := c + 1) hE hF'.fe SA.sl (hC'.cg hA) (BA.cg hb.asn hA) hV hF ht rfl (fun _ => ml_s) hK') σ2 hV hF ht)⟩))
theorem op_restore (ok : OKS G) (h : LI b0 L xs x c σ) (hc5 : c ≤ 512) : RunsH G mL_restore hL_restore rL_restore [vR (some x), vR (some (x + 796))] σ (HR (MDg φI b0 L xs G x (c + 1) mX9_restore rX9_restore [vR (some (x + 788))])) := by
  obtain ⟨gk, nk, hst, sok⟩ := ok
  obtain ⟨A, b, hC, hM, hb, hE⟩ := h
  have hbl := hb.lt hc5
  have hPG := hC.2.1.pg
  have hB := hPG.shB
  obtain ⟨n, m, bb, ⟨⟨hn, hP0⟩, -⟩, ⟨hm8, hP1⟩, -⟩ := id hPG
  refine hL_restore_run gk nk hC.1.1 (c_restore gk hst hC (fun g kk => ⟨0, rfl, ev1 hE hM FE.refl SA.sk, fun K' hK' => m_restore (σ := sk σ kk) gk (hM.sa (x := x) SA.sk) (fun _ σ2 hV hF ht z => md_end (c := c + 1) hE FE.refl SA.sk hC hb.up hV hF ht rfl (nz1 0 (by omega)) hK') (fun q => absurd g q)⟩) (fun g σ' hC' hF' => ⟨_, rfl, mt6 hE hF'.fe, ev1 hE hM hF'.fe SA.sl, fun K' hK' => m_restore (σ := sl σ' (x + 796) 0 _) gk ((hM.fe hF'.fe).sa (x := x) SA.sl) (fun q => absurd q g) (fun _ σ2 B hV hA hF ht => (fun σ2 hV hF ht => md_end (c := c + 1) hE hF'.fe SA.sl (hC'.cg hA) (BA.cg hb.asn hA) hV hF ht rfl (fun _ => ml_s) hK') σ2 hV hF ht)⟩))
theorem op_writeShelf (ok : OKS G) (h : LI b0 L xs x c σ) {s : Int32} (hc5 : c ≤ 512) : RunsH G mL_writeShelf hL_writeShelf rL_writeShelf [vR (some x), vI s, vR (some (x + 796))] σ (HR (MDg φI b0 L xs G x (c + 1) mX9_writeShelf rX9_writeShelf [vR (some (x + 788)), vI s])) := by
  obtain ⟨gk, nk, hst, sok⟩ := ok
  obtain ⟨A, b, hC, hM, hb, hE⟩ := h
  have hbl := hb.lt hc5
  have hPG := hC.2.1.pg
  have hB := hPG.shB
  obtain ⟨n, m, bb, ⟨⟨hn, hP0⟩, -⟩, ⟨hm8, hP1⟩, -⟩ := id hPG
  obtain ⟨n1, m1, b1, hPI, -⟩ := id hPG
  refine hL_writeShelf_run gk nk hC.1.1 (c_writeShelf gk sok hst hE.2.2.2.2.2 hC (fun g kk => ⟨0, rfl, ev1 hE hM FE.refl SA.sk, fun K' hK' => kX9_writeShelf (σ := sk σ kk) gk (hM.sa (x := x) SA.sk) hPI (fun _ => md_end (c := c + 1) hE FE.refl SA.sk hC hb.up (mv_th (hM.sa (x := x) SA.sk) _).1 (mv_th (hM.sa (x := x) SA.sk) _).2.1 (mv_th (hM.sa (x := x) SA.sk) _).2.2 rfl (nz1 0 (by omega)) hK') (fun k' q1 q2 q3 => absurd (shP_m hB q1 q2 q3) g)⟩) (fun k k4 e kP h36 σ' hC' hF' => ⟨_, rfl, mt6 hE hF'.fe, ev1 hE hM hF'.fe SA.sl, fun K' hK' => kX9_writeShelf (σ := sl σ' (x + 796) 0 _) gk ((hM.fe hF'.fe).sa (x := x) SA.sl) hPI (fun g => absurd (shP_m hB k4 e kP) g) (fun k' q1 q2 _ σ2 hV hF ht => by obtain rfl := u4 k4 q1 e q2; exact (fun σ2 hV hF ht => md_end (c := c + 1) hE hF'.fe SA.sl hC' hb.aln hV hF ht rfl (fun _ => ml_s) hK') σ2 hV hF ht)⟩))
theorem op_lineAt (ok : OKS G) (h : LI b0 L xs x c σ) {s : Int32} (hc5 : c ≤ 512) : RunsH G mL_lineAt hL_lineAt rL_lineAt [vR (some x), vI s, vR (some (x + 796))] σ (HR (MDg φI b0 L xs G x (c + 1) mX9_lineAt rX9_lineAt [vR (some (x + 788)), vI s])) := by
  obtain ⟨gk, nk, hst, sok⟩ := ok
  obtain ⟨A, b, hC, hM, hb, hE⟩ := h
  have hbl := hb.lt hc5
  have hPG := hC.2.1.pg
  have hB := hPG.shB
  obtain ⟨n, m, bb, ⟨⟨hn, hP0⟩, -⟩, ⟨hm8, hP1⟩, -⟩ := id hPG
  obtain ⟨-, -, -, hl60, v, cap, -, -, -, -, hli, -⟩ := id hC.2.2.2.2.2.2
  have hcl : ∀ q, q < aln A → isC (alt A q) := fun q hq => by
    obtain ⟨-, e1, e2⟩ := hli q hq
    exact ⟨e1, Int.lt_trans e2 (by decide)⟩
  refine hL_lineAt_run gk nk hC.1.1 (c_lineAt gk sok hst hE.2.2.2.2.2 hC (fun g kk => ⟨0, rfl, ev1 hE hM FE.refl SA.sk, fun K' hK' => kX9_lineAt (σ := sk σ kk) gk (hM.sa (x := x) SA.sk) hcl (fun _ => md_end (c := c + 1) hE FE.refl SA.sk hC hb.up (mv_th (hM.sa (x := x) SA.sk) _).1 (mv_th (hM.sa (x := x) SA.sk) _).2.1 (mv_th (hM.sa (x := x) SA.sk) _).2.2 rfl (nz1 0 (by omega)) hK') (fun q' q1 q2 => absurd ⟨q', q1, q2⟩ g)⟩) (fun q hq e hz => ⟨_, rfl, hE.2.2.2.1, ev1 hE hM FE.refl SA.sl, fun K' hK' => kX9_lineAt (σ := sl σ (x + 796) 0 _) gk (hM.sa (x := x) SA.sl) hcl (fun g => absurd ⟨q, hq, e⟩ g) (fun q' q1 q2 => by obtain rfl := uN hl60 hq q1 e q2; exact th_end hE hC hM hb SA.sl rfl (fun _ => ml_s) hK')⟩))
theorem op_execute (ok : OKS G) (h : LI b0 L xs x c σ) (hc5 : c ≤ 512) : RunsH G mL_execute hL_execute rL_execute [vR (some x), vR (some (x + 796))] σ (HR (MDg φI b0 L xs G x (c + 1) mX9_execute rX9_execute [vR (some (x + 788))])) := by
  obtain ⟨gk, nk, hst, sok⟩ := ok
  obtain ⟨A, b, hC, hM, hb, hE⟩ := h
  have hbl := hb.lt hc5
  have hPG := hC.2.1.pg
  have hB := hPG.shB
  obtain ⟨n, m, bb, ⟨⟨hn, hP0⟩, -⟩, ⟨hm8, hP1⟩, -⟩ := id hPG
  have h60 : atn A ≤ 60 := hM.2.2.2.2.2.1.2.1
  have hp : (par (atn A) (atx A) 10 0).1 ≤ atn A := par_pos 10 0 (Nat.zero_le _)
  refine hL_execute_run gk nk hC.1.1 (c_execute gk sok hst (Nat.lt_of_lt_of_le hbl (by decide)) hC (fun g σ' hC' hF' kk => ⟨0, rfl, ev1 hE hM hF'.fe SA.sk, fun K' hK' => kX9_execute1 (σ := sk σ' kk) gk sok ((hM.fe hF'.fe).sa (x := x) SA.sk) g (fun σ2 hV hF ht => md_end (c := c + 1) hE hF'.fe SA.sk hC' ((hb.atx (Nat.zero_le _)).aer (Or.inr ⟨_, by omega, rfl⟩) hb.2.2) hV hF ht rfl (nz1 0 (by omega)) hK')⟩) (fun g i R hi hR0 hN hno hP σ' hC' hF' kk => ⟨1, rfl, ev1 hE hM hF'.fe SA.sk, fun K' hK' => kX9_execute2 (σ := sk σ' kk) gk sok ((hM.fe hF'.fe).sa (x := x) SA.sk) g hi hR0 hN hno hP (fun σ2 hV hF ht => md_end (c := c + 1) hE hF'.fe SA.sk (hC'.cg AE.exe) (((hb.atx (Nat.zero_le _)).aer hb.2.1 (Or.inr ⟨_, by have := par_6 g; omega, rfl⟩)).cg AE.exe) hV hF ht rfl (nz1 1 (by omega)) hK')⟩) (fun g R hR0 hN hP σ' hC' hF' => ⟨_, rfl, mt6 hE hF'.fe, ev1 hE hM hF'.fe SA.sl, fun K' hK' => kX9_execute3 (σ := sl σ' (x + 796) 0 _) gk sok ((hM.fe hF'.fe).sa (x := x) SA.sl) g hR0 hN hP (fun σ2 hV hF ht => md_end (c := c + 1) hE hF'.fe SA.sl hC' (hb.exe (par_6 g).1) hV hF ht rfl (fun _ => ml_s) hK')⟩))
theorem op_errorPosition (ok : OKS G) (h : LI b0 L xs x c σ) : RunsH G mL_errorPosition hL_errorPosition rL_errorPosition [vR (some x), vR (some (x + 796))] σ (HR (MDg φI b0 L xs G x (c + 1) mX9_errorPosition rX9_errorPosition [vR (some (x + 788))])) := by
  obtain ⟨gk, nk, hst, sok⟩ := ok
  obtain ⟨A, b, hC, hM, hb, hE⟩ := h
  have hm := hM.2.2.2.2.1.1
  refine hL_errorPosition_run gk nk hC.1.1 (c_errorPosition gk hst hC.1 (hC.2.2.2.2.1.1.trans hm.symm) (by rw [hm]; exact hb.2.1) (fun g kk => ⟨0, rfl, ev1 hE hM FE.refl SA.sk, fun K' hK' => kX9_errorPosition (σ := sk σ kk) gk hM.1 (fun _ z => th_end hE hC hM hb SA.sk rfl (nz1 0 (by omega)) hK') (fun q => absurd g q)⟩) (fun g => ⟨_, rfl, hE.2.2.2.1, ev1 hE hM FE.refl SA.sl, fun K' hK' => kX9_errorPosition (σ := sl σ (x + 796) 0 _) gk hM.1 (fun q => absurd q g) (fun _ => th_end hE hC hM hb SA.sl rfl (fun _ => ml_s) hK')⟩))
theorem op_failedCommand (ok : OKS G) (h : LI b0 L xs x c σ) : RunsH G mL_failedCommand hL_failedCommand rL_failedCommand [vR (some x), vR (some (x + 796))] σ (HR (MDg φI b0 L xs G x (c + 1) mX9_failedCommand rX9_failedCommand [vR (some (x + 788))])) := by
  obtain ⟨gk, nk, hst, sok⟩ := ok
  obtain ⟨A, b, hC, hM, hb, hE⟩ := h
  have hm := hM.2.2.2.2.1.2
  refine hL_failedCommand_run gk nk hC.1.1 (c_failedCommand gk hst hC.1 (hC.2.2.2.2.1.2.trans hm.symm) (by rw [hm]; exact hb.2.2) (fun g kk => ⟨0, rfl, ev1 hE hM FE.refl SA.sk, fun K' hK' => kX9_failedCommand (σ := sk σ kk) gk hM.1 (fun _ z => th_end hE hC hM hb SA.sk rfl (nz1 0 (by omega)) hK') (fun q => absurd g q)⟩) (fun g => ⟨_, rfl, hE.2.2.2.1, ev1 hE hM FE.refl SA.sl, fun K' hK' => kX9_failedCommand (σ := sl σ (x + 796) 0 _) gk hM.1 (fun q => absurd q g) (fun _ => th_end hE hC hM hb SA.sl rfl (fun _ => ml_s) hK')⟩))
end OPM
