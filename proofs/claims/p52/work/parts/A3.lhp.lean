/-! ===== the helpers run ===== -/
theorem hL_addJar_run {G : GG} (gk : GOK G) (nk : NOK G) {σ : Mm} {x : Nat} {p0 p1 : Int32} {K : RES → Mm → Prop} (hx : (mt σ x).1 = 9) (hrun : Runs G mX8_addJar rX8_addJar [vR (some x), vI p0, vI p1] σ (HQ idI K [("java/lang/IllegalArgumentException", (-1 : Int32)), ("java/lang/IllegalStateException", (-2 : Int32))])) : RunsH G mL_addJar hL_addJar rL_addJar [vR (some x), vI p0, vI p1] σ K := by
  refine RunsH.of (by decide +kernel) rfl (Nat.le_of_ble_eq_true rfl) ?_
  refine h_aload_n (i := 0) dL_addJar_0 rfl rfl ?_
  refine h_iload_n (i := 1) dL_addJar_1 rfl rfl ?_
  refine h_iload_n (i := 2) dL_addJar_2 rfl rfl ?_
  refine h_callV (ci := 8) (Y := mX8_addJar) (rmY := rX8_addJar) (as := [vI p0, vI p1]) (S := []) gk dL_addJar_3 gL_8 (by decide) rfl w_371 w_372 hx rfl rfl (Nat.le_of_ble_eq_true rfl) (by decide) ?_
  refine hrun.mono fun r t h => ?_
  rcases r with v | E
  · obtain ⟨z, rfl, hk⟩ := h
    exact h_ireturn dL_addJar_6 rfl rfl (Nat.le_refl _) (Nat.le_refl _) hk
  · obtain ⟨i, c, he, hk⟩ := h
    rcases i with _ | i
    · have he : some ("java/lang/IllegalArgumentException", (-1 : Int32)) = some (E, c) := he
      cases he
      exact ⟨7, ⟨[], (0, 6, 7, 14), [(0, 6, 10, 16)], rfl, fun _ h => absurd h List.not_mem_nil, List.forall_mem_cons.mpr ⟨⟨rfl, by decide, rfl, w_368, ca_IAE⟩, fun _ h => absurd h List.not_mem_nil⟩⟩, fun q => h_astore_n (i := 3) dL_addJar_7 rfl rfl (Nat.le_of_ble_eq_true rfl) rfl (h_iconst dL_addJar_8 rfl (h_ireturn dL_addJar_9 rfl rfl (Nat.le_refl _) (Nat.le_refl _) hk))⟩
    · skip
      rcases i with _ | i
      · have he : some ("java/lang/IllegalStateException", (-2 : Int32)) = some (E, c) := he
        cases he
        exact ⟨10, ⟨[(0, 6, 7, 14)], (0, 6, 10, 16), [], rfl, List.forall_mem_cons.mpr ⟨⟨by decide, _, w_368, nk _ _ (by decide) (by decide) (by decide)⟩, fun _ h => absurd h List.not_mem_nil⟩, List.forall_mem_cons.mpr ⟨⟨rfl, by decide, rfl, w_369, ca_ISE⟩, fun _ h => absurd h List.not_mem_nil⟩⟩, fun q => h_astore_n (i := 3) dL_addJar_10 rfl rfl (Nat.le_of_ble_eq_true rfl) rfl (h_bipush dL_addJar_11 rfl (h_ireturn dL_addJar_13 rfl rfl (Nat.le_refl _) (Nat.le_refl _) hk))⟩
      · have he : (none : Option (String × Int32)) = some (E, c) := he
        cases he
theorem hL_removeJar_run {G : GG} (gk : GOK G) (nk : NOK G) {σ : Mm} {x : Nat} {p0 : Int32} {K : RES → Mm → Prop} (hx : (mt σ x).1 = 9) (hrun : Runs G mX8_removeJar rX8_removeJar [vR (some x), vI p0] σ (HQ idI K [("java/util/NoSuchElementException", (-1 : Int32))])) : RunsH G mL_removeJar hL_removeJar rL_removeJar [vR (some x), vI p0] σ K := by
  refine RunsH.of (by decide +kernel) rfl (Nat.le_of_ble_eq_true rfl) ?_
  refine h_aload_n (i := 0) dL_removeJar_0 rfl rfl ?_
  refine h_iload_n (i := 1) dL_removeJar_1 rfl rfl ?_
  refine h_callV (ci := 8) (Y := mX8_removeJar) (rmY := rX8_removeJar) (as := [vI p0]) (S := []) gk dL_removeJar_2 gL_18 (by decide) rfl w_1407 w_1408 hx rfl rfl (Nat.le_of_ble_eq_true rfl) (by decide) ?_
  refine hrun.mono fun r t h => ?_
  rcases r with v | E
  · obtain ⟨z, rfl, hk⟩ := h
    exact h_ireturn dL_removeJar_5 rfl rfl (Nat.le_refl _) (Nat.le_refl _) hk
  · obtain ⟨i, c, he, hk⟩ := h
    rcases i with _ | i
    · have he : some ("java/util/NoSuchElementException", (-1 : Int32)) = some (E, c) := he
      cases he
      exact ⟨6, ⟨[], (0, 5, 6, 22), [], rfl, fun _ h => absurd h List.not_mem_nil, List.forall_mem_cons.mpr ⟨⟨rfl, by decide, rfl, w_646, ca_NSE⟩, fun _ h => absurd h List.not_mem_nil⟩⟩, fun q => h_astore_n (i := 2) dL_removeJar_6 rfl rfl (Nat.le_of_ble_eq_true rfl) rfl (h_iconst dL_removeJar_7 rfl (h_ireturn dL_removeJar_8 rfl rfl (Nat.le_refl _) (Nat.le_refl _) hk))⟩
    · have he : (none : Option (String × Int32)) = some (E, c) := he
      cases he
theorem hL_say_run {G : GG} (gk : GOK G) (nk : NOK G) {σ : Mm} {x : Nat} {p0 p1 : Int32} {K : RES → Mm → Prop} (hx : (mt σ x).1 = 9) (hrun : Runs G mX8_say rX8_say [vR (some x), vI p0, vI p1] σ (HQ idI K [("java/util/NoSuchElementException", (-1 : Int32)), ("java/lang/IllegalArgumentException", (-2 : Int32))])) : RunsH G mL_say hL_say rL_say [vR (some x), vI p0, vI p1] σ K := by
  refine RunsH.of (by decide +kernel) rfl (Nat.le_of_ble_eq_true rfl) ?_
  refine h_aload_n (i := 0) dL_say_0 rfl rfl ?_
  refine h_iload_n (i := 1) dL_say_1 rfl rfl ?_
  refine h_iload_n (i := 2) dL_say_2 rfl rfl ?_
  refine h_callV (ci := 8) (Y := mX8_say) (rmY := rX8_say) (as := [vI p0, vI p1]) (S := []) gk dL_say_3 gL_24 (by decide) rfl w_724 w_725 hx rfl rfl (Nat.le_of_ble_eq_true rfl) (by decide) ?_
  refine hrun.mono fun r t h => ?_
  rcases r with v | E
  · obtain ⟨z, rfl, hk⟩ := h
    exact h_ireturn dL_say_6 rfl rfl (Nat.le_refl _) (Nat.le_refl _) hk
  · obtain ⟨i, c, he, hk⟩ := h
    rcases i with _ | i
    · have he : some ("java/util/NoSuchElementException", (-1 : Int32)) = some (E, c) := he
      cases he
      exact ⟨7, ⟨[], (0, 6, 7, 22), [(0, 6, 10, 14)], rfl, fun _ h => absurd h List.not_mem_nil, List.forall_mem_cons.mpr ⟨⟨rfl, by decide, rfl, w_646, ca_NSE⟩, fun _ h => absurd h List.not_mem_nil⟩⟩, fun q => h_astore_n (i := 3) dL_say_7 rfl rfl (Nat.le_of_ble_eq_true rfl) rfl (h_iconst dL_say_8 rfl (h_ireturn dL_say_9 rfl rfl (Nat.le_refl _) (Nat.le_refl _) hk))⟩
    · skip
      rcases i with _ | i
      · have he : some ("java/lang/IllegalArgumentException", (-2 : Int32)) = some (E, c) := he
        cases he
        exact ⟨10, ⟨[(0, 6, 7, 22)], (0, 6, 10, 14), [], rfl, List.forall_mem_cons.mpr ⟨⟨by decide, _, w_646, nk _ _ (by decide) (by decide) (by decide)⟩, fun _ h => absurd h List.not_mem_nil⟩, List.forall_mem_cons.mpr ⟨⟨rfl, by decide, rfl, w_368, ca_IAE⟩, fun _ h => absurd h List.not_mem_nil⟩⟩, fun q => h_astore_n (i := 3) dL_say_10 rfl rfl (Nat.le_of_ble_eq_true rfl) rfl (h_bipush dL_say_11 rfl (h_ireturn dL_say_13 rfl rfl (Nat.le_refl _) (Nat.le_refl _) hk))⟩
      · have he : (none : Option (String × Int32)) = some (E, c) := he
        cases he
theorem hL_jarAt_run {G : GG} (gk : GOK G) (nk : NOK G) {σ : Mm} {x : Nat} {p0 : Int32} {K : RES → Mm → Prop} (hx : (mt σ x).1 = 9) (hrun : Runs G mX8_jarAt rX8_jarAt [vR (some x), vI p0] σ (HQ idI K [("java/lang/IndexOutOfBoundsException", (-11 : Int32))])) : RunsH G mL_jarAt hL_jarAt rL_jarAt [vR (some x), vI p0] σ K := by
  refine RunsH.of (by decide +kernel) rfl (Nat.le_of_ble_eq_true rfl) ?_
  refine h_aload_n (i := 0) dL_jarAt_0 rfl rfl ?_
  refine h_iload_n (i := 1) dL_jarAt_1 rfl rfl ?_
  refine h_callV (ci := 8) (Y := mX8_jarAt) (rmY := rX8_jarAt) (as := [vI p0]) (S := []) gk dL_jarAt_2 gL_27 (by decide) rfl w_818 w_819 hx rfl rfl (Nat.le_of_ble_eq_true rfl) (by decide) ?_
  refine hrun.mono fun r t h => ?_
  rcases r with v | E
  · obtain ⟨z, rfl, hk⟩ := h
    exact h_ireturn dL_jarAt_5 rfl rfl (Nat.le_refl _) (Nat.le_refl _) hk
  · obtain ⟨i, c, he, hk⟩ := h
    rcases i with _ | i
    · have he : some ("java/lang/IndexOutOfBoundsException", (-11 : Int32)) = some (E, c) := he
      cases he
      exact ⟨6, ⟨[], (0, 5, 6, 31), [], rfl, fun _ h => absurd h List.not_mem_nil, List.forall_mem_cons.mpr ⟨⟨rfl, by decide, rfl, w_625, ca_IOB⟩, fun _ h => absurd h List.not_mem_nil⟩⟩, fun q => h_astore_n (i := 2) dL_jarAt_6 rfl rfl (Nat.le_of_ble_eq_true rfl) rfl (h_bipush dL_jarAt_7 rfl (h_ireturn dL_jarAt_9 rfl rfl (Nat.le_refl _) (Nat.le_refl _) hk))⟩
    · have he : (none : Option (String × Int32)) = some (E, c) := he
      cases he
theorem hL_wordOf_run {G : GG} (gk : GOK G) (nk : NOK G) {σ : Mm} {x : Nat} {p0 : Int32} {K : RES → Mm → Prop} (hx : (mt σ x).1 = 9) (hrun : Runs G mX8_wordOf rX8_wordOf [vR (some x), vI p0] σ (HQ idI K [("java/util/NoSuchElementException", (-13 : Int32))])) : RunsH G mL_wordOf hL_wordOf rL_wordOf [vR (some x), vI p0] σ K := by
  refine RunsH.of (by decide +kernel) rfl (Nat.le_of_ble_eq_true rfl) ?_
  refine h_aload_n (i := 0) dL_wordOf_0 rfl rfl ?_
  refine h_iload_n (i := 1) dL_wordOf_1 rfl rfl ?_
  refine h_callV (ci := 8) (Y := mX8_wordOf) (rmY := rX8_wordOf) (as := [vI p0]) (S := []) gk dL_wordOf_2 gL_33 (by decide) rfl w_806 w_807 hx rfl rfl (Nat.le_of_ble_eq_true rfl) (by decide) ?_
  refine hrun.mono fun r t h => ?_
  rcases r with v | E
  · obtain ⟨z, rfl, hk⟩ := h
    exact h_ireturn dL_wordOf_5 rfl rfl (Nat.le_refl _) (Nat.le_refl _) hk
  · obtain ⟨i, c, he, hk⟩ := h
    rcases i with _ | i
    · have he : some ("java/util/NoSuchElementException", (-13 : Int32)) = some (E, c) := he
      cases he
      exact ⟨6, ⟨[], (0, 5, 6, 22), [], rfl, fun _ h => absurd h List.not_mem_nil, List.forall_mem_cons.mpr ⟨⟨rfl, by decide, rfl, w_646, ca_NSE⟩, fun _ h => absurd h List.not_mem_nil⟩⟩, fun q => h_astore_n (i := 2) dL_wordOf_6 rfl rfl (Nat.le_of_ble_eq_true rfl) rfl (h_bipush dL_wordOf_7 rfl (h_ireturn dL_wordOf_9 rfl rfl (Nat.le_refl _) (Nat.le_refl _) hk))⟩
    · have he : (none : Option (String × Int32)) = some (E, c) := he
      cases he
theorem hL_addShelf_run {G : GG} (gk : GOK G) (nk : NOK G) {σ : Mm} {x : Nat} {p0 p1 p2 : Int32} {K : RES → Mm → Prop} (hx : (mt σ x).1 = 9) (hrun : Runs G mX8_addShelf rX8_addShelf [vR (some x), vI p0, vI p1, vI p2] σ (HQ idI K [("java/lang/IllegalArgumentException", (-1 : Int32)), ("java/lang/IllegalStateException", (-2 : Int32))])) : RunsH G mL_addShelf hL_addShelf rL_addShelf [vR (some x), vI p0, vI p1, vI p2] σ K := by
  refine RunsH.of (by decide +kernel) rfl (Nat.le_of_ble_eq_true rfl) ?_
  refine h_aload_n (i := 0) dL_addShelf_0 rfl rfl ?_
  refine h_iload_n (i := 1) dL_addShelf_1 rfl rfl ?_
  refine h_iload_n (i := 2) dL_addShelf_2 rfl rfl ?_
  refine h_iload_n (i := 3) dL_addShelf_3 rfl rfl ?_
  refine h_callV (ci := 8) (Y := mX8_addShelf) (rmY := rX8_addShelf) (as := [vI p0, vI p1, vI p2]) (S := []) gk dL_addShelf_4 gL_36 (by decide) rfl w_603 w_604 hx rfl rfl (Nat.le_of_ble_eq_true rfl) (by decide) ?_
  refine hrun.mono fun r t h => ?_
  rcases r with v | E
  · obtain ⟨z, rfl, hk⟩ := h
    exact h_ireturn dL_addShelf_7 rfl rfl (Nat.le_refl _) (Nat.le_refl _) hk
  · obtain ⟨i, c, he, hk⟩ := h
    rcases i with _ | i
    · have he : some ("java/lang/IllegalArgumentException", (-1 : Int32)) = some (E, c) := he
      cases he
      exact ⟨8, ⟨[], (0, 7, 8, 14), [(0, 7, 12, 16)], rfl, fun _ h => absurd h List.not_mem_nil, List.forall_mem_cons.mpr ⟨⟨rfl, by decide, rfl, w_368, ca_IAE⟩, fun _ h => absurd h List.not_mem_nil⟩⟩, fun q => h_astore dL_addShelf_8 rfl (Nat.le_of_ble_eq_true rfl) rfl (h_iconst dL_addShelf_10 rfl (h_ireturn dL_addShelf_11 rfl rfl (Nat.le_refl _) (Nat.le_refl _) hk))⟩
    · skip
      rcases i with _ | i
      · have he : some ("java/lang/IllegalStateException", (-2 : Int32)) = some (E, c) := he
        cases he
        exact ⟨12, ⟨[(0, 7, 8, 14)], (0, 7, 12, 16), [], rfl, List.forall_mem_cons.mpr ⟨⟨by decide, _, w_368, nk _ _ (by decide) (by decide) (by decide)⟩, fun _ h => absurd h List.not_mem_nil⟩, List.forall_mem_cons.mpr ⟨⟨rfl, by decide, rfl, w_369, ca_ISE⟩, fun _ h => absurd h List.not_mem_nil⟩⟩, fun q => h_astore dL_addShelf_12 rfl (Nat.le_of_ble_eq_true rfl) rfl (h_bipush dL_addShelf_14 rfl (h_ireturn dL_addShelf_16 rfl rfl (Nat.le_refl _) (Nat.le_refl _) hk))⟩
      · have he : (none : Option (String × Int32)) = some (E, c) := he
        cases he
theorem hL_listen_run {G : GG} (gk : GOK G) (nk : NOK G) {σ : Mm} {x : Nat} {p0 p1 : Int32} {K : RES → Mm → Prop} (hx : (mt σ x).1 = 9) (hrun : Runs G mX8_setListening rX8_setListening [vR (some x), vI p0, vI p1] σ (HQ zo K [("java/lang/IndexOutOfBoundsException", (-1 : Int32))])) : RunsH G mL_listen hL_listen rL_listen [vR (some x), vI p0, vI p1] σ K := by
  refine RunsH.of (by decide +kernel) rfl (Nat.le_of_ble_eq_true rfl) ?_
  refine h_aload_n (i := 0) dL_listen_0 rfl rfl ?_
  refine h_iload_n (i := 1) dL_listen_1 rfl rfl ?_
  refine h_iload_n (i := 2) dL_listen_2 rfl rfl ?_
  refine h_callV (ci := 8) (Y := mX8_setListening) (rmY := rX8_setListening) (as := [vI p0, vI p1]) (S := []) gk dL_listen_3 gL_40 (by decide) rfl w_786 w_787 hx rfl rfl (Nat.le_of_ble_eq_true rfl) (by decide) ?_
  refine hrun.mono fun r t h => ?_
  rcases r with v | E
  · obtain ⟨z, rfl, hk⟩ := h
    unfold zo at hk
    refine h_if_eq (tgt := 13) dL_listen_6 rfl (fun z0 => ?_) (fun z0 => ?_)
    · rw [if_pos z0] at hk
      exact h_iconst dL_listen_13 rfl (h_ireturn dL_listen_14 rfl rfl (Nat.le_refl _) (Nat.le_refl _) hk)
    · rw [if_neg z0] at hk
      exact h_iconst dL_listen_9 rfl (h_goto (tgt := 14) dL_listen_10 rfl (h_ireturn dL_listen_14 rfl rfl (Nat.le_refl _) (Nat.le_refl _) hk))
  · obtain ⟨i, c, he, hk⟩ := h
    rcases i with _ | i
    · have he : some ("java/lang/IndexOutOfBoundsException", (-1 : Int32)) = some (E, c) := he
      cases he
      exact ⟨15, ⟨[], (0, 14, 15, 31), [], rfl, fun _ h => absurd h List.not_mem_nil, List.forall_mem_cons.mpr ⟨⟨rfl, by decide, rfl, w_625, ca_IOB⟩, fun _ h => absurd h List.not_mem_nil⟩⟩, fun q => h_astore_n (i := 3) dL_listen_15 rfl rfl (Nat.le_of_ble_eq_true rfl) rfl (h_iconst dL_listen_16 rfl (h_ireturn dL_listen_17 rfl rfl (Nat.le_refl _) (Nat.le_refl _) hk))⟩
    · have he : (none : Option (String × Int32)) = some (E, c) := he
      cases he
theorem hL_capacityOf_run {G : GG} (gk : GOK G) (nk : NOK G) {σ : Mm} {x : Nat} {p0 : Int32} {K : RES → Mm → Prop} (hx : (mt σ x).1 = 9) (hrun : Runs G mX8_capacityOf rX8_capacityOf [vR (some x), vI p0] σ (HQ idI K [("java/lang/IndexOutOfBoundsException", (-11 : Int32))])) : RunsH G mL_capacityOf hL_capacityOf rL_capacityOf [vR (some x), vI p0] σ K := by
  refine RunsH.of (by decide +kernel) rfl (Nat.le_of_ble_eq_true rfl) ?_
  refine h_aload_n (i := 0) dL_capacityOf_0 rfl rfl ?_
  refine h_iload_n (i := 1) dL_capacityOf_1 rfl rfl ?_
  refine h_callV (ci := 8) (Y := mX8_capacityOf) (rmY := rX8_capacityOf) (as := [vI p0]) (S := []) gk dL_capacityOf_2 gL_44 (by decide) rfl w_961 w_962 hx rfl rfl (Nat.le_of_ble_eq_true rfl) (by decide) ?_
  refine hrun.mono fun r t h => ?_
  rcases r with v | E
  · obtain ⟨z, rfl, hk⟩ := h
    exact h_ireturn dL_capacityOf_5 rfl rfl (Nat.le_refl _) (Nat.le_refl _) hk
  · obtain ⟨i, c, he, hk⟩ := h
    rcases i with _ | i
    · have he : some ("java/lang/IndexOutOfBoundsException", (-11 : Int32)) = some (E, c) := he
      cases he
      exact ⟨6, ⟨[], (0, 5, 6, 31), [], rfl, fun _ h => absurd h List.not_mem_nil, List.forall_mem_cons.mpr ⟨⟨rfl, by decide, rfl, w_625, ca_IOB⟩, fun _ h => absurd h List.not_mem_nil⟩⟩, fun q => h_astore_n (i := 2) dL_capacityOf_6 rfl rfl (Nat.le_of_ble_eq_true rfl) rfl (h_bipush dL_capacityOf_7 rfl (h_ireturn dL_capacityOf_9 rfl rfl (Nat.le_refl _) (Nat.le_refl _) hk))⟩
    · have he : (none : Option (String × Int32)) = some (E, c) := he
      cases he
theorem hL_lifetimeOf_run {G : GG} (gk : GOK G) (nk : NOK G) {σ : Mm} {x : Nat} {p0 : Int32} {K : RES → Mm → Prop} (hx : (mt σ x).1 = 9) (hrun : Runs G mX8_lifetimeOf rX8_lifetimeOf [vR (some x), vI p0] σ (HQ idI K [("java/lang/IndexOutOfBoundsException", (-11 : Int32))])) : RunsH G mL_lifetimeOf hL_lifetimeOf rL_lifetimeOf [vR (some x), vI p0] σ K := by
  refine RunsH.of (by decide +kernel) rfl (Nat.le_of_ble_eq_true rfl) ?_
  refine h_aload_n (i := 0) dL_lifetimeOf_0 rfl rfl ?_
  refine h_iload_n (i := 1) dL_lifetimeOf_1 rfl rfl ?_
  refine h_callV (ci := 8) (Y := mX8_lifetimeOf) (rmY := rX8_lifetimeOf) (as := [vI p0]) (S := []) gk dL_lifetimeOf_2 gL_48 (by decide) rfl w_906 w_907 hx rfl rfl (Nat.le_of_ble_eq_true rfl) (by decide) ?_
  refine hrun.mono fun r t h => ?_
  rcases r with v | E
  · obtain ⟨z, rfl, hk⟩ := h
    exact h_ireturn dL_lifetimeOf_5 rfl rfl (Nat.le_refl _) (Nat.le_refl _) hk
  · obtain ⟨i, c, he, hk⟩ := h
    rcases i with _ | i
    · have he : some ("java/lang/IndexOutOfBoundsException", (-11 : Int32)) = some (E, c) := he
      cases he
      exact ⟨6, ⟨[], (0, 5, 6, 31), [], rfl, fun _ h => absurd h List.not_mem_nil, List.forall_mem_cons.mpr ⟨⟨rfl, by decide, rfl, w_625, ca_IOB⟩, fun _ h => absurd h List.not_mem_nil⟩⟩, fun q => h_astore_n (i := 2) dL_lifetimeOf_6 rfl rfl (Nat.le_of_ble_eq_true rfl) rfl (h_bipush dL_lifetimeOf_7 rfl (h_ireturn dL_lifetimeOf_9 rfl rfl (Nat.le_refl _) (Nat.le_refl _) hk))⟩
    · have he : (none : Option (String × Int32)) = some (E, c) := he
      cases he
theorem hL_policyOf_run {G : GG} (gk : GOK G) (nk : NOK G) {σ : Mm} {x : Nat} {p0 : Int32} {K : RES → Mm → Prop} (hx : (mt σ x).1 = 9) (hrun : Runs G mX8_policyOf rX8_policyOf [vR (some x), vI p0] σ (HQ idI K [("java/lang/IndexOutOfBoundsException", (-11 : Int32))])) : RunsH G mL_policyOf hL_policyOf rL_policyOf [vR (some x), vI p0] σ K := by
  refine RunsH.of (by decide +kernel) rfl (Nat.le_of_ble_eq_true rfl) ?_
  refine h_aload_n (i := 0) dL_policyOf_0 rfl rfl ?_
  refine h_iload_n (i := 1) dL_policyOf_1 rfl rfl ?_
  refine h_callV (ci := 8) (Y := mX8_policyOf) (rmY := rX8_policyOf) (as := [vI p0]) (S := []) gk dL_policyOf_2 gL_51 (by decide) rfl w_979 w_980 hx rfl rfl (Nat.le_of_ble_eq_true rfl) (by decide) ?_
  refine hrun.mono fun r t h => ?_
  rcases r with v | E
  · obtain ⟨z, rfl, hk⟩ := h
    exact h_ireturn dL_policyOf_5 rfl rfl (Nat.le_refl _) (Nat.le_refl _) hk
  · obtain ⟨i, c, he, hk⟩ := h
    rcases i with _ | i
    · have he : some ("java/lang/IndexOutOfBoundsException", (-11 : Int32)) = some (E, c) := he
      cases he
      exact ⟨6, ⟨[], (0, 5, 6, 31), [], rfl, fun _ h => absurd h List.not_mem_nil, List.forall_mem_cons.mpr ⟨⟨rfl, by decide, rfl, w_625, ca_IOB⟩, fun _ h => absurd h List.not_mem_nil⟩⟩, fun q => h_astore_n (i := 2) dL_policyOf_6 rfl rfl (Nat.le_of_ble_eq_true rfl) rfl (h_bipush dL_policyOf_7 rfl (h_ireturn dL_policyOf_9 rfl rfl (Nat.le_refl _) (Nat.le_refl _) hk))⟩
    · have he : (none : Option (String × Int32)) = some (E, c) := he
      cases he
theorem hL_isListening_run {G : GG} (gk : GOK G) (nk : NOK G) {σ : Mm} {x : Nat} {p0 : Int32} {K : RES → Mm → Prop} (hx : (mt σ x).1 = 9) (hrun : Runs G mX8_isListening rX8_isListening [vR (some x), vI p0] σ (HQ zo K [("java/lang/IndexOutOfBoundsException", (-11 : Int32))])) : RunsH G mL_isListening hL_isListening rL_isListening [vR (some x), vI p0] σ K := by
  refine RunsH.of (by decide +kernel) rfl (Nat.le_of_ble_eq_true rfl) ?_
  refine h_aload_n (i := 0) dL_isListening_0 rfl rfl ?_
  refine h_iload_n (i := 1) dL_isListening_1 rfl rfl ?_
  refine h_callV (ci := 8) (Y := mX8_isListening) (rmY := rX8_isListening) (as := [vI p0]) (S := []) gk dL_isListening_2 gL_54 (by decide) rfl w_1023 w_1024 hx rfl rfl (Nat.le_of_ble_eq_true rfl) (by decide) ?_
  refine hrun.mono fun r t h => ?_
  rcases r with v | E
  · obtain ⟨z, rfl, hk⟩ := h
    unfold zo at hk
    refine h_if_eq (tgt := 12) dL_isListening_5 rfl (fun z0 => ?_) (fun z0 => ?_)
    · rw [if_pos z0] at hk
      exact h_iconst dL_isListening_12 rfl (h_ireturn dL_isListening_13 rfl rfl (Nat.le_refl _) (Nat.le_refl _) hk)
    · rw [if_neg z0] at hk
      exact h_iconst dL_isListening_8 rfl (h_goto (tgt := 13) dL_isListening_9 rfl (h_ireturn dL_isListening_13 rfl rfl (Nat.le_refl _) (Nat.le_refl _) hk))
  · obtain ⟨i, c, he, hk⟩ := h
    rcases i with _ | i
    · have he : some ("java/lang/IndexOutOfBoundsException", (-11 : Int32)) = some (E, c) := he
      cases he
      exact ⟨14, ⟨[], (0, 13, 14, 31), [], rfl, fun _ h => absurd h List.not_mem_nil, List.forall_mem_cons.mpr ⟨⟨rfl, by decide, rfl, w_625, ca_IOB⟩, fun _ h => absurd h List.not_mem_nil⟩⟩, fun q => h_astore_n (i := 2) dL_isListening_14 rfl rfl (Nat.le_of_ble_eq_true rfl) rfl (h_bipush dL_isListening_15 rfl (h_ireturn dL_isListening_17 rfl rfl (Nat.le_refl _) (Nat.le_refl _) hk))⟩
    · have he : (none : Option (String × Int32)) = some (E, c) := he
      cases he
theorem hL_echoCount_run {G : GG} (gk : GOK G) (nk : NOK G) {σ : Mm} {x : Nat} {p0 : Int32} {K : RES → Mm → Prop} (hx : (mt σ x).1 = 9) (hrun : Runs G mX8_echoCount rX8_echoCount [vR (some x), vI p0] σ (HQ idI K [("java/lang/IndexOutOfBoundsException", (-11 : Int32))])) : RunsH G mL_echoCount hL_echoCount rL_echoCount [vR (some x), vI p0] σ K := by
  refine RunsH.of (by decide +kernel) rfl (Nat.le_of_ble_eq_true rfl) ?_
  refine h_aload_n (i := 0) dL_echoCount_0 rfl rfl ?_
  refine h_iload_n (i := 1) dL_echoCount_1 rfl rfl ?_
  refine h_callV (ci := 8) (Y := mX8_echoCount) (rmY := rX8_echoCount) (as := [vI p0]) (S := []) gk dL_echoCount_2 gL_58 (by decide) rfl w_953 w_954 hx rfl rfl (Nat.le_of_ble_eq_true rfl) (by decide) ?_
  refine hrun.mono fun r t h => ?_
  rcases r with v | E
  · obtain ⟨z, rfl, hk⟩ := h
    exact h_ireturn dL_echoCount_5 rfl rfl (Nat.le_refl _) (Nat.le_refl _) hk
  · obtain ⟨i, c, he, hk⟩ := h
    rcases i with _ | i
    · have he : some ("java/lang/IndexOutOfBoundsException", (-11 : Int32)) = some (E, c) := he
      cases he
      exact ⟨6, ⟨[], (0, 5, 6, 31), [], rfl, fun _ h => absurd h List.not_mem_nil, List.forall_mem_cons.mpr ⟨⟨rfl, by decide, rfl, w_625, ca_IOB⟩, fun _ h => absurd h List.not_mem_nil⟩⟩, fun q => h_astore_n (i := 2) dL_echoCount_6 rfl rfl (Nat.le_of_ble_eq_true rfl) rfl (h_bipush dL_echoCount_7 rfl (h_ireturn dL_echoCount_9 rfl rfl (Nat.le_refl _) (Nat.le_refl _) hk))⟩
    · have he : (none : Option (String × Int32)) = some (E, c) := he
      cases he
theorem hL_echoAt_run {G : GG} (gk : GOK G) (nk : NOK G) {σ : Mm} {x : Nat} {p0 p1 : Int32} {K : RES → Mm → Prop} (hx : (mt σ x).1 = 9) (hrun : Runs G mX8_echoAt rX8_echoAt [vR (some x), vI p0, vI p1] σ (HQ idI K [("java/lang/IndexOutOfBoundsException", (-11 : Int32)), ("java/util/NoSuchElementException", (-13 : Int32))])) : RunsH G mL_echoAt hL_echoAt rL_echoAt [vR (some x), vI p0, vI p1] σ K := by
  refine RunsH.of (by decide +kernel) rfl (Nat.le_of_ble_eq_true rfl) ?_
  refine h_aload_n (i := 0) dL_echoAt_0 rfl rfl ?_
  refine h_iload_n (i := 1) dL_echoAt_1 rfl rfl ?_
  refine h_iload_n (i := 2) dL_echoAt_2 rfl rfl ?_
  refine h_callV (ci := 8) (Y := mX8_echoAt) (rmY := rX8_echoAt) (as := [vI p0, vI p1]) (S := []) gk dL_echoAt_3 gL_61 (by decide) rfl w_880 w_881 hx rfl rfl (Nat.le_of_ble_eq_true rfl) (by decide) ?_
  refine hrun.mono fun r t h => ?_
  rcases r with v | E
  · obtain ⟨z, rfl, hk⟩ := h
    exact h_ireturn dL_echoAt_6 rfl rfl (Nat.le_refl _) (Nat.le_refl _) hk
  · obtain ⟨i, c, he, hk⟩ := h
    rcases i with _ | i
    · have he : some ("java/lang/IndexOutOfBoundsException", (-11 : Int32)) = some (E, c) := he
      cases he
      exact ⟨7, ⟨[], (0, 6, 7, 31), [(0, 6, 11, 22)], rfl, fun _ h => absurd h List.not_mem_nil, List.forall_mem_cons.mpr ⟨⟨rfl, by decide, rfl, w_625, ca_IOB⟩, fun _ h => absurd h List.not_mem_nil⟩⟩, fun q => h_astore_n (i := 3) dL_echoAt_7 rfl rfl (Nat.le_of_ble_eq_true rfl) rfl (h_bipush dL_echoAt_8 rfl (h_ireturn dL_echoAt_10 rfl rfl (Nat.le_refl _) (Nat.le_refl _) hk))⟩
    · skip
      rcases i with _ | i
      · have he : some ("java/util/NoSuchElementException", (-13 : Int32)) = some (E, c) := he
        cases he
        exact ⟨11, ⟨[(0, 6, 7, 31)], (0, 6, 11, 22), [], rfl, List.forall_mem_cons.mpr ⟨⟨by decide, _, w_625, nk _ _ (by decide) (by decide) (by decide)⟩, fun _ h => absurd h List.not_mem_nil⟩, List.forall_mem_cons.mpr ⟨⟨rfl, by decide, rfl, w_646, ca_NSE⟩, fun _ h => absurd h List.not_mem_nil⟩⟩, fun q => h_astore_n (i := 3) dL_echoAt_11 rfl rfl (Nat.le_of_ble_eq_true rfl) rfl (h_bipush dL_echoAt_12 rfl (h_ireturn dL_echoAt_14 rfl rfl (Nat.le_refl _) (Nat.le_refl _) hk))⟩
      · have he : (none : Option (String × Int32)) = some (E, c) := he
        cases he
theorem hL_hasEcho_run {G : GG} (gk : GOK G) (nk : NOK G) {σ : Mm} {x : Nat} {p0 p1 : Int32} {K : RES → Mm → Prop} (hx : (mt σ x).1 = 9) (hrun : Runs G mX8_hasEcho rX8_hasEcho [vR (some x), vI p0, vI p1] σ (HQ zo K [("java/lang/IndexOutOfBoundsException", (-11 : Int32))])) : RunsH G mL_hasEcho hL_hasEcho rL_hasEcho [vR (some x), vI p0, vI p1] σ K := by
  refine RunsH.of (by decide +kernel) rfl (Nat.le_of_ble_eq_true rfl) ?_
  refine h_aload_n (i := 0) dL_hasEcho_0 rfl rfl ?_
  refine h_iload_n (i := 1) dL_hasEcho_1 rfl rfl ?_
  refine h_iload_n (i := 2) dL_hasEcho_2 rfl rfl ?_
  refine h_callV (ci := 8) (Y := mX8_hasEcho) (rmY := rX8_hasEcho) (as := [vI p0, vI p1]) (S := []) gk dL_hasEcho_3 gL_65 (by decide) rfl w_838 w_839 hx rfl rfl (Nat.le_of_ble_eq_true rfl) (by decide) ?_
  refine hrun.mono fun r t h => ?_
  rcases r with v | E
  · obtain ⟨z, rfl, hk⟩ := h
    unfold zo at hk
    refine h_if_eq (tgt := 13) dL_hasEcho_6 rfl (fun z0 => ?_) (fun z0 => ?_)
    · rw [if_pos z0] at hk
      exact h_iconst dL_hasEcho_13 rfl (h_ireturn dL_hasEcho_14 rfl rfl (Nat.le_refl _) (Nat.le_refl _) hk)
    · rw [if_neg z0] at hk
      exact h_iconst dL_hasEcho_9 rfl (h_goto (tgt := 14) dL_hasEcho_10 rfl (h_ireturn dL_hasEcho_14 rfl rfl (Nat.le_refl _) (Nat.le_refl _) hk))
  · obtain ⟨i, c, he, hk⟩ := h
    rcases i with _ | i
    · have he : some ("java/lang/IndexOutOfBoundsException", (-11 : Int32)) = some (E, c) := he
      cases he
      exact ⟨15, ⟨[], (0, 14, 15, 31), [], rfl, fun _ h => absurd h List.not_mem_nil, List.forall_mem_cons.mpr ⟨⟨rfl, by decide, rfl, w_625, ca_IOB⟩, fun _ h => absurd h List.not_mem_nil⟩⟩, fun q => h_astore_n (i := 3) dL_hasEcho_15 rfl rfl (Nat.le_of_ble_eq_true rfl) rfl (h_bipush dL_hasEcho_16 rfl (h_ireturn dL_hasEcho_18 rfl rfl (Nat.le_refl _) (Nat.le_refl _) hk))⟩
    · have he : (none : Option (String × Int32)) = some (E, c) := he
      cases he
theorem hL_echoOf_run {G : GG} (gk : GOK G) (nk : NOK G) {σ : Mm} {x : Nat} {p0 p1 : Int32} {K : RES → Mm → Prop} (hx : (mt σ x).1 = 9) (hrun : Runs G mX8_echoOf rX8_echoOf [vR (some x), vI p0, vI p1] σ (HQ idI K [("java/lang/IndexOutOfBoundsException", (-11 : Int32)), ("java/util/NoSuchElementException", (-13 : Int32))])) : RunsH G mL_echoOf hL_echoOf rL_echoOf [vR (some x), vI p0, vI p1] σ K := by
  refine RunsH.of (by decide +kernel) rfl (Nat.le_of_ble_eq_true rfl) ?_
  refine h_aload_n (i := 0) dL_echoOf_0 rfl rfl ?_
  refine h_iload_n (i := 1) dL_echoOf_1 rfl rfl ?_
  refine h_iload_n (i := 2) dL_echoOf_2 rfl rfl ?_
  refine h_callV (ci := 8) (Y := mX8_echoOf) (rmY := rX8_echoOf) (as := [vI p0, vI p1]) (S := []) gk dL_echoOf_3 gL_69 (by decide) rfl w_846 w_847 hx rfl rfl (Nat.le_of_ble_eq_true rfl) (by decide) ?_
  refine hrun.mono fun r t h => ?_
  rcases r with v | E
  · obtain ⟨z, rfl, hk⟩ := h
    exact h_ireturn dL_echoOf_6 rfl rfl (Nat.le_refl _) (Nat.le_refl _) hk
  · obtain ⟨i, c, he, hk⟩ := h
    rcases i with _ | i
    · have he : some ("java/lang/IndexOutOfBoundsException", (-11 : Int32)) = some (E, c) := he
      cases he
      exact ⟨7, ⟨[], (0, 6, 7, 31), [(0, 6, 11, 22)], rfl, fun _ h => absurd h List.not_mem_nil, List.forall_mem_cons.mpr ⟨⟨rfl, by decide, rfl, w_625, ca_IOB⟩, fun _ h => absurd h List.not_mem_nil⟩⟩, fun q => h_astore_n (i := 3) dL_echoOf_7 rfl rfl (Nat.le_of_ble_eq_true rfl) rfl (h_bipush dL_echoOf_8 rfl (h_ireturn dL_echoOf_10 rfl rfl (Nat.le_refl _) (Nat.le_refl _) hk))⟩
    · skip
      rcases i with _ | i
      · have he : some ("java/util/NoSuchElementException", (-13 : Int32)) = some (E, c) := he
        cases he
        exact ⟨11, ⟨[(0, 6, 7, 31)], (0, 6, 11, 22), [], rfl, List.forall_mem_cons.mpr ⟨⟨by decide, _, w_625, nk _ _ (by decide) (by decide) (by decide)⟩, fun _ h => absurd h List.not_mem_nil⟩, List.forall_mem_cons.mpr ⟨⟨rfl, by decide, rfl, w_646, ca_NSE⟩, fun _ h => absurd h List.not_mem_nil⟩⟩, fun q => h_astore_n (i := 3) dL_echoOf_11 rfl rfl (Nat.le_of_ble_eq_true rfl) rfl (h_bipush dL_echoOf_12 rfl (h_ireturn dL_echoOf_14 rfl rfl (Nat.le_refl _) (Nat.le_refl _) hk))⟩
      · have he : (none : Option (String × Int32)) = some (E, c) := he
        cases he
theorem hL_ageOf_run {G : GG} (gk : GOK G) (nk : NOK G) {σ : Mm} {x : Nat} {p0 p1 : Int32} {K : RES → Mm → Prop} (hx : (mt σ x).1 = 9) (hrun : Runs G mX8_ageOf rX8_ageOf [vR (some x), vI p0, vI p1] σ (HQ idI K [("java/lang/IndexOutOfBoundsException", (-11 : Int32)), ("java/util/NoSuchElementException", (-13 : Int32))])) : RunsH G mL_ageOf hL_ageOf rL_ageOf [vR (some x), vI p0, vI p1] σ K := by
  refine RunsH.of (by decide +kernel) rfl (Nat.le_of_ble_eq_true rfl) ?_
  refine h_aload_n (i := 0) dL_ageOf_0 rfl rfl ?_
  refine h_iload_n (i := 1) dL_ageOf_1 rfl rfl ?_
  refine h_iload_n (i := 2) dL_ageOf_2 rfl rfl ?_
  refine h_callV (ci := 8) (Y := mX8_ageOf) (rmY := rX8_ageOf) (as := [vI p0, vI p1]) (S := []) gk dL_ageOf_3 gL_73 (by decide) rfl w_858 w_859 hx rfl rfl (Nat.le_of_ble_eq_true rfl) (by decide) ?_
  refine hrun.mono fun r t h => ?_
  rcases r with v | E
  · obtain ⟨z, rfl, hk⟩ := h
    exact h_ireturn dL_ageOf_6 rfl rfl (Nat.le_refl _) (Nat.le_refl _) hk
  · obtain ⟨i, c, he, hk⟩ := h
    rcases i with _ | i
    · have he : some ("java/lang/IndexOutOfBoundsException", (-11 : Int32)) = some (E, c) := he
      cases he
      exact ⟨7, ⟨[], (0, 6, 7, 31), [(0, 6, 11, 22)], rfl, fun _ h => absurd h List.not_mem_nil, List.forall_mem_cons.mpr ⟨⟨rfl, by decide, rfl, w_625, ca_IOB⟩, fun _ h => absurd h List.not_mem_nil⟩⟩, fun q => h_astore_n (i := 3) dL_ageOf_7 rfl rfl (Nat.le_of_ble_eq_true rfl) rfl (h_bipush dL_ageOf_8 rfl (h_ireturn dL_ageOf_10 rfl rfl (Nat.le_refl _) (Nat.le_refl _) hk))⟩
    · skip
      rcases i with _ | i
      · have he : some ("java/util/NoSuchElementException", (-13 : Int32)) = some (E, c) := he
        cases he
        exact ⟨11, ⟨[(0, 6, 7, 31)], (0, 6, 11, 22), [], rfl, List.forall_mem_cons.mpr ⟨⟨by decide, _, w_625, nk _ _ (by decide) (by decide) (by decide)⟩, fun _ h => absurd h List.not_mem_nil⟩, List.forall_mem_cons.mpr ⟨⟨rfl, by decide, rfl, w_646, ca_NSE⟩, fun _ h => absurd h List.not_mem_nil⟩⟩, fun q => h_astore_n (i := 3) dL_ageOf_11 rfl rfl (Nat.le_of_ble_eq_true rfl) rfl (h_bipush dL_ageOf_12 rfl (h_ireturn dL_ageOf_14 rfl rfl (Nat.le_refl _) (Nat.le_refl _) hk))⟩
      · have he : (none : Option (String × Int32)) = some (E, c) := he
        cases he
theorem hL_hitsOf_run {G : GG} (gk : GOK G) (nk : NOK G) {σ : Mm} {x : Nat} {p0 p1 : Int32} {K : RES → Mm → Prop} (hx : (mt σ x).1 = 9) (hrun : Runs G mX8_hitsOf rX8_hitsOf [vR (some x), vI p0, vI p1] σ (HQ idI K [("java/lang/IndexOutOfBoundsException", (-11 : Int32)), ("java/util/NoSuchElementException", (-13 : Int32))])) : RunsH G mL_hitsOf hL_hitsOf rL_hitsOf [vR (some x), vI p0, vI p1] σ K := by
  refine RunsH.of (by decide +kernel) rfl (Nat.le_of_ble_eq_true rfl) ?_
  refine h_aload_n (i := 0) dL_hitsOf_0 rfl rfl ?_
  refine h_iload_n (i := 1) dL_hitsOf_1 rfl rfl ?_
  refine h_iload_n (i := 2) dL_hitsOf_2 rfl rfl ?_
  refine h_callV (ci := 8) (Y := mX8_hitsOf) (rmY := rX8_hitsOf) (as := [vI p0, vI p1]) (S := []) gk dL_hitsOf_3 gL_76 (by decide) rfl w_866 w_867 hx rfl rfl (Nat.le_of_ble_eq_true rfl) (by decide) ?_
  refine hrun.mono fun r t h => ?_
  rcases r with v | E
  · obtain ⟨z, rfl, hk⟩ := h
    exact h_ireturn dL_hitsOf_6 rfl rfl (Nat.le_refl _) (Nat.le_refl _) hk
  · obtain ⟨i, c, he, hk⟩ := h
    rcases i with _ | i
    · have he : some ("java/lang/IndexOutOfBoundsException", (-11 : Int32)) = some (E, c) := he
      cases he
      exact ⟨7, ⟨[], (0, 6, 7, 31), [(0, 6, 11, 22)], rfl, fun _ h => absurd h List.not_mem_nil, List.forall_mem_cons.mpr ⟨⟨rfl, by decide, rfl, w_625, ca_IOB⟩, fun _ h => absurd h List.not_mem_nil⟩⟩, fun q => h_astore_n (i := 3) dL_hitsOf_7 rfl rfl (Nat.le_of_ble_eq_true rfl) rfl (h_bipush dL_hitsOf_8 rfl (h_ireturn dL_hitsOf_10 rfl rfl (Nat.le_refl _) (Nat.le_refl _) hk))⟩
    · skip
      rcases i with _ | i
      · have he : some ("java/util/NoSuchElementException", (-13 : Int32)) = some (E, c) := he
        cases he
        exact ⟨11, ⟨[(0, 6, 7, 31)], (0, 6, 11, 22), [], rfl, List.forall_mem_cons.mpr ⟨⟨by decide, _, w_625, nk _ _ (by decide) (by decide) (by decide)⟩, fun _ h => absurd h List.not_mem_nil⟩, List.forall_mem_cons.mpr ⟨⟨rfl, by decide, rfl, w_646, ca_NSE⟩, fun _ h => absurd h List.not_mem_nil⟩⟩, fun q => h_astore_n (i := 3) dL_hitsOf_11 rfl rfl (Nat.le_of_ble_eq_true rfl) rfl (h_bipush dL_hitsOf_12 rfl (h_ireturn dL_hitsOf_14 rfl rfl (Nat.le_refl _) (Nat.le_refl _) hk))⟩
      · have he : (none : Option (String × Int32)) = some (E, c) := he
        cases he
theorem hL_isExpired_run {G : GG} (gk : GOK G) (nk : NOK G) {σ : Mm} {x : Nat} {p0 p1 : Int32} {K : RES → Mm → Prop} (hx : (mt σ x).1 = 9) (hrun : Runs G mX8_isExpired rX8_isExpired [vR (some x), vI p0, vI p1] σ (HQ zo K [("java/lang/IndexOutOfBoundsException", (-11 : Int32)), ("java/util/NoSuchElementException", (-13 : Int32))])) : RunsH G mL_isExpired hL_isExpired rL_isExpired [vR (some x), vI p0, vI p1] σ K := by
  refine RunsH.of (by decide +kernel) rfl (Nat.le_of_ble_eq_true rfl) ?_
  refine h_aload_n (i := 0) dL_isExpired_0 rfl rfl ?_
  refine h_iload_n (i := 1) dL_isExpired_1 rfl rfl ?_
  refine h_iload_n (i := 2) dL_isExpired_2 rfl rfl ?_
  refine h_callV (ci := 8) (Y := mX8_isExpired) (rmY := rX8_isExpired) (as := [vI p0, vI p1]) (S := []) gk dL_isExpired_3 gL_79 (by decide) rfl w_924 w_925 hx rfl rfl (Nat.le_of_ble_eq_true rfl) (by decide) ?_
  refine hrun.mono fun r t h => ?_
  rcases r with v | E
  · obtain ⟨z, rfl, hk⟩ := h
    unfold zo at hk
    refine h_if_eq (tgt := 13) dL_isExpired_6 rfl (fun z0 => ?_) (fun z0 => ?_)
    · rw [if_pos z0] at hk
      exact h_iconst dL_isExpired_13 rfl (h_ireturn dL_isExpired_14 rfl rfl (Nat.le_refl _) (Nat.le_refl _) hk)
    · rw [if_neg z0] at hk
      exact h_iconst dL_isExpired_9 rfl (h_goto (tgt := 14) dL_isExpired_10 rfl (h_ireturn dL_isExpired_14 rfl rfl (Nat.le_refl _) (Nat.le_refl _) hk))
  · obtain ⟨i, c, he, hk⟩ := h
    rcases i with _ | i
    · have he : some ("java/lang/IndexOutOfBoundsException", (-11 : Int32)) = some (E, c) := he
      cases he
      exact ⟨15, ⟨[], (0, 14, 15, 31), [(0, 14, 19, 22)], rfl, fun _ h => absurd h List.not_mem_nil, List.forall_mem_cons.mpr ⟨⟨rfl, by decide, rfl, w_625, ca_IOB⟩, fun _ h => absurd h List.not_mem_nil⟩⟩, fun q => h_astore_n (i := 3) dL_isExpired_15 rfl rfl (Nat.le_of_ble_eq_true rfl) rfl (h_bipush dL_isExpired_16 rfl (h_ireturn dL_isExpired_18 rfl rfl (Nat.le_refl _) (Nat.le_refl _) hk))⟩
    · skip
      rcases i with _ | i
      · have he : some ("java/util/NoSuchElementException", (-13 : Int32)) = some (E, c) := he
        cases he
        exact ⟨19, ⟨[(0, 14, 15, 31)], (0, 14, 19, 22), [], rfl, List.forall_mem_cons.mpr ⟨⟨by decide, _, w_625, nk _ _ (by decide) (by decide) (by decide)⟩, fun _ h => absurd h List.not_mem_nil⟩, List.forall_mem_cons.mpr ⟨⟨rfl, by decide, rfl, w_646, ca_NSE⟩, fun _ h => absurd h List.not_mem_nil⟩⟩, fun q => h_astore_n (i := 3) dL_isExpired_19 rfl rfl (Nat.le_of_ble_eq_true rfl) rfl (h_bipush dL_isExpired_20 rfl (h_ireturn dL_isExpired_22 rfl rfl (Nat.le_refl _) (Nat.le_refl _) hk))⟩
      · have he : (none : Option (String × Int32)) = some (E, c) := he
        cases he
theorem hL_isOpen_run {G : GG} (gk : GOK G) (nk : NOK G) {σ : Mm} {x : Nat} {p0 p1 : Int32} {K : RES → Mm → Prop} (hx : (mt σ x).1 = 9) (hrun : Runs G mX8_isOpen rX8_isOpen [vR (some x), vI p0, vI p1] σ (HQ zo K [("java/lang/IndexOutOfBoundsException", (-11 : Int32)), ("java/util/NoSuchElementException", (-13 : Int32))])) : RunsH G mL_isOpen hL_isOpen rL_isOpen [vR (some x), vI p0, vI p1] σ K := by
  refine RunsH.of (by decide +kernel) rfl (Nat.le_of_ble_eq_true rfl) ?_
  refine h_aload_n (i := 0) dL_isOpen_0 rfl rfl ?_
  refine h_iload_n (i := 1) dL_isOpen_1 rfl rfl ?_
  refine h_iload_n (i := 2) dL_isOpen_2 rfl rfl ?_
  refine h_callV (ci := 8) (Y := mX8_isOpen) (rmY := rX8_isOpen) (as := [vI p0, vI p1]) (S := []) gk dL_isOpen_3 gL_82 (by decide) rfl w_873 w_874 hx rfl rfl (Nat.le_of_ble_eq_true rfl) (by decide) ?_
  refine hrun.mono fun r t h => ?_
  rcases r with v | E
  · obtain ⟨z, rfl, hk⟩ := h
    unfold zo at hk
    refine h_if_eq (tgt := 13) dL_isOpen_6 rfl (fun z0 => ?_) (fun z0 => ?_)
    · rw [if_pos z0] at hk
      exact h_iconst dL_isOpen_13 rfl (h_ireturn dL_isOpen_14 rfl rfl (Nat.le_refl _) (Nat.le_refl _) hk)
    · rw [if_neg z0] at hk
      exact h_iconst dL_isOpen_9 rfl (h_goto (tgt := 14) dL_isOpen_10 rfl (h_ireturn dL_isOpen_14 rfl rfl (Nat.le_refl _) (Nat.le_refl _) hk))
  · obtain ⟨i, c, he, hk⟩ := h
    rcases i with _ | i
    · have he : some ("java/lang/IndexOutOfBoundsException", (-11 : Int32)) = some (E, c) := he
      cases he
      exact ⟨15, ⟨[], (0, 14, 15, 31), [(0, 14, 19, 22)], rfl, fun _ h => absurd h List.not_mem_nil, List.forall_mem_cons.mpr ⟨⟨rfl, by decide, rfl, w_625, ca_IOB⟩, fun _ h => absurd h List.not_mem_nil⟩⟩, fun q => h_astore_n (i := 3) dL_isOpen_15 rfl rfl (Nat.le_of_ble_eq_true rfl) rfl (h_bipush dL_isOpen_16 rfl (h_ireturn dL_isOpen_18 rfl rfl (Nat.le_refl _) (Nat.le_refl _) hk))⟩
    · skip
      rcases i with _ | i
      · have he : some ("java/util/NoSuchElementException", (-13 : Int32)) = some (E, c) := he
        cases he
        exact ⟨19, ⟨[(0, 14, 15, 31)], (0, 14, 19, 22), [], rfl, List.forall_mem_cons.mpr ⟨⟨by decide, _, w_625, nk _ _ (by decide) (by decide) (by decide)⟩, fun _ h => absurd h List.not_mem_nil⟩, List.forall_mem_cons.mpr ⟨⟨rfl, by decide, rfl, w_646, ca_NSE⟩, fun _ h => absurd h List.not_mem_nil⟩⟩, fun q => h_astore_n (i := 3) dL_isOpen_19 rfl rfl (Nat.le_of_ble_eq_true rfl) rfl (h_bipush dL_isOpen_20 rfl (h_ireturn dL_isOpen_22 rfl rfl (Nat.le_refl _) (Nat.le_refl _) hk))⟩
      · have he : (none : Option (String × Int32)) = some (E, c) := he
        cases he
theorem hL_isTrue_run {G : GG} (gk : GOK G) (nk : NOK G) {σ : Mm} {x : Nat} {p0 p1 : Int32} {K : RES → Mm → Prop} (hx : (mt σ x).1 = 9) (hrun : Runs G mX8_isTrue rX8_isTrue [vR (some x), vI p0, vI p1] σ (HQ zo K [("java/lang/IndexOutOfBoundsException", (-11 : Int32)), ("java/util/NoSuchElementException", (-13 : Int32))])) : RunsH G mL_isTrue hL_isTrue rL_isTrue [vR (some x), vI p0, vI p1] σ K := by
  refine RunsH.of (by decide +kernel) rfl (Nat.le_of_ble_eq_true rfl) ?_
  refine h_aload_n (i := 0) dL_isTrue_0 rfl rfl ?_
  refine h_iload_n (i := 1) dL_isTrue_1 rfl rfl ?_
  refine h_iload_n (i := 2) dL_isTrue_2 rfl rfl ?_
  refine h_callV (ci := 8) (Y := mX8_isTrue) (rmY := rX8_isTrue) (as := [vI p0, vI p1]) (S := []) gk dL_isTrue_3 gL_85 (by decide) rfl w_895 w_896 hx rfl rfl (Nat.le_of_ble_eq_true rfl) (by decide) ?_
  refine hrun.mono fun r t h => ?_
  rcases r with v | E
  · obtain ⟨z, rfl, hk⟩ := h
    unfold zo at hk
    refine h_if_eq (tgt := 13) dL_isTrue_6 rfl (fun z0 => ?_) (fun z0 => ?_)
    · rw [if_pos z0] at hk
      exact h_iconst dL_isTrue_13 rfl (h_ireturn dL_isTrue_14 rfl rfl (Nat.le_refl _) (Nat.le_refl _) hk)
    · rw [if_neg z0] at hk
      exact h_iconst dL_isTrue_9 rfl (h_goto (tgt := 14) dL_isTrue_10 rfl (h_ireturn dL_isTrue_14 rfl rfl (Nat.le_refl _) (Nat.le_refl _) hk))
  · obtain ⟨i, c, he, hk⟩ := h
    rcases i with _ | i
    · have he : some ("java/lang/IndexOutOfBoundsException", (-11 : Int32)) = some (E, c) := he
      cases he
      exact ⟨15, ⟨[], (0, 14, 15, 31), [(0, 14, 19, 22)], rfl, fun _ h => absurd h List.not_mem_nil, List.forall_mem_cons.mpr ⟨⟨rfl, by decide, rfl, w_625, ca_IOB⟩, fun _ h => absurd h List.not_mem_nil⟩⟩, fun q => h_astore_n (i := 3) dL_isTrue_15 rfl rfl (Nat.le_of_ble_eq_true rfl) rfl (h_bipush dL_isTrue_16 rfl (h_ireturn dL_isTrue_18 rfl rfl (Nat.le_refl _) (Nat.le_refl _) hk))⟩
    · skip
      rcases i with _ | i
      · have he : some ("java/util/NoSuchElementException", (-13 : Int32)) = some (E, c) := he
        cases he
        exact ⟨19, ⟨[(0, 14, 15, 31)], (0, 14, 19, 22), [], rfl, List.forall_mem_cons.mpr ⟨⟨by decide, _, w_625, nk _ _ (by decide) (by decide) (by decide)⟩, fun _ h => absurd h List.not_mem_nil⟩, List.forall_mem_cons.mpr ⟨⟨rfl, by decide, rfl, w_646, ca_NSE⟩, fun _ h => absurd h List.not_mem_nil⟩⟩, fun q => h_astore_n (i := 3) dL_isTrue_19 rfl rfl (Nat.le_of_ble_eq_true rfl) rfl (h_bipush dL_isTrue_20 rfl (h_ireturn dL_isTrue_22 rfl rfl (Nat.le_refl _) (Nat.le_refl _) hk))⟩
      · have he : (none : Option (String × Int32)) = some (E, c) := he
        cases he
theorem hL_bySteps_run {G : GG} (gk : GOK G) (nk : NOK G) {σ : Mm} {x : Nat} {p0 p1 : Int32} {K : RES → Mm → Prop} (hx : (mt σ x).1 = 9) (hrun : Runs G mX8_isTrueBySteps rX8_isTrueBySteps [vR (some x), vI p0, vI p1] σ (HQ zo K [("java/lang/IndexOutOfBoundsException", (-11 : Int32)), ("java/util/NoSuchElementException", (-13 : Int32))])) : RunsH G mL_bySteps hL_bySteps rL_bySteps [vR (some x), vI p0, vI p1] σ K := by
  refine RunsH.of (by decide +kernel) rfl (Nat.le_of_ble_eq_true rfl) ?_
  refine h_aload_n (i := 0) dL_bySteps_0 rfl rfl ?_
  refine h_iload_n (i := 1) dL_bySteps_1 rfl rfl ?_
  refine h_iload_n (i := 2) dL_bySteps_2 rfl rfl ?_
  refine h_callV (ci := 8) (Y := mX8_isTrueBySteps) (rmY := rX8_isTrueBySteps) (as := [vI p0, vI p1]) (S := []) gk dL_bySteps_3 gL_88 (by decide) rfl w_913 w_914 hx rfl rfl (Nat.le_of_ble_eq_true rfl) (by decide) ?_
  refine hrun.mono fun r t h => ?_
  rcases r with v | E
  · obtain ⟨z, rfl, hk⟩ := h
    unfold zo at hk
    refine h_if_eq (tgt := 13) dL_bySteps_6 rfl (fun z0 => ?_) (fun z0 => ?_)
    · rw [if_pos z0] at hk
      exact h_iconst dL_bySteps_13 rfl (h_ireturn dL_bySteps_14 rfl rfl (Nat.le_refl _) (Nat.le_refl _) hk)
    · rw [if_neg z0] at hk
      exact h_iconst dL_bySteps_9 rfl (h_goto (tgt := 14) dL_bySteps_10 rfl (h_ireturn dL_bySteps_14 rfl rfl (Nat.le_refl _) (Nat.le_refl _) hk))
  · obtain ⟨i, c, he, hk⟩ := h
    rcases i with _ | i
    · have he : some ("java/lang/IndexOutOfBoundsException", (-11 : Int32)) = some (E, c) := he
      cases he
      exact ⟨15, ⟨[], (0, 14, 15, 31), [(0, 14, 19, 22)], rfl, fun _ h => absurd h List.not_mem_nil, List.forall_mem_cons.mpr ⟨⟨rfl, by decide, rfl, w_625, ca_IOB⟩, fun _ h => absurd h List.not_mem_nil⟩⟩, fun q => h_astore_n (i := 3) dL_bySteps_15 rfl rfl (Nat.le_of_ble_eq_true rfl) rfl (h_bipush dL_bySteps_16 rfl (h_ireturn dL_bySteps_18 rfl rfl (Nat.le_refl _) (Nat.le_refl _) hk))⟩
    · skip
      rcases i with _ | i
      · have he : some ("java/util/NoSuchElementException", (-13 : Int32)) = some (E, c) := he
        cases he
        exact ⟨19, ⟨[(0, 14, 15, 31)], (0, 14, 19, 22), [], rfl, List.forall_mem_cons.mpr ⟨⟨by decide, _, w_625, nk _ _ (by decide) (by decide) (by decide)⟩, fun _ h => absurd h List.not_mem_nil⟩, List.forall_mem_cons.mpr ⟨⟨rfl, by decide, rfl, w_646, ca_NSE⟩, fun _ h => absurd h List.not_mem_nil⟩⟩, fun q => h_astore_n (i := 3) dL_bySteps_19 rfl rfl (Nat.le_of_ble_eq_true rfl) rfl (h_bipush dL_bySteps_20 rfl (h_ireturn dL_bySteps_22 rfl rfl (Nat.le_refl _) (Nat.le_refl _) hk))⟩
      · have he : (none : Option (String × Int32)) = some (E, c) := he
        cases he
theorem hL_victimOf_run {G : GG} (gk : GOK G) (nk : NOK G) {σ : Mm} {x : Nat} {p0 : Int32} {K : RES → Mm → Prop} (hx : (mt σ x).1 = 9) (hrun : Runs G mX8_victimOf rX8_victimOf [vR (some x), vI p0] σ (HQ idI K [("java/lang/IndexOutOfBoundsException", (-11 : Int32)), ("java/util/NoSuchElementException", (-13 : Int32))])) : RunsH G mL_victimOf hL_victimOf rL_victimOf [vR (some x), vI p0] σ K := by
  refine RunsH.of (by decide +kernel) rfl (Nat.le_of_ble_eq_true rfl) ?_
  refine h_aload_n (i := 0) dL_victimOf_0 rfl rfl ?_
  refine h_iload_n (i := 1) dL_victimOf_1 rfl rfl ?_
  refine h_callV (ci := 8) (Y := mX8_victimOf) (rmY := rX8_victimOf) (as := [vI p0]) (S := []) gk dL_victimOf_2 gL_91 (by decide) rfl w_944 w_945 hx rfl rfl (Nat.le_of_ble_eq_true rfl) (by decide) ?_
  refine hrun.mono fun r t h => ?_
  rcases r with v | E
  · obtain ⟨z, rfl, hk⟩ := h
    exact h_ireturn dL_victimOf_5 rfl rfl (Nat.le_refl _) (Nat.le_refl _) hk
  · obtain ⟨i, c, he, hk⟩ := h
    rcases i with _ | i
    · have he : some ("java/lang/IndexOutOfBoundsException", (-11 : Int32)) = some (E, c) := he
      cases he
      exact ⟨6, ⟨[], (0, 5, 6, 31), [(0, 5, 10, 22)], rfl, fun _ h => absurd h List.not_mem_nil, List.forall_mem_cons.mpr ⟨⟨rfl, by decide, rfl, w_625, ca_IOB⟩, fun _ h => absurd h List.not_mem_nil⟩⟩, fun q => h_astore_n (i := 2) dL_victimOf_6 rfl rfl (Nat.le_of_ble_eq_true rfl) rfl (h_bipush dL_victimOf_7 rfl (h_ireturn dL_victimOf_9 rfl rfl (Nat.le_refl _) (Nat.le_refl _) hk))⟩
    · skip
      rcases i with _ | i
      · have he : some ("java/util/NoSuchElementException", (-13 : Int32)) = some (E, c) := he
        cases he
        exact ⟨10, ⟨[(0, 5, 6, 31)], (0, 5, 10, 22), [], rfl, List.forall_mem_cons.mpr ⟨⟨by decide, _, w_625, nk _ _ (by decide) (by decide) (by decide)⟩, fun _ h => absurd h List.not_mem_nil⟩, List.forall_mem_cons.mpr ⟨⟨rfl, by decide, rfl, w_646, ca_NSE⟩, fun _ h => absurd h List.not_mem_nil⟩⟩, fun q => h_astore_n (i := 2) dL_victimOf_10 rfl rfl (Nat.le_of_ble_eq_true rfl) rfl (h_bipush dL_victimOf_11 rfl (h_ireturn dL_victimOf_13 rfl rfl (Nat.le_refl _) (Nat.le_refl _) hk))⟩
      · have he : (none : Option (String × Int32)) = some (E, c) := he
        cases he
theorem hL_byScan_run {G : GG} (gk : GOK G) (nk : NOK G) {σ : Mm} {x : Nat} {p0 : Int32} {K : RES → Mm → Prop} (hx : (mt σ x).1 = 9) (hrun : Runs G mX8_victimByScan rX8_victimByScan [vR (some x), vI p0] σ (HQ idI K [("java/lang/IndexOutOfBoundsException", (-11 : Int32)), ("java/util/NoSuchElementException", (-13 : Int32))])) : RunsH G mL_byScan hL_byScan rL_byScan [vR (some x), vI p0] σ K := by
  refine RunsH.of (by decide +kernel) rfl (Nat.le_of_ble_eq_true rfl) ?_
  refine h_aload_n (i := 0) dL_byScan_0 rfl rfl ?_
  refine h_iload_n (i := 1) dL_byScan_1 rfl rfl ?_
  refine h_callV (ci := 8) (Y := mX8_victimByScan) (rmY := rX8_victimByScan) (as := [vI p0]) (S := []) gk dL_byScan_2 gL_94 (by decide) rfl w_968 w_969 hx rfl rfl (Nat.le_of_ble_eq_true rfl) (by decide) ?_
  refine hrun.mono fun r t h => ?_
  rcases r with v | E
  · obtain ⟨z, rfl, hk⟩ := h
    exact h_ireturn dL_byScan_5 rfl rfl (Nat.le_refl _) (Nat.le_refl _) hk
  · obtain ⟨i, c, he, hk⟩ := h
    rcases i with _ | i
    · have he : some ("java/lang/IndexOutOfBoundsException", (-11 : Int32)) = some (E, c) := he
      cases he
      exact ⟨6, ⟨[], (0, 5, 6, 31), [(0, 5, 10, 22)], rfl, fun _ h => absurd h List.not_mem_nil, List.forall_mem_cons.mpr ⟨⟨rfl, by decide, rfl, w_625, ca_IOB⟩, fun _ h => absurd h List.not_mem_nil⟩⟩, fun q => h_astore_n (i := 2) dL_byScan_6 rfl rfl (Nat.le_of_ble_eq_true rfl) rfl (h_bipush dL_byScan_7 rfl (h_ireturn dL_byScan_9 rfl rfl (Nat.le_refl _) (Nat.le_refl _) hk))⟩
    · skip
      rcases i with _ | i
      · have he : some ("java/util/NoSuchElementException", (-13 : Int32)) = some (E, c) := he
        cases he
        exact ⟨10, ⟨[(0, 5, 6, 31)], (0, 5, 10, 22), [], rfl, List.forall_mem_cons.mpr ⟨⟨by decide, _, w_625, nk _ _ (by decide) (by decide) (by decide)⟩, fun _ h => absurd h List.not_mem_nil⟩, List.forall_mem_cons.mpr ⟨⟨rfl, by decide, rfl, w_646, ca_NSE⟩, fun _ h => absurd h List.not_mem_nil⟩⟩, fun q => h_astore_n (i := 2) dL_byScan_10 rfl rfl (Nat.le_of_ble_eq_true rfl) rfl (h_bipush dL_byScan_11 rfl (h_ireturn dL_byScan_13 rfl rfl (Nat.le_refl _) (Nat.le_refl _) hk))⟩
      · have he : (none : Option (String × Int32)) = some (E, c) := he
        cases he
theorem hL_hear_run {G : GG} (gk : GOK G) (nk : NOK G) {σ : Mm} {x : Nat} {p0 p1 : Int32} {K : RES → Mm → Prop} (hx : (mt σ x).1 = 9) (hrun : Runs G mX8_hear rX8_hear [vR (some x), vI p0, vI p1] σ (HQ idI K [("java/lang/IndexOutOfBoundsException", (-1 : Int32)), ("java/util/NoSuchElementException", (-2 : Int32))])) : RunsH G mL_hear hL_hear rL_hear [vR (some x), vI p0, vI p1] σ K := by
  refine RunsH.of (by decide +kernel) rfl (Nat.le_of_ble_eq_true rfl) ?_
  refine h_aload_n (i := 0) dL_hear_0 rfl rfl ?_
  refine h_iload_n (i := 1) dL_hear_1 rfl rfl ?_
  refine h_iload_n (i := 2) dL_hear_2 rfl rfl ?_
  refine h_callV (ci := 8) (Y := mX8_hear) (rmY := rX8_hear) (as := [vI p0, vI p1]) (S := []) gk dL_hear_3 gL_97 (by decide) rfl w_648 w_649 hx rfl rfl (Nat.le_of_ble_eq_true rfl) (by decide) ?_
  refine hrun.mono fun r t h => ?_
  rcases r with v | E
  · obtain ⟨z, rfl, hk⟩ := h
    exact h_ireturn dL_hear_6 rfl rfl (Nat.le_refl _) (Nat.le_refl _) hk
  · obtain ⟨i, c, he, hk⟩ := h
    rcases i with _ | i
    · have he : some ("java/lang/IndexOutOfBoundsException", (-1 : Int32)) = some (E, c) := he
      cases he
      exact ⟨7, ⟨[], (0, 6, 7, 31), [(0, 6, 10, 22)], rfl, fun _ h => absurd h List.not_mem_nil, List.forall_mem_cons.mpr ⟨⟨rfl, by decide, rfl, w_625, ca_IOB⟩, fun _ h => absurd h List.not_mem_nil⟩⟩, fun q => h_astore_n (i := 3) dL_hear_7 rfl rfl (Nat.le_of_ble_eq_true rfl) rfl (h_iconst dL_hear_8 rfl (h_ireturn dL_hear_9 rfl rfl (Nat.le_refl _) (Nat.le_refl _) hk))⟩
    · skip
      rcases i with _ | i
      · have he : some ("java/util/NoSuchElementException", (-2 : Int32)) = some (E, c) := he
        cases he
        exact ⟨10, ⟨[(0, 6, 7, 31)], (0, 6, 10, 22), [], rfl, List.forall_mem_cons.mpr ⟨⟨by decide, _, w_625, nk _ _ (by decide) (by decide) (by decide)⟩, fun _ h => absurd h List.not_mem_nil⟩, List.forall_mem_cons.mpr ⟨⟨rfl, by decide, rfl, w_646, ca_NSE⟩, fun _ h => absurd h List.not_mem_nil⟩⟩, fun q => h_astore_n (i := 3) dL_hear_10 rfl rfl (Nat.le_of_ble_eq_true rfl) rfl (h_bipush dL_hear_11 rfl (h_ireturn dL_hear_13 rfl rfl (Nat.le_refl _) (Nat.le_refl _) hk))⟩
      · have he : (none : Option (String × Int32)) = some (E, c) := he
        cases he
theorem hL_outcome_run {G : GG} (gk : GOK G) (nk : NOK G) {σ : Mm} {x : Nat} {p0 p1 : Int32} {K : RES → Mm → Prop} (hx : (mt σ x).1 = 9) (hrun : Runs G mX8_outcomeOf rX8_outcomeOf [vR (some x), vI p0, vI p1] σ (HQ idI K [("java/lang/IndexOutOfBoundsException", (-11 : Int32)), ("java/util/NoSuchElementException", (-13 : Int32))])) : RunsH G mL_outcome hL_outcome rL_outcome [vR (some x), vI p0, vI p1] σ K := by
  refine RunsH.of (by decide +kernel) rfl (Nat.le_of_ble_eq_true rfl) ?_
  refine h_aload_n (i := 0) dL_outcome_0 rfl rfl ?_
  refine h_iload_n (i := 1) dL_outcome_1 rfl rfl ?_
  refine h_iload_n (i := 2) dL_outcome_2 rfl rfl ?_
  refine h_callV (ci := 8) (Y := mX8_outcomeOf) (rmY := rX8_outcomeOf) (as := [vI p0, vI p1]) (S := []) gk dL_outcome_3 gL_100 (by decide) rfl w_936 w_937 hx rfl rfl (Nat.le_of_ble_eq_true rfl) (by decide) ?_
  refine hrun.mono fun r t h => ?_
  rcases r with v | E
  · obtain ⟨z, rfl, hk⟩ := h
    exact h_ireturn dL_outcome_6 rfl rfl (Nat.le_refl _) (Nat.le_refl _) hk
  · obtain ⟨i, c, he, hk⟩ := h
    rcases i with _ | i
    · have he : some ("java/lang/IndexOutOfBoundsException", (-11 : Int32)) = some (E, c) := he
      cases he
      exact ⟨7, ⟨[], (0, 6, 7, 31), [(0, 6, 11, 22)], rfl, fun _ h => absurd h List.not_mem_nil, List.forall_mem_cons.mpr ⟨⟨rfl, by decide, rfl, w_625, ca_IOB⟩, fun _ h => absurd h List.not_mem_nil⟩⟩, fun q => h_astore_n (i := 3) dL_outcome_7 rfl rfl (Nat.le_of_ble_eq_true rfl) rfl (h_bipush dL_outcome_8 rfl (h_ireturn dL_outcome_10 rfl rfl (Nat.le_refl _) (Nat.le_refl _) hk))⟩
    · skip
      rcases i with _ | i
      · have he : some ("java/util/NoSuchElementException", (-13 : Int32)) = some (E, c) := he
        cases he
        exact ⟨11, ⟨[(0, 6, 7, 31)], (0, 6, 11, 22), [], rfl, List.forall_mem_cons.mpr ⟨⟨by decide, _, w_625, nk _ _ (by decide) (by decide) (by decide)⟩, fun _ h => absurd h List.not_mem_nil⟩, List.forall_mem_cons.mpr ⟨⟨rfl, by decide, rfl, w_646, ca_NSE⟩, fun _ h => absurd h List.not_mem_nil⟩⟩, fun q => h_astore_n (i := 3) dL_outcome_11 rfl rfl (Nat.le_of_ble_eq_true rfl) rfl (h_bipush dL_outcome_12 rfl (h_ireturn dL_outcome_14 rfl rfl (Nat.le_refl _) (Nat.le_refl _) hk))⟩
      · have he : (none : Option (String × Int32)) = some (E, c) := he
        cases he
theorem hL_warm_run {G : GG} (gk : GOK G) (nk : NOK G) {σ : Mm} {x : Nat} {p0 p1 p2 : Int32} {K : RES → Mm → Prop} (hx : (mt σ x).1 = 9) (hrun : Runs G mX8_warm rX8_warm [vR (some x), vI p0, vI p1, vI p2] σ (HQ idI K [("java/lang/IndexOutOfBoundsException", (-1 : Int32)), ("java/util/NoSuchElementException", (-2 : Int32)), ("java/lang/IllegalArgumentException", (-3 : Int32)), ("java/lang/IllegalStateException", (-4 : Int32))])) : RunsH G mL_warm hL_warm rL_warm [vR (some x), vI p0, vI p1, vI p2] σ K := by
  refine RunsH.of (by decide +kernel) rfl (Nat.le_of_ble_eq_true rfl) ?_
  refine h_aload_n (i := 0) dL_warm_0 rfl rfl ?_
  refine h_iload_n (i := 1) dL_warm_1 rfl rfl ?_
  refine h_iload_n (i := 2) dL_warm_2 rfl rfl ?_
  refine h_iload_n (i := 3) dL_warm_3 rfl rfl ?_
  refine h_callV (ci := 8) (Y := mX8_warm) (rmY := rX8_warm) (as := [vI p0, vI p1, vI p2]) (S := []) gk dL_warm_4 gL_104 (by decide) rfl w_743 w_744 hx rfl rfl (Nat.le_of_ble_eq_true rfl) (by decide) ?_
  refine hrun.mono fun r t h => ?_
  rcases r with v | E
  · obtain ⟨z, rfl, hk⟩ := h
    exact h_ireturn dL_warm_7 rfl rfl (Nat.le_refl _) (Nat.le_refl _) hk
  · obtain ⟨i, c, he, hk⟩ := h
    rcases i with _ | i
    · have he : some ("java/lang/IndexOutOfBoundsException", (-1 : Int32)) = some (E, c) := he
      cases he
      exact ⟨8, ⟨[], (0, 7, 8, 31), [(0, 7, 12, 22), (0, 7, 17, 14), (0, 7, 22, 16)], rfl, fun _ h => absurd h List.not_mem_nil, List.forall_mem_cons.mpr ⟨⟨rfl, by decide, rfl, w_625, ca_IOB⟩, fun _ h => absurd h List.not_mem_nil⟩⟩, fun q => h_astore dL_warm_8 rfl (Nat.le_of_ble_eq_true rfl) rfl (h_iconst dL_warm_10 rfl (h_ireturn dL_warm_11 rfl rfl (Nat.le_refl _) (Nat.le_refl _) hk))⟩
    · skip
      rcases i with _ | i
      · have he : some ("java/util/NoSuchElementException", (-2 : Int32)) = some (E, c) := he
        cases he
        exact ⟨12, ⟨[(0, 7, 8, 31)], (0, 7, 12, 22), [(0, 7, 17, 14), (0, 7, 22, 16)], rfl, List.forall_mem_cons.mpr ⟨⟨by decide, _, w_625, nk _ _ (by decide) (by decide) (by decide)⟩, fun _ h => absurd h List.not_mem_nil⟩, List.forall_mem_cons.mpr ⟨⟨rfl, by decide, rfl, w_646, ca_NSE⟩, fun _ h => absurd h List.not_mem_nil⟩⟩, fun q => h_astore dL_warm_12 rfl (Nat.le_of_ble_eq_true rfl) rfl (h_bipush dL_warm_14 rfl (h_ireturn dL_warm_16 rfl rfl (Nat.le_refl _) (Nat.le_refl _) hk))⟩
      · skip
        rcases i with _ | i
        · have he : some ("java/lang/IllegalArgumentException", (-3 : Int32)) = some (E, c) := he
          cases he
          exact ⟨17, ⟨[(0, 7, 8, 31), (0, 7, 12, 22)], (0, 7, 17, 14), [(0, 7, 22, 16)], rfl, List.forall_mem_cons.mpr ⟨⟨by decide, _, w_625, nk _ _ (by decide) (by decide) (by decide)⟩, List.forall_mem_cons.mpr ⟨⟨by decide, _, w_646, nk _ _ (by decide) (by decide) (by decide)⟩, fun _ h => absurd h List.not_mem_nil⟩⟩, List.forall_mem_cons.mpr ⟨⟨rfl, by decide, rfl, w_368, ca_IAE⟩, fun _ h => absurd h List.not_mem_nil⟩⟩, fun q => h_astore dL_warm_17 rfl (Nat.le_of_ble_eq_true rfl) rfl (h_bipush dL_warm_19 rfl (h_ireturn dL_warm_21 rfl rfl (Nat.le_refl _) (Nat.le_refl _) hk))⟩
        · skip
          rcases i with _ | i
          · have he : some ("java/lang/IllegalStateException", (-4 : Int32)) = some (E, c) := he
            cases he
            exact ⟨22, ⟨[(0, 7, 8, 31), (0, 7, 12, 22), (0, 7, 17, 14)], (0, 7, 22, 16), [], rfl, List.forall_mem_cons.mpr ⟨⟨by decide, _, w_625, nk _ _ (by decide) (by decide) (by decide)⟩, List.forall_mem_cons.mpr ⟨⟨by decide, _, w_646, nk _ _ (by decide) (by decide) (by decide)⟩, List.forall_mem_cons.mpr ⟨⟨by decide, _, w_368, nk _ _ (by decide) (by decide) (by decide)⟩, fun _ h => absurd h List.not_mem_nil⟩⟩⟩, List.forall_mem_cons.mpr ⟨⟨rfl, by decide, rfl, w_369, ca_ISE⟩, fun _ h => absurd h List.not_mem_nil⟩⟩, fun q => h_astore dL_warm_22 rfl (Nat.le_of_ble_eq_true rfl) rfl (h_bipush dL_warm_24 rfl (h_ireturn dL_warm_26 rfl rfl (Nat.le_refl _) (Nat.le_refl _) hk))⟩
          · have he : (none : Option (String × Int32)) = some (E, c) := he
            cases he
theorem hL_cancel_run {G : GG} (gk : GOK G) (nk : NOK G) {σ : Mm} {x : Nat} {p0 : Int32} {K : RES → Mm → Prop} (hx : (mt σ x).1 = 9) (hrun : Runs G mX8_cancelWarming rX8_cancelWarming [vR (some x), vI p0] σ (HQ idI K [("java/lang/IndexOutOfBoundsException", (-1 : Int32))])) : RunsH G mL_cancel hL_cancel rL_cancel [vR (some x), vI p0] σ K := by
  refine RunsH.of (by decide +kernel) rfl (Nat.le_of_ble_eq_true rfl) ?_
  refine h_aload_n (i := 0) dL_cancel_0 rfl rfl ?_
  refine h_iload_n (i := 1) dL_cancel_1 rfl rfl ?_
  refine h_callV (ci := 8) (Y := mX8_cancelWarming) (rmY := rX8_cancelWarming) (as := [vI p0]) (S := []) gk dL_cancel_2 gL_108 (by decide) rfl w_1424 w_1425 hx rfl rfl (Nat.le_of_ble_eq_true rfl) (by decide) ?_
  refine hrun.mono fun r t h => ?_
  rcases r with v | E
  · obtain ⟨z, rfl, hk⟩ := h
    exact h_ireturn dL_cancel_5 rfl rfl (Nat.le_refl _) (Nat.le_refl _) hk
  · obtain ⟨i, c, he, hk⟩ := h
    rcases i with _ | i
    · have he : some ("java/lang/IndexOutOfBoundsException", (-1 : Int32)) = some (E, c) := he
      cases he
      exact ⟨6, ⟨[], (0, 5, 6, 31), [], rfl, fun _ h => absurd h List.not_mem_nil, List.forall_mem_cons.mpr ⟨⟨rfl, by decide, rfl, w_625, ca_IOB⟩, fun _ h => absurd h List.not_mem_nil⟩⟩, fun q => h_astore_n (i := 2) dL_cancel_6 rfl rfl (Nat.le_of_ble_eq_true rfl) rfl (h_iconst dL_cancel_7 rfl (h_ireturn dL_cancel_8 rfl rfl (Nat.le_refl _) (Nat.le_refl _) hk))⟩
    · have he : (none : Option (String × Int32)) = some (E, c) := he
      cases he
theorem hL_pass_run {G : GG} (gk : GOK G) (nk : NOK G) {σ : Mm} {x : Nat} {p0 : Int32} {K : RES → Mm → Prop} (hx : (mt σ x).1 = 9) (hrun : Runs G mX8_pass rX8_pass [vR (some x), vI p0] σ (HQ idI K [("java/lang/IllegalArgumentException", (-1 : Int32))])) : RunsH G mL_pass hL_pass rL_pass [vR (some x), vI p0] σ K := by
  refine RunsH.of (by decide +kernel) rfl (Nat.le_of_ble_eq_true rfl) ?_
  refine h_aload_n (i := 0) dL_pass_0 rfl rfl ?_
  refine h_iload_n (i := 1) dL_pass_1 rfl rfl ?_
  refine h_callV (ci := 8) (Y := mX8_pass) (rmY := rX8_pass) (as := [vI p0]) (S := []) gk dL_pass_2 gL_111 (by decide) rfl w_771 w_772 hx rfl rfl (Nat.le_of_ble_eq_true rfl) (by decide) ?_
  refine hrun.mono fun r t h => ?_
  rcases r with v | E
  · obtain ⟨z, rfl, hk⟩ := h
    exact h_ireturn dL_pass_5 rfl rfl (Nat.le_refl _) (Nat.le_refl _) hk
  · obtain ⟨i, c, he, hk⟩ := h
    rcases i with _ | i
    · have he : some ("java/lang/IllegalArgumentException", (-1 : Int32)) = some (E, c) := he
      cases he
      exact ⟨6, ⟨[], (0, 5, 6, 14), [], rfl, fun _ h => absurd h List.not_mem_nil, List.forall_mem_cons.mpr ⟨⟨rfl, by decide, rfl, w_368, ca_IAE⟩, fun _ h => absurd h List.not_mem_nil⟩⟩, fun q => h_astore_n (i := 2) dL_pass_6 rfl rfl (Nat.le_of_ble_eq_true rfl) rfl (h_iconst dL_pass_7 rfl (h_ireturn dL_pass_8 rfl rfl (Nat.le_refl _) (Nat.le_refl _) hk))⟩
    · have he : (none : Option (String × Int32)) = some (E, c) := he
      cases he
theorem hL_minuteAt_run {G : GG} (gk : GOK G) (nk : NOK G) {σ : Mm} {x : Nat} {p0 : Int32} {K : RES → Mm → Prop} (hx : (mt σ x).1 = 9) (hrun : Runs G mX8_warmingMinute rX8_warmingMinute [vR (some x), vI p0] σ (HQ idI K [("java/lang/IndexOutOfBoundsException", (-11 : Int32))])) : RunsH G mL_minuteAt hL_minuteAt rL_minuteAt [vR (some x), vI p0] σ K := by
  refine RunsH.of (by decide +kernel) rfl (Nat.le_of_ble_eq_true rfl) ?_
  refine h_aload_n (i := 0) dL_minuteAt_0 rfl rfl ?_
  refine h_iload_n (i := 1) dL_minuteAt_1 rfl rfl ?_
  refine h_callV (ci := 8) (Y := mX8_warmingMinute) (rmY := rX8_warmingMinute) (as := [vI p0]) (S := []) gk dL_minuteAt_2 gL_114 (by decide) rfl w_1038 w_1039 hx rfl rfl (Nat.le_of_ble_eq_true rfl) (by decide) ?_
  refine hrun.mono fun r t h => ?_
  rcases r with v | E
  · obtain ⟨z, rfl, hk⟩ := h
    exact h_ireturn dL_minuteAt_5 rfl rfl (Nat.le_refl _) (Nat.le_refl _) hk
  · obtain ⟨i, c, he, hk⟩ := h
    rcases i with _ | i
    · have he : some ("java/lang/IndexOutOfBoundsException", (-11 : Int32)) = some (E, c) := he
      cases he
      exact ⟨6, ⟨[], (0, 5, 6, 31), [], rfl, fun _ h => absurd h List.not_mem_nil, List.forall_mem_cons.mpr ⟨⟨rfl, by decide, rfl, w_625, ca_IOB⟩, fun _ h => absurd h List.not_mem_nil⟩⟩, fun q => h_astore_n (i := 2) dL_minuteAt_6 rfl rfl (Nat.le_of_ble_eq_true rfl) rfl (h_bipush dL_minuteAt_7 rfl (h_ireturn dL_minuteAt_9 rfl rfl (Nat.le_refl _) (Nat.le_refl _) hk))⟩
    · have he : (none : Option (String × Int32)) = some (E, c) := he
      cases he
theorem hL_warmedAt_run {G : GG} (gk : GOK G) (nk : NOK G) {σ : Mm} {x : Nat} {p0 : Int32} {K : RES → Mm → Prop} (hx : (mt σ x).1 = 9) (hrun : Runs G mX8_warmingJar rX8_warmingJar [vR (some x), vI p0] σ (HQ idI K [("java/lang/IndexOutOfBoundsException", (-11 : Int32))])) : RunsH G mL_warmedAt hL_warmedAt rL_warmedAt [vR (some x), vI p0] σ K := by
  refine RunsH.of (by decide +kernel) rfl (Nat.le_of_ble_eq_true rfl) ?_
  refine h_aload_n (i := 0) dL_warmedAt_0 rfl rfl ?_
  refine h_iload_n (i := 1) dL_warmedAt_1 rfl rfl ?_
  refine h_callV (ci := 8) (Y := mX8_warmingJar) (rmY := rX8_warmingJar) (as := [vI p0]) (S := []) gk dL_warmedAt_2 gL_117 (by decide) rfl w_1054 w_1055 hx rfl rfl (Nat.le_of_ble_eq_true rfl) (by decide) ?_
  refine hrun.mono fun r t h => ?_
  rcases r with v | E
  · obtain ⟨z, rfl, hk⟩ := h
    exact h_ireturn dL_warmedAt_5 rfl rfl (Nat.le_refl _) (Nat.le_refl _) hk
  · obtain ⟨i, c, he, hk⟩ := h
    rcases i with _ | i
    · have he : some ("java/lang/IndexOutOfBoundsException", (-11 : Int32)) = some (E, c) := he
      cases he
      exact ⟨6, ⟨[], (0, 5, 6, 31), [], rfl, fun _ h => absurd h List.not_mem_nil, List.forall_mem_cons.mpr ⟨⟨rfl, by decide, rfl, w_625, ca_IOB⟩, fun _ h => absurd h List.not_mem_nil⟩⟩, fun q => h_astore_n (i := 2) dL_warmedAt_6 rfl rfl (Nat.le_of_ble_eq_true rfl) rfl (h_bipush dL_warmedAt_7 rfl (h_ireturn dL_warmedAt_9 rfl rfl (Nat.le_refl _) (Nat.le_refl _) hk))⟩
    · have he : (none : Option (String × Int32)) = some (E, c) := he
      cases he
theorem hL_misses_run {G : GG} (gk : GOK G) (nk : NOK G) {σ : Mm} {x : Nat} {p0 : Int32} {K : RES → Mm → Prop} (hx : (mt σ x).1 = 9) (hrun : Runs G mX8_misses rX8_misses [vR (some x), vI p0] σ (HQ idI K [("java/lang/IllegalArgumentException", (-12 : Int32))])) : RunsH G mL_misses hL_misses rL_misses [vR (some x), vI p0] σ K := by
  refine RunsH.of (by decide +kernel) rfl (Nat.le_of_ble_eq_true rfl) ?_
  refine h_aload_n (i := 0) dL_misses_0 rfl rfl ?_
  refine h_iload_n (i := 1) dL_misses_1 rfl rfl ?_
  refine h_callV (ci := 8) (Y := mX8_misses) (rmY := rX8_misses) (as := [vI p0]) (S := []) gk dL_misses_2 gL_120 (by decide) rfl w_1065 w_1066 hx rfl rfl (Nat.le_of_ble_eq_true rfl) (by decide) ?_
  refine hrun.mono fun r t h => ?_
  rcases r with v | E
  · obtain ⟨z, rfl, hk⟩ := h
    exact h_ireturn dL_misses_5 rfl rfl (Nat.le_refl _) (Nat.le_refl _) hk
  · obtain ⟨i, c, he, hk⟩ := h
    rcases i with _ | i
    · have he : some ("java/lang/IllegalArgumentException", (-12 : Int32)) = some (E, c) := he
      cases he
      exact ⟨6, ⟨[], (0, 5, 6, 14), [], rfl, fun _ h => absurd h List.not_mem_nil, List.forall_mem_cons.mpr ⟨⟨rfl, by decide, rfl, w_368, ca_IAE⟩, fun _ h => absurd h List.not_mem_nil⟩⟩, fun q => h_astore_n (i := 2) dL_misses_6 rfl rfl (Nat.le_of_ble_eq_true rfl) rfl (h_bipush dL_misses_7 rfl (h_ireturn dL_misses_9 rfl rfl (Nat.le_refl _) (Nat.le_refl _) hk))⟩
    · have he : (none : Option (String × Int32)) = some (E, c) := he
      cases he
theorem hL_byHits_run {G : GG} (gk : GOK G) (nk : NOK G) {σ : Mm} {x : Nat} {p0 : Int32} {K : RES → Mm → Prop} (hx : (mt σ x).1 = 9) (hrun : Runs G mX8_shelfByHits rX8_shelfByHits [vR (some x), vI p0] σ (HQ idI K [("java/util/NoSuchElementException", (-13 : Int32))])) : RunsH G mL_byHits hL_byHits rL_byHits [vR (some x), vI p0] σ K := by
  refine RunsH.of (by decide +kernel) rfl (Nat.le_of_ble_eq_true rfl) ?_
  refine h_aload_n (i := 0) dL_byHits_0 rfl rfl ?_
  refine h_iload_n (i := 1) dL_byHits_1 rfl rfl ?_
  refine h_callV (ci := 8) (Y := mX8_shelfByHits) (rmY := rX8_shelfByHits) (as := [vI p0]) (S := []) gk dL_byHits_2 gL_123 (by decide) rfl w_1073 w_1074 hx rfl rfl (Nat.le_of_ble_eq_true rfl) (by decide) ?_
  refine hrun.mono fun r t h => ?_
  rcases r with v | E
  · obtain ⟨z, rfl, hk⟩ := h
    exact h_ireturn dL_byHits_5 rfl rfl (Nat.le_refl _) (Nat.le_refl _) hk
  · obtain ⟨i, c, he, hk⟩ := h
    rcases i with _ | i
    · have he : some ("java/util/NoSuchElementException", (-13 : Int32)) = some (E, c) := he
      cases he
      exact ⟨6, ⟨[], (0, 5, 6, 22), [], rfl, fun _ h => absurd h List.not_mem_nil, List.forall_mem_cons.mpr ⟨⟨rfl, by decide, rfl, w_646, ca_NSE⟩, fun _ h => absurd h List.not_mem_nil⟩⟩, fun q => h_astore_n (i := 2) dL_byHits_6 rfl rfl (Nat.le_of_ble_eq_true rfl) rfl (h_bipush dL_byHits_7 rfl (h_ireturn dL_byHits_9 rfl rfl (Nat.le_refl _) (Nat.le_refl _) hk))⟩
    · have he : (none : Option (String × Int32)) = some (E, c) := he
      cases he
theorem hL_writeShelf_run {G : GG} (gk : GOK G) (nk : NOK G) {σ : Mm} {x : Nat} {p0 : Int32} {K : RES → Mm → Prop} (hx : (mt σ x).1 = 9) (hrun : Runs G mX8_writeShelf rX8_writeShelf [vR (some x), vI p0] σ (HQ idI K [("java/lang/IndexOutOfBoundsException", (-11 : Int32))])) : RunsH G mL_writeShelf hL_writeShelf rL_writeShelf [vR (some x), vI p0] σ K := by
  refine RunsH.of (by decide +kernel) rfl (Nat.le_of_ble_eq_true rfl) ?_
  refine h_aload_n (i := 0) dL_writeShelf_0 rfl rfl ?_
  refine h_iload_n (i := 1) dL_writeShelf_1 rfl rfl ?_
  refine h_callV (ci := 8) (Y := mX8_writeShelf) (rmY := rX8_writeShelf) (as := [vI p0]) (S := []) gk dL_writeShelf_2 gL_126 (by decide) rfl w_1305 w_1306 hx rfl rfl (Nat.le_of_ble_eq_true rfl) (by decide) ?_
  refine hrun.mono fun r t h => ?_
  rcases r with v | E
  · obtain ⟨z, rfl, hk⟩ := h
    exact h_ireturn dL_writeShelf_5 rfl rfl (Nat.le_refl _) (Nat.le_refl _) hk
  · obtain ⟨i, c, he, hk⟩ := h
    rcases i with _ | i
    · have he : some ("java/lang/IndexOutOfBoundsException", (-11 : Int32)) = some (E, c) := he
      cases he
      exact ⟨6, ⟨[], (0, 5, 6, 31), [], rfl, fun _ h => absurd h List.not_mem_nil, List.forall_mem_cons.mpr ⟨⟨rfl, by decide, rfl, w_625, ca_IOB⟩, fun _ h => absurd h List.not_mem_nil⟩⟩, fun q => h_astore_n (i := 2) dL_writeShelf_6 rfl rfl (Nat.le_of_ble_eq_true rfl) rfl (h_bipush dL_writeShelf_7 rfl (h_ireturn dL_writeShelf_9 rfl rfl (Nat.le_refl _) (Nat.le_refl _) hk))⟩
    · have he : (none : Option (String × Int32)) = some (E, c) := he
      cases he
theorem hL_lineAt_run {G : GG} (gk : GOK G) (nk : NOK G) {σ : Mm} {x : Nat} {p0 : Int32} {K : RES → Mm → Prop} (hx : (mt σ x).1 = 9) (hrun : Runs G mX8_lineAt rX8_lineAt [vR (some x), vI p0] σ (HQ idI K [("java/lang/IndexOutOfBoundsException", (-11 : Int32))])) : RunsH G mL_lineAt hL_lineAt rL_lineAt [vR (some x), vI p0] σ K := by
  refine RunsH.of (by decide +kernel) rfl (Nat.le_of_ble_eq_true rfl) ?_
  refine h_aload_n (i := 0) dL_lineAt_0 rfl rfl ?_
  refine h_iload_n (i := 1) dL_lineAt_1 rfl rfl ?_
  refine h_callV (ci := 8) (Y := mX8_lineAt) (rmY := rX8_lineAt) (as := [vI p0]) (S := []) gk dL_lineAt_2 gL_129 (by decide) rfl w_1375 w_1376 hx rfl rfl (Nat.le_of_ble_eq_true rfl) (by decide) ?_
  refine hrun.mono fun r t h => ?_
  rcases r with v | E
  · obtain ⟨z, rfl, hk⟩ := h
    exact h_ireturn dL_lineAt_5 rfl rfl (Nat.le_refl _) (Nat.le_refl _) hk
  · obtain ⟨i, c, he, hk⟩ := h
    rcases i with _ | i
    · have he : some ("java/lang/IndexOutOfBoundsException", (-11 : Int32)) = some (E, c) := he
      cases he
      exact ⟨6, ⟨[], (0, 5, 6, 31), [], rfl, fun _ h => absurd h List.not_mem_nil, List.forall_mem_cons.mpr ⟨⟨rfl, by decide, rfl, w_625, ca_IOB⟩, fun _ h => absurd h List.not_mem_nil⟩⟩, fun q => h_astore_n (i := 2) dL_lineAt_6 rfl rfl (Nat.le_of_ble_eq_true rfl) rfl (h_bipush dL_lineAt_7 rfl (h_ireturn dL_lineAt_9 rfl rfl (Nat.le_refl _) (Nat.le_refl _) hk))⟩
    · have he : (none : Option (String × Int32)) = some (E, c) := he
      cases he
theorem hL_type_run {G : GG} (gk : GOK G) (nk : NOK G) {σ : Mm} {x : Nat} {p0 : Int32} {K : RES → Mm → Prop} (hx : (mt σ x).1 = 9) (hrun : Runs G mX8_type rX8_type [vR (some x), vI p0] σ (HQ idI K [("java/lang/IllegalArgumentException", (-12 : Int32)), ("java/lang/IllegalStateException", (-14 : Int32))])) : RunsH G mL_type hL_type rL_type [vR (some x), vI p0] σ K := by
  refine RunsH.of (by decide +kernel) rfl (Nat.le_of_ble_eq_true rfl) ?_
  refine h_aload_n (i := 0) dL_type_0 rfl rfl ?_
  refine h_iload_n (i := 1) dL_type_1 rfl rfl ?_
  refine h_callV (ci := 8) (Y := mX8_type) (rmY := rX8_type) (as := [vI p0]) (S := []) gk dL_type_2 gL_132 (by decide) rfl w_1441 w_1442 hx rfl rfl (Nat.le_of_ble_eq_true rfl) (by decide) ?_
  refine hrun.mono fun r t h => ?_
  rcases r with v | E
  · obtain ⟨z, rfl, hk⟩ := h
    exact h_ireturn dL_type_5 rfl rfl (Nat.le_refl _) (Nat.le_refl _) hk
  · obtain ⟨i, c, he, hk⟩ := h
    rcases i with _ | i
    · have he : some ("java/lang/IllegalArgumentException", (-12 : Int32)) = some (E, c) := he
      cases he
      exact ⟨6, ⟨[], (0, 5, 6, 14), [(0, 5, 10, 16)], rfl, fun _ h => absurd h List.not_mem_nil, List.forall_mem_cons.mpr ⟨⟨rfl, by decide, rfl, w_368, ca_IAE⟩, fun _ h => absurd h List.not_mem_nil⟩⟩, fun q => h_astore_n (i := 2) dL_type_6 rfl rfl (Nat.le_of_ble_eq_true rfl) rfl (h_bipush dL_type_7 rfl (h_ireturn dL_type_9 rfl rfl (Nat.le_refl _) (Nat.le_refl _) hk))⟩
    · skip
      rcases i with _ | i
      · have he : some ("java/lang/IllegalStateException", (-14 : Int32)) = some (E, c) := he
        cases he
        exact ⟨10, ⟨[(0, 5, 6, 14)], (0, 5, 10, 16), [], rfl, List.forall_mem_cons.mpr ⟨⟨by decide, _, w_368, nk _ _ (by decide) (by decide) (by decide)⟩, fun _ h => absurd h List.not_mem_nil⟩, List.forall_mem_cons.mpr ⟨⟨rfl, by decide, rfl, w_369, ca_ISE⟩, fun _ h => absurd h List.not_mem_nil⟩⟩, fun q => h_astore_n (i := 2) dL_type_10 rfl rfl (Nat.le_of_ble_eq_true rfl) rfl (h_bipush dL_type_11 rfl (h_ireturn dL_type_13 rfl rfl (Nat.le_refl _) (Nat.le_refl _) hk))⟩
      · have he : (none : Option (String × Int32)) = some (E, c) := he
        cases he
theorem hL_executes_run {G : GG} (gk : GOK G) (nk : NOK G) {σ : Mm} {x : Nat} {K : RES → Mm → Prop} (hx : (mt σ x).1 = 9) (hrun : Runs G mX8_execute rX8_execute [vR (some x)] σ (HQ idI K [("java/lang/IllegalArgumentException", (-1 : Int32)), ("java/lang/IllegalStateException", (-2 : Int32))])) : RunsH G mL_executes hL_executes rL_executes [vR (some x)] σ K := by
  refine RunsH.of (by decide +kernel) rfl (Nat.le_of_ble_eq_true rfl) ?_
  refine h_aload_n (i := 0) dL_executes_0 rfl rfl ?_
  refine h_callV (ci := 8) (Y := mX8_execute) (rmY := rX8_execute) (as := []) (S := []) gk dL_executes_1 gL_135 (by decide) rfl w_1454 w_1455 hx rfl rfl (Nat.le_of_ble_eq_true rfl) (by decide) ?_
  refine hrun.mono fun r t h => ?_
  rcases r with v | E
  · obtain ⟨z, rfl, hk⟩ := h
    exact h_ireturn dL_executes_4 rfl rfl (Nat.le_refl _) (Nat.le_refl _) hk
  · obtain ⟨i, c, he, hk⟩ := h
    rcases i with _ | i
    · have he : some ("java/lang/IllegalArgumentException", (-1 : Int32)) = some (E, c) := he
      cases he
      exact ⟨5, ⟨[], (0, 4, 5, 14), [(0, 4, 8, 16)], rfl, fun _ h => absurd h List.not_mem_nil, List.forall_mem_cons.mpr ⟨⟨rfl, by decide, rfl, w_368, ca_IAE⟩, fun _ h => absurd h List.not_mem_nil⟩⟩, fun q => h_astore_n (i := 1) dL_executes_5 rfl rfl (Nat.le_of_ble_eq_true rfl) rfl (h_iconst dL_executes_6 rfl (h_ireturn dL_executes_7 rfl rfl (Nat.le_refl _) (Nat.le_refl _) hk))⟩
    · skip
      rcases i with _ | i
      · have he : some ("java/lang/IllegalStateException", (-2 : Int32)) = some (E, c) := he
        cases he
        exact ⟨8, ⟨[(0, 4, 5, 14)], (0, 4, 8, 16), [], rfl, List.forall_mem_cons.mpr ⟨⟨by decide, _, w_368, nk _ _ (by decide) (by decide) (by decide)⟩, fun _ h => absurd h List.not_mem_nil⟩, List.forall_mem_cons.mpr ⟨⟨rfl, by decide, rfl, w_369, ca_ISE⟩, fun _ h => absurd h List.not_mem_nil⟩⟩, fun q => h_astore_n (i := 1) dL_executes_8 rfl rfl (Nat.le_of_ble_eq_true rfl) rfl (h_bipush dL_executes_9 rfl (h_ireturn dL_executes_11 rfl rfl (Nat.le_refl _) (Nat.le_refl _) hk))⟩
      · have he : (none : Option (String × Int32)) = some (E, c) := he
        cases he
theorem hL_undo_run {G : GG} (gk : GOK G) (nk : NOK G) {σ : Mm} {x : Nat} {K : RES → Mm → Prop} (hx : (mt σ x).1 = 9) (hrun : Runs G mX8_undo rX8_undo [vR (some x)] σ (HQ idI K [("java/lang/IllegalStateException", (-1 : Int32))])) : RunsH G mL_undo hL_undo rL_undo [vR (some x)] σ K := by
  refine RunsH.of (by decide +kernel) rfl (Nat.le_of_ble_eq_true rfl) ?_
  refine h_aload_n (i := 0) dL_undo_0 rfl rfl ?_
  refine h_callV (ci := 8) (Y := mX8_undo) (rmY := rX8_undo) (as := []) (S := []) gk dL_undo_1 gL_145 (by decide) rfl w_1547 w_1548 hx rfl rfl (Nat.le_of_ble_eq_true rfl) (by decide) ?_
  refine hrun.mono fun r t h => ?_
  rcases r with v | E
  · obtain ⟨z, rfl, hk⟩ := h
    exact h_ireturn dL_undo_4 rfl rfl (Nat.le_refl _) (Nat.le_refl _) hk
  · obtain ⟨i, c, he, hk⟩ := h
    rcases i with _ | i
    · have he : some ("java/lang/IllegalStateException", (-1 : Int32)) = some (E, c) := he
      cases he
      exact ⟨5, ⟨[], (0, 4, 5, 16), [], rfl, fun _ h => absurd h List.not_mem_nil, List.forall_mem_cons.mpr ⟨⟨rfl, by decide, rfl, w_369, ca_ISE⟩, fun _ h => absurd h List.not_mem_nil⟩⟩, fun q => h_astore_n (i := 1) dL_undo_5 rfl rfl (Nat.le_of_ble_eq_true rfl) rfl (h_iconst dL_undo_6 rfl (h_ireturn dL_undo_7 rfl rfl (Nat.le_refl _) (Nat.le_refl _) hk))⟩
    · have he : (none : Option (String × Int32)) = some (E, c) := he
      cases he
