/-! ===== the helpers run ===== -/
theorem hL_addJar_run {G : GG} (gk : GOK G) (nk : NOK G) {σ : Mm} {x o : Nat} {p0 p1 : Int32} {K : Int32 → Mm → Prop} (hx : (mt σ x).1 = 9) (hrun : Runs G mX8_addJar rX8_addJar [vR (some x), vI p0, vI p1] σ (HL K o ["java/lang/IllegalArgumentException", "java/lang/IllegalStateException"])) : RunsH G mL_addJar hL_addJar rL_addJar [vR (some x), vI p0, vI p1, vR (some o)] σ (HR K) := by
  refine RunsH.of (by decide +kernel) rfl (Nat.le_of_ble_eq_true rfl) ?_
  refine h_aload_n (i := 3) dL_addJar_0 rfl rfl ?_
  refine h_iconst dL_addJar_1 rfl ?_
  refine h_aload_n (i := 0) dL_addJar_2 rfl rfl ?_
  refine h_iload_n (i := 1) dL_addJar_3 rfl rfl ?_
  refine h_iload_n (i := 2) dL_addJar_4 rfl rfl ?_
  refine h_callV (ci := 8) (Y := mX8_addJar) (rmY := rX8_addJar) (as := [vI p0, vI p1]) (S := [vI 0, vR (some o)]) gk dL_addJar_5 gL_7 (by decide) rfl w_461 w_462 hx rfl rfl (Nat.le_of_ble_eq_true rfl) (by decide) ?_
  refine hrun.mono fun r t h => ?_
  rcases r with v | E
  · obtain ⟨z, rfl, ht, hk⟩ := h
    refine h_i2l dL_addJar_8 rfl (h_last gk dL_addJar_9 ht vin1 (h_goto (tgt := 21) dL_addJar_10 rfl ?_))
    exact h_iconst dL_addJar_21 rfl (h_ireturn dL_addJar_22 rfl rfl (Nat.le_refl _) (Nat.le_refl _) ⟨_, rfl, hk⟩)
  · obtain ⟨i, he, hk⟩ := h
    rcases i with _ | i
    · have he : some "java/lang/IllegalArgumentException" = some E := he
      cases he
      exact ⟨13, ⟨[], (0, 10, 13, 13), [(0, 10, 17, 15)], rfl, fun _ h => absurd h List.not_mem_nil, List.forall_mem_cons.mpr ⟨⟨rfl, by decide, rfl, w_458, ca_IAE⟩, fun _ h => absurd h List.not_mem_nil⟩⟩, fun q => h_astore dL_addJar_13 rfl (Nat.le_of_ble_eq_true rfl) rfl (h_iconst dL_addJar_15 rfl (h_ireturn dL_addJar_16 rfl rfl (Nat.le_refl _) (Nat.le_refl _) ⟨_, rfl, hk⟩))⟩
    · skip
      rcases i with _ | i
      · have he : some "java/lang/IllegalStateException" = some E := he
        cases he
        exact ⟨17, ⟨[(0, 10, 13, 13)], (0, 10, 17, 15), [], rfl, List.forall_mem_cons.mpr ⟨⟨by decide, _, w_458, nk _ _ (by decide) (by decide) (by decide)⟩, fun _ h => absurd h List.not_mem_nil⟩, List.forall_mem_cons.mpr ⟨⟨rfl, by decide, rfl, w_459, ca_ISE⟩, fun _ h => absurd h List.not_mem_nil⟩⟩, fun q => h_astore dL_addJar_17 rfl (Nat.le_of_ble_eq_true rfl) rfl (h_iconst dL_addJar_19 rfl (h_ireturn dL_addJar_20 rfl rfl (Nat.le_refl _) (Nat.le_refl _) ⟨_, rfl, hk⟩))⟩
      · have he : (none : Option String) = some E := he
        cases he
theorem hL_removeJar_run {G : GG} (gk : GOK G) (nk : NOK G) {σ : Mm} {x o : Nat} {p0 : Int32} {K : Int32 → Mm → Prop} (hx : (mt σ x).1 = 9) (hrun : Runs G mX8_removeJar rX8_removeJar [vR (some x), vI p0] σ (HL K o ["java/util/NoSuchElementException"])) : RunsH G mL_removeJar hL_removeJar rL_removeJar [vR (some x), vI p0, vR (some o)] σ (HR K) := by
  refine RunsH.of (by decide +kernel) rfl (Nat.le_of_ble_eq_true rfl) ?_
  refine h_aload_n (i := 2) dL_removeJar_0 rfl rfl ?_
  refine h_iconst dL_removeJar_1 rfl ?_
  refine h_aload_n (i := 0) dL_removeJar_2 rfl rfl ?_
  refine h_iload_n (i := 1) dL_removeJar_3 rfl rfl ?_
  refine h_callV (ci := 8) (Y := mX8_removeJar) (rmY := rX8_removeJar) (as := [vI p0]) (S := [vI 0, vR (some o)]) gk dL_removeJar_4 gL_17 (by decide) rfl w_624 w_625 hx rfl rfl (Nat.le_of_ble_eq_true rfl) (by decide) ?_
  refine hrun.mono fun r t h => ?_
  rcases r with v | E
  · obtain ⟨z, rfl, ht, hk⟩ := h
    refine h_i2l dL_removeJar_7 rfl (h_last gk dL_removeJar_8 ht vin1 (h_goto (tgt := 15) dL_removeJar_9 rfl ?_))
    exact h_iconst dL_removeJar_15 rfl (h_ireturn dL_removeJar_16 rfl rfl (Nat.le_refl _) (Nat.le_refl _) ⟨_, rfl, hk⟩)
  · obtain ⟨i, he, hk⟩ := h
    rcases i with _ | i
    · have he : some "java/util/NoSuchElementException" = some E := he
      cases he
      exact ⟨12, ⟨[], (0, 9, 12, 21), [], rfl, fun _ h => absurd h List.not_mem_nil, List.forall_mem_cons.mpr ⟨⟨rfl, by decide, rfl, w_622, ca_NSE⟩, fun _ h => absurd h List.not_mem_nil⟩⟩, fun q => h_astore_n (i := 3) dL_removeJar_12 rfl rfl (Nat.le_of_ble_eq_true rfl) rfl (h_iconst dL_removeJar_13 rfl (h_ireturn dL_removeJar_14 rfl rfl (Nat.le_refl _) (Nat.le_refl _) ⟨_, rfl, hk⟩))⟩
    · have he : (none : Option String) = some E := he
      cases he
theorem hL_say_run {G : GG} (gk : GOK G) (nk : NOK G) {σ : Mm} {x o : Nat} {p0 p1 : Int32} {K : Int32 → Mm → Prop} (hx : (mt σ x).1 = 9) (hrun : Runs G mX8_say rX8_say [vR (some x), vI p0, vI p1] σ (HL K o ["java/util/NoSuchElementException", "java/lang/IllegalArgumentException"])) : RunsH G mL_say hL_say rL_say [vR (some x), vI p0, vI p1, vR (some o)] σ (HR K) := by
  refine RunsH.of (by decide +kernel) rfl (Nat.le_of_ble_eq_true rfl) ?_
  refine h_aload_n (i := 3) dL_say_0 rfl rfl ?_
  refine h_iconst dL_say_1 rfl ?_
  refine h_aload_n (i := 0) dL_say_2 rfl rfl ?_
  refine h_iload_n (i := 1) dL_say_3 rfl rfl ?_
  refine h_iload_n (i := 2) dL_say_4 rfl rfl ?_
  refine h_callV (ci := 8) (Y := mX8_say) (rmY := rX8_say) (as := [vI p0, vI p1]) (S := [vI 0, vR (some o)]) gk dL_say_5 gL_23 (by decide) rfl w_651 w_652 hx rfl rfl (Nat.le_of_ble_eq_true rfl) (by decide) ?_
  refine hrun.mono fun r t h => ?_
  rcases r with v | E
  · obtain ⟨z, rfl, ht, hk⟩ := h
    refine h_i2l dL_say_8 rfl (h_last gk dL_say_9 ht vin1 (h_goto (tgt := 21) dL_say_10 rfl ?_))
    exact h_iconst dL_say_21 rfl (h_ireturn dL_say_22 rfl rfl (Nat.le_refl _) (Nat.le_refl _) ⟨_, rfl, hk⟩)
  · obtain ⟨i, he, hk⟩ := h
    rcases i with _ | i
    · have he : some "java/util/NoSuchElementException" = some E := he
      cases he
      exact ⟨13, ⟨[], (0, 10, 13, 21), [(0, 10, 17, 13)], rfl, fun _ h => absurd h List.not_mem_nil, List.forall_mem_cons.mpr ⟨⟨rfl, by decide, rfl, w_622, ca_NSE⟩, fun _ h => absurd h List.not_mem_nil⟩⟩, fun q => h_astore dL_say_13 rfl (Nat.le_of_ble_eq_true rfl) rfl (h_iconst dL_say_15 rfl (h_ireturn dL_say_16 rfl rfl (Nat.le_refl _) (Nat.le_refl _) ⟨_, rfl, hk⟩))⟩
    · skip
      rcases i with _ | i
      · have he : some "java/lang/IllegalArgumentException" = some E := he
        cases he
        exact ⟨17, ⟨[(0, 10, 13, 21)], (0, 10, 17, 13), [], rfl, List.forall_mem_cons.mpr ⟨⟨by decide, _, w_622, nk _ _ (by decide) (by decide) (by decide)⟩, fun _ h => absurd h List.not_mem_nil⟩, List.forall_mem_cons.mpr ⟨⟨rfl, by decide, rfl, w_458, ca_IAE⟩, fun _ h => absurd h List.not_mem_nil⟩⟩, fun q => h_astore dL_say_17 rfl (Nat.le_of_ble_eq_true rfl) rfl (h_iconst dL_say_19 rfl (h_ireturn dL_say_20 rfl rfl (Nat.le_refl _) (Nat.le_refl _) ⟨_, rfl, hk⟩))⟩
      · have he : (none : Option String) = some E := he
        cases he
theorem hL_jarAt_run {G : GG} (gk : GOK G) (nk : NOK G) {σ : Mm} {x o : Nat} {p0 : Int32} {K : Int32 → Mm → Prop} (hx : (mt σ x).1 = 9) (hrun : Runs G mX8_jarAt rX8_jarAt [vR (some x), vI p0] σ (HL K o ["java/lang/IndexOutOfBoundsException"])) : RunsH G mL_jarAt hL_jarAt rL_jarAt [vR (some x), vI p0, vR (some o)] σ (HR K) := by
  refine RunsH.of (by decide +kernel) rfl (Nat.le_of_ble_eq_true rfl) ?_
  refine h_aload_n (i := 2) dL_jarAt_0 rfl rfl ?_
  refine h_iconst dL_jarAt_1 rfl ?_
  refine h_aload_n (i := 0) dL_jarAt_2 rfl rfl ?_
  refine h_iload_n (i := 1) dL_jarAt_3 rfl rfl ?_
  refine h_callV (ci := 8) (Y := mX8_jarAt) (rmY := rX8_jarAt) (as := [vI p0]) (S := [vI 0, vR (some o)]) gk dL_jarAt_4 gL_26 (by decide) rfl w_692 w_693 hx rfl rfl (Nat.le_of_ble_eq_true rfl) (by decide) ?_
  refine hrun.mono fun r t h => ?_
  rcases r with v | E
  · obtain ⟨z, rfl, ht, hk⟩ := h
    refine h_i2l dL_jarAt_7 rfl (h_last gk dL_jarAt_8 ht vin1 (h_goto (tgt := 15) dL_jarAt_9 rfl ?_))
    exact h_iconst dL_jarAt_15 rfl (h_ireturn dL_jarAt_16 rfl rfl (Nat.le_refl _) (Nat.le_refl _) ⟨_, rfl, hk⟩)
  · obtain ⟨i, he, hk⟩ := h
    rcases i with _ | i
    · have he : some "java/lang/IndexOutOfBoundsException" = some E := he
      cases he
      exact ⟨12, ⟨[], (0, 9, 12, 30), [], rfl, fun _ h => absurd h List.not_mem_nil, List.forall_mem_cons.mpr ⟨⟨rfl, by decide, rfl, w_670, ca_IOB⟩, fun _ h => absurd h List.not_mem_nil⟩⟩, fun q => h_astore_n (i := 3) dL_jarAt_12 rfl rfl (Nat.le_of_ble_eq_true rfl) rfl (h_iconst dL_jarAt_13 rfl (h_ireturn dL_jarAt_14 rfl rfl (Nat.le_refl _) (Nat.le_refl _) ⟨_, rfl, hk⟩))⟩
    · have he : (none : Option String) = some E := he
      cases he
theorem hL_wordOf_run {G : GG} (gk : GOK G) (nk : NOK G) {σ : Mm} {x o : Nat} {p0 : Int32} {K : Int32 → Mm → Prop} (hx : (mt σ x).1 = 9) (hrun : Runs G mX8_wordOf rX8_wordOf [vR (some x), vI p0] σ (HL K o ["java/util/NoSuchElementException"])) : RunsH G mL_wordOf hL_wordOf rL_wordOf [vR (some x), vI p0, vR (some o)] σ (HR K) := by
  refine RunsH.of (by decide +kernel) rfl (Nat.le_of_ble_eq_true rfl) ?_
  refine h_aload_n (i := 2) dL_wordOf_0 rfl rfl ?_
  refine h_iconst dL_wordOf_1 rfl ?_
  refine h_aload_n (i := 0) dL_wordOf_2 rfl rfl ?_
  refine h_iload_n (i := 1) dL_wordOf_3 rfl rfl ?_
  refine h_callV (ci := 8) (Y := mX8_wordOf) (rmY := rX8_wordOf) (as := [vI p0]) (S := [vI 0, vR (some o)]) gk dL_wordOf_4 gL_32 (by decide) rfl w_704 w_705 hx rfl rfl (Nat.le_of_ble_eq_true rfl) (by decide) ?_
  refine hrun.mono fun r t h => ?_
  rcases r with v | E
  · obtain ⟨z, rfl, ht, hk⟩ := h
    refine h_i2l dL_wordOf_7 rfl (h_last gk dL_wordOf_8 ht vin1 (h_goto (tgt := 15) dL_wordOf_9 rfl ?_))
    exact h_iconst dL_wordOf_15 rfl (h_ireturn dL_wordOf_16 rfl rfl (Nat.le_refl _) (Nat.le_refl _) ⟨_, rfl, hk⟩)
  · obtain ⟨i, he, hk⟩ := h
    rcases i with _ | i
    · have he : some "java/util/NoSuchElementException" = some E := he
      cases he
      exact ⟨12, ⟨[], (0, 9, 12, 21), [], rfl, fun _ h => absurd h List.not_mem_nil, List.forall_mem_cons.mpr ⟨⟨rfl, by decide, rfl, w_622, ca_NSE⟩, fun _ h => absurd h List.not_mem_nil⟩⟩, fun q => h_astore_n (i := 3) dL_wordOf_12 rfl rfl (Nat.le_of_ble_eq_true rfl) rfl (h_iconst dL_wordOf_13 rfl (h_ireturn dL_wordOf_14 rfl rfl (Nat.le_refl _) (Nat.le_refl _) ⟨_, rfl, hk⟩))⟩
    · have he : (none : Option String) = some E := he
      cases he
theorem hL_addShelf_run {G : GG} (gk : GOK G) (nk : NOK G) {σ : Mm} {x o : Nat} {p0 p1 p2 : Int32} {K : Int32 → Mm → Prop} (hx : (mt σ x).1 = 9) (hrun : Runs G mX8_addShelf rX8_addShelf [vR (some x), vI p0, vI p1, vI p2] σ (HL K o ["java/lang/IllegalArgumentException", "java/lang/IllegalStateException"])) : RunsH G mL_addShelf hL_addShelf rL_addShelf [vR (some x), vI p0, vI p1, vI p2, vR (some o)] σ (HR K) := by
  refine RunsH.of (by decide +kernel) rfl (Nat.le_of_ble_eq_true rfl) ?_
  refine h_aload dL_addShelf_0 rfl ?_
  refine h_iconst dL_addShelf_2 rfl ?_
  refine h_aload_n (i := 0) dL_addShelf_3 rfl rfl ?_
  refine h_iload_n (i := 1) dL_addShelf_4 rfl rfl ?_
  refine h_iload_n (i := 2) dL_addShelf_5 rfl rfl ?_
  refine h_iload_n (i := 3) dL_addShelf_6 rfl rfl ?_
  refine h_callV (ci := 8) (Y := mX8_addShelf) (rmY := rX8_addShelf) (as := [vI p0, vI p1, vI p2]) (S := [vI 0, vR (some o)]) gk dL_addShelf_7 gL_35 (by decide) rfl w_716 w_717 hx rfl rfl (Nat.le_of_ble_eq_true rfl) (by decide) ?_
  refine hrun.mono fun r t h => ?_
  rcases r with v | E
  · obtain ⟨z, rfl, ht, hk⟩ := h
    refine h_i2l dL_addShelf_10 rfl (h_last gk dL_addShelf_11 ht vin1 (h_goto (tgt := 23) dL_addShelf_12 rfl ?_))
    exact h_iconst dL_addShelf_23 rfl (h_ireturn dL_addShelf_24 rfl rfl (Nat.le_refl _) (Nat.le_refl _) ⟨_, rfl, hk⟩)
  · obtain ⟨i, he, hk⟩ := h
    rcases i with _ | i
    · have he : some "java/lang/IllegalArgumentException" = some E := he
      cases he
      exact ⟨15, ⟨[], (0, 12, 15, 13), [(0, 12, 19, 15)], rfl, fun _ h => absurd h List.not_mem_nil, List.forall_mem_cons.mpr ⟨⟨rfl, by decide, rfl, w_458, ca_IAE⟩, fun _ h => absurd h List.not_mem_nil⟩⟩, fun q => h_astore dL_addShelf_15 rfl (Nat.le_of_ble_eq_true rfl) rfl (h_iconst dL_addShelf_17 rfl (h_ireturn dL_addShelf_18 rfl rfl (Nat.le_refl _) (Nat.le_refl _) ⟨_, rfl, hk⟩))⟩
    · skip
      rcases i with _ | i
      · have he : some "java/lang/IllegalStateException" = some E := he
        cases he
        exact ⟨19, ⟨[(0, 12, 15, 13)], (0, 12, 19, 15), [], rfl, List.forall_mem_cons.mpr ⟨⟨by decide, _, w_458, nk _ _ (by decide) (by decide) (by decide)⟩, fun _ h => absurd h List.not_mem_nil⟩, List.forall_mem_cons.mpr ⟨⟨rfl, by decide, rfl, w_459, ca_ISE⟩, fun _ h => absurd h List.not_mem_nil⟩⟩, fun q => h_astore dL_addShelf_19 rfl (Nat.le_of_ble_eq_true rfl) rfl (h_iconst dL_addShelf_21 rfl (h_ireturn dL_addShelf_22 rfl rfl (Nat.le_refl _) (Nat.le_refl _) ⟨_, rfl, hk⟩))⟩
      · have he : (none : Option String) = some E := he
        cases he
theorem hL_setListening_run {G : GG} (gk : GOK G) (nk : NOK G) {σ : Mm} {x o : Nat} {p0 p1 : Int32} {K : Int32 → Mm → Prop} (hx : (mt σ x).1 = 9) (hrun : Runs G mX8_setListening rX8_setListening [vR (some x), vI p0, vI p1] σ (HLB K o ["java/lang/IndexOutOfBoundsException"])) : RunsH G mL_setListening hL_setListening rL_setListening [vR (some x), vI p0, vI p1, vR (some o)] σ (HR K) := by
  refine RunsH.of (by decide +kernel) rfl (Nat.le_of_ble_eq_true rfl) ?_
  refine h_aload_n (i := 3) dL_setListening_0 rfl rfl ?_
  refine h_iconst dL_setListening_1 rfl ?_
  refine h_aload_n (i := 0) dL_setListening_2 rfl rfl ?_
  refine h_iload_n (i := 1) dL_setListening_3 rfl rfl ?_
  refine h_iload_n (i := 2) dL_setListening_4 rfl rfl ?_
  refine h_callV (ci := 8) (Y := mX8_setListening) (rmY := rX8_setListening) (as := [vI p0, vI p1]) (S := [vI 0, vR (some o)]) gk dL_setListening_5 gL_39 (by decide) rfl w_736 w_737 hx rfl rfl (Nat.le_of_ble_eq_true rfl) (by decide) ?_
  refine hrun.mono fun r t h => ?_
  rcases r with v | E
  · obtain ⟨z, rfl, ht, hk⟩ := h
    refine h_if_eq (tgt := 15) dL_setListening_8 rfl (fun z0 => ?_) (fun z0 => ?_)
    · rw [if_pos z0] at hk
      refine h_lconst dL_setListening_15 rfl (h_last gk dL_setListening_16 ht vin1 (h_goto (tgt := 24) dL_setListening_17 rfl ?_))
      exact h_iconst dL_setListening_24 rfl (h_ireturn dL_setListening_25 rfl rfl (Nat.le_refl _) (Nat.le_refl _) ⟨_, rfl, hk⟩)
    · rw [if_neg z0] at hk
      refine h_lconst dL_setListening_11 rfl (h_goto (tgt := 16) dL_setListening_12 rfl (h_last gk dL_setListening_16 ht vin1 (h_goto (tgt := 24) dL_setListening_17 rfl ?_)))
      exact h_iconst dL_setListening_24 rfl (h_ireturn dL_setListening_25 rfl rfl (Nat.le_refl _) (Nat.le_refl _) ⟨_, rfl, hk⟩)
  · obtain ⟨i, he, hk⟩ := h
    rcases i with _ | i
    · have he : some "java/lang/IndexOutOfBoundsException" = some E := he
      cases he
      exact ⟨20, ⟨[], (0, 17, 20, 30), [], rfl, fun _ h => absurd h List.not_mem_nil, List.forall_mem_cons.mpr ⟨⟨rfl, by decide, rfl, w_670, ca_IOB⟩, fun _ h => absurd h List.not_mem_nil⟩⟩, fun q => h_astore dL_setListening_20 rfl (Nat.le_of_ble_eq_true rfl) rfl (h_iconst dL_setListening_22 rfl (h_ireturn dL_setListening_23 rfl rfl (Nat.le_refl _) (Nat.le_refl _) ⟨_, rfl, hk⟩))⟩
    · have he : (none : Option String) = some E := he
      cases he
theorem hL_capacityOf_run {G : GG} (gk : GOK G) (nk : NOK G) {σ : Mm} {x o : Nat} {p0 : Int32} {K : Int32 → Mm → Prop} (hx : (mt σ x).1 = 9) (hrun : Runs G mX8_capacityOf rX8_capacityOf [vR (some x), vI p0] σ (HL K o ["java/lang/IndexOutOfBoundsException"])) : RunsH G mL_capacityOf hL_capacityOf rL_capacityOf [vR (some x), vI p0, vR (some o)] σ (HR K) := by
  refine RunsH.of (by decide +kernel) rfl (Nat.le_of_ble_eq_true rfl) ?_
  refine h_aload_n (i := 2) dL_capacityOf_0 rfl rfl ?_
  refine h_iconst dL_capacityOf_1 rfl ?_
  refine h_aload_n (i := 0) dL_capacityOf_2 rfl rfl ?_
  refine h_iload_n (i := 1) dL_capacityOf_3 rfl rfl ?_
  refine h_callV (ci := 8) (Y := mX8_capacityOf) (rmY := rX8_capacityOf) (as := [vI p0]) (S := [vI 0, vR (some o)]) gk dL_capacityOf_4 gL_43 (by decide) rfl w_751 w_752 hx rfl rfl (Nat.le_of_ble_eq_true rfl) (by decide) ?_
  refine hrun.mono fun r t h => ?_
  rcases r with v | E
  · obtain ⟨z, rfl, ht, hk⟩ := h
    refine h_i2l dL_capacityOf_7 rfl (h_last gk dL_capacityOf_8 ht vin1 (h_goto (tgt := 15) dL_capacityOf_9 rfl ?_))
    exact h_iconst dL_capacityOf_15 rfl (h_ireturn dL_capacityOf_16 rfl rfl (Nat.le_refl _) (Nat.le_refl _) ⟨_, rfl, hk⟩)
  · obtain ⟨i, he, hk⟩ := h
    rcases i with _ | i
    · have he : some "java/lang/IndexOutOfBoundsException" = some E := he
      cases he
      exact ⟨12, ⟨[], (0, 9, 12, 30), [], rfl, fun _ h => absurd h List.not_mem_nil, List.forall_mem_cons.mpr ⟨⟨rfl, by decide, rfl, w_670, ca_IOB⟩, fun _ h => absurd h List.not_mem_nil⟩⟩, fun q => h_astore_n (i := 3) dL_capacityOf_12 rfl rfl (Nat.le_of_ble_eq_true rfl) rfl (h_iconst dL_capacityOf_13 rfl (h_ireturn dL_capacityOf_14 rfl rfl (Nat.le_refl _) (Nat.le_refl _) ⟨_, rfl, hk⟩))⟩
    · have he : (none : Option String) = some E := he
      cases he
theorem hL_lifetimeOf_run {G : GG} (gk : GOK G) (nk : NOK G) {σ : Mm} {x o : Nat} {p0 : Int32} {K : Int32 → Mm → Prop} (hx : (mt σ x).1 = 9) (hrun : Runs G mX8_lifetimeOf rX8_lifetimeOf [vR (some x), vI p0] σ (HL K o ["java/lang/IndexOutOfBoundsException"])) : RunsH G mL_lifetimeOf hL_lifetimeOf rL_lifetimeOf [vR (some x), vI p0, vR (some o)] σ (HR K) := by
  refine RunsH.of (by decide +kernel) rfl (Nat.le_of_ble_eq_true rfl) ?_
  refine h_aload_n (i := 2) dL_lifetimeOf_0 rfl rfl ?_
  refine h_iconst dL_lifetimeOf_1 rfl ?_
  refine h_aload_n (i := 0) dL_lifetimeOf_2 rfl rfl ?_
  refine h_iload_n (i := 1) dL_lifetimeOf_3 rfl rfl ?_
  refine h_callV (ci := 8) (Y := mX8_lifetimeOf) (rmY := rX8_lifetimeOf) (as := [vI p0]) (S := [vI 0, vR (some o)]) gk dL_lifetimeOf_4 gL_47 (by decide) rfl w_758 w_759 hx rfl rfl (Nat.le_of_ble_eq_true rfl) (by decide) ?_
  refine hrun.mono fun r t h => ?_
  rcases r with v | E
  · obtain ⟨z, rfl, ht, hk⟩ := h
    refine h_i2l dL_lifetimeOf_7 rfl (h_last gk dL_lifetimeOf_8 ht vin1 (h_goto (tgt := 15) dL_lifetimeOf_9 rfl ?_))
    exact h_iconst dL_lifetimeOf_15 rfl (h_ireturn dL_lifetimeOf_16 rfl rfl (Nat.le_refl _) (Nat.le_refl _) ⟨_, rfl, hk⟩)
  · obtain ⟨i, he, hk⟩ := h
    rcases i with _ | i
    · have he : some "java/lang/IndexOutOfBoundsException" = some E := he
      cases he
      exact ⟨12, ⟨[], (0, 9, 12, 30), [], rfl, fun _ h => absurd h List.not_mem_nil, List.forall_mem_cons.mpr ⟨⟨rfl, by decide, rfl, w_670, ca_IOB⟩, fun _ h => absurd h List.not_mem_nil⟩⟩, fun q => h_astore_n (i := 3) dL_lifetimeOf_12 rfl rfl (Nat.le_of_ble_eq_true rfl) rfl (h_iconst dL_lifetimeOf_13 rfl (h_ireturn dL_lifetimeOf_14 rfl rfl (Nat.le_refl _) (Nat.le_refl _) ⟨_, rfl, hk⟩))⟩
    · have he : (none : Option String) = some E := he
      cases he
theorem hL_policyOf_run {G : GG} (gk : GOK G) (nk : NOK G) {σ : Mm} {x o : Nat} {p0 : Int32} {K : Int32 → Mm → Prop} (hx : (mt σ x).1 = 9) (hrun : Runs G mX8_policyOf rX8_policyOf [vR (some x), vI p0] σ (HL K o ["java/lang/IndexOutOfBoundsException"])) : RunsH G mL_policyOf hL_policyOf rL_policyOf [vR (some x), vI p0, vR (some o)] σ (HR K) := by
  refine RunsH.of (by decide +kernel) rfl (Nat.le_of_ble_eq_true rfl) ?_
  refine h_aload_n (i := 2) dL_policyOf_0 rfl rfl ?_
  refine h_iconst dL_policyOf_1 rfl ?_
  refine h_aload_n (i := 0) dL_policyOf_2 rfl rfl ?_
  refine h_iload_n (i := 1) dL_policyOf_3 rfl rfl ?_
  refine h_callV (ci := 8) (Y := mX8_policyOf) (rmY := rX8_policyOf) (as := [vI p0]) (S := [vI 0, vR (some o)]) gk dL_policyOf_4 gL_50 (by decide) rfl w_765 w_766 hx rfl rfl (Nat.le_of_ble_eq_true rfl) (by decide) ?_
  refine hrun.mono fun r t h => ?_
  rcases r with v | E
  · obtain ⟨z, rfl, ht, hk⟩ := h
    refine h_i2l dL_policyOf_7 rfl (h_last gk dL_policyOf_8 ht vin1 (h_goto (tgt := 15) dL_policyOf_9 rfl ?_))
    exact h_iconst dL_policyOf_15 rfl (h_ireturn dL_policyOf_16 rfl rfl (Nat.le_refl _) (Nat.le_refl _) ⟨_, rfl, hk⟩)
  · obtain ⟨i, he, hk⟩ := h
    rcases i with _ | i
    · have he : some "java/lang/IndexOutOfBoundsException" = some E := he
      cases he
      exact ⟨12, ⟨[], (0, 9, 12, 30), [], rfl, fun _ h => absurd h List.not_mem_nil, List.forall_mem_cons.mpr ⟨⟨rfl, by decide, rfl, w_670, ca_IOB⟩, fun _ h => absurd h List.not_mem_nil⟩⟩, fun q => h_astore_n (i := 3) dL_policyOf_12 rfl rfl (Nat.le_of_ble_eq_true rfl) rfl (h_iconst dL_policyOf_13 rfl (h_ireturn dL_policyOf_14 rfl rfl (Nat.le_refl _) (Nat.le_refl _) ⟨_, rfl, hk⟩))⟩
    · have he : (none : Option String) = some E := he
      cases he
theorem hL_isListening_run {G : GG} (gk : GOK G) (nk : NOK G) {σ : Mm} {x o : Nat} {p0 : Int32} {K : Int32 → Mm → Prop} (hx : (mt σ x).1 = 9) (hrun : Runs G mX8_isListening rX8_isListening [vR (some x), vI p0] σ (HLB K o ["java/lang/IndexOutOfBoundsException"])) : RunsH G mL_isListening hL_isListening rL_isListening [vR (some x), vI p0, vR (some o)] σ (HR K) := by
  refine RunsH.of (by decide +kernel) rfl (Nat.le_of_ble_eq_true rfl) ?_
  refine h_aload_n (i := 2) dL_isListening_0 rfl rfl ?_
  refine h_iconst dL_isListening_1 rfl ?_
  refine h_aload_n (i := 0) dL_isListening_2 rfl rfl ?_
  refine h_iload_n (i := 1) dL_isListening_3 rfl rfl ?_
  refine h_callV (ci := 8) (Y := mX8_isListening) (rmY := rX8_isListening) (as := [vI p0]) (S := [vI 0, vR (some o)]) gk dL_isListening_4 gL_53 (by decide) rfl w_772 w_773 hx rfl rfl (Nat.le_of_ble_eq_true rfl) (by decide) ?_
  refine hrun.mono fun r t h => ?_
  rcases r with v | E
  · obtain ⟨z, rfl, ht, hk⟩ := h
    refine h_if_eq (tgt := 14) dL_isListening_7 rfl (fun z0 => ?_) (fun z0 => ?_)
    · rw [if_pos z0] at hk
      refine h_lconst dL_isListening_14 rfl (h_last gk dL_isListening_15 ht vin1 (h_goto (tgt := 22) dL_isListening_16 rfl ?_))
      exact h_iconst dL_isListening_22 rfl (h_ireturn dL_isListening_23 rfl rfl (Nat.le_refl _) (Nat.le_refl _) ⟨_, rfl, hk⟩)
    · rw [if_neg z0] at hk
      refine h_lconst dL_isListening_10 rfl (h_goto (tgt := 15) dL_isListening_11 rfl (h_last gk dL_isListening_15 ht vin1 (h_goto (tgt := 22) dL_isListening_16 rfl ?_)))
      exact h_iconst dL_isListening_22 rfl (h_ireturn dL_isListening_23 rfl rfl (Nat.le_refl _) (Nat.le_refl _) ⟨_, rfl, hk⟩)
  · obtain ⟨i, he, hk⟩ := h
    rcases i with _ | i
    · have he : some "java/lang/IndexOutOfBoundsException" = some E := he
      cases he
      exact ⟨19, ⟨[], (0, 16, 19, 30), [], rfl, fun _ h => absurd h List.not_mem_nil, List.forall_mem_cons.mpr ⟨⟨rfl, by decide, rfl, w_670, ca_IOB⟩, fun _ h => absurd h List.not_mem_nil⟩⟩, fun q => h_astore_n (i := 3) dL_isListening_19 rfl rfl (Nat.le_of_ble_eq_true rfl) rfl (h_iconst dL_isListening_20 rfl (h_ireturn dL_isListening_21 rfl rfl (Nat.le_refl _) (Nat.le_refl _) ⟨_, rfl, hk⟩))⟩
    · have he : (none : Option String) = some E := he
      cases he
theorem hL_echoCount_run {G : GG} (gk : GOK G) (nk : NOK G) {σ : Mm} {x o : Nat} {p0 : Int32} {K : Int32 → Mm → Prop} (hx : (mt σ x).1 = 9) (hrun : Runs G mX8_echoCount rX8_echoCount [vR (some x), vI p0] σ (HL K o ["java/lang/IndexOutOfBoundsException"])) : RunsH G mL_echoCount hL_echoCount rL_echoCount [vR (some x), vI p0, vR (some o)] σ (HR K) := by
  refine RunsH.of (by decide +kernel) rfl (Nat.le_of_ble_eq_true rfl) ?_
  refine h_aload_n (i := 2) dL_echoCount_0 rfl rfl ?_
  refine h_iconst dL_echoCount_1 rfl ?_
  refine h_aload_n (i := 0) dL_echoCount_2 rfl rfl ?_
  refine h_iload_n (i := 1) dL_echoCount_3 rfl rfl ?_
  refine h_callV (ci := 8) (Y := mX8_echoCount) (rmY := rX8_echoCount) (as := [vI p0]) (S := [vI 0, vR (some o)]) gk dL_echoCount_4 gL_57 (by decide) rfl w_779 w_780 hx rfl rfl (Nat.le_of_ble_eq_true rfl) (by decide) ?_
  refine hrun.mono fun r t h => ?_
  rcases r with v | E
  · obtain ⟨z, rfl, ht, hk⟩ := h
    refine h_i2l dL_echoCount_7 rfl (h_last gk dL_echoCount_8 ht vin1 (h_goto (tgt := 15) dL_echoCount_9 rfl ?_))
    exact h_iconst dL_echoCount_15 rfl (h_ireturn dL_echoCount_16 rfl rfl (Nat.le_refl _) (Nat.le_refl _) ⟨_, rfl, hk⟩)
  · obtain ⟨i, he, hk⟩ := h
    rcases i with _ | i
    · have he : some "java/lang/IndexOutOfBoundsException" = some E := he
      cases he
      exact ⟨12, ⟨[], (0, 9, 12, 30), [], rfl, fun _ h => absurd h List.not_mem_nil, List.forall_mem_cons.mpr ⟨⟨rfl, by decide, rfl, w_670, ca_IOB⟩, fun _ h => absurd h List.not_mem_nil⟩⟩, fun q => h_astore_n (i := 3) dL_echoCount_12 rfl rfl (Nat.le_of_ble_eq_true rfl) rfl (h_iconst dL_echoCount_13 rfl (h_ireturn dL_echoCount_14 rfl rfl (Nat.le_refl _) (Nat.le_refl _) ⟨_, rfl, hk⟩))⟩
    · have he : (none : Option String) = some E := he
      cases he
theorem hL_echoAt_run {G : GG} (gk : GOK G) (nk : NOK G) {σ : Mm} {x o : Nat} {p0 p1 : Int32} {K : Int32 → Mm → Prop} (hx : (mt σ x).1 = 9) (hrun : Runs G mX8_echoAt rX8_echoAt [vR (some x), vI p0, vI p1] σ (HL K o ["java/lang/IndexOutOfBoundsException", "java/util/NoSuchElementException"])) : RunsH G mL_echoAt hL_echoAt rL_echoAt [vR (some x), vI p0, vI p1, vR (some o)] σ (HR K) := by
  refine RunsH.of (by decide +kernel) rfl (Nat.le_of_ble_eq_true rfl) ?_
  refine h_aload_n (i := 3) dL_echoAt_0 rfl rfl ?_
  refine h_iconst dL_echoAt_1 rfl ?_
  refine h_aload_n (i := 0) dL_echoAt_2 rfl rfl ?_
  refine h_iload_n (i := 1) dL_echoAt_3 rfl rfl ?_
  refine h_iload_n (i := 2) dL_echoAt_4 rfl rfl ?_
  refine h_callV (ci := 8) (Y := mX8_echoAt) (rmY := rX8_echoAt) (as := [vI p0, vI p1]) (S := [vI 0, vR (some o)]) gk dL_echoAt_5 gL_60 (by decide) rfl w_786 w_787 hx rfl rfl (Nat.le_of_ble_eq_true rfl) (by decide) ?_
  refine hrun.mono fun r t h => ?_
  rcases r with v | E
  · obtain ⟨z, rfl, ht, hk⟩ := h
    refine h_i2l dL_echoAt_8 rfl (h_last gk dL_echoAt_9 ht vin1 (h_goto (tgt := 21) dL_echoAt_10 rfl ?_))
    exact h_iconst dL_echoAt_21 rfl (h_ireturn dL_echoAt_22 rfl rfl (Nat.le_refl _) (Nat.le_refl _) ⟨_, rfl, hk⟩)
  · obtain ⟨i, he, hk⟩ := h
    rcases i with _ | i
    · have he : some "java/lang/IndexOutOfBoundsException" = some E := he
      cases he
      exact ⟨13, ⟨[], (0, 10, 13, 30), [(0, 10, 17, 21)], rfl, fun _ h => absurd h List.not_mem_nil, List.forall_mem_cons.mpr ⟨⟨rfl, by decide, rfl, w_670, ca_IOB⟩, fun _ h => absurd h List.not_mem_nil⟩⟩, fun q => h_astore dL_echoAt_13 rfl (Nat.le_of_ble_eq_true rfl) rfl (h_iconst dL_echoAt_15 rfl (h_ireturn dL_echoAt_16 rfl rfl (Nat.le_refl _) (Nat.le_refl _) ⟨_, rfl, hk⟩))⟩
    · skip
      rcases i with _ | i
      · have he : some "java/util/NoSuchElementException" = some E := he
        cases he
        exact ⟨17, ⟨[(0, 10, 13, 30)], (0, 10, 17, 21), [], rfl, List.forall_mem_cons.mpr ⟨⟨by decide, _, w_670, nk _ _ (by decide) (by decide) (by decide)⟩, fun _ h => absurd h List.not_mem_nil⟩, List.forall_mem_cons.mpr ⟨⟨rfl, by decide, rfl, w_622, ca_NSE⟩, fun _ h => absurd h List.not_mem_nil⟩⟩, fun q => h_astore dL_echoAt_17 rfl (Nat.le_of_ble_eq_true rfl) rfl (h_iconst dL_echoAt_19 rfl (h_ireturn dL_echoAt_20 rfl rfl (Nat.le_refl _) (Nat.le_refl _) ⟨_, rfl, hk⟩))⟩
      · have he : (none : Option String) = some E := he
        cases he
theorem hL_hasEcho_run {G : GG} (gk : GOK G) (nk : NOK G) {σ : Mm} {x o : Nat} {p0 p1 : Int32} {K : Int32 → Mm → Prop} (hx : (mt σ x).1 = 9) (hrun : Runs G mX8_hasEcho rX8_hasEcho [vR (some x), vI p0, vI p1] σ (HLB K o ["java/lang/IndexOutOfBoundsException"])) : RunsH G mL_hasEcho hL_hasEcho rL_hasEcho [vR (some x), vI p0, vI p1, vR (some o)] σ (HR K) := by
  refine RunsH.of (by decide +kernel) rfl (Nat.le_of_ble_eq_true rfl) ?_
  refine h_aload_n (i := 3) dL_hasEcho_0 rfl rfl ?_
  refine h_iconst dL_hasEcho_1 rfl ?_
  refine h_aload_n (i := 0) dL_hasEcho_2 rfl rfl ?_
  refine h_iload_n (i := 1) dL_hasEcho_3 rfl rfl ?_
  refine h_iload_n (i := 2) dL_hasEcho_4 rfl rfl ?_
  refine h_callV (ci := 8) (Y := mX8_hasEcho) (rmY := rX8_hasEcho) (as := [vI p0, vI p1]) (S := [vI 0, vR (some o)]) gk dL_hasEcho_5 gL_64 (by decide) rfl w_798 w_799 hx rfl rfl (Nat.le_of_ble_eq_true rfl) (by decide) ?_
  refine hrun.mono fun r t h => ?_
  rcases r with v | E
  · obtain ⟨z, rfl, ht, hk⟩ := h
    refine h_if_eq (tgt := 15) dL_hasEcho_8 rfl (fun z0 => ?_) (fun z0 => ?_)
    · rw [if_pos z0] at hk
      refine h_lconst dL_hasEcho_15 rfl (h_last gk dL_hasEcho_16 ht vin1 (h_goto (tgt := 24) dL_hasEcho_17 rfl ?_))
      exact h_iconst dL_hasEcho_24 rfl (h_ireturn dL_hasEcho_25 rfl rfl (Nat.le_refl _) (Nat.le_refl _) ⟨_, rfl, hk⟩)
    · rw [if_neg z0] at hk
      refine h_lconst dL_hasEcho_11 rfl (h_goto (tgt := 16) dL_hasEcho_12 rfl (h_last gk dL_hasEcho_16 ht vin1 (h_goto (tgt := 24) dL_hasEcho_17 rfl ?_)))
      exact h_iconst dL_hasEcho_24 rfl (h_ireturn dL_hasEcho_25 rfl rfl (Nat.le_refl _) (Nat.le_refl _) ⟨_, rfl, hk⟩)
  · obtain ⟨i, he, hk⟩ := h
    rcases i with _ | i
    · have he : some "java/lang/IndexOutOfBoundsException" = some E := he
      cases he
      exact ⟨20, ⟨[], (0, 17, 20, 30), [], rfl, fun _ h => absurd h List.not_mem_nil, List.forall_mem_cons.mpr ⟨⟨rfl, by decide, rfl, w_670, ca_IOB⟩, fun _ h => absurd h List.not_mem_nil⟩⟩, fun q => h_astore dL_hasEcho_20 rfl (Nat.le_of_ble_eq_true rfl) rfl (h_iconst dL_hasEcho_22 rfl (h_ireturn dL_hasEcho_23 rfl rfl (Nat.le_refl _) (Nat.le_refl _) ⟨_, rfl, hk⟩))⟩
    · have he : (none : Option String) = some E := he
      cases he
theorem hL_echoOf_run {G : GG} (gk : GOK G) (nk : NOK G) {σ : Mm} {x o : Nat} {p0 p1 : Int32} {K : Int32 → Mm → Prop} (hx : (mt σ x).1 = 9) (hrun : Runs G mX8_echoOf rX8_echoOf [vR (some x), vI p0, vI p1] σ (HL K o ["java/lang/IndexOutOfBoundsException", "java/util/NoSuchElementException"])) : RunsH G mL_echoOf hL_echoOf rL_echoOf [vR (some x), vI p0, vI p1, vR (some o)] σ (HR K) := by
  refine RunsH.of (by decide +kernel) rfl (Nat.le_of_ble_eq_true rfl) ?_
  refine h_aload_n (i := 3) dL_echoOf_0 rfl rfl ?_
  refine h_iconst dL_echoOf_1 rfl ?_
  refine h_aload_n (i := 0) dL_echoOf_2 rfl rfl ?_
  refine h_iload_n (i := 1) dL_echoOf_3 rfl rfl ?_
  refine h_iload_n (i := 2) dL_echoOf_4 rfl rfl ?_
  refine h_callV (ci := 8) (Y := mX8_echoOf) (rmY := rX8_echoOf) (as := [vI p0, vI p1]) (S := [vI 0, vR (some o)]) gk dL_echoOf_5 gL_68 (by decide) rfl w_806 w_807 hx rfl rfl (Nat.le_of_ble_eq_true rfl) (by decide) ?_
  refine hrun.mono fun r t h => ?_
  rcases r with v | E
  · obtain ⟨z, rfl, ht, hk⟩ := h
    refine h_i2l dL_echoOf_8 rfl (h_last gk dL_echoOf_9 ht vin1 (h_goto (tgt := 21) dL_echoOf_10 rfl ?_))
    exact h_iconst dL_echoOf_21 rfl (h_ireturn dL_echoOf_22 rfl rfl (Nat.le_refl _) (Nat.le_refl _) ⟨_, rfl, hk⟩)
  · obtain ⟨i, he, hk⟩ := h
    rcases i with _ | i
    · have he : some "java/lang/IndexOutOfBoundsException" = some E := he
      cases he
      exact ⟨13, ⟨[], (0, 10, 13, 30), [(0, 10, 17, 21)], rfl, fun _ h => absurd h List.not_mem_nil, List.forall_mem_cons.mpr ⟨⟨rfl, by decide, rfl, w_670, ca_IOB⟩, fun _ h => absurd h List.not_mem_nil⟩⟩, fun q => h_astore dL_echoOf_13 rfl (Nat.le_of_ble_eq_true rfl) rfl (h_iconst dL_echoOf_15 rfl (h_ireturn dL_echoOf_16 rfl rfl (Nat.le_refl _) (Nat.le_refl _) ⟨_, rfl, hk⟩))⟩
    · skip
      rcases i with _ | i
      · have he : some "java/util/NoSuchElementException" = some E := he
        cases he
        exact ⟨17, ⟨[(0, 10, 13, 30)], (0, 10, 17, 21), [], rfl, List.forall_mem_cons.mpr ⟨⟨by decide, _, w_670, nk _ _ (by decide) (by decide) (by decide)⟩, fun _ h => absurd h List.not_mem_nil⟩, List.forall_mem_cons.mpr ⟨⟨rfl, by decide, rfl, w_622, ca_NSE⟩, fun _ h => absurd h List.not_mem_nil⟩⟩, fun q => h_astore dL_echoOf_17 rfl (Nat.le_of_ble_eq_true rfl) rfl (h_iconst dL_echoOf_19 rfl (h_ireturn dL_echoOf_20 rfl rfl (Nat.le_refl _) (Nat.le_refl _) ⟨_, rfl, hk⟩))⟩
      · have he : (none : Option String) = some E := he
        cases he
theorem hL_ageOf_run {G : GG} (gk : GOK G) (nk : NOK G) {σ : Mm} {x o : Nat} {p0 p1 : Int32} {K : Int32 → Mm → Prop} (hx : (mt σ x).1 = 9) (hrun : Runs G mX8_ageOf rX8_ageOf [vR (some x), vI p0, vI p1] σ (HL K o ["java/lang/IndexOutOfBoundsException", "java/util/NoSuchElementException"])) : RunsH G mL_ageOf hL_ageOf rL_ageOf [vR (some x), vI p0, vI p1, vR (some o)] σ (HR K) := by
  refine RunsH.of (by decide +kernel) rfl (Nat.le_of_ble_eq_true rfl) ?_
  refine h_aload_n (i := 3) dL_ageOf_0 rfl rfl ?_
  refine h_iconst dL_ageOf_1 rfl ?_
  refine h_aload_n (i := 0) dL_ageOf_2 rfl rfl ?_
  refine h_iload_n (i := 1) dL_ageOf_3 rfl rfl ?_
  refine h_iload_n (i := 2) dL_ageOf_4 rfl rfl ?_
  refine h_callV (ci := 8) (Y := mX8_ageOf) (rmY := rX8_ageOf) (as := [vI p0, vI p1]) (S := [vI 0, vR (some o)]) gk dL_ageOf_5 gL_72 (by decide) rfl w_818 w_819 hx rfl rfl (Nat.le_of_ble_eq_true rfl) (by decide) ?_
  refine hrun.mono fun r t h => ?_
  rcases r with v | E
  · obtain ⟨z, rfl, ht, hk⟩ := h
    refine h_i2l dL_ageOf_8 rfl (h_last gk dL_ageOf_9 ht vin1 (h_goto (tgt := 21) dL_ageOf_10 rfl ?_))
    exact h_iconst dL_ageOf_21 rfl (h_ireturn dL_ageOf_22 rfl rfl (Nat.le_refl _) (Nat.le_refl _) ⟨_, rfl, hk⟩)
  · obtain ⟨i, he, hk⟩ := h
    rcases i with _ | i
    · have he : some "java/lang/IndexOutOfBoundsException" = some E := he
      cases he
      exact ⟨13, ⟨[], (0, 10, 13, 30), [(0, 10, 17, 21)], rfl, fun _ h => absurd h List.not_mem_nil, List.forall_mem_cons.mpr ⟨⟨rfl, by decide, rfl, w_670, ca_IOB⟩, fun _ h => absurd h List.not_mem_nil⟩⟩, fun q => h_astore dL_ageOf_13 rfl (Nat.le_of_ble_eq_true rfl) rfl (h_iconst dL_ageOf_15 rfl (h_ireturn dL_ageOf_16 rfl rfl (Nat.le_refl _) (Nat.le_refl _) ⟨_, rfl, hk⟩))⟩
    · skip
      rcases i with _ | i
      · have he : some "java/util/NoSuchElementException" = some E := he
        cases he
        exact ⟨17, ⟨[(0, 10, 13, 30)], (0, 10, 17, 21), [], rfl, List.forall_mem_cons.mpr ⟨⟨by decide, _, w_670, nk _ _ (by decide) (by decide) (by decide)⟩, fun _ h => absurd h List.not_mem_nil⟩, List.forall_mem_cons.mpr ⟨⟨rfl, by decide, rfl, w_622, ca_NSE⟩, fun _ h => absurd h List.not_mem_nil⟩⟩, fun q => h_astore dL_ageOf_17 rfl (Nat.le_of_ble_eq_true rfl) rfl (h_iconst dL_ageOf_19 rfl (h_ireturn dL_ageOf_20 rfl rfl (Nat.le_refl _) (Nat.le_refl _) ⟨_, rfl, hk⟩))⟩
      · have he : (none : Option String) = some E := he
        cases he
theorem hL_hitsOf_run {G : GG} (gk : GOK G) (nk : NOK G) {σ : Mm} {x o : Nat} {p0 p1 : Int32} {K : Int32 → Mm → Prop} (hx : (mt σ x).1 = 9) (hrun : Runs G mX8_hitsOf rX8_hitsOf [vR (some x), vI p0, vI p1] σ (HL K o ["java/lang/IndexOutOfBoundsException", "java/util/NoSuchElementException"])) : RunsH G mL_hitsOf hL_hitsOf rL_hitsOf [vR (some x), vI p0, vI p1, vR (some o)] σ (HR K) := by
  refine RunsH.of (by decide +kernel) rfl (Nat.le_of_ble_eq_true rfl) ?_
  refine h_aload_n (i := 3) dL_hitsOf_0 rfl rfl ?_
  refine h_iconst dL_hitsOf_1 rfl ?_
  refine h_aload_n (i := 0) dL_hitsOf_2 rfl rfl ?_
  refine h_iload_n (i := 1) dL_hitsOf_3 rfl rfl ?_
  refine h_iload_n (i := 2) dL_hitsOf_4 rfl rfl ?_
  refine h_callV (ci := 8) (Y := mX8_hitsOf) (rmY := rX8_hitsOf) (as := [vI p0, vI p1]) (S := [vI 0, vR (some o)]) gk dL_hitsOf_5 gL_75 (by decide) rfl w_829 w_830 hx rfl rfl (Nat.le_of_ble_eq_true rfl) (by decide) ?_
  refine hrun.mono fun r t h => ?_
  rcases r with v | E
  · obtain ⟨z, rfl, ht, hk⟩ := h
    refine h_i2l dL_hitsOf_8 rfl (h_last gk dL_hitsOf_9 ht vin1 (h_goto (tgt := 21) dL_hitsOf_10 rfl ?_))
    exact h_iconst dL_hitsOf_21 rfl (h_ireturn dL_hitsOf_22 rfl rfl (Nat.le_refl _) (Nat.le_refl _) ⟨_, rfl, hk⟩)
  · obtain ⟨i, he, hk⟩ := h
    rcases i with _ | i
    · have he : some "java/lang/IndexOutOfBoundsException" = some E := he
      cases he
      exact ⟨13, ⟨[], (0, 10, 13, 30), [(0, 10, 17, 21)], rfl, fun _ h => absurd h List.not_mem_nil, List.forall_mem_cons.mpr ⟨⟨rfl, by decide, rfl, w_670, ca_IOB⟩, fun _ h => absurd h List.not_mem_nil⟩⟩, fun q => h_astore dL_hitsOf_13 rfl (Nat.le_of_ble_eq_true rfl) rfl (h_iconst dL_hitsOf_15 rfl (h_ireturn dL_hitsOf_16 rfl rfl (Nat.le_refl _) (Nat.le_refl _) ⟨_, rfl, hk⟩))⟩
    · skip
      rcases i with _ | i
      · have he : some "java/util/NoSuchElementException" = some E := he
        cases he
        exact ⟨17, ⟨[(0, 10, 13, 30)], (0, 10, 17, 21), [], rfl, List.forall_mem_cons.mpr ⟨⟨by decide, _, w_670, nk _ _ (by decide) (by decide) (by decide)⟩, fun _ h => absurd h List.not_mem_nil⟩, List.forall_mem_cons.mpr ⟨⟨rfl, by decide, rfl, w_622, ca_NSE⟩, fun _ h => absurd h List.not_mem_nil⟩⟩, fun q => h_astore dL_hitsOf_17 rfl (Nat.le_of_ble_eq_true rfl) rfl (h_iconst dL_hitsOf_19 rfl (h_ireturn dL_hitsOf_20 rfl rfl (Nat.le_refl _) (Nat.le_refl _) ⟨_, rfl, hk⟩))⟩
      · have he : (none : Option String) = some E := he
        cases he
theorem hL_isExpired_run {G : GG} (gk : GOK G) (nk : NOK G) {σ : Mm} {x o : Nat} {p0 p1 : Int32} {K : Int32 → Mm → Prop} (hx : (mt σ x).1 = 9) (hrun : Runs G mX8_isExpired rX8_isExpired [vR (some x), vI p0, vI p1] σ (HLB K o ["java/lang/IndexOutOfBoundsException", "java/util/NoSuchElementException"])) : RunsH G mL_isExpired hL_isExpired rL_isExpired [vR (some x), vI p0, vI p1, vR (some o)] σ (HR K) := by
  refine RunsH.of (by decide +kernel) rfl (Nat.le_of_ble_eq_true rfl) ?_
  refine h_aload_n (i := 3) dL_isExpired_0 rfl rfl ?_
  refine h_iconst dL_isExpired_1 rfl ?_
  refine h_aload_n (i := 0) dL_isExpired_2 rfl rfl ?_
  refine h_iload_n (i := 1) dL_isExpired_3 rfl rfl ?_
  refine h_iload_n (i := 2) dL_isExpired_4 rfl rfl ?_
  refine h_callV (ci := 8) (Y := mX8_isExpired) (rmY := rX8_isExpired) (as := [vI p0, vI p1]) (S := [vI 0, vR (some o)]) gk dL_isExpired_5 gL_78 (by decide) rfl w_836 w_837 hx rfl rfl (Nat.le_of_ble_eq_true rfl) (by decide) ?_
  refine hrun.mono fun r t h => ?_
  rcases r with v | E
  · obtain ⟨z, rfl, ht, hk⟩ := h
    refine h_if_eq (tgt := 15) dL_isExpired_8 rfl (fun z0 => ?_) (fun z0 => ?_)
    · rw [if_pos z0] at hk
      refine h_lconst dL_isExpired_15 rfl (h_last gk dL_isExpired_16 ht vin1 (h_goto (tgt := 28) dL_isExpired_17 rfl ?_))
      exact h_iconst dL_isExpired_28 rfl (h_ireturn dL_isExpired_29 rfl rfl (Nat.le_refl _) (Nat.le_refl _) ⟨_, rfl, hk⟩)
    · rw [if_neg z0] at hk
      refine h_lconst dL_isExpired_11 rfl (h_goto (tgt := 16) dL_isExpired_12 rfl (h_last gk dL_isExpired_16 ht vin1 (h_goto (tgt := 28) dL_isExpired_17 rfl ?_)))
      exact h_iconst dL_isExpired_28 rfl (h_ireturn dL_isExpired_29 rfl rfl (Nat.le_refl _) (Nat.le_refl _) ⟨_, rfl, hk⟩)
  · obtain ⟨i, he, hk⟩ := h
    rcases i with _ | i
    · have he : some "java/lang/IndexOutOfBoundsException" = some E := he
      cases he
      exact ⟨20, ⟨[], (0, 17, 20, 30), [(0, 17, 24, 21)], rfl, fun _ h => absurd h List.not_mem_nil, List.forall_mem_cons.mpr ⟨⟨rfl, by decide, rfl, w_670, ca_IOB⟩, fun _ h => absurd h List.not_mem_nil⟩⟩, fun q => h_astore dL_isExpired_20 rfl (Nat.le_of_ble_eq_true rfl) rfl (h_iconst dL_isExpired_22 rfl (h_ireturn dL_isExpired_23 rfl rfl (Nat.le_refl _) (Nat.le_refl _) ⟨_, rfl, hk⟩))⟩
    · skip
      rcases i with _ | i
      · have he : some "java/util/NoSuchElementException" = some E := he
        cases he
        exact ⟨24, ⟨[(0, 17, 20, 30)], (0, 17, 24, 21), [], rfl, List.forall_mem_cons.mpr ⟨⟨by decide, _, w_670, nk _ _ (by decide) (by decide) (by decide)⟩, fun _ h => absurd h List.not_mem_nil⟩, List.forall_mem_cons.mpr ⟨⟨rfl, by decide, rfl, w_622, ca_NSE⟩, fun _ h => absurd h List.not_mem_nil⟩⟩, fun q => h_astore dL_isExpired_24 rfl (Nat.le_of_ble_eq_true rfl) rfl (h_iconst dL_isExpired_26 rfl (h_ireturn dL_isExpired_27 rfl rfl (Nat.le_refl _) (Nat.le_refl _) ⟨_, rfl, hk⟩))⟩
      · have he : (none : Option String) = some E := he
        cases he
theorem hL_isOpen_run {G : GG} (gk : GOK G) (nk : NOK G) {σ : Mm} {x o : Nat} {p0 p1 : Int32} {K : Int32 → Mm → Prop} (hx : (mt σ x).1 = 9) (hrun : Runs G mX8_isOpen rX8_isOpen [vR (some x), vI p0, vI p1] σ (HLB K o ["java/lang/IndexOutOfBoundsException", "java/util/NoSuchElementException"])) : RunsH G mL_isOpen hL_isOpen rL_isOpen [vR (some x), vI p0, vI p1, vR (some o)] σ (HR K) := by
  refine RunsH.of (by decide +kernel) rfl (Nat.le_of_ble_eq_true rfl) ?_
  refine h_aload_n (i := 3) dL_isOpen_0 rfl rfl ?_
  refine h_iconst dL_isOpen_1 rfl ?_
  refine h_aload_n (i := 0) dL_isOpen_2 rfl rfl ?_
  refine h_iload_n (i := 1) dL_isOpen_3 rfl rfl ?_
  refine h_iload_n (i := 2) dL_isOpen_4 rfl rfl ?_
  refine h_callV (ci := 8) (Y := mX8_isOpen) (rmY := rX8_isOpen) (as := [vI p0, vI p1]) (S := [vI 0, vR (some o)]) gk dL_isOpen_5 gL_81 (by decide) rfl w_848 w_849 hx rfl rfl (Nat.le_of_ble_eq_true rfl) (by decide) ?_
  refine hrun.mono fun r t h => ?_
  rcases r with v | E
  · obtain ⟨z, rfl, ht, hk⟩ := h
    refine h_if_eq (tgt := 15) dL_isOpen_8 rfl (fun z0 => ?_) (fun z0 => ?_)
    · rw [if_pos z0] at hk
      refine h_lconst dL_isOpen_15 rfl (h_last gk dL_isOpen_16 ht vin1 (h_goto (tgt := 28) dL_isOpen_17 rfl ?_))
      exact h_iconst dL_isOpen_28 rfl (h_ireturn dL_isOpen_29 rfl rfl (Nat.le_refl _) (Nat.le_refl _) ⟨_, rfl, hk⟩)
    · rw [if_neg z0] at hk
      refine h_lconst dL_isOpen_11 rfl (h_goto (tgt := 16) dL_isOpen_12 rfl (h_last gk dL_isOpen_16 ht vin1 (h_goto (tgt := 28) dL_isOpen_17 rfl ?_)))
      exact h_iconst dL_isOpen_28 rfl (h_ireturn dL_isOpen_29 rfl rfl (Nat.le_refl _) (Nat.le_refl _) ⟨_, rfl, hk⟩)
  · obtain ⟨i, he, hk⟩ := h
    rcases i with _ | i
    · have he : some "java/lang/IndexOutOfBoundsException" = some E := he
      cases he
      exact ⟨20, ⟨[], (0, 17, 20, 30), [(0, 17, 24, 21)], rfl, fun _ h => absurd h List.not_mem_nil, List.forall_mem_cons.mpr ⟨⟨rfl, by decide, rfl, w_670, ca_IOB⟩, fun _ h => absurd h List.not_mem_nil⟩⟩, fun q => h_astore dL_isOpen_20 rfl (Nat.le_of_ble_eq_true rfl) rfl (h_iconst dL_isOpen_22 rfl (h_ireturn dL_isOpen_23 rfl rfl (Nat.le_refl _) (Nat.le_refl _) ⟨_, rfl, hk⟩))⟩
    · skip
      rcases i with _ | i
      · have he : some "java/util/NoSuchElementException" = some E := he
        cases he
        exact ⟨24, ⟨[(0, 17, 20, 30)], (0, 17, 24, 21), [], rfl, List.forall_mem_cons.mpr ⟨⟨by decide, _, w_670, nk _ _ (by decide) (by decide) (by decide)⟩, fun _ h => absurd h List.not_mem_nil⟩, List.forall_mem_cons.mpr ⟨⟨rfl, by decide, rfl, w_622, ca_NSE⟩, fun _ h => absurd h List.not_mem_nil⟩⟩, fun q => h_astore dL_isOpen_24 rfl (Nat.le_of_ble_eq_true rfl) rfl (h_iconst dL_isOpen_26 rfl (h_ireturn dL_isOpen_27 rfl rfl (Nat.le_refl _) (Nat.le_refl _) ⟨_, rfl, hk⟩))⟩
      · have he : (none : Option String) = some E := he
        cases he
theorem hL_isTrue_run {G : GG} (gk : GOK G) (nk : NOK G) {σ : Mm} {x o : Nat} {p0 p1 : Int32} {K : Int32 → Mm → Prop} (hx : (mt σ x).1 = 9) (hrun : Runs G mX8_isTrue rX8_isTrue [vR (some x), vI p0, vI p1] σ (HLB K o ["java/lang/IndexOutOfBoundsException", "java/util/NoSuchElementException"])) : RunsH G mL_isTrue hL_isTrue rL_isTrue [vR (some x), vI p0, vI p1, vR (some o)] σ (HR K) := by
  refine RunsH.of (by decide +kernel) rfl (Nat.le_of_ble_eq_true rfl) ?_
  refine h_aload_n (i := 3) dL_isTrue_0 rfl rfl ?_
  refine h_iconst dL_isTrue_1 rfl ?_
  refine h_aload_n (i := 0) dL_isTrue_2 rfl rfl ?_
  refine h_iload_n (i := 1) dL_isTrue_3 rfl rfl ?_
  refine h_iload_n (i := 2) dL_isTrue_4 rfl rfl ?_
  refine h_callV (ci := 8) (Y := mX8_isTrue) (rmY := rX8_isTrue) (as := [vI p0, vI p1]) (S := [vI 0, vR (some o)]) gk dL_isTrue_5 gL_84 (by decide) rfl w_855 w_856 hx rfl rfl (Nat.le_of_ble_eq_true rfl) (by decide) ?_
  refine hrun.mono fun r t h => ?_
  rcases r with v | E
  · obtain ⟨z, rfl, ht, hk⟩ := h
    refine h_if_eq (tgt := 15) dL_isTrue_8 rfl (fun z0 => ?_) (fun z0 => ?_)
    · rw [if_pos z0] at hk
      refine h_lconst dL_isTrue_15 rfl (h_last gk dL_isTrue_16 ht vin1 (h_goto (tgt := 28) dL_isTrue_17 rfl ?_))
      exact h_iconst dL_isTrue_28 rfl (h_ireturn dL_isTrue_29 rfl rfl (Nat.le_refl _) (Nat.le_refl _) ⟨_, rfl, hk⟩)
    · rw [if_neg z0] at hk
      refine h_lconst dL_isTrue_11 rfl (h_goto (tgt := 16) dL_isTrue_12 rfl (h_last gk dL_isTrue_16 ht vin1 (h_goto (tgt := 28) dL_isTrue_17 rfl ?_)))
      exact h_iconst dL_isTrue_28 rfl (h_ireturn dL_isTrue_29 rfl rfl (Nat.le_refl _) (Nat.le_refl _) ⟨_, rfl, hk⟩)
  · obtain ⟨i, he, hk⟩ := h
    rcases i with _ | i
    · have he : some "java/lang/IndexOutOfBoundsException" = some E := he
      cases he
      exact ⟨20, ⟨[], (0, 17, 20, 30), [(0, 17, 24, 21)], rfl, fun _ h => absurd h List.not_mem_nil, List.forall_mem_cons.mpr ⟨⟨rfl, by decide, rfl, w_670, ca_IOB⟩, fun _ h => absurd h List.not_mem_nil⟩⟩, fun q => h_astore dL_isTrue_20 rfl (Nat.le_of_ble_eq_true rfl) rfl (h_iconst dL_isTrue_22 rfl (h_ireturn dL_isTrue_23 rfl rfl (Nat.le_refl _) (Nat.le_refl _) ⟨_, rfl, hk⟩))⟩
    · skip
      rcases i with _ | i
      · have he : some "java/util/NoSuchElementException" = some E := he
        cases he
        exact ⟨24, ⟨[(0, 17, 20, 30)], (0, 17, 24, 21), [], rfl, List.forall_mem_cons.mpr ⟨⟨by decide, _, w_670, nk _ _ (by decide) (by decide) (by decide)⟩, fun _ h => absurd h List.not_mem_nil⟩, List.forall_mem_cons.mpr ⟨⟨rfl, by decide, rfl, w_622, ca_NSE⟩, fun _ h => absurd h List.not_mem_nil⟩⟩, fun q => h_astore dL_isTrue_24 rfl (Nat.le_of_ble_eq_true rfl) rfl (h_iconst dL_isTrue_26 rfl (h_ireturn dL_isTrue_27 rfl rfl (Nat.le_refl _) (Nat.le_refl _) ⟨_, rfl, hk⟩))⟩
      · have he : (none : Option String) = some E := he
        cases he
theorem hL_isTrueBySteps_run {G : GG} (gk : GOK G) (nk : NOK G) {σ : Mm} {x o : Nat} {p0 p1 : Int32} {K : Int32 → Mm → Prop} (hx : (mt σ x).1 = 9) (hrun : Runs G mX8_isTrueBySteps rX8_isTrueBySteps [vR (some x), vI p0, vI p1] σ (HLB K o ["java/lang/IndexOutOfBoundsException", "java/util/NoSuchElementException"])) : RunsH G mL_isTrueBySteps hL_isTrueBySteps rL_isTrueBySteps [vR (some x), vI p0, vI p1, vR (some o)] σ (HR K) := by
  refine RunsH.of (by decide +kernel) rfl (Nat.le_of_ble_eq_true rfl) ?_
  refine h_aload_n (i := 3) dL_isTrueBySteps_0 rfl rfl ?_
  refine h_iconst dL_isTrueBySteps_1 rfl ?_
  refine h_aload_n (i := 0) dL_isTrueBySteps_2 rfl rfl ?_
  refine h_iload_n (i := 1) dL_isTrueBySteps_3 rfl rfl ?_
  refine h_iload_n (i := 2) dL_isTrueBySteps_4 rfl rfl ?_
  refine h_callV (ci := 8) (Y := mX8_isTrueBySteps) (rmY := rX8_isTrueBySteps) (as := [vI p0, vI p1]) (S := [vI 0, vR (some o)]) gk dL_isTrueBySteps_5 gL_87 (by decide) rfl w_863 w_864 hx rfl rfl (Nat.le_of_ble_eq_true rfl) (by decide) ?_
  refine hrun.mono fun r t h => ?_
  rcases r with v | E
  · obtain ⟨z, rfl, ht, hk⟩ := h
    refine h_if_eq (tgt := 15) dL_isTrueBySteps_8 rfl (fun z0 => ?_) (fun z0 => ?_)
    · rw [if_pos z0] at hk
      refine h_lconst dL_isTrueBySteps_15 rfl (h_last gk dL_isTrueBySteps_16 ht vin1 (h_goto (tgt := 28) dL_isTrueBySteps_17 rfl ?_))
      exact h_iconst dL_isTrueBySteps_28 rfl (h_ireturn dL_isTrueBySteps_29 rfl rfl (Nat.le_refl _) (Nat.le_refl _) ⟨_, rfl, hk⟩)
    · rw [if_neg z0] at hk
      refine h_lconst dL_isTrueBySteps_11 rfl (h_goto (tgt := 16) dL_isTrueBySteps_12 rfl (h_last gk dL_isTrueBySteps_16 ht vin1 (h_goto (tgt := 28) dL_isTrueBySteps_17 rfl ?_)))
      exact h_iconst dL_isTrueBySteps_28 rfl (h_ireturn dL_isTrueBySteps_29 rfl rfl (Nat.le_refl _) (Nat.le_refl _) ⟨_, rfl, hk⟩)
  · obtain ⟨i, he, hk⟩ := h
    rcases i with _ | i
    · have he : some "java/lang/IndexOutOfBoundsException" = some E := he
      cases he
      exact ⟨20, ⟨[], (0, 17, 20, 30), [(0, 17, 24, 21)], rfl, fun _ h => absurd h List.not_mem_nil, List.forall_mem_cons.mpr ⟨⟨rfl, by decide, rfl, w_670, ca_IOB⟩, fun _ h => absurd h List.not_mem_nil⟩⟩, fun q => h_astore dL_isTrueBySteps_20 rfl (Nat.le_of_ble_eq_true rfl) rfl (h_iconst dL_isTrueBySteps_22 rfl (h_ireturn dL_isTrueBySteps_23 rfl rfl (Nat.le_refl _) (Nat.le_refl _) ⟨_, rfl, hk⟩))⟩
    · skip
      rcases i with _ | i
      · have he : some "java/util/NoSuchElementException" = some E := he
        cases he
        exact ⟨24, ⟨[(0, 17, 20, 30)], (0, 17, 24, 21), [], rfl, List.forall_mem_cons.mpr ⟨⟨by decide, _, w_670, nk _ _ (by decide) (by decide) (by decide)⟩, fun _ h => absurd h List.not_mem_nil⟩, List.forall_mem_cons.mpr ⟨⟨rfl, by decide, rfl, w_622, ca_NSE⟩, fun _ h => absurd h List.not_mem_nil⟩⟩, fun q => h_astore dL_isTrueBySteps_24 rfl (Nat.le_of_ble_eq_true rfl) rfl (h_iconst dL_isTrueBySteps_26 rfl (h_ireturn dL_isTrueBySteps_27 rfl rfl (Nat.le_refl _) (Nat.le_refl _) ⟨_, rfl, hk⟩))⟩
      · have he : (none : Option String) = some E := he
        cases he
theorem hL_victimOf_run {G : GG} (gk : GOK G) (nk : NOK G) {σ : Mm} {x o : Nat} {p0 : Int32} {K : Int32 → Mm → Prop} (hx : (mt σ x).1 = 9) (hrun : Runs G mX8_victimOf rX8_victimOf [vR (some x), vI p0] σ (HL K o ["java/lang/IndexOutOfBoundsException", "java/util/NoSuchElementException"])) : RunsH G mL_victimOf hL_victimOf rL_victimOf [vR (some x), vI p0, vR (some o)] σ (HR K) := by
  refine RunsH.of (by decide +kernel) rfl (Nat.le_of_ble_eq_true rfl) ?_
  refine h_aload_n (i := 2) dL_victimOf_0 rfl rfl ?_
  refine h_iconst dL_victimOf_1 rfl ?_
  refine h_aload_n (i := 0) dL_victimOf_2 rfl rfl ?_
  refine h_iload_n (i := 1) dL_victimOf_3 rfl rfl ?_
  refine h_callV (ci := 8) (Y := mX8_victimOf) (rmY := rX8_victimOf) (as := [vI p0]) (S := [vI 0, vR (some o)]) gk dL_victimOf_4 gL_90 (by decide) rfl w_871 w_872 hx rfl rfl (Nat.le_of_ble_eq_true rfl) (by decide) ?_
  refine hrun.mono fun r t h => ?_
  rcases r with v | E
  · obtain ⟨z, rfl, ht, hk⟩ := h
    refine h_i2l dL_victimOf_7 rfl (h_last gk dL_victimOf_8 ht vin1 (h_goto (tgt := 18) dL_victimOf_9 rfl ?_))
    exact h_iconst dL_victimOf_18 rfl (h_ireturn dL_victimOf_19 rfl rfl (Nat.le_refl _) (Nat.le_refl _) ⟨_, rfl, hk⟩)
  · obtain ⟨i, he, hk⟩ := h
    rcases i with _ | i
    · have he : some "java/lang/IndexOutOfBoundsException" = some E := he
      cases he
      exact ⟨12, ⟨[], (0, 9, 12, 30), [(0, 9, 15, 21)], rfl, fun _ h => absurd h List.not_mem_nil, List.forall_mem_cons.mpr ⟨⟨rfl, by decide, rfl, w_670, ca_IOB⟩, fun _ h => absurd h List.not_mem_nil⟩⟩, fun q => h_astore_n (i := 3) dL_victimOf_12 rfl rfl (Nat.le_of_ble_eq_true rfl) rfl (h_iconst dL_victimOf_13 rfl (h_ireturn dL_victimOf_14 rfl rfl (Nat.le_refl _) (Nat.le_refl _) ⟨_, rfl, hk⟩))⟩
    · skip
      rcases i with _ | i
      · have he : some "java/util/NoSuchElementException" = some E := he
        cases he
        exact ⟨15, ⟨[(0, 9, 12, 30)], (0, 9, 15, 21), [], rfl, List.forall_mem_cons.mpr ⟨⟨by decide, _, w_670, nk _ _ (by decide) (by decide) (by decide)⟩, fun _ h => absurd h List.not_mem_nil⟩, List.forall_mem_cons.mpr ⟨⟨rfl, by decide, rfl, w_622, ca_NSE⟩, fun _ h => absurd h List.not_mem_nil⟩⟩, fun q => h_astore_n (i := 3) dL_victimOf_15 rfl rfl (Nat.le_of_ble_eq_true rfl) rfl (h_iconst dL_victimOf_16 rfl (h_ireturn dL_victimOf_17 rfl rfl (Nat.le_refl _) (Nat.le_refl _) ⟨_, rfl, hk⟩))⟩
      · have he : (none : Option String) = some E := he
        cases he
theorem hL_victimByScan_run {G : GG} (gk : GOK G) (nk : NOK G) {σ : Mm} {x o : Nat} {p0 : Int32} {K : Int32 → Mm → Prop} (hx : (mt σ x).1 = 9) (hrun : Runs G mX8_victimByScan rX8_victimByScan [vR (some x), vI p0] σ (HL K o ["java/lang/IndexOutOfBoundsException", "java/util/NoSuchElementException"])) : RunsH G mL_victimByScan hL_victimByScan rL_victimByScan [vR (some x), vI p0, vR (some o)] σ (HR K) := by
  refine RunsH.of (by decide +kernel) rfl (Nat.le_of_ble_eq_true rfl) ?_
  refine h_aload_n (i := 2) dL_victimByScan_0 rfl rfl ?_
  refine h_iconst dL_victimByScan_1 rfl ?_
  refine h_aload_n (i := 0) dL_victimByScan_2 rfl rfl ?_
  refine h_iload_n (i := 1) dL_victimByScan_3 rfl rfl ?_
  refine h_callV (ci := 8) (Y := mX8_victimByScan) (rmY := rX8_victimByScan) (as := [vI p0]) (S := [vI 0, vR (some o)]) gk dL_victimByScan_4 gL_93 (by decide) rfl w_879 w_880 hx rfl rfl (Nat.le_of_ble_eq_true rfl) (by decide) ?_
  refine hrun.mono fun r t h => ?_
  rcases r with v | E
  · obtain ⟨z, rfl, ht, hk⟩ := h
    refine h_i2l dL_victimByScan_7 rfl (h_last gk dL_victimByScan_8 ht vin1 (h_goto (tgt := 18) dL_victimByScan_9 rfl ?_))
    exact h_iconst dL_victimByScan_18 rfl (h_ireturn dL_victimByScan_19 rfl rfl (Nat.le_refl _) (Nat.le_refl _) ⟨_, rfl, hk⟩)
  · obtain ⟨i, he, hk⟩ := h
    rcases i with _ | i
    · have he : some "java/lang/IndexOutOfBoundsException" = some E := he
      cases he
      exact ⟨12, ⟨[], (0, 9, 12, 30), [(0, 9, 15, 21)], rfl, fun _ h => absurd h List.not_mem_nil, List.forall_mem_cons.mpr ⟨⟨rfl, by decide, rfl, w_670, ca_IOB⟩, fun _ h => absurd h List.not_mem_nil⟩⟩, fun q => h_astore_n (i := 3) dL_victimByScan_12 rfl rfl (Nat.le_of_ble_eq_true rfl) rfl (h_iconst dL_victimByScan_13 rfl (h_ireturn dL_victimByScan_14 rfl rfl (Nat.le_refl _) (Nat.le_refl _) ⟨_, rfl, hk⟩))⟩
    · skip
      rcases i with _ | i
      · have he : some "java/util/NoSuchElementException" = some E := he
        cases he
        exact ⟨15, ⟨[(0, 9, 12, 30)], (0, 9, 15, 21), [], rfl, List.forall_mem_cons.mpr ⟨⟨by decide, _, w_670, nk _ _ (by decide) (by decide) (by decide)⟩, fun _ h => absurd h List.not_mem_nil⟩, List.forall_mem_cons.mpr ⟨⟨rfl, by decide, rfl, w_622, ca_NSE⟩, fun _ h => absurd h List.not_mem_nil⟩⟩, fun q => h_astore_n (i := 3) dL_victimByScan_15 rfl rfl (Nat.le_of_ble_eq_true rfl) rfl (h_iconst dL_victimByScan_16 rfl (h_ireturn dL_victimByScan_17 rfl rfl (Nat.le_refl _) (Nat.le_refl _) ⟨_, rfl, hk⟩))⟩
      · have he : (none : Option String) = some E := he
        cases he
theorem hL_hear_run {G : GG} (gk : GOK G) (nk : NOK G) {σ : Mm} {x o : Nat} {p0 p1 : Int32} {K : Int32 → Mm → Prop} (hx : (mt σ x).1 = 9) (hrun : Runs G mX8_hear rX8_hear [vR (some x), vI p0, vI p1] σ (HL K o ["java/lang/IndexOutOfBoundsException", "java/util/NoSuchElementException"])) : RunsH G mL_hear hL_hear rL_hear [vR (some x), vI p0, vI p1, vR (some o)] σ (HR K) := by
  refine RunsH.of (by decide +kernel) rfl (Nat.le_of_ble_eq_true rfl) ?_
  refine h_aload_n (i := 3) dL_hear_0 rfl rfl ?_
  refine h_iconst dL_hear_1 rfl ?_
  refine h_aload_n (i := 0) dL_hear_2 rfl rfl ?_
  refine h_iload_n (i := 1) dL_hear_3 rfl rfl ?_
  refine h_iload_n (i := 2) dL_hear_4 rfl rfl ?_
  refine h_callV (ci := 8) (Y := mX8_hear) (rmY := rX8_hear) (as := [vI p0, vI p1]) (S := [vI 0, vR (some o)]) gk dL_hear_5 gL_96 (by decide) rfl w_886 w_887 hx rfl rfl (Nat.le_of_ble_eq_true rfl) (by decide) ?_
  refine hrun.mono fun r t h => ?_
  rcases r with v | E
  · obtain ⟨z, rfl, ht, hk⟩ := h
    refine h_i2l dL_hear_8 rfl (h_last gk dL_hear_9 ht vin1 (h_goto (tgt := 21) dL_hear_10 rfl ?_))
    exact h_iconst dL_hear_21 rfl (h_ireturn dL_hear_22 rfl rfl (Nat.le_refl _) (Nat.le_refl _) ⟨_, rfl, hk⟩)
  · obtain ⟨i, he, hk⟩ := h
    rcases i with _ | i
    · have he : some "java/lang/IndexOutOfBoundsException" = some E := he
      cases he
      exact ⟨13, ⟨[], (0, 10, 13, 30), [(0, 10, 17, 21)], rfl, fun _ h => absurd h List.not_mem_nil, List.forall_mem_cons.mpr ⟨⟨rfl, by decide, rfl, w_670, ca_IOB⟩, fun _ h => absurd h List.not_mem_nil⟩⟩, fun q => h_astore dL_hear_13 rfl (Nat.le_of_ble_eq_true rfl) rfl (h_iconst dL_hear_15 rfl (h_ireturn dL_hear_16 rfl rfl (Nat.le_refl _) (Nat.le_refl _) ⟨_, rfl, hk⟩))⟩
    · skip
      rcases i with _ | i
      · have he : some "java/util/NoSuchElementException" = some E := he
        cases he
        exact ⟨17, ⟨[(0, 10, 13, 30)], (0, 10, 17, 21), [], rfl, List.forall_mem_cons.mpr ⟨⟨by decide, _, w_670, nk _ _ (by decide) (by decide) (by decide)⟩, fun _ h => absurd h List.not_mem_nil⟩, List.forall_mem_cons.mpr ⟨⟨rfl, by decide, rfl, w_622, ca_NSE⟩, fun _ h => absurd h List.not_mem_nil⟩⟩, fun q => h_astore dL_hear_17 rfl (Nat.le_of_ble_eq_true rfl) rfl (h_iconst dL_hear_19 rfl (h_ireturn dL_hear_20 rfl rfl (Nat.le_refl _) (Nat.le_refl _) ⟨_, rfl, hk⟩))⟩
      · have he : (none : Option String) = some E := he
        cases he
theorem hL_outcomeOf_run {G : GG} (gk : GOK G) (nk : NOK G) {σ : Mm} {x o : Nat} {p0 p1 : Int32} {K : Int32 → Mm → Prop} (hx : (mt σ x).1 = 9) (hrun : Runs G mX8_outcomeOf rX8_outcomeOf [vR (some x), vI p0, vI p1] σ (HL K o ["java/lang/IndexOutOfBoundsException", "java/util/NoSuchElementException"])) : RunsH G mL_outcomeOf hL_outcomeOf rL_outcomeOf [vR (some x), vI p0, vI p1, vR (some o)] σ (HR K) := by
  refine RunsH.of (by decide +kernel) rfl (Nat.le_of_ble_eq_true rfl) ?_
  refine h_aload_n (i := 3) dL_outcomeOf_0 rfl rfl ?_
  refine h_iconst dL_outcomeOf_1 rfl ?_
  refine h_aload_n (i := 0) dL_outcomeOf_2 rfl rfl ?_
  refine h_iload_n (i := 1) dL_outcomeOf_3 rfl rfl ?_
  refine h_iload_n (i := 2) dL_outcomeOf_4 rfl rfl ?_
  refine h_callV (ci := 8) (Y := mX8_outcomeOf) (rmY := rX8_outcomeOf) (as := [vI p0, vI p1]) (S := [vI 0, vR (some o)]) gk dL_outcomeOf_5 gL_99 (by decide) rfl w_930 w_931 hx rfl rfl (Nat.le_of_ble_eq_true rfl) (by decide) ?_
  refine hrun.mono fun r t h => ?_
  rcases r with v | E
  · obtain ⟨z, rfl, ht, hk⟩ := h
    refine h_i2l dL_outcomeOf_8 rfl (h_last gk dL_outcomeOf_9 ht vin1 (h_goto (tgt := 21) dL_outcomeOf_10 rfl ?_))
    exact h_iconst dL_outcomeOf_21 rfl (h_ireturn dL_outcomeOf_22 rfl rfl (Nat.le_refl _) (Nat.le_refl _) ⟨_, rfl, hk⟩)
  · obtain ⟨i, he, hk⟩ := h
    rcases i with _ | i
    · have he : some "java/lang/IndexOutOfBoundsException" = some E := he
      cases he
      exact ⟨13, ⟨[], (0, 10, 13, 30), [(0, 10, 17, 21)], rfl, fun _ h => absurd h List.not_mem_nil, List.forall_mem_cons.mpr ⟨⟨rfl, by decide, rfl, w_670, ca_IOB⟩, fun _ h => absurd h List.not_mem_nil⟩⟩, fun q => h_astore dL_outcomeOf_13 rfl (Nat.le_of_ble_eq_true rfl) rfl (h_iconst dL_outcomeOf_15 rfl (h_ireturn dL_outcomeOf_16 rfl rfl (Nat.le_refl _) (Nat.le_refl _) ⟨_, rfl, hk⟩))⟩
    · skip
      rcases i with _ | i
      · have he : some "java/util/NoSuchElementException" = some E := he
        cases he
        exact ⟨17, ⟨[(0, 10, 13, 30)], (0, 10, 17, 21), [], rfl, List.forall_mem_cons.mpr ⟨⟨by decide, _, w_670, nk _ _ (by decide) (by decide) (by decide)⟩, fun _ h => absurd h List.not_mem_nil⟩, List.forall_mem_cons.mpr ⟨⟨rfl, by decide, rfl, w_622, ca_NSE⟩, fun _ h => absurd h List.not_mem_nil⟩⟩, fun q => h_astore dL_outcomeOf_17 rfl (Nat.le_of_ble_eq_true rfl) rfl (h_iconst dL_outcomeOf_19 rfl (h_ireturn dL_outcomeOf_20 rfl rfl (Nat.le_refl _) (Nat.le_refl _) ⟨_, rfl, hk⟩))⟩
      · have he : (none : Option String) = some E := he
        cases he
theorem hL_warm_run {G : GG} (gk : GOK G) (nk : NOK G) {σ : Mm} {x o : Nat} {p0 p1 p2 : Int32} {K : Int32 → Mm → Prop} (hx : (mt σ x).1 = 9) (hrun : Runs G mX8_warm rX8_warm [vR (some x), vI p0, vI p1, vI p2] σ (HL K o ["java/lang/IndexOutOfBoundsException", "java/util/NoSuchElementException", "java/lang/IllegalArgumentException", "java/lang/IllegalStateException"])) : RunsH G mL_warm hL_warm rL_warm [vR (some x), vI p0, vI p1, vI p2, vR (some o)] σ (HR K) := by
  refine RunsH.of (by decide +kernel) rfl (Nat.le_of_ble_eq_true rfl) ?_
  refine h_aload dL_warm_0 rfl ?_
  refine h_iconst dL_warm_2 rfl ?_
  refine h_aload_n (i := 0) dL_warm_3 rfl rfl ?_
  refine h_iload_n (i := 1) dL_warm_4 rfl rfl ?_
  refine h_iload_n (i := 2) dL_warm_5 rfl rfl ?_
  refine h_iload_n (i := 3) dL_warm_6 rfl rfl ?_
  refine h_callV (ci := 8) (Y := mX8_warm) (rmY := rX8_warm) (as := [vI p0, vI p1, vI p2]) (S := [vI 0, vR (some o)]) gk dL_warm_7 gL_103 (by decide) rfl w_938 w_939 hx rfl rfl (Nat.le_of_ble_eq_true rfl) (by decide) ?_
  refine hrun.mono fun r t h => ?_
  rcases r with v | E
  · obtain ⟨z, rfl, ht, hk⟩ := h
    refine h_i2l dL_warm_10 rfl (h_last gk dL_warm_11 ht vin1 (h_goto (tgt := 31) dL_warm_12 rfl ?_))
    exact h_iconst dL_warm_31 rfl (h_ireturn dL_warm_32 rfl rfl (Nat.le_refl _) (Nat.le_refl _) ⟨_, rfl, hk⟩)
  · obtain ⟨i, he, hk⟩ := h
    rcases i with _ | i
    · have he : some "java/lang/IndexOutOfBoundsException" = some E := he
      cases he
      exact ⟨15, ⟨[], (0, 12, 15, 30), [(0, 12, 19, 21), (0, 12, 23, 13), (0, 12, 27, 15)], rfl, fun _ h => absurd h List.not_mem_nil, List.forall_mem_cons.mpr ⟨⟨rfl, by decide, rfl, w_670, ca_IOB⟩, fun _ h => absurd h List.not_mem_nil⟩⟩, fun q => h_astore dL_warm_15 rfl (Nat.le_of_ble_eq_true rfl) rfl (h_iconst dL_warm_17 rfl (h_ireturn dL_warm_18 rfl rfl (Nat.le_refl _) (Nat.le_refl _) ⟨_, rfl, hk⟩))⟩
    · skip
      rcases i with _ | i
      · have he : some "java/util/NoSuchElementException" = some E := he
        cases he
        exact ⟨19, ⟨[(0, 12, 15, 30)], (0, 12, 19, 21), [(0, 12, 23, 13), (0, 12, 27, 15)], rfl, List.forall_mem_cons.mpr ⟨⟨by decide, _, w_670, nk _ _ (by decide) (by decide) (by decide)⟩, fun _ h => absurd h List.not_mem_nil⟩, List.forall_mem_cons.mpr ⟨⟨rfl, by decide, rfl, w_622, ca_NSE⟩, fun _ h => absurd h List.not_mem_nil⟩⟩, fun q => h_astore dL_warm_19 rfl (Nat.le_of_ble_eq_true rfl) rfl (h_iconst dL_warm_21 rfl (h_ireturn dL_warm_22 rfl rfl (Nat.le_refl _) (Nat.le_refl _) ⟨_, rfl, hk⟩))⟩
      · skip
        rcases i with _ | i
        · have he : some "java/lang/IllegalArgumentException" = some E := he
          cases he
          exact ⟨23, ⟨[(0, 12, 15, 30), (0, 12, 19, 21)], (0, 12, 23, 13), [(0, 12, 27, 15)], rfl, List.forall_mem_cons.mpr ⟨⟨by decide, _, w_670, nk _ _ (by decide) (by decide) (by decide)⟩, List.forall_mem_cons.mpr ⟨⟨by decide, _, w_622, nk _ _ (by decide) (by decide) (by decide)⟩, fun _ h => absurd h List.not_mem_nil⟩⟩, List.forall_mem_cons.mpr ⟨⟨rfl, by decide, rfl, w_458, ca_IAE⟩, fun _ h => absurd h List.not_mem_nil⟩⟩, fun q => h_astore dL_warm_23 rfl (Nat.le_of_ble_eq_true rfl) rfl (h_iconst dL_warm_25 rfl (h_ireturn dL_warm_26 rfl rfl (Nat.le_refl _) (Nat.le_refl _) ⟨_, rfl, hk⟩))⟩
        · skip
          rcases i with _ | i
          · have he : some "java/lang/IllegalStateException" = some E := he
            cases he
            exact ⟨27, ⟨[(0, 12, 15, 30), (0, 12, 19, 21), (0, 12, 23, 13)], (0, 12, 27, 15), [], rfl, List.forall_mem_cons.mpr ⟨⟨by decide, _, w_670, nk _ _ (by decide) (by decide) (by decide)⟩, List.forall_mem_cons.mpr ⟨⟨by decide, _, w_622, nk _ _ (by decide) (by decide) (by decide)⟩, List.forall_mem_cons.mpr ⟨⟨by decide, _, w_458, nk _ _ (by decide) (by decide) (by decide)⟩, fun _ h => absurd h List.not_mem_nil⟩⟩⟩, List.forall_mem_cons.mpr ⟨⟨rfl, by decide, rfl, w_459, ca_ISE⟩, fun _ h => absurd h List.not_mem_nil⟩⟩, fun q => h_astore dL_warm_27 rfl (Nat.le_of_ble_eq_true rfl) rfl (h_iconst dL_warm_29 rfl (h_ireturn dL_warm_30 rfl rfl (Nat.le_refl _) (Nat.le_refl _) ⟨_, rfl, hk⟩))⟩
          · have he : (none : Option String) = some E := he
            cases he
theorem hL_cancelWarming_run {G : GG} (gk : GOK G) (nk : NOK G) {σ : Mm} {x o : Nat} {p0 : Int32} {K : Int32 → Mm → Prop} (hx : (mt σ x).1 = 9) (hrun : Runs G mX8_cancelWarming rX8_cancelWarming [vR (some x), vI p0] σ (HL K o ["java/lang/IndexOutOfBoundsException"])) : RunsH G mL_cancelWarming hL_cancelWarming rL_cancelWarming [vR (some x), vI p0, vR (some o)] σ (HR K) := by
  refine RunsH.of (by decide +kernel) rfl (Nat.le_of_ble_eq_true rfl) ?_
  refine h_aload_n (i := 2) dL_cancelWarming_0 rfl rfl ?_
  refine h_iconst dL_cancelWarming_1 rfl ?_
  refine h_aload_n (i := 0) dL_cancelWarming_2 rfl rfl ?_
  refine h_iload_n (i := 1) dL_cancelWarming_3 rfl rfl ?_
  refine h_callV (ci := 8) (Y := mX8_cancelWarming) (rmY := rX8_cancelWarming) (as := [vI p0]) (S := [vI 0, vR (some o)]) gk dL_cancelWarming_4 gL_107 (by decide) rfl w_963 w_964 hx rfl rfl (Nat.le_of_ble_eq_true rfl) (by decide) ?_
  refine hrun.mono fun r t h => ?_
  rcases r with v | E
  · obtain ⟨z, rfl, ht, hk⟩ := h
    refine h_i2l dL_cancelWarming_7 rfl (h_last gk dL_cancelWarming_8 ht vin1 (h_goto (tgt := 15) dL_cancelWarming_9 rfl ?_))
    exact h_iconst dL_cancelWarming_15 rfl (h_ireturn dL_cancelWarming_16 rfl rfl (Nat.le_refl _) (Nat.le_refl _) ⟨_, rfl, hk⟩)
  · obtain ⟨i, he, hk⟩ := h
    rcases i with _ | i
    · have he : some "java/lang/IndexOutOfBoundsException" = some E := he
      cases he
      exact ⟨12, ⟨[], (0, 9, 12, 30), [], rfl, fun _ h => absurd h List.not_mem_nil, List.forall_mem_cons.mpr ⟨⟨rfl, by decide, rfl, w_670, ca_IOB⟩, fun _ h => absurd h List.not_mem_nil⟩⟩, fun q => h_astore_n (i := 3) dL_cancelWarming_12 rfl rfl (Nat.le_of_ble_eq_true rfl) rfl (h_iconst dL_cancelWarming_13 rfl (h_ireturn dL_cancelWarming_14 rfl rfl (Nat.le_refl _) (Nat.le_refl _) ⟨_, rfl, hk⟩))⟩
    · have he : (none : Option String) = some E := he
      cases he
theorem hL_pass_run {G : GG} (gk : GOK G) (nk : NOK G) {σ : Mm} {x o : Nat} {p0 : Int32} {K : Int32 → Mm → Prop} (hx : (mt σ x).1 = 9) (hrun : Runs G mX8_pass rX8_pass [vR (some x), vI p0] σ (HL K o ["java/lang/IllegalArgumentException"])) : RunsH G mL_pass hL_pass rL_pass [vR (some x), vI p0, vR (some o)] σ (HR K) := by
  refine RunsH.of (by decide +kernel) rfl (Nat.le_of_ble_eq_true rfl) ?_
  refine h_aload_n (i := 2) dL_pass_0 rfl rfl ?_
  refine h_iconst dL_pass_1 rfl ?_
  refine h_aload_n (i := 0) dL_pass_2 rfl rfl ?_
  refine h_iload_n (i := 1) dL_pass_3 rfl rfl ?_
  refine h_callV (ci := 8) (Y := mX8_pass) (rmY := rX8_pass) (as := [vI p0]) (S := [vI 0, vR (some o)]) gk dL_pass_4 gL_110 (by decide) rfl w_983 w_984 hx rfl rfl (Nat.le_of_ble_eq_true rfl) (by decide) ?_
  refine hrun.mono fun r t h => ?_
  rcases r with v | E
  · obtain ⟨z, rfl, ht, hk⟩ := h
    refine h_i2l dL_pass_7 rfl (h_last gk dL_pass_8 ht vin1 (h_goto (tgt := 15) dL_pass_9 rfl ?_))
    exact h_iconst dL_pass_15 rfl (h_ireturn dL_pass_16 rfl rfl (Nat.le_refl _) (Nat.le_refl _) ⟨_, rfl, hk⟩)
  · obtain ⟨i, he, hk⟩ := h
    rcases i with _ | i
    · have he : some "java/lang/IllegalArgumentException" = some E := he
      cases he
      exact ⟨12, ⟨[], (0, 9, 12, 13), [], rfl, fun _ h => absurd h List.not_mem_nil, List.forall_mem_cons.mpr ⟨⟨rfl, by decide, rfl, w_458, ca_IAE⟩, fun _ h => absurd h List.not_mem_nil⟩⟩, fun q => h_astore_n (i := 3) dL_pass_12 rfl rfl (Nat.le_of_ble_eq_true rfl) rfl (h_iconst dL_pass_13 rfl (h_ireturn dL_pass_14 rfl rfl (Nat.le_refl _) (Nat.le_refl _) ⟨_, rfl, hk⟩))⟩
    · have he : (none : Option String) = some E := he
      cases he
theorem hL_warmingMinute_run {G : GG} (gk : GOK G) (nk : NOK G) {σ : Mm} {x o : Nat} {p0 : Int32} {K : Int32 → Mm → Prop} (hx : (mt σ x).1 = 9) (hrun : Runs G mX8_warmingMinute rX8_warmingMinute [vR (some x), vI p0] σ (HL K o ["java/lang/IndexOutOfBoundsException"])) : RunsH G mL_warmingMinute hL_warmingMinute rL_warmingMinute [vR (some x), vI p0, vR (some o)] σ (HR K) := by
  refine RunsH.of (by decide +kernel) rfl (Nat.le_of_ble_eq_true rfl) ?_
  refine h_aload_n (i := 2) dL_warmingMinute_0 rfl rfl ?_
  refine h_iconst dL_warmingMinute_1 rfl ?_
  refine h_aload_n (i := 0) dL_warmingMinute_2 rfl rfl ?_
  refine h_iload_n (i := 1) dL_warmingMinute_3 rfl rfl ?_
  refine h_callV (ci := 8) (Y := mX8_warmingMinute) (rmY := rX8_warmingMinute) (as := [vI p0]) (S := [vI 0, vR (some o)]) gk dL_warmingMinute_4 gL_113 (by decide) rfl w_998 w_999 hx rfl rfl (Nat.le_of_ble_eq_true rfl) (by decide) ?_
  refine hrun.mono fun r t h => ?_
  rcases r with v | E
  · obtain ⟨z, rfl, ht, hk⟩ := h
    refine h_i2l dL_warmingMinute_7 rfl (h_last gk dL_warmingMinute_8 ht vin1 (h_goto (tgt := 15) dL_warmingMinute_9 rfl ?_))
    exact h_iconst dL_warmingMinute_15 rfl (h_ireturn dL_warmingMinute_16 rfl rfl (Nat.le_refl _) (Nat.le_refl _) ⟨_, rfl, hk⟩)
  · obtain ⟨i, he, hk⟩ := h
    rcases i with _ | i
    · have he : some "java/lang/IndexOutOfBoundsException" = some E := he
      cases he
      exact ⟨12, ⟨[], (0, 9, 12, 30), [], rfl, fun _ h => absurd h List.not_mem_nil, List.forall_mem_cons.mpr ⟨⟨rfl, by decide, rfl, w_670, ca_IOB⟩, fun _ h => absurd h List.not_mem_nil⟩⟩, fun q => h_astore_n (i := 3) dL_warmingMinute_12 rfl rfl (Nat.le_of_ble_eq_true rfl) rfl (h_iconst dL_warmingMinute_13 rfl (h_ireturn dL_warmingMinute_14 rfl rfl (Nat.le_refl _) (Nat.le_refl _) ⟨_, rfl, hk⟩))⟩
    · have he : (none : Option String) = some E := he
      cases he
theorem hL_warmingJar_run {G : GG} (gk : GOK G) (nk : NOK G) {σ : Mm} {x o : Nat} {p0 : Int32} {K : Int32 → Mm → Prop} (hx : (mt σ x).1 = 9) (hrun : Runs G mX8_warmingJar rX8_warmingJar [vR (some x), vI p0] σ (HL K o ["java/lang/IndexOutOfBoundsException"])) : RunsH G mL_warmingJar hL_warmingJar rL_warmingJar [vR (some x), vI p0, vR (some o)] σ (HR K) := by
  refine RunsH.of (by decide +kernel) rfl (Nat.le_of_ble_eq_true rfl) ?_
  refine h_aload_n (i := 2) dL_warmingJar_0 rfl rfl ?_
  refine h_iconst dL_warmingJar_1 rfl ?_
  refine h_aload_n (i := 0) dL_warmingJar_2 rfl rfl ?_
  refine h_iload_n (i := 1) dL_warmingJar_3 rfl rfl ?_
  refine h_callV (ci := 8) (Y := mX8_warmingJar) (rmY := rX8_warmingJar) (as := [vI p0]) (S := [vI 0, vR (some o)]) gk dL_warmingJar_4 gL_116 (by decide) rfl w_1005 w_1006 hx rfl rfl (Nat.le_of_ble_eq_true rfl) (by decide) ?_
  refine hrun.mono fun r t h => ?_
  rcases r with v | E
  · obtain ⟨z, rfl, ht, hk⟩ := h
    refine h_i2l dL_warmingJar_7 rfl (h_last gk dL_warmingJar_8 ht vin1 (h_goto (tgt := 15) dL_warmingJar_9 rfl ?_))
    exact h_iconst dL_warmingJar_15 rfl (h_ireturn dL_warmingJar_16 rfl rfl (Nat.le_refl _) (Nat.le_refl _) ⟨_, rfl, hk⟩)
  · obtain ⟨i, he, hk⟩ := h
    rcases i with _ | i
    · have he : some "java/lang/IndexOutOfBoundsException" = some E := he
      cases he
      exact ⟨12, ⟨[], (0, 9, 12, 30), [], rfl, fun _ h => absurd h List.not_mem_nil, List.forall_mem_cons.mpr ⟨⟨rfl, by decide, rfl, w_670, ca_IOB⟩, fun _ h => absurd h List.not_mem_nil⟩⟩, fun q => h_astore_n (i := 3) dL_warmingJar_12 rfl rfl (Nat.le_of_ble_eq_true rfl) rfl (h_iconst dL_warmingJar_13 rfl (h_ireturn dL_warmingJar_14 rfl rfl (Nat.le_refl _) (Nat.le_refl _) ⟨_, rfl, hk⟩))⟩
    · have he : (none : Option String) = some E := he
      cases he
theorem hL_misses_run {G : GG} (gk : GOK G) (nk : NOK G) {σ : Mm} {x o : Nat} {p0 : Int32} {K : Int32 → Mm → Prop} (hx : (mt σ x).1 = 9) (hrun : Runs G mX8_misses rX8_misses [vR (some x), vI p0] σ (HL K o ["java/lang/IllegalArgumentException"])) : RunsH G mL_misses hL_misses rL_misses [vR (some x), vI p0, vR (some o)] σ (HR K) := by
  refine RunsH.of (by decide +kernel) rfl (Nat.le_of_ble_eq_true rfl) ?_
  refine h_aload_n (i := 2) dL_misses_0 rfl rfl ?_
  refine h_iconst dL_misses_1 rfl ?_
  refine h_aload_n (i := 0) dL_misses_2 rfl rfl ?_
  refine h_iload_n (i := 1) dL_misses_3 rfl rfl ?_
  refine h_callV (ci := 8) (Y := mX8_misses) (rmY := rX8_misses) (as := [vI p0]) (S := [vI 0, vR (some o)]) gk dL_misses_4 gL_119 (by decide) rfl w_1012 w_1013 hx rfl rfl (Nat.le_of_ble_eq_true rfl) (by decide) ?_
  refine hrun.mono fun r t h => ?_
  rcases r with v | E
  · obtain ⟨z, rfl, ht, hk⟩ := h
    refine h_i2l dL_misses_7 rfl (h_last gk dL_misses_8 ht vin1 (h_goto (tgt := 15) dL_misses_9 rfl ?_))
    exact h_iconst dL_misses_15 rfl (h_ireturn dL_misses_16 rfl rfl (Nat.le_refl _) (Nat.le_refl _) ⟨_, rfl, hk⟩)
  · obtain ⟨i, he, hk⟩ := h
    rcases i with _ | i
    · have he : some "java/lang/IllegalArgumentException" = some E := he
      cases he
      exact ⟨12, ⟨[], (0, 9, 12, 13), [], rfl, fun _ h => absurd h List.not_mem_nil, List.forall_mem_cons.mpr ⟨⟨rfl, by decide, rfl, w_458, ca_IAE⟩, fun _ h => absurd h List.not_mem_nil⟩⟩, fun q => h_astore_n (i := 3) dL_misses_12 rfl rfl (Nat.le_of_ble_eq_true rfl) rfl (h_iconst dL_misses_13 rfl (h_ireturn dL_misses_14 rfl rfl (Nat.le_refl _) (Nat.le_refl _) ⟨_, rfl, hk⟩))⟩
    · have he : (none : Option String) = some E := he
      cases he
theorem hL_hitShare_run {G : GG} (gk : GOK G) (nk : NOK G) {σ : Mm} {x o : Nat} {K : Int32 → Mm → Prop} (hx : (mt σ x).1 = 9) (hrun : Runs G mX8_hitShare rX8_hitShare [vR (some x)] σ (HLF K o ["java/lang/ArithmeticException"])) : RunsH G mL_hitShare hL_hitShare rL_hitShare [vR (some x), vR (some o)] σ (HR K) := by
  refine RunsH.of (by decide +kernel) rfl (Nat.le_of_ble_eq_true rfl) ?_
  refine h_aload_n (i := 1) dL_hitShare_0 rfl rfl ?_
  refine h_iconst dL_hitShare_1 rfl ?_
  refine h_aload_n (i := 0) dL_hitShare_2 rfl rfl ?_
  refine h_callV (ci := 8) (Y := mX8_hitShare) (rmY := rX8_hitShare) (as := []) (S := [vI 0, vR (some o)]) gk dL_hitShare_3 gL_122 (by decide) rfl w_1034 w_1035 hx rfl rfl (Nat.le_of_ble_eq_true rfl) (by decide) ?_
  refine hrun.mono fun r t h => ?_
  rcases r with v | E
  · obtain ⟨z, rfl, hn, ht, hk⟩ := h
    refine h_f2d dL_hitShare_6 hn (h_dast gk dL_hitShare_7 ht vin1 (h_goto (tgt := 14) dL_hitShare_8 rfl ?_))
    exact h_iconst dL_hitShare_14 rfl (h_ireturn dL_hitShare_15 rfl rfl (Nat.le_refl _) (Nat.le_refl _) ⟨_, rfl, hk⟩)
  · obtain ⟨i, he, hk⟩ := h
    rcases i with _ | i
    · have he : some "java/lang/ArithmeticException" = some E := he
      cases he
      exact ⟨11, ⟨[], (0, 8, 11, 126), [], rfl, fun _ h => absurd h List.not_mem_nil, List.forall_mem_cons.mpr ⟨⟨rfl, by decide, rfl, w_1019, ca_ARI⟩, fun _ h => absurd h List.not_mem_nil⟩⟩, fun q => h_astore_n (i := 2) dL_hitShare_11 rfl rfl (Nat.le_of_ble_eq_true rfl) rfl (h_iconst dL_hitShare_12 rfl (h_ireturn dL_hitShare_13 rfl rfl (Nat.le_refl _) (Nat.le_refl _) ⟨_, rfl, hk⟩))⟩
    · have he : (none : Option String) = some E := he
      cases he
theorem hL_meanAge_run {G : GG} (gk : GOK G) (nk : NOK G) {σ : Mm} {x o : Nat} {K : Int32 → Mm → Prop} (hx : (mt σ x).1 = 9) (hrun : Runs G mX8_meanAge rX8_meanAge [vR (some x)] σ (HLD K o ["java/lang/ArithmeticException"])) : RunsH G mL_meanAge hL_meanAge rL_meanAge [vR (some x), vR (some o)] σ (HR K) := by
  refine RunsH.of (by decide +kernel) rfl (Nat.le_of_ble_eq_true rfl) ?_
  refine h_aload_n (i := 1) dL_meanAge_0 rfl rfl ?_
  refine h_iconst dL_meanAge_1 rfl ?_
  refine h_aload_n (i := 0) dL_meanAge_2 rfl rfl ?_
  refine h_callV (ci := 8) (Y := mX8_meanAge) (rmY := rX8_meanAge) (as := []) (S := [vI 0, vR (some o)]) gk dL_meanAge_3 gL_128 (by decide) rfl w_1044 w_1045 hx rfl rfl (Nat.le_of_ble_eq_true rfl) (by decide) ?_
  refine hrun.mono fun r t h => ?_
  rcases r with v | E
  · obtain ⟨z, rfl, ht, hk⟩ := h
    refine h_dast gk dL_meanAge_6 ht vin1 (h_goto (tgt := 13) dL_meanAge_7 rfl ?_)
    exact h_iconst dL_meanAge_13 rfl (h_ireturn dL_meanAge_14 rfl rfl (Nat.le_refl _) (Nat.le_refl _) ⟨_, rfl, hk⟩)
  · obtain ⟨i, he, hk⟩ := h
    rcases i with _ | i
    · have he : some "java/lang/ArithmeticException" = some E := he
      cases he
      exact ⟨10, ⟨[], (0, 7, 10, 126), [], rfl, fun _ h => absurd h List.not_mem_nil, List.forall_mem_cons.mpr ⟨⟨rfl, by decide, rfl, w_1019, ca_ARI⟩, fun _ h => absurd h List.not_mem_nil⟩⟩, fun q => h_astore_n (i := 2) dL_meanAge_10 rfl rfl (Nat.le_of_ble_eq_true rfl) rfl (h_iconst dL_meanAge_11 rfl (h_ireturn dL_meanAge_12 rfl rfl (Nat.le_refl _) (Nat.le_refl _) ⟨_, rfl, hk⟩))⟩
    · have he : (none : Option String) = some E := he
      cases he
theorem hL_shelfByHits_run {G : GG} (gk : GOK G) (nk : NOK G) {σ : Mm} {x o : Nat} {p0 : Int32} {K : Int32 → Mm → Prop} (hx : (mt σ x).1 = 9) (hrun : Runs G mX8_shelfByHits rX8_shelfByHits [vR (some x), vI p0] σ (HL K o ["java/util/NoSuchElementException"])) : RunsH G mL_shelfByHits hL_shelfByHits rL_shelfByHits [vR (some x), vI p0, vR (some o)] σ (HR K) := by
  refine RunsH.of (by decide +kernel) rfl (Nat.le_of_ble_eq_true rfl) ?_
  refine h_aload_n (i := 2) dL_shelfByHits_0 rfl rfl ?_
  refine h_iconst dL_shelfByHits_1 rfl ?_
  refine h_aload_n (i := 0) dL_shelfByHits_2 rfl rfl ?_
  refine h_iload_n (i := 1) dL_shelfByHits_3 rfl rfl ?_
  refine h_callV (ci := 8) (Y := mX8_shelfByHits) (rmY := rX8_shelfByHits) (as := [vI p0]) (S := [vI 0, vR (some o)]) gk dL_shelfByHits_4 gL_132 (by decide) rfl w_1056 w_1057 hx rfl rfl (Nat.le_of_ble_eq_true rfl) (by decide) ?_
  refine hrun.mono fun r t h => ?_
  rcases r with v | E
  · obtain ⟨z, rfl, ht, hk⟩ := h
    refine h_i2l dL_shelfByHits_7 rfl (h_last gk dL_shelfByHits_8 ht vin1 (h_goto (tgt := 15) dL_shelfByHits_9 rfl ?_))
    exact h_iconst dL_shelfByHits_15 rfl (h_ireturn dL_shelfByHits_16 rfl rfl (Nat.le_refl _) (Nat.le_refl _) ⟨_, rfl, hk⟩)
  · obtain ⟨i, he, hk⟩ := h
    rcases i with _ | i
    · have he : some "java/util/NoSuchElementException" = some E := he
      cases he
      exact ⟨12, ⟨[], (0, 9, 12, 21), [], rfl, fun _ h => absurd h List.not_mem_nil, List.forall_mem_cons.mpr ⟨⟨rfl, by decide, rfl, w_622, ca_NSE⟩, fun _ h => absurd h List.not_mem_nil⟩⟩, fun q => h_astore_n (i := 3) dL_shelfByHits_12 rfl rfl (Nat.le_of_ble_eq_true rfl) rfl (h_iconst dL_shelfByHits_13 rfl (h_ireturn dL_shelfByHits_14 rfl rfl (Nat.le_refl _) (Nat.le_refl _) ⟨_, rfl, hk⟩))⟩
    · have he : (none : Option String) = some E := he
      cases he
theorem hL_writeShelf_run {G : GG} (gk : GOK G) (nk : NOK G) {σ : Mm} {x o : Nat} {p0 : Int32} {K : Int32 → Mm → Prop} (hx : (mt σ x).1 = 9) (hrun : Runs G mX8_writeShelf rX8_writeShelf [vR (some x), vI p0] σ (HL K o ["java/lang/IndexOutOfBoundsException"])) : RunsH G mL_writeShelf hL_writeShelf rL_writeShelf [vR (some x), vI p0, vR (some o)] σ (HR K) := by
  refine RunsH.of (by decide +kernel) rfl (Nat.le_of_ble_eq_true rfl) ?_
  refine h_aload_n (i := 2) dL_writeShelf_0 rfl rfl ?_
  refine h_iconst dL_writeShelf_1 rfl ?_
  refine h_aload_n (i := 0) dL_writeShelf_2 rfl rfl ?_
  refine h_iload_n (i := 1) dL_writeShelf_3 rfl rfl ?_
  refine h_callV (ci := 8) (Y := mX8_writeShelf) (rmY := rX8_writeShelf) (as := [vI p0]) (S := [vI 0, vR (some o)]) gk dL_writeShelf_4 gL_135 (by decide) rfl w_1068 w_1069 hx rfl rfl (Nat.le_of_ble_eq_true rfl) (by decide) ?_
  refine hrun.mono fun r t h => ?_
  rcases r with v | E
  · obtain ⟨z, rfl, ht, hk⟩ := h
    refine h_i2l dL_writeShelf_7 rfl (h_last gk dL_writeShelf_8 ht vin1 (h_goto (tgt := 15) dL_writeShelf_9 rfl ?_))
    exact h_iconst dL_writeShelf_15 rfl (h_ireturn dL_writeShelf_16 rfl rfl (Nat.le_refl _) (Nat.le_refl _) ⟨_, rfl, hk⟩)
  · obtain ⟨i, he, hk⟩ := h
    rcases i with _ | i
    · have he : some "java/lang/IndexOutOfBoundsException" = some E := he
      cases he
      exact ⟨12, ⟨[], (0, 9, 12, 30), [], rfl, fun _ h => absurd h List.not_mem_nil, List.forall_mem_cons.mpr ⟨⟨rfl, by decide, rfl, w_670, ca_IOB⟩, fun _ h => absurd h List.not_mem_nil⟩⟩, fun q => h_astore_n (i := 3) dL_writeShelf_12 rfl rfl (Nat.le_of_ble_eq_true rfl) rfl (h_iconst dL_writeShelf_13 rfl (h_ireturn dL_writeShelf_14 rfl rfl (Nat.le_refl _) (Nat.le_refl _) ⟨_, rfl, hk⟩))⟩
    · have he : (none : Option String) = some E := he
      cases he
theorem hL_lineAt_run {G : GG} (gk : GOK G) (nk : NOK G) {σ : Mm} {x o : Nat} {p0 : Int32} {K : Int32 → Mm → Prop} (hx : (mt σ x).1 = 9) (hrun : Runs G mX8_lineAt rX8_lineAt [vR (some x), vI p0] σ (HL K o ["java/lang/IndexOutOfBoundsException"])) : RunsH G mL_lineAt hL_lineAt rL_lineAt [vR (some x), vI p0, vR (some o)] σ (HR K) := by
  refine RunsH.of (by decide +kernel) rfl (Nat.le_of_ble_eq_true rfl) ?_
  refine h_aload_n (i := 2) dL_lineAt_0 rfl rfl ?_
  refine h_iconst dL_lineAt_1 rfl ?_
  refine h_aload_n (i := 0) dL_lineAt_2 rfl rfl ?_
  refine h_iload_n (i := 1) dL_lineAt_3 rfl rfl ?_
  refine h_callV (ci := 8) (Y := mX8_lineAt) (rmY := rX8_lineAt) (as := [vI p0]) (S := [vI 0, vR (some o)]) gk dL_lineAt_4 gL_138 (by decide) rfl w_1360 w_1361 hx rfl rfl (Nat.le_of_ble_eq_true rfl) (by decide) ?_
  refine hrun.mono fun r t h => ?_
  rcases r with v | E
  · obtain ⟨z, rfl, ht, hk⟩ := h
    refine h_i2l dL_lineAt_7 rfl (h_last gk dL_lineAt_8 ht vin1 (h_goto (tgt := 15) dL_lineAt_9 rfl ?_))
    exact h_iconst dL_lineAt_15 rfl (h_ireturn dL_lineAt_16 rfl rfl (Nat.le_refl _) (Nat.le_refl _) ⟨_, rfl, hk⟩)
  · obtain ⟨i, he, hk⟩ := h
    rcases i with _ | i
    · have he : some "java/lang/IndexOutOfBoundsException" = some E := he
      cases he
      exact ⟨12, ⟨[], (0, 9, 12, 30), [], rfl, fun _ h => absurd h List.not_mem_nil, List.forall_mem_cons.mpr ⟨⟨rfl, by decide, rfl, w_670, ca_IOB⟩, fun _ h => absurd h List.not_mem_nil⟩⟩, fun q => h_astore_n (i := 3) dL_lineAt_12 rfl rfl (Nat.le_of_ble_eq_true rfl) rfl (h_iconst dL_lineAt_13 rfl (h_ireturn dL_lineAt_14 rfl rfl (Nat.le_refl _) (Nat.le_refl _) ⟨_, rfl, hk⟩))⟩
    · have he : (none : Option String) = some E := he
      cases he
theorem hL_type_run {G : GG} (gk : GOK G) (nk : NOK G) {σ : Mm} {x o : Nat} {p0 : Int32} {K : Int32 → Mm → Prop} (hx : (mt σ x).1 = 9) (hrun : Runs G mX8_type rX8_type [vR (some x), vI p0] σ (HL K o ["java/lang/IllegalArgumentException", "java/lang/IllegalStateException"])) : RunsH G mL_type hL_type rL_type [vR (some x), vI p0, vR (some o)] σ (HR K) := by
  refine RunsH.of (by decide +kernel) rfl (Nat.le_of_ble_eq_true rfl) ?_
  refine h_aload_n (i := 2) dL_type_0 rfl rfl ?_
  refine h_iconst dL_type_1 rfl ?_
  refine h_aload_n (i := 0) dL_type_2 rfl rfl ?_
  refine h_iload_n (i := 1) dL_type_3 rfl rfl ?_
  refine h_callV (ci := 8) (Y := mX8_type) (rmY := rX8_type) (as := [vI p0]) (S := [vI 0, vR (some o)]) gk dL_type_4 gL_141 (by decide) rfl w_1378 w_1379 hx rfl rfl (Nat.le_of_ble_eq_true rfl) (by decide) ?_
  refine hrun.mono fun r t h => ?_
  rcases r with v | E
  · obtain ⟨z, rfl, ht, hk⟩ := h
    refine h_i2l dL_type_7 rfl (h_last gk dL_type_8 ht vin1 (h_goto (tgt := 18) dL_type_9 rfl ?_))
    exact h_iconst dL_type_18 rfl (h_ireturn dL_type_19 rfl rfl (Nat.le_refl _) (Nat.le_refl _) ⟨_, rfl, hk⟩)
  · obtain ⟨i, he, hk⟩ := h
    rcases i with _ | i
    · have he : some "java/lang/IllegalArgumentException" = some E := he
      cases he
      exact ⟨12, ⟨[], (0, 9, 12, 13), [(0, 9, 15, 15)], rfl, fun _ h => absurd h List.not_mem_nil, List.forall_mem_cons.mpr ⟨⟨rfl, by decide, rfl, w_458, ca_IAE⟩, fun _ h => absurd h List.not_mem_nil⟩⟩, fun q => h_astore_n (i := 3) dL_type_12 rfl rfl (Nat.le_of_ble_eq_true rfl) rfl (h_iconst dL_type_13 rfl (h_ireturn dL_type_14 rfl rfl (Nat.le_refl _) (Nat.le_refl _) ⟨_, rfl, hk⟩))⟩
    · skip
      rcases i with _ | i
      · have he : some "java/lang/IllegalStateException" = some E := he
        cases he
        exact ⟨15, ⟨[(0, 9, 12, 13)], (0, 9, 15, 15), [], rfl, List.forall_mem_cons.mpr ⟨⟨by decide, _, w_458, nk _ _ (by decide) (by decide) (by decide)⟩, fun _ h => absurd h List.not_mem_nil⟩, List.forall_mem_cons.mpr ⟨⟨rfl, by decide, rfl, w_459, ca_ISE⟩, fun _ h => absurd h List.not_mem_nil⟩⟩, fun q => h_astore_n (i := 3) dL_type_15 rfl rfl (Nat.le_of_ble_eq_true rfl) rfl (h_iconst dL_type_16 rfl (h_ireturn dL_type_17 rfl rfl (Nat.le_refl _) (Nat.le_refl _) ⟨_, rfl, hk⟩))⟩
      · have he : (none : Option String) = some E := he
        cases he
theorem hL_execute_run {G : GG} (gk : GOK G) (nk : NOK G) {σ : Mm} {x o : Nat} {K : Int32 → Mm → Prop} (hx : (mt σ x).1 = 9) (hrun : Runs G mX8_execute rX8_execute [vR (some x)] σ (HL K o ["java/lang/IllegalArgumentException", "java/lang/IllegalStateException"])) : RunsH G mL_execute hL_execute rL_execute [vR (some x), vR (some o)] σ (HR K) := by
  refine RunsH.of (by decide +kernel) rfl (Nat.le_of_ble_eq_true rfl) ?_
  refine h_aload_n (i := 1) dL_execute_0 rfl rfl ?_
  refine h_iconst dL_execute_1 rfl ?_
  refine h_aload_n (i := 0) dL_execute_2 rfl rfl ?_
  refine h_callV (ci := 8) (Y := mX8_execute) (rmY := rX8_execute) (as := []) (S := [vI 0, vR (some o)]) gk dL_execute_3 gL_144 (by decide) rfl w_1391 w_1392 hx rfl rfl (Nat.le_of_ble_eq_true rfl) (by decide) ?_
  refine hrun.mono fun r t h => ?_
  rcases r with v | E
  · obtain ⟨z, rfl, ht, hk⟩ := h
    refine h_i2l dL_execute_6 rfl (h_last gk dL_execute_7 ht vin1 (h_goto (tgt := 17) dL_execute_8 rfl ?_))
    exact h_iconst dL_execute_17 rfl (h_ireturn dL_execute_18 rfl rfl (Nat.le_refl _) (Nat.le_refl _) ⟨_, rfl, hk⟩)
  · obtain ⟨i, he, hk⟩ := h
    rcases i with _ | i
    · have he : some "java/lang/IllegalArgumentException" = some E := he
      cases he
      exact ⟨11, ⟨[], (0, 8, 11, 13), [(0, 8, 14, 15)], rfl, fun _ h => absurd h List.not_mem_nil, List.forall_mem_cons.mpr ⟨⟨rfl, by decide, rfl, w_458, ca_IAE⟩, fun _ h => absurd h List.not_mem_nil⟩⟩, fun q => h_astore_n (i := 2) dL_execute_11 rfl rfl (Nat.le_of_ble_eq_true rfl) rfl (h_iconst dL_execute_12 rfl (h_ireturn dL_execute_13 rfl rfl (Nat.le_refl _) (Nat.le_refl _) ⟨_, rfl, hk⟩))⟩
    · skip
      rcases i with _ | i
      · have he : some "java/lang/IllegalStateException" = some E := he
        cases he
        exact ⟨14, ⟨[(0, 8, 11, 13)], (0, 8, 14, 15), [], rfl, List.forall_mem_cons.mpr ⟨⟨by decide, _, w_458, nk _ _ (by decide) (by decide) (by decide)⟩, fun _ h => absurd h List.not_mem_nil⟩, List.forall_mem_cons.mpr ⟨⟨rfl, by decide, rfl, w_459, ca_ISE⟩, fun _ h => absurd h List.not_mem_nil⟩⟩, fun q => h_astore_n (i := 2) dL_execute_14 rfl rfl (Nat.le_of_ble_eq_true rfl) rfl (h_iconst dL_execute_15 rfl (h_ireturn dL_execute_16 rfl rfl (Nat.le_refl _) (Nat.le_refl _) ⟨_, rfl, hk⟩))⟩
      · have he : (none : Option String) = some E := he
        cases he
theorem hL_errorPosition_run {G : GG} (gk : GOK G) (nk : NOK G) {σ : Mm} {x o : Nat} {K : Int32 → Mm → Prop} (hx : (mt σ x).1 = 9) (hrun : Runs G mX8_errorPosition rX8_errorPosition [vR (some x)] σ (HL K o ["java/util/NoSuchElementException"])) : RunsH G mL_errorPosition hL_errorPosition rL_errorPosition [vR (some x), vR (some o)] σ (HR K) := by
  refine RunsH.of (by decide +kernel) rfl (Nat.le_of_ble_eq_true rfl) ?_
  refine h_aload_n (i := 1) dL_errorPosition_0 rfl rfl ?_
  refine h_iconst dL_errorPosition_1 rfl ?_
  refine h_aload_n (i := 0) dL_errorPosition_2 rfl rfl ?_
  refine h_callV (ci := 8) (Y := mX8_errorPosition) (rmY := rX8_errorPosition) (as := []) (S := [vI 0, vR (some o)]) gk dL_errorPosition_3 gL_148 (by decide) rfl w_1498 w_1499 hx rfl rfl (Nat.le_of_ble_eq_true rfl) (by decide) ?_
  refine hrun.mono fun r t h => ?_
  rcases r with v | E
  · obtain ⟨z, rfl, ht, hk⟩ := h
    refine h_i2l dL_errorPosition_6 rfl (h_last gk dL_errorPosition_7 ht vin1 (h_goto (tgt := 14) dL_errorPosition_8 rfl ?_))
    exact h_iconst dL_errorPosition_14 rfl (h_ireturn dL_errorPosition_15 rfl rfl (Nat.le_refl _) (Nat.le_refl _) ⟨_, rfl, hk⟩)
  · obtain ⟨i, he, hk⟩ := h
    rcases i with _ | i
    · have he : some "java/util/NoSuchElementException" = some E := he
      cases he
      exact ⟨11, ⟨[], (0, 8, 11, 21), [], rfl, fun _ h => absurd h List.not_mem_nil, List.forall_mem_cons.mpr ⟨⟨rfl, by decide, rfl, w_622, ca_NSE⟩, fun _ h => absurd h List.not_mem_nil⟩⟩, fun q => h_astore_n (i := 2) dL_errorPosition_11 rfl rfl (Nat.le_of_ble_eq_true rfl) rfl (h_iconst dL_errorPosition_12 rfl (h_ireturn dL_errorPosition_13 rfl rfl (Nat.le_refl _) (Nat.le_refl _) ⟨_, rfl, hk⟩))⟩
    · have he : (none : Option String) = some E := he
      cases he
theorem hL_failedCommand_run {G : GG} (gk : GOK G) (nk : NOK G) {σ : Mm} {x o : Nat} {K : Int32 → Mm → Prop} (hx : (mt σ x).1 = 9) (hrun : Runs G mX8_failedCommand rX8_failedCommand [vR (some x)] σ (HL K o ["java/util/NoSuchElementException"])) : RunsH G mL_failedCommand hL_failedCommand rL_failedCommand [vR (some x), vR (some o)] σ (HR K) := by
  refine RunsH.of (by decide +kernel) rfl (Nat.le_of_ble_eq_true rfl) ?_
  refine h_aload_n (i := 1) dL_failedCommand_0 rfl rfl ?_
  refine h_iconst dL_failedCommand_1 rfl ?_
  refine h_aload_n (i := 0) dL_failedCommand_2 rfl rfl ?_
  refine h_callV (ci := 8) (Y := mX8_failedCommand) (rmY := rX8_failedCommand) (as := []) (S := [vI 0, vR (some o)]) gk dL_failedCommand_3 gL_151 (by decide) rfl w_1506 w_1507 hx rfl rfl (Nat.le_of_ble_eq_true rfl) (by decide) ?_
  refine hrun.mono fun r t h => ?_
  rcases r with v | E
  · obtain ⟨z, rfl, ht, hk⟩ := h
    refine h_i2l dL_failedCommand_6 rfl (h_last gk dL_failedCommand_7 ht vin1 (h_goto (tgt := 14) dL_failedCommand_8 rfl ?_))
    exact h_iconst dL_failedCommand_14 rfl (h_ireturn dL_failedCommand_15 rfl rfl (Nat.le_refl _) (Nat.le_refl _) ⟨_, rfl, hk⟩)
  · obtain ⟨i, he, hk⟩ := h
    rcases i with _ | i
    · have he : some "java/util/NoSuchElementException" = some E := he
      cases he
      exact ⟨11, ⟨[], (0, 8, 11, 21), [], rfl, fun _ h => absurd h List.not_mem_nil, List.forall_mem_cons.mpr ⟨⟨rfl, by decide, rfl, w_622, ca_NSE⟩, fun _ h => absurd h List.not_mem_nil⟩⟩, fun q => h_astore_n (i := 2) dL_failedCommand_11 rfl rfl (Nat.le_of_ble_eq_true rfl) rfl (h_iconst dL_failedCommand_12 rfl (h_ireturn dL_failedCommand_13 rfl rfl (Nat.le_refl _) (Nat.le_refl _) ⟨_, rfl, hk⟩))⟩
    · have he : (none : Option String) = some E := he
      cases he
theorem hL_undo_run {G : GG} (gk : GOK G) (nk : NOK G) {σ : Mm} {x o : Nat} {K : Int32 → Mm → Prop} (hx : (mt σ x).1 = 9) (hrun : Runs G mX8_undo rX8_undo [vR (some x)] σ (HL K o ["java/lang/IllegalStateException"])) : RunsH G mL_undo hL_undo rL_undo [vR (some x), vR (some o)] σ (HR K) := by
  refine RunsH.of (by decide +kernel) rfl (Nat.le_of_ble_eq_true rfl) ?_
  refine h_aload_n (i := 1) dL_undo_0 rfl rfl ?_
  refine h_iconst dL_undo_1 rfl ?_
  refine h_aload_n (i := 0) dL_undo_2 rfl rfl ?_
  refine h_callV (ci := 8) (Y := mX8_undo) (rmY := rX8_undo) (as := []) (S := [vI 0, vR (some o)]) gk dL_undo_3 gL_154 (by decide) rfl w_1514 w_1515 hx rfl rfl (Nat.le_of_ble_eq_true rfl) (by decide) ?_
  refine hrun.mono fun r t h => ?_
  rcases r with v | E
  · obtain ⟨z, rfl, ht, hk⟩ := h
    refine h_i2l dL_undo_6 rfl (h_last gk dL_undo_7 ht vin1 (h_goto (tgt := 14) dL_undo_8 rfl ?_))
    exact h_iconst dL_undo_14 rfl (h_ireturn dL_undo_15 rfl rfl (Nat.le_refl _) (Nat.le_refl _) ⟨_, rfl, hk⟩)
  · obtain ⟨i, he, hk⟩ := h
    rcases i with _ | i
    · have he : some "java/lang/IllegalStateException" = some E := he
      cases he
      exact ⟨11, ⟨[], (0, 8, 11, 15), [], rfl, fun _ h => absurd h List.not_mem_nil, List.forall_mem_cons.mpr ⟨⟨rfl, by decide, rfl, w_459, ca_ISE⟩, fun _ h => absurd h List.not_mem_nil⟩⟩, fun q => h_astore_n (i := 2) dL_undo_11 rfl rfl (Nat.le_of_ble_eq_true rfl) rfl (h_iconst dL_undo_12 rfl (h_ireturn dL_undo_13 rfl rfl (Nat.le_refl _) (Nat.le_refl _) ⟨_, rfl, hk⟩))⟩
    · have he : (none : Option String) = some E := he
      cases he
theorem hL_restore_run {G : GG} (gk : GOK G) (nk : NOK G) {σ : Mm} {x o : Nat} {K : Int32 → Mm → Prop} (hx : (mt σ x).1 = 9) (hrun : Runs G mX8_restore rX8_restore [vR (some x)] σ (HL K o ["java/lang/IllegalStateException"])) : RunsH G mL_restore hL_restore rL_restore [vR (some x), vR (some o)] σ (HR K) := by
  refine RunsH.of (by decide +kernel) rfl (Nat.le_of_ble_eq_true rfl) ?_
  refine h_aload_n (i := 1) dL_restore_0 rfl rfl ?_
  refine h_iconst dL_restore_1 rfl ?_
  refine h_aload_n (i := 0) dL_restore_2 rfl rfl ?_
  refine h_callV (ci := 8) (Y := mX8_restore) (rmY := rX8_restore) (as := []) (S := [vI 0, vR (some o)]) gk dL_restore_3 gL_157 (by decide) rfl w_1527 w_1528 hx rfl rfl (Nat.le_of_ble_eq_true rfl) (by decide) ?_
  refine hrun.mono fun r t h => ?_
  rcases r with v | E
  · obtain ⟨z, rfl, ht, hk⟩ := h
    refine h_i2l dL_restore_6 rfl (h_last gk dL_restore_7 ht vin1 (h_goto (tgt := 14) dL_restore_8 rfl ?_))
    exact h_iconst dL_restore_14 rfl (h_ireturn dL_restore_15 rfl rfl (Nat.le_refl _) (Nat.le_refl _) ⟨_, rfl, hk⟩)
  · obtain ⟨i, he, hk⟩ := h
    rcases i with _ | i
    · have he : some "java/lang/IllegalStateException" = some E := he
      cases he
      exact ⟨11, ⟨[], (0, 8, 11, 15), [], rfl, fun _ h => absurd h List.not_mem_nil, List.forall_mem_cons.mpr ⟨⟨rfl, by decide, rfl, w_459, ca_ISE⟩, fun _ h => absurd h List.not_mem_nil⟩⟩, fun q => h_astore_n (i := 2) dL_restore_11 rfl rfl (Nat.le_of_ble_eq_true rfl) rfl (h_iconst dL_restore_12 rfl (h_ireturn dL_restore_13 rfl rfl (Nat.le_refl _) (Nat.le_refl _) ⟨_, rfl, hk⟩))⟩
    · have he : (none : Option String) = some E := he
      cases he
