/-! ===== what the start brings ===== -/
def NRW : List Cond := flatC (Jvm.Cond.and given_1 narrow_1)
theorem nr_i {w : Cond} (i : Nat) (h : NRW[i]? = some w) : w ∈ NRW := List.mem_of_getElem? h
section ST
variable {s : State} {A : Array Value}
theorem st_fr : ∀ a : Nat, a < s.heap.size → ¬ (fun q : Nat => s.heap.size ≤ q) a := fun _ h => Nat.not_le.mpr h
def stOn (w : Cond) : Bool := w.onTables || match w with
  | .arrayClass _ => true
  | .arrayOver _ => true
  | .laysStatic _ _ _ => true
  | .stringRef _ _ _ => true
  | _ => false
theorem st_on : lw_tbl.all stOn = true := by decide +kernel
theorem st_args (hts : ∀ w ∈ lw_tbl, w.before A s = true) : ∀ w ∈ lw_tbl, w.before #[] s = true := fun w hw => by
  have h1 := List.all_eq_true.mp st_on w hw
  have h2 := hts w hw
  unfold stOn at h1
  cases ho : w.onTables with
  | true => exact va_Nw.of ho h2
  | false =>
    rw [ho] at h1
    cases w with
    | arrayClass t => exact h2
    | arrayOver t => exact h2
    | laysStatic a b c => exact h2
    | stringRef a b c => exact h2
    | _ => cases h1
theorem iC_X0 : ∀ w ∈ u_ws RX0 TX0 5, w ∈ lw_tbl := by decide +kernel
theorem iC_X1 : ∀ w ∈ u_ws RX1 TX1 5, w ∈ lw_tbl := by decide +kernel
theorem iC_X2 : ∀ w ∈ u_ws RX2 TX2 9, w ∈ lw_tbl := by decide +kernel
theorem iC_X3 : ∀ w ∈ u_ws RX3 TX3 3, w ∈ lw_tbl := by decide +kernel
theorem iC_X4 : ∀ w ∈ u_ws RX4 TX4 4, w ∈ lw_tbl := by decide +kernel
theorem iC_X5 : ∀ w ∈ u_ws RX5 TX5 7, w ∈ lw_tbl := by decide +kernel
theorem iC_X6 : ∀ w ∈ u_ws RX6 TX6 9, w ∈ lw_tbl := by decide +kernel
theorem iC_X7 : ∀ w ∈ u_ws RX7 TX7 4, w ∈ lw_tbl := by decide +kernel
theorem iC_X8 : ∀ w ∈ u_ws RX8 TX8 8, w ∈ lw_tbl := by decide +kernel
theorem iC_J0 : ∀ w ∈ u_ws RJ0 TJ0 4, w ∈ lw_tbl := by decide +kernel
theorem iC_J4 : ∀ w ∈ u_ws RJ4 TJ4 4, w ∈ lw_tbl := by decide +kernel
theorem st_cls (hts : ∀ w ∈ lw_tbl, w.before A s = true) : ∀ c, c < 11 → ∃ p : ClassId × (Nat → Nat), u_Kn s (clN c) (clT c) (clK c) p.1 p.2 := fun c hc => by
  refine cl_ind (P := fun c => ∃ p : ClassId × (Nat → Nat), u_Kn s (clN c) (clT c) (clK c) p.1 p.2) hc ?_ ?_ ?_ ?_ ?_ ?_ ?_ ?_ ?_ ?_ ?_
  · obtain ⟨cC, iS, h⟩ := u_known (C := RX0) (T := TX0) (N := 5) (n := 5) hts iC_X0 (hts (.instantiable RX0 5) (List.mem_of_getElem? (i := 260) (by decide +kernel)))
    exact ⟨(cC, iS), h⟩
  · obtain ⟨cC, iS, h⟩ := u_known (C := RX1) (T := TX1) (N := 5) (n := 5) hts iC_X1 (hts (.instantiable RX1 5) (List.mem_of_getElem? (i := 253) (by decide +kernel)))
    exact ⟨(cC, iS), h⟩
  · obtain ⟨cC, iS, h⟩ := u_known (C := RX2) (T := TX2) (N := 9) (n := 9) hts iC_X2 (hts (.instantiable RX2 9) (List.mem_of_getElem? (i := 95) (by decide +kernel)))
    exact ⟨(cC, iS), h⟩
  · obtain ⟨cC, iS, h⟩ := u_known (C := RX3) (T := TX3) (N := 3) (n := 3) hts iC_X3 (hts (.instantiable RX3 3) (List.mem_of_getElem? (i := 233) (by decide +kernel)))
    exact ⟨(cC, iS), h⟩
  · obtain ⟨cC, iS, h⟩ := u_known (C := RX4) (T := TX4) (N := 4) (n := 4) hts iC_X4 (hts (.instantiable RX4 4) (List.mem_of_getElem? (i := 63) (by decide +kernel)))
    exact ⟨(cC, iS), h⟩
  · obtain ⟨cC, iS, h⟩ := u_known (C := RX5) (T := TX5) (N := 7) (n := 7) hts iC_X5 (hts (.instantiable RX5 7) (List.mem_of_getElem? (i := 88) (by decide +kernel)))
    exact ⟨(cC, iS), h⟩
  · obtain ⟨cC, iS, h⟩ := u_known (C := RX6) (T := TX6) (N := 9) (n := 9) hts iC_X6 (hts (.instantiable RX6 9) (List.mem_of_getElem? (i := 52) (by decide +kernel)))
    exact ⟨(cC, iS), h⟩
  · obtain ⟨cC, iS, h⟩ := u_known (C := RX7) (T := TX7) (N := 4) (n := 4) hts iC_X7 (hts (.instantiable RX7 4) (List.mem_of_getElem? (i := 174) (by decide +kernel)))
    exact ⟨(cC, iS), h⟩
  · obtain ⟨cC, iS, h⟩ := u_known (C := RX8) (T := TX8) (N := 8) (n := 8) hts iC_X8 (hts (.instantiable RX8 8) (List.mem_of_getElem? (i := 44) (by decide +kernel)))
    exact ⟨(cC, iS), h⟩
  · obtain ⟨cC, iS, h⟩ := u_known (C := RJ0) (T := TJ0) (N := 4) (n := 4) hts iC_J0 (hts (.instantiable RJ0 4) (List.mem_of_getElem? (i := 649) (by decide +kernel)))
    exact ⟨(cC, iS), h⟩
  · obtain ⟨cC, iS, h⟩ := u_known (C := RJ4) (T := TJ4) (N := 4) (n := 4) hts iC_J4 (hts (.instantiable RJ4 4) (List.mem_of_getElem? (i := 312) (by decide +kernel)))
    exact ⟨(cC, iS), h⟩
theorem st_ac {t : FieldType} (h : (Cond.arrayClass t).before A s = true) : ∃ cA, ArrOfT s cA t ∧ s.vm.findClass ("[" ++ t.toString) = some cA := by
  obtain ⟨c, k, comp, h1, h2, h3⟩ := Cond.arrayClass_spec (args := A) (first := s) (o := none) (s := s) (idx := []) h
  exact ⟨c, fun n z => ⟨fun k h => (by cases h), k, h2, comp, h3⟩, h1⟩
theorem st_ao {C : String} (h : (Cond.arrayOver (.object C)).before A s = true) : ∃ cA, ArrOfT s cA (.object C) ∧ va_RA s cA (.object C) := by
  obtain ⟨comp, c, k, h1, h2, h3, h4, h5⟩ := Cond.arrayOver_spec (args := A) (first := s) (o := none) (s := s) (idx := []) h
  exact ⟨c, fun n z => ⟨fun k h => (by cases h), k, h3, comp, h4⟩, k, comp, h3, h4, h1, h5⟩
theorem st_arr (hts : ∀ w ∈ lw_tbl, w.before A s = true) : ∀ j, j < 11 → ∃ cA, ArrOfT s cA (arT j) ∧ va_RA s cA (arT j)
  | 0, _ => st_ac (hts (.arrayClass .long) (List.mem_of_getElem? (i := 1564) (by decide +kernel)))
  | 1, _ => st_ac (hts (.arrayClass .long) (List.mem_of_getElem? (i := 1564) (by decide +kernel)))
  | 2, _ => st_ac (hts (.arrayClass .long) (List.mem_of_getElem? (i := 1564) (by decide +kernel)))
  | 3, _ => st_ac (hts (.arrayClass .char) (List.mem_of_getElem? (i := 291) (by decide +kernel)))
  | 4, _ => st_ac (hts (.arrayClass .byte) (List.mem_of_getElem? (i := 343) (by decide +kernel)))
  | 5, _ => st_ao (hts (.arrayOver (.object RX4)) (List.mem_of_getElem? (i := 58) (by decide +kernel)))
  | 6, _ => st_ao (hts (.arrayOver (.object RX5)) (List.mem_of_getElem? (i := 60) (by decide +kernel)))
  | 7, _ => st_ao (hts (.arrayOver (.object RX7)) (List.mem_of_getElem? (i := 62) (by decide +kernel)))
  | 8, _ => st_ao (hts (.arrayOver (.object RX2)) (List.mem_of_getElem? (i := 94) (by decide +kernel)))
  | 9, _ => st_ao (hts (.arrayOver (.object RX6)) (List.mem_of_getElem? (i := 239) (by decide +kernel)))
  | 10, _ => st_ao (hts (.arrayOver (.object RX0)) (List.mem_of_getElem? (i := 259) (by decide +kernel)))
  | n + 11, h => absurd h (by omega)
end ST
