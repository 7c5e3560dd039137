/-! 60: the law: its classes and array classes are known (by wip/whole/mk60.py) -/
theorem law_K {s : State} {args : Array Value} (hts : ∀ w ∈ lw_tbl, w.before args s = true) : ∃ (D : va_G) (cy : Nat → ClassId), va_K D vwCl (sT cy) s := by
  obtain ⟨c0, i0, k0⟩ := u_known (C := RX0) (T := TX0) (N := 2) (n := 2) hts (fun w h => sTb_in ((sFld_ok 0 _ _ _ rfl).1 w h)) (hts (.instantiable "SwapTables$FractionRow" 2) (List.mem_of_getElem? (i := 172) (by decide +kernel)))
  obtain ⟨c1, i1, k1⟩ := u_known (C := RX1) (T := TX1) (N := 3) (n := 3) hts (fun w h => sTb_in ((sFld_ok 1 _ _ _ rfl).1 w h)) (hts (.instantiable "SwapTables$Image" 3) (List.mem_of_getElem? (i := 308) (by decide +kernel)))
  obtain ⟨c2, i2, k2⟩ := u_known (C := RX4) (T := TX4) (N := 12) (n := 12) hts (fun w h => sTb_in ((sFld_ok 2 _ _ _ rfl).1 w h)) (hts (.instantiable "SwapTables$Reader" 12) (List.mem_of_getElem? (i := 242) (by decide +kernel)))
  obtain ⟨c3, i3, k3⟩ := u_known (C := RX5) (T := TX5) (N := 4) (n := 4) hts (fun w h => sTb_in ((sFld_ok 3 _ _ _ rfl).1 w h)) (hts (.instantiable "SwapTables$SeminormalAxes" 4) (List.mem_of_getElem? (i := 166) (by decide +kernel)))
  obtain ⟨c4, i4, k4⟩ := u_known (C := RX6) (T := TX6) (N := 9) (n := 9) hts (fun w h => sTb_in ((sFld_ok 4 _ _ _ rfl).1 w h)) (hts (.instantiable "SwapTables$Shape" 9) (List.mem_of_getElem? (i := 100) (by decide +kernel)))
  obtain ⟨c5, i5, k5⟩ := u_known (C := RX7) (T := TX7) (N := 3) (n := 3) hts (fun w h => sTb_in ((sFld_ok 5 _ _ _ rfl).1 w h)) (hts (.instantiable "SwapTables$Shelf" 3) (List.mem_of_getElem? (i := 206) (by decide +kernel)))
  obtain ⟨c6, i6, k6⟩ := u_known (C := RX8) (T := TX8) (N := 3) (n := 3) hts (fun w h => sTb_in ((sFld_ok 6 _ _ _ rfl).1 w h)) (hts (.instantiable "SwapTables$Steps" 3) (List.mem_of_getElem? (i := 225) (by decide +kernel)))
  obtain ⟨c7, i7, k7⟩ := u_known (C := RX8) (T := TX8) (N := 3) (n := 3) hts (fun w h => sTb_in ((sFld_ok 7 _ _ _ rfl).1 w h)) (hts (.instantiable "SwapTables$Steps" 3) (List.mem_of_getElem? (i := 225) (by decide +kernel)))
  obtain ⟨c8, i8, k8⟩ := u_known (C := RX10) (T := TX10) (N := 3) (n := 3) hts (fun w h => sTb_in ((sFld_ok 8 _ _ _ rfl).1 w h)) (hts (.instantiable "SwapTables$Troubles" 3) (List.mem_of_getElem? (i := 248) (by decide +kernel)))
  obtain ⟨c9, i9, k9⟩ := u_known (C := RX11) (T := TX11) (N := 4) (n := 4) hts (fun w h => sTb_in ((sFld_ok 9 _ _ _ rfl).1 w h)) (hts (.instantiable "SwapTables$WholeAxes" 4) (List.mem_of_getElem? (i := 145) (by decide +kernel)))
  obtain ⟨c10, i10, k10⟩ := u_known (C := RX12) (T := TX12) (N := 11) (n := 11) hts (fun w h => sTb_in ((sFld_ok 10 _ _ _ rfl).1 w h)) (hts (.instantiable "SwapTables" 11) (List.mem_of_getElem? (i := 92) (by decide +kernel)))
  obtain ⟨c11, i11, k11⟩ := u_known (C := RX13) (T := TX13) (N := 59) (n := 59) hts (fun w h => sTb_in ((sFld_ok 11 _ _ _ rfl).1 w h)) (hts (.instantiable "SwapTablesModel" 59) (List.mem_of_getElem? (i := 900) (by decide +kernel)))
  obtain ⟨y1, ka1, cm1, ya1, yb1, yc1⟩ := Cond.arrayClass_spec (hts (.arrayClass .int) (List.mem_of_getElem? (i := 143) (by decide +kernel)))
  obtain ⟨y2, ka2, cm2, ya2, yb2, yc2⟩ := Cond.arrayClass_spec (hts (.arrayClass .byte) (List.mem_of_getElem? (i := 268) (by decide +kernel)))
  obtain ⟨y3, ka3, cm3, ya3, yb3, yc3⟩ := Cond.arrayClass_spec (hts (.arrayClass .boolean) (List.mem_of_getElem? (i := 1099) (by decide +kernel)))
  obtain ⟨y4, ka4, cm4, ya4, yb4, yc4⟩ := Cond.arrayClass_spec (hts (.arrayClass .long) (List.mem_of_getElem? (i := 186) (by decide +kernel)))
  obtain ⟨cm5, y5, ka5, yd5, -, yb5, yc5, ya5⟩ := Cond.arrayOver_spec (hts (.arrayOver (.object "SwapTables$Shelf")) (List.mem_of_getElem? (i := 205) (by decide +kernel)))
  obtain ⟨cm6, y6, ka6, yd6, -, yb6, yc6, ya6⟩ := arrayOver_specB (hts (.arrayOver (.array .int)) (List.mem_of_getElem? (i := 106) (by decide +kernel)))
  refine ⟨(fun k => ([c0, c1, c2, c3, c4, c5, c6, c7, c8, c9, c10, c11] : List ClassId).getD k 0, fun k => ([i0, i1, i2, i3, i4, i5, i6, i7, i8, i9, i10, i11] : List (Nat → Nat)).getD k (fun _ => 0)), fun k => ([0, y1, y2, y3, y4, y5, y6] : List ClassId).getD k 0, ?_, ?_⟩
  · intro k q hq
    match k, hq with
    | 0, hq => cases hq; exact k0
    | 1, hq => cases hq; exact k1
    | 2, hq => cases hq; exact k2
    | 3, hq => cases hq; exact k3
    | 4, hq => cases hq; exact k4
    | 5, hq => cases hq; exact k5
    | 6, hq => cases hq; exact k6
    | 7, hq => cases hq; exact k7
    | 8, hq => cases hq; exact k8
    | 9, hq => cases hq; exact k9
    | 10, hq => cases hq; exact k10
    | 11, hq => cases hq; exact k11
    | k + 12, hq => simp [vwCl] at hq
  · intro k q hq
    match k, hq with
    | 0, hq => cases hq; exact ⟨fun n z => ⟨fun k h => (by cases h), ka1, yb1, cm1, yc1⟩, ya1⟩
    | 1, hq => cases hq; exact ⟨fun n z => ⟨fun k h => (by cases h), ka2, yb2, cm2, yc2⟩, ya2⟩
    | 2, hq => cases hq; exact ⟨fun n z => ⟨fun k h => (by cases h), ka3, yb3, cm3, yc3⟩, ya3⟩
    | 3, hq => cases hq; exact ⟨fun n z => ⟨fun k h => (by cases h), ka4, yb4, cm4, yc4⟩, ya4⟩
    | 4, hq => cases hq; exact ⟨fun n z => ⟨fun k h => (by cases h), ka5, yb5, cm5, yc5⟩, ⟨ka5, cm5, yb5, yc5, yd5, ya5⟩⟩
    | 5, hq => cases hq; exact ⟨fun n z => ⟨fun k h => (by cases h), ka6, yb6, cm6, yc6⟩, ya6⟩
    | k + 6, hq => simp [sT] at hq
