/-! 62: the law: statics, nest links (by wip/whole/mk62.py) -/
theorem law_Nw {s : State} {args : Array Value} (hts : ∀ w ∈ lw_tbl, w.before args s = true) : sNw s := fun w hw => by
  have h1 := hts w (List.mem_filter.mp hw).1
  have h2 := (List.mem_filter.mp hw).2
  refine va_Nw.of ?_ h1
  cases w <;> first | rfl | exact nomatch (show false = true from h2)
theorem law_AO {s : State} {args : Array Value} (hts : ∀ w ∈ lw_tbl, w.before args s = true) : sAO s := ⟨Cond.arrayOver_alike (Vm.Alike.refl s.vm) (hts (.arrayOver (.object "SwapTables$Shelf")) (List.mem_of_getElem? (i := 205) (by decide +kernel))), over_moved (Vm.Alike.refl s.vm) (hts (.arrayOver (.array .int)) (List.mem_of_getElem? (i := 106) (by decide +kernel)))⟩
theorem law_BEGIN {s : State} {args : Array Value} (hts : ∀ w ∈ lw_tbl, w.before args s = true) (hgv : (Jvm.Cond.and given_1 narrow_1).before args s = true) : ∃ t : Nat, va_Z "SwapTables$Partitions" "BEGIN" "[I" (.ref t) (fun q => s.heap.size ≤ q) s s.heap ∧ va_T .int t 7 (sFn sBegin) (fun q => s.heap.size ≤ q) s s.heap := by
  have hs := flat_of_before _ hgv
  have hA : ∀ a : Nat, a < s.heap.size → ¬ (fun q : Nat => s.heap.size ≤ q) a := fun a h => Nat.not_le.mpr h
  obtain ⟨t, h0, h1⟩ := va_Tof (args := args) (tm := (.static "SwapTables$Partitions" "BEGIN" "[I")) (ty := .int) (N := 7) (f := sFn sBegin) (A := fun q => s.heap.size ≤ q) (by decide) (hs _ (by decide +kernel)) (va_eqt (hs (.eq (.length (.static "SwapTables$Partitions" "BEGIN" "[I")) (.int 7)) (by decide +kernel))) (fun j hj => by
    match j, hj with
    | 0, _ => exact va_eqt (hs (.eq (.elem (.static "SwapTables$Partitions" "BEGIN" "[I") (.int 0)) (.int 0)) (by decide +kernel))
    | 1, _ => exact va_eqt (hs (.eq (.elem (.static "SwapTables$Partitions" "BEGIN" "[I") (.int 1)) (.int 0)) (by decide +kernel))
    | 2, _ => exact va_eqt (hs (.eq (.elem (.static "SwapTables$Partitions" "BEGIN" "[I") (.int 2)) (.int 1)) (by decide +kernel))
    | 3, _ => exact va_eqt (hs (.eq (.elem (.static "SwapTables$Partitions" "BEGIN" "[I") (.int 3)) (.int 3)) (by decide +kernel))
    | 4, _ => exact va_eqt (hs (.eq (.elem (.static "SwapTables$Partitions" "BEGIN" "[I") (.int 4)) (.int 6)) (by decide +kernel))
    | 5, _ => exact va_eqt (hs (.eq (.elem (.static "SwapTables$Partitions" "BEGIN" "[I") (.int 5)) (.int 11)) (by decide +kernel))
    | 6, _ => exact va_eqt (hs (.eq (.elem (.static "SwapTables$Partitions" "BEGIN" "[I") (.int 6)) (.int 18)) (by decide +kernel))
    | k + 7, hk => exact absurd hk (by omega)) hA
  exact ⟨t, va_Zref (hts (.laysStatic "SwapTables$Partitions" "BEGIN" "[I") (List.mem_of_getElem? (i := 492) (by decide +kernel))) (hts (.initialized "SwapTables$Partitions") (List.mem_of_getElem? (i := 84) (by decide +kernel))) h0 hA, h1⟩
theorem law_CODES {s : State} {args : Array Value} (hts : ∀ w ∈ lw_tbl, w.before args s = true) (hgv : (Jvm.Cond.and given_1 narrow_1).before args s = true) : ∃ t : Nat, va_Z "SwapTables$Partitions" "CODES" "[I" (.ref t) (fun q => s.heap.size ≤ q) s s.heap ∧ va_T .int t 18 (sFn sCodes) (fun q => s.heap.size ≤ q) s s.heap := by
  have hs := flat_of_before _ hgv
  have hA : ∀ a : Nat, a < s.heap.size → ¬ (fun q : Nat => s.heap.size ≤ q) a := fun a h => Nat.not_le.mpr h
  obtain ⟨t, h0, h1⟩ := va_Tof (args := args) (tm := (.static "SwapTables$Partitions" "CODES" "[I")) (ty := .int) (N := 18) (f := sFn sCodes) (A := fun q => s.heap.size ≤ q) (by decide) (hs _ (by decide +kernel)) (va_eqt (hs (.eq (.length (.static "SwapTables$Partitions" "CODES" "[I")) (.int 18)) (by decide +kernel))) (fun j hj => by
    match j, hj with
    | 0, _ => exact va_eqt (hs (.eq (.elem (.static "SwapTables$Partitions" "CODES" "[I") (.int 0)) (.int 65536)) (by decide +kernel))
    | 1, _ => exact va_eqt (hs (.eq (.elem (.static "SwapTables$Partitions" "CODES" "[I") (.int 1)) (.int 131072)) (by decide +kernel))
    | 2, _ => exact va_eqt (hs (.eq (.elem (.static "SwapTables$Partitions" "CODES" "[I") (.int 2)) (.int 69632)) (by decide +kernel))
    | 3, _ => exact va_eqt (hs (.eq (.elem (.static "SwapTables$Partitions" "CODES" "[I") (.int 3)) (.int 196608)) (by decide +kernel))
    | 4, _ => exact va_eqt (hs (.eq (.elem (.static "SwapTables$Partitions" "CODES" "[I") (.int 4)) (.int 135168)) (by decide +kernel))
    | 5, _ => exact va_eqt (hs (.eq (.elem (.static "SwapTables$Partitions" "CODES" "[I") (.int 5)) (.int 69888)) (by decide +kernel))
    | 6, _ => exact va_eqt (hs (.eq (.elem (.static "SwapTables$Partitions" "CODES" "[I") (.int 6)) (.int 262144)) (by decide +kernel))
    | 7, _ => exact va_eqt (hs (.eq (.elem (.static "SwapTables$Partitions" "CODES" "[I") (.int 7)) (.int 200704)) (by decide +kernel))
    | 8, _ => exact va_eqt (hs (.eq (.elem (.static "SwapTables$Partitions" "CODES" "[I") (.int 8)) (.int 139264)) (by decide +kernel))
    | 9, _ => exact va_eqt (hs (.eq (.elem (.static "SwapTables$Partitions" "CODES" "[I") (.int 9)) (.int 135424)) (by decide +kernel))
    | 10, _ => exact va_eqt (hs (.eq (.elem (.static "SwapTables$Partitions" "CODES" "[I") (.int 10)) (.int 69904)) (by decide +kernel))
    | 11, _ => exact va_eqt (hs (.eq (.elem (.static "SwapTables$Partitions" "CODES" "[I") (.int 11)) (.int 327680)) (by decide +kernel))
    | 12, _ => exact va_eqt (hs (.eq (.elem (.static "SwapTables$Partitions" "CODES" "[I") (.int 12)) (.int 266240)) (by decide +kernel))
    | 13, _ => exact va_eqt (hs (.eq (.elem (.static "SwapTables$Partitions" "CODES" "[I") (.int 13)) (.int 204800)) (by decide +kernel))
    | 14, _ => exact va_eqt (hs (.eq (.elem (.static "SwapTables$Partitions" "CODES" "[I") (.int 14)) (.int 200960)) (by decide +kernel))
    | 15, _ => exact va_eqt (hs (.eq (.elem (.static "SwapTables$Partitions" "CODES" "[I") (.int 15)) (.int 139520)) (by decide +kernel))
    | 16, _ => exact va_eqt (hs (.eq (.elem (.static "SwapTables$Partitions" "CODES" "[I") (.int 16)) (.int 135440)) (by decide +kernel))
    | 17, _ => exact va_eqt (hs (.eq (.elem (.static "SwapTables$Partitions" "CODES" "[I") (.int 17)) (.int 69905)) (by decide +kernel))
    | k + 18, hk => exact absurd hk (by omega)) hA
  exact ⟨t, va_Zref (hts (.laysStatic "SwapTables$Partitions" "CODES" "[I") (List.mem_of_getElem? (i := 497) (by decide +kernel))) (hts (.initialized "SwapTables$Partitions") (List.mem_of_getElem? (i := 84) (by decide +kernel))) h0 hA, h1⟩
/-- the two static arrays, wherever they lie -/
theorem law_St {s : State} {args : Array Value} (hts : ∀ w ∈ lw_tbl, w.before args s = true) (hgv : (Jvm.Cond.and given_1 narrow_1).before args s = true) : ∃ t0 t1 : Nat, ∀ al : Nat → Nat, al 1000000 = t0 → al 1000001 = t1 → sSt al (fun q => s.heap.size ≤ q) s s.heap := by
  obtain ⟨t0, a1, a2⟩ := law_BEGIN hts hgv
  obtain ⟨t1, b1, b2⟩ := law_CODES hts hgv
  exact ⟨t0, t1, fun al h0 h1 => by unfold sSt; rw [h0, h1]; exact ⟨a1, a2, b1, b2⟩⟩
