/-! 91: the class: straighten, filling by filling, against what the model says (by wip/whole/mk91.py) -/
def CRS : List (List Nat) := [[nat_lit 0], [nat_lit 0, nat_lit 0], [nat_lit 0, nat_lit 1], [nat_lit 0, nat_lit 0, nat_lit 0], [nat_lit 0, nat_lit 0, nat_lit 1], [nat_lit 0, nat_lit 1, nat_lit 2], [nat_lit 0, nat_lit 0, nat_lit 0, nat_lit 0], [nat_lit 0, nat_lit 0, nat_lit 0, nat_lit 1], [nat_lit 0, nat_lit 0, nat_lit 1, nat_lit 1], [nat_lit 0, nat_lit 0, nat_lit 1, nat_lit 2], [nat_lit 0, nat_lit 1, nat_lit 2, nat_lit 3], [nat_lit 0, nat_lit 0, nat_lit 0, nat_lit 0, nat_lit 0], [nat_lit 0, nat_lit 0, nat_lit 0, nat_lit 0, nat_lit 1], [nat_lit 0, nat_lit 0, nat_lit 0, nat_lit 1, nat_lit 1], [nat_lit 0, nat_lit 0, nat_lit 0, nat_lit 1, nat_lit 2], [nat_lit 0, nat_lit 0, nat_lit 1, nat_lit 1, nat_lit 2], [nat_lit 0, nat_lit 0, nat_lit 1, nat_lit 2, nat_lit 3], [nat_lit 0, nat_lit 1, nat_lit 2, nat_lit 3, nat_lit 4]]
def CCS : List (List Nat) := [[nat_lit 0], [nat_lit 0, nat_lit 1], [nat_lit 0, nat_lit 0], [nat_lit 0, nat_lit 1, nat_lit 2], [nat_lit 0, nat_lit 1, nat_lit 0], [nat_lit 0, nat_lit 0, nat_lit 0], [nat_lit 0, nat_lit 1, nat_lit 2, nat_lit 3], [nat_lit 0, nat_lit 1, nat_lit 2, nat_lit 0], [nat_lit 0, nat_lit 1, nat_lit 0, nat_lit 1], [nat_lit 0, nat_lit 1, nat_lit 0, nat_lit 0], [nat_lit 0, nat_lit 0, nat_lit 0, nat_lit 0], [nat_lit 0, nat_lit 1, nat_lit 2, nat_lit 3, nat_lit 4], [nat_lit 0, nat_lit 1, nat_lit 2, nat_lit 3, nat_lit 0], [nat_lit 0, nat_lit 1, nat_lit 2, nat_lit 0, nat_lit 1], [nat_lit 0, nat_lit 1, nat_lit 2, nat_lit 0, nat_lit 0], [nat_lit 0, nat_lit 1, nat_lit 0, nat_lit 1, nat_lit 0], [nat_lit 0, nat_lit 1, nat_lit 0, nat_lit 0, nat_lit 0], [nat_lit 0, nat_lit 0, nat_lit 0, nat_lit 0, nat_lit 0]]
/-- the column of the number p in the filling t, and its row -/
noncomputable def colT (c : Nat) (t : List Nat) (p : Nat) : Nat := nthO (nthL CCS c) (Nat.sub (plO p t) (nat_lit 1))
noncomputable def rowT (c : Nat) (t : List Nat) (p : Nat) : Nat := nthO (nthL CRS c) (Nat.sub (plO p t) (nat_lit 1))
/-- what straightening the filling t gives -/
noncomputable def cwT (c : Nat) (t : List Nat) : Nat → Int := strM c (colT c t) (rowT c t)
noncomputable def chkI (z : Nat) (x : Int) : Bool := Int.rec (motive := fun _ => Bool) (fun n => Nat.beq n z) (fun n => Nat.beq (Nat.add (Nat.succ n) z) (nat_lit 4294967296)) x
theorem chkI_ok {z : Nat} {x : Int} (h : chkI z x = true) : Int32.ofNat z = Int32.ofInt x := by
  cases x with
  | ofNat n =>
    have e : n = z := Nat.eq_of_beq_eq_true h
    rw [e]
    rfl
  | negSucc n =>
    have e : n + 1 + z = 4294967296 := Nat.eq_of_beq_eq_true h
    have e2 : Int32.ofNat z = Int32.ofInt (z : Int) := rfl
    rw [e2, ← Int32.toInt_inj, Int32.toInt_ofInt, Int32.toInt_ofInt]
    simp only [Int.bmod_def, show ((Int32.size : Nat) : Int) = 4294967296 from rfl]
    omega
noncomputable def oFl (n : Nat) (t : List Nat) : List sOv := Nat.rec (motive := fun _ => List sOv) [] (fun k ih => (nat_lit 22, k, .natCast (nthO t k)) :: ih) n
/-- a number from -99 to 99 -/
noncomputable def bdI (x : Int) : Bool := Int.rec (motive := fun _ => Bool) (fun n => Nat.ble n (nat_lit 99)) (fun n => Nat.ble n (nat_lit 98)) x
noncomputable def isCw (c : Nat) (t : List Nat) (m : sM) : Bool := allL (dOf c) (fun j => gI m (nat_lit 23) j (fun e => sNum e (fun z => (fun x : Int => Bool.and (chkI z x) (bdI x)) (cwT c t j))))
noncomputable def swR (c : Nat) (t : List Nat) : Bool := sBeg (nat_lit 0) (nat_lit 68) (tX c) (memB [nat_lit 1, nat_lit 3, nat_lit 4, nat_lit 5, nat_lit 6, nat_lit 7, nat_lit 8, nat_lit 9, nat_lit 10, nat_lit 11, nat_lit 14, nat_lit 15, nat_lit 16, nat_lit 17, nat_lit 18, nat_lit 19, nat_lit 20, nat_lit 21, nat_lit 22, nat_lit 23]) (oFl (nOf c) t) (fun m0 => sRun (nat_lit 100000) (nat_lit 6) (nat_lit 82) [] m0 [.inr (.inr (some (nat_lit 14)))] (fun v pa m => Bool.and (sK0 (nat_lit 0) (nat_lit 68) (tX c) (memB [nat_lit 1, nat_lit 3, nat_lit 4, nat_lit 5, nat_lit 6, nat_lit 7, nat_lit 8, nat_lit 9, nat_lit 10, nat_lit 11, nat_lit 14, nat_lit 15, nat_lit 16, nat_lit 17, nat_lit 18, nat_lit 19, nat_lit 20, nat_lit 21, nat_lit 22, nat_lit 23]) m0 m) (Bool.and (eqO v none) (isCw c t m))))
theorem q_sw_s : allL 11 (fun c => lAll (swR c) (ordN (nOf c))) = true := by decide +kernel
theorem q_sw_11_0 : lAll (swR 11) (chk 0) = true := by decide +kernel
theorem q_sw_11_1 : lAll (swR 11) (chk 1) = true := by decide +kernel
theorem q_sw_11_2 : lAll (swR 11) (chk 2) = true := by decide +kernel
theorem q_sw_11_3 : lAll (swR 11) (chk 3) = true := by decide +kernel
theorem q_sw_12_0 : lAll (swR 12) (chk 0) = true := by decide +kernel
theorem q_sw_12_1 : lAll (swR 12) (chk 1) = true := by decide +kernel
theorem q_sw_12_2 : lAll (swR 12) (chk 2) = true := by decide +kernel
theorem q_sw_12_3 : lAll (swR 12) (chk 3) = true := by decide +kernel
theorem q_sw_13_0 : lAll (swR 13) (chk 0) = true := by decide +kernel
theorem q_sw_13_1 : lAll (swR 13) (chk 1) = true := by decide +kernel
theorem q_sw_13_2 : lAll (swR 13) (chk 2) = true := by decide +kernel
theorem q_sw_13_3 : lAll (swR 13) (chk 3) = true := by decide +kernel
theorem q_sw_14_0 : lAll (swR 14) (chk 0) = true := by decide +kernel
theorem q_sw_14_1 : lAll (swR 14) (chk 1) = true := by decide +kernel
theorem q_sw_14_2 : lAll (swR 14) (chk 2) = true := by decide +kernel
theorem q_sw_14_3 : lAll (swR 14) (chk 3) = true := by decide +kernel
theorem q_sw_15_0 : lAll (swR 15) (chk 0) = true := by decide +kernel
theorem q_sw_15_1 : lAll (swR 15) (chk 1) = true := by decide +kernel
theorem q_sw_15_2 : lAll (swR 15) (chk 2) = true := by decide +kernel
theorem q_sw_15_3 : lAll (swR 15) (chk 3) = true := by decide +kernel
theorem q_sw_16_0 : lAll (swR 16) (chk 0) = true := by decide +kernel
theorem q_sw_16_1 : lAll (swR 16) (chk 1) = true := by decide +kernel
theorem q_sw_16_2 : lAll (swR 16) (chk 2) = true := by decide +kernel
theorem q_sw_16_3 : lAll (swR 16) (chk 3) = true := by decide +kernel
theorem q_sw_17_0 : lAll (swR 17) (chk 0) = true := by decide +kernel
theorem q_sw_17_1 : lAll (swR 17) (chk 1) = true := by decide +kernel
theorem q_sw_17_2 : lAll (swR 17) (chk 2) = true := by decide +kernel
theorem q_sw_17_3 : lAll (swR 17) (chk 3) = true := by decide +kernel
theorem q_sw {c : Nat} {o : List Nat} (hc : c < 18) (ho : o ∈ ordN (nOf c)) : swR c o = true := by
  by_cases h : c < 11
  · exact lAll_ok (allL_ok q_sw_s c h) o ho
  have h6 := ordN_in ho
  rw [ORDS_chk, List.mem_append, List.mem_append, List.mem_append] at h6
  by_cases e11 : c = 11
  · subst e11
    rcases h6 with ((h6 | h6) | h6) | h6
    · exact lAll_ok q_sw_11_0 o h6
    · exact lAll_ok q_sw_11_1 o h6
    · exact lAll_ok q_sw_11_2 o h6
    · exact lAll_ok q_sw_11_3 o h6
  by_cases e12 : c = 12
  · subst e12
    rcases h6 with ((h6 | h6) | h6) | h6
    · exact lAll_ok q_sw_12_0 o h6
    · exact lAll_ok q_sw_12_1 o h6
    · exact lAll_ok q_sw_12_2 o h6
    · exact lAll_ok q_sw_12_3 o h6
  by_cases e13 : c = 13
  · subst e13
    rcases h6 with ((h6 | h6) | h6) | h6
    · exact lAll_ok q_sw_13_0 o h6
    · exact lAll_ok q_sw_13_1 o h6
    · exact lAll_ok q_sw_13_2 o h6
    · exact lAll_ok q_sw_13_3 o h6
  by_cases e14 : c = 14
  · subst e14
    rcases h6 with ((h6 | h6) | h6) | h6
    · exact lAll_ok q_sw_14_0 o h6
    · exact lAll_ok q_sw_14_1 o h6
    · exact lAll_ok q_sw_14_2 o h6
    · exact lAll_ok q_sw_14_3 o h6
  by_cases e15 : c = 15
  · subst e15
    rcases h6 with ((h6 | h6) | h6) | h6
    · exact lAll_ok q_sw_15_0 o h6
    · exact lAll_ok q_sw_15_1 o h6
    · exact lAll_ok q_sw_15_2 o h6
    · exact lAll_ok q_sw_15_3 o h6
  by_cases e16 : c = 16
  · subst e16
    rcases h6 with ((h6 | h6) | h6) | h6
    · exact lAll_ok q_sw_16_0 o h6
    · exact lAll_ok q_sw_16_1 o h6
    · exact lAll_ok q_sw_16_2 o h6
    · exact lAll_ok q_sw_16_3 o h6
  by_cases e17 : c = 17
  · subst e17
    rcases h6 with ((h6 | h6) | h6) | h6
    · exact lAll_ok q_sw_17_0 o h6
    · exact lAll_ok q_sw_17_1 o h6
    · exact lAll_ok q_sw_17_2 o h6
    · exact lAll_ok q_sw_17_3 o h6
  exact absurd hc (by omega)
