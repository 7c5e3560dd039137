/-! 76: types of orders (by wip/whole/mk76.py) -/
noncomputable def ixL (o : List Nat) (l : List (List Nat)) : Nat := List.rec (motive := fun _ => Nat) (nat_lit 0) (fun a _ ih => Bool.rec (motive := fun _ => Nat) (Nat.succ ih) (nat_lit 0) (eqL Nat.beq a o)) l
noncomputable def nthL {α : Type} (l : List (List α)) : Nat → List α := List.rec (motive := fun _ => Nat → List α) (fun _ => []) (fun a _ ih n => Nat.rec (motive := fun _ => List α) a (fun m _ => ih m) n) l
def TYS : List (List Nat) := [[], [nat_lit 0], [nat_lit 1, nat_lit 0], [nat_lit 2, nat_lit 1, nat_lit 1, nat_lit 0, nat_lit 0, nat_lit 1], [nat_lit 4, nat_lit 3, nat_lit 3, nat_lit 1, nat_lit 1, nat_lit 3, nat_lit 3, nat_lit 1, nat_lit 1, nat_lit 3, nat_lit 2, nat_lit 0, nat_lit 0, nat_lit 1, nat_lit 0, nat_lit 1, nat_lit 2, nat_lit 0, nat_lit 0, nat_lit 1, nat_lit 1, nat_lit 3, nat_lit 0, nat_lit 2], [nat_lit 6, nat_lit 5, nat_lit 5, nat_lit 3, nat_lit 3, nat_lit 5, nat_lit 5, nat_lit 3, nat_lit 3, nat_lit 5, nat_lit 4, nat_lit 1, nat_lit 1, nat_lit 3, nat_lit 1, nat_lit 3, nat_lit 4, nat_lit 1, nat_lit 1, nat_lit 3, nat_lit 3, nat_lit 5, nat_lit 1, nat_lit 4, nat_lit 5, nat_lit 3, nat_lit 3, nat_lit 5, nat_lit 4, nat_lit 1, nat_lit 1, nat_lit 3, nat_lit 1, nat_lit 3, nat_lit 4, nat_lit 1, nat_lit 1, nat_lit 3, nat_lit 3, nat_lit 5, nat_lit 1, nat_lit 4, nat_lit 4, nat_lit 2, nat_lit 2, nat_lit 4, nat_lit 2, nat_lit 0, nat_lit 0, nat_lit 1, nat_lit 0, nat_lit 1, nat_lit 2, nat_lit 0, nat_lit 0, nat_lit 1, nat_lit 1, nat_lit 3, nat_lit 0, nat_lit 2, nat_lit 2, nat_lit 0, nat_lit 0, nat_lit 1, nat_lit 4, nat_lit 1, nat_lit 1, nat_lit 3, nat_lit 2, nat_lit 0, nat_lit 0, nat_lit 2, nat_lit 2, nat_lit 4, nat_lit 0, nat_lit 1, nat_lit 2, nat_lit 0, nat_lit 0, nat_lit 1, nat_lit 2, nat_lit 0, nat_lit 1, nat_lit 3, nat_lit 4, nat_lit 1, nat_lit 0, nat_lit 2, nat_lit 2, nat_lit 0, nat_lit 0, nat_lit 2, nat_lit 2, nat_lit 0, nat_lit 4, nat_lit 1, nat_lit 0, nat_lit 1, nat_lit 1, nat_lit 3, nat_lit 0, nat_lit 2, nat_lit 1, nat_lit 3, nat_lit 3, nat_lit 5, nat_lit 1, nat_lit 4, nat_lit 0, nat_lit 1, nat_lit 2, nat_lit 4, nat_lit 0, nat_lit 2, nat_lit 2, nat_lit 0, nat_lit 0, nat_lit 2, nat_lit 1, nat_lit 4]]
/-- the number of an order's type -/
noncomputable def typN (n : Nat) (o : List Nat) : Nat := nthO (nthL TYS n) (ixL o ORDS)
noncomputable def cdN (n t : Nat) : Nat := nthO sCodes (Nat.add (nthO sBegin n) t)
def chk (i : Nat) : List (List Nat) := (ORDS.drop (30 * i)).take 30
theorem ORDS_chk : ORDS = chk 0 ++ chk 1 ++ chk 2 ++ chk 3 := by decide +kernel
/-- of all orders of numbers up to n, by parts -/
theorem by_chk {f : Nat → List Nat → Bool} (h4 : allL 4 (fun n => lAll (f (Nat.succ n)) (ordN (Nat.succ n))) = true) (h0 : lAll (f 5) (chk 0) = true) (h1 : lAll (f 5) (chk 1) = true) (h2 : lAll (f 5) (chk 2) = true) (h3 : lAll (f 5) (chk 3) = true) {n : Nat} {o : List Nat} (hn : 1 ≤ n) (hn5 : n ≤ 5) (ho : o ∈ ordN n) : f n o = true := by
  by_cases h5 : n = 5
  · subst h5
    have h6 := ordN_in ho
    rw [ORDS_chk, List.mem_append, List.mem_append, List.mem_append] at h6
    rcases h6 with ((h6 | h6) | h6) | h6
    · exact lAll_ok h0 o h6
    · exact lAll_ok h1 o h6
    · exact lAll_ok h2 o h6
    · exact lAll_ok h3 o h6
  · have := allL_ok h4 (n - 1) (by omega)
    rw [show Nat.succ (n - 1) = n by omega] at this
    exact lAll_ok this o ho
noncomputable def tyX (n : Nat) (o : List Nat) : Bool := Bool.and (Nat.ble (typN n o) (nat_lit 6)) (sRun (nat_lit 10000) (nat_lit 3) (nat_lit 14) [] [] [.inl (.natCast (codeO o)), .inl (.natCast n)] (fun v pa m => Bool.and (eqL eqC m []) (kInt v (fun x => sNum x (fun y => Nat.beq y (cdN n (typN n o)))))))
theorem q_tyX_4 : allL 4 (fun n => lAll (tyX (Nat.succ n)) (ordN (Nat.succ n))) = true := by decide +kernel
theorem q_tyX_0 : lAll (tyX 5) (chk 0) = true := by decide +kernel
theorem q_tyX_1 : lAll (tyX 5) (chk 1) = true := by decide +kernel
theorem q_tyX_2 : lAll (tyX 5) (chk 2) = true := by decide +kernel
theorem q_tyX_3 : lAll (tyX 5) (chk 3) = true := by decide +kernel
theorem q_tyX {n : Nat} {o : List Nat} (hn : 1 ≤ n) (hn5 : n ≤ 5) (ho : o ∈ ordN n) : tyX n o = true := by_chk q_tyX_4 q_tyX_0 q_tyX_1 q_tyX_2 q_tyX_3 hn hn5 ho
theorem q_num : allL 5 (fun n => allL 7 (fun t => Bool.or (Nat.ble (pOf (Nat.succ n)) t) (sRun (nat_lit 10000) (nat_lit 3) (nat_lit 24) [] [] [.inl (.natCast (Nat.succ n)), .inl (.natCast (cdN (Nat.succ n) t))] (fun v pa m => Bool.and (eqL eqC m []) (kInt v (fun x => sNum x (fun y => Nat.beq y t))))))) = true := by decide +kernel
theorem typ_p : allL 5 (fun n => lAll (fun o => Nat.ble (Nat.succ (typN (Nat.succ n) o)) (pOf (Nat.succ n))) (ordN (Nat.succ n))) = true := by decide +kernel
theorem typN_lt {n : Nat} {o : List Nat} (hn : 1 ≤ n) (hn5 : n ≤ 5) (ho : o ∈ ordN n) : typN n o < pOf n := by
  have := allL_ok typ_p (n - 1) (by omega)
  rw [show Nat.succ (n - 1) = n by omega] at this
  exact Nat.le_of_ble_eq_true (lAll_ok this o ho)
/-- TYPE's code, class -/
theorem c_typX (l : Launch) {D : va_G} {cy : Nat → ClassId} {al : Nat → Nat} {w : va_W} {d n : Nat} {o : List Nat} (hd : 3 ≤ d) (hn : 1 ≤ n) (hn5 : n ≤ 5) (ho : o ∈ ordN n) : gMet l D cy al d 14 w [.int (Int32.ofNat (ocode o)), .int (Int32.ofNat n)] (fun v w2 => v = some (.int (Int32.ofNat (cdN n (typN n o)))) ∧ w2 = w) := by
  have h := q_tyX hn hn5 ho
  unfold tyX at h
  rw [Bool.and_eq_true] at h
  have key := gMet_pure (D := D) (cy := cy) (al := al) (w := w) (r := ((fun _ => 0), (fun _ => 0))) l sPa_nil h.2 (z := Int32.ofNat (cdN n (typN n o))) (fun x pa h _ => by
    obtain ⟨n, rfl, h⟩ := sNum_ok h
    rw [sI_c, Nat.eq_of_beq_eq_true h])
  simp only [List.map_cons, List.map_nil, sVal, sI_c] at key
  rw [codeO_eq (ordN_in ho)] at key
  exact gMet_up hd key
/-- its number, class -/
theorem c_numX (l : Launch) {D : va_G} {cy : Nat → ClassId} {al : Nat → Nat} {w : va_W} {d n t : Nat} (hd : 3 ≤ d) (hn : 1 ≤ n) (hn5 : n ≤ 5) (ht : t < pOf n) : gMet l D cy al d 24 w [.int (Int32.ofNat n), .int (Int32.ofNat (cdN n t))] (fun v w2 => v = some (.int (Int32.ofNat t)) ∧ w2 = w) := by
  have hp := p_tab n (by omega)
  have h := allL_ok (allL_ok q_num (n - 1) (by omega)) t (by omega)
  rw [show Nat.succ (n - 1) = n by omega, Bool.or_eq_true] at h
  rcases h with h | h
  · have := Nat.le_of_ble_eq_true h
    omega
  have key := gMet_pure (D := D) (cy := cy) (al := al) (w := w) (r := ((fun _ => 0), (fun _ => 0))) l sPa_nil h (z := Int32.ofNat t) (fun x pa h _ => by
    obtain ⟨n, rfl, h⟩ := sNum_ok h
    rw [sI_c, Nat.eq_of_beq_eq_true h])
  simp only [List.map_cons, List.map_nil, sVal, sI_c] at key
  exact gMet_up hd key
noncomputable def KMt : Nat → Bool := memB [nat_lit 0, nat_lit 11, nat_lit 12, nat_lit 13, nat_lit 16, nat_lit 17]
noncomputable def tyM (n : Nat) (o : List Nat) : Bool := sBeg (nat_lit 69) (nat_lit 45) tMv KMt ((nat_lit 0, nat_lit 1, .natCast n) :: oArr (nat_lit 13) o) (fun m0 => sRun (nat_lit 100000) (nat_lit 12) (nat_lit 166) [] m0 [.inr (.inr (some (nat_lit 0))), .inr (.inr (some (nat_lit 13)))] (fun v _ m => Bool.and (sK0 (nat_lit 69) (nat_lit 45) tMv KMt m0 m) (eqO v (some (.inl (.natCast (typN n o)))))))
theorem q_tyM_4 : allL 4 (fun n => lAll (tyM (Nat.succ n)) (ordN (Nat.succ n))) = true := by decide +kernel
theorem q_tyM_0 : lAll (tyM 5) (chk 0) = true := by decide +kernel
theorem q_tyM_1 : lAll (tyM 5) (chk 1) = true := by decide +kernel
theorem q_tyM_2 : lAll (tyM 5) (chk 2) = true := by decide +kernel
theorem q_tyM_3 : lAll (tyM 5) (chk 3) = true := by decide +kernel
theorem q_tyM {n : Nat} {o : List Nat} (hn : 1 ≤ n) (hn5 : n ≤ 5) (ho : o ∈ ordN n) : tyM n o = true := by_chk q_tyM_4 q_tyM_0 q_tyM_1 q_tyM_2 q_tyM_3 hn hn5 ho
/-- the number of the TYPE, model -/
theorem c_typM (l : Launch) {D : va_G} {cy : Nat → ClassId} {al : Nat → Nat} {rest : va_W} {r : sE} {d n : Nat} {o : List Nat} (hd : 12 ≤ d) (hn : 1 ≤ n) (hn5 : n ≤ 5) (hnr : r.1 (mP 0 1) = Int32.ofNat n) (ho : o ∈ ordN n) (hm : hasO r 13 o) : gMet l D cy al d 166 (tW r al cy rest 45 tMv) [.ref (al 0), .ref (al 13)] (fun v w2 => v = some (.int (Int32.ofNat (typN n o))) ∧ ∃ r1, kp 69 45 tMv r r1 ∧ w2 = tW r1 al cy rest 45 tMv) := by
  refine gMet_up hd ?_
  exact c_run l (as := [.inr (.inr (some 0)), .inr (.inr (some 13))]) (r := r) (by omega) tMv_ok (cC_M _) sPa_nil (oM_cons (by rw [sI_c]; exact hnr) (oArr_ok hm)) (q_tyM hn hn5 ho) (fun m0 v pa m hk hp hkp => ⟨by
    rw [eqO_ok hk]
    show some (Value.int (sI r (.natCast (typN n o)))) = _
    rw [sI_c], _, hkp, rfl⟩)
