/-! 77: told (by wip/whole/mk77.py) -/
noncomputable def parJ (n : Nat) : Nat := Nat.rec (motive := fun _ => Nat) (nat_lit 1) (fun _ _ => nat_lit 18446744073709551615) (Nat.mod n (nat_lit 2))
noncomputable def toV (n : Nat) (o : List Nat) (w : Nat) : Nat := Nat.rec (motive := fun _ => Nat) (lenO o) (fun k _ => Nat.rec (motive := fun _ => Nat) (parJ (lenO o)) (fun _ _ => typN n o) k) w
noncomputable def LX (q w : Nat) : sL := [some (.inr (.inr (some (nat_lit 0)))), some (.inl (.natCast q)), some (.inl (.natCast w)), none]
noncomputable def LX1 (q w : Nat) : sL := [some (.inr (.inr (some (nat_lit 0)))), some (.inl (.natCast q)), some (.inl (.natCast w)), some (.inl (.var (Nat.add (nat_lit 819202) q)))]
noncomputable def LM (q w : Nat) : sL := [some (.inr (.inr (some (nat_lit 0)))), some (.inl (.natCast q)), some (.inl (.natCast w))]
theorem q_tEX : allL 4 (fun q => allL 3 (fun w => sEnt [.inr (.inr (some (nat_lit 0))), .inl (.natCast q), .inl (.natCast w)] (PG (nat_lit 97)).2.1 (fun L => eqL eqO L (LX q w)))) = true := by decide +kernel
theorem q_tEM : allL 4 (fun q => allL 3 (fun w => sEnt [.inr (.inr (some (nat_lit 0))), .inl (.natCast q), .inl (.natCast w)] (PG (nat_lit 167)).2.1 (fun L => eqL eqO L (LM q w)))) = true := by decide +kernel
theorem q_tX0 : allL 4 (fun q => sBeg (nat_lit 0) (nat_lit 68) tXv (memB [nat_lit 0, nat_lit 34]) [(nat_lit 34, q, .var (Nat.add (nat_lit 819202) q))] (fun m0 => sx PG (nat_lit 1000) (nat_lit 7) (PG (nat_lit 97)) (fun pc => Nat.beq pc (nat_lit 45)) (kS1 (nat_lit 0) (nat_lit 68) tXv (memB [nat_lit 0, nat_lit 34]) (nat_lit 45) (LX1 q (nat_lit 0)) [.inl (.var (Nat.add (nat_lit 819202) q))] (fun _ _ _ => true) m0) (fun _ _ m => Bool.and (sK0 (nat_lit 0) (nat_lit 68) tXv (memB [nat_lit 0, nat_lit 34]) m0 m) false) (nat_lit 0) (LX q (nat_lit 0)) [] [] m0)) = true := by decide +kernel
theorem q_tX1 : allL 4 (fun q => sBeg (nat_lit 0) (nat_lit 68) tXv (memB [nat_lit 0, nat_lit 34]) [(nat_lit 34, q, .var (Nat.add (nat_lit 819202) q))] (fun m0 => sx PG (nat_lit 1000) (nat_lit 7) (PG (nat_lit 97)) (fun pc => Nat.beq pc (nat_lit 51)) (kS1 (nat_lit 0) (nat_lit 68) tXv (memB [nat_lit 0, nat_lit 34]) (nat_lit 51) (LX1 q (nat_lit 1)) [.inl (.var (Nat.add (nat_lit 819202) q))] (fun _ _ _ => true) m0) (fun _ _ m => Bool.and (sK0 (nat_lit 0) (nat_lit 68) tXv (memB [nat_lit 0, nat_lit 34]) m0 m) false) (nat_lit 0) (LX q (nat_lit 1)) [] [] m0)) = true := by decide +kernel
theorem q_tX2 : allL 5 (fun n => allL 4 (fun q => sBeg (nat_lit 0) (nat_lit 68) tXv (memB [nat_lit 0, nat_lit 1, nat_lit 34]) [(nat_lit 34, q, .var (Nat.add (nat_lit 819202) q)), (nat_lit 1, nat_lit 1, .natCast (Nat.succ n))] (fun m0 => sx PG (nat_lit 1000) (nat_lit 7) (PG (nat_lit 97)) (fun pc => Nat.beq pc (nat_lit 82)) (kS1 (nat_lit 0) (nat_lit 68) tXv (memB [nat_lit 0, nat_lit 1, nat_lit 34]) (nat_lit 82) (LX1 q (nat_lit 2)) [.inl (.natCast (Nat.succ n)), .inl (.var (Nat.add (nat_lit 819202) q)), .inl (.natCast (Nat.succ n))] (fun _ _ _ => true) m0) (fun _ _ m => Bool.and (sK0 (nat_lit 0) (nat_lit 68) tXv (memB [nat_lit 0, nat_lit 1, nat_lit 34]) m0 m) false) (nat_lit 0) (LX q (nat_lit 2)) [] [] m0))) = true := by decide +kernel
theorem q_rX0 : allL 4 (fun q => allL 11 (fun z => sx PG (nat_lit 100) (nat_lit 7) (PG (nat_lit 97)) (fun _ => false) (fun _ _ _ _ _ => false) (fun v _ m => Bool.and (eqL eqC m []) (eqO v (some (.inr (.inl (.natCast z)))))) (nat_lit 48) (LX1 q (nat_lit 0)) [.inl (.natCast z)] [] [])) = true := by decide +kernel
theorem q_rX1 : allL 4 (fun q => allL 11 (fun z => sx PG (nat_lit 100) (nat_lit 7) (PG (nat_lit 97)) (fun _ => false) (fun _ _ _ _ _ => false) (fun v _ m => Bool.and (eqL eqC m []) (eqO v (some (.inr (.inl (.natCast (parJ z))))))) (nat_lit 54) (LX1 q (nat_lit 1)) [.inl (.natCast z)] [] [])) = true := by decide +kernel
theorem q_rX2 : allL 4 (fun q => allL 7 (fun z => sx PG (nat_lit 100) (nat_lit 7) (PG (nat_lit 97)) (fun _ => false) (fun _ _ _ _ _ => false) (fun v _ m => Bool.and (eqL eqC m []) (eqO v (some (.inr (.inl (.natCast z)))))) (nat_lit 88) (LX1 q (nat_lit 2)) [.inl (.natCast z)] [] [])) = true := by decide +kernel
theorem q_tM0 : allL 4 (fun q => sBeg (nat_lit 69) (nat_lit 45) tMv (memB [nat_lit 0, nat_lit 6, nat_lit 13]) [] (fun m0 => sx PG (nat_lit 1000) (nat_lit 20) (PG (nat_lit 167)) (fun pc => Nat.beq pc (nat_lit 37)) (kS1 (nat_lit 69) (nat_lit 45) tMv (memB [nat_lit 0, nat_lit 6, nat_lit 13]) (nat_lit 37) (LM q (nat_lit 0)) [.inr (.inr (some (nat_lit 13))), .inr (.inr (some (nat_lit 0)))] (fun _ _ m => isReg q m) m0) (fun _ _ m => Bool.and (sK0 (nat_lit 69) (nat_lit 45) tMv (memB [nat_lit 0, nat_lit 6, nat_lit 13]) m0 m) false) (nat_lit 0) (LM q (nat_lit 0)) [] [] m0)) = true := by decide +kernel
theorem q_tM1 : allL 4 (fun q => sBeg (nat_lit 69) (nat_lit 45) tMv (memB [nat_lit 0, nat_lit 6, nat_lit 13]) [] (fun m0 => sx PG (nat_lit 1000) (nat_lit 20) (PG (nat_lit 167)) (fun pc => Nat.beq pc (nat_lit 56)) (kS1 (nat_lit 69) (nat_lit 45) tMv (memB [nat_lit 0, nat_lit 6, nat_lit 13]) (nat_lit 56) (LM q (nat_lit 1)) [.inr (.inr (some (nat_lit 13))), .inr (.inr (some (nat_lit 0))), .inl (.natCast (nat_lit 2)), .inl (.natCast (nat_lit 1))] (fun _ _ m => isReg q m) m0) (fun _ _ m => Bool.and (sK0 (nat_lit 69) (nat_lit 45) tMv (memB [nat_lit 0, nat_lit 6, nat_lit 13]) m0 m) false) (nat_lit 0) (LM q (nat_lit 1)) [] [] m0)) = true := by decide +kernel
theorem q_tM2 : allL 4 (fun q => sBeg (nat_lit 69) (nat_lit 45) tMv (memB [nat_lit 0, nat_lit 6, nat_lit 13]) [] (fun m0 => sx PG (nat_lit 1000) (nat_lit 20) (PG (nat_lit 167)) (fun pc => Nat.beq pc (nat_lit 72)) (kS1 (nat_lit 69) (nat_lit 45) tMv (memB [nat_lit 0, nat_lit 6, nat_lit 13]) (nat_lit 72) (LM q (nat_lit 2)) [.inr (.inr (some (nat_lit 13))), .inr (.inr (some (nat_lit 0)))] (fun _ _ m => isReg q m) m0) (fun _ _ m => Bool.and (sK0 (nat_lit 69) (nat_lit 45) tMv (memB [nat_lit 0, nat_lit 6, nat_lit 13]) m0 m) false) (nat_lit 0) (LM q (nat_lit 2)) [] [] m0)) = true := by decide +kernel
theorem q_rM0 : allL 4 (fun q => allL 11 (fun z => sx PG (nat_lit 100) (nat_lit 20) (PG (nat_lit 167)) (fun _ => false) (fun _ _ _ _ _ => false) (fun v _ m => Bool.and (eqL eqC m []) (eqO v (some (.inr (.inl (.natCast z)))))) (nat_lit 40) (LM q (nat_lit 0)) [.inl (.natCast z)] [] [])) = true := by decide +kernel
theorem q_rM1 : allL 4 (fun q => allL 11 (fun z => sx PG (nat_lit 100) (nat_lit 20) (PG (nat_lit 167)) (fun _ => false) (fun _ _ _ _ _ => false) (fun v _ m => Bool.and (eqL eqC m []) (eqO v (some (.inr (.inl (.natCast (parJ z))))))) (nat_lit 59) (LM q (nat_lit 1)) [.inl (.natCast z), .inl (.natCast (nat_lit 2)), .inl (.natCast (nat_lit 1))] [] [])) = true := by decide +kernel
theorem q_rM2 : allL 4 (fun q => allL 7 (fun z => sx PG (nat_lit 100) (nat_lit 20) (PG (nat_lit 167)) (fun _ => false) (fun _ _ _ _ _ => false) (fun v _ m => Bool.and (eqL eqC m []) (eqO v (some (.inr (.inl (.natCast z)))))) (nat_lit 75) (LM q (nat_lit 2)) [.inl (.natCast z)] [] [])) = true := by decide +kernel
theorem retV {r : sE} {al : Nat → Nat} {k : Nat} {v0 : Option sV} (h : eqO v0 (some (.inr (.inl (.natCast k)))) = true) : v0.map (sVal r al) = some (.long (Int64.ofNat k)) := by
  rw [eqO_ok h]
  show some (Value.long (sJ r (.natCast k))) = _
  simp only [sJ, sD_c]
theorem c_toldX (l : Launch) {D : va_G} {cy : Nat → ClassId} {al : Nat → Nat} {rest : va_W} {r : sE} {n q w : Nat} {o : List Nat} (hn : 1 ≤ n) (hn5 : n ≤ 5) (hq : q < 4) (hw : w < 3) (hnr : r.1 (xP 1 1) = Int32.ofNat n) (ho : o ∈ ordN n) (hr : r.1 (xP 34 q) = Int32.ofNat (ocode o)) (hf : r.1 (819202 + q) = r.1 (xP 34 q)) : gMet l D cy al 200 97 (tW r al cy rest 68 tXv) [.ref (al 0), .int (Int32.ofNat q), .int (Int32.ofNat w)] (fun v w2 => v = some (.long (Int64.ofNat (toV n o w))) ∧ ∃ r1, kp 0 68 tXv r r1 ∧ w2 = tW r1 al cy rest 68 tXv) := by
  refine gMet_up (d := 7) (by omega) ?_
  have key := gMet_of (l := l) (D := D) (cy := cy) (al := al) (d := 7) (k := 97) (w := tW r al cy rest 68 tXv) (r := r) (G := fun v w2 => v = some (.long (Int64.ofNat (toV n o w))) ∧ ∃ r1, kp 0 68 tXv r r1 ∧ w2 = tW r1 al cy rest 68 tXv) (allL_ok (allL_ok q_tEX q hq) w hw) (fun At hFC => ?_)
  · have ea : List.map (sVal r al) [.inr (.inr (some (nat_lit 0))), .inl (.natCast q), .inl (.natCast w)] = [.ref (al 0), .int (Int32.ofNat q), .int (Int32.ofNat w)] := by
      simp only [List.map_cons, List.map_nil, sVal, sI_c]
    rw [ea] at key
    exact key
  have hl : lenO o ≤ 10 := Nat.le_of_ble_eq_true (lAll_ok lenO_tab o (ordN_in ho))
  have hov : r.1 (xP 34 q) = sI r (.var (Nat.add (nat_lit 819202) q)) := by rw [sI_v]; exact hf.symm
  have hvq : ∀ r1, kp 0 68 tXv r r1 → sI r1 (.var (Nat.add (nat_lit 819202) q)) = Int32.ofNat (ocode o) := fun r1 hk => by
    rw [sI_v]
    exact ((hk.2.2 (819202 + q) (by omega) (by omega)).1).trans (hf.trans hr)
  have lenC : ∀ r1, kp 0 68 tXv r r1 → gMet l D cy al 6 11 (tW r1 al cy rest 68 tXv) (List.map (sVal r1 al) [.inl (.var (Nat.add (nat_lit 819202) q))]) (fun v w2 => v = (some (.inl (.natCast (lenO o)))).map (sVal r1 al) ∧ w2 = tW r1 al cy rest 68 tXv) := fun r1 hk => by
    have ea : List.map (sVal r1 al) [.inl (.var (Nat.add (nat_lit 819202) q))] = [.int (Int32.ofNat (ocode o))] := by
      simp only [List.map_cons, List.map_nil, sVal, hvq r1 hk]
    rw [ea]
    exact (c_len l (by omega) (ordN_in ho)).mono (fun v w2 h => ⟨by rw [h.1]; show _ = some (Value.int (sI r1 (.natCast (lenO o)))); rw [sI_c], h.2⟩)
  match w, hw with
  | 0, _ =>
    refine g_seg1 hFC (r := r) (by omega) tXv_ok (cC_X _) sPa_nil (oX_cons hov oX_nil) (allL_ok q_tX0 q hq) (fun m0 pa m r1 h1 h2 h3 hk1 => ?_) (fun m0 v pa m r1 h1 => nomatch h1)
    refine g_callS (as := [.inl (.var (Nat.add (nat_lit 819202) q))]) (st := []) (v0 := some (.inl (.natCast (lenO o)))) hFC (nx := 48) (mi := 11) ⟨_, _, rfl, rfl⟩ rfl rfl (Or.inl rfl) (lenC r1 hk1) ?_
    exact g_ret hFC (r := r1) (allL_ok (allL_ok q_rX0 q hq) (lenO o) (by omega)) (fun v0 h0 => retV h0) ⟨rfl, r1, hk1, rfl⟩
  | 1, _ =>
    refine g_seg1 hFC (r := r) (by omega) tXv_ok (cC_X _) sPa_nil (oX_cons hov oX_nil) (allL_ok q_tX1 q hq) (fun m0 pa m r1 h1 h2 h3 hk1 => ?_) (fun m0 v pa m r1 h1 => nomatch h1)
    refine g_callS (as := [.inl (.var (Nat.add (nat_lit 819202) q))]) (st := []) (v0 := some (.inl (.natCast (lenO o)))) hFC (nx := 54) (mi := 11) ⟨_, _, rfl, rfl⟩ rfl rfl (Or.inl rfl) (lenC r1 hk1) ?_
    exact g_ret hFC (r := r1) (allL_ok (allL_ok q_rX1 q hq) (lenO o) (by omega)) (fun v0 h0 => retV h0) ⟨rfl, r1, hk1, rfl⟩
  | 2, _ =>
    obtain ⟨n, rfl⟩ : ∃ k, n = k + 1 := ⟨n - 1, by omega⟩
    have ht := typN_lt hn hn5 ho
    have hp7 := p_tab (n + 1) (by omega)
    refine g_seg1 hFC (r := r) (by omega) tXv_ok (cC_X _) sPa_nil (oX_cons hov (oX_cons (by rw [sI_c]; exact hnr) oX_nil)) (allL_ok (allL_ok q_tX2 n (by omega)) q hq) (fun m0 pa m r1 h1 h2 h3 hk1 => ?_) (fun m0 v pa m r1 h1 => nomatch h1)
    refine g_callS (as := [.inl (.var (Nat.add (nat_lit 819202) q)), .inl (.natCast (n + 1))]) (st := [.inl (.natCast (n + 1))]) (v0 := some (.inl (.natCast (cdN (n + 1) (typN (n + 1) o))))) hFC (nx := 85) (mi := 14) ⟨_, _, rfl, rfl⟩ rfl rfl (Or.inl rfl) ?_ ?_
    · have ea : List.map (sVal r1 al) [.inl (.var (Nat.add (nat_lit 819202) q)), .inl (.natCast (n + 1))] = [.int (Int32.ofNat (ocode o)), .int (Int32.ofNat (n + 1))] := by
        simp only [List.map_cons, List.map_nil, sVal, hvq r1 hk1, sI_c]
      rw [ea]
      exact (c_typX l (by omega) hn hn5 ho).mono (fun v w2 h => ⟨by rw [h.1]; show _ = some (Value.int (sI r1 (.natCast (cdN (n + 1) (typN (n + 1) o))))); rw [sI_c], h.2⟩)
    refine g_callS (as := [.inl (.natCast (n + 1)), .inl (.natCast (cdN (n + 1) (typN (n + 1) o)))]) (st := []) (v0 := some (.inl (.natCast (typN (n + 1) o)))) hFC (nx := 88) (mi := 24) ⟨_, _, rfl, rfl⟩ rfl rfl (Or.inl rfl) ?_ ?_
    · have ea : List.map (sVal r1 al) [.inl (.natCast (n + 1)), .inl (.natCast (cdN (n + 1) (typN (n + 1) o)))] = [.int (Int32.ofNat (n + 1)), .int (Int32.ofNat (cdN (n + 1) (typN (n + 1) o)))] := by
        simp only [List.map_cons, List.map_nil, sVal, sI_c]
      rw [ea]
      exact (c_numX l (by omega) hn hn5 ht).mono (fun v w2 h => ⟨by rw [h.1]; show _ = some (Value.int (sI r1 (.natCast (typN (n + 1) o)))); rw [sI_c], h.2⟩)
    exact g_ret hFC (r := r1) (allL_ok (allL_ok q_rX2 q hq) (typN (n + 1) o) (by omega)) (fun v0 h0 => retV h0) ⟨rfl, r1, hk1, rfl⟩
theorem c_toldM (l : Launch) {D : va_G} {cy : Nat → ClassId} {al : Nat → Nat} {rest : va_W} {r : sE} {n q w : Nat} {o : List Nat} (hn : 1 ≤ n) (hn5 : n ≤ 5) (hq : q < 4) (hw : w < 3) (hnr : r.1 (mP 0 1) = Int32.ofNat n) (ho : o ∈ ordN n) (hr : ∀ i, i < 5 → r.1 (mP 6 (6 * q + 1) + i) = Int32.ofNat (o.getD i 0)) : gMet l D cy al 200 167 (tW r al cy rest 45 tMv) [.ref (al 0), .int (Int32.ofNat q), .int (Int32.ofNat w)] (fun v w2 => v = some (.long (Int64.ofNat (toV n o w))) ∧ ∃ r1, kp 69 45 tMv r r1 ∧ w2 = tW r1 al cy rest 45 tMv) := by
  refine gMet_up (d := 20) (by omega) ?_
  have key := gMet_of (l := l) (D := D) (cy := cy) (al := al) (d := 20) (k := 167) (w := tW r al cy rest 45 tMv) (r := r) (G := fun v w2 => v = some (.long (Int64.ofNat (toV n o w))) ∧ ∃ r1, kp 69 45 tMv r r1 ∧ w2 = tW r1 al cy rest 45 tMv) (allL_ok (allL_ok q_tEM q hq) w hw) (fun At hFC => ?_)
  · have ea : List.map (sVal r al) [.inr (.inr (some (nat_lit 0))), .inl (.natCast q), .inl (.natCast w)] = [.ref (al 0), .int (Int32.ofNat q), .int (Int32.ofNat w)] := by
      simp only [List.map_cons, List.map_nil, sVal, sI_c]
    rw [ea] at key
    exact key
  obtain ⟨⟨m1, m2⟩, m3⟩ := kpM_regs
  have hl : lenO o ≤ 10 := Nat.le_of_ble_eq_true (lAll_ok lenO_tab o (ordN_in ho))
  have hO : ∀ m : sM, isReg q m = true → hasO (eOf 69 r m) 13 o := fun m h i hi => by rw [isReg_ok h i hi, hr i hi]
  have lenC : ∀ r1, kp 69 45 tMv r r1 → hasO r1 13 o → gMet l D cy al 19 157 (tW r1 al cy rest 45 tMv) (List.map (sVal r1 al) [.inr (.inr (some (nat_lit 0))), .inr (.inr (some (nat_lit 13)))]) (fun v w2 => v = (some (.inl (.natCast (lenO o)))).map (sVal r1 al) ∧ w2 = tW r1 al cy rest 45 tMv) := fun r1 hk hh => (c_len13 l (by omega) hn hn5 ((hk.1 _ m1 m2).trans hnr) ho hh).mono (fun v w2 h => ⟨by rw [h.1]; show _ = some (Value.int (sI r1 (.natCast (lenO o)))); rw [sI_c], h.2⟩)
  match w, hw with
  | 0, _ =>
    refine g_seg1 hFC (r := r) (by omega) tMv_ok (cC_M _) sPa_nil oM_nil (allL_ok q_tM0 q hq) (fun m0 pa m r1 h1 h2 h3 hk1 => ?_) (fun m0 v pa m r1 h1 => nomatch h1)
    refine g_callS (as := [.inr (.inr (some (nat_lit 0))), .inr (.inr (some (nat_lit 13)))]) (st := []) (v0 := some (.inl (.natCast (lenO o)))) hFC (nx := 40) (mi := 157) ⟨_, _, rfl, rfl⟩ rfl rfl (gRecv_t (by omega) rfl rfl) (lenC r1 hk1 (by rw [h3]; exact hO m h1)) ?_
    exact g_ret hFC (r := r1) (allL_ok (allL_ok q_rM0 q hq) (lenO o) (by omega)) (fun v0 h0 => retV h0) ⟨rfl, r1, hk1, rfl⟩
  | 1, _ =>
    refine g_seg1 hFC (r := r) (by omega) tMv_ok (cC_M _) sPa_nil oM_nil (allL_ok q_tM1 q hq) (fun m0 pa m r1 h1 h2 h3 hk1 => ?_) (fun m0 v pa m r1 h1 => nomatch h1)
    refine g_callS (as := [.inr (.inr (some (nat_lit 0))), .inr (.inr (some (nat_lit 13)))]) (st := [.inl (.natCast (nat_lit 2)), .inl (.natCast (nat_lit 1))]) (v0 := some (.inl (.natCast (lenO o)))) hFC (nx := 59) (mi := 157) ⟨_, _, rfl, rfl⟩ rfl rfl (gRecv_t (by omega) rfl rfl) (lenC r1 hk1 (by rw [h3]; exact hO m h1)) ?_
    exact g_ret hFC (r := r1) (allL_ok (allL_ok q_rM1 q hq) (lenO o) (by omega)) (fun v0 h0 => retV h0) ⟨rfl, r1, hk1, rfl⟩
  | 2, _ =>
    have ht := typN_lt hn hn5 ho
    have hp7 := p_tab n (by omega)
    refine g_seg1 hFC (r := r) (by omega) tMv_ok (cC_M _) sPa_nil oM_nil (allL_ok q_tM2 q hq) (fun m0 pa m r1 h1 h2 h3 hk1 => ?_) (fun m0 v pa m r1 h1 => nomatch h1)
    refine g_call1 (d1 := 19) (as := [.inr (.inr (some (nat_lit 0))), .inr (.inr (some (nat_lit 13)))]) (st := []) (v0 := some (.inl (.natCast (typN n o)))) (E := fun _ => True) hFC (nx := 75) (mi := 166) ⟨_, _, rfl, rfl⟩ rfl rfl (gRecv_t (by omega) rfl rfl) rfl rfl ((c_typM l (r := r1) (by omega) hn hn5 ((hk1.1 _ m1 m2).trans hnr) ho (by rw [h3]; exact hO m h1)).mono (fun v w2 h => by
      obtain ⟨q1, r2, q2, q3⟩ := h
      exact ⟨r2, q2, trivial, by rw [q1]; show _ = some (Value.int (sI r2 (.natCast (typN n o)))); rw [sI_c], q3⟩)) (fun r2 hk2 _ => ?_)
    exact g_ret hFC (r := r2) (allL_ok (allL_ok q_rM2 q hq) (typN n o) (by omega)) (fun v0 h0 => retV h0) ⟨rfl, r2, kp_trans hk1 hk2, rfl⟩
theorem kd_97 : (PG 97).2.2.2.2 = 3 := by decide +kernel
theorem crJ_told : crJ (memB [nat_lit 0, nat_lit 34]) (memB [nat_lit 0]) scQ = true := by decide +kernel
noncomputable def toldR (a0 a1 : Nat) : Bool := jRun (nat_lit 100000) (nat_lit 200) tXv tXv tMv tMv (nat_lit 97) (nat_lit 167) (memB [nat_lit 0, nat_lit 34]) (memB [nat_lit 0]) [] [] (dP (nat_lit 819200) (nat_lit 0) (nat_lit 4) a0 (dP (nat_lit 819201) (nat_lit 0) (nat_lit 3) a1 [])) [.inl (dA (nat_lit 819200) (nat_lit 0) (nat_lit 4) a0), .inl (dA (nat_lit 819201) (nat_lit 0) (nat_lit 3) a1)] (fun x0 m0 pa x m => frJ scQ x0 m0 x m)
theorem q_told : allL 6 (fun a0 => allL 5 (fun a1 => Bool.or (Bool.and (Nat.ble (nat_lit 2) a0) (Nat.ble (nat_lit 2) a1)) (toldR a0 a1))) = true := by decide +kernel
theorem op_told {l : Launch} {D : va_G} {cy : Nat → ClassId} {alX alM : Nat → Nat} : OpI l D cy alX alM 97 167 2 := by
  intro r as hI hlen
  obtain ⟨a0, a1, rfl⟩ : ∃ a0 a1, as = [a0, a1] := by
    match as, hlen with
    | [a0, a1], _ => exact ⟨a0, a1, rfl⟩
  refine OpOk_uA [a0, a1, r.1 (xP 34 0), r.1 (xP 34 1), r.1 (xP 34 2), r.1 (xP 34 3)] ?_
  have e0 : (uA r [a0, a1, r.1 (xP 34 0), r.1 (xP 34 1), r.1 (xP 34 2), r.1 (xP 34 3)]).1 819200 = a0 := uA_a 0
  have e1 : (uA r [a0, a1, r.1 (xP 34 0), r.1 (xP 34 1), r.1 (xP 34 2), r.1 (xP 34 3)]).1 819201 = a1 := uA_a 1
  have f0 : (uA r [a0, a1, r.1 (xP 34 0), r.1 (xP 34 1), r.1 (xP 34 2), r.1 (xP 34 3)]).1 819202 = (uA r [a0, a1, r.1 (xP 34 0), r.1 (xP 34 1), r.1 (xP 34 2), r.1 (xP 34 3)]).1 (xP 34 0) := (uA_a 2).trans (uA_lo (by decide)).symm
  have f1 : (uA r [a0, a1, r.1 (xP 34 0), r.1 (xP 34 1), r.1 (xP 34 2), r.1 (xP 34 3)]).1 819203 = (uA r [a0, a1, r.1 (xP 34 0), r.1 (xP 34 1), r.1 (xP 34 2), r.1 (xP 34 3)]).1 (xP 34 1) := (uA_a 3).trans (uA_lo (by decide)).symm
  have f2 : (uA r [a0, a1, r.1 (xP 34 0), r.1 (xP 34 1), r.1 (xP 34 2), r.1 (xP 34 3)]).1 819204 = (uA r [a0, a1, r.1 (xP 34 0), r.1 (xP 34 1), r.1 (xP 34 2), r.1 (xP 34 3)]).1 (xP 34 2) := (uA_a 4).trans (uA_lo (by decide)).symm
  have f3 : (uA r [a0, a1, r.1 (xP 34 0), r.1 (xP 34 1), r.1 (xP 34 2), r.1 (xP 34 3)]).1 819205 = (uA r [a0, a1, r.1 (xP 34 0), r.1 (xP 34 1), r.1 (xP 34 2), r.1 (xP 34 3)]).1 (xP 34 3) := (uA_a 5).trans (uA_lo (by decide)).symm
  replace hI := Inv_uA (as := [a0, a1, r.1 (xP 34 0), r.1 (xP 34 1), r.1 (xP 34 2), r.1 (xP 34 3)]) hI
  generalize uA r [a0, a1, r.1 (xP 34 0), r.1 (xP 34 1), r.1 (xP 34 2), r.1 (xP 34 3)] = r at hI e0 e1 f0 f1 f2 f3 ⊢
  obtain ⟨c0, hc0, hp0, hv0⟩ := dP_ok r 819200 (lo := 0) (n := 4) (Or.inr (by omega)) (by omega)
  rw [e0] at hv0
  obtain ⟨c1, hc1, hp1, hv1⟩ := dP_ok r 819201 (lo := 0) (n := 3) (Or.inr (by omega)) (by omega)
  rw [e1] at hv1
  have hq := allL_ok (allL_ok q_told c0 hc0) c1 hc1
  rw [Bool.or_eq_true, Bool.and_eq_true] at hq
  rcases hq with ⟨g0, g1⟩ | hq
  · have b0 : 2 ≤ c0 := Nat.le_of_ble_eq_true g0
    have b1 : 2 ≤ c1 := Nat.le_of_ble_eq_true g1
    obtain ⟨q, rfl⟩ : ∃ k, c0 = k + 2 := ⟨c0 - 2, by omega⟩
    obtain ⟨w, rfl⟩ : ∃ k, c1 = k + 2 := ⟨c1 - 2, by omega⟩
    have ek : a0 = Int32.ofNat q := by rw [← hv0, dA_c (by omega)]
    have ep : a1 = Int32.ofNat w := by rw [← hv1, dA_c (by omega)]
    subst ek ep
    have hq4 : q < 4 := by omega
    obtain ⟨c, hc, hcc, hcm⟩ := id hI
    obtain ⟨⟨-, hn1, -⟩, hn2, -⟩ := CC_nd hc hcc
    obtain ⟨-, n1, n5⟩ := cd_tab c hc
    obtain ⟨o, ho, hx, hm⟩ := (Comp_R hq4).mp (hcm q (by omega))
    have hf : r.1 (819202 + q) = r.1 (xP 34 q) := by
      match q, hq4 with
      | 0, _ => exact f0
      | 1, _ => exact f1
      | 2, _ => exact f2
      | 3, _ => exact f3
    exact OpOk_V (V := some (.long (Int64.ofNat (toV (nOf c) o w)))) hI (fun rest => c_toldX l n1 n5 hq4 (by omega) hn1 ho hx hf) (fun rest => c_toldM l n1 n5 hq4 (by omega) hn2 ho hm) (Or.inr ⟨kd_97, _, rfl⟩)
  · refine jOk l tXv_ok tXv_ok tMv_ok tMv_ok (cC_X r) (cC_M r) (hp0 _ (hp1 _ sPa_nil)) (fun _ _ _ => rfl) (fun _ _ _ => rfl) oX_nil oM_nil ?_ ?_ hq (fun x0 m0 pa x m hx0 hm0 hck hp hfx hfm _ _ => Inv_qv crJ_told hx0 hm0 hfx hfm hck hI)
    · simp only [List.map_cons, List.map_nil, sVal, hv0, hv1]
    · simp only [List.map_cons, List.map_nil, sVal, hv0, hv1]
