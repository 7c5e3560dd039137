/-! 79: word (by wip/whole/mk79.py) -/
noncomputable def stK (q : sK) : Bool := Bool.and (stX q.2.2.1) (stX q.2.2.2)
theorem sPa_st {r r1 : sE} (h : sameA r r1) {pa : List sK} (hs : lAll stK pa = true) (hp : sPa r pa) : sPa r1 pa := by
  intro q hq
  have h1 := lAll_ok hs q hq
  have h2 := hp q hq
  obtain ⟨a, b, x, y⟩ := q
  unfold stK at h1
  rw [Bool.and_eq_true] at h1
  have ex : sI r1 x = sI r x := congrArg Prod.fst (stX_ok h x h1.1)
  have ey : sI r1 y = sI r y := congrArg Prod.fst (stX_ok h y h1.2)
  cases a <;> cases b <;> simp only [sKd, ex, ey] at h2 ⊢ <;> exact h2
noncomputable def LW (q i : Nat) : sL := [some (.inr (.inr (some (nat_lit 0)))), some (.inl (.natCast q)), some (.inl (dA (nat_lit 819201) (nat_lit 0) (nat_lit 10) i))]
theorem q_wEX : allL 4 (fun q => allL 12 (fun i => Bool.and (sEnt [.inr (.inr (some (nat_lit 0))), .inl (.natCast q), .inl (dA (nat_lit 819201) (nat_lit 0) (nat_lit 10) i)] (PG (nat_lit 98)).2.1 (fun L => eqL eqO L (LW q i))) (sEnt [.inr (.inr (some (nat_lit 0))), .inl (.natCast q), .inl (dA (nat_lit 819201) (nat_lit 0) (nat_lit 10) i)] (PG (nat_lit 170)).2.1 (fun L => eqL eqO L (LW q i))))) = true := by decide +kernel
theorem q_wPA : allL 12 (fun i => lAll stK (dP (nat_lit 819201) (nat_lit 0) (nat_lit 10) i [])) = true := by decide +kernel
theorem q_wA : allL 4 (fun q => allL 11 (fun i0 => (fun i => sBeg (nat_lit 0) (nat_lit 68) tXv (memB [nat_lit 0, nat_lit 34]) [(nat_lit 34, q, .var (Nat.add (nat_lit 819202) q))] (fun m0 => sx PG (nat_lit 1000) (nat_lit 9) (PG (nat_lit 98)) (fun pc => Nat.beq pc (nat_lit 20)) (kS1 (nat_lit 0) (nat_lit 68) tXv (memB [nat_lit 0, nat_lit 34]) (nat_lit 20) (LW q i) [.inl (.var (Nat.add (nat_lit 819202) q)), .inl (dA (nat_lit 819201) (nat_lit 0) (nat_lit 10) i)] (fun _ _ _ => true) m0) (fun _ _ m => Bool.and (sK0 (nat_lit 0) (nat_lit 68) tXv (memB [nat_lit 0, nat_lit 34]) m0 m) false) (nat_lit 0) (LW q i) [] (dP (nat_lit 819201) (nat_lit 0) (nat_lit 10) i []) m0)) (Nat.succ i0))) = true := by decide +kernel
noncomputable def wNot (i n : Nat) : Bool := Bool.or (Nat.beq i (nat_lit 1)) (Nat.ble (Nat.add n (nat_lit 2)) i)
noncomputable def wBq (q i n : Nat) : Bool := sBeg (nat_lit 0) (nat_lit 68) tXv (memB [nat_lit 0, nat_lit 34]) [(nat_lit 34, q, .var (Nat.add (nat_lit 819202) q))] (fun m0 => sx PG (nat_lit 1000) (nat_lit 9) (PG (nat_lit 98)) (fun pc => Nat.beq pc (nat_lit 33)) (kS1 (nat_lit 0) (nat_lit 68) tXv (memB [nat_lit 0, nat_lit 34]) (nat_lit 33) (LW q i) [.inl (dA (nat_lit 819201) (nat_lit 0) (nat_lit 10) i), .inl (.var (Nat.add (nat_lit 819202) q))] (fun _ _ _ => Bool.not (wNot i n)) m0) (fun v _ m => Bool.and (sK0 (nat_lit 0) (nat_lit 68) tXv (memB [nat_lit 0, nat_lit 34]) m0 m) (Bool.and (wNot i n) (eqO v (some (.inl (.natCast (nat_lit 4294967294))))))) (nat_lit 23) (LW q i) [.inl (.natCast n), .inl (dA (nat_lit 819201) (nat_lit 0) (nat_lit 10) i)] (dP (nat_lit 819201) (nat_lit 0) (nat_lit 10) i []) m0)
theorem q_wB : allL 4 (fun q => allL 11 (fun i0 => allL 11 (fun n => wBq q (Nat.succ i0) n))) = true := by decide +kernel
theorem q_wR : allL 4 (fun q => allL 10 (fun i => allL 5 (fun z => sx PG (nat_lit 100) (nat_lit 9) (PG (nat_lit 98)) (fun _ => false) (fun _ _ _ _ _ => false) (fun v _ m => Bool.and (eqL eqC m []) (eqO v (some (.inl (.natCast z))))) (nat_lit 36) (LW q (Nat.add i (nat_lit 2))) [.inl (.natCast z)] [] []))) = true := by decide +kernel
theorem q_wMA : allL 4 (fun q => allL 11 (fun i0 => (fun i => sBeg (nat_lit 69) (nat_lit 45) tMv (memB [nat_lit 0, nat_lit 6, nat_lit 13]) [] (fun m0 => sx PG (nat_lit 1000) (nat_lit 9) (PG (nat_lit 170)) (fun pc => Nat.beq pc (nat_lit 23)) (kS1 (nat_lit 69) (nat_lit 45) tMv (memB [nat_lit 0, nat_lit 6, nat_lit 13]) (nat_lit 23) (LW q i) [.inr (.inr (some (nat_lit 13))), .inr (.inr (some (nat_lit 0)))] (fun _ _ m => isReg q m) m0) (fun _ _ m => Bool.and (sK0 (nat_lit 69) (nat_lit 45) tMv (memB [nat_lit 0, nat_lit 6, nat_lit 13]) m0 m) false) (nat_lit 0) (LW q i) [] (dP (nat_lit 819201) (nat_lit 0) (nat_lit 10) i []) m0)) (Nat.succ i0))) = true := by decide +kernel
noncomputable def wMC (q i n : Nat) : Bool := sBeg (nat_lit 69) (nat_lit 45) tMv (memB [nat_lit 0, nat_lit 18]) [(nat_lit 0, nat_lit 22, .natCast n)] (fun m0 => sx PG (nat_lit 1000) (nat_lit 9) (PG (nat_lit 170)) (fun _ => false) (fun _ _ _ _ m => Bool.and (sK0 (nat_lit 69) (nat_lit 45) tMv (memB [nat_lit 0, nat_lit 18]) m0 m) false) (fun v _ m => Bool.and (sK0 (nat_lit 69) (nat_lit 45) tMv (memB [nat_lit 0, nat_lit 18]) m0 m) (Bool.rec (motive := fun _ => Bool) (eqO v (some (.inl (.var (Nat.add (nat_lit 356350) i))))) (eqO v (some (.inl (.natCast (nat_lit 4294967294))))) (wNot i n))) (nat_lit 26) (LW q i) [] (dP (nat_lit 819201) (nat_lit 0) (nat_lit 10) i []) m0)
theorem q_wMC : allL 4 (fun q => allL 11 (fun i0 => allL 11 (fun n => wMC q (Nat.succ i0) n))) = true := by decide +kernel
noncomputable def wdV (o : List Nat) (i : Nat) : Nat := Bool.rec (motive := fun _ => Nat) (nthO (wdO o) (Nat.sub i (nat_lit 2))) (nat_lit 4294967294) (wNot i (lenO o))
theorem retI {r : sE} {al : Nat → Nat} {k : Nat} {v0 : Option sV} (h : eqO v0 (some (.inl (.natCast k))) = true) : v0.map (sVal r al) = some (.int (Int32.ofNat k)) := by
  rw [eqO_ok h]
  show some (Value.int (sI r (.natCast k))) = _
  rw [sI_c]
theorem wd_le {o : List Nat} {i : Nat} (ho : o ∈ ORDS) (hi : i < lenO o) : nthO (wdO o) i < 5 := by
  have := allL_ok (lAll_ok (show lAll (fun o => allL 10 (fun i => Nat.ble (Nat.succ (nthO (wdO o) i)) 5)) ORDS = true by decide +kernel) o ho) i (by have h10 : lenO o ≤ 10 := Nat.le_of_ble_eq_true (lAll_ok lenO_tab o ho); omega)
  exact Nat.le_of_ble_eq_true this
theorem c_wordX (l : Launch) {D : va_G} {cy : Nat → ClassId} {al : Nat → Nat} {rest : va_W} {r : sE} {n q i : Nat} {o : List Nat} {pa : List sK} (hn : 1 ≤ n) (hn5 : n ≤ 5) (hq : q < 4) (hi1 : 1 ≤ i) (hi : i < 12) (hpa : sPa r (dP 819201 0 10 i [])) (ho : o ∈ ordN n) (hr : r.1 (xP 34 q) = Int32.ofNat (ocode o)) (hf : r.1 (819202 + q) = r.1 (xP 34 q)) : gMet l D cy al 200 98 (tW r al cy rest 68 tXv) [.ref (al 0), .int (Int32.ofNat q), .int (sI r (dA 819201 0 10 i))] (fun v w2 => v = some (.int (Int32.ofNat (wdV o i))) ∧ ∃ r1, kp 0 68 tXv r r1 ∧ w2 = tW r1 al cy rest 68 tXv) := by
  refine gMet_up (d := 9) (by omega) ?_
  have hE := allL_ok (allL_ok q_wEX q hq) i hi
  rw [Bool.and_eq_true] at hE
  have key := gMet_of (l := l) (D := D) (cy := cy) (al := al) (d := 9) (k := 98) (w := tW r al cy rest 68 tXv) (r := r) (G := fun v w2 => v = some (.int (Int32.ofNat (wdV o i))) ∧ ∃ r1, kp 0 68 tXv r r1 ∧ w2 = tW r1 al cy rest 68 tXv) hE.1 (fun At hFC => ?_)
  · have ea : List.map (sVal r al) [.inr (.inr (some (nat_lit 0))), .inl (.natCast q), .inl (dA (nat_lit 819201) (nat_lit 0) (nat_lit 10) i)] = [.ref (al 0), .int (Int32.ofNat q), .int (sI r (dA 819201 0 10 i))] := by
      simp only [List.map_cons, List.map_nil, sVal, sI_c]
    rw [ea] at key
    exact key
  obtain ⟨i0, rfl⟩ : ∃ k, i = Nat.succ k := ⟨i - 1, by show i = i - 1 + 1; omega⟩
  have hl : lenO o ≤ 10 := Nat.le_of_ble_eq_true (lAll_ok lenO_tab o (ordN_in ho))
  have hst := allL_ok q_wPA (Nat.succ i0) hi
  have hvq : ∀ r1, kp 0 68 tXv r r1 → sI r1 (.var (Nat.add (nat_lit 819202) q)) = Int32.ofNat (ocode o) := fun r1 hk => by
    rw [sI_v]
    exact ((hk.2.2 (819202 + q) (by omega) (by omega)).1).trans (hf.trans hr)
  have rq : ∀ r1, kp 0 68 tXv r r1 → r1.1 (xP 34 q) = sI r1 (.var (Nat.add (nat_lit 819202) q)) := fun r1 hk => by
    rw [hvq r1 hk, ← hr]
    have hv : ∀ q, q < 4 → isV 0 68 tXv (xP 34 q) = true ∧ scQ (xP 34 q) = false := by decide +kernel
    exact hk.1 _ (hv q hq).1 (hv q hq).2
  refine g_seg1 hFC (r := r) (by omega) tXv_ok (cC_X _) hpa (oX_cons (rq r kp_rfl) oX_nil) (allL_ok (allL_ok q_wA q hq) i0 (by omega)) (fun m0 pa m r1 h1 h2 h3 hk1 => ?_) (fun m0 v pa m r1 h1 => nomatch h1)
  refine g_callS (as := [.inl (.var (Nat.add (nat_lit 819202) q))]) (st := [.inl (dA (nat_lit 819201) (nat_lit 0) (nat_lit 10) (Nat.succ i0))]) (v0 := some (.inl (.natCast (lenO o)))) hFC (nx := 23) (mi := 11) ⟨_, _, rfl, rfl⟩ rfl rfl (Or.inl rfl) ?_ ?_
  · have ea : List.map (sVal r1 al) [.inl (.var (Nat.add (nat_lit 819202) q))] = [.int (Int32.ofNat (ocode o))] := by
      simp only [List.map_cons, List.map_nil, sVal, hvq r1 hk1]
    rw [ea]
    exact (c_len l (by omega) (ordN_in ho)).mono (fun v w2 h => ⟨by rw [h.1]; show _ = some (Value.int (sI r1 (.natCast (lenO o)))); rw [sI_c], h.2⟩)
  refine g_seg1 hFC (r := r1) (by omega) tXv_ok (cC_X _) (sPa_st hk1.2.2 hst hpa) (oX_cons (rq r1 hk1) oX_nil) (allL_ok (allL_ok (allL_ok q_wB q hq) i0 (by omega)) (lenO o) (by omega)) (fun m0 pa m r2 h1 h2 h4 hk2 => ?_) (fun m0 v pa m r2 h1 h2 h4 hk2 => ?_)
  · have hN : wNot (Nat.succ i0) (lenO o) = false := by simpa using h1
    have hN2 := hN
    unfold wNot at hN2
    rw [Bool.or_eq_false_iff] at hN2
    have i1 : Nat.succ i0 ≠ 1 := fun h => by have := Nat.ne_of_beq_eq_false hN2.1; exact this h
    have i2 : ¬ lenO o + 2 ≤ Nat.succ i0 := fun h => by
      have := Nat.ble_eq_true_of_le h
      rw [show Nat.ble (lenO o + 2) (Nat.succ i0) = Nat.ble (Nat.add (lenO o) (nat_lit 2)) (Nat.succ i0) from rfl, hN2.2] at this
      cases this
    obtain ⟨j, rfl⟩ : ∃ j, i0 = j + 1 := ⟨i0 - 1, by omega⟩
    have hj : j < lenO o := by omega
    have hk12 := kp_trans hk1 hk2
    refine g_callS (as := [.inl (.var (Nat.add (nat_lit 819202) q)), .inl (dA (nat_lit 819201) (nat_lit 0) (nat_lit 10) (Nat.succ (j + 1)))]) (st := []) (v0 := some (.inl (.natCast (nthO (wdO o) j)))) hFC (nx := 36) (mi := 12) ⟨_, _, rfl, rfl⟩ rfl rfl (Or.inl rfl) ?_ ?_
    · have ea : List.map (sVal r2 al) [.inl (.var (Nat.add (nat_lit 819202) q)), .inl (dA (nat_lit 819201) (nat_lit 0) (nat_lit 10) (Nat.succ (j + 1)))] = [.int (Int32.ofNat (ocode o)), .int (Int32.ofNat j)] := by
        simp only [List.map_cons, List.map_nil, sVal, hvq r2 hk12]
        rw [show sI r2 (dA (nat_lit 819201) (nat_lit 0) (nat_lit 10) (Nat.succ (j + 1))) = Int32.ofNat j from dA_c (by omega)]
      rw [ea]
      exact (c_letter l (by omega) (ordN_in ho) hj).mono (fun v w2 h => ⟨by rw [h.1]; show _ = some (Value.int (sI r2 (.natCast (nthO (wdO o) j)))); rw [sI_c], h.2⟩)
    have hV : wdV o (Nat.succ (j + 1)) = nthO (wdO o) j := by
      unfold wdV
      rw [hN]
      rfl
    exact g_ret hFC (r := r2) (allL_ok (allL_ok (allL_ok q_wR q hq) j (by omega)) (nthO (wdO o) j) (wd_le (ordN_in ho) hj)) (fun v0 h0 => retI h0) ⟨by rw [hV], r2, hk12, rfl⟩
  · rw [Bool.and_eq_true] at h1
    have hV : wdV o (Nat.succ i0) = 4294967294 := by
      unfold wdV
      rw [h1.1]
    exact ⟨by rw [hV]; exact retI h1.2, r2, kp_trans hk1 hk2, rfl⟩
