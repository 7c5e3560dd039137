/-! 79: word (by wip/whole/mk79.py) -/
noncomputable def stK (q : sK) : Bool := Bool.and (stX q.2.2.1) (stX q.2.2.2)
theorem sPa_st {r r1 : sE} (h : sameA r r1) {pa : List sK} (hs : lAll stK pa = true) (hp : sPa r pa) : sPa r1 pa := by
  intro q hq
  have h1 := lAll_ok hs q hq
  have h2 := hp q hq
  obtain ⟨a, b, x, y⟩ := q
  unfold stK at h1
  rw [Bool.and_eq_true] at h1
  have ex : sI r1 x = sI r x := congrArg Prod.fst (stX_ok h x h1.1)
  have ey : sI r1 y = sI r y := congrArg Prod.fst (stX_ok h y h1.2)
  cases a <;> cases b <;> simp only [sKd, ex, ey] at h2 ⊢ <;> exact h2
noncomputable def twM (n : Nat) (o : List Nat) : Bool := sBeg (nat_lit 69) (nat_lit 45) tMv (memB [nat_lit 0, nat_lit 13, nat_lit 18, nat_lit 19]) ((nat_lit 0, nat_lit 1, .natCast n) :: oArr (nat_lit 13) o) (fun m0 => sRun (nat_lit 100000) (nat_lit 6) (nat_lit 169) [] m0 [.inr (.inr (some (nat_lit 0))), .inr (.inr (some (nat_lit 13)))] (fun v _ m => Bool.and (sK0 (nat_lit 69) (nat_lit 45) tMv (memB [nat_lit 0, nat_lit 13, nat_lit 18, nat_lit 19]) m0 m) (Bool.and (eqO v none) (Bool.and (isE m (nat_lit 0) (nat_lit 22) (.natCast (lenO o))) (allL (lenO o) (fun j => isE m (nat_lit 18) j (.natCast (nthO (wdO o) j))))))))
theorem q_twM_4 : allL 4 (fun n => lAll (twM (Nat.succ n)) (ordN (Nat.succ n))) = true := by decide +kernel
theorem q_twM_0 : lAll (twM 5) (chk 0) = true := by decide +kernel
theorem q_twM_1 : lAll (twM 5) (chk 1) = true := by decide +kernel
theorem q_twM_2 : lAll (twM 5) (chk 2) = true := by decide +kernel
theorem q_twM_3 : lAll (twM 5) (chk 3) = true := by decide +kernel
theorem q_twM {n : Nat} {o : List Nat} (hn : 1 ≤ n) (hn5 : n ≤ 5) (ho : o ∈ ordN n) : twM n o = true := by_chk q_twM_4 q_twM_0 q_twM_1 q_twM_2 q_twM_3 hn hn5 ho
/-- the WORD, model -/
theorem c_twM (l : Launch) {D : va_G} {cy : Nat → ClassId} {al : Nat → Nat} {rest : va_W} {r : sE} {d n : Nat} {o : List Nat} (hd : 6 ≤ d) (hn : 1 ≤ n) (hn5 : n ≤ 5) (hnr : r.1 (mP 0 1) = Int32.ofNat n) (ho : o ∈ ordN n) (hm : hasO r 13 o) : gMet l D cy al d 169 (tW r al cy rest 45 tMv) [.ref (al 0), .ref (al 13)] (fun v w2 => ∃ r1, kp 69 45 tMv r r1 ∧ (r1.1 (mP 0 22) = Int32.ofNat (lenO o) ∧ ∀ j, j < lenO o → r1.1 (mP 18 j) = Int32.ofNat (nthO (wdO o) j)) ∧ v = none ∧ w2 = tW r1 al cy rest 45 tMv) := by
  refine gMet_up hd ?_
  have hl : lenO o ≤ 10 := Nat.le_of_ble_eq_true (lAll_ok lenO_tab o (ordN_in ho))
  refine c_run l (as := [.inr (.inr (some 0)), .inr (.inr (some 13))]) (r := r) (by omega) tMv_ok (cC_M _) sPa_nil (oM_cons (by rw [sI_c]; exact hnr) (oArr_ok hm)) (q_twM hn hn5 ho) (fun m0 v pa m hk hp hkp => ?_)
  rw [Bool.and_eq_true, Bool.and_eq_true] at hk
  refine ⟨_, hkp, ⟨?_, fun j hj => ?_⟩, by rw [eqO_ok hk.1]; rfl, rfl⟩
  · have := isE_ok (b := 69) (r := r) (by decide) hk.2.1
    rwa [sI_c] at this
  · have := isE_ok (b := 69) (r := r) (by omega) (allL_ok hk.2.2 j hj)
    rwa [sI_c] at this
noncomputable def LW (q i : Nat) : sL := [some (.inr (.inr (some (nat_lit 0)))), some (.inl (.natCast q)), some (.inl (dA (nat_lit 819201) (nat_lit 0) (nat_lit 10) i))]
theorem q_wEX : allL 4 (fun q => allL 12 (fun i => Bool.and (sEnt [.inr (.inr (some (nat_lit 0))), .inl (.natCast q), .inl (dA (nat_lit 819201) (nat_lit 0) (nat_lit 10) i)] (PG (nat_lit 98)).2.1 (fun L => eqL eqO L (LW q i))) (sEnt [.inr (.inr (some (nat_lit 0))), .inl (.natCast q), .inl (dA (nat_lit 819201) (nat_lit 0) (nat_lit 10) i)] (PG (nat_lit 170)).2.1 (fun L => eqL eqO L (LW q i))))) = true := by decide +kernel
theorem q_wPA : allL 12 (fun i => lAll stK (dP (nat_lit 819201) (nat_lit 0) (nat_lit 10) i [])) = true := by decide +kernel
theorem q_wA : allL 4 (fun q => allL 11 (fun i0 => (fun i => sBeg (nat_lit 0) (nat_lit 69) tXv (memB [nat_lit 0, nat_lit 34]) [(nat_lit 34, q, .var (Nat.add (nat_lit 819202) q))] (fun m0 => sx PG (nat_lit 1000) (nat_lit 9) (PG (nat_lit 98)) (fun pc => Nat.beq pc (nat_lit 20)) (kS1 (nat_lit 0) (nat_lit 69) tXv (memB [nat_lit 0, nat_lit 34]) (nat_lit 20) (LW q i) [.inl (.var (Nat.add (nat_lit 819202) q)), .inl (dA (nat_lit 819201) (nat_lit 0) (nat_lit 10) i)] (fun _ _ _ => true) m0) (fun _ _ m => Bool.and (sK0 (nat_lit 0) (nat_lit 69) tXv (memB [nat_lit 0, nat_lit 34]) m0 m) false) (nat_lit 0) (LW q i) [] (dP (nat_lit 819201) (nat_lit 0) (nat_lit 10) i []) m0)) (Nat.succ i0))) = true := by decide +kernel
noncomputable def wNot (i n : Nat) : Bool := Bool.or (Nat.beq i (nat_lit 1)) (Nat.ble (Nat.add n (nat_lit 2)) i)
noncomputable def wBq (q i n : Nat) : Bool := sBeg (nat_lit 0) (nat_lit 69) tXv (memB [nat_lit 0, nat_lit 34]) [(nat_lit 34, q, .var (Nat.add (nat_lit 819202) q))] (fun m0 => sx PG (nat_lit 1000) (nat_lit 9) (PG (nat_lit 98)) (fun pc => Nat.beq pc (nat_lit 33)) (kS1 (nat_lit 0) (nat_lit 69) tXv (memB [nat_lit 0, nat_lit 34]) (nat_lit 33) (LW q i) [.inl (dA (nat_lit 819201) (nat_lit 0) (nat_lit 10) i), .inl (.var (Nat.add (nat_lit 819202) q))] (fun _ _ _ => Bool.not (wNot i n)) m0) (fun v _ m => Bool.and (sK0 (nat_lit 0) (nat_lit 69) tXv (memB [nat_lit 0, nat_lit 34]) m0 m) (Bool.and (wNot i n) (eqO v (some (.inl (.natCast (nat_lit 4294967294))))))) (nat_lit 23) (LW q i) [.inl (.natCast n), .inl (dA (nat_lit 819201) (nat_lit 0) (nat_lit 10) i)] (dP (nat_lit 819201) (nat_lit 0) (nat_lit 10) i []) m0)
theorem q_wB : allL 4 (fun q => allL 11 (fun i0 => allL 11 (fun n => wBq q (Nat.succ i0) n))) = true := by decide +kernel
theorem q_wR : allL 4 (fun q => allL 10 (fun i => allL 5 (fun z => sx PG (nat_lit 100) (nat_lit 9) (PG (nat_lit 98)) (fun _ => false) (fun _ _ _ _ _ => false) (fun v _ m => Bool.and (eqL eqC m []) (eqO v (some (.inl (.natCast z))))) (nat_lit 36) (LW q (Nat.add i (nat_lit 2))) [.inl (.natCast z)] [] []))) = true := by decide +kernel
theorem q_wMA : allL 4 (fun q => allL 11 (fun i0 => (fun i => sBeg (nat_lit 69) (nat_lit 45) tMv (memB [nat_lit 0, nat_lit 6, nat_lit 13]) [] (fun m0 => sx PG (nat_lit 1000) (nat_lit 9) (PG (nat_lit 170)) (fun pc => Nat.beq pc (nat_lit 23)) (kS1 (nat_lit 69) (nat_lit 45) tMv (memB [nat_lit 0, nat_lit 6, nat_lit 13]) (nat_lit 23) (LW q i) [.inr (.inr (some (nat_lit 13))), .inr (.inr (some (nat_lit 0)))] (fun _ _ m => isReg q m) m0) (fun _ _ m => Bool.and (sK0 (nat_lit 69) (nat_lit 45) tMv (memB [nat_lit 0, nat_lit 6, nat_lit 13]) m0 m) false) (nat_lit 0) (LW q i) [] (dP (nat_lit 819201) (nat_lit 0) (nat_lit 10) i []) m0)) (Nat.succ i0))) = true := by decide +kernel
noncomputable def wMC (q i n : Nat) : Bool := sBeg (nat_lit 69) (nat_lit 45) tMv (memB [nat_lit 0, nat_lit 18]) [(nat_lit 0, nat_lit 22, .natCast n)] (fun m0 => sx PG (nat_lit 1000) (nat_lit 9) (PG (nat_lit 170)) (fun _ => false) (fun _ _ _ _ m => Bool.and (sK0 (nat_lit 69) (nat_lit 45) tMv (memB [nat_lit 0, nat_lit 18]) m0 m) false) (fun v _ m => Bool.and (sK0 (nat_lit 69) (nat_lit 45) tMv (memB [nat_lit 0, nat_lit 18]) m0 m) (Bool.rec (motive := fun _ => Bool) (eqO v (some (.inl (.var (Nat.add (nat_lit 356350) i))))) (eqO v (some (.inl (.natCast (nat_lit 4294967294))))) (wNot i n))) (nat_lit 26) (LW q i) [] (dP (nat_lit 819201) (nat_lit 0) (nat_lit 10) i []) m0)
theorem q_wMC : allL 4 (fun q => allL 11 (fun i0 => allL 11 (fun n => wMC q (Nat.succ i0) n))) = true := by decide +kernel
noncomputable def wdV (o : List Nat) (i : Nat) : Nat := Bool.rec (motive := fun _ => Nat) (nthO (wdO o) (Nat.sub i (nat_lit 2))) (nat_lit 4294967294) (wNot i (lenO o))
theorem retI {r : sE} {al : Nat → Nat} {k : Nat} {v0 : Option sV} (h : eqO v0 (some (.inl (.natCast k))) = true) : v0.map (sVal r al) = some (.int (Int32.ofNat k)) := by
  rw [eqO_ok h]
  show some (Value.int (sI r (.natCast k))) = _
  rw [sI_c]
theorem wd_le {o : List Nat} {i : Nat} (ho : o ∈ ORDS) (hi : i < lenO o) : nthO (wdO o) i < 5 := by
  have := allL_ok (lAll_ok (show lAll (fun o => allL 10 (fun i => Nat.ble (Nat.succ (nthO (wdO o) i)) 5)) ORDS = true by decide +kernel) o ho) i (by have h10 : lenO o ≤ 10 := Nat.le_of_ble_eq_true (lAll_ok lenO_tab o ho); omega)
  exact Nat.le_of_ble_eq_true this
theorem c_wordX (l : Launch) {D : va_G} {cy : Nat → ClassId} {al : Nat → Nat} {rest : va_W} {r : sE} {n q i : Nat} {o : List Nat} {pa : List sK} (hn : 1 ≤ n) (hn5 : n ≤ 5) (hq : q < 4) (hi1 : 1 ≤ i) (hi : i < 12) (hpa : sPa r (dP 819201 0 10 i [])) (ho : o ∈ ordN n) (hr : r.1 (xP 34 q) = Int32.ofNat (ocode o)) (hf : r.1 (819202 + q) = r.1 (xP 34 q)) : gMet l D cy al 200 98 (tW r al cy rest 69 tXv) [.ref (al 0), .int (Int32.ofNat q), .int (sI r (dA 819201 0 10 i))] (fun v w2 => v = some (.int (Int32.ofNat (wdV o i))) ∧ ∃ r1, kp 0 69 tXv r r1 ∧ w2 = tW r1 al cy rest 69 tXv) := by
  refine gMet_up (d := 9) (by omega) ?_
  have hE := allL_ok (allL_ok q_wEX q hq) i hi
  rw [Bool.and_eq_true] at hE
  have key := gMet_of (l := l) (D := D) (cy := cy) (al := al) (d := 9) (k := 98) (w := tW r al cy rest 69 tXv) (r := r) (G := fun v w2 => v = some (.int (Int32.ofNat (wdV o i))) ∧ ∃ r1, kp 0 69 tXv r r1 ∧ w2 = tW r1 al cy rest 69 tXv) hE.1 (fun At hFC => ?_)
  · have ea : List.map (sVal r al) [.inr (.inr (some (nat_lit 0))), .inl (.natCast q), .inl (dA (nat_lit 819201) (nat_lit 0) (nat_lit 10) i)] = [.ref (al 0), .int (Int32.ofNat q), .int (sI r (dA 819201 0 10 i))] := by
      simp only [List.map_cons, List.map_nil, sVal, sI_c]
    rw [ea] at key
    exact key
  obtain ⟨i0, rfl⟩ : ∃ k, i = Nat.succ k := ⟨i - 1, by show i = i - 1 + 1; omega⟩
  have hl : lenO o ≤ 10 := Nat.le_of_ble_eq_true (lAll_ok lenO_tab o (ordN_in ho))
  have hst := allL_ok q_wPA (Nat.succ i0) hi
  have hvq : ∀ r1, kp 0 69 tXv r r1 → sI r1 (.var (Nat.add (nat_lit 819202) q)) = Int32.ofNat (ocode o) := fun r1 hk => by
    rw [sI_v]
    exact ((hk.2.2 (819202 + q) (by omega) (by omega)).1).trans (hf.trans hr)
  have rq : ∀ r1, kp 0 69 tXv r r1 → r1.1 (xP 34 q) = sI r1 (.var (Nat.add (nat_lit 819202) q)) := fun r1 hk => by
    rw [hvq r1 hk, ← hr]
    have hv : ∀ q, q < 4 → isV 0 69 tXv (xP 34 q) = true ∧ scQ (xP 34 q) = false := by decide +kernel
    exact hk.1 _ (hv q hq).1 (hv q hq).2
  refine g_seg1 hFC (r := r) (by omega) tXv_ok (cC_X _) hpa (oX_cons (rq r kp_rfl) oX_nil) (allL_ok (allL_ok q_wA q hq) i0 (by omega)) (fun m0 pa m r1 h1 h2 h3 hk1 => ?_) (fun m0 v pa m r1 h1 => nomatch h1)
  refine g_callS (as := [.inl (.var (Nat.add (nat_lit 819202) q))]) (st := [.inl (dA (nat_lit 819201) (nat_lit 0) (nat_lit 10) (Nat.succ i0))]) (v0 := some (.inl (.natCast (lenO o)))) hFC (nx := 23) (mi := 11) ⟨_, _, rfl, rfl⟩ rfl rfl (Or.inl rfl) ?_ ?_
  · have ea : List.map (sVal r1 al) [.inl (.var (Nat.add (nat_lit 819202) q))] = [.int (Int32.ofNat (ocode o))] := by
      simp only [List.map_cons, List.map_nil, sVal, hvq r1 hk1]
    rw [ea]
    exact (c_len l (by omega) (ordN_in ho)).mono (fun v w2 h => ⟨by rw [h.1]; show _ = some (Value.int (sI r1 (.natCast (lenO o)))); rw [sI_c], h.2⟩)
  refine g_seg1 hFC (r := r1) (by omega) tXv_ok (cC_X _) (sPa_st hk1.2.2 hst hpa) (oX_cons (rq r1 hk1) oX_nil) (allL_ok (allL_ok (allL_ok q_wB q hq) i0 (by omega)) (lenO o) (by omega)) (fun m0 pa m r2 h1 h2 h4 hk2 => ?_) (fun m0 v pa m r2 h1 h2 h4 hk2 => ?_)
  · have hN : wNot (Nat.succ i0) (lenO o) = false := by simpa using h1
    have hN2 := hN
    unfold wNot at hN2
    rw [Bool.or_eq_false_iff] at hN2
    have i1 : Nat.succ i0 ≠ 1 := fun h => by have := Nat.ne_of_beq_eq_false hN2.1; exact this h
    have i2 : ¬ lenO o + 2 ≤ Nat.succ i0 := fun h => by
      have := Nat.ble_eq_true_of_le h
      rw [show Nat.ble (lenO o + 2) (Nat.succ i0) = Nat.ble (Nat.add (lenO o) (nat_lit 2)) (Nat.succ i0) from rfl, hN2.2] at this
      cases this
    obtain ⟨j, rfl⟩ : ∃ j, i0 = j + 1 := ⟨i0 - 1, by omega⟩
    have hj : j < lenO o := by omega
    have hk12 := kp_trans hk1 hk2
    refine g_callS (as := [.inl (.var (Nat.add (nat_lit 819202) q)), .inl (dA (nat_lit 819201) (nat_lit 0) (nat_lit 10) (Nat.succ (j + 1)))]) (st := []) (v0 := some (.inl (.natCast (nthO (wdO o) j)))) hFC (nx := 36) (mi := 12) ⟨_, _, rfl, rfl⟩ rfl rfl (Or.inl rfl) ?_ ?_
    · have ea : List.map (sVal r2 al) [.inl (.var (Nat.add (nat_lit 819202) q)), .inl (dA (nat_lit 819201) (nat_lit 0) (nat_lit 10) (Nat.succ (j + 1)))] = [.int (Int32.ofNat (ocode o)), .int (Int32.ofNat j)] := by
        simp only [List.map_cons, List.map_nil, sVal, hvq r2 hk12]
        rw [show sI r2 (dA (nat_lit 819201) (nat_lit 0) (nat_lit 10) (Nat.succ (j + 1))) = Int32.ofNat j from dA_c (by omega)]
      rw [ea]
      exact (c_letter l (by omega) (ordN_in ho) hj).mono (fun v w2 h => ⟨by rw [h.1]; show _ = some (Value.int (sI r2 (.natCast (nthO (wdO o) j)))); rw [sI_c], h.2⟩)
    have hV : wdV o (Nat.succ (j + 1)) = nthO (wdO o) j := by
      unfold wdV
      rw [hN]
      rfl
    exact g_ret hFC (r := r2) (allL_ok (allL_ok (allL_ok q_wR q hq) j (by omega)) (nthO (wdO o) j) (wd_le (ordN_in ho) hj)) (fun v0 h0 => retI h0) ⟨by rw [hV], r2, hk12, rfl⟩
  · rw [Bool.and_eq_true] at h1
    have hV : wdV o (Nat.succ i0) = 4294967294 := by
      unfold wdV
      rw [h1.1]
    exact ⟨by rw [hV]; exact retI h1.2, r2, kp_trans hk1 hk2, rfl⟩
theorem c_wordM (l : Launch) {D : va_G} {cy : Nat → ClassId} {al : Nat → Nat} {rest : va_W} {r : sE} {n q i : Nat} {o : List Nat} (hn : 1 ≤ n) (hn5 : n ≤ 5) (hq : q < 4) (hi1 : 1 ≤ i) (hi : i < 12) (hpa : sPa r (dP 819201 0 10 i [])) (hnr : r.1 (mP 0 1) = Int32.ofNat n) (ho : o ∈ ordN n) (hr : ∀ i, i < 5 → r.1 (mP 6 (6 * q + 1) + i) = Int32.ofNat (o.getD i 0)) : gMet l D cy al 200 170 (tW r al cy rest 45 tMv) [.ref (al 0), .int (Int32.ofNat q), .int (sI r (dA 819201 0 10 i))] (fun v w2 => v = some (.int (Int32.ofNat (wdV o i))) ∧ ∃ r1, kp 69 45 tMv r r1 ∧ w2 = tW r1 al cy rest 45 tMv) := by
  refine gMet_up (d := 9) (by omega) ?_
  have hE := allL_ok (allL_ok q_wEX q hq) i hi
  rw [Bool.and_eq_true] at hE
  have key := gMet_of (l := l) (D := D) (cy := cy) (al := al) (d := 9) (k := 170) (w := tW r al cy rest 45 tMv) (r := r) (G := fun v w2 => v = some (.int (Int32.ofNat (wdV o i))) ∧ ∃ r1, kp 69 45 tMv r r1 ∧ w2 = tW r1 al cy rest 45 tMv) hE.2 (fun At hFC => ?_)
  · have ea : List.map (sVal r al) [.inr (.inr (some (nat_lit 0))), .inl (.natCast q), .inl (dA (nat_lit 819201) (nat_lit 0) (nat_lit 10) i)] = [.ref (al 0), .int (Int32.ofNat q), .int (sI r (dA 819201 0 10 i))] := by
      simp only [List.map_cons, List.map_nil, sVal, sI_c]
    rw [ea] at key
    exact key
  obtain ⟨i0, rfl⟩ : ∃ k, i = Nat.succ k := ⟨i - 1, by show i = i - 1 + 1; omega⟩
  obtain ⟨⟨m1, m2⟩, m3⟩ := kpM_regs
  have hl : lenO o ≤ 10 := Nat.le_of_ble_eq_true (lAll_ok lenO_tab o (ordN_in ho))
  have hst := allL_ok q_wPA (Nat.succ i0) hi
  refine g_seg1 hFC (r := r) (by omega) tMv_ok (cC_M _) hpa oM_nil (allL_ok (allL_ok q_wMA q hq) i0 (by omega)) (fun m0 pa m r1 h1 h2 h3 hk1 => ?_) (fun m0 v pa m r1 h1 => nomatch h1)
  have hh : hasO r1 13 o := fun i hi => by rw [h3, isReg_ok h1 i hi, hr i hi]
  refine g_call1 (d1 := 8) (as := [.inr (.inr (some (nat_lit 0))), .inr (.inr (some (nat_lit 13)))]) (st := []) (v0 := none) (E := fun r1 => r1.1 (mP 0 22) = Int32.ofNat (lenO o) ∧ ∀ j, j < lenO o → r1.1 (mP 18 j) = Int32.ofNat (nthO (wdO o) j)) hFC (nx := 26) (mi := 169) ⟨_, _, rfl, rfl⟩ rfl rfl (gRecv_t (by omega) rfl rfl) (by
    have h9 : lAll stO (LW q (Nat.succ i0)) = true := allL_ok (allL_ok (show allL 4 (fun q => allL 11 (fun i => lAll stO (LW q (Nat.succ i)))) = true by decide +kernel) q hq) i0 (by omega)
    exact h9) rfl (c_twM l (r := r1) (by omega) hn hn5 ((hk1.1 _ m1 m2).trans hnr) ho hh) (fun r2 hk2 hE2 => ?_)
  have hk12 := kp_trans hk1 hk2
  refine g_seg hFC (r := r2) (by omega) tMv_ok (cC_M _) (sPa_st hk12.2.2 hst hpa) (oM_cons (by rw [sI_c]; exact hE2.1) oM_nil) (allL_ok (allL_ok (allL_ok q_wMC q hq) i0 (by omega)) (lenO o) (by omega)) (fun m0 pc L st pa m h1 => nomatch h1) (fun m0 v pa m h4 h5 hk3 => ?_)
  refine ⟨?_, _, kp_trans hk12 hk3, rfl⟩
  unfold wdV
  cases hN : wNot (Nat.succ i0) (lenO o) with
  | true =>
    rw [hN] at h4
    exact retI h4
  | false =>
    rw [hN] at h4
    have hN2 := hN
    unfold wNot at hN2
    rw [Bool.or_eq_false_iff] at hN2
    have i1 : Nat.succ i0 ≠ 1 := fun h => by have := Nat.ne_of_beq_eq_false hN2.1; exact this h
    have i2 : ¬ lenO o + 2 ≤ Nat.succ i0 := fun h => by
      have := Nat.ble_eq_true_of_le h
      rw [show Nat.ble (lenO o + 2) (Nat.succ i0) = Nat.ble (Nat.add (lenO o) (nat_lit 2)) (Nat.succ i0) from rfl, hN2.2] at this
      cases this
    obtain ⟨j, rfl⟩ : ∃ j, i0 = j + 1 := ⟨i0 - 1, by omega⟩
    have hj : j < lenO o := by omega
    rw [eqO_ok h4]
    show some (Value.int (sI r2 (.var (356350 + (j + 1 + 1))))) = _
    rw [sI_v, show 356350 + (j + 1 + 1) = mP 18 j by unfold mP; omega, hE2.2 j hj]
    rfl
theorem kd_98 : (PG 98).2.2.2.2 = 1 := by decide +kernel
theorem crJ_word : crJ (memB [nat_lit 0, nat_lit 34]) (memB [nat_lit 0]) scQ = true := by decide +kernel
noncomputable def wordR (a0 a1 : Nat) : Bool := jRun (nat_lit 100000) (nat_lit 200) tXv tXv tMv tMv (nat_lit 98) (nat_lit 170) (memB [nat_lit 0, nat_lit 34]) (memB [nat_lit 0]) [] [] (dP (nat_lit 819200) (nat_lit 0) (nat_lit 4) a0 (dP (nat_lit 819201) (nat_lit 0) (nat_lit 10) a1 [])) [.inl (dA (nat_lit 819200) (nat_lit 0) (nat_lit 4) a0), .inl (dA (nat_lit 819201) (nat_lit 0) (nat_lit 10) a1)] (fun x0 m0 pa x m => frJ scQ x0 m0 x m)
theorem q_word : allL 6 (fun a0 => allL 12 (fun a1 => Bool.or (Bool.and (Nat.ble (nat_lit 2) a0) (Nat.ble (nat_lit 1) a1)) (wordR a0 a1))) = true := by decide +kernel
theorem op_word {l : Launch} {D : va_G} {cy : Nat → ClassId} {alX alM : Nat → Nat} : OpI l D cy alX alM 98 170 2 := by
  intro r as hI hlen
  obtain ⟨a0, a1, rfl⟩ : ∃ a0 a1, as = [a0, a1] := by
    match as, hlen with
    | [a0, a1], _ => exact ⟨a0, a1, rfl⟩
  refine OpOk_uA [a0, a1, r.1 (xP 34 0), r.1 (xP 34 1), r.1 (xP 34 2), r.1 (xP 34 3)] ?_
  have e0 : (uA r [a0, a1, r.1 (xP 34 0), r.1 (xP 34 1), r.1 (xP 34 2), r.1 (xP 34 3)]).1 819200 = a0 := uA_a 0
  have e1 : (uA r [a0, a1, r.1 (xP 34 0), r.1 (xP 34 1), r.1 (xP 34 2), r.1 (xP 34 3)]).1 819201 = a1 := uA_a 1
  have f0 : (uA r [a0, a1, r.1 (xP 34 0), r.1 (xP 34 1), r.1 (xP 34 2), r.1 (xP 34 3)]).1 819202 = (uA r [a0, a1, r.1 (xP 34 0), r.1 (xP 34 1), r.1 (xP 34 2), r.1 (xP 34 3)]).1 (xP 34 0) := (uA_a 2).trans (uA_lo (by decide)).symm
  have f1 : (uA r [a0, a1, r.1 (xP 34 0), r.1 (xP 34 1), r.1 (xP 34 2), r.1 (xP 34 3)]).1 819203 = (uA r [a0, a1, r.1 (xP 34 0), r.1 (xP 34 1), r.1 (xP 34 2), r.1 (xP 34 3)]).1 (xP 34 1) := (uA_a 3).trans (uA_lo (by decide)).symm
  have f2 : (uA r [a0, a1, r.1 (xP 34 0), r.1 (xP 34 1), r.1 (xP 34 2), r.1 (xP 34 3)]).1 819204 = (uA r [a0, a1, r.1 (xP 34 0), r.1 (xP 34 1), r.1 (xP 34 2), r.1 (xP 34 3)]).1 (xP 34 2) := (uA_a 4).trans (uA_lo (by decide)).symm
  have f3 : (uA r [a0, a1, r.1 (xP 34 0), r.1 (xP 34 1), r.1 (xP 34 2), r.1 (xP 34 3)]).1 819205 = (uA r [a0, a1, r.1 (xP 34 0), r.1 (xP 34 1), r.1 (xP 34 2), r.1 (xP 34 3)]).1 (xP 34 3) := (uA_a 5).trans (uA_lo (by decide)).symm
  replace hI := Inv_uA (as := [a0, a1, r.1 (xP 34 0), r.1 (xP 34 1), r.1 (xP 34 2), r.1 (xP 34 3)]) hI
  generalize uA r [a0, a1, r.1 (xP 34 0), r.1 (xP 34 1), r.1 (xP 34 2), r.1 (xP 34 3)] = r at hI e0 e1 f0 f1 f2 f3 ⊢
  obtain ⟨c0, hc0, hp0, hv0⟩ := dP_ok r 819200 (lo := 0) (n := 4) (Or.inr (by omega)) (by omega)
  rw [e0] at hv0
  obtain ⟨c1, hc1, hp1, hv1⟩ := dP_ok r 819201 (lo := 0) (n := 10) (Or.inr (by omega)) (by omega)
  rw [e1] at hv1
  have hq := allL_ok (allL_ok q_word c0 hc0) c1 hc1
  rw [Bool.or_eq_true, Bool.and_eq_true] at hq
  rcases hq with ⟨g0, g1⟩ | hq
  · have b0 : 2 ≤ c0 := Nat.le_of_ble_eq_true g0
    have b1 : 1 ≤ c1 := Nat.le_of_ble_eq_true g1
    obtain ⟨q, rfl⟩ : ∃ k, c0 = k + 2 := ⟨c0 - 2, by omega⟩
    have ek : a0 = Int32.ofNat q := by rw [← hv0, dA_c (by omega)]
    subst ek
    have hq4 : q < 4 := by omega
    obtain ⟨c, hc, hcc, hcm⟩ := id hI
    obtain ⟨⟨-, hn1, -⟩, hn2, -⟩ := CC_nd hc hcc
    obtain ⟨-, n1, n5⟩ := cd_tab c hc
    obtain ⟨o, ho, hx, hm⟩ := (Comp_R hq4).mp (hcm q (by omega))
    have hf : r.1 (819202 + q) = r.1 (xP 34 q) := by
      match q, hq4 with
      | 0, _ => exact f0
      | 1, _ => exact f1
      | 2, _ => exact f2
      | 3, _ => exact f3
    have hpa := hp1 [] sPa_nil
    rw [← hv1]
    exact OpOk_V (V := some (.int (Int32.ofNat (wdV o c1)))) hI (fun rest => c_wordX l (pa := []) n1 n5 hq4 b1 hc1 hpa ho hx hf) (fun rest => c_wordM l n1 n5 hq4 b1 hc1 hpa hn2 ho hm) (Or.inl ⟨kd_98, _, rfl⟩)
  · refine jOk l tXv_ok tXv_ok tMv_ok tMv_ok (cC_X r) (cC_M r) (hp0 _ (hp1 _ sPa_nil)) (fun _ _ _ => rfl) (fun _ _ _ => rfl) oX_nil oM_nil ?_ ?_ hq (fun x0 m0 pa x m hx0 hm0 hck hp hfx hfm _ _ => Inv_qv crJ_word hx0 hm0 hfx hfm hck hI)
    · simp only [List.map_cons, List.map_nil, sVal, hv0, hv1]
    · simp only [List.map_cons, List.map_nil, sVal, hv0, hv1]
