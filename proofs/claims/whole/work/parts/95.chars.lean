/-! 95: character, characterOf (by wip/whole/mk95.py) -/
noncomputable def LCh (q : Nat) : sL := [some (.inr (.inr (some (nat_lit 0)))), some (.inl (.natCast q))]
theorem q_chE : allL 8 (fun q => Bool.and (sEnt [.inr (.inr (some (nat_lit 0))), .inl (.natCast q)] (PG (nat_lit 104)).2.1 (fun L => eqL eqO L (LCh q))) (Bool.and (sEnt [.inr (.inr (some (nat_lit 0))), .inl (.natCast q)] (PG (nat_lit 184)).2.1 (fun L => eqL eqO L (LCh q))) (sEnt [.inr (.inr (some (nat_lit 0))), .inl (.natCast q)] (PG (nat_lit 105)).2.1 (fun L => eqL eqO L (LCh q))))) = true := by decide +kernel
theorem q_chX : allL 4 (fun q => sBeg (nat_lit 0) (nat_lit 68) tXv (memB [nat_lit 0, nat_lit 34]) [(nat_lit 34, q, .var (Nat.add (nat_lit 819201) q))] (fun m0 => sx PG (nat_lit 1000) (nat_lit 20) (PG (nat_lit 104)) (fun pc => Nat.beq pc (nat_lit 17)) (fun pc L st pa m => Bool.and (eqL eqC m m0) (kAt (nat_lit 17) (LCh q) [.inl (.var (Nat.add (nat_lit 819201) q)), .inr (.inr (some (nat_lit 14)))] pc L st)) (fun _ _ m => Bool.and (eqL eqC m m0) false) (nat_lit 0) (LCh q) [] [] m0)) = true := by decide +kernel
noncomputable def eLg : sX := .pow (.neg (.var (nat_lit 819290))) (nat_lit 21)
theorem q_chXr : allL 8 (fun q => Bool.and (sx PG (nat_lit 10) (nat_lit 20) (PG (nat_lit 104)) (fun _ => false) (fun _ _ _ _ _ => false) (fun v _ m => Bool.and (eqL eqC m []) (eqO v (some (.inr (.inl eLg))))) (nat_lit 20) (LCh q) [.inl (.var (nat_lit 819290))] [] []) (sx PG (nat_lit 10) (nat_lit 20) (PG (nat_lit 105)) (fun _ => false) (fun _ _ _ _ _ => false) (fun v _ m => Bool.and (eqL eqC m []) (eqO v (some (.inr (.inl eLg))))) (nat_lit 33) (LCh q) [.inl (.var (nat_lit 819290))] [] [])) = true := by decide +kernel
theorem q_chM : allL 4 (fun q => sBeg (nat_lit 69) (nat_lit 45) tMv (memB [nat_lit 0, nat_lit 6, nat_lit 13]) [] (fun m0 => sx PG (nat_lit 1000) (nat_lit 20) (PG (nat_lit 184)) (fun pc => Nat.beq pc (nat_lit 21)) (kS1 (nat_lit 69) (nat_lit 45) tMv (memB [nat_lit 0, nat_lit 6, nat_lit 13]) (nat_lit 21) (LCh q) [.inr (.inr (some (nat_lit 13))), .inr (.inr (some (nat_lit 0)))] (fun _ _ m => isReg q m) m0) (fun _ _ m => Bool.and (sK0 (nat_lit 69) (nat_lit 45) tMv (memB [nat_lit 0, nat_lit 6, nat_lit 13]) m0 m) false) (nat_lit 0) (LCh q) [] [] m0)) = true := by decide +kernel
theorem q_chMr : allL 4 (fun q => sx PG (nat_lit 10) (nat_lit 20) (PG (nat_lit 184)) (fun _ => false) (fun _ _ _ _ _ => false) (fun v _ m => Bool.and (eqL eqC m []) (eqO v (some (.inr (.inl (.var (nat_lit 819290))))))) (nat_lit 24) (LCh q) [.inr (.inl (.var (nat_lit 819290)))] [] []) = true := by decide +kernel
def OTS : List (List (List Nat)) := [[], [[nat_lit 1, nat_lit 2, nat_lit 3, nat_lit 4, nat_lit 5]], [[nat_lit 2, nat_lit 1, nat_lit 3, nat_lit 4, nat_lit 5], [nat_lit 1, nat_lit 2, nat_lit 3, nat_lit 4, nat_lit 5]], [[nat_lit 2, nat_lit 3, nat_lit 1, nat_lit 4, nat_lit 5], [nat_lit 2, nat_lit 1, nat_lit 3, nat_lit 4, nat_lit 5], [nat_lit 1, nat_lit 2, nat_lit 3, nat_lit 4, nat_lit 5]], [[nat_lit 2, nat_lit 3, nat_lit 4, nat_lit 1, nat_lit 5], [nat_lit 2, nat_lit 3, nat_lit 1, nat_lit 4, nat_lit 5], [nat_lit 2, nat_lit 1, nat_lit 4, nat_lit 3, nat_lit 5], [nat_lit 2, nat_lit 1, nat_lit 3, nat_lit 4, nat_lit 5], [nat_lit 1, nat_lit 2, nat_lit 3, nat_lit 4, nat_lit 5]], [[nat_lit 2, nat_lit 3, nat_lit 4, nat_lit 5, nat_lit 1], [nat_lit 2, nat_lit 3, nat_lit 4, nat_lit 1, nat_lit 5], [nat_lit 2, nat_lit 3, nat_lit 1, nat_lit 5, nat_lit 4], [nat_lit 2, nat_lit 3, nat_lit 1, nat_lit 4, nat_lit 5], [nat_lit 2, nat_lit 1, nat_lit 4, nat_lit 3, nat_lit 5], [nat_lit 2, nat_lit 1, nat_lit 3, nat_lit 4, nat_lit 5], [nat_lit 1, nat_lit 2, nat_lit 3, nat_lit 4, nat_lit 5]]]
/-- some order of the partition k of n -/
noncomputable def otO (n k : Nat) : List Nat := nthL (nthL OTS n) k
theorem ot_in : ∀ n, n < 6 → ∀ k, k < pOf n → otO n k ∈ ordN n := by decide +kernel
theorem q_coX : allL 18 (fun c => allL (pOf (nOf c)) (fun k => sBeg (nat_lit 0) (nat_lit 68) (tX c) (memB [nat_lit 0, nat_lit 1]) [] (fun m0 => sx PG (nat_lit 2000) (nat_lit 20) (PG (nat_lit 105)) (fun pc => Nat.beq pc (nat_lit 30)) (fun pc L st pa m => Bool.and (eqL eqC m m0) (kAt (nat_lit 30) (LCh k) [.inl (.natCast (codeO (otO (nOf c) k))), .inr (.inr (some (nat_lit 14)))] pc L st)) (fun _ _ m => Bool.and (eqL eqC m m0) false) (nat_lit 0) (LCh k) [] [] m0))) = true := by decide +kernel
noncomputable def s4N (n k : Nat) : Nat := Bool.rec (motive := fun _ => Nat) (nat_lit 0) (nat_lit 1) (Bool.and (Nat.beq n (nat_lit 5)) (Nat.beq k (nat_lit 6)))
noncomputable def LCo (n k : Nat) : sL := [some (.inr (.inr (some (nat_lit 0)))), some (.inl (.natCast k)), some (.inl (.natCast (Nat.succ n))), some (.inl (.natCast (nat_lit 5))), some (.inl (.natCast (s4N n k))), some (.inl (.natCast (s4N n k)))]
theorem q_coE : allL 8 (fun k => sEnt [.inr (.inr (some (nat_lit 0))), .inl (.natCast k)] (PG (nat_lit 185)).2.1 (fun L => eqL eqO L [some (.inr (.inr (some (nat_lit 0)))), some (.inl (.natCast k)), none, none, none, none])) = true := by decide +kernel
theorem q_coM : allL 5 (fun n => allL (pOf (Nat.succ n)) (fun k => sBeg (nat_lit 69) (nat_lit 45) tMv (memB [nat_lit 0, nat_lit 11, nat_lit 12, nat_lit 13]) [(nat_lit 0, nat_lit 1, .natCast (Nat.succ n))] (fun m0 => sx PG (nat_lit 10000) (nat_lit 20) (PG (nat_lit 185)) (fun pc => Nat.beq pc (nat_lit 113)) (kS1 (nat_lit 69) (nat_lit 45) tMv (memB [nat_lit 0, nat_lit 11, nat_lit 12, nat_lit 13]) (nat_lit 113) (LCo (Nat.succ n) k) [.inr (.inr (some (nat_lit 13))), .inr (.inr (some (nat_lit 0)))] (fun _ _ m => allL 5 (fun i => isE m (nat_lit 13) (Nat.succ i) (.natCast (nthO (otO (Nat.succ n) k) i)))) m0) (fun _ _ m => Bool.and (sK0 (nat_lit 69) (nat_lit 45) tMv (memB [nat_lit 0, nat_lit 11, nat_lit 12, nat_lit 13]) m0 m) false) (nat_lit 0) [some (.inr (.inr (some (nat_lit 0)))), some (.inl (.natCast k)), none, none, none, none] [] [] m0))) = true := by decide +kernel
theorem q_coMr : allL 6 (fun n => allL 7 (fun k => sx PG (nat_lit 10) (nat_lit 20) (PG (nat_lit 185)) (fun _ => false) (fun _ _ _ _ _ => false) (fun v _ m => Bool.and (eqL eqC m []) (eqO v (some (.inr (.inl (.var (nat_lit 819290))))))) (nat_lit 116) (LCo n k) [.inr (.inl (.var (nat_lit 819290)))] [] [])) = true := by decide +kernel
section CH
variable {D : va_G} {cy : Nat → ClassId} {al : Nat → Nat} {rest : va_W}
theorem eLg_ok {r : sE} {x : Int32} : sJ (uM r [x]) eLg = x.toInt64 := sJ_i2l (uM_v 0)
theorem c_chX (l : Launch) {c q : Nat} {r : sE} {o : List Nat} (hc : c < 18) (hq : q < 4) (hcc : cC 0 68 (tX c) r) (ho : o ∈ ordN (nOf c)) (hr : r.1 (xP 34 q) = Int32.ofNat (ocode o)) (hf : r.1 (819201 + q) = r.1 (xP 34 q)) : gMet l D cy al 200 104 (tW r al cy rest 68 tXv) [.ref (al 0), .int (Int32.ofNat q)] (fun v w => (v = some (.long (Int32.ofInt (trS c o (dOf c))).toInt64) ∧ trF c o (dOf c)) ∧ ∃ r1, kp 0 68 tXv r r1 ∧ w = tW r1 al cy rest 68 tXv) := by
  refine gMet_up (d := 20) (by omega) ?_
  have hE := allL_ok q_chE q (by omega)
  rw [Bool.and_eq_true] at hE
  have key := gMet_of (l := l) (D := D) (cy := cy) (al := al) (d := 20) (k := 104) (w := tW r al cy rest 68 tXv) (r := r) (G := fun v w => (v = some (.long (Int32.ofInt (trS c o (dOf c))).toInt64) ∧ trF c o (dOf c)) ∧ ∃ r1, kp 0 68 tXv r r1 ∧ w = tW r1 al cy rest 68 tXv) hE.1 (fun At hFC => ?_)
  · rw [show List.map (sVal r al) [.inr (.inr (some (nat_lit 0))), .inl (.natCast q)] = [.ref (al 0), .int (Int32.ofNat q)] by simp only [List.map_cons, List.map_nil, sVal, sI_c]] at key
    exact key
  refine g_segS hFC (r := r) tXv_ok (cC_X _) sPa_nil (oX_cons (show r.1 (xP 34 q) = sI r (.var (Nat.add (nat_lit 819201) q)) by rw [sI_v]; exact hf.symm) oX_nil) (allL_ok q_chX q hq) (fun pc L st pa hk hp => ?_) (fun v pa hk => nomatch hk)
  obtain ⟨rfl, rfl, rfl⟩ := kAt_ok hk
  rw [show List.map (sVal r al) [.inl (.var (Nat.add (nat_lit 819201) q)), .inr (.inr (some (nat_lit 14)))] = ([.ref (al 14), .int (Int32.ofNat (ocode o))] : List Value).reverse ++ [] by
    simp only [List.map_cons, List.map_nil, sVal, sI_v]
    rw [show r.1 (Nat.add (nat_lit 819201) q) = Int32.ofNat (ocode o) from hf.trans hr]
    rfl]
  refine hFC.2 17 20 85 19 _ [.ref (al 14), .int (Int32.ofNat (ocode o))] [] _ _ ⟨_, _, rfl, rfl⟩ rfl (by decide) rfl (gRecv_x (j := 14) (show 14 < 68 by omega) rfl rfl) (c_trX l (by omega) hc hcc ho) (fun v2 w2 h => ?_)
  obtain ⟨⟨rfl, hF⟩, r2, j1, rfl⟩ := h
  have hq2 := allL_ok q_chXr q (by omega)
  rw [Bool.and_eq_true] at hq2
  have kr := g_ret (v := some (.long (Int32.ofInt (trS c o (dOf c))).toInt64)) hFC (r := uM r2 [Int32.ofInt (trS c o (dOf c))]) (w := tW r2 al cy rest 68 tXv) hq2.1 (fun v0 h0 => by
    rw [eqO_ok h0]
    show some (Value.long (sJ (uM r2 [Int32.ofInt (trS c o (dOf c))]) eLg)) = _
    rw [eLg_ok]) ⟨⟨rfl, hF⟩, r2, j1, rfl⟩
  rw [show List.map (sVal (uM r2 [Int32.ofInt (trS c o (dOf c))]) al) [.inl (.var (nat_lit 819290))] = [.int (Int32.ofInt (trS c o (dOf c)))] by
    simp only [List.map_cons, List.map_nil, sVal, sI_v]
    rw [show (uM r2 [Int32.ofInt (trS c o (dOf c))]).1 (nat_lit 819290) = _ from uM_v 0]
    rfl, show List.map (Option.map (sVal (uM r2 [Int32.ofInt (trS c o (dOf c))]) al)) (LCh q) = List.map (Option.map (sVal r al)) (LCh q) by simp only [LCh, List.map_cons, List.map_nil, Option.map_some, sVal, sI_c]] at kr
  exact kr
theorem c_coX (l : Launch) {c k : Nat} {r : sE} (hc : c < 18) (hk : k < pOf (nOf c)) (hcc : cC 0 68 (tX c) r) : gMet l D cy al 200 105 (tW r al cy rest 68 tXv) [.ref (al 0), .int (Int32.ofNat k)] (fun v w => (v = some (.long (Int32.ofInt (trS c (otO (nOf c) k) (dOf c))).toInt64) ∧ trF c (otO (nOf c) k) (dOf c)) ∧ ∃ r1, kp 0 68 tXv r r1 ∧ w = tW r1 al cy rest 68 tXv) := by
  refine gMet_up (d := 20) (by omega) ?_
  obtain ⟨-, n1, n5⟩ := cd_tab c hc
  have p7 := p_tab (nOf c) (by omega)
  have ho := ot_in (nOf c) (by omega) k hk
  have hE := allL_ok q_chE k (by omega)
  rw [Bool.and_eq_true, Bool.and_eq_true] at hE
  generalize hO : otO (nOf c) k = o at ho
  have key := gMet_of (l := l) (D := D) (cy := cy) (al := al) (d := 20) (k := 105) (w := tW r al cy rest 68 tXv) (r := r) (G := fun v w => (v = some (.long (Int32.ofInt (trS c o (dOf c))).toInt64) ∧ trF c o (dOf c)) ∧ ∃ r1, kp 0 68 tXv r r1 ∧ w = tW r1 al cy rest 68 tXv) hE.2.2 (fun At hFC => ?_)
  · rw [show List.map (sVal r al) [.inr (.inr (some (nat_lit 0))), .inl (.natCast k)] = [.ref (al 0), .int (Int32.ofNat k)] by simp only [List.map_cons, List.map_nil, sVal, sI_c]] at key
    exact key
  have hqc := allL_ok (allL_ok q_coX c hc) k hk
  rw [hO] at hqc
  refine g_segS hFC (r := r) (tX_ok hc) hcc sPa_nil oX_nil hqc (fun pc L st pa hk hp => ?_) (fun v pa hk => nomatch hk)
  obtain ⟨rfl, rfl, rfl⟩ := kAt_ok hk
  rw [show List.map (sVal r al) [.inl (.natCast (codeO o)), .inr (.inr (some (nat_lit 14)))] = ([.ref (al 14), .int (Int32.ofNat (ocode o))] : List Value).reverse ++ [] by
    simp only [List.map_cons, List.map_nil, sVal, sI_c]
    rw [codeO_eq (ordN_in ho)]
    rfl]
  refine hFC.2 30 33 85 19 _ [.ref (al 14), .int (Int32.ofNat (ocode o))] [] _ _ ⟨_, _, rfl, rfl⟩ rfl (by decide) rfl (gRecv_x (j := 14) (show 14 < 68 by omega) rfl rfl) (c_trX l (by omega) hc hcc ho) (fun v2 w2 h => ?_)
  obtain ⟨⟨rfl, hF⟩, r2, j1, rfl⟩ := h
  have hq2 := allL_ok q_chXr k (by omega)
  rw [Bool.and_eq_true] at hq2
  have kr := g_ret (v := some (.long (Int32.ofInt (trS c o (dOf c))).toInt64)) hFC (r := uM r2 [Int32.ofInt (trS c o (dOf c))]) (w := tW r2 al cy rest 68 tXv) hq2.2 (fun v0 h0 => by
    rw [eqO_ok h0]
    show some (Value.long (sJ (uM r2 [Int32.ofInt (trS c o (dOf c))]) eLg)) = _
    rw [eLg_ok]) ⟨⟨rfl, hF⟩, r2, j1, rfl⟩
  rw [show List.map (sVal (uM r2 [Int32.ofInt (trS c o (dOf c))]) al) [.inl (.var (nat_lit 819290))] = [.int (Int32.ofInt (trS c o (dOf c)))] by
    simp only [List.map_cons, List.map_nil, sVal, sI_v]
    rw [show (uM r2 [Int32.ofInt (trS c o (dOf c))]).1 (nat_lit 819290) = _ from uM_v 0]
    rfl, show List.map (Option.map (sVal (uM r2 [Int32.ofInt (trS c o (dOf c))]) al)) (LCh k) = List.map (Option.map (sVal r al)) (LCh k) by simp only [LCh, List.map_cons, List.map_nil, Option.map_some, sVal, sI_c]] at kr
  exact kr
theorem c_chM (l : Launch) {c q : Nat} {r : sE} {o : List Nat} (hc : c < 18) (hq : q < 4) (hcc : cC 69 45 (tM c) r) (hnr : r.1 (mP 0 1) = Int32.ofNat (nOf c)) (ho : o ∈ ordN (nOf c)) (hr : ∀ i, i < 5 → r.1 (mP 6 (6 * q + 1) + i) = Int32.ofNat (o.getD i 0)) (hF : trF c o (dOf c)) : gMet l D cy al 200 184 (tW r al cy rest 45 tMv) [.ref (al 0), .int (Int32.ofNat q)] (fun v w => v = some (.long (Int32.ofInt (trS c o (dOf c))).toInt64) ∧ ∃ r1, kp 69 45 tMv r r1 ∧ w = tW r1 al cy rest 45 tMv) := by
  refine gMet_up (d := 20) (by omega) ?_
  have hE := allL_ok q_chE q (by omega)
  rw [Bool.and_eq_true, Bool.and_eq_true] at hE
  have key := gMet_of (l := l) (D := D) (cy := cy) (al := al) (d := 20) (k := 184) (w := tW r al cy rest 45 tMv) (r := r) (G := fun v w => v = some (.long (Int32.ofInt (trS c o (dOf c))).toInt64) ∧ ∃ r1, kp 69 45 tMv r r1 ∧ w = tW r1 al cy rest 45 tMv) hE.2.1 (fun At hFC => ?_)
  · rw [show List.map (sVal r al) [.inr (.inr (some (nat_lit 0))), .inl (.natCast q)] = [.ref (al 0), .int (Int32.ofNat q)] by simp only [List.map_cons, List.map_nil, sVal, sI_c]] at key
    exact key
  refine g_seg1 hFC (r := r) (by omega) tMv_ok (cC_M _) sPa_nil oM_nil (allL_ok q_chM q hq) (fun m0 pa m r1 h1 h2 h3 hk1 => ?_) (fun m0 v pa m r1 h1 => nomatch h1)
  have hh : hasO r1 13 o := fun i hi => by rw [h3, isReg_ok h1 i hi, hr i hi]
  refine hFC.2 21 24 183 19 _ [.ref (al 0), .ref (al 13)] [] _ _ ⟨_, _, rfl, rfl⟩ rfl (by decide) rfl (gRecv_t (by omega) rfl rfl) (c_trM l (by omega) hc (kpM_cC hc hk1 hcc) (by rw [hk1.1 _ kpM_regs.1.1 kpM_regs.1.2]; exact hnr) ho hh hF) (fun v2 w2 h => ?_)
  obtain ⟨rfl, r2, j1, rfl⟩ := h
  have kr := g_ret (v := some (.long (Int32.ofInt (trS c o (dOf c))).toInt64)) hFC (r := uL r2 (Int32.ofInt (trS c o (dOf c))).toInt64) (w := tW r2 al cy rest 45 tMv) (allL_ok q_chMr q hq) (fun v0 h0 => by
    rw [eqO_ok h0]
    show some (Value.long (sJ (uL r2 (Int32.ofInt (trS c o (dOf c))).toInt64) (.var (nat_lit 819290)))) = _
    rw [uL_v]) ⟨rfl, r2, kp_trans hk1 j1, rfl⟩
  rw [show List.map (sVal (uL r2 (Int32.ofInt (trS c o (dOf c))).toInt64) al) [.inr (.inl (.var (nat_lit 819290)))] = [.long (Int32.ofInt (trS c o (dOf c))).toInt64] by
    simp only [List.map_cons, List.map_nil, sVal]
    rw [uL_v], show List.map (Option.map (sVal (uL r2 (Int32.ofInt (trS c o (dOf c))).toInt64) al)) (LCh q) = List.map (Option.map (sVal r1 al)) (LCh q) by simp only [LCh, List.map_cons, List.map_nil, Option.map_some, sVal, sI_c]] at kr
  exact kr
theorem c_coM (l : Launch) {c k : Nat} {r : sE} (hc : c < 18) (hk : k < pOf (nOf c)) (hcc : cC 69 45 (tM c) r) (hnr : r.1 (mP 0 1) = Int32.ofNat (nOf c)) (hF : trF c (otO (nOf c) k) (dOf c)) : gMet l D cy al 200 185 (tW r al cy rest 45 tMv) [.ref (al 0), .int (Int32.ofNat k)] (fun v w => v = some (.long (Int32.ofInt (trS c (otO (nOf c) k) (dOf c))).toInt64) ∧ ∃ r1, kp 69 45 tMv r r1 ∧ w = tW r1 al cy rest 45 tMv) := by
  refine gMet_up (d := 20) (by omega) ?_
  obtain ⟨-, n1, n5⟩ := cd_tab c hc
  have p7 := p_tab (nOf c) (by omega)
  have ho := ot_in (nOf c) (by omega) k hk
  have hqc := allL_ok (allL_ok q_coM (nOf c - 1) (by omega)) k (by rw [show Nat.succ (nOf c - 1) = nOf c by omega]; exact hk)
  rw [show Nat.succ (nOf c - 1) = nOf c by omega] at hqc
  generalize hO : otO (nOf c) k = o at ho hF hqc
  have key := gMet_of (l := l) (D := D) (cy := cy) (al := al) (d := 20) (k := 185) (w := tW r al cy rest 45 tMv) (r := r) (G := fun v w => v = some (.long (Int32.ofInt (trS c o (dOf c))).toInt64) ∧ ∃ r1, kp 69 45 tMv r r1 ∧ w = tW r1 al cy rest 45 tMv) (allL_ok q_coE k (by omega)) (fun At hFC => ?_)
  · rw [show List.map (sVal r al) [.inr (.inr (some (nat_lit 0))), .inl (.natCast k)] = [.ref (al 0), .int (Int32.ofNat k)] by simp only [List.map_cons, List.map_nil, sVal, sI_c]] at key
    exact key
  refine g_seg1 hFC (r := r) (by omega) tMv_ok (cC_M _) sPa_nil (oM_cons (by rw [sI_c]; exact hnr) oM_nil) hqc (fun m0 pa m r1 h1 h2 h3 hk1 => ?_) (fun m0 v pa m r1 h1 => nomatch h1)
  have hh : hasO r1 13 o := fun i hi => by
    have := isE_ok (b := 69) (r := r) (show Nat.succ i < 4096 by omega) (allL_ok h1 i hi)
    rw [sI_c] at this
    rw [h3, ← nthO_eq, ← this]
    exact congrArg (eOf 69 r m).1 (show mP 13 (1 + i) = 4096 * (69 + 13) + (i + 1) by unfold mP; omega)
  refine hFC.2 113 116 183 19 _ [.ref (al 0), .ref (al 13)] [] _ _ ⟨_, _, rfl, rfl⟩ rfl (by decide) rfl (gRecv_t (by omega) rfl rfl) (c_trM l (by omega) hc (kpM_cC hc hk1 hcc) (by rw [hk1.1 _ kpM_regs.1.1 kpM_regs.1.2]; exact hnr) ho hh hF) (fun v2 w2 h => ?_)
  obtain ⟨rfl, r2, j1, rfl⟩ := h
  have kr := g_ret (v := some (.long (Int32.ofInt (trS c o (dOf c))).toInt64)) hFC (r := uL r2 (Int32.ofInt (trS c o (dOf c))).toInt64) (w := tW r2 al cy rest 45 tMv) (allL_ok (allL_ok q_coMr (nOf c) (by omega)) k (by omega)) (fun v0 h0 => by
    rw [eqO_ok h0]
    show some (Value.long (sJ (uL r2 (Int32.ofInt (trS c o (dOf c))).toInt64) (.var (nat_lit 819290)))) = _
    rw [uL_v]) ⟨rfl, r2, kp_trans hk1 j1, rfl⟩
  rw [show List.map (sVal (uL r2 (Int32.ofInt (trS c o (dOf c))).toInt64) al) [.inr (.inl (.var (nat_lit 819290)))] = [.long (Int32.ofInt (trS c o (dOf c))).toInt64] by
    simp only [List.map_cons, List.map_nil, sVal]
    rw [uL_v], show List.map (Option.map (sVal (uL r2 (Int32.ofInt (trS c o (dOf c))).toInt64) al)) (LCo (nOf c) k) = List.map (Option.map (sVal r1 al)) (LCo (nOf c) k) by simp only [LCo, List.map_cons, List.map_nil, Option.map_some, sVal, sI_c]] at kr
  exact kr
end CH
theorem kd_104 : (PG 104).2.2.2.2 = 3 := by decide +kernel
theorem kd_105 : (PG 105).2.2.2.2 = 3 := by decide +kernel
theorem q_chN : allL 2 (fun a0 => jRun (nat_lit 100000) (nat_lit 200) tXv tXv tMv tMv (nat_lit 104) (nat_lit 184) (memB [nat_lit 0]) (memB [nat_lit 0]) [] [] (dP (nat_lit 819200) (nat_lit 0) (nat_lit 4) a0 []) [.inl (dA (nat_lit 819200) (nat_lit 0) (nat_lit 4) a0)] (fun x0 m0 pa x m => frJ scQ x0 m0 x m)) = true := by decide +kernel
theorem q_coN : allL 18 (fun c => allL 2 (fun a0 => qRun c (nat_lit 105) (nat_lit 185) [nat_lit 0, nat_lit 1] [nat_lit 0, nat_lit 11, nat_lit 12] (dP (nat_lit 819200) (nat_lit 0) (pOf (nOf c)) a0 []) [.inl (dA (nat_lit 819200) (nat_lit 0) (pOf (nOf c)) a0)])) = true := by decide +kernel
theorem op_character {l : Launch} {D : va_G} {cy : Nat → ClassId} {alX alM : Nat → Nat} : OpI l D cy alX alM 104 184 1 := by
  intro r as hI hlen
  obtain ⟨a0, rfl⟩ : ∃ a0, as = [a0] := by
    match as, hlen with
    | [a0], _ => exact ⟨a0, rfl⟩
  refine OpOk_uA [a0, r.1 (xP 34 0), r.1 (xP 34 1), r.1 (xP 34 2), r.1 (xP 34 3)] ?_
  have e0 : (uA r [a0, r.1 (xP 34 0), r.1 (xP 34 1), r.1 (xP 34 2), r.1 (xP 34 3)]).1 819200 = a0 := uA_a 0
  have f0 : (uA r [a0, r.1 (xP 34 0), r.1 (xP 34 1), r.1 (xP 34 2), r.1 (xP 34 3)]).1 819201 = (uA r [a0, r.1 (xP 34 0), r.1 (xP 34 1), r.1 (xP 34 2), r.1 (xP 34 3)]).1 (xP 34 0) := (uA_a 1).trans (uA_lo (by decide)).symm
  have f1 : (uA r [a0, r.1 (xP 34 0), r.1 (xP 34 1), r.1 (xP 34 2), r.1 (xP 34 3)]).1 819202 = (uA r [a0, r.1 (xP 34 0), r.1 (xP 34 1), r.1 (xP 34 2), r.1 (xP 34 3)]).1 (xP 34 1) := (uA_a 2).trans (uA_lo (by decide)).symm
  have f2 : (uA r [a0, r.1 (xP 34 0), r.1 (xP 34 1), r.1 (xP 34 2), r.1 (xP 34 3)]).1 819203 = (uA r [a0, r.1 (xP 34 0), r.1 (xP 34 1), r.1 (xP 34 2), r.1 (xP 34 3)]).1 (xP 34 2) := (uA_a 3).trans (uA_lo (by decide)).symm
  have f3 : (uA r [a0, r.1 (xP 34 0), r.1 (xP 34 1), r.1 (xP 34 2), r.1 (xP 34 3)]).1 819204 = (uA r [a0, r.1 (xP 34 0), r.1 (xP 34 1), r.1 (xP 34 2), r.1 (xP 34 3)]).1 (xP 34 3) := (uA_a 4).trans (uA_lo (by decide)).symm
  replace hI := Inv_uA (as := [a0, r.1 (xP 34 0), r.1 (xP 34 1), r.1 (xP 34 2), r.1 (xP 34 3)]) hI
  generalize uA r [a0, r.1 (xP 34 0), r.1 (xP 34 1), r.1 (xP 34 2), r.1 (xP 34 3)] = r at hI e0 f0 f1 f2 f3 ⊢
  obtain ⟨c0, hc0, hp0, hv0⟩ := dP_ok r 819200 (lo := 0) (n := 4) (Or.inr (by omega)) (by omega)
  rw [e0] at hv0
  by_cases b0 : c0 < 2
  · refine jOk l tXv_ok tXv_ok tMv_ok tMv_ok (cC_X r) (cC_M r) (hp0 _ sPa_nil) (fun _ _ _ => rfl) (fun _ _ _ => rfl) oX_nil oM_nil ?_ ?_ (allL_ok q_chN c0 b0) (fun x0 m0 pa x m hx0 hm0 hck hp hfx hfm _ _ => Inv_qv crJ_shp hx0 hm0 hfx hfm hck hI)
    · simp only [List.map_cons, List.map_nil, sVal, hv0]
    · simp only [List.map_cons, List.map_nil, sVal, hv0]
  obtain ⟨q, rfl⟩ : ∃ k, c0 = k + 2 := ⟨c0 - 2, by omega⟩
  have g0 : a0 = Int32.ofNat q := by rw [← hv0, dA_c (by omega)]
  subst g0
  have hq4 : q < 4 := by omega
  obtain ⟨c, hc, hcc, hcm⟩ := id hI
  obtain ⟨⟨-, hn1, -⟩, hn2, -⟩ := CC_nd hc hcc
  obtain ⟨o, ho, hx, hm⟩ := (Comp_R hq4).mp (hcm q (by omega))
  have hf : r.1 (819201 + q) = r.1 (xP 34 q) := by
    match q, hq4 with
    | 0, _ => exact f0
    | 1, _ => exact f1
    | 2, _ => exact f2
    | 3, _ => exact f3
  exact OpOk_VF (V := some (.long (Int32.ofInt (trS c o (dOf c))).toInt64)) hI (fun rest => c_chX l hc hq4 hcc.1 ho hx hf) (fun hF rest => c_chM l hc hq4 hcc.2 hn2 ho hm hF) (Or.inr ⟨kd_104, _, rfl⟩)
theorem op_characterOf {l : Launch} {D : va_G} {cy : Nat → ClassId} {alX alM : Nat → Nat} : OpI l D cy alX alM 105 185 1 := by
  intro r as hI hlen
  obtain ⟨a0, rfl⟩ : ∃ a0, as = [a0] := by
    match as, hlen with
    | [a0], _ => exact ⟨a0, rfl⟩
  refine OpOk_uA [a0] ?_
  replace hI := Inv_uA (as := [a0]) hI
  have e0 : (uA r [a0]).1 819200 = a0 := uA_a 0
  generalize uA r [a0] = r at hI e0 ⊢
  obtain ⟨c, hc, hcc, hcm⟩ := id hI
  obtain ⟨-, n1, n5⟩ := cd_tab c hc
  have p7 := p_tab (nOf c) (by omega)
  obtain ⟨⟨-, hn1, -⟩, hn2, -⟩ := CC_nd hc hcc
  obtain ⟨c0, hc0, hp0, hv0⟩ := dP_ok r 819200 (lo := 0) (n := pOf (nOf c)) (Or.inr (by omega)) (by omega)
  rw [e0] at hv0
  by_cases b0 : c0 < 2
  · exact qRun_ok (allL_ok (allL_ok q_coN c hc) c0 b0) hc hcc hcm (hp0 _ sPa_nil) (by simp only [List.map_cons, List.map_nil, sVal, hv0]) (by simp only [List.map_cons, List.map_nil, sVal, hv0])
  obtain ⟨k, rfl⟩ : ∃ k, c0 = k + 2 := ⟨c0 - 2, by omega⟩
  have g0 : a0 = Int32.ofNat k := by rw [← hv0, dA_c (by omega)]
  subst g0
  exact OpOk_VF (V := some (.long (Int32.ofInt (trS c (otO (nOf c) k) (dOf c))).toInt64)) hI (fun rest => c_coX l hc (by omega) hcc.1) (fun hF rest => c_coM l hc (by omega) hcc.2 hn2 hF) (Or.inr ⟨kd_105, _, rfl⟩)
