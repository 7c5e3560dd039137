/-! 55: count -/
noncomputable def KL (l : List Nat) : Nat → Bool := memB l
noncomputable def LT1 (q : Nat) : sL := [some (.inr (.inr (some (nat_lit 0)))), some (.inl (.var (nat_lit 819290))), some (.inl (.natCast q))]
noncomputable def LT2 (q : Nat) : sL := [some (.inr (.inr (some (nat_lit 0)))), some (.inl (.pow (.mul (.var (nat_lit 819290)) (.var (nat_lit 819291))) (nat_lit 0))), some (.inl (.natCast q))]
theorem q_ltE : sEnt [.inr (.inr (some (nat_lit 0)))] (PG (nat_lit 128)).2.1 (fun L => eqL eqO L [some (.inr (.inr (some (nat_lit 0)))), none, none]) = true := by decide +kernel
theorem q_lt0 : sBeg (nat_lit 0) (nat_lit 68) tXv (KL [nat_lit 0, nat_lit 34]) [] (fun m0 => sx PG (nat_lit 1000) (nat_lit 3) (PG (nat_lit 128)) (fun pc => Nat.beq pc (nat_lit 16)) (fun pc L st pa m => Bool.and (eqL eqC m m0) (kAt (nat_lit 16) [some (.inr (.inr (some (nat_lit 0)))), some (.inl (.natCast (nat_lit 0))), some (.inl (.natCast (nat_lit 0)))] [.inl (.var (nat_lit 139264)), .inl (.natCast (nat_lit 0))] pc L st)) (fun _ _ m => Bool.and (eqL eqC m m0) false) (nat_lit 0) [some (.inr (.inr (some (nat_lit 0)))), none, none] [] [] m0) = true := by decide +kernel
noncomputable def ltE : sX := .pow (.mul (.var (nat_lit 819290)) (.var (nat_lit 819291))) (nat_lit 0)
theorem q_lt1 : allL 3 (fun q => sBeg (nat_lit 0) (nat_lit 68) tXv (KL [nat_lit 0, nat_lit 34]) [] (fun m0 => sx PG (nat_lit 1000) (nat_lit 3) (PG (nat_lit 128)) (fun pc => Nat.beq pc (nat_lit 16)) (fun pc L st pa m => Bool.and (eqL eqC m m0) (kAt (nat_lit 16) (LT2 (Nat.succ q)) [.inl (.var (Nat.add (nat_lit 139265) q)), .inl ltE] pc L st)) (fun _ _ m => Bool.and (eqL eqC m m0) false) (nat_lit 19) (LT1 q) [.inl (.var (nat_lit 819291)), .inl (.var (nat_lit 819290))] [] m0)) = true := by decide +kernel
theorem q_lt2 : sBeg (nat_lit 0) (nat_lit 68) tXv (KL [nat_lit 0, nat_lit 34]) [] (fun m0 => sx PG (nat_lit 1000) (nat_lit 3) (PG (nat_lit 128)) (fun pc => Nat.beq pc (nat_lit 16)) (fun _ _ _ _ m => Bool.and (eqL eqC m m0) false) (fun v _ m => Bool.and (eqL eqC m m0) (eqO v (some (.inl ltE)))) (nat_lit 19) (LT1 (nat_lit 3)) [.inl (.var (nat_lit 819291)), .inl (.var (nat_lit 819290))] [] m0) = true := by decide +kernel
theorem ltE_ok {r : sE} {s e : Int32} : sI (uV (uV r 0 s) 1 e) ltE = s + e := by
  show (sD _ (.pow (.mul (.var 819290) (.var 819291)) 0)).1 = _
  rw [sD_b]
  show (sD _ (.var 819290)).1 + (sD _ (.var 819291)).1 = _
  rw [sD_v, sD_v]
  show (uV (uV r 0 s) 1 e).1 819290 + (uV (uV r 0 s) 1 e).1 (819290 + 1) = _
  rw [uV_v, uV_ne (by omega)]
  exact congrArg (· + e) (uV_v (w := 0))
theorem c_ltog (l : Launch) {D : va_G} {cy : Nat → ClassId} {al : Nat → Nat} {rest : va_W} {r : sE} {d : Nat} {o : Nat → List Nat} (hd : 3 ≤ d) (ho : ∀ q, q < 4 → o q ∈ ORDS ∧ r.1 (xP 34 q) = Int32.ofNat (ocode (o q))) : gMet l D cy al d 128 (tW r al cy rest 68 tXv) [.ref (al 0)] (fun v w => v = some (.int (0 + Int32.ofNat (lenO (o 0)) + Int32.ofNat (lenO (o 1)) + Int32.ofNat (lenO (o 2)) + Int32.ofNat (lenO (o 3)))) ∧ w = tW r al cy rest 68 tXv) := by
  refine gMet_up hd ?_
  refine gMet_of (l := l) (D := D) (cy := cy) (al := al) (d := 3) (k := 128) (r := r) q_ltE (fun At hFC => ?_)
  have call : ∀ (q : Nat) (s : Int32), q < 4 → At 19 [some (.ref (al 0)), some (.int s), some (.int (Int32.ofNat q))] [.int (Int32.ofNat (lenO (o q))), .int s] (tW r al cy rest 68 tXv) → At 16 [some (.ref (al 0)), some (.int s), some (.int (Int32.ofNat q))] [.int (r.1 (xP 34 q)), .int s] (tW r al cy rest 68 tXv) := fun q s hq hA => by
    obtain ⟨h1, h2⟩ := ho q hq
    rw [h2]
    exact hFC.2 16 19 11 2 _ [.int (Int32.ofNat (ocode (o q)))] [.int s] _ _ ⟨_, _, rfl, rfl⟩ rfl (by show 1 + 0 ≤ 8; omega) rfl (Or.inl rfl) (c_len l (by omega) h1) (fun v w2 h => by
      obtain ⟨rfl, rfl⟩ := h
      exact hA)
  have seg : ∀ (q : Nat) (s e : Int32), q < 3 → At 16 [some (.ref (al 0)), some (.int (s + e)), some (.int (Int32.ofNat (q + 1)))] [.int (r.1 (xP 34 (q + 1))), .int (s + e)] (tW r al cy rest 68 tXv) → At 19 [some (.ref (al 0)), some (.int s), some (.int (Int32.ofNat q))] [.int e, .int s] (tW r al cy rest 68 tXv) := fun q s e hq hA => by
    have hw : tW (uV (uV r 0 s) 1 e) al cy rest 68 tXv = tW r al cy rest 68 tXv := (tW_uV (by omega) tXv_can).trans (tW_uV (by omega) tXv_can)
    have v0 : (uV (uV r 0 s) 1 e).1 819290 = s := (uV_ne (by omega)).trans (uV_v (w := 0))
    have v1 : (uV (uV r 0 s) 1 e).1 819291 = e := uV_v (w := 1)
    have key := g_segS hFC (r := uV (uV r 0 s) 1 e) (al := al) (cy := cy) (rest := rest) tXv_ok (cC_X _) sPa_nil oX_nil (allL_ok q_lt1 q hq) (fun pc L st pa hk hp => ?_) (fun v pa hk => nomatch hk)
    · rw [hw] at key
      have e1 : (LT1 q).map (Option.map (sVal (uV (uV r 0 s) 1 e) al)) = [some (.ref (al 0)), some (.int s), some (.int (Int32.ofNat q))] := by
        simp only [LT1, List.map_cons, List.map_nil, Option.map_some, sVal, sI_v, sI_c]
        rw [show (uV (uV r 0 s) 1 e).1 (nat_lit 819290) = s from v0]
      have e2 : List.map (sVal (uV (uV r 0 s) 1 e) al) [.inl (.var (nat_lit 819291)), .inl (.var (nat_lit 819290))] = [.int e, .int s] := by
        simp only [List.map_cons, List.map_nil, sVal, sI_v]
        rw [show (uV (uV r 0 s) 1 e).1 (nat_lit 819290) = s from v0, show (uV (uV r 0 s) 1 e).1 (nat_lit 819291) = e from v1]
      rw [e1, e2] at key
      exact key
    · obtain ⟨rfl, rfl, rfl⟩ := kAt_ok hk
      rw [hw]
      have e1 : (LT2 (Nat.succ q)).map (Option.map (sVal (uV (uV r 0 s) 1 e) al)) = [some (.ref (al 0)), some (.int (s + e)), some (.int (Int32.ofNat (q + 1)))] := by
        show [some (Value.ref (al 0)), some (Value.int (sI (uV (uV r 0 s) 1 e) ltE)), some (Value.int (sI (uV (uV r 0 s) 1 e) (.natCast (q + 1))))] = _
        rw [ltE_ok, sI_c]
      have e2 : List.map (sVal (uV (uV r 0 s) 1 e) al) [.inl (.var (Nat.add (nat_lit 139265) q)), .inl ltE] = [.int (r.1 (xP 34 (q + 1))), .int (s + e)] := by
        show [Value.int (sI (uV (uV r 0 s) 1 e) (.var (139265 + q))), Value.int (sI (uV (uV r 0 s) 1 e) ltE)] = _
        rw [ltE_ok, sI_v, uV_ne (by omega), uV_ne (by omega), show xP 34 (q + 1) = 139265 + q by unfold xP; omega]
      rw [e1, e2]
      exact hA
  have fin : ∀ (s e : Int32), (some (Value.int (s + e)) = some (Value.int (0 + Int32.ofNat (lenO (o 0)) + Int32.ofNat (lenO (o 1)) + Int32.ofNat (lenO (o 2)) + Int32.ofNat (lenO (o 3))))) → At 19 [some (.ref (al 0)), some (.int s), some (.int (Int32.ofNat 3))] [.int e, .int s] (tW r al cy rest 68 tXv) := fun s e hV => by
    have hw : tW (uV (uV r 0 s) 1 e) al cy rest 68 tXv = tW r al cy rest 68 tXv := (tW_uV (by omega) tXv_can).trans (tW_uV (by omega) tXv_can)
    have v0 : (uV (uV r 0 s) 1 e).1 819290 = s := (uV_ne (by omega)).trans (uV_v (w := 0))
    have v1 : (uV (uV r 0 s) 1 e).1 819291 = e := uV_v (w := 1)
    have key := g_segS hFC (r := uV (uV r 0 s) 1 e) (al := al) (cy := cy) (rest := rest) tXv_ok (cC_X _) sPa_nil oX_nil q_lt2 (fun pc L st pa hk => nomatch hk) (fun v pa hk hp => ?_)
    · rw [hw] at key
      have e1 : (LT1 (nat_lit 3)).map (Option.map (sVal (uV (uV r 0 s) 1 e) al)) = [some (.ref (al 0)), some (.int s), some (.int (Int32.ofNat 3))] := by
        simp only [LT1, List.map_cons, List.map_nil, Option.map_some, sVal, sI_v, sI_c]
        rw [show (uV (uV r 0 s) 1 e).1 (nat_lit 819290) = s from v0]
      have e2 : List.map (sVal (uV (uV r 0 s) 1 e) al) [.inl (.var (nat_lit 819291)), .inl (.var (nat_lit 819290))] = [.int e, .int s] := by
        simp only [List.map_cons, List.map_nil, sVal, sI_v]
        rw [show (uV (uV r 0 s) 1 e).1 (nat_lit 819290) = s from v0, show (uV (uV r 0 s) 1 e).1 (nat_lit 819291) = e from v1]
      rw [e1, e2] at key
      exact key
    · rw [eqO_ok hk, hw]
      refine ⟨?_, rfl⟩
      show some (Value.int (sI (uV (uV r 0 s) 1 e) ltE)) = _
      rw [ltE_ok]
      exact hV
  have beg := g_segS hFC (r := r) (al := al) (cy := cy) (rest := rest) tXv_ok (cC_X _) sPa_nil oX_nil q_lt0 (fun pc L st pa hk hp => ?_) (fun v pa hk => nomatch hk)
  · exact beg
  · obtain ⟨rfl, rfl, rfl⟩ := kAt_ok hk
    have e1 : List.map (Option.map (sVal r al)) [some (.inr (.inr (some (nat_lit 0)))), some (.inl (.natCast (nat_lit 0))), some (.inl (.natCast (nat_lit 0)))] = [some (.ref (al 0)), some (.int 0), some (.int (Int32.ofNat 0))] := by
      simp only [List.map_cons, List.map_nil, Option.map_some, sVal, sI_c]
      rfl
    have e2 : List.map (sVal r al) [.inl (.var (nat_lit 139264)), .inl (.natCast (nat_lit 0))] = [.int (r.1 (xP 34 0)), .int 0] := by
      simp only [List.map_cons, List.map_nil, sVal, sI_v, sI_c]
      rfl
    rw [e1, e2]
    exact call 0 0 (by omega) (seg 0 _ _ (by omega) (call 1 _ (by omega) (seg 1 _ _ (by omega) (call 2 _ (by omega) (seg 2 _ _ (by omega) (call 3 _ (by omega) (fin _ _ rfl)))))))
-- the model
theorem q_len13 : allL 5 (fun n => lAll (fun o => sBeg (nat_lit 69) (nat_lit 45) tMv (KMl (nat_lit 13)) ((nat_lit 0, nat_lit 1, .natCast (Nat.succ n)) :: oArr (nat_lit 13) o) (fun m0 => sRun (nat_lit 10000) (nat_lit 2) (nat_lit 157) [] m0 [.inr (.inr (some (nat_lit 0))), .inr (.inr (some (nat_lit 13)))] (fun v _ m => Bool.and (eqL eqC m m0) (kInt v (fun x => sNum x (fun y => Nat.beq y (lenO o))))))) (ordN (Nat.succ n))) = true := by decide +kernel
/-- LENGTH of the model, of what is taken out -/
theorem c_len13 (l : Launch) {D : va_G} {cy : Nat → ClassId} {al : Nat → Nat} {rest : va_W} {r : sE} {d n : Nat} {o : List Nat} (hd : 2 ≤ d) (hn : 1 ≤ n) (hn5 : n ≤ 5) (hnr : r.1 (mP 0 1) = Int32.ofNat n) (ho : o ∈ ordN n) (hm : hasO r 13 o) : gMet l D cy al d 157 (tW r al cy rest 45 tMv) [.ref (al 0), .ref (al 13)] (fun v w2 => v = some (.int (Int32.ofNat (lenO o))) ∧ w2 = tW r al cy rest 45 tMv) := by
  have h := allL_ok q_len13 (n - 1) (by omega)
  rw [show Nat.succ (n - 1) = n by omega] at h
  exact gMet_up hd (gM_same l (oM_cons (by rw [sI_c]; exact hnr) (oArr_ok hm)) (lAll_ok h o ho))
theorem kpM_regs : (isV 69 45 tMv (mP 0 1) = true ∧ scQ (mP 0 1) = false) ∧ ∀ q, q < 4 → ∀ i, i < 5 → isV 69 45 tMv (mP 6 (6 * q + 1) + i) = true ∧ scQ (mP 6 (6 * q + 1) + i) = false := by decide +kernel
noncomputable def isReg (q : Nat) (m : sM) : Bool := allL (nat_lit 5) (fun i => isE m (nat_lit 13) (Nat.succ i) (.var (mO q i)))
theorem isReg_ok {r : sE} {q : Nat} {m : sM} (h : isReg q m = true) : ∀ i, i < 5 → (eOf 69 r m).1 (mP 13 (1 + i)) = r.1 (mP 6 (6 * q + 1) + i) := fun i hi => by
  have h1 := isE_ok (b := 69) (r := r) (show Nat.succ i < 4096 by omega) (allL_ok h i hi)
  rw [sI_v, mO_eq] at h1
  rw [← h1]
  exact congrArg _ (by show 4096 * (69 + 13) + (1 + i) = 4096 * (69 + 13) + (i + 1); omega)
theorem q_laE : sEnt [.inr (.inr (some (nat_lit 0)))] (PG (nat_lit 228)).2.1 (fun L => eqL eqO L [some (.inr (.inr (some (nat_lit 0)))), none, none]) = true := by decide +kernel
theorem q_la0 : sBeg (nat_lit 69) (nat_lit 45) tMv (KL [nat_lit 0, nat_lit 6, nat_lit 13]) [] (fun m0 => sx PG (nat_lit 1000) (nat_lit 4) (PG (nat_lit 228)) (fun pc => Nat.beq pc (nat_lit 20)) (fun pc L st pa m => Bool.and (sK0 (nat_lit 69) (nat_lit 45) tMv (KL [nat_lit 0, nat_lit 6, nat_lit 13]) m0 m) (Bool.and (kAt (nat_lit 20) [some (.inr (.inr (some (nat_lit 0)))), some (.inl (.natCast (nat_lit 0))), some (.inl (.natCast (nat_lit 0)))] [.inr (.inr (some (nat_lit 13))), .inr (.inr (some (nat_lit 0))), .inl (.natCast (nat_lit 0))] pc L st) (isReg (nat_lit 0) m))) (fun _ _ m => Bool.and (sK0 (nat_lit 69) (nat_lit 45) tMv (KL [nat_lit 0, nat_lit 6, nat_lit 13]) m0 m) false) (nat_lit 0) [some (.inr (.inr (some (nat_lit 0)))), none, none] [] [] m0) = true := by decide +kernel
theorem q_la1 : allL 3 (fun q => sBeg (nat_lit 69) (nat_lit 45) tMv (KL [nat_lit 0, nat_lit 6, nat_lit 13]) [] (fun m0 => sx PG (nat_lit 1000) (nat_lit 4) (PG (nat_lit 228)) (fun pc => Nat.beq pc (nat_lit 20)) (fun pc L st pa m => Bool.and (sK0 (nat_lit 69) (nat_lit 45) tMv (KL [nat_lit 0, nat_lit 6, nat_lit 13]) m0 m) (Bool.and (kAt (nat_lit 20) (LT2 (Nat.succ q)) [.inr (.inr (some (nat_lit 13))), .inr (.inr (some (nat_lit 0))), .inl ltE] pc L st) (isReg (Nat.succ q) m))) (fun _ _ m => Bool.and (sK0 (nat_lit 69) (nat_lit 45) tMv (KL [nat_lit 0, nat_lit 6, nat_lit 13]) m0 m) false) (nat_lit 23) (LT1 q) [.inl (.var (nat_lit 819291)), .inl (.var (nat_lit 819290))] [] m0)) = true := by decide +kernel
theorem q_la2 : sBeg (nat_lit 69) (nat_lit 45) tMv (KL [nat_lit 0, nat_lit 6, nat_lit 13]) [] (fun m0 => sx PG (nat_lit 1000) (nat_lit 4) (PG (nat_lit 228)) (fun pc => Nat.beq pc (nat_lit 20)) (fun _ _ _ _ m => Bool.and (sK0 (nat_lit 69) (nat_lit 45) tMv (KL [nat_lit 0, nat_lit 6, nat_lit 13]) m0 m) false) (fun v _ m => Bool.and (sK0 (nat_lit 69) (nat_lit 45) tMv (KL [nat_lit 0, nat_lit 6, nat_lit 13]) m0 m) (eqO v (some (.inl ltE)))) (nat_lit 23) (LT1 (nat_lit 3)) [.inl (.var (nat_lit 819291)), .inl (.var (nat_lit 819290))] [] m0) = true := by decide +kernel
theorem c_lall (l : Launch) {D : va_G} {cy : Nat → ClassId} {al : Nat → Nat} {rest : va_W} {r : sE} {d n : Nat} {o : Nat → List Nat} (hd : 4 ≤ d) (hn : 1 ≤ n) (hn5 : n ≤ 5) (hnr : r.1 (mP 0 1) = Int32.ofNat n) (ho : ∀ q, q < 4 → o q ∈ ordN n ∧ ∀ i, i < 5 → r.1 (mP 6 (6 * q + 1) + i) = Int32.ofNat ((o q).getD i 0)) : gMet l D cy al d 228 (tW r al cy rest 45 tMv) [.ref (al 0)] (fun v w => v = some (.int (0 + Int32.ofNat (lenO (o 0)) + Int32.ofNat (lenO (o 1)) + Int32.ofNat (lenO (o 2)) + Int32.ofNat (lenO (o 3)))) ∧ ∃ r1, kp 69 45 tMv r r1 ∧ w = tW r1 al cy rest 45 tMv) := by
  refine gMet_up hd ?_
  refine gMet_of (l := l) (D := D) (cy := cy) (al := al) (d := 4) (k := 228) (r := r) q_laE (fun At hFC => ?_)
  obtain ⟨⟨m1, m2⟩, m3⟩ := kpM_regs
  have call : ∀ (q : Nat) (s : Int32) (rB : sE), q < 4 → kp 69 45 tMv r rB → hasO rB 13 (o q) → At 23 [some (.ref (al 0)), some (.int s), some (.int (Int32.ofNat q))] [.int (Int32.ofNat (lenO (o q))), .int s] (tW rB al cy rest 45 tMv) → At 20 [some (.ref (al 0)), some (.int s), some (.int (Int32.ofNat q))] [.ref (al 13), .ref (al 0), .int s] (tW rB al cy rest 45 tMv) := fun q s rB hq hk hh hA => by
    obtain ⟨h1, h2⟩ := ho q hq
    exact hFC.2 20 23 157 3 _ [.ref (al 0), .ref (al 13)] [.int s] _ _ ⟨_, _, rfl, rfl⟩ rfl (by show 1 + 0 ≤ 8; omega) rfl (gRecv_t (by omega) rfl rfl) (c_len13 l (by omega) hn hn5 ((hk.1 _ m1 m2).trans hnr) h1 hh) (fun v w h => by
      obtain ⟨rfl, rfl⟩ := h
      exact hA)
  have hasR : ∀ (q : Nat) (rA rB : sE), q < 4 → kp 69 45 tMv r rA → (∀ i, i < 5 → rB.1 (mP 13 (1 + i)) = rA.1 (mP 6 (6 * q + 1) + i)) → hasO rB 13 (o q) := fun q rA rB hq hk h i hi => by
    rw [h i hi, hk.1 _ (m3 q hq i hi).1 (m3 q hq i hi).2]
    exact (ho q hq).2 i hi
  have seg : ∀ (q : Nat) (s e : Int32) (rA : sE), q < 3 → kp 69 45 tMv r rA → (∀ rB, kp 69 45 tMv r rB → hasO rB 13 (o (q + 1)) → At 20 [some (.ref (al 0)), some (.int (s + e)), some (.int (Int32.ofNat (q + 1)))] [.ref (al 13), .ref (al 0), .int (s + e)] (tW rB al cy rest 45 tMv)) → At 23 [some (.ref (al 0)), some (.int s), some (.int (Int32.ofNat q))] [.int e, .int s] (tW rA al cy rest 45 tMv) := fun q s e rA hq hk0 hA => by
    have hw : tW (uV (uV rA 0 s) 1 e) al cy rest 45 tMv = tW rA al cy rest 45 tMv := (tW_uV (by omega) tMv_can).trans (tW_uV (by omega) tMv_can)
    have v0 : (uV (uV rA 0 s) 1 e).1 819290 = s := (uV_ne (by omega)).trans (uV_v (w := 0))
    have v1 : (uV (uV rA 0 s) 1 e).1 819291 = e := uV_v (w := 1)
    have hkU : kp 69 45 tMv r (uV (uV rA 0 s) 1 e) := kp_trans (kp_trans hk0 (kp_uV (by omega))) (kp_uV (by omega))
    have key := g_seg hFC (r := uV (uV rA 0 s) 1 e) (al := al) (cy := cy) (rest := rest) (by omega) tMv_ok (cC_M _) sPa_nil oM_nil (allL_ok q_la1 q hq) (fun m0 pc L st pa m hk hp hkp => ?_) (fun m0 v pa m hk => nomatch hk)
    · rw [hw] at key
      have e1 : (LT1 q).map (Option.map (sVal (uV (uV rA 0 s) 1 e) al)) = [some (.ref (al 0)), some (.int s), some (.int (Int32.ofNat q))] := by
        simp only [LT1, List.map_cons, List.map_nil, Option.map_some, sVal, sI_v, sI_c]
        rw [show (uV (uV rA 0 s) 1 e).1 (nat_lit 819290) = s from v0]
      have e2 : List.map (sVal (uV (uV rA 0 s) 1 e) al) [.inl (.var (nat_lit 819291)), .inl (.var (nat_lit 819290))] = [.int e, .int s] := by
        simp only [List.map_cons, List.map_nil, sVal, sI_v]
        rw [show (uV (uV rA 0 s) 1 e).1 (nat_lit 819290) = s from v0, show (uV (uV rA 0 s) 1 e).1 (nat_lit 819291) = e from v1]
      rw [e1, e2] at key
      exact key
    · rw [Bool.and_eq_true] at hk
      obtain ⟨rfl, rfl, rfl⟩ := kAt_ok hk.1
      have e1 : (LT2 (Nat.succ q)).map (Option.map (sVal (uV (uV rA 0 s) 1 e) al)) = [some (.ref (al 0)), some (.int (s + e)), some (.int (Int32.ofNat (q + 1)))] := by
        show [some (Value.ref (al 0)), some (Value.int (sI (uV (uV rA 0 s) 1 e) ltE)), some (Value.int (sI (uV (uV rA 0 s) 1 e) (.natCast (q + 1))))] = _
        rw [ltE_ok, sI_c]
      have e2 : List.map (sVal (uV (uV rA 0 s) 1 e) al) [.inr (.inr (some (nat_lit 13))), .inr (.inr (some (nat_lit 0))), .inl ltE] = [.ref (al 13), .ref (al 0), .int (s + e)] := by
        show [Value.ref (al 13), Value.ref (al 0), Value.int (sI (uV (uV rA 0 s) 1 e) ltE)] = _
        rw [ltE_ok]
      rw [e1, e2]
      exact hA _ (kp_trans hkU hkp) (hasR (q + 1) (uV (uV rA 0 s) 1 e) _ (by omega) hkU (isReg_ok hk.2))
  have fin : ∀ (s e : Int32) (rA : sE), kp 69 45 tMv r rA → (some (Value.int (s + e)) = some (Value.int (0 + Int32.ofNat (lenO (o 0)) + Int32.ofNat (lenO (o 1)) + Int32.ofNat (lenO (o 2)) + Int32.ofNat (lenO (o 3))))) → At 23 [some (.ref (al 0)), some (.int s), some (.int (Int32.ofNat 3))] [.int e, .int s] (tW rA al cy rest 45 tMv) := fun s e rA hk0 hV => by
    have hw : tW (uV (uV rA 0 s) 1 e) al cy rest 45 tMv = tW rA al cy rest 45 tMv := (tW_uV (by omega) tMv_can).trans (tW_uV (by omega) tMv_can)
    have v0 : (uV (uV rA 0 s) 1 e).1 819290 = s := (uV_ne (by omega)).trans (uV_v (w := 0))
    have v1 : (uV (uV rA 0 s) 1 e).1 819291 = e := uV_v (w := 1)
    have hkU : kp 69 45 tMv r (uV (uV rA 0 s) 1 e) := kp_trans (kp_trans hk0 (kp_uV (by omega))) (kp_uV (by omega))
    have key := g_seg hFC (r := uV (uV rA 0 s) 1 e) (al := al) (cy := cy) (rest := rest) (by omega) tMv_ok (cC_M _) sPa_nil oM_nil q_la2 (fun m0 pc L st pa m hk => nomatch hk) (fun m0 v pa m hk hp hkp => ?_)
    · rw [hw] at key
      have e1 : (LT1 (nat_lit 3)).map (Option.map (sVal (uV (uV rA 0 s) 1 e) al)) = [some (.ref (al 0)), some (.int s), some (.int (Int32.ofNat 3))] := by
        simp only [LT1, List.map_cons, List.map_nil, Option.map_some, sVal, sI_v, sI_c]
        rw [show (uV (uV rA 0 s) 1 e).1 (nat_lit 819290) = s from v0]
      have e2 : List.map (sVal (uV (uV rA 0 s) 1 e) al) [.inl (.var (nat_lit 819291)), .inl (.var (nat_lit 819290))] = [.int e, .int s] := by
        simp only [List.map_cons, List.map_nil, sVal, sI_v]
        rw [show (uV (uV rA 0 s) 1 e).1 (nat_lit 819290) = s from v0, show (uV (uV rA 0 s) 1 e).1 (nat_lit 819291) = e from v1]
      rw [e1, e2] at key
      exact key
    · rw [eqO_ok hk]
      refine ⟨?_, _, kp_trans hkU hkp, rfl⟩
      show some (Value.int (sI (uV (uV rA 0 s) 1 e) ltE)) = _
      rw [ltE_ok]
      exact hV
  have beg := g_seg hFC (r := r) (al := al) (cy := cy) (rest := rest) (by omega) tMv_ok (cC_M _) sPa_nil oM_nil q_la0 (fun m0 pc L st pa m hk hp hkp => ?_) (fun m0 v pa m hk => nomatch hk)
  · exact beg
  · rw [Bool.and_eq_true] at hk
    obtain ⟨rfl, rfl, rfl⟩ := kAt_ok hk.1
    have e1 : List.map (Option.map (sVal r al)) [some (.inr (.inr (some (nat_lit 0)))), some (.inl (.natCast (nat_lit 0))), some (.inl (.natCast (nat_lit 0)))] = [some (.ref (al 0)), some (.int 0), some (.int (Int32.ofNat 0))] := by
      simp only [List.map_cons, List.map_nil, Option.map_some, sVal, sI_c]
      rfl
    have e2 : List.map (sVal r al) [.inr (.inr (some (nat_lit 13))), .inr (.inr (some (nat_lit 0))), .inl (.natCast (nat_lit 0))] = [.ref (al 13), .ref (al 0), .int 0] := by
      simp only [List.map_cons, List.map_nil, sVal, sI_c]
      rfl
    rw [e1, e2]
    exact call 0 0 _ (by omega) hkp (hasR 0 r _ (by omega) kp_rfl (isReg_ok hk.2)) (seg 0 _ _ _ (by omega) hkp (fun rB k1 h1 => call 1 _ rB (by omega) k1 h1 (seg 1 _ _ _ (by omega) k1 (fun rB k1 h1 => call 2 _ rB (by omega) k1 h1 (seg 2 _ _ _ (by omega) k1 (fun rB k1 h1 => call 3 _ rB (by omega) k1 h1 (fin _ _ _ k1 rfl)))))))
