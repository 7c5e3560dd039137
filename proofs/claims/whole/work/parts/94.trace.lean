/-! 94: character (by wip/whole/mk94.py) -/
/-- both sides give V, the class giving a fact of numbers besides -/
theorem OpOk_VF {l : Launch} {D : va_G} {cy : Nat → ClassId} {alX alM : Nat → Nat} {r : sE} {d kX kM : Nat} {vs : List Value} {V : Option Value} {F : Prop} (hI : Inv r) (hX : ∀ rest, gMet l D cy alX d kX (tW r alX cy rest 68 tXv) (.ref (alX 0) :: vs) (fun v w => (v = V ∧ F) ∧ ∃ r1, kp 0 68 tXv r r1 ∧ w = tW r1 alX cy rest 68 tXv)) (hM : F → ∀ rest, gMet l D cy alM d kM (tW r alM cy rest 45 tMv) (.ref (alM 0) :: vs) (fun v w => v = V ∧ ∃ r1, kp 69 45 tMv r r1 ∧ w = tW r1 alM cy rest 45 tMv)) (hk : kdV kX V) : OpOk l D cy alX alM d r kX kM vs Inv := by
  refine ⟨fun v r1 => (v = V ∧ F) ∧ kp 0 68 tXv r r1, fun rest => (hX rest).mono (fun v w q => ?_), fun v r1 hm rest => ?_, fun v r1 hm => by rw [hm.1.1]; exact hk⟩
  · obtain ⟨q1, r1, q2, q3⟩ := q
    exact ⟨r1, ⟨q1, q2⟩, q3⟩
  · obtain ⟨⟨rfl, hF⟩, hk1⟩ := hm
    refine (hM hF rest).mono (fun v2 w2 q => ?_)
    obtain ⟨q1, r2, q2, q3⟩ := q
    exact ⟨q1, r2, q3, Inv_kp hI hk1 q2⟩
/-- the trace of the first k -/
noncomputable def trS (c : Nat) (o : List Nat) (k : Nat) : Int := Nat.rec (motive := fun _ => Int) 0 (fun k ih => ih + cwT c (tG c k o) k) k
def trF (c : Nat) (o : List Nat) (k : Nat) : Prop := ∀ i, i < k → bdI (cwT c (tG c i o) i) = true
theorem bdI_ok {x : Int} (h : bdI x = true) : -99 ≤ x ∧ x ≤ 99 := by
  cases x with
  | ofNat n =>
    have : n ≤ 99 := Nat.le_of_ble_eq_true h
    constructor
    · have : (0 : Int) ≤ Int.ofNat n := Int.natCast_nonneg n
      omega
    · show (n : Int) ≤ 99
      omega
  | negSucc n =>
    have : n ≤ 98 := Nat.le_of_ble_eq_true h
    omega
theorem trS_bd {c : Nat} {o : List Nat} : ∀ k, trF c o k → -(99 * (k : Int)) ≤ trS c o k ∧ trS c o k ≤ 99 * (k : Int)
  | 0, _ => ⟨by show -(99 * 0) ≤ (0 : Int); omega, by show (0 : Int) ≤ 99 * 0; omega⟩
  | k + 1, h => by
    have ih := trS_bd k (fun i hi => h i (by omega))
    have h1 := bdI_ok (h k (by omega))
    have e : trS c o (k + 1) = trS c o k + cwT c (tG c k o) k := rfl
    rw [e]
    omega
noncomputable def eTr (k : Nat) : sX := .pow (.mul (.var (nat_lit 819291)) (.var (Nat.add (nat_lit 94208) k))) (nat_lit 0)
noncomputable def LTr (e : sX) (k : Nat) : sL := [some (.inr (.inr (some (nat_lit 14)))), some (.inl (.var (nat_lit 819290))), some (.inl e), some (.inl (.natCast k))]
noncomputable def tr0 (c : Nat) : Bool := sBeg (nat_lit 0) (nat_lit 68) (tX c) (memB [nat_lit 1, nat_lit 14]) [] (fun m0 => sx PG (nat_lit 100) (nat_lit 9) (PG (nat_lit 85)) (fun pc => Nat.beq pc (nat_lit 18)) (fun pc L st pa m => Bool.and (eqL eqC m m0) (kAt (nat_lit 18) (LTr (.natCast (nat_lit 0)) (nat_lit 0)) [.inl (.var (nat_lit 819290)), .inl (.natCast (nat_lit 0)), .inr (.inr (some (nat_lit 14)))] pc L st)) (fun _ _ m => Bool.and (eqL eqC m m0) false) (nat_lit 0) [some (.inr (.inr (some (nat_lit 14)))), some (.inl (.var (nat_lit 819290))), none, none] [] [] m0)
noncomputable def tr1 (c k : Nat) : Bool := sBeg (nat_lit 0) (nat_lit 68) (tX c) (memB [nat_lit 1, nat_lit 14, nat_lit 23]) [] (fun m0 => sx PG (nat_lit 100) (nat_lit 9) (PG (nat_lit 85)) (fun pc => Nat.beq pc (nat_lit 18)) (fun pc L st pa m => Bool.and (eqL eqC m m0) (Bool.and (Nat.ble (Nat.succ (Nat.succ k)) (dOf c)) (kAt (nat_lit 18) (LTr (eTr k) (Nat.succ k)) [.inl (.var (nat_lit 819290)), .inl (.natCast (Nat.succ k)), .inr (.inr (some (nat_lit 14)))] pc L st))) (fun v _ m => Bool.and (eqL eqC m m0) (Bool.and (Nat.beq (Nat.succ k) (dOf c)) (eqO v (some (.inl (eTr k)))))) (nat_lit 21) (LTr (.var (nat_lit 819291)) k) [] [] m0)
theorem q_tr : allL 18 (fun c => Bool.and (tr0 c) (allL (dOf c) (fun k => tr1 c k))) = true := by decide +kernel
theorem q_trE : sEnt [.inr (.inr (some (nat_lit 14))), .inl (.var (nat_lit 819290))] (PG (nat_lit 85)).2.1 (fun L => eqL eqO L [some (.inr (.inr (some (nat_lit 14)))), some (.inl (.var (nat_lit 819290))), none, none]) = true := by decide +kernel
section TR
variable {D : va_G} {cy : Nat → ClassId} {al : Nat → Nat} {rest : va_W}
theorem LTr_eq {x : sE} {e : sX} {k : Nat} : (LTr e k).map (Option.map (sVal x al)) = [some (.ref (al 14)), some (.int (sI x (.var (nat_lit 819290)))), some (.int (sI x e)), some (.int (Int32.ofNat k))] := by
  simp only [LTr, List.map_cons, List.map_nil, Option.map_some, sVal, sI_c]
/-- the class' trace -/
theorem c_trX (l : Launch) {c d : Nat} {r : sE} {o : List Nat} (hd : 9 ≤ d) (hc : c < 18) (hcc : cC 0 68 (tX c) r) (ho : o ∈ ordN (nOf c)) : gMet l D cy al d 85 (tW r al cy rest 68 tXv) [.ref (al 14), .int (Int32.ofNat (ocode o))] (fun v w => (v = some (.int (Int32.ofInt (trS c o (dOf c)))) ∧ trF c o (dOf c)) ∧ ∃ r1, kp 0 68 tXv r r1 ∧ w = tW r1 al cy rest 68 tXv) := by
  refine gMet_up hd ?_
  obtain ⟨⟨d1, d6⟩, n1, n5⟩ := cd_tab c hc
  have hw : ∀ (x : sE) l, tW (uM x l) al cy rest 68 tXv = tW x al cy rest 68 tXv := fun x l => tW_uM (by omega) tXv_can
  have hq := allL_ok q_tr c hc
  rw [Bool.and_eq_true] at hq
  have key := gMet_of (l := l) (D := D) (cy := cy) (al := al) (d := 9) (k := 85) (w := tW r al cy rest 68 tXv) (r := uM r [Int32.ofNat (ocode o)]) (G := fun v w => (v = some (.int (Int32.ofInt (trS c o (dOf c)))) ∧ trF c o (dOf c)) ∧ ∃ r1, kp 0 68 tXv r r1 ∧ w = tW r1 al cy rest 68 tXv) q_trE (fun At hFC => ?_)
  · rw [show List.map (sVal (uM r [Int32.ofNat (ocode o)]) al) [.inr (.inr (some (nat_lit 14))), .inl (.var (nat_lit 819290))] = [.ref (al 14), .int (Int32.ofNat (ocode o))] by
      simp only [List.map_cons, List.map_nil, sVal]
      rw [show sI (uM r [Int32.ofNat (ocode o)]) (.var (nat_lit 819290)) = Int32.ofNat (ocode o) by rw [sI_v]; exact uM_v 0]] at key
    exact key
  have loop : ∀ (m k : Nat) (r' : sE), k + (m + 1) = dOf c → kp 0 68 tXv r r' → trF c o k → At 18 [some (.ref (al 14)), some (.int (Int32.ofNat (ocode o))), some (.int (Int32.ofInt (trS c o k))), some (.int (Int32.ofNat k))] [.int (Int32.ofNat (ocode o)), .int (Int32.ofNat k), .ref (al 14)] (tW r' al cy rest 68 tXv) := by
    intro m
    induction m with
    | zero =>
      intro k r' hkm hk' hF
      refine hFC.2 18 21 84 8 _ [.ref (al 14), .int (Int32.ofNat k), .int (Int32.ofNat (ocode o))] [] _ _ ⟨_, _, rfl, rfl⟩ rfl (by decide) rfl (gRecv_x (j := 14) (show 14 < 68 by omega) rfl rfl) (c_stX l (by omega) hc (by omega) (kpX_cC hc hk' hcc) ho) (fun v2 w2 h => ?_)
      obtain ⟨rfl, r2, j1, j2, rfl⟩ := h
      have hk2 := kp_trans hk' j1
      have E0 : sI (uM r2 [Int32.ofNat (ocode o), Int32.ofInt (trS c o k)]) (.var (nat_lit 819290)) = Int32.ofNat (ocode o) := by rw [sI_v]; exact uM_v 0
      have E1 : sI (uM r2 [Int32.ofNat (ocode o), Int32.ofInt (trS c o k)]) (.var (nat_lit 819291)) = Int32.ofInt (trS c o k) := by rw [sI_v]; exact uM_v 1
      have ET : sI (uM r2 [Int32.ofNat (ocode o), Int32.ofInt (trS c o k)]) (eTr k) = Int32.ofInt (trS c o (k + 1)) := by
        show (sD _ (.pow (.mul (.var 819291) (.var (94208 + k))) 0)).1 = _
        rw [sD_b]
        show sI (uM r2 [Int32.ofNat (ocode o), Int32.ofInt (trS c o k)]) (.var (nat_lit 819291)) + sI _ (.var (94208 + k)) = _
        rw [E1, sI_v, uM_lo (by omega), show r2.1 (94208 + k) = Int32.ofInt (cwT c (tG c k o) k) from (congrArg r2.1 (show 94208 + k = xP 23 k by unfold xP; omega)).trans (j2 k (by omega)).1, ← Int32.ofInt_add]
        rfl
      have hF2 : trF c o (k + 1) := fun i hi => by
        rcases Nat.lt_or_ge i k with h | h
        · exact hF i h
        · obtain rfl : i = k := by omega
          exact (j2 i (by omega)).2
      have g := g_segS hFC (r := uM r2 [Int32.ofNat (ocode o), Int32.ofInt (trS c o k)]) (al := al) (cy := cy) (rest := rest) (tX_ok hc) (kpX_cC hc (kp_trans hk2 (kp_uM (by omega))) hcc) sPa_nil oX_nil (allL_ok hq.2 k (by omega)) (fun pc L st pa hk hp => ?_) (fun v pa hk hp => ?_)
      · rw [hw, LTr_eq, E0, E1] at g
        exact g
      · rw [Bool.and_eq_true] at hk
        have hle : k + 2 ≤ dOf c := Nat.le_of_ble_eq_true hk.1
        exact absurd hle (by omega)
      · rw [Bool.and_eq_true] at hk
        have he : k + 1 = dOf c := Nat.eq_of_beq_eq_true hk.1
        rw [hw, eqO_ok hk.2]
        refine ⟨⟨?_, by rw [← he]; exact hF2⟩, r2, hk2, rfl⟩
        show some (Value.int (sI (uM r2 [Int32.ofNat (ocode o), Int32.ofInt (trS c o k)]) (eTr k))) = _
        rw [ET, he]
    | succ m ih =>
      intro k r' hkm hk' hF
      refine hFC.2 18 21 84 8 _ [.ref (al 14), .int (Int32.ofNat k), .int (Int32.ofNat (ocode o))] [] _ _ ⟨_, _, rfl, rfl⟩ rfl (by decide) rfl (gRecv_x (j := 14) (show 14 < 68 by omega) rfl rfl) (c_stX l (by omega) hc (by omega) (kpX_cC hc hk' hcc) ho) (fun v2 w2 h => ?_)
      obtain ⟨rfl, r2, j1, j2, rfl⟩ := h
      have hk2 := kp_trans hk' j1
      have E0 : sI (uM r2 [Int32.ofNat (ocode o), Int32.ofInt (trS c o k)]) (.var (nat_lit 819290)) = Int32.ofNat (ocode o) := by rw [sI_v]; exact uM_v 0
      have E1 : sI (uM r2 [Int32.ofNat (ocode o), Int32.ofInt (trS c o k)]) (.var (nat_lit 819291)) = Int32.ofInt (trS c o k) := by rw [sI_v]; exact uM_v 1
      have ET : sI (uM r2 [Int32.ofNat (ocode o), Int32.ofInt (trS c o k)]) (eTr k) = Int32.ofInt (trS c o (k + 1)) := by
        show (sD _ (.pow (.mul (.var 819291) (.var (94208 + k))) 0)).1 = _
        rw [sD_b]
        show sI (uM r2 [Int32.ofNat (ocode o), Int32.ofInt (trS c o k)]) (.var (nat_lit 819291)) + sI _ (.var (94208 + k)) = _
        rw [E1, sI_v, uM_lo (by omega), show r2.1 (94208 + k) = Int32.ofInt (cwT c (tG c k o) k) from (congrArg r2.1 (show 94208 + k = xP 23 k by unfold xP; omega)).trans (j2 k (by omega)).1, ← Int32.ofInt_add]
        rfl
      have hF2 : trF c o (k + 1) := fun i hi => by
        rcases Nat.lt_or_ge i k with h | h
        · exact hF i h
        · obtain rfl : i = k := by omega
          exact (j2 i (by omega)).2
      have g := g_segS hFC (r := uM r2 [Int32.ofNat (ocode o), Int32.ofInt (trS c o k)]) (al := al) (cy := cy) (rest := rest) (tX_ok hc) (kpX_cC hc (kp_trans hk2 (kp_uM (by omega))) hcc) sPa_nil oX_nil (allL_ok hq.2 k (by omega)) (fun pc L st pa hk hp => ?_) (fun v pa hk hp => ?_)
      · rw [hw, LTr_eq, E0, E1] at g
        exact g
      · rw [Bool.and_eq_true] at hk
        have hle : k + 2 ≤ dOf c := Nat.le_of_ble_eq_true hk.1
        obtain ⟨rfl, rfl, rfl⟩ := kAt_ok hk.2
        rw [hw, LTr_eq, E0, ET, show List.map (sVal (uM r2 [Int32.ofNat (ocode o), Int32.ofInt (trS c o k)]) al) [.inl (.var (nat_lit 819290)), .inl (.natCast (Nat.succ k)), .inr (.inr (some (nat_lit 14)))] = [.int (Int32.ofNat (ocode o)), .int (Int32.ofNat (k + 1)), .ref (al 14)] by simp only [List.map_cons, List.map_nil, sVal, sI_c, E0]]
        exact ih (k + 1) r2 (by omega) hk2 hF2
      · rw [Bool.and_eq_true] at hk
        have he : k + 1 = dOf c := Nat.eq_of_beq_eq_true hk.1
        rw [hw, eqO_ok hk.2]
        refine ⟨⟨?_, by rw [← he]; exact hF2⟩, r2, hk2, rfl⟩
        show some (Value.int (sI (uM r2 [Int32.ofNat (ocode o), Int32.ofInt (trS c o k)]) (eTr k))) = _
        rw [ET, he]
  have g := g_segS hFC (r := uM r [Int32.ofNat (ocode o)]) (al := al) (cy := cy) (rest := rest) (tX_ok hc) (kpX_cC hc (kp_uM (by omega)) hcc) sPa_nil oX_nil hq.1 (fun pc L st pa hk hp => ?_) (fun v pa hk => nomatch hk)
  · rw [hw] at g
    exact g
  obtain ⟨rfl, rfl, rfl⟩ := kAt_ok hk
  have E0 : sI (uM r [Int32.ofNat (ocode o)]) (.var (nat_lit 819290)) = Int32.ofNat (ocode o) := by rw [sI_v]; exact uM_v 0
  rw [hw, LTr_eq, E0, sI_c, show List.map (sVal (uM r [Int32.ofNat (ocode o)]) al) [.inl (.var (nat_lit 819290)), .inl (.natCast (nat_lit 0)), .inr (.inr (some (nat_lit 14)))] = [.int (Int32.ofNat (ocode o)), .int (Int32.ofNat 0), .ref (al 14)] by simp only [List.map_cons, List.map_nil, sVal, sI_c, E0]]
  exact loop (dOf c - 1) 0 r (by omega) kp_rfl (fun i hi => absurd hi (by omega))
end TR
-- the model
def uL (r : sE) (x : Int64) : sE := (r.1, fun v => if v = 819290 then x else r.2 v)
theorem tW_uL {r : sE} {x : Int64} {al : Nat → Nat} {cy : Nat → ClassId} {rest : va_W} {b n : Nat} {t : Nat → sC} (hb : b + n ≤ 200) (hcan : ∀ i, i < n → (t i).1 ≤ 6 ∧ fitC (b + i) (t i) (t i) = true) : tW (uL r x) al cy rest n t = tW r al cy rest n t := tW_agree hb hcan (fun v hv => ⟨rfl, by show (if v = 819290 then x else r.2 v) = _; rw [if_neg (by omega)]⟩)
theorem kp_uL {r : sE} {x : Int64} {b n : Nat} {tv : Nat → sC} (hb : b + n ≤ 200) : kp b n tv r (uL r x) := ⟨fun _ _ _ => rfl, fun u hu _ => by
  show (if u = 819290 then x else r.2 u) = _
  rw [if_neg (by have := (isL_ok hu).2.1; omega)], fun u _ h2 => ⟨rfl, by
  show (if u = 819290 then x else r.2 u) = _
  rw [if_neg (by omega)]⟩⟩
theorem uL_v {r : sE} {x : Int64} : sJ (uL r x) (.var (nat_lit 819290)) = x := by
  simp only [sJ, sD_v]
  have h : ∀ n : Nat, n = 819290 → (uL r x).2 n = x := fun n hn => by
    show (if n = 819290 then x else r.2 n) = x
    rw [if_pos hn]
  exact h _ rfl
theorem sum_L {x y : Int} (hx : -600 ≤ x ∧ x ≤ 600) (hy : -99 ≤ y ∧ y ≤ 99) : (Int32.ofInt x).toInt64 + (Int32.ofInt y).toInt64 = (Int32.ofInt (x + y)).toInt64 := by
  rw [← Int64.toInt_inj, Int64.toInt_add]
  simp only [Int32.toInt_toInt64, Int32.toInt_ofInt, Int.bmod_def, show ((Int32.size : Nat) : Int) = 4294967296 from rfl]
  omega
noncomputable def eTm (k : Nat) : sX := .pow (.mul (.var (nat_lit 819290)) (.pow (.neg (.var (Nat.add (nat_lit 380928) k))) (nat_lit 21))) (nat_lit 20)
noncomputable def LTq (e : sX) (k : Nat) : sL := [some (.inr (.inr (some (nat_lit 0)))), some (.inr (.inr (some (nat_lit 13)))), some (.inr (.inl e)), none, some (.inl (.natCast k))]
noncomputable def tm0 (c : Nat) : Bool := sBeg (nat_lit 69) (nat_lit 45) (tM c) (memB [nat_lit 0]) [] (fun m0 => sx PG (nat_lit 100) (nat_lit 18) (PG (nat_lit 183)) (fun pc => Nat.beq pc (nat_lit 18)) (fun pc L st pa m => Bool.and (eqL eqC m m0) (kAt (nat_lit 18) (LTq (.natCast (nat_lit 0)) (nat_lit 0)) [.inl (.natCast (nat_lit 0)), .inr (.inr (some (nat_lit 13))), .inr (.inr (some (nat_lit 0)))] pc L st)) (fun _ _ m => Bool.and (eqL eqC m m0) false) (nat_lit 0) [some (.inr (.inr (some (nat_lit 0)))), some (.inr (.inr (some (nat_lit 13)))), none, none, none] [] [] m0)
noncomputable def tm1 (c k : Nat) : Bool := sBeg (nat_lit 69) (nat_lit 45) (tM c) (memB [nat_lit 0, nat_lit 24]) [] (fun m0 => sx PG (nat_lit 100) (nat_lit 18) (PG (nat_lit 183)) (fun pc => Nat.beq pc (nat_lit 18)) (fun pc L st pa m => Bool.and (eqL eqC m m0) (Bool.and (Nat.ble (Nat.succ (Nat.succ k)) (dOf c)) (kAt (nat_lit 18) (LTq (eTm k) (Nat.succ k)) [.inl (.natCast (Nat.succ k)), .inr (.inr (some (nat_lit 13))), .inr (.inr (some (nat_lit 0)))] pc L st))) (fun v _ m => Bool.and (eqL eqC m m0) (Bool.and (Nat.beq (Nat.succ k) (dOf c)) (eqO v (some (.inr (.inl (eTm k))))))) (nat_lit 21) (LTq (.var (nat_lit 819290)) k) [] [] m0)
theorem q_tm : allL 18 (fun c => Bool.and (tm0 c) (allL (dOf c) (fun k => tm1 c k))) = true := by decide +kernel
theorem q_tmE : sEnt [.inr (.inr (some (nat_lit 0))), .inr (.inr (some (nat_lit 13)))] (PG (nat_lit 183)).2.1 (fun L => eqL eqO L [some (.inr (.inr (some (nat_lit 0)))), some (.inr (.inr (some (nat_lit 13)))), none, none, none]) = true := by decide +kernel
theorem one_pl : ∀ i, i < 5 → isV 69 45 tMv (mP 13 (1 + i)) = true ∧ chSt (mP 13 (1 + i)) = false := by decide +kernel
section TM
variable {D : va_G} {cy : Nat → ClassId} {al : Nat → Nat} {rest : va_W}
theorem LTq_eq {x : sE} {e : sX} {k : Nat} : (LTq e k).map (Option.map (sVal x al)) = [some (.ref (al 0)), some (.ref (al 13)), some (.long (sJ x e)), none, some (.int (Int32.ofNat k))] := by
  simp only [LTq, List.map_cons, List.map_nil, Option.map_some, Option.map_none, sVal, sI_c]
theorem c_trM (l : Launch) {c d : Nat} {r : sE} {o : List Nat} (hd : 18 ≤ d) (hc : c < 18) (hcc : cC 69 45 (tM c) r) (hnr : r.1 (mP 0 1) = Int32.ofNat (nOf c)) (ho : o ∈ ordN (nOf c)) (hO : hasO r 13 o) (hF : trF c o (dOf c)) : gMet l D cy al d 183 (tW r al cy rest 45 tMv) [.ref (al 0), .ref (al 13)] (fun v w => v = some (.long (Int32.ofInt (trS c o (dOf c))).toInt64) ∧ ∃ r1, kp 69 45 tMv r r1 ∧ w = tW r1 al cy rest 45 tMv) := by
  refine gMet_up hd ?_
  obtain ⟨⟨d1, d6⟩, n1, n5⟩ := cd_tab c hc
  have hw : ∀ (x : sE) l, tW (uL x l) al cy rest 45 tMv = tW x al cy rest 45 tMv := fun x l => tW_uL (by omega) tMv_can
  have hq := allL_ok q_tm c hc
  rw [Bool.and_eq_true] at hq
  refine gMet_of (l := l) (D := D) (cy := cy) (al := al) (d := 18) (k := 183) (w := tW r al cy rest 45 tMv) (r := r) (as := [.inr (.inr (some (nat_lit 0))), .inr (.inr (some (nat_lit 13)))]) (G := fun v w => v = some (.long (Int32.ofInt (trS c o (dOf c))).toInt64) ∧ ∃ r1, kp 69 45 tMv r r1 ∧ w = tW r1 al cy rest 45 tMv) q_tmE (fun At hFC => ?_)
  have loop : ∀ (m k : Nat) (r' : sE), k + (m + 1) = dOf c → kpC chSt 69 45 tMv r r' → At 18 [some (.ref (al 0)), some (.ref (al 13)), some (.long (Int32.ofInt (trS c o k)).toInt64), none, some (.int (Int32.ofNat k))] [.int (Int32.ofNat k), .ref (al 13), .ref (al 0)] (tW r' al cy rest 45 tMv) := by
    intro m
    induction m with
    | zero =>
      intro k r' hkm hk'
      refine hFC.2 18 21 177 17 _ [.ref (al 0), .ref (al 13), .int (Int32.ofNat k)] [] _ _ ⟨_, _, rfl, rfl⟩ rfl (by decide) rfl (gRecv_t (by omega) rfl rfl) (c_tw l (by omega) hc (by omega) (kpM_cC hc (kp_St hk') hcc) (by rw [(kp_St hk').1 _ kpM_regs.1.1 kpM_regs.1.2]; exact hnr) ho (fun i hi => by rw [hk'.1 _ (one_pl i hi).1 (one_pl i hi).2]; exact hO i hi)) (fun v2 w2 h => ?_)
      obtain ⟨rfl, r2, j1, j2, rfl⟩ := h
      have hk2 := kpC_trans hk' j1
      have E0 : sJ (uL r2 (Int32.ofInt (trS c o k)).toInt64) (.var (nat_lit 819290)) = (Int32.ofInt (trS c o k)).toInt64 := uL_v
      have hFk : trF c o k := fun i hi => hF i (by omega)
      have b1 := trS_bd k hFk
      have b2 := bdI_ok (hF k (by omega))
      have ET : sJ (uL r2 (Int32.ofInt (trS c o k)).toInt64) (eTm k) = (Int32.ofInt (trS c o (k + 1))).toInt64 := by
        show (sD _ (.pow (.mul (.var 819290) (.pow (.neg (.var (380928 + k))) 21)) 20)).2 = _
        rw [sD_b]
        show sJ (uL r2 (Int32.ofInt (trS c o k)).toInt64) (.var (nat_lit 819290)) + sJ _ (.pow (.neg (.var (380928 + k))) 21) = _
        rw [E0, sJ_i2l (r := uL r2 (Int32.ofInt (trS c o k)).toInt64) (x := Int32.ofInt (cwT c (tG c k o) k)) ((congrArg r2.1 (show 380928 + k = mP 24 k by unfold mP; omega)).trans (j2 k (by omega))), sum_L (by omega) b2]
        rfl
      have g := g_segS hFC (r := uL r2 (Int32.ofInt (trS c o k)).toInt64) (al := al) (cy := cy) (rest := rest) (tM_ok hc) (kpM_cC hc (kp_trans (kp_St hk2) (kp_uL (by omega))) hcc) sPa_nil oM_nil (allL_ok hq.2 k (by omega)) (fun pc L st pa hk hp => ?_) (fun v pa hk hp => ?_)
      · rw [hw, LTq_eq, E0] at g
        exact g
      · rw [Bool.and_eq_true] at hk
        have hle : k + 2 ≤ dOf c := Nat.le_of_ble_eq_true hk.1
        exact absurd hle (by omega)
      · rw [Bool.and_eq_true] at hk
        have he : k + 1 = dOf c := Nat.eq_of_beq_eq_true hk.1
        rw [hw, eqO_ok hk.2]
        refine ⟨?_, r2, kp_St hk2, rfl⟩
        show some (Value.long (sJ (uL r2 (Int32.ofInt (trS c o k)).toInt64) (eTm k))) = _
        rw [ET, he]
    | succ m ih =>
      intro k r' hkm hk'
      refine hFC.2 18 21 177 17 _ [.ref (al 0), .ref (al 13), .int (Int32.ofNat k)] [] _ _ ⟨_, _, rfl, rfl⟩ rfl (by decide) rfl (gRecv_t (by omega) rfl rfl) (c_tw l (by omega) hc (by omega) (kpM_cC hc (kp_St hk') hcc) (by rw [(kp_St hk').1 _ kpM_regs.1.1 kpM_regs.1.2]; exact hnr) ho (fun i hi => by rw [hk'.1 _ (one_pl i hi).1 (one_pl i hi).2]; exact hO i hi)) (fun v2 w2 h => ?_)
      obtain ⟨rfl, r2, j1, j2, rfl⟩ := h
      have hk2 := kpC_trans hk' j1
      have E0 : sJ (uL r2 (Int32.ofInt (trS c o k)).toInt64) (.var (nat_lit 819290)) = (Int32.ofInt (trS c o k)).toInt64 := uL_v
      have hFk : trF c o k := fun i hi => hF i (by omega)
      have b1 := trS_bd k hFk
      have b2 := bdI_ok (hF k (by omega))
      have ET : sJ (uL r2 (Int32.ofInt (trS c o k)).toInt64) (eTm k) = (Int32.ofInt (trS c o (k + 1))).toInt64 := by
        show (sD _ (.pow (.mul (.var 819290) (.pow (.neg (.var (380928 + k))) 21)) 20)).2 = _
        rw [sD_b]
        show sJ (uL r2 (Int32.ofInt (trS c o k)).toInt64) (.var (nat_lit 819290)) + sJ _ (.pow (.neg (.var (380928 + k))) 21) = _
        rw [E0, sJ_i2l (r := uL r2 (Int32.ofInt (trS c o k)).toInt64) (x := Int32.ofInt (cwT c (tG c k o) k)) ((congrArg r2.1 (show 380928 + k = mP 24 k by unfold mP; omega)).trans (j2 k (by omega))), sum_L (by omega) b2]
        rfl
      have g := g_segS hFC (r := uL r2 (Int32.ofInt (trS c o k)).toInt64) (al := al) (cy := cy) (rest := rest) (tM_ok hc) (kpM_cC hc (kp_trans (kp_St hk2) (kp_uL (by omega))) hcc) sPa_nil oM_nil (allL_ok hq.2 k (by omega)) (fun pc L st pa hk hp => ?_) (fun v pa hk hp => ?_)
      · rw [hw, LTq_eq, E0] at g
        exact g
      · rw [Bool.and_eq_true] at hk
        have hle : k + 2 ≤ dOf c := Nat.le_of_ble_eq_true hk.1
        obtain ⟨rfl, rfl, rfl⟩ := kAt_ok hk.2
        rw [hw, LTq_eq, ET, show List.map (sVal (uL r2 (Int32.ofInt (trS c o k)).toInt64) al) [.inl (.natCast (Nat.succ k)), .inr (.inr (some (nat_lit 13))), .inr (.inr (some (nat_lit 0)))] = [.int (Int32.ofNat (k + 1)), .ref (al 13), .ref (al 0)] by simp only [List.map_cons, List.map_nil, sVal, sI_c]]
        exact ih (k + 1) r2 (by omega) hk2
      · rw [Bool.and_eq_true] at hk
        have he : k + 1 = dOf c := Nat.eq_of_beq_eq_true hk.1
        rw [hw, eqO_ok hk.2]
        refine ⟨?_, r2, kp_St hk2, rfl⟩
        show some (Value.long (sJ (uL r2 (Int32.ofInt (trS c o k)).toInt64) (eTm k))) = _
        rw [ET, he]
  have g := g_segS hFC (r := r) (al := al) (cy := cy) (rest := rest) (tM_ok hc) hcc sPa_nil oM_nil hq.1 (fun pc L st pa hk hp => ?_) (fun v pa hk => nomatch hk)
  · exact g
  obtain ⟨rfl, rfl, rfl⟩ := kAt_ok hk
  rw [LTq_eq, show sJ r (.natCast (nat_lit 0)) = (Int32.ofInt (trS c o 0)).toInt64 by simp only [sJ, sD_c]; rfl, show List.map (sVal r al) [.inl (.natCast (nat_lit 0)), .inr (.inr (some (nat_lit 13))), .inr (.inr (some (nat_lit 0)))] = [.int (Int32.ofNat 0), .ref (al 13), .ref (al 0)] by simp only [List.map_cons, List.map_nil, sVal, sI_c]]
  exact loop (dOf c - 1) 0 r (by omega) kpC_rfl
end TM
