/-! 56: count (by wip/whole/mk56.py) -/
theorem crJ_cnt : crJ (memB [nat_lit 0, nat_lit 44, nat_lit 49, nat_lit 50, nat_lit 35, nat_lit 36, nat_lit 38, nat_lit 40, nat_lit 42]) (memB [nat_lit 0, nat_lit 7]) scQ = true := by decide +kernel
theorem q_count : allL 6 (fun a0 => jRun (nat_lit 100000) (nat_lit 200) tXv tXv tMv tMv (nat_lit 124) (nat_lit 229) (memB [nat_lit 0, nat_lit 44, nat_lit 49, nat_lit 50, nat_lit 35, nat_lit 36, nat_lit 38, nat_lit 40, nat_lit 42]) (memB [nat_lit 0, nat_lit 7]) [] [(nat_lit 0, nat_lit 17, .var (nat_lit 180224)), (nat_lit 0, nat_lit 41, .var (nat_lit 7)), (nat_lit 0, nat_lit 49, .var (nat_lit 204800)), (nat_lit 7, nat_lit 0, .var (nat_lit 147456)), (nat_lit 7, nat_lit 1, .var (nat_lit 155648)), (nat_lit 7, nat_lit 2, .var (nat_lit 163840)), (nat_lit 7, nat_lit 3, .var (nat_lit 172032))] (dP (nat_lit 819200) (nat_lit 0) (nat_lit 5) a0 []) [.inl (dA (nat_lit 819200) (nat_lit 0) (nat_lit 5) a0)] (fun x0 m0 pa x m => frJ scQ x0 m0 x m)) = true := by decide +kernel
theorem q_cEX : sEnt [.inr (.inr (some (nat_lit 0))), .inl (.natCast (nat_lit 4))] (PG (nat_lit 124)).2.1 (fun L => eqL eqO L [some (.inr (.inr (some (nat_lit 0)))), some (.inl (.natCast (nat_lit 4)))]) = true := by decide +kernel
theorem q_cnX : sBeg (nat_lit 0) (nat_lit 68) tXv (KL [nat_lit 0]) [] (fun m0 => sx PG (nat_lit 100) (nat_lit 6) (PG (nat_lit 124)) (fun pc => Nat.beq pc (nat_lit 66)) (fun pc L st pa m => Bool.and (eqL eqC m m0) (kAt (nat_lit 66) [some (.inr (.inr (some (nat_lit 0)))), some (.inl (.natCast (nat_lit 4)))] [.inr (.inr (some (nat_lit 0)))] pc L st)) (fun _ _ m => Bool.and (eqL eqC m m0) false) (nat_lit 0) [some (.inr (.inr (some (nat_lit 0)))), some (.inl (.natCast (nat_lit 4)))] [] [] m0) = true := by decide +kernel
theorem q_crX : sx PG (nat_lit 10) (nat_lit 6) (PG (nat_lit 124)) (fun _ => false) (fun _ _ _ _ _ => false) (fun v _ m => Bool.and (eqL eqC m []) (eqO v (some (.inl (.var (nat_lit 819290)))))) (nat_lit 69) [some (.inr (.inr (some (nat_lit 0)))), some (.inl (.natCast (nat_lit 4)))] [.inl (.var (nat_lit 819290))] [] [] = true := by decide +kernel
/-- count, of 4 -/
theorem c_cnX (l : Launch) {D : va_G} {cy : Nat → ClassId} {al : Nat → Nat} {rest : va_W} {r : sE} {V : Int32} {R : va_W → Prop} (h : gMet l D cy al 5 128 (tW r al cy rest 68 tXv) [.ref (al 0)] (fun v w => v = some (.int V) ∧ R w)) : gMet l D cy al 200 124 (tW r al cy rest 68 tXv) [.ref (al 0), .int (Int32.ofNat 4)] (fun v w => v = some (.int V) ∧ R w) := by
  refine gMet_up (d := 6) (by omega) ?_
  have key := gMet_of (l := l) (D := D) (cy := cy) (al := al) (d := 6) (k := 124) (w := tW r al cy rest 68 tXv) (r := r) (G := fun v w => v = some (.int V) ∧ R w) q_cEX (fun At hFC => ?_)
  · have ea : List.map (sVal r al) [.inr (.inr (some (nat_lit 0))), .inl (.natCast (nat_lit 4))] = [.ref (al 0), .int (Int32.ofNat 4)] := by
      simp only [List.map_cons, List.map_nil, sVal, sI_c]
    rw [ea] at key
    exact key
  refine g_segS hFC (r := r) (al := al) (cy := cy) (rest := rest) tXv_ok (cC_X _) sPa_nil oX_nil q_cnX (fun pc L st pa hk hp => ?_) (fun v pa hk => nomatch hk)
  obtain ⟨rfl, rfl, rfl⟩ := kAt_ok hk
  have es : List.map (sVal r al) [.inr (.inr (some (nat_lit 0)))] = ([.ref (al 0)] : List Value).reverse ++ [] := rfl
  rw [es]
  refine hFC.2 66 69 128 5 _ [.ref (al 0)] [] _ _ ⟨_, _, rfl, rfl⟩ rfl (by decide) rfl (gRecv_t (by omega) rfl rfl) h (fun v w2 q => ?_)
  obtain ⟨rfl, hR⟩ := q
  have kr := g_ret (v := some (.int V)) hFC (r := uV r 0 V) (w := w2) q_crX (fun v0 h0 => by
    rw [eqO_ok h0]
    show some (Value.int (sI (uV r 0 V) (.var 819290))) = _
    rw [sI_v]
    exact congrArg (fun x => some (Value.int x)) (uV_v (w := 0))) ⟨rfl, hR⟩
  have e1 : List.map (Option.map (sVal (uV r 0 V) al)) [some (.inr (.inr (some (nat_lit 0)))), some (.inl (.natCast (nat_lit 4)))] = List.map (Option.map (sVal r al)) [some (.inr (.inr (some (nat_lit 0)))), some (.inl (.natCast (nat_lit 4)))] := by
    simp only [List.map_cons, List.map_nil, Option.map_some, sVal, sI_c]
  have e2 : List.map (sVal (uV r 0 V) al) [.inl (.var (nat_lit 819290))] = [.int V] := by
    show [Value.int (sI (uV r 0 V) (.var 819290))] = _
    rw [sI_v]
    exact congrArg (fun x => [Value.int x]) (uV_v (w := 0))
  rw [e1, e2] at kr
  exact kr
theorem q_cEM : sEnt [.inr (.inr (some (nat_lit 0))), .inl (.natCast (nat_lit 4))] (PG (nat_lit 229)).2.1 (fun L => eqL eqO L [some (.inr (.inr (some (nat_lit 0)))), some (.inl (.natCast (nat_lit 4)))]) = true := by decide +kernel
theorem q_cnM : sBeg (nat_lit 69) (nat_lit 45) tMv (KL [nat_lit 0]) [] (fun m0 => sx PG (nat_lit 100) (nat_lit 6) (PG (nat_lit 229)) (fun pc => Nat.beq pc (nat_lit 57)) (fun pc L st pa m => Bool.and (eqL eqC m m0) (kAt (nat_lit 57) [some (.inr (.inr (some (nat_lit 0)))), some (.inl (.natCast (nat_lit 4)))] [.inr (.inr (some (nat_lit 0)))] pc L st)) (fun _ _ m => Bool.and (eqL eqC m m0) false) (nat_lit 0) [some (.inr (.inr (some (nat_lit 0)))), some (.inl (.natCast (nat_lit 4)))] [] [] m0) = true := by decide +kernel
theorem q_crM : sx PG (nat_lit 10) (nat_lit 6) (PG (nat_lit 229)) (fun _ => false) (fun _ _ _ _ _ => false) (fun v _ m => Bool.and (eqL eqC m []) (eqO v (some (.inl (.var (nat_lit 819290)))))) (nat_lit 60) [some (.inr (.inr (some (nat_lit 0)))), some (.inl (.natCast (nat_lit 4)))] [.inl (.var (nat_lit 819290))] [] [] = true := by decide +kernel
/-- count, of 4 -/
theorem c_cnM (l : Launch) {D : va_G} {cy : Nat → ClassId} {al : Nat → Nat} {rest : va_W} {r : sE} {V : Int32} {R : va_W → Prop} (h : gMet l D cy al 5 228 (tW r al cy rest 45 tMv) [.ref (al 0)] (fun v w => v = some (.int V) ∧ R w)) : gMet l D cy al 200 229 (tW r al cy rest 45 tMv) [.ref (al 0), .int (Int32.ofNat 4)] (fun v w => v = some (.int V) ∧ R w) := by
  refine gMet_up (d := 6) (by omega) ?_
  have key := gMet_of (l := l) (D := D) (cy := cy) (al := al) (d := 6) (k := 229) (w := tW r al cy rest 45 tMv) (r := r) (G := fun v w => v = some (.int V) ∧ R w) q_cEM (fun At hFC => ?_)
  · have ea : List.map (sVal r al) [.inr (.inr (some (nat_lit 0))), .inl (.natCast (nat_lit 4))] = [.ref (al 0), .int (Int32.ofNat 4)] := by
      simp only [List.map_cons, List.map_nil, sVal, sI_c]
    rw [ea] at key
    exact key
  refine g_segS hFC (r := r) (al := al) (cy := cy) (rest := rest) tMv_ok (cC_M _) sPa_nil oM_nil q_cnM (fun pc L st pa hk hp => ?_) (fun v pa hk => nomatch hk)
  obtain ⟨rfl, rfl, rfl⟩ := kAt_ok hk
  have es : List.map (sVal r al) [.inr (.inr (some (nat_lit 0)))] = ([.ref (al 0)] : List Value).reverse ++ [] := rfl
  rw [es]
  refine hFC.2 57 60 228 5 _ [.ref (al 0)] [] _ _ ⟨_, _, rfl, rfl⟩ rfl (by decide) rfl (gRecv_t (by omega) rfl rfl) h (fun v w2 q => ?_)
  obtain ⟨rfl, hR⟩ := q
  have kr := g_ret (v := some (.int V)) hFC (r := uV r 0 V) (w := w2) q_crM (fun v0 h0 => by
    rw [eqO_ok h0]
    show some (Value.int (sI (uV r 0 V) (.var 819290))) = _
    rw [sI_v]
    exact congrArg (fun x => some (Value.int x)) (uV_v (w := 0))) ⟨rfl, hR⟩
  have e1 : List.map (Option.map (sVal (uV r 0 V) al)) [some (.inr (.inr (some (nat_lit 0)))), some (.inl (.natCast (nat_lit 4)))] = List.map (Option.map (sVal r al)) [some (.inr (.inr (some (nat_lit 0)))), some (.inl (.natCast (nat_lit 4)))] := by
    simp only [List.map_cons, List.map_nil, Option.map_some, sVal, sI_c]
  have e2 : List.map (sVal (uV r 0 V) al) [.inl (.var (nat_lit 819290))] = [.int V] := by
    show [Value.int (sI (uV r 0 V) (.var 819290))] = _
    rw [sI_v]
    exact congrArg (fun x => [Value.int x]) (uV_v (w := 0))
  rw [e1, e2] at kr
  exact kr
theorem kd_124 : (PG 124).2.2.2.2 = 1 := by decide +kernel
theorem regs_fun {n : Nat} {r : sE} (h : ∀ q, q < 4 → cR n (xP 34 q) (mP 6 (6 * q + 1)) r) : ∃ o : Nat → List Nat, (∀ q, q < 4 → o q ∈ ORDS ∧ r.1 (xP 34 q) = Int32.ofNat (ocode (o q))) ∧ ∀ q, q < 4 → o q ∈ ordN n ∧ ∀ i, i < 5 → r.1 (mP 6 (6 * q + 1) + i) = Int32.ofNat ((o q).getD i 0) := by
  have h2 : ∀ q, ∃ o : List Nat, q < 4 → (o ∈ ordN n ∧ r.1 (xP 34 q) = Int32.ofNat (ocode o) ∧ ∀ i, i < 5 → r.1 (mP 6 (6 * q + 1) + i) = Int32.ofNat (o.getD i 0)) := fun q => by
    by_cases hq : q < 4
    · obtain ⟨o, h3, h4, h5⟩ := h q hq
      exact ⟨o, fun _ => ⟨h3, h4, h5⟩⟩
    · exact ⟨[], fun h => absurd h hq⟩
  refine ⟨fun q => (h2 q).choose, fun q hq => ?_, fun q hq => ?_⟩
  · have := (h2 q).choose_spec hq
    exact ⟨ordN_in this.1, this.2.1⟩
  · have := (h2 q).choose_spec hq
    exact ⟨this.1, this.2.2⟩
theorem op_count {l : Launch} {D : va_G} {cy : Nat → ClassId} {alX alM : Nat → Nat} : OpI l D cy alX alM 124 229 1 := by
  intro r as hI hlen
  obtain ⟨a0, rfl⟩ : ∃ a0, as = [a0] := by
    match as, hlen with
    | [a0], _ => exact ⟨a0, rfl⟩
  refine OpOk_uA [a0] ?_
  replace hI := Inv_uA (as := [a0]) hI
  have e0 : (uA r [a0]).1 819200 = a0 := uA_a 0
  generalize uA r [a0] = r at hI e0 ⊢
  obtain ⟨c0, hc0, hp0, hv0⟩ := dP_ok r 819200 (lo := 0) (n := 5) (Or.inr (by omega)) (by omega)
  rw [e0] at hv0
  by_cases h6 : c0 = 6
  · subst h6
    have ev : a0 = Int32.ofNat 4 := by
      rw [← hv0]
      exact sI_c
    subst ev
    obtain ⟨c, hc, hcc, hcm⟩ := id hI
    obtain ⟨⟨-, hn1, -⟩, hn2, -⟩ := CC_nd hc hcc
    obtain ⟨-, n1, n5⟩ := cd_tab c hc
    have hreg : ∀ q, q < 4 → cR (nOf c) (xP 34 q) (mP 6 (6 * q + 1)) r := fun q hq => (Comp_R hq).mp (hcm q (by omega))
    obtain ⟨o, hoX, hoM⟩ := regs_fun hreg
    refine OpOk_V (V := some (.int (0 + Int32.ofNat (lenO (o 0)) + Int32.ofNat (lenO (o 1)) + Int32.ofNat (lenO (o 2)) + Int32.ofNat (lenO (o 3))))) hI (fun rest => ?_) (fun rest => ?_) (Or.inl ⟨kd_124, _, rfl⟩)
    · exact (c_cnX l (c_ltog l (by omega) hoX)).mono (fun v w q => ⟨q.1, r, kp_rfl, q.2⟩)
    · exact c_cnM l (c_lall l (by omega) n1 n5 hn2 hoM)
  · obtain ⟨c, hc, hcc, hcm⟩ := id hI
    have hsh : ∀ s, s < 4 → r.1 (mP 7 s) = r.1 (xP (36 + 2 * s) 0) := fun s hs => ((Comp_S hs).mp (hcm (4 + s) (by omega))).1
    have hT : cT (nOf c) r := hcm 8 (by omega)
    have hPt : cP r := hcm 9 (by omega)
    have hW : cW r := hcm 10 (by omega)
    obtain ⟨z1, -, t1, t2, -⟩ := hT
    obtain ⟨z2, -, t3, t4, -⟩ := hPt
    obtain ⟨z3, -, t5, t6, -⟩ := hW
    refine jOk l tXv_ok tXv_ok tMv_ok tMv_ok (cC_X r) (cC_M r) (hp0 _ sPa_nil) (fun _ _ _ => rfl) (fun _ _ _ => rfl) oX_nil (oM_cons (by rw [sI_v]; exact t2.trans t1.symm) (oM_cons (by rw [sI_v]; exact t4.trans t3.symm) (oM_cons (by rw [sI_v]; exact t6.trans t5.symm) (oM_cons (by rw [sI_v]; exact hsh 0 (by omega)) (oM_cons (by rw [sI_v]; exact hsh 1 (by omega)) (oM_cons (by rw [sI_v]; exact hsh 2 (by omega)) (oM_cons (by rw [sI_v]; exact hsh 3 (by omega)) oM_nil))))))) ?_ ?_ (allL_ok q_count c0 (by omega)) (fun x0 m0 pa x m hx0 hm0 hck hp hfx hfm _ _ => Inv_qv crJ_cnt hx0 hm0 hfx hfm hck hI)
    · simp only [List.map_cons, List.map_nil, sVal, hv0]
    · simp only [List.map_cons, List.map_nil, sVal, hv0]
