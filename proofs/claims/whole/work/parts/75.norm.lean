/-! 75: norm (by wip/whole/mk75.py) -/
noncomputable def normR (c a0 a1 : Nat) : Bool := qRun c (nat_lit 103) (nat_lit 197) [nat_lit 0, nat_lit 1, nat_lit 24, nat_lit 25, nat_lit 26, nat_lit 27] [nat_lit 0] (dP (nat_lit 819200) (nat_lit 0) (dOf c) a0 (dP (nat_lit 819201) (nat_lit 0) (nat_lit 2) a1 [])) [.inl (dA (nat_lit 819200) (nat_lit 0) (dOf c) a0), .inl (dA (nat_lit 819201) (nat_lit 0) (nat_lit 2) a1)]
noncomputable def norm1 (c a0 : Nat) : Bool := qRun c (nat_lit 103) (nat_lit 197) [nat_lit 0, nat_lit 1, nat_lit 24, nat_lit 25, nat_lit 26, nat_lit 27] [nat_lit 0] (dP (nat_lit 819200) (nat_lit 0) (dOf c) a0 []) [.inl (dA (nat_lit 819200) (nat_lit 0) (dOf c) a0), .inl (.var (nat_lit 819201))]
theorem q_norm : allL 18 (fun c => allL (Nat.add (nat_lit 2) (dOf c)) (fun a0 => Bool.rec (motive := fun _ => Bool) (norm1 c a0) (allL 2 (fun a1 => normR c a0 a1)) (Nat.ble (nat_lit 2) a0))) = true := by decide +kernel
/-- the constant at a place of a row of longs -/
noncomputable def nvL (v : Option sV) : Nat := Option.rec (motive := fun _ => Nat) (nat_lit 0) (fun v => Sum.rec (motive := fun _ => Nat) (fun _ => nat_lit 0) (fun y => Sum.rec (motive := fun _ => Nat) (fun e => Lean.Grind.CommRing.Expr.rec (motive := fun _ => Nat) (fun _ => nat_lit 0) (fun a => a) (fun _ => nat_lit 0) (fun _ => nat_lit 0) (fun _ _ => nat_lit 0) (fun _ _ _ _ => nat_lit 0) (fun _ _ _ _ => nat_lit 0) (fun _ _ _ _ => nat_lit 0) (fun _ _ _ => nat_lit 0) e) (fun _ => nat_lit 0) y) v) v
noncomputable def rGet {α : Type} (l : List α) : Nat → Option α := List.rec (motive := fun _ => Nat → Option α) (fun _ => none) (fun a _ ih n => Nat.rec (motive := fun _ => Option α) (some a) (fun m _ => ih m) n) l
/-- the norms: part p of j -/
noncomputable def nN (c p j : Nat) : Nat := nvL (rGet (tX c (Nat.add (nat_lit 26) p)).2.2 j)
noncomputable def isJ (mem : sM) (i j k : Nat) : Bool := sGet mem i (fun c => Bool.and (Nat.ble c.1 (nat_lit 6)) (sGet c.2.2 j (fun v => eqV v (.inr (.inl (.natCast k))))))
theorem isJ_ok {b : Nat} {r : sE} {mem : sM} {i j k : Nat} (hj : j < 4096) (h : isJ mem i j k = true) : (eOf b r mem).2 (4096 * (b + i) + j) = Int64.ofNat k := by
  obtain ⟨⟨kd, u, vs⟩, h1, h2⟩ := sGet_ok _ _ _ h
  rw [Bool.and_eq_true] at h2
  obtain ⟨v, h3, h4⟩ := sGet_ok _ _ _ h2.2
  rw [(eOf_i (b := b) (r := r) h1 (Nat.le_of_ble_eq_true h2.1) hj).2, h3, eqV_ok h4]
  show sJ r (.natCast k) = _
  simp only [sJ, sD_c]
noncomputable def nrmT (c : Nat) : Bool := sBeg (nat_lit 69) (nat_lit 45) (tM c) (memB [nat_lit 0, nat_lit 4, nat_lit 5, nat_lit 30, nat_lit 31]) [] (fun m0 => sRun (nat_lit 100000) (nat_lit 5) (nat_lit 196) [] m0 [.inr (.inr (some (nat_lit 0)))] (fun v pa m => Bool.and (sK0 (nat_lit 69) (nat_lit 45) (tM c) (memB [nat_lit 0, nat_lit 4, nat_lit 5, nat_lit 30, nat_lit 31]) m0 m) (Bool.and (eqO v none) (allL (dOf c) (fun j => Bool.and (isJ m (nat_lit 30) j (nN c (nat_lit 0) j)) (isJ m (nat_lit 31) j (nN c (nat_lit 1) j)))))))
theorem q_nrm1 : allL 13 nrmT = true := by decide +kernel
theorem q_nrm2 : allL 5 (fun i => nrmT (Nat.add (nat_lit 13) i)) = true := by decide +kernel
theorem q_nrm {c : Nat} (hc : c < 18) : nrmT c = true := by
  by_cases h1 : c < 13
  · exact allL_ok q_nrm1 c h1
  · have := allL_ok q_nrm2 (c - 13) (by omega)
    rwa [show Nat.add (nat_lit 13) (c - 13) = c by show 13 + (c - 13) = c; omega] at this
/-- the model's norms -/
theorem c_nrm (l : Launch) {D : va_G} {cy : Nat → ClassId} {al : Nat → Nat} {rest : va_W} {r : sE} {d c : Nat} (hd : 5 ≤ d) (hc : c < 18) (hcc : cC 69 45 (tM c) r) : gMet l D cy al d 196 (tW r al cy rest 45 tMv) [.ref (al 0)] (fun v w => ∃ r1, kp 69 45 tMv r r1 ∧ (∀ j, j < dOf c → r1.2 (mP 30 j) = Int64.ofNat (nN c 0 j) ∧ r1.2 (mP 31 j) = Int64.ofNat (nN c 1 j)) ∧ v = none ∧ w = tW r1 al cy rest 45 tMv) := by
  refine gMet_up hd ?_
  refine c_run l (r := r) (by omega) (tM_ok hc) hcc sPa_nil oM_nil (q_nrm hc) (fun m0 v pa m hk hp hkp => ?_)
  rw [Bool.and_eq_true] at hk
  have hd := (cd_tab c hc).1.2
  refine ⟨_, hkp, fun j hj => ?_, by rw [eqO_ok hk.1]; rfl, rfl⟩
  have := allL_ok hk.2 j hj
  rw [Bool.and_eq_true] at this
  exact ⟨isJ_ok (by omega) this.1, isJ_ok (by omega) this.2⟩
noncomputable def LN (k p : Nat) : sL := [some (.inr (.inr (some (nat_lit 0)))), some (.inl (.natCast k)), some (.inl (.natCast p))]
theorem q_nE : allL 6 (fun k => allL 2 (fun p => sEnt [.inr (.inr (some (nat_lit 0))), .inl (.natCast k), .inl (.natCast p)] (PG (nat_lit 197)).2.1 (fun L => eqL eqO L (LN k p)))) = true := by decide +kernel
theorem q_nA : allL 18 (fun c => allL (dOf c) (fun k => allL 2 (fun p => sBeg (nat_lit 69) (nat_lit 45) (tM c) (memB [nat_lit 0]) [] (fun m0 => sx PG (nat_lit 1000) (nat_lit 7) (PG (nat_lit 197)) (fun pc => Nat.beq pc (nat_lit 20)) (kS1 (nat_lit 69) (nat_lit 45) (tM c) (memB [nat_lit 0]) (nat_lit 20) (LN k p) [.inr (.inr (some (nat_lit 0)))] (fun _ _ _ => true) m0) (fun _ _ m => Bool.and (sK0 (nat_lit 69) (nat_lit 45) (tM c) (memB [nat_lit 0]) m0 m) false) (nat_lit 0) (LN k p) [] [] m0)))) = true := by decide +kernel
theorem q_nB : allL 6 (fun k => allL 2 (fun p => sBeg (nat_lit 69) (nat_lit 45) tMv (memB [nat_lit 0, nat_lit 30, nat_lit 31]) [] (fun m0 => sx PG (nat_lit 1000) (nat_lit 7) (PG (nat_lit 197)) (fun _ => false) (fun _ _ _ _ m => Bool.and (sK0 (nat_lit 69) (nat_lit 45) tMv (memB [nat_lit 0, nat_lit 30, nat_lit 31]) m0 m) false) (fun v _ m => Bool.and (sK0 (nat_lit 69) (nat_lit 45) tMv (memB [nat_lit 0, nat_lit 30, nat_lit 31]) m0 m) (eqO v (some (.inr (.inl (.var (Nat.add (Nat.mul (nat_lit 4096) (Nat.add (nat_lit 99) p)) k))))))) (nat_lit 23) (LN k p) [] [] m0))) = true := by decide +kernel
theorem c_normM (l : Launch) {D : va_G} {cy : Nat → ClassId} {al : Nat → Nat} {rest : va_W} {r : sE} {c k p : Nat} (hc : c < 18) (hcc : cC 69 45 (tM c) r) (hk : k < dOf c) (hp : p < 2) : gMet l D cy al 200 197 (tW r al cy rest 45 tMv) [.ref (al 0), .int (Int32.ofNat k), .int (Int32.ofNat p)] (fun v w => v = some (.long (Int64.ofNat (nN c p k))) ∧ ∃ r1, kp 69 45 tMv r r1 ∧ w = tW r1 al cy rest 45 tMv) := by
  refine gMet_up (d := 7) (by omega) ?_
  have hd6 := (cd_tab c hc).1.2
  have key := gMet_of (l := l) (D := D) (cy := cy) (al := al) (d := 7) (k := 197) (w := tW r al cy rest 45 tMv) (r := r) (G := fun v w => v = some (.long (Int64.ofNat (nN c p k))) ∧ ∃ r1, kp 69 45 tMv r r1 ∧ w = tW r1 al cy rest 45 tMv) (allL_ok (allL_ok q_nE k (by omega)) p hp) (fun At hFC => ?_)
  · have ea : List.map (sVal r al) [.inr (.inr (some (nat_lit 0))), .inl (.natCast k), .inl (.natCast p)] = [.ref (al 0), .int (Int32.ofNat k), .int (Int32.ofNat p)] := by
      simp only [List.map_cons, List.map_nil, sVal, sI_c]
    rw [ea] at key
    exact key
  refine g_seg1 hFC (r := r) (by omega) (tM_ok hc) hcc sPa_nil oM_nil (allL_ok (allL_ok (allL_ok q_nA c hc) k hk) p hp) (fun m0 pa m r1 h1 h2 h3 hk1 => ?_) (fun m0 v pa m r1 h1 => nomatch h1)
  refine g_call1 (d1 := 6) (as := [.inr (.inr (some 0))]) (st := []) (v0 := none) (E := fun r1 => ∀ j, j < dOf c → r1.2 (mP 30 j) = Int64.ofNat (nN c 0 j) ∧ r1.2 (mP 31 j) = Int64.ofNat (nN c 1 j)) hFC (nx := 23) (mi := 196) ⟨_, _, rfl, rfl⟩ rfl rfl (gRecv_t (by omega) rfl rfl) rfl rfl (c_nrm l (by omega) hc (kpM_cC hc hk1 hcc)) (fun r2 hk2 hE => ?_)
  refine g_seg hFC (r := r2) (by omega) tMv_ok (cC_M _) sPa_nil oM_nil (allL_ok (allL_ok q_nB k (by omega)) p hp) (fun m0 pc L st pa m h1 => nomatch h1) (fun m0 v pa m h1 h2 hk3 => ?_)
  refine ⟨?_, _, kp_trans hk1 (kp_trans hk2 hk3), rfl⟩
  rw [eqO_ok h1]
  show some (Value.long (sJ r2 (.var (4096 * (99 + p) + k)))) = _
  simp only [sJ, sD_v]
  have hh := hE k hk
  match p, hp with
  | 0, _ => rw [← hh.1]; rfl
  | 1, _ => rw [← hh.2]; rfl
theorem q_nX : allL 18 (fun c => allL (dOf c) (fun k => allL 2 (fun p => sBeg (nat_lit 0) (nat_lit 68) (tX c) (memB [nat_lit 0, nat_lit 1, nat_lit 24, nat_lit 25, nat_lit 26, nat_lit 27]) [] (fun m0 => sRun (nat_lit 1000) (nat_lit 200) (nat_lit 103) [] m0 [.inr (.inr (some (nat_lit 0))), .inl (.natCast k), .inl (.natCast p)] (fun v _ m => Bool.and (sK0 (nat_lit 0) (nat_lit 68) (tX c) (memB [nat_lit 0, nat_lit 1, nat_lit 24, nat_lit 25, nat_lit 26, nat_lit 27]) m0 m) (eqO v (some (.inr (.inl (.natCast (nN c p k)))))))))))  = true := by decide +kernel
theorem kd_103 : (PG 103).2.2.2.2 = 3 := by decide +kernel
theorem dA_c {r : sE} {w n k : Nat} (hk : k < 4294967296) : sI r (dA w 0 n (k + 2)) = Int32.ofNat k := by
  show sI r (.natCast ((0 + k) % 4294967296)) = _
  rw [sI_c, Nat.zero_add, Nat.mod_eq_of_lt hk]
theorem op_norm {l : Launch} {D : va_G} {cy : Nat → ClassId} {alX alM : Nat → Nat} : OpI l D cy alX alM 103 197 2 := by
  intro r as hI hlen
  obtain ⟨a0, a1, rfl⟩ : ∃ a0 a1, as = [a0, a1] := by
    match as, hlen with
    | [a0, a1], _ => exact ⟨a0, a1, rfl⟩
  refine OpOk_uA [a0, a1] ?_
  replace hI := Inv_uA (as := [a0, a1]) hI
  have e0 : (uA r [a0, a1]).1 819200 = a0 := uA_a 0
  have e1 : (uA r [a0, a1]).1 819201 = a1 := uA_a 1
  generalize uA r [a0, a1] = r at hI e0 e1 ⊢
  obtain ⟨c1, hc1, hp1, hv1⟩ := dP_ok r 819201 (lo := 0) (n := 2) (Or.inr (by omega)) (by omega)
  rw [e1] at hv1
  obtain ⟨c, hc, hcc, hcm⟩ := id hI
  obtain ⟨⟨d1, d2⟩, -⟩ := cd_tab c hc
  obtain ⟨c0, hc0, hp0, hv0⟩ := dP_ok r 819200 (lo := 0) (n := dOf c) (Or.inr (by omega)) (by omega)
  rw [e0] at hv0
  have hq := allL_ok (allL_ok q_norm c hc) c0 (by show c0 < 2 + dOf c; omega)
  cases hb : Nat.ble (nat_lit 2) c0 with
  | false =>
    rw [hb] at hq
    exact qRun_ok (show norm1 c c0 = true from hq) hc hcc hcm (hp0 _ sPa_nil) (by simp only [List.map_cons, List.map_nil, sVal, hv0, sI_v, e1]) (by simp only [List.map_cons, List.map_nil, sVal, hv0, sI_v, e1])
  | true =>
    rw [hb] at hq
    by_cases h2 : c1 < 2
    · exact qRun_ok (show normR c c0 c1 = true from allL_ok hq c1 h2) hc hcc hcm (hp0 _ (hp1 _ sPa_nil)) (by simp only [List.map_cons, List.map_nil, sVal, hv0, hv1]) (by simp only [List.map_cons, List.map_nil, sVal, hv0, hv1])
    · have hb2 : 2 ≤ c0 := Nat.le_of_ble_eq_true hb
      obtain ⟨k, rfl⟩ : ∃ k, c0 = k + 2 := ⟨c0 - 2, by omega⟩
      obtain ⟨p, rfl⟩ : ∃ p, c1 = p + 2 := ⟨c1 - 2, by omega⟩
      have ek : a0 = Int32.ofNat k := by rw [← hv0, dA_c (by omega)]
      have ep : a1 = Int32.ofNat p := by rw [← hv1, dA_c (by omega)]
      subst ek ep
      refine OpOk_V (V := some (.long (Int64.ofNat (nN c p k)))) hI (fun rest => ?_) (fun rest => c_normM l hc hcc.2 (by omega) (by omega)) (Or.inr ⟨kd_103, _, rfl⟩)
      have key := c_run l (D := D) (cy := cy) (al := alX) (rest := rest) (r := r) (by omega) (tX_ok hc) hcc.1 sPa_nil oX_nil (allL_ok (allL_ok (allL_ok q_nX c hc) k (by omega)) p (by omega)) (G := fun v w => v = some (.long (Int64.ofNat (nN c p k))) ∧ ∃ r1, kp 0 68 tXv r r1 ∧ w = tW r1 alX cy rest 68 tXv) (fun m0 v pa m hk hp hkp => ⟨by
        rw [eqO_ok hk]
        show some (Value.long (sJ r (.natCast (nN c p k)))) = _
        simp only [sJ, sD_c], _, hkp, rfl⟩)
      have ea : List.map (sVal r alX) [.inr (.inr (some (nat_lit 0))), .inl (.natCast k), .inl (.natCast p)] = [.ref (alX 0), .int (Int32.ofNat k), .int (Int32.ofNat p)] := by
        simp only [List.map_cons, List.map_nil, sVal, sI_c]
      rw [ea] at key
      exact key
