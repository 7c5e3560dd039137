/-! 93: whole (by wip/whole/mk93.py) -/
noncomputable def LWh (q k j : Nat) : sL := [some (.inr (.inr (some (nat_lit 0)))), some (.inl (.natCast q)), some (.inl (.natCast k)), some (.inl (.natCast j))]
theorem q_whE : allL 4 (fun q => allL 6 (fun k => allL 6 (fun j => Bool.and (sEnt [.inr (.inr (some (nat_lit 0))), .inl (.natCast q), .inl (.natCast k), .inl (.natCast j)] (PG (nat_lit 101)).2.1 (fun L => eqL eqO L (LWh q k j))) (sEnt [.inr (.inr (some (nat_lit 0))), .inl (.natCast q), .inl (.natCast k), .inl (.natCast j)] (PG (nat_lit 182)).2.1 (fun L => eqL eqO L (LWh q k j)))))) = true := by decide +kernel
theorem q_whX : allL 18 (fun c => allL 4 (fun q => allL (dOf c) (fun k => allL (dOf c) (fun j => sBeg (nat_lit 0) (nat_lit 68) (tX c) (memB [nat_lit 0, nat_lit 1, nat_lit 34]) [(nat_lit 34, q, .var (Nat.add (nat_lit 819203) q))] (fun m0 => sx PG (nat_lit 1000) (nat_lit 20) (PG (nat_lit 101)) (fun pc => Nat.beq pc (nat_lit 38)) (kS1 (nat_lit 0) (nat_lit 68) (tX c) (memB [nat_lit 0, nat_lit 1, nat_lit 34]) (nat_lit 38) (LWh q k j) [.inl (.var (Nat.add (nat_lit 819203) q)), .inl (.natCast k), .inr (.inr (some (nat_lit 14)))] (fun _ _ _ => true) m0) (fun _ _ m => Bool.and (sK0 (nat_lit 0) (nat_lit 68) (tX c) (memB [nat_lit 0, nat_lit 1, nat_lit 34]) m0 m) false) (nat_lit 0) (LWh q k j) [] [] m0))))) = true := by decide +kernel
theorem q_whXr : allL 4 (fun q => allL 6 (fun k => allL 6 (fun j => sBeg (nat_lit 0) (nat_lit 68) tXv (memB [nat_lit 0, nat_lit 14, nat_lit 23]) [] (fun m0 => sx PG (nat_lit 100) (nat_lit 20) (PG (nat_lit 101)) (fun _ => false) (fun _ _ _ _ m => Bool.and (eqL eqC m m0) false) (fun v _ m => Bool.and (eqL eqC m m0) (eqO v (some (.inr (.inl (.pow (.neg (.var (Nat.add (nat_lit 94208) j))) (nat_lit 21))))))) (nat_lit 41) (LWh q k j) [] [] m0)))) = true := by decide +kernel
theorem q_whM : allL 18 (fun c => allL 4 (fun q => allL (dOf c) (fun k => allL (dOf c) (fun j => sBeg (nat_lit 69) (nat_lit 45) (tM c) (memB [nat_lit 0, nat_lit 6, nat_lit 13]) [] (fun m0 => sx PG (nat_lit 1000) (nat_lit 20) (PG (nat_lit 182)) (fun pc => Nat.beq pc (nat_lit 38)) (kS1 (nat_lit 69) (nat_lit 45) (tM c) (memB [nat_lit 0, nat_lit 6, nat_lit 13]) (nat_lit 38) (LWh q k j) [.inl (.natCast k), .inr (.inr (some (nat_lit 13))), .inr (.inr (some (nat_lit 0)))] (fun _ _ m => isReg q m) m0) (fun _ _ m => Bool.and (sK0 (nat_lit 69) (nat_lit 45) (tM c) (memB [nat_lit 0, nat_lit 6, nat_lit 13]) m0 m) false) (nat_lit 0) (LWh q k j) [] [] m0))))) = true := by decide +kernel
theorem q_whMr : allL 4 (fun q => allL 6 (fun k => allL 6 (fun j => sBeg (nat_lit 69) (nat_lit 45) tMv (memB [nat_lit 0, nat_lit 24]) [] (fun m0 => sx PG (nat_lit 100) (nat_lit 20) (PG (nat_lit 182)) (fun _ => false) (fun _ _ _ _ m => Bool.and (eqL eqC m m0) false) (fun v _ m => Bool.and (eqL eqC m m0) (eqO v (some (.inr (.inl (.pow (.neg (.var (Nat.add (nat_lit 380928) j))) (nat_lit 21))))))) (nat_lit 41) (LWh q k j) [] [] m0)))) = true := by decide +kernel
theorem reg_pl : ∀ q, q < 4 → isV 0 68 tXv (xP 34 q) = true ∧ scQ (xP 34 q) = false := by decide +kernel
theorem sJ_i2l {r : sE} {u : Nat} {x : Int32} (h : r.1 u = x) : sJ r (.pow (.neg (.var u)) 21) = x.toInt64 := by
  show (sD r (.pow (.neg (.var u)) 21)).2 = _
  rw [sD_u]
  show (sD r (.var u)).1.toInt64 = _
  rw [sD_v]
  exact congrArg Int32.toInt64 h
section WH
variable {D : va_G} {cy : Nat → ClassId} {al : Nat → Nat} {rest : va_W}
theorem gRecv_x {mi j ci : Nat} {r : sE} {al : Nat → Nat} {cy : Nat → ClassId} {rest : va_W} {as1 : List Value} {vs : List sV} (hj : j < 68) (ht : tXv j = (0, ci, vs)) (hc : (PG mi).2.2.2.1 = ci) : gRecv mi (.ref (al j) :: as1) (tW r al cy rest 68 tXv) := by
  refine Or.inr ⟨al j, as1, j, vs.map (sVal r al), rfl, ?_⟩
  unfold tW
  rw [List.getElem?_append_left (by rw [List.length_map, List.length_range]; exact hj), List.getElem?_map, List.getElem?_range hj]
  show some (al j, sCe r al cy (fun x => Sum.inr (0, [])) (tXv j)) = _
  rw [ht, hc]
  rfl
theorem c_whX (l : Launch) {c q k j : Nat} {r : sE} {o : List Nat} (hc : c < 18) (hq : q < 4) (hk : k < dOf c) (hj : j < dOf c) (hcc : cC 0 68 (tX c) r) (ho : o ∈ ordN (nOf c)) (hr : r.1 (xP 34 q) = Int32.ofNat (ocode o)) (hf : r.1 (819203 + q) = r.1 (xP 34 q)) : gMet l D cy al 200 101 (tW r al cy rest 68 tXv) [.ref (al 0), .int (Int32.ofNat q), .int (Int32.ofNat k), .int (Int32.ofNat j)] (fun v w => v = some (.long (Int32.ofInt (cwT c (tG c k o) j)).toInt64) ∧ ∃ r1, kp 0 68 tXv r r1 ∧ w = tW r1 al cy rest 68 tXv) := by
  refine gMet_up (d := 20) (by omega) ?_
  have d6 := (cd_tab c hc).1.2
  have hE := allL_ok (allL_ok (allL_ok q_whE q hq) k (by omega)) j (by omega)
  rw [Bool.and_eq_true] at hE
  have key := gMet_of (l := l) (D := D) (cy := cy) (al := al) (d := 20) (k := 101) (w := tW r al cy rest 68 tXv) (r := r) (G := fun v w => v = some (.long (Int32.ofInt (cwT c (tG c k o) j)).toInt64) ∧ ∃ r1, kp 0 68 tXv r r1 ∧ w = tW r1 al cy rest 68 tXv) hE.1 (fun At hFC => ?_)
  · rw [show List.map (sVal r al) [.inr (.inr (some (nat_lit 0))), .inl (.natCast q), .inl (.natCast k), .inl (.natCast j)] = [.ref (al 0), .int (Int32.ofNat q), .int (Int32.ofNat k), .int (Int32.ofNat j)] by simp only [List.map_cons, List.map_nil, sVal, sI_c]] at key
    exact key
  refine g_seg1 hFC (r := r) (by omega) (tX_ok hc) hcc sPa_nil (oX_cons (show r.1 (xP 34 q) = sI r (.var (Nat.add (nat_lit 819203) q)) by rw [sI_v]; exact hf.symm) oX_nil) (allL_ok (allL_ok (allL_ok (allL_ok q_whX c hc) q hq) k hk) j hj) (fun m0 pa m r1 h1 h2 h3 hk1 => ?_) (fun m0 v pa m r1 h1 => nomatch h1)
  have hv : sI r1 (.var (Nat.add (nat_lit 819203) q)) = Int32.ofNat (ocode o) := by
    rw [sI_v]
    exact ((hk1.2.2 (819203 + q) (by omega) (by omega)).1).trans (hf.trans hr)
  refine g_call1 (b := 0) (d1 := 19) (as := [.inr (.inr (some (nat_lit 14))), .inl (.natCast k), .inl (.var (Nat.add (nat_lit 819203) q))]) (st := []) (v0 := none) (E := fun r2 => ∀ j, j < dOf c → r2.1 (xP 23 j) = Int32.ofInt (cwT c (tG c k o) j) ∧ bdI (cwT c (tG c k o) j) = true) hFC (nx := 41) (mi := 84) ⟨_, _, rfl, rfl⟩ rfl rfl (gRecv_x (j := 14) (show 14 < 68 by omega) rfl rfl) rfl rfl ?_ (fun r2 hk2 hE2 => ?_)
  · rw [show List.map (sVal r1 al) [.inr (.inr (some (nat_lit 14))), .inl (.natCast k), .inl (.var (Nat.add (nat_lit 819203) q))] = [.ref (al 14), .int (Int32.ofNat k), .int (Int32.ofNat (ocode o))] by simp only [List.map_cons, List.map_nil, sVal, sI_c, hv]]
    exact (c_stX l (by omega) hc hk (kpX_cC hc hk1 hcc) ho).mono (fun v w h => by
      obtain ⟨h1, r2, h2, h3, h4⟩ := h
      exact ⟨r2, h2, h3, h1, h4⟩)
  refine g_segS hFC (r := r2) tXv_ok (cC_X _) sPa_nil oX_nil (allL_ok (allL_ok (allL_ok q_whXr q hq) k (by omega)) j (by omega)) (fun pc L st pa hk => nomatch hk) (fun v pa hk hp => ⟨?_, r2, kp_trans hk1 hk2, rfl⟩)
  rw [eqO_ok hk]
  show some (Value.long (sJ r2 (.pow (.neg (.var (94208 + j))) 21))) = _
  rw [sJ_i2l ((congrArg r2.1 (show 94208 + j = xP 23 j by unfold xP; omega)).trans (hE2 j hj).1)]
theorem c_whM (l : Launch) {c q k j : Nat} {r : sE} {o : List Nat} (hc : c < 18) (hq : q < 4) (hk : k < dOf c) (hj : j < dOf c) (hcc : cC 69 45 (tM c) r) (hnr : r.1 (mP 0 1) = Int32.ofNat (nOf c)) (ho : o ∈ ordN (nOf c)) (hr : ∀ i, i < 5 → r.1 (mP 6 (6 * q + 1) + i) = Int32.ofNat (o.getD i 0)) : gMet l D cy al 200 182 (tW r al cy rest 45 tMv) [.ref (al 0), .int (Int32.ofNat q), .int (Int32.ofNat k), .int (Int32.ofNat j)] (fun v w => v = some (.long (Int32.ofInt (cwT c (tG c k o) j)).toInt64) ∧ ∃ r1, kp 69 45 tMv r r1 ∧ w = tW r1 al cy rest 45 tMv) := by
  refine gMet_up (d := 20) (by omega) ?_
  have d6 := (cd_tab c hc).1.2
  have hE := allL_ok (allL_ok (allL_ok q_whE q hq) k (by omega)) j (by omega)
  rw [Bool.and_eq_true] at hE
  have key := gMet_of (l := l) (D := D) (cy := cy) (al := al) (d := 20) (k := 182) (w := tW r al cy rest 45 tMv) (r := r) (G := fun v w => v = some (.long (Int32.ofInt (cwT c (tG c k o) j)).toInt64) ∧ ∃ r1, kp 69 45 tMv r r1 ∧ w = tW r1 al cy rest 45 tMv) hE.2 (fun At hFC => ?_)
  · rw [show List.map (sVal r al) [.inr (.inr (some (nat_lit 0))), .inl (.natCast q), .inl (.natCast k), .inl (.natCast j)] = [.ref (al 0), .int (Int32.ofNat q), .int (Int32.ofNat k), .int (Int32.ofNat j)] by simp only [List.map_cons, List.map_nil, sVal, sI_c]] at key
    exact key
  refine g_seg1 hFC (r := r) (by omega) (tM_ok hc) hcc sPa_nil oM_nil (allL_ok (allL_ok (allL_ok (allL_ok q_whM c hc) q hq) k hk) j hj) (fun m0 pa m r1 h1 h2 h3 hk1 => ?_) (fun m0 v pa m r1 h1 => nomatch h1)
  have hh : hasO r1 13 o := fun i hi => by rw [h3, isReg_ok h1 i hi, hr i hi]
  refine g_call1 (b := 69) (d1 := 19) (as := [.inr (.inr (some (nat_lit 0))), .inr (.inr (some (nat_lit 13))), .inl (.natCast k)]) (st := []) (v0 := none) (E := fun r2 => ∀ j, j < dOf c → r2.1 (mP 24 j) = Int32.ofInt (cwT c (tG c k o) j)) hFC (nx := 41) (mi := 177) ⟨_, _, rfl, rfl⟩ rfl rfl (gRecv_t (by omega) rfl rfl) rfl rfl ?_ (fun r2 hk2 hE2 => ?_)
  · rw [show List.map (sVal r1 al) [.inr (.inr (some (nat_lit 0))), .inr (.inr (some (nat_lit 13))), .inl (.natCast k)] = [.ref (al 0), .ref (al 13), .int (Int32.ofNat k)] by simp only [List.map_cons, List.map_nil, sVal, sI_c]]
    exact (c_tw l (by omega) hc hk (kpM_cC hc hk1 hcc) (by rw [hk1.1 _ kpM_regs.1.1 kpM_regs.1.2]; exact hnr) ho hh).mono (fun v w h => by
      obtain ⟨h1, r2, h2, h3, h4⟩ := h
      exact ⟨r2, kp_St h2, h3, h1, h4⟩)
  refine g_segS hFC (r := r2) tMv_ok (cC_M _) sPa_nil oM_nil (allL_ok (allL_ok (allL_ok q_whMr q hq) k (by omega)) j (by omega)) (fun pc L st pa hk => nomatch hk) (fun v pa hk hp => ⟨?_, r2, kp_trans hk1 hk2, rfl⟩)
  rw [eqO_ok hk]
  show some (Value.long (sJ r2 (.pow (.neg (.var (380928 + j))) 21))) = _
  rw [sJ_i2l ((congrArg r2.1 (show 380928 + j = mP 24 j by unfold mP; omega)).trans (hE2 j hj))]
end WH
theorem kd_101 : (PG 101).2.2.2.2 = 3 := by decide +kernel
noncomputable def whN (c a0 : Nat) : Bool := qRun c (nat_lit 101) (nat_lit 182) [nat_lit 0, nat_lit 1] [nat_lit 0] (dP (nat_lit 819200) (nat_lit 0) (nat_lit 4) a0 []) [.inl (dA (nat_lit 819200) (nat_lit 0) (nat_lit 4) a0), .inl (.var (nat_lit 819201)), .inl (.var (nat_lit 819202))]
noncomputable def whN1 (c a0 a1 : Nat) : Bool := qRun c (nat_lit 101) (nat_lit 182) [nat_lit 0, nat_lit 1] [nat_lit 0] (dP (nat_lit 819200) (nat_lit 0) (nat_lit 4) a0 (dP (nat_lit 819201) (nat_lit 0) (dOf c) a1 [])) [.inl (dA (nat_lit 819200) (nat_lit 0) (nat_lit 4) a0), .inl (dA (nat_lit 819201) (nat_lit 0) (dOf c) a1), .inl (.var (nat_lit 819202))]
noncomputable def whN2 (c a0 a1 a2 : Nat) : Bool := qRun c (nat_lit 101) (nat_lit 182) [nat_lit 0, nat_lit 1] [nat_lit 0] (dP (nat_lit 819200) (nat_lit 0) (nat_lit 4) a0 (dP (nat_lit 819201) (nat_lit 0) (dOf c) a1 (dP (nat_lit 819202) (nat_lit 0) (dOf c) a2 []))) [.inl (dA (nat_lit 819200) (nat_lit 0) (nat_lit 4) a0), .inl (dA (nat_lit 819201) (nat_lit 0) (dOf c) a1), .inl (dA (nat_lit 819202) (nat_lit 0) (dOf c) a2)]
theorem q_whN : allL 18 (fun c => allL 2 (fun a0 => whN c a0)) = true := by decide +kernel
theorem q_whN1 : allL 18 (fun c => allL 4 (fun a0 => allL 2 (fun a1 => whN1 c (Nat.add a0 2) a1))) = true := by decide +kernel
theorem q_whN2 : allL 18 (fun c => allL 4 (fun a0 => allL (dOf c) (fun a1 => allL 2 (fun a2 => whN2 c (Nat.add a0 2) (Nat.add a1 2) a2)))) = true := by decide +kernel
theorem op_whole {l : Launch} {D : va_G} {cy : Nat → ClassId} {alX alM : Nat → Nat} : OpI l D cy alX alM 101 182 3 := by
  intro r as hI hlen
  obtain ⟨a0, a1, a2, rfl⟩ : ∃ a0 a1 a2, as = [a0, a1, a2] := by
    match as, hlen with
    | [a0, a1, a2], _ => exact ⟨a0, a1, a2, rfl⟩
  refine OpOk_uA [a0, a1, a2, r.1 (xP 34 0), r.1 (xP 34 1), r.1 (xP 34 2), r.1 (xP 34 3)] ?_
  have e0 : (uA r [a0, a1, a2, r.1 (xP 34 0), r.1 (xP 34 1), r.1 (xP 34 2), r.1 (xP 34 3)]).1 819200 = a0 := uA_a 0
  have e1 : (uA r [a0, a1, a2, r.1 (xP 34 0), r.1 (xP 34 1), r.1 (xP 34 2), r.1 (xP 34 3)]).1 819201 = a1 := uA_a 1
  have e2 : (uA r [a0, a1, a2, r.1 (xP 34 0), r.1 (xP 34 1), r.1 (xP 34 2), r.1 (xP 34 3)]).1 819202 = a2 := uA_a 2
  have f0 : (uA r [a0, a1, a2, r.1 (xP 34 0), r.1 (xP 34 1), r.1 (xP 34 2), r.1 (xP 34 3)]).1 819203 = (uA r [a0, a1, a2, r.1 (xP 34 0), r.1 (xP 34 1), r.1 (xP 34 2), r.1 (xP 34 3)]).1 (xP 34 0) := (uA_a 3).trans (uA_lo (by decide)).symm
  have f1 : (uA r [a0, a1, a2, r.1 (xP 34 0), r.1 (xP 34 1), r.1 (xP 34 2), r.1 (xP 34 3)]).1 819204 = (uA r [a0, a1, a2, r.1 (xP 34 0), r.1 (xP 34 1), r.1 (xP 34 2), r.1 (xP 34 3)]).1 (xP 34 1) := (uA_a 4).trans (uA_lo (by decide)).symm
  have f2 : (uA r [a0, a1, a2, r.1 (xP 34 0), r.1 (xP 34 1), r.1 (xP 34 2), r.1 (xP 34 3)]).1 819205 = (uA r [a0, a1, a2, r.1 (xP 34 0), r.1 (xP 34 1), r.1 (xP 34 2), r.1 (xP 34 3)]).1 (xP 34 2) := (uA_a 5).trans (uA_lo (by decide)).symm
  have f3 : (uA r [a0, a1, a2, r.1 (xP 34 0), r.1 (xP 34 1), r.1 (xP 34 2), r.1 (xP 34 3)]).1 819206 = (uA r [a0, a1, a2, r.1 (xP 34 0), r.1 (xP 34 1), r.1 (xP 34 2), r.1 (xP 34 3)]).1 (xP 34 3) := (uA_a 6).trans (uA_lo (by decide)).symm
  replace hI := Inv_uA (as := [a0, a1, a2, r.1 (xP 34 0), r.1 (xP 34 1), r.1 (xP 34 2), r.1 (xP 34 3)]) hI
  generalize uA r [a0, a1, a2, r.1 (xP 34 0), r.1 (xP 34 1), r.1 (xP 34 2), r.1 (xP 34 3)] = r at hI e0 e1 e2 f0 f1 f2 f3 ⊢
  obtain ⟨c0, hc0, hp0, hv0⟩ := dP_ok r 819200 (lo := 0) (n := 4) (Or.inr (by omega)) (by omega)
  rw [e0] at hv0
  obtain ⟨c, hc, hcc, hcm⟩ := id hI
  obtain ⟨⟨d1, d6⟩, n1, n5⟩ := cd_tab c hc
  obtain ⟨⟨-, hn1, -⟩, hn2, -⟩ := CC_nd hc hcc
  obtain ⟨c1, hc1, hp1, hv1⟩ := dP_ok r 819201 (lo := 0) (n := dOf c) (Or.inr (by omega)) (by omega)
  rw [e1] at hv1
  obtain ⟨c2, hc2, hp2, hv2⟩ := dP_ok r 819202 (lo := 0) (n := dOf c) (Or.inr (by omega)) (by omega)
  rw [e2] at hv2
  by_cases b0 : c0 < 2
  · exact qRun_ok (show whN c c0 = true from allL_ok (allL_ok q_whN c hc) c0 b0) hc hcc hcm (hp0 _ sPa_nil) (by simp only [List.map_cons, List.map_nil, sVal, hv0, sI_v, e1, e2]) (by simp only [List.map_cons, List.map_nil, sVal, hv0, sI_v, e1, e2])
  obtain ⟨q, rfl⟩ : ∃ k, c0 = k + 2 := ⟨c0 - 2, by omega⟩
  by_cases b1 : c1 < 2
  · exact qRun_ok (show whN1 c (q + 2) c1 = true from allL_ok (allL_ok (allL_ok q_whN1 c hc) q (by omega)) c1 b1) hc hcc hcm (hp0 _ (hp1 _ sPa_nil)) (by simp only [List.map_cons, List.map_nil, sVal, hv0, hv1, sI_v, e2]) (by simp only [List.map_cons, List.map_nil, sVal, hv0, hv1, sI_v, e2])
  obtain ⟨k, rfl⟩ : ∃ k, c1 = k + 2 := ⟨c1 - 2, by omega⟩
  by_cases b2 : c2 < 2
  · exact qRun_ok (show whN2 c (q + 2) (k + 2) c2 = true from allL_ok (allL_ok (allL_ok (allL_ok q_whN2 c hc) q (by omega)) k (by omega)) c2 b2) hc hcc hcm (hp0 _ (hp1 _ (hp2 _ sPa_nil))) (by simp only [List.map_cons, List.map_nil, sVal, hv0, hv1, hv2]) (by simp only [List.map_cons, List.map_nil, sVal, hv0, hv1, hv2])
  obtain ⟨j, rfl⟩ : ∃ k, c2 = k + 2 := ⟨c2 - 2, by omega⟩
  have g0 : a0 = Int32.ofNat q := by rw [← hv0, dA_c (by omega)]
  have g1 : a1 = Int32.ofNat k := by rw [← hv1, dA_c (by omega)]
  have g2 : a2 = Int32.ofNat j := by rw [← hv2, dA_c (by omega)]
  subst g0 g1 g2
  have hq4 : q < 4 := by omega
  obtain ⟨o, ho, hx, hm⟩ := (Comp_R hq4).mp (hcm q (by omega))
  have hf : r.1 (819203 + q) = r.1 (xP 34 q) := by
    match q, hq4 with
    | 0, _ => exact f0
    | 1, _ => exact f1
    | 2, _ => exact f2
    | 3, _ => exact f3
  exact OpOk_V (V := some (.long (Int32.ofInt (cwT c (tG c k o) j)).toInt64)) hI (fun rest => c_whX l hc hq4 (by omega) (by omega) hcc.1 ho hx hf) (fun rest => c_whM l hc hq4 (by omega) (by omega) hcc.2 hn2 ho hm) (Or.inr ⟨kd_101, _, rfl⟩)
