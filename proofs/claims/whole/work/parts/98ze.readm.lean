/-! 98ze: read: both passes, model (by wip/whole/mk98ze.py) -/
noncomputable def LAl (w : Nat) : sL := [some (.inr (.inr (some (nat_lit 0)))), some (.inl (.natCast w))]
theorem q_alE : allL 2 (fun w => sEnt [.inr (.inr (some (nat_lit 0))), .inl (.natCast w)] (PG (nat_lit 221)).2.1 (fun L => eqL eqO L (LAl w))) = true := by decide +kernel
theorem q_al0 : allL 2 (fun w => sBeg (nat_lit 69) (nat_lit 45) tMv (memB [(nat_lit 0)]) [] (fun m0 => sx PG (nat_lit 2000) (nat_lit 6) (PG (nat_lit 221)) (fun pc => memB [(nat_lit 22)] pc) (fun pc L st _ m => Bool.and (sKC (cRg [((nat_lit 282666), (nat_lit 282666)), ((nat_lit 282669), (nat_lit 282670)), ((nat_lit 282674), (nat_lit 282674))]) (nat_lit 69) (nat_lit 45) tMv (memB [(nat_lit 0)]) m0 m) (Bool.and (kAt (nat_lit 22) (LAl w) [.inl (.natCast (nat_lit 0)), .inr (.inr (some (nat_lit 0)))] pc L st) (Bool.and (isE m (nat_lit 0) (nat_lit 50) (.natCast w)) (Bool.and (isE m (nat_lit 0) (nat_lit 42) (.natCast (nat_lit 0))) (Bool.and (isE m (nat_lit 0) (nat_lit 45) (.natCast (nat_lit 0))) (isE m (nat_lit 0) (nat_lit 46) (.natCast (nat_lit 0)))))))) (fun v _ m => Bool.and (sKC (cRg [((nat_lit 282666), (nat_lit 282666)), ((nat_lit 282669), (nat_lit 282670)), ((nat_lit 282674), (nat_lit 282674))]) (nat_lit 69) (nat_lit 45) tMv (memB [(nat_lit 0)]) m0 m) false) (nat_lit 0) (LAl w) [] [] m0)) = true := by decide +kernel
theorem q_al25 : allL 2 (fun w => sx PG (nat_lit 20) (nat_lit 6) (PG (nat_lit 221)) (fun _ => false) (fun _ _ _ _ _ => false) (fun v0 _ m => Bool.and (eqL eqC m []) (eqO v0 (some (.inl (.natCast (nat_lit 0)))))) (nat_lit 25) (LAl w) [.inl (.natCast (nat_lit 0))] [] []) = true := by decide +kernel
theorem q_al48 : allL 2 (fun w => sx PG (nat_lit 20) (nat_lit 6) (PG (nat_lit 221)) (fun _ => false) (fun _ _ _ _ _ => false) (fun v0 _ m => Bool.and (eqL eqC m []) (eqO v0 (some (.inl (.natCast (nat_lit 0)))))) (nat_lit 48) (LAl w) [.inl (.natCast (nat_lit 0))] [] []) = true := by decide +kernel
theorem q_alT : allL 2 (fun w => sBeg (nat_lit 69) (nat_lit 45) tMv (memB [(nat_lit 0)]) [] (fun m0 => sx PG (nat_lit 500) (nat_lit 6) (PG (nat_lit 221)) (fun pc => memB [(nat_lit 45)] pc) (fun pc L st _ m => Bool.and (eqL eqC m m0) false) (fun v _ m => Bool.and (eqL eqC m m0) (eqO v (some (.inl (.natCast (nat_lit 1)))))) (nat_lit 25) (LAl w) [.inl (.natCast (nat_lit 1))] [(true, true, (.var (nat_lit 282666)), (.var (nat_lit 282665)))] m0)) = true := by decide +kernel
theorem q_alF : allL 2 (fun w => sBeg (nat_lit 69) (nat_lit 45) tMv (memB [(nat_lit 0)]) [] (fun m0 => sx PG (nat_lit 500) (nat_lit 6) (PG (nat_lit 221)) (fun pc => memB [(nat_lit 45)] pc) (fun pc L st _ m => Bool.and (eqL eqC m m0) (kAt (nat_lit 45) (LAl w) [.inl (.var (nat_lit 282666)), .inl (.natCast (nat_lit 1)), .inr (.inr (some (nat_lit 0)))] pc L st)) (fun v _ m => Bool.and (eqL eqC m m0) false) (nat_lit 25) (LAl w) [.inl (.natCast (nat_lit 1))] [(true, false, (.var (nat_lit 282666)), (.var (nat_lit 282665)))] m0)) = true := by decide +kernel
noncomputable def LRm (a : Nat) (x y : Option sV) : sL := [some (.inr (.inr (some (nat_lit 0)))), some (.inl (dA (nat_lit 819200) (nat_lit 0) (nat_lit 4) a)), x, y]
theorem q_rmE : allL 6 (fun a => sEnt [.inr (.inr (some (nat_lit 0))), .inl (dA (nat_lit 819200) (nat_lit 0) (nat_lit 4) a)] (PG (nat_lit 222)).2.1 (fun L => eqL eqO L (LRm a none none))) = true := by decide +kernel
theorem q_rm0 : allL 6 (fun a => Bool.rec (motive := fun _ => Bool) (sBeg (nat_lit 69) (nat_lit 45) tMv (memB [(nat_lit 0)]) [] (fun m0 => sx PG (nat_lit 500) (nat_lit 172) (PG (nat_lit 222)) (fun pc => memB [(nat_lit 11)] pc) (fun pc L st _ m => Bool.and (eqL eqC m m0) false) (fun v _ m => Bool.and (eqL eqC m m0) (eqO v (some (.inl (.natCast (nat_lit 4294967295)))))) (nat_lit 0) (LRm a none none) [] (dP (nat_lit 819200) (nat_lit 0) (nat_lit 4) a []) m0)) (sBeg (nat_lit 69) (nat_lit 45) tMv (memB [(nat_lit 0)]) [] (fun m0 => sx PG (nat_lit 500) (nat_lit 172) (PG (nat_lit 222)) (fun pc => memB [(nat_lit 11)] pc) (fun pc L st _ m => Bool.and (eqL eqC m m0) (kAt (nat_lit 11) (LRm a none none) [.inl (.natCast (nat_lit 0)), .inr (.inr (some (nat_lit 0)))] pc L st)) (fun v _ m => Bool.and (eqL eqC m m0) false) (nat_lit 0) (LRm a none none) [] (dP (nat_lit 819200) (nat_lit 0) (nat_lit 4) a []) m0)) (Nat.ble (nat_lit 2) a)) = true := by decide +kernel
theorem q_rmA : allL 4 (fun q => allL 81 (fun k => sBeg (nat_lit 69) (nat_lit 45) tMv (memB [(nat_lit 0), (nat_lit 37)]) [((nat_lit 0), (nat_lit 49), (.natCast (Nat.succ k)))] (fun m0 => sx PG (nat_lit 2000) (nat_lit 172) (PG (nat_lit 222)) (fun pc => memB [(nat_lit 41)] pc) (fun pc L st _ m => Bool.and (sKC (cRg [((nat_lit 282665), (nat_lit 282665))]) (nat_lit 69) (nat_lit 45) tMv (memB [(nat_lit 0), (nat_lit 37)]) m0 m) false) (fun v _ m => Bool.and (sKC (cRg [((nat_lit 282665), (nat_lit 282665))]) (nat_lit 69) (nat_lit 45) tMv (memB [(nat_lit 0), (nat_lit 37)]) m0 m) (Bool.and (eqO v (some (.inl (.pow (.mul (.natCast (nat_lit 4294967196)) (.var (Nat.add (nat_lit 434176) k))) (nat_lit 1))))) (isE m (nat_lit 0) (nat_lit 41) (.natCast (nat_lit 0))))) (nat_lit 14) (LRm (Nat.add (nat_lit 2) q) none none) [.inl (.natCast (nat_lit 0))] [] m0))) = true := by decide +kernel
theorem q_rmB : allL 4 (fun q => sx PG (nat_lit 20) (nat_lit 172) (PG (nat_lit 222)) (fun pc => Nat.beq pc (nat_lit 41)) (fun pc L st _ m => Bool.and (eqL eqC m []) (kAt (nat_lit 41) (LRm (Nat.add (nat_lit 2) q) (some (.inl (.natCast (nat_lit 1)))) none) [.inl (.natCast (nat_lit 1)), .inr (.inr (some (nat_lit 0)))] pc L st)) (fun _ _ m => Bool.and (eqL eqC m []) false) (nat_lit 14) (LRm (Nat.add (nat_lit 2) q) none none) [.inl (.natCast (nat_lit 1))] [] []) = true := by decide +kernel
theorem q_rmC : allL 4 (fun q => sBeg (nat_lit 69) (nat_lit 45) tMv (memB [(nat_lit 0)]) [] (fun m0 => sx PG (nat_lit 2000) (nat_lit 172) (PG (nat_lit 222)) (fun pc => memB [(nat_lit 84)] pc) (fun pc L st _ m => Bool.and (sKC (cRg [((nat_lit 282665), (nat_lit 282665))]) (nat_lit 69) (nat_lit 45) tMv (memB [(nat_lit 0)]) m0 m) false) (fun v _ m => Bool.and (sKC (cRg [((nat_lit 282665), (nat_lit 282665))]) (nat_lit 69) (nat_lit 45) tMv (memB [(nat_lit 0)]) m0 m) (Bool.and (eqO v (some (.inl (.natCast (nat_lit 4294967294))))) (isE m (nat_lit 0) (nat_lit 41) (.natCast (nat_lit 0))))) (nat_lit 44) (LRm (Nat.add (nat_lit 2) q) (some (.inl (.natCast (nat_lit 1)))) none) [.inl (.natCast (nat_lit 0))] [] m0)) = true := by decide +kernel
theorem q_rmD : allL 4 (fun q => sBeg (nat_lit 69) (nat_lit 45) tMv (memB [(nat_lit 0), (nat_lit 14), (nat_lit 38)]) [] (fun m0 => sx PG (nat_lit 2000) (nat_lit 172) (PG (nat_lit 222)) (fun pc => memB [(nat_lit 84)] pc) (fun pc L st _ m => Bool.and (sKC (cRg [((nat_lit 282665), (nat_lit 282665)), ((nat_lit 339969), (nat_lit 339973))]) (nat_lit 69) (nat_lit 45) tMv (memB [(nat_lit 0), (nat_lit 14), (nat_lit 38)]) m0 m) (Bool.and (kAt (nat_lit 84) (LRm (Nat.add (nat_lit 2) q) (some (.inl (.natCast (nat_lit 1)))) (some (.inl (.natCast (nat_lit 6))))) [.inl (.natCast q), .inr (.inr (some (nat_lit 0)))] pc L st) (Bool.and (isE m (nat_lit 0) (nat_lit 41) (.natCast (nat_lit 0))) (allL 5 (fun i => isE m (nat_lit 14) (Nat.succ i) (.var (Nat.add (nat_lit 438273) i))))))) (fun v _ m => Bool.and (sKC (cRg [((nat_lit 282665), (nat_lit 282665)), ((nat_lit 339969), (nat_lit 339973))]) (nat_lit 69) (nat_lit 45) tMv (memB [(nat_lit 0), (nat_lit 14), (nat_lit 38)]) m0 m) false) (nat_lit 44) (LRm (Nat.add (nat_lit 2) q) (some (.inl (.natCast (nat_lit 1)))) none) [.inl (.natCast (nat_lit 1))] [] m0)) = true := by decide +kernel
theorem q_rmR : allL 4 (fun q => allL 11 (fun n => sx PG 10 172 (PG 222) (fun _ => false) (fun _ _ _ _ _ => false) (fun v _ m => Bool.and (eqL eqC m []) (eqO v (some (.inl (.natCast n))))) 87 (LRm (Nat.add (nat_lit 2) q) (some (.inl (.natCast (nat_lit 1)))) (some (.inl (.natCast (nat_lit 6))))) [.inl (.natCast n)] [] [])) = true := by decide +kernel
/-- what reading changes: well; and where it is refused -/
def CHA : List (Nat × Nat) := [(282666, 282666), (282669, 282670), (348160, 348165), (360448, 360453), (421888, 426073), (438272, 442373), (282674, 282674), (282665, 282665), (339968, 339973)]
def CHQ : List (Nat × Nat) := [(282666, 282666), (282669, 282670), (348160, 348165), (360448, 360453), (421888, 426073), (438272, 442373), (282674, 282674), (282665, 282665), (339968, 339973), (282673, 282673), (430080, 434265)]
theorem CHA_Q {r r1 : sE} (h : kpC (cRg CHA) 69 45 tMv r r1) : kpC (cRg CHQ) 69 45 tMv r r1 := chR_w (fun x hx => ⟨x, by simp only [CHA, List.mem_cons, List.not_mem_nil, or_false] at hx; rcases hx with rfl | rfl | rfl | rfl | rfl | rfl | rfl | rfl | rfl <;> simp [CHQ], Nat.le_refl _, Nat.le_refl _⟩) h
theorem CHS_A {r r1 : sE} (h : kpC (cRg CHS) 69 45 tMv r r1) : kpC (cRg CHA) 69 45 tMv r r1 := chR_w (fun x hx => ⟨x, by simp only [CHS, List.mem_cons, List.not_mem_nil, or_false] at hx; rcases hx with rfl | rfl | rfl | rfl | rfl | rfl <;> simp [CHA], Nat.le_refl _, Nat.le_refl _⟩) h
theorem CHF_Q {r r1 : sE} (h : kpC (cRg CHF) 69 45 tMv r r1) : kpC (cRg CHQ) 69 45 tMv r r1 := chR_w (fun x hx => ⟨x, by simp only [CHF, List.mem_cons, List.not_mem_nil, or_false] at hx; rcases hx with rfl | rfl | rfl | rfl | rfl | rfl | rfl | rfl <;> simp [CHQ], Nat.le_refl _, Nat.le_refl _⟩) h
/-- the text on the tape -/
def TXt (n z : Nat) (B : Nat → Nat) (r : sE) : Prop := r.1 (mP 0 1) = Int32.ofNat n ∧ r.1 (mP 0 41) = Int32.ofNat z ∧ ∀ i, i < z → r.1 (mP 33 i) = Int32.ofNat (B i)
section RA
variable {D : va_G} {cy : Nat → ClassId} {al : Nat → Nat} {rest : va_W}
theorem LAl_eq {r : sE} {w : Nat} {vs : List Int32} : (LAl w).map (Option.map (sVal (uM r vs) al)) = [some (.ref (al 0)), some (.int (Int32.ofNat w))] := by
  simp only [LAl, List.map_cons, List.map_nil, Option.map_some, sVal, sI_c]
theorem c_alM (l : Launch) {r : sE} {n z w d : Nat} {B : Nat → Nat} (hd : 171 ≤ d) (hn : 1 ≤ n) (hn5 : n ≤ 5) (hz : z ≤ 80) (hw : w < 2) (hB : ∀ i, i < z → B i < 127) (hT : TXt n z B r) (hW5 : W5 r 0) (hL5 : L5 r) : gMet l D cy al d 221 (tW r al cy rest 45 tMv) [.ref (al 0), .int (Int32.ofNat w)] (fun (v : Option Value) (w2 : va_W) => ∃ r1, w2 = tW r1 al cy rest 45 tMv ∧ ((v = some (.int (Int32.ofNat 1)) ∧ kpC (cRg CHA) 69 45 tMv r r1 ∧ TXt n z B r1 ∧ W5 r1 0 ∧ L5 r1 ∧ ∃ σ o, txGo n B tx00 0 σ z ∧ σ.1 = 3 ∧ σ.2.2.1 = [o] ∧ (w = 1 → σ.2.2.2.2.2 = none ∧ o ∈ ordN n ∧ ∀ i, i < 5 → r1.1 (mP 38 0 + (i + 1)) = Int32.ofNat (nthO o i))) ∨ (v = some (.int (Int32.ofNat 0)) ∧ kpC (cRg CHQ) 69 45 tMv r r1 ∧ txBd n z w B tx00 0 r1))) := by
  refine gMet_up hd ?_
  have key := gMet_ofL (l := l) (D := D) (cy := cy) (al := al) (d := 171) (k := 221) (w := tW r al cy rest 45 tMv) (r := uM r []) (G := (fun (v : Option Value) (w2 : va_W) => ∃ r1, w2 = tW r1 al cy rest 45 tMv ∧ ((v = some (.int (Int32.ofNat 1)) ∧ kpC (cRg CHA) 69 45 tMv r r1 ∧ TXt n z B r1 ∧ W5 r1 0 ∧ L5 r1 ∧ ∃ σ o, txGo n B tx00 0 σ z ∧ σ.1 = 3 ∧ σ.2.2.1 = [o] ∧ (w = 1 → σ.2.2.2.2.2 = none ∧ o ∈ ordN n ∧ ∀ i, i < 5 → r1.1 (mP 38 0 + (i + 1)) = Int32.ofNat (nthO o i))) ∨ (v = some (.int (Int32.ofNat 0)) ∧ kpC (cRg CHQ) 69 45 tMv r r1 ∧ txBd n z w B tx00 0 r1)))) (allL_ok q_alE w hw) (fun At hFCd hLD => ?_)
  · simp only [List.map_cons, List.map_nil, sVal, sI_c] at key
    exact key
  have hFC := hFCd 6 (by omega)
  have g := g_segU hFC (r := r) (vs := []) (al := al) (cy := cy) (rest := rest) (by omega) tMv_ok cC_M sPa_nil oM_nil (allL_ok q_al0 w hw) (fun m0 pc L st pa m9 hk2 hp2 hkp0 => ?_) (fun m0 v pa m9 hk2 => nomatch hk2)
  · exact g
  simp only [Bool.and_eq_true] at hk2
  obtain ⟨k0, k1, k2, k3, k4⟩ := hk2
  obtain ⟨rfl, rfl, rfl⟩ := kAt_ok k0
  have hkp : kpC (cRg [(282666, 282666), (282669, 282670), (282674, 282674)]) 69 45 tMv r _ := hkp0
  have e1 := eU_c (b := 69) (r := r) (vs := []) (by first | decide | omega) k1
  have e2 := eU_c (b := 69) (r := r) (vs := []) (by first | decide | omega) k2
  have e3 := eU_c (b := 69) (r := r) (vs := []) (by first | decide | omega) k3
  have e4 := eU_c (b := 69) (r := r) (vs := []) (by first | decide | omega) k4
  generalize eOf 69 (uM r []) m9 = r2 at hkp e1 e2 e3 e4
  rw [LAl_eq]
  simp only [List.map_cons, List.map_nil, sVal, sI_c]
  have hkA : kpC (cRg CHA) 69 45 tMv r r2 := cRg_w hkp ⟨⟨282666, 282666, by simp [CHA], by omega, by omega⟩, ⟨282669, 282670, by simp [CHA], by omega, by omega⟩, ⟨282674, 282674, by simp [CHA], by omega, by omega⟩, trivial⟩
  have hS2 : MSt n z w B r2 0 [] 0 0 := ⟨⟨(kpR hkp (vM_0 1 (by simp)) ⟨by first | omega | (unfold mP; omega), by first | omega | (unfold mP; omega), by first | omega | (unfold mP; omega), trivial⟩).trans hT.1, (kpR hkp (vM_0 41 (by simp)) ⟨by first | omega | (unfold mP; omega), by first | omega | (unfold mP; omega), by first | omega | (unfold mP; omega), trivial⟩).trans hT.2.1, e1, fun i hi => (kpR hkp (vM_r.1 i (by omega)) ⟨by first | omega | (unfold mP; omega), by first | omega | (unfold mP; omega), by first | omega | (unfold mP; omega), trivial⟩).trans (hT.2.2 i hi)⟩, e2, ⟨e3, trivial⟩, e4, W5_st hkp (fun i hi => ⟨by first | omega | (unfold mP; omega), by first | omega | (unfold mP; omega), by first | omega | (unfold mP; omega), trivial⟩) hW5, L5_st hkp (fun i hi => ⟨by first | omega | (unfold mP; omega), by first | omega | (unfold mP; omega), by first | omega | (unfold mP; omega), trivial⟩) hL5⟩
  have hFN := hFCd 171 (Nat.le_refl _)
  refine hFN.2 22 25 220 170 _ [.ref (al 0), .int (Int32.ofNat 0)] [] _ _ ⟨_, _, rfl, rfl⟩ rfl (by decide) rfl (gRecv_t (by omega) rfl rfl) (gMet_up (by omega) ((all_of (D := D) (cy := cy) (al := al) (rest := rest) l hn hn5 hz hw hB z).2 0 0 0 r2 [] [] [] none (by omega) (by omega) (Nat.le_refl _) rfl (by omega) trivial hS2 (fun _ => rfl))) (fun v1 w2 h => ?_)
  obtain ⟨r3, rfl, h⟩ := h
  rcases h with ⟨rfl, hk3, q, o, s1, f1, W1, h1, h2, h3, h42, h5, h6, -⟩ | ⟨rfl, hk3, hbd⟩
  case inr =>
    have g := g_ret (v := some (.int (Int32.ofNat 0))) hFC (r := uM r []) (w := tW r3 al cy rest 45 tMv) (allL_ok q_al25 w hw) (fun v0 h0 => vI_ok h0) ⟨r3, rfl, Or.inr ⟨rfl, kpC_trans (CHA_Q hkA) (CHF_Q hk3), hbd⟩⟩
    rw [LAl_eq] at g
    simp only [List.map_cons, List.map_nil, sVal, sI_c] at g
    exact g
  obtain ⟨y1, y2, y3, y4, y5, y6⟩ := h6
  have hkA3 : kpC (cRg CHA) 69 45 tMv r r3 := kpC_trans hkA (CHS_A hk3)
  have hTX : TXt n z B r3 := ⟨y1.1, y1.2.1, y1.2.2.2⟩
  have heq : sI (uM r3 []) (.var (nat_lit 282666)) = sI (uM r3 []) (.var (nat_lit 282665)) ↔ q = z := by
    rw [uMv (by decide), uMv (by decide), show r3.1 282666 = Int32.ofNat q from y2, show r3.1 282665 = Int32.ofNat z from y1.2.1]
    exact ⟨fun h => n32_inj (by omega) (by omega) h, fun h => by rw [h]⟩
  by_cases hqz : q = z
  · subst hqz
    have g := g_segV hFC (r := r3) (vs := []) (al := al) (cy := cy) (rest := rest) (by omega) tMv_ok cC_M (sPa_cons.mpr ⟨(sKd_t (e := true)).mpr (heq.mpr rfl), sPa_nil⟩) oM_nil (allL_ok q_alT w hw) (fun pc L st pa hk1 => nomatch hk1) (fun v pa hk1 hp1 => ?_)
    · rw [LAl_eq] at g
      simp only [List.map_cons, List.map_nil, sVal, sI_c] at g
      exact g
    exact ⟨r3, rfl, Or.inl ⟨vI_ok hk1, hkA3, hTX, W5_mono (by omega) y5, y6, _, o, h3, rfl, rfl, fun h => ⟨(h5 h).1, (h5 h).2.1, fun i hi => by
      have := (h5 h).2.2 i hi
      rw [show 6 * 0 + (i + 1) = i + 1 by omega] at this
      exact this⟩⟩⟩
  · have g := g_segV hFC (r := r3) (vs := []) (al := al) (cy := cy) (rest := rest) (by omega) tMv_ok cC_M (sPa_cons.mpr ⟨(sKd_f (e := true)).mpr (fun h => hqz (heq.mp h)), sPa_nil⟩) oM_nil (allL_ok q_alF w hw) (fun pc L st pa hk1 hp1 => ?_) (fun v pa hk1 => nomatch hk1)
    · rw [LAl_eq] at g
      simp only [List.map_cons, List.map_nil, sVal, sI_c] at g
      exact g
    obtain ⟨rfl, rfl, rfl⟩ := kAt_ok hk1
    rw [LAl_eq]
    simp only [List.map_cons, List.map_nil, sVal, sI_c]
    rw [show sI (uM r3 []) (.var (nat_lit 282666)) = Int32.ofNat q by rw [uMv (by decide)]; exact y2]
    refine hFC.2 45 48 215 5 _ [.ref (al 0), .int (Int32.ofNat 1), .int (Int32.ofNat q)] [] _ _ ⟨_, _, rfl, rfl⟩ rfl (by decide) rfl (gRecv_t (by omega) rfl rfl) (c_flM (O := []) l (by omega) (by decide) y3) (fun v1 w2 h => ?_)
    obtain ⟨rfl, r4, k1, k2, k3, rfl⟩ := h
    have hqz2 : q < z := by omega
    have hb : txB z B q = B q := if_pos hqz2
    rw [hb] at h42
    have g := g_ret (v := some (.int (Int32.ofNat 0))) hFC (r := uM r []) (w := tW r4 al cy rest 45 tMv) (allL_ok q_al48 w hw) (fun v0 h0 => vI_ok h0) ⟨r4, rfl, Or.inr ⟨rfl, kpC_trans (CHA_Q hkA3) (CHF_Q k1), W5_kf k3 y5, L5_kf k3 y6, q, _, h3, h2, (by show (0 : Nat) ≤ 80; omega), Or.inl ⟨⟨h2, Or.inr ⟨hqz2, ?_⟩, fun h => hqz h.1⟩, k2⟩⟩⟩
    · rw [LAl_eq] at g
      simp only [List.map_cons, List.map_nil, sVal, sI_c] at g
      exact g
    · show tx3 _ (B q) = none
      unfold tx3
      rw [if_neg h42]
      split
      · exact if_neg (by show ¬ 2 ≤ 1; omega)
      · rfl
/-- what the class found -/
def outA (n z : Nat) (B : Nat → Nat) (q : Nat) (T : txT) : Prop := ∃ σ, txGo n B tx00 0 σ q ∧ txBad n B z σ q ∧ σ.2.1.length ≤ 80 ∧ T = (1, q) :: σ.2.1
def outB (n z : Nat) (B : Nat → Nat) (m : List Nat) : Prop := m ∈ ordN n ∧ ∃ σ, txGo n B tx00 0 σ z ∧ σ.1 = 3 ∧ σ.2.2.1 = [m] ∧ σ.2.2.2.2.2 = none
def outC (n z : Nat) (B : Nat → Nat) (T : txT) : Prop := T.length ≤ 81 ∧ ∃ σ m, txGo n B tx00 0 σ z ∧ σ.1 = 3 ∧ σ.2.2.1 = [m] ∧ σ.2.2.2.2.2 = some T
theorem LRm_eq {r : sE} {q : Nat} {x y : Option sV} : (LRm (Nat.add (nat_lit 2) q) x y).map (Option.map (sVal (uM r []) al)) = [some (.ref (al 0)), some (.int (sI (uM r []) (dA 819200 0 4 (Nat.add 2 q)))), x.map (sVal (uM r []) al), y.map (sVal (uM r []) al)] := by
  simp only [LRm, List.map_cons, List.map_nil, Option.map_some, sVal]
end RA
