/-! 98zd: read: a PART, the whole text, model (by wip/whole/mk98zd.py) -/
section RQ
variable {D : va_G} {cy : Nat → ClassId} {al : Nat → Nat} {rest : va_W}
theorem wkN {k : Nat} {At : gAt} (hLD : gLD k At) {pc : Nat} {LV : List (Option Value)} (hl : LV.length = 5) {r : sE} {SV : List Value} {w : va_W} (h : At pc (LPn.map (Option.map (sVal r al))) SV w) : At pc LV SV w := by
  match LV, hl with
  | [a, b, c, d, e], _ => exact wkA hLD h
theorem cbI {M : List (List Nat)} {O : txT} : txF O M txI = txF O M txI := rfl
theorem part_of (l : Launch) {n z w N : Nat} {B : Nat → Nat} (hn : 1 ≤ n) (hn5 : n ≤ 5) (hz : z ≤ 80) (hw : w < 2) (hB : ∀ i, i < z → B i < 127) (hPt : ∀ N1, N1 < N → partP l D cy al rest n z w B N1) (hTx : ∀ N1, N1 < N → textP l D cy al rest n z w B N1) : partP l D cy al rest n z w B N := by
  intro p dep f r O M s W hN hp hO hM hdep hS hW
  have key := gMet_ofL (l := l) (D := D) (cy := cy) (al := al) (d := 2 * N + 8) (k := 218) (w := tW r al cy rest 45 tMv) (r := uM r [Int32.ofNat dep]) (G := (fun (v : Option Value) (w2 : va_W) => ∃ r1, w2 = tW r1 al cy rest 45 tMv ∧ ((v = some (.int (Int32.ofNat 1)) ∧ kpC (cRg CHS) 69 45 tMv r r1 ∧ ∃ q o s1 f1 W1, p < q ∧ q ≤ z ∧ txGo n B (0, O, M, s, f, W) p (txF O M o s1 f1 W1) q ∧ (w = 1 → W1 = none) ∧ PRt n w r1 o ∧ MSt n z w B r1 q O dep (dep + 1) ∧ ∀ u, u < 6 * (dep + 1) → r1.1 (mP 38 0 + u) = r.1 (mP 38 0 + u)) ∨ (v = some (.int (Int32.ofNat 0)) ∧ kpC (cRg CHF) 69 45 tMv r r1 ∧ txBd n z w B (0, O, M, s, f, W) p r1)))) q_ptE (fun At hFCd hLD => ?_)
  · simp only [List.map_cons, List.map_nil, sVal, uM0] at key
    exact key
  have hFC := hFCd 6 (by omega)
  obtain ⟨t1, t2, t3, t4, t5, t6⟩ := id hS
  -- it fails
  have fail : ∀ (pc nx t q : Nat) (r2 : sE) (O2 : txT) (LV : List (Option Value)), (pc = 65 ∧ nx = 68) ∨ (pc = 100 ∧ nx = 103) ∨ (pc = 233 ∧ nx = 236) ∨ (pc = 290 ∧ nx = 293) → LV.length = 5 → kpC (cRg CHS) 69 45 tMv r r2 → MOp r2 O2 → (∃ kk, W5 r2 kk) → L5 r2 → O2.length < 81 → (∀ r3, WHM r3 ((t, q) :: O2) → W5 r3 0 → L5 r3 → txBd n z w B (0, O, M, s, f, W) p r3) → At pc LV [.int (Int32.ofNat q), .int (Int32.ofNat t), .ref (al 0)] (tW r2 al cy rest 45 tMv) := fun pc nx t q r2 O2 LV hpc hLV hkp hO2 hw5 hl5 hl2 hbd => by
    obtain ⟨kk, hw5⟩ := hw5
    have hrow : gRow 218 pc nx 215 := by
      rcases hpc with ⟨rfl, rfl⟩ | ⟨rfl, rfl⟩ | ⟨rfl, rfl⟩ | ⟨rfl, rfl⟩
      · exact ⟨_, _, rfl, rfl⟩
      · exact ⟨_, _, rfl, rfl⟩
      · exact ⟨_, _, rfl, rfl⟩
      · exact ⟨_, _, rfl, rfl⟩
    refine hFC.2 pc nx 215 5 _ [.ref (al 0), .int (Int32.ofNat t), .int (Int32.ofNat q)] [] _ _ hrow rfl (by decide) rfl (gRecv_t (by omega) rfl rfl) (c_flM l (by omega) hl2 hO2) (fun v1 w2 h => ?_)
    obtain ⟨rfl, r3, k1, k2, k3, rfl⟩ := h
    have hG : (fun (v : Option Value) (w2 : va_W) => ∃ r1, w2 = tW r1 al cy rest 45 tMv ∧ ((v = some (.int (Int32.ofNat 1)) ∧ kpC (cRg CHS) 69 45 tMv r r1 ∧ ∃ q o s1 f1 W1, p < q ∧ q ≤ z ∧ txGo n B (0, O, M, s, f, W) p (txF O M o s1 f1 W1) q ∧ (w = 1 → W1 = none) ∧ PRt n w r1 o ∧ MSt n z w B r1 q O dep (dep + 1) ∧ ∀ u, u < 6 * (dep + 1) → r1.1 (mP 38 0 + u) = r.1 (mP 38 0 + u)) ∨ (v = some (.int (Int32.ofNat 0)) ∧ kpC (cRg CHF) 69 45 tMv r r1 ∧ txBd n z w B (0, O, M, s, f, W) p r1))) (some (.int (Int32.ofNat 0))) (tW r3 al cy rest 45 tMv) := ⟨r3, rfl, Or.inr ⟨rfl, kpC_trans (CHS_F hkp) k1, hbd r3 k2 (W5_kf k3 hw5) (L5_kf k3 hl5)⟩⟩
    have fin : ∀ {nx : Nat}, sx PG (nat_lit 20) (nat_lit 6) (PG (nat_lit 218)) (fun _ => false) (fun _ _ _ _ _ => false) (fun v0 _ m => Bool.and (eqL eqC m []) (eqO v0 (some (.inl (.natCast (nat_lit 0)))))) nx LPn [.inl (.natCast (nat_lit 0))] [] [] = true → At nx LV [.int (Int32.ofNat 0)] (tW r3 al cy rest 45 tMv) := fun {nx} hq => by
      refine wkN (al := al) hLD hLV (r := uM r []) ?_
      have g := g_ret (v := some (.int (Int32.ofNat 0))) hFC (r := uM r []) (w := tW r3 al cy rest 45 tMv) hq (fun v0 h0 => vI_ok h0) hG
      rw [show List.map (sVal (uM r []) al) [.inl (.natCast (nat_lit 0))] = [Value.int (Int32.ofNat 0)] by simp only [List.map_cons, List.map_nil, sVal, sI_c]] at g
      exact g
    rcases hpc with ⟨-, rfl⟩ | ⟨-, rfl⟩ | ⟨-, rfl⟩ | ⟨-, rfl⟩
    · exact fin q_pr68
    · exact fin q_pr103
    · exact fin q_pr236
    · exact fin q_pr293
  have ret0 : ∀ {nx : Nat} (r3 : sE) (LV : List (Option Value)), sx PG (nat_lit 20) (nat_lit 6) (PG (nat_lit 218)) (fun _ => false) (fun _ _ _ _ _ => false) (fun v0 _ m => Bool.and (eqL eqC m []) (eqO v0 (some (.inl (.natCast (nat_lit 0)))))) nx LPn [.inl (.natCast (nat_lit 0))] [] [] = true → LV.length = 5 → kpC (cRg CHF) 69 45 tMv r r3 → txBd n z w B (0, O, M, s, f, W) p r3 → At nx LV [.int (Int32.ofNat 0)] (tW r3 al cy rest 45 tMv) := fun {nx} r3 LV hq hLV hk hbd => by
    refine wkN (al := al) hLD hLV (r := uM r []) ?_
    have g := g_ret (v := some (.int (Int32.ofNat 0))) hFC (r := uM r []) (w := tW r3 al cy rest 45 tMv) hq (fun v0 h0 => vI_ok h0) ⟨r3, rfl, Or.inr ⟨rfl, hk, hbd⟩⟩
    rw [show List.map (sVal (uM r []) al) [.inl (.natCast (nat_lit 0))] = [Value.int (Int32.ofNat 0)] by simp only [List.map_cons, List.map_nil, sVal, sI_c]] at g
    exact g
  -- what is stuck where no byte fits
  have stuck : ∀ (σ : txS) (q : Nat), txGo n B (0, O, M, s, f, W) p σ q → q ≤ z → σ.2.1.length ≤ 80 → (q < z → txD n σ (B q) q = none) → ¬ (σ.1 = 3 ∧ σ.2.2.1.length = 1) → ∀ r3, WHM r3 ((1, q) :: σ.2.1) → W5 r3 0 → L5 r3 → txBd n z w B (0, O, M, s, f, W) p r3 := fun σ q hg hq hl hD hno r3 h3 g5 g6 => ⟨g5, g6, q, σ, hg, hq, hl, Or.inl ⟨⟨hq, by
    by_cases h : q = z
    · exact Or.inl h
    · exact Or.inr ⟨by omega, hD (by omega)⟩, fun h => hno h.2⟩, h3⟩⟩
  have g := g_pure hFC (r := uM r [Int32.ofNat dep]) (al := al) (w := tW r al cy rest 45 tMv) sPa_nil q_pt0 (fun pc L st hk => ?_) (fun v hk => nomatch hk)
  · exact g
  obtain ⟨rfl, rfl, rfl⟩ := kAt_ok hk
  refine hFC.2 1 4 213 5 _ [.ref (al 0)] [] _ _ ⟨_, _, rfl, rfl⟩ rfl (by decide) rfl (gRecv_t (by omega) rfl rfl) (c_here l (by omega) hz hp t1 t2) (fun v1 w2 h => ?_)
  obtain ⟨rfl, rfl⟩ := h
  generalize hc : txB z B p = c
  have hc7 : c < 127 := by rw [← hc]; exact txB_lt hB
  have hpc : c ≠ 0 → p < z ∧ B p = c := fun h0 => by
    by_cases h : p < z
    · refine ⟨h, ?_⟩
      unfold txB at hc
      rw [if_pos h] at hc
      exact hc
    · unfold txB at hc
      rw [if_neg h] at hc
      omega
  have eP : ∀ (m : sM), isE m 0 42 (.pow (.mul (.var (nat_lit 282666)) (.natCast (nat_lit 1))) (nat_lit 0)) = true → (eOf 69 (uM r [Int32.ofNat dep]) m).1 (mP 0 42) = Int32.ofNat (p + 1) := fun m h => (isE_ok (b := 69) (r := uM r [Int32.ofNat dep]) (by first | decide | omega) h).trans (sI_add1 t2 (by decide))
  have hat : r.1 282666 = Int32.ofNat p := t2
  by_cases h101 : c = 101
  · subst h101
    obtain ⟨hpz, hbp⟩ := hpc (by decide)
    have g := g_segU hFC (r := r) (vs := [Int32.ofNat dep]) (al := al) (cy := cy) (rest := rest) (by omega) tMv_ok cC_M sPa_nil oM_nil q_pte (fun m0 pc L st pa m9 hk2 => nomatch hk2) (fun m0 v pa m9 hk2 hp2 hkp0 => ?_)
    · simp only [List.map_cons, List.map_nil, sVal, sI_c] at g
      exact g
    simp only [Bool.and_eq_true] at hk2
    obtain ⟨k1, k2, k3⟩ := hk2
    have hkp : kpC (cRg [(282666, 282666), (442369, 442373)]) 69 45 tMv r _ := hkp0
    have e1 := eP m9 k2
    have e2 : ∀ i, i < 5 → (eOf 69 (uM r [Int32.ofNat dep]) m9).1 (mP 39 1 + i) = Int32.ofNat (nthO txI i) := fun i hi => by
      rw [txI_get hi, show mP 39 1 + i = 4096 * (69 + 39) + Nat.succ i by unfold mP; omega]
      exact eU_c (by first | decide | omega) (allL_ok k3 i hi)
    generalize eOf 69 (uM r [Int32.ofNat dep]) m9 = r2 at hkp e1 e2
    exact ⟨r2, rfl, Or.inl ⟨vI_ok k1, cRg_w hkp ⟨⟨282666, 282666, by simp [CHS], by omega, by omega⟩, ⟨438272, 442373, by simp [CHS], by omega, by omega⟩, trivial⟩, p + 1, txI, s, f, W, by omega, by omega, txGo_one (by rw [hbp]; rfl), hW, le5_id hn hn5 (txI_in hn hn5) e2, ⟨TMr_st hz hkp ⟨by first | omega | (unfold mP; omega), by first | omega | (unfold mP; omega), trivial⟩ ⟨by first | omega | (unfold mP; omega), by first | omega | (unfold mP; omega), trivial⟩ ⟨by first | omega | (unfold mP; omega), by first | omega | (unfold mP; omega), trivial⟩ (fun i hi => ⟨by first | omega | (unfold mP; omega), by first | omega | (unfold mP; omega), trivial⟩) t1, e1, MOp_st hkp (by omega) ⟨by first | omega | (unfold mP; omega), by first | omega | (unfold mP; omega), trivial⟩ (fun i hi => ⟨⟨by first | omega | (unfold mP; omega), by first | omega | (unfold mP; omega), trivial⟩, ⟨by first | omega | (unfold mP; omega), by first | omega | (unfold mP; omega), trivial⟩⟩) t3, (kpR hkp (vM_0 46 (by simp)) ⟨by first | omega | (unfold mP; omega), by first | omega | (unfold mP; omega), trivial⟩).trans t4, W5_st hkp (fun i hi => ⟨by first | omega | (unfold mP; omega), by first | omega | (unfold mP; omega), trivial⟩) t5, L5_st hkp (fun i hi => ⟨by first | omega | (unfold mP; omega), by first | omega | (unfold mP; omega), trivial⟩) t6⟩, fun u hu => wt_st hkp (by omega) ⟨by first | omega | (unfold mP; omega), by first | omega | (unfold mP; omega), trivial⟩⟩⟩
  by_cases h115 : c = 115
  · subst h115
    obtain ⟨hpz, hbp⟩ := hpc (by decide)
    have hD0 : txD n (0, O, M, s, f, W) (B p) p = some (1, O, M, s, f, W) := by rw [hbp]; rfl
    have g := g_segU hFC (r := r) (vs := [Int32.ofNat dep]) (al := al) (cy := cy) (rest := rest) (by omega) tMv_ok cC_M sPa_nil oM_nil q_pts (fun m0 pc L st pa m9 hk2 hp2 hkp0 => ?_) (fun m0 v pa m9 hk2 => nomatch hk2)
    · simp only [List.map_cons, List.map_nil, sVal, sI_c] at g
      exact g
    rw [Bool.and_eq_true] at hk2
    obtain ⟨rfl, rfl, rfl⟩ := kAt_ok hk2.1
    have hkp : kpC (cRg [(282666, 282666)]) 69 45 tMv r _ := hkp0
    have e1 := eP m9 hk2.2
    generalize eOf 69 (uM r [Int32.ofNat dep]) m9 = r2 at hkp e1
    rw [LPp_eq, hat]
    have hk2' : kpC (cRg CHS) 69 45 tMv r r2 := cRg_w hkp ⟨⟨282666, 282666, by simp [CHS], by omega, by omega⟩, trivial⟩
    have u : MSt n z w B r2 (p + 1) O dep (dep + 1) := ⟨TMr_st hz hkp ⟨by first | omega | (unfold mP; omega), trivial⟩ ⟨by first | omega | (unfold mP; omega), trivial⟩ ⟨by first | omega | (unfold mP; omega), trivial⟩ (fun i hi => ⟨by first | omega | (unfold mP; omega), trivial⟩) t1, e1, MOp_st hkp (by omega) ⟨by first | omega | (unfold mP; omega), trivial⟩ (fun i hi => ⟨⟨by first | omega | (unfold mP; omega), trivial⟩, ⟨by first | omega | (unfold mP; omega), trivial⟩⟩) t3, (kpR hkp (vM_0 46 (by simp)) ⟨by first | omega | (unfold mP; omega), trivial⟩).trans t4, W5_st hkp (fun i hi => ⟨by first | omega | (unfold mP; omega), trivial⟩) t5, L5_st hkp (fun i hi => ⟨by first | omega | (unfold mP; omega), trivial⟩) t6⟩
    obtain ⟨u1, u2, u3, u4, u5, u6⟩ := id u
    have lq : ∀ (r3 : sE) (x : List Int32), (LPq 115).map (Option.map (sVal (uM r3 (Int32.ofNat dep :: Int32.ofNat p :: x)) al)) = [some (.ref (al 0)), some (.int (Int32.ofNat dep)), some (.int (Int32.ofNat 115)), some (.int (Int32.ofNat p)), none] := fun r3 x => LPq_eq
    have sat : sI (uM r2 [Int32.ofNat dep, Int32.ofNat p]) (.var (nat_lit 282666)) = Int32.ofNat (p + 1) := by rw [uMv (by decide)]; exact u2
    refine hFC.2 53 56 216 5 _ [.ref (al 0)] [] _ _ ⟨_, _, rfl, rfl⟩ rfl (by decide) rfl (gRecv_t (by omega) rfl rfl) (c_fig l (by omega) hz (show p + 1 ≤ z by omega) hB u1 u2) (fun v1 w2 h => ?_)
    obtain ⟨rfl, rfl⟩ := h
    rcases isF_ok (c := txB z B (p + 1)) with ⟨hF, hfig⟩ | ⟨hF, hfig⟩
    · rw [hF]
      have hq2 : p + 1 < z := by
        by_cases h : p + 1 < z
        · exact h
        · unfold txB at hfig
          rw [if_neg h] at hfig
          omega
      have hb : txB z B (p + 1) = B (p + 1) := if_pos hq2
      rw [hb] at hfig
      have g := g_pure hFC (r := uM r2 [Int32.ofNat dep, Int32.ofNat p]) (al := al) (w := tW r2 al cy rest 45 tMv) sPa_nil q_ps1 (fun pc L st hk => ?_) (fun v hk => nomatch hk)
      · rw [lq] at g
        simp only [List.map_cons, List.map_nil, sVal, sI_c] at g
        exact g
      obtain ⟨rfl, rfl, rfl⟩ := kAt_ok hk
      rw [lq]
      refine hFC.2 70 73 213 5 _ [.ref (al 0)] [] _ _ ⟨_, _, rfl, rfl⟩ rfl (by decide) rfl (gRecv_t (by omega) rfl rfl) (c_here l (by omega) hz (show p + 1 ≤ z by omega) u1 u2) (fun v1 w2 h => ?_)
      obtain ⟨rfl, rfl⟩ := h
      rw [hb]
      obtain ⟨v, hv⟩ : ∃ v, B (p + 1) = 49 + v := ⟨B (p + 1) - 49, by omega⟩
      have hv5 : v < 5 := by omega
      have hv1 : B (p + 1) - 48 = v + 1 := by omega
      rw [hv]
      -- the swap is taken
      have done : ∀ (m9 : sM) (o : List Nat) (W1 : Option txT), kpC (cRg [(282666, 282666), (442369, 442373)]) 69 45 tMv r2 (eOf 69 (uM r2 [Int32.ofNat dep, Int32.ofNat p]) m9) → isE m9 0 42 (.pow (.mul (.var (nat_lit 282666)) (.natCast (nat_lit 1))) (nat_lit 0)) = true → PRt n w (eOf 69 (uM r2 [Int32.ofNat dep, Int32.ofNat p]) m9) o → txD n (1, O, M, s, f, W) (B (p + 1)) (p + 1) = some (txF O M o s f W1) → (w = 1 → W1 = none) → (fun (v : Option Value) (w2 : va_W) => ∃ r1, w2 = tW r1 al cy rest 45 tMv ∧ ((v = some (.int (Int32.ofNat 1)) ∧ kpC (cRg CHS) 69 45 tMv r r1 ∧ ∃ q o s1 f1 W1, p < q ∧ q ≤ z ∧ txGo n B (0, O, M, s, f, W) p (txF O M o s1 f1 W1) q ∧ (w = 1 → W1 = none) ∧ PRt n w r1 o ∧ MSt n z w B r1 q O dep (dep + 1) ∧ ∀ u, u < 6 * (dep + 1) → r1.1 (mP 38 0 + u) = r.1 (mP 38 0 + u)) ∨ (v = some (.int (Int32.ofNat 0)) ∧ kpC (cRg CHF) 69 45 tMv r r1 ∧ txBd n z w B (0, O, M, s, f, W) p r1))) (some (.int (Int32.ofNat 1))) (tW (eOf 69 (uM r2 [Int32.ofNat dep, Int32.ofNat p]) m9) al cy rest 45 tMv) := fun m9 o W1 hk3 ha hpr hD hw1 => by
        have e3 := (isE_ok (b := 69) (r := uM r2 [Int32.ofNat dep, Int32.ofNat p]) (by first | decide | omega) ha).trans (sI_add1 u2 (by decide))
        generalize eOf 69 (uM r2 [Int32.ofNat dep, Int32.ofNat p]) m9 = r3 at hk3 e3 hpr
        exact ⟨r3, rfl, Or.inl ⟨rfl, kpC_trans hk2' (cRg_w hk3 ⟨⟨282666, 282666, by simp [CHS], by omega, by omega⟩, ⟨438272, 442373, by simp [CHS], by omega, by omega⟩, trivial⟩), p + 1 + 1, o, s, f, W1, by omega, by omega, txGo_trans (txGo_one hD0) (txGo_one hD), hw1, hpr, ⟨TMr_st hz hk3 ⟨by first | omega | (unfold mP; omega), by first | omega | (unfold mP; omega), trivial⟩ ⟨by first | omega | (unfold mP; omega), by first | omega | (unfold mP; omega), trivial⟩ ⟨by first | omega | (unfold mP; omega), by first | omega | (unfold mP; omega), trivial⟩ (fun i hi => ⟨by first | omega | (unfold mP; omega), by first | omega | (unfold mP; omega), trivial⟩) u1, e3, MOp_st hk3 (by omega) ⟨by first | omega | (unfold mP; omega), by first | omega | (unfold mP; omega), trivial⟩ (fun i hi => ⟨⟨by first | omega | (unfold mP; omega), by first | omega | (unfold mP; omega), trivial⟩, ⟨by first | omega | (unfold mP; omega), by first | omega | (unfold mP; omega), trivial⟩⟩) u3, (kpR hk3 (vM_0 46 (by simp)) ⟨by first | omega | (unfold mP; omega), by first | omega | (unfold mP; omega), trivial⟩).trans u4, W5_st hk3 (fun i hi => ⟨by first | omega | (unfold mP; omega), by first | omega | (unfold mP; omega), trivial⟩) u5, L5_st hk3 (fun i hi => ⟨by first | omega | (unfold mP; omega), by first | omega | (unfold mP; omega), trivial⟩) u6⟩, fun x hx => (wt_st hk3 (by omega) ⟨by first | omega | (unfold mP; omega), by first | omega | (unfold mP; omega), trivial⟩).trans (wt_st hkp (by omega) ⟨by first | omega | (unfold mP; omega), trivial⟩)⟩⟩
      rcases (show w = 0 ∨ w = 1 by omega) with rfl | rfl
      · have g := g_segU hFC (r := r2) (vs := [Int32.ofNat dep, Int32.ofNat p]) (al := al) (cy := cy) (rest := rest) (by omega) tMv_ok cC_M sPa_nil (oM_cons (uMc (by decide) u1.2.2.1) oM_nil) (allL_ok q_psJ v hv5) (fun m0 pc L st pa m9 hk2 => nomatch hk2) (fun m0 v9 pa m9 hk2 hp2 hkp1 => ?_)
        · rw [lq] at g
          simp only [List.map_cons, List.map_nil, sVal, sI_c] at g
          exact g
        simp only [Bool.and_eq_true] at hk2
        obtain ⟨k1, k2, k3⟩ := hk2
        rw [vI_ok k1]
        have hpr : ∀ o : List Nat, PRt n 0 (eOf 69 (uM r2 [Int32.ofNat dep, Int32.ofNat p]) m9) o := fun o => le5_jk rfl (fun i hi => le5_of (k := i + 1) (by omega) (by
          rw [show mP 39 1 + i = 4096 * (69 + 39) + Nat.succ i by unfold mP; omega]
          exact eU_c (by first | decide | omega) (allL_ok k3 i hi)))
        by_cases hk : v + 1 < n
        · refine done m9 (nbO (v + 1)) W hkp1 k2 (hpr _) ?_ (fun h => nomatch h)
          show tx1 n _ (B (p + 1)) (p + 1) = _
          unfold tx1
          rw [if_pos hfig, hv1, if_pos hk]
        · refine done m9 txI (txW W O (p + 1)) hkp1 k2 (hpr _) ?_ (fun h => nomatch h)
          show tx1 n _ (B (p + 1)) (p + 1) = _
          unfold tx1
          rw [if_pos hfig, hv1, if_neg hk]
      · have hqW := allL_ok (allL_ok q_psW n (by omega)) v hv5
        by_cases hk : v + 1 < n
        · rw [Nat.ble_eq_true_of_le (show v + 1 + 1 ≤ n by omega)] at hqW
          have g := g_segU hFC (r := r2) (vs := [Int32.ofNat dep, Int32.ofNat p]) (al := al) (cy := cy) (rest := rest) (by omega) tMv_ok cC_M sPa_nil (oM_cons (uMc (by decide) u1.2.2.1) (oM_cons (uMc (by decide) u1.1) oM_nil)) (show psG n v = true from hqW) (fun m0 pc L st pa m9 hk2 => nomatch hk2) (fun m0 v9 pa m9 hk2 hp2 hkp1 => ?_)
          · rw [lq] at g
            simp only [List.map_cons, List.map_nil, sVal, sI_c] at g
            exact g
          simp only [Bool.and_eq_true] at hk2
          obtain ⟨k1, k2, k3⟩ := hk2
          rw [vI_ok k1]
          refine done m9 (nbO (v + 1)) W hkp1 k2 (le5_id hn hn5 (txN_in hn5 (by omega) hk) (fun i hi => ?_)) ?_ hW
          · rw [show mP 39 1 + i = 4096 * (69 + 39) + Nat.succ i by unfold mP; omega]
            exact eU_c (by first | decide | omega) (allL_ok k3 i hi)
          · show tx1 n _ (B (p + 1)) (p + 1) = _
            unfold tx1
            rw [if_pos hfig, hv1, if_pos hk]
        · rw [show Nat.ble (Nat.succ (Nat.succ v)) n = false from Bool.eq_false_iff.mpr (fun h => by have h2 : v + 1 + 1 ≤ n := Nat.le_of_ble_eq_true h; omega)] at hqW
          have g := g_segV hFC (r := r2) (vs := [Int32.ofNat dep, Int32.ofNat p]) (al := al) (cy := cy) (rest := rest) (by omega) tMv_ok cC_M sPa_nil (oM_cons (uMc (by decide) u1.2.2.1) (oM_cons (uMc (by decide) u1.1) oM_nil)) (show psB n v = true from hqW) (fun pc L st pa hk1 hp1 => ?_) (fun v pa hk1 => nomatch hk1)
          · rw [lq] at g
            simp only [List.map_cons, List.map_nil, sVal, sI_c] at g
            exact g
          obtain ⟨rfl, rfl, rfl⟩ := kAt_ok hk1
          simp only [List.map_cons, List.map_nil, sVal, sI_c, sat]
          obtain rfl := hW rfl
          refine fail 100 103 4 (p + 1) r2 O _ (Or.inr (Or.inl ⟨rfl, rfl⟩)) (by simp) hk2' u3 ⟨_, u5⟩ u6 (by omega) (fun r3 h3 g5 g6 => ⟨g5, g6, p + 1, _, txGo_one hD0, by omega, (by show O.length ≤ 80; omega), Or.inr ⟨rfl, hq2, rfl, txF O M txI s f (txW none O (p + 1)), ?_, rfl, h3⟩⟩)
          show tx1 n _ (B (p + 1)) (p + 1) = _
          unfold tx1
          rw [if_pos hfig, hv1, if_neg hk]
    · rw [hF]
      have g := g_segV hFC (r := r2) (vs := [Int32.ofNat dep, Int32.ofNat p]) (al := al) (cy := cy) (rest := rest) (by omega) tMv_ok cC_M sPa_nil oM_nil q_ps0 (fun pc L st pa hk1 hp1 => ?_) (fun v pa hk1 => nomatch hk1)
      · rw [lq] at g
        simp only [List.map_cons, List.map_nil, sVal, sI_c] at g
        exact g
      obtain ⟨rfl, rfl, rfl⟩ := kAt_ok hk1
      rw [lq]
      simp only [List.map_cons, List.map_nil, sVal, sI_c, sat]
      refine fail 65 68 1 (p + 1) r2 O _ (Or.inl ⟨rfl, rfl⟩) (by simp) hk2' u3 ⟨_, u5⟩ u6 (by omega) (stuck (1, O, M, s, f, W) (p + 1) (txGo_one hD0) (by omega) (by show O.length ≤ 80; omega) (fun h => ?_) (fun h => neQ (a := 1) (b := 3) rfl h.1))
      have hb : txB z B (p + 1) = B (p + 1) := if_pos h
      rw [hb] at hfig
      show tx1 n _ (B (p + 1)) (p + 1) = none
      unfold tx1
      rw [if_neg hfig]
  by_cases h40 : c = 40
  · subst h40
    obtain ⟨hpz, hbp⟩ := hpc (by decide)
    have hD0 : txD n (0, O, M, s, f, W) (B p) p = some (2, O, M, [], 0, W) := by rw [hbp]; rfl
    have g := g_segU hFC (r := r) (vs := [Int32.ofNat dep]) (al := al) (cy := cy) (rest := rest) (by omega) tMv_ok cC_M sPa_nil oM_nil q_ptc (fun m0 pc L st pa m9 hk2 hp2 hkp0 => ?_) (fun m0 v pa m9 hk2 => nomatch hk2)
    · simp only [List.map_cons, List.map_nil, sVal, sI_c] at g
      exact g
    rw [Bool.and_eq_true] at hk2
    obtain ⟨rfl, rfl, rfl⟩ := kAt_ok hk2.1
    have hkp : kpC (cRg [(282666, 282666)]) 69 45 tMv r _ := hkp0
    have e1 := eP m9 hk2.2
    generalize eOf 69 (uM r [Int32.ofNat dep]) m9 = r2 at hkp e1
    rw [LPp_eq, hat]
    have hk2' : kpC (cRg CHS) 69 45 tMv r r2 := cRg_w hkp ⟨⟨282666, 282666, by simp [CHS], by omega, by omega⟩, trivial⟩
    have u : MSt n z w B r2 (p + 1) O dep (dep + 1) := ⟨TMr_st hz hkp ⟨by first | omega | (unfold mP; omega), trivial⟩ ⟨by first | omega | (unfold mP; omega), trivial⟩ ⟨by first | omega | (unfold mP; omega), trivial⟩ (fun i hi => ⟨by first | omega | (unfold mP; omega), trivial⟩) t1, e1, MOp_st hkp (by omega) ⟨by first | omega | (unfold mP; omega), trivial⟩ (fun i hi => ⟨⟨by first | omega | (unfold mP; omega), trivial⟩, ⟨by first | omega | (unfold mP; omega), trivial⟩⟩) t3, (kpR hkp (vM_0 46 (by simp)) ⟨by first | omega | (unfold mP; omega), trivial⟩).trans t4, W5_st hkp (fun i hi => ⟨by first | omega | (unfold mP; omega), trivial⟩) t5, L5_st hkp (fun i hi => ⟨by first | omega | (unfold mP; omega), trivial⟩) t6⟩
    have hFC7 := hFCd 7 (by omega)
    refine hFC7.2 161 164 217 6 _ [.ref (al 0)] [] _ _ ⟨_, _, rfl, rfl⟩ rfl (by decide) rfl (gRecv_t (by omega) rfl rfl) (c_cyM (M := M) (W := W) l (by omega) hn hn5 hz hw hB (show p + 1 ≤ z by omega) (by omega) u hW) (fun v1 w2 h => ?_)
    obtain ⟨r3, rfl, h⟩ := h
    rcases h with ⟨rfl, hk3, q, o1, s1, f1, W1, h1, h2, h3, h4, h5, h6⟩ | ⟨rfl, hk3, hbd⟩
    · have hG : (fun (v : Option Value) (w2 : va_W) => ∃ r1, w2 = tW r1 al cy rest 45 tMv ∧ ((v = some (.int (Int32.ofNat 1)) ∧ kpC (cRg CHS) 69 45 tMv r r1 ∧ ∃ q o s1 f1 W1, p < q ∧ q ≤ z ∧ txGo n B (0, O, M, s, f, W) p (txF O M o s1 f1 W1) q ∧ (w = 1 → W1 = none) ∧ PRt n w r1 o ∧ MSt n z w B r1 q O dep (dep + 1) ∧ ∀ u, u < 6 * (dep + 1) → r1.1 (mP 38 0 + u) = r.1 (mP 38 0 + u)) ∨ (v = some (.int (Int32.ofNat 0)) ∧ kpC (cRg CHF) 69 45 tMv r r1 ∧ txBd n z w B (0, O, M, s, f, W) p r1))) (some (.int (Int32.ofNat 1))) (tW r3 al cy rest 45 tMv) := ⟨r3, rfl, Or.inl ⟨rfl, kpC_trans hk2' (cRg_w hk3 ⟨⟨282666, 282666, by simp [CHS], by omega, by omega⟩, ⟨348160, 348165, by simp [CHS], by omega, by omega⟩, ⟨438272, 442373, by simp [CHS], by omega, by omega⟩, trivial⟩), q, o1, s1, f1, W1, by omega, h2, txGo_trans (txGo_one hD0) h3, h4, h5, h6, fun x hx => (wt_st hk3 (by omega) ⟨by first | omega | (unfold mP; omega), by first | omega | (unfold mP; omega), by first | omega | (unfold mP; omega), trivial⟩).trans (wt_st hkp (by omega) ⟨by first | omega | (unfold mP; omega), trivial⟩)⟩⟩
      refine wkN (al := al) hLD (by simp) (r := uM r []) ?_
      have g := g_ret (v := some (.int (Int32.ofNat 1))) hFC (r := uM r []) (w := tW r3 al cy rest 45 tMv) q_pr164b (fun v0 h0 => vI_ok h0) hG
      rw [show List.map (sVal (uM r []) al) [.inl (.natCast (nat_lit 1))] = [Value.int (Int32.ofNat 1)] by simp only [List.map_cons, List.map_nil, sVal, sI_c]] at g
      exact g
    · exact ret0 r3 _ q_pr164 (by simp) (kpC_trans (CHS_F hk2') hk3) (txBd_pre (txGo_one hD0) hbd)
  by_cases h126 : c = 126
  · subst h126
    obtain ⟨hpz, hbp⟩ := hpc (by decide)
    have hD0 : txD n (0, O, M, s, f, W) (B p) p = some (0, (3, p) :: O, M, s, f, W) := by rw [hbp]; rfl
    have g := g_segU hFC (r := r) (vs := [Int32.ofNat dep]) (al := al) (cy := cy) (rest := rest) (by omega) tMv_ok cC_M sPa_nil oM_nil q_ptt (fun m0 pc L st pa m9 hk2 hp2 hkp0 => ?_) (fun m0 v pa m9 hk2 => nomatch hk2)
    · simp only [List.map_cons, List.map_nil, sVal, sI_c] at g
      exact g
    rw [Bool.and_eq_true] at hk2
    obtain ⟨rfl, rfl, rfl⟩ := kAt_ok hk2.1
    have hkp : kpC (cRg [(282666, 282666)]) 69 45 tMv r _ := hkp0
    have e1 := eP m9 hk2.2
    generalize eOf 69 (uM r [Int32.ofNat dep]) m9 = r2 at hkp e1
    rw [LPp_eq, hat]
    have hst0 : List.map (sVal (uM r [Int32.ofNat dep]) al) [.inl (.var (nat_lit 282666)), .inl (.natCast (nat_lit 3)), .inr (.inr (some (nat_lit 0)))] = ([.ref (al 0), .int (Int32.ofNat 3), .int (Int32.ofNat p)] : List Value).reverse ++ [] := by
      simp only [List.map_cons, List.map_nil, sVal, sI_c]
      rw [uMv (by decide), hat]
      rfl
    rw [hst0]
    have hk2' : kpC (cRg CHS) 69 45 tMv r r2 := cRg_w hkp ⟨⟨282666, 282666, by simp [CHS], by omega, by omega⟩, trivial⟩
    have u : MSt n z w B r2 (p + 1) O dep (dep + 1) := ⟨TMr_st hz hkp ⟨by first | omega | (unfold mP; omega), trivial⟩ ⟨by first | omega | (unfold mP; omega), trivial⟩ ⟨by first | omega | (unfold mP; omega), trivial⟩ (fun i hi => ⟨by first | omega | (unfold mP; omega), trivial⟩) t1, e1, MOp_st hkp (by omega) ⟨by first | omega | (unfold mP; omega), trivial⟩ (fun i hi => ⟨⟨by first | omega | (unfold mP; omega), trivial⟩, ⟨by first | omega | (unfold mP; omega), trivial⟩⟩) t3, (kpR hkp (vM_0 46 (by simp)) ⟨by first | omega | (unfold mP; omega), trivial⟩).trans t4, W5_st hkp (fun i hi => ⟨by first | omega | (unfold mP; omega), trivial⟩) t5, L5_st hkp (fun i hi => ⟨by first | omega | (unfold mP; omega), trivial⟩) t6⟩
    have lq : ∀ (r3 : sE) (x : List Int32), (LPq 126).map (Option.map (sVal (uM r3 (Int32.ofNat dep :: Int32.ofNat p :: x)) al)) = [some (.ref (al 0)), some (.int (Int32.ofNat dep)), some (.int (Int32.ofNat 126)), some (.int (Int32.ofNat p)), none] := fun r3 x => LPq_eq
    refine hFC.2 184 187 214 5 _ _ _ _ _ ⟨_, _, rfl, rfl⟩ rfl (by decide) rfl (gRecv_t (by omega) rfl rfl) (c_opM l (by omega) (by omega) u.2.2.1) (fun v1 w2 h => ?_)
    obtain ⟨rfl, r3, hk3, hO3, rfl⟩ := h
    have u3 : MSt n z w B r3 (p + 1) ((3, p) :: O) dep (dep + 1) := ⟨TMr_st hz hk3 ⟨by first | omega | (unfold mP; omega), by first | omega | (unfold mP; omega), trivial⟩ ⟨by first | omega | (unfold mP; omega), by first | omega | (unfold mP; omega), trivial⟩ ⟨by first | omega | (unfold mP; omega), by first | omega | (unfold mP; omega), trivial⟩ (fun i hi => ⟨by first | omega | (unfold mP; omega), by first | omega | (unfold mP; omega), trivial⟩) u.1, (kpR hk3 (vM_0 42 (by simp)) ⟨by first | omega | (unfold mP; omega), by first | omega | (unfold mP; omega), trivial⟩).trans u.2.1, hO3, (kpR hk3 (vM_0 46 (by simp)) ⟨by first | omega | (unfold mP; omega), by first | omega | (unfold mP; omega), trivial⟩).trans u.2.2.2.1, W5_st hk3 (fun i hi => ⟨by first | omega | (unfold mP; omega), by first | omega | (unfold mP; omega), trivial⟩) u.2.2.2.2.1, L5_st hk3 (fun i hi => ⟨by first | omega | (unfold mP; omega), by first | omega | (unfold mP; omega), trivial⟩) u.2.2.2.2.2⟩
    have hk3' : kpC (cRg CHS) 69 45 tMv r r3 := kpC_trans hk2' (cRg_w hk3 ⟨⟨282669, 282670, by simp [CHS], by omega, by omega⟩, ⟨421888, 426073, by simp [CHS], by omega, by omega⟩, trivial⟩)
    have hw3 : ∀ x, x < 24 → r3.1 (mP 38 0 + x) = r.1 (mP 38 0 + x) := fun x hx => (wt_st hk3 hx ⟨by first | omega | (unfold mP; omega), by first | omega | (unfold mP; omega), trivial⟩).trans (wt_st hkp hx ⟨by first | omega | (unfold mP; omega), trivial⟩)
    have g := g_pure hFC (r := uM r3 [Int32.ofNat dep, Int32.ofNat p]) (al := al) (w := tW r3 al cy rest 45 tMv) sPa_nil q_pt187 (fun pc L st hk => ?_) (fun v hk => nomatch hk)
    · rw [lq] at g
      exact g
    obtain ⟨rfl, rfl, rfl⟩ := kAt_ok hk
    rw [lq]
    have hst1 : List.map (sVal (uM r3 [Int32.ofNat dep, Int32.ofNat p]) al) [.inl (.var (nat_lit 819290)), .inr (.inr (some (nat_lit 0)))] = ([.ref (al 0), .int (Int32.ofNat dep)] : List Value).reverse ++ [] := by
      simp only [List.map_cons, List.map_nil, sVal, uM0]
      rfl
    rw [hst1]
    obtain ⟨N1, rfl⟩ : ∃ N1, N = N1 + 1 := ⟨N - 1, by omega⟩
    have hFN := hFCd (2 * N1 + 9) (by omega)
    refine hFN.2 189 192 218 (2 * N1 + 8) _ _ _ _ _ ⟨_, _, rfl, rfl⟩ rfl (by decide) rfl (gRecv_t (by omega) rfl rfl) (hPt N1 (by omega) (p + 1) dep f r3 ((3, p) :: O) M s W (by omega) (by omega) (by show O.length + 1 ≤ p + 1; omega) hM hdep u3 hW) (fun v1 w2 h => ?_)
    obtain ⟨r4, rfl, h⟩ := h
    rcases h with ⟨rfl, hk4, q, o1, s1, f1, W1, h1, h2, h3, h4, h5, h6, h7⟩ | ⟨rfl, hk4, hbd⟩
    · obtain ⟨y1, y2, y3, y4, y5, y6⟩ := h6
      have g := g_segU hFC (r := r4) (vs := [Int32.ofNat dep, Int32.ofNat p]) (al := al) (cy := cy) (rest := rest) (by omega) tMv_ok cC_M sPa_nil oM_nil q_pt192 (fun m0 pc L st pa m9 hk2 hp2 hkp0 => ?_) (fun m0 v pa m9 hk2 => nomatch hk2)
      · rw [lq] at g
        simp only [List.map_cons, List.map_nil, sVal, sI_c] at g
        exact g
      rw [Bool.and_eq_true] at hk2
      obtain ⟨rfl, rfl, rfl⟩ := kAt_ok hk2.1
      have hk5 : kpC (cRg [(282669, 282669)]) 69 45 tMv r4 _ := hkp0
      have e5 := (isE_ok (b := 69) (r := uM r4 [Int32.ofNat dep, Int32.ofNat p]) (by first | decide | omega) hk2.2).trans (sI_sub1 (k := O.length) y3.1 (by decide))
      generalize eOf 69 (uM r4 [Int32.ofNat dep, Int32.ofNat p]) m9 = r5 at hk5 e5
      rw [lq]
      have z6 : L5 r5 := L5_st hk5 (fun i hi => ⟨by first | omega | (unfold mP; omega), trivial⟩) y6
      have zP : PRt n w r5 o1 := PRt_st hk5 (fun i hi => ⟨by first | omega | (unfold mP; omega), trivial⟩) h5
      refine hFC.2 208 211 219 5 _ [.ref (al 0)] [] _ _ ⟨_, _, rfl, rfl⟩ rfl (by decide) rfl (gRecv_t (by omega) rfl rfl) (c_tnM l (by omega) hn hn5 zP z6) (fun v1 w2 h => ?_)
      obtain ⟨rfl, r6, hk6, hP6, hL6, rfl⟩ := h
      have hw6 : ∀ x, x < 24 → r6.1 (mP 38 0 + x) = r4.1 (mP 38 0 + x) := fun x hx => (wt_st hk6 hx ⟨by first | omega | (unfold mP; omega), by first | omega | (unfold mP; omega), trivial⟩).trans (wt_st hk5 hx ⟨by first | omega | (unfold mP; omega), trivial⟩)
      have hG : (fun (v : Option Value) (w2 : va_W) => ∃ r1, w2 = tW r1 al cy rest 45 tMv ∧ ((v = some (.int (Int32.ofNat 1)) ∧ kpC (cRg CHS) 69 45 tMv r r1 ∧ ∃ q o s1 f1 W1, p < q ∧ q ≤ z ∧ txGo n B (0, O, M, s, f, W) p (txF O M o s1 f1 W1) q ∧ (w = 1 → W1 = none) ∧ PRt n w r1 o ∧ MSt n z w B r1 q O dep (dep + 1) ∧ ∀ u, u < 6 * (dep + 1) → r1.1 (mP 38 0 + u) = r.1 (mP 38 0 + u)) ∨ (v = some (.int (Int32.ofNat 0)) ∧ kpC (cRg CHF) 69 45 tMv r r1 ∧ txBd n z w B (0, O, M, s, f, W) p r1))) (some (.int (Int32.ofNat 1))) (tW r6 al cy rest 45 tMv) := ⟨r6, rfl, Or.inl ⟨rfl, kpC_trans hk3' (kpC_trans hk4 (kpC_trans (cRg_w hk5 ⟨⟨282669, 282670, by simp [CHS], by omega, by omega⟩, trivial⟩) (cRg_w hk6 ⟨⟨360448, 360453, by simp [CHS], by omega, by omega⟩, ⟨438272, 442373, by simp [CHS], by omega, by omega⟩, trivial⟩))), q, invO o1, s1, f1, W1, by omega, h2, txGo_trans (txGo_one hD0) h3, h4, hP6, ⟨TMr_st hz hk6 ⟨by first | omega | (unfold mP; omega), by first | omega | (unfold mP; omega), trivial⟩ ⟨by first | omega | (unfold mP; omega), by first | omega | (unfold mP; omega), trivial⟩ ⟨by first | omega | (unfold mP; omega), by first | omega | (unfold mP; omega), trivial⟩ (fun i hi => ⟨by first | omega | (unfold mP; omega), by first | omega | (unfold mP; omega), trivial⟩) (TMr_st hz hk5 ⟨by first | omega | (unfold mP; omega), trivial⟩ ⟨by first | omega | (unfold mP; omega), trivial⟩ ⟨by first | omega | (unfold mP; omega), trivial⟩ (fun i hi => ⟨by first | omega | (unfold mP; omega), trivial⟩) y1), (kpR hk6 (vM_0 42 (by simp)) ⟨by first | omega | (unfold mP; omega), by first | omega | (unfold mP; omega), trivial⟩).trans ((kpR hk5 (vM_0 42 (by simp)) ⟨by first | omega | (unfold mP; omega), trivial⟩).trans y2), MOp_st hk6 (by omega) ⟨by first | omega | (unfold mP; omega), by first | omega | (unfold mP; omega), trivial⟩ (fun i hi => ⟨⟨by first | omega | (unfold mP; omega), by first | omega | (unfold mP; omega), trivial⟩, ⟨by first | omega | (unfold mP; omega), by first | omega | (unfold mP; omega), trivial⟩⟩) ⟨e5, rwMo_st hk5 (by omega) (fun i hi => ⟨⟨by first | omega | (unfold mP; omega), trivial⟩, ⟨by first | omega | (unfold mP; omega), trivial⟩⟩) y3.2.2⟩, (kpR hk6 (vM_0 46 (by simp)) ⟨by first | omega | (unfold mP; omega), by first | omega | (unfold mP; omega), trivial⟩).trans ((kpR hk5 (vM_0 46 (by simp)) ⟨by first | omega | (unfold mP; omega), trivial⟩).trans y4), (fun i hi hc => le5_st (hw6 i hi) (y5 i hi hc)), hL6⟩, fun x hx => (hw6 x (by omega)).trans ((h7 x hx).trans (hw3 x (by omega)))⟩⟩
      refine wkN (al := al) hLD (by simp) (r := uM r []) ?_
      exact g_ret (v := some (.int (Int32.ofNat 1))) hFC (r := uM r []) (w := tW r6 al cy rest 45 tMv) q_pr211 (fun v0 h0 => vI_ok h0) hG
    · exact ret0 r4 _ q_pr192 (by simp) (kpC_trans (CHS_F hk3') hk4) (txBd_pre (txGo_one hD0) hbd)
  by_cases h91 : c = 91 ∧ dep < 3
  · obtain ⟨rfl, hd3⟩ := h91
    obtain ⟨hpz, hbp⟩ := hpc (by decide)
    have hD0 : txD n (0, O, M, s, f, W) (B p) p = some (0, (2, p) :: O, txI :: M, s, f, W) := by
      rw [hbp]
      show (if M.length < 4 then some (0, (2, p) :: O, txI :: M, s, f, W) else none) = _
      rw [if_pos (by omega)]
    have g := g_segU hFC (r := r) (vs := [Int32.ofNat dep]) (al := al) (cy := cy) (rest := rest) (by omega) tMv_ok cC_M sPa_nil (oM_cons (uMc (by decide) t4) oM_nil) (allL_ok q_ptb dep hd3) (fun m0 pc L st pa m9 hk2 hp2 hkp0 => ?_) (fun m0 v pa m9 hk2 => nomatch hk2)
    · simp only [List.map_cons, List.map_nil, sVal, sI_c] at g
      exact g
    simp only [Bool.and_eq_true] at hk2
    obtain ⟨k0, k1, k2⟩ := hk2
    obtain ⟨rfl, rfl, rfl⟩ := kAt_ok k0
    have hkp : kpC (cRg [(282666, 282666), (282670, 282670)]) 69 45 tMv r _ := hkp0
    have e1 := eP m9 k1
    have e2 := eU_c (b := 69) (r := r) (vs := [Int32.ofNat dep]) (by first | decide | omega) k2
    generalize eOf 69 (uM r [Int32.ofNat dep]) m9 = r2 at hkp e1 e2
    rw [LPp_eq, hat]
    have hst0 : List.map (sVal (uM r [Int32.ofNat dep]) al) [.inl (.var (nat_lit 282666)), .inl (.natCast (nat_lit 2)), .inr (.inr (some (nat_lit 0)))] = ([.ref (al 0), .int (Int32.ofNat 2), .int (Int32.ofNat p)] : List Value).reverse ++ [] := by
      simp only [List.map_cons, List.map_nil, sVal, sI_c]
      rw [uMv (by decide), hat]
      rfl
    rw [hst0]
    have hk2' : kpC (cRg CHS) 69 45 tMv r r2 := cRg_w hkp ⟨⟨282666, 282666, by simp [CHS], by omega, by omega⟩, ⟨282669, 282670, by simp [CHS], by omega, by omega⟩, trivial⟩
    have u : MSt n z w B r2 (p + 1) O (dep + 1) (dep + 1) := ⟨TMr_st hz hkp ⟨by first | omega | (unfold mP; omega), by first | omega | (unfold mP; omega), trivial⟩ ⟨by first | omega | (unfold mP; omega), by first | omega | (unfold mP; omega), trivial⟩ ⟨by first | omega | (unfold mP; omega), by first | omega | (unfold mP; omega), trivial⟩ (fun i hi => ⟨by first | omega | (unfold mP; omega), by first | omega | (unfold mP; omega), trivial⟩) t1, e1, MOp_st hkp (by omega) ⟨by first | omega | (unfold mP; omega), by first | omega | (unfold mP; omega), trivial⟩ (fun i hi => ⟨⟨by first | omega | (unfold mP; omega), by first | omega | (unfold mP; omega), trivial⟩, ⟨by first | omega | (unfold mP; omega), by first | omega | (unfold mP; omega), trivial⟩⟩) t3, e2, W5_st hkp (fun i hi => ⟨by first | omega | (unfold mP; omega), by first | omega | (unfold mP; omega), trivial⟩) t5, L5_st hkp (fun i hi => ⟨by first | omega | (unfold mP; omega), by first | omega | (unfold mP; omega), trivial⟩) t6⟩
    have lq : ∀ (r3 : sE) (x : List Int32), (LPq 91).map (Option.map (sVal (uM r3 (Int32.ofNat dep :: Int32.ofNat p :: x)) al)) = [some (.ref (al 0)), some (.int (Int32.ofNat dep)), some (.int (Int32.ofNat 91)), some (.int (Int32.ofNat p)), none] := fun r3 x => LPq_eq
    refine hFC.2 260 263 214 5 _ _ _ _ _ ⟨_, _, rfl, rfl⟩ rfl (by decide) rfl (gRecv_t (by omega) rfl rfl) (c_opM l (by omega) (by omega) u.2.2.1) (fun v1 w2 h => ?_)
    obtain ⟨rfl, r3, hk3, hO3, rfl⟩ := h
    have u3 : MSt n z w B r3 (p + 1) ((2, p) :: O) (dep + 1) (dep + 1) := ⟨TMr_st hz hk3 ⟨by first | omega | (unfold mP; omega), by first | omega | (unfold mP; omega), trivial⟩ ⟨by first | omega | (unfold mP; omega), by first | omega | (unfold mP; omega), trivial⟩ ⟨by first | omega | (unfold mP; omega), by first | omega | (unfold mP; omega), trivial⟩ (fun i hi => ⟨by first | omega | (unfold mP; omega), by first | omega | (unfold mP; omega), trivial⟩) u.1, (kpR hk3 (vM_0 42 (by simp)) ⟨by first | omega | (unfold mP; omega), by first | omega | (unfold mP; omega), trivial⟩).trans u.2.1, hO3, (kpR hk3 (vM_0 46 (by simp)) ⟨by first | omega | (unfold mP; omega), by first | omega | (unfold mP; omega), trivial⟩).trans u.2.2.2.1, W5_st hk3 (fun i hi => ⟨by first | omega | (unfold mP; omega), by first | omega | (unfold mP; omega), trivial⟩) u.2.2.2.2.1, L5_st hk3 (fun i hi => ⟨by first | omega | (unfold mP; omega), by first | omega | (unfold mP; omega), trivial⟩) u.2.2.2.2.2⟩
    have hk3' : kpC (cRg CHS) 69 45 tMv r r3 := kpC_trans hk2' (cRg_w hk3 ⟨⟨282669, 282670, by simp [CHS], by omega, by omega⟩, ⟨421888, 426073, by simp [CHS], by omega, by omega⟩, trivial⟩)
    have hw3 : ∀ x, x < 24 → r3.1 (mP 38 0 + x) = r.1 (mP 38 0 + x) := fun x hx => (wt_st hk3 hx ⟨by first | omega | (unfold mP; omega), by first | omega | (unfold mP; omega), trivial⟩).trans (wt_st hkp hx ⟨by first | omega | (unfold mP; omega), by first | omega | (unfold mP; omega), trivial⟩)
    have g := g_pure hFC (r := uM r3 [Int32.ofNat dep, Int32.ofNat p]) (al := al) (w := tW r3 al cy rest 45 tMv) sPa_nil q_pt263 (fun pc L st hk => ?_) (fun v hk => nomatch hk)
    · rw [lq] at g
      exact g
    obtain ⟨rfl, rfl, rfl⟩ := kAt_ok hk
    rw [lq]
    have hst1 : List.map (sVal (uM r3 [Int32.ofNat dep, Int32.ofNat p]) al) [.inl (.pow (.mul (.var (nat_lit 819290)) (.natCast (nat_lit 1))) (nat_lit 0)), .inr (.inr (some (nat_lit 0)))] = ([.ref (al 0), .int (Int32.ofNat (dep + 1))] : List Value).reverse ++ [] := by
      have e : sI (uM r3 [Int32.ofNat dep, Int32.ofNat p]) (.pow (.mul (.var (nat_lit 819290)) (.natCast (nat_lit 1))) (nat_lit 0)) = Int32.ofNat (dep + 1) := by
        show (sD _ _).1 = _
        rw [sD_b]
        show sI _ (.var (nat_lit 819290)) + sI _ (.natCast 1) = _
        rw [uM0, sI_c, ← Int32.ofNat_add]
      simp only [List.map_cons, List.map_nil, sVal, e]
      rfl
    rw [hst1]
    obtain ⟨N1, rfl⟩ : ∃ N1, N = N1 + 1 := ⟨N - 1, by omega⟩
    have hFN := hFCd (2 * N1 + 10) (by omega)
    refine hFN.2 267 270 220 (2 * N1 + 9) _ _ _ _ _ ⟨_, _, rfl, rfl⟩ rfl (by decide) rfl (gRecv_t (by omega) rfl rfl) (hTx N1 (by omega) (p + 1) (dep + 1) f r3 ((2, p) :: O) M s W (by omega) (by omega) (by show O.length + 1 ≤ p + 1; omega) hM (by omega) (by show (2 : Nat) ≠ 3; decide) u3 hW) (fun v1 w2 h => ?_)
    obtain ⟨r4, rfl, h⟩ := h
    rcases h with ⟨rfl, hk4, q, o1, s1, f1, W1, h1, h2, h3, h42, h5, h6, h7⟩ | ⟨rfl, hk4, hbd⟩
    · obtain ⟨y1, y2, y3, y4, y5, y6⟩ := h6
      have g := g_pure hFC (r := uM r4 [Int32.ofNat dep, Int32.ofNat p]) (al := al) (w := tW r4 al cy rest 45 tMv) sPa_nil q_pt270 (fun pc L st hk => ?_) (fun v hk => nomatch hk)
      · rw [lq] at g
        simp only [List.map_cons, List.map_nil, sVal, sI_c] at g
        exact g
      obtain ⟨rfl, rfl, rfl⟩ := kAt_ok hk
      rw [lq]
      refine hFC.2 276 279 213 5 _ [.ref (al 0)] [] _ _ ⟨_, _, rfl, rfl⟩ rfl (by decide) rfl (gRecv_t (by omega) rfl rfl) (c_here l (by omega) hz h2 y1 y2) (fun v1 w2 h => ?_)
      obtain ⟨rfl, rfl⟩ := h
      have hgo := txGo_trans (txGo_one hD0) h3
      have hk4' : kpC (cRg CHS) 69 45 tMv r r4 := kpC_trans hk3' hk4
      by_cases h93 : txB z B q = 93
      · rw [h93]
        have hq2 : q < z := by
          by_cases h : q < z
          · exact h
          · unfold txB at h93
            rw [if_neg h] at h93
            cases h93
        have hbq : B q = 93 := by
          unfold txB at h93
          rw [if_pos hq2] at h93
          exact h93
        have g := g_segU hFC (r := r4) (vs := [Int32.ofNat dep, Int32.ofNat p]) (al := al) (cy := cy) (rest := rest) (by omega) tMv_ok cC_M sPa_nil oM_nil (allL_ok q_pt279 dep hd3) (fun m0 pc L st pa m9 hk2 => nomatch hk2) (fun m0 v pa m9 hk2 hp2 hkp0 => ?_)
        · rw [LPd_eq] at g
          simp only [List.map_cons, List.map_nil, sVal, sI_c] at g
          exact g
        simp only [Bool.and_eq_true] at hk2
        obtain ⟨k1, k2, k3, k4, k5⟩ := hk2
        have hk5 : kpC (cRg [(282666, 282666), (282669, 282670), (442369, 442373)]) 69 45 tMv r4 _ := hkp0
        have e5 := (isE_ok (b := 69) (r := uM r4 [Int32.ofNat dep, Int32.ofNat p]) (by first | decide | omega) k2).trans (sI_add1 y2 (by decide))
        have e6 := (isE_ok (b := 69) (r := uM r4 [Int32.ofNat dep, Int32.ofNat p]) (by first | decide | omega) k3).trans (sI_sub1 (k := dep) y4 (by decide))
        have e7 := (isE_ok (b := 69) (r := uM r4 [Int32.ofNat dep, Int32.ofNat p]) (by first | decide | omega) k4).trans (sI_sub1 (k := O.length) y3.1 (by decide))
        have e8 : ∀ i, i < 5 → (eOf 69 (uM r4 [Int32.ofNat dep, Int32.ofNat p]) m9).1 (mP 39 1 + i) = r4.1 (mP 38 0 + (6 * (dep + 1) + (i + 1))) := fun i hi => by
          rw [show mP 39 1 + i = 4096 * (69 + 39) + Nat.succ i by unfold mP; omega]
          exact (eU_v (by first | decide | omega) (show 438279 + (6 * dep + i) < 819290 by omega) (allL_ok k5 i hi)).trans (congrArg r4.1 (show 438279 + (6 * dep + i) = mP 38 0 + (6 * (dep + 1) + (i + 1)) by unfold mP; omega))
        generalize eOf 69 (uM r4 [Int32.ofNat dep, Int32.ofNat p]) m9 = r5 at hk5 e5 e6 e7 e8
        refine ⟨r5, rfl, Or.inl ⟨vI_ok k1, kpC_trans hk4' (cRg_w hk5 ⟨⟨282666, 282666, by simp [CHS], by omega, by omega⟩, ⟨282669, 282670, by simp [CHS], by omega, by omega⟩, ⟨438272, 442373, by simp [CHS], by omega, by omega⟩, trivial⟩), q + 1, o1, s1, f1, W1, by omega, by omega, txGo_trans hgo (txGo_one ?_), fun h => (h5 h).1, ⟨fun i hi => ?_, fun h => ⟨(h5 h).2.1, fun i hi => (e8 i hi).trans ((h5 h).2.2 i hi)⟩⟩, ⟨TMr_st hz hk5 ⟨by first | omega | (unfold mP; omega), by first | omega | (unfold mP; omega), by first | omega | (unfold mP; omega), trivial⟩ ⟨by first | omega | (unfold mP; omega), by first | omega | (unfold mP; omega), by first | omega | (unfold mP; omega), trivial⟩ ⟨by first | omega | (unfold mP; omega), by first | omega | (unfold mP; omega), by first | omega | (unfold mP; omega), trivial⟩ (fun i hi => ⟨by first | omega | (unfold mP; omega), by first | omega | (unfold mP; omega), by first | omega | (unfold mP; omega), trivial⟩) y1, e5, ⟨e7, rwMo_st hk5 (by omega) (fun i hi => ⟨⟨by first | omega | (unfold mP; omega), by first | omega | (unfold mP; omega), by first | omega | (unfold mP; omega), trivial⟩, ⟨by first | omega | (unfold mP; omega), by first | omega | (unfold mP; omega), by first | omega | (unfold mP; omega), trivial⟩⟩) y3.2.2⟩, e6, W5_mono (by omega) (W5_st hk5 (fun i hi => ⟨by first | omega | (unfold mP; omega), by first | omega | (unfold mP; omega), by first | omega | (unfold mP; omega), trivial⟩) y5), L5_st hk5 (fun i hi => ⟨by first | omega | (unfold mP; omega), by first | omega | (unfold mP; omega), by first | omega | (unfold mP; omega), trivial⟩) y6⟩, fun x hx => (wt_st hk5 (by omega) ⟨by first | omega | (unfold mP; omega), by first | omega | (unfold mP; omega), by first | omega | (unfold mP; omega), trivial⟩).trans ((h7 x hx).trans (hw3 x (by omega)))⟩⟩
        · show tx3 _ (B q) = _
          unfold tx3
          rw [hbq, if_neg (by decide), if_pos rfl]
          show (if 2 ≤ M.length + 1 then some (txF O M o1 s1 f1 W1) else none) = _
          rw [if_pos (by omega)]
        · obtain ⟨k, g1, g2⟩ := y5 (6 * (dep + 1) + (i + 1)) (by omega) (Or.inr (by omega))
          exact ⟨k, g1, (e8 i hi).trans g2⟩
      · have hq := allL_ok q_pt279x (txB z B q) (txB_lt hB)
        rw [Bool.or_eq_true] at hq
        rcases hq with hq | hq
        · exact absurd (Nat.eq_of_beq_eq_true hq) h93
        have g := g_segV hFC (r := r4) (vs := [Int32.ofNat dep, Int32.ofNat p]) (al := al) (cy := cy) (rest := rest) (by omega) tMv_ok cC_M sPa_nil oM_nil hq (fun pc L st pa hk1 hp1 => ?_) (fun v pa hk1 => nomatch hk1)
        · rw [lq] at g
          simp only [List.map_cons, List.map_nil, sVal, sI_c] at g
          exact g
        obtain ⟨rfl, rfl, rfl⟩ := kAt_ok hk1
        rw [lq]
        have sat : sI (uM r4 [Int32.ofNat dep, Int32.ofNat p]) (.var (nat_lit 282666)) = Int32.ofNat q := by rw [uMv (by decide)]; exact y2
        simp only [List.map_cons, List.map_nil, sVal, sI_c, sat]
        refine fail 290 293 1 q r4 ((2, p) :: O) _ (Or.inr (Or.inr (Or.inr ⟨rfl, rfl⟩))) (by simp) hk4' y3 ⟨_, y5⟩ y6 (by show O.length + 1 < 81; omega) (stuck (3, (2, p) :: O, o1 :: M, s1, f1, W1) q hgo h2 (by show O.length + 1 ≤ 80; omega) (fun h => ?_) (fun h => by
          have h8 : M.length + 1 = 1 := h.2
          omega))
        have hb : txB z B q = B q := if_pos h
        rw [hb] at h93 h42
        show tx3 _ (B q) = none
        unfold tx3
        rw [if_neg h42, if_neg h93]
    · exact ret0 r4 _ q_pr270 (by simp) (kpC_trans (CHS_F hk3') hk4) (txBd_pre (txGo_one hD0) hbd)
  -- nothing that a PART begins with
  have hno : ∃ ovs, (∀ q ∈ ovs, (uM r [Int32.ofNat dep]).1 (4096 * (69 + q.1) + q.2.1) = sI (uM r [Int32.ofNat dep]) q.2.2) ∧ (sBeg (nat_lit 69) (nat_lit 45) tMv (memB [(nat_lit 0)]) ovs (fun m0 => sx PG (nat_lit 500) (nat_lit 6) (PG (nat_lit 218)) (fun pc => memB [(nat_lit 53), (nat_lit 161), (nat_lit 184), (nat_lit 233), (nat_lit 260)] pc) (fun pc L st _ m => Bool.and (eqL eqC m m0) (kAt (nat_lit 233) (LPp c) [.inl (.var (nat_lit 282666)), .inl (.natCast (nat_lit 1)), .inr (.inr (some (nat_lit 0)))] pc L st)) (fun v _ m => Bool.and (eqL eqC m m0) false) (nat_lit 4) LP0 [.inl (.natCast c)] [] m0)) = true := by
    by_cases hc91 : c = 91
    · subst hc91
      obtain rfl : dep = 3 := by
        by_cases h : dep < 3
        · exact absurd ⟨rfl, h⟩ h91
        · omega
      exact ⟨_, oM_cons (uMc (by decide) t4) oM_nil, q_pt3⟩
    · have hq := allL_ok q_ptx c hc7
      rw [Bool.or_eq_true] at hq
      rcases hq with hq | hq
      · have h9 := memB_ok.mp hq
        simp only [List.mem_cons, List.not_mem_nil, or_false] at h9
        omega
      · exact ⟨_, oM_nil, hq⟩
  obtain ⟨ovs, ho1, ho2⟩ := hno
  have g := g_segV hFC (r := r) (vs := [Int32.ofNat dep]) (al := al) (cy := cy) (rest := rest) (by omega) tMv_ok cC_M sPa_nil ho1 ho2 (fun pc L st pa hk1 hp1 => ?_) (fun v pa hk1 => nomatch hk1)
  · simp only [List.map_cons, List.map_nil, sVal, sI_c] at g
    exact g
  obtain ⟨rfl, rfl, rfl⟩ := kAt_ok hk1
  rw [LPp_eq, hat]
  have sat : sI (uM r [Int32.ofNat dep]) (.var (nat_lit 282666)) = Int32.ofNat p := by rw [uMv (by decide)]; exact t2
  simp only [List.map_cons, List.map_nil, sVal, sI_c, sat]
  refine fail 233 236 1 p r O _ (Or.inr (Or.inr (Or.inl ⟨rfl, rfl⟩))) (by simp) kpC_rfl t3 ⟨_, t5⟩ t6 (by omega) (stuck (0, O, M, s, f, W) p txGo_rfl hp (by show O.length ≤ 80; omega) (fun h => ?_) (fun h => neQ (a := 0) (b := 3) rfl h.1))
  have hb : txB z B p = B p := if_pos h
  have hbc : B p = c := hb.symm.trans hc
  show tx0 _ (B p) p = none
  unfold tx0
  rw [hbc, if_neg h115, if_neg h40, if_neg h126]
  by_cases hc91 : c = 91
  · rw [if_pos hc91, if_neg (show ¬ M.length < 4 from fun h => h91 ⟨hc91, by omega⟩)]
  · rw [if_neg hc91, if_neg h101]
theorem all_of (l : Launch) {n z w : Nat} {B : Nat → Nat} (hn : 1 ≤ n) (hn5 : n ≤ 5) (hz : z ≤ 80) (hw : w < 2) (hB : ∀ i, i < z → B i < 127) : ∀ N, partP l D cy al rest n z w B N ∧ textP l D cy al rest n z w B N := by
  intro N
  induction N using Nat.strongRecOn with
  | ind N ih =>
    have h := part_of (D := D) (cy := cy) (al := al) (rest := rest) l hn hn5 hz hw hB (fun N1 h => (ih N1 h).1) (fun N1 h => (ih N1 h).2)
    exact ⟨h, text_of l hn hn5 hz hw hB h⟩
end RQ
