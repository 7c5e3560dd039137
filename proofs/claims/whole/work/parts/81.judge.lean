/-! 81: judge (by wip/whole/mk81.py) -/
noncomputable def LK (s i : Nat) : sL := [some (.inr (.inr (some (nat_lit 0)))), some (.inl (.natCast s)), some (.inl (.natCast i)), Nat.rec (motive := fun _ => Option sV) none (fun _ _ => some (.inl (.var (nat_lit 819290)))) i]
noncomputable def izM (s i : Nat) : sK := (false, true, .natCast i, .var (Nat.add (nat_lit 315392) s))
noncomputable def paL (x y : sX) (pa : List sK) : Bool := sAsk false x y true false false pa
noncomputable def paNL (x y : sX) (pa : List sK) : Bool := sAsk false x y false true false pa
theorem paL_ok {r : sE} {pa : List sK} {x y : sX} (hp : sPa r pa) (h : paL x y pa = true) : sI r x < sI r y := by
  rcases sAsk_ok (r := r) hp h with ⟨h1, -⟩ | ⟨-, h⟩ | h
  · exact h1
  · cases h
  · cases h
theorem paNL_ok {r : sE} {pa : List sK} {x y : sX} (hp : sPa r pa) (h : paNL x y pa = true) : ¬ sI r x < sI r y := by
  rcases sAsk_ok (r := r) hp h with ⟨-, h⟩ | ⟨h, -⟩ | h
  · cases h
  · exact h
  · cases h
noncomputable def swK (k j : Nat) : Nat := Bool.rec (motive := fun _ => Nat) (Bool.rec (motive := fun _ => Nat) j k (Nat.beq j (Nat.succ k))) (Nat.succ k) (Nat.beq j k)
theorem swK_tab : lAll (fun o => allL 4 (fun k => allL 5 (fun j => Nat.beq (nthO (mulO o (nbO (Nat.succ k))) j) (nthO o (Nat.sub (swK (Nat.succ k) (Nat.succ j)) (nat_lit 1)))))) ORDS = true := by decide +kernel
theorem swK_le : ∀ k, k < 4 → ∀ j, j < 5 → 1 ≤ swK (k + 1) (j + 1) ∧ swK (k + 1) (j + 1) ≤ 5 := by decide +kernel
theorem q_kEn : allL 4 (fun s => sEnt [.inr (.inr (some (nat_lit 0))), .inl (.natCast s)] (PG (nat_lit 210)).2.1 (fun L => eqL eqO L [some (.inr (.inr (some (nat_lit 0)))), some (.inl (.natCast s)), none, none])) = true := by decide +kernel
theorem q_kP : allL 4 (fun s => sBeg (nat_lit 69) (nat_lit 45) tMv (memB [nat_lit 0, nat_lit 7, nat_lit 13]) [(nat_lit 7, s, .natCast (nat_lit 2))] (fun m0 => sx PG (nat_lit 1000) (nat_lit 9) (PG (nat_lit 210)) (fun pc => Nat.beq pc (nat_lit 46)) (fun pc L st pa m => Bool.and (sK0 (nat_lit 69) (nat_lit 45) tMv (memB [nat_lit 0, nat_lit 7, nat_lit 13]) m0 m) (Bool.and (kAt (nat_lit 46) (LK s (nat_lit 0)) [] pc L st) (allL (nat_lit 5) (fun j => isE m (nat_lit 13) (Nat.succ j) (.natCast (Nat.succ j)))))) (fun v _ m => Bool.and (sK0 (nat_lit 69) (nat_lit 45) tMv (memB [nat_lit 0, nat_lit 7, nat_lit 13]) m0 m) false) (nat_lit 0) [some (.inr (.inr (some (nat_lit 0)))), some (.inl (.natCast s)), none, none] [] [] m0)) = true := by decide +kernel
noncomputable def kRd (s i : Nat) (K : List Nat) (pa : List sK) (kr : Option sV → Bool) (ovs : List sOv) : Bool := sBeg (nat_lit 69) (nat_lit 45) tMv (memB K) ovs (fun m0 => sx PG (nat_lit 1000) (nat_lit 9) (PG (nat_lit 210)) (fun _ => false) (fun _ _ _ _ m => Bool.and (eqL eqC m m0) false) (fun v _ m => Bool.and (eqL eqC m m0) (kr v)) (nat_lit 46) (LK s i) [] pa m0)
theorem q_kE : allL 4 (fun s => allL 21 (fun i => kRd s i [nat_lit 0, nat_lit 8] [(false, false, .natCast i, .var (Nat.add (nat_lit 315392) s))] (fun v => eqO v (some (.inl (.natCast (nat_lit 4294967294))))) [])) = true := by decide +kernel
noncomputable def kA (s : Nat) : Bool := allL 5 (fun n => allL 20 (fun i => Bool.and (allL 2 (fun c => kRd s i [nat_lit 0, nat_lit 8, nat_lit 9] (dP (Nat.add (nat_lit 319488) (mpN s i)) (nat_lit 0) (nat_lit 5) c [izM s i]) (fun v => eqO v (some (.inl (.natCast i)))) [(nat_lit 0, nat_lit 1, .natCast (Nat.succ n))])) (allL 5 (fun k => Bool.or (Bool.and (Nat.ble (nat_lit 1) k) (Nat.ble k n)) (kRd s i [nat_lit 0, nat_lit 8, nat_lit 9] [izM s i] (fun v => eqO v (some (.inl (.natCast i)))) [(nat_lit 0, nat_lit 1, .natCast (Nat.succ n)), (nat_lit 9, mpN s i, .natCast k)])))))
theorem q_kA0 : kA 0 = true := by decide +kernel
theorem q_kA1 : kA 1 = true := by decide +kernel
theorem q_kA2 : kA 2 = true := by decide +kernel
theorem q_kA3 : kA 3 = true := by decide +kernel
noncomputable def oV (j : Nat) : sX := .var (Nat.add (nat_lit 335872) j)
noncomputable def kCr (n s i k : Nat) : Bool := sBeg (nat_lit 69) (nat_lit 45) tMv (memB [nat_lit 0, nat_lit 8, nat_lit 9, nat_lit 13]) [(nat_lit 0, nat_lit 1, .natCast n), (nat_lit 9, mpN s i, .natCast k)] (fun m0 => sx PG (nat_lit 1000) (nat_lit 9) (PG (nat_lit 210)) (fun pc => Bool.and (Nat.beq pc (nat_lit 46)) true) (fun pc L st pa m => Bool.and (sK0 (nat_lit 69) (nat_lit 45) tMv (memB [nat_lit 0, nat_lit 8, nat_lit 9, nat_lit 13]) m0 m) (Bool.and (kAt (nat_lit 46) [some (.inr (.inr (some (nat_lit 0)))), some (.inl (.natCast s)), some (.inl (.natCast (Nat.succ i))), some (.inl (.natCast k))] [] pc L st) (Bool.and (paNL (oV (Nat.succ k)) (oV k) pa) (allL (nat_lit 5) (fun j => isE m (nat_lit 13) (Nat.succ j) (oV (swK k (Nat.succ j)))))))) (fun v pa m => Bool.and (sK0 (nat_lit 69) (nat_lit 45) tMv (memB [nat_lit 0, nat_lit 8, nat_lit 9, nat_lit 13]) m0 m) (Bool.and (eqO v (some (.inl (.natCast i)))) (paL (oV (Nat.succ k)) (oV k) pa))) (nat_lit 47) [some (.inr (.inr (some (nat_lit 0)))), some (.inl (.natCast s)), some (.inl (.natCast i)), Nat.rec (motive := fun _ => Option sV) none (fun _ _ => some (.inl (.var (nat_lit 819290)))) i] [.inl (.natCast i)] [izM s i] m0)
noncomputable def kC (s : Nat) : Bool := allL 5 (fun n => allL 20 (fun i => allL n (fun k => kCr (Nat.succ n) s i (Nat.succ k))))
theorem q_kC0 : kC 0 = true := by decide +kernel
theorem q_kC1 : kC 1 = true := by decide +kernel
theorem q_kC2 : kC 2 = true := by decide +kernel
theorem q_kC3 : kC 3 = true := by decide +kernel
theorem q_k46 : allL 4 (fun s => allL 20 (fun i => sx PG (nat_lit 10) (nat_lit 9) (PG (nat_lit 210)) (fun pc => Nat.beq pc (nat_lit 47)) (fun pc L st _ m => Bool.and (eqL eqC m []) (kAt (nat_lit 47) (LK s i) [.inl (.natCast i)] pc L st)) (fun _ _ m => Bool.and (eqL eqC m []) false) (nat_lit 46) (LK s i) [] [] [])) = true := by decide +kernel
theorem s4 {f : Nat → Bool} (h0 : f 0 = true) (h1 : f 1 = true) (h2 : f 2 = true) (h3 : f 3 = true) {s : Nat} (hs : s < 4) : f s = true := by
  match s, hs with
  | 0, _ => exact h0
  | 1, _ => exact h1
  | 2, _ => exact h2
  | 3, _ => exact h3
theorem kpM_shelf : ∀ s, s < 4 → (isV 69 45 tMv (315392 + s) = true ∧ scQ (315392 + s) = false) ∧ ∀ j, j < 20 → isV 69 45 tMv (319488 + (20 * s + j)) = true ∧ scQ (319488 + (20 * s + j)) = false := by decide +kernel
theorem lt5 {a b : Nat} (ha : a ≤ 5) (hb : b ≤ 5) : Int32.ofNat a < Int32.ofNat b ↔ a < b := by
  rw [Int32.lt_iff_toInt_lt]
  simp only [Int32.toInt_ofNat', Int.bmod_def, show ((Int32.size : Nat) : Int) = 4294967296 from rfl]
  omega
theorem i32_toNat {x : Int32} (h0 : 0 ≤ x.toInt) (h1 : x.toInt < 2147483648) : x = Int32.ofNat x.toInt.toNat := by
  rw [← Int32.toInt_inj]
  simp only [Int32.toInt_ofNat', Int.bmod_def, show ((Int32.size : Nat) : Int) = 4294967296 from rfl]
  omega
theorem c_judM (l : Launch) {D : va_G} {cy : Nat → ClassId} {al : Nat → Nat} {rest : va_W} {r : sE} {n s z : Nat} {f : Nat → Int32} (hn : 1 ≤ n) (hn5 : n ≤ 5) (hs : s < 4) (hz : z ≤ 20) (hnr : r.1 (mP 0 1) = Int32.ofNat n) (hsr : r.1 (mP 7 s) = Int32.ofNat 2) (hzr : r.1 (315392 + s) = Int32.ofNat z) (hf : ∀ j, j < 20 → r.1 (319488 + (20 * s + j)) = f j) : gMet l D cy al 200 210 (tW r al cy rest 45 tMv) [.ref (al 0), .int (Int32.ofNat s)] (fun v w2 => v = some (.int (jdg n f z 0 idO)) ∧ ∃ r1, kp 69 45 tMv r r1 ∧ w2 = tW r1 al cy rest 45 tMv) := by
  refine gMet_up (d := 9) (by omega) ?_
  have key := gMet_of (l := l) (D := D) (cy := cy) (al := al) (d := 9) (k := 210) (w := tW r al cy rest 45 tMv) (r := r) (G := fun v w2 => v = some (.int (jdg n f z 0 idO)) ∧ ∃ r1, kp 69 45 tMv r r1 ∧ w2 = tW r1 al cy rest 45 tMv) (allL_ok q_kEn s hs) (fun At hFC => ?_)
  · have ea : List.map (sVal r al) [.inr (.inr (some (nat_lit 0))), .inl (.natCast s)] = [.ref (al 0), .int (Int32.ofNat s)] := by
      simp only [List.map_cons, List.map_nil, sVal, sI_c]
    rw [ea] at key
    exact key
  generalize hV : jdg n f z 0 idO = V at hFC
  obtain ⟨⟨m1, m2⟩, -⟩ := kpM_regs
  obtain ⟨⟨s1, s2⟩, s3⟩ := kpM_shelf s hs
  have iLt : ∀ i, i ≤ 20 → (Int32.ofNat i < Int32.ofNat z ↔ i < z) := fun i hi => by
    rw [Int32.lt_iff_toInt_lt]
    simp only [Int32.toInt_ofNat', Int.bmod_def, show ((Int32.size : Nat) : Int) = 4294967296 from rfl]
    omega
  have head : ∀ (m i : Nat) (o : List Nat) (rB : sE) (kold : Int32), i + m = z → o ∈ ORDS → kp 69 45 tMv r rB → hasO rB 13 o → jdg n f m i o = V → At 46 ((LK s i).map (Option.map (sVal (uM rB [kold]) al))) [] (tW rB al cy rest 45 tMv) := by
    intro m
    induction m with
    | zero =>
      intro i o rB kold him ho hkB hO hj
      have hw := tW_uM (r := rB) (l := [kold]) (al := al) (cy := cy) (rest := rest) (b := 69) (n := 45) (t := tMv) (by omega) tMv_can
      have hp : sPa (uM rB [kold]) [(false, false, .natCast i, .var (Nat.add (nat_lit 315392) s))] := sPa_cons.mpr ⟨by
        show ¬ sI _ (.natCast i) < sI _ (.var (315392 + s))
        rw [sI_c, sI_v, uM_lo (by omega), hkB.1 _ s1 s2, hzr, iLt i (by omega)]
        omega, sPa_nil⟩
      have g := g_segS hFC (r := uM rB [kold]) (al := al) (cy := cy) (rest := rest) tMv_ok (cC_M _) hp oM_nil (allL_ok (allL_ok q_kE s hs) i (by omega)) (fun pc L st pa hk => nomatch hk) (fun v pa hk hp => ?_)
      · rw [hw] at g
        exact g
      rw [hw]
      refine ⟨?_, rB, hkB, rfl⟩
      rw [retI hk, ← hj]
      rfl
    | succ m ih =>
      intro i o rB kold him ho hkB hO hj
      have hi : i < 20 := by omega
      have hx : rB.1 (319488 + (20 * s + i)) = f i := (hkB.1 _ (s3 i hi).1 (s3 i hi).2).trans (hf i hi)
      generalize hxx : f i = x at hx
      have hj2 : (if x < Int32.ofNat 1 then Int32.ofNat i else if ¬ x < Int32.ofNat n then Int32.ofNat i else if nthO o x.toInt.toNat < nthO o (x.toInt.toNat - 1) then Int32.ofNat i else jdg n f m (i + 1) (mulO o (nbO x.toInt.toNat))) = V := by
        rw [← hj, ← hxx]
        rfl
      have hw : tW (uM rB [kold]) al cy rest 45 tMv = tW rB al cy rest 45 tMv := tW_uM (by omega) tMv_can
      obtain ⟨n, rfl⟩ : ∃ k, n = k + 1 := ⟨n - 1, by omega⟩
      have izK : sKd (uM rB [kold]) (izM s i) := by
        show sI _ (.natCast i) < sI _ (.var (315392 + s))
        rw [sI_c, sI_v, uM_lo (by omega), hkB.1 _ s1 s2, hzr, iLt i (by omega)]
        omega
      have xw : (uM rB [kold]).1 (Nat.add (nat_lit 319488) (mpN s i)) = x := by
        rw [show Nat.add (nat_lit 319488) (mpN s i) = 319488 + (20 * s + i) from rfl, uM_lo (by omega), hx]
      have nov : (uM rB [kold]).1 (mP 0 1) = sI (uM rB [kold]) (.natCast (Nat.succ n)) := by
        rw [sI_c, uM_lo (by decide), hkB.1 _ m1 m2]
        exact hnr
      have one : (Int32.ofNat 1).toInt = 1 := by decide
      have hnn : (Int32.ofNat (n + 1)).toInt = n + 1 := by
        simp only [Int32.toInt_ofNat', Int.bmod_def, show ((Int32.size : Nat) : Int) = 4294967296 from rfl]
        omega
      have qA := allL_ok (allL_ok (s4 (f := kA) q_kA0 q_kA1 q_kA2 q_kA3 hs) n (by omega)) i hi
      rw [Bool.and_eq_true] at qA
      have out : ∀ (pa : List sK) (ovs : List sOv), kRd s i [nat_lit 0, nat_lit 8, nat_lit 9] pa (fun v => eqO v (some (.inl (.natCast i)))) ovs = true → sPa (uM rB [kold]) pa → oMs (uM rB [kold]) ovs → Int32.ofNat i = V → At 46 ((LK s i).map (Option.map (sVal (uM rB [kold]) al))) [] (tW rB al cy rest 45 tMv) := fun pa ovs h hp hov hV2 => by
        have g := g_segS hFC (r := uM rB [kold]) (al := al) (cy := cy) (rest := rest) tMv_ok (cC_M _) hp hov h (fun pc L st pa hk => nomatch hk) (fun v pa hk hp => ?_)
        · rw [hw] at g
          exact g
        rw [hw]
        exact ⟨by rw [retI hk, hV2], rB, hkB, rfl⟩
      have hz1 : (0 = 4294967295 ∧ (0 : Int) = -1) ∨ (0 ≤ 1000 ∧ (0 : Int) = ((0 : Nat) : Int)) := Or.inr ⟨by omega, rfl⟩
      have izP := sPa_cons.mpr ⟨izK, sPa_nil⟩
      have outs : ¬ (1 ≤ x.toInt ∧ x.toInt ≤ n) → Int32.ofNat i = V → At 46 ((LK s i).map (Option.map (sVal (uM rB [kold]) al))) [] (tW rB al cy rest 45 tMv) := fun hx1 hV2 => by
        by_cases g1 : x.toInt < 0
        · exact out _ _ (allL_ok qA.1 0 (by omega)) (dE0_ok (z := 0) hz1 (by rw [xw]; exact g1) izP 5 (by omega)) (oM_cons nov oM_nil) hV2
        by_cases g2 : 5 ≤ x.toInt
        · refine out _ _ (allL_ok qA.1 1 (by omega)) (sPa_cons.mpr ⟨?_, dE1_ok (z := 0) hz1 izP 5 (by omega) (by rw [xw]; omega)⟩) (oM_cons nov oM_nil) hV2
          show ¬ sI _ (.var (Nat.add (nat_lit 319488) (mpN s i))) < sI _ (dV 0 5)
          rw [sI_v, xw, Int32.lt_iff_toInt_lt, dV_int hz1 (by omega)]
          omega
        · have hq := allL_ok qA.2 x.toInt.toNat (by omega)
          rw [Bool.or_eq_true, Bool.and_eq_true] at hq
          rcases hq with ⟨q1, q2⟩ | hq
          · have w1 : 1 ≤ x.toInt.toNat := Nat.le_of_ble_eq_true q1
            have w2 : x.toInt.toNat ≤ n := Nat.le_of_ble_eq_true q2
            exact absurd ⟨by omega, by omega⟩ hx1
          · refine out _ _ hq izP (oM_cons nov (oM_cons ?_ oM_nil)) hV2
            rw [sI_c]
            exact (show (uM rB [kold]).1 (mP 9 (mpN s i)) = x from xw).trans (i32_toNat (by omega) (by omega))
      by_cases h1 : x < Int32.ofNat 1
      · rw [if_pos h1] at hj2
        rw [Int32.lt_iff_toInt_lt, one] at h1
        exact outs (fun h => by omega) hj2
      rw [if_neg h1] at hj2
      by_cases h2 : x < Int32.ofNat (n + 1)
      case neg =>
        rw [if_pos h2] at hj2
        rw [Int32.lt_iff_toInt_lt, hnn] at h2
        exact outs (fun h => by omega) hj2
      rw [if_neg (by simpa using h2)] at hj2
      obtain ⟨⟨k1, kn⟩, ek⟩ := jd_num hn5 h1 h2
      generalize hk : x.toInt.toNat = k at k1 kn ek hj2
      obtain ⟨k, rfl⟩ : ∃ j, k = j + 1 := ⟨k - 1, by omega⟩
      rw [show k + 1 - 1 = k by omega] at hj2
      have ho2 : mulO o (nbO (k + 1)) ∈ ORDS := jd_in ho k1 (by omega)
      refine g_pure hFC (r := uM rB [kold]) sPa_nil (allL_ok (allL_ok q_k46 s hs) i hi) (fun pc L st hk => ?_) (fun v hk => nomatch hk)
      obtain ⟨rfl, rfl, rfl⟩ := kAt_ok hk
      have oVv : ∀ j, j < 5 → sI (uM rB [kold]) (oV (j + 1)) = Int32.ofNat (nthO o j) := fun j hj => by
        show sI _ (.var (335872 + (j + 1))) = _
        rw [sI_v, uM_lo (by omega), nthO_eq, ← hO j hj]
        exact congrArg rB.1 (show 335872 + (j + 1) = mP 13 (1 + j) by unfold mP; omega)
      have o5 : ∀ j, j < 5 → nthO o j ≤ 5 := fun j hj => by
        have := allL_ok (lAll_ok ORDS_tab o ho) j hj
        rw [Bool.and_eq_true] at this
        exact Nat.le_of_ble_eq_true this.2
      have olt : Int32.ofNat (nthO o (k + 1)) < Int32.ofNat (nthO o k) ↔ nthO o (k + 1) < nthO o k := by
        exact lt5 (o5 (k + 1) (by omega)) (o5 k (by omega))
      have g := g_seg hFC (r := uM rB [kold]) (al := al) (cy := cy) (rest := rest) (by omega) tMv_ok (cC_M _) (pa := [izM s i]) (sPa_cons.mpr ⟨izK, sPa_nil⟩) (oM_cons nov (oM_cons (by
        rw [sI_c]
        exact (show (uM rB [kold]).1 (mP 9 (mpN s i)) = x from xw).trans ek) oM_nil)) (allL_ok (allL_ok (allL_ok (s4 (f := kC) q_kC0 q_kC1 q_kC2 q_kC3 hs) n (by omega)) i hi) k (by omega)) (fun m0 pc L st pa m hk hp hkp => ?_) (fun m0 v pa m hk hp hkp => ?_)
      · rw [hw] at g
        exact g
      · rw [Bool.and_eq_true, Bool.and_eq_true] at hk
        obtain ⟨h5, h6, h7⟩ := hk
        obtain ⟨rfl, rfl, rfl⟩ := kAt_ok h5
        have hn6 := paNL_ok hp h6
        rw [oVv (k + 1) (by omega), show sI (uM rB [kold]) (oV (Nat.succ k)) = _ from oVv k (by omega), olt] at hn6
        rw [if_neg hn6] at hj2
        have hkU : kp 69 45 tMv r (eOf 69 (uM rB [kold]) m) := kp_trans (kp_trans hkB (kp_uM (by omega))) hkp
        have hO2 : hasO (eOf 69 (uM rB [kold]) m) 13 (mulO o (nbO (k + 1))) := fun j hj => by
          have h8 := isE_ok (b := 69) (r := uM rB [kold]) (show Nat.succ j < 4096 by omega) (allL_ok h7 j hj)
          obtain ⟨w1, w2⟩ := swK_le k (by omega) j hj
          have h9 := oVv (swK (k + 1) (j + 1) - 1) (by omega)
          rw [show swK (k + 1) (j + 1) - 1 + 1 = swK (k + 1) (j + 1) by omega] at h9
          have h10 := Nat.eq_of_beq_eq_true (allL_ok (allL_ok (lAll_ok swK_tab o ho) k (by omega)) j hj)
          rw [← nthO_eq, show nthO (mulO o (nbO (k + 1))) j = nthO o (swK (k + 1) (j + 1) - 1) from h10, ← h9, ← h8]
          exact congrArg (eOf 69 (uM rB [kold]) m).1 (show mP 13 (1 + j) = 4096 * (69 + 13) + (j + 1) by unfold mP; omega)
        have key2 := ih (i + 1) _ _ (Int32.ofNat (k + 1)) (by omega) ho2 hkU hO2 hj2
        have e3 : List.map (Option.map (sVal (uM rB [kold]) al)) [some (.inr (.inr (some (nat_lit 0)))), some (.inl (.natCast s)), some (.inl (.natCast (Nat.succ i))), some (.inl (.natCast (Nat.succ k)))] = (LK s (i + 1)).map (Option.map (sVal (uM (eOf 69 (uM rB [kold]) m) [Int32.ofNat (k + 1)]) al)) := by
          show [some (Value.ref (al 0)), some (.int (sI _ (.natCast s))), some (.int (sI _ (.natCast (i + 1)))), some (.int (sI _ (.natCast (k + 1))))] = [some (Value.ref (al 0)), some (.int (sI _ (.natCast s))), some (.int (sI _ (.natCast (i + 1)))), some (.int (sI _ (.var (819290 + 0))))]
          simp only [sI_c]
          rw [sI_v, uM_v]
          rfl
        rw [e3]
        exact key2
      · rw [Bool.and_eq_true] at hk
        have hn6 := paL_ok hp hk.2
        rw [oVv (k + 1) (by omega), show sI (uM rB [kold]) (oV (Nat.succ k)) = _ from oVv k (by omega), olt] at hn6
        rw [if_pos hn6] at hj2
        exact ⟨by rw [retI hk.1, hj2], _, kp_trans (kp_trans hkB (kp_uM (by omega))) hkp, rfl⟩
  have g := g_seg hFC (r := r) (al := al) (cy := cy) (rest := rest) (by omega) tMv_ok (cC_M _) sPa_nil (oM_cons (by rw [sI_c]; exact hsr) oM_nil) (allL_ok q_kP s hs) (fun m0 pc L st pa m hk hp hkp => ?_) (fun m0 v pa m hk => nomatch hk)
  · exact g
  rw [Bool.and_eq_true] at hk
  obtain ⟨rfl, rfl, rfl⟩ := kAt_ok hk.1
  have hO : hasO (eOf 69 r m) 13 idO := fun j hj => by
    have h8 := isE_ok (b := 69) (r := r) (show Nat.succ j < 4096 by omega) (allL_ok hk.2 j hj)
    rw [sI_c] at h8
    have h9 : idO.getD j 0 = j + 1 := by
      match j, hj with
      | 0, _ => rfl
      | 1, _ => rfl
      | 2, _ => rfl
      | 3, _ => rfl
      | 4, _ => rfl
    rw [h9, ← h8]
    exact congrArg (eOf 69 r m).1 (show mP 13 (1 + j) = 4096 * (69 + 13) + (j + 1) by unfold mP; omega)
  have key2 := head z 0 idO _ 0 (by omega) (by decide +kernel) hkp hO hV
  have e3 : (LK s 0).map (Option.map (sVal r al)) = (LK s 0).map (Option.map (sVal (uM (eOf 69 r m) [0]) al)) := by
    show [some (Value.ref (al 0)), some (.int (sI _ (.natCast s))), some (.int (sI _ (.natCast 0))), none] = [some (Value.ref (al 0)), some (.int (sI _ (.natCast s))), some (.int (sI _ (.natCast 0))), none]
    simp only [sI_c]
  rw [show List.map (Option.map (sVal r al)) (LK s (nat_lit 0)) = _ from e3]
  exact key2
theorem kd_116 : (PG 116).2.2.2.2 = 1 := by decide +kernel
noncomputable def jud0 (a0 σ : Nat) : Bool := jRun (nat_lit 100000) (nat_lit 200) tXv tXv tMv tMv (nat_lit 116) (nat_lit 210) (KXs (shC a0)) KMs (oXs0 (shC a0) σ) [(nat_lit 7, shC a0, .natCast σ)]
  (dP (nat_lit 819200) (nat_lit 0) (nat_lit 4) a0 []) [.inl (dA (nat_lit 819200) (nat_lit 0) (nat_lit 4) a0)] (fun x0 m0 pa x m => frJ (chN []) x0 m0 x m)
theorem q_jud : allL 6 (fun a0 => allL 2 (fun σ => jud0 a0 σ)) = true := by decide +kernel
theorem q_judN : allL 2 (fun a0 => jRun (nat_lit 100000) (nat_lit 200) tXv tXv tMv tMv (nat_lit 116) (nat_lit 210) (KXs (nat_lit 0)) KMs [] [] (dP (nat_lit 819200) (nat_lit 0) (nat_lit 4) a0 []) [.inl (dA (nat_lit 819200) (nat_lit 0) (nat_lit 4) a0)] (fun x0 m0 pa x m => frJ (chN []) x0 m0 x m)) = true := by decide +kernel
theorem op_judge {l : Launch} {D : va_G} {cy : Nat → ClassId} {alX alM : Nat → Nat} : OpI l D cy alX alM 116 210 1 := by
  intro r as hI hlen
  obtain ⟨a0, rfl⟩ : ∃ a0, as = [a0] := by
    match as, hlen with
    | [a0], _ => exact ⟨a0, rfl⟩
  refine OpOk_uA [a0] ?_
  replace hI := Inv_uA (as := [a0]) hI
  have e0 : (uA r [a0]).1 819200 = a0 := uA_a 0
  generalize uA r [a0] = r at hI e0 ⊢
  obtain ⟨c0, hc0, hp0, hv0⟩ := dP_ok r 819200 (lo := 0) (n := 4) (Or.inr (by omega)) (by omega)
  rw [e0] at hv0
  by_cases h2 : c0 < 2
  · refine jOk l tXv_ok tXv_ok tMv_ok tMv_ok (cC_X r) (cC_M r) (hp0 _ sPa_nil) (fun _ _ _ => rfl) (fun _ _ _ => rfl) oX_nil oM_nil ?_ ?_ (allL_ok q_judN c0 h2) ?_
    · simp only [List.map_cons, List.map_nil, sVal, hv0]
    · simp only [List.map_cons, List.map_nil, sVal, hv0]
    · intro x0 m0 pa x m hx0 hm0 hck hp hfx hfm _ _
      exact Inv_N (s := 0) (by omega) hx0 hm0 hfx hfm hck hI
  have hs : c0 - 2 < 4 := by omega
  obtain ⟨c, hc, hcc, hcm⟩ := id hI
  have hS := hcm (4 + (c0 - 2)) (by omega)
  rw [Comp_S hs] at hS
  have low : ∀ σ, σ < 2 → r.1 (xP (36 + 2 * (c0 - 2)) 0) = Int32.ofNat σ → r.1 (mP 7 (c0 - 2)) = Int32.ofNat σ → OpOk l D cy alX alM 200 r 116 210 (List.map Value.int [a0]) Inv := fun σ hσ q1 q2 => by
    refine jOk l tXv_ok tXv_ok tMv_ok tMv_ok (cC_X r) (cC_M r) (hp0 _ sPa_nil) (fun _ _ _ => rfl) (fun _ _ _ => rfl) (oX_cons (by rw [sI_c]; exact q1) oX_nil) (oM_cons (by rw [sI_c]; exact q2) oM_nil) ?_ ?_ (allL_ok (allL_ok q_jud c0 hc0) σ hσ) ?_
    · simp only [List.map_cons, List.map_nil, sVal, hv0]
    · simp only [List.map_cons, List.map_nil, sVal, hv0]
    · intro x0 m0 pa x m hx0 hm0 hck hp hfx hfm _ _
      exact Inv_N hs hx0 hm0 hfx hfm hck hI
  obtain ⟨g1, g2⟩ := id hS
  rcases g2 with g2 | ⟨g2, -⟩ | ⟨q2, ⟨z, z1, z2, z3⟩, hN⟩
  · exact low 0 (by omega) g2 (g1.trans g2)
  · exact low 1 (by omega) g2 (g1.trans g2)
  · obtain ⟨s, rfl⟩ : ∃ k, c0 = k + 2 := ⟨c0 - 2, by omega⟩
    rw [show s + 2 - 2 = s by omega] at *
    have ek : a0 = Int32.ofNat s := by rw [← hv0, dA_c (by omega)]
    subst ek
    obtain ⟨⟨-, hn1, -⟩, hn2, -⟩ := CC_nd hc hcc
    obtain ⟨-, n1, n5⟩ := cd_tab c hc
    refine OpOk_V (V := some (.int (jdg (nOf c) (fun j => r.1 (xpN s j)) z 0 idO))) hI (fun rest => ?_) (fun rest => ?_) (Or.inl ⟨kd_116, _, rfl⟩)
    · exact (c_judX l n5 hs z1 hn1 q2 (by rw [xpZ_eq]; exact z2)).mono (fun v w q => ⟨q.1, r, kp_rfl, q.2⟩)
    · refine c_judM l n1 n5 hs z1 hn2 (g1.trans q2) ((congrArg r.1 (show 315392 + s = mP 8 s by unfold mP; omega)).trans z3) (fun j hj => ?_)
      show _ = r.1 (xpN s j)
      rw [xpN_eq]
      have := hN j hj
      rw [show mP 9 (20 * s) + j = 319488 + (20 * s + j) by unfold mP; omega, show xP (37 + 2 * s) 0 + j = xP (37 + 2 * s) j by unfold xP; omega] at this
      exact this
