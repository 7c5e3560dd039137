/-! 98: acts by contract (by wip/whole/mk98.py) -/
theorem lg_lt {x y : Int64} : (lg_cmp x y < 0 ↔ x.toInt < y.toInt) ∧ (0 < lg_cmp x y ↔ y.toInt < x.toInt) := by
  unfold lg_cmp
  simp only [gt_iff_lt, Int64.lt_iff_toInt_lt, ← Int64.toInt_inj, Int32.lt_iff_toInt_lt, ← Int32.toInt_inj]
  refine ⟨?_, ?_⟩ <;> (repeat' split) <;> simp <;> omega
theorem cmE_eq {r : sE} {j lo : Nat} : sI r (cmE j lo) = lg_cmp (r.2 (413696 + j)) (Int64.ofNat lo) := by
  show (sD r (.pow (.mul (.var (413696 + j)) (.natCast lo)) 10)).1 = _
  rw [sD_b, sD_v, sD_c]
  rfl
theorem lo_I : (Int64.ofNat 18446744073709550617).toInt = -999 ∧ (Int64.ofNat 999).toInt = 999 := by decide
theorem inL_ok {r : sE} {pa : List sK} {j : Nat} (hp : sPa r pa) (h : inL pa j = true) : -999 ≤ (r.2 (413696 + j)).toInt ∧ (r.2 (413696 + j)).toInt ≤ 999 := by
  unfold inL at h
  rw [Bool.and_eq_true] at h
  have h1 := sAsk_no hp h.1
  have h2 := sAsk_no hp h.2
  rw [cmE_eq, sI_c] at h1 h2
  have z : Int32.ofNat (nat_lit 0) = 0 := rfl
  rw [z, lg_lt.1] at h1
  rw [z, lg_lt.2] at h2
  have l1 := lo_I.1
  have l2 := lo_I.2
  constructor
  · have : ¬ (r.2 (413696 + j)).toInt < (Int64.ofNat 18446744073709550617).toInt := h1
    omega
  · have : ¬ (Int64.ofNat 999).toInt < (r.2 (413696 + j)).toInt := h2
    omega
theorem sAsk_ye {r : sE} {pa : List sK} {x y : sX} (hp : sPa r pa) (h : sAsk false x y true false false pa = true) : sI r x < sI r y := by
  rcases sAsk_ok hp h with h1 | h1 | h1
  · exact h1.1
  · exact nomatch h1.2
  · exact nomatch h1
theorem ouL_ok {r : sE} {pa : List sK} {j : Nat} (hp : sPa r pa) (h : ouL pa j = true) : (r.2 (413696 + j)).toInt < -999 ∨ 999 < (r.2 (413696 + j)).toInt := by
  unfold ouL at h
  rw [Bool.or_eq_true] at h
  have z : Int32.ofNat (nat_lit 0) = 0 := rfl
  have l1 := lo_I.1
  have l2 := lo_I.2
  rcases h with h | h
  · have h1 := sAsk_ye hp h
    rw [cmE_eq, sI_c, z, lg_lt.1] at h1
    have : (r.2 (413696 + j)).toInt < (Int64.ofNat 18446744073709550617).toInt := h1
    exact Or.inl (by omega)
  · have h1 := sAsk_ye hp h
    rw [cmE_eq, sI_c, z, lg_lt.2] at h1
    have : (Int64.ofNat 999).toInt < (r.2 (413696 + j)).toInt := h1
    exact Or.inr (by omega)
theorem ouI_ok {r : sE} {pa : List sK} {e : sX} (hp : sPa r pa) (h : ouI pa e = true) : (sI r e).toInt < -999 ∨ 999 < (sI r e).toInt := by
  unfold ouI at h
  rw [Bool.or_eq_true] at h
  rcases h with h | h
  · have h1 := sAsk_ye hp h
    rw [sI_c, Int32.lt_iff_toInt_lt] at h1
    have l1 : (Int32.ofNat 4294966297).toInt = -999 := by decide
    have : (sI r e).toInt < (Int32.ofNat 4294966297).toInt := h1
    exact Or.inl (by omega)
  · have h1 := sAsk_ye hp h
    rw [sI_c, Int32.lt_iff_toInt_lt] at h1
    have l1 : (Int32.ofNat 999).toInt = 999 := by decide
    have : (Int32.ofNat 999).toInt < (sI r e).toInt := h1
    exact Or.inr (by omega)
theorem of_toI {x : Int} (h : -2000000 ≤ x ∧ x ≤ 2000000) : (Int32.ofInt x).toInt = x := by
  rw [Int32.toInt_ofInt]
  simp only [Int.bmod_def, show ((Int32.size : Nat) : Int) = 4294967296 from rfl]
  omega
theorem of_toJ {x : Int} (h : -2000000 ≤ x ∧ x ≤ 2000000) : (Int32.ofInt x).toInt64.toInt = x := by rw [Int32.toInt_toInt64, of_toI h]
theorem acL_step {x y v : Int} (hx : -600000 ≤ x ∧ x ≤ 600000) (hv : -999 ≤ v ∧ v ≤ 999) (hy : -99 ≤ y ∧ y ≤ 99) : (Int32.ofInt x).toInt64 + (Int32.ofInt v).toInt64 * (Int32.ofInt y).toInt64 = (Int32.ofInt (x + v * y)).toInt64 := by
  have h3 : (v * y).natAbs ≤ 999 * 99 := by
    rw [Int.natAbs_mul]
    exact Nat.mul_le_mul (by omega) (by omega)
  rw [← Int64.toInt_inj, Int64.toInt_add, Int64.toInt_mul, of_toJ (by omega), of_toJ (by omega), of_toJ (by omega), of_toJ (by omega)]
  generalize v * y = p at h3 ⊢
  simp only [Int.bmod_def]
  omega
theorem lo_pl : ∀ j, j < 6 → isL 69 45 tMv (mP 32 j) = true ∧ chSt (mP 32 j) = false := by decide +kernel
theorem nm_pl : ∀ s, s < 4 → ∀ j, j < 20 → isV 69 45 tMv (mP 9 (20 * s + j)) = true ∧ scQ (mP 9 (20 * s + j)) = false := by decide +kernel
section AM
variable {D : va_G} {cy : Nat → ClassId} {al : Nat → Nat} {rest : va_W}
theorem LMa_eq {x : sE} {s : Nat} {a b e : Option sV} : (LMa s a b e).map (Option.map (sVal x al)) = [some (.ref (al 0)), some (.int (Int32.ofNat s)), a.map (sVal x al), b.map (sVal x al), e.map (sVal x al)] := by
  simp only [LMa, List.map_cons, List.map_nil, Option.map_some, sVal, sI_c]
/-- the model's acts -/
theorem c_acM (l : Launch) {c s q : Nat} {r : sE} {o : List Nat} {v : Nat → Int} (hc : c < 18) (hs : s < 4) (hq4 : q < 4) (hcc : cC 69 45 (tM c) r) (hnr : r.1 (mP 0 1) = Int32.ofNat (nOf c)) (hso : r.1 (mP 7 s) = Int32.ofNat 1) (ho : o ∈ ordN (nOf c)) (hr : ∀ i, i < 5 → r.1 (mP 6 (6 * q + 1) + i) = Int32.ofNat (o.getD i 0)) (hv : ∀ i, i < dOf c → r.1 (mP 9 (20 * s) + i) = Int32.ofInt (v i)) (hb : ∀ i, i < dOf c → -999 ≤ v i ∧ v i ≤ 999) (hF : acF c o (dOf c)) : gMet l D cy al 200 204 (tW r al cy rest 45 tMv) [.ref (al 0), .int (Int32.ofNat s), .int (Int32.ofNat q)] (fun x w => ∃ r1, acO c o v s 69 45 tMv (mP 9 (20 * s)) r x r1 ∧ w = tW r1 al cy rest 45 tMv) := by
  refine gMet_up (d := 20) (by omega) ?_
  obtain ⟨⟨d1, d6⟩, n1, n5⟩ := cd_tab c hc
  have hw : ∀ (x : sE) l, tW (uM x l) al cy rest 45 tMv = tW x al cy rest 45 tMv := fun x l => tW_uM (by omega) tMv_can
  have hE0 : ∀ x : sE, sI (uM x [Int32.ofNat q]) (.var (nat_lit 819290)) = Int32.ofNat q := fun x => by rw [sI_v]; exact uM_v 0
  have key := gMet_of (l := l) (D := D) (cy := cy) (al := al) (d := 20) (k := 204) (w := tW r al cy rest 45 tMv) (r := r) (G := fun x w => ∃ r1, acO c o v s 69 45 tMv (mP 9 (20 * s)) r x r1 ∧ w = tW r1 al cy rest 45 tMv) (allL_ok (allL_ok q_amE s hs) q hq4) (fun At hFC => ?_)
  · rw [show List.map (sVal r al) [.inr (.inr (some (nat_lit 0))), .inl (.natCast s), .inl (.natCast q)] = [.ref (al 0), .int (Int32.ofNat s), .int (Int32.ofNat q)] by simp only [List.map_cons, List.map_nil, sVal, sI_c]] at key
    exact key
  have SB : ∀ k j, k ≤ dOf c → j < dOf c → -593406 ≤ acS c o v k j ∧ acS c o v k j ≤ 593406 := fun k j hk hj => by
    have := acS_bd (v := v) hj k (by omega) (fun i hi => hF i (by omega)) (fun i hi => hb i (by omega))
    omega
  have fin : ∀ r3 : sE, kp 69 45 tMv r r3 → (∀ j, j < dOf c → r3.2 (mP 32 j) = (Int32.ofInt (acS c o v (dOf c) j)).toInt64) → At 148 [some (.ref (al 0)), some (.int (Int32.ofNat s)), some (.int (Int32.ofNat q)), some (.int (Int32.ofNat 1)), some (.int (Int32.ofNat 0))] [] (tW r3 al cy rest 45 tMv) := fun r3 hk3 hL => by
    have hk4 : kp 69 45 tMv r (uM r3 [Int32.ofNat q]) := kp_trans hk3 (kp_uM (by omega))
    have hx : ∀ j, j < dOf c → ((uM r3 [Int32.ofNat q]).2 (413696 + j)).toInt = acS c o v (dOf c) j := fun j hj => by
      show (r3.2 (413696 + j)).toInt = _
      rw [show r3.2 (413696 + j) = _ from (congrArg r3.2 (show 413696 + j = mP 32 j by unfold mP; omega)).trans (hL j hj), of_toJ (by have := SB (dOf c) j (by omega) hj; omega)]
    have g := g_segF hFC (r := uM r3 [Int32.ofNat q]) (al := al) (cy := cy) (rest := rest) (by omega) (tM_ok hc) (kpM_cC hc hk4 hcc) sPa_nil oM_nil (q_amC hc hs) (fun m0 pc L st pa m h1 => nomatch h1) (fun m0 x pa m hk hp hfr => ?_)
    · rw [hw, LMa_eq] at g
      simp only [Option.map_some, sVal, sI_c, hE0] at g
      exact g
    · rw [Bool.or_eq_true, Bool.and_eq_true, Bool.and_eq_true, Bool.and_eq_true, Bool.and_eq_true, Bool.and_eq_true] at hk
      rcases hk with ⟨h1, h2, h3, h4⟩ | ⟨h1, h2, h3⟩
      · refine ⟨_, Or.inl ⟨by rw [eqO_ok h1]; simp only [Option.map_some, sVal, sI_c], fun j hj => ?_, kpC_trans (kpC_weak (Ch := scQ) (fun u hu => by unfold chAc at hu; rw [Bool.or_eq_false_iff] at hu; exact hu.1) hk4) (hfr _ h2), fun j hj => ?_⟩, rfl⟩
        · have := inL_ok hp (allL_ok h3 j hj)
          rw [hx j hj] at this
          exact this
        · have h5 := isE_ok (b := 69) (r := uM r3 [Int32.ofNat q]) (show 20 * s + j < 4096 by omega) (allL_ok h4 j hj)
          rw [show mP 9 (20 * s) + j = 4096 * (69 + 9) + (20 * s + j) by unfold mP; omega, h5]
          show (sD _ (.pow (.neg (.var (413696 + j))) 4)).1 = _
          rw [sD_u, sD_v]
          show (r3.2 (413696 + j)).toInt32 = _
          rw [show r3.2 (413696 + j) = _ from (congrArg r3.2 (show 413696 + j = mP 32 j by unfold mP; omega)).trans (hL j hj)]
          exact Int32.toInt32_toInt64 _
      · obtain ⟨j, hj, h4⟩ := anyN_ok h3
        have := ouL_ok hp h4
        rw [hx j hj] at this
        exact ⟨_, Or.inr ⟨by rw [eqO_ok h1]; simp only [Option.map_some, sVal, sI_c], ⟨j, hj, this⟩, kp_trans hk4 (hfr _ h2)⟩, rfl⟩
  have loop : ∀ (m k : Nat) (r' : sE), k + (m + 1) = dOf c → kp 69 45 tMv r r' → hasO r' 13 o → (∀ j, j < dOf c → r'.2 (mP 32 j) = (Int32.ofInt (acS c o v k j)).toInt64) → At 85 [some (.ref (al 0)), some (.int (Int32.ofNat s)), some (.int (Int32.ofNat q)), some (.int (Int32.ofNat k)), (lA5 (dOf c) k).map (sVal r al)] [.int (Int32.ofNat k), .ref (al 13), .ref (al 0)] (tW r' al cy rest 45 tMv) := by
    intro m
    induction m with
    | zero =>
      intro k r' hkm hk' hO hA
      refine hFC.2 85 88 177 19 _ [.ref (al 0), .ref (al 13), .int (Int32.ofNat k)] [] _ _ ⟨_, _, rfl, rfl⟩ rfl (by decide) rfl (gRecv_t (by omega) rfl rfl) (c_tw l (by omega) hc (by omega) (kpM_cC hc hk' hcc) (by rw [hk'.1 _ kpM_regs.1.1 kpM_regs.1.2]; exact hnr) ho hO) (fun v2 w2 h => ?_)
      obtain ⟨rfl, r2, hk2, j2, rfl⟩ := h
      have hk3 : kp 69 45 tMv r (uM r2 [Int32.ofNat q]) := kp_trans (kp_trans hk' (kp_St hk2)) (kp_uM (by omega))
      have hS : ∀ m1 : sM, allL (dOf c) (fun j => isLE m1 (nat_lit 32) j (eAm s k j)) = true → ∀ j, j < dOf c → (eOf 69 (uM r2 [Int32.ofNat q]) m1).2 (mP 32 j) = (Int32.ofInt (acS c o v (k + 1) j)).toInt64 := fun m1 h1 j hj => by
        have h2 := isLE_ok (b := 69) (r := uM r2 [Int32.ofNat q]) (show j < 4096 by omega) (allL_ok h1 j hj)
        rw [show mP 32 j = 4096 * (69 + 32) + j by unfold mP; omega, h2]
        show (sD _ (.pow (.mul (.var (413696 + j)) (.pow (.mul (.pow (.neg (.var (319488 + 20 * s + k))) 21) (.pow (.neg (.var (380928 + j))) 21)) 22)) 20)).2 = _
        rw [sD_b, sD_b, sD_u, sD_u, sD_v, sD_v, sD_v]
        show r2.2 (413696 + j) + ((uM r2 [Int32.ofNat q]).1 (319488 + 20 * s + k)).toInt64 * ((uM r2 [Int32.ofNat q]).1 (380928 + j)).toInt64 = _
        rw [uM_lo (by omega), uM_lo (by omega), show r2.2 (413696 + j) = _ from (congrArg r2.2 (show 413696 + j = mP 32 j by unfold mP; omega)).trans ((hk2.2.1 _ (lo_pl j (by omega)).1 (lo_pl j (by omega)).2).trans (hA j hj)), show r2.1 (319488 + 20 * s + k) = _ from (congrArg r2.1 (show 319488 + 20 * s + k = mP 9 (20 * s + k) by unfold mP; omega)).trans (((kp_trans hk' (kp_St hk2)).1 _ (nm_pl s hs k (by omega)).1 (nm_pl s hs k (by omega)).2).trans ((congrArg r.1 (show mP 9 (20 * s + k) = mP 9 (20 * s) + k by unfold mP; omega)).trans (hv k (by omega)))), show r2.1 (380928 + j) = _ from (congrArg r2.1 (show 380928 + j = mP 24 j by unfold mP; omega)).trans (j2 j hj), acL_step (by have := SB k j (by omega) hj; omega) (hb k (by omega)) (bdI_ok (hF k (by omega) j hj))]
        rfl
      have g := g_segK hFC (r := uM r2 [Int32.ofNat q]) (al := al) (cy := cy) (rest := rest) (by omega) (tM_ok hc) (kpM_cC hc hk3 hcc) sPa_nil oM_nil (allL_ok (allL_ok (allL_ok q_am1 c hc) s hs) k (by omega)) (fun m0 pc L st pa m1 hk hp hf hkp => ?_) (fun m0 x pa m1 hk => nomatch hk)
      · rw [hw, LMa_eq, lA5_eq (y := r)] at g
        simp only [Option.map_some, sVal, sI_c, hE0] at g
        exact g
      · rw [Bool.and_eq_true, Bool.or_eq_true, Bool.and_eq_true, Bool.and_eq_true] at hk
        rcases hk.1 with ⟨h5, h6⟩ | ⟨h5, h6⟩
        · have hle : k + 2 ≤ dOf c := Nat.le_of_ble_eq_true h5
          exact absurd hle (by omega)
        · have he : k + 1 = dOf c := Nat.eq_of_beq_eq_true h5
          obtain ⟨rfl, rfl, rfl⟩ := kAt_ok h6
          rw [LMa_eq]
          simp only [Option.map_some, sVal, sI_c, hE0, List.map_nil]
          refine fin _ (kp_trans hk3 hkp) (fun j hj => ?_)
          rw [hS m1 hk.2 j hj, he]
    | succ m ih =>
      intro k r' hkm hk' hO hA
      refine hFC.2 85 88 177 19 _ [.ref (al 0), .ref (al 13), .int (Int32.ofNat k)] [] _ _ ⟨_, _, rfl, rfl⟩ rfl (by decide) rfl (gRecv_t (by omega) rfl rfl) (c_tw l (by omega) hc (by omega) (kpM_cC hc hk' hcc) (by rw [hk'.1 _ kpM_regs.1.1 kpM_regs.1.2]; exact hnr) ho hO) (fun v2 w2 h => ?_)
      obtain ⟨rfl, r2, hk2, j2, rfl⟩ := h
      have hk3 : kp 69 45 tMv r (uM r2 [Int32.ofNat q]) := kp_trans (kp_trans hk' (kp_St hk2)) (kp_uM (by omega))
      have hS : ∀ m1 : sM, allL (dOf c) (fun j => isLE m1 (nat_lit 32) j (eAm s k j)) = true → ∀ j, j < dOf c → (eOf 69 (uM r2 [Int32.ofNat q]) m1).2 (mP 32 j) = (Int32.ofInt (acS c o v (k + 1) j)).toInt64 := fun m1 h1 j hj => by
        have h2 := isLE_ok (b := 69) (r := uM r2 [Int32.ofNat q]) (show j < 4096 by omega) (allL_ok h1 j hj)
        rw [show mP 32 j = 4096 * (69 + 32) + j by unfold mP; omega, h2]
        show (sD _ (.pow (.mul (.var (413696 + j)) (.pow (.mul (.pow (.neg (.var (319488 + 20 * s + k))) 21) (.pow (.neg (.var (380928 + j))) 21)) 22)) 20)).2 = _
        rw [sD_b, sD_b, sD_u, sD_u, sD_v, sD_v, sD_v]
        show r2.2 (413696 + j) + ((uM r2 [Int32.ofNat q]).1 (319488 + 20 * s + k)).toInt64 * ((uM r2 [Int32.ofNat q]).1 (380928 + j)).toInt64 = _
        rw [uM_lo (by omega), uM_lo (by omega), show r2.2 (413696 + j) = _ from (congrArg r2.2 (show 413696 + j = mP 32 j by unfold mP; omega)).trans ((hk2.2.1 _ (lo_pl j (by omega)).1 (lo_pl j (by omega)).2).trans (hA j hj)), show r2.1 (319488 + 20 * s + k) = _ from (congrArg r2.1 (show 319488 + 20 * s + k = mP 9 (20 * s + k) by unfold mP; omega)).trans (((kp_trans hk' (kp_St hk2)).1 _ (nm_pl s hs k (by omega)).1 (nm_pl s hs k (by omega)).2).trans ((congrArg r.1 (show mP 9 (20 * s + k) = mP 9 (20 * s) + k by unfold mP; omega)).trans (hv k (by omega)))), show r2.1 (380928 + j) = _ from (congrArg r2.1 (show 380928 + j = mP 24 j by unfold mP; omega)).trans (j2 j hj), acL_step (by have := SB k j (by omega) hj; omega) (hb k (by omega)) (bdI_ok (hF k (by omega) j hj))]
        rfl
      have g := g_segK hFC (r := uM r2 [Int32.ofNat q]) (al := al) (cy := cy) (rest := rest) (by omega) (tM_ok hc) (kpM_cC hc hk3 hcc) sPa_nil oM_nil (allL_ok (allL_ok (allL_ok q_am1 c hc) s hs) k (by omega)) (fun m0 pc L st pa m1 hk hp hf hkp => ?_) (fun m0 x pa m1 hk => nomatch hk)
      · rw [hw, LMa_eq, lA5_eq (y := r)] at g
        simp only [Option.map_some, sVal, sI_c, hE0] at g
        exact g
      · rw [Bool.and_eq_true, Bool.or_eq_true, Bool.and_eq_true, Bool.and_eq_true] at hk
        rcases hk.1 with ⟨h5, h6⟩ | ⟨h5, h6⟩
        · obtain ⟨rfl, rfl, rfl⟩ := kAt_ok h6
          rw [LMa_eq]
          simp only [Option.map_some, sVal, sI_c, hE0, List.map_cons, List.map_nil]
          refine ih (k + 1) _ (by omega) (kp_trans hk3 hkp) (fun i hi => ?_) (fun j hj => hS m1 hk.2 j hj)
          rw [show mP 13 (1 + i) = 4096 * (69 + 13) + (1 + i) by unfold mP; omega, fit_out hf (by omega) (by decide) (by omega), show 4096 * (69 + 13) + (1 + i) = mP 13 (1 + i) by unfold mP; omega, uM_lo (by unfold mP; omega), hk2.1 _ (one_pl i hi).1 (one_pl i hi).2]
          exact hO i hi
        · have he : k + 1 = dOf c := Nat.eq_of_beq_eq_true h5
          exact absurd he (by omega)
  have g := g_seg hFC (r := r) (al := al) (cy := cy) (rest := rest) (by omega) (tM_ok hc) hcc sPa_nil (oM_cons (by rw [sI_c]; exact hso) oM_nil) (allL_ok (allL_ok (allL_ok q_am0 c hc) s hs) q hq4) (fun m0 pc L st pa m hk hp hkp => ?_) (fun m0 x pa m hk => nomatch hk)
  · exact g
  rw [Bool.and_eq_true, Bool.and_eq_true] at hk
  obtain ⟨rfl, rfl, rfl⟩ := kAt_ok hk.1
  rw [LMa_eq]
  simp only [Option.map_some, Option.map_none, sVal, sI_c, List.map_cons, List.map_nil]
  refine loop (dOf c - 1) 0 _ (by omega) hkp (fun i hi => by rw [isReg_ok hk.2.1 i hi, hr i hi]) (fun j hj => ?_)
  have := isJ_ok (b := 69) (r := r) (show j < 4096 by omega) (allL_ok hk.2.2 j (show j < 6 by omega))
  rw [show mP 32 j = 4096 * (69 + 32) + j by unfold mP; omega, this]
  rfl
end AM
