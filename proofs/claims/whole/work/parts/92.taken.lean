/-! 92: standard ones taken by orders, straightened: both sides by contract (by wip/whole/mk92.py) -/
def CIS : List (List (List Nat)) := [[[nat_lit 0]], [[nat_lit 0, nat_lit 1]], [[nat_lit 0, nat_lit 1]], [[nat_lit 0, nat_lit 1, nat_lit 2]], [[nat_lit 0, nat_lit 1, nat_lit 2], [nat_lit 0, nat_lit 2, nat_lit 1]], [[nat_lit 0, nat_lit 1, nat_lit 2]], [[nat_lit 0, nat_lit 1, nat_lit 2, nat_lit 3]], [[nat_lit 0, nat_lit 1, nat_lit 2, nat_lit 3], [nat_lit 0, nat_lit 1, nat_lit 3, nat_lit 2], [nat_lit 0, nat_lit 2, nat_lit 3, nat_lit 1]], [[nat_lit 0, nat_lit 1, nat_lit 2, nat_lit 3], [nat_lit 0, nat_lit 2, nat_lit 1, nat_lit 3]], [[nat_lit 0, nat_lit 1, nat_lit 2, nat_lit 3], [nat_lit 0, nat_lit 2, nat_lit 1, nat_lit 3], [nat_lit 0, nat_lit 3, nat_lit 1, nat_lit 2]], [[nat_lit 0, nat_lit 1, nat_lit 2, nat_lit 3]], [[nat_lit 0, nat_lit 1, nat_lit 2, nat_lit 3, nat_lit 4]], [[nat_lit 0, nat_lit 1, nat_lit 2, nat_lit 3, nat_lit 4], [nat_lit 0, nat_lit 1, nat_lit 2, nat_lit 4, nat_lit 3], [nat_lit 0, nat_lit 1, nat_lit 3, nat_lit 4, nat_lit 2], [nat_lit 0, nat_lit 2, nat_lit 3, nat_lit 4, nat_lit 1]], [[nat_lit 0, nat_lit 1, nat_lit 2, nat_lit 3, nat_lit 4], [nat_lit 0, nat_lit 1, nat_lit 3, nat_lit 2, nat_lit 4], [nat_lit 0, nat_lit 1, nat_lit 4, nat_lit 2, nat_lit 3], [nat_lit 0, nat_lit 2, nat_lit 3, nat_lit 1, nat_lit 4], [nat_lit 0, nat_lit 2, nat_lit 4, nat_lit 1, nat_lit 3]], [[nat_lit 0, nat_lit 1, nat_lit 2, nat_lit 3, nat_lit 4], [nat_lit 0, nat_lit 1, nat_lit 3, nat_lit 2, nat_lit 4], [nat_lit 0, nat_lit 1, nat_lit 4, nat_lit 2, nat_lit 3], [nat_lit 0, nat_lit 2, nat_lit 3, nat_lit 1, nat_lit 4], [nat_lit 0, nat_lit 2, nat_lit 4, nat_lit 1, nat_lit 3], [nat_lit 0, nat_lit 3, nat_lit 4, nat_lit 1, nat_lit 2]], [[nat_lit 0, nat_lit 1, nat_lit 2, nat_lit 3, nat_lit 4], [nat_lit 0, nat_lit 1, nat_lit 2, nat_lit 4, nat_lit 3], [nat_lit 0, nat_lit 2, nat_lit 1, nat_lit 3, nat_lit 4], [nat_lit 0, nat_lit 2, nat_lit 1, nat_lit 4, nat_lit 3], [nat_lit 0, nat_lit 3, nat_lit 1, nat_lit 4, nat_lit 2]], [[nat_lit 0, nat_lit 1, nat_lit 2, nat_lit 3, nat_lit 4], [nat_lit 0, nat_lit 2, nat_lit 1, nat_lit 3, nat_lit 4], [nat_lit 0, nat_lit 3, nat_lit 1, nat_lit 2, nat_lit 4], [nat_lit 0, nat_lit 4, nat_lit 1, nat_lit 2, nat_lit 3]], [[nat_lit 0, nat_lit 1, nat_lit 2, nat_lit 3, nat_lit 4]]]
/-- standard k with each number taken by the order, cell by cell -/
noncomputable def tF (c k : Nat) (o : List Nat) : List Nat := rMap (fun i => nthO o i) (nthL (nthL CIS c) k)
noncomputable def tG (c k : Nat) (o : List Nat) : List Nat := appL (tF c k o) (restO (nOf c))
noncomputable def tgT (c k : Nat) (o : List Nat) : Bool := Bool.and (isP (nOf c) (tG c k o)) (Bool.and (allL (nOf c) (fun e => Nat.beq (nthO (tG c k o) e) (nthO o (nthO (nthL (nthL CIS c) k) e)))) (allL (nOf c) (fun i => Bool.and (Nat.beq (rowT c (tG c k o) (nthO o i)) (rowS c k (Nat.succ i))) (Nat.beq (colT c (tG c k o) (nthO o i)) (colS c k (Nat.succ i))))))
theorem q_tg1 : allL 14 (fun c => allL (dOf c) (fun k => lAll (tgT c k) (ordN (nOf c)))) = true := by decide +kernel
theorem q_tg2 : allL 4 (fun c => allL (dOf (Nat.add 14 c)) (fun k => lAll (tgT (Nat.add 14 c) k) (ordN (nOf (Nat.add 14 c))))) = true := by decide +kernel
theorem q_tg {c k : Nat} {o : List Nat} (hc : c < 18) (hk : k < dOf c) (ho : o ∈ ordN (nOf c)) : tgT c k o = true := by
  by_cases h : c < 14
  · exact lAll_ok (allL_ok (allL_ok q_tg1 c h) k hk) o ho
  · obtain ⟨e, rfl⟩ : ∃ e, c = 14 + e := ⟨c - 14, by omega⟩
    exact lAll_ok (allL_ok (allL_ok q_tg2 e (by omega)) k hk) o ho
theorem tG_in {c k : Nat} {o : List Nat} (hc : c < 18) (hk : k < dOf c) (ho : o ∈ ordN (nOf c)) : tG c k o ∈ ordN (nOf c) := by
  have h := q_tg hc hk ho
  unfold tgT at h
  rw [Bool.and_eq_true] at h
  have := (cd_tab c hc).2
  exact isP_in this.1 this.2 h.1
-- the class
theorem oFl_ok {r : sE} {t : List Nat} : ∀ n, (∀ i, i < n → r.1 (xP 22 i) = Int32.ofNat (nthO t i)) → oXs r (oFl n t)
  | 0, _ => oX_nil
  | n + 1, h => oX_cons (by rw [sI_c]; exact h n (by omega)) (oFl_ok n (fun i hi => h i (by omega)))
section TC
variable {D : va_G} {cy : Nat → ClassId} {al : Nat → Nat} {rest : va_W}
/-- the class' straighten -/
theorem c_swX (l : Launch) {c d : Nat} {r : sE} {t : List Nat} (hd : 6 ≤ d) (hc : c < 18) (hcc : cC 0 68 (tX c) r) (ht : t ∈ ordN (nOf c)) (hr : ∀ i, i < nOf c → r.1 (xP 22 i) = Int32.ofNat (nthO t i)) : gMet l D cy al d 82 (tW r al cy rest 68 tXv) [.ref (al 14)] (fun v w => v = none ∧ ∃ r1, kp 0 68 tXv r r1 ∧ (∀ j, j < dOf c → r1.1 (xP 23 j) = Int32.ofInt (cwT c t j) ∧ bdI (cwT c t j) = true) ∧ w = tW r1 al cy rest 68 tXv) := by
  refine gMet_up hd ?_
  have d6 := (cd_tab c hc).1.2
  refine c_run l (as := [.inr (.inr (some (nat_lit 14)))]) (r := r) (by omega) (tX_ok hc) hcc sPa_nil (oFl_ok _ hr) (q_sw hc ht) (fun m0 v pa m hk hp hkp => ?_)
  rw [Bool.and_eq_true] at hk
  refine ⟨by rw [eqO_ok hk.1]; rfl, _, hkp, fun j hj => ?_, rfl⟩
  obtain ⟨⟨kd, u, vs⟩, h1, h2⟩ := sGet_ok _ _ _ (allL_ok hk.2 j hj)
  rw [Bool.and_eq_true] at h2
  obtain ⟨v, h3, h4⟩ := sGet_ok _ _ _ h2.2
  obtain ⟨e, rfl, h5⟩ := sVI_ok h4
  obtain ⟨z, rfl, h6⟩ := sNum_ok h5
  have h6 : Bool.and (chkI z (cwT c t j)) (bdI (cwT c t j)) = true := h6
  rw [Bool.and_eq_true] at h6
  have := (eOf_i (b := 0) (r := r) h1 (Nat.le_of_ble_eq_true h2.1) (show j < 4096 by omega)).1
  rw [h3] at this
  rw [show xP 23 j = 4096 * (0 + 23) + j by unfold xP; omega, this]
  exact ⟨by show sI r (.natCast z) = _; rw [sI_c, chkI_ok h6.1], h6.2⟩
noncomputable def LT4 (k : Nat) : sL := [some (.inr (.inr (some (nat_lit 14)))), some (.inl (.natCast k)), some (.inl (.var (nat_lit 819290)))]
theorem q_t4E : allL 6 (fun k => sEnt [.inr (.inr (some (nat_lit 14))), .inl (.natCast k), .inl (.var (nat_lit 819290))] (PG (nat_lit 84)).2.1 (fun L => eqL eqO L (LT4 k))) = true := by decide +kernel
theorem q_t4 : allL 18 (fun c => allL (dOf c) (fun k => sBeg (nat_lit 0) (nat_lit 68) (tX c) (memB [nat_lit 1, nat_lit 5, nat_lit 6, nat_lit 7, nat_lit 8, nat_lit 9, nat_lit 10, nat_lit 11, nat_lit 14, nat_lit 22]) [] (fun m0 => sx PG (nat_lit 1000) (nat_lit 7) (PG (nat_lit 84)) (fun pc => Nat.beq pc (nat_lit 14)) (fun pc L st pa m => Bool.and (sK0 (nat_lit 0) (nat_lit 68) (tX c) (memB [nat_lit 1, nat_lit 5, nat_lit 6, nat_lit 7, nat_lit 8, nat_lit 9, nat_lit 10, nat_lit 11, nat_lit 14, nat_lit 22]) m0 m) (Bool.and (kAt (nat_lit 14) (LT4 k) [.inr (.inr (some (nat_lit 14)))] pc L st) (allL (nOf c) (fun e => isE m (nat_lit 22) e (tgE (nat_lit 819290) (nthO (nthL (nthL CIS c) k) e)))))) (fun _ _ m => Bool.and (sK0 (nat_lit 0) (nat_lit 68) (tX c) (memB [nat_lit 1, nat_lit 5, nat_lit 6, nat_lit 7, nat_lit 8, nat_lit 9, nat_lit 10, nat_lit 11, nat_lit 14, nat_lit 22]) m0 m) false) (nat_lit 0) (LT4 k) [] [] m0))) = true := by decide +kernel
theorem q_t4r : allL 6 (fun k => sx PG (nat_lit 10) (nat_lit 7) (PG (nat_lit 84)) (fun _ => false) (fun _ _ _ _ _ => false) (fun v _ m => Bool.and (eqL eqC m []) (eqO v none)) (nat_lit 17) (LT4 k) [] [] []) = true := by decide +kernel
theorem ci_tab : ∀ c, c < 18 → ∀ k, k < dOf c → ∀ e, e < 5 → nthO (nthL (nthL CIS c) k) e < 5 := by decide +kernel
/-- .. of standard k, taken by the order o -/
theorem c_stX (l : Launch) {c d k : Nat} {r : sE} {o : List Nat} (hd : 7 ≤ d) (hc : c < 18) (hk : k < dOf c) (hcc : cC 0 68 (tX c) r) (ho : o ∈ ordN (nOf c)) : gMet l D cy al d 84 (tW r al cy rest 68 tXv) [.ref (al 14), .int (Int32.ofNat k), .int (Int32.ofNat (ocode o))] (fun v w => v = none ∧ ∃ r1, kp 0 68 tXv r r1 ∧ (∀ j, j < dOf c → r1.1 (xP 23 j) = Int32.ofInt (cwT c (tG c k o) j) ∧ bdI (cwT c (tG c k o) j) = true) ∧ w = tW r1 al cy rest 68 tXv) := by
  refine gMet_up hd ?_
  obtain ⟨⟨d1, d6⟩, n1, n5⟩ := cd_tab c hc
  have hw : ∀ x : sE, tW (uM x [Int32.ofNat (ocode o)]) al cy rest 68 tXv = tW x al cy rest 68 tXv := fun x => tW_uM (by omega) tXv_can
  have E0 : sI (uM r [Int32.ofNat (ocode o)]) (.var (nat_lit 819290)) = Int32.ofNat (ocode o) := by rw [sI_v]; exact uM_v 0
  have key := gMet_of (l := l) (D := D) (cy := cy) (al := al) (d := 7) (k := 84) (w := tW r al cy rest 68 tXv) (r := uM r [Int32.ofNat (ocode o)]) (G := fun v w => v = none ∧ ∃ r1, kp 0 68 tXv r r1 ∧ (∀ j, j < dOf c → r1.1 (xP 23 j) = Int32.ofInt (cwT c (tG c k o) j) ∧ bdI (cwT c (tG c k o) j) = true) ∧ w = tW r1 al cy rest 68 tXv) (allL_ok q_t4E k (by omega)) (fun At hFC => ?_)
  · rw [show List.map (sVal (uM r [Int32.ofNat (ocode o)]) al) [.inr (.inr (some (nat_lit 14))), .inl (.natCast k), .inl (.var (nat_lit 819290))] = [.ref (al 14), .int (Int32.ofNat k), .int (Int32.ofNat (ocode o))] by simp only [List.map_cons, List.map_nil, sVal, sI_c, E0]] at key
    exact key
  have g := g_seg hFC (r := uM r [Int32.ofNat (ocode o)]) (al := al) (cy := cy) (rest := rest) (by omega) (tX_ok hc) (kpX_cC hc (kp_uM (by omega)) hcc) sPa_nil oX_nil (allL_ok (allL_ok q_t4 c hc) k hk) (fun m0 pc L st pa m h1 h2 hkp => ?_) (fun m0 v pa m h1 => nomatch h1)
  · rw [hw] at g
    exact g
  rw [Bool.and_eq_true] at h1
  obtain ⟨rfl, rfl, rfl⟩ := kAt_ok h1.1
  have hk1 : kp 0 68 tXv r (eOf 0 (uM r [Int32.ofNat (ocode o)]) m) := kp_trans (kp_uM (by omega)) hkp
  have hfil : ∀ e, e < nOf c → (eOf 0 (uM r [Int32.ofNat (ocode o)]) m).1 (xP 22 e) = Int32.ofNat (nthO (tG c k o) e) := fun e he => by
    have h5 := ci_tab c hc k hk e (by omega)
    have h6 := isE_ok (b := 0) (r := uM r [Int32.ofNat (ocode o)]) (show e < 4096 by omega) (allL_ok h1.2 e he)
    have h7 := q_tg hc hk ho
    unfold tgT at h7
    rw [Bool.and_eq_true, Bool.and_eq_true] at h7
    have h8 := Nat.eq_of_beq_eq_true (allL_ok h7.2.1 e he)
    rw [show xP 22 e = 4096 * (0 + 22) + e by unfold xP; omega, h6, tgE_ok (ordN_in ho) h5 (uM_v 0), show nthO (tG c k o) e = _ from h8, nthO_eq o]
  refine hFC.2 14 17 82 6 _ [.ref (al 14)] [] _ _ ⟨_, _, rfl, rfl⟩ rfl (by decide) rfl (Or.inr ⟨al 14, [], 14, (tXv 14).2.2.map (sVal (eOf 0 (uM r [Int32.ofNat (ocode o)]) m) al), rfl, ?_⟩) (c_swX l (by omega) hc (kpX_cC hc hk1 hcc) (tG_in hc hk ho) hfil) (fun v2 w2 h => ?_)
  · unfold tW
    rw [List.getElem?_append_left (by rw [List.length_map, List.length_range]; omega), List.getElem?_map, List.getElem?_range (by omega)]
    rfl
  obtain ⟨rfl, r2, j1, j2, rfl⟩ := h
  have kr := g_ret (v := none) hFC (r := uM r [Int32.ofNat (ocode o)]) (w := tW r2 al cy rest 68 tXv) (allL_ok q_t4r k (by omega)) (fun v0 h0 => by rw [eqO_ok h0]; rfl) ⟨rfl, r2, kp_trans hk1 j1, j2, rfl⟩
  exact kr
-- the model
noncomputable def LTW (k : Nat) : sL := [some (.inr (.inr (some (nat_lit 0)))), some (.inr (.inr (some (nat_lit 13)))), some (.inl (.natCast k)), none]
noncomputable def LTW1 (k n : Nat) : sL := [some (.inr (.inr (some (nat_lit 0)))), some (.inr (.inr (some (nat_lit 13)))), some (.inl (.natCast k)), some (.inl (.natCast (Nat.succ n)))]
theorem q_twE : allL 6 (fun k => sEnt [.inr (.inr (some (nat_lit 0))), .inr (.inr (some (nat_lit 13))), .inl (.natCast k)] (PG (nat_lit 177)).2.1 (fun L => eqL eqO L (LTW k))) = true := by decide +kernel
noncomputable def twR (n : Nat) (o : List Nat) : Bool := allL 6 (fun k => sBeg (nat_lit 69) (nat_lit 45) tMv (memB [nat_lit 0, nat_lit 4, nat_lit 5, nat_lit 13, nat_lit 21, nat_lit 22]) ((nat_lit 0, nat_lit 1, .natCast n) :: oArr (nat_lit 13) o) (fun m0 => sx PG (nat_lit 1000) (nat_lit 17) (PG (nat_lit 177)) (fun pc => Nat.beq pc (nat_lit 59)) (fun pc L st pa m => Bool.and (sKC chSt (nat_lit 69) (nat_lit 45) tMv (memB [nat_lit 0, nat_lit 4, nat_lit 5, nat_lit 13, nat_lit 21, nat_lit 22]) m0 m) (Bool.and (kAt (nat_lit 59) (LTW1 k n) [.inr (.inr (some (nat_lit 0)))] pc L st) (allL n (fun i => Bool.and (isE m (nat_lit 21) (nthO o i) (.var (Nat.add (Nat.add (nat_lit 299008) (Nat.mul (nat_lit 6) k)) i))) (isE m (nat_lit 22) (nthO o i) (.var (Nat.add (Nat.add (nat_lit 303104) (Nat.mul (nat_lit 6) k)) i))))))) (fun _ _ m => Bool.and (sKC chSt (nat_lit 69) (nat_lit 45) tMv (memB [nat_lit 0, nat_lit 4, nat_lit 5, nat_lit 13, nat_lit 21, nat_lit 22]) m0 m) false) (nat_lit 0) (LTW k) [] [] m0))
theorem q_twR_4 : allL 4 (fun n => lAll (twR (Nat.succ n)) (ordN (Nat.succ n))) = true := by decide +kernel
theorem q_twR_0 : lAll (twR 5) (chk 0) = true := by decide +kernel
theorem q_twR_1 : lAll (twR 5) (chk 1) = true := by decide +kernel
theorem q_twR_2 : lAll (twR 5) (chk 2) = true := by decide +kernel
theorem q_twR_3 : lAll (twR 5) (chk 3) = true := by decide +kernel
theorem q_twR {n : Nat} {o : List Nat} (hn : 1 ≤ n) (hn5 : n ≤ 5) (ho : o ∈ ordN n) : twR n o = true := by_chk q_twR_4 q_twR_0 q_twR_1 q_twR_2 q_twR_3 hn hn5 ho
theorem q_twr : allL 6 (fun k => allL 6 (fun n => sx PG (nat_lit 10) (nat_lit 17) (PG (nat_lit 177)) (fun _ => false) (fun _ _ _ _ _ => false) (fun v _ m => Bool.and (eqL eqC m []) (eqO v none)) (nat_lit 62) (LTW1 k n) [] [] [])) = true := by decide +kernel
theorem stM_tab : ∀ c, c < 18 → ∀ k, k < dOf c → ∀ i, i < nOf c → eqO (tM c 4).2.2[6 * k + i]? (some (.inl (.natCast (rowS c k (i + 1))))) = true ∧ eqO (tM c 5).2.2[6 * k + i]? (some (.inl (.natCast (colS c k (i + 1))))) = true := by decide +kernel
theorem rs_tab : ∀ c, c < 18 → ∀ k, k < dOf c → ∀ i, i < nOf c → rowS c k (i + 1) < 5 ∧ colS c k (i + 1) < 5 := by decide +kernel
theorem pn_tab : lAll (fun o => allL 5 (fun p => Nat.beq (nthO o (Nat.sub (plO (Nat.succ p) o) (nat_lit 1))) (Nat.succ p))) ORDS = true := by decide +kernel
/-- the model's tellsWhole -/
theorem c_tw (l : Launch) {c d k : Nat} {r : sE} {o : List Nat} (hd : 17 ≤ d) (hc : c < 18) (hk : k < dOf c) (hcc : cC 69 45 (tM c) r) (hnr : r.1 (mP 0 1) = Int32.ofNat (nOf c)) (ho : o ∈ ordN (nOf c)) (hO : hasO r 13 o) : gMet l D cy al d 177 (tW r al cy rest 45 tMv) [.ref (al 0), .ref (al 13), .int (Int32.ofNat k)] (fun v w => v = none ∧ ∃ r1, kpC chSt 69 45 tMv r r1 ∧ (∀ j, j < dOf c → r1.1 (mP 24 j) = Int32.ofInt (cwT c (tG c k o) j)) ∧ w = tW r1 al cy rest 45 tMv) := by
  refine gMet_up hd ?_
  obtain ⟨⟨d1, d6⟩, n1, n5⟩ := cd_tab c hc
  have key := gMet_of (l := l) (D := D) (cy := cy) (al := al) (d := 17) (k := 177) (w := tW r al cy rest 45 tMv) (r := r) (G := fun v w => v = none ∧ ∃ r1, kpC chSt 69 45 tMv r r1 ∧ (∀ j, j < dOf c → r1.1 (mP 24 j) = Int32.ofInt (cwT c (tG c k o) j)) ∧ w = tW r1 al cy rest 45 tMv) (allL_ok q_twE k (by omega)) (fun At hFC => ?_)
  · rw [show List.map (sVal r al) [.inr (.inr (some (nat_lit 0))), .inr (.inr (some (nat_lit 13))), .inl (.natCast k)] = [.ref (al 0), .ref (al 13), .int (Int32.ofNat k)] by simp only [List.map_cons, List.map_nil, sVal, sI_c]] at key
    exact key
  refine g_segC (Ch := chSt) hFC (r := r) (al := al) (cy := cy) (rest := rest) (by omega) tMv_ok (cC_M _) sPa_nil (oM_cons (by rw [sI_c]; exact hnr) (oArr_ok hO)) (allL_ok (q_twR n1 n5 ho) k (by omega)) (fun m0 pc L st pa m h1 h2 hkp => ?_) (fun m0 v pa m h1 => nomatch h1)
  rw [Bool.and_eq_true] at h1
  obtain ⟨rfl, rfl, rfl⟩ := kAt_ok h1.1
  have hF : FF (nOf c) (colT c (tG c k o)) (rowT c (tG c k o)) (eOf 69 r m) := by
    have get : ∀ p, 1 ≤ p → p ≤ nOf c → ((eOf 69 r m).1 (mP 22 p) = Int32.ofNat (colT c (tG c k o) p) ∧ colT c (tG c k o) p < 5) ∧ (eOf 69 r m).1 (mP 21 p) = Int32.ofNat (rowT c (tG c k o) p) ∧ rowT c (tG c k o) p < 5 := fun p g1 g2 => by
      obtain ⟨p, rfl⟩ : ∃ e, p = e + 1 := ⟨p - 1, by omega⟩
      obtain ⟨l1, l2⟩ := pl_le n1 n5 ho g1 g2
      have e1 := Nat.eq_of_beq_eq_true (allL_ok (lAll_ok pn_tab o (ordN_in ho)) p (by omega))
      generalize hi : Nat.sub (plO (Nat.succ p) o) (nat_lit 1) = i at e1
      have hin : i < nOf c := by
        rw [← hi]
        show plO (p + 1) o - 1 < nOf c
        omega
      have h3 := allL_ok h1.2 i hin
      rw [Bool.and_eq_true] at h3
      have h7 := q_tg hc hk ho
      unfold tgT at h7
      rw [Bool.and_eq_true, Bool.and_eq_true] at h7
      have h8 := allL_ok h7.2.2 i hin
      rw [Bool.and_eq_true] at h8
      have r8 := Nat.eq_of_beq_eq_true h8.1
      have c8 := Nat.eq_of_beq_eq_true h8.2
      have e1' : nthO o i = p + 1 := e1
      rw [e1'] at h3 r8 c8
      obtain ⟨t1, t2⟩ := stM_tab c hc k hk i hin
      obtain ⟨b1, b2⟩ := rs_tab c hc k hk i hin
      have w1 := isE_ok (b := 69) (r := r) (show p + 1 < 4096 by omega) h3.1
      have w2 := isE_ok (b := 69) (r := r) (show p + 1 < 4096 by omega) h3.2
      have s1 : r.1 (mP 4 (6 * k + i)) = Int32.ofNat (rowS c k (i + 1)) := (hcc 4 (by omega) (6 * k + i) _).1 (eqO_ok t1)
      have s2 : r.1 (mP 5 (6 * k + i)) = Int32.ofNat (colS c k (i + 1)) := (hcc 5 (by omega) (6 * k + i) _).1 (eqO_ok t2)
      refine ⟨⟨?_, by rw [c8]; exact b2⟩, ?_, by rw [r8]; exact b1⟩
      · refine w2.trans ?_
        rw [c8]
        show sI r (.var (303104 + 6 * k + i)) = Int32.ofNat (colS c k (i + 1))
        rw [sI_v, ← s2]
        exact congrArg r.1 (show 303104 + 6 * k + i = mP 5 (6 * k + i) by unfold mP; omega)
      · refine w1.trans ?_
        rw [r8]
        show sI r (.var (299008 + 6 * k + i)) = Int32.ofNat (rowS c k (i + 1))
        rw [sI_v, ← s1]
        exact congrArg r.1 (show 299008 + 6 * k + i = mP 4 (6 * k + i) by unfold mP; omega)
    exact ⟨fun p g1 g2 => (get p g1 g2).1, fun p g1 g2 => (get p g1 g2).2⟩
  refine hFC.2 59 62 176 16 _ [.ref (al 0)] [] _ _ ⟨_, _, rfl, rfl⟩ rfl (by decide) rfl (gRecv_t (by omega) rfl rfl) (c_str l hc (kpM_cC hc (kp_St hkp) hcc) (by rw [(kp_St hkp).1 _ kpM_regs.1.1 kpM_regs.1.2]; exact hnr) hF) (fun v2 w2 h => ?_)
  obtain ⟨rfl, r2, j1, j2, rfl⟩ := h
  exact g_ret (v := none) hFC (r := r) (w := tW r2 al cy rest 45 tMv) (allL_ok (allL_ok q_twr k (by omega)) (nOf c) (by omega)) (fun v0 h0 => by rw [eqO_ok h0]; rfl) ⟨rfl, r2, kpC_trans hkp j1, j2, rfl⟩
end TC
