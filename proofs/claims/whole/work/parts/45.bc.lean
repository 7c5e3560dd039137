/-! 45: the model's lengthOf, becomes -/
noncomputable def oArr (cell : Nat) (o : List Nat) : List sOv := [(cell, nat_lit 1, .natCast (nthO o (nat_lit 0))), (cell, nat_lit 2, .natCast (nthO o (nat_lit 1))), (cell, nat_lit 3, .natCast (nthO o (nat_lit 2))), (cell, nat_lit 4, .natCast (nthO o (nat_lit 3))), (cell, nat_lit 5, .natCast (nthO o (nat_lit 4)))]
/-- a row of five numbers lies in a cell of the model, from place 1 on -/
def hasO (r : sE) (cell : Nat) (o : List Nat) : Prop := ∀ i, i < 5 → r.1 (mP cell (1 + i)) = Int32.ofNat (o.getD i 0)
theorem oArr_ok {r : sE} {cell : Nat} {o : List Nat} (h : hasO r cell o) : oMs r (oArr cell o) := by
  have k : ∀ i, i < 5 → r.1 (mP cell (1 + i)) = sI r (.natCast (nthO o i)) := fun i hi => by rw [sI_c, nthO_eq]; exact h i hi
  exact oM_cons (k 0 (by omega)) (oM_cons (k 1 (by omega)) (oM_cons (k 2 (by omega)) (oM_cons (k 3 (by omega)) (oM_cons (k 4 (by omega)) oM_nil))))
/-- a run that changes nothing, of the model, with an int as its answer -/
theorem gM_same (l : Launch) {D : va_G} {cy : Nat → ClassId} {al : Nat → Nat} {rest : va_W} {r : sE} {fuel d k n : Nat} {K : Nat → Bool} {ovs : List sOv} {as : List sV} (hov : oMs r ovs) (h : sBeg (nat_lit 69) (nat_lit 45) tMv K ovs (fun m0 => sRun fuel d k [] m0 as (fun v _ m => Bool.and (eqL eqC m m0) (kInt v (fun x => sNum x (fun y => Nat.beq y n))))) = true) : gMet l D cy al d k (tW r al cy rest 45 tMv) (as.map (sVal r al)) (fun v w2 => v = some (.int (Int32.ofNat n)) ∧ w2 = tW r al cy rest 45 tMv) := by
  unfold sBeg at h
  rw [Bool.and_eq_true] at h
  have hP := ovP_ovr (b := 69) (ovP_msk (r := r) (al := al) (n := 45) (t := tMv) (K := K)) _ h.1 hov
  have hw := ovP_w (cy := cy) (rest := rest) (fun i hi => (tMv_can i hi).1) hP
  rw [← hw]
  refine gMet_run l sPa_nil h.2 (fun v pa m h1 h2 => ?_)
  rw [Bool.and_eq_true] at h1
  have e := eqL_ok eqC_ok _ _ h1.1
  subst e
  obtain ⟨x, rfl, h3⟩ := kInt_ok h1.2
  obtain ⟨y, rfl, h4⟩ := sNum_ok h3
  refine ⟨?_, rfl⟩
  show some (Value.int (sI r (.natCast y))) = _
  rw [sI_c, Nat.eq_of_beq_eq_true h4]
noncomputable def KMl (cell : Nat) : Nat → Bool := memB [nat_lit 0, cell]
theorem q_lenM : allL 5 (fun n => lAll (fun o => sBeg (nat_lit 69) (nat_lit 45) tMv (KMl (nat_lit 14)) ((nat_lit 0, nat_lit 1, .natCast (Nat.succ n)) :: oArr (nat_lit 14) o) (fun m0 => sRun (nat_lit 10000) (nat_lit 2) (nat_lit 157) [] m0 [.inr (.inr (some (nat_lit 0))), .inr (.inr (some (nat_lit 14)))] (fun v _ m => Bool.and (eqL eqC m m0) (kInt v (fun x => sNum x (fun y => Nat.beq y (lenO o))))))) (ordN (Nat.succ n))) = true := by decide +kernel
/-- LENGTH of the model, of what is made -/
theorem c_lenM (l : Launch) {D : va_G} {cy : Nat → ClassId} {al : Nat → Nat} {rest : va_W} {r : sE} {d n : Nat} {o : List Nat} (hd : 2 ≤ d) (hn : 1 ≤ n) (hn5 : n ≤ 5) (hnr : r.1 (mP 0 1) = Int32.ofNat n) (ho : o ∈ ordN n) (hm : hasO r 14 o) : gMet l D cy al d 157 (tW r al cy rest 45 tMv) [.ref (al 0), .ref (al 14)] (fun v w2 => v = some (.int (Int32.ofNat (lenO o))) ∧ w2 = tW r al cy rest 45 tMv) := by
  have h := allL_ok q_lenM (n - 1) (by omega)
  rw [show Nat.succ (n - 1) = n by omega] at h
  exact gMet_up hd (gM_same l (oM_cons (by rw [sI_c]; exact hnr) (oArr_ok hm)) (lAll_ok h o ho))
noncomputable def KMb0 : Nat → Bool := memB [nat_lit 0, nat_lit 6, nat_lit 14]
noncomputable def KMb1 : Nat → Bool := memB [nat_lit 0, nat_lit 6, nat_lit 14, nat_lit 15]
noncomputable def mO (q i : Nat) : Nat := Nat.add (Nat.add (nat_lit 307201) (Nat.mul (nat_lit 6) q)) i
noncomputable def mMd (i : Nat) : Nat := Nat.add (nat_lit 339969) i
noncomputable def LBc (q so : Nat) : sL := [some (.inr (.inr (some (nat_lit 0)))), some (.inl (.natCast q)), some (.inl (.natCast so)), some (.inl (.natCast (nat_lit 6)))]
noncomputable def LB0 (q : Nat) : sL := [some (.inr (.inr (some (nat_lit 0)))), some (.inl (.natCast q)), none, none]
theorem q_bcE : allL 4 (fun q => sEnt [.inr (.inr (some (nat_lit 0))), .inl (.natCast q)] (PG (nat_lit 160)).2.1 (fun L => eqL eqO L (LB0 q))) = true := by decide +kernel
/-- the comparing -/
noncomputable def ksB1 (q : Nat) (m0 : sM) : sKs := fun pc L st pa m => Bool.and (Nat.beq pc (nat_lit 43)) (Bool.and (Bool.and (eqL eqV st []) (eqL eqC m m0)) (Bool.or (Bool.and (eqL eqO L (LBc q (nat_lit 1))) (allL (nat_lit 5) (fun i => paY (.var (mO q i)) (.var (mMd i)) pa))) (Bool.and (eqL eqO L (LBc q (nat_lit 0))) (Bool.not (allL (nat_lit 5) (fun i => Bool.not (paN (.var (mO q i)) (.var (mMd i)) pa)))))))
theorem q_bc1 : allL 4 (fun q => sBeg (nat_lit 69) (nat_lit 45) tMv KMb0 [] (fun m0 => sx PG (nat_lit 10000) (nat_lit 5) (PG (nat_lit 160)) (fun pc => Nat.beq pc (nat_lit 43)) (ksB1 q m0) (fun _ _ _ => false) (nat_lit 0) (LB0 q) [] [] m0)) = true := by decide +kernel
noncomputable def pshM (z q : Nat) (m : sM) : Bool := Bool.rec (motive := fun _ => Bool)
  (Bool.and (isE m (nat_lit 0) (nat_lit 17) (.natCast (Nat.succ z))) (Bool.and (isE m (nat_lit 15) (Nat.mul (nat_lit 6) z) (.natCast q)) (allL (nat_lit 5) (fun i => isE m (nat_lit 15) (Nat.add (Nat.add (Nat.mul (nat_lit 6) z) (nat_lit 1)) i) (.var (mO q i))))))
  (Bool.and (isE m (nat_lit 0) (nat_lit 17) (.natCast (nat_lit 10))) (Bool.and (Bool.and (isE m (nat_lit 15) (nat_lit 54) (.natCast q)) (allL (nat_lit 5) (fun i => isE m (nat_lit 15) (Nat.add (nat_lit 55) i) (.var (mO q i))))) (allL (nat_lit 54) (fun i => isE m (nat_lit 15) i (.var (Nat.add (nat_lit 344070) i))))))
  (Nat.beq z (nat_lit 10))
noncomputable def chM (z q u : Nat) : Bool := Bool.or (Bool.or (Nat.beq u (nat_lit 282641)) (Bool.and (Nat.ble (mO q (nat_lit 0)) u) (Nat.ble u (mO q (nat_lit 4))))) (Bool.rec (motive := fun _ => Bool) (Bool.and (Nat.ble (Nat.add (nat_lit 344064) (Nat.mul (nat_lit 6) z)) u) (Nat.ble (Nat.succ u) (Nat.add (nat_lit 344070) (Nat.mul (nat_lit 6) z)))) (Nat.beq (Nat.div u (nat_lit 4096)) (nat_lit 84)) (Nat.beq z (nat_lit 10)))
noncomputable def ckBc (z q : Nat) (m0 m : sM) : Bool := Bool.and (frM (nat_lit 69) (chM z q) m0 (nat_lit 0) m) (Bool.and (allL (nat_lit 5) (fun i => isE m (nat_lit 6) (Nat.add (Nat.add (Nat.mul (nat_lit 6) q) (nat_lit 1)) i) (.var (mMd i)))) (pshM z q m))
noncomputable def stBc : List sV := [.inr (.inr (some (nat_lit 14))), .inr (.inr (some (nat_lit 0)))]
theorem q_bc2 : allL 11 (fun z => allL 4 (fun q => sBeg (nat_lit 69) (nat_lit 45) tMv KMb1 [(nat_lit 0, nat_lit 17, .natCast z)] (fun m0 => sx PG (nat_lit 10000) (nat_lit 5) (PG (nat_lit 160)) (fun pc => Nat.beq pc (nat_lit 191)) (fun pc L st pa m => Bool.and (Nat.beq pc (nat_lit 191)) (Bool.and (Bool.and (eqL eqO L (LBc q (nat_lit 0))) (eqL eqV st stBc)) (Bool.and (fitM (nat_lit 69) (nat_lit 45) tMv KMb1 m) (ckBc z q m0 m)))) (fun _ _ _ => false) (nat_lit 43) (LBc q (nat_lit 0)) [] [] m0))) = true := by decide +kernel
theorem q_bc3 : allL 4 (fun q => sBeg (nat_lit 69) (nat_lit 45) tMv KMb1 [] (fun m0 => sx PG (nat_lit 10000) (nat_lit 5) (PG (nat_lit 160)) (fun pc => Nat.beq pc (nat_lit 191)) (fun pc L st pa m => Bool.and (Nat.beq pc (nat_lit 191)) (Bool.and (Bool.and (eqL eqO L (LBc q (nat_lit 1))) (eqL eqV st stBc)) (eqL eqC m m0))) (fun _ _ _ => false) (nat_lit 43) (LBc q (nat_lit 1)) [] [] m0)) = true := by decide +kernel
theorem q_bcR : allL 11 (fun n => allL 4 (fun q => allL 2 (fun so => sx PG (nat_lit 10) (nat_lit 5) (PG (nat_lit 160)) (fun _ => false) (fun _ _ _ _ _ => false) (fun v _ m => Bool.and (eqL eqC m []) (eqO v (some (.inl (.natCast n))))) (nat_lit 194) (LBc q so) [.inl (.natCast n)] [] []))) = true := by decide +kernel
theorem mO_eq (q i : Nat) : mO q i = mP 6 (6 * q + 1) + i := by
  show 307201 + 6 * q + i = 4096 * (69 + 6) + (6 * q + 1) + i
  omega
theorem mMd_eq (i : Nat) : mMd i = mP 14 (1 + i) := by
  show 339969 + i = 4096 * (69 + 14) + (1 + i)
  omega
/-- a register becomes what was made, of the model -/
theorem c_bc (l : Launch) {D : va_G} {cy : Nat → ClassId} {al : Nat → Nat} {rest : va_W} {r : sE} {d q z n : Nat} {o : List Nat} (hd : 5 ≤ d) (hq : q < 4) (hz : z ≤ 10) (h17 : r.1 (mP 0 17) = Int32.ofNat z) (hn : 1 ≤ n) (hn5 : n ≤ 5) (hnr : r.1 (mP 0 1) = Int32.ofNat n) (ho : o ∈ ordN n) (hm : hasO r 14 o) :
    gMet l D cy al d 160 (tW r al cy rest 45 tMv) [.ref (al 0), .int (Int32.ofNat q)] (fun v w2 => v = some (.int (Int32.ofNat (lenO o))) ∧ (((∀ i, i < 5 → r.1 (mP 6 (6 * q + 1) + i) = r.1 (mP 14 (1 + i))) ∧ w2 = tW r al cy rest 45 tMv) ∨ ((∃ i, i < 5 ∧ r.1 (mP 6 (6 * q + 1) + i) ≠ r.1 (mP 14 (1 + i))) ∧ ∃ m0 m, ovP r al 45 tMv KMb1 m0 ∧ fitM 69 45 tMv KMb1 m = true ∧ ckBc z q m0 m = true ∧ w2 = tW (eOf 69 r m) al cy rest 45 tMv))) := by
  refine gMet_up hd ?_
  generalize hG : (fun (v : Option Value) (w2 : va_W) => v = some (Value.int (Int32.ofNat (lenO o))) ∧ (((∀ i, i < 5 → r.1 (mP 6 (6 * q + 1) + i) = r.1 (mP 14 (1 + i))) ∧ w2 = tW r al cy rest 45 tMv) ∨ ((∃ i, i < 5 ∧ r.1 (mP 6 (6 * q + 1) + i) ≠ r.1 (mP 14 (1 + i))) ∧ ∃ m0 m, ovP r al 45 tMv KMb1 m0 ∧ fitM 69 45 tMv KMb1 m = true ∧ ckBc z q m0 m = true ∧ w2 = tW (eOf 69 r m) al cy rest 45 tMv))) = G
  have can := fun i (hi : i < 45) => (tMv_can i hi).1
  have h1 := allL_ok q_bc1 q hq
  unfold sBeg at h1
  rw [Bool.and_eq_true] at h1
  have hP1 := ovP_msk (r := r) (al := al) (n := 45) (t := tMv) (K := KMb0)
  have hw1 := ovP_w (cy := cy) (rest := rest) can hP1
  have key := gMet_of (l := l) (D := D) (cy := cy) (al := al) (d := 5) (k := 160) (w := tW r al cy rest 45 tMv) (r := r) (G := G) (allL_ok q_bcE q hq) (fun At hFC => ?_)
  · simp only [List.map_cons, List.map_nil, sVal, sI_c] at key
    exact key
  have hl : lenO o ≤ 10 := Nat.le_of_ble_eq_true (lAll_ok lenO_tab o (ordN_in ho))
  -- the call at the end
  have fin : ∀ (so : Nat) (r2 : sE), so < 2 → (r2.1 (mP 0 1) = r.1 (mP 0 1)) → (∀ i, i < 5 → r2.1 (mP 14 (1 + i)) = r.1 (mP 14 (1 + i))) → G (some (.int (Int32.ofNat (lenO o)))) (tW r2 al cy rest 45 tMv) → At 191 ((LBc q so).map (Option.map (sVal r al))) (stBc.map (sVal r al)) (tW r2 al cy rest 45 tMv) := fun so r2 hso g1 g2 g3 => by
    have es : List.map (sVal r al) stBc = ([.ref (al 0), .ref (al 14)] : List Value).reverse ++ [] := rfl
    rw [es]
    refine hFC.2 191 194 157 4 _ [.ref (al 0), .ref (al 14)] [] _ _ ⟨_, _, rfl, rfl⟩ rfl (by decide) rfl (gRecv_t (by omega) rfl rfl) (c_lenM l (by omega) hn hn5 (g1.trans hnr) ho (fun i hi => (g2 i hi).trans (hm i hi))) (fun v w2 h => ?_)
    obtain ⟨rfl, rfl⟩ := h
    have kr := g_ret (v := some (.int (Int32.ofNat (lenO o)))) hFC (r := r) (w := tW r2 al cy rest 45 tMv) (allL_ok (allL_ok (allL_ok q_bcR (lenO o) (by omega)) q hq) so hso) (fun v0 h0 => by
      rw [eqO_ok h0]
      show some (Value.int (sI r (.natCast (lenO o)))) = _
      rw [sI_c]) g3
    rw [show List.map (sVal r al) [.inl (.natCast (lenO o))] = [Value.int (Int32.ofNat (lenO o))] by simp only [List.map_cons, List.map_nil, sVal, sI_c]] at kr
    exact kr
  rw [← hw1]
  refine hFC.1 r _ rest _ _ _ _ 0 (LB0 q) [] [] _ h1.2 sPa_nil (fun pc L st pa m hk hp => ?_) (fun _ _ _ q => nomatch q)
  unfold ksB1 at hk
  simp only [Bool.and_eq_true, Bool.or_eq_true] at hk
  obtain ⟨k1, ⟨k2, k3⟩, k4⟩ := hk
  have e1 : pc = 43 := Nat.eq_of_beq_eq_true k1
  have e2 := eqL_ok (fun _ _ => eqV_ok) _ _ k2
  have e3 := eqL_ok eqC_ok _ _ k3
  subst e1 e2 e3
  have hwe : sW r al cy (mHid r al cy tMv) rest (ovr [] (msk (nat_lit 45) tMv KMb0)) = tW r al cy rest 45 tMv := hw1
  rw [hwe]
  rcases k4 with ⟨k4, k5⟩ | ⟨k4, k5⟩
  · have e4 := eqL_ok (fun _ _ => eqO_ok) _ _ k4
    subst e4
    have heq : ∀ i, i < 5 → r.1 (mP 6 (6 * q + 1) + i) = r.1 (mP 14 (1 + i)) := fun i hi => by
      have := paY_ok hp (allL_ok k5 i hi)
      rw [sI_v, sI_v, mO_eq, mMd_eq] at this
      exact this
    have h3 := allL_ok q_bc3 q hq
    unfold sBeg at h3
    rw [Bool.and_eq_true] at h3
    have hP3 := ovP_msk (r := r) (al := al) (n := 45) (t := tMv) (K := KMb1)
    have hw3 := ovP_w (cy := cy) (rest := rest) can hP3
    rw [← hw3]
    refine hFC.1 r _ rest _ _ _ _ 43 (LBc q 1) [] [] _ h3.2 sPa_nil (fun pc L st pa m hk hp => ?_) (fun _ _ _ q => nomatch q)
    simp only [Bool.and_eq_true] at hk
    obtain ⟨j1, ⟨j2, j3⟩, j4⟩ := hk
    have f1 : pc = 191 := Nat.eq_of_beq_eq_true j1
    have f2 := eqL_ok (fun _ _ => eqO_ok) _ _ j2
    have f3 := eqL_ok (fun _ _ => eqV_ok) _ _ j3
    have f4 := eqL_ok eqC_ok _ _ j4
    subst f1 f2 f3 f4
    have hwe : sW r al cy (mHid r al cy tMv) rest (ovr [] (msk (nat_lit 45) tMv KMb1)) = tW r al cy rest 45 tMv := hw3
    rw [hwe]
    exact fin 1 r (by omega) rfl (fun _ _ => rfl) (by rw [← hG]; exact ⟨rfl, Or.inl ⟨heq, rfl⟩⟩)
  · have e4 := eqL_ok (fun _ _ => eqO_ok) _ _ k4
    subst e4
    have hne : ∃ i, i < 5 ∧ r.1 (mP 6 (6 * q + 1) + i) ≠ r.1 (mP 14 (1 + i)) := by
      apply Classical.byContradiction
      intro hno
      have hall : allL (nat_lit 5) (fun i => Bool.not (paN (.var (mO q i)) (.var (mMd i)) pa)) = true := by
        have one : ∀ i, i < 5 → Bool.not (paN (.var (mO q i)) (.var (mMd i)) pa) = true := fun i hi => by
          cases hb : paN (.var (mO q i)) (.var (mMd i)) pa with
          | false => rfl
          | true =>
            exfalso
            have := paN_ok hp hb
            rw [sI_v, sI_v, mO_eq, mMd_eq] at this
            exact hno ⟨i, hi, this⟩
        show Bool.and _ (Bool.and _ (Bool.and _ (Bool.and _ (Bool.and _ true)))) = true
        simp only [Bool.and_eq_true]
        exact ⟨one 4 (by omega), one 3 (by omega), one 2 (by omega), one 1 (by omega), one 0 (by omega), trivial⟩
      rw [hall] at k5
      cases k5
    have h2 := allL_ok (allL_ok q_bc2 z (by omega)) q hq
    unfold sBeg at h2
    rw [Bool.and_eq_true] at h2
    have hP2 := ovP_ovr (b := 69) (ovP_msk (r := r) (al := al) (n := 45) (t := tMv) (K := KMb1)) _ h2.1 (oM_cons (by rw [sI_c]; exact h17) oM_nil)
    have hw2 := ovP_w (cy := cy) (rest := rest) can hP2
    rw [← hw2]
    refine hFC.1 r _ rest _ _ _ _ 43 (LBc q 0) [] [] _ h2.2 sPa_nil (fun pc L st pa m hk hp => ?_) (fun _ _ _ q => nomatch q)
    simp only [Bool.and_eq_true] at hk
    obtain ⟨j1, ⟨j2, j3⟩, j4, j5⟩ := hk
    have f1 : pc = 191 := Nat.eq_of_beq_eq_true j1
    have f2 := eqL_ok (fun _ _ => eqO_ok) _ _ j2
    have f3 := eqL_ok (fun _ _ => eqV_ok) _ _ j3
    subst f1 f2 f3
    rw [fit_w j4 (fun i hi hK => ⟨rfl, (tMv_can i hi).2⟩)]
    have j6 := j5
    unfold ckBc at j6
    rw [Bool.and_eq_true] at j6
    have fr : ∀ u, isV 69 45 tMv u = true → chM z q u = false → (eOf 69 r m).1 u = r.1 u := fun u hu hc => fr_ok can hP2 j4 j6.1 hu hc
    have v1 : chM z q (mP 0 1) = false ∧ ∀ i, i < 5 → chM z q (mP 14 (1 + i)) = false := by
      have := allL_ok (allL_ok (show allL 11 (fun z => allL 4 (fun q => Bool.and (Bool.not (chM z q (mP 0 1))) (allL 5 (fun i => Bool.not (chM z q (mP 14 (1 + i))))))) = true by decide +kernel) z (by omega)) q hq
      rw [Bool.and_eq_true] at this
      exact ⟨by simpa using this.1, fun i hi => by have := allL_ok this.2 i hi; simpa using this⟩
    have v2 : isV 69 45 tMv (mP 0 1) = true ∧ ∀ i, i < 5 → isV 69 45 tMv (mP 14 (1 + i)) = true := by decide +kernel
    exact fin 0 (eOf 69 r m) (by omega) (fr _ v2.1 v1.1) (fun i hi => fr _ (v2.2 i hi) (v1.2 i hi)) (by rw [← hG]; exact ⟨rfl, Or.inr ⟨hne, _, m, hP2, j4, j5, rfl⟩⟩)
