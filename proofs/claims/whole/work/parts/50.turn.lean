/-! 50: turn (by wip/whole/mk50.py) -/
noncomputable def LTu (a0 : Nat) : sL := [some (refV (nat_lit 0)), some (.inl (dA (nat_lit 819200) (nat_lit 0) (nat_lit 4) a0))]
noncomputable def kRg (a0 : Nat) : Bool := Nat.ble (nat_lit 2) a0
theorem q_tuE : allL 6 (fun a0 => sEnt [refV (nat_lit 0), .inl (dA (nat_lit 819200) (nat_lit 0) (nat_lit 4) a0)] (PG (nat_lit 95)).2.1 (fun L => eqL eqO L (LTu a0))) = true := by decide +kernel
theorem q_tuX : allL 6 (fun a0 => sBeg (nat_lit 0) (nat_lit 68) tXv KXr [] (fun x0 => sx PG (nat_lit 10000) (nat_lit 200) (PG (nat_lit 95)) (fun pc => Nat.beq pc (nat_lit 17))
  (fun pc L st _ x => Bool.and (Nat.beq pc (nat_lit 17)) (Bool.and (Bool.and (kRg a0) (eqL eqO L (LTu a0))) (Bool.and (eqL eqC x x0) (eqL eqV st [.inl (.var (Nat.add (nat_lit 139264) (shC a0))), .inl (.natCast (shC a0)), refV (nat_lit 0)]))))
  (fun v _ x => Bool.and (refX v) (Bool.and (Bool.not (kRg a0)) (eqL eqC x x0))) (nat_lit 0) (LTu a0) [] (dP (nat_lit 819200) (nat_lit 0) (nat_lit 4) a0 []) x0)) = true := by decide +kernel
theorem q_tuXR : allL 6 (fun a0 => allL 11 (fun n => sx PG 10 200 (PG 95) (fun _ => false) (fun _ _ _ _ _ => false) (fun v _ m => Bool.and (eqL eqC m []) (eqO v (some (.inl (.natCast n))))) 23 (LTu a0) [.inl (.natCast n)] [] [])) = true := by decide +kernel
noncomputable def LTm (a0 : Nat) : sL := [some (refV (nat_lit 0)), some (.inl (dA (nat_lit 819200) (nat_lit 0) (nat_lit 4) a0)), none]
noncomputable def LTm6 (a0 : Nat) : sL := [some (refV (nat_lit 0)), some (.inl (dA (nat_lit 819200) (nat_lit 0) (nat_lit 4) a0)), some (.inl (.natCast (nat_lit 6)))]
theorem q_tuEm : allL 6 (fun a0 => sEnt [refV (nat_lit 0), .inl (dA (nat_lit 819200) (nat_lit 0) (nat_lit 4) a0)] (PG (nat_lit 163)).2.1 (fun L => eqL eqO L (LTm a0))) = true := by decide +kernel
theorem q_tuM : allL 6 (fun a0 => sBeg (nat_lit 69) (nat_lit 45) tMv KMb0 [] (fun m0 => sx PG (nat_lit 10000) (nat_lit 200) (PG (nat_lit 163)) (fun pc => Nat.beq pc (nat_lit 9))
  (fun pc L st _ m => Bool.and (Nat.beq pc (nat_lit 9)) (Bool.and (Bool.and (kRg a0) (eqL eqO L (LTm a0))) (Bool.and (eqL eqV st []) (eqL eqC m m0))))
  (fun v _ m => Bool.and (refX v) (Bool.and (Bool.not (kRg a0)) (eqL eqC m m0))) (nat_lit 0) (LTm a0) [] (dP (nat_lit 819200) (nat_lit 0) (nat_lit 4) a0 []) m0)) = true := by decide +kernel
/-- a register's row of the model is told -/
noncomputable def oReg (q : Nat) (o : List Nat) : List sOv := [(nat_lit 6, Nat.add (Nat.mul (nat_lit 6) q) (nat_lit 1), .natCast (nthO o (nat_lit 0))), (nat_lit 6, Nat.add (Nat.mul (nat_lit 6) q) (nat_lit 2), .natCast (nthO o (nat_lit 1))), (nat_lit 6, Nat.add (Nat.mul (nat_lit 6) q) (nat_lit 3), .natCast (nthO o (nat_lit 2))), (nat_lit 6, Nat.add (Nat.mul (nat_lit 6) q) (nat_lit 4), .natCast (nthO o (nat_lit 3))), (nat_lit 6, Nat.add (Nat.mul (nat_lit 6) q) (nat_lit 5), .natCast (nthO o (nat_lit 4)))]
theorem oReg_ok {r : sE} {q : Nat} {o : List Nat} (h : ∀ i, i < 5 → r.1 (mP 6 (6 * q + 1) + i) = Int32.ofNat (o.getD i 0)) : oMs r (oReg q o) := by
  have k : ∀ i, i < 5 → r.1 (mP 6 (6 * q + (1 + i))) = sI r (.natCast (nthO o i)) := fun i hi => by
    rw [sI_c, nthO_eq, ← h i hi]
    exact congrArg r.1 (by unfold mP; omega)
  exact oM_cons (k 0 (by omega)) (oM_cons (k 1 (by omega)) (oM_cons (k 2 (by omega)) (oM_cons (k 3 (by omega)) (oM_cons (k 4 (by omega)) oM_nil))))
theorem q_tuM2 : allL 4 (fun q => lAll (fun od => sBeg (nat_lit 69) (nat_lit 45) tMv KMb0 (oReg q od) (fun m0 => sx PG (nat_lit 10000) (nat_lit 200) (PG (nat_lit 163)) (fun pc => Nat.beq pc (nat_lit 41))
  (fun pc L st _ m => Bool.and (Nat.beq pc (nat_lit 41)) (Bool.and (eqL eqO L (LTm6 (Nat.add (nat_lit 2) q))) (Bool.and (Bool.and (fitM (nat_lit 69) (nat_lit 45) tMv KMb0 m) (frM (nat_lit 69) (chN [nat_lit 83]) m0 (nat_lit 0) m)) (Bool.and (eqL eqV st [.inl (.natCast q), refV (nat_lit 0)]) (allL (nat_lit 5) (fun i => isE m (nat_lit 14) (Nat.succ i) (.natCast (nthO (invO od) i))))))))
  (fun v _ m => false) (nat_lit 9) (LTm (Nat.add (nat_lit 2) q)) [] [] m0)) ORDS) = true := by decide +kernel
theorem q_tuMR : allL 6 (fun a0 => allL 11 (fun n => sx PG 10 200 (PG 163) (fun _ => false) (fun _ _ _ _ _ => false) (fun v _ m => Bool.and (eqL eqC m []) (eqO v (some (.inl (.natCast n))))) 44 (LTm6 a0) [.inl (.natCast n)] [] [])) = true := by decide +kernel
theorem op_turn {l : Launch} {D : va_G} {cy : Nat → ClassId} {alX alM : Nat → Nat} : OpI l D cy alX alM 95 163 1 := by
  intro r as hI hlen
  obtain ⟨a0, rfl⟩ : ∃ a0, as = [a0] := by
    match as, hlen with
    | [a0], _ => exact ⟨a0, rfl⟩
  refine OpOk_uA [a0] ?_
  replace hI := Inv_uA (as := [a0]) hI
  have e0 : (uA r [a0]).1 819200 = a0 := uA_a 0
  generalize uA r [a0] = r at hI e0 ⊢
  obtain ⟨c0, hc0, hp0, hv0⟩ := dP_ok r 819200 (lo := 0) (n := 4) (Or.inr (by omega)) (by omega)
  rw [e0] at hv0
  obtain ⟨c, hc, hcc, hcm⟩ := hI
  obtain ⟨⟨-, hn1, -⟩, hn2, -⟩ := CC_nd hc hcc
  obtain ⟨-, nn1, nn2⟩ := cd_tab c hc
  obtain ⟨z, z1, z2, z3, z4⟩ := (show cT (nOf c) r from hcm 8 (by omega))
  have hs : c0 - 2 < 4 := by omega
  have hR := hcm (c0 - 2) (by omega)
  rw [Comp_R hs] at hR
  obtain ⟨od, ho, ho1, ho2⟩ := hR
  have hinv := invO_in nn1 nn2 ho
  have as0 : ∀ al : Nat → Nat, List.map (sVal r al) [refV (nat_lit 0), .inl (dA (nat_lit 819200) (nat_lit 0) (nat_lit 4) c0)] = .ref (al 0) :: List.map Value.int [a0] := fun al => by
    show [Value.ref (al 0), Value.int (sI r (dA 819200 0 4 c0))] = _
    rw [hv0]
    rfl
  have bad : sI r (.natCast (nat_lit 4294967295)) = -1 := by rw [sI_c]; rfl
  refine ⟨fun v r1 => (v = some (.int (-1)) ∧ kRg c0 = false ∧ r1 = r) ∨ (kRg c0 = true ∧ v = some (.int (Int32.ofNat (lenO (invO od)))) ∧ PuX z (c0 - 2) (invO od) r r1 ∧ cC 0 68 (tX c) r1), fun rest => ?_, fun v r1 hmid rest => ?_, fun v r1 hmid => Or.inl ⟨rfl, by rcases hmid with ⟨h, -⟩ | ⟨-, h, -⟩ <;> exact ⟨_, h⟩⟩⟩
  · rw [← as0 alX]
    have h1 := allL_ok q_tuX c0 hc0
    unfold sBeg at h1
    rw [Bool.and_eq_true] at h1
    have hP1 := ovP_msk (r := r) (al := alX) (n := 68) (t := tXv) (K := KXr)
    have hw1 : sW r alX cy (mHid r alX cy tXv) rest (ovr [] (msk (nat_lit 68) tXv KXr)) = tW r alX cy rest 68 tXv := ovP_w (cy := cy) (rest := rest) (fun i hi => (tXv_can i hi).1) hP1
    refine gMet_of (allL_ok q_tuE c0 hc0) (fun At hFC => ?_)
    rw [← hw1]
    refine hFC.1 r _ rest _ _ _ _ 0 (LTu c0) [] _ _ h1.2 (hp0 _ sPa_nil) (fun pc L st pa x hk hp => ?_) (fun v pa x hk hp => ?_)
    · simp only [Bool.and_eq_true] at hk
      obtain ⟨k1, ⟨k2, k3⟩, k4, k5⟩ := hk
      have e1 : pc = 17 := Nat.eq_of_beq_eq_true k1
      have e2 := eqL_ok (fun _ _ => eqO_ok) _ _ k3
      have e3 := eqL_ok eqC_ok _ _ k4
      have e4 := eqL_ok (fun _ _ => eqV_ok) _ _ k5
      subst e1 e2 e3 e4
      rw [hw1]
      have es : List.map (sVal r alX) [.inl (.var (Nat.add (nat_lit 139264) (shC c0))), .inl (.natCast (shC c0)), refV (nat_lit 0)] = ([.int (Int32.ofNat (ocode od))] : List Value).reverse ++ [.int (Int32.ofNat (c0 - 2)), .ref (alX 0)] := by
        simp only [List.map_cons, List.map_nil, sVal, sI_c, sI_v]
        rw [show r.1 (Nat.add (nat_lit 139264) (shC c0)) = Int32.ofNat (ocode od) from ho1]
        rfl
      rw [es]
      refine hFC.2 17 20 9 199 _ _ _ _ _ ⟨_, _, rfl, rfl⟩ rfl (by show 1 + (1 + 0) ≤ 8; omega) rfl (Or.inl rfl) (c_turn l (by omega) (ordN_in ho)) (fun v w2 h => ?_)
      obtain ⟨rfl, rfl⟩ := h
      rw [codeO_eq (ordN_in hinv)]
      exact x_tail hFC (by omega) ⟨_, _, rfl, rfl⟩ (fun n hn => allL_ok (allL_ok q_tuXR c0 hc0) n hn) hs z1 z2 (ordN_in hinv) hc hcc.1 (fun r1 g1 g2 => ⟨r1, Or.inr ⟨k2, rfl, g1, g2⟩, rfl⟩)
    · simp only [Bool.and_eq_true] at hk
      obtain ⟨k1, k2, k3⟩ := hk
      have e3 := eqL_ok eqC_ok _ _ k3
      subst e3
      rw [hw1, eqO_ok k1]
      refine ⟨r, Or.inl ⟨?_, by simpa using k2, rfl⟩, rfl⟩
      show some (Value.int (sI r (.natCast (nat_lit 4294967295)))) = _
      rw [bad]
  · rw [← as0 alM]
    have h1 := allL_ok q_tuM c0 hc0
    unfold sBeg at h1
    rw [Bool.and_eq_true] at h1
    have hP1 := ovP_msk (r := r) (al := alM) (n := 45) (t := tMv) (K := KMb0)
    have hw1 : sW r alM cy (mHid r alM cy tMv) rest (ovr [] (msk (nat_lit 45) tMv KMb0)) = tW r alM cy rest 45 tMv := ovP_w (cy := cy) (rest := rest) (fun i hi => (tMv_can i hi).1) hP1
    refine gMet_of (allL_ok q_tuEm c0 hc0) (fun At hFC => ?_)
    rw [← hw1]
    refine hFC.1 r _ rest _ _ _ _ 0 (LTm c0) [] _ _ h1.2 (hp0 _ sPa_nil) (fun pc L st pa m hk hp => ?_) (fun v2 pa m hk hp => ?_)
    · simp only [Bool.and_eq_true] at hk
      obtain ⟨k1, ⟨k2, k3⟩, k4, k5⟩ := hk
      have e1 : pc = 9 := Nat.eq_of_beq_eq_true k1
      have e2 := eqL_ok (fun _ _ => eqO_ok) _ _ k3
      have e3 := eqL_ok (fun _ _ => eqV_ok) _ _ k4
      have e4 := eqL_ok eqC_ok _ _ k5
      subst e1 e2 e3 e4
      rw [hw1]
      have b1 : 2 ≤ c0 := Nat.le_of_ble_eq_true k2
      rcases hmid with ⟨-, q2, -⟩ | ⟨-, rfl, q3, q4⟩
      · rw [k2] at q2; cases q2
      have h2 := lAll_ok (allL_ok q_tuM2 (c0 - 2) hs) od (ordN_in ho)
      rw [show Nat.add (nat_lit 2) (c0 - 2) = c0 from (show 2 + (c0 - 2) = c0 by omega)] at h2
      unfold sBeg at h2
      rw [Bool.and_eq_true] at h2
      have hP2 := ovP_ovr (b := 69) (ovP_msk (r := r) (al := alM) (n := 45) (t := tMv) (K := KMb0)) _ h2.1 (oReg_ok ho2)
      have hw2 := ovP_w (cy := cy) (rest := rest) (fun i hi => (tMv_can i hi).1) hP2
      rw [← hw2]
      refine hFC.1 r _ rest _ _ _ _ 9 (LTm c0) [] _ _ h2.2 sPa_nil (fun pc L st pa m hk hp => ?_) (fun v2 pa m hk hp => nomatch hk)
      simp only [Bool.and_eq_true] at hk
      obtain ⟨j1, j2, ⟨j3, j4⟩, j5, j6⟩ := hk
      have f1 : pc = 41 := Nat.eq_of_beq_eq_true j1
      have f2 := eqL_ok (fun _ _ => eqO_ok) _ _ j2
      have f3 := eqL_ok (fun _ _ => eqV_ok) _ _ j5
      subst f1 f2 f3
      rw [fit_w j3 (fun i hi hK => ⟨rfl, (tMv_can i hi).2⟩)]
      have fr : ∀ u, isV 69 45 tMv u = true → chN [83] u = false → (eOf 69 r m).1 u = r.1 u := fun u hu hcu => fr_ok (fun i hi => (tMv_can i hi).1) hP2 j3 j4 hu hcu
      have hmO : hasO (eOf 69 r m) 14 (invO od) := fun i hi => by
        have := isE_ok (b := 69) (r := r) (show Nat.succ i < 4096 by omega) (allL_ok j6 i hi)
        have e1 : mP 14 (1 + i) = 4096 * (69 + 14) + Nat.succ i := by unfold mP; omega
        rw [e1, this, sI_c, nthO_eq]
      have v17 : isV 69 45 tMv (mP 0 17) = true ∧ chN [83] (mP 0 17) = false ∧ isV 69 45 tMv (mP 0 1) = true ∧ chN [83] (mP 0 1) = false := by decide +kernel
      have es : List.map (sVal r alM) [.inl (.natCast (c0 - 2)), refV (nat_lit 0)] = ([.int (Int32.ofNat (c0 - 2)), .ref (alM 0)] : List Value) := by
        simp only [List.map_cons, List.map_nil, sVal, sI_c]
        rfl
      rw [es]
      refine m_tail hFC (by omega) ⟨_, _, rfl, rfl⟩ (fun n hn => allL_ok (allL_ok q_tuMR c0 hc0) n hn) hs z1 ((fr _ v17.1 v17.2.1).trans z3) nn1 nn2 ((fr _ v17.2.2.1 v17.2.2.2).trans hn2) hinv hmO hc (crC_ok (allL_ok crP_M0 c hc) (tM_ok hc) tMv_ok (cv_gen (tM_ok hc)) hP2 j3 (frM_mono (chNN_of (by decide +kernel) (by decide +kernel)) _ _ _ j4) hcc.2) (fun r2 g1 g2 => ⟨rfl, r2, rfl, ?_⟩)
      refine Inv_pu hc hcm hs z1 z2 hinv q3 g1 (fun id hid u hu hv => fr u hv ?_) q4 g2
      have := lAll_ok (allL_ok (show allL 12 (fun id => lAll (fun u => Bool.not (chN [83] u)) (cPl id)) = true by decide +kernel) id hid) u hu
      simpa using this
    · simp only [Bool.and_eq_true] at hk
      obtain ⟨k1, k2, k3⟩ := hk
      have e3 := eqL_ok eqC_ok _ _ k3
      subst e3
      rw [hw1, eqO_ok k1]
      rcases hmid with ⟨rfl, -, rfl⟩ | ⟨q2, -⟩
      · refine ⟨?_, r1, rfl, ?_⟩
        · show some (Value.int (sI r1 (.natCast (nat_lit 4294967295)))) = _
          rw [bad]
        · have ee : eB r1 r1 = r1 := by
            unfold eB
            simp only [ite_self]
          rw [ee]
          exact ⟨c, hc, hcc, hcm⟩
      · rw [q2] at k2; cases k2
