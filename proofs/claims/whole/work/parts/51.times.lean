/-! 51: times (by wip/whole/mk51.py) -/
noncomputable def LTi (a0 a1 a2 : Nat) : sL := [some (refV (nat_lit 0)), some (.inl (dA (nat_lit 819200) (nat_lit 0) (nat_lit 4) a0)), some (.inl (dA (nat_lit 819201) (nat_lit 0) (nat_lit 4) a1)), some (.inl (dA (nat_lit 819202) (nat_lit 0) (nat_lit 4) a2))]
noncomputable def kTi (a0 a1 a2 : Nat) : Bool := Bool.and (Nat.ble (nat_lit 2) a0) (Bool.and (Nat.ble (nat_lit 2) a1) (Nat.ble (nat_lit 2) a2))
theorem q_tiE : allL 6 (fun a0 => allL 6 (fun a1 => allL 6 (fun a2 => sEnt [refV (nat_lit 0), .inl (dA (nat_lit 819200) (nat_lit 0) (nat_lit 4) a0), .inl (dA (nat_lit 819201) (nat_lit 0) (nat_lit 4) a1), .inl (dA (nat_lit 819202) (nat_lit 0) (nat_lit 4) a2)] (PG (nat_lit 94)).2.1 (fun L => eqL eqO L (LTi a0 a1 a2))))) = true := by decide +kernel
theorem q_tiX : allL 6 (fun a0 => allL 6 (fun a1 => allL 6 (fun a2 => sBeg (nat_lit 0) (nat_lit 68) tXv KXr [] (fun x0 => sx PG (nat_lit 10000) (nat_lit 200) (PG (nat_lit 94)) (fun pc => Nat.beq pc (nat_lit 37))
  (fun pc L st _ x => Bool.and (Nat.beq pc (nat_lit 37)) (Bool.and (Bool.and (kTi a0 a1 a2) (eqL eqO L (LTi a0 a1 a2))) (Bool.and (eqL eqC x x0) (eqL eqV st [.inl (.var (Nat.add (nat_lit 139264) (shC a2))), .inl (.var (Nat.add (nat_lit 139264) (shC a1))), .inl (.natCast (shC a0)), refV (nat_lit 0)]))))
  (fun v _ x => Bool.and (refX v) (Bool.and (Bool.not (kTi a0 a1 a2)) (eqL eqC x x0))) (nat_lit 0) (LTi a0 a1 a2) [] (dP (nat_lit 819200) (nat_lit 0) (nat_lit 4) a0 (dP (nat_lit 819201) (nat_lit 0) (nat_lit 4) a1 (dP (nat_lit 819202) (nat_lit 0) (nat_lit 4) a2 []))) x0)))) = true := by decide +kernel
theorem q_tiXR : allL 6 (fun a0 => allL 6 (fun a1 => allL 6 (fun a2 => allL 11 (fun n => sx PG 10 200 (PG 94) (fun _ => false) (fun _ _ _ _ _ => false) (fun v _ m => Bool.and (eqL eqC m []) (eqO v (some (.inl (.natCast n))))) 43 (LTi a0 a1 a2) [.inl (.natCast n)] [] [])))) = true := by decide +kernel
noncomputable def LTim (a0 a1 a2 : Nat) : sL := [some (refV (nat_lit 0)), some (.inl (dA (nat_lit 819200) (nat_lit 0) (nat_lit 4) a0)), some (.inl (dA (nat_lit 819201) (nat_lit 0) (nat_lit 4) a1)), some (.inl (dA (nat_lit 819202) (nat_lit 0) (nat_lit 4) a2)), none]
noncomputable def LTi2 (s t : Nat) : sL := [some (refV (nat_lit 0)), some (.inl (.var (nat_lit 819291))), some (.inl (.natCast s)), some (.inl (.natCast t)), none]
noncomputable def LTi6 (s t : Nat) : sL := [some (refV (nat_lit 0)), some (.inl (.var (nat_lit 819291))), some (.inl (.natCast s)), some (.inl (.natCast t)), some (.inl (.natCast (nat_lit 6)))]
theorem q_tiEm : allL 6 (fun a0 => allL 6 (fun a1 => allL 6 (fun a2 => sEnt [refV (nat_lit 0), .inl (dA (nat_lit 819200) (nat_lit 0) (nat_lit 4) a0), .inl (dA (nat_lit 819201) (nat_lit 0) (nat_lit 4) a1), .inl (dA (nat_lit 819202) (nat_lit 0) (nat_lit 4) a2)] (PG (nat_lit 162)).2.1 (fun L => eqL eqO L (LTim a0 a1 a2))))) = true := by decide +kernel
theorem q_tiM : allL 6 (fun a0 => allL 6 (fun a1 => allL 6 (fun a2 => sBeg (nat_lit 69) (nat_lit 45) tMv KMb0 [] (fun m0 => sx PG (nat_lit 10000) (nat_lit 200) (PG (nat_lit 162)) (fun pc => Nat.beq pc (nat_lit 23))
  (fun pc L st _ m => Bool.and (Nat.beq pc (nat_lit 23)) (Bool.and (Bool.and (kTi a0 a1 a2) (eqL eqO L (LTim a0 a1 a2))) (Bool.and (eqL eqV st []) (eqL eqC m m0))))
  (fun v _ m => Bool.and (refX v) (Bool.and (Bool.not (kTi a0 a1 a2)) (eqL eqC m m0))) (nat_lit 0) (LTim a0 a1 a2) [] (dP (nat_lit 819200) (nat_lit 0) (nat_lit 4) a0 (dP (nat_lit 819201) (nat_lit 0) (nat_lit 4) a1 (dP (nat_lit 819202) (nat_lit 0) (nat_lit 4) a2 []))) m0)))) = true := by decide +kernel
/-- the number that comes to place i -/
noncomputable def tiE (s t : Nat) (ot : List Nat) (i : Nat) : sX := Bool.rec (motive := fun _ => sX) (.var (mO s (prJ ot i))) (.natCast (nthO ot (prJ ot i))) (Nat.beq s t)
noncomputable def tiR (s t : Nat) (ot : List Nat) : Bool := sBeg (nat_lit 69) (nat_lit 45) tMv KMb0 (oReg t ot) (fun m0 => sx PG (nat_lit 10000) (nat_lit 200) (PG (nat_lit 162)) (fun pc => Nat.beq pc (nat_lit 69))
  (fun pc L st _ m => Bool.and (Nat.beq pc (nat_lit 69)) (Bool.and (eqL eqO L (LTi6 s t)) (Bool.and (Bool.and (fitM (nat_lit 69) (nat_lit 45) tMv KMb0 m) (frM (nat_lit 69) (chN [nat_lit 83]) m0 (nat_lit 0) m)) (Bool.and (eqL eqV st [.inl (.var (nat_lit 819291)), refV (nat_lit 0)]) (allL (nat_lit 5) (fun i => isE m (nat_lit 14) (Nat.succ i) (tiE s t ot i)))))))
  (fun v _ m => false) (nat_lit 23) (LTi2 s t) [] [] m0)
theorem q_tiR0 : allL 4 (fun t => lAll (fun ot => tiR (nat_lit 0) t ot) ORDS) = true := by decide +kernel
theorem q_tiR1 : allL 4 (fun t => lAll (fun ot => tiR (nat_lit 1) t ot) ORDS) = true := by decide +kernel
theorem q_tiR2 : allL 4 (fun t => lAll (fun ot => tiR (nat_lit 2) t ot) ORDS) = true := by decide +kernel
theorem q_tiR3 : allL 4 (fun t => lAll (fun ot => tiR (nat_lit 3) t ot) ORDS) = true := by decide +kernel
theorem q_tiR {s t : Nat} (hs : s < 4) (ht : t < 4) {ot : List Nat} (ho : ot ∈ ORDS) : tiR s t ot = true := by
  rcases (show s = 0 ∨ s = 1 ∨ s = 2 ∨ s = 3 by omega) with rfl | rfl | rfl | rfl
  · exact lAll_ok (allL_ok q_tiR0 t ht) ot ho
  · exact lAll_ok (allL_ok q_tiR1 t ht) ot ho
  · exact lAll_ok (allL_ok q_tiR2 t ht) ot ho
  · exact lAll_ok (allL_ok q_tiR3 t ht) ot ho
theorem q_tiMR : allL 4 (fun s => allL 4 (fun t => allL 11 (fun n => sx PG 10 200 (PG 162) (fun _ => false) (fun _ _ _ _ _ => false) (fun v _ m => Bool.and (eqL eqC m []) (eqO v (some (.inl (.natCast n))))) 72 (LTi6 s t) [.inl (.natCast n)] [] []))) = true := by decide +kernel
theorem dV_nat {r : sE} {k : Nat} (hk : k < 1000) : sI r (dV 0 k) = Int32.ofNat k := by
  show sI r (.natCast ((0 + k) % 4294967296)) = _
  rw [sI_c, show (0 + k) % 4294967296 = k by omega]
theorem op_times {l : Launch} {D : va_G} {cy : Nat → ClassId} {alX alM : Nat → Nat} : OpI l D cy alX alM 94 162 3 := by
  intro r as hI hlen
  obtain ⟨a0, a1, a2, rfl⟩ : ∃ a0 a1 a2, as = [a0, a1, a2] := by
    match as, hlen with
    | [a0, a1, a2], _ => exact ⟨a0, a1, a2, rfl⟩
  refine OpOk_uA [a0, a1, a2] ?_
  replace hI := Inv_uA (as := [a0, a1, a2]) hI
  have e0 : (uA r [a0, a1, a2]).1 819200 = a0 := uA_a 0
  have e1 : (uA r [a0, a1, a2]).1 819201 = a1 := uA_a 1
  have e2 : (uA r [a0, a1, a2]).1 819202 = a2 := uA_a 2
  generalize uA r [a0, a1, a2] = r at hI e0 e1 e2 ⊢
  obtain ⟨c0, hc0, hp0, hv0⟩ := dP_ok r 819200 (lo := 0) (n := 4) (Or.inr (by omega)) (by omega)
  rw [e0] at hv0
  obtain ⟨c1, hc1, hp1, hv1⟩ := dP_ok r 819201 (lo := 0) (n := 4) (Or.inr (by omega)) (by omega)
  rw [e1] at hv1
  obtain ⟨c2, hc2, hp2, hv2⟩ := dP_ok r 819202 (lo := 0) (n := 4) (Or.inr (by omega)) (by omega)
  rw [e2] at hv2
  obtain ⟨c, hc, hcc, hcm⟩ := hI
  obtain ⟨⟨-, hn1, -⟩, hn2, -⟩ := CC_nd hc hcc
  obtain ⟨-, nn1, nn2⟩ := cd_tab c hc
  obtain ⟨z, z1, z2, z3, z4⟩ := (show cT (nOf c) r from hcm 8 (by omega))
  have hs0 : c0 - 2 < 4 := by omega
  have hs1 : c1 - 2 < 4 := by omega
  have hs2 : c2 - 2 < 4 := by omega
  have hR1 := hcm (c1 - 2) (by omega)
  have hR2 := hcm (c2 - 2) (by omega)
  rw [Comp_R hs1] at hR1
  rw [Comp_R hs2] at hR2
  obtain ⟨os, hos, ho1, ho2⟩ := hR1
  obtain ⟨ot, hot, ht1, ht2⟩ := hR2
  have hmul := mulO_in nn1 nn2 hos hot
  have as0 : ∀ al : Nat → Nat, List.map (sVal r al) [refV (nat_lit 0), .inl (dA (nat_lit 819200) (nat_lit 0) (nat_lit 4) c0), .inl (dA (nat_lit 819201) (nat_lit 0) (nat_lit 4) c1), .inl (dA (nat_lit 819202) (nat_lit 0) (nat_lit 4) c2)] = .ref (al 0) :: List.map Value.int [a0, a1, a2] := fun al => by
    show [Value.ref (al 0), Value.int (sI r (dA 819200 0 4 c0)), Value.int (sI r (dA 819201 0 4 c1)), Value.int (sI r (dA 819202 0 4 c2))] = _
    rw [hv0, hv1, hv2]
    rfl
  have bad : sI r (.natCast (nat_lit 4294967295)) = -1 := by rw [sI_c]; rfl
  refine ⟨fun v r1 => (v = some (.int (-1)) ∧ kTi c0 c1 c2 = false ∧ r1 = r) ∨ (kTi c0 c1 c2 = true ∧ v = some (.int (Int32.ofNat (lenO (mulO os ot)))) ∧ PuX z (c0 - 2) (mulO os ot) r r1 ∧ cC 0 68 (tX c) r1), fun rest => ?_, fun v r1 hmid rest => ?_, fun v r1 hmid => Or.inl ⟨rfl, by rcases hmid with ⟨h, -⟩ | ⟨-, h, -⟩ <;> exact ⟨_, h⟩⟩⟩
  · rw [← as0 alX]
    have h1 := allL_ok (allL_ok (allL_ok q_tiX c0 hc0) c1 hc1) c2 hc2
    unfold sBeg at h1
    rw [Bool.and_eq_true] at h1
    have hP1 := ovP_msk (r := r) (al := alX) (n := 68) (t := tXv) (K := KXr)
    have hw1 : sW r alX cy (mHid r alX cy tXv) rest (ovr [] (msk (nat_lit 68) tXv KXr)) = tW r alX cy rest 68 tXv := ovP_w (cy := cy) (rest := rest) (fun i hi => (tXv_can i hi).1) hP1
    refine gMet_of (allL_ok (allL_ok (allL_ok q_tiE c0 hc0) c1 hc1) c2 hc2) (fun At hFC => ?_)
    rw [← hw1]
    refine hFC.1 r _ rest _ _ _ _ 0 (LTi c0 c1 c2) [] _ _ h1.2 (hp0 _ (hp1 _ (hp2 _ sPa_nil))) (fun pc L st pa x hk hp => ?_) (fun v pa x hk hp => ?_)
    · simp only [Bool.and_eq_true] at hk
      obtain ⟨k1, ⟨k2, k3⟩, k4, k5⟩ := hk
      have e1 : pc = 37 := Nat.eq_of_beq_eq_true k1
      have e2 := eqL_ok (fun _ _ => eqO_ok) _ _ k3
      have e3 := eqL_ok eqC_ok _ _ k4
      have e4 := eqL_ok (fun _ _ => eqV_ok) _ _ k5
      subst e1 e2 e3 e4
      rw [hw1]
      have es : List.map (sVal r alX) [.inl (.var (Nat.add (nat_lit 139264) (shC c2))), .inl (.var (Nat.add (nat_lit 139264) (shC c1))), .inl (.natCast (shC c0)), refV (nat_lit 0)] = ([.int (Int32.ofNat (ocode os)), .int (Int32.ofNat (ocode ot))] : List Value).reverse ++ [.int (Int32.ofNat (c0 - 2)), .ref (alX 0)] := by
        simp only [List.map_cons, List.map_nil, sVal, sI_c, sI_v]
        rw [show r.1 (Nat.add (nat_lit 139264) (shC c1)) = Int32.ofNat (ocode os) from ho1, show r.1 (Nat.add (nat_lit 139264) (shC c2)) = Int32.ofNat (ocode ot) from ht1]
        rfl
      rw [es]
      refine hFC.2 37 40 8 199 _ _ _ _ _ ⟨_, _, rfl, rfl⟩ rfl (by show 1 + (1 + 0) ≤ 8; omega) rfl (Or.inl rfl) (c_prod l (by omega) (ordN_in hos) (ordN_in hot) (ordN_in hmul)) (fun v w2 h => ?_)
      obtain ⟨rfl, rfl⟩ := h
      exact x_tail hFC (by omega) ⟨_, _, rfl, rfl⟩ (fun n hn => allL_ok (allL_ok (allL_ok (allL_ok q_tiXR c0 hc0) c1 hc1) c2 hc2) n hn) hs0 z1 z2 (ordN_in hmul) hc hcc.1 (fun r1 g1 g2 => ⟨r1, Or.inr ⟨k2, rfl, g1, g2⟩, rfl⟩)
    · simp only [Bool.and_eq_true] at hk
      obtain ⟨k1, k2, k3⟩ := hk
      have e3 := eqL_ok eqC_ok _ _ k3
      subst e3
      rw [hw1, eqO_ok k1]
      refine ⟨r, Or.inl ⟨?_, by simpa using k2, rfl⟩, rfl⟩
      show some (Value.int (sI r (.natCast (nat_lit 4294967295)))) = _
      rw [bad]
  · rw [← as0 alM]
    have h1 := allL_ok (allL_ok (allL_ok q_tiM c0 hc0) c1 hc1) c2 hc2
    unfold sBeg at h1
    rw [Bool.and_eq_true] at h1
    have hP1 := ovP_msk (r := r) (al := alM) (n := 45) (t := tMv) (K := KMb0)
    have hw1 : sW r alM cy (mHid r alM cy tMv) rest (ovr [] (msk (nat_lit 45) tMv KMb0)) = tW r alM cy rest 45 tMv := ovP_w (cy := cy) (rest := rest) (fun i hi => (tMv_can i hi).1) hP1
    refine gMet_of (allL_ok (allL_ok (allL_ok q_tiEm c0 hc0) c1 hc1) c2 hc2) (fun At hFC => ?_)
    rw [← hw1]
    refine hFC.1 r _ rest _ _ _ _ 0 (LTim c0 c1 c2) [] _ _ h1.2 (hp0 _ (hp1 _ (hp2 _ sPa_nil))) (fun pc L st pa m hk hp => ?_) (fun v2 pa m hk hp => ?_)
    · simp only [Bool.and_eq_true] at hk
      obtain ⟨k1, ⟨k2, k3⟩, k4, k5⟩ := hk
      have e1 : pc = 23 := Nat.eq_of_beq_eq_true k1
      have e2 := eqL_ok (fun _ _ => eqO_ok) _ _ k3
      have e3 := eqL_ok (fun _ _ => eqV_ok) _ _ k4
      have e4 := eqL_ok eqC_ok _ _ k5
      subst e1 e2 e3 e4
      rw [hw1]
      have k2' := k2
      unfold kTi at k2'
      simp only [Bool.and_eq_true] at k2'
      have b0 : 2 ≤ c0 := Nat.le_of_ble_eq_true k2'.1
      have b1 : 2 ≤ c1 := Nat.le_of_ble_eq_true k2'.2.1
      have b2 : 2 ≤ c2 := Nat.le_of_ble_eq_true k2'.2.2
      rcases hmid with ⟨-, q2, -⟩ | ⟨-, rfl, q3, q4⟩
      · rw [k2] at q2; cases q2
      have h2 := q_tiR hs1 hs2 (ordN_in hot)
      unfold tiR sBeg at h2
      rw [Bool.and_eq_true] at h2
      have ag : ∀ v, v < 819200 → (uV r 1 (Int32.ofNat (c0 - 2))).1 v = r.1 v ∧ (uV r 1 (Int32.ofNat (c0 - 2))).2 v = r.2 v := fun v hv => ⟨uV_lo (by omega), rfl⟩
      have hv1' : (uV r 1 (Int32.ofNat (c0 - 2))).1 819291 = Int32.ofNat (c0 - 2) := uV_v
      have hP2 := ovP_ovr (b := 69) (ovP_msk (r := uV r 1 (Int32.ofNat (c0 - 2))) (al := alM) (n := 45) (t := tMv) (K := KMb0)) _ h2.1 (oReg_ok (fun i hi => (ag _ (by unfold mP; omega)).1.trans (ht2 i hi)))
      have hw2 := ovP_w (cy := cy) (rest := rest) (fun i hi => (tMv_can i hi).1) hP2
      have eL : (LTim c0 c1 c2).map (Option.map (sVal r alM)) = (LTi2 (c1 - 2) (c2 - 2)).map (Option.map (sVal (uV r 1 (Int32.ofNat (c0 - 2))) alM)) := by
        obtain ⟨q0, rfl⟩ : ∃ q0, c0 = q0 + 2 := ⟨c0 - 2, by omega⟩
        obtain ⟨q1, rfl⟩ : ∃ q1, c1 = q1 + 2 := ⟨c1 - 2, by omega⟩
        obtain ⟨q2, rfl⟩ : ∃ q2, c2 = q2 + 2 := ⟨c2 - 2, by omega⟩
        show [some (Value.ref (alM 0)), some (Value.int (sI r (dV 0 q0))), some (Value.int (sI r (dV 0 q1))), some (Value.int (sI r (dV 0 q2))), none] = [some (Value.ref (alM 0)), some (Value.int (sI (uV r 1 (Int32.ofNat (q0 + 2 - 2))) (.var 819291))), some (Value.int (sI (uV r 1 (Int32.ofNat (q0 + 2 - 2))) (.natCast (q1 + 2 - 2)))), some (Value.int (sI (uV r 1 (Int32.ofNat (q0 + 2 - 2))) (.natCast (q2 + 2 - 2)))), none]
        rw [dV_nat (by omega), dV_nat (by omega), dV_nat (by omega), sI_v, hv1', sI_c, sI_c]
        rfl
      rw [eL, ← tW_agree (by omega) tMv_can ag, ← hw2]
      refine hFC.1 _ _ rest _ _ _ _ 23 (LTi2 (c1 - 2) (c2 - 2)) [] _ _ h2.2 sPa_nil (fun pc L st pa m hk hp => ?_) (fun v2 pa m hk hp => nomatch hk)
      simp only [Bool.and_eq_true] at hk
      obtain ⟨j1, j2, ⟨j3, j4⟩, j5, j6⟩ := hk
      have f1 : pc = 69 := Nat.eq_of_beq_eq_true j1
      have f2 := eqL_ok (fun _ _ => eqO_ok) _ _ j2
      have f3 := eqL_ok (fun _ _ => eqV_ok) _ _ j5
      subst f1 f2 f3
      rw [fit_w j3 (fun i hi hK => ⟨rfl, (tMv_can i hi).2⟩)]
      have fr : ∀ u, isV 69 45 tMv u = true → chN [83] u = false → (eOf 69 (uV r 1 (Int32.ofNat (c0 - 2))) m).1 u = r.1 u := fun u hu hcu => (fr_ok (fun i hi => (tMv_can i hi).1) hP2 j3 j4 hu hcu).trans (ag u (by have := (isV_ok hu).2.1; omega)).1
      have hmO : hasO (eOf 69 (uV r 1 (Int32.ofNat (c0 - 2))) m) 14 (mulO os ot) := fun i hi => by
        have := isE_ok (b := 69) (r := uV r 1 (Int32.ofNat (c0 - 2))) (show Nat.succ i < 4096 by omega) (allL_ok j6 i hi)
        have e1 : mP 14 (1 + i) = 4096 * (69 + 14) + Nat.succ i := by unfold mP; omega
        have hj : prJ ot i < 5 := by
          have := ORDS_le (ordN_in hot) hi
          unfold prJ
          rw [nthO_eq]
          show ot.getD i 0 - 1 < 5
          omega
        rw [e1, this, mulO_get (ordN_in hot) hi]
        unfold tiE
        cases hst : Nat.beq (c1 - 2) (c2 - 2) with
        | true =>
          have est : c1 - 2 = c2 - 2 := Nat.eq_of_beq_eq_true hst
          show sI _ (.natCast (nthO ot (prJ ot i))) = _
          rw [sI_c, nthO_eq]
          have g1 := ho2 _ hj
          have g2 := ht2 _ hj
          rw [est] at g1
          exact g2.symm.trans g1
        | false =>
          show sI _ (.var (mO (c1 - 2) (prJ ot i))) = _
          rw [sI_v, mO_eq, (ag _ (by unfold mP; omega)).1]
          exact ho2 _ hj
      have v17 : isV 69 45 tMv (mP 0 17) = true ∧ chN [83] (mP 0 17) = false ∧ isV 69 45 tMv (mP 0 1) = true ∧ chN [83] (mP 0 1) = false := by decide +kernel
      have es : List.map (sVal (uV r 1 (Int32.ofNat (c0 - 2))) alM) [.inl (.var (nat_lit 819291)), refV (nat_lit 0)] = ([.int (Int32.ofNat (c0 - 2)), .ref (alM 0)] : List Value) := by
        show [Value.int (sI (uV r 1 (Int32.ofNat (c0 - 2))) (.var 819291)), Value.ref (alM 0)] = _
        rw [sI_v, hv1']
      have hcV : cC 69 45 (tM c) (uV r 1 (Int32.ofNat (c0 - 2))) := fun i hi j k => by
        have h5 : ∀ y, (tM c i).2.2[j]? = some y → j < 4096 := fun y hy => by
          have k3 := (tM_ok hc i hi).1.2
          unfold fitC at k3
          simp only [Bool.and_eq_true] at k3
          have g4 : (tM c i).2.2.length ≤ 4096 := by rw [← sLn_ok]; exact Nat.le_of_ble_eq_true k3.2.2.2.1
          exact Nat.lt_of_lt_of_le (List.getElem?_eq_some_iff.mp hy).1 g4
        exact ⟨fun hy => by have := h5 _ hy; rw [(ag _ (by omega)).1]; exact (hcc.2 i hi j k).1 hy, fun hy => by have := h5 _ hy; rw [(ag _ (by omega)).2]; exact (hcc.2 i hi j k).2 hy⟩
      rw [es]
      refine m_tail hFC (by omega) ⟨_, _, rfl, rfl⟩ (fun n hn => allL_ok (allL_ok (allL_ok q_tiMR (c1 - 2) hs1) (c2 - 2) hs2) n hn) hs0 z1 ((fr _ v17.1 v17.2.1).trans z3) nn1 nn2 ((fr _ v17.2.2.1 v17.2.2.2).trans hn2) hmul hmO hc (crC_ok (allL_ok crP_M0 c hc) (tM_ok hc) tMv_ok (cv_gen (tM_ok hc)) hP2 j3 (frM_mono (chNN_of (by decide +kernel) (by decide +kernel)) _ _ _ j4) hcV) (fun r2 g1 g2 => ⟨rfl, r2, rfl, ?_⟩)
      refine Inv_pu hc hcm hs0 z1 z2 hmul q3 g1 (fun id hid u hu hv => fr u hv ?_) q4 g2
      have := lAll_ok (allL_ok (show allL 12 (fun id => lAll (fun u => Bool.not (chN [83] u)) (cPl id)) = true by decide +kernel) id hid) u hu
      simpa using this
    · simp only [Bool.and_eq_true] at hk
      obtain ⟨k1, k2, k3⟩ := hk
      have e3 := eqL_ok eqC_ok _ _ k3
      subst e3
      rw [hw1, eqO_ok k1]
      rcases hmid with ⟨rfl, -, rfl⟩ | ⟨q2, -⟩
      · refine ⟨?_, r1, rfl, ?_⟩
        · show some (Value.int (sI r1 (.natCast (nat_lit 4294967295)))) = _
          rw [bad]
        · have ee : eB r1 r1 = r1 := by
            unfold eB
            simp only [ite_self]
          rw [ee]
          exact ⟨c, hc, hcc, hcm⟩
      · rw [q2] at k2; cases k2
