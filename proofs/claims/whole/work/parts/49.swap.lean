/-! 49: swap (by wip/whole/mk49.py) -/
noncomputable def refV (i : Nat) : sV := .inr (.inr (some i))
/-- SWAP k and 1 as a row -/
def swL (k : Nat) : List Nat := ([[2, 1, 3, 4, 5], [1, 3, 2, 4, 5], [1, 2, 4, 3, 5], [1, 2, 3, 5, 4]] : List (List Nat)).getD k []
theorem swL_in : ∀ n, n < 6 → ∀ k, k < 5 → k + 1 < n → isP n (swL k) = true := by decide +kernel
noncomputable def shD (a : Nat) : Nat := Nat.sub a (nat_lit 3)
noncomputable def refX (v : Option sV) : Bool := eqO v (some (.inl (.natCast (nat_lit 4294967295))))
noncomputable def LSw (a0 a1 : Nat) : sL := [some (refV (nat_lit 0)), some (.inl (dA (nat_lit 819200) (nat_lit 0) (nat_lit 4) a0)), some (.inl (dA (nat_lit 819201) (nat_lit 0) (nat_lit 5) a1))]
noncomputable def kSw (n a0 a1 : Nat) : Bool := Bool.and (Nat.ble (nat_lit 2) a0) (Bool.and (Nat.ble (nat_lit 3) a1) (Nat.ble a1 (Nat.succ n)))
theorem q_swE : allL 6 (fun a0 => allL 7 (fun a1 => sEnt [refV (nat_lit 0), .inl (dA (nat_lit 819200) (nat_lit 0) (nat_lit 4) a0), .inl (dA (nat_lit 819201) (nat_lit 0) (nat_lit 5) a1)] (PG (nat_lit 93)).2.1 (fun L => eqL eqO L (LSw a0 a1)))) = true := by decide +kernel
theorem q_swX : allL 5 (fun n => allL 6 (fun a0 => allL 7 (fun a1 => sBeg (nat_lit 0) (nat_lit 68) tXv KXr [(nat_lit 1, nat_lit 1, .natCast (Nat.succ n))] (fun x0 => sx PG (nat_lit 10000) (nat_lit 200) (PG (nat_lit 93)) (fun pc => Nat.beq pc (nat_lit 29))
  (fun pc L st _ x => Bool.and (Nat.beq pc (nat_lit 29)) (Bool.and (Bool.and (kSw (Nat.succ n) a0 a1) (eqL eqO L (LSw a0 a1))) (Bool.and (eqL eqC x x0) (eqL eqV st [.inl (.natCast (ocode (swL (shD a1)))), .inl (.var (Nat.add (nat_lit 139264) (shC a0))), .inl (.natCast (shC a0)), refV (nat_lit 0)]))))
  (fun v _ x => Bool.and (refX v) (Bool.and (Bool.not (kSw (Nat.succ n) a0 a1)) (eqL eqC x x0))) (nat_lit 0) (LSw a0 a1) [] (dP (nat_lit 819200) (nat_lit 0) (nat_lit 4) a0 (dP (nat_lit 819201) (nat_lit 0) (nat_lit 5) a1 [])) x0)))) = true := by decide +kernel
theorem q_swXR : allL 6 (fun a0 => allL 7 (fun a1 => allL 11 (fun n => sx PG 10 200 (PG 93) (fun _ => false) (fun _ _ _ _ _ => false) (fun v _ m => Bool.and (eqL eqC m []) (eqO v (some (.inl (.natCast n))))) 35 (LSw a0 a1) [.inl (.natCast n)] [] []))) = true := by decide +kernel
noncomputable def LSm (a0 a1 : Nat) : sL := [some (refV (nat_lit 0)), some (.inl (dA (nat_lit 819200) (nat_lit 0) (nat_lit 4) a0)), some (.inl (dA (nat_lit 819201) (nat_lit 0) (nat_lit 5) a1)), none]
noncomputable def LSm6 (a0 a1 : Nat) : sL := [some (refV (nat_lit 0)), some (.inl (dA (nat_lit 819200) (nat_lit 0) (nat_lit 4) a0)), some (.inl (dA (nat_lit 819201) (nat_lit 0) (nat_lit 5) a1)), some (.inl (.natCast (nat_lit 6)))]
theorem q_swEm : allL 6 (fun a0 => allL 7 (fun a1 => sEnt [refV (nat_lit 0), .inl (dA (nat_lit 819200) (nat_lit 0) (nat_lit 4) a0), .inl (dA (nat_lit 819201) (nat_lit 0) (nat_lit 5) a1)] (PG (nat_lit 161)).2.1 (fun L => eqL eqO L (LSm a0 a1)))) = true := by decide +kernel
theorem q_swM : allL 5 (fun n => allL 6 (fun a0 => allL 7 (fun a1 => sBeg (nat_lit 69) (nat_lit 45) tMv KMb0 [(nat_lit 0, nat_lit 1, .natCast (Nat.succ n))] (fun m0 => sx PG (nat_lit 10000) (nat_lit 200) (PG (nat_lit 161)) (fun pc => Nat.beq pc (nat_lit 60))
  (fun pc L st _ m => Bool.and (Nat.beq pc (nat_lit 60)) (Bool.and (Bool.and (kSw (Nat.succ n) a0 a1) (eqL eqO L (LSm6 a0 a1))) (Bool.and (Bool.and (fitM (nat_lit 69) (nat_lit 45) tMv KMb0 m) (frM (nat_lit 69) (chN [nat_lit 83]) m0 (nat_lit 0) m)) (Bool.and (eqL eqV st [.inl (.natCast (shC a0)), refV (nat_lit 0)]) (allL (nat_lit 5) (fun i => isE m (nat_lit 14) (Nat.succ i) (.var (mO (shC a0) (prJ (swL (shD a1)) i)))))))))
  (fun v _ m => Bool.and (refX v) (Bool.and (Bool.not (kSw (Nat.succ n) a0 a1)) (eqL eqC m m0))) (nat_lit 0) (LSm a0 a1) [] (dP (nat_lit 819200) (nat_lit 0) (nat_lit 4) a0 (dP (nat_lit 819201) (nat_lit 0) (nat_lit 5) a1 [])) m0)))) = true := by decide +kernel
theorem q_swMR : allL 6 (fun a0 => allL 7 (fun a1 => allL 11 (fun n => sx PG 10 200 (PG 161) (fun _ => false) (fun _ _ _ _ _ => false) (fun v _ m => Bool.and (eqL eqC m []) (eqO v (some (.inl (.natCast n))))) 63 (LSm6 a0 a1) [.inl (.natCast n)] [] []))) = true := by decide +kernel
theorem crR_X : allL 18 (fun c => Bool.and (crC (nat_lit 0) (tX c) KXr (fun _ => false) (nat_lit 68)) true) = true := by decide +kernel
theorem mulO_get {p q : List Nat} (hq : q ∈ ORDS) {i : Nat} (hi : i < 5) : (mulO p q).getD i 0 = p.getD (prJ q i) 0 := by
  have hl := ORDS_len hq
  have hi2 : i < q.length := by omega
  unfold mulO prJ
  rw [rMap_eq, List.getD_eq_getElem?_getD, List.getElem?_map, List.getElem?_eq_getElem hi2]
  show nthO p (q[i] - 1) = p.getD (nthO q i - 1) 0
  rw [nthO_eq, nthO_eq, List.getD_eq_getElem?_getD (l := q), List.getElem?_eq_getElem hi2]
  rfl
theorem op_swap {l : Launch} {D : va_G} {cy : Nat → ClassId} {alX alM : Nat → Nat} : OpI l D cy alX alM 93 161 2 := by
  intro r as hI hlen
  obtain ⟨a0, a1, rfl⟩ : ∃ a0 a1, as = [a0, a1] := by
    match as, hlen with
    | [a0, a1], _ => exact ⟨a0, a1, rfl⟩
  refine OpOk_uA [a0, a1] ?_
  replace hI := Inv_uA (as := [a0, a1]) hI
  have e0 : (uA r [a0, a1]).1 819200 = a0 := uA_a 0
  have e1 : (uA r [a0, a1]).1 819201 = a1 := uA_a 1
  generalize uA r [a0, a1] = r at hI e0 e1 ⊢
  obtain ⟨c0, hc0, hp0, hv0⟩ := dP_ok r 819200 (lo := 0) (n := 4) (Or.inr (by omega)) (by omega)
  rw [e0] at hv0
  obtain ⟨c1, hc1, hp1, hv1⟩ := dP_ok r 819201 (lo := 0) (n := 5) (Or.inr (by omega)) (by omega)
  rw [e1] at hv1
  obtain ⟨c, hc, hcc, hcm⟩ := hI
  obtain ⟨⟨-, hn1, -⟩, hn2, -⟩ := CC_nd hc hcc
  obtain ⟨-, nn1, nn2⟩ := cd_tab c hc
  obtain ⟨z, z1, z2, z3, z4⟩ := (show cT (nOf c) r from hcm 8 (by omega))
  have hs : c0 - 2 < 4 := by omega
  have hR := hcm (c0 - 2) (by omega)
  rw [Comp_R hs] at hR
  obtain ⟨od, ho, ho1, ho2⟩ := hR
  have n1 : nOf c - 1 < 5 := by omega
  have en : Nat.succ (nOf c - 1) = nOf c := by omega
  have as0 : ∀ al : Nat → Nat, List.map (sVal r al) [refV (nat_lit 0), .inl (dA (nat_lit 819200) (nat_lit 0) (nat_lit 4) c0), .inl (dA (nat_lit 819201) (nat_lit 0) (nat_lit 5) c1)] = .ref (al 0) :: List.map Value.int [a0, a1] := fun al => by
    show [Value.ref (al 0), Value.int (sI r (dA 819200 0 4 c0)), Value.int (sI r (dA 819201 0 5 c1))] = _
    rw [hv0, hv1]
    rfl
  have bad : sI r (.natCast (nat_lit 4294967295)) = -1 := by rw [sI_c]; rfl
  have vR : ∀ i, i < 5 → isV 69 45 tMv (mP 6 (6 * (c0 - 2) + 1) + i) = true ∧ chN [83] (mP 6 (6 * (c0 - 2) + 1) + i) = false := fun i hi => by
    have := allL_ok (allL_ok (show allL 4 (fun q => allL 5 (fun i => Bool.and (isV 69 45 tMv (mP 6 (6 * q + 1) + i)) (Bool.not (chN [83] (mP 6 (6 * q + 1) + i))))) = true by decide +kernel) (c0 - 2) hs) i hi
    rw [Bool.and_eq_true] at this
    exact ⟨this.1, by simpa using this.2⟩
  refine ⟨fun v r1 => (v = some (.int (-1)) ∧ kSw (nOf c) c0 c1 = false ∧ r1 = r) ∨ (kSw (nOf c) c0 c1 = true ∧ v = some (.int (Int32.ofNat (lenO (mulO od (swL (c1 - 3)))))) ∧ PuX z (c0 - 2) (mulO od (swL (c1 - 3))) r r1 ∧ cC 0 68 (tX c) r1), fun rest => ?_, fun v r1 hmid rest => ?_, fun v r1 hmid => Or.inl ⟨rfl, by rcases hmid with ⟨h, -⟩ | ⟨-, h, -⟩ <;> exact ⟨_, h⟩⟩⟩
  · rw [← as0 alX]
    have h1 := allL_ok (allL_ok (allL_ok q_swX (nOf c - 1) n1) c0 hc0) c1 hc1
    rw [en] at h1
    unfold sBeg at h1
    rw [Bool.and_eq_true] at h1
    have hP1 := ovP_ovr (b := 0) (ovP_msk (r := r) (al := alX) (n := 68) (t := tXv) (K := KXr)) _ h1.1 (oX_cons (by rw [sI_c]; exact hn1) oX_nil)
    have hw1 := ovP_w (cy := cy) (rest := rest) (fun i hi => (tXv_can i hi).1) hP1
    refine gMet_of (allL_ok (allL_ok q_swE c0 hc0) c1 hc1) (fun At hFC => ?_)
    rw [← hw1]
    refine hFC.1 r _ rest _ _ _ _ 0 (LSw c0 c1) [] _ _ h1.2 (hp0 _ (hp1 _ sPa_nil)) (fun pc L st pa x hk hp => ?_) (fun v pa x hk hp => ?_)
    · simp only [Bool.and_eq_true] at hk
      obtain ⟨k1, ⟨k2, k3⟩, k4, k5⟩ := hk
      have e1 : pc = 29 := Nat.eq_of_beq_eq_true k1
      have e2 := eqL_ok (fun _ _ => eqO_ok) _ _ k3
      have e3 := eqL_ok eqC_ok _ _ k4
      have e4 := eqL_ok (fun _ _ => eqV_ok) _ _ k5
      subst e1 e2 e3 e4
      rw [hw1]
      have k2' := k2
      unfold kSw at k2'
      simp only [Bool.and_eq_true] at k2'
      have b1 : 2 ≤ c0 := Nat.le_of_ble_eq_true k2'.1
      have b2 : 3 ≤ c1 := Nat.le_of_ble_eq_true k2'.2.1
      have b3 : c1 ≤ nOf c + 1 := Nat.le_of_ble_eq_true k2'.2.2
      have hsw : swL (c1 - 3) ∈ ordN (nOf c) := isP_in nn1 nn2 (swL_in (nOf c) (by omega) (c1 - 3) (by omega) (by omega))
      have hmul := mulO_in nn1 nn2 ho hsw
      have es : List.map (sVal r alX) [.inl (.natCast (ocode (swL (shD c1)))), .inl (.var (Nat.add (nat_lit 139264) (shC c0))), .inl (.natCast (shC c0)), refV (nat_lit 0)] = ([.int (Int32.ofNat (ocode od)), .int (Int32.ofNat (ocode (swL (c1 - 3))))] : List Value).reverse ++ [.int (Int32.ofNat (c0 - 2)), .ref (alX 0)] := by
        simp only [List.map_cons, List.map_nil, sVal, sI_c, sI_v]
        rw [show r.1 (Nat.add (nat_lit 139264) (shC c0)) = Int32.ofNat (ocode od) from ho1]
        rfl
      rw [es]
      refine hFC.2 29 32 8 199 _ _ _ _ _ ⟨_, _, rfl, rfl⟩ rfl (by show 1 + (1 + 0) ≤ 8; omega) rfl (Or.inl rfl) (c_prod l (by omega) (ordN_in ho) (ordN_in hsw) (ordN_in hmul)) (fun v w2 h => ?_)
      obtain ⟨rfl, rfl⟩ := h
      exact x_tail hFC (by omega) ⟨_, _, rfl, rfl⟩ (fun n hn => allL_ok (allL_ok (allL_ok q_swXR c0 hc0) c1 hc1) n hn) hs z1 z2 (ordN_in hmul) hc hcc.1 (fun r1 g1 g2 => ⟨r1, Or.inr ⟨k2, rfl, g1, g2⟩, rfl⟩)
    · simp only [Bool.and_eq_true] at hk
      obtain ⟨k1, k2, k3⟩ := hk
      have e3 := eqL_ok eqC_ok _ _ k3
      subst e3
      rw [hw1, eqO_ok k1]
      refine ⟨r, Or.inl ⟨?_, by simpa using k2, rfl⟩, rfl⟩
      show some (Value.int (sI r (.natCast (nat_lit 4294967295)))) = _
      rw [bad]
  · rw [← as0 alM]
    have h1 := allL_ok (allL_ok (allL_ok q_swM (nOf c - 1) n1) c0 hc0) c1 hc1
    rw [en] at h1
    unfold sBeg at h1
    rw [Bool.and_eq_true] at h1
    have hP1 := ovP_ovr (b := 69) (ovP_msk (r := r) (al := alM) (n := 45) (t := tMv) (K := KMb0)) _ h1.1 (oM_cons (by rw [sI_c]; exact hn2) oM_nil)
    have hw1 := ovP_w (cy := cy) (rest := rest) (fun i hi => (tMv_can i hi).1) hP1
    refine gMet_of (allL_ok (allL_ok q_swEm c0 hc0) c1 hc1) (fun At hFC => ?_)
    rw [← hw1]
    refine hFC.1 r _ rest _ _ _ _ 0 (LSm c0 c1) [] _ _ h1.2 (hp0 _ (hp1 _ sPa_nil)) (fun pc L st pa m hk hp => ?_) (fun v2 pa m hk hp => ?_)
    · simp only [Bool.and_eq_true] at hk
      obtain ⟨k1, ⟨k2, k3⟩, ⟨k4, k5⟩, k6, k7⟩ := hk
      have e1 : pc = 60 := Nat.eq_of_beq_eq_true k1
      have e2 := eqL_ok (fun _ _ => eqO_ok) _ _ k3
      have e4 := eqL_ok (fun _ _ => eqV_ok) _ _ k6
      subst e1 e2 e4
      rw [fit_w k4 (fun i hi hK => ⟨rfl, (tMv_can i hi).2⟩)]
      have k2' := k2
      unfold kSw at k2'
      simp only [Bool.and_eq_true] at k2'
      have b1 : 2 ≤ c0 := Nat.le_of_ble_eq_true k2'.1
      have b2 : 3 ≤ c1 := Nat.le_of_ble_eq_true k2'.2.1
      have b3 : c1 ≤ nOf c + 1 := Nat.le_of_ble_eq_true k2'.2.2
      have hsw : swL (c1 - 3) ∈ ordN (nOf c) := isP_in nn1 nn2 (swL_in (nOf c) (by omega) (c1 - 3) (by omega) (by omega))
      have hmul := mulO_in nn1 nn2 ho hsw
      rcases hmid with ⟨-, q2, -⟩ | ⟨-, rfl, q3, q4⟩
      · rw [k2] at q2; cases q2
      have fr : ∀ u, isV 69 45 tMv u = true → chN [83] u = false → (eOf 69 r m).1 u = r.1 u := fun u hu hcu => fr_ok (fun i hi => (tMv_can i hi).1) hP1 k4 k5 hu hcu
      have hmO : hasO (eOf 69 r m) 14 (mulO od (swL (c1 - 3))) := fun i hi => by
        have := isE_ok (b := 69) (r := r) (show Nat.succ i < 4096 by omega) (allL_ok k7 i hi)
        have e1 : mP 14 (1 + i) = 4096 * (69 + 14) + Nat.succ i := by unfold mP; omega
        rw [e1, this, sI_v, mO_eq, mulO_get (ordN_in hsw) hi]
        have hj : prJ (swL (c1 - 3)) i < 5 := by
          have := ORDS_le (ordN_in hsw) hi
          unfold prJ
          rw [nthO_eq]
          show (swL (c1 - 3)).getD i 0 - 1 < 5
          omega
        exact ho2 _ hj
      have v17 : isV 69 45 tMv (mP 0 17) = true ∧ chN [83] (mP 0 17) = false ∧ isV 69 45 tMv (mP 0 1) = true ∧ chN [83] (mP 0 1) = false := by decide +kernel
      have es : List.map (sVal r alM) [.inl (.natCast (shC c0)), refV (nat_lit 0)] = ([.int (Int32.ofNat (c0 - 2)), .ref (alM 0)] : List Value) := by
        simp only [List.map_cons, List.map_nil, sVal, sI_c]
        rfl
      rw [es]
      refine m_tail hFC (by omega) ⟨_, _, rfl, rfl⟩ (fun n hn => allL_ok (allL_ok (allL_ok q_swMR c0 hc0) c1 hc1) n hn) hs z1 ((fr _ v17.1 v17.2.1).trans z3) nn1 nn2 ((fr _ v17.2.2.1 v17.2.2.2).trans hn2) hmul hmO hc (crC_ok (allL_ok crP_M0 c hc) (tM_ok hc) tMv_ok (cv_gen (tM_ok hc)) hP1 k4 (frM_mono (chNN_of (by decide +kernel) (by decide +kernel)) _ _ _ k5) hcc.2) (fun r2 g1 g2 => ⟨rfl, r2, rfl, ?_⟩)
      refine Inv_pu hc hcm hs z1 z2 hmul q3 g1 (fun id hid u hu hv => fr u hv ?_) q4 g2
      have := lAll_ok (allL_ok (show allL 12 (fun id => lAll (fun u => Bool.not (chN [83] u)) (cPl id)) = true by decide +kernel) id hid) u hu
      simpa using this
    · simp only [Bool.and_eq_true] at hk
      obtain ⟨k1, k2, k3⟩ := hk
      have e3 := eqL_ok eqC_ok _ _ k3
      subst e3
      rw [hw1, eqO_ok k1]
      rcases hmid with ⟨rfl, -, rfl⟩ | ⟨q2, -⟩
      · refine ⟨?_, r1, rfl, ?_⟩
        · show some (Value.int (sI r1 (.natCast (nat_lit 4294967295)))) = _
          rw [bad]
        · have ee : eB r1 r1 = r1 := by
            unfold eB
            simp only [ite_self]
          rw [ee]
          exact ⟨c, hc, hcc, hcm⟩
      · rw [q2] at k2; cases k2
