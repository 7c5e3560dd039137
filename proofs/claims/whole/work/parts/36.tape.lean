/-! 36: wipe, feed (by wip/whole/mk36.py) -/
noncomputable def chP (z u : Nat) : Bool := memB [nat_lit 7, nat_lit 282665, Nat.add (nat_lit 196608) z, Nat.add (nat_lit 417792) z] u
noncomputable def eqC0 (x : sM) (i j k : Nat) : Bool := gI x i j (fun e => sNum e (fun n => Nat.beq n k))
theorem eqC0_x {r : sE} {x m : sM} {i j k : Nat} (hi : i < 68) (hj : j < 4096) (h : eqC0 x i j k = true) : (eJ r x m).1 (xP i j) = Int32.ofNat k := by
  obtain ⟨e, h1, h2⟩ := gI_x (r := r) (m := m) hi hj h
  obtain ⟨n, rfl, h3⟩ := sNum_ok h1
  rw [h2, sI_c, Nat.eq_of_beq_eq_true h3]
theorem eqC0_m {r : sE} {x m : sM} {i j k : Nat} (hj : j < 4096) (h : eqC0 m i j k = true) : (eJ r x m).1 (mP i j) = Int32.ofNat k := by
  obtain ⟨e, h1, h2⟩ := gI_m (r := r) (x := x) hj h
  obtain ⟨n, rfl, h3⟩ := sNum_ok h1
  rw [h2, sI_c, Nat.eq_of_beq_eq_true h3]
noncomputable def eqE0 (x : sM) (i j : Nat) (e0 : sX) : Bool := gI x i j (fun e => eqX e e0)
theorem eqE0_x {r : sE} {x m : sM} {i j : Nat} {e0 : sX} (hi : i < 68) (hj : j < 4096) (h : eqE0 x i j e0 = true) : (eJ r x m).1 (xP i j) = sI r e0 := by
  obtain ⟨e, h1, h2⟩ := gI_x (r := r) (m := m) hi hj h
  rw [h2, eqX_ok _ _ h1]
theorem eqE0_m {r : sE} {x m : sM} {i j : Nat} {e0 : sX} (hj : j < 4096) (h : eqE0 m i j e0 = true) : (eJ r x m).1 (mP i j) = sI r e0 := by
  obtain ⟨e, h1, h2⟩ := gI_m (r := r) (x := x) hj h
  rw [h2, eqX_ok _ _ h1]
noncomputable def KXp : Nat → Bool := memB [nat_lit 0, nat_lit 48]
noncomputable def KMp : Nat → Bool := memB [nat_lit 0, nat_lit 33]
theorem crJ_P : allL 81 (fun z => Bool.and (crJ KXp KMp (chN [])) (crJ KXp KMp (chP z))) = true := by decide +kernel
theorem chP_ok : allL 81 (fun z => allL 12 (fun id => Bool.or (Nat.beq id (nat_lit 9)) (lAll (fun u => Bool.not (chP z u)) (cPl id)))) = true := by decide +kernel
theorem q_wipe : jRun (nat_lit 100000) (nat_lit 200) tXv tXv tMv tMv (nat_lit 119) (nat_lit 212) KXp KMp [] [(0, 41, .var 7)] [] [] (fun x0 m0 pa x m => Bool.and (frJ (chP 0) x0 m0 x m) (Bool.and (eqC0 x 0 7 0) (eqC0 m 0 41 0))) = true := by decide +kernel
theorem op_wipe {l : Launch} {D : va_G} {cy : Nat → ClassId} {alX alM : Nat → Nat} : OpI l D cy alX alM 119 212 0 := by
  intro r as hI hlen
  obtain rfl : as = [] := List.length_eq_zero_iff.mp hlen
  refine OpOk_uA [] ?_
  replace hI := Inv_uA (as := []) hI
  generalize uA r [] = r at hI  ⊢
  obtain ⟨c, hc, hcc, hcm⟩ := id hI
  obtain ⟨z, z1, z2, z3, z4⟩ := (show cP r from hcm 9 (by omega))
  refine jOk l tXv_ok tXv_ok tMv_ok tMv_ok (cC_X r) (cC_M r) sPa_nil (fun _ _ _ => rfl) (fun _ _ _ => rfl) oX_nil (oM_cons (by rw [sI_v]; exact z3.trans z2.symm) oM_nil) rfl rfl q_wipe ?_
  intro x0 m0 pa x m hx0 hm0 hck hp hfx hfm _ _
  rw [Bool.and_eq_true, Bool.and_eq_true] at hck
  have hcr := allL_ok crJ_P 0 (by omega)
  rw [Bool.and_eq_true] at hcr
  refine Inv_touch (T := fun id => Nat.beq id 9) hcr.2 (fun id hid q => ?_) hx0 hm0 hfx hfm hck.1 hI (fun c hc h1 h2 id hid q => ?_)
  · have := allL_ok (allL_ok chP_ok 0 (by omega)) id hid
    rw [show Nat.beq id (nat_lit 9) = false from q] at this
    exact this
  · have e : id = 9 := Nat.eq_of_beq_eq_true q
    subst e
    exact ⟨0, by omega, eqC0_x (by omega) (by omega) hck.2.1, eqC0_m (by omega) hck.2.2, fun i hi => by omega⟩
noncomputable def exB : sX := .pow (.neg (.pow (.neg (.var 819200)) 1)) 2
theorem exB_tab : ∀ k, k < 127 → 32 ≤ k → vp_nar .byte (Int32.ofNat k).toInt8.toInt32 = Int32.ofNat k := by decide +kernel
noncomputable def ckF (z : Nat) (x0 m0 : sM) (pa : List sK) (x m : sM) : Bool := Bool.or (frJ (chN []) x0 m0 x m) (Bool.and (frJ (chP z) x0 m0 x m) (Bool.and (Bool.and (eqC0 x 0 7 (Nat.succ z)) (eqC0 m 0 41 (Nat.succ z))) (Bool.and (Bool.and (eqE0 x 48 z exB) (eqE0 m 33 z (.var 819200))) (Bool.and (Nat.ble (Nat.succ z) (nat_lit 80)) (Bool.and (sAsk false (.var 819200) (.natCast (nat_lit 32)) false true false pa) (sAsk false (.natCast (nat_lit 126)) (.var 819200) false true false pa))))))
theorem chP_no : allL 81 (fun z => allL 80 (fun i => Bool.or (Nat.beq i z) (Bool.and (Bool.not (chP z (xP 48 i))) (Bool.not (chP z (mP 33 i)))))) = true := by decide +kernel
theorem q_feed : allL 81 (fun z => jRun (nat_lit 100000) (nat_lit 200) tXv tXv tMv tMv (nat_lit 118) (nat_lit 211) KXp KMp [(0, 7, .natCast z)] [(0, 41, .natCast z)] [] [.inl (.var 819200)] (ckF z)) = true := by decide +kernel
theorem sAsk_no {r : sE} {pa : List sK} {x y : sX} (hp : sPa r pa) (h : sAsk false x y false true false pa = true) : ¬ sI r x < sI r y := by
  rcases sAsk_ok (r := r) hp h with ⟨-, h⟩ | ⟨h, -⟩ | h
  · cases h
  · exact h
  · cases h
theorem op_feed {l : Launch} {D : va_G} {cy : Nat → ClassId} {alX alM : Nat → Nat} : OpI l D cy alX alM 118 211 1 := by
  intro r as hI hlen
  obtain ⟨a0, rfl⟩ : ∃ a0, as = [a0] := by
    match as, hlen with
    | [a0], _ => exact ⟨a0, rfl⟩
  refine OpOk_uA [a0] ?_
  replace hI := Inv_uA (as := [a0]) hI
  have e0 : (uA r [a0]).1 819200 = a0 := uA_a 0
  generalize uA r [a0] = r at hI e0 ⊢
  obtain ⟨c, hc, hcc, hcm⟩ := id hI
  obtain ⟨z, z1, z2, z3, z4⟩ := (show cP r from hcm 9 (by omega))
  refine jOk l tXv_ok tXv_ok tMv_ok tMv_ok (cC_X r) (cC_M r) sPa_nil (fun _ _ _ => rfl) (fun _ _ _ => rfl) (oX_cons (by rw [sI_c]; exact z2) oX_nil) (oM_cons (by rw [sI_c]; exact z3) oM_nil) ?_ ?_ (allL_ok q_feed z (by omega)) ?_
  · simp only [List.map_cons, List.map_nil, sVal, sI_v, e0]
  · simp only [List.map_cons, List.map_nil, sVal, sI_v, e0]
  intro x0 m0 pa x m hx0 hm0 hck hp hfx hfm _ _
  have hcr := allL_ok crJ_P z (by omega)
  unfold ckF at hck
  rw [Bool.and_eq_true] at hcr
  rw [Bool.or_eq_true] at hck
  rcases hck with hck | hck
  · exact Inv_touch (T := fun _ => false) hcr.1 (fun id hid _ => allL_ok chN_ok id hid) hx0 hm0 hfx hfm hck hI (fun c hc h1 h2 id hid q => nomatch q)
  simp only [Bool.and_eq_true] at hck
  obtain ⟨k1, ⟨k2, k3⟩, ⟨k4, k5⟩, k6, k7, k8⟩ := hck
  have k6' : z + 1 ≤ 80 := Nat.le_of_ble_eq_true k6
  refine Inv_touch (T := fun id => Nat.beq id 9) hcr.2 (fun id hid q => ?_) hx0 hm0 hfx hfm k1 hI (fun c hc h1 h2 id hid q => ?_)
  · have := allL_ok (allL_ok chP_ok z (by omega)) id hid
    rw [show Nat.beq id (nat_lit 9) = false from q] at this
    exact this
  · have e : id = 9 := Nat.eq_of_beq_eq_true q
    subst e
    have g7 := sAsk_no hp k7
    have g8 := sAsk_no hp k8
    rw [sI_v, sI_c, e0] at g7 g8
    have q1 := i32_le g7
    have q2 := i32_le g8
    have hB : (eJ r x m).1 (xP 48 z) = a0 := by
      rw [eqE0_x (by omega) (by omega) k4]
      obtain ⟨k, hk1, hk2⟩ : ∃ k : Nat, (32 ≤ k ∧ k < 127) ∧ a0 = Int32.ofNat k := by
        refine ⟨a0.toInt.toNat, ?_, ?_⟩
        · rw [Int32.le_iff_toInt_le] at q1 q2
          have w1 : (Int32.ofNat (nat_lit 32)).toInt = 32 := by decide
          have w2 : (Int32.ofNat (nat_lit 126)).toInt = 126 := by decide
          rw [w1] at q1
          rw [w2] at q2
          omega
        · rw [← Int32.toInt_inj, Int32.toInt_ofNat', Int.bmod_def]
          rw [Int32.le_iff_toInt_le] at q1 q2
          have w1 : (Int32.ofNat (nat_lit 32)).toInt = 32 := by decide
          have w2 : (Int32.ofNat (nat_lit 126)).toInt = 126 := by decide
          rw [w1] at q1
          rw [w2] at q2
          simp only [show ((Int32.size : Nat) : Int) = 4294967296 from rfl]
          split <;> omega
      have : sI r exB = vp_nar .byte (r.1 819200).toInt8.toInt32 := by
        unfold exB
        simp only [sI, sD_u, sD_v]
        rfl
      rw [this, e0, hk2]
      exact exB_tab k hk1.2 hk1.1
    have hM : (eJ r x m).1 (mP 33 z) = a0 := by rw [eqE0_m (by omega) k5, sI_v, e0]
    refine ⟨z + 1, k6', eqC0_x (by omega) (by omega) k2, eqC0_m (by omega) k3, fun i hi => ?_⟩
    by_cases ei : i = z
    · subst ei
      rw [hB, hM]
      exact ⟨rfl, q1, q2⟩
    · obtain ⟨w1, w2⟩ := cPl_P.2 i (by omega)
      have f := allL_ok (allL_ok chP_no z (by omega)) i (by omega)
      rw [Bool.or_eq_true, Bool.and_eq_true] at f
      rcases f with f | ⟨f1, f2⟩
      · exact absurd (Nat.eq_of_beq_eq_true f) ei
      rw [frJ_place tXv_ok tMv_ok vPl_v hx0 hm0 hfx hfm k1 (show 9 < 12 by omega) w1 (by simpa using f1), frJ_place tXv_ok tMv_ok vPl_v hx0 hm0 hfx hfm k1 (show 9 < 12 by omega) w2 (by simpa using f2)]
      obtain ⟨z', g1, g2, g3, g4⟩ := (show cP r from h2 9 (by omega))
      have ez : z' = z := by
        have := g2.symm.trans z2
        have w := congrArg Int32.toInt this
        simp only [Int32.toInt_ofNat', Int.bmod_def, show ((Int32.size : Nat) : Int) = 4294967296 from rfl] at w
        rw [if_pos (by omega), if_pos (by omega)] at w
        omega
      subst ez
      exact g4 i (by omega)
