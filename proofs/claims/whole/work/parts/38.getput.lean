/-! 38: get, put (by wip/whole/mk38.py) -/
theorem oIt_ok {r : sE} {s : Nat} (hN : ∀ j, j < 20 → r.1 (mP 9 (20 * s) + j) = r.1 (xP (37 + 2 * s) 0 + j)) : ∀ {a1 : Nat}, a1 < 22 → oMs r (oIt s a1)
  | 0, _ => oM_nil
  | 1, _ => oM_nil
  | k + 2, hk => by
    refine oM_cons ?_ oM_nil
    have e1 : mP 9 (mpN s k) = mP 9 (20 * s) + k := by show 4096 * (69 + 9) + (20 * s + k) = 4096 * (69 + 9) + 20 * s + k; omega
    have e2 : xpN s k = xP (37 + 2 * s) 0 + k := by rw [xpN_eq]; unfold xP; omega
    rw [sI_v, e1, e2]
    exact hN k (by omega)
noncomputable def getR (a0 lt a1 : Nat) : Bool := jRun (nat_lit 100000) (nat_lit 200) tXv tXv tMv tMv (nat_lit 114) (nat_lit 208) (KXs (shC a0)) KMs (oXs0 (shC a0) (nat_lit 2)) ((nat_lit 7, shC a0, .natCast (nat_lit 2)) :: (nat_lit 8, shC a0, .var (xpZ (shC a0))) :: oIt (shC a0) a1)
  (dP (nat_lit 819200) (nat_lit 0) (nat_lit 4) a0 (dP (nat_lit 819201) (nat_lit 0) (nat_lit 20) a1 (ltP (dA (nat_lit 819201) (nat_lit 0) (nat_lit 20) a1) (dAL (nat_lit 819201) a1) (xpZ (shC a0)) lt))) [.inl (dA (nat_lit 819200) (nat_lit 0) (nat_lit 4) a0), .inl (dA (nat_lit 819201) (nat_lit 0) (nat_lit 20) a1)] (fun x0 m0 pa x m => frJ (chN []) x0 m0 x m)
noncomputable def get0 (a0 σ : Nat) : Bool := jRun (nat_lit 100000) (nat_lit 200) tXv tXv tMv tMv (nat_lit 114) (nat_lit 208) (KXs (shC a0)) KMs (oXs0 (shC a0) σ) [(nat_lit 7, shC a0, .natCast σ)]
  (dP (nat_lit 819200) (nat_lit 0) (nat_lit 4) a0 []) [.inl (dA (nat_lit 819200) (nat_lit 0) (nat_lit 4) a0), .inl (.var (nat_lit 819201))] (fun x0 m0 pa x m => frJ (chN []) x0 m0 x m)
theorem q_get : allL 6 (fun a0 => Bool.and (allL 2 (fun σ => get0 a0 σ)) (allL 2 (fun lt => allL 22 (fun a1 => Bool.or (Bool.and (Nat.beq a1 (nat_lit 1)) (Nat.beq lt (nat_lit 1))) (getR a0 lt a1))))) = true := by decide +kernel
theorem op_get {l : Launch} {D : va_G} {cy : Nat → ClassId} {alX alM : Nat → Nat} : OpI l D cy alX alM 114 208 2 := by
  intro r as hI hlen
  obtain ⟨a0, a1, rfl⟩ : ∃ a0 a1, as = [a0, a1] := by
    match as, hlen with
    | [a0, a1], _ => exact ⟨a0, a1, rfl⟩
  refine OpOk_uA [a0, a1] ?_
  replace hI := Inv_uA (as := [a0, a1]) hI
  have e0 : (uA r [a0, a1]).1 819200 = a0 := uA_a 0
  have e1 : (uA r [a0, a1]).1 819201 = a1 := uA_a 1
  generalize uA r [a0, a1] = r at hI e0 e1 ⊢
  obtain ⟨c0, hc0, hp0, hv0⟩ := dP_ok r 819200 (lo := 0) (n := 4) (Or.inr (by omega)) (by omega)
  rw [e0] at hv0
  obtain ⟨c1, hc1, hp1, hv1⟩ := dP_ok r 819201 (lo := 0) (n := 20) (Or.inr (by omega)) (by omega)
  rw [e1] at hv1
  have hs : c0 - 2 < 4 := by omega
  obtain ⟨c, hc, hcc, hcm⟩ := id hI
  have hS := hcm (4 + (c0 - 2)) (by omega)
  rw [Comp_S hs] at hS
  have hq := allL_ok q_get c0 hc0
  rw [Bool.and_eq_true] at hq
  have low : ∀ σ, σ < 2 → r.1 (xP (36 + 2 * (c0 - 2)) 0) = Int32.ofNat σ → r.1 (mP 7 (c0 - 2)) = Int32.ofNat σ → OpOk l D cy alX alM 200 r 114 208 (List.map Value.int [a0, a1]) Inv := fun σ hσ q1 q2 => by
    refine jOk l tXv_ok tXv_ok tMv_ok tMv_ok (cC_X r) (cC_M r) (hp0 _ sPa_nil) (fun _ _ _ => rfl) (fun _ _ _ => rfl) (oX_cons (by rw [sI_c]; exact q1) oX_nil) (oM_cons (by rw [sI_c]; exact q2) oM_nil) ?_ ?_ (allL_ok hq.1 σ hσ) ?_
    · simp only [List.map_cons, List.map_nil, sVal, hv0, sI_v, e1]
    · simp only [List.map_cons, List.map_nil, sVal, hv0, sI_v, e1]
    · intro x0 m0 pa x m hx0 hm0 hck hp hfx hfm _ _
      exact Inv_N hs hx0 hm0 hfx hfm hck hI
  obtain ⟨g1, g2⟩ := id hS
  rcases g2 with g2 | ⟨g2, -⟩ | ⟨q2, ⟨z, z1, z2, z3⟩, hN⟩
  · exact low 0 (by omega) g2 (g1.trans g2)
  · exact low 1 (by omega) g2 (g1.trans g2)
  · have hz : r.1 (xpZ (c0 - 2)) = Int32.ofNat z := by rw [xpZ_eq]; exact z2
    obtain ⟨lt, hlt, hpl, hlt1⟩ := ltP_ok (e := dA 819201 0 20 c1) (eL := dAL 819201 c1) (v := r.1 819201) hz z1 (by rw [hv1, e1]) (dAL_ok (n := 20) (by omega) (by rw [hv1, e1]))
    have hr := allL_ok (allL_ok hq.2 lt hlt) c1 hc1
    rw [Bool.or_eq_true] at hr
    rcases hr with hr | hr
    · rw [Bool.and_eq_true] at hr
      have w1 : c1 = 1 := Nat.eq_of_beq_eq_true hr.1
      have w2 : lt = 1 := Nat.eq_of_beq_eq_true hr.2
      subst w1
      have w3 := (sPa_cons.mp (hp1 _ sPa_nil)).1
      have w4 : ¬ sI r (.var 819201) < sI r (dV 0 20) := w3
      rw [Int32.lt_iff_toInt_lt, sI_v, dV_int (lo := 0) (m := 20) (z := 0) (Or.inr ⟨by omega, rfl⟩) (by omega)] at w4
      have := hlt1 w2
      omega
    · refine jOk l tXv_ok tXv_ok tMv_ok tMv_ok (cC_X r) (cC_M r) (hp0 _ (hp1 _ hpl)) (fun _ _ _ => rfl) (fun _ _ _ => rfl) (oX_cons (by rw [sI_c]; exact q2) oX_nil) (oM_cons (by rw [sI_c]; exact g1.trans q2) (oM_cons (show r.1 (mP 8 (c0 - 2)) = sI r (.var (xpZ (c0 - 2))) by rw [sI_v, hz]; exact z3) (oIt_ok hN hc1))) ?_ ?_ hr ?_
      · simp only [List.map_cons, List.map_nil, sVal, hv0, hv1]
      · simp only [List.map_cons, List.map_nil, sVal, hv0, hv1]
      · intro x0 m0 pa x m hx0 hm0 hck hp hfx hfm _ _
        exact Inv_N hs hx0 hm0 hfx hfm hck hI
noncomputable def putR (a0 lt a1 : Nat) : Bool := jRun (nat_lit 100000) (nat_lit 200) tXv tXv tMv tMv (nat_lit 113) (nat_lit 207) (KXs (shC a0)) KMs (oXs0 (shC a0) (nat_lit 2)) ((nat_lit 7, shC a0, .natCast (nat_lit 2)) :: (nat_lit 8, shC a0, .var (xpZ (shC a0))) :: oIt (shC a0) a1)
  (dP (nat_lit 819200) (nat_lit 0) (nat_lit 4) a0 (dP (nat_lit 819201) (nat_lit 0) (nat_lit 20) a1 (ltP (dA (nat_lit 819201) (nat_lit 0) (nat_lit 20) a1) (dAL (nat_lit 819201) a1) (xpZ (shC a0)) lt))) [.inl (dA (nat_lit 819200) (nat_lit 0) (nat_lit 4) a0), .inl (dA (nat_lit 819201) (nat_lit 0) (nat_lit 20) a1), .inl (.var (nat_lit 819202))] (fun x0 m0 pa x m => ckK (shC a0) a1 (.var (nat_lit 819202)) x0 m0 x m)
noncomputable def put0 (a0 σ : Nat) : Bool := jRun (nat_lit 100000) (nat_lit 200) tXv tXv tMv tMv (nat_lit 113) (nat_lit 207) (KXs (shC a0)) KMs (oXs0 (shC a0) σ) [(nat_lit 7, shC a0, .natCast σ)]
  (dP (nat_lit 819200) (nat_lit 0) (nat_lit 4) a0 []) [.inl (dA (nat_lit 819200) (nat_lit 0) (nat_lit 4) a0), .inl (.var (nat_lit 819201)), .inl (.var (nat_lit 819202))] (fun x0 m0 pa x m => frJ (chN []) x0 m0 x m)
theorem q_put : allL 6 (fun a0 => Bool.and (allL 2 (fun σ => put0 a0 σ)) (allL 2 (fun lt => allL 22 (fun a1 => Bool.or (Bool.and (Nat.beq a1 (nat_lit 1)) (Nat.beq lt (nat_lit 1))) (putR a0 lt a1))))) = true := by decide +kernel
theorem op_put {l : Launch} {D : va_G} {cy : Nat → ClassId} {alX alM : Nat → Nat} : OpI l D cy alX alM 113 207 3 := by
  intro r as hI hlen
  obtain ⟨a0, a1, a2, rfl⟩ : ∃ a0 a1 a2, as = [a0, a1, a2] := by
    match as, hlen with
    | [a0, a1, a2], _ => exact ⟨a0, a1, a2, rfl⟩
  refine OpOk_uA [a0, a1, a2] ?_
  replace hI := Inv_uA (as := [a0, a1, a2]) hI
  have e0 : (uA r [a0, a1, a2]).1 819200 = a0 := uA_a 0
  have e1 : (uA r [a0, a1, a2]).1 819201 = a1 := uA_a 1
  have e2 : (uA r [a0, a1, a2]).1 819202 = a2 := uA_a 2
  generalize uA r [a0, a1, a2] = r at hI e0 e1 e2 ⊢
  obtain ⟨c0, hc0, hp0, hv0⟩ := dP_ok r 819200 (lo := 0) (n := 4) (Or.inr (by omega)) (by omega)
  rw [e0] at hv0
  obtain ⟨c1, hc1, hp1, hv1⟩ := dP_ok r 819201 (lo := 0) (n := 20) (Or.inr (by omega)) (by omega)
  rw [e1] at hv1
  have hs : c0 - 2 < 4 := by omega
  obtain ⟨c, hc, hcc, hcm⟩ := id hI
  have hS := hcm (4 + (c0 - 2)) (by omega)
  rw [Comp_S hs] at hS
  have hq := allL_ok q_put c0 hc0
  rw [Bool.and_eq_true] at hq
  have low : ∀ σ, σ < 2 → r.1 (xP (36 + 2 * (c0 - 2)) 0) = Int32.ofNat σ → r.1 (mP 7 (c0 - 2)) = Int32.ofNat σ → OpOk l D cy alX alM 200 r 113 207 (List.map Value.int [a0, a1, a2]) Inv := fun σ hσ q1 q2 => by
    refine jOk l tXv_ok tXv_ok tMv_ok tMv_ok (cC_X r) (cC_M r) (hp0 _ sPa_nil) (fun _ _ _ => rfl) (fun _ _ _ => rfl) (oX_cons (by rw [sI_c]; exact q1) oX_nil) (oM_cons (by rw [sI_c]; exact q2) oM_nil) ?_ ?_ (allL_ok hq.1 σ hσ) ?_
    · simp only [List.map_cons, List.map_nil, sVal, hv0, sI_v, e1, e2]
    · simp only [List.map_cons, List.map_nil, sVal, hv0, sI_v, e1, e2]
    · intro x0 m0 pa x m hx0 hm0 hck hp hfx hfm _ _
      exact Inv_N hs hx0 hm0 hfx hfm hck hI
  obtain ⟨g1, g2⟩ := id hS
  rcases g2 with g2 | ⟨g2, -⟩ | ⟨q2, ⟨z, z1, z2, z3⟩, hN⟩
  · exact low 0 (by omega) g2 (g1.trans g2)
  · exact low 1 (by omega) g2 (g1.trans g2)
  · have hz : r.1 (xpZ (c0 - 2)) = Int32.ofNat z := by rw [xpZ_eq]; exact z2
    obtain ⟨lt, hlt, hpl, hlt1⟩ := ltP_ok (e := dA 819201 0 20 c1) (eL := dAL 819201 c1) (v := r.1 819201) hz z1 (by rw [hv1, e1]) (dAL_ok (n := 20) (by omega) (by rw [hv1, e1]))
    have hr := allL_ok (allL_ok hq.2 lt hlt) c1 hc1
    rw [Bool.or_eq_true] at hr
    rcases hr with hr | hr
    · rw [Bool.and_eq_true] at hr
      have w1 : c1 = 1 := Nat.eq_of_beq_eq_true hr.1
      have w2 : lt = 1 := Nat.eq_of_beq_eq_true hr.2
      subst w1
      have w3 := (sPa_cons.mp (hp1 _ sPa_nil)).1
      have w4 : ¬ sI r (.var 819201) < sI r (dV 0 20) := w3
      rw [Int32.lt_iff_toInt_lt, sI_v, dV_int (lo := 0) (m := 20) (z := 0) (Or.inr ⟨by omega, rfl⟩) (by omega)] at w4
      have := hlt1 w2
      omega
    · refine jOk l tXv_ok tXv_ok tMv_ok tMv_ok (cC_X r) (cC_M r) (hp0 _ (hp1 _ hpl)) (fun _ _ _ => rfl) (fun _ _ _ => rfl) (oX_cons (by rw [sI_c]; exact q2) oX_nil) (oM_cons (by rw [sI_c]; exact g1.trans q2) (oM_cons (show r.1 (mP 8 (c0 - 2)) = sI r (.var (xpZ (c0 - 2))) by rw [sI_v, hz]; exact z3) (oIt_ok hN hc1))) ?_ ?_ hr ?_
      · simp only [List.map_cons, List.map_nil, sVal, hv0, hv1, sI_v, e2]
      · simp only [List.map_cons, List.map_nil, sVal, hv0, hv1, sI_v, e2]
      · intro x0 m0 pa x m hx0 hm0 hck hp hfx hfm _ _
        exact Inv_K hs hx0 hm0 hfx hfm hck hI (fun q => absurd (q2.symm.trans q) (by decide))
