/-! 39: has, give, vector (by wip/whole/mk39.py) -/
theorem oIt_ok6 {r : sE} {s a1 : Nat} (hN : ∀ j, j < 20 → r.1 (mP 9 (20 * s) + j) = r.1 (xP (37 + 2 * s) 0 + j)) (h : a1 < 8) : oMs r (oIt s a1) := oIt_ok hN (by omega)
noncomputable def hasR (d a0 a1 : Nat) : Bool := jRun (nat_lit 100000) (nat_lit 200) tXv tXv tMv tMv (nat_lit 109) (nat_lit 203) (KXs (shC a0)) KMs ((nat_lit 1, nat_lit 2, .natCast d) :: oXs0 (shC a0) (nat_lit 1)) ((nat_lit 0, nat_lit 4, .natCast d) :: (nat_lit 7, shC a0, .natCast (nat_lit 1)) :: oIt (shC a0) a1)
  (dP (nat_lit 819200) (nat_lit 0) (nat_lit 4) a0 (dP (nat_lit 819201) (nat_lit 0) (nat_lit 6) a1 [])) [.inl (dA (nat_lit 819200) (nat_lit 0) (nat_lit 4) a0), .inl (dA (nat_lit 819201) (nat_lit 0) (nat_lit 6) a1)] (fun x0 m0 pa x m => frJ (chN []) x0 m0 x m)
noncomputable def has0 (d a0 σ : Nat) : Bool := jRun (nat_lit 100000) (nat_lit 200) tXv tXv tMv tMv (nat_lit 109) (nat_lit 203) (KXs (shC a0)) KMs ((nat_lit 1, nat_lit 2, .natCast d) :: oXs0 (shC a0) σ) [(nat_lit 0, nat_lit 4, .natCast d), (nat_lit 7, shC a0, .natCast σ)]
  (dP (nat_lit 819200) (nat_lit 0) (nat_lit 4) a0 []) [.inl (dA (nat_lit 819200) (nat_lit 0) (nat_lit 4) a0), .inl (.var (nat_lit 819201))] (fun x0 m0 pa x m => frJ (chN []) x0 m0 x m)
theorem q_has : allL 6 (fun d => allL 6 (fun a0 => Bool.and (Bool.and (has0 (Nat.succ d) a0 (nat_lit 0)) (has0 (Nat.succ d) a0 (nat_lit 2))) (allL 8 (fun a1 => hasR (Nat.succ d) a0 a1)))) = true := by decide +kernel
theorem op_has {l : Launch} {D : va_G} {cy : Nat → ClassId} {alX alM : Nat → Nat} : OpI l D cy alX alM 109 203 2 := by
  intro r as hI hlen
  obtain ⟨a0, a1, rfl⟩ : ∃ a0 a1, as = [a0, a1] := by
    match as, hlen with
    | [a0, a1], _ => exact ⟨a0, a1, rfl⟩
  refine OpOk_uA [a0, a1] ?_
  replace hI := Inv_uA (as := [a0, a1]) hI
  have e0 : (uA r [a0, a1]).1 819200 = a0 := uA_a 0
  have e1 : (uA r [a0, a1]).1 819201 = a1 := uA_a 1
  generalize uA r [a0, a1] = r at hI e0 e1 ⊢
  obtain ⟨c0, hc0, hp0, hv0⟩ := dP_ok r 819200 (lo := 0) (n := 4) (Or.inr (by omega)) (by omega)
  rw [e0] at hv0
  obtain ⟨c1, hc1, hp1, hv1⟩ := dP_ok r 819201 (lo := 0) (n := 6) (Or.inr (by omega)) (by omega)
  rw [e1] at hv1
  have hs : c0 - 2 < 4 := by omega
  obtain ⟨c, hc, hcc, hcm⟩ := id hI
  obtain ⟨⟨-, -, hd1⟩, -, hd2⟩ := CC_nd hc hcc
  obtain ⟨⟨d1, d2⟩, -⟩ := cd_tab c hc
  obtain ⟨d, hd⟩ : ∃ d, dOf c = d + 1 := ⟨dOf c - 1, by omega⟩
  rw [hd] at hd1 hd2
  have hS := hcm (4 + (c0 - 2)) (by omega)
  rw [Comp_S hs] at hS
  have hq := allL_ok (allL_ok q_has d (by omega)) c0 hc0
  rw [Bool.and_eq_true, Bool.and_eq_true] at hq
  have low : ∀ σ, has0 (d + 1) c0 σ = true → r.1 (xP (36 + 2 * (c0 - 2)) 0) = Int32.ofNat σ → r.1 (mP 7 (c0 - 2)) = Int32.ofNat σ → OpOk l D cy alX alM 200 r 109 203 (List.map Value.int [a0, a1]) Inv := fun σ hσ q1 q2 => by
    refine jOk l tXv_ok tXv_ok tMv_ok tMv_ok (cC_X r) (cC_M r) (hp0 _ sPa_nil) (fun _ _ _ => rfl) (fun _ _ _ => rfl) (oX_cons (by rw [sI_c]; exact hd1) (oX_cons (by rw [sI_c]; exact q1) oX_nil)) (oM_cons (by rw [sI_c]; exact hd2) (oM_cons (by rw [sI_c]; exact q2) oM_nil)) ?_ ?_ hσ ?_
    · simp only [List.map_cons, List.map_nil, sVal, hv0, sI_v, e1]
    · simp only [List.map_cons, List.map_nil, sVal, hv0, sI_v, e1]
    · intro x0 m0 pa x m hx0 hm0 hck hp hfx hfm _ _
      exact Inv_N hs hx0 hm0 hfx hfm hck hI
  obtain ⟨g1, g2⟩ := id hS
  rcases g2 with g2 | ⟨q2, hN, -⟩ | ⟨g2, -⟩
  · exact low 0 hq.1.1 g2 (g1.trans g2)
  · refine jOk l tXv_ok tXv_ok tMv_ok tMv_ok (cC_X r) (cC_M r) (hp0 _ (hp1 _ sPa_nil)) (fun _ _ _ => rfl) (fun _ _ _ => rfl) (oX_cons (by rw [sI_c]; exact hd1) (oX_cons (by rw [sI_c]; exact q2) oX_nil)) (oM_cons (by rw [sI_c]; exact hd2) (oM_cons (by rw [sI_c]; exact g1.trans q2) (oIt_ok6 hN hc1))) ?_ ?_ (allL_ok hq.2 c1 hc1) ?_
    · simp only [List.map_cons, List.map_nil, sVal, hv0, hv1]
    · simp only [List.map_cons, List.map_nil, sVal, hv0, hv1]
    · intro x0 m0 pa x m hx0 hm0 hck hp hfx hfm _ _
      exact Inv_N hs hx0 hm0 hfx hfm hck hI
  · exact low 2 hq.1.2 g2 (g1.trans g2)
noncomputable def giveR (d a0 a1 : Nat) : Bool := jRun (nat_lit 100000) (nat_lit 200) tXv tXv tMv tMv (nat_lit 108) (nat_lit 202) (KXs (shC a0)) KMs ((nat_lit 1, nat_lit 2, .natCast d) :: oXs0 (shC a0) (nat_lit 1)) ((nat_lit 0, nat_lit 4, .natCast d) :: (nat_lit 7, shC a0, .natCast (nat_lit 1)) :: oIt (shC a0) a1)
  (dP (nat_lit 819200) (nat_lit 0) (nat_lit 4) a0 (dP (nat_lit 819201) (nat_lit 0) (nat_lit 6) a1 [])) [.inl (dA (nat_lit 819200) (nat_lit 0) (nat_lit 4) a0), .inl (dA (nat_lit 819201) (nat_lit 0) (nat_lit 6) a1), .inl (.var (nat_lit 819202))] (fun x0 m0 pa x m => Bool.and (Bool.or (frJ (chN []) x0 m0 x m) (bE pa (.var (nat_lit 819202)))) (ckK (shC a0) a1 (.var (nat_lit 819202)) x0 m0 x m))
noncomputable def give0 (d a0 σ : Nat) : Bool := jRun (nat_lit 100000) (nat_lit 200) tXv tXv tMv tMv (nat_lit 108) (nat_lit 202) (KXs (shC a0)) KMs ((nat_lit 1, nat_lit 2, .natCast d) :: oXs0 (shC a0) σ) [(nat_lit 0, nat_lit 4, .natCast d), (nat_lit 7, shC a0, .natCast σ)]
  (dP (nat_lit 819200) (nat_lit 0) (nat_lit 4) a0 []) [.inl (dA (nat_lit 819200) (nat_lit 0) (nat_lit 4) a0), .inl (.var (nat_lit 819201)), .inl (.var (nat_lit 819202))] (fun x0 m0 pa x m => frJ (chN []) x0 m0 x m)
theorem q_give : allL 6 (fun d => allL 6 (fun a0 => Bool.and (Bool.and (give0 (Nat.succ d) a0 (nat_lit 0)) (give0 (Nat.succ d) a0 (nat_lit 2))) (allL 8 (fun a1 => giveR (Nat.succ d) a0 a1)))) = true := by decide +kernel
theorem op_give {l : Launch} {D : va_G} {cy : Nat → ClassId} {alX alM : Nat → Nat} : OpI l D cy alX alM 108 202 3 := by
  intro r as hI hlen
  obtain ⟨a0, a1, a2, rfl⟩ : ∃ a0 a1 a2, as = [a0, a1, a2] := by
    match as, hlen with
    | [a0, a1, a2], _ => exact ⟨a0, a1, a2, rfl⟩
  refine OpOk_uA [a0, a1, a2] ?_
  replace hI := Inv_uA (as := [a0, a1, a2]) hI
  have e0 : (uA r [a0, a1, a2]).1 819200 = a0 := uA_a 0
  have e1 : (uA r [a0, a1, a2]).1 819201 = a1 := uA_a 1
  have e2 : (uA r [a0, a1, a2]).1 819202 = a2 := uA_a 2
  generalize uA r [a0, a1, a2] = r at hI e0 e1 e2 ⊢
  obtain ⟨c0, hc0, hp0, hv0⟩ := dP_ok r 819200 (lo := 0) (n := 4) (Or.inr (by omega)) (by omega)
  rw [e0] at hv0
  obtain ⟨c1, hc1, hp1, hv1⟩ := dP_ok r 819201 (lo := 0) (n := 6) (Or.inr (by omega)) (by omega)
  rw [e1] at hv1
  have hs : c0 - 2 < 4 := by omega
  obtain ⟨c, hc, hcc, hcm⟩ := id hI
  obtain ⟨⟨-, -, hd1⟩, -, hd2⟩ := CC_nd hc hcc
  obtain ⟨⟨d1, d2⟩, -⟩ := cd_tab c hc
  obtain ⟨d, hd⟩ : ∃ d, dOf c = d + 1 := ⟨dOf c - 1, by omega⟩
  rw [hd] at hd1 hd2
  have hS := hcm (4 + (c0 - 2)) (by omega)
  rw [Comp_S hs] at hS
  have hq := allL_ok (allL_ok q_give d (by omega)) c0 hc0
  rw [Bool.and_eq_true, Bool.and_eq_true] at hq
  have low : ∀ σ, give0 (d + 1) c0 σ = true → r.1 (xP (36 + 2 * (c0 - 2)) 0) = Int32.ofNat σ → r.1 (mP 7 (c0 - 2)) = Int32.ofNat σ → OpOk l D cy alX alM 200 r 108 202 (List.map Value.int [a0, a1, a2]) Inv := fun σ hσ q1 q2 => by
    refine jOk l tXv_ok tXv_ok tMv_ok tMv_ok (cC_X r) (cC_M r) (hp0 _ sPa_nil) (fun _ _ _ => rfl) (fun _ _ _ => rfl) (oX_cons (by rw [sI_c]; exact hd1) (oX_cons (by rw [sI_c]; exact q1) oX_nil)) (oM_cons (by rw [sI_c]; exact hd2) (oM_cons (by rw [sI_c]; exact q2) oM_nil)) ?_ ?_ hσ ?_
    · simp only [List.map_cons, List.map_nil, sVal, hv0, sI_v, e1, e2]
    · simp only [List.map_cons, List.map_nil, sVal, hv0, sI_v, e1, e2]
    · intro x0 m0 pa x m hx0 hm0 hck hp hfx hfm _ _
      exact Inv_N hs hx0 hm0 hfx hfm hck hI
  obtain ⟨g1, g2⟩ := id hS
  rcases g2 with g2 | ⟨q2, hN, -⟩ | ⟨g2, -⟩
  · exact low 0 hq.1.1 g2 (g1.trans g2)
  · refine jOk l tXv_ok tXv_ok tMv_ok tMv_ok (cC_X r) (cC_M r) (hp0 _ (hp1 _ sPa_nil)) (fun _ _ _ => rfl) (fun _ _ _ => rfl) (oX_cons (by rw [sI_c]; exact hd1) (oX_cons (by rw [sI_c]; exact q2) oX_nil)) (oM_cons (by rw [sI_c]; exact hd2) (oM_cons (by rw [sI_c]; exact g1.trans q2) (oIt_ok6 hN hc1))) ?_ ?_ (allL_ok hq.2 c1 hc1) ?_
    · simp only [List.map_cons, List.map_nil, sVal, hv0, hv1, sI_v, e2]
    · simp only [List.map_cons, List.map_nil, sVal, hv0, hv1, sI_v, e2]
    · intro x0 m0 pa x m hx0 hm0 hck hp hfx hfm _ _
      rw [Bool.and_eq_true, Bool.or_eq_true] at hck
      exact Inv_K hs hx0 hm0 hfx hfm hck.2 hI (fun _ => hck.1.imp id (bE_ok hp))
  · exact low 2 hq.1.2 g2 (g1.trans g2)
theorem q_vector : allL 6 (fun d => allL 6 (fun a0 => allL 8 (fun a1 => jRun (nat_lit 100000) (nat_lit 200) tXv tXv tMv tMv (nat_lit 107) (nat_lit 200) (KXs (shC a0)) KMs [(nat_lit 1, nat_lit 2, .natCast (Nat.succ d))] [(nat_lit 0, nat_lit 4, .natCast (Nat.succ d))]
  (dP (nat_lit 819200) (nat_lit 0) (nat_lit 4) a0 (dP (nat_lit 819201) (nat_lit 0) (nat_lit 6) a1 [])) [.inl (dA (nat_lit 819200) (nat_lit 0) (nat_lit 4) a0), .inl (dA (nat_lit 819201) (nat_lit 0) (nat_lit 6) a1)] (ckSh [] (shC a0))))) = true := by decide +kernel
theorem op_vector {l : Launch} {D : va_G} {cy : Nat → ClassId} {alX alM : Nat → Nat} : OpI l D cy alX alM 107 200 2 := by
  intro r as hI hlen
  obtain ⟨a0, a1, rfl⟩ : ∃ a0 a1, as = [a0, a1] := by
    match as, hlen with
    | [a0, a1], _ => exact ⟨a0, a1, rfl⟩
  refine OpOk_uA [a0, a1] ?_
  replace hI := Inv_uA (as := [a0, a1]) hI
  have e0 : (uA r [a0, a1]).1 819200 = a0 := uA_a 0
  have e1 : (uA r [a0, a1]).1 819201 = a1 := uA_a 1
  generalize uA r [a0, a1] = r at hI e0 e1 ⊢
  obtain ⟨c0, hc0, hp0, hv0⟩ := dP_ok r 819200 (lo := 0) (n := 4) (Or.inr (by omega)) (by omega)
  rw [e0] at hv0
  obtain ⟨c1, hc1, hp1, hv1⟩ := dP_ok r 819201 (lo := 0) (n := 6) (Or.inr (by omega)) (by omega)
  rw [e1] at hv1
  have hs : c0 - 2 < 4 := by omega
  obtain ⟨c, hc, hcc, hcm⟩ := id hI
  obtain ⟨⟨-, -, hd1⟩, -, hd2⟩ := CC_nd hc hcc
  obtain ⟨⟨d1, d2⟩, -⟩ := cd_tab c hc
  obtain ⟨d, hd⟩ : ∃ d, dOf c = d + 1 := ⟨dOf c - 1, by omega⟩
  rw [hd] at hd1 hd2
  refine jOk l tXv_ok tXv_ok tMv_ok tMv_ok (cC_X r) (cC_M r) (hp0 _ (hp1 _ sPa_nil)) (fun _ _ _ => rfl) (fun _ _ _ => rfl) (oX_cons (by rw [sI_c]; exact hd1) oX_nil) (oM_cons (by rw [sI_c]; exact hd2) oM_nil) ?_ ?_ (allL_ok (allL_ok (allL_ok q_vector d (by omega)) c0 hc0) c1 hc1) ?_
  · simp only [List.map_cons, List.map_nil, sVal, hv0, hv1]
  · simp only [List.map_cons, List.map_nil, sVal, hv0, hv1]
  · intro x0 m0 pa x m hx0 hm0 hck hp hfx hfm _ _
    exact Inv_Sh hs hx0 hm0 hfx hfm hp hck hI
