/-! 98l: which (by wip/whole/mk98l.py) -/
theorem kd_92 : (PG 92).2.2.2.2 = 1 := by decide +kernel
noncomputable def wiZ (c a0 σ : Nat) (pa : List sK) : Bool := jRun (nat_lit 100000) (nat_lit 200) tXv tXv tMv tMv (nat_lit 92) (nat_lit 180) (KXs (shC a0)) KMs (((nat_lit 1), (nat_lit 1), .natCast (nOf c)) :: ((nat_lit 1), (nat_lit 2), .natCast (dOf c)) :: oXs0 (shC a0) σ) [((nat_lit 0), (nat_lit 1), .natCast (nOf c)), ((nat_lit 0), (nat_lit 4), .natCast (dOf c)), ((nat_lit 7), shC a0, .natCast σ)] (dP (nat_lit 819200) (nat_lit 0) (nat_lit 4) a0 pa) [.inl (dA (nat_lit 819200) (nat_lit 0) (nat_lit 4) a0)] (fun x0 m0 pa x m => frJ (chN []) x0 m0 x m)
/-- the size lies below -/
noncomputable def paW (c a0 : Nat) : List sK := [(false, true, .var (Nat.add (Nat.mul (nat_lit 4096) (Nat.add (nat_lit 36) (Nat.mul (nat_lit 2) (shC a0)))) (nat_lit 1)), .natCast (nOf c)), (false, true, .var (Nat.add (nat_lit 315392) (shC a0)), .natCast (nOf c))]
theorem q_wiZ : allL 18 (fun c => allL 6 (fun a0 => Bool.and (Bool.and (wiZ c a0 (nat_lit 0) []) (wiZ c a0 (nat_lit 1) [])) (Bool.and (Bool.or (Nat.ble (nat_lit 2) a0) (wiZ c a0 (nat_lit 2) [])) (wiZ c a0 (nat_lit 2) (paW c a0))))) = true := by decide +kernel
theorem op_which {l : Launch} {D : va_G} {cy : Nat → ClassId} {alX alM : Nat → Nat} : OpI l D cy alX alM 92 180 1 := by
  intro r as hI hlen
  obtain ⟨a0, rfl⟩ : ∃ a0, as = [a0] := by
    match as, hlen with
    | [a0], _ => exact ⟨a0, rfl⟩
  refine OpOk_uA [a0] ?_
  replace hI := Inv_uA (as := [a0]) hI
  have e0 : (uA r [a0]).1 819200 = a0 := uA_a 0
  generalize uA r [a0] = r at hI e0 ⊢
  obtain ⟨c, hc, hcc, hcm⟩ := id hI
  obtain ⟨⟨-, hn1, hd1⟩, hn2, hd2⟩ := CC_nd hc hcc
  obtain ⟨⟨d1, d6⟩, n1, n5⟩ := cd_tab c hc
  obtain ⟨c0, hc0, hp0, hv0⟩ := dP_ok r 819200 (lo := 0) (n := 4) (Or.inr (by omega)) (by omega)
  rw [e0] at hv0
  have hs : c0 - 2 < 4 := by omega
  have hS := hcm (4 + (c0 - 2)) (by omega)
  rw [Comp_S hs] at hS
  have hq := allL_ok (allL_ok q_wiZ c hc) c0 hc0
  rw [Bool.and_eq_true, Bool.and_eq_true, Bool.and_eq_true] at hq
  have low : ∀ σ pa, wiZ c c0 σ pa = true → sPa r pa → r.1 (xP (36 + 2 * (c0 - 2)) 0) = Int32.ofNat σ → r.1 (mP 7 (c0 - 2)) = Int32.ofNat σ → OpOk l D cy alX alM 200 r 92 180 (List.map Value.int [a0]) Inv := fun σ pa hσ hpa q1 q2 => by
    refine jOk l tXv_ok tXv_ok tMv_ok tMv_ok (cC_X r) (cC_M r) (hp0 _ hpa) (fun _ _ _ => rfl) (fun _ _ _ => rfl) (oX_cons (by rw [sI_c]; exact hn1) (oX_cons (by rw [sI_c]; exact hd1) (oX_cons (by rw [sI_c]; exact q1) oX_nil))) (oM_cons (by rw [sI_c]; exact hn2) (oM_cons (by rw [sI_c]; exact hd2) (oM_cons (by rw [sI_c]; exact q2) oM_nil))) ?_ ?_ hσ ?_
    · simp only [List.map_cons, List.map_nil, sVal, hv0]
    · simp only [List.map_cons, List.map_nil, sVal, hv0]
    · intro x0 m0 pa x m hx0 hm0 hck hp hfx hfm _ _
      exact Inv_N hs hx0 hm0 hfx hfm hck hI
  obtain ⟨g1, g2⟩ := id hS
  rcases g2 with g2 | ⟨g2, -⟩ | ⟨q2, ⟨z, hz, z1, z2⟩, hN⟩
  · exact low 0 [] hq.1.1 sPa_nil g2 (g1.trans g2)
  · exact low 1 [] hq.1.2 sPa_nil g2 (g1.trans g2)
  have eSX : r.1 (4096 * (36 + 2 * (c0 - 2)) + 1) = Int32.ofNat z := z1
  have eSM : r.1 (315392 + (c0 - 2)) = Int32.ofNat z := (congrArg r.1 (show 315392 + (c0 - 2) = mP 8 (c0 - 2) by unfold mP; omega)).trans z2
  by_cases hlt : Int32.ofNat z < Int32.ofNat (nOf c)
  · refine low 2 _ hq.2.2 (fun q hq => ?_) q2 (g1.trans q2)
    rcases List.mem_cons.mp hq with rfl | hq
    · show sI r _ < sI r _
      rw [sI_v, sI_c]
      exact (show r.1 (4096 * (36 + 2 * (c0 - 2)) + 1) < Int32.ofNat (nOf c) by rw [eSX]; exact hlt)
    · rw [List.mem_singleton] at hq
      subst hq
      show sI r _ < sI r _
      rw [sI_v, sI_c]
      exact (show r.1 (315392 + (c0 - 2)) < Int32.ofNat (nOf c) by rw [eSM]; exact hlt)
  have hq2 := hq.2.1
  rw [Bool.or_eq_true] at hq2
  rcases hq2 with b0 | h1
  · have b0 : 2 ≤ c0 := Nat.le_of_ble_eq_true b0
    obtain ⟨s, rfl⟩ : ∃ k, c0 = k + 2 := ⟨c0 - 2, by omega⟩
    simp only [Nat.add_sub_cancel] at *
    have f0 : a0 = Int32.ofNat s := by rw [← hv0, dA_c (by omega)]
    subst f0
    have iff : ∀ t, isFi (nOf c) (xP (37 + 2 * s) 0) r t ↔ isFi (nOf c) (mP 9 (20 * s)) r t := fun t => by
      unfold isFi
      exact and_congr_right (fun _ => ⟨fun h k hk => by rw [hN k (by omega)]; exact h k hk, fun h k hk => by rw [← hN k (by omega)]; exact h k hk⟩)
    by_cases hfi : ∃ t, isFi (nOf c) (xP (37 + 2 * s) 0) r t
    · obtain ⟨t, ht⟩ := hfi
      exact OpOk_V (V := some (.int (Int32.ofNat (wiF c t (dOf c) 0)))) hI (fun rest => c_wiX l hc hs hcc.1 q2 (by rw [z1]; exact hlt) (Or.inl ⟨t, ht, rfl⟩)) (fun rest => c_wiM l hc hs hcc.2 hn2 (g1.trans q2) (by rw [z2]; exact hlt) (Or.inl ⟨t, (iff t).mp ht, rfl⟩)) (Or.inl ⟨kd_92, _, rfl⟩)
    · exact OpOk_V (V := some (.int (Int32.ofNat 4294967291))) hI (fun rest => c_wiX l hc hs hcc.1 q2 (by rw [z1]; exact hlt) (Or.inr ⟨fun t ht => hfi ⟨t, ht⟩, rfl⟩)) (fun rest => c_wiM l hc hs hcc.2 hn2 (g1.trans q2) (by rw [z2]; exact hlt) (Or.inr ⟨fun t ht => hfi ⟨t, (iff t).mpr ht⟩, rfl⟩)) (Or.inl ⟨kd_92, _, rfl⟩)
  · exact low 2 [] h1 sPa_nil q2 (g1.trans q2)
