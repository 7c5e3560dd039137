/-! 35: row -/
/-- a shelf's number out of an argument's code -/
noncomputable def shC (a : Nat) : Nat := Nat.sub a (nat_lit 2)
theorem q_row : allL 6 (fun a0 => allL 24 (fun a1 => jRun (nat_lit 100000) (nat_lit 200) tXv tXv tMv tMv (nat_lit 112) (nat_lit 206) (KXs (shC a0)) KMs [] []
  (dP (nat_lit 819200) (nat_lit 0) (nat_lit 4) a0 (dP (nat_lit 819201) (nat_lit 4294967295) (nat_lit 22) a1 [])) [.inl (dA (nat_lit 819200) (nat_lit 0) (nat_lit 4) a0), .inl (dA (nat_lit 819201) (nat_lit 4294967295) (nat_lit 22) a1)]
  (ckSh [] (shC a0)))) = true := by decide +kernel
theorem op_row {l : Launch} {D : va_G} {cy : Nat → ClassId} {alX alM : Nat → Nat} : OpI l D cy alX alM 112 206 2 := by
  intro r as hI hlen
  obtain ⟨a0, a1, rfl⟩ : ∃ a0 a1, as = [a0, a1] := by
    match as, hlen with
    | [a0, a1], _ => exact ⟨a0, a1, rfl⟩
  refine OpOk_uA [a0, a1] ?_
  replace hI := Inv_uA (as := [a0, a1]) hI
  have e0 : (uA r [a0, a1]).1 819200 = a0 := uA_a 0
  have e1 : (uA r [a0, a1]).1 819201 = a1 := uA_a 1
  generalize uA r [a0, a1] = r at hI e0 e1 ⊢
  obtain ⟨c0, hc0, hp0, hv0⟩ := dP_ok r 819200 (lo := 0) (n := 4) (Or.inr (by omega)) (by omega)
  obtain ⟨c1, hc1, hp1, hv1⟩ := dP_ok r 819201 (lo := 4294967295) (n := 22) (Or.inl rfl) (by omega)
  rw [e0] at hv0
  rw [e1] at hv1
  refine jOk l tXv_ok tXv_ok tMv_ok tMv_ok (cC_X r) (cC_M r) (hp0 _ (hp1 _ (fun _ q => absurd q List.not_mem_nil))) (fun _ _ _ => rfl) (fun _ _ _ => rfl) (fun _ q => absurd q List.not_mem_nil) (fun _ q => absurd q List.not_mem_nil) ?_ ?_ (allL_ok (allL_ok q_row c0 hc0) c1 hc1) ?_
  · simp only [List.map_cons, List.map_nil, sVal, hv0, hv1]
  · simp only [List.map_cons, List.map_nil, sVal, hv0, hv1]
  · intro x0 m0 pa x m hx0 hm0 hck hp hfx hfm _ _
    exact Inv_Sh (show c0 - 2 < 4 by omega) hx0 hm0 hfx hfm hp hck hI
