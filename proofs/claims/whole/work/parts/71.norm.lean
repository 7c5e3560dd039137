/-! 53: norm (by wip/whole/mk52.py) -/
noncomputable def normR (c a0 a1 : Nat) : Bool := qRun c (nat_lit 103) (nat_lit 197) [nat_lit 0, nat_lit 1, nat_lit 24, nat_lit 25, nat_lit 26, nat_lit 27] [nat_lit 0, nat_lit 4, nat_lit 5, nat_lit 30, nat_lit 31] (dP (nat_lit 819200) (nat_lit 0) (dOf c) a0 (dP (nat_lit 819201) (nat_lit 0) (nat_lit 2) a1 [])) [.inl (dA (nat_lit 819200) (nat_lit 0) (dOf c) a0), .inl (dA (nat_lit 819201) (nat_lit 0) (nat_lit 2) a1)]
noncomputable def norm1 (c a0 : Nat) : Bool := qRun c (nat_lit 103) (nat_lit 197) [nat_lit 0, nat_lit 1, nat_lit 24, nat_lit 25, nat_lit 26, nat_lit 27] [nat_lit 0, nat_lit 4, nat_lit 5, nat_lit 30, nat_lit 31] (dP (nat_lit 819200) (nat_lit 0) (dOf c) a0 []) [.inl (dA (nat_lit 819200) (nat_lit 0) (dOf c) a0), .inl (.var (nat_lit 819201))]
noncomputable def normT (c : Nat) : Bool := allL (Nat.add (nat_lit 2) (dOf c)) (fun a0 => Bool.rec (motive := fun _ => Bool) (norm1 c a0) (allL 4 (fun a1 => normR c a0 a1)) (Nat.ble (nat_lit 2) a0))
theorem q_norm1 : allL 12 normT = true := by decide +kernel
theorem q_norm2 : allL 2 (fun i => normT (Nat.add (nat_lit 12) i)) = true := by decide +kernel
theorem q_norm3 : normT (nat_lit 14) = true := by decide +kernel
theorem q_norm4 : allL 3 (fun i => normT (Nat.add (nat_lit 15) i)) = true := by decide +kernel
theorem q_norm {c : Nat} (hc : c < 18) : normT c = true := by
  by_cases h1 : c < 12
  · exact allL_ok q_norm1 c h1
  by_cases h2 : c < 14
  · have := allL_ok q_norm2 (c - 12) (by omega)
    rwa [show Nat.add (nat_lit 12) (c - 12) = c by show 12 + (c - 12) = c; omega] at this
  by_cases h3 : c = 14
  · rw [h3]
    exact q_norm3
  · have := allL_ok q_norm4 (c - 15) (by omega)
    rwa [show Nat.add (nat_lit 15) (c - 15) = c by show 15 + (c - 15) = c; omega] at this
theorem op_norm {l : Launch} {D : va_G} {cy : Nat → ClassId} {alX alM : Nat → Nat} : OpI l D cy alX alM 103 197 2 := by
  intro r as hI hlen
  obtain ⟨a0, a1, rfl⟩ : ∃ a0 a1, as = [a0, a1] := by
    match as, hlen with
    | [a0, a1], _ => exact ⟨a0, a1, rfl⟩
  refine OpOk_uA [a0, a1] ?_
  replace hI := Inv_uA (as := [a0, a1]) hI
  have e0 : (uA r [a0, a1]).1 819200 = a0 := uA_a 0
  have e1 : (uA r [a0, a1]).1 819201 = a1 := uA_a 1
  generalize uA r [a0, a1] = r at hI e0 e1 ⊢
  obtain ⟨c1, hc1, hp1, hv1⟩ := dP_ok r 819201 (lo := 0) (n := 2) (Or.inr (by omega)) (by omega)
  rw [e1] at hv1
  obtain ⟨c, hc, hcc, hcm⟩ := hI
  obtain ⟨⟨d1, d2⟩, -⟩ := cd_tab c hc
  obtain ⟨c0, hc0, hp0, hv0⟩ := dP_ok r 819200 (lo := 0) (n := dOf c) (Or.inr (by omega)) (by omega)
  rw [e0] at hv0
  have hq := allL_ok (q_norm hc) c0 (by show c0 < 2 + dOf c; omega)
  cases hb : Nat.ble (nat_lit 2) c0 with
  | false =>
    rw [hb] at hq
    exact qRun_ok (show norm1 c c0 = true from hq) hc hcc hcm (hp0 _ sPa_nil) (by simp only [List.map_cons, List.map_nil, sVal, hv0, sI_v, e1]) (by simp only [List.map_cons, List.map_nil, sVal, hv0, sI_v, e1])
  | true =>
    rw [hb] at hq
    exact qRun_ok (show normR c c0 c1 = true from allL_ok hq c1 hc1) hc hcc hcm (hp0 _ (hp1 _ sPa_nil)) (by simp only [List.map_cons, List.map_nil, sVal, hv0, hv1]) (by simp only [List.map_cons, List.map_nil, sVal, hv0, hv1])
