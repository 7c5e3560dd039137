/-! 52: film, partition (by wip/whole/mk52.py) -/
noncomputable def KXf (s : Nat) : Nat → Bool := memB [nat_lit 0, nat_lit 1, nat_lit 5, nat_lit 6, nat_lit 7, nat_lit 8, nat_lit 9, nat_lit 10, nat_lit 11, nat_lit 35, Nat.add (nat_lit 36) (Nat.mul (nat_lit 2) s), Nat.add (nat_lit 37) (Nat.mul (nat_lit 2) s)]
noncomputable def KMf : Nat → Bool := memB [nat_lit 0, nat_lit 2, nat_lit 3, nat_lit 4, nat_lit 5, nat_lit 7, nat_lit 8, nat_lit 9]
/-- behind an operation on the shelf s at the shape c -/
theorem Inv_Shc {r : sE} {c : Nat} {alX alM : Nat → Nat} {s : Nat} {KX KM : Nat → Bool} {x0 m0 x m : sM} {pa : List sK} (hc : c < 18) (hs : s < 4) (hx0 : ovP r alX 68 (tX c) KX x0) (hm0 : ovP r alM 45 (tM c) KM m0) (hx : fitM 0 68 (tX c) KX x = true) (hm : fitM 69 45 (tM c) KM m = true) (hp : sPa r pa) (h : ckSh [] s x0 m0 pa x m = true) (h3 : ∀ id, id < 12 → Comp id c r)
    (h1 : cC 0 68 (tX c) (eOf 0 r x)) (h2 : cC 69 45 (tM c) (eOf 69 r m)) : Inv (eJ r x m) := by
  unfold ckSh at h
  rw [Bool.or_eq_true] at h
  rcases h with h | h
  · exact Inv_touch_c (T := fun _ => false) hc (fun id hid _ => allL_ok chN_ok id hid) hx0 hm0 hx hm h h3 h1 h2 (fun id hid q => nomatch q)
  · rw [Bool.and_eq_true] at h
    refine Inv_touch_c (T := fun id => Nat.beq id (4 + s)) hc (fun id hid q => ?_) hx0 hm0 hx hm h.1 h3 h1 h2 (fun id hid q => ?_)
    · have := allL_ok (allL_ok chS_ok s hs) id hid
      rw [q] at this
      exact this
    · have e : id = 4 + s := Nat.eq_of_beq_eq_true q
      subst e
      rw [Comp_S hs]
      exact ckS_ok hp (show 36 + 2 * s < 68 by omega) (show 37 + 2 * s < 68 by omega) hs h.2
noncomputable def filmR (c a0 a1 : Nat) : Bool := jRun (nat_lit 100000) (nat_lit 200) (tX c) (tX c) (tM c) (tM c) (nat_lit 115) (nat_lit 209) (KXf (shC a0)) KMf [] [] (dP (nat_lit 819200) (nat_lit 0) (nat_lit 4) a0 (dP (nat_lit 819201) (nat_lit 0) (dOf c) a1 [])) [.inl (dA (nat_lit 819200) (nat_lit 0) (nat_lit 4) a0), .inl (dA (nat_lit 819201) (nat_lit 0) (dOf c) a1)] (ckSh [] (shC a0))
noncomputable def filmT (c : Nat) : Bool := allL 6 (fun a0 => allL (Nat.add (nat_lit 2) (dOf c)) (fun a1 => filmR c a0 a1))
theorem q_film1 : allL 12 filmT = true := by decide +kernel
theorem q_film2 : allL 3 (fun i => filmT (Nat.add (nat_lit 12) i)) = true := by decide +kernel
theorem q_film3 : allL 3 (fun i => filmT (Nat.add (nat_lit 15) i)) = true := by decide +kernel
theorem q_film {c : Nat} (hc : c < 18) : filmT c = true := by
  by_cases h1 : c < 12
  · exact allL_ok q_film1 c h1
  by_cases h2 : c < 15
  · have := allL_ok q_film2 (c - 12) (by omega)
    rwa [show Nat.add (nat_lit 12) (c - 12) = c by show 12 + (c - 12) = c; omega] at this
  · have := allL_ok q_film3 (c - 15) (by omega)
    rwa [show Nat.add (nat_lit 15) (c - 15) = c by show 15 + (c - 15) = c; omega] at this
theorem op_film {l : Launch} {D : va_G} {cy : Nat → ClassId} {alX alM : Nat → Nat} : OpI l D cy alX alM 115 209 2 := by
  intro r as hI hlen
  obtain ⟨a0, a1, rfl⟩ : ∃ a0 a1, as = [a0, a1] := by
    match as, hlen with
    | [a0, a1], _ => exact ⟨a0, a1, rfl⟩
  refine OpOk_uA [a0, a1] ?_
  replace hI := Inv_uA (as := [a0, a1]) hI
  have e0 : (uA r [a0, a1]).1 819200 = a0 := uA_a 0
  have e1 : (uA r [a0, a1]).1 819201 = a1 := uA_a 1
  generalize uA r [a0, a1] = r at hI e0 e1 ⊢
  obtain ⟨c0, hc0, hp0, hv0⟩ := dP_ok r 819200 (lo := 0) (n := 4) (Or.inr (by omega)) (by omega)
  rw [e0] at hv0
  obtain ⟨c, hc, hcc, hcm⟩ := hI
  have hs : c0 - 2 < 4 := by omega
  obtain ⟨⟨d1, d2⟩, -⟩ := cd_tab c hc
  obtain ⟨c1, hc1, hp1, hv1⟩ := dP_ok r 819201 (lo := 0) (n := dOf c) (Or.inr (by omega)) (by omega)
  rw [e1] at hv1
  have hq := allL_ok (allL_ok (q_film hc) c0 hc0) c1 (by show c1 < 2 + dOf c; omega)
  refine jOk l (tX_ok hc) (tX_ok hc) (tM_ok hc) (tM_ok hc) hcc.1 hcc.2 (hp0 _ (hp1 _ sPa_nil)) (fun _ _ _ => rfl) (fun _ _ _ => rfl) oX_nil oM_nil ?_ ?_ hq (fun x0 m0 pa x m hx0 hm0 hck hp hfx hfm g1 g2 => Inv_Shc hc hs hx0 hm0 hfx hfm hp hck hcm g1 g2)
  · simp only [List.map_cons, List.map_nil, sVal, hv0, hv1]
  · simp only [List.map_cons, List.map_nil, sVal, hv0, hv1]
def pOf (n : Nat) : Nat := ([0, 1, 2, 3, 5, 7] : List Nat).getD n 0
theorem crJ_part : crJ (memB [nat_lit 0, nat_lit 1]) (memB [nat_lit 0, nat_lit 11, nat_lit 12]) scQ = true := by decide +kernel
noncomputable def partR (n : Nat) (pa : List sK) (as : List sV) : Bool := jRun (nat_lit 100000) (nat_lit 200) tXv tXv tMv tMv (nat_lit 99) (nat_lit 154) (memB [nat_lit 0, nat_lit 1]) (memB [nat_lit 0, nat_lit 11, nat_lit 12]) [(nat_lit 1, nat_lit 1, .natCast n)] [(nat_lit 0, nat_lit 1, .natCast n)] pa as (fun x0 m0 pa x m => frJ scQ x0 m0 x m)
noncomputable def part1 (n a0 : Nat) : Bool := partR n (dP (nat_lit 819200) (nat_lit 4294967295) (Nat.succ (pOf n)) a0 []) [.inl (dA (nat_lit 819200) (nat_lit 4294967295) (Nat.succ (pOf n)) a0), .inl (.var (nat_lit 819201))]
noncomputable def part2 (n a0 a1 : Nat) : Bool := partR n (dP (nat_lit 819200) (nat_lit 4294967295) (Nat.succ (pOf n)) a0 (dP (nat_lit 819201) (nat_lit 4294967295) (nat_lit 6) a1 [])) [.inl (dA (nat_lit 819200) (nat_lit 4294967295) (Nat.succ (pOf n)) a0), .inl (dA (nat_lit 819201) (nat_lit 4294967295) (nat_lit 6) a1)]
noncomputable def partT (n a0 : Nat) : Bool := Bool.rec (motive := fun _ => Bool) (part1 (Nat.succ n) a0) (allL 8 (fun a1 => part2 (Nat.succ n) a0 a1)) (Nat.ble (nat_lit 3) a0)
theorem q_part3 : allL 3 (fun n => allL (Nat.add (nat_lit 3) (pOf (Nat.succ n))) (partT n)) = true := by decide +kernel
theorem q_part4 : allL 8 (partT (nat_lit 3)) = true := by decide +kernel
theorem q_part5 : allL 5 (partT (nat_lit 4)) = true := by decide +kernel
theorem q_part6 : allL 3 (fun i => partT (nat_lit 4) (Nat.add (nat_lit 5) i)) = true := by decide +kernel
theorem q_part7 : allL 2 (fun i => partT (nat_lit 4) (Nat.add (nat_lit 8) i)) = true := by decide +kernel
theorem q_part {n a0 : Nat} (hn : n < 5) (ha : a0 < 3 + pOf (n + 1)) : partT n a0 = true := by
  by_cases h3 : n < 3
  · exact allL_ok (allL_ok q_part3 n h3) a0 ha
  rcases (show n = 3 ∨ n = 4 by omega) with rfl | rfl
  · exact allL_ok q_part4 a0 ha
  · have ha2 : a0 < 10 := ha
    by_cases h5 : a0 < 5
    · exact allL_ok q_part5 a0 h5
    by_cases h8 : a0 < 8
    · have := allL_ok q_part6 (a0 - 5) (by omega)
      rwa [show Nat.add (nat_lit 5) (a0 - 5) = a0 by show 5 + (a0 - 5) = a0; omega] at this
    · have := allL_ok q_part7 (a0 - 8) (by omega)
      rwa [show Nat.add (nat_lit 8) (a0 - 8) = a0 by show 8 + (a0 - 8) = a0; omega] at this
theorem p_tab : ∀ n, n < 6 → pOf n ≤ 7 := by decide +kernel
theorem op_partition {l : Launch} {D : va_G} {cy : Nat → ClassId} {alX alM : Nat → Nat} : OpI l D cy alX alM 99 154 2 := by
  intro r as hI hlen
  obtain ⟨a0, a1, rfl⟩ : ∃ a0 a1, as = [a0, a1] := by
    match as, hlen with
    | [a0, a1], _ => exact ⟨a0, a1, rfl⟩
  refine OpOk_uA [a0, a1] ?_
  replace hI := Inv_uA (as := [a0, a1]) hI
  have e0 : (uA r [a0, a1]).1 819200 = a0 := uA_a 0
  have e1 : (uA r [a0, a1]).1 819201 = a1 := uA_a 1
  generalize uA r [a0, a1] = r at hI e0 e1 ⊢
  obtain ⟨c1, hc1, hp1, hv1⟩ := dP_ok r 819201 (lo := 4294967295) (n := 6) (Or.inl rfl) (by omega)
  rw [e1] at hv1
  obtain ⟨c, hc, hcc, hcm⟩ := id hI
  obtain ⟨⟨-, hn1, -⟩, hn2, -⟩ := CC_nd hc hcc
  obtain ⟨-, n1, n5⟩ := cd_tab c hc
  obtain ⟨n, hn⟩ : ∃ n, nOf c = n + 1 := ⟨nOf c - 1, by omega⟩
  rw [hn] at hn1 hn2
  have hpn := p_tab (n + 1) (by omega)
  obtain ⟨c0, hc0, hp0, hv0⟩ := dP_ok r 819200 (lo := 4294967295) (n := Nat.succ (pOf (n + 1))) (Or.inl rfl) (by show pOf (n + 1) + 1 ≤ 1000; omega)
  rw [e0] at hv0
  have hq := q_part (n := n) (a0 := c0) (by omega) (by have h : c0 < pOf (n + 1) + 1 + 2 := hc0; omega)
  unfold partT at hq
  have go : ∀ (pa : List sK) (as : List sV), partR (n + 1) pa as = true → sPa r pa → (∀ al : Nat → Nat, as.map (sVal r al) = List.map Value.int [a0, a1]) → OpOk l D cy alX alM 200 r 99 154 (List.map Value.int [a0, a1]) Inv := fun pa as h hp hv =>
    jOk l tXv_ok tXv_ok tMv_ok tMv_ok (cC_X r) (cC_M r) hp (fun _ _ _ => rfl) (fun _ _ _ => rfl) (oX_cons (by rw [sI_c]; exact hn1) oX_nil) (oM_cons (by rw [sI_c]; exact hn2) oM_nil) (hv _) (hv _) h (fun x0 m0 pa x m hx0 hm0 hck hp hfx hfm _ _ => Inv_qv crJ_part hx0 hm0 hfx hfm hck hI)
  cases hb : Nat.ble (nat_lit 3) c0 with
  | false =>
    rw [hb] at hq
    exact go _ _ hq (hp0 _ sPa_nil) (fun al => by simp only [List.map_cons, List.map_nil, sVal, hv0, sI_v, e1])
  | true =>
    rw [hb] at hq
    exact go _ _ (allL_ok hq c1 hc1) (hp0 _ (hp1 _ sPa_nil)) (fun al => by simp only [List.map_cons, List.map_nil, sVal, hv0, hv1])
