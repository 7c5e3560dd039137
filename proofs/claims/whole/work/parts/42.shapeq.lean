/-! 42: questions of the shape: scratch; of, cell, standard, branch, film, partition (by wip/whole/mk42.py) -/
/-- scratch: what no part of the state tells of -/
noncomputable def scQ (u : Nat) : Bool := Bool.or (memB [nat_lit 12, nat_lit 13, nat_lit 22, nat_lit 23, nat_lit 28, nat_lit 29, nat_lit 30, nat_lit 31, nat_lit 32, nat_lit 33, nat_lit 53, nat_lit 54, nat_lit 55, nat_lit 56, nat_lit 47, nat_lit 79, nat_lit 80, nat_lit 81, nat_lit 82, nat_lit 83, nat_lit 85, nat_lit 86, nat_lit 87, nat_lit 89, nat_lit 90, nat_lit 91, nat_lit 92, nat_lit 93, nat_lit 94, nat_lit 95, nat_lit 96, nat_lit 97, nat_lit 98, nat_lit 99, nat_lit 100, nat_lit 101, nat_lit 103, nat_lit 104, nat_lit 108] (Nat.div u (nat_lit 4096))) (memB [nat_lit 282638, nat_lit 282646, nat_lit 282652, nat_lit 282659, nat_lit 282660, nat_lit 282666, nat_lit 282669, nat_lit 282670, nat_lit 282674] u)
theorem scQ_ok : allL 12 (fun id => lAll (fun u => Bool.not (scQ u)) (cPl id)) = true := by decide +kernel
theorem Inv_qc {r : sE} {c : Nat} {alX alM : Nat → Nat} {KX KM : Nat → Bool} {x0 m0 x m : sM} (hc : c < 18) (hx0 : ovP r alX 68 (tX c) KX x0) (hm0 : ovP r alM 45 (tM c) KM m0) (hx : fitM 0 68 (tX c) KX x = true) (hm : fitM 69 45 (tM c) KM m = true) (hf : frJ scQ x0 m0 x m = true) (h3 : ∀ id, id < 12 → Comp id c r) (h1 : cC 0 68 (tX c) (eOf 0 r x)) (h2 : cC 69 45 (tM c) (eOf 69 r m)) : Inv (eJ r x m) :=
  Inv_touch_c (T := fun _ => false) hc (fun id hid _ => allL_ok scQ_ok id hid) hx0 hm0 hx hm hf h3 h1 h2 (fun id hid q => nomatch q)
theorem Inv_qv {r : sE} {alX alM : Nat → Nat} {KX KM : Nat → Bool} {x0 m0 x m : sM} (hcr : crJ KX KM scQ = true) (hx0 : ovP r alX 68 tXv KX x0) (hm0 : ovP r alM 45 tMv KM m0) (hx : fitM 0 68 tXv KX x = true) (hm : fitM 69 45 tMv KM m = true) (hf : frJ scQ x0 m0 x m = true) (hI : Inv r) : Inv (eJ r x m) :=
  Inv_touch (T := fun _ => false) hcr (fun id hid _ => allL_ok scQ_ok id hid) hx0 hm0 hx hm hf hI (fun c hc h1 h2 id hid q => nomatch q)
/-- a run of both at the shape c that changes scratch alone -/
noncomputable def qRun (c kX kM : Nat) (KX KM : List Nat) (pa : List sK) (as : List sV) : Bool := jRun (nat_lit 100000) (nat_lit 200) (tX c) (tX c) (tM c) (tM c) kX kM (memB KX) (memB KM) [] [] pa as (fun x0 m0 pa x m => frJ scQ x0 m0 x m)
theorem qRun_ok {l : Launch} {D : va_G} {cy : Nat → ClassId} {alX alM : Nat → Nat} {r : sE} {c kX kM : Nat} {KX KM : List Nat} {pa : List sK} {as : List sV} {vs : List Value} (h : qRun c kX kM KX KM pa as = true) (hc : c < 18) (hcc : CC c r) (hcm : ∀ id, id < 12 → Comp id c r) (hp : sPa r pa) (haX : as.map (sVal r alX) = vs) (haM : as.map (sVal r alM) = vs) : OpOk l D cy alX alM 200 r kX kM vs Inv :=
  jOk l (tX_ok hc) (tX_ok hc) (tM_ok hc) (tM_ok hc) hcc.1 hcc.2 hp (fun _ _ _ => rfl) (fun _ _ _ => rfl) oX_nil oM_nil haX haM h (fun x0 m0 pa x m hx0 hm0 hck hp hfx hfm g1 g2 => Inv_qc hc hx0 hm0 hfx hfm hck hcm g1 g2)
theorem q_of : allL 18 (fun c => qRun c (nat_lit 89) (nat_lit 147) [nat_lit 0, nat_lit 1, nat_lit 3, nat_lit 4] [nat_lit 0, nat_lit 1, nat_lit 2, nat_lit 3, nat_lit 11, nat_lit 12] [] [.inl (.var (nat_lit 819200))]) = true := by decide +kernel
theorem op_of {l : Launch} {D : va_G} {cy : Nat → ClassId} {alX alM : Nat → Nat} : OpI l D cy alX alM 89 147 1 := by
  intro r as hI hlen
  obtain ⟨a0, rfl⟩ : ∃ a0, as = [a0] := by
    match as, hlen with
    | [a0], _ => exact ⟨a0, rfl⟩
  refine OpOk_uA [a0] ?_
  replace hI := Inv_uA (as := [a0]) hI
  have e0 : (uA r [a0]).1 819200 = a0 := uA_a 0
  generalize uA r [a0] = r at hI e0 ⊢
  obtain ⟨c, hc, hcc, hcm⟩ := hI
  have hv : ∀ al : Nat → Nat, List.map (sVal r al) [.inl (.var (nat_lit 819200))] = List.map Value.int [a0] := fun al => by
    simp only [List.map_cons, List.map_nil, sVal, sI_v]
    rw [show r.1 (nat_lit 819200) = a0 from e0]
  exact qRun_ok (allL_ok q_of c hc) hc hcc hcm sPa_nil (hv _) (hv _)
noncomputable def cellI (c a0 a1 : Nat) : Bool := Bool.and (Nat.ble (nat_lit 2) a1) (Nat.ble (Nat.succ a1) (Nat.add (nat_lit 2) (Nat.succ ((lensOf c).getD (Nat.sub a0 (nat_lit 2)) 0))))
noncomputable def cellR (c a0 a1 a2 : Nat) : Bool := qRun c (nat_lit 90) (nat_lit 148) [nat_lit 0, nat_lit 1] [nat_lit 0, nat_lit 1] (dP (nat_lit 819200) (nat_lit 0) (nat_lit 5) a0 (dP (nat_lit 819201) (nat_lit 4294967295) (nat_lit 6) a1 (dP (nat_lit 819202) (nat_lit 0) (nat_lit 2) a2 []))) [.inl (dA (nat_lit 819200) (nat_lit 0) (nat_lit 5) a0), .inl (dA (nat_lit 819201) (nat_lit 4294967295) (nat_lit 6) a1), .inl (dA (nat_lit 819202) (nat_lit 0) (nat_lit 2) a2)]
noncomputable def cellR1 (c a0 a1 : Nat) : Bool := qRun c (nat_lit 90) (nat_lit 148) [nat_lit 0, nat_lit 1] [nat_lit 0, nat_lit 1] (dP (nat_lit 819200) (nat_lit 0) (nat_lit 5) a0 (dP (nat_lit 819201) (nat_lit 4294967295) (nat_lit 6) a1 [])) [.inl (dA (nat_lit 819200) (nat_lit 0) (nat_lit 5) a0), .inl (dA (nat_lit 819201) (nat_lit 4294967295) (nat_lit 6) a1), .inl (.var (nat_lit 819202))]
noncomputable def cellR0 (c a0 : Nat) : Bool := qRun c (nat_lit 90) (nat_lit 148) [nat_lit 0, nat_lit 1] [nat_lit 0, nat_lit 1] (dP (nat_lit 819200) (nat_lit 0) (nat_lit 5) a0 []) [.inl (dA (nat_lit 819200) (nat_lit 0) (nat_lit 5) a0), .inl (.var (nat_lit 819201)), .inl (.var (nat_lit 819202))]
noncomputable def cellT (c a0 : Nat) : Bool := Bool.rec (motive := fun _ => Bool) (cellR0 c a0) (allL 8 (fun a1 => Bool.rec (motive := fun _ => Bool) (cellR1 c a0 a1) (allL 4 (fun a2 => cellR c a0 a1 a2)) (cellI c a0 a1))) (Nat.ble (nat_lit 2) a0)
theorem q_cell : allL 18 (fun c => allL 7 (fun a0 => cellT c a0)) = true := by decide +kernel
theorem op_cell {l : Launch} {D : va_G} {cy : Nat → ClassId} {alX alM : Nat → Nat} : OpI l D cy alX alM 90 148 3 := by
  intro r as hI hlen
  obtain ⟨a0, a1, a2, rfl⟩ : ∃ a0 a1 a2, as = [a0, a1, a2] := by
    match as, hlen with
    | [a0, a1, a2], _ => exact ⟨a0, a1, a2, rfl⟩
  refine OpOk_uA [a0, a1, a2] ?_
  replace hI := Inv_uA (as := [a0, a1, a2]) hI
  have e0 : (uA r [a0, a1, a2]).1 819200 = a0 := uA_a 0
  have e1 : (uA r [a0, a1, a2]).1 819201 = a1 := uA_a 1
  have e2 : (uA r [a0, a1, a2]).1 819202 = a2 := uA_a 2
  generalize uA r [a0, a1, a2] = r at hI e0 e1 e2 ⊢
  obtain ⟨c0, hc0, hp0, hv0⟩ := dP_ok r 819200 (lo := 0) (n := 5) (Or.inr (by omega)) (by omega)
  rw [e0] at hv0
  obtain ⟨c1, hc1, hp1, hv1⟩ := dP_ok r 819201 (lo := 4294967295) (n := 6) (Or.inl rfl) (by omega)
  rw [e1] at hv1
  obtain ⟨c2, hc2, hp2, hv2⟩ := dP_ok r 819202 (lo := 0) (n := 2) (Or.inr (by omega)) (by omega)
  rw [e2] at hv2
  obtain ⟨c, hc, hcc, hcm⟩ := hI
  have hT := allL_ok (allL_ok q_cell c hc) c0 hc0
  unfold cellT at hT
  cases hb : Nat.ble (nat_lit 2) c0 with
  | false =>
    rw [hb] at hT
    exact qRun_ok (show cellR0 c c0 = true from hT) hc hcc hcm (hp0 _ sPa_nil) (by simp only [List.map_cons, List.map_nil, sVal, hv0, sI_v, e1, e2]) (by simp only [List.map_cons, List.map_nil, sVal, hv0, sI_v, e1, e2])
  | true =>
    rw [hb] at hT
    have hT1 := allL_ok hT c1 hc1
    cases hb1 : cellI c c0 c1 with
    | false =>
      rw [hb1] at hT1
      exact qRun_ok (show cellR1 c c0 c1 = true from hT1) hc hcc hcm (hp0 _ (hp1 _ sPa_nil)) (by simp only [List.map_cons, List.map_nil, sVal, hv0, hv1, sI_v, e2]) (by simp only [List.map_cons, List.map_nil, sVal, hv0, hv1, sI_v, e2])
    | true =>
      rw [hb1] at hT1
      exact qRun_ok (show cellR c c0 c1 c2 = true from allL_ok hT1 c2 hc2) hc hcc hcm (hp0 _ (hp1 _ (hp2 _ sPa_nil))) (by simp only [List.map_cons, List.map_nil, sVal, hv0, hv1, hv2]) (by simp only [List.map_cons, List.map_nil, sVal, hv0, hv1, hv2])
noncomputable def stdI (c a0 a1 : Nat) : Bool := Bool.and (Bool.and (Nat.ble (nat_lit 2) a0) (Nat.ble (Nat.succ a0) (Nat.add (nat_lit 2) (dOf c)))) (Bool.and (Nat.ble (nat_lit 2) a1) (Nat.ble (Nat.succ a1) (Nat.add (nat_lit 2) (nOf c))))
noncomputable def stdR (c a0 a1 a2 : Nat) : Bool := qRun c (nat_lit 91) (nat_lit 150) [nat_lit 0, nat_lit 1, nat_lit 3, nat_lit 4, nat_lit 5, nat_lit 6, nat_lit 7, nat_lit 8, nat_lit 9, nat_lit 10, nat_lit 11] [nat_lit 0, nat_lit 4, nat_lit 5] (dP (nat_lit 819200) (nat_lit 0) (nat_lit 6) a0 (dP (nat_lit 819201) (nat_lit 1) (nat_lit 5) a1 (dP (nat_lit 819202) (nat_lit 0) (nat_lit 2) a2 []))) [.inl (dA (nat_lit 819200) (nat_lit 0) (nat_lit 6) a0), .inl (dA (nat_lit 819201) (nat_lit 1) (nat_lit 5) a1), .inl (dA (nat_lit 819202) (nat_lit 0) (nat_lit 2) a2)]
noncomputable def stdR1 (c a0 a1 : Nat) : Bool := qRun c (nat_lit 91) (nat_lit 150) [nat_lit 0, nat_lit 1, nat_lit 3, nat_lit 4, nat_lit 5, nat_lit 6, nat_lit 7, nat_lit 8, nat_lit 9, nat_lit 10, nat_lit 11] [nat_lit 0, nat_lit 4, nat_lit 5] (dP (nat_lit 819200) (nat_lit 0) (nat_lit 6) a0 (dP (nat_lit 819201) (nat_lit 1) (nat_lit 5) a1 [])) [.inl (dA (nat_lit 819200) (nat_lit 0) (nat_lit 6) a0), .inl (dA (nat_lit 819201) (nat_lit 1) (nat_lit 5) a1), .inl (.var (nat_lit 819202))]
theorem q_standard : allL 18 (fun c => allL 8 (fun a0 => allL 7 (fun a1 => Bool.rec (motive := fun _ => Bool) (stdR1 c a0 a1) (allL 4 (fun a2 => stdR c a0 a1 a2)) (stdI c a0 a1)))) = true := by decide +kernel
theorem op_standard {l : Launch} {D : va_G} {cy : Nat → ClassId} {alX alM : Nat → Nat} : OpI l D cy alX alM 91 150 3 := by
  intro r as hI hlen
  obtain ⟨a0, a1, a2, rfl⟩ : ∃ a0 a1 a2, as = [a0, a1, a2] := by
    match as, hlen with
    | [a0, a1, a2], _ => exact ⟨a0, a1, a2, rfl⟩
  refine OpOk_uA [a0, a1, a2] ?_
  replace hI := Inv_uA (as := [a0, a1, a2]) hI
  have e0 : (uA r [a0, a1, a2]).1 819200 = a0 := uA_a 0
  have e1 : (uA r [a0, a1, a2]).1 819201 = a1 := uA_a 1
  have e2 : (uA r [a0, a1, a2]).1 819202 = a2 := uA_a 2
  generalize uA r [a0, a1, a2] = r at hI e0 e1 e2 ⊢
  obtain ⟨c0, hc0, hp0, hv0⟩ := dP_ok r 819200 (lo := 0) (n := 6) (Or.inr (by omega)) (by omega)
  rw [e0] at hv0
  obtain ⟨c1, hc1, hp1, hv1⟩ := dP_ok r 819201 (lo := 1) (n := 5) (Or.inr (by omega)) (by omega)
  rw [e1] at hv1
  obtain ⟨c2, hc2, hp2, hv2⟩ := dP_ok r 819202 (lo := 0) (n := 2) (Or.inr (by omega)) (by omega)
  rw [e2] at hv2
  obtain ⟨c, hc, hcc, hcm⟩ := hI
  have hT1 := allL_ok (allL_ok (allL_ok q_standard c hc) c0 hc0) c1 hc1
  cases hb1 : stdI c c0 c1 with
  | false =>
    rw [hb1] at hT1
    exact qRun_ok (show stdR1 c c0 c1 = true from hT1) hc hcc hcm (hp0 _ (hp1 _ sPa_nil)) (by simp only [List.map_cons, List.map_nil, sVal, hv0, hv1, sI_v, e2]) (by simp only [List.map_cons, List.map_nil, sVal, hv0, hv1, sI_v, e2])
  | true =>
    rw [hb1] at hT1
    exact qRun_ok (show stdR c c0 c1 c2 = true from allL_ok hT1 c2 hc2) hc hcc hcm (hp0 _ (hp1 _ (hp2 _ sPa_nil))) (by simp only [List.map_cons, List.map_nil, sVal, hv0, hv1, hv2]) (by simp only [List.map_cons, List.map_nil, sVal, hv0, hv1, hv2])
noncomputable def brR (c a0 : Nat) : Bool := qRun c (nat_lit 106) (nat_lit 199) [nat_lit 0, nat_lit 1, nat_lit 3, nat_lit 5, nat_lit 6, nat_lit 7, nat_lit 8, nat_lit 9, nat_lit 10, nat_lit 11] [nat_lit 0, nat_lit 1, nat_lit 4] (dP (nat_lit 819200) (nat_lit 4294967295) (nat_lit 6) a0 []) [.inl (dA (nat_lit 819200) (nat_lit 4294967295) (nat_lit 6) a0)]
theorem q_branch : allL 18 (fun c => allL 8 (fun a0 => brR c a0)) = true := by decide +kernel
theorem op_branch {l : Launch} {D : va_G} {cy : Nat → ClassId} {alX alM : Nat → Nat} : OpI l D cy alX alM 106 199 1 := by
  intro r as hI hlen
  obtain ⟨a0, rfl⟩ : ∃ a0, as = [a0] := by
    match as, hlen with
    | [a0], _ => exact ⟨a0, rfl⟩
  refine OpOk_uA [a0] ?_
  replace hI := Inv_uA (as := [a0]) hI
  have e0 : (uA r [a0]).1 819200 = a0 := uA_a 0
  generalize uA r [a0] = r at hI e0 ⊢
  obtain ⟨c0, hc0, hp0, hv0⟩ := dP_ok r 819200 (lo := 4294967295) (n := 6) (Or.inl rfl) (by omega)
  rw [e0] at hv0
  obtain ⟨c, hc, hcc, hcm⟩ := hI
  exact qRun_ok (show brR c c0 = true from allL_ok (allL_ok q_branch c hc) c0 hc0) hc hcc hcm (hp0 _ sPa_nil) (by simp only [List.map_cons, List.map_nil, sVal, hv0]) (by simp only [List.map_cons, List.map_nil, sVal, hv0])
