/-! 40: why, takes (by wip/whole/mk40.py) -/
noncomputable def KXw : Nat → Bool := memB [nat_lit 0, nat_lit 49, nat_lit 50, nat_lit 51, nat_lit 52]
noncomputable def KMw : Nat → Bool := memB [nat_lit 0, nat_lit 36, nat_lit 37]
theorem crJ_w : crJ KXw KMw (chN []) = true := by decide +kernel
/-- nothing is changed -/
theorem Inv_0 {r : sE} {alX alM : Nat → Nat} {KX KM : Nat → Bool} {x0 m0 x m : sM} (hcr : crJ KX KM (chN []) = true) (hx0 : ovP r alX 68 tXv KX x0) (hm0 : ovP r alM 45 tMv KM m0) (hx : fitM 0 68 tXv KX x = true) (hm : fitM 69 45 tMv KM m = true) (h : frJ (chN []) x0 m0 x m = true) (hI : Inv r) : Inv (eJ r x m) :=
  Inv_touch (T := fun _ => false) hcr (fun id hid _ => allL_ok chN_ok id hid) hx0 hm0 hx hm h hI (fun c hc h1 h2 id hid q => nomatch q)
noncomputable def oWhy (lt a0 : Nat) : List sOv := Nat.rec (motive := fun _ => List sOv) [] (fun _ _ => Nat.rec (motive := fun _ => List sOv) [] (fun m _ => Nat.rec (motive := fun _ => List sOv) [] (fun k _ => [(nat_lit 36, k, .var (Nat.add (nat_lit 208896) k)), (nat_lit 37, k, .var (Nat.add (nat_lit 212992) k))]) m) a0) lt
noncomputable def ltW (e : sX) (lt : Nat) : List sK := Nat.rec (motive := fun _ => List sK) [(false, false, e, .var (nat_lit 204800))] (fun _ _ => [(false, true, e, .var (nat_lit 204800))]) lt
noncomputable def whyR (lt a0 a1 : Nat) : Bool := jRun (nat_lit 100000) (nat_lit 200) tXv tXv tMv tMv (nat_lit 121) (nat_lit 223) KXw KMw [] ((nat_lit 0, nat_lit 49, .var (nat_lit 204800)) :: oWhy lt a0)
  (dP (nat_lit 819200) (nat_lit 0) (nat_lit 81) a0 (dP (nat_lit 819201) (nat_lit 0) (nat_lit 2) a1 (ltW (dA (nat_lit 819200) (nat_lit 0) (nat_lit 81) a0) lt))) [.inl (dA (nat_lit 819200) (nat_lit 0) (nat_lit 81) a0), .inl (dA (nat_lit 819201) (nat_lit 0) (nat_lit 2) a1)] (fun x0 m0 pa x m => frJ (chN []) x0 m0 x m)
noncomputable def why0 (a1 : Nat) : Bool := jRun (nat_lit 100000) (nat_lit 200) tXv tXv tMv tMv (nat_lit 121) (nat_lit 223) KXw KMw [] []
  (dP (nat_lit 819201) (nat_lit 0) (nat_lit 2) a1 []) [.inl (.var (nat_lit 819200)), .inl (dA (nat_lit 819201) (nat_lit 0) (nat_lit 2) a1)] (fun x0 m0 pa x m => frJ (chN []) x0 m0 x m)
theorem q_why : Bool.and (Bool.and (why0 (nat_lit 0)) (why0 (nat_lit 1))) (allL 2 (fun a1 => allL 2 (fun lt => allL 83 (fun a0 => Bool.or (Bool.and (Nat.beq a0 (nat_lit 1)) (Nat.beq lt (nat_lit 1))) (whyR lt a0 (Nat.add (nat_lit 2) a1)))))) = true := by decide +kernel
theorem op_why {l : Launch} {D : va_G} {cy : Nat → ClassId} {alX alM : Nat → Nat} : OpI l D cy alX alM 121 223 2 := by
  intro r as hI hlen
  obtain ⟨a0, a1, rfl⟩ : ∃ a0 a1, as = [a0, a1] := by
    match as, hlen with
    | [a0, a1], _ => exact ⟨a0, a1, rfl⟩
  refine OpOk_uA [a0, a1] ?_
  replace hI := Inv_uA (as := [a0, a1]) hI
  have e0 : (uA r [a0, a1]).1 819200 = a0 := uA_a 0
  have e1 : (uA r [a0, a1]).1 819201 = a1 := uA_a 1
  generalize uA r [a0, a1] = r at hI e0 e1 ⊢
  obtain ⟨c0, hc0, hp0, hv0⟩ := dP_ok r 819200 (lo := 0) (n := 81) (Or.inr (by omega)) (by omega)
  rw [e0] at hv0
  obtain ⟨c1, hc1, hp1, hv1⟩ := dP_ok r 819201 (lo := 0) (n := 2) (Or.inr (by omega)) (by omega)
  rw [e1] at hv1
  obtain ⟨c, hc, hcc, hcm⟩ := id hI
  have hq := q_why
  rw [Bool.and_eq_true, Bool.and_eq_true] at hq
  have out : why0 c1 = true → OpOk l D cy alX alM 200 r 121 223 (List.map Value.int [a0, a1]) Inv := fun h => by
    refine jOk l tXv_ok tXv_ok tMv_ok tMv_ok (cC_X r) (cC_M r) (hp1 _ sPa_nil) (fun _ _ _ => rfl) (fun _ _ _ => rfl) oX_nil oM_nil ?_ ?_ h ?_
    · simp only [List.map_cons, List.map_nil, sVal, hv1, sI_v, e0]
    · simp only [List.map_cons, List.map_nil, sVal, hv1, sI_v, e0]
    · intro x0 m0 pa x m hx0 hm0 hck hp hfx hfm _ _
      exact Inv_0 crJ_w hx0 hm0 hfx hfm hck hI
  by_cases h0 : c1 = 0
  · subst h0; exact out hq.1.1
  by_cases h1 : c1 = 1
  · subst h1; exact out hq.1.2
  obtain ⟨b1, rfl⟩ : ∃ b1, c1 = 2 + b1 := ⟨c1 - 2, by omega⟩
  obtain ⟨z, z1, z2, z3, z4⟩ := (show cW r from hcm 10 (by omega))
  have hzi : (sI r (.var 204800)).toInt = z := by
    rw [sI_v, show r.1 204800 = Int32.ofNat z from z2]
    have : ∀ z, z ≤ 81 → (Int32.ofNat z).toInt = (z : Int) := by decide +kernel
    exact this z z1
  obtain ⟨lt, hlt, hpl, hl1⟩ : ∃ lt, lt < 2 ∧ sPa r (ltW (dA 819200 0 81 c0) lt) ∧ (lt = 1 → (r.1 819200).toInt < z) := by
    by_cases h : (r.1 819200).toInt < z
    · refine ⟨1, by omega, ?_, fun _ => h⟩
      show sPa r [(false, true, dA 819200 0 81 c0, .var 204800)]
      simp only [sPa_cons, sKd]
      exact ⟨by rw [Int32.lt_iff_toInt_lt, hv0, hzi, ← e0]; exact h, sPa_nil⟩
    · refine ⟨0, by omega, ?_, fun q => by omega⟩
      show sPa r [(false, false, dA 819200 0 81 c0, .var 204800)]
      simp only [sPa_cons, sKd]
      exact ⟨by rw [Int32.lt_iff_toInt_lt, hv0, hzi, ← e0]; exact h, sPa_nil⟩
  have hr := allL_ok (allL_ok (allL_ok hq.2 b1 (by omega)) lt hlt) c0 hc0
  rw [Bool.or_eq_true] at hr
  rcases hr with hr | hr
  · rw [Bool.and_eq_true] at hr
    have w1 : c0 = 1 := Nat.eq_of_beq_eq_true hr.1
    have w2 : lt = 1 := Nat.eq_of_beq_eq_true hr.2
    subst w1
    have w4 : ¬ sI r (.var 819200) < sI r (dV 0 81) := (sPa_cons.mp (hp0 _ sPa_nil)).1
    rw [Int32.lt_iff_toInt_lt, sI_v, dV_int (lo := 0) (m := 81) (z := 0) (Or.inr ⟨by omega, rfl⟩) (by omega)] at w4
    have := hl1 w2
    omega
  · replace hr : whyR lt c0 (2 + b1) = true := hr
    have hoW : oMs r (oWhy lt c0) := by
      cases lt with
      | zero => exact oM_nil
      | succ lt =>
        have e : lt = 0 := by omega
        subst e
        cases c0 with
        | zero => exact oM_nil
        | succ c0 =>
          cases c0 with
          | zero => exact oM_nil
          | succ k =>
            have hk := hl1 rfl
            have hv : sI r (dV 0 k) = a0 := hv0
            rw [e0, ← hv, dV_int (lo := 0) (m := k) (z := 0) (Or.inr ⟨by omega, rfl⟩) (by omega)] at hk
            obtain ⟨g1, g2⟩ := z4.1 k (by omega)
            refine oM_cons (by rw [sI_v, g1]; rfl) (oM_cons (by rw [sI_v, g2]; rfl) oM_nil)
    refine jOk l tXv_ok tXv_ok tMv_ok tMv_ok (cC_X r) (cC_M r) (hp0 _ (hp1 _ hpl)) (fun _ _ _ => rfl) (fun _ _ _ => rfl) oX_nil (oM_cons (by rw [sI_v]; exact z3.trans z2.symm) hoW) ?_ ?_ hr ?_
    · simp only [List.map_cons, List.map_nil, sVal, hv0, hv1]
    · simp only [List.map_cons, List.map_nil, sVal, hv0, hv1]
    · intro x0 m0 pa x m hx0 hm0 hck hp hfx hfm _ _
      exact Inv_0 crJ_w hx0 hm0 hfx hfm hck hI
noncomputable def KXr : Nat → Bool := memB [nat_lit 0, nat_lit 1, nat_lit 34]
noncomputable def KMr : Nat → Bool := memB [nat_lit 0, nat_lit 6]
theorem crJ_r : crJ KXr KMr (chN []) = true := by decide +kernel
/-- where an order takes j and 1 -/
noncomputable def tgE (v j : Nat) : sX := .pow (.mul (.pow (.mul (.var v) (.natCast (Nat.mul (nat_lit 4) j))) (nat_lit 7)) (.natCast (nat_lit 15))) (nat_lit 3)
theorem tgE_tab : ∀ o ∈ ORDS, ∀ j, j < 5 → ((Int32.ofNat (ocode o)) >>> (Int32.ofNat (4 * j) &&& 31)) &&& Int32.ofNat 15 = Int32.ofNat (o.getD j 0) := by decide +kernel
theorem tgE_ok {r : sE} {v j : Nat} {o : List Nat} (ho : o ∈ ORDS) (hj : j < 5) (h : r.1 v = Int32.ofNat (ocode o)) : sI r (tgE v j) = Int32.ofNat (o.getD j 0) := by
  rw [← tgE_tab o ho j hj, ← h]
  unfold tgE
  simp only [sI, sD_b, sD_v, sD_c]
  rfl
theorem ordN_in {n : Nat} {o : List Nat} (h : o ∈ ordN n) : o ∈ ORDS := List.mem_of_mem_take h
noncomputable def oTk (q a1 : Nat) : List sOv := Nat.rec (motive := fun _ => List sOv) [] (fun m _ => Nat.rec (motive := fun _ => List sOv) [] (fun j _ => [(nat_lit 6, Nat.add (Nat.add (Nat.mul (nat_lit 6) q) (nat_lit 1)) j, tgE (Nat.add (nat_lit 139264) q) j)]) m) a1
theorem q_takes : allL 5 (fun n => allL 6 (fun a0 => allL 7 (fun a1 => jRun (nat_lit 100000) (nat_lit 200) tXv tXv tMv tMv (nat_lit 96) (nat_lit 165) KXr KMr [(nat_lit 1, nat_lit 1, .natCast (Nat.succ n))] ((nat_lit 0, nat_lit 1, .natCast (Nat.succ n)) :: oTk (shC a0) a1)
  (dP (nat_lit 819200) (nat_lit 0) (nat_lit 4) a0 (dP (nat_lit 819201) (nat_lit 1) (nat_lit 5) a1 [])) [.inl (dA (nat_lit 819200) (nat_lit 0) (nat_lit 4) a0), .inl (dA (nat_lit 819201) (nat_lit 1) (nat_lit 5) a1)] (fun x0 m0 pa x m => frJ (chN []) x0 m0 x m)))) = true := by decide +kernel
theorem op_takes {l : Launch} {D : va_G} {cy : Nat → ClassId} {alX alM : Nat → Nat} : OpI l D cy alX alM 96 165 2 := by
  intro r as hI hlen
  obtain ⟨a0, a1, rfl⟩ : ∃ a0 a1, as = [a0, a1] := by
    match as, hlen with
    | [a0, a1], _ => exact ⟨a0, a1, rfl⟩
  refine OpOk_uA [a0, a1] ?_
  replace hI := Inv_uA (as := [a0, a1]) hI
  have e0 : (uA r [a0, a1]).1 819200 = a0 := uA_a 0
  have e1 : (uA r [a0, a1]).1 819201 = a1 := uA_a 1
  generalize uA r [a0, a1] = r at hI e0 e1 ⊢
  obtain ⟨c0, hc0, hp0, hv0⟩ := dP_ok r 819200 (lo := 0) (n := 4) (Or.inr (by omega)) (by omega)
  rw [e0] at hv0
  obtain ⟨c1, hc1, hp1, hv1⟩ := dP_ok r 819201 (lo := 1) (n := 5) (Or.inr (by omega)) (by omega)
  rw [e1] at hv1
  have hs : c0 - 2 < 4 := by omega
  obtain ⟨c, hc, hcc, hcm⟩ := id hI
  obtain ⟨⟨-, hn1, -⟩, hn2, -⟩ := CC_nd hc hcc
  obtain ⟨-, n1, n2⟩ := cd_tab c hc
  obtain ⟨n, hn⟩ : ∃ n, nOf c = n + 1 := ⟨nOf c - 1, by omega⟩
  rw [hn] at hn1 hn2
  have hR := hcm (c0 - 2) (by omega)
  rw [Comp_R hs] at hR
  obtain ⟨od, ho, ho1, ho2⟩ := hR
  have hoT : oMs r (oTk (c0 - 2) c1) := by
    cases c1 with
    | zero => exact oM_nil
    | succ c1 =>
      cases c1 with
      | zero => exact oM_nil
      | succ j =>
        refine oM_cons ?_ oM_nil
        have e1 : mP 6 (6 * (c0 - 2) + 1 + j) = mP 6 (6 * (c0 - 2) + 1) + j := by unfold mP; omega
        have e2 : xP 34 (c0 - 2) = 139264 + (c0 - 2) := by unfold xP; omega
        rw [e2] at ho1
        show r.1 (mP 6 (6 * (c0 - 2) + 1 + j)) = sI r (tgE (139264 + (c0 - 2)) j)
        rw [e1, ho2 j (by omega), tgE_ok (ordN_in ho) (by omega) ho1]
  refine jOk l tXv_ok tXv_ok tMv_ok tMv_ok (cC_X r) (cC_M r) (hp0 _ (hp1 _ sPa_nil)) (fun _ _ _ => rfl) (fun _ _ _ => rfl) (oX_cons (by rw [sI_c]; exact hn1) oX_nil) (oM_cons (by rw [sI_c]; exact hn2) hoT) ?_ ?_ (allL_ok (allL_ok (allL_ok q_takes n (by omega)) c0 hc0) c1 hc1) ?_
  · simp only [List.map_cons, List.map_nil, sVal, hv0, hv1]
  · simp only [List.map_cons, List.map_nil, sVal, hv0, hv1]
  · intro x0 m0 pa x m hx0 hm0 hck hp hfx hfm _ _
    exact Inv_0 crJ_r hx0 hm0 hfx hfm hck hI
