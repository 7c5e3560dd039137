/-! 37: get, put, has, give, vector (by wip/whole/mk37.py) -/
noncomputable def xpN (s k : Nat) : Nat := Nat.add (Nat.add (nat_lit 151552) (Nat.mul (nat_lit 8192) s)) k
theorem xpN_eq (s k : Nat) : xpN s k = xP (37 + 2 * s) k := by
  show 151552 + 8192 * s + k = 4096 * (37 + 2 * s) + k
  omega
noncomputable def xpZ (s : Nat) : Nat := Nat.add (nat_lit 147457) (Nat.mul (nat_lit 8192) s)
theorem xpZ_eq (s : Nat) : xpZ s = xP (36 + 2 * s) 1 := by
  show 147457 + 8192 * s = 4096 * (36 + 2 * s) + 1
  omega
noncomputable def mpN (s k : Nat) : Nat := Nat.add (Nat.mul (nat_lit 20) s) k
/-- the shelf's sort is told, of both -/
noncomputable def oXs0 (s σ : Nat) : List sOv := [(Nat.add (nat_lit 36) (Nat.mul (nat_lit 2) s), nat_lit 0, .natCast σ)]
/-- an item of the model's is the class' -/
noncomputable def oIt (s a1 : Nat) : List sOv := Nat.rec (motive := fun _ => List sOv) [] (fun m _ => Nat.rec (motive := fun _ => List sOv) [] (fun k _ => [(nat_lit 9, mpN s k, .var (xpN s k))]) m) a1
noncomputable def lcmE (x : sX) (sz : Nat) : sX := .pow (.mul x (.pow (.neg (.pow (.mul (.var sz) (.natCast (nat_lit 1))) (nat_lit 1))) (nat_lit 21))) (nat_lit 10)
/-- an int argument as a long -/
noncomputable def dAL (w a1 : Nat) : sX := Nat.rec (motive := fun _ => sX) (.pow (.neg (.var w)) (nat_lit 21)) (fun m _ => Nat.rec (motive := fun _ => sX) (.pow (.neg (.var w)) (nat_lit 21)) (fun k _ => .natCast k) m) a1
noncomputable def ltP (e eL : sX) (sz lt : Nat) : List sK := Nat.rec (motive := fun _ => List sK) [(false, false, e, .var sz), (false, true, .natCast (nat_lit 0), lcmE eL sz)] (fun _ _ => [(false, true, e, .var sz), (false, false, .natCast (nat_lit 0), lcmE eL sz)]) lt
theorem lcmE_ok {r : sE} {x : sX} {sz z : Nat} {v : Int32} (hx : sJ r x = v.toInt64) (hz : r.1 sz = Int32.ofNat z) (h20 : z ≤ 20) : sI r (.natCast 0) < sI r (lcmE x sz) ↔ ¬ v.toInt < z := by
  have e : sI r (lcmE x sz) = lg_cmp v.toInt64 ((r.1 sz) - 1).toInt64 := by
    rw [← hx]
    unfold lcmE
    simp only [sI, sJ, sD_b, sD_u, sD_v, sD_c]
    rfl
  rw [e, hz, sI_c]
  have e2 : (Int32.ofNat z - 1).toInt = z - 1 := by
    have : ∀ z, z ≤ 20 → (Int32.ofNat z - 1).toInt = (z : Int) - 1 := by decide +kernel
    exact this z h20
  have e3 : ((Int32.ofNat z - 1).toInt64).toInt = z - 1 := by rw [Int32.toInt_toInt64, e2]
  have e4 : (v.toInt64).toInt = v.toInt := Int32.toInt_toInt64 v
  generalize (Int32.ofNat z - 1).toInt64 = b at e3 ⊢
  generalize v.toInt64 = a at e4 ⊢
  unfold lg_cmp
  simp only [gt_iff_lt, Int64.lt_iff_toInt_lt, ← Int64.toInt_inj, Int32.lt_iff_toInt_lt, e3, e4]
  (repeat' split) <;> simp <;> omega
theorem dAL_ok {r : sE} {w n a1 : Nat} (h : a1 < 1000) (hv : sI r (dA w 0 n a1) = r.1 w) : sJ r (dAL w a1) = (r.1 w).toInt64 := by
  match a1, h, hv with
  | 0, _, _ => show sJ r (.pow (.neg (.var w)) 21) = _; simp only [sJ, sD_u, sD_v]; rfl
  | 1, _, _ => show sJ r (.pow (.neg (.var w)) 21) = _; simp only [sJ, sD_u, sD_v]; rfl
  | k + 2, h, hv =>
    have hv2 : sI r (dV 0 k) = r.1 w := hv
    rw [← hv2]
    show sJ r (.natCast k) = (sI r (.natCast ((0 + k) % 4294967296))).toInt64
    rw [sI_c]
    simp only [sJ, sD_c]
    rw [← Int64.toInt_inj, Int32.toInt_toInt64]
    simp only [Int64.toInt_ofNat', Int32.toInt_ofNat', Int.bmod_def, show ((Int32.size : Nat) : Int) = 4294967296 from rfl, show ((Int64.size : Nat) : Int) = 18446744073709551616 from rfl]
    rw [if_pos (by omega), if_pos (by omega)]
    omega
theorem ltP_ok {r : sE} {e eL : sX} {sz z : Nat} {v : Int32} (hz : r.1 sz = Int32.ofNat z) (h20 : z ≤ 20) (he : sI r e = v) (hL : sJ r eL = v.toInt64) : ∃ lt, lt < 2 ∧ sPa r (ltP e eL sz lt) ∧ (lt = 1 → v.toInt < z) := by
  have hzi : (sI r (.var sz)).toInt = z := by
    rw [sI_v, hz]
    have : ∀ z, z ≤ 20 → (Int32.ofNat z).toInt = (z : Int) := by decide +kernel
    exact this z h20
  have k := lcmE_ok (r := r) (x := eL) hL hz h20
  by_cases h : v.toInt < z
  · refine ⟨1, by omega, ?_, fun _ => h⟩
    show sPa r [(false, true, e, .var sz), (false, false, .natCast 0, lcmE eL sz)]
    simp only [sPa_cons, sKd]
    exact ⟨by rw [Int32.lt_iff_toInt_lt, he, hzi]; exact h, by rw [k]; omega, sPa_nil⟩
  · refine ⟨0, by omega, ?_, fun q => by omega⟩
    show sPa r [(false, false, e, .var sz), (false, true, .natCast 0, lcmE eL sz)]
    simp only [sPa_cons, sKd]
    exact ⟨by rw [Int32.lt_iff_toInt_lt, he, hzi]; exact h, by rw [k]; exact h, sPa_nil⟩
theorem frL_mono {Ch Ch2 : Nat → Bool} (h : ∀ u, Ch u = true → Ch2 u = true) : ∀ (a : List sV) (w : Nat) (b : List sV), frL Ch a w b = true → frL Ch2 a w b = true
  | [], _, _, _ => rfl
  | _ :: _, _, [], q => nomatch (show false = true from q)
  | x :: a, w, y :: b, q => by
    have q2 : Bool.and (Bool.rec (motive := fun _ => Bool) (Ch w) true (eqV x y)) (frL Ch a (Nat.succ w) b) = true := q
    rw [Bool.and_eq_true] at q2
    show Bool.and (Bool.rec (motive := fun _ => Bool) (Ch2 w) true (eqV x y)) (frL Ch2 a (Nat.succ w) b) = true
    rw [Bool.and_eq_true]
    refine ⟨?_, frL_mono h a _ b q2.2⟩
    cases he : eqV x y with
    | true => rfl
    | false =>
      have := q2.1
      rw [he] at this
      exact h w this
theorem frM_mono {b : Nat} {Ch Ch2 : Nat → Bool} (h : ∀ u, Ch u = true → Ch2 u = true) : ∀ (m0 : sM) (i : Nat) (m : sM), frM b Ch m0 i m = true → frM b Ch2 m0 i m = true
  | [], _, _, _ => rfl
  | _ :: _, _, [], q => nomatch (show false = true from q)
  | x :: a, i, y :: m, q => by
    have q2 : Bool.and (Bool.rec (motive := fun _ => Bool) (frL Ch x.2.2 (Nat.mul (nat_lit 4096) (Nat.add b i)) y.2.2) true (Nat.beq x.1 (nat_lit 7))) (frM b Ch a (Nat.succ i) m) = true := q
    rw [Bool.and_eq_true] at q2
    show Bool.and (Bool.rec (motive := fun _ => Bool) (frL Ch2 x.2.2 (Nat.mul (nat_lit 4096) (Nat.add b i)) y.2.2) true (Nat.beq x.1 (nat_lit 7))) (frM b Ch2 a (Nat.succ i) m) = true
    rw [Bool.and_eq_true]
    refine ⟨?_, frM_mono h a _ m q2.2⟩
    cases he : Nat.beq x.1 (nat_lit 7) with
    | true => rfl
    | false =>
      have := q2.1
      rw [he] at this
      exact frL_mono h _ _ _ this
theorem frJ_mono {Ch Ch2 : Nat → Bool} {x0 m0 x m : sM} (h : ∀ u, Ch u = true → Ch2 u = true) (q : frJ Ch x0 m0 x m = true) : frJ Ch2 x0 m0 x m = true := by
  unfold frJ at q ⊢
  rw [Bool.and_eq_true] at q ⊢
  exact ⟨frM_mono h _ _ _ q.1, frM_mono h _ _ _ q.2⟩
/-- one number of a shelf -/
noncomputable def chK (s k u : Nat) : Bool := Bool.or (Nat.beq u (xpN s k)) (Nat.beq u (Nat.add (nat_lit 319488) (mpN s k)))
theorem chK_S {s k u : Nat} (hk : k < 20) (h : chK s k u = true) : chS [] s u = true := by
  unfold chK at h
  unfold chS
  simp only [Bool.or_eq_true] at h ⊢
  right
  rcases h with h | h
  · have e : u = 151552 + 8192 * s + k := Nat.eq_of_beq_eq_true h
    right; left
    rw [e]
    show Nat.beq ((151552 + 8192 * s + k) / 4096) (37 + 2 * s) = true
    rw [show (151552 + 8192 * s + k) / 4096 = 37 + 2 * s by omega]
    exact Nat.beq_refl _
  · have e : u = 319488 + (20 * s + k) := Nat.eq_of_beq_eq_true h
    right; right; right; right
    rw [Bool.and_eq_true, e]
    exact ⟨Nat.ble_eq_true_of_le (show 319488 + 20 * s ≤ 319488 + (20 * s + k) by omega), Nat.ble_eq_true_of_le (show 319488 + (20 * s + k) + 1 ≤ 319508 + 20 * s by omega)⟩
theorem chK_no {s k u : Nat} (h1 : u ≠ xP (37 + 2 * s) k) (h2 : u ≠ mP 9 (20 * s + k)) : chK s k u = false := by
  cases h : chK s k u with
  | false => rfl
  | true =>
    exfalso
    unfold chK at h
    rw [Bool.or_eq_true] at h
    rcases h with h | h
    · exact h1 ((Nat.eq_of_beq_eq_true h).trans (xpN_eq s k))
    · refine h2 ((Nat.eq_of_beq_eq_true h).trans ?_)
      show 319488 + (20 * s + k) = 4096 * (69 + 9) + (20 * s + k)
      omega
theorem cS_set {s k : Nat} {r r2 : sE} (hs : s < 4) (hk : k < 20) (h : cS (xP (36 + 2 * s) 0) (xP (36 + 2 * s) 1) (xP (37 + 2 * s) 0) (mP 7 s) (mP 8 s) (mP 9 (20 * s)) r) (hfr : ∀ u ∈ cPl (4 + s), u ≠ xP (37 + 2 * s) k → u ≠ mP 9 (20 * s + k) → r2.1 u = r.1 u) (hv : r2.1 (mP 9 (20 * s + k)) = r2.1 (xP (37 + 2 * s) k)) (hb : r.1 (xP (36 + 2 * s) 0) = 1 → -999 ≤ r2.1 (xP (37 + 2 * s) k) ∧ r2.1 (xP (37 + 2 * s) k) ≤ 999) : cS (xP (36 + 2 * s) 0) (xP (36 + 2 * s) 1) (xP (37 + 2 * s) 0) (mP 7 s) (mP 8 s) (mP 9 (20 * s)) r2 := by
  obtain ⟨⟨p1, p2, p3, p4⟩, p5⟩ := cPl_S s hs
  have f1 := hfr _ p1 (by unfold xP; omega) (by unfold xP mP; omega)
  have f2 := hfr _ p2 (by unfold xP; omega) (by unfold xP mP; omega)
  have f3 := hfr _ p3 (by unfold xP mP; omega) (by unfold mP; omega)
  have f4 := hfr _ p4 (by unfold xP mP; omega) (by unfold mP; omega)
  have f5 : ∀ j, j < 20 → j ≠ k → r2.1 (xP (37 + 2 * s) 0 + j) = r.1 (xP (37 + 2 * s) 0 + j) ∧ r2.1 (mP 9 (20 * s) + j) = r.1 (mP 9 (20 * s) + j) := fun j hj hjk =>
    ⟨hfr _ (p5 j hj).1 (by unfold xP; omega) (by unfold xP mP; omega), hfr _ (p5 j hj).2 (by unfold xP mP; omega) (by unfold mP; omega)⟩
  have e1 : xP (37 + 2 * s) 0 + k = xP (37 + 2 * s) k := by unfold xP; omega
  have e2 : mP 9 (20 * s) + k = mP 9 (20 * s + k) := by unfold mP; omega
  have hN : (∀ j, j < 20 → r.1 (mP 9 (20 * s) + j) = r.1 (xP (37 + 2 * s) 0 + j)) → ∀ j, j < 20 → r2.1 (mP 9 (20 * s) + j) = r2.1 (xP (37 + 2 * s) 0 + j) := fun g j hj => by
    by_cases e : j = k
    · subst e
      rw [e1, e2]
      exact hv
    · rw [(f5 j hj e).1, (f5 j hj e).2]
      exact g j hj
  obtain ⟨g1, g2⟩ := h
  refine ⟨by rw [f3, f1, g1], ?_⟩
  rcases g2 with g | ⟨g, g3, g4⟩ | ⟨g, ⟨z, g3, g4, g5⟩, g6⟩
  · exact Or.inl (f1.trans g)
  · refine Or.inr (Or.inl ⟨f1.trans g, hN g3, fun j hj => ?_⟩)
    by_cases e : j = k
    · subst e
      rw [e1]
      exact hb g
    · rw [(f5 j hj e).1]
      exact g4 j hj
  · exact Or.inr (Or.inr ⟨f1.trans g, ⟨z, g3, f2.trans g4, f4.trans g5⟩, hN g6⟩)
/-- nothing is changed, or one number of the shelf, which becomes e -/
noncomputable def ckK (s a1 : Nat) (e : sX) (x0 m0 : sM) (x m : sM) : Bool := Bool.or (frJ (chN []) x0 m0 x m) (Bool.and (Bool.and (Nat.ble (nat_lit 2) a1) (Nat.ble a1 (nat_lit 21))) (Bool.and (frJ (chK s (shC a1)) x0 m0 x m) (Bool.and (eqE0 x (Nat.add (nat_lit 37) (Nat.mul (nat_lit 2) s)) (shC a1) e) (eqE0 m (nat_lit 9) (mpN s (shC a1)) e))))
theorem Inv_K {r : sE} {alX alM : Nat → Nat} {s a1 : Nat} {e : sX} {x0 m0 x m : sM} (hs : s < 4) (hx0 : ovP r alX 68 tXv (KXs s) x0) (hm0 : ovP r alM 45 tMv KMs m0) (hx : fitM 0 68 tXv (KXs s) x = true) (hm : fitM 69 45 tMv KMs m = true) (h : ckK s a1 e x0 m0 x m = true) (hI : Inv r) (hb : r.1 (xP (36 + 2 * s) 0) = 1 → frJ (chN []) x0 m0 x m = true ∨ (-999 ≤ sI r e ∧ sI r e ≤ 999)) : Inv (eJ r x m) := by
  have hcr := allL_ok crJ_S s hs
  rw [Bool.and_eq_true] at hcr
  have none : frJ (chN []) x0 m0 x m = true → Inv (eJ r x m) := fun h => Inv_touch (T := fun _ => false) hcr.1 (fun id hid _ => allL_ok chN_ok id hid) hx0 hm0 hx hm h hI (fun c hc h1 h2 id hid q => nomatch q)
  unfold ckK at h
  rw [Bool.or_eq_true] at h
  rcases h with h | h
  · exact none h
  simp only [Bool.and_eq_true] at h
  obtain ⟨⟨h0, h0'⟩, h1, h2, h3⟩ := h
  have k1 : 2 ≤ a1 := Nat.le_of_ble_eq_true h0
  have k2 : a1 ≤ 21 := Nat.le_of_ble_eq_true h0'
  have hk : a1 - 2 < 20 := by omega
  by_cases hn : frJ (chN []) x0 m0 x m = true
  · exact none hn
  refine Inv_touch (T := fun id => Nat.beq id (4 + s)) hcr.2 (fun id hid q => ?_) hx0 hm0 hx hm (frJ_mono (fun u => chK_S hk) h1) hI (fun c hc g1 g2 id hid q => ?_)
  · have := allL_ok (allL_ok chS_ok s hs) id hid
    rw [q] at this
    exact this
  · have ei : id = 4 + s := Nat.eq_of_beq_eq_true q
    subst ei
    have g3 := g2 (4 + s) hid
    rw [Comp_S hs] at g3 ⊢
    have v1 : (eJ r x m).1 (xP (37 + 2 * s) (a1 - 2)) = sI r e := eqE0_x (show 37 + 2 * s < 68 by omega) (by omega) h2
    have v2 : (eJ r x m).1 (mP 9 (20 * s + (a1 - 2))) = sI r e := eqE0_m (by omega) h3
    refine cS_set hs hk g3 (fun u hu n1 n2 => frJ_place tXv_ok tMv_ok vPl_v hx0 hm0 hx hm h1 hid hu (chK_no n1 n2)) (v2.trans v1.symm) (fun q1 => ?_)
    rw [v1]
    rcases hb q1 with hb | hb
    · exact absurd hb hn
    · exact hb
theorem Inv_N {r : sE} {alX alM : Nat → Nat} {s : Nat} {x0 m0 x m : sM} (hs : s < 4) (hx0 : ovP r alX 68 tXv (KXs s) x0) (hm0 : ovP r alM 45 tMv KMs m0) (hx : fitM 0 68 tXv (KXs s) x = true) (hm : fitM 69 45 tMv KMs m = true) (h : frJ (chN []) x0 m0 x m = true) (hI : Inv r) : Inv (eJ r x m) := by
  have hcr := allL_ok crJ_S s hs
  rw [Bool.and_eq_true] at hcr
  exact Inv_touch (T := fun _ => false) hcr.1 (fun id hid _ => allL_ok chN_ok id hid) hx0 hm0 hx hm h hI (fun c hc h1 h2 id hid q => nomatch q)
