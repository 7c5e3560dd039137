/-! 46: the state behind a register made otherwise -/
theorem ocode_lt : lAll (fun o => Nat.ble (ocode o) (nat_lit 1000000)) ORDS = true := by decide +kernel
theorem ocode_inj : lAll (fun p => lAll (fun q => Bool.or (Bool.not (Nat.beq (codeO p) (codeO q))) (eqL Nat.beq p q)) ORDS) ORDS = true := by decide +kernel
theorem i32_nat {a b : Nat} (ha : a < 2147483648) (hb : b < 2147483648) (h : Int32.ofNat a = Int32.ofNat b) : a = b := by
  have w := congrArg Int32.toInt h
  simp only [Int32.toInt_ofNat', Int.bmod_def, show ((Int32.size : Nat) : Int) = 4294967296 from rfl] at w
  rw [if_pos (by omega), if_pos (by omega)] at w
  omega
theorem code_inj {p q : List Nat} (hp : p ∈ ORDS) (hq : q ∈ ORDS) (h : Int32.ofNat (ocode p) = Int32.ofNat (ocode q)) : p = q := by
  have a1 : ocode p ≤ 1000000 := Nat.le_of_ble_eq_true (lAll_ok ocode_lt p hp)
  have a2 : ocode q ≤ 1000000 := Nat.le_of_ble_eq_true (lAll_ok ocode_lt q hq)
  have e := i32_nat (by omega) (by omega) h
  have t := lAll_ok (lAll_ok ocode_inj p hp) q hq
  rw [Bool.or_eq_true, codeO_eq hp, codeO_eq hq, e] at t
  rcases t with t | t
  · simp at t
  · exact eqL_ok (fun _ _ => Nat.eq_of_beq_eq_true) _ _ t
theorem ORDS_len {q : List Nat} (hq : q ∈ ORDS) : q.length = 5 := by
  have := lAll_ok mul_tab q hq
  rw [Bool.and_eq_true, sLn_ok] at this
  exact Nat.eq_of_beq_eq_true this.1
theorem ORDS_le {q : List Nat} (hq : q ∈ ORDS) {i : Nat} (hi : i < 5) : 1 ≤ q.getD i 0 ∧ q.getD i 0 ≤ 5 := by
  have := allL_ok (lAll_ok ORDS_tab q hq) i hi
  rw [Bool.and_eq_true] at this
  rw [← nthO_eq]
  exact ⟨Nat.le_of_ble_eq_true this.1, Nat.le_of_ble_eq_true this.2⟩
theorem row_inj {p q : List Nat} (hp : p ∈ ORDS) (hq : q ∈ ORDS) (h : ∀ i, i < 5 → Int32.ofNat (p.getD i 0) = Int32.ofNat (q.getD i 0)) : p = q := by
  have l1 := ORDS_len hp
  have l2 := ORDS_len hq
  apply List.ext_getElem (by omega)
  intro i h1 h2
  have b1 := ORDS_le hp (i := i) (by omega)
  have b2 := ORDS_le hq (i := i) (by omega)
  have e := i32_nat (by omega) (by omega) (h i (by omega))
  rw [List.getD_eq_getElem?_getD, List.getD_eq_getElem?_getD, List.getElem?_eq_getElem h1, List.getElem?_eq_getElem h2] at e
  exact e
/-- of the class: the register q is o, z steps before -/
def PuX (z q : Nat) (o : List Nat) (r r1 : sE) : Prop := (r.1 (xP 34 q) = Int32.ofNat (ocode o) ∧ ∀ u, isV 0 68 tXv u = true → r1.1 u = r.1 u) ∨
  (r.1 (xP 34 q) ≠ Int32.ofNat (ocode o) ∧ (∀ u, isV 0 68 tXv u = true → chX z q u = false → r1.1 u = r.1 u) ∧ r1.1 (xP 34 q) = Int32.ofNat (ocode o) ∧
    ((z < 10 ∧ r1.1 (xP 44 0) = Int32.ofNat (z + 1) ∧ r1.1 (xP 45 z) = Int32.ofNat q ∧ r1.1 (xP 46 z) = r.1 (xP 34 q)) ∨
     (z = 10 ∧ r1.1 (xP 44 0) = Int32.ofNat 10 ∧ r1.1 (xP 45 9) = Int32.ofNat q ∧ r1.1 (xP 46 9) = r.1 (xP 34 q) ∧ ∀ i, i < 9 → r1.1 (xP 45 i) = r.1 (xP 45 (i + 1)) ∧ r1.1 (xP 46 i) = r.1 (xP 46 (i + 1)))))
theorem PuX_of {r : sE} {al : Nat → Nat} {z q : Nat} {o : List Nat} {x0 x : sM} {pa : List sK} (hq : q < 4) (hz : z ≤ 10) (hb : r.1 vB = Int32.ofNat (ocode o)) (h0 : ovP r al 68 tXv KXm x0) (hp : sPa r pa) (hf : fitM 0 68 tXv KXm x = true) (h : ckMk z q x0 pa x = true) : PuX z q o r (eOf 0 r x) := by
  have eR : Nat.add (nat_lit 139264) q = xP 34 q := rfl
  have vE : ∀ {i j : Nat} {e : sX}, j < 4096 → isE x i j e = true → (eOf 0 r x).1 (xP i j) = sI r e := fun {i j e} hj h => by
    have := isE_ok (b := 0) (r := r) hj h
    rw [Nat.zero_add] at this
    exact this
  unfold ckMk at h
  rw [Bool.or_eq_true, Bool.and_eq_true] at h
  rcases h with ⟨h1, h2⟩ | h
  · left
    have := paY_ok hp h1
    rw [sI_v, sI_v, hb] at this
    exact ⟨this, fun u hu => fr_ok (fun i hi => (tXv_can i hi).1) h0 hf h2 hu rfl⟩
  · right
    simp only [Bool.and_eq_true] at h
    obtain ⟨⟨h1, h2⟩, h3, h4⟩ := h
    have n1 := paN_ok hp h1
    rw [sI_v, sI_v, hb] at n1
    refine ⟨n1, fun u hu hc => fr_ok (fun i hi => (tXv_can i hi).1) h0 hf h2 hu hc, ?_, ?_⟩
    · rw [vE (by omega) h3, sI_v, hb]
    · unfold pshX at h4
      cases hz10 : Nat.beq z (nat_lit 10) with
      | false =>
        rw [hz10] at h4
        have h5 : Bool.and (isE x (nat_lit 44) (nat_lit 0) (.natCast (Nat.succ z))) (Bool.and (isE x (nat_lit 45) z (.natCast q)) (isE x (nat_lit 46) z (.var (Nat.add (nat_lit 139264) q)))) = true := h4
        simp only [Bool.and_eq_true] at h5
        have zlt : z < 10 := by
          rcases Nat.lt_or_ge z 10 with g | g
          · exact g
          · have : z = 10 := by omega
            subst this
            cases hz10
        refine Or.inl ⟨zlt, ?_, ?_, ?_⟩
        · exact (vE (show 0 < 4096 by omega) h5.1).trans sI_c
        · exact (vE (show z < 4096 by omega) h5.2.1).trans sI_c
        · exact (vE (show z < 4096 by omega) h5.2.2).trans sI_v
      | true =>
        rw [hz10] at h4
        have e : z = 10 := Nat.eq_of_beq_eq_true hz10
        have h5 : Bool.and (isE x (nat_lit 44) (nat_lit 0) (.natCast (nat_lit 10))) (Bool.and (Bool.and (isE x (nat_lit 45) (nat_lit 9) (.natCast q)) (isE x (nat_lit 46) (nat_lit 9) (.var (Nat.add (nat_lit 139264) q)))) (allL (nat_lit 9) (fun i => Bool.and (isE x (nat_lit 45) i (.var (Nat.add (nat_lit 184321) i))) (isE x (nat_lit 46) i (.var (Nat.add (nat_lit 188417) i)))))) = true := h4
        simp only [Bool.and_eq_true] at h5
        refine Or.inr ⟨e, (vE (show 0 < 4096 by omega) h5.1).trans sI_c, (vE (show 9 < 4096 by omega) h5.2.1.1).trans sI_c, (vE (show 9 < 4096 by omega) h5.2.1.2).trans sI_v, fun i hi => ?_⟩
        have h6 := allL_ok h5.2.2 i hi
        rw [Bool.and_eq_true] at h6
        refine ⟨(vE (by omega) h6.1).trans (sI_v.trans ?_), (vE (by omega) h6.2).trans (sI_v.trans ?_)⟩
        · exact congrArg r.1 (show 184321 + i = 4096 * 45 + (i + 1) by omega)
        · exact congrArg r.1 (show 188417 + i = 4096 * 46 + (i + 1) by omega)
/-- of the model -/
def PuM (z q : Nat) (o : List Nat) (r r1 : sE) : Prop := ((∀ i, i < 5 → r.1 (mP 6 (6 * q + 1) + i) = Int32.ofNat (o.getD i 0)) ∧ ∀ u, isV 69 45 tMv u = true → r1.1 u = r.1 u) ∨
  ((∃ i, i < 5 ∧ r.1 (mP 6 (6 * q + 1) + i) ≠ Int32.ofNat (o.getD i 0)) ∧ (∀ u, isV 69 45 tMv u = true → chM z q u = false → r1.1 u = r.1 u) ∧ (∀ i, i < 5 → r1.1 (mP 6 (6 * q + 1) + i) = Int32.ofNat (o.getD i 0)) ∧
    ((z < 10 ∧ r1.1 (mP 0 17) = Int32.ofNat (z + 1) ∧ r1.1 (mP 15 (6 * z)) = Int32.ofNat q ∧ ∀ i, i < 5 → r1.1 (mP 15 (6 * z + 1) + i) = r.1 (mP 6 (6 * q + 1) + i)) ∨
     (z = 10 ∧ r1.1 (mP 0 17) = Int32.ofNat 10 ∧ r1.1 (mP 15 54) = Int32.ofNat q ∧ (∀ i, i < 5 → r1.1 (mP 15 55 + i) = r.1 (mP 6 (6 * q + 1) + i)) ∧ ∀ i, i < 54 → r1.1 (mP 15 i) = r.1 (mP 15 (i + 6)))))
theorem PuM_of {r : sE} {al : Nat → Nat} {z q : Nat} {o : List Nat} {m0 m : sM} (hq : q < 4) (hz : z ≤ 10) (hm : hasO r 14 o) (hne : ∃ i, i < 5 ∧ r.1 (mP 6 (6 * q + 1) + i) ≠ r.1 (mP 14 (1 + i))) (h0 : ovP r al 45 tMv KMb1 m0) (hf : fitM 69 45 tMv KMb1 m = true) (h : ckBc z q m0 m = true) : PuM z q o r (eOf 69 r m) := by
  have vE : ∀ {i j : Nat} {e : sX}, j < 4096 → isE m i j e = true → (eOf 69 r m).1 (mP i j) = sI r e := fun {i j e} hj h => isE_ok (b := 69) (r := r) hj h
  unfold ckBc at h
  simp only [Bool.and_eq_true] at h
  obtain ⟨h1, h2, h4⟩ := h
  right
  refine ⟨?_, fun u hu hc => fr_ok (fun i hi => (tMv_can i hi).1) h0 hf h1 hu hc, fun i hi => ?_, ?_⟩
  · obtain ⟨i, hi, hn⟩ := hne
    exact ⟨i, hi, by rw [hm i hi] at hn; exact hn⟩
  · have h3 := allL_ok h2 i hi
    have e1 : mP 6 (6 * q + 1) + i = mP 6 (6 * q + 1 + i) := by unfold mP; omega
    rw [e1]
    refine (vE (show 6 * q + 1 + i < 4096 by omega) h3).trans (sI_v.trans ?_)
    rw [mMd_eq]
    exact hm i hi
  · unfold pshM at h4
    cases hz10 : Nat.beq z (nat_lit 10) with
    | false =>
      rw [hz10] at h4
      have h5 : Bool.and (isE m (nat_lit 0) (nat_lit 17) (.natCast (Nat.succ z))) (Bool.and (isE m (nat_lit 15) (Nat.mul (nat_lit 6) z) (.natCast q)) (allL (nat_lit 5) (fun i => isE m (nat_lit 15) (Nat.add (Nat.add (Nat.mul (nat_lit 6) z) (nat_lit 1)) i) (.var (mO q i))))) = true := h4
      simp only [Bool.and_eq_true] at h5
      have zlt : z < 10 := by
        rcases Nat.lt_or_ge z 10 with g | g
        · exact g
        · have : z = 10 := by omega
          subst this
          cases hz10
      refine Or.inl ⟨zlt, (vE (show 17 < 4096 by omega) h5.1).trans sI_c, (vE (show 6 * z < 4096 by omega) h5.2.1).trans sI_c, fun i hi => ?_⟩
      have e1 : mP 15 (6 * z + 1) + i = mP 15 (6 * z + 1 + i) := by unfold mP; omega
      rw [e1]
      refine (vE (show 6 * z + 1 + i < 4096 by omega) (allL_ok h5.2.2 i hi)).trans (sI_v.trans ?_)
      rw [mO_eq]
    | true =>
      rw [hz10] at h4
      have e : z = 10 := Nat.eq_of_beq_eq_true hz10
      have h5 : Bool.and (isE m (nat_lit 0) (nat_lit 17) (.natCast (nat_lit 10))) (Bool.and (Bool.and (isE m (nat_lit 15) (nat_lit 54) (.natCast q)) (allL (nat_lit 5) (fun i => isE m (nat_lit 15) (Nat.add (nat_lit 55) i) (.var (mO q i))))) (allL (nat_lit 54) (fun i => isE m (nat_lit 15) i (.var (Nat.add (nat_lit 344070) i))))) = true := h4
      simp only [Bool.and_eq_true] at h5
      refine Or.inr ⟨e, (vE (show 17 < 4096 by omega) h5.1).trans sI_c, (vE (show 54 < 4096 by omega) h5.2.1.1).trans sI_c, fun i hi => ?_, fun i hi => ?_⟩
      · have e1 : mP 15 55 + i = mP 15 (55 + i) := by unfold mP; omega
        rw [e1]
        refine (vE (show 55 + i < 4096 by omega) (allL_ok h5.2.1.2 i hi)).trans (sI_v.trans ?_)
        rw [mO_eq]
      · refine (vE (by omega) (allL_ok h5.2.2 i hi)).trans (sI_v.trans ?_)
        exact congrArg r.1 (show 344070 + i = 4096 * (69 + 15) + (i + 6) by omega)
