/-! 33: arguments: a variable each, told by codes: below lo (0), above (1), or lo + k (k + 2) -/
noncomputable def memB (l : List Nat) (i : Nat) : Bool := List.rec (motive := fun _ => Bool) false (fun a _ ih => Bool.or (Nat.beq a i) ih) l
noncomputable def dV (lo m : Nat) : sX := .natCast (Nat.mod (Nat.add lo m) (nat_lit 4294967296))
noncomputable def dA (w lo n code : Nat) : sX := Nat.rec (motive := fun _ => sX) (.var w) (fun m _ => Nat.rec (motive := fun _ => sX) (.var w) (fun k _ => dV lo k) m) code
noncomputable def dE0 (w lo : Nat) (n : Nat) (pa : List sK) : List sK := Nat.rec (motive := fun _ => List sK) pa (fun m ih => (true, false, .var w, dV lo m) :: (false, true, .var w, dV lo m) :: (false, false, dV lo m, .var w) :: ih) n
noncomputable def dE1 (w lo : Nat) (n : Nat) (pa : List sK) : List sK := Nat.rec (motive := fun _ => List sK) pa (fun m ih => (true, false, .var w, dV lo m) :: (false, false, .var w, dV lo m) :: (false, true, dV lo m, .var w) :: ih) n
noncomputable def dP (w lo n code : Nat) (pa : List sK) : List sK := Nat.rec (motive := fun _ => List sK) (dE0 w lo n pa) (fun m _ => Nat.rec (motive := fun _ => List sK) ((false, false, .var w, dV lo n) :: dE1 w lo n pa) (fun _ _ => pa) m) code
theorem sPa_cons {r : sE} {q : sK} {pa : List sK} : sPa r (q :: pa) ↔ sKd r q ∧ sPa r pa := List.forall_mem_cons
theorem dV_int {r : sE} {lo m : Nat} {z : Int} (hz : (lo = 4294967295 ∧ z = -1) ∨ (lo ≤ 1000 ∧ z = lo)) (hm : m ≤ 1000) : (sI r (dV lo m)).toInt = z + m := by
  show (sI r (.natCast ((lo + m) % 4294967296))).toInt = _
  simp only [sI, sD_c, Int32.toInt_ofNat', Int.bmod_def, show ((Int32.size : Nat) : Int) = 4294967296 from rfl]
  split <;> omega
theorem dE0_ok {r : sE} {w lo : Nat} {z : Int} (hz : (lo = 4294967295 ∧ z = -1) ∨ (lo ≤ 1000 ∧ z = lo)) (h : (r.1 w).toInt < z) {pa : List sK} (hp : sPa r pa) : ∀ n, n ≤ 1000 → sPa r (dE0 w lo n pa)
  | 0, _ => hp
  | m + 1, hm => by
    have ih := dE0_ok (w := w) hz h hp m (by omega)
    have e := dV_int (r := r) hz (m := m) (by omega)
    show sPa r ((true, false, .var w, dV lo m) :: (false, true, .var w, dV lo m) :: (false, false, dV lo m, .var w) :: dE0 w lo m pa)
    simp only [sPa_cons, sKd]
    have ev : sI r (.var w) = r.1 w := by simp only [sI, sD_v]
    refine ⟨?_, ?_, ?_, ih⟩
    · rw [ev, ← Int32.toInt_inj, e]; omega
    · rw [ev, Int32.lt_iff_toInt_lt, e]; omega
    · rw [ev, Int32.lt_iff_toInt_lt, e]; omega
theorem dE1_ok {r : sE} {w lo : Nat} {z : Int} (hz : (lo = 4294967295 ∧ z = -1) ∨ (lo ≤ 1000 ∧ z = lo)) {pa : List sK} (hp : sPa r pa) : ∀ n : Nat, n ≤ 1000 → z + n ≤ (r.1 w).toInt → sPa r (dE1 w lo n pa)
  | 0, _, _ => hp
  | m + 1, hm, h => by
    have ih := dE1_ok (w := w) hz hp m (by omega) (by omega)
    have e := dV_int (r := r) hz (m := m) (by omega)
    show sPa r ((true, false, .var w, dV lo m) :: (false, false, .var w, dV lo m) :: (false, true, dV lo m, .var w) :: dE1 w lo m pa)
    simp only [sPa_cons, sKd]
    have ev : sI r (.var w) = r.1 w := by simp only [sI, sD_v]
    refine ⟨?_, ?_, ?_, ih⟩
    · rw [ev, ← Int32.toInt_inj, e]; omega
    · rw [ev, Int32.lt_iff_toInt_lt, e]; omega
    · rw [ev, Int32.lt_iff_toInt_lt, e]; omega
/-- one of the codes holds -/
theorem dP_ok (r : sE) (w : Nat) {lo n : Nat} (hlo : lo = 4294967295 ∨ lo ≤ 1000) (hn : n ≤ 1000) : ∃ code, code < n + 2 ∧ (∀ pa, sPa r pa → sPa r (dP w lo n code pa)) ∧ sI r (dA w lo n code) = r.1 w := by
  obtain ⟨z, hz⟩ : ∃ z : Int, (lo = 4294967295 ∧ z = -1) ∨ (lo ≤ 1000 ∧ z = lo) := by
    rcases hlo with h | h
    · exact ⟨-1, Or.inl ⟨h, rfl⟩⟩
    · exact ⟨lo, Or.inr ⟨h, rfl⟩⟩
  have ev : sI r (.var w) = r.1 w := by simp only [sI, sD_v]
  by_cases h1 : (r.1 w).toInt < z
  · exact ⟨0, by omega, fun pa hp => dE0_ok hz h1 hp n hn, ev⟩
  by_cases h2 : z + n ≤ (r.1 w).toInt
  · refine ⟨1, by omega, fun pa hp => ?_, ev⟩
    show sPa r ((false, false, .var w, dV lo n) :: dE1 w lo n pa)
    rw [sPa_cons]
    refine ⟨?_, dE1_ok hz hp n hn h2⟩
    show ¬ sI r (.var w) < sI r (dV lo n)
    rw [ev, Int32.lt_iff_toInt_lt, dV_int hz hn]
    omega
  · refine ⟨((r.1 w).toInt - z).toNat + 2, by omega, fun pa hp => hp, ?_⟩
    show sI r (dV lo ((r.1 w).toInt - z).toNat) = r.1 w
    rw [← Int32.toInt_inj, dV_int hz (by omega)]
    omega
def aV (i : Nat) : Nat := 819200 + i
/-- arguments come into the environment -/
def uA (r : sE) (as : List Int32) : sE := (fun v => if 819200 ≤ v then as.getD (v - 819200) 0 else r.1 v, r.2)
theorem uA_a {r : sE} {as : List Int32} (i : Nat) : (uA r as).1 (819200 + i) = as.getD i 0 := by
  unfold uA
  simp only [show 819200 ≤ 819200 + i by omega, if_true, show 819200 + i - 819200 = i by omega]
theorem uA_lo {r : sE} {as : List Int32} {v : Nat} (h : v < 819200) : (uA r as).1 v = r.1 v := by
  unfold uA
  simp only [show ¬ 819200 ≤ v by omega, if_false]
theorem tW_uA {r : sE} {as : List Int32} {al : Nat → Nat} {cy : Nat → ClassId} {rest : va_W} {b n : Nat} {t : Nat → sC} (hb : b + n ≤ 200) (hcan : ∀ i, i < n → (t i).1 ≤ 6 ∧ fitC (b + i) (t i) (t i) = true) : tW (uA r as) al cy rest n t = tW r al cy rest n t := by
  unfold tW
  congr 1
  apply List.map_congr_left
  intro i hi
  rw [List.mem_range] at hi
  rw [canC_ok (hcan i hi).2 (fun j hj => ⟨uA_lo (by omega), rfl⟩)]
theorem cPl_lo : allL 12 (fun id => lAll (fun u => Nat.ble (Nat.succ u) (nat_lit 819200)) (cPl id)) = true := by decide +kernel
theorem Inv_uA {r : sE} {as : List Int32} (h : Inv r) : Inv (uA r as) := by
  obtain ⟨c, hc, ⟨h1, h2⟩, h3⟩ := h
  have lo : ∀ {b n : Nat} {t tv : Nat → sC}, b + n ≤ 200 → tOk b n t tv → cC b n t r → cC b n t (uA r as) := fun {b n t tv} hb ht hr i hi j k => by
    have h4 : ∀ x, (t i).2.2[j]? = some x → j < 4096 := fun x hx => by
      have k3 := (ht i hi).1.2
      unfold fitC at k3
      simp only [Bool.and_eq_true] at k3
      have g4 : (t i).2.2.length ≤ 4096 := by rw [← sLn_ok]; exact Nat.le_of_ble_eq_true k3.2.2.2.1
      exact Nat.lt_of_lt_of_le (List.getElem?_eq_some_iff.mp hx).1 g4
    exact ⟨fun hx => by rw [uA_lo (by have := h4 _ hx; omega)]; exact (hr i hi j k).1 hx, fun hx => (hr i hi j k).2 hx⟩
  exact ⟨c, hc, ⟨lo (by omega) (tX_ok hc) h1, lo (by omega) (tM_ok hc) h2⟩, fun id hid => Comp_congr hid rfl (fun u hu => uA_lo (Nat.le_of_ble_eq_true (lAll_ok (allL_ok cPl_lo id hid) u hu))) (h3 id hid)⟩
theorem OpOk_uA {l : Launch} {D : va_G} {cy : Nat → ClassId} {alX alM : Nat → Nat} {d : Nat} {r : sE} {kX kM : Nat} {vs : List Value} {P : sE → Prop} (as : List Int32) (h : OpOk l D cy alX alM d (uA r as) kX kM vs P) : OpOk l D cy alX alM d r kX kM vs P := by
  obtain ⟨Mid, h1, h2, h3⟩ := h
  refine ⟨Mid, fun rest => ?_, fun v r1 hm rest => ?_, h3⟩
  · have := h1 rest
    rw [tW_uA (by omega) tXv_can] at this
    exact this
  · have := h2 v r1 hm rest
    rw [tW_uA (by omega) tMv_can] at this
    exact this
/-- an operation of n ints -/
abbrev OpI (l : Launch) (D : va_G) (cy : Nat → ClassId) (alX alM : Nat → Nat) (kX kM n : Nat) : Prop := ∀ (r : sE) (as : List Int32), Inv r → as.length = n → OpOk l D cy alX alM 200 r kX kM (as.map Value.int) Inv
