/-! 80: judge (by wip/whole/mk80.py) -/
/-- more variables, from 819290 on -/
def uM (r : sE) (l : List Int32) : sE := (fun v => if 819290 ≤ v then l.getD (v - 819290) 0 else r.1 v, r.2)
theorem uM_v {r : sE} {l : List Int32} (i : Nat) : (uM r l).1 (819290 + i) = l.getD i 0 := by
  unfold uM
  simp only [if_pos (show 819290 ≤ 819290 + i by omega), Nat.add_sub_cancel_left]
theorem uM_lo {r : sE} {l : List Int32} {v : Nat} (h : v < 819290) : (uM r l).1 v = r.1 v := by
  unfold uM
  simp only [if_neg (show ¬ 819290 ≤ v by omega)]
theorem tW_uM {r : sE} {l : List Int32} {al : Nat → Nat} {cy : Nat → ClassId} {rest : va_W} {b n : Nat} {t : Nat → sC} (hb : b + n ≤ 200) (hcan : ∀ i, i < n → (t i).1 ≤ 6 ∧ fitC (b + i) (t i) (t i) = true) : tW (uM r l) al cy rest n t = tW r al cy rest n t := tW_agree hb hcan (fun v hv => ⟨uM_lo (by omega), rfl⟩)
theorem kp_uM {r : sE} {l : List Int32} {b n : Nat} {tv : Nat → sC} (hb : b + n ≤ 200) : kp b n tv r (uM r l) := ⟨fun u hu _ => uM_lo (by have := (isV_ok hu).2.1; omega), fun _ _ _ => rfl, fun u _ h2 => ⟨uM_lo (by omega), rfl⟩⟩
/-- what judge says: of the row f, from i on, o being the product so far -/
noncomputable def jdg (n : Nat) (f : Nat → Int32) : Nat → Nat → List Nat → Int32
  | 0, _, _ => Int32.ofNat 4294967294
  | m + 1, i, o => if f i < Int32.ofNat 1 then Int32.ofNat i else if ¬ f i < Int32.ofNat n then Int32.ofNat i else if nthO o (f i).toInt.toNat < nthO o ((f i).toInt.toNat - 1) then Int32.ofNat i else jdg n f m (i + 1) (mulO o (nbO (f i).toInt.toNat))
theorem jd_len : lAll (fun o => allL 4 (fun k => Bool.rec (motive := fun _ => Bool) (Nat.ble (Nat.succ (lenO o)) (lenO (mulO o (nbO (Nat.succ k))))) (Nat.ble (lenO (mulO o (nbO (Nat.succ k)))) (lenO o)) (Nat.ble (Nat.succ (nthO o (Nat.succ k))) (nthO o k)))) ORDS = true := by decide +kernel
theorem jd_in {o : List Nat} {k : Nat} (ho : o ∈ ORDS) (h1 : 1 ≤ k) (h4 : k ≤ 4) : mulO o (nbO k) ∈ ORDS := by
  have := mulO_in (n := 5) (by omega) (by omega) (by rw [ordN5]; exact ho) (by rw [ordN5]; exact nb_in k h1 h4)
  rwa [ordN5] at this
theorem len_lt {o o2 : List Nat} (h1 : o ∈ ORDS) (h2 : o2 ∈ ORDS) : Int32.ofNat (lenO o) < Int32.ofNat (lenO o2) ↔ lenO o < lenO o2 := by
  have a1 : lenO o ≤ 10 := Nat.le_of_ble_eq_true (lAll_ok lenO_tab o h1)
  have a2 : lenO o2 ≤ 10 := Nat.le_of_ble_eq_true (lAll_ok lenO_tab o2 h2)
  rw [Int32.lt_iff_toInt_lt]
  simp only [Int32.toInt_ofNat', Int.bmod_def, show ((Int32.size : Nat) : Int) = 4294967296 from rfl]
  omega
/-- a number told between 1 and n -/
theorem jd_num {n : Nat} {x : Int32} (hn5 : n ≤ 5) (h1 : ¬ x < Int32.ofNat 1) (h2 : x < Int32.ofNat n) : (1 ≤ x.toInt.toNat ∧ x.toInt.toNat < n) ∧ x = Int32.ofNat x.toInt.toNat := by
  rw [Int32.lt_iff_toInt_lt] at h1 h2
  simp only [Int32.toInt_ofNat', Int.bmod_def, show ((Int32.size : Nat) : Int) = 4294967296 from rfl] at h1 h2
  refine ⟨⟨by omega, by omega⟩, ?_⟩
  rw [← Int32.toInt_inj]
  simp only [Int32.toInt_ofNat', Int.bmod_def, show ((Int32.size : Nat) : Int) = 4294967296 from rfl]
  omega
-- the class
noncomputable def LJ (s i : Nat) : sL := some (.inr (.inr (some (nat_lit 0)))) :: some (.inl (.natCast s)) :: some (.inl (.natCast (nat_lit 0))) :: some (.inl (.var (nat_lit 819290))) :: some (.inl (.natCast i)) :: Nat.rec (motive := fun _ => sL) [none, none] (fun _ _ => [some (.inl (.var (nat_lit 819291))), some (.inl (.var (nat_lit 819292)))]) i
noncomputable def LJk (s i : Nat) : sL := [some (.inr (.inr (some (nat_lit 0)))), some (.inl (.natCast s)), some (.inl (.natCast (nat_lit 0))), some (.inl (.var (nat_lit 819290))), some (.inl (.natCast i)), some (.inl (.var (xpN s i))), Nat.rec (motive := fun _ => Option sV) none (fun _ _ => some (.inl (.var (nat_lit 819292)))) i]
noncomputable def LJ2 (s i : Nat) : sL := [some (.inr (.inr (some (nat_lit 0)))), some (.inl (.natCast s)), some (.inl (.natCast (nat_lit 0))), some (.inl (.var (nat_lit 819290))), some (.inl (.natCast i)), some (.inl (.var (xpN s i))), some (.inl (.var (nat_lit 819294)))]
noncomputable def LJ3 (s i : Nat) : sL := [some (.inr (.inr (some (nat_lit 0)))), some (.inl (.natCast s)), some (.inl (.natCast (nat_lit 0))), some (.inl (.var (nat_lit 819294))), some (.inl (.natCast (Nat.succ i))), some (.inl (.var (xpN s i))), some (.inl (.var (nat_lit 819294)))]
noncomputable def LJ0 (s : Nat) : sL := [some (.inr (.inr (some (nat_lit 0)))), some (.inl (.natCast s)), some (.inl (.natCast (nat_lit 0))), some (.inl (.natCast (nat_lit 344865))), some (.inl (.natCast (nat_lit 0))), none, none]
noncomputable def iz (s i : Nat) : sK := (false, true, .natCast i, .var (xpZ s))
noncomputable def jRd (s i pc1 : Nat) (pa : List sK) (L0 : sL) (pc0 : Nat) (ks : Nat → sL → List sV → Bool) (kr : Option sV → Bool) (st0 : List sV) (ovs : List sOv) : Bool := sBeg (nat_lit 0) (nat_lit 68) tXv (KXs s) ovs (fun m0 => sx PG (nat_lit 1000) (nat_lit 9) (PG (nat_lit 116)) (fun pc => Nat.beq pc pc1) (fun pc L st _ m => Bool.and (eqL eqC m m0) (ks pc L st)) (fun v _ m => Bool.and (eqL eqC m m0) (kr v)) pc0 L0 st0 pa m0)
theorem q_jEn : allL 4 (fun s => sEnt [.inr (.inr (some (nat_lit 0))), .inl (.natCast s)] (PG (nat_lit 116)).2.1 (fun L => eqL eqO L [some (.inr (.inr (some (nat_lit 0)))), some (.inl (.natCast s)), none, none, none, none, none])) = true := by decide +kernel
theorem q_jP : allL 4 (fun s => jRd s (nat_lit 0) (nat_lit 20) [] [some (.inr (.inr (some (nat_lit 0)))), some (.inl (.natCast s)), none, none, none, none, none] (nat_lit 0) (fun pc L st => kAt (nat_lit 20) (LJ0 s) [] pc L st) (fun _ => false) [] [(Nat.add (nat_lit 36) (Nat.mul (nat_lit 2) s), nat_lit 0, .natCast (nat_lit 2))]) = true := by decide +kernel
theorem q_jE : allL 4 (fun s => allL 21 (fun i => jRd s i (nat_lit 63) [(false, false, .natCast i, .var (xpZ s))] (LJ s i) (nat_lit 20) (fun _ _ _ => false) (fun v => eqO v (some (.inl (.natCast (nat_lit 4294967294))))) [] [])) = true := by decide +kernel
theorem q_jA : allL 4 (fun s => allL 20 (fun i => jRd s i (nat_lit 63) [(false, true, .var (xpN s i), .natCast (nat_lit 1)), iz s i] (LJ s i) (nat_lit 20) (fun _ _ _ => false) (fun v => eqO v (some (.inl (.natCast i)))) [] [])) = true := by decide +kernel
theorem q_jB : allL 4 (fun s => allL 20 (fun i => jRd s i (nat_lit 63) [(false, false, .var (xpN s i), .var (nat_lit 4097)), (false, false, .var (xpN s i), .natCast (nat_lit 1)), iz s i] (LJ s i) (nat_lit 20) (fun _ _ _ => false) (fun v => eqO v (some (.inl (.natCast i)))) [] [])) = true := by decide +kernel
theorem q_jC : allL 4 (fun s => allL 20 (fun i => jRd s i (nat_lit 63) [(false, true, .var (xpN s i), .var (nat_lit 4097)), (false, false, .var (xpN s i), .natCast (nat_lit 1)), iz s i] (LJ s i) (nat_lit 20) (fun pc L st => kAt (nat_lit 63) (LJk s i) [.inl (.var (xpN s i)), .inl (.var (nat_lit 819290))] pc L st) (fun _ => false) [] [])) = true := by decide +kernel
noncomputable def jPu (s i pc1 pc0 : Nat) (pa : List sK) (L0 : sL) (st0 : List sV) (ks : Nat → sL → List sV → Bool) (kr : Option sV → Bool) : Bool := sx PG (nat_lit 1000) (nat_lit 9) (PG (nat_lit 116)) (fun pc => Nat.beq pc pc1) (fun pc L st _ m => Bool.and (eqL eqC m []) (ks pc L st)) (fun v _ m => Bool.and (eqL eqC m []) (kr v)) pc0 L0 st0 pa []
theorem q_j69 : allL 4 (fun s => allL 20 (fun i => jPu s i (nat_lit 73) (nat_lit 69) [] (LJk s i) [.inl (.var (nat_lit 819294))] (fun pc L st => kAt (nat_lit 73) (LJ2 s i) [.inl (.var (nat_lit 819294))] pc L st) (fun _ => false))) = true := by decide +kernel
theorem q_j76 : allL 4 (fun s => allL 20 (fun i => jPu s i (nat_lit 77) (nat_lit 76) [] (LJ2 s i) [.inl (.var (nat_lit 819295))] (fun pc L st => kAt (nat_lit 77) (LJ2 s i) [.inl (.var (nat_lit 819290)), .inl (.var (nat_lit 819295))] pc L st) (fun _ => false))) = true := by decide +kernel
theorem q_j80a : allL 4 (fun s => allL 20 (fun i => jPu s i (nat_lit 20) (nat_lit 80) [(false, true, .var (nat_lit 819296), .var (nat_lit 819295))] (LJ2 s i) [.inl (.var (nat_lit 819296)), .inl (.var (nat_lit 819295))] (fun pc L st => kAt (nat_lit 20) (LJ3 s i) [] pc L st) (fun _ => false))) = true := by decide +kernel
theorem q_j80b : allL 4 (fun s => allL 20 (fun i => jPu s i (nat_lit 20) (nat_lit 80) [(false, false, .var (nat_lit 819296), .var (nat_lit 819295))] (LJ2 s i) [.inl (.var (nat_lit 819296)), .inl (.var (nat_lit 819295))] (fun _ _ _ => false) (fun v => eqO v (some (.inl (.natCast i)))))) = true := by decide +kernel
def idO : List Nat := [1, 2, 3, 4, 5]
theorem c_judX (l : Launch) {D : va_G} {cy : Nat → ClassId} {al : Nat → Nat} {rest : va_W} {r : sE} {n s z : Nat} (hn5 : n ≤ 5) (hs : s < 4) (hz : z ≤ 20) (hnr : r.1 (xP 1 1) = Int32.ofNat n) (hsr : r.1 (xP (36 + 2 * s) 0) = Int32.ofNat 2) (hzr : r.1 (xpZ s) = Int32.ofNat z) : gMet l D cy al 200 116 (tW r al cy rest 68 tXv) [.ref (al 0), .int (Int32.ofNat s)] (fun v w2 => v = some (.int (jdg n (fun j => r.1 (xpN s j)) z 0 idO)) ∧ w2 = tW r al cy rest 68 tXv) := by
  refine gMet_up (d := 9) (by omega) ?_
  have key := gMet_of (l := l) (D := D) (cy := cy) (al := al) (d := 9) (k := 116) (w := tW r al cy rest 68 tXv) (r := r) (G := fun v w2 => v = some (.int (jdg n (fun j => r.1 (xpN s j)) z 0 idO)) ∧ w2 = tW r al cy rest 68 tXv) (allL_ok q_jEn s hs) (fun At hFC => ?_)
  · have ea : List.map (sVal r al) [.inr (.inr (some (nat_lit 0))), .inl (.natCast s)] = [.ref (al 0), .int (Int32.ofNat s)] := by
      simp only [List.map_cons, List.map_nil, sVal, sI_c]
    rw [ea] at key
    exact key
  generalize hV : jdg n (fun j => r.1 (xpN s j)) z 0 idO = V at hFC
  have iLt : ∀ i, i ≤ 20 → (Int32.ofNat i < Int32.ofNat z ↔ i < z) := fun i hi => by
    rw [Int32.lt_iff_toInt_lt]
    simp only [Int32.toInt_ofNat', Int.bmod_def, show ((Int32.size : Nat) : Int) = 4294967296 from rfl]
    omega
  have xlo : ∀ i, i ≤ 20 → xpN s i < 819290 ∧ xpZ s < 819290 := fun i hi => by rw [xpN_eq, xpZ_eq]; unfold xP; omega
  have head : ∀ (m i : Nat) (o : List Nat) (kold longold : Int32), i + m = z → o ∈ ORDS → jdg n (fun j => r.1 (xpN s j)) m i o = V → At 20 ((LJ s i).map (Option.map (sVal (uM r [Int32.ofNat (ocode o), kold, longold]) al))) [] (tW r al cy rest 68 tXv) := by
    intro m
    induction m with
    | zero =>
      intro i o kold longold him ho hj
      have hw := tW_uM (r := r) (l := [Int32.ofNat (ocode o), kold, longold]) (al := al) (cy := cy) (rest := rest) (b := 0) (n := 68) (t := tXv) (by omega) tXv_can
      have hp : sPa (uM r [Int32.ofNat (ocode o), kold, longold]) [(false, false, .natCast i, .var (xpZ s))] := sPa_cons.mpr ⟨by
        show ¬ sI _ (.natCast i) < sI _ (.var (xpZ s))
        rw [sI_c, sI_v, uM_lo (xlo 0 (by omega)).2, hzr, iLt i (by omega)]
        omega, sPa_nil⟩
      have g := g_segS hFC (r := uM r [Int32.ofNat (ocode o), kold, longold]) (al := al) (cy := cy) (rest := rest) tXv_ok (cC_X _) hp oX_nil (allL_ok (allL_ok q_jE s hs) i (by omega)) (fun pc L st pa hk => nomatch hk) (fun v pa hk hp => ?_)
      · rw [hw] at g
        exact g
      rw [hw]
      refine ⟨?_, rfl⟩
      rw [retI hk, ← hj]
      rfl
    | succ m ih =>
      intro i o kold longold him ho hj
      have hi : i < 20 := by omega
      -- everything that comes in this turn
      generalize hx : r.1 (xpN s i) = x
      have hj2 : (if x < Int32.ofNat 1 then Int32.ofNat i else if ¬ x < Int32.ofNat n then Int32.ofNat i else if nthO o x.toInt.toNat < nthO o (x.toInt.toNat - 1) then Int32.ofNat i else jdg n (fun j => r.1 (xpN s j)) m (i + 1) (mulO o (nbO x.toInt.toNat))) = V := by
        rw [← hj, ← hx]
        rfl
      have hw0 : ∀ l, tW (uM r l) al cy rest 68 tXv = tW r al cy rest 68 tXv := fun l => tW_uM (by omega) tXv_can
      have izK : ∀ l, sKd (uM r l) (iz s i) := fun l => by
        show sI _ (.natCast i) < sI _ (.var (xpZ s))
        rw [sI_c, sI_v, uM_lo (xlo 0 (by omega)).2, hzr, iLt i (by omega)]
        omega
      have kv : ∀ l, sI (uM r l) (.var (xpN s i)) = x := fun l => by rw [sI_v, uM_lo (xlo i (by omega)).1, hx]
      have nv : ∀ l, sI (uM r l) (.var (nat_lit 4097)) = Int32.ofNat n := fun l => by rw [sI_v, uM_lo (by decide)]; exact hnr
      by_cases h1 : x < Int32.ofNat 1
      · rw [if_pos h1] at hj2
        have g := g_segS hFC (r := uM r [Int32.ofNat (ocode o), kold, longold]) (al := al) (cy := cy) (rest := rest) tXv_ok (cC_X _) (pa := [(false, true, .var (xpN s i), .natCast (nat_lit 1)), iz s i]) (sPa_cons.mpr ⟨by
          show sI _ (.var (xpN s i)) < sI _ (.natCast 1)
          rw [kv, sI_c]
          exact h1, sPa_cons.mpr ⟨izK _, sPa_nil⟩⟩) oX_nil (allL_ok (allL_ok q_jA s hs) i hi) (fun pc L st pa hk => nomatch hk) (fun v pa hk hp => ?_)
        · rw [hw0] at g
          exact g
        rw [hw0]
        exact ⟨by rw [retI hk, hj2], rfl⟩
      rw [if_neg h1] at hj2
      by_cases h2 : x < Int32.ofNat n
      case neg =>
        rw [if_pos h2] at hj2
        have g := g_segS hFC (r := uM r [Int32.ofNat (ocode o), kold, longold]) (al := al) (cy := cy) (rest := rest) tXv_ok (cC_X _) (pa := [(false, false, .var (xpN s i), .var (nat_lit 4097)), (false, false, .var (xpN s i), .natCast (nat_lit 1)), iz s i]) (sPa_cons.mpr ⟨by
          show ¬ sI _ (.var (xpN s i)) < sI _ (.var (nat_lit 4097))
          rw [kv, nv]
          exact h2, sPa_cons.mpr ⟨by
          show ¬ sI _ (.var (xpN s i)) < sI _ (.natCast 1)
          rw [kv, sI_c]
          exact h1, sPa_cons.mpr ⟨izK _, sPa_nil⟩⟩⟩) oX_nil (allL_ok (allL_ok q_jB s hs) i hi) (fun pc L st pa hk => nomatch hk) (fun v pa hk hp => ?_)
        · rw [hw0] at g
          exact g
        rw [hw0]
        exact ⟨by rw [retI hk, hj2], rfl⟩
      rw [if_neg (by simpa using h2)] at hj2
      obtain ⟨⟨k1, kn⟩, ek⟩ := jd_num hn5 h1 h2
      generalize hk : x.toInt.toNat = k at k1 kn ek hj2
      have ho2 : mulO o (nbO k) ∈ ORDS := jd_in ho k1 (by omega)
      generalize hO2 : mulO o (nbO k) = o2 at ho2 hj2
      -- the environment of this turn
      generalize hE : uM r [Int32.ofNat (ocode o), kold, longold, Int32.ofNat (ocode (nbO k)), Int32.ofNat (ocode o2), Int32.ofNat (lenO o2), Int32.ofNat (lenO o)] = rE
      have E0 : sI rE (.var (nat_lit 819290)) = Int32.ofNat (ocode o) := by rw [← hE, sI_v]; exact uM_v 0
      have E3 : sI rE (.var (nat_lit 819293)) = Int32.ofNat (ocode (nbO k)) := by rw [← hE, sI_v]; exact uM_v 3
      have E4 : sI rE (.var (nat_lit 819294)) = Int32.ofNat (ocode o2) := by rw [← hE, sI_v]; exact uM_v 4
      have E5 : sI rE (.var (nat_lit 819295)) = Int32.ofNat (lenO o2) := by rw [← hE, sI_v]; exact uM_v 5
      have E6 : sI rE (.var (nat_lit 819296)) = Int32.ofNat (lenO o) := by rw [← hE, sI_v]; exact uM_v 6
      have Ek : sI rE (.var (xpN s i)) = Int32.ofNat k := by rw [← hE, kv]; exact ek
      have hwE : tW rE al cy rest 68 tXv = tW r al cy rest 68 tXv := by rw [← hE]; exact hw0 _
      have eL : (LJ s i).map (Option.map (sVal (uM r [Int32.ofNat (ocode o), kold, longold]) al)) = (LJ s i).map (Option.map (sVal rE al)) := by
        rw [← hE]
        cases i with
        | zero =>
          show [some (Value.ref (al 0)), some (.int (sI _ (.natCast s))), some (.int (sI _ (.natCast 0))), some (.int (sI (uM r [Int32.ofNat (ocode o), kold, longold]) (.var (819290 + 0)))), some (.int (sI _ (.natCast 0))), none, none] = [some (Value.ref (al 0)), some (.int (sI _ (.natCast s))), some (.int (sI _ (.natCast 0))), some (.int (sI _ (.var (819290 + 0)))), some (.int (sI _ (.natCast 0))), none, none]
          rw [sI_v, sI_v, uM_v, uM_v]
          simp only [sI_c]
          rfl
        | succ i =>
          show [some (Value.ref (al 0)), some (.int (sI _ (.natCast s))), some (.int (sI _ (.natCast 0))), some (.int (sI (uM r [Int32.ofNat (ocode o), kold, longold]) (.var (819290 + 0)))), some (.int (sI _ (.natCast (i + 1)))), some (.int (sI (uM r [Int32.ofNat (ocode o), kold, longold]) (.var (819290 + 1)))), some (.int (sI (uM r [Int32.ofNat (ocode o), kold, longold]) (.var (819290 + 2))))] = [some (Value.ref (al 0)), some (.int (sI _ (.natCast s))), some (.int (sI _ (.natCast 0))), some (.int (sI _ (.var (819290 + 0)))), some (.int (sI _ (.natCast (i + 1)))), some (.int (sI _ (.var (819290 + 1)))), some (.int (sI _ (.var (819290 + 2))))]
          simp only [sI_c, sI_v, uM_v]
          rfl
      rw [eL]
      have g := g_segS hFC (r := rE) (al := al) (cy := cy) (rest := rest) tXv_ok (cC_X _) (pa := [(false, true, .var (xpN s i), .var (nat_lit 4097)), (false, false, .var (xpN s i), .natCast (nat_lit 1)), iz s i]) (by
        rw [← hE]
        exact sPa_cons.mpr ⟨by
          show sI _ (.var (xpN s i)) < sI _ (.var (nat_lit 4097))
          rw [kv, nv]
          exact h2, sPa_cons.mpr ⟨by
          show ¬ sI _ (.var (xpN s i)) < sI _ (.natCast 1)
          rw [kv, sI_c]
          exact h1, sPa_cons.mpr ⟨izK _, sPa_nil⟩⟩⟩) oX_nil (allL_ok (allL_ok q_jC s hs) i hi) (fun pc L st pa hk hp => ?_) (fun v pa hk => nomatch hk)
      · rw [hwE] at g
        exact g
      obtain ⟨rfl, rfl, rfl⟩ := kAt_ok hk
      rw [hwE]
      refine g_callS (r := rE) (as := [.inl (.var (xpN s i))]) (st := [.inl (.var (nat_lit 819290))]) (v0 := some (.inl (.var (nat_lit 819293)))) hFC (nx := 66) (mi := 10) ⟨_, _, rfl, rfl⟩ rfl rfl (Or.inl rfl) ?_ ?_
      · rw [show List.map (sVal rE al) [.inl (.var (xpN s i))] = [.int (Int32.ofNat k)] by simp only [List.map_cons, List.map_nil, sVal, Ek]]
        exact (c_neigh l (by omega) k1 (by omega)).mono (fun v w2 h => ⟨by rw [h.1]; show _ = some (Value.int (sI rE (.var (nat_lit 819293)))); rw [E3], h.2⟩)
      refine g_callS (r := rE) (as := [.inl (.var (nat_lit 819290)), .inl (.var (nat_lit 819293))]) (st := []) (v0 := some (.inl (.var (nat_lit 819294)))) hFC (nx := 69) (mi := 8) ⟨_, _, rfl, rfl⟩ rfl rfl (Or.inl rfl) ?_ ?_
      · rw [show List.map (sVal rE al) [.inl (.var (nat_lit 819290)), .inl (.var (nat_lit 819293))] = [.int (Int32.ofNat (ocode o)), .int (Int32.ofNat (ocode (nbO k)))] by simp only [List.map_cons, List.map_nil, sVal, E0, E3]]
        exact (c_prod l (by omega) ho (nb_in k k1 (by omega)) (by rw [hO2]; exact ho2)).mono (fun v w2 h => ⟨by rw [h.1, hO2]; show _ = some (Value.int (sI rE (.var (nat_lit 819294)))); rw [E4], h.2⟩)
      refine g_pure hFC (r := rE) sPa_nil (allL_ok (allL_ok q_j69 s hs) i hi) (fun pc L st hk => ?_) (fun v hk => nomatch hk)
      obtain ⟨rfl, rfl, rfl⟩ := kAt_ok hk
      refine g_callS (r := rE) (as := [.inl (.var (nat_lit 819294))]) (st := []) (v0 := some (.inl (.var (nat_lit 819295)))) hFC (nx := 76) (mi := 11) ⟨_, _, rfl, rfl⟩ rfl rfl (Or.inl rfl) ?_ ?_
      · rw [show List.map (sVal rE al) [.inl (.var (nat_lit 819294))] = [.int (Int32.ofNat (ocode o2))] by simp only [List.map_cons, List.map_nil, sVal, E4]]
        exact (c_len l (by omega) ho2).mono (fun v w2 h => ⟨by rw [h.1]; show _ = some (Value.int (sI rE (.var (nat_lit 819295)))); rw [E5], h.2⟩)
      refine g_pure hFC (r := rE) sPa_nil (allL_ok (allL_ok q_j76 s hs) i hi) (fun pc L st hk => ?_) (fun v hk => nomatch hk)
      obtain ⟨rfl, rfl, rfl⟩ := kAt_ok hk
      refine g_callS (r := rE) (as := [.inl (.var (nat_lit 819290))]) (st := [.inl (.var (nat_lit 819295))]) (v0 := some (.inl (.var (nat_lit 819296)))) hFC (nx := 80) (mi := 11) ⟨_, _, rfl, rfl⟩ rfl rfl (Or.inl rfl) ?_ ?_
      · rw [show List.map (sVal rE al) [.inl (.var (nat_lit 819290))] = [.int (Int32.ofNat (ocode o))] by simp only [List.map_cons, List.map_nil, sVal, E0]]
        exact (c_len l (by omega) ho).mono (fun v w2 h => ⟨by rw [h.1]; show _ = some (Value.int (sI rE (.var (nat_lit 819296)))); rw [E6], h.2⟩)
      have hlt := len_lt ho ho2
      have htab := allL_ok (lAll_ok jd_len o ho) (k - 1) (by omega)
      rw [show Nat.succ (k - 1) = k by omega, hO2] at htab
      by_cases hc : nthO o k < nthO o (k - 1)
      · rw [if_pos hc] at hj2
        rw [show Nat.ble (Nat.succ (nthO o k)) (nthO o (k - 1)) = true from Nat.ble_eq_true_of_le hc] at htab
        have hle : lenO o2 ≤ lenO o := Nat.le_of_ble_eq_true htab
        refine g_pure hFC (r := rE) (pa := [(false, false, .var (nat_lit 819296), .var (nat_lit 819295))]) (sPa_cons.mpr ⟨?_, sPa_nil⟩) (allL_ok (allL_ok q_j80b s hs) i hi) (fun pc L st hk => nomatch hk) (fun v hk => ⟨by rw [retI hk, hj2], rfl⟩)
        show ¬ sI rE (.var (nat_lit 819296)) < sI rE (.var (nat_lit 819295))
        rw [E5, E6, hlt]
        omega
      · rw [if_neg hc] at hj2
        have hb : Nat.ble (Nat.succ (nthO o k)) (nthO o (k - 1)) = false := by
          cases hb : Nat.ble (Nat.succ (nthO o k)) (nthO o (k - 1)) with
          | false => rfl
          | true => exact absurd (Nat.le_of_ble_eq_true hb) hc
        rw [hb] at htab
        have hle : lenO o + 1 ≤ lenO o2 := Nat.le_of_ble_eq_true htab
        refine g_pure hFC (r := rE) (pa := [(false, true, .var (nat_lit 819296), .var (nat_lit 819295))]) (sPa_cons.mpr ⟨?_, sPa_nil⟩) (allL_ok (allL_ok q_j80a s hs) i hi) (fun pc L st hk => ?_) (fun v hk => nomatch hk)
        · show sI rE (.var (nat_lit 819296)) < sI rE (.var (nat_lit 819295))
          rw [E5, E6, hlt]
          omega
        obtain ⟨rfl, rfl, rfl⟩ := kAt_ok hk
        have e3 : (LJ3 s i).map (Option.map (sVal rE al)) = (LJ s (i + 1)).map (Option.map (sVal (uM r [Int32.ofNat (ocode o2), Int32.ofNat k, Int32.ofNat (ocode o2)]) al)) := by
          show [some (Value.ref (al 0)), some (.int (sI rE (.natCast s))), some (.int (sI rE (.natCast 0))), some (.int (sI rE (.var (nat_lit 819294)))), some (.int (sI rE (.natCast (i + 1)))), some (.int (sI rE (.var (xpN s i)))), some (.int (sI rE (.var (nat_lit 819294))))] = [some (Value.ref (al 0)), some (.int (sI _ (.natCast s))), some (.int (sI _ (.natCast 0))), some (.int (sI _ (.var (819290 + 0)))), some (.int (sI _ (.natCast (i + 1)))), some (.int (sI _ (.var (819290 + 1)))), some (.int (sI _ (.var (819290 + 2))))]
          simp only [sI_c, E4, Ek]
          rw [sI_v, sI_v, sI_v, uM_v, uM_v, uM_v]
          rfl
        rw [e3]
        exact ih (i + 1) o2 _ _ (by omega) ho2 hj2
  have g := g_segS hFC (r := r) (al := al) (cy := cy) (rest := rest) tXv_ok (cC_X _) sPa_nil (oX_cons (by rw [sI_c]; exact hsr) oX_nil) (allL_ok q_jP s hs) (fun pc L st pa hk hp => ?_) (fun v pa hk => nomatch hk)
  · exact g
  obtain ⟨rfl, rfl, rfl⟩ := kAt_ok hk
  have e0 : (LJ0 s).map (Option.map (sVal r al)) = (LJ s 0).map (Option.map (sVal (uM r [Int32.ofNat (ocode idO), 0, 0]) al)) := by
    show [some (Value.ref (al 0)), some (.int (sI r (.natCast s))), some (.int (sI r (.natCast 0))), some (.int (sI r (.natCast 344865))), some (.int (sI r (.natCast 0))), none, none] = [some (Value.ref (al 0)), some (.int (sI _ (.natCast s))), some (.int (sI _ (.natCast 0))), some (.int (sI _ (.var (819290 + 0)))), some (.int (sI _ (.natCast 0))), none, none]
    simp only [sI_c]
    rw [sI_v, uM_v]
    rfl
  rw [e0]
  exact head z 0 idO 0 0 (by omega) (by decide +kernel) hV
