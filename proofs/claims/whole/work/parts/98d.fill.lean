/-! 98d: fillings, the class (by wip/whole/mk98d.py) -/
noncomputable def seE (p m : Nat) : sX := Nat.rec (motive := fun _ => sX) (.natCast (nat_lit 0)) (fun m ih => .pow (.mul ih (.pow (.mul (.natCast (nat_lit 1)) (.var (Nat.add p m))) (nat_lit 6))) (nat_lit 4)) m
noncomputable def mkN (l : List Nat) (m : Nat) : Nat := Nat.rec (motive := fun _ => Nat) (nat_lit 0) (fun m ih => fOr ih (fShl (nat_lit 1) (nthO l m))) m
noncomputable def popN (k : Nat) : Nat := Nat.add (Nat.mod k (nat_lit 2)) (Nat.add (Nat.mod (Nat.div k (nat_lit 2)) (nat_lit 2)) (Nat.add (Nat.mod (Nat.div k (nat_lit 4)) (nat_lit 2)) (Nat.add (Nat.mod (Nat.div k (nat_lit 8)) (nat_lit 2)) (Nat.add (Nat.mod (Nat.div k (nat_lit 16)) (nat_lit 2)) (Nat.mod (Nat.div k (nat_lit 32)) (nat_lit 2))))))
theorem seE_ok {r : sE} {p : Nat} {l : List Nat} : ∀ m, (∀ k, k < m → r.1 (p + k) = Int32.ofNat (nthO l k)) → sI r (seE p m) = Int32.ofNat (mkN l m)
  | 0, _ => by
    show sI r (.natCast (nat_lit 0)) = _
    rw [sI_c]
    rfl
  | m + 1, h => by
    have ih := seE_ok m (fun k hk => h k (by omega))
    show (sD r (.pow (.mul (seE p m) (.pow (.mul (.natCast 1) (.var (p + m))) 6)) 4)).1 = Int32.ofNat (fOr (mkN l m) (fShl 1 (nthO l m)))
    rw [sD_b, sD_b, fOr_ok, fShl_ok, ← ih, ← h m (by omega), sD_c, sD_v]
    rfl
noncomputable def bcR (k : Nat) : Bool := sBeg (nat_lit 0) (nat_lit 68) tXv (fun _ => false) [] (fun m0 => sRun (nat_lit 200) (nat_lit 5) (nat_lit 230) [] m0 [.inl (.natCast k)] (fun v pa m => Bool.and (sK0 (nat_lit 0) (nat_lit 68) tXv (fun _ => false) m0 m) (eqO v (some (.inl (.natCast (popN k)))))))
theorem q_bc : allL 64 bcR = true := by decide +kernel
noncomputable def inR (pa : List sK) (n : Nat) (x : sX) : Bool := Bool.and (sAsk false x (.natCast (nat_lit 1)) false true false pa) (sAsk false (.natCast n) x false true false pa)
noncomputable def ouR (pa : List sK) (n : Nat) (x : sX) : Bool := Bool.or (sAsk false x (.natCast (nat_lit 1)) true false false pa) (sAsk false (.natCast n) x true false false pa)
noncomputable def LFi (s : Nat) (x y : Option sV) : sL := [some (.inr (.inr (some (nat_lit 1)))), some (.inr (.inr (some (Nat.add (nat_lit 37) (Nat.mul (nat_lit 2) s))))), x, y]
noncomputable def fx0 (c s : Nat) : Bool := sBeg (nat_lit 0) (nat_lit 68) (tX c) (memB [(nat_lit 1), Nat.add (nat_lit 37) (Nat.mul (nat_lit 2) s)]) [] (fun m0 => sx PG (nat_lit 1000) (nat_lit 10) (PG (nat_lit 61)) (fun pc => Nat.beq pc (nat_lit 46)) (fun pc L st pa m => Bool.and (eqL eqC m m0) (Bool.and (kAt (nat_lit 46) (LFi s (some (.inl (seE (Nat.mul (nat_lit 4096) (Nat.add (nat_lit 37) (Nat.mul (nat_lit 2) s))) (nOf c)))) (some (.inl (.natCast (nOf c))))) [.inl (seE (Nat.mul (nat_lit 4096) (Nat.add (nat_lit 37) (Nat.mul (nat_lit 2) s))) (nOf c))] pc L st) (allL (nOf c) (fun j => inR pa (nOf c) (fX (Nat.mul (nat_lit 4096) (Nat.add (nat_lit 37) (Nat.mul (nat_lit 2) s))) j))))) (fun v pa m => Bool.and (eqL eqC m m0) (Bool.and (eqO v (some (.inl (.natCast (nat_lit 0))))) (anyN (nOf c) (fun j => ouR pa (nOf c) (fX (Nat.mul (nat_lit 4096) (Nat.add (nat_lit 37) (Nat.mul (nat_lit 2) s))) j))))) (nat_lit 0) (LFi s none none) [] [] m0)
theorem q_fx0 : allL 18 (fun c => allL 4 (fun s => fx0 c s)) = true := by decide +kernel
theorem q_fxE : allL 4 (fun s => sEnt [.inr (.inr (some (nat_lit 1))), .inr (.inr (some (Nat.add (nat_lit 37) (Nat.mul (nat_lit 2) s))))] (PG (nat_lit 61)).2.1 (fun L => eqL eqO L (LFi s none none))) = true := by decide +kernel
noncomputable def fx1 (c s k : Nat) : Bool := sBeg (nat_lit 0) (nat_lit 68) (tX c) (memB [(nat_lit 1), Nat.add (nat_lit 37) (Nat.mul (nat_lit 2) s)]) [] (fun m0 => sx PG (nat_lit 100) (nat_lit 10) (PG (nat_lit 61)) (fun _ => false) (fun _ _ _ _ m => Bool.and (eqL eqC m m0) false) (fun v pa m => Bool.and (eqL eqC m m0) (eqO v (some (.inl (.natCast (Bool.rec (motive := fun _ => Nat) (nat_lit 0) (nat_lit 1) (Nat.beq k (nOf c)))))))) (nat_lit 49) (LFi s (some (.inl (.var (nat_lit 819290)))) (some (.inl (.natCast (nOf c))))) [.inl (.natCast k)] [] m0)
theorem q_fx1 : allL 18 (fun c => allL 4 (fun s => allL 7 (fun k => fx1 c s k))) = true := by decide +kernel
theorem q_msk : allL 5 (fun m => allT (Nat.succ m) (Nat.succ m) (fun l => Bool.and (Bool.and (Nat.ble (mkN l (Nat.succ m)) (nat_lit 63)) (Nat.ble (popN (mkN l (Nat.succ m))) (nat_lit 6))) (Bool.or (Bool.not (Nat.beq (popN (mkN l (Nat.succ m))) (Nat.succ m))) (Bool.and (isP (Nat.succ m) (appL l (restO (Nat.succ m)))) (allL (Nat.succ m) (fun k => Nat.beq (nthO (appL l (restO (Nat.succ m))) k) (nthO l k))))))) = true := by decide +kernel
theorem q_mskP : allL 5 (fun m => lAll (fun t => Nat.beq (popN (mkN t (Nat.succ m))) (Nat.succ m)) (ordN (Nat.succ m))) = true := by decide +kernel
theorem mkN_congr {l t : List Nat} : ∀ m, (∀ k, k < m → nthO l k = nthO t k) → mkN l m = mkN t m
  | 0, _ => rfl
  | m + 1, h => by
    have ih := mkN_congr m (fun k hk => h k (by omega))
    show fOr (mkN l m) (fShl 1 (nthO l m)) = fOr (mkN t m) (fShl 1 (nthO t m))
    rw [ih, h m (by omega)]
theorem inR_ok {r : sE} {pa : List sK} {n : Nat} {x : sX} (hn5 : n ≤ 5) (hp : sPa r pa) (h : inR pa n x = true) : 1 ≤ (sI r x).toInt ∧ (sI r x).toInt ≤ n := by
  unfold inR at h
  rw [Bool.and_eq_true] at h
  have h1 := sAsk_no hp h.1
  have h2 := sAsk_no hp h.2
  rw [sI_c, Int32.lt_iff_toInt_lt] at h1 h2
  have e1 : (Int32.ofNat (nat_lit 1)).toInt = 1 := by decide
  have e2 : (Int32.ofNat n).toInt = n := by
    rw [show Int32.ofNat n = Int32.ofInt (n : Int) from rfl]
    exact of_toI (by omega)
  rw [e1] at h1
  rw [e2] at h2
  omega
theorem ouR_ok {r : sE} {pa : List sK} {n : Nat} {x : sX} (hn5 : n ≤ 5) (hp : sPa r pa) (h : ouR pa n x = true) : (sI r x).toInt < 1 ∨ (n : Int) < (sI r x).toInt := by
  unfold ouR at h
  rw [Bool.or_eq_true] at h
  have e1 : (Int32.ofNat (nat_lit 1)).toInt = 1 := by decide
  have e2 : (Int32.ofNat n).toInt = n := by
    rw [show Int32.ofNat n = Int32.ofInt (n : Int) from rfl]
    exact of_toI (by omega)
  rcases h with h | h
  · have h1 := sAsk_ye hp h
    rw [sI_c, Int32.lt_iff_toInt_lt, e1] at h1
    exact Or.inl h1
  · have h1 := sAsk_ye hp h
    rw [sI_c, Int32.lt_iff_toInt_lt, e2] at h1
    exact Or.inr h1
section FXC
variable {D : va_G} {cy : Nat → ClassId} {al : Nat → Nat} {rest : va_W}
/-- the class' isFilling -/
theorem c_fiX (l : Launch) {c d s : Nat} {r : sE} (hd : 10 ≤ d) (hc : c < 18) (hs : s < 4) (hcc : cC 0 68 (tX c) r) : gMet l D cy al d 61 (tW r al cy rest 68 tXv) [.ref (al 1), .ref (al (37 + 2 * s))] (fun v w => ∃ r1, kp 0 68 tXv r r1 ∧ w = tW r1 al cy rest 68 tXv ∧ ((v = some (.int (Int32.ofNat 1)) ∧ ∃ t, isFi (nOf c) (xP (37 + 2 * s) 0) r t) ∨ (v = some (.int (Int32.ofNat 0)) ∧ ∀ t, ¬ isFi (nOf c) (xP (37 + 2 * s) 0) r t))) := by
  refine gMet_up hd ?_
  obtain ⟨⟨d1, d6⟩, n1, n5⟩ := cd_tab c hc
  obtain ⟨m, hm⟩ : ∃ m, nOf c = m + 1 := ⟨nOf c - 1, by omega⟩
  have hw : ∀ (x : sE) l, tW (uM x l) al cy rest 68 tXv = tW x al cy rest 68 tXv := fun x l => tW_uM (by omega) tXv_can
  refine gMet_of (l := l) (D := D) (cy := cy) (al := al) (d := 10) (k := 61) (w := tW r al cy rest 68 tXv) (r := r) (as := [.inr (.inr (some (nat_lit 1))), .inr (.inr (some (Nat.add (nat_lit 37) (Nat.mul (nat_lit 2) s))))]) (allL_ok q_fxE s hs) (fun At hFC => ?_)
  have eP : ∀ k, xP (37 + 2 * s) 0 + k = 4096 * (37 + 2 * s) + k := fun k => by unfold xP; omega
  have perm : ∀ t, isFi (nOf c) (xP (37 + 2 * s) 0) r t → ∀ k, k < nOf c → (sI r (fX (Nat.mul (nat_lit 4096) (Nat.add (nat_lit 37) (Nat.mul (nat_lit 2) s))) k)).toInt = nthO t k ∧ 1 ≤ nthO t k ∧ nthO t k ≤ nOf c := fun t ht k hk => by
    have hc2 := lAll_ok (allL_ok q_perm m (by omega)) t (by rw [show Nat.succ m = nOf c by omega]; exact ht.1)
    unfold permC at hc2
    rw [Bool.and_eq_true, Bool.and_eq_true] at hc2
    have h7 := allL_ok hc2.2.2 k (by omega)
    rw [Bool.and_eq_true] at h7
    have h8 : nthO t k ≤ Nat.succ m := Nat.le_of_ble_eq_true h7.2
    have h9 : 1 ≤ nthO t k := Nat.le_of_ble_eq_true h7.1
    have h6 : sI r (fX (Nat.mul (nat_lit 4096) (Nat.add (nat_lit 37) (Nat.mul (nat_lit 2) s))) k) = Int32.ofNat (nthO t k) := (sI_v (r := r) (i := 4096 * (37 + 2 * s) + k)).trans (by rw [← eP]; exact ht.2 k hk)
    refine ⟨?_, h9, by omega⟩
    rw [h6, show Int32.ofNat (nthO t k) = Int32.ofInt (nthO t k : Int) from rfl]
    exact of_toI (by omega)
  refine g_segS hFC (r := r) (al := al) (cy := cy) (rest := rest) (tX_ok hc) hcc sPa_nil oX_nil (allL_ok (allL_ok q_fx0 c hc) s hs) (fun pc L st pa hk hp => ?_) (fun v pa hk hp => ?_)
  · rw [Bool.and_eq_true] at hk
    obtain ⟨rfl, rfl, rfl⟩ := kAt_ok hk.1
    have hr : ∀ j, j < nOf c → 1 ≤ (sI r (fX (Nat.mul (nat_lit 4096) (Nat.add (nat_lit 37) (Nat.mul (nat_lit 2) s))) j)).toInt ∧ (sI r (fX (Nat.mul (nat_lit 4096) (Nat.add (nat_lit 37) (Nat.mul (nat_lit 2) s))) j)).toInt ≤ nOf c := fun j hj => inR_ok n5 hp (allL_ok hk.2 j hj)
    obtain ⟨q, hl, hq⟩ : ∃ q : List Nat, q.length = nOf c ∧ ∀ j, j < nOf c → nthO q j = (sI r (fX (Nat.mul (nat_lit 4096) (Nat.add (nat_lit 37) (Nat.mul (nat_lit 2) s))) j)).toInt.toNat := ⟨(List.range (nOf c)).map (fun j => (sI r (fX (Nat.mul (nat_lit 4096) (Nat.add (nat_lit 37) (Nat.mul (nat_lit 2) s))) j)).toInt.toNat), by rw [List.length_map, List.length_range], fun j hj => by
      rw [nthO_eq, List.getD_eq_getElem?_getD, List.getElem?_map, List.getElem?_range hj]
      rfl⟩
    have hx : ∀ j, j < nOf c → r.1 (xP (37 + 2 * s) 0 + j) = Int32.ofNat (nthO q j) := fun j hj => by
      have h1 := hr j hj
      rw [hq j hj, eP]
      refine ((sI_v (r := r) (i := 4096 * (37 + 2 * s) + j)).symm).trans ?_
      exact i32_toNat (x := sI r (fX (Nat.mul (nat_lit 4096) (Nat.add (nat_lit 37) (Nat.mul (nat_lit 2) s))) j)) (by omega) (by omega)
    have hmem : ∀ x ∈ q, 1 ≤ x ∧ x ≤ nOf c := fun x hm2 => by
      obtain ⟨j, hj, rfl⟩ := List.getElem_of_mem hm2
      have e : nthO q j = q[j] := by rw [nthO_eq, List.getD_eq_getElem?_getD, List.getElem?_eq_getElem hj]; rfl
      have h1 := hr j (by omega)
      have h2 := hq j (by omega)
      rw [← e, h2]
      omega
    have hK := allT_ok _ _ (allL_ok q_msk m (by omega)) q (by omega) (fun x hm2 => by have := hmem x hm2; omega)
    rw [Bool.and_eq_true, Bool.and_eq_true] at hK
    rw [show Nat.succ m = nOf c by omega] at hK
    have b63 : mkN q (nOf c) ≤ 63 := Nat.le_of_ble_eq_true hK.1.1
    have b6 : popN (mkN q (nOf c)) ≤ 6 := Nat.le_of_ble_eq_true hK.1.2
    have hse : sI r (seE (Nat.mul (nat_lit 4096) (Nat.add (nat_lit 37) (Nat.mul (nat_lit 2) s))) (nOf c)) = Int32.ofNat (mkN q (nOf c)) := seE_ok (p := 4096 * (37 + 2 * s)) _ (fun k hk => by rw [← eP]; exact hx k hk)
    have call : gMet l D cy al 9 230 (tW r al cy rest 68 tXv) [.int (Int32.ofNat (mkN q (nOf c)))] (fun v w => v = some (.int (Int32.ofNat (popN (mkN q (nOf c))))) ∧ ∃ r1, kp 0 68 tXv r r1 ∧ w = tW r1 al cy rest 68 tXv) := by
      refine gMet_up (d := 5) (by omega) ?_
      have kk := c_run l (D := D) (cy := cy) (al := al) (rest := rest) (as := [.inl (.natCast (mkN q (nOf c)))]) (r := r) (by omega) tXv_ok (cC_X r) sPa_nil oX_nil (allL_ok q_bc _ (by omega)) (G := fun v w => v = some (.int (Int32.ofNat (popN (mkN q (nOf c))))) ∧ ∃ r1, kp 0 68 tXv r r1 ∧ w = tW r1 al cy rest 68 tXv) (fun m0 v pa m hk hp hkp => ⟨by rw [eqO_ok hk]; simp only [Option.map_some, sVal, sI_c], _, hkp, rfl⟩)
      simp only [List.map_cons, List.map_nil, sVal, sI_c] at kk
      exact kk
    simp only [LFi, List.map_cons, List.map_nil, Option.map_some, sVal, sI_c, hse]
    refine hFC.2 46 49 230 9 _ [.int (Int32.ofNat (mkN q (nOf c)))] [] _ _ ⟨_, _, rfl, rfl⟩ rfl (by decide) rfl (Or.inl rfl) call (fun v2 w2 h => ?_)
    obtain ⟨rfl, r2, j1, rfl⟩ := h
    have g := g_segS hFC (r := uM r2 [Int32.ofNat (mkN q (nOf c))]) (al := al) (cy := cy) (rest := rest) (tX_ok hc) (kpX_cC hc (kp_trans j1 (kp_uM (by omega))) hcc) sPa_nil oX_nil (allL_ok (allL_ok (allL_ok q_fx1 c hc) s hs) (popN (mkN q (nOf c))) (by omega)) (fun pc L st pa hk => nomatch hk) (fun v pa hk hp => ?_)
    · simp only [LFi, List.map_cons, List.map_nil, Option.map_some, sVal, sI_c] at g
      rw [hw, show sI (uM r2 [Int32.ofNat (mkN q (nOf c))]) (.var (nat_lit 819290)) = Int32.ofNat (mkN q (nOf c)) by rw [sI_v]; exact uM_v 0] at g
      exact g
    · rw [hw]
      refine ⟨r2, j1, rfl, ?_⟩
      rw [eqO_ok hk]
      simp only [Option.map_some, sVal, sI_c]
      have hK2 := hK.2
      rw [Bool.or_eq_true] at hK2
      cases hb : Nat.beq (popN (mkN q (nOf c))) (nOf c) with
      | true =>
        rw [hb] at hK2
        rcases hK2 with h | h
        · exact nomatch h
        · rw [Bool.and_eq_true] at h
          exact Or.inl ⟨rfl, appL q (restO (nOf c)), isP_in n1 n5 h.1, fun k hk => by rw [show nthO (appL q (restO (nOf c))) k = nthO q k from Nat.eq_of_beq_eq_true (allL_ok h.2 k hk)]; exact hx k hk⟩
      | false =>
        refine Or.inr ⟨rfl, fun t ht => ?_⟩
        have h1 := lAll_ok (allL_ok q_mskP m (by omega)) t (by rw [show Nat.succ m = nOf c by omega]; exact ht.1)
        rw [show Nat.succ m = nOf c by omega] at h1
        rw [← mkN_congr (l := q) (t := t) (nOf c) (fun k hk => by
          have := (perm t ht k hk).1
          rw [hq k hk, this]
          rfl), hb] at h1
        exact nomatch h1
  · rw [Bool.and_eq_true] at hk
    refine ⟨r, kp_rfl, rfl, Or.inr ⟨by rw [eqO_ok hk.1]; simp only [Option.map_some, sVal, sI_c], fun t ht => ?_⟩⟩
    obtain ⟨j, hj, h1⟩ := anyN_ok hk.2
    have h2 := ouR_ok n5 hp h1
    have h3 := perm t ht j hj
    omega
end FXC
