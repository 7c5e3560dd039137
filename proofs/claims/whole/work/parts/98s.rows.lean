/-! 98s: fraction, the class: the rows and the operation (by wip/whole/mk98s.py) -/
noncomputable def LRi (k f i : Nat) : sL := [some (.inr (.inr (some (nat_lit 24)))), some (.inl (.var (nat_lit 819290))), some (.inl (.natCast k)), some (.inr (.inr (some (Nat.add (nat_lit 28) (Nat.mul (nat_lit 3) f))))), some (.inr (.inr (some (Nat.add (nat_lit 28) (Nat.mul (nat_lit 3) (Nat.sub (nat_lit 1) f)))))), some (.inl (.natCast i)), none]
noncomputable def LRn (k f : Nat) : sL := [some (.inr (.inr (some (nat_lit 24)))), some (.inl (.var (nat_lit 819290))), some (.inl (.natCast k)), some (.inr (.inr (some (Nat.add (nat_lit 28) (Nat.mul (nat_lit 3) f))))), some (.inr (.inr (some (Nat.add (nat_lit 28) (Nat.mul (nat_lit 3) (Nat.sub (nat_lit 1) f)))))), none, none]
theorem q_roE : allL 6 (fun k => sEnt [.inr (.inr (some (nat_lit 24))), .inl (.var (nat_lit 819290)), .inl (.natCast k)] (PG (nat_lit 43)).2.1 (fun L => eqL eqO L [some (.inr (.inr (some (nat_lit 24)))), some (.inl (.var (nat_lit 819290))), some (.inl (.natCast k)), none, none, none, none])) = true := by decide +kernel
theorem q_ro0 : allL 6 (fun k => sBeg (nat_lit 0) (nat_lit 68) tXv (memB [(nat_lit 24), (nat_lit 28), (nat_lit 29), (nat_lit 30)]) [] (fun m0 => sx PG (nat_lit 200) (nat_lit 23) (PG (nat_lit 43)) (fun pc => Nat.beq pc (nat_lit 19)) (fun pc L st _ m => Bool.and (sKC (chC (nat_lit 0)) (nat_lit 0) (nat_lit 68) tXv (memB [(nat_lit 24), (nat_lit 28), (nat_lit 29), (nat_lit 30)]) m0 m) (Bool.and (kAt (nat_lit 19) (LRn k (nat_lit 0)) [.inr (.inl (.natCast (nat_lit 1))), .inr (.inl (.natCast (nat_lit 1))), .inl (.natCast k), .inr (.inr (some (nat_lit 28)))] pc L st) (allL (nat_lit 6) (fun j => Bool.and (isLE m (nat_lit 29) j (.natCast (nat_lit 0))) (isLE m (nat_lit 30) j (.natCast (nat_lit 1))))))) (fun _ _ m => Bool.and (sKC (chC (nat_lit 0)) (nat_lit 0) (nat_lit 68) tXv (memB [(nat_lit 24), (nat_lit 28), (nat_lit 29), (nat_lit 30)]) m0 m) false) (nat_lit 0) [some (.inr (.inr (some (nat_lit 24)))), some (.inl (.var (nat_lit 819290))), some (.inl (.natCast k)), none, none, none, none] [] [] m0)) = true := by decide +kernel
theorem q_ro1 : allL 6 (fun k => sBeg (nat_lit 0) (nat_lit 68) tXv (memB [(nat_lit 24)]) [] (fun m0 => sx PG (nat_lit 200) (nat_lit 23) (PG (nat_lit 43)) (fun pc => Nat.beq pc (nat_lit 23)) (fun pc L st _ m => Bool.and (eqL eqC m m0) (Bool.and (kAt (nat_lit 23) (LRn k (nat_lit 0)) [.inl (.var (nat_lit 819290))] pc L st) (true))) (fun _ _ m => Bool.and (eqL eqC m m0) false) (nat_lit 22) (LRn k (nat_lit 0)) [] [] m0)) = true := by decide +kernel
theorem q_ro2 : allL 6 (fun k => allL 11 (fun n => sBeg (nat_lit 0) (nat_lit 68) tXv (memB [(nat_lit 24)]) [] (fun m0 => sx PG (nat_lit 200) (nat_lit 23) (PG (nat_lit 43)) (fun pc => Nat.beq pc (nat_lit 30)) (fun pc L st _ m => Bool.and (eqL eqC m m0) (Bool.and (kAt (nat_lit 30) [some (.inr (.inr (some (nat_lit 24)))), some (.inl (.var (nat_lit 819290))), some (.inl (.natCast k)), some (.inr (.inr (some (Nat.add (nat_lit 28) (Nat.mul (nat_lit 3) (nat_lit 0)))))), some (.inr (.inr (some (Nat.add (nat_lit 28) (Nat.mul (nat_lit 3) (Nat.sub (nat_lit 1) (nat_lit 0))))))), some (.inl (.natCast (Nat.mod (Nat.add n (nat_lit 4294967295)) (nat_lit 4294967296)))), none] [] pc L st) (true))) (fun _ _ m => Bool.and (eqL eqC m m0) false) (nat_lit 26) (LRn k (nat_lit 0)) [.inl (.natCast n)] [] m0))) = true := by decide +kernel
theorem q_ro3 : allL 6 (fun k => allL 2 (fun f => allL 10 (fun i => sBeg (nat_lit 0) (nat_lit 68) tXv (memB [(nat_lit 24)]) [] (fun m0 => sx PG (nat_lit 200) (nat_lit 23) (PG (nat_lit 43)) (fun pc => Nat.beq pc (nat_lit 40)) (fun pc L st _ m => Bool.and (eqL eqC m m0) (Bool.and (kAt (nat_lit 40) (LRi k f i) [.inl (.natCast i), .inl (.var (nat_lit 819290)), .inr (.inr (some (Nat.add (nat_lit 28) (Nat.mul (nat_lit 3) f)))), .inr (.inr (some (nat_lit 24)))] pc L st) (true))) (fun _ _ m => Bool.and (eqL eqC m m0) false) (nat_lit 30) (LRi k f i) [] [] m0)))) = true := by decide +kernel
theorem q_ro4 : allL 6 (fun k => allL 2 (fun f => allL 10 (fun i => allL 5 (fun s => sBeg (nat_lit 0) (nat_lit 68) tXv (memB [(nat_lit 24)]) [] (fun m0 => sx PG (nat_lit 200) (nat_lit 23) (PG (nat_lit 43)) (fun pc => Nat.beq pc (nat_lit 45)) (fun pc L st _ m => Bool.and (eqL eqC m m0) (Bool.and (kAt (nat_lit 45) (LRi k f i) [.inr (.inr (some (Nat.add (nat_lit 28) (Nat.mul (nat_lit 3) (Nat.sub (nat_lit 1) f))))), .inl (.natCast s), .inr (.inr (some (Nat.add (nat_lit 28) (Nat.mul (nat_lit 3) f)))), .inr (.inr (some (nat_lit 24)))] pc L st) (true))) (fun _ _ m => Bool.and (eqL eqC m m0) false) (nat_lit 43) (LRi k f i) [.inl (.natCast s), .inr (.inr (some (Nat.add (nat_lit 28) (Nat.mul (nat_lit 3) f)))), .inr (.inr (some (nat_lit 24)))] [] m0))))) = true := by decide +kernel
theorem q_ro5 : allL 6 (fun k => allL 2 (fun f => allL 10 (fun i => sBeg (nat_lit 0) (nat_lit 68) tXv (memB [(nat_lit 24)]) [] (fun m0 => sx PG (nat_lit 200) (nat_lit 23) (PG (nat_lit 43)) (fun pc => Nat.beq pc (nat_lit 30)) (fun pc L st _ m => Bool.and (eqL eqC m m0) (Bool.and (kAt (nat_lit 30) [some (.inr (.inr (some (nat_lit 24)))), some (.inl (.var (nat_lit 819290))), some (.inl (.natCast k)), some (.inr (.inr (some (Nat.add (nat_lit 28) (Nat.mul (nat_lit 3) (Nat.sub (nat_lit 1) f)))))), some (.inr (.inr (some (Nat.add (nat_lit 28) (Nat.mul (nat_lit 3) f))))), some (.inl (.natCast (Nat.mod (Nat.add i (nat_lit 4294967295)) (nat_lit 4294967296)))), some (.inr (.inr (some (Nat.add (nat_lit 28) (Nat.mul (nat_lit 3) f)))))] [] pc L st) (true))) (fun _ _ m => Bool.and (eqL eqC m m0) false) (nat_lit 48) (LRi k f i) [] [] m0)))) = true := by decide +kernel
theorem q_ro6 : allL 6 (fun k => allL 2 (fun f => sBeg (nat_lit 0) (nat_lit 68) tXv (memB [(nat_lit 24)]) [] (fun m0 => sx PG (nat_lit 200) (nat_lit 23) (PG (nat_lit 43)) (fun _ => false) (fun _ _ _ _ m => Bool.and (eqL eqC m m0) false) (fun v _ m => Bool.and (eqL eqC m m0) (Bool.and (eqO v (some (.inr (.inr (some (Nat.add (nat_lit 28) (Nat.mul (nat_lit 3) f))))))) (true))) (nat_lit 30) (LRi k f (nat_lit 4294967295)) [] [] m0))) = true := by decide +kernel
theorem wk5 {k : Nat} {At : gAt} (hLD : gLD k At) {pc : Nat} {a0 a1 a2 a3 a4 a5 b6 : Option Value} {SV : List Value} {w : va_W} (h : At pc [a0, a1, a2, a3, a4, a5, none] SV w) : At pc [a0, a1, a2, a3, a4, a5, b6] SV w := hLD.2.2 pc _ [a0, a1, a2, a3, a4, a5, none] _ _ rfl (fun j v hv => by
  rcases j with _ | _ | _ | _ | _ | _ | _ | j
  all_goals first | exact hv | exact nomatch hv) h
theorem LRi_eq {r : sE} {al : Nat → Nat} {k f i : Nat} {o : Int32} : (LRi k f i).map (Option.map (sVal (uM r [o]) al)) = [some (.ref (al 24)), some (.int o), some (.int (Int32.ofNat k)), some (.ref (al (28 + 3 * f))), some (.ref (al (28 + 3 * (1 - f)))), some (.int (Int32.ofNat i)), none] := by
  simp only [LRi, List.map_cons, List.map_nil, Option.map_some, Option.map_none, sVal, sI_c]
  rw [show sI (uM r [o]) (.var (nat_lit 819290)) = o by rw [sI_v]; exact uM_v 0]
  rfl
theorem LRn_eq {r : sE} {al : Nat → Nat} {k f : Nat} {o : Int32} : (LRn k f).map (Option.map (sVal (uM r [o]) al)) = [some (.ref (al 24)), some (.int o), some (.int (Int32.ofNat k)), some (.ref (al (28 + 3 * f))), some (.ref (al (28 + 3 * (1 - f)))), none, none] := by
  simp only [LRn, List.map_cons, List.map_nil, Option.map_some, Option.map_none, sVal, sI_c]
  rw [show sI (uM r [o]) (.var (nat_lit 819290)) = o by rw [sI_v]; exact uM_v 0]
  rfl
theorem goodW_tl {c k : Nat} {s : Nat} {w : List Nat} (h : goodW c k (s :: w)) : goodW c k w ∧ okS c s (Tw c k w) := h
/-- what a good word says of its ends -/
theorem goodW_drop {c k : Nat} : ∀ (w : List Nat), goodW c k w → ∀ i, goodW c k (w.drop i) := by
  intro w
  induction w with
  | nil => intro h i; rw [List.drop_nil]; exact h
  | cons s w ih =>
    intro h i
    cases i with
    | zero => exact h
    | succ i => exact ih (goodW_tl h).1 i
theorem nthO_at9 : ∀ (l : List Nat) (i : Nat) (h : i < l.length), nthO l i = l[i] := by
  intro l
  induction l with
  | nil => intro i h; exact absurd h (by simp)
  | cons a l ih =>
    intro i h
    cases i with
    | zero => rfl
    | succ i => exact ih i (by simpa using h)
theorem drop_nth {l : List Nat} {i : Nat} (h : i < l.length) : l.drop i = nthO l i :: l.drop (i + 1) := by
  rw [nthO_at9 l i h]
  exact List.drop_eq_getElem_cons h
theorem wdO_len {o : List Nat} (ho : o ∈ ORDS) : (wdO o).length = lenO o := by
  have h1 := lAll_ok q_wdS o ho
  unfold wdS at h1
  rw [Bool.and_eq_true, sLn_ok] at h1
  exact Nat.eq_of_beq_eq_true h1.1
noncomputable def wdL (n : Nat) (o : List Nat) : Bool := allL (lenO o) (fun i => Bool.and (Nat.ble (nat_lit 1) (nthO (wdO o) i)) (Nat.ble (Nat.succ (nthO (wdO o) i)) n))
theorem q_wdL : allL 6 (fun n => lAll (wdL n) (ordN n)) = true := by decide +kernel
theorem wd_in {n : Nat} {o : List Nat} (hn : n ≤ 5) (ho : o ∈ ordN n) {i : Nat} (hi : i < lenO o) : 1 ≤ nthO (wdO o) i ∧ nthO (wdO o) i < n := by
  have := allL_ok (lAll_ok (allL_ok q_wdL n (by omega)) o ho) i hi
  rw [Bool.and_eq_true] at this
  exact ⟨Nat.le_of_ble_eq_true this.1, Nat.le_of_ble_eq_true this.2⟩
/-- the class' rowOf -/
theorem c_roX (l : Launch) {D : va_G} {cy : Nat → ClassId} {al : Nat → Nat} {rest : va_W} {r : sE} {c k dd : Nat} {o : List Nat} (hdd : 23 ≤ dd) (hc : c < 18) (hk : k < dOf c) (hcc : cC 0 68 (tX c) r) (ho : o ∈ ordN (nOf c)) : gMet l D cy al dd 43 (tW r al cy rest 68 tXv) [.ref (al 24), .int (Int32.ofNat (ocode o)), .int (Int32.ofNat k)] (fun x w => ∃ (r1 : sE) (f : Nat), f < 2 ∧ x = some (.ref (al (28 + 3 * f))) ∧ kp 0 68 tXv r r1 ∧ rowF f (dOf c) (Tw c k (wdO o)) r1 ∧ w = tW r1 al cy rest 68 tXv) := by
  refine gMet_up hdd ?_
  have d6 := (cd_tab c hc).1.2
  have n5 := (cd_tab c hc).2.2
  have hO : o ∈ ORDS := List.mem_of_mem_take ho
  have hlen := wdO_len hO
  have hl10 : lenO o ≤ 10 := Nat.le_of_ble_eq_true (lAll_ok lenO_tab o hO)
  have hgd := q_fr hc ho hk
  have hT : ∀ x : sE, tW (uM x [Int32.ofNat (ocode o)]) al cy rest 68 tXv = tW x al cy rest 68 tXv := fun x => tW_uM (by omega) tXv_can
  have kpU : ∀ x : sE, kp 0 68 tXv x (uM x [Int32.ofNat (ocode o)]) := fun x => kp_uM (by omega)
  have key := gMet_ofD (l := l) (D := D) (cy := cy) (al := al) (d := 23) (k := 43) (w := tW r al cy rest 68 tXv) (r := uM r [Int32.ofNat (ocode o)]) (G := fun x w => ∃ (r1 : sE) (f : Nat), f < 2 ∧ x = some (.ref (al (28 + 3 * f))) ∧ kp 0 68 tXv r r1 ∧ rowF f (dOf c) (Tw c k (wdO o)) r1 ∧ w = tW r1 al cy rest 68 tXv) (allL_ok q_roE k (by omega)) (fun At hFC hLD => ?_)
  · have e1 : List.map (sVal (uM r [Int32.ofNat (ocode o)]) al) [.inr (.inr (some (nat_lit 24))), .inl (.var (nat_lit 819290)), .inl (.natCast k)] = [.ref (al 24), .int (Int32.ofNat (ocode o)), .int (Int32.ofNat k)] := by
      simp only [List.map_cons, List.map_nil, sVal, sI_c]
      rw [show sI (uM r [Int32.ofNat (ocode o)]) (.var (nat_lit 819290)) = Int32.ofNat (ocode o) by rw [sI_v]; exact uM_v 0]
    rw [e1] at key
    exact key
  have vO : ∀ x : sE, sI (uM x [Int32.ofNat (ocode o)]) (.var (nat_lit 819290)) = Int32.ofNat (ocode o) := fun x => by rw [sI_v]; exact uM_v 0
  -- the end
  have fin : ∀ (f : Nat) (r' : sE), f < 2 → kp 0 68 tXv r r' → rowF f (dOf c) (Tw c k (wdO o)) r' → At 30 [some (.ref (al 24)), some (.int (Int32.ofNat (ocode o))), some (.int (Int32.ofNat k)), some (.ref (al (28 + 3 * f))), some (.ref (al (28 + 3 * (1 - f)))), some (.int (Int32.ofNat 4294967295)), none] [] (tW r' al cy rest 68 tXv) := fun f r' hf h1 h2 => by
    have g := g_segS hFC (r := uM r' [Int32.ofNat (ocode o)]) (al := al) (cy := cy) (rest := rest) tXv_ok (cC_X _) sPa_nil oX_nil (allL_ok (allL_ok q_ro6 k (by omega)) f hf) (fun pc L st pa hk => nomatch hk) (fun v pa hk hp => ?_)
    · rw [LRi_eq, hT] at g
      exact g
    rw [Bool.and_eq_true] at hk
    rw [eqO_ok hk.1, hT]
    exact ⟨r', f, hf, rfl, h1, h2, rfl⟩
  -- a turn
  have turn : ∀ (i f : Nat) (r' : sE), i < lenO o → f < 2 → kp 0 68 tXv r r' → rowF f (dOf c) (Tw c k ((wdO o).drop (i + 1))) r' → (∀ r2, kp 0 68 tXv r r2 → rowF (1 - f) (dOf c) (Tw c k ((wdO o).drop i)) r2 → At 30 [some (.ref (al 24)), some (.int (Int32.ofNat (ocode o))), some (.int (Int32.ofNat k)), some (.ref (al (28 + 3 * (1 - f)))), some (.ref (al (28 + 3 * f))), some (.int (Int32.ofNat ((i + 4294967295) % 4294967296))), none] [] (tW r2 al cy rest 68 tXv)) → At 30 [some (.ref (al 24)), some (.int (Int32.ofNat (ocode o))), some (.int (Int32.ofNat k)), some (.ref (al (28 + 3 * f))), some (.ref (al (28 + 3 * (1 - f)))), some (.int (Int32.ofNat i)), none] [] (tW r' al cy rest 68 tXv) := fun i f r' hi hf h1 h2 hK => by
    have hd := drop_nth (l := wdO o) (i := i) (by omega)
    obtain ⟨s1, sn⟩ := wd_in n5 ho hi
    have hg := goodW_drop _ hgd i
    rw [hd] at hg
    obtain ⟨-, hok⟩ := goodW_tl hg
    have g := g_segS hFC (r := uM r' [Int32.ofNat (ocode o)]) (al := al) (cy := cy) (rest := rest) tXv_ok (cC_X _) sPa_nil oX_nil (allL_ok (allL_ok (allL_ok q_ro3 k (by omega)) f hf) i (by omega)) (fun pc L st pa hk hp => ?_) (fun v pa hk => nomatch hk)
    · rw [LRi_eq, hT] at g
      exact g
    rw [Bool.and_eq_true] at hk
    obtain ⟨rfl, rfl, rfl⟩ := kAt_ok hk.1
    have e1 : List.map (sVal (uM r' [Int32.ofNat (ocode o)]) al) [.inl (.natCast i), .inl (.var (nat_lit 819290)), .inr (.inr (some (Nat.add (nat_lit 28) (Nat.mul (nat_lit 3) f)))), .inr (.inr (some (nat_lit 24)))] = ([.int (Int32.ofNat (ocode o)), .int (Int32.ofNat i)] : List Value).reverse ++ [.ref (al (28 + 3 * f)), .ref (al 24)] := by
      simp only [List.map_cons, List.map_nil, sVal, sI_c, vO]
      rfl
    rw [LRi_eq, hT]
    refine (congrArg (fun st => At 40 _ st _) e1).mpr ?_
    refine hFC.2 40 43 12 22 _ _ _ _ _ ⟨_, _, rfl, rfl⟩ rfl (by show 1 + (1 + 0) ≤ 8; omega) rfl (Or.inl rfl) (c_letter l (by omega) hO hi) (fun v w2 h => ?_)
    obtain ⟨rfl, rfl⟩ := h
    have g2 := g_segS hFC (r := uM r' [Int32.ofNat (ocode o)]) (al := al) (cy := cy) (rest := rest) tXv_ok (cC_X _) sPa_nil oX_nil (allL_ok (allL_ok (allL_ok (allL_ok q_ro4 k (by omega)) f hf) i (by omega)) (nthO (wdO o) i) (by omega)) (fun pc L st pa hk hp => ?_) (fun v pa hk => nomatch hk)
    · have e2 : List.map (sVal (uM r' [Int32.ofNat (ocode o)]) al) [.inl (.natCast (nthO (wdO o) i)), .inr (.inr (some (Nat.add (nat_lit 28) (Nat.mul (nat_lit 3) f)))), .inr (.inr (some (nat_lit 24)))] = (some (Value.int (Int32.ofNat (nthO (wdO o) i)))).toList ++ [.ref (al (28 + 3 * f)), .ref (al 24)] := by
        simp only [List.map_cons, List.map_nil, sVal, sI_c]
        rfl
      rw [LRi_eq, hT] at g2
      exact (congrArg (fun st => At 43 _ st _) e2).mp g2
    rw [Bool.and_eq_true] at hk
    obtain ⟨rfl, rfl, rfl⟩ := kAt_ok hk.1
    have e3 : List.map (sVal (uM r' [Int32.ofNat (ocode o)]) al) [.inr (.inr (some (Nat.add (nat_lit 28) (Nat.mul (nat_lit 3) (Nat.sub (nat_lit 1) f))))), .inl (.natCast (nthO (wdO o) i)), .inr (.inr (some (Nat.add (nat_lit 28) (Nat.mul (nat_lit 3) f)))), .inr (.inr (some (nat_lit 24)))] = ([.ref (al 24), .ref (al (28 + 3 * f)), .int (Int32.ofNat (nthO (wdO o) i)), .ref (al (28 + 3 * (1 - f)))] : List Value).reverse ++ [] := by
      simp only [List.map_cons, List.map_nil, sVal, sI_c]
      rfl
    rw [LRi_eq, hT]
    refine (congrArg (fun st => At 45 _ st _) e3).mpr ?_
    refine hFC.2 45 48 44 22 _ _ _ _ _ ⟨_, _, rfl, rfl⟩ rfl (by decide) rfl (gRecv_x (j := 24) (by omega) rfl rfl) (c_goX l (by omega) hc s1 sn hf (kpX_cC hc h1 hcc) (Tw_len _) h2 hok.1) (fun v w2 h => ?_)
    obtain ⟨rfl, r2, k1, k2, rfl⟩ := h
    have kp2 := kp_trans h1 k1
    have g3 := g_segS hFC (r := uM r2 [Int32.ofNat (ocode o)]) (al := al) (cy := cy) (rest := rest) tXv_ok (cC_X _) sPa_nil oX_nil (allL_ok (allL_ok (allL_ok q_ro5 k (by omega)) f hf) i (by omega)) (fun pc L st pa hk hp => ?_) (fun v pa hk => nomatch hk)
    · rw [LRi_eq, hT] at g3
      exact g3
    rw [Bool.and_eq_true] at hk
    obtain ⟨rfl, rfl, rfl⟩ := kAt_ok hk.1
    rw [hT]
    simp only [List.map_cons, List.map_nil, Option.map_some, Option.map_none, sVal, sI_c, vO]
    exact wk5 hLD (hK r2 kp2 (by rw [hd]; exact k2))
  have loop : ∀ (i f : Nat) (r' : sE), i < lenO o → f < 2 → kp 0 68 tXv r r' → rowF f (dOf c) (Tw c k ((wdO o).drop (i + 1))) r' → At 30 [some (.ref (al 24)), some (.int (Int32.ofNat (ocode o))), some (.int (Int32.ofNat k)), some (.ref (al (28 + 3 * f))), some (.ref (al (28 + 3 * (1 - f)))), some (.int (Int32.ofNat i)), none] [] (tW r' al cy rest 68 tXv) := by
    intro i
    induction i with
    | zero =>
      intro f r' hi hf h1 h2
      refine turn 0 f r' hi hf h1 h2 (fun r2 q1 q2 => ?_)
      have := fin (1 - f) r2 (by omega) q1 q2
      rw [show 1 - (1 - f) = f by omega] at this
      exact this
    | succ i ih =>
      intro f r' hi hf h1 h2
      refine turn (i + 1) f r' hi hf h1 h2 (fun r2 q1 q2 => ?_)
      have := ih (1 - f) r2 (by omega) (by omega) q1 q2
      rw [show 1 - (1 - f) = f by omega] at this
      rw [show (i + 1 + 4294967295) % 4294967296 = i by omega]
      exact this
  have g := g_segH hFC (r := uM r [Int32.ofNat (ocode o)]) (al := al) (cy := cy) (rest := rest) (by omega) tXv_ok (cC_X _) sPa_nil oX_nil (allL_ok q_ro0 k (by omega)) (fun m0 pc L st pa m hk3 hp hk4 hH => ?_) (fun m0 v pa m hk => nomatch hk)
  · rw [hT] at g
    exact g
  rw [Bool.and_eq_true] at hk3
  obtain ⟨rfl, rfl, rfl⟩ := kAt_ok hk3.1
  have hF0 := rowF_0 (f := 0) (r := uM r [Int32.ofNat (ocode o)]) d6 (fun j hj => by
    have := allL_ok hk3.2 j hj
    rw [Bool.and_eq_true] at this
    exact this)
  have kp1 := kp_trans (kpU r) (kp_C (show 0 < 2 by omega) hk4)
  generalize eOf 0 (uM r [Int32.ofNat (ocode o)]) m = r1 at hF0 kp1 ⊢
  rw [LRn_eq]
  have e1 : List.map (sVal (uM r [Int32.ofNat (ocode o)]) al) [.inr (.inl (.natCast (nat_lit 1))), .inr (.inl (.natCast (nat_lit 1))), .inl (.natCast k), .inr (.inr (some (nat_lit 28)))] = ([.ref (al (28 + 3 * 0)), .int (Int32.ofNat k), .long (Int64.ofInt 1), .long (Int64.ofInt 1)] : List Value).reverse ++ [] := by
    simp only [List.map_cons, List.map_nil, sVal, sI_c]
    simp only [sJ, sD_c, J_nat]
    rfl
  refine (congrArg (fun st => At 19 _ st _) e1).mpr ?_
  have u0 : rg (getZ (zero (dOf c)) k).1 (getZ (zero (dOf c)) k).2 1 1 := by
    rw [zero_get]
    exact ⟨by decide, by decide, by decide⟩
  refine hFC.2 19 22 2 22 _ _ _ _ _ ⟨_, _, rfl, rfl⟩ rfl (by decide) rfl (gRecv_f (f := 0) (by omega) rfl) (c_addX (f := 0) l (by omega) (by omega) (by omega) (hF0 k hk).1 (hF0 k hk).2 u0.1 u0.2.1 u0.2.2) (fun v w2 h => ?_)
  obtain ⟨rfl, r2, k1, k2, k3, rfl⟩ := h
  have hF1 : rowF 0 (dOf c) (unit k (dOf c)) r2 := rowF_ad (by omega) d6 hk (by rw [zero_len]; exact hk) k1 k2 k3 hF0
  have kp2 := kp_trans kp1 (kp_Ad (by omega) (by omega) k1)
  have g2 := g_segS hFC (r := uM r2 [Int32.ofNat (ocode o)]) (al := al) (cy := cy) (rest := rest) tXv_ok (cC_X _) sPa_nil oX_nil (allL_ok q_ro1 k (by omega)) (fun pc L st pa hk hp => ?_) (fun v pa hk => nomatch hk)
  · rw [LRn_eq, hT] at g2
    exact g2
  rw [Bool.and_eq_true] at hk
  obtain ⟨rfl, rfl, rfl⟩ := kAt_ok hk.1
  have e2 : List.map (sVal (uM r2 [Int32.ofNat (ocode o)]) al) [.inl (.var (nat_lit 819290))] = ([.int (Int32.ofNat (ocode o))] : List Value).reverse ++ [] := by
    simp only [List.map_cons, List.map_nil, sVal, vO]
    rfl
  rw [LRn_eq, hT]
  refine (congrArg (fun st => At 23 _ st _) e2).mpr ?_
  refine hFC.2 23 26 11 22 _ _ _ _ _ ⟨_, _, rfl, rfl⟩ rfl (by decide) rfl (Or.inl rfl) (c_len l (by omega) hO) (fun v w2 h => ?_)
  obtain ⟨rfl, rfl⟩ := h
  have g3 := g_segS hFC (r := uM r2 [Int32.ofNat (ocode o)]) (al := al) (cy := cy) (rest := rest) tXv_ok (cC_X _) sPa_nil oX_nil (allL_ok (allL_ok q_ro2 k (by omega)) (lenO o) (by omega)) (fun pc L st pa hk hp => ?_) (fun v pa hk => nomatch hk)
  · rw [LRn_eq, hT] at g3
    have e3 : List.map (sVal (uM r2 [Int32.ofNat (ocode o)]) al) [.inl (.natCast (lenO o))] = (some (Value.int (Int32.ofNat (lenO o)))).toList ++ [] := by
      simp only [List.map_cons, List.map_nil, sVal, sI_c]
      rfl
    exact (congrArg (fun st => At 26 _ st _) e3).mp g3
  rw [Bool.and_eq_true] at hk
  obtain ⟨rfl, rfl, rfl⟩ := kAt_ok hk.1
  rw [hT]
  simp only [List.map_cons, List.map_nil, Option.map_some, Option.map_none, sVal, sI_c, vO]
  cases hn : lenO o with
  | zero =>
    have e : Tw c k (wdO o) = unit k (dOf c) := by
      rw [List.eq_nil_of_length_eq_zero (hlen.trans hn)]
      rfl
    exact fin 0 r2 (by omega) kp2 (by rw [e]; exact hF1)
  | succ n =>
    have e : Tw c k ((wdO o).drop (n + 1)) = unit k (dOf c) := by
      rw [List.drop_of_length_le (by omega)]
      rfl
    have := loop n 0 r2 (by omega) (by omega) kp2 (by rw [e]; exact hF1)
    have e5 : Nat.mod (Nat.add (n + 1) (nat_lit 4294967295)) (nat_lit 4294967296) = n := by
      show (n + 1 + 4294967295) % 4294967296 = n
      omega
    rw [e5]
    exact this
noncomputable def LF (q k j p : Nat) : sL := [some (.inr (.inr (some (nat_lit 0)))), some (.inl (.natCast q)), some (.inl (.natCast k)), some (.inl (.natCast j)), some (.inl (.natCast p))]
theorem q_frXE : allL 4 (fun q => allL 6 (fun k => allL 6 (fun j => allL 2 (fun p => sEnt [.inr (.inr (some (nat_lit 0))), .inl (.natCast q), .inl (.natCast k), .inl (.natCast j), .inl (.natCast p)] (PG (nat_lit 102)).2.1 (fun L => eqL eqO L (LF q k j p)))))) = true := by decide +kernel
theorem q_frX0 : allL 18 (fun c => allL 4 (fun q => allL (dOf c) (fun k => allL (dOf c) (fun j => allL 2 (fun p => sBeg (nat_lit 0) (nat_lit 68) (tX c) (memB [(nat_lit 0), (nat_lit 1), (nat_lit 34)]) [((nat_lit 34), q, .var (Nat.add (nat_lit 819204) q))] (fun m0 => sx PG (nat_lit 200) (nat_lit 24) (PG (nat_lit 102)) (fun pc => Nat.beq pc (nat_lit 46)) (fun pc L st _ m => Bool.and (eqL eqC m m0) (Bool.and (kAt (nat_lit 46) (LF q k j p) [.inl (.natCast k), .inl (.var (Nat.add (nat_lit 819204) q)), .inr (.inr (some (nat_lit 24)))] pc L st) (true))) (fun _ _ m => Bool.and (eqL eqC m m0) false) (nat_lit 0) (LF q k j p) [] [] m0)))))) = true := by decide +kernel
theorem q_frX1 : allL 4 (fun q => allL 6 (fun k => allL 6 (fun j => allL 2 (fun p => allL 2 (fun f => sBeg (nat_lit 0) (nat_lit 68) tXv (memB [(nat_lit 28), (nat_lit 29), (nat_lit 30), (nat_lit 31), (nat_lit 32), (nat_lit 33)]) [] (fun m0 => sx PG (nat_lit 200) (nat_lit 24) (PG (nat_lit 102)) (fun _ => false) (fun _ _ _ _ m => Bool.and (eqL eqC m m0) false) (fun v _ m => Bool.and (eqL eqC m m0) (Bool.and (eqO v (some (.inr (.inl (.var (Nat.add (Nat.mul (nat_lit 4096) (Nat.add (Nat.add (nat_lit 29) p) (Nat.mul (nat_lit 3) f))) j)))))) (true))) (nat_lit 49) (LF q k j p) [.inr (.inr (some (Nat.add (nat_lit 28) (Nat.mul (nat_lit 3) f))))] [] m0)))))) = true := by decide +kernel
/-- the class' fraction -/
theorem c_fxX (l : Launch) {D : va_G} {cy : Nat → ClassId} {al : Nat → Nat} {rest : va_W} {r : sE} {c q k j p : Nat} {o : List Nat} (hc : c < 18) (hq : q < 4) (hk : k < dOf c) (hj : j < dOf c) (hp : p < 2) (hcc : cC 0 68 (tX c) r) (ho : o ∈ ordN (nOf c)) (hr : r.1 (xP 34 q) = Int32.ofNat (ocode o)) (hf : r.1 (819204 + q) = r.1 (xP 34 q)) : gMet l D cy al 200 102 (tW r al cy rest 68 tXv) [.ref (al 0), .int (Int32.ofNat q), .int (Int32.ofNat k), .int (Int32.ofNat j), .int (Int32.ofNat p)] (fun v w => v = some (.long (Int64.ofInt (prP p (getZ (Tw c k (wdO o)) j)))) ∧ ∃ r1, kp 0 68 tXv r r1 ∧ w = tW r1 al cy rest 68 tXv) := by
  refine gMet_up (d := 24) (by omega) ?_
  have d6 := (cd_tab c hc).1.2
  have key := gMet_of (l := l) (D := D) (cy := cy) (al := al) (d := 24) (k := 102) (w := tW r al cy rest 68 tXv) (r := r) (G := fun v w => v = some (.long (Int64.ofInt (prP p (getZ (Tw c k (wdO o)) j)))) ∧ ∃ r1, kp 0 68 tXv r r1 ∧ w = tW r1 al cy rest 68 tXv) (allL_ok (allL_ok (allL_ok (allL_ok q_frXE q hq) k (by omega)) j (by omega)) p hp) (fun At hFC => ?_)
  · rw [show List.map (sVal r al) [.inr (.inr (some (nat_lit 0))), .inl (.natCast q), .inl (.natCast k), .inl (.natCast j), .inl (.natCast p)] = [.ref (al 0), .int (Int32.ofNat q), .int (Int32.ofNat k), .int (Int32.ofNat j), .int (Int32.ofNat p)] by simp only [List.map_cons, List.map_nil, sVal, sI_c]] at key
    exact key
  have eL : ∀ r' : sE, (LF q k j p).map (Option.map (sVal r' al)) = [some (.ref (al 0)), some (.int (Int32.ofNat q)), some (.int (Int32.ofNat k)), some (.int (Int32.ofNat j)), some (.int (Int32.ofNat p))] := fun r' => by
    simp only [LF, List.map_cons, List.map_nil, Option.map_some, sVal, sI_c]
  refine g_segS hFC (r := r) (tX_ok hc) hcc sPa_nil (oX_cons (show r.1 (xP 34 q) = sI r (.var (Nat.add (nat_lit 819204) q)) by rw [sI_v]; exact hf.symm) oX_nil) (allL_ok (allL_ok (allL_ok (allL_ok (allL_ok q_frX0 c hc) q hq) k hk) j hj) p hp) (fun pc L st pa hk2 hp2 => ?_) (fun v pa hk2 => nomatch hk2)
  rw [Bool.and_eq_true] at hk2
  obtain ⟨rfl, rfl, rfl⟩ := kAt_ok hk2.1
  have e1 : List.map (sVal r al) [.inl (.natCast k), .inl (.var (Nat.add (nat_lit 819204) q)), .inr (.inr (some (nat_lit 24)))] = ([.ref (al 24), .int (Int32.ofNat (ocode o)), .int (Int32.ofNat k)] : List Value).reverse ++ [] := by
    simp only [List.map_cons, List.map_nil, sVal, sI_c]
    rw [show sI r (.var (Nat.add (nat_lit 819204) q)) = Int32.ofNat (ocode o) by rw [sI_v]; exact hf.trans hr]
    rfl
  rw [eL]
  refine (congrArg (fun st => At 46 _ st _) e1).mpr ?_
  refine hFC.2 46 49 43 23 _ _ _ _ _ ⟨_, _, rfl, rfl⟩ rfl (by decide) rfl (gRecv_x (j := 24) (by omega) rfl rfl) (c_roX l (by omega) hc hk hcc ho) (fun v w2 h => ?_)
  obtain ⟨r2, f, h1, rfl, h2, h3, rfl⟩ := h
  have g := g_segS hFC (r := r2) (al := al) (cy := cy) (rest := rest) tXv_ok (cC_X _) sPa_nil oX_nil (allL_ok (allL_ok (allL_ok (allL_ok (allL_ok q_frX1 q hq) k (by omega)) j (by omega)) p hp) f h1) (fun pc L st pa hk => nomatch hk) (fun v pa hk hp2 => ?_)
  · rw [eL] at g
    exact g
  rw [Bool.and_eq_true] at hk
  rw [eqO_ok hk.1]
  refine ⟨?_, r2, h2, rfl⟩
  show some (Value.long (sJ r2 (.var (4096 * (29 + p + 3 * f) + j)))) = _
  simp only [sJ, sD_v]
  match p, hp with
  | 0, _ => exact congrArg (fun z => some (Value.long z)) ((congrArg r2.2 (show 4096 * (29 + 0 + 3 * f) + j = xP (29 + 3 * f) j by unfold xP; omega)).trans (h3 j hj).1)
  | 1, _ => exact congrArg (fun z => some (Value.long z)) ((congrArg r2.2 (show 4096 * (29 + 1 + 3 * f) + j = xP (30 + 3 * f) j by unfold xP; omega)).trans (h3 j hj).2)
