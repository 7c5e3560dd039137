/-! 98t: fraction, the model: one swap, one number of the table (by wip/whole/mk98t.py) -/
noncomputable def zN (z : Int) : Nat := Int.rec (motive := fun _ => Nat) (fun n => n) (fun n => Nat.sub (nat_lit 18446744073709551615) n) z
theorem zN_ok {z : Int} (h : z.natAbs ≤ 1000) : Int64.ofNat (zN z) = Int64.ofInt z := by
  cases z with
  | ofNat n => exact J_nat n
  | negSucc n =>
    have h1 : n + 1 ≤ 1000 := h
    show Int64.ofNat (18446744073709551615 - n) = _
    rw [← Int64.toInt_inj, Int64.toInt_ofNat', Int64.toInt_ofInt]
    simp only [Int.bmod_def, show ((Int64.size : Nat) : Int) = 18446744073709551616 from rfl]
    omega
noncomputable def tsM (c s m j : Nat) : Bool := Bool.and (Bool.and (Nat.ble (swP c s m j).1.natAbs (nat_lit 1000)) (Nat.ble (swP c s m j).2.natAbs (nat_lit 1000))) (sBeg (nat_lit 69) (nat_lit 45) (tM c) (memB [(nat_lit 0), (nat_lit 4), (nat_lit 5)]) [] (fun m0 => sRun (nat_lit 100000) (nat_lit 22) (nat_lit 191) [] m0 [.inr (.inr (some (nat_lit 0))), .inl (.natCast s), .inl (.natCast m), .inl (.natCast j)] (fun v _ m9 => Bool.and (sKC chMd (nat_lit 69) (nat_lit 45) (tM c) (memB [(nat_lit 0), (nat_lit 4), (nat_lit 5)]) m0 m9) (Bool.and (eqO v none) (Bool.and (isLE m9 (nat_lit 0) (nat_lit 35) (.natCast (zN (swP c s m j).1))) (isLE m9 (nat_lit 0) (nat_lit 36) (.natCast (zN (swP c s m j).2))))))))
noncomputable def tsS (c s : Nat) : Bool := allL (dOf c) (fun m => allL (dOf c) (fun j => tsM c s m j))
theorem q_ts0 : allL 12 (fun c => allL (Nat.pred (nOf c)) (fun s0 => tsS c (Nat.succ s0))) = true := by decide +kernel
theorem q_ts12 : allL 4 (fun s0 => tsS 12 (Nat.succ s0)) = true := by decide +kernel
theorem q_ts13 : allL 4 (fun s0 => tsS 13 (Nat.succ s0)) = true := by decide +kernel
theorem q_ts14_1 : tsS (nat_lit 14) (nat_lit 1) = true := by decide +kernel
theorem q_ts14_2 : tsS (nat_lit 14) (nat_lit 2) = true := by decide +kernel
theorem q_ts14_3 : tsS (nat_lit 14) (nat_lit 3) = true := by decide +kernel
theorem q_ts14_4 : tsS (nat_lit 14) (nat_lit 4) = true := by decide +kernel
theorem q_ts15 : allL 4 (fun s0 => tsS 15 (Nat.succ s0)) = true := by decide +kernel
theorem q_ts16 : allL 4 (fun s0 => tsS 16 (Nat.succ s0)) = true := by decide +kernel
theorem q_ts17 : allL 4 (fun s0 => tsS 17 (Nat.succ s0)) = true := by decide +kernel
theorem q_ts {c s m j : Nat} (hc : c < 18) (hs1 : 1 ≤ s) (hs : s < nOf c) (hm : m < dOf c) (hj : j < dOf c) : tsM c s m j = true := by
  obtain ⟨s, rfl⟩ : ∃ s0, s = s0 + 1 := ⟨s - 1, by omega⟩
  have n5 := (cd_tab c hc).2.2
  have key : tsS c (s + 1) = true := by
    by_cases h : c < 12
    · exact allL_ok (allL_ok q_ts0 c h) s (by show s < nOf c - 1; omega)
    · rcases (show c = 12 ∨ c = 13 ∨ c = 14 ∨ c = 15 ∨ c = 16 ∨ c = 17 by omega) with rfl | rfl | rfl | rfl | rfl | rfl
      · exact allL_ok q_ts12 s (by omega)
      · exact allL_ok q_ts13 s (by omega)
      · rcases (show s = 0 ∨ s = 1 ∨ s = 2 ∨ s = 3 by omega) with rfl | rfl | rfl | rfl
        · exact q_ts14_1
        · exact q_ts14_2
        · exact q_ts14_3
        · exact q_ts14_4
      · exact allL_ok q_ts15 s (by omega)
      · exact allL_ok q_ts16 s (by omega)
      · exact allL_ok q_ts17 s (by omega)
  exact allL_ok (allL_ok key m hm) j hj
/-- one number of a swap -/
theorem c_tsM (l : Launch) {D : va_G} {cy : Nat → ClassId} {al : Nat → Nat} {rest : va_W} {r : sE} {c s m j dd : Nat} (hdd : 22 ≤ dd) (hc : c < 18) (hs1 : 1 ≤ s) (hs : s < nOf c) (hm : m < dOf c) (hj : j < dOf c) (hcc : cC 69 45 (tM c) r) : gMet l D cy al dd 191 (tW r al cy rest 45 tMv) [.ref (al 0), .int (Int32.ofNat s), .int (Int32.ofNat m), .int (Int32.ofNat j)] (fun v w => v = none ∧ ∃ r1, kpC chMd 69 45 tMv r r1 ∧ r1.2 (mP 0 35) = Int64.ofInt (swP c s m j).1 ∧ r1.2 (mP 0 36) = Int64.ofInt (swP c s m j).2 ∧ w = tW r1 al cy rest 45 tMv) := by
  refine gMet_up hdd ?_
  have hq := q_ts hc hs1 hs hm hj
  unfold tsM at hq
  rw [Bool.and_eq_true, Bool.and_eq_true] at hq
  have b1 : (swP c s m j).1.natAbs ≤ 1000 := Nat.le_of_ble_eq_true hq.1.1
  have b2 : (swP c s m j).2.natAbs ≤ 1000 := Nat.le_of_ble_eq_true hq.1.2
  have key := c_runC l (D := D) (cy := cy) (al := al) (rest := rest) (r := r) (by omega) (tM_ok hc) hcc sPa_nil oM_nil hq.2 (G := fun v w => v = none ∧ ∃ r1, kpC chMd 69 45 tMv r r1 ∧ r1.2 (mP 0 35) = Int64.ofInt (swP c s m j).1 ∧ r1.2 (mP 0 36) = Int64.ofInt (swP c s m j).2 ∧ w = tW r1 al cy rest 45 tMv) (fun m0 v pa m9 hk hp hkp => ?_)
  · rw [show List.map (sVal r al) [.inr (.inr (some (nat_lit 0))), .inl (.natCast s), .inl (.natCast m), .inl (.natCast j)] = [.ref (al 0), .int (Int32.ofNat s), .int (Int32.ofNat m), .int (Int32.ofNat j)] by simp only [List.map_cons, List.map_nil, sVal, sI_c]] at key
    exact key
  rw [Bool.and_eq_true, Bool.and_eq_true] at hk
  refine ⟨by rw [eqO_ok hk.1]; rfl, _, hkp, ?_, ?_, rfl⟩
  · refine Eq.trans (isLE_ok (b := 69) (r := r) (by first | decide | omega) hk.2.1) ?_
    simp only [sJ, sD_c]
    exact zN_ok b1
  · refine Eq.trans (isLE_ok (b := 69) (r := r) (by first | decide | omega) hk.2.2) ?_
    simp only [sJ, sD_c]
    exact zN_ok b2
noncomputable def LSu (s k j m : Nat) : sL := [some (.inr (.inr (some (nat_lit 0)))), some (.inl (.natCast s)), some (.inl (.natCast k)), some (.inl (.natCast j)), some (.inr (.inl (.var (nat_lit 819290)))), none, some (.inr (.inl (.var (nat_lit 819291)))), none, some (.inl (.natCast m)), none, none, none, none]
noncomputable def LSa (s k j m : Nat) : sL := [some (.inr (.inr (some (nat_lit 0)))), some (.inl (.natCast s)), some (.inl (.natCast k)), some (.inl (.natCast j)), none, none, none, none, some (.inl (.natCast m)), none, none, none, none]
noncomputable def LSq (s k j m : Nat) : sL := [some (.inr (.inr (some (nat_lit 0)))), some (.inl (.natCast s)), some (.inl (.natCast k)), some (.inl (.natCast j)), some (.inr (.inl (.var (nat_lit 819290)))), none, some (.inr (.inl (.var (nat_lit 819291)))), none, some (.inl (.natCast m)), some (.inr (.inl (.pow (.mul (.var (nat_lit 282659)) (.var (Nat.add (nat_lit 389120) (Nat.add (Nat.mul (nat_lit 6) k) m)))) (nat_lit 22)))), none, some (.inr (.inl (.pow (.mul (.var (nat_lit 282660)) (.var (Nat.add (nat_lit 393216) (Nat.add (Nat.mul (nat_lit 6) k) m)))) (nat_lit 22)))), none]
noncomputable def LSb (s k j m : Nat) : sL := [some (.inr (.inr (some (nat_lit 0)))), some (.inl (.natCast s)), some (.inl (.natCast k)), some (.inl (.natCast j)), some (.inr (.inl (.var (nat_lit 282659)))), none, some (.inr (.inl (.var (nat_lit 282660)))), none, some (.inl (.natCast m)), none, none, none, none]
theorem q_suE : allL 5 (fun s => allL 6 (fun k => allL 6 (fun j => sEnt [.inr (.inr (some (nat_lit 0))), .inl (.natCast s), .inl (.natCast k), .inl (.natCast j)] (PG (nat_lit 193)).2.1 (fun L => eqL eqO L [some (.inr (.inr (some (nat_lit 0)))), some (.inl (.natCast s)), some (.inl (.natCast k)), some (.inl (.natCast j)), none, none, none, none, none, none, none, none, none])))) = true := by decide +kernel
theorem q_su0 : allL 5 (fun s => allL 6 (fun k => allL 6 (fun j => sx PG (nat_lit 100) (nat_lit 23) (PG (nat_lit 193)) (fun pc => Nat.beq pc (nat_lit 9)) (fun pc L st _ m => Bool.and (eqL eqC m []) (kAt (nat_lit 9) [some (.inr (.inr (some (nat_lit 0)))), some (.inl (.natCast s)), some (.inl (.natCast k)), some (.inl (.natCast j)), some (.inr (.inl (.natCast (nat_lit 0)))), none, some (.inr (.inl (.natCast (nat_lit 1)))), none, some (.inl (.natCast (nat_lit 0))), none, none, none, none] [] pc L st)) (fun _ _ m => Bool.and (eqL eqC m []) false) (nat_lit 0) [some (.inr (.inr (some (nat_lit 0)))), some (.inl (.natCast s)), some (.inl (.natCast k)), some (.inl (.natCast j)), none, none, none, none, none, none, none, none, none] [] [] []))) = true := by decide +kernel
noncomputable def suH (d s k j m : Nat) (p : Bool) : Bool := sBeg (nat_lit 69) (nat_lit 45) tMv (memB [(nat_lit 0), (nat_lit 26)]) [((nat_lit 0), (nat_lit 4), .natCast d)] (fun m0 => sx PG (nat_lit 200) (nat_lit 23) (PG (nat_lit 193)) (fun pc => memB [(nat_lit 40), (nat_lit 113)] pc) (fun pc L st _ m9 => Bool.and (eqL eqC m9 m0) (Bool.rec (motive := fun _ => Bool) (kAt (nat_lit 40) (LSu s k j m) [.inl (.natCast j), .inl (.natCast m), .inl (.natCast s), .inr (.inr (some (nat_lit 0)))] pc L st) (kAt (nat_lit 113) (LSu s k j m) [] pc L st) p)) (fun _ _ m9 => Bool.and (eqL eqC m9 m0) false) (nat_lit 9) (LSu s k j m) [] [(true, p, (.pow (.mul (.var (Nat.add (nat_lit 389120) (Nat.add (Nat.mul (nat_lit 6) k) m))) (.natCast (nat_lit 0))) (nat_lit 10)), (.natCast (nat_lit 0)))] m0)
theorem q_suH : allL 7 (fun d => allL 5 (fun s => allL d (fun k => allL d (fun j => allL d (fun m => Bool.and (suH d s k j m true) (suH d s k j m false)))))) = true := by decide +kernel
noncomputable def suQ (s k j m : Nat) : Bool := sBeg (nat_lit 69) (nat_lit 45) tMv (memB [(nat_lit 0), (nat_lit 26), (nat_lit 27)]) [] (fun m0 => sx PG (nat_lit 200) (nat_lit 23) (PG (nat_lit 193)) (fun pc => Nat.beq pc (nat_lit 98)) (fun pc L st _ m9 => Bool.and (sKC chMd (nat_lit 69) (nat_lit 45) tMv (memB [(nat_lit 0), (nat_lit 26), (nat_lit 27)]) m0 m9) (Bool.and (kAt (nat_lit 98) (LSq s k j m) [.inr (.inl (.pow (.mul (.var (nat_lit 282660)) (.var (Nat.add (nat_lit 393216) (Nat.add (Nat.mul (nat_lit 6) k) m)))) (nat_lit 22))), .inr (.inl (.pow (.mul (.var (nat_lit 282659)) (.var (Nat.add (nat_lit 389120) (Nat.add (Nat.mul (nat_lit 6) k) m)))) (nat_lit 22))), .inr (.inr (some (nat_lit 0)))] pc L st) (Bool.and (isLE m9 (nat_lit 0) (nat_lit 35) (.var (nat_lit 819290))) (isLE m9 (nat_lit 0) (nat_lit 36) (.var (nat_lit 819291)))))) (fun _ _ m9 => Bool.and (sKC chMd (nat_lit 69) (nat_lit 45) tMv (memB [(nat_lit 0), (nat_lit 26), (nat_lit 27)]) m0 m9) false) (nat_lit 43) (LSu s k j m) [] [] m0)
theorem q_suQ : allL 5 (fun s => allL 6 (fun k => allL 6 (fun j => allL 6 (fun m => suQ s k j m)))) = true := by decide +kernel
noncomputable def suT (s k j m : Nat) : Bool := sBeg (nat_lit 69) (nat_lit 45) tMv (memB [(nat_lit 0)]) [] (fun m0 => sx PG (nat_lit 200) (nat_lit 23) (PG (nat_lit 193)) (fun pc => Nat.beq pc (nat_lit 113)) (fun pc L st _ m9 => Bool.and (eqL eqC m9 m0) (Bool.and (kAt (nat_lit 113) (LSb s k j m) [] pc L st) (true))) (fun _ _ m9 => Bool.and (eqL eqC m9 m0) false) (nat_lit 101) (LSa s k j m) [] [] m0)
theorem q_suT : allL 5 (fun s => allL 6 (fun k => allL 6 (fun j => allL 6 (fun m => suT s k j m)))) = true := by decide +kernel
theorem q_suN : allL 5 (fun s => allL 6 (fun k => allL 6 (fun j => allL 6 (fun m => sx PG (nat_lit 100) (nat_lit 23) (PG (nat_lit 193)) (fun pc => Nat.beq pc (nat_lit 9)) (fun pc L st _ m9 => Bool.and (eqL eqC m9 []) (kAt (nat_lit 9) (LSu s k j (Nat.succ m)) [] pc L st)) (fun _ _ m9 => Bool.and (eqL eqC m9 []) false) (nat_lit 113) (LSu s k j m) [] [] [])))) = true := by decide +kernel
noncomputable def chNx (k j u : Nat) : Bool := Bool.or (Nat.beq u (Nat.add (nat_lit 397312) (Nat.add (Nat.mul (nat_lit 6) k) j))) (Nat.beq u (Nat.add (nat_lit 401408) (Nat.add (Nat.mul (nat_lit 6) k) j)))
noncomputable def suZ (d s k j : Nat) : Bool := sBeg (nat_lit 69) (nat_lit 45) tMv (memB [(nat_lit 0), (nat_lit 28), (nat_lit 29)]) [((nat_lit 0), (nat_lit 4), .natCast d)] (fun m0 => sx PG (nat_lit 200) (nat_lit 23) (PG (nat_lit 193)) (fun _ => false) (fun _ _ _ _ m => Bool.and (sKC (chNx k j) (nat_lit 69) (nat_lit 45) tMv (memB [(nat_lit 0), (nat_lit 28), (nat_lit 29)]) m0 m) false) (fun v _ m => Bool.and (sKC (chNx k j) (nat_lit 69) (nat_lit 45) tMv (memB [(nat_lit 0), (nat_lit 28), (nat_lit 29)]) m0 m) (Bool.and (eqO v none) (Bool.and (isLE m (nat_lit 28) (Nat.add (Nat.mul (nat_lit 6) k) j) (.var (nat_lit 819290))) (isLE m (nat_lit 29) (Nat.add (Nat.mul (nat_lit 6) k) j) (.var (nat_lit 819291)))))) (nat_lit 9) (LSu s k j d) [] [] m0)
theorem q_suZ : allL 7 (fun d => allL 5 (fun s => allL d (fun k => allL d (fun j => suZ d s k j)))) = true := by decide +kernel
noncomputable def chSu (k j u : Nat) : Bool := Bool.or (chMd u) (chNx k j u)
theorem q_tabL : allL 36 (fun i => Bool.and (Bool.and (Bool.and (isL (nat_lit 69) (nat_lit 45) tMv (Nat.add (nat_lit 389120) i)) (Bool.not (chMd (Nat.add (nat_lit 389120) i)))) (Bool.and (isL (nat_lit 69) (nat_lit 45) tMv (Nat.add (nat_lit 393216) i)) (Bool.not (chMd (Nat.add (nat_lit 393216) i))))) (Bool.and (Bool.and (isL (nat_lit 69) (nat_lit 45) tMv (Nat.add (nat_lit 397312) i)) (Bool.not (chMd (Nat.add (nat_lit 397312) i)))) (Bool.and (isL (nat_lit 69) (nat_lit 45) tMv (Nat.add (nat_lit 401408) i)) (Bool.not (chMd (Nat.add (nat_lit 401408) i)))))) = true := by decide +kernel
theorem b_not {b : Bool} (h : Bool.not b = true) : b = false := by cases b <;> first | rfl | exact nomatch h
theorem tab_L {i : Nat} (hi : i < 36) : ((isL 69 45 tMv (389120 + i) = true ∧ chMd (389120 + i) = false) ∧ isL 69 45 tMv (393216 + i) = true ∧ chMd (393216 + i) = false) ∧ (isL 69 45 tMv (397312 + i) = true ∧ chMd (397312 + i) = false) ∧ isL 69 45 tMv (401408 + i) = true ∧ chMd (401408 + i) = false := by
  have h := allL_ok q_tabL i hi
  simp only [Bool.and_eq_true] at h
  obtain ⟨⟨⟨h1, h2⟩, h3, h4⟩, ⟨h5, h6⟩, h7, h8⟩ := h
  exact ⟨⟨⟨h1, b_not h2⟩, h3, b_not h4⟩, ⟨h5, b_not h6⟩, h7, b_not h8⟩
/-- the row k of the model's table holds v -/
def rowM (k d : Nat) (v : zR) (r : sE) : Prop := ∀ m, m < d → r.2 (389120 + (6 * k + m)) = Int64.ofInt (getZ v m).1 ∧ r.2 (393216 + (6 * k + m)) = Int64.ofInt (getZ v m).2
theorem rowM_Md {k d : Nat} {v : zR} {r r1 : sE} (hk : k < 6) (hd : d ≤ 6) (h : kpC chMd 69 45 tMv r r1) (hr : rowM k d v r) : rowM k d v r1 := fun m hm => by
  obtain ⟨⟨⟨h1, h2⟩, h3, h4⟩, -⟩ := tab_L (i := 6 * k + m) (by omega)
  exact ⟨(h.2.1 _ h1 h2).trans (hr m hm).1, (h.2.1 _ h3 h4).trans (hr m hm).2⟩
def LSv (al : Nat → Nat) (s k j m : Nat) (a b : Int) : List (Option Value) := [some (.ref (al 0)), some (.int (Int32.ofNat s)), some (.int (Int32.ofNat k)), some (.int (Int32.ofNat j)), some (.long (Int64.ofInt a)), none, some (.long (Int64.ofInt b)), none, some (.int (Int32.ofNat m)), none, none, none, none]
theorem LSu_eq {r : sE} {al : Nat → Nat} {s k j m : Nat} {a b : Int} : (LSu s k j m).map (Option.map (sVal (uN r [Int64.ofInt a, Int64.ofInt b]) al)) = LSv al s k j m a b := by
  simp only [LSu, LSv, List.map_cons, List.map_nil, Option.map_some, Option.map_none, sVal, sI_c]
  rw [show sJ (uN r [Int64.ofInt a, Int64.ofInt b]) (.var (nat_lit 819290)) = Int64.ofInt a from uN_v 0, show sJ (uN r [Int64.ofInt a, Int64.ofInt b]) (.var (nat_lit 819291)) = Int64.ofInt b from uN_v 1]
theorem wk9 {k : Nat} {At : gAt} (hLD : gLD k At) {pc : Nat} {a0 a1 a2 a3 b4 b5 b6 b7 a8 b9 b10 b11 b12 : Option Value} {SV : List Value} {w : va_W} (h : At pc [a0, a1, a2, a3, none, none, none, none, a8, none, none, none, none] SV w) : At pc [a0, a1, a2, a3, b4, b5, b6, b7, a8, b9, b10, b11, b12] SV w := hLD.2.2 pc _ [a0, a1, a2, a3, none, none, none, none, a8, none, none, none, none] _ _ rfl (fun j v hv => by
  rcases j with _ | _ | _ | _ | _ | _ | _ | _ | _ | _ | _ | _ | _ | j
  all_goals first | exact hv | exact nomatch hv) h
theorem su_loop {l : Launch} {D : va_G} {cy : Nat → ClassId} {al : Nat → Nat} {rest : va_W} {c s k j : Nat} {v : zR} {r : sE} {Rt : Option Value → va_W → Prop} {At : gAt} (hFC : gFC l D cy al 193 23 Rt At) (hLD : gLD 193 At) (hc : c < 18) (hs1 : 1 ≤ s) (hs : s < nOf c) (hk : k < dOf c) (hj : j < dOf c) (hcc : cC 69 45 (tM c) r) (hn4 : r.1 (mP 0 4) = Int32.ofNat (dOf c)) (hv4 : isV 69 45 tMv (mP 0 4) = true ∧ chMd (mP 0 4) = false) : ∀ (vs : zR) (m : Nat) (a b : Int) (r' : sE), m + vs.length = dOf c → (∀ i, i < vs.length → getZ vs i = getZ v (m + i)) → suG c s j vs m a b → kpC chMd 69 45 tMv r r' → rowM k (dOf c) v r' → (∀ r2, kpC (chSu k j) 69 45 tMv r r2 → r2.2 (397312 + (6 * k + j)) = Int64.ofInt (suL c s j vs m a b).1 → r2.2 (401408 + (6 * k + j)) = Int64.ofInt (suL c s j vs m a b).2 → Rt none (tW r2 al cy rest 45 tMv)) → At 9 (LSv al s k j m a b) [] (tW r' al cy rest 45 tMv) := by
  have d6 := (cd_tab c hc).1.2
  have n5 := (cd_tab c hc).2.2
  have hT : ∀ (x : sE) (a b : Int), tW (uN x [Int64.ofInt a, Int64.ofInt b]) al cy rest 45 tMv = tW x al cy rest 45 tMv := fun x a b => tW_uN (by omega) tMv_can
  have h4 : ∀ r', kpC chMd 69 45 tMv r r' → r'.1 (mP 0 4) = Int32.ofNat (dOf c) := fun r' h => (h.1 _ hv4.1 hv4.2).trans hn4
  intro vs
  induction vs with
  | nil =>
    intro m a b r' hm hv hG hkp hM hR
    rw [List.length_nil, Nat.add_zero] at hm
    subst hm
    have g := g_segH hFC (r := uN r' [Int64.ofInt a, Int64.ofInt b]) (al := al) (cy := cy) (rest := rest) (by omega) tMv_ok (cC_M _) sPa_nil (oM_cons (by rw [sI_c]; exact h4 r' hkp) oM_nil) (allL_ok (allL_ok (allL_ok (allL_ok q_suZ (dOf c) (by omega)) s (by omega)) k hk) j hj) (fun m0 pc L st pa m hk => nomatch hk) (fun m0 v pa m9 hk5 hp hk6 hH2 => ?_)
    · rw [LSu_eq, hT] at g
      exact g
    rw [Bool.and_eq_true, Bool.and_eq_true] at hk5
    rw [eqO_ok hk5.1]
    refine hR _ (kpC_trans (kpC_weak (fun u hu => (Bool.or_eq_false_iff.mp hu).1) hkp) (kpC_trans (kpC_uN (by omega)) (kpC_weak (fun u hu => (Bool.or_eq_false_iff.mp hu).2) hk6))) ?_ ?_
    · exact Eq.trans (isLE_ok (b := 69) (r := uN r' [Int64.ofInt a, Int64.ofInt b]) (by show 6 * k + j < 4096; omega) hk5.2.1) (uN_v 0)
    · exact Eq.trans (isLE_ok (b := 69) (r := uN r' [Int64.ofInt a, Int64.ofInt b]) (by show 6 * k + j < 4096; omega) hk5.2.2) (uN_v 1)
  | cons z vs ih =>
    intro m a b r' hm hv hG hkp hM hR
    rw [List.length_cons] at hm
    have hz : z = getZ v m := hv 0 (by rw [List.length_cons]; omega)
    have hmd : m < dOf c := by omega
    have hlv : ∀ i, i < vs.length → getZ vs i = getZ v (m + 1 + i) := fun i hi => by
      have := hv (i + 1) (by rw [List.length_cons]; omega)
      rw [show m + 1 + i = m + (i + 1) by omega]
      exact this
    obtain ⟨va, vb⟩ := hM m hmd
    rw [← hz] at va vb
    have hq := allL_ok (allL_ok (allL_ok (allL_ok (allL_ok q_suH (dOf c) (by omega)) s (by omega)) k hk) j hj) m hmd
    rw [Bool.and_eq_true] at hq
    -- on
    have next : ∀ (a b : Int) (r2 : sE), kpC chMd 69 45 tMv r r2 → suG c s j vs (m + 1) a b → rowM k (dOf c) v r2 → (∀ r3, kpC (chSu k j) 69 45 tMv r r3 → r3.2 (397312 + (6 * k + j)) = Int64.ofInt (suL c s j vs (m + 1) a b).1 → r3.2 (401408 + (6 * k + j)) = Int64.ofInt (suL c s j vs (m + 1) a b).2 → Rt none (tW r3 al cy rest 45 tMv)) → At 113 (LSv al s k j m a b) [] (tW r2 al cy rest 45 tMv) := fun a b r2 q1 q2 q3 q4 => by
      have g := g_pure hFC (al := al) (r := uN r2 [Int64.ofInt a, Int64.ofInt b]) (w := tW r2 al cy rest 45 tMv) sPa_nil (allL_ok (allL_ok (allL_ok (allL_ok q_suN s (by omega)) k (by omega)) j (by omega)) m (by omega)) (fun pc L st hk => ?_) (fun v hk => nomatch hk)
      · rw [LSu_eq] at g
        exact g
      obtain ⟨rfl, rfl, rfl⟩ := kAt_ok hk
      rw [LSu_eq]
      exact ih (m + 1) a b r2 (by omega) hlv q2 q1 q3 q4
    have fk : ∀ p : Bool, z.1.natAbs < 9223372036854775808 → (p = true ↔ z.1 = 0) → sPa (uN r' [Int64.ofInt a, Int64.ofInt b]) [(true, p, (.pow (.mul (.var (Nat.add (nat_lit 389120) (Nat.add (Nat.mul (nat_lit 6) k) m))) (.natCast (nat_lit 0))) (nat_lit 10)), (.natCast (nat_lit 0)))] := fun p hb hp q hq => by
      rw [List.mem_singleton] at hq
      subst hq
      have e : sI (uN r' [Int64.ofInt a, Int64.ofInt b]) (.pow (.mul (.var (Nat.add (nat_lit 389120) (Nat.add (Nat.mul (nat_lit 6) k) m))) (.natCast (nat_lit 0))) (nat_lit 10)) = lg_cmp (Int64.ofInt z.1) (Int64.ofNat 0) := by
        show (sD _ _).1 = _
        rw [sD_b]
        show lg_cmp (sJ _ (.var (389120 + (6 * k + m)))) (sJ _ (.natCast 0)) = _
        rw [show sJ (uN r' [Int64.ofInt a, Int64.ofInt b]) (.var (389120 + (6 * k + m))) = Int64.ofInt z.1 by
          simp only [sJ, sD_v]
          exact (uN_lo (by omega)).trans va]
        simp only [sJ, sD_c]
      cases p with
      | true =>
        refine sKd_t.mpr ?_
        show sI _ _ = sI _ _
        rw [e, sI_c]
        exact lgE.mpr ((zJ_0 hb).mpr (hp.mp rfl))
      | false =>
        refine sKd_f.mpr ?_
        show ¬ sI _ _ = sI _ _
        rw [e, sI_c]
        exact fun q => nomatch hp.mpr ((zJ_0 hb).mp (lgE.mp q))
    have hG1 : Bool.rec (motive := fun _ => Prop) (z.1.natAbs < 9223372036854775808 ∧ rg a b ((swP c s m j).1 * z.1) ((swP c s m j).2 * z.2) ∧ suG c s j vs (Nat.succ m) (frA a b ((swP c s m j).1 * z.1) ((swP c s m j).2 * z.2)) (frB a b ((swP c s m j).1 * z.1) ((swP c s m j).2 * z.2))) (suG c s j vs (Nat.succ m) a b) (zB z.1 0) := hG
    have hR1 : ∀ r2, kpC (chSu k j) 69 45 tMv r r2 → r2.2 (397312 + (6 * k + j)) = Int64.ofInt (Bool.rec (motive := fun _ => Int × Int) (suL c s j vs (Nat.succ m) (frA a b ((swP c s m j).1 * z.1) ((swP c s m j).2 * z.2)) (frB a b ((swP c s m j).1 * z.1) ((swP c s m j).2 * z.2))) (suL c s j vs (Nat.succ m) a b) (zB z.1 0) : Int × Int).1 → r2.2 (401408 + (6 * k + j)) = Int64.ofInt (Bool.rec (motive := fun _ => Int × Int) (suL c s j vs (Nat.succ m) (frA a b ((swP c s m j).1 * z.1) ((swP c s m j).2 * z.2)) (frB a b ((swP c s m j).1 * z.1) ((swP c s m j).2 * z.2))) (suL c s j vs (Nat.succ m) a b) (zB z.1 0) : Int × Int).2 → Rt none (tW r2 al cy rest 45 tMv) := hR
    have hk0 : kpC chMd 69 45 tMv r (uN r' [Int64.ofInt a, Int64.ofInt b]) := kpC_trans hkp (kpC_uN (by omega))
    cases hzb : zB z.1 0 with
    | true =>
      rw [hzb] at hG1 hR1
      have z0 := zB_ok hzb
      have g := g_segS hFC (r := uN r' [Int64.ofInt a, Int64.ofInt b]) (al := al) (cy := cy) (rest := rest) tMv_ok (cC_M _) (fk true (by rw [z0]; decide) ⟨fun _ => z0, fun _ => rfl⟩) (oM_cons (by rw [sI_c]; exact h4 r' hkp) oM_nil) hq.1 (fun pc L st pa hk2 hp => ?_) (fun v pa hk => nomatch hk)
      · rw [LSu_eq, hT] at g
        exact g
      obtain ⟨rfl, rfl, rfl⟩ := kAt_ok (show kAt (nat_lit 113) (LSu s k j m) [] pc L st = true from hk2)
      rw [LSu_eq, hT]
      exact next a b r' hkp hG1 hM hR1
    | false =>
      rw [hzb] at hG1 hR1
      obtain ⟨zb, zr, hG2⟩ : z.1.natAbs < 9223372036854775808 ∧ rg a b ((swP c s m j).1 * z.1) ((swP c s m j).2 * z.2) ∧ suG c s j vs (Nat.succ m) (frA a b ((swP c s m j).1 * z.1) ((swP c s m j).2 * z.2)) (frB a b ((swP c s m j).1 * z.1) ((swP c s m j).2 * z.2)) := hG1
      have z0 := zB_no hzb
      have g := g_segS hFC (r := uN r' [Int64.ofInt a, Int64.ofInt b]) (al := al) (cy := cy) (rest := rest) tMv_ok (cC_M _) (fk false zb ⟨fun q => (nomatch q), fun q => absurd q z0⟩) (oM_cons (by rw [sI_c]; exact h4 r' hkp) oM_nil) hq.2 (fun pc L st pa hk2 hp => ?_) (fun v pa hk => nomatch hk)
      · rw [LSu_eq, hT] at g
        exact g
      obtain ⟨rfl, rfl, rfl⟩ := kAt_ok (show kAt (nat_lit 40) (LSu s k j m) [.inl (.natCast j), .inl (.natCast m), .inl (.natCast s), .inr (.inr (some (nat_lit 0)))] pc L st = true from hk2)
      have e1 : List.map (sVal (uN r' [Int64.ofInt a, Int64.ofInt b]) al) [.inl (.natCast j), .inl (.natCast m), .inl (.natCast s), .inr (.inr (some (nat_lit 0)))] = ([.ref (al 0), .int (Int32.ofNat s), .int (Int32.ofNat m), .int (Int32.ofNat j)] : List Value).reverse ++ [] := by
        simp only [List.map_cons, List.map_nil, sVal, sI_c]
        rfl
      rw [LSu_eq, hT]
      refine (congrArg (fun st => At 40 _ st _) e1).mpr ?_
      refine hFC.2 40 43 191 22 _ _ _ _ _ ⟨_, _, rfl, rfl⟩ rfl (by decide) rfl (gRecv_t (by omega) rfl rfl) (c_tsM l (by omega) hc hs1 hs hmd hj (kpM_cC hc (kp_Md hkp) hcc)) (fun v1 w2 h => ?_)
      obtain ⟨rfl, r2, k1, k2, k3, rfl⟩ := h
      have kp2 := kpC_trans hkp k1
      obtain ⟨va2, vb2⟩ := rowM_Md (by omega) d6 k1 hM m hmd
      rw [← hz] at va2 vb2
      have x0 : ∀ (u : Nat), u < 819290 → sJ (uN r2 [Int64.ofInt a, Int64.ofInt b]) (.var u) = r2.2 u := fun u hu => by
        simp only [sJ, sD_v]
        exact uN_lo hu
      have hup : sJ (uN r2 [Int64.ofInt a, Int64.ofInt b]) (.pow (.mul (.var (nat_lit 282659)) (.var (Nat.add (nat_lit 389120) (Nat.add (Nat.mul (nat_lit 6) k) m)))) (nat_lit 22)) = Int64.ofInt ((swP c s m j).1 * z.1) := by
        show (sD _ _).2 = _
        rw [sD_b]
        show sJ _ (.var (nat_lit 282659)) * sJ _ (.var (389120 + (6 * k + m))) = _
        rw [x0 _ (by first | omega | decide), x0 _ (by first | omega | decide), va2, Int64.ofInt_mul]
        exact congrArg (fun q => q * _) k2
      have hdn : sJ (uN r2 [Int64.ofInt a, Int64.ofInt b]) (.pow (.mul (.var (nat_lit 282660)) (.var (Nat.add (nat_lit 393216) (Nat.add (Nat.mul (nat_lit 6) k) m)))) (nat_lit 22)) = Int64.ofInt ((swP c s m j).2 * z.2) := by
        show (sD _ _).2 = _
        rw [sD_b]
        show sJ _ (.var (nat_lit 282660)) * sJ _ (.var (393216 + (6 * k + m))) = _
        rw [x0 _ (by first | omega | decide), x0 _ (by first | omega | decide), vb2, Int64.ofInt_mul]
        exact congrArg (fun q => q * _) k3
      have g2 := g_segH hFC (r := uN r2 [Int64.ofInt a, Int64.ofInt b]) (al := al) (cy := cy) (rest := rest) (by omega) tMv_ok (cC_M _) sPa_nil oM_nil (allL_ok (allL_ok (allL_ok (allL_ok q_suQ s (by omega)) k (by omega)) j (by omega)) m (by omega)) (fun m0 pc L st pa m9 hk3 hp hk4 hH => ?_) (fun m0 v pa m hk => nomatch hk)
      · rw [LSu_eq, hT] at g2
        exact g2
      rw [Bool.and_eq_true, Bool.and_eq_true] at hk3
      obtain ⟨rfl, rfl, rfl⟩ := kAt_ok hk3.1
      have y1 := Eq.trans (isLE_ok (b := 69) (r := uN r2 [Int64.ofInt a, Int64.ofInt b]) (by first | decide | omega) hk3.2.1) (uN_v 0)
      have y2 := Eq.trans (isLE_ok (b := 69) (r := uN r2 [Int64.ofInt a, Int64.ofInt b]) (by first | decide | omega) hk3.2.2) (uN_v 1)
      have kp3 := kpC_trans kp2 (kpC_trans (kpC_uN (by omega)) hk4)
      have hM3 := rowM_Md (show k < 6 by omega) d6 (kpC_trans k1 (kpC_trans (kpC_uN (by omega)) hk4)) hM
      generalize eOf 69 (uN r2 [Int64.ofInt a, Int64.ofInt b]) m9 = r3 at y1 y2 kp3 hM3 ⊢
      have e2 : List.map (sVal (uN r2 [Int64.ofInt a, Int64.ofInt b]) al) [.inr (.inl (.pow (.mul (.var (nat_lit 282660)) (.var (Nat.add (nat_lit 393216) (Nat.add (Nat.mul (nat_lit 6) k) m)))) (nat_lit 22))), .inr (.inl (.pow (.mul (.var (nat_lit 282659)) (.var (Nat.add (nat_lit 389120) (Nat.add (Nat.mul (nat_lit 6) k) m)))) (nat_lit 22))), .inr (.inr (some (nat_lit 0)))] = ([.ref (al 0), .long (Int64.ofInt ((swP c s m j).1 * z.1)), .long (Int64.ofInt ((swP c s m j).2 * z.2))] : List Value).reverse ++ [] := by
        simp only [List.map_cons, List.map_nil, sVal, hup, hdn]
        rfl
      refine (congrArg (fun st => At 98 _ st _) e2).mpr ?_
      refine hFC.2 98 101 188 22 _ _ _ _ _ ⟨_, _, rfl, rfl⟩ rfl (by decide) rfl (gRecv_t (by omega) rfl rfl) (c_addM l (by omega) y1 y2 zr.1 zr.2.1 zr.2.2) (fun v1 w2 h => ?_)
      obtain ⟨rfl, r4, k4, -, k5, k6, rfl⟩ := h
      simp only [LSq, List.map_cons, List.map_nil, Option.map_some, Option.map_none, sVal, sI_c]
      refine wk9 hLD ?_
      have g3 := g_segS hFC (r := r4) (al := al) (cy := cy) (rest := rest) tMv_ok (cC_M _) sPa_nil oM_nil (allL_ok (allL_ok (allL_ok (allL_ok q_suT s (by omega)) k (by omega)) j (by omega)) m (by omega)) (fun pc L st pa hk2 hp => ?_) (fun v pa hk => nomatch hk)
      · simp only [LSa, List.map_cons, List.map_nil, Option.map_some, Option.map_none, sVal, sI_c] at g3
        exact g3
      rw [Bool.and_eq_true] at hk2
      obtain ⟨rfl, rfl, rfl⟩ := kAt_ok hk2.1
      have eb : (LSb s k j m).map (Option.map (sVal r4 al)) = LSv al s k j m (frA a b ((swP c s m j).1 * z.1) ((swP c s m j).2 * z.2)) (frB a b ((swP c s m j).1 * z.1) ((swP c s m j).2 * z.2)) := by
        have q1 : sJ r4 (.var (nat_lit 282659)) = Int64.ofInt (frA a b ((swP c s m j).1 * z.1) ((swP c s m j).2 * z.2)) := by
          simp only [sJ, sD_v]
          exact k5
        have q2 : sJ r4 (.var (nat_lit 282660)) = Int64.ofInt (frB a b ((swP c s m j).1 * z.1) ((swP c s m j).2 * z.2)) := by
          simp only [sJ, sD_v]
          exact k6
        simp only [LSb, LSv, List.map_cons, List.map_nil, Option.map_some, Option.map_none, sVal, sI_c, q1, q2]
      rw [eb]
      exact next _ _ r4 (kpC_trans kp3 k4) hG2 (rowM_Md (by omega) d6 k4 hM3) hR1
/-- one number of the next table -/
theorem c_suM (l : Launch) {D : va_G} {cy : Nat → ClassId} {al : Nat → Nat} {rest : va_W} {r : sE} {c s k j dd : Nat} {v : zR} (hdd : 23 ≤ dd) (hc : c < 18) (hs1 : 1 ≤ s) (hs : s < nOf c) (hk : k < dOf c) (hj : j < dOf c) (hcc : cC 69 45 (tM c) r) (hn4 : r.1 (mP 0 4) = Int32.ofNat (dOf c)) (hl : v.length = dOf c) (hM : rowM k (dOf c) v r) (hG : suG c s j v 0 0 1) : gMet l D cy al dd 193 (tW r al cy rest 45 tMv) [.ref (al 0), .int (Int32.ofNat s), .int (Int32.ofNat k), .int (Int32.ofNat j)] (fun x w => x = none ∧ ∃ r1, kpC (chSu k j) 69 45 tMv r r1 ∧ r1.2 (397312 + (6 * k + j)) = Int64.ofInt (suL c s j v 0 0 1).1 ∧ r1.2 (401408 + (6 * k + j)) = Int64.ofInt (suL c s j v 0 0 1).2 ∧ w = tW r1 al cy rest 45 tMv) := by
  refine gMet_up hdd ?_
  have d6 := (cd_tab c hc).1.2
  have n5 := (cd_tab c hc).2.2
  have key := gMet_ofD (l := l) (D := D) (cy := cy) (al := al) (d := 23) (k := 193) (w := tW r al cy rest 45 tMv) (r := r) (G := fun x w => x = none ∧ ∃ r1, kpC (chSu k j) 69 45 tMv r r1 ∧ r1.2 (397312 + (6 * k + j)) = Int64.ofInt (suL c s j v 0 0 1).1 ∧ r1.2 (401408 + (6 * k + j)) = Int64.ofInt (suL c s j v 0 0 1).2 ∧ w = tW r1 al cy rest 45 tMv) (allL_ok (allL_ok (allL_ok q_suE s (by omega)) k (by omega)) j (by omega)) (fun At hFC hLD => ?_)
  · rw [show List.map (sVal r al) [.inr (.inr (some (nat_lit 0))), .inl (.natCast s), .inl (.natCast k), .inl (.natCast j)] = [.ref (al 0), .int (Int32.ofNat s), .int (Int32.ofNat k), .int (Int32.ofNat j)] by simp only [List.map_cons, List.map_nil, sVal, sI_c]] at key
    exact key
  have g := g_pure hFC (al := al) (r := r) (w := tW r al cy rest 45 tMv) sPa_nil (allL_ok (allL_ok (allL_ok q_su0 s (by omega)) k (by omega)) j (by omega)) (fun pc L st hk => ?_) (fun v hk => nomatch hk)
  · exact g
  obtain ⟨rfl, rfl, rfl⟩ := kAt_ok hk
  simp only [List.map_cons, List.map_nil, Option.map_some, Option.map_none, sVal, sI_c]
  simp only [sJ, sD_c, J_nat]
  exact su_loop hFC hLD hc hs1 hs (by assumption) hj hcc hn4 ⟨by decide +kernel, by decide +kernel⟩ v 0 0 1 r (by omega) (fun i _ => by rw [Nat.zero_add]) hG kpC_rfl hM (fun r2 q1 q2 q3 => ⟨rfl, r2, q1, q2, q3, rfl⟩)
