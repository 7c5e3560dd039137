/-! 98e: straight, the class (by wip/whole/mk98e.py) -/

/-- a filling is told by its numbers -/
theorem isFi_uni {n p : Nat} {r : sE} {t t2 : List Nat} (hn : 1 ≤ n) (hn5 : n ≤ 5) (h : isFi n p r t) (h2 : isFi n p r t2) : t = t2 := by
  have e : ∀ k, k < n → nthO t k = nthO t2 k := fun k hk => by
    obtain ⟨m, rfl⟩ : ∃ m, n = m + 1 := ⟨n - 1, by omega⟩
    have b : ∀ u, isFi (m + 1) p r u → nthO u k ≤ 5 := fun u hu => by
      have hc2 := lAll_ok (allL_ok q_perm m (by omega)) u hu.1
      unfold permC at hc2
      rw [Bool.and_eq_true, Bool.and_eq_true] at hc2
      have h7 := allL_ok hc2.2.2 k hk
      rw [Bool.and_eq_true] at h7
      have h8 : nthO u k ≤ Nat.succ m := Nat.le_of_ble_eq_true h7.2
      omega
    exact n32_inj (by have := b t h; omega) (by have := b t2 h2; omega) ((h.2 k hk).symm.trans (h2.2 k hk))
  have f : ∀ n, n < 6 → 1 ≤ n → ∀ a ∈ ordN n, a = appL ((List.range n).map (nthO a)) (restO n) := by decide +kernel
  rw [f n (by omega) hn t h.1, f n (by omega) hn t2 h2.1]
  congr 1
  exact List.map_congr_left (fun k hk => e k (List.mem_range.mp hk))
noncomputable def LSg (s j : Nat) (x : Option sV) : sL := [some (.inr (.inr (some (nat_lit 0)))), some (.inl (.natCast s)), some (.inl (.natCast j)), x]
noncomputable def sg0 (c s j : Nat) : Bool := sBeg (nat_lit 0) (nat_lit 68) (tX c) (memB [(nat_lit 0), (nat_lit 1), (nat_lit 35), Nat.add (nat_lit 36) (Nat.mul (nat_lit 2) s)]) [(Nat.add (nat_lit 36) (Nat.mul (nat_lit 2) s), (nat_lit 0), .natCast (nat_lit 2))] (fun m0 => sx PG (nat_lit 500) (nat_lit 20) (PG (nat_lit 100)) (fun pc => Nat.beq pc (nat_lit 50)) (fun pc L st pa m => Bool.and (eqL eqC m m0) (kAt (nat_lit 50) (LSg s j (some (.inr (.inr (some (Nat.add (nat_lit 36) (Nat.mul (nat_lit 2) s))))))) [.inr (.inr (some (Nat.add (nat_lit 37) (Nat.mul (nat_lit 2) s)))), .inr (.inr (some (nat_lit 1)))] pc L st)) (fun _ _ m => Bool.and (eqL eqC m m0) false) (nat_lit 0) (LSg s j none) [] [(false, false, .var (Nat.add (Nat.mul (nat_lit 4096) (Nat.add (nat_lit 36) (Nat.mul (nat_lit 2) s))) (nat_lit 1)), .natCast (nOf c))] m0)
theorem q_sg0 : allL 18 (fun c => allL 4 (fun s => allL (dOf c) (fun j => sg0 c s j))) = true := by decide +kernel
theorem q_sgE : allL 4 (fun s => allL 6 (fun j => sEnt [.inr (.inr (some (nat_lit 0))), .inl (.natCast s), .inl (.natCast j)] (PG (nat_lit 100)).2.1 (fun L => eqL eqO L (LSg s j none)))) = true := by decide +kernel
noncomputable def sg1 (c s j : Nat) : Bool := sBeg (nat_lit 0) (nat_lit 68) (tX c) (memB [(nat_lit 0), (nat_lit 1), (nat_lit 35), Nat.add (nat_lit 36) (Nat.mul (nat_lit 2) s)]) [] (fun m0 => sx PG (nat_lit 500) (nat_lit 20) (PG (nat_lit 100)) (fun pc => Nat.beq pc (nat_lit 68)) (fun pc L st pa m => Bool.and (eqL eqC m m0) (kAt (nat_lit 68) (LSg s j (some (.inr (.inr (some (Nat.add (nat_lit 36) (Nat.mul (nat_lit 2) s))))))) [.inr (.inr (some (Nat.add (nat_lit 37) (Nat.mul (nat_lit 2) s)))), .inr (.inr (some (nat_lit 14)))] pc L st)) (fun _ _ m => Bool.and (eqL eqC m m0) false) (nat_lit 53) (LSg s j (some (.inr (.inr (some (Nat.add (nat_lit 36) (Nat.mul (nat_lit 2) s))))))) [.inl (.natCast (nat_lit 1))] [] m0)
noncomputable def sg2 (c s j : Nat) : Bool := sBeg (nat_lit 0) (nat_lit 68) (tX c) (memB [(nat_lit 0), (nat_lit 1), (nat_lit 35), Nat.add (nat_lit 36) (Nat.mul (nat_lit 2) s)]) [] (fun m0 => sx PG (nat_lit 500) (nat_lit 20) (PG (nat_lit 100)) (fun _ => false) (fun _ _ _ _ m => Bool.and (eqL eqC m m0) false) (fun v pa m => Bool.and (eqL eqC m m0) (eqO v (some (.inr (.inl (.natCast (nat_lit 9223372036854775808))))))) (nat_lit 53) (LSg s j (some (.inr (.inr (some (Nat.add (nat_lit 36) (Nat.mul (nat_lit 2) s))))))) [.inl (.natCast (nat_lit 0))] [] m0)
noncomputable def sg3 (c s j : Nat) : Bool := sBeg (nat_lit 0) (nat_lit 68) (tX c) (memB [(nat_lit 0), (nat_lit 14), (nat_lit 23)]) [] (fun m0 => sx PG (nat_lit 500) (nat_lit 20) (PG (nat_lit 100)) (fun _ => false) (fun _ _ _ _ m => Bool.and (eqL eqC m m0) false) (fun v pa m => Bool.and (eqL eqC m m0) (eqO v (some (.inr (.inl (.pow (.neg (.var (Nat.add (nat_lit 94208) j))) (nat_lit 21))))))) (nat_lit 71) (LSg s j (some (.inr (.inr (some (Nat.add (nat_lit 36) (Nat.mul (nat_lit 2) s))))))) [] [] m0)
theorem q_sg123 : allL 18 (fun c => allL 4 (fun s => allL (dOf c) (fun j => Bool.and (sg1 c s j) (Bool.and (sg2 c s j) (sg3 c s j))))) = true := by decide +kernel
noncomputable def LTo (s : Nat) : sL := [some (.inr (.inr (some (nat_lit 14)))), some (.inr (.inr (some (Nat.add (nat_lit 37) (Nat.mul (nat_lit 2) s)))))]
noncomputable def to0 (c s : Nat) : Bool := sBeg (nat_lit 0) (nat_lit 68) (tX c) (memB [(nat_lit 1), (nat_lit 14), (nat_lit 22), Nat.add (nat_lit 37) (Nat.mul (nat_lit 2) s)]) [] (fun m0 => sx PG (nat_lit 500) (nat_lit 19) (PG (nat_lit 83)) (fun pc => Nat.beq pc (nat_lit 18)) (fun pc L st pa m => Bool.and (sK0 (nat_lit 0) (nat_lit 68) (tX c) (memB [(nat_lit 1), (nat_lit 14), (nat_lit 22), Nat.add (nat_lit 37) (Nat.mul (nat_lit 2) s)]) m0 m) (Bool.and (kAt (nat_lit 18) (LTo s) [.inr (.inr (some (nat_lit 14)))] pc L st) (allL (nOf c) (fun i => isE m (nat_lit 22) i (.var (Nat.add (Nat.mul (nat_lit 4096) (Nat.add (nat_lit 37) (Nat.mul (nat_lit 2) s))) i)))))) (fun _ _ m => Bool.and (sK0 (nat_lit 0) (nat_lit 68) (tX c) (memB [(nat_lit 1), (nat_lit 14), (nat_lit 22), Nat.add (nat_lit 37) (Nat.mul (nat_lit 2) s)]) m0 m) false) (nat_lit 0) (LTo s) [] [] m0)
theorem q_to0 : allL 18 (fun c => allL 4 (fun s => to0 c s)) = true := by decide +kernel
theorem q_toE : allL 4 (fun s => Bool.and (sEnt [.inr (.inr (some (nat_lit 14))), .inr (.inr (some (Nat.add (nat_lit 37) (Nat.mul (nat_lit 2) s))))] (PG (nat_lit 83)).2.1 (fun L => eqL eqO L (LTo s))) (sx PG (nat_lit 10) (nat_lit 19) (PG (nat_lit 83)) (fun _ => false) (fun _ _ _ _ _ => false) (fun v _ m => Bool.and (eqL eqC m []) (eqO v none)) (nat_lit 21) (LTo s) [] [] [])) = true := by decide +kernel
section SG
variable {D : va_G} {cy : Nat → ClassId} {al : Nat → Nat} {rest : va_W}
theorem LTo_eq {x : sE} {s : Nat} : (LTo s).map (Option.map (sVal x al)) = [some (.ref (al 14)), some (.ref (al (37 + 2 * s)))] := by
  simp only [LTo, List.map_cons, List.map_nil, Option.map_some, sVal]
  rfl
theorem LSg_eq {x : sE} {s j : Nat} {y : Option sV} : (LSg s j y).map (Option.map (sVal x al)) = [some (.ref (al 0)), some (.int (Int32.ofNat s)), some (.int (Int32.ofNat j)), y.map (sVal x al)] := by
  simp only [LSg, List.map_cons, List.map_nil, Option.map_some, sVal, sI_c]
/-- straightenTold -/
theorem c_toX (l : Launch) {c d s : Nat} {r : sE} {t : List Nat} (hd : 19 ≤ d) (hc : c < 18) (hs : s < 4) (hcc : cC 0 68 (tX c) r) (ht : isFi (nOf c) (xP (37 + 2 * s) 0) r t) : gMet l D cy al d 83 (tW r al cy rest 68 tXv) [.ref (al 14), .ref (al (37 + 2 * s))] (fun v w => v = none ∧ ∃ r1, kp 0 68 tXv r r1 ∧ (∀ j, j < dOf c → r1.1 (xP 23 j) = Int32.ofInt (cwT c t j)) ∧ w = tW r1 al cy rest 68 tXv) := by
  refine gMet_up hd ?_
  obtain ⟨⟨d1, d6⟩, n1, n5⟩ := cd_tab c hc
  have hqE := allL_ok q_toE s hs
  rw [Bool.and_eq_true] at hqE
  refine gMet_of (l := l) (D := D) (cy := cy) (al := al) (d := 19) (k := 83) (w := tW r al cy rest 68 tXv) (r := r) (as := [.inr (.inr (some (nat_lit 14))), .inr (.inr (some (Nat.add (nat_lit 37) (Nat.mul (nat_lit 2) s))))]) hqE.1 (fun At hFC => ?_)
  refine g_seg hFC (r := r) (al := al) (cy := cy) (rest := rest) (by omega) (tX_ok hc) hcc sPa_nil oX_nil (allL_ok (allL_ok q_to0 c hc) s hs) (fun m0 pc L st pa m hk hp hkp => ?_) (fun m0 v pa m hk => nomatch hk)
  rw [Bool.and_eq_true] at hk
  obtain ⟨rfl, rfl, rfl⟩ := kAt_ok hk.1
  rw [LTo_eq]
  refine hFC.2 18 21 82 18 _ [.ref (al 14)] [] _ _ ⟨_, _, rfl, rfl⟩ rfl (by decide) rfl (gRecv_x (j := 14) (show 14 < 68 by omega) rfl rfl) (c_swX l (by omega) hc (kpX_cC hc hkp hcc) ht.1 (fun i hi => by
    have h5 := isE_ok (b := 0) (r := r) (show i < 4096 by omega) (allL_ok hk.2 i hi)
    rw [show xP 22 i = 4096 * (0 + 22) + i by unfold xP; omega, h5, sI_v, ← ht.2 i hi]
    exact congrArg r.1 (show 4096 * (37 + 2 * s) + i = xP (37 + 2 * s) 0 + i by unfold xP; omega))) (fun v2 w2 h => ?_)
  obtain ⟨rfl, r2, j1, j2, rfl⟩ := h
  have kr := g_ret (v := none) hFC (r := r) (al := al) (w := tW r2 al cy rest 68 tXv) hqE.2 (fun v0 h0 => by rw [eqO_ok h0]; rfl) ⟨rfl, r2, kp_trans hkp j1, fun j hj => (j2 j hj).1, rfl⟩
  rw [LTo_eq] at kr
  exact kr
/-- the class' straight -/
theorem c_sgX (l : Launch) {c s j : Nat} {r : sE} {V : Value} (hc : c < 18) (hs : s < 4) (hj : j < dOf c) (hcc : cC 0 68 (tX c) r) (hso : r.1 (xP (36 + 2 * s) 0) = Int32.ofNat 2) (hsz : ¬ r.1 (xP (36 + 2 * s) 1) < Int32.ofNat (nOf c)) (hV : (∃ t, isFi (nOf c) (xP (37 + 2 * s) 0) r t ∧ V = .long (Int32.ofInt (cwT c t j)).toInt64) ∨ ((∀ t, ¬ isFi (nOf c) (xP (37 + 2 * s) 0) r t) ∧ V = .long (Int64.ofNat 9223372036854775808))) : gMet l D cy al 200 100 (tW r al cy rest 68 tXv) [.ref (al 0), .int (Int32.ofNat s), .int (Int32.ofNat j)] (fun v w => (v = some V) ∧ ∃ r1, kp 0 68 tXv r r1 ∧ w = tW r1 al cy rest 68 tXv) := by
  refine gMet_up (d := 20) (by omega) ?_
  obtain ⟨⟨d1, d6⟩, n1, n5⟩ := cd_tab c hc
  have key := gMet_of (l := l) (D := D) (cy := cy) (al := al) (d := 20) (k := 100) (w := tW r al cy rest 68 tXv) (r := r) (G := fun v w => (v = some V) ∧ ∃ r1, kp 0 68 tXv r r1 ∧ w = tW r1 al cy rest 68 tXv) (allL_ok (allL_ok q_sgE s hs) j (show j < 6 by omega)) (fun At hFC => ?_)
  · simp only [List.map_cons, List.map_nil, sVal, sI_c] at key
    exact key
  have hq := allL_ok (allL_ok (allL_ok q_sg123 c hc) s hs) j hj
  rw [Bool.and_eq_true, Bool.and_eq_true] at hq
  refine g_segS hFC (r := r) (al := al) (cy := cy) (rest := rest) (tX_ok hc) hcc (fun q hq => by
    rw [List.mem_singleton] at hq
    subst hq
    show ¬ sI r _ < sI r _
    rw [sI_v, sI_c]
    exact hsz) (oX_cons (by rw [sI_c]; exact hso) oX_nil) (allL_ok (allL_ok (allL_ok q_sg0 c hc) s hs) j hj) (fun pc L st pa hk hp => ?_) (fun v pa hk => nomatch hk)
  obtain ⟨rfl, rfl, rfl⟩ := kAt_ok hk
  rw [LSg_eq]
  simp only [Option.map_some, List.map_cons, List.map_nil, sVal]
  refine hFC.2 50 53 61 19 _ [.ref (al 1), .ref (al (37 + 2 * s))] [] _ _ ⟨_, _, rfl, rfl⟩ rfl (by decide) rfl (gRecv_x (j := 1) (show 1 < 68 by omega) rfl rfl) (c_fiX l (by omega) hc hs hcc) (fun v2 w2 h => ?_)
  obtain ⟨r1, k1, rfl, h⟩ := h
  have kp1 := kpX_cC hc k1 hcc
  rcases h with ⟨rfl, t, ht⟩ | ⟨rfl, hno⟩
  · have ht1 : isFi (nOf c) (xP (37 + 2 * s) 0) r1 t := ⟨ht.1, fun k hk => by
      have q1 := ac_pl s hs k (by omega)
      rw [show xP (37 + 2 * s) k = xP (37 + 2 * s) 0 + k by unfold xP; omega] at q1
      rw [k1.1 _ q1.1 q1.2]
      exact ht.2 k hk⟩
    have hVt : V = .long (Int32.ofInt (cwT c t j)).toInt64 := by
      rcases hV with ⟨t2, h2, h3⟩ | ⟨h2, -⟩
      · have e : cwT c t2 = cwT c t := by rw [isFi_uni n1 n5 h2 ht]
        rw [h3, e]
      · exact absurd ht (h2 t)
    have g := g_segS hFC (r := r1) (al := al) (cy := cy) (rest := rest) (tX_ok hc) kp1 sPa_nil oX_nil hq.1 (fun pc L st pa hk hp => ?_) (fun v pa hk => nomatch hk)
    · rw [LSg_eq] at g
      simp only [Option.map_some, List.map_cons, List.map_nil, sVal, sI_c] at g
      exact g
    obtain ⟨rfl, rfl, rfl⟩ := kAt_ok hk
    rw [LSg_eq]
    simp only [Option.map_some, List.map_cons, List.map_nil, sVal]
    refine hFC.2 68 71 83 19 _ [.ref (al 14), .ref (al (37 + 2 * s))] [] _ _ ⟨_, _, rfl, rfl⟩ rfl (by decide) rfl (gRecv_x (j := 14) (show 14 < 68 by omega) rfl rfl) (c_toX l (by omega) hc hs kp1 ht1) (fun v2 w2 h => ?_)
    obtain ⟨rfl, r2, k2, j2, rfl⟩ := h
    have g := g_segS hFC (r := r2) (al := al) (cy := cy) (rest := rest) (tX_ok hc) (kpX_cC hc k2 kp1) sPa_nil oX_nil hq.2.2 (fun pc L st pa hk => nomatch hk) (fun v pa hk hp => ?_)
    · rw [LSg_eq] at g
      simp only [Option.map_some, List.map_nil, sVal] at g
      exact g
    · rw [eqO_ok hk]
      refine ⟨?_, r2, kp_trans k1 k2, rfl⟩
      show some (Value.long (sJ r2 (.pow (.neg (.var (94208 + j))) 21))) = _
      rw [hVt, sJ_i2l ((congrArg r2.1 (show 94208 + j = xP 23 j by unfold xP; omega)).trans (j2 j hj))]
  · have hVt : V = .long (Int64.ofNat 9223372036854775808) := by
      rcases hV with ⟨t2, h2, -⟩ | ⟨-, h3⟩
      · exact absurd h2 (hno t2)
      · exact h3
    have g := g_segS hFC (r := r1) (al := al) (cy := cy) (rest := rest) (tX_ok hc) kp1 sPa_nil oX_nil hq.2.1 (fun pc L st pa hk => nomatch hk) (fun v pa hk hp => ?_)
    · rw [LSg_eq] at g
      simp only [Option.map_some, List.map_cons, List.map_nil, sVal, sI_c] at g
      exact g
    · rw [eqO_ok hk]
      refine ⟨?_, r1, k1, rfl⟩
      show some (Value.long (sJ r1 (.natCast (nat_lit 9223372036854775808)))) = _
      rw [hVt]
      simp only [sJ, sD_c]
end SG
