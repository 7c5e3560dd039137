/-! 98g: which, the class (by wip/whole/mk98g.py) -/
/-- the filling t is the standard one k -/
noncomputable def tstP (c : Nat) (t : List Nat) (k : Nat) : Bool := allL (nOf c) (fun e => Nat.beq (nthO t e) (Nat.succ (nthO (nthL (nthL CIS c) k) e)))
/-- the first from k on, m of them -/
noncomputable def wiF (c : Nat) (t : List Nat) (m : Nat) : Nat → Nat := Nat.rec (motive := fun _ => Nat → Nat) (fun _ => (nat_lit 4294967294)) (fun _ ih k => Bool.rec (motive := fun _ => Nat) (ih (Nat.succ k)) k (tstP c t k)) m
noncomputable def tb0 (c s k : Nat) : Bool := sBeg (nat_lit 0) (nat_lit 68) (tX c) (memB [(nat_lit 1), (nat_lit 5), (nat_lit 6), (nat_lit 7), (nat_lit 8), (nat_lit 9), (nat_lit 10), (nat_lit 11), Nat.add (nat_lit 37) (Nat.mul (nat_lit 2) s)]) [] (fun m0 => sRun (nat_lit 500) (nat_lit 19) (nat_lit 62) [] m0 [.inr (.inr (some (nat_lit 1))), .inl (.natCast k), .inr (.inr (some (Nat.add (nat_lit 37) (Nat.mul (nat_lit 2) s))))] (fun v pa m => Bool.and (sK0 (nat_lit 0) (nat_lit 68) (tX c) (memB [(nat_lit 1), (nat_lit 5), (nat_lit 6), (nat_lit 7), (nat_lit 8), (nat_lit 9), (nat_lit 10), (nat_lit 11), Nat.add (nat_lit 37) (Nat.mul (nat_lit 2) s)]) m0 m) (Bool.or (Bool.and (eqO v (some (.inl (.natCast (nat_lit 1))))) (allL (nOf c) (fun e => paY (fX (Nat.mul (nat_lit 4096) (Nat.add (nat_lit 37) (Nat.mul (nat_lit 2) s))) e) (.natCast (Nat.succ (nthO (nthL (nthL CIS c) k) e))) pa))) (Bool.and (eqO v (some (.inl (.natCast (nat_lit 0))))) (anyN (nOf c) (fun e => paN (fX (Nat.mul (nat_lit 4096) (Nat.add (nat_lit 37) (Nat.mul (nat_lit 2) s))) e) (.natCast (Nat.succ (nthO (nthL (nthL CIS c) k) e))) pa))))))
theorem q_tb0 : allL 18 (fun c => allL 4 (fun s => allL (dOf c) (fun k => tb0 c s k))) = true := by decide +kernel
theorem ci_bd : ∀ c, c < 18 → ∀ k, k < dOf c → ∀ e, e < nOf c → nthO (nthL (nthL CIS c) k) e < 5 := by decide +kernel
noncomputable def LYh (s : Nat) (x y : Option sV) : sL := [some (.inr (.inr (some (nat_lit 0)))), some (.inl (.natCast s)), x, y]
noncomputable def wx0 (c s : Nat) : Bool := sBeg (nat_lit 0) (nat_lit 68) (tX c) (memB [(nat_lit 0), (nat_lit 1), (nat_lit 35), Nat.add (nat_lit 36) (Nat.mul (nat_lit 2) s)]) [(Nat.add (nat_lit 36) (Nat.mul (nat_lit 2) s), (nat_lit 0), .natCast (nat_lit 2))] (fun m0 => sx PG (nat_lit 500) (nat_lit 20) (PG (nat_lit 92)) (fun pc => Nat.beq pc (nat_lit 48)) (fun pc L st pa m => Bool.and (eqL eqC m m0) (kAt (nat_lit 48) (LYh s (some (.inl (.natCast (nat_lit 0)))) none) [.inr (.inr (some (Nat.add (nat_lit 37) (Nat.mul (nat_lit 2) s)))), .inr (.inr (some (nat_lit 1)))] pc L st)) (fun _ _ m => Bool.and (eqL eqC m m0) false) (nat_lit 0) (LYh s none none) [] [(false, false, .var (Nat.add (Nat.mul (nat_lit 4096) (Nat.add (nat_lit 36) (Nat.mul (nat_lit 2) s))) (nat_lit 1)), .natCast (nOf c))] m0)
theorem q_wx0 : allL 18 (fun c => allL 4 (fun s => wx0 c s)) = true := by decide +kernel
theorem q_wxE : allL 4 (fun s => sEnt [.inr (.inr (some (nat_lit 0))), .inl (.natCast s)] (PG (nat_lit 92)).2.1 (fun L => eqL eqO L (LYh s none none))) = true := by decide +kernel
noncomputable def wx1 (c s : Nat) : Bool := Bool.and (sBeg (nat_lit 0) (nat_lit 68) (tX c) (memB [(nat_lit 0), (nat_lit 1), (nat_lit 35), Nat.add (nat_lit 36) (Nat.mul (nat_lit 2) s)]) [] (fun m0 => sx PG (nat_lit 500) (nat_lit 20) (PG (nat_lit 92)) (fun pc => Nat.beq pc (nat_lit 84)) (fun pc L st pa m => Bool.and (eqL eqC m m0) (kAt (nat_lit 84) (LYh s (some (.inl (.natCast (nat_lit 0)))) (some (.inl (.natCast (nat_lit 0))))) [.inr (.inr (some (Nat.add (nat_lit 37) (Nat.mul (nat_lit 2) s)))), .inl (.natCast (nat_lit 0)), .inr (.inr (some (nat_lit 1)))] pc L st)) (fun _ _ m => Bool.and (eqL eqC m m0) false) (nat_lit 51) (LYh s (some (.inl (.natCast (nat_lit 0)))) none) [.inl (.natCast (nat_lit 1))] [] m0)) (sBeg (nat_lit 0) (nat_lit 68) (tX c) (memB [(nat_lit 0), (nat_lit 1), (nat_lit 35), Nat.add (nat_lit 36) (Nat.mul (nat_lit 2) s)]) [] (fun m0 => sx PG (nat_lit 500) (nat_lit 20) (PG (nat_lit 92)) (fun _ => false) (fun _ _ _ _ m => Bool.and (eqL eqC m m0) false) (fun v pa m => Bool.and (eqL eqC m m0) (eqO v (some (.inl (.natCast (nat_lit 4294967291)))))) (nat_lit 51) (LYh s (some (.inl (.natCast (nat_lit 0)))) none) [.inl (.natCast (nat_lit 0))] [] m0))
noncomputable def wx2 (c s k b : Nat) : Bool := sBeg (nat_lit 0) (nat_lit 68) (tX c) (memB [(nat_lit 0), (nat_lit 1), (nat_lit 35), Nat.add (nat_lit 36) (Nat.mul (nat_lit 2) s)]) [] (fun m0 => sx PG (nat_lit 500) (nat_lit 20) (PG (nat_lit 92)) (fun pc => Nat.beq pc (nat_lit 84)) (fun pc L st pa m => Bool.and (eqL eqC m m0) (Bool.and (Nat.beq b (nat_lit 0)) (Bool.and (Nat.ble (Nat.succ (Nat.succ k)) (dOf c)) (kAt (nat_lit 84) (LYh s (some (.inl (.natCast (nat_lit 0)))) (some (.inl (.natCast (Nat.succ k))))) [.inr (.inr (some (Nat.add (nat_lit 37) (Nat.mul (nat_lit 2) s)))), .inl (.natCast (Nat.succ k)), .inr (.inr (some (nat_lit 1)))] pc L st)))) (fun v pa m => Bool.and (eqL eqC m m0) (Bool.or (Bool.and (Nat.beq b (nat_lit 1)) (eqO v (some (.inl (.natCast k))))) (Bool.and (Bool.and (Nat.beq b (nat_lit 0)) (Nat.beq (Nat.succ k) (dOf c))) (eqO v (some (.inl (.natCast (nat_lit 4294967294)))))))) (nat_lit 87) (LYh s (some (.inl (.natCast (nat_lit 0)))) (some (.inl (.natCast k)))) [.inl (.natCast b)] [] m0)
theorem q_wx : allL 18 (fun c => allL 4 (fun s => Bool.and (wx1 c s) (allL (dOf c) (fun k => Bool.and (wx2 c s k (nat_lit 0)) (wx2 c s k (nat_lit 1)))))) = true := by decide +kernel
section WX
variable {D : va_G} {cy : Nat → ClassId} {al : Nat → Nat} {rest : va_W}
theorem LYh_eq {x : sE} {s : Nat} {a b : Option sV} : (LYh s a b).map (Option.map (sVal x al)) = [some (.ref (al 0)), some (.int (Int32.ofNat s)), a.map (sVal x al), b.map (sVal x al)] := by
  simp only [LYh, List.map_cons, List.map_nil, Option.map_some, sVal, sI_c]
theorem isFi_num {n p : Nat} {r : sE} {t : List Nat} (hn : 1 ≤ n) (hn5 : n ≤ 5) (h : isFi n p r t) : ∀ k, k < n → nthO t k ≤ 5 := fun k hk => by
  obtain ⟨m, rfl⟩ : ∃ m, n = m + 1 := ⟨n - 1, by omega⟩
  have hc2 := lAll_ok (allL_ok q_perm m (by omega)) t h.1
  unfold permC at hc2
  rw [Bool.and_eq_true, Bool.and_eq_true] at hc2
  have h7 := allL_ok hc2.2.2 k hk
  rw [Bool.and_eq_true] at h7
  have h8 : nthO t k ≤ Nat.succ m := Nat.le_of_ble_eq_true h7.2
  omega
/-- isToldBy, of a filling -/
theorem c_tbX (l : Launch) {c d s k : Nat} {r : sE} {t : List Nat} (hd : 19 ≤ d) (hc : c < 18) (hs : s < 4) (hk : k < dOf c) (hcc : cC 0 68 (tX c) r) (ht : isFi (nOf c) (xP (37 + 2 * s) 0) r t) : gMet l D cy al d 62 (tW r al cy rest 68 tXv) [.ref (al 1), .int (Int32.ofNat k), .ref (al (37 + 2 * s))] (fun v w => v = some (.int (Int32.ofNat (Bool.rec (motive := fun _ => Nat) 0 1 (tstP c t k)))) ∧ ∃ r1, kp 0 68 tXv r r1 ∧ w = tW r1 al cy rest 68 tXv) := by
  refine gMet_up hd ?_
  obtain ⟨⟨d1, d6⟩, n1, n5⟩ := cd_tab c hc
  have hx : ∀ e, e < nOf c → sI r (fX (Nat.mul (nat_lit 4096) (Nat.add (nat_lit 37) (Nat.mul (nat_lit 2) s))) e) = Int32.ofNat (nthO t e) := fun e he => (sI_v (r := r) (i := 4096 * (37 + 2 * s) + e)).trans (by rw [← ht.2 e he]; exact congrArg r.1 (show 4096 * (37 + 2 * s) + e = xP (37 + 2 * s) 0 + e by unfold xP; omega))
  have key := c_run l (D := D) (cy := cy) (al := al) (rest := rest) (as := [.inr (.inr (some (nat_lit 1))), .inl (.natCast k), .inr (.inr (some (Nat.add (nat_lit 37) (Nat.mul (nat_lit 2) s))))]) (r := r) (by omega) (tX_ok hc) hcc sPa_nil oX_nil (allL_ok (allL_ok (allL_ok q_tb0 c hc) s hs) k hk) (G := fun v w => v = some (.int (Int32.ofNat (Bool.rec (motive := fun _ => Nat) 0 1 (tstP c t k)))) ∧ ∃ r1, kp 0 68 tXv r r1 ∧ w = tW r1 al cy rest 68 tXv) (fun m0 v pa m h1 hp hkp => ?_)
  · simp only [List.map_cons, List.map_nil, sVal, sI_c] at key
    exact key
  refine ⟨?_, _, hkp, rfl⟩
  rw [Bool.or_eq_true, Bool.and_eq_true, Bool.and_eq_true] at h1
  rcases h1 with ⟨h1, h2⟩ | ⟨h1, h2⟩
  · have e : tstP c t k = true := allL_mk (fun e he => by
      have y := paY_ok hp (allL_ok h2 e he)
      rw [hx e he, sI_c] at y
      have y2 := n32_inj (by have := isFi_num n1 n5 ht e he; omega) (by have := ci_bd c hc k hk e he; omega) y
      show Nat.beq _ _ = true
      rw [y2]
      exact Nat.beq_refl _)
    rw [eqO_ok h1, e]
    simp only [Option.map_some, sVal, sI_c]
  · obtain ⟨e, he, h3⟩ := anyN_ok h2
    have f : tstP c t k = false := by
      cases h4 : tstP c t k with
      | false => rfl
      | true =>
        have y2 := Nat.eq_of_beq_eq_true (allL_ok h4 e he)
        exact absurd (by rw [hx e he, sI_c, y2]) (paN_ok hp h3)
    rw [eqO_ok h1, f]
    simp only [Option.map_some, sVal, sI_c]
end WX
