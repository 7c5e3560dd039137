/-! 98c: fillings, the model (by wip/whole/mk98c.py) -/
noncomputable def fX (p k : Nat) : sX := .var (Nat.add p k)
/-- what the path knows of the numbers -/
noncomputable def knL (p : Nat) (pa : List sK) (m : Nat) : Nat → (List Nat → Bool) → Bool := Nat.rec (motive := fun _ => Nat → (List Nat → Bool) → Bool) (fun _ f => f []) (fun _ ih i f => sKn (fX p i) (fun a => ih (Nat.succ i) (fun l => f (a :: l))) false pa) m
theorem knL_ok {r : sE} {p : Nat} {pa : List sK} (hp : sPa r pa) : ∀ (m i : Nat) (f : List Nat → Bool), knL p pa m i f = true → ∃ l, f l = true ∧ ∀ k, k < m → r.1 (p + (i + k)) = Int32.ofNat (nthO l k)
  | 0, _, _, h => ⟨_, h, fun k hk => absurd hk (by omega)⟩
  | m + 1, i, f, h => by
    have h2 : sKn (fX p i) (fun a => knL p pa m (Nat.succ i) (fun l => f (a :: l))) false pa = true := h
    rcases sKn_ok hp h2 with ⟨a, e, h3⟩ | h3
    · obtain ⟨l, g1, g2⟩ := knL_ok hp m _ _ h3
      refine ⟨_, g1, fun k hk => ?_⟩
      cases k with
      | zero =>
        have e2 : r.1 (p + i) = Int32.ofNat a := by rw [← e]; exact (sI_v (r := r) (i := p + i)).symm
        exact e2
      | succ k =>
        have := g2 k (by omega)
        rw [show i + (k + 1) = Nat.succ i + k by omega, this]
        rfl
    · exact nomatch h3
noncomputable def permC (n : Nat) (t : List Nat) : Bool := Bool.and (allL n (fun i => anyN n (fun k => Nat.beq (nthO t k) (Nat.succ i)))) (Bool.and (allL n (fun k => allL k (fun k2 => Bool.not (Nat.beq (nthO t k) (nthO t k2))))) (allL n (fun k => Bool.and (Nat.ble (nat_lit 1) (nthO t k)) (Nat.ble (nthO t k) n))))
theorem q_perm : allL 5 (fun n => lAll (permC (Nat.succ n)) (ordN (Nat.succ n))) = true := by decide +kernel
/-- the numbers from p on are a filling's -/
def isFi (n p : Nat) (r : sE) (t : List Nat) : Prop := t ∈ ordN n ∧ ∀ k, k < n → r.1 (p + k) = Int32.ofNat (nthO t k)
noncomputable def noP (n p : Nat) (pa : List sK) : Bool := anyN n (fun i => Bool.or (allL n (fun k => Bool.or (paN (fX p k) (.natCast (Nat.succ i)) pa) (sKn (fX p k) (fun a => Bool.and (Nat.ble a (nat_lit 5)) (Bool.not (Nat.beq a (Nat.succ i)))) false pa))) (anyN n (fun k => anyN k (fun k2 => Bool.and (paY (fX p k) (.natCast (Nat.succ i)) pa) (paY (fX p k2) (.natCast (Nat.succ i)) pa)))))
theorem n32_inj {a b : Nat} (ha : a < 1000) (hb : b < 1000) (h : Int32.ofNat a = Int32.ofNat b) : a = b := by
  exact i32_nat (by omega) (by omega) h
theorem noP_ok {r : sE} {n p : Nat} {pa : List sK} (hn : 1 ≤ n) (hn5 : n ≤ 5) (hp : sPa r pa) (h : noP n p pa = true) (t : List Nat) : ¬ isFi n p r t := by
  rintro ⟨ht, hx⟩
  obtain ⟨m, rfl⟩ : ∃ m, n = m + 1 := ⟨n - 1, by omega⟩
  have hc := lAll_ok (allL_ok q_perm m (by omega)) t ht
  unfold permC at hc
  rw [Bool.and_eq_true, Bool.and_eq_true] at hc
  obtain ⟨i, hi, h2⟩ := anyN_ok h
  have hv : ∀ k, k < m + 1 → sI r (fX p k) = Int32.ofNat (nthO t k) ∧ nthO t k ≤ 5 := fun k hk => by
    have h7 := allL_ok hc.2.2 k hk
    rw [Bool.and_eq_true] at h7
    have h8 : nthO t k ≤ Nat.succ m := Nat.le_of_ble_eq_true h7.2
    exact ⟨(sI_v (r := r) (i := p + k)).trans (hx k hk), by omega⟩
  rw [Bool.or_eq_true] at h2
  rcases h2 with h2 | h2
  · obtain ⟨k, hk, e⟩ := anyN_ok (allL_ok hc.1 i hi)
    have e := Nat.eq_of_beq_eq_true e
    have h3 := allL_ok h2 k hk
    rw [Bool.or_eq_true] at h3
    obtain ⟨v1, v2⟩ := hv k hk
    rcases h3 with h3 | h3
    · exact paN_ok hp h3 (by rw [v1, sI_c, e])
    · rcases sKn_ok hp h3 with ⟨a, e1, e2⟩ | e1
      · rw [Bool.and_eq_true] at e2
        have l5 : a ≤ 5 := Nat.le_of_ble_eq_true e2.1
        rw [v1, e] at e1
        have e3 := n32_inj (by omega) (by omega) e1
        rw [← e3] at e2
        have := e2.2
        rw [show Nat.beq (Nat.succ i) (Nat.succ i) = true from Nat.beq_refl _] at this
        exact nomatch this
      · exact nomatch e1
  · obtain ⟨k, hk, h3⟩ := anyN_ok h2
    obtain ⟨k2, hk2, h4⟩ := anyN_ok h3
    rw [Bool.and_eq_true] at h4
    have y1 := paY_ok hp h4.1
    have y2 := paY_ok hp h4.2
    obtain ⟨v1, v2⟩ := hv k hk
    obtain ⟨w1, w2⟩ := hv k2 (by omega)
    rw [v1] at y1
    rw [w1] at y2
    have e3 := n32_inj (by omega) (by omega) (y1.trans y2.symm)
    have h5 := allL_ok (allL_ok hc.2.1 k hk) k2 hk2
    rw [e3, show Nat.beq (nthO t k2) (nthO t k2) = true from Nat.beq_refl _] at h5
    exact nomatch h5
noncomputable def fiM (n s : Nat) : Bool := sBeg (nat_lit 69) (nat_lit 45) tMv (memB [(nat_lit 0), (nat_lit 2), (nat_lit 3), (nat_lit 9), (nat_lit 21), (nat_lit 22)]) [((nat_lit 0), (nat_lit 1), .natCast n)] (fun m0 => sRun (nat_lit 2000) (nat_lit 10) (nat_lit 179) [] m0 [.inr (.inr (some (nat_lit 0))), .inl (.natCast s)] (fun v pa m => Bool.and (sKC chSt (nat_lit 69) (nat_lit 45) tMv (memB [(nat_lit 0), (nat_lit 2), (nat_lit 3), (nat_lit 9), (nat_lit 21), (nat_lit 22)]) m0 m) (Bool.or (Bool.and (eqO v (some (.inl (.natCast (nat_lit 1))))) (knL (Nat.add (nat_lit 319488) (Nat.mul (nat_lit 20) s)) pa n (nat_lit 0) (fun l => Bool.and (Bool.and (isP n (appL l (restO n))) (allL n (fun k => Nat.beq (nthO (appL l (restO n)) k) (nthO l k)))) (allL n (fun k => Bool.and (isE m (nat_lit 21) (nthO l k) (.var (Nat.add (nat_lit 290816) k))) (isE m (nat_lit 22) (nthO l k) (.var (Nat.add (nat_lit 294912) k)))))))) (Bool.and (eqO v (some (.inl (.natCast (nat_lit 0))))) (noP n (Nat.add (nat_lit 319488) (Nat.mul (nat_lit 20) s)) pa)))))
theorem q_fiM1 : allL 4 (fun n => allL 4 (fun s => fiM (Nat.succ n) s)) = true := by decide +kernel
theorem q_fiM2 : allL 2 (fun s => fiM (nat_lit 5) s) = true := by decide +kernel
theorem q_fiM3 : allL 2 (fun s => fiM (nat_lit 5) (Nat.add (nat_lit 2) s)) = true := by decide +kernel
theorem q_fiM {n s : Nat} (hn : 1 ≤ n) (hn5 : n ≤ 5) (hs : s < 4) : fiM n s = true := by
  by_cases h : n = 5
  · subst h
    by_cases h4 : s < 2
    · exact allL_ok q_fiM2 s h4
    · obtain ⟨e, rfl⟩ : ∃ e, s = 2 + e := ⟨s - 2, by omega⟩
      exact allL_ok q_fiM3 e (by omega)
  · obtain ⟨m, rfl⟩ : ∃ m, n = m + 1 := ⟨n - 1, by omega⟩
    exact allL_ok (allL_ok q_fiM1 m (by omega)) s hs
section FM
variable {D : va_G} {cy : Nat → ClassId} {al : Nat → Nat} {rest : va_W}
/-- the model's isFilling -/
theorem c_fiM (l : Launch) {d n s : Nat} {r : sE} (hd : 10 ≤ d) (hn : 1 ≤ n) (hn5 : n ≤ 5) (hs : s < 4) (hnr : r.1 (mP 0 1) = Int32.ofNat n) : gMet l D cy al d 179 (tW r al cy rest 45 tMv) [.ref (al 0), .int (Int32.ofNat s)] (fun v w => ∃ r1, kpC chSt 69 45 tMv r r1 ∧ w = tW r1 al cy rest 45 tMv ∧ ((v = some (.int (Int32.ofNat 1)) ∧ ∃ t, isFi n (mP 9 (20 * s)) r t ∧ ∀ k, k < n → r1.1 (mP 21 (nthO t k)) = r.1 (mP 2 k) ∧ r1.1 (mP 22 (nthO t k)) = r.1 (mP 3 k)) ∨ (v = some (.int (Int32.ofNat 0)) ∧ ∀ t, ¬ isFi n (mP 9 (20 * s)) r t))) := by
  refine gMet_up hd ?_
  have key := c_runC (Ch := chSt) l (D := D) (cy := cy) (al := al) (rest := rest) (d := 10) (k := 179) (as := [.inr (.inr (some (nat_lit 0))), .inl (.natCast s)]) (r := r) (by omega) tMv_ok (cC_M r) sPa_nil (oM_cons (by rw [sI_c]; exact hnr) oM_nil) (q_fiM hn hn5 hs) (G := fun v w => ∃ r1, kpC chSt 69 45 tMv r r1 ∧ w = tW r1 al cy rest 45 tMv ∧ ((v = some (.int (Int32.ofNat 1)) ∧ ∃ t, isFi n (mP 9 (20 * s)) r t ∧ ∀ k, k < n → r1.1 (mP 21 (nthO t k)) = r.1 (mP 2 k) ∧ r1.1 (mP 22 (nthO t k)) = r.1 (mP 3 k)) ∨ (v = some (.int (Int32.ofNat 0)) ∧ ∀ t, ¬ isFi n (mP 9 (20 * s)) r t))) (fun m0 v pa m hk hp hkp => ?_)
  · rw [show List.map (sVal r al) [.inr (.inr (some (nat_lit 0))), .inl (.natCast s)] = [.ref (al 0), .int (Int32.ofNat s)] by simp only [List.map_cons, List.map_nil, sVal, sI_c]] at key
    exact key
  have eB : 319488 + 20 * s = mP 9 (20 * s) := by unfold mP; omega
  refine ⟨_, hkp, rfl, ?_⟩
  rw [Bool.or_eq_true, Bool.and_eq_true, Bool.and_eq_true] at hk
  rcases hk with ⟨h1, h2⟩ | ⟨h1, h2⟩
  · obtain ⟨q, g1, g2⟩ := knL_ok hp n 0 _ h2
    rw [Bool.and_eq_true, Bool.and_eq_true] at g1
    obtain ⟨⟨p1, p2⟩, p3⟩ := g1
    have hin : appL q (restO n) ∈ ordN n := isP_in hn hn5 p1
    obtain ⟨m1, rfl⟩ : ∃ m, n = m + 1 := ⟨n - 1, by omega⟩
    have hc := lAll_ok (allL_ok q_perm m1 (by omega)) _ hin
    unfold permC at hc
    rw [Bool.and_eq_true, Bool.and_eq_true] at hc
    refine Or.inl ⟨by rw [eqO_ok h1]; simp only [Option.map_some, sVal, sI_c], appL q (restO (m1 + 1)), ⟨hin, fun k hk => ?_⟩, fun k hk => ?_⟩
    · have := g2 k hk
      rw [show nthO (appL q (restO (m1 + 1))) k = nthO q k from Nat.eq_of_beq_eq_true (allL_ok p2 k hk), ← this, ← eB]
      exact congrArg r.1 (show 319488 + 20 * s + k = 319488 + 20 * s + (0 + k) by omega)
    · have e0 : nthO (appL q (restO (m1 + 1))) k = nthO q k := Nat.eq_of_beq_eq_true (allL_ok p2 k hk)
      have h7 := allL_ok hc.2.2 k hk
      rw [Bool.and_eq_true] at h7
      have h8 : nthO (appL q (restO (m1 + 1))) k ≤ Nat.succ m1 := Nat.le_of_ble_eq_true h7.2
      rw [e0] at h8 ⊢
      have h9 := allL_ok p3 k hk
      rw [Bool.and_eq_true] at h9
      have z1 := isE_ok (b := 69) (r := r) (show nthO q k < 4096 by omega) h9.1
      have z2 := isE_ok (b := 69) (r := r) (show nthO q k < 4096 by omega) h9.2
      rw [sI_v] at z1 z2
      rw [show mP 21 (nthO q k) = 4096 * (69 + 21) + nthO q k by unfold mP; omega, z1, show mP 22 (nthO q k) = 4096 * (69 + 22) + nthO q k by unfold mP; omega, z2]
      exact ⟨congrArg r.1 (show 290816 + k = mP 2 k by unfold mP; omega), congrArg r.1 (show 294912 + k = mP 3 k by unfold mP; omega)⟩
  · refine Or.inr ⟨by rw [eqO_ok h1]; simp only [Option.map_some, sVal, sI_c], fun t => ?_⟩
    rw [← eB]
    exact noP_ok hn hn5 hp h2 t
end FM
