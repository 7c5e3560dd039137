/-! 98j: which, the model: the loops (by wip/whole/mk98j.py) -/
noncomputable def bN (x : Bool) : Nat := Bool.rec (motive := fun _ => Nat) 0 1 x
theorem bN_lt {x : Bool} : bN x < 2 := by cases x <;> decide
theorem LYk_eq {x : sE} {al : Nat → Nat} {s k b p : Nat} : (LYk s k b p).map (Option.map (sVal x al)) = [some (.ref (al 0)), some (.int (Int32.ofNat s)), some (.int (Int32.ofNat k)), some (.int (Int32.ofNat b)), some (.int (Int32.ofNat p))] := by
  simp only [LYk, LYm, List.map_cons, List.map_nil, Option.map_some, sVal, sI_c]
theorem wi_in {l : Launch} {D : va_G} {cy : Nat → ClassId} {al : Nat → Nat} {rest : va_W} {c s : Nat} {r : sE} {t : List Nat} {Rt : Option Value → va_W → Prop} {At : gAt} (hFC : gFC l D cy al 180 20 Rt At) (hc : c < 18) (hs : s < 4) (hcc : cC 69 45 (tM c) r) (hF : FF (nOf c) (colT c t) (rowT c t) r) : ∀ (q p k : Nat), p + (q + 1) = nOf c → k < dOf c → (flP c t k (nOf c) = true → Rt (some (.int (Int32.ofNat k))) (tW r al cy rest 45 tMv)) → (flP c t k (nOf c) = false → (k + 1 < dOf c → At 87 [some (.ref (al 0)), some (.int (Int32.ofNat s)), some (.int (Int32.ofNat (k + 1))), some (.int (Int32.ofNat 1)), some (.int (Int32.ofNat 1))] [] (tW r al cy rest 45 tMv)) ∧ (k + 1 = dOf c → Rt (some (.int (Int32.ofNat 4294967294))) (tW r al cy rest 45 tMv))) → At 87 [some (.ref (al 0)), some (.int (Int32.ofNat s)), some (.int (Int32.ofNat k)), some (.int (Int32.ofNat (bN (flP c t k p)))), some (.int (Int32.ofNat (p + 1)))] [] (tW r al cy rest 45 tMv) := by
  have S1 : ∀ p k, p < nOf c → k < dOf c → At 143 [some (.ref (al 0)), some (.int (Int32.ofNat s)), some (.int (Int32.ofNat k)), some (.int (Int32.ofNat (bN (flP c t k (p + 1))))), some (.int (Int32.ofNat (p + 1)))] [] (tW r al cy rest 45 tMv) → At 87 [some (.ref (al 0)), some (.int (Int32.ofNat s)), some (.int (Int32.ofNat k)), some (.int (Int32.ofNat (bN (flP c t k p)))), some (.int (Int32.ofNat (p + 1)))] [] (tW r al cy rest 45 tMv) := fun p k hp hk hA => by
    have e : flP c t k (p + 1) = Bool.and (flP c t k p) (matP c t k (p + 1)) := rfl
    obtain ⟨c1, c2⟩ := hF.1 (p + 1) (by omega) (by omega)
    obtain ⟨r1, r2⟩ := hF.2 (p + 1) (by omega) (by omega)
    have x1 : sI r (fX (nat_lit 368640) (Nat.succ p)) = Int32.ofNat (rowT c t (p + 1)) := (sI_v (r := r) (i := 368640 + (p + 1))).trans ((congrArg r.1 (show 368640 + (p + 1) = mP 21 (p + 1) by unfold mP; omega)).trans r1)
    have x2 : sI r (fX (nat_lit 372736) (Nat.succ p)) = Int32.ofNat (colT c t (p + 1)) := (sI_v (r := r) (i := 372736 + (p + 1))).trans ((congrArg r.1 (show 372736 + (p + 1) = mP 22 (p + 1) by unfold mP; omega)).trans c1)
    obtain ⟨s1, s2⟩ := rs_tab c hc k hk p hp
    have g := g_segS hFC (r := r) (al := al) (cy := cy) (rest := rest) (tM_ok hc) hcc sPa_nil oM_nil (allL_ok (allL_ok (allL_ok (allL_ok (allL_ok q_wm2 c hc) s hs) k hk) (bN (flP c t k p)) bN_lt) p hp) (fun pc L st pa hk2 hp2 => ?_) (fun v pa hk2 => nomatch hk2)
    · rw [LYk_eq] at g
      exact g
    · rw [Bool.or_eq_true, Bool.and_eq_true, Bool.and_eq_true, Bool.and_eq_true, Bool.or_eq_true] at hk2
      rcases hk2 with ⟨h1, h2, h3⟩ | ⟨h1, h2⟩
      · obtain ⟨rfl, rfl, rfl⟩ := kAt_ok h1
        have y1 := paY_ok hp2 h2
        have y2 := paY_ok hp2 h3
        rw [x1, sI_c] at y1
        rw [x2, sI_c] at y2
        have z1 : rowS c k (p + 1) = rowT c t (p + 1) := n32_inj (by omega) (by omega) y1
        have z2 : colS c k (p + 1) = colT c t (p + 1) := n32_inj (by omega) (by omega) y2
        have m1 : matP c t k (p + 1) = true := by
          unfold matP
          rw [z1, z2, Bool.and_eq_true]
          exact ⟨Nat.beq_refl _, Nat.beq_refl _⟩
        rw [e, m1, Bool.and_true] at hA
        rw [LYk_eq]
        exact hA
      · obtain ⟨rfl, rfl, rfl⟩ := kAt_ok h1
        have m1 : matP c t k (p + 1) = false := by
          cases h4 : matP c t k (p + 1) with
          | false => rfl
          | true =>
            unfold matP at h4
            rw [Bool.and_eq_true] at h4
            have z1 := Nat.eq_of_beq_eq_true h4.1
            have z2 := Nat.eq_of_beq_eq_true h4.2
            rcases h2 with h2 | h2
            · exact absurd (by rw [x1, sI_c]; exact congrArg Int32.ofNat z1) (paN_ok hp2 h2)
            · exact absurd (by rw [x2, sI_c]; exact congrArg Int32.ofNat z2) (paN_ok hp2 h2)
        rw [e, m1, Bool.and_false] at hA
        rw [LYk_eq]
        exact hA
  intro q
  induction q with
  | zero =>
    intro p k hpq hk hT hN
    refine S1 p k (by omega) hk ?_
    have g := g_segS hFC (r := r) (al := al) (cy := cy) (rest := rest) (tM_ok hc) hcc sPa_nil oM_nil (allL_ok (allL_ok (allL_ok (allL_ok (allL_ok q_wm3 c hc) s hs) k hk) (bN (flP c t k (p + 1))) bN_lt) p (by omega)) (fun pc L st pa hk2 hp2 => ?_) (fun v pa hk2 hp2 => ?_)
    · rw [LYk_eq] at g
      exact g
    rotate_left
    · rw [Bool.and_eq_true, Bool.or_eq_true, Bool.and_eq_true, Bool.and_eq_true, Bool.and_eq_true] at hk2
      have he : p + 1 = nOf c := Nat.eq_of_beq_eq_true hk2.1
      rcases hk2.2 with ⟨h1, h2⟩ | ⟨⟨h1, h2⟩, h3⟩
      · rw [eqO_ok h2]
        cases hb : flP c t k (p + 1) with
        | false => rw [hb] at h1; exact nomatch h1
        | true =>
          rw [he] at hb
          have := hT hb
          simp only [Option.map_some, sVal, sI_c]
          exact this
      · rw [eqO_ok h3]
        have h2 : k + 1 = dOf c := Nat.eq_of_beq_eq_true h2
        cases hb : flP c t k (p + 1) with
        | true => rw [hb] at h1; exact nomatch h1
        | false =>
          rw [he] at hb
          have := (hN hb).2 h2
          simp only [Option.map_some, sVal, sI_c]
          exact this
    rw [Bool.or_eq_true, Bool.and_eq_true, Bool.and_eq_true, Bool.and_eq_true, Bool.and_eq_true] at hk2
    rcases hk2 with ⟨h1, h2⟩ | ⟨⟨h0, h1⟩, h2, h3⟩
    rotate_left
    · obtain ⟨rfl, rfl, rfl⟩ := kAt_ok h3
      have he : p + 1 = nOf c := Nat.eq_of_beq_eq_true h0
      have h2 : k + 2 ≤ dOf c := Nat.le_of_ble_eq_true h2
      cases hb : flP c t k (p + 1) with
      | true => rw [hb] at h1; exact nomatch h1
      | false =>
        rw [he] at hb
        rw [LYk_eq]
        exact (hN hb).1 (by omega)
    all_goals skip
    · have hle : p + 2 ≤ nOf c := Nat.le_of_ble_eq_true h1
      exact absurd hle (by omega)
  | succ q ih =>
    intro p k hpq hk hT hN
    refine S1 p k (by omega) hk ?_
    have g := g_segS hFC (r := r) (al := al) (cy := cy) (rest := rest) (tM_ok hc) hcc sPa_nil oM_nil (allL_ok (allL_ok (allL_ok (allL_ok (allL_ok q_wm3 c hc) s hs) k hk) (bN (flP c t k (p + 1))) bN_lt) p (by omega)) (fun pc L st pa hk2 hp2 => ?_) (fun v pa hk2 hp2 => ?_)
    · rw [LYk_eq] at g
      exact g
    rotate_left
    · rw [Bool.and_eq_true, Bool.or_eq_true, Bool.and_eq_true, Bool.and_eq_true, Bool.and_eq_true] at hk2
      have he : p + 1 = nOf c := Nat.eq_of_beq_eq_true hk2.1
      rcases hk2.2 with ⟨h1, h2⟩ | ⟨⟨h1, h2⟩, h3⟩
      · rw [eqO_ok h2]
        cases hb : flP c t k (p + 1) with
        | false => rw [hb] at h1; exact nomatch h1
        | true =>
          rw [he] at hb
          have := hT hb
          simp only [Option.map_some, sVal, sI_c]
          exact this
      · rw [eqO_ok h3]
        have h2 : k + 1 = dOf c := Nat.eq_of_beq_eq_true h2
        cases hb : flP c t k (p + 1) with
        | true => rw [hb] at h1; exact nomatch h1
        | false =>
          rw [he] at hb
          have := (hN hb).2 h2
          simp only [Option.map_some, sVal, sI_c]
          exact this
    rw [Bool.or_eq_true, Bool.and_eq_true, Bool.and_eq_true, Bool.and_eq_true, Bool.and_eq_true] at hk2
    rcases hk2 with ⟨h1, h2⟩ | ⟨⟨h0, h1⟩, h2, h3⟩
    rotate_left
    · obtain ⟨rfl, rfl, rfl⟩ := kAt_ok h3
      have he : p + 1 = nOf c := Nat.eq_of_beq_eq_true h0
      have h2 : k + 2 ≤ dOf c := Nat.le_of_ble_eq_true h2
      cases hb : flP c t k (p + 1) with
      | true => rw [hb] at h1; exact nomatch h1
      | false =>
        rw [he] at hb
        rw [LYk_eq]
        exact (hN hb).1 (by omega)
    all_goals skip
    · obtain ⟨rfl, rfl, rfl⟩ := kAt_ok h2
      rw [LYk_eq]
      exact ih (p + 1) k (by omega) hk hT hN
