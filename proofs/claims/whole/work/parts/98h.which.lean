/-! 98h: which, the class by contract (by wip/whole/mk98h.py) -/
section WY
variable {D : va_G} {cy : Nat → ClassId} {al : Nat → Nat} {rest : va_W}
theorem isFi_kp {n s : Nat} {r r1 : sE} {t : List Nat} (hn5 : n ≤ 5) (hs : s < 4) (h : isFi n (xP (37 + 2 * s) 0) r t) (k1 : kp 0 68 tXv r r1) : isFi n (xP (37 + 2 * s) 0) r1 t := ⟨h.1, fun k hk => by
  have q1 := ac_pl s hs k (by omega)
  rw [show xP (37 + 2 * s) k = xP (37 + 2 * s) 0 + k by unfold xP; omega] at q1
  rw [k1.1 _ q1.1 q1.2]
  exact h.2 k hk⟩
/-- the class' which -/
theorem c_wiX (l : Launch) {c s : Nat} {r : sE} {V : Value} (hc : c < 18) (hs : s < 4) (hcc : cC 0 68 (tX c) r) (hso : r.1 (xP (36 + 2 * s) 0) = Int32.ofNat 2) (hsz : ¬ r.1 (xP (36 + 2 * s) 1) < Int32.ofNat (nOf c)) (hV : (∃ t, isFi (nOf c) (xP (37 + 2 * s) 0) r t ∧ V = .int (Int32.ofNat (wiF c t (dOf c) 0))) ∨ ((∀ t, ¬ isFi (nOf c) (xP (37 + 2 * s) 0) r t) ∧ V = .int (Int32.ofNat 4294967291))) : gMet l D cy al 200 92 (tW r al cy rest 68 tXv) [.ref (al 0), .int (Int32.ofNat s)] (fun v w => v = some V ∧ ∃ r1, kp 0 68 tXv r r1 ∧ w = tW r1 al cy rest 68 tXv) := by
  refine gMet_up (d := 20) (by omega) ?_
  obtain ⟨⟨d1, d6⟩, n1, n5⟩ := cd_tab c hc
  have key := gMet_of (l := l) (D := D) (cy := cy) (al := al) (d := 20) (k := 92) (w := tW r al cy rest 68 tXv) (r := r) (G := fun v w => v = some V ∧ ∃ r1, kp 0 68 tXv r r1 ∧ w = tW r1 al cy rest 68 tXv) (allL_ok q_wxE s hs) (fun At hFC => ?_)
  · simp only [List.map_cons, List.map_nil, sVal, sI_c] at key
    exact key
  have hq := allL_ok (allL_ok q_wx c hc) s hs
  unfold wx1 at hq
  rw [Bool.and_eq_true, Bool.and_eq_true] at hq
  refine g_segS hFC (r := r) (al := al) (cy := cy) (rest := rest) (tX_ok hc) hcc (fun q hq => by
    rw [List.mem_singleton] at hq
    subst hq
    show ¬ sI r _ < sI r _
    rw [sI_v, sI_c]
    exact hsz) (oX_cons (by rw [sI_c]; exact hso) oX_nil) (allL_ok (allL_ok q_wx0 c hc) s hs) (fun pc L st pa hk hp => ?_) (fun v pa hk => nomatch hk)
  obtain ⟨rfl, rfl, rfl⟩ := kAt_ok hk
  rw [LYh_eq]
  simp only [Option.map_some, Option.map_none, List.map_cons, List.map_nil, sVal, sI_c]
  refine hFC.2 48 51 61 19 _ [.ref (al 1), .ref (al (37 + 2 * s))] [] _ _ ⟨_, _, rfl, rfl⟩ rfl (by decide) rfl (gRecv_x (j := 1) (show 1 < 68 by omega) rfl rfl) (c_fiX l (by omega) hc hs hcc) (fun v2 w2 h => ?_)
  obtain ⟨r1, k1, rfl, h⟩ := h
  have kp1 := kpX_cC hc k1 hcc
  rcases h with ⟨rfl, t, ht⟩ | ⟨rfl, hno⟩
  · have hVt : V = .int (Int32.ofNat (wiF c t (dOf c) 0)) := by
      rcases hV with ⟨t2, h2, h3⟩ | ⟨h2, -⟩
      · rw [h3, isFi_uni n1 n5 h2 ht]
      · exact absurd ht (h2 t)
    have loop : ∀ (m k : Nat) (r' : sE), k + (m + 1) = dOf c → kp 0 68 tXv r r' → V = .int (Int32.ofNat (wiF c t (m + 1) k)) → At 84 [some (.ref (al 0)), some (.int (Int32.ofNat s)), some (.int (Int32.ofNat 0)), some (.int (Int32.ofNat k))] [.ref (al (37 + 2 * s)), .int (Int32.ofNat k), .ref (al 1)] (tW r' al cy rest 68 tXv) := by
      intro m
      induction m with
      | zero =>
        intro k r' hkm hk' hw
        have htr := isFi_kp n5 hs ht hk'
        refine hFC.2 84 87 62 19 _ [.ref (al 1), .int (Int32.ofNat k), .ref (al (37 + 2 * s))] [] _ _ ⟨_, _, rfl, rfl⟩ rfl (by decide) rfl (gRecv_x (j := 1) (show 1 < 68 by omega) rfl rfl) (c_tbX l (by omega) hc hs (by omega) (kpX_cC hc hk' hcc) htr) (fun v2 w2 h => ?_)
        obtain ⟨rfl, r2, k2, rfl⟩ := h
        have w1 : ∀ m, tstP c t k = true → wiF c t (m + 1) k = k := fun m h => by
          show Bool.rec (motive := fun _ => Nat) (wiF c t m (Nat.succ k)) k (tstP c t k) = k
          rw [h]
        have w0 : ∀ {m}, tstP c t k = false → wiF c t (m + 1) k = wiF c t m (k + 1) := fun {m} h => by
          show Bool.rec (motive := fun _ => Nat) (wiF c t m (Nat.succ k)) k (tstP c t k) = _
          rw [h]
        have hq2 := allL_ok hq.2 k (by omega)
        rw [Bool.and_eq_true] at hq2
        cases hT : tstP c t k with
        | true =>
          have g := g_segS hFC (r := r2) (al := al) (cy := cy) (rest := rest) (tX_ok hc) (kpX_cC hc (kp_trans hk' k2) hcc) sPa_nil oX_nil hq2.2 (fun pc L st pa hk hp => ?_) (fun v pa hk hp => ?_)
          · rw [LYh_eq] at g
            simp only [Option.map_some, List.map_cons, List.map_nil, sVal, sI_c] at g
            exact g
          · rw [Bool.and_eq_true] at hk
            exact nomatch hk.1
          · rw [Bool.or_eq_true, Bool.and_eq_true, Bool.and_eq_true, Bool.and_eq_true] at hk
            rcases hk with ⟨-, h2⟩ | ⟨⟨h1, -⟩, -⟩
            · rw [eqO_ok h2]
              refine ⟨?_, r2, kp_trans hk' k2, rfl⟩
              rw [hw, w1 _ hT]
              simp only [Option.map_some, sVal, sI_c]
            · exact nomatch h1
        | false =>
        have g := g_segS hFC (r := r2) (al := al) (cy := cy) (rest := rest) (tX_ok hc) (kpX_cC hc (kp_trans hk' k2) hcc) sPa_nil oX_nil hq2.1 (fun pc L st pa hk hp => ?_) (fun v pa hk hp => ?_)
        · rw [LYh_eq] at g
          simp only [Option.map_some, List.map_cons, List.map_nil, sVal, sI_c] at g
          exact g
        · rw [Bool.and_eq_true, Bool.and_eq_true] at hk
          have hle : k + 2 ≤ dOf c := Nat.le_of_ble_eq_true hk.2.1
          exact absurd hle (by omega)
        · rw [Bool.or_eq_true, Bool.and_eq_true, Bool.and_eq_true, Bool.and_eq_true] at hk
          rcases hk with ⟨h1, -⟩ | ⟨-, h2⟩
          · exact nomatch h1
          · rw [eqO_ok h2]
            refine ⟨?_, r2, kp_trans hk' k2, rfl⟩
            rw [hw, w0 hT]
            simp only [Option.map_some, sVal, sI_c]
            rfl
      | succ m ih =>
        intro k r' hkm hk' hw
        have htr := isFi_kp n5 hs ht hk'
        refine hFC.2 84 87 62 19 _ [.ref (al 1), .int (Int32.ofNat k), .ref (al (37 + 2 * s))] [] _ _ ⟨_, _, rfl, rfl⟩ rfl (by decide) rfl (gRecv_x (j := 1) (show 1 < 68 by omega) rfl rfl) (c_tbX l (by omega) hc hs (by omega) (kpX_cC hc hk' hcc) htr) (fun v2 w2 h => ?_)
        obtain ⟨rfl, r2, k2, rfl⟩ := h
        have w1 : ∀ m, tstP c t k = true → wiF c t (m + 1) k = k := fun m h => by
          show Bool.rec (motive := fun _ => Nat) (wiF c t m (Nat.succ k)) k (tstP c t k) = k
          rw [h]
        have w0 : ∀ {m}, tstP c t k = false → wiF c t (m + 1) k = wiF c t m (k + 1) := fun {m} h => by
          show Bool.rec (motive := fun _ => Nat) (wiF c t m (Nat.succ k)) k (tstP c t k) = _
          rw [h]
        have hq2 := allL_ok hq.2 k (by omega)
        rw [Bool.and_eq_true] at hq2
        cases hT : tstP c t k with
        | true =>
          have g := g_segS hFC (r := r2) (al := al) (cy := cy) (rest := rest) (tX_ok hc) (kpX_cC hc (kp_trans hk' k2) hcc) sPa_nil oX_nil hq2.2 (fun pc L st pa hk hp => ?_) (fun v pa hk hp => ?_)
          · rw [LYh_eq] at g
            simp only [Option.map_some, List.map_cons, List.map_nil, sVal, sI_c] at g
            exact g
          · rw [Bool.and_eq_true] at hk
            exact nomatch hk.1
          · rw [Bool.or_eq_true, Bool.and_eq_true, Bool.and_eq_true, Bool.and_eq_true] at hk
            rcases hk with ⟨-, h2⟩ | ⟨⟨h1, -⟩, -⟩
            · rw [eqO_ok h2]
              refine ⟨?_, r2, kp_trans hk' k2, rfl⟩
              rw [hw, w1 _ hT]
              simp only [Option.map_some, sVal, sI_c]
            · exact nomatch h1
        | false =>
        have g := g_segS hFC (r := r2) (al := al) (cy := cy) (rest := rest) (tX_ok hc) (kpX_cC hc (kp_trans hk' k2) hcc) sPa_nil oX_nil hq2.1 (fun pc L st pa hk hp => ?_) (fun v pa hk hp => ?_)
        · rw [LYh_eq] at g
          simp only [Option.map_some, List.map_cons, List.map_nil, sVal, sI_c] at g
          exact g
        · rw [Bool.and_eq_true, Bool.and_eq_true] at hk
          obtain ⟨rfl, rfl, rfl⟩ := kAt_ok hk.2.2
          rw [LYh_eq]
          simp only [Option.map_some, List.map_cons, List.map_nil, sVal, sI_c]
          exact ih (k + 1) r2 (by omega) (kp_trans hk' k2) (by rw [hw, w0 hT])
        · rw [Bool.or_eq_true, Bool.and_eq_true, Bool.and_eq_true, Bool.and_eq_true] at hk
          rcases hk with ⟨h1, -⟩ | ⟨⟨-, h1⟩, -⟩
          · exact nomatch h1
          · have he : k + 1 = dOf c := Nat.eq_of_beq_eq_true h1
            exact absurd he (by omega)
    have g := g_segS hFC (r := r1) (al := al) (cy := cy) (rest := rest) (tX_ok hc) kp1 sPa_nil oX_nil hq.1.1 (fun pc L st pa hk hp => ?_) (fun v pa hk => nomatch hk)
    · rw [LYh_eq] at g
      simp only [Option.map_some, Option.map_none, List.map_cons, List.map_nil, sVal, sI_c] at g
      exact g
    obtain ⟨rfl, rfl, rfl⟩ := kAt_ok hk
    rw [LYh_eq]
    simp only [Option.map_some, List.map_cons, List.map_nil, sVal, sI_c]
    exact loop (dOf c - 1) 0 r1 (by omega) k1 (by rw [hVt, show dOf c - 1 + 1 = dOf c by omega])
  · have hVt : V = .int (Int32.ofNat 4294967291) := by
      rcases hV with ⟨t2, h2, -⟩ | ⟨-, h3⟩
      · exact absurd h2 (hno t2)
      · exact h3
    have g := g_segS hFC (r := r1) (al := al) (cy := cy) (rest := rest) (tX_ok hc) kp1 sPa_nil oX_nil hq.1.2 (fun pc L st pa hk => nomatch hk) (fun v pa hk hp => ?_)
    · rw [LYh_eq] at g
      simp only [Option.map_some, Option.map_none, List.map_cons, List.map_nil, sVal, sI_c] at g
      exact g
    · rw [eqO_ok hk]
      refine ⟨?_, r1, k1, rfl⟩
      rw [hVt]
      simp only [Option.map_some, sVal, sI_c]
end WY
