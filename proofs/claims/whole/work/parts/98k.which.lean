/-! 98k: which (by wip/whole/mk98k.py) -/
section WZ
variable {D : va_G} {cy : Nat → ClassId} {al : Nat → Nat} {rest : va_W}
theorem LYm_eq {x : sE} {s : Nat} {a b e : Option sV} : (LYm s a b e).map (Option.map (sVal x al)) = [some (.ref (al 0)), some (.int (Int32.ofNat s)), a.map (sVal x al), b.map (sVal x al), e.map (sVal x al)] := by
  simp only [LYm, List.map_cons, List.map_nil, Option.map_some, sVal, sI_c]
theorem flP_eq {c k : Nat} {t : List Nat} (hc : c < 18) (ht : t ∈ ordN (nOf c)) (hk : k < dOf c) : flP c t k (nOf c) = tstP c t k := by
  have h := allL_ok (lAll_ok (allL_ok q_flT c hc) t ht) k hk
  cases h1 : flP c t k (nOf c) <;> cases h2 : tstP c t k <;> simp_all
/-- the model's which -/
theorem c_wiM (l : Launch) {c s : Nat} {r : sE} {V : Value} (hc : c < 18) (hs : s < 4) (hcc : cC 69 45 (tM c) r) (hnr : r.1 (mP 0 1) = Int32.ofNat (nOf c)) (hso : r.1 (mP 7 s) = Int32.ofNat 2) (hsz : ¬ r.1 (mP 8 s) < Int32.ofNat (nOf c)) (hV : (∃ t, isFi (nOf c) (mP 9 (20 * s)) r t ∧ V = .int (Int32.ofNat (wiF c t (dOf c) 0))) ∨ ((∀ t, ¬ isFi (nOf c) (mP 9 (20 * s)) r t) ∧ V = .int (Int32.ofNat 4294967291))) : gMet l D cy al 200 180 (tW r al cy rest 45 tMv) [.ref (al 0), .int (Int32.ofNat s)] (fun v w => v = some V ∧ ∃ r1, kp 69 45 tMv r r1 ∧ w = tW r1 al cy rest 45 tMv) := by
  refine gMet_up (d := 20) (by omega) ?_
  obtain ⟨⟨d1, d6⟩, n1, n5⟩ := cd_tab c hc
  have key := gMet_of (l := l) (D := D) (cy := cy) (al := al) (d := 20) (k := 180) (w := tW r al cy rest 45 tMv) (r := r) (G := fun v w => v = some V ∧ ∃ r1, kp 69 45 tMv r r1 ∧ w = tW r1 al cy rest 45 tMv) (allL_ok q_wmE s hs) (fun At hFC => ?_)
  · simp only [List.map_cons, List.map_nil, sVal, sI_c] at key
    exact key
  have hq := allL_ok (allL_ok q_wm1 c hc) s hs
  unfold wm1 at hq
  rw [Bool.and_eq_true] at hq
  refine g_segS hFC (r := r) (al := al) (cy := cy) (rest := rest) (tM_ok hc) hcc (fun q hq => by
    rw [List.mem_singleton] at hq
    subst hq
    show ¬ sI r _ < sI r _
    rw [sI_v, sI_c, show r.1 (Nat.add (nat_lit 315392) s) = r.1 (mP 8 s) from congrArg r.1 (show 315392 + s = mP 8 s by unfold mP; omega)]
    exact hsz) (oM_cons (by rw [sI_c]; exact hso) oM_nil) (allL_ok (allL_ok q_wm0 c hc) s hs) (fun pc L st pa hk hp => ?_) (fun v pa hk => nomatch hk)
  obtain ⟨rfl, rfl, rfl⟩ := kAt_ok hk
  rw [LYm_eq]
  simp only [Option.map_none, List.map_cons, List.map_nil, sVal, sI_c]
  refine hFC.2 54 57 179 19 _ [.ref (al 0), .int (Int32.ofNat s)] [] _ _ ⟨_, _, rfl, rfl⟩ rfl (by decide) rfl (gRecv_t (by omega) rfl rfl) (c_fiM l (by omega) n1 n5 hs hnr) (fun v2 w2 h => ?_)
  obtain ⟨r1, k1, rfl, h⟩ := h
  have kp1 := kpM_cC hc (kp_St k1) hcc
  rcases h with ⟨rfl, t, ht, hcell⟩ | ⟨rfl, hno⟩
  · have hVt : V = .int (Int32.ofNat (wiF c t (dOf c) 0)) := by
      rcases hV with ⟨t2, h2, h3⟩ | ⟨h2, -⟩
      · rw [h3, isFi_uni n1 n5 h2 ht]
      · exact absurd ht (h2 t)
    have hF : FF (nOf c) (colT c t) (rowT c t) r1 := by
      have get : ∀ p, 1 ≤ p → p ≤ nOf c → (r1.1 (mP 22 p) = Int32.ofNat (colT c t p) ∧ colT c t p < 5) ∧ r1.1 (mP 21 p) = Int32.ofNat (rowT c t p) ∧ rowT c t p < 5 := fun p g1 g2 => by
        obtain ⟨p, rfl⟩ : ∃ e, p = e + 1 := ⟨p - 1, by omega⟩
        obtain ⟨l1, l2⟩ := pl_le n1 n5 ht.1 g1 g2
        have e1 := Nat.eq_of_beq_eq_true (allL_ok (lAll_ok pn_tab t (ordN_in ht.1)) p (by omega))
        have hin : plO (p + 1) t - 1 < nOf c := by omega
        have e1' : nthO t (plO (p + 1) t - 1) = p + 1 := e1
        obtain ⟨h1, h2⟩ := hcell _ hin
        rw [e1'] at h1 h2
        obtain ⟨⟨t1, b1⟩, t2, b2⟩ := cel_tab c hc _ hin
        have s1 : r.1 (mP 2 (plO (p + 1) t - 1)) = Int32.ofNat (nthO (nthL CRS c) (plO (p + 1) t - 1)) := (hcc 2 (by omega) _ _).1 (eqO_ok t1)
        have s2 : r.1 (mP 3 (plO (p + 1) t - 1)) = Int32.ofNat (nthO (nthL CCS c) (plO (p + 1) t - 1)) := (hcc 3 (by omega) _ _).1 (eqO_ok t2)
        exact ⟨⟨h2.trans s2, b2⟩, h1.trans s1, b1⟩
      exact ⟨fun p g1 g2 => (get p g1 g2).1, fun p g1 g2 => (get p g1 g2).2⟩
    have loop : ∀ (m k : Nat), k + (m + 1) = dOf c → V = .int (Int32.ofNat (wiF c t (m + 1) k)) → At 87 [some (.ref (al 0)), some (.int (Int32.ofNat s)), some (.int (Int32.ofNat k)), some (.int (Int32.ofNat 1)), some (.int (Int32.ofNat 1))] [] (tW r1 al cy rest 45 tMv) := by
      intro m
      induction m with
      | zero =>
        intro k hkm hw
        have fe := flP_eq (k := k) hc ht.1 (by omega)
        refine wi_in hFC hc hs kp1 hF (nOf c - 1) 0 k (by omega) (by omega) (fun hT => ⟨?_, r1, kp_St k1, rfl⟩) (fun hT => ⟨fun h => absurd h (by omega), fun _ => ⟨?_, r1, kp_St k1, rfl⟩⟩)
        · rw [hw]
          show some (Value.int (Int32.ofNat k)) = some (Value.int (Int32.ofNat (Bool.rec (motive := fun _ => Nat) (wiF c t 0 (Nat.succ k)) k (tstP c t k))))
          rw [← fe, hT]
        · rw [hw]
          show _ = some (Value.int (Int32.ofNat (Bool.rec (motive := fun _ => Nat) (wiF c t 0 (Nat.succ k)) k (tstP c t k))))
          rw [← fe, hT]
          rfl
      | succ m ih =>
        intro k hkm hw
        have fe := flP_eq (k := k) hc ht.1 (by omega)
        refine wi_in hFC hc hs kp1 hF (nOf c - 1) 0 k (by omega) (by omega) (fun hT => ⟨?_, r1, kp_St k1, rfl⟩) (fun hT => ⟨fun h => ih (k + 1) (by omega) ?_, fun h => absurd h (by omega)⟩)
        · rw [hw]
          show some (Value.int (Int32.ofNat k)) = some (Value.int (Int32.ofNat (Bool.rec (motive := fun _ => Nat) (wiF c t (m + 1) (Nat.succ k)) k (tstP c t k))))
          rw [← fe, hT]
        · rw [hw]
          show Value.int (Int32.ofNat (Bool.rec (motive := fun _ => Nat) (wiF c t (m + 1) (Nat.succ k)) k (tstP c t k))) = _
          rw [← fe, hT]
    have g := g_segS hFC (r := r1) (al := al) (cy := cy) (rest := rest) (tM_ok hc) kp1 sPa_nil oM_nil hq.1 (fun pc L st pa hk hp => ?_) (fun v pa hk => nomatch hk)
    · rw [LYm_eq] at g
      simp only [Option.map_none, List.map_cons, List.map_nil, sVal, sI_c] at g
      exact g
    obtain ⟨rfl, rfl, rfl⟩ := kAt_ok hk
    rw [LYk_eq]
    exact loop (dOf c - 1) 0 (by omega) (by rw [hVt, show dOf c - 1 + 1 = dOf c by omega])
  · have hVt : V = .int (Int32.ofNat 4294967291) := by
      rcases hV with ⟨t2, h2, -⟩ | ⟨-, h3⟩
      · exact absurd h2 (hno t2)
      · exact h3
    have g := g_segS hFC (r := r1) (al := al) (cy := cy) (rest := rest) (tM_ok hc) kp1 sPa_nil oM_nil hq.2 (fun pc L st pa hk => nomatch hk) (fun v pa hk hp => ?_)
    · rw [LYm_eq] at g
      simp only [Option.map_none, List.map_cons, List.map_nil, sVal, sI_c] at g
      exact g
    · rw [eqO_ok hk]
      refine ⟨?_, r1, kp_St k1, rfl⟩
      rw [hVt]
      simp only [Option.map_some, sVal, sI_c]
end WZ
