/-! 90: the model: straightens, by contract (by wip/whole/mk90.py) -/
noncomputable def ch20 (u : Nat) : Bool := Nat.beq (Nat.div u (nat_lit 4096)) (nat_lit 89)
theorem ch20_St : ∀ u, chSt u = false → ch20 u = false := ch_sub (fun u h => chSt_iff.mpr (Or.inr (by
  have h2 : u / 4096 = 89 := Nat.eq_of_beq_eq_true h
  rw [h2]
  simp)))
theorem ch20_num {j : Nat} (hj : j < 3125) : ch20 (mP 20 j) = true := by
  show Nat.beq (mP 20 j / 4096) 89 = true
  rw [show mP 20 j / 4096 = 89 by unfold mP; omega]
  rfl
theorem ch_F : ∀ p, p < 6 → (isV 69 45 tMv (mP 22 p) = true ∧ ch20 (mP 22 p) = false ∧ chOf (mP 22 p) = false) ∧ isV 69 45 tMv (mP 21 p) = true ∧ ch20 (mP 21 p) = false ∧ chOf (mP 21 p) = false := by decide +kernel
theorem LC_eq {al : Nat → Nat} {x : sE} {e : sX} : (LC e).map (Option.map (sVal x al)) = [some (.ref (al 0)), some (.int (sI x e)), none, none] := by
  simp only [LC, List.map_cons, List.map_nil, Option.map_some, Option.map_none, sVal]
section SU
variable {D : va_G} {cy : Nat → ClassId} {al : Nat → Nat} {rest : va_W}
theorem c_str (l : Launch) {c : Nat} (hc : c < 18) {col row : Nat → Nat} {r : sE} (hcc : cC 69 45 (tM c) r) (hnr : r.1 (mP 0 1) = Int32.ofNat (nOf c)) (hF : FF (nOf c) col row r) : gMet l D cy al 16 176 (tW r al cy rest 45 tMv) [.ref (al 0)] (fun v w => v = none ∧ ∃ r2, kpC chSt 69 45 tMv r r2 ∧ (∀ k, k < dOf c → r2.1 (mP 24 k) = Int32.ofInt (strM c col row k)) ∧ w = tW r2 al cy rest 45 tMv) := by
  obtain ⟨⟨d1, d6⟩, n1, n5⟩ := cd_tab c hc
  have key := gMet_ofA (l := l) (D := D) (cy := cy) (al := al) (d := 16) (k := 176) (w := tW r al cy rest 45 tMv) (r := r) (G := fun v w => v = none ∧ ∃ r2, kpC chSt 69 45 tMv r r2 ∧ (∀ k, k < dOf c → r2.1 (mP 24 k) = Int32.ofInt (strM c col row k)) ∧ w = tW r2 al cy rest 45 tMv) q_c0E (fun At hFC hAR => ?_)
  · exact key
  have iLt : ∀ i, i ≤ 3125 → (Int32.ofNat i < Int32.ofNat 3125 ↔ i < 3125) := fun i hi => by
    rw [Int32.lt_iff_toInt_lt]
    simp only [Int32.toInt_ofNat', Int.bmod_def, show ((Int32.size : Nat) : Int) = 4294967296 from rfl]
    omega
  have clear : ∀ (m c0 : Nat) (r' : sE), c0 + m = 3125 → kpC ch20 69 45 tMv r r' → (∀ j, j < c0 → r'.1 (mP 20 j) = 0) → At 2 [some (.ref (al 0)), some (.int (Int32.ofNat c0)), none, none] [] (tW r' al cy rest 45 tMv) := by
    intro m
    induction m with
    | zero =>
      intro c0 r' hm hk' hz
      obtain rfl : c0 = 3125 := by omega
      have hw : ∀ x : sE, tW (uM x [Int32.ofNat 3125]) al cy rest 45 tMv = tW x al cy rest 45 tMv := fun x => tW_uM (by omega) tMv_can
      have E0 : ∀ x : sE, sI (uM x [Int32.ofNat 3125]) (.var (nat_lit 819290)) = Int32.ofNat 3125 := fun x => by rw [sI_v]; exact uM_v 0
      have g := g_segC (Ch := chOf) hFC (r := uM r' [Int32.ofNat 3125]) (al := al) (cy := cy) (rest := rest) (by omega) tMv_ok (cC_M _) (pa := [(false, false, .var (nat_lit 819290), .natCast (nat_lit 3125))]) (sPa_cons.mpr ⟨by
        show ¬ sI _ (.var (nat_lit 819290)) < sI _ (.natCast (nat_lit 3125))
        rw [E0, sI_c, Int32.lt_iff_toInt_lt]
        exact Int.lt_irrefl _, sPa_nil⟩) oM_nil q_c22 (fun m0 pc L st pa mm hk hp hkp => ?_) (fun m0 v pa mm hk => nomatch hk)
      · rw [hw, LC_eq, E0] at g
        exact g
      rw [Bool.and_eq_true] at hk
      obtain ⟨rfl, rfl, rfl⟩ := kAt_ok hk.1
      have h28 := isE_ok (b := 69) (r := uM r' [Int32.ofNat 3125]) (show 28 < 4096 by omega) hk.2
      rw [sI_c] at h28
      generalize hr1 : eOf 69 (uM r' [Int32.ofNat 3125]) mm = r1 at hkp h28
      have hk1 : kpC chSt 69 45 tMv r r1 := kpC_trans (kpC_trans (kpC_weak ch20_St hk') (kpC_uM (by omega))) (kpC_weak chOf_St hkp)
      have hA1 : AF (nOf c) col row 1 r1 := by
        refine ⟨?_, h28, fun p g1 g2 => ?_, fun p g1 g2 => ?_⟩
        · rw [(kp_St hk1).1 _ kpM_regs.1.1 kpM_regs.1.2]
          exact hnr
        · obtain ⟨⟨a, b, e⟩, -⟩ := ch_F p (by omega)
          rw [hkp.1 _ a e, uM_lo (by unfold mP; omega), hk'.1 _ a b]
          exact hF.1 p g1 g2
        · obtain ⟨-, a, b, e⟩ := ch_F p (by omega)
          rw [hkp.1 _ a e, uM_lo (by unfold mP; omega), hk'.1 _ a b]
          exact hF.2 p g1 g2
      have hN1 : NF (fun _ => 0) r1 := NF_of (no_num (fun u h => Or.inl (Nat.eq_of_beq_eq_true h))) (kpC_trans (kpC_uM (by omega)) hkp) (fun j hj => by rw [hz j hj]; rfl)
      rw [LC_eq, E0, show List.map (sVal (uM r' [Int32.ofNat 3125]) al) [.inl (.natCast (nat_lit 1)), .inr (.inr (some (nat_lit 0)))] = ([.ref (al 0), .int (Int32.ofNat 1)] : List Value).reverse ++ [] by simp only [List.map_cons, List.map_nil, sVal, sI_c]; rfl]
      refine hFC.2 29 32 172 15 _ [.ref (al 0), .int (Int32.ofNat 1)] [] _ _ ⟨_, _, rfl, rfl⟩ rfl (by decide) rfl (gRecv_t (by omega) rfl rfl) (gMet_up (d := 10 + nOf c) (by omega) (c_adds l n1 n5 (nOf c) 1 [] r1 (fun _ => 0) (by omega) rfl (fun x hx => absurd hx List.not_mem_nil) List.nodup_nil hA1 (fun k hk => absurd hk (by show ¬ k < 0; omega)) hN1)) (fun v2 w2 h => ?_)
      obtain ⟨rfl, r2, j1, -, j3, rfl⟩ := h
      have hk2 := kpC_trans hk1 (kpC_weak chA_St j1)
      have hq := q_str hc
      unfold strT at hq
      rw [Bool.and_eq_true] at hq
      have g2 := g_segC (Ch := chS0) hFC (r := uM r2 [Int32.ofNat 3125]) (al := al) (cy := cy) (rest := rest) (by omega) (tM_ok hc) (kpM_cC hc (kp_St (kpC_trans hk2 (kpC_uM (by omega)))) hcc) sPa_nil oM_nil hq.1 (fun m0 pc L st pa mm2 hk hp hkp2 => ?_) (fun m0 v pa mm2 hk => nomatch hk)
      · rw [hw, show List.map (Option.map (sVal (uM r2 [Int32.ofNat 3125]) al)) [some (.inr (.inr (some (nat_lit 0)))), some (.inl (.var (nat_lit 819290))), none, none] = [some (.ref (al 0)), some (.int (Int32.ofNat 3125)), none, none] by
          simp only [List.map_cons, List.map_nil, Option.map_some, Option.map_none, sVal, E0]] at g2
        exact g2
      rw [Bool.and_eq_true] at hk
      obtain ⟨rfl, rfl, rfl⟩ := kAt_ok hk.1
      have hk3 := kpC_trans (kpC_trans hk2 (kpC_uM (by omega))) (kpC_weak chS0_St hkp2)
      have hN3 := NF_of (no_num (fun u h => Or.inr (by
        have h2 : u / 4096 ∈ [93, 94] := memB_ok.mp h
        simp at h2 ⊢
        omega))) (kpC_trans (kpC_uM (by omega)) hkp2) j3
      have fin := st_loop l hc hcc hnr (Fin := strM c col row) hFC hAR (dOf c - 1) 0 _ _ (fun _ => 0) (by omega) hk3 hN3 (isDn_ok hk.2) (fun p' hp' => absurd hp' (by omega)) (by
        unfold strM
        rw [show dOf c - 1 + 1 = dOf c by omega])
      rw [LSt_eq, stSt_eq] at fin ⊢
      exact fin
    | succ m ih =>
      intro c0 r' hm hk' hz
      have hc0 : c0 < 3125 := by omega
      have hw : tW (uM r' [Int32.ofNat c0]) al cy rest 45 tMv = tW r' al cy rest 45 tMv := tW_uM (by omega) tMv_can
      have E0 : sI (uM r' [Int32.ofNat c0]) (.var (nat_lit 819290)) = Int32.ofNat c0 := by rw [sI_v]; exact uM_v 0
      have g := g_segS hFC (r := uM r' [Int32.ofNat c0]) (al := al) (cy := cy) (rest := rest) tMv_ok (cC_M _) (pa := [cIn]) (sPa_cons.mpr ⟨by
        show sI _ (.var (nat_lit 819290)) < sI _ (.natCast (nat_lit 3125))
        rw [E0, sI_c]
        exact (iLt c0 (by omega)).mpr hc0, sPa_nil⟩) oM_nil q_c2 (fun pc L st pa hk hp => ?_) (fun v pa hk => nomatch hk)
      · rw [hw, LC_eq, E0] at g
        exact g
      obtain ⟨rfl, rfl, rfl⟩ := kAt_ok hk
      rw [hw, show List.map (sVal (uM r' [Int32.ofNat c0]) al) [.inl (.natCast (nat_lit 0)), .inl (.var (nat_lit 819290)), .inr (.inr (some (nat_lit 20)))] = .int (Int32.ofNat 0) :: .int (Int32.ofNat c0) :: .ref (al 20) :: [] by simp only [List.map_cons, List.map_nil, sVal, sI_c, E0]]
      refine hAR.2 15 16 c0 3125 20 (al 20) _ _ _ _ _ ⟨_, rfl⟩ hc0 (by omega) num_w ?_
      rw [num_st hc0]
      have g2 := g_pure hFC (al := al) (r := uM r' [Int32.ofNat c0]) (w := tW (rW r' (mP 20 c0) (Int32.ofNat 0)) al cy rest 45 tMv) sPa_nil q_c16 (fun pc L st hk => ?_) (fun v hk => nomatch hk)
      · exact g2
      obtain ⟨rfl, rfl, rfl⟩ := kAt_ok hk
      have E1 : sI (uM r' [Int32.ofNat c0]) (.pow (.mul (.var (nat_lit 819290)) (.natCast (nat_lit 1))) (nat_lit 0)) = Int32.ofNat (c0 + 1) := by
        show (sD _ (.pow (.mul (.var 819290) (.natCast 1)) 0)).1 = _
        rw [sD_b]
        show sI (uM r' [Int32.ofNat c0]) (.var (nat_lit 819290)) + sI _ (.natCast 1) = _
        rw [E0, sI_c, ← Int32.ofNat_add]
      rw [LC_eq, E1]
      refine ih (c0 + 1) _ (by omega) (kpC_trans hk' (kpC_rW (ch20_num hc0) (by unfold mP; omega))) (fun j hj => ?_)
      show (if mP 20 j = mP 20 c0 then Int32.ofNat 0 else r'.1 (mP 20 j)) = 0
      by_cases hjc : j = c0
      · rw [hjc, if_pos rfl]
        rfl
      · rw [if_neg (by unfold mP; omega)]
        exact hz j (by omega)
  refine g_pure hFC (r := r) sPa_nil q_c0 (fun pc L st hk => ?_) (fun v hk => nomatch hk)
  obtain ⟨rfl, rfl, rfl⟩ := kAt_ok hk
  rw [LC_eq, show sI r (.natCast (nat_lit 0)) = Int32.ofNat 0 from sI_c]
  exact clear 3125 0 r (by omega) kpC_rfl (fun j hj => absurd hj (by omega))
end SU
