/-! 98f: straight, the model; straight (by wip/whole/mk98f.py) -/
noncomputable def LZm (s j : Nat) : sL := [some (.inr (.inr (some (nat_lit 0)))), some (.inl (.natCast s)), some (.inl (.natCast j))]
noncomputable def sm0 (c s j : Nat) : Bool := sBeg (nat_lit 69) (nat_lit 45) (tM c) (memB [(nat_lit 0), (nat_lit 7), (nat_lit 8)]) [((nat_lit 7), s, .natCast (nat_lit 2))] (fun m0 => sx PG (nat_lit 500) (nat_lit 20) (PG (nat_lit 181)) (fun pc => Nat.beq pc (nat_lit 40)) (fun pc L st pa m => Bool.and (eqL eqC m m0) (kAt (nat_lit 40) (LZm s j) [.inl (.natCast s), .inr (.inr (some (nat_lit 0)))] pc L st)) (fun _ _ m => Bool.and (eqL eqC m m0) false) (nat_lit 0) (LZm s j) [] [(false, false, .var (Nat.add (nat_lit 315392) s), .natCast (nOf c))] m0)
theorem q_sm0 : allL 18 (fun c => allL 4 (fun s => allL (dOf c) (fun j => sm0 c s j))) = true := by decide +kernel
theorem q_smE : allL 4 (fun s => allL 6 (fun j => sEnt [.inr (.inr (some (nat_lit 0))), .inl (.natCast s), .inl (.natCast j)] (PG (nat_lit 181)).2.1 (fun L => eqL eqO L (LZm s j)))) = true := by decide +kernel
noncomputable def sm2 (c s j : Nat) : Bool := sBeg (nat_lit 69) (nat_lit 45) (tM c) (memB [(nat_lit 0), (nat_lit 7), (nat_lit 8)]) [] (fun m0 => sx PG (nat_lit 500) (nat_lit 20) (PG (nat_lit 181)) (fun _ => false) (fun _ _ _ _ m => Bool.and (eqL eqC m m0) false) (fun v pa m => Bool.and (eqL eqC m m0) (eqO v (some (.inr (.inl (.natCast (nat_lit 9223372036854775808))))))) (nat_lit 43) (LZm s j) [.inl (.natCast (nat_lit 0))] [] m0)
noncomputable def sm1b (c s j : Nat) : Bool := sBeg (nat_lit 69) (nat_lit 45) (tM c) (memB [(nat_lit 0), (nat_lit 7), (nat_lit 8)]) [] (fun m0 => sx PG (nat_lit 500) (nat_lit 20) (PG (nat_lit 181)) (fun pc => Nat.beq pc (nat_lit 51)) (fun pc L st pa m => Bool.and (eqL eqC m m0) (kAt (nat_lit 51) (LZm s j) [.inr (.inr (some (nat_lit 0)))] pc L st)) (fun _ _ m => Bool.and (eqL eqC m m0) false) (nat_lit 43) (LZm s j) [.inl (.natCast (nat_lit 1))] [] m0)
noncomputable def sm3 (c s j : Nat) : Bool := sBeg (nat_lit 69) (nat_lit 45) (tM c) (memB [(nat_lit 0), (nat_lit 24)]) [] (fun m0 => sx PG (nat_lit 500) (nat_lit 20) (PG (nat_lit 181)) (fun _ => false) (fun _ _ _ _ m => Bool.and (eqL eqC m m0) false) (fun v pa m => Bool.and (eqL eqC m m0) (eqO v (some (.inr (.inl (.pow (.neg (.var (Nat.add (nat_lit 380928) j))) (nat_lit 21))))))) (nat_lit 54) (LZm s j) [] [] m0)
theorem q_sm123 : allL 18 (fun c => allL 4 (fun s => allL (dOf c) (fun j => Bool.and (sm1b c s j) (Bool.and (sm2 c s j) (sm3 c s j))))) = true := by decide +kernel
theorem cel_tab : ∀ c, c < 18 → ∀ k, k < nOf c → (eqO (tM c 2).2.2[k]? (some (.inl (.natCast (nthO (nthL CRS c) k)))) = true ∧ nthO (nthL CRS c) k < 5) ∧ eqO (tM c 3).2.2[k]? (some (.inl (.natCast (nthO (nthL CCS c) k)))) = true ∧ nthO (nthL CCS c) k < 5 := by decide +kernel
section SM
variable {D : va_G} {cy : Nat → ClassId} {al : Nat → Nat} {rest : va_W}
theorem LZm_eq {x : sE} {s j : Nat} : (LZm s j).map (Option.map (sVal x al)) = [some (.ref (al 0)), some (.int (Int32.ofNat s)), some (.int (Int32.ofNat j))] := by
  simp only [LZm, List.map_cons, List.map_nil, Option.map_some, sVal, sI_c]
/-- the model's straight -/
theorem c_sgM (l : Launch) {c s j : Nat} {r : sE} {V : Value} (hc : c < 18) (hs : s < 4) (hj : j < dOf c) (hcc : cC 69 45 (tM c) r) (hnr : r.1 (mP 0 1) = Int32.ofNat (nOf c)) (hso : r.1 (mP 7 s) = Int32.ofNat 2) (hsz : ¬ r.1 (mP 8 s) < Int32.ofNat (nOf c)) (hV : (∃ t, isFi (nOf c) (mP 9 (20 * s)) r t ∧ V = .long (Int32.ofInt (cwT c t j)).toInt64) ∨ ((∀ t, ¬ isFi (nOf c) (mP 9 (20 * s)) r t) ∧ V = .long (Int64.ofNat 9223372036854775808))) : gMet l D cy al 200 181 (tW r al cy rest 45 tMv) [.ref (al 0), .int (Int32.ofNat s), .int (Int32.ofNat j)] (fun v w => v = some V ∧ ∃ r1, kp 69 45 tMv r r1 ∧ w = tW r1 al cy rest 45 tMv) := by
  refine gMet_up (d := 20) (by omega) ?_
  obtain ⟨⟨d1, d6⟩, n1, n5⟩ := cd_tab c hc
  have key := gMet_of (l := l) (D := D) (cy := cy) (al := al) (d := 20) (k := 181) (w := tW r al cy rest 45 tMv) (r := r) (G := fun v w => v = some V ∧ ∃ r1, kp 69 45 tMv r r1 ∧ w = tW r1 al cy rest 45 tMv) (allL_ok (allL_ok q_smE s hs) j (show j < 6 by omega)) (fun At hFC => ?_)
  · simp only [List.map_cons, List.map_nil, sVal, sI_c] at key
    exact key
  have hq := allL_ok (allL_ok (allL_ok q_sm123 c hc) s hs) j hj
  rw [Bool.and_eq_true, Bool.and_eq_true] at hq
  refine g_segS hFC (r := r) (al := al) (cy := cy) (rest := rest) (tM_ok hc) hcc (fun q hq => by
    rw [List.mem_singleton] at hq
    subst hq
    show ¬ sI r _ < sI r _
    rw [sI_v, sI_c, show r.1 (Nat.add (nat_lit 315392) s) = r.1 (mP 8 s) from congrArg r.1 (show 315392 + s = mP 8 s by unfold mP; omega)]
    exact hsz) (oM_cons (by rw [sI_c]; exact hso) oM_nil) (allL_ok (allL_ok (allL_ok q_sm0 c hc) s hs) j hj) (fun pc L st pa hk hp => ?_) (fun v pa hk => nomatch hk)
  obtain ⟨rfl, rfl, rfl⟩ := kAt_ok hk
  rw [LZm_eq]
  simp only [List.map_cons, List.map_nil, sVal, sI_c]
  refine hFC.2 40 43 179 19 _ [.ref (al 0), .int (Int32.ofNat s)] [] _ _ ⟨_, _, rfl, rfl⟩ rfl (by decide) rfl (gRecv_t (by omega) rfl rfl) (c_fiM l (by omega) n1 n5 hs hnr) (fun v2 w2 h => ?_)
  obtain ⟨r1, k1, rfl, h⟩ := h
  have kp1 := kpM_cC hc (kp_St k1) hcc
  rcases h with ⟨rfl, t, ht, hcell⟩ | ⟨rfl, hno⟩
  · have hVt : V = .long (Int32.ofInt (cwT c t j)).toInt64 := by
      rcases hV with ⟨t2, h2, h3⟩ | ⟨h2, -⟩
      · have e : cwT c t2 = cwT c t := by rw [isFi_uni n1 n5 h2 ht]
        rw [h3, e]
      · exact absurd ht (h2 t)
    have hF : FF (nOf c) (colT c t) (rowT c t) r1 := by
      have get : ∀ p, 1 ≤ p → p ≤ nOf c → (r1.1 (mP 22 p) = Int32.ofNat (colT c t p) ∧ colT c t p < 5) ∧ r1.1 (mP 21 p) = Int32.ofNat (rowT c t p) ∧ rowT c t p < 5 := fun p g1 g2 => by
        obtain ⟨p, rfl⟩ : ∃ e, p = e + 1 := ⟨p - 1, by omega⟩
        obtain ⟨l1, l2⟩ := pl_le n1 n5 ht.1 g1 g2
        have e1 := Nat.eq_of_beq_eq_true (allL_ok (lAll_ok pn_tab t (ordN_in ht.1)) p (by omega))
        have hin : plO (p + 1) t - 1 < nOf c := by omega
        have e1' : nthO t (plO (p + 1) t - 1) = p + 1 := e1
        obtain ⟨h1, h2⟩ := hcell _ hin
        rw [e1'] at h1 h2
        obtain ⟨⟨t1, b1⟩, t2, b2⟩ := cel_tab c hc _ hin
        have s1 : r.1 (mP 2 (plO (p + 1) t - 1)) = Int32.ofNat (nthO (nthL CRS c) (plO (p + 1) t - 1)) := (hcc 2 (by omega) _ _).1 (eqO_ok t1)
        have s2 : r.1 (mP 3 (plO (p + 1) t - 1)) = Int32.ofNat (nthO (nthL CCS c) (plO (p + 1) t - 1)) := (hcc 3 (by omega) _ _).1 (eqO_ok t2)
        exact ⟨⟨h2.trans s2, b2⟩, h1.trans s1, b1⟩
      exact ⟨fun p g1 g2 => (get p g1 g2).1, fun p g1 g2 => (get p g1 g2).2⟩
    have g := g_segS hFC (r := r1) (al := al) (cy := cy) (rest := rest) (tM_ok hc) kp1 sPa_nil oM_nil hq.1 (fun pc L st pa hk hp => ?_) (fun v pa hk => nomatch hk)
    · rw [LZm_eq] at g
      simp only [List.map_cons, List.map_nil, sVal, sI_c] at g
      exact g
    obtain ⟨rfl, rfl, rfl⟩ := kAt_ok hk
    rw [LZm_eq]
    simp only [List.map_cons, List.map_nil, sVal]
    refine hFC.2 51 54 176 19 _ [.ref (al 0)] [] _ _ ⟨_, _, rfl, rfl⟩ rfl (by decide) rfl (gRecv_t (by omega) rfl rfl) (gMet_up (by omega) (c_str l hc kp1 (by rw [(kp_St k1).1 _ kpM_regs.1.1 kpM_regs.1.2]; exact hnr) hF)) (fun v2 w2 h => ?_)
    obtain ⟨rfl, r2, k2, j2, rfl⟩ := h
    have g := g_segS hFC (r := r2) (al := al) (cy := cy) (rest := rest) (tM_ok hc) (kpM_cC hc (kp_St k2) kp1) sPa_nil oM_nil hq.2.2 (fun pc L st pa hk => nomatch hk) (fun v pa hk hp => ?_)
    · rw [LZm_eq] at g
      simp only [List.map_nil] at g
      exact g
    · rw [eqO_ok hk]
      refine ⟨?_, r2, kp_trans (kp_St k1) (kp_St k2), rfl⟩
      show some (Value.long (sJ r2 (.pow (.neg (.var (380928 + j))) 21))) = _
      rw [hVt, sJ_i2l ((congrArg r2.1 (show 380928 + j = mP 24 j by unfold mP; omega)).trans (j2 j hj))]
      rfl
  · have hVt : V = .long (Int64.ofNat 9223372036854775808) := by
      rcases hV with ⟨t2, h2, -⟩ | ⟨-, h3⟩
      · exact absurd h2 (hno t2)
      · exact h3
    have g := g_segS hFC (r := r1) (al := al) (cy := cy) (rest := rest) (tM_ok hc) kp1 sPa_nil oM_nil hq.2.1 (fun pc L st pa hk => nomatch hk) (fun v pa hk hp => ?_)
    · rw [LZm_eq] at g
      simp only [List.map_cons, List.map_nil, sVal, sI_c] at g
      exact g
    · rw [eqO_ok hk]
      refine ⟨?_, r1, kp_St k1, rfl⟩
      show some (Value.long (sJ r1 (.natCast (nat_lit 9223372036854775808)))) = _
      rw [hVt]
      simp only [sJ, sD_c]
end SM
theorem kd_100 : (PG 100).2.2.2.2 = 3 := by decide +kernel
noncomputable def sgZ (c a0 a1 σ : Nat) (pa : List sK) : Bool := jRun (nat_lit 100000) (nat_lit 200) tXv tXv tMv tMv (nat_lit 100) (nat_lit 181) (KXs (shC a0)) KMs (((nat_lit 1), (nat_lit 1), .natCast (nOf c)) :: ((nat_lit 1), (nat_lit 2), .natCast (dOf c)) :: oXs0 (shC a0) σ) [((nat_lit 0), (nat_lit 1), .natCast (nOf c)), ((nat_lit 0), (nat_lit 4), .natCast (dOf c)), ((nat_lit 7), shC a0, .natCast σ)] (dP (nat_lit 819200) (nat_lit 0) (nat_lit 4) a0 (dP (nat_lit 819201) (nat_lit 0) (dOf c) a1 pa)) [.inl (dA (nat_lit 819200) (nat_lit 0) (nat_lit 4) a0), .inl (dA (nat_lit 819201) (nat_lit 0) (dOf c) a1)] (fun x0 m0 pa x m => frJ (chN []) x0 m0 x m)
/-- the size lies below -/
noncomputable def paS (c a0 : Nat) : List sK := [(false, true, .var (Nat.add (Nat.mul (nat_lit 4096) (Nat.add (nat_lit 36) (Nat.mul (nat_lit 2) (shC a0)))) (nat_lit 1)), .natCast (nOf c)), (false, true, .var (Nat.add (nat_lit 315392) (shC a0)), .natCast (nOf c))]
theorem q_sgZ : allL 18 (fun c => allL 6 (fun a0 => allL (Nat.add (dOf c) (nat_lit 2)) (fun a1 => Bool.and (Bool.and (sgZ c a0 a1 (nat_lit 0) []) (sgZ c a0 a1 (nat_lit 1) [])) (Bool.and (Bool.or (Bool.and (Nat.ble (nat_lit 2) a0) (Nat.ble (nat_lit 2) a1)) (sgZ c a0 a1 (nat_lit 2) [])) (sgZ c a0 a1 (nat_lit 2) (paS c a0)))))) = true := by decide +kernel
theorem op_straight {l : Launch} {D : va_G} {cy : Nat → ClassId} {alX alM : Nat → Nat} : OpI l D cy alX alM 100 181 2 := by
  intro r as hI hlen
  obtain ⟨a0, a1, rfl⟩ : ∃ a0 a1, as = [a0, a1] := by
    match as, hlen with
    | [a0, a1], _ => exact ⟨a0, a1, rfl⟩
  refine OpOk_uA [a0, a1] ?_
  replace hI := Inv_uA (as := [a0, a1]) hI
  have e0 : (uA r [a0, a1]).1 819200 = a0 := uA_a 0
  have e1 : (uA r [a0, a1]).1 819201 = a1 := uA_a 1
  generalize uA r [a0, a1] = r at hI e0 e1 ⊢
  obtain ⟨c, hc, hcc, hcm⟩ := id hI
  obtain ⟨⟨-, hn1, hd1⟩, hn2, hd2⟩ := CC_nd hc hcc
  obtain ⟨⟨d1, d6⟩, n1, n5⟩ := cd_tab c hc
  obtain ⟨c0, hc0, hp0, hv0⟩ := dP_ok r 819200 (lo := 0) (n := 4) (Or.inr (by omega)) (by omega)
  rw [e0] at hv0
  obtain ⟨c1, hc1, hp1, hv1⟩ := dP_ok r 819201 (lo := 0) (n := dOf c) (Or.inr (by omega)) (by omega)
  rw [e1] at hv1
  have hs : c0 - 2 < 4 := by omega
  have hS := hcm (4 + (c0 - 2)) (by omega)
  rw [Comp_S hs] at hS
  have hq := allL_ok (allL_ok (allL_ok q_sgZ c hc) c0 hc0) c1 hc1
  rw [Bool.and_eq_true, Bool.and_eq_true, Bool.and_eq_true] at hq
  have low : ∀ σ pa, sgZ c c0 c1 σ pa = true → sPa r pa → r.1 (xP (36 + 2 * (c0 - 2)) 0) = Int32.ofNat σ → r.1 (mP 7 (c0 - 2)) = Int32.ofNat σ → OpOk l D cy alX alM 200 r 100 181 (List.map Value.int [a0, a1]) Inv := fun σ pa hσ hpa q1 q2 => by
    refine jOk l tXv_ok tXv_ok tMv_ok tMv_ok (cC_X r) (cC_M r) (hp0 _ (hp1 _ hpa)) (fun _ _ _ => rfl) (fun _ _ _ => rfl) (oX_cons (by rw [sI_c]; exact hn1) (oX_cons (by rw [sI_c]; exact hd1) (oX_cons (by rw [sI_c]; exact q1) oX_nil))) (oM_cons (by rw [sI_c]; exact hn2) (oM_cons (by rw [sI_c]; exact hd2) (oM_cons (by rw [sI_c]; exact q2) oM_nil))) ?_ ?_ hσ ?_
    · simp only [List.map_cons, List.map_nil, sVal, hv0, hv1]
    · simp only [List.map_cons, List.map_nil, sVal, hv0, hv1]
    · intro x0 m0 pa x m hx0 hm0 hck hp hfx hfm _ _
      exact Inv_N hs hx0 hm0 hfx hfm hck hI
  obtain ⟨g1, g2⟩ := id hS
  rcases g2 with g2 | ⟨g2, -⟩ | ⟨q2, ⟨z, hz, z1, z2⟩, hN⟩
  · exact low 0 [] hq.1.1 sPa_nil g2 (g1.trans g2)
  · exact low 1 [] hq.1.2 sPa_nil g2 (g1.trans g2)
  have eSX : r.1 (4096 * (36 + 2 * (c0 - 2)) + 1) = Int32.ofNat z := z1
  have eSM : r.1 (315392 + (c0 - 2)) = Int32.ofNat z := (congrArg r.1 (show 315392 + (c0 - 2) = mP 8 (c0 - 2) by unfold mP; omega)).trans z2
  by_cases hlt : Int32.ofNat z < Int32.ofNat (nOf c)
  · refine low 2 _ hq.2.2 (fun q hq => ?_) q2 (g1.trans q2)
    rcases List.mem_cons.mp hq with rfl | hq
    · show sI r _ < sI r _
      rw [sI_v, sI_c]
      exact (show r.1 (4096 * (36 + 2 * (c0 - 2)) + 1) < Int32.ofNat (nOf c) by rw [eSX]; exact hlt)
    · rw [List.mem_singleton] at hq
      subst hq
      show sI r _ < sI r _
      rw [sI_v, sI_c]
      exact (show r.1 (315392 + (c0 - 2)) < Int32.ofNat (nOf c) by rw [eSM]; exact hlt)
  have hq2 := hq.2.1
  rw [Bool.or_eq_true, Bool.and_eq_true] at hq2
  rcases hq2 with ⟨b0, b1⟩ | h1
  · have b0 : 2 ≤ c0 := Nat.le_of_ble_eq_true b0
    have b1 : 2 ≤ c1 := Nat.le_of_ble_eq_true b1
    obtain ⟨s, rfl⟩ : ∃ k, c0 = k + 2 := ⟨c0 - 2, by omega⟩
    obtain ⟨j, rfl⟩ : ∃ k, c1 = k + 2 := ⟨c1 - 2, by omega⟩
    simp only [Nat.add_sub_cancel] at *
    have f0 : a0 = Int32.ofNat s := by rw [← hv0, dA_c (by omega)]
    have f1 : a1 = Int32.ofNat j := by rw [← hv1, dA_c (by omega)]
    subst f0 f1
    have iff : ∀ t, isFi (nOf c) (xP (37 + 2 * s) 0) r t ↔ isFi (nOf c) (mP 9 (20 * s)) r t := fun t => by
      unfold isFi
      exact and_congr_right (fun _ => ⟨fun h k hk => by rw [hN k (by omega)]; exact h k hk, fun h k hk => by rw [← hN k (by omega)]; exact h k hk⟩)
    by_cases hfi : ∃ t, isFi (nOf c) (xP (37 + 2 * s) 0) r t
    · obtain ⟨t, ht⟩ := hfi
      exact OpOk_V (V := some (.long (Int32.ofInt (cwT c t j)).toInt64)) hI (fun rest => c_sgX l hc hs (by omega) hcc.1 q2 (by rw [z1]; exact hlt) (Or.inl ⟨t, ht, rfl⟩)) (fun rest => c_sgM l hc hs (by omega) hcc.2 hn2 (g1.trans q2) (by rw [z2]; exact hlt) (Or.inl ⟨t, (iff t).mp ht, rfl⟩)) (Or.inr ⟨kd_100, _, rfl⟩)
    · exact OpOk_V (V := some (.long (Int64.ofNat 9223372036854775808))) hI (fun rest => c_sgX l hc hs (by omega) hcc.1 q2 (by rw [z1]; exact hlt) (Or.inr ⟨fun t ht => hfi ⟨t, ht⟩, rfl⟩)) (fun rest => c_sgM l hc hs (by omega) hcc.2 hn2 (g1.trans q2) (by rw [z2]; exact hlt) (Or.inr ⟨fun t ht => hfi ⟨t, (iff t).mpr ht⟩, rfl⟩)) (Or.inr ⟨kd_100, _, rfl⟩)
  · exact low 2 [] h1 sPa_nil q2 (g1.trans q2)
