/-! 98b9: word: the model, and what it leaves behind (by wip/whole/mk98b9.py) -/
/-- scratch, and the row that is left of an order -/
noncomputable def chW (u : Nat) : Bool := Bool.or (scQ u) (Nat.beq (Nat.div u (nat_lit 4096)) (nat_lit 88))
def lfI (r : sE) : Prop := ∀ i, i < 5 → r.1 (mP 19 1 + i) = Int32.ofNat (i + 1)
theorem csMW : allL 18 (fun c => allL 45 (fun i => csG chW (tM c i).2.2 (Nat.mul (nat_lit 4096) (Nat.add (nat_lit 69) i)))) = true := by decide +kernel
theorem chW_pl : allL 12 (fun id => Bool.or (Nat.beq id (nat_lit 10)) (lAll (fun u => Bool.not (chW u)) (cPl id))) = true := by decide +kernel
theorem chW_w : allL 81 (fun i => Bool.and (Bool.and (Bool.not (chW (xP 51 i))) (Bool.not (chW (xP 52 i)))) (Bool.and (Bool.not (chW (mP 36 i))) (Bool.not (chW (mP 37 i))))) = true := by decide +kernel
theorem chW_d : allL 4 (fun d => Bool.not (chW (mP 38 (6 * d)))) = true := by decide +kernel
theorem kpW_cC {c : Nat} (hc : c < 18) {r r1 : sE} (h : kpC chW 69 45 tMv r r1) (hr : cC 69 45 (tM c) r) : cC 69 45 (tM c) r1 := kpC_cC (tM_ok hc) (fun i hi => allL_ok (allL_ok csMW c hc) i hi) h hr
theorem kpW_of {r r1 : sE} (h : kp 69 45 tMv r r1) : kpC chW 69 45 tMv r r1 := kpC_weak (Ch := scQ) (fun u hu => (Bool.or_eq_false_iff.mp hu).1) h
theorem not_t {b : Bool} (h : Bool.not b = true) : b = false := by cases b <;> first | rfl | exact nomatch h
theorem Inv_kpW {r r1 r2 : sE} (hI : Inv r) (h1 : kp 0 68 tXv r r1) (h2 : kpC chW 69 45 tMv r r2) (h3 : lfI r2) : Inv (eB r1 r2) := by
  obtain ⟨c, hc, ⟨g1, g2⟩, g3⟩ := hI
  have eX : ∀ v, v / 4096 < 69 → (eB r1 r2).1 v = r1.1 v ∧ (eB r1 r2).2 v = r1.2 v := fun v hv => by
    unfold eB
    simp only [if_pos hv]
    exact ⟨trivial, trivial⟩
  have eM : ∀ v, ¬ v / 4096 < 69 → (eB r1 r2).1 v = r2.1 v ∧ (eB r1 r2).2 v = r2.2 v := fun v hv => by
    unfold eB
    simp only [if_neg hv]
    exact ⟨trivial, trivial⟩
  have kX := kpX_cC hc h1 g1
  have kM := kpW_cC hc h2 g2
  have st : ∀ id, id < 12 → ∀ u ∈ cPl id, chW u = false → (eB r1 r2).1 u = r.1 u := fun id hid u hu hw => by
    have h5 := lAll_ok (cPl_varv id hid) u hu
    have h7 : scQ u = false := (Bool.or_eq_false_iff.mp hw).1
    rw [Bool.or_eq_true] at h5
    rcases h5 with h5 | h5
    · rw [(eX u (by have h8 : u / 4096 < 68 := (isV_ok h5).2.1; omega)).1]
      exact h1.1 u h5 h7
    · rw [(eM u (by have h8 : 69 ≤ u / 4096 := (isV_ok h5).1; omega)).1]
      exact h2.1 u h5 hw
  refine ⟨c, hc, ⟨fun i hi j k => ?_, fun i hi j k => ?_⟩, fun id hid => ?_⟩
  · have h4 : ∀ y, (tX c i).2.2[j]? = some y → j < 4096 := fun y hy => Nat.lt_of_lt_of_le (List.getElem?_eq_some_iff.mp hy).1 (spC_at (tX_ok hc i hi).2).2.1
    exact ⟨fun hy => by have := h4 _ hy; rw [(eX _ (by omega)).1]; exact (kX i hi j k).1 hy, fun hy => by have := h4 _ hy; rw [(eX _ (by omega)).2]; exact (kX i hi j k).2 hy⟩
  · exact ⟨fun hy => by rw [(eM _ (by omega)).1]; exact (kM i hi j k).1 hy, fun hy => by rw [(eM _ (by omega)).2]; exact (kM i hi j k).2 hy⟩
  · by_cases he : id = 10
    · subst he
      obtain ⟨z, z0, z1, z2, z3, z4⟩ := (show cW r from g3 10 (by omega))
      obtain ⟨⟨p1, p2⟩, p3⟩ := cPl_W
      refine ⟨z, z0, (st 10 hid _ p1 (by decide +kernel)).trans z1, (st 10 hid _ p2 (by decide +kernel)).trans z2, fun i hi => ?_, fun i hi => ⟨i + 1, by omega, ?_⟩, fun d hd => ?_⟩
      · obtain ⟨k1, k2, k3, k4⟩ := p3 i (by omega)
        have q := allL_ok chW_w i (by omega)
        rw [Bool.and_eq_true, Bool.and_eq_true, Bool.and_eq_true] at q
        obtain ⟨⟨q1, q2⟩, q3, q4⟩ := q
        rw [st 10 hid _ k1 (not_t q1), st 10 hid _ k2 (not_t q2), st 10 hid _ k3 (not_t q3), st 10 hid _ k4 (not_t q4)]
        exact z3 i hi
      · rw [(eM _ (by unfold mP; omega)).1]
        exact h3 i hi
      · obtain ⟨n, n1, n2⟩ := z4.2 d hd
        exact ⟨n, n1, (st 10 hid _ (cPl_L.2 d hd) (not_t (allL_ok chW_d d hd))).trans n2⟩
    · refine Comp_congr hid rfl (fun u hu => st id hid u hu ?_) (g3 id hid)
      have h5 := allL_ok chW_pl id hid
      rw [Bool.or_eq_true] at h5
      rcases h5 with h5 | h5
      · exact absurd (Nat.eq_of_beq_eq_true h5) he
      · exact not_t (lAll_ok h5 u hu)
/-- both sides give V; the model leaves an order's row behind -/
theorem OpOk_W {l : Launch} {D : va_G} {cy : Nat → ClassId} {alX alM : Nat → Nat} {r : sE} {d kX kM : Nat} {vs : List Value} {V : Option Value} (hI : Inv r) (hX : ∀ rest, gMet l D cy alX d kX (tW r alX cy rest 68 tXv) (.ref (alX 0) :: vs) (fun v w => v = V ∧ ∃ r1, kp 0 68 tXv r r1 ∧ w = tW r1 alX cy rest 68 tXv)) (hM : ∀ rest, gMet l D cy alM d kM (tW r alM cy rest 45 tMv) (.ref (alM 0) :: vs) (fun v w => v = V ∧ ∃ r1, kpC chW 69 45 tMv r r1 ∧ lfI r1 ∧ w = tW r1 alM cy rest 45 tMv)) (hk : kdV kX V) : OpOk l D cy alX alM d r kX kM vs Inv := by
  refine ⟨fun v r1 => v = V ∧ kp 0 68 tXv r r1, fun rest => (hX rest).mono (fun v w q => ?_), fun v r1 hm rest => ?_, fun v r1 hm => by rw [hm.1]; exact hk⟩
  · obtain ⟨q1, r1, q2, q3⟩ := q
    exact ⟨r1, ⟨q1, q2⟩, q3⟩
  · obtain ⟨rfl, hk1⟩ := hm
    refine (hM rest).mono (fun v2 w2 q => ?_)
    obtain ⟨q1, r2, q2, q3, q4⟩ := q
    exact ⟨q1, r2, q4, Inv_kpW hI hk1 q2 q3⟩
noncomputable def twM (n : Nat) (o : List Nat) : Bool := sBeg (nat_lit 69) (nat_lit 45) tMv (memB [nat_lit 0, nat_lit 13, nat_lit 18, nat_lit 19]) ((nat_lit 0, nat_lit 1, .natCast n) :: oArr (nat_lit 13) o) (fun m0 => sRun (nat_lit 100000) (nat_lit 6) (nat_lit 169) [] m0 [.inr (.inr (some (nat_lit 0))), .inr (.inr (some (nat_lit 13)))] (fun v _ m => Bool.and (sKC chW (nat_lit 69) (nat_lit 45) tMv (memB [nat_lit 0, nat_lit 13, nat_lit 18, nat_lit 19]) m0 m) (Bool.and (eqO v none) (Bool.and (isE m (nat_lit 0) (nat_lit 22) (.natCast (lenO o))) (Bool.and (allL (lenO o) (fun j => isE m (nat_lit 18) j (.natCast (nthO (wdO o) j)))) (allL (nat_lit 5) (fun i => isE m (nat_lit 19) (Nat.succ i) (.natCast (Nat.succ i)))))))))
theorem q_twM_4 : allL 4 (fun n => lAll (twM (Nat.succ n)) (ordN (Nat.succ n))) = true := by decide +kernel
theorem q_twM_0 : lAll (twM 5) (chk 0) = true := by decide +kernel
theorem q_twM_1 : lAll (twM 5) (chk 1) = true := by decide +kernel
theorem q_twM_2 : lAll (twM 5) (chk 2) = true := by decide +kernel
theorem q_twM_3 : lAll (twM 5) (chk 3) = true := by decide +kernel
theorem q_twM {n : Nat} {o : List Nat} (hn : 1 ≤ n) (hn5 : n ≤ 5) (ho : o ∈ ordN n) : twM n o = true := by_chk q_twM_4 q_twM_0 q_twM_1 q_twM_2 q_twM_3 hn hn5 ho
/-- the WORD, model -/
theorem c_twM (l : Launch) {D : va_G} {cy : Nat → ClassId} {al : Nat → Nat} {rest : va_W} {r : sE} {d n : Nat} {o : List Nat} (hd : 6 ≤ d) (hn : 1 ≤ n) (hn5 : n ≤ 5) (hnr : r.1 (mP 0 1) = Int32.ofNat n) (ho : o ∈ ordN n) (hm : hasO r 13 o) : gMet l D cy al d 169 (tW r al cy rest 45 tMv) [.ref (al 0), .ref (al 13)] (fun v w2 => ∃ r1, kpC chW 69 45 tMv r r1 ∧ ((r1.1 (mP 0 22) = Int32.ofNat (lenO o) ∧ ∀ j, j < lenO o → r1.1 (mP 18 j) = Int32.ofNat (nthO (wdO o) j)) ∧ lfI r1) ∧ v = none ∧ w2 = tW r1 al cy rest 45 tMv) := by
  refine gMet_up hd ?_
  have hl : lenO o ≤ 10 := Nat.le_of_ble_eq_true (lAll_ok lenO_tab o (ordN_in ho))
  refine c_runC l (as := [.inr (.inr (some 0)), .inr (.inr (some 13))]) (r := r) (by omega) tMv_ok (cC_M _) sPa_nil (oM_cons (by rw [sI_c]; exact hnr) (oArr_ok hm)) (q_twM hn hn5 ho) (fun m0 v pa m hk hp hkp => ?_)
  rw [Bool.and_eq_true, Bool.and_eq_true, Bool.and_eq_true] at hk
  refine ⟨_, hkp, ⟨⟨?_, fun j hj => ?_⟩, fun i hi => ?_⟩, by rw [eqO_ok hk.1]; rfl, rfl⟩
  · have := isE_ok (b := 69) (r := r) (by decide) hk.2.1
    rwa [sI_c] at this
  · have := isE_ok (b := 69) (r := r) (by omega) (allL_ok hk.2.2.1 j hj)
    rwa [sI_c] at this
  · have := isE_ok (b := 69) (r := r) (by show Nat.succ i < 4096; omega) (allL_ok hk.2.2.2 i hi)
    rw [sI_c] at this
    rw [show mP 19 1 + i = 4096 * (69 + 19) + Nat.succ i by unfold mP; omega]
    exact this
theorem c_wordM (l : Launch) {D : va_G} {cy : Nat → ClassId} {al : Nat → Nat} {rest : va_W} {r : sE} {n q i : Nat} {o : List Nat} (hn : 1 ≤ n) (hn5 : n ≤ 5) (hq : q < 4) (hi1 : 1 ≤ i) (hi : i < 12) (hpa : sPa r (dP 819201 0 10 i [])) (hnr : r.1 (mP 0 1) = Int32.ofNat n) (ho : o ∈ ordN n) (hr : ∀ i, i < 5 → r.1 (mP 6 (6 * q + 1) + i) = Int32.ofNat (o.getD i 0)) : gMet l D cy al 200 170 (tW r al cy rest 45 tMv) [.ref (al 0), .int (Int32.ofNat q), .int (sI r (dA 819201 0 10 i))] (fun v w2 => v = some (.int (Int32.ofNat (wdV o i))) ∧ ∃ r1, kpC chW 69 45 tMv r r1 ∧ lfI r1 ∧ w2 = tW r1 al cy rest 45 tMv) := by
  refine gMet_up (d := 9) (by omega) ?_
  have hE := allL_ok (allL_ok q_wEX q hq) i hi
  rw [Bool.and_eq_true] at hE
  have key := gMet_of (l := l) (D := D) (cy := cy) (al := al) (d := 9) (k := 170) (w := tW r al cy rest 45 tMv) (r := r) (G := fun v w2 => v = some (.int (Int32.ofNat (wdV o i))) ∧ ∃ r1, kpC chW 69 45 tMv r r1 ∧ lfI r1 ∧ w2 = tW r1 al cy rest 45 tMv) hE.2 (fun At hFC => ?_)
  · have ea : List.map (sVal r al) [.inr (.inr (some (nat_lit 0))), .inl (.natCast q), .inl (dA (nat_lit 819201) (nat_lit 0) (nat_lit 10) i)] = [.ref (al 0), .int (Int32.ofNat q), .int (sI r (dA 819201 0 10 i))] := by
      simp only [List.map_cons, List.map_nil, sVal, sI_c]
    rw [ea] at key
    exact key
  obtain ⟨i0, rfl⟩ : ∃ k, i = Nat.succ k := ⟨i - 1, by show i = i - 1 + 1; omega⟩
  obtain ⟨⟨m1, m2⟩, m3⟩ := kpM_regs
  have hl : lenO o ≤ 10 := Nat.le_of_ble_eq_true (lAll_ok lenO_tab o (ordN_in ho))
  have hst := allL_ok q_wPA (Nat.succ i0) hi
  refine g_seg1 hFC (r := r) (by omega) tMv_ok (cC_M _) hpa oM_nil (allL_ok (allL_ok q_wMA q hq) i0 (by omega)) (fun m0 pa m r1 h1 h2 h3 hk1 => ?_) (fun m0 v pa m r1 h1 => nomatch h1)
  have hh : hasO r1 13 o := fun i hi => by rw [h3, isReg_ok h1 i hi, hr i hi]
  have eL : ∀ x : sE, sameA r1 x → (LW q (Nat.succ i0)).map (Option.map (sVal r1 al)) = (LW q (Nat.succ i0)).map (Option.map (sVal x al)) := fun x hx => by
    have h9 : lAll stO (LW q (Nat.succ i0)) = true := allL_ok (allL_ok (show allL 4 (fun q => allL 11 (fun i => lAll stO (LW q (Nat.succ i)))) = true by decide +kernel) q hq) i0 (by omega)
    exact (stL_ok hx h9).symm
  refine hFC.2 23 26 169 8 _ [.ref (al 0), .ref (al 13)] [] _ _ ⟨_, _, rfl, rfl⟩ rfl (by decide) rfl (gRecv_t (by omega) rfl rfl) (c_twM l (r := r1) (by omega) hn hn5 ((hk1.1 _ m1 m2).trans hnr) ho hh) (fun v1 w3 hv => ?_)
  obtain ⟨r2, hk2, hE2, rfl, rfl⟩ := hv
  have hk12 := kpC_trans (kpW_of hk1) hk2
  rw [eL r2 hk2.2.2]
  refine g_seg hFC (r := r2) (st := []) (by omega) tMv_ok (cC_M _) (sPa_st hk12.2.2 hst hpa) (oM_cons (by rw [sI_c]; exact hE2.1.1) oM_nil) (allL_ok (allL_ok (allL_ok q_wMC q hq) i0 (by omega)) (lenO o) (by omega)) (fun m0 pc L st pa m h1 => nomatch h1) (fun m0 v pa m h4 h5 hk3 => ?_)
  refine ⟨?_, _, kpC_trans hk12 (kpW_of hk3), fun i hi => ?_, rfl⟩
  rotate_left
  · refine (hk3.1 _ ?_ ?_).trans (hE2.2 i hi)
    · have := allL_ok (show allL 5 (fun i => isV (nat_lit 69) (nat_lit 45) tMv (Nat.add (mP 19 1) i)) = true by decide +kernel) i hi
      exact this
    · have := allL_ok (show allL 5 (fun i => Bool.not (scQ (Nat.add (mP 19 1) i))) = true by decide +kernel) i hi
      exact not_t this
  unfold wdV
  cases hN : wNot (Nat.succ i0) (lenO o) with
  | true =>
    rw [hN] at h4
    exact retI h4
  | false =>
    rw [hN] at h4
    have hN2 := hN
    unfold wNot at hN2
    rw [Bool.or_eq_false_iff] at hN2
    have i1 : Nat.succ i0 ≠ 1 := fun h => by have := Nat.ne_of_beq_eq_false hN2.1; exact this h
    have i2 : ¬ lenO o + 2 ≤ Nat.succ i0 := fun h => by
      have := Nat.ble_eq_true_of_le h
      rw [show Nat.ble (lenO o + 2) (Nat.succ i0) = Nat.ble (Nat.add (lenO o) (nat_lit 2)) (Nat.succ i0) from rfl, hN2.2] at this
      cases this
    obtain ⟨j, rfl⟩ : ∃ j, i0 = j + 1 := ⟨i0 - 1, by omega⟩
    have hj : j < lenO o := by omega
    rw [eqO_ok h4]
    show some (Value.int (sI r2 (.var (356350 + (j + 1 + 1))))) = _
    rw [sI_v, show 356350 + (j + 1 + 1) = mP 18 j by unfold mP; omega, hE2.1.2 j hj]
    rfl
theorem kd_98 : (PG 98).2.2.2.2 = 1 := by decide +kernel
theorem crJ_word : crJ (memB [nat_lit 0, nat_lit 34]) (memB [nat_lit 0]) scQ = true := by decide +kernel
noncomputable def wordR (a0 a1 : Nat) : Bool := jRun (nat_lit 100000) (nat_lit 200) tXv tXv tMv tMv (nat_lit 98) (nat_lit 170) (memB [nat_lit 0, nat_lit 34]) (memB [nat_lit 0]) [] [] (dP (nat_lit 819200) (nat_lit 0) (nat_lit 4) a0 (dP (nat_lit 819201) (nat_lit 0) (nat_lit 10) a1 [])) [.inl (dA (nat_lit 819200) (nat_lit 0) (nat_lit 4) a0), .inl (dA (nat_lit 819201) (nat_lit 0) (nat_lit 10) a1)] (fun x0 m0 pa x m => frJ scQ x0 m0 x m)
theorem q_word : allL 6 (fun a0 => allL 12 (fun a1 => Bool.or (Bool.and (Nat.ble (nat_lit 2) a0) (Nat.ble (nat_lit 1) a1)) (wordR a0 a1))) = true := by decide +kernel
theorem op_word {l : Launch} {D : va_G} {cy : Nat → ClassId} {alX alM : Nat → Nat} : OpI l D cy alX alM 98 170 2 := by
  intro r as hI hlen
  obtain ⟨a0, a1, rfl⟩ : ∃ a0 a1, as = [a0, a1] := by
    match as, hlen with
    | [a0, a1], _ => exact ⟨a0, a1, rfl⟩
  refine OpOk_uA [a0, a1, r.1 (xP 34 0), r.1 (xP 34 1), r.1 (xP 34 2), r.1 (xP 34 3)] ?_
  have e0 : (uA r [a0, a1, r.1 (xP 34 0), r.1 (xP 34 1), r.1 (xP 34 2), r.1 (xP 34 3)]).1 819200 = a0 := uA_a 0
  have e1 : (uA r [a0, a1, r.1 (xP 34 0), r.1 (xP 34 1), r.1 (xP 34 2), r.1 (xP 34 3)]).1 819201 = a1 := uA_a 1
  have f0 : (uA r [a0, a1, r.1 (xP 34 0), r.1 (xP 34 1), r.1 (xP 34 2), r.1 (xP 34 3)]).1 819202 = (uA r [a0, a1, r.1 (xP 34 0), r.1 (xP 34 1), r.1 (xP 34 2), r.1 (xP 34 3)]).1 (xP 34 0) := (uA_a 2).trans (uA_lo (by decide)).symm
  have f1 : (uA r [a0, a1, r.1 (xP 34 0), r.1 (xP 34 1), r.1 (xP 34 2), r.1 (xP 34 3)]).1 819203 = (uA r [a0, a1, r.1 (xP 34 0), r.1 (xP 34 1), r.1 (xP 34 2), r.1 (xP 34 3)]).1 (xP 34 1) := (uA_a 3).trans (uA_lo (by decide)).symm
  have f2 : (uA r [a0, a1, r.1 (xP 34 0), r.1 (xP 34 1), r.1 (xP 34 2), r.1 (xP 34 3)]).1 819204 = (uA r [a0, a1, r.1 (xP 34 0), r.1 (xP 34 1), r.1 (xP 34 2), r.1 (xP 34 3)]).1 (xP 34 2) := (uA_a 4).trans (uA_lo (by decide)).symm
  have f3 : (uA r [a0, a1, r.1 (xP 34 0), r.1 (xP 34 1), r.1 (xP 34 2), r.1 (xP 34 3)]).1 819205 = (uA r [a0, a1, r.1 (xP 34 0), r.1 (xP 34 1), r.1 (xP 34 2), r.1 (xP 34 3)]).1 (xP 34 3) := (uA_a 5).trans (uA_lo (by decide)).symm
  replace hI := Inv_uA (as := [a0, a1, r.1 (xP 34 0), r.1 (xP 34 1), r.1 (xP 34 2), r.1 (xP 34 3)]) hI
  generalize uA r [a0, a1, r.1 (xP 34 0), r.1 (xP 34 1), r.1 (xP 34 2), r.1 (xP 34 3)] = r at hI e0 e1 f0 f1 f2 f3 ⊢
  obtain ⟨c0, hc0, hp0, hv0⟩ := dP_ok r 819200 (lo := 0) (n := 4) (Or.inr (by omega)) (by omega)
  rw [e0] at hv0
  obtain ⟨c1, hc1, hp1, hv1⟩ := dP_ok r 819201 (lo := 0) (n := 10) (Or.inr (by omega)) (by omega)
  rw [e1] at hv1
  have hq := allL_ok (allL_ok q_word c0 hc0) c1 hc1
  rw [Bool.or_eq_true, Bool.and_eq_true] at hq
  rcases hq with ⟨g0, g1⟩ | hq
  · have b0 : 2 ≤ c0 := Nat.le_of_ble_eq_true g0
    have b1 : 1 ≤ c1 := Nat.le_of_ble_eq_true g1
    obtain ⟨q, rfl⟩ : ∃ k, c0 = k + 2 := ⟨c0 - 2, by omega⟩
    have ek : a0 = Int32.ofNat q := by rw [← hv0, dA_c (by omega)]
    subst ek
    have hq4 : q < 4 := by omega
    obtain ⟨c, hc, hcc, hcm⟩ := id hI
    obtain ⟨⟨-, hn1, -⟩, hn2, -⟩ := CC_nd hc hcc
    obtain ⟨-, n1, n5⟩ := cd_tab c hc
    obtain ⟨o, ho, hx, hm⟩ := (Comp_R hq4).mp (hcm q (by omega))
    have hf : r.1 (819202 + q) = r.1 (xP 34 q) := by
      match q, hq4 with
      | 0, _ => exact f0
      | 1, _ => exact f1
      | 2, _ => exact f2
      | 3, _ => exact f3
    have hpa := hp1 [] sPa_nil
    rw [← hv1]
    exact OpOk_W (V := some (.int (Int32.ofNat (wdV o c1)))) hI (fun rest => c_wordX l (pa := []) n1 n5 hq4 b1 hc1 hpa ho hx hf) (fun rest => c_wordM l n1 n5 hq4 b1 hc1 hpa hn2 ho hm) (Or.inl ⟨kd_98, _, rfl⟩)
  · refine jOk l tXv_ok tXv_ok tMv_ok tMv_ok (cC_X r) (cC_M r) (hp0 _ (hp1 _ sPa_nil)) (fun _ _ _ => rfl) (fun _ _ _ => rfl) oX_nil oM_nil ?_ ?_ hq (fun x0 m0 pa x m hx0 hm0 hck hp hfx hfm _ _ => Inv_qv crJ_word hx0 hm0 hfx hfm hck hI)
    · simp only [List.map_cons, List.map_nil, sVal, hv0, hv1]
    · simp only [List.map_cons, List.map_nil, sVal, hv0, hv1]
