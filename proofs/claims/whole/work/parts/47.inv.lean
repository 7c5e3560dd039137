/-! 47: Inv behind a register made otherwise; the tails of swap, times, turn -/
theorem chXM_ok : allL 11 (fun z => allL 4 (fun q => allL 12 (fun id => Bool.or (Bool.or (Nat.beq id q) (Nat.beq id (nat_lit 8))) (lAll (fun u => Bool.and (Bool.not (chX z q u)) (Bool.not (chM z q u))) (cPl id))))) = true := by decide +kernel
theorem chXM_T : allL 11 (fun z => allL 4 (fun q => allL 10 (fun i => Bool.or (Bool.or (Nat.beq i z) (Nat.beq z (nat_lit 10))) (Bool.and (Bool.and (Bool.not (chX z q (xP 45 i))) (Bool.not (chX z q (xP 46 i)))) (allL 6 (fun j => Bool.not (chM z q (mP 15 (6 * i + j))))))))) = true := by decide +kernel
theorem isV_T : Bool.and (allL 10 (fun i => Bool.and (isV 0 68 tXv (xP 45 i)) (isV 0 68 tXv (xP 46 i)))) (Bool.and (allL 60 (fun j => isV 69 45 tMv (mP 15 j))) (Bool.and (allL 4 (fun q => isV 0 68 tXv (xP 34 q))) (Bool.and (allL 24 (fun j => isV 69 45 tMv (mP 6 j))) (Bool.and (isV 0 68 tXv (xP 44 0)) (isV 69 45 tMv (mP 0 17)))))) = true := by decide +kernel
theorem eB_x {a b : sE} {v : Nat} (h : v / 4096 < 69) : (eB a b).1 v = a.1 v := by
  unfold eB
  simp only [if_pos h]
theorem eB_m {a b : sE} {v : Nat} (h : ¬ v / 4096 < 69) : (eB a b).1 v = b.1 v := by
  unfold eB
  simp only [if_neg h]
theorem cC_eBx {r1 r2 : sE} {t : Nat → sC} (ht : tOk 0 68 t tXv) (h : cC 0 68 t r1) : cC 0 68 t (eB r1 r2) := fun i hi j k => by
  have h4 : ∀ y, (t i).2.2[j]? = some y → j < 4096 := fun y hy => by
    have k3 := (ht i hi).1.2
    unfold fitC at k3
    simp only [Bool.and_eq_true] at k3
    have g4 : (t i).2.2.length ≤ 4096 := by rw [← sLn_ok]; exact Nat.le_of_ble_eq_true k3.2.2.2.1
    exact Nat.lt_of_lt_of_le (List.getElem?_eq_some_iff.mp hy).1 g4
  have e : ∀ v, v / 4096 < 69 → (eB r1 r2).1 v = r1.1 v ∧ (eB r1 r2).2 v = r1.2 v := fun v hv => by
    unfold eB
    simp only [if_pos hv]
    exact ⟨trivial, trivial⟩
  exact ⟨fun hy => by have := h4 _ hy; rw [(e _ (by omega)).1]; exact (h i hi j k).1 hy, fun hy => by have := h4 _ hy; rw [(e _ (by omega)).2]; exact (h i hi j k).2 hy⟩
theorem cC_eBm {r1 r2 : sE} {t : Nat → sC} (h : cC 69 45 t r2) : cC 69 45 t (eB r1 r2) := fun i hi j k => by
  have e : ∀ v, ¬ v / 4096 < 69 → (eB r1 r2).1 v = r2.1 v ∧ (eB r1 r2).2 v = r2.2 v := fun v hv => by
    unfold eB
    simp only [if_neg hv]
    exact ⟨trivial, trivial⟩
  exact ⟨fun hy => by rw [(e _ (by omega)).1]; exact (h i hi j k).1 hy, fun hy => by rw [(e _ (by omega)).2]; exact (h i hi j k).2 hy⟩
theorem Inv_pu {r rM r1 r2 : sE} {c z q : Nat} {o : List Nat} (hc : c < 18) (hcm : ∀ id, id < 12 → Comp id c r) (hq : q < 4) (hz : z ≤ 10) (h44 : r.1 (xP 44 0) = Int32.ofNat z) (ho : o ∈ ordN (nOf c)) (hX : PuX z q o r r1) (hM : PuM z q o rM r2)
    (hfM : ∀ id, id < 12 → ∀ u ∈ cPl id, isV 69 45 tMv u = true → rM.1 u = r.1 u) (hcX : cC 0 68 (tX c) r1) (hcM : cC 69 45 (tM c) r2) : Inv (eB r1 r2) := by
  have ex : ∀ u, isV 0 68 tXv u = true → (eB r1 r2).1 u = r1.1 u := fun u hu => eB_x (by have := (isV_ok hu).2.1; omega)
  have em : ∀ u, isV 69 45 tMv u = true → (eB r1 r2).1 u = r2.1 u := fun u hu => eB_m (by have := (isV_ok hu).1; omega)
  have hR := hcm q (by omega)
  rw [Comp_R hq] at hR
  obtain ⟨od, ho0, ho1, ho2⟩ := id hR
  have mR : ∀ i, i < 5 → mP 6 (6 * q + 1) + i ∈ cPl q := (cPl_R q hq).2
  have vt := isV_T
  simp only [Bool.and_eq_true] at vt
  obtain ⟨v1, v2, v3, v4, v5, v6⟩ := vt
  have vR : ∀ i, i < 5 → isV 69 45 tMv (mP 6 (6 * q + 1) + i) = true := fun i hi => by
    have := allL_ok v4 (6 * q + 1 + i) (by omega)
    rw [show mP 6 (6 * q + 1) + i = mP 6 (6 * q + 1 + i) by unfold mP; omega]
    exact this
  have hrM : ∀ i, i < 5 → rM.1 (mP 6 (6 * q + 1) + i) = Int32.ofNat (od.getD i 0) := fun i hi => (hfM q (by omega) _ (mR i hi) (vR i hi)).trans (ho2 i hi)
  refine ⟨c, hc, ⟨cC_eBx (tX_ok hc) hcX, cC_eBm hcM⟩, ?_⟩
  rcases hX with ⟨a1, a2⟩ | ⟨a1, a2, a3, a4⟩
  · have eo : od = o := code_inj (ordN_in ho0) (ordN_in ho) (ho1.symm.trans a1)
    subst eo
    rcases hM with ⟨b1, b2⟩ | ⟨⟨i, hi, b1⟩, -⟩
    · exact fun id hid => Comp_congr hid rfl (fun u hu => by
        rcases vPl_v id hid u hu with h | h
        · rw [ex u h, a2 u h]
        · rw [em u h, b2 u h, hfM id hid u hu h]) (hcm id hid)
    · exact absurd (hrM i hi) b1
  · rcases hM with ⟨b1, b2⟩ | ⟨-, b2, b3, b4⟩
    · exfalso
      have eo : od = o := row_inj (ordN_in ho0) (ordN_in ho) (fun i hi => (hrM i hi).symm.trans (b1 i hi))
      subst eo
      exact a1 ho1
    · intro id hid
      by_cases e1 : id = q
      · subst e1
        rw [Comp_R hq]
        exact ⟨o, ho, (ex _ (allL_ok v3 id hq)).trans a3, fun i hi => (em _ (vR i hi)).trans (b3 i hi)⟩
      by_cases e8 : id = 8
      · subst e8
        obtain ⟨z', z1, z2, z3, z4⟩ := (show cT (nOf c) r from hcm 8 (by omega))
        have ez : z' = z := i32_nat (by omega) (by omega) (z2.symm.trans h44)
        subst ez
        have oldR : ∀ {pX pM : Nat} {r' : sE}, r'.1 pX = r.1 (xP 34 q) → (∀ i, i < 5 → r'.1 (pM + i) = r.1 (mP 6 (6 * q + 1) + i)) → cR (nOf c) pX pM r' := fun {pX pM r'} h1 h2 => cR_copy h1 h2 hR
        rcases a4 with ⟨c1, c2, c3, c4⟩ | ⟨c1, c2, c3, c4, c5⟩
        · rcases b4 with ⟨-, d2, d3, d4⟩ | ⟨d1, -⟩
          · refine ⟨z' + 1, by omega, (ex _ v5).trans c2, (em _ v6).trans d2, fun i hi => ?_⟩
            have vi := allL_ok v1 i (by omega)
            rw [Bool.and_eq_true] at vi
            have vm : ∀ j, j < 6 → isV 69 45 tMv (mP 15 (6 * i + j)) = true := fun j hj => allL_ok v2 _ (by omega)
            by_cases e : i = z'
            · subst e
              refine ⟨⟨q, hq, (ex _ vi.1).trans c3, (em _ (vm 0 (by omega))).trans d3⟩, oldR ((ex _ vi.2).trans c4) (fun j hj => ?_)⟩
              have e2 : mP 15 (6 * i + 1) + j = mP 15 (6 * i + (1 + j)) := by unfold mP; omega
              rw [e2, em _ (vm (1 + j) (by omega)), ← e2, d4 j hj]
              exact hfM q (by omega) _ (mR j hj) (vR j hj)
            · have t := allL_ok (allL_ok (allL_ok chXM_T z' (by omega)) q hq) i (by omega)
              simp only [Bool.or_eq_true, Bool.and_eq_true] at t
              rcases t with (t | t) | ⟨⟨t1, t2⟩, t3⟩
              · exact absurd (Nat.eq_of_beq_eq_true t) e
              · have : z' = 10 := Nat.eq_of_beq_eq_true t
                omega
              obtain ⟨⟨q', p1, p2, p3⟩, p4⟩ := z4 i (by omega)
              have t3' : ∀ j, j < 6 → r2.1 (mP 15 (6 * i + j)) = r.1 (mP 15 (6 * i + j)) := fun j hj => by
                rw [b2 _ (vm j hj) (by have := allL_ok t3 j hj; simpa using this)]
                have hu : mP 15 (6 * i + j) ∈ cPl 8 := by
                  obtain ⟨⟨w1, w2, w3⟩, w4⟩ := cPl_T.2 i (by omega)
                  cases j with
                  | zero => exact w2
                  | succ j =>
                    have := w4 j (by omega)
                    rw [show mP 15 (6 * i + (j + 1)) = mP 15 (6 * i + 1) + j by unfold mP; omega]
                    exact this
                exact hfM 8 (by omega) _ hu (vm j hj)
              refine ⟨⟨q', p1, ?_, ?_⟩, cR_copy ?_ (fun j hj => ?_) p4⟩
              · rw [ex _ vi.1, a2 _ vi.1 (by simpa using t1)]
                exact p2
              · exact (em _ (vm 0 (by omega))).trans ((t3' 0 (by omega)).trans p3)
              · rw [ex _ vi.2, a2 _ vi.2 (by simpa using t2)]
              · have e2 : mP 15 (6 * i + 1) + j = mP 15 (6 * i + (1 + j)) := by unfold mP; omega
                rw [e2, em _ (vm (1 + j) (by omega))]
                exact t3' (1 + j) (by omega)
          · omega
        · rcases b4 with ⟨d1, -⟩ | ⟨-, d2, d3, d4, d5⟩
          · omega
          · refine ⟨10, by omega, (ex _ v5).trans c2, (em _ v6).trans d2, fun i hi => ?_⟩
            have vi := allL_ok v1 i (by omega)
            rw [Bool.and_eq_true] at vi
            have vm : ∀ j, j < 6 → isV 69 45 tMv (mP 15 (6 * i + j)) = true := fun j hj => allL_ok v2 _ (by omega)
            by_cases e : i = 9
            · subst e
              refine ⟨⟨q, hq, (ex _ vi.1).trans c3, (em _ (vm 0 (by omega))).trans d3⟩, oldR ((ex _ vi.2).trans c4) (fun j hj => ?_)⟩
              have e2 : mP 15 (6 * 9 + 1) + j = mP 15 (6 * 9 + (1 + j)) := by unfold mP; omega
              rw [e2, em _ (vm (1 + j) (by omega)), ← e2]
              refine (d4 j hj).trans ?_
              exact hfM q (by omega) _ (mR j hj) (vR j hj)
            · obtain ⟨g1, g2⟩ := c5 i (by omega)
              obtain ⟨⟨q', p1, p2, p3⟩, p4⟩ := z4 (i + 1) (by omega)
              have t3' : ∀ j, j < 6 → r2.1 (mP 15 (6 * i + j)) = r.1 (mP 15 (6 * (i + 1) + j)) := fun j hj => by
                rw [d5 _ (by omega), show 6 * i + j + 6 = 6 * (i + 1) + j by omega]
                have hu : mP 15 (6 * (i + 1) + j) ∈ cPl 8 := by
                  obtain ⟨⟨w1, w2, w3⟩, w4⟩ := cPl_T.2 (i + 1) (by omega)
                  cases j with
                  | zero => exact w2
                  | succ j =>
                    have := w4 j (by omega)
                    rw [show mP 15 (6 * (i + 1) + (j + 1)) = mP 15 (6 * (i + 1) + 1) + j by unfold mP; omega]
                    exact this
                exact hfM 8 (by omega) _ hu (allL_ok v2 _ (by omega))
              refine ⟨⟨q', p1, ?_, ?_⟩, cR_copy ?_ (fun j hj => ?_) p4⟩
              · rw [ex _ vi.1, g1]
                exact p2
              · exact (em _ (vm 0 (by omega))).trans ((t3' 0 (by omega)).trans p3)
              · rw [ex _ vi.2, g2]
              · have e2 : mP 15 (6 * i + 1) + j = mP 15 (6 * i + (1 + j)) := by unfold mP; omega
                have e3 : mP 15 (6 * (i + 1) + 1) + j = mP 15 (6 * (i + 1) + (1 + j)) := by unfold mP; omega
                rw [e2, em _ (vm (1 + j) (by omega)), e3]
                exact t3' (1 + j) (by omega)
      · have t := allL_ok (allL_ok (allL_ok chXM_ok z (by omega)) q hq) id hid
        simp only [Bool.or_eq_true] at t
        rcases t with (t | t) | t
        · exact absurd (Nat.eq_of_beq_eq_true t) e1
        · exact absurd (Nat.eq_of_beq_eq_true t) e8
        · refine Comp_congr hid rfl (fun u hu => ?_) (hcm id hid)
          have tu := lAll_ok t u hu
          rw [Bool.and_eq_true] at tu
          rcases vPl_v id hid u hu with h | h
          · rw [ex u h, a2 u h (by simpa using tu.1)]
          · rw [em u h, b2 u h (by simpa using tu.2), hfM id hid u hu h]
