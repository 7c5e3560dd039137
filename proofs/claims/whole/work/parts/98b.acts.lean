/-! 98b: acts (by wip/whole/mk98b.py) -/
noncomputable def csG (Ch : Nat → Bool) (l : List sV) : Nat → Bool := List.rec (motive := fun _ => Nat → Bool) (fun _ => true) (fun x _ ih w => Bool.and (Sum.rec (motive := fun _ => Bool) (fun e => sNumE e (fun _ => Bool.not (Ch w)) true) (fun y => Sum.rec (motive := fun _ => Bool) (fun e => sNumE e (fun _ => Bool.not (Ch w)) true) (fun _ => true) y) x) (ih (Nat.succ w))) l
theorem csG_ok {Ch : Nat → Bool} : ∀ (l : List sV) (w : Nat), csG Ch l w = true → ∀ j k, (l[j]? = some (.inl (.natCast k)) ∨ l[j]? = some (.inr (.inl (.natCast k)))) → Ch (w + j) = false
  | [], w, _, j, k, h => by simp at h
  | x :: l, w, h, j, k, hx => by
    have h2 : Bool.and (Sum.rec (motive := fun _ => Bool) (fun e => sNumE e (fun _ => Bool.not (Ch w)) true) (fun y => Sum.rec (motive := fun _ => Bool) (fun e => sNumE e (fun _ => Bool.not (Ch w)) true) (fun _ => true) y) x) (csG Ch l (Nat.succ w)) = true := h
    rw [Bool.and_eq_true] at h2
    cases j with
    | zero =>
      rcases hx with hx | hx
      · simp at hx
        subst hx
        have h3 : Bool.not (Ch w) = true := h2.1
        simpa using h3
      · simp at hx
        subst hx
        have h3 : Bool.not (Ch w) = true := h2.1
        simpa using h3
    | succ j =>
      rw [show w + (j + 1) = Nat.succ w + j by omega]
      exact csG_ok l _ h2.2 j k (by simpa using hx)
theorem kpC_cC {Ch : Nat → Bool} {b n : Nat} {t tv : Nat → sC} {r r1 : sE} (ht : tOk b n t tv) (hcs : ∀ i, i < n → csG Ch (t i).2.2 (4096 * (b + i)) = true) (h : kpC Ch b n tv r r1) (hc : cC b n t r) : cC b n t r1 := by
  intro i hi j k
  obtain ⟨g1, g2, g3⟩ := spC_at (ht i hi).2
  constructor
  · intro hx
    have hj : j < 4096 := Nat.lt_of_lt_of_le (List.getElem?_eq_some_iff.mp hx).1 g2
    have hv := cv_gen ht i hi j k hx
    rw [h.1 _ hv (csG_ok _ _ (hcs i hi) j k (Or.inl hx))]
    exact (hc i hi j k).1 hx
  · intro hx
    have hj : j < 4096 := Nat.lt_of_lt_of_le (List.getElem?_eq_some_iff.mp hx).1 g2
    obtain ⟨y, y1, y2⟩ := g3 j _ hx
    have ey : y = .inr (.inl (.var (4096 * (b + i) + j))) := by
      replace y2 : spV (4096 * (b + i) + j) (.inr (.inl (.natCast k))) y = true := y2
      unfold spV at y2
      split at y2
      · rw [Bool.and_eq_true] at y2
        cases y2.2
      · rw [Bool.and_eq_true] at y2
        rw [Nat.eq_of_beq_eq_true y2.1]
      · have := eqV_ok y2
        cases this
      · cases y2
    subst ey
    rw [h.2.1 _ (isL_mk hi hj y1) (csG_ok _ _ (hcs i hi) j k (Or.inr hx))]
    exact (hc i hi j k).2 hx
theorem csXA : allL 4 (fun s => allL 18 (fun c => allL 68 (fun i => csG (chAc s (nat_lit 20)) (tX c i).2.2 (Nat.mul (nat_lit 4096) (Nat.add (nat_lit 0) i))))) = true := by decide +kernel
theorem csMA : allL 4 (fun s => allL 18 (fun c => allL 45 (fun i => csG (chAc s (nat_lit 20)) (tM c i).2.2 (Nat.mul (nat_lit 4096) (Nat.add (nat_lit 69) i))))) = true := by decide +kernel
theorem rgP_up {p d u : Nat} (hd : d ≤ 20) (h : rgP p d u = true) : rgP p 20 u = true := by
  unfold rgP at h ⊢
  rw [Bool.and_eq_true] at h ⊢
  have h2 : u + 1 ≤ p + d := Nat.le_of_ble_eq_true h.2
  exact ⟨h.1, Nat.ble_eq_true_of_le (show u + 1 ≤ p + 20 by omega)⟩
theorem chAc_up {s d u : Nat} (hd : d ≤ 20) (h : chAc s 20 u = false) : chAc s d u = false := by
  cases h1 : chAc s d u with
  | false => rfl
  | true =>
    rw [← h]
    unfold chAc at h1 ⊢
    rw [Bool.or_eq_true, Bool.or_eq_true] at h1
    symm
    rw [Bool.or_eq_true, Bool.or_eq_true]
    rcases h1 with h1 | h1 | h1
    · exact Or.inl h1
    · exact Or.inr (Or.inl (rgP_up hd h1))
    · exact Or.inr (Or.inr (rgP_up hd h1))
theorem ac_oth : ∀ s, s < 4 → ∀ id, id < 12 → id ≠ 4 + s → lAll (fun u => Bool.not (chAc s 20 u)) (cPl id) = true := by decide +kernel
theorem ac_own : ∀ s, s < 4 → (chAc s 20 (xP (36 + 2 * s) 0) = false ∧ chAc s 20 (xP (36 + 2 * s) 1) = false ∧ chAc s 20 (mP 7 s) = false ∧ chAc s 20 (mP 8 s) = false) ∧ isV 0 68 tXv (xP (36 + 2 * s) 0) = true ∧ isV 0 68 tXv (xP (36 + 2 * s) 1) = true ∧ isV 69 45 tMv (mP 7 s) = true ∧ isV 69 45 tMv (mP 8 s) = true := by decide +kernel
theorem ac_num : ∀ s, s < 4 → ∀ d, d < 7 → ∀ j, j < 20 → d ≤ j → chAc s d (xP (37 + 2 * s) 0 + j) = false ∧ chAc s d (mP 9 (20 * s) + j) = false := by decide +kernel
theorem Inv_acts {r r1 r2 : sE} {s c : Nat} {S : Nat → Int} (hs : s < 4) (hc : c < 18) (hcc : CC c r) (hcm : ∀ id, id < 12 → Comp id c r) (hso : r.1 (xP (36 + 2 * s) 0) = 1) (hN : ∀ j, j < 20 → r.1 (mP 9 (20 * s) + j) = r.1 (xP (37 + 2 * s) 0 + j)) (hB : ∀ j, j < 20 → -999 ≤ r.1 (xP (37 + 2 * s) 0 + j) ∧ r.1 (xP (37 + 2 * s) 0 + j) ≤ 999) (hS : ∀ j, j < dOf c → -999 ≤ S j ∧ S j ≤ 999) (h1 : kpC (chAc s (dOf c)) 0 68 tXv r r1) (n1 : ∀ j, j < dOf c → r1.1 (xP (37 + 2 * s) 0 + j) = Int32.ofInt (S j)) (h2 : kpC (chAc s (dOf c)) 69 45 tMv r r2) (n2 : ∀ j, j < dOf c → r2.1 (mP 9 (20 * s) + j) = Int32.ofInt (S j)) : Inv (eB r1 r2) := by
  obtain ⟨⟨d1, d6⟩, -, -⟩ := cd_tab c hc
  have eX : ∀ v, v / 4096 < 69 → (eB r1 r2).1 v = r1.1 v ∧ (eB r1 r2).2 v = r1.2 v := fun v hv => by
    unfold eB
    simp only [if_pos hv]
    exact ⟨trivial, trivial⟩
  have eM : ∀ v, ¬ v / 4096 < 69 → (eB r1 r2).1 v = r2.1 v ∧ (eB r1 r2).2 v = r2.2 v := fun v hv => by
    unfold eB
    simp only [if_neg hv]
    exact ⟨trivial, trivial⟩
  have w1 : kpC (chAc s 20) 0 68 tXv r r1 := kpC_weak (fun u hu => chAc_up (by omega) hu) h1
  have w2 : kpC (chAc s 20) 69 45 tMv r r2 := kpC_weak (fun u hu => chAc_up (by omega) hu) h2
  have kX := kpC_cC (tX_ok hc) (fun i hi => allL_ok (allL_ok (allL_ok csXA s hs) c hc) i hi) w1 hcc.1
  have kM := kpC_cC (tM_ok hc) (fun i hi => allL_ok (allL_ok (allL_ok csMA s hs) c hc) i hi) w2 hcc.2
  have pX : ∀ u, isV 0 68 tXv u = true → chAc s 20 u = false → (eB r1 r2).1 u = r.1 u := fun u g1 g2 => by
    rw [(eX u (by have := (isV_ok g1).2.1; omega)).1]
    exact w1.1 u g1 g2
  have pM : ∀ u, isV 69 45 tMv u = true → chAc s 20 u = false → (eB r1 r2).1 u = r.1 u := fun u g1 g2 => by
    rw [(eM u (by have h8 : 69 ≤ u / 4096 := (isV_ok g1).1; omega)).1]
    exact w2.1 u g1 g2
  refine ⟨c, hc, ⟨fun i hi j k => ?_, fun i hi j k => ?_⟩, fun id hid => ?_⟩
  · have h4 : ∀ y, (tX c i).2.2[j]? = some y → j < 4096 := fun y hy => Nat.lt_of_lt_of_le (List.getElem?_eq_some_iff.mp hy).1 (spC_at (tX_ok hc i hi).2).2.1
    exact ⟨fun hy => by have := h4 _ hy; rw [(eX _ (by omega)).1]; exact (kX i hi j k).1 hy, fun hy => by have := h4 _ hy; rw [(eX _ (by omega)).2]; exact (kX i hi j k).2 hy⟩
  · exact ⟨fun hy => by rw [(eM _ (by omega)).1]; exact (kM i hi j k).1 hy, fun hy => by rw [(eM _ (by omega)).2]; exact (kM i hi j k).2 hy⟩
  by_cases he : id = 4 + s
  · subst he
    have h0 := hcm (4 + s) hid
    rw [Comp_S hs] at h0 ⊢
    obtain ⟨⟨o1, o2, o3, o4⟩, v1, v2, v3, v4⟩ := ac_own s hs
    refine ⟨by rw [pM _ v3 o3, pX _ v1 o1]; exact h0.1, Or.inr (Or.inl ⟨by rw [pX _ v1 o1]; exact hso, ?_⟩)⟩
    have key : ∀ j, j < 20 → (eB r1 r2).1 (mP 9 (20 * s) + j) = (eB r1 r2).1 (xP (37 + 2 * s) 0 + j) ∧ -999 ≤ (eB r1 r2).1 (xP (37 + 2 * s) 0 + j) ∧ (eB r1 r2).1 (xP (37 + 2 * s) 0 + j) ≤ 999 := fun j hj => by
      rw [(eX (xP (37 + 2 * s) 0 + j) (by unfold xP; omega)).1, (eM (mP 9 (20 * s) + j) (by unfold mP; omega)).1]
      rcases Nat.lt_or_ge j (dOf c) with g | g
      · rw [n1 j g, n2 j g]
        have hSj := hS j g
        have e9 : (-999 : Int32).toInt = -999 := by decide
        have e8 : (999 : Int32).toInt = 999 := by decide
        refine ⟨rfl, ?_, ?_⟩
        · rw [Int32.le_iff_toInt_le, of_toI (by omega), e9]
          exact hSj.1
        · rw [Int32.le_iff_toInt_le, of_toI (by omega), e8]
          exact hSj.2
      · obtain ⟨c1, c2⟩ := ac_num s hs (dOf c) (by omega) j hj g
        have q1 := ac_pl s hs j hj
        have q2 := nm_pl s hs j hj
        rw [show xP (37 + 2 * s) j = xP (37 + 2 * s) 0 + j by unfold xP; omega] at q1
        rw [show mP 9 (20 * s + j) = mP 9 (20 * s) + j by unfold mP; omega] at q2
        rw [h1.1 _ q1.1 c1, h2.1 _ q2.1 c2]
        exact ⟨hN j hj, hB j hj⟩
    exact ⟨fun j hj => (key j hj).1, fun j hj => (key j hj).2⟩
  · refine Comp_congr hid rfl (fun u hu => ?_) (hcm id hid)
    have h5 := lAll_ok (cPl_varv id hid) u hu
    have h6 := lAll_ok (ac_oth s hs id hid he) u hu
    have h7 : chAc s 20 u = false := by simpa using h6
    rw [Bool.or_eq_true] at h5
    rcases h5 with h5 | h5
    · exact pX u h5 h7
    · exact pM u h5 h7
section AO
variable {D : va_G} {cy : Nat → ClassId} {al : Nat → Nat} {rest : va_W}
theorem LXa_eq {x : sE} {s : Nat} {a b e : Option sV} : (LXa s a b e).map (Option.map (sVal x al)) = [some (.ref (al 0)), some (.int (Int32.ofNat s)), a.map (sVal x al), b.map (sVal x al), e.map (sVal x al), none] := by
  simp only [LXa, List.map_cons, List.map_nil, Option.map_some, Option.map_none, sVal, sI_c]
/-- the class' acts -/
theorem c_acO (l : Launch) {c s q : Nat} {r : sE} {o : List Nat} {v : Nat → Int} (hc : c < 18) (hs : s < 4) (hq4 : q < 4) (hcc : cC 0 68 (tX c) r) (hso : r.1 (xP (36 + 2 * s) 0) = Int32.ofNat 1) (ho : o ∈ ordN (nOf c)) (hr : r.1 (xP 34 q) = Int32.ofNat (ocode o)) (hv : ∀ i, i < dOf c → r.1 (xP (37 + 2 * s) i) = Int32.ofInt (v i)) (hb : ∀ i, i < dOf c → -999 ≤ v i ∧ v i ≤ 999) : gMet l D cy al 200 110 (tW r al cy rest 68 tXv) [.ref (al 0), .int (Int32.ofNat s), .int (Int32.ofNat q)] (fun x w => acF c o (dOf c) ∧ ∃ r1, acO c o v s 0 68 tXv (xP (37 + 2 * s) 0) r x r1 ∧ w = tW r1 al cy rest 68 tXv) := by
  refine gMet_up (d := 20) (by omega) ?_
  obtain ⟨⟨d1, d6⟩, n1, n5⟩ := cd_tab c hc
  have hw : ∀ (x : sE) l, tW (uM x l) al cy rest 68 tXv = tW x al cy rest 68 tXv := fun x l => tW_uM (by omega) tXv_can
  have hE0 : ∀ x : sE, sI (uM x [Int32.ofNat q]) (.var (nat_lit 819290)) = Int32.ofNat q := fun x => by rw [sI_v]; exact uM_v 0
  have hq := allL_ok (allL_ok q_ax0 s hs) q hq4
  rw [Bool.and_eq_true] at hq
  have key := gMet_of (l := l) (D := D) (cy := cy) (al := al) (d := 20) (k := 110) (w := tW r al cy rest 68 tXv) (r := r) (G := fun x w => acF c o (dOf c) ∧ ∃ r1, acO c o v s 0 68 tXv (xP (37 + 2 * s) 0) r x r1 ∧ w = tW r1 al cy rest 68 tXv) hq.2 (fun At hFC => ?_)
  · rw [show List.map (sVal r al) [.inr (.inr (some (nat_lit 0))), .inl (.natCast s), .inl (.natCast q)] = [.ref (al 0), .int (Int32.ofNat s), .int (Int32.ofNat q)] by simp only [List.map_cons, List.map_nil, sVal, sI_c]] at key
    exact key
  refine g_segS hFC (r := r) (al := al) (cy := cy) (rest := rest) tXv_ok (cC_X _) sPa_nil (oX_cons (by rw [sI_c]; exact hso) oX_nil) hq.1 (fun pc L st pa hk hp => ?_) (fun x pa hk => nomatch hk)
  obtain ⟨rfl, rfl, rfl⟩ := kAt_ok hk
  rw [LXa_eq, show List.map (sVal r al) [.inr (.inr (some (nat_lit 47))), .inl (.var (Nat.add (nat_lit 139264) q)), .inr (.inr (some (Nat.add (nat_lit 37) (Nat.mul (nat_lit 2) s)))), .inr (.inr (some (nat_lit 14)))] = ([.ref (al 14), .ref (al (37 + 2 * s)), .int (Int32.ofNat (ocode o)), .ref (al 47)] : List Value).reverse ++ [] by
    simp only [List.map_cons, List.map_nil, sVal, sI_v]
    rw [show r.1 (Nat.add (nat_lit 139264) q) = Int32.ofNat (ocode o) from (congrArg r.1 (show 139264 + q = xP 34 q by unfold xP; omega)).trans hr]
    rfl]
  refine hFC.2 56 59 86 19 _ [.ref (al 14), .ref (al (37 + 2 * s)), .int (Int32.ofNat (ocode o)), .ref (al 47)] [] _ _ ⟨_, _, rfl, rfl⟩ rfl (by decide) rfl (gRecv_x (j := 14) (show 14 < 68 by omega) rfl rfl) (c_acX l (by omega) hc hs hcc ho hv) (fun v2 w2 h => ?_)
  obtain ⟨rfl, hF, r2, j1, j2, rfl⟩ := h
  have hk4 : kp 0 68 tXv r (uM r2 [Int32.ofNat q]) := kp_trans j1 (kp_uM (by omega))
  have SB : ∀ j, j < dOf c → -593406 ≤ acS c o v (dOf c) j ∧ acS c o v (dOf c) j ≤ 593406 := fun j hj => by
    have := acS_bd (v := v) hj (dOf c) (by omega) hF hb
    omega
  have hx : ∀ j, j < dOf c → sI (uM r2 [Int32.ofNat q]) (.var (Nat.add (nat_lit 192512) j)) = Int32.ofInt (acS c o v (dOf c) j) := fun j hj => by
    rw [sI_v]
    show (uM r2 [Int32.ofNat q]).1 (192512 + j) = _
    rw [uM_lo (by omega), ← j2 j hj]
    exact congrArg r2.1 (show 192512 + j = xP 47 j by unfold xP; omega)
  have g := g_segF hFC (r := uM r2 [Int32.ofNat q]) (al := al) (cy := cy) (rest := rest) (by omega) (tX_ok hc) (kpX_cC hc hk4 hcc) sPa_nil oX_nil (allL_ok (allL_ok q_ax1 c hc) s hs) (fun m0 pc L st pa m h1 => nomatch h1) (fun m0 x pa m hk hp hfr => ?_)
  · rw [hw, LXa_eq] at g
    simp only [Option.map_some, sVal, sI_c, hE0, List.map_nil] at g
    simp only [Option.map_some, sVal, sI_c]
    exact g
  · refine ⟨hF, ?_⟩
    rw [Bool.or_eq_true, Bool.and_eq_true, Bool.and_eq_true, Bool.and_eq_true, Bool.and_eq_true, Bool.and_eq_true] at hk
    rcases hk with ⟨h1, h2, h3, h4⟩ | ⟨h1, h2, h3⟩
    · refine ⟨_, Or.inl ⟨by rw [eqO_ok h1]; simp only [Option.map_some, sVal, sI_c], fun j hj => ?_, kpC_trans (kpC_weak (Ch := scQ) (fun u hu => by unfold chAc at hu; rw [Bool.or_eq_false_iff] at hu; exact hu.1) hk4) (hfr _ h2), fun j hj => ?_⟩, rfl⟩
      · have := bE_ok hp (allL_ok h3 j hj)
        have b2 := SB j hj
        have e9 : (-999 : Int32).toInt = -999 := by decide
        have e8 : (999 : Int32).toInt = 999 := by decide
        rw [hx j hj, Int32.le_iff_toInt_le, Int32.le_iff_toInt_le, of_toI (by omega), e9, e8] at this
        exact this
      · have h5 := isE_ok (b := 0) (r := uM r2 [Int32.ofNat q]) (show j < 4096 by omega) (allL_ok h4 j hj)
        rw [hx j hj] at h5
        rw [← h5]
        exact congrArg (eOf 0 (uM r2 [Int32.ofNat q]) m).1 (show xP (37 + 2 * s) 0 + j = 4096 * (0 + (37 + 2 * s)) + j by unfold xP; omega)
    · obtain ⟨j, hj, h4⟩ := anyN_ok h3
      have := ouI_ok hp h4
      have b2 := SB j hj
      rw [hx j hj, of_toI (by omega)] at this
      exact ⟨_, Or.inr ⟨by rw [eqO_ok h1]; simp only [Option.map_some, sVal, sI_c], ⟨j, hj, this⟩, kp_trans hk4 (hfr _ h2)⟩, rfl⟩
end AO
theorem kd_110 : (PG 110).2.2.2.2 = 1 := by decide +kernel
noncomputable def acN (a0 a1 σ : Nat) : Bool := jRun (nat_lit 100000) (nat_lit 200) tXv tXv tMv tMv (nat_lit 110) (nat_lit 204) (KXs (shC a0)) KMs (oXs0 (shC a0) σ) [((nat_lit 7), shC a0, .natCast σ)] (dP (nat_lit 819200) (nat_lit 0) (nat_lit 4) a0 (dP (nat_lit 819201) (nat_lit 0) (nat_lit 4) a1 [])) [.inl (dA (nat_lit 819200) (nat_lit 0) (nat_lit 4) a0), .inl (dA (nat_lit 819201) (nat_lit 0) (nat_lit 4) a1)] (fun x0 m0 pa x m => frJ (chN []) x0 m0 x m)
theorem q_acN : allL 6 (fun a0 => allL 6 (fun a1 => Bool.and (Bool.and (acN a0 a1 (nat_lit 0)) (acN a0 a1 (nat_lit 2))) (Bool.or (Bool.and (Nat.ble (nat_lit 2) a0) (Nat.ble (nat_lit 2) a1)) (acN a0 a1 (nat_lit 1))))) = true := by decide +kernel
theorem op_acts {l : Launch} {D : va_G} {cy : Nat → ClassId} {alX alM : Nat → Nat} : OpI l D cy alX alM 110 204 2 := by
  intro r as hI hlen
  obtain ⟨a0, a1, rfl⟩ : ∃ a0 a1, as = [a0, a1] := by
    match as, hlen with
    | [a0, a1], _ => exact ⟨a0, a1, rfl⟩
  refine OpOk_uA [a0, a1] ?_
  replace hI := Inv_uA (as := [a0, a1]) hI
  have e0 : (uA r [a0, a1]).1 819200 = a0 := uA_a 0
  have e1 : (uA r [a0, a1]).1 819201 = a1 := uA_a 1
  generalize uA r [a0, a1] = r at hI e0 e1 ⊢
  obtain ⟨c0, hc0, hp0, hv0⟩ := dP_ok r 819200 (lo := 0) (n := 4) (Or.inr (by omega)) (by omega)
  rw [e0] at hv0
  obtain ⟨c1, hc1, hp1, hv1⟩ := dP_ok r 819201 (lo := 0) (n := 4) (Or.inr (by omega)) (by omega)
  rw [e1] at hv1
  have hs : c0 - 2 < 4 := by omega
  obtain ⟨c, hc, hcc, hcm⟩ := id hI
  obtain ⟨⟨-, hn1, -⟩, hn2, -⟩ := CC_nd hc hcc
  obtain ⟨⟨d1, d6⟩, -⟩ := cd_tab c hc
  have hS := hcm (4 + (c0 - 2)) (by omega)
  rw [Comp_S hs] at hS
  have hq := allL_ok (allL_ok q_acN c0 hc0) c1 hc1
  rw [Bool.and_eq_true, Bool.and_eq_true] at hq
  have low : ∀ σ, acN c0 c1 σ = true → r.1 (xP (36 + 2 * (c0 - 2)) 0) = Int32.ofNat σ → r.1 (mP 7 (c0 - 2)) = Int32.ofNat σ → OpOk l D cy alX alM 200 r 110 204 (List.map Value.int [a0, a1]) Inv := fun σ hσ q1 q2 => by
    refine jOk l tXv_ok tXv_ok tMv_ok tMv_ok (cC_X r) (cC_M r) (hp0 _ (hp1 _ sPa_nil)) (fun _ _ _ => rfl) (fun _ _ _ => rfl) (oX_cons (by rw [sI_c]; exact q1) oX_nil) (oM_cons (by rw [sI_c]; exact q2) oM_nil) ?_ ?_ hσ ?_
    · simp only [List.map_cons, List.map_nil, sVal, hv0, hv1]
    · simp only [List.map_cons, List.map_nil, sVal, hv0, hv1]
    · intro x0 m0 pa x m hx0 hm0 hck hp hfx hfm _ _
      exact Inv_N hs hx0 hm0 hfx hfm hck hI
  obtain ⟨g1, g2⟩ := id hS
  rcases g2 with g2 | ⟨q2, hN, hB⟩ | ⟨g2, -⟩
  · exact low 0 hq.1.1 g2 (g1.trans g2)
  · have hq2 := hq.2
    rw [Bool.or_eq_true, Bool.and_eq_true] at hq2
    rcases hq2 with ⟨b0, b1⟩ | h1
    · have b0 : 2 ≤ c0 := Nat.le_of_ble_eq_true b0
      have b1 : 2 ≤ c1 := Nat.le_of_ble_eq_true b1
      obtain ⟨s, rfl⟩ : ∃ k, c0 = k + 2 := ⟨c0 - 2, by omega⟩
      obtain ⟨q, rfl⟩ : ∃ k, c1 = k + 2 := ⟨c1 - 2, by omega⟩
      simp only [Nat.add_sub_cancel] at *
      have f0 : a0 = Int32.ofNat s := by rw [← hv0, dA_c (by omega)]
      have f1 : a1 = Int32.ofNat q := by rw [← hv1, dA_c (by omega)]
      subst f0 f1
      have hq4 : q < 4 := by omega
      obtain ⟨o, ho, hx, hm⟩ := (Comp_R hq4).mp (hcm q (by omega))
      have eP : ∀ i, xP (37 + 2 * s) 0 + i = xP (37 + 2 * s) i := fun i => by unfold xP; omega
      have hV : ∀ i, i < dOf c → r.1 (xP (37 + 2 * s) i) = Int32.ofInt ((fun i => (r.1 (xP (37 + 2 * s) i)).toInt) i) := fun i _ => (Int32.ofInt_toInt _).symm
      have hVM : ∀ i, i < dOf c → r.1 (mP 9 (20 * s) + i) = Int32.ofInt ((fun i => (r.1 (xP (37 + 2 * s) i)).toInt) i) := fun i hi => by rw [hN i (by omega), eP]; exact hV i hi
      have hVB : ∀ i, i < dOf c → -999 ≤ (fun i => (r.1 (xP (37 + 2 * s) i)).toInt) i ∧ (fun i => (r.1 (xP (37 + 2 * s) i)).toInt) i ≤ 999 := fun i hi => by
        have := hB i (by omega)
        have e9 : (-999 : Int32).toInt = -999 := by decide
        have e8 : (999 : Int32).toInt = 999 := by decide
        rw [eP, Int32.le_iff_toInt_le, Int32.le_iff_toInt_le, e9, e8] at this
        exact this
      generalize (fun i => (r.1 (xP (37 + 2 * s) i)).toInt) = v at hV hVM hVB
      refine ⟨fun x r1 => acF c o (dOf c) ∧ acO c o v s 0 68 tXv (xP (37 + 2 * s) 0) r x r1, fun rest => (c_acO l hc hs hq4 hcc.1 q2 ho hx hV hVB).mono (fun x w h => ?_), fun x r1 hm1 rest => (c_acM l hc hs hq4 hcc.2 hn2 (g1.trans q2) ho hm hVM hVB hm1.1).mono (fun x2 w2 h => ?_), fun x r1 hm1 => Or.inl ⟨kd_110, ?_⟩⟩
      · obtain ⟨hF, r1, h1, h2⟩ := h
        exact ⟨r1, ⟨hF, h1⟩, h2⟩
      · obtain ⟨r2, h1, h2⟩ := h
        rcases hm1.2 with ⟨x1, i1, k1, z1⟩ | ⟨x1, ⟨j, hj, i1⟩, k1⟩ <;> rcases h1 with ⟨x3, i3, k3, z3⟩ | ⟨x3, ⟨j3, hj3, i3⟩, k3⟩
        · exact ⟨by rw [x1, x3], r2, h2, Inv_acts hs hc hcc hcm q2 hN hB i1 k1 z1 k3 z3⟩
        · exact absurd (i1 j3 hj3) (by omega)
        · exact absurd (i3 j hj) (by omega)
        · exact ⟨by rw [x1, x3], r2, h2, Inv_kp hI k1 k3⟩
      · rcases hm1.2 with ⟨x1, -⟩ | ⟨x1, -⟩
        · exact ⟨_, x1⟩
        · exact ⟨_, x1⟩
    · exact low 1 h1 q2 (g1.trans q2)
  · exact low 2 hq.1.2 g2 (g1.trans g2)
