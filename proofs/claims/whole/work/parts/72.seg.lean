/-! 54: what only touches scratch; segments of a method, runs and calls by contract -/
noncomputable def isL (b n : Nat) (t : Nat → sC) (u : Nat) : Bool := Bool.and (Nat.ble b (Nat.div u (nat_lit 4096))) (Bool.and (Nat.ble (Nat.succ (Nat.div u (nat_lit 4096))) (Nat.add b n)) (sGet (t (Nat.sub (Nat.div u (nat_lit 4096)) b)).2.2 (Nat.mod u (nat_lit 4096)) (fun x => eqV x (.inr (.inl (.var u))))))
theorem isL_ok {b n : Nat} {t : Nat → sC} {u : Nat} (h : isL b n t u = true) : b ≤ u / 4096 ∧ u / 4096 < b + n ∧ (t (u / 4096 - b)).2.2[u % 4096]? = some (.inr (.inl (.var u))) := by
  unfold isL at h
  rw [Bool.and_eq_true, Bool.and_eq_true] at h
  obtain ⟨x, h3, h4⟩ := sGet_ok _ _ _ h.2.2
  rw [eqV_ok h4] at h3
  exact ⟨Nat.le_of_ble_eq_true h.1, Nat.le_of_ble_eq_true h.2.1, h3⟩
theorem isV_mk {b n : Nat} {t : Nat → sC} {i j : Nat} (hi : i < n) (hj : j < 4096) (h : (t i).2.2[j]? = some (.inl (.var (4096 * (b + i) + j)))) : isV b n t (4096 * (b + i) + j) = true := by
  have e1 : (4096 * (b + i) + j) / 4096 = b + i := by omega
  have e2 : (4096 * (b + i) + j) % 4096 = j := by omega
  have e3 : b + i - b = i := by omega
  show Bool.and (Nat.ble b ((4096 * (b + i) + j) / 4096)) (Bool.and (Nat.ble (Nat.succ ((4096 * (b + i) + j) / 4096)) (b + n)) (sGet (t ((4096 * (b + i) + j) / 4096 - b)).2.2 ((4096 * (b + i) + j) % 4096) (fun x => eqV x (.inl (.var (4096 * (b + i) + j)))))) = true
  rw [e1, e2, e3, Bool.and_eq_true, Bool.and_eq_true]
  exact ⟨Nat.ble_eq_true_of_le (by omega), Nat.ble_eq_true_of_le (by omega), sGet_mk _ _ _ _ h (Nat.beq_refl _)⟩
theorem isL_mk {b n : Nat} {t : Nat → sC} {i j : Nat} (hi : i < n) (hj : j < 4096) (h : (t i).2.2[j]? = some (.inr (.inl (.var (4096 * (b + i) + j))))) : isL b n t (4096 * (b + i) + j) = true := by
  have e1 : (4096 * (b + i) + j) / 4096 = b + i := by omega
  have e2 : (4096 * (b + i) + j) % 4096 = j := by omega
  have e3 : b + i - b = i := by omega
  show Bool.and (Nat.ble b ((4096 * (b + i) + j) / 4096)) (Bool.and (Nat.ble (Nat.succ ((4096 * (b + i) + j) / 4096)) (b + n)) (sGet (t ((4096 * (b + i) + j) / 4096 - b)).2.2 ((4096 * (b + i) + j) % 4096) (fun x => eqV x (.inr (.inl (.var (4096 * (b + i) + j))))))) = true
  rw [e1, e2, e3, Bool.and_eq_true, Bool.and_eq_true]
  exact ⟨Nat.ble_eq_true_of_le (by omega), Nat.ble_eq_true_of_le (by omega), sGet_mk _ _ _ _ h (Nat.beq_refl _)⟩
theorem fr_okL {b n : Nat} {r : sE} {al : Nat → Nat} {t t2 : Nat → sC} {K Ch : Nat → Bool} {m0 m : sM} (hcan : ∀ i, i < n → (t i).1 ≤ 6) (h0 : ovP r al n t K m0) (hf : fitM b n t2 K m = true) (h : frM b Ch m0 0 m = true) {u : Nat} (hu : isL b n t u = true) (hc : Ch u = false) : (eOf b r m).2 u = r.2 u := by
  obtain ⟨u1, u2, u3⟩ := isL_ok hu
  obtain ⟨i, hi⟩ : ∃ i, u / 4096 = b + i := ⟨u / 4096 - b, by omega⟩
  have e1 : u / 4096 - b = i := by omega
  have e2 : u = 4096 * (b + i) + u % 4096 := by omega
  have hj : u % 4096 < 4096 := Nat.mod_lt _ (by omega)
  rw [e1] at u3
  obtain ⟨hl, hm⟩ := fitM_ok hf
  have hil : i < m.length := by omega
  have hmi : m[i]? = some m[i] := List.getElem?_eq_getElem hil
  have hil0 : i < m0.length := by rw [h0.1]; omega
  have hmi0 : m0[i]? = some m0[i] := List.getElem?_eq_getElem hil0
  rcases hm i _ hmi with ⟨k1, k2⟩ | ⟨k1, k2⟩
  · rcases h0.2 i _ hmi0 with ⟨q1, -⟩ | ⟨-, q2, q3, q4, q5⟩
    · rw [k1] at q1; cases q1
    have h6 : m[i].1 ≤ 6 := by
      unfold fitC at k2
      simp only [Bool.and_eq_true] at k2
      have g1 : (t2 i).1 = m[i].1 := Nat.eq_of_beq_eq_true k2.1
      have g2 : (t2 i).1 ≤ 6 := Nat.le_of_ble_eq_true k2.2.2.1
      omega
    rcases frM_ok m0 0 m h i _ hmi0 with g | ⟨c, g1, g2⟩
    · have := hcan i (by omega)
      omega
    · rw [hmi] at g1
      cases g1
      have hjl : u % 4096 < m0[i].2.2.length := by rw [q4]; exact (List.getElem?_eq_some_iff.mp u3).1
      have hx := List.getElem?_eq_getElem hjl
      obtain ⟨y, y1, y2⟩ := frL_ok _ _ _ g2 _ _ hx
      have key := (eOf_i (b := b) (r := r) (k := m[i].1) (u := m[i].2.1) (vs := m[i].2.2) hmi h6 hj).2
      rw [← e2, y1] at key
      rw [key]
      rcases y2 with y2 | y2
      · rw [← y2]
        have := fit_lng (q5 _ _ _ u3 hx)
        rw [← this]
        show sJ r (.var u) = _
        simp only [sJ, sD_v]
      · rw [show 4096 * (b + (0 + i)) + u % 4096 = u by omega, hc] at y2
        cases y2
  · rw [e2]
    rw [k2] at hmi
    exact (eOf_h hmi hj).2
/-- but for scratch, the places and what isn't a place stand -/
def kp (b n : Nat) (tv : Nat → sC) (r r1 : sE) : Prop := (∀ u, isV b n tv u = true → scQ u = false → r1.1 u = r.1 u) ∧ (∀ u, isL b n tv u = true → scQ u = false → r1.2 u = r.2 u) ∧ ∀ u, 819200 ≤ u → u < 819290 → r1.1 u = r.1 u ∧ r1.2 u = r.2 u
theorem kp_rfl {b n : Nat} {tv : Nat → sC} {r : sE} : kp b n tv r r := ⟨fun _ _ _ => rfl, fun _ _ _ => rfl, fun _ _ _ => ⟨rfl, rfl⟩⟩
theorem kp_trans {b n : Nat} {tv : Nat → sC} {r r1 r2 : sE} (h1 : kp b n tv r r1) (h2 : kp b n tv r1 r2) : kp b n tv r r2 := ⟨fun u a c => (h2.1 u a c).trans (h1.1 u a c), fun u a c => (h2.2.1 u a c).trans (h1.2.1 u a c), fun u a c => ⟨(h2.2.2 u a c).1.trans (h1.2.2 u a c).1, (h2.2.2 u a c).2.trans (h1.2.2 u a c).2⟩⟩
theorem spC_at {b i : Nat} {t c : sC} (h : spC (b + i) t c = true) : t.2.2.length = c.2.2.length ∧ t.2.2.length ≤ 4096 ∧ ∀ (j : Nat) (x : sV), t.2.2[j]? = some x → ∃ y, c.2.2[j]? = some y ∧ spV (4096 * (b + i) + j) x y = true := by
  unfold spC at h
  simp only [Bool.and_eq_true] at h
  obtain ⟨g1, g2, g3, g4, g5⟩ := h
  obtain ⟨q1, q2⟩ := spL_ok _ _ _ g5
  exact ⟨q1, by rw [← sLn_ok]; exact Nat.le_of_ble_eq_true g4, q2⟩
theorem spV_I {w u : Nat} {x : sV} (h : spV w x (.inl (.var u)) = true) : w = u ∧ (x = .inl (.var w) ∨ ∃ k, x = .inl (.natCast k)) := by
  unfold spV at h
  dsimp only at h
  rw [Bool.and_eq_true] at h
  refine ⟨(Nat.eq_of_beq_eq_true h.1).symm, ?_⟩
  have h3 := h.2
  split at h3
  · left
    rw [Nat.eq_of_beq_eq_true h3]
  · exact Or.inr ⟨_, rfl⟩
  · cases h3
theorem spV_J {w u : Nat} {x : sV} (h : spV w x (.inr (.inl (.var u))) = true) : w = u ∧ (x = .inr (.inl (.var w)) ∨ ∃ k, x = .inr (.inl (.natCast k))) := by
  unfold spV at h
  dsimp only at h
  rw [Bool.and_eq_true] at h
  refine ⟨(Nat.eq_of_beq_eq_true h.1).symm, ?_⟩
  have h3 := h.2
  split at h3
  · left
    rw [Nat.eq_of_beq_eq_true h3]
  · exact Or.inr ⟨_, rfl⟩
  · cases h3
theorem kp_run {b n : Nat} {r : sE} {al : Nat → Nat} {t tv : Nat → sC} {K : Nat → Bool} {m0 m : sM} (hb : b + n ≤ 200) (ht : tOk b n t tv) (hct : cC b n t r) (h0 : ovP r al n t K m0) (hf : fitM b n t K m = true) (h : frM b scQ m0 0 m = true) : kp b n tv r (eOf b r m) := by
  have hc2 : cC b n t (eOf b r m) := cC_fit hf (fun _ _ _ => rfl) hct (fun i hi => (ht i hi).1)
  refine ⟨fun u hu hs => ?_, fun u hu hs => ?_, fun u hu _ => eOf_hi (by rw [(fitM_ok hf).1]; omega)⟩
  · obtain ⟨u1, u2, u3⟩ := isV_ok hu
    obtain ⟨i, hi⟩ : ∃ i, u / 4096 = b + i := ⟨u / 4096 - b, by omega⟩
    have e1 : u / 4096 - b = i := by omega
    have hin : i < n := by omega
    have e2 : u = 4096 * (b + i) + u % 4096 := by omega
    have hj : u % 4096 < 4096 := Nat.mod_lt _ (by omega)
    rw [e1] at u3
    obtain ⟨g1, g2, g3⟩ := spC_at (ht i hin).2
    have hjl : u % 4096 < (t i).2.2.length := by rw [g1]; exact (List.getElem?_eq_some_iff.mp u3).1
    have hx := List.getElem?_eq_getElem hjl
    obtain ⟨y, y1, y2⟩ := g3 _ _ hx
    rw [u3] at y1
    cases y1
    generalize (t i).2.2[u % 4096] = x at hx y2
    rcases (spV_I y2).2 with rfl | ⟨k, rfl⟩
    · rw [e2]
      exact fr_ok (fun i hi => (ht i hi).1.1) h0 hf h (isV_mk hin hj hx) (by rw [← e2]; exact hs)
    · rw [e2, (hc2 i hin _ k).1 hx, (hct i hin _ k).1 hx]
  · obtain ⟨u1, u2, u3⟩ := isL_ok hu
    obtain ⟨i, hi⟩ : ∃ i, u / 4096 = b + i := ⟨u / 4096 - b, by omega⟩
    have e1 : u / 4096 - b = i := by omega
    have hin : i < n := by omega
    have e2 : u = 4096 * (b + i) + u % 4096 := by omega
    have hj : u % 4096 < 4096 := Nat.mod_lt _ (by omega)
    rw [e1] at u3
    obtain ⟨g1, g2, g3⟩ := spC_at (ht i hin).2
    have hjl : u % 4096 < (t i).2.2.length := by rw [g1]; exact (List.getElem?_eq_some_iff.mp u3).1
    have hx := List.getElem?_eq_getElem hjl
    obtain ⟨y, y1, y2⟩ := g3 _ _ hx
    rw [u3] at y1
    cases y1
    generalize (t i).2.2[u % 4096] = x at hx y2
    rcases (spV_J y2).2 with rfl | ⟨k, rfl⟩
    · rw [e2]
      exact fr_okL (fun i hi => (ht i hi).1.1) h0 hf h (isL_mk hin hj hx) (by rw [← e2]; exact hs)
    · rw [e2, (hc2 i hin _ k).2 hx, (hct i hin _ k).2 hx]
-- the shape's constants are no scratch
noncomputable def csL (l : List sV) : Nat → Bool := List.rec (motive := fun _ => Nat → Bool) (fun _ => true) (fun x _ ih w => Bool.and (Sum.rec (motive := fun _ => Bool) (fun e => sNumE e (fun _ => Bool.not (scQ w)) true) (fun y => Sum.rec (motive := fun _ => Bool) (fun e => sNumE e (fun _ => Bool.not (scQ w)) true) (fun _ => true) y) x) (ih (Nat.succ w))) l
theorem csL_ok : ∀ (l : List sV) (w : Nat), csL l w = true → ∀ j k, (l[j]? = some (.inl (.natCast k)) ∨ l[j]? = some (.inr (.inl (.natCast k)))) → scQ (w + j) = false
  | [], w, _, j, k, h => by simp at h
  | x :: l, w, h, j, k, hx => by
    have h2 : Bool.and (Sum.rec (motive := fun _ => Bool) (fun e => sNumE e (fun _ => Bool.not (scQ w)) true) (fun y => Sum.rec (motive := fun _ => Bool) (fun e => sNumE e (fun _ => Bool.not (scQ w)) true) (fun _ => true) y) x) (csL l (Nat.succ w)) = true := h
    rw [Bool.and_eq_true] at h2
    cases j with
    | zero =>
      rcases hx with hx | hx
      · simp at hx
        subst hx
        have h3 : Bool.not (scQ w) = true := h2.1
        simpa using h3
      · simp at hx
        subst hx
        have h3 : Bool.not (scQ w) = true := h2.1
        simpa using h3
    | succ j =>
      rw [show w + (j + 1) = Nat.succ w + j by omega]
      exact csL_ok l _ h2.2 j k (by simpa using hx)
theorem csX : allL 18 (fun c => allL 68 (fun i => csL (tX c i).2.2 (Nat.mul (nat_lit 4096) (Nat.add (nat_lit 0) i)))) = true := by decide +kernel
theorem csM : allL 18 (fun c => allL 45 (fun i => csL (tM c i).2.2 (Nat.mul (nat_lit 4096) (Nat.add (nat_lit 69) i)))) = true := by decide +kernel
theorem kp_cC {b n : Nat} {t tv : Nat → sC} {r r1 : sE} (ht : tOk b n t tv) (hcs : ∀ i, i < n → csL (t i).2.2 (4096 * (b + i)) = true) (h : kp b n tv r r1) (hc : cC b n t r) : cC b n t r1 := by
  intro i hi j k
  obtain ⟨g1, g2, g3⟩ := spC_at (ht i hi).2
  constructor
  · intro hx
    have hj : j < 4096 := Nat.lt_of_lt_of_le (List.getElem?_eq_some_iff.mp hx).1 g2
    have hv := cv_gen ht i hi j k hx
    rw [h.1 _ hv (csL_ok _ _ (hcs i hi) j k (Or.inl hx))]
    exact (hc i hi j k).1 hx
  · intro hx
    have hj : j < 4096 := Nat.lt_of_lt_of_le (List.getElem?_eq_some_iff.mp hx).1 g2
    obtain ⟨y, y1, y2⟩ := g3 j _ hx
    have ey : y = .inr (.inl (.var (4096 * (b + i) + j))) := by
      replace y2 : spV (4096 * (b + i) + j) (.inr (.inl (.natCast k))) y = true := y2
      unfold spV at y2
      split at y2
      · rw [Bool.and_eq_true] at y2
        cases y2.2
      · rw [Bool.and_eq_true] at y2
        rw [Nat.eq_of_beq_eq_true y2.1]
      · have := eqV_ok y2
        cases this
      · cases y2
    subst ey
    rw [h.2.1 _ (isL_mk hi hj y1) (csL_ok _ _ (hcs i hi) j k (Or.inr hx))]
    exact (hc i hi j k).2 hx
theorem kpX_cC {c : Nat} (hc : c < 18) {r r1 : sE} (h : kp 0 68 tXv r r1) (hr : cC 0 68 (tX c) r) : cC 0 68 (tX c) r1 := kp_cC (tX_ok hc) (fun i hi => allL_ok (allL_ok csX c hc) i hi) h hr
theorem kpM_cC {c : Nat} (hc : c < 18) {r r1 : sE} (h : kp 69 45 tMv r r1) (hr : cC 69 45 (tM c) r) : cC 69 45 (tM c) r1 := kp_cC (tM_ok hc) (fun i hi => allL_ok (allL_ok csM c hc) i hi) h hr
theorem Inv_kp {r r1 r2 : sE} (hI : Inv r) (h1 : kp 0 68 tXv r r1) (h2 : kp 69 45 tMv r r2) : Inv (eB r1 r2) := by
  obtain ⟨c, hc, ⟨g1, g2⟩, g3⟩ := hI
  have eX : ∀ v, v / 4096 < 69 → (eB r1 r2).1 v = r1.1 v ∧ (eB r1 r2).2 v = r1.2 v := fun v hv => by
    unfold eB
    simp only [if_pos hv]
    exact ⟨trivial, trivial⟩
  have eM : ∀ v, ¬ v / 4096 < 69 → (eB r1 r2).1 v = r2.1 v ∧ (eB r1 r2).2 v = r2.2 v := fun v hv => by
    unfold eB
    simp only [if_neg hv]
    exact ⟨trivial, trivial⟩
  have kX := kpX_cC hc h1 g1
  have kM := kpM_cC hc h2 g2
  refine ⟨c, hc, ⟨fun i hi j k => ?_, fun i hi j k => ?_⟩, fun id hid => Comp_congr hid rfl (fun u hu => ?_) (g3 id hid)⟩
  · have h4 : ∀ y, (tX c i).2.2[j]? = some y → j < 4096 := fun y hy => Nat.lt_of_lt_of_le (List.getElem?_eq_some_iff.mp hy).1 (spC_at (tX_ok hc i hi).2).2.1
    exact ⟨fun hy => by have := h4 _ hy; rw [(eX _ (by omega)).1]; exact (kX i hi j k).1 hy, fun hy => by have := h4 _ hy; rw [(eX _ (by omega)).2]; exact (kX i hi j k).2 hy⟩
  · exact ⟨fun hy => by rw [(eM _ (by omega)).1]; exact (kM i hi j k).1 hy, fun hy => by rw [(eM _ (by omega)).2]; exact (kM i hi j k).2 hy⟩
  · have h5 := lAll_ok (cPl_varv id hid) u hu
    have h6 := lAll_ok (allL_ok scQ_ok id hid) u hu
    have h7 : scQ u = false := by simpa using h6
    rw [Bool.or_eq_true] at h5
    rcases h5 with h5 | h5
    · rw [(eX u (by have h8 : u / 4096 < 68 := (isV_ok h5).2.1; omega)).1]
      exact h1.1 u h5 h7
    · rw [(eM u (by have h8 : 69 ≤ u / 4096 := (isV_ok h5).1; omega)).1]
      exact h2.1 u h5 h7
/-- both sides give V and touch scratch alone -/
theorem OpOk_V {l : Launch} {D : va_G} {cy : Nat → ClassId} {alX alM : Nat → Nat} {r : sE} {d kX kM : Nat} {vs : List Value} {V : Option Value} (hI : Inv r) (hX : ∀ rest, gMet l D cy alX d kX (tW r alX cy rest 68 tXv) (.ref (alX 0) :: vs) (fun v w => v = V ∧ ∃ r1, kp 0 68 tXv r r1 ∧ w = tW r1 alX cy rest 68 tXv)) (hM : ∀ rest, gMet l D cy alM d kM (tW r alM cy rest 45 tMv) (.ref (alM 0) :: vs) (fun v w => v = V ∧ ∃ r1, kp 69 45 tMv r r1 ∧ w = tW r1 alM cy rest 45 tMv)) (hk : kdV kX V) : OpOk l D cy alX alM d r kX kM vs Inv := by
  refine ⟨fun v r1 => v = V ∧ kp 0 68 tXv r r1, fun rest => (hX rest).mono (fun v w q => ?_), fun v r1 hm rest => ?_, fun v r1 hm => by rw [hm.1]; exact hk⟩
  · obtain ⟨q1, r1, q2, q3⟩ := q
    exact ⟨r1, ⟨q1, q2⟩, q3⟩
  · obtain ⟨rfl, hk1⟩ := hm
    -- the class' places do not matter to the model
    refine (hM rest).mono (fun v2 w2 q => ?_)
    obtain ⟨q1, r2, q2, q3⟩ := q
    exact ⟨q1, r2, q3, Inv_kp hI hk1 q2⟩
/-- a run from a template that touches scratch alone -/
noncomputable def sK0 (b n : Nat) (t : Nat → sC) (K : Nat → Bool) (m0 m : sM) : Bool := Bool.and (fitM b n t K m) (frM b scQ m0 (nat_lit 0) m)
theorem c_run (l : Launch) {D : va_G} {cy : Nat → ClassId} {al : Nat → Nat} {rest : va_W} {r : sE} {b n fuel d k : Nat} {t tv : Nat → sC} {K : Nat → Bool} {ovs : List sOv} {pa : List sK} {as : List sV} {kr : sM → sKr} (hb : b + n ≤ 200) (ht : tOk b n t tv) (hct : cC b n t r) (hp : sPa r pa) (hov : ∀ q ∈ ovs, r.1 (4096 * (b + q.1) + q.2.1) = sI r q.2.2)
    (h : sBeg b n t K ovs (fun m0 => sRun fuel d k pa m0 as (fun v pa m => Bool.and (sK0 b n t K m0 m) (kr m0 v pa m))) = true) {G : Option Value → va_W → Prop}
    (hG : ∀ (m0 : sM) (v : Option sV) (pa : List sK) (m : sM), kr m0 v pa m = true → sPa r pa → kp b n tv r (eOf b r m) → G (v.map (sVal r al)) (tW (eOf b r m) al cy rest n tv)) : gMet l D cy al d k (tW r al cy rest n tv) (as.map (sVal r al)) G := by
  unfold sBeg at h
  rw [Bool.and_eq_true] at h
  have hP := ovP_ovr (b := b) (ovP_msk (r := r) (al := al) (n := n) (t := t) (K := K)) ovs h.1 hov
  have hw := ovP_w (cy := cy) (rest := rest) (fun i hi => (ht i hi).1.1) hP
  rw [← cC_w (fun i hi => (ht i hi).2) hct, ← hw]
  refine gMet_run l hp h.2 (fun v pa1 m h1 h2 => ?_)
  unfold sK0 at h1
  rw [Bool.and_eq_true, Bool.and_eq_true] at h1
  rw [fit_w h1.1.1 (fun i hi hK => ⟨rfl, (ht i hi).1.2⟩), cC_w (fun i hi => (ht i hi).2) (cC_fit h1.1.1 (fun _ _ _ => rfl) hct (fun i hi => (ht i hi).1))]
  exact hG _ v pa1 m h1.2 h2 (kp_run hb ht hct hP h1.1.1 h1.1.2)
/-- a segment of a frame: a run from a template, to a stop or to the end -/
theorem g_seg {l : Launch} {D : va_G} {cy : Nat → ClassId} {al : Nat → Nat} {rest : va_W} {r : sE} {b n fuel d k pc : Nat} {L : sL} {st : List sV} {t tv : Nat → sC} {K : Nat → Bool} {ovs : List sOv} {pa : List sK} {stop : Nat → Bool} {ks : sM → sKs} {kr : sM → sKr} {Rt : Option Value → va_W → Prop} {At : gAt} (hFC : gFC l D cy al k d Rt At) (hb : b + n ≤ 200) (ht : tOk b n t tv) (hct : cC b n t r) (hp : sPa r pa) (hov : ∀ q ∈ ovs, r.1 (4096 * (b + q.1) + q.2.1) = sI r q.2.2)
    (h : sBeg b n t K ovs (fun m0 => sx PG fuel d (PG k) stop (fun pc L st pa m => Bool.and (sK0 b n t K m0 m) (ks m0 pc L st pa m)) (fun v pa m => Bool.and (sK0 b n t K m0 m) (kr m0 v pa m)) pc L st pa m0) = true)
    (hS : ∀ (m0 : sM) (pc : Nat) (L : sL) (st : List sV) (pa : List sK) (m : sM), ks m0 pc L st pa m = true → sPa r pa → kp b n tv r (eOf b r m) → At pc (L.map (Option.map (sVal r al))) (st.map (sVal r al)) (tW (eOf b r m) al cy rest n tv))
    (hR : ∀ (m0 : sM) (v : Option sV) (pa : List sK) (m : sM), kr m0 v pa m = true → sPa r pa → kp b n tv r (eOf b r m) → Rt (v.map (sVal r al)) (tW (eOf b r m) al cy rest n tv)) : At pc (L.map (Option.map (sVal r al))) (st.map (sVal r al)) (tW r al cy rest n tv) := by
  unfold sBeg at h
  rw [Bool.and_eq_true] at h
  have hP := ovP_ovr (b := b) (ovP_msk (r := r) (al := al) (n := n) (t := t) (K := K)) ovs h.1 hov
  have hw := ovP_w (cy := cy) (rest := rest) (fun i hi => (ht i hi).1.1) hP
  rw [← cC_w (fun i hi => (ht i hi).2) hct, ← hw]
  have back : ∀ m : sM, sK0 b n t K (ovr ovs (msk n t K)) m = true → sW r al cy (mHid r al cy t) rest m = tW (eOf b r m) al cy rest n tv ∧ kp b n tv r (eOf b r m) := fun m h1 => by
    unfold sK0 at h1
    rw [Bool.and_eq_true] at h1
    rw [fit_w h1.1 (fun i hi hK => ⟨rfl, (ht i hi).1.2⟩), cC_w (fun i hi => (ht i hi).2) (cC_fit h1.1 (fun _ _ _ => rfl) hct (fun i hi => (ht i hi).1))]
    exact ⟨rfl, kp_run hb ht hct hP h1.1 h1.2⟩
  refine hFC.1 r _ rest _ _ _ _ pc L st pa _ h.2 hp (fun pc L st pa m hk hp => ?_) (fun v pa m hk hp => ?_)
  · rw [Bool.and_eq_true] at hk
    obtain ⟨g1, g2⟩ := back m hk.1
    rw [g1]
    exact hS _ pc L st pa m hk.2 hp g2
  · rw [Bool.and_eq_true] at hk
    obtain ⟨g1, g2⟩ := back m hk.1
    rw [g1]
    exact hR _ v pa m hk.2 hp g2
/-- the stop is at pc, with these locals and this stack -/
noncomputable def kAt (pc0 : Nat) (L0 : sL) (st0 : List sV) (pc : Nat) (L : sL) (st : List sV) : Bool := Bool.and (Nat.beq pc pc0) (Bool.and (eqL eqO L L0) (eqL eqV st st0))
theorem kAt_ok {pc0 pc : Nat} {L0 L : sL} {st0 st : List sV} (h : kAt pc0 L0 st0 pc L st = true) : pc = pc0 ∧ L = L0 ∧ st = st0 := by
  unfold kAt at h
  rw [Bool.and_eq_true, Bool.and_eq_true] at h
  exact ⟨Nat.eq_of_beq_eq_true h.1, eqL_ok (fun _ _ => eqO_ok) _ _ h.2.1, eqL_ok (fun _ _ => eqV_ok) _ _ h.2.2⟩
/-- a segment that changes nothing -/
theorem g_segS {l : Launch} {D : va_G} {cy : Nat → ClassId} {al : Nat → Nat} {rest : va_W} {r : sE} {b n fuel d k pc : Nat} {L : sL} {st : List sV} {t tv : Nat → sC} {K : Nat → Bool} {ovs : List sOv} {pa : List sK} {stop : Nat → Bool} {ks : Nat → sL → List sV → List sK → Bool} {kr : Option sV → List sK → Bool} {Rt : Option Value → va_W → Prop} {At : gAt} (hFC : gFC l D cy al k d Rt At) (ht : tOk b n t tv) (hct : cC b n t r) (hp : sPa r pa) (hov : ∀ q ∈ ovs, r.1 (4096 * (b + q.1) + q.2.1) = sI r q.2.2)
    (h : sBeg b n t K ovs (fun m0 => sx PG fuel d (PG k) stop (fun pc L st pa m => Bool.and (eqL eqC m m0) (ks pc L st pa)) (fun v pa m => Bool.and (eqL eqC m m0) (kr v pa)) pc L st pa m0) = true)
    (hS : ∀ (pc : Nat) (L : sL) (st : List sV) (pa : List sK), ks pc L st pa = true → sPa r pa → At pc (L.map (Option.map (sVal r al))) (st.map (sVal r al)) (tW r al cy rest n tv))
    (hR : ∀ (v : Option sV) (pa : List sK), kr v pa = true → sPa r pa → Rt (v.map (sVal r al)) (tW r al cy rest n tv)) : At pc (L.map (Option.map (sVal r al))) (st.map (sVal r al)) (tW r al cy rest n tv) := by
  unfold sBeg at h
  rw [Bool.and_eq_true] at h
  have hP := ovP_ovr (b := b) (ovP_msk (r := r) (al := al) (n := n) (t := t) (K := K)) ovs h.1 hov
  have hw := ovP_w (cy := cy) (rest := rest) (fun i hi => (ht i hi).1.1) hP
  have hwc := cC_w (al := al) (cy := cy) (rest := rest) (fun i hi => (ht i hi).2) hct
  rw [← hwc, ← hw]
  refine hFC.1 r _ rest _ _ _ _ pc L st pa _ h.2 hp (fun pc L st pa m hk hp => ?_) (fun v pa m hk hp => ?_)
  · rw [Bool.and_eq_true] at hk
    rw [eqL_ok eqC_ok _ _ hk.1, hw, hwc]
    exact hS pc L st pa hk.2 hp
  · rw [Bool.and_eq_true] at hk
    rw [eqL_ok eqC_ok _ _ hk.1, hw, hwc]
    exact hR v pa hk.2 hp
theorem uV_ne {r : sE} {w : Nat} {x : Int32} {v : Nat} (h : v ≠ 819290 + w) : (uV r w x).1 v = r.1 v := by
  unfold uV
  simp only [if_neg h]
theorem tW_uV {r : sE} {w : Nat} {x : Int32} {al : Nat → Nat} {cy : Nat → ClassId} {rest : va_W} {b n : Nat} {t : Nat → sC} (hb : b + n ≤ 200) (hcan : ∀ i, i < n → (t i).1 ≤ 6 ∧ fitC (b + i) (t i) (t i) = true) : tW (uV r w x) al cy rest n t = tW r al cy rest n t := tW_agree hb hcan (fun v hv => ⟨uV_ne (by omega), rfl⟩)
theorem kp_uV {r : sE} {w : Nat} {x : Int32} {b n : Nat} {tv : Nat → sC} (hb : b + n ≤ 200) : kp b n tv r (uV r w x) := ⟨fun u hu _ => uV_ne (by have := (isV_ok hu).2.1; omega), fun _ _ _ => rfl, fun u _ h2 => ⟨uV_ne (by omega), rfl⟩⟩
-- what stands in any environment behind: constants, arguments
noncomputable def stX (x : sX) : Bool := Lean.Grind.CommRing.Expr.rec (motive := fun _ => Bool) (fun _ => false) (fun _ => true) (fun _ => false) (fun i => Bool.and (Nat.ble (nat_lit 819200) i) (Nat.ble (Nat.succ i) (nat_lit 819290))) (fun _ ih => ih) (fun _ _ _ _ => false) (fun _ _ _ _ => false) (fun _ _ a b => Bool.and a b) (fun _ _ ih => ih) x
def sameA (r r1 : sE) : Prop := ∀ u, 819200 ≤ u → u < 819290 → r1.1 u = r.1 u ∧ r1.2 u = r.2 u
theorem stX_ok {r r1 : sE} (h : sameA r r1) : ∀ x : sX, stX x = true → sD r1 x = sD r x := by
  have key : ∀ x : sX, stX x = true → sD r1 x = sD r x ∧ (∀ a b, x = .mul a b → sD r1 a = sD r a ∧ sD r1 b = sD r b) ∧ ∀ a, x = .neg a → sD r1 a = sD r a := by
    intro x
    induction x with
    | natCast a => intro _; exact ⟨by rw [sD_c, sD_c], (fun _ _ q => nomatch q), fun _ q => nomatch q⟩
    | var i =>
      intro hx
      have h2 : Bool.and (Nat.ble 819200 i) (Nat.ble (Nat.succ i) 819290) = true := hx
      rw [Bool.and_eq_true] at h2
      have := h i (Nat.le_of_ble_eq_true h2.1) (Nat.le_of_ble_eq_true h2.2)
      exact ⟨by rw [sD_v, sD_v, this.1, this.2], (fun _ _ q => nomatch q), fun _ q => nomatch q⟩
    | mul y z ihy ihz =>
      intro hx
      have h2 : Bool.and (stX y) (stX z) = true := hx
      rw [Bool.and_eq_true] at h2
      refine ⟨by rw [sD, sD] <;> (intros; contradiction), (fun a b q => ?_), fun _ q => nomatch q⟩
      cases q
      exact ⟨(ihy h2.1).1, (ihz h2.2).1⟩
    | neg y ih =>
      intro hx
      refine ⟨by rw [sD, sD] <;> (intros; contradiction), (fun _ _ q => nomatch q), fun a q => ?_⟩
      cases q
      exact (ih hx).1
    | pow y o ih =>
      intro hx
      have h2 := ih hx
      refine ⟨?_, (fun _ _ q => nomatch q), fun _ q => nomatch q⟩
      cases y with
      | mul a b => rw [sD_b, sD_b, (h2.2.1 a b rfl).1, (h2.2.1 a b rfl).2]
      | neg a => rw [sD_u, sD_u, h2.2.2 a rfl]
      | _ => rw [sD, sD] <;> (intros; first | contradiction | (rename_i q; cases q))
    | num a => intro hx; exact nomatch (show false = true from hx)
    | intCast a => intro hx; exact nomatch (show false = true from hx)
    | add a b _ _ => intro hx; exact nomatch (show false = true from hx)
    | sub a b _ _ => intro hx; exact nomatch (show false = true from hx)
  exact fun x hx => (key x hx).1
noncomputable def stV (v : sV) : Bool := Sum.rec (motive := fun _ => Bool) (fun x => stX x) (fun y => Sum.rec (motive := fun _ => Bool) (fun x => stX x) (fun _ => true) y) v
theorem stV_ok {r r1 : sE} {al : Nat → Nat} (h : sameA r r1) {v : sV} (hv : stV v = true) : sVal r1 al v = sVal r al v := by
  rcases v with x | x | x | x
  · show Value.int (sD r1 x).1 = Value.int (sD r x).1
    rw [stX_ok h x hv]
  · show Value.long (sD r1 x).2 = Value.long (sD r x).2
    rw [stX_ok h x hv]
  · rfl
  · rfl
noncomputable def stO (v : Option sV) : Bool := Option.rec (motive := fun _ => Bool) true (fun v => stV v) v
theorem stO_ok {r r1 : sE} {al : Nat → Nat} (h : sameA r r1) {v : Option sV} (hv : stO v = true) : v.map (sVal r1 al) = v.map (sVal r al) := by
  cases v with
  | none => rfl
  | some v => exact congrArg some (stV_ok h hv)
theorem stL_ok {r r1 : sE} {al : Nat → Nat} (h : sameA r r1) {L : sL} (hL : lAll stO L = true) : L.map (Option.map (sVal r1 al)) = L.map (Option.map (sVal r al)) := List.map_congr_left (fun v hv => stO_ok h (lAll_ok hL v hv))
theorem stS_ok {r r1 : sE} {al : Nat → Nat} (h : sameA r r1) {st : List sV} (hL : lAll stV st = true) : st.map (sVal r1 al) = st.map (sVal r al) := List.map_congr_left (fun v hv => stV_ok h (lAll_ok hL v hv))
/-- a segment to the stop at pc1, or to the end: what lies there stands in any environment -/
noncomputable def kS1 (b n : Nat) (t : Nat → sC) (K : Nat → Bool) (pc1 : Nat) (L1 : sL) (st1 : List sV) (ck : sM → List sK → sM → Bool) (m0 : sM) : sKs := fun pc L st pa m => Bool.and (sK0 b n t K m0 m) (Bool.and (kAt pc1 L1 st1 pc L st) (Bool.and (Bool.and (lAll stO L1) (lAll stV st1)) (ck m0 pa m)))
theorem g_seg1 {l : Launch} {D : va_G} {cy : Nat → ClassId} {al : Nat → Nat} {rest : va_W} {r : sE} {b n fuel d k pc pc1 : Nat} {L L1 : sL} {st st1 : List sV} {t tv : Nat → sC} {K : Nat → Bool} {ovs : List sOv} {pa : List sK} {stop : Nat → Bool} {ck : sM → List sK → sM → Bool} {kr : sM → sKr} {Rt : Option Value → va_W → Prop} {At : gAt} (hFC : gFC l D cy al k d Rt At) (hb : b + n ≤ 200) (ht : tOk b n t tv) (hct : cC b n t r) (hp : sPa r pa) (hov : ∀ q ∈ ovs, r.1 (4096 * (b + q.1) + q.2.1) = sI r q.2.2)
    (h : sBeg b n t K ovs (fun m0 => sx PG fuel d (PG k) stop (kS1 b n t K pc1 L1 st1 ck m0) (fun v pa m => Bool.and (sK0 b n t K m0 m) (kr m0 v pa m)) pc L st pa m0) = true)
    (hS : ∀ (m0 : sM) (pa : List sK) (m : sM) (r1 : sE), ck m0 pa m = true → sPa r pa → r1 = eOf b r m → kp b n tv r r1 → At pc1 (L1.map (Option.map (sVal r1 al))) (st1.map (sVal r1 al)) (tW r1 al cy rest n tv))
    (hR : ∀ (m0 : sM) (v : Option sV) (pa : List sK) (m : sM) (r1 : sE), kr m0 v pa m = true → sPa r pa → r1 = eOf b r m → kp b n tv r r1 → Rt (v.map (sVal r al)) (tW r1 al cy rest n tv)) : At pc (L.map (Option.map (sVal r al))) (st.map (sVal r al)) (tW r al cy rest n tv) := by
  refine g_seg hFC hb ht hct hp hov (ks := fun m0 pc L st pa m => Bool.and (kAt pc1 L1 st1 pc L st) (Bool.and (Bool.and (lAll stO L1) (lAll stV st1)) (ck m0 pa m))) h (fun m0 pc L st pa m hk hp hkp => ?_) (fun m0 v pa m hk hp hkp => hR m0 v pa m _ hk hp rfl hkp)
  rw [Bool.and_eq_true, Bool.and_eq_true, Bool.and_eq_true] at hk
  obtain ⟨k1, ⟨k2, k3⟩, k4⟩ := hk
  obtain ⟨rfl, rfl, rfl⟩ := kAt_ok k1
  rw [← stL_ok hkp.2.2 k2, ← stS_ok hkp.2.2 k3]
  exact hS m0 pa m _ k4 hp rfl hkp
/-- a call by contract, what lies there standing in any environment -/
theorem g_call1 {l : Launch} {D : va_G} {cy : Nat → ClassId} {al : Nat → Nat} {rest : va_W} {r : sE} {b n d1 k pc nx mi : Nat} {L : sL} {as st : List sV} {v0 : Option sV} {tv : Nat → sC} {E : sE → Prop} {Rt : Option Value → va_W → Prop} {At : gAt} (hFC : gFC l D cy al k (d1 + 1) Rt At) (hrow : gRow k pc nx mi) (hcat : Nat.ble (sCats st) 8 = true) (hlen : as.length = (PG mi).2.2.1) (hrecv : gRecv mi (as.map (sVal r al)) (tW r al cy rest n tv)) (hL : lAll stO L = true) (hst : lAll stV st = true)
    (hM : gMet l D cy al d1 mi (tW r al cy rest n tv) (as.map (sVal r al)) (fun v w => ∃ r2, kp b n tv r r2 ∧ E r2 ∧ v = v0.map (sVal r2 al) ∧ w = tW r2 al cy rest n tv))
    (hk : ∀ r2, kp b n tv r r2 → E r2 → At nx (L.map (Option.map (sVal r2 al))) ((v0.toList ++ st).map (sVal r2 al)) (tW r2 al cy rest n tv)) : At pc (L.map (Option.map (sVal r al))) ((as.reverse ++ st).map (sVal r al)) (tW r al cy rest n tv) := by
  rw [List.map_append, List.map_reverse]
  refine hFC.2 pc nx mi d1 _ _ _ _ _ hrow rfl (by rw [sCats_ok]; exact Nat.le_of_ble_eq_true hcat) (by rw [List.length_map]; exact hlen) hrecv hM (fun v w2 q => ?_)
  obtain ⟨r2, q1, q2, rfl, rfl⟩ := q
  have key := hk r2 q1 q2
  rw [stL_ok q1.2.2 hL, List.map_append, stS_ok q1.2.2 hst] at key
  have e : (v0.map (sVal r2 al)).toList = v0.toList.map (sVal r2 al) := by cases v0 <;> rfl
  rw [e]
  exact key
/-- .. that changes nothing -/
theorem g_callS {l : Launch} {D : va_G} {cy : Nat → ClassId} {al : Nat → Nat} {r : sE} {w : va_W} {d1 k pc nx mi : Nat} {L : sL} {as st : List sV} {v0 : Option sV} {Rt : Option Value → va_W → Prop} {At : gAt} (hFC : gFC l D cy al k (d1 + 1) Rt At) (hrow : gRow k pc nx mi) (hcat : Nat.ble (sCats st) 8 = true) (hlen : as.length = (PG mi).2.2.1) (hrecv : gRecv mi (as.map (sVal r al)) w)
    (hM : gMet l D cy al d1 mi w (as.map (sVal r al)) (fun v w2 => v = v0.map (sVal r al) ∧ w2 = w))
    (hk : At nx (L.map (Option.map (sVal r al))) ((v0.toList ++ st).map (sVal r al)) w) : At pc (L.map (Option.map (sVal r al))) ((as.reverse ++ st).map (sVal r al)) w := by
  rw [List.map_append, List.map_reverse]
  refine hFC.2 pc nx mi d1 _ _ _ _ _ hrow rfl (by rw [sCats_ok]; exact Nat.le_of_ble_eq_true hcat) (by rw [List.length_map]; exact hlen) hrecv hM (fun v w2 q => ?_)
  obtain ⟨rfl, rfl⟩ := q
  rw [List.map_append] at hk
  have e : (v0.map (sVal r al)).toList = v0.toList.map (sVal r al) := by cases v0 <;> rfl
  rw [e]
  exact hk
