/-! 32: what is checked behind both runs: what stands, what is new; arguments -/
noncomputable def frL (Ch : Nat → Bool) (a : List sV) : Nat → List sV → Bool := List.rec (motive := fun _ => Nat → List sV → Bool) (fun _ _ => true) (fun x _ ih w b => List.rec (motive := fun _ => Bool) false (fun y b _ => Bool.and (Bool.rec (motive := fun _ => Bool) (Ch w) true (eqV x y)) (ih (Nat.succ w) b)) b) a
noncomputable def frM (b : Nat) (Ch : Nat → Bool) (m0 : sM) : Nat → sM → Bool := List.rec (motive := fun _ => Nat → sM → Bool) (fun _ _ => true) (fun c0 _ ih i m => List.rec (motive := fun _ => Bool) false (fun c m _ => Bool.and (Bool.rec (motive := fun _ => Bool) (frL Ch c0.2.2 (Nat.mul (nat_lit 4096) (Nat.add b i)) c.2.2) true (Nat.beq c0.1 (nat_lit 7))) (ih (Nat.succ i) m)) m) m0
theorem frL_ok {Ch : Nat → Bool} : ∀ (a : List sV) (w : Nat) (b : List sV), frL Ch a w b = true → ∀ (j : Nat) (x : sV), a[j]? = some x → ∃ y, b[j]? = some y ∧ (x = y ∨ Ch (w + j) = true)
  | [], _, _, _, j, x, h => by simp at h
  | a0 :: a, w, [], h, _, _, _ => nomatch (show false = true from h)
  | a0 :: a, w, b0 :: b, h, j, x, hx => by
    have h2 : Bool.and (Bool.rec (motive := fun _ => Bool) (Ch w) true (eqV a0 b0)) (frL Ch a (Nat.succ w) b) = true := h
    rw [Bool.and_eq_true] at h2
    cases j with
    | zero =>
      simp at hx
      subst hx
      refine ⟨b0, rfl, ?_⟩
      cases he : eqV a0 b0 with
      | true => exact Or.inl (eqV_ok he)
      | false =>
        have h3 := h2.1
        rw [he] at h3
        exact Or.inr h3
    | succ j =>
      obtain ⟨y, h3, h4⟩ := frL_ok a (Nat.succ w) b h2.2 j x (by simpa using hx)
      exact ⟨y, by simpa using h3, by rw [show w + (j + 1) = Nat.succ w + j by omega]; exact h4⟩
theorem frM_ok {b : Nat} {Ch : Nat → Bool} : ∀ (m0 : sM) (i0 : Nat) (m : sM), frM b Ch m0 i0 m = true → ∀ (i : Nat) (c0 : sC), m0[i]? = some c0 → c0.1 = 7 ∨ ∃ c, m[i]? = some c ∧ frL Ch c0.2.2 (4096 * (b + (i0 + i))) c.2.2 = true
  | [], _, _, _, i, c0, h => by simp at h
  | a0 :: a, i0, [], h, _, _, _ => nomatch (show false = true from h)
  | a0 :: a, i0, b0 :: m, h, i, c0, hx => by
    have h2 : Bool.and (Bool.rec (motive := fun _ => Bool) (frL Ch a0.2.2 (Nat.mul (nat_lit 4096) (Nat.add b i0)) b0.2.2) true (Nat.beq a0.1 (nat_lit 7))) (frM b Ch a (Nat.succ i0) m) = true := h
    rw [Bool.and_eq_true] at h2
    cases i with
    | zero =>
      simp at hx
      subst hx
      cases he : Nat.beq a0.1 (nat_lit 7) with
      | true => exact Or.inl (Nat.eq_of_beq_eq_true he)
      | false =>
        have h3 := h2.1
        rw [he] at h3
        exact Or.inr ⟨b0, rfl, h3⟩
    | succ i =>
      rcases frM_ok a (Nat.succ i0) m h2.2 i c0 (by simpa using hx) with h3 | ⟨c, h3, h4⟩
      · exact Or.inl h3
      · exact Or.inr ⟨c, by simpa using h3, by rw [show i0 + (i + 1) = Nat.succ i0 + i by omega]; exact h4⟩
theorem isV_ok {b n : Nat} {t : Nat → sC} {u : Nat} (h : isV b n t u = true) : b ≤ u / 4096 ∧ u / 4096 < b + n ∧ (t (u / 4096 - b)).2.2[u % 4096]? = some (.inl (.var u)) := by
  unfold isV at h
  rw [Bool.and_eq_true, Bool.and_eq_true] at h
  obtain ⟨x, h3, h4⟩ := sGet_ok _ _ _ h.2.2
  rw [eqV_ok h4] at h3
  exact ⟨Nat.le_of_ble_eq_true h.1, Nat.le_of_ble_eq_true h.2.1, h3⟩
theorem fr_ok {b n : Nat} {r : sE} {al : Nat → Nat} {t t2 : Nat → sC} {K Ch : Nat → Bool} {m0 m : sM} (hcan : ∀ i, i < n → (t i).1 ≤ 6) (h0 : ovP r al n t K m0) (hf : fitM b n t2 K m = true) (h : frM b Ch m0 0 m = true) {u : Nat} (hu : isV b n t u = true) (hc : Ch u = false) : (eOf b r m).1 u = r.1 u := by
  obtain ⟨u1, u2, u3⟩ := isV_ok hu
  obtain ⟨i, hi⟩ : ∃ i, u / 4096 = b + i := ⟨u / 4096 - b, by omega⟩
  have e1 : u / 4096 - b = i := by omega
  have e2 : u = 4096 * (b + i) + u % 4096 := by omega
  have hj : u % 4096 < 4096 := Nat.mod_lt _ (by omega)
  rw [e1] at u3
  obtain ⟨hl, hm⟩ := fitM_ok hf
  have hil : i < m.length := by omega
  have hmi : m[i]? = some m[i] := List.getElem?_eq_getElem hil
  have hil0 : i < m0.length := by rw [h0.1]; omega
  have hmi0 : m0[i]? = some m0[i] := List.getElem?_eq_getElem hil0
  rcases hm i _ hmi with ⟨k1, k2⟩ | ⟨k1, k2⟩
  · rcases h0.2 i _ hmi0 with ⟨q1, -⟩ | ⟨-, q2, q3, q4, q5⟩
    · rw [k1] at q1; cases q1
    have h6 : m[i].1 ≤ 6 := by
      unfold fitC at k2
      simp only [Bool.and_eq_true] at k2
      have g1 : (t2 i).1 = m[i].1 := Nat.eq_of_beq_eq_true k2.1
      have g2 : (t2 i).1 ≤ 6 := Nat.le_of_ble_eq_true k2.2.2.1
      omega
    rcases frM_ok m0 0 m h i _ hmi0 with g | ⟨c, g1, g2⟩
    · have := hcan i (by omega)
      omega
    · rw [hmi] at g1
      cases g1
      have hjl : u % 4096 < m0[i].2.2.length := by rw [q4]; exact (List.getElem?_eq_some_iff.mp u3).1
      have hx := List.getElem?_eq_getElem hjl
      obtain ⟨y, y1, y2⟩ := frL_ok _ _ _ g2 _ _ hx
      have key := (eOf_i (b := b) (r := r) (k := m[i].1) (u := m[i].2.1) (vs := m[i].2.2) hmi h6 hj).1
      rw [← e2, y1] at key
      rw [key]
      rcases y2 with y2 | y2
      · rw [← y2]
        have := fit_int (q5 _ _ _ u3 hx)
        rw [← this]
        show sI r (.var u) = _
        simp only [sI, sD_v]
      · rw [show 4096 * (b + (0 + i)) + u % 4096 = u by omega, hc] at y2
        cases y2
  · rw [e2]
    rw [k2] at hmi
    exact (eOf_h hmi hj).1
theorem eJ_x {r : sE} {x m : sM} {v : Nat} (h : v / 4096 < 69) : (eJ r x m).1 v = (eOf 0 r x).1 v := by
  unfold eJ
  simp only [if_pos h]
theorem eJ_m {r : sE} {x m : sM} {v : Nat} (h : ¬ v / 4096 < 69) : (eJ r x m).1 v = (eOf 69 r m).1 v := by
  unfold eJ
  simp only [if_neg h]
/-- what stands behind both runs: all but Ch -/
noncomputable def frJ (Ch : Nat → Bool) (x0 m0 x m : sM) : Bool := Bool.and (frM (nat_lit 0) Ch x0 (nat_lit 0) x) (frM (nat_lit 69) Ch m0 (nat_lit 0) m)
/-- the parts' places are variables of both templates -/
def vPl (t s : Nat → sC) : Prop := ∀ id, id < 12 → ∀ u ∈ cPl id, isV 0 68 t u = true ∨ isV 69 45 s u = true
theorem vPl_c {c : Nat} (hc : c < 18) : vPl (tX c) (tM c) := fun id hid u hu => by
  have h := lAll_ok (allL_ok (allL_ok cPl_var c hc) id hid) u hu
  rw [Bool.or_eq_true] at h
  exact h
theorem vPl_v : vPl tXv tMv := fun id hid u hu => by
  have h := lAll_ok (cPl_varv id hid) u hu
  rw [Bool.or_eq_true] at h
  exact h
theorem frJ_place {r : sE} {alX alM : Nat → Nat} {t t2 s s2 : Nat → sC} {KX KM Ch : Nat → Bool} {x0 m0 x m : sM} (ht : tOk 0 68 t tXv) (hs : tOk 69 45 s tMv) (hv : vPl t s) (hx0 : ovP r alX 68 t KX x0) (hm0 : ovP r alM 45 s KM m0) (hx : fitM 0 68 t2 KX x = true) (hm : fitM 69 45 s2 KM m = true) (h : frJ Ch x0 m0 x m = true) {id u : Nat} (hid : id < 12) (hu : u ∈ cPl id) (hch : Ch u = false) : (eJ r x m).1 u = r.1 u := by
  have h1 := hv id hid u hu
  unfold frJ at h
  rw [Bool.and_eq_true] at h
  rcases h1 with h1 | h1
  · have h2 : u / 4096 < 0 + 68 := (isV_ok h1).2.1
    rw [eJ_x (by omega)]
    exact fr_ok (fun i hi => (ht i hi).1.1) hx0 hx h.1 h1 hch
  · have h2 : 69 ≤ u / 4096 := (isV_ok h1).1
    rw [eJ_m (by omega)]
    exact fr_ok (fun i hi => (hs i hi).1.1) hm0 hm h.2 h1 hch
theorem frJ_comp {c c2 : Nat} {r : sE} {alX alM : Nat → Nat} {t t2 s s2 : Nat → sC} {KX KM Ch : Nat → Bool} {x0 m0 x m : sM} (hn : nOf c2 = nOf c) (ht : tOk 0 68 t tXv) (hs : tOk 69 45 s tMv) (hv : vPl t s) (hx0 : ovP r alX 68 t KX x0) (hm0 : ovP r alM 45 s KM m0) (hx : fitM 0 68 t2 KX x = true) (hm : fitM 69 45 s2 KM m = true) (h : frJ Ch x0 m0 x m = true) {id : Nat} (hid : id < 12) (hch : lAll (fun u => Bool.not (Ch u)) (cPl id) = true) (hI : Comp id c r) : Comp id c2 (eJ r x m) :=
  Comp_congr hid hn (fun u hu => frJ_place ht hs hv hx0 hm0 hx hm h hid hu (by have := lAll_ok hch u hu; simpa using this)) hI
/-- the shape's constants stand behind a run from the variables -/
noncomputable def crC (b : Nat) (t : Nat → sC) (K Ch : Nat → Bool) (n : Nat) : Bool := allL n (fun i => Bool.rec (motive := fun _ => Bool) true (List.rec (motive := fun _ => Nat → Bool) (fun _ => true) (fun x _ ih w => Bool.and (Sum.rec (motive := fun _ => Bool) (fun e => sNumE e (fun _ => Bool.not (Ch w)) true) (fun y => Sum.rec (motive := fun _ => Bool) (fun e => sNumE e (fun _ => false) true) (fun _ => true) y) x) (ih (Nat.succ w))) (t i).2.2 (Nat.mul (nat_lit 4096) (Nat.add b i))) (K i))
theorem crC_list {Ch : Nat → Bool} : ∀ (l : List sV) (w : Nat), List.rec (motive := fun _ => Nat → Bool) (fun _ => true) (fun x _ ih w => Bool.and (Sum.rec (motive := fun _ => Bool) (fun e => sNumE e (fun _ => Bool.not (Ch w)) true) (fun y => Sum.rec (motive := fun _ => Bool) (fun e => sNumE e (fun _ => false) true) (fun _ => true) y) x) (ih (Nat.succ w))) l w = true → ∀ j k, (l[j]? = some (.inl (.natCast k)) → Ch (w + j) = false) ∧ l[j]? ≠ some (.inr (.inl (.natCast k)))
  | [], w, _, j, k => by simp
  | x :: l, w, h, j, k => by
    have h2 : Bool.and (Sum.rec (motive := fun _ => Bool) (fun e => sNumE e (fun _ => Bool.not (Ch w)) true) (fun y => Sum.rec (motive := fun _ => Bool) (fun e => sNumE e (fun _ => false) true) (fun _ => true) y) x) (List.rec (motive := fun _ => Nat → Bool) (fun _ => true) (fun x _ ih w => Bool.and (Sum.rec (motive := fun _ => Bool) (fun e => sNumE e (fun _ => Bool.not (Ch w)) true) (fun y => Sum.rec (motive := fun _ => Bool) (fun e => sNumE e (fun _ => false) true) (fun _ => true) y) x) (ih (Nat.succ w))) l (Nat.succ w)) = true := h
    rw [Bool.and_eq_true] at h2
    cases j with
    | zero =>
      constructor
      · intro hx
        simp at hx
        subst hx
        have h3 : Bool.not (Ch w) = true := h2.1
        simpa using h3
      · intro hx
        simp at hx
        subst hx
        exact nomatch (show false = true from h2.1)
    | succ j =>
      obtain ⟨g1, g2⟩ := crC_list l (Nat.succ w) h2.2 j k
      exact ⟨fun hx => by rw [show w + (j + 1) = Nat.succ w + j by omega]; exact g1 (by simpa using hx), fun hx => g2 (by simpa using hx)⟩
theorem crC_ok {b n : Nat} {t tv : Nat → sC} {K Ch : Nat → Bool} {r : sE} {al : Nat → Nat} {m0 m : sM} (hc : crC b t K Ch n = true) (ht : tOk b n t tv) (htv : tOk b n tv tv) (hvar : ∀ i, i < n → ∀ j k, (t i).2.2[j]? = some (.inl (.natCast k)) → isV b n tv (4096 * (b + i) + j) = true) (h0 : ovP r al n tv K m0) (hf : fitM b n tv K m = true) (h : frM b Ch m0 0 m = true) (hr : cC b n t r) : cC b n t (eOf b r m) := by
  intro i hi j k
  have h1 := allL_ok hc i hi
  have h4 : ∀ x, (t i).2.2[j]? = some x → j < 4096 := fun x hx => by
    have k3 := (ht i hi).1.2
    unfold fitC at k3
    simp only [Bool.and_eq_true] at k3
    have g4 : (t i).2.2.length ≤ 4096 := by rw [← sLn_ok]; exact Nat.le_of_ble_eq_true k3.2.2.2.1
    exact Nat.lt_of_lt_of_le (List.getElem?_eq_some_iff.mp hx).1 g4
  cases hK : K i with
  | true =>
    rw [hK] at h1
    obtain ⟨g1, g2⟩ := crC_list _ _ h1 j k
    exact ⟨fun hx => by
      rw [fr_ok (fun i hi => (htv i hi).1.1) h0 hf h (hvar i hi j k hx) (g1 hx)]
      exact (hr i hi j k).1 hx, fun hx => absurd hx g2⟩
  | false =>
    have hil : i < m.length := by rw [(fitM_ok hf).1]; exact hi
    have hm : m[i]? = some m[i] := List.getElem?_eq_getElem hil
    rcases (fitM_ok hf).2 i _ hm with ⟨q, -⟩ | ⟨-, q⟩
    · rw [hK] at q; cases q
    rw [q] at hm
    exact ⟨fun hx => by rw [(eOf_h hm (h4 _ hx)).1]; exact (hr i hi j k).1 hx, fun hx => by rw [(eOf_h hm (h4 _ hx)).2]; exact (hr i hi j k).2 hx⟩
theorem sGet_mk {α : Type} (l : List α) : ∀ (i : Nat) (a : α) (k : α → Bool), l[i]? = some a → k a = true → sGet l i k = true := by
  induction l with
  | nil => intro i a k h; simp at h
  | cons x l ih =>
    intro i a k h hk
    cases i with
    | zero =>
      simp at h
      subst h
      exact hk
    | succ i => exact ih i a k (by simpa using h) hk
/-- where a shape has a constant, the variables have a variable -/
theorem cv_gen {b n : Nat} {t tv : Nat → sC} (h : tOk b n t tv) : ∀ i, i < n → ∀ j k, (t i).2.2[j]? = some (.inl (.natCast k)) → isV b n tv (4096 * (b + i) + j) = true := by
  intro i hi j k hx
  have h1 := (h i hi).2
  unfold spC at h1
  simp only [Bool.and_eq_true] at h1
  obtain ⟨g1, g2, g3, g4, g5⟩ := h1
  have g6 : (t i).2.2.length ≤ 4096 := by rw [← sLn_ok]; exact Nat.le_of_ble_eq_true g4
  have hj : j < 4096 := Nat.lt_of_lt_of_le (List.getElem?_eq_some_iff.mp hx).1 g6
  obtain ⟨q1, q2⟩ := spL_ok _ _ _ g5
  obtain ⟨y, y1, y2⟩ := q2 j _ hx
  have ey : y = .inl (.var (4096 * (b + i) + j)) := by
    replace y2 : spV (4096 * (b + i) + j) (.inl (.natCast k)) y = true := y2
    unfold spV at y2
    split at y2
    · rw [Bool.and_eq_true] at y2
      rw [Nat.eq_of_beq_eq_true y2.1]
    · rw [Bool.and_eq_true] at y2
      cases y2.2
    · have := eqV_ok y2
      cases this
    · cases y2
  subst ey
  have e1 : (4096 * (b + i) + j) / 4096 = b + i := by omega
  have e2 : (4096 * (b + i) + j) % 4096 = j := by omega
  have e3 : b + i - b = i := by omega
  show Bool.and (Nat.ble b ((4096 * (b + i) + j) / 4096)) (Bool.and (Nat.ble (Nat.succ ((4096 * (b + i) + j) / 4096)) (b + n)) (sGet (tv ((4096 * (b + i) + j) / 4096 - b)).2.2 ((4096 * (b + i) + j) % 4096) (fun x => eqV x (.inl (.var (4096 * (b + i) + j)))))) = true
  rw [e1, e2, e3, Bool.and_eq_true, Bool.and_eq_true]
  refine ⟨Nat.ble_eq_true_of_le (by omega), Nat.ble_eq_true_of_le (by omega), sGet_mk _ _ _ _ y1 ?_⟩
  exact Nat.beq_refl _
/-- the int that lies at a place -/
noncomputable def gI (mem : sM) (i j : Nat) (k : sX → Bool) : Bool := sGet mem i (fun c => Bool.and (Nat.ble c.1 (nat_lit 6)) (sGet c.2.2 j (fun v => sVI v k)))
theorem gI_x {r : sE} {x m : sM} {i j : Nat} {k : sX → Bool} (hi : i < 68) (hj : j < 4096) (h : gI x i j k = true) : ∃ e, k e = true ∧ (eJ r x m).1 (xP i j) = sI r e := by
  obtain ⟨⟨kd, u, vs⟩, h1, h2⟩ := sGet_ok _ _ _ h
  rw [Bool.and_eq_true] at h2
  obtain ⟨v, h3, h4⟩ := sGet_ok _ _ _ h2.2
  obtain ⟨e, rfl, h5⟩ := sVI_ok h4
  refine ⟨e, h5, ?_⟩
  have key := (eOf_i (b := 0) (r := r) h1 (Nat.le_of_ble_eq_true h2.1) hj).1
  rw [Nat.zero_add] at key
  rw [eJ_x (by unfold xP; omega)]
  show (eOf 0 r x).1 (4096 * i + j) = _
  rw [key, h3]
  rfl
theorem gI_m {r : sE} {x m : sM} {i j : Nat} {k : sX → Bool} (hj : j < 4096) (h : gI m i j k = true) : ∃ e, k e = true ∧ (eJ r x m).1 (mP i j) = sI r e := by
  obtain ⟨⟨kd, u, vs⟩, h1, h2⟩ := sGet_ok _ _ _ h
  rw [Bool.and_eq_true] at h2
  obtain ⟨v, h3, h4⟩ := sGet_ok _ _ _ h2.2
  obtain ⟨e, rfl, h5⟩ := sVI_ok h4
  refine ⟨e, h5, ?_⟩
  have key := (eOf_i (b := 69) (r := r) h1 (Nat.le_of_ble_eq_true h2.1) hj).1
  rw [eJ_m (by unfold mP; omega)]
  show (eOf 69 r m).1 (4096 * (69 + i) + j) = _
  rw [key, h3]
  rfl
/-- a number from -999 to 999 -/
noncomputable def bE (pa : List sK) (e : sX) : Bool := sNumE e (fun k => Bool.or (Nat.ble k (nat_lit 999)) (Bool.and (Nat.ble (nat_lit 4294966297) k) (Nat.ble k (nat_lit 4294967295)))) (Bool.and (sAsk false e (.natCast (nat_lit 4294966297)) false true false pa) (sAsk false (.natCast (nat_lit 999)) e false true false pa))
theorem i32_le {a b : Int32} (h : ¬ b < a) : a ≤ b := by
  rw [Int32.lt_iff_toInt_lt] at h
  rw [Int32.le_iff_toInt_le]
  omega
theorem bE_ok {r : sE} {pa : List sK} {e : sX} (hp : sPa r pa) (h : bE pa e = true) : -999 ≤ sI r e ∧ sI r e ≤ 999 := by
  have key : ∀ {x y : sX}, sAsk false x y false true false pa = true → ¬ sI r x < sI r y := fun {x y} h => by
    rcases sAsk_ok (r := r) hp h with ⟨-, h⟩ | ⟨h, -⟩ | h
    · cases h
    · exact h
    · cases h
  rcases sNumE_ok h with ⟨k, rfl, h1⟩ | h1
  · rw [Bool.or_eq_true, Bool.and_eq_true] at h1
    simp only [sI, sD_c, Int32.le_iff_toInt_le, Int32.toInt_ofNat', Int.bmod_def, show ((Int32.size : Nat) : Int) = 4294967296 from rfl]
    rcases h1 with h1 | ⟨h1, h2⟩
    · have g0 : k ≤ 999 := Nat.le_of_ble_eq_true h1
      have e1 : (-999 : Int32).toInt = -999 := by decide
      have e2 : (999 : Int32).toInt = 999 := by decide
      rw [e1, e2]
      constructor <;> split <;> omega
    · have g1 : 4294966297 ≤ k := Nat.le_of_ble_eq_true h1
      have g2 : k ≤ 4294967295 := Nat.le_of_ble_eq_true h2
      have e1 : (-999 : Int32).toInt = -999 := by decide
      have e2 : (999 : Int32).toInt = 999 := by decide
      rw [e1, e2]
      constructor <;> split <;> omega
  · rw [Bool.and_eq_true] at h1
    have g1 := key h1.1
    have g2 := key h1.2
    simp only [sI, sD_c] at g1 g2 ⊢
    exact ⟨i32_le g1, i32_le g2⟩
/-- a shelf (of the bench or of the image) is such as told -/
noncomputable def ckS (pa : List sK) (x m : sM) (cA cB mA mB mC s : Nat) : Bool := gI x cA (nat_lit 0) (fun e => gI m mA s (fun f => Bool.and (eqX e f) (sNum e (fun k => Nat.rec (motive := fun _ => Bool) true (fun k1 _ => Bool.and (allL (nat_lit 20) (fun j => gI x cB j (fun e => gI m mC (Nat.add (Nat.mul (nat_lit 20) s) j) (fun f => eqX e f))))
  (Nat.rec (motive := fun _ => Bool) (allL (nat_lit 20) (fun j => gI x cB j (fun e => bE pa e))) (fun k2 _ => Bool.and (Nat.beq k2 (nat_lit 0)) (gI x cA (nat_lit 1) (fun e => gI m mB s (fun f => Bool.and (eqX e f) (sNum e (fun z => Nat.ble z (nat_lit 20))))))) k1)) k))))
theorem ckS_ok {r : sE} {pa : List sK} {x m : sM} {cA cB mA mB mC s : Nat} (hp : sPa r pa) (hA : cA < 68) (hB : cB < 68) (hs : s < 4) (h : ckS pa x m cA cB mA mB mC s = true) : cS (xP cA 0) (xP cA 1) (xP cB 0) (mP mA s) (mP mB s) (mP mC (20 * s)) (eJ r x m) := by
  obtain ⟨e, h, he⟩ := gI_x (r := r) (m := m) hA (show 0 < 4096 by omega) h
  obtain ⟨f, h, hf⟩ := gI_m (r := r) (x := x) (by omega) h
  rw [Bool.and_eq_true] at h
  have e1 := eqX_ok _ _ h.1
  subst e1
  obtain ⟨k, hk, h9⟩ := sNum_ok h.2
  subst hk
  refine ⟨hf.trans he.symm, ?_⟩
  simp only [sI, sD_c] at he
  cases k with
  | zero => exact Or.inl he
  | succ k1 =>
    right
    have h2 : Bool.and (allL (nat_lit 20) (fun j => gI x cB j (fun e => gI m mC (Nat.add (Nat.mul (nat_lit 20) s) j) (fun f => eqX e f)))) (Nat.rec (motive := fun _ => Bool) (allL (nat_lit 20) (fun j => gI x cB j (fun e => bE pa e))) (fun k2 _ => Bool.and (Nat.beq k2 (nat_lit 0)) (gI x cA (nat_lit 1) (fun e => gI m mB s (fun f => Bool.and (eqX e f) (sNum e (fun z => Nat.ble z (nat_lit 20))))))) k1) = true := h9
    rw [Bool.and_eq_true] at h2
    have hN : ∀ j, j < 20 → (eJ r x m).1 (mP mC (20 * s) + j) = (eJ r x m).1 (xP cB 0 + j) := fun j hj => by
      have g := allL_ok h2.1 j hj
      obtain ⟨e, g, g1⟩ := gI_x (r := r) (m := m) hB (by omega) g
      obtain ⟨f, g, g2⟩ := gI_m (r := r) (x := x) (by show 20 * s + j < 4096; omega) g
      have e1 := eqX_ok _ _ g
      subst e1
      have q1 : mP mC (Nat.add (Nat.mul (nat_lit 20) s) j) = mP mC (20 * s) + j := by
        show 4096 * (69 + mC) + (20 * s + j) = 4096 * (69 + mC) + 20 * s + j
        omega
      have q2 : xP cB j = xP cB 0 + j := by unfold xP; omega
      rw [← q1, ← q2, g1, g2]
    cases k1 with
    | zero =>
      refine Or.inl ⟨he, hN, fun j hj => ?_⟩
      have g := allL_ok h2.2 j hj
      obtain ⟨e, g, g1⟩ := gI_x (r := r) (m := m) hB (by omega) g
      have q2 : xP cB j = xP cB 0 + j := by unfold xP; omega
      rw [← q2, g1]
      exact bE_ok hp g
    | succ k2 =>
      have h3 : Bool.and (Nat.beq k2 (nat_lit 0)) (gI x cA (nat_lit 1) (fun e => gI m mB s (fun f => Bool.and (eqX e f) (sNum e (fun z => Nat.ble z (nat_lit 20)))))) = true := h2.2
      rw [Bool.and_eq_true] at h3
      have k0 : k2 = 0 := Nat.eq_of_beq_eq_true h3.1
      subst k0
      obtain ⟨e, g, g1⟩ := gI_x (r := r) (m := m) hA (show 1 < 4096 by omega) h3.2
      obtain ⟨f, g, g2⟩ := gI_m (r := r) (x := x) (by omega) g
      rw [Bool.and_eq_true] at g
      have e1 := eqX_ok _ _ g.1
      subst e1
      obtain ⟨z, hz, g3⟩ := sNum_ok g.2
      subst hz
      simp only [sI, sD_c] at g1 g2
      exact Or.inr ⟨he, ⟨z, Nat.le_of_ble_eq_true g3, g1, g2⟩, hN⟩
