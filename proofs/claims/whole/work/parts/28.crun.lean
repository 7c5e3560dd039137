/-! 28: before and behind a call; the templates are in order -/
theorem Met.mono {l : Launch} {y : MethodName} {ws : List Cond} {rm : Room} {Pc Pc2 : Array Value → State → Prop} {Qc Qc2 : Array Value → State → Outcome → State → Prop} {mc ms : Nat} {free free2 : Addr → Prop} (h : Met l y ws rm Pc Qc mc ms free) (hP : ∀ a s, Pc2 a s → Pc a s) (hQ : ∀ a s o t, Pc2 a s → Qc a s o t → Qc2 a s o t) (hf : ∀ q, free q → free2 q) : Met l y ws rm Pc2 Qc2 mc ms free2 := by
  intro p e h1 h2 h3 s m args below h4 h5 h6 h7
  obtain ⟨n, o, a1, a2, a3, a4, L, a5, a6⟩ := h p e h1 h2 h3 s m args below h4 h5 (hP _ _ h6) h7
  exact ⟨n, o, a1, a2, a3, hQ _ _ _ _ h6 a4, L, a5, fun q hq => hf _ (a6 q hq)⟩
/-- before a call: the world w lies on the heap -/
def cPre (D : va_G) (cy : Nat → ClassId) (al : Nat → Nat) (w : va_W) (sz : Nat) (U : State) : Prop := U.heap.size = sz ∧ va_P D vwCl w U.heap ∧ va_K D vwCl (sT cy) U ∧ va_D (fun _ => True) w ∧ sSt al (va_A w sz) U U.heap ∧ sNw U
/-- the templates are in order -/
theorem tX_can : ∀ c, c < 18 → ∀ i, i < 68 → (tX c i).1 ≤ 6 ∧ fitC (0 + i) (tX c i) (tX c i) = true := by decide +kernel
theorem tM_can : ∀ c, c < 18 → ∀ i, i < 45 → (tM c i).1 ≤ 6 ∧ fitC (69 + i) (tM c i) (tM c i) = true := by decide +kernel
theorem tXv_can : ∀ i, i < 68 → (tXv i).1 ≤ 6 ∧ fitC (0 + i) (tXv i) (tXv i) = true := by decide +kernel
theorem tMv_can : ∀ i, i < 45 → (tMv i).1 ≤ 6 ∧ fitC (69 + i) (tMv i) (tMv i) = true := by decide +kernel
/-- a template's place x against the variable's v at the place w: the same, or a constant -/
noncomputable def spV (w : Nat) (x v : sV) : Bool := match v with
  | .inl (.var u) => Nat.beq u w && (match x with
    | .inl (.var u) => Nat.beq u w
    | .inl (.natCast _) => true
    | _ => false)
  | .inr (.inl (.var u)) => Nat.beq u w && (match x with
    | .inr (.inl (.var u)) => Nat.beq u w
    | .inr (.inl (.natCast _)) => true
    | _ => false)
  | .inr (.inr o) => eqV (.inr (.inr o)) x
  | _ => false
noncomputable def spL (t : List sV) : Nat → List sV → Bool := List.rec (motive := fun _ => Nat → List sV → Bool) (fun _ b => List.rec (motive := fun _ => Bool) true (fun _ _ _ => false) b) (fun x _ ih w b => List.rec (motive := fun _ => Bool) false (fun y b _ => Bool.and (spV w x y) (ih (Nat.succ w) b)) b) t
noncomputable def spC (i : Nat) (t c : sC) : Bool := Bool.and (Nat.beq t.1 c.1) (Bool.and (Nat.beq t.2.1 c.2.1) (Bool.and (Nat.ble t.1 (nat_lit 6)) (Bool.and (Nat.ble (sLn t.2.2) (nat_lit 4096)) (spL t.2.2 (Nat.mul (nat_lit 4096) i) c.2.2))))
theorem tX_sp : ∀ c, c < 18 → ∀ i, i < 68 → spC (0 + i) (tX c i) (tXv i) = true := by decide +kernel
theorem tM_sp : ∀ c, c < 18 → ∀ i, i < 45 → spC (69 + i) (tM c i) (tMv i) = true := by decide +kernel
theorem spL_ok : ∀ (t : List sV) (w : Nat) (vs : List sV), spL t w vs = true → t.length = vs.length ∧ ∀ j x, t[j]? = some x → ∃ y, vs[j]? = some y ∧ spV (w + j) x y = true
  | [], w, [], _ => ⟨rfl, fun j x h => by simp at h⟩
  | [], w, _ :: _, h => nomatch (show false = true from h)
  | _ :: _, w, [], h => nomatch (show false = true from h)
  | a :: t, w, b :: vs, h => by
    have h2 : Bool.and (spV w a b) (spL t (Nat.succ w) vs) = true := h
    rw [Bool.and_eq_true] at h2
    obtain ⟨h3, h4⟩ := spL_ok t (Nat.succ w) vs h2.2
    refine ⟨by simp [h3], fun j x hx => ?_⟩
    cases j with
    | zero =>
      simp at hx
      subst hx
      exact ⟨b, rfl, h2.1⟩
    | succ j =>
      obtain ⟨y, h5, h6⟩ := h4 j x (by simpa using hx)
      exact ⟨y, by simpa using h5, by rw [show w + (j + 1) = Nat.succ w + j by omega]; exact h6⟩
/-- the environment has the template's constants -/
def cC (b n : Nat) (t : Nat → sC) (r : sE) : Prop := ∀ i, i < n → ∀ j k, ((t i).2.2[j]? = some (.inl (.natCast k)) → r.1 (4096 * (b + i) + j) = Int32.ofNat k) ∧ ((t i).2.2[j]? = some (.inr (.inl (.natCast k))) → r.2 (4096 * (b + i) + j) = Int64.ofNat k)
/-- then the template means what the variables mean -/
theorem cC_w {b n : Nat} {t tv : Nat → sC} {r : sE} {al : Nat → Nat} {cy : Nat → ClassId} {rest : va_W} (hs : ∀ i, i < n → spC (b + i) (t i) (tv i) = true) (h : cC b n t r) : tW r al cy rest n t = tW r al cy rest n tv := by
  unfold tW
  congr 1
  apply List.map_congr_left
  intro i hi
  rw [List.mem_range] at hi
  have h1 := hs i hi
  have h2 := h i hi
  congr 1
  generalize t i = c at h1 h2 ⊢
  generalize tv i = cv at h1 ⊢
  obtain ⟨k, u, vs⟩ := c
  obtain ⟨kv, uv, vv⟩ := cv
  unfold spC at h1
  simp only [Bool.and_eq_true] at h1
  obtain ⟨g1, g2, g3, g4, g5⟩ := h1
  have e1 : k = kv := Nat.eq_of_beq_eq_true g1
  have e2 : u = uv := Nat.eq_of_beq_eq_true g2
  have e3 : k ≤ 6 := Nat.le_of_ble_eq_true g3
  subst e1 e2
  obtain ⟨q1, q2⟩ := spL_ok _ _ _ g5
  have key : ∀ (j : Nat) (x : sV), vs[j]? = some x → ∃ y, vv[j]? = some y ∧ sVal r al x = sVal r al y := fun j x hx => by
    obtain ⟨y, k1, k2⟩ := q2 j x hx
    refine ⟨y, k1, ?_⟩
    replace k2 : spV (4096 * (b + i) + j) x y = true := k2
    unfold spV at k2
    split at k2
    · rw [Bool.and_eq_true] at k2
      have e := Nat.eq_of_beq_eq_true k2.1
      subst e
      have k3 := k2.2
      split at k3
      · rw [Nat.eq_of_beq_eq_true k3]
      · rename_i kk
        simp only [sVal, sI, sD_c, sD_v]
        rw [(h2 j kk).1 hx]
      · cases k3
    · rw [Bool.and_eq_true] at k2
      have e := Nat.eq_of_beq_eq_true k2.1
      subst e
      have k3 := k2.2
      split at k3
      · rw [Nat.eq_of_beq_eq_true k3]
      · rename_i kk
        simp only [sVal, sJ, sD_c, sD_v]
        rw [(h2 j kk).2 hx]
      · cases k3
    · rw [eqV_ok k2]
    · cases k2
  have none : ∀ j : Nat, vs[j]? = none → vv[j]? = none := fun j hx => by
    rw [List.getElem?_eq_none_iff] at hx ⊢
    have q3 : vs.length = vv.length := q1
    omega
  have kI : (fun j : Nat => sInt r vs[j]?) = fun j : Nat => sInt r vv[j]? := by
    funext j
    cases hx : vs[j]? with
    | none => rw [none j hx]
    | some x => obtain ⟨y, p1, p2⟩ := key j x hx; rw [p1]; exact fit_int p2
  have kJ : (fun j : Nat => sLng r vs[j]?) = fun j : Nat => sLng r vv[j]? := by
    funext j
    cases hx : vs[j]? with
    | none => rw [none j hx]
    | some x => obtain ⟨y, p1, p2⟩ := key j x hx; rw [p1]; exact fit_lng p2
  have kR : (fun j : Nat => sRef al vs[j]?) = fun j : Nat => sRef al vv[j]? := by
    funext j
    cases hx : vs[j]? with
    | none => rw [none j hx]
    | some x => obtain ⟨y, p1, p2⟩ := key j x hx; rw [p1]; exact fit_ref p2
  have kM : vs.map (sVal r al) = vv.map (sVal r al) := by
    apply List.ext_getElem?
    intro j
    rw [List.getElem?_map, List.getElem?_map]
    cases hx : vs[j]? with
    | none => rw [none j hx]
    | some x => obtain ⟨y, p1, p2⟩ := key j x hx; rw [p1]; exact congrArg some p2
  have q1' : vs.length = vv.length := q1
  rcases (show k = 0 ∨ k = 1 ∨ k = 2 ∨ k = 3 ∨ k = 4 ∨ k = 5 ∨ k = 6 by omega) with rfl | rfl | rfl | rfl | rfl | rfl | rfl
  · simp only [sCe, kM]
  · simp only [sCe, kI, q1']
  · simp only [sCe, kI, q1']
  · simp only [sCe, kI, q1']
  · simp only [sCe, kJ, q1']
  · simp only [sCe, kR, q1']
  · simp only [sCe, kR, q1']
/-- a run from t to t2 leaves an environment with t2's constants -/
theorem cC_fit {b n : Nat} {t t2 : Nat → sC} {K : Nat → Bool} {mem : sM} {r : sE} (h : fitM b n t2 K mem = true) (ht : ∀ i, i < n → K i = false → t2 i = t i) (hc : cC b n t r) (hcan : ∀ i, i < n → (t i).1 ≤ 6 ∧ fitC (b + i) (t i) (t i) = true) : cC b n t2 (eOf b r mem) := by
  obtain ⟨hl, h1⟩ := fitM_ok h
  intro i hi j k
  have him : i < mem.length := by omega
  have hm : mem[i]? = some mem[i] := List.getElem?_eq_getElem him
  rcases h1 i _ hm with ⟨k1, k2⟩ | ⟨k1, k2⟩
  · have k3 := k2
    unfold fitC at k3
    simp only [Bool.and_eq_true] at k3
    have g1 : (t2 i).1 = mem[i].1 := Nat.eq_of_beq_eq_true k3.1
    have g2 : (t2 i).1 ≤ 6 := Nat.le_of_ble_eq_true k3.2.2.1
    have g4 : (t2 i).2.2.length ≤ 4096 := by rw [← sLn_ok]; exact Nat.le_of_ble_eq_true k3.2.2.2.1
    obtain ⟨q1, q2⟩ := fitL_ok _ _ _ k3.2.2.2.2
    have key : ∀ x, (t2 i).2.2[j]? = some x → ∃ y, mem[i].2.2[j]? = some y ∧ fitV (4096 * (b + i) + j) x y = true ∧ (eOf b r mem).1 (4096 * (b + i) + j) = sInt r (some y) ∧ (eOf b r mem).2 (4096 * (b + i) + j) = sLng r (some y) := fun x hx => by
      obtain ⟨y, y1, y2⟩ := q2 j x hx
      have hj : j < 4096 := Nat.lt_of_lt_of_le (List.getElem?_eq_some_iff.mp hx).1 g4
      have e := eOf_i (b := b) (r := r) (k := mem[i].1) (u := mem[i].2.1) (vs := mem[i].2.2) hm (by omega) hj
      rw [y1] at e
      exact ⟨y, y1, y2, e.1, e.2⟩
    constructor
    · intro hx
      obtain ⟨y, y1, y2, y3, y4⟩ := key _ hx
      rw [y3, ← eqV_ok (show eqV (.inl (.natCast k)) y = true from y2)]
      show sI r (.natCast k) = _
      simp only [sI, sD_c]
    · intro hx
      obtain ⟨y, y1, y2, y3, y4⟩ := key _ hx
      rw [y4, ← eqV_ok (show eqV (.inr (.inl (.natCast k))) y = true from y2)]
      show sJ r (.natCast k) = _
      simp only [sJ, sD_c]
  · rw [k2] at hm
    rw [ht i hi k1]
    have k3 := (hcan i hi).2
    unfold fitC at k3
    simp only [Bool.and_eq_true] at k3
    have g4 : (t i).2.2.length ≤ 4096 := by rw [← sLn_ok]; exact Nat.le_of_ble_eq_true k3.2.2.2.1
    constructor
    · intro hx
      have hj : j < 4096 := Nat.lt_of_lt_of_le (List.getElem?_eq_some_iff.mp hx).1 g4
      rw [(eOf_h hm hj).1]
      exact (hc i hi j k).1 hx
    · intro hx
      have hj : j < 4096 := Nat.lt_of_lt_of_le (List.getElem?_eq_some_iff.mp hx).1 g4
      rw [(eOf_h hm hj).2]
      exact (hc i hi j k).2 hx
