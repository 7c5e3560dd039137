/-! 26: templates: a memory with a variable at each place (4096 times the cell's number counted from b on, and the place), or a constant; what a run left is a template again, in another environment -/
def eInt (v : sV) : Bool := match v with
  | .inl _ => true
  | _ => false
def eLng (v : sV) : Bool := match v with
  | .inr (.inl _) => true
  | _ => false
/-- a template's place w against what lies there -/
noncomputable def fitV (w : Nat) (t v : sV) : Bool := match t with
  | .inl (.var u) => Nat.beq u w && eInt v
  | .inr (.inl (.var u)) => Nat.beq u w && eLng v
  | .inl (.natCast k) => eqV (.inl (.natCast k)) v
  | .inr (.inl (.natCast k)) => eqV (.inr (.inl (.natCast k))) v
  | .inr (.inr o) => eqV (.inr (.inr o)) v
  | _ => false
noncomputable def fitL (t : List sV) : Nat → List sV → Bool := List.rec (motive := fun _ => Nat → List sV → Bool) (fun _ b => List.rec (motive := fun _ => Bool) true (fun _ _ _ => false) b) (fun x _ ih w b => List.rec (motive := fun _ => Bool) false (fun y b _ => Bool.and (fitV w x y) (ih (Nat.succ w) b)) b) t
noncomputable def fitC (i : Nat) (t c : sC) : Bool := Bool.and (Nat.beq t.1 c.1) (Bool.and (Nat.beq t.2.1 c.2.1) (Bool.and (Nat.ble t.1 (nat_lit 6)) (Bool.and (Nat.ble (sLn t.2.2) (nat_lit 4096)) (fitL t.2.2 (Nat.mul (nat_lit 4096) i) c.2.2))))
/-- the environment behind a run: what lies in the memory's places; hidden cells' as before -/
def eOf (b : Nat) (r : sE) (mem : sM) : sE := (fun v => if v / 4096 < b then r.1 v else match mem[v / 4096 - b]? with
  | some (7, _, _) => r.1 v
  | some (_, _, vs) => sInt r vs[v % 4096]?
  | none => r.1 v, fun v => if v / 4096 < b then r.2 v else match mem[v / 4096 - b]? with
  | some (7, _, _) => r.2 v
  | some (_, _, vs) => sLng r vs[v % 4096]?
  | none => r.2 v)
theorem eOf_i {b : Nat} {r : sE} {mem : sM} {i k u : Nat} {vs : List sV} (h : mem[i]? = some (k, u, vs)) (hk : k ≤ 6) {j : Nat} (hj : j < 4096) : (eOf b r mem).1 (4096 * (b + i) + j) = sInt r vs[j]? ∧ (eOf b r mem).2 (4096 * (b + i) + j) = sLng r vs[j]? := by
  have e1 : (4096 * (b + i) + j) / 4096 = b + i := by omega
  have e2 : (4096 * (b + i) + j) % 4096 = j := by omega
  have e3 : b + i - b = i := by omega
  have e4 : ¬ b + i < b := by omega
  unfold eOf
  simp only [e1, e2, e3, h, if_neg e4]
  have h7 : k ≠ 7 := by omega
  constructor
  · split
    · rename_i q; simp at q; exact absurd q.1 h7
    · rename_i q; simp at q; rw [q.2.2]
    · rename_i q; cases q
  · split
    · rename_i q; simp at q; exact absurd q.1 h7
    · rename_i q; simp at q; rw [q.2.2]
    · rename_i q; cases q
theorem eOf_h {b : Nat} {r : sE} {mem : sM} {i u : Nat} {vs : List sV} (h : mem[i]? = some (7, u, vs)) {j : Nat} (hj : j < 4096) : (eOf b r mem).1 (4096 * (b + i) + j) = r.1 (4096 * (b + i) + j) ∧ (eOf b r mem).2 (4096 * (b + i) + j) = r.2 (4096 * (b + i) + j) := by
  have e1 : (4096 * (b + i) + j) / 4096 = b + i := by omega
  have e3 : b + i - b = i := by omega
  have e4 : ¬ b + i < b := by omega
  unfold eOf
  simp only [e1, e3, h, if_neg e4]
  exact ⟨trivial, trivial⟩
theorem eOf_lo {b : Nat} {r : sE} {mem : sM} {v : Nat} (h : v / 4096 < b) : (eOf b r mem).1 v = r.1 v ∧ (eOf b r mem).2 v = r.2 v := by
  unfold eOf
  simp only [if_pos h]
  exact ⟨trivial, trivial⟩
theorem eOf_hi {b : Nat} {r : sE} {mem : sM} {v : Nat} (h : b + mem.length ≤ v / 4096) : (eOf b r mem).1 v = r.1 v ∧ (eOf b r mem).2 v = r.2 v := by
  have e4 : ¬ v / 4096 < b := by omega
  have e5 : mem[v / 4096 - b]? = none := List.getElem?_eq_none (by omega)
  unfold eOf
  simp only [if_neg e4, e5]
  exact ⟨trivial, trivial⟩
theorem fitL_ok : ∀ (t : List sV) (w : Nat) (vs : List sV), fitL t w vs = true → t.length = vs.length ∧ ∀ j x, t[j]? = some x → ∃ y, vs[j]? = some y ∧ fitV (w + j) x y = true
  | [], w, [], _ => ⟨rfl, fun j x h => by simp at h⟩
  | [], w, _ :: _, h => nomatch (show false = true from h)
  | _ :: _, w, [], h => nomatch (show false = true from h)
  | a :: t, w, b :: vs, h => by
    have h2 : Bool.and (fitV w a b) (fitL t (Nat.succ w) vs) = true := h
    rw [Bool.and_eq_true] at h2
    obtain ⟨h3, h4⟩ := fitL_ok t (Nat.succ w) vs h2.2
    refine ⟨by simp [h3], fun j x hx => ?_⟩
    cases j with
    | zero =>
      simp at hx
      subst hx
      exact ⟨b, rfl, h2.1⟩
    | succ j =>
      obtain ⟨y, h5, h6⟩ := h4 j x (by simpa using hx)
      exact ⟨y, by simpa using h5, by rw [show w + (j + 1) = Nat.succ w + j by omega]; exact h6⟩
theorem fitV_ok {r r2 : sE} {al : Nat → Nat} {w : Nat} {t v : sV} (h : fitV w t v = true) (h1 : r2.1 w = sInt r (some v)) (h2 : r2.2 w = sLng r (some v)) : sVal r2 al t = sVal r al v := by
  unfold fitV at h
  split at h
  · rw [Bool.and_eq_true] at h
    have e := Nat.eq_of_beq_eq_true h.1
    subst e
    rcases v with x | x
    · simp only [sVal, sI, sD_v]
      rw [h1]
      rfl
    · exact nomatch (show false = true from h.2)
  · rw [Bool.and_eq_true] at h
    have e := Nat.eq_of_beq_eq_true h.1
    subst e
    rcases v with x | x | x
    · exact nomatch (show false = true from h.2)
    · simp only [sVal, sJ, sD_v]
      rw [h2]
      rfl
    · exact nomatch (show false = true from h.2)
  · rw [← eqV_ok h]
    simp only [sVal, sI, sD_c]
  · rw [← eqV_ok h]
    simp only [sVal, sJ, sD_c]
  · rw [← eqV_ok h]
    rename_i o
    cases o <;> rfl
  · cases h
theorem fit_int {r r2 : sE} {al : Nat → Nat} {t v : sV} (h : sVal r2 al t = sVal r al v) : sInt r2 (some t) = sInt r (some v) := by
  rcases t with x | x | x | x <;> rcases v with y | y | y | y <;> simp only [sVal, sInt, Value.int.injEq, reduceCtorEq] at h ⊢
  exact h
theorem fit_lng {r r2 : sE} {al : Nat → Nat} {t v : sV} (h : sVal r2 al t = sVal r al v) : sLng r2 (some t) = sLng r (some v) := by
  rcases t with x | x | x | x <;> rcases v with y | y | y | y <;> simp only [sVal, sLng, Value.long.injEq, reduceCtorEq] at h ⊢
  exact h
theorem fit_ref {r r2 : sE} {al : Nat → Nat} {t v : sV} (h : sVal r2 al t = sVal r al v) : sRef al (some t) = sRef al (some v) := by
  rcases t with x | x | x | x <;> rcases v with y | y | y | y <;> simp only [sVal, sRef, Value.ref.injEq, reduceCtorEq] at h ⊢
  rw [h]
theorem fitC_gen {r r2 : sE} {al : Nat → Nat} {cy : Nat → ClassId} {hid hid2 : Nat → va_E} {i : Nat} {t c : sC} (h : fitC i t c = true) (hkey : t.1 ≤ 6 → ∀ (j : Nat) (x y : sV), j < 4096 → t.2.2[j]? = some x → c.2.2[j]? = some y → fitV (4096 * i + j) x y = true → sVal r2 al x = sVal r al y) : sCe r2 al cy hid2 t = sCe r al cy hid c := by
  obtain ⟨tk, tu, tv⟩ := t
  obtain ⟨k, u, vs⟩ := c
  unfold fitC at h
  simp only [Bool.and_eq_true] at h
  obtain ⟨h1, h2, h3, h4, h5⟩ := h
  have e1 : tk = k := Nat.eq_of_beq_eq_true h1
  have e2 : tu = u := Nat.eq_of_beq_eq_true h2
  have e3 : tk ≤ 6 := Nat.le_of_ble_eq_true h3
  have e4 : tv.length ≤ 4096 := by rw [← sLn_ok]; exact Nat.le_of_ble_eq_true h4
  subst e1 e2
  obtain ⟨g1, g2⟩ := fitL_ok _ _ _ h5
  have key : ∀ (j : Nat) (x : sV), tv[j]? = some x → ∃ y, vs[j]? = some y ∧ sVal (r2) al x = sVal r al y := fun j x hx => by
    obtain ⟨y, q1, q2⟩ := g2 j x hx
    have hj : j < 4096 := Nat.lt_of_lt_of_le (List.getElem?_eq_some_iff.mp hx).1 e4
    exact ⟨y, q1, hkey e3 j x y hj hx q1 q2⟩
  have none : ∀ j : Nat, tv[j]? = none → vs[j]? = none := fun j hx => by
    rw [List.getElem?_eq_none_iff] at hx ⊢
    omega
  have kI : (fun j : Nat => sInt (r2) tv[j]?) = fun j : Nat => sInt r vs[j]? := by
    funext j
    cases hx : tv[j]? with
    | none => rw [none j hx]; rfl
    | some x =>
      obtain ⟨y, q1, q2⟩ := key j x hx
      rw [q1]
      exact fit_int q2
  have kJ : (fun j : Nat => sLng (r2) tv[j]?) = fun j : Nat => sLng r vs[j]? := by
    funext j
    cases hx : tv[j]? with
    | none => rw [none j hx]; rfl
    | some x =>
      obtain ⟨y, q1, q2⟩ := key j x hx
      rw [q1]
      exact fit_lng q2
  have kR : (fun j : Nat => sRef al tv[j]?) = fun j : Nat => sRef al vs[j]? := by
    funext j
    cases hx : tv[j]? with
    | none => rw [none j hx]
    | some x =>
      obtain ⟨y, q1, q2⟩ := key j x hx
      rw [q1]
      exact fit_ref q2
  have kM : tv.map (sVal (r2) al) = vs.map (sVal r al) := by
    apply List.ext_getElem?
    intro j
    rw [List.getElem?_map, List.getElem?_map]
    cases hx : tv[j]? with
    | none => rw [none j hx]; rfl
    | some x =>
      obtain ⟨y, q1, q2⟩ := key j x hx
      rw [q1]
      exact congrArg some q2
  rcases (show tk = 0 ∨ tk = 1 ∨ tk = 2 ∨ tk = 3 ∨ tk = 4 ∨ tk = 5 ∨ tk = 6 by omega) with rfl | rfl | rfl | rfl | rfl | rfl | rfl
  · simp only [sCe, kM]
  · simp only [sCe, kI, g1]
  · simp only [sCe, kI, g1]
  · simp only [sCe, kI, g1]
  · simp only [sCe, kJ, g1]
  · simp only [sCe, kR, g1]
  · simp only [sCe, kR, g1]
/-- a cell that a run left, in the new environment -/
theorem fitC_ok {b : Nat} {r : sE} {al : Nat → Nat} {cy : Nat → ClassId} {hid hid2 : Nat → va_E} {mem : sM} {i : Nat} {t c : sC} (hm : mem[i]? = some c) (h : fitC (b + i) t c = true) : sCe (eOf b r mem) al cy hid2 t = sCe r al cy hid c := by
  refine fitC_gen h (fun e3 j x y hj hx hy hf => ?_)
  have e1 : t.1 = c.1 := by
    unfold fitC at h
    simp only [Bool.and_eq_true] at h
    exact Nat.eq_of_beq_eq_true h.1
  obtain ⟨q3, q4⟩ := eOf_i (b := b) (r := r) (k := c.1) (u := c.2.1) (vs := c.2.2) hm (by omega) hj
  rw [hy] at q3 q4
  exact fitV_ok hf q3 q4
theorem fitV_self {r r2 : sE} {al : Nat → Nat} {w : Nat} {t : sV} (h : fitV w t t = true) (h1 : r2.1 w = r.1 w) (h2 : r2.2 w = r.2 w) : sVal r2 al t = sVal r al t := by
  unfold fitV at h
  split at h
  · rw [Bool.and_eq_true] at h
    have e := Nat.eq_of_beq_eq_true h.1
    subst e
    simp only [sVal, sI, sD_v, h1]
  · rw [Bool.and_eq_true] at h
    have e := Nat.eq_of_beq_eq_true h.1
    subst e
    simp only [sVal, sJ, sD_v, h2]
  · simp only [sVal, sI, sD_c]
  · simp only [sVal, sJ, sD_c]
  · rename_i o
    cases o <;> rfl
  · cases h
/-- a template's cell in another environment that has the same at its places -/
theorem canC_ok {r r2 : sE} {al : Nat → Nat} {cy : Nat → ClassId} {hid hid2 : Nat → va_E} {i : Nat} {t : sC} (h : fitC i t t = true) (h1 : ∀ j, j < 4096 → r2.1 (4096 * i + j) = r.1 (4096 * i + j) ∧ r2.2 (4096 * i + j) = r.2 (4096 * i + j)) : sCe r2 al cy hid2 t = sCe r al cy hid t :=
  fitC_gen h (fun _ j x y hj hx hy hf => by
    rw [hx] at hy
    cases hy
    exact fitV_self hf (h1 j hj).1 (h1 j hj).2)
/-- the world of a template of n cells -/
def tW (r : sE) (al : Nat → Nat) (cy : Nat → ClassId) (rest : va_W) (n : Nat) (t : Nat → sC) : va_W := (List.range n).map (fun i => (al i, sCe r al cy (fun _ => .inr (0, [])) (t i))) ++ rest
noncomputable def rMap {α β : Type} (f : α → β) (l : List α) : List β := List.rec (motive := fun _ => List β) [] (fun a _ ih => f a :: ih) l
theorem rMap_eq {α β : Type} (f : α → β) (l : List α) : rMap f l = l.map f := by
  induction l with
  | nil => rfl
  | cons a l ih => show f a :: rMap f l = _; rw [ih]; rfl
noncomputable def rRng (n : Nat) : List Nat → List Nat := Nat.rec (motive := fun _ => List Nat → List Nat) (fun acc => acc) (fun m ih acc => ih (m :: acc)) n
theorem rRng_eq : ∀ (n : Nat) (acc : List Nat), rRng n acc = List.range n ++ acc
  | 0, acc => rfl
  | n + 1, acc => by
    show rRng n (n :: acc) = _
    rw [rRng_eq n, List.range_succ, List.append_assoc]
    rfl
/-- the template with cells hidden -/
noncomputable def msk (n : Nat) (t : Nat → sC) (K : Nat → Bool) : sM := rMap (fun i => Bool.rec (motive := fun _ => sC) ((nat_lit 7), i, []) (t i) (K i)) (rRng n [])
theorem msk_eq (n : Nat) (t : Nat → sC) (K : Nat → Bool) : msk n t K = (List.range n).map (fun i => Bool.rec (motive := fun _ => sC) ((nat_lit 7), i, []) (t i) (K i)) := by
  unfold msk
  rw [rMap_eq, rRng_eq, List.append_nil]
def mHid (r : sE) (al : Nat → Nat) (cy : Nat → ClassId) (t : Nat → sC) : Nat → va_E := fun i => sCe r al cy (fun _ => .inr (0, [])) (t i)
theorem sW_ext {r : sE} {al : Nat → Nat} {cy : Nat → ClassId} {hid : Nat → va_E} {rest : va_W} {mem : sM} {n : Nat} {f : Nat → va_E} (hl : mem.length = n) (h : ∀ i c, mem[i]? = some c → sCe r al cy hid c = f i) : sW r al cy hid rest mem = (List.range n).map (fun i => (al i, f i)) ++ rest := by
  unfold sW
  congr 1
  apply List.ext_getElem?
  intro j
  rw [List.getElem?_mapIdx, List.getElem?_map]
  cases hj : mem[j]? with
  | none =>
    have : ¬ j < n := by rw [List.getElem?_eq_none_iff] at hj; omega
    rw [List.getElem?_eq_none (by rw [List.length_range]; omega)]
    rfl
  | some c =>
    have hlt : j < n := by have := (List.getElem?_eq_some_iff.mp hj).1; omega
    rw [List.getElem?_range hlt]
    show some (al j, sCe r al cy hid c) = some (al j, f j)
    rw [h j c hj]
theorem msk_w {r : sE} {al : Nat → Nat} {cy : Nat → ClassId} {rest : va_W} {n : Nat} {t : Nat → sC} {K : Nat → Bool} (hk : ∀ i, i < n → K i = true → (t i).1 ≤ 6) : sW r al cy (mHid r al cy t) rest (msk n t K) = tW r al cy rest n t := by
  refine sW_ext (by simp [msk_eq]) (fun i c hc => ?_)
  rw [msk_eq] at hc
  rw [List.getElem?_map] at hc
  obtain ⟨j, h1, h2⟩ := Option.map_eq_some_iff.mp hc
  have hj : j < n ∧ j = i := by
    have := List.getElem?_eq_some_iff.mp h1
    obtain ⟨h3, h4⟩ := this
    rw [List.getElem_range] at h4
    rw [List.length_range] at h3
    omega
  obtain ⟨hlt, rfl⟩ := hj
  cases hK : K j with
  | false =>
    rw [hK] at h2
    subst h2
    rfl
  | true =>
    rw [hK] at h2
    subst h2
    have h6 := hk j hlt hK
    generalize t j = c at h6 ⊢
    obtain ⟨k, u, vs⟩ := c
    have h7 : k ≤ 6 := h6
    rcases (show k = 0 ∨ k = 1 ∨ k = 2 ∨ k = 3 ∨ k = 4 ∨ k = 5 ∨ k = 6 by omega) with rfl | rfl | rfl | rfl | rfl | rfl | rfl <;> rfl
/-- does a memory fit the template t2, the cells outside K being hidden and the template's own -/
noncomputable def fitM (b n : Nat) (t2 : Nat → sC) (K : Nat → Bool) (mem : sM) : Bool := Bool.and (Nat.beq (sLn mem) n) (Nat.rec (motive := fun _ => sM → Bool) (fun _ => true) (fun m ih mem => List.rec (motive := fun _ => Bool) false (fun c l _ => Bool.and (Bool.rec (motive := fun _ => Bool) (eqC c ((nat_lit 7), Nat.sub n (Nat.succ m), [])) (fitC (Nat.add b (Nat.sub n (Nat.succ m))) (t2 (Nat.sub n (Nat.succ m))) c) (K (Nat.sub n (Nat.succ m)))) (ih l)) mem) n mem)
theorem fitM_ok {b n : Nat} {t2 : Nat → sC} {K : Nat → Bool} {mem : sM} (h : fitM b n t2 K mem = true) : mem.length = n ∧ ∀ i c, mem[i]? = some c → (K i = true ∧ fitC (b + i) (t2 i) c = true) ∨ (K i = false ∧ c = (7, i, [])) := by
  unfold fitM at h
  rw [Bool.and_eq_true, sLn_ok] at h
  have hl : mem.length = n := Nat.eq_of_beq_eq_true h.1
  refine ⟨hl, ?_⟩
  have key : ∀ (m : Nat) (l : sM), m ≤ n → (Nat.rec (motive := fun _ => sM → Bool) (fun _ => true) (fun m ih mem => List.rec (motive := fun _ => Bool) false (fun c l _ => Bool.and (Bool.rec (motive := fun _ => Bool) (eqC c ((nat_lit 7), Nat.sub n (Nat.succ m), [])) (fitC (Nat.add b (Nat.sub n (Nat.succ m))) (t2 (Nat.sub n (Nat.succ m))) c) (K (Nat.sub n (Nat.succ m)))) (ih l)) mem) m l) = true → ∀ i c, i < m → l[i]? = some c → (K (n - m + i) = true ∧ fitC (b + (n - m + i)) (t2 (n - m + i)) c = true) ∨ (K (n - m + i) = false ∧ c = (7, n - m + i, [])) := by
    intro m
    induction m with
    | zero => intro l _ _ i c hi; omega
    | succ m ih =>
      intro l hm h i c hi hc
      cases l with
      | nil => simp at hc
      | cons a l =>
        rw [show (Nat.rec (motive := fun _ => sM → Bool) (fun _ => true) (fun m ih mem => List.rec (motive := fun _ => Bool) false (fun c l _ => Bool.and (Bool.rec (motive := fun _ => Bool) (eqC c ((nat_lit 7), Nat.sub n (Nat.succ m), [])) (fitC (Nat.add b (Nat.sub n (Nat.succ m))) (t2 (Nat.sub n (Nat.succ m))) c) (K (Nat.sub n (Nat.succ m)))) (ih l)) mem) (m + 1) (a :: l)) = Bool.and (Bool.rec (motive := fun _ => Bool) (eqC a ((nat_lit 7), Nat.sub n (Nat.succ m), [])) (fitC (Nat.add b (Nat.sub n (Nat.succ m))) (t2 (Nat.sub n (Nat.succ m))) a) (K (Nat.sub n (Nat.succ m)))) (Nat.rec (motive := fun _ => sM → Bool) (fun _ => true) (fun m ih mem => List.rec (motive := fun _ => Bool) false (fun c l _ => Bool.and (Bool.rec (motive := fun _ => Bool) (eqC c ((nat_lit 7), Nat.sub n (Nat.succ m), [])) (fitC (Nat.add b (Nat.sub n (Nat.succ m))) (t2 (Nat.sub n (Nat.succ m))) c) (K (Nat.sub n (Nat.succ m)))) (ih l)) mem) m l) from rfl, Bool.and_eq_true] at h
        cases i with
        | zero =>
          simp at hc
          subst hc
          have e0 : n - (m + 1) + 0 = Nat.sub n (Nat.succ m) := rfl
          rw [e0]
          cases hK : K (Nat.sub n (Nat.succ m)) with
          | true =>
            rw [hK] at h
            exact Or.inl ⟨rfl, h.1⟩
          | false =>
            rw [hK] at h
            exact Or.inr ⟨rfl, eqC_ok _ _ h.1⟩
        | succ i =>
          have := ih l (by omega) h.2 i c (by omega) (by simpa using hc)
          rw [show n - m + i = n - (m + 1) + (i + 1) by omega] at this
          exact this
  intro i c hc
  have hi : i < n := by have := (List.getElem?_eq_some_iff.mp hc).1; omega
  have := key n mem (Nat.le_refl n) h.2 i c hi hc
  rwa [Nat.sub_self, Nat.zero_add] at this
/-- what a run left is the world of the template t2, in the new environment -/
theorem fit_w {b : Nat} {r : sE} {al : Nat → Nat} {cy : Nat → ClassId} {rest : va_W} {n : Nat} {t t2 : Nat → sC} {K : Nat → Bool} {mem : sM} (h : fitM b n t2 K mem = true) (ht : ∀ i, i < n → K i = false → t2 i = t i ∧ fitC (b + i) (t i) (t i) = true) : sW r al cy (mHid r al cy t) rest mem = tW (eOf b r mem) al cy rest n t2 := by
  obtain ⟨hl, h1⟩ := fitM_ok h
  refine sW_ext hl (fun i c hc => ?_)
  have hi : i < n := by have := (List.getElem?_eq_some_iff.mp hc).1; omega
  rcases h1 i c hc with ⟨-, h2⟩ | ⟨h2, h3⟩
  · exact (fitC_ok hc h2).symm
  · subst h3
    obtain ⟨h4, h5⟩ := ht i hi h2
    rw [h4]
    show mHid r al cy t i = _
    exact (canC_ok h5 (fun j hj => eOf_h hc hj)).symm
