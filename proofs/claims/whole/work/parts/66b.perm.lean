/-! 66b: the class' cells, told in another order than that of their making -/
def pmO (i : Nat) : Nat := if i < 47 then i else if i = 47 then 67 else if i < 68 then i - 1 else i
theorem pmO_inj {i j : Nat} (h : pmO i = pmO j) : i = j := by
  unfold pmO at h
  repeat' split at h
  all_goals omega
def rnV (f : Nat → Nat) (v : sV) : sV := match v with
  | .inl x => .inl x
  | .inr (.inl x) => .inr (.inl x)
  | .inr (.inr none) => .inr (.inr none)
  | .inr (.inr (some i)) => .inr (.inr (some (f i)))
def rnC (f : Nat → Nat) (c : sC) : sC := (c.1, c.2.1, c.2.2.map (rnV f))
theorem rnC_ok {r : sE} {al f : Nat → Nat} {cy : Nat → ClassId} {hid : Nat → va_E} {c : sC} (h : c.1 ≤ 6) : sCe r al cy hid (rnC f c) = sCe r (fun i => al (f i)) cy hid c := by
  obtain ⟨k, u, vs⟩ := c
  have kI : (fun j : Nat => sInt r (vs.map (rnV f))[j]?) = fun j : Nat => sInt r vs[j]? := by
    funext j
    rw [List.getElem?_map]
    cases vs[j]? with
    | none => rfl
    | some v => rcases v with x | x | x | x <;> rfl
  have kJ : (fun j : Nat => sLng r (vs.map (rnV f))[j]?) = fun j : Nat => sLng r vs[j]? := by
    funext j
    rw [List.getElem?_map]
    cases vs[j]? with
    | none => rfl
    | some v => rcases v with x | x | x | x <;> rfl
  have kR : (fun j : Nat => sRef al (vs.map (rnV f))[j]?) = fun j : Nat => sRef (fun i => al (f i)) vs[j]? := by
    funext j
    rw [List.getElem?_map]
    cases vs[j]? with
    | none => rfl
    | some v => rcases v with x | x | x | x <;> rfl
  have kM : (vs.map (rnV f)).map (sVal r al) = vs.map (sVal r (fun i => al (f i))) := by
    rw [List.map_map]
    refine List.map_congr_left (fun v _ => ?_)
    rcases v with x | x | x | x <;> rfl
  have h6 : k ≤ 6 := h
  rcases (show k = 0 ∨ k = 1 ∨ k = 2 ∨ k = 3 ∨ k = 4 ∨ k = 5 ∨ k = 6 by omega) with rfl | rfl | rfl | rfl | rfl | rfl | rfl
  · simp only [sCe, rnC, kM]
  · simp only [sCe, rnC, kI, List.length_map]
  · simp only [sCe, rnC, kI, List.length_map]
  · simp only [sCe, rnC, kI, List.length_map]
  · simp only [sCe, rnC, kJ, List.length_map]
  · simp only [sCe, rnC, kR, List.length_map]
  · simp only [sCe, rnC, kR, List.length_map]
theorem perm_c : eqL eqC (tX0.map (rnC pmO)) ((List.range 68).map (fun i => tX0c.getD (pmO i) (7, 0, []))) = true := by decide +kernel
theorem perm_k : tX0.all (fun c => Nat.ble c.1 6) = true := by decide +kernel
theorem perm_l : tX0.length = 68 ∧ tX0c.length = 68 := by decide +kernel
theorem perm_at {i : Nat} {c : sC} (h : tX0[i]? = some c) : tX0c[pmO i]? = some (rnC pmO c) ∧ c.1 ≤ 6 := by
  have hi : i < 68 := by
    have := (List.getElem?_eq_some_iff.mp h).1
    rw [perm_l.1] at this
    exact this
  refine ⟨?_, Nat.le_of_ble_eq_true (List.all_eq_true.mp perm_k c (List.mem_of_getElem? h))⟩
  have em := eqL_ok eqC_ok _ _ perm_c
  have e2 := congrArg (fun l : sM => l[i]?) em
  have e3 : some (rnC pmO c) = some (tX0c.getD (pmO i) (7, 0, [])) := by
    have e4 : (tX0.map (rnC pmO))[i]? = ((List.range 68).map (fun i => tX0c.getD (pmO i) (7, 0, [])))[i]? := e2
    rw [List.getElem?_map, List.getElem?_map, h, List.getElem?_range hi] at e4
    exact e4
  have h3 : pmO i < tX0c.length := by
    rw [perm_l.2]
    unfold pmO
    repeat' split
    all_goals omega
  rw [Option.some.inj e3, List.getD_eq_getElem?_getD, List.getElem?_eq_getElem h3]
  rfl
theorem perm_get {r : sE} {al : Nat → Nat} {cy : Nat → ClassId} {i : Nat} {q : Nat × va_E} (h : (sW r (fun i => al (pmO i)) cy hid0 [] tX0)[i]? = some q) : (sW r al cy hid0 [] tX0c)[pmO i]? = some q := by
  have hw : (sW r (fun i => al (pmO i)) cy hid0 [] tX0)[i]? = (tX0[i]?).map (fun c => (al (pmO i), sCe r (fun i => al (pmO i)) cy hid0 c)) := by
    unfold sW
    rw [List.append_nil, List.getElem?_mapIdx]
  rw [hw] at h
  obtain ⟨c, h1, h2⟩ := Option.map_eq_some_iff.mp h
  subst h2
  obtain ⟨h3, h4⟩ := perm_at h1
  rw [sW_get h3, rnC_ok h4]
theorem perm_P {r : sE} {al : Nat → Nat} {cy : Nat → ClassId} {D : va_G} {cl : List vw_C} {H : Heap} (hP : va_P D cl (sW r al cy hid0 [] tX0c) H) : va_P D cl (sW r (fun i => al (pmO i)) cy hid0 [] tX0) H := fun k q h => hP (pmO k) q (perm_get h)
theorem perm_D {r : sE} {al : Nat → Nat} {cy : Nat → ClassId} {A : Nat → Prop} (hD : va_D A (sW r al cy hid0 [] tX0c)) : va_D A (sW r (fun i => al (pmO i)) cy hid0 [] tX0) := ⟨fun i j p q hp hq e => pmO_inj (hD.1 _ _ p q (perm_get hp) (perm_get hq) e), fun k q h => hD.2 _ q (perm_get h)⟩
