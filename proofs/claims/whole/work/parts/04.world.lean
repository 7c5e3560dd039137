/-! 04: values, cells, memory of the symbolic executor, and what they mean on the heap -/
abbrev sV : Type := sX ⊕ (sX ⊕ Option Nat)
abbrev sC : Type := Nat × Nat × List sV
abbrev sM : Type := List sC
def sVal (r : sE) (al : Nat → Nat) : sV → Value
  | .inl x => .int (sI r x)
  | .inr (.inl x) => .long (sJ r x)
  | .inr (.inr none) => .null
  | .inr (.inr (some i)) => .ref (al i)
def sInt (r : sE) : Option sV → Int32
  | some (.inl x) => sI r x
  | _ => 0
def sLng (r : sE) : Option sV → Int64
  | some (.inr (.inl x)) => sJ r x
  | _ => 0
def sRef (al : Nat → Nat) : Option sV → Option Nat
  | some (.inr (.inr (some i))) => some (al i)
  | _ => none
/-- what a cell holds: kind 0 an object, 1 int[], 2 byte[], 3 boolean[], 4 long[], 5 Shelf[], 6 int[][], else hidden -/
def sCe (r : sE) (al : Nat → Nat) (cy : Nat → ClassId) (hid : Nat → va_E) (c : sC) : va_E := match c.1 with
  | 0 => .inr (c.2.1, c.2.2.map (sVal r al))
  | 1 => .inl (cy 1, c.2.2.length, .inl (fun j => sInt r c.2.2[j]?))
  | 2 => .inl (cy 2, c.2.2.length, .inl (fun j => sInt r c.2.2[j]?))
  | 3 => .inl (cy 3, c.2.2.length, .inl (fun j => sInt r c.2.2[j]?))
  | 4 => .inl (cy 4, c.2.2.length, .inr (.inl (fun j => sLng r c.2.2[j]?)))
  | 5 => .inl (cy 5, c.2.2.length, .inr (.inr (.inr (.inr (fun j => sRef al c.2.2[j]?)))))
  | 6 => .inl (cy 6, c.2.2.length, .inr (.inr (.inr (.inr (fun j => sRef al c.2.2[j]?)))))
  | _ => hid c.2.1
def sW (r : sE) (al : Nat → Nat) (cy : Nat → ClassId) (hid : Nat → va_E) (rest : va_W) (mem : sM) : va_W := mem.mapIdx (fun i c => (al i, sCe r al cy hid c)) ++ rest
def sT (cy : Nat → ClassId) : List (ClassId × FieldType) := [(cy 1, .int), (cy 2, .byte), (cy 3, .boolean), (cy 4, .long), (cy 5, .object "SwapTables$Shelf"), (cy 6, .array .int)]
theorem sW_get {r : sE} {al : Nat → Nat} {cy : Nat → ClassId} {hid : Nat → va_E} {rest : va_W} {mem : sM} {i : Nat} {c : sC} (h : mem[i]? = some c) : (sW r al cy hid rest mem)[i]? = some (al i, sCe r al cy hid c) := by
  have hl : i < mem.length := (List.getElem?_eq_some_iff.mp h).1
  unfold sW
  rw [List.getElem?_append_left (by simpa using hl), List.getElem?_mapIdx, h]
  rfl
theorem sW_set {r : sE} {al : Nat → Nat} {cy : Nat → ClassId} {hid : Nat → va_E} {rest : va_W} {mem : sM} {i : Nat} {c : sC} (hl : i < mem.length) : (sW r al cy hid rest mem).set i (al i, sCe r al cy hid c) = sW r al cy hid rest (mem.set i c) := by
  unfold sW
  rw [List.set_append_left _ _ (by simpa using hl)]
  congr 1
  apply List.ext_getElem?
  intro j
  rw [List.getElem?_set, List.getElem?_mapIdx, List.getElem?_mapIdx, List.getElem?_set]
  by_cases hj : i = j
  · subst hj
    simp [hl]
  · simp [hj]
/-- constants of int[] statics -/
def sBegin : List Nat := [0, 0, 1, 3, 6, 11, 18]
def sCodes : List Nat := [65536, 131072, 69632, 196608, 135168, 69888, 262144, 200704, 139264, 135424, 69904, 327680, 266240, 204800, 200960, 139520, 135440, 69905]
def sFn (l : List Nat) (j : Nat) : Value := .int (Int32.ofNat (l.getD j 0))
/-- the two static arrays, at the addresses al 1000000 and al 1000001, outside A -/
def sSt (al : Nat → Nat) (A : Nat → Prop) (U : State) (H : Heap) : Prop :=
  va_Z "SwapTables$Partitions" "BEGIN" "[I" (.ref (al 1000000)) A U H ∧ va_T .int (al 1000000) 7 (sFn sBegin) A U H ∧
  va_Z "SwapTables$Partitions" "CODES" "[I" (.ref (al 1000001)) A U H ∧ va_T .int (al 1000001) 18 (sFn sCodes) A U H
theorem sSt.moved {al : Nat → Nat} {A : Nat → Prop} {u U : State} {H : Heap} (hvm : u.vm.Alike U.vm) (h : sSt al A u H) : sSt al A U H := ⟨h.1.moved hvm, h.2.1.moved hvm, h.2.2.1.moved hvm, h.2.2.2.moved hvm⟩
theorem sSt.kept {al : Nat → Nat} {A : Nat → Prop} {U : State} {H H1 : Heap} (h : sSt al A U H) (hq : ∀ a : Nat, a < H.size → ¬ A a → H1[a]? = H[a]?) : sSt al A U H1 := ⟨h.1.kept hq, h.2.1.kept hq, h.2.2.1.kept hq, h.2.2.2.kept hq⟩
theorem sSt.narrow {al : Nat → Nat} {A B : Nat → Prop} {U : State} {H : Heap} (h : sSt al A U H) (hAB : ∀ q, B q → A q) : sSt al B U H := ⟨h.1.narrow hAB, h.2.1.narrow hAB, h.2.2.1.narrow hAB, h.2.2.2.narrow hAB⟩
-- locals
abbrev sL : Type := List (Option sV)
def sLo (r : sE) (al : Nat → Nat) (ls : Array Slot) (nL : Nat) (L : sL) : Prop := ls.size = nL ∧ lv_wf ls ∧ (∀ (i : Nat) (v : sV), L[i]? = some (some v) → ls[i]? = some (.val (sVal r al v))) ∧ L.length = nL
def sLs (r : sE) (al : Nat → Nat) (L : sL) : List (Nat × Value) := (L.mapIdx (fun i v => (i, v))).filterMap (fun q => q.2.map (fun v => (q.1, sVal r al v)))
theorem sLs_mem {r : sE} {al : Nat → Nat} {L : sL} {q : Nat × Value} : q ∈ sLs r al L ↔ ∃ v : sV, L[q.1]? = some (some v) ∧ q.2 = sVal r al v := by
  unfold sLs
  simp only [List.mem_filterMap, List.mem_mapIdx, Option.map_eq_some_iff]
  constructor
  · rintro ⟨a, ⟨i, hi, rfl⟩, v, hv, rfl⟩
    exact ⟨v, (List.getElem?_eq_getElem hi).trans (congrArg some hv), rfl⟩
  · rintro ⟨v, h1, h2⟩
    obtain ⟨hi, h3⟩ := List.getElem?_eq_some_iff.mp h1
    exact ⟨(q.1, L[q.1]), ⟨q.1, hi, rfl⟩, v, h3, by rw [← h2]⟩
theorem sLo_has {r : sE} {al : Nat → Nat} {ls : Array Slot} {nL : Nat} {L : sL} (h : sLo r al ls nL L) : lv_has ls nL (sLs r al L) :=
  ⟨h.1, h.2.1, fun q hq => by
    obtain ⟨v, h1, h2⟩ := sLs_mem.mp hq
    rw [h2]
    exact h.2.2.1 q.1 v h1⟩
def sLongV (v : Option sV) : Bool := match v with
  | some (.inr (.inl _)) => true
  | _ => false
/-- the local i becomes v, of one word -/
noncomputable def sPut1 (L : sL) (i : Nat) (v : sV) (k : sL → Bool) : Bool := Nat.rec (motive := fun _ => Bool) (sSet L (nat_lit 0) (some v) k) (fun j _ => sGet L j (fun w => Bool.rec (motive := fun _ => Bool) (sSet L (Nat.succ j) (some v) k) (sSet L j none (fun L => sSet L (Nat.succ j) (some v) k)) (sLongV w))) i
/-- .. of two -/
noncomputable def sPut2 (L : sL) (i : Nat) (v : sV) (k : sL → Bool) : Bool := sPut1 L i v (fun L => sSet L (i + 1) none k)
theorem sLo_put1 {r : sE} {al : Nat → Nat} {ls : Array Slot} {nL : Nat} {L : sL} {i : Nat} {v : sV} {k : sL → Bool} (h : sPut1 L i v k = true) : ∃ L', k L' = true ∧ i < L.length ∧ L'.length = L.length ∧ ∀ (j : Nat) (w : sV), L'[j]? = some (some w) → (j = i ∧ w = v) ∨ (j ≠ i ∧ L[j]? = some (some w) ∧ ¬ (j + 1 = i ∧ sLongV (some w) = true)) := by
  cases i with
  | zero =>
    replace h : sSet L 0 (some v) k = true := h
    obtain ⟨h1, h2⟩ := sSet_ok _ _ _ _ h
    refine ⟨_, h2, h1, by simp, fun j w hj => ?_⟩
    rw [List.getElem?_set] at hj
    by_cases e : 0 = j
    · subst e
      simp [h1] at hj
      exact Or.inl ⟨rfl, hj.symm⟩
    · rw [if_neg e] at hj
      exact Or.inr ⟨fun q => e q.symm, hj, fun q => by omega⟩
  | succ j0 =>
    obtain ⟨a, ha, h⟩ := sGet_ok _ _ _ (show sGet L j0 (fun w => Bool.rec (motive := fun _ => Bool) (sSet L (Nat.succ j0) (some v) k) (sSet L j0 none (fun L => sSet L (Nat.succ j0) (some v) k)) (sLongV w)) = true from h)
    cases hlong : sLongV a with
    | true =>
      rw [hlong] at h
      obtain ⟨h1, h⟩ := sSet_ok _ _ _ _ h
      obtain ⟨h2, h⟩ := sSet_ok _ _ _ _ h
      have h2' : j0 + 1 < L.length := by simpa using h2
      refine ⟨_, h, h2', by simp, fun j w hj => ?_⟩
      rw [List.getElem?_set] at hj
      by_cases e : j0 + 1 = j
      · subst e
        simp [h2'] at hj
        exact Or.inl ⟨rfl, hj.symm⟩
      · rw [if_neg e, List.getElem?_set] at hj
        by_cases e2 : j0 = j
        · subst e2
          simp [h1] at hj
        · rw [if_neg e2] at hj
          exact Or.inr ⟨fun q => e q.symm, hj, fun q => e2 (by omega)⟩
    | false =>
      rw [hlong] at h
      obtain ⟨h2, h⟩ := sSet_ok _ _ _ _ h
      refine ⟨_, h, h2, by simp, fun j w hj => ?_⟩
      rw [List.getElem?_set] at hj
      by_cases e : j0 + 1 = j
      · subst e
        simp [h2] at hj
        exact Or.inl ⟨rfl, hj.symm⟩
      · rw [if_neg e] at hj
        refine Or.inr ⟨fun q => e q.symm, hj, fun q => ?_⟩
        have e3 : j = j0 := by omega
        subst e3
        rw [ha] at hj
        cases hj
        rw [q.2] at hlong
        cases hlong
theorem sVal_cat {r : sE} {al : Nat → Nat} {v : sV} : (sVal r al v).category = 2 ↔ sLongV (some v) = true := by
  match v with
  | .inl x => simp [sVal, sLongV, Value.category]
  | .inr (.inl x) => simp [sVal, sLongV, Value.category]
  | .inr (.inr none) => simp [sVal, sLongV, Value.category]
  | .inr (.inr (some i)) => simp [sVal, sLongV, Value.category]
