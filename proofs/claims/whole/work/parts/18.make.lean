/-! 18: making: constructors. The executor sy: as sx, with new objects and arrays; other methods' calls are runs of sx -/
/-- a maker: its instructions, maxLocals, how many arguments, what it returns (0 nothing, 4 a reference), cells and slots that it makes -/
abbrev sMc : Type := Lean.RArray sIn × Nat × Nat × Nat × Nat × Nat
noncomputable def sBdV (n : Nat) (v : sV) : Bool := Sum.rec (motive := fun _ => Bool) (fun _ => true) (fun w => Sum.rec (motive := fun _ => Bool) (fun _ => true) (fun o => Option.rec (motive := fun _ => Bool) true (fun i => Bool.or (Nat.ble (Nat.succ i) n) (Nat.ble (nat_lit 1000000) i)) o) w) v
noncomputable def sAllL {α : Type} (f : α → Bool) (l : List α) : Bool := List.rec (motive := fun _ => Bool) true (fun a _ ih => Bool.and (f a) ih) l
noncomputable def sBdO (n : Nat) (v : Option sV) : Bool := Option.rec (motive := fun _ => Bool) true (sBdV n) v
/-- cells of ints hold no references -/
noncomputable def sBdC (n : Nat) (c : sC) : Bool := Bool.or (Bool.and (Nat.ble (nat_lit 1) c.1) (Nat.ble c.1 (nat_lit 4))) (Bool.and (Nat.ble c.1 (nat_lit 6)) (sAllL (sBdV n) c.2.2))
theorem sAllL_ok {α : Type} {f : α → Bool} : ∀ {l : List α}, sAllL f l = true → ∀ a ∈ l, f a = true
  | [], _, a, h => by cases h
  | b :: l, h, a, ha => by
    have h2 : Bool.and (f b) (sAllL f l) = true := h
    rw [Bool.and_eq_true] at h2
    rcases List.mem_cons.mp ha with rfl | ha
    · exact h2.1
    · exact sAllL_ok h2.2 a ha
/-- al2 is al, but for new cells -/
def sAg (n : Nat) (al al2 : Nat → Nat) : Prop := ∀ i, (i < n ∨ 1000000 ≤ i) → al2 i = al i
theorem sBdV_ok {r : sE} {n : Nat} {al al2 : Nat → Nat} (h : sAg n al al2) {v : sV} (hv : sBdV n v = true) : sVal r al2 v = sVal r al v := by
  rcases v with x | x | x | i
  · rfl
  · rfl
  · rfl
  · have h2 : Bool.or (Nat.ble (Nat.succ i) n) (Nat.ble (nat_lit 1000000) i) = true := hv
    show Value.ref (al2 i) = Value.ref (al i)
    rcases Bool.or_eq_true_iff.mp h2 with q | q
    · rw [h i (Or.inl (Nat.le_of_ble_eq_true q))]
    · rw [h i (Or.inr (Nat.le_of_ble_eq_true q))]
theorem sBd_map {r : sE} {n : Nat} {al al2 : Nat → Nat} (h : sAg n al al2) {st : List sV} (hv : sAllL (sBdV n) st = true) : st.map (sVal r al2) = st.map (sVal r al) := List.map_congr_left (fun v q => sBdV_ok h (sAllL_ok hv v q))
theorem sBd_lo {r : sE} {n : Nat} {al al2 : Nat → Nat} (h : sAg n al al2) {L : sL} (hv : sAllL (sBdO n) L = true) {ls : Array Slot} {nL : Nat} (hl : sLo r al ls nL L) : sLo r al2 ls nL L := ⟨hl.1, hl.2.1, fun i v q => by
  rw [sBdV_ok h (sAllL_ok hv (some v) (List.mem_of_getElem? q))]
  exact hl.2.2.1 i v q, hl.2.2.2⟩
theorem sRef_eq {n : Nat} {al al2 : Nat → Nat} (h : sAg n al al2) {vs : List sV} (hv : sAllL (sBdV n) vs = true) (j : Nat) : sRef al2 vs[j]? = sRef al vs[j]? := by
  cases hj : vs[j]? with
  | none => rfl
  | some v =>
    have h2 := sAllL_ok hv v (List.mem_of_getElem? hj)
    rcases v with x | x | x | i
    · rfl
    · rfl
    · rfl
    · have h3 := sBdV_ok (r := (fun _ => 0, fun _ => 0)) h h2
      have h4 : Value.ref (al2 i) = Value.ref (al i) := h3
      exact congrArg some (Value.ref.inj h4)
theorem sBd_ce {r : sE} {n : Nat} {al al2 : Nat → Nat} {cy : Nat → ClassId} {hid : Nat → va_E} (h : sAg n al al2) {c : sC} (hc : sBdC n c = true) : sCe r al2 cy hid c = sCe r al cy hid c := by
  obtain ⟨k, u, vs⟩ := c
  have hc2 : Bool.or (Bool.and (Nat.ble (nat_lit 1) k) (Nat.ble k (nat_lit 4))) (Bool.and (Nat.ble k (nat_lit 6)) (sAllL (sBdV n) vs)) = true := hc
  rcases Bool.or_eq_true_iff.mp hc2 with q | q
  · rw [Bool.and_eq_true] at q
    have q1 : 1 ≤ k := Nat.le_of_ble_eq_true q.1
    have q2 : k ≤ 4 := Nat.le_of_ble_eq_true q.2
    rcases (show k = 1 ∨ k = 2 ∨ k = 3 ∨ k = 4 by omega) with rfl | rfl | rfl | rfl <;> rfl
  · rw [Bool.and_eq_true] at q
    have q1 : k ≤ 6 := Nat.le_of_ble_eq_true q.1
    rcases (show k = 0 ∨ k = 1 ∨ k = 2 ∨ k = 3 ∨ k = 4 ∨ k = 5 ∨ k = 6 by omega) with rfl | rfl | rfl | rfl | rfl | rfl | rfl
    · show (Sum.inr (u, vs.map (sVal r al2)) : va_E) = Sum.inr (u, vs.map (sVal r al))
      rw [sBd_map h q.2]
    · rfl
    · rfl
    · rfl
    · rfl
    · simp only [sCe, sRef_eq h q.2]
    · simp only [sCe, sRef_eq h q.2]
theorem sBd_w {r : sE} {al al2 : Nat → Nat} {cy : Nat → ClassId} {hid : Nat → va_E} {rest : va_W} {mem : sM} (h : sAg mem.length al al2) (hm : sAllL (sBdC mem.length) mem = true) : sW r al2 cy hid rest mem = sW r al cy hid rest mem := by
  unfold sW
  congr 1
  apply List.ext_getElem?
  intro j
  rw [List.getElem?_mapIdx, List.getElem?_mapIdx]
  cases hj : mem[j]? with
  | none => rfl
  | some c =>
    simp only [Option.map_some]
    have hl : j < mem.length := (List.getElem?_eq_some_iff.mp hj).1
    rw [h j (Or.inl hl), sBd_ce h (sAllL_ok hm c (List.mem_of_getElem? hj))]
def sTy (ci : Nat) : Nat → FieldType := match ci with
  | 0 => tyX0 | 1 => tyX1 | 2 => tyX4 | 3 => tyX5 | 4 => tyX6 | 5 => tyX7 | 6 => tyX8 | 7 => tyX8 | 8 => tyX10 | 9 => tyX11 | 10 => tyX12 | _ => tyX13
def sNn (ci : Nat) : Nat := match ci with
  | 0 => 2 | 1 => 3 | 2 => 12 | 3 => 4 | 4 => 9 | 5 => 3 | 6 => 3 | 7 => 3 | 8 => 3 | 9 => 4 | 10 => 11 | _ => 59
def sDefV (t : FieldType) : sV := match t with
  | .long => .inr (.inl (.natCast (nat_lit 0)))
  | .object _ => .inr (.inr none)
  | .array _ => .inr (.inr none)
  | _ => .inl (.natCast (nat_lit 0))
/-- a new object's fields -/
def sNewF (ci : Nat) : List sV := (List.range (sNn ci)).map (fun k => sDefV (sTy ci k))
theorem sNewF_ok {r : sE} {al : Nat → Nat} {ci : Nat} (hci : ci < 12) : ∀ j, j < sNn ci → defaultValue (sTy ci j) = vp_V ((sNewF ci).map (sVal r al)) j := by
  have key : ∀ ty : FieldType, (ty = .int ∨ ty = .boolean ∨ ty = .long ∨ (∃ n, ty = .object n) ∨ ∃ t, ty = .array t) → defaultValue ty = sVal r al (sDefV ty) := by
    rintro ty (rfl | rfl | rfl | ⟨n, rfl⟩ | ⟨t, rfl⟩)
    · simp only [sDefV, sVal, sI, sD_c]; rfl
    · simp only [sDefV, sVal, sI, sD_c]; rfl
    · simp only [sDefV, sVal, sJ, sD_c]; rfl
    · rfl
    · rfl
  have tys : ∀ ci, ci < 12 → ∀ j, j < sNn ci → (match sTy ci j with | .int => true | .boolean => true | .long => true | .object _ => true | .array _ => true | _ => false) = true := by decide +kernel
  intro j hj
  have h1 := tys ci hci j hj
  have h2 : sTy ci j = .int ∨ sTy ci j = .boolean ∨ sTy ci j = .long ∨ (∃ n, sTy ci j = .object n) ∨ ∃ t, sTy ci j = .array t := by
    split at h1
    · exact Or.inl (by assumption)
    · exact Or.inr (Or.inl (by assumption))
    · exact Or.inr (Or.inr (Or.inl (by assumption)))
    · exact Or.inr (Or.inr (Or.inr (Or.inl ⟨_, by assumption⟩)))
    · exact Or.inr (Or.inr (Or.inr (Or.inr ⟨_, by assumption⟩)))
    · cases h1
  rw [key _ h2]
  unfold vp_V sNewF
  simp [hj]
/-- kinds of the steps that make -/
noncomputable def sOq (ir : Instr) : sFun ⊕ (Nat × Nat) := match ir with
  | .new ci => .inr (0, ci)
  | .newarray .int => .inr (1, 1)
  | .newarray .byte => .inr (1, 2)
  | .newarray .boolean => .inr (1, 3)
  | .newarray .long => .inr (1, 4)
  | .anewarray _ => .inr (2, 0)
  | .multianewarray _ _ => .inr (3, 0)
  | .aastore => .inr (4, 0)
  | .checkcast n => .inr (5, n)
  | .pop => .inr (6, 0)
  | .invokespecial k => .inr (7, k)
  | .invokestatic k => .inr (8, k)
  | .invokevirtual k => .inr (8, k)
  | .return_ => .inr (9, 0)
  | .areturn => .inr (9, 3)
  | ir => match sOp ir with
    | .inl f => .inl f
    | .inr _ => .inr (99, 0)
section SMK
variable {p : Program} {l : Launch} {e : Env} {R : Room} {s : State} {m : MethodId} {args : Array Value} {below : List Frame} {meth : Method} {c : Code} {cells slots : Nat} {Q : State → Prop}
variable {cc : ByteArray} {pc nL : Nat} {D : va_G} {cy : Nat → ClassId} {A : Nat → Prop} {r : sE} {al : Nat → Nat} {hid : Nat → va_E} {rest : va_W}
/-- one cell more, at q -/
def sUp (al : Nat → Nat) (n q : Nat) : Nat → Nat := fun i => if i = n then q else al i
theorem sUp_ag {n q : Nat} (hn : n < 1000000) : sAg n al (sUp al n q) := fun i h => if_neg (by omega)
theorem sW_app {mem : sM} {q : Nat} {cl : sC} (hm : sAllL (sBdC mem.length) mem = true) (hn : mem.length < 1000000) : sW r (sUp al mem.length q) cy hid rest (mem ++ [cl]) = (mem.mapIdx (fun i c => (al i, sCe r al cy hid c)) ++ [(q, sCe r (sUp al mem.length q) cy hid cl)]) ++ rest := by
  have h1 := sBd_w (r := r) (cy := cy) (hid := hid) (rest := []) (sUp_ag (al := al) (q := q) hn) hm
  unfold sW at h1 ⊢
  rw [List.append_nil, List.append_nil] at h1
  rw [List.mapIdx_append]
  congr 1
  rw [h1]
  congr 1
  simp [sUp]
/-- the world with one cell more, as the kit lays it: behind the rest -/
theorem sLv_app {mem : sM} {q : Nat} {cl : sC} {H : Heap} {locs : List Loc} {H0 : Heap} (hm : sAllL (sBdC mem.length) mem = true) (hn : mem.length < 1000000) (h1 : va_P D vwCl (sW r al cy hid rest mem ++ [(q, sCe r (sUp al mem.length q) cy hid cl)]) H) (h2 : va_D A (sW r al cy hid rest mem ++ [(q, sCe r (sUp al mem.length q) cy hid cl)])) (h3 : va_S A H0 H locs) : sLv D cy A r (sUp al mem.length q) hid rest H0 (mem ++ [cl]) H locs := by
  unfold sLv
  rw [sW_app hm hn]
  unfold sW at h1 h2
  exact ⟨va_P.swap h1, va_D.swap h2, h3⟩
theorem so_new {own C : String} {T : u_T} {N idx ci : Nat} (hx : p.tables.exec = Jvm.exec) (hb : c.code = cc) (hts : ∀ w ∈ sTb, w.before args s = true) (hK : va_K D vwCl (sT cy) s) (hA : ∀ q, s.heap.size ≤ q → A q) (hown : s.vm.findClass own = some m.cls) (hci : ci < 12) (hc : vwCl[ci]? = some (C, T, N)) (hN : N = sNn ci) (hty : ∀ k, k < N → parseFieldDescriptor (T k).2.2.1 = some (sTy ci k)) (hin : ∀ w ∈ u_ws C T N, w ∈ sTb) (hcl : Cond.classLink own idx C ∈ sTb) (hinst : Cond.instantiable C N ∈ sTb) (hini : Cond.initialized C ∈ sTb) (hcells : cells + 1 ≤ R.cells) (hslots : slots + N ≤ R.slots) (hd : decode cc pc = .ok (.new idx, 3))
    {mem : sM} {H : Heap} {locs : List Loc} {ls : Array Slot} {st : List Value} (hm : sAllL (sBdC mem.length) mem = true) (hn : mem.length < 1000000) (hv : sLv D cy A r al hid rest s.heap mem H locs)
    (kk : ∀ (q : Nat) (H1 : Heap), sLv D cy A r (sUp al mem.length q) hid rest s.heap (mem ++ [(0, ci, sNewF ci)]) H1 locs → W p l e R s m args below meth c H1 locs (cells + 1) (slots + N) Q (F0 m (pc + 3) ls (.ref q :: st))) : W p l e R s m args below meth c H locs cells slots Q (F0 m pc ls st) := by
  subst hN
  refine va_new (ci := ci) (fs := (sNewF ci).map (sVal r al)) hx hb hts hin (sTy ci) hty hown (hts _ hcl) (hts _ hinst) (hts _ hini) hK hv.1 hv.2.1 hv.2.2 hA hc (sNewF_ok hci) hcells hslots hd (fun q H1 h1 h2 h3 => kk q H1 (sLv_app hm hn ?_ ?_ h3))
  all_goals
    have e1 : sCe r (sUp al mem.length q) cy hid (0, ci, sNewF ci) = .inr (ci, (sNewF ci).map (sVal r al)) := by
      show (Sum.inr (ci, (sNewF ci).map (sVal r (sUp al mem.length q))) : va_E) = _
      congr 2
      apply List.map_congr_left
      intro v hv
      unfold sNewF at hv
      obtain ⟨k, -, rfl⟩ := List.mem_map.mp hv
      cases sTy ci k <;> rfl
    rw [e1]
    assumption
theorem s_cy {k : Nat} {cA cB : ClassId} {ty : FieldType} {tys : List (ClassId × FieldType)} (hK : va_K D vwCl tys s) (hk : tys[k]? = some (cB, ty)) (hK2 : va_K D vwCl (tys ++ [(cA, ty)]) s) : cA = cB := by
  have h1 := (hK.2 k _ hk).2
  have h2 := (hK2.2 tys.length (cA, ty) (by simp)).2
  cases ty with
  | object C =>
    obtain ⟨_, _, _, _, _, h3⟩ := h1
    obtain ⟨_, _, _, _, _, h4⟩ := h2
    exact Option.some.inj (h4.symm.trans h3)
  | _ => exact Option.some.inj (h2.symm.trans h1)
theorem s_zeroI (n : Nat) : (fun j : Nat => sInt r (List.replicate n (Sum.inl (.natCast 0) : sV))[j]?) = fun _ => 0 := by
  funext j
  by_cases h : j < n
  · simp only [List.getElem?_replicate, h, if_true, sInt, sI, sD_c]
    rfl
  · simp only [List.getElem?_replicate, h, if_false, sInt]
theorem s_zeroJ (n : Nat) : (fun j : Nat => sLng r (List.replicate n (Sum.inr (Sum.inl (.natCast 0)) : sV))[j]?) = fun _ => 0 := by
  funext j
  by_cases h : j < n
  · simp only [List.getElem?_replicate, h, if_true, sLng, sJ, sD_c]
    rfl
  · simp only [List.getElem?_replicate, h, if_false, sLng]
/-- a new array of ints (kind 1), bytes (2), booleans (3) -/
theorem so_newI {kd : Nat} {atype : ArrayType} {ty : FieldType} (hkd : (kd = 1 ∧ ty = .int) ∨ (kd = 2 ∧ ty = .byte) ∨ (kd = 3 ∧ ty = .boolean)) (hty : newarray.typeOf atype = ty) (hx : p.tables.exec = Jvm.exec) (hb : c.code = cc) (hts : ∀ w ∈ sTb, w.before args s = true) (harr : Cond.arrayClass ty ∈ sTb) (hK : va_K D vwCl (sT cy) s) (hA : ∀ q, s.heap.size ≤ q → A q) {n : Nat} (hn0 : n ≤ 100000) (hcells : cells + 1 ≤ R.cells) (hslots : slots + n ≤ R.slots) (hd : decode cc pc = .ok (.newarray atype, 2))
    {mem : sM} {H : Heap} {locs : List Loc} {ls : Array Slot} {st : List Value} (hm : sAllL (sBdC mem.length) mem = true) (hn : mem.length < 1000000) (hv : sLv D cy A r al hid rest s.heap mem H locs)
    (kk : ∀ (q : Nat) (H1 : Heap), sLv D cy A r (sUp al mem.length q) hid rest s.heap (mem ++ [(kd, 0, List.replicate n (.inl (.natCast 0)))]) H1 locs → W p l e R s m args below meth c H1 locs (cells + 1) (slots + n) Q (F0 m (pc + 2) ls (.ref q :: st))) : W p l e R s m args below meth c H locs cells slots Q (F0 m pc ls (.int (Int32.ofNat n) :: st)) := by
  have cn : (Int32.ofNat n).toNatClampNeg = n := nI_clamp (by omega)
  have pos : ¬ Int32.ofNat n < 0 := fun q => by
    rw [Int32.lt_iff_toInt_lt, show (Int32.ofNat n).toInt = (n : Int) from nI_toInt (by omega)] at q
    simp at q
    omega
  have hcb : componentBytes ty ≤ 8 := by rcases hkd with ⟨-, rfl⟩ | ⟨-, rfl⟩ | ⟨-, rfl⟩ <;> decide
  have hdf : defaultValue ty = .int 0 := by rcases hkd with ⟨-, rfl⟩ | ⟨-, rfl⟩ | ⟨-, rfl⟩ <;> rfl
  refine va_newa (a0 := (n, .inl (fun _ => 0))) hx hb (by rw [hty]; exact hts _ harr) hty hK hv.1 hv.2.1 hv.2.2 hA (fun cA => by show arrV cA n (fun _ => Value.int 0) = _; rw [hdf]) pos cn (by have := Nat.mul_le_mul hn0 hcb; omega) hcells hslots hd (fun q cA H1 h0 h1 h2 h3 => kk q H1 (sLv_app hm hn ?_ ?_ h3))
  all_goals
    have e1 : sCe r (sUp al mem.length q) cy hid (kd, 0, List.replicate n (.inl (.natCast 0))) = .inl (cA, n, .inl (fun _ => 0)) := by
      rcases hkd with ⟨rfl, rfl⟩ | ⟨rfl, rfl⟩ | ⟨rfl, rfl⟩
      · have e2 := s_cy (k := 0) hK rfl h0
        simp only [sCe, s_zeroI, List.length_replicate, e2]
      · have e2 := s_cy (k := 1) hK rfl h0
        simp only [sCe, s_zeroI, List.length_replicate, e2]
      · have e2 := s_cy (k := 2) hK rfl h0
        simp only [sCe, s_zeroI, List.length_replicate, e2]
    rw [e1]
    assumption
theorem so_newJ (hx : p.tables.exec = Jvm.exec) (hb : c.code = cc) (hts : ∀ w ∈ sTb, w.before args s = true) (harr : Cond.arrayClass .long ∈ sTb) (hK : va_K D vwCl (sT cy) s) (hA : ∀ q, s.heap.size ≤ q → A q) {n : Nat} (hn0 : n ≤ 100000) (hcells : cells + 1 ≤ R.cells) (hslots : slots + n ≤ R.slots) (hd : decode cc pc = .ok (.newarray .long, 2))
    {mem : sM} {H : Heap} {locs : List Loc} {ls : Array Slot} {st : List Value} (hm : sAllL (sBdC mem.length) mem = true) (hn : mem.length < 1000000) (hv : sLv D cy A r al hid rest s.heap mem H locs)
    (kk : ∀ (q : Nat) (H1 : Heap), sLv D cy A r (sUp al mem.length q) hid rest s.heap (mem ++ [(4, 0, List.replicate n (.inr (.inl (.natCast 0))))]) H1 locs → W p l e R s m args below meth c H1 locs (cells + 1) (slots + n) Q (F0 m (pc + 2) ls (.ref q :: st))) : W p l e R s m args below meth c H locs cells slots Q (F0 m pc ls (.int (Int32.ofNat n) :: st)) := by
  have cn : (Int32.ofNat n).toNatClampNeg = n := nI_clamp (by omega)
  have pos : ¬ Int32.ofNat n < 0 := fun q => by
    rw [Int32.lt_iff_toInt_lt, show (Int32.ofNat n).toInt = (n : Int) from nI_toInt (by omega)] at q
    simp at q
    omega
  refine va_newa (atype := .long) (ty := .long) (N' := n) (a0 := (n, .inr (.inl (fun _ => 0)))) hx hb (hts _ harr) rfl hK hv.1 hv.2.1 hv.2.2 hA (fun cA => rfl) pos cn (show n * 8 ≤ 536870912 by omega) hcells hslots hd (fun q cA H1 h0 h1 h2 h3 => kk q H1 (sLv_app hm hn ?_ ?_ h3))
  all_goals
    have e1 : sCe r (sUp al mem.length q) cy hid (4, 0, List.replicate n (.inr (.inl (.natCast 0)))) = .inl (cA, n, .inr (.inl (fun _ => 0))) := by
      have e2 := s_cy (k := 3) hK rfl h0
      simp only [sCe, s_zeroJ, List.length_replicate, e2]
    rw [e1]
    assumption
theorem so_newQ {own : String} {idx : Nat} (hx : p.tables.exec = Jvm.exec) (hb : c.code = cc) (hts : ∀ w ∈ sTb, w.before args s = true) (hown : s.vm.findClass own = some m.cls) (hcl : Cond.classLink own idx "SwapTables$Shelf" ∈ sTb) (hov : va_AO "SwapTables$Shelf" s) (hK : va_K D vwCl (sT cy) s) (hA : ∀ q, s.heap.size ≤ q → A q) {n : Nat} (hn0 : n ≤ 100000) (hcells : cells + 1 ≤ R.cells) (hslots : slots + n ≤ R.slots) (hd : decode cc pc = .ok (.anewarray idx, 3))
    {mem : sM} {H : Heap} {locs : List Loc} {ls : Array Slot} {st : List Value} (hm : sAllL (sBdC mem.length) mem = true) (hn : mem.length < 1000000) (hv : sLv D cy A r al hid rest s.heap mem H locs)
    (kk : ∀ (q : Nat) (H1 : Heap), sLv D cy A r (sUp al mem.length q) hid rest s.heap (mem ++ [(5, 0, List.replicate n (.inr (.inr none)))]) H1 locs → W p l e R s m args below meth c H1 locs (cells + 1) (slots + n) Q (F0 m (pc + 3) ls (.ref q :: st))) : W p l e R s m args below meth c H locs cells slots Q (F0 m pc ls (.int (Int32.ofNat n) :: st)) := by
  have cn : (Int32.ofNat n).toNatClampNeg = n := nI_clamp (by omega)
  have pos : ¬ Int32.ofNat n < 0 := fun q => by
    rw [Int32.lt_iff_toInt_lt, show (Int32.ofNat n).toInt = (n : Int) from nI_toInt (by omega)] at q
    simp at q
    omega
  refine va_newq (N' := n) hx hb hown (hts _ hcl) hov hK hv.1 hv.2.1 hv.2.2 hA pos cn (by omega) hcells hslots hd (fun q cA H1 h0 h1 h2 h3 => kk q H1 (sLv_app hm hn ?_ ?_ h3))
  all_goals
    have e0 : (fun j : Nat => sRef (sUp al mem.length q) (List.replicate n (Sum.inr (Sum.inr none) : sV))[j]?) = fun _ => none := by
      funext j
      by_cases h : j < n
      · simp only [List.getElem?_replicate, h, if_true, sRef]
      · simp only [List.getElem?_replicate, h, if_false, sRef]
    have e1 : sCe r (sUp al mem.length q) cy hid (5, 0, List.replicate n (.inr (.inr none))) = .inl (cA, n, .inr (.inr (.inr (.inr (fun _ => none))))) := by
      have e2 := s_cy (k := 4) hK rfl h0
      simp only [sCe, e0, List.length_replicate, e2]
    rw [e1]
    assumption
/-- seven cells more: an array of six rows, and these -/
def sUp7 (al : Nat → Nat) (n q : Nat) (ρ : Nat → Nat) : Nat → Nat := fun i => if i = n then q else if n < i ∧ i ≤ n + 6 then ρ (i - (n + 1)) else al i
theorem sUp7_ag {n q : Nat} {ρ : Nat → Nat} (hn : n + 6 < 1000000) : sAg n al (sUp7 al n q ρ) := fun i h => by
  unfold sUp7
  rw [if_neg (by omega), if_neg (by omega)]
def sGrid (n : Nat) : sM := [(6, 0, [.inr (.inr (some (Nat.add n (nat_lit 1)))), .inr (.inr (some (Nat.add n (nat_lit 2)))), .inr (.inr (some (Nat.add n (nat_lit 3)))), .inr (.inr (some (Nat.add n (nat_lit 4)))), .inr (.inr (some (Nat.add n (nat_lit 5)))), .inr (.inr (some (Nat.add n (nat_lit 6))))]),
  (1, 0, List.replicate 6 (.inl (.natCast 0))), (1, 0, List.replicate 6 (.inl (.natCast 0))), (1, 0, List.replicate 6 (.inl (.natCast 0))), (1, 0, List.replicate 6 (.inl (.natCast 0))), (1, 0, List.replicate 6 (.inl (.natCast 0))), (1, 0, List.replicate 6 (.inl (.natCast 0)))]
theorem sW_app7 {mem : sM} {q : Nat} {ρ : Nat → Nat} (hm : sAllL (sBdC mem.length) mem = true) (hn : mem.length + 6 < 1000000) : sW r (sUp7 al mem.length q ρ) cy hid rest (mem ++ sGrid mem.length) = (mem.mapIdx (fun i c => (al i, sCe r al cy hid c)) ++ ([(q, .inl (cy 6, 6, .inr (.inr (.inr (.inr (fun i => if i < 6 then some (ρ i) else none))))))] ++ (List.range 6).map (fun i => (ρ i, .inl (cy 1, 6, .inl (fun _ => 0)))))) ++ rest := by
  have h1 := sBd_w (r := r) (cy := cy) (hid := hid) (rest := []) (sUp7_ag (al := al) (q := q) (ρ := ρ) hn) hm
  unfold sW at h1 ⊢
  rw [List.append_nil, List.append_nil] at h1
  rw [List.mapIdx_append]
  congr 1
  rw [h1]
  congr 1
  have e0 : ∀ j, j < 6 → sUp7 al mem.length q ρ (mem.length + (j + 1)) = ρ j := fun j hj => by
    unfold sUp7
    rw [if_neg (by omega), if_pos (by omega)]
    congr 1
    omega
  have eq0 : sUp7 al mem.length q ρ mem.length = q := if_pos rfl
  have ez := s_zeroI (r := r) 6
  have er : (fun j : Nat => sRef (sUp7 al mem.length q ρ) ([.inr (.inr (some (Nat.add mem.length (nat_lit 1)))), .inr (.inr (some (Nat.add mem.length (nat_lit 2)))), .inr (.inr (some (Nat.add mem.length (nat_lit 3)))), .inr (.inr (some (Nat.add mem.length (nat_lit 4)))), .inr (.inr (some (Nat.add mem.length (nat_lit 5)))), .inr (.inr (some (Nat.add mem.length (nat_lit 6))))] : List sV)[j]?) = fun i => if i < 6 then some (ρ i) else none := by
    funext j
    match j with
    | 0 => exact congrArg some (e0 0 (by omega))
    | 1 => exact congrArg some (e0 1 (by omega))
    | 2 => exact congrArg some (e0 2 (by omega))
    | 3 => exact congrArg some (e0 3 (by omega))
    | 4 => exact congrArg some (e0 4 (by omega))
    | 5 => exact congrArg some (e0 5 (by omega))
    | j + 6 => rw [if_neg (by omega)]; rfl
  have c1 : ∀ al2 : Nat → Nat, sCe r al2 cy hid (1, 0, List.replicate 6 (.inl (.natCast 0))) = .inl (cy 1, 6, .inl (fun _ => 0)) := fun al2 => by
    simp only [sCe, ez, List.length_replicate]
  have c6 : sCe r (sUp7 al mem.length q ρ) cy hid (6, 0, [.inr (.inr (some (Nat.add mem.length (nat_lit 1)))), .inr (.inr (some (Nat.add mem.length (nat_lit 2)))), .inr (.inr (some (Nat.add mem.length (nat_lit 3)))), .inr (.inr (some (Nat.add mem.length (nat_lit 4)))), .inr (.inr (some (Nat.add mem.length (nat_lit 5)))), .inr (.inr (some (Nat.add mem.length (nat_lit 6))))]) = .inl (cy 6, 6, .inr (.inr (.inr (.inr (fun i => if i < 6 then some (ρ i) else none))))) := by
    rw [← er]
    rfl
  unfold sGrid
  simp only [List.mapIdx_cons, List.mapIdx_nil, Nat.zero_add, c6, c1]
  show _ = (q, _) :: (ρ 0, _) :: (ρ 1, _) :: (ρ 2, _) :: (ρ 3, _) :: (ρ 4, _) :: (ρ 5, _) :: []
  have f0 := e0 0 (by omega)
  have f1 := e0 1 (by omega)
  have f2 := e0 2 (by omega)
  have f3 := e0 3 (by omega)
  have f4 := e0 4 (by omega)
  have f5 := e0 5 (by omega)
  simp only [Nat.zero_add, Nat.reduceAdd] at f0 f1 f2 f3 f4 f5
  simp only [Nat.reduceAdd, Nat.add_comm _ mem.length, f0, f1, f2, f3, f4, f5, eq0, Nat.add_zero]
theorem so_grid {own : String} {idx : Nat} (hx : p.tables.exec = Jvm.exec) (hb : c.code = cc) (hts : ∀ w ∈ sTb, w.before args s = true) (hown : s.vm.findClass own = some m.cls) (hcl : Cond.classLink own idx "[[I" ∈ sTb) (hov : va_AOA .int s) (harr : Cond.arrayClass .int ∈ sTb) (hK : va_K D vwCl (sT cy) s) (hA : ∀ q, s.heap.size ≤ q → A q) (hcells : cells + 7 ≤ R.cells) (hslots : slots + 42 ≤ R.slots) (hd : decode cc pc = .ok (.multianewarray idx 2, 4))
    {mem : sM} {H : Heap} {locs : List Loc} {ls : Array Slot} {st : List Value} (hm : sAllL (sBdC mem.length) mem = true) (hn : mem.length + 6 < 1000000) (hv : sLv D cy A r al hid rest s.heap mem H locs)
    (kk : ∀ (q : Nat) (ρ : Nat → Nat) (H1 : Heap), sLv D cy A r (sUp7 al mem.length q ρ) hid rest s.heap (mem ++ sGrid mem.length) H1 locs → W p l e R s m args below meth c H1 locs (cells + 7) (slots + 42) Q (F0 m (pc + 4) ls (.ref q :: st))) : W p l e R s m args below meth c H locs cells slots Q (F0 m pc ls (.int (Int32.ofNat 6) :: .int (Int32.ofNat 6) :: st)) := by
  have c6 : (Int32.ofNat 6).toNatClampNeg = 6 := rfl
  have hcy : s.vm.findClass (FieldType.array .int).toString = some (cy 1) := (hK.2 0 _ rfl).2
  refine va_mna (X := sW r al cy hid rest mem) (L := []) (f := fun _ => .inr (0, [])) (z := (6, .inl (fun _ => 0))) (N' := 6) (K' := 6) hx hb hown (hts _ hcl) hov (hts _ harr) hcy hK (by simpa [va_pl] using hv.1) (by simpa [va_pl] using hv.2.1) hv.2.2 hA (by decide) (by decide) c6 c6 (by decide) (by decide) (by decide) (by decide) (by decide) (by omega) (by omega) (fun cA => ?_) hd (fun q ρ cA H1 g1 g2 g3 g4 g5 g6 => ?_)
  · show ({ cls := cA, slots := Array.replicate 6 (.int 0), vm := .none } : Cell) = _
    rw [arrV_new]
    rfl
  · have e2 := s_cy (k := 5) hK rfl g3
    have e3 : va_pl ([] ++ (List.range 6).map ρ) (vr_up (fun _ => .inr (0, [])) ((List.range 6).map ρ) (.inl (cy 1, 6, .inl (fun _ => 0)))) = (List.range 6).map (fun i => (ρ i, .inl (cy 1, 6, .inl (fun _ => 0)))) := by
      unfold va_pl
      rw [List.nil_append, List.map_map]
      apply List.map_congr_left
      intro i hi
      show (ρ i, vr_up _ _ _ (ρ i)) = _
      rw [vr_up_in (List.mem_map.mpr ⟨i, hi, rfl⟩)]
    rw [e3, e2] at g4 g5
    have e4 : slots + 6 + 6 * 6 = slots + 42 := by omega
    have e5 : cells + 1 + 6 = cells + 7 := by omega
    rw [e4, e5]
    refine kk q ρ H1 ?_
    unfold sLv
    rw [sW_app7 hm hn]
    unfold sW at g4 g5
    rw [List.append_assoc (_ ++ rest)] at g4 g5
    exact ⟨va_P.swap g4, va_D.swap g5, g6⟩
end SMK
