/-! ===== BEGIN words of one list among another's, by their places ===== -/
theorem goodIn_r {big : List Cond} (ws : List Cond) (ps : List Nat) (hp : ws = ps.filterMap (fun i => big[i]?)) (h : ws.all goodWord = true) : GoodIn big ws := by
  intro w hw
  have h1 := List.all_eq_true.mp h w hw
  rw [hp] at hw
  obtain ⟨i, -, hi⟩ := List.mem_filterMap.mp hw
  have hm : w ∈ big := by first | exact List.mem_of_getElem? hi | exact List.getElem?_mem hi
  exact ⟨hm, good_of_word h1⟩
theorem goodIn_app {big a b : List Cond} (ha : GoodIn big a) (hb : GoodIn big b) : GoodIn big (a ++ b) := fun w h => (List.mem_append.mp h).elim (ha w) (hb w)
theorem goodIn_ca {big a b : List Cond} {c : Cond} (ha : GoodIn big (c :: a)) (hb : GoodIn big b) : GoodIn big (c :: (a ++ b)) := fun w h => (List.mem_cons.mp h).elim (fun e => ha w (List.mem_cons.mpr (Or.inl e))) (fun h => (List.mem_append.mp h).elim (fun h => ha w (List.mem_cons.mpr (Or.inr h))) (hb w))
theorem goodIn_sub {big ws : List Cond} (hm : ∀ w ∈ ws, w ∈ big) (h : ws.all goodWord = true) : GoodIn big ws := fun w hw => ⟨hm w hw, good_of_word (List.all_eq_true.mp h w hw)⟩
/-! ===== END ===== -/

def va_AOA (t : FieldType) (U : State) : Prop := (Cond.arrayOver (.array t)).before #[] U = true
theorem va_AOA.of {t : FieldType} {A : Array Value} {U : State} (h : (Cond.arrayOver (.array t)).before A U = true) : va_AOA t U := h
theorem va_AOA.use {t : FieldType} {A : Array Value} {U : State} (h : va_AOA t U) : (Cond.arrayOver (.array t)).before A U = true := h
/-! ===== BEGIN new T[n][m]: the outer array a place, the inner ones among the pooled ===== -/
/-- f, but v at every address of l -/
def vr_up {α : Type} (f : Nat → α) (l : List Nat) (v : α) : Nat → α := fun a => if a ∈ l then v else f a
theorem vr_up_in {α : Type} {f : Nat → α} {l : List Nat} {v : α} {a : Nat} (h : a ∈ l) : vr_up f l v a = v := if_pos h
theorem vr_up_ne {α : Type} {f : Nat → α} {l : List Nat} {v : α} {a : Nat} (h : a ∉ l) : vr_up f l v a = f a := if_neg h
theorem vr_rows {L l : List Nat} {f : Nat → va_E} {e : va_E} (h : ∀ a, a ∈ l → a ∉ L) : va_pl L f ++ l.map (fun a => (a, e)) = va_pl (L ++ l) (vr_up f l e) := by
  unfold va_pl
  rw [List.map_append]
  congr 1
  · apply List.map_congr_left
    intro a ha
    rw [vr_up_ne (fun q => h a q ha)]
  · apply List.map_congr_left
    intro a ha
    rw [vr_up_in ha]
theorem vr_lay {X rows : va_W} {x : Nat × va_E} {pl : va_W} {D : va_G} {cl : List vw_C} {H : Heap} (hP : va_P D cl (((X ++ pl) ++ [x]) ++ rows) H) : va_P D cl ((X ++ [x]) ++ (pl ++ rows)) H := by
  rw [List.append_assoc (X ++ pl)] at hP
  have h := va_P.swap hP
  rw [← List.append_assoc X] at h
  have h2 := va_P.swap h
  rw [List.append_assoc (X ++ [x])] at h2
  exact h2
theorem vr_layD {X rows : va_W} {x : Nat × va_E} {pl : va_W} {A : Nat → Prop} (hD : va_D A (((X ++ pl) ++ [x]) ++ rows)) : va_D A ((X ++ [x]) ++ (pl ++ rows)) := by
  rw [List.append_assoc (X ++ pl)] at hD
  have h := va_D.swap hD
  rw [← List.append_assoc X] at h
  have h2 := va_D.swap h
  rw [List.append_assoc (X ++ [x])] at h2
  exact h2
theorem vr_outer (c : ClassId) (N h0 : Nat) : ∀ i : Nat, Jvm.Free.Multi.outerC c N h0 i = arrV c N (fun j => va_rf (if j < i then some (h0 + 1 + j) else none))
  | 0 => by
    show ({ cls := c, slots := Array.replicate N .null, vm := .none } : Cell) = _
    rw [arrV_new]
    refine congrArg (arrV c N) (funext fun j => ?_)
    simp [va_rf]
  | i + 1 => by
    show (Jvm.Free.Multi.outerC c N h0 i).setSlot i (.ref (h0 + 1 + i)) = _
    rw [vr_outer c N h0 i, arrV_store]
    refine congrArg (arrV c N) (funext fun j => ?_)
    by_cases e : j = i
    · subst e
      simp [updV, va_rf]
    · by_cases h : j < i
      · simp [updV, e, h, Nat.lt_succ_of_lt h]
      · simp [updV, e, h, show ¬ j < i + 1 by omega]
section VGM
variable {p : Program} {l : Launch} {e : Env} {R : Room} {s : State} {m : MethodId} {args : Array Value} {below : List Frame} {meth : Method} {c : Code} {H : Heap} {locs : List Loc} {cells slots : Nat} {Q : State → Prop}
variable {cc : ByteArray} {pc : Nat} {ls : Array Slot} {rest : List Value} {D : va_G} {cl : List vw_C} {A : Nat → Prop} {a : Nat} {tys : List (ClassId × FieldType)} {ws : va_W} {H0 : Heap}
theorem va_mna {X : va_W} {L : List Nat} {f : Nat → va_E} {cc : ByteArray} (hexec : p.tables.exec = Jvm.exec) (hb : c.code = cc) {own : String} {index : Nat} {ty : FieldType} {cy : ClassId} (hown : s.vm.findClass own = some m.cls) (hclink : (Cond.classLink own index ("[" ++ (FieldType.array ty).toString)).before args s = true) (hover : va_AOA ty s) (harr : (Cond.arrayClass ty).before args s = true) (hcy : s.vm.findClass (FieldType.array ty).toString = some cy)
    (hK : va_K D cl tys s) (hP : va_P D cl (X ++ va_pl L f) H) (hD : va_D A (X ++ va_pl L f)) (hS : va_S A H0 H locs) (hA : ∀ q, H0.size ≤ q → A q) {n k : Int32} {N' K' : Nat} {z : vp_A} (hn : ¬ n < 0) (hk : ¬ k < 0) (hN : n.toNatClampNeg = N') (hM : k.toNatClampNeg = K')
    (hb1 : N' * 4 ≤ 536870912) (hb2 : K' * componentBytes ty ≤ 536870912) (hb3 : K' ≤ 536870912) (hdf : fits ty (defaultValue ty) = true) (hdd : (defaultValue ty).isDefault = true) (hcells : cells + (1 + N') ≤ R.cells) (hslots : slots + (N' + N' * K') ≤ R.slots) (hz : ∀ c : ClassId, Jvm.Free.Multi.innerC c K' (defaultValue ty) = vp_cell c z) (hdg : decode cc pc = .ok (.multianewarray index 2, 4))
    (kk : ∀ (q : Nat) (r : Nat → Nat) (cA : ClassId) (H1 : Heap), (∀ i j : Nat, i < N' → j < N' → r i = r j → i = j) → (∀ i : Nat, i < N' → r i ∉ L) → va_K D cl (tys ++ [(cA, .array ty)]) s →
      va_P D cl ((X ++ [(q, .inl (cA, N', .inr (.inr (.inr (.inr (fun i => if i < N' then some (r i) else none))))))]) ++ va_pl (L ++ (List.range N').map r) (vr_up f ((List.range N').map r) (.inl (cy, z)))) H1 → va_D A ((X ++ [(q, .inl (cA, N', .inr (.inr (.inr (.inr (fun i => if i < N' then some (r i) else none))))))]) ++ va_pl (L ++ (List.range N').map r) (vr_up f ((List.range N').map r) (.inl (cy, z)))) → va_S A H0 H1 locs →
      W p l e R s m args below meth c H1 locs (cells + 1 + N') (slots + N' + N' * K') Q (F0 m (pc + 4) ls (.ref q :: rest))) : W p l e R s m args below meth c H locs cells slots Q (F0 m pc ls (.int k :: .int n :: rest)) := by
  subst hN
  subst hM
  intro T hT Xs
  obtain ⟨vm₁, cA, comp, -, fA, fC, hO, -, X', step⟩ := Xs.multianewarray2F hexec hown hclink (va_AOA.use hover) harr (g := F0 m pc ls (.int k :: .int n :: rest)) rfl (by rw [hb]; exact hdg) rfl hn hk hb1 hb2 hb3 hdf hdd hcells hslots
  have ec : some cy = some comp := hcy.symm.trans fC
  cases ec
  generalize hF : Jvm.Free.Multi.fill (T.setVm vm₁) cA cy n.toNatClampNeg k.toNatClampNeg (defaultValue ty) n.toNatClampNeg = F at X' step
  have hTh : (T.setVm vm₁).heap = H := hT
  obtain ⟨f1, f2, -, -⟩ := Jvm.Free.Multi.fill_facts (T.setVm vm₁) cA cy n.toNatClampNeg k.toNatClampNeg (defaultValue ty) n.toNatClampNeg
  rw [hF, hTh] at f1 f2
  have hold : ∀ x : Nat, x < H.size → F.heap[x]? = H[x]? := fun x hx => by
    have := Jvm.Free.Multi.fill_old (T.setVm vm₁) cA cy n.toNatClampNeg k.toNatClampNeg (defaultValue ty) (a := x) (by rw [hTh]; exact hx) n.toNatClampNeg
    rw [hF, hTh] at this
    exact this
  have hrow : ∀ j : Nat, j < n.toNatClampNeg → F.heap[H.size + 1 + j]? = some (vp_cell cy z) := fun j hj => by
    have := Jvm.Free.Multi.fill_inner (T.setVm vm₁) cA cy n.toNatClampNeg k.toNatClampNeg (defaultValue ty) n.toNatClampNeg j hj
    rw [hF, hTh, hz] at this
    exact this
  have hout : Jvm.Free.Multi.outerC cA n.toNatClampNeg H.size n.toNatClampNeg = vp_cell cA (n.toNatClampNeg, .inr (.inr (.inr (.inr (fun i => if i < n.toNatClampNeg then some (H.size + 1 + i) else none))))) := by
    rw [vp_cell_q]
    exact vr_outer cA n.toNatClampNeg H.size n.toNatClampNeg
  rw [hout] at f2
  have hlt : ∀ a, a ∈ L → a < H.size := fun a ha => by
    obtain ⟨k9, hk9⟩ := va_pl_get (X := X) (f := f) ha
    exact (hP k9 _ hk9).lt
  have hnl : ∀ i : Nat, i < n.toNatClampNeg → H.size + 1 + i ∉ L := fun i _ h => by
    have := hlt _ h
    omega
  have hnm : ∀ a, a ∈ (List.range n.toNatClampNeg).map (fun i => H.size + 1 + i) → a ∉ L := fun a ha h => by
    obtain ⟨i, -, rfl⟩ := List.mem_map.mp ha
    have := hlt _ h
    omega
  have hP0 : va_P D cl (X ++ va_pl L f) F.heap := hP.kept (fun k9 x hx => hold x.1 ((hP k9 x hx).lt))
  have hP1 : va_P D cl ((X ++ va_pl L f) ++ [(H.size, .inl (cA, n.toNatClampNeg, .inr (.inr (.inr (.inr (fun i => if i < n.toNatClampNeg then some (H.size + 1 + i) else none))))))]) F.heap := hP0.app (fun k9 x hx => by
    have h0 : k9 < 1 := (List.getElem?_eq_some_iff.mp hx).1
    rw [show k9 = 0 by omega] at hx
    cases hx
    exact f2)
  have hP2 : va_P D cl (((X ++ va_pl L f) ++ [(H.size, .inl (cA, n.toNatClampNeg, .inr (.inr (.inr (.inr (fun i => if i < n.toNatClampNeg then some (H.size + 1 + i) else none))))))]) ++ ((List.range n.toNatClampNeg).map (fun i => H.size + 1 + i)).map (fun a => (a, .inl (cy, z)))) F.heap := hP1.app (fun k9 x hx => by
    obtain ⟨a, ha, rfl⟩ := List.mem_map.mp (List.mem_of_getElem? hx)
    obtain ⟨i, hi, rfl⟩ := List.mem_map.mp ha
    exact hrow i (List.mem_range.mp hi))
  have hD2 : va_D A (((X ++ va_pl L f) ++ [(H.size, .inl (cA, n.toNatClampNeg, .inr (.inr (.inr (.inr (fun i => if i < n.toNatClampNeg then some (H.size + 1 + i) else none))))))]) ++ ((List.range n.toNatClampNeg).map (fun i => H.size + 1 + i)).map (fun a => (a, .inl (cy, z)))) := by
    have hD1 := hD.push (e := .inl (cA, n.toNatClampNeg, .inr (.inr (.inr (.inr (fun i => if i < n.toNatClampNeg then some (H.size + 1 + i) else none)))))) hP rfl (hA _ hS.1)
    generalize hW1 : (X ++ va_pl L f) ++ [(H.size, .inl (cA, n.toNatClampNeg, .inr (.inr (.inr (.inr (fun i => if i < n.toNatClampNeg then some (H.size + 1 + i) else none))))))] = W1 at hD1 hP1 ⊢
    have hle : ∀ (k9 : Nat) (x : Nat × va_E), W1[k9]? = some x → x.1 ≤ H.size := fun k9 x hx => by
      rw [← hW1] at hx
      by_cases hl : k9 < (X ++ va_pl L f).length
      · rw [List.getElem?_append_left hl] at hx
        exact Nat.le_of_lt ((hP k9 x hx).lt)
      · rw [List.getElem?_append_right (by omega)] at hx
        have h0 : k9 - (X ++ va_pl L f).length < 1 := (List.getElem?_eq_some_iff.mp hx).1
        rw [show k9 - (X ++ va_pl L f).length = 0 by omega] at hx
        cases hx
        exact Nat.le_refl _
    have hr : ∀ (k9 : Nat) (x : Nat × va_E), (((List.range n.toNatClampNeg).map (fun i => H.size + 1 + i)).map (fun a => ((a, .inl (cy, z)) : Nat × va_E)))[k9]? = some x → x.1 = H.size + 1 + k9 := fun k9 x hx => by
      rw [List.getElem?_map, List.getElem?_map] at hx
      by_cases h9 : k9 < n.toNatClampNeg
      · rw [List.getElem?_range h9] at hx
        cases hx
        rfl
      · have hn0 : (List.range n.toNatClampNeg)[k9]? = none := List.getElem?_eq_none (by rw [List.length_range]; omega)
        rw [hn0] at hx
        cases hx
    refine ⟨fun i j x y hi hj hxy => ?_, fun k9 x hx => ?_⟩
    · by_cases h1 : i < W1.length <;> by_cases h2 : j < W1.length
      · rw [List.getElem?_append_left h1] at hi
        rw [List.getElem?_append_left h2] at hj
        exact hD1.1 i j x y hi hj hxy
      · rw [List.getElem?_append_left h1] at hi
        rw [List.getElem?_append_right (by omega)] at hj
        have := hle _ _ hi
        have := hr _ _ hj
        omega
      · rw [List.getElem?_append_right (by omega)] at hi
        rw [List.getElem?_append_left h2] at hj
        have := hle _ _ hj
        have := hr _ _ hi
        omega
      · rw [List.getElem?_append_right (by omega)] at hi hj
        have := hr _ _ hi
        have := hr _ _ hj
        omega
    · by_cases h1 : k9 < W1.length
      · rw [List.getElem?_append_left h1] at hx
        exact hD1.2 k9 x hx
      · rw [List.getElem?_append_right (by omega)] at hx
        have := hr _ _ hx
        exact hA _ (by have := hS.1; omega)
  have hAr : ArrOfT s cA (.array ty) := fun N9 z9 => by
    obtain ⟨-, k9, hk9, cm9, hkk9⟩ := (hO 0 0 0).1
    exact ⟨(fun q hq => by cases hq), k9, hk9, cm9, hkk9⟩
  have hK2 : va_K D cl (tys ++ [(cA, .array ty)]) s := ⟨hK.1, fun k9 x hx => by
    by_cases hl : k9 < tys.length
    · rw [List.getElem?_append_left hl] at hx
      exact hK.2 k9 x hx
    · rw [List.getElem?_append_right (by omega)] at hx
      have h0 : k9 - tys.length < 1 := (List.getElem?_eq_some_iff.mp hx).1
      rw [show k9 - tys.length = 0 by omega] at hx
      cases hx
      exact ⟨hAr, fA⟩⟩
  obtain ⟨t, a1, b1⟩ := kk H.size (fun i => H.size + 1 + i) cA F.heap (fun i j _ _ h => by have h9 : H.size + 1 + i = H.size + 1 + j := h; omega) hnl hK2 (by rw [← vr_rows hnm]; exact vr_lay hP2) (by rw [← vr_rows hnm]; exact vr_layD hD2) ⟨by rw [f1]; have := hS.1; omega, fun x h1 h2 => (hold x (Nat.lt_of_lt_of_le h1 hS.1)).trans (hS.2.1 x h1 h2), hS.2.2⟩ F rfl X'
  refine ⟨t, step t ?_, b1⟩
  have e : T.heap.size = H.size := by rw [hT]
  rw [e]
  exact a1
end VGM
/-! ===== END ===== -/

def RX0 : String := "SwapTables$FractionRow"
def TX0 : u_T := fun k => match k with
  | 0 => ("SwapTables$FractionRow", "above", "[J", true)
  | _ => ("SwapTables$FractionRow", "below", "[J", true)
def tyX0 : Nat → FieldType := fun k => match k with
  | 0 => .array .long
  | _ => .array .long
abbrev wsX00 : List Cond := u_ws RX0 TX0 2
theorem nmX0 : ∀ a, a < 2 → ∀ b, b < 2 → a ≠ b → (TX0 a).2.1 ≠ (TX0 b).2.1 := by decide +kernel
theorem tyX0_ok : ∀ k, k < 2 → parseFieldDescriptor (TX0 k).2.2.1 = some (tyX0 k) := by decide +kernel
abbrev cX0_init : ByteArray := prog_2_method_1_code
def yX0_init : MethodName := ⟨RX0, "<init>", "()V"⟩
abbrev cX0_clear : ByteArray := prog_2_method_2_code
def yX0_clear : MethodName := ⟨RX0, "clear", "()V"⟩
abbrev cX0_add : ByteArray := prog_2_method_3_code
def yX0_add : MethodName := ⟨RX0, "add", "(IJJ)V"⟩
abbrev cX0_commonDivisor : ByteArray := prog_2_method_4_code
def yX0_commonDivisor : MethodName := ⟨RX0, "commonDivisor", "(JJ)J"⟩
abbrev cX0_partAt : ByteArray := prog_2_method_5_code
def yX0_partAt : MethodName := ⟨RX0, "partAt", "(II)J"⟩
def RX1 : String := "SwapTables$Image"
def TX1 : u_T := fun k => match k with
  | 0 => ("SwapTables$Image", "code", "I", false)
  | 1 => ("SwapTables$Image", "registers", "[I", true)
  | _ => ("SwapTables$Image", "shelves", "[LSwapTables$Shelf;", true)
def tyX1 : Nat → FieldType := fun k => match k with
  | 0 => .int
  | 1 => .array .int
  | _ => .array (.object "SwapTables$Shelf")
abbrev wsX10 : List Cond := u_ws RX1 TX1 3
theorem nmX1 : ∀ a, a < 3 → ∀ b, b < 3 → a ≠ b → (TX1 a).2.1 ≠ (TX1 b).2.1 := by decide +kernel
theorem tyX1_ok : ∀ k, k < 3 → parseFieldDescriptor (TX1 k).2.2.1 = some (tyX1 k) := by decide +kernel
abbrev cX1_init : ByteArray := prog_3_method_1_code
def yX1_init : MethodName := ⟨RX1, "<init>", "()V"⟩
def RX2 : String := "SwapTables$Orders"
def TX2 : u_T := fun k => match k with
  | _ => ("", "", "", false)
def tyX2 : Nat → FieldType := fun k => match k with
  | _ => .int
abbrev wsX20 : List Cond := u_ws RX2 TX2 0
theorem nmX2 : ∀ a, a < 0 → ∀ b, b < 0 → a ≠ b → (TX2 a).2.1 ≠ (TX2 b).2.1 := by decide +kernel
theorem tyX2_ok : ∀ k, k < 0 → parseFieldDescriptor (TX2 k).2.2.1 = some (tyX2 k) := by decide +kernel
abbrev cX2_target : ByteArray := prog_4_method_2_code
def yX2_target : MethodName := ⟨RX2, "target", "(II)I"⟩
abbrev cX2_withTarget : ByteArray := prog_4_method_3_code
def yX2_withTarget : MethodName := ⟨RX2, "withTarget", "(III)I"⟩
abbrev cX2_product : ByteArray := prog_4_method_4_code
def yX2_product : MethodName := ⟨RX2, "product", "(II)I"⟩
abbrev cX2_turned : ByteArray := prog_4_method_5_code
def yX2_turned : MethodName := ⟨RX2, "turned", "(I)I"⟩
abbrev cX2_neighbours : ByteArray := prog_4_method_6_code
def yX2_neighbours : MethodName := ⟨RX2, "neighbours", "(I)I"⟩
abbrev cX2_length : ByteArray := prog_4_method_7_code
def yX2_length : MethodName := ⟨RX2, "length", "(I)I"⟩
abbrev cX2_letter : ByteArray := prog_4_method_8_code
def yX2_letter : MethodName := ⟨RX2, "letter", "(II)I"⟩
abbrev cX2_firstLetter : ByteArray := prog_4_method_9_code
def yX2_firstLetter : MethodName := ⟨RX2, "firstLetter", "(I)I"⟩
abbrev cX2_typeOf : ByteArray := prog_4_method_10_code
def yX2_typeOf : MethodName := ⟨RX2, "typeOf", "(II)I"⟩
abbrev cX2_cycleSize : ByteArray := prog_4_method_11_code
def yX2_cycleSize : MethodName := ⟨RX2, "cycleSize", "(II)I"⟩
abbrev cX2_beginsCycle : ByteArray := prog_4_method_12_code
def yX2_beginsCycle : MethodName := ⟨RX2, "beginsCycle", "(II)Z"⟩
abbrev cX2_ofType : ByteArray := prog_4_method_13_code
def yX2_ofType : MethodName := ⟨RX2, "ofType", "(I)I"⟩
def RX3 : String := "SwapTables$Partitions"
def TX3 : u_T := fun k => match k with
  | _ => ("", "", "", false)
def tyX3 : Nat → FieldType := fun k => match k with
  | _ => .int
abbrev wsX30 : List Cond := u_ws RX3 TX3 0
theorem nmX3 : ∀ a, a < 0 → ∀ b, b < 0 → a ≠ b → (TX3 a).2.1 ≠ (TX3 b).2.1 := by decide +kernel
theorem tyX3_ok : ∀ k, k < 0 → parseFieldDescriptor (TX3 k).2.2.1 = some (tyX3 k) := by decide +kernel
abbrev cX3_codeOf : ByteArray := prog_5_method_2_code
def yX3_codeOf : MethodName := ⟨RX3, "codeOf", "(IIIII)I"⟩
abbrev cX3_part : ByteArray := prog_5_method_3_code
def yX3_part : MethodName := ⟨RX3, "part", "(II)I"⟩
abbrev cX3_withPart : ByteArray := prog_5_method_4_code
def yX3_withPart : MethodName := ⟨RX3, "withPart", "(III)I"⟩
abbrev cX3_size : ByteArray := prog_5_method_5_code
def yX3_size : MethodName := ⟨RX3, "size", "(I)I"⟩
abbrev cX3_amount : ByteArray := prog_5_method_6_code
def yX3_amount : MethodName := ⟨RX3, "amount", "(I)I"⟩
abbrev cX3_code : ByteArray := prog_5_method_7_code
def yX3_code : MethodName := ⟨RX3, "code", "(II)I"⟩
abbrev cX3_numberOf : ByteArray := prog_5_method_8_code
def yX3_numberOf : MethodName := ⟨RX3, "numberOf", "(II)I"⟩
def RX4 : String := "SwapTables$Reader"
def TX4 : u_T := fun k => match k with
  | 0 => ("SwapTables$Reader", "refused", "LSwapTables$Troubles;", true)
  | 1 => ("SwapTables$Reader", "open", "LSwapTables$Troubles;", true)
  | 2 => ("SwapTables$Reader", "made", "[I", true)
  | 3 => ("SwapTables$Reader", "brackets", "I", false)
  | 4 => ("SwapTables$Reader", "awaited", "I", false)
  | 5 => ("SwapTables$Reader", "n", "I", false)
  | 6 => ("SwapTables$Reader", "isWrong", "Z", false)
  | 7 => ("SwapTables$Reader", "cycle", "I", false)
  | 8 => ("SwapTables$Reader", "figures", "I", false)
  | 9 => ("SwapTables$Reader", "seen", "I", false)
  | 10 => ("SwapTables$Reader", "first", "I", false)
  | _ => ("SwapTables$Reader", "last", "I", false)
def tyX4 : Nat → FieldType := fun k => match k with
  | 0 => .object "SwapTables$Troubles"
  | 1 => .object "SwapTables$Troubles"
  | 2 => .array .int
  | 3 => .int
  | 4 => .int
  | 5 => .int
  | 6 => .boolean
  | 7 => .int
  | 8 => .int
  | 9 => .int
  | 10 => .int
  | _ => .int
abbrev wsX40 : List Cond := u_ws RX4 TX4 12
theorem nmX4 : ∀ a, a < 12 → ∀ b, b < 12 → a ≠ b → (TX4 a).2.1 ≠ (TX4 b).2.1 := by decide +kernel
theorem tyX4_ok : ∀ k, k < 12 → parseFieldDescriptor (TX4 k).2.2.1 = some (tyX4 k) := by decide +kernel
abbrev cX4_init : ByteArray := prog_6_method_1_code
def yX4_init : MethodName := ⟨RX4, "<init>", "()V"⟩
abbrev cX4_workOut : ByteArray := prog_6_method_2_code
def yX4_workOut : MethodName := ⟨RX4, "workOut", "([BII)I"⟩
abbrev cX4_begin : ByteArray := prog_6_method_3_code
def yX4_begin : MethodName := ⟨RX4, "begin", "(I)V"⟩
abbrev cX4_refuseFault : ByteArray := prog_6_method_4_code
def yX4_refuseFault : MethodName := ⟨RX4, "refuseFault", "(I)I"⟩
abbrev cX4_refuse : ByteArray := prog_6_method_5_code
def yX4_refuse : MethodName := ⟨RX4, "refuse", "(II)V"⟩
abbrev cX4_noteWrong : ByteArray := prog_6_method_6_code
def yX4_noteWrong : MethodName := ⟨RX4, "noteWrong", "(I)V"⟩
abbrev cX4_goesOnWith : ByteArray := prog_6_method_7_code
def yX4_goesOnWith : MethodName := ⟨RX4, "goesOnWith", "(II)Z"⟩
abbrev cX4_beginsPart : ByteArray := prog_6_method_8_code
def yX4_beginsPart : MethodName := ⟨RX4, "beginsPart", "(II)Z"⟩
abbrev cX4_opensBracket : ByteArray := prog_6_method_9_code
def yX4_opensBracket : MethodName := ⟨RX4, "opensBracket", "(I)Z"⟩
abbrev cX4_endsSwap : ByteArray := prog_6_method_10_code
def yX4_endsSwap : MethodName := ⟨RX4, "endsSwap", "(II)Z"⟩
abbrev cX4_beginCycle : ByteArray := prog_6_method_11_code
def yX4_beginCycle : MethodName := ⟨RX4, "beginCycle", "()V"⟩
abbrev cX4_goesOnInCycle : ByteArray := prog_6_method_12_code
def yX4_goesOnInCycle : MethodName := ⟨RX4, "goesOnInCycle", "(II)Z"⟩
abbrev cX4_takesIntoCycle : ByteArray := prog_6_method_13_code
def yX4_takesIntoCycle : MethodName := ⟨RX4, "takesIntoCycle", "(I)Z"⟩
abbrev cX4_goesOnBehindPart : ByteArray := prog_6_method_14_code
def yX4_goesOnBehindPart : MethodName := ⟨RX4, "goesOnBehindPart", "(I)Z"⟩
abbrev cX4_endPart : ByteArray := prog_6_method_15_code
def yX4_endPart : MethodName := ⟨RX4, "endPart", "(I)V"⟩
abbrev cX4_isFigure : ByteArray := prog_6_method_16_code
def yX4_isFigure : MethodName := ⟨RX4, "isFigure", "(I)Z"⟩
def RX5 : String := "SwapTables$SeminormalAxes"
def TX5 : u_T := fun k => match k with
  | 0 => ("SwapTables$SeminormalAxes", "shape", "LSwapTables$Shape;", true)
  | 1 => ("SwapTables$SeminormalAxes", "norms", "LSwapTables$FractionRow;", true)
  | 2 => ("SwapTables$SeminormalAxes", "one", "LSwapTables$FractionRow;", true)
  | _ => ("SwapTables$SeminormalAxes", "other", "LSwapTables$FractionRow;", true)
def tyX5 : Nat → FieldType := fun k => match k with
  | 0 => .object "SwapTables$Shape"
  | 1 => .object "SwapTables$FractionRow"
  | 2 => .object "SwapTables$FractionRow"
  | _ => .object "SwapTables$FractionRow"
abbrev wsX50 : List Cond := u_ws RX5 TX5 4
theorem nmX5 : ∀ a, a < 4 → ∀ b, b < 4 → a ≠ b → (TX5 a).2.1 ≠ (TX5 b).2.1 := by decide +kernel
theorem tyX5_ok : ∀ k, k < 4 → parseFieldDescriptor (TX5 k).2.2.1 = some (tyX5 k) := by decide +kernel
abbrev cX5_init : ByteArray := prog_7_method_1_code
def yX5_init : MethodName := ⟨RX5, "<init>", "(LSwapTables$Shape;)V"⟩
abbrev cX5_build : ByteArray := prog_7_method_2_code
def yX5_build : MethodName := ⟨RX5, "build", "()V"⟩
abbrev cX5_rowOf : ByteArray := prog_7_method_3_code
def yX5_rowOf : MethodName := ⟨RX5, "rowOf", "(II)LSwapTables$FractionRow;"⟩
abbrev cX5_goOn : ByteArray := prog_7_method_4_code
def yX5_goOn : MethodName := ⟨RX5, "goOn", "(LSwapTables$FractionRow;ILSwapTables$FractionRow;)V"⟩
abbrev cX5_innerProduct : ByteArray := prog_7_method_5_code
def yX5_innerProduct : MethodName := ⟨RX5, "innerProduct", "([I[I)LSwapTables$FractionRow;"⟩
def RX6 : String := "SwapTables$Shape"
def TX6 : u_T := fun k => match k with
  | 0 => ("SwapTables$Shape", "code", "I", false)
  | 1 => ("SwapTables$Shape", "n", "I", false)
  | 2 => ("SwapTables$Shape", "d", "I", false)
  | 3 => ("SwapTables$Shape", "beginOfRow", "[I", true)
  | 4 => ("SwapTables$Shape", "rowOfCell", "[I", true)
  | 5 => ("SwapTables$Shape", "columnOfCell", "[I", true)
  | 6 => ("SwapTables$Shape", "cellOf", "[[I", true)
  | 7 => ("SwapTables$Shape", "cellNow", "[I", true)
  | _ => ("SwapTables$Shape", "filledOfRow", "[I", true)
def tyX6 : Nat → FieldType := fun k => match k with
  | 0 => .int
  | 1 => .int
  | 2 => .int
  | 3 => .array .int
  | 4 => .array .int
  | 5 => .array .int
  | 6 => .array (.array .int)
  | 7 => .array .int
  | _ => .array .int
abbrev wsX60 : List Cond := u_ws RX6 TX6 9
theorem nmX6 : ∀ a, a < 9 → ∀ b, b < 9 → a ≠ b → (TX6 a).2.1 ≠ (TX6 b).2.1 := by decide +kernel
theorem tyX6_ok : ∀ k, k < 9 → parseFieldDescriptor (TX6 k).2.2.1 = some (tyX6 k) := by decide +kernel
abbrev cX6_init : ByteArray := prog_8_method_1_code
def yX6_init : MethodName := ⟨RX6, "<init>", "()V"⟩
abbrev cX6_build : ByteArray := prog_8_method_2_code
def yX6_build : MethodName := ⟨RX6, "build", "(I)V"⟩
abbrev cX6_fillFrom : ByteArray := prog_8_method_3_code
def yX6_fillFrom : MethodName := ⟨RX6, "fillFrom", "(LSwapTables$Shape;I)V"⟩
abbrev cX6_canTakeNext : ByteArray := prog_8_method_4_code
def yX6_canTakeNext : MethodName := ⟨RX6, "canTakeNext", "(I)Z"⟩
abbrev cX6_keepFilling : ByteArray := prog_8_method_5_code
def yX6_keepFilling : MethodName := ⟨RX6, "keepFilling", "()V"⟩
abbrev cX6_lengthOf : ByteArray := prog_8_method_6_code
def yX6_lengthOf : MethodName := ⟨RX6, "lengthOf", "(I)I"⟩
abbrev cX6_hasCell : ByteArray := prog_8_method_7_code
def yX6_hasCell : MethodName := ⟨RX6, "hasCell", "(II)Z"⟩
abbrev cX6_hook : ByteArray := prog_8_method_8_code
def yX6_hook : MethodName := ⟨RX6, "hook", "(II)I"⟩
abbrev cX6_hooksMultiplied : ByteArray := prog_8_method_9_code
def yX6_hooksMultiplied : MethodName := ⟨RX6, "hooksMultiplied", "()I"⟩
abbrev cX6_rowIn : ByteArray := prog_8_method_10_code
def yX6_rowIn : MethodName := ⟨RX6, "rowIn", "(II)I"⟩
abbrev cX6_columnIn : ByteArray := prog_8_method_11_code
def yX6_columnIn : MethodName := ⟨RX6, "columnIn", "(II)I"⟩
abbrev cX6_distance : ByteArray := prog_8_method_12_code
def yX6_distance : MethodName := ⟨RX6, "distance", "(II)I"⟩
abbrev cX6_changed : ByteArray := prog_8_method_13_code
def yX6_changed : MethodName := ⟨RX6, "changed", "(II)I"⟩
abbrev cX6_isTakenTo : ByteArray := prog_8_method_14_code
def yX6_isTakenTo : MethodName := ⟨RX6, "isTakenTo", "(III)Z"⟩
abbrev cX6_copyFilling : ByteArray := prog_8_method_15_code
def yX6_copyFilling : MethodName := ⟨RX6, "copyFilling", "(II[I)V"⟩
abbrev cX6_isFilling : ByteArray := prog_8_method_16_code
def yX6_isFilling : MethodName := ⟨RX6, "isFilling", "([I)Z"⟩
abbrev cX6_isToldBy : ByteArray := prog_8_method_17_code
def yX6_isToldBy : MethodName := ⟨RX6, "isToldBy", "(I[I)Z"⟩
abbrev cX6_canLose : ByteArray := prog_8_method_18_code
def yX6_canLose : MethodName := ⟨RX6, "canLose", "(I)Z"⟩
abbrev cX6_branches : ByteArray := prog_8_method_19_code
def yX6_branches : MethodName := ⟨RX6, "branches", "()I"⟩
abbrev cX6_standardWithLastIn : ByteArray := prog_8_method_20_code
def yX6_standardWithLastIn : MethodName := ⟨RX6, "standardWithLastIn", "(I)I"⟩
def RX7 : String := "SwapTables$Shelf"
def TX7 : u_T := fun k => match k with
  | 0 => ("SwapTables$Shelf", "sort", "I", false)
  | 1 => ("SwapTables$Shelf", "size", "I", false)
  | _ => ("SwapTables$Shelf", "numbers", "[I", true)
def tyX7 : Nat → FieldType := fun k => match k with
  | 0 => .int
  | 1 => .int
  | _ => .array .int
abbrev wsX70 : List Cond := u_ws RX7 TX7 3
theorem nmX7 : ∀ a, a < 3 → ∀ b, b < 3 → a ≠ b → (TX7 a).2.1 ≠ (TX7 b).2.1 := by decide +kernel
theorem tyX7_ok : ∀ k, k < 3 → parseFieldDescriptor (TX7 k).2.2.1 = some (tyX7 k) := by decide +kernel
abbrev cX7_init : ByteArray := prog_9_method_1_code
def yX7_init : MethodName := ⟨RX7, "<init>", "()V"⟩
abbrev cX7_emptyOnes : ByteArray := prog_9_method_2_code
def yX7_emptyOnes : MethodName := ⟨RX7, "emptyOnes", "()[LSwapTables$Shelf;"⟩
abbrev cX7_hold : ByteArray := prog_9_method_3_code
def yX7_hold : MethodName := ⟨RX7, "hold", "(II)V"⟩
abbrev cX7_hasPlace : ByteArray := prog_9_method_4_code
def yX7_hasPlace : MethodName := ⟨RX7, "hasPlace", "(I)Z"⟩
abbrev cX7_copyAll : ByteArray := prog_9_method_5_code
def yX7_copyAll : MethodName := ⟨RX7, "copyAll", "([LSwapTables$Shelf;[LSwapTables$Shelf;)V"⟩
def RX8 : String := "SwapTables$Steps"
def TX8 : u_T := fun k => match k with
  | 0 => ("SwapTables$Steps", "size", "I", false)
  | 1 => ("SwapTables$Steps", "registers", "[I", true)
  | _ => ("SwapTables$Steps", "orders", "[I", true)
def tyX8 : Nat → FieldType := fun k => match k with
  | 0 => .int
  | 1 => .array .int
  | _ => .array .int
abbrev wsX80 : List Cond := u_ws RX8 TX8 3
theorem nmX8 : ∀ a, a < 3 → ∀ b, b < 3 → a ≠ b → (TX8 a).2.1 ≠ (TX8 b).2.1 := by decide +kernel
theorem tyX8_ok : ∀ k, k < 3 → parseFieldDescriptor (TX8 k).2.2.1 = some (tyX8 k) := by decide +kernel
abbrev cX8_init : ByteArray := prog_10_method_1_code
def yX8_init : MethodName := ⟨RX8, "<init>", "()V"⟩
abbrev cX8_keep : ByteArray := prog_10_method_2_code
def yX8_keep : MethodName := ⟨RX8, "keep", "(II)V"⟩
abbrev cX8_latestRegister : ByteArray := prog_10_method_3_code
def yX8_latestRegister : MethodName := ⟨RX8, "latestRegister", "()I"⟩
abbrev cX8_latestOrder : ByteArray := prog_10_method_4_code
def yX8_latestOrder : MethodName := ⟨RX8, "latestOrder", "()I"⟩
def RX10 : String := "SwapTables$Troubles"
def TX10 : u_T := fun k => match k with
  | 0 => ("SwapTables$Troubles", "size", "I", false)
  | 1 => ("SwapTables$Troubles", "sorts", "[I", true)
  | _ => ("SwapTables$Troubles", "places", "[I", true)
def tyX10 : Nat → FieldType := fun k => match k with
  | 0 => .int
  | 1 => .array .int
  | _ => .array .int
abbrev wsX100 : List Cond := u_ws RX10 TX10 3
theorem nmX10 : ∀ a, a < 3 → ∀ b, b < 3 → a ≠ b → (TX10 a).2.1 ≠ (TX10 b).2.1 := by decide +kernel
theorem tyX10_ok : ∀ k, k < 3 → parseFieldDescriptor (TX10 k).2.2.1 = some (tyX10 k) := by decide +kernel
abbrev cX10_init : ByteArray := prog_11_method_1_code
def yX10_init : MethodName := ⟨RX10, "<init>", "()V"⟩
abbrev cX10_add : ByteArray := prog_11_method_2_code
def yX10_add : MethodName := ⟨RX10, "add", "(II)V"⟩
abbrev cX10_copyOf : ByteArray := prog_11_method_3_code
def yX10_copyOf : MethodName := ⟨RX10, "copyOf", "(LSwapTables$Troubles;)V"⟩
def RX11 : String := "SwapTables$WholeAxes"
def TX11 : u_T := fun k => match k with
  | 0 => ("SwapTables$WholeAxes", "shape", "LSwapTables$Shape;", true)
  | 1 => ("SwapTables$WholeAxes", "ofStandard", "[[I", true)
  | 2 => ("SwapTables$WholeAxes", "filling", "[I", true)
  | _ => ("SwapTables$WholeAxes", "made", "[I", true)
def tyX11 : Nat → FieldType := fun k => match k with
  | 0 => .object "SwapTables$Shape"
  | 1 => .array (.array .int)
  | 2 => .array .int
  | _ => .array .int
abbrev wsX110 : List Cond := u_ws RX11 TX11 4
theorem nmX11 : ∀ a, a < 4 → ∀ b, b < 4 → a ≠ b → (TX11 a).2.1 ≠ (TX11 b).2.1 := by decide +kernel
theorem tyX11_ok : ∀ k, k < 4 → parseFieldDescriptor (TX11 k).2.2.1 = some (tyX11 k) := by decide +kernel
abbrev cX11_init : ByteArray := prog_12_method_1_code
def yX11_init : MethodName := ⟨RX11, "<init>", "(LSwapTables$Shape;)V"⟩
abbrev cX11_build : ByteArray := prog_12_method_2_code
def yX11_build : MethodName := ⟨RX11, "build", "()V"⟩
abbrev cX11_numberAtTabloid : ByteArray := prog_12_method_3_code
def yX11_numberAtTabloid : MethodName := ⟨RX11, "numberAtTabloid", "(I)I"⟩
abbrev cX11_straighten : ByteArray := prog_12_method_4_code
def yX11_straighten : MethodName := ⟨RX11, "straighten", "()V"⟩
abbrev cX11_straightenTold : ByteArray := prog_12_method_5_code
def yX11_straightenTold : MethodName := ⟨RX11, "straightenTold", "([I)V"⟩
abbrev cX11_straightenTaken : ByteArray := prog_12_method_6_code
def yX11_straightenTaken : MethodName := ⟨RX11, "straightenTaken", "(II)V"⟩
abbrev cX11_trace : ByteArray := prog_12_method_7_code
def yX11_trace : MethodName := ⟨RX11, "trace", "(I)I"⟩
abbrev cX11_act : ByteArray := prog_12_method_8_code
def yX11_act : MethodName := ⟨RX11, "act", "([II[I)V"⟩
def RX12 : String := "SwapTables"
def TX12 : u_T := fun k => match k with
  | 0 => ("SwapTables", "shape", "LSwapTables$Shape;", true)
  | 1 => ("SwapTables", "wholeAxes", "LSwapTables$WholeAxes;", true)
  | 2 => ("SwapTables", "seminormalAxes", "LSwapTables$SeminormalAxes;", true)
  | 3 => ("SwapTables", "registers", "[I", true)
  | 4 => ("SwapTables", "shelves", "[LSwapTables$Shelf;", true)
  | 5 => ("SwapTables", "steps", "LSwapTables$Steps;", true)
  | 6 => ("SwapTables", "tape", "[B", true)
  | 7 => ("SwapTables", "bytesOnTape", "I", false)
  | 8 => ("SwapTables", "reader", "LSwapTables$Reader;", true)
  | 9 => ("SwapTables", "taken", "LSwapTables$Image;", true)
  | _ => ("SwapTables", "sums", "[I", true)
def tyX12 : Nat → FieldType := fun k => match k with
  | 0 => .object "SwapTables$Shape"
  | 1 => .object "SwapTables$WholeAxes"
  | 2 => .object "SwapTables$SeminormalAxes"
  | 3 => .array .int
  | 4 => .array (.object "SwapTables$Shelf")
  | 5 => .object "SwapTables$Steps"
  | 6 => .array .byte
  | 7 => .int
  | 8 => .object "SwapTables$Reader"
  | 9 => .object "SwapTables$Image"
  | _ => .array .int
abbrev wsX120 : List Cond := u_ws RX12 TX12 11
theorem nmX12 : ∀ a, a < 11 → ∀ b, b < 11 → a ≠ b → (TX12 a).2.1 ≠ (TX12 b).2.1 := by decide +kernel
theorem tyX12_ok : ∀ k, k < 11 → parseFieldDescriptor (TX12 k).2.2.1 = some (tyX12 k) := by decide +kernel
abbrev cX12_init : ByteArray := prog_1_method_1_code
def yX12_init : MethodName := ⟨RX12, "<init>", "()V"⟩
abbrev cX12_shape : ByteArray := prog_1_method_2_code
def yX12_shape : MethodName := ⟨RX12, "shape", "(IIIII)I"⟩
abbrev cX12_of : ByteArray := prog_1_method_3_code
def yX12_of : MethodName := ⟨RX12, "of", "(I)I"⟩
abbrev cX12_cell : ByteArray := prog_1_method_4_code
def yX12_cell : MethodName := ⟨RX12, "cell", "(III)J"⟩
abbrev cX12_standard : ByteArray := prog_1_method_5_code
def yX12_standard : MethodName := ⟨RX12, "standard", "(III)I"⟩
abbrev cX12_which : ByteArray := prog_1_method_6_code
def yX12_which : MethodName := ⟨RX12, "which", "(I)I"⟩
abbrev cX12_swap : ByteArray := prog_1_method_7_code
def yX12_swap : MethodName := ⟨RX12, "swap", "(II)I"⟩
abbrev cX12_times : ByteArray := prog_1_method_8_code
def yX12_times : MethodName := ⟨RX12, "times", "(III)I"⟩
abbrev cX12_turn : ByteArray := prog_1_method_9_code
def yX12_turn : MethodName := ⟨RX12, "turn", "(I)I"⟩
abbrev cX12_takes : ByteArray := prog_1_method_10_code
def yX12_takes : MethodName := ⟨RX12, "takes", "(II)I"⟩
abbrev cX12_told : ByteArray := prog_1_method_11_code
def yX12_told : MethodName := ⟨RX12, "told", "(II)J"⟩
abbrev cX12_word : ByteArray := prog_1_method_12_code
def yX12_word : MethodName := ⟨RX12, "word", "(II)I"⟩
abbrev cX12_partition : ByteArray := prog_1_method_13_code
def yX12_partition : MethodName := ⟨RX12, "partition", "(II)I"⟩
abbrev cX12_straight : ByteArray := prog_1_method_14_code
def yX12_straight : MethodName := ⟨RX12, "straight", "(II)J"⟩
abbrev cX12_whole : ByteArray := prog_1_method_15_code
def yX12_whole : MethodName := ⟨RX12, "whole", "(III)J"⟩
abbrev cX12_fraction : ByteArray := prog_1_method_16_code
def yX12_fraction : MethodName := ⟨RX12, "fraction", "(IIII)J"⟩
abbrev cX12_norm : ByteArray := prog_1_method_17_code
def yX12_norm : MethodName := ⟨RX12, "norm", "(II)J"⟩
abbrev cX12_character : ByteArray := prog_1_method_18_code
def yX12_character : MethodName := ⟨RX12, "character", "(I)J"⟩
abbrev cX12_characterOf : ByteArray := prog_1_method_19_code
def yX12_characterOf : MethodName := ⟨RX12, "characterOf", "(I)J"⟩
abbrev cX12_branch : ByteArray := prog_1_method_20_code
def yX12_branch : MethodName := ⟨RX12, "branch", "(I)I"⟩
abbrev cX12_vector : ByteArray := prog_1_method_21_code
def yX12_vector : MethodName := ⟨RX12, "vector", "(II)I"⟩
abbrev cX12_give : ByteArray := prog_1_method_22_code
def yX12_give : MethodName := ⟨RX12, "give", "(III)J"⟩
abbrev cX12_has : ByteArray := prog_1_method_23_code
def yX12_has : MethodName := ⟨RX12, "has", "(II)J"⟩
abbrev cX12_acts : ByteArray := prog_1_method_24_code
def yX12_acts : MethodName := ⟨RX12, "acts", "(II)I"⟩
abbrev cX12_inner : ByteArray := prog_1_method_25_code
def yX12_inner : MethodName := ⟨RX12, "inner", "(III)J"⟩
abbrev cX12_row : ByteArray := prog_1_method_26_code
def yX12_row : MethodName := ⟨RX12, "row", "(II)I"⟩
abbrev cX12_put : ByteArray := prog_1_method_27_code
def yX12_put : MethodName := ⟨RX12, "put", "(III)I"⟩
abbrev cX12_get : ByteArray := prog_1_method_28_code
def yX12_get : MethodName := ⟨RX12, "get", "(II)J"⟩
abbrev cX12_film : ByteArray := prog_1_method_29_code
def yX12_film : MethodName := ⟨RX12, "film", "(II)I"⟩
abbrev cX12_judge : ByteArray := prog_1_method_30_code
def yX12_judge : MethodName := ⟨RX12, "judge", "(I)I"⟩
abbrev cX12_back : ByteArray := prog_1_method_31_code
def yX12_back : MethodName := ⟨RX12, "back", "()I"⟩
abbrev cX12_feed : ByteArray := prog_1_method_32_code
def yX12_feed : MethodName := ⟨RX12, "feed", "(I)I"⟩
abbrev cX12_wipe : ByteArray := prog_1_method_33_code
def yX12_wipe : MethodName := ⟨RX12, "wipe", "()I"⟩
abbrev cX12_read : ByteArray := prog_1_method_34_code
def yX12_read : MethodName := ⟨RX12, "read", "(I)I"⟩
abbrev cX12_why : ByteArray := prog_1_method_35_code
def yX12_why : MethodName := ⟨RX12, "why", "(II)I"⟩
abbrev cX12_image : ByteArray := prog_1_method_36_code
def yX12_image : MethodName := ⟨RX12, "image", "()I"⟩
abbrev cX12_restore : ByteArray := prog_1_method_37_code
def yX12_restore : MethodName := ⟨RX12, "restore", "()I"⟩
abbrev cX12_count : ByteArray := prog_1_method_38_code
def yX12_count : MethodName := ⟨RX12, "count", "(I)I"⟩
abbrev cX12_become : ByteArray := prog_1_method_39_code
def yX12_become : MethodName := ⟨RX12, "become", "(I)V"⟩
abbrev cX12_makeOtherwise : ByteArray := prog_1_method_40_code
def yX12_makeOtherwise : MethodName := ⟨RX12, "makeOtherwise", "(II)I"⟩
abbrev cX12_shelvesInUse : ByteArray := prog_1_method_41_code
def yX12_shelvesInUse : MethodName := ⟨RX12, "shelvesInUse", "()I"⟩
abbrev cX12_lengthsTogether : ByteArray := prog_1_method_42_code
def yX12_lengthsTogether : MethodName := ⟨RX12, "lengthsTogether", "()I"⟩
abbrev cX12_refusalOf : ByteArray := prog_1_method_43_code
def yX12_refusalOf : MethodName := ⟨RX12, "refusalOf", "(II)I"⟩
abbrev cX12_isInVector : ByteArray := prog_1_method_44_code
def yX12_isInVector : MethodName := ⟨RX12, "isInVector", "(II)Z"⟩
abbrev cX12_isStandard : ByteArray := prog_1_method_45_code
def yX12_isStandard : MethodName := ⟨RX12, "isStandard", "(I)Z"⟩
abbrev cX12_isNumber : ByteArray := prog_1_method_46_code
def yX12_isNumber : MethodName := ⟨RX12, "isNumber", "(I)Z"⟩
abbrev cX12_isSwap : ByteArray := prog_1_method_47_code
def yX12_isSwap : MethodName := ⟨RX12, "isSwap", "(I)Z"⟩
abbrev cX12_isPartition : ByteArray := prog_1_method_48_code
def yX12_isPartition : MethodName := ⟨RX12, "isPartition", "(I)Z"⟩
abbrev cX12_isRegister : ByteArray := prog_1_method_49_code
def yX12_isRegister : MethodName := ⟨RX12, "isRegister", "(I)Z"⟩
abbrev cX12_isShelf : ByteArray := prog_1_method_50_code
def yX12_isShelf : MethodName := ⟨RX12, "isShelf", "(I)Z"⟩
abbrev cX12_isPart : ByteArray := prog_1_method_51_code
def yX12_isPart : MethodName := ⟨RX12, "isPart", "(I)Z"⟩
abbrev cX12_isBeyond : ByteArray := prog_1_method_52_code
def yX12_isBeyond : MethodName := ⟨RX12, "isBeyond", "(I)Z"⟩
def RX13 : String := "SwapTablesModel"
def TX13 : u_T := fun k => match k with
  | 0 => ("SwapTablesModel", "lengths", "[I", true)
  | 1 => ("SwapTablesModel", "n", "I", false)
  | 2 => ("SwapTablesModel", "cellRow", "[I", true)
  | 3 => ("SwapTablesModel", "cellColumn", "[I", true)
  | 4 => ("SwapTablesModel", "many", "I", false)
  | 5 => ("SwapTablesModel", "standRow", "[I", true)
  | 6 => ("SwapTablesModel", "standColumn", "[I", true)
  | 7 => ("SwapTablesModel", "orders", "[I", true)
  | 8 => ("SwapTablesModel", "shelfIs", "[I", true)
  | 9 => ("SwapTablesModel", "sizes", "[I", true)
  | 10 => ("SwapTablesModel", "items", "[I", true)
  | 11 => ("SwapTablesModel", "filled", "[I", true)
  | 12 => ("SwapTablesModel", "parts", "[I", true)
  | 13 => ("SwapTablesModel", "partRow", "[I", true)
  | 14 => ("SwapTablesModel", "partMany", "I", false)
  | 15 => ("SwapTablesModel", "one", "[I", true)
  | 16 => ("SwapTablesModel", "made", "[I", true)
  | 17 => ("SwapTablesModel", "steps", "I", false)
  | 18 => ("SwapTablesModel", "stepRow", "[I", true)
  | 19 => ("SwapTablesModel", "isSeen", "[Z", true)
  | 20 => ("SwapTablesModel", "sorted", "[I", true)
  | 21 => ("SwapTablesModel", "word", "[I", true)
  | 22 => ("SwapTablesModel", "wordMany", "I", false)
  | 23 => ("SwapTablesModel", "left", "[I", true)
  | 24 => ("SwapTablesModel", "numbers", "[I", true)
  | 25 => ("SwapTablesModel", "fillRow", "[I", true)
  | 26 => ("SwapTablesModel", "fillColumn", "[I", true)
  | 27 => ("SwapTablesModel", "tried", "[I", true)
  | 28 => ("SwapTablesModel", "often", "I", false)
  | 29 => ("SwapTablesModel", "straight", "[I", true)
  | 30 => ("SwapTablesModel", "isDone", "[Z", true)
  | 31 => ("SwapTablesModel", "above", "[J", true)
  | 32 => ("SwapTablesModel", "below", "[J", true)
  | 33 => ("SwapTablesModel", "nextAbove", "[J", true)
  | 34 => ("SwapTablesModel", "nextBelow", "[J", true)
  | 35 => ("SwapTablesModel", "a0", "J", false)
  | 36 => ("SwapTablesModel", "b0", "J", false)
  | 37 => ("SwapTablesModel", "normAbove", "[J", true)
  | 38 => ("SwapTablesModel", "normBelow", "[J", true)
  | 39 => ("SwapTablesModel", "sums", "[J", true)
  | 40 => ("SwapTablesModel", "tape", "[I", true)
  | 41 => ("SwapTablesModel", "taped", "I", false)
  | 42 => ("SwapTablesModel", "at", "I", false)
  | 43 => ("SwapTablesModel", "openSort", "[I", true)
  | 44 => ("SwapTablesModel", "openPlace", "[I", true)
  | 45 => ("SwapTablesModel", "openMany", "I", false)
  | 46 => ("SwapTablesModel", "brackets", "I", false)
  | 47 => ("SwapTablesModel", "whySort", "[I", true)
  | 48 => ("SwapTablesModel", "whyPlace", "[I", true)
  | 49 => ("SwapTablesModel", "whyMany", "I", false)
  | 50 => ("SwapTablesModel", "works", "Z", false)
  | 51 => ("SwapTablesModel", "waiting", "[I", true)
  | 52 => ("SwapTablesModel", "part", "[I", true)
  | 53 => ("SwapTablesModel", "hasImage", "Z", false)
  | 54 => ("SwapTablesModel", "imageLengths", "[I", true)
  | 55 => ("SwapTablesModel", "imageOrders", "[I", true)
  | 56 => ("SwapTablesModel", "imageIs", "[I", true)
  | 57 => ("SwapTablesModel", "imageSizes", "[I", true)
  | _ => ("SwapTablesModel", "imageItems", "[I", true)
def tyX13 : Nat → FieldType := fun k => match k with
  | 0 => .array .int
  | 1 => .int
  | 2 => .array .int
  | 3 => .array .int
  | 4 => .int
  | 5 => .array .int
  | 6 => .array .int
  | 7 => .array .int
  | 8 => .array .int
  | 9 => .array .int
  | 10 => .array .int
  | 11 => .array .int
  | 12 => .array .int
  | 13 => .array .int
  | 14 => .int
  | 15 => .array .int
  | 16 => .array .int
  | 17 => .int
  | 18 => .array .int
  | 19 => .array .boolean
  | 20 => .array .int
  | 21 => .array .int
  | 22 => .int
  | 23 => .array .int
  | 24 => .array .int
  | 25 => .array .int
  | 26 => .array .int
  | 27 => .array .int
  | 28 => .int
  | 29 => .array .int
  | 30 => .array .boolean
  | 31 => .array .long
  | 32 => .array .long
  | 33 => .array .long
  | 34 => .array .long
  | 35 => .long
  | 36 => .long
  | 37 => .array .long
  | 38 => .array .long
  | 39 => .array .long
  | 40 => .array .int
  | 41 => .int
  | 42 => .int
  | 43 => .array .int
  | 44 => .array .int
  | 45 => .int
  | 46 => .int
  | 47 => .array .int
  | 48 => .array .int
  | 49 => .int
  | 50 => .boolean
  | 51 => .array .int
  | 52 => .array .int
  | 53 => .boolean
  | 54 => .array .int
  | 55 => .array .int
  | 56 => .array .int
  | 57 => .array .int
  | _ => .array .int
abbrev wsX130 : List Cond := u_ws RX13 TX13 59
theorem nmX13 : ∀ a, a < 59 → ∀ b, b < 59 → a ≠ b → (TX13 a).2.1 ≠ (TX13 b).2.1 := by decide +kernel
theorem tyX13_ok : ∀ k, k < 59 → parseFieldDescriptor (TX13 k).2.2.1 = some (tyX13 k) := by decide +kernel
abbrev cX13_init : ByteArray := prog_14_method_1_code
def yX13_init : MethodName := ⟨RX13, "<init>", "()V"⟩
abbrev cX13_in : ByteArray := prog_14_method_2_code
def yX13_in : MethodName := ⟨RX13, "in", "(JJJ)Z"⟩
abbrev cX13_stands : ByteArray := prog_14_method_3_code
def yX13_stands : MethodName := ⟨RX13, "stands", "(I)V"⟩
abbrev cX13_tellsShape : ByteArray := prog_14_method_4_code
def yX13_tellsShape : MethodName := ⟨RX13, "tellsShape", "()V"⟩
abbrev cX13_begins : ByteArray := prog_14_method_5_code
def yX13_begins : MethodName := ⟨RX13, "begins", "([II)V"⟩
abbrev cX13_shape : ByteArray := prog_14_method_6_code
def yX13_shape : MethodName := ⟨RX13, "shape", "(IIIII)I"⟩
abbrev cX13_hookOf : ByteArray := prog_14_method_7_code
def yX13_hookOf : MethodName := ⟨RX13, "hookOf", "(II)I"⟩
abbrev cX13_rows : ByteArray := prog_14_method_8_code
def yX13_rows : MethodName := ⟨RX13, "rows", "()I"⟩
abbrev cX13_of : ByteArray := prog_14_method_9_code
def yX13_of : MethodName := ⟨RX13, "of", "(I)I"⟩
abbrev cX13_cell : ByteArray := prog_14_method_10_code
def yX13_cell : MethodName := ⟨RX13, "cell", "(III)J"⟩
abbrev cX13_isStandard : ByteArray := prog_14_method_11_code
def yX13_isStandard : MethodName := ⟨RX13, "isStandard", "(I)Z"⟩
abbrev cX13_standard : ByteArray := prog_14_method_12_code
def yX13_standard : MethodName := ⟨RX13, "standard", "(III)I"⟩
abbrev cX13_splits : ByteArray := prog_14_method_13_code
def yX13_splits : MethodName := ⟨RX13, "splits", "(III)V"⟩
abbrev cX13_tellsPartitions : ByteArray := prog_14_method_14_code
def yX13_tellsPartitions : MethodName := ⟨RX13, "tellsPartitions", "()V"⟩
abbrev cX13_partitionOf : ByteArray := prog_14_method_15_code
def yX13_partitionOf : MethodName := ⟨RX13, "partitionOf", "([I)I"⟩
abbrev cX13_partition : ByteArray := prog_14_method_16_code
def yX13_partition : MethodName := ⟨RX13, "partition", "(II)I"⟩
abbrev cX13_isRegister : ByteArray := prog_14_method_17_code
def yX13_isRegister : MethodName := ⟨RX13, "isRegister", "(I)Z"⟩
abbrev cX13_takesOut : ByteArray := prog_14_method_18_code
def yX13_takesOut : MethodName := ⟨RX13, "takesOut", "(I)V"⟩
abbrev cX13_lengthOf : ByteArray := prog_14_method_19_code
def yX13_lengthOf : MethodName := ⟨RX13, "lengthOf", "([I)I"⟩
abbrev cX13_isSwap : ByteArray := prog_14_method_20_code
def yX13_isSwap : MethodName := ⟨RX13, "isSwap", "(I)Z"⟩
abbrev cX13_changes : ByteArray := prog_14_method_21_code
def yX13_changes : MethodName := ⟨RX13, "changes", "([III)V"⟩
abbrev cX13_becomes : ByteArray := prog_14_method_22_code
def yX13_becomes : MethodName := ⟨RX13, "becomes", "(I)I"⟩
abbrev cX13_swap : ByteArray := prog_14_method_23_code
def yX13_swap : MethodName := ⟨RX13, "swap", "(II)I"⟩
abbrev cX13_times : ByteArray := prog_14_method_24_code
def yX13_times : MethodName := ⟨RX13, "times", "(III)I"⟩
abbrev cX13_turn : ByteArray := prog_14_method_25_code
def yX13_turn : MethodName := ⟨RX13, "turn", "(I)I"⟩
abbrev cX13_back : ByteArray := prog_14_method_26_code
def yX13_back : MethodName := ⟨RX13, "back", "()I"⟩
abbrev cX13_takes : ByteArray := prog_14_method_27_code
def yX13_takes : MethodName := ⟨RX13, "takes", "(II)I"⟩
abbrev cX13_typeOf : ByteArray := prog_14_method_28_code
def yX13_typeOf : MethodName := ⟨RX13, "typeOf", "([I)I"⟩
abbrev cX13_told : ByteArray := prog_14_method_29_code
def yX13_told : MethodName := ⟨RX13, "told", "(II)J"⟩
abbrev cX13_placeOf : ByteArray := prog_14_method_30_code
def yX13_placeOf : MethodName := ⟨RX13, "placeOf", "([II)I"⟩
abbrev cX13_tellsWord : ByteArray := prog_14_method_31_code
def yX13_tellsWord : MethodName := ⟨RX13, "tellsWord", "([I)V"⟩
abbrev cX13_word : ByteArray := prog_14_method_32_code
def yX13_word : MethodName := ⟨RX13, "word", "(II)I"⟩
abbrev cX13_codeOf : ByteArray := prog_14_method_33_code
def yX13_codeOf : MethodName := ⟨RX13, "codeOf", "()I"⟩
abbrev cX13_adds : ByteArray := prog_14_method_34_code
def yX13_adds : MethodName := ⟨RX13, "adds", "(I)V"⟩
abbrev cX13_tellsStandard : ByteArray := prog_14_method_35_code
def yX13_tellsStandard : MethodName := ⟨RX13, "tellsStandard", "(I)V"⟩
abbrev cX13_isHigher : ByteArray := prog_14_method_36_code
def yX13_isHigher : MethodName := ⟨RX13, "isHigher", "(II)Z"⟩
abbrev cX13_standCode : ByteArray := prog_14_method_37_code
def yX13_standCode : MethodName := ⟨RX13, "standCode", "(I)I"⟩
abbrev cX13_straightens : ByteArray := prog_14_method_38_code
def yX13_straightens : MethodName := ⟨RX13, "straightens", "()V"⟩
abbrev cX13_tellsWhole : ByteArray := prog_14_method_39_code
def yX13_tellsWhole : MethodName := ⟨RX13, "tellsWhole", "([II)V"⟩
abbrev cX13_isShelf : ByteArray := prog_14_method_40_code
def yX13_isShelf : MethodName := ⟨RX13, "isShelf", "(I)Z"⟩
abbrev cX13_isFilling : ByteArray := prog_14_method_41_code
def yX13_isFilling : MethodName := ⟨RX13, "isFilling", "(I)Z"⟩
abbrev cX13_which : ByteArray := prog_14_method_42_code
def yX13_which : MethodName := ⟨RX13, "which", "(I)I"⟩
abbrev cX13_straight : ByteArray := prog_14_method_43_code
def yX13_straight : MethodName := ⟨RX13, "straight", "(II)J"⟩
abbrev cX13_whole : ByteArray := prog_14_method_44_code
def yX13_whole : MethodName := ⟨RX13, "whole", "(III)J"⟩
abbrev cX13_trace : ByteArray := prog_14_method_45_code
def yX13_trace : MethodName := ⟨RX13, "trace", "([I)J"⟩
abbrev cX13_character : ByteArray := prog_14_method_46_code
def yX13_character : MethodName := ⟨RX13, "character", "(I)J"⟩
abbrev cX13_characterOf : ByteArray := prog_14_method_47_code
def yX13_characterOf : MethodName := ⟨RX13, "characterOf", "(I)J"⟩
abbrev cX13_common : ByteArray := prog_14_method_48_code
def yX13_common : MethodName := ⟨RX13, "common", "(JJ)J"⟩
abbrev cX13_lowers : ByteArray := prog_14_method_49_code
def yX13_lowers : MethodName := ⟨RX13, "lowers", "()V"⟩
abbrev cX13_addsTo : ByteArray := prog_14_method_50_code
def yX13_addsTo : MethodName := ⟨RX13, "addsTo", "(JJ)V"⟩
abbrev cX13_contentOf : ByteArray := prog_14_method_51_code
def yX13_contentOf : MethodName := ⟨RX13, "contentOf", "(II)I"⟩
abbrev cX13_changed : ByteArray := prog_14_method_52_code
def yX13_changed : MethodName := ⟨RX13, "changed", "(II)I"⟩
abbrev cX13_tellsSwap : ByteArray := prog_14_method_53_code
def yX13_tellsSwap : MethodName := ⟨RX13, "tellsSwap", "(III)V"⟩
abbrev cX13_tellsFractions : ByteArray := prog_14_method_54_code
def yX13_tellsFractions : MethodName := ⟨RX13, "tellsFractions", "([I)V"⟩
abbrev cX13_sums : ByteArray := prog_14_method_55_code
def yX13_sums : MethodName := ⟨RX13, "sums", "(III)V"⟩
abbrev cX13_isPart : ByteArray := prog_14_method_56_code
def yX13_isPart : MethodName := ⟨RX13, "isPart", "(I)Z"⟩
abbrev cX13_fraction : ByteArray := prog_14_method_57_code
def yX13_fraction : MethodName := ⟨RX13, "fraction", "(IIII)J"⟩
abbrev cX13_tellsNorms : ByteArray := prog_14_method_58_code
def yX13_tellsNorms : MethodName := ⟨RX13, "tellsNorms", "()V"⟩
abbrev cX13_norm : ByteArray := prog_14_method_59_code
def yX13_norm : MethodName := ⟨RX13, "norm", "(II)J"⟩
abbrev cX13_canLose : ByteArray := prog_14_method_60_code
def yX13_canLose : MethodName := ⟨RX13, "canLose", "(I)Z"⟩
abbrev cX13_branch : ByteArray := prog_14_method_61_code
def yX13_branch : MethodName := ⟨RX13, "branch", "(I)I"⟩
abbrev cX13_vector : ByteArray := prog_14_method_62_code
def yX13_vector : MethodName := ⟨RX13, "vector", "(II)I"⟩
abbrev cX13_isNumber : ByteArray := prog_14_method_63_code
def yX13_isNumber : MethodName := ⟨RX13, "isNumber", "(II)Z"⟩
abbrev cX13_give : ByteArray := prog_14_method_64_code
def yX13_give : MethodName := ⟨RX13, "give", "(III)J"⟩
abbrev cX13_has : ByteArray := prog_14_method_65_code
def yX13_has : MethodName := ⟨RX13, "has", "(II)J"⟩
abbrev cX13_acts : ByteArray := prog_14_method_66_code
def yX13_acts : MethodName := ⟨RX13, "acts", "(II)I"⟩
abbrev cX13_inner : ByteArray := prog_14_method_67_code
def yX13_inner : MethodName := ⟨RX13, "inner", "(III)J"⟩
abbrev cX13_row : ByteArray := prog_14_method_68_code
def yX13_row : MethodName := ⟨RX13, "row", "(II)I"⟩
abbrev cX13_put : ByteArray := prog_14_method_69_code
def yX13_put : MethodName := ⟨RX13, "put", "(III)I"⟩
abbrev cX13_get : ByteArray := prog_14_method_70_code
def yX13_get : MethodName := ⟨RX13, "get", "(II)J"⟩
abbrev cX13_film : ByteArray := prog_14_method_71_code
def yX13_film : MethodName := ⟨RX13, "film", "(II)I"⟩
abbrev cX13_judge : ByteArray := prog_14_method_72_code
def yX13_judge : MethodName := ⟨RX13, "judge", "(I)I"⟩
abbrev cX13_feed : ByteArray := prog_14_method_73_code
def yX13_feed : MethodName := ⟨RX13, "feed", "(I)I"⟩
abbrev cX13_wipe : ByteArray := prog_14_method_74_code
def yX13_wipe : MethodName := ⟨RX13, "wipe", "()I"⟩
abbrev cX13_here : ByteArray := prog_14_method_75_code
def yX13_here : MethodName := ⟨RX13, "here", "()I"⟩
abbrev cX13_opens : ByteArray := prog_14_method_76_code
def yX13_opens : MethodName := ⟨RX13, "opens", "(II)V"⟩
abbrev cX13_fails : ByteArray := prog_14_method_77_code
def yX13_fails : MethodName := ⟨RX13, "fails", "(II)Z"⟩
abbrev cX13_isFigure : ByteArray := prog_14_method_78_code
def yX13_isFigure : MethodName := ⟨RX13, "isFigure", "()Z"⟩
abbrev cX13_readsCycle : ByteArray := prog_14_method_79_code
def yX13_readsCycle : MethodName := ⟨RX13, "readsCycle", "()Z"⟩
abbrev cX13_readsPart : ByteArray := prog_14_method_80_code
def yX13_readsPart : MethodName := ⟨RX13, "readsPart", "(I)Z"⟩
abbrev cX13_turnsPart : ByteArray := prog_14_method_81_code
def yX13_turnsPart : MethodName := ⟨RX13, "turnsPart", "()V"⟩
abbrev cX13_readsText : ByteArray := prog_14_method_82_code
def yX13_readsText : MethodName := ⟨RX13, "readsText", "(I)Z"⟩
abbrev cX13_readsAll : ByteArray := prog_14_method_83_code
def yX13_readsAll : MethodName := ⟨RX13, "readsAll", "(Z)Z"⟩
abbrev cX13_read : ByteArray := prog_14_method_84_code
def yX13_read : MethodName := ⟨RX13, "read", "(I)I"⟩
abbrev cX13_why : ByteArray := prog_14_method_85_code
def yX13_why : MethodName := ⟨RX13, "why", "(II)I"⟩
abbrev cX13_lays : ByteArray := prog_14_method_86_code
def yX13_lays : MethodName := ⟨RX13, "lays", "([I[I)V"⟩
abbrev cX13_image : ByteArray := prog_14_method_87_code
def yX13_image : MethodName := ⟨RX13, "image", "()I"⟩
abbrev cX13_restore : ByteArray := prog_14_method_88_code
def yX13_restore : MethodName := ⟨RX13, "restore", "()I"⟩
abbrev cX13_held : ByteArray := prog_14_method_89_code
def yX13_held : MethodName := ⟨RX13, "held", "()I"⟩
abbrev cX13_lengthsAll : ByteArray := prog_14_method_90_code
def yX13_lengthsAll : MethodName := ⟨RX13, "lengthsAll", "()I"⟩
abbrev cX13_count : ByteArray := prog_14_method_91_code
def yX13_count : MethodName := ⟨RX13, "count", "(I)I"⟩
def RJ6 : String := "java/lang/Integer"
abbrev cJ6_bitCount_0f7a4 : ByteArray := prog_15_method_49_code
def yJ6_bitCount_0f7a4 : MethodName := ⟨RJ6, "bitCount", "(I)I"⟩
abbrev cJ6_signum_0f7a4 : ByteArray := prog_15_method_56_code
def yJ6_signum_0f7a4 : MethodName := ⟨RJ6, "signum", "(I)I"⟩
def RJ13 : String := "java/lang/Long"
abbrev cJ13_signum_95d88 : ByteArray := prog_16_method_57_code
def yJ13_signum_95d88 : MethodName := ⟨RJ13, "signum", "(J)I"⟩
def RJ9 : String := "java/lang/Math"
abbrev cJ9_abs_067f4 : ByteArray := prog_17_method_61_code
def yJ9_abs_067f4 : MethodName := ⟨RJ9, "abs", "(J)J"⟩
def RJ10 : String := "java/lang/System"
def RL : String := "SwapTablesLaw"
abbrev cL_law : ByteArray := code
def yL_law : MethodName := ⟨RL, "law", "([I)Z"⟩
abbrev vwCl : List vw_C := [(RX0, TX0, 2), (RX1, TX1, 3), (RX4, TX4, 12), (RX5, TX5, 4), (RX6, TX6, 9), (RX7, TX7, 3), (RX8, TX8, 3), (RX8, TX8, 3), (RX10, TX10, 3), (RX11, TX11, 4), (RX12, TX12, 11), (RX13, TX13, 59)]
