/-! 08: the executor's steps are the machine's (by wip/whole/mk09.py) -/
/-- the memory lies on the heap -/
def sLv (D : va_G) (cy : Nat → ClassId) (A : Nat → Prop) (r : sE) (al : Nat → Nat) (hid : Nat → va_E) (rest : va_W) (H0 : Heap) (mem : sM) (H : Heap) (locs : List Loc) : Prop := va_P D vwCl (sW r al cy hid rest mem) H ∧ va_D A (sW r al cy hid rest mem) ∧ va_S A H0 H locs
def sGoOk (Wf : Heap → List Loc → JFrame → Prop) (Lv : sM → Heap → List Loc → Prop) (m : MethodId) (r : sE) (al : Nat → Nat) (nL : Nat) (go : sGo) : Prop := ∀ (pc : Nat) (L : sL) (st : List sV) (pa : List sK) (mem : sM) (H : Heap) (locs : List Loc) (ls : Array Slot), go pc L st pa mem = true → sPa r pa → Lv mem H locs → sLo r al ls nL L → Wf H locs (F0 m pc ls (st.map (sVal r al)))
def sStepOk (Wf : Heap → List Loc → JFrame → Prop) (Lv : sM → Heap → List Loc → Prop) (m : MethodId) (r : sE) (al : Nat → Nat) (nL pc nx : Nat) (h : sFun) : Prop := ∀ go : sGo, sGoOk Wf Lv m r al nL go → ∀ (L : sL) (st : List sV) (pa : List sK) (mem : sM) (H : Heap) (locs : List Loc) (ls : Array Slot), h nx L st pa mem go = true → sPa r pa → Lv mem H locs → sLo r al ls nL L → Wf H locs (F0 m pc ls (st.map (sVal r al)))
section SO
variable {p : Program} {l : Launch} {e : Env} {R : Room} {s : State} {m : MethodId} {args : Array Value} {below : List Frame} {meth : Method} {c : Code} {cells slots : Nat} {Q : State → Prop}
variable {cc : ByteArray} {pc nx nL : Nat} {D : va_G} {cy : Nat → ClassId} {A : Nat → Prop} {r : sE} {al : Nat → Nat} {hid : Nat → va_E} {rest : va_W}

theorem so_iconst (hx : p.tables.exec = Jvm.exec) (hb : c.code = cc) {n : Int} {v : Nat} (hd : decode cc pc = .ok (.iconst n, 1)) (hn : nx = pc + 1) (hv0 : Int32.ofInt n = Int32.ofNat v) : sStepOk (fun H locs g => W p l e R s m args below meth c H locs cells slots Q g) (sLv D cy A r al hid rest s.heap) m r al nL pc nx (oLdc v) := by
  intro go hgo L st pa mem H locs ls h hp hv hl
  subst hn
  have k := hgo _ _ _ _ _ _ _ _ h hp hv hl
  simp only [List.map_cons, sVal, sI, sD_c] at k
  exact lv_iconst hx hb hd hv0 k

theorem so_bipush (hx : p.tables.exec = Jvm.exec) (hb : c.code = cc) {n : Int} {v : Nat} (hd : decode cc pc = .ok (.bipush n, 2)) (hn : nx = pc + 2) (hv0 : (Int8.ofInt n).toInt32 = Int32.ofNat v) : sStepOk (fun H locs g => W p l e R s m args below meth c H locs cells slots Q g) (sLv D cy A r al hid rest s.heap) m r al nL pc nx (oLdc v) := by
  intro go hgo L st pa mem H locs ls h hp hv hl
  subst hn
  have k := hgo _ _ _ _ _ _ _ _ h hp hv hl
  simp only [List.map_cons, sVal, sI, sD_c] at k
  exact lv_bipush hx hb hd hv0 k

theorem so_sipush (hx : p.tables.exec = Jvm.exec) (hb : c.code = cc) {n : Int} {v : Nat} (hd : decode cc pc = .ok (.sipush n, 3)) (hn : nx = pc + 3) (hv0 : (Int16.ofInt n).toInt32 = Int32.ofNat v) : sStepOk (fun H locs g => W p l e R s m args below meth c H locs cells slots Q g) (sLv D cy A r al hid rest s.heap) m r al nL pc nx (oLdc v) := by
  intro go hgo L st pa mem H locs ls h hp hv hl
  subst hn
  have k := hgo _ _ _ _ _ _ _ _ h hp hv hl
  simp only [List.map_cons, sVal, sI, sD_c] at k
  exact lv_sipush hx hb hd hv0 k

theorem so_lconst (hx : p.tables.exec = Jvm.exec) (hb : c.code = cc) {n : Fin 2} {v : Nat} (hd : decode cc pc = .ok (.lconst n, 1)) (hn : nx = pc + 1) (hv0 : Int64.ofNat (n : Nat) = Int64.ofNat v) : sStepOk (fun H locs g => W p l e R s m args below meth c H locs cells slots Q g) (sLv D cy A r al hid rest s.heap) m r al nL pc nx (oLdc2 v) := by
  intro go hgo L st pa mem H locs ls h hp hv hl
  subst hn
  have k := hgo _ _ _ _ _ _ _ _ h hp hv hl
  simp only [List.map_cons, sVal, sJ, sD_c] at k
  exact lv_lconst hx hb hd hv0 k

theorem so_ldc (hx : p.tables.exec = Jvm.exec) (hb : c.code = cc) {own : String} {i v : Nat} (hown : s.vm.findClass own = some m.cls) (hd : decode cc pc = .ok (.ldc i, 2)) (hn : nx = pc + 2) (hc : (Jvm.Cond.constant own i (Int32.ofNat v)).before args s = true) : sStepOk (fun H locs g => W p l e R s m args below meth c H locs cells slots Q g) (sLv D cy A r al hid rest s.heap) m r al nL pc nx (oLdc v) := by
  intro go hgo L st pa mem H locs ls h hp hv hl
  subst hn
  have k := hgo _ _ _ _ _ _ _ _ h hp hv hl
  simp only [List.map_cons, sVal, sI, sD_c] at k
  exact lv_ldc hx hb hown hc hd k

theorem so_ldcw (hx : p.tables.exec = Jvm.exec) (hb : c.code = cc) {own : String} {i v : Nat} (hown : s.vm.findClass own = some m.cls) (hd : decode cc pc = .ok (.ldc_w i, 3)) (hn : nx = pc + 3) (hc : (Jvm.Cond.constant own i (Int32.ofNat v)).before args s = true) : sStepOk (fun H locs g => W p l e R s m args below meth c H locs cells slots Q g) (sLv D cy A r al hid rest s.heap) m r al nL pc nx (oLdc v) := by
  intro go hgo L st pa mem H locs ls h hp hv hl
  subst hn
  have k := hgo _ _ _ _ _ _ _ _ h hp hv hl
  simp only [List.map_cons, sVal, sI, sD_c] at k
  exact lv_ldcw hx hb hown hc hd k

theorem so_ldc2 (hx : p.tables.exec = Jvm.exec) (hb : c.code = cc) {own : String} {i v : Nat} (hown : s.vm.findClass own = some m.cls) (hd : decode cc pc = .ok (.ldc2_w i, 3)) (hn : nx = pc + 3) (hc : (Jvm.Cond.constantLong own i (Int64.ofNat v)).before args s = true) : sStepOk (fun H locs g => W p l e R s m args below meth c H locs cells slots Q g) (sLv D cy A r al hid rest s.heap) m r al nL pc nx (oLdc2 v) := by
  intro go hgo L st pa mem H locs ls h hp hv hl
  subst hn
  have k := hgo _ _ _ _ _ _ _ _ h hp hv hl
  simp only [List.map_cons, sVal, sJ, sD_c] at k
  exact lv_ldc2 hx hb hown hc hd k

theorem so_iload_n (hx : p.tables.exec = Jvm.exec) (hb : c.code = cc) {k : Fin 4} {i : Nat} (hd : decode cc pc = .ok (.iload_n k, 1)) (hn : nx = pc + 1) (hi : (k : Nat) = i) : sStepOk (fun H locs g => W p l e R s m args below meth c H locs cells slots Q g) (sLv D cy A r al hid rest s.heap) m r al nL pc nx (oIload i) := by
  intro go hgo L st pa mem H locs ls h hp hv hl
  subst hn
  replace h := sGet_ok _ _ _ h
  obtain ⟨w, h1, h⟩ := h
  replace h := sOpt_ok h
  obtain ⟨v, rfl, h⟩ := h
  replace h := sVI_ok h
  obtain ⟨x, rfl, h⟩ := h
  have k := hgo _ _ _ _ _ _ _ _ h hp hv hl
  have h2 := hl.2.2.1 _ _ h1
  simp only [List.map_cons, sVal] at k h2
  exact lv_iload_n hx hb hd hi h2 k

theorem so_iload (hx : p.tables.exec = Jvm.exec) (hb : c.code = cc) {i : Nat} (hd : decode cc pc = .ok (.iload i, 2)) (hn : nx = pc + 2) : sStepOk (fun H locs g => W p l e R s m args below meth c H locs cells slots Q g) (sLv D cy A r al hid rest s.heap) m r al nL pc nx (oIload i) := by
  intro go hgo L st pa mem H locs ls h hp hv hl
  subst hn
  replace h := sGet_ok _ _ _ h
  obtain ⟨w, h1, h⟩ := h
  replace h := sOpt_ok h
  obtain ⟨v, rfl, h⟩ := h
  replace h := sVI_ok h
  obtain ⟨x, rfl, h⟩ := h
  have k := hgo _ _ _ _ _ _ _ _ h hp hv hl
  have h2 := hl.2.2.1 _ _ h1
  simp only [List.map_cons, sVal] at k h2
  exact lv_iload hx hb hd h2 k

theorem so_lload_n (hx : p.tables.exec = Jvm.exec) (hb : c.code = cc) {k : Fin 4} {i : Nat} (hd : decode cc pc = .ok (.lload_n k, 1)) (hn : nx = pc + 1) (hi : (k : Nat) = i) : sStepOk (fun H locs g => W p l e R s m args below meth c H locs cells slots Q g) (sLv D cy A r al hid rest s.heap) m r al nL pc nx (oLload i) := by
  intro go hgo L st pa mem H locs ls h hp hv hl
  subst hn
  replace h := sGet_ok _ _ _ h
  obtain ⟨w, h1, h⟩ := h
  replace h := sOpt_ok h
  obtain ⟨v, rfl, h⟩ := h
  replace h := sVL_ok h
  obtain ⟨x, rfl, h⟩ := h
  have k := hgo _ _ _ _ _ _ _ _ h hp hv hl
  have h2 := hl.2.2.1 _ _ h1
  simp only [List.map_cons, sVal] at k h2
  exact lv_lload_n hx hb hd hi h2 k

theorem so_lload (hx : p.tables.exec = Jvm.exec) (hb : c.code = cc) {i : Nat} (hd : decode cc pc = .ok (.lload i, 2)) (hn : nx = pc + 2) : sStepOk (fun H locs g => W p l e R s m args below meth c H locs cells slots Q g) (sLv D cy A r al hid rest s.heap) m r al nL pc nx (oLload i) := by
  intro go hgo L st pa mem H locs ls h hp hv hl
  subst hn
  replace h := sGet_ok _ _ _ h
  obtain ⟨w, h1, h⟩ := h
  replace h := sOpt_ok h
  obtain ⟨v, rfl, h⟩ := h
  replace h := sVL_ok h
  obtain ⟨x, rfl, h⟩ := h
  have k := hgo _ _ _ _ _ _ _ _ h hp hv hl
  have h2 := hl.2.2.1 _ _ h1
  simp only [List.map_cons, sVal] at k h2
  exact lv_lload hx hb hd h2 k

theorem so_aload_n (hx : p.tables.exec = Jvm.exec) (hb : c.code = cc) {k : Fin 4} {i : Nat} (hd : decode cc pc = .ok (.aload_n k, 1)) (hn : nx = pc + 1) (hi : (k : Nat) = i) : sStepOk (fun H locs g => W p l e R s m args below meth c H locs cells slots Q g) (sLv D cy A r al hid rest s.heap) m r al nL pc nx (oAload i) := by
  intro go hgo L st pa mem H locs ls h hp hv hl
  subst hn
  replace h := sGet_ok _ _ _ h
  obtain ⟨w, h1, h⟩ := h
  replace h := sOpt_ok h
  obtain ⟨v, rfl, h⟩ := h
  replace h := sVR_ok h
  obtain ⟨x, rfl, h⟩ := h
  have k := hgo _ _ _ _ _ _ _ _ h hp hv hl
  have h2 := hl.2.2.1 _ _ h1
  simp only [List.map_cons, sVal] at k h2
  exact lv_aload_n hx hb hd hi h2 k

theorem so_aload (hx : p.tables.exec = Jvm.exec) (hb : c.code = cc) {i : Nat} (hd : decode cc pc = .ok (.aload i, 2)) (hn : nx = pc + 2) : sStepOk (fun H locs g => W p l e R s m args below meth c H locs cells slots Q g) (sLv D cy A r al hid rest s.heap) m r al nL pc nx (oAload i) := by
  intro go hgo L st pa mem H locs ls h hp hv hl
  subst hn
  replace h := sGet_ok _ _ _ h
  obtain ⟨w, h1, h⟩ := h
  replace h := sOpt_ok h
  obtain ⟨v, rfl, h⟩ := h
  replace h := sVR_ok h
  obtain ⟨x, rfl, h⟩ := h
  have k := hgo _ _ _ _ _ _ _ _ h hp hv hl
  have h2 := hl.2.2.1 _ _ h1
  simp only [List.map_cons, sVal] at k h2
  exact lv_aload hx hb hd h2 k

theorem so_put1 {L : sL} {i : Nat} {v : sV} {k : sL → Bool} {ls : Array Slot} (h : sPut1 L i v k = true) (hl : sLo r al ls nL L) : i < nL ∧ ∃ L', k L' = true ∧ ∀ ls' : Array Slot, lv_has ls' nL ((i, sVal r al v) :: (sLs r al L).filter (fun q => !(q.1 == i) && !(q.1 + 1 == i && q.2.category == 2))) → sLo r al ls' nL L' := by
  obtain ⟨L', h1, h2, h3, h4⟩ := sLo_put1 (r := r) (al := al) (ls := ls) (nL := nL) h
  have hL := hl.2.2.2
  refine ⟨hL ▸ h2, L', h1, fun ls' hls => ⟨hls.1, hls.2.1, fun j w hj => ?_, h3.trans hL⟩⟩
  rcases h4 j w hj with ⟨rfl, rfl⟩ | ⟨e1, e2, e3⟩
  · exact hls.2.2 (j, sVal r al w) List.mem_cons_self
  · refine hls.2.2 (j, sVal r al w) (List.mem_cons_of_mem _ (List.mem_filter.mpr ⟨sLs_mem.mpr ⟨w, e2, rfl⟩, ?_⟩))
    simp only [Bool.and_eq_true, Bool.not_eq_true', beq_eq_false_iff_ne, ne_eq, Bool.and_eq_false_iff]
    refine ⟨e1, ?_⟩
    by_cases q : j + 1 = i
    · refine Or.inr (fun q2 => e3 ⟨q, sVal_cat.mp q2⟩)
    · exact Or.inl q
theorem so_put2 {L : sL} {i : Nat} {v : sV} {k : sL → Bool} {ls : Array Slot} (h : sPut2 L i v k = true) (hl : sLo r al ls nL L) : i + 1 < nL ∧ ∃ L', k L' = true ∧ ∀ ls' : Array Slot, lv_has ls' nL ((i, sVal r al v) :: (sLs r al L).filter (fun q => !(q.1 == i) && (!(q.1 == i + 1) && !(q.1 + 1 == i && q.2.category == 2)))) → sLo r al ls' nL L' := by
  obtain ⟨L1, h1, h2, h3, h4⟩ := sLo_put1 (r := r) (al := al) (ls := ls) (nL := nL) h
  obtain ⟨h5, h6⟩ := sSet_ok _ _ _ _ h1
  have hL := hl.2.2.2
  refine ⟨by omega, _, h6, fun ls' hls => ⟨hls.1, hls.2.1, fun j w hj => ?_, by rw [List.length_set]; exact h3.trans hL⟩⟩
  rw [List.getElem?_set] at hj
  by_cases e0 : i + 1 = j
  · subst e0
    simp [h5] at hj
  · rw [if_neg e0] at hj
    rcases h4 j w hj with ⟨rfl, rfl⟩ | ⟨e1, e2, e3⟩
    · exact hls.2.2 (j, sVal r al w) List.mem_cons_self
    · refine hls.2.2 (j, sVal r al w) (List.mem_cons_of_mem _ (List.mem_filter.mpr ⟨sLs_mem.mpr ⟨w, e2, rfl⟩, ?_⟩))
      simp only [Bool.and_eq_true, Bool.not_eq_true', beq_eq_false_iff_ne, ne_eq, Bool.and_eq_false_iff]
      refine ⟨e1, fun q => e0 q.symm, ?_⟩
      by_cases q : j + 1 = i
      · refine Or.inr (fun q2 => e3 ⟨q, sVal_cat.mp q2⟩)
      · exact Or.inl q

theorem so_istore_n (hx : p.tables.exec = Jvm.exec) (hb : c.code = cc) {k : Fin 4} {i : Nat} (hd : decode cc pc = .ok (.istore_n k, 1)) (hn : nx = pc + 1) (hi : (k : Nat) = i) : sStepOk (fun H locs g => W p l e R s m args below meth c H locs cells slots Q g) (sLv D cy A r al hid rest s.heap) m r al nL pc nx (oIstore i) := by
  intro go hgo L st pa mem H locs ls h hp hv hl
  subst hn
  replace h := sTI_ok h
  obtain ⟨x, st1, rfl, h⟩ := h
  obtain ⟨h1, L', h2, h3⟩ := so_put1 h hl
  simp only [List.map_cons, sVal] at h3 ⊢
  exact lv_istore_n hx hb hd hi (sLo_has hl) h1 rfl (fun ls' hls => hgo _ _ _ _ _ _ _ _ h2 hp hv (h3 ls' hls))

theorem so_istore (hx : p.tables.exec = Jvm.exec) (hb : c.code = cc) {i : Nat} (hd : decode cc pc = .ok (.istore i, 2)) (hn : nx = pc + 2) : sStepOk (fun H locs g => W p l e R s m args below meth c H locs cells slots Q g) (sLv D cy A r al hid rest s.heap) m r al nL pc nx (oIstore i) := by
  intro go hgo L st pa mem H locs ls h hp hv hl
  subst hn
  replace h := sTI_ok h
  obtain ⟨x, st1, rfl, h⟩ := h
  obtain ⟨h1, L', h2, h3⟩ := so_put1 h hl
  simp only [List.map_cons, sVal] at h3 ⊢
  exact lv_istore hx hb hd (sLo_has hl) h1 rfl (fun ls' hls => hgo _ _ _ _ _ _ _ _ h2 hp hv (h3 ls' hls))

theorem so_lstore_n (hx : p.tables.exec = Jvm.exec) (hb : c.code = cc) {k : Fin 4} {i : Nat} (hd : decode cc pc = .ok (.lstore_n k, 1)) (hn : nx = pc + 1) (hi : (k : Nat) = i) : sStepOk (fun H locs g => W p l e R s m args below meth c H locs cells slots Q g) (sLv D cy A r al hid rest s.heap) m r al nL pc nx (oLstore i) := by
  intro go hgo L st pa mem H locs ls h hp hv hl
  subst hn
  replace h := sTL_ok h
  obtain ⟨x, st1, rfl, h⟩ := h
  obtain ⟨h1, L', h2, h3⟩ := so_put2 h hl
  simp only [List.map_cons, sVal] at h3 ⊢
  exact lv_lstore_n hx hb hd hi (sLo_has hl) h1 rfl (fun ls' hls => hgo _ _ _ _ _ _ _ _ h2 hp hv (h3 ls' hls))

theorem so_lstore (hx : p.tables.exec = Jvm.exec) (hb : c.code = cc) {i : Nat} (hd : decode cc pc = .ok (.lstore i, 2)) (hn : nx = pc + 2) : sStepOk (fun H locs g => W p l e R s m args below meth c H locs cells slots Q g) (sLv D cy A r al hid rest s.heap) m r al nL pc nx (oLstore i) := by
  intro go hgo L st pa mem H locs ls h hp hv hl
  subst hn
  replace h := sTL_ok h
  obtain ⟨x, st1, rfl, h⟩ := h
  obtain ⟨h1, L', h2, h3⟩ := so_put2 h hl
  simp only [List.map_cons, sVal] at h3 ⊢
  exact lv_lstore hx hb hd (sLo_has hl) h1 rfl (fun ls' hls => hgo _ _ _ _ _ _ _ _ h2 hp hv (h3 ls' hls))

theorem so_astore_n (hx : p.tables.exec = Jvm.exec) (hb : c.code = cc) {k : Fin 4} {i : Nat} (hd : decode cc pc = .ok (.astore_n k, 1)) (hn : nx = pc + 1) (hi : (k : Nat) = i) : sStepOk (fun H locs g => W p l e R s m args below meth c H locs cells slots Q g) (sLv D cy A r al hid rest s.heap) m r al nL pc nx (oAstore i) := by
  intro go hgo L st pa mem H locs ls h hp hv hl
  subst hn
  replace h := sTR_ok h
  obtain ⟨x, st1, rfl, h⟩ := h
  obtain ⟨h1, L', h2, h3⟩ := so_put1 h hl
  simp only [List.map_cons, sVal] at h3 ⊢
  exact lv_astore_n hx hb hd hi (sLo_has hl) h1 rfl (fun ls' hls => hgo _ _ _ _ _ _ _ _ h2 hp hv (h3 ls' hls))

theorem so_astore (hx : p.tables.exec = Jvm.exec) (hb : c.code = cc) {i : Nat} (hd : decode cc pc = .ok (.astore i, 2)) (hn : nx = pc + 2) : sStepOk (fun H locs g => W p l e R s m args below meth c H locs cells slots Q g) (sLv D cy A r al hid rest s.heap) m r al nL pc nx (oAstore i) := by
  intro go hgo L st pa mem H locs ls h hp hv hl
  subst hn
  replace h := sTR_ok h
  obtain ⟨x, st1, rfl, h⟩ := h
  obtain ⟨h1, L', h2, h3⟩ := so_put1 h hl
  simp only [List.map_cons, sVal] at h3 ⊢
  exact lv_astore hx hb hd (sLo_has hl) h1 rfl (fun ls' hls => hgo _ _ _ _ _ _ _ _ h2 hp hv (h3 ls' hls))

theorem so_iinc (hx : p.tables.exec = Jvm.exec) (hb : c.code = cc) {i n : Nat} {n0 : Int} (hd : decode cc pc = .ok (.iinc i n0, 3)) (hn : nx = pc + 3) (hn0 : Int32.ofInt n0 = Int32.ofNat n) : sStepOk (fun H locs g => W p l e R s m args below meth c H locs cells slots Q g) (sLv D cy A r al hid rest s.heap) m r al nL pc nx (oIinc i n) := by
  intro go hgo L st pa mem H locs ls h hp hv hl
  subst hn
  replace h := sGet_ok _ _ _ h
  obtain ⟨w, h1, h⟩ := h
  replace h := sOpt_ok h
  obtain ⟨v, rfl, h⟩ := h
  replace h := sVI_ok h
  obtain ⟨x, rfl, h⟩ := h
  replace h := sBin_I (r := r) (g := fun a b => a + b) (fun _ _ => rfl) fAdd_ok h
  obtain ⟨z, hz, h⟩ := h
  obtain ⟨h2, L', h3, h4⟩ := so_put1 h hl
  have hm : (i, Value.int (sI r x)) ∈ sLs r al L := sLs_mem.mpr ⟨.inl x, h1, rfl⟩
  obtain ⟨kk, hkk⟩ := List.getElem?_of_mem hm
  refine lv_iinc (v := sI r z) hx hb hd (sLo_has hl) hkk (by rw [hz, hn0]; simp only [sI, sD_c]) h2 rfl (fun ls' hls => hgo _ _ _ _ _ _ _ _ h3 hp hv (h4 ls' hls))

theorem so_iadd (hx : p.tables.exec = Jvm.exec) (hb : c.code = cc) (hd : decode cc pc = .ok (.iadd, 1)) (hn : nx = pc + 1) : sStepOk (fun H locs g => W p l e R s m args below meth c H locs cells slots Q g) (sLv D cy A r al hid rest s.heap) m r al nL pc nx (oII 0 fAdd) := by
  intro go hgo L st pa mem H locs ls h hp hv hl
  subst hn
  replace h := sTI_ok h
  obtain ⟨y, st1, rfl, h⟩ := h
  replace h := sTI_ok h
  obtain ⟨x, st2, rfl, h⟩ := h
  replace h := sBin_I (r := r) (g := fun a b => a + b) (fun _ _ => rfl) fAdd_ok h
  obtain ⟨z, hz, h⟩ := h
  have k := hgo _ _ _ _ _ _ _ _ h hp hv hl
  simp only [List.map_cons, sVal] at k ⊢
  rw [hz] at k
  exact lv_iadd hx hb hd k

theorem so_isub (hx : p.tables.exec = Jvm.exec) (hb : c.code = cc) (hd : decode cc pc = .ok (.isub, 1)) (hn : nx = pc + 1) : sStepOk (fun H locs g => W p l e R s m args below meth c H locs cells slots Q g) (sLv D cy A r al hid rest s.heap) m r al nL pc nx (oII 1 fSub) := by
  intro go hgo L st pa mem H locs ls h hp hv hl
  subst hn
  replace h := sTI_ok h
  obtain ⟨y, st1, rfl, h⟩ := h
  replace h := sTI_ok h
  obtain ⟨x, st2, rfl, h⟩ := h
  replace h := sBin_I (r := r) (g := fun a b => a - b) (fun _ _ => rfl) fSub_ok h
  obtain ⟨z, hz, h⟩ := h
  have k := hgo _ _ _ _ _ _ _ _ h hp hv hl
  simp only [List.map_cons, sVal] at k ⊢
  rw [hz] at k
  exact lv_isub hx hb hd k

theorem so_imul (hx : p.tables.exec = Jvm.exec) (hb : c.code = cc) (hd : decode cc pc = .ok (.imul, 1)) (hn : nx = pc + 1) : sStepOk (fun H locs g => W p l e R s m args below meth c H locs cells slots Q g) (sLv D cy A r al hid rest s.heap) m r al nL pc nx (oII 2 fMul) := by
  intro go hgo L st pa mem H locs ls h hp hv hl
  subst hn
  replace h := sTI_ok h
  obtain ⟨y, st1, rfl, h⟩ := h
  replace h := sTI_ok h
  obtain ⟨x, st2, rfl, h⟩ := h
  replace h := sBin_I (r := r) (g := fun a b => a * b) (fun _ _ => rfl) fMul_ok h
  obtain ⟨z, hz, h⟩ := h
  have k := hgo _ _ _ _ _ _ _ _ h hp hv hl
  simp only [List.map_cons, sVal] at k ⊢
  rw [hz] at k
  exact lv_imul hx hb hd k

theorem so_iand (hx : p.tables.exec = Jvm.exec) (hb : c.code = cc) (hd : decode cc pc = .ok (.iand, 1)) (hn : nx = pc + 1) : sStepOk (fun H locs g => W p l e R s m args below meth c H locs cells slots Q g) (sLv D cy A r al hid rest s.heap) m r al nL pc nx (oII 3 fAnd) := by
  intro go hgo L st pa mem H locs ls h hp hv hl
  subst hn
  replace h := sTI_ok h
  obtain ⟨y, st1, rfl, h⟩ := h
  replace h := sTI_ok h
  obtain ⟨x, st2, rfl, h⟩ := h
  replace h := sBin_I (r := r) (g := fun a b => a &&& b) (fun _ _ => rfl) fAnd_ok h
  obtain ⟨z, hz, h⟩ := h
  have k := hgo _ _ _ _ _ _ _ _ h hp hv hl
  simp only [List.map_cons, sVal] at k ⊢
  rw [hz] at k
  exact lv_iand hx hb hd k

theorem so_ior (hx : p.tables.exec = Jvm.exec) (hb : c.code = cc) (hd : decode cc pc = .ok (.ior, 1)) (hn : nx = pc + 1) : sStepOk (fun H locs g => W p l e R s m args below meth c H locs cells slots Q g) (sLv D cy A r al hid rest s.heap) m r al nL pc nx (oII 4 fOr) := by
  intro go hgo L st pa mem H locs ls h hp hv hl
  subst hn
  replace h := sTI_ok h
  obtain ⟨y, st1, rfl, h⟩ := h
  replace h := sTI_ok h
  obtain ⟨x, st2, rfl, h⟩ := h
  replace h := sBin_I (r := r) (g := fun a b => a ||| b) (fun _ _ => rfl) fOr_ok h
  obtain ⟨z, hz, h⟩ := h
  have k := hgo _ _ _ _ _ _ _ _ h hp hv hl
  simp only [List.map_cons, sVal] at k ⊢
  rw [hz] at k
  exact lv_ior hx hb hd k

theorem so_ixor (hx : p.tables.exec = Jvm.exec) (hb : c.code = cc) (hd : decode cc pc = .ok (.ixor, 1)) (hn : nx = pc + 1) : sStepOk (fun H locs g => W p l e R s m args below meth c H locs cells slots Q g) (sLv D cy A r al hid rest s.heap) m r al nL pc nx (oII 5 (fI (fun a b => a ^^^ b))) := by
  intro go hgo L st pa mem H locs ls h hp hv hl
  subst hn
  replace h := sTI_ok h
  obtain ⟨y, st1, rfl, h⟩ := h
  replace h := sTI_ok h
  obtain ⟨x, st2, rfl, h⟩ := h
  replace h := sBin_I (r := r) (g := fun a b => a ^^^ b) (fun _ _ => rfl) (fun _ _ => fN_ok _) h
  obtain ⟨z, hz, h⟩ := h
  have k := hgo _ _ _ _ _ _ _ _ h hp hv hl
  simp only [List.map_cons, sVal] at k ⊢
  rw [hz] at k
  exact lv_ixor hx hb hd k

theorem so_ishl (hx : p.tables.exec = Jvm.exec) (hb : c.code = cc) (hd : decode cc pc = .ok (.ishl, 1)) (hn : nx = pc + 1) : sStepOk (fun H locs g => W p l e R s m args below meth c H locs cells slots Q g) (sLv D cy A r al hid rest s.heap) m r al nL pc nx (oII 6 fShl) := by
  intro go hgo L st pa mem H locs ls h hp hv hl
  subst hn
  replace h := sTI_ok h
  obtain ⟨y, st1, rfl, h⟩ := h
  replace h := sTI_ok h
  obtain ⟨x, st2, rfl, h⟩ := h
  replace h := sBin_I (r := r) (g := fun a b => a <<< (b &&& 31)) (fun _ _ => rfl) fShl_ok h
  obtain ⟨z, hz, h⟩ := h
  have k := hgo _ _ _ _ _ _ _ _ h hp hv hl
  simp only [List.map_cons, sVal] at k ⊢
  rw [hz] at k
  exact lv_ishl hx hb hd k

theorem so_ishr (hx : p.tables.exec = Jvm.exec) (hb : c.code = cc) (hd : decode cc pc = .ok (.ishr, 1)) (hn : nx = pc + 1) : sStepOk (fun H locs g => W p l e R s m args below meth c H locs cells slots Q g) (sLv D cy A r al hid rest s.heap) m r al nL pc nx (oII 7 fShr) := by
  intro go hgo L st pa mem H locs ls h hp hv hl
  subst hn
  replace h := sTI_ok h
  obtain ⟨y, st1, rfl, h⟩ := h
  replace h := sTI_ok h
  obtain ⟨x, st2, rfl, h⟩ := h
  replace h := sBin_I (r := r) (g := fun a b => a >>> (b &&& 31)) (fun _ _ => rfl) fShr_ok h
  obtain ⟨z, hz, h⟩ := h
  have k := hgo _ _ _ _ _ _ _ _ h hp hv hl
  simp only [List.map_cons, sVal] at k ⊢
  rw [hz] at k
  exact lv_ishr hx hb hd k

theorem so_iushr (hx : p.tables.exec = Jvm.exec) (hb : c.code = cc) (hd : decode cc pc = .ok (.iushr, 1)) (hn : nx = pc + 1) : sStepOk (fun H locs g => W p l e R s m args below meth c H locs cells slots Q g) (sLv D cy A r al hid rest s.heap) m r al nL pc nx (oII 8 (fI (fun a b => (a.toUInt32 >>> (b.toUInt32 &&& Int32.toUInt32 31)).toInt32))) := by
  intro go hgo L st pa mem H locs ls h hp hv hl
  subst hn
  replace h := sTI_ok h
  obtain ⟨y, st1, rfl, h⟩ := h
  replace h := sTI_ok h
  obtain ⟨x, st2, rfl, h⟩ := h
  replace h := sBin_I (r := r) (g := fun a b => (a.toUInt32 >>> (b.toUInt32 &&& Int32.toUInt32 31)).toInt32) (fun _ _ => rfl) (fun _ _ => fN_ok _) h
  obtain ⟨z, hz, h⟩ := h
  have k := hgo _ _ _ _ _ _ _ _ h hp hv hl
  simp only [List.map_cons, sVal] at k ⊢
  exact lv_iushr hx hb hd hz.symm k

theorem so_irem (hx : p.tables.exec = Jvm.exec) (hb : c.code = cc) (hd : decode cc pc = .ok (.irem, 1)) (hn : nx = pc + 1) : sStepOk (fun H locs g => W p l e R s m args below meth c H locs cells slots Q g) (sLv D cy A r al hid rest s.heap) m r al nL pc nx oIrem := by
  intro go hgo L st pa mem H locs ls h hp hv hl
  subst hn
  replace h := sTI_ok h
  obtain ⟨y, st1, rfl, h⟩ := h
  replace h := sNum_ok h
  obtain ⟨b, rfl, h⟩ := h
  replace h := sIf_ok h
  obtain ⟨hb0, h⟩ := h
  replace h := sTI_ok h
  obtain ⟨x, st2, rfl, h⟩ := h
  replace h := sBin_I (r := r) (g := fun a b => a - a / b * b) (fun _ _ => rfl) (fun _ _ => fN_ok _) h
  obtain ⟨z, hz, h⟩ := h
  have k := hgo _ _ _ _ _ _ _ _ h hp hv hl
  simp only [List.map_cons, sVal] at k ⊢
  rw [hz] at k
  refine lv_irem hx hb hd (fun q => ?_) k
  simp only [sI, sD_c] at q
  have q2 : fEq b 0 = true := (fEq_ok b 0).mpr q
  rw [show fEq b (nat_lit 0) = fEq b 0 from rfl, q2] at hb0
  cases hb0

theorem so_ineg (hx : p.tables.exec = Jvm.exec) (hb : c.code = cc) (hd : decode cc pc = .ok (.ineg, 1)) (hn : nx = pc + 1) : sStepOk (fun H locs g => W p l e R s m args below meth c H locs cells slots Q g) (sLv D cy A r al hid rest s.heap) m r al nL pc nx (oI1 0 (fun a => fN (-Int32.ofNat a))) := by
  intro go hgo L st pa mem H locs ls h hp hv hl
  subst hn
  replace h := sTI_ok h
  obtain ⟨x, st2, rfl, h⟩ := h
  replace h := sUn_I (r := r) (g := fun a => -a) (fun _ => rfl) (fun _ => fN_ok _) h
  obtain ⟨z, hz, h⟩ := h
  have k := hgo _ _ _ _ _ _ _ _ h hp hv hl
  simp only [List.map_cons, sVal] at k ⊢
  rw [hz] at k
  exact lv_ineg hx hb hd k

theorem so_i2b (hx : p.tables.exec = Jvm.exec) (hb : c.code = cc) (hd : decode cc pc = .ok (.i2b, 1)) (hn : nx = pc + 1) : sStepOk (fun H locs g => W p l e R s m args below meth c H locs cells slots Q g) (sLv D cy A r al hid rest s.heap) m r al nL pc nx (oI1 1 (fun a => fN (Int32.ofNat a).toInt8.toInt32)) := by
  intro go hgo L st pa mem H locs ls h hp hv hl
  subst hn
  replace h := sTI_ok h
  obtain ⟨x, st2, rfl, h⟩ := h
  replace h := sUn_I (r := r) (g := fun a => a.toInt8.toInt32) (fun _ => rfl) (fun _ => fN_ok _) h
  obtain ⟨z, hz, h⟩ := h
  have k := hgo _ _ _ _ _ _ _ _ h hp hv hl
  simp only [List.map_cons, sVal] at k ⊢
  exact lv_i2b hx hb hd hz.symm k

theorem so_l2i (hx : p.tables.exec = Jvm.exec) (hb : c.code = cc) (hd : decode cc pc = .ok (.l2i, 1)) (hn : nx = pc + 1) : sStepOk (fun H locs g => W p l e R s m args below meth c H locs cells slots Q g) (sLv D cy A r al hid rest s.heap) m r al nL pc nx oL2i := by
  intro go hgo L st pa mem H locs ls h hp hv hl
  subst hn
  replace h := sTL_ok h
  obtain ⟨x, st2, rfl, h⟩ := h
  have k0 : ∃ z, sI r z = (sJ r x).toInt32 ∧ go (pc + 1) L (.inl z :: st2) pa mem = true := by
    rcases sUn_ok h with ⟨a, ha, h2⟩ | h2
    · subst ha
      exact ⟨_, by simp only [sI, sJ, sD_c]; exact fN_ok _, h2⟩
    · exact ⟨_, by simp only [sI, sJ, sD_u]; rfl, h2⟩
  obtain ⟨z, hz, h⟩ := k0
  have k := hgo _ _ _ _ _ _ _ _ h hp hv hl
  simp only [List.map_cons, sVal] at k ⊢
  exact lv_l2i hx hb hd hz.symm k

theorem so_i2l (hx : p.tables.exec = Jvm.exec) (hb : c.code = cc) (hd : decode cc pc = .ok (.i2l, 1)) (hn : nx = pc + 1) : sStepOk (fun H locs g => W p l e R s m args below meth c H locs cells slots Q g) (sLv D cy A r al hid rest s.heap) m r al nL pc nx oI2l := by
  intro go hgo L st pa mem H locs ls h hp hv hl
  subst hn
  replace h := sTI_ok h
  obtain ⟨x, st2, rfl, h⟩ := h
  have k0 : ∃ z, sJ r z = (sI r x).toInt64 ∧ go (pc + 1) L (.inr (.inl z) :: st2) pa mem = true := by
    rcases sUn_ok h with ⟨a, ha, h2⟩ | h2
    · subst ha
      exact ⟨_, by simp only [sI, sJ, sD_c]; exact gN_ok _, h2⟩
    · exact ⟨_, by simp only [sI, sJ, sD_u]; rfl, h2⟩
  obtain ⟨z, hz, h⟩ := k0
  have k := hgo _ _ _ _ _ _ _ _ h hp hv hl
  simp only [List.map_cons, sVal] at k ⊢
  exact lv_i2l hx hb hd hz.symm k

theorem so_lneg (hx : p.tables.exec = Jvm.exec) (hb : c.code = cc) (hd : decode cc pc = .ok (.lneg, 1)) (hn : nx = pc + 1) : sStepOk (fun H locs g => W p l e R s m args below meth c H locs cells slots Q g) (sLv D cy A r al hid rest s.heap) m r al nL pc nx oLneg := by
  intro go hgo L st pa mem H locs ls h hp hv hl
  subst hn
  replace h := sTL_ok h
  obtain ⟨x, st2, rfl, h⟩ := h
  replace h := sUn_J (r := r) (g := fun a => -a) (fun _ => rfl) (fun _ => gN_ok _) h
  obtain ⟨z, hz, h⟩ := h
  have k := hgo _ _ _ _ _ _ _ _ h hp hv hl
  simp only [List.map_cons, sVal] at k ⊢
  rw [hz] at k
  exact lv_lneg hx hb hd k

theorem so_ladd (hx : p.tables.exec = Jvm.exec) (hb : c.code = cc) (hd : decode cc pc = .ok (.ladd, 1)) (hn : nx = pc + 1) : sStepOk (fun H locs g => W p l e R s m args below meth c H locs cells slots Q g) (sLv D cy A r al hid rest s.heap) m r al nL pc nx (oLL 20 (fJ (fun a b => a + b))) := by
  intro go hgo L st pa mem H locs ls h hp hv hl
  subst hn
  replace h := sTL_ok h
  obtain ⟨y, st1, rfl, h⟩ := h
  replace h := sTL_ok h
  obtain ⟨x, st2, rfl, h⟩ := h
  replace h := sBin_J (r := r) (g := fun a b => a + b) (fun _ _ => rfl) (fun _ _ => gN_ok _) h
  obtain ⟨z, hz, h⟩ := h
  have k := hgo _ _ _ _ _ _ _ _ h hp hv hl
  simp only [List.map_cons, sVal] at k ⊢
  rw [hz] at k
  exact lv_ladd hx hb hd k

theorem so_lsub (hx : p.tables.exec = Jvm.exec) (hb : c.code = cc) (hd : decode cc pc = .ok (.lsub, 1)) (hn : nx = pc + 1) : sStepOk (fun H locs g => W p l e R s m args below meth c H locs cells slots Q g) (sLv D cy A r al hid rest s.heap) m r al nL pc nx (oLL 21 (fJ (fun a b => a - b))) := by
  intro go hgo L st pa mem H locs ls h hp hv hl
  subst hn
  replace h := sTL_ok h
  obtain ⟨y, st1, rfl, h⟩ := h
  replace h := sTL_ok h
  obtain ⟨x, st2, rfl, h⟩ := h
  replace h := sBin_J (r := r) (g := fun a b => a - b) (fun _ _ => rfl) (fun _ _ => gN_ok _) h
  obtain ⟨z, hz, h⟩ := h
  have k := hgo _ _ _ _ _ _ _ _ h hp hv hl
  simp only [List.map_cons, sVal] at k ⊢
  rw [hz] at k
  exact lv_lsub hx hb hd k

theorem so_lmul (hx : p.tables.exec = Jvm.exec) (hb : c.code = cc) (hd : decode cc pc = .ok (.lmul, 1)) (hn : nx = pc + 1) : sStepOk (fun H locs g => W p l e R s m args below meth c H locs cells slots Q g) (sLv D cy A r al hid rest s.heap) m r al nL pc nx (oLL 22 (fJ (fun a b => a * b))) := by
  intro go hgo L st pa mem H locs ls h hp hv hl
  subst hn
  replace h := sTL_ok h
  obtain ⟨y, st1, rfl, h⟩ := h
  replace h := sTL_ok h
  obtain ⟨x, st2, rfl, h⟩ := h
  replace h := sBin_J (r := r) (g := fun a b => a * b) (fun _ _ => rfl) (fun _ _ => gN_ok _) h
  obtain ⟨z, hz, h⟩ := h
  have k := hgo _ _ _ _ _ _ _ _ h hp hv hl
  simp only [List.map_cons, sVal] at k ⊢
  rw [hz] at k
  exact lv_lmul hx hb hd k

theorem so_lor (hx : p.tables.exec = Jvm.exec) (hb : c.code = cc) (hd : decode cc pc = .ok (.lor, 1)) (hn : nx = pc + 1) : sStepOk (fun H locs g => W p l e R s m args below meth c H locs cells slots Q g) (sLv D cy A r al hid rest s.heap) m r al nL pc nx (oLL 24 (fJ (fun a b => a ||| b))) := by
  intro go hgo L st pa mem H locs ls h hp hv hl
  subst hn
  replace h := sTL_ok h
  obtain ⟨y, st1, rfl, h⟩ := h
  replace h := sTL_ok h
  obtain ⟨x, st2, rfl, h⟩ := h
  replace h := sBin_J (r := r) (g := fun a b => a ||| b) (fun _ _ => rfl) (fun _ _ => gN_ok _) h
  obtain ⟨z, hz, h⟩ := h
  have k := hgo _ _ _ _ _ _ _ _ h hp hv hl
  simp only [List.map_cons, sVal] at k ⊢
  rw [hz] at k
  exact lv_lor hx hb hd k

theorem so_lshr (hx : p.tables.exec = Jvm.exec) (hb : c.code = cc) (hd : decode cc pc = .ok (.lshr, 1)) (hn : nx = pc + 1) : sStepOk (fun H locs g => W p l e R s m args below meth c H locs cells slots Q g) (sLv D cy A r al hid rest s.heap) m r al nL pc nx (oLsh 27 (fun a b => gN (Int64.ofNat a >>> ((Int32.ofNat b).toInt64 &&& 63)))) := by
  intro go hgo L st pa mem H locs ls h hp hv hl
  subst hn
  replace h := sTI_ok h
  obtain ⟨y, st1, rfl, h⟩ := h
  replace h := sTL_ok h
  obtain ⟨x, st2, rfl, h⟩ := h
  have k0 : ∃ z, sJ r z = (sJ r x) >>> ((sI r y).toInt64 &&& 63) ∧ go (pc + 1) L (.inr (.inl z) :: st2) pa mem = true := by
    rcases sBin_ok h with ⟨a, b, ha, hb, h2⟩ | h2
    · subst ha hb
      exact ⟨_, by simp only [sI, sJ, sD_c]; exact gN_ok _, h2⟩
    · exact ⟨_, by simp only [sI, sJ, sD_b]; rfl, h2⟩
  obtain ⟨z, hz, h⟩ := k0
  have k := hgo _ _ _ _ _ _ _ _ h hp hv hl
  simp only [List.map_cons, sVal] at k ⊢
  exact lv_lshr hx hb hd hz.symm k

theorem so_lushr (hx : p.tables.exec = Jvm.exec) (hb : c.code = cc) (hd : decode cc pc = .ok (.lushr, 1)) (hn : nx = pc + 1) : sStepOk (fun H locs g => W p l e R s m args below meth c H locs cells slots Q g) (sLv D cy A r al hid rest s.heap) m r al nL pc nx (oLsh 28 (fun a b => gN ((Int64.ofNat a).toUInt64 >>> ((Int32.ofNat b).toInt64.toUInt64 &&& Int64.toUInt64 63)).toInt64)) := by
  intro go hgo L st pa mem H locs ls h hp hv hl
  subst hn
  replace h := sTI_ok h
  obtain ⟨y, st1, rfl, h⟩ := h
  replace h := sTL_ok h
  obtain ⟨x, st2, rfl, h⟩ := h
  have k0 : ∃ z, sJ r z = ((sJ r x).toUInt64 >>> ((sI r y).toInt64.toUInt64 &&& Int64.toUInt64 63)).toInt64 ∧ go (pc + 1) L (.inr (.inl z) :: st2) pa mem = true := by
    rcases sBin_ok h with ⟨a, b, ha, hb, h2⟩ | h2
    · subst ha hb
      exact ⟨_, by simp only [sI, sJ, sD_c]; exact gN_ok _, h2⟩
    · exact ⟨_, by simp only [sI, sJ, sD_b]; rfl, h2⟩
  obtain ⟨z, hz, h⟩ := k0
  have k := hgo _ _ _ _ _ _ _ _ h hp hv hl
  simp only [List.map_cons, sVal] at k ⊢
  exact lv_lushr hx hb hd hz.symm k

theorem so_ldiv (hx : p.tables.exec = Jvm.exec) (hb : c.code = cc) (hd : decode cc pc = .ok (.ldiv, 1)) (hn : nx = pc + 1) : sStepOk (fun H locs g => W p l e R s m args below meth c H locs cells slots Q g) (sLv D cy A r al hid rest s.heap) m r al nL pc nx (oLdv 29 (fJ (fun a b => a / b))) := by
  intro go hgo L st pa mem H locs ls h hp hv hl
  subst hn
  replace h := sTL_ok h
  obtain ⟨y, st1, rfl, h⟩ := h
  replace h := sNum_ok h
  obtain ⟨b, rfl, h⟩ := h
  replace h := sIf_ok h
  obtain ⟨hb0, h⟩ := h
  replace h := sTL_ok h
  obtain ⟨x, st2, rfl, h⟩ := h
  replace h := sBin_J (r := r) (g := fun a b => a / b) (fun _ _ => rfl) (fun _ _ => gN_ok _) h
  obtain ⟨z, hz, h⟩ := h
  have k := hgo _ _ _ _ _ _ _ _ h hp hv hl
  simp only [List.map_cons, sVal] at k ⊢
  rw [hz] at k
  refine lv_ldiv hx hb hd (fun q => ?_) k
  simp only [sJ, sD_c] at q
  have q1 := congrArg gN q
  have q4 : (Int64.toUInt64 0).toNat = 0 := by decide
  have q2 : b % 18446744073709551616 = 0 := by simpa [gN, q4] using q1
  have q3 : Nat.beq (Nat.mod b (nat_lit 18446744073709551616)) (nat_lit 0) = true := Nat.beq_eq.mpr q2
  rw [q3] at hb0
  cases hb0

theorem so_lrem (hx : p.tables.exec = Jvm.exec) (hb : c.code = cc) (hd : decode cc pc = .ok (.lrem, 1)) (hn : nx = pc + 1) : sStepOk (fun H locs g => W p l e R s m args below meth c H locs cells slots Q g) (sLv D cy A r al hid rest s.heap) m r al nL pc nx (oLdv 30 (fJ (fun a b => a - a / b * b))) := by
  intro go hgo L st pa mem H locs ls h hp hv hl
  subst hn
  replace h := sTL_ok h
  obtain ⟨y, st1, rfl, h⟩ := h
  replace h := sNum_ok h
  obtain ⟨b, rfl, h⟩ := h
  replace h := sIf_ok h
  obtain ⟨hb0, h⟩ := h
  replace h := sTL_ok h
  obtain ⟨x, st2, rfl, h⟩ := h
  replace h := sBin_J (r := r) (g := fun a b => a - a / b * b) (fun _ _ => rfl) (fun _ _ => gN_ok _) h
  obtain ⟨z, hz, h⟩ := h
  have k := hgo _ _ _ _ _ _ _ _ h hp hv hl
  simp only [List.map_cons, sVal] at k ⊢
  rw [hz] at k
  refine lv_lrem hx hb hd (fun q => ?_) k
  simp only [sJ, sD_c] at q
  have q1 := congrArg gN q
  have q4 : (Int64.toUInt64 0).toNat = 0 := by decide
  have q2 : b % 18446744073709551616 = 0 := by simpa [gN, q4] using q1
  have q3 : Nat.beq (Nat.mod b (nat_lit 18446744073709551616)) (nat_lit 0) = true := Nat.beq_eq.mpr q2
  rw [q3] at hb0
  cases hb0

theorem so_lcmp (hx : p.tables.exec = Jvm.exec) (hb : c.code = cc) (hd : decode cc pc = .ok (.lcmp, 1)) (hn : nx = pc + 1) : sStepOk (fun H locs g => W p l e R s m args below meth c H locs cells slots Q g) (sLv D cy A r al hid rest s.heap) m r al nL pc nx oLcmp := by
  intro go hgo L st pa mem H locs ls h hp hv hl
  subst hn
  replace h := sTL_ok h
  obtain ⟨y, st1, rfl, h⟩ := h
  replace h := sTL_ok h
  obtain ⟨x, st2, rfl, h⟩ := h
  have k0 : ∃ z, sI r z = lg_cmp (sJ r x) (sJ r y) ∧ go (pc + 1) L (.inl z :: st2) pa mem = true := by
    rcases sBin_ok h with ⟨a, b, ha, hb, h2⟩ | h2
    · subst ha hb
      exact ⟨_, by simp only [sI, sJ, sD_c]; exact fN_ok _, h2⟩
    · exact ⟨_, by simp only [sI, sJ, sD_b]; rfl, h2⟩
  obtain ⟨z, hz, h⟩ := k0
  have k := hgo _ _ _ _ _ _ _ _ h hp hv hl
  simp only [List.map_cons, sVal] at k ⊢
  rw [hz] at k
  exact W.lcmp hx hb hd k

theorem sCat_ok {v : sV} (h : Nat.beq (sCat v) (nat_lit 1) = true) : (sVal r al v).category = 1 := by
  rcases v with x | x | x | x
  · rfl
  · exact nomatch (show false = true from h)
  · rfl
  · rfl

theorem so_dup (hx : p.tables.exec = Jvm.exec) (hb : c.code = cc) (hd : decode cc pc = .ok (.dup, 1)) (hn : nx = pc + 1) : sStepOk (fun H locs g => W p l e R s m args below meth c H locs cells slots Q g) (sLv D cy A r al hid rest s.heap) m r al nL pc nx oDup := by
  intro go hgo L st pa mem H locs ls h hp hv hl
  subst hn
  replace h := sTop_ok h
  obtain ⟨v, st1, rfl, h⟩ := h
  replace h := sIf_ok h
  obtain ⟨hc, h⟩ := h
  have k := hgo _ _ _ _ _ _ _ _ h hp hv hl
  simp only [List.map_cons] at k ⊢
  exact lv_dup hx hb hd (sCat_ok hc) k

theorem so_dup2 (hx : p.tables.exec = Jvm.exec) (hb : c.code = cc) (hd : decode cc pc = .ok (.dup2, 1)) (hn : nx = pc + 1) : sStepOk (fun H locs g => W p l e R s m args below meth c H locs cells slots Q g) (sLv D cy A r al hid rest s.heap) m r al nL pc nx oDup2 := by
  intro go hgo L st pa mem H locs ls h hp hv hl
  subst hn
  replace h := sTop_ok h
  obtain ⟨v, st1, rfl, h⟩ := h
  replace h := sIf_ok h
  obtain ⟨hc, h⟩ := h
  replace h := sTop_ok h
  obtain ⟨w, st2, rfl, h⟩ := h
  replace h := sIf_ok h
  obtain ⟨hc2, h⟩ := h
  have k := hgo _ _ _ _ _ _ _ _ h hp hv hl
  simp only [List.map_cons] at k ⊢
  exact lv_dup2_11 hx hb hd (sCat_ok hc) (sCat_ok hc2) k

theorem so_goto (hx : p.tables.exec = Jvm.exec) (hb : c.code = cc) {t : Nat} {off : Int} (hd : decode cc pc = .ok (.goto off, 3)) (ht : (pc : Int) + off = (t : Int)) : sStepOk (fun H locs g => W p l e R s m args below meth c H locs cells slots Q g) (sLv D cy A r al hid rest s.heap) m r al nL pc nx (oGoto t) := by
  intro go hgo L st pa mem H locs ls h hp hv hl
  exact lv_goto hx hb hd ht (hgo _ _ _ _ _ _ _ _ h hp hv hl)

theorem sBr_eq (x y : sX) (pa : List sK) (kt kf : List sK → Bool) : sBr .eq x y pa kt kf = sQ true x y pa kt kf := rfl

theorem sBr_ne (x y : sX) (pa : List sK) (kt kf : List sK → Bool) : sBr .ne x y pa kt kf = sQ true x y pa kf kt := rfl

theorem sBr_lt (x y : sX) (pa : List sK) (kt kf : List sK → Bool) : sBr .lt x y pa kt kf = sQ false x y pa kt kf := rfl

theorem sBr_ge (x y : sX) (pa : List sK) (kt kf : List sK → Bool) : sBr .ge x y pa kt kf = sQ false x y pa kf kt := rfl

theorem sBr_gt (x y : sX) (pa : List sK) (kt kf : List sK → Bool) : sBr .gt x y pa kt kf = sQ false y x pa kt kf := rfl

theorem sBr_le (x y : sX) (pa : List sK) (kt kf : List sK → Bool) : sBr .le x y pa kt kf = sQ false y x pa kf kt := rfl

theorem so_if (hx : p.tables.exec = Jvm.exec) (hb : c.code = cc) {cn : Jvm.ClassFile.Cond} {t : Nat} {off : Int} (hd : decode cc pc = .ok (.ifCond cn off, 3)) (hn : nx = pc + 3) (ht : (pc : Int) + off = (t : Int)) : sStepOk (fun H locs g => W p l e R s m args below meth c H locs cells slots Q g) (sLv D cy A r al hid rest s.heap) m r al nL pc nx (oIf cn t) := by
  intro go hgo L st pa mem H locs ls h hp hv hl
  subst hn
  replace h := sTI_ok h
  obtain ⟨x, st1, rfl, h⟩ := h
  simp only [List.map_cons, sVal]
  obtain ⟨a, b, h, n1, n2, n3⟩ := sNrm_ok (r := r) h
  cases cn with
  | eq =>
    rw [sBr_eq] at h
    have q := sQ_ok hp h
    refine lv_if_eq (tgt := t) hx hb hd ht (fun c1 => ?_) (fun c1 => ?_)
    · obtain ⟨pa1, h1, h2⟩ := q.1 (n1.mp c1)
      exact hgo _ _ _ _ _ _ _ _ h2 h1 hv hl
    · obtain ⟨pa1, h1, h2⟩ := q.2 (fun z => c1 (n1.mpr z))
      exact hgo _ _ _ _ _ _ _ _ h2 h1 hv hl
  | ne =>
    rw [sBr_ne] at h
    have q := sQ_ok hp h
    refine lv_if_ne (tgt := t) hx hb hd ht (fun c1 => ?_) (fun c1 => ?_)
    · obtain ⟨pa1, h1, h2⟩ := q.2 (fun z => c1 (n1.mpr z))
      exact hgo _ _ _ _ _ _ _ _ h2 h1 hv hl
    · obtain ⟨pa1, h1, h2⟩ := q.1 (n1.mp c1)
      exact hgo _ _ _ _ _ _ _ _ h2 h1 hv hl
  | lt =>
    rw [sBr_lt] at h
    have q := sQ_ok hp h
    refine lv_if_lt (tgt := t) hx hb hd ht (fun c1 => ?_) (fun c1 => ?_)
    · obtain ⟨pa1, h1, h2⟩ := q.1 (n2.mp c1)
      exact hgo _ _ _ _ _ _ _ _ h2 h1 hv hl
    · obtain ⟨pa1, h1, h2⟩ := q.2 (fun z => c1 (n2.mpr z))
      exact hgo _ _ _ _ _ _ _ _ h2 h1 hv hl
  | ge =>
    rw [sBr_ge] at h
    have q := sQ_ok hp h
    refine lv_if_ge (tgt := t) hx hb hd ht (fun c1 => ?_) (fun c1 => ?_)
    · obtain ⟨pa1, h1, h2⟩ := q.2 (fun z => Int32.not_lt.mpr c1 (n2.mpr z))
      exact hgo _ _ _ _ _ _ _ _ h2 h1 hv hl
    · obtain ⟨pa1, h1, h2⟩ := q.1 (n2.mp (Int32.not_le.mp c1))
      exact hgo _ _ _ _ _ _ _ _ h2 h1 hv hl
  | gt =>
    rw [sBr_gt] at h
    have q := sQ_ok hp h
    refine lv_if_gt (tgt := t) hx hb hd ht (fun c1 => ?_) (fun c1 => ?_)
    · obtain ⟨pa1, h1, h2⟩ := q.1 (n3.mp c1)
      exact hgo _ _ _ _ _ _ _ _ h2 h1 hv hl
    · obtain ⟨pa1, h1, h2⟩ := q.2 (fun z => c1 (n3.mpr z))
      exact hgo _ _ _ _ _ _ _ _ h2 h1 hv hl
  | le =>
    rw [sBr_le] at h
    have q := sQ_ok hp h
    refine lv_if_le (tgt := t) hx hb hd ht (fun c1 => ?_) (fun c1 => ?_)
    · obtain ⟨pa1, h1, h2⟩ := q.2 (fun z => Int32.not_lt.mpr c1 (n3.mpr z))
      exact hgo _ _ _ _ _ _ _ _ h2 h1 hv hl
    · obtain ⟨pa1, h1, h2⟩ := q.1 (n3.mp (Int32.not_le.mp c1))
      exact hgo _ _ _ _ _ _ _ _ h2 h1 hv hl

theorem so_if2 (hx : p.tables.exec = Jvm.exec) (hb : c.code = cc) {cn : Jvm.ClassFile.Cond} {t : Nat} {off : Int} (hd : decode cc pc = .ok (.if_icmp cn off, 3)) (hn : nx = pc + 3) (ht : (pc : Int) + off = (t : Int)) : sStepOk (fun H locs g => W p l e R s m args below meth c H locs cells slots Q g) (sLv D cy A r al hid rest s.heap) m r al nL pc nx (oIf2 cn t) := by
  intro go hgo L st pa mem H locs ls h hp hv hl
  subst hn
  replace h := sTI_ok h
  obtain ⟨y, st1, rfl, h⟩ := h
  replace h := sTI_ok h
  obtain ⟨x, st2, rfl, h⟩ := h
  simp only [List.map_cons, sVal]
  cases cn with
  | eq =>
    rw [sBr_eq] at h
    have q := sQ_ok hp h
    refine lv_icmp_eq (tgt := t) hx hb hd ht (fun c1 => ?_) (fun c1 => ?_)
    · obtain ⟨pa1, h1, h2⟩ := q.1 (by first | exact c1 | (simp only [sHo]; exact c1))
      exact hgo _ _ _ _ _ _ _ _ h2 h1 hv hl
    · obtain ⟨pa1, h1, h2⟩ := q.2 (by first | exact c1 | (simp only [sHo]; exact c1))
      exact hgo _ _ _ _ _ _ _ _ h2 h1 hv hl
  | ne =>
    rw [sBr_ne] at h
    have q := sQ_ok hp h
    refine lv_icmp_ne (tgt := t) hx hb hd ht (fun c1 => ?_) (fun c1 => ?_)
    · obtain ⟨pa1, h1, h2⟩ := q.2 (by first | exact c1 | (simp only [sHo]; exact c1))
      exact hgo _ _ _ _ _ _ _ _ h2 h1 hv hl
    · obtain ⟨pa1, h1, h2⟩ := q.1 (by first | exact c1 | (simp only [sHo]; exact c1))
      exact hgo _ _ _ _ _ _ _ _ h2 h1 hv hl
  | lt =>
    rw [sBr_lt] at h
    have q := sQ_ok hp h
    refine lv_icmp_lt (tgt := t) hx hb hd ht (fun c1 => ?_) (fun c1 => ?_)
    · obtain ⟨pa1, h1, h2⟩ := q.1 (by first | exact c1 | (simp only [sHo]; exact c1))
      exact hgo _ _ _ _ _ _ _ _ h2 h1 hv hl
    · obtain ⟨pa1, h1, h2⟩ := q.2 (by first | exact c1 | (simp only [sHo]; exact c1))
      exact hgo _ _ _ _ _ _ _ _ h2 h1 hv hl
  | ge =>
    rw [sBr_ge] at h
    have q := sQ_ok hp h
    refine lv_icmp_ge (tgt := t) hx hb hd ht (fun c1 => ?_) (fun c1 => ?_)
    · obtain ⟨pa1, h1, h2⟩ := q.2 (Int32.not_lt.mpr (by first | exact c1 | (simp only [sHo]; exact c1)))
      exact hgo _ _ _ _ _ _ _ _ h2 h1 hv hl
    · obtain ⟨pa1, h1, h2⟩ := q.1 (Int32.not_le.mp (by first | exact c1 | (simp only [sHo]; exact c1)))
      exact hgo _ _ _ _ _ _ _ _ h2 h1 hv hl
  | gt =>
    rw [sBr_gt] at h
    have q := sQ_ok hp h
    refine lv_icmp_gt (tgt := t) hx hb hd ht (fun c1 => ?_) (fun c1 => ?_)
    · obtain ⟨pa1, h1, h2⟩ := q.1 (by first | exact c1 | (simp only [sHo]; exact c1))
      exact hgo _ _ _ _ _ _ _ _ h2 h1 hv hl
    · obtain ⟨pa1, h1, h2⟩ := q.2 (by first | exact c1 | (simp only [sHo]; exact c1))
      exact hgo _ _ _ _ _ _ _ _ h2 h1 hv hl
  | le =>
    rw [sBr_le] at h
    have q := sQ_ok hp h
    refine lv_icmp_le (tgt := t) hx hb hd ht (fun c1 => ?_) (fun c1 => ?_)
    · obtain ⟨pa1, h1, h2⟩ := q.2 (Int32.not_lt.mpr (by first | exact c1 | (simp only [sHo]; exact c1)))
      exact hgo _ _ _ _ _ _ _ _ h2 h1 hv hl
    · obtain ⟨pa1, h1, h2⟩ := q.1 (Int32.not_le.mp (by first | exact c1 | (simp only [sHo]; exact c1)))
      exact hgo _ _ _ _ _ _ _ _ h2 h1 hv hl

def sPs (pc : Nat) : List (Int × Int) → List (Int × Int) → Bool
  | [], [] => true
  | (key, off) :: a, (.ofNat v, .ofNat t) :: b => decide ((Int32.ofNat v).toInt = key) && (decide ((pc : Int) + off = (t : Int)) && sPs pc a b)
  | _, _ => false
theorem sSw_ok {x : sX} {d : Nat} {go : Nat → List sK → Bool} {dflt : Int} (hdf : (pc : Int) + dflt = (d : Int)) : ∀ (ps0 ps : List (Int × Int)) (pa : List sK), sPa r pa → sPs pc ps0 ps = true → sSw x d go ps pa = true → ∃ t pa1, go t pa1 = true ∧ sPa r pa1 ∧ (pc : Int) + Op.lookupswitch.offset ps0 dflt (sI r x).toInt = (t : Int)
  | [], [], pa, hp, _, h => ⟨d, pa, h, hp, hdf⟩
  | (key, off) :: a, (.ofNat v, .ofNat t) :: b, pa, hp, hs, h => by
    simp only [sPs, Bool.and_eq_true, decide_eq_true_eq] at hs
    obtain ⟨h1, h2, h3⟩ := hs
    have h' : sQ true x (.natCast v) pa (go t) (sSw x d go b) = true := h
    have q := sQ_ok hp h'
    by_cases c1 : sI r x = Int32.ofNat v
    · obtain ⟨pa1, e1, e2⟩ := q.1 (by simp only [sHo, sI, sD_c]; exact c1)
      refine ⟨t, pa1, e2, e1, ?_⟩
      rw [Op.lookupswitch.offset_cons, if_pos (by rw [c1, h1])]
      exact h2
    · obtain ⟨pa1, e1, e2⟩ := q.2 (by simp only [sHo, sI, sD_c]; exact c1)
      obtain ⟨t1, pa2, e3, e4, e5⟩ := sSw_ok hdf a b pa1 e1 h3 e2
      refine ⟨t1, pa2, e3, e4, ?_⟩
      rw [Op.lookupswitch.offset_cons, if_neg (fun q => c1 (Int32.toInt_inj.mp (by rw [h1]; exact q.symm)))]
      exact e5
  | [], (_ :: _), _, _, hs, _ => by simp [sPs] at hs
  | (_, _) :: _, [], _, _, hs, _ => by simp [sPs] at hs
  | (_, _) :: _, (.negSucc _, _) :: _, _, _, hs, _ => by simp [sPs] at hs
  | (_, _) :: _, (.ofNat _, .negSucc _) :: _, _, _, hs, _ => by simp [sPs] at hs

theorem so_look (hx : p.tables.exec = Jvm.exec) (hb : c.code = cc) {dflt : Int} {ps0 : Array (Int × Int)} {ps : List (Int × Int)} {len d : Nat} (hd : decode cc pc = .ok (.lookupswitch dflt ps0, len)) (hs : (ps0.toList.zip (ps0.toList.drop 1)).all (fun (a, next) => a.1 < next.1) = true) (hps : sPs pc ps0.toList ps = true) (hdf : (pc : Int) + dflt = (d : Int)) : sStepOk (fun H locs g => W p l e R s m args below meth c H locs cells slots Q g) (sLv D cy A r al hid rest s.heap) m r al nL pc nx (oSw d ps) := by
  intro go hgo L st pa mem H locs ls h hp hv hl
  replace h := sTI_ok h
  obtain ⟨x, st1, rfl, h⟩ := h
  obtain ⟨t, pa1, e1, e2, e3⟩ := sSw_ok hdf _ _ _ hp hps h
  simp only [List.map_cons, sVal]
  exact lv_lookup hx hb hd hs rfl e3 (hgo _ _ _ _ _ _ _ _ e1 e2 hv hl)

def sTab (lo : Int) : List Int → List (Int × Int)
  | [] => []
  | a :: l => (lo, a) :: sTab (lo + 1) l
theorem sTab_ok (d x : Int) : ∀ (l : List Int) (lo : Int), (x < lo ∨ lo + l.length ≤ x → Op.lookupswitch.offset (sTab lo l) d x = d) ∧ (lo ≤ x → x < lo + l.length → l[(x - lo).toNat]? = some (Op.lookupswitch.offset (sTab lo l) d x))
  | [], lo => ⟨fun _ => rfl, fun h1 h2 => by simp at h2; omega⟩
  | a :: l, lo => by
    obtain ⟨i1, i2⟩ := sTab_ok d x l (lo + 1)
    simp only [sTab, List.length_cons, Int.natCast_add, Int.natCast_one]
    refine ⟨fun h => ?_, fun h1 h2 => ?_⟩
    · rw [Op.lookupswitch.offset_cons, if_neg (by omega)]
      exact i1 (by omega)
    · rw [Op.lookupswitch.offset_cons]
      by_cases e0 : lo = x
      · rw [if_pos e0]
        subst e0
        simp
      · rw [if_neg e0, ← i2 (by omega) (by omega)]
        rw [show (x - lo).toNat = (x - (lo + 1)).toNat + 1 by omega]
        rfl

theorem so_table (hx : p.tables.exec = Jvm.exec) (hb : c.code = cc) {dflt lo hi : Int} {offs : Array Int} {ps : List (Int × Int)} {len d : Nat} (hd : decode cc pc = .ok (.tableswitch dflt lo hi offs, len)) (hh : lo + offs.toList.length = hi + 1) (hps : sPs pc (sTab lo offs.toList) ps = true) (hdf : (pc : Int) + dflt = (d : Int)) : sStepOk (fun H locs g => W p l e R s m args below meth c H locs cells slots Q g) (sLv D cy A r al hid rest s.heap) m r al nL pc nx (oSw d ps) := by
  intro go hgo L st pa mem H locs ls h hp hv hl
  replace h := sTI_ok h
  obtain ⟨x, st1, rfl, h⟩ := h
  obtain ⟨t, pa1, e1, e2, e3⟩ := sSw_ok hdf _ _ _ hp hps h
  simp only [List.map_cons, sVal]
  have k := hgo _ _ _ _ _ _ _ _ e1 e2 hv hl
  obtain ⟨i1, i2⟩ := sTab_ok dflt (sI r x).toInt offs.toList lo
  by_cases c1 : (sI r x).toInt < lo ∨ hi < (sI r x).toInt
  · rw [i1 (by omega)] at e3
    exact lv_tableOut hx hb hd c1 e3 k
  · have i3 := i2 (by omega) (by omega)
    rw [Array.getElem?_toList] at i3
    exact lv_tableIn hx hb hd (by omega) (by omega) i3 e3 k

theorem so_getf (hx : p.tables.exec = Jvm.exec) (hb : c.code = cc) {own C : String} {T : u_T} {N idx n : Nat} (hts : ∀ w ∈ sTb, w.before args s = true) (hK : va_K D vwCl (sT cy) s) (hown : s.vm.findClass own = some m.cls) (hc : vwCl[n / 64]? = some (C, T, N)) (hk : n % 64 < N) (hin : ∀ w ∈ u_ws C T N, w ∈ sTb) (hlink : (Cond.fieldLink own idx (T (n % 64)).1 (T (n % 64)).2.1 (T (n % 64)).2.2.1).before args s = true ∨ ∃ host, (Cond.fieldLinkNest own idx (T (n % 64)).1 (T (n % 64)).2.1 (T (n % 64)).2.2.1 host).before args s = true) (hd : decode cc pc = .ok (.getfield idx, 3)) (hn : nx = pc + 3) : sStepOk (fun H locs g => W p l e R s m args below meth c H locs cells slots Q g) (sLv D cy A r al hid rest s.heap) m r al nL pc nx (oGetf n) := by
  intro go hgo L st pa mem H locs ls h hp hv hl
  subst hn
  replace h := sTR_ok h
  obtain ⟨q, st1, rfl, h⟩ := h
  replace h := sCell_ok h
  obtain ⟨ci, vs, h1, h⟩ := h
  replace h := sIf_ok h
  obtain ⟨h2, h⟩ := h
  replace h := sGet_ok _ _ _ h
  obtain ⟨v, h3, h⟩ := h
  have k := hgo _ _ _ _ _ _ _ _ h hp hv hl
  simp only [List.map_cons, sVal] at k ⊢
  have e1 : ci = n / 64 := Nat.eq_of_beq_eq_true h2
  subst e1
  have he := sW_get (r := r) (al := al) (cy := cy) (hid := hid) (rest := rest) h1
  have h4 : (vs.map (sVal r al))[n % 64]? = some (sVal r al v) := by
    rw [List.getElem?_map]
    exact congrArg (Option.map (sVal r al)) h3
  rcases hlink with hlink | ⟨host, hlink⟩
  · exact va_get hx hb hts hin hown hK hv.1 q he hc (n % 64) hk hlink (fun _ h => h) h4 hd k
  · exact va_getN hx hb hts hin hown hK hv.1 q he hc (n % 64) hk hlink (fun _ h => h) h4 hd k

theorem sPutf_ok {n : Nat} {v : sV} {q : Nat} {mem : sM} {k : sM → Bool} (h : sPutf n v q mem k = true) : ∃ vs, mem[q]? = some (0, n / 64, vs) ∧ n % 64 < vs.length ∧ k (mem.set q (0, n / 64, vs.set (n % 64) v)) = true := by
  replace h := sCell_ok h
  obtain ⟨ci, vs, h1, h⟩ := h
  replace h := sIf_ok h
  obtain ⟨h2, h⟩ := h
  replace h := sSet_ok _ _ _ _ h
  obtain ⟨h3, h⟩ := h
  replace h := sSet_ok _ _ _ _ h
  obtain ⟨h4, h⟩ := h
  have e1 : ci = n / 64 := Nat.eq_of_beq_eq_true h2
  subst e1
  exact ⟨vs, h1, h3, h⟩
theorem so_putf (hx : p.tables.exec = Jvm.exec) (hb : c.code = cc) {own C : String} {T : u_T} {N idx n : Nat} (hts : ∀ w ∈ sTb, w.before args s = true) (hK : va_K D vwCl (sT cy) s) (hown : s.vm.findClass own = some m.cls) (hc : vwCl[n / 64]? = some (C, T, N)) (hk : n % 64 < N) (hin : ∀ w ∈ u_ws C T N, w ∈ sTb) (hlink : (Cond.fieldLink own idx (T (n % 64)).1 (T (n % 64)).2.1 (T (n % 64)).2.2.1).before args s = true ∨ ∃ host, (Cond.fieldLinkNest own idx (T (n % 64)).1 (T (n % 64)).2.1 (T (n % 64)).2.2.1 host).before args s = true) (hT : ∃ ty0 : Nat → FieldType, (∀ k, k < N → parseFieldDescriptor (T k).2.2.1 = some (ty0 k)) ∧ ∀ a, a < N → ∀ b, b < N → a ≠ b → (T a).2.1 ≠ (T b).2.1) (hfin : (T (n % 64)).2.2.2 = false) {ty : FieldType} {v : sV} (hty : parseFieldDescriptor (T (n % 64)).2.2.1 = some ty) (hnar : narrow ty (sVal r al v) = sVal r al v) (hfit : fits ty (sVal r al v) = true) (hd : decode cc pc = .ok (.putfield idx, 3)) {mem : sM} {q : Nat} {vs : List sV} (h1 : mem[q]? = some (0, n / 64, vs)) (h2 : n % 64 < vs.length) {H : Heap} {locs : List Loc} {ls : Array Slot} {st : List Value} (hv : sLv D cy A r al hid rest s.heap mem H locs)
    (kk : ∀ (H1 : Heap) (locs1 : List Loc), sLv D cy A r al hid rest s.heap (mem.set q (0, n / 64, vs.set (n % 64) v)) H1 locs1 → W p l e R s m args below meth c H1 locs1 cells slots Q (F0 m (pc + 3) ls st)) : W p l e R s m args below meth c H locs cells slots Q (F0 m pc ls (sVal r al v :: .ref (al q) :: st)) := by
  have he := sW_get (r := r) (al := al) (cy := cy) (hid := hid) (rest := rest) h1
  obtain ⟨ty0, hT1, hT2⟩ := hT
  have hl1 : q < mem.length := (List.getElem?_eq_some_iff.mp h1).1
  have es : (sW r al cy hid rest mem).set q (al q, .inr (n / 64, (vs.map (sVal r al)).set (n % 64) (sVal r al v))) = sW r al cy hid rest (mem.set q (0, n / 64, vs.set (n % 64) v)) := by
    rw [← sW_set hl1, ← List.map_set]
    rfl
  have key : ∀ (H1 : Heap) (locs1 : List Loc), va_P D vwCl ((sW r al cy hid rest mem).set q (al q, .inr (n / 64, (vs.map (sVal r al)).set (n % 64) (sVal r al v)))) H1 → va_D A ((sW r al cy hid rest mem).set q (al q, .inr (n / 64, (vs.map (sVal r al)).set (n % 64) (sVal r al v)))) → va_S A s.heap H1 locs1 → W p l e R s m args below meth c H1 locs1 cells slots Q (F0 m (pc + 3) ls st) := by
    intro H1 locs1 a1 a2 a3
    rw [es] at a1 a2
    exact kk H1 locs1 ⟨a1, a2, a3⟩
  have hlen : n % 64 < (vs.map (sVal r al)).length := by rw [List.length_map]; exact h2
  rcases hlink with hlink | ⟨host, hlink⟩
  · exact va_put hx hb hts hin ty0 hT1 hT2 hown hK hv.1 hv.2.1 hv.2.2 q he hc (n % 64) hk hlink (fun _ h => h) hfin hty hnar hfit hlen hd key
  · exact va_putN hx hb hts hin ty0 hT1 hT2 hown hK hv.1 hv.2.1 hv.2.2 q he hc (n % 64) hk hlink (fun _ h => h) hfin hty hnar hfit hlen hd key

theorem so_putI (hx : p.tables.exec = Jvm.exec) (hb : c.code = cc) {own C : String} {T : u_T} {N idx n : Nat} (hts : ∀ w ∈ sTb, w.before args s = true) (hK : va_K D vwCl (sT cy) s) (hown : s.vm.findClass own = some m.cls) (hc : vwCl[n / 64]? = some (C, T, N)) (hk : n % 64 < N) (hin : ∀ w ∈ u_ws C T N, w ∈ sTb) (hlink : (Cond.fieldLink own idx (T (n % 64)).1 (T (n % 64)).2.1 (T (n % 64)).2.2.1).before args s = true ∨ ∃ host, (Cond.fieldLinkNest own idx (T (n % 64)).1 (T (n % 64)).2.1 (T (n % 64)).2.2.1 host).before args s = true) (hT : ∃ ty0 : Nat → FieldType, (∀ k, k < N → parseFieldDescriptor (T k).2.2.1 = some (ty0 k)) ∧ ∀ a, a < N → ∀ b, b < N → a ≠ b → (T a).2.1 ≠ (T b).2.1) (hfin : (T (n % 64)).2.2.2 = false) (hd : decode cc pc = .ok (.putfield idx, 3)) (hn : nx = pc + 3) (hty : parseFieldDescriptor (T (n % 64)).2.2.1 = some .int) : sStepOk (fun H locs g => W p l e R s m args below meth c H locs cells slots Q g) (sLv D cy A r al hid rest s.heap) m r al nL pc nx (oPutI n) := by
  intro go hgo L st pa mem H locs ls h hp hv hl
  subst hn
  replace h := sTI_ok h
  obtain ⟨v, st1, rfl, h⟩ := h
  replace h := sTR_ok h
  obtain ⟨q, st2, rfl, h⟩ := h
  replace h := sPutf_ok h
  obtain ⟨vs, h1, h2, h⟩ := h
  simp only [List.map_cons]
  exact so_putf hx hb hts hK hown hc hk hin hlink hT hfin hty rfl rfl hd h1 h2 hv (fun H1 locs1 hv1 => hgo _ _ _ _ _ _ _ _ h hp hv1 hl)

theorem so_putJ (hx : p.tables.exec = Jvm.exec) (hb : c.code = cc) {own C : String} {T : u_T} {N idx n : Nat} (hts : ∀ w ∈ sTb, w.before args s = true) (hK : va_K D vwCl (sT cy) s) (hown : s.vm.findClass own = some m.cls) (hc : vwCl[n / 64]? = some (C, T, N)) (hk : n % 64 < N) (hin : ∀ w ∈ u_ws C T N, w ∈ sTb) (hlink : (Cond.fieldLink own idx (T (n % 64)).1 (T (n % 64)).2.1 (T (n % 64)).2.2.1).before args s = true ∨ ∃ host, (Cond.fieldLinkNest own idx (T (n % 64)).1 (T (n % 64)).2.1 (T (n % 64)).2.2.1 host).before args s = true) (hT : ∃ ty0 : Nat → FieldType, (∀ k, k < N → parseFieldDescriptor (T k).2.2.1 = some (ty0 k)) ∧ ∀ a, a < N → ∀ b, b < N → a ≠ b → (T a).2.1 ≠ (T b).2.1) (hfin : (T (n % 64)).2.2.2 = false) (hd : decode cc pc = .ok (.putfield idx, 3)) (hn : nx = pc + 3) (hty : parseFieldDescriptor (T (n % 64)).2.2.1 = some .long) : sStepOk (fun H locs g => W p l e R s m args below meth c H locs cells slots Q g) (sLv D cy A r al hid rest s.heap) m r al nL pc nx (oPutJ n) := by
  intro go hgo L st pa mem H locs ls h hp hv hl
  subst hn
  replace h := sTL_ok h
  obtain ⟨v, st1, rfl, h⟩ := h
  replace h := sTR_ok h
  obtain ⟨q, st2, rfl, h⟩ := h
  replace h := sPutf_ok h
  obtain ⟨vs, h1, h2, h⟩ := h
  simp only [List.map_cons]
  exact so_putf hx hb hts hK hown hc hk hin hlink hT hfin hty rfl rfl hd h1 h2 hv (fun H1 locs1 hv1 => hgo _ _ _ _ _ _ _ _ h hp hv1 hl)

theorem so_putZ (hx : p.tables.exec = Jvm.exec) (hb : c.code = cc) {own C : String} {T : u_T} {N idx n : Nat} (hts : ∀ w ∈ sTb, w.before args s = true) (hK : va_K D vwCl (sT cy) s) (hown : s.vm.findClass own = some m.cls) (hc : vwCl[n / 64]? = some (C, T, N)) (hk : n % 64 < N) (hin : ∀ w ∈ u_ws C T N, w ∈ sTb) (hlink : (Cond.fieldLink own idx (T (n % 64)).1 (T (n % 64)).2.1 (T (n % 64)).2.2.1).before args s = true ∨ ∃ host, (Cond.fieldLinkNest own idx (T (n % 64)).1 (T (n % 64)).2.1 (T (n % 64)).2.2.1 host).before args s = true) (hT : ∃ ty0 : Nat → FieldType, (∀ k, k < N → parseFieldDescriptor (T k).2.2.1 = some (ty0 k)) ∧ ∀ a, a < N → ∀ b, b < N → a ≠ b → (T a).2.1 ≠ (T b).2.1) (hfin : (T (n % 64)).2.2.2 = false) (hd : decode cc pc = .ok (.putfield idx, 3)) (hn : nx = pc + 3) (hty : parseFieldDescriptor (T (n % 64)).2.2.1 = some .boolean) : sStepOk (fun H locs g => W p l e R s m args below meth c H locs cells slots Q g) (sLv D cy A r al hid rest s.heap) m r al nL pc nx (oPutZ n) := by
  intro go hgo L st pa mem H locs ls h hp hv hl
  subst hn
  replace h := sTI_ok h
  obtain ⟨v, st1, rfl, h⟩ := h
  replace h := sNum_ok h
  obtain ⟨b, rfl, h⟩ := h
  replace h := sIf_ok h
  obtain ⟨hb1, h⟩ := h
  replace h := sTR_ok h
  obtain ⟨q, st2, rfl, h⟩ := h
  replace h := sPutf_ok h
  obtain ⟨vs, h1, h2, h⟩ := h
  simp only [List.map_cons]
  have hb2 : b ≤ 1 := Nat.le_of_ble_eq_true hb1
  have e1 : narrow .boolean (sVal r al (.inl (.natCast b))) = sVal r al (.inl (.natCast b)) := by
    rcases (show b = 0 ∨ b = 1 by omega) with rfl | rfl <;> simp only [sVal, sI, sD_c] <;> decide
  have e2 : fits .boolean (sVal r al (.inl (.natCast b))) = true := by
    rcases (show b = 0 ∨ b = 1 by omega) with rfl | rfl <;> simp only [sVal, sI, sD_c] <;> decide
  exact so_putf hx hb hts hK hown hc hk hin hlink hT hfin hty e1 e2 hd h1 h2 hv (fun H1 locs1 hv1 => hgo _ _ _ _ _ _ _ _ h hp hv1 hl)

theorem s_in {i n : Nat} (h : i < n) (hi : i < 2 ^ 31) : vp_in (Int32.ofNat i) n := by
  have h1 : (Int32.ofNat i).toNatClampNeg = i := nI_clamp hi
  have h2 : (Int32.ofNat i).toInt = (i : Int) := nI_toInt hi
  rintro (q | q)
  · rw [Int32.lt_iff_toInt_lt, h2] at q
    simp at q
    omega
  · rw [h1] at q
    omega
theorem sIx_ok {st : List sV} {k : Nat → Nat → List sV → Bool} (h : sIx st k = true) : ∃ i q st1, st = .inl (.natCast i) :: .inr (.inr (some q)) :: st1 ∧ i < 2 ^ 31 ∧ k i q st1 = true := by
  replace h := sTI_ok h
  obtain ⟨x, st1, rfl, h⟩ := h
  replace h := sNum_ok h
  obtain ⟨i, rfl, h⟩ := h
  replace h := sIf_ok h
  obtain ⟨h1, h⟩ := h
  replace h := sTR_ok h
  obtain ⟨q, st2, rfl, h⟩ := h
  exact ⟨i, q, st2, rfl, Nat.le_of_ble_eq_true h1, h⟩
theorem sPuta_ok {K : Nat} {v : sV} {i q : Nat} {mem : sM} {k : sM → Bool} (h : sPuta K v i q mem k = true) : ∃ u vs, mem[q]? = some (K, u, vs) ∧ i < vs.length ∧ k (mem.set q (K, u, vs.set i v)) = true := by
  replace h := sCell_ok h
  obtain ⟨u, vs, h1, h⟩ := h
  replace h := sSet_ok _ _ _ _ h
  obtain ⟨h3, h⟩ := h
  replace h := sSet_ok _ _ _ _ h
  obtain ⟨h4, h⟩ := h
  exact ⟨u, vs, h1, h3, h⟩
theorem s_updI {vs : List sV} {i : Nat} {x : sX} (h : i < vs.length) : upd (fun j => sInt r vs[j]?) i (sI r x) = fun j => sInt r (vs.set i (.inl x))[j]? := by
  funext j
  unfold upd
  rw [List.getElem?_set]
  by_cases e0 : j = i
  · subst e0
    simp [h, sInt]
  · simp [e0, Ne.symm e0]
theorem s_updL {vs : List sV} {i : Nat} {x : sX} (h : i < vs.length) : vp_updL (fun j => sLng r vs[j]?) i (sJ r x) = fun j => sLng r (vs.set i (.inr (.inl x)))[j]? := by
  funext j
  unfold vp_updL
  rw [List.getElem?_set]
  by_cases e0 : j = i
  · subst e0
    simp [h, sLng]
  · simp [e0, Ne.symm e0]

theorem va_aldg (hexec : p.tables.exec = Jvm.exec) (hb : c.code = cc) {D : va_G} {cl : List vw_C} {tys : List (ClassId × FieldType)} {ws : va_W} {a : Nat} {H : Heap} {locs : List Loc} {ls : Array Slot} {rest : List Value} (hK : va_K D cl tys s) (hP : va_P D cl ws H) (q0 t0 : Nat) {cA : ClassId} {ty : FieldType} {n : Nat} {f : Nat → Option Nat} (ha : ws[q0]? = some (a, .inl (cA, n, .inr (.inr (.inr (.inr f)))))) (ht : tys[t0]? = some (cA, .array ty)) {i : Int32} (hin : vp_in i n) (hdg : decode cc pc = .ok (.aaload, 1))
    (kk : W p l e R s m args below meth c H locs cells slots Q (F0 m (pc + 1) ls (va_rf (f i.toNatClampNeg) :: rest))) : W p l e R s m args below meth c H locs cells slots Q (F0 m pc ls (.int i :: .ref a :: rest)) := by
  have hlt : i.toNatClampNeg < n := Nat.not_le.mp fun q => hin (Or.inr q)
  exact W.aald (v := va_rf (f i.toNatClampNeg)) (ty := .array ty) hexec hb (hP q0 _ ha) ((hK.2 t0 _ ht).1 n (fun j => va_rf (f j))) rfl (fun q => by cases q) (by show ¬ (i < 0 ∨ (arrV _ _ _).slots.size ≤ _); rw [arrV_size]; exact hin) (by show (arrV _ _ _).slots[_]? = _; rw [arrV_read _ _ hlt]) rfl rfl hdg kk

theorem so_rd1 (hx : p.tables.exec = Jvm.exec) (hb : c.code = cc) (hK : va_K D vwCl (sT cy) s) (hd : decode cc pc = .ok (.iaload, 1)) {go : List sV → Bool} {mem : sM} {i q : Nat} {st : List sV} {H : Heap} {locs : List Loc} {ls : Array Slot} (h : sCell mem q 1 (fun _ vs => sGet vs i (fun v => sVI v (fun x => go (.inl x :: st)))) = true) (hi : i < 2 ^ 31) (hv : sLv D cy A r al hid rest s.heap mem H locs) (kk : ∀ st1 : List sV, go st1 = true → W p l e R s m args below meth c H locs cells slots Q (F0 m (pc + 1) ls (st1.map (sVal r al)))) : W p l e R s m args below meth c H locs cells slots Q (F0 m pc ls (.int (Int32.ofNat i) :: .ref (al q) :: st.map (sVal r al))) := by
  replace h := sCell_ok h
  obtain ⟨u, vs, h1, h⟩ := h
  replace h := sGet_ok _ _ _ h
  obtain ⟨v, h2, h⟩ := h
  replace h := sVI_ok h
  obtain ⟨x, rfl, h⟩ := h
  have k := kk _ h
  simp only [List.map_cons] at k
  have he := sW_get (r := r) (al := al) (cy := cy) (hid := hid) (rest := rest) h1
  have hlt : i < vs.length := (List.getElem?_eq_some_iff.mp h2).1
  have e1 : sInt r vs[(Int32.ofNat i).toNatClampNeg]? = sI r x := by
    rw [show (Int32.ofNat i).toNatClampNeg = i from nI_clamp hi, h2]
    rfl
  simp only [sVal] at k
  rw [← e1] at k
  exact va_iald hx hb hK hv.1 q 0 he rfl (s_in hlt hi) hd k

theorem so_rd2 (hx : p.tables.exec = Jvm.exec) (hb : c.code = cc) (hK : va_K D vwCl (sT cy) s) (hd : decode cc pc = .ok (.baload, 1)) {go : List sV → Bool} {mem : sM} {i q : Nat} {st : List sV} {H : Heap} {locs : List Loc} {ls : Array Slot} (h : sCell mem q 2 (fun _ vs => sGet vs i (fun v => sVI v (fun x => go (.inl x :: st)))) = true) (hi : i < 2 ^ 31) (hv : sLv D cy A r al hid rest s.heap mem H locs) (kk : ∀ st1 : List sV, go st1 = true → W p l e R s m args below meth c H locs cells slots Q (F0 m (pc + 1) ls (st1.map (sVal r al)))) : W p l e R s m args below meth c H locs cells slots Q (F0 m pc ls (.int (Int32.ofNat i) :: .ref (al q) :: st.map (sVal r al))) := by
  replace h := sCell_ok h
  obtain ⟨u, vs, h1, h⟩ := h
  replace h := sGet_ok _ _ _ h
  obtain ⟨v, h2, h⟩ := h
  replace h := sVI_ok h
  obtain ⟨x, rfl, h⟩ := h
  have k := kk _ h
  simp only [List.map_cons] at k
  have he := sW_get (r := r) (al := al) (cy := cy) (hid := hid) (rest := rest) h1
  have hlt : i < vs.length := (List.getElem?_eq_some_iff.mp h2).1
  have e1 : sInt r vs[(Int32.ofNat i).toNatClampNeg]? = sI r x := by
    rw [show (Int32.ofNat i).toNatClampNeg = i from nI_clamp hi, h2]
    rfl
  simp only [sVal] at k
  rw [← e1] at k
  exact va_bald hx hb hK hv.1 q 1 he rfl (s_in hlt hi) hd k

theorem so_rd3 (hx : p.tables.exec = Jvm.exec) (hb : c.code = cc) (hK : va_K D vwCl (sT cy) s) (hd : decode cc pc = .ok (.baload, 1)) {go : List sV → Bool} {mem : sM} {i q : Nat} {st : List sV} {H : Heap} {locs : List Loc} {ls : Array Slot} (h : sCell mem q 3 (fun _ vs => sGet vs i (fun v => sVI v (fun x => go (.inl x :: st)))) = true) (hi : i < 2 ^ 31) (hv : sLv D cy A r al hid rest s.heap mem H locs) (kk : ∀ st1 : List sV, go st1 = true → W p l e R s m args below meth c H locs cells slots Q (F0 m (pc + 1) ls (st1.map (sVal r al)))) : W p l e R s m args below meth c H locs cells slots Q (F0 m pc ls (.int (Int32.ofNat i) :: .ref (al q) :: st.map (sVal r al))) := by
  replace h := sCell_ok h
  obtain ⟨u, vs, h1, h⟩ := h
  replace h := sGet_ok _ _ _ h
  obtain ⟨v, h2, h⟩ := h
  replace h := sVI_ok h
  obtain ⟨x, rfl, h⟩ := h
  have k := kk _ h
  simp only [List.map_cons] at k
  have he := sW_get (r := r) (al := al) (cy := cy) (hid := hid) (rest := rest) h1
  have hlt : i < vs.length := (List.getElem?_eq_some_iff.mp h2).1
  have e1 : sInt r vs[(Int32.ofNat i).toNatClampNeg]? = sI r x := by
    rw [show (Int32.ofNat i).toNatClampNeg = i from nI_clamp hi, h2]
    rfl
  simp only [sVal] at k
  rw [← e1] at k
  exact va_zald hx hb hK hv.1 q 2 he rfl (s_in hlt hi) hd k

theorem so_rd4 (hx : p.tables.exec = Jvm.exec) (hb : c.code = cc) (hK : va_K D vwCl (sT cy) s) (hd : decode cc pc = .ok (.laload, 1)) {go : List sV → Bool} {mem : sM} {i q : Nat} {st : List sV} {H : Heap} {locs : List Loc} {ls : Array Slot} (h : sCell mem q 4 (fun _ vs => sGet vs i (fun v => sVL v (fun x => go (.inr (.inl x) :: st)))) = true) (hi : i < 2 ^ 31) (hv : sLv D cy A r al hid rest s.heap mem H locs) (kk : ∀ st1 : List sV, go st1 = true → W p l e R s m args below meth c H locs cells slots Q (F0 m (pc + 1) ls (st1.map (sVal r al)))) : W p l e R s m args below meth c H locs cells slots Q (F0 m pc ls (.int (Int32.ofNat i) :: .ref (al q) :: st.map (sVal r al))) := by
  replace h := sCell_ok h
  obtain ⟨u, vs, h1, h⟩ := h
  replace h := sGet_ok _ _ _ h
  obtain ⟨v, h2, h⟩ := h
  replace h := sVL_ok h
  obtain ⟨x, rfl, h⟩ := h
  have k := kk _ h
  simp only [List.map_cons] at k
  have he := sW_get (r := r) (al := al) (cy := cy) (hid := hid) (rest := rest) h1
  have hlt : i < vs.length := (List.getElem?_eq_some_iff.mp h2).1
  have e1 : sLng r vs[(Int32.ofNat i).toNatClampNeg]? = sJ r x := by
    rw [show (Int32.ofNat i).toNatClampNeg = i from nI_clamp hi, h2]
    rfl
  simp only [sVal] at k
  rw [← e1] at k
  exact va_lald hx hb hK hv.1 q 3 he rfl (s_in hlt hi) hd k

theorem so_rd5 (hx : p.tables.exec = Jvm.exec) (hb : c.code = cc) (hK : va_K D vwCl (sT cy) s) (hd : decode cc pc = .ok (.aaload, 1)) {go : List sV → Bool} {mem : sM} {i q : Nat} {st : List sV} {H : Heap} {locs : List Loc} {ls : Array Slot} (h : sCell mem q 5 (fun _ vs => sGet vs i (fun v => sVR v (fun x => go (.inr (.inr (some x)) :: st)))) = true) (hi : i < 2 ^ 31) (hv : sLv D cy A r al hid rest s.heap mem H locs) (kk : ∀ st1 : List sV, go st1 = true → W p l e R s m args below meth c H locs cells slots Q (F0 m (pc + 1) ls (st1.map (sVal r al)))) : W p l e R s m args below meth c H locs cells slots Q (F0 m pc ls (.int (Int32.ofNat i) :: .ref (al q) :: st.map (sVal r al))) := by
  replace h := sCell_ok h
  obtain ⟨u, vs, h1, h⟩ := h
  replace h := sGet_ok _ _ _ h
  obtain ⟨v, h2, h⟩ := h
  replace h := sVR_ok h
  obtain ⟨x, rfl, h⟩ := h
  have k := kk _ h
  simp only [List.map_cons] at k
  have he := sW_get (r := r) (al := al) (cy := cy) (hid := hid) (rest := rest) h1
  have hlt : i < vs.length := (List.getElem?_eq_some_iff.mp h2).1
  have e1 : sRef al vs[(Int32.ofNat i).toNatClampNeg]? = some (al x) := by
    rw [show (Int32.ofNat i).toNatClampNeg = i from nI_clamp hi, h2]
    rfl
  simp only [sVal] at k
  rw [show Value.ref (al x) = va_rf (some (al x)) from rfl, ← e1] at k
  exact va_aldq hx hb hK hv.1 q 4 he rfl (s_in hlt hi) hd k

theorem so_rd6 (hx : p.tables.exec = Jvm.exec) (hb : c.code = cc) (hK : va_K D vwCl (sT cy) s) (hd : decode cc pc = .ok (.aaload, 1)) {go : List sV → Bool} {mem : sM} {i q : Nat} {st : List sV} {H : Heap} {locs : List Loc} {ls : Array Slot} (h : sCell mem q 6 (fun _ vs => sGet vs i (fun v => sVR v (fun x => go (.inr (.inr (some x)) :: st)))) = true) (hi : i < 2 ^ 31) (hv : sLv D cy A r al hid rest s.heap mem H locs) (kk : ∀ st1 : List sV, go st1 = true → W p l e R s m args below meth c H locs cells slots Q (F0 m (pc + 1) ls (st1.map (sVal r al)))) : W p l e R s m args below meth c H locs cells slots Q (F0 m pc ls (.int (Int32.ofNat i) :: .ref (al q) :: st.map (sVal r al))) := by
  replace h := sCell_ok h
  obtain ⟨u, vs, h1, h⟩ := h
  replace h := sGet_ok _ _ _ h
  obtain ⟨v, h2, h⟩ := h
  replace h := sVR_ok h
  obtain ⟨x, rfl, h⟩ := h
  have k := kk _ h
  simp only [List.map_cons] at k
  have he := sW_get (r := r) (al := al) (cy := cy) (hid := hid) (rest := rest) h1
  have hlt : i < vs.length := (List.getElem?_eq_some_iff.mp h2).1
  have e1 : sRef al vs[(Int32.ofNat i).toNatClampNeg]? = some (al x) := by
    rw [show (Int32.ofNat i).toNatClampNeg = i from nI_clamp hi, h2]
    rfl
  simp only [sVal] at k
  rw [show Value.ref (al x) = va_rf (some (al x)) from rfl, ← e1] at k
  exact va_aldg hx hb hK hv.1 q 5 he rfl (s_in hlt hi) hd k

theorem so_iaload (hx : p.tables.exec = Jvm.exec) (hb : c.code = cc) (hK : va_K D vwCl (sT cy) s) (hst : sSt al A s s.heap) (hd : decode cc pc = .ok (.iaload, 1)) (hn : nx = pc + 1) : sStepOk (fun H locs g => W p l e R s m args below meth c H locs cells slots Q g) (sLv D cy A r al hid rest s.heap) m r al nL pc nx oIaload := by
  intro go hgo L st pa mem H locs ls h hp hv hl
  subst hn
  replace h := sIx_ok h
  obtain ⟨i, q, st1, rfl, hi, h⟩ := h
  simp only [List.map_cons, sVal, sI, sD_c]
  cases hq : Nat.ble q (nat_lit 999999) with
  | true =>
    simp only [hq] at h
    exact so_rd1 (go := fun st => go (pc + 1) L st pa mem) hx hb hK hd h hi hv (fun st2 h2 => hgo _ _ _ _ _ _ _ _ h2 hp hv hl)
  | false =>
    simp only [hq] at h
    unfold sStat at h
    cases hq1 : Nat.beq q (nat_lit 1000000) with
    | true =>
      simp only [hq1] at h
      replace h := sGet_ok _ _ _ h
      obtain ⟨v, h1, h⟩ := h
      have k := hgo _ _ _ _ _ _ _ _ h hp hv hl
      simp only [List.map_cons, sVal, sI, sD_c] at k
      have e1 : q = 1000000 := Nat.eq_of_beq_eq_true hq1
      subst e1
      have hlt : i < 7 := (List.getElem?_eq_some_iff.mp h1).1
      exact va_ti hx hb hst.2.1 hv.2.2 (s_in hlt hi) (by rw [show (Int32.ofNat i).toNatClampNeg = i from nI_clamp hi]; unfold sFn; rw [List.getD_eq_getElem?_getD, h1]; rfl) hd k
    | false =>
      simp only [hq1] at h
      replace h := sIf_ok h
      obtain ⟨h0, h⟩ := h
      replace h := sGet_ok _ _ _ h
      obtain ⟨v, h1, h⟩ := h
      have k := hgo _ _ _ _ _ _ _ _ h hp hv hl
      simp only [List.map_cons, sVal, sI, sD_c] at k
      have e1 : q = 1000001 := Nat.eq_of_beq_eq_true h0
      subst e1
      have hlt : i < 18 := (List.getElem?_eq_some_iff.mp h1).1
      exact va_ti hx hb hst.2.2.2 hv.2.2 (s_in hlt hi) (by rw [show (Int32.ofNat i).toNatClampNeg = i from nI_clamp hi]; unfold sFn; rw [List.getD_eq_getElem?_getD, h1]; rfl) hd k

theorem so_baload (hx : p.tables.exec = Jvm.exec) (hb : c.code = cc) (hK : va_K D vwCl (sT cy) s) (hd : decode cc pc = .ok (.baload, 1)) (hn : nx = pc + 1) : sStepOk (fun H locs g => W p l e R s m args below meth c H locs cells slots Q g) (sLv D cy A r al hid rest s.heap) m r al nL pc nx oBaload := by
  intro go hgo L st pa mem H locs ls h hp hv hl
  subst hn
  replace h := sIx_ok h
  obtain ⟨i, q, st1, rfl, hi, h⟩ := h
  simp only [List.map_cons, sVal, sI, sD_c]
  rcases Bool.or_eq_true_iff.mp h with h | h
  · exact so_rd2 (go := fun st => go (pc + 1) L st pa mem) hx hb hK hd h hi hv (fun st2 h2 => hgo _ _ _ _ _ _ _ _ h2 hp hv hl)
  · exact so_rd3 (go := fun st => go (pc + 1) L st pa mem) hx hb hK hd h hi hv (fun st2 h2 => hgo _ _ _ _ _ _ _ _ h2 hp hv hl)

theorem so_arraylength (hx : p.tables.exec = Jvm.exec) (hb : c.code = cc) (hK : va_K D vwCl (sT cy) s) (hd : decode cc pc = .ok (.arraylength, 1)) (hn : nx = pc + 1) : sStepOk (fun H locs g => W p l e R s m args below meth c H locs cells slots Q g) (sLv D cy A r al hid rest s.heap) m r al nL pc nx oLen := by
  intro go hgo L st pa mem H locs ls h hp hv hl
  subst hn
  replace h := sTR_ok h
  obtain ⟨q, st1, rfl, h⟩ := h
  replace h := sCell_ok h
  obtain ⟨u, vs, h1, h⟩ := h
  rw [sFc_eq] at h
  have k := hgo _ _ _ _ _ _ _ _ h hp hv hl
  simp only [List.map_cons, sVal, sI, sD_c] at k ⊢
  have he := sW_get (r := r) (al := al) (cy := cy) (hid := hid) (rest := rest) h1
  exact va_alen hx hb hK hv.1 q 0 he rfl (by rw [sLn_ok]) hd k

theorem so_laload (hx : p.tables.exec = Jvm.exec) (hb : c.code = cc) (hK : va_K D vwCl (sT cy) s) (hd : decode cc pc = .ok (.laload, 1)) (hn : nx = pc + 1) : sStepOk (fun H locs g => W p l e R s m args below meth c H locs cells slots Q g) (sLv D cy A r al hid rest s.heap) m r al nL pc nx oLaload := by
  intro go hgo L st pa mem H locs ls h hp hv hl
  subst hn
  replace h := sIx_ok h
  obtain ⟨i, q, st1, rfl, hi, h⟩ := h
  simp only [List.map_cons, sVal, sI, sD_c]
  exact so_rd4 (go := fun st => go (pc + 1) L st pa mem) hx hb hK hd h hi hv (fun st2 h2 => hgo _ _ _ _ _ _ _ _ h2 hp hv hl)

theorem so_aaload (hx : p.tables.exec = Jvm.exec) (hb : c.code = cc) (hK : va_K D vwCl (sT cy) s) (hd : decode cc pc = .ok (.aaload, 1)) (hn : nx = pc + 1) : sStepOk (fun H locs g => W p l e R s m args below meth c H locs cells slots Q g) (sLv D cy A r al hid rest s.heap) m r al nL pc nx oAaload := by
  intro go hgo L st pa mem H locs ls h hp hv hl
  subst hn
  replace h := sIx_ok h
  obtain ⟨i, q, st1, rfl, hi, h⟩ := h
  simp only [List.map_cons, sVal, sI, sD_c]
  rcases Bool.or_eq_true_iff.mp h with h | h
  · exact so_rd5 (go := fun st => go (pc + 1) L st pa mem) hx hb hK hd h hi hv (fun st2 h2 => hgo _ _ _ _ _ _ _ _ h2 hp hv hl)
  · exact so_rd6 (go := fun st => go (pc + 1) L st pa mem) hx hb hK hd h hi hv (fun st2 h2 => hgo _ _ _ _ _ _ _ _ h2 hp hv hl)

theorem so_wr1 (hx : p.tables.exec = Jvm.exec) (hb : c.code = cc) (hK : va_K D vwCl (sT cy) s) (hd : decode cc pc = .ok (.iastore, 1)) {go : sM → Bool} {mem : sM} {i q : Nat} {x z : sX} {st : List Value} {H : Heap} {locs : List Loc} {ls : Array Slot} (hz : sI r z = sI r x) (h : sPuta 1 (.inl z) i q mem go = true) (hi : i < 2 ^ 31) (hv : sLv D cy A r al hid rest s.heap mem H locs) (kk : ∀ (mem1 : sM) (H1 : Heap) (locs1 : List Loc), go mem1 = true → sLv D cy A r al hid rest s.heap mem1 H1 locs1 → W p l e R s m args below meth c H1 locs1 cells slots Q (F0 m (pc + 1) ls st)) : W p l e R s m args below meth c H locs cells slots Q (F0 m pc ls (.int (sI r x) :: .int (Int32.ofNat i) :: .ref (al q) :: st)) := by
  replace h := sPuta_ok h
  obtain ⟨u, vs, h1, h2, h⟩ := h
  have he := sW_get (r := r) (al := al) (cy := cy) (hid := hid) (rest := rest) h1
  have hl1 : q < mem.length := (List.getElem?_eq_some_iff.mp h1).1
  have hcl : (Int32.ofNat i).toNatClampNeg = i := nI_clamp hi
  refine va_iast hx hb hK hv.1 hv.2.1 hv.2.2 q 0 he rfl (s_in h2 hi) hd (fun H1 locs1 a1 a2 a3 => kk _ H1 locs1 h ⟨?_, ?_, a3⟩)
  · rw [hcl, ← hz, s_updI h2] at a1
    rw [← sW_set hl1]
    simpa [sCe] using a1
  · rw [hcl, ← hz, s_updI h2] at a2
    rw [← sW_set hl1]
    simpa [sCe] using a2

theorem so_wr2 (hx : p.tables.exec = Jvm.exec) (hb : c.code = cc) (hK : va_K D vwCl (sT cy) s) (hd : decode cc pc = .ok (.bastore, 1)) {go : sM → Bool} {mem : sM} {i q : Nat} {x z : sX} {st : List Value} {H : Heap} {locs : List Loc} {ls : Array Slot} (hz : sI r z = vp_nar .byte (sI r x)) (h : sPuta 2 (.inl z) i q mem go = true) (hi : i < 2 ^ 31) (hv : sLv D cy A r al hid rest s.heap mem H locs) (kk : ∀ (mem1 : sM) (H1 : Heap) (locs1 : List Loc), go mem1 = true → sLv D cy A r al hid rest s.heap mem1 H1 locs1 → W p l e R s m args below meth c H1 locs1 cells slots Q (F0 m (pc + 1) ls st)) : W p l e R s m args below meth c H locs cells slots Q (F0 m pc ls (.int (sI r x) :: .int (Int32.ofNat i) :: .ref (al q) :: st)) := by
  replace h := sPuta_ok h
  obtain ⟨u, vs, h1, h2, h⟩ := h
  have he := sW_get (r := r) (al := al) (cy := cy) (hid := hid) (rest := rest) h1
  have hl1 : q < mem.length := (List.getElem?_eq_some_iff.mp h1).1
  have hcl : (Int32.ofNat i).toNatClampNeg = i := nI_clamp hi
  refine va_bast hx hb hK hv.1 hv.2.1 hv.2.2 q 1 he rfl (s_in h2 hi) hd (fun H1 locs1 a1 a2 a3 => kk _ H1 locs1 h ⟨?_, ?_, a3⟩)
  · rw [hcl, ← hz, s_updI h2] at a1
    rw [← sW_set hl1]
    simpa [sCe] using a1
  · rw [hcl, ← hz, s_updI h2] at a2
    rw [← sW_set hl1]
    simpa [sCe] using a2

theorem so_wr3 (hx : p.tables.exec = Jvm.exec) (hb : c.code = cc) (hK : va_K D vwCl (sT cy) s) (hd : decode cc pc = .ok (.bastore, 1)) {go : sM → Bool} {mem : sM} {i q : Nat} {x z : sX} {st : List Value} {H : Heap} {locs : List Loc} {ls : Array Slot} (hz : sI r z = vp_nar .boolean (sI r x)) (h : sPuta 3 (.inl z) i q mem go = true) (hi : i < 2 ^ 31) (hv : sLv D cy A r al hid rest s.heap mem H locs) (kk : ∀ (mem1 : sM) (H1 : Heap) (locs1 : List Loc), go mem1 = true → sLv D cy A r al hid rest s.heap mem1 H1 locs1 → W p l e R s m args below meth c H1 locs1 cells slots Q (F0 m (pc + 1) ls st)) : W p l e R s m args below meth c H locs cells slots Q (F0 m pc ls (.int (sI r x) :: .int (Int32.ofNat i) :: .ref (al q) :: st)) := by
  replace h := sPuta_ok h
  obtain ⟨u, vs, h1, h2, h⟩ := h
  have he := sW_get (r := r) (al := al) (cy := cy) (hid := hid) (rest := rest) h1
  have hl1 : q < mem.length := (List.getElem?_eq_some_iff.mp h1).1
  have hcl : (Int32.ofNat i).toNatClampNeg = i := nI_clamp hi
  refine va_zast hx hb hK hv.1 hv.2.1 hv.2.2 q 2 he rfl (s_in h2 hi) hd (fun H1 locs1 a1 a2 a3 => kk _ H1 locs1 h ⟨?_, ?_, a3⟩)
  · rw [hcl, ← hz, s_updI h2] at a1
    rw [← sW_set hl1]
    simpa [sCe] using a1
  · rw [hcl, ← hz, s_updI h2] at a2
    rw [← sW_set hl1]
    simpa [sCe] using a2

theorem so_wr4 (hx : p.tables.exec = Jvm.exec) (hb : c.code = cc) (hK : va_K D vwCl (sT cy) s) (hd : decode cc pc = .ok (.lastore, 1)) {go : sM → Bool} {mem : sM} {i q : Nat} {x z : sX} {st : List Value} {H : Heap} {locs : List Loc} {ls : Array Slot} (hz : sJ r z = sJ r x) (h : sPuta 4 (.inr (.inl z)) i q mem go = true) (hi : i < 2 ^ 31) (hv : sLv D cy A r al hid rest s.heap mem H locs) (kk : ∀ (mem1 : sM) (H1 : Heap) (locs1 : List Loc), go mem1 = true → sLv D cy A r al hid rest s.heap mem1 H1 locs1 → W p l e R s m args below meth c H1 locs1 cells slots Q (F0 m (pc + 1) ls st)) : W p l e R s m args below meth c H locs cells slots Q (F0 m pc ls (.long (sJ r x) :: .int (Int32.ofNat i) :: .ref (al q) :: st)) := by
  replace h := sPuta_ok h
  obtain ⟨u, vs, h1, h2, h⟩ := h
  have he := sW_get (r := r) (al := al) (cy := cy) (hid := hid) (rest := rest) h1
  have hl1 : q < mem.length := (List.getElem?_eq_some_iff.mp h1).1
  have hcl : (Int32.ofNat i).toNatClampNeg = i := nI_clamp hi
  refine va_last hx hb hK hv.1 hv.2.1 hv.2.2 q 3 he rfl (s_in h2 hi) hd (fun H1 locs1 a1 a2 a3 => kk _ H1 locs1 h ⟨?_, ?_, a3⟩)
  · rw [hcl, ← hz, s_updL h2] at a1
    rw [← sW_set hl1]
    simpa [sCe] using a1
  · rw [hcl, ← hz, s_updL h2] at a2
    rw [← sW_set hl1]
    simpa [sCe] using a2

theorem so_iastore (hx : p.tables.exec = Jvm.exec) (hb : c.code = cc) (hK : va_K D vwCl (sT cy) s) (hd : decode cc pc = .ok (.iastore, 1)) (hn : nx = pc + 1) : sStepOk (fun H locs g => W p l e R s m args below meth c H locs cells slots Q g) (sLv D cy A r al hid rest s.heap) m r al nL pc nx oIastore := by
  intro go hgo L st pa mem H locs ls h hp hv hl
  subst hn
  replace h := sTI_ok h
  obtain ⟨x, st0, rfl, h⟩ := h
  replace h := sIx_ok h
  obtain ⟨i, q, st1, rfl, hi, h⟩ := h
  simp only [List.map_cons, sVal]
  rw [show sI r (.natCast i) = Int32.ofNat i by simp only [sI, sD_c]]
  exact so_wr1 hx hb hK hd rfl h hi hv (fun mem1 H1 locs1 h2 hv1 => hgo _ _ _ _ _ _ _ _ h2 hp hv1 hl)

theorem so_lastore (hx : p.tables.exec = Jvm.exec) (hb : c.code = cc) (hK : va_K D vwCl (sT cy) s) (hd : decode cc pc = .ok (.lastore, 1)) (hn : nx = pc + 1) : sStepOk (fun H locs g => W p l e R s m args below meth c H locs cells slots Q g) (sLv D cy A r al hid rest s.heap) m r al nL pc nx oLastore := by
  intro go hgo L st pa mem H locs ls h hp hv hl
  subst hn
  replace h := sTL_ok h
  obtain ⟨x, st0, rfl, h⟩ := h
  replace h := sIx_ok h
  obtain ⟨i, q, st1, rfl, hi, h⟩ := h
  simp only [List.map_cons, sVal]
  rw [show sI r (.natCast i) = Int32.ofNat i by simp only [sI, sD_c]]
  exact so_wr4 hx hb hK hd rfl h hi hv (fun mem1 H1 locs1 h2 hv1 => hgo _ _ _ _ _ _ _ _ h2 hp hv1 hl)

theorem so_bastore (hx : p.tables.exec = Jvm.exec) (hb : c.code = cc) (hK : va_K D vwCl (sT cy) s) (hd : decode cc pc = .ok (.bastore, 1)) (hn : nx = pc + 1) : sStepOk (fun H locs g => W p l e R s m args below meth c H locs cells slots Q g) (sLv D cy A r al hid rest s.heap) m r al nL pc nx oBastore := by
  intro go hgo L st pa mem H locs ls h hp hv hl
  subst hn
  replace h := sTI_ok h
  obtain ⟨x, st0, rfl, h⟩ := h
  replace h := sIx_ok h
  obtain ⟨i, q, st1, rfl, hi, h⟩ := h
  simp only [List.map_cons, sVal]
  rw [show sI r (.natCast i) = Int32.ofNat i by simp only [sI, sD_c]]
  rcases Bool.or_eq_true_iff.mp h with h | h
  · replace h := sUn_I (r := r) (g := fun a => vp_nar .byte a) (fun _ => rfl) (fun _ => fN_ok _) h
    obtain ⟨z, hz, h⟩ := h
    exact so_wr2 hx hb hK hd hz h hi hv (fun mem1 H1 locs1 h2 hv1 => hgo _ _ _ _ _ _ _ _ h2 hp hv1 hl)
  · replace h := sUn_I (r := r) (g := fun a => vp_nar .boolean a) (fun _ => rfl) (fun _ => fN_ok _) h
    obtain ⟨z, hz, h⟩ := h
    exact so_wr3 hx hb hK hd hz h hi hv (fun mem1 H1 locs1 h2 hv1 => hgo _ _ _ _ _ _ _ _ h2 hp hv1 hl)

theorem so_gets0 (hx : p.tables.exec = Jvm.exec) (hb : c.code = cc) {own : String} {idx : Nat} (hown : s.vm.findClass own = some m.cls) (hst : sSt al A s s.heap) (hlink : (Cond.fieldLink own idx "SwapTables$Partitions" "BEGIN" "[I").before args s = true) (hd : decode cc pc = .ok (.getstatic idx, 3)) (hn : nx = pc + 3) : sStepOk (fun H locs g => W p l e R s m args below meth c H locs cells slots Q g) (sLv D cy A r al hid rest s.heap) m r al nL pc nx (oGets 0) := by
  intro go hgo L st pa mem H locs ls h hp hv hl
  subst hn
  have k := hgo _ _ _ _ _ _ _ _ h hp hv hl
  simp only [List.map_cons, sVal] at k
  exact va_gets hx hb hst.1 hv.2.2 hown hlink (fun _ h => h) hd k

theorem so_gets1 (hx : p.tables.exec = Jvm.exec) (hb : c.code = cc) {own : String} {idx : Nat} (hown : s.vm.findClass own = some m.cls) (hst : sSt al A s s.heap) (hlink : (Cond.fieldLink own idx "SwapTables$Partitions" "CODES" "[I").before args s = true) (hd : decode cc pc = .ok (.getstatic idx, 3)) (hn : nx = pc + 3) : sStepOk (fun H locs g => W p l e R s m args below meth c H locs cells slots Q g) (sLv D cy A r al hid rest s.heap) m r al nL pc nx (oGets 1) := by
  intro go hgo L st pa mem H locs ls h hp hv hl
  subst hn
  have k := hgo _ _ _ _ _ _ _ _ h hp hv hl
  simp only [List.map_cons, sVal] at k
  exact va_gets hx hb hst.2.2.1 hv.2.2 hown hlink (fun _ h => h) hd k

theorem sCopy_ok {src : List sV} {sp dp : Nat} : ∀ (n : Nat) (dst : List sV) (k : List sV → Bool), sCopy src sp dp n dst k = true → ∃ vs : List sV, k vs = true ∧ vs.length = dst.length ∧ (0 < n → sp + n ≤ src.length ∧ dp + n ≤ dst.length) ∧ ∀ j : Nat, vs[j]? = if dp ≤ j ∧ j < dp + n then src[sp + (j - dp)]? else dst[j]?
  | 0, dst, k, h => ⟨dst, h, rfl, fun q => absurd q (Nat.lt_irrefl 0), fun j => by rw [if_neg (by omega)]⟩
  | n + 1, dst, k, h => by
    have h0 : sGet src (Nat.add sp n) (fun v => sSet dst (Nat.add dp n) v (fun dst => sCopy src sp dp n dst k)) = true := h
    obtain ⟨v, h1, h2⟩ := sGet_ok _ _ _ h0
    obtain ⟨h3, h4⟩ := sSet_ok _ _ _ _ h2
    obtain ⟨vs, h5, h6, h7, h8⟩ := sCopy_ok n _ _ h4
    have h1' : src[sp + n]? = some v := h1
    have h3' : dp + n < dst.length := h3
    have hs : sp + n < src.length := (List.getElem?_eq_some_iff.mp h1').1
    refine ⟨vs, h5, by rw [h6, List.length_set], fun _ => ⟨by omega, by omega⟩, fun j => ?_⟩
    rw [h8 j]
    by_cases c1 : dp ≤ j ∧ j < dp + n
    · rw [if_pos c1, if_pos (by omega)]
    · rw [if_neg c1]
      show (dst.set (dp + n) v)[j]? = _
      rw [List.getElem?_set]
      by_cases c2 : dp + n = j
      · subst c2
        rw [if_pos rfl, if_pos h3', if_pos (by omega), show sp + (dp + n - dp) = sp + n by omega, h1']
      · rw [if_neg c2, if_neg (by omega)]

theorem sCats_ok {r : sE} {al : Nat → Nat} : ∀ st : List sV, ((st.map (sVal r al)).map fun v => v.category).sum = sCats st
  | [] => rfl
  | v :: st => by
    rw [List.map_cons, List.map_cons, List.sum_cons, sCats_ok st]
    have : (sVal r al v).category = sCat v := by
      rcases v with x | x | x | x <;> rfl
    rw [this]
    rfl

theorem so_abs (hx : p.tables.exec = Jvm.exec) (hb : c.code = cc) {own : String} {idx : Nat} (hml : c.maxLocals = nL) (hown : s.vm.findClass own = some m.cls) (hlink : (Cond.methodLink own idx Lib.MathLoose.abs_long.x).before args s = true) (hstat : (Cond.static Lib.MathLoose.abs_long.x).before args s = true) (hini : (Cond.initialized "java/lang/Math").before args s = true) (hcode : (Cond.code Lib.MathLoose.abs_long.x Lib.MathLoose.abs_long.code 2 (some .long)).before args s = true) (hfr : 1 ≤ R.frames) (hlo : 32 ≤ R.locals) (hcs : cells ≤ R.cells ∧ slots ≤ R.slots) (hd : decode cc pc = .ok (.invokestatic idx, 3)) (hn : nx = pc + 3) : sStepOk (fun H locs g => W p l e R s m args below meth c H locs cells slots Q g) (sLv D cy A r al hid rest s.heap) m r al nL pc nx oAbs := by
  intro go hgo L st pa mem H locs ls h hp hv hl
  subst hn
  replace h := sTL_ok h
  obtain ⟨x, st1, rfl, h⟩ := h
  replace h := sIf_ok h
  obtain ⟨hc8, h⟩ := h
  replace h := sUn_J (r := r) (g := fun a => if 0 < a then a else -a) (fun _ => rfl) (fun _ => gN_ok _) h
  obtain ⟨z, hz, h⟩ := h
  have k := hgo _ _ _ _ _ _ _ _ h hp hv hl
  simp only [List.map_cons, sVal] at k ⊢
  rw [hz] at k
  have hsum := sCats_ok (r := r) (al := al) st1
  have hle : sCats st1 ≤ 8 := Nat.le_of_ble_eq_true hc8
  exact va_mabs_long hx hb (hml.trans hl.1.symm) hown hlink hstat hini hcode hfr (by omega) hcs.1 hcs.2 hd k

theorem so_copy (hx : p.tables.exec = Jvm.exec) (hb : c.code = cc) {own : String} {idx : Nat} (hml : c.maxLocals = nL) (hown : s.vm.findClass own = some m.cls) (hlink : (Cond.methodLink own idx arraycopyName).before args s = true) (hnat : (Cond.native arraycopyName).before args s = true) (hstat : (Cond.static arraycopyName).before args s = true) (hini : (Cond.initialized "java/lang/System").before args s = true) (hK : va_K D vwCl (sT cy) s) (hfr : 1 ≤ R.frames) (hlo : 18 ≤ R.locals) (hd : decode cc pc = .ok (.invokestatic idx, 3)) (hn : nx = pc + 3) : sStepOk (fun H locs g => W p l e R s m args below meth c H locs cells slots Q g) (sLv D cy A r al hid rest s.heap) m r al nL pc nx oCopy := by
  intro go hgo L st pa mem H locs ls h hp hv hl
  subst hn
  replace h := sTI_ok h
  obtain ⟨x, st0, rfl, h⟩ := h
  replace h := sNum_ok h
  obtain ⟨n, rfl, h⟩ := h
  replace h := sIx_ok h
  obtain ⟨dp, q, st1, rfl, hdp, h⟩ := h
  replace h := sIx_ok h
  obtain ⟨sp, q0, st2, rfl, hsp, h⟩ := h
  replace h := sIf_ok h
  obtain ⟨hn1, h⟩ := h
  rw [Bool.and_eq_true] at hn1
  replace h := sNil_ok h
  obtain ⟨hem, h⟩ := h
  subst hem
  replace h := sCell_ok h
  obtain ⟨u0, v0, h0, h⟩ := h
  replace h := sCell_ok h
  obtain ⟨u, v1, h1, h⟩ := h
  obtain ⟨vs, h, e1, e2, e3⟩ := sCopy_ok _ _ _ h
  obtain ⟨h2, h3⟩ := sSet_ok _ _ _ _ h
  have hn2 : n ≤ 1000 := Nat.le_of_ble_eq_true hn1.1
  obtain ⟨e4, e5⟩ : sp + n ≤ v0.length ∧ dp + n ≤ v1.length := by
    by_cases hn3 : 0 < n
    · exact e2 hn3
    · rcases Bool.or_eq_true_iff.mp hn1.2 with q9 | q9
      · exact absurd (Nat.lt_of_succ_le (Nat.le_of_ble_eq_true q9)) hn3
      · rw [Bool.and_eq_true] at q9
        have z1 : sp = 0 := Nat.eq_of_beq_eq_true q9.1
        have z2 : dp = 0 := Nat.eq_of_beq_eq_true q9.2
        exact ⟨by omega, by omega⟩
  have cn : (Int32.ofNat n).toNatClampNeg = n := nI_clamp (by omega)
  have cd : (Int32.ofNat dp).toNatClampNeg = dp := nI_clamp hdp
  have cs : (Int32.ofNat sp).toNatClampNeg = sp := nI_clamp hsp
  have pos : ∀ i : Nat, i < 2 ^ 31 → ¬ Int32.ofNat i < 0 := fun i hi q => by
    rw [Int32.lt_iff_toInt_lt, show (Int32.ofNat i).toInt = (i : Int) from nI_toInt hi] at q
    simp at q
    omega
  simp only [List.map_cons, List.map_nil, sVal, sI, sD_c]
  have he0 := sW_get (r := r) (al := al) (cy := cy) (hid := hid) (rest := rest) h0
  have he1 := sW_get (r := r) (al := al) (cy := cy) (hid := hid) (rest := rest) h1
  have ef : va_cpy (fun j => sInt r v0[j]?) (fun j => sInt r v1[j]?) sp dp n = fun j => sInt r vs[j]? := by
    funext j
    unfold va_cpy
    rw [e3 j]
    by_cases c1 : dp ≤ j ∧ j < dp + n
    · rw [if_pos c1, if_pos c1]
    · rw [if_neg c1, if_neg c1]
  have hsz : ls.size = nL := hl.1
  refine va_copyi hx hb (by rw [hml, hsz]) hown hlink hnat hstat hini hK hv.1 hv.2.1 hv.2.2 q0 q 0 0 he0 he1 rfl rfl rfl (pos sp hsp) (pos dp hdp) (pos n (by omega)) (by rw [cs, cn]; exact e4) (by rw [cd, cn]; exact e5) (fun _ _ => rfl) hfr (show 0 + (nativeFrameWords "java/lang/System" "arraycopy" 5 + 11) ≤ R.locals from hlo) hd (fun H1 locs1 a1 a2 a3 => hgo _ _ _ _ _ _ _ _ h3 hp ⟨?_, ?_, a3⟩ hl)
  · rw [cn, cd, cs, ef, ← e1] at a1
    rw [← sW_set h2]
    simpa [sCe] using a1
  · rw [cn, cd, cs, ef, ← e1] at a2
    rw [← sW_set h2]
    simpa [sCe] using a2

end SO
