/-! 20: the executor of makers is sound -/
def sRelC (MC : Nat → sMi) (own nm : String) (cc : ByteArray) (q : sIn) : Prop := match q with
  | (pc, ir, nx, aux) => match ir with
    | .new ci => ∃ idx C T N, decode cc pc = .ok (.new idx, 3) ∧ nx = pc + 3 ∧ ci < 12 ∧ vwCl[ci]? = some (C, T, N) ∧ Cond.classLink own idx C ∈ sTb ∧ Cond.instantiable C N ∈ sTb ∧ Cond.initialized C ∈ sTb
    | .newarray t => decode cc pc = .ok (.newarray t, 2) ∧ nx = pc + 2
    | .anewarray _ => ∃ idx, decode cc pc = .ok (.anewarray idx, 3) ∧ nx = pc + 3 ∧ Cond.classLink own idx "SwapTables$Shelf" ∈ sTb
    | .multianewarray _ _ => ∃ idx, decode cc pc = .ok (.multianewarray idx 2, 4) ∧ nx = pc + 4 ∧ Cond.classLink own idx "[[I" ∈ sTb
    | .aastore => decode cc pc = .ok (.aastore, 1) ∧ nx = pc + 1
    | .checkcast n => ∃ idx C T N ty, decode cc pc = .ok (.putfield idx, 3) ∧ nx = pc + 3 ∧ vwCl[n / 64]? = some (C, T, N) ∧ n % 64 < N ∧ Cond.fieldLink own idx (T (n % 64)).1 (T (n % 64)).2.1 (T (n % 64)).2.2.1 ∈ sTb ∧ (T (n % 64)).2.2.2 = true ∧ (T (n % 64)).1 = own ∧ parseFieldDescriptor (T (n % 64)).2.2.1 = some ty ∧ ((∃ n, ty = .object n) ∨ ∃ t, ty = .array t) ∧ nm = "<init>"
    | .pop => ∃ idx, decode cc pc = .ok (.invokespecial idx, 3) ∧ nx = pc + 3 ∧ Cond.methodLink own idx Lib.objectInit ∈ sTb
    | .invokespecial k => ∃ idx, decode cc pc = .ok (.invokespecial idx, 3) ∧ nx = pc + 3 ∧ sLinkM own idx (MC k).1 ∧ (MC k).1.name = "<init>"
    | .invokestatic k => ∃ idx, decode cc pc = .ok (.invokestatic idx, 3) ∧ nx = pc + 3 ∧ ((k = 67 ∧ sLinkM own idx (MC k).1 ∧ (MC k).1.name ≠ "<init>") ∨ (k ≠ 67 ∧ sLinkM own idx (MI k).1 ∧ (PG k).2.2.2.1 = 99))
    | .invokevirtual k => ∃ idx, decode cc pc = .ok (.invokevirtual idx, 3) ∧ nx = pc + 3 ∧ k ≠ 67 ∧ sLinkM own idx (MI k).1 ∧ (PG k).2.2.2.1 ≠ 99
    | ir => sRel MI PG own cc (pc, ir, nx, aux)
def sMokC (me : sMc) (mi : sMi) : Prop := Cond.code mi.1 mi.2.1 mi.2.2.1 mi.2.2.2 ∈ sTb ∧ Cond.initialized mi.1.cls ∈ sTb ∧ (mi.1.cls ≠ "java/lang/invoke/MethodHandle" ∧ mi.1.cls ≠ "java/lang/invoke/VarHandle") ∧ plainName mi.1.cls = true ∧ me.2.1 = mi.2.2.1 ∧ mi.2.2.1 + 19 ≤ 64 ∧
  ((mi.1.name = "<init>" ∧ Cond.instanceMethod mi.1 ∈ sTb ∧ (∃ n, (parseMethodDescriptor mi.1.desc).map (fun d => d.parameters.length) = some n ∧ me.2.2.1 = n + 1) ∧ me.2.2.2.1 = 0 ∧ mi.2.2.2 = none) ∨
   (mi.1.name ≠ "<init>" ∧ Cond.static mi.1 ∈ sTb ∧ (parseMethodDescriptor mi.1.desc).map (fun d => d.parameters.length) = some me.2.2.1 ∧ me.2.2.2.1 = 4 ∧ ∃ rt, mi.2.2.2 = some rt ∧ ((∃ n, rt = .object n) ∨ ∃ t, rt = .array t)))
def sGoodC (MC : Nat → sMi) (PC : Nat → sMc) : Prop := ∀ k, sMokC (PC k) (MC k) ∧ ∀ pc, sRelC MC (MC k).1.cls (MC k).1.name (MC k).2.1 ((PC k).1.get pc)
/-- words for making -/
def sMkw : Prop := Cond.instanceMethod Lib.objectInit ∈ sTb ∧ Cond.code Lib.objectInit ⟨#[0xb1]⟩ 1 none ∈ sTb ∧ Cond.arrayClass .int ∈ sTb ∧ Cond.arrayClass .byte ∈ sTb ∧ Cond.arrayClass .boolean ∈ sTb ∧ Cond.arrayClass .long ∈ sTb
def sFldC : Prop := ∀ (ci : Nat) (C : String) (T : u_T) (N : Nat), vwCl[ci]? = some (C, T, N) → N = sNn ci ∧ ∀ k, k < N → parseFieldDescriptor (T k).2.2.1 = some (sTy ci k)
def sRmC (d mc ms : Nat) : Room := { frames := d + 1, cells := mc, slots := ms, locals := 64 * (d + 1) }
def sAO (U : State) : Prop := va_AO "SwapTables$Shelf" U ∧ va_AOA .int U
theorem va_AOA.alike {t : FieldType} {u U : State} (hvm : u.vm.Alike U.vm) (h : va_AOA t u) : va_AOA t U := over_moved hvm h
def sQcC (D : va_G) (cy : Nat → ClassId) (hid : Nat → va_E) (rest : va_W) (r : sE) (al : Nat → Nat) (N : Nat) (A : Nat → Prop) (kr : sKr) : Array Value → State → Outcome → State → Prop := fun _ st o t => (∃ (al2 : Nat → Nat) (v : Option sV) (pa : List sK) (mem : sM), sAg N al al2 ∧ kr v pa mem = true ∧ sPa r pa ∧ o = .returned (v.map (sVal r al2)) ∧ va_P D vwCl (sW r al2 cy hid rest mem) t.heap ∧ va_K D vwCl (sT cy) t ∧ va_D A (sW r al2 cy hid rest mem)) ∧ va_F A st t
def sPreC (D : va_G) (cy : Nat → ClassId) (hid : Nat → va_E) (rest : va_W) (r : sE) (al : Nat → Nat) (mem : sM) (sz : Nat) (U : State) : Prop := sPre D cy hid rest r al mem sz U ∧ sAO U
theorem sPreC_blind {D : va_G} {cy : Nat → ClassId} {hid : Nat → va_E} {rest : va_W} {r : sE} {al : Nat → Nat} {mem : sM} {sz : Nat} {av : List Value} : FrameBlind (va_Pc av (sPreC D cy hid rest r al mem sz)) := fun a U g mk q => by
  obtain ⟨q0, q1, q2, q3⟩ := q
  have h1 := sPre_blind (av := av) a U g mk ⟨q0, q1⟩
  exact ⟨q0, h1.2, va_AO.moved (u := U) (U := U.calling g mk a) (Vm.Alike.refl U.vm) q2, va_AOA.alike (u := U) (U := U.calling g mk a) (Vm.Alike.refl U.vm) q3⟩
def sMetC (MC : Nat → sMi) (PC : Nat → sMc) (l : Launch) (D : va_G) (cy : Nat → ClassId) (hid : Nat → va_E) (rest : va_W) (r : sE) (al : Nat → Nat) (d k : Nat) (mem : sM) (as : List sV) (kr : sKr) : Prop :=
  ∀ sz : Nat, Met l (MC k).1 (Cond.code (MC k).1 (MC k).2.1 (MC k).2.2.1 (MC k).2.2.2 :: sTb) (sRmC d (PC k).2.2.2.2.1 (PC k).2.2.2.2.2) (va_Pc (as.map (sVal r al)) (sPreC D cy hid rest r al mem sz)) (sQcC D cy hid rest r al mem.length (va_A (sW r al cy hid rest mem) sz) kr) (PC k).2.2.2.2.1 (PC k).2.2.2.2.2 (va_A (sW r al cy hid rest mem) sz)
def sCy (MC : Nat → sMi) (PC : Nat → sMc) (k d : Nat) (D : va_G) (cy : Nat → ClassId) (A : Nat → Prop) (p : Program) (R : Room) (s : State) (m : MethodId) (args : Array Value) (meth : Method) (c : Code) : Prop :=
  p.tables.exec = Jvm.exec ∧ c.code = (MC k).2.1 ∧ c.maxLocals = (MC k).2.2.1 ∧ s.vm.findClass (MC k).1.cls = some m.cls ∧ (∀ w ∈ sTb, w.before args s = true) ∧ sNw s ∧ va_K D vwCl (sT cy) s ∧ sAO s ∧ (∀ q, s.heap.size ≤ q → A q) ∧ d + 1 ≤ R.frames ∧ 64 * (d + 1) ≤ R.locals ∧ R.cells = (PC k).2.2.2.2.1 ∧ R.slots = (PC k).2.2.2.2.2 ∧ meth.sig.returnType = (MC k).2.2.2 ∧ meth.locks = false ∧ meth.name = (MC k).1.name
theorem sSt.ag {al al2 : Nat → Nat} {n : Nat} (h : sAg n al al2) {A : Nat → Prop} {U : State} {H : Heap} (hs : sSt al A U H) : sSt al2 A U H := by
  unfold sSt at hs ⊢
  rw [h 1000000 (Or.inr (Nat.le_refl _)), h 1000001 (Or.inr (by omega))]
  exact hs
theorem sAg.rf (n : Nat) (al : Nat → Nat) : sAg n al al := fun _ _ => rfl
theorem sAg.trans {n n2 : Nat} {a b c : Nat → Nat} (h1 : sAg n a b) (hn : n ≤ n2) (h2 : sAg n2 b c) : sAg n a c := fun i hi => (h2 i (hi.imp (fun q => Nat.lt_of_lt_of_le q hn) id)).trans (h1 i hi)
section SYO
variable {D : va_G} {cy : Nat → ClassId} {r : sE} {hid : Nat → va_E} {rest : va_W}
theorem s_callC {p : Program} {l : Launch} {e : Env} {R : Room} {s : State} {m : MethodId} {args : Array Value} {below : List Frame} {meth : Method} {c : Code} {H : Heap} {locs : List Loc} {Q : State → Prop} {pc cells slots mc ms N : Nat} {ls : Array Slot} {st0 rs : List Value} {a : Array Value} {A A1 free : Nat → Prop} {kr : sKr} {al : Nat → Nat}
    (hr : va_Run p l e R s m args below meth c H locs cells slots mc ms (F0 m pc ls st0) rs (sQcC D cy hid rest r al N A1 kr a) free) (hS : va_S A s.heap H locs) (hA : ∀ q, q < H.size → A1 q → A q) (hf : ∀ q, free q → A q)
    (kk : ∀ (al2 : Nat → Nat) (v : Option sV) (pa : List sK) (mem : sM) (H1 : Heap) (locs1 : List Loc), sAg N al al2 → kr v pa mem = true → sPa r pa → va_P D vwCl (sW r al2 cy hid rest mem) H1 → va_D A1 (sW r al2 cy hid rest mem) → va_S A s.heap H1 locs1 → W p l e R s m args below meth c H1 locs1 (cells + mc) (slots + ms) Q (F0 m (pc + 3) ls ((v.map (sVal r al2)).toList ++ rs))) : W p l e R s m args below meth c H locs cells slots Q (F0 m pc ls st0) := by
  intro T hT X
  obtain ⟨v, st₀, t, T', L, h0, X', hL, e1, e2, ⟨⟨al2, v1, pa, mem, k0, k1, k2, hv, k3, k4, k5⟩, hz, hk⟩, st⟩ := hr T hT X
  cases hv
  rw [h0] at hz hk
  obtain ⟨t2, a1, b1⟩ := kk al2 v1 pa mem T'.heap (locs ++ L) k0 k1 k2 (by rw [e1]; exact k3) k5
    ⟨Nat.le_trans hS.1 (by rw [e1]; exact hz), fun q h1 h2 => by rw [e1, hk q (Nat.lt_of_lt_of_le h1 hS.1) (fun z => h2 (hA q (Nat.lt_of_lt_of_le h1 hS.1) z))]; exact hS.2.1 q h1 h2, fun q hq => by
      rcases List.mem_append.mp hq with h | h
      · exact hS.2.2 q h
      · exact hf _ (hL q h)⟩ T' rfl X'
  exact ⟨t2, st t2 a1, b1⟩
def sYok (MC : Nat → sMi) (PC : Nat → sMc) (FX : Nat) (l : Launch) (D : va_G) (cy : Nat → ClassId) (hid : Nat → va_E) (rest : va_W) (r : sE) (n : Nat) : Prop :=
  ∀ (k d N0 : Nat) (al0 : Nat → Nat) (A : Nat → Prop) (p : Program) (e : Env) (R : Room) (s : State) (m : MethodId) (args : Array Value) (below : List Frame) (meth : Method) (c : Code) (Qc : Array Value → State → Outcome → State → Prop) (free : Addr → Prop) (kr : sKr),
    sCy MC PC k d D cy A p R s m args meth c → sSt al0 A s s.heap →
    (∀ (al : Nat → Nat) (v : Option sV) (pa : List sK) (mem : sM) (H : Heap) (locs : List Loc), sAg N0 al0 al → kr v pa mem = true → sPa r pa → sLv D cy A r al hid rest s.heap mem H locs → ∀ t : State, t.heap = H → s.WarmedH t.vm → Qc args s (.returned (v.map (sVal r al))) t) →
    (∀ q, A q → free q) →
    ∀ (al : Nat → Nat), sAg N0 al0 al → ∀ (pc : Nat) (L : sL) (st : List sV) (pa : List sK) (mem : sM) (nc ns : Nat) (H : Heap) (locs : List Loc) (ls : Array Slot), sy PC FX n d (PC k) N0 kr pc L st pa mem nc ns = true → nc ≤ (PC k).2.2.2.2.1 → ns ≤ (PC k).2.2.2.2.2 → sPa r pa → sLv D cy A r al hid rest s.heap mem H locs → sLo r al ls (MC k).2.2.1 L →
      W p l e R s m args below meth c H locs nc ns (MQ below Qc args s (PC k).2.2.2.2.1 (PC k).2.2.2.2.2 free) (F0 m pc ls (st.map (sVal r al)))
theorem sMetC_of {MC : Nat → sMi} {PC : Nat → sMc} {FX : Nat} {l : Launch} (hG : sGoodC MC PC) {n : Nat} (hW : sYok MC PC FX l D cy hid rest r n) {k d : Nat} {mem : sM} {as : List sV} {pa : List sK} {kr : sKr} {al : Nat → Nat} (hp : sPa r pa) (h : sEnt as (PC k).2.1 (fun L => sy PC FX n d (PC k) mem.length kr (nat_lit 0) L [] pa mem (nat_lit 0) (nat_lit 0)) = true) : sMetC MC PC l D cy hid rest r al d k mem as kr := by
  intro sz
  obtain ⟨⟨c1, c2, c3, c4, c5, c6, c7⟩, -⟩ := hG k
  refine Met.ofW (cc := (MC k).2.1) (maxL := (MC k).2.2.1) (ret := (MC k).2.2.2) c4 rfl ?_
  intro p e s m args below meth c s₁ B hml hv
  obtain ⟨rfl, ⟨hsz, hP, hK, hD0, hst, hNw⟩, hAO⟩ := hv
  subst hsz
  have hts := atoms_spec (ws := Cond.code (MC k).1 (MC k).2.1 (MC k).2.2.1 (MC k).2.2.2 :: sTb) B.pre
  have hown : s.vm.findClass (MC k).1.cls = some m.cls := findClass_of_methodNamed B.named
  have hD := hD0.self (sz := s.heap.size)
  have hA : ∀ q : Nat, s.heap.size ≤ q → va_A (sW r al cy hid rest mem) s.heap.size q := fun q h => Or.inr h
  obtain ⟨L, h1, h2, h3, h4⟩ := sEnt_ok (r := r) (al := al) _ _ _ h
  rw [c5] at h2 h3
  have hl := lv_entry (as.map (sVal r al)) (n := (MC k).2.2.1) h3
  rw [lg_entry_eq]
  generalize (lg_sl (as.map (sVal r al)) ++ List.replicate ((MC k).2.2.1 - (lg_sl (as.map (sVal r al))).length) Slot.unset).toArray = ls at hl ⊢
  have hlo : sLo r al ls (MC k).2.2.1 L := ⟨hl.1, hl.2.1, fun i v q => hl.2.2 (i, sVal r al v) (by have := h4 0 i v q; rwa [Nat.zero_add] at this), h2⟩
  have X : sCy MC PC k d D cy (va_A (sW r al cy hid rest mem) s.heap.size) p (headSpec (Cond.code (MC k).1 (MC k).2.1 (MC k).2.2.1 (MC k).2.2.2 :: sTb) (sRmC d (PC k).2.2.2.2.1 (PC k).2.2.2.2.2)).room s m (as.map (sVal r al)).toArray meth c :=
    ⟨B.exec, B.bytes, hml, hown, fun w h => hts w (List.mem_cons_of_mem _ h), hNw, hK, hAO, hA, Nat.le_refl _, Nat.le_refl _, rfl, rfl, B.returns, B.notSynchronized, (name_of_methodNamed B.named B.method).1⟩
  refine hW k d mem.length al _ p e _ s m _ below meth c _ _ kr X hst ?_ (fun q h => h) al (sAg.rf _ _) 0 L [] pa mem 0 0 s.heap [] ls h1 (Nat.zero_le _) (Nat.zero_le _) hp ⟨hP, hD, va_S.rf⟩ hlo
  intro al2 v pa1 mem1 H1 locs1 q0 q1 q2 q3 t ht hw
  exact ⟨⟨al2, v, pa1, mem1, q0, q1, q2, rfl, by rw [ht]; exact q3.1, va_K.moved hw.alike hK, q3.2.1⟩, q3.2.2.F ht⟩
end SYO
