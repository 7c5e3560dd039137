/-! 09: the executor is sound: what it says of a method is the method's contract -/

theorem sTb_in {w : Cond} (h : w ∈ sTb) : w ∈ lw_tbl := (List.mem_filter.mp h).1
theorem lw_goodIn {w : Cond} (h : w ∈ sTb) : GoodIn sTb (w :: sTb) := fun v hv => by
  have hm : v ∈ sTb := by
    rcases List.mem_cons.mp hv with rfl | hv
    · exact h
    · exact hv
  exact ⟨hm, good_of_word (List.mem_filter.mp hm).2⟩
def sRm (d : Nat) : Room := { frames := d + 1, cells := 0, slots := 0, locals := 64 * (d + 1) }
def sQc (D : va_G) (cy : Nat → ClassId) (hid : Nat → va_E) (rest : va_W) (r : sE) (al : Nat → Nat) (A : Nat → Prop) (kr : sKr) : Array Value → State → Outcome → State → Prop := fun _ st o t => (∃ (v : Option sV) (pa : List sK) (mem : sM), kr v pa mem = true ∧ sPa r pa ∧ o = .returned (v.map (sVal r al)) ∧ va_P D vwCl (sW r al cy hid rest mem) t.heap ∧ va_K D vwCl (sT cy) t ∧ va_D A (sW r al cy hid rest mem)) ∧ va_F A st t
def sPre (D : va_G) (cy : Nat → ClassId) (hid : Nat → va_E) (rest : va_W) (r : sE) (al : Nat → Nat) (mem : sM) (sz : Nat) (U : State) : Prop := U.heap.size = sz ∧ va_P D vwCl (sW r al cy hid rest mem) U.heap ∧ va_K D vwCl (sT cy) U ∧ va_D (fun _ => True) (sW r al cy hid rest mem) ∧ sSt al (va_A (sW r al cy hid rest mem) sz) U U.heap ∧ sNw U
theorem sPre_blind {D : va_G} {cy : Nat → ClassId} {hid : Nat → va_E} {rest : va_W} {r : sE} {al : Nat → Nat} {mem : sM} {sz : Nat} {av : List Value} : FrameBlind (va_Pc av (sPre D cy hid rest r al mem sz)) := fun a U g mk q => by
  obtain ⟨q0, q1, q2, q3, q4, q5, q6⟩ := q
  exact ⟨q0, q1, q2, va_K.moved (u := U) (U := U.calling g mk a) (Vm.Alike.refl U.vm) q3, q4, sSt.moved (u := U) (U := U.calling g mk a) (Vm.Alike.refl U.vm) q5, sNw.same (u := U) (U := U.calling g mk a) rfl q6⟩
/-- what a call needs of the method called -/
def sMok (me : sMe) (mi : sMi) : Prop := Cond.code mi.1 mi.2.1 mi.2.2.1 mi.2.2.2 ∈ sTb ∧ Cond.initialized mi.1.cls ∈ sTb ∧ (mi.1.cls ≠ "java/lang/invoke/MethodHandle" ∧ mi.1.cls ≠ "java/lang/invoke/VarHandle") ∧ plainName mi.1.cls = true ∧ me.2.1 = mi.2.2.1 ∧ mi.2.2.1 + 19 ≤ 64 ∧
  ((me.2.2.2.1 = 99 ∧ Cond.static mi.1 ∈ sTb ∧ (parseMethodDescriptor mi.1.desc).map (fun d => d.parameters.length) = some me.2.2.1) ∨
   (me.2.2.2.1 ≠ 99 ∧ Cond.instanceMethod mi.1 ∈ sTb ∧ Cond.selects mi.1.cls mi.1 mi.1 ∈ sTb ∧ (∃ T N, vwCl[me.2.2.2.1]? = some (mi.1.cls, T, N)) ∧ ∃ n, (parseMethodDescriptor mi.1.desc).map (fun d => d.parameters.length) = some n ∧ me.2.2.1 = n + 1)) ∧
  ((me.2.2.2.2 = 0 ∧ mi.2.2.2 = none) ∨ (me.2.2.2.2 = 1 ∧ mi.2.2.2 = some .int) ∨ (me.2.2.2.2 = 2 ∧ mi.2.2.2 = some .boolean) ∨ (me.2.2.2.2 = 3 ∧ mi.2.2.2 = some .long) ∨ (me.2.2.2.2 = 4 ∧ ∃ rt, mi.2.2.2 = some rt ∧ ((∃ n, rt = .object n) ∨ ∃ t, rt = .array t)))
/-- an instruction's row is what the code has there -/
def sLink (own : String) (idx n : Nat) : Prop := ∃ C T N, vwCl[n / 64]? = some (C, T, N) ∧ n % 64 < N ∧ (Cond.fieldLink own idx (T (n % 64)).1 (T (n % 64)).2.1 (T (n % 64)).2.2.1 ∈ sTb ∨ ∃ host, Cond.fieldLinkNest own idx (T (n % 64)).1 (T (n % 64)).2.1 (T (n % 64)).2.2.1 host ∈ sTn)
def sLinkP (own : String) (idx n : Nat) (ty : FieldType) : Prop := ∃ C T N, vwCl[n / 64]? = some (C, T, N) ∧ n % 64 < N ∧ (Cond.fieldLink own idx (T (n % 64)).1 (T (n % 64)).2.1 (T (n % 64)).2.2.1 ∈ sTb ∨ ∃ host, Cond.fieldLinkNest own idx (T (n % 64)).1 (T (n % 64)).2.1 (T (n % 64)).2.2.1 host ∈ sTn) ∧ (T (n % 64)).2.2.2 = false ∧ parseFieldDescriptor (T (n % 64)).2.2.1 = some ty
def sLinkM (own : String) (idx : Nat) (y : MethodName) : Prop := Cond.methodLink own idx y ∈ sTb ∨ ∃ host, Cond.methodLinkNest own idx y host ∈ sTn
def sRel (MI : Nat → sMi) (PG : Nat → sMe) (own : String) (cc : ByteArray) (q : sIn) : Prop := match q with
  | (pc, ir, nx, _) => match ir with
    | .ldc v => (∃ n, decode cc pc = .ok (.iconst n, 1) ∧ nx = pc + 1 ∧ Int32.ofInt n = Int32.ofNat v) ∨ (∃ n, decode cc pc = .ok (.bipush n, 2) ∧ nx = pc + 2 ∧ (Int8.ofInt n).toInt32 = Int32.ofNat v) ∨ (∃ n, decode cc pc = .ok (.sipush n, 3) ∧ nx = pc + 3 ∧ (Int16.ofInt n).toInt32 = Int32.ofNat v) ∨ (∃ i, decode cc pc = .ok (.ldc i, 2) ∧ nx = pc + 2 ∧ Cond.constant own i (Int32.ofNat v) ∈ sTb) ∨ (∃ i, decode cc pc = .ok (.ldc_w i, 3) ∧ nx = pc + 3 ∧ Cond.constant own i (Int32.ofNat v) ∈ sTb)
    | .ldc2_w v => (∃ n, decode cc pc = .ok (.lconst n, 1) ∧ nx = pc + 1 ∧ Int64.ofNat (n : Nat) = Int64.ofNat v) ∨ (∃ i, decode cc pc = .ok (.ldc2_w i, 3) ∧ nx = pc + 3 ∧ Cond.constantLong own i (Int64.ofNat v) ∈ sTb)
    | .iload i => (∃ k : Fin 4, decode cc pc = .ok (.iload_n k, 1) ∧ nx = pc + 1 ∧ (k : Nat) = i) ∨ (decode cc pc = .ok (.iload i, 2) ∧ nx = pc + 2)
    | .lload i => (∃ k : Fin 4, decode cc pc = .ok (.lload_n k, 1) ∧ nx = pc + 1 ∧ (k : Nat) = i) ∨ (decode cc pc = .ok (.lload i, 2) ∧ nx = pc + 2)
    | .aload i => (∃ k : Fin 4, decode cc pc = .ok (.aload_n k, 1) ∧ nx = pc + 1 ∧ (k : Nat) = i) ∨ (decode cc pc = .ok (.aload i, 2) ∧ nx = pc + 2)
    | .istore i => (∃ k : Fin 4, decode cc pc = .ok (.istore_n k, 1) ∧ nx = pc + 1 ∧ (k : Nat) = i) ∨ (decode cc pc = .ok (.istore i, 2) ∧ nx = pc + 2)
    | .lstore i => (∃ k : Fin 4, decode cc pc = .ok (.lstore_n k, 1) ∧ nx = pc + 1 ∧ (k : Nat) = i) ∨ (decode cc pc = .ok (.lstore i, 2) ∧ nx = pc + 2)
    | .astore i => (∃ k : Fin 4, decode cc pc = .ok (.astore_n k, 1) ∧ nx = pc + 1 ∧ (k : Nat) = i) ∨ (decode cc pc = .ok (.astore i, 2) ∧ nx = pc + 2)
    | .iinc i n => ∃ n0 v, n = Int.ofNat v ∧ decode cc pc = .ok (.iinc i n0, 3) ∧ nx = pc + 3 ∧ Int32.ofInt n0 = Int32.ofNat v
    | .goto t => ∃ off v, t = Int.ofNat v ∧ decode cc pc = .ok (.goto off, 3) ∧ (pc : Int) + off = t
    | .ifCond cn t => ∃ off v, t = Int.ofNat v ∧ decode cc pc = .ok (.ifCond cn off, 3) ∧ nx = pc + 3 ∧ (pc : Int) + off = t
    | .if_icmp cn t => ∃ off v, t = Int.ofNat v ∧ decode cc pc = .ok (.if_icmp cn off, 3) ∧ nx = pc + 3 ∧ (pc : Int) + off = t
    | .lookupswitch d ps => (∃ dflt ps0 len v, d = Int.ofNat v ∧ decode cc pc = .ok (.lookupswitch dflt ps0, len) ∧ (ps0.toList.zip (ps0.toList.drop 1)).all (fun (a, next) => a.1 < next.1) = true ∧ sPs pc ps0.toList ps.toList = true ∧ (pc : Int) + dflt = d) ∨ (∃ dflt lo hi offs len v, d = Int.ofNat v ∧ decode cc pc = .ok (.tableswitch dflt lo hi offs, len) ∧ lo + offs.toList.length = hi + 1 ∧ sPs pc (sTab lo offs.toList) ps.toList = true ∧ (pc : Int) + dflt = d)
    | .getfield n => ∃ idx, decode cc pc = .ok (.getfield idx, 3) ∧ nx = pc + 3 ∧ sLink own idx n
    | .putfield n => ∃ idx, decode cc pc = .ok (.putfield idx, 3) ∧ nx = pc + 3 ∧ sLinkP own idx n .int
    | .putstatic n => ∃ idx, decode cc pc = .ok (.putfield idx, 3) ∧ nx = pc + 3 ∧ sLinkP own idx n .boolean
    | .instanceof n => ∃ idx, decode cc pc = .ok (.putfield idx, 3) ∧ nx = pc + 3 ∧ sLinkP own idx n .long
    | .getstatic j => ∃ idx, decode cc pc = .ok (.getstatic idx, 3) ∧ nx = pc + 3 ∧ ((j = 0 ∧ Cond.fieldLink own idx "SwapTables$Partitions" "BEGIN" "[I" ∈ sTb) ∨ (j = 1 ∧ Cond.fieldLink own idx "SwapTables$Partitions" "CODES" "[I" ∈ sTb))
    | .invokedynamic j => ∃ idx, decode cc pc = .ok (.invokestatic idx, 3) ∧ nx = pc + 3 ∧ ((j = 0 ∧ Cond.methodLink own idx arraycopyName ∈ sTb) ∨ (j = 1 ∧ Cond.methodLink own idx Lib.MathLoose.abs_long.x ∈ sTb))
    | .invokestatic k => ∃ idx, decode cc pc = .ok (.invokestatic idx, 3) ∧ nx = pc + 3 ∧ sLinkM own idx (MI k).1 ∧ (PG k).2.2.2.1 = 99
    | .invokevirtual k => ∃ idx, decode cc pc = .ok (.invokevirtual idx, 3) ∧ nx = pc + 3 ∧ sLinkM own idx (MI k).1 ∧ (PG k).2.2.2.1 ≠ 99
    | .nop => True
    | .return_ => decode cc pc = .ok (.return_, 1)
    | .ireturn => decode cc pc = .ok (.ireturn, 1)
    | .lreturn => decode cc pc = .ok (.lreturn, 1)
    | .areturn => decode cc pc = .ok (.areturn, 1)
    | .iadd => decode cc pc = .ok (.iadd, 1) ∧ nx = pc + 1
    | .isub => decode cc pc = .ok (.isub, 1) ∧ nx = pc + 1
    | .imul => decode cc pc = .ok (.imul, 1) ∧ nx = pc + 1
    | .iand => decode cc pc = .ok (.iand, 1) ∧ nx = pc + 1
    | .ior => decode cc pc = .ok (.ior, 1) ∧ nx = pc + 1
    | .ixor => decode cc pc = .ok (.ixor, 1) ∧ nx = pc + 1
    | .ishl => decode cc pc = .ok (.ishl, 1) ∧ nx = pc + 1
    | .ishr => decode cc pc = .ok (.ishr, 1) ∧ nx = pc + 1
    | .iushr => decode cc pc = .ok (.iushr, 1) ∧ nx = pc + 1
    | .irem => decode cc pc = .ok (.irem, 1) ∧ nx = pc + 1
    | .ineg => decode cc pc = .ok (.ineg, 1) ∧ nx = pc + 1
    | .i2b => decode cc pc = .ok (.i2b, 1) ∧ nx = pc + 1
    | .l2i => decode cc pc = .ok (.l2i, 1) ∧ nx = pc + 1
    | .i2l => decode cc pc = .ok (.i2l, 1) ∧ nx = pc + 1
    | .lneg => decode cc pc = .ok (.lneg, 1) ∧ nx = pc + 1
    | .ladd => decode cc pc = .ok (.ladd, 1) ∧ nx = pc + 1
    | .lsub => decode cc pc = .ok (.lsub, 1) ∧ nx = pc + 1
    | .lmul => decode cc pc = .ok (.lmul, 1) ∧ nx = pc + 1
    | .lor => decode cc pc = .ok (.lor, 1) ∧ nx = pc + 1
    | .lshr => decode cc pc = .ok (.lshr, 1) ∧ nx = pc + 1
    | .lushr => decode cc pc = .ok (.lushr, 1) ∧ nx = pc + 1
    | .ldiv => decode cc pc = .ok (.ldiv, 1) ∧ nx = pc + 1
    | .lrem => decode cc pc = .ok (.lrem, 1) ∧ nx = pc + 1
    | .lcmp => decode cc pc = .ok (.lcmp, 1) ∧ nx = pc + 1
    | .dup => decode cc pc = .ok (.dup, 1) ∧ nx = pc + 1
    | .dup2 => decode cc pc = .ok (.dup2, 1) ∧ nx = pc + 1
    | .iaload => decode cc pc = .ok (.iaload, 1) ∧ nx = pc + 1
    | .baload => decode cc pc = .ok (.baload, 1) ∧ nx = pc + 1
    | .laload => decode cc pc = .ok (.laload, 1) ∧ nx = pc + 1
    | .aaload => decode cc pc = .ok (.aaload, 1) ∧ nx = pc + 1
    | .iastore => decode cc pc = .ok (.iastore, 1) ∧ nx = pc + 1
    | .bastore => decode cc pc = .ok (.bastore, 1) ∧ nx = pc + 1
    | .lastore => decode cc pc = .ok (.lastore, 1) ∧ nx = pc + 1
    | .arraylength => decode cc pc = .ok (.arraylength, 1) ∧ nx = pc + 1
    | _ => False
/-- the whole program is what the class files have -/
def sGood (MI : Nat → sMi) (PG : Nat → sMe) : Prop := ∀ k, sMok (PG k) (MI k) ∧ ∀ pc, sRel MI PG (MI k).1.cls (MI k).2.1 ((PG k).1.get pc)
theorem sPop_ok : ∀ (n : Nat) (st as : List sV) (k : List sV → List sV → Bool), sPop n st as k = true → ∃ bs st1, st = bs.reverse ++ st1 ∧ bs.length = n ∧ k (bs ++ as) st1 = true
  | 0, st, as, k, h => ⟨[], st, rfl, rfl, h⟩
  | n + 1, st, as, k, h => by
    obtain ⟨v, st1, rfl, h1⟩ := sTop_ok (show sTop st (fun v st => sPop n st (v :: as) k) = true from h)
    obtain ⟨bs, st2, rfl, h2, h3⟩ := sPop_ok n st1 (v :: as) k h1
    exact ⟨bs ++ [v], st2, by simp, by simp [h2], by simpa using h3⟩
