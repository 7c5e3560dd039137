/-! 13: a check of the program's rows against the class files -/
def sTw (i : Nat) (w : Cond) : Bool := decide (lw_tbl[i]? = some w) && goodWord w
theorem sTw_ok {i : Nat} {w : Cond} (h : sTw i w = true) : w ∈ sTb := by
  simp only [sTw, Bool.and_eq_true, decide_eq_true_eq] at h
  exact List.mem_filter.mpr ⟨List.mem_of_getElem? h.1, h.2⟩
def sTwN (i : Nat) (w : Cond) : Bool := decide (lw_tbl[i]? = some w) && sIsN w
theorem sTwN_ok {i : Nat} {w : Cond} (h : sTwN i w = true) : w ∈ sTn := by
  simp only [sTwN, Bool.and_eq_true, decide_eq_true_eq] at h
  exact List.mem_filter.mpr ⟨List.mem_of_getElem? h.1, h.2⟩
def sLinkB (own : String) (idx n aux : Nat) : Bool := match vwCl[n / 64]? with
  | some (_, T, N) => decide (n % 64 < N) && (sTw aux (.fieldLink own idx (T (n % 64)).1 (T (n % 64)).2.1 (T (n % 64)).2.2.1) || sTwN aux (.fieldLinkNest own idx (T (n % 64)).1 (T (n % 64)).2.1 (T (n % 64)).2.2.1 "SwapTables"))
  | none => false
theorem sLinkB_ok {own : String} {idx n aux : Nat} (h : sLinkB own idx n aux = true) : sLink own idx n := by
  unfold sLinkB at h
  split at h
  · rename_i C T N hq
    simp only [Bool.and_eq_true, decide_eq_true_eq, Bool.or_eq_true] at h
    exact ⟨C, T, N, hq, h.1, h.2.imp sTw_ok (fun q => ⟨_, sTwN_ok q⟩)⟩
  · cases h
def sLinkPB (own : String) (idx n aux : Nat) (ty : FieldType) : Bool := match vwCl[n / 64]? with
  | some (_, T, N) => decide (n % 64 < N) && ((sTw aux (.fieldLink own idx (T (n % 64)).1 (T (n % 64)).2.1 (T (n % 64)).2.2.1) || sTwN aux (.fieldLinkNest own idx (T (n % 64)).1 (T (n % 64)).2.1 (T (n % 64)).2.2.1 "SwapTables")) && (decide ((T (n % 64)).2.2.2 = false) && decide (parseFieldDescriptor (T (n % 64)).2.2.1 = some ty)))
  | none => false
theorem sLinkPB_ok {own : String} {idx n aux : Nat} {ty : FieldType} (h : sLinkPB own idx n aux ty = true) : sLinkP own idx n ty := by
  unfold sLinkPB at h
  split at h
  · rename_i C T N hq
    simp only [Bool.and_eq_true, decide_eq_true_eq, Bool.or_eq_true] at h
    exact ⟨C, T, N, hq, h.1, h.2.1.imp sTw_ok (fun q => ⟨_, sTwN_ok q⟩), h.2.2.1, h.2.2.2⟩
  · cases h
def sLinkMB (own : String) (idx aux : Nat) (y : MethodName) : Bool := sTw aux (.methodLink own idx y) || sTwN aux (.methodLinkNest own idx y "SwapTables")
theorem sLinkMB_ok {own : String} {idx aux : Nat} {y : MethodName} (h : sLinkMB own idx aux y = true) : sLinkM own idx y := by
  simp only [sLinkMB, Bool.or_eq_true] at h
  exact h.imp sTw_ok (fun q => ⟨_, sTwN_ok q⟩)
/-- those that stand as they are -/
def sSame (ir : Instr) : Bool := match ir with
  | .iadd => true | .isub => true | .imul => true | .iand => true | .ior => true | .ixor => true | .ishl => true | .ishr => true | .iushr => true | .irem => true | .ineg => true | .i2b => true | .l2i => true | .i2l => true | .lneg => true
  | .ladd => true | .lsub => true | .lmul => true | .lor => true | .lshr => true | .lushr => true | .ldiv => true | .lrem => true | .lcmp => true | .dup => true | .dup2 => true
  | .iaload => true | .baload => true | .laload => true | .aaload => true | .iastore => true | .bastore => true | .lastore => true | .arraylength => true | .return_ => true | .ireturn => true | .lreturn => true | .areturn => true
  | _ => false
def sActB (own : String) (pc : Nat) (ir : Instr) (aux : Nat) (act : Instr) (len : Nat) : Bool := match ir with
  | .ldc v => match act with
    | .iconst n => decide (len = 1) && decide (Int32.ofInt n = Int32.ofNat v)
    | .bipush n => decide (len = 2) && decide ((Int8.ofInt n).toInt32 = Int32.ofNat v)
    | .sipush n => decide (len = 3) && decide ((Int16.ofInt n).toInt32 = Int32.ofNat v)
    | .ldc i => decide (len = 2) && sTw aux (.constant own i (Int32.ofNat v))
    | .ldc_w i => decide (len = 3) && sTw aux (.constant own i (Int32.ofNat v))
    | _ => false
  | .ldc2_w v => match act with
    | .lconst n => decide (len = 1) && decide (Int64.ofNat (n : Nat) = Int64.ofNat v)
    | .ldc2_w i => decide (len = 3) && sTw aux (.constantLong own i (Int64.ofNat v))
    | _ => false
  | .iload i => match act with
    | .iload_n k => decide (len = 1) && decide ((k : Nat) = i)
    | .iload j => decide (len = 2) && decide (j = i)
    | _ => false
  | .lload i => match act with
    | .lload_n k => decide (len = 1) && decide ((k : Nat) = i)
    | .lload j => decide (len = 2) && decide (j = i)
    | _ => false
  | .aload i => match act with
    | .aload_n k => decide (len = 1) && decide ((k : Nat) = i)
    | .aload j => decide (len = 2) && decide (j = i)
    | _ => false
  | .istore i => match act with
    | .istore_n k => decide (len = 1) && decide ((k : Nat) = i)
    | .istore j => decide (len = 2) && decide (j = i)
    | _ => false
  | .lstore i => match act with
    | .lstore_n k => decide (len = 1) && decide ((k : Nat) = i)
    | .lstore j => decide (len = 2) && decide (j = i)
    | _ => false
  | .astore i => match act with
    | .astore_n k => decide (len = 1) && decide ((k : Nat) = i)
    | .astore j => decide (len = 2) && decide (j = i)
    | _ => false
  | .iinc i n => match act with
    | .iinc j n0 => decide (len = 3) && (decide (j = i) && (decide (n = Int.ofNat n.toNat) && decide (Int32.ofInt n0 = Int32.ofNat n.toNat)))
    | _ => false
  | .goto t => match act with
    | .goto off => decide (len = 3) && (decide (t = Int.ofNat t.toNat) && decide ((pc : Int) + off = t))
    | _ => false
  | .ifCond cn t => match act with
    | .ifCond cm off => decide (len = 3) && (decide (cm = cn) && (decide (t = Int.ofNat t.toNat) && decide ((pc : Int) + off = t)))
    | _ => false
  | .if_icmp cn t => match act with
    | .if_icmp cm off => decide (len = 3) && (decide (cm = cn) && (decide (t = Int.ofNat t.toNat) && decide ((pc : Int) + off = t)))
    | _ => false
  | .lookupswitch d ps => match act with
    | .lookupswitch dflt ps0 => decide (d = Int.ofNat d.toNat) && ((ps0.toList.zip (ps0.toList.drop 1)).all (fun (a, next) => a.1 < next.1) && (sPs pc ps0.toList ps.toList && decide ((pc : Int) + dflt = d)))
    | .tableswitch dflt lo hi offs => decide (d = Int.ofNat d.toNat) && (decide (lo + offs.toList.length = hi + 1) && (sPs pc (sTab lo offs.toList) ps.toList && decide ((pc : Int) + dflt = d)))
    | _ => false
  | .getfield n => match act with
    | .getfield idx => decide (len = 3) && sLinkB own idx n aux
    | _ => false
  | .putfield n => match act with
    | .putfield idx => decide (len = 3) && sLinkPB own idx n aux .int
    | _ => false
  | .putstatic n => match act with
    | .putfield idx => decide (len = 3) && sLinkPB own idx n aux .boolean
    | _ => false
  | .instanceof n => match act with
    | .putfield idx => decide (len = 3) && sLinkPB own idx n aux .long
    | _ => false
  | .getstatic j => match act with
    | .getstatic idx => decide (len = 3) && ((decide (j = 0) && sTw aux (.fieldLink own idx "SwapTables$Partitions" "BEGIN" "[I")) || (decide (j = 1) && sTw aux (.fieldLink own idx "SwapTables$Partitions" "CODES" "[I")))
    | _ => false
  | .invokedynamic j => match act with
    | .invokestatic idx => decide (len = 3) && ((decide (j = 0) && sTw aux (.methodLink own idx arraycopyName)) || (decide (j = 1) && sTw aux (.methodLink own idx Lib.MathLoose.abs_long.x)))
    | _ => false
  | .invokestatic k => match act with
    | .invokestatic idx => decide (len = 3) && (sLinkMB own idx aux (MI k).1 && decide ((PG k).2.2.2.1 = 99))
    | _ => false
  | .invokevirtual k => match act with
    | .invokevirtual idx => decide (len = 3) && (sLinkMB own idx aux (MI k).1 && decide ((PG k).2.2.2.1 ≠ 99))
    | _ => false
  | _ => sSame ir && (decide (act = ir) && decide (len = 1))
def sRelB (own : String) (cc : ByteArray) (q : sIn) : Bool := match q with
  | (pc, ir, nx, aux) => match decide (ir = .nop) with
    | true => true
    | false => match decode cc pc with
      | .ok (act, len) => decide (nx = pc + len) && sActB own pc ir aux act len
      | .error _ => false
set_option maxHeartbeats 4000000 in
theorem sRelB_ok {own : String} {cc : ByteArray} {q : sIn} (h : sRelB own cc q = true) : sRel MI PG own cc q := by
  obtain ⟨pc, ir, nx, aux⟩ := q
  cases h0 : decide (ir = Instr.nop) with
  | true =>
    have h1 : ir = .nop := of_decide_eq_true h0
    subst h1
    trivial
  | false =>
    unfold sRelB at h
    simp only [h0] at h
    split at h
    · rename_i act len hd
      simp only [Bool.and_eq_true, decide_eq_true_eq] at h
      obtain ⟨hn, h⟩ := h
      subst hn
      cases ir
      all_goals dsimp only [sActB] at h
      all_goals first
        | (simp only [sSame, Bool.and_eq_true, decide_eq_true_eq, Bool.false_eq_true, false_and] at h; done)
        | (simp only [sSame, Bool.and_eq_true, decide_eq_true_eq, true_and] at h
           obtain ⟨h1, h2⟩ := h
           subst h1 h2
           first | exact hd | exact ⟨hd, rfl⟩)
        | skip
      case ldc v =>
        split at h <;> simp only [Bool.and_eq_true, decide_eq_true_eq, Bool.false_eq_true] at h
        · exact Or.inl ⟨_, by rw [hd, h.1], by rw [h.1], h.2⟩
        · exact Or.inr (Or.inl ⟨_, by rw [hd, h.1], by rw [h.1], h.2⟩)
        · exact Or.inr (Or.inr (Or.inl ⟨_, by rw [hd, h.1], by rw [h.1], h.2⟩))
        · exact Or.inr (Or.inr (Or.inr (Or.inl ⟨_, by rw [hd, h.1], by rw [h.1], sTw_ok h.2⟩)))
        · exact Or.inr (Or.inr (Or.inr (Or.inr ⟨_, by rw [hd, h.1], by rw [h.1], sTw_ok h.2⟩)))
      case ldc2_w v =>
        split at h <;> simp only [Bool.and_eq_true, decide_eq_true_eq, Bool.false_eq_true] at h
        · exact Or.inl ⟨_, by rw [hd, h.1], by rw [h.1], h.2⟩
        · exact Or.inr ⟨_, by rw [hd, h.1], by rw [h.1], sTw_ok h.2⟩
      case iload i =>
        split at h <;> simp only [Bool.and_eq_true, decide_eq_true_eq, Bool.false_eq_true] at h
        · exact Or.inl ⟨_, by rw [hd, h.1], by rw [h.1], h.2⟩
        · exact Or.inr ⟨by rw [hd, h.1, h.2], by rw [h.1]⟩
      case lload i =>
        split at h <;> simp only [Bool.and_eq_true, decide_eq_true_eq, Bool.false_eq_true] at h
        · exact Or.inl ⟨_, by rw [hd, h.1], by rw [h.1], h.2⟩
        · exact Or.inr ⟨by rw [hd, h.1, h.2], by rw [h.1]⟩
      case aload i =>
        split at h <;> simp only [Bool.and_eq_true, decide_eq_true_eq, Bool.false_eq_true] at h
        · exact Or.inl ⟨_, by rw [hd, h.1], by rw [h.1], h.2⟩
        · exact Or.inr ⟨by rw [hd, h.1, h.2], by rw [h.1]⟩
      case istore i =>
        split at h <;> simp only [Bool.and_eq_true, decide_eq_true_eq, Bool.false_eq_true] at h
        · exact Or.inl ⟨_, by rw [hd, h.1], by rw [h.1], h.2⟩
        · exact Or.inr ⟨by rw [hd, h.1, h.2], by rw [h.1]⟩
      case lstore i =>
        split at h <;> simp only [Bool.and_eq_true, decide_eq_true_eq, Bool.false_eq_true] at h
        · exact Or.inl ⟨_, by rw [hd, h.1], by rw [h.1], h.2⟩
        · exact Or.inr ⟨by rw [hd, h.1, h.2], by rw [h.1]⟩
      case astore i =>
        split at h <;> simp only [Bool.and_eq_true, decide_eq_true_eq, Bool.false_eq_true] at h
        · exact Or.inl ⟨_, by rw [hd, h.1], by rw [h.1], h.2⟩
        · exact Or.inr ⟨by rw [hd, h.1, h.2], by rw [h.1]⟩
      case iinc i n =>
        split at h <;> simp only [Bool.and_eq_true, decide_eq_true_eq, Bool.false_eq_true] at h
        exact ⟨_, _, h.2.2.1, by rw [hd, h.1, h.2.1], by rw [h.1], h.2.2.2⟩
      case goto t =>
        split at h <;> simp only [Bool.and_eq_true, decide_eq_true_eq, Bool.false_eq_true] at h
        exact ⟨_, _, h.2.1, by rw [hd, h.1], h.2.2⟩
      case ifCond cn t =>
        split at h <;> simp only [Bool.and_eq_true, decide_eq_true_eq, Bool.false_eq_true] at h
        exact ⟨_, _, h.2.2.1, by rw [hd, h.1, h.2.1], by rw [h.1], h.2.2.2⟩
      case if_icmp cn t =>
        split at h <;> simp only [Bool.and_eq_true, decide_eq_true_eq, Bool.false_eq_true] at h
        exact ⟨_, _, h.2.2.1, by rw [hd, h.1, h.2.1], by rw [h.1], h.2.2.2⟩
      case lookupswitch d ps =>
        split at h
        · simp only [Bool.and_eq_true, decide_eq_true_eq] at h
          exact Or.inl ⟨_, _, _, _, h.1, hd, h.2.1, h.2.2.1, h.2.2.2⟩
        · simp only [Bool.and_eq_true, decide_eq_true_eq] at h
          exact Or.inr ⟨_, _, _, _, _, _, h.1, hd, h.2.1, h.2.2.1, h.2.2.2⟩
        · cases h
      case getfield n =>
        split at h <;> simp only [Bool.and_eq_true, decide_eq_true_eq, Bool.false_eq_true] at h
        exact ⟨_, by rw [hd, h.1], by rw [h.1], sLinkB_ok h.2⟩
      case putfield n =>
        split at h <;> simp only [Bool.and_eq_true, decide_eq_true_eq, Bool.false_eq_true] at h
        exact ⟨_, by rw [hd, h.1], by rw [h.1], sLinkPB_ok h.2⟩
      case putstatic n =>
        split at h <;> simp only [Bool.and_eq_true, decide_eq_true_eq, Bool.false_eq_true] at h
        exact ⟨_, by rw [hd, h.1], by rw [h.1], sLinkPB_ok h.2⟩
      case instanceof n =>
        split at h <;> simp only [Bool.and_eq_true, decide_eq_true_eq, Bool.false_eq_true] at h
        exact ⟨_, by rw [hd, h.1], by rw [h.1], sLinkPB_ok h.2⟩
      case getstatic j =>
        split at h <;> simp only [Bool.and_eq_true, decide_eq_true_eq, Bool.false_eq_true, Bool.or_eq_true] at h
        exact ⟨_, by rw [hd, h.1], by rw [h.1], h.2.imp (fun q => ⟨q.1, sTw_ok q.2⟩) (fun q => ⟨q.1, sTw_ok q.2⟩)⟩
      case invokedynamic j =>
        split at h <;> simp only [Bool.and_eq_true, decide_eq_true_eq, Bool.false_eq_true, Bool.or_eq_true] at h
        exact ⟨_, by rw [hd, h.1], by rw [h.1], h.2.imp (fun q => ⟨q.1, sTw_ok q.2⟩) (fun q => ⟨q.1, sTw_ok q.2⟩)⟩
      case invokestatic k =>
        split at h <;> simp only [Bool.and_eq_true, decide_eq_true_eq, Bool.false_eq_true] at h
        exact ⟨_, by rw [hd, h.1], by rw [h.1], sLinkMB_ok h.2.1, h.2.2⟩
      case invokevirtual k =>
        split at h <;> simp only [Bool.and_eq_true, decide_eq_true_eq, Bool.false_eq_true] at h
        exact ⟨_, by rw [hd, h.1], by rw [h.1], sLinkMB_ok h.2.1, h.2.2⟩
    · cases h
noncomputable def sAllR {α : Type} (P : α → Bool) (t : Lean.RArray α) : Bool := Lean.RArray.rec (motive := fun _ => Bool) P (fun _ _ _ a b => Bool.and a b) t
theorem sAllR_ok {α : Type} {P : α → Bool} (t : Lean.RArray α) (h : sAllR P t = true) (k : Nat) : P (t.get k) = true := by
  induction t with
  | leaf a => exact h
  | branch q a b iha ihb =>
    have h2 : Bool.and (sAllR P a) (sAllR P b) = true := h
    rw [Bool.and_eq_true] at h2
    show P (Bool.rec (a.get k) (b.get k) (Nat.ble q k)) = true
    cases Nat.ble q k with
    | true => exact ihb h2.2
    | false => exact iha h2.1
theorem sAll_l {α : Type} {P : α → Bool} {a : α} (h : P a = true) : ∀ k, P ((Lean.RArray.leaf a).get k) = true := fun _ => h
theorem sAll_b {α : Type} {P : α → Bool} {q : Nat} {a b : Lean.RArray α} (ha : ∀ k, P (a.get k) = true) (hb : ∀ k, P (b.get k) = true) : ∀ k, P ((Lean.RArray.branch q a b).get k) = true := fun k => by
  show P (Bool.rec (a.get k) (b.get k) (Nat.ble q k)) = true
  cases Nat.ble q k with
  | true => exact hb k
  | false => exact ha k
def sMokB (me : sMe) (mi : sMi) (t : Nat × Nat × Nat × Nat) : Bool := sTw t.1 (.code mi.1 mi.2.1 mi.2.2.1 mi.2.2.2) && (sTw t.2.1 (.initialized mi.1.cls) && (decide (mi.1.cls ≠ "java/lang/invoke/MethodHandle" ∧ mi.1.cls ≠ "java/lang/invoke/VarHandle") && (plainName mi.1.cls && (decide (me.2.1 = mi.2.2.1) && (decide (mi.2.2.1 + 19 ≤ 64) &&
  (((decide (me.2.2.2.1 = 99) && (sTw t.2.2.1 (.static mi.1) && decide ((parseMethodDescriptor mi.1.desc).map (fun d => d.parameters.length) = some me.2.2.1))) ||
   (decide (me.2.2.2.1 ≠ 99) && (sTw t.2.2.1 (.instanceMethod mi.1) && (sTw t.2.2.2 (.selects mi.1.cls mi.1 mi.1) && (decide ((vwCl[me.2.2.2.1]?).map (fun q => q.1) = some mi.1.cls) && decide ((parseMethodDescriptor mi.1.desc).map (fun d => d.parameters.length + 1) = some me.2.2.1)))))) &&
  ((decide (me.2.2.2.2 = 0) && decide (mi.2.2.2 = none)) || ((decide (me.2.2.2.2 = 1) && decide (mi.2.2.2 = some .int)) || ((decide (me.2.2.2.2 = 2) && decide (mi.2.2.2 = some .boolean)) || ((decide (me.2.2.2.2 = 3) && decide (mi.2.2.2 = some .long)) || (decide (me.2.2.2.2 = 4) && (match mi.2.2.2 with
    | some (.object _) => true
    | some (.array _) => true
    | _ => false))))))))))))
noncomputable def sCk (q : sMe × sMi × (Nat × Nat × Nat × Nat)) : Bool := sMokB q.1 q.2.1 q.2.2 && sAllR (sRelB q.2.1.1.cls q.2.1.2.1) q.1.1
theorem sMokB_ok {me : sMe} {mi : sMi} {t : Nat × Nat × Nat × Nat} (h : sMokB me mi t = true) : sMok me mi := by
  simp only [sMokB, Bool.and_eq_true, Bool.or_eq_true, decide_eq_true_eq] at h
  obtain ⟨h1, h2, h3, h4, h5, h6, h7, h8⟩ := h
  refine ⟨sTw_ok h1, sTw_ok h2, h3, h4, h5, h6, ?_, ?_⟩
  · rcases h7 with ⟨a, b, c⟩ | ⟨a, b, c, d, e⟩
    · exact Or.inl ⟨a, sTw_ok b, c⟩
    · refine Or.inr ⟨a, sTw_ok b, sTw_ok c, ?_, ?_⟩
      · obtain ⟨⟨C, T, N⟩, q1, q2⟩ := Option.map_eq_some_iff.mp d
        exact ⟨T, N, by rw [q1, ← q2]⟩
      · obtain ⟨q, q1, q2⟩ := Option.map_eq_some_iff.mp e
        exact ⟨q.parameters.length, by rw [q1]; rfl, q2.symm⟩
  · rcases h8 with h | h | h | h | ⟨h, g⟩
    · exact Or.inl h
    · exact Or.inr (Or.inl h)
    · exact Or.inr (Or.inr (Or.inl h))
    · exact Or.inr (Or.inr (Or.inr (Or.inl h)))
    · refine Or.inr (Or.inr (Or.inr (Or.inr ⟨h, ?_⟩)))
      split at g
      · rename_i n q
        exact ⟨_, q, Or.inl ⟨n, rfl⟩⟩
      · rename_i n q
        exact ⟨_, q, Or.inr ⟨n, rfl⟩⟩
      · cases g
theorem sCk_ok {k : Nat} (h : sCk (PMt.get k) = true) : sMok (PG k) (MI k) ∧ ∀ pc, sRel MI PG (MI k).1.cls (MI k).2.1 ((PG k).1.get pc) := by
  unfold sCk at h
  rw [Bool.and_eq_true] at h
  exact ⟨sMokB_ok h.1, fun pc => sRelB_ok (sAllR_ok _ h.2 pc)⟩
