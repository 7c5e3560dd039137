/-! 10: every step, and the whole (by wip/whole/mk10.py) -/
/-- the classes' fields, as the rows of fields want them -/
def sFld : Prop := ∀ (ci : Nat) (C : String) (T : u_T) (N : Nat), vwCl[ci]? = some (C, T, N) → (∀ w ∈ u_ws C T N, w ∈ sTb) ∧ ∃ ty0 : Nat → FieldType, (∀ k, k < N → parseFieldDescriptor (T k).2.2.1 = some (ty0 k)) ∧ ∀ a, a < N → ∀ b, b < N → a ≠ b → (T a).2.1 ≠ (T b).2.1
/-- words for arraycopy -/
def sCpw : Prop := Cond.native arraycopyName ∈ sTb ∧ Cond.static arraycopyName ∈ sTb ∧ Cond.initialized "java/lang/System" ∈ sTb ∧ Cond.static Lib.MathLoose.abs_long.x ∈ sTb ∧ Cond.initialized "java/lang/Math" ∈ sTb ∧ Cond.code Lib.MathLoose.abs_long.x Lib.MathLoose.abs_long.code 2 (some .long) ∈ sTb
section SA
variable {p : Program} {l : Launch} {e : Env} {R : Room} {s : State} {m : MethodId} {args : Array Value} {below : List Frame} {meth : Method} {c : Code} {cells slots : Nat} {Q : State → Prop}
variable {cc : ByteArray} {nL : Nat} {D : va_G} {cy : Nat → ClassId} {A : Nat → Prop} {r : sE} {al : Nat → Nat} {hid : Nat → va_E} {rest : va_W}
set_option maxHeartbeats 4000000 in
theorem so_all {MI : Nat → sMi} {PG : Nat → sMe} (hF : sFld) (hC : sCpw) (hx : p.tables.exec = Jvm.exec) (hb : c.code = cc) (hml : c.maxLocals = nL) {own : String} (hown : s.vm.findClass own = some m.cls) (hts : ∀ w ∈ sTb, w.before args s = true) (hNw : sNw s) (hK : va_K D vwCl (sT cy) s) (hst : sSt al A s s.heap) (hfr : 1 ≤ R.frames) (hlo : 32 ≤ R.locals) (hcs : cells ≤ R.cells ∧ slots ≤ R.slots) {pc nx aux : Nat} {ir : Instr} (hrel : sRel MI PG own cc (pc, ir, nx, aux)) {h : sFun} (hh : sOp ir = .inl h) : sStepOk (fun H locs g => W p l e R s m args below meth c H locs cells slots Q g) (sLv D cy A r al hid rest s.heap) m r al nL pc nx h := by
  cases ir
  all_goals first | exact False.elim hrel | skip
  case iadd => cases hh; exact so_iadd hx hb hrel.1 hrel.2
  case isub => cases hh; exact so_isub hx hb hrel.1 hrel.2
  case imul => cases hh; exact so_imul hx hb hrel.1 hrel.2
  case iand => cases hh; exact so_iand hx hb hrel.1 hrel.2
  case ior => cases hh; exact so_ior hx hb hrel.1 hrel.2
  case ixor => cases hh; exact so_ixor hx hb hrel.1 hrel.2
  case ishl => cases hh; exact so_ishl hx hb hrel.1 hrel.2
  case ishr => cases hh; exact so_ishr hx hb hrel.1 hrel.2
  case iushr => cases hh; exact so_iushr hx hb hrel.1 hrel.2
  case irem => cases hh; exact so_irem hx hb hrel.1 hrel.2
  case ineg => cases hh; exact so_ineg hx hb hrel.1 hrel.2
  case i2b => cases hh; exact so_i2b hx hb hrel.1 hrel.2
  case l2i => cases hh; exact so_l2i hx hb hrel.1 hrel.2
  case i2l => cases hh; exact so_i2l hx hb hrel.1 hrel.2
  case lneg => cases hh; exact so_lneg hx hb hrel.1 hrel.2
  case ladd => cases hh; exact so_ladd hx hb hrel.1 hrel.2
  case lsub => cases hh; exact so_lsub hx hb hrel.1 hrel.2
  case lmul => cases hh; exact so_lmul hx hb hrel.1 hrel.2
  case lor => cases hh; exact so_lor hx hb hrel.1 hrel.2
  case lshr => cases hh; exact so_lshr hx hb hrel.1 hrel.2
  case lushr => cases hh; exact so_lushr hx hb hrel.1 hrel.2
  case ldiv => cases hh; exact so_ldiv hx hb hrel.1 hrel.2
  case lrem => cases hh; exact so_lrem hx hb hrel.1 hrel.2
  case lcmp => cases hh; exact so_lcmp hx hb hrel.1 hrel.2
  case dup => cases hh; exact so_dup hx hb hrel.1 hrel.2
  case dup2 => cases hh; exact so_dup2 hx hb hrel.1 hrel.2
  case baload => cases hh; exact so_baload hx hb hK hrel.1 hrel.2
  case laload => cases hh; exact so_laload hx hb hK hrel.1 hrel.2
  case aaload => cases hh; exact so_aaload hx hb hK hrel.1 hrel.2
  case iastore => cases hh; exact so_iastore hx hb hK hrel.1 hrel.2
  case bastore => cases hh; exact so_bastore hx hb hK hrel.1 hrel.2
  case lastore => cases hh; exact so_lastore hx hb hK hrel.1 hrel.2
  case arraylength => cases hh; exact so_arraylength hx hb hK hrel.1 hrel.2
  case iaload => cases hh; exact so_iaload hx hb hK hst hrel.1 hrel.2
  case ldc v =>
    cases hh
    rcases hrel with ⟨n, h1, h2, h3⟩ | ⟨n, h1, h2, h3⟩ | ⟨n, h1, h2, h3⟩ | ⟨n, h1, h2, h3⟩ | ⟨n, h1, h2, h3⟩
    · exact so_iconst hx hb h1 h2 h3
    · exact so_bipush hx hb h1 h2 h3
    · exact so_sipush hx hb h1 h2 h3
    · exact so_ldc hx hb hown h1 h2 (hts _ h3)
    · exact so_ldcw hx hb hown h1 h2 (hts _ h3)
  case ldc2_w v =>
    cases hh
    rcases hrel with ⟨n, h1, h2, h3⟩ | ⟨n, h1, h2, h3⟩
    · exact so_lconst hx hb h1 h2 h3
    · exact so_ldc2 hx hb hown h1 h2 (hts _ h3)
  case iload i =>
    cases hh
    rcases hrel with ⟨k, h1, h2, h3⟩ | ⟨h1, h2⟩
    · exact so_iload_n hx hb h1 h2 h3
    · exact so_iload hx hb h1 h2
  case lload i =>
    cases hh
    rcases hrel with ⟨k, h1, h2, h3⟩ | ⟨h1, h2⟩
    · exact so_lload_n hx hb h1 h2 h3
    · exact so_lload hx hb h1 h2
  case aload i =>
    cases hh
    rcases hrel with ⟨k, h1, h2, h3⟩ | ⟨h1, h2⟩
    · exact so_aload_n hx hb h1 h2 h3
    · exact so_aload hx hb h1 h2
  case istore i =>
    cases hh
    rcases hrel with ⟨k, h1, h2, h3⟩ | ⟨h1, h2⟩
    · exact so_istore_n hx hb h1 h2 h3
    · exact so_istore hx hb h1 h2
  case lstore i =>
    cases hh
    rcases hrel with ⟨k, h1, h2, h3⟩ | ⟨h1, h2⟩
    · exact so_lstore_n hx hb h1 h2 h3
    · exact so_lstore hx hb h1 h2
  case astore i =>
    cases hh
    rcases hrel with ⟨k, h1, h2, h3⟩ | ⟨h1, h2⟩
    · exact so_astore_n hx hb h1 h2 h3
    · exact so_astore hx hb h1 h2
  case iinc i n =>
    obtain ⟨n0, v, rfl, h1, h2, h3⟩ := hrel
    cases hh
    exact so_iinc hx hb h1 h2 h3
  case goto t =>
    obtain ⟨off, v, rfl, h1, h2⟩ := hrel
    cases hh
    exact so_goto hx hb h1 h2
  case ifCond cn t =>
    obtain ⟨off, v, rfl, h1, h2, h3⟩ := hrel
    cases hh
    exact so_if hx hb h1 h2 h3
  case if_icmp cn t =>
    obtain ⟨off, v, rfl, h1, h2, h3⟩ := hrel
    cases hh
    exact so_if2 hx hb h1 h2 h3
  case lookupswitch d ps =>
    rcases hrel with ⟨dflt, ps0, len, v, rfl, h1, h2, h3, h4⟩ | ⟨dflt, lo, hi, offs, len, v, rfl, h1, h2, h3, h4⟩
    · cases hh
      exact so_look hx hb h1 h2 h3 h4
    · cases hh
      exact so_table hx hb h1 h2 h3 h4
  case getfield n =>
    cases hh
    obtain ⟨idx, h1, h2, C, T, N, h3, h4, h5⟩ := hrel
    exact so_getf hx hb hts hK hown h3 h4 (hF _ _ _ _ h3).1 (h5.imp (hts _) (fun ⟨host, q⟩ => ⟨host, hNw.use q⟩)) h1 h2
  case putfield n =>
    cases hh
    obtain ⟨idx, h1, h2, C, T, N, h3, h4, h5, h6, h7⟩ := hrel
    exact so_putI hx hb hts hK hown h3 h4 (hF _ _ _ _ h3).1 (h5.imp (hts _) (fun ⟨host, q⟩ => ⟨host, hNw.use q⟩)) (hF _ _ _ _ h3).2 h6 h1 h2 h7
  case putstatic n =>
    cases hh
    obtain ⟨idx, h1, h2, C, T, N, h3, h4, h5, h6, h7⟩ := hrel
    exact so_putZ hx hb hts hK hown h3 h4 (hF _ _ _ _ h3).1 (h5.imp (hts _) (fun ⟨host, q⟩ => ⟨host, hNw.use q⟩)) (hF _ _ _ _ h3).2 h6 h1 h2 h7
  case instanceof n =>
    cases hh
    obtain ⟨idx, h1, h2, C, T, N, h3, h4, h5, h6, h7⟩ := hrel
    exact so_putJ hx hb hts hK hown h3 h4 (hF _ _ _ _ h3).1 (h5.imp (hts _) (fun ⟨host, q⟩ => ⟨host, hNw.use q⟩)) (hF _ _ _ _ h3).2 h6 h1 h2 h7
  case getstatic j =>
    cases hh
    obtain ⟨idx, h1, h2, h3⟩ := hrel
    rcases h3 with ⟨rfl, h3⟩ | ⟨rfl, h3⟩
    · exact so_gets0 hx hb hown hst (hts _ h3) h1 h2
    · exact so_gets1 hx hb hown hst (hts _ h3) h1 h2
  case invokedynamic j =>
    cases hh
    obtain ⟨idx, h1, h2, h3⟩ := hrel
    rcases h3 with ⟨rfl, h3⟩ | ⟨rfl, h3⟩
    · exact so_copy hx hb hml hown (hts _ h3) (hts _ hC.1) (hts _ hC.2.1) (hts _ hC.2.2.1) hK hfr (by omega) h1 h2
    · exact so_abs hx hb hml hown (hts _ h3) (hts _ hC.2.2.2.1) (hts _ hC.2.2.2.2.1) (hts _ hC.2.2.2.2.2) hfr hlo hcs h1 h2
  all_goals cases hh
end SA
